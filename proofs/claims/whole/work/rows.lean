section
-- ===== PART A: goes FIRST, ahead of the names: the tables' words, and 'selects' of the private methods out of them =====
/-- a private method of a class that the tables say can be made, by its rows of tables_1 -/
def lw_okq (q : MethodName × Nat) : Prop := (q.1.cls ≠ "java/lang/invoke/MethodHandle" ∧ q.1.cls ≠ "java/lang/invoke/VarHandle") ∧ Cond.instantiable q.1.cls q.2 ∈ tables_1 ∧ Cond.privateMethod q.1 ∈ tables_1 ∧ Cond.instanceMethod q.1 ∈ tables_1
theorem lw_p0 : lw_okq (⟨"WhisperSeats", "finding", "(I)I"⟩, 8) := ⟨⟨by decide +kernel, by decide +kernel⟩, List.mem_of_getElem? (i := 21) (by decide +kernel), List.mem_of_getElem? (i := 226) (by decide +kernel), List.mem_of_getElem? (i := 227) (by decide +kernel)⟩
theorem lw_p1 : lw_okq (⟨"WhisperSeats$Park", "bring", "(III)V"⟩, 6) := ⟨⟨by decide +kernel, by decide +kernel⟩, List.mem_of_getElem? (i := 72) (by decide +kernel), List.mem_of_getElem? (i := 435) (by decide +kernel), List.mem_of_getElem? (i := 436) (by decide +kernel)⟩
theorem lw_p2 : lw_okq (⟨"WhisperSeats$Park", "sitOn", "(I)I"⟩, 6) := ⟨⟨by decide +kernel, by decide +kernel⟩, List.mem_of_getElem? (i := 72) (by decide +kernel), List.mem_of_getElem? (i := 456) (by decide +kernel), List.mem_of_getElem? (i := 457) (by decide +kernel)⟩
theorem lw_p3 : lw_okq (⟨"WhisperSeats$Park", "fill", "(II)V"⟩, 6) := ⟨⟨by decide +kernel, by decide +kernel⟩, List.mem_of_getElem? (i := 72) (by decide +kernel), List.mem_of_getElem? (i := 462) (by decide +kernel), List.mem_of_getElem? (i := 463) (by decide +kernel)⟩
theorem lw_p4 : lw_okq (⟨"WhisperSeats", "firstHour", "(III)I"⟩, 8) := ⟨⟨by decide +kernel, by decide +kernel⟩, List.mem_of_getElem? (i := 21) (by decide +kernel), List.mem_of_getElem? (i := 496) (by decide +kernel), List.mem_of_getElem? (i := 497) (by decide +kernel)⟩
theorem lw_p5 : lw_okq (⟨"WhisperSeats", "isSoAhead", "(III)Z"⟩, 8) := ⟨⟨by decide +kernel, by decide +kernel⟩, List.mem_of_getElem? (i := 21) (by decide +kernel), List.mem_of_getElem? (i := 500) (by decide +kernel), List.mem_of_getElem? (i := 501) (by decide +kernel)⟩
theorem lw_p6 : lw_okq (⟨"WhisperSeats", "areTwo", "(II)Z"⟩, 8) := ⟨⟨by decide +kernel, by decide +kernel⟩, List.mem_of_getElem? (i := 21) (by decide +kernel), List.mem_of_getElem? (i := 513) (by decide +kernel), List.mem_of_getElem? (i := 514) (by decide +kernel)⟩
theorem lw_p7 : lw_okq (⟨"WhisperSeats", "learntAs", "(III)I"⟩, 8) := ⟨⟨by decide +kernel, by decide +kernel⟩, List.mem_of_getElem? (i := 21) (by decide +kernel), List.mem_of_getElem? (i := 521) (by decide +kernel), List.mem_of_getElem? (i := 522) (by decide +kernel)⟩
theorem lw_p8 : lw_okq (⟨"WhisperSeats", "leastOfBest", "(I)I"⟩, 8) := ⟨⟨by decide +kernel, by decide +kernel⟩, List.mem_of_getElem? (i := 21) (by decide +kernel), List.mem_of_getElem? (i := 526) (by decide +kernel), List.mem_of_getElem? (i := 527) (by decide +kernel)⟩
theorem lw_p9 : lw_okq (⟨"WhisperSeats", "heardWithout", "(III)I"⟩, 8) := ⟨⟨by decide +kernel, by decide +kernel⟩, List.mem_of_getElem? (i := 21) (by decide +kernel), List.mem_of_getElem? (i := 534) (by decide +kernel), List.mem_of_getElem? (i := 535) (by decide +kernel)⟩
theorem lw_p10 : lw_okq (⟨"WhisperSeats", "spreadFrom", "(III)I"⟩, 8) := ⟨⟨by decide +kernel, by decide +kernel⟩, List.mem_of_getElem? (i := 21) (by decide +kernel), List.mem_of_getElem? (i := 542) (by decide +kernel), List.mem_of_getElem? (i := 543) (by decide +kernel)⟩
theorem lw_p11 : lw_okq (⟨"WhisperSeats", "believedIfTurned", "(II)I"⟩, 8) := ⟨⟨by decide +kernel, by decide +kernel⟩, List.mem_of_getElem? (i := 21) (by decide +kernel), List.mem_of_getElem? (i := 558) (by decide +kernel), List.mem_of_getElem? (i := 559) (by decide +kernel)⟩
theorem lw_p12 : lw_okq (⟨"WhisperSeats$Tape", "advance", "()V"⟩, 6) := ⟨⟨by decide +kernel, by decide +kernel⟩, List.mem_of_getElem? (i := 145) (by decide +kernel), List.mem_of_getElem? (i := 590) (by decide +kernel), List.mem_of_getElem? (i := 591) (by decide +kernel)⟩
theorem lw_p13 : lw_okq (⟨"WhisperSeats$Tape", "takeWord", "()V"⟩, 6) := ⟨⟨by decide +kernel, by decide +kernel⟩, List.mem_of_getElem? (i := 145) (by decide +kernel), List.mem_of_getElem? (i := 597) (by decide +kernel), List.mem_of_getElem? (i := 598) (by decide +kernel)⟩
theorem lw_p14 : lw_okq (⟨"WhisperSeats$Tape", "takeNumber", "()V"⟩, 6) := ⟨⟨by decide +kernel, by decide +kernel⟩, List.mem_of_getElem? (i := 145) (by decide +kernel), List.mem_of_getElem? (i := 604) (by decide +kernel), List.mem_of_getElem? (i := 605) (by decide +kernel)⟩
theorem lw_p15 : lw_okq (⟨"WhisperSeats$Tape", "tellItem", "(LWhisperSeats$Park;)Z"⟩, 6) := ⟨⟨by decide +kernel, by decide +kernel⟩, List.mem_of_getElem? (i := 145) (by decide +kernel), List.mem_of_getElem? (i := 609) (by decide +kernel), List.mem_of_getElem? (i := 610) (by decide +kernel)⟩
def lw_privs_1 : List (MethodName × Nat) := [(⟨"WhisperSeats", "finding", "(I)I"⟩, 8), (⟨"WhisperSeats$Park", "bring", "(III)V"⟩, 6), (⟨"WhisperSeats$Park", "sitOn", "(I)I"⟩, 6), (⟨"WhisperSeats$Park", "fill", "(II)V"⟩, 6), (⟨"WhisperSeats", "firstHour", "(III)I"⟩, 8), (⟨"WhisperSeats", "isSoAhead", "(III)Z"⟩, 8), (⟨"WhisperSeats", "areTwo", "(II)Z"⟩, 8), (⟨"WhisperSeats", "learntAs", "(III)I"⟩, 8), (⟨"WhisperSeats", "leastOfBest", "(I)I"⟩, 8), (⟨"WhisperSeats", "heardWithout", "(III)I"⟩, 8), (⟨"WhisperSeats", "spreadFrom", "(III)I"⟩, 8), (⟨"WhisperSeats", "believedIfTurned", "(II)I"⟩, 8), (⟨"WhisperSeats$Tape", "advance", "()V"⟩, 6), (⟨"WhisperSeats$Tape", "takeWord", "()V"⟩, 6), (⟨"WhisperSeats$Tape", "takeNumber", "()V"⟩, 6), (⟨"WhisperSeats$Tape", "tellItem", "(LWhisperSeats$Park;)Z"⟩, 6)]
theorem lw_r1 : ∀ q ∈ lw_privs_1, lw_okq q := List.forall_mem_cons.mpr ⟨lw_p0, List.forall_mem_cons.mpr ⟨lw_p1, List.forall_mem_cons.mpr ⟨lw_p2, List.forall_mem_cons.mpr ⟨lw_p3, List.forall_mem_cons.mpr ⟨lw_p4, List.forall_mem_cons.mpr ⟨lw_p5, List.forall_mem_cons.mpr ⟨lw_p6, List.forall_mem_cons.mpr ⟨lw_p7, List.forall_mem_cons.mpr ⟨lw_p8, List.forall_mem_cons.mpr ⟨lw_p9, List.forall_mem_cons.mpr ⟨lw_p10, List.forall_mem_cons.mpr ⟨lw_p11, List.forall_mem_cons.mpr ⟨lw_p12, List.forall_mem_cons.mpr ⟨lw_p13, List.forall_mem_cons.mpr ⟨lw_p14, List.forall_mem_cons.mpr ⟨lw_p15, fun _ h => absurd h List.not_mem_nil⟩⟩⟩⟩⟩⟩⟩⟩⟩⟩⟩⟩⟩⟩⟩⟩
theorem lw_p16 : lw_okq (⟨"WhisperSeats$Tape", "isWord", "(Ljava/lang/String;)Z"⟩, 6) := ⟨⟨by decide +kernel, by decide +kernel⟩, List.mem_of_getElem? (i := 145) (by decide +kernel), List.mem_of_getElem? (i := 622) (by decide +kernel), List.mem_of_getElem? (i := 623) (by decide +kernel)⟩
theorem lw_p17 : lw_okq (⟨"WhisperSeats$Tape", "tellVisitor", "(LWhisperSeats$Park;I)Z"⟩, 6) := ⟨⟨by decide +kernel, by decide +kernel⟩, List.mem_of_getElem? (i := 145) (by decide +kernel), List.mem_of_getElem? (i := 675) (by decide +kernel), List.mem_of_getElem? (i := 676) (by decide +kernel)⟩
theorem lw_p18 : lw_okq (⟨"WhisperSeats$Tape", "tellKnown", "(LWhisperSeats$Visitor;)Z"⟩, 6) := ⟨⟨by decide +kernel, by decide +kernel⟩, List.mem_of_getElem? (i := 145) (by decide +kernel), List.mem_of_getElem? (i := 682) (by decide +kernel), List.mem_of_getElem? (i := 683) (by decide +kernel)⟩
theorem lw_p19 : lw_okq (⟨"WhisperSeats$Tape", "isNumberBelow", "(I)Z"⟩, 6) := ⟨⟨by decide +kernel, by decide +kernel⟩, List.mem_of_getElem? (i := 145) (by decide +kernel), List.mem_of_getElem? (i := 686) (by decide +kernel), List.mem_of_getElem? (i := 687) (by decide +kernel)⟩
theorem lw_p20 : lw_okq (⟨"WhisperSeats$Tape", "tellSeat", "(LWhisperSeats$Park;LWhisperSeats$Visitor;)Z"⟩, 6) := ⟨⟨by decide +kernel, by decide +kernel⟩, List.mem_of_getElem? (i := 145) (by decide +kernel), List.mem_of_getElem? (i := 691) (by decide +kernel), List.mem_of_getElem? (i := 692) (by decide +kernel)⟩
theorem lw_p21 : lw_okq (⟨"WhisperSeats$Tape", "tellSecret", "(LWhisperSeats$Park;Z)Z"⟩, 6) := ⟨⟨by decide +kernel, by decide +kernel⟩, List.mem_of_getElem? (i := 145) (by decide +kernel), List.mem_of_getElem? (i := 698) (by decide +kernel), List.mem_of_getElem? (i := 699) (by decide +kernel)⟩
theorem lw_p22 : lw_okq (⟨"WhisperSeats", "faultOfSheet", "(I)I"⟩, 8) := ⟨⟨by decide +kernel, by decide +kernel⟩, List.mem_of_getElem? (i := 21) (by decide +kernel), List.mem_of_getElem? (i := 720) (by decide +kernel), List.mem_of_getElem? (i := 721) (by decide +kernel)⟩
theorem lw_p23 : lw_okq (⟨"WhisperSeats$Sheet", "cut", "(J)J"⟩, 3) := ⟨⟨by decide +kernel, by decide +kernel⟩, List.mem_of_getElem? (i := 173) (by decide +kernel), List.mem_of_getElem? (i := 733) (by decide +kernel), List.mem_of_getElem? (i := 734) (by decide +kernel)⟩
theorem lw_p24 : lw_okq (⟨"WhisperSeats", "goesAsTold", "(LWhisperSeats$Sheet;I)Z"⟩, 8) := ⟨⟨by decide +kernel, by decide +kernel⟩, List.mem_of_getElem? (i := 21) (by decide +kernel), List.mem_of_getElem? (i := 761) (by decide +kernel), List.mem_of_getElem? (i := 762) (by decide +kernel)⟩
theorem lw_p25 : lw_okq (⟨"WhisperSeatsModel", "becomes", "(II)I"⟩, 16) := ⟨⟨by decide +kernel, by decide +kernel⟩, List.mem_of_getElem? (i := 785) (by decide +kernel), List.mem_of_getElem? (i := 848) (by decide +kernel), List.mem_of_getElem? (i := 849) (by decide +kernel)⟩
theorem lw_p26 : lw_okq (⟨"WhisperSeatsModel", "finds", "(I)I"⟩, 16) := ⟨⟨by decide +kernel, by decide +kernel⟩, List.mem_of_getElem? (i := 785) (by decide +kernel), List.mem_of_getElem? (i := 853) (by decide +kernel), List.mem_of_getElem? (i := 854) (by decide +kernel)⟩
theorem lw_p27 : lw_okq (⟨"WhisperSeatsModel", "its", "(II)I"⟩, 16) := ⟨⟨by decide +kernel, by decide +kernel⟩, List.mem_of_getElem? (i := 785) (by decide +kernel), List.mem_of_getElem? (i := 864) (by decide +kernel), List.mem_of_getElem? (i := 865) (by decide +kernel)⟩
theorem lw_p28 : lw_okq (⟨"WhisperSeatsModel", "comes", "(I)V"⟩, 16) := ⟨⟨by decide +kernel, by decide +kernel⟩, List.mem_of_getElem? (i := 785) (by decide +kernel), List.mem_of_getElem? (i := 874) (by decide +kernel), List.mem_of_getElem? (i := 875) (by decide +kernel)⟩
theorem lw_p29 : lw_okq (⟨"WhisperSeatsModel", "isOne", "(I)Z"⟩, 16) := ⟨⟨by decide +kernel, by decide +kernel⟩, List.mem_of_getElem? (i := 785) (by decide +kernel), List.mem_of_getElem? (i := 885) (by decide +kernel), List.mem_of_getElem? (i := 886) (by decide +kernel)⟩
theorem lw_p30 : lw_okq (⟨"WhisperSeatsModel", "says", "(I)I"⟩, 16) := ⟨⟨by decide +kernel, by decide +kernel⟩, List.mem_of_getElem? (i := 785) (by decide +kernel), List.mem_of_getElem? (i := 890) (by decide +kernel), List.mem_of_getElem? (i := 891) (by decide +kernel)⟩
theorem lw_p31 : lw_okq (⟨"WhisperSeatsModel", "saysPlain", "(I)I"⟩, 16) := ⟨⟨by decide +kernel, by decide +kernel⟩, List.mem_of_getElem? (i := 785) (by decide +kernel), List.mem_of_getElem? (i := 900) (by decide +kernel), List.mem_of_getElem? (i := 901) (by decide +kernel)⟩
def lw_privs_2 : List (MethodName × Nat) := [(⟨"WhisperSeats$Tape", "isWord", "(Ljava/lang/String;)Z"⟩, 6), (⟨"WhisperSeats$Tape", "tellVisitor", "(LWhisperSeats$Park;I)Z"⟩, 6), (⟨"WhisperSeats$Tape", "tellKnown", "(LWhisperSeats$Visitor;)Z"⟩, 6), (⟨"WhisperSeats$Tape", "isNumberBelow", "(I)Z"⟩, 6), (⟨"WhisperSeats$Tape", "tellSeat", "(LWhisperSeats$Park;LWhisperSeats$Visitor;)Z"⟩, 6), (⟨"WhisperSeats$Tape", "tellSecret", "(LWhisperSeats$Park;Z)Z"⟩, 6), (⟨"WhisperSeats", "faultOfSheet", "(I)I"⟩, 8), (⟨"WhisperSeats$Sheet", "cut", "(J)J"⟩, 3), (⟨"WhisperSeats", "goesAsTold", "(LWhisperSeats$Sheet;I)Z"⟩, 8), (⟨"WhisperSeatsModel", "becomes", "(II)I"⟩, 16), (⟨"WhisperSeatsModel", "finds", "(I)I"⟩, 16), (⟨"WhisperSeatsModel", "its", "(II)I"⟩, 16), (⟨"WhisperSeatsModel", "comes", "(I)V"⟩, 16), (⟨"WhisperSeatsModel", "isOne", "(I)Z"⟩, 16), (⟨"WhisperSeatsModel", "says", "(I)I"⟩, 16), (⟨"WhisperSeatsModel", "saysPlain", "(I)I"⟩, 16)]
theorem lw_r2 : ∀ q ∈ lw_privs_2, lw_okq q := List.forall_mem_cons.mpr ⟨lw_p16, List.forall_mem_cons.mpr ⟨lw_p17, List.forall_mem_cons.mpr ⟨lw_p18, List.forall_mem_cons.mpr ⟨lw_p19, List.forall_mem_cons.mpr ⟨lw_p20, List.forall_mem_cons.mpr ⟨lw_p21, List.forall_mem_cons.mpr ⟨lw_p22, List.forall_mem_cons.mpr ⟨lw_p23, List.forall_mem_cons.mpr ⟨lw_p24, List.forall_mem_cons.mpr ⟨lw_p25, List.forall_mem_cons.mpr ⟨lw_p26, List.forall_mem_cons.mpr ⟨lw_p27, List.forall_mem_cons.mpr ⟨lw_p28, List.forall_mem_cons.mpr ⟨lw_p29, List.forall_mem_cons.mpr ⟨lw_p30, List.forall_mem_cons.mpr ⟨lw_p31, fun _ h => absurd h List.not_mem_nil⟩⟩⟩⟩⟩⟩⟩⟩⟩⟩⟩⟩⟩⟩⟩⟩
theorem lw_p32 : lw_okq (⟨"WhisperSeatsModel", "stays", "(I)I"⟩, 16) := ⟨⟨by decide +kernel, by decide +kernel⟩, List.mem_of_getElem? (i := 785) (by decide +kernel), List.mem_of_getElem? (i := 904) (by decide +kernel), List.mem_of_getElem? (i := 905) (by decide +kernel)⟩
theorem lw_p33 : lw_okq (⟨"WhisperSeatsModel", "may", "(III)Z"⟩, 16) := ⟨⟨by decide +kernel, by decide +kernel⟩, List.mem_of_getElem? (i := 785) (by decide +kernel), List.mem_of_getElem? (i := 915) (by decide +kernel), List.mem_of_getElem? (i := 916) (by decide +kernel)⟩
theorem lw_p34 : lw_okq (⟨"WhisperSeatsModel", "knowsNow", "(II)I"⟩, 16) := ⟨⟨by decide +kernel, by decide +kernel⟩, List.mem_of_getElem? (i := 785) (by decide +kernel), List.mem_of_getElem? (i := 920) (by decide +kernel), List.mem_of_getElem? (i := 921) (by decide +kernel)⟩
theorem lw_p35 : lw_okq (⟨"WhisperSeatsModel", "sitter", "(I)I"⟩, 16) := ⟨⟨by decide +kernel, by decide +kernel⟩, List.mem_of_getElem? (i := 785) (by decide +kernel), List.mem_of_getElem? (i := 941) (by decide +kernel), List.mem_of_getElem? (i := 942) (by decide +kernel)⟩
theorem lw_p36 : lw_okq (⟨"WhisperSeatsModel", "isTrusted", "(II)Z"⟩, 16) := ⟨⟨by decide +kernel, by decide +kernel⟩, List.mem_of_getElem? (i := 785) (by decide +kernel), List.mem_of_getElem? (i := 950) (by decide +kernel), List.mem_of_getElem? (i := 951) (by decide +kernel)⟩
theorem lw_p37 : lw_okq (⟨"WhisperSeatsModel", "goes", "(I)V"⟩, 16) := ⟨⟨by decide +kernel, by decide +kernel⟩, List.mem_of_getElem? (i := 785) (by decide +kernel), List.mem_of_getElem? (i := 960) (by decide +kernel), List.mem_of_getElem? (i := 961) (by decide +kernel)⟩
theorem lw_p38 : lw_okq (⟨"WhisperSeatsModel", "goesOn", "()V"⟩, 16) := ⟨⟨by decide +kernel, by decide +kernel⟩, List.mem_of_getElem? (i := 785) (by decide +kernel), List.mem_of_getElem? (i := 964) (by decide +kernel), List.mem_of_getElem? (i := 965) (by decide +kernel)⟩
theorem lw_p39 : lw_okq (⟨"WhisperSeatsModel", "isMonday", "()Z"⟩, 16) := ⟨⟨by decide +kernel, by decide +kernel⟩, List.mem_of_getElem? (i := 785) (by decide +kernel), List.mem_of_getElem? (i := 968) (by decide +kernel), List.mem_of_getElem? (i := 969) (by decide +kernel)⟩
theorem lw_p40 : lw_okq (⟨"WhisperSeatsModel", "hearsItself", "(II)V"⟩, 16) := ⟨⟨by decide +kernel, by decide +kernel⟩, List.mem_of_getElem? (i := 785) (by decide +kernel), List.mem_of_getElem? (i := 972) (by decide +kernel), List.mem_of_getElem? (i := 973) (by decide +kernel)⟩
theorem lw_p41 : lw_okq (⟨"WhisperSeatsModel", "hears", "(II)V"⟩, 16) := ⟨⟨by decide +kernel, by decide +kernel⟩, List.mem_of_getElem? (i := 785) (by decide +kernel), List.mem_of_getElem? (i := 976) (by decide +kernel), List.mem_of_getElem? (i := 977) (by decide +kernel)⟩
theorem lw_p42 : lw_okq (⟨"WhisperSeatsModel", "nextIn", "(I)I"⟩, 16) := ⟨⟨by decide +kernel, by decide +kernel⟩, List.mem_of_getElem? (i := 785) (by decide +kernel), List.mem_of_getElem? (i := 980) (by decide +kernel), List.mem_of_getElem? (i := 981) (by decide +kernel)⟩
theorem lw_p43 : lw_okq (⟨"WhisperSeatsModel", "heardOfAll", "()I"⟩, 16) := ⟨⟨by decide +kernel, by decide +kernel⟩, List.mem_of_getElem? (i := 785) (by decide +kernel), List.mem_of_getElem? (i := 984) (by decide +kernel), List.mem_of_getElem? (i := 985) (by decide +kernel)⟩
theorem lw_p44 : lw_okq (⟨"WhisperSeatsModel", "outNow", "()I"⟩, 16) := ⟨⟨by decide +kernel, by decide +kernel⟩, List.mem_of_getElem? (i := 785) (by decide +kernel), List.mem_of_getElem? (i := 992) (by decide +kernel), List.mem_of_getElem? (i := 993) (by decide +kernel)⟩
theorem lw_p45 : lw_okq (⟨"WhisperSeatsModel", "isAsked", "(II)Z"⟩, 16) := ⟨⟨by decide +kernel, by decide +kernel⟩, List.mem_of_getElem? (i := 785) (by decide +kernel), List.mem_of_getElem? (i := 1026) (by decide +kernel), List.mem_of_getElem? (i := 1027) (by decide +kernel)⟩
theorem lw_p46 : lw_okq (⟨"WhisperSeatsModel", "orNone", "(I)I"⟩, 16) := ⟨⟨by decide +kernel, by decide +kernel⟩, List.mem_of_getElem? (i := 785) (by decide +kernel), List.mem_of_getElem? (i := 1031) (by decide +kernel), List.mem_of_getElem? (i := 1032) (by decide +kernel)⟩
theorem lw_p47 : lw_okq (⟨"WhisperSeatsModel", "howManyKnow", "(I)I"⟩, 16) := ⟨⟨by decide +kernel, by decide +kernel⟩, List.mem_of_getElem? (i := 785) (by decide +kernel), List.mem_of_getElem? (i := 1039) (by decide +kernel), List.mem_of_getElem? (i := 1040) (by decide +kernel)⟩
def lw_privs_3 : List (MethodName × Nat) := [(⟨"WhisperSeatsModel", "stays", "(I)I"⟩, 16), (⟨"WhisperSeatsModel", "may", "(III)Z"⟩, 16), (⟨"WhisperSeatsModel", "knowsNow", "(II)I"⟩, 16), (⟨"WhisperSeatsModel", "sitter", "(I)I"⟩, 16), (⟨"WhisperSeatsModel", "isTrusted", "(II)Z"⟩, 16), (⟨"WhisperSeatsModel", "goes", "(I)V"⟩, 16), (⟨"WhisperSeatsModel", "goesOn", "()V"⟩, 16), (⟨"WhisperSeatsModel", "isMonday", "()Z"⟩, 16), (⟨"WhisperSeatsModel", "hearsItself", "(II)V"⟩, 16), (⟨"WhisperSeatsModel", "hears", "(II)V"⟩, 16), (⟨"WhisperSeatsModel", "nextIn", "(I)I"⟩, 16), (⟨"WhisperSeatsModel", "heardOfAll", "()I"⟩, 16), (⟨"WhisperSeatsModel", "outNow", "()I"⟩, 16), (⟨"WhisperSeatsModel", "isAsked", "(II)Z"⟩, 16), (⟨"WhisperSeatsModel", "orNone", "(I)I"⟩, 16), (⟨"WhisperSeatsModel", "howManyKnow", "(I)I"⟩, 16)]
theorem lw_r3 : ∀ q ∈ lw_privs_3, lw_okq q := List.forall_mem_cons.mpr ⟨lw_p32, List.forall_mem_cons.mpr ⟨lw_p33, List.forall_mem_cons.mpr ⟨lw_p34, List.forall_mem_cons.mpr ⟨lw_p35, List.forall_mem_cons.mpr ⟨lw_p36, List.forall_mem_cons.mpr ⟨lw_p37, List.forall_mem_cons.mpr ⟨lw_p38, List.forall_mem_cons.mpr ⟨lw_p39, List.forall_mem_cons.mpr ⟨lw_p40, List.forall_mem_cons.mpr ⟨lw_p41, List.forall_mem_cons.mpr ⟨lw_p42, List.forall_mem_cons.mpr ⟨lw_p43, List.forall_mem_cons.mpr ⟨lw_p44, List.forall_mem_cons.mpr ⟨lw_p45, List.forall_mem_cons.mpr ⟨lw_p46, List.forall_mem_cons.mpr ⟨lw_p47, fun _ h => absurd h List.not_mem_nil⟩⟩⟩⟩⟩⟩⟩⟩⟩⟩⟩⟩⟩⟩⟩⟩
theorem lw_p48 : lw_okq (⟨"WhisperSeatsModel", "believed", "()I"⟩, 16) := ⟨⟨by decide +kernel, by decide +kernel⟩, List.mem_of_getElem? (i := 785) (by decide +kernel), List.mem_of_getElem? (i := 1052) (by decide +kernel), List.mem_of_getElem? (i := 1053) (by decide +kernel)⟩
theorem lw_p49 : lw_okq (⟨"WhisperSeatsModel", "nextToken", "()V"⟩, 16) := ⟨⟨by decide +kernel, by decide +kernel⟩, List.mem_of_getElem? (i := 785) (by decide +kernel), List.mem_of_getElem? (i := 1073) (by decide +kernel), List.mem_of_getElem? (i := 1074) (by decide +kernel)⟩
theorem lw_p50 : lw_okq (⟨"WhisperSeatsModel", "byteAt", "(I)I"⟩, 16) := ⟨⟨by decide +kernel, by decide +kernel⟩, List.mem_of_getElem? (i := 785) (by decide +kernel), List.mem_of_getElem? (i := 1077) (by decide +kernel), List.mem_of_getElem? (i := 1078) (by decide +kernel)⟩
theorem lw_p51 : lw_okq (⟨"WhisperSeatsModel", "itemHere", "()Z"⟩, 16) := ⟨⟨by decide +kernel, by decide +kernel⟩, List.mem_of_getElem? (i := 785) (by decide +kernel), List.mem_of_getElem? (i := 1087) (by decide +kernel), List.mem_of_getElem? (i := 1088) (by decide +kernel)⟩
theorem lw_p52 : lw_okq (⟨"WhisperSeatsModel", "kindHere", "()I"⟩, 16) := ⟨⟨by decide +kernel, by decide +kernel⟩, List.mem_of_getElem? (i := 785) (by decide +kernel), List.mem_of_getElem? (i := 1091) (by decide +kernel), List.mem_of_getElem? (i := 1092) (by decide +kernel)⟩
theorem lw_p53 : lw_okq (⟨"WhisperSeatsModel", "isSix", "(IIIIII)Z"⟩, 16) := ⟨⟨by decide +kernel, by decide +kernel⟩, List.mem_of_getElem? (i := 785) (by decide +kernel), List.mem_of_getElem? (i := 1095) (by decide +kernel), List.mem_of_getElem? (i := 1096) (by decide +kernel)⟩
theorem lw_p54 : lw_okq (⟨"WhisperSeatsModel", "isWord", "(I)Z"⟩, 16) := ⟨⟨by decide +kernel, by decide +kernel⟩, List.mem_of_getElem? (i := 785) (by decide +kernel), List.mem_of_getElem? (i := 1099) (by decide +kernel), List.mem_of_getElem? (i := 1100) (by decide +kernel)⟩
theorem lw_p55 : lw_okq (⟨"WhisperSeatsModel", "has3", "(IIII)Z"⟩, 16) := ⟨⟨by decide +kernel, by decide +kernel⟩, List.mem_of_getElem? (i := 785) (by decide +kernel), List.mem_of_getElem? (i := 1103) (by decide +kernel), List.mem_of_getElem? (i := 1104) (by decide +kernel)⟩
theorem lw_p56 : lw_okq (⟨"WhisperSeatsModel", "isFive", "(IIIII)Z"⟩, 16) := ⟨⟨by decide +kernel, by decide +kernel⟩, List.mem_of_getElem? (i := 785) (by decide +kernel), List.mem_of_getElem? (i := 1107) (by decide +kernel), List.mem_of_getElem? (i := 1108) (by decide +kernel)⟩
theorem lw_p57 : lw_okq (⟨"WhisperSeatsModel", "isFour", "(IIII)Z"⟩, 16) := ⟨⟨by decide +kernel, by decide +kernel⟩, List.mem_of_getElem? (i := 785) (by decide +kernel), List.mem_of_getElem? (i := 1111) (by decide +kernel), List.mem_of_getElem? (i := 1112) (by decide +kernel)⟩
theorem lw_p58 : lw_okq (⟨"WhisperSeatsModel", "personHere", "(I)Z"⟩, 16) := ⟨⟨by decide +kernel, by decide +kernel⟩, List.mem_of_getElem? (i := 785) (by decide +kernel), List.mem_of_getElem? (i := 1115) (by decide +kernel), List.mem_of_getElem? (i := 1116) (by decide +kernel)⟩
theorem lw_p59 : lw_okq (⟨"WhisperSeatsModel", "fails", "()Z"⟩, 16) := ⟨⟨by decide +kernel, by decide +kernel⟩, List.mem_of_getElem? (i := 785) (by decide +kernel), List.mem_of_getElem? (i := 1119) (by decide +kernel), List.mem_of_getElem? (i := 1120) (by decide +kernel)⟩
theorem lw_p60 : lw_okq (⟨"WhisperSeatsModel", "knowsHere", "(I)Z"⟩, 16) := ⟨⟨by decide +kernel, by decide +kernel⟩, List.mem_of_getElem? (i := 785) (by decide +kernel), List.mem_of_getElem? (i := 1123) (by decide +kernel), List.mem_of_getElem? (i := 1124) (by decide +kernel)⟩
theorem lw_p61 : lw_okq (⟨"WhisperSeatsModel", "isNumber", "(II)Z"⟩, 16) := ⟨⟨by decide +kernel, by decide +kernel⟩, List.mem_of_getElem? (i := 785) (by decide +kernel), List.mem_of_getElem? (i := 1127) (by decide +kernel), List.mem_of_getElem? (i := 1128) (by decide +kernel)⟩
theorem lw_p62 : lw_okq (⟨"WhisperSeatsModel", "secretHere", "(Z)Z"⟩, 16) := ⟨⟨by decide +kernel, by decide +kernel⟩, List.mem_of_getElem? (i := 785) (by decide +kernel), List.mem_of_getElem? (i := 1131) (by decide +kernel), List.mem_of_getElem? (i := 1132) (by decide +kernel)⟩
theorem lw_p63 : lw_okq (⟨"WhisperSeatsModel", "wants", "(I)I"⟩, 16) := ⟨⟨by decide +kernel, by decide +kernel⟩, List.mem_of_getElem? (i := 785) (by decide +kernel), List.mem_of_getElem? (i := 1159) (by decide +kernel), List.mem_of_getElem? (i := 1160) (by decide +kernel)⟩
def lw_privs_4 : List (MethodName × Nat) := [(⟨"WhisperSeatsModel", "believed", "()I"⟩, 16), (⟨"WhisperSeatsModel", "nextToken", "()V"⟩, 16), (⟨"WhisperSeatsModel", "byteAt", "(I)I"⟩, 16), (⟨"WhisperSeatsModel", "itemHere", "()Z"⟩, 16), (⟨"WhisperSeatsModel", "kindHere", "()I"⟩, 16), (⟨"WhisperSeatsModel", "isSix", "(IIIIII)Z"⟩, 16), (⟨"WhisperSeatsModel", "isWord", "(I)Z"⟩, 16), (⟨"WhisperSeatsModel", "has3", "(IIII)Z"⟩, 16), (⟨"WhisperSeatsModel", "isFive", "(IIIII)Z"⟩, 16), (⟨"WhisperSeatsModel", "isFour", "(IIII)Z"⟩, 16), (⟨"WhisperSeatsModel", "personHere", "(I)Z"⟩, 16), (⟨"WhisperSeatsModel", "fails", "()Z"⟩, 16), (⟨"WhisperSeatsModel", "knowsHere", "(I)Z"⟩, 16), (⟨"WhisperSeatsModel", "isNumber", "(II)Z"⟩, 16), (⟨"WhisperSeatsModel", "secretHere", "(Z)Z"⟩, 16), (⟨"WhisperSeatsModel", "wants", "(I)I"⟩, 16)]
theorem lw_r4 : ∀ q ∈ lw_privs_4, lw_okq q := List.forall_mem_cons.mpr ⟨lw_p48, List.forall_mem_cons.mpr ⟨lw_p49, List.forall_mem_cons.mpr ⟨lw_p50, List.forall_mem_cons.mpr ⟨lw_p51, List.forall_mem_cons.mpr ⟨lw_p52, List.forall_mem_cons.mpr ⟨lw_p53, List.forall_mem_cons.mpr ⟨lw_p54, List.forall_mem_cons.mpr ⟨lw_p55, List.forall_mem_cons.mpr ⟨lw_p56, List.forall_mem_cons.mpr ⟨lw_p57, List.forall_mem_cons.mpr ⟨lw_p58, List.forall_mem_cons.mpr ⟨lw_p59, List.forall_mem_cons.mpr ⟨lw_p60, List.forall_mem_cons.mpr ⟨lw_p61, List.forall_mem_cons.mpr ⟨lw_p62, List.forall_mem_cons.mpr ⟨lw_p63, fun _ h => absurd h List.not_mem_nil⟩⟩⟩⟩⟩⟩⟩⟩⟩⟩⟩⟩⟩⟩⟩⟩
theorem lw_p64 : lw_okq (⟨"WhisperSeatsModel", "isSo", "(II)Z"⟩, 16) := ⟨⟨by decide +kernel, by decide +kernel⟩, List.mem_of_getElem? (i := 785) (by decide +kernel), List.mem_of_getElem? (i := 1171) (by decide +kernel), List.mem_of_getElem? (i := 1172) (by decide +kernel)⟩
def lw_privs_5 : List (MethodName × Nat) := [(⟨"WhisperSeatsModel", "isSo", "(II)Z"⟩, 16)]
theorem lw_r5 : ∀ q ∈ lw_privs_5, lw_okq q := List.forall_mem_cons.mpr ⟨lw_p64, fun _ h => absurd h List.not_mem_nil⟩
def lw_privs : List (MethodName × Nat) := lw_privs_1 ++ (lw_privs_2 ++ (lw_privs_3 ++ (lw_privs_4 ++ (lw_privs_5))))
def lw_tbl : List Cond := k2_sels lw_privs ++ tables_1
theorem lw_privs_ok : ∀ q ∈ lw_privs, lw_okq q := by
  show ∀ q ∈ lw_privs_1 ++ (lw_privs_2 ++ (lw_privs_3 ++ (lw_privs_4 ++ (lw_privs_5)))), lw_okq q
  exact List.forall_mem_append.mpr ⟨lw_r1, List.forall_mem_append.mpr ⟨lw_r2, List.forall_mem_append.mpr ⟨lw_r3, List.forall_mem_append.mpr ⟨lw_r4, lw_r5⟩⟩⟩⟩
end
section
def RX0 : String := "WhisperSeats$Actor"
def TX0 : u_T := fun k => match k with
  | _ => ("", "", "", false)
def tyX0 : Nat → FieldType := fun k => match k with
  | _ => .int
theorem nmX0 : ∀ a, a < 0 → ∀ b, b < 0 → a ≠ b → (TX0 a).2.1 ≠ (TX0 b).2.1 := by decide +kernel
theorem tyX0_ok : ∀ k, k < 0 → parseFieldDescriptor (TX0 k).2.2.1 = some (tyX0 k) := by decide +kernel
abbrev cX0_init : ByteArray := prog_2_method_1_code
def yX0_init : MethodName := ⟨RX0, "<init>", "()V"⟩
abbrev cX0_says : ByteArray := prog_2_method_2_code
def yX0_says : MethodName := ⟨RX0, "says", "(LWhisperSeats$Visitor;II)I"⟩
abbrev cX0_believes : ByteArray := prog_2_method_3_code
def yX0_believes : MethodName := ⟨RX0, "believes", "(ZI)Z"⟩
abbrev cX0_stays : ByteArray := prog_2_method_4_code
def yX0_stays : MethodName := ⟨RX0, "stays", "(LWhisperSeats$Visitor;)I"⟩
def RX1 : String := "WhisperSeats$General"
def TX1 : u_T := fun k => match k with
  | _ => ("", "", "", false)
def tyX1 : Nat → FieldType := fun k => match k with
  | _ => .int
theorem nmX1 : ∀ a, a < 0 → ∀ b, b < 0 → a ≠ b → (TX1 a).2.1 ≠ (TX1 b).2.1 := by decide +kernel
theorem tyX1_ok : ∀ k, k < 0 → parseFieldDescriptor (TX1 k).2.2.1 = some (tyX1 k) := by decide +kernel
abbrev cX1_init : ByteArray := prog_3_method_1_code
def yX1_init : MethodName := ⟨RX1, "<init>", "()V"⟩
abbrev cX1_says : ByteArray := prog_3_method_2_code
def yX1_says : MethodName := ⟨RX1, "says", "(LWhisperSeats$Visitor;II)I"⟩
abbrev cX1_believes : ByteArray := prog_3_method_3_code
def yX1_believes : MethodName := ⟨RX1, "believes", "(ZI)Z"⟩
abbrev cX1_stays : ByteArray := prog_3_method_4_code
def yX1_stays : MethodName := ⟨RX1, "stays", "(LWhisperSeats$Visitor;)I"⟩
def RX2 : String := "WhisperSeats$Lover"
def TX2 : u_T := fun k => match k with
  | _ => ("", "", "", false)
def tyX2 : Nat → FieldType := fun k => match k with
  | _ => .int
theorem nmX2 : ∀ a, a < 0 → ∀ b, b < 0 → a ≠ b → (TX2 a).2.1 ≠ (TX2 b).2.1 := by decide +kernel
theorem tyX2_ok : ∀ k, k < 0 → parseFieldDescriptor (TX2 k).2.2.1 = some (tyX2 k) := by decide +kernel
abbrev cX2_init : ByteArray := prog_4_method_1_code
def yX2_init : MethodName := ⟨RX2, "<init>", "()V"⟩
abbrev cX2_says : ByteArray := prog_4_method_2_code
def yX2_says : MethodName := ⟨RX2, "says", "(LWhisperSeats$Visitor;II)I"⟩
abbrev cX2_stays : ByteArray := prog_4_method_3_code
def yX2_stays : MethodName := ⟨RX2, "stays", "(LWhisperSeats$Visitor;)I"⟩
def RX3 : String := "WhisperSeats$Park"
def TX3 : u_T := fun k => match k with
  | 0 => ("WhisperSeats$Park", "kinds", "[LWhisperSeats$Person;", true)
  | 1 => ("WhisperSeats$Park", "visitors", "[LWhisperSeats$Visitor;", true)
  | 2 => ("WhisperSeats$Park", "size", "I", false)
  | 3 => ("WhisperSeats$Park", "shams", "I", false)
  | 4 => ("WhisperSeats$Park", "hour", "I", false)
  | _ => ("WhisperSeats$Park", "cameLast", "I", false)
def tyX3 : Nat → FieldType := fun k => match k with
  | 0 => .array (.object "WhisperSeats$Person")
  | 1 => .array (.object "WhisperSeats$Visitor")
  | 2 => .int
  | 3 => .int
  | 4 => .int
  | _ => .int
theorem nmX3 : ∀ a, a < 6 → ∀ b, b < 6 → a ≠ b → (TX3 a).2.1 ≠ (TX3 b).2.1 := by decide +kernel
theorem tyX3_ok : ∀ k, k < 6 → parseFieldDescriptor (TX3 k).2.2.1 = some (tyX3 k) := by decide +kernel
abbrev cX3_init : ByteArray := prog_5_method_1_code
def yX3_init : MethodName := ⟨RX3, "<init>", "([LWhisperSeats$Person;)V"⟩
abbrev cX3_become : ByteArray := prog_5_method_2_code
def yX3_become : MethodName := ⟨RX3, "become", "(LWhisperSeats$Park;)V"⟩
abbrev cX3_has : ByteArray := prog_5_method_3_code
def yX3_has : MethodName := ⟨RX3, "has", "(I)Z"⟩
abbrev cX3_isFull : ByteArray := prog_5_method_4_code
def yX3_isFull : MethodName := ⟨RX3, "isFull", "()Z"⟩
abbrev cX3_visitor : ByteArray := prog_5_method_5_code
def yX3_visitor : MethodName := ⟨RX3, "visitor", "(I)LWhisperSeats$Visitor;"⟩
abbrev cX3_welcome : ByteArray := prog_5_method_6_code
def yX3_welcome : MethodName := ⟨RX3, "welcome", "(I)I"⟩
abbrev cX3_hourOfDay : ByteArray := prog_5_method_7_code
def yX3_hourOfDay : MethodName := ⟨RX3, "hourOfDay", "()I"⟩
abbrev cX3_isMonday : ByteArray := prog_5_method_8_code
def yX3_isMonday : MethodName := ⟨RX3, "isMonday", "()Z"⟩
abbrev cX3_holder : ByteArray := prog_5_method_9_code
def yX3_holder : MethodName := ⟨RX3, "holder", "(I)I"⟩
abbrev cX3_saidBy : ByteArray := prog_5_method_10_code
def yX3_saidBy : MethodName := ⟨RX3, "saidBy", "(I)I"⟩
abbrev cX3_isTrusted : ByteArray := prog_5_method_11_code
def yX3_isTrusted : MethodName := ⟨RX3, "isTrusted", "(II)Z"⟩
abbrev cX3_stayOf : ByteArray := prog_5_method_12_code
def yX3_stayOf : MethodName := ⟨RX3, "stayOf", "(I)I"⟩
abbrev cX3_letHoursGo : ByteArray := prog_5_method_13_code
def yX3_letHoursGo : MethodName := ⟨RX3, "letHoursGo", "(I)V"⟩
abbrev cX3_bring : ByteArray := prog_5_method_14_code
def yX3_bring : MethodName := ⟨RX3, "bring", "(III)V"⟩
abbrev cX3_sitOn : ByteArray := prog_5_method_15_code
def yX3_sitOn : MethodName := ⟨RX3, "sitOn", "(I)I"⟩
abbrev cX3_fill : ByteArray := prog_5_method_16_code
def yX3_fill : MethodName := ⟨RX3, "fill", "(II)V"⟩
abbrev cX3_knownToAll : ByteArray := prog_5_method_17_code
def yX3_knownToAll : MethodName := ⟨RX3, "knownToAll", "()I"⟩
abbrev cX3_knownTo : ByteArray := prog_5_method_18_code
def yX3_knownTo : MethodName := ⟨RX3, "knownTo", "(I)I"⟩
abbrev cX3_heardByAll : ByteArray := prog_5_method_19_code
def yX3_heardByAll : MethodName := ⟨RX3, "heardByAll", "()I"⟩
abbrev cX3_believedByAll : ByteArray := prog_5_method_20_code
def yX3_believedByAll : MethodName := ⟨RX3, "believedByAll", "()I"⟩
def RX4 : String := "WhisperSeats$Person"
def TX4 : u_T := fun k => match k with
  | _ => ("", "", "", false)
def tyX4 : Nat → FieldType := fun k => match k with
  | _ => .int
theorem nmX4 : ∀ a, a < 0 → ∀ b, b < 0 → a ≠ b → (TX4 a).2.1 ≠ (TX4 b).2.1 := by decide +kernel
theorem tyX4_ok : ∀ k, k < 0 → parseFieldDescriptor (TX4 k).2.2.1 = some (tyX4 k) := by decide +kernel
abbrev cX4_init : ByteArray := prog_6_method_1_code
def yX4_init : MethodName := ⟨RX4, "<init>", "()V"⟩
abbrev cX4_says : ByteArray := prog_6_method_2_code
def yX4_says : MethodName := ⟨RX4, "says", "(LWhisperSeats$Visitor;II)I"⟩
abbrev cX4_saysAsPerson : ByteArray := prog_6_method_3_code
def yX4_saysAsPerson : MethodName := ⟨RX4, "saysAsPerson", "(LWhisperSeats$Visitor;)I"⟩
abbrev cX4_believes : ByteArray := prog_6_method_4_code
def yX4_believes : MethodName := ⟨RX4, "believes", "(ZI)Z"⟩
abbrev cX4_stays : ByteArray := prog_6_method_5_code
def yX4_stays : MethodName := ⟨RX4, "stays", "(LWhisperSeats$Visitor;)I"⟩
def RX5 : String := "WhisperSeats$Sheet"
def TX5 : u_T := fun k => match k with
  | 0 => ("WhisperSeats$Sheet", "numbers", "[J", true)
  | 1 => ("WhisperSeats$Sheet", "bits", "I", false)
  | _ => ("WhisperSeats$Sheet", "size", "I", false)
def tyX5 : Nat → FieldType := fun k => match k with
  | 0 => .array .long
  | 1 => .int
  | _ => .int
theorem nmX5 : ∀ a, a < 3 → ∀ b, b < 3 → a ≠ b → (TX5 a).2.1 ≠ (TX5 b).2.1 := by decide +kernel
theorem tyX5_ok : ∀ k, k < 3 → parseFieldDescriptor (TX5 k).2.2.1 = some (tyX5 k) := by decide +kernel
abbrev cX5_init : ByteArray := prog_7_method_1_code
def yX5_init : MethodName := ⟨RX5, "<init>", "()V"⟩
abbrev cX5_isMissing : ByteArray := prog_7_method_2_code
def yX5_isMissing : MethodName := ⟨RX5, "isMissing", "()Z"⟩
abbrev cX5_renew : ByteArray := prog_7_method_3_code
def yX5_renew : MethodName := ⟨RX5, "renew", "(II)V"⟩
abbrev cX5_hasSpan : ByteArray := prog_7_method_4_code
def yX5_hasSpan : MethodName := ⟨RX5, "hasSpan", "(II)Z"⟩
abbrev cX5_put : ByteArray := prog_7_method_5_code
def yX5_put : MethodName := ⟨RX5, "put", "(IJ)J"⟩
abbrev cX5_cut : ByteArray := prog_7_method_6_code
def yX5_cut : MethodName := ⟨RX5, "cut", "(J)J"⟩
def RX6 : String := "WhisperSeats$Spy"
def TX6 : u_T := fun k => match k with
  | _ => ("", "", "", false)
def tyX6 : Nat → FieldType := fun k => match k with
  | _ => .int
theorem nmX6 : ∀ a, a < 0 → ∀ b, b < 0 → a ≠ b → (TX6 a).2.1 ≠ (TX6 b).2.1 := by decide +kernel
theorem tyX6_ok : ∀ k, k < 0 → parseFieldDescriptor (TX6 k).2.2.1 = some (tyX6 k) := by decide +kernel
abbrev cX6_init : ByteArray := prog_8_method_1_code
def yX6_init : MethodName := ⟨RX6, "<init>", "()V"⟩
abbrev cX6_says : ByteArray := prog_8_method_2_code
def yX6_says : MethodName := ⟨RX6, "says", "(LWhisperSeats$Visitor;II)I"⟩
abbrev cX6_believes : ByteArray := prog_8_method_3_code
def yX6_believes : MethodName := ⟨RX6, "believes", "(ZI)Z"⟩
def RX7 : String := "WhisperSeats$Tape"
def TX7 : u_T := fun k => match k with
  | 0 => ("WhisperSeats$Tape", "bytes", "[I", true)
  | 1 => ("WhisperSeats$Tape", "length", "I", false)
  | 2 => ("WhisperSeats$Tape", "token", "I", false)
  | 3 => ("WhisperSeats$Tape", "start", "I", false)
  | 4 => ("WhisperSeats$Tape", "behind", "I", false)
  | _ => ("WhisperSeats$Tape", "value", "I", false)
def tyX7 : Nat → FieldType := fun k => match k with
  | 0 => .array .int
  | 1 => .int
  | 2 => .int
  | 3 => .int
  | 4 => .int
  | _ => .int
theorem nmX7 : ∀ a, a < 6 → ∀ b, b < 6 → a ≠ b → (TX7 a).2.1 ≠ (TX7 b).2.1 := by decide +kernel
theorem tyX7_ok : ∀ k, k < 6 → parseFieldDescriptor (TX7 k).2.2.1 = some (tyX7 k) := by decide +kernel
abbrev cX7_init : ByteArray := prog_9_method_1_code
def yX7_init : MethodName := ⟨RX7, "<init>", "()V"⟩
abbrev cX7_append : ByteArray := prog_9_method_2_code
def yX7_append : MethodName := ⟨RX7, "append", "(I)V"⟩
abbrev cX7_tellTo : ByteArray := prog_9_method_3_code
def yX7_tellTo : MethodName := ⟨RX7, "tellTo", "(LWhisperSeats$Park;)I"⟩
abbrev cX7_tellItem : ByteArray := prog_9_method_4_code
def yX7_tellItem : MethodName := ⟨RX7, "tellItem", "(LWhisperSeats$Park;)Z"⟩
abbrev cX7_tellSecret : ByteArray := prog_9_method_5_code
def yX7_tellSecret : MethodName := ⟨RX7, "tellSecret", "(LWhisperSeats$Park;Z)Z"⟩
abbrev cX7_tellVisitor : ByteArray := prog_9_method_6_code
def yX7_tellVisitor : MethodName := ⟨RX7, "tellVisitor", "(LWhisperSeats$Park;I)Z"⟩
abbrev cX7_tellKnown : ByteArray := prog_9_method_7_code
def yX7_tellKnown : MethodName := ⟨RX7, "tellKnown", "(LWhisperSeats$Visitor;)Z"⟩
abbrev cX7_tellSeat : ByteArray := prog_9_method_8_code
def yX7_tellSeat : MethodName := ⟨RX7, "tellSeat", "(LWhisperSeats$Park;LWhisperSeats$Visitor;)Z"⟩
abbrev cX7_nameOf : ByteArray := prog_9_method_9_code
def yX7_nameOf : MethodName := ⟨RX7, "nameOf", "(I)Ljava/lang/String;"⟩
abbrev cX7_isWord : ByteArray := prog_9_method_10_code
def yX7_isWord : MethodName := ⟨RX7, "isWord", "(Ljava/lang/String;)Z"⟩
abbrev cX7_isNumberBelow : ByteArray := prog_9_method_11_code
def yX7_isNumberBelow : MethodName := ⟨RX7, "isNumberBelow", "(I)Z"⟩
abbrev cX7_advance : ByteArray := prog_9_method_12_code
def yX7_advance : MethodName := ⟨RX7, "advance", "()V"⟩
abbrev cX7_takeWord : ByteArray := prog_9_method_13_code
def yX7_takeWord : MethodName := ⟨RX7, "takeWord", "()V"⟩
abbrev cX7_takeNumber : ByteArray := prog_9_method_14_code
def yX7_takeNumber : MethodName := ⟨RX7, "takeNumber", "()V"⟩
abbrev cX7_isLetter : ByteArray := prog_9_method_15_code
def yX7_isLetter : MethodName := ⟨RX7, "isLetter", "(I)Z"⟩
abbrev cX7_isDigit : ByteArray := prog_9_method_16_code
def yX7_isDigit : MethodName := ⟨RX7, "isDigit", "(I)Z"⟩
def RX8 : String := "WhisperSeats$Visitor"
def TX8 : u_T := fun k => match k with
  | 0 => ("WhisperSeats$Visitor", "kind", "I", false)
  | 1 => ("WhisperSeats$Visitor", "known", "I", false)
  | 2 => ("WhisperSeats$Visitor", "believed", "I", false)
  | 3 => ("WhisperSeats$Visitor", "seat", "I", false)
  | 4 => ("WhisperSeats$Visitor", "sat", "I", false)
  | _ => ("WhisperSeats$Visitor", "heard", "I", false)
def tyX8 : Nat → FieldType := fun k => match k with
  | 0 => .int
  | 1 => .int
  | 2 => .int
  | 3 => .int
  | 4 => .int
  | _ => .int
theorem nmX8 : ∀ a, a < 6 → ∀ b, b < 6 → a ≠ b → (TX8 a).2.1 ≠ (TX8 b).2.1 := by decide +kernel
theorem tyX8_ok : ∀ k, k < 6 → parseFieldDescriptor (TX8 k).2.2.1 = some (tyX8 k) := by decide +kernel
abbrev cX8_init : ByteArray := prog_10_method_1_code
def yX8_init : MethodName := ⟨RX8, "<init>", "()V"⟩
abbrev cX8_beNew : ByteArray := prog_10_method_2_code
def yX8_beNew : MethodName := ⟨RX8, "beNew", "(I)V"⟩
abbrev cX8_become : ByteArray := prog_10_method_3_code
def yX8_become : MethodName := ⟨RX8, "become", "(LWhisperSeats$Visitor;)V"⟩
abbrev cX8_settle : ByteArray := prog_10_method_4_code
def yX8_settle : MethodName := ⟨RX8, "settle", "(I)V"⟩
abbrev cX8_learnJust : ByteArray := prog_10_method_5_code
def yX8_learnJust : MethodName := ⟨RX8, "learnJust", "(I)I"⟩
abbrev cX8_believeJust : ByteArray := prog_10_method_6_code
def yX8_believeJust : MethodName := ⟨RX8, "believeJust", "(I)I"⟩
abbrev cX8_haveHeard : ByteArray := prog_10_method_7_code
def yX8_haveHeard : MethodName := ⟨RX8, "haveHeard", "(I)I"⟩
abbrev cX8_hear : ByteArray := prog_10_method_8_code
def yX8_hear : MethodName := ⟨RX8, "hear", "(IZ)V"⟩
abbrev cX8_hearItself : ByteArray := prog_10_method_9_code
def yX8_hearItself : MethodName := ⟨RX8, "hearItself", "(I)V"⟩
def RX9 : String := "WhisperSeats$Wife"
def TX9 : u_T := fun k => match k with
  | _ => ("", "", "", false)
def tyX9 : Nat → FieldType := fun k => match k with
  | _ => .int
theorem nmX9 : ∀ a, a < 0 → ∀ b, b < 0 → a ≠ b → (TX9 a).2.1 ≠ (TX9 b).2.1 := by decide +kernel
theorem tyX9_ok : ∀ k, k < 0 → parseFieldDescriptor (TX9 k).2.2.1 = some (tyX9 k) := by decide +kernel
abbrev cX9_init : ByteArray := prog_11_method_1_code
def yX9_init : MethodName := ⟨RX9, "<init>", "()V"⟩
abbrev cX9_says : ByteArray := prog_11_method_2_code
def yX9_says : MethodName := ⟨RX9, "says", "(LWhisperSeats$Visitor;II)I"⟩
abbrev cX9_believes : ByteArray := prog_11_method_3_code
def yX9_believes : MethodName := ⟨RX9, "believes", "(ZI)Z"⟩
abbrev cX9_stays : ByteArray := prog_11_method_4_code
def yX9_stays : MethodName := ⟨RX9, "stays", "(LWhisperSeats$Visitor;)I"⟩
def RX10 : String := "WhisperSeats"
def TX10 : u_T := fun k => match k with
  | 0 => ("WhisperSeats", "here", "LWhisperSeats$Park;", true)
  | 1 => ("WhisperSeats", "ahead", "LWhisperSeats$Park;", true)
  | 2 => ("WhisperSeats", "kept", "LWhisperSeats$Park;", true)
  | 3 => ("WhisperSeats", "isKept", "Z", false)
  | 4 => ("WhisperSeats", "tape", "LWhisperSeats$Tape;", true)
  | 5 => ("WhisperSeats", "sheets", "[LWhisperSeats$Sheet;", true)
  | 6 => ("WhisperSeats", "findings", "[I", true)
  | _ => ("WhisperSeats", "scores", "[I", true)
def tyX10 : Nat → FieldType := fun k => match k with
  | 0 => .object "WhisperSeats$Park"
  | 1 => .object "WhisperSeats$Park"
  | 2 => .object "WhisperSeats$Park"
  | 3 => .boolean
  | 4 => .object "WhisperSeats$Tape"
  | 5 => .array (.object "WhisperSeats$Sheet")
  | 6 => .array .int
  | _ => .array .int
theorem nmX10 : ∀ a, a < 8 → ∀ b, b < 8 → a ≠ b → (TX10 a).2.1 ≠ (TX10 b).2.1 := by decide +kernel
theorem tyX10_ok : ∀ k, k < 8 → parseFieldDescriptor (TX10 k).2.2.1 = some (tyX10 k) := by decide +kernel
abbrev cX10_init : ByteArray := prog_1_method_1_code
def yX10_init : MethodName := ⟨RX10, "<init>", "()V"⟩
abbrev cX10_sham : ByteArray := prog_1_method_2_code
def yX10_sham : MethodName := ⟨RX10, "sham", "(I)I"⟩
abbrev cX10_who : ByteArray := prog_1_method_3_code
def yX10_who : MethodName := ⟨RX10, "who", "(II)I"⟩
abbrev cX10_person : ByteArray := prog_1_method_4_code
def yX10_person : MethodName := ⟨RX10, "person", "(I)I"⟩
abbrev cX10_of : ByteArray := prog_1_method_5_code
def yX10_of : MethodName := ⟨RX10, "of", "(II)I"⟩
abbrev cX10_set : ByteArray := prog_1_method_6_code
def yX10_set : MethodName := ⟨RX10, "set", "(III)I"⟩
abbrev cX10_turn : ByteArray := prog_1_method_7_code
def yX10_turn : MethodName := ⟨RX10, "turn", "(II)I"⟩
abbrev cX10_as : ByteArray := prog_1_method_8_code
def yX10_as : MethodName := ⟨RX10, "as", "(II)I"⟩
abbrev cX10_sit : ByteArray := prog_1_method_9_code
def yX10_sit : MethodName := ⟨RX10, "sit", "(II)I"⟩
abbrev cX10_trusts : ByteArray := prog_1_method_10_code
def yX10_trusts : MethodName := ⟨RX10, "trusts", "(II)I"⟩
abbrev cX10_hours : ByteArray := prog_1_method_11_code
def yX10_hours : MethodName := ⟨RX10, "hours", "(I)I"⟩
abbrev cX10_now : ByteArray := prog_1_method_12_code
def yX10_now : MethodName := ⟨RX10, "now", "(I)I"⟩
abbrev cX10_on : ByteArray := prog_1_method_13_code
def yX10_on : MethodName := ⟨RX10, "on", "(III)I"⟩
abbrev cX10_knows : ByteArray := prog_1_method_14_code
def yX10_knows : MethodName := ⟨RX10, "knows", "(II)I"⟩
abbrev cX10_out : ByteArray := prog_1_method_15_code
def yX10_out : MethodName := ⟨RX10, "out", "(I)I"⟩
abbrev cX10_meet : ByteArray := prog_1_method_16_code
def yX10_meet : MethodName := ⟨RX10, "meet", "(II)I"⟩
abbrev cX10_kind : ByteArray := prog_1_method_17_code
def yX10_kind : MethodName := ⟨RX10, "kind", "(II)I"⟩
abbrev cX10_forget : ByteArray := prog_1_method_18_code
def yX10_forget : MethodName := ⟨RX10, "forget", "(II)I"⟩
abbrev cX10_confide : ByteArray := prog_1_method_19_code
def yX10_confide : MethodName := ⟨RX10, "confide", "(II)I"⟩
abbrev cX10_enough : ByteArray := prog_1_method_20_code
def yX10_enough : MethodName := ⟨RX10, "enough", "(II)I"⟩
abbrev cX10_doubt : ByteArray := prog_1_method_21_code
def yX10_doubt : MethodName := ⟨RX10, "doubt", "(I)I"⟩
abbrev cX10_wisest : ByteArray := prog_1_method_22_code
def yX10_wisest : MethodName := ⟨RX10, "wisest", "(I)I"⟩
abbrev cX10_feed : ByteArray := prog_1_method_23_code
def yX10_feed : MethodName := ⟨RX10, "feed", "(II)I"⟩
abbrev cX10_wipe : ByteArray := prog_1_method_24_code
def yX10_wipe : MethodName := ⟨RX10, "wipe", "()I"⟩
abbrev cX10_park : ByteArray := prog_1_method_25_code
def yX10_park : MethodName := ⟨RX10, "park", "()I"⟩
abbrev cX10_sheet : ByteArray := prog_1_method_26_code
def yX10_sheet : MethodName := ⟨RX10, "sheet", "(III)I"⟩
abbrev cX10_write : ByteArray := prog_1_method_27_code
def yX10_write : MethodName := ⟨RX10, "write", "(IIJ)J"⟩
abbrev cX10_copy : ByteArray := prog_1_method_28_code
def yX10_copy : MethodName := ⟨RX10, "copy", "(IIIII)I"⟩
abbrev cX10_lays : ByteArray := prog_1_method_29_code
def yX10_lays : MethodName := ⟨RX10, "lays", "(I)I"⟩
abbrev cX10_book : ByteArray := prog_1_method_30_code
def yX10_book : MethodName := ⟨RX10, "book", "(II)I"⟩
abbrev cX10_read : ByteArray := prog_1_method_31_code
def yX10_read : MethodName := ⟨RX10, "read", "(III)I"⟩
abbrev cX10_image : ByteArray := prog_1_method_32_code
def yX10_image : MethodName := ⟨RX10, "image", "()I"⟩
abbrev cX10_undo : ByteArray := prog_1_method_33_code
def yX10_undo : MethodName := ⟨RX10, "undo", "()I"⟩
abbrev cX10_tear : ByteArray := prog_1_method_34_code
def yX10_tear : MethodName := ⟨RX10, "tear", "()I"⟩
abbrev cX10_count : ByteArray := prog_1_method_35_code
def yX10_count : MethodName := ⟨RX10, "count", "(I)I"⟩
abbrev cX10_status : ByteArray := prog_1_method_36_code
def yX10_status : MethodName := ⟨RX10, "status", "(I)I"⟩
abbrev cX10_finding : ByteArray := prog_1_method_37_code
def yX10_finding : MethodName := ⟨RX10, "finding", "(I)I"⟩
abbrev cX10_faultOfSheet : ByteArray := prog_1_method_38_code
def yX10_faultOfSheet : MethodName := ⟨RX10, "faultOfSheet", "(I)I"⟩
abbrev cX10_areTwo : ByteArray := prog_1_method_39_code
def yX10_areTwo : MethodName := ⟨RX10, "areTwo", "(II)Z"⟩
abbrev cX10_firstHour : ByteArray := prog_1_method_40_code
def yX10_firstHour : MethodName := ⟨RX10, "firstHour", "(III)I"⟩
abbrev cX10_isSoAhead : ByteArray := prog_1_method_41_code
def yX10_isSoAhead : MethodName := ⟨RX10, "isSoAhead", "(III)Z"⟩
abbrev cX10_learntAs : ByteArray := prog_1_method_42_code
def yX10_learntAs : MethodName := ⟨RX10, "learntAs", "(III)I"⟩
abbrev cX10_heardWithout : ByteArray := prog_1_method_43_code
def yX10_heardWithout : MethodName := ⟨RX10, "heardWithout", "(III)I"⟩
abbrev cX10_spreadFrom : ByteArray := prog_1_method_44_code
def yX10_spreadFrom : MethodName := ⟨RX10, "spreadFrom", "(III)I"⟩
abbrev cX10_believedIfTurned : ByteArray := prog_1_method_45_code
def yX10_believedIfTurned : MethodName := ⟨RX10, "believedIfTurned", "(II)I"⟩
abbrev cX10_goesAsTold : ByteArray := prog_1_method_46_code
def yX10_goesAsTold : MethodName := ⟨RX10, "goesAsTold", "(LWhisperSeats$Sheet;I)Z"⟩
abbrev cX10_leastOfBest : ByteArray := prog_1_method_47_code
def yX10_leastOfBest : MethodName := ⟨RX10, "leastOfBest", "(I)I"⟩
abbrev cX10_isSecret : ByteArray := prog_1_method_48_code
def yX10_isSecret : MethodName := ⟨RX10, "isSecret", "(I)Z"⟩
abbrev cX10_isSetOfSecrets : ByteArray := prog_1_method_49_code
def yX10_isSetOfSecrets : MethodName := ⟨RX10, "isSetOfSecrets", "(I)Z"⟩
abbrev cX10_isKind : ByteArray := prog_1_method_50_code
def yX10_isKind : MethodName := ⟨RX10, "isKind", "(I)Z"⟩
abbrev cX10_isSheet : ByteArray := prog_1_method_51_code
def yX10_isSheet : MethodName := ⟨RX10, "isSheet", "(I)Z"⟩
abbrev cX10_isUnder : ByteArray := prog_1_method_52_code
def yX10_isUnder : MethodName := ⟨RX10, "isUnder", "(II)Z"⟩
abbrev cX10_holds : ByteArray := prog_1_method_53_code
def yX10_holds : MethodName := ⟨RX10, "holds", "(II)Z"⟩
abbrev cX10_least : ByteArray := prog_1_method_54_code
def yX10_least : MethodName := ⟨RX10, "least", "(I)I"⟩
abbrev cX10_greatest : ByteArray := prog_1_method_55_code
def yX10_greatest : MethodName := ⟨RX10, "greatest", "(I)I"⟩
def RX11 : String := "WhisperSeatsModel"
def TX11 : u_T := fun k => match k with
  | 0 => ("WhisperSeatsModel", "s", "[I", true)
  | 1 => ("WhisperSeatsModel", "kept", "[I", true)
  | 2 => ("WhisperSeatsModel", "before", "[I", true)
  | 3 => ("WhisperSeatsModel", "aside", "[I", true)
  | 4 => ("WhisperSeatsModel", "isKept", "Z", false)
  | 5 => ("WhisperSeatsModel", "findings", "[I", true)
  | 6 => ("WhisperSeatsModel", "tape", "[I", true)
  | 7 => ("WhisperSeatsModel", "taped", "I", false)
  | 8 => ("WhisperSeatsModel", "bitsOf", "[I", true)
  | 9 => ("WhisperSeatsModel", "sizes", "[I", true)
  | 10 => ("WhisperSeatsModel", "numbers", "[J", true)
  | 11 => ("WhisperSeatsModel", "token", "I", false)
  | 12 => ("WhisperSeatsModel", "from", "I", false)
  | 13 => ("WhisperSeatsModel", "to", "I", false)
  | 14 => ("WhisperSeatsModel", "value", "I", false)
  | _ => ("WhisperSeatsModel", "faultAt", "I", false)
def tyX11 : Nat → FieldType := fun k => match k with
  | 0 => .array .int
  | 1 => .array .int
  | 2 => .array .int
  | 3 => .array .int
  | 4 => .boolean
  | 5 => .array .int
  | 6 => .array .int
  | 7 => .int
  | 8 => .array .int
  | 9 => .array .int
  | 10 => .array .long
  | 11 => .int
  | 12 => .int
  | 13 => .int
  | 14 => .int
  | _ => .int
theorem nmX11 : ∀ a, a < 16 → ∀ b, b < 16 → a ≠ b → (TX11 a).2.1 ≠ (TX11 b).2.1 := by decide +kernel
theorem tyX11_ok : ∀ k, k < 16 → parseFieldDescriptor (TX11 k).2.2.1 = some (tyX11 k) := by decide +kernel
abbrev cX11_init : ByteArray := prog_13_method_1_code
def yX11_init : MethodName := ⟨RX11, "<init>", "()V"⟩
abbrev cX11_isIn : ByteArray := prog_13_method_2_code
def yX11_isIn : MethodName := ⟨RX11, "isIn", "(JJJ)Z"⟩
abbrev cX11_finds : ByteArray := prog_13_method_3_code
def yX11_finds : MethodName := ⟨RX11, "finds", "(I)I"⟩
abbrev cX11_becomes : ByteArray := prog_13_method_4_code
def yX11_becomes : MethodName := ⟨RX11, "becomes", "(II)I"⟩
abbrev cX11_copyRow : ByteArray := prog_13_method_5_code
def yX11_copyRow : MethodName := ⟨RX11, "copyRow", "([I[I)V"⟩
abbrev cX11_isSecret : ByteArray := prog_13_method_6_code
def yX11_isSecret : MethodName := ⟨RX11, "isSecret", "(I)Z"⟩
abbrev cX11_isOne : ByteArray := prog_13_method_7_code
def yX11_isOne : MethodName := ⟨RX11, "isOne", "(I)Z"⟩
abbrev cX11_at : ByteArray := prog_13_method_8_code
def yX11_at : MethodName := ⟨RX11, "at", "(II)I"⟩
abbrev cX11_its : ByteArray := prog_13_method_9_code
def yX11_its : MethodName := ⟨RX11, "its", "(II)I"⟩
abbrev cX11_many : ByteArray := prog_13_method_10_code
def yX11_many : MethodName := ⟨RX11, "many", "(I)I"⟩
abbrev cX11_orNone : ByteArray := prog_13_method_11_code
def yX11_orNone : MethodName := ⟨RX11, "orNone", "(I)I"⟩
abbrev cX11_first : ByteArray := prog_13_method_12_code
def yX11_first : MethodName := ⟨RX11, "first", "(I)I"⟩
abbrev cX11_last : ByteArray := prog_13_method_13_code
def yX11_last : MethodName := ⟨RX11, "last", "(I)I"⟩
abbrev cX11_sham : ByteArray := prog_13_method_14_code
def yX11_sham : MethodName := ⟨RX11, "sham", "(I)I"⟩
abbrev cX11_who : ByteArray := prog_13_method_15_code
def yX11_who : MethodName := ⟨RX11, "who", "(II)I"⟩
abbrev cX11_comes : ByteArray := prog_13_method_16_code
def yX11_comes : MethodName := ⟨RX11, "comes", "(I)V"⟩
abbrev cX11_person : ByteArray := prog_13_method_17_code
def yX11_person : MethodName := ⟨RX11, "person", "(I)I"⟩
abbrev cX11_saysPlain : ByteArray := prog_13_method_18_code
def yX11_saysPlain : MethodName := ⟨RX11, "saysPlain", "(I)I"⟩
abbrev cX11_says : ByteArray := prog_13_method_19_code
def yX11_says : MethodName := ⟨RX11, "says", "(I)I"⟩
abbrev cX11_isTrusted : ByteArray := prog_13_method_20_code
def yX11_isTrusted : MethodName := ⟨RX11, "isTrusted", "(II)Z"⟩
abbrev cX11_stays : ByteArray := prog_13_method_21_code
def yX11_stays : MethodName := ⟨RX11, "stays", "(I)I"⟩
abbrev cX11_of : ByteArray := prog_13_method_22_code
def yX11_of : MethodName := ⟨RX11, "of", "(II)I"⟩
abbrev cX11_may : ByteArray := prog_13_method_23_code
def yX11_may : MethodName := ⟨RX11, "may", "(III)Z"⟩
abbrev cX11_knowsNow : ByteArray := prog_13_method_24_code
def yX11_knowsNow : MethodName := ⟨RX11, "knowsNow", "(II)I"⟩
abbrev cX11_set : ByteArray := prog_13_method_25_code
def yX11_set : MethodName := ⟨RX11, "set", "(III)I"⟩
abbrev cX11_turn : ByteArray := prog_13_method_26_code
def yX11_turn : MethodName := ⟨RX11, "turn", "(II)I"⟩
abbrev cX11_isUnder : ByteArray := prog_13_method_27_code
def yX11_isUnder : MethodName := ⟨RX11, "isUnder", "(II)Z"⟩
abbrev cX11_as : ByteArray := prog_13_method_28_code
def yX11_as : MethodName := ⟨RX11, "as", "(II)I"⟩
abbrev cX11_sitter : ByteArray := prog_13_method_29_code
def yX11_sitter : MethodName := ⟨RX11, "sitter", "(I)I"⟩
abbrev cX11_sit : ByteArray := prog_13_method_30_code
def yX11_sit : MethodName := ⟨RX11, "sit", "(II)I"⟩
abbrev cX11_trusts : ByteArray := prog_13_method_31_code
def yX11_trusts : MethodName := ⟨RX11, "trusts", "(II)I"⟩
abbrev cX11_isMonday : ByteArray := prog_13_method_32_code
def yX11_isMonday : MethodName := ⟨RX11, "isMonday", "()Z"⟩
abbrev cX11_hears : ByteArray := prog_13_method_33_code
def yX11_hears : MethodName := ⟨RX11, "hears", "(II)V"⟩
abbrev cX11_hearsItself : ByteArray := prog_13_method_34_code
def yX11_hearsItself : MethodName := ⟨RX11, "hearsItself", "(II)V"⟩
abbrev cX11_nextIn : ByteArray := prog_13_method_35_code
def yX11_nextIn : MethodName := ⟨RX11, "nextIn", "(I)I"⟩
abbrev cX11_goesOn : ByteArray := prog_13_method_36_code
def yX11_goesOn : MethodName := ⟨RX11, "goesOn", "()V"⟩
abbrev cX11_goes : ByteArray := prog_13_method_37_code
def yX11_goes : MethodName := ⟨RX11, "goes", "(I)V"⟩
abbrev cX11_heardOfAll : ByteArray := prog_13_method_38_code
def yX11_heardOfAll : MethodName := ⟨RX11, "heardOfAll", "()I"⟩
abbrev cX11_believed : ByteArray := prog_13_method_39_code
def yX11_believed : MethodName := ⟨RX11, "believed", "()I"⟩
abbrev cX11_hours : ByteArray := prog_13_method_40_code
def yX11_hours : MethodName := ⟨RX11, "hours", "(I)I"⟩
abbrev cX11_outNow : ByteArray := prog_13_method_41_code
def yX11_outNow : MethodName := ⟨RX11, "outNow", "()I"⟩
abbrev cX11_now : ByteArray := prog_13_method_42_code
def yX11_now : MethodName := ⟨RX11, "now", "(I)I"⟩
abbrev cX11_on : ByteArray := prog_13_method_43_code
def yX11_on : MethodName := ⟨RX11, "on", "(III)I"⟩
abbrev cX11_knows : ByteArray := prog_13_method_44_code
def yX11_knows : MethodName := ⟨RX11, "knows", "(II)I"⟩
abbrev cX11_out : ByteArray := prog_13_method_45_code
def yX11_out : MethodName := ⟨RX11, "out", "(I)I"⟩
abbrev cX11_meet : ByteArray := prog_13_method_46_code
def yX11_meet : MethodName := ⟨RX11, "meet", "(II)I"⟩
abbrev cX11_kind : ByteArray := prog_13_method_47_code
def yX11_kind : MethodName := ⟨RX11, "kind", "(II)I"⟩
abbrev cX11_isAsked : ByteArray := prog_13_method_48_code
def yX11_isAsked : MethodName := ⟨RX11, "isAsked", "(II)Z"⟩
abbrev cX11_forget : ByteArray := prog_13_method_49_code
def yX11_forget : MethodName := ⟨RX11, "forget", "(II)I"⟩
abbrev cX11_howManyKnow : ByteArray := prog_13_method_50_code
def yX11_howManyKnow : MethodName := ⟨RX11, "howManyKnow", "(I)I"⟩
abbrev cX11_confide : ByteArray := prog_13_method_51_code
def yX11_confide : MethodName := ⟨RX11, "confide", "(II)I"⟩
abbrev cX11_enough : ByteArray := prog_13_method_52_code
def yX11_enough : MethodName := ⟨RX11, "enough", "(II)I"⟩
abbrev cX11_doubt : ByteArray := prog_13_method_53_code
def yX11_doubt : MethodName := ⟨RX11, "doubt", "(I)I"⟩
abbrev cX11_wisest : ByteArray := prog_13_method_54_code
def yX11_wisest : MethodName := ⟨RX11, "wisest", "(I)I"⟩
abbrev cX11_feed : ByteArray := prog_13_method_55_code
def yX11_feed : MethodName := ⟨RX11, "feed", "(II)I"⟩
abbrev cX11_wipe : ByteArray := prog_13_method_56_code
def yX11_wipe : MethodName := ⟨RX11, "wipe", "()I"⟩
abbrev cX11_isLetter : ByteArray := prog_13_method_57_code
def yX11_isLetter : MethodName := ⟨RX11, "isLetter", "(I)Z"⟩
abbrev cX11_isDigit : ByteArray := prog_13_method_58_code
def yX11_isDigit : MethodName := ⟨RX11, "isDigit", "(I)Z"⟩
abbrev cX11_byteAt : ByteArray := prog_13_method_59_code
def yX11_byteAt : MethodName := ⟨RX11, "byteAt", "(I)I"⟩
abbrev cX11_nextToken : ByteArray := prog_13_method_60_code
def yX11_nextToken : MethodName := ⟨RX11, "nextToken", "()V"⟩
abbrev cX11_has3 : ByteArray := prog_13_method_61_code
def yX11_has3 : MethodName := ⟨RX11, "has3", "(IIII)Z"⟩
abbrev cX11_isWord : ByteArray := prog_13_method_62_code
def yX11_isWord : MethodName := ⟨RX11, "isWord", "(I)Z"⟩
abbrev cX11_fails : ByteArray := prog_13_method_63_code
def yX11_fails : MethodName := ⟨RX11, "fails", "()Z"⟩
abbrev cX11_isFour : ByteArray := prog_13_method_64_code
def yX11_isFour : MethodName := ⟨RX11, "isFour", "(IIII)Z"⟩
abbrev cX11_isFive : ByteArray := prog_13_method_65_code
def yX11_isFive : MethodName := ⟨RX11, "isFive", "(IIIII)Z"⟩
abbrev cX11_isSix : ByteArray := prog_13_method_66_code
def yX11_isSix : MethodName := ⟨RX11, "isSix", "(IIIIII)Z"⟩
abbrev cX11_kindHere : ByteArray := prog_13_method_67_code
def yX11_kindHere : MethodName := ⟨RX11, "kindHere", "()I"⟩
abbrev cX11_isNumber : ByteArray := prog_13_method_68_code
def yX11_isNumber : MethodName := ⟨RX11, "isNumber", "(II)Z"⟩
abbrev cX11_knowsHere : ByteArray := prog_13_method_69_code
def yX11_knowsHere : MethodName := ⟨RX11, "knowsHere", "(I)Z"⟩
abbrev cX11_personHere : ByteArray := prog_13_method_70_code
def yX11_personHere : MethodName := ⟨RX11, "personHere", "(I)Z"⟩
abbrev cX11_secretHere : ByteArray := prog_13_method_71_code
def yX11_secretHere : MethodName := ⟨RX11, "secretHere", "(Z)Z"⟩
abbrev cX11_itemHere : ByteArray := prog_13_method_72_code
def yX11_itemHere : MethodName := ⟨RX11, "itemHere", "()Z"⟩
abbrev cX11_park : ByteArray := prog_13_method_73_code
def yX11_park : MethodName := ⟨RX11, "park", "()I"⟩
abbrev cX11_isSheet : ByteArray := prog_13_method_74_code
def yX11_isSheet : MethodName := ⟨RX11, "isSheet", "(I)Z"⟩
abbrev cX11_narrow : ByteArray := prog_13_method_75_code
def yX11_narrow : MethodName := ⟨RX11, "narrow", "(IJ)J"⟩
abbrev cX11_sheet : ByteArray := prog_13_method_76_code
def yX11_sheet : MethodName := ⟨RX11, "sheet", "(III)I"⟩
abbrev cX11_write : ByteArray := prog_13_method_77_code
def yX11_write : MethodName := ⟨RX11, "write", "(IIJ)J"⟩
abbrev cX11_copy : ByteArray := prog_13_method_78_code
def yX11_copy : MethodName := ⟨RX11, "copy", "(IIIII)I"⟩
abbrev cX11_wants : ByteArray := prog_13_method_79_code
def yX11_wants : MethodName := ⟨RX11, "wants", "(I)I"⟩
abbrev cX11_lays : ByteArray := prog_13_method_80_code
def yX11_lays : MethodName := ⟨RX11, "lays", "(I)I"⟩
abbrev cX11_book : ByteArray := prog_13_method_81_code
def yX11_book : MethodName := ⟨RX11, "book", "(II)I"⟩
abbrev cX11_isSo : ByteArray := prog_13_method_82_code
def yX11_isSo : MethodName := ⟨RX11, "isSo", "(II)Z"⟩
abbrev cX11_read : ByteArray := prog_13_method_83_code
def yX11_read : MethodName := ⟨RX11, "read", "(III)I"⟩
abbrev cX11_image : ByteArray := prog_13_method_84_code
def yX11_image : MethodName := ⟨RX11, "image", "()I"⟩
abbrev cX11_undo : ByteArray := prog_13_method_85_code
def yX11_undo : MethodName := ⟨RX11, "undo", "()I"⟩
abbrev cX11_tear : ByteArray := prog_13_method_86_code
def yX11_tear : MethodName := ⟨RX11, "tear", "()I"⟩
abbrev cX11_count : ByteArray := prog_13_method_87_code
def yX11_count : MethodName := ⟨RX11, "count", "(I)I"⟩
abbrev cX11_status : ByteArray := prog_13_method_88_code
def yX11_status : MethodName := ⟨RX11, "status", "(I)I"⟩
def RJ6 : String := "java/lang/Integer"
def TJ6 : u_T := fun k => match k with
  | _ => ("", "", "", false)
def tyJ6 : Nat → FieldType := fun k => match k with
  | _ => .int
theorem nmJ6 : ∀ a, a < 0 → ∀ b, b < 0 → a ≠ b → (TJ6 a).2.1 ≠ (TJ6 b).2.1 := by decide +kernel
theorem tyJ6_ok : ∀ k, k < 0 → parseFieldDescriptor (TJ6 k).2.2.1 = some (tyJ6 k) := by decide +kernel
abbrev cJ6_bitCount_0f7a4 : ByteArray := prog_14_method_49_code
def yJ6_bitCount_0f7a4 : MethodName := ⟨RJ6, "bitCount", "(I)I"⟩
def RJ9 : String := "java/lang/Math"
def TJ9 : u_T := fun k => match k with
  | _ => ("", "", "", false)
def tyJ9 : Nat → FieldType := fun k => match k with
  | _ => .int
theorem nmJ9 : ∀ a, a < 0 → ∀ b, b < 0 → a ≠ b → (TJ9 a).2.1 ≠ (TJ9 b).2.1 := by decide +kernel
theorem tyJ9_ok : ∀ k, k < 0 → parseFieldDescriptor (TJ9 k).2.2.1 = some (tyJ9 k) := by decide +kernel
abbrev cJ9_min_7cf53 : ByteArray := prog_15_method_69_code
def yJ9_min_7cf53 : MethodName := ⟨RJ9, "min", "(II)I"⟩
def RJ0 : String := "java/lang/String"
def TJ0 : u_T := fun k => match k with
  | _ => ("", "", "", false)
def tyJ0 : Nat → FieldType := fun k => match k with
  | _ => .int
theorem nmJ0 : ∀ a, a < 0 → ∀ b, b < 0 → a ≠ b → (TJ0 a).2.1 ≠ (TJ0 b).2.1 := by decide +kernel
theorem tyJ0_ok : ∀ k, k < 0 → parseFieldDescriptor (TJ0 k).2.2.1 = some (tyJ0 k) := by decide +kernel
abbrev cJ0_length_8abf5 : ByteArray := prog_16_method_54_code
def yJ0_length_8abf5 : MethodName := ⟨RJ0, "length", "()I"⟩
abbrev cJ0_charAt_5068e : ByteArray := prog_16_method_56_code
def yJ0_charAt_5068e : MethodName := ⟨RJ0, "charAt", "(I)C"⟩
abbrev cJ0_coder_7d493 : ByteArray := prog_16_method_152_code
def yJ0_coder_7d493 : MethodName := ⟨RJ0, "coder", "()B"⟩
abbrev cJ0_isLatin1_aae02 : ByteArray := prog_16_method_154_code
def yJ0_isLatin1_aae02 : MethodName := ⟨RJ0, "isLatin1", "()Z"⟩
abbrev cJ0_checkIndex_df160 : ByteArray := prog_16_method_155_code
def yJ0_checkIndex_df160 : MethodName := ⟨RJ0, "checkIndex", "(II)V"⟩
def RJ1 : String := "java/lang/StringLatin1"
def TJ1 : u_T := fun k => match k with
  | _ => ("", "", "", false)
def tyJ1 : Nat → FieldType := fun k => match k with
  | _ => .int
theorem nmJ1 : ∀ a, a < 0 → ∀ b, b < 0 → a ≠ b → (TJ1 a).2.1 ≠ (TJ1 b).2.1 := by decide +kernel
theorem tyJ1_ok : ∀ k, k < 0 → parseFieldDescriptor (TJ1 k).2.2.1 = some (tyJ1 k) := by decide +kernel
abbrev cJ1_charAt_3b067 : ByteArray := prog_17_method_2_code
def yJ1_charAt_3b067 : MethodName := ⟨RJ1, "charAt", "([BI)C"⟩
def RJ2 : String := "java/lang/StringUTF16"
def TJ2 : u_T := fun k => match k with
  | _ => ("", "", "", false)
def tyJ2 : Nat → FieldType := fun k => match k with
  | _ => .int
theorem nmJ2 : ∀ a, a < 0 → ∀ b, b < 0 → a ≠ b → (TJ2 a).2.1 ≠ (TJ2 b).2.1 := by decide +kernel
theorem tyJ2_ok : ∀ k, k < 0 → parseFieldDescriptor (TJ2 k).2.2.1 = some (tyJ2 k) := by decide +kernel
abbrev cJ2_getChar_3b067 : ByteArray := prog_18_method_5_code
def yJ2_getChar_3b067 : MethodName := ⟨RJ2, "getChar", "([BI)C"⟩
abbrev cJ2_length_9d52b : ByteArray := prog_18_method_6_code
def yJ2_length_9d52b : MethodName := ⟨RJ2, "length", "([B)I"⟩
abbrev cJ2_charAt_3b067 : ByteArray := prog_18_method_83_code
def yJ2_charAt_3b067 : MethodName := ⟨RJ2, "charAt", "([BI)C"⟩
abbrev cJ2_checkIndex_2214a : ByteArray := prog_18_method_91_code
def yJ2_checkIndex_2214a : MethodName := ⟨RJ2, "checkIndex", "(I[B)V"⟩
def RJ10 : String := "java/lang/System"
def TJ10 : u_T := fun k => match k with
  | _ => ("", "", "", false)
def tyJ10 : Nat → FieldType := fun k => match k with
  | _ => .int
theorem nmJ10 : ∀ a, a < 0 → ∀ b, b < 0 → a ≠ b → (TJ10 a).2.1 ≠ (TJ10 b).2.1 := by decide +kernel
theorem tyJ10_ok : ∀ k, k < 0 → parseFieldDescriptor (TJ10 k).2.2.1 = some (tyJ10 k) := by decide +kernel
def RJ3 : String := "jdk/internal/util/Preconditions"
def TJ3 : u_T := fun k => match k with
  | _ => ("", "", "", false)
def tyJ3 : Nat → FieldType := fun k => match k with
  | _ => .int
theorem nmJ3 : ∀ a, a < 0 → ∀ b, b < 0 → a ≠ b → (TJ3 a).2.1 ≠ (TJ3 b).2.1 := by decide +kernel
theorem tyJ3_ok : ∀ k, k < 0 → parseFieldDescriptor (TJ3 k).2.2.1 = some (tyJ3 k) := by decide +kernel
abbrev cJ3_checkIndex_8e157 : ByteArray := prog_20_method_11_code
def yJ3_checkIndex_8e157 : MethodName := ⟨RJ3, "checkIndex", "(IILjava/util/function/BiFunction;)I"⟩
def RL : String := "WhisperSeatsLaw"
abbrev cL_law : ByteArray := code
def yL_law : MethodName := ⟨RL, "law", "([I)Z"⟩
abbrev vwCl : List vw_C := [(RX0, TX0, 0), (RX1, TX1, 0), (RX2, TX2, 0), (RX3, TX3, 6), (RX4, TX4, 0), (RX5, TX5, 3), (RX6, TX6, 0), (RX7, TX7, 6), (RX8, TX8, 6), (RX9, TX9, 0), (RX10, TX10, 8), (RX11, TX11, 16)]
end
section
theorem dX0_init_0 : decode cX0_init 0 = .ok (.aload_n 0, 1) := by decide +kernel
theorem dX0_init_1 : decode cX0_init 1 = .ok (.invokespecial 1, 3) := by decide +kernel
theorem dX0_init_4 : decode cX0_init 4 = .ok (.return_, 1) := by decide +kernel
theorem dX0_says_0 : decode cX0_says 0 = .ok (.aload_n 1, 1) := by decide +kernel
theorem dX0_says_1 : decode cX0_says 1 = .ok (.getfield 7, 3) := by decide +kernel
theorem dX0_says_4 : decode cX0_says 4 = .ok (.invokestatic 13, 3) := by decide +kernel
theorem dX0_says_7 : decode cX0_says 7 = .ok (.ireturn, 1) := by decide +kernel
theorem dX0_believes_0 : decode cX0_believes 0 = .ok (.iconst 1, 1) := by decide +kernel
theorem dX0_believes_1 : decode cX0_believes 1 = .ok (.ireturn, 1) := by decide +kernel
theorem dX0_stays_0 : decode cX0_stays 0 = .ok (.aload_n 0, 1) := by decide +kernel
theorem dX0_stays_1 : decode cX0_stays 1 = .ok (.aload_n 1, 1) := by decide +kernel
theorem dX0_stays_2 : decode cX0_stays 2 = .ok (.invokespecial 19, 3) := by decide +kernel
theorem dX0_stays_5 : decode cX0_stays 5 = .ok (.iconst 1, 1) := by decide +kernel
theorem dX0_stays_6 : decode cX0_stays 6 = .ok (.iadd, 1) := by decide +kernel
theorem dX0_stays_7 : decode cX0_stays 7 = .ok (.ireturn, 1) := by decide +kernel
theorem dX1_init_0 : decode cX1_init 0 = .ok (.aload_n 0, 1) := by decide +kernel
theorem dX1_init_1 : decode cX1_init 1 = .ok (.invokespecial 1, 3) := by decide +kernel
theorem dX1_init_4 : decode cX1_init 4 = .ok (.return_, 1) := by decide +kernel
theorem dX1_says_0 : decode cX1_says 0 = .ok (.iload_n 2, 1) := by decide +kernel
theorem dX1_says_1 : decode cX1_says 1 = .ok (.ifCond .eq 10, 3) := by decide +kernel
theorem dX1_says_4 : decode cX1_says 4 = .ok (.iload_n 2, 1) := by decide +kernel
theorem dX1_says_5 : decode cX1_says 5 = .ok (.invokestatic 7, 3) := by decide +kernel
theorem dX1_says_8 : decode cX1_says 8 = .ok (.goto 8, 3) := by decide +kernel
theorem dX1_says_11 : decode cX1_says 11 = .ok (.aload_n 0, 1) := by decide +kernel
theorem dX1_says_12 : decode cX1_says 12 = .ok (.aload_n 1, 1) := by decide +kernel
theorem dX1_says_13 : decode cX1_says 13 = .ok (.invokevirtual 13, 3) := by decide +kernel
theorem dX1_says_16 : decode cX1_says 16 = .ok (.ireturn, 1) := by decide +kernel
theorem dX1_believes_0 : decode cX1_believes 0 = .ok (.iload_n 1, 1) := by decide +kernel
theorem dX1_believes_1 : decode cX1_believes 1 = .ok (.ifCond .ne 7, 3) := by decide +kernel
theorem dX1_believes_4 : decode cX1_believes 4 = .ok (.iconst 1, 1) := by decide +kernel
theorem dX1_believes_5 : decode cX1_believes 5 = .ok (.goto 4, 3) := by decide +kernel
theorem dX1_believes_8 : decode cX1_believes 8 = .ok (.iconst 0, 1) := by decide +kernel
theorem dX1_believes_9 : decode cX1_believes 9 = .ok (.ireturn, 1) := by decide +kernel
theorem dX1_stays_0 : decode cX1_stays 0 = .ok (.bipush 9, 2) := by decide +kernel
theorem dX1_stays_2 : decode cX1_stays 2 = .ok (.ireturn, 1) := by decide +kernel
theorem dX2_init_0 : decode cX2_init 0 = .ok (.aload_n 0, 1) := by decide +kernel
theorem dX2_init_1 : decode cX2_init 1 = .ok (.invokespecial 3, 3) := by decide +kernel
theorem dX2_init_4 : decode cX2_init 4 = .ok (.return_, 1) := by decide +kernel
theorem dX2_says_0 : decode cX2_says 0 = .ok (.iload_n 3, 1) := by decide +kernel
theorem dX2_says_1 : decode cX2_says 1 = .ok (.bipush 12, 2) := by decide +kernel
theorem dX2_says_3 : decode cX2_says 3 = .ok (.if_icmp .ge 7, 3) := by decide +kernel
theorem dX2_says_6 : decode cX2_says 6 = .ok (.iconst (-1), 1) := by decide +kernel
theorem dX2_says_7 : decode cX2_says 7 = .ok (.goto 10, 3) := by decide +kernel
theorem dX2_says_10 : decode cX2_says 10 = .ok (.aload_n 0, 1) := by decide +kernel
theorem dX2_says_11 : decode cX2_says 11 = .ok (.aload_n 1, 1) := by decide +kernel
theorem dX2_says_12 : decode cX2_says 12 = .ok (.iload_n 2, 1) := by decide +kernel
theorem dX2_says_13 : decode cX2_says 13 = .ok (.iload_n 3, 1) := by decide +kernel
theorem dX2_says_14 : decode cX2_says 14 = .ok (.invokespecial 9, 3) := by decide +kernel
theorem dX2_says_17 : decode cX2_says 17 = .ok (.ireturn, 1) := by decide +kernel
theorem dX2_stays_0 : decode cX2_stays 0 = .ok (.aload_n 0, 1) := by decide +kernel
theorem dX2_stays_1 : decode cX2_stays 1 = .ok (.aload_n 1, 1) := by decide +kernel
theorem dX2_stays_2 : decode cX2_stays 2 = .ok (.invokespecial 13, 3) := by decide +kernel
theorem dX2_stays_5 : decode cX2_stays 5 = .ok (.aload_n 1, 1) := by decide +kernel
theorem dX2_stays_6 : decode cX2_stays 6 = .ok (.getfield 17, 3) := by decide +kernel
theorem dX2_stays_9 : decode cX2_stays 9 = .ok (.invokestatic 23, 3) := by decide +kernel
theorem dX2_stays_12 : decode cX2_stays 12 = .ok (.iconst 4, 1) := by decide +kernel
theorem dX2_stays_13 : decode cX2_stays 13 = .ok (.idiv, 1) := by decide +kernel
theorem dX2_stays_14 : decode cX2_stays 14 = .ok (.iadd, 1) := by decide +kernel
theorem dX2_stays_15 : decode cX2_stays 15 = .ok (.ireturn, 1) := by decide +kernel
theorem dX3_init_0 : decode cX3_init 0 = .ok (.aload_n 0, 1) := by decide +kernel
theorem dX3_init_1 : decode cX3_init 1 = .ok (.invokespecial 3, 3) := by decide +kernel
theorem dX3_init_4 : decode cX3_init 4 = .ok (.aload_n 0, 1) := by decide +kernel
theorem dX3_init_5 : decode cX3_init 5 = .ok (.aload_n 1, 1) := by decide +kernel
theorem dX3_init_6 : decode cX3_init 6 = .ok (.putfield 9, 3) := by decide +kernel
theorem dX3_init_9 : decode cX3_init 9 = .ok (.aload_n 0, 1) := by decide +kernel
theorem dX3_init_10 : decode cX3_init 10 = .ok (.bipush 8, 2) := by decide +kernel
theorem dX3_init_12 : decode cX3_init 12 = .ok (.anewarray 15, 3) := by decide +kernel
theorem dX3_init_15 : decode cX3_init 15 = .ok (.putfield 17, 3) := by decide +kernel
theorem dX3_init_18 : decode cX3_init 18 = .ok (.iconst 0, 1) := by decide +kernel
theorem dX3_init_19 : decode cX3_init 19 = .ok (.istore_n 2, 1) := by decide +kernel
theorem dX3_init_20 : decode cX3_init 20 = .ok (.iload_n 2, 1) := by decide +kernel
theorem dX3_init_21 : decode cX3_init 21 = .ok (.bipush 8, 2) := by decide +kernel
theorem dX3_init_23 : decode cX3_init 23 = .ok (.if_icmp .ge 22, 3) := by decide +kernel
theorem dX3_init_26 : decode cX3_init 26 = .ok (.aload_n 0, 1) := by decide +kernel
theorem dX3_init_27 : decode cX3_init 27 = .ok (.getfield 17, 3) := by decide +kernel
theorem dX3_init_30 : decode cX3_init 30 = .ok (.iload_n 2, 1) := by decide +kernel
theorem dX3_init_31 : decode cX3_init 31 = .ok (.new 15, 3) := by decide +kernel
theorem dX3_init_34 : decode cX3_init 34 = .ok (.dup, 1) := by decide +kernel
theorem dX3_init_35 : decode cX3_init 35 = .ok (.invokespecial 21, 3) := by decide +kernel
theorem dX3_init_38 : decode cX3_init 38 = .ok (.aastore, 1) := by decide +kernel
theorem dX3_init_39 : decode cX3_init 39 = .ok (.iinc 2 1, 3) := by decide +kernel
theorem dX3_init_42 : decode cX3_init 42 = .ok (.goto (-22), 3) := by decide +kernel
theorem dX3_init_45 : decode cX3_init 45 = .ok (.aload_n 0, 1) := by decide +kernel
theorem dX3_init_46 : decode cX3_init 46 = .ok (.iconst 0, 1) := by decide +kernel
theorem dX3_init_47 : decode cX3_init 47 = .ok (.putfield 22, 3) := by decide +kernel
theorem dX3_init_50 : decode cX3_init 50 = .ok (.aload_n 0, 1) := by decide +kernel
theorem dX3_init_51 : decode cX3_init 51 = .ok (.iconst 0, 1) := by decide +kernel
theorem dX3_init_52 : decode cX3_init 52 = .ok (.putfield 26, 3) := by decide +kernel
theorem dX3_init_55 : decode cX3_init 55 = .ok (.aload_n 0, 1) := by decide +kernel
theorem dX3_init_56 : decode cX3_init 56 = .ok (.iconst 0, 1) := by decide +kernel
theorem dX3_init_57 : decode cX3_init 57 = .ok (.putfield 29, 3) := by decide +kernel
theorem dX3_init_60 : decode cX3_init 60 = .ok (.aload_n 0, 1) := by decide +kernel
theorem dX3_init_61 : decode cX3_init 61 = .ok (.iconst (-1), 1) := by decide +kernel
theorem dX3_init_62 : decode cX3_init 62 = .ok (.putfield 32, 3) := by decide +kernel
theorem dX3_init_65 : decode cX3_init 65 = .ok (.return_, 1) := by decide +kernel
theorem dX3_become_0 : decode cX3_become 0 = .ok (.aload_n 0, 1) := by decide +kernel
theorem dX3_become_1 : decode cX3_become 1 = .ok (.aload_n 1, 1) := by decide +kernel
theorem dX3_become_2 : decode cX3_become 2 = .ok (.getfield 22, 3) := by decide +kernel
theorem dX3_become_5 : decode cX3_become 5 = .ok (.putfield 22, 3) := by decide +kernel
theorem dX3_become_8 : decode cX3_become 8 = .ok (.aload_n 0, 1) := by decide +kernel
theorem dX3_become_9 : decode cX3_become 9 = .ok (.aload_n 1, 1) := by decide +kernel
theorem dX3_become_10 : decode cX3_become 10 = .ok (.getfield 26, 3) := by decide +kernel
theorem dX3_become_13 : decode cX3_become 13 = .ok (.putfield 26, 3) := by decide +kernel
theorem dX3_become_16 : decode cX3_become 16 = .ok (.aload_n 0, 1) := by decide +kernel
theorem dX3_become_17 : decode cX3_become 17 = .ok (.aload_n 1, 1) := by decide +kernel
theorem dX3_become_18 : decode cX3_become 18 = .ok (.getfield 29, 3) := by decide +kernel
theorem dX3_become_21 : decode cX3_become 21 = .ok (.putfield 29, 3) := by decide +kernel
theorem dX3_become_24 : decode cX3_become 24 = .ok (.aload_n 0, 1) := by decide +kernel
theorem dX3_become_25 : decode cX3_become 25 = .ok (.aload_n 1, 1) := by decide +kernel
theorem dX3_become_26 : decode cX3_become 26 = .ok (.getfield 32, 3) := by decide +kernel
theorem dX3_become_29 : decode cX3_become 29 = .ok (.putfield 32, 3) := by decide +kernel
theorem dX3_become_32 : decode cX3_become 32 = .ok (.iconst 0, 1) := by decide +kernel
theorem dX3_become_33 : decode cX3_become 33 = .ok (.istore_n 2, 1) := by decide +kernel
theorem dX3_become_34 : decode cX3_become 34 = .ok (.iload_n 2, 1) := by decide +kernel
theorem dX3_become_35 : decode cX3_become 35 = .ok (.aload_n 0, 1) := by decide +kernel
theorem dX3_become_36 : decode cX3_become 36 = .ok (.getfield 22, 3) := by decide +kernel
theorem dX3_become_39 : decode cX3_become 39 = .ok (.if_icmp .ge 24, 3) := by decide +kernel
theorem dX3_become_42 : decode cX3_become 42 = .ok (.aload_n 0, 1) := by decide +kernel
theorem dX3_become_43 : decode cX3_become 43 = .ok (.getfield 17, 3) := by decide +kernel
theorem dX3_become_46 : decode cX3_become 46 = .ok (.iload_n 2, 1) := by decide +kernel
theorem dX3_become_47 : decode cX3_become 47 = .ok (.aaload, 1) := by decide +kernel
theorem dX3_become_48 : decode cX3_become 48 = .ok (.aload_n 1, 1) := by decide +kernel
theorem dX3_become_49 : decode cX3_become 49 = .ok (.getfield 17, 3) := by decide +kernel
theorem dX3_become_52 : decode cX3_become 52 = .ok (.iload_n 2, 1) := by decide +kernel
theorem dX3_become_53 : decode cX3_become 53 = .ok (.aaload, 1) := by decide +kernel
theorem dX3_become_54 : decode cX3_become 54 = .ok (.invokevirtual 35, 3) := by decide +kernel
theorem dX3_become_57 : decode cX3_become 57 = .ok (.iinc 2 1, 3) := by decide +kernel
theorem dX3_become_60 : decode cX3_become 60 = .ok (.goto (-26), 3) := by decide +kernel
theorem dX3_become_63 : decode cX3_become 63 = .ok (.return_, 1) := by decide +kernel
theorem dX3_has_0 : decode cX3_has 0 = .ok (.iload_n 1, 1) := by decide +kernel
theorem dX3_has_1 : decode cX3_has 1 = .ok (.ifCond .lt 15, 3) := by decide +kernel
theorem dX3_has_4 : decode cX3_has 4 = .ok (.iload_n 1, 1) := by decide +kernel
theorem dX3_has_5 : decode cX3_has 5 = .ok (.aload_n 0, 1) := by decide +kernel
theorem dX3_has_6 : decode cX3_has 6 = .ok (.getfield 22, 3) := by decide +kernel
theorem dX3_has_9 : decode cX3_has 9 = .ok (.if_icmp .ge 7, 3) := by decide +kernel
theorem dX3_has_12 : decode cX3_has 12 = .ok (.iconst 1, 1) := by decide +kernel
theorem dX3_has_13 : decode cX3_has 13 = .ok (.goto 4, 3) := by decide +kernel
theorem dX3_has_16 : decode cX3_has 16 = .ok (.iconst 0, 1) := by decide +kernel
theorem dX3_has_17 : decode cX3_has 17 = .ok (.ireturn, 1) := by decide +kernel
theorem dX3_isFull_0 : decode cX3_isFull 0 = .ok (.aload_n 0, 1) := by decide +kernel
theorem dX3_isFull_1 : decode cX3_isFull 1 = .ok (.getfield 22, 3) := by decide +kernel
theorem dX3_isFull_4 : decode cX3_isFull 4 = .ok (.bipush 8, 2) := by decide +kernel
theorem dX3_isFull_6 : decode cX3_isFull 6 = .ok (.if_icmp .lt 7, 3) := by decide +kernel
theorem dX3_isFull_9 : decode cX3_isFull 9 = .ok (.iconst 1, 1) := by decide +kernel
theorem dX3_isFull_10 : decode cX3_isFull 10 = .ok (.goto 4, 3) := by decide +kernel
theorem dX3_isFull_13 : decode cX3_isFull 13 = .ok (.iconst 0, 1) := by decide +kernel
theorem dX3_isFull_14 : decode cX3_isFull 14 = .ok (.ireturn, 1) := by decide +kernel
theorem dX3_visitor_0 : decode cX3_visitor 0 = .ok (.aload_n 0, 1) := by decide +kernel
theorem dX3_visitor_1 : decode cX3_visitor 1 = .ok (.getfield 17, 3) := by decide +kernel
theorem dX3_visitor_4 : decode cX3_visitor 4 = .ok (.iload_n 1, 1) := by decide +kernel
theorem dX3_visitor_5 : decode cX3_visitor 5 = .ok (.aaload, 1) := by decide +kernel
theorem dX3_visitor_6 : decode cX3_visitor 6 = .ok (.areturn, 1) := by decide +kernel
theorem dX3_welcome_0 : decode cX3_welcome 0 = .ok (.aload_n 0, 1) := by decide +kernel
theorem dX3_welcome_1 : decode cX3_welcome 1 = .ok (.getfield 17, 3) := by decide +kernel
theorem dX3_welcome_4 : decode cX3_welcome 4 = .ok (.aload_n 0, 1) := by decide +kernel
theorem dX3_welcome_5 : decode cX3_welcome 5 = .ok (.getfield 22, 3) := by decide +kernel
theorem dX3_welcome_8 : decode cX3_welcome 8 = .ok (.aaload, 1) := by decide +kernel
theorem dX3_welcome_9 : decode cX3_welcome 9 = .ok (.iload_n 1, 1) := by decide +kernel
theorem dX3_welcome_10 : decode cX3_welcome 10 = .ok (.invokevirtual 39, 3) := by decide +kernel
theorem dX3_welcome_13 : decode cX3_welcome 13 = .ok (.aload_n 0, 1) := by decide +kernel
theorem dX3_welcome_14 : decode cX3_welcome 14 = .ok (.dup, 1) := by decide +kernel
theorem dX3_welcome_15 : decode cX3_welcome 15 = .ok (.getfield 22, 3) := by decide +kernel
theorem dX3_welcome_18 : decode cX3_welcome 18 = .ok (.iconst 1, 1) := by decide +kernel
theorem dX3_welcome_19 : decode cX3_welcome 19 = .ok (.iadd, 1) := by decide +kernel
theorem dX3_welcome_20 : decode cX3_welcome 20 = .ok (.putfield 22, 3) := by decide +kernel
theorem dX3_welcome_23 : decode cX3_welcome 23 = .ok (.aload_n 0, 1) := by decide +kernel
theorem dX3_welcome_24 : decode cX3_welcome 24 = .ok (.getfield 22, 3) := by decide +kernel
theorem dX3_welcome_27 : decode cX3_welcome 27 = .ok (.iconst 1, 1) := by decide +kernel
theorem dX3_welcome_28 : decode cX3_welcome 28 = .ok (.isub, 1) := by decide +kernel
theorem dX3_welcome_29 : decode cX3_welcome 29 = .ok (.ireturn, 1) := by decide +kernel
theorem dX3_hourOfDay_0 : decode cX3_hourOfDay 0 = .ok (.aload_n 0, 1) := by decide +kernel
theorem dX3_hourOfDay_1 : decode cX3_hourOfDay 1 = .ok (.getfield 29, 3) := by decide +kernel
theorem dX3_hourOfDay_4 : decode cX3_hourOfDay 4 = .ok (.bipush 24, 2) := by decide +kernel
theorem dX3_hourOfDay_6 : decode cX3_hourOfDay 6 = .ok (.irem, 1) := by decide +kernel
theorem dX3_hourOfDay_7 : decode cX3_hourOfDay 7 = .ok (.ireturn, 1) := by decide +kernel
theorem dX3_isMonday_0 : decode cX3_isMonday 0 = .ok (.aload_n 0, 1) := by decide +kernel
theorem dX3_isMonday_1 : decode cX3_isMonday 1 = .ok (.getfield 29, 3) := by decide +kernel
theorem dX3_isMonday_4 : decode cX3_isMonday 4 = .ok (.bipush 24, 2) := by decide +kernel
theorem dX3_isMonday_6 : decode cX3_isMonday 6 = .ok (.idiv, 1) := by decide +kernel
theorem dX3_isMonday_7 : decode cX3_isMonday 7 = .ok (.bipush 7, 2) := by decide +kernel
theorem dX3_isMonday_9 : decode cX3_isMonday 9 = .ok (.irem, 1) := by decide +kernel
theorem dX3_isMonday_10 : decode cX3_isMonday 10 = .ok (.ifCond .ne 7, 3) := by decide +kernel
theorem dX3_isMonday_13 : decode cX3_isMonday 13 = .ok (.iconst 1, 1) := by decide +kernel
theorem dX3_isMonday_14 : decode cX3_isMonday 14 = .ok (.goto 4, 3) := by decide +kernel
theorem dX3_isMonday_17 : decode cX3_isMonday 17 = .ok (.iconst 0, 1) := by decide +kernel
theorem dX3_isMonday_18 : decode cX3_isMonday 18 = .ok (.ireturn, 1) := by decide +kernel
theorem dX3_holder_0 : decode cX3_holder 0 = .ok (.iconst 0, 1) := by decide +kernel
theorem dX3_holder_1 : decode cX3_holder 1 = .ok (.istore_n 2, 1) := by decide +kernel
theorem dX3_holder_2 : decode cX3_holder 2 = .ok (.iload_n 2, 1) := by decide +kernel
theorem dX3_holder_3 : decode cX3_holder 3 = .ok (.aload_n 0, 1) := by decide +kernel
theorem dX3_holder_4 : decode cX3_holder 4 = .ok (.getfield 22, 3) := by decide +kernel
theorem dX3_holder_7 : decode cX3_holder 7 = .ok (.if_icmp .ge 24, 3) := by decide +kernel
theorem dX3_holder_10 : decode cX3_holder 10 = .ok (.aload_n 0, 1) := by decide +kernel
theorem dX3_holder_11 : decode cX3_holder 11 = .ok (.getfield 17, 3) := by decide +kernel
theorem dX3_holder_14 : decode cX3_holder 14 = .ok (.iload_n 2, 1) := by decide +kernel
theorem dX3_holder_15 : decode cX3_holder 15 = .ok (.aaload, 1) := by decide +kernel
theorem dX3_holder_16 : decode cX3_holder 16 = .ok (.getfield 43, 3) := by decide +kernel
theorem dX3_holder_19 : decode cX3_holder 19 = .ok (.iload_n 1, 1) := by decide +kernel
theorem dX3_holder_20 : decode cX3_holder 20 = .ok (.if_icmp .ne 5, 3) := by decide +kernel
theorem dX3_holder_23 : decode cX3_holder 23 = .ok (.iload_n 2, 1) := by decide +kernel
theorem dX3_holder_24 : decode cX3_holder 24 = .ok (.ireturn, 1) := by decide +kernel
theorem dX3_holder_25 : decode cX3_holder 25 = .ok (.iinc 2 1, 3) := by decide +kernel
theorem dX3_holder_28 : decode cX3_holder 28 = .ok (.goto (-26), 3) := by decide +kernel
theorem dX3_holder_31 : decode cX3_holder 31 = .ok (.iconst (-1), 1) := by decide +kernel
theorem dX3_holder_32 : decode cX3_holder 32 = .ok (.ireturn, 1) := by decide +kernel
theorem dX3_saidBy_0 : decode cX3_saidBy 0 = .ok (.aload_n 0, 1) := by decide +kernel
theorem dX3_saidBy_1 : decode cX3_saidBy 1 = .ok (.invokevirtual 46, 3) := by decide +kernel
theorem dX3_saidBy_4 : decode cX3_saidBy 4 = .ok (.bipush 22, 2) := by decide +kernel
theorem dX3_saidBy_6 : decode cX3_saidBy 6 = .ok (.if_icmp .lt 5, 3) := by decide +kernel
theorem dX3_saidBy_9 : decode cX3_saidBy 9 = .ok (.iconst (-1), 1) := by decide +kernel
theorem dX3_saidBy_10 : decode cX3_saidBy 10 = .ok (.ireturn, 1) := by decide +kernel
theorem dX3_saidBy_11 : decode cX3_saidBy 11 = .ok (.aload_n 0, 1) := by decide +kernel
theorem dX3_saidBy_12 : decode cX3_saidBy 12 = .ok (.getfield 17, 3) := by decide +kernel
theorem dX3_saidBy_15 : decode cX3_saidBy 15 = .ok (.iload_n 1, 1) := by decide +kernel
theorem dX3_saidBy_16 : decode cX3_saidBy 16 = .ok (.aaload, 1) := by decide +kernel
theorem dX3_saidBy_17 : decode cX3_saidBy 17 = .ok (.astore_n 2, 1) := by decide +kernel
theorem dX3_saidBy_18 : decode cX3_saidBy 18 = .ok (.aload_n 0, 1) := by decide +kernel
theorem dX3_saidBy_19 : decode cX3_saidBy 19 = .ok (.getfield 9, 3) := by decide +kernel
theorem dX3_saidBy_22 : decode cX3_saidBy 22 = .ok (.aload_n 2, 1) := by decide +kernel
theorem dX3_saidBy_23 : decode cX3_saidBy 23 = .ok (.getfield 50, 3) := by decide +kernel
theorem dX3_saidBy_26 : decode cX3_saidBy 26 = .ok (.aaload, 1) := by decide +kernel
theorem dX3_saidBy_27 : decode cX3_saidBy 27 = .ok (.aload_n 2, 1) := by decide +kernel
theorem dX3_saidBy_28 : decode cX3_saidBy 28 = .ok (.aload_n 0, 1) := by decide +kernel
theorem dX3_saidBy_29 : decode cX3_saidBy 29 = .ok (.getfield 26, 3) := by decide +kernel
theorem dX3_saidBy_32 : decode cX3_saidBy 32 = .ok (.aload_n 0, 1) := by decide +kernel
theorem dX3_saidBy_33 : decode cX3_saidBy 33 = .ok (.invokevirtual 46, 3) := by decide +kernel
theorem dX3_saidBy_36 : decode cX3_saidBy 36 = .ok (.invokevirtual 53, 3) := by decide +kernel
theorem dX3_saidBy_39 : decode cX3_saidBy 39 = .ok (.ireturn, 1) := by decide +kernel
theorem dX3_isTrusted_0 : decode cX3_isTrusted 0 = .ok (.aload_n 0, 1) := by decide +kernel
theorem dX3_isTrusted_1 : decode cX3_isTrusted 1 = .ok (.getfield 17, 3) := by decide +kernel
theorem dX3_isTrusted_4 : decode cX3_isTrusted 4 = .ok (.iload_n 1, 1) := by decide +kernel
theorem dX3_isTrusted_5 : decode cX3_isTrusted 5 = .ok (.aaload, 1) := by decide +kernel
theorem dX3_isTrusted_6 : decode cX3_isTrusted 6 = .ok (.astore_n 3, 1) := by decide +kernel
theorem dX3_isTrusted_7 : decode cX3_isTrusted 7 = .ok (.aload_n 0, 1) := by decide +kernel
theorem dX3_isTrusted_8 : decode cX3_isTrusted 8 = .ok (.getfield 9, 3) := by decide +kernel
theorem dX3_isTrusted_11 : decode cX3_isTrusted 11 = .ok (.aload_n 3, 1) := by decide +kernel
theorem dX3_isTrusted_12 : decode cX3_isTrusted 12 = .ok (.getfield 50, 3) := by decide +kernel
theorem dX3_isTrusted_15 : decode cX3_isTrusted 15 = .ok (.aaload, 1) := by decide +kernel
theorem dX3_isTrusted_16 : decode cX3_isTrusted 16 = .ok (.aload_n 0, 1) := by decide +kernel
theorem dX3_isTrusted_17 : decode cX3_isTrusted 17 = .ok (.getfield 26, 3) := by decide +kernel
theorem dX3_isTrusted_20 : decode cX3_isTrusted 20 = .ok (.iload_n 2, 1) := by decide +kernel
theorem dX3_isTrusted_21 : decode cX3_isTrusted 21 = .ok (.invokestatic 59, 3) := by decide +kernel
theorem dX3_isTrusted_24 : decode cX3_isTrusted 24 = .ok (.aload_n 3, 1) := by decide +kernel
theorem dX3_isTrusted_25 : decode cX3_isTrusted 25 = .ok (.getfield 63, 3) := by decide +kernel
theorem dX3_isTrusted_28 : decode cX3_isTrusted 28 = .ok (.invokestatic 66, 3) := by decide +kernel
theorem dX3_isTrusted_31 : decode cX3_isTrusted 31 = .ok (.invokevirtual 72, 3) := by decide +kernel
theorem dX3_isTrusted_34 : decode cX3_isTrusted 34 = .ok (.ireturn, 1) := by decide +kernel
theorem dX3_stayOf_0 : decode cX3_stayOf 0 = .ok (.aload_n 0, 1) := by decide +kernel
theorem dX3_stayOf_1 : decode cX3_stayOf 1 = .ok (.getfield 17, 3) := by decide +kernel
theorem dX3_stayOf_4 : decode cX3_stayOf 4 = .ok (.iload_n 1, 1) := by decide +kernel
theorem dX3_stayOf_5 : decode cX3_stayOf 5 = .ok (.aaload, 1) := by decide +kernel
theorem dX3_stayOf_6 : decode cX3_stayOf 6 = .ok (.astore_n 2, 1) := by decide +kernel
theorem dX3_stayOf_7 : decode cX3_stayOf 7 = .ok (.aload_n 0, 1) := by decide +kernel
theorem dX3_stayOf_8 : decode cX3_stayOf 8 = .ok (.getfield 9, 3) := by decide +kernel
theorem dX3_stayOf_11 : decode cX3_stayOf 11 = .ok (.aload_n 2, 1) := by decide +kernel
theorem dX3_stayOf_12 : decode cX3_stayOf 12 = .ok (.getfield 50, 3) := by decide +kernel
theorem dX3_stayOf_15 : decode cX3_stayOf 15 = .ok (.aaload, 1) := by decide +kernel
theorem dX3_stayOf_16 : decode cX3_stayOf 16 = .ok (.aload_n 2, 1) := by decide +kernel
theorem dX3_stayOf_17 : decode cX3_stayOf 17 = .ok (.invokevirtual 76, 3) := by decide +kernel
theorem dX3_stayOf_20 : decode cX3_stayOf 20 = .ok (.ireturn, 1) := by decide +kernel
theorem dX3_letHoursGo_0 : decode cX3_letHoursGo 0 = .ok (.iconst 0, 1) := by decide +kernel
theorem dX3_letHoursGo_1 : decode cX3_letHoursGo 1 = .ok (.istore_n 2, 1) := by decide +kernel
theorem dX3_letHoursGo_2 : decode cX3_letHoursGo 2 = .ok (.iload_n 2, 1) := by decide +kernel
theorem dX3_letHoursGo_3 : decode cX3_letHoursGo 3 = .ok (.iload_n 1, 1) := by decide +kernel
theorem dX3_letHoursGo_4 : decode cX3_letHoursGo 4 = .ok (.if_icmp .ge 105, 3) := by decide +kernel
theorem dX3_letHoursGo_7 : decode cX3_letHoursGo 7 = .ok (.aload_n 0, 1) := by decide +kernel
theorem dX3_letHoursGo_8 : decode cX3_letHoursGo 8 = .ok (.iconst 0, 1) := by decide +kernel
theorem dX3_letHoursGo_9 : decode cX3_letHoursGo 9 = .ok (.invokevirtual 80, 3) := by decide +kernel
theorem dX3_letHoursGo_12 : decode cX3_letHoursGo 12 = .ok (.istore_n 3, 1) := by decide +kernel
theorem dX3_letHoursGo_13 : decode cX3_letHoursGo 13 = .ok (.aload_n 0, 1) := by decide +kernel
theorem dX3_letHoursGo_14 : decode cX3_letHoursGo 14 = .ok (.iconst 1, 1) := by decide +kernel
theorem dX3_letHoursGo_15 : decode cX3_letHoursGo 15 = .ok (.invokevirtual 80, 3) := by decide +kernel
theorem dX3_letHoursGo_18 : decode cX3_letHoursGo 18 = .ok (.istore 4, 2) := by decide +kernel
theorem dX3_letHoursGo_20 : decode cX3_letHoursGo 20 = .ok (.iload_n 3, 1) := by decide +kernel
theorem dX3_letHoursGo_21 : decode cX3_letHoursGo 21 = .ok (.iconst (-1), 1) := by decide +kernel
theorem dX3_letHoursGo_22 : decode cX3_letHoursGo 22 = .ok (.if_icmp .eq 43, 3) := by decide +kernel
theorem dX3_letHoursGo_25 : decode cX3_letHoursGo 25 = .ok (.iload 4, 2) := by decide +kernel
theorem dX3_letHoursGo_27 : decode cX3_letHoursGo 27 = .ok (.iconst (-1), 1) := by decide +kernel
theorem dX3_letHoursGo_28 : decode cX3_letHoursGo 28 = .ok (.if_icmp .eq 37, 3) := by decide +kernel
theorem dX3_letHoursGo_31 : decode cX3_letHoursGo 31 = .ok (.aload_n 0, 1) := by decide +kernel
theorem dX3_letHoursGo_32 : decode cX3_letHoursGo 32 = .ok (.iload_n 3, 1) := by decide +kernel
theorem dX3_letHoursGo_33 : decode cX3_letHoursGo 33 = .ok (.invokevirtual 83, 3) := by decide +kernel
theorem dX3_letHoursGo_36 : decode cX3_letHoursGo 36 = .ok (.istore 5, 2) := by decide +kernel
theorem dX3_letHoursGo_38 : decode cX3_letHoursGo 38 = .ok (.aload_n 0, 1) := by decide +kernel
theorem dX3_letHoursGo_39 : decode cX3_letHoursGo 39 = .ok (.iload 4, 2) := by decide +kernel
theorem dX3_letHoursGo_41 : decode cX3_letHoursGo 41 = .ok (.invokevirtual 83, 3) := by decide +kernel
theorem dX3_letHoursGo_44 : decode cX3_letHoursGo 44 = .ok (.istore 6, 2) := by decide +kernel
theorem dX3_letHoursGo_46 : decode cX3_letHoursGo 46 = .ok (.aload_n 0, 1) := by decide +kernel
theorem dX3_letHoursGo_47 : decode cX3_letHoursGo 47 = .ok (.iload_n 3, 1) := by decide +kernel
theorem dX3_letHoursGo_48 : decode cX3_letHoursGo 48 = .ok (.iload 5, 2) := by decide +kernel
theorem dX3_letHoursGo_50 : decode cX3_letHoursGo 50 = .ok (.iload 6, 2) := by decide +kernel
theorem dX3_letHoursGo_52 : decode cX3_letHoursGo 52 = .ok (.invokevirtual 86, 3) := by decide +kernel
theorem dX3_letHoursGo_55 : decode cX3_letHoursGo 55 = .ok (.aload_n 0, 1) := by decide +kernel
theorem dX3_letHoursGo_56 : decode cX3_letHoursGo 56 = .ok (.iload 4, 2) := by decide +kernel
theorem dX3_letHoursGo_58 : decode cX3_letHoursGo 58 = .ok (.iload 6, 2) := by decide +kernel
theorem dX3_letHoursGo_60 : decode cX3_letHoursGo 60 = .ok (.iload 5, 2) := by decide +kernel
theorem dX3_letHoursGo_62 : decode cX3_letHoursGo 62 = .ok (.invokevirtual 86, 3) := by decide +kernel
theorem dX3_letHoursGo_65 : decode cX3_letHoursGo 65 = .ok (.aload_n 0, 1) := by decide +kernel
theorem dX3_letHoursGo_66 : decode cX3_letHoursGo 66 = .ok (.iload_n 3, 1) := by decide +kernel
theorem dX3_letHoursGo_67 : decode cX3_letHoursGo 67 = .ok (.invokevirtual 90, 3) := by decide +kernel
theorem dX3_letHoursGo_70 : decode cX3_letHoursGo 70 = .ok (.aload_n 0, 1) := by decide +kernel
theorem dX3_letHoursGo_71 : decode cX3_letHoursGo 71 = .ok (.iload 4, 2) := by decide +kernel
theorem dX3_letHoursGo_73 : decode cX3_letHoursGo 73 = .ok (.invokevirtual 90, 3) := by decide +kernel
theorem dX3_letHoursGo_76 : decode cX3_letHoursGo 76 = .ok (.ior, 1) := by decide +kernel
theorem dX3_letHoursGo_77 : decode cX3_letHoursGo 77 = .ok (.istore 5, 2) := by decide +kernel
theorem dX3_letHoursGo_79 : decode cX3_letHoursGo 79 = .ok (.aload_n 0, 1) := by decide +kernel
theorem dX3_letHoursGo_80 : decode cX3_letHoursGo 80 = .ok (.iconst 0, 1) := by decide +kernel
theorem dX3_letHoursGo_81 : decode cX3_letHoursGo 81 = .ok (.iload 5, 2) := by decide +kernel
theorem dX3_letHoursGo_83 : decode cX3_letHoursGo 83 = .ok (.invokevirtual 93, 3) := by decide +kernel
theorem dX3_letHoursGo_86 : decode cX3_letHoursGo 86 = .ok (.aload_n 0, 1) := by decide +kernel
theorem dX3_letHoursGo_87 : decode cX3_letHoursGo 87 = .ok (.iconst 1, 1) := by decide +kernel
theorem dX3_letHoursGo_88 : decode cX3_letHoursGo 88 = .ok (.iload 5, 2) := by decide +kernel
theorem dX3_letHoursGo_90 : decode cX3_letHoursGo 90 = .ok (.invokevirtual 93, 3) := by decide +kernel
theorem dX3_letHoursGo_93 : decode cX3_letHoursGo 93 = .ok (.aload_n 0, 1) := by decide +kernel
theorem dX3_letHoursGo_94 : decode cX3_letHoursGo 94 = .ok (.dup, 1) := by decide +kernel
theorem dX3_letHoursGo_95 : decode cX3_letHoursGo 95 = .ok (.getfield 29, 3) := by decide +kernel
theorem dX3_letHoursGo_98 : decode cX3_letHoursGo 98 = .ok (.iconst 1, 1) := by decide +kernel
theorem dX3_letHoursGo_99 : decode cX3_letHoursGo 99 = .ok (.iadd, 1) := by decide +kernel
theorem dX3_letHoursGo_100 : decode cX3_letHoursGo 100 = .ok (.putfield 29, 3) := by decide +kernel
theorem dX3_letHoursGo_103 : decode cX3_letHoursGo 103 = .ok (.iinc 2 1, 3) := by decide +kernel
theorem dX3_letHoursGo_106 : decode cX3_letHoursGo 106 = .ok (.goto (-104), 3) := by decide +kernel
theorem dX3_letHoursGo_109 : decode cX3_letHoursGo 109 = .ok (.return_, 1) := by decide +kernel
theorem dX3_bring_0 : decode cX3_bring 0 = .ok (.aload_n 0, 1) := by decide +kernel
theorem dX3_bring_1 : decode cX3_bring 1 = .ok (.getfield 17, 3) := by decide +kernel
theorem dX3_bring_4 : decode cX3_bring 4 = .ok (.iload_n 1, 1) := by decide +kernel
theorem dX3_bring_5 : decode cX3_bring 5 = .ok (.aaload, 1) := by decide +kernel
theorem dX3_bring_6 : decode cX3_bring 6 = .ok (.astore 4, 2) := by decide +kernel
theorem dX3_bring_8 : decode cX3_bring 8 = .ok (.aload_n 0, 1) := by decide +kernel
theorem dX3_bring_9 : decode cX3_bring 9 = .ok (.invokevirtual 97, 3) := by decide +kernel
theorem dX3_bring_12 : decode cX3_bring 12 = .ok (.ifCond .eq 17, 3) := by decide +kernel
theorem dX3_bring_15 : decode cX3_bring 15 = .ok (.iload_n 2, 1) := by decide +kernel
theorem dX3_bring_16 : decode cX3_bring 16 = .ok (.iconst (-1), 1) := by decide +kernel
theorem dX3_bring_17 : decode cX3_bring 17 = .ok (.if_icmp .eq 29, 3) := by decide +kernel
theorem dX3_bring_20 : decode cX3_bring 20 = .ok (.aload 4, 2) := by decide +kernel
theorem dX3_bring_22 : decode cX3_bring 22 = .ok (.iload_n 2, 1) := by decide +kernel
theorem dX3_bring_23 : decode cX3_bring 23 = .ok (.invokevirtual 101, 3) := by decide +kernel
theorem dX3_bring_26 : decode cX3_bring 26 = .ok (.goto 20, 3) := by decide +kernel
theorem dX3_bring_29 : decode cX3_bring 29 = .ok (.iload_n 3, 1) := by decide +kernel
theorem dX3_bring_30 : decode cX3_bring 30 = .ok (.iconst (-1), 1) := by decide +kernel
theorem dX3_bring_31 : decode cX3_bring 31 = .ok (.if_icmp .eq 15, 3) := by decide +kernel
theorem dX3_bring_34 : decode cX3_bring 34 = .ok (.aload 4, 2) := by decide +kernel
theorem dX3_bring_36 : decode cX3_bring 36 = .ok (.iload_n 3, 1) := by decide +kernel
theorem dX3_bring_37 : decode cX3_bring 37 = .ok (.aload_n 0, 1) := by decide +kernel
theorem dX3_bring_38 : decode cX3_bring 38 = .ok (.iload_n 1, 1) := by decide +kernel
theorem dX3_bring_39 : decode cX3_bring 39 = .ok (.iload_n 3, 1) := by decide +kernel
theorem dX3_bring_40 : decode cX3_bring 40 = .ok (.invokevirtual 104, 3) := by decide +kernel
theorem dX3_bring_43 : decode cX3_bring 43 = .ok (.invokevirtual 107, 3) := by decide +kernel
theorem dX3_bring_46 : decode cX3_bring 46 = .ok (.return_, 1) := by decide +kernel
theorem dX3_sitOn_0 : decode cX3_sitOn 0 = .ok (.iload_n 1, 1) := by decide +kernel
theorem dX3_sitOn_1 : decode cX3_sitOn 1 = .ok (.iconst (-1), 1) := by decide +kernel
theorem dX3_sitOn_2 : decode cX3_sitOn 2 = .ok (.if_icmp .ne 5, 3) := by decide +kernel
theorem dX3_sitOn_5 : decode cX3_sitOn 5 = .ok (.iconst 0, 1) := by decide +kernel
theorem dX3_sitOn_6 : decode cX3_sitOn 6 = .ok (.ireturn, 1) := by decide +kernel
theorem dX3_sitOn_7 : decode cX3_sitOn 7 = .ok (.aload_n 0, 1) := by decide +kernel
theorem dX3_sitOn_8 : decode cX3_sitOn 8 = .ok (.getfield 17, 3) := by decide +kernel
theorem dX3_sitOn_11 : decode cX3_sitOn 11 = .ok (.iload_n 1, 1) := by decide +kernel
theorem dX3_sitOn_12 : decode cX3_sitOn 12 = .ok (.aaload, 1) := by decide +kernel
theorem dX3_sitOn_13 : decode cX3_sitOn 13 = .ok (.astore_n 2, 1) := by decide +kernel
theorem dX3_sitOn_14 : decode cX3_sitOn 14 = .ok (.aload_n 2, 1) := by decide +kernel
theorem dX3_sitOn_15 : decode cX3_sitOn 15 = .ok (.dup, 1) := by decide +kernel
theorem dX3_sitOn_16 : decode cX3_sitOn 16 = .ok (.getfield 111, 3) := by decide +kernel
theorem dX3_sitOn_19 : decode cX3_sitOn 19 = .ok (.iconst 1, 1) := by decide +kernel
theorem dX3_sitOn_20 : decode cX3_sitOn 20 = .ok (.iadd, 1) := by decide +kernel
theorem dX3_sitOn_21 : decode cX3_sitOn 21 = .ok (.putfield 111, 3) := by decide +kernel
theorem dX3_sitOn_24 : decode cX3_sitOn 24 = .ok (.aload_n 2, 1) := by decide +kernel
theorem dX3_sitOn_25 : decode cX3_sitOn 25 = .ok (.getfield 111, 3) := by decide +kernel
theorem dX3_sitOn_28 : decode cX3_sitOn 28 = .ok (.aload_n 0, 1) := by decide +kernel
theorem dX3_sitOn_29 : decode cX3_sitOn 29 = .ok (.iload_n 1, 1) := by decide +kernel
theorem dX3_sitOn_30 : decode cX3_sitOn 30 = .ok (.invokevirtual 114, 3) := by decide +kernel
theorem dX3_sitOn_33 : decode cX3_sitOn 33 = .ok (.if_icmp .ge 5, 3) := by decide +kernel
theorem dX3_sitOn_36 : decode cX3_sitOn 36 = .ok (.iconst 0, 1) := by decide +kernel
theorem dX3_sitOn_37 : decode cX3_sitOn 37 = .ok (.ireturn, 1) := by decide +kernel
theorem dX3_sitOn_38 : decode cX3_sitOn 38 = .ok (.aload_n 2, 1) := by decide +kernel
theorem dX3_sitOn_39 : decode cX3_sitOn 39 = .ok (.iconst (-1), 1) := by decide +kernel
theorem dX3_sitOn_40 : decode cX3_sitOn 40 = .ok (.invokevirtual 117, 3) := by decide +kernel
theorem dX3_sitOn_43 : decode cX3_sitOn 43 = .ok (.iconst 1, 1) := by decide +kernel
theorem dX3_sitOn_44 : decode cX3_sitOn 44 = .ok (.iload_n 1, 1) := by decide +kernel
theorem dX3_sitOn_45 : decode cX3_sitOn 45 = .ok (.ishl, 1) := by decide +kernel
theorem dX3_sitOn_46 : decode cX3_sitOn 46 = .ok (.ireturn, 1) := by decide +kernel
theorem dX3_fill_0 : decode cX3_fill 0 = .ok (.aload_n 0, 1) := by decide +kernel
theorem dX3_fill_1 : decode cX3_fill 1 = .ok (.iload_n 1, 1) := by decide +kernel
theorem dX3_fill_2 : decode cX3_fill 2 = .ok (.invokevirtual 80, 3) := by decide +kernel
theorem dX3_fill_5 : decode cX3_fill 5 = .ok (.iconst (-1), 1) := by decide +kernel
theorem dX3_fill_6 : decode cX3_fill 6 = .ok (.if_icmp .eq 4, 3) := by decide +kernel
theorem dX3_fill_9 : decode cX3_fill 9 = .ok (.return_, 1) := by decide +kernel
theorem dX3_fill_10 : decode cX3_fill 10 = .ok (.iconst 1, 1) := by decide +kernel
theorem dX3_fill_11 : decode cX3_fill 11 = .ok (.istore_n 3, 1) := by decide +kernel
theorem dX3_fill_12 : decode cX3_fill 12 = .ok (.iload_n 3, 1) := by decide +kernel
theorem dX3_fill_13 : decode cX3_fill 13 = .ok (.aload_n 0, 1) := by decide +kernel
theorem dX3_fill_14 : decode cX3_fill 14 = .ok (.getfield 22, 3) := by decide +kernel
theorem dX3_fill_17 : decode cX3_fill 17 = .ok (.if_icmp .gt 63, 3) := by decide +kernel
theorem dX3_fill_20 : decode cX3_fill 20 = .ok (.aload_n 0, 1) := by decide +kernel
theorem dX3_fill_21 : decode cX3_fill 21 = .ok (.getfield 32, 3) := by decide +kernel
theorem dX3_fill_24 : decode cX3_fill 24 = .ok (.iload_n 3, 1) := by decide +kernel
theorem dX3_fill_25 : decode cX3_fill 25 = .ok (.iadd, 1) := by decide +kernel
theorem dX3_fill_26 : decode cX3_fill 26 = .ok (.aload_n 0, 1) := by decide +kernel
theorem dX3_fill_27 : decode cX3_fill 27 = .ok (.getfield 22, 3) := by decide +kernel
theorem dX3_fill_30 : decode cX3_fill 30 = .ok (.irem, 1) := by decide +kernel
theorem dX3_fill_31 : decode cX3_fill 31 = .ok (.istore 4, 2) := by decide +kernel
theorem dX3_fill_33 : decode cX3_fill 33 = .ok (.aload_n 0, 1) := by decide +kernel
theorem dX3_fill_34 : decode cX3_fill 34 = .ok (.getfield 17, 3) := by decide +kernel
theorem dX3_fill_37 : decode cX3_fill 37 = .ok (.iload 4, 2) := by decide +kernel
theorem dX3_fill_39 : decode cX3_fill 39 = .ok (.aaload, 1) := by decide +kernel
theorem dX3_fill_40 : decode cX3_fill 40 = .ok (.getfield 43, 3) := by decide +kernel
theorem dX3_fill_43 : decode cX3_fill 43 = .ok (.iconst (-1), 1) := by decide +kernel
theorem dX3_fill_44 : decode cX3_fill 44 = .ok (.if_icmp .ne 30, 3) := by decide +kernel
theorem dX3_fill_47 : decode cX3_fill 47 = .ok (.iload_n 2, 1) := by decide +kernel
theorem dX3_fill_48 : decode cX3_fill 48 = .ok (.iload 4, 2) := by decide +kernel
theorem dX3_fill_50 : decode cX3_fill 50 = .ok (.invokestatic 59, 3) := by decide +kernel
theorem dX3_fill_53 : decode cX3_fill 53 = .ok (.ifCond .ne 21, 3) := by decide +kernel
theorem dX3_fill_56 : decode cX3_fill 56 = .ok (.aload_n 0, 1) := by decide +kernel
theorem dX3_fill_57 : decode cX3_fill 57 = .ok (.getfield 17, 3) := by decide +kernel
theorem dX3_fill_60 : decode cX3_fill 60 = .ok (.iload 4, 2) := by decide +kernel
theorem dX3_fill_62 : decode cX3_fill 62 = .ok (.aaload, 1) := by decide +kernel
theorem dX3_fill_63 : decode cX3_fill 63 = .ok (.iload_n 1, 1) := by decide +kernel
theorem dX3_fill_64 : decode cX3_fill 64 = .ok (.invokevirtual 117, 3) := by decide +kernel
theorem dX3_fill_67 : decode cX3_fill 67 = .ok (.aload_n 0, 1) := by decide +kernel
theorem dX3_fill_68 : decode cX3_fill 68 = .ok (.iload 4, 2) := by decide +kernel
theorem dX3_fill_70 : decode cX3_fill 70 = .ok (.putfield 32, 3) := by decide +kernel
theorem dX3_fill_73 : decode cX3_fill 73 = .ok (.return_, 1) := by decide +kernel
theorem dX3_fill_74 : decode cX3_fill 74 = .ok (.iinc 3 1, 3) := by decide +kernel
theorem dX3_fill_77 : decode cX3_fill 77 = .ok (.goto (-65), 3) := by decide +kernel
theorem dX3_fill_80 : decode cX3_fill 80 = .ok (.return_, 1) := by decide +kernel
theorem dX3_knownToAll_0 : decode cX3_knownToAll 0 = .ok (.aload_n 0, 1) := by decide +kernel
theorem dX3_knownToAll_1 : decode cX3_knownToAll 1 = .ok (.getfield 22, 3) := by decide +kernel
theorem dX3_knownToAll_4 : decode cX3_knownToAll 4 = .ok (.ifCond .ne 7, 3) := by decide +kernel
theorem dX3_knownToAll_7 : decode cX3_knownToAll 7 = .ok (.iconst 0, 1) := by decide +kernel
theorem dX3_knownToAll_8 : decode cX3_knownToAll 8 = .ok (.goto 6, 3) := by decide +kernel
theorem dX3_knownToAll_11 : decode cX3_knownToAll 11 = .ok (.sipush 1023, 3) := by decide +kernel
theorem dX3_knownToAll_14 : decode cX3_knownToAll 14 = .ok (.istore_n 1, 1) := by decide +kernel
theorem dX3_knownToAll_15 : decode cX3_knownToAll 15 = .ok (.iconst 0, 1) := by decide +kernel
theorem dX3_knownToAll_16 : decode cX3_knownToAll 16 = .ok (.istore_n 2, 1) := by decide +kernel
theorem dX3_knownToAll_17 : decode cX3_knownToAll 17 = .ok (.iload_n 2, 1) := by decide +kernel
theorem dX3_knownToAll_18 : decode cX3_knownToAll 18 = .ok (.aload_n 0, 1) := by decide +kernel
theorem dX3_knownToAll_19 : decode cX3_knownToAll 19 = .ok (.getfield 22, 3) := by decide +kernel
theorem dX3_knownToAll_22 : decode cX3_knownToAll 22 = .ok (.if_icmp .ge 21, 3) := by decide +kernel
theorem dX3_knownToAll_25 : decode cX3_knownToAll 25 = .ok (.iload_n 1, 1) := by decide +kernel
theorem dX3_knownToAll_26 : decode cX3_knownToAll 26 = .ok (.aload_n 0, 1) := by decide +kernel
theorem dX3_knownToAll_27 : decode cX3_knownToAll 27 = .ok (.getfield 17, 3) := by decide +kernel
theorem dX3_knownToAll_30 : decode cX3_knownToAll 30 = .ok (.iload_n 2, 1) := by decide +kernel
theorem dX3_knownToAll_31 : decode cX3_knownToAll 31 = .ok (.aaload, 1) := by decide +kernel
theorem dX3_knownToAll_32 : decode cX3_knownToAll 32 = .ok (.getfield 63, 3) := by decide +kernel
theorem dX3_knownToAll_35 : decode cX3_knownToAll 35 = .ok (.iand, 1) := by decide +kernel
theorem dX3_knownToAll_36 : decode cX3_knownToAll 36 = .ok (.istore_n 1, 1) := by decide +kernel
theorem dX3_knownToAll_37 : decode cX3_knownToAll 37 = .ok (.iinc 2 1, 3) := by decide +kernel
theorem dX3_knownToAll_40 : decode cX3_knownToAll 40 = .ok (.goto (-23), 3) := by decide +kernel
theorem dX3_knownToAll_43 : decode cX3_knownToAll 43 = .ok (.iload_n 1, 1) := by decide +kernel
theorem dX3_knownToAll_44 : decode cX3_knownToAll 44 = .ok (.ireturn, 1) := by decide +kernel
theorem dX3_knownTo_0 : decode cX3_knownTo 0 = .ok (.iconst 0, 1) := by decide +kernel
theorem dX3_knownTo_1 : decode cX3_knownTo 1 = .ok (.istore_n 2, 1) := by decide +kernel
theorem dX3_knownTo_2 : decode cX3_knownTo 2 = .ok (.iconst 0, 1) := by decide +kernel
theorem dX3_knownTo_3 : decode cX3_knownTo 3 = .ok (.istore_n 3, 1) := by decide +kernel
theorem dX3_knownTo_4 : decode cX3_knownTo 4 = .ok (.iload_n 3, 1) := by decide +kernel
theorem dX3_knownTo_5 : decode cX3_knownTo 5 = .ok (.aload_n 0, 1) := by decide +kernel
theorem dX3_knownTo_6 : decode cX3_knownTo 6 = .ok (.getfield 22, 3) := by decide +kernel
theorem dX3_knownTo_9 : decode cX3_knownTo 9 = .ok (.if_icmp .ge 25, 3) := by decide +kernel
theorem dX3_knownTo_12 : decode cX3_knownTo 12 = .ok (.iload_n 2, 1) := by decide +kernel
theorem dX3_knownTo_13 : decode cX3_knownTo 13 = .ok (.aload_n 0, 1) := by decide +kernel
theorem dX3_knownTo_14 : decode cX3_knownTo 14 = .ok (.getfield 17, 3) := by decide +kernel
theorem dX3_knownTo_17 : decode cX3_knownTo 17 = .ok (.iload_n 3, 1) := by decide +kernel
theorem dX3_knownTo_18 : decode cX3_knownTo 18 = .ok (.aaload, 1) := by decide +kernel
theorem dX3_knownTo_19 : decode cX3_knownTo 19 = .ok (.getfield 63, 3) := by decide +kernel
theorem dX3_knownTo_22 : decode cX3_knownTo 22 = .ok (.iload_n 1, 1) := by decide +kernel
theorem dX3_knownTo_23 : decode cX3_knownTo 23 = .ok (.ishr, 1) := by decide +kernel
theorem dX3_knownTo_24 : decode cX3_knownTo 24 = .ok (.iconst 1, 1) := by decide +kernel
theorem dX3_knownTo_25 : decode cX3_knownTo 25 = .ok (.iand, 1) := by decide +kernel
theorem dX3_knownTo_26 : decode cX3_knownTo 26 = .ok (.iadd, 1) := by decide +kernel
theorem dX3_knownTo_27 : decode cX3_knownTo 27 = .ok (.istore_n 2, 1) := by decide +kernel
theorem dX3_knownTo_28 : decode cX3_knownTo 28 = .ok (.iinc 3 1, 3) := by decide +kernel
theorem dX3_knownTo_31 : decode cX3_knownTo 31 = .ok (.goto (-27), 3) := by decide +kernel
theorem dX3_knownTo_34 : decode cX3_knownTo 34 = .ok (.iload_n 2, 1) := by decide +kernel
theorem dX3_knownTo_35 : decode cX3_knownTo 35 = .ok (.ireturn, 1) := by decide +kernel
theorem dX3_heardByAll_0 : decode cX3_heardByAll 0 = .ok (.iconst 0, 1) := by decide +kernel
theorem dX3_heardByAll_1 : decode cX3_heardByAll 1 = .ok (.istore_n 1, 1) := by decide +kernel
theorem dX3_heardByAll_2 : decode cX3_heardByAll 2 = .ok (.iconst 0, 1) := by decide +kernel
theorem dX3_heardByAll_3 : decode cX3_heardByAll 3 = .ok (.istore_n 2, 1) := by decide +kernel
theorem dX3_heardByAll_4 : decode cX3_heardByAll 4 = .ok (.iload_n 2, 1) := by decide +kernel
theorem dX3_heardByAll_5 : decode cX3_heardByAll 5 = .ok (.aload_n 0, 1) := by decide +kernel
theorem dX3_heardByAll_6 : decode cX3_heardByAll 6 = .ok (.getfield 22, 3) := by decide +kernel
theorem dX3_heardByAll_9 : decode cX3_heardByAll 9 = .ok (.if_icmp .ge 21, 3) := by decide +kernel
theorem dX3_heardByAll_12 : decode cX3_heardByAll 12 = .ok (.iload_n 1, 1) := by decide +kernel
theorem dX3_heardByAll_13 : decode cX3_heardByAll 13 = .ok (.aload_n 0, 1) := by decide +kernel
theorem dX3_heardByAll_14 : decode cX3_heardByAll 14 = .ok (.getfield 17, 3) := by decide +kernel
theorem dX3_heardByAll_17 : decode cX3_heardByAll 17 = .ok (.iload_n 2, 1) := by decide +kernel
theorem dX3_heardByAll_18 : decode cX3_heardByAll 18 = .ok (.aaload, 1) := by decide +kernel
theorem dX3_heardByAll_19 : decode cX3_heardByAll 19 = .ok (.getfield 120, 3) := by decide +kernel
theorem dX3_heardByAll_22 : decode cX3_heardByAll 22 = .ok (.iadd, 1) := by decide +kernel
theorem dX3_heardByAll_23 : decode cX3_heardByAll 23 = .ok (.istore_n 1, 1) := by decide +kernel
theorem dX3_heardByAll_24 : decode cX3_heardByAll 24 = .ok (.iinc 2 1, 3) := by decide +kernel
theorem dX3_heardByAll_27 : decode cX3_heardByAll 27 = .ok (.goto (-23), 3) := by decide +kernel
theorem dX3_heardByAll_30 : decode cX3_heardByAll 30 = .ok (.iload_n 1, 1) := by decide +kernel
theorem dX3_heardByAll_31 : decode cX3_heardByAll 31 = .ok (.ireturn, 1) := by decide +kernel
theorem dX3_believedByAll_0 : decode cX3_believedByAll 0 = .ok (.iconst 0, 1) := by decide +kernel
theorem dX3_believedByAll_1 : decode cX3_believedByAll 1 = .ok (.istore_n 1, 1) := by decide +kernel
theorem dX3_believedByAll_2 : decode cX3_believedByAll 2 = .ok (.iconst 0, 1) := by decide +kernel
theorem dX3_believedByAll_3 : decode cX3_believedByAll 3 = .ok (.istore_n 2, 1) := by decide +kernel
theorem dX3_believedByAll_4 : decode cX3_believedByAll 4 = .ok (.iload_n 2, 1) := by decide +kernel
theorem dX3_believedByAll_5 : decode cX3_believedByAll 5 = .ok (.aload_n 0, 1) := by decide +kernel
theorem dX3_believedByAll_6 : decode cX3_believedByAll 6 = .ok (.getfield 22, 3) := by decide +kernel
theorem dX3_believedByAll_9 : decode cX3_believedByAll 9 = .ok (.if_icmp .ge 24, 3) := by decide +kernel
theorem dX3_believedByAll_12 : decode cX3_believedByAll 12 = .ok (.iload_n 1, 1) := by decide +kernel
theorem dX3_believedByAll_13 : decode cX3_believedByAll 13 = .ok (.aload_n 0, 1) := by decide +kernel
theorem dX3_believedByAll_14 : decode cX3_believedByAll 14 = .ok (.getfield 17, 3) := by decide +kernel
theorem dX3_believedByAll_17 : decode cX3_believedByAll 17 = .ok (.iload_n 2, 1) := by decide +kernel
theorem dX3_believedByAll_18 : decode cX3_believedByAll 18 = .ok (.aaload, 1) := by decide +kernel
theorem dX3_believedByAll_19 : decode cX3_believedByAll 19 = .ok (.getfield 123, 3) := by decide +kernel
theorem dX3_believedByAll_22 : decode cX3_believedByAll 22 = .ok (.invokestatic 66, 3) := by decide +kernel
theorem dX3_believedByAll_25 : decode cX3_believedByAll 25 = .ok (.iadd, 1) := by decide +kernel
theorem dX3_believedByAll_26 : decode cX3_believedByAll 26 = .ok (.istore_n 1, 1) := by decide +kernel
theorem dX3_believedByAll_27 : decode cX3_believedByAll 27 = .ok (.iinc 2 1, 3) := by decide +kernel
theorem dX3_believedByAll_30 : decode cX3_believedByAll 30 = .ok (.goto (-26), 3) := by decide +kernel
theorem dX3_believedByAll_33 : decode cX3_believedByAll 33 = .ok (.iload_n 1, 1) := by decide +kernel
theorem dX3_believedByAll_34 : decode cX3_believedByAll 34 = .ok (.ireturn, 1) := by decide +kernel
theorem dX4_init_0 : decode cX4_init 0 = .ok (.aload_n 0, 1) := by decide +kernel
theorem dX4_init_1 : decode cX4_init 1 = .ok (.invokespecial 1, 3) := by decide +kernel
theorem dX4_init_4 : decode cX4_init 4 = .ok (.return_, 1) := by decide +kernel
theorem dX4_says_0 : decode cX4_says 0 = .ok (.aload_n 0, 1) := by decide +kernel
theorem dX4_says_1 : decode cX4_says 1 = .ok (.aload_n 1, 1) := by decide +kernel
theorem dX4_says_2 : decode cX4_says 2 = .ok (.invokevirtual 7, 3) := by decide +kernel
theorem dX4_says_5 : decode cX4_says 5 = .ok (.ireturn, 1) := by decide +kernel
theorem dX4_saysAsPerson_0 : decode cX4_saysAsPerson 0 = .ok (.aload_n 1, 1) := by decide +kernel
theorem dX4_saysAsPerson_1 : decode cX4_saysAsPerson 1 = .ok (.getfield 13, 3) := by decide +kernel
theorem dX4_saysAsPerson_4 : decode cX4_saysAsPerson 4 = .ok (.ifCond .eq 10, 3) := by decide +kernel
theorem dX4_saysAsPerson_7 : decode cX4_saysAsPerson 7 = .ok (.aload_n 1, 1) := by decide +kernel
theorem dX4_saysAsPerson_8 : decode cX4_saysAsPerson 8 = .ok (.getfield 13, 3) := by decide +kernel
theorem dX4_saysAsPerson_11 : decode cX4_saysAsPerson 11 = .ok (.goto 7, 3) := by decide +kernel
theorem dX4_saysAsPerson_14 : decode cX4_saysAsPerson 14 = .ok (.aload_n 1, 1) := by decide +kernel
theorem dX4_saysAsPerson_15 : decode cX4_saysAsPerson 15 = .ok (.getfield 19, 3) := by decide +kernel
theorem dX4_saysAsPerson_18 : decode cX4_saysAsPerson 18 = .ok (.invokestatic 22, 3) := by decide +kernel
theorem dX4_saysAsPerson_21 : decode cX4_saysAsPerson 21 = .ok (.ireturn, 1) := by decide +kernel
theorem dX4_believes_0 : decode cX4_believes 0 = .ok (.iload_n 1, 1) := by decide +kernel
theorem dX4_believes_1 : decode cX4_believes 1 = .ok (.ifCond .eq 8, 3) := by decide +kernel
theorem dX4_believes_4 : decode cX4_believes 4 = .ok (.iload_n 2, 1) := by decide +kernel
theorem dX4_believes_5 : decode cX4_believes 5 = .ok (.iconst 3, 1) := by decide +kernel
theorem dX4_believes_6 : decode cX4_believes 6 = .ok (.if_icmp .ge 7, 3) := by decide +kernel
theorem dX4_believes_9 : decode cX4_believes 9 = .ok (.iconst 1, 1) := by decide +kernel
theorem dX4_believes_10 : decode cX4_believes 10 = .ok (.goto 4, 3) := by decide +kernel
theorem dX4_believes_13 : decode cX4_believes 13 = .ok (.iconst 0, 1) := by decide +kernel
theorem dX4_believes_14 : decode cX4_believes 14 = .ok (.ireturn, 1) := by decide +kernel
theorem dX4_stays_0 : decode cX4_stays 0 = .ok (.iconst 3, 1) := by decide +kernel
theorem dX4_stays_1 : decode cX4_stays 1 = .ok (.ireturn, 1) := by decide +kernel
theorem dX5_init_0 : decode cX5_init 0 = .ok (.aload_n 0, 1) := by decide +kernel
theorem dX5_init_1 : decode cX5_init 1 = .ok (.invokespecial 3, 3) := by decide +kernel
theorem dX5_init_4 : decode cX5_init 4 = .ok (.aload_n 0, 1) := by decide +kernel
theorem dX5_init_5 : decode cX5_init 5 = .ok (.bipush 40, 2) := by decide +kernel
theorem dX5_init_7 : decode cX5_init 7 = .ok (.newarray .long, 2) := by decide +kernel
theorem dX5_init_9 : decode cX5_init 9 = .ok (.putfield 9, 3) := by decide +kernel
theorem dX5_init_12 : decode cX5_init 12 = .ok (.return_, 1) := by decide +kernel
theorem dX5_isMissing_0 : decode cX5_isMissing 0 = .ok (.aload_n 0, 1) := by decide +kernel
theorem dX5_isMissing_1 : decode cX5_isMissing 1 = .ok (.getfield 15, 3) := by decide +kernel
theorem dX5_isMissing_4 : decode cX5_isMissing 4 = .ok (.ifCond .ne 7, 3) := by decide +kernel
theorem dX5_isMissing_7 : decode cX5_isMissing 7 = .ok (.iconst 1, 1) := by decide +kernel
theorem dX5_isMissing_8 : decode cX5_isMissing 8 = .ok (.goto 4, 3) := by decide +kernel
theorem dX5_isMissing_11 : decode cX5_isMissing 11 = .ok (.iconst 0, 1) := by decide +kernel
theorem dX5_isMissing_12 : decode cX5_isMissing 12 = .ok (.ireturn, 1) := by decide +kernel
theorem dX5_renew_0 : decode cX5_renew 0 = .ok (.aload_n 0, 1) := by decide +kernel
theorem dX5_renew_1 : decode cX5_renew 1 = .ok (.iload_n 1, 1) := by decide +kernel
theorem dX5_renew_2 : decode cX5_renew 2 = .ok (.putfield 15, 3) := by decide +kernel
theorem dX5_renew_5 : decode cX5_renew 5 = .ok (.aload_n 0, 1) := by decide +kernel
theorem dX5_renew_6 : decode cX5_renew 6 = .ok (.iload_n 2, 1) := by decide +kernel
theorem dX5_renew_7 : decode cX5_renew 7 = .ok (.putfield 19, 3) := by decide +kernel
theorem dX5_renew_10 : decode cX5_renew 10 = .ok (.iconst 0, 1) := by decide +kernel
theorem dX5_renew_11 : decode cX5_renew 11 = .ok (.istore_n 3, 1) := by decide +kernel
theorem dX5_renew_12 : decode cX5_renew 12 = .ok (.iload_n 3, 1) := by decide +kernel
theorem dX5_renew_13 : decode cX5_renew 13 = .ok (.bipush 40, 2) := by decide +kernel
theorem dX5_renew_15 : decode cX5_renew 15 = .ok (.if_icmp .ge 16, 3) := by decide +kernel
theorem dX5_renew_18 : decode cX5_renew 18 = .ok (.aload_n 0, 1) := by decide +kernel
theorem dX5_renew_19 : decode cX5_renew 19 = .ok (.getfield 9, 3) := by decide +kernel
theorem dX5_renew_22 : decode cX5_renew 22 = .ok (.iload_n 3, 1) := by decide +kernel
theorem dX5_renew_23 : decode cX5_renew 23 = .ok (.lconst 0, 1) := by decide +kernel
theorem dX5_renew_24 : decode cX5_renew 24 = .ok (.lastore, 1) := by decide +kernel
theorem dX5_renew_25 : decode cX5_renew 25 = .ok (.iinc 3 1, 3) := by decide +kernel
theorem dX5_renew_28 : decode cX5_renew 28 = .ok (.goto (-16), 3) := by decide +kernel
theorem dX5_renew_31 : decode cX5_renew 31 = .ok (.return_, 1) := by decide +kernel
theorem dX5_hasSpan_0 : decode cX5_hasSpan 0 = .ok (.iload_n 1, 1) := by decide +kernel
theorem dX5_hasSpan_1 : decode cX5_hasSpan 1 = .ok (.ifCond .lt 29, 3) := by decide +kernel
theorem dX5_hasSpan_4 : decode cX5_hasSpan 4 = .ok (.iload_n 2, 1) := by decide +kernel
theorem dX5_hasSpan_5 : decode cX5_hasSpan 5 = .ok (.ifCond .lt 25, 3) := by decide +kernel
theorem dX5_hasSpan_8 : decode cX5_hasSpan 8 = .ok (.iload_n 1, 1) := by decide +kernel
theorem dX5_hasSpan_9 : decode cX5_hasSpan 9 = .ok (.aload_n 0, 1) := by decide +kernel
theorem dX5_hasSpan_10 : decode cX5_hasSpan 10 = .ok (.getfield 19, 3) := by decide +kernel
theorem dX5_hasSpan_13 : decode cX5_hasSpan 13 = .ok (.if_icmp .gt 17, 3) := by decide +kernel
theorem dX5_hasSpan_16 : decode cX5_hasSpan 16 = .ok (.iload_n 2, 1) := by decide +kernel
theorem dX5_hasSpan_17 : decode cX5_hasSpan 17 = .ok (.aload_n 0, 1) := by decide +kernel
theorem dX5_hasSpan_18 : decode cX5_hasSpan 18 = .ok (.getfield 19, 3) := by decide +kernel
theorem dX5_hasSpan_21 : decode cX5_hasSpan 21 = .ok (.iload_n 1, 1) := by decide +kernel
theorem dX5_hasSpan_22 : decode cX5_hasSpan 22 = .ok (.isub, 1) := by decide +kernel
theorem dX5_hasSpan_23 : decode cX5_hasSpan 23 = .ok (.if_icmp .gt 7, 3) := by decide +kernel
theorem dX5_hasSpan_26 : decode cX5_hasSpan 26 = .ok (.iconst 1, 1) := by decide +kernel
theorem dX5_hasSpan_27 : decode cX5_hasSpan 27 = .ok (.goto 4, 3) := by decide +kernel
theorem dX5_hasSpan_30 : decode cX5_hasSpan 30 = .ok (.iconst 0, 1) := by decide +kernel
theorem dX5_hasSpan_31 : decode cX5_hasSpan 31 = .ok (.ireturn, 1) := by decide +kernel
theorem dX5_put_0 : decode cX5_put 0 = .ok (.aload_n 0, 1) := by decide +kernel
theorem dX5_put_1 : decode cX5_put 1 = .ok (.getfield 9, 3) := by decide +kernel
theorem dX5_put_4 : decode cX5_put 4 = .ok (.iload_n 1, 1) := by decide +kernel
theorem dX5_put_5 : decode cX5_put 5 = .ok (.laload, 1) := by decide +kernel
theorem dX5_put_6 : decode cX5_put 6 = .ok (.lstore 4, 2) := by decide +kernel
theorem dX5_put_8 : decode cX5_put 8 = .ok (.aload_n 0, 1) := by decide +kernel
theorem dX5_put_9 : decode cX5_put 9 = .ok (.getfield 9, 3) := by decide +kernel
theorem dX5_put_12 : decode cX5_put 12 = .ok (.iload_n 1, 1) := by decide +kernel
theorem dX5_put_13 : decode cX5_put 13 = .ok (.aload_n 0, 1) := by decide +kernel
theorem dX5_put_14 : decode cX5_put 14 = .ok (.lload_n 2, 1) := by decide +kernel
theorem dX5_put_15 : decode cX5_put 15 = .ok (.invokevirtual 22, 3) := by decide +kernel
theorem dX5_put_18 : decode cX5_put 18 = .ok (.lastore, 1) := by decide +kernel
theorem dX5_put_19 : decode cX5_put 19 = .ok (.lload 4, 2) := by decide +kernel
theorem dX5_put_21 : decode cX5_put 21 = .ok (.lreturn, 1) := by decide +kernel
theorem dX5_cut_0 : decode cX5_cut 0 = .ok (.aload_n 0, 1) := by decide +kernel
theorem dX5_cut_1 : decode cX5_cut 1 = .ok (.getfield 15, 3) := by decide +kernel
theorem dX5_cut_4 : decode cX5_cut 4 = .ok (.lookupswitch 38 #[(8, 28), (16, 33)], 28) := by decide +kernel
theorem dX5_cut_32 : decode cX5_cut 32 = .ok (.lload_n 1, 1) := by decide +kernel
theorem dX5_cut_33 : decode cX5_cut 33 = .ok (.l2i, 1) := by decide +kernel
theorem dX5_cut_34 : decode cX5_cut 34 = .ok (.i2b, 1) := by decide +kernel
theorem dX5_cut_35 : decode cX5_cut 35 = .ok (.i2l, 1) := by decide +kernel
theorem dX5_cut_36 : decode cX5_cut 36 = .ok (.lreturn, 1) := by decide +kernel
theorem dX5_cut_37 : decode cX5_cut 37 = .ok (.lload_n 1, 1) := by decide +kernel
theorem dX5_cut_38 : decode cX5_cut 38 = .ok (.l2i, 1) := by decide +kernel
theorem dX5_cut_39 : decode cX5_cut 39 = .ok (.i2s, 1) := by decide +kernel
theorem dX5_cut_40 : decode cX5_cut 40 = .ok (.i2l, 1) := by decide +kernel
theorem dX5_cut_41 : decode cX5_cut 41 = .ok (.lreturn, 1) := by decide +kernel
theorem dX5_cut_42 : decode cX5_cut 42 = .ok (.lload_n 1, 1) := by decide +kernel
theorem dX5_cut_43 : decode cX5_cut 43 = .ok (.lreturn, 1) := by decide +kernel
theorem dX6_init_0 : decode cX6_init 0 = .ok (.aload_n 0, 1) := by decide +kernel
theorem dX6_init_1 : decode cX6_init 1 = .ok (.invokespecial 1, 3) := by decide +kernel
theorem dX6_init_4 : decode cX6_init 4 = .ok (.return_, 1) := by decide +kernel
theorem dX6_says_0 : decode cX6_says 0 = .ok (.iload_n 3, 1) := by decide +kernel
theorem dX6_says_1 : decode cX6_says 1 = .ok (.bipush 6, 2) := by decide +kernel
theorem dX6_says_3 : decode cX6_says 3 = .ok (.irem, 1) := by decide +kernel
theorem dX6_says_4 : decode cX6_says 4 = .ok (.ifCond .ne 11, 3) := by decide +kernel
theorem dX6_says_7 : decode cX6_says 7 = .ok (.aload_n 0, 1) := by decide +kernel
theorem dX6_says_8 : decode cX6_says 8 = .ok (.aload_n 1, 1) := by decide +kernel
theorem dX6_says_9 : decode cX6_says 9 = .ok (.invokevirtual 7, 3) := by decide +kernel
theorem dX6_says_12 : decode cX6_says 12 = .ok (.goto 10, 3) := by decide +kernel
theorem dX6_says_15 : decode cX6_says 15 = .ok (.aload_n 0, 1) := by decide +kernel
theorem dX6_says_16 : decode cX6_says 16 = .ok (.aload_n 1, 1) := by decide +kernel
theorem dX6_says_17 : decode cX6_says 17 = .ok (.iload_n 2, 1) := by decide +kernel
theorem dX6_says_18 : decode cX6_says 18 = .ok (.iload_n 3, 1) := by decide +kernel
theorem dX6_says_19 : decode cX6_says 19 = .ok (.invokespecial 13, 3) := by decide +kernel
theorem dX6_says_22 : decode cX6_says 22 = .ok (.ireturn, 1) := by decide +kernel
theorem dX6_believes_0 : decode cX6_believes 0 = .ok (.iload_n 1, 1) := by decide +kernel
theorem dX6_believes_1 : decode cX6_believes 1 = .ok (.ifCond .ne 16, 3) := by decide +kernel
theorem dX6_believes_4 : decode cX6_believes 4 = .ok (.aload_n 0, 1) := by decide +kernel
theorem dX6_believes_5 : decode cX6_believes 5 = .ok (.iload_n 1, 1) := by decide +kernel
theorem dX6_believes_6 : decode cX6_believes 6 = .ok (.iload_n 2, 1) := by decide +kernel
theorem dX6_believes_7 : decode cX6_believes 7 = .ok (.invokespecial 17, 3) := by decide +kernel
theorem dX6_believes_10 : decode cX6_believes 10 = .ok (.ifCond .eq 7, 3) := by decide +kernel
theorem dX6_believes_13 : decode cX6_believes 13 = .ok (.iconst 1, 1) := by decide +kernel
theorem dX6_believes_14 : decode cX6_believes 14 = .ok (.goto 4, 3) := by decide +kernel
theorem dX6_believes_17 : decode cX6_believes 17 = .ok (.iconst 0, 1) := by decide +kernel
theorem dX6_believes_18 : decode cX6_believes 18 = .ok (.ireturn, 1) := by decide +kernel
theorem dX7_init_0 : decode cX7_init 0 = .ok (.aload_n 0, 1) := by decide +kernel
theorem dX7_init_1 : decode cX7_init 1 = .ok (.invokespecial 3, 3) := by decide +kernel
theorem dX7_init_4 : decode cX7_init 4 = .ok (.aload_n 0, 1) := by decide +kernel
theorem dX7_init_5 : decode cX7_init 5 = .ok (.bipush 120, 2) := by decide +kernel
theorem dX7_init_7 : decode cX7_init 7 = .ok (.newarray .int, 2) := by decide +kernel
theorem dX7_init_9 : decode cX7_init 9 = .ok (.putfield 9, 3) := by decide +kernel
theorem dX7_init_12 : decode cX7_init 12 = .ok (.return_, 1) := by decide +kernel
theorem dX7_append_0 : decode cX7_append 0 = .ok (.aload_n 0, 1) := by decide +kernel
theorem dX7_append_1 : decode cX7_append 1 = .ok (.getfield 9, 3) := by decide +kernel
theorem dX7_append_4 : decode cX7_append 4 = .ok (.aload_n 0, 1) := by decide +kernel
theorem dX7_append_5 : decode cX7_append 5 = .ok (.getfield 15, 3) := by decide +kernel
theorem dX7_append_8 : decode cX7_append 8 = .ok (.iload_n 1, 1) := by decide +kernel
theorem dX7_append_9 : decode cX7_append 9 = .ok (.iastore, 1) := by decide +kernel
theorem dX7_append_10 : decode cX7_append 10 = .ok (.aload_n 0, 1) := by decide +kernel
theorem dX7_append_11 : decode cX7_append 11 = .ok (.dup, 1) := by decide +kernel
theorem dX7_append_12 : decode cX7_append 12 = .ok (.getfield 15, 3) := by decide +kernel
theorem dX7_append_15 : decode cX7_append 15 = .ok (.iconst 1, 1) := by decide +kernel
theorem dX7_append_16 : decode cX7_append 16 = .ok (.iadd, 1) := by decide +kernel
theorem dX7_append_17 : decode cX7_append 17 = .ok (.putfield 15, 3) := by decide +kernel
theorem dX7_append_20 : decode cX7_append 20 = .ok (.return_, 1) := by decide +kernel
theorem dX7_tellTo_0 : decode cX7_tellTo 0 = .ok (.aload_n 0, 1) := by decide +kernel
theorem dX7_tellTo_1 : decode cX7_tellTo 1 = .ok (.iconst 0, 1) := by decide +kernel
theorem dX7_tellTo_2 : decode cX7_tellTo 2 = .ok (.putfield 19, 3) := by decide +kernel
theorem dX7_tellTo_5 : decode cX7_tellTo 5 = .ok (.aload_n 0, 1) := by decide +kernel
theorem dX7_tellTo_6 : decode cX7_tellTo 6 = .ok (.invokevirtual 22, 3) := by decide +kernel
theorem dX7_tellTo_9 : decode cX7_tellTo 9 = .ok (.iconst 1, 1) := by decide +kernel
theorem dX7_tellTo_10 : decode cX7_tellTo 10 = .ok (.istore_n 2, 1) := by decide +kernel
theorem dX7_tellTo_11 : decode cX7_tellTo 11 = .ok (.iload_n 2, 1) := by decide +kernel
theorem dX7_tellTo_12 : decode cX7_tellTo 12 = .ok (.bipush 120, 2) := by decide +kernel
theorem dX7_tellTo_14 : decode cX7_tellTo 14 = .ok (.if_icmp .gt 52, 3) := by decide +kernel
theorem dX7_tellTo_17 : decode cX7_tellTo 17 = .ok (.aload_n 0, 1) := by decide +kernel
theorem dX7_tellTo_18 : decode cX7_tellTo 18 = .ok (.aload_n 1, 1) := by decide +kernel
theorem dX7_tellTo_19 : decode cX7_tellTo 19 = .ok (.invokevirtual 25, 3) := by decide +kernel
theorem dX7_tellTo_22 : decode cX7_tellTo 22 = .ok (.ifCond .ne 10, 3) := by decide +kernel
theorem dX7_tellTo_25 : decode cX7_tellTo 25 = .ok (.iconst (-1), 1) := by decide +kernel
theorem dX7_tellTo_26 : decode cX7_tellTo 26 = .ok (.aload_n 0, 1) := by decide +kernel
theorem dX7_tellTo_27 : decode cX7_tellTo 27 = .ok (.getfield 29, 3) := by decide +kernel
theorem dX7_tellTo_30 : decode cX7_tellTo 30 = .ok (.isub, 1) := by decide +kernel
theorem dX7_tellTo_31 : decode cX7_tellTo 31 = .ok (.ireturn, 1) := by decide +kernel
theorem dX7_tellTo_32 : decode cX7_tellTo 32 = .ok (.aload_n 0, 1) := by decide +kernel
theorem dX7_tellTo_33 : decode cX7_tellTo 33 = .ok (.getfield 32, 3) := by decide +kernel
theorem dX7_tellTo_36 : decode cX7_tellTo 36 = .ok (.ifCond .ne 5, 3) := by decide +kernel
theorem dX7_tellTo_39 : decode cX7_tellTo 39 = .ok (.iload_n 2, 1) := by decide +kernel
theorem dX7_tellTo_40 : decode cX7_tellTo 40 = .ok (.ireturn, 1) := by decide +kernel
theorem dX7_tellTo_41 : decode cX7_tellTo 41 = .ok (.aload_n 0, 1) := by decide +kernel
theorem dX7_tellTo_42 : decode cX7_tellTo 42 = .ok (.getfield 32, 3) := by decide +kernel
theorem dX7_tellTo_45 : decode cX7_tellTo 45 = .ok (.iconst 3, 1) := by decide +kernel
theorem dX7_tellTo_46 : decode cX7_tellTo 46 = .ok (.if_icmp .eq 10, 3) := by decide +kernel
theorem dX7_tellTo_49 : decode cX7_tellTo 49 = .ok (.iconst (-1), 1) := by decide +kernel
theorem dX7_tellTo_50 : decode cX7_tellTo 50 = .ok (.aload_n 0, 1) := by decide +kernel
theorem dX7_tellTo_51 : decode cX7_tellTo 51 = .ok (.getfield 29, 3) := by decide +kernel
theorem dX7_tellTo_54 : decode cX7_tellTo 54 = .ok (.isub, 1) := by decide +kernel
theorem dX7_tellTo_55 : decode cX7_tellTo 55 = .ok (.ireturn, 1) := by decide +kernel
theorem dX7_tellTo_56 : decode cX7_tellTo 56 = .ok (.aload_n 0, 1) := by decide +kernel
theorem dX7_tellTo_57 : decode cX7_tellTo 57 = .ok (.invokevirtual 22, 3) := by decide +kernel
theorem dX7_tellTo_60 : decode cX7_tellTo 60 = .ok (.iinc 2 1, 3) := by decide +kernel
theorem dX7_tellTo_63 : decode cX7_tellTo 63 = .ok (.goto (-52), 3) := by decide +kernel
theorem dX7_tellTo_66 : decode cX7_tellTo 66 = .ok (.iconst (-1), 1) := by decide +kernel
theorem dX7_tellTo_67 : decode cX7_tellTo 67 = .ok (.aload_n 0, 1) := by decide +kernel
theorem dX7_tellTo_68 : decode cX7_tellTo 68 = .ok (.getfield 29, 3) := by decide +kernel
theorem dX7_tellTo_71 : decode cX7_tellTo 71 = .ok (.isub, 1) := by decide +kernel
theorem dX7_tellTo_72 : decode cX7_tellTo 72 = .ok (.ireturn, 1) := by decide +kernel
theorem dX7_tellItem_0 : decode cX7_tellItem 0 = .ok (.iconst 0, 1) := by decide +kernel
theorem dX7_tellItem_1 : decode cX7_tellItem 1 = .ok (.istore_n 2, 1) := by decide +kernel
theorem dX7_tellItem_2 : decode cX7_tellItem 2 = .ok (.iload_n 2, 1) := by decide +kernel
theorem dX7_tellItem_3 : decode cX7_tellItem 3 = .ok (.bipush 6, 2) := by decide +kernel
theorem dX7_tellItem_5 : decode cX7_tellItem 5 = .ok (.if_icmp .ge 42, 3) := by decide +kernel
theorem dX7_tellItem_8 : decode cX7_tellItem 8 = .ok (.aload_n 0, 1) := by decide +kernel
theorem dX7_tellItem_9 : decode cX7_tellItem 9 = .ok (.iload_n 2, 1) := by decide +kernel
theorem dX7_tellItem_10 : decode cX7_tellItem 10 = .ok (.invokestatic 35, 3) := by decide +kernel
theorem dX7_tellItem_13 : decode cX7_tellItem 13 = .ok (.invokevirtual 39, 3) := by decide +kernel
theorem dX7_tellItem_16 : decode cX7_tellItem 16 = .ok (.ifCond .eq 25, 3) := by decide +kernel
theorem dX7_tellItem_19 : decode cX7_tellItem 19 = .ok (.aload_n 1, 1) := by decide +kernel
theorem dX7_tellItem_20 : decode cX7_tellItem 20 = .ok (.invokevirtual 43, 3) := by decide +kernel
theorem dX7_tellItem_23 : decode cX7_tellItem 23 = .ok (.ifCond .ne 16, 3) := by decide +kernel
theorem dX7_tellItem_26 : decode cX7_tellItem 26 = .ok (.aload_n 0, 1) := by decide +kernel
theorem dX7_tellItem_27 : decode cX7_tellItem 27 = .ok (.aload_n 1, 1) := by decide +kernel
theorem dX7_tellItem_28 : decode cX7_tellItem 28 = .ok (.iload_n 2, 1) := by decide +kernel
theorem dX7_tellItem_29 : decode cX7_tellItem 29 = .ok (.invokevirtual 49, 3) := by decide +kernel
theorem dX7_tellItem_32 : decode cX7_tellItem 32 = .ok (.ifCond .eq 7, 3) := by decide +kernel
theorem dX7_tellItem_35 : decode cX7_tellItem 35 = .ok (.iconst 1, 1) := by decide +kernel
theorem dX7_tellItem_36 : decode cX7_tellItem 36 = .ok (.goto 4, 3) := by decide +kernel
theorem dX7_tellItem_39 : decode cX7_tellItem 39 = .ok (.iconst 0, 1) := by decide +kernel
theorem dX7_tellItem_40 : decode cX7_tellItem 40 = .ok (.ireturn, 1) := by decide +kernel
theorem dX7_tellItem_41 : decode cX7_tellItem 41 = .ok (.iinc 2 1, 3) := by decide +kernel
theorem dX7_tellItem_44 : decode cX7_tellItem 44 = .ok (.goto (-42), 3) := by decide +kernel
theorem dX7_tellItem_47 : decode cX7_tellItem 47 = .ok (.aload_n 0, 1) := by decide +kernel
theorem dX7_tellItem_48 : decode cX7_tellItem 48 = .ok (.ldc 53, 2) := by decide +kernel
theorem dX7_tellItem_50 : decode cX7_tellItem 50 = .ok (.invokevirtual 39, 3) := by decide +kernel
theorem dX7_tellItem_53 : decode cX7_tellItem 53 = .ok (.ifCond .eq 10, 3) := by decide +kernel
theorem dX7_tellItem_56 : decode cX7_tellItem 56 = .ok (.aload_n 0, 1) := by decide +kernel
theorem dX7_tellItem_57 : decode cX7_tellItem 57 = .ok (.aload_n 1, 1) := by decide +kernel
theorem dX7_tellItem_58 : decode cX7_tellItem 58 = .ok (.iconst 1, 1) := by decide +kernel
theorem dX7_tellItem_59 : decode cX7_tellItem 59 = .ok (.invokevirtual 55, 3) := by decide +kernel
theorem dX7_tellItem_62 : decode cX7_tellItem 62 = .ok (.ireturn, 1) := by decide +kernel
theorem dX7_tellItem_63 : decode cX7_tellItem 63 = .ok (.aload_n 0, 1) := by decide +kernel
theorem dX7_tellItem_64 : decode cX7_tellItem 64 = .ok (.ldc 59, 2) := by decide +kernel
theorem dX7_tellItem_66 : decode cX7_tellItem 66 = .ok (.invokevirtual 39, 3) := by decide +kernel
theorem dX7_tellItem_69 : decode cX7_tellItem 69 = .ok (.ifCond .eq 16, 3) := by decide +kernel
theorem dX7_tellItem_72 : decode cX7_tellItem 72 = .ok (.aload_n 0, 1) := by decide +kernel
theorem dX7_tellItem_73 : decode cX7_tellItem 73 = .ok (.aload_n 1, 1) := by decide +kernel
theorem dX7_tellItem_74 : decode cX7_tellItem 74 = .ok (.iconst 0, 1) := by decide +kernel
theorem dX7_tellItem_75 : decode cX7_tellItem 75 = .ok (.invokevirtual 55, 3) := by decide +kernel
theorem dX7_tellItem_78 : decode cX7_tellItem 78 = .ok (.ifCond .eq 7, 3) := by decide +kernel
theorem dX7_tellItem_81 : decode cX7_tellItem 81 = .ok (.iconst 1, 1) := by decide +kernel
theorem dX7_tellItem_82 : decode cX7_tellItem 82 = .ok (.goto 4, 3) := by decide +kernel
theorem dX7_tellItem_85 : decode cX7_tellItem 85 = .ok (.iconst 0, 1) := by decide +kernel
theorem dX7_tellItem_86 : decode cX7_tellItem 86 = .ok (.ireturn, 1) := by decide +kernel
theorem dX7_tellSecret_0 : decode cX7_tellSecret 0 = .ok (.aload_n 0, 1) := by decide +kernel
theorem dX7_tellSecret_1 : decode cX7_tellSecret 1 = .ok (.invokevirtual 22, 3) := by decide +kernel
theorem dX7_tellSecret_4 : decode cX7_tellSecret 4 = .ok (.aload_n 0, 1) := by decide +kernel
theorem dX7_tellSecret_5 : decode cX7_tellSecret 5 = .ok (.bipush 10, 2) := by decide +kernel
theorem dX7_tellSecret_7 : decode cX7_tellSecret 7 = .ok (.invokevirtual 61, 3) := by decide +kernel
theorem dX7_tellSecret_10 : decode cX7_tellSecret 10 = .ok (.ifCond .ne 5, 3) := by decide +kernel
theorem dX7_tellSecret_13 : decode cX7_tellSecret 13 = .ok (.iconst 0, 1) := by decide +kernel
theorem dX7_tellSecret_14 : decode cX7_tellSecret 14 = .ok (.ireturn, 1) := by decide +kernel
theorem dX7_tellSecret_15 : decode cX7_tellSecret 15 = .ok (.iconst 1, 1) := by decide +kernel
theorem dX7_tellSecret_16 : decode cX7_tellSecret 16 = .ok (.aload_n 0, 1) := by decide +kernel
theorem dX7_tellSecret_17 : decode cX7_tellSecret 17 = .ok (.getfield 65, 3) := by decide +kernel
theorem dX7_tellSecret_20 : decode cX7_tellSecret 20 = .ok (.ishl, 1) := by decide +kernel
theorem dX7_tellSecret_21 : decode cX7_tellSecret 21 = .ok (.istore_n 3, 1) := by decide +kernel
theorem dX7_tellSecret_22 : decode cX7_tellSecret 22 = .ok (.aload_n 1, 1) := by decide +kernel
theorem dX7_tellSecret_23 : decode cX7_tellSecret 23 = .ok (.iload_n 2, 1) := by decide +kernel
theorem dX7_tellSecret_24 : decode cX7_tellSecret 24 = .ok (.ifCond .eq 12, 3) := by decide +kernel
theorem dX7_tellSecret_27 : decode cX7_tellSecret 27 = .ok (.aload_n 1, 1) := by decide +kernel
theorem dX7_tellSecret_28 : decode cX7_tellSecret 28 = .ok (.getfield 68, 3) := by decide +kernel
theorem dX7_tellSecret_31 : decode cX7_tellSecret 31 = .ok (.iload_n 3, 1) := by decide +kernel
theorem dX7_tellSecret_32 : decode cX7_tellSecret 32 = .ok (.ior, 1) := by decide +kernel
theorem dX7_tellSecret_33 : decode cX7_tellSecret 33 = .ok (.goto 11, 3) := by decide +kernel
theorem dX7_tellSecret_36 : decode cX7_tellSecret 36 = .ok (.aload_n 1, 1) := by decide +kernel
theorem dX7_tellSecret_37 : decode cX7_tellSecret 37 = .ok (.getfield 68, 3) := by decide +kernel
theorem dX7_tellSecret_40 : decode cX7_tellSecret 40 = .ok (.iload_n 3, 1) := by decide +kernel
theorem dX7_tellSecret_41 : decode cX7_tellSecret 41 = .ok (.iconst (-1), 1) := by decide +kernel
theorem dX7_tellSecret_42 : decode cX7_tellSecret 42 = .ok (.ixor, 1) := by decide +kernel
theorem dX7_tellSecret_43 : decode cX7_tellSecret 43 = .ok (.iand, 1) := by decide +kernel
theorem dX7_tellSecret_44 : decode cX7_tellSecret 44 = .ok (.putfield 68, 3) := by decide +kernel
theorem dX7_tellSecret_47 : decode cX7_tellSecret 47 = .ok (.aload_n 0, 1) := by decide +kernel
theorem dX7_tellSecret_48 : decode cX7_tellSecret 48 = .ok (.invokevirtual 22, 3) := by decide +kernel
theorem dX7_tellSecret_51 : decode cX7_tellSecret 51 = .ok (.iconst 1, 1) := by decide +kernel
theorem dX7_tellSecret_52 : decode cX7_tellSecret 52 = .ok (.ireturn, 1) := by decide +kernel
theorem dX7_tellVisitor_0 : decode cX7_tellVisitor 0 = .ok (.aload_n 1, 1) := by decide +kernel
theorem dX7_tellVisitor_1 : decode cX7_tellVisitor 1 = .ok (.aload_n 1, 1) := by decide +kernel
theorem dX7_tellVisitor_2 : decode cX7_tellVisitor 2 = .ok (.iload_n 2, 1) := by decide +kernel
theorem dX7_tellVisitor_3 : decode cX7_tellVisitor 3 = .ok (.invokevirtual 71, 3) := by decide +kernel
theorem dX7_tellVisitor_6 : decode cX7_tellVisitor 6 = .ok (.invokevirtual 75, 3) := by decide +kernel
theorem dX7_tellVisitor_9 : decode cX7_tellVisitor 9 = .ok (.astore_n 3, 1) := by decide +kernel
theorem dX7_tellVisitor_10 : decode cX7_tellVisitor 10 = .ok (.aload_n 0, 1) := by decide +kernel
theorem dX7_tellVisitor_11 : decode cX7_tellVisitor 11 = .ok (.invokevirtual 22, 3) := by decide +kernel
theorem dX7_tellVisitor_14 : decode cX7_tellVisitor 14 = .ok (.aload_n 0, 1) := by decide +kernel
theorem dX7_tellVisitor_15 : decode cX7_tellVisitor 15 = .ok (.ldc 79, 2) := by decide +kernel
theorem dX7_tellVisitor_17 : decode cX7_tellVisitor 17 = .ok (.invokevirtual 39, 3) := by decide +kernel
theorem dX7_tellVisitor_20 : decode cX7_tellVisitor 20 = .ok (.ifCond .eq 13, 3) := by decide +kernel
theorem dX7_tellVisitor_23 : decode cX7_tellVisitor 23 = .ok (.aload_n 0, 1) := by decide +kernel
theorem dX7_tellVisitor_24 : decode cX7_tellVisitor 24 = .ok (.aload_n 3, 1) := by decide +kernel
theorem dX7_tellVisitor_25 : decode cX7_tellVisitor 25 = .ok (.invokevirtual 81, 3) := by decide +kernel
theorem dX7_tellVisitor_28 : decode cX7_tellVisitor 28 = .ok (.ifCond .ne 5, 3) := by decide +kernel
theorem dX7_tellVisitor_31 : decode cX7_tellVisitor 31 = .ok (.iconst 0, 1) := by decide +kernel
theorem dX7_tellVisitor_32 : decode cX7_tellVisitor 32 = .ok (.ireturn, 1) := by decide +kernel
theorem dX7_tellVisitor_33 : decode cX7_tellVisitor 33 = .ok (.aload_n 0, 1) := by decide +kernel
theorem dX7_tellVisitor_34 : decode cX7_tellVisitor 34 = .ok (.ldc 85, 2) := by decide +kernel
theorem dX7_tellVisitor_36 : decode cX7_tellVisitor 36 = .ok (.invokevirtual 39, 3) := by decide +kernel
theorem dX7_tellVisitor_39 : decode cX7_tellVisitor 39 = .ok (.ifCond .eq 12, 3) := by decide +kernel
theorem dX7_tellVisitor_42 : decode cX7_tellVisitor 42 = .ok (.aload_n 0, 1) := by decide +kernel
theorem dX7_tellVisitor_43 : decode cX7_tellVisitor 43 = .ok (.aload_n 1, 1) := by decide +kernel
theorem dX7_tellVisitor_44 : decode cX7_tellVisitor 44 = .ok (.aload_n 3, 1) := by decide +kernel
theorem dX7_tellVisitor_45 : decode cX7_tellVisitor 45 = .ok (.invokevirtual 87, 3) := by decide +kernel
theorem dX7_tellVisitor_48 : decode cX7_tellVisitor 48 = .ok (.ifCond .eq 7, 3) := by decide +kernel
theorem dX7_tellVisitor_51 : decode cX7_tellVisitor 51 = .ok (.iconst 1, 1) := by decide +kernel
theorem dX7_tellVisitor_52 : decode cX7_tellVisitor 52 = .ok (.goto 4, 3) := by decide +kernel
theorem dX7_tellVisitor_55 : decode cX7_tellVisitor 55 = .ok (.iconst 0, 1) := by decide +kernel
theorem dX7_tellVisitor_56 : decode cX7_tellVisitor 56 = .ok (.ireturn, 1) := by decide +kernel
theorem dX7_tellKnown_0 : decode cX7_tellKnown 0 = .ok (.aload_n 0, 1) := by decide +kernel
theorem dX7_tellKnown_1 : decode cX7_tellKnown 1 = .ok (.invokevirtual 22, 3) := by decide +kernel
theorem dX7_tellKnown_4 : decode cX7_tellKnown 4 = .ok (.aload_n 0, 1) := by decide +kernel
theorem dX7_tellKnown_5 : decode cX7_tellKnown 5 = .ok (.bipush 10, 2) := by decide +kernel
theorem dX7_tellKnown_7 : decode cX7_tellKnown 7 = .ok (.invokevirtual 61, 3) := by decide +kernel
theorem dX7_tellKnown_10 : decode cX7_tellKnown 10 = .ok (.ifCond .ne 5, 3) := by decide +kernel
theorem dX7_tellKnown_13 : decode cX7_tellKnown 13 = .ok (.iconst 0, 1) := by decide +kernel
theorem dX7_tellKnown_14 : decode cX7_tellKnown 14 = .ok (.ireturn, 1) := by decide +kernel
theorem dX7_tellKnown_15 : decode cX7_tellKnown 15 = .ok (.iconst 0, 1) := by decide +kernel
theorem dX7_tellKnown_16 : decode cX7_tellKnown 16 = .ok (.istore_n 2, 1) := by decide +kernel
theorem dX7_tellKnown_17 : decode cX7_tellKnown 17 = .ok (.iload_n 2, 1) := by decide +kernel
theorem dX7_tellKnown_18 : decode cX7_tellKnown 18 = .ok (.iconst 4, 1) := by decide +kernel
theorem dX7_tellKnown_19 : decode cX7_tellKnown 19 = .ok (.if_icmp .ge 37, 3) := by decide +kernel
theorem dX7_tellKnown_22 : decode cX7_tellKnown 22 = .ok (.aload_n 0, 1) := by decide +kernel
theorem dX7_tellKnown_23 : decode cX7_tellKnown 23 = .ok (.bipush 10, 2) := by decide +kernel
theorem dX7_tellKnown_25 : decode cX7_tellKnown 25 = .ok (.invokevirtual 61, 3) := by decide +kernel
theorem dX7_tellKnown_28 : decode cX7_tellKnown 28 = .ok (.ifCond .eq 28, 3) := by decide +kernel
theorem dX7_tellKnown_31 : decode cX7_tellKnown 31 = .ok (.aload_n 1, 1) := by decide +kernel
theorem dX7_tellKnown_32 : decode cX7_tellKnown 32 = .ok (.dup, 1) := by decide +kernel
theorem dX7_tellKnown_33 : decode cX7_tellKnown 33 = .ok (.getfield 91, 3) := by decide +kernel
theorem dX7_tellKnown_36 : decode cX7_tellKnown 36 = .ok (.iconst 1, 1) := by decide +kernel
theorem dX7_tellKnown_37 : decode cX7_tellKnown 37 = .ok (.aload_n 0, 1) := by decide +kernel
theorem dX7_tellKnown_38 : decode cX7_tellKnown 38 = .ok (.getfield 65, 3) := by decide +kernel
theorem dX7_tellKnown_41 : decode cX7_tellKnown 41 = .ok (.ishl, 1) := by decide +kernel
theorem dX7_tellKnown_42 : decode cX7_tellKnown 42 = .ok (.ior, 1) := by decide +kernel
theorem dX7_tellKnown_43 : decode cX7_tellKnown 43 = .ok (.putfield 91, 3) := by decide +kernel
theorem dX7_tellKnown_46 : decode cX7_tellKnown 46 = .ok (.aload_n 0, 1) := by decide +kernel
theorem dX7_tellKnown_47 : decode cX7_tellKnown 47 = .ok (.invokevirtual 22, 3) := by decide +kernel
theorem dX7_tellKnown_50 : decode cX7_tellKnown 50 = .ok (.iinc 2 1, 3) := by decide +kernel
theorem dX7_tellKnown_53 : decode cX7_tellKnown 53 = .ok (.goto (-36), 3) := by decide +kernel
theorem dX7_tellKnown_56 : decode cX7_tellKnown 56 = .ok (.iconst 1, 1) := by decide +kernel
theorem dX7_tellKnown_57 : decode cX7_tellKnown 57 = .ok (.ireturn, 1) := by decide +kernel
theorem dX7_tellSeat_0 : decode cX7_tellSeat 0 = .ok (.aload_n 0, 1) := by decide +kernel
theorem dX7_tellSeat_1 : decode cX7_tellSeat 1 = .ok (.invokevirtual 22, 3) := by decide +kernel
theorem dX7_tellSeat_4 : decode cX7_tellSeat 4 = .ok (.aload_n 0, 1) := by decide +kernel
theorem dX7_tellSeat_5 : decode cX7_tellSeat 5 = .ok (.iconst 2, 1) := by decide +kernel
theorem dX7_tellSeat_6 : decode cX7_tellSeat 6 = .ok (.invokevirtual 61, 3) := by decide +kernel
theorem dX7_tellSeat_9 : decode cX7_tellSeat 9 = .ok (.ifCond .eq 15, 3) := by decide +kernel
theorem dX7_tellSeat_12 : decode cX7_tellSeat 12 = .ok (.aload_n 1, 1) := by decide +kernel
theorem dX7_tellSeat_13 : decode cX7_tellSeat 13 = .ok (.aload_n 0, 1) := by decide +kernel
theorem dX7_tellSeat_14 : decode cX7_tellSeat 14 = .ok (.getfield 65, 3) := by decide +kernel
theorem dX7_tellSeat_17 : decode cX7_tellSeat 17 = .ok (.invokevirtual 96, 3) := by decide +kernel
theorem dX7_tellSeat_20 : decode cX7_tellSeat 20 = .ok (.iconst (-1), 1) := by decide +kernel
theorem dX7_tellSeat_21 : decode cX7_tellSeat 21 = .ok (.if_icmp .eq 5, 3) := by decide +kernel
theorem dX7_tellSeat_24 : decode cX7_tellSeat 24 = .ok (.iconst 0, 1) := by decide +kernel
theorem dX7_tellSeat_25 : decode cX7_tellSeat 25 = .ok (.ireturn, 1) := by decide +kernel
theorem dX7_tellSeat_26 : decode cX7_tellSeat 26 = .ok (.aload_n 2, 1) := by decide +kernel
theorem dX7_tellSeat_27 : decode cX7_tellSeat 27 = .ok (.aload_n 0, 1) := by decide +kernel
theorem dX7_tellSeat_28 : decode cX7_tellSeat 28 = .ok (.getfield 65, 3) := by decide +kernel
theorem dX7_tellSeat_31 : decode cX7_tellSeat 31 = .ok (.invokevirtual 99, 3) := by decide +kernel
theorem dX7_tellSeat_34 : decode cX7_tellSeat 34 = .ok (.aload_n 0, 1) := by decide +kernel
theorem dX7_tellSeat_35 : decode cX7_tellSeat 35 = .ok (.invokevirtual 22, 3) := by decide +kernel
theorem dX7_tellSeat_38 : decode cX7_tellSeat 38 = .ok (.iconst 1, 1) := by decide +kernel
theorem dX7_tellSeat_39 : decode cX7_tellSeat 39 = .ok (.ireturn, 1) := by decide +kernel
theorem dX7_nameOf_0 : decode cX7_nameOf 0 = .ok (.iload_n 0, 1) := by decide +kernel
theorem dX7_nameOf_1 : decode cX7_nameOf 1 = .ok (.tableswitch 50 0 4 #[35, 38, 41, 44, 47], 35) := by decide +kernel
theorem dX7_nameOf_36 : decode cX7_nameOf 36 = .ok (.ldc 103, 2) := by decide +kernel
theorem dX7_nameOf_38 : decode cX7_nameOf 38 = .ok (.areturn, 1) := by decide +kernel
theorem dX7_nameOf_39 : decode cX7_nameOf 39 = .ok (.ldc 105, 2) := by decide +kernel
theorem dX7_nameOf_41 : decode cX7_nameOf 41 = .ok (.areturn, 1) := by decide +kernel
theorem dX7_nameOf_42 : decode cX7_nameOf 42 = .ok (.ldc 107, 2) := by decide +kernel
theorem dX7_nameOf_44 : decode cX7_nameOf 44 = .ok (.areturn, 1) := by decide +kernel
theorem dX7_nameOf_45 : decode cX7_nameOf 45 = .ok (.ldc 109, 2) := by decide +kernel
theorem dX7_nameOf_47 : decode cX7_nameOf 47 = .ok (.areturn, 1) := by decide +kernel
theorem dX7_nameOf_48 : decode cX7_nameOf 48 = .ok (.ldc 111, 2) := by decide +kernel
theorem dX7_nameOf_50 : decode cX7_nameOf 50 = .ok (.areturn, 1) := by decide +kernel
theorem dX7_nameOf_51 : decode cX7_nameOf 51 = .ok (.ldc 113, 2) := by decide +kernel
theorem dX7_nameOf_53 : decode cX7_nameOf 53 = .ok (.areturn, 1) := by decide +kernel
theorem dX7_isWord_0 : decode cX7_isWord 0 = .ok (.aload_n 0, 1) := by decide +kernel
theorem dX7_isWord_1 : decode cX7_isWord 1 = .ok (.getfield 32, 3) := by decide +kernel
theorem dX7_isWord_4 : decode cX7_isWord 4 = .ok (.iconst 1, 1) := by decide +kernel
theorem dX7_isWord_5 : decode cX7_isWord 5 = .ok (.if_icmp .ne 19, 3) := by decide +kernel
theorem dX7_isWord_8 : decode cX7_isWord 8 = .ok (.aload_n 0, 1) := by decide +kernel
theorem dX7_isWord_9 : decode cX7_isWord 9 = .ok (.getfield 19, 3) := by decide +kernel
theorem dX7_isWord_12 : decode cX7_isWord 12 = .ok (.aload_n 0, 1) := by decide +kernel
theorem dX7_isWord_13 : decode cX7_isWord 13 = .ok (.getfield 29, 3) := by decide +kernel
theorem dX7_isWord_16 : decode cX7_isWord 16 = .ok (.isub, 1) := by decide +kernel
theorem dX7_isWord_17 : decode cX7_isWord 17 = .ok (.aload_n 1, 1) := by decide +kernel
theorem dX7_isWord_18 : decode cX7_isWord 18 = .ok (.invokevirtual 115, 3) := by decide +kernel
theorem dX7_isWord_21 : decode cX7_isWord 21 = .ok (.if_icmp .eq 5, 3) := by decide +kernel
theorem dX7_isWord_24 : decode cX7_isWord 24 = .ok (.iconst 0, 1) := by decide +kernel
theorem dX7_isWord_25 : decode cX7_isWord 25 = .ok (.ireturn, 1) := by decide +kernel
theorem dX7_isWord_26 : decode cX7_isWord 26 = .ok (.iconst 0, 1) := by decide +kernel
theorem dX7_isWord_27 : decode cX7_isWord 27 = .ok (.istore_n 2, 1) := by decide +kernel
theorem dX7_isWord_28 : decode cX7_isWord 28 = .ok (.iload_n 2, 1) := by decide +kernel
theorem dX7_isWord_29 : decode cX7_isWord 29 = .ok (.aload_n 1, 1) := by decide +kernel
theorem dX7_isWord_30 : decode cX7_isWord 30 = .ok (.invokevirtual 115, 3) := by decide +kernel
theorem dX7_isWord_33 : decode cX7_isWord 33 = .ok (.if_icmp .ge 30, 3) := by decide +kernel
theorem dX7_isWord_36 : decode cX7_isWord 36 = .ok (.aload_n 0, 1) := by decide +kernel
theorem dX7_isWord_37 : decode cX7_isWord 37 = .ok (.getfield 9, 3) := by decide +kernel
theorem dX7_isWord_40 : decode cX7_isWord 40 = .ok (.aload_n 0, 1) := by decide +kernel
theorem dX7_isWord_41 : decode cX7_isWord 41 = .ok (.getfield 29, 3) := by decide +kernel
theorem dX7_isWord_44 : decode cX7_isWord 44 = .ok (.iload_n 2, 1) := by decide +kernel
theorem dX7_isWord_45 : decode cX7_isWord 45 = .ok (.iadd, 1) := by decide +kernel
theorem dX7_isWord_46 : decode cX7_isWord 46 = .ok (.iaload, 1) := by decide +kernel
theorem dX7_isWord_47 : decode cX7_isWord 47 = .ok (.aload_n 1, 1) := by decide +kernel
theorem dX7_isWord_48 : decode cX7_isWord 48 = .ok (.iload_n 2, 1) := by decide +kernel
theorem dX7_isWord_49 : decode cX7_isWord 49 = .ok (.invokevirtual 120, 3) := by decide +kernel
theorem dX7_isWord_52 : decode cX7_isWord 52 = .ok (.if_icmp .eq 5, 3) := by decide +kernel
theorem dX7_isWord_55 : decode cX7_isWord 55 = .ok (.iconst 0, 1) := by decide +kernel
theorem dX7_isWord_56 : decode cX7_isWord 56 = .ok (.ireturn, 1) := by decide +kernel
theorem dX7_isWord_57 : decode cX7_isWord 57 = .ok (.iinc 2 1, 3) := by decide +kernel
theorem dX7_isWord_60 : decode cX7_isWord 60 = .ok (.goto (-32), 3) := by decide +kernel
theorem dX7_isWord_63 : decode cX7_isWord 63 = .ok (.iconst 1, 1) := by decide +kernel
theorem dX7_isWord_64 : decode cX7_isWord 64 = .ok (.ireturn, 1) := by decide +kernel
theorem dX7_isNumberBelow_0 : decode cX7_isNumberBelow 0 = .ok (.aload_n 0, 1) := by decide +kernel
theorem dX7_isNumberBelow_1 : decode cX7_isNumberBelow 1 = .ok (.getfield 32, 3) := by decide +kernel
theorem dX7_isNumberBelow_4 : decode cX7_isNumberBelow 4 = .ok (.iconst 2, 1) := by decide +kernel
theorem dX7_isNumberBelow_5 : decode cX7_isNumberBelow 5 = .ok (.if_icmp .ne 15, 3) := by decide +kernel
theorem dX7_isNumberBelow_8 : decode cX7_isNumberBelow 8 = .ok (.aload_n 0, 1) := by decide +kernel
theorem dX7_isNumberBelow_9 : decode cX7_isNumberBelow 9 = .ok (.getfield 65, 3) := by decide +kernel
theorem dX7_isNumberBelow_12 : decode cX7_isNumberBelow 12 = .ok (.iload_n 1, 1) := by decide +kernel
theorem dX7_isNumberBelow_13 : decode cX7_isNumberBelow 13 = .ok (.if_icmp .ge 7, 3) := by decide +kernel
theorem dX7_isNumberBelow_16 : decode cX7_isNumberBelow 16 = .ok (.iconst 1, 1) := by decide +kernel
theorem dX7_isNumberBelow_17 : decode cX7_isNumberBelow 17 = .ok (.goto 4, 3) := by decide +kernel
theorem dX7_isNumberBelow_20 : decode cX7_isNumberBelow 20 = .ok (.iconst 0, 1) := by decide +kernel
theorem dX7_isNumberBelow_21 : decode cX7_isNumberBelow 21 = .ok (.ireturn, 1) := by decide +kernel
theorem dX7_advance_0 : decode cX7_advance 0 = .ok (.aload_n 0, 1) := by decide +kernel
theorem dX7_advance_1 : decode cX7_advance 1 = .ok (.aload_n 0, 1) := by decide +kernel
theorem dX7_advance_2 : decode cX7_advance 2 = .ok (.getfield 19, 3) := by decide +kernel
theorem dX7_advance_5 : decode cX7_advance 5 = .ok (.putfield 29, 3) := by decide +kernel
theorem dX7_advance_8 : decode cX7_advance 8 = .ok (.aload_n 0, 1) := by decide +kernel
theorem dX7_advance_9 : decode cX7_advance 9 = .ok (.getfield 29, 3) := by decide +kernel
theorem dX7_advance_12 : decode cX7_advance 12 = .ok (.aload_n 0, 1) := by decide +kernel
theorem dX7_advance_13 : decode cX7_advance 13 = .ok (.getfield 15, 3) := by decide +kernel
theorem dX7_advance_16 : decode cX7_advance 16 = .ok (.if_icmp .ge 30, 3) := by decide +kernel
theorem dX7_advance_19 : decode cX7_advance 19 = .ok (.aload_n 0, 1) := by decide +kernel
theorem dX7_advance_20 : decode cX7_advance 20 = .ok (.getfield 9, 3) := by decide +kernel
theorem dX7_advance_23 : decode cX7_advance 23 = .ok (.aload_n 0, 1) := by decide +kernel
theorem dX7_advance_24 : decode cX7_advance 24 = .ok (.getfield 29, 3) := by decide +kernel
theorem dX7_advance_27 : decode cX7_advance 27 = .ok (.iaload, 1) := by decide +kernel
theorem dX7_advance_28 : decode cX7_advance 28 = .ok (.bipush 32, 2) := by decide +kernel
theorem dX7_advance_30 : decode cX7_advance 30 = .ok (.if_icmp .ne 16, 3) := by decide +kernel
theorem dX7_advance_33 : decode cX7_advance 33 = .ok (.aload_n 0, 1) := by decide +kernel
theorem dX7_advance_34 : decode cX7_advance 34 = .ok (.dup, 1) := by decide +kernel
theorem dX7_advance_35 : decode cX7_advance 35 = .ok (.getfield 29, 3) := by decide +kernel
theorem dX7_advance_38 : decode cX7_advance 38 = .ok (.iconst 1, 1) := by decide +kernel
theorem dX7_advance_39 : decode cX7_advance 39 = .ok (.iadd, 1) := by decide +kernel
theorem dX7_advance_40 : decode cX7_advance 40 = .ok (.putfield 29, 3) := by decide +kernel
theorem dX7_advance_43 : decode cX7_advance 43 = .ok (.goto (-35), 3) := by decide +kernel
theorem dX7_advance_46 : decode cX7_advance 46 = .ok (.aload_n 0, 1) := by decide +kernel
theorem dX7_advance_47 : decode cX7_advance 47 = .ok (.aload_n 0, 1) := by decide +kernel
theorem dX7_advance_48 : decode cX7_advance 48 = .ok (.getfield 29, 3) := by decide +kernel
theorem dX7_advance_51 : decode cX7_advance 51 = .ok (.putfield 19, 3) := by decide +kernel
theorem dX7_advance_54 : decode cX7_advance 54 = .ok (.aload_n 0, 1) := by decide +kernel
theorem dX7_advance_55 : decode cX7_advance 55 = .ok (.getfield 29, 3) := by decide +kernel
theorem dX7_advance_58 : decode cX7_advance 58 = .ok (.aload_n 0, 1) := by decide +kernel
theorem dX7_advance_59 : decode cX7_advance 59 = .ok (.getfield 15, 3) := by decide +kernel
theorem dX7_advance_62 : decode cX7_advance 62 = .ok (.if_icmp .lt 11, 3) := by decide +kernel
theorem dX7_advance_65 : decode cX7_advance 65 = .ok (.aload_n 0, 1) := by decide +kernel
theorem dX7_advance_66 : decode cX7_advance 66 = .ok (.iconst 0, 1) := by decide +kernel
theorem dX7_advance_67 : decode cX7_advance 67 = .ok (.putfield 32, 3) := by decide +kernel
theorem dX7_advance_70 : decode cX7_advance 70 = .ok (.goto 80, 3) := by decide +kernel
theorem dX7_advance_73 : decode cX7_advance 73 = .ok (.aload_n 0, 1) := by decide +kernel
theorem dX7_advance_74 : decode cX7_advance 74 = .ok (.getfield 9, 3) := by decide +kernel
theorem dX7_advance_77 : decode cX7_advance 77 = .ok (.aload_n 0, 1) := by decide +kernel
theorem dX7_advance_78 : decode cX7_advance 78 = .ok (.getfield 29, 3) := by decide +kernel
theorem dX7_advance_81 : decode cX7_advance 81 = .ok (.iaload, 1) := by decide +kernel
theorem dX7_advance_82 : decode cX7_advance 82 = .ok (.invokestatic 124, 3) := by decide +kernel
theorem dX7_advance_85 : decode cX7_advance 85 = .ok (.ifCond .eq 10, 3) := by decide +kernel
theorem dX7_advance_88 : decode cX7_advance 88 = .ok (.aload_n 0, 1) := by decide +kernel
theorem dX7_advance_89 : decode cX7_advance 89 = .ok (.invokevirtual 127, 3) := by decide +kernel
theorem dX7_advance_92 : decode cX7_advance 92 = .ok (.goto 58, 3) := by decide +kernel
theorem dX7_advance_95 : decode cX7_advance 95 = .ok (.aload_n 0, 1) := by decide +kernel
theorem dX7_advance_96 : decode cX7_advance 96 = .ok (.getfield 9, 3) := by decide +kernel
theorem dX7_advance_99 : decode cX7_advance 99 = .ok (.aload_n 0, 1) := by decide +kernel
theorem dX7_advance_100 : decode cX7_advance 100 = .ok (.getfield 29, 3) := by decide +kernel
theorem dX7_advance_103 : decode cX7_advance 103 = .ok (.iaload, 1) := by decide +kernel
theorem dX7_advance_104 : decode cX7_advance 104 = .ok (.invokestatic 130, 3) := by decide +kernel
theorem dX7_advance_107 : decode cX7_advance 107 = .ok (.ifCond .eq 10, 3) := by decide +kernel
theorem dX7_advance_110 : decode cX7_advance 110 = .ok (.aload_n 0, 1) := by decide +kernel
theorem dX7_advance_111 : decode cX7_advance 111 = .ok (.invokevirtual 133, 3) := by decide +kernel
theorem dX7_advance_114 : decode cX7_advance 114 = .ok (.goto 36, 3) := by decide +kernel
theorem dX7_advance_117 : decode cX7_advance 117 = .ok (.aload_n 0, 1) := by decide +kernel
theorem dX7_advance_118 : decode cX7_advance 118 = .ok (.aload_n 0, 1) := by decide +kernel
theorem dX7_advance_119 : decode cX7_advance 119 = .ok (.getfield 9, 3) := by decide +kernel
theorem dX7_advance_122 : decode cX7_advance 122 = .ok (.aload_n 0, 1) := by decide +kernel
theorem dX7_advance_123 : decode cX7_advance 123 = .ok (.getfield 29, 3) := by decide +kernel
theorem dX7_advance_126 : decode cX7_advance 126 = .ok (.iaload, 1) := by decide +kernel
theorem dX7_advance_127 : decode cX7_advance 127 = .ok (.bipush 59, 2) := by decide +kernel
theorem dX7_advance_129 : decode cX7_advance 129 = .ok (.if_icmp .ne 7, 3) := by decide +kernel
theorem dX7_advance_132 : decode cX7_advance 132 = .ok (.iconst 3, 1) := by decide +kernel
theorem dX7_advance_133 : decode cX7_advance 133 = .ok (.goto 4, 3) := by decide +kernel
theorem dX7_advance_136 : decode cX7_advance 136 = .ok (.iconst 4, 1) := by decide +kernel
theorem dX7_advance_137 : decode cX7_advance 137 = .ok (.putfield 32, 3) := by decide +kernel
theorem dX7_advance_140 : decode cX7_advance 140 = .ok (.aload_n 0, 1) := by decide +kernel
theorem dX7_advance_141 : decode cX7_advance 141 = .ok (.dup, 1) := by decide +kernel
theorem dX7_advance_142 : decode cX7_advance 142 = .ok (.getfield 19, 3) := by decide +kernel
theorem dX7_advance_145 : decode cX7_advance 145 = .ok (.iconst 1, 1) := by decide +kernel
theorem dX7_advance_146 : decode cX7_advance 146 = .ok (.iadd, 1) := by decide +kernel
theorem dX7_advance_147 : decode cX7_advance 147 = .ok (.putfield 19, 3) := by decide +kernel
theorem dX7_advance_150 : decode cX7_advance 150 = .ok (.return_, 1) := by decide +kernel
theorem dX7_takeWord_0 : decode cX7_takeWord 0 = .ok (.aload_n 0, 1) := by decide +kernel
theorem dX7_takeWord_1 : decode cX7_takeWord 1 = .ok (.iconst 1, 1) := by decide +kernel
theorem dX7_takeWord_2 : decode cX7_takeWord 2 = .ok (.putfield 32, 3) := by decide +kernel
theorem dX7_takeWord_5 : decode cX7_takeWord 5 = .ok (.aload_n 0, 1) := by decide +kernel
theorem dX7_takeWord_6 : decode cX7_takeWord 6 = .ok (.getfield 19, 3) := by decide +kernel
theorem dX7_takeWord_9 : decode cX7_takeWord 9 = .ok (.aload_n 0, 1) := by decide +kernel
theorem dX7_takeWord_10 : decode cX7_takeWord 10 = .ok (.getfield 15, 3) := by decide +kernel
theorem dX7_takeWord_13 : decode cX7_takeWord 13 = .ok (.if_icmp .ge 31, 3) := by decide +kernel
theorem dX7_takeWord_16 : decode cX7_takeWord 16 = .ok (.aload_n 0, 1) := by decide +kernel
theorem dX7_takeWord_17 : decode cX7_takeWord 17 = .ok (.getfield 9, 3) := by decide +kernel
theorem dX7_takeWord_20 : decode cX7_takeWord 20 = .ok (.aload_n 0, 1) := by decide +kernel
theorem dX7_takeWord_21 : decode cX7_takeWord 21 = .ok (.getfield 19, 3) := by decide +kernel
theorem dX7_takeWord_24 : decode cX7_takeWord 24 = .ok (.iaload, 1) := by decide +kernel
theorem dX7_takeWord_25 : decode cX7_takeWord 25 = .ok (.invokestatic 124, 3) := by decide +kernel
theorem dX7_takeWord_28 : decode cX7_takeWord 28 = .ok (.ifCond .eq 16, 3) := by decide +kernel
theorem dX7_takeWord_31 : decode cX7_takeWord 31 = .ok (.aload_n 0, 1) := by decide +kernel
theorem dX7_takeWord_32 : decode cX7_takeWord 32 = .ok (.dup, 1) := by decide +kernel
theorem dX7_takeWord_33 : decode cX7_takeWord 33 = .ok (.getfield 19, 3) := by decide +kernel
theorem dX7_takeWord_36 : decode cX7_takeWord 36 = .ok (.iconst 1, 1) := by decide +kernel
theorem dX7_takeWord_37 : decode cX7_takeWord 37 = .ok (.iadd, 1) := by decide +kernel
theorem dX7_takeWord_38 : decode cX7_takeWord 38 = .ok (.putfield 19, 3) := by decide +kernel
theorem dX7_takeWord_41 : decode cX7_takeWord 41 = .ok (.goto (-36), 3) := by decide +kernel
theorem dX7_takeWord_44 : decode cX7_takeWord 44 = .ok (.return_, 1) := by decide +kernel
theorem dX7_takeNumber_0 : decode cX7_takeNumber 0 = .ok (.aload_n 0, 1) := by decide +kernel
theorem dX7_takeNumber_1 : decode cX7_takeNumber 1 = .ok (.iconst 2, 1) := by decide +kernel
theorem dX7_takeNumber_2 : decode cX7_takeNumber 2 = .ok (.putfield 32, 3) := by decide +kernel
theorem dX7_takeNumber_5 : decode cX7_takeNumber 5 = .ok (.aload_n 0, 1) := by decide +kernel
theorem dX7_takeNumber_6 : decode cX7_takeNumber 6 = .ok (.iconst 0, 1) := by decide +kernel
theorem dX7_takeNumber_7 : decode cX7_takeNumber 7 = .ok (.putfield 65, 3) := by decide +kernel
theorem dX7_takeNumber_10 : decode cX7_takeNumber 10 = .ok (.aload_n 0, 1) := by decide +kernel
theorem dX7_takeNumber_11 : decode cX7_takeNumber 11 = .ok (.getfield 19, 3) := by decide +kernel
theorem dX7_takeNumber_14 : decode cX7_takeNumber 14 = .ok (.aload_n 0, 1) := by decide +kernel
theorem dX7_takeNumber_15 : decode cX7_takeNumber 15 = .ok (.getfield 15, 3) := by decide +kernel
theorem dX7_takeNumber_18 : decode cX7_takeNumber 18 = .ok (.if_icmp .ge 61, 3) := by decide +kernel
theorem dX7_takeNumber_21 : decode cX7_takeNumber 21 = .ok (.aload_n 0, 1) := by decide +kernel
theorem dX7_takeNumber_22 : decode cX7_takeNumber 22 = .ok (.getfield 9, 3) := by decide +kernel
theorem dX7_takeNumber_25 : decode cX7_takeNumber 25 = .ok (.aload_n 0, 1) := by decide +kernel
theorem dX7_takeNumber_26 : decode cX7_takeNumber 26 = .ok (.getfield 19, 3) := by decide +kernel
theorem dX7_takeNumber_29 : decode cX7_takeNumber 29 = .ok (.iaload, 1) := by decide +kernel
theorem dX7_takeNumber_30 : decode cX7_takeNumber 30 = .ok (.invokestatic 130, 3) := by decide +kernel
theorem dX7_takeNumber_33 : decode cX7_takeNumber 33 = .ok (.ifCond .eq 46, 3) := by decide +kernel
theorem dX7_takeNumber_36 : decode cX7_takeNumber 36 = .ok (.aload_n 0, 1) := by decide +kernel
theorem dX7_takeNumber_37 : decode cX7_takeNumber 37 = .ok (.bipush 10, 2) := by decide +kernel
theorem dX7_takeNumber_39 : decode cX7_takeNumber 39 = .ok (.aload_n 0, 1) := by decide +kernel
theorem dX7_takeNumber_40 : decode cX7_takeNumber 40 = .ok (.getfield 65, 3) := by decide +kernel
theorem dX7_takeNumber_43 : decode cX7_takeNumber 43 = .ok (.imul, 1) := by decide +kernel
theorem dX7_takeNumber_44 : decode cX7_takeNumber 44 = .ok (.aload_n 0, 1) := by decide +kernel
theorem dX7_takeNumber_45 : decode cX7_takeNumber 45 = .ok (.getfield 9, 3) := by decide +kernel
theorem dX7_takeNumber_48 : decode cX7_takeNumber 48 = .ok (.aload_n 0, 1) := by decide +kernel
theorem dX7_takeNumber_49 : decode cX7_takeNumber 49 = .ok (.getfield 19, 3) := by decide +kernel
theorem dX7_takeNumber_52 : decode cX7_takeNumber 52 = .ok (.iaload, 1) := by decide +kernel
theorem dX7_takeNumber_53 : decode cX7_takeNumber 53 = .ok (.iadd, 1) := by decide +kernel
theorem dX7_takeNumber_54 : decode cX7_takeNumber 54 = .ok (.bipush 48, 2) := by decide +kernel
theorem dX7_takeNumber_56 : decode cX7_takeNumber 56 = .ok (.isub, 1) := by decide +kernel
theorem dX7_takeNumber_57 : decode cX7_takeNumber 57 = .ok (.sipush 1000, 3) := by decide +kernel
theorem dX7_takeNumber_60 : decode cX7_takeNumber 60 = .ok (.invokestatic 136, 3) := by decide +kernel
theorem dX7_takeNumber_63 : decode cX7_takeNumber 63 = .ok (.putfield 65, 3) := by decide +kernel
theorem dX7_takeNumber_66 : decode cX7_takeNumber 66 = .ok (.aload_n 0, 1) := by decide +kernel
theorem dX7_takeNumber_67 : decode cX7_takeNumber 67 = .ok (.dup, 1) := by decide +kernel
theorem dX7_takeNumber_68 : decode cX7_takeNumber 68 = .ok (.getfield 19, 3) := by decide +kernel
theorem dX7_takeNumber_71 : decode cX7_takeNumber 71 = .ok (.iconst 1, 1) := by decide +kernel
theorem dX7_takeNumber_72 : decode cX7_takeNumber 72 = .ok (.iadd, 1) := by decide +kernel
theorem dX7_takeNumber_73 : decode cX7_takeNumber 73 = .ok (.putfield 19, 3) := by decide +kernel
theorem dX7_takeNumber_76 : decode cX7_takeNumber 76 = .ok (.goto (-66), 3) := by decide +kernel
theorem dX7_takeNumber_79 : decode cX7_takeNumber 79 = .ok (.return_, 1) := by decide +kernel
theorem dX7_isLetter_0 : decode cX7_isLetter 0 = .ok (.iload_n 0, 1) := by decide +kernel
theorem dX7_isLetter_1 : decode cX7_isLetter 1 = .ok (.bipush 97, 2) := by decide +kernel
theorem dX7_isLetter_3 : decode cX7_isLetter 3 = .ok (.if_icmp .lt 13, 3) := by decide +kernel
theorem dX7_isLetter_6 : decode cX7_isLetter 6 = .ok (.iload_n 0, 1) := by decide +kernel
theorem dX7_isLetter_7 : decode cX7_isLetter 7 = .ok (.bipush 122, 2) := by decide +kernel
theorem dX7_isLetter_9 : decode cX7_isLetter 9 = .ok (.if_icmp .gt 7, 3) := by decide +kernel
theorem dX7_isLetter_12 : decode cX7_isLetter 12 = .ok (.iconst 1, 1) := by decide +kernel
theorem dX7_isLetter_13 : decode cX7_isLetter 13 = .ok (.goto 4, 3) := by decide +kernel
theorem dX7_isLetter_16 : decode cX7_isLetter 16 = .ok (.iconst 0, 1) := by decide +kernel
theorem dX7_isLetter_17 : decode cX7_isLetter 17 = .ok (.ireturn, 1) := by decide +kernel
theorem dX7_isDigit_0 : decode cX7_isDigit 0 = .ok (.iload_n 0, 1) := by decide +kernel
theorem dX7_isDigit_1 : decode cX7_isDigit 1 = .ok (.bipush 48, 2) := by decide +kernel
theorem dX7_isDigit_3 : decode cX7_isDigit 3 = .ok (.if_icmp .lt 13, 3) := by decide +kernel
theorem dX7_isDigit_6 : decode cX7_isDigit 6 = .ok (.iload_n 0, 1) := by decide +kernel
theorem dX7_isDigit_7 : decode cX7_isDigit 7 = .ok (.bipush 57, 2) := by decide +kernel
theorem dX7_isDigit_9 : decode cX7_isDigit 9 = .ok (.if_icmp .gt 7, 3) := by decide +kernel
theorem dX7_isDigit_12 : decode cX7_isDigit 12 = .ok (.iconst 1, 1) := by decide +kernel
theorem dX7_isDigit_13 : decode cX7_isDigit 13 = .ok (.goto 4, 3) := by decide +kernel
theorem dX7_isDigit_16 : decode cX7_isDigit 16 = .ok (.iconst 0, 1) := by decide +kernel
theorem dX7_isDigit_17 : decode cX7_isDigit 17 = .ok (.ireturn, 1) := by decide +kernel
theorem dX8_init_0 : decode cX8_init 0 = .ok (.aload_n 0, 1) := by decide +kernel
theorem dX8_init_1 : decode cX8_init 1 = .ok (.invokespecial 3, 3) := by decide +kernel
theorem dX8_init_4 : decode cX8_init 4 = .ok (.return_, 1) := by decide +kernel
theorem dX8_beNew_0 : decode cX8_beNew 0 = .ok (.aload_n 0, 1) := by decide +kernel
theorem dX8_beNew_1 : decode cX8_beNew 1 = .ok (.iload_n 1, 1) := by decide +kernel
theorem dX8_beNew_2 : decode cX8_beNew 2 = .ok (.putfield 9, 3) := by decide +kernel
theorem dX8_beNew_5 : decode cX8_beNew 5 = .ok (.aload_n 0, 1) := by decide +kernel
theorem dX8_beNew_6 : decode cX8_beNew 6 = .ok (.iconst 0, 1) := by decide +kernel
theorem dX8_beNew_7 : decode cX8_beNew 7 = .ok (.putfield 15, 3) := by decide +kernel
theorem dX8_beNew_10 : decode cX8_beNew 10 = .ok (.aload_n 0, 1) := by decide +kernel
theorem dX8_beNew_11 : decode cX8_beNew 11 = .ok (.iconst 0, 1) := by decide +kernel
theorem dX8_beNew_12 : decode cX8_beNew 12 = .ok (.putfield 18, 3) := by decide +kernel
theorem dX8_beNew_15 : decode cX8_beNew 15 = .ok (.aload_n 0, 1) := by decide +kernel
theorem dX8_beNew_16 : decode cX8_beNew 16 = .ok (.iconst 0, 1) := by decide +kernel
theorem dX8_beNew_17 : decode cX8_beNew 17 = .ok (.putfield 21, 3) := by decide +kernel
theorem dX8_beNew_20 : decode cX8_beNew 20 = .ok (.aload_n 0, 1) := by decide +kernel
theorem dX8_beNew_21 : decode cX8_beNew 21 = .ok (.iconst (-1), 1) := by decide +kernel
theorem dX8_beNew_22 : decode cX8_beNew 22 = .ok (.invokevirtual 24, 3) := by decide +kernel
theorem dX8_beNew_25 : decode cX8_beNew 25 = .ok (.return_, 1) := by decide +kernel
theorem dX8_become_0 : decode cX8_become 0 = .ok (.aload_n 0, 1) := by decide +kernel
theorem dX8_become_1 : decode cX8_become 1 = .ok (.aload_n 1, 1) := by decide +kernel
theorem dX8_become_2 : decode cX8_become 2 = .ok (.getfield 9, 3) := by decide +kernel
theorem dX8_become_5 : decode cX8_become 5 = .ok (.putfield 9, 3) := by decide +kernel
theorem dX8_become_8 : decode cX8_become 8 = .ok (.aload_n 0, 1) := by decide +kernel
theorem dX8_become_9 : decode cX8_become 9 = .ok (.aload_n 1, 1) := by decide +kernel
theorem dX8_become_10 : decode cX8_become 10 = .ok (.getfield 15, 3) := by decide +kernel
theorem dX8_become_13 : decode cX8_become 13 = .ok (.putfield 15, 3) := by decide +kernel
theorem dX8_become_16 : decode cX8_become 16 = .ok (.aload_n 0, 1) := by decide +kernel
theorem dX8_become_17 : decode cX8_become 17 = .ok (.aload_n 1, 1) := by decide +kernel
theorem dX8_become_18 : decode cX8_become 18 = .ok (.getfield 18, 3) := by decide +kernel
theorem dX8_become_21 : decode cX8_become 21 = .ok (.putfield 18, 3) := by decide +kernel
theorem dX8_become_24 : decode cX8_become 24 = .ok (.aload_n 0, 1) := by decide +kernel
theorem dX8_become_25 : decode cX8_become 25 = .ok (.aload_n 1, 1) := by decide +kernel
theorem dX8_become_26 : decode cX8_become 26 = .ok (.getfield 28, 3) := by decide +kernel
theorem dX8_become_29 : decode cX8_become 29 = .ok (.putfield 28, 3) := by decide +kernel
theorem dX8_become_32 : decode cX8_become 32 = .ok (.aload_n 0, 1) := by decide +kernel
theorem dX8_become_33 : decode cX8_become 33 = .ok (.aload_n 1, 1) := by decide +kernel
theorem dX8_become_34 : decode cX8_become 34 = .ok (.getfield 31, 3) := by decide +kernel
theorem dX8_become_37 : decode cX8_become 37 = .ok (.putfield 31, 3) := by decide +kernel
theorem dX8_become_40 : decode cX8_become 40 = .ok (.aload_n 0, 1) := by decide +kernel
theorem dX8_become_41 : decode cX8_become 41 = .ok (.aload_n 1, 1) := by decide +kernel
theorem dX8_become_42 : decode cX8_become 42 = .ok (.getfield 21, 3) := by decide +kernel
theorem dX8_become_45 : decode cX8_become 45 = .ok (.putfield 21, 3) := by decide +kernel
theorem dX8_become_48 : decode cX8_become 48 = .ok (.return_, 1) := by decide +kernel
theorem dX8_settle_0 : decode cX8_settle 0 = .ok (.aload_n 0, 1) := by decide +kernel
theorem dX8_settle_1 : decode cX8_settle 1 = .ok (.iload_n 1, 1) := by decide +kernel
theorem dX8_settle_2 : decode cX8_settle 2 = .ok (.putfield 28, 3) := by decide +kernel
theorem dX8_settle_5 : decode cX8_settle 5 = .ok (.aload_n 0, 1) := by decide +kernel
theorem dX8_settle_6 : decode cX8_settle 6 = .ok (.iconst 0, 1) := by decide +kernel
theorem dX8_settle_7 : decode cX8_settle 7 = .ok (.putfield 31, 3) := by decide +kernel
theorem dX8_settle_10 : decode cX8_settle 10 = .ok (.return_, 1) := by decide +kernel
theorem dX8_learnJust_0 : decode cX8_learnJust 0 = .ok (.aload_n 0, 1) := by decide +kernel
theorem dX8_learnJust_1 : decode cX8_learnJust 1 = .ok (.getfield 15, 3) := by decide +kernel
theorem dX8_learnJust_4 : decode cX8_learnJust 4 = .ok (.istore_n 2, 1) := by decide +kernel
theorem dX8_learnJust_5 : decode cX8_learnJust 5 = .ok (.aload_n 0, 1) := by decide +kernel
theorem dX8_learnJust_6 : decode cX8_learnJust 6 = .ok (.iload_n 1, 1) := by decide +kernel
theorem dX8_learnJust_7 : decode cX8_learnJust 7 = .ok (.putfield 15, 3) := by decide +kernel
theorem dX8_learnJust_10 : decode cX8_learnJust 10 = .ok (.aload_n 0, 1) := by decide +kernel
theorem dX8_learnJust_11 : decode cX8_learnJust 11 = .ok (.dup, 1) := by decide +kernel
theorem dX8_learnJust_12 : decode cX8_learnJust 12 = .ok (.getfield 18, 3) := by decide +kernel
theorem dX8_learnJust_15 : decode cX8_learnJust 15 = .ok (.iload_n 1, 1) := by decide +kernel
theorem dX8_learnJust_16 : decode cX8_learnJust 16 = .ok (.iand, 1) := by decide +kernel
theorem dX8_learnJust_17 : decode cX8_learnJust 17 = .ok (.putfield 18, 3) := by decide +kernel
theorem dX8_learnJust_20 : decode cX8_learnJust 20 = .ok (.iload_n 2, 1) := by decide +kernel
theorem dX8_learnJust_21 : decode cX8_learnJust 21 = .ok (.ireturn, 1) := by decide +kernel
theorem dX8_believeJust_0 : decode cX8_believeJust 0 = .ok (.aload_n 0, 1) := by decide +kernel
theorem dX8_believeJust_1 : decode cX8_believeJust 1 = .ok (.getfield 18, 3) := by decide +kernel
theorem dX8_believeJust_4 : decode cX8_believeJust 4 = .ok (.istore_n 2, 1) := by decide +kernel
theorem dX8_believeJust_5 : decode cX8_believeJust 5 = .ok (.aload_n 0, 1) := by decide +kernel
theorem dX8_believeJust_6 : decode cX8_believeJust 6 = .ok (.iload_n 1, 1) := by decide +kernel
theorem dX8_believeJust_7 : decode cX8_believeJust 7 = .ok (.putfield 18, 3) := by decide +kernel
theorem dX8_believeJust_10 : decode cX8_believeJust 10 = .ok (.iload_n 2, 1) := by decide +kernel
theorem dX8_believeJust_11 : decode cX8_believeJust 11 = .ok (.ireturn, 1) := by decide +kernel
theorem dX8_haveHeard_0 : decode cX8_haveHeard 0 = .ok (.aload_n 0, 1) := by decide +kernel
theorem dX8_haveHeard_1 : decode cX8_haveHeard 1 = .ok (.getfield 21, 3) := by decide +kernel
theorem dX8_haveHeard_4 : decode cX8_haveHeard 4 = .ok (.istore_n 2, 1) := by decide +kernel
theorem dX8_haveHeard_5 : decode cX8_haveHeard 5 = .ok (.aload_n 0, 1) := by decide +kernel
theorem dX8_haveHeard_6 : decode cX8_haveHeard 6 = .ok (.iload_n 1, 1) := by decide +kernel
theorem dX8_haveHeard_7 : decode cX8_haveHeard 7 = .ok (.putfield 21, 3) := by decide +kernel
theorem dX8_haveHeard_10 : decode cX8_haveHeard 10 = .ok (.iload_n 2, 1) := by decide +kernel
theorem dX8_haveHeard_11 : decode cX8_haveHeard 11 = .ok (.ireturn, 1) := by decide +kernel
theorem dX8_hear_0 : decode cX8_hear 0 = .ok (.iconst 1, 1) := by decide +kernel
theorem dX8_hear_1 : decode cX8_hear 1 = .ok (.iload_n 1, 1) := by decide +kernel
theorem dX8_hear_2 : decode cX8_hear 2 = .ok (.ishl, 1) := by decide +kernel
theorem dX8_hear_3 : decode cX8_hear 3 = .ok (.istore_n 3, 1) := by decide +kernel
theorem dX8_hear_4 : decode cX8_hear 4 = .ok (.aload_n 0, 1) := by decide +kernel
theorem dX8_hear_5 : decode cX8_hear 5 = .ok (.dup, 1) := by decide +kernel
end
section
theorem dX8_hear_6 : decode cX8_hear 6 = .ok (.getfield 15, 3) := by decide +kernel
theorem dX8_hear_9 : decode cX8_hear 9 = .ok (.iload_n 3, 1) := by decide +kernel
theorem dX8_hear_10 : decode cX8_hear 10 = .ok (.ior, 1) := by decide +kernel
theorem dX8_hear_11 : decode cX8_hear 11 = .ok (.putfield 15, 3) := by decide +kernel
theorem dX8_hear_14 : decode cX8_hear 14 = .ok (.aload_n 0, 1) := by decide +kernel
theorem dX8_hear_15 : decode cX8_hear 15 = .ok (.iload_n 2, 1) := by decide +kernel
theorem dX8_hear_16 : decode cX8_hear 16 = .ok (.ifCond .eq 12, 3) := by decide +kernel
theorem dX8_hear_19 : decode cX8_hear 19 = .ok (.aload_n 0, 1) := by decide +kernel
theorem dX8_hear_20 : decode cX8_hear 20 = .ok (.getfield 18, 3) := by decide +kernel
theorem dX8_hear_23 : decode cX8_hear 23 = .ok (.iload_n 3, 1) := by decide +kernel
theorem dX8_hear_24 : decode cX8_hear 24 = .ok (.ior, 1) := by decide +kernel
theorem dX8_hear_25 : decode cX8_hear 25 = .ok (.goto 11, 3) := by decide +kernel
theorem dX8_hear_28 : decode cX8_hear 28 = .ok (.aload_n 0, 1) := by decide +kernel
theorem dX8_hear_29 : decode cX8_hear 29 = .ok (.getfield 18, 3) := by decide +kernel
theorem dX8_hear_32 : decode cX8_hear 32 = .ok (.iload_n 3, 1) := by decide +kernel
theorem dX8_hear_33 : decode cX8_hear 33 = .ok (.iconst (-1), 1) := by decide +kernel
theorem dX8_hear_34 : decode cX8_hear 34 = .ok (.ixor, 1) := by decide +kernel
theorem dX8_hear_35 : decode cX8_hear 35 = .ok (.iand, 1) := by decide +kernel
theorem dX8_hear_36 : decode cX8_hear 36 = .ok (.putfield 18, 3) := by decide +kernel
theorem dX8_hear_39 : decode cX8_hear 39 = .ok (.aload_n 0, 1) := by decide +kernel
theorem dX8_hear_40 : decode cX8_hear 40 = .ok (.aload_n 0, 1) := by decide +kernel
theorem dX8_hear_41 : decode cX8_hear 41 = .ok (.getfield 21, 3) := by decide +kernel
theorem dX8_hear_44 : decode cX8_hear 44 = .ok (.iconst 1, 1) := by decide +kernel
theorem dX8_hear_45 : decode cX8_hear 45 = .ok (.iadd, 1) := by decide +kernel
theorem dX8_hear_46 : decode cX8_hear 46 = .ok (.sipush 9999, 3) := by decide +kernel
theorem dX8_hear_49 : decode cX8_hear 49 = .ok (.invokestatic 34, 3) := by decide +kernel
theorem dX8_hear_52 : decode cX8_hear 52 = .ok (.putfield 21, 3) := by decide +kernel
theorem dX8_hear_55 : decode cX8_hear 55 = .ok (.return_, 1) := by decide +kernel
theorem dX8_hearItself_0 : decode cX8_hearItself 0 = .ok (.aload_n 0, 1) := by decide +kernel
theorem dX8_hearItself_1 : decode cX8_hearItself 1 = .ok (.getfield 15, 3) := by decide +kernel
theorem dX8_hearItself_4 : decode cX8_hearItself 4 = .ok (.iload_n 1, 1) := by decide +kernel
theorem dX8_hearItself_5 : decode cX8_hearItself 5 = .ok (.invokestatic 40, 3) := by decide +kernel
theorem dX8_hearItself_8 : decode cX8_hearItself 8 = .ok (.ifCond .eq 15, 3) := by decide +kernel
theorem dX8_hearItself_11 : decode cX8_hearItself 11 = .ok (.aload_n 0, 1) := by decide +kernel
theorem dX8_hearItself_12 : decode cX8_hearItself 12 = .ok (.dup, 1) := by decide +kernel
theorem dX8_hearItself_13 : decode cX8_hearItself 13 = .ok (.getfield 18, 3) := by decide +kernel
theorem dX8_hearItself_16 : decode cX8_hearItself 16 = .ok (.iconst 1, 1) := by decide +kernel
theorem dX8_hearItself_17 : decode cX8_hearItself 17 = .ok (.iload_n 1, 1) := by decide +kernel
theorem dX8_hearItself_18 : decode cX8_hearItself 18 = .ok (.ishl, 1) := by decide +kernel
theorem dX8_hearItself_19 : decode cX8_hearItself 19 = .ok (.ior, 1) := by decide +kernel
theorem dX8_hearItself_20 : decode cX8_hearItself 20 = .ok (.putfield 18, 3) := by decide +kernel
theorem dX8_hearItself_23 : decode cX8_hearItself 23 = .ok (.return_, 1) := by decide +kernel
theorem dX9_init_0 : decode cX9_init 0 = .ok (.aload_n 0, 1) := by decide +kernel
theorem dX9_init_1 : decode cX9_init 1 = .ok (.invokespecial 3, 3) := by decide +kernel
theorem dX9_init_4 : decode cX9_init 4 = .ok (.return_, 1) := by decide +kernel
theorem dX9_says_0 : decode cX9_says 0 = .ok (.iconst (-1), 1) := by decide +kernel
theorem dX9_says_1 : decode cX9_says 1 = .ok (.ireturn, 1) := by decide +kernel
theorem dX9_believes_0 : decode cX9_believes 0 = .ok (.aload_n 0, 1) := by decide +kernel
theorem dX9_believes_1 : decode cX9_believes 1 = .ok (.iload_n 1, 1) := by decide +kernel
theorem dX9_believes_2 : decode cX9_believes 2 = .ok (.iload_n 2, 1) := by decide +kernel
theorem dX9_believes_3 : decode cX9_believes 3 = .ok (.invokespecial 9, 3) := by decide +kernel
theorem dX9_believes_6 : decode cX9_believes 6 = .ok (.ifCond .ne 8, 3) := by decide +kernel
theorem dX9_believes_9 : decode cX9_believes 9 = .ok (.iload_n 2, 1) := by decide +kernel
theorem dX9_believes_10 : decode cX9_believes 10 = .ok (.iconst 5, 1) := by decide +kernel
theorem dX9_believes_11 : decode cX9_believes 11 = .ok (.if_icmp .lt 7, 3) := by decide +kernel
theorem dX9_believes_14 : decode cX9_believes 14 = .ok (.iconst 1, 1) := by decide +kernel
theorem dX9_believes_15 : decode cX9_believes 15 = .ok (.goto 4, 3) := by decide +kernel
theorem dX9_believes_18 : decode cX9_believes 18 = .ok (.iconst 0, 1) := by decide +kernel
theorem dX9_believes_19 : decode cX9_believes 19 = .ok (.ireturn, 1) := by decide +kernel
theorem dX9_stays_0 : decode cX9_stays 0 = .ok (.iconst 2, 1) := by decide +kernel
theorem dX9_stays_1 : decode cX9_stays 1 = .ok (.aload_n 0, 1) := by decide +kernel
theorem dX9_stays_2 : decode cX9_stays 2 = .ok (.aload_n 1, 1) := by decide +kernel
theorem dX9_stays_3 : decode cX9_stays 3 = .ok (.invokespecial 13, 3) := by decide +kernel
theorem dX9_stays_6 : decode cX9_stays 6 = .ok (.imul, 1) := by decide +kernel
theorem dX9_stays_7 : decode cX9_stays 7 = .ok (.ireturn, 1) := by decide +kernel
theorem dX10_init_0 : decode cX10_init 0 = .ok (.aload_n 0, 1) := by decide +kernel
theorem dX10_init_1 : decode cX10_init 1 = .ok (.invokespecial 1, 3) := by decide +kernel
theorem dX10_init_4 : decode cX10_init 4 = .ok (.bipush 6, 2) := by decide +kernel
theorem dX10_init_6 : decode cX10_init 6 = .ok (.anewarray 7, 3) := by decide +kernel
theorem dX10_init_9 : decode cX10_init 9 = .ok (.dup, 1) := by decide +kernel
theorem dX10_init_10 : decode cX10_init 10 = .ok (.iconst 0, 1) := by decide +kernel
theorem dX10_init_11 : decode cX10_init 11 = .ok (.new 7, 3) := by decide +kernel
theorem dX10_init_14 : decode cX10_init 14 = .ok (.dup, 1) := by decide +kernel
theorem dX10_init_15 : decode cX10_init 15 = .ok (.invokespecial 9, 3) := by decide +kernel
theorem dX10_init_18 : decode cX10_init 18 = .ok (.aastore, 1) := by decide +kernel
theorem dX10_init_19 : decode cX10_init 19 = .ok (.dup, 1) := by decide +kernel
theorem dX10_init_20 : decode cX10_init 20 = .ok (.iconst 1, 1) := by decide +kernel
theorem dX10_init_21 : decode cX10_init 21 = .ok (.new 10, 3) := by decide +kernel
theorem dX10_init_24 : decode cX10_init 24 = .ok (.dup, 1) := by decide +kernel
theorem dX10_init_25 : decode cX10_init 25 = .ok (.invokespecial 12, 3) := by decide +kernel
theorem dX10_init_28 : decode cX10_init 28 = .ok (.aastore, 1) := by decide +kernel
theorem dX10_init_29 : decode cX10_init 29 = .ok (.dup, 1) := by decide +kernel
theorem dX10_init_30 : decode cX10_init 30 = .ok (.iconst 2, 1) := by decide +kernel
theorem dX10_init_31 : decode cX10_init 31 = .ok (.new 13, 3) := by decide +kernel
theorem dX10_init_34 : decode cX10_init 34 = .ok (.dup, 1) := by decide +kernel
theorem dX10_init_35 : decode cX10_init 35 = .ok (.invokespecial 15, 3) := by decide +kernel
theorem dX10_init_38 : decode cX10_init 38 = .ok (.aastore, 1) := by decide +kernel
theorem dX10_init_39 : decode cX10_init 39 = .ok (.dup, 1) := by decide +kernel
theorem dX10_init_40 : decode cX10_init 40 = .ok (.iconst 3, 1) := by decide +kernel
theorem dX10_init_41 : decode cX10_init 41 = .ok (.new 16, 3) := by decide +kernel
theorem dX10_init_44 : decode cX10_init 44 = .ok (.dup, 1) := by decide +kernel
theorem dX10_init_45 : decode cX10_init 45 = .ok (.invokespecial 18, 3) := by decide +kernel
theorem dX10_init_48 : decode cX10_init 48 = .ok (.aastore, 1) := by decide +kernel
theorem dX10_init_49 : decode cX10_init 49 = .ok (.dup, 1) := by decide +kernel
theorem dX10_init_50 : decode cX10_init 50 = .ok (.iconst 4, 1) := by decide +kernel
theorem dX10_init_51 : decode cX10_init 51 = .ok (.new 19, 3) := by decide +kernel
theorem dX10_init_54 : decode cX10_init 54 = .ok (.dup, 1) := by decide +kernel
theorem dX10_init_55 : decode cX10_init 55 = .ok (.invokespecial 21, 3) := by decide +kernel
theorem dX10_init_58 : decode cX10_init 58 = .ok (.aastore, 1) := by decide +kernel
theorem dX10_init_59 : decode cX10_init 59 = .ok (.dup, 1) := by decide +kernel
theorem dX10_init_60 : decode cX10_init 60 = .ok (.iconst 5, 1) := by decide +kernel
theorem dX10_init_61 : decode cX10_init 61 = .ok (.new 22, 3) := by decide +kernel
theorem dX10_init_64 : decode cX10_init 64 = .ok (.dup, 1) := by decide +kernel
theorem dX10_init_65 : decode cX10_init 65 = .ok (.invokespecial 24, 3) := by decide +kernel
theorem dX10_init_68 : decode cX10_init 68 = .ok (.aastore, 1) := by decide +kernel
theorem dX10_init_69 : decode cX10_init 69 = .ok (.astore_n 1, 1) := by decide +kernel
theorem dX10_init_70 : decode cX10_init 70 = .ok (.aload_n 0, 1) := by decide +kernel
theorem dX10_init_71 : decode cX10_init 71 = .ok (.new 25, 3) := by decide +kernel
theorem dX10_init_74 : decode cX10_init 74 = .ok (.dup, 1) := by decide +kernel
theorem dX10_init_75 : decode cX10_init 75 = .ok (.aload_n 1, 1) := by decide +kernel
theorem dX10_init_76 : decode cX10_init 76 = .ok (.invokespecial 27, 3) := by decide +kernel
theorem dX10_init_79 : decode cX10_init 79 = .ok (.putfield 30, 3) := by decide +kernel
theorem dX10_init_82 : decode cX10_init 82 = .ok (.aload_n 0, 1) := by decide +kernel
theorem dX10_init_83 : decode cX10_init 83 = .ok (.new 25, 3) := by decide +kernel
theorem dX10_init_86 : decode cX10_init 86 = .ok (.dup, 1) := by decide +kernel
theorem dX10_init_87 : decode cX10_init 87 = .ok (.aload_n 1, 1) := by decide +kernel
theorem dX10_init_88 : decode cX10_init 88 = .ok (.invokespecial 27, 3) := by decide +kernel
theorem dX10_init_91 : decode cX10_init 91 = .ok (.putfield 36, 3) := by decide +kernel
theorem dX10_init_94 : decode cX10_init 94 = .ok (.aload_n 0, 1) := by decide +kernel
theorem dX10_init_95 : decode cX10_init 95 = .ok (.new 25, 3) := by decide +kernel
theorem dX10_init_98 : decode cX10_init 98 = .ok (.dup, 1) := by decide +kernel
theorem dX10_init_99 : decode cX10_init 99 = .ok (.aload_n 1, 1) := by decide +kernel
theorem dX10_init_100 : decode cX10_init 100 = .ok (.invokespecial 27, 3) := by decide +kernel
theorem dX10_init_103 : decode cX10_init 103 = .ok (.putfield 39, 3) := by decide +kernel
theorem dX10_init_106 : decode cX10_init 106 = .ok (.aload_n 0, 1) := by decide +kernel
theorem dX10_init_107 : decode cX10_init 107 = .ok (.iconst 0, 1) := by decide +kernel
theorem dX10_init_108 : decode cX10_init 108 = .ok (.putfield 42, 3) := by decide +kernel
theorem dX10_init_111 : decode cX10_init 111 = .ok (.aload_n 0, 1) := by decide +kernel
theorem dX10_init_112 : decode cX10_init 112 = .ok (.new 46, 3) := by decide +kernel
theorem dX10_init_115 : decode cX10_init 115 = .ok (.dup, 1) := by decide +kernel
theorem dX10_init_116 : decode cX10_init 116 = .ok (.invokespecial 48, 3) := by decide +kernel
theorem dX10_init_119 : decode cX10_init 119 = .ok (.putfield 49, 3) := by decide +kernel
theorem dX10_init_122 : decode cX10_init 122 = .ok (.aload_n 0, 1) := by decide +kernel
theorem dX10_init_123 : decode cX10_init 123 = .ok (.iconst 4, 1) := by decide +kernel
theorem dX10_init_124 : decode cX10_init 124 = .ok (.anewarray 53, 3) := by decide +kernel
theorem dX10_init_127 : decode cX10_init 127 = .ok (.putfield 55, 3) := by decide +kernel
theorem dX10_init_130 : decode cX10_init 130 = .ok (.iconst 0, 1) := by decide +kernel
theorem dX10_init_131 : decode cX10_init 131 = .ok (.istore_n 2, 1) := by decide +kernel
theorem dX10_init_132 : decode cX10_init 132 = .ok (.iload_n 2, 1) := by decide +kernel
theorem dX10_init_133 : decode cX10_init 133 = .ok (.iconst 4, 1) := by decide +kernel
theorem dX10_init_134 : decode cX10_init 134 = .ok (.if_icmp .ge 22, 3) := by decide +kernel
theorem dX10_init_137 : decode cX10_init 137 = .ok (.aload_n 0, 1) := by decide +kernel
theorem dX10_init_138 : decode cX10_init 138 = .ok (.getfield 55, 3) := by decide +kernel
theorem dX10_init_141 : decode cX10_init 141 = .ok (.iload_n 2, 1) := by decide +kernel
theorem dX10_init_142 : decode cX10_init 142 = .ok (.new 53, 3) := by decide +kernel
theorem dX10_init_145 : decode cX10_init 145 = .ok (.dup, 1) := by decide +kernel
theorem dX10_init_146 : decode cX10_init 146 = .ok (.invokespecial 59, 3) := by decide +kernel
theorem dX10_init_149 : decode cX10_init 149 = .ok (.aastore, 1) := by decide +kernel
theorem dX10_init_150 : decode cX10_init 150 = .ok (.iinc 2 1, 3) := by decide +kernel
theorem dX10_init_153 : decode cX10_init 153 = .ok (.goto (-21), 3) := by decide +kernel
theorem dX10_init_156 : decode cX10_init 156 = .ok (.aload_n 0, 1) := by decide +kernel
theorem dX10_init_157 : decode cX10_init 157 = .ok (.bipush 7, 2) := by decide +kernel
theorem dX10_init_159 : decode cX10_init 159 = .ok (.newarray .int, 2) := by decide +kernel
theorem dX10_init_161 : decode cX10_init 161 = .ok (.putfield 60, 3) := by decide +kernel
theorem dX10_init_164 : decode cX10_init 164 = .ok (.aload_n 0, 1) := by decide +kernel
theorem dX10_init_165 : decode cX10_init 165 = .ok (.bipush 10, 2) := by decide +kernel
theorem dX10_init_167 : decode cX10_init 167 = .ok (.newarray .int, 2) := by decide +kernel
theorem dX10_init_169 : decode cX10_init 169 = .ok (.putfield 64, 3) := by decide +kernel
theorem dX10_init_172 : decode cX10_init 172 = .ok (.return_, 1) := by decide +kernel
theorem dX10_sham_0 : decode cX10_sham 0 = .ok (.iload_n 1, 1) := by decide +kernel
theorem dX10_sham_1 : decode cX10_sham 1 = .ok (.invokestatic 67, 3) := by decide +kernel
theorem dX10_sham_4 : decode cX10_sham 4 = .ok (.ifCond .ne 10, 3) := by decide +kernel
theorem dX10_sham_7 : decode cX10_sham 7 = .ok (.aload_n 0, 1) := by decide +kernel
theorem dX10_sham_8 : decode cX10_sham 8 = .ok (.ldc 71, 2) := by decide +kernel
theorem dX10_sham_10 : decode cX10_sham 10 = .ok (.invokevirtual 72, 3) := by decide +kernel
theorem dX10_sham_13 : decode cX10_sham 13 = .ok (.ireturn, 1) := by decide +kernel
theorem dX10_sham_14 : decode cX10_sham 14 = .ok (.aload_n 0, 1) := by decide +kernel
theorem dX10_sham_15 : decode cX10_sham 15 = .ok (.getfield 30, 3) := by decide +kernel
theorem dX10_sham_18 : decode cX10_sham 18 = .ok (.getfield 76, 3) := by decide +kernel
theorem dX10_sham_21 : decode cX10_sham 21 = .ok (.istore_n 2, 1) := by decide +kernel
theorem dX10_sham_22 : decode cX10_sham 22 = .ok (.aload_n 0, 1) := by decide +kernel
theorem dX10_sham_23 : decode cX10_sham 23 = .ok (.getfield 30, 3) := by decide +kernel
theorem dX10_sham_26 : decode cX10_sham 26 = .ok (.iload_n 1, 1) := by decide +kernel
theorem dX10_sham_27 : decode cX10_sham 27 = .ok (.putfield 76, 3) := by decide +kernel
theorem dX10_sham_30 : decode cX10_sham 30 = .ok (.iload_n 2, 1) := by decide +kernel
theorem dX10_sham_31 : decode cX10_sham 31 = .ok (.ireturn, 1) := by decide +kernel
theorem dX10_who_0 : decode cX10_who 0 = .ok (.iload_n 1, 1) := by decide +kernel
theorem dX10_who_1 : decode cX10_who 1 = .ok (.invokestatic 80, 3) := by decide +kernel
theorem dX10_who_4 : decode cX10_who 4 = .ok (.ifCond .eq 12, 3) := by decide +kernel
theorem dX10_who_7 : decode cX10_who 7 = .ok (.iload_n 2, 1) := by decide +kernel
theorem dX10_who_8 : decode cX10_who 8 = .ok (.ifCond .lt 8, 3) := by decide +kernel
theorem dX10_who_11 : decode cX10_who 11 = .ok (.iload_n 2, 1) := by decide +kernel
theorem dX10_who_12 : decode cX10_who 12 = .ok (.iconst 1, 1) := by decide +kernel
theorem dX10_who_13 : decode cX10_who 13 = .ok (.if_icmp .le 10, 3) := by decide +kernel
theorem dX10_who_16 : decode cX10_who 16 = .ok (.aload_n 0, 1) := by decide +kernel
theorem dX10_who_17 : decode cX10_who 17 = .ok (.ldc 71, 2) := by decide +kernel
theorem dX10_who_19 : decode cX10_who 19 = .ok (.invokevirtual 72, 3) := by decide +kernel
theorem dX10_who_22 : decode cX10_who 22 = .ok (.ireturn, 1) := by decide +kernel
theorem dX10_who_23 : decode cX10_who 23 = .ok (.iconst 0, 1) := by decide +kernel
theorem dX10_who_24 : decode cX10_who 24 = .ok (.istore_n 3, 1) := by decide +kernel
theorem dX10_who_25 : decode cX10_who 25 = .ok (.iconst 0, 1) := by decide +kernel
theorem dX10_who_26 : decode cX10_who 26 = .ok (.istore 4, 2) := by decide +kernel
theorem dX10_who_28 : decode cX10_who 28 = .ok (.iload 4, 2) := by decide +kernel
theorem dX10_who_30 : decode cX10_who 30 = .ok (.aload_n 0, 1) := by decide +kernel
theorem dX10_who_31 : decode cX10_who 31 = .ok (.getfield 30, 3) := by decide +kernel
theorem dX10_who_34 : decode cX10_who 34 = .ok (.getfield 83, 3) := by decide +kernel
theorem dX10_who_37 : decode cX10_who 37 = .ok (.if_icmp .ge 47, 3) := by decide +kernel
theorem dX10_who_40 : decode cX10_who 40 = .ok (.aload_n 0, 1) := by decide +kernel
theorem dX10_who_41 : decode cX10_who 41 = .ok (.getfield 30, 3) := by decide +kernel
theorem dX10_who_44 : decode cX10_who 44 = .ok (.iload 4, 2) := by decide +kernel
theorem dX10_who_46 : decode cX10_who 46 = .ok (.invokevirtual 86, 3) := by decide +kernel
theorem dX10_who_49 : decode cX10_who 49 = .ok (.astore 5, 2) := by decide +kernel
theorem dX10_who_51 : decode cX10_who 51 = .ok (.iload_n 3, 1) := by decide +kernel
theorem dX10_who_52 : decode cX10_who 52 = .ok (.iload_n 2, 1) := by decide +kernel
theorem dX10_who_53 : decode cX10_who 53 = .ok (.ifCond .ne 11, 3) := by decide +kernel
theorem dX10_who_56 : decode cX10_who 56 = .ok (.aload 5, 2) := by decide +kernel
theorem dX10_who_58 : decode cX10_who 58 = .ok (.getfield 90, 3) := by decide +kernel
theorem dX10_who_61 : decode cX10_who 61 = .ok (.goto 8, 3) := by decide +kernel
theorem dX10_who_64 : decode cX10_who 64 = .ok (.aload 5, 2) := by decide +kernel
theorem dX10_who_66 : decode cX10_who 66 = .ok (.getfield 95, 3) := by decide +kernel
theorem dX10_who_69 : decode cX10_who 69 = .ok (.iload_n 1, 1) := by decide +kernel
theorem dX10_who_70 : decode cX10_who 70 = .ok (.ishr, 1) := by decide +kernel
theorem dX10_who_71 : decode cX10_who 71 = .ok (.iconst 1, 1) := by decide +kernel
theorem dX10_who_72 : decode cX10_who 72 = .ok (.iand, 1) := by decide +kernel
theorem dX10_who_73 : decode cX10_who 73 = .ok (.iload 4, 2) := by decide +kernel
theorem dX10_who_75 : decode cX10_who 75 = .ok (.ishl, 1) := by decide +kernel
theorem dX10_who_76 : decode cX10_who 76 = .ok (.ior, 1) := by decide +kernel
theorem dX10_who_77 : decode cX10_who 77 = .ok (.istore_n 3, 1) := by decide +kernel
theorem dX10_who_78 : decode cX10_who 78 = .ok (.iinc 4 1, 3) := by decide +kernel
theorem dX10_who_81 : decode cX10_who 81 = .ok (.goto (-53), 3) := by decide +kernel
theorem dX10_who_84 : decode cX10_who 84 = .ok (.iload_n 3, 1) := by decide +kernel
theorem dX10_who_85 : decode cX10_who 85 = .ok (.ireturn, 1) := by decide +kernel
theorem dX10_person_0 : decode cX10_person 0 = .ok (.iload_n 1, 1) := by decide +kernel
theorem dX10_person_1 : decode cX10_person 1 = .ok (.invokestatic 98, 3) := by decide +kernel
theorem dX10_person_4 : decode cX10_person 4 = .ok (.ifCond .ne 10, 3) := by decide +kernel
theorem dX10_person_7 : decode cX10_person 7 = .ok (.aload_n 0, 1) := by decide +kernel
theorem dX10_person_8 : decode cX10_person 8 = .ok (.ldc 71, 2) := by decide +kernel
theorem dX10_person_10 : decode cX10_person 10 = .ok (.invokevirtual 72, 3) := by decide +kernel
theorem dX10_person_13 : decode cX10_person 13 = .ok (.ireturn, 1) := by decide +kernel
theorem dX10_person_14 : decode cX10_person 14 = .ok (.aload_n 0, 1) := by decide +kernel
theorem dX10_person_15 : decode cX10_person 15 = .ok (.getfield 30, 3) := by decide +kernel
theorem dX10_person_18 : decode cX10_person 18 = .ok (.invokevirtual 101, 3) := by decide +kernel
theorem dX10_person_21 : decode cX10_person 21 = .ok (.ifCond .eq 10, 3) := by decide +kernel
theorem dX10_person_24 : decode cX10_person 24 = .ok (.aload_n 0, 1) := by decide +kernel
theorem dX10_person_25 : decode cX10_person 25 = .ok (.ldc 105, 2) := by decide +kernel
theorem dX10_person_27 : decode cX10_person 27 = .ok (.invokevirtual 72, 3) := by decide +kernel
theorem dX10_person_30 : decode cX10_person 30 = .ok (.ireturn, 1) := by decide +kernel
theorem dX10_person_31 : decode cX10_person 31 = .ok (.aload_n 0, 1) := by decide +kernel
theorem dX10_person_32 : decode cX10_person 32 = .ok (.getfield 30, 3) := by decide +kernel
theorem dX10_person_35 : decode cX10_person 35 = .ok (.iload_n 1, 1) := by decide +kernel
theorem dX10_person_36 : decode cX10_person 36 = .ok (.invokevirtual 106, 3) := by decide +kernel
theorem dX10_person_39 : decode cX10_person 39 = .ok (.ireturn, 1) := by decide +kernel
theorem dX10_of_0 : decode cX10_of 0 = .ok (.aload_n 0, 1) := by decide +kernel
theorem dX10_of_1 : decode cX10_of 1 = .ok (.getfield 30, 3) := by decide +kernel
theorem dX10_of_4 : decode cX10_of 4 = .ok (.iload_n 1, 1) := by decide +kernel
theorem dX10_of_5 : decode cX10_of 5 = .ok (.invokevirtual 109, 3) := by decide +kernel
theorem dX10_of_8 : decode cX10_of 8 = .ok (.ifCond .ne 10, 3) := by decide +kernel
theorem dX10_of_11 : decode cX10_of 11 = .ok (.aload_n 0, 1) := by decide +kernel
theorem dX10_of_12 : decode cX10_of 12 = .ok (.ldc 71, 2) := by decide +kernel
theorem dX10_of_14 : decode cX10_of 14 = .ok (.invokevirtual 72, 3) := by decide +kernel
theorem dX10_of_17 : decode cX10_of 17 = .ok (.ireturn, 1) := by decide +kernel
theorem dX10_of_18 : decode cX10_of 18 = .ok (.aload_n 0, 1) := by decide +kernel
theorem dX10_of_19 : decode cX10_of 19 = .ok (.getfield 30, 3) := by decide +kernel
theorem dX10_of_22 : decode cX10_of 22 = .ok (.iload_n 1, 1) := by decide +kernel
theorem dX10_of_23 : decode cX10_of 23 = .ok (.invokevirtual 86, 3) := by decide +kernel
theorem dX10_of_26 : decode cX10_of 26 = .ok (.astore_n 3, 1) := by decide +kernel
theorem dX10_of_27 : decode cX10_of 27 = .ok (.iload_n 2, 1) := by decide +kernel
theorem dX10_of_28 : decode cX10_of 28 = .ok (.tableswitch 96 0 7 #[48, 53, 58, 63, 68, 73, 78, 87], 48) := by decide +kernel
theorem dX10_of_76 : decode cX10_of 76 = .ok (.aload_n 3, 1) := by decide +kernel
theorem dX10_of_77 : decode cX10_of 77 = .ok (.getfield 112, 3) := by decide +kernel
theorem dX10_of_80 : decode cX10_of 80 = .ok (.ireturn, 1) := by decide +kernel
theorem dX10_of_81 : decode cX10_of 81 = .ok (.aload_n 3, 1) := by decide +kernel
theorem dX10_of_82 : decode cX10_of 82 = .ok (.getfield 90, 3) := by decide +kernel
theorem dX10_of_85 : decode cX10_of 85 = .ok (.ireturn, 1) := by decide +kernel
theorem dX10_of_86 : decode cX10_of 86 = .ok (.aload_n 3, 1) := by decide +kernel
theorem dX10_of_87 : decode cX10_of 87 = .ok (.getfield 95, 3) := by decide +kernel
theorem dX10_of_90 : decode cX10_of 90 = .ok (.ireturn, 1) := by decide +kernel
theorem dX10_of_91 : decode cX10_of 91 = .ok (.aload_n 3, 1) := by decide +kernel
theorem dX10_of_92 : decode cX10_of 92 = .ok (.getfield 115, 3) := by decide +kernel
theorem dX10_of_95 : decode cX10_of 95 = .ok (.ireturn, 1) := by decide +kernel
theorem dX10_of_96 : decode cX10_of 96 = .ok (.aload_n 3, 1) := by decide +kernel
theorem dX10_of_97 : decode cX10_of 97 = .ok (.getfield 118, 3) := by decide +kernel
theorem dX10_of_100 : decode cX10_of 100 = .ok (.ireturn, 1) := by decide +kernel
theorem dX10_of_101 : decode cX10_of 101 = .ok (.aload_n 3, 1) := by decide +kernel
theorem dX10_of_102 : decode cX10_of 102 = .ok (.getfield 121, 3) := by decide +kernel
theorem dX10_of_105 : decode cX10_of 105 = .ok (.ireturn, 1) := by decide +kernel
theorem dX10_of_106 : decode cX10_of 106 = .ok (.aload_n 0, 1) := by decide +kernel
theorem dX10_of_107 : decode cX10_of 107 = .ok (.getfield 30, 3) := by decide +kernel
theorem dX10_of_110 : decode cX10_of 110 = .ok (.iload_n 1, 1) := by decide +kernel
theorem dX10_of_111 : decode cX10_of 111 = .ok (.invokevirtual 124, 3) := by decide +kernel
theorem dX10_of_114 : decode cX10_of 114 = .ok (.ireturn, 1) := by decide +kernel
theorem dX10_of_115 : decode cX10_of 115 = .ok (.aload_n 0, 1) := by decide +kernel
theorem dX10_of_116 : decode cX10_of 116 = .ok (.getfield 30, 3) := by decide +kernel
theorem dX10_of_119 : decode cX10_of 119 = .ok (.iload_n 1, 1) := by decide +kernel
theorem dX10_of_120 : decode cX10_of 120 = .ok (.invokevirtual 127, 3) := by decide +kernel
theorem dX10_of_123 : decode cX10_of 123 = .ok (.ireturn, 1) := by decide +kernel
theorem dX10_of_124 : decode cX10_of 124 = .ok (.aload_n 0, 1) := by decide +kernel
theorem dX10_of_125 : decode cX10_of 125 = .ok (.ldc 71, 2) := by decide +kernel
theorem dX10_of_127 : decode cX10_of 127 = .ok (.invokevirtual 72, 3) := by decide +kernel
theorem dX10_of_130 : decode cX10_of 130 = .ok (.ireturn, 1) := by decide +kernel
theorem dX10_set_0 : decode cX10_set 0 = .ok (.aload_n 0, 1) := by decide +kernel
theorem dX10_set_1 : decode cX10_set 1 = .ok (.getfield 30, 3) := by decide +kernel
theorem dX10_set_4 : decode cX10_set 4 = .ok (.iload_n 1, 1) := by decide +kernel
theorem dX10_set_5 : decode cX10_set 5 = .ok (.invokevirtual 109, 3) := by decide +kernel
theorem dX10_set_8 : decode cX10_set 8 = .ok (.ifCond .ne 10, 3) := by decide +kernel
theorem dX10_set_11 : decode cX10_set 11 = .ok (.aload_n 0, 1) := by decide +kernel
theorem dX10_set_12 : decode cX10_set 12 = .ok (.ldc 71, 2) := by decide +kernel
theorem dX10_set_14 : decode cX10_set 14 = .ok (.invokevirtual 72, 3) := by decide +kernel
theorem dX10_set_17 : decode cX10_set 17 = .ok (.ireturn, 1) := by decide +kernel
theorem dX10_set_18 : decode cX10_set 18 = .ok (.aload_n 0, 1) := by decide +kernel
theorem dX10_set_19 : decode cX10_set 19 = .ok (.getfield 30, 3) := by decide +kernel
theorem dX10_set_22 : decode cX10_set 22 = .ok (.iload_n 1, 1) := by decide +kernel
theorem dX10_set_23 : decode cX10_set 23 = .ok (.invokevirtual 86, 3) := by decide +kernel
theorem dX10_set_26 : decode cX10_set 26 = .ok (.astore 4, 2) := by decide +kernel
theorem dX10_set_28 : decode cX10_set 28 = .ok (.iload_n 2, 1) := by decide +kernel
theorem dX10_set_29 : decode cX10_set 29 = .ok (.tableswitch 120 1 5 #[35, 58, 120, 120, 93], 35) := by decide +kernel
theorem dX10_set_64 : decode cX10_set 64 = .ok (.iload_n 3, 1) := by decide +kernel
theorem dX10_set_65 : decode cX10_set 65 = .ok (.invokestatic 67, 3) := by decide +kernel
theorem dX10_set_68 : decode cX10_set 68 = .ok (.ifCond .eq 12, 3) := by decide +kernel
theorem dX10_set_71 : decode cX10_set 71 = .ok (.aload 4, 2) := by decide +kernel
theorem dX10_set_73 : decode cX10_set 73 = .ok (.iload_n 3, 1) := by decide +kernel
theorem dX10_set_74 : decode cX10_set 74 = .ok (.invokevirtual 130, 3) := by decide +kernel
theorem dX10_set_77 : decode cX10_set 77 = .ok (.goto 9, 3) := by decide +kernel
theorem dX10_set_80 : decode cX10_set 80 = .ok (.aload_n 0, 1) := by decide +kernel
theorem dX10_set_81 : decode cX10_set 81 = .ok (.ldc 71, 2) := by decide +kernel
theorem dX10_set_83 : decode cX10_set 83 = .ok (.invokevirtual 72, 3) := by decide +kernel
theorem dX10_set_86 : decode cX10_set 86 = .ok (.ireturn, 1) := by decide +kernel
theorem dX10_set_87 : decode cX10_set 87 = .ok (.iload_n 3, 1) := by decide +kernel
theorem dX10_set_88 : decode cX10_set 88 = .ok (.invokestatic 67, 3) := by decide +kernel
theorem dX10_set_91 : decode cX10_set 91 = .ok (.ifCond .eq 24, 3) := by decide +kernel
theorem dX10_set_94 : decode cX10_set 94 = .ok (.iload_n 3, 1) := by decide +kernel
theorem dX10_set_95 : decode cX10_set 95 = .ok (.aload 4, 2) := by decide +kernel
theorem dX10_set_97 : decode cX10_set 97 = .ok (.getfield 90, 3) := by decide +kernel
theorem dX10_set_100 : decode cX10_set 100 = .ok (.iconst (-1), 1) := by decide +kernel
theorem dX10_set_101 : decode cX10_set 101 = .ok (.ixor, 1) := by decide +kernel
theorem dX10_set_102 : decode cX10_set 102 = .ok (.iand, 1) := by decide +kernel
theorem dX10_set_103 : decode cX10_set 103 = .ok (.ifCond .ne 12, 3) := by decide +kernel
theorem dX10_set_106 : decode cX10_set 106 = .ok (.aload 4, 2) := by decide +kernel
theorem dX10_set_108 : decode cX10_set 108 = .ok (.iload_n 3, 1) := by decide +kernel
theorem dX10_set_109 : decode cX10_set 109 = .ok (.invokevirtual 133, 3) := by decide +kernel
theorem dX10_set_112 : decode cX10_set 112 = .ok (.goto 9, 3) := by decide +kernel
theorem dX10_set_115 : decode cX10_set 115 = .ok (.aload_n 0, 1) := by decide +kernel
theorem dX10_set_116 : decode cX10_set 116 = .ok (.ldc 71, 2) := by decide +kernel
theorem dX10_set_118 : decode cX10_set 118 = .ok (.invokevirtual 72, 3) := by decide +kernel
theorem dX10_set_121 : decode cX10_set 121 = .ok (.ireturn, 1) := by decide +kernel
theorem dX10_set_122 : decode cX10_set 122 = .ok (.iload_n 3, 1) := by decide +kernel
theorem dX10_set_123 : decode cX10_set 123 = .ok (.ifCond .lt 19, 3) := by decide +kernel
theorem dX10_set_126 : decode cX10_set 126 = .ok (.iload_n 3, 1) := by decide +kernel
theorem dX10_set_127 : decode cX10_set 127 = .ok (.sipush 9999, 3) := by decide +kernel
theorem dX10_set_130 : decode cX10_set 130 = .ok (.if_icmp .gt 12, 3) := by decide +kernel
theorem dX10_set_133 : decode cX10_set 133 = .ok (.aload 4, 2) := by decide +kernel
theorem dX10_set_135 : decode cX10_set 135 = .ok (.iload_n 3, 1) := by decide +kernel
theorem dX10_set_136 : decode cX10_set 136 = .ok (.invokevirtual 136, 3) := by decide +kernel
theorem dX10_set_139 : decode cX10_set 139 = .ok (.goto 9, 3) := by decide +kernel
theorem dX10_set_142 : decode cX10_set 142 = .ok (.aload_n 0, 1) := by decide +kernel
theorem dX10_set_143 : decode cX10_set 143 = .ok (.ldc 71, 2) := by decide +kernel
theorem dX10_set_145 : decode cX10_set 145 = .ok (.invokevirtual 72, 3) := by decide +kernel
theorem dX10_set_148 : decode cX10_set 148 = .ok (.ireturn, 1) := by decide +kernel
theorem dX10_set_149 : decode cX10_set 149 = .ok (.aload_n 0, 1) := by decide +kernel
theorem dX10_set_150 : decode cX10_set 150 = .ok (.ldc 71, 2) := by decide +kernel
theorem dX10_set_152 : decode cX10_set 152 = .ok (.invokevirtual 72, 3) := by decide +kernel
theorem dX10_set_155 : decode cX10_set 155 = .ok (.ireturn, 1) := by decide +kernel
theorem dX10_turn_0 : decode cX10_turn 0 = .ok (.aload_n 0, 1) := by decide +kernel
theorem dX10_turn_1 : decode cX10_turn 1 = .ok (.getfield 30, 3) := by decide +kernel
theorem dX10_turn_4 : decode cX10_turn 4 = .ok (.iload_n 1, 1) := by decide +kernel
theorem dX10_turn_5 : decode cX10_turn 5 = .ok (.invokevirtual 109, 3) := by decide +kernel
theorem dX10_turn_8 : decode cX10_turn 8 = .ok (.ifCond .eq 10, 3) := by decide +kernel
theorem dX10_turn_11 : decode cX10_turn 11 = .ok (.iload_n 2, 1) := by decide +kernel
theorem dX10_turn_12 : decode cX10_turn 12 = .ok (.invokestatic 98, 3) := by decide +kernel
theorem dX10_turn_15 : decode cX10_turn 15 = .ok (.ifCond .ne 10, 3) := by decide +kernel
theorem dX10_turn_18 : decode cX10_turn 18 = .ok (.aload_n 0, 1) := by decide +kernel
theorem dX10_turn_19 : decode cX10_turn 19 = .ok (.ldc 71, 2) := by decide +kernel
theorem dX10_turn_21 : decode cX10_turn 21 = .ok (.invokevirtual 72, 3) := by decide +kernel
theorem dX10_turn_24 : decode cX10_turn 24 = .ok (.ireturn, 1) := by decide +kernel
theorem dX10_turn_25 : decode cX10_turn 25 = .ok (.aload_n 0, 1) := by decide +kernel
theorem dX10_turn_26 : decode cX10_turn 26 = .ok (.getfield 30, 3) := by decide +kernel
theorem dX10_turn_29 : decode cX10_turn 29 = .ok (.iload_n 1, 1) := by decide +kernel
theorem dX10_turn_30 : decode cX10_turn 30 = .ok (.invokevirtual 86, 3) := by decide +kernel
theorem dX10_turn_33 : decode cX10_turn 33 = .ok (.astore_n 3, 1) := by decide +kernel
theorem dX10_turn_34 : decode cX10_turn 34 = .ok (.aload_n 3, 1) := by decide +kernel
theorem dX10_turn_35 : decode cX10_turn 35 = .ok (.getfield 112, 3) := by decide +kernel
theorem dX10_turn_38 : decode cX10_turn 38 = .ok (.istore 4, 2) := by decide +kernel
theorem dX10_turn_40 : decode cX10_turn 40 = .ok (.aload_n 3, 1) := by decide +kernel
theorem dX10_turn_41 : decode cX10_turn 41 = .ok (.iload_n 2, 1) := by decide +kernel
theorem dX10_turn_42 : decode cX10_turn 42 = .ok (.putfield 112, 3) := by decide +kernel
theorem dX10_turn_45 : decode cX10_turn 45 = .ok (.iload 4, 2) := by decide +kernel
theorem dX10_turn_47 : decode cX10_turn 47 = .ok (.ireturn, 1) := by decide +kernel
theorem dX10_as_0 : decode cX10_as 0 = .ok (.aload_n 0, 1) := by decide +kernel
theorem dX10_as_1 : decode cX10_as 1 = .ok (.getfield 30, 3) := by decide +kernel
theorem dX10_as_4 : decode cX10_as 4 = .ok (.iload_n 1, 1) := by decide +kernel
theorem dX10_as_5 : decode cX10_as 5 = .ok (.invokevirtual 109, 3) := by decide +kernel
theorem dX10_as_8 : decode cX10_as 8 = .ok (.ifCond .eq 10, 3) := by decide +kernel
theorem dX10_as_11 : decode cX10_as 11 = .ok (.iload_n 2, 1) := by decide +kernel
theorem dX10_as_12 : decode cX10_as 12 = .ok (.invokestatic 98, 3) := by decide +kernel
theorem dX10_as_15 : decode cX10_as 15 = .ok (.ifCond .ne 10, 3) := by decide +kernel
theorem dX10_as_18 : decode cX10_as 18 = .ok (.aload_n 0, 1) := by decide +kernel
theorem dX10_as_19 : decode cX10_as 19 = .ok (.ldc 71, 2) := by decide +kernel
theorem dX10_as_21 : decode cX10_as 21 = .ok (.invokevirtual 72, 3) := by decide +kernel
theorem dX10_as_24 : decode cX10_as 24 = .ok (.ireturn, 1) := by decide +kernel
theorem dX10_as_25 : decode cX10_as 25 = .ok (.aload_n 0, 1) := by decide +kernel
theorem dX10_as_26 : decode cX10_as 26 = .ok (.getfield 30, 3) := by decide +kernel
theorem dX10_as_29 : decode cX10_as 29 = .ok (.iload_n 1, 1) := by decide +kernel
theorem dX10_as_30 : decode cX10_as 30 = .ok (.invokevirtual 86, 3) := by decide +kernel
theorem dX10_as_33 : decode cX10_as 33 = .ok (.astore_n 3, 1) := by decide +kernel
theorem dX10_as_34 : decode cX10_as 34 = .ok (.aload_n 3, 1) := by decide +kernel
theorem dX10_as_35 : decode cX10_as 35 = .ok (.getfield 112, 3) := by decide +kernel
theorem dX10_as_38 : decode cX10_as 38 = .ok (.iload_n 2, 1) := by decide +kernel
theorem dX10_as_39 : decode cX10_as 39 = .ok (.invokestatic 139, 3) := by decide +kernel
theorem dX10_as_42 : decode cX10_as 42 = .ok (.ifCond .eq 10, 3) := by decide +kernel
theorem dX10_as_45 : decode cX10_as 45 = .ok (.aload_n 3, 1) := by decide +kernel
theorem dX10_as_46 : decode cX10_as 46 = .ok (.getfield 121, 3) := by decide +kernel
theorem dX10_as_49 : decode cX10_as 49 = .ok (.goto 9, 3) := by decide +kernel
theorem dX10_as_52 : decode cX10_as 52 = .ok (.aload_n 0, 1) := by decide +kernel
theorem dX10_as_53 : decode cX10_as 53 = .ok (.ldc 143, 2) := by decide +kernel
theorem dX10_as_55 : decode cX10_as 55 = .ok (.invokevirtual 72, 3) := by decide +kernel
theorem dX10_as_58 : decode cX10_as 58 = .ok (.ireturn, 1) := by decide +kernel
theorem dX10_sit_0 : decode cX10_sit 0 = .ok (.aload_n 0, 1) := by decide +kernel
theorem dX10_sit_1 : decode cX10_sit 1 = .ok (.getfield 30, 3) := by decide +kernel
theorem dX10_sit_4 : decode cX10_sit 4 = .ok (.iload_n 1, 1) := by decide +kernel
theorem dX10_sit_5 : decode cX10_sit 5 = .ok (.invokevirtual 109, 3) := by decide +kernel
theorem dX10_sit_8 : decode cX10_sit 8 = .ok (.ifCond .eq 13, 3) := by decide +kernel
theorem dX10_sit_11 : decode cX10_sit 11 = .ok (.iload_n 2, 1) := by decide +kernel
theorem dX10_sit_12 : decode cX10_sit 12 = .ok (.iconst (-1), 1) := by decide +kernel
theorem dX10_sit_13 : decode cX10_sit 13 = .ok (.if_icmp .lt 8, 3) := by decide +kernel
theorem dX10_sit_16 : decode cX10_sit 16 = .ok (.iload_n 2, 1) := by decide +kernel
theorem dX10_sit_17 : decode cX10_sit 17 = .ok (.iconst 2, 1) := by decide +kernel
theorem dX10_sit_18 : decode cX10_sit 18 = .ok (.if_icmp .lt 10, 3) := by decide +kernel
theorem dX10_sit_21 : decode cX10_sit 21 = .ok (.aload_n 0, 1) := by decide +kernel
theorem dX10_sit_22 : decode cX10_sit 22 = .ok (.ldc 71, 2) := by decide +kernel
theorem dX10_sit_24 : decode cX10_sit 24 = .ok (.invokevirtual 72, 3) := by decide +kernel
theorem dX10_sit_27 : decode cX10_sit 27 = .ok (.ireturn, 1) := by decide +kernel
theorem dX10_sit_28 : decode cX10_sit 28 = .ok (.iload_n 2, 1) := by decide +kernel
theorem dX10_sit_29 : decode cX10_sit 29 = .ok (.iconst (-1), 1) := by decide +kernel
theorem dX10_sit_30 : decode cX10_sit 30 = .ok (.if_icmp .ne 7, 3) := by decide +kernel
theorem dX10_sit_33 : decode cX10_sit 33 = .ok (.iconst (-1), 1) := by decide +kernel
theorem dX10_sit_34 : decode cX10_sit 34 = .ok (.goto 11, 3) := by decide +kernel
theorem dX10_sit_37 : decode cX10_sit 37 = .ok (.aload_n 0, 1) := by decide +kernel
theorem dX10_sit_38 : decode cX10_sit 38 = .ok (.getfield 30, 3) := by decide +kernel
theorem dX10_sit_41 : decode cX10_sit 41 = .ok (.iload_n 2, 1) := by decide +kernel
theorem dX10_sit_42 : decode cX10_sit 42 = .ok (.invokevirtual 144, 3) := by decide +kernel
theorem dX10_sit_45 : decode cX10_sit 45 = .ok (.istore_n 3, 1) := by decide +kernel
theorem dX10_sit_46 : decode cX10_sit 46 = .ok (.iload_n 3, 1) := by decide +kernel
theorem dX10_sit_47 : decode cX10_sit 47 = .ok (.iconst (-1), 1) := by decide +kernel
theorem dX10_sit_48 : decode cX10_sit 48 = .ok (.if_icmp .eq 15, 3) := by decide +kernel
theorem dX10_sit_51 : decode cX10_sit 51 = .ok (.iload_n 3, 1) := by decide +kernel
theorem dX10_sit_52 : decode cX10_sit 52 = .ok (.iload_n 1, 1) := by decide +kernel
theorem dX10_sit_53 : decode cX10_sit 53 = .ok (.if_icmp .eq 10, 3) := by decide +kernel
theorem dX10_sit_56 : decode cX10_sit 56 = .ok (.aload_n 0, 1) := by decide +kernel
theorem dX10_sit_57 : decode cX10_sit 57 = .ok (.ldc 147, 2) := by decide +kernel
theorem dX10_sit_59 : decode cX10_sit 59 = .ok (.invokevirtual 72, 3) := by decide +kernel
theorem dX10_sit_62 : decode cX10_sit 62 = .ok (.ireturn, 1) := by decide +kernel
theorem dX10_sit_63 : decode cX10_sit 63 = .ok (.aload_n 0, 1) := by decide +kernel
theorem dX10_sit_64 : decode cX10_sit 64 = .ok (.getfield 30, 3) := by decide +kernel
theorem dX10_sit_67 : decode cX10_sit 67 = .ok (.iload_n 1, 1) := by decide +kernel
theorem dX10_sit_68 : decode cX10_sit 68 = .ok (.invokevirtual 86, 3) := by decide +kernel
theorem dX10_sit_71 : decode cX10_sit 71 = .ok (.astore 4, 2) := by decide +kernel
theorem dX10_sit_73 : decode cX10_sit 73 = .ok (.aload 4, 2) := by decide +kernel
theorem dX10_sit_75 : decode cX10_sit 75 = .ok (.getfield 115, 3) := by decide +kernel
theorem dX10_sit_78 : decode cX10_sit 78 = .ok (.istore 5, 2) := by decide +kernel
theorem dX10_sit_80 : decode cX10_sit 80 = .ok (.aload 4, 2) := by decide +kernel
theorem dX10_sit_82 : decode cX10_sit 82 = .ok (.iload_n 2, 1) := by decide +kernel
theorem dX10_sit_83 : decode cX10_sit 83 = .ok (.invokevirtual 148, 3) := by decide +kernel
theorem dX10_sit_86 : decode cX10_sit 86 = .ok (.iload 5, 2) := by decide +kernel
theorem dX10_sit_88 : decode cX10_sit 88 = .ok (.ireturn, 1) := by decide +kernel
theorem dX10_trusts_0 : decode cX10_trusts 0 = .ok (.aload_n 0, 1) := by decide +kernel
theorem dX10_trusts_1 : decode cX10_trusts 1 = .ok (.getfield 30, 3) := by decide +kernel
theorem dX10_trusts_4 : decode cX10_trusts 4 = .ok (.iload_n 1, 1) := by decide +kernel
theorem dX10_trusts_5 : decode cX10_trusts 5 = .ok (.invokevirtual 109, 3) := by decide +kernel
theorem dX10_trusts_8 : decode cX10_trusts 8 = .ok (.ifCond .eq 10, 3) := by decide +kernel
theorem dX10_trusts_11 : decode cX10_trusts 11 = .ok (.iload_n 2, 1) := by decide +kernel
theorem dX10_trusts_12 : decode cX10_trusts 12 = .ok (.invokestatic 80, 3) := by decide +kernel
theorem dX10_trusts_15 : decode cX10_trusts 15 = .ok (.ifCond .ne 10, 3) := by decide +kernel
theorem dX10_trusts_18 : decode cX10_trusts 18 = .ok (.aload_n 0, 1) := by decide +kernel
theorem dX10_trusts_19 : decode cX10_trusts 19 = .ok (.ldc 71, 2) := by decide +kernel
theorem dX10_trusts_21 : decode cX10_trusts 21 = .ok (.invokevirtual 72, 3) := by decide +kernel
theorem dX10_trusts_24 : decode cX10_trusts 24 = .ok (.ireturn, 1) := by decide +kernel
theorem dX10_trusts_25 : decode cX10_trusts 25 = .ok (.aload_n 0, 1) := by decide +kernel
theorem dX10_trusts_26 : decode cX10_trusts 26 = .ok (.getfield 30, 3) := by decide +kernel
theorem dX10_trusts_29 : decode cX10_trusts 29 = .ok (.iload_n 1, 1) := by decide +kernel
theorem dX10_trusts_30 : decode cX10_trusts 30 = .ok (.iload_n 2, 1) := by decide +kernel
theorem dX10_trusts_31 : decode cX10_trusts 31 = .ok (.invokevirtual 152, 3) := by decide +kernel
theorem dX10_trusts_34 : decode cX10_trusts 34 = .ok (.ifCond .eq 7, 3) := by decide +kernel
theorem dX10_trusts_37 : decode cX10_trusts 37 = .ok (.iconst 1, 1) := by decide +kernel
theorem dX10_trusts_38 : decode cX10_trusts 38 = .ok (.goto 4, 3) := by decide +kernel
theorem dX10_trusts_41 : decode cX10_trusts 41 = .ok (.iconst 0, 1) := by decide +kernel
theorem dX10_trusts_42 : decode cX10_trusts 42 = .ok (.ireturn, 1) := by decide +kernel
theorem dX10_hours_0 : decode cX10_hours 0 = .ok (.iload_n 1, 1) := by decide +kernel
theorem dX10_hours_1 : decode cX10_hours 1 = .ok (.iconst 1, 1) := by decide +kernel
theorem dX10_hours_2 : decode cX10_hours 2 = .ok (.if_icmp .lt 9, 3) := by decide +kernel
theorem dX10_hours_5 : decode cX10_hours 5 = .ok (.iload_n 1, 1) := by decide +kernel
theorem dX10_hours_6 : decode cX10_hours 6 = .ok (.bipush 100, 2) := by decide +kernel
theorem dX10_hours_8 : decode cX10_hours 8 = .ok (.if_icmp .le 10, 3) := by decide +kernel
theorem dX10_hours_11 : decode cX10_hours 11 = .ok (.aload_n 0, 1) := by decide +kernel
theorem dX10_hours_12 : decode cX10_hours 12 = .ok (.ldc 71, 2) := by decide +kernel
theorem dX10_hours_14 : decode cX10_hours 14 = .ok (.invokevirtual 72, 3) := by decide +kernel
theorem dX10_hours_17 : decode cX10_hours 17 = .ok (.ireturn, 1) := by decide +kernel
theorem dX10_hours_18 : decode cX10_hours 18 = .ok (.aload_n 0, 1) := by decide +kernel
theorem dX10_hours_19 : decode cX10_hours 19 = .ok (.getfield 30, 3) := by decide +kernel
theorem dX10_hours_22 : decode cX10_hours 22 = .ok (.getfield 155, 3) := by decide +kernel
theorem dX10_hours_25 : decode cX10_hours 25 = .ok (.ldc 158, 2) := by decide +kernel
theorem dX10_hours_27 : decode cX10_hours 27 = .ok (.iload_n 1, 1) := by decide +kernel
theorem dX10_hours_28 : decode cX10_hours 28 = .ok (.isub, 1) := by decide +kernel
theorem dX10_hours_29 : decode cX10_hours 29 = .ok (.if_icmp .le 10, 3) := by decide +kernel
theorem dX10_hours_32 : decode cX10_hours 32 = .ok (.aload_n 0, 1) := by decide +kernel
theorem dX10_hours_33 : decode cX10_hours 33 = .ok (.ldc 147, 2) := by decide +kernel
theorem dX10_hours_35 : decode cX10_hours 35 = .ok (.invokevirtual 72, 3) := by decide +kernel
theorem dX10_hours_38 : decode cX10_hours 38 = .ok (.ireturn, 1) := by decide +kernel
theorem dX10_hours_39 : decode cX10_hours 39 = .ok (.aload_n 0, 1) := by decide +kernel
theorem dX10_hours_40 : decode cX10_hours 40 = .ok (.getfield 30, 3) := by decide +kernel
theorem dX10_hours_43 : decode cX10_hours 43 = .ok (.iload_n 1, 1) := by decide +kernel
theorem dX10_hours_44 : decode cX10_hours 44 = .ok (.invokevirtual 159, 3) := by decide +kernel
theorem dX10_hours_47 : decode cX10_hours 47 = .ok (.aload_n 0, 1) := by decide +kernel
theorem dX10_hours_48 : decode cX10_hours 48 = .ok (.getfield 30, 3) := by decide +kernel
theorem dX10_hours_51 : decode cX10_hours 51 = .ok (.invokevirtual 162, 3) := by decide +kernel
theorem dX10_hours_54 : decode cX10_hours 54 = .ok (.ireturn, 1) := by decide +kernel
theorem dX10_now_0 : decode cX10_now 0 = .ok (.iload_n 1, 1) := by decide +kernel
theorem dX10_now_1 : decode cX10_now 1 = .ok (.tableswitch 121 0 7 #[47, 55, 63, 79, 88, 97, 105, 113], 47) := by decide +kernel
theorem dX10_now_48 : decode cX10_now 48 = .ok (.aload_n 0, 1) := by decide +kernel
theorem dX10_now_49 : decode cX10_now 49 = .ok (.getfield 30, 3) := by decide +kernel
theorem dX10_now_52 : decode cX10_now 52 = .ok (.getfield 155, 3) := by decide +kernel
theorem dX10_now_55 : decode cX10_now 55 = .ok (.ireturn, 1) := by decide +kernel
theorem dX10_now_56 : decode cX10_now 56 = .ok (.aload_n 0, 1) := by decide +kernel
theorem dX10_now_57 : decode cX10_now 57 = .ok (.getfield 30, 3) := by decide +kernel
theorem dX10_now_60 : decode cX10_now 60 = .ok (.invokevirtual 166, 3) := by decide +kernel
theorem dX10_now_63 : decode cX10_now 63 = .ok (.ireturn, 1) := by decide +kernel
theorem dX10_now_64 : decode cX10_now 64 = .ok (.aload_n 0, 1) := by decide +kernel
theorem dX10_now_65 : decode cX10_now 65 = .ok (.getfield 30, 3) := by decide +kernel
theorem dX10_now_68 : decode cX10_now 68 = .ok (.invokevirtual 169, 3) := by decide +kernel
theorem dX10_now_71 : decode cX10_now 71 = .ok (.ifCond .eq 7, 3) := by decide +kernel
theorem dX10_now_74 : decode cX10_now 74 = .ok (.iconst 1, 1) := by decide +kernel
theorem dX10_now_75 : decode cX10_now 75 = .ok (.goto 4, 3) := by decide +kernel
theorem dX10_now_78 : decode cX10_now 78 = .ok (.iconst 0, 1) := by decide +kernel
theorem dX10_now_79 : decode cX10_now 79 = .ok (.ireturn, 1) := by decide +kernel
theorem dX10_now_80 : decode cX10_now 80 = .ok (.aload_n 0, 1) := by decide +kernel
theorem dX10_now_81 : decode cX10_now 81 = .ok (.getfield 30, 3) := by decide +kernel
theorem dX10_now_84 : decode cX10_now 84 = .ok (.iconst 0, 1) := by decide +kernel
theorem dX10_now_85 : decode cX10_now 85 = .ok (.invokevirtual 144, 3) := by decide +kernel
theorem dX10_now_88 : decode cX10_now 88 = .ok (.ireturn, 1) := by decide +kernel
theorem dX10_now_89 : decode cX10_now 89 = .ok (.aload_n 0, 1) := by decide +kernel
theorem dX10_now_90 : decode cX10_now 90 = .ok (.getfield 30, 3) := by decide +kernel
theorem dX10_now_93 : decode cX10_now 93 = .ok (.iconst 1, 1) := by decide +kernel
theorem dX10_now_94 : decode cX10_now 94 = .ok (.invokevirtual 144, 3) := by decide +kernel
theorem dX10_now_97 : decode cX10_now 97 = .ok (.ireturn, 1) := by decide +kernel
theorem dX10_now_98 : decode cX10_now 98 = .ok (.aload_n 0, 1) := by decide +kernel
theorem dX10_now_99 : decode cX10_now 99 = .ok (.getfield 30, 3) := by decide +kernel
theorem dX10_now_102 : decode cX10_now 102 = .ok (.invokevirtual 172, 3) := by decide +kernel
theorem dX10_now_105 : decode cX10_now 105 = .ok (.ireturn, 1) := by decide +kernel
theorem dX10_now_106 : decode cX10_now 106 = .ok (.aload_n 0, 1) := by decide +kernel
theorem dX10_now_107 : decode cX10_now 107 = .ok (.getfield 30, 3) := by decide +kernel
theorem dX10_now_110 : decode cX10_now 110 = .ok (.getfield 76, 3) := by decide +kernel
theorem dX10_now_113 : decode cX10_now 113 = .ok (.ireturn, 1) := by decide +kernel
theorem dX10_now_114 : decode cX10_now 114 = .ok (.aload_n 0, 1) := by decide +kernel
theorem dX10_now_115 : decode cX10_now 115 = .ok (.getfield 30, 3) := by decide +kernel
theorem dX10_now_118 : decode cX10_now 118 = .ok (.getfield 175, 3) := by decide +kernel
theorem dX10_now_121 : decode cX10_now 121 = .ok (.ireturn, 1) := by decide +kernel
theorem dX10_now_122 : decode cX10_now 122 = .ok (.aload_n 0, 1) := by decide +kernel
theorem dX10_now_123 : decode cX10_now 123 = .ok (.ldc 71, 2) := by decide +kernel
theorem dX10_now_125 : decode cX10_now 125 = .ok (.invokevirtual 72, 3) := by decide +kernel
theorem dX10_now_128 : decode cX10_now 128 = .ok (.ireturn, 1) := by decide +kernel
theorem dX10_on_0 : decode cX10_on 0 = .ok (.aload_n 0, 1) := by decide +kernel
theorem dX10_on_1 : decode cX10_on 1 = .ok (.getfield 30, 3) := by decide +kernel
theorem dX10_on_4 : decode cX10_on 4 = .ok (.iload_n 1, 1) := by decide +kernel
theorem dX10_on_5 : decode cX10_on 5 = .ok (.invokevirtual 109, 3) := by decide +kernel
theorem dX10_on_8 : decode cX10_on 8 = .ok (.ifCond .eq 23, 3) := by decide +kernel
theorem dX10_on_11 : decode cX10_on 11 = .ok (.iload_n 2, 1) := by decide +kernel
theorem dX10_on_12 : decode cX10_on 12 = .ok (.ifCond .lt 19, 3) := by decide +kernel
theorem dX10_on_15 : decode cX10_on 15 = .ok (.iload_n 2, 1) := by decide +kernel
theorem dX10_on_16 : decode cX10_on 16 = .ok (.sipush 200, 3) := by decide +kernel
theorem dX10_on_19 : decode cX10_on 19 = .ok (.if_icmp .gt 12, 3) := by decide +kernel
theorem dX10_on_22 : decode cX10_on 22 = .ok (.iload_n 3, 1) := by decide +kernel
theorem dX10_on_23 : decode cX10_on 23 = .ok (.ifCond .lt 8, 3) := by decide +kernel
theorem dX10_on_26 : decode cX10_on 26 = .ok (.iload_n 3, 1) := by decide +kernel
theorem dX10_on_27 : decode cX10_on 27 = .ok (.iconst 2, 1) := by decide +kernel
theorem dX10_on_28 : decode cX10_on 28 = .ok (.if_icmp .le 10, 3) := by decide +kernel
theorem dX10_on_31 : decode cX10_on 31 = .ok (.aload_n 0, 1) := by decide +kernel
theorem dX10_on_32 : decode cX10_on 32 = .ok (.ldc 71, 2) := by decide +kernel
theorem dX10_on_34 : decode cX10_on 34 = .ok (.invokevirtual 72, 3) := by decide +kernel
theorem dX10_on_37 : decode cX10_on 37 = .ok (.ireturn, 1) := by decide +kernel
theorem dX10_on_38 : decode cX10_on 38 = .ok (.aload_n 0, 1) := by decide +kernel
theorem dX10_on_39 : decode cX10_on 39 = .ok (.getfield 36, 3) := by decide +kernel
theorem dX10_on_42 : decode cX10_on 42 = .ok (.aload_n 0, 1) := by decide +kernel
theorem dX10_on_43 : decode cX10_on 43 = .ok (.getfield 30, 3) := by decide +kernel
theorem dX10_on_46 : decode cX10_on 46 = .ok (.invokevirtual 178, 3) := by decide +kernel
theorem dX10_on_49 : decode cX10_on 49 = .ok (.aload_n 0, 1) := by decide +kernel
theorem dX10_on_50 : decode cX10_on 50 = .ok (.getfield 36, 3) := by decide +kernel
theorem dX10_on_53 : decode cX10_on 53 = .ok (.iload_n 2, 1) := by decide +kernel
theorem dX10_on_54 : decode cX10_on 54 = .ok (.invokevirtual 159, 3) := by decide +kernel
theorem dX10_on_57 : decode cX10_on 57 = .ok (.aload_n 0, 1) := by decide +kernel
theorem dX10_on_58 : decode cX10_on 58 = .ok (.getfield 36, 3) := by decide +kernel
theorem dX10_on_61 : decode cX10_on 61 = .ok (.iload_n 1, 1) := by decide +kernel
theorem dX10_on_62 : decode cX10_on 62 = .ok (.invokevirtual 86, 3) := by decide +kernel
theorem dX10_on_65 : decode cX10_on 65 = .ok (.astore 4, 2) := by decide +kernel
theorem dX10_on_67 : decode cX10_on 67 = .ok (.iload_n 3, 1) := by decide +kernel
theorem dX10_on_68 : decode cX10_on 68 = .ok (.ifCond .ne 9, 3) := by decide +kernel
theorem dX10_on_71 : decode cX10_on 71 = .ok (.aload 4, 2) := by decide +kernel
theorem dX10_on_73 : decode cX10_on 73 = .ok (.getfield 90, 3) := by decide +kernel
theorem dX10_on_76 : decode cX10_on 76 = .ok (.ireturn, 1) := by decide +kernel
theorem dX10_on_77 : decode cX10_on 77 = .ok (.iload_n 3, 1) := by decide +kernel
theorem dX10_on_78 : decode cX10_on 78 = .ok (.iconst 1, 1) := by decide +kernel
theorem dX10_on_79 : decode cX10_on 79 = .ok (.if_icmp .ne 11, 3) := by decide +kernel
theorem dX10_on_82 : decode cX10_on 82 = .ok (.aload 4, 2) := by decide +kernel
theorem dX10_on_84 : decode cX10_on 84 = .ok (.getfield 95, 3) := by decide +kernel
theorem dX10_on_87 : decode cX10_on 87 = .ok (.goto 8, 3) := by decide +kernel
theorem dX10_on_90 : decode cX10_on 90 = .ok (.aload 4, 2) := by decide +kernel
theorem dX10_on_92 : decode cX10_on 92 = .ok (.getfield 115, 3) := by decide +kernel
theorem dX10_on_95 : decode cX10_on 95 = .ok (.ireturn, 1) := by decide +kernel
theorem dX10_knows_0 : decode cX10_knows 0 = .ok (.aload_n 0, 1) := by decide +kernel
theorem dX10_knows_1 : decode cX10_knows 1 = .ok (.getfield 30, 3) := by decide +kernel
theorem dX10_knows_4 : decode cX10_knows 4 = .ok (.iload_n 1, 1) := by decide +kernel
theorem dX10_knows_5 : decode cX10_knows 5 = .ok (.invokevirtual 109, 3) := by decide +kernel
theorem dX10_knows_8 : decode cX10_knows 8 = .ok (.ifCond .eq 10, 3) := by decide +kernel
theorem dX10_knows_11 : decode cX10_knows 11 = .ok (.iload_n 2, 1) := by decide +kernel
theorem dX10_knows_12 : decode cX10_knows 12 = .ok (.invokestatic 80, 3) := by decide +kernel
theorem dX10_knows_15 : decode cX10_knows 15 = .ok (.ifCond .ne 10, 3) := by decide +kernel
theorem dX10_knows_18 : decode cX10_knows 18 = .ok (.aload_n 0, 1) := by decide +kernel
theorem dX10_knows_19 : decode cX10_knows 19 = .ok (.ldc 71, 2) := by decide +kernel
theorem dX10_knows_21 : decode cX10_knows 21 = .ok (.invokevirtual 72, 3) := by decide +kernel
theorem dX10_knows_24 : decode cX10_knows 24 = .ok (.ireturn, 1) := by decide +kernel
theorem dX10_knows_25 : decode cX10_knows 25 = .ok (.aload_n 0, 1) := by decide +kernel
theorem dX10_knows_26 : decode cX10_knows 26 = .ok (.iconst 0, 1) := by decide +kernel
theorem dX10_knows_27 : decode cX10_knows 27 = .ok (.iload_n 1, 1) := by decide +kernel
theorem dX10_knows_28 : decode cX10_knows 28 = .ok (.iload_n 2, 1) := by decide +kernel
theorem dX10_knows_29 : decode cX10_knows 29 = .ok (.invokevirtual 182, 3) := by decide +kernel
theorem dX10_knows_32 : decode cX10_knows 32 = .ok (.ireturn, 1) := by decide +kernel
theorem dX10_out_0 : decode cX10_out 0 = .ok (.iload_n 1, 1) := by decide +kernel
theorem dX10_out_1 : decode cX10_out 1 = .ok (.invokestatic 80, 3) := by decide +kernel
theorem dX10_out_4 : decode cX10_out 4 = .ok (.ifCond .ne 10, 3) := by decide +kernel
theorem dX10_out_7 : decode cX10_out 7 = .ok (.aload_n 0, 1) := by decide +kernel
theorem dX10_out_8 : decode cX10_out 8 = .ok (.ldc 71, 2) := by decide +kernel
theorem dX10_out_10 : decode cX10_out 10 = .ok (.invokevirtual 72, 3) := by decide +kernel
theorem dX10_out_13 : decode cX10_out 13 = .ok (.ireturn, 1) := by decide +kernel
theorem dX10_out_14 : decode cX10_out 14 = .ok (.aload_n 0, 1) := by decide +kernel
theorem dX10_out_15 : decode cX10_out 15 = .ok (.iconst 1, 1) := by decide +kernel
theorem dX10_out_16 : decode cX10_out 16 = .ok (.iconst (-1), 1) := by decide +kernel
theorem dX10_out_17 : decode cX10_out 17 = .ok (.iload_n 1, 1) := by decide +kernel
theorem dX10_out_18 : decode cX10_out 18 = .ok (.invokevirtual 182, 3) := by decide +kernel
theorem dX10_out_21 : decode cX10_out 21 = .ok (.ireturn, 1) := by decide +kernel
theorem dX10_meet_0 : decode cX10_meet 0 = .ok (.aload_n 0, 1) := by decide +kernel
theorem dX10_meet_1 : decode cX10_meet 1 = .ok (.iload_n 1, 1) := by decide +kernel
theorem dX10_meet_2 : decode cX10_meet 2 = .ok (.iload_n 2, 1) := by decide +kernel
theorem dX10_meet_3 : decode cX10_meet 3 = .ok (.invokevirtual 186, 3) := by decide +kernel
theorem dX10_meet_6 : decode cX10_meet 6 = .ok (.ifCond .ne 10, 3) := by decide +kernel
theorem dX10_meet_9 : decode cX10_meet 9 = .ok (.aload_n 0, 1) := by decide +kernel
theorem dX10_meet_10 : decode cX10_meet 10 = .ok (.ldc 71, 2) := by decide +kernel
theorem dX10_meet_12 : decode cX10_meet 12 = .ok (.invokevirtual 72, 3) := by decide +kernel
theorem dX10_meet_15 : decode cX10_meet 15 = .ok (.ireturn, 1) := by decide +kernel
theorem dX10_meet_16 : decode cX10_meet 16 = .ok (.aload_n 0, 1) := by decide +kernel
theorem dX10_meet_17 : decode cX10_meet 17 = .ok (.iconst 2, 1) := by decide +kernel
theorem dX10_meet_18 : decode cX10_meet 18 = .ok (.iload_n 1, 1) := by decide +kernel
theorem dX10_meet_19 : decode cX10_meet 19 = .ok (.iload_n 2, 1) := by decide +kernel
theorem dX10_meet_20 : decode cX10_meet 20 = .ok (.invokevirtual 182, 3) := by decide +kernel
theorem dX10_meet_23 : decode cX10_meet 23 = .ok (.ireturn, 1) := by decide +kernel
theorem dX10_kind_0 : decode cX10_kind 0 = .ok (.aload_n 0, 1) := by decide +kernel
theorem dX10_kind_1 : decode cX10_kind 1 = .ok (.getfield 30, 3) := by decide +kernel
theorem dX10_kind_4 : decode cX10_kind 4 = .ok (.iload_n 1, 1) := by decide +kernel
theorem dX10_kind_5 : decode cX10_kind 5 = .ok (.invokevirtual 109, 3) := by decide +kernel
theorem dX10_kind_8 : decode cX10_kind 8 = .ok (.ifCond .eq 14, 3) := by decide +kernel
theorem dX10_kind_11 : decode cX10_kind 11 = .ok (.iload_n 2, 1) := by decide +kernel
theorem dX10_kind_12 : decode cX10_kind 12 = .ok (.iconst 1, 1) := by decide +kernel
theorem dX10_kind_13 : decode cX10_kind 13 = .ok (.if_icmp .lt 9, 3) := by decide +kernel
theorem dX10_kind_16 : decode cX10_kind 16 = .ok (.iload_n 2, 1) := by decide +kernel
theorem dX10_kind_17 : decode cX10_kind 17 = .ok (.bipush 100, 2) := by decide +kernel
theorem dX10_kind_19 : decode cX10_kind 19 = .ok (.if_icmp .le 10, 3) := by decide +kernel
theorem dX10_kind_22 : decode cX10_kind 22 = .ok (.aload_n 0, 1) := by decide +kernel
theorem dX10_kind_23 : decode cX10_kind 23 = .ok (.ldc 71, 2) := by decide +kernel
theorem dX10_kind_25 : decode cX10_kind 25 = .ok (.invokevirtual 72, 3) := by decide +kernel
theorem dX10_kind_28 : decode cX10_kind 28 = .ok (.ireturn, 1) := by decide +kernel
theorem dX10_kind_29 : decode cX10_kind 29 = .ok (.iconst 0, 1) := by decide +kernel
theorem dX10_kind_30 : decode cX10_kind 30 = .ok (.istore_n 3, 1) := by decide +kernel
theorem dX10_kind_31 : decode cX10_kind 31 = .ok (.iload_n 3, 1) := by decide +kernel
theorem dX10_kind_32 : decode cX10_kind 32 = .ok (.bipush 6, 2) := by decide +kernel
theorem dX10_kind_34 : decode cX10_kind 34 = .ok (.if_icmp .ge 22, 3) := by decide +kernel
theorem dX10_kind_37 : decode cX10_kind 37 = .ok (.aload_n 0, 1) := by decide +kernel
theorem dX10_kind_38 : decode cX10_kind 38 = .ok (.getfield 64, 3) := by decide +kernel
theorem dX10_kind_41 : decode cX10_kind 41 = .ok (.iload_n 3, 1) := by decide +kernel
theorem dX10_kind_42 : decode cX10_kind 42 = .ok (.aload_n 0, 1) := by decide +kernel
theorem dX10_kind_43 : decode cX10_kind 43 = .ok (.iload_n 1, 1) := by decide +kernel
theorem dX10_kind_44 : decode cX10_kind 44 = .ok (.iload_n 3, 1) := by decide +kernel
theorem dX10_kind_45 : decode cX10_kind 45 = .ok (.iload_n 2, 1) := by decide +kernel
theorem dX10_kind_46 : decode cX10_kind 46 = .ok (.invokevirtual 189, 3) := by decide +kernel
theorem dX10_kind_49 : decode cX10_kind 49 = .ok (.iastore, 1) := by decide +kernel
theorem dX10_kind_50 : decode cX10_kind 50 = .ok (.iinc 3 1, 3) := by decide +kernel
theorem dX10_kind_53 : decode cX10_kind 53 = .ok (.goto (-22), 3) := by decide +kernel
theorem dX10_kind_56 : decode cX10_kind 56 = .ok (.aload_n 0, 1) := by decide +kernel
theorem dX10_kind_57 : decode cX10_kind 57 = .ok (.bipush 6, 2) := by decide +kernel
theorem dX10_kind_59 : decode cX10_kind 59 = .ok (.invokevirtual 192, 3) := by decide +kernel
theorem dX10_kind_62 : decode cX10_kind 62 = .ok (.ireturn, 1) := by decide +kernel
theorem dX10_forget_0 : decode cX10_forget 0 = .ok (.aload_n 0, 1) := by decide +kernel
theorem dX10_forget_1 : decode cX10_forget 1 = .ok (.getfield 30, 3) := by decide +kernel
theorem dX10_forget_4 : decode cX10_forget 4 = .ok (.iload_n 1, 1) := by decide +kernel
theorem dX10_forget_5 : decode cX10_forget 5 = .ok (.invokevirtual 109, 3) := by decide +kernel
theorem dX10_forget_8 : decode cX10_forget 8 = .ok (.ifCond .eq 14, 3) := by decide +kernel
theorem dX10_forget_11 : decode cX10_forget 11 = .ok (.iload_n 2, 1) := by decide +kernel
theorem dX10_forget_12 : decode cX10_forget 12 = .ok (.iconst 1, 1) := by decide +kernel
theorem dX10_forget_13 : decode cX10_forget 13 = .ok (.if_icmp .lt 9, 3) := by decide +kernel
theorem dX10_forget_16 : decode cX10_forget 16 = .ok (.iload_n 2, 1) := by decide +kernel
theorem dX10_forget_17 : decode cX10_forget 17 = .ok (.bipush 60, 2) := by decide +kernel
theorem dX10_forget_19 : decode cX10_forget 19 = .ok (.if_icmp .le 10, 3) := by decide +kernel
theorem dX10_forget_22 : decode cX10_forget 22 = .ok (.aload_n 0, 1) := by decide +kernel
theorem dX10_forget_23 : decode cX10_forget 23 = .ok (.ldc 71, 2) := by decide +kernel
theorem dX10_forget_25 : decode cX10_forget 25 = .ok (.invokevirtual 72, 3) := by decide +kernel
theorem dX10_forget_28 : decode cX10_forget 28 = .ok (.ireturn, 1) := by decide +kernel
theorem dX10_forget_29 : decode cX10_forget 29 = .ok (.aload_n 0, 1) := by decide +kernel
theorem dX10_forget_30 : decode cX10_forget 30 = .ok (.getfield 30, 3) := by decide +kernel
theorem dX10_forget_33 : decode cX10_forget 33 = .ok (.iload_n 1, 1) := by decide +kernel
theorem dX10_forget_34 : decode cX10_forget 34 = .ok (.invokevirtual 86, 3) := by decide +kernel
theorem dX10_forget_37 : decode cX10_forget 37 = .ok (.getfield 90, 3) := by decide +kernel
theorem dX10_forget_40 : decode cX10_forget 40 = .ok (.istore_n 3, 1) := by decide +kernel
theorem dX10_forget_41 : decode cX10_forget 41 = .ok (.iload_n 3, 1) := by decide +kernel
theorem dX10_forget_42 : decode cX10_forget 42 = .ok (.ifCond .ne 10, 3) := by decide +kernel
theorem dX10_forget_45 : decode cX10_forget 45 = .ok (.aload_n 0, 1) := by decide +kernel
theorem dX10_forget_46 : decode cX10_forget 46 = .ok (.ldc 195, 2) := by decide +kernel
theorem dX10_forget_48 : decode cX10_forget 48 = .ok (.invokevirtual 72, 3) := by decide +kernel
theorem dX10_forget_51 : decode cX10_forget 51 = .ok (.ireturn, 1) := by decide +kernel
theorem dX10_forget_52 : decode cX10_forget 52 = .ok (.iconst 0, 1) := by decide +kernel
theorem dX10_forget_53 : decode cX10_forget 53 = .ok (.istore 4, 2) := by decide +kernel
theorem dX10_forget_55 : decode cX10_forget 55 = .ok (.iload 4, 2) := by decide +kernel
theorem dX10_forget_57 : decode cX10_forget 57 = .ok (.bipush 10, 2) := by decide +kernel
theorem dX10_forget_59 : decode cX10_forget 59 = .ok (.if_icmp .ge 37, 3) := by decide +kernel
theorem dX10_forget_62 : decode cX10_forget 62 = .ok (.aload_n 0, 1) := by decide +kernel
theorem dX10_forget_63 : decode cX10_forget 63 = .ok (.getfield 64, 3) := by decide +kernel
theorem dX10_forget_66 : decode cX10_forget 66 = .ok (.iload 4, 2) := by decide +kernel
theorem dX10_forget_68 : decode cX10_forget 68 = .ok (.iload_n 3, 1) := by decide +kernel
theorem dX10_forget_69 : decode cX10_forget 69 = .ok (.iload 4, 2) := by decide +kernel
theorem dX10_forget_71 : decode cX10_forget 71 = .ok (.invokestatic 196, 3) := by decide +kernel
theorem dX10_forget_74 : decode cX10_forget 74 = .ok (.ifCond .eq 14, 3) := by decide +kernel
theorem dX10_forget_77 : decode cX10_forget 77 = .ok (.aload_n 0, 1) := by decide +kernel
theorem dX10_forget_78 : decode cX10_forget 78 = .ok (.iload_n 1, 1) := by decide +kernel
theorem dX10_forget_79 : decode cX10_forget 79 = .ok (.iload 4, 2) := by decide +kernel
theorem dX10_forget_81 : decode cX10_forget 81 = .ok (.iload_n 2, 1) := by decide +kernel
theorem dX10_forget_82 : decode cX10_forget 82 = .ok (.invokevirtual 199, 3) := by decide +kernel
theorem dX10_forget_85 : decode cX10_forget 85 = .ok (.goto 4, 3) := by decide +kernel
theorem dX10_forget_88 : decode cX10_forget 88 = .ok (.iconst (-1), 1) := by decide +kernel
theorem dX10_forget_89 : decode cX10_forget 89 = .ok (.iastore, 1) := by decide +kernel
theorem dX10_forget_90 : decode cX10_forget 90 = .ok (.iinc 4 1, 3) := by decide +kernel
theorem dX10_forget_93 : decode cX10_forget 93 = .ok (.goto (-38), 3) := by decide +kernel
theorem dX10_forget_96 : decode cX10_forget 96 = .ok (.aload_n 0, 1) := by decide +kernel
theorem dX10_forget_97 : decode cX10_forget 97 = .ok (.bipush 10, 2) := by decide +kernel
theorem dX10_forget_99 : decode cX10_forget 99 = .ok (.invokevirtual 192, 3) := by decide +kernel
theorem dX10_forget_102 : decode cX10_forget 102 = .ok (.ireturn, 1) := by decide +kernel
theorem dX10_confide_0 : decode cX10_confide 0 = .ok (.aload_n 0, 1) := by decide +kernel
theorem dX10_confide_1 : decode cX10_confide 1 = .ok (.getfield 30, 3) := by decide +kernel
theorem dX10_confide_4 : decode cX10_confide 4 = .ok (.iload_n 1, 1) := by decide +kernel
theorem dX10_confide_5 : decode cX10_confide 5 = .ok (.invokevirtual 109, 3) := by decide +kernel
theorem dX10_confide_8 : decode cX10_confide 8 = .ok (.ifCond .eq 14, 3) := by decide +kernel
theorem dX10_confide_11 : decode cX10_confide 11 = .ok (.iload_n 2, 1) := by decide +kernel
theorem dX10_confide_12 : decode cX10_confide 12 = .ok (.iconst 1, 1) := by decide +kernel
theorem dX10_confide_13 : decode cX10_confide 13 = .ok (.if_icmp .lt 9, 3) := by decide +kernel
theorem dX10_confide_16 : decode cX10_confide 16 = .ok (.iload_n 2, 1) := by decide +kernel
theorem dX10_confide_17 : decode cX10_confide 17 = .ok (.bipush 60, 2) := by decide +kernel
theorem dX10_confide_19 : decode cX10_confide 19 = .ok (.if_icmp .le 10, 3) := by decide +kernel
theorem dX10_confide_22 : decode cX10_confide 22 = .ok (.aload_n 0, 1) := by decide +kernel
theorem dX10_confide_23 : decode cX10_confide 23 = .ok (.ldc 71, 2) := by decide +kernel
theorem dX10_confide_25 : decode cX10_confide 25 = .ok (.invokevirtual 72, 3) := by decide +kernel
theorem dX10_confide_28 : decode cX10_confide 28 = .ok (.ireturn, 1) := by decide +kernel
theorem dX10_confide_29 : decode cX10_confide 29 = .ok (.aload_n 0, 1) := by decide +kernel
theorem dX10_confide_30 : decode cX10_confide 30 = .ok (.getfield 30, 3) := by decide +kernel
theorem dX10_confide_33 : decode cX10_confide 33 = .ok (.iload_n 1, 1) := by decide +kernel
theorem dX10_confide_34 : decode cX10_confide 34 = .ok (.invokevirtual 86, 3) := by decide +kernel
theorem dX10_confide_37 : decode cX10_confide 37 = .ok (.getfield 90, 3) := by decide +kernel
theorem dX10_confide_40 : decode cX10_confide 40 = .ok (.istore_n 3, 1) := by decide +kernel
theorem dX10_confide_41 : decode cX10_confide 41 = .ok (.iload_n 3, 1) := by decide +kernel
theorem dX10_confide_42 : decode cX10_confide 42 = .ok (.sipush 1023, 3) := by decide +kernel
theorem dX10_confide_45 : decode cX10_confide 45 = .ok (.if_icmp .ne 10, 3) := by decide +kernel
theorem dX10_confide_48 : decode cX10_confide 48 = .ok (.aload_n 0, 1) := by decide +kernel
theorem dX10_confide_49 : decode cX10_confide 49 = .ok (.ldc 195, 2) := by decide +kernel
theorem dX10_confide_51 : decode cX10_confide 51 = .ok (.invokevirtual 72, 3) := by decide +kernel
theorem dX10_confide_54 : decode cX10_confide 54 = .ok (.ireturn, 1) := by decide +kernel
theorem dX10_confide_55 : decode cX10_confide 55 = .ok (.iconst 0, 1) := by decide +kernel
theorem dX10_confide_56 : decode cX10_confide 56 = .ok (.istore 4, 2) := by decide +kernel
theorem dX10_confide_58 : decode cX10_confide 58 = .ok (.iload 4, 2) := by decide +kernel
theorem dX10_confide_60 : decode cX10_confide 60 = .ok (.bipush 10, 2) := by decide +kernel
theorem dX10_confide_62 : decode cX10_confide 62 = .ok (.if_icmp .ge 37, 3) := by decide +kernel
theorem dX10_confide_65 : decode cX10_confide 65 = .ok (.aload_n 0, 1) := by decide +kernel
theorem dX10_confide_66 : decode cX10_confide 66 = .ok (.getfield 64, 3) := by decide +kernel
theorem dX10_confide_69 : decode cX10_confide 69 = .ok (.iload 4, 2) := by decide +kernel
theorem dX10_confide_71 : decode cX10_confide 71 = .ok (.iload_n 3, 1) := by decide +kernel
theorem dX10_confide_72 : decode cX10_confide 72 = .ok (.iload 4, 2) := by decide +kernel
theorem dX10_confide_74 : decode cX10_confide 74 = .ok (.invokestatic 196, 3) := by decide +kernel
theorem dX10_confide_77 : decode cX10_confide 77 = .ok (.ifCond .eq 7, 3) := by decide +kernel
theorem dX10_confide_80 : decode cX10_confide 80 = .ok (.iconst (-1), 1) := by decide +kernel
theorem dX10_confide_81 : decode cX10_confide 81 = .ok (.goto 11, 3) := by decide +kernel
theorem dX10_confide_84 : decode cX10_confide 84 = .ok (.aload_n 0, 1) := by decide +kernel
theorem dX10_confide_85 : decode cX10_confide 85 = .ok (.iload_n 1, 1) := by decide +kernel
theorem dX10_confide_86 : decode cX10_confide 86 = .ok (.iload 4, 2) := by decide +kernel
theorem dX10_confide_88 : decode cX10_confide 88 = .ok (.iload_n 2, 1) := by decide +kernel
theorem dX10_confide_89 : decode cX10_confide 89 = .ok (.invokevirtual 202, 3) := by decide +kernel
theorem dX10_confide_92 : decode cX10_confide 92 = .ok (.iastore, 1) := by decide +kernel
theorem dX10_confide_93 : decode cX10_confide 93 = .ok (.iinc 4 1, 3) := by decide +kernel
theorem dX10_confide_96 : decode cX10_confide 96 = .ok (.goto (-38), 3) := by decide +kernel
theorem dX10_confide_99 : decode cX10_confide 99 = .ok (.aload_n 0, 1) := by decide +kernel
theorem dX10_confide_100 : decode cX10_confide 100 = .ok (.bipush 10, 2) := by decide +kernel
theorem dX10_confide_102 : decode cX10_confide 102 = .ok (.invokevirtual 192, 3) := by decide +kernel
theorem dX10_confide_105 : decode cX10_confide 105 = .ok (.ireturn, 1) := by decide +kernel
theorem dX10_enough_0 : decode cX10_enough 0 = .ok (.aload_n 0, 1) := by decide +kernel
theorem dX10_enough_1 : decode cX10_enough 1 = .ok (.getfield 30, 3) := by decide +kernel
theorem dX10_enough_4 : decode cX10_enough 4 = .ok (.iload_n 1, 1) := by decide +kernel
theorem dX10_enough_5 : decode cX10_enough 5 = .ok (.invokevirtual 109, 3) := by decide +kernel
theorem dX10_enough_8 : decode cX10_enough 8 = .ok (.ifCond .eq 14, 3) := by decide +kernel
theorem dX10_enough_11 : decode cX10_enough 11 = .ok (.iload_n 2, 1) := by decide +kernel
theorem dX10_enough_12 : decode cX10_enough 12 = .ok (.iconst 1, 1) := by decide +kernel
theorem dX10_enough_13 : decode cX10_enough 13 = .ok (.if_icmp .lt 9, 3) := by decide +kernel
theorem dX10_enough_16 : decode cX10_enough 16 = .ok (.iload_n 2, 1) := by decide +kernel
theorem dX10_enough_17 : decode cX10_enough 17 = .ok (.bipush 99, 2) := by decide +kernel
theorem dX10_enough_19 : decode cX10_enough 19 = .ok (.if_icmp .le 10, 3) := by decide +kernel
theorem dX10_enough_22 : decode cX10_enough 22 = .ok (.aload_n 0, 1) := by decide +kernel
theorem dX10_enough_23 : decode cX10_enough 23 = .ok (.ldc 71, 2) := by decide +kernel
theorem dX10_enough_25 : decode cX10_enough 25 = .ok (.invokevirtual 72, 3) := by decide +kernel
theorem dX10_enough_28 : decode cX10_enough 28 = .ok (.ireturn, 1) := by decide +kernel
theorem dX10_enough_29 : decode cX10_enough 29 = .ok (.aload_n 0, 1) := by decide +kernel
theorem dX10_enough_30 : decode cX10_enough 30 = .ok (.iconst 3, 1) := by decide +kernel
theorem dX10_enough_31 : decode cX10_enough 31 = .ok (.iload_n 1, 1) := by decide +kernel
theorem dX10_enough_32 : decode cX10_enough 32 = .ok (.aload_n 0, 1) := by decide +kernel
theorem dX10_enough_33 : decode cX10_enough 33 = .ok (.getfield 30, 3) := by decide +kernel
theorem dX10_enough_36 : decode cX10_enough 36 = .ok (.iload_n 1, 1) := by decide +kernel
theorem dX10_enough_37 : decode cX10_enough 37 = .ok (.invokevirtual 86, 3) := by decide +kernel
theorem dX10_enough_40 : decode cX10_enough 40 = .ok (.getfield 121, 3) := by decide +kernel
theorem dX10_enough_43 : decode cX10_enough 43 = .ok (.iload_n 2, 1) := by decide +kernel
theorem dX10_enough_44 : decode cX10_enough 44 = .ok (.iadd, 1) := by decide +kernel
theorem dX10_enough_45 : decode cX10_enough 45 = .ok (.invokevirtual 182, 3) := by decide +kernel
theorem dX10_enough_48 : decode cX10_enough 48 = .ok (.ireturn, 1) := by decide +kernel
theorem dX10_doubt_0 : decode cX10_doubt 0 = .ok (.iload_n 1, 1) := by decide +kernel
theorem dX10_doubt_1 : decode cX10_doubt 1 = .ok (.iconst 1, 1) := by decide +kernel
theorem dX10_doubt_2 : decode cX10_doubt 2 = .ok (.if_icmp .lt 9, 3) := by decide +kernel
theorem dX10_doubt_5 : decode cX10_doubt 5 = .ok (.iload_n 1, 1) := by decide +kernel
theorem dX10_doubt_6 : decode cX10_doubt 6 = .ok (.bipush 60, 2) := by decide +kernel
theorem dX10_doubt_8 : decode cX10_doubt 8 = .ok (.if_icmp .le 10, 3) := by decide +kernel
theorem dX10_doubt_11 : decode cX10_doubt 11 = .ok (.aload_n 0, 1) := by decide +kernel
theorem dX10_doubt_12 : decode cX10_doubt 12 = .ok (.ldc 71, 2) := by decide +kernel
theorem dX10_doubt_14 : decode cX10_doubt 14 = .ok (.invokevirtual 72, 3) := by decide +kernel
theorem dX10_doubt_17 : decode cX10_doubt 17 = .ok (.ireturn, 1) := by decide +kernel
theorem dX10_doubt_18 : decode cX10_doubt 18 = .ok (.iconst 0, 1) := by decide +kernel
theorem dX10_doubt_19 : decode cX10_doubt 19 = .ok (.istore_n 2, 1) := by decide +kernel
theorem dX10_doubt_20 : decode cX10_doubt 20 = .ok (.iload_n 2, 1) := by decide +kernel
theorem dX10_doubt_21 : decode cX10_doubt 21 = .ok (.bipush 10, 2) := by decide +kernel
theorem dX10_doubt_23 : decode cX10_doubt 23 = .ok (.if_icmp .ge 21, 3) := by decide +kernel
theorem dX10_doubt_26 : decode cX10_doubt 26 = .ok (.aload_n 0, 1) := by decide +kernel
theorem dX10_doubt_27 : decode cX10_doubt 27 = .ok (.getfield 64, 3) := by decide +kernel
theorem dX10_doubt_30 : decode cX10_doubt 30 = .ok (.iload_n 2, 1) := by decide +kernel
theorem dX10_doubt_31 : decode cX10_doubt 31 = .ok (.aload_n 0, 1) := by decide +kernel
theorem dX10_doubt_32 : decode cX10_doubt 32 = .ok (.iload_n 2, 1) := by decide +kernel
theorem dX10_doubt_33 : decode cX10_doubt 33 = .ok (.iload_n 1, 1) := by decide +kernel
theorem dX10_doubt_34 : decode cX10_doubt 34 = .ok (.invokevirtual 205, 3) := by decide +kernel
theorem dX10_doubt_37 : decode cX10_doubt 37 = .ok (.iastore, 1) := by decide +kernel
theorem dX10_doubt_38 : decode cX10_doubt 38 = .ok (.iinc 2 1, 3) := by decide +kernel
theorem dX10_doubt_41 : decode cX10_doubt 41 = .ok (.goto (-21), 3) := by decide +kernel
theorem dX10_doubt_44 : decode cX10_doubt 44 = .ok (.aload_n 0, 1) := by decide +kernel
theorem dX10_doubt_45 : decode cX10_doubt 45 = .ok (.bipush 10, 2) := by decide +kernel
theorem dX10_doubt_47 : decode cX10_doubt 47 = .ok (.invokevirtual 192, 3) := by decide +kernel
theorem dX10_doubt_50 : decode cX10_doubt 50 = .ok (.ireturn, 1) := by decide +kernel
theorem dX10_wisest_0 : decode cX10_wisest 0 = .ok (.iload_n 1, 1) := by decide +kernel
theorem dX10_wisest_1 : decode cX10_wisest 1 = .ok (.ifCond .lt 10, 3) := by decide +kernel
theorem dX10_wisest_4 : decode cX10_wisest 4 = .ok (.iload_n 1, 1) := by decide +kernel
theorem dX10_wisest_5 : decode cX10_wisest 5 = .ok (.sipush 200, 3) := by decide +kernel
theorem dX10_wisest_8 : decode cX10_wisest 8 = .ok (.if_icmp .le 10, 3) := by decide +kernel
theorem dX10_wisest_11 : decode cX10_wisest 11 = .ok (.aload_n 0, 1) := by decide +kernel
theorem dX10_wisest_12 : decode cX10_wisest 12 = .ok (.ldc 71, 2) := by decide +kernel
theorem dX10_wisest_14 : decode cX10_wisest 14 = .ok (.invokevirtual 72, 3) := by decide +kernel
theorem dX10_wisest_17 : decode cX10_wisest 17 = .ok (.ireturn, 1) := by decide +kernel
theorem dX10_wisest_18 : decode cX10_wisest 18 = .ok (.aload_n 0, 1) := by decide +kernel
theorem dX10_wisest_19 : decode cX10_wisest 19 = .ok (.getfield 30, 3) := by decide +kernel
theorem dX10_wisest_22 : decode cX10_wisest 22 = .ok (.getfield 83, 3) := by decide +kernel
theorem dX10_wisest_25 : decode cX10_wisest 25 = .ok (.ifCond .ne 10, 3) := by decide +kernel
theorem dX10_wisest_28 : decode cX10_wisest 28 = .ok (.aload_n 0, 1) := by decide +kernel
theorem dX10_wisest_29 : decode cX10_wisest 29 = .ok (.ldc 195, 2) := by decide +kernel
theorem dX10_wisest_31 : decode cX10_wisest 31 = .ok (.invokevirtual 72, 3) := by decide +kernel
theorem dX10_wisest_34 : decode cX10_wisest 34 = .ok (.ireturn, 1) := by decide +kernel
theorem dX10_wisest_35 : decode cX10_wisest 35 = .ok (.aload_n 0, 1) := by decide +kernel
theorem dX10_wisest_36 : decode cX10_wisest 36 = .ok (.getfield 36, 3) := by decide +kernel
theorem dX10_wisest_39 : decode cX10_wisest 39 = .ok (.aload_n 0, 1) := by decide +kernel
theorem dX10_wisest_40 : decode cX10_wisest 40 = .ok (.getfield 30, 3) := by decide +kernel
theorem dX10_wisest_43 : decode cX10_wisest 43 = .ok (.invokevirtual 178, 3) := by decide +kernel
theorem dX10_wisest_46 : decode cX10_wisest 46 = .ok (.aload_n 0, 1) := by decide +kernel
theorem dX10_wisest_47 : decode cX10_wisest 47 = .ok (.getfield 36, 3) := by decide +kernel
theorem dX10_wisest_50 : decode cX10_wisest 50 = .ok (.iload_n 1, 1) := by decide +kernel
theorem dX10_wisest_51 : decode cX10_wisest 51 = .ok (.invokevirtual 159, 3) := by decide +kernel
theorem dX10_wisest_54 : decode cX10_wisest 54 = .ok (.iconst 0, 1) := by decide +kernel
theorem dX10_wisest_55 : decode cX10_wisest 55 = .ok (.istore_n 2, 1) := by decide +kernel
theorem dX10_wisest_56 : decode cX10_wisest 56 = .ok (.iload_n 2, 1) := by decide +kernel
theorem dX10_wisest_57 : decode cX10_wisest 57 = .ok (.aload_n 0, 1) := by decide +kernel
theorem dX10_wisest_58 : decode cX10_wisest 58 = .ok (.getfield 36, 3) := by decide +kernel
theorem dX10_wisest_61 : decode cX10_wisest 61 = .ok (.getfield 83, 3) := by decide +kernel
theorem dX10_wisest_64 : decode cX10_wisest 64 = .ok (.if_icmp .ge 29, 3) := by decide +kernel
theorem dX10_wisest_67 : decode cX10_wisest 67 = .ok (.aload_n 0, 1) := by decide +kernel
theorem dX10_wisest_68 : decode cX10_wisest 68 = .ok (.getfield 64, 3) := by decide +kernel
theorem dX10_wisest_71 : decode cX10_wisest 71 = .ok (.iload_n 2, 1) := by decide +kernel
theorem dX10_wisest_72 : decode cX10_wisest 72 = .ok (.aload_n 0, 1) := by decide +kernel
theorem dX10_wisest_73 : decode cX10_wisest 73 = .ok (.getfield 36, 3) := by decide +kernel
theorem dX10_wisest_76 : decode cX10_wisest 76 = .ok (.iload_n 2, 1) := by decide +kernel
theorem dX10_wisest_77 : decode cX10_wisest 77 = .ok (.invokevirtual 86, 3) := by decide +kernel
theorem dX10_wisest_80 : decode cX10_wisest 80 = .ok (.getfield 90, 3) := by decide +kernel
theorem dX10_wisest_83 : decode cX10_wisest 83 = .ok (.invokestatic 209, 3) := by decide +kernel
theorem dX10_wisest_86 : decode cX10_wisest 86 = .ok (.iastore, 1) := by decide +kernel
theorem dX10_wisest_87 : decode cX10_wisest 87 = .ok (.iinc 2 1, 3) := by decide +kernel
theorem dX10_wisest_90 : decode cX10_wisest 90 = .ok (.goto (-34), 3) := by decide +kernel
theorem dX10_wisest_93 : decode cX10_wisest 93 = .ok (.aload_n 0, 1) := by decide +kernel
theorem dX10_wisest_94 : decode cX10_wisest 94 = .ok (.aload_n 0, 1) := by decide +kernel
theorem dX10_wisest_95 : decode cX10_wisest 95 = .ok (.getfield 36, 3) := by decide +kernel
theorem dX10_wisest_98 : decode cX10_wisest 98 = .ok (.getfield 83, 3) := by decide +kernel
theorem dX10_wisest_101 : decode cX10_wisest 101 = .ok (.invokevirtual 192, 3) := by decide +kernel
theorem dX10_wisest_104 : decode cX10_wisest 104 = .ok (.ireturn, 1) := by decide +kernel
theorem dX10_feed_0 : decode cX10_feed 0 = .ok (.iload_n 2, 1) := by decide +kernel
theorem dX10_feed_1 : decode cX10_feed 1 = .ok (.iconst 1, 1) := by decide +kernel
theorem dX10_feed_2 : decode cX10_feed 2 = .ok (.if_icmp .lt 8, 3) := by decide +kernel
theorem dX10_feed_5 : decode cX10_feed 5 = .ok (.iload_n 2, 1) := by decide +kernel
theorem dX10_feed_6 : decode cX10_feed 6 = .ok (.iconst 4, 1) := by decide +kernel
theorem dX10_feed_7 : decode cX10_feed 7 = .ok (.if_icmp .le 10, 3) := by decide +kernel
theorem dX10_feed_10 : decode cX10_feed 10 = .ok (.aload_n 0, 1) := by decide +kernel
theorem dX10_feed_11 : decode cX10_feed 11 = .ok (.ldc 71, 2) := by decide +kernel
theorem dX10_feed_13 : decode cX10_feed 13 = .ok (.invokevirtual 72, 3) := by decide +kernel
theorem dX10_feed_16 : decode cX10_feed 16 = .ok (.ireturn, 1) := by decide +kernel
theorem dX10_feed_17 : decode cX10_feed 17 = .ok (.iload_n 2, 1) := by decide +kernel
theorem dX10_feed_18 : decode cX10_feed 18 = .ok (.bipush 120, 2) := by decide +kernel
theorem dX10_feed_20 : decode cX10_feed 20 = .ok (.aload_n 0, 1) := by decide +kernel
theorem dX10_feed_21 : decode cX10_feed 21 = .ok (.getfield 49, 3) := by decide +kernel
theorem dX10_feed_24 : decode cX10_feed 24 = .ok (.getfield 214, 3) := by decide +kernel
theorem dX10_feed_27 : decode cX10_feed 27 = .ok (.isub, 1) := by decide +kernel
theorem dX10_feed_28 : decode cX10_feed 28 = .ok (.if_icmp .le 10, 3) := by decide +kernel
theorem dX10_feed_31 : decode cX10_feed 31 = .ok (.aload_n 0, 1) := by decide +kernel
theorem dX10_feed_32 : decode cX10_feed 32 = .ok (.ldc 105, 2) := by decide +kernel
theorem dX10_feed_34 : decode cX10_feed 34 = .ok (.invokevirtual 72, 3) := by decide +kernel
theorem dX10_feed_37 : decode cX10_feed 37 = .ok (.ireturn, 1) := by decide +kernel
theorem dX10_feed_38 : decode cX10_feed 38 = .ok (.iload_n 2, 1) := by decide +kernel
theorem dX10_feed_39 : decode cX10_feed 39 = .ok (.iconst 1, 1) := by decide +kernel
theorem dX10_feed_40 : decode cX10_feed 40 = .ok (.isub, 1) := by decide +kernel
theorem dX10_feed_41 : decode cX10_feed 41 = .ok (.istore_n 3, 1) := by decide +kernel
theorem dX10_feed_42 : decode cX10_feed 42 = .ok (.iload_n 3, 1) := by decide +kernel
theorem dX10_feed_43 : decode cX10_feed 43 = .ok (.ifCond .lt 26, 3) := by decide +kernel
theorem dX10_feed_46 : decode cX10_feed 46 = .ok (.aload_n 0, 1) := by decide +kernel
theorem dX10_feed_47 : decode cX10_feed 47 = .ok (.getfield 49, 3) := by decide +kernel
theorem dX10_feed_50 : decode cX10_feed 50 = .ok (.iload_n 1, 1) := by decide +kernel
theorem dX10_feed_51 : decode cX10_feed 51 = .ok (.bipush 8, 2) := by decide +kernel
theorem dX10_feed_53 : decode cX10_feed 53 = .ok (.iload_n 3, 1) := by decide +kernel
theorem dX10_feed_54 : decode cX10_feed 54 = .ok (.imul, 1) := by decide +kernel
theorem dX10_feed_55 : decode cX10_feed 55 = .ok (.ishr, 1) := by decide +kernel
theorem dX10_feed_56 : decode cX10_feed 56 = .ok (.sipush 255, 3) := by decide +kernel
theorem dX10_feed_59 : decode cX10_feed 59 = .ok (.iand, 1) := by decide +kernel
theorem dX10_feed_60 : decode cX10_feed 60 = .ok (.invokevirtual 217, 3) := by decide +kernel
theorem dX10_feed_63 : decode cX10_feed 63 = .ok (.iinc 3 (-1), 3) := by decide +kernel
theorem dX10_feed_66 : decode cX10_feed 66 = .ok (.goto (-24), 3) := by decide +kernel
theorem dX10_feed_69 : decode cX10_feed 69 = .ok (.aload_n 0, 1) := by decide +kernel
theorem dX10_feed_70 : decode cX10_feed 70 = .ok (.getfield 49, 3) := by decide +kernel
theorem dX10_feed_73 : decode cX10_feed 73 = .ok (.getfield 214, 3) := by decide +kernel
theorem dX10_feed_76 : decode cX10_feed 76 = .ok (.ireturn, 1) := by decide +kernel
theorem dX10_wipe_0 : decode cX10_wipe 0 = .ok (.aload_n 0, 1) := by decide +kernel
theorem dX10_wipe_1 : decode cX10_wipe 1 = .ok (.getfield 49, 3) := by decide +kernel
theorem dX10_wipe_4 : decode cX10_wipe 4 = .ok (.getfield 214, 3) := by decide +kernel
theorem dX10_wipe_7 : decode cX10_wipe 7 = .ok (.istore_n 1, 1) := by decide +kernel
theorem dX10_wipe_8 : decode cX10_wipe 8 = .ok (.aload_n 0, 1) := by decide +kernel
theorem dX10_wipe_9 : decode cX10_wipe 9 = .ok (.getfield 49, 3) := by decide +kernel
theorem dX10_wipe_12 : decode cX10_wipe 12 = .ok (.iconst 0, 1) := by decide +kernel
theorem dX10_wipe_13 : decode cX10_wipe 13 = .ok (.putfield 214, 3) := by decide +kernel
theorem dX10_wipe_16 : decode cX10_wipe 16 = .ok (.iload_n 1, 1) := by decide +kernel
theorem dX10_wipe_17 : decode cX10_wipe 17 = .ok (.ireturn, 1) := by decide +kernel
theorem dX10_park_0 : decode cX10_park 0 = .ok (.aload_n 0, 1) := by decide +kernel
theorem dX10_park_1 : decode cX10_park 1 = .ok (.getfield 36, 3) := by decide +kernel
theorem dX10_park_4 : decode cX10_park 4 = .ok (.aload_n 0, 1) := by decide +kernel
theorem dX10_park_5 : decode cX10_park 5 = .ok (.getfield 30, 3) := by decide +kernel
theorem dX10_park_8 : decode cX10_park 8 = .ok (.invokevirtual 178, 3) := by decide +kernel
theorem dX10_park_11 : decode cX10_park 11 = .ok (.aload_n 0, 1) := by decide +kernel
theorem dX10_park_12 : decode cX10_park 12 = .ok (.getfield 49, 3) := by decide +kernel
theorem dX10_park_15 : decode cX10_park 15 = .ok (.aload_n 0, 1) := by decide +kernel
theorem dX10_park_16 : decode cX10_park 16 = .ok (.getfield 36, 3) := by decide +kernel
theorem dX10_park_19 : decode cX10_park 19 = .ok (.invokevirtual 220, 3) := by decide +kernel
theorem dX10_park_22 : decode cX10_park 22 = .ok (.istore_n 1, 1) := by decide +kernel
theorem dX10_park_23 : decode cX10_park 23 = .ok (.iload_n 1, 1) := by decide +kernel
theorem dX10_park_24 : decode cX10_park 24 = .ok (.ifCond .le 14, 3) := by decide +kernel
theorem dX10_park_27 : decode cX10_park 27 = .ok (.aload_n 0, 1) := by decide +kernel
theorem dX10_park_28 : decode cX10_park 28 = .ok (.getfield 30, 3) := by decide +kernel
theorem dX10_park_31 : decode cX10_park 31 = .ok (.aload_n 0, 1) := by decide +kernel
theorem dX10_park_32 : decode cX10_park 32 = .ok (.getfield 36, 3) := by decide +kernel
theorem dX10_park_35 : decode cX10_park 35 = .ok (.invokevirtual 178, 3) := by decide +kernel
theorem dX10_park_38 : decode cX10_park 38 = .ok (.aload_n 0, 1) := by decide +kernel
theorem dX10_park_39 : decode cX10_park 39 = .ok (.getfield 49, 3) := by decide +kernel
theorem dX10_park_42 : decode cX10_park 42 = .ok (.iconst 0, 1) := by decide +kernel
theorem dX10_park_43 : decode cX10_park 43 = .ok (.putfield 214, 3) := by decide +kernel
theorem dX10_park_46 : decode cX10_park 46 = .ok (.iload_n 1, 1) := by decide +kernel
theorem dX10_park_47 : decode cX10_park 47 = .ok (.ireturn, 1) := by decide +kernel
theorem dX10_sheet_0 : decode cX10_sheet 0 = .ok (.iload_n 1, 1) := by decide +kernel
theorem dX10_sheet_1 : decode cX10_sheet 1 = .ok (.invokestatic 224, 3) := by decide +kernel
theorem dX10_sheet_4 : decode cX10_sheet 4 = .ok (.ifCond .eq 25, 3) := by decide +kernel
theorem dX10_sheet_7 : decode cX10_sheet 7 = .ok (.iload_n 2, 1) := by decide +kernel
theorem dX10_sheet_8 : decode cX10_sheet 8 = .ok (.ifCond .eq 28, 3) := by decide +kernel
theorem dX10_sheet_11 : decode cX10_sheet 11 = .ok (.iload_n 2, 1) := by decide +kernel
theorem dX10_sheet_12 : decode cX10_sheet 12 = .ok (.bipush 8, 2) := by decide +kernel
theorem dX10_sheet_14 : decode cX10_sheet 14 = .ok (.if_icmp .eq 22, 3) := by decide +kernel
theorem dX10_sheet_17 : decode cX10_sheet 17 = .ok (.iload_n 2, 1) := by decide +kernel
theorem dX10_sheet_18 : decode cX10_sheet 18 = .ok (.bipush 16, 2) := by decide +kernel
theorem dX10_sheet_20 : decode cX10_sheet 20 = .ok (.if_icmp .eq 16, 3) := by decide +kernel
theorem dX10_sheet_23 : decode cX10_sheet 23 = .ok (.iload_n 2, 1) := by decide +kernel
theorem dX10_sheet_24 : decode cX10_sheet 24 = .ok (.bipush 64, 2) := by decide +kernel
theorem dX10_sheet_26 : decode cX10_sheet 26 = .ok (.if_icmp .eq 10, 3) := by decide +kernel
theorem dX10_sheet_29 : decode cX10_sheet 29 = .ok (.aload_n 0, 1) := by decide +kernel
theorem dX10_sheet_30 : decode cX10_sheet 30 = .ok (.ldc 71, 2) := by decide +kernel
theorem dX10_sheet_32 : decode cX10_sheet 32 = .ok (.invokevirtual 72, 3) := by decide +kernel
theorem dX10_sheet_35 : decode cX10_sheet 35 = .ok (.ireturn, 1) := by decide +kernel
theorem dX10_sheet_36 : decode cX10_sheet 36 = .ok (.iload_n 3, 1) := by decide +kernel
theorem dX10_sheet_37 : decode cX10_sheet 37 = .ok (.ifCond .ge 10, 3) := by decide +kernel
theorem dX10_sheet_40 : decode cX10_sheet 40 = .ok (.aload_n 0, 1) := by decide +kernel
theorem dX10_sheet_41 : decode cX10_sheet 41 = .ok (.ldc 227, 2) := by decide +kernel
theorem dX10_sheet_43 : decode cX10_sheet 43 = .ok (.invokevirtual 72, 3) := by decide +kernel
theorem dX10_sheet_46 : decode cX10_sheet 46 = .ok (.ireturn, 1) := by decide +kernel
theorem dX10_sheet_47 : decode cX10_sheet 47 = .ok (.iload_n 3, 1) := by decide +kernel
theorem dX10_sheet_48 : decode cX10_sheet 48 = .ok (.bipush 40, 2) := by decide +kernel
theorem dX10_sheet_50 : decode cX10_sheet 50 = .ok (.if_icmp .le 10, 3) := by decide +kernel
theorem dX10_sheet_53 : decode cX10_sheet 53 = .ok (.aload_n 0, 1) := by decide +kernel
theorem dX10_sheet_54 : decode cX10_sheet 54 = .ok (.ldc 71, 2) := by decide +kernel
theorem dX10_sheet_56 : decode cX10_sheet 56 = .ok (.invokevirtual 72, 3) := by decide +kernel
theorem dX10_sheet_59 : decode cX10_sheet 59 = .ok (.ireturn, 1) := by decide +kernel
theorem dX10_sheet_60 : decode cX10_sheet 60 = .ok (.iload_n 2, 1) := by decide +kernel
theorem dX10_sheet_61 : decode cX10_sheet 61 = .ok (.ifCond .ne 7, 3) := by decide +kernel
theorem dX10_sheet_64 : decode cX10_sheet 64 = .ok (.iconst 0, 1) := by decide +kernel
theorem dX10_sheet_65 : decode cX10_sheet 65 = .ok (.goto 4, 3) := by decide +kernel
theorem dX10_sheet_68 : decode cX10_sheet 68 = .ok (.iload_n 3, 1) := by decide +kernel
theorem dX10_sheet_69 : decode cX10_sheet 69 = .ok (.istore 4, 2) := by decide +kernel
theorem dX10_sheet_71 : decode cX10_sheet 71 = .ok (.aload_n 0, 1) := by decide +kernel
theorem dX10_sheet_72 : decode cX10_sheet 72 = .ok (.getfield 55, 3) := by decide +kernel
theorem dX10_sheet_75 : decode cX10_sheet 75 = .ok (.iload_n 1, 1) := by decide +kernel
theorem dX10_sheet_76 : decode cX10_sheet 76 = .ok (.aaload, 1) := by decide +kernel
theorem dX10_sheet_77 : decode cX10_sheet 77 = .ok (.iload_n 2, 1) := by decide +kernel
theorem dX10_sheet_78 : decode cX10_sheet 78 = .ok (.iload 4, 2) := by decide +kernel
theorem dX10_sheet_80 : decode cX10_sheet 80 = .ok (.invokevirtual 228, 3) := by decide +kernel
theorem dX10_sheet_83 : decode cX10_sheet 83 = .ok (.iload 4, 2) := by decide +kernel
theorem dX10_sheet_85 : decode cX10_sheet 85 = .ok (.ireturn, 1) := by decide +kernel
theorem dX10_write_0 : decode cX10_write 0 = .ok (.aload_n 0, 1) := by decide +kernel
theorem dX10_write_1 : decode cX10_write 1 = .ok (.iload_n 1, 1) := by decide +kernel
theorem dX10_write_2 : decode cX10_write 2 = .ok (.invokevirtual 232, 3) := by decide +kernel
theorem dX10_write_5 : decode cX10_write 5 = .ok (.istore 5, 2) := by decide +kernel
theorem dX10_write_7 : decode cX10_write 7 = .ok (.iload 5, 2) := by decide +kernel
theorem dX10_write_9 : decode cX10_write 9 = .ok (.ifCond .eq 11, 3) := by decide +kernel
theorem dX10_write_12 : decode cX10_write 12 = .ok (.aload_n 0, 1) := by decide +kernel
theorem dX10_write_13 : decode cX10_write 13 = .ok (.iload 5, 2) := by decide +kernel
theorem dX10_write_15 : decode cX10_write 15 = .ok (.invokevirtual 72, 3) := by decide +kernel
theorem dX10_write_18 : decode cX10_write 18 = .ok (.i2l, 1) := by decide +kernel
theorem dX10_write_19 : decode cX10_write 19 = .ok (.lreturn, 1) := by decide +kernel
theorem dX10_write_20 : decode cX10_write 20 = .ok (.iload_n 2, 1) := by decide +kernel
theorem dX10_write_21 : decode cX10_write 21 = .ok (.ifCond .lt 16, 3) := by decide +kernel
theorem dX10_write_24 : decode cX10_write 24 = .ok (.iload_n 2, 1) := by decide +kernel
theorem dX10_write_25 : decode cX10_write 25 = .ok (.aload_n 0, 1) := by decide +kernel
theorem dX10_write_26 : decode cX10_write 26 = .ok (.getfield 55, 3) := by decide +kernel
theorem dX10_write_29 : decode cX10_write 29 = .ok (.iload_n 1, 1) := by decide +kernel
theorem dX10_write_30 : decode cX10_write 30 = .ok (.aaload, 1) := by decide +kernel
theorem dX10_write_31 : decode cX10_write 31 = .ok (.getfield 235, 3) := by decide +kernel
theorem dX10_write_34 : decode cX10_write 34 = .ok (.if_icmp .lt 11, 3) := by decide +kernel
theorem dX10_write_37 : decode cX10_write 37 = .ok (.aload_n 0, 1) := by decide +kernel
theorem dX10_write_38 : decode cX10_write 38 = .ok (.ldc 71, 2) := by decide +kernel
theorem dX10_write_40 : decode cX10_write 40 = .ok (.invokevirtual 72, 3) := by decide +kernel
theorem dX10_write_43 : decode cX10_write 43 = .ok (.i2l, 1) := by decide +kernel
theorem dX10_write_44 : decode cX10_write 44 = .ok (.lreturn, 1) := by decide +kernel
theorem dX10_write_45 : decode cX10_write 45 = .ok (.aload_n 0, 1) := by decide +kernel
theorem dX10_write_46 : decode cX10_write 46 = .ok (.getfield 55, 3) := by decide +kernel
theorem dX10_write_49 : decode cX10_write 49 = .ok (.iload_n 1, 1) := by decide +kernel
theorem dX10_write_50 : decode cX10_write 50 = .ok (.aaload, 1) := by decide +kernel
theorem dX10_write_51 : decode cX10_write 51 = .ok (.iload_n 2, 1) := by decide +kernel
theorem dX10_write_52 : decode cX10_write 52 = .ok (.lload_n 3, 1) := by decide +kernel
theorem dX10_write_53 : decode cX10_write 53 = .ok (.invokevirtual 236, 3) := by decide +kernel
theorem dX10_write_56 : decode cX10_write 56 = .ok (.lreturn, 1) := by decide +kernel
theorem dX10_copy_0 : decode cX10_copy 0 = .ok (.iload_n 1, 1) := by decide +kernel
theorem dX10_copy_1 : decode cX10_copy 1 = .ok (.invokestatic 224, 3) := by decide +kernel
theorem dX10_copy_4 : decode cX10_copy 4 = .ok (.ifCond .eq 10, 3) := by decide +kernel
theorem dX10_copy_7 : decode cX10_copy 7 = .ok (.iload_n 3, 1) := by decide +kernel
theorem dX10_copy_8 : decode cX10_copy 8 = .ok (.invokestatic 224, 3) := by decide +kernel
theorem dX10_copy_11 : decode cX10_copy 11 = .ok (.ifCond .ne 10, 3) := by decide +kernel
theorem dX10_copy_14 : decode cX10_copy 14 = .ok (.aload_n 0, 1) := by decide +kernel
theorem dX10_copy_15 : decode cX10_copy 15 = .ok (.ldc 71, 2) := by decide +kernel
theorem dX10_copy_17 : decode cX10_copy 17 = .ok (.invokevirtual 72, 3) := by decide +kernel
theorem dX10_copy_20 : decode cX10_copy 20 = .ok (.ireturn, 1) := by decide +kernel
theorem dX10_copy_21 : decode cX10_copy 21 = .ok (.aload_n 0, 1) := by decide +kernel
theorem dX10_copy_22 : decode cX10_copy 22 = .ok (.getfield 55, 3) := by decide +kernel
theorem dX10_copy_25 : decode cX10_copy 25 = .ok (.iload_n 1, 1) := by decide +kernel
theorem dX10_copy_26 : decode cX10_copy 26 = .ok (.aaload, 1) := by decide +kernel
theorem dX10_copy_27 : decode cX10_copy 27 = .ok (.astore 6, 2) := by decide +kernel
theorem dX10_copy_29 : decode cX10_copy 29 = .ok (.aload_n 0, 1) := by decide +kernel
theorem dX10_copy_30 : decode cX10_copy 30 = .ok (.getfield 55, 3) := by decide +kernel
theorem dX10_copy_33 : decode cX10_copy 33 = .ok (.iload_n 3, 1) := by decide +kernel
theorem dX10_copy_34 : decode cX10_copy 34 = .ok (.aaload, 1) := by decide +kernel
theorem dX10_copy_35 : decode cX10_copy 35 = .ok (.astore 7, 2) := by decide +kernel
theorem dX10_copy_37 : decode cX10_copy 37 = .ok (.aload 6, 2) := by decide +kernel
theorem dX10_copy_39 : decode cX10_copy 39 = .ok (.invokevirtual 240, 3) := by decide +kernel
theorem dX10_copy_42 : decode cX10_copy 42 = .ok (.ifCond .ne 11, 3) := by decide +kernel
theorem dX10_copy_45 : decode cX10_copy 45 = .ok (.aload 7, 2) := by decide +kernel
theorem dX10_copy_47 : decode cX10_copy 47 = .ok (.invokevirtual 240, 3) := by decide +kernel
theorem dX10_copy_50 : decode cX10_copy 50 = .ok (.ifCond .eq 10, 3) := by decide +kernel
theorem dX10_copy_53 : decode cX10_copy 53 = .ok (.aload_n 0, 1) := by decide +kernel
theorem dX10_copy_54 : decode cX10_copy 54 = .ok (.ldc 243, 2) := by decide +kernel
theorem dX10_copy_56 : decode cX10_copy 56 = .ok (.invokevirtual 72, 3) := by decide +kernel
theorem dX10_copy_59 : decode cX10_copy 59 = .ok (.ireturn, 1) := by decide +kernel
theorem dX10_copy_60 : decode cX10_copy 60 = .ok (.aload 6, 2) := by decide +kernel
theorem dX10_copy_62 : decode cX10_copy 62 = .ok (.getfield 244, 3) := by decide +kernel
theorem dX10_copy_65 : decode cX10_copy 65 = .ok (.aload 7, 2) := by decide +kernel
theorem dX10_copy_67 : decode cX10_copy 67 = .ok (.getfield 244, 3) := by decide +kernel
theorem dX10_copy_70 : decode cX10_copy 70 = .ok (.if_icmp .eq 10, 3) := by decide +kernel
theorem dX10_copy_73 : decode cX10_copy 73 = .ok (.aload_n 0, 1) := by decide +kernel
theorem dX10_copy_74 : decode cX10_copy 74 = .ok (.ldc 143, 2) := by decide +kernel
theorem dX10_copy_76 : decode cX10_copy 76 = .ok (.invokevirtual 72, 3) := by decide +kernel
theorem dX10_copy_79 : decode cX10_copy 79 = .ok (.ireturn, 1) := by decide +kernel
theorem dX10_copy_80 : decode cX10_copy 80 = .ok (.aload 6, 2) := by decide +kernel
theorem dX10_copy_82 : decode cX10_copy 82 = .ok (.iload_n 2, 1) := by decide +kernel
theorem dX10_copy_83 : decode cX10_copy 83 = .ok (.iload 5, 2) := by decide +kernel
theorem dX10_copy_85 : decode cX10_copy 85 = .ok (.invokevirtual 247, 3) := by decide +kernel
theorem dX10_copy_88 : decode cX10_copy 88 = .ok (.ifCond .eq 15, 3) := by decide +kernel
theorem dX10_copy_91 : decode cX10_copy 91 = .ok (.aload 7, 2) := by decide +kernel
theorem dX10_copy_93 : decode cX10_copy 93 = .ok (.iload 4, 2) := by decide +kernel
theorem dX10_copy_95 : decode cX10_copy 95 = .ok (.iload 5, 2) := by decide +kernel
theorem dX10_copy_97 : decode cX10_copy 97 = .ok (.invokevirtual 247, 3) := by decide +kernel
theorem dX10_copy_100 : decode cX10_copy 100 = .ok (.ifCond .ne 10, 3) := by decide +kernel
theorem dX10_copy_103 : decode cX10_copy 103 = .ok (.aload_n 0, 1) := by decide +kernel
theorem dX10_copy_104 : decode cX10_copy 104 = .ok (.ldc 71, 2) := by decide +kernel
theorem dX10_copy_106 : decode cX10_copy 106 = .ok (.invokevirtual 72, 3) := by decide +kernel
theorem dX10_copy_109 : decode cX10_copy 109 = .ok (.ireturn, 1) := by decide +kernel
theorem dX10_copy_110 : decode cX10_copy 110 = .ok (.aload 6, 2) := by decide +kernel
theorem dX10_copy_112 : decode cX10_copy 112 = .ok (.getfield 250, 3) := by decide +kernel
theorem dX10_copy_115 : decode cX10_copy 115 = .ok (.iload_n 2, 1) := by decide +kernel
theorem dX10_copy_116 : decode cX10_copy 116 = .ok (.aload 7, 2) := by decide +kernel
theorem dX10_copy_118 : decode cX10_copy 118 = .ok (.getfield 250, 3) := by decide +kernel
theorem dX10_copy_121 : decode cX10_copy 121 = .ok (.iload 4, 2) := by decide +kernel
theorem dX10_copy_123 : decode cX10_copy 123 = .ok (.iload 5, 2) := by decide +kernel
theorem dX10_copy_125 : decode cX10_copy 125 = .ok (.invokestatic 254, 3) := by decide +kernel
theorem dX10_copy_128 : decode cX10_copy 128 = .ok (.iload 5, 2) := by decide +kernel
theorem dX10_copy_130 : decode cX10_copy 130 = .ok (.ireturn, 1) := by decide +kernel
theorem dX10_lays_0 : decode cX10_lays 0 = .ok (.aload_n 0, 1) := by decide +kernel
theorem dX10_lays_1 : decode cX10_lays 1 = .ok (.iload_n 1, 1) := by decide +kernel
theorem dX10_lays_2 : decode cX10_lays 2 = .ok (.invokevirtual 232, 3) := by decide +kernel
theorem dX10_lays_5 : decode cX10_lays 5 = .ok (.istore_n 2, 1) := by decide +kernel
theorem dX10_lays_6 : decode cX10_lays 6 = .ok (.iload_n 2, 1) := by decide +kernel
theorem dX10_lays_7 : decode cX10_lays 7 = .ok (.ifCond .eq 9, 3) := by decide +kernel
theorem dX10_lays_10 : decode cX10_lays 10 = .ok (.aload_n 0, 1) := by decide +kernel
theorem dX10_lays_11 : decode cX10_lays 11 = .ok (.iload_n 2, 1) := by decide +kernel
theorem dX10_lays_12 : decode cX10_lays 12 = .ok (.invokevirtual 72, 3) := by decide +kernel
theorem dX10_lays_15 : decode cX10_lays 15 = .ok (.ireturn, 1) := by decide +kernel
theorem dX10_lays_16 : decode cX10_lays 16 = .ok (.aload_n 0, 1) := by decide +kernel
theorem dX10_lays_17 : decode cX10_lays 17 = .ok (.getfield 55, 3) := by decide +kernel
theorem dX10_lays_20 : decode cX10_lays 20 = .ok (.iload_n 1, 1) := by decide +kernel
theorem dX10_lays_21 : decode cX10_lays 21 = .ok (.aaload, 1) := by decide +kernel
theorem dX10_lays_22 : decode cX10_lays 22 = .ok (.astore_n 3, 1) := by decide +kernel
theorem dX10_lays_23 : decode cX10_lays 23 = .ok (.iconst 0, 1) := by decide +kernel
theorem dX10_lays_24 : decode cX10_lays 24 = .ok (.istore 4, 2) := by decide +kernel
theorem dX10_lays_26 : decode cX10_lays 26 = .ok (.iconst 0, 1) := by decide +kernel
theorem dX10_lays_27 : decode cX10_lays 27 = .ok (.istore 5, 2) := by decide +kernel
theorem dX10_lays_29 : decode cX10_lays 29 = .ok (.iload 5, 2) := by decide +kernel
theorem dX10_lays_31 : decode cX10_lays 31 = .ok (.aload_n 3, 1) := by decide +kernel
theorem dX10_lays_32 : decode cX10_lays 32 = .ok (.getfield 235, 3) := by decide +kernel
theorem dX10_lays_35 : decode cX10_lays 35 = .ok (.if_icmp .ge 65, 3) := by decide +kernel
theorem dX10_lays_38 : decode cX10_lays 38 = .ok (.iload 5, 2) := by decide +kernel
theorem dX10_lays_40 : decode cX10_lays 40 = .ok (.aload_n 0, 1) := by decide +kernel
theorem dX10_lays_41 : decode cX10_lays 41 = .ok (.getfield 30, 3) := by decide +kernel
theorem dX10_lays_44 : decode cX10_lays 44 = .ok (.getfield 83, 3) := by decide +kernel
theorem dX10_lays_47 : decode cX10_lays 47 = .ok (.if_icmp .ge 53, 3) := by decide +kernel
theorem dX10_lays_50 : decode cX10_lays 50 = .ok (.aload_n 3, 1) := by decide +kernel
theorem dX10_lays_51 : decode cX10_lays 51 = .ok (.getfield 250, 3) := by decide +kernel
theorem dX10_lays_54 : decode cX10_lays 54 = .ok (.iload 5, 2) := by decide +kernel
theorem dX10_lays_56 : decode cX10_lays 56 = .ok (.laload, 1) := by decide +kernel
theorem dX10_lays_57 : decode cX10_lays 57 = .ok (.lstore 6, 2) := by decide +kernel
theorem dX10_lays_59 : decode cX10_lays 59 = .ok (.lload 6, 2) := by decide +kernel
theorem dX10_lays_61 : decode cX10_lays 61 = .ok (.lconst 0, 1) := by decide +kernel
theorem dX10_lays_62 : decode cX10_lays 62 = .ok (.lcmp, 1) := by decide +kernel
theorem dX10_lays_63 : decode cX10_lays 63 = .ok (.ifCond .lt 31, 3) := by decide +kernel
theorem dX10_lays_66 : decode cX10_lays 66 = .ok (.lload 6, 2) := by decide +kernel
theorem dX10_lays_68 : decode cX10_lays 68 = .ok (.ldc2_w 260, 3) := by decide +kernel
theorem dX10_lays_71 : decode cX10_lays 71 = .ok (.lcmp, 1) := by decide +kernel
theorem dX10_lays_72 : decode cX10_lays 72 = .ok (.ifCond .gt 22, 3) := by decide +kernel
theorem dX10_lays_75 : decode cX10_lays 75 = .ok (.aload_n 0, 1) := by decide +kernel
theorem dX10_lays_76 : decode cX10_lays 76 = .ok (.getfield 30, 3) := by decide +kernel
theorem dX10_lays_79 : decode cX10_lays 79 = .ok (.iload 5, 2) := by decide +kernel
theorem dX10_lays_81 : decode cX10_lays 81 = .ok (.invokevirtual 86, 3) := by decide +kernel
theorem dX10_lays_84 : decode cX10_lays 84 = .ok (.lload 6, 2) := by decide +kernel
theorem dX10_lays_86 : decode cX10_lays 86 = .ok (.l2i, 1) := by decide +kernel
theorem dX10_lays_87 : decode cX10_lays 87 = .ok (.invokevirtual 130, 3) := by decide +kernel
theorem dX10_lays_90 : decode cX10_lays 90 = .ok (.pop, 1) := by decide +kernel
theorem dX10_lays_91 : decode cX10_lays 91 = .ok (.iinc 4 1, 3) := by decide +kernel
theorem dX10_lays_94 : decode cX10_lays 94 = .ok (.iinc 5 1, 3) := by decide +kernel
theorem dX10_lays_97 : decode cX10_lays 97 = .ok (.goto (-68), 3) := by decide +kernel
theorem dX10_lays_100 : decode cX10_lays 100 = .ok (.iload 4, 2) := by decide +kernel
theorem dX10_lays_102 : decode cX10_lays 102 = .ok (.ireturn, 1) := by decide +kernel
theorem dX10_book_0 : decode cX10_book 0 = .ok (.aload_n 0, 1) := by decide +kernel
theorem dX10_book_1 : decode cX10_book 1 = .ok (.iload_n 1, 1) := by decide +kernel
theorem dX10_book_2 : decode cX10_book 2 = .ok (.invokevirtual 232, 3) := by decide +kernel
theorem dX10_book_5 : decode cX10_book 5 = .ok (.istore_n 3, 1) := by decide +kernel
theorem dX10_book_6 : decode cX10_book 6 = .ok (.iload_n 3, 1) := by decide +kernel
theorem dX10_book_7 : decode cX10_book 7 = .ok (.ifCond .eq 9, 3) := by decide +kernel
theorem dX10_book_10 : decode cX10_book 10 = .ok (.aload_n 0, 1) := by decide +kernel
theorem dX10_book_11 : decode cX10_book 11 = .ok (.iload_n 3, 1) := by decide +kernel
theorem dX10_book_12 : decode cX10_book 12 = .ok (.invokevirtual 72, 3) := by decide +kernel
theorem dX10_book_15 : decode cX10_book 15 = .ok (.ireturn, 1) := by decide +kernel
theorem dX10_book_16 : decode cX10_book 16 = .ok (.aload_n 0, 1) := by decide +kernel
theorem dX10_book_17 : decode cX10_book 17 = .ok (.getfield 30, 3) := by decide +kernel
theorem dX10_book_20 : decode cX10_book 20 = .ok (.iload_n 2, 1) := by decide +kernel
theorem dX10_book_21 : decode cX10_book 21 = .ok (.invokevirtual 109, 3) := by decide +kernel
theorem dX10_book_24 : decode cX10_book 24 = .ok (.ifCond .ne 10, 3) := by decide +kernel
theorem dX10_book_27 : decode cX10_book 27 = .ok (.aload_n 0, 1) := by decide +kernel
theorem dX10_book_28 : decode cX10_book 28 = .ok (.ldc 71, 2) := by decide +kernel
theorem dX10_book_30 : decode cX10_book 30 = .ok (.invokevirtual 72, 3) := by decide +kernel
theorem dX10_book_33 : decode cX10_book 33 = .ok (.ireturn, 1) := by decide +kernel
theorem dX10_book_34 : decode cX10_book 34 = .ok (.aload_n 0, 1) := by decide +kernel
end
section
theorem dX10_book_35 : decode cX10_book 35 = .ok (.getfield 55, 3) := by decide +kernel
theorem dX10_book_38 : decode cX10_book 38 = .ok (.iload_n 1, 1) := by decide +kernel
theorem dX10_book_39 : decode cX10_book 39 = .ok (.aaload, 1) := by decide +kernel
theorem dX10_book_40 : decode cX10_book 40 = .ok (.astore 4, 2) := by decide +kernel
theorem dX10_book_42 : decode cX10_book 42 = .ok (.aload_n 0, 1) := by decide +kernel
theorem dX10_book_43 : decode cX10_book 43 = .ok (.getfield 36, 3) := by decide +kernel
theorem dX10_book_46 : decode cX10_book 46 = .ok (.aload_n 0, 1) := by decide +kernel
theorem dX10_book_47 : decode cX10_book 47 = .ok (.getfield 30, 3) := by decide +kernel
theorem dX10_book_50 : decode cX10_book 50 = .ok (.invokevirtual 178, 3) := by decide +kernel
theorem dX10_book_53 : decode cX10_book 53 = .ok (.iconst 0, 1) := by decide +kernel
theorem dX10_book_54 : decode cX10_book 54 = .ok (.istore 5, 2) := by decide +kernel
theorem dX10_book_56 : decode cX10_book 56 = .ok (.iload 5, 2) := by decide +kernel
theorem dX10_book_58 : decode cX10_book 58 = .ok (.aload 4, 2) := by decide +kernel
theorem dX10_book_60 : decode cX10_book 60 = .ok (.getfield 235, 3) := by decide +kernel
theorem dX10_book_63 : decode cX10_book 63 = .ok (.if_icmp .ge 37, 3) := by decide +kernel
theorem dX10_book_66 : decode cX10_book 66 = .ok (.aload 4, 2) := by decide +kernel
theorem dX10_book_68 : decode cX10_book 68 = .ok (.iload 5, 2) := by decide +kernel
theorem dX10_book_70 : decode cX10_book 70 = .ok (.aload_n 0, 1) := by decide +kernel
theorem dX10_book_71 : decode cX10_book 71 = .ok (.getfield 36, 3) := by decide +kernel
theorem dX10_book_74 : decode cX10_book 74 = .ok (.iload_n 2, 1) := by decide +kernel
theorem dX10_book_75 : decode cX10_book 75 = .ok (.invokevirtual 86, 3) := by decide +kernel
theorem dX10_book_78 : decode cX10_book 78 = .ok (.getfield 90, 3) := by decide +kernel
theorem dX10_book_81 : decode cX10_book 81 = .ok (.i2l, 1) := by decide +kernel
theorem dX10_book_82 : decode cX10_book 82 = .ok (.invokevirtual 236, 3) := by decide +kernel
theorem dX10_book_85 : decode cX10_book 85 = .ok (.pop2, 1) := by decide +kernel
theorem dX10_book_86 : decode cX10_book 86 = .ok (.aload_n 0, 1) := by decide +kernel
theorem dX10_book_87 : decode cX10_book 87 = .ok (.getfield 36, 3) := by decide +kernel
theorem dX10_book_90 : decode cX10_book 90 = .ok (.iconst 1, 1) := by decide +kernel
theorem dX10_book_91 : decode cX10_book 91 = .ok (.invokevirtual 159, 3) := by decide +kernel
theorem dX10_book_94 : decode cX10_book 94 = .ok (.iinc 5 1, 3) := by decide +kernel
theorem dX10_book_97 : decode cX10_book 97 = .ok (.goto (-41), 3) := by decide +kernel
theorem dX10_book_100 : decode cX10_book 100 = .ok (.aload 4, 2) := by decide +kernel
theorem dX10_book_102 : decode cX10_book 102 = .ok (.getfield 235, 3) := by decide +kernel
theorem dX10_book_105 : decode cX10_book 105 = .ok (.ireturn, 1) := by decide +kernel
theorem dX10_read_0 : decode cX10_read 0 = .ok (.aload_n 0, 1) := by decide +kernel
theorem dX10_read_1 : decode cX10_read 1 = .ok (.iload_n 1, 1) := by decide +kernel
theorem dX10_read_2 : decode cX10_read 2 = .ok (.invokevirtual 232, 3) := by decide +kernel
theorem dX10_read_5 : decode cX10_read 5 = .ok (.istore 4, 2) := by decide +kernel
theorem dX10_read_7 : decode cX10_read 7 = .ok (.iload 4, 2) := by decide +kernel
theorem dX10_read_9 : decode cX10_read 9 = .ok (.ifCond .eq 10, 3) := by decide +kernel
theorem dX10_read_12 : decode cX10_read 12 = .ok (.aload_n 0, 1) := by decide +kernel
theorem dX10_read_13 : decode cX10_read 13 = .ok (.iload 4, 2) := by decide +kernel
theorem dX10_read_15 : decode cX10_read 15 = .ok (.invokevirtual 72, 3) := by decide +kernel
theorem dX10_read_18 : decode cX10_read 18 = .ok (.ireturn, 1) := by decide +kernel
theorem dX10_read_19 : decode cX10_read 19 = .ok (.aload_n 0, 1) := by decide +kernel
theorem dX10_read_20 : decode cX10_read 20 = .ok (.iload_n 2, 1) := by decide +kernel
theorem dX10_read_21 : decode cX10_read 21 = .ok (.iload_n 3, 1) := by decide +kernel
theorem dX10_read_22 : decode cX10_read 22 = .ok (.invokevirtual 186, 3) := by decide +kernel
theorem dX10_read_25 : decode cX10_read 25 = .ok (.ifCond .ne 10, 3) := by decide +kernel
theorem dX10_read_28 : decode cX10_read 28 = .ok (.aload_n 0, 1) := by decide +kernel
theorem dX10_read_29 : decode cX10_read 29 = .ok (.ldc 71, 2) := by decide +kernel
theorem dX10_read_31 : decode cX10_read 31 = .ok (.invokevirtual 72, 3) := by decide +kernel
theorem dX10_read_34 : decode cX10_read 34 = .ok (.ireturn, 1) := by decide +kernel
theorem dX10_read_35 : decode cX10_read 35 = .ok (.iconst 0, 1) := by decide +kernel
theorem dX10_read_36 : decode cX10_read 36 = .ok (.istore 5, 2) := by decide +kernel
theorem dX10_read_38 : decode cX10_read 38 = .ok (.iconst 0, 1) := by decide +kernel
theorem dX10_read_39 : decode cX10_read 39 = .ok (.istore 6, 2) := by decide +kernel
theorem dX10_read_41 : decode cX10_read 41 = .ok (.iload 6, 2) := by decide +kernel
theorem dX10_read_43 : decode cX10_read 43 = .ok (.bipush 36, 2) := by decide +kernel
theorem dX10_read_45 : decode cX10_read 45 = .ok (.if_icmp .ge 69, 3) := by decide +kernel
theorem dX10_read_48 : decode cX10_read 48 = .ok (.aload_n 0, 1) := by decide +kernel
theorem dX10_read_49 : decode cX10_read 49 = .ok (.getfield 36, 3) := by decide +kernel
theorem dX10_read_52 : decode cX10_read 52 = .ok (.aload_n 0, 1) := by decide +kernel
theorem dX10_read_53 : decode cX10_read 53 = .ok (.getfield 30, 3) := by decide +kernel
theorem dX10_read_56 : decode cX10_read 56 = .ok (.invokevirtual 178, 3) := by decide +kernel
theorem dX10_read_59 : decode cX10_read 59 = .ok (.aload_n 0, 1) := by decide +kernel
theorem dX10_read_60 : decode cX10_read 60 = .ok (.getfield 36, 3) := by decide +kernel
theorem dX10_read_63 : decode cX10_read 63 = .ok (.iload_n 2, 1) := by decide +kernel
theorem dX10_read_64 : decode cX10_read 64 = .ok (.invokevirtual 86, 3) := by decide +kernel
theorem dX10_read_67 : decode cX10_read 67 = .ok (.iload 6, 2) := by decide +kernel
theorem dX10_read_69 : decode cX10_read 69 = .ok (.bipush 6, 2) := by decide +kernel
theorem dX10_read_71 : decode cX10_read 71 = .ok (.idiv, 1) := by decide +kernel
theorem dX10_read_72 : decode cX10_read 72 = .ok (.putfield 112, 3) := by decide +kernel
theorem dX10_read_75 : decode cX10_read 75 = .ok (.aload_n 0, 1) := by decide +kernel
theorem dX10_read_76 : decode cX10_read 76 = .ok (.getfield 36, 3) := by decide +kernel
theorem dX10_read_79 : decode cX10_read 79 = .ok (.iload_n 3, 1) := by decide +kernel
theorem dX10_read_80 : decode cX10_read 80 = .ok (.invokevirtual 86, 3) := by decide +kernel
theorem dX10_read_83 : decode cX10_read 83 = .ok (.iload 6, 2) := by decide +kernel
theorem dX10_read_85 : decode cX10_read 85 = .ok (.bipush 6, 2) := by decide +kernel
theorem dX10_read_87 : decode cX10_read 87 = .ok (.irem, 1) := by decide +kernel
theorem dX10_read_88 : decode cX10_read 88 = .ok (.putfield 112, 3) := by decide +kernel
theorem dX10_read_91 : decode cX10_read 91 = .ok (.aload_n 0, 1) := by decide +kernel
theorem dX10_read_92 : decode cX10_read 92 = .ok (.aload_n 0, 1) := by decide +kernel
theorem dX10_read_93 : decode cX10_read 93 = .ok (.getfield 55, 3) := by decide +kernel
theorem dX10_read_96 : decode cX10_read 96 = .ok (.iload_n 1, 1) := by decide +kernel
theorem dX10_read_97 : decode cX10_read 97 = .ok (.aaload, 1) := by decide +kernel
theorem dX10_read_98 : decode cX10_read 98 = .ok (.iload_n 2, 1) := by decide +kernel
theorem dX10_read_99 : decode cX10_read 99 = .ok (.invokevirtual 262, 3) := by decide +kernel
theorem dX10_read_102 : decode cX10_read 102 = .ok (.ifCond .eq 6, 3) := by decide +kernel
theorem dX10_read_105 : decode cX10_read 105 = .ok (.iinc 5 1, 3) := by decide +kernel
theorem dX10_read_108 : decode cX10_read 108 = .ok (.iinc 6 1, 3) := by decide +kernel
theorem dX10_read_111 : decode cX10_read 111 = .ok (.goto (-70), 3) := by decide +kernel
theorem dX10_read_114 : decode cX10_read 114 = .ok (.iload 5, 2) := by decide +kernel
theorem dX10_read_116 : decode cX10_read 116 = .ok (.ireturn, 1) := by decide +kernel
theorem dX10_image_0 : decode cX10_image 0 = .ok (.aload_n 0, 1) := by decide +kernel
theorem dX10_image_1 : decode cX10_image 1 = .ok (.getfield 39, 3) := by decide +kernel
theorem dX10_image_4 : decode cX10_image 4 = .ok (.aload_n 0, 1) := by decide +kernel
theorem dX10_image_5 : decode cX10_image 5 = .ok (.getfield 30, 3) := by decide +kernel
theorem dX10_image_8 : decode cX10_image 8 = .ok (.invokevirtual 178, 3) := by decide +kernel
theorem dX10_image_11 : decode cX10_image 11 = .ok (.aload_n 0, 1) := by decide +kernel
theorem dX10_image_12 : decode cX10_image 12 = .ok (.iconst 1, 1) := by decide +kernel
theorem dX10_image_13 : decode cX10_image 13 = .ok (.putfield 42, 3) := by decide +kernel
theorem dX10_image_16 : decode cX10_image 16 = .ok (.iconst 1, 1) := by decide +kernel
theorem dX10_image_17 : decode cX10_image 17 = .ok (.ireturn, 1) := by decide +kernel
theorem dX10_undo_0 : decode cX10_undo 0 = .ok (.aload_n 0, 1) := by decide +kernel
theorem dX10_undo_1 : decode cX10_undo 1 = .ok (.getfield 42, 3) := by decide +kernel
theorem dX10_undo_4 : decode cX10_undo 4 = .ok (.ifCond .ne 10, 3) := by decide +kernel
theorem dX10_undo_7 : decode cX10_undo 7 = .ok (.aload_n 0, 1) := by decide +kernel
theorem dX10_undo_8 : decode cX10_undo 8 = .ok (.ldc 195, 2) := by decide +kernel
theorem dX10_undo_10 : decode cX10_undo 10 = .ok (.invokevirtual 72, 3) := by decide +kernel
theorem dX10_undo_13 : decode cX10_undo 13 = .ok (.ireturn, 1) := by decide +kernel
theorem dX10_undo_14 : decode cX10_undo 14 = .ok (.aload_n 0, 1) := by decide +kernel
theorem dX10_undo_15 : decode cX10_undo 15 = .ok (.getfield 30, 3) := by decide +kernel
theorem dX10_undo_18 : decode cX10_undo 18 = .ok (.aload_n 0, 1) := by decide +kernel
theorem dX10_undo_19 : decode cX10_undo 19 = .ok (.getfield 39, 3) := by decide +kernel
theorem dX10_undo_22 : decode cX10_undo 22 = .ok (.invokevirtual 178, 3) := by decide +kernel
theorem dX10_undo_25 : decode cX10_undo 25 = .ok (.aload_n 0, 1) := by decide +kernel
theorem dX10_undo_26 : decode cX10_undo 26 = .ok (.getfield 30, 3) := by decide +kernel
theorem dX10_undo_29 : decode cX10_undo 29 = .ok (.getfield 83, 3) := by decide +kernel
theorem dX10_undo_32 : decode cX10_undo 32 = .ok (.ireturn, 1) := by decide +kernel
theorem dX10_tear_0 : decode cX10_tear 0 = .ok (.aload_n 0, 1) := by decide +kernel
theorem dX10_tear_1 : decode cX10_tear 1 = .ok (.getfield 42, 3) := by decide +kernel
theorem dX10_tear_4 : decode cX10_tear 4 = .ok (.ifCond .eq 7, 3) := by decide +kernel
theorem dX10_tear_7 : decode cX10_tear 7 = .ok (.iconst 1, 1) := by decide +kernel
theorem dX10_tear_8 : decode cX10_tear 8 = .ok (.goto 4, 3) := by decide +kernel
theorem dX10_tear_11 : decode cX10_tear 11 = .ok (.iconst 0, 1) := by decide +kernel
theorem dX10_tear_12 : decode cX10_tear 12 = .ok (.istore_n 1, 1) := by decide +kernel
theorem dX10_tear_13 : decode cX10_tear 13 = .ok (.aload_n 0, 1) := by decide +kernel
theorem dX10_tear_14 : decode cX10_tear 14 = .ok (.iconst 0, 1) := by decide +kernel
theorem dX10_tear_15 : decode cX10_tear 15 = .ok (.putfield 42, 3) := by decide +kernel
theorem dX10_tear_18 : decode cX10_tear 18 = .ok (.iload_n 1, 1) := by decide +kernel
theorem dX10_tear_19 : decode cX10_tear 19 = .ok (.ireturn, 1) := by decide +kernel
theorem dX10_count_0 : decode cX10_count 0 = .ok (.iload_n 1, 1) := by decide +kernel
theorem dX10_count_1 : decode cX10_count 1 = .ok (.tableswitch 63 0 3 #[31, 39, 47, 55], 31) := by decide +kernel
theorem dX10_count_32 : decode cX10_count 32 = .ok (.aload_n 0, 1) := by decide +kernel
theorem dX10_count_33 : decode cX10_count 33 = .ok (.getfield 30, 3) := by decide +kernel
theorem dX10_count_36 : decode cX10_count 36 = .ok (.getfield 83, 3) := by decide +kernel
theorem dX10_count_39 : decode cX10_count 39 = .ok (.ireturn, 1) := by decide +kernel
theorem dX10_count_40 : decode cX10_count 40 = .ok (.aload_n 0, 1) := by decide +kernel
theorem dX10_count_41 : decode cX10_count 41 = .ok (.getfield 49, 3) := by decide +kernel
theorem dX10_count_44 : decode cX10_count 44 = .ok (.getfield 214, 3) := by decide +kernel
theorem dX10_count_47 : decode cX10_count 47 = .ok (.ireturn, 1) := by decide +kernel
theorem dX10_count_48 : decode cX10_count 48 = .ok (.aload_n 0, 1) := by decide +kernel
theorem dX10_count_49 : decode cX10_count 49 = .ok (.getfield 30, 3) := by decide +kernel
theorem dX10_count_52 : decode cX10_count 52 = .ok (.invokevirtual 162, 3) := by decide +kernel
theorem dX10_count_55 : decode cX10_count 55 = .ok (.ireturn, 1) := by decide +kernel
theorem dX10_count_56 : decode cX10_count 56 = .ok (.aload_n 0, 1) := by decide +kernel
theorem dX10_count_57 : decode cX10_count 57 = .ok (.getfield 30, 3) := by decide +kernel
theorem dX10_count_60 : decode cX10_count 60 = .ok (.invokevirtual 266, 3) := by decide +kernel
theorem dX10_count_63 : decode cX10_count 63 = .ok (.ireturn, 1) := by decide +kernel
theorem dX10_count_64 : decode cX10_count 64 = .ok (.aload_n 0, 1) := by decide +kernel
theorem dX10_count_65 : decode cX10_count 65 = .ok (.ldc 71, 2) := by decide +kernel
theorem dX10_count_67 : decode cX10_count 67 = .ok (.invokevirtual 72, 3) := by decide +kernel
theorem dX10_count_70 : decode cX10_count 70 = .ok (.ireturn, 1) := by decide +kernel
theorem dX10_status_0 : decode cX10_status 0 = .ok (.iload_n 1, 1) := by decide +kernel
theorem dX10_status_1 : decode cX10_status 1 = .ok (.iconst (-1), 1) := by decide +kernel
theorem dX10_status_2 : decode cX10_status 2 = .ok (.if_icmp .lt 9, 3) := by decide +kernel
theorem dX10_status_5 : decode cX10_status 5 = .ok (.iload_n 1, 1) := by decide +kernel
theorem dX10_status_6 : decode cX10_status 6 = .ok (.bipush 7, 2) := by decide +kernel
theorem dX10_status_8 : decode cX10_status 8 = .ok (.if_icmp .lt 10, 3) := by decide +kernel
theorem dX10_status_11 : decode cX10_status 11 = .ok (.aload_n 0, 1) := by decide +kernel
theorem dX10_status_12 : decode cX10_status 12 = .ok (.ldc 71, 2) := by decide +kernel
theorem dX10_status_14 : decode cX10_status 14 = .ok (.invokevirtual 72, 3) := by decide +kernel
theorem dX10_status_17 : decode cX10_status 17 = .ok (.ireturn, 1) := by decide +kernel
theorem dX10_status_18 : decode cX10_status 18 = .ok (.iload_n 1, 1) := by decide +kernel
theorem dX10_status_19 : decode cX10_status 19 = .ok (.ifCond .lt 10, 3) := by decide +kernel
theorem dX10_status_22 : decode cX10_status 22 = .ok (.aload_n 0, 1) := by decide +kernel
theorem dX10_status_23 : decode cX10_status 23 = .ok (.getfield 60, 3) := by decide +kernel
theorem dX10_status_26 : decode cX10_status 26 = .ok (.iload_n 1, 1) := by decide +kernel
theorem dX10_status_27 : decode cX10_status 27 = .ok (.iaload, 1) := by decide +kernel
theorem dX10_status_28 : decode cX10_status 28 = .ok (.ireturn, 1) := by decide +kernel
theorem dX10_status_29 : decode cX10_status 29 = .ok (.iconst 0, 1) := by decide +kernel
theorem dX10_status_30 : decode cX10_status 30 = .ok (.istore_n 2, 1) := by decide +kernel
theorem dX10_status_31 : decode cX10_status 31 = .ok (.iconst 0, 1) := by decide +kernel
theorem dX10_status_32 : decode cX10_status 32 = .ok (.istore_n 3, 1) := by decide +kernel
theorem dX10_status_33 : decode cX10_status 33 = .ok (.iload_n 3, 1) := by decide +kernel
theorem dX10_status_34 : decode cX10_status 34 = .ok (.bipush 7, 2) := by decide +kernel
theorem dX10_status_36 : decode cX10_status 36 = .ok (.if_icmp .ge 18, 3) := by decide +kernel
theorem dX10_status_39 : decode cX10_status 39 = .ok (.iload_n 2, 1) := by decide +kernel
theorem dX10_status_40 : decode cX10_status 40 = .ok (.aload_n 0, 1) := by decide +kernel
theorem dX10_status_41 : decode cX10_status 41 = .ok (.getfield 60, 3) := by decide +kernel
theorem dX10_status_44 : decode cX10_status 44 = .ok (.iload_n 3, 1) := by decide +kernel
theorem dX10_status_45 : decode cX10_status 45 = .ok (.iaload, 1) := by decide +kernel
theorem dX10_status_46 : decode cX10_status 46 = .ok (.iadd, 1) := by decide +kernel
theorem dX10_status_47 : decode cX10_status 47 = .ok (.istore_n 2, 1) := by decide +kernel
theorem dX10_status_48 : decode cX10_status 48 = .ok (.iinc 3 1, 3) := by decide +kernel
theorem dX10_status_51 : decode cX10_status 51 = .ok (.goto (-18), 3) := by decide +kernel
theorem dX10_status_54 : decode cX10_status 54 = .ok (.iload_n 2, 1) := by decide +kernel
theorem dX10_status_55 : decode cX10_status 55 = .ok (.ireturn, 1) := by decide +kernel
theorem dX10_finding_0 : decode cX10_finding 0 = .ok (.ldc 71, 2) := by decide +kernel
theorem dX10_finding_2 : decode cX10_finding 2 = .ok (.iload_n 1, 1) := by decide +kernel
theorem dX10_finding_3 : decode cX10_finding 3 = .ok (.isub, 1) := by decide +kernel
theorem dX10_finding_4 : decode cX10_finding 4 = .ok (.istore_n 2, 1) := by decide +kernel
theorem dX10_finding_5 : decode cX10_finding 5 = .ok (.iload_n 2, 1) := by decide +kernel
theorem dX10_finding_6 : decode cX10_finding 6 = .ok (.ifCond .lt 19, 3) := by decide +kernel
theorem dX10_finding_9 : decode cX10_finding 9 = .ok (.iload_n 2, 1) := by decide +kernel
theorem dX10_finding_10 : decode cX10_finding 10 = .ok (.bipush 7, 2) := by decide +kernel
theorem dX10_finding_12 : decode cX10_finding 12 = .ok (.if_icmp .ge 13, 3) := by decide +kernel
theorem dX10_finding_15 : decode cX10_finding 15 = .ok (.aload_n 0, 1) := by decide +kernel
theorem dX10_finding_16 : decode cX10_finding 16 = .ok (.getfield 60, 3) := by decide +kernel
theorem dX10_finding_19 : decode cX10_finding 19 = .ok (.iload_n 2, 1) := by decide +kernel
theorem dX10_finding_20 : decode cX10_finding 20 = .ok (.dup2, 1) := by decide +kernel
theorem dX10_finding_21 : decode cX10_finding 21 = .ok (.iaload, 1) := by decide +kernel
theorem dX10_finding_22 : decode cX10_finding 22 = .ok (.iconst 1, 1) := by decide +kernel
theorem dX10_finding_23 : decode cX10_finding 23 = .ok (.iadd, 1) := by decide +kernel
theorem dX10_finding_24 : decode cX10_finding 24 = .ok (.iastore, 1) := by decide +kernel
theorem dX10_finding_25 : decode cX10_finding 25 = .ok (.iload_n 1, 1) := by decide +kernel
theorem dX10_finding_26 : decode cX10_finding 26 = .ok (.ireturn, 1) := by decide +kernel
theorem dX10_faultOfSheet_0 : decode cX10_faultOfSheet 0 = .ok (.iload_n 1, 1) := by decide +kernel
theorem dX10_faultOfSheet_1 : decode cX10_faultOfSheet 1 = .ok (.invokestatic 224, 3) := by decide +kernel
theorem dX10_faultOfSheet_4 : decode cX10_faultOfSheet 4 = .ok (.ifCond .ne 6, 3) := by decide +kernel
theorem dX10_faultOfSheet_7 : decode cX10_faultOfSheet 7 = .ok (.ldc 71, 2) := by decide +kernel
theorem dX10_faultOfSheet_9 : decode cX10_faultOfSheet 9 = .ok (.ireturn, 1) := by decide +kernel
theorem dX10_faultOfSheet_10 : decode cX10_faultOfSheet 10 = .ok (.aload_n 0, 1) := by decide +kernel
theorem dX10_faultOfSheet_11 : decode cX10_faultOfSheet 11 = .ok (.getfield 55, 3) := by decide +kernel
theorem dX10_faultOfSheet_14 : decode cX10_faultOfSheet 14 = .ok (.iload_n 1, 1) := by decide +kernel
theorem dX10_faultOfSheet_15 : decode cX10_faultOfSheet 15 = .ok (.aaload, 1) := by decide +kernel
theorem dX10_faultOfSheet_16 : decode cX10_faultOfSheet 16 = .ok (.invokevirtual 240, 3) := by decide +kernel
theorem dX10_faultOfSheet_19 : decode cX10_faultOfSheet 19 = .ok (.ifCond .eq 8, 3) := by decide +kernel
theorem dX10_faultOfSheet_22 : decode cX10_faultOfSheet 22 = .ok (.ldc 243, 2) := by decide +kernel
theorem dX10_faultOfSheet_24 : decode cX10_faultOfSheet 24 = .ok (.goto 4, 3) := by decide +kernel
theorem dX10_faultOfSheet_27 : decode cX10_faultOfSheet 27 = .ok (.iconst 0, 1) := by decide +kernel
theorem dX10_faultOfSheet_28 : decode cX10_faultOfSheet 28 = .ok (.ireturn, 1) := by decide +kernel
theorem dX10_areTwo_0 : decode cX10_areTwo 0 = .ok (.aload_n 0, 1) := by decide +kernel
theorem dX10_areTwo_1 : decode cX10_areTwo 1 = .ok (.getfield 30, 3) := by decide +kernel
theorem dX10_areTwo_4 : decode cX10_areTwo 4 = .ok (.iload_n 1, 1) := by decide +kernel
theorem dX10_areTwo_5 : decode cX10_areTwo 5 = .ok (.invokevirtual 109, 3) := by decide +kernel
theorem dX10_areTwo_8 : decode cX10_areTwo 8 = .ok (.ifCond .eq 23, 3) := by decide +kernel
theorem dX10_areTwo_11 : decode cX10_areTwo 11 = .ok (.aload_n 0, 1) := by decide +kernel
theorem dX10_areTwo_12 : decode cX10_areTwo 12 = .ok (.getfield 30, 3) := by decide +kernel
theorem dX10_areTwo_15 : decode cX10_areTwo 15 = .ok (.iload_n 2, 1) := by decide +kernel
theorem dX10_areTwo_16 : decode cX10_areTwo 16 = .ok (.invokevirtual 109, 3) := by decide +kernel
theorem dX10_areTwo_19 : decode cX10_areTwo 19 = .ok (.ifCond .eq 12, 3) := by decide +kernel
theorem dX10_areTwo_22 : decode cX10_areTwo 22 = .ok (.iload_n 1, 1) := by decide +kernel
theorem dX10_areTwo_23 : decode cX10_areTwo 23 = .ok (.iload_n 2, 1) := by decide +kernel
theorem dX10_areTwo_24 : decode cX10_areTwo 24 = .ok (.if_icmp .eq 7, 3) := by decide +kernel
theorem dX10_areTwo_27 : decode cX10_areTwo 27 = .ok (.iconst 1, 1) := by decide +kernel
theorem dX10_areTwo_28 : decode cX10_areTwo 28 = .ok (.goto 4, 3) := by decide +kernel
theorem dX10_areTwo_31 : decode cX10_areTwo 31 = .ok (.iconst 0, 1) := by decide +kernel
theorem dX10_areTwo_32 : decode cX10_areTwo 32 = .ok (.ireturn, 1) := by decide +kernel
theorem dX10_firstHour_0 : decode cX10_firstHour 0 = .ok (.aload_n 0, 1) := by decide +kernel
theorem dX10_firstHour_1 : decode cX10_firstHour 1 = .ok (.getfield 36, 3) := by decide +kernel
theorem dX10_firstHour_4 : decode cX10_firstHour 4 = .ok (.aload_n 0, 1) := by decide +kernel
theorem dX10_firstHour_5 : decode cX10_firstHour 5 = .ok (.getfield 30, 3) := by decide +kernel
theorem dX10_firstHour_8 : decode cX10_firstHour 8 = .ok (.invokevirtual 178, 3) := by decide +kernel
theorem dX10_firstHour_11 : decode cX10_firstHour 11 = .ok (.iconst 0, 1) := by decide +kernel
theorem dX10_firstHour_12 : decode cX10_firstHour 12 = .ok (.istore 4, 2) := by decide +kernel
theorem dX10_firstHour_14 : decode cX10_firstHour 14 = .ok (.iload 4, 2) := by decide +kernel
theorem dX10_firstHour_16 : decode cX10_firstHour 16 = .ok (.sipush 200, 3) := by decide +kernel
theorem dX10_firstHour_19 : decode cX10_firstHour 19 = .ok (.if_icmp .gt 30, 3) := by decide +kernel
theorem dX10_firstHour_22 : decode cX10_firstHour 22 = .ok (.aload_n 0, 1) := by decide +kernel
theorem dX10_firstHour_23 : decode cX10_firstHour 23 = .ok (.iload_n 1, 1) := by decide +kernel
theorem dX10_firstHour_24 : decode cX10_firstHour 24 = .ok (.iload_n 2, 1) := by decide +kernel
theorem dX10_firstHour_25 : decode cX10_firstHour 25 = .ok (.iload_n 3, 1) := by decide +kernel
theorem dX10_firstHour_26 : decode cX10_firstHour 26 = .ok (.invokevirtual 269, 3) := by decide +kernel
theorem dX10_firstHour_29 : decode cX10_firstHour 29 = .ok (.ifCond .eq 6, 3) := by decide +kernel
theorem dX10_firstHour_32 : decode cX10_firstHour 32 = .ok (.iload 4, 2) := by decide +kernel
theorem dX10_firstHour_34 : decode cX10_firstHour 34 = .ok (.ireturn, 1) := by decide +kernel
theorem dX10_firstHour_35 : decode cX10_firstHour 35 = .ok (.aload_n 0, 1) := by decide +kernel
theorem dX10_firstHour_36 : decode cX10_firstHour 36 = .ok (.getfield 36, 3) := by decide +kernel
theorem dX10_firstHour_39 : decode cX10_firstHour 39 = .ok (.iconst 1, 1) := by decide +kernel
theorem dX10_firstHour_40 : decode cX10_firstHour 40 = .ok (.invokevirtual 159, 3) := by decide +kernel
theorem dX10_firstHour_43 : decode cX10_firstHour 43 = .ok (.iinc 4 1, 3) := by decide +kernel
theorem dX10_firstHour_46 : decode cX10_firstHour 46 = .ok (.goto (-32), 3) := by decide +kernel
theorem dX10_firstHour_49 : decode cX10_firstHour 49 = .ok (.aload_n 0, 1) := by decide +kernel
theorem dX10_firstHour_50 : decode cX10_firstHour 50 = .ok (.ldc 195, 2) := by decide +kernel
theorem dX10_firstHour_52 : decode cX10_firstHour 52 = .ok (.invokevirtual 72, 3) := by decide +kernel
theorem dX10_firstHour_55 : decode cX10_firstHour 55 = .ok (.ireturn, 1) := by decide +kernel
theorem dX10_isSoAhead_0 : decode cX10_isSoAhead 0 = .ok (.iload_n 1, 1) := by decide +kernel
theorem dX10_isSoAhead_1 : decode cX10_isSoAhead 1 = .ok (.tableswitch 91 0 2 #[27, 43, 55], 27) := by decide +kernel
theorem dX10_isSoAhead_28 : decode cX10_isSoAhead 28 = .ok (.aload_n 0, 1) := by decide +kernel
theorem dX10_isSoAhead_29 : decode cX10_isSoAhead 29 = .ok (.getfield 36, 3) := by decide +kernel
theorem dX10_isSoAhead_32 : decode cX10_isSoAhead 32 = .ok (.iload_n 2, 1) := by decide +kernel
theorem dX10_isSoAhead_33 : decode cX10_isSoAhead 33 = .ok (.invokevirtual 86, 3) := by decide +kernel
theorem dX10_isSoAhead_36 : decode cX10_isSoAhead 36 = .ok (.getfield 90, 3) := by decide +kernel
theorem dX10_isSoAhead_39 : decode cX10_isSoAhead 39 = .ok (.iload_n 3, 1) := by decide +kernel
theorem dX10_isSoAhead_40 : decode cX10_isSoAhead 40 = .ok (.invokestatic 196, 3) := by decide +kernel
theorem dX10_isSoAhead_43 : decode cX10_isSoAhead 43 = .ok (.ireturn, 1) := by decide +kernel
theorem dX10_isSoAhead_44 : decode cX10_isSoAhead 44 = .ok (.aload_n 0, 1) := by decide +kernel
theorem dX10_isSoAhead_45 : decode cX10_isSoAhead 45 = .ok (.getfield 36, 3) := by decide +kernel
theorem dX10_isSoAhead_48 : decode cX10_isSoAhead 48 = .ok (.invokevirtual 172, 3) := by decide +kernel
theorem dX10_isSoAhead_51 : decode cX10_isSoAhead 51 = .ok (.iload_n 3, 1) := by decide +kernel
theorem dX10_isSoAhead_52 : decode cX10_isSoAhead 52 = .ok (.invokestatic 196, 3) := by decide +kernel
theorem dX10_isSoAhead_55 : decode cX10_isSoAhead 55 = .ok (.ireturn, 1) := by decide +kernel
theorem dX10_isSoAhead_56 : decode cX10_isSoAhead 56 = .ok (.aload_n 0, 1) := by decide +kernel
theorem dX10_isSoAhead_57 : decode cX10_isSoAhead 57 = .ok (.getfield 36, 3) := by decide +kernel
theorem dX10_isSoAhead_60 : decode cX10_isSoAhead 60 = .ok (.iload_n 2, 1) := by decide +kernel
theorem dX10_isSoAhead_61 : decode cX10_isSoAhead 61 = .ok (.invokevirtual 86, 3) := by decide +kernel
theorem dX10_isSoAhead_64 : decode cX10_isSoAhead 64 = .ok (.getfield 115, 3) := by decide +kernel
theorem dX10_isSoAhead_67 : decode cX10_isSoAhead 67 = .ok (.iconst (-1), 1) := by decide +kernel
theorem dX10_isSoAhead_68 : decode cX10_isSoAhead 68 = .ok (.if_icmp .eq 22, 3) := by decide +kernel
theorem dX10_isSoAhead_71 : decode cX10_isSoAhead 71 = .ok (.aload_n 0, 1) := by decide +kernel
theorem dX10_isSoAhead_72 : decode cX10_isSoAhead 72 = .ok (.getfield 36, 3) := by decide +kernel
theorem dX10_isSoAhead_75 : decode cX10_isSoAhead 75 = .ok (.iload_n 3, 1) := by decide +kernel
theorem dX10_isSoAhead_76 : decode cX10_isSoAhead 76 = .ok (.invokevirtual 86, 3) := by decide +kernel
theorem dX10_isSoAhead_79 : decode cX10_isSoAhead 79 = .ok (.getfield 115, 3) := by decide +kernel
theorem dX10_isSoAhead_82 : decode cX10_isSoAhead 82 = .ok (.iconst (-1), 1) := by decide +kernel
theorem dX10_isSoAhead_83 : decode cX10_isSoAhead 83 = .ok (.if_icmp .eq 7, 3) := by decide +kernel
theorem dX10_isSoAhead_86 : decode cX10_isSoAhead 86 = .ok (.iconst 1, 1) := by decide +kernel
theorem dX10_isSoAhead_87 : decode cX10_isSoAhead 87 = .ok (.goto 4, 3) := by decide +kernel
theorem dX10_isSoAhead_90 : decode cX10_isSoAhead 90 = .ok (.iconst 0, 1) := by decide +kernel
theorem dX10_isSoAhead_91 : decode cX10_isSoAhead 91 = .ok (.ireturn, 1) := by decide +kernel
theorem dX10_isSoAhead_92 : decode cX10_isSoAhead 92 = .ok (.aload_n 0, 1) := by decide +kernel
theorem dX10_isSoAhead_93 : decode cX10_isSoAhead 93 = .ok (.getfield 36, 3) := by decide +kernel
theorem dX10_isSoAhead_96 : decode cX10_isSoAhead 96 = .ok (.iload_n 2, 1) := by decide +kernel
theorem dX10_isSoAhead_97 : decode cX10_isSoAhead 97 = .ok (.invokevirtual 86, 3) := by decide +kernel
theorem dX10_isSoAhead_100 : decode cX10_isSoAhead 100 = .ok (.getfield 121, 3) := by decide +kernel
theorem dX10_isSoAhead_103 : decode cX10_isSoAhead 103 = .ok (.iload_n 3, 1) := by decide +kernel
theorem dX10_isSoAhead_104 : decode cX10_isSoAhead 104 = .ok (.if_icmp .lt 7, 3) := by decide +kernel
theorem dX10_isSoAhead_107 : decode cX10_isSoAhead 107 = .ok (.iconst 1, 1) := by decide +kernel
theorem dX10_isSoAhead_108 : decode cX10_isSoAhead 108 = .ok (.goto 4, 3) := by decide +kernel
theorem dX10_isSoAhead_111 : decode cX10_isSoAhead 111 = .ok (.iconst 0, 1) := by decide +kernel
theorem dX10_isSoAhead_112 : decode cX10_isSoAhead 112 = .ok (.ireturn, 1) := by decide +kernel
theorem dX10_learntAs_0 : decode cX10_learntAs 0 = .ok (.aload_n 0, 1) := by decide +kernel
theorem dX10_learntAs_1 : decode cX10_learntAs 1 = .ok (.getfield 36, 3) := by decide +kernel
theorem dX10_learntAs_4 : decode cX10_learntAs 4 = .ok (.aload_n 0, 1) := by decide +kernel
theorem dX10_learntAs_5 : decode cX10_learntAs 5 = .ok (.getfield 30, 3) := by decide +kernel
theorem dX10_learntAs_8 : decode cX10_learntAs 8 = .ok (.invokevirtual 178, 3) := by decide +kernel
theorem dX10_learntAs_11 : decode cX10_learntAs 11 = .ok (.aload_n 0, 1) := by decide +kernel
theorem dX10_learntAs_12 : decode cX10_learntAs 12 = .ok (.getfield 36, 3) := by decide +kernel
theorem dX10_learntAs_15 : decode cX10_learntAs 15 = .ok (.iload_n 1, 1) := by decide +kernel
theorem dX10_learntAs_16 : decode cX10_learntAs 16 = .ok (.invokevirtual 86, 3) := by decide +kernel
theorem dX10_learntAs_19 : decode cX10_learntAs 19 = .ok (.astore 4, 2) := by decide +kernel
theorem dX10_learntAs_21 : decode cX10_learntAs 21 = .ok (.aload 4, 2) := by decide +kernel
theorem dX10_learntAs_23 : decode cX10_learntAs 23 = .ok (.iload_n 2, 1) := by decide +kernel
theorem dX10_learntAs_24 : decode cX10_learntAs 24 = .ok (.putfield 112, 3) := by decide +kernel
theorem dX10_learntAs_27 : decode cX10_learntAs 27 = .ok (.aload_n 0, 1) := by decide +kernel
theorem dX10_learntAs_28 : decode cX10_learntAs 28 = .ok (.getfield 36, 3) := by decide +kernel
theorem dX10_learntAs_31 : decode cX10_learntAs 31 = .ok (.iload_n 3, 1) := by decide +kernel
theorem dX10_learntAs_32 : decode cX10_learntAs 32 = .ok (.invokevirtual 159, 3) := by decide +kernel
theorem dX10_learntAs_35 : decode cX10_learntAs 35 = .ok (.aload 4, 2) := by decide +kernel
theorem dX10_learntAs_37 : decode cX10_learntAs 37 = .ok (.getfield 90, 3) := by decide +kernel
theorem dX10_learntAs_40 : decode cX10_learntAs 40 = .ok (.invokestatic 209, 3) := by decide +kernel
theorem dX10_learntAs_43 : decode cX10_learntAs 43 = .ok (.ireturn, 1) := by decide +kernel
theorem dX10_heardWithout_0 : decode cX10_heardWithout 0 = .ok (.aload_n 0, 1) := by decide +kernel
theorem dX10_heardWithout_1 : decode cX10_heardWithout 1 = .ok (.getfield 36, 3) := by decide +kernel
theorem dX10_heardWithout_4 : decode cX10_heardWithout 4 = .ok (.aload_n 0, 1) := by decide +kernel
theorem dX10_heardWithout_5 : decode cX10_heardWithout 5 = .ok (.getfield 30, 3) := by decide +kernel
theorem dX10_heardWithout_8 : decode cX10_heardWithout 8 = .ok (.invokevirtual 178, 3) := by decide +kernel
theorem dX10_heardWithout_11 : decode cX10_heardWithout 11 = .ok (.aload_n 0, 1) := by decide +kernel
theorem dX10_heardWithout_12 : decode cX10_heardWithout 12 = .ok (.getfield 36, 3) := by decide +kernel
theorem dX10_heardWithout_15 : decode cX10_heardWithout 15 = .ok (.iload_n 1, 1) := by decide +kernel
theorem dX10_heardWithout_16 : decode cX10_heardWithout 16 = .ok (.invokevirtual 86, 3) := by decide +kernel
theorem dX10_heardWithout_19 : decode cX10_heardWithout 19 = .ok (.astore 4, 2) := by decide +kernel
theorem dX10_heardWithout_21 : decode cX10_heardWithout 21 = .ok (.aload 4, 2) := by decide +kernel
theorem dX10_heardWithout_23 : decode cX10_heardWithout 23 = .ok (.aload 4, 2) := by decide +kernel
theorem dX10_heardWithout_25 : decode cX10_heardWithout 25 = .ok (.getfield 90, 3) := by decide +kernel
theorem dX10_heardWithout_28 : decode cX10_heardWithout 28 = .ok (.iconst 1, 1) := by decide +kernel
theorem dX10_heardWithout_29 : decode cX10_heardWithout 29 = .ok (.iload_n 2, 1) := by decide +kernel
theorem dX10_heardWithout_30 : decode cX10_heardWithout 30 = .ok (.ishl, 1) := by decide +kernel
theorem dX10_heardWithout_31 : decode cX10_heardWithout 31 = .ok (.iconst (-1), 1) := by decide +kernel
theorem dX10_heardWithout_32 : decode cX10_heardWithout 32 = .ok (.ixor, 1) := by decide +kernel
theorem dX10_heardWithout_33 : decode cX10_heardWithout 33 = .ok (.iand, 1) := by decide +kernel
theorem dX10_heardWithout_34 : decode cX10_heardWithout 34 = .ok (.invokevirtual 130, 3) := by decide +kernel
theorem dX10_heardWithout_37 : decode cX10_heardWithout 37 = .ok (.pop, 1) := by decide +kernel
theorem dX10_heardWithout_38 : decode cX10_heardWithout 38 = .ok (.aload_n 0, 1) := by decide +kernel
theorem dX10_heardWithout_39 : decode cX10_heardWithout 39 = .ok (.getfield 36, 3) := by decide +kernel
theorem dX10_heardWithout_42 : decode cX10_heardWithout 42 = .ok (.iload_n 3, 1) := by decide +kernel
theorem dX10_heardWithout_43 : decode cX10_heardWithout 43 = .ok (.invokevirtual 159, 3) := by decide +kernel
theorem dX10_heardWithout_46 : decode cX10_heardWithout 46 = .ok (.aload_n 0, 1) := by decide +kernel
theorem dX10_heardWithout_47 : decode cX10_heardWithout 47 = .ok (.getfield 36, 3) := by decide +kernel
theorem dX10_heardWithout_50 : decode cX10_heardWithout 50 = .ok (.invokevirtual 162, 3) := by decide +kernel
theorem dX10_heardWithout_53 : decode cX10_heardWithout 53 = .ok (.ireturn, 1) := by decide +kernel
theorem dX10_spreadFrom_0 : decode cX10_spreadFrom 0 = .ok (.aload_n 0, 1) := by decide +kernel
theorem dX10_spreadFrom_1 : decode cX10_spreadFrom 1 = .ok (.getfield 36, 3) := by decide +kernel
theorem dX10_spreadFrom_4 : decode cX10_spreadFrom 4 = .ok (.aload_n 0, 1) := by decide +kernel
theorem dX10_spreadFrom_5 : decode cX10_spreadFrom 5 = .ok (.getfield 30, 3) := by decide +kernel
theorem dX10_spreadFrom_8 : decode cX10_spreadFrom 8 = .ok (.invokevirtual 178, 3) := by decide +kernel
theorem dX10_spreadFrom_11 : decode cX10_spreadFrom 11 = .ok (.aload_n 0, 1) := by decide +kernel
theorem dX10_spreadFrom_12 : decode cX10_spreadFrom 12 = .ok (.getfield 36, 3) := by decide +kernel
theorem dX10_spreadFrom_15 : decode cX10_spreadFrom 15 = .ok (.iload_n 1, 1) := by decide +kernel
theorem dX10_spreadFrom_16 : decode cX10_spreadFrom 16 = .ok (.invokevirtual 86, 3) := by decide +kernel
theorem dX10_spreadFrom_19 : decode cX10_spreadFrom 19 = .ok (.astore 4, 2) := by decide +kernel
theorem dX10_spreadFrom_21 : decode cX10_spreadFrom 21 = .ok (.aload 4, 2) := by decide +kernel
theorem dX10_spreadFrom_23 : decode cX10_spreadFrom 23 = .ok (.dup, 1) := by decide +kernel
theorem dX10_spreadFrom_24 : decode cX10_spreadFrom 24 = .ok (.getfield 90, 3) := by decide +kernel
theorem dX10_spreadFrom_27 : decode cX10_spreadFrom 27 = .ok (.iconst 1, 1) := by decide +kernel
theorem dX10_spreadFrom_28 : decode cX10_spreadFrom 28 = .ok (.iload_n 2, 1) := by decide +kernel
theorem dX10_spreadFrom_29 : decode cX10_spreadFrom 29 = .ok (.ishl, 1) := by decide +kernel
theorem dX10_spreadFrom_30 : decode cX10_spreadFrom 30 = .ok (.ior, 1) := by decide +kernel
theorem dX10_spreadFrom_31 : decode cX10_spreadFrom 31 = .ok (.putfield 90, 3) := by decide +kernel
theorem dX10_spreadFrom_34 : decode cX10_spreadFrom 34 = .ok (.aload 4, 2) := by decide +kernel
theorem dX10_spreadFrom_36 : decode cX10_spreadFrom 36 = .ok (.dup, 1) := by decide +kernel
theorem dX10_spreadFrom_37 : decode cX10_spreadFrom 37 = .ok (.getfield 95, 3) := by decide +kernel
theorem dX10_spreadFrom_40 : decode cX10_spreadFrom 40 = .ok (.iconst 1, 1) := by decide +kernel
theorem dX10_spreadFrom_41 : decode cX10_spreadFrom 41 = .ok (.iload_n 2, 1) := by decide +kernel
theorem dX10_spreadFrom_42 : decode cX10_spreadFrom 42 = .ok (.ishl, 1) := by decide +kernel
theorem dX10_spreadFrom_43 : decode cX10_spreadFrom 43 = .ok (.ior, 1) := by decide +kernel
theorem dX10_spreadFrom_44 : decode cX10_spreadFrom 44 = .ok (.putfield 95, 3) := by decide +kernel
theorem dX10_spreadFrom_47 : decode cX10_spreadFrom 47 = .ok (.aload_n 0, 1) := by decide +kernel
theorem dX10_spreadFrom_48 : decode cX10_spreadFrom 48 = .ok (.getfield 36, 3) := by decide +kernel
theorem dX10_spreadFrom_51 : decode cX10_spreadFrom 51 = .ok (.iload_n 3, 1) := by decide +kernel
theorem dX10_spreadFrom_52 : decode cX10_spreadFrom 52 = .ok (.invokevirtual 159, 3) := by decide +kernel
theorem dX10_spreadFrom_55 : decode cX10_spreadFrom 55 = .ok (.aload_n 0, 1) := by decide +kernel
theorem dX10_spreadFrom_56 : decode cX10_spreadFrom 56 = .ok (.getfield 36, 3) := by decide +kernel
theorem dX10_spreadFrom_59 : decode cX10_spreadFrom 59 = .ok (.iload_n 2, 1) := by decide +kernel
theorem dX10_spreadFrom_60 : decode cX10_spreadFrom 60 = .ok (.invokevirtual 273, 3) := by decide +kernel
theorem dX10_spreadFrom_63 : decode cX10_spreadFrom 63 = .ok (.ireturn, 1) := by decide +kernel
theorem dX10_believedIfTurned_0 : decode cX10_believedIfTurned 0 = .ok (.aload_n 0, 1) := by decide +kernel
theorem dX10_believedIfTurned_1 : decode cX10_believedIfTurned 1 = .ok (.getfield 36, 3) := by decide +kernel
theorem dX10_believedIfTurned_4 : decode cX10_believedIfTurned 4 = .ok (.aload_n 0, 1) := by decide +kernel
theorem dX10_believedIfTurned_5 : decode cX10_believedIfTurned 5 = .ok (.getfield 30, 3) := by decide +kernel
theorem dX10_believedIfTurned_8 : decode cX10_believedIfTurned 8 = .ok (.invokevirtual 178, 3) := by decide +kernel
theorem dX10_believedIfTurned_11 : decode cX10_believedIfTurned 11 = .ok (.aload_n 0, 1) := by decide +kernel
theorem dX10_believedIfTurned_12 : decode cX10_believedIfTurned 12 = .ok (.getfield 36, 3) := by decide +kernel
theorem dX10_believedIfTurned_15 : decode cX10_believedIfTurned 15 = .ok (.dup, 1) := by decide +kernel
theorem dX10_believedIfTurned_16 : decode cX10_believedIfTurned 16 = .ok (.getfield 76, 3) := by decide +kernel
theorem dX10_believedIfTurned_19 : decode cX10_believedIfTurned 19 = .ok (.iconst 1, 1) := by decide +kernel
theorem dX10_believedIfTurned_20 : decode cX10_believedIfTurned 20 = .ok (.iload_n 1, 1) := by decide +kernel
theorem dX10_believedIfTurned_21 : decode cX10_believedIfTurned 21 = .ok (.ishl, 1) := by decide +kernel
theorem dX10_believedIfTurned_22 : decode cX10_believedIfTurned 22 = .ok (.ixor, 1) := by decide +kernel
theorem dX10_believedIfTurned_23 : decode cX10_believedIfTurned 23 = .ok (.putfield 76, 3) := by decide +kernel
theorem dX10_believedIfTurned_26 : decode cX10_believedIfTurned 26 = .ok (.aload_n 0, 1) := by decide +kernel
theorem dX10_believedIfTurned_27 : decode cX10_believedIfTurned 27 = .ok (.getfield 36, 3) := by decide +kernel
theorem dX10_believedIfTurned_30 : decode cX10_believedIfTurned 30 = .ok (.iload_n 2, 1) := by decide +kernel
theorem dX10_believedIfTurned_31 : decode cX10_believedIfTurned 31 = .ok (.invokevirtual 159, 3) := by decide +kernel
theorem dX10_believedIfTurned_34 : decode cX10_believedIfTurned 34 = .ok (.aload_n 0, 1) := by decide +kernel
theorem dX10_believedIfTurned_35 : decode cX10_believedIfTurned 35 = .ok (.getfield 36, 3) := by decide +kernel
theorem dX10_believedIfTurned_38 : decode cX10_believedIfTurned 38 = .ok (.invokevirtual 266, 3) := by decide +kernel
theorem dX10_believedIfTurned_41 : decode cX10_believedIfTurned 41 = .ok (.ireturn, 1) := by decide +kernel
theorem dX10_goesAsTold_0 : decode cX10_goesAsTold 0 = .ok (.iconst 0, 1) := by decide +kernel
theorem dX10_goesAsTold_1 : decode cX10_goesAsTold 1 = .ok (.istore_n 3, 1) := by decide +kernel
theorem dX10_goesAsTold_2 : decode cX10_goesAsTold 2 = .ok (.iload_n 3, 1) := by decide +kernel
theorem dX10_goesAsTold_3 : decode cX10_goesAsTold 3 = .ok (.aload_n 1, 1) := by decide +kernel
theorem dX10_goesAsTold_4 : decode cX10_goesAsTold 4 = .ok (.getfield 235, 3) := by decide +kernel
theorem dX10_goesAsTold_7 : decode cX10_goesAsTold 7 = .ok (.if_icmp .ge 41, 3) := by decide +kernel
theorem dX10_goesAsTold_10 : decode cX10_goesAsTold 10 = .ok (.aload_n 1, 1) := by decide +kernel
theorem dX10_goesAsTold_11 : decode cX10_goesAsTold 11 = .ok (.getfield 250, 3) := by decide +kernel
theorem dX10_goesAsTold_14 : decode cX10_goesAsTold 14 = .ok (.iload_n 3, 1) := by decide +kernel
theorem dX10_goesAsTold_15 : decode cX10_goesAsTold 15 = .ok (.laload, 1) := by decide +kernel
theorem dX10_goesAsTold_16 : decode cX10_goesAsTold 16 = .ok (.aload_n 0, 1) := by decide +kernel
theorem dX10_goesAsTold_17 : decode cX10_goesAsTold 17 = .ok (.getfield 36, 3) := by decide +kernel
theorem dX10_goesAsTold_20 : decode cX10_goesAsTold 20 = .ok (.iload_n 2, 1) := by decide +kernel
theorem dX10_goesAsTold_21 : decode cX10_goesAsTold 21 = .ok (.invokevirtual 86, 3) := by decide +kernel
theorem dX10_goesAsTold_24 : decode cX10_goesAsTold 24 = .ok (.getfield 90, 3) := by decide +kernel
theorem dX10_goesAsTold_27 : decode cX10_goesAsTold 27 = .ok (.i2l, 1) := by decide +kernel
theorem dX10_goesAsTold_28 : decode cX10_goesAsTold 28 = .ok (.lcmp, 1) := by decide +kernel
theorem dX10_goesAsTold_29 : decode cX10_goesAsTold 29 = .ok (.ifCond .eq 5, 3) := by decide +kernel
theorem dX10_goesAsTold_32 : decode cX10_goesAsTold 32 = .ok (.iconst 0, 1) := by decide +kernel
theorem dX10_goesAsTold_33 : decode cX10_goesAsTold 33 = .ok (.ireturn, 1) := by decide +kernel
theorem dX10_goesAsTold_34 : decode cX10_goesAsTold 34 = .ok (.aload_n 0, 1) := by decide +kernel
theorem dX10_goesAsTold_35 : decode cX10_goesAsTold 35 = .ok (.getfield 36, 3) := by decide +kernel
theorem dX10_goesAsTold_38 : decode cX10_goesAsTold 38 = .ok (.iconst 1, 1) := by decide +kernel
theorem dX10_goesAsTold_39 : decode cX10_goesAsTold 39 = .ok (.invokevirtual 159, 3) := by decide +kernel
theorem dX10_goesAsTold_42 : decode cX10_goesAsTold 42 = .ok (.iinc 3 1, 3) := by decide +kernel
theorem dX10_goesAsTold_45 : decode cX10_goesAsTold 45 = .ok (.goto (-43), 3) := by decide +kernel
theorem dX10_goesAsTold_48 : decode cX10_goesAsTold 48 = .ok (.iconst 1, 1) := by decide +kernel
theorem dX10_goesAsTold_49 : decode cX10_goesAsTold 49 = .ok (.ireturn, 1) := by decide +kernel
theorem dX10_leastOfBest_0 : decode cX10_leastOfBest 0 = .ok (.iconst 0, 1) := by decide +kernel
theorem dX10_leastOfBest_1 : decode cX10_leastOfBest 1 = .ok (.istore_n 2, 1) := by decide +kernel
theorem dX10_leastOfBest_2 : decode cX10_leastOfBest 2 = .ok (.iconst 1, 1) := by decide +kernel
theorem dX10_leastOfBest_3 : decode cX10_leastOfBest 3 = .ok (.istore_n 3, 1) := by decide +kernel
theorem dX10_leastOfBest_4 : decode cX10_leastOfBest 4 = .ok (.iload_n 3, 1) := by decide +kernel
theorem dX10_leastOfBest_5 : decode cX10_leastOfBest 5 = .ok (.iload_n 1, 1) := by decide +kernel
theorem dX10_leastOfBest_6 : decode cX10_leastOfBest 6 = .ok (.if_icmp .ge 32, 3) := by decide +kernel
theorem dX10_leastOfBest_9 : decode cX10_leastOfBest 9 = .ok (.iload_n 3, 1) := by decide +kernel
theorem dX10_leastOfBest_10 : decode cX10_leastOfBest 10 = .ok (.bipush 10, 2) := by decide +kernel
theorem dX10_leastOfBest_12 : decode cX10_leastOfBest 12 = .ok (.if_icmp .ge 26, 3) := by decide +kernel
theorem dX10_leastOfBest_15 : decode cX10_leastOfBest 15 = .ok (.aload_n 0, 1) := by decide +kernel
theorem dX10_leastOfBest_16 : decode cX10_leastOfBest 16 = .ok (.getfield 64, 3) := by decide +kernel
theorem dX10_leastOfBest_19 : decode cX10_leastOfBest 19 = .ok (.iload_n 3, 1) := by decide +kernel
theorem dX10_leastOfBest_20 : decode cX10_leastOfBest 20 = .ok (.iaload, 1) := by decide +kernel
theorem dX10_leastOfBest_21 : decode cX10_leastOfBest 21 = .ok (.aload_n 0, 1) := by decide +kernel
theorem dX10_leastOfBest_22 : decode cX10_leastOfBest 22 = .ok (.getfield 64, 3) := by decide +kernel
theorem dX10_leastOfBest_25 : decode cX10_leastOfBest 25 = .ok (.iload_n 2, 1) := by decide +kernel
theorem dX10_leastOfBest_26 : decode cX10_leastOfBest 26 = .ok (.iaload, 1) := by decide +kernel
theorem dX10_leastOfBest_27 : decode cX10_leastOfBest 27 = .ok (.if_icmp .le 5, 3) := by decide +kernel
theorem dX10_leastOfBest_30 : decode cX10_leastOfBest 30 = .ok (.iload_n 3, 1) := by decide +kernel
theorem dX10_leastOfBest_31 : decode cX10_leastOfBest 31 = .ok (.istore_n 2, 1) := by decide +kernel
theorem dX10_leastOfBest_32 : decode cX10_leastOfBest 32 = .ok (.iinc 3 1, 3) := by decide +kernel
theorem dX10_leastOfBest_35 : decode cX10_leastOfBest 35 = .ok (.goto (-31), 3) := by decide +kernel
theorem dX10_leastOfBest_38 : decode cX10_leastOfBest 38 = .ok (.iload_n 2, 1) := by decide +kernel
theorem dX10_leastOfBest_39 : decode cX10_leastOfBest 39 = .ok (.ireturn, 1) := by decide +kernel
theorem dX10_isSecret_0 : decode cX10_isSecret 0 = .ok (.iload_n 0, 1) := by decide +kernel
theorem dX10_isSecret_1 : decode cX10_isSecret 1 = .ok (.ifCond .lt 13, 3) := by decide +kernel
theorem dX10_isSecret_4 : decode cX10_isSecret 4 = .ok (.iload_n 0, 1) := by decide +kernel
theorem dX10_isSecret_5 : decode cX10_isSecret 5 = .ok (.bipush 10, 2) := by decide +kernel
theorem dX10_isSecret_7 : decode cX10_isSecret 7 = .ok (.if_icmp .ge 7, 3) := by decide +kernel
theorem dX10_isSecret_10 : decode cX10_isSecret 10 = .ok (.iconst 1, 1) := by decide +kernel
theorem dX10_isSecret_11 : decode cX10_isSecret 11 = .ok (.goto 4, 3) := by decide +kernel
theorem dX10_isSecret_14 : decode cX10_isSecret 14 = .ok (.iconst 0, 1) := by decide +kernel
theorem dX10_isSecret_15 : decode cX10_isSecret 15 = .ok (.ireturn, 1) := by decide +kernel
theorem dX10_isSetOfSecrets_0 : decode cX10_isSetOfSecrets 0 = .ok (.iload_n 0, 1) := by decide +kernel
theorem dX10_isSetOfSecrets_1 : decode cX10_isSetOfSecrets 1 = .ok (.ifCond .lt 14, 3) := by decide +kernel
theorem dX10_isSetOfSecrets_4 : decode cX10_isSetOfSecrets 4 = .ok (.iload_n 0, 1) := by decide +kernel
theorem dX10_isSetOfSecrets_5 : decode cX10_isSetOfSecrets 5 = .ok (.sipush 1023, 3) := by decide +kernel
theorem dX10_isSetOfSecrets_8 : decode cX10_isSetOfSecrets 8 = .ok (.if_icmp .gt 7, 3) := by decide +kernel
theorem dX10_isSetOfSecrets_11 : decode cX10_isSetOfSecrets 11 = .ok (.iconst 1, 1) := by decide +kernel
theorem dX10_isSetOfSecrets_12 : decode cX10_isSetOfSecrets 12 = .ok (.goto 4, 3) := by decide +kernel
theorem dX10_isSetOfSecrets_15 : decode cX10_isSetOfSecrets 15 = .ok (.iconst 0, 1) := by decide +kernel
theorem dX10_isSetOfSecrets_16 : decode cX10_isSetOfSecrets 16 = .ok (.ireturn, 1) := by decide +kernel
theorem dX10_isKind_0 : decode cX10_isKind 0 = .ok (.iload_n 0, 1) := by decide +kernel
theorem dX10_isKind_1 : decode cX10_isKind 1 = .ok (.ifCond .lt 13, 3) := by decide +kernel
theorem dX10_isKind_4 : decode cX10_isKind 4 = .ok (.iload_n 0, 1) := by decide +kernel
theorem dX10_isKind_5 : decode cX10_isKind 5 = .ok (.bipush 6, 2) := by decide +kernel
theorem dX10_isKind_7 : decode cX10_isKind 7 = .ok (.if_icmp .ge 7, 3) := by decide +kernel
theorem dX10_isKind_10 : decode cX10_isKind 10 = .ok (.iconst 1, 1) := by decide +kernel
theorem dX10_isKind_11 : decode cX10_isKind 11 = .ok (.goto 4, 3) := by decide +kernel
theorem dX10_isKind_14 : decode cX10_isKind 14 = .ok (.iconst 0, 1) := by decide +kernel
theorem dX10_isKind_15 : decode cX10_isKind 15 = .ok (.ireturn, 1) := by decide +kernel
theorem dX10_isSheet_0 : decode cX10_isSheet 0 = .ok (.iload_n 0, 1) := by decide +kernel
theorem dX10_isSheet_1 : decode cX10_isSheet 1 = .ok (.ifCond .lt 12, 3) := by decide +kernel
theorem dX10_isSheet_4 : decode cX10_isSheet 4 = .ok (.iload_n 0, 1) := by decide +kernel
theorem dX10_isSheet_5 : decode cX10_isSheet 5 = .ok (.iconst 4, 1) := by decide +kernel
theorem dX10_isSheet_6 : decode cX10_isSheet 6 = .ok (.if_icmp .ge 7, 3) := by decide +kernel
theorem dX10_isSheet_9 : decode cX10_isSheet 9 = .ok (.iconst 1, 1) := by decide +kernel
theorem dX10_isSheet_10 : decode cX10_isSheet 10 = .ok (.goto 4, 3) := by decide +kernel
theorem dX10_isSheet_13 : decode cX10_isSheet 13 = .ok (.iconst 0, 1) := by decide +kernel
theorem dX10_isSheet_14 : decode cX10_isSheet 14 = .ok (.ireturn, 1) := by decide +kernel
theorem dX10_isUnder_0 : decode cX10_isUnder 0 = .ok (.iload_n 0, 1) := by decide +kernel
theorem dX10_isUnder_1 : decode cX10_isUnder 1 = .ok (.istore_n 2, 1) := by decide +kernel
theorem dX10_isUnder_2 : decode cX10_isUnder 2 = .ok (.iconst 0, 1) := by decide +kernel
theorem dX10_isUnder_3 : decode cX10_isUnder 3 = .ok (.istore_n 3, 1) := by decide +kernel
theorem dX10_isUnder_4 : decode cX10_isUnder 4 = .ok (.iload_n 3, 1) := by decide +kernel
theorem dX10_isUnder_5 : decode cX10_isUnder 5 = .ok (.bipush 6, 2) := by decide +kernel
theorem dX10_isUnder_7 : decode cX10_isUnder 7 = .ok (.if_icmp .ge 29, 3) := by decide +kernel
theorem dX10_isUnder_10 : decode cX10_isUnder 10 = .ok (.iload_n 2, 1) := by decide +kernel
theorem dX10_isUnder_11 : decode cX10_isUnder 11 = .ok (.invokestatic 98, 3) := by decide +kernel
theorem dX10_isUnder_14 : decode cX10_isUnder 14 = .ok (.ifCond .eq 22, 3) := by decide +kernel
theorem dX10_isUnder_17 : decode cX10_isUnder 17 = .ok (.iload_n 2, 1) := by decide +kernel
theorem dX10_isUnder_18 : decode cX10_isUnder 18 = .ok (.iload_n 1, 1) := by decide +kernel
theorem dX10_isUnder_19 : decode cX10_isUnder 19 = .ok (.if_icmp .ne 5, 3) := by decide +kernel
theorem dX10_isUnder_22 : decode cX10_isUnder 22 = .ok (.iconst 1, 1) := by decide +kernel
theorem dX10_isUnder_23 : decode cX10_isUnder 23 = .ok (.ireturn, 1) := by decide +kernel
theorem dX10_isUnder_24 : decode cX10_isUnder 24 = .ok (.getstatic 276, 3) := by decide +kernel
theorem dX10_isUnder_27 : decode cX10_isUnder 27 = .ok (.iload_n 2, 1) := by decide +kernel
theorem dX10_isUnder_28 : decode cX10_isUnder 28 = .ok (.iaload, 1) := by decide +kernel
theorem dX10_isUnder_29 : decode cX10_isUnder 29 = .ok (.istore_n 2, 1) := by decide +kernel
theorem dX10_isUnder_30 : decode cX10_isUnder 30 = .ok (.iinc 3 1, 3) := by decide +kernel
theorem dX10_isUnder_33 : decode cX10_isUnder 33 = .ok (.goto (-29), 3) := by decide +kernel
theorem dX10_isUnder_36 : decode cX10_isUnder 36 = .ok (.iconst 0, 1) := by decide +kernel
theorem dX10_isUnder_37 : decode cX10_isUnder 37 = .ok (.ireturn, 1) := by decide +kernel
theorem dX10_holds_0 : decode cX10_holds 0 = .ok (.iload_n 0, 1) := by decide +kernel
theorem dX10_holds_1 : decode cX10_holds 1 = .ok (.iload_n 1, 1) := by decide +kernel
theorem dX10_holds_2 : decode cX10_holds 2 = .ok (.ishr, 1) := by decide +kernel
theorem dX10_holds_3 : decode cX10_holds 3 = .ok (.iconst 1, 1) := by decide +kernel
theorem dX10_holds_4 : decode cX10_holds 4 = .ok (.iand, 1) := by decide +kernel
theorem dX10_holds_5 : decode cX10_holds 5 = .ok (.ifCond .eq 7, 3) := by decide +kernel
theorem dX10_holds_8 : decode cX10_holds 8 = .ok (.iconst 1, 1) := by decide +kernel
theorem dX10_holds_9 : decode cX10_holds 9 = .ok (.goto 4, 3) := by decide +kernel
theorem dX10_holds_12 : decode cX10_holds 12 = .ok (.iconst 0, 1) := by decide +kernel
theorem dX10_holds_13 : decode cX10_holds 13 = .ok (.ireturn, 1) := by decide +kernel
theorem dX10_least_0 : decode cX10_least 0 = .ok (.iconst 0, 1) := by decide +kernel
theorem dX10_least_1 : decode cX10_least 1 = .ok (.istore_n 1, 1) := by decide +kernel
theorem dX10_least_2 : decode cX10_least 2 = .ok (.iload_n 1, 1) := by decide +kernel
theorem dX10_least_3 : decode cX10_least 3 = .ok (.bipush 10, 2) := by decide +kernel
theorem dX10_least_5 : decode cX10_least 5 = .ok (.if_icmp .ge 19, 3) := by decide +kernel
theorem dX10_least_8 : decode cX10_least 8 = .ok (.iload_n 0, 1) := by decide +kernel
theorem dX10_least_9 : decode cX10_least 9 = .ok (.iload_n 1, 1) := by decide +kernel
theorem dX10_least_10 : decode cX10_least 10 = .ok (.invokestatic 196, 3) := by decide +kernel
theorem dX10_least_13 : decode cX10_least 13 = .ok (.ifCond .eq 5, 3) := by decide +kernel
theorem dX10_least_16 : decode cX10_least 16 = .ok (.iload_n 1, 1) := by decide +kernel
theorem dX10_least_17 : decode cX10_least 17 = .ok (.ireturn, 1) := by decide +kernel
theorem dX10_least_18 : decode cX10_least 18 = .ok (.iinc 1 1, 3) := by decide +kernel
theorem dX10_least_21 : decode cX10_least 21 = .ok (.goto (-19), 3) := by decide +kernel
theorem dX10_least_24 : decode cX10_least 24 = .ok (.iconst (-1), 1) := by decide +kernel
theorem dX10_least_25 : decode cX10_least 25 = .ok (.ireturn, 1) := by decide +kernel
theorem dX10_greatest_0 : decode cX10_greatest 0 = .ok (.bipush 9, 2) := by decide +kernel
theorem dX10_greatest_2 : decode cX10_greatest 2 = .ok (.istore_n 1, 1) := by decide +kernel
theorem dX10_greatest_3 : decode cX10_greatest 3 = .ok (.iload_n 1, 1) := by decide +kernel
theorem dX10_greatest_4 : decode cX10_greatest 4 = .ok (.ifCond .lt 19, 3) := by decide +kernel
theorem dX10_greatest_7 : decode cX10_greatest 7 = .ok (.iload_n 0, 1) := by decide +kernel
theorem dX10_greatest_8 : decode cX10_greatest 8 = .ok (.iload_n 1, 1) := by decide +kernel
theorem dX10_greatest_9 : decode cX10_greatest 9 = .ok (.invokestatic 196, 3) := by decide +kernel
theorem dX10_greatest_12 : decode cX10_greatest 12 = .ok (.ifCond .eq 5, 3) := by decide +kernel
theorem dX10_greatest_15 : decode cX10_greatest 15 = .ok (.iload_n 1, 1) := by decide +kernel
theorem dX10_greatest_16 : decode cX10_greatest 16 = .ok (.ireturn, 1) := by decide +kernel
theorem dX10_greatest_17 : decode cX10_greatest 17 = .ok (.iinc 1 (-1), 3) := by decide +kernel
theorem dX10_greatest_20 : decode cX10_greatest 20 = .ok (.goto (-17), 3) := by decide +kernel
theorem dX10_greatest_23 : decode cX10_greatest 23 = .ok (.iconst (-1), 1) := by decide +kernel
theorem dX10_greatest_24 : decode cX10_greatest 24 = .ok (.ireturn, 1) := by decide +kernel
theorem dX11_init_0 : decode cX11_init 0 = .ok (.aload_n 0, 1) := by decide +kernel
theorem dX11_init_1 : decode cX11_init 1 = .ok (.invokespecial 1, 3) := by decide +kernel
theorem dX11_init_4 : decode cX11_init 4 = .ok (.aload_n 0, 1) := by decide +kernel
theorem dX11_init_5 : decode cX11_init 5 = .ok (.bipush 52, 2) := by decide +kernel
theorem dX11_init_7 : decode cX11_init 7 = .ok (.newarray .int, 2) := by decide +kernel
theorem dX11_init_9 : decode cX11_init 9 = .ok (.putfield 7, 3) := by decide +kernel
theorem dX11_init_12 : decode cX11_init 12 = .ok (.aload_n 0, 1) := by decide +kernel
theorem dX11_init_13 : decode cX11_init 13 = .ok (.bipush 52, 2) := by decide +kernel
theorem dX11_init_15 : decode cX11_init 15 = .ok (.newarray .int, 2) := by decide +kernel
theorem dX11_init_17 : decode cX11_init 17 = .ok (.putfield 13, 3) := by decide +kernel
theorem dX11_init_20 : decode cX11_init 20 = .ok (.aload_n 0, 1) := by decide +kernel
theorem dX11_init_21 : decode cX11_init 21 = .ok (.bipush 52, 2) := by decide +kernel
theorem dX11_init_23 : decode cX11_init 23 = .ok (.newarray .int, 2) := by decide +kernel
theorem dX11_init_25 : decode cX11_init 25 = .ok (.putfield 16, 3) := by decide +kernel
theorem dX11_init_28 : decode cX11_init 28 = .ok (.aload_n 0, 1) := by decide +kernel
theorem dX11_init_29 : decode cX11_init 29 = .ok (.bipush 52, 2) := by decide +kernel
theorem dX11_init_31 : decode cX11_init 31 = .ok (.newarray .int, 2) := by decide +kernel
theorem dX11_init_33 : decode cX11_init 33 = .ok (.putfield 19, 3) := by decide +kernel
theorem dX11_init_36 : decode cX11_init 36 = .ok (.aload_n 0, 1) := by decide +kernel
theorem dX11_init_37 : decode cX11_init 37 = .ok (.bipush 8, 2) := by decide +kernel
theorem dX11_init_39 : decode cX11_init 39 = .ok (.newarray .int, 2) := by decide +kernel
theorem dX11_init_41 : decode cX11_init 41 = .ok (.putfield 22, 3) := by decide +kernel
theorem dX11_init_44 : decode cX11_init 44 = .ok (.aload_n 0, 1) := by decide +kernel
theorem dX11_init_45 : decode cX11_init 45 = .ok (.bipush 120, 2) := by decide +kernel
theorem dX11_init_47 : decode cX11_init 47 = .ok (.newarray .int, 2) := by decide +kernel
theorem dX11_init_49 : decode cX11_init 49 = .ok (.putfield 25, 3) := by decide +kernel
theorem dX11_init_52 : decode cX11_init 52 = .ok (.aload_n 0, 1) := by decide +kernel
theorem dX11_init_53 : decode cX11_init 53 = .ok (.iconst 4, 1) := by decide +kernel
theorem dX11_init_54 : decode cX11_init 54 = .ok (.newarray .int, 2) := by decide +kernel
theorem dX11_init_56 : decode cX11_init 56 = .ok (.dup, 1) := by decide +kernel
theorem dX11_init_57 : decode cX11_init 57 = .ok (.iconst 0, 1) := by decide +kernel
theorem dX11_init_58 : decode cX11_init 58 = .ok (.iconst (-1), 1) := by decide +kernel
theorem dX11_init_59 : decode cX11_init 59 = .ok (.iastore, 1) := by decide +kernel
theorem dX11_init_60 : decode cX11_init 60 = .ok (.dup, 1) := by decide +kernel
theorem dX11_init_61 : decode cX11_init 61 = .ok (.iconst 1, 1) := by decide +kernel
theorem dX11_init_62 : decode cX11_init 62 = .ok (.iconst (-1), 1) := by decide +kernel
theorem dX11_init_63 : decode cX11_init 63 = .ok (.iastore, 1) := by decide +kernel
theorem dX11_init_64 : decode cX11_init 64 = .ok (.dup, 1) := by decide +kernel
theorem dX11_init_65 : decode cX11_init 65 = .ok (.iconst 2, 1) := by decide +kernel
theorem dX11_init_66 : decode cX11_init 66 = .ok (.iconst (-1), 1) := by decide +kernel
theorem dX11_init_67 : decode cX11_init 67 = .ok (.iastore, 1) := by decide +kernel
theorem dX11_init_68 : decode cX11_init 68 = .ok (.dup, 1) := by decide +kernel
theorem dX11_init_69 : decode cX11_init 69 = .ok (.iconst 3, 1) := by decide +kernel
theorem dX11_init_70 : decode cX11_init 70 = .ok (.iconst (-1), 1) := by decide +kernel
theorem dX11_init_71 : decode cX11_init 71 = .ok (.iastore, 1) := by decide +kernel
theorem dX11_init_72 : decode cX11_init 72 = .ok (.putfield 28, 3) := by decide +kernel
theorem dX11_init_75 : decode cX11_init 75 = .ok (.aload_n 0, 1) := by decide +kernel
theorem dX11_init_76 : decode cX11_init 76 = .ok (.iconst 4, 1) := by decide +kernel
theorem dX11_init_77 : decode cX11_init 77 = .ok (.newarray .int, 2) := by decide +kernel
theorem dX11_init_79 : decode cX11_init 79 = .ok (.putfield 31, 3) := by decide +kernel
theorem dX11_init_82 : decode cX11_init 82 = .ok (.aload_n 0, 1) := by decide +kernel
theorem dX11_init_83 : decode cX11_init 83 = .ok (.sipush 160, 3) := by decide +kernel
theorem dX11_init_86 : decode cX11_init 86 = .ok (.newarray .long, 2) := by decide +kernel
theorem dX11_init_88 : decode cX11_init 88 = .ok (.putfield 34, 3) := by decide +kernel
theorem dX11_init_91 : decode cX11_init 91 = .ok (.aload_n 0, 1) := by decide +kernel
theorem dX11_init_92 : decode cX11_init 92 = .ok (.getfield 7, 3) := by decide +kernel
theorem dX11_init_95 : decode cX11_init 95 = .ok (.iconst 3, 1) := by decide +kernel
theorem dX11_init_96 : decode cX11_init 96 = .ok (.iconst (-1), 1) := by decide +kernel
theorem dX11_init_97 : decode cX11_init 97 = .ok (.iastore, 1) := by decide +kernel
theorem dX11_init_98 : decode cX11_init 98 = .ok (.return_, 1) := by decide +kernel
theorem dX11_isIn_0 : decode cX11_isIn 0 = .ok (.lload_n 0, 1) := by decide +kernel
theorem dX11_isIn_1 : decode cX11_isIn 1 = .ok (.lload_n 2, 1) := by decide +kernel
theorem dX11_isIn_2 : decode cX11_isIn 2 = .ok (.lcmp, 1) := by decide +kernel
theorem dX11_isIn_3 : decode cX11_isIn 3 = .ok (.ifCond .lt 14, 3) := by decide +kernel
theorem dX11_isIn_6 : decode cX11_isIn 6 = .ok (.lload_n 0, 1) := by decide +kernel
theorem dX11_isIn_7 : decode cX11_isIn 7 = .ok (.lload 4, 2) := by decide +kernel
theorem dX11_isIn_9 : decode cX11_isIn 9 = .ok (.lcmp, 1) := by decide +kernel
theorem dX11_isIn_10 : decode cX11_isIn 10 = .ok (.ifCond .gt 7, 3) := by decide +kernel
theorem dX11_isIn_13 : decode cX11_isIn 13 = .ok (.iconst 1, 1) := by decide +kernel
theorem dX11_isIn_14 : decode cX11_isIn 14 = .ok (.goto 4, 3) := by decide +kernel
theorem dX11_isIn_17 : decode cX11_isIn 17 = .ok (.iconst 0, 1) := by decide +kernel
theorem dX11_isIn_18 : decode cX11_isIn 18 = .ok (.ireturn, 1) := by decide +kernel
theorem dX11_finds_0 : decode cX11_finds 0 = .ok (.aload_n 0, 1) := by decide +kernel
theorem dX11_finds_1 : decode cX11_finds 1 = .ok (.getfield 22, 3) := by decide +kernel
theorem dX11_finds_4 : decode cX11_finds 4 = .ok (.iconst 0, 1) := by decide +kernel
theorem dX11_finds_5 : decode cX11_finds 5 = .ok (.dup2, 1) := by decide +kernel
theorem dX11_finds_6 : decode cX11_finds 6 = .ok (.iaload, 1) := by decide +kernel
theorem dX11_finds_7 : decode cX11_finds 7 = .ok (.iconst 1, 1) := by decide +kernel
theorem dX11_finds_8 : decode cX11_finds 8 = .ok (.iadd, 1) := by decide +kernel
theorem dX11_finds_9 : decode cX11_finds 9 = .ok (.iastore, 1) := by decide +kernel
theorem dX11_finds_10 : decode cX11_finds 10 = .ok (.aload_n 0, 1) := by decide +kernel
theorem dX11_finds_11 : decode cX11_finds 11 = .ok (.getfield 22, 3) := by decide +kernel
theorem dX11_finds_14 : decode cX11_finds 14 = .ok (.ldc 38, 2) := by decide +kernel
theorem dX11_finds_16 : decode cX11_finds 16 = .ok (.iload_n 1, 1) := by decide +kernel
theorem dX11_finds_17 : decode cX11_finds 17 = .ok (.isub, 1) := by decide +kernel
theorem dX11_finds_18 : decode cX11_finds 18 = .ok (.iconst 1, 1) := by decide +kernel
theorem dX11_finds_19 : decode cX11_finds 19 = .ok (.iadd, 1) := by decide +kernel
theorem dX11_finds_20 : decode cX11_finds 20 = .ok (.dup2, 1) := by decide +kernel
theorem dX11_finds_21 : decode cX11_finds 21 = .ok (.iaload, 1) := by decide +kernel
theorem dX11_finds_22 : decode cX11_finds 22 = .ok (.iconst 1, 1) := by decide +kernel
theorem dX11_finds_23 : decode cX11_finds 23 = .ok (.iadd, 1) := by decide +kernel
theorem dX11_finds_24 : decode cX11_finds 24 = .ok (.iastore, 1) := by decide +kernel
theorem dX11_finds_25 : decode cX11_finds 25 = .ok (.iload_n 1, 1) := by decide +kernel
theorem dX11_finds_26 : decode cX11_finds 26 = .ok (.ireturn, 1) := by decide +kernel
theorem dX11_becomes_0 : decode cX11_becomes 0 = .ok (.aload_n 0, 1) := by decide +kernel
theorem dX11_becomes_1 : decode cX11_becomes 1 = .ok (.getfield 7, 3) := by decide +kernel
theorem dX11_becomes_4 : decode cX11_becomes 4 = .ok (.iload_n 1, 1) := by decide +kernel
theorem dX11_becomes_5 : decode cX11_becomes 5 = .ok (.iaload, 1) := by decide +kernel
theorem dX11_becomes_6 : decode cX11_becomes 6 = .ok (.istore_n 3, 1) := by decide +kernel
theorem dX11_becomes_7 : decode cX11_becomes 7 = .ok (.aload_n 0, 1) := by decide +kernel
theorem dX11_becomes_8 : decode cX11_becomes 8 = .ok (.getfield 7, 3) := by decide +kernel
theorem dX11_becomes_11 : decode cX11_becomes 11 = .ok (.iload_n 1, 1) := by decide +kernel
theorem dX11_becomes_12 : decode cX11_becomes 12 = .ok (.iload_n 2, 1) := by decide +kernel
theorem dX11_becomes_13 : decode cX11_becomes 13 = .ok (.iastore, 1) := by decide +kernel
theorem dX11_becomes_14 : decode cX11_becomes 14 = .ok (.iload_n 3, 1) := by decide +kernel
theorem dX11_becomes_15 : decode cX11_becomes 15 = .ok (.ireturn, 1) := by decide +kernel
theorem dX11_copyRow_0 : decode cX11_copyRow 0 = .ok (.iconst 0, 1) := by decide +kernel
theorem dX11_copyRow_1 : decode cX11_copyRow 1 = .ok (.istore_n 2, 1) := by decide +kernel
theorem dX11_copyRow_2 : decode cX11_copyRow 2 = .ok (.iload_n 2, 1) := by decide +kernel
theorem dX11_copyRow_3 : decode cX11_copyRow 3 = .ok (.bipush 52, 2) := by decide +kernel
theorem dX11_copyRow_5 : decode cX11_copyRow 5 = .ok (.if_icmp .ge 15, 3) := by decide +kernel
theorem dX11_copyRow_8 : decode cX11_copyRow 8 = .ok (.aload_n 1, 1) := by decide +kernel
theorem dX11_copyRow_9 : decode cX11_copyRow 9 = .ok (.iload_n 2, 1) := by decide +kernel
theorem dX11_copyRow_10 : decode cX11_copyRow 10 = .ok (.aload_n 0, 1) := by decide +kernel
theorem dX11_copyRow_11 : decode cX11_copyRow 11 = .ok (.iload_n 2, 1) := by decide +kernel
theorem dX11_copyRow_12 : decode cX11_copyRow 12 = .ok (.iaload, 1) := by decide +kernel
theorem dX11_copyRow_13 : decode cX11_copyRow 13 = .ok (.iastore, 1) := by decide +kernel
theorem dX11_copyRow_14 : decode cX11_copyRow 14 = .ok (.iinc 2 1, 3) := by decide +kernel
theorem dX11_copyRow_17 : decode cX11_copyRow 17 = .ok (.goto (-15), 3) := by decide +kernel
theorem dX11_copyRow_20 : decode cX11_copyRow 20 = .ok (.return_, 1) := by decide +kernel
theorem dX11_isSecret_0 : decode cX11_isSecret 0 = .ok (.iload_n 0, 1) := by decide +kernel
theorem dX11_isSecret_1 : decode cX11_isSecret 1 = .ok (.ifCond .lt 13, 3) := by decide +kernel
theorem dX11_isSecret_4 : decode cX11_isSecret 4 = .ok (.iload_n 0, 1) := by decide +kernel
theorem dX11_isSecret_5 : decode cX11_isSecret 5 = .ok (.bipush 10, 2) := by decide +kernel
theorem dX11_isSecret_7 : decode cX11_isSecret 7 = .ok (.if_icmp .ge 7, 3) := by decide +kernel
theorem dX11_isSecret_10 : decode cX11_isSecret 10 = .ok (.iconst 1, 1) := by decide +kernel
theorem dX11_isSecret_11 : decode cX11_isSecret 11 = .ok (.goto 4, 3) := by decide +kernel
theorem dX11_isSecret_14 : decode cX11_isSecret 14 = .ok (.iconst 0, 1) := by decide +kernel
theorem dX11_isSecret_15 : decode cX11_isSecret 15 = .ok (.ireturn, 1) := by decide +kernel
theorem dX11_isOne_0 : decode cX11_isOne 0 = .ok (.iload_n 1, 1) := by decide +kernel
theorem dX11_isOne_1 : decode cX11_isOne 1 = .ok (.ifCond .lt 17, 3) := by decide +kernel
theorem dX11_isOne_4 : decode cX11_isOne 4 = .ok (.iload_n 1, 1) := by decide +kernel
theorem dX11_isOne_5 : decode cX11_isOne 5 = .ok (.aload_n 0, 1) := by decide +kernel
theorem dX11_isOne_6 : decode cX11_isOne 6 = .ok (.getfield 7, 3) := by decide +kernel
theorem dX11_isOne_9 : decode cX11_isOne 9 = .ok (.iconst 0, 1) := by decide +kernel
theorem dX11_isOne_10 : decode cX11_isOne 10 = .ok (.iaload, 1) := by decide +kernel
theorem dX11_isOne_11 : decode cX11_isOne 11 = .ok (.if_icmp .ge 7, 3) := by decide +kernel
theorem dX11_isOne_14 : decode cX11_isOne 14 = .ok (.iconst 1, 1) := by decide +kernel
theorem dX11_isOne_15 : decode cX11_isOne 15 = .ok (.goto 4, 3) := by decide +kernel
theorem dX11_isOne_18 : decode cX11_isOne 18 = .ok (.iconst 0, 1) := by decide +kernel
theorem dX11_isOne_19 : decode cX11_isOne 19 = .ok (.ireturn, 1) := by decide +kernel
theorem dX11_at_0 : decode cX11_at 0 = .ok (.iconst 4, 1) := by decide +kernel
theorem dX11_at_1 : decode cX11_at 1 = .ok (.bipush 6, 2) := by decide +kernel
theorem dX11_at_3 : decode cX11_at 3 = .ok (.iload_n 0, 1) := by decide +kernel
theorem dX11_at_4 : decode cX11_at 4 = .ok (.imul, 1) := by decide +kernel
theorem dX11_at_5 : decode cX11_at 5 = .ok (.iadd, 1) := by decide +kernel
theorem dX11_at_6 : decode cX11_at 6 = .ok (.iload_n 1, 1) := by decide +kernel
theorem dX11_at_7 : decode cX11_at 7 = .ok (.iadd, 1) := by decide +kernel
theorem dX11_at_8 : decode cX11_at 8 = .ok (.ireturn, 1) := by decide +kernel
theorem dX11_its_0 : decode cX11_its 0 = .ok (.aload_n 0, 1) := by decide +kernel
theorem dX11_its_1 : decode cX11_its 1 = .ok (.getfield 7, 3) := by decide +kernel
theorem dX11_its_4 : decode cX11_its 4 = .ok (.iconst 4, 1) := by decide +kernel
theorem dX11_its_5 : decode cX11_its 5 = .ok (.bipush 6, 2) := by decide +kernel
theorem dX11_its_7 : decode cX11_its 7 = .ok (.iload_n 1, 1) := by decide +kernel
theorem dX11_its_8 : decode cX11_its 8 = .ok (.imul, 1) := by decide +kernel
theorem dX11_its_9 : decode cX11_its 9 = .ok (.iadd, 1) := by decide +kernel
theorem dX11_its_10 : decode cX11_its 10 = .ok (.iload_n 2, 1) := by decide +kernel
theorem dX11_its_11 : decode cX11_its 11 = .ok (.iadd, 1) := by decide +kernel
theorem dX11_its_12 : decode cX11_its 12 = .ok (.iaload, 1) := by decide +kernel
theorem dX11_its_13 : decode cX11_its 13 = .ok (.ireturn, 1) := by decide +kernel
theorem dX11_many_0 : decode cX11_many 0 = .ok (.iconst 0, 1) := by decide +kernel
theorem dX11_many_1 : decode cX11_many 1 = .ok (.istore_n 1, 1) := by decide +kernel
theorem dX11_many_2 : decode cX11_many 2 = .ok (.iload_n 0, 1) := by decide +kernel
theorem dX11_many_3 : decode cX11_many 3 = .ok (.istore_n 2, 1) := by decide +kernel
theorem dX11_many_4 : decode cX11_many 4 = .ok (.iload_n 2, 1) := by decide +kernel
theorem dX11_many_5 : decode cX11_many 5 = .ok (.ifCond .eq 15, 3) := by decide +kernel
theorem dX11_many_8 : decode cX11_many 8 = .ok (.iinc 1 1, 3) := by decide +kernel
theorem dX11_many_11 : decode cX11_many 11 = .ok (.iload_n 2, 1) := by decide +kernel
theorem dX11_many_12 : decode cX11_many 12 = .ok (.iload_n 2, 1) := by decide +kernel
theorem dX11_many_13 : decode cX11_many 13 = .ok (.iconst 1, 1) := by decide +kernel
theorem dX11_many_14 : decode cX11_many 14 = .ok (.isub, 1) := by decide +kernel
theorem dX11_many_15 : decode cX11_many 15 = .ok (.iand, 1) := by decide +kernel
theorem dX11_many_16 : decode cX11_many 16 = .ok (.istore_n 2, 1) := by decide +kernel
theorem dX11_many_17 : decode cX11_many 17 = .ok (.goto (-13), 3) := by decide +kernel
theorem dX11_many_20 : decode cX11_many 20 = .ok (.iload_n 1, 1) := by decide +kernel
theorem dX11_many_21 : decode cX11_many 21 = .ok (.ireturn, 1) := by decide +kernel
theorem dX11_orNone_0 : decode cX11_orNone 0 = .ok (.iload_n 1, 1) := by decide +kernel
theorem dX11_orNone_1 : decode cX11_orNone 1 = .ok (.ifCond .ge 12, 3) := by decide +kernel
theorem dX11_orNone_4 : decode cX11_orNone 4 = .ok (.aload_n 0, 1) := by decide +kernel
theorem dX11_orNone_5 : decode cX11_orNone 5 = .ok (.ldc 39, 2) := by decide +kernel
theorem dX11_orNone_7 : decode cX11_orNone 7 = .ok (.invokevirtual 40, 3) := by decide +kernel
theorem dX11_orNone_10 : decode cX11_orNone 10 = .ok (.goto 4, 3) := by decide +kernel
theorem dX11_orNone_13 : decode cX11_orNone 13 = .ok (.iload_n 1, 1) := by decide +kernel
theorem dX11_orNone_14 : decode cX11_orNone 14 = .ok (.ireturn, 1) := by decide +kernel
theorem dX11_first_0 : decode cX11_first 0 = .ok (.iconst 0, 1) := by decide +kernel
theorem dX11_first_1 : decode cX11_first 1 = .ok (.istore_n 1, 1) := by decide +kernel
theorem dX11_first_2 : decode cX11_first 2 = .ok (.iload_n 1, 1) := by decide +kernel
theorem dX11_first_3 : decode cX11_first 3 = .ok (.bipush 10, 2) := by decide +kernel
theorem dX11_first_5 : decode cX11_first 5 = .ok (.if_icmp .ge 17, 3) := by decide +kernel
theorem dX11_first_8 : decode cX11_first 8 = .ok (.iload_n 0, 1) := by decide +kernel
theorem dX11_first_9 : decode cX11_first 9 = .ok (.iload_n 1, 1) := by decide +kernel
theorem dX11_first_10 : decode cX11_first 10 = .ok (.ishr, 1) := by decide +kernel
theorem dX11_first_11 : decode cX11_first 11 = .ok (.iconst 1, 1) := by decide +kernel
theorem dX11_first_12 : decode cX11_first 12 = .ok (.iand, 1) := by decide +kernel
theorem dX11_first_13 : decode cX11_first 13 = .ok (.ifCond .ne 9, 3) := by decide +kernel
theorem dX11_first_16 : decode cX11_first 16 = .ok (.iinc 1 1, 3) := by decide +kernel
theorem dX11_first_19 : decode cX11_first 19 = .ok (.goto (-17), 3) := by decide +kernel
theorem dX11_first_22 : decode cX11_first 22 = .ok (.iload_n 1, 1) := by decide +kernel
theorem dX11_first_23 : decode cX11_first 23 = .ok (.bipush 10, 2) := by decide +kernel
theorem dX11_first_25 : decode cX11_first 25 = .ok (.if_icmp .ge 7, 3) := by decide +kernel
theorem dX11_first_28 : decode cX11_first 28 = .ok (.iload_n 1, 1) := by decide +kernel
theorem dX11_first_29 : decode cX11_first 29 = .ok (.goto 4, 3) := by decide +kernel
theorem dX11_first_32 : decode cX11_first 32 = .ok (.iconst (-1), 1) := by decide +kernel
theorem dX11_first_33 : decode cX11_first 33 = .ok (.ireturn, 1) := by decide +kernel
theorem dX11_last_0 : decode cX11_last 0 = .ok (.bipush 9, 2) := by decide +kernel
theorem dX11_last_2 : decode cX11_last 2 = .ok (.istore_n 1, 1) := by decide +kernel
theorem dX11_last_3 : decode cX11_last 3 = .ok (.iload_n 1, 1) := by decide +kernel
theorem dX11_last_4 : decode cX11_last 4 = .ok (.ifCond .lt 17, 3) := by decide +kernel
theorem dX11_last_7 : decode cX11_last 7 = .ok (.iload_n 0, 1) := by decide +kernel
theorem dX11_last_8 : decode cX11_last 8 = .ok (.iload_n 1, 1) := by decide +kernel
theorem dX11_last_9 : decode cX11_last 9 = .ok (.ishr, 1) := by decide +kernel
theorem dX11_last_10 : decode cX11_last 10 = .ok (.iconst 1, 1) := by decide +kernel
theorem dX11_last_11 : decode cX11_last 11 = .ok (.iand, 1) := by decide +kernel
theorem dX11_last_12 : decode cX11_last 12 = .ok (.ifCond .ne 9, 3) := by decide +kernel
theorem dX11_last_15 : decode cX11_last 15 = .ok (.iinc 1 (-1), 3) := by decide +kernel
theorem dX11_last_18 : decode cX11_last 18 = .ok (.goto (-15), 3) := by decide +kernel
theorem dX11_last_21 : decode cX11_last 21 = .ok (.iload_n 1, 1) := by decide +kernel
theorem dX11_last_22 : decode cX11_last 22 = .ok (.ireturn, 1) := by decide +kernel
theorem dX11_sham_0 : decode cX11_sham 0 = .ok (.iload_n 1, 1) := by decide +kernel
theorem dX11_sham_1 : decode cX11_sham 1 = .ok (.i2l, 1) := by decide +kernel
theorem dX11_sham_2 : decode cX11_sham 2 = .ok (.lconst 0, 1) := by decide +kernel
theorem dX11_sham_3 : decode cX11_sham 3 = .ok (.ldc2_w 44, 3) := by decide +kernel
theorem dX11_sham_6 : decode cX11_sham 6 = .ok (.invokestatic 46, 3) := by decide +kernel
theorem dX11_sham_9 : decode cX11_sham 9 = .ok (.ifCond .eq 12, 3) := by decide +kernel
theorem dX11_sham_12 : decode cX11_sham 12 = .ok (.aload_n 0, 1) := by decide +kernel
theorem dX11_sham_13 : decode cX11_sham 13 = .ok (.iconst 2, 1) := by decide +kernel
theorem dX11_sham_14 : decode cX11_sham 14 = .ok (.iload_n 1, 1) := by decide +kernel
theorem dX11_sham_15 : decode cX11_sham 15 = .ok (.invokevirtual 50, 3) := by decide +kernel
theorem dX11_sham_18 : decode cX11_sham 18 = .ok (.goto 9, 3) := by decide +kernel
theorem dX11_sham_21 : decode cX11_sham 21 = .ok (.aload_n 0, 1) := by decide +kernel
theorem dX11_sham_22 : decode cX11_sham 22 = .ok (.ldc 38, 2) := by decide +kernel
theorem dX11_sham_24 : decode cX11_sham 24 = .ok (.invokevirtual 40, 3) := by decide +kernel
theorem dX11_sham_27 : decode cX11_sham 27 = .ok (.ireturn, 1) := by decide +kernel
theorem dX11_who_0 : decode cX11_who 0 = .ok (.iload_n 1, 1) := by decide +kernel
theorem dX11_who_1 : decode cX11_who 1 = .ok (.invokestatic 54, 3) := by decide +kernel
theorem dX11_who_4 : decode cX11_who 4 = .ok (.ifCond .eq 13, 3) := by decide +kernel
theorem dX11_who_7 : decode cX11_who 7 = .ok (.iload_n 2, 1) := by decide +kernel
theorem dX11_who_8 : decode cX11_who 8 = .ok (.i2l, 1) := by decide +kernel
theorem dX11_who_9 : decode cX11_who 9 = .ok (.lconst 0, 1) := by decide +kernel
theorem dX11_who_10 : decode cX11_who 10 = .ok (.lconst 1, 1) := by decide +kernel
theorem dX11_who_11 : decode cX11_who 11 = .ok (.invokestatic 46, 3) := by decide +kernel
theorem dX11_who_14 : decode cX11_who 14 = .ok (.ifCond .ne 10, 3) := by decide +kernel
theorem dX11_who_17 : decode cX11_who 17 = .ok (.aload_n 0, 1) := by decide +kernel
theorem dX11_who_18 : decode cX11_who 18 = .ok (.ldc 38, 2) := by decide +kernel
theorem dX11_who_20 : decode cX11_who 20 = .ok (.invokevirtual 40, 3) := by decide +kernel
theorem dX11_who_23 : decode cX11_who 23 = .ok (.ireturn, 1) := by decide +kernel
theorem dX11_who_24 : decode cX11_who 24 = .ok (.iconst 0, 1) := by decide +kernel
theorem dX11_who_25 : decode cX11_who 25 = .ok (.istore_n 3, 1) := by decide +kernel
theorem dX11_who_26 : decode cX11_who 26 = .ok (.iconst 0, 1) := by decide +kernel
theorem dX11_who_27 : decode cX11_who 27 = .ok (.istore 4, 2) := by decide +kernel
theorem dX11_who_29 : decode cX11_who 29 = .ok (.iload 4, 2) := by decide +kernel
theorem dX11_who_31 : decode cX11_who 31 = .ok (.aload_n 0, 1) := by decide +kernel
theorem dX11_who_32 : decode cX11_who 32 = .ok (.getfield 7, 3) := by decide +kernel
theorem dX11_who_35 : decode cX11_who 35 = .ok (.iconst 0, 1) := by decide +kernel
theorem dX11_who_36 : decode cX11_who 36 = .ok (.iaload, 1) := by decide +kernel
theorem dX11_who_37 : decode cX11_who 37 = .ok (.if_icmp .ge 34, 3) := by decide +kernel
theorem dX11_who_40 : decode cX11_who 40 = .ok (.iload_n 3, 1) := by decide +kernel
theorem dX11_who_41 : decode cX11_who 41 = .ok (.aload_n 0, 1) := by decide +kernel
theorem dX11_who_42 : decode cX11_who 42 = .ok (.iload 4, 2) := by decide +kernel
theorem dX11_who_44 : decode cX11_who 44 = .ok (.iload_n 2, 1) := by decide +kernel
theorem dX11_who_45 : decode cX11_who 45 = .ok (.ifCond .ne 7, 3) := by decide +kernel
theorem dX11_who_48 : decode cX11_who 48 = .ok (.iconst 1, 1) := by decide +kernel
theorem dX11_who_49 : decode cX11_who 49 = .ok (.goto 4, 3) := by decide +kernel
theorem dX11_who_52 : decode cX11_who 52 = .ok (.iconst 2, 1) := by decide +kernel
theorem dX11_who_53 : decode cX11_who 53 = .ok (.invokevirtual 58, 3) := by decide +kernel
theorem dX11_who_56 : decode cX11_who 56 = .ok (.iload_n 1, 1) := by decide +kernel
theorem dX11_who_57 : decode cX11_who 57 = .ok (.ishr, 1) := by decide +kernel
theorem dX11_who_58 : decode cX11_who 58 = .ok (.iconst 1, 1) := by decide +kernel
theorem dX11_who_59 : decode cX11_who 59 = .ok (.iand, 1) := by decide +kernel
theorem dX11_who_60 : decode cX11_who 60 = .ok (.iload 4, 2) := by decide +kernel
theorem dX11_who_62 : decode cX11_who 62 = .ok (.ishl, 1) := by decide +kernel
theorem dX11_who_63 : decode cX11_who 63 = .ok (.ior, 1) := by decide +kernel
theorem dX11_who_64 : decode cX11_who 64 = .ok (.istore_n 3, 1) := by decide +kernel
theorem dX11_who_65 : decode cX11_who 65 = .ok (.iinc 4 1, 3) := by decide +kernel
theorem dX11_who_68 : decode cX11_who 68 = .ok (.goto (-39), 3) := by decide +kernel
theorem dX11_who_71 : decode cX11_who 71 = .ok (.iload_n 3, 1) := by decide +kernel
theorem dX11_who_72 : decode cX11_who 72 = .ok (.ireturn, 1) := by decide +kernel
theorem dX11_comes_0 : decode cX11_comes 0 = .ok (.aload_n 0, 1) := by decide +kernel
theorem dX11_comes_1 : decode cX11_comes 1 = .ok (.getfield 7, 3) := by decide +kernel
theorem dX11_comes_4 : decode cX11_comes 4 = .ok (.iconst 0, 1) := by decide +kernel
theorem dX11_comes_5 : decode cX11_comes 5 = .ok (.iaload, 1) := by decide +kernel
theorem dX11_comes_6 : decode cX11_comes 6 = .ok (.istore_n 2, 1) := by decide +kernel
theorem dX11_comes_7 : decode cX11_comes 7 = .ok (.aload_n 0, 1) := by decide +kernel
theorem dX11_comes_8 : decode cX11_comes 8 = .ok (.getfield 7, 3) := by decide +kernel
theorem dX11_comes_11 : decode cX11_comes 11 = .ok (.iload_n 2, 1) := by decide +kernel
theorem dX11_comes_12 : decode cX11_comes 12 = .ok (.iconst 0, 1) := by decide +kernel
theorem dX11_comes_13 : decode cX11_comes 13 = .ok (.invokestatic 61, 3) := by decide +kernel
theorem dX11_comes_16 : decode cX11_comes 16 = .ok (.iload_n 1, 1) := by decide +kernel
theorem dX11_comes_17 : decode cX11_comes 17 = .ok (.iastore, 1) := by decide +kernel
theorem dX11_comes_18 : decode cX11_comes 18 = .ok (.aload_n 0, 1) := by decide +kernel
theorem dX11_comes_19 : decode cX11_comes 19 = .ok (.getfield 7, 3) := by decide +kernel
theorem dX11_comes_22 : decode cX11_comes 22 = .ok (.iload_n 2, 1) := by decide +kernel
theorem dX11_comes_23 : decode cX11_comes 23 = .ok (.iconst 1, 1) := by decide +kernel
theorem dX11_comes_24 : decode cX11_comes 24 = .ok (.invokestatic 61, 3) := by decide +kernel
theorem dX11_comes_27 : decode cX11_comes 27 = .ok (.iconst 0, 1) := by decide +kernel
theorem dX11_comes_28 : decode cX11_comes 28 = .ok (.iastore, 1) := by decide +kernel
theorem dX11_comes_29 : decode cX11_comes 29 = .ok (.aload_n 0, 1) := by decide +kernel
theorem dX11_comes_30 : decode cX11_comes 30 = .ok (.getfield 7, 3) := by decide +kernel
theorem dX11_comes_33 : decode cX11_comes 33 = .ok (.iload_n 2, 1) := by decide +kernel
theorem dX11_comes_34 : decode cX11_comes 34 = .ok (.iconst 2, 1) := by decide +kernel
theorem dX11_comes_35 : decode cX11_comes 35 = .ok (.invokestatic 61, 3) := by decide +kernel
theorem dX11_comes_38 : decode cX11_comes 38 = .ok (.iconst 0, 1) := by decide +kernel
theorem dX11_comes_39 : decode cX11_comes 39 = .ok (.iastore, 1) := by decide +kernel
theorem dX11_comes_40 : decode cX11_comes 40 = .ok (.aload_n 0, 1) := by decide +kernel
theorem dX11_comes_41 : decode cX11_comes 41 = .ok (.getfield 7, 3) := by decide +kernel
theorem dX11_comes_44 : decode cX11_comes 44 = .ok (.iload_n 2, 1) := by decide +kernel
theorem dX11_comes_45 : decode cX11_comes 45 = .ok (.iconst 3, 1) := by decide +kernel
theorem dX11_comes_46 : decode cX11_comes 46 = .ok (.invokestatic 61, 3) := by decide +kernel
theorem dX11_comes_49 : decode cX11_comes 49 = .ok (.iconst (-1), 1) := by decide +kernel
theorem dX11_comes_50 : decode cX11_comes 50 = .ok (.iastore, 1) := by decide +kernel
theorem dX11_comes_51 : decode cX11_comes 51 = .ok (.aload_n 0, 1) := by decide +kernel
theorem dX11_comes_52 : decode cX11_comes 52 = .ok (.getfield 7, 3) := by decide +kernel
theorem dX11_comes_55 : decode cX11_comes 55 = .ok (.iload_n 2, 1) := by decide +kernel
theorem dX11_comes_56 : decode cX11_comes 56 = .ok (.iconst 4, 1) := by decide +kernel
theorem dX11_comes_57 : decode cX11_comes 57 = .ok (.invokestatic 61, 3) := by decide +kernel
theorem dX11_comes_60 : decode cX11_comes 60 = .ok (.iconst 0, 1) := by decide +kernel
theorem dX11_comes_61 : decode cX11_comes 61 = .ok (.iastore, 1) := by decide +kernel
theorem dX11_comes_62 : decode cX11_comes 62 = .ok (.aload_n 0, 1) := by decide +kernel
theorem dX11_comes_63 : decode cX11_comes 63 = .ok (.getfield 7, 3) := by decide +kernel
theorem dX11_comes_66 : decode cX11_comes 66 = .ok (.iload_n 2, 1) := by decide +kernel
theorem dX11_comes_67 : decode cX11_comes 67 = .ok (.iconst 5, 1) := by decide +kernel
theorem dX11_comes_68 : decode cX11_comes 68 = .ok (.invokestatic 61, 3) := by decide +kernel
theorem dX11_comes_71 : decode cX11_comes 71 = .ok (.iconst 0, 1) := by decide +kernel
theorem dX11_comes_72 : decode cX11_comes 72 = .ok (.iastore, 1) := by decide +kernel
theorem dX11_comes_73 : decode cX11_comes 73 = .ok (.aload_n 0, 1) := by decide +kernel
theorem dX11_comes_74 : decode cX11_comes 74 = .ok (.getfield 7, 3) := by decide +kernel
theorem dX11_comes_77 : decode cX11_comes 77 = .ok (.iconst 0, 1) := by decide +kernel
theorem dX11_comes_78 : decode cX11_comes 78 = .ok (.dup2, 1) := by decide +kernel
theorem dX11_comes_79 : decode cX11_comes 79 = .ok (.iaload, 1) := by decide +kernel
theorem dX11_comes_80 : decode cX11_comes 80 = .ok (.iconst 1, 1) := by decide +kernel
theorem dX11_comes_81 : decode cX11_comes 81 = .ok (.iadd, 1) := by decide +kernel
theorem dX11_comes_82 : decode cX11_comes 82 = .ok (.iastore, 1) := by decide +kernel
theorem dX11_comes_83 : decode cX11_comes 83 = .ok (.return_, 1) := by decide +kernel
theorem dX11_person_0 : decode cX11_person 0 = .ok (.iload_n 1, 1) := by decide +kernel
theorem dX11_person_1 : decode cX11_person 1 = .ok (.i2l, 1) := by decide +kernel
theorem dX11_person_2 : decode cX11_person 2 = .ok (.lconst 0, 1) := by decide +kernel
theorem dX11_person_3 : decode cX11_person 3 = .ok (.ldc2_w 64, 3) := by decide +kernel
theorem dX11_person_6 : decode cX11_person 6 = .ok (.invokestatic 46, 3) := by decide +kernel
theorem dX11_person_9 : decode cX11_person 9 = .ok (.ifCond .ne 10, 3) := by decide +kernel
theorem dX11_person_12 : decode cX11_person 12 = .ok (.aload_n 0, 1) := by decide +kernel
theorem dX11_person_13 : decode cX11_person 13 = .ok (.ldc 38, 2) := by decide +kernel
theorem dX11_person_15 : decode cX11_person 15 = .ok (.invokevirtual 40, 3) := by decide +kernel
theorem dX11_person_18 : decode cX11_person 18 = .ok (.ireturn, 1) := by decide +kernel
theorem dX11_person_19 : decode cX11_person 19 = .ok (.aload_n 0, 1) := by decide +kernel
theorem dX11_person_20 : decode cX11_person 20 = .ok (.getfield 7, 3) := by decide +kernel
theorem dX11_person_23 : decode cX11_person 23 = .ok (.iconst 0, 1) := by decide +kernel
theorem dX11_person_24 : decode cX11_person 24 = .ok (.iaload, 1) := by decide +kernel
theorem dX11_person_25 : decode cX11_person 25 = .ok (.bipush 8, 2) := by decide +kernel
theorem dX11_person_27 : decode cX11_person 27 = .ok (.if_icmp .ne 10, 3) := by decide +kernel
theorem dX11_person_30 : decode cX11_person 30 = .ok (.aload_n 0, 1) := by decide +kernel
theorem dX11_person_31 : decode cX11_person 31 = .ok (.ldc 66, 2) := by decide +kernel
theorem dX11_person_33 : decode cX11_person 33 = .ok (.invokevirtual 40, 3) := by decide +kernel
theorem dX11_person_36 : decode cX11_person 36 = .ok (.ireturn, 1) := by decide +kernel
theorem dX11_person_37 : decode cX11_person 37 = .ok (.aload_n 0, 1) := by decide +kernel
theorem dX11_person_38 : decode cX11_person 38 = .ok (.iload_n 1, 1) := by decide +kernel
theorem dX11_person_39 : decode cX11_person 39 = .ok (.invokevirtual 67, 3) := by decide +kernel
theorem dX11_person_42 : decode cX11_person 42 = .ok (.aload_n 0, 1) := by decide +kernel
theorem dX11_person_43 : decode cX11_person 43 = .ok (.getfield 7, 3) := by decide +kernel
theorem dX11_person_46 : decode cX11_person 46 = .ok (.iconst 0, 1) := by decide +kernel
theorem dX11_person_47 : decode cX11_person 47 = .ok (.iaload, 1) := by decide +kernel
theorem dX11_person_48 : decode cX11_person 48 = .ok (.iconst 1, 1) := by decide +kernel
theorem dX11_person_49 : decode cX11_person 49 = .ok (.isub, 1) := by decide +kernel
theorem dX11_person_50 : decode cX11_person 50 = .ok (.ireturn, 1) := by decide +kernel
theorem dX11_saysPlain_0 : decode cX11_saysPlain 0 = .ok (.aload_n 0, 1) := by decide +kernel
theorem dX11_saysPlain_1 : decode cX11_saysPlain 1 = .ok (.iload_n 1, 1) := by decide +kernel
theorem dX11_saysPlain_2 : decode cX11_saysPlain 2 = .ok (.iconst 2, 1) := by decide +kernel
theorem dX11_saysPlain_3 : decode cX11_saysPlain 3 = .ok (.invokevirtual 58, 3) := by decide +kernel
theorem dX11_saysPlain_6 : decode cX11_saysPlain 6 = .ok (.ifCond .eq 15, 3) := by decide +kernel
theorem dX11_saysPlain_9 : decode cX11_saysPlain 9 = .ok (.aload_n 0, 1) := by decide +kernel
theorem dX11_saysPlain_10 : decode cX11_saysPlain 10 = .ok (.iload_n 1, 1) := by decide +kernel
theorem dX11_saysPlain_11 : decode cX11_saysPlain 11 = .ok (.iconst 2, 1) := by decide +kernel
theorem dX11_saysPlain_12 : decode cX11_saysPlain 12 = .ok (.invokevirtual 58, 3) := by decide +kernel
theorem dX11_saysPlain_15 : decode cX11_saysPlain 15 = .ok (.invokestatic 71, 3) := by decide +kernel
theorem dX11_saysPlain_18 : decode cX11_saysPlain 18 = .ok (.goto 12, 3) := by decide +kernel
theorem dX11_saysPlain_21 : decode cX11_saysPlain 21 = .ok (.aload_n 0, 1) := by decide +kernel
theorem dX11_saysPlain_22 : decode cX11_saysPlain 22 = .ok (.iload_n 1, 1) := by decide +kernel
theorem dX11_saysPlain_23 : decode cX11_saysPlain 23 = .ok (.iconst 1, 1) := by decide +kernel
theorem dX11_saysPlain_24 : decode cX11_saysPlain 24 = .ok (.invokevirtual 58, 3) := by decide +kernel
theorem dX11_saysPlain_27 : decode cX11_saysPlain 27 = .ok (.invokestatic 71, 3) := by decide +kernel
theorem dX11_saysPlain_30 : decode cX11_saysPlain 30 = .ok (.ireturn, 1) := by decide +kernel
theorem dX11_says_0 : decode cX11_says 0 = .ok (.aload_n 0, 1) := by decide +kernel
theorem dX11_says_1 : decode cX11_says 1 = .ok (.getfield 7, 3) := by decide +kernel
theorem dX11_says_4 : decode cX11_says 4 = .ok (.iconst 1, 1) := by decide +kernel
theorem dX11_says_5 : decode cX11_says 5 = .ok (.iaload, 1) := by decide +kernel
theorem dX11_says_6 : decode cX11_says 6 = .ok (.bipush 24, 2) := by decide +kernel
theorem dX11_says_8 : decode cX11_says 8 = .ok (.irem, 1) := by decide +kernel
theorem dX11_says_9 : decode cX11_says 9 = .ok (.istore_n 2, 1) := by decide +kernel
theorem dX11_says_10 : decode cX11_says 10 = .ok (.iload_n 2, 1) := by decide +kernel
theorem dX11_says_11 : decode cX11_says 11 = .ok (.bipush 22, 2) := by decide +kernel
theorem dX11_says_13 : decode cX11_says 13 = .ok (.if_icmp .lt 5, 3) := by decide +kernel
theorem dX11_says_16 : decode cX11_says 16 = .ok (.iconst (-1), 1) := by decide +kernel
theorem dX11_says_17 : decode cX11_says 17 = .ok (.ireturn, 1) := by decide +kernel
theorem dX11_says_18 : decode cX11_says 18 = .ok (.aload_n 0, 1) := by decide +kernel
theorem dX11_says_19 : decode cX11_says 19 = .ok (.iload_n 1, 1) := by decide +kernel
theorem dX11_says_20 : decode cX11_says 20 = .ok (.iconst 0, 1) := by decide +kernel
theorem dX11_says_21 : decode cX11_says 21 = .ok (.invokevirtual 58, 3) := by decide +kernel
theorem dX11_says_24 : decode cX11_says 24 = .ok (.tableswitch 112 1 5 #[36, 46, 73, 75, 95], 36) := by decide +kernel
theorem dX11_says_60 : decode cX11_says 60 = .ok (.aload_n 0, 1) := by decide +kernel
theorem dX11_says_61 : decode cX11_says 61 = .ok (.iload_n 1, 1) := by decide +kernel
theorem dX11_says_62 : decode cX11_says 62 = .ok (.iconst 1, 1) := by decide +kernel
theorem dX11_says_63 : decode cX11_says 63 = .ok (.invokevirtual 58, 3) := by decide +kernel
theorem dX11_says_66 : decode cX11_says 66 = .ok (.invokestatic 74, 3) := by decide +kernel
theorem dX11_says_69 : decode cX11_says 69 = .ok (.ireturn, 1) := by decide +kernel
theorem dX11_says_70 : decode cX11_says 70 = .ok (.aload_n 0, 1) := by decide +kernel
theorem dX11_says_71 : decode cX11_says 71 = .ok (.getfield 7, 3) := by decide +kernel
theorem dX11_says_74 : decode cX11_says 74 = .ok (.iconst 2, 1) := by decide +kernel
theorem dX11_says_75 : decode cX11_says 75 = .ok (.iaload, 1) := by decide +kernel
theorem dX11_says_76 : decode cX11_says 76 = .ok (.ifCond .eq 15, 3) := by decide +kernel
theorem dX11_says_79 : decode cX11_says 79 = .ok (.aload_n 0, 1) := by decide +kernel
theorem dX11_says_80 : decode cX11_says 80 = .ok (.getfield 7, 3) := by decide +kernel
theorem dX11_says_83 : decode cX11_says 83 = .ok (.iconst 2, 1) := by decide +kernel
theorem dX11_says_84 : decode cX11_says 84 = .ok (.iaload, 1) := by decide +kernel
theorem dX11_says_85 : decode cX11_says 85 = .ok (.invokestatic 71, 3) := by decide +kernel
theorem dX11_says_88 : decode cX11_says 88 = .ok (.goto 8, 3) := by decide +kernel
theorem dX11_says_91 : decode cX11_says 91 = .ok (.aload_n 0, 1) := by decide +kernel
theorem dX11_says_92 : decode cX11_says 92 = .ok (.iload_n 1, 1) := by decide +kernel
theorem dX11_says_93 : decode cX11_says 93 = .ok (.invokevirtual 77, 3) := by decide +kernel
theorem dX11_says_96 : decode cX11_says 96 = .ok (.ireturn, 1) := by decide +kernel
theorem dX11_says_97 : decode cX11_says 97 = .ok (.iconst (-1), 1) := by decide +kernel
theorem dX11_says_98 : decode cX11_says 98 = .ok (.ireturn, 1) := by decide +kernel
theorem dX11_says_99 : decode cX11_says 99 = .ok (.iload_n 2, 1) := by decide +kernel
theorem dX11_says_100 : decode cX11_says 100 = .ok (.bipush 12, 2) := by decide +kernel
theorem dX11_says_102 : decode cX11_says 102 = .ok (.if_icmp .ge 7, 3) := by decide +kernel
theorem dX11_says_105 : decode cX11_says 105 = .ok (.iconst (-1), 1) := by decide +kernel
theorem dX11_says_106 : decode cX11_says 106 = .ok (.goto 12, 3) := by decide +kernel
theorem dX11_says_109 : decode cX11_says 109 = .ok (.aload_n 0, 1) := by decide +kernel
theorem dX11_says_110 : decode cX11_says 110 = .ok (.iload_n 1, 1) := by decide +kernel
theorem dX11_says_111 : decode cX11_says 111 = .ok (.iconst 1, 1) := by decide +kernel
theorem dX11_says_112 : decode cX11_says 112 = .ok (.invokevirtual 58, 3) := by decide +kernel
theorem dX11_says_115 : decode cX11_says 115 = .ok (.invokestatic 74, 3) := by decide +kernel
theorem dX11_says_118 : decode cX11_says 118 = .ok (.ireturn, 1) := by decide +kernel
theorem dX11_says_119 : decode cX11_says 119 = .ok (.iload_n 2, 1) := by decide +kernel
theorem dX11_says_120 : decode cX11_says 120 = .ok (.bipush 6, 2) := by decide +kernel
theorem dX11_says_122 : decode cX11_says 122 = .ok (.irem, 1) := by decide +kernel
theorem dX11_says_123 : decode cX11_says 123 = .ok (.ifCond .ne 11, 3) := by decide +kernel
theorem dX11_says_126 : decode cX11_says 126 = .ok (.aload_n 0, 1) := by decide +kernel
theorem dX11_says_127 : decode cX11_says 127 = .ok (.iload_n 1, 1) := by decide +kernel
theorem dX11_says_128 : decode cX11_says 128 = .ok (.invokevirtual 77, 3) := by decide +kernel
theorem dX11_says_131 : decode cX11_says 131 = .ok (.goto 4, 3) := by decide +kernel
theorem dX11_says_134 : decode cX11_says 134 = .ok (.iconst (-1), 1) := by decide +kernel
theorem dX11_says_135 : decode cX11_says 135 = .ok (.ireturn, 1) := by decide +kernel
theorem dX11_says_136 : decode cX11_says 136 = .ok (.aload_n 0, 1) := by decide +kernel
theorem dX11_says_137 : decode cX11_says 137 = .ok (.iload_n 1, 1) := by decide +kernel
theorem dX11_says_138 : decode cX11_says 138 = .ok (.invokevirtual 77, 3) := by decide +kernel
theorem dX11_says_141 : decode cX11_says 141 = .ok (.ireturn, 1) := by decide +kernel
theorem dX11_isTrusted_0 : decode cX11_isTrusted 0 = .ok (.aload_n 0, 1) := by decide +kernel
theorem dX11_isTrusted_1 : decode cX11_isTrusted 1 = .ok (.getfield 7, 3) := by decide +kernel
theorem dX11_isTrusted_4 : decode cX11_isTrusted 4 = .ok (.iconst 2, 1) := by decide +kernel
theorem dX11_isTrusted_5 : decode cX11_isTrusted 5 = .ok (.iaload, 1) := by decide +kernel
theorem dX11_isTrusted_6 : decode cX11_isTrusted 6 = .ok (.iload_n 2, 1) := by decide +kernel
theorem dX11_isTrusted_7 : decode cX11_isTrusted 7 = .ok (.ishr, 1) := by decide +kernel
theorem dX11_isTrusted_8 : decode cX11_isTrusted 8 = .ok (.iconst 1, 1) := by decide +kernel
theorem dX11_isTrusted_9 : decode cX11_isTrusted 9 = .ok (.iand, 1) := by decide +kernel
theorem dX11_isTrusted_10 : decode cX11_isTrusted 10 = .ok (.ifCond .ne 7, 3) := by decide +kernel
theorem dX11_isTrusted_13 : decode cX11_isTrusted 13 = .ok (.iconst 1, 1) := by decide +kernel
theorem dX11_isTrusted_14 : decode cX11_isTrusted 14 = .ok (.goto 4, 3) := by decide +kernel
theorem dX11_isTrusted_17 : decode cX11_isTrusted 17 = .ok (.iconst 0, 1) := by decide +kernel
theorem dX11_isTrusted_18 : decode cX11_isTrusted 18 = .ok (.istore_n 3, 1) := by decide +kernel
theorem dX11_isTrusted_19 : decode cX11_isTrusted 19 = .ok (.aload_n 0, 1) := by decide +kernel
theorem dX11_isTrusted_20 : decode cX11_isTrusted 20 = .ok (.iload_n 1, 1) := by decide +kernel
theorem dX11_isTrusted_21 : decode cX11_isTrusted 21 = .ok (.iconst 1, 1) := by decide +kernel
theorem dX11_isTrusted_22 : decode cX11_isTrusted 22 = .ok (.invokevirtual 58, 3) := by decide +kernel
theorem dX11_isTrusted_25 : decode cX11_isTrusted 25 = .ok (.invokestatic 80, 3) := by decide +kernel
theorem dX11_isTrusted_28 : decode cX11_isTrusted 28 = .ok (.istore 4, 2) := by decide +kernel
theorem dX11_isTrusted_30 : decode cX11_isTrusted 30 = .ok (.aload_n 0, 1) := by decide +kernel
theorem dX11_isTrusted_31 : decode cX11_isTrusted 31 = .ok (.iload_n 1, 1) := by decide +kernel
theorem dX11_isTrusted_32 : decode cX11_isTrusted 32 = .ok (.iconst 0, 1) := by decide +kernel
theorem dX11_isTrusted_33 : decode cX11_isTrusted 33 = .ok (.invokevirtual 58, 3) := by decide +kernel
theorem dX11_isTrusted_36 : decode cX11_isTrusted 36 = .ok (.tableswitch 62 1 5 #[36, 38, 40, 36, 38], 36) := by decide +kernel
theorem dX11_isTrusted_72 : decode cX11_isTrusted 72 = .ok (.iconst 1, 1) := by decide +kernel
theorem dX11_isTrusted_73 : decode cX11_isTrusted 73 = .ok (.ireturn, 1) := by decide +kernel
theorem dX11_isTrusted_74 : decode cX11_isTrusted 74 = .ok (.iload_n 3, 1) := by decide +kernel
theorem dX11_isTrusted_75 : decode cX11_isTrusted 75 = .ok (.ireturn, 1) := by decide +kernel
theorem dX11_isTrusted_76 : decode cX11_isTrusted 76 = .ok (.iload_n 3, 1) := by decide +kernel
theorem dX11_isTrusted_77 : decode cX11_isTrusted 77 = .ok (.ifCond .ne 15, 3) := by decide +kernel
theorem dX11_isTrusted_80 : decode cX11_isTrusted 80 = .ok (.iload 4, 2) := by decide +kernel
theorem dX11_isTrusted_82 : decode cX11_isTrusted 82 = .ok (.iconst 3, 1) := by decide +kernel
theorem dX11_isTrusted_83 : decode cX11_isTrusted 83 = .ok (.if_icmp .lt 9, 3) := by decide +kernel
theorem dX11_isTrusted_86 : decode cX11_isTrusted 86 = .ok (.iload 4, 2) := by decide +kernel
theorem dX11_isTrusted_88 : decode cX11_isTrusted 88 = .ok (.iconst 5, 1) := by decide +kernel
theorem dX11_isTrusted_89 : decode cX11_isTrusted 89 = .ok (.if_icmp .lt 7, 3) := by decide +kernel
theorem dX11_isTrusted_92 : decode cX11_isTrusted 92 = .ok (.iconst 1, 1) := by decide +kernel
theorem dX11_isTrusted_93 : decode cX11_isTrusted 93 = .ok (.goto 4, 3) := by decide +kernel
theorem dX11_isTrusted_96 : decode cX11_isTrusted 96 = .ok (.iconst 0, 1) := by decide +kernel
theorem dX11_isTrusted_97 : decode cX11_isTrusted 97 = .ok (.ireturn, 1) := by decide +kernel
theorem dX11_isTrusted_98 : decode cX11_isTrusted 98 = .ok (.iload_n 3, 1) := by decide +kernel
theorem dX11_isTrusted_99 : decode cX11_isTrusted 99 = .ok (.ifCond .ne 9, 3) := by decide +kernel
theorem dX11_isTrusted_102 : decode cX11_isTrusted 102 = .ok (.iload 4, 2) := by decide +kernel
theorem dX11_isTrusted_104 : decode cX11_isTrusted 104 = .ok (.iconst 3, 1) := by decide +kernel
theorem dX11_isTrusted_105 : decode cX11_isTrusted 105 = .ok (.if_icmp .ge 7, 3) := by decide +kernel
theorem dX11_isTrusted_108 : decode cX11_isTrusted 108 = .ok (.iconst 1, 1) := by decide +kernel
theorem dX11_isTrusted_109 : decode cX11_isTrusted 109 = .ok (.goto 4, 3) := by decide +kernel
theorem dX11_isTrusted_112 : decode cX11_isTrusted 112 = .ok (.iconst 0, 1) := by decide +kernel
theorem dX11_isTrusted_113 : decode cX11_isTrusted 113 = .ok (.ireturn, 1) := by decide +kernel
theorem dX11_stays_0 : decode cX11_stays 0 = .ok (.aload_n 0, 1) := by decide +kernel
theorem dX11_stays_1 : decode cX11_stays 1 = .ok (.iload_n 1, 1) := by decide +kernel
theorem dX11_stays_2 : decode cX11_stays 2 = .ok (.iconst 0, 1) := by decide +kernel
theorem dX11_stays_3 : decode cX11_stays 3 = .ok (.invokevirtual 58, 3) := by decide +kernel
theorem dX11_stays_6 : decode cX11_stays 6 = .ok (.tableswitch 56 1 5 #[34, 36, 39, 42, 39], 34) := by decide +kernel
theorem dX11_stays_40 : decode cX11_stays 40 = .ok (.iconst 4, 1) := by decide +kernel
theorem dX11_stays_41 : decode cX11_stays 41 = .ok (.ireturn, 1) := by decide +kernel
theorem dX11_stays_42 : decode cX11_stays 42 = .ok (.bipush 9, 2) := by decide +kernel
theorem dX11_stays_44 : decode cX11_stays 44 = .ok (.ireturn, 1) := by decide +kernel
theorem dX11_stays_45 : decode cX11_stays 45 = .ok (.bipush 6, 2) := by decide +kernel
theorem dX11_stays_47 : decode cX11_stays 47 = .ok (.ireturn, 1) := by decide +kernel
theorem dX11_stays_48 : decode cX11_stays 48 = .ok (.iconst 4, 1) := by decide +kernel
theorem dX11_stays_49 : decode cX11_stays 49 = .ok (.aload_n 0, 1) := by decide +kernel
theorem dX11_stays_50 : decode cX11_stays 50 = .ok (.iload_n 1, 1) := by decide +kernel
theorem dX11_stays_51 : decode cX11_stays 51 = .ok (.iconst 1, 1) := by decide +kernel
theorem dX11_stays_52 : decode cX11_stays 52 = .ok (.invokevirtual 58, 3) := by decide +kernel
theorem dX11_stays_55 : decode cX11_stays 55 = .ok (.invokestatic 80, 3) := by decide +kernel
theorem dX11_stays_58 : decode cX11_stays 58 = .ok (.iconst 4, 1) := by decide +kernel
theorem dX11_stays_59 : decode cX11_stays 59 = .ok (.idiv, 1) := by decide +kernel
theorem dX11_stays_60 : decode cX11_stays 60 = .ok (.iadd, 1) := by decide +kernel
theorem dX11_stays_61 : decode cX11_stays 61 = .ok (.ireturn, 1) := by decide +kernel
theorem dX11_stays_62 : decode cX11_stays 62 = .ok (.iconst 3, 1) := by decide +kernel
theorem dX11_stays_63 : decode cX11_stays 63 = .ok (.ireturn, 1) := by decide +kernel
theorem dX11_of_0 : decode cX11_of 0 = .ok (.aload_n 0, 1) := by decide +kernel
theorem dX11_of_1 : decode cX11_of 1 = .ok (.iload_n 1, 1) := by decide +kernel
theorem dX11_of_2 : decode cX11_of 2 = .ok (.invokevirtual 83, 3) := by decide +kernel
theorem dX11_of_5 : decode cX11_of 5 = .ok (.ifCond .eq 15, 3) := by decide +kernel
theorem dX11_of_8 : decode cX11_of 8 = .ok (.iload_n 2, 1) := by decide +kernel
theorem dX11_of_9 : decode cX11_of 9 = .ok (.i2l, 1) := by decide +kernel
theorem dX11_of_10 : decode cX11_of 10 = .ok (.lconst 0, 1) := by decide +kernel
theorem dX11_of_11 : decode cX11_of 11 = .ok (.ldc2_w 86, 3) := by decide +kernel
theorem dX11_of_14 : decode cX11_of 14 = .ok (.invokestatic 46, 3) := by decide +kernel
theorem dX11_of_17 : decode cX11_of 17 = .ok (.ifCond .ne 10, 3) := by decide +kernel
theorem dX11_of_20 : decode cX11_of 20 = .ok (.aload_n 0, 1) := by decide +kernel
theorem dX11_of_21 : decode cX11_of 21 = .ok (.ldc 38, 2) := by decide +kernel
theorem dX11_of_23 : decode cX11_of 23 = .ok (.invokevirtual 40, 3) := by decide +kernel
theorem dX11_of_26 : decode cX11_of 26 = .ok (.ireturn, 1) := by decide +kernel
theorem dX11_of_27 : decode cX11_of 27 = .ok (.iload_n 2, 1) := by decide +kernel
theorem dX11_of_28 : decode cX11_of 28 = .ok (.bipush 6, 2) := by decide +kernel
theorem dX11_of_30 : decode cX11_of 30 = .ok (.if_icmp .ne 11, 3) := by decide +kernel
theorem dX11_of_33 : decode cX11_of 33 = .ok (.aload_n 0, 1) := by decide +kernel
theorem dX11_of_34 : decode cX11_of 34 = .ok (.iload_n 1, 1) := by decide +kernel
theorem dX11_of_35 : decode cX11_of 35 = .ok (.invokevirtual 88, 3) := by decide +kernel
theorem dX11_of_38 : decode cX11_of 38 = .ok (.goto 23, 3) := by decide +kernel
theorem dX11_of_41 : decode cX11_of 41 = .ok (.iload_n 2, 1) := by decide +kernel
theorem dX11_of_42 : decode cX11_of 42 = .ok (.bipush 7, 2) := by decide +kernel
theorem dX11_of_44 : decode cX11_of 44 = .ok (.if_icmp .ne 11, 3) := by decide +kernel
theorem dX11_of_47 : decode cX11_of 47 = .ok (.aload_n 0, 1) := by decide +kernel
theorem dX11_of_48 : decode cX11_of 48 = .ok (.iload_n 1, 1) := by decide +kernel
theorem dX11_of_49 : decode cX11_of 49 = .ok (.invokevirtual 91, 3) := by decide +kernel
theorem dX11_of_52 : decode cX11_of 52 = .ok (.goto 9, 3) := by decide +kernel
theorem dX11_of_55 : decode cX11_of 55 = .ok (.aload_n 0, 1) := by decide +kernel
theorem dX11_of_56 : decode cX11_of 56 = .ok (.iload_n 1, 1) := by decide +kernel
theorem dX11_of_57 : decode cX11_of 57 = .ok (.iload_n 2, 1) := by decide +kernel
theorem dX11_of_58 : decode cX11_of 58 = .ok (.invokevirtual 58, 3) := by decide +kernel
theorem dX11_of_61 : decode cX11_of 61 = .ok (.ireturn, 1) := by decide +kernel
theorem dX11_may_0 : decode cX11_may 0 = .ok (.iload_n 2, 1) := by decide +kernel
theorem dX11_may_1 : decode cX11_may 1 = .ok (.tableswitch 86 1 5 #[35, 45, 86, 86, 76], 35) := by decide +kernel
theorem dX11_may_36 : decode cX11_may 36 = .ok (.iload_n 3, 1) := by decide +kernel
theorem dX11_may_37 : decode cX11_may 37 = .ok (.i2l, 1) := by decide +kernel
theorem dX11_may_38 : decode cX11_may 38 = .ok (.lconst 0, 1) := by decide +kernel
theorem dX11_may_39 : decode cX11_may 39 = .ok (.ldc2_w 44, 3) := by decide +kernel
theorem dX11_may_42 : decode cX11_may 42 = .ok (.invokestatic 46, 3) := by decide +kernel
theorem dX11_may_45 : decode cX11_may 45 = .ok (.ireturn, 1) := by decide +kernel
theorem dX11_may_46 : decode cX11_may 46 = .ok (.iload_n 3, 1) := by decide +kernel
theorem dX11_may_47 : decode cX11_may 47 = .ok (.i2l, 1) := by decide +kernel
theorem dX11_may_48 : decode cX11_may 48 = .ok (.lconst 0, 1) := by decide +kernel
theorem dX11_may_49 : decode cX11_may 49 = .ok (.ldc2_w 44, 3) := by decide +kernel
theorem dX11_may_52 : decode cX11_may 52 = .ok (.invokestatic 46, 3) := by decide +kernel
theorem dX11_may_55 : decode cX11_may 55 = .ok (.ifCond .eq 20, 3) := by decide +kernel
theorem dX11_may_58 : decode cX11_may 58 = .ok (.iload_n 3, 1) := by decide +kernel
theorem dX11_may_59 : decode cX11_may 59 = .ok (.aload_n 0, 1) := by decide +kernel
theorem dX11_may_60 : decode cX11_may 60 = .ok (.iload_n 1, 1) := by decide +kernel
theorem dX11_may_61 : decode cX11_may 61 = .ok (.iconst 1, 1) := by decide +kernel
theorem dX11_may_62 : decode cX11_may 62 = .ok (.invokevirtual 58, 3) := by decide +kernel
theorem dX11_may_65 : decode cX11_may 65 = .ok (.iconst (-1), 1) := by decide +kernel
theorem dX11_may_66 : decode cX11_may 66 = .ok (.ixor, 1) := by decide +kernel
theorem dX11_may_67 : decode cX11_may 67 = .ok (.iand, 1) := by decide +kernel
theorem dX11_may_68 : decode cX11_may 68 = .ok (.ifCond .ne 7, 3) := by decide +kernel
theorem dX11_may_71 : decode cX11_may 71 = .ok (.iconst 1, 1) := by decide +kernel
theorem dX11_may_72 : decode cX11_may 72 = .ok (.goto 4, 3) := by decide +kernel
theorem dX11_may_75 : decode cX11_may 75 = .ok (.iconst 0, 1) := by decide +kernel
theorem dX11_may_76 : decode cX11_may 76 = .ok (.ireturn, 1) := by decide +kernel
theorem dX11_may_77 : decode cX11_may 77 = .ok (.iload_n 3, 1) := by decide +kernel
theorem dX11_may_78 : decode cX11_may 78 = .ok (.i2l, 1) := by decide +kernel
theorem dX11_may_79 : decode cX11_may 79 = .ok (.lconst 0, 1) := by decide +kernel
theorem dX11_may_80 : decode cX11_may 80 = .ok (.ldc2_w 94, 3) := by decide +kernel
theorem dX11_may_83 : decode cX11_may 83 = .ok (.invokestatic 46, 3) := by decide +kernel
theorem dX11_may_86 : decode cX11_may 86 = .ok (.ireturn, 1) := by decide +kernel
theorem dX11_may_87 : decode cX11_may 87 = .ok (.iconst 0, 1) := by decide +kernel
theorem dX11_may_88 : decode cX11_may 88 = .ok (.ireturn, 1) := by decide +kernel
theorem dX11_knowsNow_0 : decode cX11_knowsNow 0 = .ok (.aload_n 0, 1) := by decide +kernel
theorem dX11_knowsNow_1 : decode cX11_knowsNow 1 = .ok (.getfield 7, 3) := by decide +kernel
theorem dX11_knowsNow_4 : decode cX11_knowsNow 4 = .ok (.iload_n 1, 1) := by decide +kernel
theorem dX11_knowsNow_5 : decode cX11_knowsNow 5 = .ok (.iconst 2, 1) := by decide +kernel
theorem dX11_knowsNow_6 : decode cX11_knowsNow 6 = .ok (.invokestatic 61, 3) := by decide +kernel
theorem dX11_knowsNow_9 : decode cX11_knowsNow 9 = .ok (.dup2, 1) := by decide +kernel
theorem dX11_knowsNow_10 : decode cX11_knowsNow 10 = .ok (.iaload, 1) := by decide +kernel
theorem dX11_knowsNow_11 : decode cX11_knowsNow 11 = .ok (.iload_n 2, 1) := by decide +kernel
theorem dX11_knowsNow_12 : decode cX11_knowsNow 12 = .ok (.iand, 1) := by decide +kernel
theorem dX11_knowsNow_13 : decode cX11_knowsNow 13 = .ok (.iastore, 1) := by decide +kernel
theorem dX11_knowsNow_14 : decode cX11_knowsNow 14 = .ok (.aload_n 0, 1) := by decide +kernel
theorem dX11_knowsNow_15 : decode cX11_knowsNow 15 = .ok (.iload_n 1, 1) := by decide +kernel
theorem dX11_knowsNow_16 : decode cX11_knowsNow 16 = .ok (.iconst 1, 1) := by decide +kernel
theorem dX11_knowsNow_17 : decode cX11_knowsNow 17 = .ok (.invokestatic 61, 3) := by decide +kernel
theorem dX11_knowsNow_20 : decode cX11_knowsNow 20 = .ok (.iload_n 2, 1) := by decide +kernel
theorem dX11_knowsNow_21 : decode cX11_knowsNow 21 = .ok (.invokevirtual 50, 3) := by decide +kernel
theorem dX11_knowsNow_24 : decode cX11_knowsNow 24 = .ok (.ireturn, 1) := by decide +kernel
theorem dX11_set_0 : decode cX11_set 0 = .ok (.aload_n 0, 1) := by decide +kernel
theorem dX11_set_1 : decode cX11_set 1 = .ok (.iload_n 1, 1) := by decide +kernel
theorem dX11_set_2 : decode cX11_set 2 = .ok (.invokevirtual 83, 3) := by decide +kernel
theorem dX11_set_5 : decode cX11_set 5 = .ok (.ifCond .eq 13, 3) := by decide +kernel
theorem dX11_set_8 : decode cX11_set 8 = .ok (.aload_n 0, 1) := by decide +kernel
theorem dX11_set_9 : decode cX11_set 9 = .ok (.iload_n 1, 1) := by decide +kernel
theorem dX11_set_10 : decode cX11_set 10 = .ok (.iload_n 2, 1) := by decide +kernel
theorem dX11_set_11 : decode cX11_set 11 = .ok (.iload_n 3, 1) := by decide +kernel
theorem dX11_set_12 : decode cX11_set 12 = .ok (.invokevirtual 96, 3) := by decide +kernel
theorem dX11_set_15 : decode cX11_set 15 = .ok (.ifCond .ne 10, 3) := by decide +kernel
theorem dX11_set_18 : decode cX11_set 18 = .ok (.aload_n 0, 1) := by decide +kernel
end
section
theorem dX11_set_19 : decode cX11_set 19 = .ok (.ldc 38, 2) := by decide +kernel
theorem dX11_set_21 : decode cX11_set 21 = .ok (.invokevirtual 40, 3) := by decide +kernel
theorem dX11_set_24 : decode cX11_set 24 = .ok (.ireturn, 1) := by decide +kernel
theorem dX11_set_25 : decode cX11_set 25 = .ok (.iload_n 2, 1) := by decide +kernel
theorem dX11_set_26 : decode cX11_set 26 = .ok (.iconst 1, 1) := by decide +kernel
theorem dX11_set_27 : decode cX11_set 27 = .ok (.if_icmp .ne 12, 3) := by decide +kernel
theorem dX11_set_30 : decode cX11_set 30 = .ok (.aload_n 0, 1) := by decide +kernel
theorem dX11_set_31 : decode cX11_set 31 = .ok (.iload_n 1, 1) := by decide +kernel
theorem dX11_set_32 : decode cX11_set 32 = .ok (.iload_n 3, 1) := by decide +kernel
theorem dX11_set_33 : decode cX11_set 33 = .ok (.invokevirtual 100, 3) := by decide +kernel
theorem dX11_set_36 : decode cX11_set 36 = .ok (.goto 13, 3) := by decide +kernel
theorem dX11_set_39 : decode cX11_set 39 = .ok (.aload_n 0, 1) := by decide +kernel
theorem dX11_set_40 : decode cX11_set 40 = .ok (.iload_n 1, 1) := by decide +kernel
theorem dX11_set_41 : decode cX11_set 41 = .ok (.iload_n 2, 1) := by decide +kernel
theorem dX11_set_42 : decode cX11_set 42 = .ok (.invokestatic 61, 3) := by decide +kernel
theorem dX11_set_45 : decode cX11_set 45 = .ok (.iload_n 3, 1) := by decide +kernel
theorem dX11_set_46 : decode cX11_set 46 = .ok (.invokevirtual 50, 3) := by decide +kernel
theorem dX11_set_49 : decode cX11_set 49 = .ok (.ireturn, 1) := by decide +kernel
theorem dX11_turn_0 : decode cX11_turn 0 = .ok (.aload_n 0, 1) := by decide +kernel
theorem dX11_turn_1 : decode cX11_turn 1 = .ok (.iload_n 1, 1) := by decide +kernel
theorem dX11_turn_2 : decode cX11_turn 2 = .ok (.invokevirtual 83, 3) := by decide +kernel
theorem dX11_turn_5 : decode cX11_turn 5 = .ok (.ifCond .eq 28, 3) := by decide +kernel
theorem dX11_turn_8 : decode cX11_turn 8 = .ok (.iload_n 2, 1) := by decide +kernel
theorem dX11_turn_9 : decode cX11_turn 9 = .ok (.i2l, 1) := by decide +kernel
theorem dX11_turn_10 : decode cX11_turn 10 = .ok (.lconst 0, 1) := by decide +kernel
theorem dX11_turn_11 : decode cX11_turn 11 = .ok (.ldc2_w 64, 3) := by decide +kernel
theorem dX11_turn_14 : decode cX11_turn 14 = .ok (.invokestatic 46, 3) := by decide +kernel
theorem dX11_turn_17 : decode cX11_turn 17 = .ok (.ifCond .eq 16, 3) := by decide +kernel
theorem dX11_turn_20 : decode cX11_turn 20 = .ok (.aload_n 0, 1) := by decide +kernel
theorem dX11_turn_21 : decode cX11_turn 21 = .ok (.iload_n 1, 1) := by decide +kernel
theorem dX11_turn_22 : decode cX11_turn 22 = .ok (.iconst 0, 1) := by decide +kernel
theorem dX11_turn_23 : decode cX11_turn 23 = .ok (.invokestatic 61, 3) := by decide +kernel
theorem dX11_turn_26 : decode cX11_turn 26 = .ok (.iload_n 2, 1) := by decide +kernel
theorem dX11_turn_27 : decode cX11_turn 27 = .ok (.invokevirtual 50, 3) := by decide +kernel
theorem dX11_turn_30 : decode cX11_turn 30 = .ok (.goto 9, 3) := by decide +kernel
theorem dX11_turn_33 : decode cX11_turn 33 = .ok (.aload_n 0, 1) := by decide +kernel
theorem dX11_turn_34 : decode cX11_turn 34 = .ok (.ldc 38, 2) := by decide +kernel
theorem dX11_turn_36 : decode cX11_turn 36 = .ok (.invokevirtual 40, 3) := by decide +kernel
theorem dX11_turn_39 : decode cX11_turn 39 = .ok (.ireturn, 1) := by decide +kernel
theorem dX11_isUnder_0 : decode cX11_isUnder 0 = .ok (.iload_n 1, 1) := by decide +kernel
theorem dX11_isUnder_1 : decode cX11_isUnder 1 = .ok (.ifCond .eq 28, 3) := by decide +kernel
theorem dX11_isUnder_4 : decode cX11_isUnder 4 = .ok (.iload_n 0, 1) := by decide +kernel
theorem dX11_isUnder_5 : decode cX11_isUnder 5 = .ok (.iload_n 1, 1) := by decide +kernel
theorem dX11_isUnder_6 : decode cX11_isUnder 6 = .ok (.if_icmp .eq 23, 3) := by decide +kernel
theorem dX11_isUnder_9 : decode cX11_isUnder 9 = .ok (.iload_n 1, 1) := by decide +kernel
theorem dX11_isUnder_10 : decode cX11_isUnder 10 = .ok (.iconst 1, 1) := by decide +kernel
theorem dX11_isUnder_11 : decode cX11_isUnder 11 = .ok (.if_icmp .ne 8, 3) := by decide +kernel
theorem dX11_isUnder_14 : decode cX11_isUnder 14 = .ok (.iload_n 0, 1) := by decide +kernel
theorem dX11_isUnder_15 : decode cX11_isUnder 15 = .ok (.iconst 4, 1) := by decide +kernel
theorem dX11_isUnder_16 : decode cX11_isUnder 16 = .ok (.if_icmp .eq 13, 3) := by decide +kernel
theorem dX11_isUnder_19 : decode cX11_isUnder 19 = .ok (.iload_n 1, 1) := by decide +kernel
theorem dX11_isUnder_20 : decode cX11_isUnder 20 = .ok (.iconst 3, 1) := by decide +kernel
theorem dX11_isUnder_21 : decode cX11_isUnder 21 = .ok (.if_icmp .ne 12, 3) := by decide +kernel
theorem dX11_isUnder_24 : decode cX11_isUnder 24 = .ok (.iload_n 0, 1) := by decide +kernel
theorem dX11_isUnder_25 : decode cX11_isUnder 25 = .ok (.iconst 5, 1) := by decide +kernel
theorem dX11_isUnder_26 : decode cX11_isUnder 26 = .ok (.if_icmp .ne 7, 3) := by decide +kernel
theorem dX11_isUnder_29 : decode cX11_isUnder 29 = .ok (.iconst 1, 1) := by decide +kernel
theorem dX11_isUnder_30 : decode cX11_isUnder 30 = .ok (.goto 4, 3) := by decide +kernel
theorem dX11_isUnder_33 : decode cX11_isUnder 33 = .ok (.iconst 0, 1) := by decide +kernel
theorem dX11_isUnder_34 : decode cX11_isUnder 34 = .ok (.ireturn, 1) := by decide +kernel
theorem dX11_as_0 : decode cX11_as 0 = .ok (.aload_n 0, 1) := by decide +kernel
theorem dX11_as_1 : decode cX11_as 1 = .ok (.iload_n 1, 1) := by decide +kernel
theorem dX11_as_2 : decode cX11_as 2 = .ok (.invokevirtual 83, 3) := by decide +kernel
theorem dX11_as_5 : decode cX11_as 5 = .ok (.ifCond .eq 15, 3) := by decide +kernel
theorem dX11_as_8 : decode cX11_as 8 = .ok (.iload_n 2, 1) := by decide +kernel
theorem dX11_as_9 : decode cX11_as 9 = .ok (.i2l, 1) := by decide +kernel
theorem dX11_as_10 : decode cX11_as 10 = .ok (.lconst 0, 1) := by decide +kernel
theorem dX11_as_11 : decode cX11_as 11 = .ok (.ldc2_w 64, 3) := by decide +kernel
theorem dX11_as_14 : decode cX11_as 14 = .ok (.invokestatic 46, 3) := by decide +kernel
theorem dX11_as_17 : decode cX11_as 17 = .ok (.ifCond .ne 10, 3) := by decide +kernel
theorem dX11_as_20 : decode cX11_as 20 = .ok (.aload_n 0, 1) := by decide +kernel
theorem dX11_as_21 : decode cX11_as 21 = .ok (.ldc 38, 2) := by decide +kernel
theorem dX11_as_23 : decode cX11_as 23 = .ok (.invokevirtual 40, 3) := by decide +kernel
theorem dX11_as_26 : decode cX11_as 26 = .ok (.ireturn, 1) := by decide +kernel
theorem dX11_as_27 : decode cX11_as 27 = .ok (.aload_n 0, 1) := by decide +kernel
theorem dX11_as_28 : decode cX11_as 28 = .ok (.iload_n 1, 1) := by decide +kernel
theorem dX11_as_29 : decode cX11_as 29 = .ok (.iconst 0, 1) := by decide +kernel
theorem dX11_as_30 : decode cX11_as 30 = .ok (.invokevirtual 58, 3) := by decide +kernel
theorem dX11_as_33 : decode cX11_as 33 = .ok (.iload_n 2, 1) := by decide +kernel
theorem dX11_as_34 : decode cX11_as 34 = .ok (.invokestatic 103, 3) := by decide +kernel
theorem dX11_as_37 : decode cX11_as 37 = .ok (.ifCond .eq 12, 3) := by decide +kernel
theorem dX11_as_40 : decode cX11_as 40 = .ok (.aload_n 0, 1) := by decide +kernel
theorem dX11_as_41 : decode cX11_as 41 = .ok (.iload_n 1, 1) := by decide +kernel
theorem dX11_as_42 : decode cX11_as 42 = .ok (.iconst 5, 1) := by decide +kernel
theorem dX11_as_43 : decode cX11_as 43 = .ok (.invokevirtual 58, 3) := by decide +kernel
theorem dX11_as_46 : decode cX11_as 46 = .ok (.goto 9, 3) := by decide +kernel
theorem dX11_as_49 : decode cX11_as 49 = .ok (.aload_n 0, 1) := by decide +kernel
theorem dX11_as_50 : decode cX11_as 50 = .ok (.ldc 107, 2) := by decide +kernel
theorem dX11_as_52 : decode cX11_as 52 = .ok (.invokevirtual 40, 3) := by decide +kernel
theorem dX11_as_55 : decode cX11_as 55 = .ok (.ireturn, 1) := by decide +kernel
theorem dX11_sitter_0 : decode cX11_sitter 0 = .ok (.iconst (-1), 1) := by decide +kernel
theorem dX11_sitter_1 : decode cX11_sitter 1 = .ok (.istore_n 2, 1) := by decide +kernel
theorem dX11_sitter_2 : decode cX11_sitter 2 = .ok (.iconst 0, 1) := by decide +kernel
theorem dX11_sitter_3 : decode cX11_sitter 3 = .ok (.istore_n 3, 1) := by decide +kernel
theorem dX11_sitter_4 : decode cX11_sitter 4 = .ok (.iload_n 3, 1) := by decide +kernel
theorem dX11_sitter_5 : decode cX11_sitter 5 = .ok (.aload_n 0, 1) := by decide +kernel
theorem dX11_sitter_6 : decode cX11_sitter 6 = .ok (.getfield 7, 3) := by decide +kernel
theorem dX11_sitter_9 : decode cX11_sitter 9 = .ok (.iconst 0, 1) := by decide +kernel
theorem dX11_sitter_10 : decode cX11_sitter 10 = .ok (.iaload, 1) := by decide +kernel
theorem dX11_sitter_11 : decode cX11_sitter 11 = .ok (.if_icmp .ge 25, 3) := by decide +kernel
theorem dX11_sitter_14 : decode cX11_sitter 14 = .ok (.aload_n 0, 1) := by decide +kernel
theorem dX11_sitter_15 : decode cX11_sitter 15 = .ok (.iload_n 3, 1) := by decide +kernel
theorem dX11_sitter_16 : decode cX11_sitter 16 = .ok (.iconst 3, 1) := by decide +kernel
theorem dX11_sitter_17 : decode cX11_sitter 17 = .ok (.invokevirtual 58, 3) := by decide +kernel
theorem dX11_sitter_20 : decode cX11_sitter 20 = .ok (.iload_n 1, 1) := by decide +kernel
theorem dX11_sitter_21 : decode cX11_sitter 21 = .ok (.if_icmp .ne 7, 3) := by decide +kernel
theorem dX11_sitter_24 : decode cX11_sitter 24 = .ok (.iload_n 3, 1) := by decide +kernel
theorem dX11_sitter_25 : decode cX11_sitter 25 = .ok (.goto 4, 3) := by decide +kernel
theorem dX11_sitter_28 : decode cX11_sitter 28 = .ok (.iload_n 2, 1) := by decide +kernel
theorem dX11_sitter_29 : decode cX11_sitter 29 = .ok (.istore_n 2, 1) := by decide +kernel
theorem dX11_sitter_30 : decode cX11_sitter 30 = .ok (.iinc 3 1, 3) := by decide +kernel
theorem dX11_sitter_33 : decode cX11_sitter 33 = .ok (.goto (-29), 3) := by decide +kernel
theorem dX11_sitter_36 : decode cX11_sitter 36 = .ok (.iload_n 2, 1) := by decide +kernel
theorem dX11_sitter_37 : decode cX11_sitter 37 = .ok (.ireturn, 1) := by decide +kernel
theorem dX11_sit_0 : decode cX11_sit 0 = .ok (.aload_n 0, 1) := by decide +kernel
theorem dX11_sit_1 : decode cX11_sit 1 = .ok (.iload_n 1, 1) := by decide +kernel
theorem dX11_sit_2 : decode cX11_sit 2 = .ok (.invokevirtual 83, 3) := by decide +kernel
theorem dX11_sit_5 : decode cX11_sit 5 = .ok (.ifCond .eq 15, 3) := by decide +kernel
theorem dX11_sit_8 : decode cX11_sit 8 = .ok (.iload_n 2, 1) := by decide +kernel
theorem dX11_sit_9 : decode cX11_sit 9 = .ok (.i2l, 1) := by decide +kernel
theorem dX11_sit_10 : decode cX11_sit 10 = .ok (.ldc2_w 108, 3) := by decide +kernel
theorem dX11_sit_13 : decode cX11_sit 13 = .ok (.lconst 1, 1) := by decide +kernel
theorem dX11_sit_14 : decode cX11_sit 14 = .ok (.invokestatic 46, 3) := by decide +kernel
theorem dX11_sit_17 : decode cX11_sit 17 = .ok (.ifCond .ne 10, 3) := by decide +kernel
theorem dX11_sit_20 : decode cX11_sit 20 = .ok (.aload_n 0, 1) := by decide +kernel
theorem dX11_sit_21 : decode cX11_sit 21 = .ok (.ldc 38, 2) := by decide +kernel
theorem dX11_sit_23 : decode cX11_sit 23 = .ok (.invokevirtual 40, 3) := by decide +kernel
theorem dX11_sit_26 : decode cX11_sit 26 = .ok (.ireturn, 1) := by decide +kernel
theorem dX11_sit_27 : decode cX11_sit 27 = .ok (.iload_n 2, 1) := by decide +kernel
theorem dX11_sit_28 : decode cX11_sit 28 = .ok (.ifCond .lt 27, 3) := by decide +kernel
theorem dX11_sit_31 : decode cX11_sit 31 = .ok (.aload_n 0, 1) := by decide +kernel
theorem dX11_sit_32 : decode cX11_sit 32 = .ok (.iload_n 2, 1) := by decide +kernel
theorem dX11_sit_33 : decode cX11_sit 33 = .ok (.invokevirtual 110, 3) := by decide +kernel
theorem dX11_sit_36 : decode cX11_sit 36 = .ok (.ifCond .lt 19, 3) := by decide +kernel
theorem dX11_sit_39 : decode cX11_sit 39 = .ok (.aload_n 0, 1) := by decide +kernel
theorem dX11_sit_40 : decode cX11_sit 40 = .ok (.iload_n 2, 1) := by decide +kernel
theorem dX11_sit_41 : decode cX11_sit 41 = .ok (.invokevirtual 110, 3) := by decide +kernel
theorem dX11_sit_44 : decode cX11_sit 44 = .ok (.iload_n 1, 1) := by decide +kernel
theorem dX11_sit_45 : decode cX11_sit 45 = .ok (.if_icmp .eq 10, 3) := by decide +kernel
theorem dX11_sit_48 : decode cX11_sit 48 = .ok (.aload_n 0, 1) := by decide +kernel
theorem dX11_sit_49 : decode cX11_sit 49 = .ok (.ldc 113, 2) := by decide +kernel
theorem dX11_sit_51 : decode cX11_sit 51 = .ok (.invokevirtual 40, 3) := by decide +kernel
theorem dX11_sit_54 : decode cX11_sit 54 = .ok (.ireturn, 1) := by decide +kernel
theorem dX11_sit_55 : decode cX11_sit 55 = .ok (.aload_n 0, 1) := by decide +kernel
theorem dX11_sit_56 : decode cX11_sit 56 = .ok (.getfield 7, 3) := by decide +kernel
theorem dX11_sit_59 : decode cX11_sit 59 = .ok (.iload_n 1, 1) := by decide +kernel
theorem dX11_sit_60 : decode cX11_sit 60 = .ok (.iconst 4, 1) := by decide +kernel
theorem dX11_sit_61 : decode cX11_sit 61 = .ok (.invokestatic 61, 3) := by decide +kernel
theorem dX11_sit_64 : decode cX11_sit 64 = .ok (.iconst 0, 1) := by decide +kernel
theorem dX11_sit_65 : decode cX11_sit 65 = .ok (.iastore, 1) := by decide +kernel
theorem dX11_sit_66 : decode cX11_sit 66 = .ok (.aload_n 0, 1) := by decide +kernel
theorem dX11_sit_67 : decode cX11_sit 67 = .ok (.iload_n 1, 1) := by decide +kernel
theorem dX11_sit_68 : decode cX11_sit 68 = .ok (.iconst 3, 1) := by decide +kernel
theorem dX11_sit_69 : decode cX11_sit 69 = .ok (.invokestatic 61, 3) := by decide +kernel
theorem dX11_sit_72 : decode cX11_sit 72 = .ok (.iload_n 2, 1) := by decide +kernel
theorem dX11_sit_73 : decode cX11_sit 73 = .ok (.invokevirtual 50, 3) := by decide +kernel
theorem dX11_sit_76 : decode cX11_sit 76 = .ok (.ireturn, 1) := by decide +kernel
theorem dX11_trusts_0 : decode cX11_trusts 0 = .ok (.aload_n 0, 1) := by decide +kernel
theorem dX11_trusts_1 : decode cX11_trusts 1 = .ok (.iload_n 1, 1) := by decide +kernel
theorem dX11_trusts_2 : decode cX11_trusts 2 = .ok (.invokevirtual 83, 3) := by decide +kernel
theorem dX11_trusts_5 : decode cX11_trusts 5 = .ok (.ifCond .eq 10, 3) := by decide +kernel
theorem dX11_trusts_8 : decode cX11_trusts 8 = .ok (.iload_n 2, 1) := by decide +kernel
theorem dX11_trusts_9 : decode cX11_trusts 9 = .ok (.invokestatic 54, 3) := by decide +kernel
theorem dX11_trusts_12 : decode cX11_trusts 12 = .ok (.ifCond .ne 10, 3) := by decide +kernel
theorem dX11_trusts_15 : decode cX11_trusts 15 = .ok (.aload_n 0, 1) := by decide +kernel
theorem dX11_trusts_16 : decode cX11_trusts 16 = .ok (.ldc 38, 2) := by decide +kernel
theorem dX11_trusts_18 : decode cX11_trusts 18 = .ok (.invokevirtual 40, 3) := by decide +kernel
theorem dX11_trusts_21 : decode cX11_trusts 21 = .ok (.ireturn, 1) := by decide +kernel
theorem dX11_trusts_22 : decode cX11_trusts 22 = .ok (.aload_n 0, 1) := by decide +kernel
theorem dX11_trusts_23 : decode cX11_trusts 23 = .ok (.iload_n 1, 1) := by decide +kernel
theorem dX11_trusts_24 : decode cX11_trusts 24 = .ok (.iload_n 2, 1) := by decide +kernel
theorem dX11_trusts_25 : decode cX11_trusts 25 = .ok (.invokevirtual 114, 3) := by decide +kernel
theorem dX11_trusts_28 : decode cX11_trusts 28 = .ok (.ifCond .eq 7, 3) := by decide +kernel
theorem dX11_trusts_31 : decode cX11_trusts 31 = .ok (.iconst 1, 1) := by decide +kernel
theorem dX11_trusts_32 : decode cX11_trusts 32 = .ok (.goto 4, 3) := by decide +kernel
theorem dX11_trusts_35 : decode cX11_trusts 35 = .ok (.iconst 0, 1) := by decide +kernel
theorem dX11_trusts_36 : decode cX11_trusts 36 = .ok (.ireturn, 1) := by decide +kernel
theorem dX11_isMonday_0 : decode cX11_isMonday 0 = .ok (.aload_n 0, 1) := by decide +kernel
theorem dX11_isMonday_1 : decode cX11_isMonday 1 = .ok (.getfield 7, 3) := by decide +kernel
theorem dX11_isMonday_4 : decode cX11_isMonday 4 = .ok (.iconst 1, 1) := by decide +kernel
theorem dX11_isMonday_5 : decode cX11_isMonday 5 = .ok (.iaload, 1) := by decide +kernel
theorem dX11_isMonday_6 : decode cX11_isMonday 6 = .ok (.bipush 24, 2) := by decide +kernel
theorem dX11_isMonday_8 : decode cX11_isMonday 8 = .ok (.idiv, 1) := by decide +kernel
theorem dX11_isMonday_9 : decode cX11_isMonday 9 = .ok (.bipush 7, 2) := by decide +kernel
theorem dX11_isMonday_11 : decode cX11_isMonday 11 = .ok (.irem, 1) := by decide +kernel
theorem dX11_isMonday_12 : decode cX11_isMonday 12 = .ok (.ifCond .ne 7, 3) := by decide +kernel
theorem dX11_isMonday_15 : decode cX11_isMonday 15 = .ok (.iconst 1, 1) := by decide +kernel
theorem dX11_isMonday_16 : decode cX11_isMonday 16 = .ok (.goto 4, 3) := by decide +kernel
theorem dX11_isMonday_19 : decode cX11_isMonday 19 = .ok (.iconst 0, 1) := by decide +kernel
theorem dX11_isMonday_20 : decode cX11_isMonday 20 = .ok (.ireturn, 1) := by decide +kernel
theorem dX11_hears_0 : decode cX11_hears 0 = .ok (.iload_n 2, 1) := by decide +kernel
theorem dX11_hears_1 : decode cX11_hears 1 = .ok (.ifCond .ge 4, 3) := by decide +kernel
theorem dX11_hears_4 : decode cX11_hears 4 = .ok (.return_, 1) := by decide +kernel
theorem dX11_hears_5 : decode cX11_hears 5 = .ok (.iconst 1, 1) := by decide +kernel
theorem dX11_hears_6 : decode cX11_hears 6 = .ok (.iload_n 2, 1) := by decide +kernel
theorem dX11_hears_7 : decode cX11_hears 7 = .ok (.ishl, 1) := by decide +kernel
theorem dX11_hears_8 : decode cX11_hears 8 = .ok (.istore_n 3, 1) := by decide +kernel
theorem dX11_hears_9 : decode cX11_hears 9 = .ok (.aload_n 0, 1) := by decide +kernel
theorem dX11_hears_10 : decode cX11_hears 10 = .ok (.iload_n 1, 1) := by decide +kernel
theorem dX11_hears_11 : decode cX11_hears 11 = .ok (.iload_n 2, 1) := by decide +kernel
theorem dX11_hears_12 : decode cX11_hears 12 = .ok (.invokevirtual 114, 3) := by decide +kernel
theorem dX11_hears_15 : decode cX11_hears 15 = .ok (.istore 4, 2) := by decide +kernel
theorem dX11_hears_17 : decode cX11_hears 17 = .ok (.aload_n 0, 1) := by decide +kernel
theorem dX11_hears_18 : decode cX11_hears 18 = .ok (.getfield 7, 3) := by decide +kernel
theorem dX11_hears_21 : decode cX11_hears 21 = .ok (.iload_n 1, 1) := by decide +kernel
theorem dX11_hears_22 : decode cX11_hears 22 = .ok (.iconst 1, 1) := by decide +kernel
theorem dX11_hears_23 : decode cX11_hears 23 = .ok (.invokestatic 61, 3) := by decide +kernel
theorem dX11_hears_26 : decode cX11_hears 26 = .ok (.dup2, 1) := by decide +kernel
theorem dX11_hears_27 : decode cX11_hears 27 = .ok (.iaload, 1) := by decide +kernel
theorem dX11_hears_28 : decode cX11_hears 28 = .ok (.iload_n 3, 1) := by decide +kernel
theorem dX11_hears_29 : decode cX11_hears 29 = .ok (.ior, 1) := by decide +kernel
theorem dX11_hears_30 : decode cX11_hears 30 = .ok (.iastore, 1) := by decide +kernel
theorem dX11_hears_31 : decode cX11_hears 31 = .ok (.aload_n 0, 1) := by decide +kernel
theorem dX11_hears_32 : decode cX11_hears 32 = .ok (.getfield 7, 3) := by decide +kernel
theorem dX11_hears_35 : decode cX11_hears 35 = .ok (.iload_n 1, 1) := by decide +kernel
theorem dX11_hears_36 : decode cX11_hears 36 = .ok (.iconst 5, 1) := by decide +kernel
theorem dX11_hears_37 : decode cX11_hears 37 = .ok (.invokestatic 61, 3) := by decide +kernel
theorem dX11_hears_40 : decode cX11_hears 40 = .ok (.aload_n 0, 1) := by decide +kernel
theorem dX11_hears_41 : decode cX11_hears 41 = .ok (.iload_n 1, 1) := by decide +kernel
theorem dX11_hears_42 : decode cX11_hears 42 = .ok (.iconst 5, 1) := by decide +kernel
theorem dX11_hears_43 : decode cX11_hears 43 = .ok (.invokevirtual 58, 3) := by decide +kernel
theorem dX11_hears_46 : decode cX11_hears 46 = .ok (.sipush 9999, 3) := by decide +kernel
theorem dX11_hears_49 : decode cX11_hears 49 = .ok (.if_icmp .ge 14, 3) := by decide +kernel
theorem dX11_hears_52 : decode cX11_hears 52 = .ok (.aload_n 0, 1) := by decide +kernel
theorem dX11_hears_53 : decode cX11_hears 53 = .ok (.iload_n 1, 1) := by decide +kernel
theorem dX11_hears_54 : decode cX11_hears 54 = .ok (.iconst 5, 1) := by decide +kernel
theorem dX11_hears_55 : decode cX11_hears 55 = .ok (.invokevirtual 58, 3) := by decide +kernel
theorem dX11_hears_58 : decode cX11_hears 58 = .ok (.iconst 1, 1) := by decide +kernel
theorem dX11_hears_59 : decode cX11_hears 59 = .ok (.iadd, 1) := by decide +kernel
theorem dX11_hears_60 : decode cX11_hears 60 = .ok (.goto 6, 3) := by decide +kernel
theorem dX11_hears_63 : decode cX11_hears 63 = .ok (.sipush 9999, 3) := by decide +kernel
theorem dX11_hears_66 : decode cX11_hears 66 = .ok (.iastore, 1) := by decide +kernel
theorem dX11_hears_67 : decode cX11_hears 67 = .ok (.aload_n 0, 1) := by decide +kernel
theorem dX11_hears_68 : decode cX11_hears 68 = .ok (.getfield 7, 3) := by decide +kernel
theorem dX11_hears_71 : decode cX11_hears 71 = .ok (.iload_n 1, 1) := by decide +kernel
theorem dX11_hears_72 : decode cX11_hears 72 = .ok (.iconst 2, 1) := by decide +kernel
theorem dX11_hears_73 : decode cX11_hears 73 = .ok (.invokestatic 61, 3) := by decide +kernel
theorem dX11_hears_76 : decode cX11_hears 76 = .ok (.iload 4, 2) := by decide +kernel
theorem dX11_hears_78 : decode cX11_hears 78 = .ok (.ifCond .eq 14, 3) := by decide +kernel
theorem dX11_hears_81 : decode cX11_hears 81 = .ok (.aload_n 0, 1) := by decide +kernel
theorem dX11_hears_82 : decode cX11_hears 82 = .ok (.iload_n 1, 1) := by decide +kernel
theorem dX11_hears_83 : decode cX11_hears 83 = .ok (.iconst 2, 1) := by decide +kernel
theorem dX11_hears_84 : decode cX11_hears 84 = .ok (.invokevirtual 58, 3) := by decide +kernel
theorem dX11_hears_87 : decode cX11_hears 87 = .ok (.iload_n 3, 1) := by decide +kernel
theorem dX11_hears_88 : decode cX11_hears 88 = .ok (.ior, 1) := by decide +kernel
theorem dX11_hears_89 : decode cX11_hears 89 = .ok (.goto 13, 3) := by decide +kernel
theorem dX11_hears_92 : decode cX11_hears 92 = .ok (.aload_n 0, 1) := by decide +kernel
theorem dX11_hears_93 : decode cX11_hears 93 = .ok (.iload_n 1, 1) := by decide +kernel
theorem dX11_hears_94 : decode cX11_hears 94 = .ok (.iconst 2, 1) := by decide +kernel
theorem dX11_hears_95 : decode cX11_hears 95 = .ok (.invokevirtual 58, 3) := by decide +kernel
theorem dX11_hears_98 : decode cX11_hears 98 = .ok (.iload_n 3, 1) := by decide +kernel
theorem dX11_hears_99 : decode cX11_hears 99 = .ok (.iconst (-1), 1) := by decide +kernel
theorem dX11_hears_100 : decode cX11_hears 100 = .ok (.ixor, 1) := by decide +kernel
theorem dX11_hears_101 : decode cX11_hears 101 = .ok (.iand, 1) := by decide +kernel
theorem dX11_hears_102 : decode cX11_hears 102 = .ok (.iastore, 1) := by decide +kernel
theorem dX11_hears_103 : decode cX11_hears 103 = .ok (.return_, 1) := by decide +kernel
theorem dX11_hearsItself_0 : decode cX11_hearsItself 0 = .ok (.aload_n 0, 1) := by decide +kernel
theorem dX11_hearsItself_1 : decode cX11_hearsItself 1 = .ok (.getfield 7, 3) := by decide +kernel
theorem dX11_hearsItself_4 : decode cX11_hearsItself 4 = .ok (.iload_n 1, 1) := by decide +kernel
theorem dX11_hearsItself_5 : decode cX11_hearsItself 5 = .ok (.iconst 2, 1) := by decide +kernel
theorem dX11_hearsItself_6 : decode cX11_hearsItself 6 = .ok (.invokestatic 61, 3) := by decide +kernel
theorem dX11_hearsItself_9 : decode cX11_hearsItself 9 = .ok (.dup2, 1) := by decide +kernel
theorem dX11_hearsItself_10 : decode cX11_hearsItself 10 = .ok (.iaload, 1) := by decide +kernel
theorem dX11_hearsItself_11 : decode cX11_hearsItself 11 = .ok (.iload_n 2, 1) := by decide +kernel
theorem dX11_hearsItself_12 : decode cX11_hearsItself 12 = .ok (.ifCond .ge 7, 3) := by decide +kernel
theorem dX11_hearsItself_15 : decode cX11_hearsItself 15 = .ok (.iconst 0, 1) := by decide +kernel
theorem dX11_hearsItself_16 : decode cX11_hearsItself 16 = .ok (.goto 13, 3) := by decide +kernel
theorem dX11_hearsItself_19 : decode cX11_hearsItself 19 = .ok (.aload_n 0, 1) := by decide +kernel
theorem dX11_hearsItself_20 : decode cX11_hearsItself 20 = .ok (.iload_n 1, 1) := by decide +kernel
theorem dX11_hearsItself_21 : decode cX11_hearsItself 21 = .ok (.iconst 1, 1) := by decide +kernel
theorem dX11_hearsItself_22 : decode cX11_hearsItself 22 = .ok (.invokevirtual 58, 3) := by decide +kernel
theorem dX11_hearsItself_25 : decode cX11_hearsItself 25 = .ok (.iconst 1, 1) := by decide +kernel
theorem dX11_hearsItself_26 : decode cX11_hearsItself 26 = .ok (.iload_n 2, 1) := by decide +kernel
theorem dX11_hearsItself_27 : decode cX11_hearsItself 27 = .ok (.ishl, 1) := by decide +kernel
theorem dX11_hearsItself_28 : decode cX11_hearsItself 28 = .ok (.iand, 1) := by decide +kernel
theorem dX11_hearsItself_29 : decode cX11_hearsItself 29 = .ok (.ior, 1) := by decide +kernel
theorem dX11_hearsItself_30 : decode cX11_hearsItself 30 = .ok (.iastore, 1) := by decide +kernel
theorem dX11_hearsItself_31 : decode cX11_hearsItself 31 = .ok (.return_, 1) := by decide +kernel
theorem dX11_nextIn_0 : decode cX11_nextIn 0 = .ok (.iconst 1, 1) := by decide +kernel
theorem dX11_nextIn_1 : decode cX11_nextIn 1 = .ok (.istore_n 2, 1) := by decide +kernel
theorem dX11_nextIn_2 : decode cX11_nextIn 2 = .ok (.iload_n 2, 1) := by decide +kernel
theorem dX11_nextIn_3 : decode cX11_nextIn 3 = .ok (.aload_n 0, 1) := by decide +kernel
theorem dX11_nextIn_4 : decode cX11_nextIn 4 = .ok (.getfield 7, 3) := by decide +kernel
theorem dX11_nextIn_7 : decode cX11_nextIn 7 = .ok (.iconst 0, 1) := by decide +kernel
theorem dX11_nextIn_8 : decode cX11_nextIn 8 = .ok (.iaload, 1) := by decide +kernel
theorem dX11_nextIn_9 : decode cX11_nextIn 9 = .ok (.if_icmp .gt 44, 3) := by decide +kernel
theorem dX11_nextIn_12 : decode cX11_nextIn 12 = .ok (.aload_n 0, 1) := by decide +kernel
theorem dX11_nextIn_13 : decode cX11_nextIn 13 = .ok (.getfield 7, 3) := by decide +kernel
theorem dX11_nextIn_16 : decode cX11_nextIn 16 = .ok (.iconst 3, 1) := by decide +kernel
theorem dX11_nextIn_17 : decode cX11_nextIn 17 = .ok (.iaload, 1) := by decide +kernel
theorem dX11_nextIn_18 : decode cX11_nextIn 18 = .ok (.iload_n 2, 1) := by decide +kernel
theorem dX11_nextIn_19 : decode cX11_nextIn 19 = .ok (.iadd, 1) := by decide +kernel
theorem dX11_nextIn_20 : decode cX11_nextIn 20 = .ok (.aload_n 0, 1) := by decide +kernel
theorem dX11_nextIn_21 : decode cX11_nextIn 21 = .ok (.getfield 7, 3) := by decide +kernel
theorem dX11_nextIn_24 : decode cX11_nextIn 24 = .ok (.iconst 0, 1) := by decide +kernel
theorem dX11_nextIn_25 : decode cX11_nextIn 25 = .ok (.iaload, 1) := by decide +kernel
theorem dX11_nextIn_26 : decode cX11_nextIn 26 = .ok (.irem, 1) := by decide +kernel
theorem dX11_nextIn_27 : decode cX11_nextIn 27 = .ok (.istore_n 3, 1) := by decide +kernel
theorem dX11_nextIn_28 : decode cX11_nextIn 28 = .ok (.aload_n 0, 1) := by decide +kernel
theorem dX11_nextIn_29 : decode cX11_nextIn 29 = .ok (.iload_n 3, 1) := by decide +kernel
theorem dX11_nextIn_30 : decode cX11_nextIn 30 = .ok (.iconst 3, 1) := by decide +kernel
theorem dX11_nextIn_31 : decode cX11_nextIn 31 = .ok (.invokevirtual 58, 3) := by decide +kernel
theorem dX11_nextIn_34 : decode cX11_nextIn 34 = .ok (.ifCond .ge 13, 3) := by decide +kernel
theorem dX11_nextIn_37 : decode cX11_nextIn 37 = .ok (.iload_n 1, 1) := by decide +kernel
theorem dX11_nextIn_38 : decode cX11_nextIn 38 = .ok (.iload_n 3, 1) := by decide +kernel
theorem dX11_nextIn_39 : decode cX11_nextIn 39 = .ok (.ishr, 1) := by decide +kernel
theorem dX11_nextIn_40 : decode cX11_nextIn 40 = .ok (.iconst 1, 1) := by decide +kernel
theorem dX11_nextIn_41 : decode cX11_nextIn 41 = .ok (.iand, 1) := by decide +kernel
theorem dX11_nextIn_42 : decode cX11_nextIn 42 = .ok (.ifCond .ne 5, 3) := by decide +kernel
theorem dX11_nextIn_45 : decode cX11_nextIn 45 = .ok (.iload_n 3, 1) := by decide +kernel
theorem dX11_nextIn_46 : decode cX11_nextIn 46 = .ok (.ireturn, 1) := by decide +kernel
theorem dX11_nextIn_47 : decode cX11_nextIn 47 = .ok (.iinc 2 1, 3) := by decide +kernel
theorem dX11_nextIn_50 : decode cX11_nextIn 50 = .ok (.goto (-48), 3) := by decide +kernel
theorem dX11_nextIn_53 : decode cX11_nextIn 53 = .ok (.iconst (-1), 1) := by decide +kernel
theorem dX11_nextIn_54 : decode cX11_nextIn 54 = .ok (.ireturn, 1) := by decide +kernel
theorem dX11_goesOn_0 : decode cX11_goesOn 0 = .ok (.aload_n 0, 1) := by decide +kernel
theorem dX11_goesOn_1 : decode cX11_goesOn 1 = .ok (.iconst 0, 1) := by decide +kernel
theorem dX11_goesOn_2 : decode cX11_goesOn 2 = .ok (.invokevirtual 110, 3) := by decide +kernel
theorem dX11_goesOn_5 : decode cX11_goesOn 5 = .ok (.istore_n 1, 1) := by decide +kernel
theorem dX11_goesOn_6 : decode cX11_goesOn 6 = .ok (.aload_n 0, 1) := by decide +kernel
theorem dX11_goesOn_7 : decode cX11_goesOn 7 = .ok (.iconst 1, 1) := by decide +kernel
theorem dX11_goesOn_8 : decode cX11_goesOn 8 = .ok (.invokevirtual 110, 3) := by decide +kernel
theorem dX11_goesOn_11 : decode cX11_goesOn 11 = .ok (.istore_n 2, 1) := by decide +kernel
theorem dX11_goesOn_12 : decode cX11_goesOn 12 = .ok (.iload_n 1, 1) := by decide +kernel
theorem dX11_goesOn_13 : decode cX11_goesOn 13 = .ok (.ifCond .lt 56, 3) := by decide +kernel
theorem dX11_goesOn_16 : decode cX11_goesOn 16 = .ok (.iload_n 2, 1) := by decide +kernel
theorem dX11_goesOn_17 : decode cX11_goesOn 17 = .ok (.ifCond .lt 52, 3) := by decide +kernel
theorem dX11_goesOn_20 : decode cX11_goesOn 20 = .ok (.aload_n 0, 1) := by decide +kernel
theorem dX11_goesOn_21 : decode cX11_goesOn 21 = .ok (.iload_n 1, 1) := by decide +kernel
theorem dX11_goesOn_22 : decode cX11_goesOn 22 = .ok (.invokevirtual 88, 3) := by decide +kernel
theorem dX11_goesOn_25 : decode cX11_goesOn 25 = .ok (.istore_n 3, 1) := by decide +kernel
theorem dX11_goesOn_26 : decode cX11_goesOn 26 = .ok (.aload_n 0, 1) := by decide +kernel
theorem dX11_goesOn_27 : decode cX11_goesOn 27 = .ok (.iload_n 2, 1) := by decide +kernel
theorem dX11_goesOn_28 : decode cX11_goesOn 28 = .ok (.invokevirtual 88, 3) := by decide +kernel
theorem dX11_goesOn_31 : decode cX11_goesOn 31 = .ok (.istore 4, 2) := by decide +kernel
theorem dX11_goesOn_33 : decode cX11_goesOn 33 = .ok (.aload_n 0, 1) := by decide +kernel
theorem dX11_goesOn_34 : decode cX11_goesOn 34 = .ok (.invokevirtual 117, 3) := by decide +kernel
theorem dX11_goesOn_37 : decode cX11_goesOn 37 = .ok (.ifCond .eq 19, 3) := by decide +kernel
theorem dX11_goesOn_40 : decode cX11_goesOn 40 = .ok (.aload_n 0, 1) := by decide +kernel
theorem dX11_goesOn_41 : decode cX11_goesOn 41 = .ok (.iload_n 1, 1) := by decide +kernel
theorem dX11_goesOn_42 : decode cX11_goesOn 42 = .ok (.iload_n 3, 1) := by decide +kernel
theorem dX11_goesOn_43 : decode cX11_goesOn 43 = .ok (.invokevirtual 121, 3) := by decide +kernel
theorem dX11_goesOn_46 : decode cX11_goesOn 46 = .ok (.aload_n 0, 1) := by decide +kernel
theorem dX11_goesOn_47 : decode cX11_goesOn 47 = .ok (.iload_n 2, 1) := by decide +kernel
theorem dX11_goesOn_48 : decode cX11_goesOn 48 = .ok (.iload 4, 2) := by decide +kernel
theorem dX11_goesOn_50 : decode cX11_goesOn 50 = .ok (.invokevirtual 121, 3) := by decide +kernel
theorem dX11_goesOn_53 : decode cX11_goesOn 53 = .ok (.goto 16, 3) := by decide +kernel
theorem dX11_goesOn_56 : decode cX11_goesOn 56 = .ok (.aload_n 0, 1) := by decide +kernel
theorem dX11_goesOn_57 : decode cX11_goesOn 57 = .ok (.iload_n 1, 1) := by decide +kernel
theorem dX11_goesOn_58 : decode cX11_goesOn 58 = .ok (.iload 4, 2) := by decide +kernel
theorem dX11_goesOn_60 : decode cX11_goesOn 60 = .ok (.invokevirtual 125, 3) := by decide +kernel
theorem dX11_goesOn_63 : decode cX11_goesOn 63 = .ok (.aload_n 0, 1) := by decide +kernel
theorem dX11_goesOn_64 : decode cX11_goesOn 64 = .ok (.iload_n 2, 1) := by decide +kernel
theorem dX11_goesOn_65 : decode cX11_goesOn 65 = .ok (.iload_n 3, 1) := by decide +kernel
theorem dX11_goesOn_66 : decode cX11_goesOn 66 = .ok (.invokevirtual 125, 3) := by decide +kernel
theorem dX11_goesOn_69 : decode cX11_goesOn 69 = .ok (.iconst 0, 1) := by decide +kernel
theorem dX11_goesOn_70 : decode cX11_goesOn 70 = .ok (.istore_n 3, 1) := by decide +kernel
theorem dX11_goesOn_71 : decode cX11_goesOn 71 = .ok (.iconst 0, 1) := by decide +kernel
theorem dX11_goesOn_72 : decode cX11_goesOn 72 = .ok (.istore 4, 2) := by decide +kernel
theorem dX11_goesOn_74 : decode cX11_goesOn 74 = .ok (.iload 4, 2) := by decide +kernel
theorem dX11_goesOn_76 : decode cX11_goesOn 76 = .ok (.aload_n 0, 1) := by decide +kernel
theorem dX11_goesOn_77 : decode cX11_goesOn 77 = .ok (.getfield 7, 3) := by decide +kernel
theorem dX11_goesOn_80 : decode cX11_goesOn 80 = .ok (.iconst 0, 1) := by decide +kernel
theorem dX11_goesOn_81 : decode cX11_goesOn 81 = .ok (.iaload, 1) := by decide +kernel
theorem dX11_goesOn_82 : decode cX11_goesOn 82 = .ok (.if_icmp .ge 81, 3) := by decide +kernel
theorem dX11_goesOn_85 : decode cX11_goesOn 85 = .ok (.aload_n 0, 1) := by decide +kernel
theorem dX11_goesOn_86 : decode cX11_goesOn 86 = .ok (.iload 4, 2) := by decide +kernel
theorem dX11_goesOn_88 : decode cX11_goesOn 88 = .ok (.iconst 3, 1) := by decide +kernel
theorem dX11_goesOn_89 : decode cX11_goesOn 89 = .ok (.invokevirtual 58, 3) := by decide +kernel
theorem dX11_goesOn_92 : decode cX11_goesOn 92 = .ok (.ifCond .lt 65, 3) := by decide +kernel
theorem dX11_goesOn_95 : decode cX11_goesOn 95 = .ok (.aload_n 0, 1) := by decide +kernel
theorem dX11_goesOn_96 : decode cX11_goesOn 96 = .ok (.getfield 7, 3) := by decide +kernel
theorem dX11_goesOn_99 : decode cX11_goesOn 99 = .ok (.iload 4, 2) := by decide +kernel
theorem dX11_goesOn_101 : decode cX11_goesOn 101 = .ok (.iconst 4, 1) := by decide +kernel
theorem dX11_goesOn_102 : decode cX11_goesOn 102 = .ok (.invokestatic 61, 3) := by decide +kernel
theorem dX11_goesOn_105 : decode cX11_goesOn 105 = .ok (.dup2, 1) := by decide +kernel
theorem dX11_goesOn_106 : decode cX11_goesOn 106 = .ok (.iaload, 1) := by decide +kernel
theorem dX11_goesOn_107 : decode cX11_goesOn 107 = .ok (.iconst 1, 1) := by decide +kernel
theorem dX11_goesOn_108 : decode cX11_goesOn 108 = .ok (.iadd, 1) := by decide +kernel
theorem dX11_goesOn_109 : decode cX11_goesOn 109 = .ok (.iastore, 1) := by decide +kernel
theorem dX11_goesOn_110 : decode cX11_goesOn 110 = .ok (.aload_n 0, 1) := by decide +kernel
theorem dX11_goesOn_111 : decode cX11_goesOn 111 = .ok (.iload 4, 2) := by decide +kernel
theorem dX11_goesOn_113 : decode cX11_goesOn 113 = .ok (.iconst 4, 1) := by decide +kernel
theorem dX11_goesOn_114 : decode cX11_goesOn 114 = .ok (.invokevirtual 58, 3) := by decide +kernel
theorem dX11_goesOn_117 : decode cX11_goesOn 117 = .ok (.aload_n 0, 1) := by decide +kernel
theorem dX11_goesOn_118 : decode cX11_goesOn 118 = .ok (.iload 4, 2) := by decide +kernel
theorem dX11_goesOn_120 : decode cX11_goesOn 120 = .ok (.invokevirtual 91, 3) := by decide +kernel
theorem dX11_goesOn_123 : decode cX11_goesOn 123 = .ok (.if_icmp .lt 34, 3) := by decide +kernel
theorem dX11_goesOn_126 : decode cX11_goesOn 126 = .ok (.aload_n 0, 1) := by decide +kernel
theorem dX11_goesOn_127 : decode cX11_goesOn 127 = .ok (.getfield 7, 3) := by decide +kernel
theorem dX11_goesOn_130 : decode cX11_goesOn 130 = .ok (.iload 4, 2) := by decide +kernel
theorem dX11_goesOn_132 : decode cX11_goesOn 132 = .ok (.iconst 3, 1) := by decide +kernel
theorem dX11_goesOn_133 : decode cX11_goesOn 133 = .ok (.invokestatic 61, 3) := by decide +kernel
theorem dX11_goesOn_136 : decode cX11_goesOn 136 = .ok (.iconst (-1), 1) := by decide +kernel
theorem dX11_goesOn_137 : decode cX11_goesOn 137 = .ok (.iastore, 1) := by decide +kernel
theorem dX11_goesOn_138 : decode cX11_goesOn 138 = .ok (.aload_n 0, 1) := by decide +kernel
theorem dX11_goesOn_139 : decode cX11_goesOn 139 = .ok (.getfield 7, 3) := by decide +kernel
theorem dX11_goesOn_142 : decode cX11_goesOn 142 = .ok (.iload 4, 2) := by decide +kernel
theorem dX11_goesOn_144 : decode cX11_goesOn 144 = .ok (.iconst 4, 1) := by decide +kernel
theorem dX11_goesOn_145 : decode cX11_goesOn 145 = .ok (.invokestatic 61, 3) := by decide +kernel
theorem dX11_goesOn_148 : decode cX11_goesOn 148 = .ok (.iconst 0, 1) := by decide +kernel
theorem dX11_goesOn_149 : decode cX11_goesOn 149 = .ok (.iastore, 1) := by decide +kernel
theorem dX11_goesOn_150 : decode cX11_goesOn 150 = .ok (.iload_n 3, 1) := by decide +kernel
theorem dX11_goesOn_151 : decode cX11_goesOn 151 = .ok (.iconst 1, 1) := by decide +kernel
theorem dX11_goesOn_152 : decode cX11_goesOn 152 = .ok (.iload 4, 2) := by decide +kernel
theorem dX11_goesOn_154 : decode cX11_goesOn 154 = .ok (.ishl, 1) := by decide +kernel
theorem dX11_goesOn_155 : decode cX11_goesOn 155 = .ok (.ior, 1) := by decide +kernel
theorem dX11_goesOn_156 : decode cX11_goesOn 156 = .ok (.istore_n 3, 1) := by decide +kernel
theorem dX11_goesOn_157 : decode cX11_goesOn 157 = .ok (.iinc 4 1, 3) := by decide +kernel
theorem dX11_goesOn_160 : decode cX11_goesOn 160 = .ok (.goto (-86), 3) := by decide +kernel
theorem dX11_goesOn_163 : decode cX11_goesOn 163 = .ok (.iconst 0, 1) := by decide +kernel
theorem dX11_goesOn_164 : decode cX11_goesOn 164 = .ok (.istore 4, 2) := by decide +kernel
theorem dX11_goesOn_166 : decode cX11_goesOn 166 = .ok (.iload 4, 2) := by decide +kernel
theorem dX11_goesOn_168 : decode cX11_goesOn 168 = .ok (.iconst 2, 1) := by decide +kernel
theorem dX11_goesOn_169 : decode cX11_goesOn 169 = .ok (.if_icmp .ge 67, 3) := by decide +kernel
theorem dX11_goesOn_172 : decode cX11_goesOn 172 = .ok (.aload_n 0, 1) := by decide +kernel
theorem dX11_goesOn_173 : decode cX11_goesOn 173 = .ok (.iload 4, 2) := by decide +kernel
theorem dX11_goesOn_175 : decode cX11_goesOn 175 = .ok (.invokevirtual 110, 3) := by decide +kernel
theorem dX11_goesOn_178 : decode cX11_goesOn 178 = .ok (.ifCond .ge 11, 3) := by decide +kernel
theorem dX11_goesOn_181 : decode cX11_goesOn 181 = .ok (.aload_n 0, 1) := by decide +kernel
theorem dX11_goesOn_182 : decode cX11_goesOn 182 = .ok (.iload_n 3, 1) := by decide +kernel
theorem dX11_goesOn_183 : decode cX11_goesOn 183 = .ok (.invokevirtual 128, 3) := by decide +kernel
theorem dX11_goesOn_186 : decode cX11_goesOn 186 = .ok (.goto 4, 3) := by decide +kernel
theorem dX11_goesOn_189 : decode cX11_goesOn 189 = .ok (.iconst (-1), 1) := by decide +kernel
theorem dX11_goesOn_190 : decode cX11_goesOn 190 = .ok (.istore 5, 2) := by decide +kernel
theorem dX11_goesOn_192 : decode cX11_goesOn 192 = .ok (.iload 5, 2) := by decide +kernel
theorem dX11_goesOn_194 : decode cX11_goesOn 194 = .ok (.ifCond .lt 36, 3) := by decide +kernel
theorem dX11_goesOn_197 : decode cX11_goesOn 197 = .ok (.aload_n 0, 1) := by decide +kernel
theorem dX11_goesOn_198 : decode cX11_goesOn 198 = .ok (.getfield 7, 3) := by decide +kernel
theorem dX11_goesOn_201 : decode cX11_goesOn 201 = .ok (.iload 5, 2) := by decide +kernel
theorem dX11_goesOn_203 : decode cX11_goesOn 203 = .ok (.iconst 3, 1) := by decide +kernel
theorem dX11_goesOn_204 : decode cX11_goesOn 204 = .ok (.invokestatic 61, 3) := by decide +kernel
theorem dX11_goesOn_207 : decode cX11_goesOn 207 = .ok (.iload 4, 2) := by decide +kernel
theorem dX11_goesOn_209 : decode cX11_goesOn 209 = .ok (.iastore, 1) := by decide +kernel
theorem dX11_goesOn_210 : decode cX11_goesOn 210 = .ok (.aload_n 0, 1) := by decide +kernel
theorem dX11_goesOn_211 : decode cX11_goesOn 211 = .ok (.getfield 7, 3) := by decide +kernel
theorem dX11_goesOn_214 : decode cX11_goesOn 214 = .ok (.iload 5, 2) := by decide +kernel
theorem dX11_goesOn_216 : decode cX11_goesOn 216 = .ok (.iconst 4, 1) := by decide +kernel
theorem dX11_goesOn_217 : decode cX11_goesOn 217 = .ok (.invokestatic 61, 3) := by decide +kernel
theorem dX11_goesOn_220 : decode cX11_goesOn 220 = .ok (.iconst 0, 1) := by decide +kernel
theorem dX11_goesOn_221 : decode cX11_goesOn 221 = .ok (.iastore, 1) := by decide +kernel
theorem dX11_goesOn_222 : decode cX11_goesOn 222 = .ok (.aload_n 0, 1) := by decide +kernel
theorem dX11_goesOn_223 : decode cX11_goesOn 223 = .ok (.getfield 7, 3) := by decide +kernel
theorem dX11_goesOn_226 : decode cX11_goesOn 226 = .ok (.iconst 3, 1) := by decide +kernel
theorem dX11_goesOn_227 : decode cX11_goesOn 227 = .ok (.iload 5, 2) := by decide +kernel
theorem dX11_goesOn_229 : decode cX11_goesOn 229 = .ok (.iastore, 1) := by decide +kernel
theorem dX11_goesOn_230 : decode cX11_goesOn 230 = .ok (.iinc 4 1, 3) := by decide +kernel
theorem dX11_goesOn_233 : decode cX11_goesOn 233 = .ok (.goto (-67), 3) := by decide +kernel
theorem dX11_goesOn_236 : decode cX11_goesOn 236 = .ok (.aload_n 0, 1) := by decide +kernel
theorem dX11_goesOn_237 : decode cX11_goesOn 237 = .ok (.getfield 7, 3) := by decide +kernel
theorem dX11_goesOn_240 : decode cX11_goesOn 240 = .ok (.iconst 1, 1) := by decide +kernel
theorem dX11_goesOn_241 : decode cX11_goesOn 241 = .ok (.dup2, 1) := by decide +kernel
theorem dX11_goesOn_242 : decode cX11_goesOn 242 = .ok (.iaload, 1) := by decide +kernel
theorem dX11_goesOn_243 : decode cX11_goesOn 243 = .ok (.iconst 1, 1) := by decide +kernel
theorem dX11_goesOn_244 : decode cX11_goesOn 244 = .ok (.iadd, 1) := by decide +kernel
theorem dX11_goesOn_245 : decode cX11_goesOn 245 = .ok (.iastore, 1) := by decide +kernel
theorem dX11_goesOn_246 : decode cX11_goesOn 246 = .ok (.return_, 1) := by decide +kernel
theorem dX11_goes_0 : decode cX11_goes 0 = .ok (.iconst 0, 1) := by decide +kernel
theorem dX11_goes_1 : decode cX11_goes 1 = .ok (.istore_n 2, 1) := by decide +kernel
theorem dX11_goes_2 : decode cX11_goes 2 = .ok (.iload_n 2, 1) := by decide +kernel
theorem dX11_goes_3 : decode cX11_goes 3 = .ok (.iload_n 1, 1) := by decide +kernel
theorem dX11_goes_4 : decode cX11_goes 4 = .ok (.if_icmp .ge 13, 3) := by decide +kernel
theorem dX11_goes_7 : decode cX11_goes 7 = .ok (.aload_n 0, 1) := by decide +kernel
theorem dX11_goes_8 : decode cX11_goes 8 = .ok (.invokevirtual 131, 3) := by decide +kernel
theorem dX11_goes_11 : decode cX11_goes 11 = .ok (.iinc 2 1, 3) := by decide +kernel
theorem dX11_goes_14 : decode cX11_goes 14 = .ok (.goto (-12), 3) := by decide +kernel
theorem dX11_goes_17 : decode cX11_goes 17 = .ok (.return_, 1) := by decide +kernel
theorem dX11_heardOfAll_0 : decode cX11_heardOfAll 0 = .ok (.iconst 0, 1) := by decide +kernel
theorem dX11_heardOfAll_1 : decode cX11_heardOfAll 1 = .ok (.istore_n 1, 1) := by decide +kernel
theorem dX11_heardOfAll_2 : decode cX11_heardOfAll 2 = .ok (.iconst 0, 1) := by decide +kernel
theorem dX11_heardOfAll_3 : decode cX11_heardOfAll 3 = .ok (.istore_n 2, 1) := by decide +kernel
theorem dX11_heardOfAll_4 : decode cX11_heardOfAll 4 = .ok (.iload_n 2, 1) := by decide +kernel
theorem dX11_heardOfAll_5 : decode cX11_heardOfAll 5 = .ok (.aload_n 0, 1) := by decide +kernel
theorem dX11_heardOfAll_6 : decode cX11_heardOfAll 6 = .ok (.getfield 7, 3) := by decide +kernel
theorem dX11_heardOfAll_9 : decode cX11_heardOfAll 9 = .ok (.iconst 0, 1) := by decide +kernel
theorem dX11_heardOfAll_10 : decode cX11_heardOfAll 10 = .ok (.iaload, 1) := by decide +kernel
theorem dX11_heardOfAll_11 : decode cX11_heardOfAll 11 = .ok (.if_icmp .ge 18, 3) := by decide +kernel
theorem dX11_heardOfAll_14 : decode cX11_heardOfAll 14 = .ok (.iload_n 1, 1) := by decide +kernel
theorem dX11_heardOfAll_15 : decode cX11_heardOfAll 15 = .ok (.aload_n 0, 1) := by decide +kernel
theorem dX11_heardOfAll_16 : decode cX11_heardOfAll 16 = .ok (.iload_n 2, 1) := by decide +kernel
theorem dX11_heardOfAll_17 : decode cX11_heardOfAll 17 = .ok (.iconst 5, 1) := by decide +kernel
theorem dX11_heardOfAll_18 : decode cX11_heardOfAll 18 = .ok (.invokevirtual 58, 3) := by decide +kernel
theorem dX11_heardOfAll_21 : decode cX11_heardOfAll 21 = .ok (.iadd, 1) := by decide +kernel
theorem dX11_heardOfAll_22 : decode cX11_heardOfAll 22 = .ok (.istore_n 1, 1) := by decide +kernel
theorem dX11_heardOfAll_23 : decode cX11_heardOfAll 23 = .ok (.iinc 2 1, 3) := by decide +kernel
theorem dX11_heardOfAll_26 : decode cX11_heardOfAll 26 = .ok (.goto (-22), 3) := by decide +kernel
theorem dX11_heardOfAll_29 : decode cX11_heardOfAll 29 = .ok (.iload_n 1, 1) := by decide +kernel
theorem dX11_heardOfAll_30 : decode cX11_heardOfAll 30 = .ok (.ireturn, 1) := by decide +kernel
theorem dX11_believed_0 : decode cX11_believed 0 = .ok (.iconst 0, 1) := by decide +kernel
theorem dX11_believed_1 : decode cX11_believed 1 = .ok (.istore_n 1, 1) := by decide +kernel
theorem dX11_believed_2 : decode cX11_believed 2 = .ok (.iconst 0, 1) := by decide +kernel
theorem dX11_believed_3 : decode cX11_believed 3 = .ok (.istore_n 2, 1) := by decide +kernel
theorem dX11_believed_4 : decode cX11_believed 4 = .ok (.iload_n 2, 1) := by decide +kernel
theorem dX11_believed_5 : decode cX11_believed 5 = .ok (.aload_n 0, 1) := by decide +kernel
theorem dX11_believed_6 : decode cX11_believed 6 = .ok (.getfield 7, 3) := by decide +kernel
theorem dX11_believed_9 : decode cX11_believed 9 = .ok (.iconst 0, 1) := by decide +kernel
theorem dX11_believed_10 : decode cX11_believed 10 = .ok (.iaload, 1) := by decide +kernel
theorem dX11_believed_11 : decode cX11_believed 11 = .ok (.if_icmp .ge 21, 3) := by decide +kernel
theorem dX11_believed_14 : decode cX11_believed 14 = .ok (.iload_n 1, 1) := by decide +kernel
theorem dX11_believed_15 : decode cX11_believed 15 = .ok (.aload_n 0, 1) := by decide +kernel
theorem dX11_believed_16 : decode cX11_believed 16 = .ok (.iload_n 2, 1) := by decide +kernel
theorem dX11_believed_17 : decode cX11_believed 17 = .ok (.iconst 2, 1) := by decide +kernel
theorem dX11_believed_18 : decode cX11_believed 18 = .ok (.invokevirtual 58, 3) := by decide +kernel
theorem dX11_believed_21 : decode cX11_believed 21 = .ok (.invokestatic 80, 3) := by decide +kernel
theorem dX11_believed_24 : decode cX11_believed 24 = .ok (.iadd, 1) := by decide +kernel
theorem dX11_believed_25 : decode cX11_believed 25 = .ok (.istore_n 1, 1) := by decide +kernel
theorem dX11_believed_26 : decode cX11_believed 26 = .ok (.iinc 2 1, 3) := by decide +kernel
theorem dX11_believed_29 : decode cX11_believed 29 = .ok (.goto (-25), 3) := by decide +kernel
theorem dX11_believed_32 : decode cX11_believed 32 = .ok (.iload_n 1, 1) := by decide +kernel
theorem dX11_believed_33 : decode cX11_believed 33 = .ok (.ireturn, 1) := by decide +kernel
theorem dX11_hours_0 : decode cX11_hours 0 = .ok (.iload_n 1, 1) := by decide +kernel
theorem dX11_hours_1 : decode cX11_hours 1 = .ok (.i2l, 1) := by decide +kernel
theorem dX11_hours_2 : decode cX11_hours 2 = .ok (.lconst 1, 1) := by decide +kernel
theorem dX11_hours_3 : decode cX11_hours 3 = .ok (.ldc2_w 134, 3) := by decide +kernel
theorem dX11_hours_6 : decode cX11_hours 6 = .ok (.invokestatic 46, 3) := by decide +kernel
theorem dX11_hours_9 : decode cX11_hours 9 = .ok (.ifCond .ne 10, 3) := by decide +kernel
theorem dX11_hours_12 : decode cX11_hours 12 = .ok (.aload_n 0, 1) := by decide +kernel
theorem dX11_hours_13 : decode cX11_hours 13 = .ok (.ldc 38, 2) := by decide +kernel
theorem dX11_hours_15 : decode cX11_hours 15 = .ok (.invokevirtual 40, 3) := by decide +kernel
theorem dX11_hours_18 : decode cX11_hours 18 = .ok (.ireturn, 1) := by decide +kernel
theorem dX11_hours_19 : decode cX11_hours 19 = .ok (.aload_n 0, 1) := by decide +kernel
theorem dX11_hours_20 : decode cX11_hours 20 = .ok (.getfield 7, 3) := by decide +kernel
theorem dX11_hours_23 : decode cX11_hours 23 = .ok (.iconst 1, 1) := by decide +kernel
theorem dX11_hours_24 : decode cX11_hours 24 = .ok (.iaload, 1) := by decide +kernel
theorem dX11_hours_25 : decode cX11_hours 25 = .ok (.iload_n 1, 1) := by decide +kernel
theorem dX11_hours_26 : decode cX11_hours 26 = .ok (.iadd, 1) := by decide +kernel
theorem dX11_hours_27 : decode cX11_hours 27 = .ok (.ldc 136, 2) := by decide +kernel
theorem dX11_hours_29 : decode cX11_hours 29 = .ok (.if_icmp .le 10, 3) := by decide +kernel
theorem dX11_hours_32 : decode cX11_hours 32 = .ok (.aload_n 0, 1) := by decide +kernel
theorem dX11_hours_33 : decode cX11_hours 33 = .ok (.ldc 113, 2) := by decide +kernel
theorem dX11_hours_35 : decode cX11_hours 35 = .ok (.invokevirtual 40, 3) := by decide +kernel
theorem dX11_hours_38 : decode cX11_hours 38 = .ok (.ireturn, 1) := by decide +kernel
theorem dX11_hours_39 : decode cX11_hours 39 = .ok (.aload_n 0, 1) := by decide +kernel
theorem dX11_hours_40 : decode cX11_hours 40 = .ok (.iload_n 1, 1) := by decide +kernel
theorem dX11_hours_41 : decode cX11_hours 41 = .ok (.invokevirtual 137, 3) := by decide +kernel
theorem dX11_hours_44 : decode cX11_hours 44 = .ok (.aload_n 0, 1) := by decide +kernel
theorem dX11_hours_45 : decode cX11_hours 45 = .ok (.invokevirtual 140, 3) := by decide +kernel
theorem dX11_hours_48 : decode cX11_hours 48 = .ok (.ireturn, 1) := by decide +kernel
theorem dX11_outNow_0 : decode cX11_outNow 0 = .ok (.aload_n 0, 1) := by decide +kernel
theorem dX11_outNow_1 : decode cX11_outNow 1 = .ok (.getfield 7, 3) := by decide +kernel
theorem dX11_outNow_4 : decode cX11_outNow 4 = .ok (.iconst 0, 1) := by decide +kernel
theorem dX11_outNow_5 : decode cX11_outNow 5 = .ok (.iaload, 1) := by decide +kernel
theorem dX11_outNow_6 : decode cX11_outNow 6 = .ok (.ifCond .ne 7, 3) := by decide +kernel
theorem dX11_outNow_9 : decode cX11_outNow 9 = .ok (.iconst 0, 1) := by decide +kernel
theorem dX11_outNow_10 : decode cX11_outNow 10 = .ok (.goto 6, 3) := by decide +kernel
theorem dX11_outNow_13 : decode cX11_outNow 13 = .ok (.sipush 1023, 3) := by decide +kernel
theorem dX11_outNow_16 : decode cX11_outNow 16 = .ok (.istore_n 1, 1) := by decide +kernel
theorem dX11_outNow_17 : decode cX11_outNow 17 = .ok (.iconst 0, 1) := by decide +kernel
theorem dX11_outNow_18 : decode cX11_outNow 18 = .ok (.istore_n 2, 1) := by decide +kernel
theorem dX11_outNow_19 : decode cX11_outNow 19 = .ok (.iload_n 2, 1) := by decide +kernel
theorem dX11_outNow_20 : decode cX11_outNow 20 = .ok (.aload_n 0, 1) := by decide +kernel
theorem dX11_outNow_21 : decode cX11_outNow 21 = .ok (.getfield 7, 3) := by decide +kernel
theorem dX11_outNow_24 : decode cX11_outNow 24 = .ok (.iconst 0, 1) := by decide +kernel
theorem dX11_outNow_25 : decode cX11_outNow 25 = .ok (.iaload, 1) := by decide +kernel
theorem dX11_outNow_26 : decode cX11_outNow 26 = .ok (.if_icmp .ge 18, 3) := by decide +kernel
theorem dX11_outNow_29 : decode cX11_outNow 29 = .ok (.iload_n 1, 1) := by decide +kernel
theorem dX11_outNow_30 : decode cX11_outNow 30 = .ok (.aload_n 0, 1) := by decide +kernel
theorem dX11_outNow_31 : decode cX11_outNow 31 = .ok (.iload_n 2, 1) := by decide +kernel
theorem dX11_outNow_32 : decode cX11_outNow 32 = .ok (.iconst 1, 1) := by decide +kernel
theorem dX11_outNow_33 : decode cX11_outNow 33 = .ok (.invokevirtual 58, 3) := by decide +kernel
theorem dX11_outNow_36 : decode cX11_outNow 36 = .ok (.iand, 1) := by decide +kernel
theorem dX11_outNow_37 : decode cX11_outNow 37 = .ok (.istore_n 1, 1) := by decide +kernel
theorem dX11_outNow_38 : decode cX11_outNow 38 = .ok (.iinc 2 1, 3) := by decide +kernel
theorem dX11_outNow_41 : decode cX11_outNow 41 = .ok (.goto (-22), 3) := by decide +kernel
theorem dX11_outNow_44 : decode cX11_outNow 44 = .ok (.iload_n 1, 1) := by decide +kernel
theorem dX11_outNow_45 : decode cX11_outNow 45 = .ok (.ireturn, 1) := by decide +kernel
theorem dX11_now_0 : decode cX11_now 0 = .ok (.iload_n 1, 1) := by decide +kernel
theorem dX11_now_1 : decode cX11_now 1 = .ok (.tableswitch 108 0 7 #[47, 54, 64, 77, 83, 89, 94, 101], 47) := by decide +kernel
theorem dX11_now_48 : decode cX11_now 48 = .ok (.aload_n 0, 1) := by decide +kernel
theorem dX11_now_49 : decode cX11_now 49 = .ok (.getfield 7, 3) := by decide +kernel
theorem dX11_now_52 : decode cX11_now 52 = .ok (.iconst 1, 1) := by decide +kernel
theorem dX11_now_53 : decode cX11_now 53 = .ok (.iaload, 1) := by decide +kernel
theorem dX11_now_54 : decode cX11_now 54 = .ok (.ireturn, 1) := by decide +kernel
theorem dX11_now_55 : decode cX11_now 55 = .ok (.aload_n 0, 1) := by decide +kernel
theorem dX11_now_56 : decode cX11_now 56 = .ok (.getfield 7, 3) := by decide +kernel
theorem dX11_now_59 : decode cX11_now 59 = .ok (.iconst 1, 1) := by decide +kernel
theorem dX11_now_60 : decode cX11_now 60 = .ok (.iaload, 1) := by decide +kernel
theorem dX11_now_61 : decode cX11_now 61 = .ok (.bipush 24, 2) := by decide +kernel
theorem dX11_now_63 : decode cX11_now 63 = .ok (.irem, 1) := by decide +kernel
theorem dX11_now_64 : decode cX11_now 64 = .ok (.ireturn, 1) := by decide +kernel
theorem dX11_now_65 : decode cX11_now 65 = .ok (.aload_n 0, 1) := by decide +kernel
theorem dX11_now_66 : decode cX11_now 66 = .ok (.invokevirtual 117, 3) := by decide +kernel
theorem dX11_now_69 : decode cX11_now 69 = .ok (.ifCond .eq 7, 3) := by decide +kernel
theorem dX11_now_72 : decode cX11_now 72 = .ok (.iconst 1, 1) := by decide +kernel
theorem dX11_now_73 : decode cX11_now 73 = .ok (.goto 4, 3) := by decide +kernel
theorem dX11_now_76 : decode cX11_now 76 = .ok (.iconst 0, 1) := by decide +kernel
theorem dX11_now_77 : decode cX11_now 77 = .ok (.ireturn, 1) := by decide +kernel
theorem dX11_now_78 : decode cX11_now 78 = .ok (.aload_n 0, 1) := by decide +kernel
theorem dX11_now_79 : decode cX11_now 79 = .ok (.iconst 0, 1) := by decide +kernel
theorem dX11_now_80 : decode cX11_now 80 = .ok (.invokevirtual 110, 3) := by decide +kernel
theorem dX11_now_83 : decode cX11_now 83 = .ok (.ireturn, 1) := by decide +kernel
theorem dX11_now_84 : decode cX11_now 84 = .ok (.aload_n 0, 1) := by decide +kernel
theorem dX11_now_85 : decode cX11_now 85 = .ok (.iconst 1, 1) := by decide +kernel
theorem dX11_now_86 : decode cX11_now 86 = .ok (.invokevirtual 110, 3) := by decide +kernel
theorem dX11_now_89 : decode cX11_now 89 = .ok (.ireturn, 1) := by decide +kernel
theorem dX11_now_90 : decode cX11_now 90 = .ok (.aload_n 0, 1) := by decide +kernel
theorem dX11_now_91 : decode cX11_now 91 = .ok (.invokevirtual 144, 3) := by decide +kernel
theorem dX11_now_94 : decode cX11_now 94 = .ok (.ireturn, 1) := by decide +kernel
theorem dX11_now_95 : decode cX11_now 95 = .ok (.aload_n 0, 1) := by decide +kernel
theorem dX11_now_96 : decode cX11_now 96 = .ok (.getfield 7, 3) := by decide +kernel
theorem dX11_now_99 : decode cX11_now 99 = .ok (.iconst 2, 1) := by decide +kernel
theorem dX11_now_100 : decode cX11_now 100 = .ok (.iaload, 1) := by decide +kernel
theorem dX11_now_101 : decode cX11_now 101 = .ok (.ireturn, 1) := by decide +kernel
theorem dX11_now_102 : decode cX11_now 102 = .ok (.aload_n 0, 1) := by decide +kernel
theorem dX11_now_103 : decode cX11_now 103 = .ok (.getfield 7, 3) := by decide +kernel
theorem dX11_now_106 : decode cX11_now 106 = .ok (.iconst 3, 1) := by decide +kernel
theorem dX11_now_107 : decode cX11_now 107 = .ok (.iaload, 1) := by decide +kernel
theorem dX11_now_108 : decode cX11_now 108 = .ok (.ireturn, 1) := by decide +kernel
theorem dX11_now_109 : decode cX11_now 109 = .ok (.aload_n 0, 1) := by decide +kernel
theorem dX11_now_110 : decode cX11_now 110 = .ok (.ldc 38, 2) := by decide +kernel
theorem dX11_now_112 : decode cX11_now 112 = .ok (.invokevirtual 40, 3) := by decide +kernel
theorem dX11_now_115 : decode cX11_now 115 = .ok (.ireturn, 1) := by decide +kernel
theorem dX11_on_0 : decode cX11_on 0 = .ok (.aload_n 0, 1) := by decide +kernel
theorem dX11_on_1 : decode cX11_on 1 = .ok (.iload_n 1, 1) := by decide +kernel
theorem dX11_on_2 : decode cX11_on 2 = .ok (.invokevirtual 83, 3) := by decide +kernel
theorem dX11_on_5 : decode cX11_on 5 = .ok (.ifCond .eq 27, 3) := by decide +kernel
theorem dX11_on_8 : decode cX11_on 8 = .ok (.iload_n 2, 1) := by decide +kernel
theorem dX11_on_9 : decode cX11_on 9 = .ok (.i2l, 1) := by decide +kernel
theorem dX11_on_10 : decode cX11_on 10 = .ok (.lconst 0, 1) := by decide +kernel
theorem dX11_on_11 : decode cX11_on 11 = .ok (.ldc2_w 147, 3) := by decide +kernel
theorem dX11_on_14 : decode cX11_on 14 = .ok (.invokestatic 46, 3) := by decide +kernel
theorem dX11_on_17 : decode cX11_on 17 = .ok (.ifCond .eq 15, 3) := by decide +kernel
theorem dX11_on_20 : decode cX11_on 20 = .ok (.iload_n 3, 1) := by decide +kernel
theorem dX11_on_21 : decode cX11_on 21 = .ok (.i2l, 1) := by decide +kernel
theorem dX11_on_22 : decode cX11_on 22 = .ok (.lconst 0, 1) := by decide +kernel
theorem dX11_on_23 : decode cX11_on 23 = .ok (.ldc2_w 149, 3) := by decide +kernel
theorem dX11_on_26 : decode cX11_on 26 = .ok (.invokestatic 46, 3) := by decide +kernel
theorem dX11_on_29 : decode cX11_on 29 = .ok (.ifCond .ne 10, 3) := by decide +kernel
theorem dX11_on_32 : decode cX11_on 32 = .ok (.aload_n 0, 1) := by decide +kernel
theorem dX11_on_33 : decode cX11_on 33 = .ok (.ldc 38, 2) := by decide +kernel
theorem dX11_on_35 : decode cX11_on 35 = .ok (.invokevirtual 40, 3) := by decide +kernel
theorem dX11_on_38 : decode cX11_on 38 = .ok (.ireturn, 1) := by decide +kernel
theorem dX11_on_39 : decode cX11_on 39 = .ok (.aload_n 0, 1) := by decide +kernel
theorem dX11_on_40 : decode cX11_on 40 = .ok (.getfield 7, 3) := by decide +kernel
theorem dX11_on_43 : decode cX11_on 43 = .ok (.aload_n 0, 1) := by decide +kernel
theorem dX11_on_44 : decode cX11_on 44 = .ok (.getfield 19, 3) := by decide +kernel
theorem dX11_on_47 : decode cX11_on 47 = .ok (.invokestatic 151, 3) := by decide +kernel
theorem dX11_on_50 : decode cX11_on 50 = .ok (.aload_n 0, 1) := by decide +kernel
theorem dX11_on_51 : decode cX11_on 51 = .ok (.iload_n 2, 1) := by decide +kernel
theorem dX11_on_52 : decode cX11_on 52 = .ok (.invokevirtual 137, 3) := by decide +kernel
theorem dX11_on_55 : decode cX11_on 55 = .ok (.aload_n 0, 1) := by decide +kernel
theorem dX11_on_56 : decode cX11_on 56 = .ok (.iload_n 1, 1) := by decide +kernel
theorem dX11_on_57 : decode cX11_on 57 = .ok (.iconst 1, 1) := by decide +kernel
theorem dX11_on_58 : decode cX11_on 58 = .ok (.iload_n 3, 1) := by decide +kernel
theorem dX11_on_59 : decode cX11_on 59 = .ok (.iadd, 1) := by decide +kernel
theorem dX11_on_60 : decode cX11_on 60 = .ok (.invokevirtual 58, 3) := by decide +kernel
theorem dX11_on_63 : decode cX11_on 63 = .ok (.istore 4, 2) := by decide +kernel
theorem dX11_on_65 : decode cX11_on 65 = .ok (.aload_n 0, 1) := by decide +kernel
theorem dX11_on_66 : decode cX11_on 66 = .ok (.getfield 19, 3) := by decide +kernel
theorem dX11_on_69 : decode cX11_on 69 = .ok (.aload_n 0, 1) := by decide +kernel
theorem dX11_on_70 : decode cX11_on 70 = .ok (.getfield 7, 3) := by decide +kernel
theorem dX11_on_73 : decode cX11_on 73 = .ok (.invokestatic 151, 3) := by decide +kernel
theorem dX11_on_76 : decode cX11_on 76 = .ok (.iload 4, 2) := by decide +kernel
theorem dX11_on_78 : decode cX11_on 78 = .ok (.ireturn, 1) := by decide +kernel
theorem dX11_knows_0 : decode cX11_knows 0 = .ok (.aload_n 0, 1) := by decide +kernel
theorem dX11_knows_1 : decode cX11_knows 1 = .ok (.iload_n 1, 1) := by decide +kernel
theorem dX11_knows_2 : decode cX11_knows 2 = .ok (.invokevirtual 83, 3) := by decide +kernel
theorem dX11_knows_5 : decode cX11_knows 5 = .ok (.ifCond .eq 10, 3) := by decide +kernel
theorem dX11_knows_8 : decode cX11_knows 8 = .ok (.iload_n 2, 1) := by decide +kernel
theorem dX11_knows_9 : decode cX11_knows 9 = .ok (.invokestatic 54, 3) := by decide +kernel
theorem dX11_knows_12 : decode cX11_knows 12 = .ok (.ifCond .ne 10, 3) := by decide +kernel
theorem dX11_knows_15 : decode cX11_knows 15 = .ok (.aload_n 0, 1) := by decide +kernel
theorem dX11_knows_16 : decode cX11_knows 16 = .ok (.ldc 38, 2) := by decide +kernel
theorem dX11_knows_18 : decode cX11_knows 18 = .ok (.invokevirtual 40, 3) := by decide +kernel
theorem dX11_knows_21 : decode cX11_knows 21 = .ok (.ireturn, 1) := by decide +kernel
theorem dX11_knows_22 : decode cX11_knows 22 = .ok (.aload_n 0, 1) := by decide +kernel
theorem dX11_knows_23 : decode cX11_knows 23 = .ok (.getfield 7, 3) := by decide +kernel
theorem dX11_knows_26 : decode cX11_knows 26 = .ok (.aload_n 0, 1) := by decide +kernel
theorem dX11_knows_27 : decode cX11_knows 27 = .ok (.getfield 19, 3) := by decide +kernel
theorem dX11_knows_30 : decode cX11_knows 30 = .ok (.invokestatic 151, 3) := by decide +kernel
theorem dX11_knows_33 : decode cX11_knows 33 = .ok (.iconst 0, 1) := by decide +kernel
theorem dX11_knows_34 : decode cX11_knows 34 = .ok (.istore_n 3, 1) := by decide +kernel
theorem dX11_knows_35 : decode cX11_knows 35 = .ok (.iload_n 3, 1) := by decide +kernel
theorem dX11_knows_36 : decode cX11_knows 36 = .ok (.sipush 200, 3) := by decide +kernel
theorem dX11_knows_39 : decode cX11_knows 39 = .ok (.if_icmp .gt 26, 3) := by decide +kernel
theorem dX11_knows_42 : decode cX11_knows 42 = .ok (.aload_n 0, 1) := by decide +kernel
theorem dX11_knows_43 : decode cX11_knows 43 = .ok (.iload_n 1, 1) := by decide +kernel
theorem dX11_knows_44 : decode cX11_knows 44 = .ok (.iconst 1, 1) := by decide +kernel
theorem dX11_knows_45 : decode cX11_knows 45 = .ok (.invokevirtual 58, 3) := by decide +kernel
theorem dX11_knows_48 : decode cX11_knows 48 = .ok (.iload_n 2, 1) := by decide +kernel
theorem dX11_knows_49 : decode cX11_knows 49 = .ok (.ishr, 1) := by decide +kernel
theorem dX11_knows_50 : decode cX11_knows 50 = .ok (.iconst 1, 1) := by decide +kernel
theorem dX11_knows_51 : decode cX11_knows 51 = .ok (.iand, 1) := by decide +kernel
theorem dX11_knows_52 : decode cX11_knows 52 = .ok (.ifCond .ne 13, 3) := by decide +kernel
theorem dX11_knows_55 : decode cX11_knows 55 = .ok (.aload_n 0, 1) := by decide +kernel
theorem dX11_knows_56 : decode cX11_knows 56 = .ok (.invokevirtual 131, 3) := by decide +kernel
theorem dX11_knows_59 : decode cX11_knows 59 = .ok (.iinc 3 1, 3) := by decide +kernel
theorem dX11_knows_62 : decode cX11_knows 62 = .ok (.goto (-27), 3) := by decide +kernel
theorem dX11_knows_65 : decode cX11_knows 65 = .ok (.aload_n 0, 1) := by decide +kernel
theorem dX11_knows_66 : decode cX11_knows 66 = .ok (.getfield 19, 3) := by decide +kernel
theorem dX11_knows_69 : decode cX11_knows 69 = .ok (.aload_n 0, 1) := by decide +kernel
theorem dX11_knows_70 : decode cX11_knows 70 = .ok (.getfield 7, 3) := by decide +kernel
theorem dX11_knows_73 : decode cX11_knows 73 = .ok (.invokestatic 151, 3) := by decide +kernel
theorem dX11_knows_76 : decode cX11_knows 76 = .ok (.iload_n 3, 1) := by decide +kernel
theorem dX11_knows_77 : decode cX11_knows 77 = .ok (.sipush 200, 3) := by decide +kernel
theorem dX11_knows_80 : decode cX11_knows 80 = .ok (.if_icmp .gt 7, 3) := by decide +kernel
theorem dX11_knows_83 : decode cX11_knows 83 = .ok (.iload_n 3, 1) := by decide +kernel
theorem dX11_knows_84 : decode cX11_knows 84 = .ok (.goto 9, 3) := by decide +kernel
theorem dX11_knows_87 : decode cX11_knows 87 = .ok (.aload_n 0, 1) := by decide +kernel
theorem dX11_knows_88 : decode cX11_knows 88 = .ok (.ldc 39, 2) := by decide +kernel
theorem dX11_knows_90 : decode cX11_knows 90 = .ok (.invokevirtual 40, 3) := by decide +kernel
theorem dX11_knows_93 : decode cX11_knows 93 = .ok (.ireturn, 1) := by decide +kernel
theorem dX11_out_0 : decode cX11_out 0 = .ok (.iload_n 1, 1) := by decide +kernel
theorem dX11_out_1 : decode cX11_out 1 = .ok (.invokestatic 54, 3) := by decide +kernel
theorem dX11_out_4 : decode cX11_out 4 = .ok (.ifCond .ne 10, 3) := by decide +kernel
theorem dX11_out_7 : decode cX11_out 7 = .ok (.aload_n 0, 1) := by decide +kernel
theorem dX11_out_8 : decode cX11_out 8 = .ok (.ldc 38, 2) := by decide +kernel
theorem dX11_out_10 : decode cX11_out 10 = .ok (.invokevirtual 40, 3) := by decide +kernel
theorem dX11_out_13 : decode cX11_out 13 = .ok (.ireturn, 1) := by decide +kernel
theorem dX11_out_14 : decode cX11_out 14 = .ok (.aload_n 0, 1) := by decide +kernel
theorem dX11_out_15 : decode cX11_out 15 = .ok (.getfield 7, 3) := by decide +kernel
theorem dX11_out_18 : decode cX11_out 18 = .ok (.aload_n 0, 1) := by decide +kernel
theorem dX11_out_19 : decode cX11_out 19 = .ok (.getfield 19, 3) := by decide +kernel
theorem dX11_out_22 : decode cX11_out 22 = .ok (.invokestatic 151, 3) := by decide +kernel
theorem dX11_out_25 : decode cX11_out 25 = .ok (.iconst 0, 1) := by decide +kernel
theorem dX11_out_26 : decode cX11_out 26 = .ok (.istore_n 2, 1) := by decide +kernel
theorem dX11_out_27 : decode cX11_out 27 = .ok (.iload_n 2, 1) := by decide +kernel
theorem dX11_out_28 : decode cX11_out 28 = .ok (.sipush 200, 3) := by decide +kernel
theorem dX11_out_31 : decode cX11_out 31 = .ok (.if_icmp .gt 24, 3) := by decide +kernel
theorem dX11_out_34 : decode cX11_out 34 = .ok (.aload_n 0, 1) := by decide +kernel
theorem dX11_out_35 : decode cX11_out 35 = .ok (.invokevirtual 144, 3) := by decide +kernel
theorem dX11_out_38 : decode cX11_out 38 = .ok (.iload_n 1, 1) := by decide +kernel
theorem dX11_out_39 : decode cX11_out 39 = .ok (.ishr, 1) := by decide +kernel
theorem dX11_out_40 : decode cX11_out 40 = .ok (.iconst 1, 1) := by decide +kernel
theorem dX11_out_41 : decode cX11_out 41 = .ok (.iand, 1) := by decide +kernel
theorem dX11_out_42 : decode cX11_out 42 = .ok (.ifCond .ne 13, 3) := by decide +kernel
theorem dX11_out_45 : decode cX11_out 45 = .ok (.aload_n 0, 1) := by decide +kernel
theorem dX11_out_46 : decode cX11_out 46 = .ok (.invokevirtual 131, 3) := by decide +kernel
theorem dX11_out_49 : decode cX11_out 49 = .ok (.iinc 2 1, 3) := by decide +kernel
theorem dX11_out_52 : decode cX11_out 52 = .ok (.goto (-25), 3) := by decide +kernel
theorem dX11_out_55 : decode cX11_out 55 = .ok (.aload_n 0, 1) := by decide +kernel
theorem dX11_out_56 : decode cX11_out 56 = .ok (.getfield 19, 3) := by decide +kernel
theorem dX11_out_59 : decode cX11_out 59 = .ok (.aload_n 0, 1) := by decide +kernel
theorem dX11_out_60 : decode cX11_out 60 = .ok (.getfield 7, 3) := by decide +kernel
theorem dX11_out_63 : decode cX11_out 63 = .ok (.invokestatic 151, 3) := by decide +kernel
theorem dX11_out_66 : decode cX11_out 66 = .ok (.iload_n 2, 1) := by decide +kernel
theorem dX11_out_67 : decode cX11_out 67 = .ok (.sipush 200, 3) := by decide +kernel
theorem dX11_out_70 : decode cX11_out 70 = .ok (.if_icmp .gt 7, 3) := by decide +kernel
theorem dX11_out_73 : decode cX11_out 73 = .ok (.iload_n 2, 1) := by decide +kernel
theorem dX11_out_74 : decode cX11_out 74 = .ok (.goto 9, 3) := by decide +kernel
theorem dX11_out_77 : decode cX11_out 77 = .ok (.aload_n 0, 1) := by decide +kernel
theorem dX11_out_78 : decode cX11_out 78 = .ok (.ldc 39, 2) := by decide +kernel
theorem dX11_out_80 : decode cX11_out 80 = .ok (.invokevirtual 40, 3) := by decide +kernel
theorem dX11_out_83 : decode cX11_out 83 = .ok (.ireturn, 1) := by decide +kernel
theorem dX11_meet_0 : decode cX11_meet 0 = .ok (.aload_n 0, 1) := by decide +kernel
theorem dX11_meet_1 : decode cX11_meet 1 = .ok (.iload_n 1, 1) := by decide +kernel
theorem dX11_meet_2 : decode cX11_meet 2 = .ok (.invokevirtual 83, 3) := by decide +kernel
theorem dX11_meet_5 : decode cX11_meet 5 = .ok (.ifCond .eq 16, 3) := by decide +kernel
theorem dX11_meet_8 : decode cX11_meet 8 = .ok (.aload_n 0, 1) := by decide +kernel
theorem dX11_meet_9 : decode cX11_meet 9 = .ok (.iload_n 2, 1) := by decide +kernel
theorem dX11_meet_10 : decode cX11_meet 10 = .ok (.invokevirtual 83, 3) := by decide +kernel
theorem dX11_meet_13 : decode cX11_meet 13 = .ok (.ifCond .eq 8, 3) := by decide +kernel
theorem dX11_meet_16 : decode cX11_meet 16 = .ok (.iload_n 1, 1) := by decide +kernel
theorem dX11_meet_17 : decode cX11_meet 17 = .ok (.iload_n 2, 1) := by decide +kernel
theorem dX11_meet_18 : decode cX11_meet 18 = .ok (.if_icmp .ne 10, 3) := by decide +kernel
theorem dX11_meet_21 : decode cX11_meet 21 = .ok (.aload_n 0, 1) := by decide +kernel
theorem dX11_meet_22 : decode cX11_meet 22 = .ok (.ldc 38, 2) := by decide +kernel
theorem dX11_meet_24 : decode cX11_meet 24 = .ok (.invokevirtual 40, 3) := by decide +kernel
theorem dX11_meet_27 : decode cX11_meet 27 = .ok (.ireturn, 1) := by decide +kernel
theorem dX11_meet_28 : decode cX11_meet 28 = .ok (.aload_n 0, 1) := by decide +kernel
theorem dX11_meet_29 : decode cX11_meet 29 = .ok (.getfield 7, 3) := by decide +kernel
theorem dX11_meet_32 : decode cX11_meet 32 = .ok (.aload_n 0, 1) := by decide +kernel
theorem dX11_meet_33 : decode cX11_meet 33 = .ok (.getfield 19, 3) := by decide +kernel
theorem dX11_meet_36 : decode cX11_meet 36 = .ok (.invokestatic 151, 3) := by decide +kernel
theorem dX11_meet_39 : decode cX11_meet 39 = .ok (.iconst 0, 1) := by decide +kernel
theorem dX11_meet_40 : decode cX11_meet 40 = .ok (.istore_n 3, 1) := by decide +kernel
theorem dX11_meet_41 : decode cX11_meet 41 = .ok (.iload_n 3, 1) := by decide +kernel
theorem dX11_meet_42 : decode cX11_meet 42 = .ok (.sipush 200, 3) := by decide +kernel
theorem dX11_meet_45 : decode cX11_meet 45 = .ok (.if_icmp .gt 31, 3) := by decide +kernel
theorem dX11_meet_48 : decode cX11_meet 48 = .ok (.aload_n 0, 1) := by decide +kernel
theorem dX11_meet_49 : decode cX11_meet 49 = .ok (.iload_n 1, 1) := by decide +kernel
theorem dX11_meet_50 : decode cX11_meet 50 = .ok (.iconst 3, 1) := by decide +kernel
theorem dX11_meet_51 : decode cX11_meet 51 = .ok (.invokevirtual 58, 3) := by decide +kernel
theorem dX11_meet_54 : decode cX11_meet 54 = .ok (.ifCond .lt 12, 3) := by decide +kernel
theorem dX11_meet_57 : decode cX11_meet 57 = .ok (.aload_n 0, 1) := by decide +kernel
theorem dX11_meet_58 : decode cX11_meet 58 = .ok (.iload_n 2, 1) := by decide +kernel
theorem dX11_meet_59 : decode cX11_meet 59 = .ok (.iconst 3, 1) := by decide +kernel
theorem dX11_meet_60 : decode cX11_meet 60 = .ok (.invokevirtual 58, 3) := by decide +kernel
theorem dX11_meet_63 : decode cX11_meet 63 = .ok (.ifCond .ge 13, 3) := by decide +kernel
theorem dX11_meet_66 : decode cX11_meet 66 = .ok (.aload_n 0, 1) := by decide +kernel
theorem dX11_meet_67 : decode cX11_meet 67 = .ok (.invokevirtual 131, 3) := by decide +kernel
theorem dX11_meet_70 : decode cX11_meet 70 = .ok (.iinc 3 1, 3) := by decide +kernel
theorem dX11_meet_73 : decode cX11_meet 73 = .ok (.goto (-32), 3) := by decide +kernel
theorem dX11_meet_76 : decode cX11_meet 76 = .ok (.aload_n 0, 1) := by decide +kernel
theorem dX11_meet_77 : decode cX11_meet 77 = .ok (.getfield 19, 3) := by decide +kernel
theorem dX11_meet_80 : decode cX11_meet 80 = .ok (.aload_n 0, 1) := by decide +kernel
theorem dX11_meet_81 : decode cX11_meet 81 = .ok (.getfield 7, 3) := by decide +kernel
theorem dX11_meet_84 : decode cX11_meet 84 = .ok (.invokestatic 151, 3) := by decide +kernel
theorem dX11_meet_87 : decode cX11_meet 87 = .ok (.iload_n 3, 1) := by decide +kernel
theorem dX11_meet_88 : decode cX11_meet 88 = .ok (.sipush 200, 3) := by decide +kernel
theorem dX11_meet_91 : decode cX11_meet 91 = .ok (.if_icmp .gt 7, 3) := by decide +kernel
theorem dX11_meet_94 : decode cX11_meet 94 = .ok (.iload_n 3, 1) := by decide +kernel
theorem dX11_meet_95 : decode cX11_meet 95 = .ok (.goto 9, 3) := by decide +kernel
theorem dX11_meet_98 : decode cX11_meet 98 = .ok (.aload_n 0, 1) := by decide +kernel
theorem dX11_meet_99 : decode cX11_meet 99 = .ok (.ldc 39, 2) := by decide +kernel
theorem dX11_meet_101 : decode cX11_meet 101 = .ok (.invokevirtual 40, 3) := by decide +kernel
theorem dX11_meet_104 : decode cX11_meet 104 = .ok (.ireturn, 1) := by decide +kernel
theorem dX11_kind_0 : decode cX11_kind 0 = .ok (.aload_n 0, 1) := by decide +kernel
theorem dX11_kind_1 : decode cX11_kind 1 = .ok (.iload_n 1, 1) := by decide +kernel
theorem dX11_kind_2 : decode cX11_kind 2 = .ok (.invokevirtual 83, 3) := by decide +kernel
theorem dX11_kind_5 : decode cX11_kind 5 = .ok (.ifCond .eq 15, 3) := by decide +kernel
theorem dX11_kind_8 : decode cX11_kind 8 = .ok (.iload_n 2, 1) := by decide +kernel
theorem dX11_kind_9 : decode cX11_kind 9 = .ok (.i2l, 1) := by decide +kernel
theorem dX11_kind_10 : decode cX11_kind 10 = .ok (.lconst 1, 1) := by decide +kernel
theorem dX11_kind_11 : decode cX11_kind 11 = .ok (.ldc2_w 134, 3) := by decide +kernel
theorem dX11_kind_14 : decode cX11_kind 14 = .ok (.invokestatic 46, 3) := by decide +kernel
theorem dX11_kind_17 : decode cX11_kind 17 = .ok (.ifCond .ne 10, 3) := by decide +kernel
theorem dX11_kind_20 : decode cX11_kind 20 = .ok (.aload_n 0, 1) := by decide +kernel
theorem dX11_kind_21 : decode cX11_kind 21 = .ok (.ldc 38, 2) := by decide +kernel
theorem dX11_kind_23 : decode cX11_kind 23 = .ok (.invokevirtual 40, 3) := by decide +kernel
theorem dX11_kind_26 : decode cX11_kind 26 = .ok (.ireturn, 1) := by decide +kernel
theorem dX11_kind_27 : decode cX11_kind 27 = .ok (.aload_n 0, 1) := by decide +kernel
theorem dX11_kind_28 : decode cX11_kind 28 = .ok (.getfield 7, 3) := by decide +kernel
theorem dX11_kind_31 : decode cX11_kind 31 = .ok (.aload_n 0, 1) := by decide +kernel
theorem dX11_kind_32 : decode cX11_kind 32 = .ok (.getfield 19, 3) := by decide +kernel
theorem dX11_kind_35 : decode cX11_kind 35 = .ok (.invokestatic 151, 3) := by decide +kernel
theorem dX11_kind_38 : decode cX11_kind 38 = .ok (.iconst 0, 1) := by decide +kernel
theorem dX11_kind_39 : decode cX11_kind 39 = .ok (.istore_n 3, 1) := by decide +kernel
theorem dX11_kind_40 : decode cX11_kind 40 = .ok (.iconst (-1), 1) := by decide +kernel
theorem dX11_kind_41 : decode cX11_kind 41 = .ok (.istore 4, 2) := by decide +kernel
theorem dX11_kind_43 : decode cX11_kind 43 = .ok (.iconst 0, 1) := by decide +kernel
theorem dX11_kind_44 : decode cX11_kind 44 = .ok (.istore 5, 2) := by decide +kernel
theorem dX11_kind_46 : decode cX11_kind 46 = .ok (.iload 5, 2) := by decide +kernel
theorem dX11_kind_48 : decode cX11_kind 48 = .ok (.iconst 5, 1) := by decide +kernel
theorem dX11_kind_49 : decode cX11_kind 49 = .ok (.if_icmp .gt 78, 3) := by decide +kernel
theorem dX11_kind_52 : decode cX11_kind 52 = .ok (.aload_n 0, 1) := by decide +kernel
theorem dX11_kind_53 : decode cX11_kind 53 = .ok (.getfield 7, 3) := by decide +kernel
theorem dX11_kind_56 : decode cX11_kind 56 = .ok (.iload_n 1, 1) := by decide +kernel
theorem dX11_kind_57 : decode cX11_kind 57 = .ok (.iconst 0, 1) := by decide +kernel
theorem dX11_kind_58 : decode cX11_kind 58 = .ok (.invokestatic 61, 3) := by decide +kernel
theorem dX11_kind_61 : decode cX11_kind 61 = .ok (.iload 5, 2) := by decide +kernel
theorem dX11_kind_63 : decode cX11_kind 63 = .ok (.iastore, 1) := by decide +kernel
theorem dX11_kind_64 : decode cX11_kind 64 = .ok (.aload_n 0, 1) := by decide +kernel
theorem dX11_kind_65 : decode cX11_kind 65 = .ok (.iload_n 2, 1) := by decide +kernel
theorem dX11_kind_66 : decode cX11_kind 66 = .ok (.invokevirtual 137, 3) := by decide +kernel
theorem dX11_kind_69 : decode cX11_kind 69 = .ok (.aload_n 0, 1) := by decide +kernel
theorem dX11_kind_70 : decode cX11_kind 70 = .ok (.iload_n 1, 1) := by decide +kernel
theorem dX11_kind_71 : decode cX11_kind 71 = .ok (.iconst 1, 1) := by decide +kernel
theorem dX11_kind_72 : decode cX11_kind 72 = .ok (.invokevirtual 58, 3) := by decide +kernel
theorem dX11_kind_75 : decode cX11_kind 75 = .ok (.invokestatic 80, 3) := by decide +kernel
theorem dX11_kind_78 : decode cX11_kind 78 = .ok (.istore 6, 2) := by decide +kernel
theorem dX11_kind_80 : decode cX11_kind 80 = .ok (.aload_n 0, 1) := by decide +kernel
theorem dX11_kind_81 : decode cX11_kind 81 = .ok (.getfield 19, 3) := by decide +kernel
theorem dX11_kind_84 : decode cX11_kind 84 = .ok (.aload_n 0, 1) := by decide +kernel
theorem dX11_kind_85 : decode cX11_kind 85 = .ok (.getfield 7, 3) := by decide +kernel
theorem dX11_kind_88 : decode cX11_kind 88 = .ok (.invokestatic 151, 3) := by decide +kernel
theorem dX11_kind_91 : decode cX11_kind 91 = .ok (.iload 6, 2) := by decide +kernel
theorem dX11_kind_93 : decode cX11_kind 93 = .ok (.iload 4, 2) := by decide +kernel
theorem dX11_kind_95 : decode cX11_kind 95 = .ok (.if_icmp .le 8, 3) := by decide +kernel
theorem dX11_kind_98 : decode cX11_kind 98 = .ok (.iload 5, 2) := by decide +kernel
theorem dX11_kind_100 : decode cX11_kind 100 = .ok (.goto 4, 3) := by decide +kernel
theorem dX11_kind_103 : decode cX11_kind 103 = .ok (.iload_n 3, 1) := by decide +kernel
theorem dX11_kind_104 : decode cX11_kind 104 = .ok (.istore_n 3, 1) := by decide +kernel
theorem dX11_kind_105 : decode cX11_kind 105 = .ok (.iload 6, 2) := by decide +kernel
theorem dX11_kind_107 : decode cX11_kind 107 = .ok (.iload 4, 2) := by decide +kernel
theorem dX11_kind_109 : decode cX11_kind 109 = .ok (.if_icmp .le 8, 3) := by decide +kernel
theorem dX11_kind_112 : decode cX11_kind 112 = .ok (.iload 6, 2) := by decide +kernel
theorem dX11_kind_114 : decode cX11_kind 114 = .ok (.goto 5, 3) := by decide +kernel
theorem dX11_kind_117 : decode cX11_kind 117 = .ok (.iload 4, 2) := by decide +kernel
theorem dX11_kind_119 : decode cX11_kind 119 = .ok (.istore 4, 2) := by decide +kernel
theorem dX11_kind_121 : decode cX11_kind 121 = .ok (.iinc 5 1, 3) := by decide +kernel
theorem dX11_kind_124 : decode cX11_kind 124 = .ok (.goto (-78), 3) := by decide +kernel
theorem dX11_kind_127 : decode cX11_kind 127 = .ok (.iload_n 3, 1) := by decide +kernel
theorem dX11_kind_128 : decode cX11_kind 128 = .ok (.ireturn, 1) := by decide +kernel
theorem dX11_isAsked_0 : decode cX11_isAsked 0 = .ok (.aload_n 0, 1) := by decide +kernel
theorem dX11_isAsked_1 : decode cX11_isAsked 1 = .ok (.iload_n 1, 1) := by decide +kernel
theorem dX11_isAsked_2 : decode cX11_isAsked 2 = .ok (.invokevirtual 83, 3) := by decide +kernel
theorem dX11_isAsked_5 : decode cX11_isAsked 5 = .ok (.ifCond .eq 19, 3) := by decide +kernel
theorem dX11_isAsked_8 : decode cX11_isAsked 8 = .ok (.iload_n 2, 1) := by decide +kernel
theorem dX11_isAsked_9 : decode cX11_isAsked 9 = .ok (.i2l, 1) := by decide +kernel
theorem dX11_isAsked_10 : decode cX11_isAsked 10 = .ok (.lconst 1, 1) := by decide +kernel
theorem dX11_isAsked_11 : decode cX11_isAsked 11 = .ok (.ldc2_w 155, 3) := by decide +kernel
theorem dX11_isAsked_14 : decode cX11_isAsked 14 = .ok (.invokestatic 46, 3) := by decide +kernel
theorem dX11_isAsked_17 : decode cX11_isAsked 17 = .ok (.ifCond .eq 7, 3) := by decide +kernel
theorem dX11_isAsked_20 : decode cX11_isAsked 20 = .ok (.iconst 1, 1) := by decide +kernel
theorem dX11_isAsked_21 : decode cX11_isAsked 21 = .ok (.goto 4, 3) := by decide +kernel
theorem dX11_isAsked_24 : decode cX11_isAsked 24 = .ok (.iconst 0, 1) := by decide +kernel
theorem dX11_isAsked_25 : decode cX11_isAsked 25 = .ok (.ireturn, 1) := by decide +kernel
theorem dX11_forget_0 : decode cX11_forget 0 = .ok (.aload_n 0, 1) := by decide +kernel
theorem dX11_forget_1 : decode cX11_forget 1 = .ok (.iload_n 1, 1) := by decide +kernel
theorem dX11_forget_2 : decode cX11_forget 2 = .ok (.iload_n 2, 1) := by decide +kernel
theorem dX11_forget_3 : decode cX11_forget 3 = .ok (.invokevirtual 157, 3) := by decide +kernel
theorem dX11_forget_6 : decode cX11_forget 6 = .ok (.ifCond .ne 10, 3) := by decide +kernel
theorem dX11_forget_9 : decode cX11_forget 9 = .ok (.aload_n 0, 1) := by decide +kernel
theorem dX11_forget_10 : decode cX11_forget 10 = .ok (.ldc 38, 2) := by decide +kernel
theorem dX11_forget_12 : decode cX11_forget 12 = .ok (.invokevirtual 40, 3) := by decide +kernel
theorem dX11_forget_15 : decode cX11_forget 15 = .ok (.ireturn, 1) := by decide +kernel
theorem dX11_forget_16 : decode cX11_forget 16 = .ok (.aload_n 0, 1) := by decide +kernel
theorem dX11_forget_17 : decode cX11_forget 17 = .ok (.getfield 7, 3) := by decide +kernel
theorem dX11_forget_20 : decode cX11_forget 20 = .ok (.aload_n 0, 1) := by decide +kernel
theorem dX11_forget_21 : decode cX11_forget 21 = .ok (.getfield 19, 3) := by decide +kernel
theorem dX11_forget_24 : decode cX11_forget 24 = .ok (.invokestatic 151, 3) := by decide +kernel
theorem dX11_forget_27 : decode cX11_forget 27 = .ok (.iconst (-1), 1) := by decide +kernel
theorem dX11_forget_28 : decode cX11_forget 28 = .ok (.istore_n 3, 1) := by decide +kernel
theorem dX11_forget_29 : decode cX11_forget 29 = .ok (.iconst (-1), 1) := by decide +kernel
theorem dX11_forget_30 : decode cX11_forget 30 = .ok (.istore 4, 2) := by decide +kernel
theorem dX11_forget_32 : decode cX11_forget 32 = .ok (.iconst 0, 1) := by decide +kernel
theorem dX11_forget_33 : decode cX11_forget 33 = .ok (.istore 5, 2) := by decide +kernel
theorem dX11_forget_35 : decode cX11_forget 35 = .ok (.iload 5, 2) := by decide +kernel
theorem dX11_forget_37 : decode cX11_forget 37 = .ok (.bipush 10, 2) := by decide +kernel
theorem dX11_forget_39 : decode cX11_forget 39 = .ok (.if_icmp .ge 96, 3) := by decide +kernel
theorem dX11_forget_42 : decode cX11_forget 42 = .ok (.aload_n 0, 1) := by decide +kernel
theorem dX11_forget_43 : decode cX11_forget 43 = .ok (.iload_n 1, 1) := by decide +kernel
theorem dX11_forget_44 : decode cX11_forget 44 = .ok (.iconst 1, 1) := by decide +kernel
theorem dX11_forget_45 : decode cX11_forget 45 = .ok (.invokevirtual 58, 3) := by decide +kernel
theorem dX11_forget_48 : decode cX11_forget 48 = .ok (.iload 5, 2) := by decide +kernel
theorem dX11_forget_50 : decode cX11_forget 50 = .ok (.ishr, 1) := by decide +kernel
theorem dX11_forget_51 : decode cX11_forget 51 = .ok (.iconst 1, 1) := by decide +kernel
theorem dX11_forget_52 : decode cX11_forget 52 = .ok (.iand, 1) := by decide +kernel
theorem dX11_forget_53 : decode cX11_forget 53 = .ok (.iconst 1, 1) := by decide +kernel
theorem dX11_forget_54 : decode cX11_forget 54 = .ok (.if_icmp .ne 75, 3) := by decide +kernel
theorem dX11_forget_57 : decode cX11_forget 57 = .ok (.aload_n 0, 1) := by decide +kernel
theorem dX11_forget_58 : decode cX11_forget 58 = .ok (.iload_n 1, 1) := by decide +kernel
theorem dX11_forget_59 : decode cX11_forget 59 = .ok (.aload_n 0, 1) := by decide +kernel
theorem dX11_forget_60 : decode cX11_forget 60 = .ok (.iload_n 1, 1) := by decide +kernel
theorem dX11_forget_61 : decode cX11_forget 61 = .ok (.iconst 1, 1) := by decide +kernel
theorem dX11_forget_62 : decode cX11_forget 62 = .ok (.invokevirtual 58, 3) := by decide +kernel
theorem dX11_forget_65 : decode cX11_forget 65 = .ok (.iconst 1, 1) := by decide +kernel
theorem dX11_forget_66 : decode cX11_forget 66 = .ok (.iload 5, 2) := by decide +kernel
theorem dX11_forget_68 : decode cX11_forget 68 = .ok (.ishl, 1) := by decide +kernel
theorem dX11_forget_69 : decode cX11_forget 69 = .ok (.iconst (-1), 1) := by decide +kernel
theorem dX11_forget_70 : decode cX11_forget 70 = .ok (.ixor, 1) := by decide +kernel
theorem dX11_forget_71 : decode cX11_forget 71 = .ok (.iand, 1) := by decide +kernel
theorem dX11_forget_72 : decode cX11_forget 72 = .ok (.invokevirtual 100, 3) := by decide +kernel
theorem dX11_forget_75 : decode cX11_forget 75 = .ok (.istore 6, 2) := by decide +kernel
theorem dX11_forget_77 : decode cX11_forget 77 = .ok (.aload_n 0, 1) := by decide +kernel
theorem dX11_forget_78 : decode cX11_forget 78 = .ok (.iload_n 2, 1) := by decide +kernel
theorem dX11_forget_79 : decode cX11_forget 79 = .ok (.invokevirtual 137, 3) := by decide +kernel
theorem dX11_forget_82 : decode cX11_forget 82 = .ok (.aload_n 0, 1) := by decide +kernel
theorem dX11_forget_83 : decode cX11_forget 83 = .ok (.invokevirtual 140, 3) := by decide +kernel
theorem dX11_forget_86 : decode cX11_forget 86 = .ok (.istore 7, 2) := by decide +kernel
theorem dX11_forget_88 : decode cX11_forget 88 = .ok (.aload_n 0, 1) := by decide +kernel
theorem dX11_forget_89 : decode cX11_forget 89 = .ok (.getfield 19, 3) := by decide +kernel
theorem dX11_forget_92 : decode cX11_forget 92 = .ok (.aload_n 0, 1) := by decide +kernel
theorem dX11_forget_93 : decode cX11_forget 93 = .ok (.getfield 7, 3) := by decide +kernel
theorem dX11_forget_96 : decode cX11_forget 96 = .ok (.invokestatic 151, 3) := by decide +kernel
theorem dX11_forget_99 : decode cX11_forget 99 = .ok (.iload 7, 2) := by decide +kernel
theorem dX11_forget_101 : decode cX11_forget 101 = .ok (.iload 4, 2) := by decide +kernel
theorem dX11_forget_103 : decode cX11_forget 103 = .ok (.if_icmp .le 8, 3) := by decide +kernel
theorem dX11_forget_106 : decode cX11_forget 106 = .ok (.iload 5, 2) := by decide +kernel
theorem dX11_forget_108 : decode cX11_forget 108 = .ok (.goto 4, 3) := by decide +kernel
theorem dX11_forget_111 : decode cX11_forget 111 = .ok (.iload_n 3, 1) := by decide +kernel
theorem dX11_forget_112 : decode cX11_forget 112 = .ok (.istore_n 3, 1) := by decide +kernel
theorem dX11_forget_113 : decode cX11_forget 113 = .ok (.iload 7, 2) := by decide +kernel
theorem dX11_forget_115 : decode cX11_forget 115 = .ok (.iload 4, 2) := by decide +kernel
theorem dX11_forget_117 : decode cX11_forget 117 = .ok (.if_icmp .le 8, 3) := by decide +kernel
theorem dX11_forget_120 : decode cX11_forget 120 = .ok (.iload 7, 2) := by decide +kernel
theorem dX11_forget_122 : decode cX11_forget 122 = .ok (.goto 5, 3) := by decide +kernel
theorem dX11_forget_125 : decode cX11_forget 125 = .ok (.iload 4, 2) := by decide +kernel
theorem dX11_forget_127 : decode cX11_forget 127 = .ok (.istore 4, 2) := by decide +kernel
theorem dX11_forget_129 : decode cX11_forget 129 = .ok (.iinc 5 1, 3) := by decide +kernel
theorem dX11_forget_132 : decode cX11_forget 132 = .ok (.goto (-97), 3) := by decide +kernel
theorem dX11_forget_135 : decode cX11_forget 135 = .ok (.aload_n 0, 1) := by decide +kernel
theorem dX11_forget_136 : decode cX11_forget 136 = .ok (.iload_n 3, 1) := by decide +kernel
theorem dX11_forget_137 : decode cX11_forget 137 = .ok (.invokevirtual 160, 3) := by decide +kernel
theorem dX11_forget_140 : decode cX11_forget 140 = .ok (.ireturn, 1) := by decide +kernel
theorem dX11_howManyKnow_0 : decode cX11_howManyKnow 0 = .ok (.iconst 0, 1) := by decide +kernel
theorem dX11_howManyKnow_1 : decode cX11_howManyKnow 1 = .ok (.istore_n 2, 1) := by decide +kernel
theorem dX11_howManyKnow_2 : decode cX11_howManyKnow 2 = .ok (.iconst 0, 1) := by decide +kernel
theorem dX11_howManyKnow_3 : decode cX11_howManyKnow 3 = .ok (.istore_n 3, 1) := by decide +kernel
theorem dX11_howManyKnow_4 : decode cX11_howManyKnow 4 = .ok (.iload_n 3, 1) := by decide +kernel
theorem dX11_howManyKnow_5 : decode cX11_howManyKnow 5 = .ok (.aload_n 0, 1) := by decide +kernel
theorem dX11_howManyKnow_6 : decode cX11_howManyKnow 6 = .ok (.getfield 7, 3) := by decide +kernel
theorem dX11_howManyKnow_9 : decode cX11_howManyKnow 9 = .ok (.iconst 0, 1) := by decide +kernel
theorem dX11_howManyKnow_10 : decode cX11_howManyKnow 10 = .ok (.iaload, 1) := by decide +kernel
theorem dX11_howManyKnow_11 : decode cX11_howManyKnow 11 = .ok (.if_icmp .ge 22, 3) := by decide +kernel
theorem dX11_howManyKnow_14 : decode cX11_howManyKnow 14 = .ok (.iload_n 2, 1) := by decide +kernel
theorem dX11_howManyKnow_15 : decode cX11_howManyKnow 15 = .ok (.aload_n 0, 1) := by decide +kernel
theorem dX11_howManyKnow_16 : decode cX11_howManyKnow 16 = .ok (.iload_n 3, 1) := by decide +kernel
theorem dX11_howManyKnow_17 : decode cX11_howManyKnow 17 = .ok (.iconst 1, 1) := by decide +kernel
theorem dX11_howManyKnow_18 : decode cX11_howManyKnow 18 = .ok (.invokevirtual 58, 3) := by decide +kernel
theorem dX11_howManyKnow_21 : decode cX11_howManyKnow 21 = .ok (.iload_n 1, 1) := by decide +kernel
theorem dX11_howManyKnow_22 : decode cX11_howManyKnow 22 = .ok (.ishr, 1) := by decide +kernel
theorem dX11_howManyKnow_23 : decode cX11_howManyKnow 23 = .ok (.iconst 1, 1) := by decide +kernel
theorem dX11_howManyKnow_24 : decode cX11_howManyKnow 24 = .ok (.iand, 1) := by decide +kernel
theorem dX11_howManyKnow_25 : decode cX11_howManyKnow 25 = .ok (.iadd, 1) := by decide +kernel
theorem dX11_howManyKnow_26 : decode cX11_howManyKnow 26 = .ok (.istore_n 2, 1) := by decide +kernel
theorem dX11_howManyKnow_27 : decode cX11_howManyKnow 27 = .ok (.iinc 3 1, 3) := by decide +kernel
theorem dX11_howManyKnow_30 : decode cX11_howManyKnow 30 = .ok (.goto (-26), 3) := by decide +kernel
theorem dX11_howManyKnow_33 : decode cX11_howManyKnow 33 = .ok (.iload_n 2, 1) := by decide +kernel
theorem dX11_howManyKnow_34 : decode cX11_howManyKnow 34 = .ok (.ireturn, 1) := by decide +kernel
theorem dX11_confide_0 : decode cX11_confide 0 = .ok (.aload_n 0, 1) := by decide +kernel
theorem dX11_confide_1 : decode cX11_confide 1 = .ok (.iload_n 1, 1) := by decide +kernel
theorem dX11_confide_2 : decode cX11_confide 2 = .ok (.iload_n 2, 1) := by decide +kernel
theorem dX11_confide_3 : decode cX11_confide 3 = .ok (.invokevirtual 157, 3) := by decide +kernel
theorem dX11_confide_6 : decode cX11_confide 6 = .ok (.ifCond .ne 10, 3) := by decide +kernel
theorem dX11_confide_9 : decode cX11_confide 9 = .ok (.aload_n 0, 1) := by decide +kernel
theorem dX11_confide_10 : decode cX11_confide 10 = .ok (.ldc 38, 2) := by decide +kernel
theorem dX11_confide_12 : decode cX11_confide 12 = .ok (.invokevirtual 40, 3) := by decide +kernel
theorem dX11_confide_15 : decode cX11_confide 15 = .ok (.ireturn, 1) := by decide +kernel
theorem dX11_confide_16 : decode cX11_confide 16 = .ok (.aload_n 0, 1) := by decide +kernel
theorem dX11_confide_17 : decode cX11_confide 17 = .ok (.getfield 7, 3) := by decide +kernel
theorem dX11_confide_20 : decode cX11_confide 20 = .ok (.aload_n 0, 1) := by decide +kernel
theorem dX11_confide_21 : decode cX11_confide 21 = .ok (.getfield 19, 3) := by decide +kernel
theorem dX11_confide_24 : decode cX11_confide 24 = .ok (.invokestatic 151, 3) := by decide +kernel
theorem dX11_confide_27 : decode cX11_confide 27 = .ok (.iconst (-1), 1) := by decide +kernel
theorem dX11_confide_28 : decode cX11_confide 28 = .ok (.istore_n 3, 1) := by decide +kernel
theorem dX11_confide_29 : decode cX11_confide 29 = .ok (.iconst (-1), 1) := by decide +kernel
theorem dX11_confide_30 : decode cX11_confide 30 = .ok (.istore 4, 2) := by decide +kernel
theorem dX11_confide_32 : decode cX11_confide 32 = .ok (.iconst 0, 1) := by decide +kernel
theorem dX11_confide_33 : decode cX11_confide 33 = .ok (.istore 5, 2) := by decide +kernel
theorem dX11_confide_35 : decode cX11_confide 35 = .ok (.iload 5, 2) := by decide +kernel
theorem dX11_confide_37 : decode cX11_confide 37 = .ok (.bipush 10, 2) := by decide +kernel
theorem dX11_confide_39 : decode cX11_confide 39 = .ok (.if_icmp .ge 111, 3) := by decide +kernel
theorem dX11_confide_42 : decode cX11_confide 42 = .ok (.aload_n 0, 1) := by decide +kernel
theorem dX11_confide_43 : decode cX11_confide 43 = .ok (.iload_n 1, 1) := by decide +kernel
theorem dX11_confide_44 : decode cX11_confide 44 = .ok (.iconst 1, 1) := by decide +kernel
theorem dX11_confide_45 : decode cX11_confide 45 = .ok (.invokevirtual 58, 3) := by decide +kernel
theorem dX11_confide_48 : decode cX11_confide 48 = .ok (.iload 5, 2) := by decide +kernel
theorem dX11_confide_50 : decode cX11_confide 50 = .ok (.ishr, 1) := by decide +kernel
theorem dX11_confide_51 : decode cX11_confide 51 = .ok (.iconst 1, 1) := by decide +kernel
theorem dX11_confide_52 : decode cX11_confide 52 = .ok (.iand, 1) := by decide +kernel
theorem dX11_confide_53 : decode cX11_confide 53 = .ok (.ifCond .ne 91, 3) := by decide +kernel
theorem dX11_confide_56 : decode cX11_confide 56 = .ok (.aload_n 0, 1) := by decide +kernel
theorem dX11_confide_57 : decode cX11_confide 57 = .ok (.getfield 7, 3) := by decide +kernel
theorem dX11_confide_60 : decode cX11_confide 60 = .ok (.iload_n 1, 1) := by decide +kernel
theorem dX11_confide_61 : decode cX11_confide 61 = .ok (.iconst 1, 1) := by decide +kernel
theorem dX11_confide_62 : decode cX11_confide 62 = .ok (.invokestatic 61, 3) := by decide +kernel
theorem dX11_confide_65 : decode cX11_confide 65 = .ok (.dup2, 1) := by decide +kernel
theorem dX11_confide_66 : decode cX11_confide 66 = .ok (.iaload, 1) := by decide +kernel
theorem dX11_confide_67 : decode cX11_confide 67 = .ok (.iconst 1, 1) := by decide +kernel
theorem dX11_confide_68 : decode cX11_confide 68 = .ok (.iload 5, 2) := by decide +kernel
theorem dX11_confide_70 : decode cX11_confide 70 = .ok (.ishl, 1) := by decide +kernel
theorem dX11_confide_71 : decode cX11_confide 71 = .ok (.ior, 1) := by decide +kernel
theorem dX11_confide_72 : decode cX11_confide 72 = .ok (.iastore, 1) := by decide +kernel
theorem dX11_confide_73 : decode cX11_confide 73 = .ok (.aload_n 0, 1) := by decide +kernel
theorem dX11_confide_74 : decode cX11_confide 74 = .ok (.getfield 7, 3) := by decide +kernel
theorem dX11_confide_77 : decode cX11_confide 77 = .ok (.iload_n 1, 1) := by decide +kernel
theorem dX11_confide_78 : decode cX11_confide 78 = .ok (.iconst 2, 1) := by decide +kernel
theorem dX11_confide_79 : decode cX11_confide 79 = .ok (.invokestatic 61, 3) := by decide +kernel
theorem dX11_confide_82 : decode cX11_confide 82 = .ok (.dup2, 1) := by decide +kernel
theorem dX11_confide_83 : decode cX11_confide 83 = .ok (.iaload, 1) := by decide +kernel
theorem dX11_confide_84 : decode cX11_confide 84 = .ok (.iconst 1, 1) := by decide +kernel
theorem dX11_confide_85 : decode cX11_confide 85 = .ok (.iload 5, 2) := by decide +kernel
theorem dX11_confide_87 : decode cX11_confide 87 = .ok (.ishl, 1) := by decide +kernel
theorem dX11_confide_88 : decode cX11_confide 88 = .ok (.ior, 1) := by decide +kernel
theorem dX11_confide_89 : decode cX11_confide 89 = .ok (.iastore, 1) := by decide +kernel
theorem dX11_confide_90 : decode cX11_confide 90 = .ok (.aload_n 0, 1) := by decide +kernel
theorem dX11_confide_91 : decode cX11_confide 91 = .ok (.iload_n 2, 1) := by decide +kernel
theorem dX11_confide_92 : decode cX11_confide 92 = .ok (.invokevirtual 137, 3) := by decide +kernel
theorem dX11_confide_95 : decode cX11_confide 95 = .ok (.aload_n 0, 1) := by decide +kernel
theorem dX11_confide_96 : decode cX11_confide 96 = .ok (.iload 5, 2) := by decide +kernel
theorem dX11_confide_98 : decode cX11_confide 98 = .ok (.invokevirtual 163, 3) := by decide +kernel
theorem dX11_confide_101 : decode cX11_confide 101 = .ok (.istore 6, 2) := by decide +kernel
theorem dX11_confide_103 : decode cX11_confide 103 = .ok (.aload_n 0, 1) := by decide +kernel
theorem dX11_confide_104 : decode cX11_confide 104 = .ok (.getfield 19, 3) := by decide +kernel
theorem dX11_confide_107 : decode cX11_confide 107 = .ok (.aload_n 0, 1) := by decide +kernel
theorem dX11_confide_108 : decode cX11_confide 108 = .ok (.getfield 7, 3) := by decide +kernel
theorem dX11_confide_111 : decode cX11_confide 111 = .ok (.invokestatic 151, 3) := by decide +kernel
theorem dX11_confide_114 : decode cX11_confide 114 = .ok (.iload 6, 2) := by decide +kernel
theorem dX11_confide_116 : decode cX11_confide 116 = .ok (.iload 4, 2) := by decide +kernel
theorem dX11_confide_118 : decode cX11_confide 118 = .ok (.if_icmp .le 8, 3) := by decide +kernel
theorem dX11_confide_121 : decode cX11_confide 121 = .ok (.iload 5, 2) := by decide +kernel
theorem dX11_confide_123 : decode cX11_confide 123 = .ok (.goto 4, 3) := by decide +kernel
theorem dX11_confide_126 : decode cX11_confide 126 = .ok (.iload_n 3, 1) := by decide +kernel
theorem dX11_confide_127 : decode cX11_confide 127 = .ok (.istore_n 3, 1) := by decide +kernel
theorem dX11_confide_128 : decode cX11_confide 128 = .ok (.iload 6, 2) := by decide +kernel
theorem dX11_confide_130 : decode cX11_confide 130 = .ok (.iload 4, 2) := by decide +kernel
theorem dX11_confide_132 : decode cX11_confide 132 = .ok (.if_icmp .le 8, 3) := by decide +kernel
theorem dX11_confide_135 : decode cX11_confide 135 = .ok (.iload 6, 2) := by decide +kernel
theorem dX11_confide_137 : decode cX11_confide 137 = .ok (.goto 5, 3) := by decide +kernel
theorem dX11_confide_140 : decode cX11_confide 140 = .ok (.iload 4, 2) := by decide +kernel
theorem dX11_confide_142 : decode cX11_confide 142 = .ok (.istore 4, 2) := by decide +kernel
theorem dX11_confide_144 : decode cX11_confide 144 = .ok (.iinc 5 1, 3) := by decide +kernel
theorem dX11_confide_147 : decode cX11_confide 147 = .ok (.goto (-112), 3) := by decide +kernel
theorem dX11_confide_150 : decode cX11_confide 150 = .ok (.aload_n 0, 1) := by decide +kernel
theorem dX11_confide_151 : decode cX11_confide 151 = .ok (.iload_n 3, 1) := by decide +kernel
theorem dX11_confide_152 : decode cX11_confide 152 = .ok (.invokevirtual 160, 3) := by decide +kernel
theorem dX11_confide_155 : decode cX11_confide 155 = .ok (.ireturn, 1) := by decide +kernel
theorem dX11_enough_0 : decode cX11_enough 0 = .ok (.aload_n 0, 1) := by decide +kernel
theorem dX11_enough_1 : decode cX11_enough 1 = .ok (.iload_n 1, 1) := by decide +kernel
theorem dX11_enough_2 : decode cX11_enough 2 = .ok (.invokevirtual 83, 3) := by decide +kernel
theorem dX11_enough_5 : decode cX11_enough 5 = .ok (.ifCond .eq 15, 3) := by decide +kernel
theorem dX11_enough_8 : decode cX11_enough 8 = .ok (.iload_n 2, 1) := by decide +kernel
theorem dX11_enough_9 : decode cX11_enough 9 = .ok (.i2l, 1) := by decide +kernel
theorem dX11_enough_10 : decode cX11_enough 10 = .ok (.lconst 1, 1) := by decide +kernel
theorem dX11_enough_11 : decode cX11_enough 11 = .ok (.ldc2_w 166, 3) := by decide +kernel
theorem dX11_enough_14 : decode cX11_enough 14 = .ok (.invokestatic 46, 3) := by decide +kernel
theorem dX11_enough_17 : decode cX11_enough 17 = .ok (.ifCond .ne 10, 3) := by decide +kernel
theorem dX11_enough_20 : decode cX11_enough 20 = .ok (.aload_n 0, 1) := by decide +kernel
theorem dX11_enough_21 : decode cX11_enough 21 = .ok (.ldc 38, 2) := by decide +kernel
theorem dX11_enough_23 : decode cX11_enough 23 = .ok (.invokevirtual 40, 3) := by decide +kernel
theorem dX11_enough_26 : decode cX11_enough 26 = .ok (.ireturn, 1) := by decide +kernel
theorem dX11_enough_27 : decode cX11_enough 27 = .ok (.aload_n 0, 1) := by decide +kernel
theorem dX11_enough_28 : decode cX11_enough 28 = .ok (.getfield 7, 3) := by decide +kernel
theorem dX11_enough_31 : decode cX11_enough 31 = .ok (.aload_n 0, 1) := by decide +kernel
theorem dX11_enough_32 : decode cX11_enough 32 = .ok (.getfield 19, 3) := by decide +kernel
theorem dX11_enough_35 : decode cX11_enough 35 = .ok (.invokestatic 151, 3) := by decide +kernel
theorem dX11_enough_38 : decode cX11_enough 38 = .ok (.iconst 0, 1) := by decide +kernel
theorem dX11_enough_39 : decode cX11_enough 39 = .ok (.istore_n 3, 1) := by decide +kernel
theorem dX11_enough_40 : decode cX11_enough 40 = .ok (.iload_n 3, 1) := by decide +kernel
theorem dX11_enough_41 : decode cX11_enough 41 = .ok (.sipush 200, 3) := by decide +kernel
theorem dX11_enough_44 : decode cX11_enough 44 = .ok (.if_icmp .gt 34, 3) := by decide +kernel
theorem dX11_enough_47 : decode cX11_enough 47 = .ok (.aload_n 0, 1) := by decide +kernel
theorem dX11_enough_48 : decode cX11_enough 48 = .ok (.iload_n 1, 1) := by decide +kernel
theorem dX11_enough_49 : decode cX11_enough 49 = .ok (.iconst 5, 1) := by decide +kernel
theorem dX11_enough_50 : decode cX11_enough 50 = .ok (.invokevirtual 58, 3) := by decide +kernel
theorem dX11_enough_53 : decode cX11_enough 53 = .ok (.aload_n 0, 1) := by decide +kernel
theorem dX11_enough_54 : decode cX11_enough 54 = .ok (.getfield 19, 3) := by decide +kernel
theorem dX11_enough_57 : decode cX11_enough 57 = .ok (.iload_n 1, 1) := by decide +kernel
theorem dX11_enough_58 : decode cX11_enough 58 = .ok (.iconst 5, 1) := by decide +kernel
theorem dX11_enough_59 : decode cX11_enough 59 = .ok (.invokestatic 61, 3) := by decide +kernel
theorem dX11_enough_62 : decode cX11_enough 62 = .ok (.iaload, 1) := by decide +kernel
theorem dX11_enough_63 : decode cX11_enough 63 = .ok (.isub, 1) := by decide +kernel
theorem dX11_enough_64 : decode cX11_enough 64 = .ok (.iload_n 2, 1) := by decide +kernel
theorem dX11_enough_65 : decode cX11_enough 65 = .ok (.if_icmp .ge 13, 3) := by decide +kernel
theorem dX11_enough_68 : decode cX11_enough 68 = .ok (.aload_n 0, 1) := by decide +kernel
theorem dX11_enough_69 : decode cX11_enough 69 = .ok (.invokevirtual 131, 3) := by decide +kernel
theorem dX11_enough_72 : decode cX11_enough 72 = .ok (.iinc 3 1, 3) := by decide +kernel
theorem dX11_enough_75 : decode cX11_enough 75 = .ok (.goto (-35), 3) := by decide +kernel
theorem dX11_enough_78 : decode cX11_enough 78 = .ok (.aload_n 0, 1) := by decide +kernel
theorem dX11_enough_79 : decode cX11_enough 79 = .ok (.getfield 19, 3) := by decide +kernel
theorem dX11_enough_82 : decode cX11_enough 82 = .ok (.aload_n 0, 1) := by decide +kernel
theorem dX11_enough_83 : decode cX11_enough 83 = .ok (.getfield 7, 3) := by decide +kernel
theorem dX11_enough_86 : decode cX11_enough 86 = .ok (.invokestatic 151, 3) := by decide +kernel
theorem dX11_enough_89 : decode cX11_enough 89 = .ok (.iload_n 3, 1) := by decide +kernel
theorem dX11_enough_90 : decode cX11_enough 90 = .ok (.sipush 200, 3) := by decide +kernel
theorem dX11_enough_93 : decode cX11_enough 93 = .ok (.if_icmp .gt 7, 3) := by decide +kernel
theorem dX11_enough_96 : decode cX11_enough 96 = .ok (.iload_n 3, 1) := by decide +kernel
theorem dX11_enough_97 : decode cX11_enough 97 = .ok (.goto 9, 3) := by decide +kernel
theorem dX11_enough_100 : decode cX11_enough 100 = .ok (.aload_n 0, 1) := by decide +kernel
theorem dX11_enough_101 : decode cX11_enough 101 = .ok (.ldc 39, 2) := by decide +kernel
theorem dX11_enough_103 : decode cX11_enough 103 = .ok (.invokevirtual 40, 3) := by decide +kernel
theorem dX11_enough_106 : decode cX11_enough 106 = .ok (.ireturn, 1) := by decide +kernel
theorem dX11_doubt_0 : decode cX11_doubt 0 = .ok (.iload_n 1, 1) := by decide +kernel
theorem dX11_doubt_1 : decode cX11_doubt 1 = .ok (.i2l, 1) := by decide +kernel
theorem dX11_doubt_2 : decode cX11_doubt 2 = .ok (.lconst 1, 1) := by decide +kernel
theorem dX11_doubt_3 : decode cX11_doubt 3 = .ok (.ldc2_w 155, 3) := by decide +kernel
theorem dX11_doubt_6 : decode cX11_doubt 6 = .ok (.invokestatic 46, 3) := by decide +kernel
theorem dX11_doubt_9 : decode cX11_doubt 9 = .ok (.ifCond .ne 10, 3) := by decide +kernel
theorem dX11_doubt_12 : decode cX11_doubt 12 = .ok (.aload_n 0, 1) := by decide +kernel
theorem dX11_doubt_13 : decode cX11_doubt 13 = .ok (.ldc 38, 2) := by decide +kernel
theorem dX11_doubt_15 : decode cX11_doubt 15 = .ok (.invokevirtual 40, 3) := by decide +kernel
theorem dX11_doubt_18 : decode cX11_doubt 18 = .ok (.ireturn, 1) := by decide +kernel
theorem dX11_doubt_19 : decode cX11_doubt 19 = .ok (.aload_n 0, 1) := by decide +kernel
theorem dX11_doubt_20 : decode cX11_doubt 20 = .ok (.getfield 7, 3) := by decide +kernel
theorem dX11_doubt_23 : decode cX11_doubt 23 = .ok (.aload_n 0, 1) := by decide +kernel
theorem dX11_doubt_24 : decode cX11_doubt 24 = .ok (.getfield 19, 3) := by decide +kernel
theorem dX11_doubt_27 : decode cX11_doubt 27 = .ok (.invokestatic 151, 3) := by decide +kernel
theorem dX11_doubt_30 : decode cX11_doubt 30 = .ok (.iconst 0, 1) := by decide +kernel
theorem dX11_doubt_31 : decode cX11_doubt 31 = .ok (.istore_n 2, 1) := by decide +kernel
theorem dX11_doubt_32 : decode cX11_doubt 32 = .ok (.iconst (-1), 1) := by decide +kernel
theorem dX11_doubt_33 : decode cX11_doubt 33 = .ok (.istore_n 3, 1) := by decide +kernel
theorem dX11_doubt_34 : decode cX11_doubt 34 = .ok (.iconst 0, 1) := by decide +kernel
theorem dX11_doubt_35 : decode cX11_doubt 35 = .ok (.istore 4, 2) := by decide +kernel
theorem dX11_doubt_37 : decode cX11_doubt 37 = .ok (.iload 4, 2) := by decide +kernel
theorem dX11_doubt_39 : decode cX11_doubt 39 = .ok (.bipush 10, 2) := by decide +kernel
theorem dX11_doubt_41 : decode cX11_doubt 41 = .ok (.if_icmp .ge 70, 3) := by decide +kernel
theorem dX11_doubt_44 : decode cX11_doubt 44 = .ok (.aload_n 0, 1) := by decide +kernel
theorem dX11_doubt_45 : decode cX11_doubt 45 = .ok (.getfield 7, 3) := by decide +kernel
theorem dX11_doubt_48 : decode cX11_doubt 48 = .ok (.iconst 2, 1) := by decide +kernel
theorem dX11_doubt_49 : decode cX11_doubt 49 = .ok (.dup2, 1) := by decide +kernel
theorem dX11_doubt_50 : decode cX11_doubt 50 = .ok (.iaload, 1) := by decide +kernel
theorem dX11_doubt_51 : decode cX11_doubt 51 = .ok (.iconst 1, 1) := by decide +kernel
theorem dX11_doubt_52 : decode cX11_doubt 52 = .ok (.iload 4, 2) := by decide +kernel
theorem dX11_doubt_54 : decode cX11_doubt 54 = .ok (.ishl, 1) := by decide +kernel
theorem dX11_doubt_55 : decode cX11_doubt 55 = .ok (.ixor, 1) := by decide +kernel
theorem dX11_doubt_56 : decode cX11_doubt 56 = .ok (.iastore, 1) := by decide +kernel
theorem dX11_doubt_57 : decode cX11_doubt 57 = .ok (.aload_n 0, 1) := by decide +kernel
theorem dX11_doubt_58 : decode cX11_doubt 58 = .ok (.iload_n 1, 1) := by decide +kernel
theorem dX11_doubt_59 : decode cX11_doubt 59 = .ok (.invokevirtual 137, 3) := by decide +kernel
theorem dX11_doubt_62 : decode cX11_doubt 62 = .ok (.aload_n 0, 1) := by decide +kernel
theorem dX11_doubt_63 : decode cX11_doubt 63 = .ok (.invokevirtual 168, 3) := by decide +kernel
theorem dX11_doubt_66 : decode cX11_doubt 66 = .ok (.istore 5, 2) := by decide +kernel
theorem dX11_doubt_68 : decode cX11_doubt 68 = .ok (.aload_n 0, 1) := by decide +kernel
theorem dX11_doubt_69 : decode cX11_doubt 69 = .ok (.getfield 19, 3) := by decide +kernel
theorem dX11_doubt_72 : decode cX11_doubt 72 = .ok (.aload_n 0, 1) := by decide +kernel
theorem dX11_doubt_73 : decode cX11_doubt 73 = .ok (.getfield 7, 3) := by decide +kernel
theorem dX11_doubt_76 : decode cX11_doubt 76 = .ok (.invokestatic 151, 3) := by decide +kernel
theorem dX11_doubt_79 : decode cX11_doubt 79 = .ok (.iload 5, 2) := by decide +kernel
theorem dX11_doubt_81 : decode cX11_doubt 81 = .ok (.iload_n 3, 1) := by decide +kernel
theorem dX11_doubt_82 : decode cX11_doubt 82 = .ok (.if_icmp .le 8, 3) := by decide +kernel
theorem dX11_doubt_85 : decode cX11_doubt 85 = .ok (.iload 4, 2) := by decide +kernel
theorem dX11_doubt_87 : decode cX11_doubt 87 = .ok (.goto 4, 3) := by decide +kernel
theorem dX11_doubt_90 : decode cX11_doubt 90 = .ok (.iload_n 2, 1) := by decide +kernel
theorem dX11_doubt_91 : decode cX11_doubt 91 = .ok (.istore_n 2, 1) := by decide +kernel
theorem dX11_doubt_92 : decode cX11_doubt 92 = .ok (.iload 5, 2) := by decide +kernel
theorem dX11_doubt_94 : decode cX11_doubt 94 = .ok (.iload_n 3, 1) := by decide +kernel
theorem dX11_doubt_95 : decode cX11_doubt 95 = .ok (.if_icmp .le 8, 3) := by decide +kernel
theorem dX11_doubt_98 : decode cX11_doubt 98 = .ok (.iload 5, 2) := by decide +kernel
theorem dX11_doubt_100 : decode cX11_doubt 100 = .ok (.goto 4, 3) := by decide +kernel
theorem dX11_doubt_103 : decode cX11_doubt 103 = .ok (.iload_n 3, 1) := by decide +kernel
theorem dX11_doubt_104 : decode cX11_doubt 104 = .ok (.istore_n 3, 1) := by decide +kernel
theorem dX11_doubt_105 : decode cX11_doubt 105 = .ok (.iinc 4 1, 3) := by decide +kernel
end
section
theorem dX11_doubt_108 : decode cX11_doubt 108 = .ok (.goto (-71), 3) := by decide +kernel
theorem dX11_doubt_111 : decode cX11_doubt 111 = .ok (.iload_n 2, 1) := by decide +kernel
theorem dX11_doubt_112 : decode cX11_doubt 112 = .ok (.ireturn, 1) := by decide +kernel
theorem dX11_wisest_0 : decode cX11_wisest 0 = .ok (.iload_n 1, 1) := by decide +kernel
theorem dX11_wisest_1 : decode cX11_wisest 1 = .ok (.i2l, 1) := by decide +kernel
theorem dX11_wisest_2 : decode cX11_wisest 2 = .ok (.lconst 0, 1) := by decide +kernel
theorem dX11_wisest_3 : decode cX11_wisest 3 = .ok (.ldc2_w 147, 3) := by decide +kernel
theorem dX11_wisest_6 : decode cX11_wisest 6 = .ok (.invokestatic 46, 3) := by decide +kernel
theorem dX11_wisest_9 : decode cX11_wisest 9 = .ok (.ifCond .ne 10, 3) := by decide +kernel
theorem dX11_wisest_12 : decode cX11_wisest 12 = .ok (.aload_n 0, 1) := by decide +kernel
theorem dX11_wisest_13 : decode cX11_wisest 13 = .ok (.ldc 38, 2) := by decide +kernel
theorem dX11_wisest_15 : decode cX11_wisest 15 = .ok (.invokevirtual 40, 3) := by decide +kernel
theorem dX11_wisest_18 : decode cX11_wisest 18 = .ok (.ireturn, 1) := by decide +kernel
theorem dX11_wisest_19 : decode cX11_wisest 19 = .ok (.aload_n 0, 1) := by decide +kernel
theorem dX11_wisest_20 : decode cX11_wisest 20 = .ok (.getfield 7, 3) := by decide +kernel
theorem dX11_wisest_23 : decode cX11_wisest 23 = .ok (.aload_n 0, 1) := by decide +kernel
theorem dX11_wisest_24 : decode cX11_wisest 24 = .ok (.getfield 19, 3) := by decide +kernel
theorem dX11_wisest_27 : decode cX11_wisest 27 = .ok (.invokestatic 151, 3) := by decide +kernel
theorem dX11_wisest_30 : decode cX11_wisest 30 = .ok (.aload_n 0, 1) := by decide +kernel
theorem dX11_wisest_31 : decode cX11_wisest 31 = .ok (.iload_n 1, 1) := by decide +kernel
theorem dX11_wisest_32 : decode cX11_wisest 32 = .ok (.invokevirtual 137, 3) := by decide +kernel
theorem dX11_wisest_35 : decode cX11_wisest 35 = .ok (.iconst (-1), 1) := by decide +kernel
theorem dX11_wisest_36 : decode cX11_wisest 36 = .ok (.istore_n 2, 1) := by decide +kernel
theorem dX11_wisest_37 : decode cX11_wisest 37 = .ok (.iconst 0, 1) := by decide +kernel
theorem dX11_wisest_38 : decode cX11_wisest 38 = .ok (.istore_n 3, 1) := by decide +kernel
theorem dX11_wisest_39 : decode cX11_wisest 39 = .ok (.iload_n 3, 1) := by decide +kernel
theorem dX11_wisest_40 : decode cX11_wisest 40 = .ok (.aload_n 0, 1) := by decide +kernel
theorem dX11_wisest_41 : decode cX11_wisest 41 = .ok (.getfield 7, 3) := by decide +kernel
theorem dX11_wisest_44 : decode cX11_wisest 44 = .ok (.iconst 0, 1) := by decide +kernel
theorem dX11_wisest_45 : decode cX11_wisest 45 = .ok (.iaload, 1) := by decide +kernel
theorem dX11_wisest_46 : decode cX11_wisest 46 = .ok (.if_icmp .ge 40, 3) := by decide +kernel
theorem dX11_wisest_49 : decode cX11_wisest 49 = .ok (.iload_n 2, 1) := by decide +kernel
theorem dX11_wisest_50 : decode cX11_wisest 50 = .ok (.ifCond .lt 24, 3) := by decide +kernel
theorem dX11_wisest_53 : decode cX11_wisest 53 = .ok (.aload_n 0, 1) := by decide +kernel
theorem dX11_wisest_54 : decode cX11_wisest 54 = .ok (.iload_n 3, 1) := by decide +kernel
theorem dX11_wisest_55 : decode cX11_wisest 55 = .ok (.iconst 1, 1) := by decide +kernel
theorem dX11_wisest_56 : decode cX11_wisest 56 = .ok (.invokevirtual 58, 3) := by decide +kernel
theorem dX11_wisest_59 : decode cX11_wisest 59 = .ok (.invokestatic 80, 3) := by decide +kernel
theorem dX11_wisest_62 : decode cX11_wisest 62 = .ok (.aload_n 0, 1) := by decide +kernel
theorem dX11_wisest_63 : decode cX11_wisest 63 = .ok (.iload_n 2, 1) := by decide +kernel
theorem dX11_wisest_64 : decode cX11_wisest 64 = .ok (.iconst 1, 1) := by decide +kernel
theorem dX11_wisest_65 : decode cX11_wisest 65 = .ok (.invokevirtual 58, 3) := by decide +kernel
theorem dX11_wisest_68 : decode cX11_wisest 68 = .ok (.invokestatic 80, 3) := by decide +kernel
theorem dX11_wisest_71 : decode cX11_wisest 71 = .ok (.if_icmp .le 7, 3) := by decide +kernel
theorem dX11_wisest_74 : decode cX11_wisest 74 = .ok (.iload_n 3, 1) := by decide +kernel
theorem dX11_wisest_75 : decode cX11_wisest 75 = .ok (.goto 4, 3) := by decide +kernel
theorem dX11_wisest_78 : decode cX11_wisest 78 = .ok (.iload_n 2, 1) := by decide +kernel
theorem dX11_wisest_79 : decode cX11_wisest 79 = .ok (.istore_n 2, 1) := by decide +kernel
theorem dX11_wisest_80 : decode cX11_wisest 80 = .ok (.iinc 3 1, 3) := by decide +kernel
theorem dX11_wisest_83 : decode cX11_wisest 83 = .ok (.goto (-44), 3) := by decide +kernel
theorem dX11_wisest_86 : decode cX11_wisest 86 = .ok (.aload_n 0, 1) := by decide +kernel
theorem dX11_wisest_87 : decode cX11_wisest 87 = .ok (.getfield 19, 3) := by decide +kernel
theorem dX11_wisest_90 : decode cX11_wisest 90 = .ok (.aload_n 0, 1) := by decide +kernel
theorem dX11_wisest_91 : decode cX11_wisest 91 = .ok (.getfield 7, 3) := by decide +kernel
theorem dX11_wisest_94 : decode cX11_wisest 94 = .ok (.invokestatic 151, 3) := by decide +kernel
theorem dX11_wisest_97 : decode cX11_wisest 97 = .ok (.aload_n 0, 1) := by decide +kernel
theorem dX11_wisest_98 : decode cX11_wisest 98 = .ok (.iload_n 2, 1) := by decide +kernel
theorem dX11_wisest_99 : decode cX11_wisest 99 = .ok (.invokevirtual 160, 3) := by decide +kernel
theorem dX11_wisest_102 : decode cX11_wisest 102 = .ok (.ireturn, 1) := by decide +kernel
theorem dX11_feed_0 : decode cX11_feed 0 = .ok (.iload_n 2, 1) := by decide +kernel
theorem dX11_feed_1 : decode cX11_feed 1 = .ok (.i2l, 1) := by decide +kernel
theorem dX11_feed_2 : decode cX11_feed 2 = .ok (.lconst 1, 1) := by decide +kernel
theorem dX11_feed_3 : decode cX11_feed 3 = .ok (.ldc2_w 171, 3) := by decide +kernel
theorem dX11_feed_6 : decode cX11_feed 6 = .ok (.invokestatic 46, 3) := by decide +kernel
theorem dX11_feed_9 : decode cX11_feed 9 = .ok (.ifCond .ne 10, 3) := by decide +kernel
theorem dX11_feed_12 : decode cX11_feed 12 = .ok (.aload_n 0, 1) := by decide +kernel
theorem dX11_feed_13 : decode cX11_feed 13 = .ok (.ldc 38, 2) := by decide +kernel
theorem dX11_feed_15 : decode cX11_feed 15 = .ok (.invokevirtual 40, 3) := by decide +kernel
theorem dX11_feed_18 : decode cX11_feed 18 = .ok (.ireturn, 1) := by decide +kernel
theorem dX11_feed_19 : decode cX11_feed 19 = .ok (.aload_n 0, 1) := by decide +kernel
theorem dX11_feed_20 : decode cX11_feed 20 = .ok (.getfield 173, 3) := by decide +kernel
theorem dX11_feed_23 : decode cX11_feed 23 = .ok (.iload_n 2, 1) := by decide +kernel
theorem dX11_feed_24 : decode cX11_feed 24 = .ok (.iadd, 1) := by decide +kernel
theorem dX11_feed_25 : decode cX11_feed 25 = .ok (.bipush 120, 2) := by decide +kernel
theorem dX11_feed_27 : decode cX11_feed 27 = .ok (.if_icmp .le 10, 3) := by decide +kernel
theorem dX11_feed_30 : decode cX11_feed 30 = .ok (.aload_n 0, 1) := by decide +kernel
theorem dX11_feed_31 : decode cX11_feed 31 = .ok (.ldc 66, 2) := by decide +kernel
theorem dX11_feed_33 : decode cX11_feed 33 = .ok (.invokevirtual 40, 3) := by decide +kernel
theorem dX11_feed_36 : decode cX11_feed 36 = .ok (.ireturn, 1) := by decide +kernel
theorem dX11_feed_37 : decode cX11_feed 37 = .ok (.iload_n 2, 1) := by decide +kernel
theorem dX11_feed_38 : decode cX11_feed 38 = .ok (.iconst 1, 1) := by decide +kernel
theorem dX11_feed_39 : decode cX11_feed 39 = .ok (.isub, 1) := by decide +kernel
theorem dX11_feed_40 : decode cX11_feed 40 = .ok (.istore_n 3, 1) := by decide +kernel
theorem dX11_feed_41 : decode cX11_feed 41 = .ok (.iload_n 3, 1) := by decide +kernel
theorem dX11_feed_42 : decode cX11_feed 42 = .ok (.ifCond .lt 38, 3) := by decide +kernel
theorem dX11_feed_45 : decode cX11_feed 45 = .ok (.aload_n 0, 1) := by decide +kernel
theorem dX11_feed_46 : decode cX11_feed 46 = .ok (.getfield 25, 3) := by decide +kernel
theorem dX11_feed_49 : decode cX11_feed 49 = .ok (.aload_n 0, 1) := by decide +kernel
theorem dX11_feed_50 : decode cX11_feed 50 = .ok (.getfield 173, 3) := by decide +kernel
theorem dX11_feed_53 : decode cX11_feed 53 = .ok (.iload_n 1, 1) := by decide +kernel
theorem dX11_feed_54 : decode cX11_feed 54 = .ok (.bipush 8, 2) := by decide +kernel
theorem dX11_feed_56 : decode cX11_feed 56 = .ok (.iload_n 3, 1) := by decide +kernel
theorem dX11_feed_57 : decode cX11_feed 57 = .ok (.imul, 1) := by decide +kernel
theorem dX11_feed_58 : decode cX11_feed 58 = .ok (.ishr, 1) := by decide +kernel
theorem dX11_feed_59 : decode cX11_feed 59 = .ok (.sipush 255, 3) := by decide +kernel
theorem dX11_feed_62 : decode cX11_feed 62 = .ok (.iand, 1) := by decide +kernel
theorem dX11_feed_63 : decode cX11_feed 63 = .ok (.iastore, 1) := by decide +kernel
theorem dX11_feed_64 : decode cX11_feed 64 = .ok (.aload_n 0, 1) := by decide +kernel
theorem dX11_feed_65 : decode cX11_feed 65 = .ok (.dup, 1) := by decide +kernel
theorem dX11_feed_66 : decode cX11_feed 66 = .ok (.getfield 173, 3) := by decide +kernel
theorem dX11_feed_69 : decode cX11_feed 69 = .ok (.iconst 1, 1) := by decide +kernel
theorem dX11_feed_70 : decode cX11_feed 70 = .ok (.iadd, 1) := by decide +kernel
theorem dX11_feed_71 : decode cX11_feed 71 = .ok (.putfield 173, 3) := by decide +kernel
theorem dX11_feed_74 : decode cX11_feed 74 = .ok (.iinc 3 (-1), 3) := by decide +kernel
theorem dX11_feed_77 : decode cX11_feed 77 = .ok (.goto (-36), 3) := by decide +kernel
theorem dX11_feed_80 : decode cX11_feed 80 = .ok (.aload_n 0, 1) := by decide +kernel
theorem dX11_feed_81 : decode cX11_feed 81 = .ok (.getfield 173, 3) := by decide +kernel
theorem dX11_feed_84 : decode cX11_feed 84 = .ok (.ireturn, 1) := by decide +kernel
theorem dX11_wipe_0 : decode cX11_wipe 0 = .ok (.aload_n 0, 1) := by decide +kernel
theorem dX11_wipe_1 : decode cX11_wipe 1 = .ok (.getfield 173, 3) := by decide +kernel
theorem dX11_wipe_4 : decode cX11_wipe 4 = .ok (.istore_n 1, 1) := by decide +kernel
theorem dX11_wipe_5 : decode cX11_wipe 5 = .ok (.aload_n 0, 1) := by decide +kernel
theorem dX11_wipe_6 : decode cX11_wipe 6 = .ok (.iconst 0, 1) := by decide +kernel
theorem dX11_wipe_7 : decode cX11_wipe 7 = .ok (.putfield 173, 3) := by decide +kernel
theorem dX11_wipe_10 : decode cX11_wipe 10 = .ok (.iload_n 1, 1) := by decide +kernel
theorem dX11_wipe_11 : decode cX11_wipe 11 = .ok (.ireturn, 1) := by decide +kernel
theorem dX11_isLetter_0 : decode cX11_isLetter 0 = .ok (.iload_n 0, 1) := by decide +kernel
theorem dX11_isLetter_1 : decode cX11_isLetter 1 = .ok (.bipush 97, 2) := by decide +kernel
theorem dX11_isLetter_3 : decode cX11_isLetter 3 = .ok (.if_icmp .lt 13, 3) := by decide +kernel
theorem dX11_isLetter_6 : decode cX11_isLetter 6 = .ok (.iload_n 0, 1) := by decide +kernel
theorem dX11_isLetter_7 : decode cX11_isLetter 7 = .ok (.bipush 122, 2) := by decide +kernel
theorem dX11_isLetter_9 : decode cX11_isLetter 9 = .ok (.if_icmp .gt 7, 3) := by decide +kernel
theorem dX11_isLetter_12 : decode cX11_isLetter 12 = .ok (.iconst 1, 1) := by decide +kernel
theorem dX11_isLetter_13 : decode cX11_isLetter 13 = .ok (.goto 4, 3) := by decide +kernel
theorem dX11_isLetter_16 : decode cX11_isLetter 16 = .ok (.iconst 0, 1) := by decide +kernel
theorem dX11_isLetter_17 : decode cX11_isLetter 17 = .ok (.ireturn, 1) := by decide +kernel
theorem dX11_isDigit_0 : decode cX11_isDigit 0 = .ok (.iload_n 0, 1) := by decide +kernel
theorem dX11_isDigit_1 : decode cX11_isDigit 1 = .ok (.bipush 48, 2) := by decide +kernel
theorem dX11_isDigit_3 : decode cX11_isDigit 3 = .ok (.if_icmp .lt 13, 3) := by decide +kernel
theorem dX11_isDigit_6 : decode cX11_isDigit 6 = .ok (.iload_n 0, 1) := by decide +kernel
theorem dX11_isDigit_7 : decode cX11_isDigit 7 = .ok (.bipush 57, 2) := by decide +kernel
theorem dX11_isDigit_9 : decode cX11_isDigit 9 = .ok (.if_icmp .gt 7, 3) := by decide +kernel
theorem dX11_isDigit_12 : decode cX11_isDigit 12 = .ok (.iconst 1, 1) := by decide +kernel
theorem dX11_isDigit_13 : decode cX11_isDigit 13 = .ok (.goto 4, 3) := by decide +kernel
theorem dX11_isDigit_16 : decode cX11_isDigit 16 = .ok (.iconst 0, 1) := by decide +kernel
theorem dX11_isDigit_17 : decode cX11_isDigit 17 = .ok (.ireturn, 1) := by decide +kernel
theorem dX11_byteAt_0 : decode cX11_byteAt 0 = .ok (.iload_n 1, 1) := by decide +kernel
theorem dX11_byteAt_1 : decode cX11_byteAt 1 = .ok (.aload_n 0, 1) := by decide +kernel
theorem dX11_byteAt_2 : decode cX11_byteAt 2 = .ok (.getfield 173, 3) := by decide +kernel
theorem dX11_byteAt_5 : decode cX11_byteAt 5 = .ok (.if_icmp .ge 12, 3) := by decide +kernel
theorem dX11_byteAt_8 : decode cX11_byteAt 8 = .ok (.aload_n 0, 1) := by decide +kernel
theorem dX11_byteAt_9 : decode cX11_byteAt 9 = .ok (.getfield 25, 3) := by decide +kernel
theorem dX11_byteAt_12 : decode cX11_byteAt 12 = .ok (.iload_n 1, 1) := by decide +kernel
theorem dX11_byteAt_13 : decode cX11_byteAt 13 = .ok (.iaload, 1) := by decide +kernel
theorem dX11_byteAt_14 : decode cX11_byteAt 14 = .ok (.goto 4, 3) := by decide +kernel
theorem dX11_byteAt_17 : decode cX11_byteAt 17 = .ok (.iconst (-1), 1) := by decide +kernel
theorem dX11_byteAt_18 : decode cX11_byteAt 18 = .ok (.ireturn, 1) := by decide +kernel
theorem dX11_nextToken_0 : decode cX11_nextToken 0 = .ok (.aload_n 0, 1) := by decide +kernel
theorem dX11_nextToken_1 : decode cX11_nextToken 1 = .ok (.aload_n 0, 1) := by decide +kernel
theorem dX11_nextToken_2 : decode cX11_nextToken 2 = .ok (.getfield 177, 3) := by decide +kernel
theorem dX11_nextToken_5 : decode cX11_nextToken 5 = .ok (.putfield 180, 3) := by decide +kernel
theorem dX11_nextToken_8 : decode cX11_nextToken 8 = .ok (.aload_n 0, 1) := by decide +kernel
theorem dX11_nextToken_9 : decode cX11_nextToken 9 = .ok (.aload_n 0, 1) := by decide +kernel
theorem dX11_nextToken_10 : decode cX11_nextToken 10 = .ok (.getfield 180, 3) := by decide +kernel
theorem dX11_nextToken_13 : decode cX11_nextToken 13 = .ok (.invokevirtual 183, 3) := by decide +kernel
theorem dX11_nextToken_16 : decode cX11_nextToken 16 = .ok (.bipush 32, 2) := by decide +kernel
theorem dX11_nextToken_18 : decode cX11_nextToken 18 = .ok (.if_icmp .ne 16, 3) := by decide +kernel
theorem dX11_nextToken_21 : decode cX11_nextToken 21 = .ok (.aload_n 0, 1) := by decide +kernel
theorem dX11_nextToken_22 : decode cX11_nextToken 22 = .ok (.dup, 1) := by decide +kernel
theorem dX11_nextToken_23 : decode cX11_nextToken 23 = .ok (.getfield 180, 3) := by decide +kernel
theorem dX11_nextToken_26 : decode cX11_nextToken 26 = .ok (.iconst 1, 1) := by decide +kernel
theorem dX11_nextToken_27 : decode cX11_nextToken 27 = .ok (.iadd, 1) := by decide +kernel
theorem dX11_nextToken_28 : decode cX11_nextToken 28 = .ok (.putfield 180, 3) := by decide +kernel
theorem dX11_nextToken_31 : decode cX11_nextToken 31 = .ok (.goto (-23), 3) := by decide +kernel
theorem dX11_nextToken_34 : decode cX11_nextToken 34 = .ok (.aload_n 0, 1) := by decide +kernel
theorem dX11_nextToken_35 : decode cX11_nextToken 35 = .ok (.aload_n 0, 1) := by decide +kernel
theorem dX11_nextToken_36 : decode cX11_nextToken 36 = .ok (.getfield 180, 3) := by decide +kernel
theorem dX11_nextToken_39 : decode cX11_nextToken 39 = .ok (.putfield 177, 3) := by decide +kernel
theorem dX11_nextToken_42 : decode cX11_nextToken 42 = .ok (.aload_n 0, 1) := by decide +kernel
theorem dX11_nextToken_43 : decode cX11_nextToken 43 = .ok (.aload_n 0, 1) := by decide +kernel
theorem dX11_nextToken_44 : decode cX11_nextToken 44 = .ok (.getfield 180, 3) := by decide +kernel
theorem dX11_nextToken_47 : decode cX11_nextToken 47 = .ok (.invokevirtual 183, 3) := by decide +kernel
theorem dX11_nextToken_50 : decode cX11_nextToken 50 = .ok (.istore_n 1, 1) := by decide +kernel
theorem dX11_nextToken_51 : decode cX11_nextToken 51 = .ok (.aload_n 0, 1) := by decide +kernel
theorem dX11_nextToken_52 : decode cX11_nextToken 52 = .ok (.iload_n 1, 1) := by decide +kernel
theorem dX11_nextToken_53 : decode cX11_nextToken 53 = .ok (.ifCond .ge 7, 3) := by decide +kernel
theorem dX11_nextToken_56 : decode cX11_nextToken 56 = .ok (.iconst 0, 1) := by decide +kernel
theorem dX11_nextToken_57 : decode cX11_nextToken 57 = .ok (.goto 36, 3) := by decide +kernel
theorem dX11_nextToken_60 : decode cX11_nextToken 60 = .ok (.iload_n 1, 1) := by decide +kernel
theorem dX11_nextToken_61 : decode cX11_nextToken 61 = .ok (.invokestatic 186, 3) := by decide +kernel
theorem dX11_nextToken_64 : decode cX11_nextToken 64 = .ok (.ifCond .eq 7, 3) := by decide +kernel
theorem dX11_nextToken_67 : decode cX11_nextToken 67 = .ok (.iconst 1, 1) := by decide +kernel
theorem dX11_nextToken_68 : decode cX11_nextToken 68 = .ok (.goto 25, 3) := by decide +kernel
theorem dX11_nextToken_71 : decode cX11_nextToken 71 = .ok (.iload_n 1, 1) := by decide +kernel
theorem dX11_nextToken_72 : decode cX11_nextToken 72 = .ok (.invokestatic 189, 3) := by decide +kernel
theorem dX11_nextToken_75 : decode cX11_nextToken 75 = .ok (.ifCond .eq 7, 3) := by decide +kernel
theorem dX11_nextToken_78 : decode cX11_nextToken 78 = .ok (.iconst 2, 1) := by decide +kernel
theorem dX11_nextToken_79 : decode cX11_nextToken 79 = .ok (.goto 14, 3) := by decide +kernel
theorem dX11_nextToken_82 : decode cX11_nextToken 82 = .ok (.iload_n 1, 1) := by decide +kernel
theorem dX11_nextToken_83 : decode cX11_nextToken 83 = .ok (.bipush 59, 2) := by decide +kernel
theorem dX11_nextToken_85 : decode cX11_nextToken 85 = .ok (.if_icmp .ne 7, 3) := by decide +kernel
theorem dX11_nextToken_88 : decode cX11_nextToken 88 = .ok (.iconst 3, 1) := by decide +kernel
theorem dX11_nextToken_89 : decode cX11_nextToken 89 = .ok (.goto 4, 3) := by decide +kernel
theorem dX11_nextToken_92 : decode cX11_nextToken 92 = .ok (.iconst 4, 1) := by decide +kernel
theorem dX11_nextToken_93 : decode cX11_nextToken 93 = .ok (.putfield 192, 3) := by decide +kernel
theorem dX11_nextToken_96 : decode cX11_nextToken 96 = .ok (.aload_n 0, 1) := by decide +kernel
theorem dX11_nextToken_97 : decode cX11_nextToken 97 = .ok (.iconst 0, 1) := by decide +kernel
theorem dX11_nextToken_98 : decode cX11_nextToken 98 = .ok (.putfield 195, 3) := by decide +kernel
theorem dX11_nextToken_101 : decode cX11_nextToken 101 = .ok (.aload_n 0, 1) := by decide +kernel
theorem dX11_nextToken_102 : decode cX11_nextToken 102 = .ok (.getfield 192, 3) := by decide +kernel
theorem dX11_nextToken_105 : decode cX11_nextToken 105 = .ok (.iconst 1, 1) := by decide +kernel
theorem dX11_nextToken_106 : decode cX11_nextToken 106 = .ok (.if_icmp .ne 30, 3) := by decide +kernel
theorem dX11_nextToken_109 : decode cX11_nextToken 109 = .ok (.aload_n 0, 1) := by decide +kernel
theorem dX11_nextToken_110 : decode cX11_nextToken 110 = .ok (.aload_n 0, 1) := by decide +kernel
theorem dX11_nextToken_111 : decode cX11_nextToken 111 = .ok (.getfield 177, 3) := by decide +kernel
theorem dX11_nextToken_114 : decode cX11_nextToken 114 = .ok (.invokevirtual 183, 3) := by decide +kernel
theorem dX11_nextToken_117 : decode cX11_nextToken 117 = .ok (.invokestatic 186, 3) := by decide +kernel
theorem dX11_nextToken_120 : decode cX11_nextToken 120 = .ok (.ifCond .eq 16, 3) := by decide +kernel
theorem dX11_nextToken_123 : decode cX11_nextToken 123 = .ok (.aload_n 0, 1) := by decide +kernel
theorem dX11_nextToken_124 : decode cX11_nextToken 124 = .ok (.dup, 1) := by decide +kernel
theorem dX11_nextToken_125 : decode cX11_nextToken 125 = .ok (.getfield 177, 3) := by decide +kernel
theorem dX11_nextToken_128 : decode cX11_nextToken 128 = .ok (.iconst 1, 1) := by decide +kernel
theorem dX11_nextToken_129 : decode cX11_nextToken 129 = .ok (.iadd, 1) := by decide +kernel
theorem dX11_nextToken_130 : decode cX11_nextToken 130 = .ok (.putfield 177, 3) := by decide +kernel
theorem dX11_nextToken_133 : decode cX11_nextToken 133 = .ok (.goto (-32), 3) := by decide +kernel
theorem dX11_nextToken_136 : decode cX11_nextToken 136 = .ok (.aload_n 0, 1) := by decide +kernel
theorem dX11_nextToken_137 : decode cX11_nextToken 137 = .ok (.getfield 192, 3) := by decide +kernel
theorem dX11_nextToken_140 : decode cX11_nextToken 140 = .ok (.iconst 2, 1) := by decide +kernel
theorem dX11_nextToken_141 : decode cX11_nextToken 141 = .ok (.if_icmp .ne 70, 3) := by decide +kernel
theorem dX11_nextToken_144 : decode cX11_nextToken 144 = .ok (.aload_n 0, 1) := by decide +kernel
theorem dX11_nextToken_145 : decode cX11_nextToken 145 = .ok (.aload_n 0, 1) := by decide +kernel
theorem dX11_nextToken_146 : decode cX11_nextToken 146 = .ok (.getfield 177, 3) := by decide +kernel
theorem dX11_nextToken_149 : decode cX11_nextToken 149 = .ok (.invokevirtual 183, 3) := by decide +kernel
theorem dX11_nextToken_152 : decode cX11_nextToken 152 = .ok (.invokestatic 189, 3) := by decide +kernel
theorem dX11_nextToken_155 : decode cX11_nextToken 155 = .ok (.ifCond .eq 56, 3) := by decide +kernel
theorem dX11_nextToken_158 : decode cX11_nextToken 158 = .ok (.aload_n 0, 1) := by decide +kernel
theorem dX11_nextToken_159 : decode cX11_nextToken 159 = .ok (.aload_n 0, 1) := by decide +kernel
theorem dX11_nextToken_160 : decode cX11_nextToken 160 = .ok (.getfield 195, 3) := by decide +kernel
theorem dX11_nextToken_163 : decode cX11_nextToken 163 = .ok (.sipush 999, 3) := by decide +kernel
theorem dX11_nextToken_166 : decode cX11_nextToken 166 = .ok (.if_icmp .le 10, 3) := by decide +kernel
theorem dX11_nextToken_169 : decode cX11_nextToken 169 = .ok (.aload_n 0, 1) := by decide +kernel
theorem dX11_nextToken_170 : decode cX11_nextToken 170 = .ok (.getfield 195, 3) := by decide +kernel
theorem dX11_nextToken_173 : decode cX11_nextToken 173 = .ok (.goto 22, 3) := by decide +kernel
theorem dX11_nextToken_176 : decode cX11_nextToken 176 = .ok (.bipush 10, 2) := by decide +kernel
theorem dX11_nextToken_178 : decode cX11_nextToken 178 = .ok (.aload_n 0, 1) := by decide +kernel
theorem dX11_nextToken_179 : decode cX11_nextToken 179 = .ok (.getfield 195, 3) := by decide +kernel
theorem dX11_nextToken_182 : decode cX11_nextToken 182 = .ok (.imul, 1) := by decide +kernel
theorem dX11_nextToken_183 : decode cX11_nextToken 183 = .ok (.aload_n 0, 1) := by decide +kernel
theorem dX11_nextToken_184 : decode cX11_nextToken 184 = .ok (.aload_n 0, 1) := by decide +kernel
theorem dX11_nextToken_185 : decode cX11_nextToken 185 = .ok (.getfield 177, 3) := by decide +kernel
theorem dX11_nextToken_188 : decode cX11_nextToken 188 = .ok (.invokevirtual 183, 3) := by decide +kernel
theorem dX11_nextToken_191 : decode cX11_nextToken 191 = .ok (.iadd, 1) := by decide +kernel
theorem dX11_nextToken_192 : decode cX11_nextToken 192 = .ok (.bipush 48, 2) := by decide +kernel
theorem dX11_nextToken_194 : decode cX11_nextToken 194 = .ok (.isub, 1) := by decide +kernel
theorem dX11_nextToken_195 : decode cX11_nextToken 195 = .ok (.putfield 195, 3) := by decide +kernel
theorem dX11_nextToken_198 : decode cX11_nextToken 198 = .ok (.aload_n 0, 1) := by decide +kernel
theorem dX11_nextToken_199 : decode cX11_nextToken 199 = .ok (.dup, 1) := by decide +kernel
theorem dX11_nextToken_200 : decode cX11_nextToken 200 = .ok (.getfield 177, 3) := by decide +kernel
theorem dX11_nextToken_203 : decode cX11_nextToken 203 = .ok (.iconst 1, 1) := by decide +kernel
theorem dX11_nextToken_204 : decode cX11_nextToken 204 = .ok (.iadd, 1) := by decide +kernel
theorem dX11_nextToken_205 : decode cX11_nextToken 205 = .ok (.putfield 177, 3) := by decide +kernel
theorem dX11_nextToken_208 : decode cX11_nextToken 208 = .ok (.goto (-72), 3) := by decide +kernel
theorem dX11_nextToken_211 : decode cX11_nextToken 211 = .ok (.aload_n 0, 1) := by decide +kernel
theorem dX11_nextToken_212 : decode cX11_nextToken 212 = .ok (.dup, 1) := by decide +kernel
theorem dX11_nextToken_213 : decode cX11_nextToken 213 = .ok (.getfield 177, 3) := by decide +kernel
theorem dX11_nextToken_216 : decode cX11_nextToken 216 = .ok (.aload_n 0, 1) := by decide +kernel
theorem dX11_nextToken_217 : decode cX11_nextToken 217 = .ok (.getfield 192, 3) := by decide +kernel
theorem dX11_nextToken_220 : decode cX11_nextToken 220 = .ok (.iconst 2, 1) := by decide +kernel
theorem dX11_nextToken_221 : decode cX11_nextToken 221 = .ok (.if_icmp .le 7, 3) := by decide +kernel
theorem dX11_nextToken_224 : decode cX11_nextToken 224 = .ok (.iconst 1, 1) := by decide +kernel
theorem dX11_nextToken_225 : decode cX11_nextToken 225 = .ok (.goto 4, 3) := by decide +kernel
theorem dX11_nextToken_228 : decode cX11_nextToken 228 = .ok (.iconst 0, 1) := by decide +kernel
theorem dX11_nextToken_229 : decode cX11_nextToken 229 = .ok (.iadd, 1) := by decide +kernel
theorem dX11_nextToken_230 : decode cX11_nextToken 230 = .ok (.putfield 177, 3) := by decide +kernel
theorem dX11_nextToken_233 : decode cX11_nextToken 233 = .ok (.return_, 1) := by decide +kernel
theorem dX11_has3_0 : decode cX11_has3 0 = .ok (.aload_n 0, 1) := by decide +kernel
theorem dX11_has3_1 : decode cX11_has3 1 = .ok (.aload_n 0, 1) := by decide +kernel
theorem dX11_has3_2 : decode cX11_has3 2 = .ok (.getfield 180, 3) := by decide +kernel
theorem dX11_has3_5 : decode cX11_has3 5 = .ok (.iload_n 1, 1) := by decide +kernel
theorem dX11_has3_6 : decode cX11_has3 6 = .ok (.iadd, 1) := by decide +kernel
theorem dX11_has3_7 : decode cX11_has3 7 = .ok (.invokevirtual 183, 3) := by decide +kernel
theorem dX11_has3_10 : decode cX11_has3 10 = .ok (.iload_n 2, 1) := by decide +kernel
theorem dX11_has3_11 : decode cX11_has3 11 = .ok (.if_icmp .ne 40, 3) := by decide +kernel
theorem dX11_has3_14 : decode cX11_has3 14 = .ok (.aload_n 0, 1) := by decide +kernel
theorem dX11_has3_15 : decode cX11_has3 15 = .ok (.aload_n 0, 1) := by decide +kernel
theorem dX11_has3_16 : decode cX11_has3 16 = .ok (.getfield 180, 3) := by decide +kernel
theorem dX11_has3_19 : decode cX11_has3 19 = .ok (.iload_n 1, 1) := by decide +kernel
theorem dX11_has3_20 : decode cX11_has3 20 = .ok (.iadd, 1) := by decide +kernel
theorem dX11_has3_21 : decode cX11_has3 21 = .ok (.iconst 1, 1) := by decide +kernel
theorem dX11_has3_22 : decode cX11_has3 22 = .ok (.iadd, 1) := by decide +kernel
theorem dX11_has3_23 : decode cX11_has3 23 = .ok (.invokevirtual 183, 3) := by decide +kernel
theorem dX11_has3_26 : decode cX11_has3 26 = .ok (.iload_n 3, 1) := by decide +kernel
theorem dX11_has3_27 : decode cX11_has3 27 = .ok (.if_icmp .ne 24, 3) := by decide +kernel
theorem dX11_has3_30 : decode cX11_has3 30 = .ok (.aload_n 0, 1) := by decide +kernel
theorem dX11_has3_31 : decode cX11_has3 31 = .ok (.aload_n 0, 1) := by decide +kernel
theorem dX11_has3_32 : decode cX11_has3 32 = .ok (.getfield 180, 3) := by decide +kernel
theorem dX11_has3_35 : decode cX11_has3 35 = .ok (.iload_n 1, 1) := by decide +kernel
theorem dX11_has3_36 : decode cX11_has3 36 = .ok (.iadd, 1) := by decide +kernel
theorem dX11_has3_37 : decode cX11_has3 37 = .ok (.iconst 2, 1) := by decide +kernel
theorem dX11_has3_38 : decode cX11_has3 38 = .ok (.iadd, 1) := by decide +kernel
theorem dX11_has3_39 : decode cX11_has3 39 = .ok (.invokevirtual 183, 3) := by decide +kernel
theorem dX11_has3_42 : decode cX11_has3 42 = .ok (.iload 4, 2) := by decide +kernel
theorem dX11_has3_44 : decode cX11_has3 44 = .ok (.if_icmp .ne 7, 3) := by decide +kernel
theorem dX11_has3_47 : decode cX11_has3 47 = .ok (.iconst 1, 1) := by decide +kernel
theorem dX11_has3_48 : decode cX11_has3 48 = .ok (.goto 4, 3) := by decide +kernel
theorem dX11_has3_51 : decode cX11_has3 51 = .ok (.iconst 0, 1) := by decide +kernel
theorem dX11_has3_52 : decode cX11_has3 52 = .ok (.ireturn, 1) := by decide +kernel
theorem dX11_isWord_0 : decode cX11_isWord 0 = .ok (.aload_n 0, 1) := by decide +kernel
theorem dX11_isWord_1 : decode cX11_isWord 1 = .ok (.getfield 192, 3) := by decide +kernel
theorem dX11_isWord_4 : decode cX11_isWord 4 = .ok (.iconst 1, 1) := by decide +kernel
theorem dX11_isWord_5 : decode cX11_isWord 5 = .ok (.if_icmp .ne 20, 3) := by decide +kernel
theorem dX11_isWord_8 : decode cX11_isWord 8 = .ok (.aload_n 0, 1) := by decide +kernel
theorem dX11_isWord_9 : decode cX11_isWord 9 = .ok (.getfield 177, 3) := by decide +kernel
theorem dX11_isWord_12 : decode cX11_isWord 12 = .ok (.aload_n 0, 1) := by decide +kernel
theorem dX11_isWord_13 : decode cX11_isWord 13 = .ok (.getfield 180, 3) := by decide +kernel
theorem dX11_isWord_16 : decode cX11_isWord 16 = .ok (.isub, 1) := by decide +kernel
theorem dX11_isWord_17 : decode cX11_isWord 17 = .ok (.iload_n 1, 1) := by decide +kernel
theorem dX11_isWord_18 : decode cX11_isWord 18 = .ok (.if_icmp .ne 7, 3) := by decide +kernel
theorem dX11_isWord_21 : decode cX11_isWord 21 = .ok (.iconst 1, 1) := by decide +kernel
theorem dX11_isWord_22 : decode cX11_isWord 22 = .ok (.goto 4, 3) := by decide +kernel
theorem dX11_isWord_25 : decode cX11_isWord 25 = .ok (.iconst 0, 1) := by decide +kernel
theorem dX11_isWord_26 : decode cX11_isWord 26 = .ok (.ireturn, 1) := by decide +kernel
theorem dX11_fails_0 : decode cX11_fails 0 = .ok (.aload_n 0, 1) := by decide +kernel
theorem dX11_fails_1 : decode cX11_fails 1 = .ok (.aload_n 0, 1) := by decide +kernel
theorem dX11_fails_2 : decode cX11_fails 2 = .ok (.getfield 180, 3) := by decide +kernel
theorem dX11_fails_5 : decode cX11_fails 5 = .ok (.putfield 198, 3) := by decide +kernel
theorem dX11_fails_8 : decode cX11_fails 8 = .ok (.iconst 0, 1) := by decide +kernel
theorem dX11_fails_9 : decode cX11_fails 9 = .ok (.ireturn, 1) := by decide +kernel
theorem dX11_isFour_0 : decode cX11_isFour 0 = .ok (.aload_n 0, 1) := by decide +kernel
theorem dX11_isFour_1 : decode cX11_isFour 1 = .ok (.iconst 4, 1) := by decide +kernel
theorem dX11_isFour_2 : decode cX11_isFour 2 = .ok (.invokevirtual 201, 3) := by decide +kernel
theorem dX11_isFour_5 : decode cX11_isFour 5 = .ok (.ifCond .eq 30, 3) := by decide +kernel
theorem dX11_isFour_8 : decode cX11_isFour 8 = .ok (.aload_n 0, 1) := by decide +kernel
theorem dX11_isFour_9 : decode cX11_isFour 9 = .ok (.iconst 0, 1) := by decide +kernel
theorem dX11_isFour_10 : decode cX11_isFour 10 = .ok (.iload_n 1, 1) := by decide +kernel
theorem dX11_isFour_11 : decode cX11_isFour 11 = .ok (.iload_n 2, 1) := by decide +kernel
theorem dX11_isFour_12 : decode cX11_isFour 12 = .ok (.iload_n 3, 1) := by decide +kernel
theorem dX11_isFour_13 : decode cX11_isFour 13 = .ok (.invokevirtual 204, 3) := by decide +kernel
theorem dX11_isFour_16 : decode cX11_isFour 16 = .ok (.ifCond .eq 19, 3) := by decide +kernel
theorem dX11_isFour_19 : decode cX11_isFour 19 = .ok (.aload_n 0, 1) := by decide +kernel
theorem dX11_isFour_20 : decode cX11_isFour 20 = .ok (.iconst 1, 1) := by decide +kernel
theorem dX11_isFour_21 : decode cX11_isFour 21 = .ok (.iload_n 2, 1) := by decide +kernel
theorem dX11_isFour_22 : decode cX11_isFour 22 = .ok (.iload_n 3, 1) := by decide +kernel
theorem dX11_isFour_23 : decode cX11_isFour 23 = .ok (.iload 4, 2) := by decide +kernel
theorem dX11_isFour_25 : decode cX11_isFour 25 = .ok (.invokevirtual 204, 3) := by decide +kernel
theorem dX11_isFour_28 : decode cX11_isFour 28 = .ok (.ifCond .eq 7, 3) := by decide +kernel
theorem dX11_isFour_31 : decode cX11_isFour 31 = .ok (.iconst 1, 1) := by decide +kernel
theorem dX11_isFour_32 : decode cX11_isFour 32 = .ok (.goto 4, 3) := by decide +kernel
theorem dX11_isFour_35 : decode cX11_isFour 35 = .ok (.iconst 0, 1) := by decide +kernel
theorem dX11_isFour_36 : decode cX11_isFour 36 = .ok (.ireturn, 1) := by decide +kernel
theorem dX11_isFive_0 : decode cX11_isFive 0 = .ok (.aload_n 0, 1) := by decide +kernel
theorem dX11_isFive_1 : decode cX11_isFive 1 = .ok (.iconst 5, 1) := by decide +kernel
theorem dX11_isFive_2 : decode cX11_isFive 2 = .ok (.invokevirtual 201, 3) := by decide +kernel
theorem dX11_isFive_5 : decode cX11_isFive 5 = .ok (.ifCond .eq 31, 3) := by decide +kernel
theorem dX11_isFive_8 : decode cX11_isFive 8 = .ok (.aload_n 0, 1) := by decide +kernel
theorem dX11_isFive_9 : decode cX11_isFive 9 = .ok (.iconst 0, 1) := by decide +kernel
theorem dX11_isFive_10 : decode cX11_isFive 10 = .ok (.iload_n 1, 1) := by decide +kernel
theorem dX11_isFive_11 : decode cX11_isFive 11 = .ok (.iload_n 2, 1) := by decide +kernel
theorem dX11_isFive_12 : decode cX11_isFive 12 = .ok (.iload_n 3, 1) := by decide +kernel
theorem dX11_isFive_13 : decode cX11_isFive 13 = .ok (.invokevirtual 204, 3) := by decide +kernel
theorem dX11_isFive_16 : decode cX11_isFive 16 = .ok (.ifCond .eq 20, 3) := by decide +kernel
theorem dX11_isFive_19 : decode cX11_isFive 19 = .ok (.aload_n 0, 1) := by decide +kernel
theorem dX11_isFive_20 : decode cX11_isFive 20 = .ok (.iconst 2, 1) := by decide +kernel
theorem dX11_isFive_21 : decode cX11_isFive 21 = .ok (.iload_n 3, 1) := by decide +kernel
theorem dX11_isFive_22 : decode cX11_isFive 22 = .ok (.iload 4, 2) := by decide +kernel
theorem dX11_isFive_24 : decode cX11_isFive 24 = .ok (.iload 5, 2) := by decide +kernel
theorem dX11_isFive_26 : decode cX11_isFive 26 = .ok (.invokevirtual 204, 3) := by decide +kernel
theorem dX11_isFive_29 : decode cX11_isFive 29 = .ok (.ifCond .eq 7, 3) := by decide +kernel
theorem dX11_isFive_32 : decode cX11_isFive 32 = .ok (.iconst 1, 1) := by decide +kernel
theorem dX11_isFive_33 : decode cX11_isFive 33 = .ok (.goto 4, 3) := by decide +kernel
theorem dX11_isFive_36 : decode cX11_isFive 36 = .ok (.iconst 0, 1) := by decide +kernel
theorem dX11_isFive_37 : decode cX11_isFive 37 = .ok (.ireturn, 1) := by decide +kernel
theorem dX11_isSix_0 : decode cX11_isSix 0 = .ok (.aload_n 0, 1) := by decide +kernel
theorem dX11_isSix_1 : decode cX11_isSix 1 = .ok (.bipush 6, 2) := by decide +kernel
theorem dX11_isSix_3 : decode cX11_isSix 3 = .ok (.invokevirtual 201, 3) := by decide +kernel
theorem dX11_isSix_6 : decode cX11_isSix 6 = .ok (.ifCond .eq 32, 3) := by decide +kernel
theorem dX11_isSix_9 : decode cX11_isSix 9 = .ok (.aload_n 0, 1) := by decide +kernel
theorem dX11_isSix_10 : decode cX11_isSix 10 = .ok (.iconst 0, 1) := by decide +kernel
theorem dX11_isSix_11 : decode cX11_isSix 11 = .ok (.iload_n 1, 1) := by decide +kernel
theorem dX11_isSix_12 : decode cX11_isSix 12 = .ok (.iload_n 2, 1) := by decide +kernel
theorem dX11_isSix_13 : decode cX11_isSix 13 = .ok (.iload_n 3, 1) := by decide +kernel
theorem dX11_isSix_14 : decode cX11_isSix 14 = .ok (.invokevirtual 204, 3) := by decide +kernel
theorem dX11_isSix_17 : decode cX11_isSix 17 = .ok (.ifCond .eq 21, 3) := by decide +kernel
theorem dX11_isSix_20 : decode cX11_isSix 20 = .ok (.aload_n 0, 1) := by decide +kernel
theorem dX11_isSix_21 : decode cX11_isSix 21 = .ok (.iconst 3, 1) := by decide +kernel
theorem dX11_isSix_22 : decode cX11_isSix 22 = .ok (.iload 4, 2) := by decide +kernel
theorem dX11_isSix_24 : decode cX11_isSix 24 = .ok (.iload 5, 2) := by decide +kernel
theorem dX11_isSix_26 : decode cX11_isSix 26 = .ok (.iload 6, 2) := by decide +kernel
theorem dX11_isSix_28 : decode cX11_isSix 28 = .ok (.invokevirtual 204, 3) := by decide +kernel
theorem dX11_isSix_31 : decode cX11_isSix 31 = .ok (.ifCond .eq 7, 3) := by decide +kernel
theorem dX11_isSix_34 : decode cX11_isSix 34 = .ok (.iconst 1, 1) := by decide +kernel
theorem dX11_isSix_35 : decode cX11_isSix 35 = .ok (.goto 4, 3) := by decide +kernel
theorem dX11_isSix_38 : decode cX11_isSix 38 = .ok (.iconst 0, 1) := by decide +kernel
theorem dX11_isSix_39 : decode cX11_isSix 39 = .ok (.ireturn, 1) := by decide +kernel
theorem dX11_kindHere_0 : decode cX11_kindHere 0 = .ok (.aload_n 0, 1) := by decide +kernel
theorem dX11_kindHere_1 : decode cX11_kindHere 1 = .ok (.bipush 112, 2) := by decide +kernel
theorem dX11_kindHere_3 : decode cX11_kindHere 3 = .ok (.bipush 101, 2) := by decide +kernel
theorem dX11_kindHere_5 : decode cX11_kindHere 5 = .ok (.bipush 114, 2) := by decide +kernel
theorem dX11_kindHere_7 : decode cX11_kindHere 7 = .ok (.bipush 115, 2) := by decide +kernel
theorem dX11_kindHere_9 : decode cX11_kindHere 9 = .ok (.bipush 111, 2) := by decide +kernel
theorem dX11_kindHere_11 : decode cX11_kindHere 11 = .ok (.bipush 110, 2) := by decide +kernel
theorem dX11_kindHere_13 : decode cX11_kindHere 13 = .ok (.invokevirtual 208, 3) := by decide +kernel
theorem dX11_kindHere_16 : decode cX11_kindHere 16 = .ok (.ifCond .eq 5, 3) := by decide +kernel
theorem dX11_kindHere_19 : decode cX11_kindHere 19 = .ok (.iconst 0, 1) := by decide +kernel
theorem dX11_kindHere_20 : decode cX11_kindHere 20 = .ok (.ireturn, 1) := by decide +kernel
theorem dX11_kindHere_21 : decode cX11_kindHere 21 = .ok (.aload_n 0, 1) := by decide +kernel
theorem dX11_kindHere_22 : decode cX11_kindHere 22 = .ok (.bipush 97, 2) := by decide +kernel
theorem dX11_kindHere_24 : decode cX11_kindHere 24 = .ok (.bipush 99, 2) := by decide +kernel
theorem dX11_kindHere_26 : decode cX11_kindHere 26 = .ok (.bipush 116, 2) := by decide +kernel
theorem dX11_kindHere_28 : decode cX11_kindHere 28 = .ok (.bipush 111, 2) := by decide +kernel
theorem dX11_kindHere_30 : decode cX11_kindHere 30 = .ok (.bipush 114, 2) := by decide +kernel
theorem dX11_kindHere_32 : decode cX11_kindHere 32 = .ok (.invokevirtual 212, 3) := by decide +kernel
theorem dX11_kindHere_35 : decode cX11_kindHere 35 = .ok (.ifCond .eq 5, 3) := by decide +kernel
theorem dX11_kindHere_38 : decode cX11_kindHere 38 = .ok (.iconst 1, 1) := by decide +kernel
theorem dX11_kindHere_39 : decode cX11_kindHere 39 = .ok (.ireturn, 1) := by decide +kernel
theorem dX11_kindHere_40 : decode cX11_kindHere 40 = .ok (.aload_n 0, 1) := by decide +kernel
theorem dX11_kindHere_41 : decode cX11_kindHere 41 = .ok (.bipush 7, 2) := by decide +kernel
theorem dX11_kindHere_43 : decode cX11_kindHere 43 = .ok (.invokevirtual 201, 3) := by decide +kernel
theorem dX11_kindHere_46 : decode cX11_kindHere 46 = .ok (.ifCond .eq 47, 3) := by decide +kernel
theorem dX11_kindHere_49 : decode cX11_kindHere 49 = .ok (.aload_n 0, 1) := by decide +kernel
theorem dX11_kindHere_50 : decode cX11_kindHere 50 = .ok (.iconst 0, 1) := by decide +kernel
theorem dX11_kindHere_51 : decode cX11_kindHere 51 = .ok (.bipush 103, 2) := by decide +kernel
theorem dX11_kindHere_53 : decode cX11_kindHere 53 = .ok (.bipush 101, 2) := by decide +kernel
theorem dX11_kindHere_55 : decode cX11_kindHere 55 = .ok (.bipush 110, 2) := by decide +kernel
theorem dX11_kindHere_57 : decode cX11_kindHere 57 = .ok (.invokevirtual 204, 3) := by decide +kernel
theorem dX11_kindHere_60 : decode cX11_kindHere 60 = .ok (.ifCond .eq 33, 3) := by decide +kernel
theorem dX11_kindHere_63 : decode cX11_kindHere 63 = .ok (.aload_n 0, 1) := by decide +kernel
theorem dX11_kindHere_64 : decode cX11_kindHere 64 = .ok (.iconst 3, 1) := by decide +kernel
theorem dX11_kindHere_65 : decode cX11_kindHere 65 = .ok (.bipush 101, 2) := by decide +kernel
theorem dX11_kindHere_67 : decode cX11_kindHere 67 = .ok (.bipush 114, 2) := by decide +kernel
theorem dX11_kindHere_69 : decode cX11_kindHere 69 = .ok (.bipush 97, 2) := by decide +kernel
theorem dX11_kindHere_71 : decode cX11_kindHere 71 = .ok (.invokevirtual 204, 3) := by decide +kernel
theorem dX11_kindHere_74 : decode cX11_kindHere 74 = .ok (.ifCond .eq 19, 3) := by decide +kernel
theorem dX11_kindHere_77 : decode cX11_kindHere 77 = .ok (.aload_n 0, 1) := by decide +kernel
theorem dX11_kindHere_78 : decode cX11_kindHere 78 = .ok (.iconst 4, 1) := by decide +kernel
theorem dX11_kindHere_79 : decode cX11_kindHere 79 = .ok (.bipush 114, 2) := by decide +kernel
theorem dX11_kindHere_81 : decode cX11_kindHere 81 = .ok (.bipush 97, 2) := by decide +kernel
theorem dX11_kindHere_83 : decode cX11_kindHere 83 = .ok (.bipush 108, 2) := by decide +kernel
theorem dX11_kindHere_85 : decode cX11_kindHere 85 = .ok (.invokevirtual 204, 3) := by decide +kernel
theorem dX11_kindHere_88 : decode cX11_kindHere 88 = .ok (.ifCond .eq 5, 3) := by decide +kernel
theorem dX11_kindHere_91 : decode cX11_kindHere 91 = .ok (.iconst 2, 1) := by decide +kernel
theorem dX11_kindHere_92 : decode cX11_kindHere 92 = .ok (.ireturn, 1) := by decide +kernel
theorem dX11_kindHere_93 : decode cX11_kindHere 93 = .ok (.aload_n 0, 1) := by decide +kernel
theorem dX11_kindHere_94 : decode cX11_kindHere 94 = .ok (.bipush 119, 2) := by decide +kernel
theorem dX11_kindHere_96 : decode cX11_kindHere 96 = .ok (.bipush 105, 2) := by decide +kernel
theorem dX11_kindHere_98 : decode cX11_kindHere 98 = .ok (.bipush 102, 2) := by decide +kernel
theorem dX11_kindHere_100 : decode cX11_kindHere 100 = .ok (.bipush 101, 2) := by decide +kernel
theorem dX11_kindHere_102 : decode cX11_kindHere 102 = .ok (.invokevirtual 216, 3) := by decide +kernel
theorem dX11_kindHere_105 : decode cX11_kindHere 105 = .ok (.ifCond .eq 5, 3) := by decide +kernel
theorem dX11_kindHere_108 : decode cX11_kindHere 108 = .ok (.iconst 3, 1) := by decide +kernel
theorem dX11_kindHere_109 : decode cX11_kindHere 109 = .ok (.ireturn, 1) := by decide +kernel
theorem dX11_kindHere_110 : decode cX11_kindHere 110 = .ok (.aload_n 0, 1) := by decide +kernel
theorem dX11_kindHere_111 : decode cX11_kindHere 111 = .ok (.bipush 108, 2) := by decide +kernel
theorem dX11_kindHere_113 : decode cX11_kindHere 113 = .ok (.bipush 111, 2) := by decide +kernel
theorem dX11_kindHere_115 : decode cX11_kindHere 115 = .ok (.bipush 118, 2) := by decide +kernel
theorem dX11_kindHere_117 : decode cX11_kindHere 117 = .ok (.bipush 101, 2) := by decide +kernel
theorem dX11_kindHere_119 : decode cX11_kindHere 119 = .ok (.bipush 114, 2) := by decide +kernel
theorem dX11_kindHere_121 : decode cX11_kindHere 121 = .ok (.invokevirtual 212, 3) := by decide +kernel
theorem dX11_kindHere_124 : decode cX11_kindHere 124 = .ok (.ifCond .eq 5, 3) := by decide +kernel
theorem dX11_kindHere_127 : decode cX11_kindHere 127 = .ok (.iconst 4, 1) := by decide +kernel
theorem dX11_kindHere_128 : decode cX11_kindHere 128 = .ok (.ireturn, 1) := by decide +kernel
theorem dX11_kindHere_129 : decode cX11_kindHere 129 = .ok (.aload_n 0, 1) := by decide +kernel
theorem dX11_kindHere_130 : decode cX11_kindHere 130 = .ok (.iconst 3, 1) := by decide +kernel
theorem dX11_kindHere_131 : decode cX11_kindHere 131 = .ok (.invokevirtual 201, 3) := by decide +kernel
theorem dX11_kindHere_134 : decode cX11_kindHere 134 = .ok (.ifCond .eq 21, 3) := by decide +kernel
theorem dX11_kindHere_137 : decode cX11_kindHere 137 = .ok (.aload_n 0, 1) := by decide +kernel
theorem dX11_kindHere_138 : decode cX11_kindHere 138 = .ok (.iconst 0, 1) := by decide +kernel
theorem dX11_kindHere_139 : decode cX11_kindHere 139 = .ok (.bipush 115, 2) := by decide +kernel
theorem dX11_kindHere_141 : decode cX11_kindHere 141 = .ok (.bipush 112, 2) := by decide +kernel
theorem dX11_kindHere_143 : decode cX11_kindHere 143 = .ok (.bipush 121, 2) := by decide +kernel
theorem dX11_kindHere_145 : decode cX11_kindHere 145 = .ok (.invokevirtual 204, 3) := by decide +kernel
theorem dX11_kindHere_148 : decode cX11_kindHere 148 = .ok (.ifCond .eq 7, 3) := by decide +kernel
theorem dX11_kindHere_151 : decode cX11_kindHere 151 = .ok (.iconst 5, 1) := by decide +kernel
theorem dX11_kindHere_152 : decode cX11_kindHere 152 = .ok (.goto 4, 3) := by decide +kernel
theorem dX11_kindHere_155 : decode cX11_kindHere 155 = .ok (.iconst (-1), 1) := by decide +kernel
theorem dX11_kindHere_156 : decode cX11_kindHere 156 = .ok (.ireturn, 1) := by decide +kernel
theorem dX11_isNumber_0 : decode cX11_isNumber 0 = .ok (.aload_n 0, 1) := by decide +kernel
theorem dX11_isNumber_1 : decode cX11_isNumber 1 = .ok (.getfield 192, 3) := by decide +kernel
theorem dX11_isNumber_4 : decode cX11_isNumber 4 = .ok (.iconst 2, 1) := by decide +kernel
theorem dX11_isNumber_5 : decode cX11_isNumber 5 = .ok (.if_icmp .ne 18, 3) := by decide +kernel
theorem dX11_isNumber_8 : decode cX11_isNumber 8 = .ok (.aload_n 0, 1) := by decide +kernel
theorem dX11_isNumber_9 : decode cX11_isNumber 9 = .ok (.getfield 195, 3) := by decide +kernel
theorem dX11_isNumber_12 : decode cX11_isNumber 12 = .ok (.i2l, 1) := by decide +kernel
theorem dX11_isNumber_13 : decode cX11_isNumber 13 = .ok (.iload_n 1, 1) := by decide +kernel
theorem dX11_isNumber_14 : decode cX11_isNumber 14 = .ok (.i2l, 1) := by decide +kernel
theorem dX11_isNumber_15 : decode cX11_isNumber 15 = .ok (.iload_n 2, 1) := by decide +kernel
theorem dX11_isNumber_16 : decode cX11_isNumber 16 = .ok (.i2l, 1) := by decide +kernel
theorem dX11_isNumber_17 : decode cX11_isNumber 17 = .ok (.invokestatic 46, 3) := by decide +kernel
theorem dX11_isNumber_20 : decode cX11_isNumber 20 = .ok (.ifCond .ne 10, 3) := by decide +kernel
theorem dX11_isNumber_23 : decode cX11_isNumber 23 = .ok (.aload_n 0, 1) := by decide +kernel
theorem dX11_isNumber_24 : decode cX11_isNumber 24 = .ok (.invokevirtual 219, 3) := by decide +kernel
theorem dX11_isNumber_27 : decode cX11_isNumber 27 = .ok (.ifCond .eq 7, 3) := by decide +kernel
theorem dX11_isNumber_30 : decode cX11_isNumber 30 = .ok (.iconst 1, 1) := by decide +kernel
theorem dX11_isNumber_31 : decode cX11_isNumber 31 = .ok (.goto 4, 3) := by decide +kernel
theorem dX11_isNumber_34 : decode cX11_isNumber 34 = .ok (.iconst 0, 1) := by decide +kernel
theorem dX11_isNumber_35 : decode cX11_isNumber 35 = .ok (.ireturn, 1) := by decide +kernel
theorem dX11_knowsHere_0 : decode cX11_knowsHere 0 = .ok (.iconst 0, 1) := by decide +kernel
theorem dX11_knowsHere_1 : decode cX11_knowsHere 1 = .ok (.istore_n 2, 1) := by decide +kernel
theorem dX11_knowsHere_2 : decode cX11_knowsHere 2 = .ok (.aload_n 0, 1) := by decide +kernel
theorem dX11_knowsHere_3 : decode cX11_knowsHere 3 = .ok (.invokevirtual 222, 3) := by decide +kernel
theorem dX11_knowsHere_6 : decode cX11_knowsHere 6 = .ok (.iload_n 2, 1) := by decide +kernel
theorem dX11_knowsHere_7 : decode cX11_knowsHere 7 = .ok (.ifCond .eq 11, 3) := by decide +kernel
theorem dX11_knowsHere_10 : decode cX11_knowsHere 10 = .ok (.aload_n 0, 1) := by decide +kernel
theorem dX11_knowsHere_11 : decode cX11_knowsHere 11 = .ok (.getfield 192, 3) := by decide +kernel
theorem dX11_knowsHere_14 : decode cX11_knowsHere 14 = .ok (.iconst 2, 1) := by decide +kernel
theorem dX11_knowsHere_15 : decode cX11_knowsHere 15 = .ok (.if_icmp .ne 52, 3) := by decide +kernel
theorem dX11_knowsHere_18 : decode cX11_knowsHere 18 = .ok (.iload_n 2, 1) := by decide +kernel
theorem dX11_knowsHere_19 : decode cX11_knowsHere 19 = .ok (.iconst 4, 1) := by decide +kernel
theorem dX11_knowsHere_20 : decode cX11_knowsHere 20 = .ok (.if_icmp .eq 13, 3) := by decide +kernel
theorem dX11_knowsHere_23 : decode cX11_knowsHere 23 = .ok (.aload_n 0, 1) := by decide +kernel
theorem dX11_knowsHere_24 : decode cX11_knowsHere 24 = .ok (.iconst 0, 1) := by decide +kernel
theorem dX11_knowsHere_25 : decode cX11_knowsHere 25 = .ok (.bipush 9, 2) := by decide +kernel
theorem dX11_knowsHere_27 : decode cX11_knowsHere 27 = .ok (.invokevirtual 225, 3) := by decide +kernel
theorem dX11_knowsHere_30 : decode cX11_knowsHere 30 = .ok (.ifCond .ne 8, 3) := by decide +kernel
theorem dX11_knowsHere_33 : decode cX11_knowsHere 33 = .ok (.aload_n 0, 1) := by decide +kernel
theorem dX11_knowsHere_34 : decode cX11_knowsHere 34 = .ok (.invokevirtual 219, 3) := by decide +kernel
theorem dX11_knowsHere_37 : decode cX11_knowsHere 37 = .ok (.ireturn, 1) := by decide +kernel
theorem dX11_knowsHere_38 : decode cX11_knowsHere 38 = .ok (.aload_n 0, 1) := by decide +kernel
theorem dX11_knowsHere_39 : decode cX11_knowsHere 39 = .ok (.getfield 7, 3) := by decide +kernel
theorem dX11_knowsHere_42 : decode cX11_knowsHere 42 = .ok (.iload_n 1, 1) := by decide +kernel
theorem dX11_knowsHere_43 : decode cX11_knowsHere 43 = .ok (.iconst 1, 1) := by decide +kernel
theorem dX11_knowsHere_44 : decode cX11_knowsHere 44 = .ok (.invokestatic 61, 3) := by decide +kernel
theorem dX11_knowsHere_47 : decode cX11_knowsHere 47 = .ok (.dup2, 1) := by decide +kernel
theorem dX11_knowsHere_48 : decode cX11_knowsHere 48 = .ok (.iaload, 1) := by decide +kernel
theorem dX11_knowsHere_49 : decode cX11_knowsHere 49 = .ok (.iconst 1, 1) := by decide +kernel
theorem dX11_knowsHere_50 : decode cX11_knowsHere 50 = .ok (.aload_n 0, 1) := by decide +kernel
theorem dX11_knowsHere_51 : decode cX11_knowsHere 51 = .ok (.getfield 195, 3) := by decide +kernel
theorem dX11_knowsHere_54 : decode cX11_knowsHere 54 = .ok (.ishl, 1) := by decide +kernel
theorem dX11_knowsHere_55 : decode cX11_knowsHere 55 = .ok (.ior, 1) := by decide +kernel
theorem dX11_knowsHere_56 : decode cX11_knowsHere 56 = .ok (.iastore, 1) := by decide +kernel
theorem dX11_knowsHere_57 : decode cX11_knowsHere 57 = .ok (.aload_n 0, 1) := by decide +kernel
theorem dX11_knowsHere_58 : decode cX11_knowsHere 58 = .ok (.invokevirtual 222, 3) := by decide +kernel
theorem dX11_knowsHere_61 : decode cX11_knowsHere 61 = .ok (.iinc 2 1, 3) := by decide +kernel
theorem dX11_knowsHere_64 : decode cX11_knowsHere 64 = .ok (.goto (-58), 3) := by decide +kernel
theorem dX11_knowsHere_67 : decode cX11_knowsHere 67 = .ok (.iconst 1, 1) := by decide +kernel
theorem dX11_knowsHere_68 : decode cX11_knowsHere 68 = .ok (.ireturn, 1) := by decide +kernel
theorem dX11_personHere_0 : decode cX11_personHere 0 = .ok (.aload_n 0, 1) := by decide +kernel
theorem dX11_personHere_1 : decode cX11_personHere 1 = .ok (.getfield 7, 3) := by decide +kernel
theorem dX11_personHere_4 : decode cX11_personHere 4 = .ok (.iconst 0, 1) := by decide +kernel
theorem dX11_personHere_5 : decode cX11_personHere 5 = .ok (.iaload, 1) := by decide +kernel
theorem dX11_personHere_6 : decode cX11_personHere 6 = .ok (.bipush 8, 2) := by decide +kernel
theorem dX11_personHere_8 : decode cX11_personHere 8 = .ok (.if_icmp .ne 8, 3) := by decide +kernel
theorem dX11_personHere_11 : decode cX11_personHere 11 = .ok (.aload_n 0, 1) := by decide +kernel
theorem dX11_personHere_12 : decode cX11_personHere 12 = .ok (.invokevirtual 219, 3) := by decide +kernel
theorem dX11_personHere_15 : decode cX11_personHere 15 = .ok (.ireturn, 1) := by decide +kernel
theorem dX11_personHere_16 : decode cX11_personHere 16 = .ok (.aload_n 0, 1) := by decide +kernel
theorem dX11_personHere_17 : decode cX11_personHere 17 = .ok (.iload_n 1, 1) := by decide +kernel
theorem dX11_personHere_18 : decode cX11_personHere 18 = .ok (.invokevirtual 67, 3) := by decide +kernel
theorem dX11_personHere_21 : decode cX11_personHere 21 = .ok (.aload_n 0, 1) := by decide +kernel
theorem dX11_personHere_22 : decode cX11_personHere 22 = .ok (.getfield 7, 3) := by decide +kernel
theorem dX11_personHere_25 : decode cX11_personHere 25 = .ok (.iconst 0, 1) := by decide +kernel
theorem dX11_personHere_26 : decode cX11_personHere 26 = .ok (.iaload, 1) := by decide +kernel
theorem dX11_personHere_27 : decode cX11_personHere 27 = .ok (.iconst 1, 1) := by decide +kernel
theorem dX11_personHere_28 : decode cX11_personHere 28 = .ok (.isub, 1) := by decide +kernel
theorem dX11_personHere_29 : decode cX11_personHere 29 = .ok (.istore_n 2, 1) := by decide +kernel
theorem dX11_personHere_30 : decode cX11_personHere 30 = .ok (.aload_n 0, 1) := by decide +kernel
theorem dX11_personHere_31 : decode cX11_personHere 31 = .ok (.invokevirtual 222, 3) := by decide +kernel
theorem dX11_personHere_34 : decode cX11_personHere 34 = .ok (.aload_n 0, 1) := by decide +kernel
theorem dX11_personHere_35 : decode cX11_personHere 35 = .ok (.bipush 107, 2) := by decide +kernel
theorem dX11_personHere_37 : decode cX11_personHere 37 = .ok (.bipush 110, 2) := by decide +kernel
theorem dX11_personHere_39 : decode cX11_personHere 39 = .ok (.bipush 111, 2) := by decide +kernel
theorem dX11_personHere_41 : decode cX11_personHere 41 = .ok (.bipush 119, 2) := by decide +kernel
theorem dX11_personHere_43 : decode cX11_personHere 43 = .ok (.bipush 115, 2) := by decide +kernel
theorem dX11_personHere_45 : decode cX11_personHere 45 = .ok (.invokevirtual 212, 3) := by decide +kernel
theorem dX11_personHere_48 : decode cX11_personHere 48 = .ok (.ifCond .eq 13, 3) := by decide +kernel
theorem dX11_personHere_51 : decode cX11_personHere 51 = .ok (.aload_n 0, 1) := by decide +kernel
theorem dX11_personHere_52 : decode cX11_personHere 52 = .ok (.iload_n 2, 1) := by decide +kernel
theorem dX11_personHere_53 : decode cX11_personHere 53 = .ok (.invokevirtual 228, 3) := by decide +kernel
theorem dX11_personHere_56 : decode cX11_personHere 56 = .ok (.ifCond .ne 5, 3) := by decide +kernel
theorem dX11_personHere_59 : decode cX11_personHere 59 = .ok (.iconst 0, 1) := by decide +kernel
theorem dX11_personHere_60 : decode cX11_personHere 60 = .ok (.ireturn, 1) := by decide +kernel
theorem dX11_personHere_61 : decode cX11_personHere 61 = .ok (.aload_n 0, 1) := by decide +kernel
theorem dX11_personHere_62 : decode cX11_personHere 62 = .ok (.iconst 2, 1) := by decide +kernel
theorem dX11_personHere_63 : decode cX11_personHere 63 = .ok (.invokevirtual 201, 3) := by decide +kernel
theorem dX11_personHere_66 : decode cX11_personHere 66 = .ok (.ifCond .eq 78, 3) := by decide +kernel
theorem dX11_personHere_69 : decode cX11_personHere 69 = .ok (.aload_n 0, 1) := by decide +kernel
theorem dX11_personHere_70 : decode cX11_personHere 70 = .ok (.aload_n 0, 1) := by decide +kernel
theorem dX11_personHere_71 : decode cX11_personHere 71 = .ok (.getfield 180, 3) := by decide +kernel
theorem dX11_personHere_74 : decode cX11_personHere 74 = .ok (.invokevirtual 183, 3) := by decide +kernel
theorem dX11_personHere_77 : decode cX11_personHere 77 = .ok (.bipush 111, 2) := by decide +kernel
theorem dX11_personHere_79 : decode cX11_personHere 79 = .ok (.if_icmp .ne 65, 3) := by decide +kernel
theorem dX11_personHere_82 : decode cX11_personHere 82 = .ok (.aload_n 0, 1) := by decide +kernel
theorem dX11_personHere_83 : decode cX11_personHere 83 = .ok (.aload_n 0, 1) := by decide +kernel
theorem dX11_personHere_84 : decode cX11_personHere 84 = .ok (.getfield 180, 3) := by decide +kernel
theorem dX11_personHere_87 : decode cX11_personHere 87 = .ok (.iconst 1, 1) := by decide +kernel
theorem dX11_personHere_88 : decode cX11_personHere 88 = .ok (.iadd, 1) := by decide +kernel
theorem dX11_personHere_89 : decode cX11_personHere 89 = .ok (.invokevirtual 183, 3) := by decide +kernel
theorem dX11_personHere_92 : decode cX11_personHere 92 = .ok (.bipush 110, 2) := by decide +kernel
theorem dX11_personHere_94 : decode cX11_personHere 94 = .ok (.if_icmp .ne 50, 3) := by decide +kernel
theorem dX11_personHere_97 : decode cX11_personHere 97 = .ok (.aload_n 0, 1) := by decide +kernel
theorem dX11_personHere_98 : decode cX11_personHere 98 = .ok (.invokevirtual 222, 3) := by decide +kernel
theorem dX11_personHere_101 : decode cX11_personHere 101 = .ok (.aload_n 0, 1) := by decide +kernel
theorem dX11_personHere_102 : decode cX11_personHere 102 = .ok (.iconst 0, 1) := by decide +kernel
theorem dX11_personHere_103 : decode cX11_personHere 103 = .ok (.iconst 1, 1) := by decide +kernel
theorem dX11_personHere_104 : decode cX11_personHere 104 = .ok (.invokevirtual 225, 3) := by decide +kernel
theorem dX11_personHere_107 : decode cX11_personHere 107 = .ok (.ifCond .eq 14, 3) := by decide +kernel
theorem dX11_personHere_110 : decode cX11_personHere 110 = .ok (.aload_n 0, 1) := by decide +kernel
theorem dX11_personHere_111 : decode cX11_personHere 111 = .ok (.aload_n 0, 1) := by decide +kernel
theorem dX11_personHere_112 : decode cX11_personHere 112 = .ok (.getfield 195, 3) := by decide +kernel
theorem dX11_personHere_115 : decode cX11_personHere 115 = .ok (.invokevirtual 110, 3) := by decide +kernel
theorem dX11_personHere_118 : decode cX11_personHere 118 = .ok (.ifCond .lt 8, 3) := by decide +kernel
theorem dX11_personHere_121 : decode cX11_personHere 121 = .ok (.aload_n 0, 1) := by decide +kernel
theorem dX11_personHere_122 : decode cX11_personHere 122 = .ok (.invokevirtual 219, 3) := by decide +kernel
theorem dX11_personHere_125 : decode cX11_personHere 125 = .ok (.ireturn, 1) := by decide +kernel
theorem dX11_personHere_126 : decode cX11_personHere 126 = .ok (.aload_n 0, 1) := by decide +kernel
theorem dX11_personHere_127 : decode cX11_personHere 127 = .ok (.getfield 7, 3) := by decide +kernel
theorem dX11_personHere_130 : decode cX11_personHere 130 = .ok (.iload_n 2, 1) := by decide +kernel
theorem dX11_personHere_131 : decode cX11_personHere 131 = .ok (.iconst 3, 1) := by decide +kernel
theorem dX11_personHere_132 : decode cX11_personHere 132 = .ok (.invokestatic 61, 3) := by decide +kernel
theorem dX11_personHere_135 : decode cX11_personHere 135 = .ok (.aload_n 0, 1) := by decide +kernel
theorem dX11_personHere_136 : decode cX11_personHere 136 = .ok (.getfield 195, 3) := by decide +kernel
theorem dX11_personHere_139 : decode cX11_personHere 139 = .ok (.iastore, 1) := by decide +kernel
theorem dX11_personHere_140 : decode cX11_personHere 140 = .ok (.aload_n 0, 1) := by decide +kernel
theorem dX11_personHere_141 : decode cX11_personHere 141 = .ok (.invokevirtual 222, 3) := by decide +kernel
theorem dX11_personHere_144 : decode cX11_personHere 144 = .ok (.iconst 1, 1) := by decide +kernel
theorem dX11_personHere_145 : decode cX11_personHere 145 = .ok (.ireturn, 1) := by decide +kernel
theorem dX11_secretHere_0 : decode cX11_secretHere 0 = .ok (.aload_n 0, 1) := by decide +kernel
theorem dX11_secretHere_1 : decode cX11_secretHere 1 = .ok (.invokevirtual 222, 3) := by decide +kernel
theorem dX11_secretHere_4 : decode cX11_secretHere 4 = .ok (.aload_n 0, 1) := by decide +kernel
theorem dX11_secretHere_5 : decode cX11_secretHere 5 = .ok (.iconst 0, 1) := by decide +kernel
theorem dX11_secretHere_6 : decode cX11_secretHere 6 = .ok (.bipush 9, 2) := by decide +kernel
theorem dX11_secretHere_8 : decode cX11_secretHere 8 = .ok (.invokevirtual 225, 3) := by decide +kernel
theorem dX11_secretHere_11 : decode cX11_secretHere 11 = .ok (.ifCond .ne 5, 3) := by decide +kernel
theorem dX11_secretHere_14 : decode cX11_secretHere 14 = .ok (.iconst 0, 1) := by decide +kernel
theorem dX11_secretHere_15 : decode cX11_secretHere 15 = .ok (.ireturn, 1) := by decide +kernel
theorem dX11_secretHere_16 : decode cX11_secretHere 16 = .ok (.aload_n 0, 1) := by decide +kernel
theorem dX11_secretHere_17 : decode cX11_secretHere 17 = .ok (.getfield 7, 3) := by decide +kernel
theorem dX11_secretHere_20 : decode cX11_secretHere 20 = .ok (.iconst 2, 1) := by decide +kernel
theorem dX11_secretHere_21 : decode cX11_secretHere 21 = .ok (.iload_n 1, 1) := by decide +kernel
theorem dX11_secretHere_22 : decode cX11_secretHere 22 = .ok (.ifCond .eq 19, 3) := by decide +kernel
theorem dX11_secretHere_25 : decode cX11_secretHere 25 = .ok (.aload_n 0, 1) := by decide +kernel
theorem dX11_secretHere_26 : decode cX11_secretHere 26 = .ok (.getfield 7, 3) := by decide +kernel
theorem dX11_secretHere_29 : decode cX11_secretHere 29 = .ok (.iconst 2, 1) := by decide +kernel
theorem dX11_secretHere_30 : decode cX11_secretHere 30 = .ok (.iaload, 1) := by decide +kernel
theorem dX11_secretHere_31 : decode cX11_secretHere 31 = .ok (.iconst 1, 1) := by decide +kernel
theorem dX11_secretHere_32 : decode cX11_secretHere 32 = .ok (.aload_n 0, 1) := by decide +kernel
theorem dX11_secretHere_33 : decode cX11_secretHere 33 = .ok (.getfield 195, 3) := by decide +kernel
theorem dX11_secretHere_36 : decode cX11_secretHere 36 = .ok (.ishl, 1) := by decide +kernel
theorem dX11_secretHere_37 : decode cX11_secretHere 37 = .ok (.ior, 1) := by decide +kernel
theorem dX11_secretHere_38 : decode cX11_secretHere 38 = .ok (.goto 18, 3) := by decide +kernel
theorem dX11_secretHere_41 : decode cX11_secretHere 41 = .ok (.aload_n 0, 1) := by decide +kernel
theorem dX11_secretHere_42 : decode cX11_secretHere 42 = .ok (.getfield 7, 3) := by decide +kernel
theorem dX11_secretHere_45 : decode cX11_secretHere 45 = .ok (.iconst 2, 1) := by decide +kernel
theorem dX11_secretHere_46 : decode cX11_secretHere 46 = .ok (.iaload, 1) := by decide +kernel
theorem dX11_secretHere_47 : decode cX11_secretHere 47 = .ok (.iconst 1, 1) := by decide +kernel
theorem dX11_secretHere_48 : decode cX11_secretHere 48 = .ok (.aload_n 0, 1) := by decide +kernel
theorem dX11_secretHere_49 : decode cX11_secretHere 49 = .ok (.getfield 195, 3) := by decide +kernel
theorem dX11_secretHere_52 : decode cX11_secretHere 52 = .ok (.ishl, 1) := by decide +kernel
theorem dX11_secretHere_53 : decode cX11_secretHere 53 = .ok (.iconst (-1), 1) := by decide +kernel
theorem dX11_secretHere_54 : decode cX11_secretHere 54 = .ok (.ixor, 1) := by decide +kernel
theorem dX11_secretHere_55 : decode cX11_secretHere 55 = .ok (.iand, 1) := by decide +kernel
theorem dX11_secretHere_56 : decode cX11_secretHere 56 = .ok (.iastore, 1) := by decide +kernel
theorem dX11_secretHere_57 : decode cX11_secretHere 57 = .ok (.aload_n 0, 1) := by decide +kernel
theorem dX11_secretHere_58 : decode cX11_secretHere 58 = .ok (.invokevirtual 222, 3) := by decide +kernel
theorem dX11_secretHere_61 : decode cX11_secretHere 61 = .ok (.iconst 1, 1) := by decide +kernel
theorem dX11_secretHere_62 : decode cX11_secretHere 62 = .ok (.ireturn, 1) := by decide +kernel
theorem dX11_itemHere_0 : decode cX11_itemHere 0 = .ok (.aload_n 0, 1) := by decide +kernel
theorem dX11_itemHere_1 : decode cX11_itemHere 1 = .ok (.invokevirtual 231, 3) := by decide +kernel
theorem dX11_itemHere_4 : decode cX11_itemHere 4 = .ok (.istore_n 1, 1) := by decide +kernel
theorem dX11_itemHere_5 : decode cX11_itemHere 5 = .ok (.iload_n 1, 1) := by decide +kernel
theorem dX11_itemHere_6 : decode cX11_itemHere 6 = .ok (.ifCond .lt 9, 3) := by decide +kernel
theorem dX11_itemHere_9 : decode cX11_itemHere 9 = .ok (.aload_n 0, 1) := by decide +kernel
theorem dX11_itemHere_10 : decode cX11_itemHere 10 = .ok (.iload_n 1, 1) := by decide +kernel
theorem dX11_itemHere_11 : decode cX11_itemHere 11 = .ok (.invokevirtual 234, 3) := by decide +kernel
theorem dX11_itemHere_14 : decode cX11_itemHere 14 = .ok (.ireturn, 1) := by decide +kernel
theorem dX11_itemHere_15 : decode cX11_itemHere 15 = .ok (.aload_n 0, 1) := by decide +kernel
theorem dX11_itemHere_16 : decode cX11_itemHere 16 = .ok (.bipush 115, 2) := by decide +kernel
theorem dX11_itemHere_18 : decode cX11_itemHere 18 = .ok (.bipush 104, 2) := by decide +kernel
theorem dX11_itemHere_20 : decode cX11_itemHere 20 = .ok (.bipush 97, 2) := by decide +kernel
theorem dX11_itemHere_22 : decode cX11_itemHere 22 = .ok (.bipush 109, 2) := by decide +kernel
theorem dX11_itemHere_24 : decode cX11_itemHere 24 = .ok (.invokevirtual 216, 3) := by decide +kernel
theorem dX11_itemHere_27 : decode cX11_itemHere 27 = .ok (.istore_n 2, 1) := by decide +kernel
theorem dX11_itemHere_28 : decode cX11_itemHere 28 = .ok (.iload_n 2, 1) := by decide +kernel
theorem dX11_itemHere_29 : decode cX11_itemHere 29 = .ok (.ifCond .ne 18, 3) := by decide +kernel
theorem dX11_itemHere_32 : decode cX11_itemHere 32 = .ok (.aload_n 0, 1) := by decide +kernel
theorem dX11_itemHere_33 : decode cX11_itemHere 33 = .ok (.bipush 116, 2) := by decide +kernel
theorem dX11_itemHere_35 : decode cX11_itemHere 35 = .ok (.bipush 114, 2) := by decide +kernel
theorem dX11_itemHere_37 : decode cX11_itemHere 37 = .ok (.bipush 117, 2) := by decide +kernel
theorem dX11_itemHere_39 : decode cX11_itemHere 39 = .ok (.bipush 101, 2) := by decide +kernel
theorem dX11_itemHere_41 : decode cX11_itemHere 41 = .ok (.invokevirtual 216, 3) := by decide +kernel
theorem dX11_itemHere_44 : decode cX11_itemHere 44 = .ok (.ifCond .eq 11, 3) := by decide +kernel
theorem dX11_itemHere_47 : decode cX11_itemHere 47 = .ok (.aload_n 0, 1) := by decide +kernel
theorem dX11_itemHere_48 : decode cX11_itemHere 48 = .ok (.iload_n 2, 1) := by decide +kernel
theorem dX11_itemHere_49 : decode cX11_itemHere 49 = .ok (.invokevirtual 237, 3) := by decide +kernel
theorem dX11_itemHere_52 : decode cX11_itemHere 52 = .ok (.goto 7, 3) := by decide +kernel
theorem dX11_itemHere_55 : decode cX11_itemHere 55 = .ok (.aload_n 0, 1) := by decide +kernel
theorem dX11_itemHere_56 : decode cX11_itemHere 56 = .ok (.invokevirtual 219, 3) := by decide +kernel
theorem dX11_itemHere_59 : decode cX11_itemHere 59 = .ok (.ireturn, 1) := by decide +kernel
theorem dX11_park_0 : decode cX11_park 0 = .ok (.aload_n 0, 1) := by decide +kernel
theorem dX11_park_1 : decode cX11_park 1 = .ok (.getfield 7, 3) := by decide +kernel
theorem dX11_park_4 : decode cX11_park 4 = .ok (.aload_n 0, 1) := by decide +kernel
theorem dX11_park_5 : decode cX11_park 5 = .ok (.getfield 16, 3) := by decide +kernel
theorem dX11_park_8 : decode cX11_park 8 = .ok (.invokestatic 151, 3) := by decide +kernel
theorem dX11_park_11 : decode cX11_park 11 = .ok (.aload_n 0, 1) := by decide +kernel
theorem dX11_park_12 : decode cX11_park 12 = .ok (.iconst 0, 1) := by decide +kernel
theorem dX11_park_13 : decode cX11_park 13 = .ok (.putfield 177, 3) := by decide +kernel
theorem dX11_park_16 : decode cX11_park 16 = .ok (.aload_n 0, 1) := by decide +kernel
theorem dX11_park_17 : decode cX11_park 17 = .ok (.invokevirtual 222, 3) := by decide +kernel
theorem dX11_park_20 : decode cX11_park 20 = .ok (.iconst 1, 1) := by decide +kernel
theorem dX11_park_21 : decode cX11_park 21 = .ok (.istore_n 1, 1) := by decide +kernel
theorem dX11_park_22 : decode cX11_park 22 = .ok (.aload_n 0, 1) := by decide +kernel
theorem dX11_park_23 : decode cX11_park 23 = .ok (.invokevirtual 241, 3) := by decide +kernel
theorem dX11_park_26 : decode cX11_park 26 = .ok (.istore_n 2, 1) := by decide +kernel
theorem dX11_park_27 : decode cX11_park 27 = .ok (.iload_n 2, 1) := by decide +kernel
theorem dX11_park_28 : decode cX11_park 28 = .ok (.ifCond .eq 26, 3) := by decide +kernel
theorem dX11_park_31 : decode cX11_park 31 = .ok (.aload_n 0, 1) := by decide +kernel
theorem dX11_park_32 : decode cX11_park 32 = .ok (.getfield 192, 3) := by decide +kernel
theorem dX11_park_35 : decode cX11_park 35 = .ok (.iconst 3, 1) := by decide +kernel
theorem dX11_park_36 : decode cX11_park 36 = .ok (.if_icmp .ne 18, 3) := by decide +kernel
theorem dX11_park_39 : decode cX11_park 39 = .ok (.aload_n 0, 1) := by decide +kernel
theorem dX11_park_40 : decode cX11_park 40 = .ok (.invokevirtual 222, 3) := by decide +kernel
theorem dX11_park_43 : decode cX11_park 43 = .ok (.aload_n 0, 1) := by decide +kernel
theorem dX11_park_44 : decode cX11_park 44 = .ok (.invokevirtual 241, 3) := by decide +kernel
theorem dX11_park_47 : decode cX11_park 47 = .ok (.istore_n 2, 1) := by decide +kernel
theorem dX11_park_48 : decode cX11_park 48 = .ok (.iinc 1 1, 3) := by decide +kernel
theorem dX11_park_51 : decode cX11_park 51 = .ok (.goto (-24), 3) := by decide +kernel
theorem dX11_park_54 : decode cX11_park 54 = .ok (.iload_n 2, 1) := by decide +kernel
theorem dX11_park_55 : decode cX11_park 55 = .ok (.ifCond .eq 21, 3) := by decide +kernel
theorem dX11_park_58 : decode cX11_park 58 = .ok (.aload_n 0, 1) := by decide +kernel
theorem dX11_park_59 : decode cX11_park 59 = .ok (.getfield 192, 3) := by decide +kernel
theorem dX11_park_62 : decode cX11_park 62 = .ok (.ifCond .eq 10, 3) := by decide +kernel
theorem dX11_park_65 : decode cX11_park 65 = .ok (.aload_n 0, 1) := by decide +kernel
theorem dX11_park_66 : decode cX11_park 66 = .ok (.invokevirtual 219, 3) := by decide +kernel
theorem dX11_park_69 : decode cX11_park 69 = .ok (.ifCond .eq 7, 3) := by decide +kernel
theorem dX11_park_72 : decode cX11_park 72 = .ok (.iconst 1, 1) := by decide +kernel
theorem dX11_park_73 : decode cX11_park 73 = .ok (.goto 4, 3) := by decide +kernel
theorem dX11_park_76 : decode cX11_park 76 = .ok (.iconst 0, 1) := by decide +kernel
theorem dX11_park_77 : decode cX11_park 77 = .ok (.istore_n 2, 1) := by decide +kernel
theorem dX11_park_78 : decode cX11_park 78 = .ok (.aload_n 0, 1) := by decide +kernel
theorem dX11_park_79 : decode cX11_park 79 = .ok (.iconst 0, 1) := by decide +kernel
theorem dX11_park_80 : decode cX11_park 80 = .ok (.putfield 173, 3) := by decide +kernel
theorem dX11_park_83 : decode cX11_park 83 = .ok (.iload_n 2, 1) := by decide +kernel
theorem dX11_park_84 : decode cX11_park 84 = .ok (.ifCond .ne 14, 3) := by decide +kernel
theorem dX11_park_87 : decode cX11_park 87 = .ok (.aload_n 0, 1) := by decide +kernel
theorem dX11_park_88 : decode cX11_park 88 = .ok (.getfield 16, 3) := by decide +kernel
theorem dX11_park_91 : decode cX11_park 91 = .ok (.aload_n 0, 1) := by decide +kernel
theorem dX11_park_92 : decode cX11_park 92 = .ok (.getfield 7, 3) := by decide +kernel
theorem dX11_park_95 : decode cX11_park 95 = .ok (.invokestatic 151, 3) := by decide +kernel
theorem dX11_park_98 : decode cX11_park 98 = .ok (.iload_n 2, 1) := by decide +kernel
theorem dX11_park_99 : decode cX11_park 99 = .ok (.ifCond .eq 7, 3) := by decide +kernel
theorem dX11_park_102 : decode cX11_park 102 = .ok (.iload_n 1, 1) := by decide +kernel
theorem dX11_park_103 : decode cX11_park 103 = .ok (.goto 9, 3) := by decide +kernel
theorem dX11_park_106 : decode cX11_park 106 = .ok (.iconst (-1), 1) := by decide +kernel
theorem dX11_park_107 : decode cX11_park 107 = .ok (.aload_n 0, 1) := by decide +kernel
theorem dX11_park_108 : decode cX11_park 108 = .ok (.getfield 198, 3) := by decide +kernel
theorem dX11_park_111 : decode cX11_park 111 = .ok (.isub, 1) := by decide +kernel
theorem dX11_park_112 : decode cX11_park 112 = .ok (.ireturn, 1) := by decide +kernel
theorem dX11_isSheet_0 : decode cX11_isSheet 0 = .ok (.iload_n 0, 1) := by decide +kernel
theorem dX11_isSheet_1 : decode cX11_isSheet 1 = .ok (.ifCond .lt 12, 3) := by decide +kernel
theorem dX11_isSheet_4 : decode cX11_isSheet 4 = .ok (.iload_n 0, 1) := by decide +kernel
theorem dX11_isSheet_5 : decode cX11_isSheet 5 = .ok (.iconst 4, 1) := by decide +kernel
theorem dX11_isSheet_6 : decode cX11_isSheet 6 = .ok (.if_icmp .ge 7, 3) := by decide +kernel
theorem dX11_isSheet_9 : decode cX11_isSheet 9 = .ok (.iconst 1, 1) := by decide +kernel
theorem dX11_isSheet_10 : decode cX11_isSheet 10 = .ok (.goto 4, 3) := by decide +kernel
theorem dX11_isSheet_13 : decode cX11_isSheet 13 = .ok (.iconst 0, 1) := by decide +kernel
theorem dX11_isSheet_14 : decode cX11_isSheet 14 = .ok (.ireturn, 1) := by decide +kernel
theorem dX11_narrow_0 : decode cX11_narrow 0 = .ok (.iload_n 0, 1) := by decide +kernel
theorem dX11_narrow_1 : decode cX11_narrow 1 = .ok (.bipush 8, 2) := by decide +kernel
theorem dX11_narrow_3 : decode cX11_narrow 3 = .ok (.if_icmp .ne 10, 3) := by decide +kernel
theorem dX11_narrow_6 : decode cX11_narrow 6 = .ok (.lload_n 1, 1) := by decide +kernel
theorem dX11_narrow_7 : decode cX11_narrow 7 = .ok (.l2i, 1) := by decide +kernel
theorem dX11_narrow_8 : decode cX11_narrow 8 = .ok (.i2b, 1) := by decide +kernel
theorem dX11_narrow_9 : decode cX11_narrow 9 = .ok (.i2l, 1) := by decide +kernel
theorem dX11_narrow_10 : decode cX11_narrow 10 = .ok (.goto 17, 3) := by decide +kernel
theorem dX11_narrow_13 : decode cX11_narrow 13 = .ok (.iload_n 0, 1) := by decide +kernel
theorem dX11_narrow_14 : decode cX11_narrow 14 = .ok (.bipush 16, 2) := by decide +kernel
theorem dX11_narrow_16 : decode cX11_narrow 16 = .ok (.if_icmp .ne 10, 3) := by decide +kernel
theorem dX11_narrow_19 : decode cX11_narrow 19 = .ok (.lload_n 1, 1) := by decide +kernel
theorem dX11_narrow_20 : decode cX11_narrow 20 = .ok (.l2i, 1) := by decide +kernel
theorem dX11_narrow_21 : decode cX11_narrow 21 = .ok (.i2s, 1) := by decide +kernel
theorem dX11_narrow_22 : decode cX11_narrow 22 = .ok (.i2l, 1) := by decide +kernel
theorem dX11_narrow_23 : decode cX11_narrow 23 = .ok (.goto 4, 3) := by decide +kernel
theorem dX11_narrow_26 : decode cX11_narrow 26 = .ok (.lload_n 1, 1) := by decide +kernel
theorem dX11_narrow_27 : decode cX11_narrow 27 = .ok (.lreturn, 1) := by decide +kernel
theorem dX11_sheet_0 : decode cX11_sheet 0 = .ok (.iload_n 1, 1) := by decide +kernel
theorem dX11_sheet_1 : decode cX11_sheet 1 = .ok (.invokestatic 244, 3) := by decide +kernel
theorem dX11_sheet_4 : decode cX11_sheet 4 = .ok (.ifCond .eq 25, 3) := by decide +kernel
theorem dX11_sheet_7 : decode cX11_sheet 7 = .ok (.iload_n 2, 1) := by decide +kernel
theorem dX11_sheet_8 : decode cX11_sheet 8 = .ok (.ifCond .eq 28, 3) := by decide +kernel
theorem dX11_sheet_11 : decode cX11_sheet 11 = .ok (.iload_n 2, 1) := by decide +kernel
theorem dX11_sheet_12 : decode cX11_sheet 12 = .ok (.bipush 8, 2) := by decide +kernel
theorem dX11_sheet_14 : decode cX11_sheet 14 = .ok (.if_icmp .eq 22, 3) := by decide +kernel
theorem dX11_sheet_17 : decode cX11_sheet 17 = .ok (.iload_n 2, 1) := by decide +kernel
theorem dX11_sheet_18 : decode cX11_sheet 18 = .ok (.bipush 16, 2) := by decide +kernel
theorem dX11_sheet_20 : decode cX11_sheet 20 = .ok (.if_icmp .eq 16, 3) := by decide +kernel
theorem dX11_sheet_23 : decode cX11_sheet 23 = .ok (.iload_n 2, 1) := by decide +kernel
theorem dX11_sheet_24 : decode cX11_sheet 24 = .ok (.bipush 64, 2) := by decide +kernel
theorem dX11_sheet_26 : decode cX11_sheet 26 = .ok (.if_icmp .eq 10, 3) := by decide +kernel
theorem dX11_sheet_29 : decode cX11_sheet 29 = .ok (.aload_n 0, 1) := by decide +kernel
theorem dX11_sheet_30 : decode cX11_sheet 30 = .ok (.ldc 38, 2) := by decide +kernel
theorem dX11_sheet_32 : decode cX11_sheet 32 = .ok (.invokevirtual 40, 3) := by decide +kernel
theorem dX11_sheet_35 : decode cX11_sheet 35 = .ok (.ireturn, 1) := by decide +kernel
theorem dX11_sheet_36 : decode cX11_sheet 36 = .ok (.iload_n 3, 1) := by decide +kernel
theorem dX11_sheet_37 : decode cX11_sheet 37 = .ok (.ifCond .ge 10, 3) := by decide +kernel
theorem dX11_sheet_40 : decode cX11_sheet 40 = .ok (.aload_n 0, 1) := by decide +kernel
theorem dX11_sheet_41 : decode cX11_sheet 41 = .ok (.ldc 247, 2) := by decide +kernel
theorem dX11_sheet_43 : decode cX11_sheet 43 = .ok (.invokevirtual 40, 3) := by decide +kernel
theorem dX11_sheet_46 : decode cX11_sheet 46 = .ok (.ireturn, 1) := by decide +kernel
theorem dX11_sheet_47 : decode cX11_sheet 47 = .ok (.iload_n 3, 1) := by decide +kernel
theorem dX11_sheet_48 : decode cX11_sheet 48 = .ok (.bipush 40, 2) := by decide +kernel
theorem dX11_sheet_50 : decode cX11_sheet 50 = .ok (.if_icmp .le 10, 3) := by decide +kernel
theorem dX11_sheet_53 : decode cX11_sheet 53 = .ok (.aload_n 0, 1) := by decide +kernel
theorem dX11_sheet_54 : decode cX11_sheet 54 = .ok (.ldc 38, 2) := by decide +kernel
theorem dX11_sheet_56 : decode cX11_sheet 56 = .ok (.invokevirtual 40, 3) := by decide +kernel
theorem dX11_sheet_59 : decode cX11_sheet 59 = .ok (.ireturn, 1) := by decide +kernel
theorem dX11_sheet_60 : decode cX11_sheet 60 = .ok (.aload_n 0, 1) := by decide +kernel
theorem dX11_sheet_61 : decode cX11_sheet 61 = .ok (.getfield 28, 3) := by decide +kernel
theorem dX11_sheet_64 : decode cX11_sheet 64 = .ok (.iload_n 1, 1) := by decide +kernel
theorem dX11_sheet_65 : decode cX11_sheet 65 = .ok (.iload_n 2, 1) := by decide +kernel
theorem dX11_sheet_66 : decode cX11_sheet 66 = .ok (.ifCond .ne 7, 3) := by decide +kernel
theorem dX11_sheet_69 : decode cX11_sheet 69 = .ok (.iconst (-1), 1) := by decide +kernel
theorem dX11_sheet_70 : decode cX11_sheet 70 = .ok (.goto 4, 3) := by decide +kernel
theorem dX11_sheet_73 : decode cX11_sheet 73 = .ok (.iload_n 2, 1) := by decide +kernel
theorem dX11_sheet_74 : decode cX11_sheet 74 = .ok (.iastore, 1) := by decide +kernel
theorem dX11_sheet_75 : decode cX11_sheet 75 = .ok (.aload_n 0, 1) := by decide +kernel
theorem dX11_sheet_76 : decode cX11_sheet 76 = .ok (.getfield 31, 3) := by decide +kernel
theorem dX11_sheet_79 : decode cX11_sheet 79 = .ok (.iload_n 1, 1) := by decide +kernel
theorem dX11_sheet_80 : decode cX11_sheet 80 = .ok (.iload_n 2, 1) := by decide +kernel
theorem dX11_sheet_81 : decode cX11_sheet 81 = .ok (.ifCond .ne 7, 3) := by decide +kernel
theorem dX11_sheet_84 : decode cX11_sheet 84 = .ok (.iconst 0, 1) := by decide +kernel
theorem dX11_sheet_85 : decode cX11_sheet 85 = .ok (.goto 4, 3) := by decide +kernel
theorem dX11_sheet_88 : decode cX11_sheet 88 = .ok (.iload_n 3, 1) := by decide +kernel
theorem dX11_sheet_89 : decode cX11_sheet 89 = .ok (.iastore, 1) := by decide +kernel
theorem dX11_sheet_90 : decode cX11_sheet 90 = .ok (.iconst 0, 1) := by decide +kernel
theorem dX11_sheet_91 : decode cX11_sheet 91 = .ok (.istore 4, 2) := by decide +kernel
theorem dX11_sheet_93 : decode cX11_sheet 93 = .ok (.iload 4, 2) := by decide +kernel
theorem dX11_sheet_95 : decode cX11_sheet 95 = .ok (.bipush 40, 2) := by decide +kernel
theorem dX11_sheet_97 : decode cX11_sheet 97 = .ok (.if_icmp .ge 22, 3) := by decide +kernel
theorem dX11_sheet_100 : decode cX11_sheet 100 = .ok (.aload_n 0, 1) := by decide +kernel
theorem dX11_sheet_101 : decode cX11_sheet 101 = .ok (.getfield 34, 3) := by decide +kernel
theorem dX11_sheet_104 : decode cX11_sheet 104 = .ok (.bipush 40, 2) := by decide +kernel
theorem dX11_sheet_106 : decode cX11_sheet 106 = .ok (.iload_n 1, 1) := by decide +kernel
theorem dX11_sheet_107 : decode cX11_sheet 107 = .ok (.imul, 1) := by decide +kernel
theorem dX11_sheet_108 : decode cX11_sheet 108 = .ok (.iload 4, 2) := by decide +kernel
theorem dX11_sheet_110 : decode cX11_sheet 110 = .ok (.iadd, 1) := by decide +kernel
theorem dX11_sheet_111 : decode cX11_sheet 111 = .ok (.lconst 0, 1) := by decide +kernel
theorem dX11_sheet_112 : decode cX11_sheet 112 = .ok (.lastore, 1) := by decide +kernel
theorem dX11_sheet_113 : decode cX11_sheet 113 = .ok (.iinc 4 1, 3) := by decide +kernel
theorem dX11_sheet_116 : decode cX11_sheet 116 = .ok (.goto (-23), 3) := by decide +kernel
theorem dX11_sheet_119 : decode cX11_sheet 119 = .ok (.aload_n 0, 1) := by decide +kernel
theorem dX11_sheet_120 : decode cX11_sheet 120 = .ok (.getfield 31, 3) := by decide +kernel
theorem dX11_sheet_123 : decode cX11_sheet 123 = .ok (.iload_n 1, 1) := by decide +kernel
theorem dX11_sheet_124 : decode cX11_sheet 124 = .ok (.iaload, 1) := by decide +kernel
theorem dX11_sheet_125 : decode cX11_sheet 125 = .ok (.ireturn, 1) := by decide +kernel
theorem dX11_write_0 : decode cX11_write 0 = .ok (.iload_n 1, 1) := by decide +kernel
theorem dX11_write_1 : decode cX11_write 1 = .ok (.invokestatic 244, 3) := by decide +kernel
theorem dX11_write_4 : decode cX11_write 4 = .ok (.ifCond .ne 11, 3) := by decide +kernel
theorem dX11_write_7 : decode cX11_write 7 = .ok (.aload_n 0, 1) := by decide +kernel
theorem dX11_write_8 : decode cX11_write 8 = .ok (.ldc 38, 2) := by decide +kernel
theorem dX11_write_10 : decode cX11_write 10 = .ok (.invokevirtual 40, 3) := by decide +kernel
theorem dX11_write_13 : decode cX11_write 13 = .ok (.i2l, 1) := by decide +kernel
theorem dX11_write_14 : decode cX11_write 14 = .ok (.lreturn, 1) := by decide +kernel
theorem dX11_write_15 : decode cX11_write 15 = .ok (.aload_n 0, 1) := by decide +kernel
theorem dX11_write_16 : decode cX11_write 16 = .ok (.getfield 28, 3) := by decide +kernel
theorem dX11_write_19 : decode cX11_write 19 = .ok (.iload_n 1, 1) := by decide +kernel
theorem dX11_write_20 : decode cX11_write 20 = .ok (.iaload, 1) := by decide +kernel
theorem dX11_write_21 : decode cX11_write 21 = .ok (.ifCond .ge 11, 3) := by decide +kernel
theorem dX11_write_24 : decode cX11_write 24 = .ok (.aload_n 0, 1) := by decide +kernel
theorem dX11_write_25 : decode cX11_write 25 = .ok (.ldc 248, 2) := by decide +kernel
theorem dX11_write_27 : decode cX11_write 27 = .ok (.invokevirtual 40, 3) := by decide +kernel
theorem dX11_write_30 : decode cX11_write 30 = .ok (.i2l, 1) := by decide +kernel
theorem dX11_write_31 : decode cX11_write 31 = .ok (.lreturn, 1) := by decide +kernel
theorem dX11_write_32 : decode cX11_write 32 = .ok (.iload_n 2, 1) := by decide +kernel
theorem dX11_write_33 : decode cX11_write 33 = .ok (.i2l, 1) := by decide +kernel
theorem dX11_write_34 : decode cX11_write 34 = .ok (.lconst 0, 1) := by decide +kernel
theorem dX11_write_35 : decode cX11_write 35 = .ok (.aload_n 0, 1) := by decide +kernel
theorem dX11_write_36 : decode cX11_write 36 = .ok (.getfield 31, 3) := by decide +kernel
theorem dX11_write_39 : decode cX11_write 39 = .ok (.iload_n 1, 1) := by decide +kernel
theorem dX11_write_40 : decode cX11_write 40 = .ok (.iaload, 1) := by decide +kernel
theorem dX11_write_41 : decode cX11_write 41 = .ok (.iconst 1, 1) := by decide +kernel
theorem dX11_write_42 : decode cX11_write 42 = .ok (.isub, 1) := by decide +kernel
theorem dX11_write_43 : decode cX11_write 43 = .ok (.i2l, 1) := by decide +kernel
theorem dX11_write_44 : decode cX11_write 44 = .ok (.invokestatic 46, 3) := by decide +kernel
theorem dX11_write_47 : decode cX11_write 47 = .ok (.ifCond .ne 11, 3) := by decide +kernel
theorem dX11_write_50 : decode cX11_write 50 = .ok (.aload_n 0, 1) := by decide +kernel
theorem dX11_write_51 : decode cX11_write 51 = .ok (.ldc 38, 2) := by decide +kernel
theorem dX11_write_53 : decode cX11_write 53 = .ok (.invokevirtual 40, 3) := by decide +kernel
theorem dX11_write_56 : decode cX11_write 56 = .ok (.i2l, 1) := by decide +kernel
theorem dX11_write_57 : decode cX11_write 57 = .ok (.lreturn, 1) := by decide +kernel
theorem dX11_write_58 : decode cX11_write 58 = .ok (.aload_n 0, 1) := by decide +kernel
theorem dX11_write_59 : decode cX11_write 59 = .ok (.getfield 34, 3) := by decide +kernel
theorem dX11_write_62 : decode cX11_write 62 = .ok (.bipush 40, 2) := by decide +kernel
theorem dX11_write_64 : decode cX11_write 64 = .ok (.iload_n 1, 1) := by decide +kernel
theorem dX11_write_65 : decode cX11_write 65 = .ok (.imul, 1) := by decide +kernel
theorem dX11_write_66 : decode cX11_write 66 = .ok (.iload_n 2, 1) := by decide +kernel
theorem dX11_write_67 : decode cX11_write 67 = .ok (.iadd, 1) := by decide +kernel
theorem dX11_write_68 : decode cX11_write 68 = .ok (.laload, 1) := by decide +kernel
theorem dX11_write_69 : decode cX11_write 69 = .ok (.lstore 5, 2) := by decide +kernel
theorem dX11_write_71 : decode cX11_write 71 = .ok (.aload_n 0, 1) := by decide +kernel
theorem dX11_write_72 : decode cX11_write 72 = .ok (.getfield 34, 3) := by decide +kernel
theorem dX11_write_75 : decode cX11_write 75 = .ok (.bipush 40, 2) := by decide +kernel
theorem dX11_write_77 : decode cX11_write 77 = .ok (.iload_n 1, 1) := by decide +kernel
theorem dX11_write_78 : decode cX11_write 78 = .ok (.imul, 1) := by decide +kernel
theorem dX11_write_79 : decode cX11_write 79 = .ok (.iload_n 2, 1) := by decide +kernel
theorem dX11_write_80 : decode cX11_write 80 = .ok (.iadd, 1) := by decide +kernel
theorem dX11_write_81 : decode cX11_write 81 = .ok (.aload_n 0, 1) := by decide +kernel
theorem dX11_write_82 : decode cX11_write 82 = .ok (.getfield 28, 3) := by decide +kernel
theorem dX11_write_85 : decode cX11_write 85 = .ok (.iload_n 1, 1) := by decide +kernel
theorem dX11_write_86 : decode cX11_write 86 = .ok (.iaload, 1) := by decide +kernel
theorem dX11_write_87 : decode cX11_write 87 = .ok (.lload_n 3, 1) := by decide +kernel
theorem dX11_write_88 : decode cX11_write 88 = .ok (.invokestatic 249, 3) := by decide +kernel
theorem dX11_write_91 : decode cX11_write 91 = .ok (.lastore, 1) := by decide +kernel
theorem dX11_write_92 : decode cX11_write 92 = .ok (.lload 5, 2) := by decide +kernel
theorem dX11_write_94 : decode cX11_write 94 = .ok (.lreturn, 1) := by decide +kernel
theorem dX11_copy_0 : decode cX11_copy 0 = .ok (.iload_n 1, 1) := by decide +kernel
theorem dX11_copy_1 : decode cX11_copy 1 = .ok (.invokestatic 244, 3) := by decide +kernel
theorem dX11_copy_4 : decode cX11_copy 4 = .ok (.ifCond .eq 10, 3) := by decide +kernel
theorem dX11_copy_7 : decode cX11_copy 7 = .ok (.iload_n 3, 1) := by decide +kernel
theorem dX11_copy_8 : decode cX11_copy 8 = .ok (.invokestatic 244, 3) := by decide +kernel
theorem dX11_copy_11 : decode cX11_copy 11 = .ok (.ifCond .ne 10, 3) := by decide +kernel
theorem dX11_copy_14 : decode cX11_copy 14 = .ok (.aload_n 0, 1) := by decide +kernel
theorem dX11_copy_15 : decode cX11_copy 15 = .ok (.ldc 38, 2) := by decide +kernel
theorem dX11_copy_17 : decode cX11_copy 17 = .ok (.invokevirtual 40, 3) := by decide +kernel
theorem dX11_copy_20 : decode cX11_copy 20 = .ok (.ireturn, 1) := by decide +kernel
theorem dX11_copy_21 : decode cX11_copy 21 = .ok (.aload_n 0, 1) := by decide +kernel
theorem dX11_copy_22 : decode cX11_copy 22 = .ok (.getfield 28, 3) := by decide +kernel
theorem dX11_copy_25 : decode cX11_copy 25 = .ok (.iload_n 1, 1) := by decide +kernel
theorem dX11_copy_26 : decode cX11_copy 26 = .ok (.iaload, 1) := by decide +kernel
theorem dX11_copy_27 : decode cX11_copy 27 = .ok (.ifCond .lt 12, 3) := by decide +kernel
theorem dX11_copy_30 : decode cX11_copy 30 = .ok (.aload_n 0, 1) := by decide +kernel
theorem dX11_copy_31 : decode cX11_copy 31 = .ok (.getfield 28, 3) := by decide +kernel
theorem dX11_copy_34 : decode cX11_copy 34 = .ok (.iload_n 3, 1) := by decide +kernel
theorem dX11_copy_35 : decode cX11_copy 35 = .ok (.iaload, 1) := by decide +kernel
theorem dX11_copy_36 : decode cX11_copy 36 = .ok (.ifCond .ge 10, 3) := by decide +kernel
theorem dX11_copy_39 : decode cX11_copy 39 = .ok (.aload_n 0, 1) := by decide +kernel
theorem dX11_copy_40 : decode cX11_copy 40 = .ok (.ldc 248, 2) := by decide +kernel
theorem dX11_copy_42 : decode cX11_copy 42 = .ok (.invokevirtual 40, 3) := by decide +kernel
theorem dX11_copy_45 : decode cX11_copy 45 = .ok (.ireturn, 1) := by decide +kernel
theorem dX11_copy_46 : decode cX11_copy 46 = .ok (.aload_n 0, 1) := by decide +kernel
theorem dX11_copy_47 : decode cX11_copy 47 = .ok (.getfield 28, 3) := by decide +kernel
theorem dX11_copy_50 : decode cX11_copy 50 = .ok (.iload_n 1, 1) := by decide +kernel
theorem dX11_copy_51 : decode cX11_copy 51 = .ok (.iaload, 1) := by decide +kernel
theorem dX11_copy_52 : decode cX11_copy 52 = .ok (.aload_n 0, 1) := by decide +kernel
theorem dX11_copy_53 : decode cX11_copy 53 = .ok (.getfield 28, 3) := by decide +kernel
theorem dX11_copy_56 : decode cX11_copy 56 = .ok (.iload_n 3, 1) := by decide +kernel
theorem dX11_copy_57 : decode cX11_copy 57 = .ok (.iaload, 1) := by decide +kernel
theorem dX11_copy_58 : decode cX11_copy 58 = .ok (.if_icmp .eq 10, 3) := by decide +kernel
theorem dX11_copy_61 : decode cX11_copy 61 = .ok (.aload_n 0, 1) := by decide +kernel
theorem dX11_copy_62 : decode cX11_copy 62 = .ok (.ldc 107, 2) := by decide +kernel
theorem dX11_copy_64 : decode cX11_copy 64 = .ok (.invokevirtual 40, 3) := by decide +kernel
theorem dX11_copy_67 : decode cX11_copy 67 = .ok (.ireturn, 1) := by decide +kernel
theorem dX11_copy_68 : decode cX11_copy 68 = .ok (.iload_n 2, 1) := by decide +kernel
theorem dX11_copy_69 : decode cX11_copy 69 = .ok (.ifCond .lt 40, 3) := by decide +kernel
theorem dX11_copy_72 : decode cX11_copy 72 = .ok (.iload 4, 2) := by decide +kernel
theorem dX11_copy_74 : decode cX11_copy 74 = .ok (.ifCond .lt 35, 3) := by decide +kernel
theorem dX11_copy_77 : decode cX11_copy 77 = .ok (.iload 5, 2) := by decide +kernel
theorem dX11_copy_79 : decode cX11_copy 79 = .ok (.ifCond .lt 30, 3) := by decide +kernel
theorem dX11_copy_82 : decode cX11_copy 82 = .ok (.iload 5, 2) := by decide +kernel
theorem dX11_copy_84 : decode cX11_copy 84 = .ok (.aload_n 0, 1) := by decide +kernel
theorem dX11_copy_85 : decode cX11_copy 85 = .ok (.getfield 31, 3) := by decide +kernel
theorem dX11_copy_88 : decode cX11_copy 88 = .ok (.iload_n 1, 1) := by decide +kernel
theorem dX11_copy_89 : decode cX11_copy 89 = .ok (.iaload, 1) := by decide +kernel
theorem dX11_copy_90 : decode cX11_copy 90 = .ok (.iload_n 2, 1) := by decide +kernel
theorem dX11_copy_91 : decode cX11_copy 91 = .ok (.isub, 1) := by decide +kernel
theorem dX11_copy_92 : decode cX11_copy 92 = .ok (.if_icmp .gt 17, 3) := by decide +kernel
theorem dX11_copy_95 : decode cX11_copy 95 = .ok (.iload 5, 2) := by decide +kernel
theorem dX11_copy_97 : decode cX11_copy 97 = .ok (.aload_n 0, 1) := by decide +kernel
theorem dX11_copy_98 : decode cX11_copy 98 = .ok (.getfield 31, 3) := by decide +kernel
theorem dX11_copy_101 : decode cX11_copy 101 = .ok (.iload_n 3, 1) := by decide +kernel
theorem dX11_copy_102 : decode cX11_copy 102 = .ok (.iaload, 1) := by decide +kernel
theorem dX11_copy_103 : decode cX11_copy 103 = .ok (.iload 4, 2) := by decide +kernel
theorem dX11_copy_105 : decode cX11_copy 105 = .ok (.isub, 1) := by decide +kernel
theorem dX11_copy_106 : decode cX11_copy 106 = .ok (.if_icmp .le 10, 3) := by decide +kernel
theorem dX11_copy_109 : decode cX11_copy 109 = .ok (.aload_n 0, 1) := by decide +kernel
theorem dX11_copy_110 : decode cX11_copy 110 = .ok (.ldc 38, 2) := by decide +kernel
theorem dX11_copy_112 : decode cX11_copy 112 = .ok (.invokevirtual 40, 3) := by decide +kernel
theorem dX11_copy_115 : decode cX11_copy 115 = .ok (.ireturn, 1) := by decide +kernel
theorem dX11_copy_116 : decode cX11_copy 116 = .ok (.bipush 40, 2) := by decide +kernel
theorem dX11_copy_118 : decode cX11_copy 118 = .ok (.iload_n 1, 1) := by decide +kernel
theorem dX11_copy_119 : decode cX11_copy 119 = .ok (.imul, 1) := by decide +kernel
theorem dX11_copy_120 : decode cX11_copy 120 = .ok (.iload_n 2, 1) := by decide +kernel
theorem dX11_copy_121 : decode cX11_copy 121 = .ok (.iadd, 1) := by decide +kernel
theorem dX11_copy_122 : decode cX11_copy 122 = .ok (.istore 6, 2) := by decide +kernel
theorem dX11_copy_124 : decode cX11_copy 124 = .ok (.bipush 40, 2) := by decide +kernel
theorem dX11_copy_126 : decode cX11_copy 126 = .ok (.iload_n 3, 1) := by decide +kernel
theorem dX11_copy_127 : decode cX11_copy 127 = .ok (.imul, 1) := by decide +kernel
theorem dX11_copy_128 : decode cX11_copy 128 = .ok (.iload 4, 2) := by decide +kernel
theorem dX11_copy_130 : decode cX11_copy 130 = .ok (.iadd, 1) := by decide +kernel
theorem dX11_copy_131 : decode cX11_copy 131 = .ok (.istore 7, 2) := by decide +kernel
theorem dX11_copy_133 : decode cX11_copy 133 = .ok (.iconst 0, 1) := by decide +kernel
theorem dX11_copy_134 : decode cX11_copy 134 = .ok (.istore 8, 2) := by decide +kernel
theorem dX11_copy_136 : decode cX11_copy 136 = .ok (.iload 8, 2) := by decide +kernel
theorem dX11_copy_138 : decode cX11_copy 138 = .ok (.iload 5, 2) := by decide +kernel
theorem dX11_copy_140 : decode cX11_copy 140 = .ok (.if_icmp .ge 50, 3) := by decide +kernel
theorem dX11_copy_143 : decode cX11_copy 143 = .ok (.iload 6, 2) := by decide +kernel
theorem dX11_copy_145 : decode cX11_copy 145 = .ok (.iload 7, 2) := by decide +kernel
theorem dX11_copy_147 : decode cX11_copy 147 = .ok (.if_icmp .ge 13, 3) := by decide +kernel
theorem dX11_copy_150 : decode cX11_copy 150 = .ok (.iload 5, 2) := by decide +kernel
theorem dX11_copy_152 : decode cX11_copy 152 = .ok (.iconst 1, 1) := by decide +kernel
theorem dX11_copy_153 : decode cX11_copy 153 = .ok (.isub, 1) := by decide +kernel
theorem dX11_copy_154 : decode cX11_copy 154 = .ok (.iload 8, 2) := by decide +kernel
theorem dX11_copy_156 : decode cX11_copy 156 = .ok (.isub, 1) := by decide +kernel
theorem dX11_copy_157 : decode cX11_copy 157 = .ok (.goto 5, 3) := by decide +kernel
theorem dX11_copy_160 : decode cX11_copy 160 = .ok (.iload 8, 2) := by decide +kernel
theorem dX11_copy_162 : decode cX11_copy 162 = .ok (.istore 9, 2) := by decide +kernel
theorem dX11_copy_164 : decode cX11_copy 164 = .ok (.aload_n 0, 1) := by decide +kernel
theorem dX11_copy_165 : decode cX11_copy 165 = .ok (.getfield 34, 3) := by decide +kernel
theorem dX11_copy_168 : decode cX11_copy 168 = .ok (.iload 7, 2) := by decide +kernel
theorem dX11_copy_170 : decode cX11_copy 170 = .ok (.iload 9, 2) := by decide +kernel
theorem dX11_copy_172 : decode cX11_copy 172 = .ok (.iadd, 1) := by decide +kernel
theorem dX11_copy_173 : decode cX11_copy 173 = .ok (.aload_n 0, 1) := by decide +kernel
theorem dX11_copy_174 : decode cX11_copy 174 = .ok (.getfield 34, 3) := by decide +kernel
theorem dX11_copy_177 : decode cX11_copy 177 = .ok (.iload 6, 2) := by decide +kernel
theorem dX11_copy_179 : decode cX11_copy 179 = .ok (.iload 9, 2) := by decide +kernel
theorem dX11_copy_181 : decode cX11_copy 181 = .ok (.iadd, 1) := by decide +kernel
theorem dX11_copy_182 : decode cX11_copy 182 = .ok (.laload, 1) := by decide +kernel
theorem dX11_copy_183 : decode cX11_copy 183 = .ok (.lastore, 1) := by decide +kernel
theorem dX11_copy_184 : decode cX11_copy 184 = .ok (.iinc 8 1, 3) := by decide +kernel
theorem dX11_copy_187 : decode cX11_copy 187 = .ok (.goto (-51), 3) := by decide +kernel
theorem dX11_copy_190 : decode cX11_copy 190 = .ok (.iload 5, 2) := by decide +kernel
theorem dX11_copy_192 : decode cX11_copy 192 = .ok (.ireturn, 1) := by decide +kernel
theorem dX11_wants_0 : decode cX11_wants 0 = .ok (.iload_n 1, 1) := by decide +kernel
theorem dX11_wants_1 : decode cX11_wants 1 = .ok (.invokestatic 244, 3) := by decide +kernel
theorem dX11_wants_4 : decode cX11_wants 4 = .ok (.ifCond .ne 8, 3) := by decide +kernel
theorem dX11_wants_7 : decode cX11_wants 7 = .ok (.ldc 38, 2) := by decide +kernel
theorem dX11_wants_9 : decode cX11_wants 9 = .ok (.goto 18, 3) := by decide +kernel
theorem dX11_wants_12 : decode cX11_wants 12 = .ok (.aload_n 0, 1) := by decide +kernel
theorem dX11_wants_13 : decode cX11_wants 13 = .ok (.getfield 28, 3) := by decide +kernel
theorem dX11_wants_16 : decode cX11_wants 16 = .ok (.iload_n 1, 1) := by decide +kernel
theorem dX11_wants_17 : decode cX11_wants 17 = .ok (.iaload, 1) := by decide +kernel
theorem dX11_wants_18 : decode cX11_wants 18 = .ok (.ifCond .ge 8, 3) := by decide +kernel
theorem dX11_wants_21 : decode cX11_wants 21 = .ok (.ldc 248, 2) := by decide +kernel
theorem dX11_wants_23 : decode cX11_wants 23 = .ok (.goto 4, 3) := by decide +kernel
theorem dX11_wants_26 : decode cX11_wants 26 = .ok (.iconst 0, 1) := by decide +kernel
theorem dX11_wants_27 : decode cX11_wants 27 = .ok (.ireturn, 1) := by decide +kernel
theorem dX11_lays_0 : decode cX11_lays 0 = .ok (.aload_n 0, 1) := by decide +kernel
theorem dX11_lays_1 : decode cX11_lays 1 = .ok (.iload_n 1, 1) := by decide +kernel
theorem dX11_lays_2 : decode cX11_lays 2 = .ok (.invokevirtual 253, 3) := by decide +kernel
theorem dX11_lays_5 : decode cX11_lays 5 = .ok (.ifCond .eq 13, 3) := by decide +kernel
theorem dX11_lays_8 : decode cX11_lays 8 = .ok (.aload_n 0, 1) := by decide +kernel
theorem dX11_lays_9 : decode cX11_lays 9 = .ok (.aload_n 0, 1) := by decide +kernel
theorem dX11_lays_10 : decode cX11_lays 10 = .ok (.iload_n 1, 1) := by decide +kernel
theorem dX11_lays_11 : decode cX11_lays 11 = .ok (.invokevirtual 253, 3) := by decide +kernel
theorem dX11_lays_14 : decode cX11_lays 14 = .ok (.invokevirtual 40, 3) := by decide +kernel
theorem dX11_lays_17 : decode cX11_lays 17 = .ok (.ireturn, 1) := by decide +kernel
theorem dX11_lays_18 : decode cX11_lays 18 = .ok (.iconst 0, 1) := by decide +kernel
theorem dX11_lays_19 : decode cX11_lays 19 = .ok (.istore_n 2, 1) := by decide +kernel
theorem dX11_lays_20 : decode cX11_lays 20 = .ok (.iconst 0, 1) := by decide +kernel
theorem dX11_lays_21 : decode cX11_lays 21 = .ok (.istore_n 3, 1) := by decide +kernel
theorem dX11_lays_22 : decode cX11_lays 22 = .ok (.iload_n 3, 1) := by decide +kernel
theorem dX11_lays_23 : decode cX11_lays 23 = .ok (.aload_n 0, 1) := by decide +kernel
theorem dX11_lays_24 : decode cX11_lays 24 = .ok (.getfield 31, 3) := by decide +kernel
theorem dX11_lays_27 : decode cX11_lays 27 = .ok (.iload_n 1, 1) := by decide +kernel
theorem dX11_lays_28 : decode cX11_lays 28 = .ok (.iaload, 1) := by decide +kernel
theorem dX11_lays_29 : decode cX11_lays 29 = .ok (.if_icmp .ge 57, 3) := by decide +kernel
theorem dX11_lays_32 : decode cX11_lays 32 = .ok (.iload_n 3, 1) := by decide +kernel
theorem dX11_lays_33 : decode cX11_lays 33 = .ok (.aload_n 0, 1) := by decide +kernel
theorem dX11_lays_34 : decode cX11_lays 34 = .ok (.getfield 7, 3) := by decide +kernel
theorem dX11_lays_37 : decode cX11_lays 37 = .ok (.iconst 0, 1) := by decide +kernel
theorem dX11_lays_38 : decode cX11_lays 38 = .ok (.iaload, 1) := by decide +kernel
theorem dX11_lays_39 : decode cX11_lays 39 = .ok (.if_icmp .ge 47, 3) := by decide +kernel
theorem dX11_lays_42 : decode cX11_lays 42 = .ok (.aload_n 0, 1) := by decide +kernel
theorem dX11_lays_43 : decode cX11_lays 43 = .ok (.getfield 34, 3) := by decide +kernel
theorem dX11_lays_46 : decode cX11_lays 46 = .ok (.bipush 40, 2) := by decide +kernel
theorem dX11_lays_48 : decode cX11_lays 48 = .ok (.iload_n 1, 1) := by decide +kernel
theorem dX11_lays_49 : decode cX11_lays 49 = .ok (.imul, 1) := by decide +kernel
theorem dX11_lays_50 : decode cX11_lays 50 = .ok (.iload_n 3, 1) := by decide +kernel
theorem dX11_lays_51 : decode cX11_lays 51 = .ok (.iadd, 1) := by decide +kernel
theorem dX11_lays_52 : decode cX11_lays 52 = .ok (.laload, 1) := by decide +kernel
theorem dX11_lays_53 : decode cX11_lays 53 = .ok (.lstore 4, 2) := by decide +kernel
theorem dX11_lays_55 : decode cX11_lays 55 = .ok (.lload 4, 2) := by decide +kernel
theorem dX11_lays_57 : decode cX11_lays 57 = .ok (.lconst 0, 1) := by decide +kernel
theorem dX11_lays_58 : decode cX11_lays 58 = .ok (.ldc2_w 44, 3) := by decide +kernel
theorem dX11_lays_61 : decode cX11_lays 61 = .ok (.invokestatic 46, 3) := by decide +kernel
theorem dX11_lays_64 : decode cX11_lays 64 = .ok (.ifCond .eq 16, 3) := by decide +kernel
theorem dX11_lays_67 : decode cX11_lays 67 = .ok (.aload_n 0, 1) := by decide +kernel
theorem dX11_lays_68 : decode cX11_lays 68 = .ok (.iload_n 3, 1) := by decide +kernel
theorem dX11_lays_69 : decode cX11_lays 69 = .ok (.lload 4, 2) := by decide +kernel
theorem dX11_lays_71 : decode cX11_lays 71 = .ok (.l2i, 1) := by decide +kernel
theorem dX11_lays_72 : decode cX11_lays 72 = .ok (.invokevirtual 100, 3) := by decide +kernel
theorem dX11_lays_75 : decode cX11_lays 75 = .ok (.istore 6, 2) := by decide +kernel
theorem dX11_lays_77 : decode cX11_lays 77 = .ok (.iinc 2 1, 3) := by decide +kernel
theorem dX11_lays_80 : decode cX11_lays 80 = .ok (.iinc 3 1, 3) := by decide +kernel
theorem dX11_lays_83 : decode cX11_lays 83 = .ok (.goto (-61), 3) := by decide +kernel
theorem dX11_lays_86 : decode cX11_lays 86 = .ok (.iload_n 2, 1) := by decide +kernel
theorem dX11_lays_87 : decode cX11_lays 87 = .ok (.ireturn, 1) := by decide +kernel
theorem dX11_book_0 : decode cX11_book 0 = .ok (.aload_n 0, 1) := by decide +kernel
theorem dX11_book_1 : decode cX11_book 1 = .ok (.iload_n 1, 1) := by decide +kernel
theorem dX11_book_2 : decode cX11_book 2 = .ok (.invokevirtual 253, 3) := by decide +kernel
theorem dX11_book_5 : decode cX11_book 5 = .ok (.ifCond .eq 11, 3) := by decide +kernel
theorem dX11_book_8 : decode cX11_book 8 = .ok (.aload_n 0, 1) := by decide +kernel
theorem dX11_book_9 : decode cX11_book 9 = .ok (.iload_n 1, 1) := by decide +kernel
theorem dX11_book_10 : decode cX11_book 10 = .ok (.invokevirtual 253, 3) := by decide +kernel
theorem dX11_book_13 : decode cX11_book 13 = .ok (.goto 17, 3) := by decide +kernel
theorem dX11_book_16 : decode cX11_book 16 = .ok (.aload_n 0, 1) := by decide +kernel
theorem dX11_book_17 : decode cX11_book 17 = .ok (.iload_n 2, 1) := by decide +kernel
theorem dX11_book_18 : decode cX11_book 18 = .ok (.invokevirtual 83, 3) := by decide +kernel
theorem dX11_book_21 : decode cX11_book 21 = .ok (.ifCond .eq 7, 3) := by decide +kernel
theorem dX11_book_24 : decode cX11_book 24 = .ok (.iconst 0, 1) := by decide +kernel
theorem dX11_book_25 : decode cX11_book 25 = .ok (.goto 5, 3) := by decide +kernel
theorem dX11_book_28 : decode cX11_book 28 = .ok (.ldc 38, 2) := by decide +kernel
theorem dX11_book_30 : decode cX11_book 30 = .ok (.istore_n 3, 1) := by decide +kernel
theorem dX11_book_31 : decode cX11_book 31 = .ok (.iload_n 3, 1) := by decide +kernel
theorem dX11_book_32 : decode cX11_book 32 = .ok (.ifCond .eq 9, 3) := by decide +kernel
theorem dX11_book_35 : decode cX11_book 35 = .ok (.aload_n 0, 1) := by decide +kernel
theorem dX11_book_36 : decode cX11_book 36 = .ok (.iload_n 3, 1) := by decide +kernel
theorem dX11_book_37 : decode cX11_book 37 = .ok (.invokevirtual 40, 3) := by decide +kernel
theorem dX11_book_40 : decode cX11_book 40 = .ok (.ireturn, 1) := by decide +kernel
theorem dX11_book_41 : decode cX11_book 41 = .ok (.aload_n 0, 1) := by decide +kernel
theorem dX11_book_42 : decode cX11_book 42 = .ok (.getfield 7, 3) := by decide +kernel
theorem dX11_book_45 : decode cX11_book 45 = .ok (.aload_n 0, 1) := by decide +kernel
theorem dX11_book_46 : decode cX11_book 46 = .ok (.getfield 19, 3) := by decide +kernel
theorem dX11_book_49 : decode cX11_book 49 = .ok (.invokestatic 151, 3) := by decide +kernel
theorem dX11_book_52 : decode cX11_book 52 = .ok (.iconst 0, 1) := by decide +kernel
theorem dX11_book_53 : decode cX11_book 53 = .ok (.istore 4, 2) := by decide +kernel
theorem dX11_book_55 : decode cX11_book 55 = .ok (.iload 4, 2) := by decide +kernel
theorem dX11_book_57 : decode cX11_book 57 = .ok (.aload_n 0, 1) := by decide +kernel
theorem dX11_book_58 : decode cX11_book 58 = .ok (.getfield 31, 3) := by decide +kernel
theorem dX11_book_61 : decode cX11_book 61 = .ok (.iload_n 1, 1) := by decide +kernel
theorem dX11_book_62 : decode cX11_book 62 = .ok (.iaload, 1) := by decide +kernel
theorem dX11_book_63 : decode cX11_book 63 = .ok (.if_icmp .ge 41, 3) := by decide +kernel
theorem dX11_book_66 : decode cX11_book 66 = .ok (.aload_n 0, 1) := by decide +kernel
theorem dX11_book_67 : decode cX11_book 67 = .ok (.getfield 34, 3) := by decide +kernel
theorem dX11_book_70 : decode cX11_book 70 = .ok (.bipush 40, 2) := by decide +kernel
theorem dX11_book_72 : decode cX11_book 72 = .ok (.iload_n 1, 1) := by decide +kernel
theorem dX11_book_73 : decode cX11_book 73 = .ok (.imul, 1) := by decide +kernel
theorem dX11_book_74 : decode cX11_book 74 = .ok (.iload 4, 2) := by decide +kernel
theorem dX11_book_76 : decode cX11_book 76 = .ok (.iadd, 1) := by decide +kernel
theorem dX11_book_77 : decode cX11_book 77 = .ok (.aload_n 0, 1) := by decide +kernel
theorem dX11_book_78 : decode cX11_book 78 = .ok (.getfield 28, 3) := by decide +kernel
theorem dX11_book_81 : decode cX11_book 81 = .ok (.iload_n 1, 1) := by decide +kernel
theorem dX11_book_82 : decode cX11_book 82 = .ok (.iaload, 1) := by decide +kernel
theorem dX11_book_83 : decode cX11_book 83 = .ok (.aload_n 0, 1) := by decide +kernel
theorem dX11_book_84 : decode cX11_book 84 = .ok (.iload_n 2, 1) := by decide +kernel
theorem dX11_book_85 : decode cX11_book 85 = .ok (.iconst 1, 1) := by decide +kernel
theorem dX11_book_86 : decode cX11_book 86 = .ok (.invokevirtual 58, 3) := by decide +kernel
theorem dX11_book_89 : decode cX11_book 89 = .ok (.i2l, 1) := by decide +kernel
theorem dX11_book_90 : decode cX11_book 90 = .ok (.invokestatic 249, 3) := by decide +kernel
theorem dX11_book_93 : decode cX11_book 93 = .ok (.lastore, 1) := by decide +kernel
theorem dX11_book_94 : decode cX11_book 94 = .ok (.aload_n 0, 1) := by decide +kernel
theorem dX11_book_95 : decode cX11_book 95 = .ok (.invokevirtual 131, 3) := by decide +kernel
theorem dX11_book_98 : decode cX11_book 98 = .ok (.iinc 4 1, 3) := by decide +kernel
theorem dX11_book_101 : decode cX11_book 101 = .ok (.goto (-46), 3) := by decide +kernel
theorem dX11_book_104 : decode cX11_book 104 = .ok (.aload_n 0, 1) := by decide +kernel
theorem dX11_book_105 : decode cX11_book 105 = .ok (.getfield 19, 3) := by decide +kernel
theorem dX11_book_108 : decode cX11_book 108 = .ok (.aload_n 0, 1) := by decide +kernel
theorem dX11_book_109 : decode cX11_book 109 = .ok (.getfield 7, 3) := by decide +kernel
theorem dX11_book_112 : decode cX11_book 112 = .ok (.invokestatic 151, 3) := by decide +kernel
theorem dX11_book_115 : decode cX11_book 115 = .ok (.aload_n 0, 1) := by decide +kernel
theorem dX11_book_116 : decode cX11_book 116 = .ok (.getfield 31, 3) := by decide +kernel
theorem dX11_book_119 : decode cX11_book 119 = .ok (.iload_n 1, 1) := by decide +kernel
theorem dX11_book_120 : decode cX11_book 120 = .ok (.iaload, 1) := by decide +kernel
theorem dX11_book_121 : decode cX11_book 121 = .ok (.ireturn, 1) := by decide +kernel
theorem dX11_isSo_0 : decode cX11_isSo 0 = .ok (.iconst 1, 1) := by decide +kernel
theorem dX11_isSo_1 : decode cX11_isSo 1 = .ok (.istore_n 3, 1) := by decide +kernel
theorem dX11_isSo_2 : decode cX11_isSo 2 = .ok (.iconst 0, 1) := by decide +kernel
theorem dX11_isSo_3 : decode cX11_isSo 3 = .ok (.istore 4, 2) := by decide +kernel
theorem dX11_isSo_5 : decode cX11_isSo 5 = .ok (.iload 4, 2) := by decide +kernel
theorem dX11_isSo_7 : decode cX11_isSo 7 = .ok (.aload_n 0, 1) := by decide +kernel
theorem dX11_isSo_8 : decode cX11_isSo 8 = .ok (.getfield 31, 3) := by decide +kernel
theorem dX11_isSo_11 : decode cX11_isSo 11 = .ok (.iload_n 1, 1) := by decide +kernel
theorem dX11_isSo_12 : decode cX11_isSo 12 = .ok (.iaload, 1) := by decide +kernel
theorem dX11_isSo_13 : decode cX11_isSo 13 = .ok (.if_icmp .ge 46, 3) := by decide +kernel
theorem dX11_isSo_16 : decode cX11_isSo 16 = .ok (.iload_n 3, 1) := by decide +kernel
theorem dX11_isSo_17 : decode cX11_isSo 17 = .ok (.ifCond .eq 42, 3) := by decide +kernel
theorem dX11_isSo_20 : decode cX11_isSo 20 = .ok (.aload_n 0, 1) := by decide +kernel
theorem dX11_isSo_21 : decode cX11_isSo 21 = .ok (.getfield 34, 3) := by decide +kernel
theorem dX11_isSo_24 : decode cX11_isSo 24 = .ok (.bipush 40, 2) := by decide +kernel
theorem dX11_isSo_26 : decode cX11_isSo 26 = .ok (.iload_n 1, 1) := by decide +kernel
theorem dX11_isSo_27 : decode cX11_isSo 27 = .ok (.imul, 1) := by decide +kernel
theorem dX11_isSo_28 : decode cX11_isSo 28 = .ok (.iload 4, 2) := by decide +kernel
theorem dX11_isSo_30 : decode cX11_isSo 30 = .ok (.iadd, 1) := by decide +kernel
theorem dX11_isSo_31 : decode cX11_isSo 31 = .ok (.laload, 1) := by decide +kernel
theorem dX11_isSo_32 : decode cX11_isSo 32 = .ok (.aload_n 0, 1) := by decide +kernel
theorem dX11_isSo_33 : decode cX11_isSo 33 = .ok (.iload_n 2, 1) := by decide +kernel
theorem dX11_isSo_34 : decode cX11_isSo 34 = .ok (.iconst 1, 1) := by decide +kernel
theorem dX11_isSo_35 : decode cX11_isSo 35 = .ok (.invokevirtual 58, 3) := by decide +kernel
theorem dX11_isSo_38 : decode cX11_isSo 38 = .ok (.i2l, 1) := by decide +kernel
theorem dX11_isSo_39 : decode cX11_isSo 39 = .ok (.lcmp, 1) := by decide +kernel
theorem dX11_isSo_40 : decode cX11_isSo 40 = .ok (.ifCond .ne 7, 3) := by decide +kernel
theorem dX11_isSo_43 : decode cX11_isSo 43 = .ok (.iconst 1, 1) := by decide +kernel
theorem dX11_isSo_44 : decode cX11_isSo 44 = .ok (.goto 4, 3) := by decide +kernel
theorem dX11_isSo_47 : decode cX11_isSo 47 = .ok (.iconst 0, 1) := by decide +kernel
theorem dX11_isSo_48 : decode cX11_isSo 48 = .ok (.istore_n 3, 1) := by decide +kernel
theorem dX11_isSo_49 : decode cX11_isSo 49 = .ok (.aload_n 0, 1) := by decide +kernel
theorem dX11_isSo_50 : decode cX11_isSo 50 = .ok (.invokevirtual 131, 3) := by decide +kernel
theorem dX11_isSo_53 : decode cX11_isSo 53 = .ok (.iinc 4 1, 3) := by decide +kernel
theorem dX11_isSo_56 : decode cX11_isSo 56 = .ok (.goto (-51), 3) := by decide +kernel
theorem dX11_isSo_59 : decode cX11_isSo 59 = .ok (.iload_n 3, 1) := by decide +kernel
theorem dX11_isSo_60 : decode cX11_isSo 60 = .ok (.ireturn, 1) := by decide +kernel
theorem dX11_read_0 : decode cX11_read 0 = .ok (.aload_n 0, 1) := by decide +kernel
theorem dX11_read_1 : decode cX11_read 1 = .ok (.iload_n 1, 1) := by decide +kernel
theorem dX11_read_2 : decode cX11_read 2 = .ok (.invokevirtual 253, 3) := by decide +kernel
theorem dX11_read_5 : decode cX11_read 5 = .ok (.ifCond .eq 11, 3) := by decide +kernel
theorem dX11_read_8 : decode cX11_read 8 = .ok (.aload_n 0, 1) := by decide +kernel
theorem dX11_read_9 : decode cX11_read 9 = .ok (.iload_n 1, 1) := by decide +kernel
theorem dX11_read_10 : decode cX11_read 10 = .ok (.invokevirtual 253, 3) := by decide +kernel
theorem dX11_read_13 : decode cX11_read 13 = .ok (.goto 30, 3) := by decide +kernel
theorem dX11_read_16 : decode cX11_read 16 = .ok (.aload_n 0, 1) := by decide +kernel
theorem dX11_read_17 : decode cX11_read 17 = .ok (.iload_n 2, 1) := by decide +kernel
theorem dX11_read_18 : decode cX11_read 18 = .ok (.invokevirtual 83, 3) := by decide +kernel
theorem dX11_read_21 : decode cX11_read 21 = .ok (.ifCond .eq 20, 3) := by decide +kernel
theorem dX11_read_24 : decode cX11_read 24 = .ok (.aload_n 0, 1) := by decide +kernel
theorem dX11_read_25 : decode cX11_read 25 = .ok (.iload_n 3, 1) := by decide +kernel
end
section
theorem dX11_read_26 : decode cX11_read 26 = .ok (.invokevirtual 83, 3) := by decide +kernel
theorem dX11_read_29 : decode cX11_read 29 = .ok (.ifCond .eq 12, 3) := by decide +kernel
theorem dX11_read_32 : decode cX11_read 32 = .ok (.iload_n 2, 1) := by decide +kernel
theorem dX11_read_33 : decode cX11_read 33 = .ok (.iload_n 3, 1) := by decide +kernel
theorem dX11_read_34 : decode cX11_read 34 = .ok (.if_icmp .eq 7, 3) := by decide +kernel
theorem dX11_read_37 : decode cX11_read 37 = .ok (.iconst 0, 1) := by decide +kernel
theorem dX11_read_38 : decode cX11_read 38 = .ok (.goto 5, 3) := by decide +kernel
theorem dX11_read_41 : decode cX11_read 41 = .ok (.ldc 38, 2) := by decide +kernel
theorem dX11_read_43 : decode cX11_read 43 = .ok (.istore 4, 2) := by decide +kernel
theorem dX11_read_45 : decode cX11_read 45 = .ok (.iload 4, 2) := by decide +kernel
theorem dX11_read_47 : decode cX11_read 47 = .ok (.ifCond .eq 10, 3) := by decide +kernel
theorem dX11_read_50 : decode cX11_read 50 = .ok (.aload_n 0, 1) := by decide +kernel
theorem dX11_read_51 : decode cX11_read 51 = .ok (.iload 4, 2) := by decide +kernel
theorem dX11_read_53 : decode cX11_read 53 = .ok (.invokevirtual 40, 3) := by decide +kernel
theorem dX11_read_56 : decode cX11_read 56 = .ok (.ireturn, 1) := by decide +kernel
theorem dX11_read_57 : decode cX11_read 57 = .ok (.aload_n 0, 1) := by decide +kernel
theorem dX11_read_58 : decode cX11_read 58 = .ok (.getfield 7, 3) := by decide +kernel
theorem dX11_read_61 : decode cX11_read 61 = .ok (.aload_n 0, 1) := by decide +kernel
theorem dX11_read_62 : decode cX11_read 62 = .ok (.getfield 19, 3) := by decide +kernel
theorem dX11_read_65 : decode cX11_read 65 = .ok (.invokestatic 151, 3) := by decide +kernel
theorem dX11_read_68 : decode cX11_read 68 = .ok (.iconst 0, 1) := by decide +kernel
theorem dX11_read_69 : decode cX11_read 69 = .ok (.istore 5, 2) := by decide +kernel
theorem dX11_read_71 : decode cX11_read 71 = .ok (.iconst 0, 1) := by decide +kernel
theorem dX11_read_72 : decode cX11_read 72 = .ok (.istore 6, 2) := by decide +kernel
theorem dX11_read_74 : decode cX11_read 74 = .ok (.iload 6, 2) := by decide +kernel
theorem dX11_read_76 : decode cX11_read 76 = .ok (.bipush 36, 2) := by decide +kernel
theorem dX11_read_78 : decode cX11_read 78 = .ok (.if_icmp .ge 69, 3) := by decide +kernel
theorem dX11_read_81 : decode cX11_read 81 = .ok (.aload_n 0, 1) := by decide +kernel
theorem dX11_read_82 : decode cX11_read 82 = .ok (.getfield 7, 3) := by decide +kernel
theorem dX11_read_85 : decode cX11_read 85 = .ok (.iload_n 2, 1) := by decide +kernel
theorem dX11_read_86 : decode cX11_read 86 = .ok (.iconst 0, 1) := by decide +kernel
theorem dX11_read_87 : decode cX11_read 87 = .ok (.invokestatic 61, 3) := by decide +kernel
theorem dX11_read_90 : decode cX11_read 90 = .ok (.iload 6, 2) := by decide +kernel
theorem dX11_read_92 : decode cX11_read 92 = .ok (.bipush 6, 2) := by decide +kernel
theorem dX11_read_94 : decode cX11_read 94 = .ok (.idiv, 1) := by decide +kernel
theorem dX11_read_95 : decode cX11_read 95 = .ok (.iastore, 1) := by decide +kernel
theorem dX11_read_96 : decode cX11_read 96 = .ok (.aload_n 0, 1) := by decide +kernel
theorem dX11_read_97 : decode cX11_read 97 = .ok (.getfield 7, 3) := by decide +kernel
theorem dX11_read_100 : decode cX11_read 100 = .ok (.iload_n 3, 1) := by decide +kernel
theorem dX11_read_101 : decode cX11_read 101 = .ok (.iconst 0, 1) := by decide +kernel
theorem dX11_read_102 : decode cX11_read 102 = .ok (.invokestatic 61, 3) := by decide +kernel
theorem dX11_read_105 : decode cX11_read 105 = .ok (.iload 6, 2) := by decide +kernel
theorem dX11_read_107 : decode cX11_read 107 = .ok (.bipush 6, 2) := by decide +kernel
theorem dX11_read_109 : decode cX11_read 109 = .ok (.irem, 1) := by decide +kernel
theorem dX11_read_110 : decode cX11_read 110 = .ok (.iastore, 1) := by decide +kernel
theorem dX11_read_111 : decode cX11_read 111 = .ok (.iload 5, 2) := by decide +kernel
theorem dX11_read_113 : decode cX11_read 113 = .ok (.aload_n 0, 1) := by decide +kernel
theorem dX11_read_114 : decode cX11_read 114 = .ok (.iload_n 1, 1) := by decide +kernel
theorem dX11_read_115 : decode cX11_read 115 = .ok (.iload_n 2, 1) := by decide +kernel
theorem dX11_read_116 : decode cX11_read 116 = .ok (.invokevirtual 256, 3) := by decide +kernel
theorem dX11_read_119 : decode cX11_read 119 = .ok (.ifCond .eq 7, 3) := by decide +kernel
theorem dX11_read_122 : decode cX11_read 122 = .ok (.iconst 1, 1) := by decide +kernel
theorem dX11_read_123 : decode cX11_read 123 = .ok (.goto 4, 3) := by decide +kernel
theorem dX11_read_126 : decode cX11_read 126 = .ok (.iconst 0, 1) := by decide +kernel
theorem dX11_read_127 : decode cX11_read 127 = .ok (.iadd, 1) := by decide +kernel
theorem dX11_read_128 : decode cX11_read 128 = .ok (.istore 5, 2) := by decide +kernel
theorem dX11_read_130 : decode cX11_read 130 = .ok (.aload_n 0, 1) := by decide +kernel
theorem dX11_read_131 : decode cX11_read 131 = .ok (.getfield 19, 3) := by decide +kernel
theorem dX11_read_134 : decode cX11_read 134 = .ok (.aload_n 0, 1) := by decide +kernel
theorem dX11_read_135 : decode cX11_read 135 = .ok (.getfield 7, 3) := by decide +kernel
theorem dX11_read_138 : decode cX11_read 138 = .ok (.invokestatic 151, 3) := by decide +kernel
theorem dX11_read_141 : decode cX11_read 141 = .ok (.iinc 6 1, 3) := by decide +kernel
theorem dX11_read_144 : decode cX11_read 144 = .ok (.goto (-70), 3) := by decide +kernel
theorem dX11_read_147 : decode cX11_read 147 = .ok (.iload 5, 2) := by decide +kernel
theorem dX11_read_149 : decode cX11_read 149 = .ok (.ireturn, 1) := by decide +kernel
theorem dX11_image_0 : decode cX11_image 0 = .ok (.aload_n 0, 1) := by decide +kernel
theorem dX11_image_1 : decode cX11_image 1 = .ok (.getfield 7, 3) := by decide +kernel
theorem dX11_image_4 : decode cX11_image 4 = .ok (.aload_n 0, 1) := by decide +kernel
theorem dX11_image_5 : decode cX11_image 5 = .ok (.getfield 13, 3) := by decide +kernel
theorem dX11_image_8 : decode cX11_image 8 = .ok (.invokestatic 151, 3) := by decide +kernel
theorem dX11_image_11 : decode cX11_image 11 = .ok (.aload_n 0, 1) := by decide +kernel
theorem dX11_image_12 : decode cX11_image 12 = .ok (.iconst 1, 1) := by decide +kernel
theorem dX11_image_13 : decode cX11_image 13 = .ok (.putfield 259, 3) := by decide +kernel
theorem dX11_image_16 : decode cX11_image 16 = .ok (.iconst 1, 1) := by decide +kernel
theorem dX11_image_17 : decode cX11_image 17 = .ok (.ireturn, 1) := by decide +kernel
theorem dX11_undo_0 : decode cX11_undo 0 = .ok (.aload_n 0, 1) := by decide +kernel
theorem dX11_undo_1 : decode cX11_undo 1 = .ok (.getfield 259, 3) := by decide +kernel
theorem dX11_undo_4 : decode cX11_undo 4 = .ok (.ifCond .ne 10, 3) := by decide +kernel
theorem dX11_undo_7 : decode cX11_undo 7 = .ok (.aload_n 0, 1) := by decide +kernel
theorem dX11_undo_8 : decode cX11_undo 8 = .ok (.ldc 39, 2) := by decide +kernel
theorem dX11_undo_10 : decode cX11_undo 10 = .ok (.invokevirtual 40, 3) := by decide +kernel
theorem dX11_undo_13 : decode cX11_undo 13 = .ok (.ireturn, 1) := by decide +kernel
theorem dX11_undo_14 : decode cX11_undo 14 = .ok (.aload_n 0, 1) := by decide +kernel
theorem dX11_undo_15 : decode cX11_undo 15 = .ok (.getfield 13, 3) := by decide +kernel
theorem dX11_undo_18 : decode cX11_undo 18 = .ok (.aload_n 0, 1) := by decide +kernel
theorem dX11_undo_19 : decode cX11_undo 19 = .ok (.getfield 7, 3) := by decide +kernel
theorem dX11_undo_22 : decode cX11_undo 22 = .ok (.invokestatic 151, 3) := by decide +kernel
theorem dX11_undo_25 : decode cX11_undo 25 = .ok (.aload_n 0, 1) := by decide +kernel
theorem dX11_undo_26 : decode cX11_undo 26 = .ok (.getfield 7, 3) := by decide +kernel
theorem dX11_undo_29 : decode cX11_undo 29 = .ok (.iconst 0, 1) := by decide +kernel
theorem dX11_undo_30 : decode cX11_undo 30 = .ok (.iaload, 1) := by decide +kernel
theorem dX11_undo_31 : decode cX11_undo 31 = .ok (.ireturn, 1) := by decide +kernel
theorem dX11_tear_0 : decode cX11_tear 0 = .ok (.aload_n 0, 1) := by decide +kernel
theorem dX11_tear_1 : decode cX11_tear 1 = .ok (.getfield 259, 3) := by decide +kernel
theorem dX11_tear_4 : decode cX11_tear 4 = .ok (.istore_n 1, 1) := by decide +kernel
theorem dX11_tear_5 : decode cX11_tear 5 = .ok (.aload_n 0, 1) := by decide +kernel
theorem dX11_tear_6 : decode cX11_tear 6 = .ok (.iconst 0, 1) := by decide +kernel
theorem dX11_tear_7 : decode cX11_tear 7 = .ok (.putfield 259, 3) := by decide +kernel
theorem dX11_tear_10 : decode cX11_tear 10 = .ok (.iload_n 1, 1) := by decide +kernel
theorem dX11_tear_11 : decode cX11_tear 11 = .ok (.ifCond .eq 7, 3) := by decide +kernel
theorem dX11_tear_14 : decode cX11_tear 14 = .ok (.iconst 1, 1) := by decide +kernel
theorem dX11_tear_15 : decode cX11_tear 15 = .ok (.goto 4, 3) := by decide +kernel
theorem dX11_tear_18 : decode cX11_tear 18 = .ok (.iconst 0, 1) := by decide +kernel
theorem dX11_tear_19 : decode cX11_tear 19 = .ok (.ireturn, 1) := by decide +kernel
theorem dX11_count_0 : decode cX11_count 0 = .ok (.iload_n 1, 1) := by decide +kernel
theorem dX11_count_1 : decode cX11_count 1 = .ok (.tableswitch 53 0 3 #[31, 38, 43, 48], 31) := by decide +kernel
theorem dX11_count_32 : decode cX11_count 32 = .ok (.aload_n 0, 1) := by decide +kernel
theorem dX11_count_33 : decode cX11_count 33 = .ok (.getfield 7, 3) := by decide +kernel
theorem dX11_count_36 : decode cX11_count 36 = .ok (.iconst 0, 1) := by decide +kernel
theorem dX11_count_37 : decode cX11_count 37 = .ok (.iaload, 1) := by decide +kernel
theorem dX11_count_38 : decode cX11_count 38 = .ok (.ireturn, 1) := by decide +kernel
theorem dX11_count_39 : decode cX11_count 39 = .ok (.aload_n 0, 1) := by decide +kernel
theorem dX11_count_40 : decode cX11_count 40 = .ok (.getfield 173, 3) := by decide +kernel
theorem dX11_count_43 : decode cX11_count 43 = .ok (.ireturn, 1) := by decide +kernel
theorem dX11_count_44 : decode cX11_count 44 = .ok (.aload_n 0, 1) := by decide +kernel
theorem dX11_count_45 : decode cX11_count 45 = .ok (.invokevirtual 140, 3) := by decide +kernel
theorem dX11_count_48 : decode cX11_count 48 = .ok (.ireturn, 1) := by decide +kernel
theorem dX11_count_49 : decode cX11_count 49 = .ok (.aload_n 0, 1) := by decide +kernel
theorem dX11_count_50 : decode cX11_count 50 = .ok (.invokevirtual 168, 3) := by decide +kernel
theorem dX11_count_53 : decode cX11_count 53 = .ok (.ireturn, 1) := by decide +kernel
theorem dX11_count_54 : decode cX11_count 54 = .ok (.aload_n 0, 1) := by decide +kernel
theorem dX11_count_55 : decode cX11_count 55 = .ok (.ldc 38, 2) := by decide +kernel
theorem dX11_count_57 : decode cX11_count 57 = .ok (.invokevirtual 40, 3) := by decide +kernel
theorem dX11_count_60 : decode cX11_count 60 = .ok (.ireturn, 1) := by decide +kernel
theorem dX11_status_0 : decode cX11_status 0 = .ok (.iload_n 1, 1) := by decide +kernel
theorem dX11_status_1 : decode cX11_status 1 = .ok (.i2l, 1) := by decide +kernel
theorem dX11_status_2 : decode cX11_status 2 = .ok (.ldc2_w 108, 3) := by decide +kernel
theorem dX11_status_5 : decode cX11_status 5 = .ok (.ldc2_w 263, 3) := by decide +kernel
theorem dX11_status_8 : decode cX11_status 8 = .ok (.invokestatic 46, 3) := by decide +kernel
theorem dX11_status_11 : decode cX11_status 11 = .ok (.ifCond .eq 14, 3) := by decide +kernel
theorem dX11_status_14 : decode cX11_status 14 = .ok (.aload_n 0, 1) := by decide +kernel
theorem dX11_status_15 : decode cX11_status 15 = .ok (.getfield 22, 3) := by decide +kernel
theorem dX11_status_18 : decode cX11_status 18 = .ok (.iload_n 1, 1) := by decide +kernel
theorem dX11_status_19 : decode cX11_status 19 = .ok (.iconst 1, 1) := by decide +kernel
theorem dX11_status_20 : decode cX11_status 20 = .ok (.iadd, 1) := by decide +kernel
theorem dX11_status_21 : decode cX11_status 21 = .ok (.iaload, 1) := by decide +kernel
theorem dX11_status_22 : decode cX11_status 22 = .ok (.goto 9, 3) := by decide +kernel
theorem dX11_status_25 : decode cX11_status 25 = .ok (.aload_n 0, 1) := by decide +kernel
theorem dX11_status_26 : decode cX11_status 26 = .ok (.ldc 38, 2) := by decide +kernel
theorem dX11_status_28 : decode cX11_status 28 = .ok (.invokevirtual 40, 3) := by decide +kernel
theorem dX11_status_31 : decode cX11_status 31 = .ok (.ireturn, 1) := by decide +kernel
theorem dJ6_bitCount_0f7a4_0 : decode cJ6_bitCount_0f7a4 0 = .ok (.iload_n 0, 1) := by decide +kernel
theorem dJ6_bitCount_0f7a4_1 : decode cJ6_bitCount_0f7a4 1 = .ok (.iload_n 0, 1) := by decide +kernel
theorem dJ6_bitCount_0f7a4_2 : decode cJ6_bitCount_0f7a4 2 = .ok (.iconst 1, 1) := by decide +kernel
theorem dJ6_bitCount_0f7a4_3 : decode cJ6_bitCount_0f7a4 3 = .ok (.iushr, 1) := by decide +kernel
theorem dJ6_bitCount_0f7a4_4 : decode cJ6_bitCount_0f7a4 4 = .ok (.ldc_w 265, 3) := by decide +kernel
theorem dJ6_bitCount_0f7a4_7 : decode cJ6_bitCount_0f7a4 7 = .ok (.iand, 1) := by decide +kernel
theorem dJ6_bitCount_0f7a4_8 : decode cJ6_bitCount_0f7a4 8 = .ok (.isub, 1) := by decide +kernel
theorem dJ6_bitCount_0f7a4_9 : decode cJ6_bitCount_0f7a4 9 = .ok (.istore_n 0, 1) := by decide +kernel
theorem dJ6_bitCount_0f7a4_10 : decode cJ6_bitCount_0f7a4 10 = .ok (.iload_n 0, 1) := by decide +kernel
theorem dJ6_bitCount_0f7a4_11 : decode cJ6_bitCount_0f7a4 11 = .ok (.ldc_w 266, 3) := by decide +kernel
theorem dJ6_bitCount_0f7a4_14 : decode cJ6_bitCount_0f7a4 14 = .ok (.iand, 1) := by decide +kernel
theorem dJ6_bitCount_0f7a4_15 : decode cJ6_bitCount_0f7a4 15 = .ok (.iload_n 0, 1) := by decide +kernel
theorem dJ6_bitCount_0f7a4_16 : decode cJ6_bitCount_0f7a4 16 = .ok (.iconst 2, 1) := by decide +kernel
theorem dJ6_bitCount_0f7a4_17 : decode cJ6_bitCount_0f7a4 17 = .ok (.iushr, 1) := by decide +kernel
theorem dJ6_bitCount_0f7a4_18 : decode cJ6_bitCount_0f7a4 18 = .ok (.ldc_w 266, 3) := by decide +kernel
theorem dJ6_bitCount_0f7a4_21 : decode cJ6_bitCount_0f7a4 21 = .ok (.iand, 1) := by decide +kernel
theorem dJ6_bitCount_0f7a4_22 : decode cJ6_bitCount_0f7a4 22 = .ok (.iadd, 1) := by decide +kernel
theorem dJ6_bitCount_0f7a4_23 : decode cJ6_bitCount_0f7a4 23 = .ok (.istore_n 0, 1) := by decide +kernel
theorem dJ6_bitCount_0f7a4_24 : decode cJ6_bitCount_0f7a4 24 = .ok (.iload_n 0, 1) := by decide +kernel
theorem dJ6_bitCount_0f7a4_25 : decode cJ6_bitCount_0f7a4 25 = .ok (.iload_n 0, 1) := by decide +kernel
theorem dJ6_bitCount_0f7a4_26 : decode cJ6_bitCount_0f7a4 26 = .ok (.iconst 4, 1) := by decide +kernel
theorem dJ6_bitCount_0f7a4_27 : decode cJ6_bitCount_0f7a4 27 = .ok (.iushr, 1) := by decide +kernel
theorem dJ6_bitCount_0f7a4_28 : decode cJ6_bitCount_0f7a4 28 = .ok (.iadd, 1) := by decide +kernel
theorem dJ6_bitCount_0f7a4_29 : decode cJ6_bitCount_0f7a4 29 = .ok (.ldc_w 267, 3) := by decide +kernel
theorem dJ6_bitCount_0f7a4_32 : decode cJ6_bitCount_0f7a4 32 = .ok (.iand, 1) := by decide +kernel
theorem dJ6_bitCount_0f7a4_33 : decode cJ6_bitCount_0f7a4 33 = .ok (.istore_n 0, 1) := by decide +kernel
theorem dJ6_bitCount_0f7a4_34 : decode cJ6_bitCount_0f7a4 34 = .ok (.iload_n 0, 1) := by decide +kernel
theorem dJ6_bitCount_0f7a4_35 : decode cJ6_bitCount_0f7a4 35 = .ok (.iload_n 0, 1) := by decide +kernel
theorem dJ6_bitCount_0f7a4_36 : decode cJ6_bitCount_0f7a4 36 = .ok (.bipush 8, 2) := by decide +kernel
theorem dJ6_bitCount_0f7a4_38 : decode cJ6_bitCount_0f7a4 38 = .ok (.iushr, 1) := by decide +kernel
theorem dJ6_bitCount_0f7a4_39 : decode cJ6_bitCount_0f7a4 39 = .ok (.iadd, 1) := by decide +kernel
theorem dJ6_bitCount_0f7a4_40 : decode cJ6_bitCount_0f7a4 40 = .ok (.istore_n 0, 1) := by decide +kernel
theorem dJ6_bitCount_0f7a4_41 : decode cJ6_bitCount_0f7a4 41 = .ok (.iload_n 0, 1) := by decide +kernel
theorem dJ6_bitCount_0f7a4_42 : decode cJ6_bitCount_0f7a4 42 = .ok (.iload_n 0, 1) := by decide +kernel
theorem dJ6_bitCount_0f7a4_43 : decode cJ6_bitCount_0f7a4 43 = .ok (.bipush 16, 2) := by decide +kernel
theorem dJ6_bitCount_0f7a4_45 : decode cJ6_bitCount_0f7a4 45 = .ok (.iushr, 1) := by decide +kernel
theorem dJ6_bitCount_0f7a4_46 : decode cJ6_bitCount_0f7a4 46 = .ok (.iadd, 1) := by decide +kernel
theorem dJ6_bitCount_0f7a4_47 : decode cJ6_bitCount_0f7a4 47 = .ok (.istore_n 0, 1) := by decide +kernel
theorem dJ6_bitCount_0f7a4_48 : decode cJ6_bitCount_0f7a4 48 = .ok (.iload_n 0, 1) := by decide +kernel
theorem dJ6_bitCount_0f7a4_49 : decode cJ6_bitCount_0f7a4 49 = .ok (.bipush 63, 2) := by decide +kernel
theorem dJ6_bitCount_0f7a4_51 : decode cJ6_bitCount_0f7a4 51 = .ok (.iand, 1) := by decide +kernel
theorem dJ6_bitCount_0f7a4_52 : decode cJ6_bitCount_0f7a4 52 = .ok (.ireturn, 1) := by decide +kernel
theorem dJ9_min_7cf53_0 : decode cJ9_min_7cf53 0 = .ok (.iload_n 0, 1) := by decide +kernel
theorem dJ9_min_7cf53_1 : decode cJ9_min_7cf53 1 = .ok (.iload_n 1, 1) := by decide +kernel
theorem dJ9_min_7cf53_2 : decode cJ9_min_7cf53 2 = .ok (.if_icmp .gt 7, 3) := by decide +kernel
theorem dJ9_min_7cf53_5 : decode cJ9_min_7cf53 5 = .ok (.iload_n 0, 1) := by decide +kernel
theorem dJ9_min_7cf53_6 : decode cJ9_min_7cf53 6 = .ok (.goto 4, 3) := by decide +kernel
theorem dJ9_min_7cf53_9 : decode cJ9_min_7cf53 9 = .ok (.iload_n 1, 1) := by decide +kernel
theorem dJ9_min_7cf53_10 : decode cJ9_min_7cf53 10 = .ok (.ireturn, 1) := by decide +kernel
theorem dJ0_length_8abf5_0 : decode cJ0_length_8abf5 0 = .ok (.aload_n 0, 1) := by decide +kernel
theorem dJ0_length_8abf5_1 : decode cJ0_length_8abf5 1 = .ok (.getfield 9, 3) := by decide +kernel
theorem dJ0_length_8abf5_4 : decode cJ0_length_8abf5 4 = .ok (.arraylength, 1) := by decide +kernel
theorem dJ0_length_8abf5_5 : decode cJ0_length_8abf5 5 = .ok (.aload_n 0, 1) := by decide +kernel
theorem dJ0_length_8abf5_6 : decode cJ0_length_8abf5 6 = .ok (.invokevirtual 335, 3) := by decide +kernel
theorem dJ0_length_8abf5_9 : decode cJ0_length_8abf5 9 = .ok (.ishr, 1) := by decide +kernel
theorem dJ0_length_8abf5_10 : decode cJ0_length_8abf5 10 = .ok (.ireturn, 1) := by decide +kernel
theorem dJ0_charAt_5068e_0 : decode cJ0_charAt_5068e 0 = .ok (.aload_n 0, 1) := by decide +kernel
theorem dJ0_charAt_5068e_1 : decode cJ0_charAt_5068e 1 = .ok (.invokevirtual 492, 3) := by decide +kernel
theorem dJ0_charAt_5068e_4 : decode cJ0_charAt_5068e 4 = .ok (.ifCond .eq 12, 3) := by decide +kernel
theorem dJ0_charAt_5068e_7 : decode cJ0_charAt_5068e 7 = .ok (.aload_n 0, 1) := by decide +kernel
theorem dJ0_charAt_5068e_8 : decode cJ0_charAt_5068e 8 = .ok (.getfield 9, 3) := by decide +kernel
theorem dJ0_charAt_5068e_11 : decode cJ0_charAt_5068e 11 = .ok (.iload_n 1, 1) := by decide +kernel
theorem dJ0_charAt_5068e_12 : decode cJ0_charAt_5068e 12 = .ok (.invokestatic 495, 3) := by decide +kernel
theorem dJ0_charAt_5068e_15 : decode cJ0_charAt_5068e 15 = .ok (.ireturn, 1) := by decide +kernel
theorem dJ0_charAt_5068e_16 : decode cJ0_charAt_5068e 16 = .ok (.aload_n 0, 1) := by decide +kernel
theorem dJ0_charAt_5068e_17 : decode cJ0_charAt_5068e 17 = .ok (.getfield 9, 3) := by decide +kernel
theorem dJ0_charAt_5068e_20 : decode cJ0_charAt_5068e 20 = .ok (.iload_n 1, 1) := by decide +kernel
theorem dJ0_charAt_5068e_21 : decode cJ0_charAt_5068e 21 = .ok (.invokestatic 498, 3) := by decide +kernel
theorem dJ0_charAt_5068e_24 : decode cJ0_charAt_5068e 24 = .ok (.ireturn, 1) := by decide +kernel
theorem dJ0_coder_7d493_0 : decode cJ0_coder_7d493 0 = .ok (.getstatic 38, 3) := by decide +kernel
theorem dJ0_coder_7d493_3 : decode cJ0_coder_7d493 3 = .ok (.ifCond .eq 10, 3) := by decide +kernel
theorem dJ0_coder_7d493_6 : decode cJ0_coder_7d493 6 = .ok (.aload_n 0, 1) := by decide +kernel
theorem dJ0_coder_7d493_7 : decode cJ0_coder_7d493 7 = .ok (.getfield 15, 3) := by decide +kernel
theorem dJ0_coder_7d493_10 : decode cJ0_coder_7d493 10 = .ok (.goto 4, 3) := by decide +kernel
theorem dJ0_coder_7d493_13 : decode cJ0_coder_7d493 13 = .ok (.iconst 1, 1) := by decide +kernel
theorem dJ0_coder_7d493_14 : decode cJ0_coder_7d493 14 = .ok (.ireturn, 1) := by decide +kernel
theorem dJ0_isLatin1_aae02_0 : decode cJ0_isLatin1_aae02 0 = .ok (.getstatic 38, 3) := by decide +kernel
theorem dJ0_isLatin1_aae02_3 : decode cJ0_isLatin1_aae02 3 = .ok (.ifCond .eq 14, 3) := by decide +kernel
theorem dJ0_isLatin1_aae02_6 : decode cJ0_isLatin1_aae02 6 = .ok (.aload_n 0, 1) := by decide +kernel
theorem dJ0_isLatin1_aae02_7 : decode cJ0_isLatin1_aae02 7 = .ok (.getfield 15, 3) := by decide +kernel
theorem dJ0_isLatin1_aae02_10 : decode cJ0_isLatin1_aae02 10 = .ok (.ifCond .ne 7, 3) := by decide +kernel
theorem dJ0_isLatin1_aae02_13 : decode cJ0_isLatin1_aae02 13 = .ok (.iconst 1, 1) := by decide +kernel
theorem dJ0_isLatin1_aae02_14 : decode cJ0_isLatin1_aae02 14 = .ok (.goto 4, 3) := by decide +kernel
theorem dJ0_isLatin1_aae02_17 : decode cJ0_isLatin1_aae02 17 = .ok (.iconst 0, 1) := by decide +kernel
theorem dJ0_isLatin1_aae02_18 : decode cJ0_isLatin1_aae02 18 = .ok (.ireturn, 1) := by decide +kernel
theorem dJ0_checkIndex_df160_0 : decode cJ0_checkIndex_df160 0 = .ok (.iload_n 0, 1) := by decide +kernel
theorem dJ0_checkIndex_df160_1 : decode cJ0_checkIndex_df160 1 = .ok (.iload_n 1, 1) := by decide +kernel
theorem dJ0_checkIndex_df160_2 : decode cJ0_checkIndex_df160 2 = .ok (.getstatic 1053, 3) := by decide +kernel
theorem dJ0_checkIndex_df160_5 : decode cJ0_checkIndex_df160 5 = .ok (.invokestatic 1059, 3) := by decide +kernel
theorem dJ0_checkIndex_df160_8 : decode cJ0_checkIndex_df160 8 = .ok (.pop, 1) := by decide +kernel
theorem dJ0_checkIndex_df160_9 : decode cJ0_checkIndex_df160 9 = .ok (.return_, 1) := by decide +kernel
theorem dJ1_charAt_3b067_0 : decode cJ1_charAt_3b067 0 = .ok (.iload_n 1, 1) := by decide +kernel
theorem dJ1_charAt_3b067_1 : decode cJ1_charAt_3b067 1 = .ok (.aload_n 0, 1) := by decide +kernel
theorem dJ1_charAt_3b067_2 : decode cJ1_charAt_3b067 2 = .ok (.arraylength, 1) := by decide +kernel
theorem dJ1_charAt_3b067_3 : decode cJ1_charAt_3b067 3 = .ok (.invokestatic 9, 3) := by decide +kernel
theorem dJ1_charAt_3b067_6 : decode cJ1_charAt_3b067 6 = .ok (.aload_n 0, 1) := by decide +kernel
theorem dJ1_charAt_3b067_7 : decode cJ1_charAt_3b067 7 = .ok (.iload_n 1, 1) := by decide +kernel
theorem dJ1_charAt_3b067_8 : decode cJ1_charAt_3b067 8 = .ok (.baload, 1) := by decide +kernel
theorem dJ1_charAt_3b067_9 : decode cJ1_charAt_3b067 9 = .ok (.sipush 255, 3) := by decide +kernel
theorem dJ1_charAt_3b067_12 : decode cJ1_charAt_3b067 12 = .ok (.iand, 1) := by decide +kernel
theorem dJ1_charAt_3b067_13 : decode cJ1_charAt_3b067 13 = .ok (.i2c, 1) := by decide +kernel
theorem dJ1_charAt_3b067_14 : decode cJ1_charAt_3b067 14 = .ok (.ireturn, 1) := by decide +kernel
theorem dJ2_getChar_3b067_0 : decode cJ2_getChar_3b067 0 = .ok (.getstatic 44, 3) := by decide +kernel
theorem dJ2_getChar_3b067_3 : decode cJ2_getChar_3b067 3 = .ok (.ifCond .ne 25, 3) := by decide +kernel
theorem dJ2_getChar_3b067_6 : decode cJ2_getChar_3b067 6 = .ok (.iload_n 1, 1) := by decide +kernel
theorem dJ2_getChar_3b067_7 : decode cJ2_getChar_3b067 7 = .ok (.ifCond .lt 11, 3) := by decide +kernel
theorem dJ2_getChar_3b067_10 : decode cJ2_getChar_3b067 10 = .ok (.iload_n 1, 1) := by decide +kernel
theorem dJ2_getChar_3b067_11 : decode cJ2_getChar_3b067 11 = .ok (.aload_n 0, 1) := by decide +kernel
theorem dJ2_getChar_3b067_12 : decode cJ2_getChar_3b067 12 = .ok (.invokestatic 48, 3) := by decide +kernel
theorem dJ2_getChar_3b067_15 : decode cJ2_getChar_3b067 15 = .ok (.if_icmp .lt 13, 3) := by decide +kernel
theorem dJ2_getChar_3b067_18 : decode cJ2_getChar_3b067 18 = .ok (.new 52, 3) := by decide +kernel
theorem dJ2_getChar_3b067_21 : decode cJ2_getChar_3b067 21 = .ok (.dup, 1) := by decide +kernel
theorem dJ2_getChar_3b067_22 : decode cJ2_getChar_3b067 22 = .ok (.ldc 54, 2) := by decide +kernel
theorem dJ2_getChar_3b067_24 : decode cJ2_getChar_3b067 24 = .ok (.invokespecial 56, 3) := by decide +kernel
theorem dJ2_getChar_3b067_27 : decode cJ2_getChar_3b067 27 = .ok (.athrow, 1) := by decide +kernel
theorem dJ2_getChar_3b067_28 : decode cJ2_getChar_3b067 28 = .ok (.iload_n 1, 1) := by decide +kernel
theorem dJ2_getChar_3b067_29 : decode cJ2_getChar_3b067 29 = .ok (.iconst 1, 1) := by decide +kernel
theorem dJ2_getChar_3b067_30 : decode cJ2_getChar_3b067 30 = .ok (.ishl, 1) := by decide +kernel
theorem dJ2_getChar_3b067_31 : decode cJ2_getChar_3b067 31 = .ok (.istore_n 1, 1) := by decide +kernel
theorem dJ2_getChar_3b067_32 : decode cJ2_getChar_3b067 32 = .ok (.aload_n 0, 1) := by decide +kernel
theorem dJ2_getChar_3b067_33 : decode cJ2_getChar_3b067 33 = .ok (.iload_n 1, 1) := by decide +kernel
theorem dJ2_getChar_3b067_34 : decode cJ2_getChar_3b067 34 = .ok (.iinc 1 1, 3) := by decide +kernel
theorem dJ2_getChar_3b067_37 : decode cJ2_getChar_3b067 37 = .ok (.baload, 1) := by decide +kernel
theorem dJ2_getChar_3b067_38 : decode cJ2_getChar_3b067 38 = .ok (.sipush 255, 3) := by decide +kernel
theorem dJ2_getChar_3b067_41 : decode cJ2_getChar_3b067 41 = .ok (.iand, 1) := by decide +kernel
theorem dJ2_getChar_3b067_42 : decode cJ2_getChar_3b067 42 = .ok (.getstatic 59, 3) := by decide +kernel
theorem dJ2_getChar_3b067_45 : decode cJ2_getChar_3b067 45 = .ok (.ishl, 1) := by decide +kernel
theorem dJ2_getChar_3b067_46 : decode cJ2_getChar_3b067 46 = .ok (.aload_n 0, 1) := by decide +kernel
theorem dJ2_getChar_3b067_47 : decode cJ2_getChar_3b067 47 = .ok (.iload_n 1, 1) := by decide +kernel
theorem dJ2_getChar_3b067_48 : decode cJ2_getChar_3b067 48 = .ok (.baload, 1) := by decide +kernel
theorem dJ2_getChar_3b067_49 : decode cJ2_getChar_3b067 49 = .ok (.sipush 255, 3) := by decide +kernel
theorem dJ2_getChar_3b067_52 : decode cJ2_getChar_3b067 52 = .ok (.iand, 1) := by decide +kernel
theorem dJ2_getChar_3b067_53 : decode cJ2_getChar_3b067 53 = .ok (.getstatic 63, 3) := by decide +kernel
theorem dJ2_getChar_3b067_56 : decode cJ2_getChar_3b067 56 = .ok (.ishl, 1) := by decide +kernel
theorem dJ2_getChar_3b067_57 : decode cJ2_getChar_3b067 57 = .ok (.ior, 1) := by decide +kernel
theorem dJ2_getChar_3b067_58 : decode cJ2_getChar_3b067 58 = .ok (.i2c, 1) := by decide +kernel
theorem dJ2_getChar_3b067_59 : decode cJ2_getChar_3b067 59 = .ok (.ireturn, 1) := by decide +kernel
theorem dJ2_length_9d52b_0 : decode cJ2_length_9d52b 0 = .ok (.aload_n 0, 1) := by decide +kernel
theorem dJ2_length_9d52b_1 : decode cJ2_length_9d52b 1 = .ok (.arraylength, 1) := by decide +kernel
theorem dJ2_length_9d52b_2 : decode cJ2_length_9d52b 2 = .ok (.iconst 1, 1) := by decide +kernel
theorem dJ2_length_9d52b_3 : decode cJ2_length_9d52b 3 = .ok (.ishr, 1) := by decide +kernel
theorem dJ2_length_9d52b_4 : decode cJ2_length_9d52b 4 = .ok (.ireturn, 1) := by decide +kernel
theorem dJ2_charAt_3b067_0 : decode cJ2_charAt_3b067 0 = .ok (.iload_n 1, 1) := by decide +kernel
theorem dJ2_charAt_3b067_1 : decode cJ2_charAt_3b067 1 = .ok (.aload_n 0, 1) := by decide +kernel
theorem dJ2_charAt_3b067_2 : decode cJ2_charAt_3b067 2 = .ok (.invokestatic 67, 3) := by decide +kernel
theorem dJ2_charAt_3b067_5 : decode cJ2_charAt_3b067 5 = .ok (.aload_n 0, 1) := by decide +kernel
theorem dJ2_charAt_3b067_6 : decode cJ2_charAt_3b067 6 = .ok (.iload_n 1, 1) := by decide +kernel
theorem dJ2_charAt_3b067_7 : decode cJ2_charAt_3b067 7 = .ok (.invokestatic 71, 3) := by decide +kernel
theorem dJ2_charAt_3b067_10 : decode cJ2_charAt_3b067 10 = .ok (.ireturn, 1) := by decide +kernel
theorem dJ2_checkIndex_2214a_0 : decode cJ2_checkIndex_2214a 0 = .ok (.iload_n 0, 1) := by decide +kernel
theorem dJ2_checkIndex_2214a_1 : decode cJ2_checkIndex_2214a 1 = .ok (.aload_n 1, 1) := by decide +kernel
theorem dJ2_checkIndex_2214a_2 : decode cJ2_checkIndex_2214a 2 = .ok (.invokestatic 48, 3) := by decide +kernel
theorem dJ2_checkIndex_2214a_5 : decode cJ2_checkIndex_2214a 5 = .ok (.invokestatic 414, 3) := by decide +kernel
theorem dJ2_checkIndex_2214a_8 : decode cJ2_checkIndex_2214a 8 = .ok (.return_, 1) := by decide +kernel
theorem dJ3_checkIndex_8e157_0 : decode cJ3_checkIndex_8e157 0 = .ok (.iload_n 0, 1) := by decide +kernel
theorem dJ3_checkIndex_8e157_1 : decode cJ3_checkIndex_8e157 1 = .ok (.ifCond .lt 8, 3) := by decide +kernel
theorem dJ3_checkIndex_8e157_4 : decode cJ3_checkIndex_8e157 4 = .ok (.iload_n 0, 1) := by decide +kernel
theorem dJ3_checkIndex_8e157_5 : decode cJ3_checkIndex_8e157 5 = .ok (.iload_n 1, 1) := by decide +kernel
theorem dJ3_checkIndex_8e157_6 : decode cJ3_checkIndex_8e157 6 = .ok (.if_icmp .lt 10, 3) := by decide +kernel
theorem dJ3_checkIndex_8e157_9 : decode cJ3_checkIndex_8e157 9 = .ok (.aload_n 2, 1) := by decide +kernel
theorem dJ3_checkIndex_8e157_10 : decode cJ3_checkIndex_8e157 10 = .ok (.iload_n 0, 1) := by decide +kernel
theorem dJ3_checkIndex_8e157_11 : decode cJ3_checkIndex_8e157 11 = .ok (.iload_n 1, 1) := by decide +kernel
theorem dJ3_checkIndex_8e157_12 : decode cJ3_checkIndex_8e157 12 = .ok (.invokestatic 95, 3) := by decide +kernel
theorem dJ3_checkIndex_8e157_15 : decode cJ3_checkIndex_8e157 15 = .ok (.athrow, 1) := by decide +kernel
theorem dJ3_checkIndex_8e157_16 : decode cJ3_checkIndex_8e157 16 = .ok (.iload_n 0, 1) := by decide +kernel
theorem dJ3_checkIndex_8e157_17 : decode cJ3_checkIndex_8e157 17 = .ok (.ireturn, 1) := by decide +kernel
theorem dL_law_0 : decode cL_law 0 = .ok (.new 7, 3) := by decide +kernel
theorem dL_law_3 : decode cL_law 3 = .ok (.dup, 1) := by decide +kernel
theorem dL_law_4 : decode cL_law 4 = .ok (.invokespecial 9, 3) := by decide +kernel
theorem dL_law_7 : decode cL_law 7 = .ok (.astore_n 1, 1) := by decide +kernel
theorem dL_law_8 : decode cL_law 8 = .ok (.new 10, 3) := by decide +kernel
theorem dL_law_11 : decode cL_law 11 = .ok (.dup, 1) := by decide +kernel
theorem dL_law_12 : decode cL_law 12 = .ok (.invokespecial 12, 3) := by decide +kernel
theorem dL_law_15 : decode cL_law 15 = .ok (.astore_n 2, 1) := by decide +kernel
theorem dL_law_16 : decode cL_law 16 = .ok (.iconst 0, 1) := by decide +kernel
theorem dL_law_17 : decode cL_law 17 = .ok (.istore_n 3, 1) := by decide +kernel
theorem dL_law_18 : decode cL_law 18 = .ok (.iload_n 3, 1) := by decide +kernel
theorem dL_law_19 : decode cL_law 19 = .ok (.aload_n 0, 1) := by decide +kernel
theorem dL_law_20 : decode cL_law 20 = .ok (.arraylength, 1) := by decide +kernel
theorem dL_law_21 : decode cL_law 21 = .ok (.bipush 6, 2) := by decide +kernel
theorem dL_law_23 : decode cL_law 23 = .ok (.isub, 1) := by decide +kernel
theorem dL_law_24 : decode cL_law 24 = .ok (.if_icmp .gt 1236, 3) := by decide +kernel
theorem dL_law_27 : decode cL_law 27 = .ok (.aload_n 0, 1) := by decide +kernel
theorem dL_law_28 : decode cL_law 28 = .ok (.iload_n 3, 1) := by decide +kernel
theorem dL_law_29 : decode cL_law 29 = .ok (.iaload, 1) := by decide +kernel
theorem dL_law_30 : decode cL_law 30 = .ok (.bipush 63, 2) := by decide +kernel
theorem dL_law_32 : decode cL_law 32 = .ok (.iand, 1) := by decide +kernel
theorem dL_law_33 : decode cL_law 33 = .ok (.tableswitch 1221 0 34 #[155, 178, 211, 234, 267, 310, 343, 376, 409, 442, 465, 488, 531, 564, 587, 620, 653, 686, 719, 752, 775, 798, 831, 844, 857, 900, 974, 1037, 1060, 1093, 1136, 1149, 1162, 1175, 1198], 155) := by decide +kernel
theorem dL_law_188 : decode cL_law 188 = .ok (.aload_n 1, 1) := by decide +kernel
theorem dL_law_189 : decode cL_law 189 = .ok (.aload_n 0, 1) := by decide +kernel
theorem dL_law_190 : decode cL_law 190 = .ok (.iload_n 3, 1) := by decide +kernel
theorem dL_law_191 : decode cL_law 191 = .ok (.iconst 1, 1) := by decide +kernel
theorem dL_law_192 : decode cL_law 192 = .ok (.iadd, 1) := by decide +kernel
theorem dL_law_193 : decode cL_law 193 = .ok (.iaload, 1) := by decide +kernel
theorem dL_law_194 : decode cL_law 194 = .ok (.invokevirtual 13, 3) := by decide +kernel
theorem dL_law_197 : decode cL_law 197 = .ok (.aload_n 2, 1) := by decide +kernel
theorem dL_law_198 : decode cL_law 198 = .ok (.aload_n 0, 1) := by decide +kernel
theorem dL_law_199 : decode cL_law 199 = .ok (.iload_n 3, 1) := by decide +kernel
theorem dL_law_200 : decode cL_law 200 = .ok (.iconst 1, 1) := by decide +kernel
theorem dL_law_201 : decode cL_law 201 = .ok (.iadd, 1) := by decide +kernel
theorem dL_law_202 : decode cL_law 202 = .ok (.iaload, 1) := by decide +kernel
theorem dL_law_203 : decode cL_law 203 = .ok (.invokevirtual 17, 3) := by decide +kernel
theorem dL_law_206 : decode cL_law 206 = .ok (.if_icmp .eq 1048, 3) := by decide +kernel
theorem dL_law_209 : decode cL_law 209 = .ok (.iconst 0, 1) := by decide +kernel
theorem dL_law_210 : decode cL_law 210 = .ok (.ireturn, 1) := by decide +kernel
theorem dL_law_211 : decode cL_law 211 = .ok (.aload_n 1, 1) := by decide +kernel
theorem dL_law_212 : decode cL_law 212 = .ok (.aload_n 0, 1) := by decide +kernel
theorem dL_law_213 : decode cL_law 213 = .ok (.iload_n 3, 1) := by decide +kernel
theorem dL_law_214 : decode cL_law 214 = .ok (.iconst 1, 1) := by decide +kernel
theorem dL_law_215 : decode cL_law 215 = .ok (.iadd, 1) := by decide +kernel
theorem dL_law_216 : decode cL_law 216 = .ok (.iaload, 1) := by decide +kernel
theorem dL_law_217 : decode cL_law 217 = .ok (.aload_n 0, 1) := by decide +kernel
theorem dL_law_218 : decode cL_law 218 = .ok (.iload_n 3, 1) := by decide +kernel
theorem dL_law_219 : decode cL_law 219 = .ok (.iconst 2, 1) := by decide +kernel
theorem dL_law_220 : decode cL_law 220 = .ok (.iadd, 1) := by decide +kernel
theorem dL_law_221 : decode cL_law 221 = .ok (.iaload, 1) := by decide +kernel
theorem dL_law_222 : decode cL_law 222 = .ok (.invokevirtual 18, 3) := by decide +kernel
theorem dL_law_225 : decode cL_law 225 = .ok (.aload_n 2, 1) := by decide +kernel
theorem dL_law_226 : decode cL_law 226 = .ok (.aload_n 0, 1) := by decide +kernel
theorem dL_law_227 : decode cL_law 227 = .ok (.iload_n 3, 1) := by decide +kernel
theorem dL_law_228 : decode cL_law 228 = .ok (.iconst 1, 1) := by decide +kernel
theorem dL_law_229 : decode cL_law 229 = .ok (.iadd, 1) := by decide +kernel
theorem dL_law_230 : decode cL_law 230 = .ok (.iaload, 1) := by decide +kernel
theorem dL_law_231 : decode cL_law 231 = .ok (.aload_n 0, 1) := by decide +kernel
theorem dL_law_232 : decode cL_law 232 = .ok (.iload_n 3, 1) := by decide +kernel
theorem dL_law_233 : decode cL_law 233 = .ok (.iconst 2, 1) := by decide +kernel
theorem dL_law_234 : decode cL_law 234 = .ok (.iadd, 1) := by decide +kernel
theorem dL_law_235 : decode cL_law 235 = .ok (.iaload, 1) := by decide +kernel
theorem dL_law_236 : decode cL_law 236 = .ok (.invokevirtual 22, 3) := by decide +kernel
theorem dL_law_239 : decode cL_law 239 = .ok (.if_icmp .eq 1015, 3) := by decide +kernel
theorem dL_law_242 : decode cL_law 242 = .ok (.iconst 0, 1) := by decide +kernel
theorem dL_law_243 : decode cL_law 243 = .ok (.ireturn, 1) := by decide +kernel
theorem dL_law_244 : decode cL_law 244 = .ok (.aload_n 1, 1) := by decide +kernel
theorem dL_law_245 : decode cL_law 245 = .ok (.aload_n 0, 1) := by decide +kernel
theorem dL_law_246 : decode cL_law 246 = .ok (.iload_n 3, 1) := by decide +kernel
theorem dL_law_247 : decode cL_law 247 = .ok (.iconst 1, 1) := by decide +kernel
theorem dL_law_248 : decode cL_law 248 = .ok (.iadd, 1) := by decide +kernel
theorem dL_law_249 : decode cL_law 249 = .ok (.iaload, 1) := by decide +kernel
theorem dL_law_250 : decode cL_law 250 = .ok (.invokevirtual 23, 3) := by decide +kernel
theorem dL_law_253 : decode cL_law 253 = .ok (.aload_n 2, 1) := by decide +kernel
theorem dL_law_254 : decode cL_law 254 = .ok (.aload_n 0, 1) := by decide +kernel
theorem dL_law_255 : decode cL_law 255 = .ok (.iload_n 3, 1) := by decide +kernel
theorem dL_law_256 : decode cL_law 256 = .ok (.iconst 1, 1) := by decide +kernel
theorem dL_law_257 : decode cL_law 257 = .ok (.iadd, 1) := by decide +kernel
theorem dL_law_258 : decode cL_law 258 = .ok (.iaload, 1) := by decide +kernel
theorem dL_law_259 : decode cL_law 259 = .ok (.invokevirtual 26, 3) := by decide +kernel
theorem dL_law_262 : decode cL_law 262 = .ok (.if_icmp .eq 992, 3) := by decide +kernel
theorem dL_law_265 : decode cL_law 265 = .ok (.iconst 0, 1) := by decide +kernel
theorem dL_law_266 : decode cL_law 266 = .ok (.ireturn, 1) := by decide +kernel
theorem dL_law_267 : decode cL_law 267 = .ok (.aload_n 1, 1) := by decide +kernel
theorem dL_law_268 : decode cL_law 268 = .ok (.aload_n 0, 1) := by decide +kernel
theorem dL_law_269 : decode cL_law 269 = .ok (.iload_n 3, 1) := by decide +kernel
theorem dL_law_270 : decode cL_law 270 = .ok (.iconst 1, 1) := by decide +kernel
theorem dL_law_271 : decode cL_law 271 = .ok (.iadd, 1) := by decide +kernel
theorem dL_law_272 : decode cL_law 272 = .ok (.iaload, 1) := by decide +kernel
theorem dL_law_273 : decode cL_law 273 = .ok (.aload_n 0, 1) := by decide +kernel
theorem dL_law_274 : decode cL_law 274 = .ok (.iload_n 3, 1) := by decide +kernel
theorem dL_law_275 : decode cL_law 275 = .ok (.iconst 2, 1) := by decide +kernel
theorem dL_law_276 : decode cL_law 276 = .ok (.iadd, 1) := by decide +kernel
theorem dL_law_277 : decode cL_law 277 = .ok (.iaload, 1) := by decide +kernel
theorem dL_law_278 : decode cL_law 278 = .ok (.invokevirtual 27, 3) := by decide +kernel
theorem dL_law_281 : decode cL_law 281 = .ok (.aload_n 2, 1) := by decide +kernel
theorem dL_law_282 : decode cL_law 282 = .ok (.aload_n 0, 1) := by decide +kernel
theorem dL_law_283 : decode cL_law 283 = .ok (.iload_n 3, 1) := by decide +kernel
theorem dL_law_284 : decode cL_law 284 = .ok (.iconst 1, 1) := by decide +kernel
theorem dL_law_285 : decode cL_law 285 = .ok (.iadd, 1) := by decide +kernel
theorem dL_law_286 : decode cL_law 286 = .ok (.iaload, 1) := by decide +kernel
theorem dL_law_287 : decode cL_law 287 = .ok (.aload_n 0, 1) := by decide +kernel
theorem dL_law_288 : decode cL_law 288 = .ok (.iload_n 3, 1) := by decide +kernel
theorem dL_law_289 : decode cL_law 289 = .ok (.iconst 2, 1) := by decide +kernel
theorem dL_law_290 : decode cL_law 290 = .ok (.iadd, 1) := by decide +kernel
theorem dL_law_291 : decode cL_law 291 = .ok (.iaload, 1) := by decide +kernel
theorem dL_law_292 : decode cL_law 292 = .ok (.invokevirtual 30, 3) := by decide +kernel
theorem dL_law_295 : decode cL_law 295 = .ok (.if_icmp .eq 959, 3) := by decide +kernel
theorem dL_law_298 : decode cL_law 298 = .ok (.iconst 0, 1) := by decide +kernel
theorem dL_law_299 : decode cL_law 299 = .ok (.ireturn, 1) := by decide +kernel
theorem dL_law_300 : decode cL_law 300 = .ok (.aload_n 1, 1) := by decide +kernel
theorem dL_law_301 : decode cL_law 301 = .ok (.aload_n 0, 1) := by decide +kernel
theorem dL_law_302 : decode cL_law 302 = .ok (.iload_n 3, 1) := by decide +kernel
theorem dL_law_303 : decode cL_law 303 = .ok (.iconst 1, 1) := by decide +kernel
theorem dL_law_304 : decode cL_law 304 = .ok (.iadd, 1) := by decide +kernel
theorem dL_law_305 : decode cL_law 305 = .ok (.iaload, 1) := by decide +kernel
theorem dL_law_306 : decode cL_law 306 = .ok (.aload_n 0, 1) := by decide +kernel
theorem dL_law_307 : decode cL_law 307 = .ok (.iload_n 3, 1) := by decide +kernel
theorem dL_law_308 : decode cL_law 308 = .ok (.iconst 2, 1) := by decide +kernel
theorem dL_law_309 : decode cL_law 309 = .ok (.iadd, 1) := by decide +kernel
theorem dL_law_310 : decode cL_law 310 = .ok (.iaload, 1) := by decide +kernel
theorem dL_law_311 : decode cL_law 311 = .ok (.aload_n 0, 1) := by decide +kernel
theorem dL_law_312 : decode cL_law 312 = .ok (.iload_n 3, 1) := by decide +kernel
theorem dL_law_313 : decode cL_law 313 = .ok (.iconst 3, 1) := by decide +kernel
theorem dL_law_314 : decode cL_law 314 = .ok (.iadd, 1) := by decide +kernel
theorem dL_law_315 : decode cL_law 315 = .ok (.iaload, 1) := by decide +kernel
theorem dL_law_316 : decode cL_law 316 = .ok (.invokevirtual 31, 3) := by decide +kernel
theorem dL_law_319 : decode cL_law 319 = .ok (.aload_n 2, 1) := by decide +kernel
theorem dL_law_320 : decode cL_law 320 = .ok (.aload_n 0, 1) := by decide +kernel
theorem dL_law_321 : decode cL_law 321 = .ok (.iload_n 3, 1) := by decide +kernel
theorem dL_law_322 : decode cL_law 322 = .ok (.iconst 1, 1) := by decide +kernel
theorem dL_law_323 : decode cL_law 323 = .ok (.iadd, 1) := by decide +kernel
theorem dL_law_324 : decode cL_law 324 = .ok (.iaload, 1) := by decide +kernel
theorem dL_law_325 : decode cL_law 325 = .ok (.aload_n 0, 1) := by decide +kernel
theorem dL_law_326 : decode cL_law 326 = .ok (.iload_n 3, 1) := by decide +kernel
theorem dL_law_327 : decode cL_law 327 = .ok (.iconst 2, 1) := by decide +kernel
theorem dL_law_328 : decode cL_law 328 = .ok (.iadd, 1) := by decide +kernel
theorem dL_law_329 : decode cL_law 329 = .ok (.iaload, 1) := by decide +kernel
theorem dL_law_330 : decode cL_law 330 = .ok (.aload_n 0, 1) := by decide +kernel
theorem dL_law_331 : decode cL_law 331 = .ok (.iload_n 3, 1) := by decide +kernel
theorem dL_law_332 : decode cL_law 332 = .ok (.iconst 3, 1) := by decide +kernel
theorem dL_law_333 : decode cL_law 333 = .ok (.iadd, 1) := by decide +kernel
theorem dL_law_334 : decode cL_law 334 = .ok (.iaload, 1) := by decide +kernel
theorem dL_law_335 : decode cL_law 335 = .ok (.invokevirtual 35, 3) := by decide +kernel
theorem dL_law_338 : decode cL_law 338 = .ok (.if_icmp .eq 916, 3) := by decide +kernel
theorem dL_law_341 : decode cL_law 341 = .ok (.iconst 0, 1) := by decide +kernel
theorem dL_law_342 : decode cL_law 342 = .ok (.ireturn, 1) := by decide +kernel
theorem dL_law_343 : decode cL_law 343 = .ok (.aload_n 1, 1) := by decide +kernel
theorem dL_law_344 : decode cL_law 344 = .ok (.aload_n 0, 1) := by decide +kernel
theorem dL_law_345 : decode cL_law 345 = .ok (.iload_n 3, 1) := by decide +kernel
theorem dL_law_346 : decode cL_law 346 = .ok (.iconst 1, 1) := by decide +kernel
theorem dL_law_347 : decode cL_law 347 = .ok (.iadd, 1) := by decide +kernel
theorem dL_law_348 : decode cL_law 348 = .ok (.iaload, 1) := by decide +kernel
theorem dL_law_349 : decode cL_law 349 = .ok (.aload_n 0, 1) := by decide +kernel
theorem dL_law_350 : decode cL_law 350 = .ok (.iload_n 3, 1) := by decide +kernel
theorem dL_law_351 : decode cL_law 351 = .ok (.iconst 2, 1) := by decide +kernel
theorem dL_law_352 : decode cL_law 352 = .ok (.iadd, 1) := by decide +kernel
theorem dL_law_353 : decode cL_law 353 = .ok (.iaload, 1) := by decide +kernel
theorem dL_law_354 : decode cL_law 354 = .ok (.invokevirtual 36, 3) := by decide +kernel
theorem dL_law_357 : decode cL_law 357 = .ok (.aload_n 2, 1) := by decide +kernel
theorem dL_law_358 : decode cL_law 358 = .ok (.aload_n 0, 1) := by decide +kernel
theorem dL_law_359 : decode cL_law 359 = .ok (.iload_n 3, 1) := by decide +kernel
theorem dL_law_360 : decode cL_law 360 = .ok (.iconst 1, 1) := by decide +kernel
theorem dL_law_361 : decode cL_law 361 = .ok (.iadd, 1) := by decide +kernel
theorem dL_law_362 : decode cL_law 362 = .ok (.iaload, 1) := by decide +kernel
theorem dL_law_363 : decode cL_law 363 = .ok (.aload_n 0, 1) := by decide +kernel
theorem dL_law_364 : decode cL_law 364 = .ok (.iload_n 3, 1) := by decide +kernel
theorem dL_law_365 : decode cL_law 365 = .ok (.iconst 2, 1) := by decide +kernel
theorem dL_law_366 : decode cL_law 366 = .ok (.iadd, 1) := by decide +kernel
theorem dL_law_367 : decode cL_law 367 = .ok (.iaload, 1) := by decide +kernel
theorem dL_law_368 : decode cL_law 368 = .ok (.invokevirtual 39, 3) := by decide +kernel
theorem dL_law_371 : decode cL_law 371 = .ok (.if_icmp .eq 883, 3) := by decide +kernel
theorem dL_law_374 : decode cL_law 374 = .ok (.iconst 0, 1) := by decide +kernel
theorem dL_law_375 : decode cL_law 375 = .ok (.ireturn, 1) := by decide +kernel
theorem dL_law_376 : decode cL_law 376 = .ok (.aload_n 1, 1) := by decide +kernel
theorem dL_law_377 : decode cL_law 377 = .ok (.aload_n 0, 1) := by decide +kernel
theorem dL_law_378 : decode cL_law 378 = .ok (.iload_n 3, 1) := by decide +kernel
theorem dL_law_379 : decode cL_law 379 = .ok (.iconst 1, 1) := by decide +kernel
theorem dL_law_380 : decode cL_law 380 = .ok (.iadd, 1) := by decide +kernel
theorem dL_law_381 : decode cL_law 381 = .ok (.iaload, 1) := by decide +kernel
theorem dL_law_382 : decode cL_law 382 = .ok (.aload_n 0, 1) := by decide +kernel
theorem dL_law_383 : decode cL_law 383 = .ok (.iload_n 3, 1) := by decide +kernel
theorem dL_law_384 : decode cL_law 384 = .ok (.iconst 2, 1) := by decide +kernel
theorem dL_law_385 : decode cL_law 385 = .ok (.iadd, 1) := by decide +kernel
theorem dL_law_386 : decode cL_law 386 = .ok (.iaload, 1) := by decide +kernel
theorem dL_law_387 : decode cL_law 387 = .ok (.invokevirtual 40, 3) := by decide +kernel
theorem dL_law_390 : decode cL_law 390 = .ok (.aload_n 2, 1) := by decide +kernel
theorem dL_law_391 : decode cL_law 391 = .ok (.aload_n 0, 1) := by decide +kernel
theorem dL_law_392 : decode cL_law 392 = .ok (.iload_n 3, 1) := by decide +kernel
theorem dL_law_393 : decode cL_law 393 = .ok (.iconst 1, 1) := by decide +kernel
theorem dL_law_394 : decode cL_law 394 = .ok (.iadd, 1) := by decide +kernel
theorem dL_law_395 : decode cL_law 395 = .ok (.iaload, 1) := by decide +kernel
theorem dL_law_396 : decode cL_law 396 = .ok (.aload_n 0, 1) := by decide +kernel
theorem dL_law_397 : decode cL_law 397 = .ok (.iload_n 3, 1) := by decide +kernel
theorem dL_law_398 : decode cL_law 398 = .ok (.iconst 2, 1) := by decide +kernel
theorem dL_law_399 : decode cL_law 399 = .ok (.iadd, 1) := by decide +kernel
theorem dL_law_400 : decode cL_law 400 = .ok (.iaload, 1) := by decide +kernel
theorem dL_law_401 : decode cL_law 401 = .ok (.invokevirtual 43, 3) := by decide +kernel
theorem dL_law_404 : decode cL_law 404 = .ok (.if_icmp .eq 850, 3) := by decide +kernel
theorem dL_law_407 : decode cL_law 407 = .ok (.iconst 0, 1) := by decide +kernel
theorem dL_law_408 : decode cL_law 408 = .ok (.ireturn, 1) := by decide +kernel
theorem dL_law_409 : decode cL_law 409 = .ok (.aload_n 1, 1) := by decide +kernel
theorem dL_law_410 : decode cL_law 410 = .ok (.aload_n 0, 1) := by decide +kernel
theorem dL_law_411 : decode cL_law 411 = .ok (.iload_n 3, 1) := by decide +kernel
theorem dL_law_412 : decode cL_law 412 = .ok (.iconst 1, 1) := by decide +kernel
theorem dL_law_413 : decode cL_law 413 = .ok (.iadd, 1) := by decide +kernel
theorem dL_law_414 : decode cL_law 414 = .ok (.iaload, 1) := by decide +kernel
theorem dL_law_415 : decode cL_law 415 = .ok (.aload_n 0, 1) := by decide +kernel
theorem dL_law_416 : decode cL_law 416 = .ok (.iload_n 3, 1) := by decide +kernel
theorem dL_law_417 : decode cL_law 417 = .ok (.iconst 2, 1) := by decide +kernel
theorem dL_law_418 : decode cL_law 418 = .ok (.iadd, 1) := by decide +kernel
theorem dL_law_419 : decode cL_law 419 = .ok (.iaload, 1) := by decide +kernel
theorem dL_law_420 : decode cL_law 420 = .ok (.invokevirtual 44, 3) := by decide +kernel
theorem dL_law_423 : decode cL_law 423 = .ok (.aload_n 2, 1) := by decide +kernel
theorem dL_law_424 : decode cL_law 424 = .ok (.aload_n 0, 1) := by decide +kernel
theorem dL_law_425 : decode cL_law 425 = .ok (.iload_n 3, 1) := by decide +kernel
theorem dL_law_426 : decode cL_law 426 = .ok (.iconst 1, 1) := by decide +kernel
theorem dL_law_427 : decode cL_law 427 = .ok (.iadd, 1) := by decide +kernel
theorem dL_law_428 : decode cL_law 428 = .ok (.iaload, 1) := by decide +kernel
theorem dL_law_429 : decode cL_law 429 = .ok (.aload_n 0, 1) := by decide +kernel
theorem dL_law_430 : decode cL_law 430 = .ok (.iload_n 3, 1) := by decide +kernel
theorem dL_law_431 : decode cL_law 431 = .ok (.iconst 2, 1) := by decide +kernel
theorem dL_law_432 : decode cL_law 432 = .ok (.iadd, 1) := by decide +kernel
theorem dL_law_433 : decode cL_law 433 = .ok (.iaload, 1) := by decide +kernel
theorem dL_law_434 : decode cL_law 434 = .ok (.invokevirtual 47, 3) := by decide +kernel
theorem dL_law_437 : decode cL_law 437 = .ok (.if_icmp .eq 817, 3) := by decide +kernel
theorem dL_law_440 : decode cL_law 440 = .ok (.iconst 0, 1) := by decide +kernel
theorem dL_law_441 : decode cL_law 441 = .ok (.ireturn, 1) := by decide +kernel
theorem dL_law_442 : decode cL_law 442 = .ok (.aload_n 1, 1) := by decide +kernel
theorem dL_law_443 : decode cL_law 443 = .ok (.aload_n 0, 1) := by decide +kernel
theorem dL_law_444 : decode cL_law 444 = .ok (.iload_n 3, 1) := by decide +kernel
theorem dL_law_445 : decode cL_law 445 = .ok (.iconst 1, 1) := by decide +kernel
theorem dL_law_446 : decode cL_law 446 = .ok (.iadd, 1) := by decide +kernel
theorem dL_law_447 : decode cL_law 447 = .ok (.iaload, 1) := by decide +kernel
theorem dL_law_448 : decode cL_law 448 = .ok (.aload_n 0, 1) := by decide +kernel
theorem dL_law_449 : decode cL_law 449 = .ok (.iload_n 3, 1) := by decide +kernel
theorem dL_law_450 : decode cL_law 450 = .ok (.iconst 2, 1) := by decide +kernel
theorem dL_law_451 : decode cL_law 451 = .ok (.iadd, 1) := by decide +kernel
theorem dL_law_452 : decode cL_law 452 = .ok (.iaload, 1) := by decide +kernel
theorem dL_law_453 : decode cL_law 453 = .ok (.invokevirtual 48, 3) := by decide +kernel
theorem dL_law_456 : decode cL_law 456 = .ok (.aload_n 2, 1) := by decide +kernel
theorem dL_law_457 : decode cL_law 457 = .ok (.aload_n 0, 1) := by decide +kernel
theorem dL_law_458 : decode cL_law 458 = .ok (.iload_n 3, 1) := by decide +kernel
theorem dL_law_459 : decode cL_law 459 = .ok (.iconst 1, 1) := by decide +kernel
theorem dL_law_460 : decode cL_law 460 = .ok (.iadd, 1) := by decide +kernel
theorem dL_law_461 : decode cL_law 461 = .ok (.iaload, 1) := by decide +kernel
theorem dL_law_462 : decode cL_law 462 = .ok (.aload_n 0, 1) := by decide +kernel
theorem dL_law_463 : decode cL_law 463 = .ok (.iload_n 3, 1) := by decide +kernel
theorem dL_law_464 : decode cL_law 464 = .ok (.iconst 2, 1) := by decide +kernel
theorem dL_law_465 : decode cL_law 465 = .ok (.iadd, 1) := by decide +kernel
theorem dL_law_466 : decode cL_law 466 = .ok (.iaload, 1) := by decide +kernel
theorem dL_law_467 : decode cL_law 467 = .ok (.invokevirtual 51, 3) := by decide +kernel
theorem dL_law_470 : decode cL_law 470 = .ok (.if_icmp .eq 784, 3) := by decide +kernel
theorem dL_law_473 : decode cL_law 473 = .ok (.iconst 0, 1) := by decide +kernel
theorem dL_law_474 : decode cL_law 474 = .ok (.ireturn, 1) := by decide +kernel
theorem dL_law_475 : decode cL_law 475 = .ok (.aload_n 1, 1) := by decide +kernel
theorem dL_law_476 : decode cL_law 476 = .ok (.aload_n 0, 1) := by decide +kernel
theorem dL_law_477 : decode cL_law 477 = .ok (.iload_n 3, 1) := by decide +kernel
theorem dL_law_478 : decode cL_law 478 = .ok (.iconst 1, 1) := by decide +kernel
theorem dL_law_479 : decode cL_law 479 = .ok (.iadd, 1) := by decide +kernel
theorem dL_law_480 : decode cL_law 480 = .ok (.iaload, 1) := by decide +kernel
theorem dL_law_481 : decode cL_law 481 = .ok (.invokevirtual 52, 3) := by decide +kernel
theorem dL_law_484 : decode cL_law 484 = .ok (.aload_n 2, 1) := by decide +kernel
theorem dL_law_485 : decode cL_law 485 = .ok (.aload_n 0, 1) := by decide +kernel
theorem dL_law_486 : decode cL_law 486 = .ok (.iload_n 3, 1) := by decide +kernel
theorem dL_law_487 : decode cL_law 487 = .ok (.iconst 1, 1) := by decide +kernel
theorem dL_law_488 : decode cL_law 488 = .ok (.iadd, 1) := by decide +kernel
theorem dL_law_489 : decode cL_law 489 = .ok (.iaload, 1) := by decide +kernel
theorem dL_law_490 : decode cL_law 490 = .ok (.invokevirtual 55, 3) := by decide +kernel
theorem dL_law_493 : decode cL_law 493 = .ok (.if_icmp .eq 761, 3) := by decide +kernel
theorem dL_law_496 : decode cL_law 496 = .ok (.iconst 0, 1) := by decide +kernel
theorem dL_law_497 : decode cL_law 497 = .ok (.ireturn, 1) := by decide +kernel
theorem dL_law_498 : decode cL_law 498 = .ok (.aload_n 1, 1) := by decide +kernel
theorem dL_law_499 : decode cL_law 499 = .ok (.aload_n 0, 1) := by decide +kernel
theorem dL_law_500 : decode cL_law 500 = .ok (.iload_n 3, 1) := by decide +kernel
theorem dL_law_501 : decode cL_law 501 = .ok (.iconst 1, 1) := by decide +kernel
theorem dL_law_502 : decode cL_law 502 = .ok (.iadd, 1) := by decide +kernel
theorem dL_law_503 : decode cL_law 503 = .ok (.iaload, 1) := by decide +kernel
theorem dL_law_504 : decode cL_law 504 = .ok (.invokevirtual 56, 3) := by decide +kernel
theorem dL_law_507 : decode cL_law 507 = .ok (.aload_n 2, 1) := by decide +kernel
theorem dL_law_508 : decode cL_law 508 = .ok (.aload_n 0, 1) := by decide +kernel
theorem dL_law_509 : decode cL_law 509 = .ok (.iload_n 3, 1) := by decide +kernel
theorem dL_law_510 : decode cL_law 510 = .ok (.iconst 1, 1) := by decide +kernel
theorem dL_law_511 : decode cL_law 511 = .ok (.iadd, 1) := by decide +kernel
theorem dL_law_512 : decode cL_law 512 = .ok (.iaload, 1) := by decide +kernel
theorem dL_law_513 : decode cL_law 513 = .ok (.invokevirtual 59, 3) := by decide +kernel
theorem dL_law_516 : decode cL_law 516 = .ok (.if_icmp .eq 738, 3) := by decide +kernel
theorem dL_law_519 : decode cL_law 519 = .ok (.iconst 0, 1) := by decide +kernel
theorem dL_law_520 : decode cL_law 520 = .ok (.ireturn, 1) := by decide +kernel
theorem dL_law_521 : decode cL_law 521 = .ok (.aload_n 1, 1) := by decide +kernel
theorem dL_law_522 : decode cL_law 522 = .ok (.aload_n 0, 1) := by decide +kernel
theorem dL_law_523 : decode cL_law 523 = .ok (.iload_n 3, 1) := by decide +kernel
theorem dL_law_524 : decode cL_law 524 = .ok (.iconst 1, 1) := by decide +kernel
theorem dL_law_525 : decode cL_law 525 = .ok (.iadd, 1) := by decide +kernel
theorem dL_law_526 : decode cL_law 526 = .ok (.iaload, 1) := by decide +kernel
theorem dL_law_527 : decode cL_law 527 = .ok (.aload_n 0, 1) := by decide +kernel
theorem dL_law_528 : decode cL_law 528 = .ok (.iload_n 3, 1) := by decide +kernel
theorem dL_law_529 : decode cL_law 529 = .ok (.iconst 2, 1) := by decide +kernel
theorem dL_law_530 : decode cL_law 530 = .ok (.iadd, 1) := by decide +kernel
theorem dL_law_531 : decode cL_law 531 = .ok (.iaload, 1) := by decide +kernel
theorem dL_law_532 : decode cL_law 532 = .ok (.aload_n 0, 1) := by decide +kernel
theorem dL_law_533 : decode cL_law 533 = .ok (.iload_n 3, 1) := by decide +kernel
theorem dL_law_534 : decode cL_law 534 = .ok (.iconst 3, 1) := by decide +kernel
theorem dL_law_535 : decode cL_law 535 = .ok (.iadd, 1) := by decide +kernel
theorem dL_law_536 : decode cL_law 536 = .ok (.iaload, 1) := by decide +kernel
theorem dL_law_537 : decode cL_law 537 = .ok (.invokevirtual 60, 3) := by decide +kernel
theorem dL_law_540 : decode cL_law 540 = .ok (.aload_n 2, 1) := by decide +kernel
theorem dL_law_541 : decode cL_law 541 = .ok (.aload_n 0, 1) := by decide +kernel
theorem dL_law_542 : decode cL_law 542 = .ok (.iload_n 3, 1) := by decide +kernel
theorem dL_law_543 : decode cL_law 543 = .ok (.iconst 1, 1) := by decide +kernel
theorem dL_law_544 : decode cL_law 544 = .ok (.iadd, 1) := by decide +kernel
theorem dL_law_545 : decode cL_law 545 = .ok (.iaload, 1) := by decide +kernel
theorem dL_law_546 : decode cL_law 546 = .ok (.aload_n 0, 1) := by decide +kernel
theorem dL_law_547 : decode cL_law 547 = .ok (.iload_n 3, 1) := by decide +kernel
theorem dL_law_548 : decode cL_law 548 = .ok (.iconst 2, 1) := by decide +kernel
theorem dL_law_549 : decode cL_law 549 = .ok (.iadd, 1) := by decide +kernel
theorem dL_law_550 : decode cL_law 550 = .ok (.iaload, 1) := by decide +kernel
theorem dL_law_551 : decode cL_law 551 = .ok (.aload_n 0, 1) := by decide +kernel
theorem dL_law_552 : decode cL_law 552 = .ok (.iload_n 3, 1) := by decide +kernel
theorem dL_law_553 : decode cL_law 553 = .ok (.iconst 3, 1) := by decide +kernel
theorem dL_law_554 : decode cL_law 554 = .ok (.iadd, 1) := by decide +kernel
theorem dL_law_555 : decode cL_law 555 = .ok (.iaload, 1) := by decide +kernel
theorem dL_law_556 : decode cL_law 556 = .ok (.invokevirtual 63, 3) := by decide +kernel
theorem dL_law_559 : decode cL_law 559 = .ok (.if_icmp .eq 695, 3) := by decide +kernel
theorem dL_law_562 : decode cL_law 562 = .ok (.iconst 0, 1) := by decide +kernel
theorem dL_law_563 : decode cL_law 563 = .ok (.ireturn, 1) := by decide +kernel
theorem dL_law_564 : decode cL_law 564 = .ok (.aload_n 1, 1) := by decide +kernel
theorem dL_law_565 : decode cL_law 565 = .ok (.aload_n 0, 1) := by decide +kernel
theorem dL_law_566 : decode cL_law 566 = .ok (.iload_n 3, 1) := by decide +kernel
theorem dL_law_567 : decode cL_law 567 = .ok (.iconst 1, 1) := by decide +kernel
theorem dL_law_568 : decode cL_law 568 = .ok (.iadd, 1) := by decide +kernel
theorem dL_law_569 : decode cL_law 569 = .ok (.iaload, 1) := by decide +kernel
theorem dL_law_570 : decode cL_law 570 = .ok (.aload_n 0, 1) := by decide +kernel
theorem dL_law_571 : decode cL_law 571 = .ok (.iload_n 3, 1) := by decide +kernel
theorem dL_law_572 : decode cL_law 572 = .ok (.iconst 2, 1) := by decide +kernel
theorem dL_law_573 : decode cL_law 573 = .ok (.iadd, 1) := by decide +kernel
theorem dL_law_574 : decode cL_law 574 = .ok (.iaload, 1) := by decide +kernel
theorem dL_law_575 : decode cL_law 575 = .ok (.invokevirtual 64, 3) := by decide +kernel
theorem dL_law_578 : decode cL_law 578 = .ok (.aload_n 2, 1) := by decide +kernel
theorem dL_law_579 : decode cL_law 579 = .ok (.aload_n 0, 1) := by decide +kernel
theorem dL_law_580 : decode cL_law 580 = .ok (.iload_n 3, 1) := by decide +kernel
theorem dL_law_581 : decode cL_law 581 = .ok (.iconst 1, 1) := by decide +kernel
theorem dL_law_582 : decode cL_law 582 = .ok (.iadd, 1) := by decide +kernel
theorem dL_law_583 : decode cL_law 583 = .ok (.iaload, 1) := by decide +kernel
theorem dL_law_584 : decode cL_law 584 = .ok (.aload_n 0, 1) := by decide +kernel
theorem dL_law_585 : decode cL_law 585 = .ok (.iload_n 3, 1) := by decide +kernel
theorem dL_law_586 : decode cL_law 586 = .ok (.iconst 2, 1) := by decide +kernel
theorem dL_law_587 : decode cL_law 587 = .ok (.iadd, 1) := by decide +kernel
theorem dL_law_588 : decode cL_law 588 = .ok (.iaload, 1) := by decide +kernel
theorem dL_law_589 : decode cL_law 589 = .ok (.invokevirtual 67, 3) := by decide +kernel
theorem dL_law_592 : decode cL_law 592 = .ok (.if_icmp .eq 662, 3) := by decide +kernel
theorem dL_law_595 : decode cL_law 595 = .ok (.iconst 0, 1) := by decide +kernel
theorem dL_law_596 : decode cL_law 596 = .ok (.ireturn, 1) := by decide +kernel
theorem dL_law_597 : decode cL_law 597 = .ok (.aload_n 1, 1) := by decide +kernel
theorem dL_law_598 : decode cL_law 598 = .ok (.aload_n 0, 1) := by decide +kernel
theorem dL_law_599 : decode cL_law 599 = .ok (.iload_n 3, 1) := by decide +kernel
theorem dL_law_600 : decode cL_law 600 = .ok (.iconst 1, 1) := by decide +kernel
theorem dL_law_601 : decode cL_law 601 = .ok (.iadd, 1) := by decide +kernel
theorem dL_law_602 : decode cL_law 602 = .ok (.iaload, 1) := by decide +kernel
theorem dL_law_603 : decode cL_law 603 = .ok (.invokevirtual 68, 3) := by decide +kernel
theorem dL_law_606 : decode cL_law 606 = .ok (.aload_n 2, 1) := by decide +kernel
theorem dL_law_607 : decode cL_law 607 = .ok (.aload_n 0, 1) := by decide +kernel
theorem dL_law_608 : decode cL_law 608 = .ok (.iload_n 3, 1) := by decide +kernel
theorem dL_law_609 : decode cL_law 609 = .ok (.iconst 1, 1) := by decide +kernel
theorem dL_law_610 : decode cL_law 610 = .ok (.iadd, 1) := by decide +kernel
theorem dL_law_611 : decode cL_law 611 = .ok (.iaload, 1) := by decide +kernel
theorem dL_law_612 : decode cL_law 612 = .ok (.invokevirtual 71, 3) := by decide +kernel
theorem dL_law_615 : decode cL_law 615 = .ok (.if_icmp .eq 639, 3) := by decide +kernel
theorem dL_law_618 : decode cL_law 618 = .ok (.iconst 0, 1) := by decide +kernel
theorem dL_law_619 : decode cL_law 619 = .ok (.ireturn, 1) := by decide +kernel
theorem dL_law_620 : decode cL_law 620 = .ok (.aload_n 1, 1) := by decide +kernel
theorem dL_law_621 : decode cL_law 621 = .ok (.aload_n 0, 1) := by decide +kernel
theorem dL_law_622 : decode cL_law 622 = .ok (.iload_n 3, 1) := by decide +kernel
theorem dL_law_623 : decode cL_law 623 = .ok (.iconst 1, 1) := by decide +kernel
theorem dL_law_624 : decode cL_law 624 = .ok (.iadd, 1) := by decide +kernel
theorem dL_law_625 : decode cL_law 625 = .ok (.iaload, 1) := by decide +kernel
theorem dL_law_626 : decode cL_law 626 = .ok (.aload_n 0, 1) := by decide +kernel
theorem dL_law_627 : decode cL_law 627 = .ok (.iload_n 3, 1) := by decide +kernel
theorem dL_law_628 : decode cL_law 628 = .ok (.iconst 2, 1) := by decide +kernel
theorem dL_law_629 : decode cL_law 629 = .ok (.iadd, 1) := by decide +kernel
theorem dL_law_630 : decode cL_law 630 = .ok (.iaload, 1) := by decide +kernel
theorem dL_law_631 : decode cL_law 631 = .ok (.invokevirtual 72, 3) := by decide +kernel
theorem dL_law_634 : decode cL_law 634 = .ok (.aload_n 2, 1) := by decide +kernel
theorem dL_law_635 : decode cL_law 635 = .ok (.aload_n 0, 1) := by decide +kernel
theorem dL_law_636 : decode cL_law 636 = .ok (.iload_n 3, 1) := by decide +kernel
theorem dL_law_637 : decode cL_law 637 = .ok (.iconst 1, 1) := by decide +kernel
theorem dL_law_638 : decode cL_law 638 = .ok (.iadd, 1) := by decide +kernel
theorem dL_law_639 : decode cL_law 639 = .ok (.iaload, 1) := by decide +kernel
theorem dL_law_640 : decode cL_law 640 = .ok (.aload_n 0, 1) := by decide +kernel
theorem dL_law_641 : decode cL_law 641 = .ok (.iload_n 3, 1) := by decide +kernel
theorem dL_law_642 : decode cL_law 642 = .ok (.iconst 2, 1) := by decide +kernel
theorem dL_law_643 : decode cL_law 643 = .ok (.iadd, 1) := by decide +kernel
theorem dL_law_644 : decode cL_law 644 = .ok (.iaload, 1) := by decide +kernel
theorem dL_law_645 : decode cL_law 645 = .ok (.invokevirtual 75, 3) := by decide +kernel
theorem dL_law_648 : decode cL_law 648 = .ok (.if_icmp .eq 606, 3) := by decide +kernel
theorem dL_law_651 : decode cL_law 651 = .ok (.iconst 0, 1) := by decide +kernel
theorem dL_law_652 : decode cL_law 652 = .ok (.ireturn, 1) := by decide +kernel
theorem dL_law_653 : decode cL_law 653 = .ok (.aload_n 1, 1) := by decide +kernel
theorem dL_law_654 : decode cL_law 654 = .ok (.aload_n 0, 1) := by decide +kernel
theorem dL_law_655 : decode cL_law 655 = .ok (.iload_n 3, 1) := by decide +kernel
theorem dL_law_656 : decode cL_law 656 = .ok (.iconst 1, 1) := by decide +kernel
theorem dL_law_657 : decode cL_law 657 = .ok (.iadd, 1) := by decide +kernel
theorem dL_law_658 : decode cL_law 658 = .ok (.iaload, 1) := by decide +kernel
theorem dL_law_659 : decode cL_law 659 = .ok (.aload_n 0, 1) := by decide +kernel
theorem dL_law_660 : decode cL_law 660 = .ok (.iload_n 3, 1) := by decide +kernel
theorem dL_law_661 : decode cL_law 661 = .ok (.iconst 2, 1) := by decide +kernel
theorem dL_law_662 : decode cL_law 662 = .ok (.iadd, 1) := by decide +kernel
theorem dL_law_663 : decode cL_law 663 = .ok (.iaload, 1) := by decide +kernel
theorem dL_law_664 : decode cL_law 664 = .ok (.invokevirtual 76, 3) := by decide +kernel
theorem dL_law_667 : decode cL_law 667 = .ok (.aload_n 2, 1) := by decide +kernel
theorem dL_law_668 : decode cL_law 668 = .ok (.aload_n 0, 1) := by decide +kernel
theorem dL_law_669 : decode cL_law 669 = .ok (.iload_n 3, 1) := by decide +kernel
theorem dL_law_670 : decode cL_law 670 = .ok (.iconst 1, 1) := by decide +kernel
theorem dL_law_671 : decode cL_law 671 = .ok (.iadd, 1) := by decide +kernel
theorem dL_law_672 : decode cL_law 672 = .ok (.iaload, 1) := by decide +kernel
theorem dL_law_673 : decode cL_law 673 = .ok (.aload_n 0, 1) := by decide +kernel
theorem dL_law_674 : decode cL_law 674 = .ok (.iload_n 3, 1) := by decide +kernel
theorem dL_law_675 : decode cL_law 675 = .ok (.iconst 2, 1) := by decide +kernel
theorem dL_law_676 : decode cL_law 676 = .ok (.iadd, 1) := by decide +kernel
theorem dL_law_677 : decode cL_law 677 = .ok (.iaload, 1) := by decide +kernel
theorem dL_law_678 : decode cL_law 678 = .ok (.invokevirtual 79, 3) := by decide +kernel
theorem dL_law_681 : decode cL_law 681 = .ok (.if_icmp .eq 573, 3) := by decide +kernel
theorem dL_law_684 : decode cL_law 684 = .ok (.iconst 0, 1) := by decide +kernel
theorem dL_law_685 : decode cL_law 685 = .ok (.ireturn, 1) := by decide +kernel
theorem dL_law_686 : decode cL_law 686 = .ok (.aload_n 1, 1) := by decide +kernel
theorem dL_law_687 : decode cL_law 687 = .ok (.aload_n 0, 1) := by decide +kernel
theorem dL_law_688 : decode cL_law 688 = .ok (.iload_n 3, 1) := by decide +kernel
theorem dL_law_689 : decode cL_law 689 = .ok (.iconst 1, 1) := by decide +kernel
theorem dL_law_690 : decode cL_law 690 = .ok (.iadd, 1) := by decide +kernel
theorem dL_law_691 : decode cL_law 691 = .ok (.iaload, 1) := by decide +kernel
theorem dL_law_692 : decode cL_law 692 = .ok (.aload_n 0, 1) := by decide +kernel
theorem dL_law_693 : decode cL_law 693 = .ok (.iload_n 3, 1) := by decide +kernel
theorem dL_law_694 : decode cL_law 694 = .ok (.iconst 2, 1) := by decide +kernel
theorem dL_law_695 : decode cL_law 695 = .ok (.iadd, 1) := by decide +kernel
theorem dL_law_696 : decode cL_law 696 = .ok (.iaload, 1) := by decide +kernel
theorem dL_law_697 : decode cL_law 697 = .ok (.invokevirtual 80, 3) := by decide +kernel
theorem dL_law_700 : decode cL_law 700 = .ok (.aload_n 2, 1) := by decide +kernel
theorem dL_law_701 : decode cL_law 701 = .ok (.aload_n 0, 1) := by decide +kernel
theorem dL_law_702 : decode cL_law 702 = .ok (.iload_n 3, 1) := by decide +kernel
theorem dL_law_703 : decode cL_law 703 = .ok (.iconst 1, 1) := by decide +kernel
theorem dL_law_704 : decode cL_law 704 = .ok (.iadd, 1) := by decide +kernel
theorem dL_law_705 : decode cL_law 705 = .ok (.iaload, 1) := by decide +kernel
theorem dL_law_706 : decode cL_law 706 = .ok (.aload_n 0, 1) := by decide +kernel
theorem dL_law_707 : decode cL_law 707 = .ok (.iload_n 3, 1) := by decide +kernel
theorem dL_law_708 : decode cL_law 708 = .ok (.iconst 2, 1) := by decide +kernel
theorem dL_law_709 : decode cL_law 709 = .ok (.iadd, 1) := by decide +kernel
theorem dL_law_710 : decode cL_law 710 = .ok (.iaload, 1) := by decide +kernel
theorem dL_law_711 : decode cL_law 711 = .ok (.invokevirtual 83, 3) := by decide +kernel
theorem dL_law_714 : decode cL_law 714 = .ok (.if_icmp .eq 540, 3) := by decide +kernel
theorem dL_law_717 : decode cL_law 717 = .ok (.iconst 0, 1) := by decide +kernel
theorem dL_law_718 : decode cL_law 718 = .ok (.ireturn, 1) := by decide +kernel
theorem dL_law_719 : decode cL_law 719 = .ok (.aload_n 1, 1) := by decide +kernel
theorem dL_law_720 : decode cL_law 720 = .ok (.aload_n 0, 1) := by decide +kernel
theorem dL_law_721 : decode cL_law 721 = .ok (.iload_n 3, 1) := by decide +kernel
theorem dL_law_722 : decode cL_law 722 = .ok (.iconst 1, 1) := by decide +kernel
theorem dL_law_723 : decode cL_law 723 = .ok (.iadd, 1) := by decide +kernel
theorem dL_law_724 : decode cL_law 724 = .ok (.iaload, 1) := by decide +kernel
theorem dL_law_725 : decode cL_law 725 = .ok (.aload_n 0, 1) := by decide +kernel
theorem dL_law_726 : decode cL_law 726 = .ok (.iload_n 3, 1) := by decide +kernel
theorem dL_law_727 : decode cL_law 727 = .ok (.iconst 2, 1) := by decide +kernel
theorem dL_law_728 : decode cL_law 728 = .ok (.iadd, 1) := by decide +kernel
theorem dL_law_729 : decode cL_law 729 = .ok (.iaload, 1) := by decide +kernel
theorem dL_law_730 : decode cL_law 730 = .ok (.invokevirtual 84, 3) := by decide +kernel
theorem dL_law_733 : decode cL_law 733 = .ok (.aload_n 2, 1) := by decide +kernel
theorem dL_law_734 : decode cL_law 734 = .ok (.aload_n 0, 1) := by decide +kernel
theorem dL_law_735 : decode cL_law 735 = .ok (.iload_n 3, 1) := by decide +kernel
theorem dL_law_736 : decode cL_law 736 = .ok (.iconst 1, 1) := by decide +kernel
theorem dL_law_737 : decode cL_law 737 = .ok (.iadd, 1) := by decide +kernel
theorem dL_law_738 : decode cL_law 738 = .ok (.iaload, 1) := by decide +kernel
theorem dL_law_739 : decode cL_law 739 = .ok (.aload_n 0, 1) := by decide +kernel
theorem dL_law_740 : decode cL_law 740 = .ok (.iload_n 3, 1) := by decide +kernel
theorem dL_law_741 : decode cL_law 741 = .ok (.iconst 2, 1) := by decide +kernel
theorem dL_law_742 : decode cL_law 742 = .ok (.iadd, 1) := by decide +kernel
theorem dL_law_743 : decode cL_law 743 = .ok (.iaload, 1) := by decide +kernel
theorem dL_law_744 : decode cL_law 744 = .ok (.invokevirtual 87, 3) := by decide +kernel
theorem dL_law_747 : decode cL_law 747 = .ok (.if_icmp .eq 507, 3) := by decide +kernel
theorem dL_law_750 : decode cL_law 750 = .ok (.iconst 0, 1) := by decide +kernel
theorem dL_law_751 : decode cL_law 751 = .ok (.ireturn, 1) := by decide +kernel
theorem dL_law_752 : decode cL_law 752 = .ok (.aload_n 1, 1) := by decide +kernel
theorem dL_law_753 : decode cL_law 753 = .ok (.aload_n 0, 1) := by decide +kernel
theorem dL_law_754 : decode cL_law 754 = .ok (.iload_n 3, 1) := by decide +kernel
theorem dL_law_755 : decode cL_law 755 = .ok (.iconst 1, 1) := by decide +kernel
theorem dL_law_756 : decode cL_law 756 = .ok (.iadd, 1) := by decide +kernel
theorem dL_law_757 : decode cL_law 757 = .ok (.iaload, 1) := by decide +kernel
theorem dL_law_758 : decode cL_law 758 = .ok (.aload_n 0, 1) := by decide +kernel
theorem dL_law_759 : decode cL_law 759 = .ok (.iload_n 3, 1) := by decide +kernel
theorem dL_law_760 : decode cL_law 760 = .ok (.iconst 2, 1) := by decide +kernel
theorem dL_law_761 : decode cL_law 761 = .ok (.iadd, 1) := by decide +kernel
theorem dL_law_762 : decode cL_law 762 = .ok (.iaload, 1) := by decide +kernel
theorem dL_law_763 : decode cL_law 763 = .ok (.invokevirtual 88, 3) := by decide +kernel
theorem dL_law_766 : decode cL_law 766 = .ok (.aload_n 2, 1) := by decide +kernel
theorem dL_law_767 : decode cL_law 767 = .ok (.aload_n 0, 1) := by decide +kernel
theorem dL_law_768 : decode cL_law 768 = .ok (.iload_n 3, 1) := by decide +kernel
theorem dL_law_769 : decode cL_law 769 = .ok (.iconst 1, 1) := by decide +kernel
theorem dL_law_770 : decode cL_law 770 = .ok (.iadd, 1) := by decide +kernel
theorem dL_law_771 : decode cL_law 771 = .ok (.iaload, 1) := by decide +kernel
theorem dL_law_772 : decode cL_law 772 = .ok (.aload_n 0, 1) := by decide +kernel
theorem dL_law_773 : decode cL_law 773 = .ok (.iload_n 3, 1) := by decide +kernel
theorem dL_law_774 : decode cL_law 774 = .ok (.iconst 2, 1) := by decide +kernel
theorem dL_law_775 : decode cL_law 775 = .ok (.iadd, 1) := by decide +kernel
theorem dL_law_776 : decode cL_law 776 = .ok (.iaload, 1) := by decide +kernel
theorem dL_law_777 : decode cL_law 777 = .ok (.invokevirtual 91, 3) := by decide +kernel
theorem dL_law_780 : decode cL_law 780 = .ok (.if_icmp .eq 474, 3) := by decide +kernel
theorem dL_law_783 : decode cL_law 783 = .ok (.iconst 0, 1) := by decide +kernel
theorem dL_law_784 : decode cL_law 784 = .ok (.ireturn, 1) := by decide +kernel
theorem dL_law_785 : decode cL_law 785 = .ok (.aload_n 1, 1) := by decide +kernel
theorem dL_law_786 : decode cL_law 786 = .ok (.aload_n 0, 1) := by decide +kernel
theorem dL_law_787 : decode cL_law 787 = .ok (.iload_n 3, 1) := by decide +kernel
theorem dL_law_788 : decode cL_law 788 = .ok (.iconst 1, 1) := by decide +kernel
theorem dL_law_789 : decode cL_law 789 = .ok (.iadd, 1) := by decide +kernel
theorem dL_law_790 : decode cL_law 790 = .ok (.iaload, 1) := by decide +kernel
theorem dL_law_791 : decode cL_law 791 = .ok (.invokevirtual 92, 3) := by decide +kernel
theorem dL_law_794 : decode cL_law 794 = .ok (.aload_n 2, 1) := by decide +kernel
theorem dL_law_795 : decode cL_law 795 = .ok (.aload_n 0, 1) := by decide +kernel
theorem dL_law_796 : decode cL_law 796 = .ok (.iload_n 3, 1) := by decide +kernel
theorem dL_law_797 : decode cL_law 797 = .ok (.iconst 1, 1) := by decide +kernel
theorem dL_law_798 : decode cL_law 798 = .ok (.iadd, 1) := by decide +kernel
theorem dL_law_799 : decode cL_law 799 = .ok (.iaload, 1) := by decide +kernel
theorem dL_law_800 : decode cL_law 800 = .ok (.invokevirtual 95, 3) := by decide +kernel
theorem dL_law_803 : decode cL_law 803 = .ok (.if_icmp .eq 451, 3) := by decide +kernel
theorem dL_law_806 : decode cL_law 806 = .ok (.iconst 0, 1) := by decide +kernel
theorem dL_law_807 : decode cL_law 807 = .ok (.ireturn, 1) := by decide +kernel
theorem dL_law_808 : decode cL_law 808 = .ok (.aload_n 1, 1) := by decide +kernel
theorem dL_law_809 : decode cL_law 809 = .ok (.aload_n 0, 1) := by decide +kernel
theorem dL_law_810 : decode cL_law 810 = .ok (.iload_n 3, 1) := by decide +kernel
theorem dL_law_811 : decode cL_law 811 = .ok (.iconst 1, 1) := by decide +kernel
theorem dL_law_812 : decode cL_law 812 = .ok (.iadd, 1) := by decide +kernel
theorem dL_law_813 : decode cL_law 813 = .ok (.iaload, 1) := by decide +kernel
theorem dL_law_814 : decode cL_law 814 = .ok (.invokevirtual 96, 3) := by decide +kernel
theorem dL_law_817 : decode cL_law 817 = .ok (.aload_n 2, 1) := by decide +kernel
theorem dL_law_818 : decode cL_law 818 = .ok (.aload_n 0, 1) := by decide +kernel
theorem dL_law_819 : decode cL_law 819 = .ok (.iload_n 3, 1) := by decide +kernel
theorem dL_law_820 : decode cL_law 820 = .ok (.iconst 1, 1) := by decide +kernel
theorem dL_law_821 : decode cL_law 821 = .ok (.iadd, 1) := by decide +kernel
theorem dL_law_822 : decode cL_law 822 = .ok (.iaload, 1) := by decide +kernel
theorem dL_law_823 : decode cL_law 823 = .ok (.invokevirtual 99, 3) := by decide +kernel
theorem dL_law_826 : decode cL_law 826 = .ok (.if_icmp .eq 428, 3) := by decide +kernel
theorem dL_law_829 : decode cL_law 829 = .ok (.iconst 0, 1) := by decide +kernel
theorem dL_law_830 : decode cL_law 830 = .ok (.ireturn, 1) := by decide +kernel
theorem dL_law_831 : decode cL_law 831 = .ok (.aload_n 1, 1) := by decide +kernel
theorem dL_law_832 : decode cL_law 832 = .ok (.aload_n 0, 1) := by decide +kernel
theorem dL_law_833 : decode cL_law 833 = .ok (.iload_n 3, 1) := by decide +kernel
theorem dL_law_834 : decode cL_law 834 = .ok (.iconst 1, 1) := by decide +kernel
theorem dL_law_835 : decode cL_law 835 = .ok (.iadd, 1) := by decide +kernel
theorem dL_law_836 : decode cL_law 836 = .ok (.iaload, 1) := by decide +kernel
theorem dL_law_837 : decode cL_law 837 = .ok (.aload_n 0, 1) := by decide +kernel
theorem dL_law_838 : decode cL_law 838 = .ok (.iload_n 3, 1) := by decide +kernel
theorem dL_law_839 : decode cL_law 839 = .ok (.iconst 2, 1) := by decide +kernel
theorem dL_law_840 : decode cL_law 840 = .ok (.iadd, 1) := by decide +kernel
theorem dL_law_841 : decode cL_law 841 = .ok (.iaload, 1) := by decide +kernel
theorem dL_law_842 : decode cL_law 842 = .ok (.invokevirtual 100, 3) := by decide +kernel
theorem dL_law_845 : decode cL_law 845 = .ok (.aload_n 2, 1) := by decide +kernel
theorem dL_law_846 : decode cL_law 846 = .ok (.aload_n 0, 1) := by decide +kernel
theorem dL_law_847 : decode cL_law 847 = .ok (.iload_n 3, 1) := by decide +kernel
theorem dL_law_848 : decode cL_law 848 = .ok (.iconst 1, 1) := by decide +kernel
theorem dL_law_849 : decode cL_law 849 = .ok (.iadd, 1) := by decide +kernel
theorem dL_law_850 : decode cL_law 850 = .ok (.iaload, 1) := by decide +kernel
theorem dL_law_851 : decode cL_law 851 = .ok (.aload_n 0, 1) := by decide +kernel
theorem dL_law_852 : decode cL_law 852 = .ok (.iload_n 3, 1) := by decide +kernel
theorem dL_law_853 : decode cL_law 853 = .ok (.iconst 2, 1) := by decide +kernel
theorem dL_law_854 : decode cL_law 854 = .ok (.iadd, 1) := by decide +kernel
theorem dL_law_855 : decode cL_law 855 = .ok (.iaload, 1) := by decide +kernel
theorem dL_law_856 : decode cL_law 856 = .ok (.invokevirtual 103, 3) := by decide +kernel
theorem dL_law_859 : decode cL_law 859 = .ok (.if_icmp .eq 395, 3) := by decide +kernel
theorem dL_law_862 : decode cL_law 862 = .ok (.iconst 0, 1) := by decide +kernel
theorem dL_law_863 : decode cL_law 863 = .ok (.ireturn, 1) := by decide +kernel
theorem dL_law_864 : decode cL_law 864 = .ok (.aload_n 1, 1) := by decide +kernel
theorem dL_law_865 : decode cL_law 865 = .ok (.invokevirtual 104, 3) := by decide +kernel
theorem dL_law_868 : decode cL_law 868 = .ok (.aload_n 2, 1) := by decide +kernel
theorem dL_law_869 : decode cL_law 869 = .ok (.invokevirtual 108, 3) := by decide +kernel
theorem dL_law_872 : decode cL_law 872 = .ok (.if_icmp .eq 382, 3) := by decide +kernel
theorem dL_law_875 : decode cL_law 875 = .ok (.iconst 0, 1) := by decide +kernel
theorem dL_law_876 : decode cL_law 876 = .ok (.ireturn, 1) := by decide +kernel
theorem dL_law_877 : decode cL_law 877 = .ok (.aload_n 1, 1) := by decide +kernel
theorem dL_law_878 : decode cL_law 878 = .ok (.invokevirtual 109, 3) := by decide +kernel
theorem dL_law_881 : decode cL_law 881 = .ok (.aload_n 2, 1) := by decide +kernel
theorem dL_law_882 : decode cL_law 882 = .ok (.invokevirtual 112, 3) := by decide +kernel
theorem dL_law_885 : decode cL_law 885 = .ok (.if_icmp .eq 369, 3) := by decide +kernel
theorem dL_law_888 : decode cL_law 888 = .ok (.iconst 0, 1) := by decide +kernel
theorem dL_law_889 : decode cL_law 889 = .ok (.ireturn, 1) := by decide +kernel
theorem dL_law_890 : decode cL_law 890 = .ok (.aload_n 1, 1) := by decide +kernel
theorem dL_law_891 : decode cL_law 891 = .ok (.aload_n 0, 1) := by decide +kernel
theorem dL_law_892 : decode cL_law 892 = .ok (.iload_n 3, 1) := by decide +kernel
theorem dL_law_893 : decode cL_law 893 = .ok (.iconst 1, 1) := by decide +kernel
theorem dL_law_894 : decode cL_law 894 = .ok (.iadd, 1) := by decide +kernel
theorem dL_law_895 : decode cL_law 895 = .ok (.iaload, 1) := by decide +kernel
theorem dL_law_896 : decode cL_law 896 = .ok (.aload_n 0, 1) := by decide +kernel
theorem dL_law_897 : decode cL_law 897 = .ok (.iload_n 3, 1) := by decide +kernel
theorem dL_law_898 : decode cL_law 898 = .ok (.iconst 2, 1) := by decide +kernel
theorem dL_law_899 : decode cL_law 899 = .ok (.iadd, 1) := by decide +kernel
theorem dL_law_900 : decode cL_law 900 = .ok (.iaload, 1) := by decide +kernel
theorem dL_law_901 : decode cL_law 901 = .ok (.aload_n 0, 1) := by decide +kernel
theorem dL_law_902 : decode cL_law 902 = .ok (.iload_n 3, 1) := by decide +kernel
theorem dL_law_903 : decode cL_law 903 = .ok (.iconst 3, 1) := by decide +kernel
theorem dL_law_904 : decode cL_law 904 = .ok (.iadd, 1) := by decide +kernel
theorem dL_law_905 : decode cL_law 905 = .ok (.iaload, 1) := by decide +kernel
theorem dL_law_906 : decode cL_law 906 = .ok (.invokevirtual 113, 3) := by decide +kernel
theorem dL_law_909 : decode cL_law 909 = .ok (.aload_n 2, 1) := by decide +kernel
theorem dL_law_910 : decode cL_law 910 = .ok (.aload_n 0, 1) := by decide +kernel
theorem dL_law_911 : decode cL_law 911 = .ok (.iload_n 3, 1) := by decide +kernel
theorem dL_law_912 : decode cL_law 912 = .ok (.iconst 1, 1) := by decide +kernel
theorem dL_law_913 : decode cL_law 913 = .ok (.iadd, 1) := by decide +kernel
theorem dL_law_914 : decode cL_law 914 = .ok (.iaload, 1) := by decide +kernel
theorem dL_law_915 : decode cL_law 915 = .ok (.aload_n 0, 1) := by decide +kernel
theorem dL_law_916 : decode cL_law 916 = .ok (.iload_n 3, 1) := by decide +kernel
theorem dL_law_917 : decode cL_law 917 = .ok (.iconst 2, 1) := by decide +kernel
theorem dL_law_918 : decode cL_law 918 = .ok (.iadd, 1) := by decide +kernel
theorem dL_law_919 : decode cL_law 919 = .ok (.iaload, 1) := by decide +kernel
theorem dL_law_920 : decode cL_law 920 = .ok (.aload_n 0, 1) := by decide +kernel
theorem dL_law_921 : decode cL_law 921 = .ok (.iload_n 3, 1) := by decide +kernel
theorem dL_law_922 : decode cL_law 922 = .ok (.iconst 3, 1) := by decide +kernel
theorem dL_law_923 : decode cL_law 923 = .ok (.iadd, 1) := by decide +kernel
theorem dL_law_924 : decode cL_law 924 = .ok (.iaload, 1) := by decide +kernel
theorem dL_law_925 : decode cL_law 925 = .ok (.invokevirtual 116, 3) := by decide +kernel
theorem dL_law_928 : decode cL_law 928 = .ok (.if_icmp .eq 326, 3) := by decide +kernel
theorem dL_law_931 : decode cL_law 931 = .ok (.iconst 0, 1) := by decide +kernel
theorem dL_law_932 : decode cL_law 932 = .ok (.ireturn, 1) := by decide +kernel
theorem dL_law_933 : decode cL_law 933 = .ok (.aload_n 1, 1) := by decide +kernel
theorem dL_law_934 : decode cL_law 934 = .ok (.aload_n 0, 1) := by decide +kernel
theorem dL_law_935 : decode cL_law 935 = .ok (.iload_n 3, 1) := by decide +kernel
theorem dL_law_936 : decode cL_law 936 = .ok (.iconst 1, 1) := by decide +kernel
theorem dL_law_937 : decode cL_law 937 = .ok (.iadd, 1) := by decide +kernel
theorem dL_law_938 : decode cL_law 938 = .ok (.iaload, 1) := by decide +kernel
theorem dL_law_939 : decode cL_law 939 = .ok (.aload_n 0, 1) := by decide +kernel
theorem dL_law_940 : decode cL_law 940 = .ok (.iload_n 3, 1) := by decide +kernel
theorem dL_law_941 : decode cL_law 941 = .ok (.iconst 2, 1) := by decide +kernel
theorem dL_law_942 : decode cL_law 942 = .ok (.iadd, 1) := by decide +kernel
theorem dL_law_943 : decode cL_law 943 = .ok (.iaload, 1) := by decide +kernel
theorem dL_law_944 : decode cL_law 944 = .ok (.aload_n 0, 1) := by decide +kernel
theorem dL_law_945 : decode cL_law 945 = .ok (.iload_n 3, 1) := by decide +kernel
theorem dL_law_946 : decode cL_law 946 = .ok (.iconst 3, 1) := by decide +kernel
theorem dL_law_947 : decode cL_law 947 = .ok (.iadd, 1) := by decide +kernel
theorem dL_law_948 : decode cL_law 948 = .ok (.iaload, 1) := by decide +kernel
theorem dL_law_949 : decode cL_law 949 = .ok (.i2l, 1) := by decide +kernel
theorem dL_law_950 : decode cL_law 950 = .ok (.bipush 32, 2) := by decide +kernel
theorem dL_law_952 : decode cL_law 952 = .ok (.lshl, 1) := by decide +kernel
theorem dL_law_953 : decode cL_law 953 = .ok (.aload_n 0, 1) := by decide +kernel
theorem dL_law_954 : decode cL_law 954 = .ok (.iload_n 3, 1) := by decide +kernel
theorem dL_law_955 : decode cL_law 955 = .ok (.iconst 4, 1) := by decide +kernel
theorem dL_law_956 : decode cL_law 956 = .ok (.iadd, 1) := by decide +kernel
theorem dL_law_957 : decode cL_law 957 = .ok (.iaload, 1) := by decide +kernel
theorem dL_law_958 : decode cL_law 958 = .ok (.i2l, 1) := by decide +kernel
theorem dL_law_959 : decode cL_law 959 = .ok (.ldc2_w 117, 3) := by decide +kernel
theorem dL_law_962 : decode cL_law 962 = .ok (.land, 1) := by decide +kernel
theorem dL_law_963 : decode cL_law 963 = .ok (.lor, 1) := by decide +kernel
theorem dL_law_964 : decode cL_law 964 = .ok (.invokevirtual 119, 3) := by decide +kernel
theorem dL_law_967 : decode cL_law 967 = .ok (.aload_n 2, 1) := by decide +kernel
theorem dL_law_968 : decode cL_law 968 = .ok (.aload_n 0, 1) := by decide +kernel
theorem dL_law_969 : decode cL_law 969 = .ok (.iload_n 3, 1) := by decide +kernel
theorem dL_law_970 : decode cL_law 970 = .ok (.iconst 1, 1) := by decide +kernel
theorem dL_law_971 : decode cL_law 971 = .ok (.iadd, 1) := by decide +kernel
theorem dL_law_972 : decode cL_law 972 = .ok (.iaload, 1) := by decide +kernel
theorem dL_law_973 : decode cL_law 973 = .ok (.aload_n 0, 1) := by decide +kernel
theorem dL_law_974 : decode cL_law 974 = .ok (.iload_n 3, 1) := by decide +kernel
theorem dL_law_975 : decode cL_law 975 = .ok (.iconst 2, 1) := by decide +kernel
theorem dL_law_976 : decode cL_law 976 = .ok (.iadd, 1) := by decide +kernel
theorem dL_law_977 : decode cL_law 977 = .ok (.iaload, 1) := by decide +kernel
theorem dL_law_978 : decode cL_law 978 = .ok (.aload_n 0, 1) := by decide +kernel
theorem dL_law_979 : decode cL_law 979 = .ok (.iload_n 3, 1) := by decide +kernel
theorem dL_law_980 : decode cL_law 980 = .ok (.iconst 3, 1) := by decide +kernel
theorem dL_law_981 : decode cL_law 981 = .ok (.iadd, 1) := by decide +kernel
theorem dL_law_982 : decode cL_law 982 = .ok (.iaload, 1) := by decide +kernel
theorem dL_law_983 : decode cL_law 983 = .ok (.i2l, 1) := by decide +kernel
theorem dL_law_984 : decode cL_law 984 = .ok (.bipush 32, 2) := by decide +kernel
theorem dL_law_986 : decode cL_law 986 = .ok (.lshl, 1) := by decide +kernel
theorem dL_law_987 : decode cL_law 987 = .ok (.aload_n 0, 1) := by decide +kernel
theorem dL_law_988 : decode cL_law 988 = .ok (.iload_n 3, 1) := by decide +kernel
theorem dL_law_989 : decode cL_law 989 = .ok (.iconst 4, 1) := by decide +kernel
theorem dL_law_990 : decode cL_law 990 = .ok (.iadd, 1) := by decide +kernel
theorem dL_law_991 : decode cL_law 991 = .ok (.iaload, 1) := by decide +kernel
theorem dL_law_992 : decode cL_law 992 = .ok (.i2l, 1) := by decide +kernel
theorem dL_law_993 : decode cL_law 993 = .ok (.ldc2_w 117, 3) := by decide +kernel
theorem dL_law_996 : decode cL_law 996 = .ok (.land, 1) := by decide +kernel
theorem dL_law_997 : decode cL_law 997 = .ok (.lor, 1) := by decide +kernel
theorem dL_law_998 : decode cL_law 998 = .ok (.invokevirtual 123, 3) := by decide +kernel
theorem dL_law_1001 : decode cL_law 1001 = .ok (.lcmp, 1) := by decide +kernel
theorem dL_law_1002 : decode cL_law 1002 = .ok (.ifCond .eq 252, 3) := by decide +kernel
theorem dL_law_1005 : decode cL_law 1005 = .ok (.iconst 0, 1) := by decide +kernel
theorem dL_law_1006 : decode cL_law 1006 = .ok (.ireturn, 1) := by decide +kernel
theorem dL_law_1007 : decode cL_law 1007 = .ok (.aload_n 1, 1) := by decide +kernel
theorem dL_law_1008 : decode cL_law 1008 = .ok (.aload_n 0, 1) := by decide +kernel
theorem dL_law_1009 : decode cL_law 1009 = .ok (.iload_n 3, 1) := by decide +kernel
theorem dL_law_1010 : decode cL_law 1010 = .ok (.iconst 1, 1) := by decide +kernel
theorem dL_law_1011 : decode cL_law 1011 = .ok (.iadd, 1) := by decide +kernel
theorem dL_law_1012 : decode cL_law 1012 = .ok (.iaload, 1) := by decide +kernel
theorem dL_law_1013 : decode cL_law 1013 = .ok (.aload_n 0, 1) := by decide +kernel
theorem dL_law_1014 : decode cL_law 1014 = .ok (.iload_n 3, 1) := by decide +kernel
theorem dL_law_1015 : decode cL_law 1015 = .ok (.iconst 2, 1) := by decide +kernel
theorem dL_law_1016 : decode cL_law 1016 = .ok (.iadd, 1) := by decide +kernel
theorem dL_law_1017 : decode cL_law 1017 = .ok (.iaload, 1) := by decide +kernel
theorem dL_law_1018 : decode cL_law 1018 = .ok (.aload_n 0, 1) := by decide +kernel
theorem dL_law_1019 : decode cL_law 1019 = .ok (.iload_n 3, 1) := by decide +kernel
theorem dL_law_1020 : decode cL_law 1020 = .ok (.iconst 3, 1) := by decide +kernel
theorem dL_law_1021 : decode cL_law 1021 = .ok (.iadd, 1) := by decide +kernel
theorem dL_law_1022 : decode cL_law 1022 = .ok (.iaload, 1) := by decide +kernel
theorem dL_law_1023 : decode cL_law 1023 = .ok (.aload_n 0, 1) := by decide +kernel
theorem dL_law_1024 : decode cL_law 1024 = .ok (.iload_n 3, 1) := by decide +kernel
theorem dL_law_1025 : decode cL_law 1025 = .ok (.iconst 4, 1) := by decide +kernel
theorem dL_law_1026 : decode cL_law 1026 = .ok (.iadd, 1) := by decide +kernel
theorem dL_law_1027 : decode cL_law 1027 = .ok (.iaload, 1) := by decide +kernel
theorem dL_law_1028 : decode cL_law 1028 = .ok (.aload_n 0, 1) := by decide +kernel
theorem dL_law_1029 : decode cL_law 1029 = .ok (.iload_n 3, 1) := by decide +kernel
theorem dL_law_1030 : decode cL_law 1030 = .ok (.iconst 5, 1) := by decide +kernel
theorem dL_law_1031 : decode cL_law 1031 = .ok (.iadd, 1) := by decide +kernel
theorem dL_law_1032 : decode cL_law 1032 = .ok (.iaload, 1) := by decide +kernel
theorem dL_law_1033 : decode cL_law 1033 = .ok (.invokevirtual 124, 3) := by decide +kernel
theorem dL_law_1036 : decode cL_law 1036 = .ok (.aload_n 2, 1) := by decide +kernel
theorem dL_law_1037 : decode cL_law 1037 = .ok (.aload_n 0, 1) := by decide +kernel
theorem dL_law_1038 : decode cL_law 1038 = .ok (.iload_n 3, 1) := by decide +kernel
theorem dL_law_1039 : decode cL_law 1039 = .ok (.iconst 1, 1) := by decide +kernel
theorem dL_law_1040 : decode cL_law 1040 = .ok (.iadd, 1) := by decide +kernel
theorem dL_law_1041 : decode cL_law 1041 = .ok (.iaload, 1) := by decide +kernel
theorem dL_law_1042 : decode cL_law 1042 = .ok (.aload_n 0, 1) := by decide +kernel
theorem dL_law_1043 : decode cL_law 1043 = .ok (.iload_n 3, 1) := by decide +kernel
theorem dL_law_1044 : decode cL_law 1044 = .ok (.iconst 2, 1) := by decide +kernel
theorem dL_law_1045 : decode cL_law 1045 = .ok (.iadd, 1) := by decide +kernel
theorem dL_law_1046 : decode cL_law 1046 = .ok (.iaload, 1) := by decide +kernel
theorem dL_law_1047 : decode cL_law 1047 = .ok (.aload_n 0, 1) := by decide +kernel
theorem dL_law_1048 : decode cL_law 1048 = .ok (.iload_n 3, 1) := by decide +kernel
theorem dL_law_1049 : decode cL_law 1049 = .ok (.iconst 3, 1) := by decide +kernel
theorem dL_law_1050 : decode cL_law 1050 = .ok (.iadd, 1) := by decide +kernel
theorem dL_law_1051 : decode cL_law 1051 = .ok (.iaload, 1) := by decide +kernel
theorem dL_law_1052 : decode cL_law 1052 = .ok (.aload_n 0, 1) := by decide +kernel
theorem dL_law_1053 : decode cL_law 1053 = .ok (.iload_n 3, 1) := by decide +kernel
theorem dL_law_1054 : decode cL_law 1054 = .ok (.iconst 4, 1) := by decide +kernel
theorem dL_law_1055 : decode cL_law 1055 = .ok (.iadd, 1) := by decide +kernel
theorem dL_law_1056 : decode cL_law 1056 = .ok (.iaload, 1) := by decide +kernel
theorem dL_law_1057 : decode cL_law 1057 = .ok (.aload_n 0, 1) := by decide +kernel
theorem dL_law_1058 : decode cL_law 1058 = .ok (.iload_n 3, 1) := by decide +kernel
theorem dL_law_1059 : decode cL_law 1059 = .ok (.iconst 5, 1) := by decide +kernel
theorem dL_law_1060 : decode cL_law 1060 = .ok (.iadd, 1) := by decide +kernel
theorem dL_law_1061 : decode cL_law 1061 = .ok (.iaload, 1) := by decide +kernel
theorem dL_law_1062 : decode cL_law 1062 = .ok (.invokevirtual 128, 3) := by decide +kernel
theorem dL_law_1065 : decode cL_law 1065 = .ok (.if_icmp .eq 189, 3) := by decide +kernel
theorem dL_law_1068 : decode cL_law 1068 = .ok (.iconst 0, 1) := by decide +kernel
theorem dL_law_1069 : decode cL_law 1069 = .ok (.ireturn, 1) := by decide +kernel
theorem dL_law_1070 : decode cL_law 1070 = .ok (.aload_n 1, 1) := by decide +kernel
theorem dL_law_1071 : decode cL_law 1071 = .ok (.aload_n 0, 1) := by decide +kernel
theorem dL_law_1072 : decode cL_law 1072 = .ok (.iload_n 3, 1) := by decide +kernel
theorem dL_law_1073 : decode cL_law 1073 = .ok (.iconst 1, 1) := by decide +kernel
theorem dL_law_1074 : decode cL_law 1074 = .ok (.iadd, 1) := by decide +kernel
theorem dL_law_1075 : decode cL_law 1075 = .ok (.iaload, 1) := by decide +kernel
theorem dL_law_1076 : decode cL_law 1076 = .ok (.invokevirtual 129, 3) := by decide +kernel
theorem dL_law_1079 : decode cL_law 1079 = .ok (.aload_n 2, 1) := by decide +kernel
theorem dL_law_1080 : decode cL_law 1080 = .ok (.aload_n 0, 1) := by decide +kernel
theorem dL_law_1081 : decode cL_law 1081 = .ok (.iload_n 3, 1) := by decide +kernel
theorem dL_law_1082 : decode cL_law 1082 = .ok (.iconst 1, 1) := by decide +kernel
theorem dL_law_1083 : decode cL_law 1083 = .ok (.iadd, 1) := by decide +kernel
theorem dL_law_1084 : decode cL_law 1084 = .ok (.iaload, 1) := by decide +kernel
theorem dL_law_1085 : decode cL_law 1085 = .ok (.invokevirtual 132, 3) := by decide +kernel
theorem dL_law_1088 : decode cL_law 1088 = .ok (.if_icmp .eq 166, 3) := by decide +kernel
theorem dL_law_1091 : decode cL_law 1091 = .ok (.iconst 0, 1) := by decide +kernel
theorem dL_law_1092 : decode cL_law 1092 = .ok (.ireturn, 1) := by decide +kernel
theorem dL_law_1093 : decode cL_law 1093 = .ok (.aload_n 1, 1) := by decide +kernel
theorem dL_law_1094 : decode cL_law 1094 = .ok (.aload_n 0, 1) := by decide +kernel
theorem dL_law_1095 : decode cL_law 1095 = .ok (.iload_n 3, 1) := by decide +kernel
theorem dL_law_1096 : decode cL_law 1096 = .ok (.iconst 1, 1) := by decide +kernel
theorem dL_law_1097 : decode cL_law 1097 = .ok (.iadd, 1) := by decide +kernel
theorem dL_law_1098 : decode cL_law 1098 = .ok (.iaload, 1) := by decide +kernel
theorem dL_law_1099 : decode cL_law 1099 = .ok (.aload_n 0, 1) := by decide +kernel
theorem dL_law_1100 : decode cL_law 1100 = .ok (.iload_n 3, 1) := by decide +kernel
theorem dL_law_1101 : decode cL_law 1101 = .ok (.iconst 2, 1) := by decide +kernel
theorem dL_law_1102 : decode cL_law 1102 = .ok (.iadd, 1) := by decide +kernel
theorem dL_law_1103 : decode cL_law 1103 = .ok (.iaload, 1) := by decide +kernel
theorem dL_law_1104 : decode cL_law 1104 = .ok (.invokevirtual 133, 3) := by decide +kernel
theorem dL_law_1107 : decode cL_law 1107 = .ok (.aload_n 2, 1) := by decide +kernel
theorem dL_law_1108 : decode cL_law 1108 = .ok (.aload_n 0, 1) := by decide +kernel
theorem dL_law_1109 : decode cL_law 1109 = .ok (.iload_n 3, 1) := by decide +kernel
theorem dL_law_1110 : decode cL_law 1110 = .ok (.iconst 1, 1) := by decide +kernel
theorem dL_law_1111 : decode cL_law 1111 = .ok (.iadd, 1) := by decide +kernel
theorem dL_law_1112 : decode cL_law 1112 = .ok (.iaload, 1) := by decide +kernel
theorem dL_law_1113 : decode cL_law 1113 = .ok (.aload_n 0, 1) := by decide +kernel
theorem dL_law_1114 : decode cL_law 1114 = .ok (.iload_n 3, 1) := by decide +kernel
theorem dL_law_1115 : decode cL_law 1115 = .ok (.iconst 2, 1) := by decide +kernel
theorem dL_law_1116 : decode cL_law 1116 = .ok (.iadd, 1) := by decide +kernel
theorem dL_law_1117 : decode cL_law 1117 = .ok (.iaload, 1) := by decide +kernel
theorem dL_law_1118 : decode cL_law 1118 = .ok (.invokevirtual 136, 3) := by decide +kernel
theorem dL_law_1121 : decode cL_law 1121 = .ok (.if_icmp .eq 133, 3) := by decide +kernel
theorem dL_law_1124 : decode cL_law 1124 = .ok (.iconst 0, 1) := by decide +kernel
theorem dL_law_1125 : decode cL_law 1125 = .ok (.ireturn, 1) := by decide +kernel
theorem dL_law_1126 : decode cL_law 1126 = .ok (.aload_n 1, 1) := by decide +kernel
theorem dL_law_1127 : decode cL_law 1127 = .ok (.aload_n 0, 1) := by decide +kernel
theorem dL_law_1128 : decode cL_law 1128 = .ok (.iload_n 3, 1) := by decide +kernel
theorem dL_law_1129 : decode cL_law 1129 = .ok (.iconst 1, 1) := by decide +kernel
theorem dL_law_1130 : decode cL_law 1130 = .ok (.iadd, 1) := by decide +kernel
theorem dL_law_1131 : decode cL_law 1131 = .ok (.iaload, 1) := by decide +kernel
theorem dL_law_1132 : decode cL_law 1132 = .ok (.aload_n 0, 1) := by decide +kernel
theorem dL_law_1133 : decode cL_law 1133 = .ok (.iload_n 3, 1) := by decide +kernel
theorem dL_law_1134 : decode cL_law 1134 = .ok (.iconst 2, 1) := by decide +kernel
theorem dL_law_1135 : decode cL_law 1135 = .ok (.iadd, 1) := by decide +kernel
theorem dL_law_1136 : decode cL_law 1136 = .ok (.iaload, 1) := by decide +kernel
theorem dL_law_1137 : decode cL_law 1137 = .ok (.aload_n 0, 1) := by decide +kernel
theorem dL_law_1138 : decode cL_law 1138 = .ok (.iload_n 3, 1) := by decide +kernel
theorem dL_law_1139 : decode cL_law 1139 = .ok (.iconst 3, 1) := by decide +kernel
theorem dL_law_1140 : decode cL_law 1140 = .ok (.iadd, 1) := by decide +kernel
theorem dL_law_1141 : decode cL_law 1141 = .ok (.iaload, 1) := by decide +kernel
theorem dL_law_1142 : decode cL_law 1142 = .ok (.invokevirtual 137, 3) := by decide +kernel
theorem dL_law_1145 : decode cL_law 1145 = .ok (.aload_n 2, 1) := by decide +kernel
theorem dL_law_1146 : decode cL_law 1146 = .ok (.aload_n 0, 1) := by decide +kernel
theorem dL_law_1147 : decode cL_law 1147 = .ok (.iload_n 3, 1) := by decide +kernel
theorem dL_law_1148 : decode cL_law 1148 = .ok (.iconst 1, 1) := by decide +kernel
theorem dL_law_1149 : decode cL_law 1149 = .ok (.iadd, 1) := by decide +kernel
theorem dL_law_1150 : decode cL_law 1150 = .ok (.iaload, 1) := by decide +kernel
theorem dL_law_1151 : decode cL_law 1151 = .ok (.aload_n 0, 1) := by decide +kernel
theorem dL_law_1152 : decode cL_law 1152 = .ok (.iload_n 3, 1) := by decide +kernel
theorem dL_law_1153 : decode cL_law 1153 = .ok (.iconst 2, 1) := by decide +kernel
theorem dL_law_1154 : decode cL_law 1154 = .ok (.iadd, 1) := by decide +kernel
theorem dL_law_1155 : decode cL_law 1155 = .ok (.iaload, 1) := by decide +kernel
theorem dL_law_1156 : decode cL_law 1156 = .ok (.aload_n 0, 1) := by decide +kernel
theorem dL_law_1157 : decode cL_law 1157 = .ok (.iload_n 3, 1) := by decide +kernel
theorem dL_law_1158 : decode cL_law 1158 = .ok (.iconst 3, 1) := by decide +kernel
theorem dL_law_1159 : decode cL_law 1159 = .ok (.iadd, 1) := by decide +kernel
theorem dL_law_1160 : decode cL_law 1160 = .ok (.iaload, 1) := by decide +kernel
theorem dL_law_1161 : decode cL_law 1161 = .ok (.invokevirtual 140, 3) := by decide +kernel
theorem dL_law_1164 : decode cL_law 1164 = .ok (.if_icmp .eq 90, 3) := by decide +kernel
theorem dL_law_1167 : decode cL_law 1167 = .ok (.iconst 0, 1) := by decide +kernel
theorem dL_law_1168 : decode cL_law 1168 = .ok (.ireturn, 1) := by decide +kernel
theorem dL_law_1169 : decode cL_law 1169 = .ok (.aload_n 1, 1) := by decide +kernel
theorem dL_law_1170 : decode cL_law 1170 = .ok (.invokevirtual 141, 3) := by decide +kernel
theorem dL_law_1173 : decode cL_law 1173 = .ok (.aload_n 2, 1) := by decide +kernel
theorem dL_law_1174 : decode cL_law 1174 = .ok (.invokevirtual 144, 3) := by decide +kernel
theorem dL_law_1177 : decode cL_law 1177 = .ok (.if_icmp .eq 77, 3) := by decide +kernel
theorem dL_law_1180 : decode cL_law 1180 = .ok (.iconst 0, 1) := by decide +kernel
theorem dL_law_1181 : decode cL_law 1181 = .ok (.ireturn, 1) := by decide +kernel
theorem dL_law_1182 : decode cL_law 1182 = .ok (.aload_n 1, 1) := by decide +kernel
theorem dL_law_1183 : decode cL_law 1183 = .ok (.invokevirtual 145, 3) := by decide +kernel
theorem dL_law_1186 : decode cL_law 1186 = .ok (.aload_n 2, 1) := by decide +kernel
theorem dL_law_1187 : decode cL_law 1187 = .ok (.invokevirtual 148, 3) := by decide +kernel
theorem dL_law_1190 : decode cL_law 1190 = .ok (.if_icmp .eq 64, 3) := by decide +kernel
theorem dL_law_1193 : decode cL_law 1193 = .ok (.iconst 0, 1) := by decide +kernel
theorem dL_law_1194 : decode cL_law 1194 = .ok (.ireturn, 1) := by decide +kernel
theorem dL_law_1195 : decode cL_law 1195 = .ok (.aload_n 1, 1) := by decide +kernel
theorem dL_law_1196 : decode cL_law 1196 = .ok (.invokevirtual 149, 3) := by decide +kernel
theorem dL_law_1199 : decode cL_law 1199 = .ok (.aload_n 2, 1) := by decide +kernel
theorem dL_law_1200 : decode cL_law 1200 = .ok (.invokevirtual 152, 3) := by decide +kernel
theorem dL_law_1203 : decode cL_law 1203 = .ok (.if_icmp .eq 51, 3) := by decide +kernel
theorem dL_law_1206 : decode cL_law 1206 = .ok (.iconst 0, 1) := by decide +kernel
theorem dL_law_1207 : decode cL_law 1207 = .ok (.ireturn, 1) := by decide +kernel
theorem dL_law_1208 : decode cL_law 1208 = .ok (.aload_n 1, 1) := by decide +kernel
theorem dL_law_1209 : decode cL_law 1209 = .ok (.aload_n 0, 1) := by decide +kernel
theorem dL_law_1210 : decode cL_law 1210 = .ok (.iload_n 3, 1) := by decide +kernel
theorem dL_law_1211 : decode cL_law 1211 = .ok (.iconst 1, 1) := by decide +kernel
theorem dL_law_1212 : decode cL_law 1212 = .ok (.iadd, 1) := by decide +kernel
theorem dL_law_1213 : decode cL_law 1213 = .ok (.iaload, 1) := by decide +kernel
theorem dL_law_1214 : decode cL_law 1214 = .ok (.invokevirtual 153, 3) := by decide +kernel
theorem dL_law_1217 : decode cL_law 1217 = .ok (.aload_n 2, 1) := by decide +kernel
theorem dL_law_1218 : decode cL_law 1218 = .ok (.aload_n 0, 1) := by decide +kernel
theorem dL_law_1219 : decode cL_law 1219 = .ok (.iload_n 3, 1) := by decide +kernel
theorem dL_law_1220 : decode cL_law 1220 = .ok (.iconst 1, 1) := by decide +kernel
theorem dL_law_1221 : decode cL_law 1221 = .ok (.iadd, 1) := by decide +kernel
theorem dL_law_1222 : decode cL_law 1222 = .ok (.iaload, 1) := by decide +kernel
theorem dL_law_1223 : decode cL_law 1223 = .ok (.invokevirtual 156, 3) := by decide +kernel
theorem dL_law_1226 : decode cL_law 1226 = .ok (.if_icmp .eq 28, 3) := by decide +kernel
theorem dL_law_1229 : decode cL_law 1229 = .ok (.iconst 0, 1) := by decide +kernel
theorem dL_law_1230 : decode cL_law 1230 = .ok (.ireturn, 1) := by decide +kernel
theorem dL_law_1231 : decode cL_law 1231 = .ok (.aload_n 1, 1) := by decide +kernel
theorem dL_law_1232 : decode cL_law 1232 = .ok (.aload_n 0, 1) := by decide +kernel
theorem dL_law_1233 : decode cL_law 1233 = .ok (.iload_n 3, 1) := by decide +kernel
theorem dL_law_1234 : decode cL_law 1234 = .ok (.iconst 1, 1) := by decide +kernel
theorem dL_law_1235 : decode cL_law 1235 = .ok (.iadd, 1) := by decide +kernel
theorem dL_law_1236 : decode cL_law 1236 = .ok (.iaload, 1) := by decide +kernel
theorem dL_law_1237 : decode cL_law 1237 = .ok (.invokevirtual 157, 3) := by decide +kernel
theorem dL_law_1240 : decode cL_law 1240 = .ok (.aload_n 2, 1) := by decide +kernel
theorem dL_law_1241 : decode cL_law 1241 = .ok (.aload_n 0, 1) := by decide +kernel
theorem dL_law_1242 : decode cL_law 1242 = .ok (.iload_n 3, 1) := by decide +kernel
theorem dL_law_1243 : decode cL_law 1243 = .ok (.iconst 1, 1) := by decide +kernel
theorem dL_law_1244 : decode cL_law 1244 = .ok (.iadd, 1) := by decide +kernel
theorem dL_law_1245 : decode cL_law 1245 = .ok (.iaload, 1) := by decide +kernel
theorem dL_law_1246 : decode cL_law 1246 = .ok (.invokevirtual 160, 3) := by decide +kernel
theorem dL_law_1249 : decode cL_law 1249 = .ok (.if_icmp .eq 5, 3) := by decide +kernel
theorem dL_law_1252 : decode cL_law 1252 = .ok (.iconst 0, 1) := by decide +kernel
theorem dL_law_1253 : decode cL_law 1253 = .ok (.ireturn, 1) := by decide +kernel
theorem dL_law_1254 : decode cL_law 1254 = .ok (.iinc 3 6, 3) := by decide +kernel
theorem dL_law_1257 : decode cL_law 1257 = .ok (.goto (-1239), 3) := by decide +kernel
theorem dL_law_1260 : decode cL_law 1260 = .ok (.iconst 1, 1) := by decide +kernel
theorem dL_law_1261 : decode cL_law 1261 = .ok (.ireturn, 1) := by decide +kernel
end
section
def BIG : List Cond := lw_tbl.filter goodWord
def isNw : Cond → Bool
  | .fieldLinkNest _ _ _ _ _ _ => true
  | .methodLinkNest _ _ _ _ => true
  | _ => false
def NW : List Cond := lw_tbl.filter isNw
theorem bigm {w : Cond} (i : Nat) (h : lw_tbl[i]? = some w) (g : goodWord w = true) : w ∈ BIG := List.mem_filter.mpr ⟨List.mem_of_getElem? h, g⟩
theorem nwm {w : Cond} (i : Nat) (h : lw_tbl[i]? = some w) (g : isNw w = true) : w ∈ NW := List.mem_filter.mpr ⟨List.mem_of_getElem? h, g⟩
theorem q0 : Cond.selects RX10 yX10_finding yX10_finding ∈ BIG := bigm 0 (by decide +kernel) (by decide +kernel)
theorem q1 : Cond.selects RX3 yX3_bring yX3_bring ∈ BIG := bigm 1 (by decide +kernel) (by decide +kernel)
theorem q2 : Cond.selects RX3 yX3_sitOn yX3_sitOn ∈ BIG := bigm 2 (by decide +kernel) (by decide +kernel)
theorem q3 : Cond.selects RX3 yX3_fill yX3_fill ∈ BIG := bigm 3 (by decide +kernel) (by decide +kernel)
theorem q4 : Cond.selects RX10 yX10_firstHour yX10_firstHour ∈ BIG := bigm 4 (by decide +kernel) (by decide +kernel)
theorem q5 : Cond.selects RX10 yX10_isSoAhead yX10_isSoAhead ∈ BIG := bigm 5 (by decide +kernel) (by decide +kernel)
theorem q6 : Cond.selects RX10 yX10_areTwo yX10_areTwo ∈ BIG := bigm 6 (by decide +kernel) (by decide +kernel)
theorem q7 : Cond.selects RX10 yX10_learntAs yX10_learntAs ∈ BIG := bigm 7 (by decide +kernel) (by decide +kernel)
theorem q8 : Cond.selects RX10 yX10_leastOfBest yX10_leastOfBest ∈ BIG := bigm 8 (by decide +kernel) (by decide +kernel)
theorem q9 : Cond.selects RX10 yX10_heardWithout yX10_heardWithout ∈ BIG := bigm 9 (by decide +kernel) (by decide +kernel)
theorem q10 : Cond.selects RX10 yX10_spreadFrom yX10_spreadFrom ∈ BIG := bigm 10 (by decide +kernel) (by decide +kernel)
theorem q11 : Cond.selects RX10 yX10_believedIfTurned yX10_believedIfTurned ∈ BIG := bigm 11 (by decide +kernel) (by decide +kernel)
theorem q12 : Cond.selects RX7 yX7_advance yX7_advance ∈ BIG := bigm 12 (by decide +kernel) (by decide +kernel)
theorem q13 : Cond.selects RX7 yX7_takeWord yX7_takeWord ∈ BIG := bigm 13 (by decide +kernel) (by decide +kernel)
theorem q14 : Cond.selects RX7 yX7_takeNumber yX7_takeNumber ∈ BIG := bigm 14 (by decide +kernel) (by decide +kernel)
theorem q15 : Cond.selects RX7 yX7_tellItem yX7_tellItem ∈ BIG := bigm 15 (by decide +kernel) (by decide +kernel)
theorem q16 : Cond.selects RX7 yX7_isWord yX7_isWord ∈ BIG := bigm 16 (by decide +kernel) (by decide +kernel)
theorem q17 : Cond.selects RX7 yX7_tellVisitor yX7_tellVisitor ∈ BIG := bigm 17 (by decide +kernel) (by decide +kernel)
theorem q18 : Cond.selects RX7 yX7_tellKnown yX7_tellKnown ∈ BIG := bigm 18 (by decide +kernel) (by decide +kernel)
theorem q19 : Cond.selects RX7 yX7_isNumberBelow yX7_isNumberBelow ∈ BIG := bigm 19 (by decide +kernel) (by decide +kernel)
theorem q20 : Cond.selects RX7 yX7_tellSeat yX7_tellSeat ∈ BIG := bigm 20 (by decide +kernel) (by decide +kernel)
theorem q21 : Cond.selects RX7 yX7_tellSecret yX7_tellSecret ∈ BIG := bigm 21 (by decide +kernel) (by decide +kernel)
theorem q22 : Cond.selects RX10 yX10_faultOfSheet yX10_faultOfSheet ∈ BIG := bigm 22 (by decide +kernel) (by decide +kernel)
theorem q23 : Cond.selects RX5 yX5_cut yX5_cut ∈ BIG := bigm 23 (by decide +kernel) (by decide +kernel)
theorem q24 : Cond.selects RX10 yX10_goesAsTold yX10_goesAsTold ∈ BIG := bigm 24 (by decide +kernel) (by decide +kernel)
theorem q25 : Cond.selects RX11 yX11_becomes yX11_becomes ∈ BIG := bigm 25 (by decide +kernel) (by decide +kernel)
theorem q26 : Cond.selects RX11 yX11_finds yX11_finds ∈ BIG := bigm 26 (by decide +kernel) (by decide +kernel)
theorem q27 : Cond.selects RX11 yX11_its yX11_its ∈ BIG := bigm 27 (by decide +kernel) (by decide +kernel)
theorem q28 : Cond.selects RX11 yX11_comes yX11_comes ∈ BIG := bigm 28 (by decide +kernel) (by decide +kernel)
theorem q29 : Cond.selects RX11 yX11_isOne yX11_isOne ∈ BIG := bigm 29 (by decide +kernel) (by decide +kernel)
theorem q30 : Cond.selects RX11 yX11_says yX11_says ∈ BIG := bigm 30 (by decide +kernel) (by decide +kernel)
theorem q31 : Cond.selects RX11 yX11_saysPlain yX11_saysPlain ∈ BIG := bigm 31 (by decide +kernel) (by decide +kernel)
theorem q32 : Cond.selects RX11 yX11_stays yX11_stays ∈ BIG := bigm 32 (by decide +kernel) (by decide +kernel)
theorem q33 : Cond.selects RX11 yX11_may yX11_may ∈ BIG := bigm 33 (by decide +kernel) (by decide +kernel)
theorem q34 : Cond.selects RX11 yX11_knowsNow yX11_knowsNow ∈ BIG := bigm 34 (by decide +kernel) (by decide +kernel)
theorem q35 : Cond.selects RX11 yX11_sitter yX11_sitter ∈ BIG := bigm 35 (by decide +kernel) (by decide +kernel)
theorem q36 : Cond.selects RX11 yX11_isTrusted yX11_isTrusted ∈ BIG := bigm 36 (by decide +kernel) (by decide +kernel)
theorem q37 : Cond.selects RX11 yX11_goes yX11_goes ∈ BIG := bigm 37 (by decide +kernel) (by decide +kernel)
theorem q38 : Cond.selects RX11 yX11_goesOn yX11_goesOn ∈ BIG := bigm 38 (by decide +kernel) (by decide +kernel)
theorem q39 : Cond.selects RX11 yX11_isMonday yX11_isMonday ∈ BIG := bigm 39 (by decide +kernel) (by decide +kernel)
theorem q40 : Cond.selects RX11 yX11_hearsItself yX11_hearsItself ∈ BIG := bigm 40 (by decide +kernel) (by decide +kernel)
theorem q41 : Cond.selects RX11 yX11_hears yX11_hears ∈ BIG := bigm 41 (by decide +kernel) (by decide +kernel)
theorem q42 : Cond.selects RX11 yX11_nextIn yX11_nextIn ∈ BIG := bigm 42 (by decide +kernel) (by decide +kernel)
theorem q43 : Cond.selects RX11 yX11_heardOfAll yX11_heardOfAll ∈ BIG := bigm 43 (by decide +kernel) (by decide +kernel)
theorem q44 : Cond.selects RX11 yX11_outNow yX11_outNow ∈ BIG := bigm 44 (by decide +kernel) (by decide +kernel)
theorem q45 : Cond.selects RX11 yX11_isAsked yX11_isAsked ∈ BIG := bigm 45 (by decide +kernel) (by decide +kernel)
theorem q46 : Cond.selects RX11 yX11_orNone yX11_orNone ∈ BIG := bigm 46 (by decide +kernel) (by decide +kernel)
theorem q47 : Cond.selects RX11 yX11_howManyKnow yX11_howManyKnow ∈ BIG := bigm 47 (by decide +kernel) (by decide +kernel)
theorem q48 : Cond.selects RX11 yX11_believed yX11_believed ∈ BIG := bigm 48 (by decide +kernel) (by decide +kernel)
theorem q49 : Cond.selects RX11 yX11_nextToken yX11_nextToken ∈ BIG := bigm 49 (by decide +kernel) (by decide +kernel)
theorem q50 : Cond.selects RX11 yX11_byteAt yX11_byteAt ∈ BIG := bigm 50 (by decide +kernel) (by decide +kernel)
theorem q51 : Cond.selects RX11 yX11_itemHere yX11_itemHere ∈ BIG := bigm 51 (by decide +kernel) (by decide +kernel)
theorem q52 : Cond.selects RX11 yX11_kindHere yX11_kindHere ∈ BIG := bigm 52 (by decide +kernel) (by decide +kernel)
theorem q53 : Cond.selects RX11 yX11_isSix yX11_isSix ∈ BIG := bigm 53 (by decide +kernel) (by decide +kernel)
theorem q54 : Cond.selects RX11 yX11_isWord yX11_isWord ∈ BIG := bigm 54 (by decide +kernel) (by decide +kernel)
theorem q55 : Cond.selects RX11 yX11_has3 yX11_has3 ∈ BIG := bigm 55 (by decide +kernel) (by decide +kernel)
theorem q56 : Cond.selects RX11 yX11_isFive yX11_isFive ∈ BIG := bigm 56 (by decide +kernel) (by decide +kernel)
theorem q57 : Cond.selects RX11 yX11_isFour yX11_isFour ∈ BIG := bigm 57 (by decide +kernel) (by decide +kernel)
theorem q58 : Cond.selects RX11 yX11_personHere yX11_personHere ∈ BIG := bigm 58 (by decide +kernel) (by decide +kernel)
theorem q59 : Cond.selects RX11 yX11_fails yX11_fails ∈ BIG := bigm 59 (by decide +kernel) (by decide +kernel)
theorem q60 : Cond.selects RX11 yX11_knowsHere yX11_knowsHere ∈ BIG := bigm 60 (by decide +kernel) (by decide +kernel)
theorem q61 : Cond.selects RX11 yX11_isNumber yX11_isNumber ∈ BIG := bigm 61 (by decide +kernel) (by decide +kernel)
theorem q62 : Cond.selects RX11 yX11_secretHere yX11_secretHere ∈ BIG := bigm 62 (by decide +kernel) (by decide +kernel)
theorem q63 : Cond.selects RX11 yX11_wants yX11_wants ∈ BIG := bigm 63 (by decide +kernel) (by decide +kernel)
theorem q64 : Cond.selects RX11 yX11_isSo yX11_isSo ∈ BIG := bigm 64 (by decide +kernel) (by decide +kernel)
theorem q65 : Cond.initialized RL ∈ BIG := bigm 65 (by decide +kernel) (by decide +kernel)
theorem q66 : Cond.initialized RX10 ∈ BIG := bigm 66 (by decide +kernel) (by decide +kernel)
theorem q67 : Cond.initialized RX4 ∈ BIG := bigm 67 (by decide +kernel) (by decide +kernel)
theorem q68 : Cond.initialized RX0 ∈ BIG := bigm 68 (by decide +kernel) (by decide +kernel)
theorem q69 : Cond.initialized RX1 ∈ BIG := bigm 69 (by decide +kernel) (by decide +kernel)
theorem q70 : Cond.initialized RX9 ∈ BIG := bigm 70 (by decide +kernel) (by decide +kernel)
theorem q71 : Cond.initialized RX2 ∈ BIG := bigm 71 (by decide +kernel) (by decide +kernel)
theorem q72 : Cond.initialized RX6 ∈ BIG := bigm 72 (by decide +kernel) (by decide +kernel)
theorem q73 : Cond.initialized RX3 ∈ BIG := bigm 73 (by decide +kernel) (by decide +kernel)
theorem q74 : Cond.initialized RX8 ∈ BIG := bigm 74 (by decide +kernel) (by decide +kernel)
theorem q75 : Cond.initialized RX7 ∈ BIG := bigm 75 (by decide +kernel) (by decide +kernel)
theorem q76 : Cond.initialized RX5 ∈ BIG := bigm 76 (by decide +kernel) (by decide +kernel)
theorem q77 : Cond.initialized RX11 ∈ BIG := bigm 77 (by decide +kernel) (by decide +kernel)
theorem q78 : Cond.initialized RJ6 ∈ BIG := bigm 78 (by decide +kernel) (by decide +kernel)
theorem q79 : Cond.initialized RJ9 ∈ BIG := bigm 79 (by decide +kernel) (by decide +kernel)
theorem q80 : Cond.initialized RJ0 ∈ BIG := bigm 80 (by decide +kernel) (by decide +kernel)
theorem q81 : Cond.initialized RJ1 ∈ BIG := bigm 81 (by decide +kernel) (by decide +kernel)
theorem q82 : Cond.initialized RJ3 ∈ BIG := bigm 82 (by decide +kernel) (by decide +kernel)
theorem q83 : Cond.initialized RJ2 ∈ BIG := bigm 83 (by decide +kernel) (by decide +kernel)
theorem q84 : Cond.initialized RJ10 ∈ BIG := bigm 84 (by decide +kernel) (by decide +kernel)
theorem q85 : Cond.classLink RL 7 RX10 ∈ BIG := bigm 85 (by decide +kernel) (by decide +kernel)
theorem q86 : Cond.instantiable RX10 8 ∈ BIG := bigm 86 (by decide +kernel) (by decide +kernel)
theorem q87 : Cond.methodLink RL 9 yX10_init ∈ BIG := bigm 87 (by decide +kernel) (by decide +kernel)
theorem q88 : Cond.instanceMethod yX10_init ∈ BIG := bigm 88 (by decide +kernel) (by decide +kernel)
theorem q89 : Cond.code yX10_init cX10_init 3 none ∈ BIG := bigm 89 (by decide +kernel) (by decide +kernel)
theorem q90 : Cond.methodLink RX10 1 ⟨"java/lang/Object", "<init>", "()V"⟩ ∈ BIG := bigm 90 (by decide +kernel) (by decide +kernel)
theorem q91 : Cond.instanceMethod ⟨"java/lang/Object", "<init>", "()V"⟩ ∈ BIG := bigm 91 (by decide +kernel) (by decide +kernel)
theorem q92 : Cond.code ⟨"java/lang/Object", "<init>", "()V"⟩ object_method_1_code 1 none ∈ BIG := bigm 92 (by decide +kernel) (by decide +kernel)
theorem q93 : Cond.classLink RX10 7 RX4 ∈ BIG := bigm 93 (by decide +kernel) (by decide +kernel)
theorem q95 : Cond.instantiable RX4 0 ∈ BIG := bigm 95 (by decide +kernel) (by decide +kernel)
theorem q96 : Cond.methodLinkNest RX10 9 yX4_init RX10 ∈ NW := nwm 96 (by decide +kernel) rfl
theorem q97 : Cond.instanceMethod yX4_init ∈ BIG := bigm 97 (by decide +kernel) (by decide +kernel)
theorem q98 : Cond.code yX4_init cX4_init 1 none ∈ BIG := bigm 98 (by decide +kernel) (by decide +kernel)
theorem q99 : Cond.methodLink RX4 1 ⟨"java/lang/Object", "<init>", "()V"⟩ ∈ BIG := bigm 99 (by decide +kernel) (by decide +kernel)
theorem q100 : Cond.superclass RX4 "java/lang/Object" ∈ BIG := bigm 100 (by decide +kernel) (by decide +kernel)
theorem q101 : Cond.classLink RX10 10 RX0 ∈ BIG := bigm 101 (by decide +kernel) (by decide +kernel)
theorem q102 : Cond.instantiable RX0 0 ∈ BIG := bigm 102 (by decide +kernel) (by decide +kernel)
theorem q103 : Cond.methodLinkNest RX10 12 yX0_init RX10 ∈ NW := nwm 103 (by decide +kernel) rfl
theorem q104 : Cond.instanceMethod yX0_init ∈ BIG := bigm 104 (by decide +kernel) (by decide +kernel)
theorem q105 : Cond.code yX0_init cX0_init 1 none ∈ BIG := bigm 105 (by decide +kernel) (by decide +kernel)
theorem q106 : Cond.methodLinkNest RX0 1 yX4_init RX10 ∈ NW := nwm 106 (by decide +kernel) rfl
theorem q107 : Cond.superclass RX0 RX4 ∈ BIG := bigm 107 (by decide +kernel) (by decide +kernel)
theorem q108 : Cond.classLink RX10 13 RX1 ∈ BIG := bigm 108 (by decide +kernel) (by decide +kernel)
theorem q109 : Cond.instantiable RX1 0 ∈ BIG := bigm 109 (by decide +kernel) (by decide +kernel)
theorem q110 : Cond.methodLinkNest RX10 15 yX1_init RX10 ∈ NW := nwm 110 (by decide +kernel) rfl
theorem q111 : Cond.instanceMethod yX1_init ∈ BIG := bigm 111 (by decide +kernel) (by decide +kernel)
theorem q112 : Cond.code yX1_init cX1_init 1 none ∈ BIG := bigm 112 (by decide +kernel) (by decide +kernel)
theorem q113 : Cond.methodLinkNest RX1 1 yX4_init RX10 ∈ NW := nwm 113 (by decide +kernel) rfl
theorem q114 : Cond.superclass RX1 RX4 ∈ BIG := bigm 114 (by decide +kernel) (by decide +kernel)
theorem q115 : Cond.classLink RX10 16 RX9 ∈ BIG := bigm 115 (by decide +kernel) (by decide +kernel)
theorem q116 : Cond.instantiable RX9 0 ∈ BIG := bigm 116 (by decide +kernel) (by decide +kernel)
theorem q117 : Cond.methodLinkNest RX10 18 yX9_init RX10 ∈ NW := nwm 117 (by decide +kernel) rfl
theorem q118 : Cond.instanceMethod yX9_init ∈ BIG := bigm 118 (by decide +kernel) (by decide +kernel)
theorem q119 : Cond.code yX9_init cX9_init 1 none ∈ BIG := bigm 119 (by decide +kernel) (by decide +kernel)
theorem q120 : Cond.methodLinkNest RX9 3 yX4_init RX10 ∈ NW := nwm 120 (by decide +kernel) rfl
theorem q121 : Cond.superclass RX9 RX4 ∈ BIG := bigm 121 (by decide +kernel) (by decide +kernel)
theorem q122 : Cond.classLink RX10 19 RX2 ∈ BIG := bigm 122 (by decide +kernel) (by decide +kernel)
theorem q123 : Cond.instantiable RX2 0 ∈ BIG := bigm 123 (by decide +kernel) (by decide +kernel)
theorem q124 : Cond.methodLinkNest RX10 21 yX2_init RX10 ∈ NW := nwm 124 (by decide +kernel) rfl
theorem q125 : Cond.instanceMethod yX2_init ∈ BIG := bigm 125 (by decide +kernel) (by decide +kernel)
theorem q126 : Cond.code yX2_init cX2_init 1 none ∈ BIG := bigm 126 (by decide +kernel) (by decide +kernel)
theorem q127 : Cond.methodLinkNest RX2 3 yX0_init RX10 ∈ NW := nwm 127 (by decide +kernel) rfl
theorem q128 : Cond.superclass RX2 RX0 ∈ BIG := bigm 128 (by decide +kernel) (by decide +kernel)
theorem q129 : Cond.classLink RX10 22 RX6 ∈ BIG := bigm 129 (by decide +kernel) (by decide +kernel)
theorem q130 : Cond.instantiable RX6 0 ∈ BIG := bigm 130 (by decide +kernel) (by decide +kernel)
theorem q131 : Cond.methodLinkNest RX10 24 yX6_init RX10 ∈ NW := nwm 131 (by decide +kernel) rfl
theorem q132 : Cond.instanceMethod yX6_init ∈ BIG := bigm 132 (by decide +kernel) (by decide +kernel)
theorem q133 : Cond.code yX6_init cX6_init 1 none ∈ BIG := bigm 133 (by decide +kernel) (by decide +kernel)
theorem q134 : Cond.methodLinkNest RX6 1 yX9_init RX10 ∈ NW := nwm 134 (by decide +kernel) rfl
theorem q135 : Cond.superclass RX6 RX9 ∈ BIG := bigm 135 (by decide +kernel) (by decide +kernel)
theorem q136 : Cond.classLink RX10 25 RX3 ∈ BIG := bigm 136 (by decide +kernel) (by decide +kernel)
theorem q137 : Cond.instantiable RX3 6 ∈ BIG := bigm 137 (by decide +kernel) (by decide +kernel)
theorem q138 : Cond.methodLink RX10 27 yX3_init ∈ BIG := bigm 138 (by decide +kernel) (by decide +kernel)
theorem q139 : Cond.instanceMethod yX3_init ∈ BIG := bigm 139 (by decide +kernel) (by decide +kernel)
theorem q140 : Cond.code yX3_init cX3_init 3 none ∈ BIG := bigm 140 (by decide +kernel) (by decide +kernel)
theorem q141 : Cond.methodLink RX3 3 ⟨"java/lang/Object", "<init>", "()V"⟩ ∈ BIG := bigm 141 (by decide +kernel) (by decide +kernel)
theorem q142 : Cond.classLink RX3 15 RX8 ∈ BIG := bigm 142 (by decide +kernel) (by decide +kernel)
theorem q144 : Cond.instantiable RX8 6 ∈ BIG := bigm 144 (by decide +kernel) (by decide +kernel)
theorem q145 : Cond.methodLinkNest RX3 21 yX8_init RX10 ∈ NW := nwm 145 (by decide +kernel) rfl
theorem q146 : Cond.instanceMethod yX8_init ∈ BIG := bigm 146 (by decide +kernel) (by decide +kernel)
theorem q147 : Cond.code yX8_init cX8_init 1 none ∈ BIG := bigm 147 (by decide +kernel) (by decide +kernel)
theorem q148 : Cond.methodLink RX8 3 ⟨"java/lang/Object", "<init>", "()V"⟩ ∈ BIG := bigm 148 (by decide +kernel) (by decide +kernel)
theorem q149 : Cond.fieldLink RX8 9 "WhisperSeats$Visitor" "kind" "I" ∈ BIG := bigm 149 (by decide +kernel) (by decide +kernel)
theorem q150 : Cond.fieldLinkNest RX10 112 "WhisperSeats$Visitor" "kind" "I" RX10 ∈ NW := nwm 150 (by decide +kernel) rfl
theorem q151 : Cond.fieldLinkNest RX3 50 "WhisperSeats$Visitor" "kind" "I" RX10 ∈ NW := nwm 151 (by decide +kernel) rfl
theorem q152 : Cond.fieldLinkNest RX0 7 "WhisperSeats$Visitor" "known" "I" RX10 ∈ NW := nwm 152 (by decide +kernel) rfl
theorem q153 : Cond.fieldLink RX8 15 "WhisperSeats$Visitor" "known" "I" ∈ BIG := bigm 153 (by decide +kernel) (by decide +kernel)
theorem q154 : Cond.fieldLinkNest RX2 17 "WhisperSeats$Visitor" "known" "I" RX10 ∈ NW := nwm 154 (by decide +kernel) rfl
theorem q155 : Cond.fieldLinkNest RX4 19 "WhisperSeats$Visitor" "known" "I" RX10 ∈ NW := nwm 155 (by decide +kernel) rfl
theorem q156 : Cond.fieldLinkNest RX10 90 "WhisperSeats$Visitor" "known" "I" RX10 ∈ NW := nwm 156 (by decide +kernel) rfl
theorem q157 : Cond.fieldLinkNest RX7 91 "WhisperSeats$Visitor" "known" "I" RX10 ∈ NW := nwm 157 (by decide +kernel) rfl
theorem q158 : Cond.fieldLinkNest RX3 63 "WhisperSeats$Visitor" "known" "I" RX10 ∈ NW := nwm 158 (by decide +kernel) rfl
theorem q159 : Cond.fieldLink RX8 18 "WhisperSeats$Visitor" "believed" "I" ∈ BIG := bigm 159 (by decide +kernel) (by decide +kernel)
theorem q160 : Cond.fieldLinkNest RX4 13 "WhisperSeats$Visitor" "believed" "I" RX10 ∈ NW := nwm 160 (by decide +kernel) rfl
theorem q161 : Cond.fieldLinkNest RX10 95 "WhisperSeats$Visitor" "believed" "I" RX10 ∈ NW := nwm 161 (by decide +kernel) rfl
theorem q162 : Cond.fieldLinkNest RX3 123 "WhisperSeats$Visitor" "believed" "I" RX10 ∈ NW := nwm 162 (by decide +kernel) rfl
theorem q163 : Cond.fieldLink RX8 28 "WhisperSeats$Visitor" "seat" "I" ∈ BIG := bigm 163 (by decide +kernel) (by decide +kernel)
theorem q164 : Cond.fieldLinkNest RX10 115 "WhisperSeats$Visitor" "seat" "I" RX10 ∈ NW := nwm 164 (by decide +kernel) rfl
theorem q165 : Cond.fieldLinkNest RX3 43 "WhisperSeats$Visitor" "seat" "I" RX10 ∈ NW := nwm 165 (by decide +kernel) rfl
theorem q166 : Cond.fieldLink RX8 31 "WhisperSeats$Visitor" "sat" "I" ∈ BIG := bigm 166 (by decide +kernel) (by decide +kernel)
theorem q167 : Cond.fieldLinkNest RX10 118 "WhisperSeats$Visitor" "sat" "I" RX10 ∈ NW := nwm 167 (by decide +kernel) rfl
theorem q168 : Cond.fieldLinkNest RX3 111 "WhisperSeats$Visitor" "sat" "I" RX10 ∈ NW := nwm 168 (by decide +kernel) rfl
theorem q169 : Cond.fieldLink RX8 21 "WhisperSeats$Visitor" "heard" "I" ∈ BIG := bigm 169 (by decide +kernel) (by decide +kernel)
theorem q170 : Cond.fieldLinkNest RX10 121 "WhisperSeats$Visitor" "heard" "I" RX10 ∈ NW := nwm 170 (by decide +kernel) rfl
theorem q171 : Cond.fieldLinkNest RX3 120 "WhisperSeats$Visitor" "heard" "I" RX10 ∈ NW := nwm 171 (by decide +kernel) rfl
theorem q184 : Cond.superclass RX8 "java/lang/Object" ∈ BIG := bigm 184 (by decide +kernel) (by decide +kernel)
theorem q185 : Cond.fieldLink RX3 9 "WhisperSeats$Park" "kinds" "[LWhisperSeats$Person;" ∈ BIG := bigm 185 (by decide +kernel) (by decide +kernel)
theorem q186 : Cond.fieldLink RX3 17 "WhisperSeats$Park" "visitors" "[LWhisperSeats$Visitor;" ∈ BIG := bigm 186 (by decide +kernel) (by decide +kernel)
theorem q187 : Cond.fieldLink RX3 22 "WhisperSeats$Park" "size" "I" ∈ BIG := bigm 187 (by decide +kernel) (by decide +kernel)
theorem q188 : Cond.fieldLinkNest RX10 83 "WhisperSeats$Park" "size" "I" RX10 ∈ NW := nwm 188 (by decide +kernel) rfl
theorem q189 : Cond.fieldLink RX3 26 "WhisperSeats$Park" "shams" "I" ∈ BIG := bigm 189 (by decide +kernel) (by decide +kernel)
theorem q190 : Cond.fieldLinkNest RX10 76 "WhisperSeats$Park" "shams" "I" RX10 ∈ NW := nwm 190 (by decide +kernel) rfl
theorem q191 : Cond.fieldLinkNest RX7 68 "WhisperSeats$Park" "shams" "I" RX10 ∈ NW := nwm 191 (by decide +kernel) rfl
theorem q192 : Cond.fieldLink RX3 29 "WhisperSeats$Park" "hour" "I" ∈ BIG := bigm 192 (by decide +kernel) (by decide +kernel)
theorem q193 : Cond.fieldLinkNest RX10 155 "WhisperSeats$Park" "hour" "I" RX10 ∈ NW := nwm 193 (by decide +kernel) rfl
theorem q194 : Cond.fieldLink RX3 32 "WhisperSeats$Park" "cameLast" "I" ∈ BIG := bigm 194 (by decide +kernel) (by decide +kernel)
theorem q195 : Cond.fieldLinkNest RX10 175 "WhisperSeats$Park" "cameLast" "I" RX10 ∈ NW := nwm 195 (by decide +kernel) rfl
theorem q208 : Cond.superclass RX3 "java/lang/Object" ∈ BIG := bigm 208 (by decide +kernel) (by decide +kernel)
theorem q209 : Cond.classLink RX10 46 RX7 ∈ BIG := bigm 209 (by decide +kernel) (by decide +kernel)
theorem q210 : Cond.instantiable RX7 6 ∈ BIG := bigm 210 (by decide +kernel) (by decide +kernel)
theorem q211 : Cond.methodLinkNest RX10 48 yX7_init RX10 ∈ NW := nwm 211 (by decide +kernel) rfl
theorem q212 : Cond.instanceMethod yX7_init ∈ BIG := bigm 212 (by decide +kernel) (by decide +kernel)
theorem q213 : Cond.code yX7_init cX7_init 1 none ∈ BIG := bigm 213 (by decide +kernel) (by decide +kernel)
theorem q214 : Cond.methodLink RX7 3 ⟨"java/lang/Object", "<init>", "()V"⟩ ∈ BIG := bigm 214 (by decide +kernel) (by decide +kernel)
theorem q215 : Cond.fieldLink RX7 9 "WhisperSeats$Tape" "bytes" "[I" ∈ BIG := bigm 215 (by decide +kernel) (by decide +kernel)
theorem q216 : Cond.fieldLink RX7 15 "WhisperSeats$Tape" "length" "I" ∈ BIG := bigm 216 (by decide +kernel) (by decide +kernel)
theorem q217 : Cond.fieldLinkNest RX10 214 "WhisperSeats$Tape" "length" "I" RX10 ∈ NW := nwm 217 (by decide +kernel) rfl
theorem q218 : Cond.fieldLink RX7 32 "WhisperSeats$Tape" "token" "I" ∈ BIG := bigm 218 (by decide +kernel) (by decide +kernel)
theorem q219 : Cond.fieldLink RX7 29 "WhisperSeats$Tape" "start" "I" ∈ BIG := bigm 219 (by decide +kernel) (by decide +kernel)
theorem q220 : Cond.fieldLink RX7 19 "WhisperSeats$Tape" "behind" "I" ∈ BIG := bigm 220 (by decide +kernel) (by decide +kernel)
theorem q221 : Cond.fieldLink RX7 65 "WhisperSeats$Tape" "value" "I" ∈ BIG := bigm 221 (by decide +kernel) (by decide +kernel)
theorem q234 : Cond.superclass RX7 "java/lang/Object" ∈ BIG := bigm 234 (by decide +kernel) (by decide +kernel)
theorem q236 : Cond.classLink RX10 53 RX5 ∈ BIG := bigm 236 (by decide +kernel) (by decide +kernel)
theorem q238 : Cond.instantiable RX5 3 ∈ BIG := bigm 238 (by decide +kernel) (by decide +kernel)
theorem q239 : Cond.methodLinkNest RX10 59 yX5_init RX10 ∈ NW := nwm 239 (by decide +kernel) rfl
theorem q240 : Cond.instanceMethod yX5_init ∈ BIG := bigm 240 (by decide +kernel) (by decide +kernel)
theorem q241 : Cond.code yX5_init cX5_init 1 none ∈ BIG := bigm 241 (by decide +kernel) (by decide +kernel)
theorem q242 : Cond.methodLink RX5 3 ⟨"java/lang/Object", "<init>", "()V"⟩ ∈ BIG := bigm 242 (by decide +kernel) (by decide +kernel)
theorem q243 : Cond.fieldLink RX5 9 "WhisperSeats$Sheet" "numbers" "[J" ∈ BIG := bigm 243 (by decide +kernel) (by decide +kernel)
theorem q244 : Cond.fieldLinkNest RX10 250 "WhisperSeats$Sheet" "numbers" "[J" RX10 ∈ NW := nwm 244 (by decide +kernel) rfl
theorem q245 : Cond.fieldLink RX5 15 "WhisperSeats$Sheet" "bits" "I" ∈ BIG := bigm 245 (by decide +kernel) (by decide +kernel)
theorem q246 : Cond.fieldLinkNest RX10 244 "WhisperSeats$Sheet" "bits" "I" RX10 ∈ NW := nwm 246 (by decide +kernel) rfl
theorem q247 : Cond.fieldLink RX5 19 "WhisperSeats$Sheet" "size" "I" ∈ BIG := bigm 247 (by decide +kernel) (by decide +kernel)
theorem q248 : Cond.fieldLinkNest RX10 235 "WhisperSeats$Sheet" "size" "I" RX10 ∈ NW := nwm 248 (by decide +kernel) rfl
theorem q255 : Cond.superclass RX5 "java/lang/Object" ∈ BIG := bigm 255 (by decide +kernel) (by decide +kernel)
theorem q257 : Cond.fieldLink RX10 30 "WhisperSeats" "here" "LWhisperSeats$Park;" ∈ BIG := bigm 257 (by decide +kernel) (by decide +kernel)
theorem q258 : Cond.fieldLink RX10 36 "WhisperSeats" "ahead" "LWhisperSeats$Park;" ∈ BIG := bigm 258 (by decide +kernel) (by decide +kernel)
theorem q259 : Cond.fieldLink RX10 39 "WhisperSeats" "kept" "LWhisperSeats$Park;" ∈ BIG := bigm 259 (by decide +kernel) (by decide +kernel)
theorem q260 : Cond.fieldLink RX10 42 "WhisperSeats" "isKept" "Z" ∈ BIG := bigm 260 (by decide +kernel) (by decide +kernel)
theorem q261 : Cond.fieldLink RX10 49 "WhisperSeats" "tape" "LWhisperSeats$Tape;" ∈ BIG := bigm 261 (by decide +kernel) (by decide +kernel)
theorem q262 : Cond.fieldLink RX10 55 "WhisperSeats" "sheets" "[LWhisperSeats$Sheet;" ∈ BIG := bigm 262 (by decide +kernel) (by decide +kernel)
theorem q263 : Cond.fieldLink RX10 60 "WhisperSeats" "findings" "[I" ∈ BIG := bigm 263 (by decide +kernel) (by decide +kernel)
theorem q264 : Cond.fieldLink RX10 64 "WhisperSeats" "scores" "[I" ∈ BIG := bigm 264 (by decide +kernel) (by decide +kernel)
theorem q281 : Cond.superclass RX10 "java/lang/Object" ∈ BIG := bigm 281 (by decide +kernel) (by decide +kernel)
theorem q282 : Cond.methodLink RL 13 yX10_sham ∈ BIG := bigm 282 (by decide +kernel) (by decide +kernel)
theorem q283 : Cond.instanceMethod yX10_sham ∈ BIG := bigm 283 (by decide +kernel) (by decide +kernel)
theorem q284 : Cond.selects RX10 yX10_sham yX10_sham ∈ BIG := bigm 284 (by decide +kernel) (by decide +kernel)
theorem q285 : Cond.code yX10_sham cX10_sham 3 (some .int) ∈ BIG := bigm 285 (by decide +kernel) (by decide +kernel)
theorem q286 : Cond.methodLink RX10 67 yX10_isSetOfSecrets ∈ BIG := bigm 286 (by decide +kernel) (by decide +kernel)
theorem q287 : Cond.static yX10_isSetOfSecrets ∈ BIG := bigm 287 (by decide +kernel) (by decide +kernel)
theorem q288 : Cond.code yX10_isSetOfSecrets cX10_isSetOfSecrets 1 (some .boolean) ∈ BIG := bigm 288 (by decide +kernel) (by decide +kernel)
theorem q289 : Cond.constant RX10 71 (-1000000001) ∈ BIG := bigm 289 (by decide +kernel) (by decide +kernel)
theorem q290 : Cond.methodLink RX10 72 yX10_finding ∈ BIG := bigm 290 (by decide +kernel) (by decide +kernel)
theorem q292 : Cond.instanceMethod yX10_finding ∈ BIG := bigm 292 (by decide +kernel) (by decide +kernel)
theorem q293 : Cond.code yX10_finding cX10_finding 3 (some .int) ∈ BIG := bigm 293 (by decide +kernel) (by decide +kernel)
theorem q294 : Cond.methodLink RL 18 yX10_who ∈ BIG := bigm 294 (by decide +kernel) (by decide +kernel)
theorem q295 : Cond.instanceMethod yX10_who ∈ BIG := bigm 295 (by decide +kernel) (by decide +kernel)
theorem q296 : Cond.selects RX10 yX10_who yX10_who ∈ BIG := bigm 296 (by decide +kernel) (by decide +kernel)
theorem q297 : Cond.code yX10_who cX10_who 6 (some .int) ∈ BIG := bigm 297 (by decide +kernel) (by decide +kernel)
theorem q298 : Cond.methodLink RX10 80 yX10_isSecret ∈ BIG := bigm 298 (by decide +kernel) (by decide +kernel)
theorem q299 : Cond.static yX10_isSecret ∈ BIG := bigm 299 (by decide +kernel) (by decide +kernel)
theorem q300 : Cond.code yX10_isSecret cX10_isSecret 1 (some .boolean) ∈ BIG := bigm 300 (by decide +kernel) (by decide +kernel)
theorem q301 : Cond.methodLink RX10 86 yX3_visitor ∈ BIG := bigm 301 (by decide +kernel) (by decide +kernel)
theorem q302 : Cond.instanceMethod yX3_visitor ∈ BIG := bigm 302 (by decide +kernel) (by decide +kernel)
theorem q303 : Cond.selects RX3 yX3_visitor yX3_visitor ∈ BIG := bigm 303 (by decide +kernel) (by decide +kernel)
theorem q304 : Cond.code yX3_visitor cX3_visitor 2 (some (.object "WhisperSeats$Visitor")) ∈ BIG := bigm 304 (by decide +kernel) (by decide +kernel)
theorem q305 : Cond.methodLink RL 23 yX10_person ∈ BIG := bigm 305 (by decide +kernel) (by decide +kernel)
theorem q306 : Cond.instanceMethod yX10_person ∈ BIG := bigm 306 (by decide +kernel) (by decide +kernel)
theorem q307 : Cond.selects RX10 yX10_person yX10_person ∈ BIG := bigm 307 (by decide +kernel) (by decide +kernel)
theorem q308 : Cond.code yX10_person cX10_person 2 (some .int) ∈ BIG := bigm 308 (by decide +kernel) (by decide +kernel)
theorem q309 : Cond.methodLink RX10 98 yX10_isKind ∈ BIG := bigm 309 (by decide +kernel) (by decide +kernel)
theorem q310 : Cond.static yX10_isKind ∈ BIG := bigm 310 (by decide +kernel) (by decide +kernel)
theorem q311 : Cond.code yX10_isKind cX10_isKind 1 (some .boolean) ∈ BIG := bigm 311 (by decide +kernel) (by decide +kernel)
theorem q312 : Cond.methodLink RX10 101 yX3_isFull ∈ BIG := bigm 312 (by decide +kernel) (by decide +kernel)
theorem q313 : Cond.instanceMethod yX3_isFull ∈ BIG := bigm 313 (by decide +kernel) (by decide +kernel)
theorem q314 : Cond.selects RX3 yX3_isFull yX3_isFull ∈ BIG := bigm 314 (by decide +kernel) (by decide +kernel)
theorem q315 : Cond.code yX3_isFull cX3_isFull 1 (some .boolean) ∈ BIG := bigm 315 (by decide +kernel) (by decide +kernel)
theorem q316 : Cond.constant RX10 105 (-1000000002) ∈ BIG := bigm 316 (by decide +kernel) (by decide +kernel)
theorem q317 : Cond.methodLink RX10 106 yX3_welcome ∈ BIG := bigm 317 (by decide +kernel) (by decide +kernel)
theorem q318 : Cond.instanceMethod yX3_welcome ∈ BIG := bigm 318 (by decide +kernel) (by decide +kernel)
theorem q319 : Cond.selects RX3 yX3_welcome yX3_welcome ∈ BIG := bigm 319 (by decide +kernel) (by decide +kernel)
theorem q320 : Cond.code yX3_welcome cX3_welcome 2 (some .int) ∈ BIG := bigm 320 (by decide +kernel) (by decide +kernel)
theorem q321 : Cond.methodLink RX3 39 yX8_beNew ∈ BIG := bigm 321 (by decide +kernel) (by decide +kernel)
theorem q322 : Cond.instanceMethod yX8_beNew ∈ BIG := bigm 322 (by decide +kernel) (by decide +kernel)
theorem q323 : Cond.selects RX8 yX8_beNew yX8_beNew ∈ BIG := bigm 323 (by decide +kernel) (by decide +kernel)
theorem q324 : Cond.code yX8_beNew cX8_beNew 2 none ∈ BIG := bigm 324 (by decide +kernel) (by decide +kernel)
theorem q325 : Cond.methodLink RX8 24 yX8_settle ∈ BIG := bigm 325 (by decide +kernel) (by decide +kernel)
theorem q326 : Cond.instanceMethod yX8_settle ∈ BIG := bigm 326 (by decide +kernel) (by decide +kernel)
theorem q327 : Cond.selects RX8 yX8_settle yX8_settle ∈ BIG := bigm 327 (by decide +kernel) (by decide +kernel)
theorem q328 : Cond.code yX8_settle cX8_settle 2 none ∈ BIG := bigm 328 (by decide +kernel) (by decide +kernel)
theorem q329 : Cond.methodLink RL 27 yX10_of ∈ BIG := bigm 329 (by decide +kernel) (by decide +kernel)
theorem q330 : Cond.instanceMethod yX10_of ∈ BIG := bigm 330 (by decide +kernel) (by decide +kernel)
theorem q331 : Cond.selects RX10 yX10_of yX10_of ∈ BIG := bigm 331 (by decide +kernel) (by decide +kernel)
theorem q332 : Cond.code yX10_of cX10_of 4 (some .int) ∈ BIG := bigm 332 (by decide +kernel) (by decide +kernel)
theorem q333 : Cond.methodLink RX10 109 yX3_has ∈ BIG := bigm 333 (by decide +kernel) (by decide +kernel)
theorem q334 : Cond.instanceMethod yX3_has ∈ BIG := bigm 334 (by decide +kernel) (by decide +kernel)
theorem q335 : Cond.selects RX3 yX3_has yX3_has ∈ BIG := bigm 335 (by decide +kernel) (by decide +kernel)
theorem q336 : Cond.code yX3_has cX3_has 2 (some .boolean) ∈ BIG := bigm 336 (by decide +kernel) (by decide +kernel)
theorem q337 : Cond.methodLink RX10 124 yX3_saidBy ∈ BIG := bigm 337 (by decide +kernel) (by decide +kernel)
theorem q338 : Cond.instanceMethod yX3_saidBy ∈ BIG := bigm 338 (by decide +kernel) (by decide +kernel)
theorem q339 : Cond.selects RX3 yX3_saidBy yX3_saidBy ∈ BIG := bigm 339 (by decide +kernel) (by decide +kernel)
theorem q340 : Cond.code yX3_saidBy cX3_saidBy 3 (some .int) ∈ BIG := bigm 340 (by decide +kernel) (by decide +kernel)
theorem q341 : Cond.methodLink RX3 46 yX3_hourOfDay ∈ BIG := bigm 341 (by decide +kernel) (by decide +kernel)
theorem q342 : Cond.instanceMethod yX3_hourOfDay ∈ BIG := bigm 342 (by decide +kernel) (by decide +kernel)
theorem q343 : Cond.selects RX3 yX3_hourOfDay yX3_hourOfDay ∈ BIG := bigm 343 (by decide +kernel) (by decide +kernel)
theorem q344 : Cond.code yX3_hourOfDay cX3_hourOfDay 1 (some .int) ∈ BIG := bigm 344 (by decide +kernel) (by decide +kernel)
theorem q345 : Cond.methodLink RX3 53 yX4_says ∈ BIG := bigm 345 (by decide +kernel) (by decide +kernel)
theorem q346 : Cond.instanceMethod yX4_says ∈ BIG := bigm 346 (by decide +kernel) (by decide +kernel)
theorem q347 : Cond.selects RX4 yX4_says yX4_says ∈ BIG := bigm 347 (by decide +kernel) (by decide +kernel)
theorem q348 : Cond.sameMethod "WhisperSeats$Person" "WhisperSeats$Person" "says" "(LWhisperSeats$Visitor;II)I" ∈ BIG := bigm 348 (by decide +kernel) (by decide +kernel)
theorem q349 : Cond.selects RX0 yX4_says yX0_says ∈ BIG := bigm 349 (by decide +kernel) (by decide +kernel)
theorem q350 : Cond.instanceMethod yX0_says ∈ BIG := bigm 350 (by decide +kernel) (by decide +kernel)
theorem q351 : Cond.code yX0_says cX0_says 4 (some .int) ∈ BIG := bigm 351 (by decide +kernel) (by decide +kernel)
theorem q352 : Cond.methodLinkNest RX0 13 yX10_greatest RX10 ∈ NW := nwm 352 (by decide +kernel) rfl
theorem q353 : Cond.static yX10_greatest ∈ BIG := bigm 353 (by decide +kernel) (by decide +kernel)
theorem q354 : Cond.code yX10_greatest cX10_greatest 2 (some .int) ∈ BIG := bigm 354 (by decide +kernel) (by decide +kernel)
theorem q355 : Cond.methodLink RX10 196 yX10_holds ∈ BIG := bigm 355 (by decide +kernel) (by decide +kernel)
theorem q356 : Cond.static yX10_holds ∈ BIG := bigm 356 (by decide +kernel) (by decide +kernel)
theorem q357 : Cond.code yX10_holds cX10_holds 2 (some .boolean) ∈ BIG := bigm 357 (by decide +kernel) (by decide +kernel)
theorem q358 : Cond.selects RX1 yX4_says yX1_says ∈ BIG := bigm 358 (by decide +kernel) (by decide +kernel)
theorem q359 : Cond.instanceMethod yX1_says ∈ BIG := bigm 359 (by decide +kernel) (by decide +kernel)
theorem q360 : Cond.code yX1_says cX1_says 4 (some .int) ∈ BIG := bigm 360 (by decide +kernel) (by decide +kernel)
theorem q361 : Cond.methodLinkNest RX1 7 yX10_least RX10 ∈ NW := nwm 361 (by decide +kernel) rfl
theorem q362 : Cond.static yX10_least ∈ BIG := bigm 362 (by decide +kernel) (by decide +kernel)
theorem q363 : Cond.code yX10_least cX10_least 2 (some .int) ∈ BIG := bigm 363 (by decide +kernel) (by decide +kernel)
theorem q364 : Cond.methodLink RX1 13 ⟨"WhisperSeats$General", "saysAsPerson", "(LWhisperSeats$Visitor;)I"⟩ ∈ BIG := bigm 364 (by decide +kernel) (by decide +kernel)
theorem q365 : Cond.sameMethod "WhisperSeats$General" "WhisperSeats$Person" "saysAsPerson" "(LWhisperSeats$Visitor;)I" ∈ BIG := bigm 365 (by decide +kernel) (by decide +kernel)
theorem q367 : Cond.selects RX1 ⟨"WhisperSeats$General", "saysAsPerson", "(LWhisperSeats$Visitor;)I"⟩ yX4_saysAsPerson ∈ BIG := bigm 367 (by decide +kernel) (by decide +kernel)
theorem q368 : Cond.instanceMethod yX4_saysAsPerson ∈ BIG := bigm 368 (by decide +kernel) (by decide +kernel)
theorem q369 : Cond.code yX4_saysAsPerson cX4_saysAsPerson 2 (some .int) ∈ BIG := bigm 369 (by decide +kernel) (by decide +kernel)
theorem q370 : Cond.methodLinkNest RX4 22 yX10_least RX10 ∈ NW := nwm 370 (by decide +kernel) rfl
theorem q371 : Cond.selects RX2 yX4_says yX2_says ∈ BIG := bigm 371 (by decide +kernel) (by decide +kernel)
theorem q372 : Cond.instanceMethod yX2_says ∈ BIG := bigm 372 (by decide +kernel) (by decide +kernel)
theorem q373 : Cond.code yX2_says cX2_says 4 (some .int) ∈ BIG := bigm 373 (by decide +kernel) (by decide +kernel)
theorem q374 : Cond.methodLink RX2 9 yX0_says ∈ BIG := bigm 374 (by decide +kernel) (by decide +kernel)
theorem q375 : Cond.selects RX6 yX4_says yX6_says ∈ BIG := bigm 375 (by decide +kernel) (by decide +kernel)
theorem q376 : Cond.instanceMethod yX6_says ∈ BIG := bigm 376 (by decide +kernel) (by decide +kernel)
theorem q377 : Cond.code yX6_says cX6_says 4 (some .int) ∈ BIG := bigm 377 (by decide +kernel) (by decide +kernel)
theorem q378 : Cond.methodLink RX6 7 ⟨"WhisperSeats$Spy", "saysAsPerson", "(LWhisperSeats$Visitor;)I"⟩ ∈ BIG := bigm 378 (by decide +kernel) (by decide +kernel)
theorem q379 : Cond.sameMethod "WhisperSeats$Spy" "WhisperSeats$Person" "saysAsPerson" "(LWhisperSeats$Visitor;)I" ∈ BIG := bigm 379 (by decide +kernel) (by decide +kernel)
theorem q380 : Cond.selects RX6 ⟨"WhisperSeats$Spy", "saysAsPerson", "(LWhisperSeats$Visitor;)I"⟩ yX4_saysAsPerson ∈ BIG := bigm 380 (by decide +kernel) (by decide +kernel)
theorem q381 : Cond.methodLink RX6 13 yX9_says ∈ BIG := bigm 381 (by decide +kernel) (by decide +kernel)
theorem q382 : Cond.instanceMethod yX9_says ∈ BIG := bigm 382 (by decide +kernel) (by decide +kernel)
theorem q383 : Cond.code yX9_says cX9_says 4 (some .int) ∈ BIG := bigm 383 (by decide +kernel) (by decide +kernel)
theorem q384 : Cond.selects RX9 yX4_says yX9_says ∈ BIG := bigm 384 (by decide +kernel) (by decide +kernel)
theorem q385 : Cond.code yX4_says cX4_says 4 (some .int) ∈ BIG := bigm 385 (by decide +kernel) (by decide +kernel)
theorem q386 : Cond.methodLink RX4 7 yX4_saysAsPerson ∈ BIG := bigm 386 (by decide +kernel) (by decide +kernel)
theorem q387 : Cond.methodLink RX10 127 yX3_stayOf ∈ BIG := bigm 387 (by decide +kernel) (by decide +kernel)
theorem q388 : Cond.instanceMethod yX3_stayOf ∈ BIG := bigm 388 (by decide +kernel) (by decide +kernel)
theorem q389 : Cond.selects RX3 yX3_stayOf yX3_stayOf ∈ BIG := bigm 389 (by decide +kernel) (by decide +kernel)
theorem q390 : Cond.code yX3_stayOf cX3_stayOf 3 (some .int) ∈ BIG := bigm 390 (by decide +kernel) (by decide +kernel)
theorem q391 : Cond.methodLink RX3 76 yX4_stays ∈ BIG := bigm 391 (by decide +kernel) (by decide +kernel)
theorem q392 : Cond.instanceMethod yX4_stays ∈ BIG := bigm 392 (by decide +kernel) (by decide +kernel)
theorem q393 : Cond.selects RX4 yX4_stays yX4_stays ∈ BIG := bigm 393 (by decide +kernel) (by decide +kernel)
theorem q394 : Cond.sameMethod "WhisperSeats$Person" "WhisperSeats$Person" "stays" "(LWhisperSeats$Visitor;)I" ∈ BIG := bigm 394 (by decide +kernel) (by decide +kernel)
theorem q395 : Cond.selects RX0 yX4_stays yX0_stays ∈ BIG := bigm 395 (by decide +kernel) (by decide +kernel)
theorem q396 : Cond.instanceMethod yX0_stays ∈ BIG := bigm 396 (by decide +kernel) (by decide +kernel)
theorem q397 : Cond.code yX0_stays cX0_stays 2 (some .int) ∈ BIG := bigm 397 (by decide +kernel) (by decide +kernel)
theorem q398 : Cond.methodLink RX0 19 yX4_stays ∈ BIG := bigm 398 (by decide +kernel) (by decide +kernel)
theorem q399 : Cond.selects RX1 yX4_stays yX1_stays ∈ BIG := bigm 399 (by decide +kernel) (by decide +kernel)
theorem q400 : Cond.instanceMethod yX1_stays ∈ BIG := bigm 400 (by decide +kernel) (by decide +kernel)
theorem q401 : Cond.code yX1_stays cX1_stays 2 (some .int) ∈ BIG := bigm 401 (by decide +kernel) (by decide +kernel)
theorem q402 : Cond.selects RX2 yX4_stays yX2_stays ∈ BIG := bigm 402 (by decide +kernel) (by decide +kernel)
theorem q403 : Cond.instanceMethod yX2_stays ∈ BIG := bigm 403 (by decide +kernel) (by decide +kernel)
theorem q404 : Cond.code yX2_stays cX2_stays 2 (some .int) ∈ BIG := bigm 404 (by decide +kernel) (by decide +kernel)
theorem q405 : Cond.methodLink RX2 13 yX0_stays ∈ BIG := bigm 405 (by decide +kernel) (by decide +kernel)
theorem q406 : Cond.methodLink RX2 23 yJ6_bitCount_0f7a4 ∈ BIG := bigm 406 (by decide +kernel) (by decide +kernel)
theorem q407 : Cond.static yJ6_bitCount_0f7a4 ∈ BIG := bigm 407 (by decide +kernel) (by decide +kernel)
theorem q408 : Cond.code yJ6_bitCount_0f7a4 cJ6_bitCount_0f7a4 1 (some .int) ∈ BIG := bigm 408 (by decide +kernel) (by decide +kernel)
theorem q409 : Cond.constant RJ6 265 (1431655765) ∈ BIG := bigm 409 (by decide +kernel) (by decide +kernel)
theorem q410 : Cond.constant RJ6 266 (858993459) ∈ BIG := bigm 410 (by decide +kernel) (by decide +kernel)
theorem q411 : Cond.constant RJ6 267 (252645135) ∈ BIG := bigm 411 (by decide +kernel) (by decide +kernel)
theorem q412 : Cond.selects RX6 yX4_stays yX9_stays ∈ BIG := bigm 412 (by decide +kernel) (by decide +kernel)
theorem q413 : Cond.instanceMethod yX9_stays ∈ BIG := bigm 413 (by decide +kernel) (by decide +kernel)
theorem q414 : Cond.code yX9_stays cX9_stays 2 (some .int) ∈ BIG := bigm 414 (by decide +kernel) (by decide +kernel)
theorem q415 : Cond.methodLink RX9 13 yX4_stays ∈ BIG := bigm 415 (by decide +kernel) (by decide +kernel)
theorem q416 : Cond.selects RX9 yX4_stays yX9_stays ∈ BIG := bigm 416 (by decide +kernel) (by decide +kernel)
theorem q417 : Cond.code yX4_stays cX4_stays 2 (some .int) ∈ BIG := bigm 417 (by decide +kernel) (by decide +kernel)
theorem q418 : Cond.methodLink RL 31 yX10_set ∈ BIG := bigm 418 (by decide +kernel) (by decide +kernel)
theorem q419 : Cond.instanceMethod yX10_set ∈ BIG := bigm 419 (by decide +kernel) (by decide +kernel)
theorem q420 : Cond.selects RX10 yX10_set yX10_set ∈ BIG := bigm 420 (by decide +kernel) (by decide +kernel)
theorem q421 : Cond.code yX10_set cX10_set 5 (some .int) ∈ BIG := bigm 421 (by decide +kernel) (by decide +kernel)
theorem q422 : Cond.methodLink RX10 130 yX8_learnJust ∈ BIG := bigm 422 (by decide +kernel) (by decide +kernel)
theorem q423 : Cond.instanceMethod yX8_learnJust ∈ BIG := bigm 423 (by decide +kernel) (by decide +kernel)
theorem q424 : Cond.selects RX8 yX8_learnJust yX8_learnJust ∈ BIG := bigm 424 (by decide +kernel) (by decide +kernel)
theorem q425 : Cond.code yX8_learnJust cX8_learnJust 3 (some .int) ∈ BIG := bigm 425 (by decide +kernel) (by decide +kernel)
theorem q426 : Cond.methodLink RX10 133 yX8_believeJust ∈ BIG := bigm 426 (by decide +kernel) (by decide +kernel)
theorem q427 : Cond.instanceMethod yX8_believeJust ∈ BIG := bigm 427 (by decide +kernel) (by decide +kernel)
theorem q428 : Cond.selects RX8 yX8_believeJust yX8_believeJust ∈ BIG := bigm 428 (by decide +kernel) (by decide +kernel)
theorem q429 : Cond.code yX8_believeJust cX8_believeJust 3 (some .int) ∈ BIG := bigm 429 (by decide +kernel) (by decide +kernel)
theorem q430 : Cond.methodLink RX10 136 yX8_haveHeard ∈ BIG := bigm 430 (by decide +kernel) (by decide +kernel)
theorem q431 : Cond.instanceMethod yX8_haveHeard ∈ BIG := bigm 431 (by decide +kernel) (by decide +kernel)
theorem q432 : Cond.selects RX8 yX8_haveHeard yX8_haveHeard ∈ BIG := bigm 432 (by decide +kernel) (by decide +kernel)
theorem q433 : Cond.code yX8_haveHeard cX8_haveHeard 3 (some .int) ∈ BIG := bigm 433 (by decide +kernel) (by decide +kernel)
theorem q434 : Cond.methodLink RL 36 yX10_turn ∈ BIG := bigm 434 (by decide +kernel) (by decide +kernel)
theorem q435 : Cond.instanceMethod yX10_turn ∈ BIG := bigm 435 (by decide +kernel) (by decide +kernel)
theorem q436 : Cond.selects RX10 yX10_turn yX10_turn ∈ BIG := bigm 436 (by decide +kernel) (by decide +kernel)
theorem q437 : Cond.code yX10_turn cX10_turn 5 (some .int) ∈ BIG := bigm 437 (by decide +kernel) (by decide +kernel)
theorem q438 : Cond.methodLink RL 40 yX10_as ∈ BIG := bigm 438 (by decide +kernel) (by decide +kernel)
theorem q439 : Cond.instanceMethod yX10_as ∈ BIG := bigm 439 (by decide +kernel) (by decide +kernel)
theorem q440 : Cond.selects RX10 yX10_as yX10_as ∈ BIG := bigm 440 (by decide +kernel) (by decide +kernel)
theorem q441 : Cond.code yX10_as cX10_as 4 (some .int) ∈ BIG := bigm 441 (by decide +kernel) (by decide +kernel)
theorem q442 : Cond.methodLink RX10 139 yX10_isUnder ∈ BIG := bigm 442 (by decide +kernel) (by decide +kernel)
theorem q443 : Cond.static yX10_isUnder ∈ BIG := bigm 443 (by decide +kernel) (by decide +kernel)
theorem q444 : Cond.code yX10_isUnder cX10_isUnder 4 (some .boolean) ∈ BIG := bigm 444 (by decide +kernel) (by decide +kernel)
theorem q445 : Cond.fieldLink RX10 276 "WhisperSeats" "ABOVE" "[I" ∈ BIG := bigm 445 (by decide +kernel) (by decide +kernel)
theorem q447 : Cond.constant RX10 143 (-1000000003) ∈ BIG := bigm 447 (by decide +kernel) (by decide +kernel)
theorem q448 : Cond.methodLink RL 44 yX10_sit ∈ BIG := bigm 448 (by decide +kernel) (by decide +kernel)
theorem q449 : Cond.instanceMethod yX10_sit ∈ BIG := bigm 449 (by decide +kernel) (by decide +kernel)
theorem q450 : Cond.selects RX10 yX10_sit yX10_sit ∈ BIG := bigm 450 (by decide +kernel) (by decide +kernel)
theorem q451 : Cond.code yX10_sit cX10_sit 6 (some .int) ∈ BIG := bigm 451 (by decide +kernel) (by decide +kernel)
theorem q452 : Cond.methodLink RX10 144 yX3_holder ∈ BIG := bigm 452 (by decide +kernel) (by decide +kernel)
theorem q453 : Cond.instanceMethod yX3_holder ∈ BIG := bigm 453 (by decide +kernel) (by decide +kernel)
theorem q454 : Cond.selects RX3 yX3_holder yX3_holder ∈ BIG := bigm 454 (by decide +kernel) (by decide +kernel)
theorem q455 : Cond.code yX3_holder cX3_holder 3 (some .int) ∈ BIG := bigm 455 (by decide +kernel) (by decide +kernel)
theorem q456 : Cond.constant RX10 147 (-1000000005) ∈ BIG := bigm 456 (by decide +kernel) (by decide +kernel)
theorem q457 : Cond.methodLink RX10 148 yX8_settle ∈ BIG := bigm 457 (by decide +kernel) (by decide +kernel)
theorem q458 : Cond.methodLink RL 48 yX10_trusts ∈ BIG := bigm 458 (by decide +kernel) (by decide +kernel)
theorem q459 : Cond.instanceMethod yX10_trusts ∈ BIG := bigm 459 (by decide +kernel) (by decide +kernel)
theorem q460 : Cond.selects RX10 yX10_trusts yX10_trusts ∈ BIG := bigm 460 (by decide +kernel) (by decide +kernel)
theorem q461 : Cond.code yX10_trusts cX10_trusts 3 (some .int) ∈ BIG := bigm 461 (by decide +kernel) (by decide +kernel)
theorem q462 : Cond.methodLink RX10 152 yX3_isTrusted ∈ BIG := bigm 462 (by decide +kernel) (by decide +kernel)
theorem q463 : Cond.instanceMethod yX3_isTrusted ∈ BIG := bigm 463 (by decide +kernel) (by decide +kernel)
theorem q464 : Cond.selects RX3 yX3_isTrusted yX3_isTrusted ∈ BIG := bigm 464 (by decide +kernel) (by decide +kernel)
theorem q465 : Cond.code yX3_isTrusted cX3_isTrusted 4 (some .boolean) ∈ BIG := bigm 465 (by decide +kernel) (by decide +kernel)
theorem q466 : Cond.methodLinkNest RX3 59 yX10_holds RX10 ∈ NW := nwm 466 (by decide +kernel) rfl
theorem q467 : Cond.methodLink RX3 66 yJ6_bitCount_0f7a4 ∈ BIG := bigm 467 (by decide +kernel) (by decide +kernel)
theorem q468 : Cond.methodLink RX3 72 yX4_believes ∈ BIG := bigm 468 (by decide +kernel) (by decide +kernel)
theorem q469 : Cond.instanceMethod yX4_believes ∈ BIG := bigm 469 (by decide +kernel) (by decide +kernel)
theorem q470 : Cond.selects RX4 yX4_believes yX4_believes ∈ BIG := bigm 470 (by decide +kernel) (by decide +kernel)
theorem q471 : Cond.sameMethod "WhisperSeats$Person" "WhisperSeats$Person" "believes" "(ZI)Z" ∈ BIG := bigm 471 (by decide +kernel) (by decide +kernel)
theorem q472 : Cond.selects RX0 yX4_believes yX0_believes ∈ BIG := bigm 472 (by decide +kernel) (by decide +kernel)
theorem q473 : Cond.instanceMethod yX0_believes ∈ BIG := bigm 473 (by decide +kernel) (by decide +kernel)
theorem q474 : Cond.code yX0_believes cX0_believes 3 (some .boolean) ∈ BIG := bigm 474 (by decide +kernel) (by decide +kernel)
theorem q475 : Cond.selects RX1 yX4_believes yX1_believes ∈ BIG := bigm 475 (by decide +kernel) (by decide +kernel)
theorem q476 : Cond.instanceMethod yX1_believes ∈ BIG := bigm 476 (by decide +kernel) (by decide +kernel)
theorem q477 : Cond.code yX1_believes cX1_believes 3 (some .boolean) ∈ BIG := bigm 477 (by decide +kernel) (by decide +kernel)
theorem q478 : Cond.selects RX2 yX4_believes yX0_believes ∈ BIG := bigm 478 (by decide +kernel) (by decide +kernel)
theorem q479 : Cond.selects RX6 yX4_believes yX6_believes ∈ BIG := bigm 479 (by decide +kernel) (by decide +kernel)
theorem q480 : Cond.instanceMethod yX6_believes ∈ BIG := bigm 480 (by decide +kernel) (by decide +kernel)
theorem q481 : Cond.code yX6_believes cX6_believes 3 (some .boolean) ∈ BIG := bigm 481 (by decide +kernel) (by decide +kernel)
theorem q482 : Cond.methodLink RX6 17 yX9_believes ∈ BIG := bigm 482 (by decide +kernel) (by decide +kernel)
theorem q483 : Cond.instanceMethod yX9_believes ∈ BIG := bigm 483 (by decide +kernel) (by decide +kernel)
theorem q484 : Cond.code yX9_believes cX9_believes 3 (some .boolean) ∈ BIG := bigm 484 (by decide +kernel) (by decide +kernel)
theorem q485 : Cond.methodLink RX9 9 yX4_believes ∈ BIG := bigm 485 (by decide +kernel) (by decide +kernel)
theorem q486 : Cond.selects RX9 yX4_believes yX9_believes ∈ BIG := bigm 486 (by decide +kernel) (by decide +kernel)
theorem q487 : Cond.code yX4_believes cX4_believes 3 (some .boolean) ∈ BIG := bigm 487 (by decide +kernel) (by decide +kernel)
theorem q488 : Cond.methodLink RL 52 yX10_hours ∈ BIG := bigm 488 (by decide +kernel) (by decide +kernel)
theorem q489 : Cond.instanceMethod yX10_hours ∈ BIG := bigm 489 (by decide +kernel) (by decide +kernel)
theorem q490 : Cond.selects RX10 yX10_hours yX10_hours ∈ BIG := bigm 490 (by decide +kernel) (by decide +kernel)
theorem q491 : Cond.code yX10_hours cX10_hours 2 (some .int) ∈ BIG := bigm 491 (by decide +kernel) (by decide +kernel)
theorem q492 : Cond.constant RX10 158 (99999) ∈ BIG := bigm 492 (by decide +kernel) (by decide +kernel)
theorem q493 : Cond.methodLink RX10 159 yX3_letHoursGo ∈ BIG := bigm 493 (by decide +kernel) (by decide +kernel)
theorem q494 : Cond.instanceMethod yX3_letHoursGo ∈ BIG := bigm 494 (by decide +kernel) (by decide +kernel)
theorem q495 : Cond.selects RX3 yX3_letHoursGo yX3_letHoursGo ∈ BIG := bigm 495 (by decide +kernel) (by decide +kernel)
theorem q496 : Cond.code yX3_letHoursGo cX3_letHoursGo 7 none ∈ BIG := bigm 496 (by decide +kernel) (by decide +kernel)
theorem q497 : Cond.methodLink RX3 80 yX3_holder ∈ BIG := bigm 497 (by decide +kernel) (by decide +kernel)
theorem q498 : Cond.methodLink RX3 83 yX3_saidBy ∈ BIG := bigm 498 (by decide +kernel) (by decide +kernel)
theorem q499 : Cond.methodLink RX3 86 yX3_bring ∈ BIG := bigm 499 (by decide +kernel) (by decide +kernel)
theorem q501 : Cond.instanceMethod yX3_bring ∈ BIG := bigm 501 (by decide +kernel) (by decide +kernel)
theorem q502 : Cond.code yX3_bring cX3_bring 5 none ∈ BIG := bigm 502 (by decide +kernel) (by decide +kernel)
theorem q503 : Cond.methodLink RX3 97 yX3_isMonday ∈ BIG := bigm 503 (by decide +kernel) (by decide +kernel)
theorem q504 : Cond.instanceMethod yX3_isMonday ∈ BIG := bigm 504 (by decide +kernel) (by decide +kernel)
theorem q505 : Cond.selects RX3 yX3_isMonday yX3_isMonday ∈ BIG := bigm 505 (by decide +kernel) (by decide +kernel)
theorem q506 : Cond.code yX3_isMonday cX3_isMonday 1 (some .boolean) ∈ BIG := bigm 506 (by decide +kernel) (by decide +kernel)
theorem q507 : Cond.methodLink RX3 101 yX8_hearItself ∈ BIG := bigm 507 (by decide +kernel) (by decide +kernel)
theorem q508 : Cond.instanceMethod yX8_hearItself ∈ BIG := bigm 508 (by decide +kernel) (by decide +kernel)
theorem q509 : Cond.selects RX8 yX8_hearItself yX8_hearItself ∈ BIG := bigm 509 (by decide +kernel) (by decide +kernel)
theorem q510 : Cond.code yX8_hearItself cX8_hearItself 2 none ∈ BIG := bigm 510 (by decide +kernel) (by decide +kernel)
theorem q511 : Cond.methodLinkNest RX8 40 yX10_holds RX10 ∈ NW := nwm 511 (by decide +kernel) rfl
theorem q512 : Cond.methodLink RX3 104 yX3_isTrusted ∈ BIG := bigm 512 (by decide +kernel) (by decide +kernel)
theorem q513 : Cond.methodLink RX3 107 yX8_hear ∈ BIG := bigm 513 (by decide +kernel) (by decide +kernel)
theorem q514 : Cond.instanceMethod yX8_hear ∈ BIG := bigm 514 (by decide +kernel) (by decide +kernel)
theorem q515 : Cond.selects RX8 yX8_hear yX8_hear ∈ BIG := bigm 515 (by decide +kernel) (by decide +kernel)
theorem q516 : Cond.code yX8_hear cX8_hear 4 none ∈ BIG := bigm 516 (by decide +kernel) (by decide +kernel)
theorem q517 : Cond.methodLink RX8 34 yJ9_min_7cf53 ∈ BIG := bigm 517 (by decide +kernel) (by decide +kernel)
theorem q518 : Cond.static yJ9_min_7cf53 ∈ BIG := bigm 518 (by decide +kernel) (by decide +kernel)
theorem q519 : Cond.code yJ9_min_7cf53 cJ9_min_7cf53 2 (some .int) ∈ BIG := bigm 519 (by decide +kernel) (by decide +kernel)
theorem q520 : Cond.methodLink RX3 90 yX3_sitOn ∈ BIG := bigm 520 (by decide +kernel) (by decide +kernel)
theorem q522 : Cond.instanceMethod yX3_sitOn ∈ BIG := bigm 522 (by decide +kernel) (by decide +kernel)
theorem q523 : Cond.code yX3_sitOn cX3_sitOn 3 (some .int) ∈ BIG := bigm 523 (by decide +kernel) (by decide +kernel)
theorem q524 : Cond.methodLink RX3 114 yX3_stayOf ∈ BIG := bigm 524 (by decide +kernel) (by decide +kernel)
theorem q525 : Cond.methodLink RX3 117 yX8_settle ∈ BIG := bigm 525 (by decide +kernel) (by decide +kernel)
theorem q526 : Cond.methodLink RX3 93 yX3_fill ∈ BIG := bigm 526 (by decide +kernel) (by decide +kernel)
theorem q528 : Cond.instanceMethod yX3_fill ∈ BIG := bigm 528 (by decide +kernel) (by decide +kernel)
theorem q529 : Cond.code yX3_fill cX3_fill 5 none ∈ BIG := bigm 529 (by decide +kernel) (by decide +kernel)
theorem q530 : Cond.methodLink RX10 162 yX3_heardByAll ∈ BIG := bigm 530 (by decide +kernel) (by decide +kernel)
theorem q531 : Cond.instanceMethod yX3_heardByAll ∈ BIG := bigm 531 (by decide +kernel) (by decide +kernel)
theorem q532 : Cond.selects RX3 yX3_heardByAll yX3_heardByAll ∈ BIG := bigm 532 (by decide +kernel) (by decide +kernel)
theorem q533 : Cond.code yX3_heardByAll cX3_heardByAll 3 (some .int) ∈ BIG := bigm 533 (by decide +kernel) (by decide +kernel)
theorem q534 : Cond.methodLink RL 56 yX10_now ∈ BIG := bigm 534 (by decide +kernel) (by decide +kernel)
theorem q535 : Cond.instanceMethod yX10_now ∈ BIG := bigm 535 (by decide +kernel) (by decide +kernel)
theorem q536 : Cond.selects RX10 yX10_now yX10_now ∈ BIG := bigm 536 (by decide +kernel) (by decide +kernel)
theorem q537 : Cond.code yX10_now cX10_now 2 (some .int) ∈ BIG := bigm 537 (by decide +kernel) (by decide +kernel)
theorem q538 : Cond.methodLink RX10 166 yX3_hourOfDay ∈ BIG := bigm 538 (by decide +kernel) (by decide +kernel)
theorem q539 : Cond.methodLink RX10 169 yX3_isMonday ∈ BIG := bigm 539 (by decide +kernel) (by decide +kernel)
theorem q540 : Cond.methodLink RX10 172 yX3_knownToAll ∈ BIG := bigm 540 (by decide +kernel) (by decide +kernel)
theorem q541 : Cond.instanceMethod yX3_knownToAll ∈ BIG := bigm 541 (by decide +kernel) (by decide +kernel)
theorem q542 : Cond.selects RX3 yX3_knownToAll yX3_knownToAll ∈ BIG := bigm 542 (by decide +kernel) (by decide +kernel)
theorem q543 : Cond.code yX3_knownToAll cX3_knownToAll 3 (some .int) ∈ BIG := bigm 543 (by decide +kernel) (by decide +kernel)
theorem q544 : Cond.methodLink RL 60 yX10_on ∈ BIG := bigm 544 (by decide +kernel) (by decide +kernel)
theorem q545 : Cond.instanceMethod yX10_on ∈ BIG := bigm 545 (by decide +kernel) (by decide +kernel)
theorem q546 : Cond.selects RX10 yX10_on yX10_on ∈ BIG := bigm 546 (by decide +kernel) (by decide +kernel)
theorem q547 : Cond.code yX10_on cX10_on 5 (some .int) ∈ BIG := bigm 547 (by decide +kernel) (by decide +kernel)
theorem q548 : Cond.methodLink RX10 178 yX3_become ∈ BIG := bigm 548 (by decide +kernel) (by decide +kernel)
theorem q549 : Cond.instanceMethod yX3_become ∈ BIG := bigm 549 (by decide +kernel) (by decide +kernel)
theorem q550 : Cond.selects RX3 yX3_become yX3_become ∈ BIG := bigm 550 (by decide +kernel) (by decide +kernel)
theorem q551 : Cond.code yX3_become cX3_become 3 none ∈ BIG := bigm 551 (by decide +kernel) (by decide +kernel)
theorem q552 : Cond.methodLink RX3 35 yX8_become ∈ BIG := bigm 552 (by decide +kernel) (by decide +kernel)
theorem q553 : Cond.instanceMethod yX8_become ∈ BIG := bigm 553 (by decide +kernel) (by decide +kernel)
theorem q554 : Cond.selects RX8 yX8_become yX8_become ∈ BIG := bigm 554 (by decide +kernel) (by decide +kernel)
theorem q555 : Cond.code yX8_become cX8_become 2 none ∈ BIG := bigm 555 (by decide +kernel) (by decide +kernel)
theorem q556 : Cond.methodLink RL 64 yX10_knows ∈ BIG := bigm 556 (by decide +kernel) (by decide +kernel)
theorem q557 : Cond.instanceMethod yX10_knows ∈ BIG := bigm 557 (by decide +kernel) (by decide +kernel)
theorem q558 : Cond.selects RX10 yX10_knows yX10_knows ∈ BIG := bigm 558 (by decide +kernel) (by decide +kernel)
theorem q559 : Cond.code yX10_knows cX10_knows 3 (some .int) ∈ BIG := bigm 559 (by decide +kernel) (by decide +kernel)
theorem q560 : Cond.methodLink RX10 182 yX10_firstHour ∈ BIG := bigm 560 (by decide +kernel) (by decide +kernel)
theorem q562 : Cond.instanceMethod yX10_firstHour ∈ BIG := bigm 562 (by decide +kernel) (by decide +kernel)
theorem q563 : Cond.code yX10_firstHour cX10_firstHour 5 (some .int) ∈ BIG := bigm 563 (by decide +kernel) (by decide +kernel)
theorem q564 : Cond.methodLink RX10 269 yX10_isSoAhead ∈ BIG := bigm 564 (by decide +kernel) (by decide +kernel)
theorem q566 : Cond.instanceMethod yX10_isSoAhead ∈ BIG := bigm 566 (by decide +kernel) (by decide +kernel)
theorem q567 : Cond.code yX10_isSoAhead cX10_isSoAhead 4 (some .boolean) ∈ BIG := bigm 567 (by decide +kernel) (by decide +kernel)
theorem q568 : Cond.constant RX10 195 (-1000000004) ∈ BIG := bigm 568 (by decide +kernel) (by decide +kernel)
theorem q569 : Cond.methodLink RL 68 yX10_out ∈ BIG := bigm 569 (by decide +kernel) (by decide +kernel)
theorem q570 : Cond.instanceMethod yX10_out ∈ BIG := bigm 570 (by decide +kernel) (by decide +kernel)
theorem q571 : Cond.selects RX10 yX10_out yX10_out ∈ BIG := bigm 571 (by decide +kernel) (by decide +kernel)
theorem q572 : Cond.code yX10_out cX10_out 2 (some .int) ∈ BIG := bigm 572 (by decide +kernel) (by decide +kernel)
theorem q573 : Cond.methodLink RL 72 yX10_meet ∈ BIG := bigm 573 (by decide +kernel) (by decide +kernel)
theorem q574 : Cond.instanceMethod yX10_meet ∈ BIG := bigm 574 (by decide +kernel) (by decide +kernel)
theorem q575 : Cond.selects RX10 yX10_meet yX10_meet ∈ BIG := bigm 575 (by decide +kernel) (by decide +kernel)
theorem q576 : Cond.code yX10_meet cX10_meet 3 (some .int) ∈ BIG := bigm 576 (by decide +kernel) (by decide +kernel)
theorem q577 : Cond.methodLink RX10 186 yX10_areTwo ∈ BIG := bigm 577 (by decide +kernel) (by decide +kernel)
theorem q579 : Cond.instanceMethod yX10_areTwo ∈ BIG := bigm 579 (by decide +kernel) (by decide +kernel)
theorem q580 : Cond.code yX10_areTwo cX10_areTwo 3 (some .boolean) ∈ BIG := bigm 580 (by decide +kernel) (by decide +kernel)
theorem q581 : Cond.methodLink RL 76 yX10_kind ∈ BIG := bigm 581 (by decide +kernel) (by decide +kernel)
theorem q582 : Cond.instanceMethod yX10_kind ∈ BIG := bigm 582 (by decide +kernel) (by decide +kernel)
theorem q583 : Cond.selects RX10 yX10_kind yX10_kind ∈ BIG := bigm 583 (by decide +kernel) (by decide +kernel)
theorem q584 : Cond.code yX10_kind cX10_kind 4 (some .int) ∈ BIG := bigm 584 (by decide +kernel) (by decide +kernel)
theorem q585 : Cond.methodLink RX10 189 yX10_learntAs ∈ BIG := bigm 585 (by decide +kernel) (by decide +kernel)
theorem q587 : Cond.instanceMethod yX10_learntAs ∈ BIG := bigm 587 (by decide +kernel) (by decide +kernel)
theorem q588 : Cond.code yX10_learntAs cX10_learntAs 5 (some .int) ∈ BIG := bigm 588 (by decide +kernel) (by decide +kernel)
theorem q589 : Cond.methodLink RX10 209 yJ6_bitCount_0f7a4 ∈ BIG := bigm 589 (by decide +kernel) (by decide +kernel)
theorem q590 : Cond.methodLink RX10 192 yX10_leastOfBest ∈ BIG := bigm 590 (by decide +kernel) (by decide +kernel)
theorem q592 : Cond.instanceMethod yX10_leastOfBest ∈ BIG := bigm 592 (by decide +kernel) (by decide +kernel)
theorem q593 : Cond.code yX10_leastOfBest cX10_leastOfBest 4 (some .int) ∈ BIG := bigm 593 (by decide +kernel) (by decide +kernel)
theorem q594 : Cond.methodLink RL 80 yX10_forget ∈ BIG := bigm 594 (by decide +kernel) (by decide +kernel)
theorem q595 : Cond.instanceMethod yX10_forget ∈ BIG := bigm 595 (by decide +kernel) (by decide +kernel)
theorem q596 : Cond.selects RX10 yX10_forget yX10_forget ∈ BIG := bigm 596 (by decide +kernel) (by decide +kernel)
theorem q597 : Cond.code yX10_forget cX10_forget 5 (some .int) ∈ BIG := bigm 597 (by decide +kernel) (by decide +kernel)
theorem q598 : Cond.methodLink RX10 199 yX10_heardWithout ∈ BIG := bigm 598 (by decide +kernel) (by decide +kernel)
theorem q600 : Cond.instanceMethod yX10_heardWithout ∈ BIG := bigm 600 (by decide +kernel) (by decide +kernel)
theorem q601 : Cond.code yX10_heardWithout cX10_heardWithout 5 (some .int) ∈ BIG := bigm 601 (by decide +kernel) (by decide +kernel)
theorem q602 : Cond.methodLink RL 84 yX10_confide ∈ BIG := bigm 602 (by decide +kernel) (by decide +kernel)
theorem q603 : Cond.instanceMethod yX10_confide ∈ BIG := bigm 603 (by decide +kernel) (by decide +kernel)
theorem q604 : Cond.selects RX10 yX10_confide yX10_confide ∈ BIG := bigm 604 (by decide +kernel) (by decide +kernel)
theorem q605 : Cond.code yX10_confide cX10_confide 5 (some .int) ∈ BIG := bigm 605 (by decide +kernel) (by decide +kernel)
theorem q606 : Cond.methodLink RX10 202 yX10_spreadFrom ∈ BIG := bigm 606 (by decide +kernel) (by decide +kernel)
theorem q608 : Cond.instanceMethod yX10_spreadFrom ∈ BIG := bigm 608 (by decide +kernel) (by decide +kernel)
theorem q609 : Cond.code yX10_spreadFrom cX10_spreadFrom 5 (some .int) ∈ BIG := bigm 609 (by decide +kernel) (by decide +kernel)
theorem q610 : Cond.methodLink RX10 273 yX3_knownTo ∈ BIG := bigm 610 (by decide +kernel) (by decide +kernel)
theorem q611 : Cond.instanceMethod yX3_knownTo ∈ BIG := bigm 611 (by decide +kernel) (by decide +kernel)
theorem q612 : Cond.selects RX3 yX3_knownTo yX3_knownTo ∈ BIG := bigm 612 (by decide +kernel) (by decide +kernel)
theorem q613 : Cond.code yX3_knownTo cX3_knownTo 4 (some .int) ∈ BIG := bigm 613 (by decide +kernel) (by decide +kernel)
theorem q614 : Cond.methodLink RL 88 yX10_enough ∈ BIG := bigm 614 (by decide +kernel) (by decide +kernel)
theorem q615 : Cond.instanceMethod yX10_enough ∈ BIG := bigm 615 (by decide +kernel) (by decide +kernel)
theorem q616 : Cond.selects RX10 yX10_enough yX10_enough ∈ BIG := bigm 616 (by decide +kernel) (by decide +kernel)
theorem q617 : Cond.code yX10_enough cX10_enough 3 (some .int) ∈ BIG := bigm 617 (by decide +kernel) (by decide +kernel)
theorem q618 : Cond.methodLink RL 92 yX10_doubt ∈ BIG := bigm 618 (by decide +kernel) (by decide +kernel)
theorem q619 : Cond.instanceMethod yX10_doubt ∈ BIG := bigm 619 (by decide +kernel) (by decide +kernel)
theorem q620 : Cond.selects RX10 yX10_doubt yX10_doubt ∈ BIG := bigm 620 (by decide +kernel) (by decide +kernel)
theorem q621 : Cond.code yX10_doubt cX10_doubt 3 (some .int) ∈ BIG := bigm 621 (by decide +kernel) (by decide +kernel)
theorem q622 : Cond.methodLink RX10 205 yX10_believedIfTurned ∈ BIG := bigm 622 (by decide +kernel) (by decide +kernel)
theorem q624 : Cond.instanceMethod yX10_believedIfTurned ∈ BIG := bigm 624 (by decide +kernel) (by decide +kernel)
theorem q625 : Cond.code yX10_believedIfTurned cX10_believedIfTurned 3 (some .int) ∈ BIG := bigm 625 (by decide +kernel) (by decide +kernel)
theorem q626 : Cond.methodLink RX10 266 yX3_believedByAll ∈ BIG := bigm 626 (by decide +kernel) (by decide +kernel)
theorem q627 : Cond.instanceMethod yX3_believedByAll ∈ BIG := bigm 627 (by decide +kernel) (by decide +kernel)
theorem q628 : Cond.selects RX3 yX3_believedByAll yX3_believedByAll ∈ BIG := bigm 628 (by decide +kernel) (by decide +kernel)
theorem q629 : Cond.code yX3_believedByAll cX3_believedByAll 3 (some .int) ∈ BIG := bigm 629 (by decide +kernel) (by decide +kernel)
theorem q630 : Cond.methodLink RL 96 yX10_wisest ∈ BIG := bigm 630 (by decide +kernel) (by decide +kernel)
theorem q631 : Cond.instanceMethod yX10_wisest ∈ BIG := bigm 631 (by decide +kernel) (by decide +kernel)
theorem q632 : Cond.selects RX10 yX10_wisest yX10_wisest ∈ BIG := bigm 632 (by decide +kernel) (by decide +kernel)
theorem q633 : Cond.code yX10_wisest cX10_wisest 3 (some .int) ∈ BIG := bigm 633 (by decide +kernel) (by decide +kernel)
theorem q634 : Cond.methodLink RL 100 yX10_feed ∈ BIG := bigm 634 (by decide +kernel) (by decide +kernel)
theorem q635 : Cond.instanceMethod yX10_feed ∈ BIG := bigm 635 (by decide +kernel) (by decide +kernel)
theorem q636 : Cond.selects RX10 yX10_feed yX10_feed ∈ BIG := bigm 636 (by decide +kernel) (by decide +kernel)
theorem q637 : Cond.code yX10_feed cX10_feed 4 (some .int) ∈ BIG := bigm 637 (by decide +kernel) (by decide +kernel)
theorem q638 : Cond.methodLink RX10 217 yX7_append ∈ BIG := bigm 638 (by decide +kernel) (by decide +kernel)
theorem q639 : Cond.instanceMethod yX7_append ∈ BIG := bigm 639 (by decide +kernel) (by decide +kernel)
theorem q640 : Cond.selects RX7 yX7_append yX7_append ∈ BIG := bigm 640 (by decide +kernel) (by decide +kernel)
theorem q641 : Cond.code yX7_append cX7_append 2 none ∈ BIG := bigm 641 (by decide +kernel) (by decide +kernel)
theorem q642 : Cond.methodLink RL 104 yX10_wipe ∈ BIG := bigm 642 (by decide +kernel) (by decide +kernel)
theorem q643 : Cond.instanceMethod yX10_wipe ∈ BIG := bigm 643 (by decide +kernel) (by decide +kernel)
theorem q644 : Cond.selects RX10 yX10_wipe yX10_wipe ∈ BIG := bigm 644 (by decide +kernel) (by decide +kernel)
theorem q645 : Cond.code yX10_wipe cX10_wipe 2 (some .int) ∈ BIG := bigm 645 (by decide +kernel) (by decide +kernel)
theorem q646 : Cond.methodLink RL 109 yX10_park ∈ BIG := bigm 646 (by decide +kernel) (by decide +kernel)
theorem q647 : Cond.instanceMethod yX10_park ∈ BIG := bigm 647 (by decide +kernel) (by decide +kernel)
theorem q648 : Cond.selects RX10 yX10_park yX10_park ∈ BIG := bigm 648 (by decide +kernel) (by decide +kernel)
theorem q649 : Cond.code yX10_park cX10_park 2 (some .int) ∈ BIG := bigm 649 (by decide +kernel) (by decide +kernel)
theorem q650 : Cond.methodLink RX10 220 yX7_tellTo ∈ BIG := bigm 650 (by decide +kernel) (by decide +kernel)
theorem q651 : Cond.instanceMethod yX7_tellTo ∈ BIG := bigm 651 (by decide +kernel) (by decide +kernel)
theorem q652 : Cond.selects RX7 yX7_tellTo yX7_tellTo ∈ BIG := bigm 652 (by decide +kernel) (by decide +kernel)
theorem q653 : Cond.code yX7_tellTo cX7_tellTo 3 (some .int) ∈ BIG := bigm 653 (by decide +kernel) (by decide +kernel)
theorem q654 : Cond.methodLink RX7 22 yX7_advance ∈ BIG := bigm 654 (by decide +kernel) (by decide +kernel)
theorem q656 : Cond.instanceMethod yX7_advance ∈ BIG := bigm 656 (by decide +kernel) (by decide +kernel)
theorem q657 : Cond.code yX7_advance cX7_advance 1 none ∈ BIG := bigm 657 (by decide +kernel) (by decide +kernel)
theorem q658 : Cond.methodLink RX7 124 yX7_isLetter ∈ BIG := bigm 658 (by decide +kernel) (by decide +kernel)
theorem q659 : Cond.static yX7_isLetter ∈ BIG := bigm 659 (by decide +kernel) (by decide +kernel)
theorem q660 : Cond.code yX7_isLetter cX7_isLetter 1 (some .boolean) ∈ BIG := bigm 660 (by decide +kernel) (by decide +kernel)
theorem q661 : Cond.methodLink RX7 127 yX7_takeWord ∈ BIG := bigm 661 (by decide +kernel) (by decide +kernel)
theorem q663 : Cond.instanceMethod yX7_takeWord ∈ BIG := bigm 663 (by decide +kernel) (by decide +kernel)
theorem q664 : Cond.code yX7_takeWord cX7_takeWord 1 none ∈ BIG := bigm 664 (by decide +kernel) (by decide +kernel)
theorem q665 : Cond.methodLink RX7 130 yX7_isDigit ∈ BIG := bigm 665 (by decide +kernel) (by decide +kernel)
theorem q666 : Cond.static yX7_isDigit ∈ BIG := bigm 666 (by decide +kernel) (by decide +kernel)
theorem q667 : Cond.code yX7_isDigit cX7_isDigit 1 (some .boolean) ∈ BIG := bigm 667 (by decide +kernel) (by decide +kernel)
theorem q668 : Cond.methodLink RX7 133 yX7_takeNumber ∈ BIG := bigm 668 (by decide +kernel) (by decide +kernel)
theorem q670 : Cond.instanceMethod yX7_takeNumber ∈ BIG := bigm 670 (by decide +kernel) (by decide +kernel)
theorem q671 : Cond.code yX7_takeNumber cX7_takeNumber 1 none ∈ BIG := bigm 671 (by decide +kernel) (by decide +kernel)
theorem q672 : Cond.methodLink RX7 136 yJ9_min_7cf53 ∈ BIG := bigm 672 (by decide +kernel) (by decide +kernel)
theorem q673 : Cond.methodLink RX7 25 yX7_tellItem ∈ BIG := bigm 673 (by decide +kernel) (by decide +kernel)
theorem q675 : Cond.instanceMethod yX7_tellItem ∈ BIG := bigm 675 (by decide +kernel) (by decide +kernel)
theorem q676 : Cond.code yX7_tellItem cX7_tellItem 3 (some .boolean) ∈ BIG := bigm 676 (by decide +kernel) (by decide +kernel)
theorem q677 : Cond.methodLink RX7 35 yX7_nameOf ∈ BIG := bigm 677 (by decide +kernel) (by decide +kernel)
theorem q678 : Cond.static yX7_nameOf ∈ BIG := bigm 678 (by decide +kernel) (by decide +kernel)
theorem q679 : Cond.code yX7_nameOf cX7_nameOf 1 (some (.object "java/lang/String")) ∈ BIG := bigm 679 (by decide +kernel) (by decide +kernel)
theorem q686 : Cond.methodLink RX7 39 yX7_isWord ∈ BIG := bigm 686 (by decide +kernel) (by decide +kernel)
theorem q688 : Cond.instanceMethod yX7_isWord ∈ BIG := bigm 688 (by decide +kernel) (by decide +kernel)
theorem q689 : Cond.code yX7_isWord cX7_isWord 3 (some .boolean) ∈ BIG := bigm 689 (by decide +kernel) (by decide +kernel)
theorem q690 : Cond.methodLink RX7 115 yJ0_length_8abf5 ∈ BIG := bigm 690 (by decide +kernel) (by decide +kernel)
theorem q691 : Cond.instanceMethod yJ0_length_8abf5 ∈ BIG := bigm 691 (by decide +kernel) (by decide +kernel)
theorem q692 : Cond.selects RJ0 yJ0_length_8abf5 yJ0_length_8abf5 ∈ BIG := bigm 692 (by decide +kernel) (by decide +kernel)
theorem q693 : Cond.code yJ0_length_8abf5 cJ0_length_8abf5 1 (some .int) ∈ BIG := bigm 693 (by decide +kernel) (by decide +kernel)
theorem q694 : Cond.methodLink RJ0 335 yJ0_coder_7d493 ∈ BIG := bigm 694 (by decide +kernel) (by decide +kernel)
theorem q695 : Cond.instanceMethod yJ0_coder_7d493 ∈ BIG := bigm 695 (by decide +kernel) (by decide +kernel)
theorem q696 : Cond.selects RJ0 yJ0_coder_7d493 yJ0_coder_7d493 ∈ BIG := bigm 696 (by decide +kernel) (by decide +kernel)
theorem q697 : Cond.code yJ0_coder_7d493 cJ0_coder_7d493 1 (some .byte) ∈ BIG := bigm 697 (by decide +kernel) (by decide +kernel)
theorem q698 : Cond.fieldLink RJ0 38 "java/lang/String" "COMPACT_STRINGS" "Z" ∈ BIG := bigm 698 (by decide +kernel) (by decide +kernel)
theorem q700 : Cond.methodLink RX7 120 yJ0_charAt_5068e ∈ BIG := bigm 700 (by decide +kernel) (by decide +kernel)
theorem q701 : Cond.instanceMethod yJ0_charAt_5068e ∈ BIG := bigm 701 (by decide +kernel) (by decide +kernel)
theorem q702 : Cond.selects RJ0 yJ0_charAt_5068e yJ0_charAt_5068e ∈ BIG := bigm 702 (by decide +kernel) (by decide +kernel)
theorem q703 : Cond.code yJ0_charAt_5068e cJ0_charAt_5068e 2 (some .char) ∈ BIG := bigm 703 (by decide +kernel) (by decide +kernel)
theorem q704 : Cond.methodLink RJ0 492 yJ0_isLatin1_aae02 ∈ BIG := bigm 704 (by decide +kernel) (by decide +kernel)
theorem q705 : Cond.instanceMethod yJ0_isLatin1_aae02 ∈ BIG := bigm 705 (by decide +kernel) (by decide +kernel)
theorem q706 : Cond.selects RJ0 yJ0_isLatin1_aae02 yJ0_isLatin1_aae02 ∈ BIG := bigm 706 (by decide +kernel) (by decide +kernel)
theorem q707 : Cond.code yJ0_isLatin1_aae02 cJ0_isLatin1_aae02 1 (some .boolean) ∈ BIG := bigm 707 (by decide +kernel) (by decide +kernel)
theorem q708 : Cond.methodLink RJ0 495 yJ1_charAt_3b067 ∈ BIG := bigm 708 (by decide +kernel) (by decide +kernel)
theorem q709 : Cond.static yJ1_charAt_3b067 ∈ BIG := bigm 709 (by decide +kernel) (by decide +kernel)
theorem q710 : Cond.code yJ1_charAt_3b067 cJ1_charAt_3b067 2 (some .char) ∈ BIG := bigm 710 (by decide +kernel) (by decide +kernel)
theorem q711 : Cond.methodLink RJ1 9 yJ0_checkIndex_df160 ∈ BIG := bigm 711 (by decide +kernel) (by decide +kernel)
theorem q712 : Cond.static yJ0_checkIndex_df160 ∈ BIG := bigm 712 (by decide +kernel) (by decide +kernel)
theorem q713 : Cond.code yJ0_checkIndex_df160 cJ0_checkIndex_df160 2 none ∈ BIG := bigm 713 (by decide +kernel) (by decide +kernel)
theorem q714 : Cond.fieldLink RJ0 1053 "jdk/internal/util/Preconditions" "SIOOBE_FORMATTER" "Ljava/util/function/BiFunction;" ∈ BIG := bigm 714 (by decide +kernel) (by decide +kernel)
theorem q716 : Cond.methodLink RJ0 1059 yJ3_checkIndex_8e157 ∈ BIG := bigm 716 (by decide +kernel) (by decide +kernel)
theorem q717 : Cond.static yJ3_checkIndex_8e157 ∈ BIG := bigm 717 (by decide +kernel) (by decide +kernel)
theorem q718 : Cond.code yJ3_checkIndex_8e157 cJ3_checkIndex_8e157 3 (some .int) ∈ BIG := bigm 718 (by decide +kernel) (by decide +kernel)
theorem q719 : Cond.methodLink RJ0 498 yJ2_charAt_3b067 ∈ BIG := bigm 719 (by decide +kernel) (by decide +kernel)
theorem q720 : Cond.static yJ2_charAt_3b067 ∈ BIG := bigm 720 (by decide +kernel) (by decide +kernel)
theorem q721 : Cond.code yJ2_charAt_3b067 cJ2_charAt_3b067 2 (some .char) ∈ BIG := bigm 721 (by decide +kernel) (by decide +kernel)
theorem q722 : Cond.methodLink RJ2 67 yJ2_checkIndex_2214a ∈ BIG := bigm 722 (by decide +kernel) (by decide +kernel)
theorem q723 : Cond.static yJ2_checkIndex_2214a ∈ BIG := bigm 723 (by decide +kernel) (by decide +kernel)
theorem q724 : Cond.code yJ2_checkIndex_2214a cJ2_checkIndex_2214a 2 none ∈ BIG := bigm 724 (by decide +kernel) (by decide +kernel)
theorem q725 : Cond.methodLink RJ2 48 yJ2_length_9d52b ∈ BIG := bigm 725 (by decide +kernel) (by decide +kernel)
theorem q726 : Cond.static yJ2_length_9d52b ∈ BIG := bigm 726 (by decide +kernel) (by decide +kernel)
theorem q727 : Cond.code yJ2_length_9d52b cJ2_length_9d52b 1 (some .int) ∈ BIG := bigm 727 (by decide +kernel) (by decide +kernel)
theorem q728 : Cond.methodLink RJ2 414 yJ0_checkIndex_df160 ∈ BIG := bigm 728 (by decide +kernel) (by decide +kernel)
theorem q729 : Cond.methodLink RJ2 71 yJ2_getChar_3b067 ∈ BIG := bigm 729 (by decide +kernel) (by decide +kernel)
theorem q730 : Cond.static yJ2_getChar_3b067 ∈ BIG := bigm 730 (by decide +kernel) (by decide +kernel)
theorem q731 : Cond.code yJ2_getChar_3b067 cJ2_getChar_3b067 2 (some .char) ∈ BIG := bigm 731 (by decide +kernel) (by decide +kernel)
theorem q732 : Cond.fieldLink RJ2 44 "java/lang/StringUTF16" "$assertionsDisabled" "Z" ∈ BIG := bigm 732 (by decide +kernel) (by decide +kernel)
theorem q734 : Cond.fieldLink RJ2 59 "java/lang/StringUTF16" "HI_BYTE_SHIFT" "I" ∈ BIG := bigm 734 (by decide +kernel) (by decide +kernel)
theorem q736 : Cond.fieldLink RJ2 63 "java/lang/StringUTF16" "LO_BYTE_SHIFT" "I" ∈ BIG := bigm 736 (by decide +kernel) (by decide +kernel)
theorem q738 : Cond.methodLink RX7 43 yX3_isFull ∈ BIG := bigm 738 (by decide +kernel) (by decide +kernel)
theorem q739 : Cond.methodLink RX7 49 yX7_tellVisitor ∈ BIG := bigm 739 (by decide +kernel) (by decide +kernel)
theorem q741 : Cond.instanceMethod yX7_tellVisitor ∈ BIG := bigm 741 (by decide +kernel) (by decide +kernel)
theorem q742 : Cond.code yX7_tellVisitor cX7_tellVisitor 4 (some .boolean) ∈ BIG := bigm 742 (by decide +kernel) (by decide +kernel)
theorem q743 : Cond.methodLink RX7 71 yX3_welcome ∈ BIG := bigm 743 (by decide +kernel) (by decide +kernel)
theorem q744 : Cond.methodLink RX7 75 yX3_visitor ∈ BIG := bigm 744 (by decide +kernel) (by decide +kernel)
theorem q746 : Cond.methodLink RX7 81 yX7_tellKnown ∈ BIG := bigm 746 (by decide +kernel) (by decide +kernel)
theorem q748 : Cond.instanceMethod yX7_tellKnown ∈ BIG := bigm 748 (by decide +kernel) (by decide +kernel)
theorem q749 : Cond.code yX7_tellKnown cX7_tellKnown 3 (some .boolean) ∈ BIG := bigm 749 (by decide +kernel) (by decide +kernel)
theorem q750 : Cond.methodLink RX7 61 yX7_isNumberBelow ∈ BIG := bigm 750 (by decide +kernel) (by decide +kernel)
theorem q752 : Cond.instanceMethod yX7_isNumberBelow ∈ BIG := bigm 752 (by decide +kernel) (by decide +kernel)
theorem q753 : Cond.code yX7_isNumberBelow cX7_isNumberBelow 2 (some .boolean) ∈ BIG := bigm 753 (by decide +kernel) (by decide +kernel)
theorem q755 : Cond.methodLink RX7 87 yX7_tellSeat ∈ BIG := bigm 755 (by decide +kernel) (by decide +kernel)
theorem q757 : Cond.instanceMethod yX7_tellSeat ∈ BIG := bigm 757 (by decide +kernel) (by decide +kernel)
theorem q758 : Cond.code yX7_tellSeat cX7_tellSeat 3 (some .boolean) ∈ BIG := bigm 758 (by decide +kernel) (by decide +kernel)
theorem q759 : Cond.methodLink RX7 96 yX3_holder ∈ BIG := bigm 759 (by decide +kernel) (by decide +kernel)
theorem q760 : Cond.methodLink RX7 99 yX8_settle ∈ BIG := bigm 760 (by decide +kernel) (by decide +kernel)
theorem q762 : Cond.methodLink RX7 55 yX7_tellSecret ∈ BIG := bigm 762 (by decide +kernel) (by decide +kernel)
theorem q764 : Cond.instanceMethod yX7_tellSecret ∈ BIG := bigm 764 (by decide +kernel) (by decide +kernel)
theorem q765 : Cond.code yX7_tellSecret cX7_tellSecret 4 (some .boolean) ∈ BIG := bigm 765 (by decide +kernel) (by decide +kernel)
theorem q768 : Cond.methodLink RL 113 yX10_sheet ∈ BIG := bigm 768 (by decide +kernel) (by decide +kernel)
theorem q769 : Cond.instanceMethod yX10_sheet ∈ BIG := bigm 769 (by decide +kernel) (by decide +kernel)
theorem q770 : Cond.selects RX10 yX10_sheet yX10_sheet ∈ BIG := bigm 770 (by decide +kernel) (by decide +kernel)
theorem q771 : Cond.code yX10_sheet cX10_sheet 5 (some .int) ∈ BIG := bigm 771 (by decide +kernel) (by decide +kernel)
theorem q772 : Cond.methodLink RX10 224 yX10_isSheet ∈ BIG := bigm 772 (by decide +kernel) (by decide +kernel)
theorem q773 : Cond.static yX10_isSheet ∈ BIG := bigm 773 (by decide +kernel) (by decide +kernel)
theorem q774 : Cond.code yX10_isSheet cX10_isSheet 1 (some .boolean) ∈ BIG := bigm 774 (by decide +kernel) (by decide +kernel)
theorem q775 : Cond.constant RX10 227 (-1000000007) ∈ BIG := bigm 775 (by decide +kernel) (by decide +kernel)
theorem q776 : Cond.methodLink RX10 228 yX5_renew ∈ BIG := bigm 776 (by decide +kernel) (by decide +kernel)
theorem q777 : Cond.instanceMethod yX5_renew ∈ BIG := bigm 777 (by decide +kernel) (by decide +kernel)
theorem q778 : Cond.selects RX5 yX5_renew yX5_renew ∈ BIG := bigm 778 (by decide +kernel) (by decide +kernel)
theorem q779 : Cond.code yX5_renew cX5_renew 4 none ∈ BIG := bigm 779 (by decide +kernel) (by decide +kernel)
theorem q780 : Cond.methodLink RL 119 yX10_write ∈ BIG := bigm 780 (by decide +kernel) (by decide +kernel)
theorem q781 : Cond.instanceMethod yX10_write ∈ BIG := bigm 781 (by decide +kernel) (by decide +kernel)
theorem q782 : Cond.selects RX10 yX10_write yX10_write ∈ BIG := bigm 782 (by decide +kernel) (by decide +kernel)
theorem q783 : Cond.code yX10_write cX10_write 6 (some .long) ∈ BIG := bigm 783 (by decide +kernel) (by decide +kernel)
theorem q784 : Cond.methodLink RX10 232 yX10_faultOfSheet ∈ BIG := bigm 784 (by decide +kernel) (by decide +kernel)
theorem q786 : Cond.instanceMethod yX10_faultOfSheet ∈ BIG := bigm 786 (by decide +kernel) (by decide +kernel)
theorem q787 : Cond.code yX10_faultOfSheet cX10_faultOfSheet 2 (some .int) ∈ BIG := bigm 787 (by decide +kernel) (by decide +kernel)
theorem q788 : Cond.methodLink RX10 240 yX5_isMissing ∈ BIG := bigm 788 (by decide +kernel) (by decide +kernel)
theorem q789 : Cond.instanceMethod yX5_isMissing ∈ BIG := bigm 789 (by decide +kernel) (by decide +kernel)
theorem q790 : Cond.selects RX5 yX5_isMissing yX5_isMissing ∈ BIG := bigm 790 (by decide +kernel) (by decide +kernel)
theorem q791 : Cond.code yX5_isMissing cX5_isMissing 1 (some .boolean) ∈ BIG := bigm 791 (by decide +kernel) (by decide +kernel)
theorem q792 : Cond.constant RX10 243 (-1000000006) ∈ BIG := bigm 792 (by decide +kernel) (by decide +kernel)
theorem q793 : Cond.methodLink RX10 236 yX5_put ∈ BIG := bigm 793 (by decide +kernel) (by decide +kernel)
theorem q794 : Cond.instanceMethod yX5_put ∈ BIG := bigm 794 (by decide +kernel) (by decide +kernel)
theorem q795 : Cond.selects RX5 yX5_put yX5_put ∈ BIG := bigm 795 (by decide +kernel) (by decide +kernel)
theorem q796 : Cond.code yX5_put cX5_put 6 (some .long) ∈ BIG := bigm 796 (by decide +kernel) (by decide +kernel)
theorem q797 : Cond.methodLink RX5 22 yX5_cut ∈ BIG := bigm 797 (by decide +kernel) (by decide +kernel)
theorem q799 : Cond.instanceMethod yX5_cut ∈ BIG := bigm 799 (by decide +kernel) (by decide +kernel)
theorem q800 : Cond.code yX5_cut cX5_cut 3 (some .long) ∈ BIG := bigm 800 (by decide +kernel) (by decide +kernel)
theorem q801 : Cond.methodLink RL 124 yX10_copy ∈ BIG := bigm 801 (by decide +kernel) (by decide +kernel)
theorem q802 : Cond.instanceMethod yX10_copy ∈ BIG := bigm 802 (by decide +kernel) (by decide +kernel)
theorem q803 : Cond.selects RX10 yX10_copy yX10_copy ∈ BIG := bigm 803 (by decide +kernel) (by decide +kernel)
theorem q804 : Cond.code yX10_copy cX10_copy 8 (some .int) ∈ BIG := bigm 804 (by decide +kernel) (by decide +kernel)
theorem q805 : Cond.methodLink RX10 247 yX5_hasSpan ∈ BIG := bigm 805 (by decide +kernel) (by decide +kernel)
theorem q806 : Cond.instanceMethod yX5_hasSpan ∈ BIG := bigm 806 (by decide +kernel) (by decide +kernel)
theorem q807 : Cond.selects RX5 yX5_hasSpan yX5_hasSpan ∈ BIG := bigm 807 (by decide +kernel) (by decide +kernel)
theorem q808 : Cond.code yX5_hasSpan cX5_hasSpan 3 (some .boolean) ∈ BIG := bigm 808 (by decide +kernel) (by decide +kernel)
theorem q809 : Cond.methodLink RX10 254 ⟨"java/lang/System", "arraycopy", "(Ljava/lang/Object;ILjava/lang/Object;II)V"⟩ ∈ BIG := bigm 809 (by decide +kernel) (by decide +kernel)
theorem q810 : Cond.static ⟨"java/lang/System", "arraycopy", "(Ljava/lang/Object;ILjava/lang/Object;II)V"⟩ ∈ BIG := bigm 810 (by decide +kernel) (by decide +kernel)
theorem q812 : Cond.methodLink RL 129 yX10_lays ∈ BIG := bigm 812 (by decide +kernel) (by decide +kernel)
theorem q813 : Cond.instanceMethod yX10_lays ∈ BIG := bigm 813 (by decide +kernel) (by decide +kernel)
theorem q814 : Cond.selects RX10 yX10_lays yX10_lays ∈ BIG := bigm 814 (by decide +kernel) (by decide +kernel)
theorem q815 : Cond.code yX10_lays cX10_lays 8 (some .int) ∈ BIG := bigm 815 (by decide +kernel) (by decide +kernel)
theorem q816 : Cond.constantLong RX10 260 (1023) ∈ BIG := bigm 816 (by decide +kernel) (by decide +kernel)
theorem q817 : Cond.methodLink RL 133 yX10_book ∈ BIG := bigm 817 (by decide +kernel) (by decide +kernel)
theorem q818 : Cond.instanceMethod yX10_book ∈ BIG := bigm 818 (by decide +kernel) (by decide +kernel)
theorem q819 : Cond.selects RX10 yX10_book yX10_book ∈ BIG := bigm 819 (by decide +kernel) (by decide +kernel)
theorem q820 : Cond.code yX10_book cX10_book 6 (some .int) ∈ BIG := bigm 820 (by decide +kernel) (by decide +kernel)
theorem q821 : Cond.methodLink RL 137 yX10_read ∈ BIG := bigm 821 (by decide +kernel) (by decide +kernel)
theorem q822 : Cond.instanceMethod yX10_read ∈ BIG := bigm 822 (by decide +kernel) (by decide +kernel)
theorem q823 : Cond.selects RX10 yX10_read yX10_read ∈ BIG := bigm 823 (by decide +kernel) (by decide +kernel)
theorem q824 : Cond.code yX10_read cX10_read 7 (some .int) ∈ BIG := bigm 824 (by decide +kernel) (by decide +kernel)
theorem q825 : Cond.methodLink RX10 262 yX10_goesAsTold ∈ BIG := bigm 825 (by decide +kernel) (by decide +kernel)
theorem q827 : Cond.instanceMethod yX10_goesAsTold ∈ BIG := bigm 827 (by decide +kernel) (by decide +kernel)
theorem q828 : Cond.code yX10_goesAsTold cX10_goesAsTold 4 (some .boolean) ∈ BIG := bigm 828 (by decide +kernel) (by decide +kernel)
theorem q829 : Cond.methodLink RL 141 yX10_image ∈ BIG := bigm 829 (by decide +kernel) (by decide +kernel)
theorem q830 : Cond.instanceMethod yX10_image ∈ BIG := bigm 830 (by decide +kernel) (by decide +kernel)
theorem q831 : Cond.selects RX10 yX10_image yX10_image ∈ BIG := bigm 831 (by decide +kernel) (by decide +kernel)
theorem q832 : Cond.code yX10_image cX10_image 1 (some .int) ∈ BIG := bigm 832 (by decide +kernel) (by decide +kernel)
theorem q833 : Cond.methodLink RL 145 yX10_undo ∈ BIG := bigm 833 (by decide +kernel) (by decide +kernel)
theorem q834 : Cond.instanceMethod yX10_undo ∈ BIG := bigm 834 (by decide +kernel) (by decide +kernel)
theorem q835 : Cond.selects RX10 yX10_undo yX10_undo ∈ BIG := bigm 835 (by decide +kernel) (by decide +kernel)
theorem q836 : Cond.code yX10_undo cX10_undo 1 (some .int) ∈ BIG := bigm 836 (by decide +kernel) (by decide +kernel)
theorem q837 : Cond.methodLink RL 149 yX10_tear ∈ BIG := bigm 837 (by decide +kernel) (by decide +kernel)
theorem q838 : Cond.instanceMethod yX10_tear ∈ BIG := bigm 838 (by decide +kernel) (by decide +kernel)
theorem q839 : Cond.selects RX10 yX10_tear yX10_tear ∈ BIG := bigm 839 (by decide +kernel) (by decide +kernel)
theorem q840 : Cond.code yX10_tear cX10_tear 2 (some .int) ∈ BIG := bigm 840 (by decide +kernel) (by decide +kernel)
theorem q841 : Cond.methodLink RL 153 yX10_count ∈ BIG := bigm 841 (by decide +kernel) (by decide +kernel)
theorem q842 : Cond.instanceMethod yX10_count ∈ BIG := bigm 842 (by decide +kernel) (by decide +kernel)
theorem q843 : Cond.selects RX10 yX10_count yX10_count ∈ BIG := bigm 843 (by decide +kernel) (by decide +kernel)
theorem q844 : Cond.code yX10_count cX10_count 2 (some .int) ∈ BIG := bigm 844 (by decide +kernel) (by decide +kernel)
theorem q845 : Cond.methodLink RL 157 yX10_status ∈ BIG := bigm 845 (by decide +kernel) (by decide +kernel)
theorem q846 : Cond.instanceMethod yX10_status ∈ BIG := bigm 846 (by decide +kernel) (by decide +kernel)
theorem q847 : Cond.selects RX10 yX10_status yX10_status ∈ BIG := bigm 847 (by decide +kernel) (by decide +kernel)
theorem q848 : Cond.code yX10_status cX10_status 4 (some .int) ∈ BIG := bigm 848 (by decide +kernel) (by decide +kernel)
theorem q849 : Cond.classLink RL 10 RX11 ∈ BIG := bigm 849 (by decide +kernel) (by decide +kernel)
theorem q850 : Cond.instantiable RX11 16 ∈ BIG := bigm 850 (by decide +kernel) (by decide +kernel)
theorem q851 : Cond.methodLink RL 12 yX11_init ∈ BIG := bigm 851 (by decide +kernel) (by decide +kernel)
theorem q852 : Cond.instanceMethod yX11_init ∈ BIG := bigm 852 (by decide +kernel) (by decide +kernel)
theorem q853 : Cond.code yX11_init cX11_init 1 none ∈ BIG := bigm 853 (by decide +kernel) (by decide +kernel)
theorem q854 : Cond.methodLink RX11 1 ⟨"java/lang/Object", "<init>", "()V"⟩ ∈ BIG := bigm 854 (by decide +kernel) (by decide +kernel)
theorem q855 : Cond.fieldLink RX11 7 "WhisperSeatsModel" "s" "[I" ∈ BIG := bigm 855 (by decide +kernel) (by decide +kernel)
theorem q856 : Cond.fieldLink RX11 13 "WhisperSeatsModel" "kept" "[I" ∈ BIG := bigm 856 (by decide +kernel) (by decide +kernel)
theorem q857 : Cond.fieldLink RX11 16 "WhisperSeatsModel" "before" "[I" ∈ BIG := bigm 857 (by decide +kernel) (by decide +kernel)
theorem q858 : Cond.fieldLink RX11 19 "WhisperSeatsModel" "aside" "[I" ∈ BIG := bigm 858 (by decide +kernel) (by decide +kernel)
theorem q859 : Cond.fieldLink RX11 259 "WhisperSeatsModel" "isKept" "Z" ∈ BIG := bigm 859 (by decide +kernel) (by decide +kernel)
theorem q860 : Cond.fieldLink RX11 22 "WhisperSeatsModel" "findings" "[I" ∈ BIG := bigm 860 (by decide +kernel) (by decide +kernel)
theorem q861 : Cond.fieldLink RX11 25 "WhisperSeatsModel" "tape" "[I" ∈ BIG := bigm 861 (by decide +kernel) (by decide +kernel)
theorem q862 : Cond.fieldLink RX11 173 "WhisperSeatsModel" "taped" "I" ∈ BIG := bigm 862 (by decide +kernel) (by decide +kernel)
theorem q863 : Cond.fieldLink RX11 28 "WhisperSeatsModel" "bitsOf" "[I" ∈ BIG := bigm 863 (by decide +kernel) (by decide +kernel)
theorem q864 : Cond.fieldLink RX11 31 "WhisperSeatsModel" "sizes" "[I" ∈ BIG := bigm 864 (by decide +kernel) (by decide +kernel)
theorem q865 : Cond.fieldLink RX11 34 "WhisperSeatsModel" "numbers" "[J" ∈ BIG := bigm 865 (by decide +kernel) (by decide +kernel)
theorem q866 : Cond.fieldLink RX11 192 "WhisperSeatsModel" "token" "I" ∈ BIG := bigm 866 (by decide +kernel) (by decide +kernel)
theorem q867 : Cond.fieldLink RX11 180 "WhisperSeatsModel" "from" "I" ∈ BIG := bigm 867 (by decide +kernel) (by decide +kernel)
theorem q868 : Cond.fieldLink RX11 177 "WhisperSeatsModel" "to" "I" ∈ BIG := bigm 868 (by decide +kernel) (by decide +kernel)
theorem q869 : Cond.fieldLink RX11 195 "WhisperSeatsModel" "value" "I" ∈ BIG := bigm 869 (by decide +kernel) (by decide +kernel)
theorem q870 : Cond.fieldLink RX11 198 "WhisperSeatsModel" "faultAt" "I" ∈ BIG := bigm 870 (by decide +kernel) (by decide +kernel)
theorem q903 : Cond.superclass RX11 "java/lang/Object" ∈ BIG := bigm 903 (by decide +kernel) (by decide +kernel)
theorem q904 : Cond.methodLink RL 17 yX11_sham ∈ BIG := bigm 904 (by decide +kernel) (by decide +kernel)
theorem q905 : Cond.instanceMethod yX11_sham ∈ BIG := bigm 905 (by decide +kernel) (by decide +kernel)
theorem q906 : Cond.selects RX11 yX11_sham yX11_sham ∈ BIG := bigm 906 (by decide +kernel) (by decide +kernel)
theorem q907 : Cond.code yX11_sham cX11_sham 2 (some .int) ∈ BIG := bigm 907 (by decide +kernel) (by decide +kernel)
theorem q908 : Cond.constantLong RX11 44 (1023) ∈ BIG := bigm 908 (by decide +kernel) (by decide +kernel)
theorem q909 : Cond.methodLink RX11 46 yX11_isIn ∈ BIG := bigm 909 (by decide +kernel) (by decide +kernel)
theorem q910 : Cond.static yX11_isIn ∈ BIG := bigm 910 (by decide +kernel) (by decide +kernel)
theorem q911 : Cond.code yX11_isIn cX11_isIn 6 (some .boolean) ∈ BIG := bigm 911 (by decide +kernel) (by decide +kernel)
theorem q912 : Cond.methodLink RX11 50 yX11_becomes ∈ BIG := bigm 912 (by decide +kernel) (by decide +kernel)
theorem q914 : Cond.instanceMethod yX11_becomes ∈ BIG := bigm 914 (by decide +kernel) (by decide +kernel)
theorem q915 : Cond.code yX11_becomes cX11_becomes 4 (some .int) ∈ BIG := bigm 915 (by decide +kernel) (by decide +kernel)
theorem q916 : Cond.constant RX11 38 (-1000000001) ∈ BIG := bigm 916 (by decide +kernel) (by decide +kernel)
theorem q917 : Cond.methodLink RX11 40 yX11_finds ∈ BIG := bigm 917 (by decide +kernel) (by decide +kernel)
theorem q919 : Cond.instanceMethod yX11_finds ∈ BIG := bigm 919 (by decide +kernel) (by decide +kernel)
theorem q920 : Cond.code yX11_finds cX11_finds 2 (some .int) ∈ BIG := bigm 920 (by decide +kernel) (by decide +kernel)
theorem q921 : Cond.methodLink RL 22 yX11_who ∈ BIG := bigm 921 (by decide +kernel) (by decide +kernel)
theorem q922 : Cond.instanceMethod yX11_who ∈ BIG := bigm 922 (by decide +kernel) (by decide +kernel)
theorem q923 : Cond.selects RX11 yX11_who yX11_who ∈ BIG := bigm 923 (by decide +kernel) (by decide +kernel)
theorem q924 : Cond.code yX11_who cX11_who 5 (some .int) ∈ BIG := bigm 924 (by decide +kernel) (by decide +kernel)
theorem q925 : Cond.methodLink RX11 54 yX11_isSecret ∈ BIG := bigm 925 (by decide +kernel) (by decide +kernel)
theorem q926 : Cond.static yX11_isSecret ∈ BIG := bigm 926 (by decide +kernel) (by decide +kernel)
theorem q927 : Cond.code yX11_isSecret cX11_isSecret 1 (some .boolean) ∈ BIG := bigm 927 (by decide +kernel) (by decide +kernel)
theorem q928 : Cond.methodLink RX11 58 yX11_its ∈ BIG := bigm 928 (by decide +kernel) (by decide +kernel)
theorem q930 : Cond.instanceMethod yX11_its ∈ BIG := bigm 930 (by decide +kernel) (by decide +kernel)
theorem q931 : Cond.code yX11_its cX11_its 3 (some .int) ∈ BIG := bigm 931 (by decide +kernel) (by decide +kernel)
theorem q932 : Cond.methodLink RL 26 yX11_person ∈ BIG := bigm 932 (by decide +kernel) (by decide +kernel)
theorem q933 : Cond.instanceMethod yX11_person ∈ BIG := bigm 933 (by decide +kernel) (by decide +kernel)
theorem q934 : Cond.selects RX11 yX11_person yX11_person ∈ BIG := bigm 934 (by decide +kernel) (by decide +kernel)
theorem q935 : Cond.code yX11_person cX11_person 2 (some .int) ∈ BIG := bigm 935 (by decide +kernel) (by decide +kernel)
theorem q936 : Cond.constantLong RX11 64 (5) ∈ BIG := bigm 936 (by decide +kernel) (by decide +kernel)
theorem q937 : Cond.constant RX11 66 (-1000000002) ∈ BIG := bigm 937 (by decide +kernel) (by decide +kernel)
theorem q938 : Cond.methodLink RX11 67 yX11_comes ∈ BIG := bigm 938 (by decide +kernel) (by decide +kernel)
theorem q940 : Cond.instanceMethod yX11_comes ∈ BIG := bigm 940 (by decide +kernel) (by decide +kernel)
theorem q941 : Cond.code yX11_comes cX11_comes 3 none ∈ BIG := bigm 941 (by decide +kernel) (by decide +kernel)
theorem q942 : Cond.methodLink RX11 61 yX11_at ∈ BIG := bigm 942 (by decide +kernel) (by decide +kernel)
theorem q943 : Cond.static yX11_at ∈ BIG := bigm 943 (by decide +kernel) (by decide +kernel)
theorem q944 : Cond.code yX11_at cX11_at 2 (some .int) ∈ BIG := bigm 944 (by decide +kernel) (by decide +kernel)
theorem q945 : Cond.methodLink RL 30 yX11_of ∈ BIG := bigm 945 (by decide +kernel) (by decide +kernel)
theorem q946 : Cond.instanceMethod yX11_of ∈ BIG := bigm 946 (by decide +kernel) (by decide +kernel)
theorem q947 : Cond.selects RX11 yX11_of yX11_of ∈ BIG := bigm 947 (by decide +kernel) (by decide +kernel)
theorem q948 : Cond.code yX11_of cX11_of 3 (some .int) ∈ BIG := bigm 948 (by decide +kernel) (by decide +kernel)
theorem q949 : Cond.methodLink RX11 83 yX11_isOne ∈ BIG := bigm 949 (by decide +kernel) (by decide +kernel)
theorem q951 : Cond.instanceMethod yX11_isOne ∈ BIG := bigm 951 (by decide +kernel) (by decide +kernel)
theorem q952 : Cond.code yX11_isOne cX11_isOne 2 (some .boolean) ∈ BIG := bigm 952 (by decide +kernel) (by decide +kernel)
theorem q953 : Cond.constantLong RX11 86 (7) ∈ BIG := bigm 953 (by decide +kernel) (by decide +kernel)
theorem q954 : Cond.methodLink RX11 88 yX11_says ∈ BIG := bigm 954 (by decide +kernel) (by decide +kernel)
theorem q956 : Cond.instanceMethod yX11_says ∈ BIG := bigm 956 (by decide +kernel) (by decide +kernel)
theorem q957 : Cond.code yX11_says cX11_says 3 (some .int) ∈ BIG := bigm 957 (by decide +kernel) (by decide +kernel)
theorem q958 : Cond.methodLink RX11 74 yX11_last ∈ BIG := bigm 958 (by decide +kernel) (by decide +kernel)
theorem q959 : Cond.static yX11_last ∈ BIG := bigm 959 (by decide +kernel) (by decide +kernel)
theorem q960 : Cond.code yX11_last cX11_last 2 (some .int) ∈ BIG := bigm 960 (by decide +kernel) (by decide +kernel)
theorem q961 : Cond.methodLink RX11 71 yX11_first ∈ BIG := bigm 961 (by decide +kernel) (by decide +kernel)
theorem q962 : Cond.static yX11_first ∈ BIG := bigm 962 (by decide +kernel) (by decide +kernel)
theorem q963 : Cond.code yX11_first cX11_first 2 (some .int) ∈ BIG := bigm 963 (by decide +kernel) (by decide +kernel)
theorem q964 : Cond.methodLink RX11 77 yX11_saysPlain ∈ BIG := bigm 964 (by decide +kernel) (by decide +kernel)
theorem q966 : Cond.instanceMethod yX11_saysPlain ∈ BIG := bigm 966 (by decide +kernel) (by decide +kernel)
theorem q967 : Cond.code yX11_saysPlain cX11_saysPlain 2 (some .int) ∈ BIG := bigm 967 (by decide +kernel) (by decide +kernel)
theorem q968 : Cond.methodLink RX11 91 yX11_stays ∈ BIG := bigm 968 (by decide +kernel) (by decide +kernel)
theorem q970 : Cond.instanceMethod yX11_stays ∈ BIG := bigm 970 (by decide +kernel) (by decide +kernel)
theorem q971 : Cond.code yX11_stays cX11_stays 2 (some .int) ∈ BIG := bigm 971 (by decide +kernel) (by decide +kernel)
theorem q972 : Cond.methodLink RX11 80 yX11_many ∈ BIG := bigm 972 (by decide +kernel) (by decide +kernel)
theorem q973 : Cond.static yX11_many ∈ BIG := bigm 973 (by decide +kernel) (by decide +kernel)
theorem q974 : Cond.code yX11_many cX11_many 3 (some .int) ∈ BIG := bigm 974 (by decide +kernel) (by decide +kernel)
theorem q975 : Cond.methodLink RL 35 yX11_set ∈ BIG := bigm 975 (by decide +kernel) (by decide +kernel)
theorem q976 : Cond.instanceMethod yX11_set ∈ BIG := bigm 976 (by decide +kernel) (by decide +kernel)
theorem q977 : Cond.selects RX11 yX11_set yX11_set ∈ BIG := bigm 977 (by decide +kernel) (by decide +kernel)
theorem q978 : Cond.code yX11_set cX11_set 4 (some .int) ∈ BIG := bigm 978 (by decide +kernel) (by decide +kernel)
theorem q979 : Cond.methodLink RX11 96 yX11_may ∈ BIG := bigm 979 (by decide +kernel) (by decide +kernel)
theorem q981 : Cond.instanceMethod yX11_may ∈ BIG := bigm 981 (by decide +kernel) (by decide +kernel)
theorem q982 : Cond.code yX11_may cX11_may 4 (some .boolean) ∈ BIG := bigm 982 (by decide +kernel) (by decide +kernel)
theorem q983 : Cond.constantLong RX11 94 (9999) ∈ BIG := bigm 983 (by decide +kernel) (by decide +kernel)
theorem q984 : Cond.methodLink RX11 100 yX11_knowsNow ∈ BIG := bigm 984 (by decide +kernel) (by decide +kernel)
theorem q986 : Cond.instanceMethod yX11_knowsNow ∈ BIG := bigm 986 (by decide +kernel) (by decide +kernel)
theorem q987 : Cond.code yX11_knowsNow cX11_knowsNow 3 (some .int) ∈ BIG := bigm 987 (by decide +kernel) (by decide +kernel)
theorem q988 : Cond.methodLink RL 39 yX11_turn ∈ BIG := bigm 988 (by decide +kernel) (by decide +kernel)
theorem q989 : Cond.instanceMethod yX11_turn ∈ BIG := bigm 989 (by decide +kernel) (by decide +kernel)
theorem q990 : Cond.selects RX11 yX11_turn yX11_turn ∈ BIG := bigm 990 (by decide +kernel) (by decide +kernel)
theorem q991 : Cond.code yX11_turn cX11_turn 3 (some .int) ∈ BIG := bigm 991 (by decide +kernel) (by decide +kernel)
theorem q992 : Cond.methodLink RL 43 yX11_as ∈ BIG := bigm 992 (by decide +kernel) (by decide +kernel)
theorem q993 : Cond.instanceMethod yX11_as ∈ BIG := bigm 993 (by decide +kernel) (by decide +kernel)
theorem q994 : Cond.selects RX11 yX11_as yX11_as ∈ BIG := bigm 994 (by decide +kernel) (by decide +kernel)
theorem q995 : Cond.code yX11_as cX11_as 3 (some .int) ∈ BIG := bigm 995 (by decide +kernel) (by decide +kernel)
theorem q996 : Cond.methodLink RX11 103 yX11_isUnder ∈ BIG := bigm 996 (by decide +kernel) (by decide +kernel)
theorem q997 : Cond.static yX11_isUnder ∈ BIG := bigm 997 (by decide +kernel) (by decide +kernel)
theorem q998 : Cond.code yX11_isUnder cX11_isUnder 2 (some .boolean) ∈ BIG := bigm 998 (by decide +kernel) (by decide +kernel)
theorem q999 : Cond.constant RX11 107 (-1000000003) ∈ BIG := bigm 999 (by decide +kernel) (by decide +kernel)
theorem q1000 : Cond.methodLink RL 47 yX11_sit ∈ BIG := bigm 1000 (by decide +kernel) (by decide +kernel)
theorem q1001 : Cond.instanceMethod yX11_sit ∈ BIG := bigm 1001 (by decide +kernel) (by decide +kernel)
theorem q1002 : Cond.selects RX11 yX11_sit yX11_sit ∈ BIG := bigm 1002 (by decide +kernel) (by decide +kernel)
theorem q1003 : Cond.code yX11_sit cX11_sit 3 (some .int) ∈ BIG := bigm 1003 (by decide +kernel) (by decide +kernel)
theorem q1004 : Cond.constantLong RX11 108 (-1) ∈ BIG := bigm 1004 (by decide +kernel) (by decide +kernel)
theorem q1005 : Cond.methodLink RX11 110 yX11_sitter ∈ BIG := bigm 1005 (by decide +kernel) (by decide +kernel)
theorem q1007 : Cond.instanceMethod yX11_sitter ∈ BIG := bigm 1007 (by decide +kernel) (by decide +kernel)
theorem q1008 : Cond.code yX11_sitter cX11_sitter 4 (some .int) ∈ BIG := bigm 1008 (by decide +kernel) (by decide +kernel)
theorem q1009 : Cond.constant RX11 113 (-1000000005) ∈ BIG := bigm 1009 (by decide +kernel) (by decide +kernel)
theorem q1010 : Cond.methodLink RL 51 yX11_trusts ∈ BIG := bigm 1010 (by decide +kernel) (by decide +kernel)
theorem q1011 : Cond.instanceMethod yX11_trusts ∈ BIG := bigm 1011 (by decide +kernel) (by decide +kernel)
theorem q1012 : Cond.selects RX11 yX11_trusts yX11_trusts ∈ BIG := bigm 1012 (by decide +kernel) (by decide +kernel)
theorem q1013 : Cond.code yX11_trusts cX11_trusts 3 (some .int) ∈ BIG := bigm 1013 (by decide +kernel) (by decide +kernel)
theorem q1014 : Cond.methodLink RX11 114 yX11_isTrusted ∈ BIG := bigm 1014 (by decide +kernel) (by decide +kernel)
theorem q1016 : Cond.instanceMethod yX11_isTrusted ∈ BIG := bigm 1016 (by decide +kernel) (by decide +kernel)
theorem q1017 : Cond.code yX11_isTrusted cX11_isTrusted 5 (some .boolean) ∈ BIG := bigm 1017 (by decide +kernel) (by decide +kernel)
theorem q1018 : Cond.methodLink RL 55 yX11_hours ∈ BIG := bigm 1018 (by decide +kernel) (by decide +kernel)
theorem q1019 : Cond.instanceMethod yX11_hours ∈ BIG := bigm 1019 (by decide +kernel) (by decide +kernel)
theorem q1020 : Cond.selects RX11 yX11_hours yX11_hours ∈ BIG := bigm 1020 (by decide +kernel) (by decide +kernel)
theorem q1021 : Cond.code yX11_hours cX11_hours 2 (some .int) ∈ BIG := bigm 1021 (by decide +kernel) (by decide +kernel)
theorem q1022 : Cond.constantLong RX11 134 (100) ∈ BIG := bigm 1022 (by decide +kernel) (by decide +kernel)
theorem q1023 : Cond.constant RX11 136 (99999) ∈ BIG := bigm 1023 (by decide +kernel) (by decide +kernel)
theorem q1024 : Cond.methodLink RX11 137 yX11_goes ∈ BIG := bigm 1024 (by decide +kernel) (by decide +kernel)
theorem q1026 : Cond.instanceMethod yX11_goes ∈ BIG := bigm 1026 (by decide +kernel) (by decide +kernel)
theorem q1027 : Cond.code yX11_goes cX11_goes 3 none ∈ BIG := bigm 1027 (by decide +kernel) (by decide +kernel)
theorem q1028 : Cond.methodLink RX11 131 yX11_goesOn ∈ BIG := bigm 1028 (by decide +kernel) (by decide +kernel)
theorem q1030 : Cond.instanceMethod yX11_goesOn ∈ BIG := bigm 1030 (by decide +kernel) (by decide +kernel)
theorem q1031 : Cond.code yX11_goesOn cX11_goesOn 6 none ∈ BIG := bigm 1031 (by decide +kernel) (by decide +kernel)
theorem q1032 : Cond.methodLink RX11 117 yX11_isMonday ∈ BIG := bigm 1032 (by decide +kernel) (by decide +kernel)
theorem q1034 : Cond.instanceMethod yX11_isMonday ∈ BIG := bigm 1034 (by decide +kernel) (by decide +kernel)
theorem q1035 : Cond.code yX11_isMonday cX11_isMonday 1 (some .boolean) ∈ BIG := bigm 1035 (by decide +kernel) (by decide +kernel)
theorem q1036 : Cond.methodLink RX11 121 yX11_hearsItself ∈ BIG := bigm 1036 (by decide +kernel) (by decide +kernel)
theorem q1038 : Cond.instanceMethod yX11_hearsItself ∈ BIG := bigm 1038 (by decide +kernel) (by decide +kernel)
theorem q1039 : Cond.code yX11_hearsItself cX11_hearsItself 3 none ∈ BIG := bigm 1039 (by decide +kernel) (by decide +kernel)
theorem q1040 : Cond.methodLink RX11 125 yX11_hears ∈ BIG := bigm 1040 (by decide +kernel) (by decide +kernel)
theorem q1042 : Cond.instanceMethod yX11_hears ∈ BIG := bigm 1042 (by decide +kernel) (by decide +kernel)
theorem q1043 : Cond.code yX11_hears cX11_hears 5 none ∈ BIG := bigm 1043 (by decide +kernel) (by decide +kernel)
theorem q1044 : Cond.methodLink RX11 128 yX11_nextIn ∈ BIG := bigm 1044 (by decide +kernel) (by decide +kernel)
theorem q1046 : Cond.instanceMethod yX11_nextIn ∈ BIG := bigm 1046 (by decide +kernel) (by decide +kernel)
theorem q1047 : Cond.code yX11_nextIn cX11_nextIn 4 (some .int) ∈ BIG := bigm 1047 (by decide +kernel) (by decide +kernel)
theorem q1048 : Cond.methodLink RX11 140 yX11_heardOfAll ∈ BIG := bigm 1048 (by decide +kernel) (by decide +kernel)
theorem q1050 : Cond.instanceMethod yX11_heardOfAll ∈ BIG := bigm 1050 (by decide +kernel) (by decide +kernel)
theorem q1051 : Cond.code yX11_heardOfAll cX11_heardOfAll 3 (some .int) ∈ BIG := bigm 1051 (by decide +kernel) (by decide +kernel)
theorem q1052 : Cond.methodLink RL 59 yX11_now ∈ BIG := bigm 1052 (by decide +kernel) (by decide +kernel)
theorem q1053 : Cond.instanceMethod yX11_now ∈ BIG := bigm 1053 (by decide +kernel) (by decide +kernel)
theorem q1054 : Cond.selects RX11 yX11_now yX11_now ∈ BIG := bigm 1054 (by decide +kernel) (by decide +kernel)
theorem q1055 : Cond.code yX11_now cX11_now 2 (some .int) ∈ BIG := bigm 1055 (by decide +kernel) (by decide +kernel)
theorem q1056 : Cond.methodLink RX11 144 yX11_outNow ∈ BIG := bigm 1056 (by decide +kernel) (by decide +kernel)
theorem q1058 : Cond.instanceMethod yX11_outNow ∈ BIG := bigm 1058 (by decide +kernel) (by decide +kernel)
theorem q1059 : Cond.code yX11_outNow cX11_outNow 3 (some .int) ∈ BIG := bigm 1059 (by decide +kernel) (by decide +kernel)
theorem q1060 : Cond.methodLink RL 63 yX11_on ∈ BIG := bigm 1060 (by decide +kernel) (by decide +kernel)
theorem q1061 : Cond.instanceMethod yX11_on ∈ BIG := bigm 1061 (by decide +kernel) (by decide +kernel)
theorem q1062 : Cond.selects RX11 yX11_on yX11_on ∈ BIG := bigm 1062 (by decide +kernel) (by decide +kernel)
theorem q1063 : Cond.code yX11_on cX11_on 5 (some .int) ∈ BIG := bigm 1063 (by decide +kernel) (by decide +kernel)
theorem q1064 : Cond.constantLong RX11 147 (200) ∈ BIG := bigm 1064 (by decide +kernel) (by decide +kernel)
theorem q1065 : Cond.constantLong RX11 149 (2) ∈ BIG := bigm 1065 (by decide +kernel) (by decide +kernel)
theorem q1066 : Cond.methodLink RX11 151 yX11_copyRow ∈ BIG := bigm 1066 (by decide +kernel) (by decide +kernel)
theorem q1067 : Cond.static yX11_copyRow ∈ BIG := bigm 1067 (by decide +kernel) (by decide +kernel)
theorem q1068 : Cond.code yX11_copyRow cX11_copyRow 3 none ∈ BIG := bigm 1068 (by decide +kernel) (by decide +kernel)
theorem q1069 : Cond.methodLink RL 67 yX11_knows ∈ BIG := bigm 1069 (by decide +kernel) (by decide +kernel)
theorem q1070 : Cond.instanceMethod yX11_knows ∈ BIG := bigm 1070 (by decide +kernel) (by decide +kernel)
theorem q1071 : Cond.selects RX11 yX11_knows yX11_knows ∈ BIG := bigm 1071 (by decide +kernel) (by decide +kernel)
theorem q1072 : Cond.code yX11_knows cX11_knows 4 (some .int) ∈ BIG := bigm 1072 (by decide +kernel) (by decide +kernel)
theorem q1073 : Cond.constant RX11 39 (-1000000004) ∈ BIG := bigm 1073 (by decide +kernel) (by decide +kernel)
theorem q1074 : Cond.methodLink RL 71 yX11_out ∈ BIG := bigm 1074 (by decide +kernel) (by decide +kernel)
theorem q1075 : Cond.instanceMethod yX11_out ∈ BIG := bigm 1075 (by decide +kernel) (by decide +kernel)
theorem q1076 : Cond.selects RX11 yX11_out yX11_out ∈ BIG := bigm 1076 (by decide +kernel) (by decide +kernel)
theorem q1077 : Cond.code yX11_out cX11_out 3 (some .int) ∈ BIG := bigm 1077 (by decide +kernel) (by decide +kernel)
theorem q1078 : Cond.methodLink RL 75 yX11_meet ∈ BIG := bigm 1078 (by decide +kernel) (by decide +kernel)
theorem q1079 : Cond.instanceMethod yX11_meet ∈ BIG := bigm 1079 (by decide +kernel) (by decide +kernel)
theorem q1080 : Cond.selects RX11 yX11_meet yX11_meet ∈ BIG := bigm 1080 (by decide +kernel) (by decide +kernel)
theorem q1081 : Cond.code yX11_meet cX11_meet 4 (some .int) ∈ BIG := bigm 1081 (by decide +kernel) (by decide +kernel)
theorem q1082 : Cond.methodLink RL 79 yX11_kind ∈ BIG := bigm 1082 (by decide +kernel) (by decide +kernel)
theorem q1083 : Cond.instanceMethod yX11_kind ∈ BIG := bigm 1083 (by decide +kernel) (by decide +kernel)
theorem q1084 : Cond.selects RX11 yX11_kind yX11_kind ∈ BIG := bigm 1084 (by decide +kernel) (by decide +kernel)
theorem q1085 : Cond.code yX11_kind cX11_kind 7 (some .int) ∈ BIG := bigm 1085 (by decide +kernel) (by decide +kernel)
theorem q1086 : Cond.methodLink RL 83 yX11_forget ∈ BIG := bigm 1086 (by decide +kernel) (by decide +kernel)
theorem q1087 : Cond.instanceMethod yX11_forget ∈ BIG := bigm 1087 (by decide +kernel) (by decide +kernel)
theorem q1088 : Cond.selects RX11 yX11_forget yX11_forget ∈ BIG := bigm 1088 (by decide +kernel) (by decide +kernel)
theorem q1089 : Cond.code yX11_forget cX11_forget 8 (some .int) ∈ BIG := bigm 1089 (by decide +kernel) (by decide +kernel)
theorem q1090 : Cond.methodLink RX11 157 yX11_isAsked ∈ BIG := bigm 1090 (by decide +kernel) (by decide +kernel)
theorem q1092 : Cond.instanceMethod yX11_isAsked ∈ BIG := bigm 1092 (by decide +kernel) (by decide +kernel)
theorem q1093 : Cond.code yX11_isAsked cX11_isAsked 3 (some .boolean) ∈ BIG := bigm 1093 (by decide +kernel) (by decide +kernel)
theorem q1094 : Cond.constantLong RX11 155 (60) ∈ BIG := bigm 1094 (by decide +kernel) (by decide +kernel)
theorem q1095 : Cond.methodLink RX11 160 yX11_orNone ∈ BIG := bigm 1095 (by decide +kernel) (by decide +kernel)
theorem q1097 : Cond.instanceMethod yX11_orNone ∈ BIG := bigm 1097 (by decide +kernel) (by decide +kernel)
theorem q1098 : Cond.code yX11_orNone cX11_orNone 2 (some .int) ∈ BIG := bigm 1098 (by decide +kernel) (by decide +kernel)
theorem q1099 : Cond.methodLink RL 87 yX11_confide ∈ BIG := bigm 1099 (by decide +kernel) (by decide +kernel)
theorem q1100 : Cond.instanceMethod yX11_confide ∈ BIG := bigm 1100 (by decide +kernel) (by decide +kernel)
theorem q1101 : Cond.selects RX11 yX11_confide yX11_confide ∈ BIG := bigm 1101 (by decide +kernel) (by decide +kernel)
theorem q1102 : Cond.code yX11_confide cX11_confide 7 (some .int) ∈ BIG := bigm 1102 (by decide +kernel) (by decide +kernel)
theorem q1103 : Cond.methodLink RX11 163 yX11_howManyKnow ∈ BIG := bigm 1103 (by decide +kernel) (by decide +kernel)
theorem q1105 : Cond.instanceMethod yX11_howManyKnow ∈ BIG := bigm 1105 (by decide +kernel) (by decide +kernel)
theorem q1106 : Cond.code yX11_howManyKnow cX11_howManyKnow 4 (some .int) ∈ BIG := bigm 1106 (by decide +kernel) (by decide +kernel)
theorem q1107 : Cond.methodLink RL 91 yX11_enough ∈ BIG := bigm 1107 (by decide +kernel) (by decide +kernel)
theorem q1108 : Cond.instanceMethod yX11_enough ∈ BIG := bigm 1108 (by decide +kernel) (by decide +kernel)
theorem q1109 : Cond.selects RX11 yX11_enough yX11_enough ∈ BIG := bigm 1109 (by decide +kernel) (by decide +kernel)
theorem q1110 : Cond.code yX11_enough cX11_enough 4 (some .int) ∈ BIG := bigm 1110 (by decide +kernel) (by decide +kernel)
theorem q1111 : Cond.constantLong RX11 166 (99) ∈ BIG := bigm 1111 (by decide +kernel) (by decide +kernel)
theorem q1112 : Cond.methodLink RL 95 yX11_doubt ∈ BIG := bigm 1112 (by decide +kernel) (by decide +kernel)
theorem q1113 : Cond.instanceMethod yX11_doubt ∈ BIG := bigm 1113 (by decide +kernel) (by decide +kernel)
theorem q1114 : Cond.selects RX11 yX11_doubt yX11_doubt ∈ BIG := bigm 1114 (by decide +kernel) (by decide +kernel)
theorem q1115 : Cond.code yX11_doubt cX11_doubt 6 (some .int) ∈ BIG := bigm 1115 (by decide +kernel) (by decide +kernel)
theorem q1116 : Cond.methodLink RX11 168 yX11_believed ∈ BIG := bigm 1116 (by decide +kernel) (by decide +kernel)
theorem q1118 : Cond.instanceMethod yX11_believed ∈ BIG := bigm 1118 (by decide +kernel) (by decide +kernel)
theorem q1119 : Cond.code yX11_believed cX11_believed 3 (some .int) ∈ BIG := bigm 1119 (by decide +kernel) (by decide +kernel)
theorem q1120 : Cond.methodLink RL 99 yX11_wisest ∈ BIG := bigm 1120 (by decide +kernel) (by decide +kernel)
theorem q1121 : Cond.instanceMethod yX11_wisest ∈ BIG := bigm 1121 (by decide +kernel) (by decide +kernel)
theorem q1122 : Cond.selects RX11 yX11_wisest yX11_wisest ∈ BIG := bigm 1122 (by decide +kernel) (by decide +kernel)
theorem q1123 : Cond.code yX11_wisest cX11_wisest 4 (some .int) ∈ BIG := bigm 1123 (by decide +kernel) (by decide +kernel)
theorem q1124 : Cond.methodLink RL 103 yX11_feed ∈ BIG := bigm 1124 (by decide +kernel) (by decide +kernel)
theorem q1125 : Cond.instanceMethod yX11_feed ∈ BIG := bigm 1125 (by decide +kernel) (by decide +kernel)
theorem q1126 : Cond.selects RX11 yX11_feed yX11_feed ∈ BIG := bigm 1126 (by decide +kernel) (by decide +kernel)
theorem q1127 : Cond.code yX11_feed cX11_feed 4 (some .int) ∈ BIG := bigm 1127 (by decide +kernel) (by decide +kernel)
theorem q1128 : Cond.constantLong RX11 171 (4) ∈ BIG := bigm 1128 (by decide +kernel) (by decide +kernel)
theorem q1129 : Cond.methodLink RL 108 yX11_wipe ∈ BIG := bigm 1129 (by decide +kernel) (by decide +kernel)
theorem q1130 : Cond.instanceMethod yX11_wipe ∈ BIG := bigm 1130 (by decide +kernel) (by decide +kernel)
theorem q1131 : Cond.selects RX11 yX11_wipe yX11_wipe ∈ BIG := bigm 1131 (by decide +kernel) (by decide +kernel)
theorem q1132 : Cond.code yX11_wipe cX11_wipe 2 (some .int) ∈ BIG := bigm 1132 (by decide +kernel) (by decide +kernel)
theorem q1133 : Cond.methodLink RL 112 yX11_park ∈ BIG := bigm 1133 (by decide +kernel) (by decide +kernel)
theorem q1134 : Cond.instanceMethod yX11_park ∈ BIG := bigm 1134 (by decide +kernel) (by decide +kernel)
theorem q1135 : Cond.selects RX11 yX11_park yX11_park ∈ BIG := bigm 1135 (by decide +kernel) (by decide +kernel)
theorem q1136 : Cond.code yX11_park cX11_park 3 (some .int) ∈ BIG := bigm 1136 (by decide +kernel) (by decide +kernel)
theorem q1137 : Cond.methodLink RX11 222 yX11_nextToken ∈ BIG := bigm 1137 (by decide +kernel) (by decide +kernel)
theorem q1139 : Cond.instanceMethod yX11_nextToken ∈ BIG := bigm 1139 (by decide +kernel) (by decide +kernel)
theorem q1140 : Cond.code yX11_nextToken cX11_nextToken 2 none ∈ BIG := bigm 1140 (by decide +kernel) (by decide +kernel)
theorem q1141 : Cond.methodLink RX11 183 yX11_byteAt ∈ BIG := bigm 1141 (by decide +kernel) (by decide +kernel)
theorem q1143 : Cond.instanceMethod yX11_byteAt ∈ BIG := bigm 1143 (by decide +kernel) (by decide +kernel)
theorem q1144 : Cond.code yX11_byteAt cX11_byteAt 2 (some .int) ∈ BIG := bigm 1144 (by decide +kernel) (by decide +kernel)
theorem q1145 : Cond.methodLink RX11 186 yX11_isLetter ∈ BIG := bigm 1145 (by decide +kernel) (by decide +kernel)
theorem q1146 : Cond.static yX11_isLetter ∈ BIG := bigm 1146 (by decide +kernel) (by decide +kernel)
theorem q1147 : Cond.code yX11_isLetter cX11_isLetter 1 (some .boolean) ∈ BIG := bigm 1147 (by decide +kernel) (by decide +kernel)
theorem q1148 : Cond.methodLink RX11 189 yX11_isDigit ∈ BIG := bigm 1148 (by decide +kernel) (by decide +kernel)
theorem q1149 : Cond.static yX11_isDigit ∈ BIG := bigm 1149 (by decide +kernel) (by decide +kernel)
theorem q1150 : Cond.code yX11_isDigit cX11_isDigit 1 (some .boolean) ∈ BIG := bigm 1150 (by decide +kernel) (by decide +kernel)
theorem q1151 : Cond.methodLink RX11 241 yX11_itemHere ∈ BIG := bigm 1151 (by decide +kernel) (by decide +kernel)
theorem q1153 : Cond.instanceMethod yX11_itemHere ∈ BIG := bigm 1153 (by decide +kernel) (by decide +kernel)
theorem q1154 : Cond.code yX11_itemHere cX11_itemHere 3 (some .boolean) ∈ BIG := bigm 1154 (by decide +kernel) (by decide +kernel)
theorem q1155 : Cond.methodLink RX11 231 yX11_kindHere ∈ BIG := bigm 1155 (by decide +kernel) (by decide +kernel)
theorem q1157 : Cond.instanceMethod yX11_kindHere ∈ BIG := bigm 1157 (by decide +kernel) (by decide +kernel)
theorem q1158 : Cond.code yX11_kindHere cX11_kindHere 1 (some .int) ∈ BIG := bigm 1158 (by decide +kernel) (by decide +kernel)
theorem q1159 : Cond.methodLink RX11 208 yX11_isSix ∈ BIG := bigm 1159 (by decide +kernel) (by decide +kernel)
theorem q1161 : Cond.instanceMethod yX11_isSix ∈ BIG := bigm 1161 (by decide +kernel) (by decide +kernel)
theorem q1162 : Cond.code yX11_isSix cX11_isSix 7 (some .boolean) ∈ BIG := bigm 1162 (by decide +kernel) (by decide +kernel)
theorem q1163 : Cond.methodLink RX11 201 yX11_isWord ∈ BIG := bigm 1163 (by decide +kernel) (by decide +kernel)
theorem q1165 : Cond.instanceMethod yX11_isWord ∈ BIG := bigm 1165 (by decide +kernel) (by decide +kernel)
theorem q1166 : Cond.code yX11_isWord cX11_isWord 2 (some .boolean) ∈ BIG := bigm 1166 (by decide +kernel) (by decide +kernel)
theorem q1167 : Cond.methodLink RX11 204 yX11_has3 ∈ BIG := bigm 1167 (by decide +kernel) (by decide +kernel)
theorem q1169 : Cond.instanceMethod yX11_has3 ∈ BIG := bigm 1169 (by decide +kernel) (by decide +kernel)
theorem q1170 : Cond.code yX11_has3 cX11_has3 5 (some .boolean) ∈ BIG := bigm 1170 (by decide +kernel) (by decide +kernel)
theorem q1171 : Cond.methodLink RX11 212 yX11_isFive ∈ BIG := bigm 1171 (by decide +kernel) (by decide +kernel)
theorem q1173 : Cond.instanceMethod yX11_isFive ∈ BIG := bigm 1173 (by decide +kernel) (by decide +kernel)
theorem q1174 : Cond.code yX11_isFive cX11_isFive 6 (some .boolean) ∈ BIG := bigm 1174 (by decide +kernel) (by decide +kernel)
theorem q1175 : Cond.methodLink RX11 216 yX11_isFour ∈ BIG := bigm 1175 (by decide +kernel) (by decide +kernel)
theorem q1177 : Cond.instanceMethod yX11_isFour ∈ BIG := bigm 1177 (by decide +kernel) (by decide +kernel)
theorem q1178 : Cond.code yX11_isFour cX11_isFour 5 (some .boolean) ∈ BIG := bigm 1178 (by decide +kernel) (by decide +kernel)
theorem q1179 : Cond.methodLink RX11 234 yX11_personHere ∈ BIG := bigm 1179 (by decide +kernel) (by decide +kernel)
theorem q1181 : Cond.instanceMethod yX11_personHere ∈ BIG := bigm 1181 (by decide +kernel) (by decide +kernel)
theorem q1182 : Cond.code yX11_personHere cX11_personHere 3 (some .boolean) ∈ BIG := bigm 1182 (by decide +kernel) (by decide +kernel)
theorem q1183 : Cond.methodLink RX11 219 yX11_fails ∈ BIG := bigm 1183 (by decide +kernel) (by decide +kernel)
theorem q1185 : Cond.instanceMethod yX11_fails ∈ BIG := bigm 1185 (by decide +kernel) (by decide +kernel)
theorem q1186 : Cond.code yX11_fails cX11_fails 1 (some .boolean) ∈ BIG := bigm 1186 (by decide +kernel) (by decide +kernel)
theorem q1187 : Cond.methodLink RX11 228 yX11_knowsHere ∈ BIG := bigm 1187 (by decide +kernel) (by decide +kernel)
theorem q1189 : Cond.instanceMethod yX11_knowsHere ∈ BIG := bigm 1189 (by decide +kernel) (by decide +kernel)
theorem q1190 : Cond.code yX11_knowsHere cX11_knowsHere 3 (some .boolean) ∈ BIG := bigm 1190 (by decide +kernel) (by decide +kernel)
theorem q1191 : Cond.methodLink RX11 225 yX11_isNumber ∈ BIG := bigm 1191 (by decide +kernel) (by decide +kernel)
theorem q1193 : Cond.instanceMethod yX11_isNumber ∈ BIG := bigm 1193 (by decide +kernel) (by decide +kernel)
theorem q1194 : Cond.code yX11_isNumber cX11_isNumber 3 (some .boolean) ∈ BIG := bigm 1194 (by decide +kernel) (by decide +kernel)
theorem q1195 : Cond.methodLink RX11 237 yX11_secretHere ∈ BIG := bigm 1195 (by decide +kernel) (by decide +kernel)
theorem q1197 : Cond.instanceMethod yX11_secretHere ∈ BIG := bigm 1197 (by decide +kernel) (by decide +kernel)
theorem q1198 : Cond.code yX11_secretHere cX11_secretHere 2 (some .boolean) ∈ BIG := bigm 1198 (by decide +kernel) (by decide +kernel)
theorem q1199 : Cond.methodLink RL 116 yX11_sheet ∈ BIG := bigm 1199 (by decide +kernel) (by decide +kernel)
theorem q1200 : Cond.instanceMethod yX11_sheet ∈ BIG := bigm 1200 (by decide +kernel) (by decide +kernel)
theorem q1201 : Cond.selects RX11 yX11_sheet yX11_sheet ∈ BIG := bigm 1201 (by decide +kernel) (by decide +kernel)
theorem q1202 : Cond.code yX11_sheet cX11_sheet 5 (some .int) ∈ BIG := bigm 1202 (by decide +kernel) (by decide +kernel)
theorem q1203 : Cond.methodLink RX11 244 yX11_isSheet ∈ BIG := bigm 1203 (by decide +kernel) (by decide +kernel)
theorem q1204 : Cond.static yX11_isSheet ∈ BIG := bigm 1204 (by decide +kernel) (by decide +kernel)
theorem q1205 : Cond.code yX11_isSheet cX11_isSheet 1 (some .boolean) ∈ BIG := bigm 1205 (by decide +kernel) (by decide +kernel)
theorem q1206 : Cond.constant RX11 247 (-1000000007) ∈ BIG := bigm 1206 (by decide +kernel) (by decide +kernel)
theorem q1207 : Cond.methodLink RL 123 yX11_write ∈ BIG := bigm 1207 (by decide +kernel) (by decide +kernel)
theorem q1208 : Cond.instanceMethod yX11_write ∈ BIG := bigm 1208 (by decide +kernel) (by decide +kernel)
theorem q1209 : Cond.selects RX11 yX11_write yX11_write ∈ BIG := bigm 1209 (by decide +kernel) (by decide +kernel)
theorem q1210 : Cond.code yX11_write cX11_write 7 (some .long) ∈ BIG := bigm 1210 (by decide +kernel) (by decide +kernel)
theorem q1211 : Cond.constant RX11 248 (-1000000006) ∈ BIG := bigm 1211 (by decide +kernel) (by decide +kernel)
theorem q1212 : Cond.methodLink RX11 249 yX11_narrow ∈ BIG := bigm 1212 (by decide +kernel) (by decide +kernel)
theorem q1213 : Cond.static yX11_narrow ∈ BIG := bigm 1213 (by decide +kernel) (by decide +kernel)
theorem q1214 : Cond.code yX11_narrow cX11_narrow 3 (some .long) ∈ BIG := bigm 1214 (by decide +kernel) (by decide +kernel)
theorem q1215 : Cond.methodLink RL 128 yX11_copy ∈ BIG := bigm 1215 (by decide +kernel) (by decide +kernel)
theorem q1216 : Cond.instanceMethod yX11_copy ∈ BIG := bigm 1216 (by decide +kernel) (by decide +kernel)
theorem q1217 : Cond.selects RX11 yX11_copy yX11_copy ∈ BIG := bigm 1217 (by decide +kernel) (by decide +kernel)
theorem q1218 : Cond.code yX11_copy cX11_copy 10 (some .int) ∈ BIG := bigm 1218 (by decide +kernel) (by decide +kernel)
theorem q1219 : Cond.methodLink RL 132 yX11_lays ∈ BIG := bigm 1219 (by decide +kernel) (by decide +kernel)
theorem q1220 : Cond.instanceMethod yX11_lays ∈ BIG := bigm 1220 (by decide +kernel) (by decide +kernel)
theorem q1221 : Cond.selects RX11 yX11_lays yX11_lays ∈ BIG := bigm 1221 (by decide +kernel) (by decide +kernel)
theorem q1222 : Cond.code yX11_lays cX11_lays 7 (some .int) ∈ BIG := bigm 1222 (by decide +kernel) (by decide +kernel)
theorem q1223 : Cond.methodLink RX11 253 yX11_wants ∈ BIG := bigm 1223 (by decide +kernel) (by decide +kernel)
theorem q1225 : Cond.instanceMethod yX11_wants ∈ BIG := bigm 1225 (by decide +kernel) (by decide +kernel)
theorem q1226 : Cond.code yX11_wants cX11_wants 2 (some .int) ∈ BIG := bigm 1226 (by decide +kernel) (by decide +kernel)
theorem q1227 : Cond.methodLink RL 136 yX11_book ∈ BIG := bigm 1227 (by decide +kernel) (by decide +kernel)
theorem q1228 : Cond.instanceMethod yX11_book ∈ BIG := bigm 1228 (by decide +kernel) (by decide +kernel)
theorem q1229 : Cond.selects RX11 yX11_book yX11_book ∈ BIG := bigm 1229 (by decide +kernel) (by decide +kernel)
theorem q1230 : Cond.code yX11_book cX11_book 5 (some .int) ∈ BIG := bigm 1230 (by decide +kernel) (by decide +kernel)
theorem q1231 : Cond.methodLink RL 140 yX11_read ∈ BIG := bigm 1231 (by decide +kernel) (by decide +kernel)
theorem q1232 : Cond.instanceMethod yX11_read ∈ BIG := bigm 1232 (by decide +kernel) (by decide +kernel)
theorem q1233 : Cond.selects RX11 yX11_read yX11_read ∈ BIG := bigm 1233 (by decide +kernel) (by decide +kernel)
theorem q1234 : Cond.code yX11_read cX11_read 7 (some .int) ∈ BIG := bigm 1234 (by decide +kernel) (by decide +kernel)
theorem q1235 : Cond.methodLink RX11 256 yX11_isSo ∈ BIG := bigm 1235 (by decide +kernel) (by decide +kernel)
theorem q1237 : Cond.instanceMethod yX11_isSo ∈ BIG := bigm 1237 (by decide +kernel) (by decide +kernel)
theorem q1238 : Cond.code yX11_isSo cX11_isSo 5 (some .boolean) ∈ BIG := bigm 1238 (by decide +kernel) (by decide +kernel)
theorem q1239 : Cond.methodLink RL 144 yX11_image ∈ BIG := bigm 1239 (by decide +kernel) (by decide +kernel)
theorem q1240 : Cond.instanceMethod yX11_image ∈ BIG := bigm 1240 (by decide +kernel) (by decide +kernel)
theorem q1241 : Cond.selects RX11 yX11_image yX11_image ∈ BIG := bigm 1241 (by decide +kernel) (by decide +kernel)
theorem q1242 : Cond.code yX11_image cX11_image 1 (some .int) ∈ BIG := bigm 1242 (by decide +kernel) (by decide +kernel)
theorem q1243 : Cond.methodLink RL 148 yX11_undo ∈ BIG := bigm 1243 (by decide +kernel) (by decide +kernel)
theorem q1244 : Cond.instanceMethod yX11_undo ∈ BIG := bigm 1244 (by decide +kernel) (by decide +kernel)
theorem q1245 : Cond.selects RX11 yX11_undo yX11_undo ∈ BIG := bigm 1245 (by decide +kernel) (by decide +kernel)
theorem q1246 : Cond.code yX11_undo cX11_undo 1 (some .int) ∈ BIG := bigm 1246 (by decide +kernel) (by decide +kernel)
theorem q1247 : Cond.methodLink RL 152 yX11_tear ∈ BIG := bigm 1247 (by decide +kernel) (by decide +kernel)
theorem q1248 : Cond.instanceMethod yX11_tear ∈ BIG := bigm 1248 (by decide +kernel) (by decide +kernel)
theorem q1249 : Cond.selects RX11 yX11_tear yX11_tear ∈ BIG := bigm 1249 (by decide +kernel) (by decide +kernel)
theorem q1250 : Cond.code yX11_tear cX11_tear 2 (some .int) ∈ BIG := bigm 1250 (by decide +kernel) (by decide +kernel)
theorem q1251 : Cond.methodLink RL 156 yX11_count ∈ BIG := bigm 1251 (by decide +kernel) (by decide +kernel)
theorem q1252 : Cond.instanceMethod yX11_count ∈ BIG := bigm 1252 (by decide +kernel) (by decide +kernel)
theorem q1253 : Cond.selects RX11 yX11_count yX11_count ∈ BIG := bigm 1253 (by decide +kernel) (by decide +kernel)
theorem q1254 : Cond.code yX11_count cX11_count 2 (some .int) ∈ BIG := bigm 1254 (by decide +kernel) (by decide +kernel)
theorem q1255 : Cond.methodLink RL 160 yX11_status ∈ BIG := bigm 1255 (by decide +kernel) (by decide +kernel)
theorem q1256 : Cond.instanceMethod yX11_status ∈ BIG := bigm 1256 (by decide +kernel) (by decide +kernel)
theorem q1257 : Cond.selects RX11 yX11_status yX11_status ∈ BIG := bigm 1257 (by decide +kernel) (by decide +kernel)
theorem q1258 : Cond.code yX11_status cX11_status 2 (some .int) ∈ BIG := bigm 1258 (by decide +kernel) (by decide +kernel)
theorem q1259 : Cond.constantLong RX11 263 (6) ∈ BIG := bigm 1259 (by decide +kernel) (by decide +kernel)
theorem q1260 : Cond.constantLong RL 117 (4294967295) ∈ BIG := bigm 1260 (by decide +kernel) (by decide +kernel)
theorem q1261 : Cond.sameMethod "WhisperSeats$Actor" "WhisperSeats$Actor" "says" "(LWhisperSeats$Visitor;II)I" ∈ BIG := bigm 1261 (by decide +kernel) (by decide +kernel)
theorem q1262 : Cond.sameMethod "WhisperSeats$Wife" "WhisperSeats$Wife" "says" "(LWhisperSeats$Visitor;II)I" ∈ BIG := bigm 1262 (by decide +kernel) (by decide +kernel)
theorem q1263 : Cond.sameMethod "WhisperSeats$Person" "WhisperSeats$Person" "saysAsPerson" "(LWhisperSeats$Visitor;)I" ∈ BIG := bigm 1263 (by decide +kernel) (by decide +kernel)
theorem q1264 : Cond.selects RX0 yX4_saysAsPerson yX4_saysAsPerson ∈ BIG := bigm 1264 (by decide +kernel) (by decide +kernel)
theorem q1265 : Cond.selects RX1 yX4_saysAsPerson yX4_saysAsPerson ∈ BIG := bigm 1265 (by decide +kernel) (by decide +kernel)
theorem q1266 : Cond.selects RX2 yX4_saysAsPerson yX4_saysAsPerson ∈ BIG := bigm 1266 (by decide +kernel) (by decide +kernel)
theorem q1267 : Cond.selects RX4 yX4_saysAsPerson yX4_saysAsPerson ∈ BIG := bigm 1267 (by decide +kernel) (by decide +kernel)
theorem q1268 : Cond.selects RX6 yX4_saysAsPerson yX4_saysAsPerson ∈ BIG := bigm 1268 (by decide +kernel) (by decide +kernel)
theorem q1269 : Cond.selects RX9 yX4_saysAsPerson yX4_saysAsPerson ∈ BIG := bigm 1269 (by decide +kernel) (by decide +kernel)
theorem q1270 : Cond.sameMethod "WhisperSeats$Actor" "WhisperSeats$Actor" "stays" "(LWhisperSeats$Visitor;)I" ∈ BIG := bigm 1270 (by decide +kernel) (by decide +kernel)
theorem q1271 : Cond.sameMethod "WhisperSeats$Wife" "WhisperSeats$Wife" "believes" "(ZI)Z" ∈ BIG := bigm 1271 (by decide +kernel) (by decide +kernel)
theorem q1277 : Cond.fieldLink RJ0 9 "java/lang/String" "value" "[B" ∈ BIG := bigm 1277 (by decide +kernel) (by decide +kernel)
theorem q1278 : Cond.fieldLink RJ0 15 "java/lang/String" "coder" "B" ∈ BIG := bigm 1278 (by decide +kernel) (by decide +kernel)
theorem iX0 : ∀ w ∈ u_ws RX0 TX0 0, w ∈ BIG := fun w h => List.mem_filter.mpr ⟨(by decide +kernel : ∀ w ∈ u_ws RX0 TX0 0, w ∈ lw_tbl) w h, (by decide +kernel : ∀ w ∈ u_ws RX0 TX0 0, goodWord w = true) w h⟩
theorem iX1 : ∀ w ∈ u_ws RX1 TX1 0, w ∈ BIG := fun w h => List.mem_filter.mpr ⟨(by decide +kernel : ∀ w ∈ u_ws RX1 TX1 0, w ∈ lw_tbl) w h, (by decide +kernel : ∀ w ∈ u_ws RX1 TX1 0, goodWord w = true) w h⟩
theorem iX2 : ∀ w ∈ u_ws RX2 TX2 0, w ∈ BIG := fun w h => List.mem_filter.mpr ⟨(by decide +kernel : ∀ w ∈ u_ws RX2 TX2 0, w ∈ lw_tbl) w h, (by decide +kernel : ∀ w ∈ u_ws RX2 TX2 0, goodWord w = true) w h⟩
theorem iX3 : ∀ w ∈ u_ws RX3 TX3 6, w ∈ BIG := fun w h => List.mem_filter.mpr ⟨(by decide +kernel : ∀ w ∈ u_ws RX3 TX3 6, w ∈ lw_tbl) w h, (by decide +kernel : ∀ w ∈ u_ws RX3 TX3 6, goodWord w = true) w h⟩
theorem iX4 : ∀ w ∈ u_ws RX4 TX4 0, w ∈ BIG := fun w h => List.mem_filter.mpr ⟨(by decide +kernel : ∀ w ∈ u_ws RX4 TX4 0, w ∈ lw_tbl) w h, (by decide +kernel : ∀ w ∈ u_ws RX4 TX4 0, goodWord w = true) w h⟩
theorem iX5 : ∀ w ∈ u_ws RX5 TX5 3, w ∈ BIG := fun w h => List.mem_filter.mpr ⟨(by decide +kernel : ∀ w ∈ u_ws RX5 TX5 3, w ∈ lw_tbl) w h, (by decide +kernel : ∀ w ∈ u_ws RX5 TX5 3, goodWord w = true) w h⟩
theorem iX6 : ∀ w ∈ u_ws RX6 TX6 0, w ∈ BIG := fun w h => List.mem_filter.mpr ⟨(by decide +kernel : ∀ w ∈ u_ws RX6 TX6 0, w ∈ lw_tbl) w h, (by decide +kernel : ∀ w ∈ u_ws RX6 TX6 0, goodWord w = true) w h⟩
theorem iX7 : ∀ w ∈ u_ws RX7 TX7 6, w ∈ BIG := fun w h => List.mem_filter.mpr ⟨(by decide +kernel : ∀ w ∈ u_ws RX7 TX7 6, w ∈ lw_tbl) w h, (by decide +kernel : ∀ w ∈ u_ws RX7 TX7 6, goodWord w = true) w h⟩
theorem iX8 : ∀ w ∈ u_ws RX8 TX8 6, w ∈ BIG := fun w h => List.mem_filter.mpr ⟨(by decide +kernel : ∀ w ∈ u_ws RX8 TX8 6, w ∈ lw_tbl) w h, (by decide +kernel : ∀ w ∈ u_ws RX8 TX8 6, goodWord w = true) w h⟩
theorem iX9 : ∀ w ∈ u_ws RX9 TX9 0, w ∈ BIG := fun w h => List.mem_filter.mpr ⟨(by decide +kernel : ∀ w ∈ u_ws RX9 TX9 0, w ∈ lw_tbl) w h, (by decide +kernel : ∀ w ∈ u_ws RX9 TX9 0, goodWord w = true) w h⟩
theorem iX10 : ∀ w ∈ u_ws RX10 TX10 8, w ∈ BIG := fun w h => List.mem_filter.mpr ⟨(by decide +kernel : ∀ w ∈ u_ws RX10 TX10 8, w ∈ lw_tbl) w h, (by decide +kernel : ∀ w ∈ u_ws RX10 TX10 8, goodWord w = true) w h⟩
theorem iX11 : ∀ w ∈ u_ws RX11 TX11 16, w ∈ BIG := fun w h => List.mem_filter.mpr ⟨(by decide +kernel : ∀ w ∈ u_ws RX11 TX11 16, w ∈ lw_tbl) w h, (by decide +kernel : ∀ w ∈ u_ws RX11 TX11 16, goodWord w = true) w h⟩
end
section
abbrev Zm : Type := (Nat → Nat → Int32) × (Nat → Nat → Int64)
def z_i (M : Zm) (a k : Nat) (v : Int32) : Zm := (va_up M.1 a (upd (M.1 a) k v), M.2)
def z_l (M : Zm) (a k : Nat) (v : Int64) : Zm := (M.1, va_up M.2 a (vp_updL (M.2 a) k v))
def z_cp (M : Zm) (a b sp dp n : Nat) : Zm := (M.1, va_up M.2 b (va_cpy (M.2 a) (M.2 b) sp dp n))
abbrev Zg : Type := va_G × (Nat → ClassId) × List Nat × (Nat → Nat) × (Nat → Nat) × (Nat → Nat → Nat) × (Nat → Nat) × (Nat → Nat) × Nat
def z_D (Γ : Zg) : va_G := Γ.1
def z_C (Γ : Zg) : Nat → ClassId := Γ.2.1
def z_L (Γ : Zg) : List Nat := Γ.2.2.1
def z_k (Γ : Zg) : Nat → Nat := Γ.2.2.2.1
def z_n (Γ : Zg) : Nat → Nat := Γ.2.2.2.2.1
def z_r (Γ : Zg) : Nat → Nat → Nat := Γ.2.2.2.2.2.1
def z_sK (Γ : Zg) : Nat → Nat := Γ.2.2.2.2.2.2.1
def z_sV (Γ : Zg) : Nat → Nat := Γ.2.2.2.2.2.2.2.1
def z_t (Γ : Zg) : Nat := Γ.2.2.2.2.2.2.2.2
/-- a cell of a kind -/
def z_Is (Γ : Zg) (k a : Nat) : Prop := a ∈ z_L Γ ∧ z_k Γ a = k
/-- an array of a kind, of a length -/
def z_Ia (Γ : Zg) (k n a : Nat) : Prop := z_Is Γ k a ∧ z_n Γ a = n
/-- one of the people's kinds -/
def z_Ip (Γ : Zg) (a : Nat) : Prop := z_Is Γ 4 a ∨ z_Is Γ 0 a ∨ z_Is Γ 1 a ∨ z_Is Γ 9 a ∨ z_Is Γ 2 a ∨ z_Is Γ 6 a
def z_A (Γ : Zg) : Nat → Prop := fun q => q ∈ z_L Γ
def z_T (Γ : Zg) : List (ClassId × FieldType) := [(z_C Γ 0, .int), (z_C Γ 1, .long), (z_C Γ 2, .object "WhisperSeats$Person"), (z_C Γ 3, .object "WhisperSeats$Sheet"), (z_C Γ 4, .object "WhisperSeats$Visitor")]
def z_wc (Γ : Zg) (M : Zm) (a : Nat) : va_E :=
  if z_k Γ a = 0 then .inr (0, [])
  else if z_k Γ a = 1 then .inr (1, [])
  else if z_k Γ a = 2 then .inr (2, [])
  else if z_k Γ a = 3 then .inr (3, [.ref (z_r Γ a 0), .ref (z_r Γ a 1), .int (M.1 a 2), .int (M.1 a 3), .int (M.1 a 4), .int (M.1 a 5)])
  else if z_k Γ a = 4 then .inr (4, [])
  else if z_k Γ a = 5 then .inr (5, [.ref (z_r Γ a 0), .int (M.1 a 1), .int (M.1 a 2)])
  else if z_k Γ a = 6 then .inr (6, [])
  else if z_k Γ a = 7 then .inr (7, [.ref (z_r Γ a 0), .int (M.1 a 1), .int (M.1 a 2), .int (M.1 a 3), .int (M.1 a 4), .int (M.1 a 5)])
  else if z_k Γ a = 8 then .inr (8, [.int (M.1 a 0), .int (M.1 a 1), .int (M.1 a 2), .int (M.1 a 3), .int (M.1 a 4), .int (M.1 a 5)])
  else if z_k Γ a = 9 then .inr (9, [])
  else if z_k Γ a = 10 then .inr (10, [.ref (z_r Γ a 0), .ref (z_r Γ a 1), .ref (z_r Γ a 2), .int (M.1 a 3), .ref (z_r Γ a 4), .ref (z_r Γ a 5), .ref (z_r Γ a 6), .ref (z_r Γ a 7)])
  else if z_k Γ a = 11 then .inr (11, [.ref (z_r Γ a 0), .ref (z_r Γ a 1), .ref (z_r Γ a 2), .ref (z_r Γ a 3), .int (M.1 a 4), .ref (z_r Γ a 5), .ref (z_r Γ a 6), .int (M.1 a 7), .ref (z_r Γ a 8), .ref (z_r Γ a 9), .ref (z_r Γ a 10), .int (M.1 a 11), .int (M.1 a 12), .int (M.1 a 13), .int (M.1 a 14), .int (M.1 a 15)])
  else if z_k Γ a = 12 then .inl (z_C Γ 0, z_n Γ a, .inl (M.1 a))
  else if z_k Γ a = 13 then .inl (z_C Γ 1, z_n Γ a, .inr (.inl (M.2 a)))
  else if z_k Γ a = 14 then .inl (z_C Γ 2, z_n Γ a, .inr (.inr (.inr (.inr (fun j => some (z_r Γ a j))))))
  else if z_k Γ a = 15 then .inl (z_C Γ 3, z_n Γ a, .inr (.inr (.inr (.inr (fun j => some (z_r Γ a j))))))
  else .inl (z_C Γ 4, z_n Γ a, .inr (.inr (.inr (.inr (fun j => some (z_r Γ a j))))))
theorem z_wc0 {Γ : Zg} {M : Zm} {a : Nat} (h : z_k Γ a = 0) : z_wc Γ M a = .inr (0, []) := by simp [z_wc, h]
theorem z_wc1 {Γ : Zg} {M : Zm} {a : Nat} (h : z_k Γ a = 1) : z_wc Γ M a = .inr (1, []) := by simp [z_wc, h]
theorem z_wc2 {Γ : Zg} {M : Zm} {a : Nat} (h : z_k Γ a = 2) : z_wc Γ M a = .inr (2, []) := by simp [z_wc, h]
theorem z_wc3 {Γ : Zg} {M : Zm} {a : Nat} (h : z_k Γ a = 3) : z_wc Γ M a = .inr (3, [.ref (z_r Γ a 0), .ref (z_r Γ a 1), .int (M.1 a 2), .int (M.1 a 3), .int (M.1 a 4), .int (M.1 a 5)]) := by simp [z_wc, h]
theorem z_wc4 {Γ : Zg} {M : Zm} {a : Nat} (h : z_k Γ a = 4) : z_wc Γ M a = .inr (4, []) := by simp [z_wc, h]
theorem z_wc5 {Γ : Zg} {M : Zm} {a : Nat} (h : z_k Γ a = 5) : z_wc Γ M a = .inr (5, [.ref (z_r Γ a 0), .int (M.1 a 1), .int (M.1 a 2)]) := by simp [z_wc, h]
theorem z_wc6 {Γ : Zg} {M : Zm} {a : Nat} (h : z_k Γ a = 6) : z_wc Γ M a = .inr (6, []) := by simp [z_wc, h]
theorem z_wc7 {Γ : Zg} {M : Zm} {a : Nat} (h : z_k Γ a = 7) : z_wc Γ M a = .inr (7, [.ref (z_r Γ a 0), .int (M.1 a 1), .int (M.1 a 2), .int (M.1 a 3), .int (M.1 a 4), .int (M.1 a 5)]) := by simp [z_wc, h]
theorem z_wc8 {Γ : Zg} {M : Zm} {a : Nat} (h : z_k Γ a = 8) : z_wc Γ M a = .inr (8, [.int (M.1 a 0), .int (M.1 a 1), .int (M.1 a 2), .int (M.1 a 3), .int (M.1 a 4), .int (M.1 a 5)]) := by simp [z_wc, h]
theorem z_wc9 {Γ : Zg} {M : Zm} {a : Nat} (h : z_k Γ a = 9) : z_wc Γ M a = .inr (9, []) := by simp [z_wc, h]
theorem z_wc10 {Γ : Zg} {M : Zm} {a : Nat} (h : z_k Γ a = 10) : z_wc Γ M a = .inr (10, [.ref (z_r Γ a 0), .ref (z_r Γ a 1), .ref (z_r Γ a 2), .int (M.1 a 3), .ref (z_r Γ a 4), .ref (z_r Γ a 5), .ref (z_r Γ a 6), .ref (z_r Γ a 7)]) := by simp [z_wc, h]
theorem z_wc11 {Γ : Zg} {M : Zm} {a : Nat} (h : z_k Γ a = 11) : z_wc Γ M a = .inr (11, [.ref (z_r Γ a 0), .ref (z_r Γ a 1), .ref (z_r Γ a 2), .ref (z_r Γ a 3), .int (M.1 a 4), .ref (z_r Γ a 5), .ref (z_r Γ a 6), .int (M.1 a 7), .ref (z_r Γ a 8), .ref (z_r Γ a 9), .ref (z_r Γ a 10), .int (M.1 a 11), .int (M.1 a 12), .int (M.1 a 13), .int (M.1 a 14), .int (M.1 a 15)]) := by simp [z_wc, h]
theorem z_wc12 {Γ : Zg} {M : Zm} {a : Nat} (h : z_k Γ a = 12) : z_wc Γ M a = .inl (z_C Γ 0, z_n Γ a, .inl (M.1 a)) := by simp [z_wc, h]
theorem z_wc13 {Γ : Zg} {M : Zm} {a : Nat} (h : z_k Γ a = 13) : z_wc Γ M a = .inl (z_C Γ 1, z_n Γ a, .inr (.inl (M.2 a))) := by simp [z_wc, h]
theorem z_wc14 {Γ : Zg} {M : Zm} {a : Nat} (h : z_k Γ a = 14) : z_wc Γ M a = .inl (z_C Γ 2, z_n Γ a, .inr (.inr (.inr (.inr (fun j => some (z_r Γ a j)))))) := by simp [z_wc, h]
theorem z_wc15 {Γ : Zg} {M : Zm} {a : Nat} (h : z_k Γ a = 15) : z_wc Γ M a = .inl (z_C Γ 3, z_n Γ a, .inr (.inr (.inr (.inr (fun j => some (z_r Γ a j)))))) := by simp [z_wc, h]
theorem z_wc16 {Γ : Zg} {M : Zm} {a : Nat} (h : z_k Γ a = 16) : z_wc Γ M a = .inl (z_C Γ 4, z_n Γ a, .inr (.inr (.inr (.inr (fun j => some (z_r Γ a j)))))) := by simp [z_wc, h]
theorem z_wc_ne {Γ : Zg} {M M' : Zm} {b : Nat} (h1 : M'.1 b = M.1 b) (h2 : M'.2 b = M.2 b) : z_wc Γ M' b = z_wc Γ M b := by unfold z_wc; rw [h1, h2]
theorem z_i_ne {M : Zm} {a k b : Nat} {v : Int32} (h : b ≠ a) : (z_i M a k v).1 b = M.1 b := va_up_ne _ _ h
theorem z_i_eq {M : Zm} {a k : Nat} {v : Int32} : (z_i M a k v).1 a = upd (M.1 a) k v := va_up_self _ _ _
theorem z_l_ne {M : Zm} {a k b : Nat} {v : Int64} (h : b ≠ a) : (z_l M a k v).2 b = M.2 b := va_up_ne _ _ h
theorem z_cp_eq {M : Zm} {a b sp dp n : Nat} : (z_cp M a b sp dp n).2 b = va_cpy (M.2 a) (M.2 b) sp dp n := va_up_self _ _ _
theorem z_l_eq {M : Zm} {a k : Nat} {v : Int64} : (z_l M a k v).2 a = vp_updL (M.2 a) k v := va_up_self _ _ _
def z_sl : List Nat := [6, 5, 7, 4, 5, 3, 5, 2, 4, 4]
def z_sb : List (List Int32) := [[112, 101, 114, 115, 111, 110], [97, 99, 116, 111, 114], [103, 101, 110, 101, 114, 97, 108], [119, 105, 102, 101], [108, 111, 118, 101, 114], [115, 112, 121], [107, 110, 111, 119, 115], [111, 110], [115, 104, 97, 109], [116, 114, 117, 101]]
def z_ab : List Int32 := [-1, 0, 0, 0, 1, 3]
def z_Ex (Γ : Zg) (U : State) (H : Heap) : Prop := vk_S 10 z_sl z_sb (z_sK Γ) (z_sV Γ) (z_A Γ) U H ∧ (vk_R RX7 103 "person" (z_sK Γ 0) U ∧ vk_R RX7 105 "actor" (z_sK Γ 1) U ∧ vk_R RX7 107 "general" (z_sK Γ 2) U ∧ vk_R RX7 109 "wife" (z_sK Γ 3) U ∧ vk_R RX7 111 "lover" (z_sK Γ 4) U ∧ vk_R RX7 113 "spy" (z_sK Γ 5) U ∧ vk_R RX7 79 "knows" (z_sK Γ 6) U ∧ vk_R RX7 85 "on" (z_sK Γ 7) U ∧ vk_R RX7 53 "sham" (z_sK Γ 8) U ∧ vk_R RX7 59 "true" (z_sK Γ 9) U) ∧ va_Z "java/lang/String" "COMPACT_STRINGS" "Z" (.int 1) (z_A Γ) U H ∧ va_Z "WhisperSeats" "ABOVE" "[I" (.ref (z_t Γ)) (z_A Γ) U H ∧ va_T .int (z_t Γ) 6 (fun j => .int (z_ab.getD j 0)) (z_A Γ) U H ∧ va_Zq "jdk/internal/util/Preconditions" "SIOOBE_FORMATTER" "Ljava/util/function/BiFunction;" (z_A Γ) U H
def z_Kx (Γ : Zg) (U : State) (H : Heap) : Prop := va_K (z_D Γ) vwCl (z_T Γ) U ∧ (∀ w ∈ NW, va_Nw w U) ∧ z_Ex Γ U H
theorem z_nw {w : Cond} (hw : isNw w = true) {s U : State} (hW : s.WarmedH U.vm) (h : va_Nw w s) : va_Nw w U := by
  cases w with
  | fieldLinkNest a i b n d h' => exact va_Nw.warmF hW h
  | methodLinkNest a i x h' => exact va_Nw.warmM hW h
  | _ => cases hw
theorem z_Kx.pass {Γ : Zg} {s U : State} {H : Heap} {locs : List Loc} (h : z_Kx Γ s s.heap) (hS : va_S (z_A Γ) s.heap H locs) (hU : U.heap = H) (hW : s.WarmedH U.vm) : z_Kx Γ U U.heap := by
  obtain ⟨hK, hN, h1, h2, h3, h4, h5, h6⟩ := h
  rw [hU]
  refine ⟨va_K.moved hW.alike hK, fun w hw => z_nw (List.mem_filter.mp hw).2 hW (hN w hw), vk_S.moved hW.alike (h1.kept hS.2.1), ?_, va_Z.moved hW.alike (h3.kept hS.2.1), va_Z.moved hW.alike (h4.kept hS.2.1), va_T.moved hW.alike (h5.kept hS.2.1), va_Zq.moved hW.alike (h6.kept hS.2.1)⟩
  obtain ⟨a0, a1, a2, a3, a4, a5, a6, a7, a8, a9⟩ := h2
  exact ⟨a0.warm hW, a1.warm hW, a2.warm hW, a3.warm hW, a4.warm hW, a5.warm hW, a6.warm hW, a7.warm hW, a8.warm hW, a9.warm hW⟩
def z_Gk (Γ : Zg) : Prop := (∀ a, z_Is Γ 3 a → z_Ia Γ 14 6 (z_r Γ a 0) ∧ z_Ia Γ 16 8 (z_r Γ a 1)) ∧ (∀ a, z_Is Γ 5 a → z_Ia Γ 13 40 (z_r Γ a 0)) ∧ (∀ a, z_Is Γ 7 a → z_Ia Γ 12 120 (z_r Γ a 0)) ∧ (∀ a, z_Is Γ 10 a → z_Is Γ 3 (z_r Γ a 0) ∧ z_Is Γ 3 (z_r Γ a 1) ∧ z_Is Γ 3 (z_r Γ a 2) ∧ z_Is Γ 7 (z_r Γ a 4) ∧ z_Ia Γ 15 4 (z_r Γ a 5) ∧ z_Ia Γ 12 7 (z_r Γ a 6) ∧ z_Ia Γ 12 10 (z_r Γ a 7)) ∧ (∀ a, z_Is Γ 11 a → z_Ia Γ 12 52 (z_r Γ a 0) ∧ z_Ia Γ 12 52 (z_r Γ a 1) ∧ z_Ia Γ 12 52 (z_r Γ a 2) ∧ z_Ia Γ 12 52 (z_r Γ a 3) ∧ z_Ia Γ 12 8 (z_r Γ a 5) ∧ z_Ia Γ 12 120 (z_r Γ a 6) ∧ z_Ia Γ 12 4 (z_r Γ a 8) ∧ z_Ia Γ 12 4 (z_r Γ a 9) ∧ z_Ia Γ 13 160 (z_r Γ a 10)) ∧ (∀ a, z_Is Γ 14 a → ∀ j, j < z_n Γ a → z_Ip Γ (z_r Γ a j)) ∧ (∀ a, z_Is Γ 15 a → ∀ j, j < z_n Γ a → z_Is Γ 5 (z_r Γ a j)) ∧ (∀ a, z_Is Γ 16 a → ∀ j, j < z_n Γ a → z_Is Γ 8 (z_r Γ a j))
theorem z_g3_0 {Γ : Zg} (g : z_Gk Γ) {a : Nat} (h : z_Is Γ 3 a) : z_Ia Γ 14 6 (z_r Γ a 0) := (g.1 a h).1
theorem z_g3_1 {Γ : Zg} (g : z_Gk Γ) {a : Nat} (h : z_Is Γ 3 a) : z_Ia Γ 16 8 (z_r Γ a 1) := (g.1 a h).2
theorem z_g5_0 {Γ : Zg} (g : z_Gk Γ) {a : Nat} (h : z_Is Γ 5 a) : z_Ia Γ 13 40 (z_r Γ a 0) := (g.2.1 a h)
theorem z_g7_0 {Γ : Zg} (g : z_Gk Γ) {a : Nat} (h : z_Is Γ 7 a) : z_Ia Γ 12 120 (z_r Γ a 0) := (g.2.2.1 a h)
theorem z_g10_0 {Γ : Zg} (g : z_Gk Γ) {a : Nat} (h : z_Is Γ 10 a) : z_Is Γ 3 (z_r Γ a 0) := (g.2.2.2.1 a h).1
theorem z_g10_1 {Γ : Zg} (g : z_Gk Γ) {a : Nat} (h : z_Is Γ 10 a) : z_Is Γ 3 (z_r Γ a 1) := (g.2.2.2.1 a h).2.1
theorem z_g10_2 {Γ : Zg} (g : z_Gk Γ) {a : Nat} (h : z_Is Γ 10 a) : z_Is Γ 3 (z_r Γ a 2) := (g.2.2.2.1 a h).2.2.1
theorem z_g10_4 {Γ : Zg} (g : z_Gk Γ) {a : Nat} (h : z_Is Γ 10 a) : z_Is Γ 7 (z_r Γ a 4) := (g.2.2.2.1 a h).2.2.2.1
theorem z_g10_5 {Γ : Zg} (g : z_Gk Γ) {a : Nat} (h : z_Is Γ 10 a) : z_Ia Γ 15 4 (z_r Γ a 5) := (g.2.2.2.1 a h).2.2.2.2.1
theorem z_g10_6 {Γ : Zg} (g : z_Gk Γ) {a : Nat} (h : z_Is Γ 10 a) : z_Ia Γ 12 7 (z_r Γ a 6) := (g.2.2.2.1 a h).2.2.2.2.2.1
theorem z_g10_7 {Γ : Zg} (g : z_Gk Γ) {a : Nat} (h : z_Is Γ 10 a) : z_Ia Γ 12 10 (z_r Γ a 7) := (g.2.2.2.1 a h).2.2.2.2.2.2
theorem z_g11_0 {Γ : Zg} (g : z_Gk Γ) {a : Nat} (h : z_Is Γ 11 a) : z_Ia Γ 12 52 (z_r Γ a 0) := (g.2.2.2.2.1 a h).1
theorem z_g11_1 {Γ : Zg} (g : z_Gk Γ) {a : Nat} (h : z_Is Γ 11 a) : z_Ia Γ 12 52 (z_r Γ a 1) := (g.2.2.2.2.1 a h).2.1
theorem z_g11_2 {Γ : Zg} (g : z_Gk Γ) {a : Nat} (h : z_Is Γ 11 a) : z_Ia Γ 12 52 (z_r Γ a 2) := (g.2.2.2.2.1 a h).2.2.1
theorem z_g11_3 {Γ : Zg} (g : z_Gk Γ) {a : Nat} (h : z_Is Γ 11 a) : z_Ia Γ 12 52 (z_r Γ a 3) := (g.2.2.2.2.1 a h).2.2.2.1
theorem z_g11_5 {Γ : Zg} (g : z_Gk Γ) {a : Nat} (h : z_Is Γ 11 a) : z_Ia Γ 12 8 (z_r Γ a 5) := (g.2.2.2.2.1 a h).2.2.2.2.1
theorem z_g11_6 {Γ : Zg} (g : z_Gk Γ) {a : Nat} (h : z_Is Γ 11 a) : z_Ia Γ 12 120 (z_r Γ a 6) := (g.2.2.2.2.1 a h).2.2.2.2.2.1
theorem z_g11_8 {Γ : Zg} (g : z_Gk Γ) {a : Nat} (h : z_Is Γ 11 a) : z_Ia Γ 12 4 (z_r Γ a 8) := (g.2.2.2.2.1 a h).2.2.2.2.2.2.1
theorem z_g11_9 {Γ : Zg} (g : z_Gk Γ) {a : Nat} (h : z_Is Γ 11 a) : z_Ia Γ 12 4 (z_r Γ a 9) := (g.2.2.2.2.1 a h).2.2.2.2.2.2.2.1
theorem z_g11_10 {Γ : Zg} (g : z_Gk Γ) {a : Nat} (h : z_Is Γ 11 a) : z_Ia Γ 13 160 (z_r Γ a 10) := (g.2.2.2.2.1 a h).2.2.2.2.2.2.2.2
theorem z_g14 {Γ : Zg} (g : z_Gk Γ) {a n : Nat} (h : z_Ia Γ 14 n a) {i : Int32} (hi : vp_in i n) : z_Ip Γ (z_r Γ a i.toNatClampNeg) := g.2.2.2.2.2.1 a h.1 _ (by rw [h.2]; exact Nat.not_le.mp fun q => hi (Or.inr q))
theorem z_g15 {Γ : Zg} (g : z_Gk Γ) {a n : Nat} (h : z_Ia Γ 15 n a) {i : Int32} (hi : vp_in i n) : z_Is Γ 5 (z_r Γ a i.toNatClampNeg) := g.2.2.2.2.2.2.1 a h.1 _ (by rw [h.2]; exact Nat.not_le.mp fun q => hi (Or.inr q))
theorem z_g16 {Γ : Zg} (g : z_Gk Γ) {a n : Nat} (h : z_Ia Γ 16 n a) {i : Int32} (hi : vp_in i n) : z_Is Γ 8 (z_r Γ a i.toNatClampNeg) := g.2.2.2.2.2.2.2 a h.1 _ (by rw [h.2]; exact Nat.not_le.mp fun q => hi (Or.inr q))
/-- the world: the cells hold the memory M; since H0 nothing else has changed -/
def z_Wd (Γ : Zg) (M : Zm) (H0 H : Heap) (locs : List Loc) : Prop := va_P (z_D Γ) vwCl (va_pl (z_L Γ) (z_wc Γ M)) H ∧ va_D (z_A Γ) (va_pl (z_L Γ) (z_wc Γ M)) ∧ va_S (z_A Γ) H0 H locs
/-- what stands still while a method runs -/
def z_Bd (Γ : Zg) (p : Program) (s : State) (m : MethodId) (args : Array Value) (meth : Method) (c : Code) (cc : ByteArray) (mL : Nat) (ret : Option FieldType) (own : String) : Prop :=
  p.tables.exec = Jvm.exec ∧ c.code = cc ∧ c.maxLocals = mL ∧ s.vm.findClass own = some m.cls ∧ (∀ w ∈ BIG, w.before args s = true) ∧ z_Kx Γ s s.heap ∧ z_Gk Γ ∧ meth.sig.returnType = ret ∧ meth.locks = false
def z_rm (fr lo : Nat) : Room := { frames := fr, cells := 0, slots := 0, locals := lo }
def z_Qc (Γ : Zg) (o : Option Value) (M : Zm) : Array Value → State → Outcome → State → Prop := fun _ st oc t => oc = .returned o ∧ va_P (z_D Γ) vwCl (va_pl (z_L Γ) (z_wc Γ M)) t.heap ∧ va_D (z_A Γ) (va_pl (z_L Γ) (z_wc Γ M)) ∧ va_F (z_A Γ) st t
def z_Q (Γ : Zg) (below : List Frame) (args : Array Value) (s : State) (o : Option Value) (M : Zm) : State → Prop := MQ below (z_Qc Γ o M) args s 0 0 (z_A Γ)
def z_Fn (l : Launch) (Γ : Zg) (y : MethodName) (cc : ByteArray) (mL : Nat) (ret : Option FieldType) (fr lo : Nat) (av : List Value) (M : Zm) (o : Option Value) (M' : Zm) : Prop :=
  Met l y (.code y cc mL ret :: BIG) (z_rm fr lo) (va_Pc av (fun U => va_P (z_D Γ) vwCl (va_pl (z_L Γ) (z_wc Γ M)) U.heap ∧ va_D (z_A Γ) (va_pl (z_L Γ) (z_wc Γ M)) ∧ z_Kx Γ U U.heap ∧ z_Gk Γ)) (z_Qc Γ o M') 0 0 (z_A Γ)
/-- a method's contract out of its walk -/
theorem z_Fn.of {l : Launch} {Γ : Zg} {y : MethodName} {cc : ByteArray} {mL : Nat} {ret : Option FieldType} {fr lo : Nat} {av : List Value} {M : Zm} {o : Option Value} {M' : Zm} (hy : plainName y.cls = true) (hn : (lg_sl av).length ≤ mL)
    (body : ∀ (p : Program) (e : Env) (s : State) (m : MethodId) (below : List Frame) (meth : Method) (c : Code) (ls : Array Slot), z_Bd Γ p s m av.toArray meth c cc mL ret y.cls → z_Wd Γ M s.heap s.heap [] → lv_has ls mL (lv_args 0 av) → W p l e (z_rm fr lo) s m av.toArray below meth c s.heap [] 0 0 (z_Q Γ below av.toArray s o M') (F0 m 0 ls [])) : z_Fn l Γ y cc mL ret fr lo av M o M' := by
  refine Met.ofW (cc := cc) (maxL := mL) (ret := ret) hy rfl ?_
  intro p e s m args below meth c s₁ B hml hv
  obtain ⟨rfl, hP, hD, hK, hG⟩ := hv
  have hts := atoms_spec (ws := .code y cc mL ret :: BIG) B.pre
  rw [lg_entry_eq]
  exact body p e s m below meth c _ ⟨B.exec, B.bytes, hml, findClass_of_methodNamed B.named, fun w hw => hts w (List.mem_cons_of_mem _ hw), hK, hG, B.returns, B.notSynchronized⟩ ⟨hP, hD, va_S.rf⟩ (lv_entry av hn)
/-! shallow glue -/
def z_ix (i : Int32) (n : Nat) : Bool := !(decide (i < 0) || decide (n ≤ i.toNatClampNeg))
theorem z_ixd {i : Int32} {n : Nat} (h : z_ix i n = true) : vp_in i n := by
  intro q
  unfold z_ix at h
  rcases q with q | q <;> simp [q] at h
def z_lt {α β : Type} (x : α) (f : α → β) : β := f x
def z_lp {α β γ : Type} (x : α × β) (f : α → β → γ) : γ := f x.1 x.2
def z_bp {α β γ : Type} (x : Option (α × β)) (f : α → β → Option γ) : Option γ := x.bind fun q => f q.1 q.2
theorem z_le {α β : Type} {x : α} {f : α → β} {r : β} (h : z_lt x f = r) : ∃ v, x = v ∧ f v = r := ⟨x, rfl, h⟩
theorem z_lpe {α β γ : Type} {x : α × β} {f : α → β → γ} {r : γ} (h : z_lp x f = r) : ∃ a b, x = (a, b) ∧ f a b = r := ⟨x.1, x.2, rfl, h⟩
theorem z_bd {α β : Type} {x : Option α} {f : α → Option β} {r : β} (h : x.bind f = some r) : ∃ v, x = some v ∧ f v = some r := by
  cases x with
  | none => cases h
  | some v => exact ⟨v, rfl, h⟩
theorem z_bpe {α β γ : Type} {x : Option (α × β)} {f : α → β → Option γ} {r : γ} (h : z_bp x f = some r) : ∃ a b, x = some (a, b) ∧ f a b = some r := by
  cases x with
  | none => cases h
  | some v => exact ⟨v.1, v.2, rfl, h⟩
theorem z_it {c : Prop} {i : Decidable c} {α : Type} {a b r : α} (hc : c) (h : @ite α c i a b = r) : a = r := by rw [if_pos hc] at h; exact h
theorem z_if {c : Prop} {i : Decidable c} {α : Type} {a b r : α} (hc : ¬ c) (h : @ite α c i a b = r) : b = r := by rw [if_neg hc] at h; exact h
theorem z_gd {i : Int32} {n : Nat} {α : Type} {x : Option α} {r : α} (h : (if z_ix i n = true then x else none) = some r) : vp_in i n ∧ x = some r := by
  by_cases g : z_ix i n = true
  · rw [if_pos g] at h; exact ⟨z_ixd g, h⟩
  · rw [if_neg g] at h; cases h
theorem z_gp {c : Prop} {i : Decidable c} {α : Type} {x : Option α} {r : α} (h : @ite (Option α) c i x none = some r) : c ∧ x = some r := by
  by_cases g : c
  · rw [if_pos g] at h; exact ⟨g, h⟩
  · rw [if_neg g] at h; cases h
theorem z_nz {x : Int32} (h : x = 0 ∨ x = 1) : narrow .boolean (.int x) = .int x := by rcases h with rfl | rfl <;> decide
theorem z_fz {x : Int32} (h : x = 0 ∨ x = 1) : fits .boolean (.int x) = true := by rcases h with rfl | rfl <;> decide
theorem z_nei {x y : Int32} (k : Int) (hy : y.toInt = k) (h : ¬ x = y) : x.toInt ≠ k := fun e => h (Int32.toInt_inj.mp (e.trans hy.symm))
section ZROWS
variable {p : Program} {l : Launch} {e : Env} {R : Room} {s : State} {m : MethodId} {args : Array Value} {below : List Frame} {meth : Method} {c : Code} {H : Heap} {locs : List Loc} {cells slots : Nat} {Q : State → Prop} {cc : ByteArray} {pc : Nat} {ls : Array Slot} {rest : List Value} {Γ : Zg} {M : Zm} {a mL : Nat} {ret : Option FieldType} {own : String}
theorem z_at (hW : z_Wd Γ M s.heap H locs) (ha : a ∈ z_L Γ) {x : va_E} (hc : z_wc Γ M a = x) : ∃ q : Nat, (va_pl (z_L Γ) (z_wc Γ M))[q]? = some (a, x) := by
  obtain ⟨q, hq⟩ := va_pl_get (X := []) (f := z_wc Γ M) ha
  exact ⟨q, by rw [← hc]; exact hq⟩
theorem z_up {M' : Zm} {x : va_E} {q : Nat} (hD : va_D (z_A Γ) (va_pl (z_L Γ) (z_wc Γ M))) (ha : a ∈ z_L Γ) (hq : (va_pl (z_L Γ) (z_wc Γ M))[q]? = some (a, z_wc Γ M a)) (hx : z_wc Γ M' a = x) (hne : ∀ b, b ≠ a → z_wc Γ M' b = z_wc Γ M b) : (va_pl (z_L Γ) (z_wc Γ M)).set q (a, x) = va_pl (z_L Γ) (z_wc Γ M') := by
  have h1 := va_pl_set (X := []) (e := x) hD ha hq
  refine Eq.trans h1 (va_pl_congr fun b => ?_)
  by_cases hb : b = a
  · subst hb
    rw [va_up_self, hx]
  · rw [va_up_ne _ _ hb, hne b hb]
theorem z_gf (B : z_Bd Γ p s m args meth c cc mL ret own) (hW : z_Wd Γ M s.heap H locs) (ha : a ∈ z_L Γ) {ci k N index : Nat} {C ref : String} {T : u_T} {fs : List Value} (hc : z_wc Γ M a = .inr (ci, fs)) (hcl : vwCl[ci]? = some (C, T, N)) (hin : ∀ w ∈ u_ws C T N, w ∈ BIG) (hk : k < N) (hl : Cond.fieldLink own index ref (T k).2.1 (T k).2.2.1 ∈ BIG) (href : (T k).1 = ref) {v : Value} (hv : fs[k]? = some v) (hdg : decode cc pc = .ok (.getfield index, 3))
    (kk : W p l e R s m args below meth c H locs cells slots Q (F0 m (pc + 3) ls (v :: rest))) : W p l e R s m args below meth c H locs cells slots Q (F0 m pc ls (.ref a :: rest)) := by
  obtain ⟨q, hq⟩ := z_at hW ha hc
  subst href
  exact va_get (C := C) (T := T) (N := N) B.1 B.2.1 (Ts := BIG) B.2.2.2.2.1 hin B.2.2.2.1 B.2.2.2.2.2.1.1 hW.1 q hq hcl k hk (B.2.2.2.2.1 _ hl) (fun _ h => h) hv hdg kk
theorem z_pf (B : z_Bd Γ p s m args meth c cc mL ret own) (hW : z_Wd Γ M s.heap H locs) (ha : a ∈ z_L Γ) {ci k N index : Nat} {C ref : String} {T : u_T} {fs : List Value} (hc : z_wc Γ M a = .inr (ci, fs)) (hcl : vwCl[ci]? = some (C, T, N)) (hin : ∀ w ∈ u_ws C T N, w ∈ BIG) (ty0 : Nat → FieldType) (hty : ∀ k, k < N → parseFieldDescriptor (T k).2.2.1 = some (ty0 k)) (hnm : ∀ a, a < N → ∀ b, b < N → a ≠ b → (T a).2.1 ≠ (T b).2.1) (hk : k < N) (hl : Cond.fieldLink own index ref (T k).2.1 (T k).2.2.1 ∈ BIG) (href : (T k).1 = ref) (hfin : (T k).2.2.2 = false) {ty : FieldType} {v : Value} {M' : Zm} (hd : parseFieldDescriptor (T k).2.2.1 = some ty) (hn : narrow ty v = v) (hfit : fits ty v = true) (hlen : k < fs.length) (hM : z_wc Γ M' a = .inr (ci, fs.set k v)) (hne : ∀ b, b ≠ a → z_wc Γ M' b = z_wc Γ M b) (hdg : decode cc pc = .ok (.putfield index, 3))
    (kk : ∀ (H1 : Heap) (locs1 : List Loc), z_Wd Γ M' s.heap H1 locs1 → W p l e R s m args below meth c H1 locs1 cells slots Q (F0 m (pc + 3) ls (rest))) : W p l e R s m args below meth c H locs cells slots Q (F0 m pc ls (v :: .ref a :: rest)) := by
  obtain ⟨q, hq⟩ := z_at hW ha rfl
  subst href
  refine va_put (C := C) (T := T) (N := N) B.1 B.2.1 (Ts := BIG) B.2.2.2.2.1 hin ty0 hty hnm B.2.2.2.1 B.2.2.2.2.2.1.1 hW.1 hW.2.1 hW.2.2 q (by rw [hq, hc]) hcl k hk (B.2.2.2.2.1 _ hl) (fun _ h => h) hfin hd hn hfit hlen hdg (fun H1 locs1 h1 h2 h3 => kk H1 locs1 ?_)
  have e := z_up hW.2.1 ha hq hM hne
  rw [e] at h1 h2
  exact ⟨h1, h2, h3⟩
theorem z_gfN (B : z_Bd Γ p s m args meth c cc mL ret own) (hW : z_Wd Γ M s.heap H locs) (ha : a ∈ z_L Γ) {ci k N index : Nat} {C ref host : String} {T : u_T} {fs : List Value} (hc : z_wc Γ M a = .inr (ci, fs)) (hcl : vwCl[ci]? = some (C, T, N)) (hin : ∀ w ∈ u_ws C T N, w ∈ BIG) (hk : k < N) (hl : Cond.fieldLinkNest own index ref (T k).2.1 (T k).2.2.1 host ∈ NW) (href : (T k).1 = ref) {v : Value} (hv : fs[k]? = some v) (hdg : decode cc pc = .ok (.getfield index, 3))
    (kk : W p l e R s m args below meth c H locs cells slots Q (F0 m (pc + 3) ls (v :: rest))) : W p l e R s m args below meth c H locs cells slots Q (F0 m pc ls (.ref a :: rest)) := by
  obtain ⟨q, hq⟩ := z_at hW ha hc
  subst href
  exact va_getN (C := C) (T := T) (N := N) B.1 B.2.1 (Ts := BIG) B.2.2.2.2.1 hin B.2.2.2.1 B.2.2.2.2.2.1.1 hW.1 q hq hcl k hk (va_Nw.use rfl (B.2.2.2.2.2.1.2.1 _ hl)) (fun _ h => h) hv hdg kk
theorem z_pfN (B : z_Bd Γ p s m args meth c cc mL ret own) (hW : z_Wd Γ M s.heap H locs) (ha : a ∈ z_L Γ) {ci k N index : Nat} {C ref host : String} {T : u_T} {fs : List Value} (hc : z_wc Γ M a = .inr (ci, fs)) (hcl : vwCl[ci]? = some (C, T, N)) (hin : ∀ w ∈ u_ws C T N, w ∈ BIG) (ty0 : Nat → FieldType) (hty : ∀ k, k < N → parseFieldDescriptor (T k).2.2.1 = some (ty0 k)) (hnm : ∀ a, a < N → ∀ b, b < N → a ≠ b → (T a).2.1 ≠ (T b).2.1) (hk : k < N) (hl : Cond.fieldLinkNest own index ref (T k).2.1 (T k).2.2.1 host ∈ NW) (href : (T k).1 = ref) (hfin : (T k).2.2.2 = false) {ty : FieldType} {v : Value} {M' : Zm} (hd : parseFieldDescriptor (T k).2.2.1 = some ty) (hn : narrow ty v = v) (hfit : fits ty v = true) (hlen : k < fs.length) (hM : z_wc Γ M' a = .inr (ci, fs.set k v)) (hne : ∀ b, b ≠ a → z_wc Γ M' b = z_wc Γ M b) (hdg : decode cc pc = .ok (.putfield index, 3))
    (kk : ∀ (H1 : Heap) (locs1 : List Loc), z_Wd Γ M' s.heap H1 locs1 → W p l e R s m args below meth c H1 locs1 cells slots Q (F0 m (pc + 3) ls (rest))) : W p l e R s m args below meth c H locs cells slots Q (F0 m pc ls (v :: .ref a :: rest)) := by
  obtain ⟨q, hq⟩ := z_at hW ha rfl
  subst href
  refine va_putN (C := C) (T := T) (N := N) B.1 B.2.1 (Ts := BIG) B.2.2.2.2.1 hin ty0 hty hnm B.2.2.2.1 B.2.2.2.2.2.1.1 hW.1 hW.2.1 hW.2.2 q (by rw [hq, hc]) hcl k hk (va_Nw.use rfl (B.2.2.2.2.2.1.2.1 _ hl)) (fun _ h => h) hfin hd hn hfit hlen hdg (fun H1 locs1 h1 h2 h3 => kk H1 locs1 ?_)
  have e := z_up hW.2.1 ha hq hM hne
  rw [e] at h1 h2
  exact ⟨h1, h2, h3⟩
theorem z_ia (B : z_Bd Γ p s m args meth c cc mL ret own) (hW : z_Wd Γ M s.heap H locs) {n : Nat} (ha : z_Ia Γ 12 n a) {i : Int32} (hi : vp_in i n) (hdg : decode cc pc = .ok (.iaload, 1)) (kk : W p l e R s m args below meth c H locs cells slots Q (F0 m (pc + 1) ls (.int (M.1 a i.toNatClampNeg) :: rest))) : W p l e R s m args below meth c H locs cells slots Q (F0 m pc ls (.int i :: .ref a :: rest)) := by
  obtain ⟨q, hq⟩ := z_at hW ha.1.1 (z_wc12 ha.1.2)
  obtain ⟨-, rfl⟩ := ha
  exact va_iald B.1 B.2.1 B.2.2.2.2.2.1.1 hW.1 q 0 hq rfl hi hdg kk
theorem z_is (B : z_Bd Γ p s m args meth c cc mL ret own) (hW : z_Wd Γ M s.heap H locs) {n : Nat} (ha : z_Ia Γ 12 n a) {i x : Int32} (hi : vp_in i n) (hdg : decode cc pc = .ok (.iastore, 1)) (kk : ∀ (H1 : Heap) (locs1 : List Loc), z_Wd Γ (z_i M a i.toNatClampNeg x) s.heap H1 locs1 → W p l e R s m args below meth c H1 locs1 cells slots Q (F0 m (pc + 1) ls (rest))) : W p l e R s m args below meth c H locs cells slots Q (F0 m pc ls (.int x :: .int i :: .ref a :: rest)) := by
  obtain ⟨q, hq⟩ := z_at hW ha.1.1 rfl
  obtain ⟨⟨h0, h1⟩, rfl⟩ := ha
  refine va_iast B.1 B.2.1 B.2.2.2.2.2.1.1 hW.1 hW.2.1 hW.2.2 q 0 (by rw [hq, z_wc12 h1]) rfl hi hdg (fun H1 locs1 g1 g2 g3 => kk H1 locs1 ?_)
  have e := z_up (M' := z_i M a i.toNatClampNeg x) hW.2.1 h0 hq (by rw [z_wc12 h1, z_i_eq]) (fun b hb => z_wc_ne (z_i_ne hb) rfl)
  rw [e] at g1 g2
  exact ⟨g1, g2, g3⟩
theorem z_la (B : z_Bd Γ p s m args meth c cc mL ret own) (hW : z_Wd Γ M s.heap H locs) {n : Nat} (ha : z_Ia Γ 13 n a) {i : Int32} (hi : vp_in i n) (hdg : decode cc pc = .ok (.laload, 1)) (kk : W p l e R s m args below meth c H locs cells slots Q (F0 m (pc + 1) ls (.long (M.2 a i.toNatClampNeg) :: rest))) : W p l e R s m args below meth c H locs cells slots Q (F0 m pc ls (.int i :: .ref a :: rest)) := by
  obtain ⟨q, hq⟩ := z_at hW ha.1.1 (z_wc13 ha.1.2)
  obtain ⟨-, rfl⟩ := ha
  exact va_lald B.1 B.2.1 B.2.2.2.2.2.1.1 hW.1 q 1 hq rfl hi hdg kk
theorem z_ls (B : z_Bd Γ p s m args meth c cc mL ret own) (hW : z_Wd Γ M s.heap H locs) {n : Nat} (ha : z_Ia Γ 13 n a) {i : Int32} {x : Int64} (hi : vp_in i n) (hdg : decode cc pc = .ok (.lastore, 1)) (kk : ∀ (H1 : Heap) (locs1 : List Loc), z_Wd Γ (z_l M a i.toNatClampNeg x) s.heap H1 locs1 → W p l e R s m args below meth c H1 locs1 cells slots Q (F0 m (pc + 1) ls (rest))) : W p l e R s m args below meth c H locs cells slots Q (F0 m pc ls (.long x :: .int i :: .ref a :: rest)) := by
  obtain ⟨q, hq⟩ := z_at hW ha.1.1 rfl
  obtain ⟨⟨h0, h1⟩, rfl⟩ := ha
  refine va_last B.1 B.2.1 B.2.2.2.2.2.1.1 hW.1 hW.2.1 hW.2.2 q 1 (by rw [hq, z_wc13 h1]) rfl hi hdg (fun H1 locs1 g1 g2 g3 => kk H1 locs1 ?_)
  have e := z_up (M' := z_l M a i.toNatClampNeg x) hW.2.1 h0 hq (by rw [z_wc13 h1, z_l_eq]) (fun b hb => z_wc_ne rfl (z_l_ne hb))
  rw [e] at g1 g2
  exact ⟨g1, g2, g3⟩
theorem z_aa14 (B : z_Bd Γ p s m args meth c cc mL ret own) (hW : z_Wd Γ M s.heap H locs) {n : Nat} (ha : z_Ia Γ 14 n a) {i : Int32} (hi : vp_in i n) (hdg : decode cc pc = .ok (.aaload, 1)) (kk : W p l e R s m args below meth c H locs cells slots Q (F0 m (pc + 1) ls (.ref (z_r Γ a i.toNatClampNeg) :: rest))) : W p l e R s m args below meth c H locs cells slots Q (F0 m pc ls (.int i :: .ref a :: rest)) := by
  obtain ⟨q, hq⟩ := z_at hW ha.1.1 (z_wc14 ha.1.2)
  obtain ⟨-, rfl⟩ := ha
  exact va_aldq B.1 B.2.1 B.2.2.2.2.2.1.1 hW.1 q 2 hq rfl hi hdg kk
theorem z_aa15 (B : z_Bd Γ p s m args meth c cc mL ret own) (hW : z_Wd Γ M s.heap H locs) {n : Nat} (ha : z_Ia Γ 15 n a) {i : Int32} (hi : vp_in i n) (hdg : decode cc pc = .ok (.aaload, 1)) (kk : W p l e R s m args below meth c H locs cells slots Q (F0 m (pc + 1) ls (.ref (z_r Γ a i.toNatClampNeg) :: rest))) : W p l e R s m args below meth c H locs cells slots Q (F0 m pc ls (.int i :: .ref a :: rest)) := by
  obtain ⟨q, hq⟩ := z_at hW ha.1.1 (z_wc15 ha.1.2)
  obtain ⟨-, rfl⟩ := ha
  exact va_aldq B.1 B.2.1 B.2.2.2.2.2.1.1 hW.1 q 3 hq rfl hi hdg kk
theorem z_aa16 (B : z_Bd Γ p s m args meth c cc mL ret own) (hW : z_Wd Γ M s.heap H locs) {n : Nat} (ha : z_Ia Γ 16 n a) {i : Int32} (hi : vp_in i n) (hdg : decode cc pc = .ok (.aaload, 1)) (kk : W p l e R s m args below meth c H locs cells slots Q (F0 m (pc + 1) ls (.ref (z_r Γ a i.toNatClampNeg) :: rest))) : W p l e R s m args below meth c H locs cells slots Q (F0 m pc ls (.int i :: .ref a :: rest)) := by
  obtain ⟨q, hq⟩ := z_at hW ha.1.1 (z_wc16 ha.1.2)
  obtain ⟨-, rfl⟩ := ha
  exact va_aldq B.1 B.2.1 B.2.2.2.2.2.1.1 hW.1 q 4 hq rfl hi hdg kk
theorem z_acp (B : z_Bd Γ p s m args meth c cc mL ret own) (hW : z_Wd Γ M s.heap H locs) (hsz : ls.size = mL) {a0 n0 n1 index : Nat} (h0 : z_Ia Γ 13 n0 a0) (h1 : z_Ia Γ 13 n1 a) (hl : (Cond.methodLink own index arraycopyName).before args s = true) (hnat : (Cond.native arraycopyName).before args s = true) (hstat : (Cond.static arraycopyName).before args s = true) (hini : (Cond.initialized "java/lang/System").before args s = true) {sp dp n : Int32} (g1 : ¬ sp < 0) (g2 : ¬ dp < 0) (g3 : ¬ n < 0) (g4 : sp.toNatClampNeg + n.toNatClampNeg ≤ n0) (g5 : dp.toNatClampNeg + n.toNatClampNeg ≤ n1) (hframes : 1 ≤ R.frames) (hlocals : (rest.map fun v => v.category).sum + (nativeFrameWords "java/lang/System" "arraycopy" 5 + 11) ≤ R.locals) (hdg : decode cc pc = .ok (.invokestatic index, 3)) (kk : ∀ (H1 : Heap) (locs1 : List Loc), z_Wd Γ (z_cp M a0 a sp.toNatClampNeg dp.toNatClampNeg n.toNatClampNeg) s.heap H1 locs1 → W p l e R s m args below meth c H1 locs1 cells slots Q (F0 m (pc + 3) ls (rest))) : W p l e R s m args below meth c H locs cells slots Q (F0 m pc ls (.int n :: .int dp :: .ref a :: .int sp :: .ref a0 :: rest)) := by
  obtain ⟨q0, hq0⟩ := z_at hW h0.1.1 (z_wc13 h0.1.2)
  obtain ⟨q, hq⟩ := z_at hW h1.1.1 rfl
  obtain ⟨-, rfl⟩ := h0
  obtain ⟨⟨i0, i1⟩, rfl⟩ := h1
  refine va_copyl B.1 B.2.1 (by rw [hsz]; exact B.2.2.1) B.2.2.2.1 hl hnat hstat hini B.2.2.2.2.2.1.1 hW.1 hW.2.1 hW.2.2 q0 q 1 1 (ty := .long) hq0 (by rw [hq, z_wc13 i1]) rfl rfl rfl g1 g2 g3 g4 g5 (fun _ _ => rfl) hframes hlocals hdg (fun H1 locs1 k1 k2 k3 => kk H1 locs1 ?_)
  have e := z_up (M' := z_cp M a0 a sp.toNatClampNeg dp.toNatClampNeg n.toNatClampNeg) hW.2.1 i0 hq (by rw [z_wc13 i1, z_cp_eq]) (fun b hb => z_wc_ne rfl (va_up_ne _ _ hb))
  rw [e] at k1 k2
  exact ⟨k1, k2, k3⟩
end ZROWS
section ZF
variable {p : Program} {l : Launch} {e : Env} {R : Room} {s : State} {m : MethodId} {args : Array Value} {below : List Frame} {meth : Method} {c : Code} {H : Heap} {locs : List Loc} {cells slots : Nat} {Q : State → Prop} {cc : ByteArray} {pc : Nat} {ls : Array Slot} {rest : List Value} {Γ : Zg} {M : Zm} {a mL : Nat} {ret : Option FieldType} {own : String}
theorem z_get_10_1 (B : z_Bd Γ p s m args meth c cc mL ret own) (hW : z_Wd Γ M s.heap H locs) (ha : z_Is Γ 10 a) {index : Nat} (hl : Cond.fieldLink own index "WhisperSeats" "ahead" "LWhisperSeats$Park;" ∈ BIG) (hdg : decode cc pc = .ok (.getfield index, 3)) (kk : W p l e R s m args below meth c H locs cells slots Q (F0 m (pc + 3) ls (.ref (z_r Γ a 1) :: rest))) : W p l e R s m args below meth c H locs cells slots Q (F0 m pc ls (.ref a :: rest)) := z_gf (ci := 10) (k := 1) (C := RX10) (T := TX10) (N := 8) B hW ha.1 (z_wc10 ha.2) rfl iX10 (by decide) hl rfl rfl hdg kk
theorem z_get_10_6 (B : z_Bd Γ p s m args meth c cc mL ret own) (hW : z_Wd Γ M s.heap H locs) (ha : z_Is Γ 10 a) {index : Nat} (hl : Cond.fieldLink own index "WhisperSeats" "findings" "[I" ∈ BIG) (hdg : decode cc pc = .ok (.getfield index, 3)) (kk : W p l e R s m args below meth c H locs cells slots Q (F0 m (pc + 3) ls (.ref (z_r Γ a 6) :: rest))) : W p l e R s m args below meth c H locs cells slots Q (F0 m pc ls (.ref a :: rest)) := z_gf (ci := 10) (k := 6) (C := RX10) (T := TX10) (N := 8) B hW ha.1 (z_wc10 ha.2) rfl iX10 (by decide) hl rfl rfl hdg kk
theorem z_get_10_0 (B : z_Bd Γ p s m args meth c cc mL ret own) (hW : z_Wd Γ M s.heap H locs) (ha : z_Is Γ 10 a) {index : Nat} (hl : Cond.fieldLink own index "WhisperSeats" "here" "LWhisperSeats$Park;" ∈ BIG) (hdg : decode cc pc = .ok (.getfield index, 3)) (kk : W p l e R s m args below meth c H locs cells slots Q (F0 m (pc + 3) ls (.ref (z_r Γ a 0) :: rest))) : W p l e R s m args below meth c H locs cells slots Q (F0 m pc ls (.ref a :: rest)) := z_gf (ci := 10) (k := 0) (C := RX10) (T := TX10) (N := 8) B hW ha.1 (z_wc10 ha.2) rfl iX10 (by decide) hl rfl rfl hdg kk
theorem z_get_10_3 (B : z_Bd Γ p s m args meth c cc mL ret own) (hW : z_Wd Γ M s.heap H locs) (ha : z_Is Γ 10 a) {index : Nat} (hl : Cond.fieldLink own index "WhisperSeats" "isKept" "Z" ∈ BIG) (hdg : decode cc pc = .ok (.getfield index, 3)) (kk : W p l e R s m args below meth c H locs cells slots Q (F0 m (pc + 3) ls (.int (M.1 a 3) :: rest))) : W p l e R s m args below meth c H locs cells slots Q (F0 m pc ls (.ref a :: rest)) := z_gf (ci := 10) (k := 3) (C := RX10) (T := TX10) (N := 8) B hW ha.1 (z_wc10 ha.2) rfl iX10 (by decide) hl rfl rfl hdg kk
theorem z_put_10_3 (B : z_Bd Γ p s m args meth c cc mL ret own) (hW : z_Wd Γ M s.heap H locs) (ha : z_Is Γ 10 a) {index : Nat} {x : Int32} (hz : x = 0 ∨ x = 1) (hl : Cond.fieldLink own index "WhisperSeats" "isKept" "Z" ∈ BIG) (hdg : decode cc pc = .ok (.putfield index, 3)) (kk : ∀ (H1 : Heap) (locs1 : List Loc), z_Wd Γ (z_i M a 3 x) s.heap H1 locs1 → W p l e R s m args below meth c H1 locs1 cells slots Q (F0 m (pc + 3) ls (rest))) : W p l e R s m args below meth c H locs cells slots Q (F0 m pc ls (.int x :: .ref a :: rest)) := z_pf (ci := 10) (k := 3) (C := RX10) (T := TX10) (N := 8) (ty := .boolean) (M' := z_i M a 3 x) B hW ha.1 (z_wc10 ha.2) rfl iX10 tyX10 tyX10_ok nmX10 (by decide) hl rfl rfl (by decide +kernel) (z_nz hz) (z_fz hz) (by simp) (by rw [z_wc10 ha.2, z_i_eq]; rfl) (fun b hb => z_wc_ne (z_i_ne hb) rfl) hdg kk
theorem z_get_10_2 (B : z_Bd Γ p s m args meth c cc mL ret own) (hW : z_Wd Γ M s.heap H locs) (ha : z_Is Γ 10 a) {index : Nat} (hl : Cond.fieldLink own index "WhisperSeats" "kept" "LWhisperSeats$Park;" ∈ BIG) (hdg : decode cc pc = .ok (.getfield index, 3)) (kk : W p l e R s m args below meth c H locs cells slots Q (F0 m (pc + 3) ls (.ref (z_r Γ a 2) :: rest))) : W p l e R s m args below meth c H locs cells slots Q (F0 m pc ls (.ref a :: rest)) := z_gf (ci := 10) (k := 2) (C := RX10) (T := TX10) (N := 8) B hW ha.1 (z_wc10 ha.2) rfl iX10 (by decide) hl rfl rfl hdg kk
theorem z_get_10_7 (B : z_Bd Γ p s m args meth c cc mL ret own) (hW : z_Wd Γ M s.heap H locs) (ha : z_Is Γ 10 a) {index : Nat} (hl : Cond.fieldLink own index "WhisperSeats" "scores" "[I" ∈ BIG) (hdg : decode cc pc = .ok (.getfield index, 3)) (kk : W p l e R s m args below meth c H locs cells slots Q (F0 m (pc + 3) ls (.ref (z_r Γ a 7) :: rest))) : W p l e R s m args below meth c H locs cells slots Q (F0 m pc ls (.ref a :: rest)) := z_gf (ci := 10) (k := 7) (C := RX10) (T := TX10) (N := 8) B hW ha.1 (z_wc10 ha.2) rfl iX10 (by decide) hl rfl rfl hdg kk
theorem z_get_10_5 (B : z_Bd Γ p s m args meth c cc mL ret own) (hW : z_Wd Γ M s.heap H locs) (ha : z_Is Γ 10 a) {index : Nat} (hl : Cond.fieldLink own index "WhisperSeats" "sheets" "[LWhisperSeats$Sheet;" ∈ BIG) (hdg : decode cc pc = .ok (.getfield index, 3)) (kk : W p l e R s m args below meth c H locs cells slots Q (F0 m (pc + 3) ls (.ref (z_r Γ a 5) :: rest))) : W p l e R s m args below meth c H locs cells slots Q (F0 m pc ls (.ref a :: rest)) := z_gf (ci := 10) (k := 5) (C := RX10) (T := TX10) (N := 8) B hW ha.1 (z_wc10 ha.2) rfl iX10 (by decide) hl rfl rfl hdg kk
theorem z_get_10_4 (B : z_Bd Γ p s m args meth c cc mL ret own) (hW : z_Wd Γ M s.heap H locs) (ha : z_Is Γ 10 a) {index : Nat} (hl : Cond.fieldLink own index "WhisperSeats" "tape" "LWhisperSeats$Tape;" ∈ BIG) (hdg : decode cc pc = .ok (.getfield index, 3)) (kk : W p l e R s m args below meth c H locs cells slots Q (F0 m (pc + 3) ls (.ref (z_r Γ a 4) :: rest))) : W p l e R s m args below meth c H locs cells slots Q (F0 m pc ls (.ref a :: rest)) := z_gf (ci := 10) (k := 4) (C := RX10) (T := TX10) (N := 8) B hW ha.1 (z_wc10 ha.2) rfl iX10 (by decide) hl rfl rfl hdg kk
theorem z_get_11_3 (B : z_Bd Γ p s m args meth c cc mL ret own) (hW : z_Wd Γ M s.heap H locs) (ha : z_Is Γ 11 a) {index : Nat} (hl : Cond.fieldLink own index "WhisperSeatsModel" "aside" "[I" ∈ BIG) (hdg : decode cc pc = .ok (.getfield index, 3)) (kk : W p l e R s m args below meth c H locs cells slots Q (F0 m (pc + 3) ls (.ref (z_r Γ a 3) :: rest))) : W p l e R s m args below meth c H locs cells slots Q (F0 m pc ls (.ref a :: rest)) := z_gf (ci := 11) (k := 3) (C := RX11) (T := TX11) (N := 16) B hW ha.1 (z_wc11 ha.2) rfl iX11 (by decide) hl rfl rfl hdg kk
theorem z_get_11_2 (B : z_Bd Γ p s m args meth c cc mL ret own) (hW : z_Wd Γ M s.heap H locs) (ha : z_Is Γ 11 a) {index : Nat} (hl : Cond.fieldLink own index "WhisperSeatsModel" "before" "[I" ∈ BIG) (hdg : decode cc pc = .ok (.getfield index, 3)) (kk : W p l e R s m args below meth c H locs cells slots Q (F0 m (pc + 3) ls (.ref (z_r Γ a 2) :: rest))) : W p l e R s m args below meth c H locs cells slots Q (F0 m pc ls (.ref a :: rest)) := z_gf (ci := 11) (k := 2) (C := RX11) (T := TX11) (N := 16) B hW ha.1 (z_wc11 ha.2) rfl iX11 (by decide) hl rfl rfl hdg kk
theorem z_get_11_8 (B : z_Bd Γ p s m args meth c cc mL ret own) (hW : z_Wd Γ M s.heap H locs) (ha : z_Is Γ 11 a) {index : Nat} (hl : Cond.fieldLink own index "WhisperSeatsModel" "bitsOf" "[I" ∈ BIG) (hdg : decode cc pc = .ok (.getfield index, 3)) (kk : W p l e R s m args below meth c H locs cells slots Q (F0 m (pc + 3) ls (.ref (z_r Γ a 8) :: rest))) : W p l e R s m args below meth c H locs cells slots Q (F0 m pc ls (.ref a :: rest)) := z_gf (ci := 11) (k := 8) (C := RX11) (T := TX11) (N := 16) B hW ha.1 (z_wc11 ha.2) rfl iX11 (by decide) hl rfl rfl hdg kk
theorem z_get_11_15 (B : z_Bd Γ p s m args meth c cc mL ret own) (hW : z_Wd Γ M s.heap H locs) (ha : z_Is Γ 11 a) {index : Nat} (hl : Cond.fieldLink own index "WhisperSeatsModel" "faultAt" "I" ∈ BIG) (hdg : decode cc pc = .ok (.getfield index, 3)) (kk : W p l e R s m args below meth c H locs cells slots Q (F0 m (pc + 3) ls (.int (M.1 a 15) :: rest))) : W p l e R s m args below meth c H locs cells slots Q (F0 m pc ls (.ref a :: rest)) := z_gf (ci := 11) (k := 15) (C := RX11) (T := TX11) (N := 16) B hW ha.1 (z_wc11 ha.2) rfl iX11 (by decide) hl rfl rfl hdg kk
theorem z_put_11_15 (B : z_Bd Γ p s m args meth c cc mL ret own) (hW : z_Wd Γ M s.heap H locs) (ha : z_Is Γ 11 a) {index : Nat} {x : Int32} (hl : Cond.fieldLink own index "WhisperSeatsModel" "faultAt" "I" ∈ BIG) (hdg : decode cc pc = .ok (.putfield index, 3)) (kk : ∀ (H1 : Heap) (locs1 : List Loc), z_Wd Γ (z_i M a 15 x) s.heap H1 locs1 → W p l e R s m args below meth c H1 locs1 cells slots Q (F0 m (pc + 3) ls (rest))) : W p l e R s m args below meth c H locs cells slots Q (F0 m pc ls (.int x :: .ref a :: rest)) := z_pf (ci := 11) (k := 15) (C := RX11) (T := TX11) (N := 16) (ty := .int) (M' := z_i M a 15 x) B hW ha.1 (z_wc11 ha.2) rfl iX11 tyX11 tyX11_ok nmX11 (by decide) hl rfl rfl (by decide +kernel) rfl rfl (by simp) (by rw [z_wc11 ha.2, z_i_eq]; rfl) (fun b hb => z_wc_ne (z_i_ne hb) rfl) hdg kk
theorem z_get_11_5 (B : z_Bd Γ p s m args meth c cc mL ret own) (hW : z_Wd Γ M s.heap H locs) (ha : z_Is Γ 11 a) {index : Nat} (hl : Cond.fieldLink own index "WhisperSeatsModel" "findings" "[I" ∈ BIG) (hdg : decode cc pc = .ok (.getfield index, 3)) (kk : W p l e R s m args below meth c H locs cells slots Q (F0 m (pc + 3) ls (.ref (z_r Γ a 5) :: rest))) : W p l e R s m args below meth c H locs cells slots Q (F0 m pc ls (.ref a :: rest)) := z_gf (ci := 11) (k := 5) (C := RX11) (T := TX11) (N := 16) B hW ha.1 (z_wc11 ha.2) rfl iX11 (by decide) hl rfl rfl hdg kk
theorem z_get_11_12 (B : z_Bd Γ p s m args meth c cc mL ret own) (hW : z_Wd Γ M s.heap H locs) (ha : z_Is Γ 11 a) {index : Nat} (hl : Cond.fieldLink own index "WhisperSeatsModel" "from" "I" ∈ BIG) (hdg : decode cc pc = .ok (.getfield index, 3)) (kk : W p l e R s m args below meth c H locs cells slots Q (F0 m (pc + 3) ls (.int (M.1 a 12) :: rest))) : W p l e R s m args below meth c H locs cells slots Q (F0 m pc ls (.ref a :: rest)) := z_gf (ci := 11) (k := 12) (C := RX11) (T := TX11) (N := 16) B hW ha.1 (z_wc11 ha.2) rfl iX11 (by decide) hl rfl rfl hdg kk
theorem z_put_11_12 (B : z_Bd Γ p s m args meth c cc mL ret own) (hW : z_Wd Γ M s.heap H locs) (ha : z_Is Γ 11 a) {index : Nat} {x : Int32} (hl : Cond.fieldLink own index "WhisperSeatsModel" "from" "I" ∈ BIG) (hdg : decode cc pc = .ok (.putfield index, 3)) (kk : ∀ (H1 : Heap) (locs1 : List Loc), z_Wd Γ (z_i M a 12 x) s.heap H1 locs1 → W p l e R s m args below meth c H1 locs1 cells slots Q (F0 m (pc + 3) ls (rest))) : W p l e R s m args below meth c H locs cells slots Q (F0 m pc ls (.int x :: .ref a :: rest)) := z_pf (ci := 11) (k := 12) (C := RX11) (T := TX11) (N := 16) (ty := .int) (M' := z_i M a 12 x) B hW ha.1 (z_wc11 ha.2) rfl iX11 tyX11 tyX11_ok nmX11 (by decide) hl rfl rfl (by decide +kernel) rfl rfl (by simp) (by rw [z_wc11 ha.2, z_i_eq]; rfl) (fun b hb => z_wc_ne (z_i_ne hb) rfl) hdg kk
theorem z_get_11_4 (B : z_Bd Γ p s m args meth c cc mL ret own) (hW : z_Wd Γ M s.heap H locs) (ha : z_Is Γ 11 a) {index : Nat} (hl : Cond.fieldLink own index "WhisperSeatsModel" "isKept" "Z" ∈ BIG) (hdg : decode cc pc = .ok (.getfield index, 3)) (kk : W p l e R s m args below meth c H locs cells slots Q (F0 m (pc + 3) ls (.int (M.1 a 4) :: rest))) : W p l e R s m args below meth c H locs cells slots Q (F0 m pc ls (.ref a :: rest)) := z_gf (ci := 11) (k := 4) (C := RX11) (T := TX11) (N := 16) B hW ha.1 (z_wc11 ha.2) rfl iX11 (by decide) hl rfl rfl hdg kk
theorem z_put_11_4 (B : z_Bd Γ p s m args meth c cc mL ret own) (hW : z_Wd Γ M s.heap H locs) (ha : z_Is Γ 11 a) {index : Nat} {x : Int32} (hz : x = 0 ∨ x = 1) (hl : Cond.fieldLink own index "WhisperSeatsModel" "isKept" "Z" ∈ BIG) (hdg : decode cc pc = .ok (.putfield index, 3)) (kk : ∀ (H1 : Heap) (locs1 : List Loc), z_Wd Γ (z_i M a 4 x) s.heap H1 locs1 → W p l e R s m args below meth c H1 locs1 cells slots Q (F0 m (pc + 3) ls (rest))) : W p l e R s m args below meth c H locs cells slots Q (F0 m pc ls (.int x :: .ref a :: rest)) := z_pf (ci := 11) (k := 4) (C := RX11) (T := TX11) (N := 16) (ty := .boolean) (M' := z_i M a 4 x) B hW ha.1 (z_wc11 ha.2) rfl iX11 tyX11 tyX11_ok nmX11 (by decide) hl rfl rfl (by decide +kernel) (z_nz hz) (z_fz hz) (by simp) (by rw [z_wc11 ha.2, z_i_eq]; rfl) (fun b hb => z_wc_ne (z_i_ne hb) rfl) hdg kk
theorem z_get_11_1 (B : z_Bd Γ p s m args meth c cc mL ret own) (hW : z_Wd Γ M s.heap H locs) (ha : z_Is Γ 11 a) {index : Nat} (hl : Cond.fieldLink own index "WhisperSeatsModel" "kept" "[I" ∈ BIG) (hdg : decode cc pc = .ok (.getfield index, 3)) (kk : W p l e R s m args below meth c H locs cells slots Q (F0 m (pc + 3) ls (.ref (z_r Γ a 1) :: rest))) : W p l e R s m args below meth c H locs cells slots Q (F0 m pc ls (.ref a :: rest)) := z_gf (ci := 11) (k := 1) (C := RX11) (T := TX11) (N := 16) B hW ha.1 (z_wc11 ha.2) rfl iX11 (by decide) hl rfl rfl hdg kk
theorem z_get_11_10 (B : z_Bd Γ p s m args meth c cc mL ret own) (hW : z_Wd Γ M s.heap H locs) (ha : z_Is Γ 11 a) {index : Nat} (hl : Cond.fieldLink own index "WhisperSeatsModel" "numbers" "[J" ∈ BIG) (hdg : decode cc pc = .ok (.getfield index, 3)) (kk : W p l e R s m args below meth c H locs cells slots Q (F0 m (pc + 3) ls (.ref (z_r Γ a 10) :: rest))) : W p l e R s m args below meth c H locs cells slots Q (F0 m pc ls (.ref a :: rest)) := z_gf (ci := 11) (k := 10) (C := RX11) (T := TX11) (N := 16) B hW ha.1 (z_wc11 ha.2) rfl iX11 (by decide) hl rfl rfl hdg kk
theorem z_get_11_0 (B : z_Bd Γ p s m args meth c cc mL ret own) (hW : z_Wd Γ M s.heap H locs) (ha : z_Is Γ 11 a) {index : Nat} (hl : Cond.fieldLink own index "WhisperSeatsModel" "s" "[I" ∈ BIG) (hdg : decode cc pc = .ok (.getfield index, 3)) (kk : W p l e R s m args below meth c H locs cells slots Q (F0 m (pc + 3) ls (.ref (z_r Γ a 0) :: rest))) : W p l e R s m args below meth c H locs cells slots Q (F0 m pc ls (.ref a :: rest)) := z_gf (ci := 11) (k := 0) (C := RX11) (T := TX11) (N := 16) B hW ha.1 (z_wc11 ha.2) rfl iX11 (by decide) hl rfl rfl hdg kk
theorem z_get_11_9 (B : z_Bd Γ p s m args meth c cc mL ret own) (hW : z_Wd Γ M s.heap H locs) (ha : z_Is Γ 11 a) {index : Nat} (hl : Cond.fieldLink own index "WhisperSeatsModel" "sizes" "[I" ∈ BIG) (hdg : decode cc pc = .ok (.getfield index, 3)) (kk : W p l e R s m args below meth c H locs cells slots Q (F0 m (pc + 3) ls (.ref (z_r Γ a 9) :: rest))) : W p l e R s m args below meth c H locs cells slots Q (F0 m pc ls (.ref a :: rest)) := z_gf (ci := 11) (k := 9) (C := RX11) (T := TX11) (N := 16) B hW ha.1 (z_wc11 ha.2) rfl iX11 (by decide) hl rfl rfl hdg kk
theorem z_get_11_6 (B : z_Bd Γ p s m args meth c cc mL ret own) (hW : z_Wd Γ M s.heap H locs) (ha : z_Is Γ 11 a) {index : Nat} (hl : Cond.fieldLink own index "WhisperSeatsModel" "tape" "[I" ∈ BIG) (hdg : decode cc pc = .ok (.getfield index, 3)) (kk : W p l e R s m args below meth c H locs cells slots Q (F0 m (pc + 3) ls (.ref (z_r Γ a 6) :: rest))) : W p l e R s m args below meth c H locs cells slots Q (F0 m pc ls (.ref a :: rest)) := z_gf (ci := 11) (k := 6) (C := RX11) (T := TX11) (N := 16) B hW ha.1 (z_wc11 ha.2) rfl iX11 (by decide) hl rfl rfl hdg kk
theorem z_get_11_7 (B : z_Bd Γ p s m args meth c cc mL ret own) (hW : z_Wd Γ M s.heap H locs) (ha : z_Is Γ 11 a) {index : Nat} (hl : Cond.fieldLink own index "WhisperSeatsModel" "taped" "I" ∈ BIG) (hdg : decode cc pc = .ok (.getfield index, 3)) (kk : W p l e R s m args below meth c H locs cells slots Q (F0 m (pc + 3) ls (.int (M.1 a 7) :: rest))) : W p l e R s m args below meth c H locs cells slots Q (F0 m pc ls (.ref a :: rest)) := z_gf (ci := 11) (k := 7) (C := RX11) (T := TX11) (N := 16) B hW ha.1 (z_wc11 ha.2) rfl iX11 (by decide) hl rfl rfl hdg kk
theorem z_put_11_7 (B : z_Bd Γ p s m args meth c cc mL ret own) (hW : z_Wd Γ M s.heap H locs) (ha : z_Is Γ 11 a) {index : Nat} {x : Int32} (hl : Cond.fieldLink own index "WhisperSeatsModel" "taped" "I" ∈ BIG) (hdg : decode cc pc = .ok (.putfield index, 3)) (kk : ∀ (H1 : Heap) (locs1 : List Loc), z_Wd Γ (z_i M a 7 x) s.heap H1 locs1 → W p l e R s m args below meth c H1 locs1 cells slots Q (F0 m (pc + 3) ls (rest))) : W p l e R s m args below meth c H locs cells slots Q (F0 m pc ls (.int x :: .ref a :: rest)) := z_pf (ci := 11) (k := 7) (C := RX11) (T := TX11) (N := 16) (ty := .int) (M' := z_i M a 7 x) B hW ha.1 (z_wc11 ha.2) rfl iX11 tyX11 tyX11_ok nmX11 (by decide) hl rfl rfl (by decide +kernel) rfl rfl (by simp) (by rw [z_wc11 ha.2, z_i_eq]; rfl) (fun b hb => z_wc_ne (z_i_ne hb) rfl) hdg kk
theorem z_get_11_13 (B : z_Bd Γ p s m args meth c cc mL ret own) (hW : z_Wd Γ M s.heap H locs) (ha : z_Is Γ 11 a) {index : Nat} (hl : Cond.fieldLink own index "WhisperSeatsModel" "to" "I" ∈ BIG) (hdg : decode cc pc = .ok (.getfield index, 3)) (kk : W p l e R s m args below meth c H locs cells slots Q (F0 m (pc + 3) ls (.int (M.1 a 13) :: rest))) : W p l e R s m args below meth c H locs cells slots Q (F0 m pc ls (.ref a :: rest)) := z_gf (ci := 11) (k := 13) (C := RX11) (T := TX11) (N := 16) B hW ha.1 (z_wc11 ha.2) rfl iX11 (by decide) hl rfl rfl hdg kk
theorem z_put_11_13 (B : z_Bd Γ p s m args meth c cc mL ret own) (hW : z_Wd Γ M s.heap H locs) (ha : z_Is Γ 11 a) {index : Nat} {x : Int32} (hl : Cond.fieldLink own index "WhisperSeatsModel" "to" "I" ∈ BIG) (hdg : decode cc pc = .ok (.putfield index, 3)) (kk : ∀ (H1 : Heap) (locs1 : List Loc), z_Wd Γ (z_i M a 13 x) s.heap H1 locs1 → W p l e R s m args below meth c H1 locs1 cells slots Q (F0 m (pc + 3) ls (rest))) : W p l e R s m args below meth c H locs cells slots Q (F0 m pc ls (.int x :: .ref a :: rest)) := z_pf (ci := 11) (k := 13) (C := RX11) (T := TX11) (N := 16) (ty := .int) (M' := z_i M a 13 x) B hW ha.1 (z_wc11 ha.2) rfl iX11 tyX11 tyX11_ok nmX11 (by decide) hl rfl rfl (by decide +kernel) rfl rfl (by simp) (by rw [z_wc11 ha.2, z_i_eq]; rfl) (fun b hb => z_wc_ne (z_i_ne hb) rfl) hdg kk
theorem z_get_11_11 (B : z_Bd Γ p s m args meth c cc mL ret own) (hW : z_Wd Γ M s.heap H locs) (ha : z_Is Γ 11 a) {index : Nat} (hl : Cond.fieldLink own index "WhisperSeatsModel" "token" "I" ∈ BIG) (hdg : decode cc pc = .ok (.getfield index, 3)) (kk : W p l e R s m args below meth c H locs cells slots Q (F0 m (pc + 3) ls (.int (M.1 a 11) :: rest))) : W p l e R s m args below meth c H locs cells slots Q (F0 m pc ls (.ref a :: rest)) := z_gf (ci := 11) (k := 11) (C := RX11) (T := TX11) (N := 16) B hW ha.1 (z_wc11 ha.2) rfl iX11 (by decide) hl rfl rfl hdg kk
theorem z_put_11_11 (B : z_Bd Γ p s m args meth c cc mL ret own) (hW : z_Wd Γ M s.heap H locs) (ha : z_Is Γ 11 a) {index : Nat} {x : Int32} (hl : Cond.fieldLink own index "WhisperSeatsModel" "token" "I" ∈ BIG) (hdg : decode cc pc = .ok (.putfield index, 3)) (kk : ∀ (H1 : Heap) (locs1 : List Loc), z_Wd Γ (z_i M a 11 x) s.heap H1 locs1 → W p l e R s m args below meth c H1 locs1 cells slots Q (F0 m (pc + 3) ls (rest))) : W p l e R s m args below meth c H locs cells slots Q (F0 m pc ls (.int x :: .ref a :: rest)) := z_pf (ci := 11) (k := 11) (C := RX11) (T := TX11) (N := 16) (ty := .int) (M' := z_i M a 11 x) B hW ha.1 (z_wc11 ha.2) rfl iX11 tyX11 tyX11_ok nmX11 (by decide) hl rfl rfl (by decide +kernel) rfl rfl (by simp) (by rw [z_wc11 ha.2, z_i_eq]; rfl) (fun b hb => z_wc_ne (z_i_ne hb) rfl) hdg kk
theorem z_get_11_14 (B : z_Bd Γ p s m args meth c cc mL ret own) (hW : z_Wd Γ M s.heap H locs) (ha : z_Is Γ 11 a) {index : Nat} (hl : Cond.fieldLink own index "WhisperSeatsModel" "value" "I" ∈ BIG) (hdg : decode cc pc = .ok (.getfield index, 3)) (kk : W p l e R s m args below meth c H locs cells slots Q (F0 m (pc + 3) ls (.int (M.1 a 14) :: rest))) : W p l e R s m args below meth c H locs cells slots Q (F0 m pc ls (.ref a :: rest)) := z_gf (ci := 11) (k := 14) (C := RX11) (T := TX11) (N := 16) B hW ha.1 (z_wc11 ha.2) rfl iX11 (by decide) hl rfl rfl hdg kk
theorem z_put_11_14 (B : z_Bd Γ p s m args meth c cc mL ret own) (hW : z_Wd Γ M s.heap H locs) (ha : z_Is Γ 11 a) {index : Nat} {x : Int32} (hl : Cond.fieldLink own index "WhisperSeatsModel" "value" "I" ∈ BIG) (hdg : decode cc pc = .ok (.putfield index, 3)) (kk : ∀ (H1 : Heap) (locs1 : List Loc), z_Wd Γ (z_i M a 14 x) s.heap H1 locs1 → W p l e R s m args below meth c H1 locs1 cells slots Q (F0 m (pc + 3) ls (rest))) : W p l e R s m args below meth c H locs cells slots Q (F0 m pc ls (.int x :: .ref a :: rest)) := z_pf (ci := 11) (k := 14) (C := RX11) (T := TX11) (N := 16) (ty := .int) (M' := z_i M a 14 x) B hW ha.1 (z_wc11 ha.2) rfl iX11 tyX11 tyX11_ok nmX11 (by decide) hl rfl rfl (by decide +kernel) rfl rfl (by simp) (by rw [z_wc11 ha.2, z_i_eq]; rfl) (fun b hb => z_wc_ne (z_i_ne hb) rfl) hdg kk
theorem z_get_3_5 (B : z_Bd Γ p s m args meth c cc mL ret own) (hW : z_Wd Γ M s.heap H locs) (ha : z_Is Γ 3 a) {index : Nat} (hl : Cond.fieldLink own index "WhisperSeats$Park" "cameLast" "I" ∈ BIG) (hdg : decode cc pc = .ok (.getfield index, 3)) (kk : W p l e R s m args below meth c H locs cells slots Q (F0 m (pc + 3) ls (.int (M.1 a 5) :: rest))) : W p l e R s m args below meth c H locs cells slots Q (F0 m pc ls (.ref a :: rest)) := z_gf (ci := 3) (k := 5) (C := RX3) (T := TX3) (N := 6) B hW ha.1 (z_wc3 ha.2) rfl iX3 (by decide) hl rfl rfl hdg kk
theorem z_put_3_5 (B : z_Bd Γ p s m args meth c cc mL ret own) (hW : z_Wd Γ M s.heap H locs) (ha : z_Is Γ 3 a) {index : Nat} {x : Int32} (hl : Cond.fieldLink own index "WhisperSeats$Park" "cameLast" "I" ∈ BIG) (hdg : decode cc pc = .ok (.putfield index, 3)) (kk : ∀ (H1 : Heap) (locs1 : List Loc), z_Wd Γ (z_i M a 5 x) s.heap H1 locs1 → W p l e R s m args below meth c H1 locs1 cells slots Q (F0 m (pc + 3) ls (rest))) : W p l e R s m args below meth c H locs cells slots Q (F0 m pc ls (.int x :: .ref a :: rest)) := z_pf (ci := 3) (k := 5) (C := RX3) (T := TX3) (N := 6) (ty := .int) (M' := z_i M a 5 x) B hW ha.1 (z_wc3 ha.2) rfl iX3 tyX3 tyX3_ok nmX3 (by decide) hl rfl rfl (by decide +kernel) rfl rfl (by simp) (by rw [z_wc3 ha.2, z_i_eq]; rfl) (fun b hb => z_wc_ne (z_i_ne hb) rfl) hdg kk
theorem z_get_3_4 (B : z_Bd Γ p s m args meth c cc mL ret own) (hW : z_Wd Γ M s.heap H locs) (ha : z_Is Γ 3 a) {index : Nat} (hl : Cond.fieldLink own index "WhisperSeats$Park" "hour" "I" ∈ BIG) (hdg : decode cc pc = .ok (.getfield index, 3)) (kk : W p l e R s m args below meth c H locs cells slots Q (F0 m (pc + 3) ls (.int (M.1 a 4) :: rest))) : W p l e R s m args below meth c H locs cells slots Q (F0 m pc ls (.ref a :: rest)) := z_gf (ci := 3) (k := 4) (C := RX3) (T := TX3) (N := 6) B hW ha.1 (z_wc3 ha.2) rfl iX3 (by decide) hl rfl rfl hdg kk
theorem z_put_3_4 (B : z_Bd Γ p s m args meth c cc mL ret own) (hW : z_Wd Γ M s.heap H locs) (ha : z_Is Γ 3 a) {index : Nat} {x : Int32} (hl : Cond.fieldLink own index "WhisperSeats$Park" "hour" "I" ∈ BIG) (hdg : decode cc pc = .ok (.putfield index, 3)) (kk : ∀ (H1 : Heap) (locs1 : List Loc), z_Wd Γ (z_i M a 4 x) s.heap H1 locs1 → W p l e R s m args below meth c H1 locs1 cells slots Q (F0 m (pc + 3) ls (rest))) : W p l e R s m args below meth c H locs cells slots Q (F0 m pc ls (.int x :: .ref a :: rest)) := z_pf (ci := 3) (k := 4) (C := RX3) (T := TX3) (N := 6) (ty := .int) (M' := z_i M a 4 x) B hW ha.1 (z_wc3 ha.2) rfl iX3 tyX3 tyX3_ok nmX3 (by decide) hl rfl rfl (by decide +kernel) rfl rfl (by simp) (by rw [z_wc3 ha.2, z_i_eq]; rfl) (fun b hb => z_wc_ne (z_i_ne hb) rfl) hdg kk
theorem z_get_3_0 (B : z_Bd Γ p s m args meth c cc mL ret own) (hW : z_Wd Γ M s.heap H locs) (ha : z_Is Γ 3 a) {index : Nat} (hl : Cond.fieldLink own index "WhisperSeats$Park" "kinds" "[LWhisperSeats$Person;" ∈ BIG) (hdg : decode cc pc = .ok (.getfield index, 3)) (kk : W p l e R s m args below meth c H locs cells slots Q (F0 m (pc + 3) ls (.ref (z_r Γ a 0) :: rest))) : W p l e R s m args below meth c H locs cells slots Q (F0 m pc ls (.ref a :: rest)) := z_gf (ci := 3) (k := 0) (C := RX3) (T := TX3) (N := 6) B hW ha.1 (z_wc3 ha.2) rfl iX3 (by decide) hl rfl rfl hdg kk
theorem z_get_3_3 (B : z_Bd Γ p s m args meth c cc mL ret own) (hW : z_Wd Γ M s.heap H locs) (ha : z_Is Γ 3 a) {index : Nat} (hl : Cond.fieldLink own index "WhisperSeats$Park" "shams" "I" ∈ BIG) (hdg : decode cc pc = .ok (.getfield index, 3)) (kk : W p l e R s m args below meth c H locs cells slots Q (F0 m (pc + 3) ls (.int (M.1 a 3) :: rest))) : W p l e R s m args below meth c H locs cells slots Q (F0 m pc ls (.ref a :: rest)) := z_gf (ci := 3) (k := 3) (C := RX3) (T := TX3) (N := 6) B hW ha.1 (z_wc3 ha.2) rfl iX3 (by decide) hl rfl rfl hdg kk
theorem z_put_3_3 (B : z_Bd Γ p s m args meth c cc mL ret own) (hW : z_Wd Γ M s.heap H locs) (ha : z_Is Γ 3 a) {index : Nat} {x : Int32} (hl : Cond.fieldLink own index "WhisperSeats$Park" "shams" "I" ∈ BIG) (hdg : decode cc pc = .ok (.putfield index, 3)) (kk : ∀ (H1 : Heap) (locs1 : List Loc), z_Wd Γ (z_i M a 3 x) s.heap H1 locs1 → W p l e R s m args below meth c H1 locs1 cells slots Q (F0 m (pc + 3) ls (rest))) : W p l e R s m args below meth c H locs cells slots Q (F0 m pc ls (.int x :: .ref a :: rest)) := z_pf (ci := 3) (k := 3) (C := RX3) (T := TX3) (N := 6) (ty := .int) (M' := z_i M a 3 x) B hW ha.1 (z_wc3 ha.2) rfl iX3 tyX3 tyX3_ok nmX3 (by decide) hl rfl rfl (by decide +kernel) rfl rfl (by simp) (by rw [z_wc3 ha.2, z_i_eq]; rfl) (fun b hb => z_wc_ne (z_i_ne hb) rfl) hdg kk
theorem z_get_3_2 (B : z_Bd Γ p s m args meth c cc mL ret own) (hW : z_Wd Γ M s.heap H locs) (ha : z_Is Γ 3 a) {index : Nat} (hl : Cond.fieldLink own index "WhisperSeats$Park" "size" "I" ∈ BIG) (hdg : decode cc pc = .ok (.getfield index, 3)) (kk : W p l e R s m args below meth c H locs cells slots Q (F0 m (pc + 3) ls (.int (M.1 a 2) :: rest))) : W p l e R s m args below meth c H locs cells slots Q (F0 m pc ls (.ref a :: rest)) := z_gf (ci := 3) (k := 2) (C := RX3) (T := TX3) (N := 6) B hW ha.1 (z_wc3 ha.2) rfl iX3 (by decide) hl rfl rfl hdg kk
theorem z_put_3_2 (B : z_Bd Γ p s m args meth c cc mL ret own) (hW : z_Wd Γ M s.heap H locs) (ha : z_Is Γ 3 a) {index : Nat} {x : Int32} (hl : Cond.fieldLink own index "WhisperSeats$Park" "size" "I" ∈ BIG) (hdg : decode cc pc = .ok (.putfield index, 3)) (kk : ∀ (H1 : Heap) (locs1 : List Loc), z_Wd Γ (z_i M a 2 x) s.heap H1 locs1 → W p l e R s m args below meth c H1 locs1 cells slots Q (F0 m (pc + 3) ls (rest))) : W p l e R s m args below meth c H locs cells slots Q (F0 m pc ls (.int x :: .ref a :: rest)) := z_pf (ci := 3) (k := 2) (C := RX3) (T := TX3) (N := 6) (ty := .int) (M' := z_i M a 2 x) B hW ha.1 (z_wc3 ha.2) rfl iX3 tyX3 tyX3_ok nmX3 (by decide) hl rfl rfl (by decide +kernel) rfl rfl (by simp) (by rw [z_wc3 ha.2, z_i_eq]; rfl) (fun b hb => z_wc_ne (z_i_ne hb) rfl) hdg kk
theorem z_get_3_1 (B : z_Bd Γ p s m args meth c cc mL ret own) (hW : z_Wd Γ M s.heap H locs) (ha : z_Is Γ 3 a) {index : Nat} (hl : Cond.fieldLink own index "WhisperSeats$Park" "visitors" "[LWhisperSeats$Visitor;" ∈ BIG) (hdg : decode cc pc = .ok (.getfield index, 3)) (kk : W p l e R s m args below meth c H locs cells slots Q (F0 m (pc + 3) ls (.ref (z_r Γ a 1) :: rest))) : W p l e R s m args below meth c H locs cells slots Q (F0 m pc ls (.ref a :: rest)) := z_gf (ci := 3) (k := 1) (C := RX3) (T := TX3) (N := 6) B hW ha.1 (z_wc3 ha.2) rfl iX3 (by decide) hl rfl rfl hdg kk
theorem z_getN_3_5 (B : z_Bd Γ p s m args meth c cc mL ret own) (hW : z_Wd Γ M s.heap H locs) (ha : z_Is Γ 3 a) {index : Nat} {host : String} (hl : Cond.fieldLinkNest own index "WhisperSeats$Park" "cameLast" "I" host ∈ NW) (hdg : decode cc pc = .ok (.getfield index, 3)) (kk : W p l e R s m args below meth c H locs cells slots Q (F0 m (pc + 3) ls (.int (M.1 a 5) :: rest))) : W p l e R s m args below meth c H locs cells slots Q (F0 m pc ls (.ref a :: rest)) := z_gfN (ci := 3) (k := 5) (C := RX3) (T := TX3) (N := 6) B hW ha.1 (z_wc3 ha.2) rfl iX3 (by decide) hl rfl rfl hdg kk
theorem z_putN_3_5 (B : z_Bd Γ p s m args meth c cc mL ret own) (hW : z_Wd Γ M s.heap H locs) (ha : z_Is Γ 3 a) {index : Nat} {host : String} {x : Int32} (hl : Cond.fieldLinkNest own index "WhisperSeats$Park" "cameLast" "I" host ∈ NW) (hdg : decode cc pc = .ok (.putfield index, 3)) (kk : ∀ (H1 : Heap) (locs1 : List Loc), z_Wd Γ (z_i M a 5 x) s.heap H1 locs1 → W p l e R s m args below meth c H1 locs1 cells slots Q (F0 m (pc + 3) ls (rest))) : W p l e R s m args below meth c H locs cells slots Q (F0 m pc ls (.int x :: .ref a :: rest)) := z_pfN (ci := 3) (k := 5) (C := RX3) (T := TX3) (N := 6) (ty := .int) (M' := z_i M a 5 x) B hW ha.1 (z_wc3 ha.2) rfl iX3 tyX3 tyX3_ok nmX3 (by decide) hl rfl rfl (by decide +kernel) rfl rfl (by simp) (by rw [z_wc3 ha.2, z_i_eq]; rfl) (fun b hb => z_wc_ne (z_i_ne hb) rfl) hdg kk
theorem z_getN_3_4 (B : z_Bd Γ p s m args meth c cc mL ret own) (hW : z_Wd Γ M s.heap H locs) (ha : z_Is Γ 3 a) {index : Nat} {host : String} (hl : Cond.fieldLinkNest own index "WhisperSeats$Park" "hour" "I" host ∈ NW) (hdg : decode cc pc = .ok (.getfield index, 3)) (kk : W p l e R s m args below meth c H locs cells slots Q (F0 m (pc + 3) ls (.int (M.1 a 4) :: rest))) : W p l e R s m args below meth c H locs cells slots Q (F0 m pc ls (.ref a :: rest)) := z_gfN (ci := 3) (k := 4) (C := RX3) (T := TX3) (N := 6) B hW ha.1 (z_wc3 ha.2) rfl iX3 (by decide) hl rfl rfl hdg kk
theorem z_putN_3_4 (B : z_Bd Γ p s m args meth c cc mL ret own) (hW : z_Wd Γ M s.heap H locs) (ha : z_Is Γ 3 a) {index : Nat} {host : String} {x : Int32} (hl : Cond.fieldLinkNest own index "WhisperSeats$Park" "hour" "I" host ∈ NW) (hdg : decode cc pc = .ok (.putfield index, 3)) (kk : ∀ (H1 : Heap) (locs1 : List Loc), z_Wd Γ (z_i M a 4 x) s.heap H1 locs1 → W p l e R s m args below meth c H1 locs1 cells slots Q (F0 m (pc + 3) ls (rest))) : W p l e R s m args below meth c H locs cells slots Q (F0 m pc ls (.int x :: .ref a :: rest)) := z_pfN (ci := 3) (k := 4) (C := RX3) (T := TX3) (N := 6) (ty := .int) (M' := z_i M a 4 x) B hW ha.1 (z_wc3 ha.2) rfl iX3 tyX3 tyX3_ok nmX3 (by decide) hl rfl rfl (by decide +kernel) rfl rfl (by simp) (by rw [z_wc3 ha.2, z_i_eq]; rfl) (fun b hb => z_wc_ne (z_i_ne hb) rfl) hdg kk
theorem z_getN_3_3 (B : z_Bd Γ p s m args meth c cc mL ret own) (hW : z_Wd Γ M s.heap H locs) (ha : z_Is Γ 3 a) {index : Nat} {host : String} (hl : Cond.fieldLinkNest own index "WhisperSeats$Park" "shams" "I" host ∈ NW) (hdg : decode cc pc = .ok (.getfield index, 3)) (kk : W p l e R s m args below meth c H locs cells slots Q (F0 m (pc + 3) ls (.int (M.1 a 3) :: rest))) : W p l e R s m args below meth c H locs cells slots Q (F0 m pc ls (.ref a :: rest)) := z_gfN (ci := 3) (k := 3) (C := RX3) (T := TX3) (N := 6) B hW ha.1 (z_wc3 ha.2) rfl iX3 (by decide) hl rfl rfl hdg kk
theorem z_putN_3_3 (B : z_Bd Γ p s m args meth c cc mL ret own) (hW : z_Wd Γ M s.heap H locs) (ha : z_Is Γ 3 a) {index : Nat} {host : String} {x : Int32} (hl : Cond.fieldLinkNest own index "WhisperSeats$Park" "shams" "I" host ∈ NW) (hdg : decode cc pc = .ok (.putfield index, 3)) (kk : ∀ (H1 : Heap) (locs1 : List Loc), z_Wd Γ (z_i M a 3 x) s.heap H1 locs1 → W p l e R s m args below meth c H1 locs1 cells slots Q (F0 m (pc + 3) ls (rest))) : W p l e R s m args below meth c H locs cells slots Q (F0 m pc ls (.int x :: .ref a :: rest)) := z_pfN (ci := 3) (k := 3) (C := RX3) (T := TX3) (N := 6) (ty := .int) (M' := z_i M a 3 x) B hW ha.1 (z_wc3 ha.2) rfl iX3 tyX3 tyX3_ok nmX3 (by decide) hl rfl rfl (by decide +kernel) rfl rfl (by simp) (by rw [z_wc3 ha.2, z_i_eq]; rfl) (fun b hb => z_wc_ne (z_i_ne hb) rfl) hdg kk
theorem z_getN_3_2 (B : z_Bd Γ p s m args meth c cc mL ret own) (hW : z_Wd Γ M s.heap H locs) (ha : z_Is Γ 3 a) {index : Nat} {host : String} (hl : Cond.fieldLinkNest own index "WhisperSeats$Park" "size" "I" host ∈ NW) (hdg : decode cc pc = .ok (.getfield index, 3)) (kk : W p l e R s m args below meth c H locs cells slots Q (F0 m (pc + 3) ls (.int (M.1 a 2) :: rest))) : W p l e R s m args below meth c H locs cells slots Q (F0 m pc ls (.ref a :: rest)) := z_gfN (ci := 3) (k := 2) (C := RX3) (T := TX3) (N := 6) B hW ha.1 (z_wc3 ha.2) rfl iX3 (by decide) hl rfl rfl hdg kk
theorem z_putN_3_2 (B : z_Bd Γ p s m args meth c cc mL ret own) (hW : z_Wd Γ M s.heap H locs) (ha : z_Is Γ 3 a) {index : Nat} {host : String} {x : Int32} (hl : Cond.fieldLinkNest own index "WhisperSeats$Park" "size" "I" host ∈ NW) (hdg : decode cc pc = .ok (.putfield index, 3)) (kk : ∀ (H1 : Heap) (locs1 : List Loc), z_Wd Γ (z_i M a 2 x) s.heap H1 locs1 → W p l e R s m args below meth c H1 locs1 cells slots Q (F0 m (pc + 3) ls (rest))) : W p l e R s m args below meth c H locs cells slots Q (F0 m pc ls (.int x :: .ref a :: rest)) := z_pfN (ci := 3) (k := 2) (C := RX3) (T := TX3) (N := 6) (ty := .int) (M' := z_i M a 2 x) B hW ha.1 (z_wc3 ha.2) rfl iX3 tyX3 tyX3_ok nmX3 (by decide) hl rfl rfl (by decide +kernel) rfl rfl (by simp) (by rw [z_wc3 ha.2, z_i_eq]; rfl) (fun b hb => z_wc_ne (z_i_ne hb) rfl) hdg kk
theorem z_get_5_1 (B : z_Bd Γ p s m args meth c cc mL ret own) (hW : z_Wd Γ M s.heap H locs) (ha : z_Is Γ 5 a) {index : Nat} (hl : Cond.fieldLink own index "WhisperSeats$Sheet" "bits" "I" ∈ BIG) (hdg : decode cc pc = .ok (.getfield index, 3)) (kk : W p l e R s m args below meth c H locs cells slots Q (F0 m (pc + 3) ls (.int (M.1 a 1) :: rest))) : W p l e R s m args below meth c H locs cells slots Q (F0 m pc ls (.ref a :: rest)) := z_gf (ci := 5) (k := 1) (C := RX5) (T := TX5) (N := 3) B hW ha.1 (z_wc5 ha.2) rfl iX5 (by decide) hl rfl rfl hdg kk
theorem z_put_5_1 (B : z_Bd Γ p s m args meth c cc mL ret own) (hW : z_Wd Γ M s.heap H locs) (ha : z_Is Γ 5 a) {index : Nat} {x : Int32} (hl : Cond.fieldLink own index "WhisperSeats$Sheet" "bits" "I" ∈ BIG) (hdg : decode cc pc = .ok (.putfield index, 3)) (kk : ∀ (H1 : Heap) (locs1 : List Loc), z_Wd Γ (z_i M a 1 x) s.heap H1 locs1 → W p l e R s m args below meth c H1 locs1 cells slots Q (F0 m (pc + 3) ls (rest))) : W p l e R s m args below meth c H locs cells slots Q (F0 m pc ls (.int x :: .ref a :: rest)) := z_pf (ci := 5) (k := 1) (C := RX5) (T := TX5) (N := 3) (ty := .int) (M' := z_i M a 1 x) B hW ha.1 (z_wc5 ha.2) rfl iX5 tyX5 tyX5_ok nmX5 (by decide) hl rfl rfl (by decide +kernel) rfl rfl (by simp) (by rw [z_wc5 ha.2, z_i_eq]; rfl) (fun b hb => z_wc_ne (z_i_ne hb) rfl) hdg kk
theorem z_get_5_0 (B : z_Bd Γ p s m args meth c cc mL ret own) (hW : z_Wd Γ M s.heap H locs) (ha : z_Is Γ 5 a) {index : Nat} (hl : Cond.fieldLink own index "WhisperSeats$Sheet" "numbers" "[J" ∈ BIG) (hdg : decode cc pc = .ok (.getfield index, 3)) (kk : W p l e R s m args below meth c H locs cells slots Q (F0 m (pc + 3) ls (.ref (z_r Γ a 0) :: rest))) : W p l e R s m args below meth c H locs cells slots Q (F0 m pc ls (.ref a :: rest)) := z_gf (ci := 5) (k := 0) (C := RX5) (T := TX5) (N := 3) B hW ha.1 (z_wc5 ha.2) rfl iX5 (by decide) hl rfl rfl hdg kk
theorem z_get_5_2 (B : z_Bd Γ p s m args meth c cc mL ret own) (hW : z_Wd Γ M s.heap H locs) (ha : z_Is Γ 5 a) {index : Nat} (hl : Cond.fieldLink own index "WhisperSeats$Sheet" "size" "I" ∈ BIG) (hdg : decode cc pc = .ok (.getfield index, 3)) (kk : W p l e R s m args below meth c H locs cells slots Q (F0 m (pc + 3) ls (.int (M.1 a 2) :: rest))) : W p l e R s m args below meth c H locs cells slots Q (F0 m pc ls (.ref a :: rest)) := z_gf (ci := 5) (k := 2) (C := RX5) (T := TX5) (N := 3) B hW ha.1 (z_wc5 ha.2) rfl iX5 (by decide) hl rfl rfl hdg kk
theorem z_put_5_2 (B : z_Bd Γ p s m args meth c cc mL ret own) (hW : z_Wd Γ M s.heap H locs) (ha : z_Is Γ 5 a) {index : Nat} {x : Int32} (hl : Cond.fieldLink own index "WhisperSeats$Sheet" "size" "I" ∈ BIG) (hdg : decode cc pc = .ok (.putfield index, 3)) (kk : ∀ (H1 : Heap) (locs1 : List Loc), z_Wd Γ (z_i M a 2 x) s.heap H1 locs1 → W p l e R s m args below meth c H1 locs1 cells slots Q (F0 m (pc + 3) ls (rest))) : W p l e R s m args below meth c H locs cells slots Q (F0 m pc ls (.int x :: .ref a :: rest)) := z_pf (ci := 5) (k := 2) (C := RX5) (T := TX5) (N := 3) (ty := .int) (M' := z_i M a 2 x) B hW ha.1 (z_wc5 ha.2) rfl iX5 tyX5 tyX5_ok nmX5 (by decide) hl rfl rfl (by decide +kernel) rfl rfl (by simp) (by rw [z_wc5 ha.2, z_i_eq]; rfl) (fun b hb => z_wc_ne (z_i_ne hb) rfl) hdg kk
theorem z_getN_5_1 (B : z_Bd Γ p s m args meth c cc mL ret own) (hW : z_Wd Γ M s.heap H locs) (ha : z_Is Γ 5 a) {index : Nat} {host : String} (hl : Cond.fieldLinkNest own index "WhisperSeats$Sheet" "bits" "I" host ∈ NW) (hdg : decode cc pc = .ok (.getfield index, 3)) (kk : W p l e R s m args below meth c H locs cells slots Q (F0 m (pc + 3) ls (.int (M.1 a 1) :: rest))) : W p l e R s m args below meth c H locs cells slots Q (F0 m pc ls (.ref a :: rest)) := z_gfN (ci := 5) (k := 1) (C := RX5) (T := TX5) (N := 3) B hW ha.1 (z_wc5 ha.2) rfl iX5 (by decide) hl rfl rfl hdg kk
theorem z_putN_5_1 (B : z_Bd Γ p s m args meth c cc mL ret own) (hW : z_Wd Γ M s.heap H locs) (ha : z_Is Γ 5 a) {index : Nat} {host : String} {x : Int32} (hl : Cond.fieldLinkNest own index "WhisperSeats$Sheet" "bits" "I" host ∈ NW) (hdg : decode cc pc = .ok (.putfield index, 3)) (kk : ∀ (H1 : Heap) (locs1 : List Loc), z_Wd Γ (z_i M a 1 x) s.heap H1 locs1 → W p l e R s m args below meth c H1 locs1 cells slots Q (F0 m (pc + 3) ls (rest))) : W p l e R s m args below meth c H locs cells slots Q (F0 m pc ls (.int x :: .ref a :: rest)) := z_pfN (ci := 5) (k := 1) (C := RX5) (T := TX5) (N := 3) (ty := .int) (M' := z_i M a 1 x) B hW ha.1 (z_wc5 ha.2) rfl iX5 tyX5 tyX5_ok nmX5 (by decide) hl rfl rfl (by decide +kernel) rfl rfl (by simp) (by rw [z_wc5 ha.2, z_i_eq]; rfl) (fun b hb => z_wc_ne (z_i_ne hb) rfl) hdg kk
theorem z_getN_5_0 (B : z_Bd Γ p s m args meth c cc mL ret own) (hW : z_Wd Γ M s.heap H locs) (ha : z_Is Γ 5 a) {index : Nat} {host : String} (hl : Cond.fieldLinkNest own index "WhisperSeats$Sheet" "numbers" "[J" host ∈ NW) (hdg : decode cc pc = .ok (.getfield index, 3)) (kk : W p l e R s m args below meth c H locs cells slots Q (F0 m (pc + 3) ls (.ref (z_r Γ a 0) :: rest))) : W p l e R s m args below meth c H locs cells slots Q (F0 m pc ls (.ref a :: rest)) := z_gfN (ci := 5) (k := 0) (C := RX5) (T := TX5) (N := 3) B hW ha.1 (z_wc5 ha.2) rfl iX5 (by decide) hl rfl rfl hdg kk
theorem z_getN_5_2 (B : z_Bd Γ p s m args meth c cc mL ret own) (hW : z_Wd Γ M s.heap H locs) (ha : z_Is Γ 5 a) {index : Nat} {host : String} (hl : Cond.fieldLinkNest own index "WhisperSeats$Sheet" "size" "I" host ∈ NW) (hdg : decode cc pc = .ok (.getfield index, 3)) (kk : W p l e R s m args below meth c H locs cells slots Q (F0 m (pc + 3) ls (.int (M.1 a 2) :: rest))) : W p l e R s m args below meth c H locs cells slots Q (F0 m pc ls (.ref a :: rest)) := z_gfN (ci := 5) (k := 2) (C := RX5) (T := TX5) (N := 3) B hW ha.1 (z_wc5 ha.2) rfl iX5 (by decide) hl rfl rfl hdg kk
theorem z_putN_5_2 (B : z_Bd Γ p s m args meth c cc mL ret own) (hW : z_Wd Γ M s.heap H locs) (ha : z_Is Γ 5 a) {index : Nat} {host : String} {x : Int32} (hl : Cond.fieldLinkNest own index "WhisperSeats$Sheet" "size" "I" host ∈ NW) (hdg : decode cc pc = .ok (.putfield index, 3)) (kk : ∀ (H1 : Heap) (locs1 : List Loc), z_Wd Γ (z_i M a 2 x) s.heap H1 locs1 → W p l e R s m args below meth c H1 locs1 cells slots Q (F0 m (pc + 3) ls (rest))) : W p l e R s m args below meth c H locs cells slots Q (F0 m pc ls (.int x :: .ref a :: rest)) := z_pfN (ci := 5) (k := 2) (C := RX5) (T := TX5) (N := 3) (ty := .int) (M' := z_i M a 2 x) B hW ha.1 (z_wc5 ha.2) rfl iX5 tyX5 tyX5_ok nmX5 (by decide) hl rfl rfl (by decide +kernel) rfl rfl (by simp) (by rw [z_wc5 ha.2, z_i_eq]; rfl) (fun b hb => z_wc_ne (z_i_ne hb) rfl) hdg kk
theorem z_get_7_4 (B : z_Bd Γ p s m args meth c cc mL ret own) (hW : z_Wd Γ M s.heap H locs) (ha : z_Is Γ 7 a) {index : Nat} (hl : Cond.fieldLink own index "WhisperSeats$Tape" "behind" "I" ∈ BIG) (hdg : decode cc pc = .ok (.getfield index, 3)) (kk : W p l e R s m args below meth c H locs cells slots Q (F0 m (pc + 3) ls (.int (M.1 a 4) :: rest))) : W p l e R s m args below meth c H locs cells slots Q (F0 m pc ls (.ref a :: rest)) := z_gf (ci := 7) (k := 4) (C := RX7) (T := TX7) (N := 6) B hW ha.1 (z_wc7 ha.2) rfl iX7 (by decide) hl rfl rfl hdg kk
theorem z_put_7_4 (B : z_Bd Γ p s m args meth c cc mL ret own) (hW : z_Wd Γ M s.heap H locs) (ha : z_Is Γ 7 a) {index : Nat} {x : Int32} (hl : Cond.fieldLink own index "WhisperSeats$Tape" "behind" "I" ∈ BIG) (hdg : decode cc pc = .ok (.putfield index, 3)) (kk : ∀ (H1 : Heap) (locs1 : List Loc), z_Wd Γ (z_i M a 4 x) s.heap H1 locs1 → W p l e R s m args below meth c H1 locs1 cells slots Q (F0 m (pc + 3) ls (rest))) : W p l e R s m args below meth c H locs cells slots Q (F0 m pc ls (.int x :: .ref a :: rest)) := z_pf (ci := 7) (k := 4) (C := RX7) (T := TX7) (N := 6) (ty := .int) (M' := z_i M a 4 x) B hW ha.1 (z_wc7 ha.2) rfl iX7 tyX7 tyX7_ok nmX7 (by decide) hl rfl rfl (by decide +kernel) rfl rfl (by simp) (by rw [z_wc7 ha.2, z_i_eq]; rfl) (fun b hb => z_wc_ne (z_i_ne hb) rfl) hdg kk
theorem z_get_7_0 (B : z_Bd Γ p s m args meth c cc mL ret own) (hW : z_Wd Γ M s.heap H locs) (ha : z_Is Γ 7 a) {index : Nat} (hl : Cond.fieldLink own index "WhisperSeats$Tape" "bytes" "[I" ∈ BIG) (hdg : decode cc pc = .ok (.getfield index, 3)) (kk : W p l e R s m args below meth c H locs cells slots Q (F0 m (pc + 3) ls (.ref (z_r Γ a 0) :: rest))) : W p l e R s m args below meth c H locs cells slots Q (F0 m pc ls (.ref a :: rest)) := z_gf (ci := 7) (k := 0) (C := RX7) (T := TX7) (N := 6) B hW ha.1 (z_wc7 ha.2) rfl iX7 (by decide) hl rfl rfl hdg kk
theorem z_get_7_1 (B : z_Bd Γ p s m args meth c cc mL ret own) (hW : z_Wd Γ M s.heap H locs) (ha : z_Is Γ 7 a) {index : Nat} (hl : Cond.fieldLink own index "WhisperSeats$Tape" "length" "I" ∈ BIG) (hdg : decode cc pc = .ok (.getfield index, 3)) (kk : W p l e R s m args below meth c H locs cells slots Q (F0 m (pc + 3) ls (.int (M.1 a 1) :: rest))) : W p l e R s m args below meth c H locs cells slots Q (F0 m pc ls (.ref a :: rest)) := z_gf (ci := 7) (k := 1) (C := RX7) (T := TX7) (N := 6) B hW ha.1 (z_wc7 ha.2) rfl iX7 (by decide) hl rfl rfl hdg kk
theorem z_put_7_1 (B : z_Bd Γ p s m args meth c cc mL ret own) (hW : z_Wd Γ M s.heap H locs) (ha : z_Is Γ 7 a) {index : Nat} {x : Int32} (hl : Cond.fieldLink own index "WhisperSeats$Tape" "length" "I" ∈ BIG) (hdg : decode cc pc = .ok (.putfield index, 3)) (kk : ∀ (H1 : Heap) (locs1 : List Loc), z_Wd Γ (z_i M a 1 x) s.heap H1 locs1 → W p l e R s m args below meth c H1 locs1 cells slots Q (F0 m (pc + 3) ls (rest))) : W p l e R s m args below meth c H locs cells slots Q (F0 m pc ls (.int x :: .ref a :: rest)) := z_pf (ci := 7) (k := 1) (C := RX7) (T := TX7) (N := 6) (ty := .int) (M' := z_i M a 1 x) B hW ha.1 (z_wc7 ha.2) rfl iX7 tyX7 tyX7_ok nmX7 (by decide) hl rfl rfl (by decide +kernel) rfl rfl (by simp) (by rw [z_wc7 ha.2, z_i_eq]; rfl) (fun b hb => z_wc_ne (z_i_ne hb) rfl) hdg kk
theorem z_get_7_3 (B : z_Bd Γ p s m args meth c cc mL ret own) (hW : z_Wd Γ M s.heap H locs) (ha : z_Is Γ 7 a) {index : Nat} (hl : Cond.fieldLink own index "WhisperSeats$Tape" "start" "I" ∈ BIG) (hdg : decode cc pc = .ok (.getfield index, 3)) (kk : W p l e R s m args below meth c H locs cells slots Q (F0 m (pc + 3) ls (.int (M.1 a 3) :: rest))) : W p l e R s m args below meth c H locs cells slots Q (F0 m pc ls (.ref a :: rest)) := z_gf (ci := 7) (k := 3) (C := RX7) (T := TX7) (N := 6) B hW ha.1 (z_wc7 ha.2) rfl iX7 (by decide) hl rfl rfl hdg kk
theorem z_put_7_3 (B : z_Bd Γ p s m args meth c cc mL ret own) (hW : z_Wd Γ M s.heap H locs) (ha : z_Is Γ 7 a) {index : Nat} {x : Int32} (hl : Cond.fieldLink own index "WhisperSeats$Tape" "start" "I" ∈ BIG) (hdg : decode cc pc = .ok (.putfield index, 3)) (kk : ∀ (H1 : Heap) (locs1 : List Loc), z_Wd Γ (z_i M a 3 x) s.heap H1 locs1 → W p l e R s m args below meth c H1 locs1 cells slots Q (F0 m (pc + 3) ls (rest))) : W p l e R s m args below meth c H locs cells slots Q (F0 m pc ls (.int x :: .ref a :: rest)) := z_pf (ci := 7) (k := 3) (C := RX7) (T := TX7) (N := 6) (ty := .int) (M' := z_i M a 3 x) B hW ha.1 (z_wc7 ha.2) rfl iX7 tyX7 tyX7_ok nmX7 (by decide) hl rfl rfl (by decide +kernel) rfl rfl (by simp) (by rw [z_wc7 ha.2, z_i_eq]; rfl) (fun b hb => z_wc_ne (z_i_ne hb) rfl) hdg kk
theorem z_get_7_2 (B : z_Bd Γ p s m args meth c cc mL ret own) (hW : z_Wd Γ M s.heap H locs) (ha : z_Is Γ 7 a) {index : Nat} (hl : Cond.fieldLink own index "WhisperSeats$Tape" "token" "I" ∈ BIG) (hdg : decode cc pc = .ok (.getfield index, 3)) (kk : W p l e R s m args below meth c H locs cells slots Q (F0 m (pc + 3) ls (.int (M.1 a 2) :: rest))) : W p l e R s m args below meth c H locs cells slots Q (F0 m pc ls (.ref a :: rest)) := z_gf (ci := 7) (k := 2) (C := RX7) (T := TX7) (N := 6) B hW ha.1 (z_wc7 ha.2) rfl iX7 (by decide) hl rfl rfl hdg kk
theorem z_put_7_2 (B : z_Bd Γ p s m args meth c cc mL ret own) (hW : z_Wd Γ M s.heap H locs) (ha : z_Is Γ 7 a) {index : Nat} {x : Int32} (hl : Cond.fieldLink own index "WhisperSeats$Tape" "token" "I" ∈ BIG) (hdg : decode cc pc = .ok (.putfield index, 3)) (kk : ∀ (H1 : Heap) (locs1 : List Loc), z_Wd Γ (z_i M a 2 x) s.heap H1 locs1 → W p l e R s m args below meth c H1 locs1 cells slots Q (F0 m (pc + 3) ls (rest))) : W p l e R s m args below meth c H locs cells slots Q (F0 m pc ls (.int x :: .ref a :: rest)) := z_pf (ci := 7) (k := 2) (C := RX7) (T := TX7) (N := 6) (ty := .int) (M' := z_i M a 2 x) B hW ha.1 (z_wc7 ha.2) rfl iX7 tyX7 tyX7_ok nmX7 (by decide) hl rfl rfl (by decide +kernel) rfl rfl (by simp) (by rw [z_wc7 ha.2, z_i_eq]; rfl) (fun b hb => z_wc_ne (z_i_ne hb) rfl) hdg kk
theorem z_get_7_5 (B : z_Bd Γ p s m args meth c cc mL ret own) (hW : z_Wd Γ M s.heap H locs) (ha : z_Is Γ 7 a) {index : Nat} (hl : Cond.fieldLink own index "WhisperSeats$Tape" "value" "I" ∈ BIG) (hdg : decode cc pc = .ok (.getfield index, 3)) (kk : W p l e R s m args below meth c H locs cells slots Q (F0 m (pc + 3) ls (.int (M.1 a 5) :: rest))) : W p l e R s m args below meth c H locs cells slots Q (F0 m pc ls (.ref a :: rest)) := z_gf (ci := 7) (k := 5) (C := RX7) (T := TX7) (N := 6) B hW ha.1 (z_wc7 ha.2) rfl iX7 (by decide) hl rfl rfl hdg kk
theorem z_put_7_5 (B : z_Bd Γ p s m args meth c cc mL ret own) (hW : z_Wd Γ M s.heap H locs) (ha : z_Is Γ 7 a) {index : Nat} {x : Int32} (hl : Cond.fieldLink own index "WhisperSeats$Tape" "value" "I" ∈ BIG) (hdg : decode cc pc = .ok (.putfield index, 3)) (kk : ∀ (H1 : Heap) (locs1 : List Loc), z_Wd Γ (z_i M a 5 x) s.heap H1 locs1 → W p l e R s m args below meth c H1 locs1 cells slots Q (F0 m (pc + 3) ls (rest))) : W p l e R s m args below meth c H locs cells slots Q (F0 m pc ls (.int x :: .ref a :: rest)) := z_pf (ci := 7) (k := 5) (C := RX7) (T := TX7) (N := 6) (ty := .int) (M' := z_i M a 5 x) B hW ha.1 (z_wc7 ha.2) rfl iX7 tyX7 tyX7_ok nmX7 (by decide) hl rfl rfl (by decide +kernel) rfl rfl (by simp) (by rw [z_wc7 ha.2, z_i_eq]; rfl) (fun b hb => z_wc_ne (z_i_ne hb) rfl) hdg kk
theorem z_getN_7_1 (B : z_Bd Γ p s m args meth c cc mL ret own) (hW : z_Wd Γ M s.heap H locs) (ha : z_Is Γ 7 a) {index : Nat} {host : String} (hl : Cond.fieldLinkNest own index "WhisperSeats$Tape" "length" "I" host ∈ NW) (hdg : decode cc pc = .ok (.getfield index, 3)) (kk : W p l e R s m args below meth c H locs cells slots Q (F0 m (pc + 3) ls (.int (M.1 a 1) :: rest))) : W p l e R s m args below meth c H locs cells slots Q (F0 m pc ls (.ref a :: rest)) := z_gfN (ci := 7) (k := 1) (C := RX7) (T := TX7) (N := 6) B hW ha.1 (z_wc7 ha.2) rfl iX7 (by decide) hl rfl rfl hdg kk
theorem z_putN_7_1 (B : z_Bd Γ p s m args meth c cc mL ret own) (hW : z_Wd Γ M s.heap H locs) (ha : z_Is Γ 7 a) {index : Nat} {host : String} {x : Int32} (hl : Cond.fieldLinkNest own index "WhisperSeats$Tape" "length" "I" host ∈ NW) (hdg : decode cc pc = .ok (.putfield index, 3)) (kk : ∀ (H1 : Heap) (locs1 : List Loc), z_Wd Γ (z_i M a 1 x) s.heap H1 locs1 → W p l e R s m args below meth c H1 locs1 cells slots Q (F0 m (pc + 3) ls (rest))) : W p l e R s m args below meth c H locs cells slots Q (F0 m pc ls (.int x :: .ref a :: rest)) := z_pfN (ci := 7) (k := 1) (C := RX7) (T := TX7) (N := 6) (ty := .int) (M' := z_i M a 1 x) B hW ha.1 (z_wc7 ha.2) rfl iX7 tyX7 tyX7_ok nmX7 (by decide) hl rfl rfl (by decide +kernel) rfl rfl (by simp) (by rw [z_wc7 ha.2, z_i_eq]; rfl) (fun b hb => z_wc_ne (z_i_ne hb) rfl) hdg kk
theorem z_get_8_2 (B : z_Bd Γ p s m args meth c cc mL ret own) (hW : z_Wd Γ M s.heap H locs) (ha : z_Is Γ 8 a) {index : Nat} (hl : Cond.fieldLink own index "WhisperSeats$Visitor" "believed" "I" ∈ BIG) (hdg : decode cc pc = .ok (.getfield index, 3)) (kk : W p l e R s m args below meth c H locs cells slots Q (F0 m (pc + 3) ls (.int (M.1 a 2) :: rest))) : W p l e R s m args below meth c H locs cells slots Q (F0 m pc ls (.ref a :: rest)) := z_gf (ci := 8) (k := 2) (C := RX8) (T := TX8) (N := 6) B hW ha.1 (z_wc8 ha.2) rfl iX8 (by decide) hl rfl rfl hdg kk
theorem z_put_8_2 (B : z_Bd Γ p s m args meth c cc mL ret own) (hW : z_Wd Γ M s.heap H locs) (ha : z_Is Γ 8 a) {index : Nat} {x : Int32} (hl : Cond.fieldLink own index "WhisperSeats$Visitor" "believed" "I" ∈ BIG) (hdg : decode cc pc = .ok (.putfield index, 3)) (kk : ∀ (H1 : Heap) (locs1 : List Loc), z_Wd Γ (z_i M a 2 x) s.heap H1 locs1 → W p l e R s m args below meth c H1 locs1 cells slots Q (F0 m (pc + 3) ls (rest))) : W p l e R s m args below meth c H locs cells slots Q (F0 m pc ls (.int x :: .ref a :: rest)) := z_pf (ci := 8) (k := 2) (C := RX8) (T := TX8) (N := 6) (ty := .int) (M' := z_i M a 2 x) B hW ha.1 (z_wc8 ha.2) rfl iX8 tyX8 tyX8_ok nmX8 (by decide) hl rfl rfl (by decide +kernel) rfl rfl (by simp) (by rw [z_wc8 ha.2, z_i_eq]; rfl) (fun b hb => z_wc_ne (z_i_ne hb) rfl) hdg kk
theorem z_get_8_5 (B : z_Bd Γ p s m args meth c cc mL ret own) (hW : z_Wd Γ M s.heap H locs) (ha : z_Is Γ 8 a) {index : Nat} (hl : Cond.fieldLink own index "WhisperSeats$Visitor" "heard" "I" ∈ BIG) (hdg : decode cc pc = .ok (.getfield index, 3)) (kk : W p l e R s m args below meth c H locs cells slots Q (F0 m (pc + 3) ls (.int (M.1 a 5) :: rest))) : W p l e R s m args below meth c H locs cells slots Q (F0 m pc ls (.ref a :: rest)) := z_gf (ci := 8) (k := 5) (C := RX8) (T := TX8) (N := 6) B hW ha.1 (z_wc8 ha.2) rfl iX8 (by decide) hl rfl rfl hdg kk
theorem z_put_8_5 (B : z_Bd Γ p s m args meth c cc mL ret own) (hW : z_Wd Γ M s.heap H locs) (ha : z_Is Γ 8 a) {index : Nat} {x : Int32} (hl : Cond.fieldLink own index "WhisperSeats$Visitor" "heard" "I" ∈ BIG) (hdg : decode cc pc = .ok (.putfield index, 3)) (kk : ∀ (H1 : Heap) (locs1 : List Loc), z_Wd Γ (z_i M a 5 x) s.heap H1 locs1 → W p l e R s m args below meth c H1 locs1 cells slots Q (F0 m (pc + 3) ls (rest))) : W p l e R s m args below meth c H locs cells slots Q (F0 m pc ls (.int x :: .ref a :: rest)) := z_pf (ci := 8) (k := 5) (C := RX8) (T := TX8) (N := 6) (ty := .int) (M' := z_i M a 5 x) B hW ha.1 (z_wc8 ha.2) rfl iX8 tyX8 tyX8_ok nmX8 (by decide) hl rfl rfl (by decide +kernel) rfl rfl (by simp) (by rw [z_wc8 ha.2, z_i_eq]; rfl) (fun b hb => z_wc_ne (z_i_ne hb) rfl) hdg kk
theorem z_get_8_0 (B : z_Bd Γ p s m args meth c cc mL ret own) (hW : z_Wd Γ M s.heap H locs) (ha : z_Is Γ 8 a) {index : Nat} (hl : Cond.fieldLink own index "WhisperSeats$Visitor" "kind" "I" ∈ BIG) (hdg : decode cc pc = .ok (.getfield index, 3)) (kk : W p l e R s m args below meth c H locs cells slots Q (F0 m (pc + 3) ls (.int (M.1 a 0) :: rest))) : W p l e R s m args below meth c H locs cells slots Q (F0 m pc ls (.ref a :: rest)) := z_gf (ci := 8) (k := 0) (C := RX8) (T := TX8) (N := 6) B hW ha.1 (z_wc8 ha.2) rfl iX8 (by decide) hl rfl rfl hdg kk
theorem z_put_8_0 (B : z_Bd Γ p s m args meth c cc mL ret own) (hW : z_Wd Γ M s.heap H locs) (ha : z_Is Γ 8 a) {index : Nat} {x : Int32} (hl : Cond.fieldLink own index "WhisperSeats$Visitor" "kind" "I" ∈ BIG) (hdg : decode cc pc = .ok (.putfield index, 3)) (kk : ∀ (H1 : Heap) (locs1 : List Loc), z_Wd Γ (z_i M a 0 x) s.heap H1 locs1 → W p l e R s m args below meth c H1 locs1 cells slots Q (F0 m (pc + 3) ls (rest))) : W p l e R s m args below meth c H locs cells slots Q (F0 m pc ls (.int x :: .ref a :: rest)) := z_pf (ci := 8) (k := 0) (C := RX8) (T := TX8) (N := 6) (ty := .int) (M' := z_i M a 0 x) B hW ha.1 (z_wc8 ha.2) rfl iX8 tyX8 tyX8_ok nmX8 (by decide) hl rfl rfl (by decide +kernel) rfl rfl (by simp) (by rw [z_wc8 ha.2, z_i_eq]; rfl) (fun b hb => z_wc_ne (z_i_ne hb) rfl) hdg kk
theorem z_get_8_1 (B : z_Bd Γ p s m args meth c cc mL ret own) (hW : z_Wd Γ M s.heap H locs) (ha : z_Is Γ 8 a) {index : Nat} (hl : Cond.fieldLink own index "WhisperSeats$Visitor" "known" "I" ∈ BIG) (hdg : decode cc pc = .ok (.getfield index, 3)) (kk : W p l e R s m args below meth c H locs cells slots Q (F0 m (pc + 3) ls (.int (M.1 a 1) :: rest))) : W p l e R s m args below meth c H locs cells slots Q (F0 m pc ls (.ref a :: rest)) := z_gf (ci := 8) (k := 1) (C := RX8) (T := TX8) (N := 6) B hW ha.1 (z_wc8 ha.2) rfl iX8 (by decide) hl rfl rfl hdg kk
theorem z_put_8_1 (B : z_Bd Γ p s m args meth c cc mL ret own) (hW : z_Wd Γ M s.heap H locs) (ha : z_Is Γ 8 a) {index : Nat} {x : Int32} (hl : Cond.fieldLink own index "WhisperSeats$Visitor" "known" "I" ∈ BIG) (hdg : decode cc pc = .ok (.putfield index, 3)) (kk : ∀ (H1 : Heap) (locs1 : List Loc), z_Wd Γ (z_i M a 1 x) s.heap H1 locs1 → W p l e R s m args below meth c H1 locs1 cells slots Q (F0 m (pc + 3) ls (rest))) : W p l e R s m args below meth c H locs cells slots Q (F0 m pc ls (.int x :: .ref a :: rest)) := z_pf (ci := 8) (k := 1) (C := RX8) (T := TX8) (N := 6) (ty := .int) (M' := z_i M a 1 x) B hW ha.1 (z_wc8 ha.2) rfl iX8 tyX8 tyX8_ok nmX8 (by decide) hl rfl rfl (by decide +kernel) rfl rfl (by simp) (by rw [z_wc8 ha.2, z_i_eq]; rfl) (fun b hb => z_wc_ne (z_i_ne hb) rfl) hdg kk
theorem z_get_8_4 (B : z_Bd Γ p s m args meth c cc mL ret own) (hW : z_Wd Γ M s.heap H locs) (ha : z_Is Γ 8 a) {index : Nat} (hl : Cond.fieldLink own index "WhisperSeats$Visitor" "sat" "I" ∈ BIG) (hdg : decode cc pc = .ok (.getfield index, 3)) (kk : W p l e R s m args below meth c H locs cells slots Q (F0 m (pc + 3) ls (.int (M.1 a 4) :: rest))) : W p l e R s m args below meth c H locs cells slots Q (F0 m pc ls (.ref a :: rest)) := z_gf (ci := 8) (k := 4) (C := RX8) (T := TX8) (N := 6) B hW ha.1 (z_wc8 ha.2) rfl iX8 (by decide) hl rfl rfl hdg kk
theorem z_put_8_4 (B : z_Bd Γ p s m args meth c cc mL ret own) (hW : z_Wd Γ M s.heap H locs) (ha : z_Is Γ 8 a) {index : Nat} {x : Int32} (hl : Cond.fieldLink own index "WhisperSeats$Visitor" "sat" "I" ∈ BIG) (hdg : decode cc pc = .ok (.putfield index, 3)) (kk : ∀ (H1 : Heap) (locs1 : List Loc), z_Wd Γ (z_i M a 4 x) s.heap H1 locs1 → W p l e R s m args below meth c H1 locs1 cells slots Q (F0 m (pc + 3) ls (rest))) : W p l e R s m args below meth c H locs cells slots Q (F0 m pc ls (.int x :: .ref a :: rest)) := z_pf (ci := 8) (k := 4) (C := RX8) (T := TX8) (N := 6) (ty := .int) (M' := z_i M a 4 x) B hW ha.1 (z_wc8 ha.2) rfl iX8 tyX8 tyX8_ok nmX8 (by decide) hl rfl rfl (by decide +kernel) rfl rfl (by simp) (by rw [z_wc8 ha.2, z_i_eq]; rfl) (fun b hb => z_wc_ne (z_i_ne hb) rfl) hdg kk
theorem z_get_8_3 (B : z_Bd Γ p s m args meth c cc mL ret own) (hW : z_Wd Γ M s.heap H locs) (ha : z_Is Γ 8 a) {index : Nat} (hl : Cond.fieldLink own index "WhisperSeats$Visitor" "seat" "I" ∈ BIG) (hdg : decode cc pc = .ok (.getfield index, 3)) (kk : W p l e R s m args below meth c H locs cells slots Q (F0 m (pc + 3) ls (.int (M.1 a 3) :: rest))) : W p l e R s m args below meth c H locs cells slots Q (F0 m pc ls (.ref a :: rest)) := z_gf (ci := 8) (k := 3) (C := RX8) (T := TX8) (N := 6) B hW ha.1 (z_wc8 ha.2) rfl iX8 (by decide) hl rfl rfl hdg kk
theorem z_put_8_3 (B : z_Bd Γ p s m args meth c cc mL ret own) (hW : z_Wd Γ M s.heap H locs) (ha : z_Is Γ 8 a) {index : Nat} {x : Int32} (hl : Cond.fieldLink own index "WhisperSeats$Visitor" "seat" "I" ∈ BIG) (hdg : decode cc pc = .ok (.putfield index, 3)) (kk : ∀ (H1 : Heap) (locs1 : List Loc), z_Wd Γ (z_i M a 3 x) s.heap H1 locs1 → W p l e R s m args below meth c H1 locs1 cells slots Q (F0 m (pc + 3) ls (rest))) : W p l e R s m args below meth c H locs cells slots Q (F0 m pc ls (.int x :: .ref a :: rest)) := z_pf (ci := 8) (k := 3) (C := RX8) (T := TX8) (N := 6) (ty := .int) (M' := z_i M a 3 x) B hW ha.1 (z_wc8 ha.2) rfl iX8 tyX8 tyX8_ok nmX8 (by decide) hl rfl rfl (by decide +kernel) rfl rfl (by simp) (by rw [z_wc8 ha.2, z_i_eq]; rfl) (fun b hb => z_wc_ne (z_i_ne hb) rfl) hdg kk
theorem z_getN_8_2 (B : z_Bd Γ p s m args meth c cc mL ret own) (hW : z_Wd Γ M s.heap H locs) (ha : z_Is Γ 8 a) {index : Nat} {host : String} (hl : Cond.fieldLinkNest own index "WhisperSeats$Visitor" "believed" "I" host ∈ NW) (hdg : decode cc pc = .ok (.getfield index, 3)) (kk : W p l e R s m args below meth c H locs cells slots Q (F0 m (pc + 3) ls (.int (M.1 a 2) :: rest))) : W p l e R s m args below meth c H locs cells slots Q (F0 m pc ls (.ref a :: rest)) := z_gfN (ci := 8) (k := 2) (C := RX8) (T := TX8) (N := 6) B hW ha.1 (z_wc8 ha.2) rfl iX8 (by decide) hl rfl rfl hdg kk
theorem z_putN_8_2 (B : z_Bd Γ p s m args meth c cc mL ret own) (hW : z_Wd Γ M s.heap H locs) (ha : z_Is Γ 8 a) {index : Nat} {host : String} {x : Int32} (hl : Cond.fieldLinkNest own index "WhisperSeats$Visitor" "believed" "I" host ∈ NW) (hdg : decode cc pc = .ok (.putfield index, 3)) (kk : ∀ (H1 : Heap) (locs1 : List Loc), z_Wd Γ (z_i M a 2 x) s.heap H1 locs1 → W p l e R s m args below meth c H1 locs1 cells slots Q (F0 m (pc + 3) ls (rest))) : W p l e R s m args below meth c H locs cells slots Q (F0 m pc ls (.int x :: .ref a :: rest)) := z_pfN (ci := 8) (k := 2) (C := RX8) (T := TX8) (N := 6) (ty := .int) (M' := z_i M a 2 x) B hW ha.1 (z_wc8 ha.2) rfl iX8 tyX8 tyX8_ok nmX8 (by decide) hl rfl rfl (by decide +kernel) rfl rfl (by simp) (by rw [z_wc8 ha.2, z_i_eq]; rfl) (fun b hb => z_wc_ne (z_i_ne hb) rfl) hdg kk
theorem z_getN_8_5 (B : z_Bd Γ p s m args meth c cc mL ret own) (hW : z_Wd Γ M s.heap H locs) (ha : z_Is Γ 8 a) {index : Nat} {host : String} (hl : Cond.fieldLinkNest own index "WhisperSeats$Visitor" "heard" "I" host ∈ NW) (hdg : decode cc pc = .ok (.getfield index, 3)) (kk : W p l e R s m args below meth c H locs cells slots Q (F0 m (pc + 3) ls (.int (M.1 a 5) :: rest))) : W p l e R s m args below meth c H locs cells slots Q (F0 m pc ls (.ref a :: rest)) := z_gfN (ci := 8) (k := 5) (C := RX8) (T := TX8) (N := 6) B hW ha.1 (z_wc8 ha.2) rfl iX8 (by decide) hl rfl rfl hdg kk
theorem z_putN_8_5 (B : z_Bd Γ p s m args meth c cc mL ret own) (hW : z_Wd Γ M s.heap H locs) (ha : z_Is Γ 8 a) {index : Nat} {host : String} {x : Int32} (hl : Cond.fieldLinkNest own index "WhisperSeats$Visitor" "heard" "I" host ∈ NW) (hdg : decode cc pc = .ok (.putfield index, 3)) (kk : ∀ (H1 : Heap) (locs1 : List Loc), z_Wd Γ (z_i M a 5 x) s.heap H1 locs1 → W p l e R s m args below meth c H1 locs1 cells slots Q (F0 m (pc + 3) ls (rest))) : W p l e R s m args below meth c H locs cells slots Q (F0 m pc ls (.int x :: .ref a :: rest)) := z_pfN (ci := 8) (k := 5) (C := RX8) (T := TX8) (N := 6) (ty := .int) (M' := z_i M a 5 x) B hW ha.1 (z_wc8 ha.2) rfl iX8 tyX8 tyX8_ok nmX8 (by decide) hl rfl rfl (by decide +kernel) rfl rfl (by simp) (by rw [z_wc8 ha.2, z_i_eq]; rfl) (fun b hb => z_wc_ne (z_i_ne hb) rfl) hdg kk
theorem z_getN_8_0 (B : z_Bd Γ p s m args meth c cc mL ret own) (hW : z_Wd Γ M s.heap H locs) (ha : z_Is Γ 8 a) {index : Nat} {host : String} (hl : Cond.fieldLinkNest own index "WhisperSeats$Visitor" "kind" "I" host ∈ NW) (hdg : decode cc pc = .ok (.getfield index, 3)) (kk : W p l e R s m args below meth c H locs cells slots Q (F0 m (pc + 3) ls (.int (M.1 a 0) :: rest))) : W p l e R s m args below meth c H locs cells slots Q (F0 m pc ls (.ref a :: rest)) := z_gfN (ci := 8) (k := 0) (C := RX8) (T := TX8) (N := 6) B hW ha.1 (z_wc8 ha.2) rfl iX8 (by decide) hl rfl rfl hdg kk
theorem z_putN_8_0 (B : z_Bd Γ p s m args meth c cc mL ret own) (hW : z_Wd Γ M s.heap H locs) (ha : z_Is Γ 8 a) {index : Nat} {host : String} {x : Int32} (hl : Cond.fieldLinkNest own index "WhisperSeats$Visitor" "kind" "I" host ∈ NW) (hdg : decode cc pc = .ok (.putfield index, 3)) (kk : ∀ (H1 : Heap) (locs1 : List Loc), z_Wd Γ (z_i M a 0 x) s.heap H1 locs1 → W p l e R s m args below meth c H1 locs1 cells slots Q (F0 m (pc + 3) ls (rest))) : W p l e R s m args below meth c H locs cells slots Q (F0 m pc ls (.int x :: .ref a :: rest)) := z_pfN (ci := 8) (k := 0) (C := RX8) (T := TX8) (N := 6) (ty := .int) (M' := z_i M a 0 x) B hW ha.1 (z_wc8 ha.2) rfl iX8 tyX8 tyX8_ok nmX8 (by decide) hl rfl rfl (by decide +kernel) rfl rfl (by simp) (by rw [z_wc8 ha.2, z_i_eq]; rfl) (fun b hb => z_wc_ne (z_i_ne hb) rfl) hdg kk
theorem z_getN_8_1 (B : z_Bd Γ p s m args meth c cc mL ret own) (hW : z_Wd Γ M s.heap H locs) (ha : z_Is Γ 8 a) {index : Nat} {host : String} (hl : Cond.fieldLinkNest own index "WhisperSeats$Visitor" "known" "I" host ∈ NW) (hdg : decode cc pc = .ok (.getfield index, 3)) (kk : W p l e R s m args below meth c H locs cells slots Q (F0 m (pc + 3) ls (.int (M.1 a 1) :: rest))) : W p l e R s m args below meth c H locs cells slots Q (F0 m pc ls (.ref a :: rest)) := z_gfN (ci := 8) (k := 1) (C := RX8) (T := TX8) (N := 6) B hW ha.1 (z_wc8 ha.2) rfl iX8 (by decide) hl rfl rfl hdg kk
theorem z_putN_8_1 (B : z_Bd Γ p s m args meth c cc mL ret own) (hW : z_Wd Γ M s.heap H locs) (ha : z_Is Γ 8 a) {index : Nat} {host : String} {x : Int32} (hl : Cond.fieldLinkNest own index "WhisperSeats$Visitor" "known" "I" host ∈ NW) (hdg : decode cc pc = .ok (.putfield index, 3)) (kk : ∀ (H1 : Heap) (locs1 : List Loc), z_Wd Γ (z_i M a 1 x) s.heap H1 locs1 → W p l e R s m args below meth c H1 locs1 cells slots Q (F0 m (pc + 3) ls (rest))) : W p l e R s m args below meth c H locs cells slots Q (F0 m pc ls (.int x :: .ref a :: rest)) := z_pfN (ci := 8) (k := 1) (C := RX8) (T := TX8) (N := 6) (ty := .int) (M' := z_i M a 1 x) B hW ha.1 (z_wc8 ha.2) rfl iX8 tyX8 tyX8_ok nmX8 (by decide) hl rfl rfl (by decide +kernel) rfl rfl (by simp) (by rw [z_wc8 ha.2, z_i_eq]; rfl) (fun b hb => z_wc_ne (z_i_ne hb) rfl) hdg kk
theorem z_getN_8_4 (B : z_Bd Γ p s m args meth c cc mL ret own) (hW : z_Wd Γ M s.heap H locs) (ha : z_Is Γ 8 a) {index : Nat} {host : String} (hl : Cond.fieldLinkNest own index "WhisperSeats$Visitor" "sat" "I" host ∈ NW) (hdg : decode cc pc = .ok (.getfield index, 3)) (kk : W p l e R s m args below meth c H locs cells slots Q (F0 m (pc + 3) ls (.int (M.1 a 4) :: rest))) : W p l e R s m args below meth c H locs cells slots Q (F0 m pc ls (.ref a :: rest)) := z_gfN (ci := 8) (k := 4) (C := RX8) (T := TX8) (N := 6) B hW ha.1 (z_wc8 ha.2) rfl iX8 (by decide) hl rfl rfl hdg kk
theorem z_putN_8_4 (B : z_Bd Γ p s m args meth c cc mL ret own) (hW : z_Wd Γ M s.heap H locs) (ha : z_Is Γ 8 a) {index : Nat} {host : String} {x : Int32} (hl : Cond.fieldLinkNest own index "WhisperSeats$Visitor" "sat" "I" host ∈ NW) (hdg : decode cc pc = .ok (.putfield index, 3)) (kk : ∀ (H1 : Heap) (locs1 : List Loc), z_Wd Γ (z_i M a 4 x) s.heap H1 locs1 → W p l e R s m args below meth c H1 locs1 cells slots Q (F0 m (pc + 3) ls (rest))) : W p l e R s m args below meth c H locs cells slots Q (F0 m pc ls (.int x :: .ref a :: rest)) := z_pfN (ci := 8) (k := 4) (C := RX8) (T := TX8) (N := 6) (ty := .int) (M' := z_i M a 4 x) B hW ha.1 (z_wc8 ha.2) rfl iX8 tyX8 tyX8_ok nmX8 (by decide) hl rfl rfl (by decide +kernel) rfl rfl (by simp) (by rw [z_wc8 ha.2, z_i_eq]; rfl) (fun b hb => z_wc_ne (z_i_ne hb) rfl) hdg kk
theorem z_getN_8_3 (B : z_Bd Γ p s m args meth c cc mL ret own) (hW : z_Wd Γ M s.heap H locs) (ha : z_Is Γ 8 a) {index : Nat} {host : String} (hl : Cond.fieldLinkNest own index "WhisperSeats$Visitor" "seat" "I" host ∈ NW) (hdg : decode cc pc = .ok (.getfield index, 3)) (kk : W p l e R s m args below meth c H locs cells slots Q (F0 m (pc + 3) ls (.int (M.1 a 3) :: rest))) : W p l e R s m args below meth c H locs cells slots Q (F0 m pc ls (.ref a :: rest)) := z_gfN (ci := 8) (k := 3) (C := RX8) (T := TX8) (N := 6) B hW ha.1 (z_wc8 ha.2) rfl iX8 (by decide) hl rfl rfl hdg kk
theorem z_putN_8_3 (B : z_Bd Γ p s m args meth c cc mL ret own) (hW : z_Wd Γ M s.heap H locs) (ha : z_Is Γ 8 a) {index : Nat} {host : String} {x : Int32} (hl : Cond.fieldLinkNest own index "WhisperSeats$Visitor" "seat" "I" host ∈ NW) (hdg : decode cc pc = .ok (.putfield index, 3)) (kk : ∀ (H1 : Heap) (locs1 : List Loc), z_Wd Γ (z_i M a 3 x) s.heap H1 locs1 → W p l e R s m args below meth c H1 locs1 cells slots Q (F0 m (pc + 3) ls (rest))) : W p l e R s m args below meth c H locs cells slots Q (F0 m pc ls (.int x :: .ref a :: rest)) := z_pfN (ci := 8) (k := 3) (C := RX8) (T := TX8) (N := 6) (ty := .int) (M' := z_i M a 3 x) B hW ha.1 (z_wc8 ha.2) rfl iX8 tyX8 tyX8_ok nmX8 (by decide) hl rfl rfl (by decide +kernel) rfl rfl (by simp) (by rw [z_wc8 ha.2, z_i_eq]; rfl) (fun b hb => z_wc_ne (z_i_ne hb) rfl) hdg kk
end ZF
end
section
theorem z_Kx.blind {Γ : Zg} {U : State} {g : JFrame} {mk : MethodId} {a : Array Value} (h : z_Kx Γ U U.heap) : z_Kx Γ (U.calling g mk a) (U.calling g mk a).heap := by
  obtain ⟨hK, hN, h1, ⟨a0, a1, a2, a3, a4, a5, a6, a7, a8, a9⟩, h3, h4, h5, h6⟩ := h
  have al : U.vm.Alike (U.calling g mk a).vm := Vm.Alike.refl U.vm
  refine ⟨va_K.moved al hK, fun w hw => ?_, vk_S.moved al h1, ⟨a0.same rfl, a1.same rfl, a2.same rfl, a3.same rfl, a4.same rfl, a5.same rfl, a6.same rfl, a7.same rfl, a8.same rfl, a9.same rfl⟩, va_Z.moved al h3, va_Z.moved al h4, va_T.moved al h5, va_Zq.moved al h6⟩
  have h9 := hN w hw
  have g9 := (List.mem_filter.mp hw).2
  cases w with
  | fieldLinkNest _ _ _ _ _ _ => exact va_Nw.same rfl rfl h9
  | methodLinkNest _ _ _ _ => exact va_Nw.same rfl rfl h9
  | _ => cases g9
theorem z_good {w : Cond} (h : w ∈ BIG) : GoodIn BIG (w :: BIG) := by
  intro x hx
  rcases List.mem_cons.mp hx with rfl | h'
  · exact ⟨h, good_of_word (List.mem_filter.mp h).2⟩
  · exact ⟨h', good_of_word (List.mem_filter.mp h').2⟩
abbrev z_Pc (Γ : Zg) (av : List Value) (M : Zm) : Array Value → State → Prop := va_Pc av (fun U => va_P (z_D Γ) vwCl (va_pl (z_L Γ) (z_wc Γ M)) U.heap ∧ va_D (z_A Γ) (va_pl (z_L Γ) (z_wc Γ M)) ∧ z_Kx Γ U U.heap ∧ z_Gk Γ)
theorem z_blind {Γ : Zg} {av : List Value} {M : Zm} : FrameBlind (z_Pc Γ av M) := fun a U g mk q => ⟨q.1, q.2.1, q.2.2.1, q.2.2.2.1.blind, q.2.2.2.2⟩
/-- what a call asks of the callee alone -/
def z_Sc (y : MethodName) (c2 : ByteArray) (mL2 : Nat) (ret2 : Option FieldType) (n : Nat) : Prop := Cond.initialized y.cls ∈ BIG ∧ Cond.code y c2 mL2 ret2 ∈ BIG ∧ (y.cls ≠ "java/lang/invoke/MethodHandle" ∧ y.cls ≠ "java/lang/invoke/VarHandle" ∧ (parseMethodDescriptor y.desc).map (fun d => d.parameters.length) = some n)
def z_Sv (own : String) (idx ci : Nat) (C : String) (y : MethodName) : Prop := (ci < 12 ∧ ∃ T N, vwCl[ci]? = some (C, T, N)) ∧ Cond.methodLink own idx y ∈ BIG ∧ Cond.instanceMethod y ∈ BIG ∧ Cond.selects C y y ∈ BIG
theorem z_obj {Γ : Zg} {M : Zm} {b ci : Nat} (h : z_k Γ b = ci) (hc : ci < 12) : ∃ fs, z_wc Γ M b = .inr (ci, fs) := by
  subst h
  rcases (show z_k Γ b = 0 ∨ z_k Γ b = 1 ∨ z_k Γ b = 2 ∨ z_k Γ b = 3 ∨ z_k Γ b = 4 ∨ z_k Γ b = 5 ∨ z_k Γ b = 6 ∨ z_k Γ b = 7 ∨ z_k Γ b = 8 ∨ z_k Γ b = 9 ∨ z_k Γ b = 10 ∨ z_k Γ b = 11 by omega) with h | h | h | h | h | h | h | h | h | h | h | h
  · exact ⟨_, by rw [z_wc0 h, h]⟩
  · exact ⟨_, by rw [z_wc1 h, h]⟩
  · exact ⟨_, by rw [z_wc2 h, h]⟩
  · exact ⟨_, by rw [z_wc3 h, h]⟩
  · exact ⟨_, by rw [z_wc4 h, h]⟩
  · exact ⟨_, by rw [z_wc5 h, h]⟩
  · exact ⟨_, by rw [z_wc6 h, h]⟩
  · exact ⟨_, by rw [z_wc7 h, h]⟩
  · exact ⟨_, by rw [z_wc8 h, h]⟩
  · exact ⟨_, by rw [z_wc9 h, h]⟩
  · exact ⟨_, by rw [z_wc10 h, h]⟩
  · exact ⟨_, by rw [z_wc11 h, h]⟩
section ZCALLS
variable {p : Program} {l : Launch} {e : Env} {R : Room} {s : State} {m : MethodId} {args : Array Value} {below : List Frame} {meth : Method} {c : Code} {H : Heap} {locs : List Loc} {cells slots : Nat} {Q : State → Prop} {cc : ByteArray} {pc : Nat} {ls : Array Slot} {rest : List Value} {Γ : Zg} {M : Zm} {mL : Nat} {ret : Option FieldType} {own : String}
theorem z_recv (B : z_Bd Γ p s m args meth c cc mL ret own) (hW : z_Wd Γ M s.heap H locs) {b ci : Nat} {C : String} (hb : z_Is Γ ci b) (hc : ci < 12 ∧ ∃ T N, vwCl[ci]? = some (C, T, N)) : ∃ cell : Cell, H[b]? = some cell ∧ cell.vm.isStatics = false ∧ s.vm.findClass C = some cell.cls := by
  obtain ⟨h1, T, N, hcl⟩ := hc
  obtain ⟨fs, hfs⟩ := z_obj (M := M) hb.2 h1
  obtain ⟨q, hq⟩ := z_at hW hb.1 hfs
  exact va_recv B.2.2.2.2.2.1.1 hW.1 hcl hq
theorem z_go {o : Option Value} {M' : Zm} {a : Array Value} {st : List Value} (hr : va_Run p l e R s m args below meth c H locs cells slots 0 0 (F0 m pc ls st) rest (z_Qc Γ o M' a) (z_A Γ)) (hW : z_Wd Γ M s.heap H locs) (kk : ∀ (H1 : Heap) (locs1 : List Loc), z_Wd Γ M' s.heap H1 locs1 → W p l e R s m args below meth c H1 locs1 cells slots Q (F0 m (pc + 3) ls (o.toList ++ rest))) : W p l e R s m args below meth c H locs cells slots Q (F0 m pc ls (st)) := by
  intro T hT X
  obtain ⟨v, st₀, t, T', L, h0, X', hL, e1, e2, ⟨hv, hP, hD, hz, hk⟩, stp⟩ := hr T hT X
  cases hv
  rw [h0] at hz hk
  obtain ⟨t2, a1, b1⟩ := kk T'.heap (locs ++ L) ⟨by rw [e1]; exact hP, hD, Nat.le_trans hW.2.2.1 (by rw [e1]; exact hz), fun q h1 h2 => by rw [e1, hk q (Nat.lt_of_lt_of_le h1 hW.2.2.1) h2]; exact hW.2.2.2.1 q h1 h2, fun q hq => by
    rcases List.mem_append.mp hq with h | h
    · exact hW.2.2.2.2 q h
    · exact hL q h⟩ T' rfl X'
  exact ⟨t2, stp t2 a1, b1⟩
theorem z_cV (B : z_Bd Γ p s m args meth c cc mL ret own) (hW : z_Wd Γ M s.heap H locs) {y : MethodName} {c2 : ByteArray} {mL2 fr lo n idx : Nat} {ret2 : Option FieldType} {As : List Value} {o : Option Value} {M' : Zm} {st : List Value} {b ci : Nat} {C : String} (hF : z_Fn l Γ y c2 mL2 ret2 fr lo (.ref b :: As) M o M') (hs : z_Sc y c2 mL2 ret2 n) (hv : z_Sv own idx ci C y) (hb : z_Is Γ ci b) (hR : fr + 1 ≤ R.frames ∧ 8 + (mL2 + 11) + lo ≤ R.locals) (hcs : cells ≤ R.cells ∧ slots ≤ R.slots) (hn : As.length = n) (hsz : ls.size = mL) (hst : st = As.reverse ++ .ref b :: rest) (hrm : (rest.map fun v => v.category).sum ≤ 8) (hdg : decode cc pc = .ok (.invokevirtual idx, 3)) (kk : ∀ (H1 : Heap) (locs1 : List Loc), z_Wd Γ M' s.heap H1 locs1 → W p l e R s m args below meth c H1 locs1 cells slots Q (F0 m (pc + 3) ls (o.toList ++ rest))) : W p l e R s m args below meth c H locs cells slots Q (F0 m pc ls (st)) := by
  refine z_go (va_runV (C := C) ⟨B.1, B.2.1, B.2.2.1, B.2.2.2.1, B.2.2.2.2.1⟩ hF ⟨callB_of n B.2.2.2.2.1 (z_good hs.2.1) rfl rfl rfl (B.2.2.2.2.1 _ hs.1) (B.2.2.2.2.1 _ hv.2.1) hs.2.2 hR, B.2.2.2.2.1 _ hv.2.2.1, B.2.2.2.2.1 _ hv.2.2.2⟩ ⟨z_blind, z_recv B hW hb hv.1, fun U hU hw => ⟨rfl, by rw [hU]; exact hW.1, hW.2.1, B.2.2.2.2.2.1.pass hW.2.2 hU hw, B.2.2.2.2.2.2.1⟩⟩ rfl hn hsz hst (lv_room hrm) hdg hcs) hW kk
theorem z_cS (B : z_Bd Γ p s m args meth c cc mL ret own) (hW : z_Wd Γ M s.heap H locs) {y : MethodName} {c2 : ByteArray} {mL2 fr lo n idx : Nat} {ret2 : Option FieldType} {As : List Value} {o : Option Value} {M' : Zm} {st : List Value} (hF : z_Fn l Γ y c2 mL2 ret2 fr lo As M o M') (hs : z_Sc y c2 mL2 ret2 n) (hv : Cond.methodLink own idx y ∈ BIG ∧ Cond.static y ∈ BIG) (hR : fr + 1 ≤ R.frames ∧ 8 + (mL2 + 11) + lo ≤ R.locals) (hcs : cells ≤ R.cells ∧ slots ≤ R.slots) (hn : As.length = n) (hsz : ls.size = mL) (hst : st = As.reverse ++ rest) (hrm : (rest.map fun v => v.category).sum ≤ 8) (hdg : decode cc pc = .ok (.invokestatic idx, 3)) (kk : ∀ (H1 : Heap) (locs1 : List Loc), z_Wd Γ M' s.heap H1 locs1 → W p l e R s m args below meth c H1 locs1 cells slots Q (F0 m (pc + 3) ls (o.toList ++ rest))) : W p l e R s m args below meth c H locs cells slots Q (F0 m pc ls (st)) := by
  refine z_go (va_runS ⟨B.1, B.2.1, B.2.2.1, B.2.2.2.1, B.2.2.2.2.1⟩ hF ⟨callB_of n B.2.2.2.2.1 (z_good hs.2.1) rfl rfl rfl (B.2.2.2.2.1 _ hs.1) (B.2.2.2.2.1 _ hv.1) hs.2.2 hR, B.2.2.2.2.1 _ hv.2⟩ ⟨z_blind, fun U hU hw => ⟨rfl, by rw [hU]; exact hW.1, hW.2.1, B.2.2.2.2.2.1.pass hW.2.2 hU hw, B.2.2.2.2.2.2.1⟩⟩ rfl hn hsz hst (lv_room hrm) hdg hcs) hW kk
theorem z_cSN (B : z_Bd Γ p s m args meth c cc mL ret own) (hW : z_Wd Γ M s.heap H locs) {y : MethodName} {c2 : ByteArray} {mL2 fr lo n idx : Nat} {ret2 : Option FieldType} {As : List Value} {o : Option Value} {M' : Zm} {st : List Value} {host : String} (hF : z_Fn l Γ y c2 mL2 ret2 fr lo As M o M') (hs : z_Sc y c2 mL2 ret2 n) (hv : Cond.methodLinkNest own idx y host ∈ NW ∧ Cond.static y ∈ BIG) (hR : fr + 1 ≤ R.frames ∧ 8 + (mL2 + 11) + lo ≤ R.locals) (hcs : cells ≤ R.cells ∧ slots ≤ R.slots) (hn : As.length = n) (hsz : ls.size = mL) (hst : st = As.reverse ++ rest) (hrm : (rest.map fun v => v.category).sum ≤ 8) (hdg : decode cc pc = .ok (.invokestatic idx, 3)) (kk : ∀ (H1 : Heap) (locs1 : List Loc), z_Wd Γ M' s.heap H1 locs1 → W p l e R s m args below meth c H1 locs1 cells slots Q (F0 m (pc + 3) ls (o.toList ++ rest))) : W p l e R s m args below meth c H locs cells slots Q (F0 m pc ls (st)) := by
  refine z_go (va_runSN (host := host) ⟨B.1, B.2.1, B.2.2.1, B.2.2.2.1, B.2.2.2.2.1⟩ hF ⟨va_cnB n B.2.2.2.2.1 (z_good hs.2.1) rfl rfl rfl (B.2.2.2.2.2.1.2.1 _ hv.1) (B.2.2.2.2.1 _ hs.1) hs.2.2 hR, B.2.2.2.2.1 _ hv.2, trivial⟩ ⟨z_blind, fun U hU hw => ⟨rfl, by rw [hU]; exact hW.1, hW.2.1, B.2.2.2.2.2.1.pass hW.2.2 hU hw, B.2.2.2.2.2.2.1⟩⟩ rfl hn hsz hst (lv_room hrm) hdg hcs) hW kk
/-- a call through a class above: x is named, y is selected -/
def z_Su (own : String) (idx ci : Nat) (C owner : String) (x y : MethodName) (n : Nat) : Prop := (ci < 12 ∧ ∃ T N, vwCl[ci]? = some (C, T, N)) ∧ Cond.methodLink own idx x ∈ BIG ∧ Cond.sameMethod x.cls owner x.name x.desc ∈ BIG ∧ Cond.selects C x y ∈ BIG ∧ Cond.instanceMethod y ∈ BIG ∧ (Cond.instanceMethod ⟨owner, x.name, x.desc⟩ ∈ BIG ∧ ∃ b0 m0 r0, Cond.code ⟨owner, x.name, x.desc⟩ b0 m0 r0 ∈ BIG) ∧ (owner ≠ "java/lang/invoke/MethodHandle" ∧ owner ≠ "java/lang/invoke/VarHandle") ∧ (parseMethodDescriptor x.desc).map (fun d => d.parameters.length) = some n
theorem z_cU (B : z_Bd Γ p s m args meth c cc mL ret own) (hW : z_Wd Γ M s.heap H locs) {y : MethodName} {c2 : ByteArray} {mL2 fr lo n idx : Nat} {ret2 : Option FieldType} {As : List Value} {o : Option Value} {M' : Zm} {st : List Value} {b ci : Nat} {C owner : String} {x : MethodName} (hF : z_Fn l Γ y c2 mL2 ret2 fr lo (.ref b :: As) M o M') (hs : z_Sc y c2 mL2 ret2 n) (hv : z_Su own idx ci C owner x y n) (hb : z_Is Γ ci b) (hR : fr + 1 ≤ R.frames ∧ 8 + (mL2 + 11) + lo ≤ R.locals) (hcs : cells ≤ R.cells ∧ slots ≤ R.slots) (hn : As.length = n) (hsz : ls.size = mL) (hst : st = As.reverse ++ .ref b :: rest) (hrm : (rest.map fun v => v.category).sum ≤ 8) (hdg : decode cc pc = .ok (.invokevirtual idx, 3)) (kk : ∀ (H1 : Heap) (locs1 : List Loc), z_Wd Γ M' s.heap H1 locs1 → W p l e R s m args below meth c H1 locs1 cells slots Q (F0 m (pc + 3) ls (o.toList ++ rest))) : W p l e R s m args below meth c H locs cells slots Q (F0 m pc ls (st)) := by
  have hG := z_good hs.2.1
  obtain ⟨b0, m0, r0, h0⟩ := hv.2.2.2.2.2.1.2
  have hd := hv.2.2.2.2.2.2.2
  have cw : va_CU R s args own C owner idx x y c2 mL2 ret2 (Cond.code y c2 mL2 ret2 :: BIG) (z_rm fr lo) 0 0 n := ⟨⟨rfl, rfl, hR.1, hR.2, pay_in B.2.2.2.2.1 hG, List.mem_cons_self⟩, B.2.2.2.2.1 _ hs.2.1, B.2.2.2.2.1 _ hs.1, hv.2.2.2.2.2.2.1, fun sig h => by rw [h] at hd; exact (Option.some.inj hd).symm, B.2.2.2.2.1 _ hv.2.1, B.2.2.2.2.1 _ hv.2.2.1, va_Decl.of (B.2.2.2.2.1 _ hv.2.2.2.2.2.1.1) (B.2.2.2.2.1 _ h0), B.2.2.2.2.1 _ hv.2.2.2.1, B.2.2.2.2.1 _ hv.2.2.2.2.1⟩
  exact z_go (va_runU ⟨B.1, B.2.1, B.2.2.1, B.2.2.2.1, B.2.2.2.2.1⟩ hF cw ⟨z_blind, z_recv B hW hb hv.1, fun U hU hw => ⟨rfl, by rw [hU]; exact hW.1, hW.2.1, B.2.2.2.2.2.1.pass hW.2.2 hU hw, B.2.2.2.2.2.2.1⟩⟩ rfl hn hsz hst (lv_room hrm) hdg hcs) hW kk
def z_Ss (own : String) (idx : Nat) (y : MethodName) : Prop := Cond.methodLink own idx y ∈ BIG ∧ Cond.sameMethod y.cls y.cls y.name y.desc ∈ BIG ∧ Cond.superclass own y.cls ∈ BIG ∧ Cond.instanceMethod y ∈ BIG ∧ y.name ≠ "<init>"
theorem z_clat (B : z_Bd Γ p s m args meth c cc mL ret own) {ci : Nat} {C : String} (hv : ci < 12 ∧ ∃ T N, vwCl[ci]? = some (C, T, N)) : ∃ cC, ClassAt s C cC := by
  obtain ⟨-, T, N, hcl⟩ := hv
  exact ⟨_, (B.2.2.2.2.2.1.1.1 ci _ hcl).2⟩
theorem z_cSU (B : z_Bd Γ p s m args meth c cc mL ret own) (hW : z_Wd Γ M s.heap H locs) {y : MethodName} {c2 : ByteArray} {mL2 fr lo n idx : Nat} {ret2 : Option FieldType} {As : List Value} {o : Option Value} {M' : Zm} {st : List Value} {b ci : Nat} {C : String} (hF : z_Fn l Γ y c2 mL2 ret2 fr lo (.ref b :: As) M o M') (hs : z_Sc y c2 mL2 ret2 n) (hS : z_Ss own idx y) (hv : (ci < 12 ∧ ∃ T N, vwCl[ci]? = some (C, T, N)) ∧ True) (hb : z_Is Γ ci b) (hR : fr + 1 ≤ R.frames ∧ 8 + (mL2 + 11) + lo ≤ R.locals) (hcs : cells ≤ R.cells ∧ slots ≤ R.slots) (hn : As.length = n) (hsz : ls.size = mL) (hst : st = As.reverse ++ .ref b :: rest) (hrm : (rest.map fun v => v.category).sum ≤ 8) (hdg : decode cc pc = .ok (.invokespecial idx, 3)) (kk : ∀ (H1 : Heap) (locs1 : List Loc), z_Wd Γ M' s.heap H1 locs1 → W p l e R s m args below meth c H1 locs1 cells slots Q (F0 m (pc + 3) ls (o.toList ++ rest))) : W p l e R s m args below meth c H locs cells slots Q (F0 m pc ls (st)) := by
  have hG := z_good hs.2.1
  obtain ⟨cC, hat⟩ := z_clat B hv.1
  have hd := hs.2.2.2.2
  have cw : va_CS R s args own idx y c2 mL2 ret2 (Cond.code y c2 mL2 ret2 :: BIG) (z_rm fr lo) 0 0 n := ⟨⟨rfl, rfl, hR.1, hR.2, pay_in B.2.2.2.2.1 hG, List.mem_cons_self⟩, B.2.2.2.2.1 _ hS.1, B.2.2.2.2.1 _ hS.2.1, B.2.2.2.2.1 _ hS.2.2.1, B.2.2.2.2.1 _ hS.2.2.2.1, B.2.2.2.2.1 _ hs.1, B.2.2.2.2.1 _ hs.2.1, hS.2.2.2.2, fun sig h => by rw [h] at hd; exact (Option.some.inj hd).symm⟩
  exact z_go (va_runSU hat ⟨B.1, B.2.1, B.2.2.1, B.2.2.2.1, B.2.2.2.2.1⟩ hF cw ⟨z_blind, z_recv B hW hb hv.1, fun U hU hw => ⟨rfl, by rw [hU]; exact hW.1, hW.2.1, B.2.2.2.2.2.1.pass hW.2.2 hU hw, B.2.2.2.2.2.2.1⟩⟩ rfl hn hsz hst (lv_room hrm) hdg hcs) hW kk
theorem z_ri (B : z_Bd Γ p s m args meth c cc mL (some .int) own) (hW : z_Wd Γ M s.heap H locs) {v : Int32} (hdg : decode cc pc = .ok (.ireturn, 1)) : W p l e R s m args below meth c H locs 0 0 (z_Q Γ below args s (some (.int v)) M) (F0 m pc ls [.int v]) := W.iret B.1 B.2.1 B.2.2.2.2.2.2.2.1 (fun t ht _ => ⟨rfl, by rw [ht]; exact hW.1, hW.2.1, hW.2.2.F ht⟩) hW.2.2.2.2 hdg B.2.2.2.2.2.2.2.2
theorem z_rz (B : z_Bd Γ p s m args meth c cc mL (some .boolean) own) (hW : z_Wd Γ M s.heap H locs) {v : Int32} (hz : v = 0 ∨ v = 1) (hdg : decode cc pc = .ok (.ireturn, 1)) : W p l e R s m args below meth c H locs 0 0 (z_Q Γ below args s (some (.int v)) M) (F0 m pc ls [.int v]) := W.zret B.1 B.2.1 B.2.2.2.2.2.2.2.1 (z_nz hz) (fun t ht _ => ⟨rfl, by rw [ht]; exact hW.1, hW.2.1, hW.2.2.F ht⟩) hW.2.2.2.2 hdg B.2.2.2.2.2.2.2.2
theorem z_rn {ty : FieldType} (B : z_Bd Γ p s m args meth c cc mL (some ty) own) (hW : z_Wd Γ M s.heap H locs) {v : Int32} (hz : narrow ty (.int v) = .int v) (hdg : decode cc pc = .ok (.ireturn, 1)) : W p l e R s m args below meth c H locs 0 0 (z_Q Γ below args s (some (.int v)) M) (F0 m pc ls [.int v]) := W.zret B.1 B.2.1 B.2.2.2.2.2.2.2.1 hz (fun t ht _ => ⟨rfl, by rw [ht]; exact hW.1, hW.2.1, hW.2.2.F ht⟩) hW.2.2.2.2 hdg B.2.2.2.2.2.2.2.2
theorem z_rl (B : z_Bd Γ p s m args meth c cc mL (some .long) own) (hW : z_Wd Γ M s.heap H locs) {v : Int64} (hdg : decode cc pc = .ok (.lreturn, 1)) : W p l e R s m args below meth c H locs 0 0 (z_Q Γ below args s (some (.long v)) M) (F0 m pc ls [.long v]) := W.lret B.1 B.2.1 B.2.2.2.2.2.2.2.1 (fun t ht _ => ⟨rfl, by rw [ht]; exact hW.1, hW.2.1, hW.2.2.F ht⟩) hW.2.2.2.2 hdg B.2.2.2.2.2.2.2.2
theorem z_rv (B : z_Bd Γ p s m args meth c cc mL none own) (hW : z_Wd Γ M s.heap H locs)  (hdg : decode cc pc = .ok (.return_, 1)) : W p l e R s m args below meth c H locs 0 0 (z_Q Γ below args s (none) M) (F0 m pc ls []) := W.vret B.1 B.2.1 B.2.2.2.2.2.2.2.1 (fun t ht _ => ⟨rfl, by rw [ht]; exact hW.1, hW.2.1, hW.2.2.F ht⟩) hW.2.2.2.2 hdg B.2.2.2.2.2.2.2.2
theorem z_ra {C : String} (B : z_Bd Γ p s m args meth c cc mL (some (.object C)) own) (hW : z_Wd Γ M s.heap H locs) {v : Nat} (hdg : decode cc pc = .ok (.areturn, 1)) : W p l e R s m args below meth c H locs 0 0 (z_Q Γ below args s (some (.ref v)) M) (F0 m pc ls [.ref v]) := W.aret B.1 B.2.1 B.2.2.2.2.2.2.2.1 (Or.inl ⟨_, rfl⟩) (Or.inr ⟨_, rfl⟩) (fun t ht _ => ⟨rfl, by rw [ht]; exact hW.1, hW.2.1, hW.2.2.F ht⟩) hW.2.2.2.2 hdg B.2.2.2.2.2.2.2.2
end ZCALLS
end
