section
-- ===== PART A: goes FIRST, ahead of the names: the tables' words, and 'selects' of the private methods out of them =====
/-- a private method of a class that the tables say can be made, by its rows of tables_1 -/
def lw_okq (q : MethodName × Nat) : Prop := (q.1.cls ≠ "java/lang/invoke/MethodHandle" ∧ q.1.cls ≠ "java/lang/invoke/VarHandle") ∧ Cond.instantiable q.1.cls q.2 ∈ tables_1 ∧ Cond.privateMethod q.1 ∈ tables_1 ∧ Cond.instanceMethod q.1 ∈ tables_1
theorem lw_p0 : lw_okq (⟨"java/lang/Throwable", "fillInStackTrace", "(I)Ljava/lang/Throwable;"⟩, 6) := ⟨⟨by decide +kernel, by decide +kernel⟩, List.mem_of_getElem? (i := 269) (by decide +kernel), List.mem_of_getElem? (i := 267) (by decide +kernel), List.mem_of_getElem? (i := 268) (by decide +kernel)⟩
theorem lw_p1 : lw_okq (⟨"VaneVotes", "hoursUntilGround", "(I)I"⟩, 8) := ⟨⟨by decide +kernel, by decide +kernel⟩, List.mem_of_getElem? (i := 16) (by decide +kernel), List.mem_of_getElem? (i := 365) (by decide +kernel), List.mem_of_getElem? (i := 366) (by decide +kernel)⟩
theorem lw_p2 : lw_okq (⟨"VaneVotes", "saveState", "()V"⟩, 8) := ⟨⟨by decide +kernel, by decide +kernel⟩, List.mem_of_getElem? (i := 16) (by decide +kernel), List.mem_of_getElem? (i := 410) (by decide +kernel), List.mem_of_getElem? (i := 411) (by decide +kernel)⟩
theorem lw_p3 : lw_okq (⟨"VaneVotes$Mill", "dropFirst", "(I)V"⟩, 5) := ⟨⟨by decide +kernel, by decide +kernel⟩, List.mem_of_getElem? (i := 33) (by decide +kernel), List.mem_of_getElem? (i := 504) (by decide +kernel), List.mem_of_getElem? (i := 505) (by decide +kernel)⟩
theorem lw_p4 : lw_okq (⟨"VaneVotesModel", "record", "()V"⟩, 10) := ⟨⟨by decide +kernel, by decide +kernel⟩, List.mem_of_getElem? (i := 587) (by decide +kernel), List.mem_of_getElem? (i := 643) (by decide +kernel), List.mem_of_getElem? (i := 644) (by decide +kernel)⟩
theorem lw_p5 : lw_okq (⟨"VaneVotesModel", "change", "(II)I"⟩, 10) := ⟨⟨by decide +kernel, by decide +kernel⟩, List.mem_of_getElem? (i := 587) (by decide +kernel), List.mem_of_getElem? (i := 658) (by decide +kernel), List.mem_of_getElem? (i := 659) (by decide +kernel)⟩
theorem lw_p6 : lw_okq (⟨"VaneVotesModel", "millAt", "(II)I"⟩, 10) := ⟨⟨by decide +kernel, by decide +kernel⟩, List.mem_of_getElem? (i := 587) (by decide +kernel), List.mem_of_getElem? (i := 674) (by decide +kernel), List.mem_of_getElem? (i := 675) (by decide +kernel)⟩
theorem lw_p7 : lw_okq (⟨"VaneVotesModel", "addToMill", "(III)V"⟩, 10) := ⟨⟨by decide +kernel, by decide +kernel⟩, List.mem_of_getElem? (i := 587) (by decide +kernel), List.mem_of_getElem? (i := 678) (by decide +kernel), List.mem_of_getElem? (i := 679) (by decide +kernel)⟩
theorem lw_p8 : lw_okq (⟨"VaneVotesModel", "addToOwner", "(III)V"⟩, 10) := ⟨⟨by decide +kernel, by decide +kernel⟩, List.mem_of_getElem? (i := 587) (by decide +kernel), List.mem_of_getElem? (i := 682) (by decide +kernel), List.mem_of_getElem? (i := 683) (by decide +kernel)⟩
theorem lw_p9 : lw_okq (⟨"VaneVotesModel", "waiting", "(I)I"⟩, 10) := ⟨⟨by decide +kernel, by decide +kernel⟩, List.mem_of_getElem? (i := 587) (by decide +kernel), List.mem_of_getElem? (i := 686) (by decide +kernel), List.mem_of_getElem? (i := 687) (by decide +kernel)⟩
theorem lw_p10 : lw_okq (⟨"VaneVotesModel", "doHours", "(I)I"⟩, 10) := ⟨⟨by decide +kernel, by decide +kernel⟩, List.mem_of_getElem? (i := 587) (by decide +kernel), List.mem_of_getElem? (i := 699) (by decide +kernel), List.mem_of_getElem? (i := 700) (by decide +kernel)⟩
theorem lw_p11 : lw_okq (⟨"VaneVotesModel", "doHour", "()I"⟩, 10) := ⟨⟨by decide +kernel, by decide +kernel⟩, List.mem_of_getElem? (i := 587) (by decide +kernel), List.mem_of_getElem? (i := 703) (by decide +kernel), List.mem_of_getElem? (i := 704) (by decide +kernel)⟩
theorem lw_p12 : lw_okq (⟨"VaneVotesModel", "much", "(II)I"⟩, 10) := ⟨⟨by decide +kernel, by decide +kernel⟩, List.mem_of_getElem? (i := 587) (by decide +kernel), List.mem_of_getElem? (i := 707) (by decide +kernel), List.mem_of_getElem? (i := 708) (by decide +kernel)⟩
theorem lw_p13 : lw_okq (⟨"VaneVotesModel", "whyNot", "(I)I"⟩, 10) := ⟨⟨by decide +kernel, by decide +kernel⟩, List.mem_of_getElem? (i := 587) (by decide +kernel), List.mem_of_getElem? (i := 711) (by decide +kernel), List.mem_of_getElem? (i := 712) (by decide +kernel)⟩
theorem lw_p14 : lw_okq (⟨"VaneVotesModel", "committee", "()I"⟩, 10) := ⟨⟨by decide +kernel, by decide +kernel⟩, List.mem_of_getElem? (i := 587) (by decide +kernel), List.mem_of_getElem? (i := 715) (by decide +kernel), List.mem_of_getElem? (i := 716) (by decide +kernel)⟩
theorem lw_p15 : lw_okq (⟨"VaneVotesModel", "vaneAt", "(II)I"⟩, 10) := ⟨⟨by decide +kernel, by decide +kernel⟩, List.mem_of_getElem? (i := 587) (by decide +kernel), List.mem_of_getElem? (i := 719) (by decide +kernel), List.mem_of_getElem? (i := 720) (by decide +kernel)⟩
def lw_privs_1 : List (MethodName × Nat) := [(⟨"java/lang/Throwable", "fillInStackTrace", "(I)Ljava/lang/Throwable;"⟩, 6), (⟨"VaneVotes", "hoursUntilGround", "(I)I"⟩, 8), (⟨"VaneVotes", "saveState", "()V"⟩, 8), (⟨"VaneVotes$Mill", "dropFirst", "(I)V"⟩, 5), (⟨"VaneVotesModel", "record", "()V"⟩, 10), (⟨"VaneVotesModel", "change", "(II)I"⟩, 10), (⟨"VaneVotesModel", "millAt", "(II)I"⟩, 10), (⟨"VaneVotesModel", "addToMill", "(III)V"⟩, 10), (⟨"VaneVotesModel", "addToOwner", "(III)V"⟩, 10), (⟨"VaneVotesModel", "waiting", "(I)I"⟩, 10), (⟨"VaneVotesModel", "doHours", "(I)I"⟩, 10), (⟨"VaneVotesModel", "doHour", "()I"⟩, 10), (⟨"VaneVotesModel", "much", "(II)I"⟩, 10), (⟨"VaneVotesModel", "whyNot", "(I)I"⟩, 10), (⟨"VaneVotesModel", "committee", "()I"⟩, 10), (⟨"VaneVotesModel", "vaneAt", "(II)I"⟩, 10)]
theorem lw_r1 : ∀ q ∈ lw_privs_1, lw_okq q := List.forall_mem_cons.mpr ⟨lw_p0, List.forall_mem_cons.mpr ⟨lw_p1, List.forall_mem_cons.mpr ⟨lw_p2, List.forall_mem_cons.mpr ⟨lw_p3, List.forall_mem_cons.mpr ⟨lw_p4, List.forall_mem_cons.mpr ⟨lw_p5, List.forall_mem_cons.mpr ⟨lw_p6, List.forall_mem_cons.mpr ⟨lw_p7, List.forall_mem_cons.mpr ⟨lw_p8, List.forall_mem_cons.mpr ⟨lw_p9, List.forall_mem_cons.mpr ⟨lw_p10, List.forall_mem_cons.mpr ⟨lw_p11, List.forall_mem_cons.mpr ⟨lw_p12, List.forall_mem_cons.mpr ⟨lw_p13, List.forall_mem_cons.mpr ⟨lw_p14, List.forall_mem_cons.mpr ⟨lw_p15, fun _ h => absurd h List.not_mem_nil⟩⟩⟩⟩⟩⟩⟩⟩⟩⟩⟩⟩⟩⟩⟩⟩
theorem lw_p16 : lw_okq (⟨"VaneVotesModel", "agreeing", "(I)I"⟩, 10) := ⟨⟨by decide +kernel, by decide +kernel⟩, List.mem_of_getElem? (i := 587) (by decide +kernel), List.mem_of_getElem? (i := 723) (by decide +kernel), List.mem_of_getElem? (i := 724) (by decide +kernel)⟩
theorem lw_p17 : lw_okq (⟨"VaneVotesModel", "agrees", "(II)Z"⟩, 10) := ⟨⟨by decide +kernel, by decide +kernel⟩, List.mem_of_getElem? (i := 587) (by decide +kernel), List.mem_of_getElem? (i := 727) (by decide +kernel), List.mem_of_getElem? (i := 728) (by decide +kernel)⟩
theorem lw_p18 : lw_okq (⟨"VaneVotesModel", "grind", "(II)I"⟩, 10) := ⟨⟨by decide +kernel, by decide +kernel⟩, List.mem_of_getElem? (i := 587) (by decide +kernel), List.mem_of_getElem? (i := 731) (by decide +kernel), List.mem_of_getElem? (i := 732) (by decide +kernel)⟩
theorem lw_p19 : lw_okq (⟨"VaneVotesModel", "dropFirst", "(I)V"⟩, 10) := ⟨⟨by decide +kernel, by decide +kernel⟩, List.mem_of_getElem? (i := 587) (by decide +kernel), List.mem_of_getElem? (i := 735) (by decide +kernel), List.mem_of_getElem? (i := 736) (by decide +kernel)⟩
theorem lw_p20 : lw_okq (⟨"VaneVotesModel", "findError", "()I"⟩, 10) := ⟨⟨by decide +kernel, by decide +kernel⟩, List.mem_of_getElem? (i := 587) (by decide +kernel), List.mem_of_getElem? (i := 751) (by decide +kernel), List.mem_of_getElem? (i := 752) (by decide +kernel)⟩
theorem lw_p21 : lw_okq (⟨"VaneVotesModel", "readWind", "(I)I"⟩, 10) := ⟨⟨by decide +kernel, by decide +kernel⟩, List.mem_of_getElem? (i := 587) (by decide +kernel), List.mem_of_getElem? (i := 755) (by decide +kernel), List.mem_of_getElem? (i := 756) (by decide +kernel)⟩
theorem lw_p22 : lw_okq (⟨"VaneVotesModel", "at", "(I)I"⟩, 10) := ⟨⟨by decide +kernel, by decide +kernel⟩, List.mem_of_getElem? (i := 587) (by decide +kernel), List.mem_of_getElem? (i := 759) (by decide +kernel), List.mem_of_getElem? (i := 760) (by decide +kernel)⟩
theorem lw_p23 : lw_okq (⟨"VaneVotesModel", "hoursOfDay", "()I"⟩, 10) := ⟨⟨by decide +kernel, by decide +kernel⟩, List.mem_of_getElem? (i := 587) (by decide +kernel), List.mem_of_getElem? (i := 767) (by decide +kernel), List.mem_of_getElem? (i := 768) (by decide +kernel)⟩
theorem lw_p24 : lw_okq (⟨"VaneVotesModel", "hourNow", "(II)I"⟩, 10) := ⟨⟨by decide +kernel, by decide +kernel⟩, List.mem_of_getElem? (i := 587) (by decide +kernel), List.mem_of_getElem? (i := 775) (by decide +kernel), List.mem_of_getElem? (i := 776) (by decide +kernel)⟩
theorem lw_p25 : lw_okq (⟨"VaneVotesModel", "vaneNow", "(II)I"⟩, 10) := ⟨⟨by decide +kernel, by decide +kernel⟩, List.mem_of_getElem? (i := 587) (by decide +kernel), List.mem_of_getElem? (i := 783) (by decide +kernel), List.mem_of_getElem? (i := 784) (by decide +kernel)⟩
theorem lw_p26 : lw_okq (⟨"VaneVotesModel", "agreeingHours", "(I)I"⟩, 10) := ⟨⟨by decide +kernel, by decide +kernel⟩, List.mem_of_getElem? (i := 587) (by decide +kernel), List.mem_of_getElem? (i := 787) (by decide +kernel), List.mem_of_getElem? (i := 788) (by decide +kernel)⟩
theorem lw_p27 : lw_okq (⟨"VaneVotesModel", "matters", "(I)I"⟩, 10) := ⟨⟨by decide +kernel, by decide +kernel⟩, List.mem_of_getElem? (i := 587) (by decide +kernel), List.mem_of_getElem? (i := 791) (by decide +kernel), List.mem_of_getElem? (i := 792) (by decide +kernel)⟩
theorem lw_p28 : lw_okq (⟨"VaneVotesModel", "millNow", "(II)I"⟩, 10) := ⟨⟨by decide +kernel, by decide +kernel⟩, List.mem_of_getElem? (i := 587) (by decide +kernel), List.mem_of_getElem? (i := 799) (by decide +kernel), List.mem_of_getElem? (i := 800) (by decide +kernel)⟩
theorem lw_p29 : lw_okq (⟨"VaneVotesModel", "muchInDay", "(I)I"⟩, 10) := ⟨⟨by decide +kernel, by decide +kernel⟩, List.mem_of_getElem? (i := 587) (by decide +kernel), List.mem_of_getElem? (i := 803) (by decide +kernel), List.mem_of_getElem? (i := 804) (by decide +kernel)⟩
theorem lw_p30 : lw_okq (⟨"VaneVotesModel", "ownerNow", "(II)I"⟩, 10) := ⟨⟨by decide +kernel, by decide +kernel⟩, List.mem_of_getElem? (i := 587) (by decide +kernel), List.mem_of_getElem? (i := 811) (by decide +kernel), List.mem_of_getElem? (i := 812) (by decide +kernel)⟩
theorem lw_p31 : lw_okq (⟨"VaneVotesModel", "waitingOf", "(I)I"⟩, 10) := ⟨⟨by decide +kernel, by decide +kernel⟩, List.mem_of_getElem? (i := 587) (by decide +kernel), List.mem_of_getElem? (i := 815) (by decide +kernel), List.mem_of_getElem? (i := 816) (by decide +kernel)⟩
def lw_privs_2 : List (MethodName × Nat) := [(⟨"VaneVotesModel", "agreeing", "(I)I"⟩, 10), (⟨"VaneVotesModel", "agrees", "(II)Z"⟩, 10), (⟨"VaneVotesModel", "grind", "(II)I"⟩, 10), (⟨"VaneVotesModel", "dropFirst", "(I)V"⟩, 10), (⟨"VaneVotesModel", "findError", "()I"⟩, 10), (⟨"VaneVotesModel", "readWind", "(I)I"⟩, 10), (⟨"VaneVotesModel", "at", "(I)I"⟩, 10), (⟨"VaneVotesModel", "hoursOfDay", "()I"⟩, 10), (⟨"VaneVotesModel", "hourNow", "(II)I"⟩, 10), (⟨"VaneVotesModel", "vaneNow", "(II)I"⟩, 10), (⟨"VaneVotesModel", "agreeingHours", "(I)I"⟩, 10), (⟨"VaneVotesModel", "matters", "(I)I"⟩, 10), (⟨"VaneVotesModel", "millNow", "(II)I"⟩, 10), (⟨"VaneVotesModel", "muchInDay", "(I)I"⟩, 10), (⟨"VaneVotesModel", "ownerNow", "(II)I"⟩, 10), (⟨"VaneVotesModel", "waitingOf", "(I)I"⟩, 10)]
theorem lw_r2 : ∀ q ∈ lw_privs_2, lw_okq q := List.forall_mem_cons.mpr ⟨lw_p16, List.forall_mem_cons.mpr ⟨lw_p17, List.forall_mem_cons.mpr ⟨lw_p18, List.forall_mem_cons.mpr ⟨lw_p19, List.forall_mem_cons.mpr ⟨lw_p20, List.forall_mem_cons.mpr ⟨lw_p21, List.forall_mem_cons.mpr ⟨lw_p22, List.forall_mem_cons.mpr ⟨lw_p23, List.forall_mem_cons.mpr ⟨lw_p24, List.forall_mem_cons.mpr ⟨lw_p25, List.forall_mem_cons.mpr ⟨lw_p26, List.forall_mem_cons.mpr ⟨lw_p27, List.forall_mem_cons.mpr ⟨lw_p28, List.forall_mem_cons.mpr ⟨lw_p29, List.forall_mem_cons.mpr ⟨lw_p30, List.forall_mem_cons.mpr ⟨lw_p31, fun _ h => absurd h List.not_mem_nil⟩⟩⟩⟩⟩⟩⟩⟩⟩⟩⟩⟩⟩⟩⟩⟩
theorem lw_p32 : lw_okq (⟨"VaneVotesModel", "ownerAt", "(II)I"⟩, 10) := ⟨⟨by decide +kernel, by decide +kernel⟩, List.mem_of_getElem? (i := 587) (by decide +kernel), List.mem_of_getElem? (i := 819) (by decide +kernel), List.mem_of_getElem? (i := 820) (by decide +kernel)⟩
theorem lw_p33 : lw_okq (⟨"VaneVotesModel", "countNow", "(I)I"⟩, 10) := ⟨⟨by decide +kernel, by decide +kernel⟩, List.mem_of_getElem? (i := 587) (by decide +kernel), List.mem_of_getElem? (i := 827) (by decide +kernel), List.mem_of_getElem? (i := 828) (by decide +kernel)⟩
theorem lw_p34 : lw_okq (⟨"VaneVotesModel", "allFlour", "()I"⟩, 10) := ⟨⟨by decide +kernel, by decide +kernel⟩, List.mem_of_getElem? (i := 587) (by decide +kernel), List.mem_of_getElem? (i := 831) (by decide +kernel), List.mem_of_getElem? (i := 832) (by decide +kernel)⟩
theorem lw_p35 : lw_okq (⟨"VaneVotesModel", "doneNow", "(I)I"⟩, 10) := ⟨⟨by decide +kernel, by decide +kernel⟩, List.mem_of_getElem? (i := 587) (by decide +kernel), List.mem_of_getElem? (i := 843) (by decide +kernel), List.mem_of_getElem? (i := 844) (by decide +kernel)⟩
theorem lw_p36 : lw_okq (⟨"VaneVotesModel", "passed", "(II)I"⟩, 10) := ⟨⟨by decide +kernel, by decide +kernel⟩, List.mem_of_getElem? (i := 587) (by decide +kernel), List.mem_of_getElem? (i := 851) (by decide +kernel), List.mem_of_getElem? (i := 852) (by decide +kernel)⟩
theorem lw_p37 : lw_okq (⟨"VaneVotesModel", "putAside", "()V"⟩, 10) := ⟨⟨by decide +kernel, by decide +kernel⟩, List.mem_of_getElem? (i := 587) (by decide +kernel), List.mem_of_getElem? (i := 855) (by decide +kernel), List.mem_of_getElem? (i := 856) (by decide +kernel)⟩
theorem lw_p38 : lw_okq (⟨"VaneVotesModel", "putBack", "()V"⟩, 10) := ⟨⟨by decide +kernel, by decide +kernel⟩, List.mem_of_getElem? (i := 587) (by decide +kernel), List.mem_of_getElem? (i := 859) (by decide +kernel), List.mem_of_getElem? (i := 860) (by decide +kernel)⟩
theorem lw_p39 : lw_okq (⟨"VaneVotesModel", "turnsNow", "()I"⟩, 10) := ⟨⟨by decide +kernel, by decide +kernel⟩, List.mem_of_getElem? (i := 587) (by decide +kernel), List.mem_of_getElem? (i := 867) (by decide +kernel), List.mem_of_getElem? (i := 868) (by decide +kernel)⟩
theorem lw_p40 : lw_okq (⟨"VaneVotesModel", "findMain", "()I"⟩, 10) := ⟨⟨by decide +kernel, by decide +kernel⟩, List.mem_of_getElem? (i := 587) (by decide +kernel), List.mem_of_getElem? (i := 875) (by decide +kernel), List.mem_of_getElem? (i := 876) (by decide +kernel)⟩
def lw_privs_3 : List (MethodName × Nat) := [(⟨"VaneVotesModel", "ownerAt", "(II)I"⟩, 10), (⟨"VaneVotesModel", "countNow", "(I)I"⟩, 10), (⟨"VaneVotesModel", "allFlour", "()I"⟩, 10), (⟨"VaneVotesModel", "doneNow", "(I)I"⟩, 10), (⟨"VaneVotesModel", "passed", "(II)I"⟩, 10), (⟨"VaneVotesModel", "putAside", "()V"⟩, 10), (⟨"VaneVotesModel", "putBack", "()V"⟩, 10), (⟨"VaneVotesModel", "turnsNow", "()I"⟩, 10), (⟨"VaneVotesModel", "findMain", "()I"⟩, 10)]
theorem lw_r3 : ∀ q ∈ lw_privs_3, lw_okq q := List.forall_mem_cons.mpr ⟨lw_p32, List.forall_mem_cons.mpr ⟨lw_p33, List.forall_mem_cons.mpr ⟨lw_p34, List.forall_mem_cons.mpr ⟨lw_p35, List.forall_mem_cons.mpr ⟨lw_p36, List.forall_mem_cons.mpr ⟨lw_p37, List.forall_mem_cons.mpr ⟨lw_p38, List.forall_mem_cons.mpr ⟨lw_p39, List.forall_mem_cons.mpr ⟨lw_p40, fun _ h => absurd h List.not_mem_nil⟩⟩⟩⟩⟩⟩⟩⟩⟩
def lw_privs : List (MethodName × Nat) := lw_privs_1 ++ (lw_privs_2 ++ (lw_privs_3))
def lw_tbl : List Cond := k2_sels lw_privs ++ tables_1
theorem lw_privs_ok : ∀ q ∈ lw_privs, lw_okq q := by
  show ∀ q ∈ lw_privs_1 ++ (lw_privs_2 ++ (lw_privs_3)), lw_okq q
  exact List.forall_mem_append.mpr ⟨lw_r1, List.forall_mem_append.mpr ⟨lw_r2, lw_r3⟩⟩
/-- the streams that the claim lets the run draw from -/
abbrev lw_cs : List Choice := [Jvm.Choice.named "NaN.bits"]
theorem lw_bits : nanBits ∈ lw_cs := by first | decide | exact List.mem_cons_self | simp [lw_cs, nanBits]
end
section
/-! ===== BEGIN words of one list among another's, by their places ===== -/
theorem goodIn_r {big : List Cond} (ws : List Cond) (ps : List Nat) (hp : ws = ps.filterMap (fun i => big[i]?)) (h : ws.all goodWord = true) : GoodIn big ws := by
  intro w hw
  have h1 := List.all_eq_true.mp h w hw
  rw [hp] at hw
  obtain ⟨i, -, hi⟩ := List.mem_filterMap.mp hw
  have hm : w ∈ big := by first | exact List.mem_of_getElem? hi | exact List.getElem?_mem hi
  exact ⟨hm, good_of_word h1⟩
theorem goodIn_app {big a b : List Cond} (ha : GoodIn big a) (hb : GoodIn big b) : GoodIn big (a ++ b) := fun w h => (List.mem_append.mp h).elim (ha w) (hb w)
theorem goodIn_ca {big a b : List Cond} {c : Cond} (ha : GoodIn big (c :: a)) (hb : GoodIn big b) : GoodIn big (c :: (a ++ b)) := fun w h => (List.mem_cons.mp h).elim (fun e => ha w (List.mem_cons.mpr (Or.inl e))) (fun h => (List.mem_append.mp h).elim (fun h => ha w (List.mem_cons.mpr (Or.inr h))) (hb w))
theorem goodIn_sub {big ws : List Cond} (hm : ∀ w ∈ ws, w ∈ big) (h : ws.all goodWord = true) : GoodIn big ws := fun w hw => ⟨hm w hw, good_of_word (List.all_eq_true.mp h w hw)⟩
/-! ===== END ===== -/


/-! ===== BEGIN exceptions that leave a method, and their catching by the caller (launches without stack traces) ===== -/
section VXA
/-! The laws vx_back, vx_callV, vx_callS, vx_callSW, vx_throw0, vx_throwS follow proofs of the library, with one case more: JvmDerived/Free/Laws.lean (Back.of_free), Shelf42/LK1.lean (callV, callS), Shelf/KitTraced.lean (throwNew0V, throwNewS). -/
/-- where a method has thrown q: the class by its name, the cell, what was written, the world -/
def vx_T (XC : String → State → State → Prop) (st : State) (q : Addr) (t : State) (mc ms : Nat) (free : Addr → Prop) : Prop :=
  ∃ (E : String) (ce : Cell) (L : List Loc), XC E st t ∧ t.heap[q]? = some ce ∧ ce.vm = .none ∧ st.vm.findClass E = some ce.cls ∧ st.WarmedH t.vm ∧ st.sameButNew ({ t with vm := st.vm } : State) L mc ms ∧ ∀ z ∈ L, free z.base
def vx_Q (Qc : Array Value → State → Outcome → State → Prop) (XC : String → State → State → Prop) (mc ms : Nat) (free : Addr → Prop) : Array Value → State → Outcome → State → Prop := fun a st o t =>
  (Qc a st o t ∧ ∃ L, FrameEnd st o t L mc ms ∧ ∀ q ∈ L, free q.base) ∨ ∃ q, o = .threw q ∧ vx_T XC st q t mc ms free
/-- a callee that returns or throws -/
def vx_Met (l : Launch) (y : MethodName) (ws : List Cond) (rm : Room) (Pc : Array Value → State → Prop) (Qc : Array Value → State → Outcome → State → Prop) (XC : String → State → State → Prop) (mc ms : Nat) (free : Addr → Prop) : Prop :=
  MetFree l y (headSpec ws rm) Pc (fun _ _ _ _ _ => True) (vx_Q Qc XC mc ms free)
def vx_Post (XC : String → State → State → Prop) (mc ms : Nat) (free : Addr → Prop) : Pt → Array Value → Addr → Pt → Prop := fun A a q B =>
  ∃ (g : JFrame) (mk : MethodId) (t : State) (L : List Loc) (E : String) (ce : Cell), B.U.heap = t.heap ∧ B.U.vm = t.vm ∧ XC E (A.U.calling g mk a) t ∧ t.heap[q]? = some ce ∧ ce.vm = .none ∧ A.U.vm.findClass E = some ce.cls ∧ B.locs = A.locs ++ L ∧ (∀ z ∈ L, free z.base) ∧ B.cells = A.cells + mc ∧ B.slots = A.slots + ms
def vx_Back (l : Launch) (R : Room) (p : Program) (e : Env) (below : List Frame) (s : State) (sargs : Array Value) (y : MethodName) (len W9 : Nat)
    (Pre : Pt → Array Value → Prop) (Post : Pt → Array Value → Option Value → Pt → Prop) (PostX : Pt → Array Value → Addr → Pt → Prop) : Prop :=
  ∀ (m : MethodId) (meth : Method) (c : Code) (A : Pt) (g : JFrame) (ig : Instr) (mk : MethodId) (a : Array Value),
    Stand p l e R s m sargs below meth c A.U A.locs A.cells A.slots → g.method = m → g.locals.size = c.maxLocals → decode c.code g.pc = .ok (ig, len) →
    2 * g.monitorRoom + (g.stack.map fun v => v.category).sum ≤ W9 → A.U.methodNamed? y = some mk → Pre A a →
    (∃ (v : Option Value) (B : Pt), Stand p l e R s m sargs below meth c B.U B.locs B.cells B.slots ∧ Post A a v B ∧
      Steps p.tables e below (doInvoke e (A.U.setTop g) [] mk a).1 (B.U.setTop { g with pc := g.pc + len, stack := v.toList ++ g.stack })) ∨
    (∃ (q : Addr) (B : Pt), Stand p l e R s m sargs below meth c B.U B.locs B.cells B.slots ∧ PostX A a q B ∧
      Steps p.tables e below (doInvoke e (A.U.setTop g) [] mk a).1 ((B.U.setTop g).pushFrame (.throwing q)))
section Payer
variable {l : Launch} {R : Room} {p : Program} {e : Env} {below : List Frame} {s : State} {sargs : Array Value} {y : MethodName} {len W9 : Nat}
theorem vx_back {ws : List Cond} {rm : Room} {Pc : Array Value → State → Prop} {Qc : Array Value → State → Outcome → State → Prop} {XC : String → State → State → Prop} {mc ms : Nat} {free : Addr → Prop} {bytes : ByteArray} {maxL : Nat} {ret : Option FieldType}
    (hM : vx_Met l y ws rm Pc Qc XC mc ms free) (hblind : FrameBlind Pc) (hrc : rm.cells = mc) (hrs : rm.slots = ms)
    (hframes : rm.frames + 1 ≤ R.frames) (hlocals : W9 + (maxL + 11) + rm.locals ≤ R.locals)
    (hws : ∀ w ∈ ws, ∀ a' U, s.WarmedH U.vm → w.before a' U = true) (hcode : Cond.code y bytes maxL ret ∈ ws) (hinit : ∀ a' U, s.WarmedH U.vm → (Cond.initialized y.cls).before a' U = true) :
    vx_Back l R p e below s sargs y len W9 (PreOf R mc ms Pc) (PostOf Qc mc ms free) (vx_Post XC mc ms free) := by
  intro m meth c A g ig mk a X hg hsize hdg hW hn hp
  have h1 : (headSpec ws rm).pre.before a A.U = true := atoms_intro fun w hw => hws w hw _ _ X.warmed
  have h2 : (Cond.code y bytes maxL ret).before a A.U = true := hws _ hcode _ _ X.warmed
  have h3 : (Cond.initialized y.cls).before a A.U = true := hinit _ _ X.warmed
  have h4 : A.cells + (headSpec ws rm).room.cells ≤ R.cells := by rw [show (headSpec ws rm).room.cells = mc from hrc]; exact hp.1
  have h5 : A.slots + (headSpec ws rm).room.slots ≤ R.slots := by rw [show (headSpec ws rm).room.slots = ms from hrs]; exact hp.2.1
  have hPc : Pc a (A.U.calling g mk a) := hblind _ _ _ _ hp.2.2
  obtain ⟨U, Ls, c0, s0⟩ := A
  dsimp only [Pt.U, Pt.locs, Pt.cells, Pt.slots] at h1 h2 h3 h4 h5 X hn hPc ⊢
  obtain ⟨methY, cY, hmY, hcY, -, hlY, -, -, -, -⟩ := Cond.code_spec hn h2
  obtain ⟨kY, hkY, -⟩ := className_of_methodNamed hn
  have hinitY : kY.init = .initialized := Cond.initialized_spec (findClass_of_methodNamed hn) hkY h3
  have h : At U g.method c below := by rw [hg]; exact X.here
  have hlocals9 : W9 + (maxL + 11) + (headSpec ws rm).room.locals ≤ R.locals := hlocals
  have happ : (headSpec ws rm).appliesLoose y e.platform (U.calling g mk a) = true :=
    Spec.appliesLoose_calling (g := g) h hdg hn hkY hinitY
      (X.room_calling (g := g) (R' := (headSpec ws rm).room) hsize hmY hcY hframes (by rw [hlY]; omega) h4 h5) h1
  obtain ⟨mid, hmid⟩ := h.above
  have hfr : (U.setTop g).frames = (.java g :: mid) ++ below := by rw [State.frames_setTop' g h.top, hmid]; rfl
  obtain ⟨o, s₂, hsteps, -, hend, hq⟩ := Steps.callFree hM p X.admits X.cas X.clock (acts := []) hfr happ hPc trivial
  have hq' : vx_Q Qc XC mc ms free a (U.calling g mk a) o s₂ := hq
  rw [State.frames_setTop' g h.top] at hend
  obtain ⟨g₀, hg0⟩ := Option.isSome_iff_exists.mp h.top
  obtain ⟨r, hr⟩ := State.topJava?_eq_some.mp hg0
  have hr' : (({ U with heap := s₂.heap, slotsUsed := s₂.slotsUsed } : State).setVm s₂.vm).frames = .java g₀ :: r := hr
  rcases hq' with ⟨hqc, L, hfe, hL⟩ | ⟨q, rfl, E, ce, L, hx, hce, hcv, hcl, hW₂, hsm, hL⟩
  · obtain ⟨⟨v, rfl⟩, hW₂, e2, q2, q3, q4, q5, q6⟩ := id hfe
    have e3 : s₂ = ({ (U.calling g mk a).setFrames s₂.frames with heap := s₂.heap, slotsUsed := s₂.slotsUsed } : State).setVm s₂.vm := by
      have : s₂ = ({ s₂ with vm := (U.calling g mk a).vm } : State).setVm s₂.vm := rfl
      rw [e2] at this
      exact this
    obtain ⟨c₂, i₂, len₂, hc₂, hd₂, hf₂⟩ := hend
    have hW' : U.WarmedH s₂.vm := hW₂
    have hcc : c₂ = c := by
      have h1 : s₂.code? g.method = U.code? g.method := by
        rw [State.code?_eq, State.code?_eq, hW'.alike.method?]
      exact Option.some.inj (hc₂.symm.trans (h1.trans h.code))
    subst hcc
    have hlen : len₂ = len := by rw [hdg] at hd₂; cases hd₂; rfl
    subst hlen
    have hs₂ : s₂ = (({ U with heap := s₂.heap, slotsUsed := s₂.slotsUsed } : State).setVm s₂.vm).setTop { g with pc := g.pc + len₂, stack := v.toList ++ g.stack } := by
      refine e3.trans ?_
      rw [hf₂, State.calling_eq h.top, State.setFrames_setFrames, State.setTop_of_frames _ hr', hr]
      rfl
    have hsame : U.sameButNew ({ U with heap := s₂.heap, slotsUsed := s₂.slotsUsed } : State) L mc ms := by
      refine ⟨?_, q2, q3, q4, q5, q6⟩
      obtain ⟨t, ht, -⟩ := State.frames_cons hr
      show ({ U with heap := s₂.heap, slotsUsed := s₂.slotsUsed } : State) = { U.setFrames U.frames with heap := s₂.heap, slotsUsed := s₂.slotsUsed }
      rw [State.setFrames_self ht]
    subst hg
    refine Or.inl ⟨v, ⟨(({ U with heap := s₂.heap, slotsUsed := s₂.slotsUsed } : State).setVm s₂.vm), Ls ++ L, c0 + mc, s0 + ms⟩,
      ⟨X.admits, X.cas, X.clock, X.frames, X.room, X.hears, X.method, X.code, (X.here.setHeapUsed s₂.heap s₂.slotsUsed).setVm hW'.alike, X.tail, State.WarmedH.trans X.warmed hW', X.limits, X.bytes, X.same.trans (hsame.setVm s.vm)⟩,
      ⟨g, mk, s₂, L, rfl, rfl, hqc, rfl, hL, rfl, rfl⟩, ?_⟩
    show Steps p.tables e below _ ((({ U with heap := s₂.heap, slotsUsed := s₂.slotsUsed } : State).setVm s₂.vm).setTop { g with pc := g.pc + len₂, stack := v.toList ++ g.stack })
    rw [← hs₂]
    exact hsteps
  · obtain ⟨e2, q2, q3, q4, q5, q6⟩ := id hsm
    have e3 : s₂ = ({ (U.calling g mk a).setFrames s₂.frames with heap := s₂.heap, slotsUsed := s₂.slotsUsed } : State).setVm s₂.vm := by
      have : s₂ = ({ s₂ with vm := (U.calling g mk a).vm } : State).setVm s₂.vm := rfl
      rw [e2] at this
      exact this
    have hf₂ : s₂.frames = .throwing q :: .java g :: U.frames.tail := hend
    have hW' : U.WarmedH s₂.vm := hW₂
    have hs₂ : s₂ = ((({ U with heap := s₂.heap, slotsUsed := s₂.slotsUsed } : State).setVm s₂.vm).setTop g).pushFrame (.throwing q) := by
      refine e3.trans ?_
      rw [hf₂, State.calling_eq h.top, State.setFrames_setFrames, State.pushFrame, State.frames_setTop _ hr', State.setTop_of_frames _ hr', State.setFrames_setFrames, hr]
      rfl
    have hsame : U.sameButNew ({ U with heap := s₂.heap, slotsUsed := s₂.slotsUsed } : State) L mc ms := by
      refine ⟨?_, q2, q3, q4, q5, q6⟩
      obtain ⟨t, ht, -⟩ := State.frames_cons hr
      show ({ U with heap := s₂.heap, slotsUsed := s₂.slotsUsed } : State) = { U.setFrames U.frames with heap := s₂.heap, slotsUsed := s₂.slotsUsed }
      rw [State.setFrames_self ht]
    subst hg
    refine Or.inr ⟨q, ⟨(({ U with heap := s₂.heap, slotsUsed := s₂.slotsUsed } : State).setVm s₂.vm), Ls ++ L, c0 + mc, s0 + ms⟩,
      ⟨X.admits, X.cas, X.clock, X.frames, X.room, X.hears, X.method, X.code, (X.here.setHeapUsed s₂.heap s₂.slotsUsed).setVm hW'.alike, X.tail, State.WarmedH.trans X.warmed hW', X.limits, X.bytes, X.same.trans (hsame.setVm s.vm)⟩,
      ⟨g, mk, s₂, L, E, ce, rfl, rfl, hx, hce, hcv, hcl, rfl, hL, rfl, rfl⟩, ?_⟩
    show Steps p.tables e below _ (((({ U with heap := s₂.heap, slotsUsed := s₂.slotsUsed } : State).setVm s₂.vm).setTop g).pushFrame (.throwing q))
    rw [← hs₂]
    exact hsteps
end Payer
section Calls
variable {p : Program} {l : Launch} {e : Env} {R : Room} {s : State} {m : MethodId} {args : Array Value} {below : List Frame} {meth : Method} {c : Code} {T : State} {locs : List Loc} {cells slots : Nat}
theorem vx_callV (X : Stand p l e R s m args below meth c T locs cells slots) (hexec : p.tables.exec = Jvm.exec) {own C : String} {index : Nat} {y : MethodName} {bytes : ByteArray} {maxL : Nat} {ret : Option FieldType}
    (hown : s.vm.findClass own = some m.cls) (hlink : (Cond.methodLink own index y).before args s = true) (hinst : (Cond.instanceMethod y).before args s = true) (hsel : (Cond.selects C y y).before args s = true)
    (hcode : (Cond.code y bytes maxL ret).before args s = true) (hy : y.cls ≠ "java/lang/invoke/MethodHandle" ∧ y.cls ≠ "java/lang/invoke/VarHandle")
    {W9 : Nat} {Pre : Pt → Array Value → Prop} {Post : Pt → Array Value → Option Value → Pt → Prop} {PostX : Pt → Array Value → Addr → Pt → Prop} (hK : vx_Back l R p e below s args y 3 W9 Pre Post PostX)
    {b : Addr} {cellB : Cell} (hcell : T.heap[b]? = some cellB) (hobj : cellB.vm.isStatics = false) (hcls : s.vm.findClass C = some cellB.cls)
    {g : JFrame} (hg : g.method = m) (hsize : g.locals.size = c.maxLocals) {argsL rest : List Value} (hlen : ∀ sig, parseMethodDescriptor y.desc = some sig → argsL.length = sig.parameters.length)
    (hstack : g.stack = argsL.reverse ++ .ref b :: rest) (hW : 2 * g.monitorRoom + (rest.map fun v => v.category).sum ≤ W9) (hdg : decode c.code g.pc = .ok (.invokevirtual index, 3))
    (hpre : ∀ vm₁, s.WarmedH vm₁ → Pre ⟨T.setVm vm₁, locs, cells, slots⟩ (Value.ref b :: argsL).toArray) :
    (∃ (v : Option Value) (vm₁ : Vm) (B : Pt), s.WarmedH vm₁ ∧ Stand p l e R s m args below meth c B.U B.locs B.cells B.slots ∧ Post ⟨T.setVm vm₁, locs, cells, slots⟩ (Value.ref b :: argsL).toArray v B ∧
      ∀ target, Steps p.tables e below (B.U.setTop { g with pc := g.pc + 3, stack := v.toList ++ rest }) target → Steps p.tables e below (T.setTop g) target) ∨
    (∃ (q : Addr) (vm₁ : Vm) (B : Pt), s.WarmedH vm₁ ∧ Stand p l e R s m args below meth c B.U B.locs B.cells B.slots ∧ PostX ⟨T.setVm vm₁, locs, cells, slots⟩ (Value.ref b :: argsL).toArray q B ∧
      Steps p.tables e below (T.setTop g) ((B.U.setTop { g with stack := rest }).pushFrame (.throwing q))) := by
  obtain ⟨mk, methM, hnamed, hmethM, hstM, habM⟩ := Cond.instanceMethod_spec hinst
  obtain ⟨methM', cM, hmethM', -, -, -, -, -, -, hsigM⟩ := Cond.code_spec hnamed hcode
  cases hmethM.symm.trans hmethM'
  obtain ⟨c2, r2, m2, q1, q2, q3, q4, kP, hkP, hkPi⟩ := Cond.selects_spec hsel
  cases hcls.symm.trans q1
  cases (State.methodFound?_of_named hnamed hy).symm.trans q2
  cases hnamed.symm.trans q3
  have hselP : selectMethod e.platform s.vm cellB.cls mk = .method mk := by rw [Launch.admits_selectMethod X.admits]; exact q4
  obtain ⟨vm₁, X₁, hstep₁⟩ := X.invokevirtual hexec hown hlink hnamed hmethM hstM hkP hkPi hy (a := b) (cell := cellB) hcell
    (fun z h => by rw [h] at hobj; cases hobj) hselP hmethM habM hkP hkPi (g := g) hg (argsL := argsL) (rest := rest) (hlen _ hsigM) hstack hdg
  rcases hK m meth c ⟨T.setVm vm₁, locs, cells, slots⟩ { g with stack := rest } (.invokevirtual index) mk (Value.ref b :: argsL).toArray X₁ hg hsize hdg hW (X₁.named hnamed) (hpre vm₁ X₁.warmed) with ⟨v, B, X', hpost, hsteps⟩ | ⟨q, B, X', hpost, hsteps⟩
  · exact Or.inl ⟨v, vm₁, B, X₁.warmed, X', hpost, fun target h => hstep₁ _ fun acts => by rw [doInvoke_state]; exact hsteps.trans h⟩
  · exact Or.inr ⟨q, vm₁, B, X₁.warmed, X', hpost, hstep₁ _ fun acts => by rw [doInvoke_state]; exact hsteps⟩
theorem vx_callS (X : Stand p l e R s m args below meth c T locs cells slots) (hexec : p.tables.exec = Jvm.exec) {own : String} {index : Nat} {y : MethodName} {bytes : ByteArray} {maxL : Nat} {ret : Option FieldType}
    (hown : s.vm.findClass own = some m.cls) (hlink : (Cond.methodLink own index y).before args s = true) (hstat : (Cond.static y).before args s = true) (hinit : (Cond.initialized y.cls).before args s = true)
    (hcode : (Cond.code y bytes maxL ret).before args s = true) (hy : y.cls ≠ "java/lang/invoke/MethodHandle" ∧ y.cls ≠ "java/lang/invoke/VarHandle")
    {W9 : Nat} {Pre : Pt → Array Value → Prop} {Post : Pt → Array Value → Option Value → Pt → Prop} {PostX : Pt → Array Value → Addr → Pt → Prop} (hK : vx_Back l R p e below s args y 3 W9 Pre Post PostX)
    {g : JFrame} (hg : g.method = m) (hsize : g.locals.size = c.maxLocals) {argsL rest : List Value} (hlen : ∀ sig, parseMethodDescriptor y.desc = some sig → argsL.length = sig.parameters.length)
    (hstack : g.stack = argsL.reverse ++ rest) (hW : 2 * g.monitorRoom + (rest.map fun v => v.category).sum ≤ W9) (hdg : decode c.code g.pc = .ok (.invokestatic index, 3))
    (hpre : ∀ vm₁, s.WarmedH vm₁ → Pre ⟨T.setVm vm₁, locs, cells, slots⟩ argsL.toArray) :
    (∃ (v : Option Value) (vm₁ : Vm) (B : Pt), s.WarmedH vm₁ ∧ Stand p l e R s m args below meth c B.U B.locs B.cells B.slots ∧ Post ⟨T.setVm vm₁, locs, cells, slots⟩ argsL.toArray v B ∧
      ∀ target, Steps p.tables e below (B.U.setTop { g with pc := g.pc + 3, stack := v.toList ++ rest }) target → Steps p.tables e below (T.setTop g) target) ∨
    (∃ (q : Addr) (vm₁ : Vm) (B : Pt), s.WarmedH vm₁ ∧ Stand p l e R s m args below meth c B.U B.locs B.cells B.slots ∧ PostX ⟨T.setVm vm₁, locs, cells, slots⟩ argsL.toArray q B ∧
      Steps p.tables e below (T.setTop g) ((B.U.setTop { g with stack := rest }).pushFrame (.throwing q))) := by
  obtain ⟨mk, hnamed⟩ := Cond.code_named hcode
  obtain ⟨methM, cM, hmethM, -, -, -, -, -, -, hsigM⟩ := Cond.code_spec hnamed hcode
  have hstatic : methM.isStatic = true := Cond.static_spec hnamed hmethM hstat
  obtain ⟨kP, hkP, -⟩ := className_of_methodNamed hnamed
  have hinitP : kP.init = .initialized := Cond.initialized_spec (findClass_of_methodNamed hnamed) hkP hinit
  obtain ⟨vm₁, X₁, hstep₁⟩ := X.invokestatic hexec hown hlink hnamed hmethM hstatic hkP hinitP hy (g := g) hg (argsL := argsL) (rest := rest) (hlen _ hsigM) hstack hdg
  rcases hK m meth c ⟨T.setVm vm₁, locs, cells, slots⟩ { g with stack := rest } (.invokestatic index) mk argsL.toArray X₁ hg hsize hdg hW (X₁.named hnamed) (hpre vm₁ X₁.warmed) with ⟨v, B, X', hpost, hsteps⟩ | ⟨q, B, X', hpost, hsteps⟩
  · exact Or.inl ⟨v, vm₁, B, X₁.warmed, X', hpost, fun target h => hstep₁ _ fun acts => by rw [doInvoke_state]; exact hsteps.trans h⟩
  · exact Or.inr ⟨q, vm₁, B, X₁.warmed, X', hpost, hstep₁ _ fun acts => by rw [doInvoke_state]; exact hsteps⟩
end Calls
theorem vx_cls {s : State} {T : State} {vm₁ : Vm} {E : String} {k : ClassId} (hW : s.WarmedH vm₁) (h : (T.setVm vm₁).vm.findClass E = some k) : s.vm.findClass E = some k := by
  have h1 : vm₁.findClass E = some k := h
  rw [hW.alike.findClass] at h1
  exact h1
/-- the method's frame g, with q thrown over it -/
def vx_W (p : Program) (l : Launch) (e : Env) (R : Room) (s : State) (m : MethodId) (args : Array Value) (below : List Frame) (meth : Method) (c : Code) (H : Heap) (locs : List Loc) (cells slots : Nat) (Q : State → Prop) (g : JFrame) (q : Addr) : Prop :=
  ∀ T : State, T.heap = H → Stand p l e R s m args below meth c T locs cells slots → ∃ t, Steps p.tables e below ((T.setTop g).pushFrame (.throwing q)) t ∧ Q t
def vx_Run (p : Program) (l : Launch) (e : Env) (R : Room) (s : State) (m : MethodId) (args : Array Value) (below : List Frame) (meth : Method) (c : Code) (H : Heap) (locs : List Loc) (cells slots mc ms : Nat) (g : JFrame) (rest : List Value) (Qa : State → Outcome → State → Prop) (XC : String → State → State → Prop) (free : Addr → Prop) : Prop :=
  ∀ T : State, T.heap = H → Stand p l e R s m args below meth c T locs cells slots →
    (∃ (v : Option Value) (st₀ t T' : State) (L : List Loc), st₀.heap = H ∧ Stand p l e R s m args below meth c T' (locs ++ L) (cells + mc) (slots + ms) ∧ (∀ q ∈ L, free q.base) ∧ T'.heap = t.heap ∧ T'.vm = t.vm ∧ Qa st₀ (.returned v) t ∧
      Goes p e below T g T' { g with pc := g.pc + 3, stack := v.toList ++ rest }) ∨
    (∃ (q : Addr) (st₀ t T' : State) (L : List Loc) (E : String) (ce : Cell), st₀.heap = H ∧ Stand p l e R s m args below meth c T' (locs ++ L) (cells + mc) (slots + ms) ∧ (∀ z ∈ L, free z.base) ∧ T'.heap = t.heap ∧ T'.vm = t.vm ∧ XC E st₀ t ∧ t.heap[q]? = some ce ∧ ce.vm = .none ∧ s.vm.findClass E = some ce.cls ∧
      Steps p.tables e below (T.setTop g) ((T'.setTop { g with stack := rest }).pushFrame (.throwing q)))
def vx_X {S : Type} (px : S → Prop) (B : String → S → State → Prop) (A : Nat → Prop) : String → State → State → Prop := fun E st t => ∃ u : S, px u ∧ B E u t ∧ va_F A st t
section Runs
variable {p : Program} {l : Launch} {e : Env} {R : Room} {s : State} {m : MethodId} {args : Array Value} {below : List Frame} {meth : Method} {c : Code} {H : Heap} {locs : List Loc} {cells slots : Nat}
variable {y : MethodName} {bytes cc : ByteArray} {maxL nL mc ms n index : Nat} {ret : Option FieldType} {ws : List Cond} {rm : Room} {Pc : Array Value → State → Prop} {Qc : Array Value → State → Outcome → State → Prop} {XC : String → State → State → Prop} {free : Addr → Prop} {Ts : List Cond} {own C : String} {b : Addr} {As rest : List Value} {g : JFrame}
theorem vx_callBack (cb : CallB R s args own index y bytes maxL ret ws rm mc ms n) (hM : vx_Met l y ws rm Pc Qc XC mc ms free) (hbl : FrameBlind Pc) : vx_Back l R p e below s args y 3 8 (PreOf R mc ms Pc) (PostOf Qc mc ms free) (vx_Post XC mc ms free) := by
  obtain ⟨hrc, hrs, hfr, hlo, hws, hcw, -, hini, -⟩ := cb
  exact vx_back (bytes := bytes) (maxL := maxL) (ret := ret) hM hbl hrc hrs hfr hlo hws hcw (fun a' U hW => word_at hW (Or.inl (by first | rfl | simp [Cond.onTables, Cond.keeps, Cond.steady])) hini)
theorem vx_runV (S : CallFix p m c cc nL s args Ts own) (hM : vx_Met l y ws rm Pc Qc XC mc ms free) (cw : CallW R s args own C index y bytes maxL ret ws rm mc ms n) (hp : PreV s H C b Pc As)
    (hg : g.method = m) (hn : As.length = n) (hsize : g.locals.size = nL) (hstack : g.stack = As.reverse ++ .ref b :: rest) (hW : 2 * g.monitorRoom + (rest.map fun v => v.category).sum ≤ 8) (hdg : decode cc g.pc = .ok (.invokevirtual index, 3)) (hf : cells + mc ≤ R.cells ∧ slots + ms ≤ R.slots) :
    vx_Run p l e R s m args below meth c H locs cells slots mc ms g rest (Qc (Value.ref b :: As).toArray) XC free := by
  have hK : vx_Back l R p e below s args y 3 8 (PreOf R mc ms Pc) (PostOf Qc mc ms free) (vx_Post XC mc ms free) := vx_callBack cw.1 hM hp.1
  obtain ⟨⟨-, -, -, -, -, -, hcode, -, hy, hlen, hl⟩, hin, hse⟩ := cw
  obtain ⟨hx, hb, hml, ho, -⟩ := S
  obtain ⟨-, ⟨cellB, hcB, hoB, hclB⟩, hPc⟩ := hp
  intro T hT X
  rcases vx_callV X hx (C := C) (bytes := bytes) (maxL := maxL) (ret := ret) ho hl hin hse hcode hy hK (by rw [hT]; exact hcB) hoB hclB hg (hsize.trans hml.symm) (argsL := As) (rest := rest) (fun sig h => hn.trans (hlen sig h)) hstack hW (by rw [hb]; exact hdg)
    (fun vm₁ hW₁ => ⟨hf.1, hf.2, hPc (T.setVm vm₁) hT hW₁⟩) with ⟨v, vm₁, ⟨U', l2, c2, s2⟩, hW₁, X', ⟨g', mk, t, L, e1, e2, hq, h1, hL, h2, h3⟩, st⟩ | ⟨q, vm₁, ⟨U', l2, c2, s2⟩, hW₁, X', ⟨g', mk, t, L, E, ce, e1, e2, hq, hce, hcv, hcl, h1, hL, h2, h3⟩, st⟩
  · dsimp only [Pt.U, Pt.locs, Pt.cells, Pt.slots] at X' e1 e2 h1 h2 h3 st
    subst h1; subst h2; subst h3
    exact Or.inl ⟨v, (T.setVm vm₁).calling g' mk (Value.ref b :: As).toArray, t, U', L, hT, X', hL, e1, e2, hq, st⟩
  · dsimp only [Pt.U, Pt.locs, Pt.cells, Pt.slots] at X' e1 e2 h1 h2 h3 st hcl
    subst h1; subst h2; subst h3
    exact Or.inr ⟨q, (T.setVm vm₁).calling g' mk (Value.ref b :: As).toArray, t, U', L, E, ce, hT, X', hL, e1, e2, hq, hce, hcv, vx_cls hW₁ hcl, st⟩
theorem vx_runS (S : CallFix p m c cc nL s args Ts own) (hM : vx_Met l y ws rm Pc Qc XC mc ms free) (cw : CallB R s args own index y bytes maxL ret ws rm mc ms n ∧ (Cond.static y).before args s = true) (hp : PreS s H Pc As)
    (hg : g.method = m) (hn : As.length = n) (hsize : g.locals.size = nL) (hstack : g.stack = As.reverse ++ rest) (hW : 2 * g.monitorRoom + (rest.map fun v => v.category).sum ≤ 8) (hdg : decode cc g.pc = .ok (.invokestatic index, 3)) (hf : cells + mc ≤ R.cells ∧ slots + ms ≤ R.slots) :
    vx_Run p l e R s m args below meth c H locs cells slots mc ms g rest (Qc As.toArray) XC free := by
  have hK : vx_Back l R p e below s args y 3 8 (PreOf R mc ms Pc) (PostOf Qc mc ms free) (vx_Post XC mc ms free) := vx_callBack cw.1 hM hp.1
  obtain ⟨⟨-, -, -, -, -, -, hcode, hini, hy, hlen, hl⟩, hstt⟩ := cw
  obtain ⟨hx, hb, hml, ho, -⟩ := S
  intro T hT X
  rcases vx_callS X hx (bytes := bytes) (maxL := maxL) (ret := ret) ho hl hstt hini hcode hy hK hg (hsize.trans hml.symm) (argsL := As) (rest := rest) (fun sig h => hn.trans (hlen sig h)) hstack hW (by rw [hb]; exact hdg)
    (fun vm₁ hW₁ => ⟨hf.1, hf.2, hp.2 (T.setVm vm₁) hT hW₁⟩) with ⟨v, vm₁, ⟨U', l2, c2, s2⟩, hW₁, X', ⟨g', mk, t, L, e1, e2, hq, h1, hL, h2, h3⟩, st⟩ | ⟨q, vm₁, ⟨U', l2, c2, s2⟩, hW₁, X', ⟨g', mk, t, L, E, ce, e1, e2, hq, hce, hcv, hcl, h1, hL, h2, h3⟩, st⟩
  · dsimp only [Pt.U, Pt.locs, Pt.cells, Pt.slots] at X' e1 e2 h1 h2 h3 st
    subst h1; subst h2; subst h3
    exact Or.inl ⟨v, (T.setVm vm₁).calling g' mk As.toArray, t, U', L, hT, X', hL, e1, e2, hq, st⟩
  · dsimp only [Pt.U, Pt.locs, Pt.cells, Pt.slots] at X' e1 e2 h1 h2 h3 st hcl
    subst h1; subst h2; subst h3
    exact Or.inr ⟨q, (T.setVm vm₁).calling g' mk As.toArray, t, U', L, E, ce, hT, X', hL, e1, e2, hq, hce, hcv, vx_cls hW₁ hcl, st⟩
end Runs
section Rows
variable {p : Program} {l : Launch} {e : Env} {R : Room} {s : State} {m : MethodId} {args : Array Value} {below : List Frame} {meth : Method} {c : Code} {H : Heap} {locs : List Loc} {cells slots : Nat} {Q : State → Prop}
variable {mc ms : Nat} {free : Addr → Prop} {A0 A1 : Nat → Prop} {H0 : Heap} {a : Array Value} {pc : Nat} {ls : Array Slot} {st0 rest : List Value}
theorem vx_keep {st₀ t T' : State} {L : List Loc} (h0 : st₀.heap = H) (e1 : T'.heap = t.heap) (hS : va_S A0 H0 H locs) (hA : ∀ q, q < H.size → A1 q → A0 q) (hf : ∀ q, free q → A0 q) (hL : ∀ q ∈ L, free q.base) (hF : va_F A1 st₀ t) :
    H.size ≤ T'.heap.size ∧ (∀ q : Nat, q < H.size → ¬ A1 q → T'.heap[q]? = H[q]?) ∧ va_S A0 H0 T'.heap (locs ++ L) := by
  obtain ⟨hz, hk⟩ := hF
  rw [h0] at hz hk
  exact ⟨by rw [e1]; exact hz, fun q h1 h2 => by rw [e1]; exact hk q h1 h2,
    ⟨Nat.le_trans hS.1 (by rw [e1]; exact hz), fun q h1 h2 => by rw [e1, hk q (Nat.lt_of_lt_of_le h1 hS.1) (fun z => h2 (hA q (Nat.lt_of_lt_of_le h1 hS.1) z))]; exact hS.2.1 q h1 h2, fun q hq => by
      rcases List.mem_append.mp hq with h | h
      · exact hS.2.2 q h
      · exact hf _ (hL q h)⟩⟩
theorem vx_calli {S SX : Type} {post : Int32 → S → Prop} {px : SX → Prop} {B : S → State → Prop} {BX : String → SX → State → Prop} {AX : Nat → Prop} (hr : vx_Run p l e R s m args below meth c H locs cells slots mc ms (F0 m pc ls st0) rest (va_Qi post B A1 a) (vx_X px BX AX) free) (hS : va_S A0 H0 H locs) (hA : ∀ q, q < H.size → A1 q → A0 q) (hf : ∀ q, free q → A0 q) (hAX : ∀ q, q < H.size → AX q → A0 q)
    (kx : ∀ (E : String) (ce : Cell) (q9 : Addr) (u : SX) (t : State) (H1 : Heap) (locs1 : List Loc), t.heap = H1 → s.vm.Alike t.vm → px u → BX E u t → H.size ≤ H1.size → (∀ q : Nat, q < H.size → ¬ AX q → H1[q]? = H[q]?) → va_S A0 H0 H1 locs1 → H1[q9]? = some ce → ce.vm = .none → s.vm.findClass E = some ce.cls → vx_W p l e R s m args below meth c H1 locs1 (cells + mc) (slots + ms) Q (F0 m pc ls rest) q9)
    (kk : ∀ (r : Int32) (u : S) (t : State) (H1 : Heap) (locs1 : List Loc), t.heap = H1 → s.vm.Alike t.vm → post r u → B u t → H.size ≤ H1.size → (∀ q : Nat, q < H.size → ¬ A1 q → H1[q]? = H[q]?) → va_S A0 H0 H1 locs1 → W p l e R s m args below meth c H1 locs1 (cells + mc) (slots + ms) Q (F0 m (pc + 3) ls (.int r :: rest))) : W p l e R s m args below meth c H locs cells slots Q (F0 m pc ls st0) := by
  intro T hT X
  rcases hr T hT X with ⟨v, st₀, t, T', L, h0, X', hL, e1, e2, ⟨⟨r, u, hv, hp, hb⟩, hF⟩, st⟩ | ⟨q, st₀, t, T', L, E, ce, h0, X', hL, e1, e2, ⟨u, hp, hb, hF⟩, hce, hcv, hcl, st⟩
  · cases hv
    obtain ⟨k1, k2, k3⟩ := vx_keep h0 e1 hS hA hf hL hF
    obtain ⟨t2, a1, b1⟩ := kk r u t T'.heap (locs ++ L) e1.symm (by rw [← e2]; exact X'.warmed.alike) hp hb k1 k2 k3 T' rfl X'
    exact ⟨t2, st t2 a1, b1⟩
  · obtain ⟨k1, k2, k3⟩ := vx_keep h0 e1 hS hAX hf hL hF
    obtain ⟨t2, a1, b1⟩ := kx E ce q u t T'.heap (locs ++ L) e1.symm (by rw [← e2]; exact X'.warmed.alike) hp hb k1 k2 k3 (by rw [e1]; exact hce) hcv hcl T' rfl X'
    exact ⟨t2, st.trans a1, b1⟩
theorem vx_calll {S SX : Type} {post : Int64 → S → Prop} {px : SX → Prop} {B : S → State → Prop} {BX : String → SX → State → Prop} {AX : Nat → Prop} (hr : vx_Run p l e R s m args below meth c H locs cells slots mc ms (F0 m pc ls st0) rest (va_Ql post B A1 a) (vx_X px BX AX) free) (hS : va_S A0 H0 H locs) (hA : ∀ q, q < H.size → A1 q → A0 q) (hf : ∀ q, free q → A0 q) (hAX : ∀ q, q < H.size → AX q → A0 q)
    (kx : ∀ (E : String) (ce : Cell) (q9 : Addr) (u : SX) (t : State) (H1 : Heap) (locs1 : List Loc), t.heap = H1 → s.vm.Alike t.vm → px u → BX E u t → H.size ≤ H1.size → (∀ q : Nat, q < H.size → ¬ AX q → H1[q]? = H[q]?) → va_S A0 H0 H1 locs1 → H1[q9]? = some ce → ce.vm = .none → s.vm.findClass E = some ce.cls → vx_W p l e R s m args below meth c H1 locs1 (cells + mc) (slots + ms) Q (F0 m pc ls rest) q9)
    (kk : ∀ (r : Int64) (u : S) (t : State) (H1 : Heap) (locs1 : List Loc), t.heap = H1 → s.vm.Alike t.vm → post r u → B u t → H.size ≤ H1.size → (∀ q : Nat, q < H.size → ¬ A1 q → H1[q]? = H[q]?) → va_S A0 H0 H1 locs1 → W p l e R s m args below meth c H1 locs1 (cells + mc) (slots + ms) Q (F0 m (pc + 3) ls (.long r :: rest))) : W p l e R s m args below meth c H locs cells slots Q (F0 m pc ls st0) := by
  intro T hT X
  rcases hr T hT X with ⟨v, st₀, t, T', L, h0, X', hL, e1, e2, ⟨⟨r, u, hv, hp, hb⟩, hF⟩, st⟩ | ⟨q, st₀, t, T', L, E, ce, h0, X', hL, e1, e2, ⟨u, hp, hb, hF⟩, hce, hcv, hcl, st⟩
  · cases hv
    obtain ⟨k1, k2, k3⟩ := vx_keep h0 e1 hS hA hf hL hF
    obtain ⟨t2, a1, b1⟩ := kk r u t T'.heap (locs ++ L) e1.symm (by rw [← e2]; exact X'.warmed.alike) hp hb k1 k2 k3 T' rfl X'
    exact ⟨t2, st t2 a1, b1⟩
  · obtain ⟨k1, k2, k3⟩ := vx_keep h0 e1 hS hAX hf hL hF
    obtain ⟨t2, a1, b1⟩ := kx E ce q u t T'.heap (locs ++ L) e1.symm (by rw [← e2]; exact X'.warmed.alike) hp hb k1 k2 k3 (by rw [e1]; exact hce) hcv hcl T' rfl X'
    exact ⟨t2, st.trans a1, b1⟩
theorem vx_callf {S SX : Type} {post : UInt32 → S → Prop} {px : SX → Prop} {B : S → State → Prop} {BX : String → SX → State → Prop} {AX : Nat → Prop} (hr : vx_Run p l e R s m args below meth c H locs cells slots mc ms (F0 m pc ls st0) rest (va_Qf post B A1 a) (vx_X px BX AX) free) (hS : va_S A0 H0 H locs) (hA : ∀ q, q < H.size → A1 q → A0 q) (hf : ∀ q, free q → A0 q) (hAX : ∀ q, q < H.size → AX q → A0 q)
    (kx : ∀ (E : String) (ce : Cell) (q9 : Addr) (u : SX) (t : State) (H1 : Heap) (locs1 : List Loc), t.heap = H1 → s.vm.Alike t.vm → px u → BX E u t → H.size ≤ H1.size → (∀ q : Nat, q < H.size → ¬ AX q → H1[q]? = H[q]?) → va_S A0 H0 H1 locs1 → H1[q9]? = some ce → ce.vm = .none → s.vm.findClass E = some ce.cls → vx_W p l e R s m args below meth c H1 locs1 (cells + mc) (slots + ms) Q (F0 m pc ls rest) q9)
    (kk : ∀ (r : UInt32) (u : S) (t : State) (H1 : Heap) (locs1 : List Loc), t.heap = H1 → s.vm.Alike t.vm → post r u → B u t → H.size ≤ H1.size → (∀ q : Nat, q < H.size → ¬ A1 q → H1[q]? = H[q]?) → va_S A0 H0 H1 locs1 → W p l e R s m args below meth c H1 locs1 (cells + mc) (slots + ms) Q (F0 m (pc + 3) ls (.float r :: rest))) : W p l e R s m args below meth c H locs cells slots Q (F0 m pc ls st0) := by
  intro T hT X
  rcases hr T hT X with ⟨v, st₀, t, T', L, h0, X', hL, e1, e2, ⟨⟨r, u, hv, hp, hb⟩, hF⟩, st⟩ | ⟨q, st₀, t, T', L, E, ce, h0, X', hL, e1, e2, ⟨u, hp, hb, hF⟩, hce, hcv, hcl, st⟩
  · cases hv
    obtain ⟨k1, k2, k3⟩ := vx_keep h0 e1 hS hA hf hL hF
    obtain ⟨t2, a1, b1⟩ := kk r u t T'.heap (locs ++ L) e1.symm (by rw [← e2]; exact X'.warmed.alike) hp hb k1 k2 k3 T' rfl X'
    exact ⟨t2, st t2 a1, b1⟩
  · obtain ⟨k1, k2, k3⟩ := vx_keep h0 e1 hS hAX hf hL hF
    obtain ⟨t2, a1, b1⟩ := kx E ce q u t T'.heap (locs ++ L) e1.symm (by rw [← e2]; exact X'.warmed.alike) hp hb k1 k2 k3 (by rw [e1]; exact hce) hcv hcl T' rfl X'
    exact ⟨t2, st.trans a1, b1⟩
theorem vx_calld {S SX : Type} {post : UInt64 → S → Prop} {px : SX → Prop} {B : S → State → Prop} {BX : String → SX → State → Prop} {AX : Nat → Prop} (hr : vx_Run p l e R s m args below meth c H locs cells slots mc ms (F0 m pc ls st0) rest (va_Qd post B A1 a) (vx_X px BX AX) free) (hS : va_S A0 H0 H locs) (hA : ∀ q, q < H.size → A1 q → A0 q) (hf : ∀ q, free q → A0 q) (hAX : ∀ q, q < H.size → AX q → A0 q)
    (kx : ∀ (E : String) (ce : Cell) (q9 : Addr) (u : SX) (t : State) (H1 : Heap) (locs1 : List Loc), t.heap = H1 → s.vm.Alike t.vm → px u → BX E u t → H.size ≤ H1.size → (∀ q : Nat, q < H.size → ¬ AX q → H1[q]? = H[q]?) → va_S A0 H0 H1 locs1 → H1[q9]? = some ce → ce.vm = .none → s.vm.findClass E = some ce.cls → vx_W p l e R s m args below meth c H1 locs1 (cells + mc) (slots + ms) Q (F0 m pc ls rest) q9)
    (kk : ∀ (r : UInt64) (u : S) (t : State) (H1 : Heap) (locs1 : List Loc), t.heap = H1 → s.vm.Alike t.vm → post r u → B u t → H.size ≤ H1.size → (∀ q : Nat, q < H.size → ¬ A1 q → H1[q]? = H[q]?) → va_S A0 H0 H1 locs1 → W p l e R s m args below meth c H1 locs1 (cells + mc) (slots + ms) Q (F0 m (pc + 3) ls (.double r :: rest))) : W p l e R s m args below meth c H locs cells slots Q (F0 m pc ls st0) := by
  intro T hT X
  rcases hr T hT X with ⟨v, st₀, t, T', L, h0, X', hL, e1, e2, ⟨⟨r, u, hv, hp, hb⟩, hF⟩, st⟩ | ⟨q, st₀, t, T', L, E, ce, h0, X', hL, e1, e2, ⟨u, hp, hb, hF⟩, hce, hcv, hcl, st⟩
  · cases hv
    obtain ⟨k1, k2, k3⟩ := vx_keep h0 e1 hS hA hf hL hF
    obtain ⟨t2, a1, b1⟩ := kk r u t T'.heap (locs ++ L) e1.symm (by rw [← e2]; exact X'.warmed.alike) hp hb k1 k2 k3 T' rfl X'
    exact ⟨t2, st t2 a1, b1⟩
  · obtain ⟨k1, k2, k3⟩ := vx_keep h0 e1 hS hAX hf hL hF
    obtain ⟨t2, a1, b1⟩ := kx E ce q u t T'.heap (locs ++ L) e1.symm (by rw [← e2]; exact X'.warmed.alike) hp hb k1 k2 k3 (by rw [e1]; exact hce) hcv hcl T' rfl X'
    exact ⟨t2, st.trans a1, b1⟩
theorem vx_callv {S SX : Type} {post : S → Prop} {px : SX → Prop} {B : S → State → Prop} {BX : String → SX → State → Prop} {AX : Nat → Prop} (hr : vx_Run p l e R s m args below meth c H locs cells slots mc ms (F0 m pc ls st0) rest (va_Qv post B A1 a) (vx_X px BX AX) free) (hS : va_S A0 H0 H locs) (hA : ∀ q, q < H.size → A1 q → A0 q) (hf : ∀ q, free q → A0 q) (hAX : ∀ q, q < H.size → AX q → A0 q)
    (kx : ∀ (E : String) (ce : Cell) (q9 : Addr) (u : SX) (t : State) (H1 : Heap) (locs1 : List Loc), t.heap = H1 → s.vm.Alike t.vm → px u → BX E u t → H.size ≤ H1.size → (∀ q : Nat, q < H.size → ¬ AX q → H1[q]? = H[q]?) → va_S A0 H0 H1 locs1 → H1[q9]? = some ce → ce.vm = .none → s.vm.findClass E = some ce.cls → vx_W p l e R s m args below meth c H1 locs1 (cells + mc) (slots + ms) Q (F0 m pc ls rest) q9)
    (kk : ∀ (u : S) (t : State) (H1 : Heap) (locs1 : List Loc), t.heap = H1 → s.vm.Alike t.vm → post u → B u t → H.size ≤ H1.size → (∀ q : Nat, q < H.size → ¬ A1 q → H1[q]? = H[q]?) → va_S A0 H0 H1 locs1 → W p l e R s m args below meth c H1 locs1 (cells + mc) (slots + ms) Q (F0 m (pc + 3) ls (rest))) : W p l e R s m args below meth c H locs cells slots Q (F0 m pc ls st0) := by
  intro T hT X
  rcases hr T hT X with ⟨v, st₀, t, T', L, h0, X', hL, e1, e2, ⟨⟨u, hv, hp, hb⟩, hF⟩, st⟩ | ⟨q, st₀, t, T', L, E, ce, h0, X', hL, e1, e2, ⟨u, hp, hb, hF⟩, hce, hcv, hcl, st⟩
  · cases hv
    obtain ⟨k1, k2, k3⟩ := vx_keep h0 e1 hS hA hf hL hF
    obtain ⟨t2, a1, b1⟩ := kk u t T'.heap (locs ++ L) e1.symm (by rw [← e2]; exact X'.warmed.alike) hp hb k1 k2 k3 T' rfl X'
    exact ⟨t2, st t2 a1, b1⟩
  · obtain ⟨k1, k2, k3⟩ := vx_keep h0 e1 hS hAX hf hL hF
    obtain ⟨t2, a1, b1⟩ := kx E ce q u t T'.heap (locs ++ L) e1.symm (by rw [← e2]; exact X'.warmed.alike) hp hb k1 k2 k3 (by rw [e1]; exact hce) hcv hcl T' rfl X'
    exact ⟨t2, st.trans a1, b1⟩
/-- caught by the row x of this method's table; the rows ahead don't take it -/
theorem vx_catch {own name : String} {E : String} {ce : Cell} {q : Addr} (hown : s.vm.findClass own = some m.cls) (pre : List ExceptionTableEntry) (x : ExceptionTableEntry) (suf : List ExceptionTableEntry) (hsplit : c.exceptionTable.toList = pre ++ x :: suf)
    (hpass : ∀ z ∈ pre, covers z pc = false ∨ (z.catchType ≠ 0 ∧ ∃ nm : String, (Cond.classLink own z.catchType nm).before args s = true ∧ va_Nc E nm s)) (hx : covers x pc = true) (h0 : x.catchType ≠ 0)
    (hlink : (Cond.classLink own x.catchType name).before args s = true) (hcast : (Cond.castable E name).before args s = true) (hcell : H[q]? = some ce) (hv : ce.vm = .none) (hcl : s.vm.findClass E = some ce.cls)
    (kk : W p l e R s m args below meth c H locs cells slots Q (F0 m x.handlerPc ls [.ref q])) : vx_W p l e R s m args below meth c H locs cells slots Q (F0 m pc ls rest) q := by
  intro T hT X
  have hpl : e.platform.magicAccessors = ({} : Platform).magicAccessors := by rw [X.admits.platform]
  obtain ⟨c3, c4, hc3, hc4, hasg⟩ := Cond.castable_spec hcast
  cases Option.some.inj (hc3.symm.trans hcl)
  obtain ⟨c5, hc5, hcl5⟩ := Cond.classLink_spec hown hlink e.platform hpl
  cases Option.some.inj (hc4.symm.trans hc5)
  obtain ⟨vm', X', st⟩ := X.thenCaughtThrough q (g := F0 m pc ls rest) rfl (Steps.refl _) (by rw [hT]; exact hcell) (by rw [hv]; rfl) (by obtain ⟨k9, h9, -⟩ := Vm.findClass_spec hcl; exact ⟨k9, h9⟩) pre x suf hsplit
    (fun z hz => by
      rcases hpass z hz with h | ⟨hz0, nm, hl1, hn1⟩
      · exact Or.inl h
      · obtain ⟨c6, hc6, hcl6⟩ := Cond.classLink_spec hown hl1 e.platform hpl
        obtain ⟨a8, b8, h1, h2, h3⟩ := hn1
        cases Option.some.inj (h1.symm.trans hcl)
        cases Option.some.inj (h2.symm.trans hc6)
        exact Or.inr ⟨hz0, _, hcl6, h3⟩) hx (Or.inr ⟨h0, c4, hcl5, hasg⟩)
  obtain ⟨t, a1, b1⟩ := kk (T.setVm vm') hT X'
  exact ⟨t, st.trans a1, b1⟩
end Rows
section Ends
variable {p : Program} {l : Launch} {e : Env} {R : Room} {s : State} {m : MethodId} {args : Array Value} {below : List Frame} {meth : Method} {c : Code} {H : Heap} {locs : List Loc} {cells slots : Nat} {Q : State → Prop}
variable {mc ms : Nat} {free : Addr → Prop} {A0 A1 : Nat → Prop} {H0 : Heap} {a : Array Value} {ls : Array Slot} {st0 rest : List Value}
variable {Qc : Array Value → State → Outcome → State → Prop} {XC : String → State → State → Prop}
/-- what a body that may throw owes at its end -/
def vx_MQ (below : List Frame) (Qc : Array Value → State → Outcome → State → Prop) (XC : String → State → State → Prop) (a : Array Value) (s : State) (mc ms : Nat) (free : Addr → Prop) : State → Prop := fun t =>
  ∃ o, t.status = .running ∧ Ended t below o ∧ vx_Q Qc XC mc ms free a s o t
theorem vx_ret {g : JFrame} {mc ms : Nat} (k : W p l e R s m args below meth c H locs cells slots (MQ below Qc args s mc ms free) g) : W p l e R s m args below meth c H locs cells slots (vx_MQ below Qc XC args s mc ms free) g := by
  intro T hT X
  obtain ⟨t, a1, o, b1, b2, b3, b4⟩ := k T hT X
  exact ⟨t, a1, o, b1, b2, Or.inl ⟨b3, b4⟩⟩
/-- not caught here: it goes on to the caller -/
theorem vx_widen {g : JFrame} {q : Addr} {k n : Nat} (h1 : cells ≤ k) (h2 : slots ≤ n) (kk : vx_W p l e R s m args below meth c H locs k n Q g q) : vx_W p l e R s m args below meth c H locs cells slots Q g q := fun T hT X => kk T hT (stand_widen X h1 h2)
theorem vx_out {pc : Nat} {E : String} {ce : Cell} {q : Addr} {mc ms : Nat} (hout : ∀ x ∈ c.exceptionTable.toList, covers x pc = false) (hlocks : meth.locks = false) (hcell : H[q]? = some ce) (hv : ce.vm = .none) (hcl : s.vm.findClass E = some ce.cls)
    (hx : ∀ t : State, t.heap = H → s.vm.Alike t.vm → XC E s t) (hf : ∀ z ∈ locs, free z.base) (hc : cells ≤ mc) (hs : slots ≤ ms) :
    vx_W p l e R s m args below meth c H locs cells slots (vx_MQ below Qc XC args s mc ms free) (F0 m pc ls rest) q := by
  intro T hT X
  obtain ⟨st1, hrun, hend, hW, hsm⟩ := X.leaveThrown q (g := F0 m pc ls rest) rfl rfl rfl hout hlocks
  have hcell9 : (T.setFrames (.throwing q :: below)).heap[q]? = some ce := by
    show T.heap[q]? = some ce
    rw [hT]; exact hcell
  exact ⟨_, st1, .threw q, hrun, hend, Or.inr ⟨q, rfl, E, ce, locs, hx _ hT hW.alike, hcell9, hv, hcl, hW, hsm.mono hc hs, hf⟩⟩
theorem vx_frame {U : State} {k n : Nat} (h : s.sameButNew ({ U with vm := s.vm } : State) locs k n) : s.heap.size ≤ U.heap.size ∧ ∀ q : Nat, q < s.heap.size → (∀ z ∈ locs, z.base ≠ q) → U.heap[q]? = s.heap[q]? := by
  obtain ⟨-, h2, -, -, -, h6⟩ := h
  refine ⟨h2, fun q hq hz => ?_⟩
  obtain ⟨c9, e1, e2, e3, e4⟩ := h6 q _ (Array.getElem?_eq_getElem hq)
  have hs : c9.slots = (s.heap[q]).slots := Array.ext_getElem? fun i => e4 i fun hm => hz _ hm rfl
  have h9 : c9 = s.heap[q] := by
    rw [hs] at e2
    exact e2
  have e5 : U.heap[q]? = some c9 := e1
  rw [e5, h9, Array.getElem?_eq_getElem hq]
/-- the words of a throw but the four that speak of the heap -/
def vx_no (w : Cond) : Bool := decide (w ≠ .isRef (.static Bundle.tN "UNASSIGNED_STACK" Bundle.steD)) && decide (w ≠ .isRef (.static Bundle.tN "SUPPRESSED_SENTINEL" Bundle.listD)) && decide (w ≠ .laysStatic Bundle.tN "UNASSIGNED_STACK" Bundle.steD) && decide (w ≠ .laysStatic Bundle.tN "SUPPRESSED_SENTINEL" Bundle.listD)
def vx_at0 (own : String) (ic : Nat) (X : String) (names : List String) : List Cond := (Bundle.ownAtoms0 own ic X names).filter vx_no
def vx_atS (own : String) (ic : Nat) (X : String) (names : List String) : List Cond := (Bundle.ownAtoms own ic X names).filter vx_no
/-- a word that the tables alone decide, or a good one -/
def vx_ot (w : Cond) : Bool := w.onTables || goodWord w
theorem vx_ot_at {args a' : Array Value} {s U : State} {w : Cond} (hW : s.WarmedH U.vm) (hvm : s.vm = U.vm) (hg : vx_ot w = true) (h : w.before args s = true) : w.before a' U = true := by
  simp only [vx_ot, Bool.or_eq_true] at hg
  rcases hg with hg | hg
  · exact va_tabs hg hvm h
  · exact word_at hW (good_of_word hg) h
/-- a list's words: the good ones out of the method's own list, the others by premises of their own -/
theorem vx_hat {args : Array Value} {s : State} {L B : List Cond} (h1 : ∀ w ∈ L.filter goodWord, w.before args s = true) (h2 : ∀ w ∈ L.filter (fun w => !goodWord w), w ∈ B) (h3 : ∀ w ∈ B, w.before args s = true) : ∀ w ∈ L, w.before args s = true := by
  intro w hw
  by_cases g : goodWord w = true
  · exact h1 w (List.mem_filter.mpr ⟨hw, g⟩)
  · refine h3 w (h2 w (List.mem_filter.mpr ⟨hw, ?_⟩))
    show (!goodWord w) = true
    cases hgw : goodWord w
    · rfl
    · exact absurd hgw g
theorem vx_c {args : Array Value} {s : State} {w : Cond} {B : List Cond} (h : w.before args s = true) (t : ∀ w ∈ B, w.before args s = true) : ∀ w' ∈ w :: B, w'.before args s = true := fun w' h' => (List.mem_cons.mp h').elim (fun e => by rw [e]; exact h) (t w')
theorem vx_n {args : Array Value} {s : State} : ∀ w ∈ ([] : List Cond), w.before args s = true := fun _ h => nomatch h
theorem vx_own {args : Array Value} {s : State} {L : List Cond} (h1 : ∀ w ∈ L.filter vx_no, w.before args s = true)
    (hU : (Cond.isRef (.static Bundle.tN "UNASSIGNED_STACK" Bundle.steD)).before args s = true) (hN : (Cond.isRef (.static Bundle.tN "SUPPRESSED_SENTINEL" Bundle.listD)).before args s = true)
    (lU : (Cond.laysStatic Bundle.tN "UNASSIGNED_STACK" Bundle.steD).before args s = true) (lN : (Cond.laysStatic Bundle.tN "SUPPRESSED_SENTINEL" Bundle.listD).before args s = true) : ∀ w ∈ L, w.before args s = true := by
  intro w hw
  by_cases e1 : w = .isRef (.static Bundle.tN "UNASSIGNED_STACK" Bundle.steD)
  · rw [e1]; exact hU
  · by_cases e2 : w = .isRef (.static Bundle.tN "SUPPRESSED_SENTINEL" Bundle.listD)
    · rw [e2]; exact hN
    · by_cases e3 : w = .laysStatic Bundle.tN "UNASSIGNED_STACK" Bundle.steD
      · rw [e3]; exact lU
      · by_cases e4 : w = .laysStatic Bundle.tN "SUPPRESSED_SENTINEL" Bundle.listD
        · rw [e4]; exact lN
        · exact h1 w (List.mem_filter.mpr ⟨hw, by unfold vx_no; rw [decide_eq_true e1, decide_eq_true e2, decide_eq_true e3, decide_eq_true e4]; rfl⟩)
/-- where a static field lies, its class's statics cell in H -/
def vx_L (C n d : String) (A : Nat → Prop) (U : State) (H : Heap) : Prop := ∃ (c : ClassId) (k : Class) (i : Nat) (f : Field) (a : Nat) (cell : Cell), U.vm.findClass C = some c ∧ U.fieldFound? C n d = some (c, k, i, f) ∧ f.isStatic = true ∧ k.statics = some a ∧ H[a]? = some cell ∧ cell.vm.isStatics = true ∧ cell.cls = c ∧ f.slot < cell.slots.size ∧ k.staticTypes[f.slot]? = some f.type ∧ ¬ A a
theorem vx_L.moved {C n d : String} {A : Nat → Prop} {u U : State} {H : Heap} (hvm : u.vm.Alike U.vm) (h : vx_L C n d A u H) : vx_L C n d A U H := by
  obtain ⟨c, k, i, f, a, cell, h1, h2, h3, h4, h5, h6, h7, h8, h9, h10⟩ := h
  obtain ⟨k', hi', he⟩ := State.fieldFound?_setVm hvm h2
  exact ⟨c, k', i, f, a, cell, by rw [hvm.findClass]; exact h1, hi', h3, by rw [he]; exact h4, h5, h6, h7, h8, by rw [he]; exact h9, h10⟩
theorem vx_L.kept {C n d : String} {A : Nat → Prop} {U : State} {H H1 : Heap} (h : vx_L C n d A U H) (hq : ∀ a : Nat, a < H.size → ¬ A a → H1[a]? = H[a]?) : vx_L C n d A U H1 := by
  obtain ⟨c, k, i, f, a, cell, h1, h2, h3, h4, h5, h6, h7, h8, h9, h10⟩ := h
  exact ⟨c, k, i, f, a, cell, h1, h2, h3, h4, by rw [hq a (Array.getElem?_eq_some_iff.mp h5).1 h10]; exact h5, h6, h7, h8, h9, h10⟩
theorem vx_L.narrow {C n d : String} {A B : Nat → Prop} {U : State} {H : Heap} (h : vx_L C n d A U H) (hAB : ∀ q, B q → A q) : vx_L C n d B U H := by
  obtain ⟨c, k, i, f, a, cell, h1, h2, h3, h4, h5, h6, h7, h8, h9, h10⟩ := h
  exact ⟨c, k, i, f, a, cell, h1, h2, h3, h4, h5, h6, h7, h8, h9, fun z => h10 (hAB _ z)⟩
theorem vx_L.word {C n d : String} {A : Nat → Prop} {s : State} {args : Array Value} (h : vx_L C n d A s s.heap) : (Cond.laysStatic C n d).before args s = true := by
  obtain ⟨c, k, i, f, a, cell, h1, h2, h3, h4, h5, h6, h7, h8, h9, -⟩ := h
  show (Cond.laysStatic C n d).holds args s none s [] = true
  exact Cond.laysStatic_of h1 h2 h3 h4 h5 h6 h7 h8 h9
/-- .. and what it holds: null or some reference -/
def vx_Zq (C n d : String) (A : Nat → Prop) (U : State) (H : Heap) : Prop := va_Zq C n d A U H ∧ vx_L C n d A U H
theorem vx_Zq.moved {C n d : String} {A : Nat → Prop} {u U : State} {H : Heap} (hvm : u.vm.Alike U.vm) (h : vx_Zq C n d A u H) : vx_Zq C n d A U H := ⟨va_Zq.moved hvm h.1, vx_L.moved hvm h.2⟩
theorem vx_Zq.kept {C n d : String} {A : Nat → Prop} {U : State} {H H1 : Heap} (h : vx_Zq C n d A U H) (hq : ∀ a : Nat, a < H.size → ¬ A a → H1[a]? = H[a]?) : vx_Zq C n d A U H1 := ⟨va_Zq.kept h.1 hq, vx_L.kept h.2 hq⟩
theorem vx_Zq.narrow {C n d : String} {A B : Nat → Prop} {U : State} {H : Heap} (h : vx_Zq C n d A U H) (hAB : ∀ q, B q → A q) : vx_Zq C n d B U H := ⟨va_Zq.narrow h.1 hAB, vx_L.narrow h.2 hAB⟩
theorem vx_Zqof {args : Array Value} {s : State} {C n d : String} {A : Nat → Prop} (hl : (Cond.laysStatic C n d).before args s = true) (hini : (Cond.initialized C).before args s = true) (h : (Cond.isRef (.static C n d)).before args s = true) (hA : ∀ a : Nat, a < s.heap.size → ¬ A a) : vx_Zq C n d A s s.heap := by
  refine ⟨va_Zqof hl hini h hA, ?_⟩
  obtain ⟨c, k, i, f, a, cell, h1, h2, h3, h4, h5, h6, h7, h8, h9⟩ := Cond.laysStatic_spec hl
  exact ⟨c, k, i, f, a, cell, h1, h2, h3, h4, h5, h6, h7, h8, h9, hA a (Array.getElem?_eq_some_iff.mp h5).1⟩
theorem vx_isRef {C n d : String} {v : Value} {A : Nat → Prop} {s : State} {args : Array Value} (h : va_Z C n d v A s s.heap) (hv : v.isRef = true) : (Cond.isRef (.static C n d)).before args s = true := by
  obtain ⟨cf, kf, fi, f, a, cell, h1, h2, h3, h4, h5, h6, h7, -⟩ := h
  have he : (Term.static C n d).eval args s none [] s = some v := by
    simp [Term.eval, State.fieldNamed?, h1, h2, h4, h5, h6, h7]
  simp only [Cond.before, Cond.holds, Cond.value, he]
  cases v <;> simp_all [Value.isRef]
theorem vx_isRefq {C n d : String} {A : Nat → Prop} {s : State} {args : Array Value} (h : va_Zq C n d A s s.heap) : (Cond.isRef (.static C n d)).before args s = true := by
  rcases h with h | ⟨t, h⟩
  · exact vx_isRef h rfl
  · exact vx_isRef h rfl
/-- the same frame, seen from here: as if the method were called anew in this heap -/
theorem vx_rebase {T : State} (X : Stand p l e R s m args below meth c T locs cells slots) {R' : Room} (hf : R'.frames ≤ R.frames) (hl : R'.locals ≤ R.locals) (hc : cells + R'.cells ≤ R.cells) (hs : slots + R'.slots ≤ R.slots) :
    Stand p l e R' ((T.setVm s.vm).setFrames (.invoking m args :: below)) m args below meth c T [] 0 0 := by
  have htop : (T.setVm s.vm).topJava?.isSome := X.here.top
  have hF : ((T.setVm s.vm).setFrames (.invoking m args :: below)).frames = .invoking m args :: below := State.frames_setFrames _ (State.cur_lt_of_top htop)
  obtain ⟨g₀, hg0⟩ := Option.isSome_iff_exists.mp htop
  obtain ⟨r, hr⟩ := State.topJava?_eq_some.mp hg0
  have hl9 : e.platform.stackLimits (T.setVm s.vm).me = e.platform.stackLimits s.me := X.limits
  have hb9 : (T.setVm s.vm).me.stackBytes = s.me.stackBytes := X.bytes
  refine ⟨X.admits, X.cas, X.clock, hF, ?_, X.hears, X.method, X.code, X.here, X.tail, X.warmed, ?_, ?_, ?_⟩
  · have h := X.room
    have hU : ((T.setVm s.vm).setFrames (.invoking m args :: below)).localsInUse = s.localsInUse := by
      rw [State.localsInUse_invoking hF (meth := meth) (c := c) X.method X.code, State.localsInUse_invoking X.frames X.method X.code]
    simp only [State.hasRoom, Bool.and_eq_true, decide_eq_true_eq] at h ⊢
    obtain ⟨⟨⟨⟨h1, h2, h3, h4, h5, h6⟩, h7⟩, h8⟩, h9⟩ := h
    rw [X.frames, List.length_cons] at h2 h3
    have q1 := X.heapSize
    have q2 := X.used
    simp only [hF, hU, List.length_cons, State.stackLimits_setFrames, State.stackBytes_setFrames, hl9, hb9]
    refine ⟨⟨⟨⟨by omega, by omega, by omega, by omega, by omega, h6⟩, ?_⟩, ?_⟩, X.book⟩
    · show T.heap.size + R'.cells ≤ e.platform.maxCells
      omega
    · show T.slotsUsed + R'.slots ≤ e.platform.maxSlots
      omega
  · rw [State.stackLimits_setFrames]; rfl
  · rw [State.stackBytes_setFrames]; rfl
  · refine ⟨?_, Nat.le_refl _, Nat.le_refl _, ?_, ?_, fun a c9 h9 => ⟨c9, h9, rfl, rfl, fun _ _ => rfl⟩⟩
    · obtain ⟨t, ht, -⟩ := State.frames_cons hr
      show T.setVm s.vm = { ((T.setVm s.vm).setFrames (.invoking m args :: below)).setFrames (T.setVm s.vm).frames with heap := T.heap, slotsUsed := T.slotsUsed }
      rw [State.setFrames_setFrames, State.setFrames_self ht]
      rfl
    · show T.slotsUsed = T.slotsUsed + ((T.heap.toList.drop T.heap.size).map (·.slots.size)).sum
      rw [List.drop_eq_nil_of_le (Nat.le_of_eq Array.length_toList)]
      rfl
    · show ((T.heap.toList.drop T.heap.size).map (·.slots.size)).sum ≤ 0
      rw [List.drop_eq_nil_of_le (Nat.le_of_eq Array.length_toList)]
      exact Nat.le_refl _
/-- 'throw new E()': new; dup; invokespecial; athrow -/
theorem vx_throw0 {cc : ByteArray} {pc : Nat} (hexec : p.tables.exec = Jvm.exec) (hb : c.code = cc) (hl : l.stackTraces = false) {own cls : String} {names : List String} {ik ic mc ms : Nat} {A : Nat → Prop}
    (hown : s.vm.findClass own = some m.cls) (hcls : Bundle.fit cls = true) (hnames : ∀ n ∈ names, Bundle.fit n = true)
    (hk : (Cond.classLink own ik cls).before args s = true) (hini : (Cond.initialized cls).before args s = true) (hat : ∀ w ∈ vx_at0 own ic cls names, w.before args s = true)
    (hgood : ∀ w ∈ Cond.classLink own ik cls :: Cond.initialized cls :: vx_at0 own ic cls names, vx_ot w = true)
    (hU : vx_Zq Bundle.tN "UNASSIGNED_STACK" Bundle.steD A s s.heap) (hN : vx_Zq Bundle.tN "SUPPRESSED_SENTINEL" Bundle.listD A s s.heap) (hS : va_S A s.heap H locs) (hsize : ls.size = c.maxLocals)
    (d0 : decode cc pc = .ok (.new ik, 3)) (d3 : decode cc (pc + 3) = .ok (.dup, 1)) (d4 : decode cc (pc + 4) = .ok (.invokespecial ic, 3)) (d7 : decode cc (pc + 7) = .ok (.athrow, 1))
    (hout : ∀ x ∈ c.exceptionTable.toList, covers x (pc + 7) = false)
    (hRframes : names.length + 3 < R.frames) (hRlocals : (rest.map fun v => v.category).sum + (13 * (names.length + 1) + 42) ≤ R.locals) (hRcells : cells + 1 ≤ R.cells) (hRslots : slots + 6 ≤ R.slots) (hlocks : meth.locks = false)
    (hx : ∀ t : State, s.vm.Alike t.vm → H.size ≤ t.heap.size → (∀ q : Nat, q < H.size → t.heap[q]? = H[q]?) → XC cls s t)
    (hf : ∀ z ∈ locs, free z.base) (hc : cells + 1 ≤ mc) (hs : slots + 6 ≤ ms) :
    W p l e R s m args below meth c H locs cells slots (vx_MQ below Qc XC args s mc ms free) (F0 m pc ls rest) := by
  intro T hT X
  have htr : e.platform.stackTraces = false := (show e.platform.stackTraces = l.stackTraces by rw [X.admits.platform]).trans hl
  have Y := vx_rebase X (R' := { frames := R.frames, locals := R.locals, cells := 1, slots := 6 }) (Nat.le_refl _) (Nat.le_refl _) hRcells hRslots
  obtain ⟨s', hA⟩ : ∃ z, z = (T.setVm s.vm).setFrames (.invoking m args :: below) := ⟨_, rfl⟩
  rw [← hA] at Y
  have hvm : s'.vm = s.vm := by rw [hA]; rfl
  have hhp : s'.heap = H := by rw [hA]; exact hT
  have hW0 : s.WarmedH s'.vm := by rw [hvm]; exact State.WarmedH.refl s
  have hat' : ∀ w ∈ vx_at0 own ic cls names, w.before args s' = true := fun w hw => vx_ot_at hW0 hvm.symm (hgood w (List.mem_cons_of_mem _ (List.mem_cons_of_mem _ hw))) (hat w hw)
  have hk' : (Cond.classLink own ik cls).before args s' = true := vx_ot_at hW0 hvm.symm (hgood _ List.mem_cons_self) hk
  have hini' : (Cond.initialized cls).before args s' = true := vx_ot_at hW0 hvm.symm (hgood _ (List.mem_cons_of_mem _ List.mem_cons_self)) hini
  have hU' : vx_Zq Bundle.tN "UNASSIGNED_STACK" Bundle.steD A s' s'.heap := by rw [hhp]; exact vx_Zq.moved hW0.alike (hU.kept hS.2.1)
  have hN' : vx_Zq Bundle.tN "SUPPRESSED_SENTINEL" Bundle.listD A s' s'.heap := by rw [hhp]; exact vx_Zq.moved hW0.alike (hN.kept hS.2.1)
  have h : ∀ w ∈ Bundle.ownAtoms0 own ic cls names, w.before args s' = true := vx_own hat' (vx_isRefq hU'.1) (vx_isRefq hN'.1) hU'.2.word hN'.2.word
  have hown' : s'.vm.findClass own = some m.cls := by rw [hvm]; exact hown
  have hins : (Cond.instantiable cls 6).before args s' = true := h _ (by simp [Bundle.ownAtoms0])
  obtain ⟨vm₁, cX, kX, hfX, hkX, -, -, X₁, st1⟩ := Y.newCold hexec (own := own) (C := cls) (index := ik) (n := 6) hown' hk' hins hini'
    (g := F0 m pc ls rest) rfl (by rw [hb]; exact d0) (Nat.le_refl _) (Nat.le_refl _)
  generalize hT1 : (T.setVm vm₁).pushCell { cls := cX, slots := kX.instanceTypes.map defaultValue, vm := .none } = T1 at X₁ st1
  have hcat : (Value.ref T.heap.size).category = 1 := rfl
  have hcellA : T1.heap[T.heap.size]? = some (freshCell cX kX) := by rw [← hT1]; exact State.heap_pushCell_size _ _
  have d3' : decode c.code (pc + 3) = .ok (.dup, 1) := by rw [hb]; exact d3
  obtain ⟨U, hsteps, hrun, hend, hW, hsame, ce, hce, hO⟩ := X₁.ctorThrow0 hexec htr (own := own) (cls := cls) (names := names) (ic := ic) hown' hcls hnames h (fun x hx => nomatch hx) hfX hkX hcellA (by rw [hhp, hT]; exact Nat.le_refl _)
    (g := { method := m, pc := pc + 4, locals := ls, stack := .ref T.heap.size :: .ref T.heap.size :: rest, locked := none }) rfl hsize rfl rfl (rest := rest) rfl
    (by rw [hb]; exact d4) (by rw [hb]; exact d7) hout hRframes (by simp only [List.map_cons, List.sum_cons, hcat]; omega) hlocks
  obtain ⟨f1, f2⟩ := vx_frame hsame
  rw [hhp] at f1 f2
  have hWs : s.WarmedH U.vm := State.WarmedH.trans hW0 hW
  have hcl : s.vm.findClass cls = some ce.cls := by
    have h9 := hO.cls
    rw [hvm] at h9
    exact h9
  have hall : s.sameButNew ({ U with vm := s.vm } : State) locs mc ms := by
    subst hA
    obtain ⟨e1, e2⟩ := hsame
    rw [State.setFrames_setFrames] at e1
    have h2 : (T.setVm s.vm).sameButNew ({ U with vm := s.vm } : State) [] (0 + 1) (0 + 6) := ⟨e1, e2⟩
    have h3 := X.same.trans h2
    rw [List.append_nil] at h3
    exact h3.mono hc hs
  refine ⟨U, ?_, .threw T.heap.size, hrun, hend, Or.inr ⟨T.heap.size, rfl, cls, ce, locs, hx U hWs.alike f1 (fun q hq => f2 q hq (fun z hz => nomatch hz)), hce, hO.vm, hcl, hWs, hall, hf⟩⟩
  refine st1 _ ?_
  show Steps p.tables e below (T1.setTop { method := m, pc := pc + 3, locals := ls, stack := .ref T.heap.size :: rest, locked := none }) _
  jvm_step X₁.here [X₁.here.top, hexec, d3', Value.category]
  exact hsteps
/-- 'throw new E("text")': new; dup; ldc; invokespecial; athrow -/
theorem vx_throwS {cc : ByteArray} {pc : Nat} (hexec : p.tables.exec = Jvm.exec) (hb : c.code = cc) (hl : l.stackTraces = false) {own cls text : String} {names : List String} {ik is ic mc ms sa : Nat} {A : Nat → Prop}
    (hown : s.vm.findClass own = some m.cls) (hcls : Bundle.fit cls = true) (hnames : ∀ n ∈ names, Bundle.fit n = true)
    (hk : (Cond.classLink own ik cls).before args s = true) (hini : (Cond.initialized cls).before args s = true) (hstr : vk_R own is text sa s) (hat : ∀ w ∈ vx_atS own ic cls names, w.before args s = true)
    (hgood : ∀ w ∈ Cond.classLink own ik cls :: Cond.initialized cls :: vx_atS own ic cls names, vx_ot w = true)
    (hU : vx_Zq Bundle.tN "UNASSIGNED_STACK" Bundle.steD A s s.heap) (hN : vx_Zq Bundle.tN "SUPPRESSED_SENTINEL" Bundle.listD A s s.heap) (hS : va_S A s.heap H locs) (hsize : ls.size = c.maxLocals)
    (d0 : decode cc pc = .ok (.new ik, 3)) (d3 : decode cc (pc + 3) = .ok (.dup, 1)) (d4 : decode cc (pc + 4) = .ok (.ldc is, 2)) (d6 : decode cc (pc + 6) = .ok (.invokespecial ic, 3)) (d9 : decode cc (pc + 9) = .ok (.athrow, 1))
    (hout : ∀ x ∈ c.exceptionTable.toList, covers x (pc + 9) = false)
    (hRframes : names.length + 3 < R.frames) (hRlocals : (rest.map fun v => v.category).sum + (13 * (names.length + 1) + 43) ≤ R.locals) (hRcells : cells + 1 ≤ R.cells) (hRslots : slots + 6 ≤ R.slots) (hlocks : meth.locks = false)
    (hx : ∀ t : State, s.vm.Alike t.vm → H.size ≤ t.heap.size → (∀ q : Nat, q < H.size → t.heap[q]? = H[q]?) → XC cls s t)
    (hf : ∀ z ∈ locs, free z.base) (hc : cells + 1 ≤ mc) (hs : slots + 6 ≤ ms) :
    W p l e R s m args below meth c H locs cells slots (vx_MQ below Qc XC args s mc ms free) (F0 m pc ls rest) := by
  intro T hT X
  have htr : e.platform.stackTraces = false := (show e.platform.stackTraces = l.stackTraces by rw [X.admits.platform]).trans hl
  have Y := vx_rebase X (R' := { frames := R.frames, locals := R.locals, cells := 1, slots := 6 }) (Nat.le_refl _) (Nat.le_refl _) hRcells hRslots
  obtain ⟨s', hA⟩ : ∃ z, z = (T.setVm s.vm).setFrames (.invoking m args :: below) := ⟨_, rfl⟩
  rw [← hA] at Y
  have hvm : s'.vm = s.vm := by rw [hA]; rfl
  have hhp : s'.heap = H := by rw [hA]; exact hT
  have hW0 : s.WarmedH s'.vm := by rw [hvm]; exact State.WarmedH.refl s
  have hat' : ∀ w ∈ vx_atS own ic cls names, w.before args s' = true := fun w hw => vx_ot_at hW0 hvm.symm (hgood w (List.mem_cons_of_mem _ (List.mem_cons_of_mem _ hw))) (hat w hw)
  have hk' : (Cond.classLink own ik cls).before args s' = true := vx_ot_at hW0 hvm.symm (hgood _ List.mem_cons_self) hk
  have hini' : (Cond.initialized cls).before args s' = true := vx_ot_at hW0 hvm.symm (hgood _ (List.mem_cons_of_mem _ List.mem_cons_self)) hini
  have hU' : vx_Zq Bundle.tN "UNASSIGNED_STACK" Bundle.steD A s' s'.heap := by rw [hhp]; exact vx_Zq.moved hW0.alike (hU.kept hS.2.1)
  have hN' : vx_Zq Bundle.tN "SUPPRESSED_SENTINEL" Bundle.listD A s' s'.heap := by rw [hhp]; exact vx_Zq.moved hW0.alike (hN.kept hS.2.1)
  have h : ∀ w ∈ Bundle.ownAtoms own ic cls names, w.before args s' = true := vx_own hat' (vx_isRefq hU'.1) (vx_isRefq hN'.1) hU'.2.word hN'.2.word
  have hown' : s'.vm.findClass own = some m.cls := by rw [hvm]; exact hown
  have hins : (Cond.instantiable cls 6).before args s' = true := h _ (by simp [Bundle.ownAtoms])
  obtain ⟨vm₁, cX, kX, hfX, hkX, -, -, X₁, st1⟩ := Y.newCold hexec (own := own) (C := cls) (index := ik) (n := 6) hown' hk' hins hini'
    (g := F0 m pc ls rest) rfl (by rw [hb]; exact d0) (Nat.le_refl _) (Nat.le_refl _)
  generalize hT1 : (T.setVm vm₁).pushCell { cls := cX, slots := kX.instanceTypes.map defaultValue, vm := .none } = T1 at X₁ st1
  have hcat : (Value.ref T.heap.size).category = 1 := rfl
  have hcellA : T1.heap[T.heap.size]? = some (freshCell cX kX) := by rw [← hT1]; exact State.heap_pushCell_size _ _
  have d3' : decode c.code (pc + 3) = .ok (.dup, 1) := by rw [hb]; exact d3
  have d4' : decode c.code (pc + 4) = .ok (.ldc is, 2) := by rw [hb]; exact d4
  have hstr' : vk_R own is text sa s' := vk_R.warm hW0 hstr
  obtain ⟨U, hsteps, hrun, hend, hW, hsame, ce, hce, hO⟩ := X₁.ctorThrowS hexec htr (own := own) (cls := cls) (names := names) (ic := ic) hown' hcls hnames h (fun x hx => nomatch hx) hfX hkX hcellA (by rw [hhp, hT]; exact Nat.le_refl _) (msg := .ref sa) rfl
    (g := { method := m, pc := pc + 6, locals := ls, stack := .ref sa :: .ref T.heap.size :: .ref T.heap.size :: rest, locked := none }) rfl hsize rfl rfl (rest := rest) rfl
    (by rw [hb]; exact d6) (by rw [hb]; exact d9) hout hRframes (by simp only [List.map_cons, List.sum_cons, hcat]; omega) hlocks
  obtain ⟨f1, f2⟩ := vx_frame hsame
  rw [hhp] at f1 f2
  have hWs : s.WarmedH U.vm := State.WarmedH.trans hW0 hW
  have hcl : s.vm.findClass cls = some ce.cls := by
    have h9 := hO.cls
    rw [hvm] at h9
    exact h9
  have hall : s.sameButNew ({ U with vm := s.vm } : State) locs mc ms := by
    subst hA
    obtain ⟨e1, e2⟩ := hsame
    rw [State.setFrames_setFrames] at e1
    have h2 : (T.setVm s.vm).sameButNew ({ U with vm := s.vm } : State) [] (0 + 1) (0 + 6) := ⟨e1, e2⟩
    have h3 := X.same.trans h2
    rw [List.append_nil] at h3
    exact h3.mono hc hs
  refine ⟨U, ?_, .threw T.heap.size, hrun, hend, Or.inr ⟨T.heap.size, rfl, cls, ce, locs, hx U hWs.alike f1 (fun q hq => f2 q hq (fun z hz => nomatch hz)), hce, hO.vm, hcl, hWs, hall, hf⟩⟩
  refine st1 _ ?_
  show Steps p.tables e below (T1.setTop { method := m, pc := pc + 3, locals := ls, stack := .ref T.heap.size :: rest, locked := none }) _
  jvm_step X₁.here [X₁.here.top, hexec, d3', Value.category]
  exact X₁.ldcString hexec (own := own) (text := text) (index := is) (a := sa) hown' hstr'.1 hstr'.2
    (g := { method := m, pc := pc + 4, locals := ls, stack := .ref T.heap.size :: .ref T.heap.size :: rest, locked := none }) rfl d4' _ hsteps
/-- 'throw new E("text")', the text by a wide index -/
theorem vx_throwSW {cc : ByteArray} {pc : Nat} (hexec : p.tables.exec = Jvm.exec) (hb : c.code = cc) (hl : l.stackTraces = false) {own cls text : String} {names : List String} {ik is ic mc ms sa : Nat} {A : Nat → Prop}
    (hown : s.vm.findClass own = some m.cls) (hcls : Bundle.fit cls = true) (hnames : ∀ n ∈ names, Bundle.fit n = true)
    (hk : (Cond.classLink own ik cls).before args s = true) (hini : (Cond.initialized cls).before args s = true) (hstr : vk_R own is text sa s) (hat : ∀ w ∈ vx_atS own ic cls names, w.before args s = true)
    (hgood : ∀ w ∈ Cond.classLink own ik cls :: Cond.initialized cls :: vx_atS own ic cls names, vx_ot w = true)
    (hU : vx_Zq Bundle.tN "UNASSIGNED_STACK" Bundle.steD A s s.heap) (hN : vx_Zq Bundle.tN "SUPPRESSED_SENTINEL" Bundle.listD A s s.heap) (hS : va_S A s.heap H locs) (hsize : ls.size = c.maxLocals)
    (d0 : decode cc pc = .ok (.new ik, 3)) (d3 : decode cc (pc + 3) = .ok (.dup, 1)) (d4 : decode cc (pc + 4) = .ok (.ldc_w is, 3)) (d7 : decode cc (pc + 7) = .ok (.invokespecial ic, 3)) (d10 : decode cc (pc + 10) = .ok (.athrow, 1))
    (hout : ∀ x ∈ c.exceptionTable.toList, covers x (pc + 10) = false)
    (hRframes : names.length + 3 < R.frames) (hRlocals : (rest.map fun v => v.category).sum + (13 * (names.length + 1) + 43) ≤ R.locals) (hRcells : cells + 1 ≤ R.cells) (hRslots : slots + 6 ≤ R.slots) (hlocks : meth.locks = false)
    (hx : ∀ t : State, s.vm.Alike t.vm → H.size ≤ t.heap.size → (∀ q : Nat, q < H.size → t.heap[q]? = H[q]?) → XC cls s t)
    (hf : ∀ z ∈ locs, free z.base) (hc : cells + 1 ≤ mc) (hs : slots + 6 ≤ ms) :
    W p l e R s m args below meth c H locs cells slots (vx_MQ below Qc XC args s mc ms free) (F0 m pc ls rest) := by
  intro T hT X
  have htr : e.platform.stackTraces = false := (show e.platform.stackTraces = l.stackTraces by rw [X.admits.platform]).trans hl
  have Y := vx_rebase X (R' := { frames := R.frames, locals := R.locals, cells := 1, slots := 6 }) (Nat.le_refl _) (Nat.le_refl _) hRcells hRslots
  obtain ⟨s', hA⟩ : ∃ z, z = (T.setVm s.vm).setFrames (.invoking m args :: below) := ⟨_, rfl⟩
  rw [← hA] at Y
  have hvm : s'.vm = s.vm := by rw [hA]; rfl
  have hhp : s'.heap = H := by rw [hA]; exact hT
  have hW0 : s.WarmedH s'.vm := by rw [hvm]; exact State.WarmedH.refl s
  have hat' : ∀ w ∈ vx_atS own ic cls names, w.before args s' = true := fun w hw => vx_ot_at hW0 hvm.symm (hgood w (List.mem_cons_of_mem _ (List.mem_cons_of_mem _ hw))) (hat w hw)
  have hk' : (Cond.classLink own ik cls).before args s' = true := vx_ot_at hW0 hvm.symm (hgood _ List.mem_cons_self) hk
  have hini' : (Cond.initialized cls).before args s' = true := vx_ot_at hW0 hvm.symm (hgood _ (List.mem_cons_of_mem _ List.mem_cons_self)) hini
  have hU' : vx_Zq Bundle.tN "UNASSIGNED_STACK" Bundle.steD A s' s'.heap := by rw [hhp]; exact vx_Zq.moved hW0.alike (hU.kept hS.2.1)
  have hN' : vx_Zq Bundle.tN "SUPPRESSED_SENTINEL" Bundle.listD A s' s'.heap := by rw [hhp]; exact vx_Zq.moved hW0.alike (hN.kept hS.2.1)
  have h : ∀ w ∈ Bundle.ownAtoms own ic cls names, w.before args s' = true := vx_own hat' (vx_isRefq hU'.1) (vx_isRefq hN'.1) hU'.2.word hN'.2.word
  have hown' : s'.vm.findClass own = some m.cls := by rw [hvm]; exact hown
  have hins : (Cond.instantiable cls 6).before args s' = true := h _ (by simp [Bundle.ownAtoms])
  obtain ⟨vm₁, cX, kX, hfX, hkX, -, -, X₁, st1⟩ := Y.newCold hexec (own := own) (C := cls) (index := ik) (n := 6) hown' hk' hins hini'
    (g := F0 m pc ls rest) rfl (by rw [hb]; exact d0) (Nat.le_refl _) (Nat.le_refl _)
  generalize hT1 : (T.setVm vm₁).pushCell { cls := cX, slots := kX.instanceTypes.map defaultValue, vm := .none } = T1 at X₁ st1
  have hcat : (Value.ref T.heap.size).category = 1 := rfl
  have hcellA : T1.heap[T.heap.size]? = some (freshCell cX kX) := by rw [← hT1]; exact State.heap_pushCell_size _ _
  have d3' : decode c.code (pc + 3) = .ok (.dup, 1) := by rw [hb]; exact d3
  have d4' : decode c.code (pc + 4) = .ok (.ldc_w is, 3) := by rw [hb]; exact d4
  have hstr' : vk_R own is text sa s' := vk_R.warm hW0 hstr
  obtain ⟨U, hsteps, hrun, hend, hW, hsame, ce, hce, hO⟩ := X₁.ctorThrowS hexec htr (own := own) (cls := cls) (names := names) (ic := ic) hown' hcls hnames h (fun x hx => nomatch hx) hfX hkX hcellA (by rw [hhp, hT]; exact Nat.le_refl _) (msg := .ref sa) rfl
    (g := { method := m, pc := pc + 7, locals := ls, stack := .ref sa :: .ref T.heap.size :: .ref T.heap.size :: rest, locked := none }) rfl hsize rfl rfl (rest := rest) rfl
    (by rw [hb]; exact d7) (by rw [hb]; exact d10) hout hRframes (by simp only [List.map_cons, List.sum_cons, hcat]; omega) hlocks
  obtain ⟨f1, f2⟩ := vx_frame hsame
  rw [hhp] at f1 f2
  have hWs : s.WarmedH U.vm := State.WarmedH.trans hW0 hW
  have hcl : s.vm.findClass cls = some ce.cls := by
    have h9 := hO.cls
    rw [hvm] at h9
    exact h9
  have hall : s.sameButNew ({ U with vm := s.vm } : State) locs mc ms := by
    subst hA
    obtain ⟨e1, e2⟩ := hsame
    rw [State.setFrames_setFrames] at e1
    have h2 : (T.setVm s.vm).sameButNew ({ U with vm := s.vm } : State) [] (0 + 1) (0 + 6) := ⟨e1, e2⟩
    have h3 := X.same.trans h2
    rw [List.append_nil] at h3
    exact h3.mono hc hs
  refine ⟨U, ?_, .threw T.heap.size, hrun, hend, Or.inr ⟨T.heap.size, rfl, cls, ce, locs, hx U hWs.alike f1 (fun q hq => f2 q hq (fun z hz => nomatch hz)), hce, hO.vm, hcl, hWs, hall, hf⟩⟩
  refine st1 _ ?_
  show Steps p.tables e below (T1.setTop { method := m, pc := pc + 3, locals := ls, stack := .ref T.heap.size :: rest, locked := none }) _
  jvm_step X₁.here [X₁.here.top, hexec, d3', Value.category]
  exact X₁.ldcStringW hexec (own := own) (text := text) (index := is) (a := sa) hown' hstr'.1 hstr'.2
    (g := { method := m, pc := pc + 4, locals := ls, stack := .ref T.heap.size :: .ref T.heap.size :: rest, locked := none }) rfl d4' _ hsteps
end Ends
section Bodies
variable {l : Launch}
theorem vx_ofW {y : MethodName} {ws ws' : List Cond} {rm : Room} {Pc : Array Value → State → Prop} {Qc : Array Value → State → Outcome → State → Prop} {XC : String → State → State → Prop} {mc ms : Nat} {free : Addr → Prop} {cc : ByteArray} {maxL : Nat} {ret : Option FieldType}
    (hy : plainName y.cls = true) (hw : ws = Cond.code y cc maxL ret :: ws')
    (body : ∀ p e s m args below meth c s₁, BodyLoose p l y (headSpec ws rm) cc maxL ret e s m args below meth c s₁ → c.maxLocals = maxL → (∀ x ∈ c.exceptionTable.toList, False) → Pc args s →
      W p l e (headSpec ws rm).room s m args below meth c s.heap [] 0 0 (vx_MQ below Qc XC args s mc ms free) (entryFrame m args maxL)) : vx_Met l y ws rm Pc Qc XC mc ms free := by
  refine MetFree.of_bodyS (code := cc) (maxLocals := maxL) (ret := ret) hy ?_ ?_
  · intro args s m h hn
    obtain ⟨meth, c, h1, h2, h3, h4, h5, h6, -, -⟩ := Cond.code_spec hn (atoms_spec (ws := ws) h _ (by rw [hw]; exact List.mem_cons_self))
    exact ⟨meth, c, h1, h2, h3, h4, h5, h6⟩
  · intro p e s m args below meth c s₁ B hml hP _
    have hh0 : s₁.heap = s.heap := by rw [B.state]; rfl
    have ht : ∀ x ∈ c.exceptionTable.toList, False := by
      obtain ⟨meth9, c9, h1, h2, -, -, -, -, h7, -⟩ := Cond.code_spec B.named (atoms_spec (ws := ws) B.pre _ (by rw [hw]; exact List.mem_cons_self))
      cases Option.some.inj (h1.symm.trans B.method)
      cases Option.some.inj (h2.symm.trans (Stand.of_body B).code)
      intro x hx
      rw [Array.isEmpty_iff.mp h7] at hx
      cases hx
    obtain ⟨t, a1, o, b1, b2, b3⟩ := body p e s m args below meth c s₁ B hml ht hP s₁ hh0 (Stand.of_body B)
    exact ⟨t, o, a1, b1, b2, b3⟩
/-- the table of a body with handlers -/
theorem vx_table {p : Program} {x y : MethodName} {S : Spec} {cc bytes : ByteArray} {maxL maxL' : Nat} {ret ret' : Option FieldType} {e : Env} {s s₁ : State} {m : MethodId} {args : Array Value} {below : List Frame} {meth : Method} {c : Code} {hh : List (Nat × Nat × Nat × Nat)}
    (B : BodyLoose p l y S cc maxL ret e s m args below meth c s₁) (h : (Cond.codeWith y bytes maxL' ret' hh).before args s = true) : c.exceptionTable.toList = tableOf hh := by
  obtain ⟨m9, meth9, c9, hn9, h1, h2, -, -, h6, -⟩ := Cond.codeWith_spec h
  cases Option.some.inj (hn9.symm.trans B.named)
  cases Option.some.inj (h1.symm.trans B.method)
  cases Option.some.inj (h2.symm.trans (Stand.of_body B).code)
  rw [← h6, table_eq]
end Bodies
end VXA
/-! ===== END ===== -/
/-! ===== BEGIN a static call of a method with an exception table ===== -/
section VXS
variable {p : Program} {l : Launch} {e : Env} {R : Room} {s : State} {m : MethodId} {args : Array Value} {below : List Frame} {meth : Method} {c : Code} {T : State} {H : Heap} {locs : List Loc} {cells slots : Nat}
abbrev vx_CSW (R : Room) (s : State) (args : Array Value) (own : String) (index : Nat) (y : MethodName) (bytes : ByteArray) (maxL : Nat) (ret : Option FieldType) (hh : List (Nat × Nat × Nat × Nat)) (ws : List Cond) (rm : Room) (mc ms n : Nat) : Prop :=
  (rm.cells = mc ∧ rm.slots = ms ∧ rm.frames + 1 ≤ R.frames ∧ 8 + (maxL + 11) + rm.locals ≤ R.locals ∧ (∀ w ∈ ws, ∀ (a' : Array Value) (U : State), s.WarmedH U.vm → w.before a' U = true) ∧ Cond.codeWith y bytes maxL ret hh ∈ ws) ∧
  (Cond.codeWith y bytes maxL ret hh).before args s = true ∧ (Cond.initialized y.cls).before args s = true ∧ (y.cls ≠ "java/lang/invoke/MethodHandle" ∧ y.cls ≠ "java/lang/invoke/VarHandle") ∧
  (∀ sig, parseMethodDescriptor y.desc = some sig → n = sig.parameters.length) ∧ (Cond.methodLink own index y).before args s = true ∧ (Cond.static y).before args s = true
theorem vx_cwSW {own : String} {index maxL mc ms : Nat} {y : MethodName} {bytes : ByteArray} {ret : Option FieldType} {hh : List (Nat × Nat × Nat × Nat)} {Ts ws ws' : List Cond} {rm : Room} (n : Nat) (ht : ∀ w ∈ Ts, w.before args s = true) (hT : GoodIn Ts (va_wsS own index y ws)) (hw : ws = Cond.codeWith y bytes maxL ret hh :: ws') (hrc : rm.cells = mc) (hrs : rm.slots = ms)
    (hd : y.cls ≠ "java/lang/invoke/MethodHandle" ∧ y.cls ≠ "java/lang/invoke/VarHandle" ∧ (parseMethodDescriptor y.desc).map (fun d => d.parameters.length) = some n) (hR : rm.frames + 1 ≤ R.frames ∧ 8 + (maxL + 11) + rm.locals ≤ R.locals) :
    vx_CSW R s args own index y bytes maxL ret hh ws rm mc ms n := by
  have ok : ∀ w ∈ va_wsS own index y ws, w.before args s = true := fun w h => ht w (hT w h).1
  have hG : GoodIn Ts ws := fun w h => hT w (by unfold va_wsS; exact List.mem_append_right _ h)
  have hc : Cond.codeWith y bytes maxL ret hh ∈ ws := by rw [hw]; exact List.mem_cons_self
  refine ⟨⟨hrc, hrs, hR.1, hR.2, pay_in ht hG, hc⟩, ht _ (hG _ hc).1, ok _ (by simp [va_wsS]), ⟨hd.1, hd.2.1⟩, fun sig h => ?_, ok _ (by simp [va_wsS]), ok _ (by simp [va_wsS])⟩
  have h2 := hd.2.2
  rw [h] at h2
  exact (Option.some.inj h2).symm
theorem vx_callSW (X : Stand p l e R s m args below meth c T locs cells slots) (hexec : p.tables.exec = Jvm.exec) {own : String} {index : Nat} {y : MethodName} {bytes : ByteArray} {maxL : Nat} {ret : Option FieldType} {hh : List (Nat × Nat × Nat × Nat)}
    (hown : s.vm.findClass own = some m.cls) (hlink : (Cond.methodLink own index y).before args s = true) (hstat : (Cond.static y).before args s = true) (hinit : (Cond.initialized y.cls).before args s = true)
    (hcode : (Cond.codeWith y bytes maxL ret hh).before args s = true) (hy : y.cls ≠ "java/lang/invoke/MethodHandle" ∧ y.cls ≠ "java/lang/invoke/VarHandle")
    {W9 : Nat} {Pre : Pt → Array Value → Prop} {Post : Pt → Array Value → Option Value → Pt → Prop} (hK : Back l R p e below s args y 3 W9 Pre Post)
    {g : JFrame} (hg : g.method = m) (hsize : g.locals.size = c.maxLocals) {argsL rest : List Value} (hlen : ∀ sig, parseMethodDescriptor y.desc = some sig → argsL.length = sig.parameters.length)
    (hstack : g.stack = argsL.reverse ++ rest) (hW : 2 * g.monitorRoom + (rest.map fun v => v.category).sum ≤ W9) (hdg : decode c.code g.pc = .ok (.invokestatic index, 3))
    (hpre : ∀ vm₁, s.WarmedH vm₁ → Pre ⟨T.setVm vm₁, locs, cells, slots⟩ argsL.toArray) :
    ∃ (v : Option Value) (vm₁ : Vm) (B : Pt), s.WarmedH vm₁ ∧ Stand p l e R s m args below meth c B.U B.locs B.cells B.slots ∧ Post ⟨T.setVm vm₁, locs, cells, slots⟩ argsL.toArray v B ∧
      ∀ target, Steps p.tables e below (B.U.setTop { g with pc := g.pc + 3, stack := v.toList ++ rest }) target → Steps p.tables e below (T.setTop g) target := by
  obtain ⟨mk, methM, cM, hnamed, hmethM, -, -, -, -, -, -, hsigM⟩ := Cond.codeWith_spec hcode
  have hstatic : methM.isStatic = true := Cond.static_spec hnamed hmethM hstat
  obtain ⟨kP, hkP, -⟩ := className_of_methodNamed hnamed
  have hinitP : kP.init = .initialized := Cond.initialized_spec (findClass_of_methodNamed hnamed) hkP hinit
  obtain ⟨vm₁, X₁, hstep₁⟩ := X.invokestatic hexec hown hlink hnamed hmethM hstatic hkP hinitP hy (g := g) hg (argsL := argsL) (rest := rest) (hlen _ hsigM) hstack hdg
  obtain ⟨v, B, X', hpost, hsteps⟩ := hK m meth c ⟨T.setVm vm₁, locs, cells, slots⟩ { g with stack := rest } (.invokestatic index) mk argsL.toArray X₁ hg hsize hdg hW (X₁.named hnamed) (hpre vm₁ X₁.warmed)
  exact ⟨v, vm₁, B, X₁.warmed, X', hpost, fun target h => hstep₁ _ fun acts => by rw [doInvoke_state]; exact hsteps.trans h⟩
theorem vx_runSW {y : MethodName} {bytes cc : ByteArray} {maxL nL mc ms n index : Nat} {ret : Option FieldType} {hh : List (Nat × Nat × Nat × Nat)} {ws : List Cond} {rm : Room} {Pc : Array Value → State → Prop} {Qc : Array Value → State → Outcome → State → Prop} {free : Addr → Prop} {Ts : List Cond} {own : String} {As rest : List Value} {g : JFrame}
    (S : CallFix p m c cc nL s args Ts own) (hM : Met l y ws rm Pc Qc mc ms free) (cw : vx_CSW R s args own index y bytes maxL ret hh ws rm mc ms n) (hp : PreS s H Pc As)
    (hg : g.method = m) (hn : As.length = n) (hsize : g.locals.size = nL) (hstack : g.stack = As.reverse ++ rest) (hW : 2 * g.monitorRoom + (rest.map fun v => v.category).sum ≤ 8) (hdg : decode cc g.pc = .ok (.invokestatic index, 3)) (hf : cells + mc ≤ R.cells ∧ slots + ms ≤ R.slots) :
    va_Run p l e R s m args below meth c H locs cells slots mc ms g rest (Qc As.toArray) (free) := by
  obtain ⟨⟨hrc, hrs, hfr, hlo, hws, hcw⟩, hcode, hini, hy, hlen, hl, hstt⟩ := cw
  have hK : Back l R p e below s args y 3 8 (PreOf R mc ms Pc) (PostOf Qc mc ms free) := va_backW (hh := hh) (bytes := bytes) (maxL := maxL) (ret := ret) hM hp.1 hrc hrs hfr hlo hws hcw (fun a' U hW => word_at hW (Or.inl (by first | rfl | simp [Cond.onTables, Cond.keeps, Cond.steady])) hini)
  obtain ⟨hx, hb, hml, ho, -⟩ := S
  intro T hT X
  obtain ⟨v, vm₁, ⟨U', l2, c2, s2⟩, hW₁, X', ⟨g', mk, t, L, e1, e2, hq, h1, hL, h2, h3⟩, st⟩ := vx_callSW X hx (hh := hh) (bytes := bytes) (maxL := maxL) (ret := ret) ho hl hstt hini hcode hy hK hg (hsize.trans hml.symm) (argsL := As) (rest := rest) (fun sig h => hn.trans (hlen sig h)) hstack hW (by rw [hb]; exact hdg)
    (fun vm₁ hW₁ => ⟨hf.1, hf.2, hp.2 (T.setVm vm₁) hT hW₁⟩)
  dsimp only [Pt.U, Pt.locs, Pt.cells, Pt.slots] at X' e1 e2 h1 h2 h3 st
  subst h1; subst h2; subst h3
  exact ⟨v, (T.setVm vm₁).calling g' mk As.toArray, t, U', L, hT, X', hL, e1, e2, hq, st⟩
/-- not caught here, past rows that name other classes: it goes on to the caller -/
theorem vx_outP {p : Program} {l : Launch} {e : Env} {R : Room} {s : State} {m : MethodId} {args : Array Value} {below : List Frame} {meth : Method} {c : Code} {H : Heap} {locs : List Loc} {cells slots : Nat} {free : Addr → Prop} {ls : Array Slot} {rest : List Value} {Qc : Array Value → State → Outcome → State → Prop} {XC : String → State → State → Prop}
    {pc : Nat} {own E : String} {ce : Cell} {q : Addr} {mc ms : Nat} (hown : s.vm.findClass own = some m.cls) (hlocks : meth.locks = false)
    (hpass : ∀ z ∈ c.exceptionTable.toList, covers z pc = false ∨ (z.catchType ≠ 0 ∧ ∃ nm : String, (Cond.classLink own z.catchType nm).before args s = true ∧ va_Nc E nm s)) (hcell : H[q]? = some ce) (hv : ce.vm = .none) (hcl : s.vm.findClass E = some ce.cls)
    (hx : ∀ t : State, t.heap = H → s.vm.Alike t.vm → XC E s t) (hf : ∀ z ∈ locs, free z.base) (hc : cells ≤ mc) (hs : slots ≤ ms) :
    vx_W p l e R s m args below meth c H locs cells slots (vx_MQ below Qc XC args s mc ms free) (F0 m pc ls rest) q := by
  intro T hT X
  have hpl : e.platform.magicAccessors = ({} : Platform).magicAccessors := by rw [X.admits.platform]
  obtain ⟨vm', hW', X', st⟩ := X.outThrough hlocks q (g := F0 m pc ls rest) rfl rfl rfl (cell := ce) (by rw [hT]; exact hcell) (by rw [hv]; rfl)
    (by obtain ⟨k9, h9, -⟩ := Vm.findClass_spec hcl; exact ⟨k9, h9⟩) (fun z hz => by
      rcases hpass z hz with h | ⟨hz0, nm, hl1, hn1⟩
      · exact Or.inl h
      · obtain ⟨c6, hc6, hcl6⟩ := Cond.classLink_spec hown hl1 e.platform hpl
        obtain ⟨a8, b8, h1, h2, h3⟩ := hn1
        cases Option.some.inj (h1.symm.trans hcl)
        cases Option.some.inj (h2.symm.trans hc6)
        exact Or.inr ⟨hz0, _, hcl6, h3⟩)
  obtain ⟨g₀, hfr⟩ := X'.frames_eq
  have hcell9 : ((T.setVm vm').setFrames (.throwing q :: below)).heap[q]? = some ce := by
    show T.heap[q]? = some ce
    rw [hT]; exact hcell
  have hend : Ended ((T.setVm vm').setFrames (.throwing q :: below)) below (.threw q) := State.frames_setFrames _ (State.cur_lt_of_frames hfr)
  refine ⟨(T.setVm vm').setFrames (.throwing q :: below), ?_, .threw q, X'.here.running, hend, Or.inr ⟨q, rfl, E, ce, locs, hx _ hT (X'.ends _).1.alike, hcell9, hv, hcl, (X'.ends _).1, (X'.ends _).2.mono hc hs, hf⟩⟩
  rw [X.pushThrowing_eq]
  exact st
/-- a thing of a world lies in the heap -/
theorem vx_lt {D : va_G} {cl : List vw_C} {ws : va_W} {H1 : Heap} (h : va_P D cl ws H1) {k : Nat} {q : Nat × va_E} (hk : ws[k]? = some q) : q.1 < H1.size := (h k q hk).lt
end VXS
/-! ===== END ===== -/
/-! ===== BEGIN methods with a table of their own: called by a name, returning or throwing ===== -/
section VXH
/-! vx_backW, vx_callVX, vx_callSX, vx_callVW, vx_runVW, vx_runVX, vx_runSX, vx_ofWH follow the same proofs as their sisters above (Free/Laws.lean, Shelf42/LK1.lean); vx_outP calls Shelf42/NT130.lean (outThrough). -/
section
variable {l : Launch} {R : Room} {p : Program} {e : Env} {below : List Frame} {s : State} {sargs : Array Value} {y : MethodName} {len W9 : Nat}
theorem vx_backW {ws : List Cond} {rm : Room} {Pc : Array Value → State → Prop} {Qc : Array Value → State → Outcome → State → Prop} {XC : String → State → State → Prop} {mc ms : Nat} {free : Addr → Prop} {bytes : ByteArray} {maxL : Nat} {ret : Option FieldType} {hh : List (Nat × Nat × Nat × Nat)}
    (hM : vx_Met l y ws rm Pc Qc XC mc ms free) (hblind : FrameBlind Pc) (hrc : rm.cells = mc) (hrs : rm.slots = ms)
    (hframes : rm.frames + 1 ≤ R.frames) (hlocals : W9 + (maxL + 11) + rm.locals ≤ R.locals)
    (hws : ∀ w ∈ ws, ∀ a' U, s.WarmedH U.vm → w.before a' U = true) (hcode : Cond.codeWith y bytes maxL ret hh ∈ ws) (hinit : ∀ a' U, s.WarmedH U.vm → (Cond.initialized y.cls).before a' U = true) :
    vx_Back l R p e below s sargs y len W9 (PreOf R mc ms Pc) (PostOf Qc mc ms free) (vx_Post XC mc ms free) := by
  intro m meth c A g ig mk a X hg hsize hdg hW hn hp
  have h1 : (headSpec ws rm).pre.before a A.U = true := atoms_intro fun w hw => hws w hw _ _ X.warmed
  have h2 : (Cond.codeWith y bytes maxL ret hh).before a A.U = true := hws _ hcode _ _ X.warmed
  have h3 : (Cond.initialized y.cls).before a A.U = true := hinit _ _ X.warmed
  have h4 : A.cells + (headSpec ws rm).room.cells ≤ R.cells := by rw [show (headSpec ws rm).room.cells = mc from hrc]; exact hp.1
  have h5 : A.slots + (headSpec ws rm).room.slots ≤ R.slots := by rw [show (headSpec ws rm).room.slots = ms from hrs]; exact hp.2.1
  have hPc : Pc a (A.U.calling g mk a) := hblind _ _ _ _ hp.2.2
  obtain ⟨U, Ls, c0, s0⟩ := A
  dsimp only [Pt.U, Pt.locs, Pt.cells, Pt.slots] at h1 h2 h3 h4 h5 X hn hPc ⊢
  obtain ⟨m9, methY, cY, hn9, hmY, hcY, -, hlY, -⟩ := Cond.codeWith_spec h2
  cases Option.some.inj (hn9.symm.trans hn)
  obtain ⟨kY, hkY, -⟩ := className_of_methodNamed hn
  have hinitY : kY.init = .initialized := Cond.initialized_spec (findClass_of_methodNamed hn) hkY h3
  have h : At U g.method c below := by rw [hg]; exact X.here
  have hlocals9 : W9 + (maxL + 11) + (headSpec ws rm).room.locals ≤ R.locals := hlocals
  have happ : (headSpec ws rm).appliesLoose y e.platform (U.calling g mk a) = true :=
    Spec.appliesLoose_calling (g := g) h hdg hn hkY hinitY
      (X.room_calling (g := g) (R' := (headSpec ws rm).room) hsize hmY hcY hframes (by rw [hlY]; omega) h4 h5) h1
  obtain ⟨mid, hmid⟩ := h.above
  have hfr : (U.setTop g).frames = (.java g :: mid) ++ below := by rw [State.frames_setTop' g h.top, hmid]; rfl
  obtain ⟨o, s₂, hsteps, -, hend, hq⟩ := Steps.callFree hM p X.admits X.cas X.clock (acts := []) hfr happ hPc trivial
  have hq' : vx_Q Qc XC mc ms free a (U.calling g mk a) o s₂ := hq
  rw [State.frames_setTop' g h.top] at hend
  obtain ⟨g₀, hg0⟩ := Option.isSome_iff_exists.mp h.top
  obtain ⟨r, hr⟩ := State.topJava?_eq_some.mp hg0
  have hr' : (({ U with heap := s₂.heap, slotsUsed := s₂.slotsUsed } : State).setVm s₂.vm).frames = .java g₀ :: r := hr
  rcases hq' with ⟨hqc, L, hfe, hL⟩ | ⟨q, rfl, E, ce, L, hx, hce, hcv, hcl, hW₂, hsm, hL⟩
  · obtain ⟨⟨v, rfl⟩, hW₂, e2, q2, q3, q4, q5, q6⟩ := id hfe
    have e3 : s₂ = ({ (U.calling g mk a).setFrames s₂.frames with heap := s₂.heap, slotsUsed := s₂.slotsUsed } : State).setVm s₂.vm := by
      have : s₂ = ({ s₂ with vm := (U.calling g mk a).vm } : State).setVm s₂.vm := rfl
      rw [e2] at this
      exact this
    obtain ⟨c₂, i₂, len₂, hc₂, hd₂, hf₂⟩ := hend
    have hW' : U.WarmedH s₂.vm := hW₂
    have hcc : c₂ = c := by
      have h1 : s₂.code? g.method = U.code? g.method := by
        rw [State.code?_eq, State.code?_eq, hW'.alike.method?]
      exact Option.some.inj (hc₂.symm.trans (h1.trans h.code))
    subst hcc
    have hlen : len₂ = len := by rw [hdg] at hd₂; cases hd₂; rfl
    subst hlen
    have hs₂ : s₂ = (({ U with heap := s₂.heap, slotsUsed := s₂.slotsUsed } : State).setVm s₂.vm).setTop { g with pc := g.pc + len₂, stack := v.toList ++ g.stack } := by
      refine e3.trans ?_
      rw [hf₂, State.calling_eq h.top, State.setFrames_setFrames, State.setTop_of_frames _ hr', hr]
      rfl
    have hsame : U.sameButNew ({ U with heap := s₂.heap, slotsUsed := s₂.slotsUsed } : State) L mc ms := by
      refine ⟨?_, q2, q3, q4, q5, q6⟩
      obtain ⟨t, ht, -⟩ := State.frames_cons hr
      show ({ U with heap := s₂.heap, slotsUsed := s₂.slotsUsed } : State) = { U.setFrames U.frames with heap := s₂.heap, slotsUsed := s₂.slotsUsed }
      rw [State.setFrames_self ht]
    subst hg
    refine Or.inl ⟨v, ⟨(({ U with heap := s₂.heap, slotsUsed := s₂.slotsUsed } : State).setVm s₂.vm), Ls ++ L, c0 + mc, s0 + ms⟩,
      ⟨X.admits, X.cas, X.clock, X.frames, X.room, X.hears, X.method, X.code, (X.here.setHeapUsed s₂.heap s₂.slotsUsed).setVm hW'.alike, X.tail, State.WarmedH.trans X.warmed hW', X.limits, X.bytes, X.same.trans (hsame.setVm s.vm)⟩,
      ⟨g, mk, s₂, L, rfl, rfl, hqc, rfl, hL, rfl, rfl⟩, ?_⟩
    show Steps p.tables e below _ ((({ U with heap := s₂.heap, slotsUsed := s₂.slotsUsed } : State).setVm s₂.vm).setTop { g with pc := g.pc + len₂, stack := v.toList ++ g.stack })
    rw [← hs₂]
    exact hsteps
  · obtain ⟨e2, q2, q3, q4, q5, q6⟩ := id hsm
    have e3 : s₂ = ({ (U.calling g mk a).setFrames s₂.frames with heap := s₂.heap, slotsUsed := s₂.slotsUsed } : State).setVm s₂.vm := by
      have : s₂ = ({ s₂ with vm := (U.calling g mk a).vm } : State).setVm s₂.vm := rfl
      rw [e2] at this
      exact this
    have hf₂ : s₂.frames = .throwing q :: .java g :: U.frames.tail := hend
    have hW' : U.WarmedH s₂.vm := hW₂
    have hs₂ : s₂ = ((({ U with heap := s₂.heap, slotsUsed := s₂.slotsUsed } : State).setVm s₂.vm).setTop g).pushFrame (.throwing q) := by
      refine e3.trans ?_
      rw [hf₂, State.calling_eq h.top, State.setFrames_setFrames, State.pushFrame, State.frames_setTop _ hr', State.setTop_of_frames _ hr', State.setFrames_setFrames, hr]
      rfl
    have hsame : U.sameButNew ({ U with heap := s₂.heap, slotsUsed := s₂.slotsUsed } : State) L mc ms := by
      refine ⟨?_, q2, q3, q4, q5, q6⟩
      obtain ⟨t, ht, -⟩ := State.frames_cons hr
      show ({ U with heap := s₂.heap, slotsUsed := s₂.slotsUsed } : State) = { U.setFrames U.frames with heap := s₂.heap, slotsUsed := s₂.slotsUsed }
      rw [State.setFrames_self ht]
    subst hg
    refine Or.inr ⟨q, ⟨(({ U with heap := s₂.heap, slotsUsed := s₂.slotsUsed } : State).setVm s₂.vm), Ls ++ L, c0 + mc, s0 + ms⟩,
      ⟨X.admits, X.cas, X.clock, X.frames, X.room, X.hears, X.method, X.code, (X.here.setHeapUsed s₂.heap s₂.slotsUsed).setVm hW'.alike, X.tail, State.WarmedH.trans X.warmed hW', X.limits, X.bytes, X.same.trans (hsame.setVm s.vm)⟩,
      ⟨g, mk, s₂, L, E, ce, rfl, rfl, hx, hce, hcv, hcl, rfl, hL, rfl, rfl⟩, ?_⟩
    show Steps p.tables e below _ (((({ U with heap := s₂.heap, slotsUsed := s₂.slotsUsed } : State).setVm s₂.vm).setTop g).pushFrame (.throwing q))
    rw [← hs₂]
    exact hsteps
end
variable {p : Program} {l : Launch} {e : Env} {R : Room} {s : State} {m : MethodId} {args : Array Value} {below : List Frame} {meth : Method} {c : Code} {T : State} {H : Heap} {locs : List Loc} {cells slots : Nat}
theorem vx_callVX (X : Stand p l e R s m args below meth c T locs cells slots) (hexec : p.tables.exec = Jvm.exec) {own C : String} {index : Nat} {y : MethodName} {bytes : ByteArray} {maxL : Nat} {ret : Option FieldType} {hh : List (Nat × Nat × Nat × Nat)}
    (hown : s.vm.findClass own = some m.cls) (hlink : (Cond.methodLink own index y).before args s = true) (hinst : (Cond.instanceMethod y).before args s = true) (hsel : (Cond.selects C y y).before args s = true)
    (hcode : (Cond.codeWith y bytes maxL ret hh).before args s = true) (hy : y.cls ≠ "java/lang/invoke/MethodHandle" ∧ y.cls ≠ "java/lang/invoke/VarHandle")
    {W9 : Nat} {Pre : Pt → Array Value → Prop} {Post : Pt → Array Value → Option Value → Pt → Prop} {PostX : Pt → Array Value → Addr → Pt → Prop} (hK : vx_Back l R p e below s args y 3 W9 Pre Post PostX)
    {b : Addr} {cellB : Cell} (hcell : T.heap[b]? = some cellB) (hobj : cellB.vm.isStatics = false) (hcls : s.vm.findClass C = some cellB.cls)
    {g : JFrame} (hg : g.method = m) (hsize : g.locals.size = c.maxLocals) {argsL rest : List Value} (hlen : ∀ sig, parseMethodDescriptor y.desc = some sig → argsL.length = sig.parameters.length)
    (hstack : g.stack = argsL.reverse ++ .ref b :: rest) (hW : 2 * g.monitorRoom + (rest.map fun v => v.category).sum ≤ W9) (hdg : decode c.code g.pc = .ok (.invokevirtual index, 3))
    (hpre : ∀ vm₁, s.WarmedH vm₁ → Pre ⟨T.setVm vm₁, locs, cells, slots⟩ (Value.ref b :: argsL).toArray) :
    (∃ (v : Option Value) (vm₁ : Vm) (B : Pt), s.WarmedH vm₁ ∧ Stand p l e R s m args below meth c B.U B.locs B.cells B.slots ∧ Post ⟨T.setVm vm₁, locs, cells, slots⟩ (Value.ref b :: argsL).toArray v B ∧
      ∀ target, Steps p.tables e below (B.U.setTop { g with pc := g.pc + 3, stack := v.toList ++ rest }) target → Steps p.tables e below (T.setTop g) target) ∨
    (∃ (q : Addr) (vm₁ : Vm) (B : Pt), s.WarmedH vm₁ ∧ Stand p l e R s m args below meth c B.U B.locs B.cells B.slots ∧ PostX ⟨T.setVm vm₁, locs, cells, slots⟩ (Value.ref b :: argsL).toArray q B ∧
      Steps p.tables e below (T.setTop g) ((B.U.setTop { g with stack := rest }).pushFrame (.throwing q))) := by
  obtain ⟨mk, methM, hnamed, hmethM, hstM, habM⟩ := Cond.instanceMethod_spec hinst
  obtain ⟨m8, methM', cM, hn8, hmethM', -, -, -, -, -, -, hsigM⟩ := Cond.codeWith_spec hcode
  cases Option.some.inj (hn8.symm.trans hnamed)
  cases hmethM.symm.trans hmethM'
  obtain ⟨c2, r2, m2, q1, q2, q3, q4, kP, hkP, hkPi⟩ := Cond.selects_spec hsel
  cases hcls.symm.trans q1
  cases (State.methodFound?_of_named hnamed hy).symm.trans q2
  cases hnamed.symm.trans q3
  have hselP : selectMethod e.platform s.vm cellB.cls mk = .method mk := by rw [Launch.admits_selectMethod X.admits]; exact q4
  obtain ⟨vm₁, X₁, hstep₁⟩ := X.invokevirtual hexec hown hlink hnamed hmethM hstM hkP hkPi hy (a := b) (cell := cellB) hcell
    (fun z h => by rw [h] at hobj; cases hobj) hselP hmethM habM hkP hkPi (g := g) hg (argsL := argsL) (rest := rest) (hlen _ hsigM) hstack hdg
  rcases hK m meth c ⟨T.setVm vm₁, locs, cells, slots⟩ { g with stack := rest } (.invokevirtual index) mk (Value.ref b :: argsL).toArray X₁ hg hsize hdg hW (X₁.named hnamed) (hpre vm₁ X₁.warmed) with ⟨v, B, X', hpost, hsteps⟩ | ⟨q, B, X', hpost, hsteps⟩
  · exact Or.inl ⟨v, vm₁, B, X₁.warmed, X', hpost, fun target h => hstep₁ _ fun acts => by rw [doInvoke_state]; exact hsteps.trans h⟩
  · exact Or.inr ⟨q, vm₁, B, X₁.warmed, X', hpost, hstep₁ _ fun acts => by rw [doInvoke_state]; exact hsteps⟩
theorem vx_callSX (X : Stand p l e R s m args below meth c T locs cells slots) (hexec : p.tables.exec = Jvm.exec) {own : String} {index : Nat} {y : MethodName} {bytes : ByteArray} {maxL : Nat} {ret : Option FieldType} {hh : List (Nat × Nat × Nat × Nat)}
    (hown : s.vm.findClass own = some m.cls) (hlink : (Cond.methodLink own index y).before args s = true) (hstat : (Cond.static y).before args s = true) (hinit : (Cond.initialized y.cls).before args s = true)
    (hcode : (Cond.codeWith y bytes maxL ret hh).before args s = true) (hy : y.cls ≠ "java/lang/invoke/MethodHandle" ∧ y.cls ≠ "java/lang/invoke/VarHandle")
    {W9 : Nat} {Pre : Pt → Array Value → Prop} {Post : Pt → Array Value → Option Value → Pt → Prop} {PostX : Pt → Array Value → Addr → Pt → Prop} (hK : vx_Back l R p e below s args y 3 W9 Pre Post PostX)
    {g : JFrame} (hg : g.method = m) (hsize : g.locals.size = c.maxLocals) {argsL rest : List Value} (hlen : ∀ sig, parseMethodDescriptor y.desc = some sig → argsL.length = sig.parameters.length)
    (hstack : g.stack = argsL.reverse ++ rest) (hW : 2 * g.monitorRoom + (rest.map fun v => v.category).sum ≤ W9) (hdg : decode c.code g.pc = .ok (.invokestatic index, 3))
    (hpre : ∀ vm₁, s.WarmedH vm₁ → Pre ⟨T.setVm vm₁, locs, cells, slots⟩ argsL.toArray) :
    (∃ (v : Option Value) (vm₁ : Vm) (B : Pt), s.WarmedH vm₁ ∧ Stand p l e R s m args below meth c B.U B.locs B.cells B.slots ∧ Post ⟨T.setVm vm₁, locs, cells, slots⟩ argsL.toArray v B ∧
      ∀ target, Steps p.tables e below (B.U.setTop { g with pc := g.pc + 3, stack := v.toList ++ rest }) target → Steps p.tables e below (T.setTop g) target) ∨
    (∃ (q : Addr) (vm₁ : Vm) (B : Pt), s.WarmedH vm₁ ∧ Stand p l e R s m args below meth c B.U B.locs B.cells B.slots ∧ PostX ⟨T.setVm vm₁, locs, cells, slots⟩ argsL.toArray q B ∧
      Steps p.tables e below (T.setTop g) ((B.U.setTop { g with stack := rest }).pushFrame (.throwing q))) := by
  obtain ⟨mk, methM, cM, hnamed, hmethM, -, -, -, -, -, -, hsigM⟩ := Cond.codeWith_spec hcode
  have hstatic : methM.isStatic = true := Cond.static_spec hnamed hmethM hstat
  obtain ⟨kP, hkP, -⟩ := className_of_methodNamed hnamed
  have hinitP : kP.init = .initialized := Cond.initialized_spec (findClass_of_methodNamed hnamed) hkP hinit
  obtain ⟨vm₁, X₁, hstep₁⟩ := X.invokestatic hexec hown hlink hnamed hmethM hstatic hkP hinitP hy (g := g) hg (argsL := argsL) (rest := rest) (hlen _ hsigM) hstack hdg
  rcases hK m meth c ⟨T.setVm vm₁, locs, cells, slots⟩ { g with stack := rest } (.invokestatic index) mk argsL.toArray X₁ hg hsize hdg hW (X₁.named hnamed) (hpre vm₁ X₁.warmed) with ⟨v, B, X', hpost, hsteps⟩ | ⟨q, B, X', hpost, hsteps⟩
  · exact Or.inl ⟨v, vm₁, B, X₁.warmed, X', hpost, fun target h => hstep₁ _ fun acts => by rw [doInvoke_state]; exact hsteps.trans h⟩
  · exact Or.inr ⟨q, vm₁, B, X₁.warmed, X', hpost, hstep₁ _ fun acts => by rw [doInvoke_state]; exact hsteps⟩
theorem vx_callVW (X : Stand p l e R s m args below meth c T locs cells slots) (hexec : p.tables.exec = Jvm.exec) {own C : String} {index : Nat} {y : MethodName} {bytes : ByteArray} {maxL : Nat} {ret : Option FieldType} {hh : List (Nat × Nat × Nat × Nat)}
    (hown : s.vm.findClass own = some m.cls) (hlink : (Cond.methodLink own index y).before args s = true) (hinst : (Cond.instanceMethod y).before args s = true) (hsel : (Cond.selects C y y).before args s = true)
    (hcode : (Cond.codeWith y bytes maxL ret hh).before args s = true) (hy : y.cls ≠ "java/lang/invoke/MethodHandle" ∧ y.cls ≠ "java/lang/invoke/VarHandle")
    {W9 : Nat} {Pre : Pt → Array Value → Prop} {Post : Pt → Array Value → Option Value → Pt → Prop} (hK : Back l R p e below s args y 3 W9 Pre Post)
    {b : Addr} {cellB : Cell} (hcell : T.heap[b]? = some cellB) (hobj : cellB.vm.isStatics = false) (hcls : s.vm.findClass C = some cellB.cls)
    {g : JFrame} (hg : g.method = m) (hsize : g.locals.size = c.maxLocals) {argsL rest : List Value} (hlen : ∀ sig, parseMethodDescriptor y.desc = some sig → argsL.length = sig.parameters.length)
    (hstack : g.stack = argsL.reverse ++ .ref b :: rest) (hW : 2 * g.monitorRoom + (rest.map fun v => v.category).sum ≤ W9) (hdg : decode c.code g.pc = .ok (.invokevirtual index, 3))
    (hpre : ∀ vm₁, s.WarmedH vm₁ → Pre ⟨T.setVm vm₁, locs, cells, slots⟩ (Value.ref b :: argsL).toArray) :
    ∃ (v : Option Value) (vm₁ : Vm) (B : Pt), s.WarmedH vm₁ ∧ Stand p l e R s m args below meth c B.U B.locs B.cells B.slots ∧ Post ⟨T.setVm vm₁, locs, cells, slots⟩ (Value.ref b :: argsL).toArray v B ∧
      ∀ target, Steps p.tables e below (B.U.setTop { g with pc := g.pc + 3, stack := v.toList ++ rest }) target → Steps p.tables e below (T.setTop g) target := by
  obtain ⟨mk, methM, hnamed, hmethM, hstM, habM⟩ := Cond.instanceMethod_spec hinst
  obtain ⟨m8, methM', cM, hn8, hmethM', -, -, -, -, -, -, hsigM⟩ := Cond.codeWith_spec hcode
  cases Option.some.inj (hn8.symm.trans hnamed)
  cases hmethM.symm.trans hmethM'
  obtain ⟨c2, r2, m2, q1, q2, q3, q4, kP, hkP, hkPi⟩ := Cond.selects_spec hsel
  cases hcls.symm.trans q1
  cases (State.methodFound?_of_named hnamed hy).symm.trans q2
  cases hnamed.symm.trans q3
  have hselP : selectMethod e.platform s.vm cellB.cls mk = .method mk := by rw [Launch.admits_selectMethod X.admits]; exact q4
  obtain ⟨vm₁, X₁, hstep₁⟩ := X.invokevirtual hexec hown hlink hnamed hmethM hstM hkP hkPi hy (a := b) (cell := cellB) hcell
    (fun z h => by rw [h] at hobj; cases hobj) hselP hmethM habM hkP hkPi (g := g) hg (argsL := argsL) (rest := rest) (hlen _ hsigM) hstack hdg
  obtain ⟨v, B, X', hpost, hsteps⟩ := hK m meth c ⟨T.setVm vm₁, locs, cells, slots⟩ { g with stack := rest } (.invokevirtual index) mk (Value.ref b :: argsL).toArray X₁ hg hsize hdg hW (X₁.named hnamed) (hpre vm₁ X₁.warmed)
  exact ⟨v, vm₁, B, X₁.warmed, X', hpost, fun target h => hstep₁ _ fun acts => by rw [doInvoke_state]; exact hsteps.trans h⟩
abbrev vx_CVW (R : Room) (s : State) (args : Array Value) (own C : String) (index : Nat) (y : MethodName) (bytes : ByteArray) (maxL : Nat) (ret : Option FieldType) (hh : List (Nat × Nat × Nat × Nat)) (ws : List Cond) (rm : Room) (mc ms n : Nat) : Prop :=
  (rm.cells = mc ∧ rm.slots = ms ∧ rm.frames + 1 ≤ R.frames ∧ 8 + (maxL + 11) + rm.locals ≤ R.locals ∧ (∀ w ∈ ws, ∀ (a' : Array Value) (U : State), s.WarmedH U.vm → w.before a' U = true) ∧ Cond.codeWith y bytes maxL ret hh ∈ ws) ∧
  (Cond.codeWith y bytes maxL ret hh).before args s = true ∧ (Cond.initialized y.cls).before args s = true ∧ (y.cls ≠ "java/lang/invoke/MethodHandle" ∧ y.cls ≠ "java/lang/invoke/VarHandle") ∧
  (∀ sig, parseMethodDescriptor y.desc = some sig → n = sig.parameters.length) ∧ (Cond.methodLink own index y).before args s = true ∧ (Cond.instanceMethod y).before args s = true ∧ (Cond.selects C y y).before args s = true
theorem vx_cwVW {own C : String} {index maxL mc ms : Nat} {y : MethodName} {bytes : ByteArray} {ret : Option FieldType} {hh : List (Nat × Nat × Nat × Nat)} {Ts ws ws' : List Cond} {rm : Room} (n : Nat) (ht : ∀ w ∈ Ts, w.before args s = true) (hT : GoodIn Ts (wsV own index C y ws)) (hw : ws = Cond.codeWith y bytes maxL ret hh :: ws') (hrc : rm.cells = mc) (hrs : rm.slots = ms)
    (hd : y.cls = C ∧ y.cls ≠ "java/lang/invoke/MethodHandle" ∧ y.cls ≠ "java/lang/invoke/VarHandle" ∧ (parseMethodDescriptor y.desc).map (fun d => d.parameters.length) = some n) (hR : rm.frames + 1 ≤ R.frames ∧ 8 + (maxL + 11) + rm.locals ≤ R.locals) :
    vx_CVW R s args own C index y bytes maxL ret hh ws rm mc ms n := by
  obtain ⟨hC, hd⟩ := hd
  subst hC
  have ok : ∀ w ∈ wsV own index y.cls y ws, w.before args s = true := fun w h => ht w (hT w h).1
  have hG : GoodIn Ts ws := fun w h => hT w (by unfold wsV; exact List.mem_append_right _ h)
  have hc : Cond.codeWith y bytes maxL ret hh ∈ ws := by rw [hw]; exact List.mem_cons_self
  refine ⟨⟨hrc, hrs, hR.1, hR.2, pay_in ht hG, hc⟩, ht _ (hG _ hc).1, ok _ (by simp [wsV]), ⟨hd.1, hd.2.1⟩, fun sig h => ?_, ok _ (by simp [wsV]), ok _ (by simp [wsV]), ok _ (by simp [wsV])⟩
  have h2 := hd.2.2
  rw [h] at h2
  exact (Option.some.inj h2).symm
theorem vx_runVW {y : MethodName} {bytes cc : ByteArray} {maxL nL mc ms n index : Nat} {ret : Option FieldType} {hh : List (Nat × Nat × Nat × Nat)} {ws : List Cond} {rm : Room} {Pc : Array Value → State → Prop} {Qc : Array Value → State → Outcome → State → Prop} {free : Addr → Prop} {Ts : List Cond} {own C : String} {b : Addr} {As rest : List Value} {g : JFrame}
    (S : CallFix p m c cc nL s args Ts own) (hM : Met l y ws rm Pc Qc mc ms free) (cw : vx_CVW R s args own C index y bytes maxL ret hh ws rm mc ms n) (hp : PreV s H C b Pc As)
    (hg : g.method = m) (hn : As.length = n) (hsize : g.locals.size = nL) (hstack : g.stack = As.reverse ++ .ref b :: rest) (hW : 2 * g.monitorRoom + (rest.map fun v => v.category).sum ≤ 8) (hdg : decode cc g.pc = .ok (.invokevirtual index, 3)) (hf : cells + mc ≤ R.cells ∧ slots + ms ≤ R.slots) :
    va_Run p l e R s m args below meth c H locs cells slots mc ms g rest (Qc (Value.ref b :: As).toArray) free := by
  obtain ⟨⟨hrc, hrs, hfr, hlo, hws, hcw⟩, hcode, hini, hy, hlen, hl, hin, hse⟩ := cw
  have hK : Back l R p e below s args y 3 8 (PreOf R mc ms Pc) (PostOf Qc mc ms free) := va_backW (hh := hh) (bytes := bytes) (maxL := maxL) (ret := ret) hM hp.1 hrc hrs hfr hlo hws hcw (fun a' U hW => word_at hW (Or.inl (by first | rfl | simp [Cond.onTables, Cond.keeps, Cond.steady])) hini)
  obtain ⟨hx, hb, hml, ho, -⟩ := S
  obtain ⟨-, ⟨cellB, hcB, hoB, hclB⟩, hPc⟩ := hp
  intro T hT X
  obtain ⟨v, vm₁, ⟨U', l2, c2, s2⟩, hW₁, X', ⟨g', mk, t, L, e1, e2, hq, h1, hL, h2, h3⟩, st⟩ := vx_callVW X hx (C := C) (hh := hh) (bytes := bytes) (maxL := maxL) (ret := ret) ho hl hin hse hcode hy hK (by rw [hT]; exact hcB) hoB hclB hg (hsize.trans hml.symm) (argsL := As) (rest := rest) (fun sig h => hn.trans (hlen sig h)) hstack hW (by rw [hb]; exact hdg)
    (fun vm₁ hW₁ => ⟨hf.1, hf.2, hPc (T.setVm vm₁) hT hW₁⟩)
  dsimp only [Pt.U, Pt.locs, Pt.cells, Pt.slots] at X' e1 e2 h1 h2 h3 st
  subst h1; subst h2; subst h3
  exact ⟨v, (T.setVm vm₁).calling g' mk (Value.ref b :: As).toArray, t, U', L, hT, X', hL, e1, e2, hq, st⟩
section
variable {y : MethodName} {bytes cc : ByteArray} {maxL nL mc ms n index : Nat} {ret : Option FieldType} {ws : List Cond} {rm : Room} {Pc : Array Value → State → Prop} {Qc : Array Value → State → Outcome → State → Prop} {XC : String → State → State → Prop} {free : Addr → Prop} {Ts : List Cond} {own C : String} {b : Addr} {As rest : List Value} {g : JFrame}
theorem vx_runVX {hh : List (Nat × Nat × Nat × Nat)} (S : CallFix p m c cc nL s args Ts own) (hM : vx_Met l y ws rm Pc Qc XC mc ms free) (cw : vx_CVW R s args own C index y bytes maxL ret hh ws rm mc ms n) (hp : PreV s H C b Pc As)
    (hg : g.method = m) (hn : As.length = n) (hsize : g.locals.size = nL) (hstack : g.stack = As.reverse ++ .ref b :: rest) (hW : 2 * g.monitorRoom + (rest.map fun v => v.category).sum ≤ 8) (hdg : decode cc g.pc = .ok (.invokevirtual index, 3)) (hf : cells + mc ≤ R.cells ∧ slots + ms ≤ R.slots) :
    vx_Run p l e R s m args below meth c H locs cells slots mc ms g rest (Qc (Value.ref b :: As).toArray) XC free := by
  obtain ⟨⟨hrc, hrs, hfr, hlo, hws, hcw⟩, hcode, hini, hy, hlen, hl, hin, hse⟩ := cw
  have hK : vx_Back l R p e below s args y 3 8 (PreOf R mc ms Pc) (PostOf Qc mc ms free) (vx_Post XC mc ms free) := vx_backW (hh := hh) (bytes := bytes) (maxL := maxL) (ret := ret) hM hp.1 hrc hrs hfr hlo hws hcw (fun a' U hW => word_at hW (Or.inl (by first | rfl | simp [Cond.onTables, Cond.keeps, Cond.steady])) hini)
  obtain ⟨hx, hb, hml, ho, -⟩ := S
  obtain ⟨-, ⟨cellB, hcB, hoB, hclB⟩, hPc⟩ := hp
  intro T hT X
  rcases vx_callVX X hx (C := C) (hh := hh) (bytes := bytes) (maxL := maxL) (ret := ret) ho hl hin hse hcode hy hK (by rw [hT]; exact hcB) hoB hclB hg (hsize.trans hml.symm) (argsL := As) (rest := rest) (fun sig h => hn.trans (hlen sig h)) hstack hW (by rw [hb]; exact hdg)
    (fun vm₁ hW₁ => ⟨hf.1, hf.2, hPc (T.setVm vm₁) hT hW₁⟩) with ⟨v, vm₁, ⟨U', l2, c2, s2⟩, hW₁, X', ⟨g', mk, t, L, e1, e2, hq, h1, hL, h2, h3⟩, st⟩ | ⟨q, vm₁, ⟨U', l2, c2, s2⟩, hW₁, X', ⟨g', mk, t, L, E, ce, e1, e2, hq, hce, hcv, hcl, h1, hL, h2, h3⟩, st⟩
  · dsimp only [Pt.U, Pt.locs, Pt.cells, Pt.slots] at X' e1 e2 h1 h2 h3 st
    subst h1; subst h2; subst h3
    exact Or.inl ⟨v, (T.setVm vm₁).calling g' mk (Value.ref b :: As).toArray, t, U', L, hT, X', hL, e1, e2, hq, st⟩
  · dsimp only [Pt.U, Pt.locs, Pt.cells, Pt.slots] at X' e1 e2 h1 h2 h3 st hcl
    subst h1; subst h2; subst h3
    exact Or.inr ⟨q, (T.setVm vm₁).calling g' mk (Value.ref b :: As).toArray, t, U', L, E, ce, hT, X', hL, e1, e2, hq, hce, hcv, vx_cls hW₁ hcl, st⟩
theorem vx_runSX {hh : List (Nat × Nat × Nat × Nat)} (S : CallFix p m c cc nL s args Ts own) (hM : vx_Met l y ws rm Pc Qc XC mc ms free) (cw : vx_CSW R s args own index y bytes maxL ret hh ws rm mc ms n) (hp : PreS s H Pc As)
    (hg : g.method = m) (hn : As.length = n) (hsize : g.locals.size = nL) (hstack : g.stack = As.reverse ++ rest) (hW : 2 * g.monitorRoom + (rest.map fun v => v.category).sum ≤ 8) (hdg : decode cc g.pc = .ok (.invokestatic index, 3)) (hf : cells + mc ≤ R.cells ∧ slots + ms ≤ R.slots) :
    vx_Run p l e R s m args below meth c H locs cells slots mc ms g rest (Qc As.toArray) XC free := by
  obtain ⟨⟨hrc, hrs, hfr, hlo, hws, hcw⟩, hcode, hini, hy, hlen, hl, hstt⟩ := cw
  have hK : vx_Back l R p e below s args y 3 8 (PreOf R mc ms Pc) (PostOf Qc mc ms free) (vx_Post XC mc ms free) := vx_backW (hh := hh) (bytes := bytes) (maxL := maxL) (ret := ret) hM hp.1 hrc hrs hfr hlo hws hcw (fun a' U hW => word_at hW (Or.inl (by first | rfl | simp [Cond.onTables, Cond.keeps, Cond.steady])) hini)
  obtain ⟨hx, hb, hml, ho, -⟩ := S
  intro T hT X
  rcases vx_callSX X hx (hh := hh) (bytes := bytes) (maxL := maxL) (ret := ret) ho hl hstt hini hcode hy hK hg (hsize.trans hml.symm) (argsL := As) (rest := rest) (fun sig h => hn.trans (hlen sig h)) hstack hW (by rw [hb]; exact hdg)
    (fun vm₁ hW₁ => ⟨hf.1, hf.2, hp.2 (T.setVm vm₁) hT hW₁⟩) with ⟨v, vm₁, ⟨U', l2, c2, s2⟩, hW₁, X', ⟨g', mk, t, L, e1, e2, hq, h1, hL, h2, h3⟩, st⟩ | ⟨q, vm₁, ⟨U', l2, c2, s2⟩, hW₁, X', ⟨g', mk, t, L, E, ce, e1, e2, hq, hce, hcv, hcl, h1, hL, h2, h3⟩, st⟩
  · dsimp only [Pt.U, Pt.locs, Pt.cells, Pt.slots] at X' e1 e2 h1 h2 h3 st
    subst h1; subst h2; subst h3
    exact Or.inl ⟨v, (T.setVm vm₁).calling g' mk As.toArray, t, U', L, hT, X', hL, e1, e2, hq, st⟩
  · dsimp only [Pt.U, Pt.locs, Pt.cells, Pt.slots] at X' e1 e2 h1 h2 h3 st hcl
    subst h1; subst h2; subst h3
    exact Or.inr ⟨q, (T.setVm vm₁).calling g' mk As.toArray, t, U', L, E, ce, hT, X', hL, e1, e2, hq, hce, hcv, vx_cls hW₁ hcl, st⟩
end
end VXH
theorem vx_ofWH {l : Launch} {y : MethodName} {ws ws' : List Cond} {rm : Room} {Pc : Array Value → State → Prop} {Qc : Array Value → State → Outcome → State → Prop} {XC : String → State → State → Prop} {mc ms : Nat} {free : Addr → Prop} {cc : ByteArray} {maxL : Nat} {ret : Option FieldType} {hh : List (Nat × Nat × Nat × Nat)}
    (hy : plainName y.cls = true) (hw : ws = Cond.codeWith y cc maxL ret hh :: ws')
    (body : ∀ p e s m args below meth c s₁, BodyLoose p l y (headSpec ws rm) cc maxL ret e s m args below meth c s₁ → c.maxLocals = maxL → Pc args s →
      W p l e (headSpec ws rm).room s m args below meth c s.heap [] 0 0 (vx_MQ below Qc XC args s mc ms free) (entryFrame m args maxL)) : vx_Met l y ws rm Pc Qc XC mc ms free := by
  refine MetFree.of_bodyS (code := cc) (maxLocals := maxL) (ret := ret) hy ?_ ?_
  · intro args s m h hn
    obtain ⟨m9, meth, c, hn9, h1, h2, h3, h4, -, h5, h6, -⟩ := Cond.codeWith_spec (atoms_spec (ws := ws) h _ (by rw [hw]; exact List.mem_cons_self))
    cases hn.symm.trans hn9
    exact ⟨meth, c, h1, h2, h3, h4, h5, h6⟩
  · intro p e s m args below meth c s₁ B hml hP _
    have hh0 : s₁.heap = s.heap := by rw [B.state]; rfl
    obtain ⟨t, a1, o, b1, b2, b3⟩ := body p e s m args below meth c s₁ B hml hP s₁ hh0 (Stand.of_body B)
    exact ⟨t, o, a1, b1, b2, b3⟩
/-! ===== END ===== -/
end
section
def RX0 : String := "VaneVotes$Mill"
def TX0 : u_T := fun k => match k with
  | 0 => ("VaneVotes$Mill", "speed", "I", false)
  | 1 => ("VaneVotes$Mill", "ground", "I", false)
  | 2 => ("VaneVotes$Mill", "lots", "I", false)
  | 3 => ("VaneVotes$Mill", "lotOwners", "[I", true)
  | _ => ("VaneVotes$Mill", "lotSacks", "[I", true)
def tyX0 : Nat → FieldType := fun k => match k with
  | 0 => .int
  | 1 => .int
  | 2 => .int
  | 3 => .array .int
  | _ => .array .int
abbrev wsX00 : List Cond := u_ws RX0 TX0 5
theorem nmX0 : ∀ a, a < 5 → ∀ b, b < 5 → a ≠ b → (TX0 a).2.1 ≠ (TX0 b).2.1 := by decide +kernel
theorem tyX0_ok : ∀ k, k < 5 → parseFieldDescriptor (TX0 k).2.2.1 = some (tyX0 k) := by decide +kernel
abbrev cX0_init : ByteArray := prog_2_method_1_code
def yX0_init : MethodName := ⟨RX0, "<init>", "()V"⟩
abbrev cX0_copyMill : ByteArray := prog_2_method_2_code
def yX0_copyMill : MethodName := ⟨RX0, "copyMill", "(LVaneVotes$Mill;)V"⟩
abbrev cX0_addLot : ByteArray := prog_2_method_3_code
def yX0_addLot : MethodName := ⟨RX0, "addLot", "(II)V"⟩
abbrev cX0_sacksWaiting : ByteArray := prog_2_method_4_code
def yX0_sacksWaiting : MethodName := ⟨RX0, "sacksWaiting", "()I"⟩
abbrev cX0_sacksWaitingOf : ByteArray := prog_2_method_5_code
def yX0_sacksWaitingOf : MethodName := ⟨RX0, "sacksWaitingOf", "(I)I"⟩
abbrev cX0_flourOf : ByteArray := prog_2_method_6_code
def yX0_flourOf : MethodName := ⟨RX0, "flourOf", "(II)I"⟩
abbrev cX0_grind : ByteArray := prog_2_method_7_code
def yX0_grind : MethodName := ⟨RX0, "grind", "(I[I)I"⟩
abbrev cX0_dropFirst : ByteArray := prog_2_method_8_code
def yX0_dropFirst : MethodName := ⟨RX0, "dropFirst", "(I)V"⟩
def RX1 : String := "VaneVotes$Village"
def TX1 : u_T := fun k => match k with
  | 0 => ("VaneVotes$Village", "hour", "I", false)
  | 1 => ("VaneVotes$Village", "gone", "I", false)
  | 2 => ("VaneVotes$Village", "turned", "I", false)
  | 3 => ("VaneVotes$Village", "refused", "I", false)
  | 4 => ("VaneVotes$Village", "windSides", "[I", true)
  | 5 => ("VaneVotes$Village", "windStrengths", "[I", true)
  | 6 => ("VaneVotes$Village", "vanes", "[[I", true)
  | 7 => ("VaneVotes$Village", "settings", "[I", true)
  | 8 => ("VaneVotes$Village", "mills", "[LVaneVotes$Mill;", true)
  | 9 => ("VaneVotes$Village", "flour", "[I", true)
  | 10 => ("VaneVotes$Village", "brought", "[I", true)
  | _ => ("VaneVotes$Village", "takenBack", "[I", true)
def tyX1 : Nat → FieldType := fun k => match k with
  | 0 => .int
  | 1 => .int
  | 2 => .int
  | 3 => .int
  | 4 => .array .int
  | 5 => .array .int
  | 6 => .array (.array .int)
  | 7 => .array .int
  | 8 => .array (.object "VaneVotes$Mill")
  | 9 => .array .int
  | 10 => .array .int
  | _ => .array .int
abbrev wsX10 : List Cond := u_ws RX1 TX1 12
theorem nmX1 : ∀ a, a < 12 → ∀ b, b < 12 → a ≠ b → (TX1 a).2.1 ≠ (TX1 b).2.1 := by decide +kernel
theorem tyX1_ok : ∀ k, k < 12 → parseFieldDescriptor (TX1 k).2.2.1 = some (tyX1 k) := by decide +kernel
abbrev cX1_init : ByteArray := prog_3_method_1_code
def yX1_init : MethodName := ⟨RX1, "<init>", "()V"⟩
abbrev cX1_copyFrom : ByteArray := prog_3_method_2_code
def yX1_copyFrom : MethodName := ⟨RX1, "copyFrom", "(LVaneVotes$Village;)V"⟩
abbrev cX1_vaneAgrees : ByteArray := prog_3_method_3_code
def yX1_vaneAgrees : MethodName := ⟨RX1, "vaneAgrees", "(II)Z"⟩
abbrev cX1_committee : ByteArray := prog_3_method_4_code
def yX1_committee : MethodName := ⟨RX1, "committee", "()I"⟩
abbrev cX1_votesIn : ByteArray := prog_3_method_5_code
def yX1_votesIn : MethodName := ⟨RX1, "votesIn", "(I)I"⟩
abbrev cX1_verdictOf : ByteArray := prog_3_method_6_code
def yX1_verdictOf : MethodName := ⟨RX1, "verdictOf", "(II)I"⟩
abbrev cX1_verdictIn : ByteArray := prog_3_method_7_code
def yX1_verdictIn : MethodName := ⟨RX1, "verdictIn", "(I)I"⟩
abbrev cX1_agreeingHours : ByteArray := prog_3_method_8_code
def yX1_agreeingHours : MethodName := ⟨RX1, "agreeingHours", "()I"⟩
abbrev cX1_hoursOfVane : ByteArray := prog_3_method_9_code
def yX1_hoursOfVane : MethodName := ⟨RX1, "hoursOfVane", "(I)I"⟩
abbrev cX1_hoursTurnedBy : ByteArray := prog_3_method_10_code
def yX1_hoursTurnedBy : MethodName := ⟨RX1, "hoursTurnedBy", "(I)I"⟩
abbrev cX1_sacksGroundIn : ByteArray := prog_3_method_11_code
def yX1_sacksGroundIn : MethodName := ⟨RX1, "sacksGroundIn", "(I)I"⟩
abbrev cX1_fillRates : ByteArray := prog_3_method_12_code
def yX1_fillRates : MethodName := ⟨RX1, "fillRates", "(LVaneVotes$Mill;[I)I"⟩
abbrev cX1_passHour : ByteArray := prog_3_method_13_code
def yX1_passHour : MethodName := ⟨RX1, "passHour", "()I"⟩
abbrev cX1_sacksWaiting : ByteArray := prog_3_method_14_code
def yX1_sacksWaiting : MethodName := ⟨RX1, "sacksWaiting", "()I"⟩
abbrev cX1_sacksWaitingOf : ByteArray := prog_3_method_15_code
def yX1_sacksWaitingOf : MethodName := ⟨RX1, "sacksWaitingOf", "(I)I"⟩
abbrev cX1_flourOfAll : ByteArray := prog_3_method_16_code
def yX1_flourOfAll : MethodName := ⟨RX1, "flourOfAll", "()I"⟩
def RX2 : String := "VaneVotes$WindText"
def TX2 : u_T := fun k => match k with
  | 0 => ("VaneVotes$WindText", "codes", "[I", true)
  | _ => ("VaneVotes$WindText", "length", "I", false)
def tyX2 : Nat → FieldType := fun k => match k with
  | 0 => .array .int
  | _ => .int
abbrev wsX20 : List Cond := u_ws RX2 TX2 2
theorem nmX2 : ∀ a, a < 2 → ∀ b, b < 2 → a ≠ b → (TX2 a).2.1 ≠ (TX2 b).2.1 := by decide +kernel
theorem tyX2_ok : ∀ k, k < 2 → parseFieldDescriptor (TX2 k).2.2.1 = some (tyX2 k) := by decide +kernel
abbrev cX2_init : ByteArray := prog_4_method_1_code
def yX2_init : MethodName := ⟨RX2, "<init>", "()V"⟩
abbrev cX2_firstWrong : ByteArray := prog_4_method_2_code
def yX2_firstWrong : MethodName := ⟨RX2, "firstWrong", "()I"⟩
abbrev cX2_isWhole : ByteArray := prog_4_method_3_code
def yX2_isWhole : MethodName := ⟨RX2, "isWhole", "()Z"⟩
abbrev cX2_blowInto : ByteArray := prog_4_method_4_code
def yX2_blowInto : MethodName := ⟨RX2, "blowInto", "(LVaneVotes$Village;)V"⟩
abbrev cX2_placeAfter : ByteArray := prog_4_method_5_code
def yX2_placeAfter : MethodName := ⟨RX2, "placeAfter", "(II)I"⟩
abbrev cX2_afterFirstDigit : ByteArray := prog_4_method_6_code
def yX2_afterFirstDigit : MethodName := ⟨RX2, "afterFirstDigit", "(I)I"⟩
abbrev cX2_afterHour : ByteArray := prog_4_method_7_code
def yX2_afterHour : MethodName := ⟨RX2, "afterHour", "(I)I"⟩
def RX3 : String := "VaneVotes"
def TX3 : u_T := fun k => match k with
  | 0 => ("VaneVotes", "village", "LVaneVotes$Village;", true)
  | 1 => ("VaneVotes", "slots", "[LVaneVotes$Village;", true)
  | 2 => ("VaneVotes", "slotFilled", "[Z", true)
  | 3 => ("VaneVotes", "saved", "[LVaneVotes$Village;", true)
  | 4 => ("VaneVotes", "savedNext", "I", false)
  | 5 => ("VaneVotes", "savedCount", "I", false)
  | 6 => ("VaneVotes", "buffer", "LVaneVotes$WindText;", true)
  | _ => ("VaneVotes", "rates", "[I", true)
def tyX3 : Nat → FieldType := fun k => match k with
  | 0 => .object "VaneVotes$Village"
  | 1 => .array (.object "VaneVotes$Village")
  | 2 => .array .boolean
  | 3 => .array (.object "VaneVotes$Village")
  | 4 => .int
  | 5 => .int
  | 6 => .object "VaneVotes$WindText"
  | _ => .array .int
abbrev wsX30 : List Cond := u_ws RX3 TX3 8
theorem nmX3 : ∀ a, a < 8 → ∀ b, b < 8 → a ≠ b → (TX3 a).2.1 ≠ (TX3 b).2.1 := by decide +kernel
theorem tyX3_ok : ∀ k, k < 8 → parseFieldDescriptor (TX3 k).2.2.1 = some (tyX3 k) := by decide +kernel
abbrev cX3_init : ByteArray := prog_1_method_1_code
def yX3_init : MethodName := ⟨RX3, "<init>", "()V"⟩
abbrev cX3_wind : ByteArray := prog_1_method_2_code
def yX3_wind : MethodName := ⟨RX3, "wind", "(III)I"⟩
abbrev cX3_vane : ByteArray := prog_1_method_3_code
def yX3_vane : MethodName := ⟨RX3, "vane", "(III)I"⟩
abbrev cX3_mill : ByteArray := prog_1_method_4_code
def yX3_mill : MethodName := ⟨RX3, "mill", "(II)I"⟩
abbrev cX3_set : ByteArray := prog_1_method_5_code
def yX3_set : MethodName := ⟨RX3, "set", "(II)I"⟩
abbrev cX3_bring : ByteArray := prog_1_method_6_code
def yX3_bring : MethodName := ⟨RX3, "bring", "(III)I"⟩
abbrev cX3_takeBack : ByteArray := prog_1_method_7_code
def yX3_takeBack : MethodName := ⟨RX3, "takeBack", "(I)I"⟩
abbrev cX3_pass : ByteArray := prog_1_method_8_code
def yX3_pass : MethodName := ⟨RX3, "pass", "(I)I"⟩
abbrev cX3_append : ByteArray := prog_1_method_9_code
def yX3_append : MethodName := ⟨RX3, "append", "(I)I"⟩
abbrev cX3_clearBuffer : ByteArray := prog_1_method_10_code
def yX3_clearBuffer : MethodName := ⟨RX3, "clearBuffer", "()I"⟩
abbrev cX3_firstError : ByteArray := prog_1_method_11_code
def yX3_firstError : MethodName := ⟨RX3, "firstError", "()I"⟩
abbrev cX3_load : ByteArray := prog_1_method_12_code
def yX3_load : MethodName := ⟨RX3, "load", "()I"⟩
abbrev cX3_keep : ByteArray := prog_1_method_13_code
def yX3_keep : MethodName := ⟨RX3, "keep", "(I)I"⟩
abbrev cX3_goBack : ByteArray := prog_1_method_14_code
def yX3_goBack : MethodName := ⟨RX3, "goBack", "(I)I"⟩
abbrev cX3_undo : ByteArray := prog_1_method_15_code
def yX3_undo : MethodName := ⟨RX3, "undo", "()I"⟩
abbrev cX3_hourOf : ByteArray := prog_1_method_16_code
def yX3_hourOf : MethodName := ⟨RX3, "hourOf", "(II)I"⟩
abbrev cX3_vaneOf : ByteArray := prog_1_method_17_code
def yX3_vaneOf : MethodName := ⟨RX3, "vaneOf", "(II)I"⟩
abbrev cX3_millOf : ByteArray := prog_1_method_18_code
def yX3_millOf : MethodName := ⟨RX3, "millOf", "(II)I"⟩
abbrev cX3_ownerOf : ByteArray := prog_1_method_19_code
def yX3_ownerOf : MethodName := ⟨RX3, "ownerOf", "(II)I"⟩
abbrev cX3_count : ByteArray := prog_1_method_20_code
def yX3_count : MethodName := ⟨RX3, "count", "(I)I"⟩
abbrev cX3_setting : ByteArray := prog_1_method_21_code
def yX3_setting : MethodName := ⟨RX3, "setting", "(I)I"⟩
abbrev cX3_doneIn : ByteArray := prog_1_method_22_code
def yX3_doneIn : MethodName := ⟨RX3, "doneIn", "(II)I"⟩
abbrev cX3_ifPassed : ByteArray := prog_1_method_23_code
def yX3_ifPassed : MethodName := ⟨RX3, "ifPassed", "(II)I"⟩
abbrev cX3_turnsIn : ByteArray := prog_1_method_24_code
def yX3_turnsIn : MethodName := ⟨RX3, "turnsIn", "()I"⟩
abbrev cX3_mainVane : ByteArray := prog_1_method_25_code
def yX3_mainVane : MethodName := ⟨RX3, "mainVane", "()I"⟩
abbrev cX3_turnShare : ByteArray := prog_1_method_26_code
def yX3_turnShare : MethodName := ⟨RX3, "turnShare", "()D"⟩
abbrev cX3_digest : ByteArray := prog_1_method_27_code
def yX3_digest : MethodName := ⟨RX3, "digest", "()J"⟩
abbrev cX3_needIndex : ByteArray := prog_1_method_28_code
def yX3_needIndex : MethodName := ⟨RX3, "needIndex", "(II)V"⟩
abbrev cX3_needRange : ByteArray := prog_1_method_29_code
def yX3_needRange : MethodName := ⟨RX3, "needRange", "(III)V"⟩
abbrev cX3_saveState : ByteArray := prog_1_method_30_code
def yX3_saveState : MethodName := ⟨RX3, "saveState", "()V"⟩
abbrev cX3_hoursUntilGround : ByteArray := prog_1_method_31_code
def yX3_hoursUntilGround : MethodName := ⟨RX3, "hoursUntilGround", "(I)I"⟩
abbrev cX3_bitsOf : ByteArray := prog_1_method_32_code
def yX3_bitsOf : MethodName := ⟨RX3, "bitsOf", "(D)J"⟩
def RX4 : String := "VaneVotesModel"
def TX4 : u_T := fun k => match k with
  | 0 => ("VaneVotesModel", "thrown", "I", false)
  | 1 => ("VaneVotesModel", "z", "[I", true)
  | 2 => ("VaneVotesModel", "aside", "[I", true)
  | 3 => ("VaneVotesModel", "saved", "[I", true)
  | 4 => ("VaneVotesModel", "saves", "I", false)
  | 5 => ("VaneVotesModel", "slots", "[I", true)
  | 6 => ("VaneVotesModel", "isKept", "[Z", true)
  | 7 => ("VaneVotesModel", "text", "[I", true)
  | 8 => ("VaneVotesModel", "length", "I", false)
  | _ => ("VaneVotesModel", "hour", "I", false)
def tyX4 : Nat → FieldType := fun k => match k with
  | 0 => .int
  | 1 => .array .int
  | 2 => .array .int
  | 3 => .array .int
  | 4 => .int
  | 5 => .array .int
  | 6 => .array .boolean
  | 7 => .array .int
  | 8 => .int
  | _ => .int
abbrev wsX40 : List Cond := u_ws RX4 TX4 10
theorem nmX4 : ∀ a, a < 10 → ∀ b, b < 10 → a ≠ b → (TX4 a).2.1 ≠ (TX4 b).2.1 := by decide +kernel
theorem tyX4_ok : ∀ k, k < 10 → parseFieldDescriptor (TX4 k).2.2.1 = some (tyX4 k) := by decide +kernel
abbrev cX4_init : ByteArray := prog_6_method_1_code
def yX4_init : MethodName := ⟨RX4, "<init>", "()V"⟩
abbrev cX4_thrown : ByteArray := prog_6_method_2_code
def yX4_thrown : MethodName := ⟨RX4, "thrown", "()I"⟩
abbrev cX4_in : ByteArray := prog_6_method_3_code
def yX4_in : MethodName := ⟨RX4, "in", "(III)Z"⟩
abbrev cX4_vaneAt : ByteArray := prog_6_method_4_code
def yX4_vaneAt : MethodName := ⟨RX4, "vaneAt", "(II)I"⟩
abbrev cX4_millAt : ByteArray := prog_6_method_5_code
def yX4_millAt : MethodName := ⟨RX4, "millAt", "(II)I"⟩
abbrev cX4_ownerAt : ByteArray := prog_6_method_6_code
def yX4_ownerAt : MethodName := ⟨RX4, "ownerAt", "(II)I"⟩
abbrev cX4_addToMill : ByteArray := prog_6_method_7_code
def yX4_addToMill : MethodName := ⟨RX4, "addToMill", "(III)V"⟩
abbrev cX4_addToOwner : ByteArray := prog_6_method_8_code
def yX4_addToOwner : MethodName := ⟨RX4, "addToOwner", "(III)V"⟩
abbrev cX4_record : ByteArray := prog_6_method_9_code
def yX4_record : MethodName := ⟨RX4, "record", "()V"⟩
abbrev cX4_undo : ByteArray := prog_6_method_10_code
def yX4_undo : MethodName := ⟨RX4, "undo", "()I"⟩
abbrev cX4_keep : ByteArray := prog_6_method_11_code
def yX4_keep : MethodName := ⟨RX4, "keep", "(I)I"⟩
abbrev cX4_goBack : ByteArray := prog_6_method_12_code
def yX4_goBack : MethodName := ⟨RX4, "goBack", "(I)I"⟩
abbrev cX4_putAside : ByteArray := prog_6_method_13_code
def yX4_putAside : MethodName := ⟨RX4, "putAside", "()V"⟩
abbrev cX4_putBack : ByteArray := prog_6_method_14_code
def yX4_putBack : MethodName := ⟨RX4, "putBack", "()V"⟩
abbrev cX4_agrees : ByteArray := prog_6_method_15_code
def yX4_agrees : MethodName := ⟨RX4, "agrees", "(II)Z"⟩
abbrev cX4_committee : ByteArray := prog_6_method_16_code
def yX4_committee : MethodName := ⟨RX4, "committee", "()I"⟩
abbrev cX4_agreeing : ByteArray := prog_6_method_17_code
def yX4_agreeing : MethodName := ⟨RX4, "agreeing", "(I)I"⟩
abbrev cX4_whyNot : ByteArray := prog_6_method_18_code
def yX4_whyNot : MethodName := ⟨RX4, "whyNot", "(I)I"⟩
abbrev cX4_hoursOfDay : ByteArray := prog_6_method_19_code
def yX4_hoursOfDay : MethodName := ⟨RX4, "hoursOfDay", "()I"⟩
abbrev cX4_much : ByteArray := prog_6_method_20_code
def yX4_much : MethodName := ⟨RX4, "much", "(II)I"⟩
abbrev cX4_muchInDay : ByteArray := prog_6_method_21_code
def yX4_muchInDay : MethodName := ⟨RX4, "muchInDay", "(I)I"⟩
abbrev cX4_waiting : ByteArray := prog_6_method_22_code
def yX4_waiting : MethodName := ⟨RX4, "waiting", "(I)I"⟩
abbrev cX4_dropFirst : ByteArray := prog_6_method_23_code
def yX4_dropFirst : MethodName := ⟨RX4, "dropFirst", "(I)V"⟩
abbrev cX4_grind : ByteArray := prog_6_method_24_code
def yX4_grind : MethodName := ⟨RX4, "grind", "(II)I"⟩
abbrev cX4_doHour : ByteArray := prog_6_method_25_code
def yX4_doHour : MethodName := ⟨RX4, "doHour", "()I"⟩
abbrev cX4_doHours : ByteArray := prog_6_method_26_code
def yX4_doHours : MethodName := ⟨RX4, "doHours", "(I)I"⟩
abbrev cX4_change : ByteArray := prog_6_method_27_code
def yX4_change : MethodName := ⟨RX4, "change", "(II)I"⟩
abbrev cX4_wind : ByteArray := prog_6_method_28_code
def yX4_wind : MethodName := ⟨RX4, "wind", "(III)I"⟩
abbrev cX4_most : ByteArray := prog_6_method_29_code
def yX4_most : MethodName := ⟨RX4, "most", "(I)I"⟩
abbrev cX4_vane : ByteArray := prog_6_method_30_code
def yX4_vane : MethodName := ⟨RX4, "vane", "(III)I"⟩
abbrev cX4_mill : ByteArray := prog_6_method_31_code
def yX4_mill : MethodName := ⟨RX4, "mill", "(II)I"⟩
abbrev cX4_set : ByteArray := prog_6_method_32_code
def yX4_set : MethodName := ⟨RX4, "set", "(II)I"⟩
abbrev cX4_bring : ByteArray := prog_6_method_33_code
def yX4_bring : MethodName := ⟨RX4, "bring", "(III)I"⟩
abbrev cX4_takeBack : ByteArray := prog_6_method_34_code
def yX4_takeBack : MethodName := ⟨RX4, "takeBack", "(I)I"⟩
abbrev cX4_pass : ByteArray := prog_6_method_35_code
def yX4_pass : MethodName := ⟨RX4, "pass", "(I)I"⟩
abbrev cX4_append : ByteArray := prog_6_method_36_code
def yX4_append : MethodName := ⟨RX4, "append", "(I)I"⟩
abbrev cX4_clearBuffer : ByteArray := prog_6_method_37_code
def yX4_clearBuffer : MethodName := ⟨RX4, "clearBuffer", "()I"⟩
abbrev cX4_at : ByteArray := prog_6_method_38_code
def yX4_at : MethodName := ⟨RX4, "at", "(I)I"⟩
abbrev cX4_readWind : ByteArray := prog_6_method_39_code
def yX4_readWind : MethodName := ⟨RX4, "readWind", "(I)I"⟩
abbrev cX4_findError : ByteArray := prog_6_method_40_code
def yX4_findError : MethodName := ⟨RX4, "findError", "()I"⟩
abbrev cX4_firstError : ByteArray := prog_6_method_41_code
def yX4_firstError : MethodName := ⟨RX4, "firstError", "()I"⟩
abbrev cX4_load : ByteArray := prog_6_method_42_code
def yX4_load : MethodName := ⟨RX4, "load", "()I"⟩
abbrev cX4_hourNow : ByteArray := prog_6_method_43_code
def yX4_hourNow : MethodName := ⟨RX4, "hourNow", "(II)I"⟩
abbrev cX4_hourOf : ByteArray := prog_6_method_44_code
def yX4_hourOf : MethodName := ⟨RX4, "hourOf", "(II)I"⟩
abbrev cX4_agreeingHours : ByteArray := prog_6_method_45_code
def yX4_agreeingHours : MethodName := ⟨RX4, "agreeingHours", "(I)I"⟩
abbrev cX4_matters : ByteArray := prog_6_method_46_code
def yX4_matters : MethodName := ⟨RX4, "matters", "(I)I"⟩
abbrev cX4_vaneNow : ByteArray := prog_6_method_47_code
def yX4_vaneNow : MethodName := ⟨RX4, "vaneNow", "(II)I"⟩
abbrev cX4_vaneOf : ByteArray := prog_6_method_48_code
def yX4_vaneOf : MethodName := ⟨RX4, "vaneOf", "(II)I"⟩
abbrev cX4_millNow : ByteArray := prog_6_method_49_code
def yX4_millNow : MethodName := ⟨RX4, "millNow", "(II)I"⟩
abbrev cX4_millOf : ByteArray := prog_6_method_50_code
def yX4_millOf : MethodName := ⟨RX4, "millOf", "(II)I"⟩
abbrev cX4_waitingOf : ByteArray := prog_6_method_51_code
def yX4_waitingOf : MethodName := ⟨RX4, "waitingOf", "(I)I"⟩
abbrev cX4_ownerNow : ByteArray := prog_6_method_52_code
def yX4_ownerNow : MethodName := ⟨RX4, "ownerNow", "(II)I"⟩
abbrev cX4_ownerOf : ByteArray := prog_6_method_53_code
def yX4_ownerOf : MethodName := ⟨RX4, "ownerOf", "(II)I"⟩
abbrev cX4_allFlour : ByteArray := prog_6_method_54_code
def yX4_allFlour : MethodName := ⟨RX4, "allFlour", "()I"⟩
abbrev cX4_countNow : ByteArray := prog_6_method_55_code
def yX4_countNow : MethodName := ⟨RX4, "countNow", "(I)I"⟩
abbrev cX4_count : ByteArray := prog_6_method_56_code
def yX4_count : MethodName := ⟨RX4, "count", "(I)I"⟩
abbrev cX4_setting : ByteArray := prog_6_method_57_code
def yX4_setting : MethodName := ⟨RX4, "setting", "(I)I"⟩
abbrev cX4_doneNow : ByteArray := prog_6_method_58_code
def yX4_doneNow : MethodName := ⟨RX4, "doneNow", "(I)I"⟩
abbrev cX4_doneIn : ByteArray := prog_6_method_59_code
def yX4_doneIn : MethodName := ⟨RX4, "doneIn", "(II)I"⟩
abbrev cX4_passed : ByteArray := prog_6_method_60_code
def yX4_passed : MethodName := ⟨RX4, "passed", "(II)I"⟩
abbrev cX4_ifPassed : ByteArray := prog_6_method_61_code
def yX4_ifPassed : MethodName := ⟨RX4, "ifPassed", "(II)I"⟩
abbrev cX4_turnsNow : ByteArray := prog_6_method_62_code
def yX4_turnsNow : MethodName := ⟨RX4, "turnsNow", "()I"⟩
abbrev cX4_turnsIn : ByteArray := prog_6_method_63_code
def yX4_turnsIn : MethodName := ⟨RX4, "turnsIn", "()I"⟩
abbrev cX4_findMain : ByteArray := prog_6_method_64_code
def yX4_findMain : MethodName := ⟨RX4, "findMain", "()I"⟩
abbrev cX4_mainVane : ByteArray := prog_6_method_65_code
def yX4_mainVane : MethodName := ⟨RX4, "mainVane", "()I"⟩
abbrev cX4_turnShare : ByteArray := prog_6_method_66_code
def yX4_turnShare : MethodName := ⟨RX4, "turnShare", "()D"⟩
abbrev cX4_digest : ByteArray := prog_6_method_67_code
def yX4_digest : MethodName := ⟨RX4, "digest", "()J"⟩
def RJxe99ae : String := "java/lang/Double"
def TJxe99ae : u_T := fun k => match k with
  | _ => ("", "", "", false)
def tyJxe99ae : Nat → FieldType := fun k => match k with
  | _ => .int
abbrev wsJxe99ae0 : List Cond := u_ws RJxe99ae TJxe99ae 0
theorem nmJxe99ae : ∀ a, a < 0 → ∀ b, b < 0 → a ≠ b → (TJxe99ae a).2.1 ≠ (TJxe99ae b).2.1 := by decide +kernel
theorem tyJxe99ae_ok : ∀ k, k < 0 → parseFieldDescriptor (TJxe99ae k).2.2.1 = some (tyJxe99ae k) := by decide +kernel
abbrev cJxe99ae_isNaN_b9ae7 : ByteArray := prog_7_method_6_code
def yJxe99ae_isNaN_b9ae7 : MethodName := ⟨RJxe99ae, "isNaN", "(D)Z"⟩
abbrev cJxe99ae_doubleToLongBits_ccdee : ByteArray := prog_7_method_23_code
def yJxe99ae_doubleToLongBits_ccdee : MethodName := ⟨RJxe99ae, "doubleToLongBits", "(D)J"⟩
def RJ9 : String := "java/lang/Math"
def TJ9 : u_T := fun k => match k with
  | _ => ("", "", "", false)
def tyJ9 : Nat → FieldType := fun k => match k with
  | _ => .int
abbrev wsJ90 : List Cond := u_ws RJ9 TJ9 0
theorem nmJ9 : ∀ a, a < 0 → ∀ b, b < 0 → a ≠ b → (TJ9 a).2.1 ≠ (TJ9 b).2.1 := by decide +kernel
theorem tyJ9_ok : ∀ k, k < 0 → parseFieldDescriptor (TJ9 k).2.2.1 = some (tyJ9 k) := by decide +kernel
abbrev cJ9_min_7cf53 : ByteArray := prog_12_method_69_code
def yJ9_min_7cf53 : MethodName := ⟨RJ9, "min", "(II)I"⟩
def RJ0 : String := "java/lang/String"
def TJ0 : u_T := fun k => match k with
  | _ => ("", "", "", false)
def tyJ0 : Nat → FieldType := fun k => match k with
  | _ => .int
abbrev wsJ00 : List Cond := u_ws RJ0 TJ0 0
theorem nmJ0 : ∀ a, a < 0 → ∀ b, b < 0 → a ≠ b → (TJ0 a).2.1 ≠ (TJ0 b).2.1 := by decide +kernel
theorem tyJ0_ok : ∀ k, k < 0 → parseFieldDescriptor (TJ0 k).2.2.1 = some (tyJ0 k) := by decide +kernel
def RJ10 : String := "java/lang/System"
def TJ10 : u_T := fun k => match k with
  | _ => ("", "", "", false)
def tyJ10 : Nat → FieldType := fun k => match k with
  | _ => .int
abbrev wsJ100 : List Cond := u_ws RJ10 TJ10 0
theorem nmJ10 : ∀ a, a < 0 → ∀ b, b < 0 → a ≠ b → (TJ10 a).2.1 ≠ (TJ10 b).2.1 := by decide +kernel
theorem tyJ10_ok : ∀ k, k < 0 → parseFieldDescriptor (TJ10 k).2.2.1 = some (tyJ10 k) := by decide +kernel
def RL : String := "VaneVotesLaw"
abbrev cL_wind : ByteArray := method_3_code
def yL_wind : MethodName := ⟨RL, "wind", "(LVaneVotes;III[J)I"⟩
abbrev cL_vane : ByteArray := method_4_code
def yL_vane : MethodName := ⟨RL, "vane", "(LVaneVotes;III[J)I"⟩
abbrev cL_mill : ByteArray := method_5_code
def yL_mill : MethodName := ⟨RL, "mill", "(LVaneVotes;II[J)I"⟩
abbrev cL_set : ByteArray := method_6_code
def yL_set : MethodName := ⟨RL, "set", "(LVaneVotes;II[J)I"⟩
abbrev cL_bring : ByteArray := method_7_code
def yL_bring : MethodName := ⟨RL, "bring", "(LVaneVotes;III[J)I"⟩
abbrev cL_takeBack : ByteArray := method_8_code
def yL_takeBack : MethodName := ⟨RL, "takeBack", "(LVaneVotes;I[J)I"⟩
abbrev cL_pass : ByteArray := method_9_code
def yL_pass : MethodName := ⟨RL, "pass", "(LVaneVotes;I[J)I"⟩
abbrev cL_append : ByteArray := method_10_code
def yL_append : MethodName := ⟨RL, "append", "(LVaneVotes;I[J)I"⟩
abbrev cL_load : ByteArray := method_11_code
def yL_load : MethodName := ⟨RL, "load", "(LVaneVotes;[J)I"⟩
abbrev cL_keep : ByteArray := method_12_code
def yL_keep : MethodName := ⟨RL, "keep", "(LVaneVotes;I[J)I"⟩
abbrev cL_goBack : ByteArray := method_13_code
def yL_goBack : MethodName := ⟨RL, "goBack", "(LVaneVotes;I[J)I"⟩
abbrev cL_undo : ByteArray := method_14_code
def yL_undo : MethodName := ⟨RL, "undo", "(LVaneVotes;[J)I"⟩
abbrev cL_hourOf : ByteArray := method_15_code
def yL_hourOf : MethodName := ⟨RL, "hourOf", "(LVaneVotes;II[J)I"⟩
abbrev cL_vaneOf : ByteArray := method_16_code
def yL_vaneOf : MethodName := ⟨RL, "vaneOf", "(LVaneVotes;II[J)I"⟩
abbrev cL_millOf : ByteArray := method_17_code
def yL_millOf : MethodName := ⟨RL, "millOf", "(LVaneVotes;II[J)I"⟩
abbrev cL_ownerOf : ByteArray := method_18_code
def yL_ownerOf : MethodName := ⟨RL, "ownerOf", "(LVaneVotes;II[J)I"⟩
abbrev cL_count : ByteArray := method_19_code
def yL_count : MethodName := ⟨RL, "count", "(LVaneVotes;I[J)I"⟩
abbrev cL_setting : ByteArray := method_20_code
def yL_setting : MethodName := ⟨RL, "setting", "(LVaneVotes;I[J)I"⟩
abbrev cL_doneIn : ByteArray := method_21_code
def yL_doneIn : MethodName := ⟨RL, "doneIn", "(LVaneVotes;II[J)I"⟩
abbrev cL_ifPassed : ByteArray := method_22_code
def yL_ifPassed : MethodName := ⟨RL, "ifPassed", "(LVaneVotes;II[J)I"⟩
abbrev cL_law : ByteArray := code
def yL_law : MethodName := ⟨RL, "law", "([I)Z"⟩
abbrev vwCl : List vw_C := [(RX0, TX0, 5), (RX1, TX1, 12), (RX2, TX2, 2), (RX3, TX3, 8), (RX4, TX4, 10)]
theorem inX0 : ∀ w ∈ wsX00, w ∈ lw_tbl := by decide +kernel
theorem inX1 : ∀ w ∈ wsX10, w ∈ lw_tbl := by decide +kernel
theorem inX2 : ∀ w ∈ wsX20, w ∈ lw_tbl := by decide +kernel
theorem inX3 : ∀ w ∈ wsX30, w ∈ lw_tbl := by decide +kernel
theorem inX4 : ∀ w ∈ wsX40, w ∈ lw_tbl := by decide +kernel
end
section
theorem dX0_init_0 : decode cX0_init 0 = .ok (.aload_n 0, 1) := by decide +kernel
theorem dX0_init_1 : decode cX0_init 1 = .ok (.invokespecial 3, 3) := by decide +kernel
theorem dX0_init_4 : decode cX0_init 4 = .ok (.aload_n 0, 1) := by decide +kernel
theorem dX0_init_5 : decode cX0_init 5 = .ok (.iconst 2, 1) := by decide +kernel
theorem dX0_init_6 : decode cX0_init 6 = .ok (.putfield 9, 3) := by decide +kernel
theorem dX0_init_9 : decode cX0_init 9 = .ok (.aload_n 0, 1) := by decide +kernel
theorem dX0_init_10 : decode cX0_init 10 = .ok (.iconst 0, 1) := by decide +kernel
theorem dX0_init_11 : decode cX0_init 11 = .ok (.putfield 15, 3) := by decide +kernel
theorem dX0_init_14 : decode cX0_init 14 = .ok (.aload_n 0, 1) := by decide +kernel
theorem dX0_init_15 : decode cX0_init 15 = .ok (.iconst 0, 1) := by decide +kernel
theorem dX0_init_16 : decode cX0_init 16 = .ok (.putfield 18, 3) := by decide +kernel
theorem dX0_init_19 : decode cX0_init 19 = .ok (.aload_n 0, 1) := by decide +kernel
theorem dX0_init_20 : decode cX0_init 20 = .ok (.bipush 8, 2) := by decide +kernel
theorem dX0_init_22 : decode cX0_init 22 = .ok (.newarray .int, 2) := by decide +kernel
theorem dX0_init_24 : decode cX0_init 24 = .ok (.putfield 21, 3) := by decide +kernel
theorem dX0_init_27 : decode cX0_init 27 = .ok (.aload_n 0, 1) := by decide +kernel
theorem dX0_init_28 : decode cX0_init 28 = .ok (.bipush 8, 2) := by decide +kernel
theorem dX0_init_30 : decode cX0_init 30 = .ok (.newarray .int, 2) := by decide +kernel
theorem dX0_init_32 : decode cX0_init 32 = .ok (.putfield 25, 3) := by decide +kernel
theorem dX0_init_35 : decode cX0_init 35 = .ok (.return_, 1) := by decide +kernel
theorem dX0_copyMill_0 : decode cX0_copyMill 0 = .ok (.aload_n 0, 1) := by decide +kernel
theorem dX0_copyMill_1 : decode cX0_copyMill 1 = .ok (.aload_n 1, 1) := by decide +kernel
theorem dX0_copyMill_2 : decode cX0_copyMill 2 = .ok (.getfield 9, 3) := by decide +kernel
theorem dX0_copyMill_5 : decode cX0_copyMill 5 = .ok (.putfield 9, 3) := by decide +kernel
theorem dX0_copyMill_8 : decode cX0_copyMill 8 = .ok (.aload_n 0, 1) := by decide +kernel
theorem dX0_copyMill_9 : decode cX0_copyMill 9 = .ok (.aload_n 1, 1) := by decide +kernel
theorem dX0_copyMill_10 : decode cX0_copyMill 10 = .ok (.getfield 15, 3) := by decide +kernel
theorem dX0_copyMill_13 : decode cX0_copyMill 13 = .ok (.putfield 15, 3) := by decide +kernel
theorem dX0_copyMill_16 : decode cX0_copyMill 16 = .ok (.aload_n 0, 1) := by decide +kernel
theorem dX0_copyMill_17 : decode cX0_copyMill 17 = .ok (.aload_n 1, 1) := by decide +kernel
theorem dX0_copyMill_18 : decode cX0_copyMill 18 = .ok (.getfield 18, 3) := by decide +kernel
theorem dX0_copyMill_21 : decode cX0_copyMill 21 = .ok (.putfield 18, 3) := by decide +kernel
theorem dX0_copyMill_24 : decode cX0_copyMill 24 = .ok (.aload_n 1, 1) := by decide +kernel
theorem dX0_copyMill_25 : decode cX0_copyMill 25 = .ok (.getfield 21, 3) := by decide +kernel
theorem dX0_copyMill_28 : decode cX0_copyMill 28 = .ok (.iconst 0, 1) := by decide +kernel
theorem dX0_copyMill_29 : decode cX0_copyMill 29 = .ok (.aload_n 0, 1) := by decide +kernel
theorem dX0_copyMill_30 : decode cX0_copyMill 30 = .ok (.getfield 21, 3) := by decide +kernel
theorem dX0_copyMill_33 : decode cX0_copyMill 33 = .ok (.iconst 0, 1) := by decide +kernel
theorem dX0_copyMill_34 : decode cX0_copyMill 34 = .ok (.bipush 8, 2) := by decide +kernel
theorem dX0_copyMill_36 : decode cX0_copyMill 36 = .ok (.invokestatic 28, 3) := by decide +kernel
theorem dX0_copyMill_39 : decode cX0_copyMill 39 = .ok (.aload_n 1, 1) := by decide +kernel
theorem dX0_copyMill_40 : decode cX0_copyMill 40 = .ok (.getfield 25, 3) := by decide +kernel
theorem dX0_copyMill_43 : decode cX0_copyMill 43 = .ok (.iconst 0, 1) := by decide +kernel
theorem dX0_copyMill_44 : decode cX0_copyMill 44 = .ok (.aload_n 0, 1) := by decide +kernel
theorem dX0_copyMill_45 : decode cX0_copyMill 45 = .ok (.getfield 25, 3) := by decide +kernel
theorem dX0_copyMill_48 : decode cX0_copyMill 48 = .ok (.iconst 0, 1) := by decide +kernel
theorem dX0_copyMill_49 : decode cX0_copyMill 49 = .ok (.bipush 8, 2) := by decide +kernel
theorem dX0_copyMill_51 : decode cX0_copyMill 51 = .ok (.invokestatic 28, 3) := by decide +kernel
theorem dX0_copyMill_54 : decode cX0_copyMill 54 = .ok (.return_, 1) := by decide +kernel
theorem dX0_addLot_0 : decode cX0_addLot 0 = .ok (.aload_n 0, 1) := by decide +kernel
theorem dX0_addLot_1 : decode cX0_addLot 1 = .ok (.getfield 21, 3) := by decide +kernel
theorem dX0_addLot_4 : decode cX0_addLot 4 = .ok (.aload_n 0, 1) := by decide +kernel
theorem dX0_addLot_5 : decode cX0_addLot 5 = .ok (.getfield 18, 3) := by decide +kernel
theorem dX0_addLot_8 : decode cX0_addLot 8 = .ok (.iload_n 1, 1) := by decide +kernel
theorem dX0_addLot_9 : decode cX0_addLot 9 = .ok (.iastore, 1) := by decide +kernel
theorem dX0_addLot_10 : decode cX0_addLot 10 = .ok (.aload_n 0, 1) := by decide +kernel
theorem dX0_addLot_11 : decode cX0_addLot 11 = .ok (.getfield 25, 3) := by decide +kernel
theorem dX0_addLot_14 : decode cX0_addLot 14 = .ok (.aload_n 0, 1) := by decide +kernel
theorem dX0_addLot_15 : decode cX0_addLot 15 = .ok (.getfield 18, 3) := by decide +kernel
theorem dX0_addLot_18 : decode cX0_addLot 18 = .ok (.iload_n 2, 1) := by decide +kernel
theorem dX0_addLot_19 : decode cX0_addLot 19 = .ok (.iastore, 1) := by decide +kernel
theorem dX0_addLot_20 : decode cX0_addLot 20 = .ok (.aload_n 0, 1) := by decide +kernel
theorem dX0_addLot_21 : decode cX0_addLot 21 = .ok (.dup, 1) := by decide +kernel
theorem dX0_addLot_22 : decode cX0_addLot 22 = .ok (.getfield 18, 3) := by decide +kernel
theorem dX0_addLot_25 : decode cX0_addLot 25 = .ok (.iconst 1, 1) := by decide +kernel
theorem dX0_addLot_26 : decode cX0_addLot 26 = .ok (.iadd, 1) := by decide +kernel
theorem dX0_addLot_27 : decode cX0_addLot 27 = .ok (.putfield 18, 3) := by decide +kernel
theorem dX0_addLot_30 : decode cX0_addLot 30 = .ok (.return_, 1) := by decide +kernel
theorem dX0_sacksWaiting_0 : decode cX0_sacksWaiting 0 = .ok (.iconst 0, 1) := by decide +kernel
theorem dX0_sacksWaiting_1 : decode cX0_sacksWaiting 1 = .ok (.istore_n 1, 1) := by decide +kernel
theorem dX0_sacksWaiting_2 : decode cX0_sacksWaiting 2 = .ok (.iconst 0, 1) := by decide +kernel
theorem dX0_sacksWaiting_3 : decode cX0_sacksWaiting 3 = .ok (.istore_n 2, 1) := by decide +kernel
theorem dX0_sacksWaiting_4 : decode cX0_sacksWaiting 4 = .ok (.iload_n 2, 1) := by decide +kernel
theorem dX0_sacksWaiting_5 : decode cX0_sacksWaiting 5 = .ok (.aload_n 0, 1) := by decide +kernel
theorem dX0_sacksWaiting_6 : decode cX0_sacksWaiting 6 = .ok (.getfield 18, 3) := by decide +kernel
theorem dX0_sacksWaiting_9 : decode cX0_sacksWaiting 9 = .ok (.if_icmp .ge 18, 3) := by decide +kernel
theorem dX0_sacksWaiting_12 : decode cX0_sacksWaiting 12 = .ok (.iload_n 1, 1) := by decide +kernel
theorem dX0_sacksWaiting_13 : decode cX0_sacksWaiting 13 = .ok (.aload_n 0, 1) := by decide +kernel
theorem dX0_sacksWaiting_14 : decode cX0_sacksWaiting 14 = .ok (.getfield 25, 3) := by decide +kernel
theorem dX0_sacksWaiting_17 : decode cX0_sacksWaiting 17 = .ok (.iload_n 2, 1) := by decide +kernel
theorem dX0_sacksWaiting_18 : decode cX0_sacksWaiting 18 = .ok (.iaload, 1) := by decide +kernel
theorem dX0_sacksWaiting_19 : decode cX0_sacksWaiting 19 = .ok (.iadd, 1) := by decide +kernel
theorem dX0_sacksWaiting_20 : decode cX0_sacksWaiting 20 = .ok (.istore_n 1, 1) := by decide +kernel
theorem dX0_sacksWaiting_21 : decode cX0_sacksWaiting 21 = .ok (.iinc 2 1, 3) := by decide +kernel
theorem dX0_sacksWaiting_24 : decode cX0_sacksWaiting 24 = .ok (.goto (-20), 3) := by decide +kernel
theorem dX0_sacksWaiting_27 : decode cX0_sacksWaiting 27 = .ok (.iload_n 1, 1) := by decide +kernel
theorem dX0_sacksWaiting_28 : decode cX0_sacksWaiting 28 = .ok (.ireturn, 1) := by decide +kernel
theorem dX0_sacksWaitingOf_0 : decode cX0_sacksWaitingOf 0 = .ok (.iconst 0, 1) := by decide +kernel
theorem dX0_sacksWaitingOf_1 : decode cX0_sacksWaitingOf 1 = .ok (.istore_n 2, 1) := by decide +kernel
theorem dX0_sacksWaitingOf_2 : decode cX0_sacksWaitingOf 2 = .ok (.iconst 0, 1) := by decide +kernel
theorem dX0_sacksWaitingOf_3 : decode cX0_sacksWaitingOf 3 = .ok (.istore_n 3, 1) := by decide +kernel
theorem dX0_sacksWaitingOf_4 : decode cX0_sacksWaitingOf 4 = .ok (.iload_n 3, 1) := by decide +kernel
theorem dX0_sacksWaitingOf_5 : decode cX0_sacksWaitingOf 5 = .ok (.aload_n 0, 1) := by decide +kernel
theorem dX0_sacksWaitingOf_6 : decode cX0_sacksWaitingOf 6 = .ok (.getfield 18, 3) := by decide +kernel
theorem dX0_sacksWaitingOf_9 : decode cX0_sacksWaitingOf 9 = .ok (.if_icmp .ge 28, 3) := by decide +kernel
theorem dX0_sacksWaitingOf_12 : decode cX0_sacksWaitingOf 12 = .ok (.aload_n 0, 1) := by decide +kernel
theorem dX0_sacksWaitingOf_13 : decode cX0_sacksWaitingOf 13 = .ok (.getfield 21, 3) := by decide +kernel
theorem dX0_sacksWaitingOf_16 : decode cX0_sacksWaitingOf 16 = .ok (.iload_n 3, 1) := by decide +kernel
theorem dX0_sacksWaitingOf_17 : decode cX0_sacksWaitingOf 17 = .ok (.iaload, 1) := by decide +kernel
theorem dX0_sacksWaitingOf_18 : decode cX0_sacksWaitingOf 18 = .ok (.iload_n 1, 1) := by decide +kernel
theorem dX0_sacksWaitingOf_19 : decode cX0_sacksWaitingOf 19 = .ok (.if_icmp .ne 12, 3) := by decide +kernel
theorem dX0_sacksWaitingOf_22 : decode cX0_sacksWaitingOf 22 = .ok (.iload_n 2, 1) := by decide +kernel
theorem dX0_sacksWaitingOf_23 : decode cX0_sacksWaitingOf 23 = .ok (.aload_n 0, 1) := by decide +kernel
theorem dX0_sacksWaitingOf_24 : decode cX0_sacksWaitingOf 24 = .ok (.getfield 25, 3) := by decide +kernel
theorem dX0_sacksWaitingOf_27 : decode cX0_sacksWaitingOf 27 = .ok (.iload_n 3, 1) := by decide +kernel
theorem dX0_sacksWaitingOf_28 : decode cX0_sacksWaitingOf 28 = .ok (.iaload, 1) := by decide +kernel
theorem dX0_sacksWaitingOf_29 : decode cX0_sacksWaitingOf 29 = .ok (.iadd, 1) := by decide +kernel
theorem dX0_sacksWaitingOf_30 : decode cX0_sacksWaitingOf 30 = .ok (.istore_n 2, 1) := by decide +kernel
theorem dX0_sacksWaitingOf_31 : decode cX0_sacksWaitingOf 31 = .ok (.iinc 3 1, 3) := by decide +kernel
theorem dX0_sacksWaitingOf_34 : decode cX0_sacksWaitingOf 34 = .ok (.goto (-30), 3) := by decide +kernel
theorem dX0_sacksWaitingOf_37 : decode cX0_sacksWaitingOf 37 = .ok (.iload_n 2, 1) := by decide +kernel
theorem dX0_sacksWaitingOf_38 : decode cX0_sacksWaitingOf 38 = .ok (.ireturn, 1) := by decide +kernel
theorem dX0_flourOf_0 : decode cX0_flourOf 0 = .ok (.iload_n 2, 1) := by decide +kernel
theorem dX0_flourOf_1 : decode cX0_flourOf 1 = .ok (.istore_n 3, 1) := by decide +kernel
theorem dX0_flourOf_2 : decode cX0_flourOf 2 = .ok (.iconst 0, 1) := by decide +kernel
theorem dX0_flourOf_3 : decode cX0_flourOf 3 = .ok (.istore 4, 2) := by decide +kernel
theorem dX0_flourOf_5 : decode cX0_flourOf 5 = .ok (.iconst 0, 1) := by decide +kernel
theorem dX0_flourOf_6 : decode cX0_flourOf 6 = .ok (.istore 5, 2) := by decide +kernel
theorem dX0_flourOf_8 : decode cX0_flourOf 8 = .ok (.iload 5, 2) := by decide +kernel
theorem dX0_flourOf_10 : decode cX0_flourOf 10 = .ok (.aload_n 0, 1) := by decide +kernel
theorem dX0_flourOf_11 : decode cX0_flourOf 11 = .ok (.getfield 18, 3) := by decide +kernel
theorem dX0_flourOf_14 : decode cX0_flourOf 14 = .ok (.if_icmp .ge 49, 3) := by decide +kernel
theorem dX0_flourOf_17 : decode cX0_flourOf 17 = .ok (.iload_n 3, 1) := by decide +kernel
theorem dX0_flourOf_18 : decode cX0_flourOf 18 = .ok (.ifCond .le 45, 3) := by decide +kernel
theorem dX0_flourOf_21 : decode cX0_flourOf 21 = .ok (.iload_n 3, 1) := by decide +kernel
theorem dX0_flourOf_22 : decode cX0_flourOf 22 = .ok (.aload_n 0, 1) := by decide +kernel
theorem dX0_flourOf_23 : decode cX0_flourOf 23 = .ok (.getfield 25, 3) := by decide +kernel
theorem dX0_flourOf_26 : decode cX0_flourOf 26 = .ok (.iload 5, 2) := by decide +kernel
theorem dX0_flourOf_28 : decode cX0_flourOf 28 = .ok (.iaload, 1) := by decide +kernel
theorem dX0_flourOf_29 : decode cX0_flourOf 29 = .ok (.invokestatic 34, 3) := by decide +kernel
theorem dX0_flourOf_32 : decode cX0_flourOf 32 = .ok (.istore 6, 2) := by decide +kernel
theorem dX0_flourOf_34 : decode cX0_flourOf 34 = .ok (.iload_n 3, 1) := by decide +kernel
theorem dX0_flourOf_35 : decode cX0_flourOf 35 = .ok (.iload 6, 2) := by decide +kernel
theorem dX0_flourOf_37 : decode cX0_flourOf 37 = .ok (.isub, 1) := by decide +kernel
theorem dX0_flourOf_38 : decode cX0_flourOf 38 = .ok (.istore_n 3, 1) := by decide +kernel
theorem dX0_flourOf_39 : decode cX0_flourOf 39 = .ok (.aload_n 0, 1) := by decide +kernel
theorem dX0_flourOf_40 : decode cX0_flourOf 40 = .ok (.getfield 21, 3) := by decide +kernel
theorem dX0_flourOf_43 : decode cX0_flourOf 43 = .ok (.iload 5, 2) := by decide +kernel
theorem dX0_flourOf_45 : decode cX0_flourOf 45 = .ok (.iaload, 1) := by decide +kernel
theorem dX0_flourOf_46 : decode cX0_flourOf 46 = .ok (.iload_n 1, 1) := by decide +kernel
theorem dX0_flourOf_47 : decode cX0_flourOf 47 = .ok (.if_icmp .ne 10, 3) := by decide +kernel
theorem dX0_flourOf_50 : decode cX0_flourOf 50 = .ok (.iload 4, 2) := by decide +kernel
theorem dX0_flourOf_52 : decode cX0_flourOf 52 = .ok (.iload 6, 2) := by decide +kernel
theorem dX0_flourOf_54 : decode cX0_flourOf 54 = .ok (.iadd, 1) := by decide +kernel
theorem dX0_flourOf_55 : decode cX0_flourOf 55 = .ok (.istore 4, 2) := by decide +kernel
theorem dX0_flourOf_57 : decode cX0_flourOf 57 = .ok (.iinc 5 1, 3) := by decide +kernel
theorem dX0_flourOf_60 : decode cX0_flourOf 60 = .ok (.goto (-52), 3) := by decide +kernel
theorem dX0_flourOf_63 : decode cX0_flourOf 63 = .ok (.iload 4, 2) := by decide +kernel
theorem dX0_flourOf_65 : decode cX0_flourOf 65 = .ok (.ireturn, 1) := by decide +kernel
theorem dX0_grind_0 : decode cX0_grind 0 = .ok (.iload_n 1, 1) := by decide +kernel
theorem dX0_grind_1 : decode cX0_grind 1 = .ok (.istore_n 3, 1) := by decide +kernel
theorem dX0_grind_2 : decode cX0_grind 2 = .ok (.iconst 0, 1) := by decide +kernel
theorem dX0_grind_3 : decode cX0_grind 3 = .ok (.istore 4, 2) := by decide +kernel
theorem dX0_grind_5 : decode cX0_grind 5 = .ok (.iconst 0, 1) := by decide +kernel
theorem dX0_grind_6 : decode cX0_grind 6 = .ok (.istore 5, 2) := by decide +kernel
theorem dX0_grind_8 : decode cX0_grind 8 = .ok (.iload 5, 2) := by decide +kernel
theorem dX0_grind_10 : decode cX0_grind 10 = .ok (.aload_n 0, 1) := by decide +kernel
theorem dX0_grind_11 : decode cX0_grind 11 = .ok (.getfield 18, 3) := by decide +kernel
theorem dX0_grind_14 : decode cX0_grind 14 = .ok (.if_icmp .ge 70, 3) := by decide +kernel
theorem dX0_grind_17 : decode cX0_grind 17 = .ok (.iload_n 3, 1) := by decide +kernel
theorem dX0_grind_18 : decode cX0_grind 18 = .ok (.ifCond .le 66, 3) := by decide +kernel
theorem dX0_grind_21 : decode cX0_grind 21 = .ok (.iload_n 3, 1) := by decide +kernel
theorem dX0_grind_22 : decode cX0_grind 22 = .ok (.aload_n 0, 1) := by decide +kernel
theorem dX0_grind_23 : decode cX0_grind 23 = .ok (.getfield 25, 3) := by decide +kernel
theorem dX0_grind_26 : decode cX0_grind 26 = .ok (.iload 5, 2) := by decide +kernel
theorem dX0_grind_28 : decode cX0_grind 28 = .ok (.iaload, 1) := by decide +kernel
theorem dX0_grind_29 : decode cX0_grind 29 = .ok (.invokestatic 34, 3) := by decide +kernel
theorem dX0_grind_32 : decode cX0_grind 32 = .ok (.istore 6, 2) := by decide +kernel
theorem dX0_grind_34 : decode cX0_grind 34 = .ok (.iload_n 3, 1) := by decide +kernel
theorem dX0_grind_35 : decode cX0_grind 35 = .ok (.iload 6, 2) := by decide +kernel
theorem dX0_grind_37 : decode cX0_grind 37 = .ok (.isub, 1) := by decide +kernel
theorem dX0_grind_38 : decode cX0_grind 38 = .ok (.istore_n 3, 1) := by decide +kernel
theorem dX0_grind_39 : decode cX0_grind 39 = .ok (.aload_n 0, 1) := by decide +kernel
theorem dX0_grind_40 : decode cX0_grind 40 = .ok (.getfield 25, 3) := by decide +kernel
theorem dX0_grind_43 : decode cX0_grind 43 = .ok (.iload 5, 2) := by decide +kernel
theorem dX0_grind_45 : decode cX0_grind 45 = .ok (.dup2, 1) := by decide +kernel
theorem dX0_grind_46 : decode cX0_grind 46 = .ok (.iaload, 1) := by decide +kernel
theorem dX0_grind_47 : decode cX0_grind 47 = .ok (.iload 6, 2) := by decide +kernel
theorem dX0_grind_49 : decode cX0_grind 49 = .ok (.isub, 1) := by decide +kernel
theorem dX0_grind_50 : decode cX0_grind 50 = .ok (.iastore, 1) := by decide +kernel
theorem dX0_grind_51 : decode cX0_grind 51 = .ok (.aload_n 2, 1) := by decide +kernel
theorem dX0_grind_52 : decode cX0_grind 52 = .ok (.aload_n 0, 1) := by decide +kernel
theorem dX0_grind_53 : decode cX0_grind 53 = .ok (.getfield 21, 3) := by decide +kernel
theorem dX0_grind_56 : decode cX0_grind 56 = .ok (.iload 5, 2) := by decide +kernel
theorem dX0_grind_58 : decode cX0_grind 58 = .ok (.iaload, 1) := by decide +kernel
theorem dX0_grind_59 : decode cX0_grind 59 = .ok (.dup2, 1) := by decide +kernel
theorem dX0_grind_60 : decode cX0_grind 60 = .ok (.iaload, 1) := by decide +kernel
theorem dX0_grind_61 : decode cX0_grind 61 = .ok (.iload 6, 2) := by decide +kernel
theorem dX0_grind_63 : decode cX0_grind 63 = .ok (.iadd, 1) := by decide +kernel
theorem dX0_grind_64 : decode cX0_grind 64 = .ok (.iastore, 1) := by decide +kernel
theorem dX0_grind_65 : decode cX0_grind 65 = .ok (.aload_n 0, 1) := by decide +kernel
theorem dX0_grind_66 : decode cX0_grind 66 = .ok (.getfield 25, 3) := by decide +kernel
theorem dX0_grind_69 : decode cX0_grind 69 = .ok (.iload 5, 2) := by decide +kernel
theorem dX0_grind_71 : decode cX0_grind 71 = .ok (.iaload, 1) := by decide +kernel
theorem dX0_grind_72 : decode cX0_grind 72 = .ok (.ifCond .ne 6, 3) := by decide +kernel
theorem dX0_grind_75 : decode cX0_grind 75 = .ok (.iinc 4 1, 3) := by decide +kernel
theorem dX0_grind_78 : decode cX0_grind 78 = .ok (.iinc 5 1, 3) := by decide +kernel
theorem dX0_grind_81 : decode cX0_grind 81 = .ok (.goto (-73), 3) := by decide +kernel
theorem dX0_grind_84 : decode cX0_grind 84 = .ok (.aload_n 0, 1) := by decide +kernel
theorem dX0_grind_85 : decode cX0_grind 85 = .ok (.iload 4, 2) := by decide +kernel
theorem dX0_grind_87 : decode cX0_grind 87 = .ok (.invokevirtual 40, 3) := by decide +kernel
theorem dX0_grind_90 : decode cX0_grind 90 = .ok (.aload_n 0, 1) := by decide +kernel
theorem dX0_grind_91 : decode cX0_grind 91 = .ok (.dup, 1) := by decide +kernel
theorem dX0_grind_92 : decode cX0_grind 92 = .ok (.getfield 15, 3) := by decide +kernel
theorem dX0_grind_95 : decode cX0_grind 95 = .ok (.iload_n 1, 1) := by decide +kernel
theorem dX0_grind_96 : decode cX0_grind 96 = .ok (.iload_n 3, 1) := by decide +kernel
theorem dX0_grind_97 : decode cX0_grind 97 = .ok (.isub, 1) := by decide +kernel
theorem dX0_grind_98 : decode cX0_grind 98 = .ok (.iadd, 1) := by decide +kernel
theorem dX0_grind_99 : decode cX0_grind 99 = .ok (.putfield 15, 3) := by decide +kernel
theorem dX0_grind_102 : decode cX0_grind 102 = .ok (.iload_n 1, 1) := by decide +kernel
theorem dX0_grind_103 : decode cX0_grind 103 = .ok (.iload_n 3, 1) := by decide +kernel
theorem dX0_grind_104 : decode cX0_grind 104 = .ok (.isub, 1) := by decide +kernel
theorem dX0_grind_105 : decode cX0_grind 105 = .ok (.ireturn, 1) := by decide +kernel
theorem dX0_dropFirst_0 : decode cX0_dropFirst 0 = .ok (.aload_n 0, 1) := by decide +kernel
theorem dX0_dropFirst_1 : decode cX0_dropFirst 1 = .ok (.dup, 1) := by decide +kernel
theorem dX0_dropFirst_2 : decode cX0_dropFirst 2 = .ok (.getfield 18, 3) := by decide +kernel
theorem dX0_dropFirst_5 : decode cX0_dropFirst 5 = .ok (.iload_n 1, 1) := by decide +kernel
theorem dX0_dropFirst_6 : decode cX0_dropFirst 6 = .ok (.isub, 1) := by decide +kernel
theorem dX0_dropFirst_7 : decode cX0_dropFirst 7 = .ok (.putfield 18, 3) := by decide +kernel
theorem dX0_dropFirst_10 : decode cX0_dropFirst 10 = .ok (.iconst 0, 1) := by decide +kernel
theorem dX0_dropFirst_11 : decode cX0_dropFirst 11 = .ok (.istore_n 2, 1) := by decide +kernel
theorem dX0_dropFirst_12 : decode cX0_dropFirst 12 = .ok (.iload_n 2, 1) := by decide +kernel
theorem dX0_dropFirst_13 : decode cX0_dropFirst 13 = .ok (.aload_n 0, 1) := by decide +kernel
theorem dX0_dropFirst_14 : decode cX0_dropFirst 14 = .ok (.getfield 18, 3) := by decide +kernel
theorem dX0_dropFirst_17 : decode cX0_dropFirst 17 = .ok (.if_icmp .ge 37, 3) := by decide +kernel
theorem dX0_dropFirst_20 : decode cX0_dropFirst 20 = .ok (.aload_n 0, 1) := by decide +kernel
theorem dX0_dropFirst_21 : decode cX0_dropFirst 21 = .ok (.getfield 21, 3) := by decide +kernel
theorem dX0_dropFirst_24 : decode cX0_dropFirst 24 = .ok (.iload_n 2, 1) := by decide +kernel
theorem dX0_dropFirst_25 : decode cX0_dropFirst 25 = .ok (.aload_n 0, 1) := by decide +kernel
theorem dX0_dropFirst_26 : decode cX0_dropFirst 26 = .ok (.getfield 21, 3) := by decide +kernel
theorem dX0_dropFirst_29 : decode cX0_dropFirst 29 = .ok (.iload_n 2, 1) := by decide +kernel
theorem dX0_dropFirst_30 : decode cX0_dropFirst 30 = .ok (.iload_n 1, 1) := by decide +kernel
theorem dX0_dropFirst_31 : decode cX0_dropFirst 31 = .ok (.iadd, 1) := by decide +kernel
theorem dX0_dropFirst_32 : decode cX0_dropFirst 32 = .ok (.iaload, 1) := by decide +kernel
theorem dX0_dropFirst_33 : decode cX0_dropFirst 33 = .ok (.iastore, 1) := by decide +kernel
theorem dX0_dropFirst_34 : decode cX0_dropFirst 34 = .ok (.aload_n 0, 1) := by decide +kernel
theorem dX0_dropFirst_35 : decode cX0_dropFirst 35 = .ok (.getfield 25, 3) := by decide +kernel
theorem dX0_dropFirst_38 : decode cX0_dropFirst 38 = .ok (.iload_n 2, 1) := by decide +kernel
theorem dX0_dropFirst_39 : decode cX0_dropFirst 39 = .ok (.aload_n 0, 1) := by decide +kernel
theorem dX0_dropFirst_40 : decode cX0_dropFirst 40 = .ok (.getfield 25, 3) := by decide +kernel
theorem dX0_dropFirst_43 : decode cX0_dropFirst 43 = .ok (.iload_n 2, 1) := by decide +kernel
theorem dX0_dropFirst_44 : decode cX0_dropFirst 44 = .ok (.iload_n 1, 1) := by decide +kernel
theorem dX0_dropFirst_45 : decode cX0_dropFirst 45 = .ok (.iadd, 1) := by decide +kernel
theorem dX0_dropFirst_46 : decode cX0_dropFirst 46 = .ok (.iaload, 1) := by decide +kernel
theorem dX0_dropFirst_47 : decode cX0_dropFirst 47 = .ok (.iastore, 1) := by decide +kernel
theorem dX0_dropFirst_48 : decode cX0_dropFirst 48 = .ok (.iinc 2 1, 3) := by decide +kernel
theorem dX0_dropFirst_51 : decode cX0_dropFirst 51 = .ok (.goto (-39), 3) := by decide +kernel
theorem dX0_dropFirst_54 : decode cX0_dropFirst 54 = .ok (.return_, 1) := by decide +kernel
theorem dX1_init_0 : decode cX1_init 0 = .ok (.aload_n 0, 1) := by decide +kernel
theorem dX1_init_1 : decode cX1_init 1 = .ok (.invokespecial 3, 3) := by decide +kernel
theorem dX1_init_4 : decode cX1_init 4 = .ok (.aload_n 0, 1) := by decide +kernel
theorem dX1_init_5 : decode cX1_init 5 = .ok (.iconst 0, 1) := by decide +kernel
theorem dX1_init_6 : decode cX1_init 6 = .ok (.putfield 9, 3) := by decide +kernel
theorem dX1_init_9 : decode cX1_init 9 = .ok (.aload_n 0, 1) := by decide +kernel
theorem dX1_init_10 : decode cX1_init 10 = .ok (.iconst 0, 1) := by decide +kernel
theorem dX1_init_11 : decode cX1_init 11 = .ok (.putfield 15, 3) := by decide +kernel
theorem dX1_init_14 : decode cX1_init 14 = .ok (.aload_n 0, 1) := by decide +kernel
theorem dX1_init_15 : decode cX1_init 15 = .ok (.iconst 0, 1) := by decide +kernel
theorem dX1_init_16 : decode cX1_init 16 = .ok (.putfield 18, 3) := by decide +kernel
theorem dX1_init_19 : decode cX1_init 19 = .ok (.aload_n 0, 1) := by decide +kernel
theorem dX1_init_20 : decode cX1_init 20 = .ok (.iconst 0, 1) := by decide +kernel
theorem dX1_init_21 : decode cX1_init 21 = .ok (.putfield 21, 3) := by decide +kernel
theorem dX1_init_24 : decode cX1_init 24 = .ok (.aload_n 0, 1) := by decide +kernel
theorem dX1_init_25 : decode cX1_init 25 = .ok (.bipush 24, 2) := by decide +kernel
theorem dX1_init_27 : decode cX1_init 27 = .ok (.newarray .int, 2) := by decide +kernel
theorem dX1_init_29 : decode cX1_init 29 = .ok (.putfield 24, 3) := by decide +kernel
theorem dX1_init_32 : decode cX1_init 32 = .ok (.aload_n 0, 1) := by decide +kernel
theorem dX1_init_33 : decode cX1_init 33 = .ok (.bipush 24, 2) := by decide +kernel
theorem dX1_init_35 : decode cX1_init 35 = .ok (.newarray .int, 2) := by decide +kernel
theorem dX1_init_37 : decode cX1_init 37 = .ok (.putfield 28, 3) := by decide +kernel
theorem dX1_init_40 : decode cX1_init 40 = .ok (.aload_n 0, 1) := by decide +kernel
theorem dX1_init_41 : decode cX1_init 41 = .ok (.bipush 6, 2) := by decide +kernel
theorem dX1_init_43 : decode cX1_init 43 = .ok (.iconst 4, 1) := by decide +kernel
theorem dX1_init_44 : decode cX1_init 44 = .ok (.multianewarray 31 2, 4) := by decide +kernel
theorem dX1_init_48 : decode cX1_init 48 = .ok (.putfield 33, 3) := by decide +kernel
theorem dX1_init_51 : decode cX1_init 51 = .ok (.aload_n 0, 1) := by decide +kernel
theorem dX1_init_52 : decode cX1_init 52 = .ok (.iconst 2, 1) := by decide +kernel
theorem dX1_init_53 : decode cX1_init 53 = .ok (.newarray .int, 2) := by decide +kernel
theorem dX1_init_55 : decode cX1_init 55 = .ok (.putfield 36, 3) := by decide +kernel
theorem dX1_init_58 : decode cX1_init 58 = .ok (.aload_n 0, 1) := by decide +kernel
theorem dX1_init_59 : decode cX1_init 59 = .ok (.iconst 3, 1) := by decide +kernel
theorem dX1_init_60 : decode cX1_init 60 = .ok (.anewarray 39, 3) := by decide +kernel
theorem dX1_init_63 : decode cX1_init 63 = .ok (.putfield 41, 3) := by decide +kernel
theorem dX1_init_66 : decode cX1_init 66 = .ok (.aload_n 0, 1) := by decide +kernel
theorem dX1_init_67 : decode cX1_init 67 = .ok (.iconst 5, 1) := by decide +kernel
theorem dX1_init_68 : decode cX1_init 68 = .ok (.newarray .int, 2) := by decide +kernel
theorem dX1_init_70 : decode cX1_init 70 = .ok (.putfield 45, 3) := by decide +kernel
theorem dX1_init_73 : decode cX1_init 73 = .ok (.aload_n 0, 1) := by decide +kernel
theorem dX1_init_74 : decode cX1_init 74 = .ok (.iconst 5, 1) := by decide +kernel
theorem dX1_init_75 : decode cX1_init 75 = .ok (.newarray .int, 2) := by decide +kernel
theorem dX1_init_77 : decode cX1_init 77 = .ok (.putfield 48, 3) := by decide +kernel
theorem dX1_init_80 : decode cX1_init 80 = .ok (.aload_n 0, 1) := by decide +kernel
theorem dX1_init_81 : decode cX1_init 81 = .ok (.iconst 5, 1) := by decide +kernel
theorem dX1_init_82 : decode cX1_init 82 = .ok (.newarray .int, 2) := by decide +kernel
theorem dX1_init_84 : decode cX1_init 84 = .ok (.putfield 51, 3) := by decide +kernel
theorem dX1_init_87 : decode cX1_init 87 = .ok (.iconst 0, 1) := by decide +kernel
theorem dX1_init_88 : decode cX1_init 88 = .ok (.istore_n 1, 1) := by decide +kernel
theorem dX1_init_89 : decode cX1_init 89 = .ok (.iload_n 1, 1) := by decide +kernel
theorem dX1_init_90 : decode cX1_init 90 = .ok (.bipush 24, 2) := by decide +kernel
theorem dX1_init_92 : decode cX1_init 92 = .ok (.if_icmp .ge 29, 3) := by decide +kernel
theorem dX1_init_95 : decode cX1_init 95 = .ok (.aload_n 0, 1) := by decide +kernel
theorem dX1_init_96 : decode cX1_init 96 = .ok (.getfield 24, 3) := by decide +kernel
theorem dX1_init_99 : decode cX1_init 99 = .ok (.iload_n 1, 1) := by decide +kernel
theorem dX1_init_100 : decode cX1_init 100 = .ok (.iload_n 1, 1) := by decide +kernel
theorem dX1_init_101 : decode cX1_init 101 = .ok (.bipush 8, 2) := by decide +kernel
theorem dX1_init_103 : decode cX1_init 103 = .ok (.irem, 1) := by decide +kernel
theorem dX1_init_104 : decode cX1_init 104 = .ok (.iastore, 1) := by decide +kernel
theorem dX1_init_105 : decode cX1_init 105 = .ok (.aload_n 0, 1) := by decide +kernel
theorem dX1_init_106 : decode cX1_init 106 = .ok (.getfield 28, 3) := by decide +kernel
theorem dX1_init_109 : decode cX1_init 109 = .ok (.iload_n 1, 1) := by decide +kernel
theorem dX1_init_110 : decode cX1_init 110 = .ok (.iload_n 1, 1) := by decide +kernel
theorem dX1_init_111 : decode cX1_init 111 = .ok (.bipush 10, 2) := by decide +kernel
theorem dX1_init_113 : decode cX1_init 113 = .ok (.irem, 1) := by decide +kernel
theorem dX1_init_114 : decode cX1_init 114 = .ok (.iastore, 1) := by decide +kernel
theorem dX1_init_115 : decode cX1_init 115 = .ok (.iinc 1 1, 3) := by decide +kernel
theorem dX1_init_118 : decode cX1_init 118 = .ok (.goto (-29), 3) := by decide +kernel
theorem dX1_init_121 : decode cX1_init 121 = .ok (.iconst 0, 1) := by decide +kernel
theorem dX1_init_122 : decode cX1_init 122 = .ok (.istore_n 1, 1) := by decide +kernel
theorem dX1_init_123 : decode cX1_init 123 = .ok (.iload_n 1, 1) := by decide +kernel
theorem dX1_init_124 : decode cX1_init 124 = .ok (.bipush 6, 2) := by decide +kernel
theorem dX1_init_126 : decode cX1_init 126 = .ok (.if_icmp .ge 36, 3) := by decide +kernel
theorem dX1_init_129 : decode cX1_init 129 = .ok (.aload_n 0, 1) := by decide +kernel
theorem dX1_init_130 : decode cX1_init 130 = .ok (.getfield 33, 3) := by decide +kernel
theorem dX1_init_133 : decode cX1_init 133 = .ok (.iload_n 1, 1) := by decide +kernel
theorem dX1_init_134 : decode cX1_init 134 = .ok (.aaload, 1) := by decide +kernel
theorem dX1_init_135 : decode cX1_init 135 = .ok (.iconst 0, 1) := by decide +kernel
theorem dX1_init_136 : decode cX1_init 136 = .ok (.iload_n 1, 1) := by decide +kernel
theorem dX1_init_137 : decode cX1_init 137 = .ok (.iastore, 1) := by decide +kernel
theorem dX1_init_138 : decode cX1_init 138 = .ok (.aload_n 0, 1) := by decide +kernel
theorem dX1_init_139 : decode cX1_init 139 = .ok (.getfield 33, 3) := by decide +kernel
theorem dX1_init_142 : decode cX1_init 142 = .ok (.iload_n 1, 1) := by decide +kernel
theorem dX1_init_143 : decode cX1_init 143 = .ok (.aaload, 1) := by decide +kernel
theorem dX1_init_144 : decode cX1_init 144 = .ok (.iconst 1, 1) := by decide +kernel
theorem dX1_init_145 : decode cX1_init 145 = .ok (.iconst 2, 1) := by decide +kernel
theorem dX1_init_146 : decode cX1_init 146 = .ok (.iastore, 1) := by decide +kernel
theorem dX1_init_147 : decode cX1_init 147 = .ok (.aload_n 0, 1) := by decide +kernel
theorem dX1_init_148 : decode cX1_init 148 = .ok (.getfield 33, 3) := by decide +kernel
theorem dX1_init_151 : decode cX1_init 151 = .ok (.iload_n 1, 1) := by decide +kernel
theorem dX1_init_152 : decode cX1_init 152 = .ok (.aaload, 1) := by decide +kernel
theorem dX1_init_153 : decode cX1_init 153 = .ok (.iconst 2, 1) := by decide +kernel
theorem dX1_init_154 : decode cX1_init 154 = .ok (.iconst 1, 1) := by decide +kernel
theorem dX1_init_155 : decode cX1_init 155 = .ok (.iastore, 1) := by decide +kernel
theorem dX1_init_156 : decode cX1_init 156 = .ok (.iinc 1 1, 3) := by decide +kernel
theorem dX1_init_159 : decode cX1_init 159 = .ok (.goto (-36), 3) := by decide +kernel
theorem dX1_init_162 : decode cX1_init 162 = .ok (.iconst 0, 1) := by decide +kernel
theorem dX1_init_163 : decode cX1_init 163 = .ok (.istore_n 1, 1) := by decide +kernel
theorem dX1_init_164 : decode cX1_init 164 = .ok (.iload_n 1, 1) := by decide +kernel
theorem dX1_init_165 : decode cX1_init 165 = .ok (.iconst 3, 1) := by decide +kernel
theorem dX1_init_166 : decode cX1_init 166 = .ok (.if_icmp .ge 22, 3) := by decide +kernel
theorem dX1_init_169 : decode cX1_init 169 = .ok (.aload_n 0, 1) := by decide +kernel
theorem dX1_init_170 : decode cX1_init 170 = .ok (.getfield 41, 3) := by decide +kernel
theorem dX1_init_173 : decode cX1_init 173 = .ok (.iload_n 1, 1) := by decide +kernel
theorem dX1_init_174 : decode cX1_init 174 = .ok (.new 39, 3) := by decide +kernel
theorem dX1_init_177 : decode cX1_init 177 = .ok (.dup, 1) := by decide +kernel
theorem dX1_init_178 : decode cX1_init 178 = .ok (.invokespecial 54, 3) := by decide +kernel
theorem dX1_init_181 : decode cX1_init 181 = .ok (.aastore, 1) := by decide +kernel
theorem dX1_init_182 : decode cX1_init 182 = .ok (.iinc 1 1, 3) := by decide +kernel
theorem dX1_init_185 : decode cX1_init 185 = .ok (.goto (-21), 3) := by decide +kernel
theorem dX1_init_188 : decode cX1_init 188 = .ok (.aload_n 0, 1) := by decide +kernel
theorem dX1_init_189 : decode cX1_init 189 = .ok (.getfield 36, 3) := by decide +kernel
theorem dX1_init_192 : decode cX1_init 192 = .ok (.iconst 0, 1) := by decide +kernel
theorem dX1_init_193 : decode cX1_init 193 = .ok (.iconst 3, 1) := by decide +kernel
theorem dX1_init_194 : decode cX1_init 194 = .ok (.iastore, 1) := by decide +kernel
theorem dX1_init_195 : decode cX1_init 195 = .ok (.return_, 1) := by decide +kernel
theorem dX1_copyFrom_0 : decode cX1_copyFrom 0 = .ok (.aload_n 0, 1) := by decide +kernel
theorem dX1_copyFrom_1 : decode cX1_copyFrom 1 = .ok (.aload_n 1, 1) := by decide +kernel
theorem dX1_copyFrom_2 : decode cX1_copyFrom 2 = .ok (.getfield 9, 3) := by decide +kernel
theorem dX1_copyFrom_5 : decode cX1_copyFrom 5 = .ok (.putfield 9, 3) := by decide +kernel
theorem dX1_copyFrom_8 : decode cX1_copyFrom 8 = .ok (.aload_n 0, 1) := by decide +kernel
theorem dX1_copyFrom_9 : decode cX1_copyFrom 9 = .ok (.aload_n 1, 1) := by decide +kernel
theorem dX1_copyFrom_10 : decode cX1_copyFrom 10 = .ok (.getfield 15, 3) := by decide +kernel
theorem dX1_copyFrom_13 : decode cX1_copyFrom 13 = .ok (.putfield 15, 3) := by decide +kernel
theorem dX1_copyFrom_16 : decode cX1_copyFrom 16 = .ok (.aload_n 0, 1) := by decide +kernel
theorem dX1_copyFrom_17 : decode cX1_copyFrom 17 = .ok (.aload_n 1, 1) := by decide +kernel
theorem dX1_copyFrom_18 : decode cX1_copyFrom 18 = .ok (.getfield 18, 3) := by decide +kernel
theorem dX1_copyFrom_21 : decode cX1_copyFrom 21 = .ok (.putfield 18, 3) := by decide +kernel
theorem dX1_copyFrom_24 : decode cX1_copyFrom 24 = .ok (.aload_n 0, 1) := by decide +kernel
theorem dX1_copyFrom_25 : decode cX1_copyFrom 25 = .ok (.aload_n 1, 1) := by decide +kernel
theorem dX1_copyFrom_26 : decode cX1_copyFrom 26 = .ok (.getfield 21, 3) := by decide +kernel
theorem dX1_copyFrom_29 : decode cX1_copyFrom 29 = .ok (.putfield 21, 3) := by decide +kernel
theorem dX1_copyFrom_32 : decode cX1_copyFrom 32 = .ok (.aload_n 1, 1) := by decide +kernel
theorem dX1_copyFrom_33 : decode cX1_copyFrom 33 = .ok (.getfield 24, 3) := by decide +kernel
theorem dX1_copyFrom_36 : decode cX1_copyFrom 36 = .ok (.iconst 0, 1) := by decide +kernel
theorem dX1_copyFrom_37 : decode cX1_copyFrom 37 = .ok (.aload_n 0, 1) := by decide +kernel
theorem dX1_copyFrom_38 : decode cX1_copyFrom 38 = .ok (.getfield 24, 3) := by decide +kernel
theorem dX1_copyFrom_41 : decode cX1_copyFrom 41 = .ok (.iconst 0, 1) := by decide +kernel
theorem dX1_copyFrom_42 : decode cX1_copyFrom 42 = .ok (.bipush 24, 2) := by decide +kernel
theorem dX1_copyFrom_44 : decode cX1_copyFrom 44 = .ok (.invokestatic 55, 3) := by decide +kernel
theorem dX1_copyFrom_47 : decode cX1_copyFrom 47 = .ok (.aload_n 1, 1) := by decide +kernel
theorem dX1_copyFrom_48 : decode cX1_copyFrom 48 = .ok (.getfield 28, 3) := by decide +kernel
theorem dX1_copyFrom_51 : decode cX1_copyFrom 51 = .ok (.iconst 0, 1) := by decide +kernel
theorem dX1_copyFrom_52 : decode cX1_copyFrom 52 = .ok (.aload_n 0, 1) := by decide +kernel
theorem dX1_copyFrom_53 : decode cX1_copyFrom 53 = .ok (.getfield 28, 3) := by decide +kernel
theorem dX1_copyFrom_56 : decode cX1_copyFrom 56 = .ok (.iconst 0, 1) := by decide +kernel
theorem dX1_copyFrom_57 : decode cX1_copyFrom 57 = .ok (.bipush 24, 2) := by decide +kernel
theorem dX1_copyFrom_59 : decode cX1_copyFrom 59 = .ok (.invokestatic 55, 3) := by decide +kernel
theorem dX1_copyFrom_62 : decode cX1_copyFrom 62 = .ok (.iconst 0, 1) := by decide +kernel
theorem dX1_copyFrom_63 : decode cX1_copyFrom 63 = .ok (.istore_n 2, 1) := by decide +kernel
theorem dX1_copyFrom_64 : decode cX1_copyFrom 64 = .ok (.iload_n 2, 1) := by decide +kernel
theorem dX1_copyFrom_65 : decode cX1_copyFrom 65 = .ok (.bipush 6, 2) := by decide +kernel
theorem dX1_copyFrom_67 : decode cX1_copyFrom 67 = .ok (.if_icmp .ge 27, 3) := by decide +kernel
theorem dX1_copyFrom_70 : decode cX1_copyFrom 70 = .ok (.aload_n 1, 1) := by decide +kernel
theorem dX1_copyFrom_71 : decode cX1_copyFrom 71 = .ok (.getfield 33, 3) := by decide +kernel
theorem dX1_copyFrom_74 : decode cX1_copyFrom 74 = .ok (.iload_n 2, 1) := by decide +kernel
theorem dX1_copyFrom_75 : decode cX1_copyFrom 75 = .ok (.aaload, 1) := by decide +kernel
theorem dX1_copyFrom_76 : decode cX1_copyFrom 76 = .ok (.iconst 0, 1) := by decide +kernel
theorem dX1_copyFrom_77 : decode cX1_copyFrom 77 = .ok (.aload_n 0, 1) := by decide +kernel
theorem dX1_copyFrom_78 : decode cX1_copyFrom 78 = .ok (.getfield 33, 3) := by decide +kernel
theorem dX1_copyFrom_81 : decode cX1_copyFrom 81 = .ok (.iload_n 2, 1) := by decide +kernel
theorem dX1_copyFrom_82 : decode cX1_copyFrom 82 = .ok (.aaload, 1) := by decide +kernel
theorem dX1_copyFrom_83 : decode cX1_copyFrom 83 = .ok (.iconst 0, 1) := by decide +kernel
theorem dX1_copyFrom_84 : decode cX1_copyFrom 84 = .ok (.iconst 4, 1) := by decide +kernel
theorem dX1_copyFrom_85 : decode cX1_copyFrom 85 = .ok (.invokestatic 55, 3) := by decide +kernel
theorem dX1_copyFrom_88 : decode cX1_copyFrom 88 = .ok (.iinc 2 1, 3) := by decide +kernel
theorem dX1_copyFrom_91 : decode cX1_copyFrom 91 = .ok (.goto (-27), 3) := by decide +kernel
theorem dX1_copyFrom_94 : decode cX1_copyFrom 94 = .ok (.aload_n 1, 1) := by decide +kernel
theorem dX1_copyFrom_95 : decode cX1_copyFrom 95 = .ok (.getfield 36, 3) := by decide +kernel
theorem dX1_copyFrom_98 : decode cX1_copyFrom 98 = .ok (.iconst 0, 1) := by decide +kernel
theorem dX1_copyFrom_99 : decode cX1_copyFrom 99 = .ok (.aload_n 0, 1) := by decide +kernel
theorem dX1_copyFrom_100 : decode cX1_copyFrom 100 = .ok (.getfield 36, 3) := by decide +kernel
theorem dX1_copyFrom_103 : decode cX1_copyFrom 103 = .ok (.iconst 0, 1) := by decide +kernel
theorem dX1_copyFrom_104 : decode cX1_copyFrom 104 = .ok (.iconst 2, 1) := by decide +kernel
theorem dX1_copyFrom_105 : decode cX1_copyFrom 105 = .ok (.invokestatic 55, 3) := by decide +kernel
theorem dX1_copyFrom_108 : decode cX1_copyFrom 108 = .ok (.iconst 0, 1) := by decide +kernel
theorem dX1_copyFrom_109 : decode cX1_copyFrom 109 = .ok (.istore_n 2, 1) := by decide +kernel
theorem dX1_copyFrom_110 : decode cX1_copyFrom 110 = .ok (.iload_n 2, 1) := by decide +kernel
theorem dX1_copyFrom_111 : decode cX1_copyFrom 111 = .ok (.iconst 3, 1) := by decide +kernel
theorem dX1_copyFrom_112 : decode cX1_copyFrom 112 = .ok (.if_icmp .ge 24, 3) := by decide +kernel
theorem dX1_copyFrom_115 : decode cX1_copyFrom 115 = .ok (.aload_n 0, 1) := by decide +kernel
theorem dX1_copyFrom_116 : decode cX1_copyFrom 116 = .ok (.getfield 41, 3) := by decide +kernel
theorem dX1_copyFrom_119 : decode cX1_copyFrom 119 = .ok (.iload_n 2, 1) := by decide +kernel
theorem dX1_copyFrom_120 : decode cX1_copyFrom 120 = .ok (.aaload, 1) := by decide +kernel
theorem dX1_copyFrom_121 : decode cX1_copyFrom 121 = .ok (.aload_n 1, 1) := by decide +kernel
theorem dX1_copyFrom_122 : decode cX1_copyFrom 122 = .ok (.getfield 41, 3) := by decide +kernel
theorem dX1_copyFrom_125 : decode cX1_copyFrom 125 = .ok (.iload_n 2, 1) := by decide +kernel
theorem dX1_copyFrom_126 : decode cX1_copyFrom 126 = .ok (.aaload, 1) := by decide +kernel
theorem dX1_copyFrom_127 : decode cX1_copyFrom 127 = .ok (.invokevirtual 61, 3) := by decide +kernel
theorem dX1_copyFrom_130 : decode cX1_copyFrom 130 = .ok (.iinc 2 1, 3) := by decide +kernel
theorem dX1_copyFrom_133 : decode cX1_copyFrom 133 = .ok (.goto (-23), 3) := by decide +kernel
theorem dX1_copyFrom_136 : decode cX1_copyFrom 136 = .ok (.aload_n 1, 1) := by decide +kernel
theorem dX1_copyFrom_137 : decode cX1_copyFrom 137 = .ok (.getfield 45, 3) := by decide +kernel
theorem dX1_copyFrom_140 : decode cX1_copyFrom 140 = .ok (.iconst 0, 1) := by decide +kernel
theorem dX1_copyFrom_141 : decode cX1_copyFrom 141 = .ok (.aload_n 0, 1) := by decide +kernel
theorem dX1_copyFrom_142 : decode cX1_copyFrom 142 = .ok (.getfield 45, 3) := by decide +kernel
theorem dX1_copyFrom_145 : decode cX1_copyFrom 145 = .ok (.iconst 0, 1) := by decide +kernel
theorem dX1_copyFrom_146 : decode cX1_copyFrom 146 = .ok (.iconst 5, 1) := by decide +kernel
theorem dX1_copyFrom_147 : decode cX1_copyFrom 147 = .ok (.invokestatic 55, 3) := by decide +kernel
theorem dX1_copyFrom_150 : decode cX1_copyFrom 150 = .ok (.aload_n 1, 1) := by decide +kernel
theorem dX1_copyFrom_151 : decode cX1_copyFrom 151 = .ok (.getfield 48, 3) := by decide +kernel
theorem dX1_copyFrom_154 : decode cX1_copyFrom 154 = .ok (.iconst 0, 1) := by decide +kernel
theorem dX1_copyFrom_155 : decode cX1_copyFrom 155 = .ok (.aload_n 0, 1) := by decide +kernel
theorem dX1_copyFrom_156 : decode cX1_copyFrom 156 = .ok (.getfield 48, 3) := by decide +kernel
theorem dX1_copyFrom_159 : decode cX1_copyFrom 159 = .ok (.iconst 0, 1) := by decide +kernel
theorem dX1_copyFrom_160 : decode cX1_copyFrom 160 = .ok (.iconst 5, 1) := by decide +kernel
theorem dX1_copyFrom_161 : decode cX1_copyFrom 161 = .ok (.invokestatic 55, 3) := by decide +kernel
theorem dX1_copyFrom_164 : decode cX1_copyFrom 164 = .ok (.aload_n 1, 1) := by decide +kernel
theorem dX1_copyFrom_165 : decode cX1_copyFrom 165 = .ok (.getfield 51, 3) := by decide +kernel
theorem dX1_copyFrom_168 : decode cX1_copyFrom 168 = .ok (.iconst 0, 1) := by decide +kernel
theorem dX1_copyFrom_169 : decode cX1_copyFrom 169 = .ok (.aload_n 0, 1) := by decide +kernel
theorem dX1_copyFrom_170 : decode cX1_copyFrom 170 = .ok (.getfield 51, 3) := by decide +kernel
theorem dX1_copyFrom_173 : decode cX1_copyFrom 173 = .ok (.iconst 0, 1) := by decide +kernel
theorem dX1_copyFrom_174 : decode cX1_copyFrom 174 = .ok (.iconst 5, 1) := by decide +kernel
theorem dX1_copyFrom_175 : decode cX1_copyFrom 175 = .ok (.invokestatic 55, 3) := by decide +kernel
theorem dX1_copyFrom_178 : decode cX1_copyFrom 178 = .ok (.return_, 1) := by decide +kernel
theorem dX1_vaneAgrees_0 : decode cX1_vaneAgrees 0 = .ok (.aload_n 0, 1) := by decide +kernel
theorem dX1_vaneAgrees_1 : decode cX1_vaneAgrees 1 = .ok (.getfield 33, 3) := by decide +kernel
theorem dX1_vaneAgrees_4 : decode cX1_vaneAgrees 4 = .ok (.iload_n 1, 1) := by decide +kernel
theorem dX1_vaneAgrees_5 : decode cX1_vaneAgrees 5 = .ok (.aaload, 1) := by decide +kernel
theorem dX1_vaneAgrees_6 : decode cX1_vaneAgrees 6 = .ok (.astore_n 3, 1) := by decide +kernel
theorem dX1_vaneAgrees_7 : decode cX1_vaneAgrees 7 = .ok (.aload_n 0, 1) := by decide +kernel
theorem dX1_vaneAgrees_8 : decode cX1_vaneAgrees 8 = .ok (.getfield 28, 3) := by decide +kernel
theorem dX1_vaneAgrees_11 : decode cX1_vaneAgrees 11 = .ok (.iload_n 2, 1) := by decide +kernel
theorem dX1_vaneAgrees_12 : decode cX1_vaneAgrees 12 = .ok (.iaload, 1) := by decide +kernel
theorem dX1_vaneAgrees_13 : decode cX1_vaneAgrees 13 = .ok (.aload_n 3, 1) := by decide +kernel
theorem dX1_vaneAgrees_14 : decode cX1_vaneAgrees 14 = .ok (.iconst 2, 1) := by decide +kernel
theorem dX1_vaneAgrees_15 : decode cX1_vaneAgrees 15 = .ok (.iaload, 1) := by decide +kernel
theorem dX1_vaneAgrees_16 : decode cX1_vaneAgrees 16 = .ok (.if_icmp .ge 5, 3) := by decide +kernel
theorem dX1_vaneAgrees_19 : decode cX1_vaneAgrees 19 = .ok (.iconst 0, 1) := by decide +kernel
theorem dX1_vaneAgrees_20 : decode cX1_vaneAgrees 20 = .ok (.ireturn, 1) := by decide +kernel
theorem dX1_vaneAgrees_21 : decode cX1_vaneAgrees 21 = .ok (.aload_n 0, 1) := by decide +kernel
theorem dX1_vaneAgrees_22 : decode cX1_vaneAgrees 22 = .ok (.getfield 24, 3) := by decide +kernel
theorem dX1_vaneAgrees_25 : decode cX1_vaneAgrees 25 = .ok (.iload_n 2, 1) := by decide +kernel
theorem dX1_vaneAgrees_26 : decode cX1_vaneAgrees 26 = .ok (.iaload, 1) := by decide +kernel
theorem dX1_vaneAgrees_27 : decode cX1_vaneAgrees 27 = .ok (.aload_n 3, 1) := by decide +kernel
theorem dX1_vaneAgrees_28 : decode cX1_vaneAgrees 28 = .ok (.iconst 0, 1) := by decide +kernel
theorem dX1_vaneAgrees_29 : decode cX1_vaneAgrees 29 = .ok (.iaload, 1) := by decide +kernel
theorem dX1_vaneAgrees_30 : decode cX1_vaneAgrees 30 = .ok (.isub, 1) := by decide +kernel
theorem dX1_vaneAgrees_31 : decode cX1_vaneAgrees 31 = .ok (.istore 4, 2) := by decide +kernel
theorem dX1_vaneAgrees_33 : decode cX1_vaneAgrees 33 = .ok (.iload 4, 2) := by decide +kernel
theorem dX1_vaneAgrees_35 : decode cX1_vaneAgrees 35 = .ok (.ifCond .ge 8, 3) := by decide +kernel
theorem dX1_vaneAgrees_38 : decode cX1_vaneAgrees 38 = .ok (.iload 4, 2) := by decide +kernel
theorem dX1_vaneAgrees_40 : decode cX1_vaneAgrees 40 = .ok (.ineg, 1) := by decide +kernel
theorem dX1_vaneAgrees_41 : decode cX1_vaneAgrees 41 = .ok (.istore 4, 2) := by decide +kernel
theorem dX1_vaneAgrees_43 : decode cX1_vaneAgrees 43 = .ok (.bipush 8, 2) := by decide +kernel
theorem dX1_vaneAgrees_45 : decode cX1_vaneAgrees 45 = .ok (.iload 4, 2) := by decide +kernel
theorem dX1_vaneAgrees_47 : decode cX1_vaneAgrees 47 = .ok (.isub, 1) := by decide +kernel
theorem dX1_vaneAgrees_48 : decode cX1_vaneAgrees 48 = .ok (.istore 5, 2) := by decide +kernel
theorem dX1_vaneAgrees_50 : decode cX1_vaneAgrees 50 = .ok (.iload 4, 2) := by decide +kernel
theorem dX1_vaneAgrees_52 : decode cX1_vaneAgrees 52 = .ok (.aload_n 3, 1) := by decide +kernel
theorem dX1_vaneAgrees_53 : decode cX1_vaneAgrees 53 = .ok (.iconst 1, 1) := by decide +kernel
theorem dX1_vaneAgrees_54 : decode cX1_vaneAgrees 54 = .ok (.iaload, 1) := by decide +kernel
theorem dX1_vaneAgrees_55 : decode cX1_vaneAgrees 55 = .ok (.if_icmp .le 11, 3) := by decide +kernel
theorem dX1_vaneAgrees_58 : decode cX1_vaneAgrees 58 = .ok (.iload 5, 2) := by decide +kernel
theorem dX1_vaneAgrees_60 : decode cX1_vaneAgrees 60 = .ok (.aload_n 3, 1) := by decide +kernel
theorem dX1_vaneAgrees_61 : decode cX1_vaneAgrees 61 = .ok (.iconst 1, 1) := by decide +kernel
theorem dX1_vaneAgrees_62 : decode cX1_vaneAgrees 62 = .ok (.iaload, 1) := by decide +kernel
theorem dX1_vaneAgrees_63 : decode cX1_vaneAgrees 63 = .ok (.if_icmp .gt 7, 3) := by decide +kernel
theorem dX1_vaneAgrees_66 : decode cX1_vaneAgrees 66 = .ok (.iconst 1, 1) := by decide +kernel
theorem dX1_vaneAgrees_67 : decode cX1_vaneAgrees 67 = .ok (.goto 4, 3) := by decide +kernel
theorem dX1_vaneAgrees_70 : decode cX1_vaneAgrees 70 = .ok (.iconst 0, 1) := by decide +kernel
theorem dX1_vaneAgrees_71 : decode cX1_vaneAgrees 71 = .ok (.ireturn, 1) := by decide +kernel
theorem dX1_committee_0 : decode cX1_committee 0 = .ok (.iconst 0, 1) := by decide +kernel
theorem dX1_committee_1 : decode cX1_committee 1 = .ok (.istore_n 1, 1) := by decide +kernel
theorem dX1_committee_2 : decode cX1_committee 2 = .ok (.iconst 0, 1) := by decide +kernel
theorem dX1_committee_3 : decode cX1_committee 3 = .ok (.istore_n 2, 1) := by decide +kernel
theorem dX1_committee_4 : decode cX1_committee 4 = .ok (.iload_n 2, 1) := by decide +kernel
theorem dX1_committee_5 : decode cX1_committee 5 = .ok (.bipush 6, 2) := by decide +kernel
theorem dX1_committee_7 : decode cX1_committee 7 = .ok (.if_icmp .ge 23, 3) := by decide +kernel
theorem dX1_committee_10 : decode cX1_committee 10 = .ok (.aload_n 0, 1) := by decide +kernel
theorem dX1_committee_11 : decode cX1_committee 11 = .ok (.getfield 33, 3) := by decide +kernel
theorem dX1_committee_14 : decode cX1_committee 14 = .ok (.iload_n 2, 1) := by decide +kernel
theorem dX1_committee_15 : decode cX1_committee 15 = .ok (.aaload, 1) := by decide +kernel
theorem dX1_committee_16 : decode cX1_committee 16 = .ok (.iconst 3, 1) := by decide +kernel
theorem dX1_committee_17 : decode cX1_committee 17 = .ok (.iaload, 1) := by decide +kernel
theorem dX1_committee_18 : decode cX1_committee 18 = .ok (.ifCond .ne 6, 3) := by decide +kernel
theorem dX1_committee_21 : decode cX1_committee 21 = .ok (.iinc 1 1, 3) := by decide +kernel
theorem dX1_committee_24 : decode cX1_committee 24 = .ok (.iinc 2 1, 3) := by decide +kernel
theorem dX1_committee_27 : decode cX1_committee 27 = .ok (.goto (-23), 3) := by decide +kernel
theorem dX1_committee_30 : decode cX1_committee 30 = .ok (.iload_n 1, 1) := by decide +kernel
theorem dX1_committee_31 : decode cX1_committee 31 = .ok (.ireturn, 1) := by decide +kernel
theorem dX1_votesIn_0 : decode cX1_votesIn 0 = .ok (.iconst 0, 1) := by decide +kernel
theorem dX1_votesIn_1 : decode cX1_votesIn 1 = .ok (.istore_n 2, 1) := by decide +kernel
theorem dX1_votesIn_2 : decode cX1_votesIn 2 = .ok (.iconst 0, 1) := by decide +kernel
theorem dX1_votesIn_3 : decode cX1_votesIn 3 = .ok (.istore_n 3, 1) := by decide +kernel
theorem dX1_votesIn_4 : decode cX1_votesIn 4 = .ok (.iload_n 3, 1) := by decide +kernel
theorem dX1_votesIn_5 : decode cX1_votesIn 5 = .ok (.bipush 6, 2) := by decide +kernel
theorem dX1_votesIn_7 : decode cX1_votesIn 7 = .ok (.if_icmp .ge 32, 3) := by decide +kernel
theorem dX1_votesIn_10 : decode cX1_votesIn 10 = .ok (.aload_n 0, 1) := by decide +kernel
theorem dX1_votesIn_11 : decode cX1_votesIn 11 = .ok (.getfield 33, 3) := by decide +kernel
theorem dX1_votesIn_14 : decode cX1_votesIn 14 = .ok (.iload_n 3, 1) := by decide +kernel
theorem dX1_votesIn_15 : decode cX1_votesIn 15 = .ok (.aaload, 1) := by decide +kernel
theorem dX1_votesIn_16 : decode cX1_votesIn 16 = .ok (.iconst 3, 1) := by decide +kernel
theorem dX1_votesIn_17 : decode cX1_votesIn 17 = .ok (.iaload, 1) := by decide +kernel
theorem dX1_votesIn_18 : decode cX1_votesIn 18 = .ok (.ifCond .ne 15, 3) := by decide +kernel
theorem dX1_votesIn_21 : decode cX1_votesIn 21 = .ok (.aload_n 0, 1) := by decide +kernel
theorem dX1_votesIn_22 : decode cX1_votesIn 22 = .ok (.iload_n 3, 1) := by decide +kernel
theorem dX1_votesIn_23 : decode cX1_votesIn 23 = .ok (.iload_n 1, 1) := by decide +kernel
theorem dX1_votesIn_24 : decode cX1_votesIn 24 = .ok (.invokevirtual 65, 3) := by decide +kernel
theorem dX1_votesIn_27 : decode cX1_votesIn 27 = .ok (.ifCond .eq 6, 3) := by decide +kernel
theorem dX1_votesIn_30 : decode cX1_votesIn 30 = .ok (.iinc 2 1, 3) := by decide +kernel
theorem dX1_votesIn_33 : decode cX1_votesIn 33 = .ok (.iinc 3 1, 3) := by decide +kernel
theorem dX1_votesIn_36 : decode cX1_votesIn 36 = .ok (.goto (-32), 3) := by decide +kernel
theorem dX1_votesIn_39 : decode cX1_votesIn 39 = .ok (.iload_n 2, 1) := by decide +kernel
theorem dX1_votesIn_40 : decode cX1_votesIn 40 = .ok (.ireturn, 1) := by decide +kernel
theorem dX1_verdictOf_0 : decode cX1_verdictOf 0 = .ok (.iload_n 1, 1) := by decide +kernel
theorem dX1_verdictOf_1 : decode cX1_verdictOf 1 = .ok (.aload_n 0, 1) := by decide +kernel
theorem dX1_verdictOf_2 : decode cX1_verdictOf 2 = .ok (.getfield 36, 3) := by decide +kernel
theorem dX1_verdictOf_5 : decode cX1_verdictOf 5 = .ok (.iconst 0, 1) := by decide +kernel
theorem dX1_verdictOf_6 : decode cX1_verdictOf 6 = .ok (.iaload, 1) := by decide +kernel
theorem dX1_verdictOf_7 : decode cX1_verdictOf 7 = .ok (.if_icmp .ge 5, 3) := by decide +kernel
theorem dX1_verdictOf_10 : decode cX1_verdictOf 10 = .ok (.iconst 1, 1) := by decide +kernel
theorem dX1_verdictOf_11 : decode cX1_verdictOf 11 = .ok (.ireturn, 1) := by decide +kernel
theorem dX1_verdictOf_12 : decode cX1_verdictOf 12 = .ok (.iconst 2, 1) := by decide +kernel
theorem dX1_verdictOf_13 : decode cX1_verdictOf 13 = .ok (.iload_n 2, 1) := by decide +kernel
theorem dX1_verdictOf_14 : decode cX1_verdictOf 14 = .ok (.imul, 1) := by decide +kernel
theorem dX1_verdictOf_15 : decode cX1_verdictOf 15 = .ok (.iload_n 1, 1) := by decide +kernel
theorem dX1_verdictOf_16 : decode cX1_verdictOf 16 = .ok (.if_icmp .gt 20, 3) := by decide +kernel
theorem dX1_verdictOf_19 : decode cX1_verdictOf 19 = .ok (.iconst 2, 1) := by decide +kernel
theorem dX1_verdictOf_20 : decode cX1_verdictOf 20 = .ok (.iload_n 2, 1) := by decide +kernel
theorem dX1_verdictOf_21 : decode cX1_verdictOf 21 = .ok (.imul, 1) := by decide +kernel
theorem dX1_verdictOf_22 : decode cX1_verdictOf 22 = .ok (.iload_n 1, 1) := by decide +kernel
theorem dX1_verdictOf_23 : decode cX1_verdictOf 23 = .ok (.if_icmp .ne 15, 3) := by decide +kernel
theorem dX1_verdictOf_26 : decode cX1_verdictOf 26 = .ok (.aload_n 0, 1) := by decide +kernel
theorem dX1_verdictOf_27 : decode cX1_verdictOf 27 = .ok (.getfield 36, 3) := by decide +kernel
theorem dX1_verdictOf_30 : decode cX1_verdictOf 30 = .ok (.iconst 1, 1) := by decide +kernel
theorem dX1_verdictOf_31 : decode cX1_verdictOf 31 = .ok (.iaload, 1) := by decide +kernel
theorem dX1_verdictOf_32 : decode cX1_verdictOf 32 = .ok (.iconst 1, 1) := by decide +kernel
theorem dX1_verdictOf_33 : decode cX1_verdictOf 33 = .ok (.if_icmp .ne 5, 3) := by decide +kernel
theorem dX1_verdictOf_36 : decode cX1_verdictOf 36 = .ok (.iconst 0, 1) := by decide +kernel
theorem dX1_verdictOf_37 : decode cX1_verdictOf 37 = .ok (.ireturn, 1) := by decide +kernel
theorem dX1_verdictOf_38 : decode cX1_verdictOf 38 = .ok (.iconst 2, 1) := by decide +kernel
theorem dX1_verdictOf_39 : decode cX1_verdictOf 39 = .ok (.ireturn, 1) := by decide +kernel
theorem dX1_verdictIn_0 : decode cX1_verdictIn 0 = .ok (.aload_n 0, 1) := by decide +kernel
theorem dX1_verdictIn_1 : decode cX1_verdictIn 1 = .ok (.aload_n 0, 1) := by decide +kernel
theorem dX1_verdictIn_2 : decode cX1_verdictIn 2 = .ok (.invokevirtual 69, 3) := by decide +kernel
theorem dX1_verdictIn_5 : decode cX1_verdictIn 5 = .ok (.aload_n 0, 1) := by decide +kernel
theorem dX1_verdictIn_6 : decode cX1_verdictIn 6 = .ok (.iload_n 1, 1) := by decide +kernel
theorem dX1_verdictIn_7 : decode cX1_verdictIn 7 = .ok (.invokevirtual 73, 3) := by decide +kernel
theorem dX1_verdictIn_10 : decode cX1_verdictIn 10 = .ok (.invokevirtual 77, 3) := by decide +kernel
theorem dX1_verdictIn_13 : decode cX1_verdictIn 13 = .ok (.ireturn, 1) := by decide +kernel
theorem dX1_agreeingHours_0 : decode cX1_agreeingHours 0 = .ok (.iconst 0, 1) := by decide +kernel
theorem dX1_agreeingHours_1 : decode cX1_agreeingHours 1 = .ok (.istore_n 1, 1) := by decide +kernel
theorem dX1_agreeingHours_2 : decode cX1_agreeingHours 2 = .ok (.iconst 0, 1) := by decide +kernel
theorem dX1_agreeingHours_3 : decode cX1_agreeingHours 3 = .ok (.istore_n 2, 1) := by decide +kernel
theorem dX1_agreeingHours_4 : decode cX1_agreeingHours 4 = .ok (.iload_n 2, 1) := by decide +kernel
theorem dX1_agreeingHours_5 : decode cX1_agreeingHours 5 = .ok (.bipush 24, 2) := by decide +kernel
theorem dX1_agreeingHours_7 : decode cX1_agreeingHours 7 = .ok (.if_icmp .ge 20, 3) := by decide +kernel
theorem dX1_agreeingHours_10 : decode cX1_agreeingHours 10 = .ok (.aload_n 0, 1) := by decide +kernel
theorem dX1_agreeingHours_11 : decode cX1_agreeingHours 11 = .ok (.iload_n 2, 1) := by decide +kernel
theorem dX1_agreeingHours_12 : decode cX1_agreeingHours 12 = .ok (.invokevirtual 81, 3) := by decide +kernel
theorem dX1_agreeingHours_15 : decode cX1_agreeingHours 15 = .ok (.ifCond .ne 6, 3) := by decide +kernel
theorem dX1_agreeingHours_18 : decode cX1_agreeingHours 18 = .ok (.iinc 1 1, 3) := by decide +kernel
theorem dX1_agreeingHours_21 : decode cX1_agreeingHours 21 = .ok (.iinc 2 1, 3) := by decide +kernel
theorem dX1_agreeingHours_24 : decode cX1_agreeingHours 24 = .ok (.goto (-20), 3) := by decide +kernel
theorem dX1_agreeingHours_27 : decode cX1_agreeingHours 27 = .ok (.iload_n 1, 1) := by decide +kernel
theorem dX1_agreeingHours_28 : decode cX1_agreeingHours 28 = .ok (.ireturn, 1) := by decide +kernel
theorem dX1_hoursOfVane_0 : decode cX1_hoursOfVane 0 = .ok (.iconst 0, 1) := by decide +kernel
theorem dX1_hoursOfVane_1 : decode cX1_hoursOfVane 1 = .ok (.istore_n 2, 1) := by decide +kernel
theorem dX1_hoursOfVane_2 : decode cX1_hoursOfVane 2 = .ok (.iconst 0, 1) := by decide +kernel
theorem dX1_hoursOfVane_3 : decode cX1_hoursOfVane 3 = .ok (.istore_n 3, 1) := by decide +kernel
theorem dX1_hoursOfVane_4 : decode cX1_hoursOfVane 4 = .ok (.iload_n 3, 1) := by decide +kernel
theorem dX1_hoursOfVane_5 : decode cX1_hoursOfVane 5 = .ok (.bipush 24, 2) := by decide +kernel
theorem dX1_hoursOfVane_7 : decode cX1_hoursOfVane 7 = .ok (.if_icmp .ge 21, 3) := by decide +kernel
theorem dX1_hoursOfVane_10 : decode cX1_hoursOfVane 10 = .ok (.aload_n 0, 1) := by decide +kernel
theorem dX1_hoursOfVane_11 : decode cX1_hoursOfVane 11 = .ok (.iload_n 1, 1) := by decide +kernel
theorem dX1_hoursOfVane_12 : decode cX1_hoursOfVane 12 = .ok (.iload_n 3, 1) := by decide +kernel
theorem dX1_hoursOfVane_13 : decode cX1_hoursOfVane 13 = .ok (.invokevirtual 65, 3) := by decide +kernel
theorem dX1_hoursOfVane_16 : decode cX1_hoursOfVane 16 = .ok (.ifCond .eq 6, 3) := by decide +kernel
theorem dX1_hoursOfVane_19 : decode cX1_hoursOfVane 19 = .ok (.iinc 2 1, 3) := by decide +kernel
theorem dX1_hoursOfVane_22 : decode cX1_hoursOfVane 22 = .ok (.iinc 3 1, 3) := by decide +kernel
theorem dX1_hoursOfVane_25 : decode cX1_hoursOfVane 25 = .ok (.goto (-21), 3) := by decide +kernel
theorem dX1_hoursOfVane_28 : decode cX1_hoursOfVane 28 = .ok (.iload_n 2, 1) := by decide +kernel
theorem dX1_hoursOfVane_29 : decode cX1_hoursOfVane 29 = .ok (.ireturn, 1) := by decide +kernel
theorem dX1_hoursTurnedBy_0 : decode cX1_hoursTurnedBy 0 = .ok (.aload_n 0, 1) := by decide +kernel
theorem dX1_hoursTurnedBy_1 : decode cX1_hoursTurnedBy 1 = .ok (.getfield 33, 3) := by decide +kernel
theorem dX1_hoursTurnedBy_4 : decode cX1_hoursTurnedBy 4 = .ok (.iload_n 1, 1) := by decide +kernel
theorem dX1_hoursTurnedBy_5 : decode cX1_hoursTurnedBy 5 = .ok (.aaload, 1) := by decide +kernel
theorem dX1_hoursTurnedBy_6 : decode cX1_hoursTurnedBy 6 = .ok (.iconst 3, 1) := by decide +kernel
theorem dX1_hoursTurnedBy_7 : decode cX1_hoursTurnedBy 7 = .ok (.iaload, 1) := by decide +kernel
theorem dX1_hoursTurnedBy_8 : decode cX1_hoursTurnedBy 8 = .ok (.iconst 1, 1) := by decide +kernel
theorem dX1_hoursTurnedBy_9 : decode cX1_hoursTurnedBy 9 = .ok (.if_icmp .ne 7, 3) := by decide +kernel
theorem dX1_hoursTurnedBy_12 : decode cX1_hoursTurnedBy 12 = .ok (.iconst 1, 1) := by decide +kernel
theorem dX1_hoursTurnedBy_13 : decode cX1_hoursTurnedBy 13 = .ok (.goto 4, 3) := by decide +kernel
theorem dX1_hoursTurnedBy_16 : decode cX1_hoursTurnedBy 16 = .ok (.iconst (-1), 1) := by decide +kernel
theorem dX1_hoursTurnedBy_17 : decode cX1_hoursTurnedBy 17 = .ok (.istore_n 2, 1) := by decide +kernel
theorem dX1_hoursTurnedBy_18 : decode cX1_hoursTurnedBy 18 = .ok (.aload_n 0, 1) := by decide +kernel
theorem dX1_hoursTurnedBy_19 : decode cX1_hoursTurnedBy 19 = .ok (.invokevirtual 69, 3) := by decide +kernel
theorem dX1_hoursTurnedBy_22 : decode cX1_hoursTurnedBy 22 = .ok (.istore_n 3, 1) := by decide +kernel
theorem dX1_hoursTurnedBy_23 : decode cX1_hoursTurnedBy 23 = .ok (.iconst 0, 1) := by decide +kernel
theorem dX1_hoursTurnedBy_24 : decode cX1_hoursTurnedBy 24 = .ok (.istore 4, 2) := by decide +kernel
theorem dX1_hoursTurnedBy_26 : decode cX1_hoursTurnedBy 26 = .ok (.iconst 0, 1) := by decide +kernel
theorem dX1_hoursTurnedBy_27 : decode cX1_hoursTurnedBy 27 = .ok (.istore 5, 2) := by decide +kernel
theorem dX1_hoursTurnedBy_29 : decode cX1_hoursTurnedBy 29 = .ok (.iload 5, 2) := by decide +kernel
theorem dX1_hoursTurnedBy_31 : decode cX1_hoursTurnedBy 31 = .ok (.bipush 24, 2) := by decide +kernel
theorem dX1_hoursTurnedBy_33 : decode cX1_hoursTurnedBy 33 = .ok (.if_icmp .ge 84, 3) := by decide +kernel
theorem dX1_hoursTurnedBy_36 : decode cX1_hoursTurnedBy 36 = .ok (.aload_n 0, 1) := by decide +kernel
theorem dX1_hoursTurnedBy_37 : decode cX1_hoursTurnedBy 37 = .ok (.iload 5, 2) := by decide +kernel
theorem dX1_hoursTurnedBy_39 : decode cX1_hoursTurnedBy 39 = .ok (.invokevirtual 73, 3) := by decide +kernel
theorem dX1_hoursTurnedBy_42 : decode cX1_hoursTurnedBy 42 = .ok (.istore 6, 2) := by decide +kernel
theorem dX1_hoursTurnedBy_44 : decode cX1_hoursTurnedBy 44 = .ok (.aload_n 0, 1) := by decide +kernel
theorem dX1_hoursTurnedBy_45 : decode cX1_hoursTurnedBy 45 = .ok (.iload_n 1, 1) := by decide +kernel
theorem dX1_hoursTurnedBy_46 : decode cX1_hoursTurnedBy 46 = .ok (.iload 5, 2) := by decide +kernel
theorem dX1_hoursTurnedBy_48 : decode cX1_hoursTurnedBy 48 = .ok (.invokevirtual 65, 3) := by decide +kernel
theorem dX1_hoursTurnedBy_51 : decode cX1_hoursTurnedBy 51 = .ok (.ifCond .eq 10, 3) := by decide +kernel
theorem dX1_hoursTurnedBy_54 : decode cX1_hoursTurnedBy 54 = .ok (.iload 6, 2) := by decide +kernel
theorem dX1_hoursTurnedBy_56 : decode cX1_hoursTurnedBy 56 = .ok (.iload_n 2, 1) := by decide +kernel
theorem dX1_hoursTurnedBy_57 : decode cX1_hoursTurnedBy 57 = .ok (.iadd, 1) := by decide +kernel
theorem dX1_hoursTurnedBy_58 : decode cX1_hoursTurnedBy 58 = .ok (.goto 5, 3) := by decide +kernel
theorem dX1_hoursTurnedBy_61 : decode cX1_hoursTurnedBy 61 = .ok (.iload 6, 2) := by decide +kernel
theorem dX1_hoursTurnedBy_63 : decode cX1_hoursTurnedBy 63 = .ok (.istore 7, 2) := by decide +kernel
theorem dX1_hoursTurnedBy_65 : decode cX1_hoursTurnedBy 65 = .ok (.aload_n 0, 1) := by decide +kernel
theorem dX1_hoursTurnedBy_66 : decode cX1_hoursTurnedBy 66 = .ok (.iload_n 3, 1) := by decide +kernel
theorem dX1_hoursTurnedBy_67 : decode cX1_hoursTurnedBy 67 = .ok (.iload 6, 2) := by decide +kernel
theorem dX1_hoursTurnedBy_69 : decode cX1_hoursTurnedBy 69 = .ok (.invokevirtual 77, 3) := by decide +kernel
theorem dX1_hoursTurnedBy_72 : decode cX1_hoursTurnedBy 72 = .ok (.ifCond .ne 7, 3) := by decide +kernel
theorem dX1_hoursTurnedBy_75 : decode cX1_hoursTurnedBy 75 = .ok (.iconst 1, 1) := by decide +kernel
theorem dX1_hoursTurnedBy_76 : decode cX1_hoursTurnedBy 76 = .ok (.goto 4, 3) := by decide +kernel
theorem dX1_hoursTurnedBy_79 : decode cX1_hoursTurnedBy 79 = .ok (.iconst 0, 1) := by decide +kernel
theorem dX1_hoursTurnedBy_80 : decode cX1_hoursTurnedBy 80 = .ok (.istore 8, 2) := by decide +kernel
theorem dX1_hoursTurnedBy_82 : decode cX1_hoursTurnedBy 82 = .ok (.aload_n 0, 1) := by decide +kernel
theorem dX1_hoursTurnedBy_83 : decode cX1_hoursTurnedBy 83 = .ok (.iload_n 3, 1) := by decide +kernel
theorem dX1_hoursTurnedBy_84 : decode cX1_hoursTurnedBy 84 = .ok (.iload_n 2, 1) := by decide +kernel
theorem dX1_hoursTurnedBy_85 : decode cX1_hoursTurnedBy 85 = .ok (.iadd, 1) := by decide +kernel
theorem dX1_hoursTurnedBy_86 : decode cX1_hoursTurnedBy 86 = .ok (.iload 7, 2) := by decide +kernel
theorem dX1_hoursTurnedBy_88 : decode cX1_hoursTurnedBy 88 = .ok (.invokevirtual 77, 3) := by decide +kernel
theorem dX1_hoursTurnedBy_91 : decode cX1_hoursTurnedBy 91 = .ok (.ifCond .ne 7, 3) := by decide +kernel
theorem dX1_hoursTurnedBy_94 : decode cX1_hoursTurnedBy 94 = .ok (.iconst 1, 1) := by decide +kernel
theorem dX1_hoursTurnedBy_95 : decode cX1_hoursTurnedBy 95 = .ok (.goto 4, 3) := by decide +kernel
theorem dX1_hoursTurnedBy_98 : decode cX1_hoursTurnedBy 98 = .ok (.iconst 0, 1) := by decide +kernel
theorem dX1_hoursTurnedBy_99 : decode cX1_hoursTurnedBy 99 = .ok (.istore 9, 2) := by decide +kernel
theorem dX1_hoursTurnedBy_101 : decode cX1_hoursTurnedBy 101 = .ok (.iload 8, 2) := by decide +kernel
theorem dX1_hoursTurnedBy_103 : decode cX1_hoursTurnedBy 103 = .ok (.iload 9, 2) := by decide +kernel
theorem dX1_hoursTurnedBy_105 : decode cX1_hoursTurnedBy 105 = .ok (.if_icmp .eq 6, 3) := by decide +kernel
theorem dX1_hoursTurnedBy_108 : decode cX1_hoursTurnedBy 108 = .ok (.iinc 4 1, 3) := by decide +kernel
theorem dX1_hoursTurnedBy_111 : decode cX1_hoursTurnedBy 111 = .ok (.iinc 5 1, 3) := by decide +kernel
theorem dX1_hoursTurnedBy_114 : decode cX1_hoursTurnedBy 114 = .ok (.goto (-85), 3) := by decide +kernel
theorem dX1_hoursTurnedBy_117 : decode cX1_hoursTurnedBy 117 = .ok (.iload 4, 2) := by decide +kernel
theorem dX1_hoursTurnedBy_119 : decode cX1_hoursTurnedBy 119 = .ok (.ireturn, 1) := by decide +kernel
theorem dX1_sacksGroundIn_0 : decode cX1_sacksGroundIn 0 = .ok (.aload_n 0, 1) := by decide +kernel
theorem dX1_sacksGroundIn_1 : decode cX1_sacksGroundIn 1 = .ok (.iload_n 1, 1) := by decide +kernel
theorem dX1_sacksGroundIn_2 : decode cX1_sacksGroundIn 2 = .ok (.invokevirtual 81, 3) := by decide +kernel
theorem dX1_sacksGroundIn_5 : decode cX1_sacksGroundIn 5 = .ok (.ifCond .eq 5, 3) := by decide +kernel
theorem dX1_sacksGroundIn_8 : decode cX1_sacksGroundIn 8 = .ok (.iconst 0, 1) := by decide +kernel
theorem dX1_sacksGroundIn_9 : decode cX1_sacksGroundIn 9 = .ok (.ireturn, 1) := by decide +kernel
theorem dX1_sacksGroundIn_10 : decode cX1_sacksGroundIn 10 = .ok (.iconst 0, 1) := by decide +kernel
theorem dX1_sacksGroundIn_11 : decode cX1_sacksGroundIn 11 = .ok (.istore_n 2, 1) := by decide +kernel
theorem dX1_sacksGroundIn_12 : decode cX1_sacksGroundIn 12 = .ok (.iconst 0, 1) := by decide +kernel
theorem dX1_sacksGroundIn_13 : decode cX1_sacksGroundIn 13 = .ok (.istore_n 3, 1) := by decide +kernel
theorem dX1_sacksGroundIn_14 : decode cX1_sacksGroundIn 14 = .ok (.iload_n 3, 1) := by decide +kernel
theorem dX1_sacksGroundIn_15 : decode cX1_sacksGroundIn 15 = .ok (.iconst 3, 1) := by decide +kernel
theorem dX1_sacksGroundIn_16 : decode cX1_sacksGroundIn 16 = .ok (.if_icmp .ge 30, 3) := by decide +kernel
theorem dX1_sacksGroundIn_19 : decode cX1_sacksGroundIn 19 = .ok (.iload_n 2, 1) := by decide +kernel
theorem dX1_sacksGroundIn_20 : decode cX1_sacksGroundIn 20 = .ok (.aload_n 0, 1) := by decide +kernel
theorem dX1_sacksGroundIn_21 : decode cX1_sacksGroundIn 21 = .ok (.getfield 41, 3) := by decide +kernel
theorem dX1_sacksGroundIn_24 : decode cX1_sacksGroundIn 24 = .ok (.iload_n 3, 1) := by decide +kernel
theorem dX1_sacksGroundIn_25 : decode cX1_sacksGroundIn 25 = .ok (.aaload, 1) := by decide +kernel
theorem dX1_sacksGroundIn_26 : decode cX1_sacksGroundIn 26 = .ok (.getfield 84, 3) := by decide +kernel
theorem dX1_sacksGroundIn_29 : decode cX1_sacksGroundIn 29 = .ok (.aload_n 0, 1) := by decide +kernel
theorem dX1_sacksGroundIn_30 : decode cX1_sacksGroundIn 30 = .ok (.getfield 28, 3) := by decide +kernel
theorem dX1_sacksGroundIn_33 : decode cX1_sacksGroundIn 33 = .ok (.iload_n 1, 1) := by decide +kernel
theorem dX1_sacksGroundIn_34 : decode cX1_sacksGroundIn 34 = .ok (.iaload, 1) := by decide +kernel
theorem dX1_sacksGroundIn_35 : decode cX1_sacksGroundIn 35 = .ok (.imul, 1) := by decide +kernel
theorem dX1_sacksGroundIn_36 : decode cX1_sacksGroundIn 36 = .ok (.iconst 4, 1) := by decide +kernel
theorem dX1_sacksGroundIn_37 : decode cX1_sacksGroundIn 37 = .ok (.idiv, 1) := by decide +kernel
theorem dX1_sacksGroundIn_38 : decode cX1_sacksGroundIn 38 = .ok (.iadd, 1) := by decide +kernel
theorem dX1_sacksGroundIn_39 : decode cX1_sacksGroundIn 39 = .ok (.istore_n 2, 1) := by decide +kernel
theorem dX1_sacksGroundIn_40 : decode cX1_sacksGroundIn 40 = .ok (.iinc 3 1, 3) := by decide +kernel
theorem dX1_sacksGroundIn_43 : decode cX1_sacksGroundIn 43 = .ok (.goto (-29), 3) := by decide +kernel
theorem dX1_sacksGroundIn_46 : decode cX1_sacksGroundIn 46 = .ok (.iload_n 2, 1) := by decide +kernel
theorem dX1_sacksGroundIn_47 : decode cX1_sacksGroundIn 47 = .ok (.ireturn, 1) := by decide +kernel
theorem dX1_fillRates_0 : decode cX1_fillRates 0 = .ok (.iconst 0, 1) := by decide +kernel
theorem dX1_fillRates_1 : decode cX1_fillRates 1 = .ok (.istore_n 3, 1) := by decide +kernel
theorem dX1_fillRates_2 : decode cX1_fillRates 2 = .ok (.iconst 0, 1) := by decide +kernel
theorem dX1_fillRates_3 : decode cX1_fillRates 3 = .ok (.istore 4, 2) := by decide +kernel
theorem dX1_fillRates_5 : decode cX1_fillRates 5 = .ok (.iload 4, 2) := by decide +kernel
theorem dX1_fillRates_7 : decode cX1_fillRates 7 = .ok (.bipush 24, 2) := by decide +kernel
theorem dX1_fillRates_9 : decode cX1_fillRates 9 = .ok (.if_icmp .ge 47, 3) := by decide +kernel
theorem dX1_fillRates_12 : decode cX1_fillRates 12 = .ok (.aload_n 2, 1) := by decide +kernel
theorem dX1_fillRates_13 : decode cX1_fillRates 13 = .ok (.iload 4, 2) := by decide +kernel
theorem dX1_fillRates_15 : decode cX1_fillRates 15 = .ok (.aload_n 0, 1) := by decide +kernel
theorem dX1_fillRates_16 : decode cX1_fillRates 16 = .ok (.iload 4, 2) := by decide +kernel
theorem dX1_fillRates_18 : decode cX1_fillRates 18 = .ok (.invokevirtual 81, 3) := by decide +kernel
theorem dX1_fillRates_21 : decode cX1_fillRates 21 = .ok (.ifCond .ne 20, 3) := by decide +kernel
theorem dX1_fillRates_24 : decode cX1_fillRates 24 = .ok (.aload_n 1, 1) := by decide +kernel
theorem dX1_fillRates_25 : decode cX1_fillRates 25 = .ok (.getfield 84, 3) := by decide +kernel
theorem dX1_fillRates_28 : decode cX1_fillRates 28 = .ok (.aload_n 0, 1) := by decide +kernel
theorem dX1_fillRates_29 : decode cX1_fillRates 29 = .ok (.getfield 28, 3) := by decide +kernel
theorem dX1_fillRates_32 : decode cX1_fillRates 32 = .ok (.iload 4, 2) := by decide +kernel
theorem dX1_fillRates_34 : decode cX1_fillRates 34 = .ok (.iaload, 1) := by decide +kernel
theorem dX1_fillRates_35 : decode cX1_fillRates 35 = .ok (.imul, 1) := by decide +kernel
theorem dX1_fillRates_36 : decode cX1_fillRates 36 = .ok (.iconst 4, 1) := by decide +kernel
theorem dX1_fillRates_37 : decode cX1_fillRates 37 = .ok (.idiv, 1) := by decide +kernel
theorem dX1_fillRates_38 : decode cX1_fillRates 38 = .ok (.goto 4, 3) := by decide +kernel
theorem dX1_fillRates_41 : decode cX1_fillRates 41 = .ok (.iconst 0, 1) := by decide +kernel
theorem dX1_fillRates_42 : decode cX1_fillRates 42 = .ok (.iastore, 1) := by decide +kernel
theorem dX1_fillRates_43 : decode cX1_fillRates 43 = .ok (.iload_n 3, 1) := by decide +kernel
theorem dX1_fillRates_44 : decode cX1_fillRates 44 = .ok (.aload_n 2, 1) := by decide +kernel
theorem dX1_fillRates_45 : decode cX1_fillRates 45 = .ok (.iload 4, 2) := by decide +kernel
theorem dX1_fillRates_47 : decode cX1_fillRates 47 = .ok (.iaload, 1) := by decide +kernel
theorem dX1_fillRates_48 : decode cX1_fillRates 48 = .ok (.iadd, 1) := by decide +kernel
theorem dX1_fillRates_49 : decode cX1_fillRates 49 = .ok (.istore_n 3, 1) := by decide +kernel
theorem dX1_fillRates_50 : decode cX1_fillRates 50 = .ok (.iinc 4 1, 3) := by decide +kernel
theorem dX1_fillRates_53 : decode cX1_fillRates 53 = .ok (.goto (-48), 3) := by decide +kernel
theorem dX1_fillRates_56 : decode cX1_fillRates 56 = .ok (.iload_n 3, 1) := by decide +kernel
theorem dX1_fillRates_57 : decode cX1_fillRates 57 = .ok (.ireturn, 1) := by decide +kernel
theorem dX1_passHour_0 : decode cX1_passHour 0 = .ok (.iconst 0, 1) := by decide +kernel
theorem dX1_passHour_1 : decode cX1_passHour 1 = .ok (.istore_n 1, 1) := by decide +kernel
theorem dX1_passHour_2 : decode cX1_passHour 2 = .ok (.aload_n 0, 1) := by decide +kernel
theorem dX1_passHour_3 : decode cX1_passHour 3 = .ok (.aload_n 0, 1) := by decide +kernel
theorem dX1_passHour_4 : decode cX1_passHour 4 = .ok (.getfield 9, 3) := by decide +kernel
theorem dX1_passHour_7 : decode cX1_passHour 7 = .ok (.invokevirtual 81, 3) := by decide +kernel
theorem dX1_passHour_10 : decode cX1_passHour 10 = .ok (.ifCond .ne 60, 3) := by decide +kernel
theorem dX1_passHour_13 : decode cX1_passHour 13 = .ok (.aload_n 0, 1) := by decide +kernel
theorem dX1_passHour_14 : decode cX1_passHour 14 = .ok (.dup, 1) := by decide +kernel
theorem dX1_passHour_15 : decode cX1_passHour 15 = .ok (.getfield 18, 3) := by decide +kernel
theorem dX1_passHour_18 : decode cX1_passHour 18 = .ok (.iconst 1, 1) := by decide +kernel
theorem dX1_passHour_19 : decode cX1_passHour 19 = .ok (.iadd, 1) := by decide +kernel
theorem dX1_passHour_20 : decode cX1_passHour 20 = .ok (.putfield 18, 3) := by decide +kernel
theorem dX1_passHour_23 : decode cX1_passHour 23 = .ok (.iconst 0, 1) := by decide +kernel
theorem dX1_passHour_24 : decode cX1_passHour 24 = .ok (.istore_n 2, 1) := by decide +kernel
theorem dX1_passHour_25 : decode cX1_passHour 25 = .ok (.iload_n 2, 1) := by decide +kernel
theorem dX1_passHour_26 : decode cX1_passHour 26 = .ok (.iconst 3, 1) := by decide +kernel
theorem dX1_passHour_27 : decode cX1_passHour 27 = .ok (.if_icmp .ge 43, 3) := by decide +kernel
theorem dX1_passHour_30 : decode cX1_passHour 30 = .ok (.aload_n 0, 1) := by decide +kernel
theorem dX1_passHour_31 : decode cX1_passHour 31 = .ok (.getfield 41, 3) := by decide +kernel
theorem dX1_passHour_34 : decode cX1_passHour 34 = .ok (.iload_n 2, 1) := by decide +kernel
theorem dX1_passHour_35 : decode cX1_passHour 35 = .ok (.aaload, 1) := by decide +kernel
theorem dX1_passHour_36 : decode cX1_passHour 36 = .ok (.astore_n 3, 1) := by decide +kernel
theorem dX1_passHour_37 : decode cX1_passHour 37 = .ok (.iload_n 1, 1) := by decide +kernel
theorem dX1_passHour_38 : decode cX1_passHour 38 = .ok (.aload_n 3, 1) := by decide +kernel
theorem dX1_passHour_39 : decode cX1_passHour 39 = .ok (.aload_n 3, 1) := by decide +kernel
theorem dX1_passHour_40 : decode cX1_passHour 40 = .ok (.getfield 84, 3) := by decide +kernel
theorem dX1_passHour_43 : decode cX1_passHour 43 = .ok (.aload_n 0, 1) := by decide +kernel
theorem dX1_passHour_44 : decode cX1_passHour 44 = .ok (.getfield 28, 3) := by decide +kernel
theorem dX1_passHour_47 : decode cX1_passHour 47 = .ok (.aload_n 0, 1) := by decide +kernel
theorem dX1_passHour_48 : decode cX1_passHour 48 = .ok (.getfield 9, 3) := by decide +kernel
theorem dX1_passHour_51 : decode cX1_passHour 51 = .ok (.iaload, 1) := by decide +kernel
theorem dX1_passHour_52 : decode cX1_passHour 52 = .ok (.imul, 1) := by decide +kernel
theorem dX1_passHour_53 : decode cX1_passHour 53 = .ok (.iconst 4, 1) := by decide +kernel
theorem dX1_passHour_54 : decode cX1_passHour 54 = .ok (.idiv, 1) := by decide +kernel
theorem dX1_passHour_55 : decode cX1_passHour 55 = .ok (.aload_n 0, 1) := by decide +kernel
theorem dX1_passHour_56 : decode cX1_passHour 56 = .ok (.getfield 45, 3) := by decide +kernel
theorem dX1_passHour_59 : decode cX1_passHour 59 = .ok (.invokevirtual 87, 3) := by decide +kernel
theorem dX1_passHour_62 : decode cX1_passHour 62 = .ok (.iadd, 1) := by decide +kernel
theorem dX1_passHour_63 : decode cX1_passHour 63 = .ok (.istore_n 1, 1) := by decide +kernel
theorem dX1_passHour_64 : decode cX1_passHour 64 = .ok (.iinc 2 1, 3) := by decide +kernel
theorem dX1_passHour_67 : decode cX1_passHour 67 = .ok (.goto (-42), 3) := by decide +kernel
theorem dX1_passHour_70 : decode cX1_passHour 70 = .ok (.aload_n 0, 1) := by decide +kernel
theorem dX1_passHour_71 : decode cX1_passHour 71 = .ok (.dup, 1) := by decide +kernel
theorem dX1_passHour_72 : decode cX1_passHour 72 = .ok (.getfield 15, 3) := by decide +kernel
theorem dX1_passHour_75 : decode cX1_passHour 75 = .ok (.iconst 1, 1) := by decide +kernel
theorem dX1_passHour_76 : decode cX1_passHour 76 = .ok (.iadd, 1) := by decide +kernel
theorem dX1_passHour_77 : decode cX1_passHour 77 = .ok (.putfield 15, 3) := by decide +kernel
theorem dX1_passHour_80 : decode cX1_passHour 80 = .ok (.aload_n 0, 1) := by decide +kernel
theorem dX1_passHour_81 : decode cX1_passHour 81 = .ok (.aload_n 0, 1) := by decide +kernel
theorem dX1_passHour_82 : decode cX1_passHour 82 = .ok (.getfield 9, 3) := by decide +kernel
theorem dX1_passHour_85 : decode cX1_passHour 85 = .ok (.iconst 1, 1) := by decide +kernel
theorem dX1_passHour_86 : decode cX1_passHour 86 = .ok (.iadd, 1) := by decide +kernel
theorem dX1_passHour_87 : decode cX1_passHour 87 = .ok (.bipush 24, 2) := by decide +kernel
theorem dX1_passHour_89 : decode cX1_passHour 89 = .ok (.if_icmp .ge 12, 3) := by decide +kernel
theorem dX1_passHour_92 : decode cX1_passHour 92 = .ok (.aload_n 0, 1) := by decide +kernel
theorem dX1_passHour_93 : decode cX1_passHour 93 = .ok (.getfield 9, 3) := by decide +kernel
theorem dX1_passHour_96 : decode cX1_passHour 96 = .ok (.iconst 1, 1) := by decide +kernel
theorem dX1_passHour_97 : decode cX1_passHour 97 = .ok (.iadd, 1) := by decide +kernel
theorem dX1_passHour_98 : decode cX1_passHour 98 = .ok (.goto 4, 3) := by decide +kernel
theorem dX1_passHour_101 : decode cX1_passHour 101 = .ok (.iconst 0, 1) := by decide +kernel
theorem dX1_passHour_102 : decode cX1_passHour 102 = .ok (.putfield 9, 3) := by decide +kernel
theorem dX1_passHour_105 : decode cX1_passHour 105 = .ok (.iload_n 1, 1) := by decide +kernel
theorem dX1_passHour_106 : decode cX1_passHour 106 = .ok (.ireturn, 1) := by decide +kernel
theorem dX1_sacksWaiting_0 : decode cX1_sacksWaiting 0 = .ok (.iconst 0, 1) := by decide +kernel
theorem dX1_sacksWaiting_1 : decode cX1_sacksWaiting 1 = .ok (.istore_n 1, 1) := by decide +kernel
theorem dX1_sacksWaiting_2 : decode cX1_sacksWaiting 2 = .ok (.iconst 0, 1) := by decide +kernel
theorem dX1_sacksWaiting_3 : decode cX1_sacksWaiting 3 = .ok (.istore_n 2, 1) := by decide +kernel
theorem dX1_sacksWaiting_4 : decode cX1_sacksWaiting 4 = .ok (.iload_n 2, 1) := by decide +kernel
theorem dX1_sacksWaiting_5 : decode cX1_sacksWaiting 5 = .ok (.iconst 3, 1) := by decide +kernel
theorem dX1_sacksWaiting_6 : decode cX1_sacksWaiting 6 = .ok (.if_icmp .ge 21, 3) := by decide +kernel
theorem dX1_sacksWaiting_9 : decode cX1_sacksWaiting 9 = .ok (.iload_n 1, 1) := by decide +kernel
theorem dX1_sacksWaiting_10 : decode cX1_sacksWaiting 10 = .ok (.aload_n 0, 1) := by decide +kernel
theorem dX1_sacksWaiting_11 : decode cX1_sacksWaiting 11 = .ok (.getfield 41, 3) := by decide +kernel
theorem dX1_sacksWaiting_14 : decode cX1_sacksWaiting 14 = .ok (.iload_n 2, 1) := by decide +kernel
theorem dX1_sacksWaiting_15 : decode cX1_sacksWaiting 15 = .ok (.aaload, 1) := by decide +kernel
theorem dX1_sacksWaiting_16 : decode cX1_sacksWaiting 16 = .ok (.invokevirtual 91, 3) := by decide +kernel
theorem dX1_sacksWaiting_19 : decode cX1_sacksWaiting 19 = .ok (.iadd, 1) := by decide +kernel
theorem dX1_sacksWaiting_20 : decode cX1_sacksWaiting 20 = .ok (.istore_n 1, 1) := by decide +kernel
theorem dX1_sacksWaiting_21 : decode cX1_sacksWaiting 21 = .ok (.iinc 2 1, 3) := by decide +kernel
theorem dX1_sacksWaiting_24 : decode cX1_sacksWaiting 24 = .ok (.goto (-20), 3) := by decide +kernel
theorem dX1_sacksWaiting_27 : decode cX1_sacksWaiting 27 = .ok (.iload_n 1, 1) := by decide +kernel
theorem dX1_sacksWaiting_28 : decode cX1_sacksWaiting 28 = .ok (.ireturn, 1) := by decide +kernel
theorem dX1_sacksWaitingOf_0 : decode cX1_sacksWaitingOf 0 = .ok (.iconst 0, 1) := by decide +kernel
theorem dX1_sacksWaitingOf_1 : decode cX1_sacksWaitingOf 1 = .ok (.istore_n 2, 1) := by decide +kernel
theorem dX1_sacksWaitingOf_2 : decode cX1_sacksWaitingOf 2 = .ok (.iconst 0, 1) := by decide +kernel
theorem dX1_sacksWaitingOf_3 : decode cX1_sacksWaitingOf 3 = .ok (.istore_n 3, 1) := by decide +kernel
theorem dX1_sacksWaitingOf_4 : decode cX1_sacksWaitingOf 4 = .ok (.iload_n 3, 1) := by decide +kernel
theorem dX1_sacksWaitingOf_5 : decode cX1_sacksWaitingOf 5 = .ok (.iconst 3, 1) := by decide +kernel
theorem dX1_sacksWaitingOf_6 : decode cX1_sacksWaitingOf 6 = .ok (.if_icmp .ge 22, 3) := by decide +kernel
theorem dX1_sacksWaitingOf_9 : decode cX1_sacksWaitingOf 9 = .ok (.iload_n 2, 1) := by decide +kernel
theorem dX1_sacksWaitingOf_10 : decode cX1_sacksWaitingOf 10 = .ok (.aload_n 0, 1) := by decide +kernel
theorem dX1_sacksWaitingOf_11 : decode cX1_sacksWaitingOf 11 = .ok (.getfield 41, 3) := by decide +kernel
theorem dX1_sacksWaitingOf_14 : decode cX1_sacksWaitingOf 14 = .ok (.iload_n 3, 1) := by decide +kernel
theorem dX1_sacksWaitingOf_15 : decode cX1_sacksWaitingOf 15 = .ok (.aaload, 1) := by decide +kernel
theorem dX1_sacksWaitingOf_16 : decode cX1_sacksWaitingOf 16 = .ok (.iload_n 1, 1) := by decide +kernel
theorem dX1_sacksWaitingOf_17 : decode cX1_sacksWaitingOf 17 = .ok (.invokevirtual 94, 3) := by decide +kernel
theorem dX1_sacksWaitingOf_20 : decode cX1_sacksWaitingOf 20 = .ok (.iadd, 1) := by decide +kernel
theorem dX1_sacksWaitingOf_21 : decode cX1_sacksWaitingOf 21 = .ok (.istore_n 2, 1) := by decide +kernel
theorem dX1_sacksWaitingOf_22 : decode cX1_sacksWaitingOf 22 = .ok (.iinc 3 1, 3) := by decide +kernel
theorem dX1_sacksWaitingOf_25 : decode cX1_sacksWaitingOf 25 = .ok (.goto (-21), 3) := by decide +kernel
theorem dX1_sacksWaitingOf_28 : decode cX1_sacksWaitingOf 28 = .ok (.iload_n 2, 1) := by decide +kernel
theorem dX1_sacksWaitingOf_29 : decode cX1_sacksWaitingOf 29 = .ok (.ireturn, 1) := by decide +kernel
theorem dX1_flourOfAll_0 : decode cX1_flourOfAll 0 = .ok (.iconst 0, 1) := by decide +kernel
theorem dX1_flourOfAll_1 : decode cX1_flourOfAll 1 = .ok (.istore_n 1, 1) := by decide +kernel
theorem dX1_flourOfAll_2 : decode cX1_flourOfAll 2 = .ok (.iconst 0, 1) := by decide +kernel
theorem dX1_flourOfAll_3 : decode cX1_flourOfAll 3 = .ok (.istore_n 2, 1) := by decide +kernel
theorem dX1_flourOfAll_4 : decode cX1_flourOfAll 4 = .ok (.iload_n 2, 1) := by decide +kernel
theorem dX1_flourOfAll_5 : decode cX1_flourOfAll 5 = .ok (.iconst 5, 1) := by decide +kernel
theorem dX1_flourOfAll_6 : decode cX1_flourOfAll 6 = .ok (.if_icmp .ge 18, 3) := by decide +kernel
theorem dX1_flourOfAll_9 : decode cX1_flourOfAll 9 = .ok (.iload_n 1, 1) := by decide +kernel
theorem dX1_flourOfAll_10 : decode cX1_flourOfAll 10 = .ok (.aload_n 0, 1) := by decide +kernel
theorem dX1_flourOfAll_11 : decode cX1_flourOfAll 11 = .ok (.getfield 45, 3) := by decide +kernel
theorem dX1_flourOfAll_14 : decode cX1_flourOfAll 14 = .ok (.iload_n 2, 1) := by decide +kernel
theorem dX1_flourOfAll_15 : decode cX1_flourOfAll 15 = .ok (.iaload, 1) := by decide +kernel
theorem dX1_flourOfAll_16 : decode cX1_flourOfAll 16 = .ok (.iadd, 1) := by decide +kernel
theorem dX1_flourOfAll_17 : decode cX1_flourOfAll 17 = .ok (.istore_n 1, 1) := by decide +kernel
theorem dX1_flourOfAll_18 : decode cX1_flourOfAll 18 = .ok (.iinc 2 1, 3) := by decide +kernel
theorem dX1_flourOfAll_21 : decode cX1_flourOfAll 21 = .ok (.goto (-17), 3) := by decide +kernel
theorem dX1_flourOfAll_24 : decode cX1_flourOfAll 24 = .ok (.iload_n 1, 1) := by decide +kernel
theorem dX1_flourOfAll_25 : decode cX1_flourOfAll 25 = .ok (.ireturn, 1) := by decide +kernel
theorem dX2_init_0 : decode cX2_init 0 = .ok (.aload_n 0, 1) := by decide +kernel
theorem dX2_init_1 : decode cX2_init 1 = .ok (.invokespecial 3, 3) := by decide +kernel
theorem dX2_init_4 : decode cX2_init 4 = .ok (.aload_n 0, 1) := by decide +kernel
theorem dX2_init_5 : decode cX2_init 5 = .ok (.bipush 60, 2) := by decide +kernel
theorem dX2_init_7 : decode cX2_init 7 = .ok (.newarray .int, 2) := by decide +kernel
theorem dX2_init_9 : decode cX2_init 9 = .ok (.putfield 9, 3) := by decide +kernel
theorem dX2_init_12 : decode cX2_init 12 = .ok (.aload_n 0, 1) := by decide +kernel
theorem dX2_init_13 : decode cX2_init 13 = .ok (.iconst 0, 1) := by decide +kernel
theorem dX2_init_14 : decode cX2_init 14 = .ok (.putfield 15, 3) := by decide +kernel
theorem dX2_init_17 : decode cX2_init 17 = .ok (.return_, 1) := by decide +kernel
theorem dX2_firstWrong_0 : decode cX2_firstWrong 0 = .ok (.iconst 0, 1) := by decide +kernel
theorem dX2_firstWrong_1 : decode cX2_firstWrong 1 = .ok (.istore_n 1, 1) := by decide +kernel
theorem dX2_firstWrong_2 : decode cX2_firstWrong 2 = .ok (.iconst 0, 1) := by decide +kernel
theorem dX2_firstWrong_3 : decode cX2_firstWrong 3 = .ok (.istore_n 2, 1) := by decide +kernel
theorem dX2_firstWrong_4 : decode cX2_firstWrong 4 = .ok (.iload_n 2, 1) := by decide +kernel
theorem dX2_firstWrong_5 : decode cX2_firstWrong 5 = .ok (.aload_n 0, 1) := by decide +kernel
theorem dX2_firstWrong_6 : decode cX2_firstWrong 6 = .ok (.getfield 15, 3) := by decide +kernel
theorem dX2_firstWrong_9 : decode cX2_firstWrong 9 = .ok (.if_icmp .ge 27, 3) := by decide +kernel
theorem dX2_firstWrong_12 : decode cX2_firstWrong 12 = .ok (.iload_n 1, 1) := by decide +kernel
theorem dX2_firstWrong_13 : decode cX2_firstWrong 13 = .ok (.aload_n 0, 1) := by decide +kernel
theorem dX2_firstWrong_14 : decode cX2_firstWrong 14 = .ok (.getfield 9, 3) := by decide +kernel
theorem dX2_firstWrong_17 : decode cX2_firstWrong 17 = .ok (.iload_n 2, 1) := by decide +kernel
theorem dX2_firstWrong_18 : decode cX2_firstWrong 18 = .ok (.iaload, 1) := by decide +kernel
theorem dX2_firstWrong_19 : decode cX2_firstWrong 19 = .ok (.invokestatic 19, 3) := by decide +kernel
theorem dX2_firstWrong_22 : decode cX2_firstWrong 22 = .ok (.istore_n 1, 1) := by decide +kernel
theorem dX2_firstWrong_23 : decode cX2_firstWrong 23 = .ok (.iload_n 1, 1) := by decide +kernel
theorem dX2_firstWrong_24 : decode cX2_firstWrong 24 = .ok (.iconst (-1), 1) := by decide +kernel
theorem dX2_firstWrong_25 : decode cX2_firstWrong 25 = .ok (.if_icmp .ne 5, 3) := by decide +kernel
theorem dX2_firstWrong_28 : decode cX2_firstWrong 28 = .ok (.iload_n 2, 1) := by decide +kernel
theorem dX2_firstWrong_29 : decode cX2_firstWrong 29 = .ok (.ireturn, 1) := by decide +kernel
theorem dX2_firstWrong_30 : decode cX2_firstWrong 30 = .ok (.iinc 2 1, 3) := by decide +kernel
theorem dX2_firstWrong_33 : decode cX2_firstWrong 33 = .ok (.goto (-29), 3) := by decide +kernel
theorem dX2_firstWrong_36 : decode cX2_firstWrong 36 = .ok (.aload_n 0, 1) := by decide +kernel
theorem dX2_firstWrong_37 : decode cX2_firstWrong 37 = .ok (.getfield 15, 3) := by decide +kernel
theorem dX2_firstWrong_40 : decode cX2_firstWrong 40 = .ok (.ireturn, 1) := by decide +kernel
theorem dX2_isWhole_0 : decode cX2_isWhole 0 = .ok (.iconst 0, 1) := by decide +kernel
theorem dX2_isWhole_1 : decode cX2_isWhole 1 = .ok (.istore_n 1, 1) := by decide +kernel
theorem dX2_isWhole_2 : decode cX2_isWhole 2 = .ok (.iconst 0, 1) := by decide +kernel
theorem dX2_isWhole_3 : decode cX2_isWhole 3 = .ok (.istore_n 2, 1) := by decide +kernel
theorem dX2_isWhole_4 : decode cX2_isWhole 4 = .ok (.iload_n 2, 1) := by decide +kernel
theorem dX2_isWhole_5 : decode cX2_isWhole 5 = .ok (.aload_n 0, 1) := by decide +kernel
theorem dX2_isWhole_6 : decode cX2_isWhole 6 = .ok (.getfield 15, 3) := by decide +kernel
theorem dX2_isWhole_9 : decode cX2_isWhole 9 = .ok (.if_icmp .ge 25, 3) := by decide +kernel
theorem dX2_isWhole_12 : decode cX2_isWhole 12 = .ok (.iload_n 1, 1) := by decide +kernel
theorem dX2_isWhole_13 : decode cX2_isWhole 13 = .ok (.iconst (-1), 1) := by decide +kernel
theorem dX2_isWhole_14 : decode cX2_isWhole 14 = .ok (.if_icmp .eq 20, 3) := by decide +kernel
theorem dX2_isWhole_17 : decode cX2_isWhole 17 = .ok (.iload_n 1, 1) := by decide +kernel
theorem dX2_isWhole_18 : decode cX2_isWhole 18 = .ok (.aload_n 0, 1) := by decide +kernel
theorem dX2_isWhole_19 : decode cX2_isWhole 19 = .ok (.getfield 9, 3) := by decide +kernel
theorem dX2_isWhole_22 : decode cX2_isWhole 22 = .ok (.iload_n 2, 1) := by decide +kernel
theorem dX2_isWhole_23 : decode cX2_isWhole 23 = .ok (.iaload, 1) := by decide +kernel
theorem dX2_isWhole_24 : decode cX2_isWhole 24 = .ok (.invokestatic 19, 3) := by decide +kernel
theorem dX2_isWhole_27 : decode cX2_isWhole 27 = .ok (.istore_n 1, 1) := by decide +kernel
theorem dX2_isWhole_28 : decode cX2_isWhole 28 = .ok (.iinc 2 1, 3) := by decide +kernel
theorem dX2_isWhole_31 : decode cX2_isWhole 31 = .ok (.goto (-27), 3) := by decide +kernel
theorem dX2_isWhole_34 : decode cX2_isWhole 34 = .ok (.iload_n 1, 1) := by decide +kernel
theorem dX2_isWhole_35 : decode cX2_isWhole 35 = .ok (.bipush 6, 2) := by decide +kernel
theorem dX2_isWhole_37 : decode cX2_isWhole 37 = .ok (.if_icmp .ne 7, 3) := by decide +kernel
theorem dX2_isWhole_40 : decode cX2_isWhole 40 = .ok (.iconst 1, 1) := by decide +kernel
theorem dX2_isWhole_41 : decode cX2_isWhole 41 = .ok (.goto 4, 3) := by decide +kernel
theorem dX2_isWhole_44 : decode cX2_isWhole 44 = .ok (.iconst 0, 1) := by decide +kernel
theorem dX2_isWhole_45 : decode cX2_isWhole 45 = .ok (.ireturn, 1) := by decide +kernel
theorem dX2_blowInto_0 : decode cX2_blowInto 0 = .ok (.iconst 0, 1) := by decide +kernel
theorem dX2_blowInto_1 : decode cX2_blowInto 1 = .ok (.istore_n 2, 1) := by decide +kernel
theorem dX2_blowInto_2 : decode cX2_blowInto 2 = .ok (.iconst 0, 1) := by decide +kernel
theorem dX2_blowInto_3 : decode cX2_blowInto 3 = .ok (.istore_n 3, 1) := by decide +kernel
theorem dX2_blowInto_4 : decode cX2_blowInto 4 = .ok (.iconst 0, 1) := by decide +kernel
theorem dX2_blowInto_5 : decode cX2_blowInto 5 = .ok (.istore 4, 2) := by decide +kernel
theorem dX2_blowInto_7 : decode cX2_blowInto 7 = .ok (.iconst 0, 1) := by decide +kernel
theorem dX2_blowInto_8 : decode cX2_blowInto 8 = .ok (.istore 5, 2) := by decide +kernel
theorem dX2_blowInto_10 : decode cX2_blowInto 10 = .ok (.iload 5, 2) := by decide +kernel
theorem dX2_blowInto_12 : decode cX2_blowInto 12 = .ok (.aload_n 0, 1) := by decide +kernel
theorem dX2_blowInto_13 : decode cX2_blowInto 13 = .ok (.getfield 15, 3) := by decide +kernel
theorem dX2_blowInto_16 : decode cX2_blowInto 16 = .ok (.if_icmp .ge 105, 3) := by decide +kernel
theorem dX2_blowInto_19 : decode cX2_blowInto 19 = .ok (.aload_n 0, 1) := by decide +kernel
theorem dX2_blowInto_20 : decode cX2_blowInto 20 = .ok (.getfield 9, 3) := by decide +kernel
theorem dX2_blowInto_23 : decode cX2_blowInto 23 = .ok (.iload 5, 2) := by decide +kernel
theorem dX2_blowInto_25 : decode cX2_blowInto 25 = .ok (.iaload, 1) := by decide +kernel
theorem dX2_blowInto_26 : decode cX2_blowInto 26 = .ok (.istore 6, 2) := by decide +kernel
theorem dX2_blowInto_28 : decode cX2_blowInto 28 = .ok (.iload_n 2, 1) := by decide +kernel
theorem dX2_blowInto_29 : decode cX2_blowInto 29 = .ok (.ifCond .ne 12, 3) := by decide +kernel
theorem dX2_blowInto_32 : decode cX2_blowInto 32 = .ok (.iload 6, 2) := by decide +kernel
theorem dX2_blowInto_34 : decode cX2_blowInto 34 = .ok (.bipush 48, 2) := by decide +kernel
theorem dX2_blowInto_36 : decode cX2_blowInto 36 = .ok (.isub, 1) := by decide +kernel
theorem dX2_blowInto_37 : decode cX2_blowInto 37 = .ok (.istore_n 3, 1) := by decide +kernel
theorem dX2_blowInto_38 : decode cX2_blowInto 38 = .ok (.goto 70, 3) := by decide +kernel
theorem dX2_blowInto_41 : decode cX2_blowInto 41 = .ok (.iload_n 2, 1) := by decide +kernel
theorem dX2_blowInto_42 : decode cX2_blowInto 42 = .ok (.iconst 4, 1) := by decide +kernel
theorem dX2_blowInto_43 : decode cX2_blowInto 43 = .ok (.if_icmp .ne 13, 3) := by decide +kernel
theorem dX2_blowInto_46 : decode cX2_blowInto 46 = .ok (.iload 6, 2) := by decide +kernel
theorem dX2_blowInto_48 : decode cX2_blowInto 48 = .ok (.bipush 48, 2) := by decide +kernel
theorem dX2_blowInto_50 : decode cX2_blowInto 50 = .ok (.isub, 1) := by decide +kernel
theorem dX2_blowInto_51 : decode cX2_blowInto 51 = .ok (.istore 4, 2) := by decide +kernel
theorem dX2_blowInto_53 : decode cX2_blowInto 53 = .ok (.goto 55, 3) := by decide +kernel
theorem dX2_blowInto_56 : decode cX2_blowInto 56 = .ok (.iload_n 2, 1) := by decide +kernel
theorem dX2_blowInto_57 : decode cX2_blowInto 57 = .ok (.iconst 5, 1) := by decide +kernel
theorem dX2_blowInto_58 : decode cX2_blowInto 58 = .ok (.if_icmp .ne 25, 3) := by decide +kernel
theorem dX2_blowInto_61 : decode cX2_blowInto 61 = .ok (.aload_n 1, 1) := by decide +kernel
theorem dX2_blowInto_62 : decode cX2_blowInto 62 = .ok (.getfield 23, 3) := by decide +kernel
theorem dX2_blowInto_65 : decode cX2_blowInto 65 = .ok (.iload_n 3, 1) := by decide +kernel
theorem dX2_blowInto_66 : decode cX2_blowInto 66 = .ok (.iload 4, 2) := by decide +kernel
theorem dX2_blowInto_68 : decode cX2_blowInto 68 = .ok (.iastore, 1) := by decide +kernel
theorem dX2_blowInto_69 : decode cX2_blowInto 69 = .ok (.aload_n 1, 1) := by decide +kernel
theorem dX2_blowInto_70 : decode cX2_blowInto 70 = .ok (.getfield 28, 3) := by decide +kernel
theorem dX2_blowInto_73 : decode cX2_blowInto 73 = .ok (.iload_n 3, 1) := by decide +kernel
theorem dX2_blowInto_74 : decode cX2_blowInto 74 = .ok (.iload 6, 2) := by decide +kernel
theorem dX2_blowInto_76 : decode cX2_blowInto 76 = .ok (.bipush 48, 2) := by decide +kernel
theorem dX2_blowInto_78 : decode cX2_blowInto 78 = .ok (.isub, 1) := by decide +kernel
theorem dX2_blowInto_79 : decode cX2_blowInto 79 = .ok (.iastore, 1) := by decide +kernel
theorem dX2_blowInto_80 : decode cX2_blowInto 80 = .ok (.goto 28, 3) := by decide +kernel
theorem dX2_blowInto_83 : decode cX2_blowInto 83 = .ok (.iload 6, 2) := by decide +kernel
theorem dX2_blowInto_85 : decode cX2_blowInto 85 = .ok (.bipush 48, 2) := by decide +kernel
theorem dX2_blowInto_87 : decode cX2_blowInto 87 = .ok (.if_icmp .lt 21, 3) := by decide +kernel
theorem dX2_blowInto_90 : decode cX2_blowInto 90 = .ok (.iload 6, 2) := by decide +kernel
theorem dX2_blowInto_92 : decode cX2_blowInto 92 = .ok (.bipush 57, 2) := by decide +kernel
theorem dX2_blowInto_94 : decode cX2_blowInto 94 = .ok (.if_icmp .gt 14, 3) := by decide +kernel
theorem dX2_blowInto_97 : decode cX2_blowInto 97 = .ok (.bipush 10, 2) := by decide +kernel
theorem dX2_blowInto_99 : decode cX2_blowInto 99 = .ok (.iload_n 3, 1) := by decide +kernel
theorem dX2_blowInto_100 : decode cX2_blowInto 100 = .ok (.imul, 1) := by decide +kernel
theorem dX2_blowInto_101 : decode cX2_blowInto 101 = .ok (.iload 6, 2) := by decide +kernel
theorem dX2_blowInto_103 : decode cX2_blowInto 103 = .ok (.iadd, 1) := by decide +kernel
theorem dX2_blowInto_104 : decode cX2_blowInto 104 = .ok (.bipush 48, 2) := by decide +kernel
theorem dX2_blowInto_106 : decode cX2_blowInto 106 = .ok (.isub, 1) := by decide +kernel
theorem dX2_blowInto_107 : decode cX2_blowInto 107 = .ok (.istore_n 3, 1) := by decide +kernel
theorem dX2_blowInto_108 : decode cX2_blowInto 108 = .ok (.iload_n 2, 1) := by decide +kernel
theorem dX2_blowInto_109 : decode cX2_blowInto 109 = .ok (.iload 6, 2) := by decide +kernel
theorem dX2_blowInto_111 : decode cX2_blowInto 111 = .ok (.invokestatic 19, 3) := by decide +kernel
theorem dX2_blowInto_114 : decode cX2_blowInto 114 = .ok (.istore_n 2, 1) := by decide +kernel
theorem dX2_blowInto_115 : decode cX2_blowInto 115 = .ok (.iinc 5 1, 3) := by decide +kernel
theorem dX2_blowInto_118 : decode cX2_blowInto 118 = .ok (.goto (-108), 3) := by decide +kernel
theorem dX2_blowInto_121 : decode cX2_blowInto 121 = .ok (.return_, 1) := by decide +kernel
theorem dX2_placeAfter_0 : decode cX2_placeAfter 0 = .ok (.iload_n 0, 1) := by decide +kernel
theorem dX2_placeAfter_1 : decode cX2_placeAfter 1 = .ok (.tableswitch 144 0 6 #[43, 48, 69, 90, 95, 113, 132], 43) := by decide +kernel
theorem dX2_placeAfter_44 : decode cX2_placeAfter 44 = .ok (.iload_n 1, 1) := by decide +kernel
theorem dX2_placeAfter_45 : decode cX2_placeAfter 45 = .ok (.invokestatic 31, 3) := by decide +kernel
theorem dX2_placeAfter_48 : decode cX2_placeAfter 48 = .ok (.ireturn, 1) := by decide +kernel
theorem dX2_placeAfter_49 : decode cX2_placeAfter 49 = .ok (.iload_n 1, 1) := by decide +kernel
theorem dX2_placeAfter_50 : decode cX2_placeAfter 50 = .ok (.bipush 48, 2) := by decide +kernel
theorem dX2_placeAfter_52 : decode cX2_placeAfter 52 = .ok (.if_icmp .lt 13, 3) := by decide +kernel
theorem dX2_placeAfter_55 : decode cX2_placeAfter 55 = .ok (.iload_n 1, 1) := by decide +kernel
theorem dX2_placeAfter_56 : decode cX2_placeAfter 56 = .ok (.bipush 57, 2) := by decide +kernel
theorem dX2_placeAfter_58 : decode cX2_placeAfter 58 = .ok (.if_icmp .gt 7, 3) := by decide +kernel
theorem dX2_placeAfter_61 : decode cX2_placeAfter 61 = .ok (.iconst 3, 1) := by decide +kernel
theorem dX2_placeAfter_62 : decode cX2_placeAfter 62 = .ok (.goto 7, 3) := by decide +kernel
theorem dX2_placeAfter_65 : decode cX2_placeAfter 65 = .ok (.iload_n 1, 1) := by decide +kernel
theorem dX2_placeAfter_66 : decode cX2_placeAfter 66 = .ok (.invokestatic 35, 3) := by decide +kernel
theorem dX2_placeAfter_69 : decode cX2_placeAfter 69 = .ok (.ireturn, 1) := by decide +kernel
theorem dX2_placeAfter_70 : decode cX2_placeAfter 70 = .ok (.iload_n 1, 1) := by decide +kernel
theorem dX2_placeAfter_71 : decode cX2_placeAfter 71 = .ok (.bipush 48, 2) := by decide +kernel
theorem dX2_placeAfter_73 : decode cX2_placeAfter 73 = .ok (.if_icmp .lt 13, 3) := by decide +kernel
theorem dX2_placeAfter_76 : decode cX2_placeAfter 76 = .ok (.iload_n 1, 1) := by decide +kernel
theorem dX2_placeAfter_77 : decode cX2_placeAfter 77 = .ok (.bipush 51, 2) := by decide +kernel
theorem dX2_placeAfter_79 : decode cX2_placeAfter 79 = .ok (.if_icmp .gt 7, 3) := by decide +kernel
theorem dX2_placeAfter_82 : decode cX2_placeAfter 82 = .ok (.iconst 3, 1) := by decide +kernel
theorem dX2_placeAfter_83 : decode cX2_placeAfter 83 = .ok (.goto 7, 3) := by decide +kernel
theorem dX2_placeAfter_86 : decode cX2_placeAfter 86 = .ok (.iload_n 1, 1) := by decide +kernel
theorem dX2_placeAfter_87 : decode cX2_placeAfter 87 = .ok (.invokestatic 35, 3) := by decide +kernel
theorem dX2_placeAfter_90 : decode cX2_placeAfter 90 = .ok (.ireturn, 1) := by decide +kernel
theorem dX2_placeAfter_91 : decode cX2_placeAfter 91 = .ok (.iload_n 1, 1) := by decide +kernel
theorem dX2_placeAfter_92 : decode cX2_placeAfter 92 = .ok (.invokestatic 35, 3) := by decide +kernel
theorem dX2_placeAfter_95 : decode cX2_placeAfter 95 = .ok (.ireturn, 1) := by decide +kernel
theorem dX2_placeAfter_96 : decode cX2_placeAfter 96 = .ok (.iload_n 1, 1) := by decide +kernel
theorem dX2_placeAfter_97 : decode cX2_placeAfter 97 = .ok (.bipush 48, 2) := by decide +kernel
theorem dX2_placeAfter_99 : decode cX2_placeAfter 99 = .ok (.if_icmp .lt 13, 3) := by decide +kernel
theorem dX2_placeAfter_102 : decode cX2_placeAfter 102 = .ok (.iload_n 1, 1) := by decide +kernel
theorem dX2_placeAfter_103 : decode cX2_placeAfter 103 = .ok (.bipush 55, 2) := by decide +kernel
theorem dX2_placeAfter_105 : decode cX2_placeAfter 105 = .ok (.if_icmp .gt 7, 3) := by decide +kernel
theorem dX2_placeAfter_108 : decode cX2_placeAfter 108 = .ok (.iconst 5, 1) := by decide +kernel
theorem dX2_placeAfter_109 : decode cX2_placeAfter 109 = .ok (.goto 4, 3) := by decide +kernel
theorem dX2_placeAfter_112 : decode cX2_placeAfter 112 = .ok (.iconst (-1), 1) := by decide +kernel
theorem dX2_placeAfter_113 : decode cX2_placeAfter 113 = .ok (.ireturn, 1) := by decide +kernel
theorem dX2_placeAfter_114 : decode cX2_placeAfter 114 = .ok (.iload_n 1, 1) := by decide +kernel
theorem dX2_placeAfter_115 : decode cX2_placeAfter 115 = .ok (.bipush 48, 2) := by decide +kernel
theorem dX2_placeAfter_117 : decode cX2_placeAfter 117 = .ok (.if_icmp .lt 14, 3) := by decide +kernel
theorem dX2_placeAfter_120 : decode cX2_placeAfter 120 = .ok (.iload_n 1, 1) := by decide +kernel
theorem dX2_placeAfter_121 : decode cX2_placeAfter 121 = .ok (.bipush 57, 2) := by decide +kernel
theorem dX2_placeAfter_123 : decode cX2_placeAfter 123 = .ok (.if_icmp .gt 8, 3) := by decide +kernel
theorem dX2_placeAfter_126 : decode cX2_placeAfter 126 = .ok (.bipush 6, 2) := by decide +kernel
theorem dX2_placeAfter_128 : decode cX2_placeAfter 128 = .ok (.goto 4, 3) := by decide +kernel
theorem dX2_placeAfter_131 : decode cX2_placeAfter 131 = .ok (.iconst (-1), 1) := by decide +kernel
theorem dX2_placeAfter_132 : decode cX2_placeAfter 132 = .ok (.ireturn, 1) := by decide +kernel
theorem dX2_placeAfter_133 : decode cX2_placeAfter 133 = .ok (.iload_n 1, 1) := by decide +kernel
theorem dX2_placeAfter_134 : decode cX2_placeAfter 134 = .ok (.bipush 59, 2) := by decide +kernel
theorem dX2_placeAfter_136 : decode cX2_placeAfter 136 = .ok (.if_icmp .ne 7, 3) := by decide +kernel
theorem dX2_placeAfter_139 : decode cX2_placeAfter 139 = .ok (.iconst 0, 1) := by decide +kernel
theorem dX2_placeAfter_140 : decode cX2_placeAfter 140 = .ok (.goto 4, 3) := by decide +kernel
theorem dX2_placeAfter_143 : decode cX2_placeAfter 143 = .ok (.iconst (-1), 1) := by decide +kernel
theorem dX2_placeAfter_144 : decode cX2_placeAfter 144 = .ok (.ireturn, 1) := by decide +kernel
theorem dX2_placeAfter_145 : decode cX2_placeAfter 145 = .ok (.iconst (-1), 1) := by decide +kernel
theorem dX2_placeAfter_146 : decode cX2_placeAfter 146 = .ok (.ireturn, 1) := by decide +kernel
theorem dX2_afterFirstDigit_0 : decode cX2_afterFirstDigit 0 = .ok (.iload_n 0, 1) := by decide +kernel
theorem dX2_afterFirstDigit_1 : decode cX2_afterFirstDigit 1 = .ok (.bipush 49, 2) := by decide +kernel
theorem dX2_afterFirstDigit_3 : decode cX2_afterFirstDigit 3 = .ok (.if_icmp .ne 5, 3) := by decide +kernel
theorem dX2_afterFirstDigit_6 : decode cX2_afterFirstDigit 6 = .ok (.iconst 1, 1) := by decide +kernel
theorem dX2_afterFirstDigit_7 : decode cX2_afterFirstDigit 7 = .ok (.ireturn, 1) := by decide +kernel
theorem dX2_afterFirstDigit_8 : decode cX2_afterFirstDigit 8 = .ok (.iload_n 0, 1) := by decide +kernel
theorem dX2_afterFirstDigit_9 : decode cX2_afterFirstDigit 9 = .ok (.bipush 50, 2) := by decide +kernel
theorem dX2_afterFirstDigit_11 : decode cX2_afterFirstDigit 11 = .ok (.if_icmp .ne 5, 3) := by decide +kernel
theorem dX2_afterFirstDigit_14 : decode cX2_afterFirstDigit 14 = .ok (.iconst 2, 1) := by decide +kernel
theorem dX2_afterFirstDigit_15 : decode cX2_afterFirstDigit 15 = .ok (.ireturn, 1) := by decide +kernel
theorem dX2_afterFirstDigit_16 : decode cX2_afterFirstDigit 16 = .ok (.iload_n 0, 1) := by decide +kernel
theorem dX2_afterFirstDigit_17 : decode cX2_afterFirstDigit 17 = .ok (.bipush 48, 2) := by decide +kernel
theorem dX2_afterFirstDigit_19 : decode cX2_afterFirstDigit 19 = .ok (.if_icmp .lt 13, 3) := by decide +kernel
theorem dX2_afterFirstDigit_22 : decode cX2_afterFirstDigit 22 = .ok (.iload_n 0, 1) := by decide +kernel
theorem dX2_afterFirstDigit_23 : decode cX2_afterFirstDigit 23 = .ok (.bipush 57, 2) := by decide +kernel
theorem dX2_afterFirstDigit_25 : decode cX2_afterFirstDigit 25 = .ok (.if_icmp .gt 7, 3) := by decide +kernel
theorem dX2_afterFirstDigit_28 : decode cX2_afterFirstDigit 28 = .ok (.iconst 3, 1) := by decide +kernel
theorem dX2_afterFirstDigit_29 : decode cX2_afterFirstDigit 29 = .ok (.goto 4, 3) := by decide +kernel
theorem dX2_afterFirstDigit_32 : decode cX2_afterFirstDigit 32 = .ok (.iconst (-1), 1) := by decide +kernel
theorem dX2_afterFirstDigit_33 : decode cX2_afterFirstDigit 33 = .ok (.ireturn, 1) := by decide +kernel
theorem dX2_afterHour_0 : decode cX2_afterHour 0 = .ok (.iload_n 0, 1) := by decide +kernel
theorem dX2_afterHour_1 : decode cX2_afterHour 1 = .ok (.bipush 61, 2) := by decide +kernel
theorem dX2_afterHour_3 : decode cX2_afterHour 3 = .ok (.if_icmp .ne 7, 3) := by decide +kernel
theorem dX2_afterHour_6 : decode cX2_afterHour 6 = .ok (.iconst 4, 1) := by decide +kernel
theorem dX2_afterHour_7 : decode cX2_afterHour 7 = .ok (.goto 4, 3) := by decide +kernel
theorem dX2_afterHour_10 : decode cX2_afterHour 10 = .ok (.iconst (-1), 1) := by decide +kernel
theorem dX2_afterHour_11 : decode cX2_afterHour 11 = .ok (.ireturn, 1) := by decide +kernel
theorem dX3_init_0 : decode cX3_init 0 = .ok (.aload_n 0, 1) := by decide +kernel
theorem dX3_init_1 : decode cX3_init 1 = .ok (.invokespecial 1, 3) := by decide +kernel
theorem dX3_init_4 : decode cX3_init 4 = .ok (.aload_n 0, 1) := by decide +kernel
theorem dX3_init_5 : decode cX3_init 5 = .ok (.new 7, 3) := by decide +kernel
theorem dX3_init_8 : decode cX3_init 8 = .ok (.dup, 1) := by decide +kernel
theorem dX3_init_9 : decode cX3_init 9 = .ok (.invokespecial 9, 3) := by decide +kernel
theorem dX3_init_12 : decode cX3_init 12 = .ok (.putfield 10, 3) := by decide +kernel
theorem dX3_init_15 : decode cX3_init 15 = .ok (.aload_n 0, 1) := by decide +kernel
theorem dX3_init_16 : decode cX3_init 16 = .ok (.iconst 2, 1) := by decide +kernel
theorem dX3_init_17 : decode cX3_init 17 = .ok (.anewarray 7, 3) := by decide +kernel
theorem dX3_init_20 : decode cX3_init 20 = .ok (.putfield 16, 3) := by decide +kernel
theorem dX3_init_23 : decode cX3_init 23 = .ok (.aload_n 0, 1) := by decide +kernel
theorem dX3_init_24 : decode cX3_init 24 = .ok (.iconst 2, 1) := by decide +kernel
theorem dX3_init_25 : decode cX3_init 25 = .ok (.newarray .boolean, 2) := by decide +kernel
theorem dX3_init_27 : decode cX3_init 27 = .ok (.putfield 20, 3) := by decide +kernel
theorem dX3_init_30 : decode cX3_init 30 = .ok (.aload_n 0, 1) := by decide +kernel
theorem dX3_init_31 : decode cX3_init 31 = .ok (.bipush 6, 2) := by decide +kernel
theorem dX3_init_33 : decode cX3_init 33 = .ok (.anewarray 7, 3) := by decide +kernel
theorem dX3_init_36 : decode cX3_init 36 = .ok (.putfield 24, 3) := by decide +kernel
theorem dX3_init_39 : decode cX3_init 39 = .ok (.aload_n 0, 1) := by decide +kernel
theorem dX3_init_40 : decode cX3_init 40 = .ok (.iconst 0, 1) := by decide +kernel
theorem dX3_init_41 : decode cX3_init 41 = .ok (.putfield 27, 3) := by decide +kernel
theorem dX3_init_44 : decode cX3_init 44 = .ok (.aload_n 0, 1) := by decide +kernel
theorem dX3_init_45 : decode cX3_init 45 = .ok (.iconst 0, 1) := by decide +kernel
theorem dX3_init_46 : decode cX3_init 46 = .ok (.putfield 31, 3) := by decide +kernel
theorem dX3_init_49 : decode cX3_init 49 = .ok (.aload_n 0, 1) := by decide +kernel
theorem dX3_init_50 : decode cX3_init 50 = .ok (.new 34, 3) := by decide +kernel
theorem dX3_init_53 : decode cX3_init 53 = .ok (.dup, 1) := by decide +kernel
theorem dX3_init_54 : decode cX3_init 54 = .ok (.invokespecial 36, 3) := by decide +kernel
theorem dX3_init_57 : decode cX3_init 57 = .ok (.putfield 37, 3) := by decide +kernel
theorem dX3_init_60 : decode cX3_init 60 = .ok (.aload_n 0, 1) := by decide +kernel
theorem dX3_init_61 : decode cX3_init 61 = .ok (.bipush 24, 2) := by decide +kernel
theorem dX3_init_63 : decode cX3_init 63 = .ok (.newarray .int, 2) := by decide +kernel
theorem dX3_init_65 : decode cX3_init 65 = .ok (.putfield 41, 3) := by decide +kernel
theorem dX3_init_68 : decode cX3_init 68 = .ok (.iconst 0, 1) := by decide +kernel
theorem dX3_init_69 : decode cX3_init 69 = .ok (.istore_n 1, 1) := by decide +kernel
theorem dX3_init_70 : decode cX3_init 70 = .ok (.iload_n 1, 1) := by decide +kernel
theorem dX3_init_71 : decode cX3_init 71 = .ok (.iconst 2, 1) := by decide +kernel
theorem dX3_init_72 : decode cX3_init 72 = .ok (.if_icmp .ge 22, 3) := by decide +kernel
theorem dX3_init_75 : decode cX3_init 75 = .ok (.aload_n 0, 1) := by decide +kernel
theorem dX3_init_76 : decode cX3_init 76 = .ok (.getfield 16, 3) := by decide +kernel
theorem dX3_init_79 : decode cX3_init 79 = .ok (.iload_n 1, 1) := by decide +kernel
theorem dX3_init_80 : decode cX3_init 80 = .ok (.new 7, 3) := by decide +kernel
theorem dX3_init_83 : decode cX3_init 83 = .ok (.dup, 1) := by decide +kernel
theorem dX3_init_84 : decode cX3_init 84 = .ok (.invokespecial 9, 3) := by decide +kernel
theorem dX3_init_87 : decode cX3_init 87 = .ok (.aastore, 1) := by decide +kernel
theorem dX3_init_88 : decode cX3_init 88 = .ok (.iinc 1 1, 3) := by decide +kernel
theorem dX3_init_91 : decode cX3_init 91 = .ok (.goto (-21), 3) := by decide +kernel
theorem dX3_init_94 : decode cX3_init 94 = .ok (.iconst 0, 1) := by decide +kernel
theorem dX3_init_95 : decode cX3_init 95 = .ok (.istore_n 1, 1) := by decide +kernel
theorem dX3_init_96 : decode cX3_init 96 = .ok (.iload_n 1, 1) := by decide +kernel
theorem dX3_init_97 : decode cX3_init 97 = .ok (.bipush 6, 2) := by decide +kernel
theorem dX3_init_99 : decode cX3_init 99 = .ok (.if_icmp .ge 22, 3) := by decide +kernel
theorem dX3_init_102 : decode cX3_init 102 = .ok (.aload_n 0, 1) := by decide +kernel
theorem dX3_init_103 : decode cX3_init 103 = .ok (.getfield 24, 3) := by decide +kernel
theorem dX3_init_106 : decode cX3_init 106 = .ok (.iload_n 1, 1) := by decide +kernel
theorem dX3_init_107 : decode cX3_init 107 = .ok (.new 7, 3) := by decide +kernel
theorem dX3_init_110 : decode cX3_init 110 = .ok (.dup, 1) := by decide +kernel
theorem dX3_init_111 : decode cX3_init 111 = .ok (.invokespecial 9, 3) := by decide +kernel
theorem dX3_init_114 : decode cX3_init 114 = .ok (.aastore, 1) := by decide +kernel
theorem dX3_init_115 : decode cX3_init 115 = .ok (.iinc 1 1, 3) := by decide +kernel
theorem dX3_init_118 : decode cX3_init 118 = .ok (.goto (-22), 3) := by decide +kernel
theorem dX3_init_121 : decode cX3_init 121 = .ok (.return_, 1) := by decide +kernel
theorem dX3_wind_0 : decode cX3_wind 0 = .ok (.iload_n 1, 1) := by decide +kernel
theorem dX3_wind_1 : decode cX3_wind 1 = .ok (.bipush 24, 2) := by decide +kernel
theorem dX3_wind_3 : decode cX3_wind 3 = .ok (.invokestatic 45, 3) := by decide +kernel
theorem dX3_wind_6 : decode cX3_wind 6 = .ok (.iload_n 2, 1) := by decide +kernel
theorem dX3_wind_7 : decode cX3_wind 7 = .ok (.iconst 0, 1) := by decide +kernel
theorem dX3_wind_8 : decode cX3_wind 8 = .ok (.bipush 7, 2) := by decide +kernel
theorem dX3_wind_10 : decode cX3_wind 10 = .ok (.invokestatic 49, 3) := by decide +kernel
theorem dX3_wind_13 : decode cX3_wind 13 = .ok (.iload_n 3, 1) := by decide +kernel
theorem dX3_wind_14 : decode cX3_wind 14 = .ok (.iconst 0, 1) := by decide +kernel
theorem dX3_wind_15 : decode cX3_wind 15 = .ok (.bipush 9, 2) := by decide +kernel
theorem dX3_wind_17 : decode cX3_wind 17 = .ok (.invokestatic 49, 3) := by decide +kernel
theorem dX3_wind_20 : decode cX3_wind 20 = .ok (.aload_n 0, 1) := by decide +kernel
theorem dX3_wind_21 : decode cX3_wind 21 = .ok (.invokevirtual 53, 3) := by decide +kernel
theorem dX3_wind_24 : decode cX3_wind 24 = .ok (.bipush 10, 2) := by decide +kernel
theorem dX3_wind_26 : decode cX3_wind 26 = .ok (.aload_n 0, 1) := by decide +kernel
theorem dX3_wind_27 : decode cX3_wind 27 = .ok (.getfield 10, 3) := by decide +kernel
theorem dX3_wind_30 : decode cX3_wind 30 = .ok (.getfield 56, 3) := by decide +kernel
theorem dX3_wind_33 : decode cX3_wind 33 = .ok (.iload_n 1, 1) := by decide +kernel
theorem dX3_wind_34 : decode cX3_wind 34 = .ok (.iaload, 1) := by decide +kernel
theorem dX3_wind_35 : decode cX3_wind 35 = .ok (.imul, 1) := by decide +kernel
theorem dX3_wind_36 : decode cX3_wind 36 = .ok (.aload_n 0, 1) := by decide +kernel
theorem dX3_wind_37 : decode cX3_wind 37 = .ok (.getfield 10, 3) := by decide +kernel
theorem dX3_wind_40 : decode cX3_wind 40 = .ok (.getfield 59, 3) := by decide +kernel
theorem dX3_wind_43 : decode cX3_wind 43 = .ok (.iload_n 1, 1) := by decide +kernel
theorem dX3_wind_44 : decode cX3_wind 44 = .ok (.iaload, 1) := by decide +kernel
theorem dX3_wind_45 : decode cX3_wind 45 = .ok (.iadd, 1) := by decide +kernel
theorem dX3_wind_46 : decode cX3_wind 46 = .ok (.istore 4, 2) := by decide +kernel
theorem dX3_wind_48 : decode cX3_wind 48 = .ok (.aload_n 0, 1) := by decide +kernel
theorem dX3_wind_49 : decode cX3_wind 49 = .ok (.getfield 10, 3) := by decide +kernel
theorem dX3_wind_52 : decode cX3_wind 52 = .ok (.getfield 56, 3) := by decide +kernel
theorem dX3_wind_55 : decode cX3_wind 55 = .ok (.iload_n 1, 1) := by decide +kernel
theorem dX3_wind_56 : decode cX3_wind 56 = .ok (.iload_n 2, 1) := by decide +kernel
theorem dX3_wind_57 : decode cX3_wind 57 = .ok (.iastore, 1) := by decide +kernel
theorem dX3_wind_58 : decode cX3_wind 58 = .ok (.aload_n 0, 1) := by decide +kernel
theorem dX3_wind_59 : decode cX3_wind 59 = .ok (.getfield 10, 3) := by decide +kernel
theorem dX3_wind_62 : decode cX3_wind 62 = .ok (.getfield 59, 3) := by decide +kernel
theorem dX3_wind_65 : decode cX3_wind 65 = .ok (.iload_n 1, 1) := by decide +kernel
theorem dX3_wind_66 : decode cX3_wind 66 = .ok (.iload_n 3, 1) := by decide +kernel
theorem dX3_wind_67 : decode cX3_wind 67 = .ok (.iastore, 1) := by decide +kernel
theorem dX3_wind_68 : decode cX3_wind 68 = .ok (.iload 4, 2) := by decide +kernel
theorem dX3_wind_70 : decode cX3_wind 70 = .ok (.ireturn, 1) := by decide +kernel
theorem dX3_vane_0 : decode cX3_vane 0 = .ok (.iload_n 1, 1) := by decide +kernel
theorem dX3_vane_1 : decode cX3_vane 1 = .ok (.bipush 6, 2) := by decide +kernel
theorem dX3_vane_3 : decode cX3_vane 3 = .ok (.invokestatic 45, 3) := by decide +kernel
theorem dX3_vane_6 : decode cX3_vane 6 = .ok (.iload_n 2, 1) := by decide +kernel
theorem dX3_vane_7 : decode cX3_vane 7 = .ok (.iconst 0, 1) := by decide +kernel
theorem dX3_vane_8 : decode cX3_vane 8 = .ok (.iconst 3, 1) := by decide +kernel
theorem dX3_vane_9 : decode cX3_vane 9 = .ok (.invokestatic 49, 3) := by decide +kernel
theorem dX3_vane_12 : decode cX3_vane 12 = .ok (.iload_n 3, 1) := by decide +kernel
theorem dX3_vane_13 : decode cX3_vane 13 = .ok (.iconst 0, 1) := by decide +kernel
theorem dX3_vane_14 : decode cX3_vane 14 = .ok (.getstatic 62, 3) := by decide +kernel
theorem dX3_vane_17 : decode cX3_vane 17 = .ok (.iload_n 2, 1) := by decide +kernel
theorem dX3_vane_18 : decode cX3_vane 18 = .ok (.iaload, 1) := by decide +kernel
theorem dX3_vane_19 : decode cX3_vane 19 = .ok (.invokestatic 49, 3) := by decide +kernel
theorem dX3_vane_22 : decode cX3_vane 22 = .ok (.aload_n 0, 1) := by decide +kernel
theorem dX3_vane_23 : decode cX3_vane 23 = .ok (.invokevirtual 53, 3) := by decide +kernel
theorem dX3_vane_26 : decode cX3_vane 26 = .ok (.aload_n 0, 1) := by decide +kernel
theorem dX3_vane_27 : decode cX3_vane 27 = .ok (.getfield 10, 3) := by decide +kernel
theorem dX3_vane_30 : decode cX3_vane 30 = .ok (.getfield 65, 3) := by decide +kernel
theorem dX3_vane_33 : decode cX3_vane 33 = .ok (.iload_n 1, 1) := by decide +kernel
theorem dX3_vane_34 : decode cX3_vane 34 = .ok (.aaload, 1) := by decide +kernel
theorem dX3_vane_35 : decode cX3_vane 35 = .ok (.iload_n 2, 1) := by decide +kernel
theorem dX3_vane_36 : decode cX3_vane 36 = .ok (.iaload, 1) := by decide +kernel
theorem dX3_vane_37 : decode cX3_vane 37 = .ok (.istore 4, 2) := by decide +kernel
theorem dX3_vane_39 : decode cX3_vane 39 = .ok (.aload_n 0, 1) := by decide +kernel
theorem dX3_vane_40 : decode cX3_vane 40 = .ok (.getfield 10, 3) := by decide +kernel
theorem dX3_vane_43 : decode cX3_vane 43 = .ok (.getfield 65, 3) := by decide +kernel
theorem dX3_vane_46 : decode cX3_vane 46 = .ok (.iload_n 1, 1) := by decide +kernel
theorem dX3_vane_47 : decode cX3_vane 47 = .ok (.aaload, 1) := by decide +kernel
theorem dX3_vane_48 : decode cX3_vane 48 = .ok (.iload_n 2, 1) := by decide +kernel
theorem dX3_vane_49 : decode cX3_vane 49 = .ok (.iload_n 3, 1) := by decide +kernel
theorem dX3_vane_50 : decode cX3_vane 50 = .ok (.iastore, 1) := by decide +kernel
theorem dX3_vane_51 : decode cX3_vane 51 = .ok (.iload 4, 2) := by decide +kernel
theorem dX3_vane_53 : decode cX3_vane 53 = .ok (.ireturn, 1) := by decide +kernel
theorem dX3_mill_0 : decode cX3_mill 0 = .ok (.iload_n 1, 1) := by decide +kernel
theorem dX3_mill_1 : decode cX3_mill 1 = .ok (.iconst 3, 1) := by decide +kernel
theorem dX3_mill_2 : decode cX3_mill 2 = .ok (.invokestatic 45, 3) := by decide +kernel
theorem dX3_mill_5 : decode cX3_mill 5 = .ok (.iload_n 2, 1) := by decide +kernel
theorem dX3_mill_6 : decode cX3_mill 6 = .ok (.iconst 0, 1) := by decide +kernel
theorem dX3_mill_7 : decode cX3_mill 7 = .ok (.bipush 9, 2) := by decide +kernel
theorem dX3_mill_9 : decode cX3_mill 9 = .ok (.invokestatic 49, 3) := by decide +kernel
theorem dX3_mill_12 : decode cX3_mill 12 = .ok (.aload_n 0, 1) := by decide +kernel
theorem dX3_mill_13 : decode cX3_mill 13 = .ok (.invokevirtual 53, 3) := by decide +kernel
theorem dX3_mill_16 : decode cX3_mill 16 = .ok (.aload_n 0, 1) := by decide +kernel
theorem dX3_mill_17 : decode cX3_mill 17 = .ok (.getfield 10, 3) := by decide +kernel
theorem dX3_mill_20 : decode cX3_mill 20 = .ok (.getfield 69, 3) := by decide +kernel
theorem dX3_mill_23 : decode cX3_mill 23 = .ok (.iload_n 1, 1) := by decide +kernel
theorem dX3_mill_24 : decode cX3_mill 24 = .ok (.aaload, 1) := by decide +kernel
theorem dX3_mill_25 : decode cX3_mill 25 = .ok (.getfield 73, 3) := by decide +kernel
theorem dX3_mill_28 : decode cX3_mill 28 = .ok (.istore_n 3, 1) := by decide +kernel
theorem dX3_mill_29 : decode cX3_mill 29 = .ok (.aload_n 0, 1) := by decide +kernel
theorem dX3_mill_30 : decode cX3_mill 30 = .ok (.getfield 10, 3) := by decide +kernel
theorem dX3_mill_33 : decode cX3_mill 33 = .ok (.getfield 69, 3) := by decide +kernel
theorem dX3_mill_36 : decode cX3_mill 36 = .ok (.iload_n 1, 1) := by decide +kernel
theorem dX3_mill_37 : decode cX3_mill 37 = .ok (.aaload, 1) := by decide +kernel
theorem dX3_mill_38 : decode cX3_mill 38 = .ok (.iload_n 2, 1) := by decide +kernel
theorem dX3_mill_39 : decode cX3_mill 39 = .ok (.putfield 73, 3) := by decide +kernel
theorem dX3_mill_42 : decode cX3_mill 42 = .ok (.iload_n 3, 1) := by decide +kernel
theorem dX3_mill_43 : decode cX3_mill 43 = .ok (.ireturn, 1) := by decide +kernel
theorem dX3_set_0 : decode cX3_set 0 = .ok (.iload_n 1, 1) := by decide +kernel
theorem dX3_set_1 : decode cX3_set 1 = .ok (.iconst 2, 1) := by decide +kernel
theorem dX3_set_2 : decode cX3_set 2 = .ok (.invokestatic 45, 3) := by decide +kernel
theorem dX3_set_5 : decode cX3_set 5 = .ok (.iload_n 2, 1) := by decide +kernel
theorem dX3_set_6 : decode cX3_set 6 = .ok (.getstatic 78, 3) := by decide +kernel
theorem dX3_set_9 : decode cX3_set 9 = .ok (.iload_n 1, 1) := by decide +kernel
theorem dX3_set_10 : decode cX3_set 10 = .ok (.iaload, 1) := by decide +kernel
theorem dX3_set_11 : decode cX3_set 11 = .ok (.getstatic 81, 3) := by decide +kernel
theorem dX3_set_14 : decode cX3_set 14 = .ok (.iload_n 1, 1) := by decide +kernel
theorem dX3_set_15 : decode cX3_set 15 = .ok (.iaload, 1) := by decide +kernel
theorem dX3_set_16 : decode cX3_set 16 = .ok (.invokestatic 49, 3) := by decide +kernel
theorem dX3_set_19 : decode cX3_set 19 = .ok (.aload_n 0, 1) := by decide +kernel
theorem dX3_set_20 : decode cX3_set 20 = .ok (.invokevirtual 53, 3) := by decide +kernel
theorem dX3_set_23 : decode cX3_set 23 = .ok (.aload_n 0, 1) := by decide +kernel
theorem dX3_set_24 : decode cX3_set 24 = .ok (.getfield 10, 3) := by decide +kernel
theorem dX3_set_27 : decode cX3_set 27 = .ok (.getfield 84, 3) := by decide +kernel
theorem dX3_set_30 : decode cX3_set 30 = .ok (.iload_n 1, 1) := by decide +kernel
theorem dX3_set_31 : decode cX3_set 31 = .ok (.iaload, 1) := by decide +kernel
theorem dX3_set_32 : decode cX3_set 32 = .ok (.istore_n 3, 1) := by decide +kernel
theorem dX3_set_33 : decode cX3_set 33 = .ok (.aload_n 0, 1) := by decide +kernel
theorem dX3_set_34 : decode cX3_set 34 = .ok (.getfield 10, 3) := by decide +kernel
theorem dX3_set_37 : decode cX3_set 37 = .ok (.getfield 84, 3) := by decide +kernel
theorem dX3_set_40 : decode cX3_set 40 = .ok (.iload_n 1, 1) := by decide +kernel
theorem dX3_set_41 : decode cX3_set 41 = .ok (.iload_n 2, 1) := by decide +kernel
theorem dX3_set_42 : decode cX3_set 42 = .ok (.iastore, 1) := by decide +kernel
theorem dX3_set_43 : decode cX3_set 43 = .ok (.iload_n 3, 1) := by decide +kernel
theorem dX3_set_44 : decode cX3_set 44 = .ok (.ireturn, 1) := by decide +kernel
theorem dX3_bring_0 : decode cX3_bring 0 = .ok (.iload_n 1, 1) := by decide +kernel
theorem dX3_bring_1 : decode cX3_bring 1 = .ok (.iconst 5, 1) := by decide +kernel
theorem dX3_bring_2 : decode cX3_bring 2 = .ok (.invokestatic 45, 3) := by decide +kernel
theorem dX3_bring_5 : decode cX3_bring 5 = .ok (.iload_n 2, 1) := by decide +kernel
theorem dX3_bring_6 : decode cX3_bring 6 = .ok (.iconst 3, 1) := by decide +kernel
theorem dX3_bring_7 : decode cX3_bring 7 = .ok (.invokestatic 45, 3) := by decide +kernel
theorem dX3_bring_10 : decode cX3_bring 10 = .ok (.iload_n 3, 1) := by decide +kernel
theorem dX3_bring_11 : decode cX3_bring 11 = .ok (.iconst 1, 1) := by decide +kernel
theorem dX3_bring_12 : decode cX3_bring 12 = .ok (.bipush 99, 2) := by decide +kernel
theorem dX3_bring_14 : decode cX3_bring 14 = .ok (.invokestatic 49, 3) := by decide +kernel
theorem dX3_bring_17 : decode cX3_bring 17 = .ok (.aload_n 0, 1) := by decide +kernel
theorem dX3_bring_18 : decode cX3_bring 18 = .ok (.invokevirtual 53, 3) := by decide +kernel
theorem dX3_bring_21 : decode cX3_bring 21 = .ok (.aload_n 0, 1) := by decide +kernel
theorem dX3_bring_22 : decode cX3_bring 22 = .ok (.getfield 10, 3) := by decide +kernel
theorem dX3_bring_25 : decode cX3_bring 25 = .ok (.getfield 69, 3) := by decide +kernel
theorem dX3_bring_28 : decode cX3_bring 28 = .ok (.iload_n 2, 1) := by decide +kernel
theorem dX3_bring_29 : decode cX3_bring 29 = .ok (.aaload, 1) := by decide +kernel
theorem dX3_bring_30 : decode cX3_bring 30 = .ok (.astore 4, 2) := by decide +kernel
theorem dX3_bring_32 : decode cX3_bring 32 = .ok (.aload 4, 2) := by decide +kernel
theorem dX3_bring_34 : decode cX3_bring 34 = .ok (.getfield 87, 3) := by decide +kernel
theorem dX3_bring_37 : decode cX3_bring 37 = .ok (.bipush 8, 2) := by decide +kernel
theorem dX3_bring_39 : decode cX3_bring 39 = .ok (.if_icmp .lt 18, 3) := by decide +kernel
theorem dX3_bring_42 : decode cX3_bring 42 = .ok (.aload_n 0, 1) := by decide +kernel
theorem dX3_bring_43 : decode cX3_bring 43 = .ok (.getfield 10, 3) := by decide +kernel
theorem dX3_bring_46 : decode cX3_bring 46 = .ok (.dup, 1) := by decide +kernel
theorem dX3_bring_47 : decode cX3_bring 47 = .ok (.getfield 90, 3) := by decide +kernel
theorem dX3_bring_50 : decode cX3_bring 50 = .ok (.iconst 1, 1) := by decide +kernel
theorem dX3_bring_51 : decode cX3_bring 51 = .ok (.iadd, 1) := by decide +kernel
theorem dX3_bring_52 : decode cX3_bring 52 = .ok (.putfield 90, 3) := by decide +kernel
theorem dX3_bring_55 : decode cX3_bring 55 = .ok (.iconst (-1), 1) := by decide +kernel
theorem dX3_bring_56 : decode cX3_bring 56 = .ok (.ireturn, 1) := by decide +kernel
theorem dX3_bring_57 : decode cX3_bring 57 = .ok (.aload 4, 2) := by decide +kernel
theorem dX3_bring_59 : decode cX3_bring 59 = .ok (.iload_n 1, 1) := by decide +kernel
theorem dX3_bring_60 : decode cX3_bring 60 = .ok (.iload_n 3, 1) := by decide +kernel
theorem dX3_bring_61 : decode cX3_bring 61 = .ok (.invokevirtual 93, 3) := by decide +kernel
theorem dX3_bring_64 : decode cX3_bring 64 = .ok (.aload_n 0, 1) := by decide +kernel
theorem dX3_bring_65 : decode cX3_bring 65 = .ok (.getfield 10, 3) := by decide +kernel
theorem dX3_bring_68 : decode cX3_bring 68 = .ok (.getfield 96, 3) := by decide +kernel
theorem dX3_bring_71 : decode cX3_bring 71 = .ok (.iload_n 1, 1) := by decide +kernel
theorem dX3_bring_72 : decode cX3_bring 72 = .ok (.dup2, 1) := by decide +kernel
theorem dX3_bring_73 : decode cX3_bring 73 = .ok (.iaload, 1) := by decide +kernel
theorem dX3_bring_74 : decode cX3_bring 74 = .ok (.iload_n 3, 1) := by decide +kernel
theorem dX3_bring_75 : decode cX3_bring 75 = .ok (.iadd, 1) := by decide +kernel
theorem dX3_bring_76 : decode cX3_bring 76 = .ok (.iastore, 1) := by decide +kernel
theorem dX3_bring_77 : decode cX3_bring 77 = .ok (.aload 4, 2) := by decide +kernel
theorem dX3_bring_79 : decode cX3_bring 79 = .ok (.invokevirtual 99, 3) := by decide +kernel
theorem dX3_bring_82 : decode cX3_bring 82 = .ok (.ireturn, 1) := by decide +kernel
theorem dX3_takeBack_0 : decode cX3_takeBack 0 = .ok (.iload_n 1, 1) := by decide +kernel
theorem dX3_takeBack_1 : decode cX3_takeBack 1 = .ok (.iconst 3, 1) := by decide +kernel
theorem dX3_takeBack_2 : decode cX3_takeBack 2 = .ok (.invokestatic 45, 3) := by decide +kernel
theorem dX3_takeBack_5 : decode cX3_takeBack 5 = .ok (.aload_n 0, 1) := by decide +kernel
theorem dX3_takeBack_6 : decode cX3_takeBack 6 = .ok (.invokevirtual 53, 3) := by decide +kernel
theorem dX3_takeBack_9 : decode cX3_takeBack 9 = .ok (.aload_n 0, 1) := by decide +kernel
theorem dX3_takeBack_10 : decode cX3_takeBack 10 = .ok (.getfield 10, 3) := by decide +kernel
theorem dX3_takeBack_13 : decode cX3_takeBack 13 = .ok (.getfield 69, 3) := by decide +kernel
theorem dX3_takeBack_16 : decode cX3_takeBack 16 = .ok (.iload_n 1, 1) := by decide +kernel
theorem dX3_takeBack_17 : decode cX3_takeBack 17 = .ok (.aaload, 1) := by decide +kernel
theorem dX3_takeBack_18 : decode cX3_takeBack 18 = .ok (.astore_n 2, 1) := by decide +kernel
theorem dX3_takeBack_19 : decode cX3_takeBack 19 = .ok (.aload_n 2, 1) := by decide +kernel
theorem dX3_takeBack_20 : decode cX3_takeBack 20 = .ok (.getfield 87, 3) := by decide +kernel
theorem dX3_takeBack_23 : decode cX3_takeBack 23 = .ok (.ifCond .gt 18, 3) := by decide +kernel
theorem dX3_takeBack_26 : decode cX3_takeBack 26 = .ok (.aload_n 0, 1) := by decide +kernel
theorem dX3_takeBack_27 : decode cX3_takeBack 27 = .ok (.getfield 10, 3) := by decide +kernel
theorem dX3_takeBack_30 : decode cX3_takeBack 30 = .ok (.dup, 1) := by decide +kernel
theorem dX3_takeBack_31 : decode cX3_takeBack 31 = .ok (.getfield 90, 3) := by decide +kernel
theorem dX3_takeBack_34 : decode cX3_takeBack 34 = .ok (.iconst 1, 1) := by decide +kernel
theorem dX3_takeBack_35 : decode cX3_takeBack 35 = .ok (.iadd, 1) := by decide +kernel
theorem dX3_takeBack_36 : decode cX3_takeBack 36 = .ok (.putfield 90, 3) := by decide +kernel
theorem dX3_takeBack_39 : decode cX3_takeBack 39 = .ok (.iconst (-1), 1) := by decide +kernel
theorem dX3_takeBack_40 : decode cX3_takeBack 40 = .ok (.ireturn, 1) := by decide +kernel
theorem dX3_takeBack_41 : decode cX3_takeBack 41 = .ok (.aload_n 2, 1) := by decide +kernel
theorem dX3_takeBack_42 : decode cX3_takeBack 42 = .ok (.dup, 1) := by decide +kernel
theorem dX3_takeBack_43 : decode cX3_takeBack 43 = .ok (.getfield 87, 3) := by decide +kernel
theorem dX3_takeBack_46 : decode cX3_takeBack 46 = .ok (.iconst 1, 1) := by decide +kernel
theorem dX3_takeBack_47 : decode cX3_takeBack 47 = .ok (.isub, 1) := by decide +kernel
theorem dX3_takeBack_48 : decode cX3_takeBack 48 = .ok (.putfield 87, 3) := by decide +kernel
theorem dX3_takeBack_51 : decode cX3_takeBack 51 = .ok (.aload_n 2, 1) := by decide +kernel
theorem dX3_takeBack_52 : decode cX3_takeBack 52 = .ok (.getfield 103, 3) := by decide +kernel
theorem dX3_takeBack_55 : decode cX3_takeBack 55 = .ok (.aload_n 2, 1) := by decide +kernel
theorem dX3_takeBack_56 : decode cX3_takeBack 56 = .ok (.getfield 87, 3) := by decide +kernel
theorem dX3_takeBack_59 : decode cX3_takeBack 59 = .ok (.iaload, 1) := by decide +kernel
theorem dX3_takeBack_60 : decode cX3_takeBack 60 = .ok (.istore_n 3, 1) := by decide +kernel
theorem dX3_takeBack_61 : decode cX3_takeBack 61 = .ok (.aload_n 0, 1) := by decide +kernel
theorem dX3_takeBack_62 : decode cX3_takeBack 62 = .ok (.getfield 10, 3) := by decide +kernel
theorem dX3_takeBack_65 : decode cX3_takeBack 65 = .ok (.getfield 106, 3) := by decide +kernel
theorem dX3_takeBack_68 : decode cX3_takeBack 68 = .ok (.aload_n 2, 1) := by decide +kernel
theorem dX3_takeBack_69 : decode cX3_takeBack 69 = .ok (.getfield 109, 3) := by decide +kernel
theorem dX3_takeBack_72 : decode cX3_takeBack 72 = .ok (.aload_n 2, 1) := by decide +kernel
theorem dX3_takeBack_73 : decode cX3_takeBack 73 = .ok (.getfield 87, 3) := by decide +kernel
theorem dX3_takeBack_76 : decode cX3_takeBack 76 = .ok (.iaload, 1) := by decide +kernel
theorem dX3_takeBack_77 : decode cX3_takeBack 77 = .ok (.dup2, 1) := by decide +kernel
theorem dX3_takeBack_78 : decode cX3_takeBack 78 = .ok (.iaload, 1) := by decide +kernel
theorem dX3_takeBack_79 : decode cX3_takeBack 79 = .ok (.iload_n 3, 1) := by decide +kernel
theorem dX3_takeBack_80 : decode cX3_takeBack 80 = .ok (.iadd, 1) := by decide +kernel
theorem dX3_takeBack_81 : decode cX3_takeBack 81 = .ok (.iastore, 1) := by decide +kernel
theorem dX3_takeBack_82 : decode cX3_takeBack 82 = .ok (.iload_n 3, 1) := by decide +kernel
theorem dX3_takeBack_83 : decode cX3_takeBack 83 = .ok (.ireturn, 1) := by decide +kernel
theorem dX3_pass_0 : decode cX3_pass 0 = .ok (.iload_n 1, 1) := by decide +kernel
theorem dX3_pass_1 : decode cX3_pass 1 = .ok (.iconst 1, 1) := by decide +kernel
theorem dX3_pass_2 : decode cX3_pass 2 = .ok (.bipush 99, 2) := by decide +kernel
theorem dX3_pass_4 : decode cX3_pass 4 = .ok (.invokestatic 49, 3) := by decide +kernel
theorem dX3_pass_7 : decode cX3_pass 7 = .ok (.aload_n 0, 1) := by decide +kernel
theorem dX3_pass_8 : decode cX3_pass 8 = .ok (.getfield 10, 3) := by decide +kernel
theorem dX3_pass_11 : decode cX3_pass 11 = .ok (.getfield 112, 3) := by decide +kernel
theorem dX3_pass_14 : decode cX3_pass 14 = .ok (.iload_n 1, 1) := by decide +kernel
theorem dX3_pass_15 : decode cX3_pass 15 = .ok (.iadd, 1) := by decide +kernel
theorem dX3_pass_16 : decode cX3_pass 16 = .ok (.ldc 115, 2) := by decide +kernel
theorem dX3_pass_18 : decode cX3_pass 18 = .ok (.if_icmp .le 13, 3) := by decide +kernel
theorem dX3_pass_21 : decode cX3_pass 21 = .ok (.new 116, 3) := by decide +kernel
theorem dX3_pass_24 : decode cX3_pass 24 = .ok (.dup, 1) := by decide +kernel
theorem dX3_pass_25 : decode cX3_pass 25 = .ok (.ldc 118, 2) := by decide +kernel
theorem dX3_pass_27 : decode cX3_pass 27 = .ok (.invokespecial 120, 3) := by decide +kernel
theorem dX3_pass_30 : decode cX3_pass 30 = .ok (.athrow, 1) := by decide +kernel
theorem dX3_pass_31 : decode cX3_pass 31 = .ok (.aload_n 0, 1) := by decide +kernel
theorem dX3_pass_32 : decode cX3_pass 32 = .ok (.invokevirtual 53, 3) := by decide +kernel
theorem dX3_pass_35 : decode cX3_pass 35 = .ok (.iconst 0, 1) := by decide +kernel
theorem dX3_pass_36 : decode cX3_pass 36 = .ok (.istore_n 2, 1) := by decide +kernel
theorem dX3_pass_37 : decode cX3_pass 37 = .ok (.iconst 0, 1) := by decide +kernel
theorem dX3_pass_38 : decode cX3_pass 38 = .ok (.istore_n 3, 1) := by decide +kernel
theorem dX3_pass_39 : decode cX3_pass 39 = .ok (.iload_n 3, 1) := by decide +kernel
theorem dX3_pass_40 : decode cX3_pass 40 = .ok (.iload_n 1, 1) := by decide +kernel
theorem dX3_pass_41 : decode cX3_pass 41 = .ok (.if_icmp .ge 19, 3) := by decide +kernel
theorem dX3_pass_44 : decode cX3_pass 44 = .ok (.iload_n 2, 1) := by decide +kernel
theorem dX3_pass_45 : decode cX3_pass 45 = .ok (.aload_n 0, 1) := by decide +kernel
theorem dX3_pass_46 : decode cX3_pass 46 = .ok (.getfield 10, 3) := by decide +kernel
theorem dX3_pass_49 : decode cX3_pass 49 = .ok (.invokevirtual 123, 3) := by decide +kernel
theorem dX3_pass_52 : decode cX3_pass 52 = .ok (.iadd, 1) := by decide +kernel
theorem dX3_pass_53 : decode cX3_pass 53 = .ok (.istore_n 2, 1) := by decide +kernel
theorem dX3_pass_54 : decode cX3_pass 54 = .ok (.iinc 3 1, 3) := by decide +kernel
theorem dX3_pass_57 : decode cX3_pass 57 = .ok (.goto (-18), 3) := by decide +kernel
theorem dX3_pass_60 : decode cX3_pass 60 = .ok (.iload_n 2, 1) := by decide +kernel
theorem dX3_pass_61 : decode cX3_pass 61 = .ok (.ireturn, 1) := by decide +kernel
theorem dX3_append_0 : decode cX3_append 0 = .ok (.iload_n 1, 1) := by decide +kernel
theorem dX3_append_1 : decode cX3_append 1 = .ok (.bipush 33, 2) := by decide +kernel
theorem dX3_append_3 : decode cX3_append 3 = .ok (.bipush 126, 2) := by decide +kernel
theorem dX3_append_5 : decode cX3_append 5 = .ok (.invokestatic 49, 3) := by decide +kernel
theorem dX3_append_8 : decode cX3_append 8 = .ok (.aload_n 0, 1) := by decide +kernel
theorem dX3_append_9 : decode cX3_append 9 = .ok (.getfield 37, 3) := by decide +kernel
theorem dX3_append_12 : decode cX3_append 12 = .ok (.getfield 126, 3) := by decide +kernel
theorem dX3_append_15 : decode cX3_append 15 = .ok (.bipush 60, 2) := by decide +kernel
theorem dX3_append_17 : decode cX3_append 17 = .ok (.if_icmp .lt 13, 3) := by decide +kernel
theorem dX3_append_20 : decode cX3_append 20 = .ok (.new 116, 3) := by decide +kernel
theorem dX3_append_23 : decode cX3_append 23 = .ok (.dup, 1) := by decide +kernel
theorem dX3_append_24 : decode cX3_append 24 = .ok (.ldc 129, 2) := by decide +kernel
theorem dX3_append_26 : decode cX3_append 26 = .ok (.invokespecial 120, 3) := by decide +kernel
theorem dX3_append_29 : decode cX3_append 29 = .ok (.athrow, 1) := by decide +kernel
theorem dX3_append_30 : decode cX3_append 30 = .ok (.aload_n 0, 1) := by decide +kernel
theorem dX3_append_31 : decode cX3_append 31 = .ok (.getfield 37, 3) := by decide +kernel
theorem dX3_append_34 : decode cX3_append 34 = .ok (.getfield 131, 3) := by decide +kernel
theorem dX3_append_37 : decode cX3_append 37 = .ok (.aload_n 0, 1) := by decide +kernel
theorem dX3_append_38 : decode cX3_append 38 = .ok (.getfield 37, 3) := by decide +kernel
theorem dX3_append_41 : decode cX3_append 41 = .ok (.getfield 126, 3) := by decide +kernel
theorem dX3_append_44 : decode cX3_append 44 = .ok (.iload_n 1, 1) := by decide +kernel
theorem dX3_append_45 : decode cX3_append 45 = .ok (.iastore, 1) := by decide +kernel
theorem dX3_append_46 : decode cX3_append 46 = .ok (.aload_n 0, 1) := by decide +kernel
theorem dX3_append_47 : decode cX3_append 47 = .ok (.getfield 37, 3) := by decide +kernel
theorem dX3_append_50 : decode cX3_append 50 = .ok (.dup, 1) := by decide +kernel
theorem dX3_append_51 : decode cX3_append 51 = .ok (.getfield 126, 3) := by decide +kernel
theorem dX3_append_54 : decode cX3_append 54 = .ok (.iconst 1, 1) := by decide +kernel
theorem dX3_append_55 : decode cX3_append 55 = .ok (.iadd, 1) := by decide +kernel
theorem dX3_append_56 : decode cX3_append 56 = .ok (.putfield 126, 3) := by decide +kernel
theorem dX3_append_59 : decode cX3_append 59 = .ok (.aload_n 0, 1) := by decide +kernel
theorem dX3_append_60 : decode cX3_append 60 = .ok (.getfield 37, 3) := by decide +kernel
theorem dX3_append_63 : decode cX3_append 63 = .ok (.getfield 126, 3) := by decide +kernel
theorem dX3_append_66 : decode cX3_append 66 = .ok (.ireturn, 1) := by decide +kernel
theorem dX3_clearBuffer_0 : decode cX3_clearBuffer 0 = .ok (.aload_n 0, 1) := by decide +kernel
theorem dX3_clearBuffer_1 : decode cX3_clearBuffer 1 = .ok (.getfield 37, 3) := by decide +kernel
theorem dX3_clearBuffer_4 : decode cX3_clearBuffer 4 = .ok (.getfield 126, 3) := by decide +kernel
theorem dX3_clearBuffer_7 : decode cX3_clearBuffer 7 = .ok (.istore_n 1, 1) := by decide +kernel
theorem dX3_clearBuffer_8 : decode cX3_clearBuffer 8 = .ok (.aload_n 0, 1) := by decide +kernel
theorem dX3_clearBuffer_9 : decode cX3_clearBuffer 9 = .ok (.getfield 37, 3) := by decide +kernel
theorem dX3_clearBuffer_12 : decode cX3_clearBuffer 12 = .ok (.iconst 0, 1) := by decide +kernel
theorem dX3_clearBuffer_13 : decode cX3_clearBuffer 13 = .ok (.putfield 126, 3) := by decide +kernel
theorem dX3_clearBuffer_16 : decode cX3_clearBuffer 16 = .ok (.iload_n 1, 1) := by decide +kernel
theorem dX3_clearBuffer_17 : decode cX3_clearBuffer 17 = .ok (.ireturn, 1) := by decide +kernel
theorem dX3_firstError_0 : decode cX3_firstError 0 = .ok (.aload_n 0, 1) := by decide +kernel
theorem dX3_firstError_1 : decode cX3_firstError 1 = .ok (.getfield 37, 3) := by decide +kernel
theorem dX3_firstError_4 : decode cX3_firstError 4 = .ok (.invokevirtual 134, 3) := by decide +kernel
theorem dX3_firstError_7 : decode cX3_firstError 7 = .ok (.ireturn, 1) := by decide +kernel
theorem dX3_load_0 : decode cX3_load 0 = .ok (.aload_n 0, 1) := by decide +kernel
theorem dX3_load_1 : decode cX3_load 1 = .ok (.getfield 37, 3) := by decide +kernel
theorem dX3_load_4 : decode cX3_load 4 = .ok (.invokevirtual 137, 3) := by decide +kernel
theorem dX3_load_7 : decode cX3_load 7 = .ok (.ifCond .ne 13, 3) := by decide +kernel
theorem dX3_load_10 : decode cX3_load 10 = .ok (.new 141, 3) := by decide +kernel
theorem dX3_load_13 : decode cX3_load 13 = .ok (.dup, 1) := by decide +kernel
theorem dX3_load_14 : decode cX3_load 14 = .ok (.ldc 143, 2) := by decide +kernel
theorem dX3_load_16 : decode cX3_load 16 = .ok (.invokespecial 145, 3) := by decide +kernel
theorem dX3_load_19 : decode cX3_load 19 = .ok (.athrow, 1) := by decide +kernel
theorem dX3_load_20 : decode cX3_load 20 = .ok (.aload_n 0, 1) := by decide +kernel
theorem dX3_load_21 : decode cX3_load 21 = .ok (.invokevirtual 53, 3) := by decide +kernel
theorem dX3_load_24 : decode cX3_load 24 = .ok (.aload_n 0, 1) := by decide +kernel
theorem dX3_load_25 : decode cX3_load 25 = .ok (.getfield 37, 3) := by decide +kernel
theorem dX3_load_28 : decode cX3_load 28 = .ok (.aload_n 0, 1) := by decide +kernel
theorem dX3_load_29 : decode cX3_load 29 = .ok (.getfield 10, 3) := by decide +kernel
theorem dX3_load_32 : decode cX3_load 32 = .ok (.invokevirtual 146, 3) := by decide +kernel
theorem dX3_load_35 : decode cX3_load 35 = .ok (.aload_n 0, 1) := by decide +kernel
theorem dX3_load_36 : decode cX3_load 36 = .ok (.getfield 37, 3) := by decide +kernel
theorem dX3_load_39 : decode cX3_load 39 = .ok (.iconst 0, 1) := by decide +kernel
theorem dX3_load_40 : decode cX3_load 40 = .ok (.putfield 126, 3) := by decide +kernel
theorem dX3_load_43 : decode cX3_load 43 = .ok (.aload_n 0, 1) := by decide +kernel
theorem dX3_load_44 : decode cX3_load 44 = .ok (.getfield 10, 3) := by decide +kernel
theorem dX3_load_47 : decode cX3_load 47 = .ok (.invokevirtual 150, 3) := by decide +kernel
theorem dX3_load_50 : decode cX3_load 50 = .ok (.ireturn, 1) := by decide +kernel
theorem dX3_keep_0 : decode cX3_keep 0 = .ok (.iload_n 1, 1) := by decide +kernel
theorem dX3_keep_1 : decode cX3_keep 1 = .ok (.iconst 0, 1) := by decide +kernel
theorem dX3_keep_2 : decode cX3_keep 2 = .ok (.iconst 1, 1) := by decide +kernel
theorem dX3_keep_3 : decode cX3_keep 3 = .ok (.invokestatic 49, 3) := by decide +kernel
theorem dX3_keep_6 : decode cX3_keep 6 = .ok (.aload_n 0, 1) := by decide +kernel
theorem dX3_keep_7 : decode cX3_keep 7 = .ok (.getfield 16, 3) := by decide +kernel
theorem dX3_keep_10 : decode cX3_keep 10 = .ok (.iload_n 1, 1) := by decide +kernel
theorem dX3_keep_11 : decode cX3_keep 11 = .ok (.aaload, 1) := by decide +kernel
theorem dX3_keep_12 : decode cX3_keep 12 = .ok (.aload_n 0, 1) := by decide +kernel
theorem dX3_keep_13 : decode cX3_keep 13 = .ok (.getfield 10, 3) := by decide +kernel
theorem dX3_keep_16 : decode cX3_keep 16 = .ok (.invokevirtual 153, 3) := by decide +kernel
theorem dX3_keep_19 : decode cX3_keep 19 = .ok (.aload_n 0, 1) := by decide +kernel
theorem dX3_keep_20 : decode cX3_keep 20 = .ok (.getfield 20, 3) := by decide +kernel
theorem dX3_keep_23 : decode cX3_keep 23 = .ok (.iload_n 1, 1) := by decide +kernel
theorem dX3_keep_24 : decode cX3_keep 24 = .ok (.iconst 1, 1) := by decide +kernel
theorem dX3_keep_25 : decode cX3_keep 25 = .ok (.bastore, 1) := by decide +kernel
theorem dX3_keep_26 : decode cX3_keep 26 = .ok (.aload_n 0, 1) := by decide +kernel
theorem dX3_keep_27 : decode cX3_keep 27 = .ok (.getfield 10, 3) := by decide +kernel
theorem dX3_keep_30 : decode cX3_keep 30 = .ok (.getfield 156, 3) := by decide +kernel
theorem dX3_keep_33 : decode cX3_keep 33 = .ok (.ireturn, 1) := by decide +kernel
theorem dX3_goBack_0 : decode cX3_goBack 0 = .ok (.iload_n 1, 1) := by decide +kernel
theorem dX3_goBack_1 : decode cX3_goBack 1 = .ok (.iconst 0, 1) := by decide +kernel
theorem dX3_goBack_2 : decode cX3_goBack 2 = .ok (.iconst 1, 1) := by decide +kernel
theorem dX3_goBack_3 : decode cX3_goBack 3 = .ok (.invokestatic 49, 3) := by decide +kernel
theorem dX3_goBack_6 : decode cX3_goBack 6 = .ok (.aload_n 0, 1) := by decide +kernel
theorem dX3_goBack_7 : decode cX3_goBack 7 = .ok (.getfield 20, 3) := by decide +kernel
theorem dX3_goBack_10 : decode cX3_goBack 10 = .ok (.iload_n 1, 1) := by decide +kernel
theorem dX3_goBack_11 : decode cX3_goBack 11 = .ok (.baload, 1) := by decide +kernel
theorem dX3_goBack_12 : decode cX3_goBack 12 = .ok (.ifCond .ne 13, 3) := by decide +kernel
theorem dX3_goBack_15 : decode cX3_goBack 15 = .ok (.new 116, 3) := by decide +kernel
theorem dX3_goBack_18 : decode cX3_goBack 18 = .ok (.dup, 1) := by decide +kernel
theorem dX3_goBack_19 : decode cX3_goBack 19 = .ok (.ldc 159, 2) := by decide +kernel
theorem dX3_goBack_21 : decode cX3_goBack 21 = .ok (.invokespecial 120, 3) := by decide +kernel
theorem dX3_goBack_24 : decode cX3_goBack 24 = .ok (.athrow, 1) := by decide +kernel
theorem dX3_goBack_25 : decode cX3_goBack 25 = .ok (.aload_n 0, 1) := by decide +kernel
theorem dX3_goBack_26 : decode cX3_goBack 26 = .ok (.invokevirtual 53, 3) := by decide +kernel
theorem dX3_goBack_29 : decode cX3_goBack 29 = .ok (.aload_n 0, 1) := by decide +kernel
theorem dX3_goBack_30 : decode cX3_goBack 30 = .ok (.getfield 10, 3) := by decide +kernel
theorem dX3_goBack_33 : decode cX3_goBack 33 = .ok (.aload_n 0, 1) := by decide +kernel
theorem dX3_goBack_34 : decode cX3_goBack 34 = .ok (.getfield 16, 3) := by decide +kernel
theorem dX3_goBack_37 : decode cX3_goBack 37 = .ok (.iload_n 1, 1) := by decide +kernel
theorem dX3_goBack_38 : decode cX3_goBack 38 = .ok (.aaload, 1) := by decide +kernel
theorem dX3_goBack_39 : decode cX3_goBack 39 = .ok (.invokevirtual 153, 3) := by decide +kernel
theorem dX3_goBack_42 : decode cX3_goBack 42 = .ok (.aload_n 0, 1) := by decide +kernel
theorem dX3_goBack_43 : decode cX3_goBack 43 = .ok (.getfield 10, 3) := by decide +kernel
theorem dX3_goBack_46 : decode cX3_goBack 46 = .ok (.getfield 156, 3) := by decide +kernel
theorem dX3_goBack_49 : decode cX3_goBack 49 = .ok (.ireturn, 1) := by decide +kernel
theorem dX3_undo_0 : decode cX3_undo 0 = .ok (.aload_n 0, 1) := by decide +kernel
theorem dX3_undo_1 : decode cX3_undo 1 = .ok (.getfield 31, 3) := by decide +kernel
theorem dX3_undo_4 : decode cX3_undo 4 = .ok (.ifCond .gt 13, 3) := by decide +kernel
theorem dX3_undo_7 : decode cX3_undo 7 = .ok (.new 116, 3) := by decide +kernel
theorem dX3_undo_10 : decode cX3_undo 10 = .ok (.dup, 1) := by decide +kernel
theorem dX3_undo_11 : decode cX3_undo 11 = .ok (.ldc 161, 2) := by decide +kernel
theorem dX3_undo_13 : decode cX3_undo 13 = .ok (.invokespecial 120, 3) := by decide +kernel
theorem dX3_undo_16 : decode cX3_undo 16 = .ok (.athrow, 1) := by decide +kernel
theorem dX3_undo_17 : decode cX3_undo 17 = .ok (.aload_n 0, 1) := by decide +kernel
theorem dX3_undo_18 : decode cX3_undo 18 = .ok (.aload_n 0, 1) := by decide +kernel
theorem dX3_undo_19 : decode cX3_undo 19 = .ok (.getfield 27, 3) := by decide +kernel
theorem dX3_undo_22 : decode cX3_undo 22 = .ok (.ifCond .le 12, 3) := by decide +kernel
theorem dX3_undo_25 : decode cX3_undo 25 = .ok (.aload_n 0, 1) := by decide +kernel
theorem dX3_undo_26 : decode cX3_undo 26 = .ok (.getfield 27, 3) := by decide +kernel
theorem dX3_undo_29 : decode cX3_undo 29 = .ok (.iconst 1, 1) := by decide +kernel
theorem dX3_undo_30 : decode cX3_undo 30 = .ok (.isub, 1) := by decide +kernel
theorem dX3_undo_31 : decode cX3_undo 31 = .ok (.goto 4, 3) := by decide +kernel
theorem dX3_undo_34 : decode cX3_undo 34 = .ok (.iconst 5, 1) := by decide +kernel
theorem dX3_undo_35 : decode cX3_undo 35 = .ok (.putfield 27, 3) := by decide +kernel
theorem dX3_undo_38 : decode cX3_undo 38 = .ok (.aload_n 0, 1) := by decide +kernel
theorem dX3_undo_39 : decode cX3_undo 39 = .ok (.dup, 1) := by decide +kernel
theorem dX3_undo_40 : decode cX3_undo 40 = .ok (.getfield 31, 3) := by decide +kernel
theorem dX3_undo_43 : decode cX3_undo 43 = .ok (.iconst 1, 1) := by decide +kernel
theorem dX3_undo_44 : decode cX3_undo 44 = .ok (.isub, 1) := by decide +kernel
theorem dX3_undo_45 : decode cX3_undo 45 = .ok (.putfield 31, 3) := by decide +kernel
theorem dX3_undo_48 : decode cX3_undo 48 = .ok (.aload_n 0, 1) := by decide +kernel
theorem dX3_undo_49 : decode cX3_undo 49 = .ok (.getfield 10, 3) := by decide +kernel
theorem dX3_undo_52 : decode cX3_undo 52 = .ok (.aload_n 0, 1) := by decide +kernel
theorem dX3_undo_53 : decode cX3_undo 53 = .ok (.getfield 24, 3) := by decide +kernel
theorem dX3_undo_56 : decode cX3_undo 56 = .ok (.aload_n 0, 1) := by decide +kernel
theorem dX3_undo_57 : decode cX3_undo 57 = .ok (.getfield 27, 3) := by decide +kernel
theorem dX3_undo_60 : decode cX3_undo 60 = .ok (.aaload, 1) := by decide +kernel
theorem dX3_undo_61 : decode cX3_undo 61 = .ok (.invokevirtual 153, 3) := by decide +kernel
theorem dX3_undo_64 : decode cX3_undo 64 = .ok (.aload_n 0, 1) := by decide +kernel
theorem dX3_undo_65 : decode cX3_undo 65 = .ok (.getfield 31, 3) := by decide +kernel
theorem dX3_undo_68 : decode cX3_undo 68 = .ok (.ireturn, 1) := by decide +kernel
theorem dX3_hourOf_0 : decode cX3_hourOf 0 = .ok (.iload_n 1, 1) := by decide +kernel
theorem dX3_hourOf_1 : decode cX3_hourOf 1 = .ok (.bipush 24, 2) := by decide +kernel
theorem dX3_hourOf_3 : decode cX3_hourOf 3 = .ok (.invokestatic 45, 3) := by decide +kernel
theorem dX3_hourOf_6 : decode cX3_hourOf 6 = .ok (.iload_n 2, 1) := by decide +kernel
theorem dX3_hourOf_7 : decode cX3_hourOf 7 = .ok (.iconst 0, 1) := by decide +kernel
theorem dX3_hourOf_8 : decode cX3_hourOf 8 = .ok (.iconst 4, 1) := by decide +kernel
theorem dX3_hourOf_9 : decode cX3_hourOf 9 = .ok (.invokestatic 49, 3) := by decide +kernel
theorem dX3_hourOf_12 : decode cX3_hourOf 12 = .ok (.iload_n 2, 1) := by decide +kernel
theorem dX3_hourOf_13 : decode cX3_hourOf 13 = .ok (.tableswitch 69 0 3 #[31, 41, 51, 60], 31) := by decide +kernel
theorem dX3_hourOf_44 : decode cX3_hourOf 44 = .ok (.aload_n 0, 1) := by decide +kernel
theorem dX3_hourOf_45 : decode cX3_hourOf 45 = .ok (.getfield 10, 3) := by decide +kernel
theorem dX3_hourOf_48 : decode cX3_hourOf 48 = .ok (.getfield 56, 3) := by decide +kernel
theorem dX3_hourOf_51 : decode cX3_hourOf 51 = .ok (.iload_n 1, 1) := by decide +kernel
theorem dX3_hourOf_52 : decode cX3_hourOf 52 = .ok (.iaload, 1) := by decide +kernel
theorem dX3_hourOf_53 : decode cX3_hourOf 53 = .ok (.ireturn, 1) := by decide +kernel
theorem dX3_hourOf_54 : decode cX3_hourOf 54 = .ok (.aload_n 0, 1) := by decide +kernel
theorem dX3_hourOf_55 : decode cX3_hourOf 55 = .ok (.getfield 10, 3) := by decide +kernel
theorem dX3_hourOf_58 : decode cX3_hourOf 58 = .ok (.getfield 59, 3) := by decide +kernel
theorem dX3_hourOf_61 : decode cX3_hourOf 61 = .ok (.iload_n 1, 1) := by decide +kernel
theorem dX3_hourOf_62 : decode cX3_hourOf 62 = .ok (.iaload, 1) := by decide +kernel
theorem dX3_hourOf_63 : decode cX3_hourOf 63 = .ok (.ireturn, 1) := by decide +kernel
theorem dX3_hourOf_64 : decode cX3_hourOf 64 = .ok (.aload_n 0, 1) := by decide +kernel
theorem dX3_hourOf_65 : decode cX3_hourOf 65 = .ok (.getfield 10, 3) := by decide +kernel
theorem dX3_hourOf_68 : decode cX3_hourOf 68 = .ok (.iload_n 1, 1) := by decide +kernel
theorem dX3_hourOf_69 : decode cX3_hourOf 69 = .ok (.invokevirtual 163, 3) := by decide +kernel
theorem dX3_hourOf_72 : decode cX3_hourOf 72 = .ok (.ireturn, 1) := by decide +kernel
theorem dX3_hourOf_73 : decode cX3_hourOf 73 = .ok (.aload_n 0, 1) := by decide +kernel
theorem dX3_hourOf_74 : decode cX3_hourOf 74 = .ok (.getfield 10, 3) := by decide +kernel
theorem dX3_hourOf_77 : decode cX3_hourOf 77 = .ok (.iload_n 1, 1) := by decide +kernel
theorem dX3_hourOf_78 : decode cX3_hourOf 78 = .ok (.invokevirtual 167, 3) := by decide +kernel
theorem dX3_hourOf_81 : decode cX3_hourOf 81 = .ok (.ireturn, 1) := by decide +kernel
theorem dX3_hourOf_82 : decode cX3_hourOf 82 = .ok (.aload_n 0, 1) := by decide +kernel
theorem dX3_hourOf_83 : decode cX3_hourOf 83 = .ok (.getfield 10, 3) := by decide +kernel
theorem dX3_hourOf_86 : decode cX3_hourOf 86 = .ok (.iload_n 1, 1) := by decide +kernel
theorem dX3_hourOf_87 : decode cX3_hourOf 87 = .ok (.invokevirtual 170, 3) := by decide +kernel
theorem dX3_hourOf_90 : decode cX3_hourOf 90 = .ok (.ireturn, 1) := by decide +kernel
theorem dX3_vaneOf_0 : decode cX3_vaneOf 0 = .ok (.iload_n 1, 1) := by decide +kernel
theorem dX3_vaneOf_1 : decode cX3_vaneOf 1 = .ok (.bipush 6, 2) := by decide +kernel
theorem dX3_vaneOf_3 : decode cX3_vaneOf 3 = .ok (.invokestatic 45, 3) := by decide +kernel
theorem dX3_vaneOf_6 : decode cX3_vaneOf 6 = .ok (.iload_n 2, 1) := by decide +kernel
theorem dX3_vaneOf_7 : decode cX3_vaneOf 7 = .ok (.iconst 0, 1) := by decide +kernel
theorem dX3_vaneOf_8 : decode cX3_vaneOf 8 = .ok (.iconst 5, 1) := by decide +kernel
theorem dX3_vaneOf_9 : decode cX3_vaneOf 9 = .ok (.invokestatic 49, 3) := by decide +kernel
theorem dX3_vaneOf_12 : decode cX3_vaneOf 12 = .ok (.iload_n 2, 1) := by decide +kernel
theorem dX3_vaneOf_13 : decode cX3_vaneOf 13 = .ok (.iconst 4, 1) := by decide +kernel
theorem dX3_vaneOf_14 : decode cX3_vaneOf 14 = .ok (.if_icmp .ge 15, 3) := by decide +kernel
theorem dX3_vaneOf_17 : decode cX3_vaneOf 17 = .ok (.aload_n 0, 1) := by decide +kernel
theorem dX3_vaneOf_18 : decode cX3_vaneOf 18 = .ok (.getfield 10, 3) := by decide +kernel
theorem dX3_vaneOf_21 : decode cX3_vaneOf 21 = .ok (.getfield 65, 3) := by decide +kernel
theorem dX3_vaneOf_24 : decode cX3_vaneOf 24 = .ok (.iload_n 1, 1) := by decide +kernel
theorem dX3_vaneOf_25 : decode cX3_vaneOf 25 = .ok (.aaload, 1) := by decide +kernel
theorem dX3_vaneOf_26 : decode cX3_vaneOf 26 = .ok (.iload_n 2, 1) := by decide +kernel
theorem dX3_vaneOf_27 : decode cX3_vaneOf 27 = .ok (.iaload, 1) := by decide +kernel
theorem dX3_vaneOf_28 : decode cX3_vaneOf 28 = .ok (.ireturn, 1) := by decide +kernel
theorem dX3_vaneOf_29 : decode cX3_vaneOf 29 = .ok (.iload_n 2, 1) := by decide +kernel
theorem dX3_vaneOf_30 : decode cX3_vaneOf 30 = .ok (.iconst 4, 1) := by decide +kernel
theorem dX3_vaneOf_31 : decode cX3_vaneOf 31 = .ok (.if_icmp .ne 14, 3) := by decide +kernel
theorem dX3_vaneOf_34 : decode cX3_vaneOf 34 = .ok (.aload_n 0, 1) := by decide +kernel
theorem dX3_vaneOf_35 : decode cX3_vaneOf 35 = .ok (.getfield 10, 3) := by decide +kernel
theorem dX3_vaneOf_38 : decode cX3_vaneOf 38 = .ok (.iload_n 1, 1) := by decide +kernel
theorem dX3_vaneOf_39 : decode cX3_vaneOf 39 = .ok (.invokevirtual 173, 3) := by decide +kernel
theorem dX3_vaneOf_42 : decode cX3_vaneOf 42 = .ok (.goto 11, 3) := by decide +kernel
theorem dX3_vaneOf_45 : decode cX3_vaneOf 45 = .ok (.aload_n 0, 1) := by decide +kernel
theorem dX3_vaneOf_46 : decode cX3_vaneOf 46 = .ok (.getfield 10, 3) := by decide +kernel
theorem dX3_vaneOf_49 : decode cX3_vaneOf 49 = .ok (.iload_n 1, 1) := by decide +kernel
theorem dX3_vaneOf_50 : decode cX3_vaneOf 50 = .ok (.invokevirtual 176, 3) := by decide +kernel
theorem dX3_vaneOf_53 : decode cX3_vaneOf 53 = .ok (.ireturn, 1) := by decide +kernel
theorem dX3_millOf_0 : decode cX3_millOf 0 = .ok (.iload_n 1, 1) := by decide +kernel
theorem dX3_millOf_1 : decode cX3_millOf 1 = .ok (.iconst 3, 1) := by decide +kernel
theorem dX3_millOf_2 : decode cX3_millOf 2 = .ok (.invokestatic 45, 3) := by decide +kernel
theorem dX3_millOf_5 : decode cX3_millOf 5 = .ok (.iload_n 2, 1) := by decide +kernel
theorem dX3_millOf_6 : decode cX3_millOf 6 = .ok (.iconst 0, 1) := by decide +kernel
theorem dX3_millOf_7 : decode cX3_millOf 7 = .ok (.iconst 5, 1) := by decide +kernel
theorem dX3_millOf_8 : decode cX3_millOf 8 = .ok (.invokestatic 49, 3) := by decide +kernel
theorem dX3_millOf_11 : decode cX3_millOf 11 = .ok (.aload_n 0, 1) := by decide +kernel
theorem dX3_millOf_12 : decode cX3_millOf 12 = .ok (.getfield 10, 3) := by decide +kernel
theorem dX3_millOf_15 : decode cX3_millOf 15 = .ok (.getfield 69, 3) := by decide +kernel
theorem dX3_millOf_18 : decode cX3_millOf 18 = .ok (.iload_n 1, 1) := by decide +kernel
theorem dX3_millOf_19 : decode cX3_millOf 19 = .ok (.aaload, 1) := by decide +kernel
theorem dX3_millOf_20 : decode cX3_millOf 20 = .ok (.astore_n 3, 1) := by decide +kernel
theorem dX3_millOf_21 : decode cX3_millOf 21 = .ok (.iload_n 2, 1) := by decide +kernel
theorem dX3_millOf_22 : decode cX3_millOf 22 = .ok (.tableswitch 72 0 4 #[34, 39, 44, 49, 54], 34) := by decide +kernel
theorem dX3_millOf_56 : decode cX3_millOf 56 = .ok (.aload_n 3, 1) := by decide +kernel
theorem dX3_millOf_57 : decode cX3_millOf 57 = .ok (.getfield 73, 3) := by decide +kernel
theorem dX3_millOf_60 : decode cX3_millOf 60 = .ok (.ireturn, 1) := by decide +kernel
theorem dX3_millOf_61 : decode cX3_millOf 61 = .ok (.aload_n 3, 1) := by decide +kernel
theorem dX3_millOf_62 : decode cX3_millOf 62 = .ok (.getfield 87, 3) := by decide +kernel
theorem dX3_millOf_65 : decode cX3_millOf 65 = .ok (.ireturn, 1) := by decide +kernel
theorem dX3_millOf_66 : decode cX3_millOf 66 = .ok (.aload_n 3, 1) := by decide +kernel
theorem dX3_millOf_67 : decode cX3_millOf 67 = .ok (.invokevirtual 99, 3) := by decide +kernel
theorem dX3_millOf_70 : decode cX3_millOf 70 = .ok (.ireturn, 1) := by decide +kernel
theorem dX3_millOf_71 : decode cX3_millOf 71 = .ok (.aload_n 3, 1) := by decide +kernel
theorem dX3_millOf_72 : decode cX3_millOf 72 = .ok (.getfield 179, 3) := by decide +kernel
theorem dX3_millOf_75 : decode cX3_millOf 75 = .ok (.ireturn, 1) := by decide +kernel
theorem dX3_millOf_76 : decode cX3_millOf 76 = .ok (.aload_n 3, 1) := by decide +kernel
theorem dX3_millOf_77 : decode cX3_millOf 77 = .ok (.getfield 87, 3) := by decide +kernel
theorem dX3_millOf_80 : decode cX3_millOf 80 = .ok (.ifCond .le 12, 3) := by decide +kernel
theorem dX3_millOf_83 : decode cX3_millOf 83 = .ok (.aload_n 3, 1) := by decide +kernel
theorem dX3_millOf_84 : decode cX3_millOf 84 = .ok (.getfield 109, 3) := by decide +kernel
theorem dX3_millOf_87 : decode cX3_millOf 87 = .ok (.iconst 0, 1) := by decide +kernel
theorem dX3_millOf_88 : decode cX3_millOf 88 = .ok (.iaload, 1) := by decide +kernel
theorem dX3_millOf_89 : decode cX3_millOf 89 = .ok (.goto 4, 3) := by decide +kernel
theorem dX3_millOf_92 : decode cX3_millOf 92 = .ok (.iconst (-1), 1) := by decide +kernel
theorem dX3_millOf_93 : decode cX3_millOf 93 = .ok (.ireturn, 1) := by decide +kernel
theorem dX3_millOf_94 : decode cX3_millOf 94 = .ok (.aload_n 0, 1) := by decide +kernel
theorem dX3_millOf_95 : decode cX3_millOf 95 = .ok (.getfield 10, 3) := by decide +kernel
theorem dX3_millOf_98 : decode cX3_millOf 98 = .ok (.aload_n 3, 1) := by decide +kernel
theorem dX3_millOf_99 : decode cX3_millOf 99 = .ok (.aload_n 0, 1) := by decide +kernel
theorem dX3_millOf_100 : decode cX3_millOf 100 = .ok (.getfield 41, 3) := by decide +kernel
theorem dX3_millOf_103 : decode cX3_millOf 103 = .ok (.invokevirtual 182, 3) := by decide +kernel
theorem dX3_millOf_106 : decode cX3_millOf 106 = .ok (.ireturn, 1) := by decide +kernel
theorem dX3_ownerOf_0 : decode cX3_ownerOf 0 = .ok (.iload_n 1, 1) := by decide +kernel
theorem dX3_ownerOf_1 : decode cX3_ownerOf 1 = .ok (.iconst 5, 1) := by decide +kernel
theorem dX3_ownerOf_2 : decode cX3_ownerOf 2 = .ok (.invokestatic 45, 3) := by decide +kernel
theorem dX3_ownerOf_5 : decode cX3_ownerOf 5 = .ok (.iload_n 2, 1) := by decide +kernel
theorem dX3_ownerOf_6 : decode cX3_ownerOf 6 = .ok (.iconst 0, 1) := by decide +kernel
theorem dX3_ownerOf_7 : decode cX3_ownerOf 7 = .ok (.iconst 3, 1) := by decide +kernel
theorem dX3_ownerOf_8 : decode cX3_ownerOf 8 = .ok (.invokestatic 49, 3) := by decide +kernel
theorem dX3_ownerOf_11 : decode cX3_ownerOf 11 = .ok (.iload_n 2, 1) := by decide +kernel
theorem dX3_ownerOf_12 : decode cX3_ownerOf 12 = .ok (.tableswitch 57 0 2 #[28, 37, 47], 28) := by decide +kernel
theorem dX3_ownerOf_40 : decode cX3_ownerOf 40 = .ok (.aload_n 0, 1) := by decide +kernel
theorem dX3_ownerOf_41 : decode cX3_ownerOf 41 = .ok (.getfield 10, 3) := by decide +kernel
theorem dX3_ownerOf_44 : decode cX3_ownerOf 44 = .ok (.iload_n 1, 1) := by decide +kernel
theorem dX3_ownerOf_45 : decode cX3_ownerOf 45 = .ok (.invokevirtual 186, 3) := by decide +kernel
theorem dX3_ownerOf_48 : decode cX3_ownerOf 48 = .ok (.ireturn, 1) := by decide +kernel
theorem dX3_ownerOf_49 : decode cX3_ownerOf 49 = .ok (.aload_n 0, 1) := by decide +kernel
theorem dX3_ownerOf_50 : decode cX3_ownerOf 50 = .ok (.getfield 10, 3) := by decide +kernel
theorem dX3_ownerOf_53 : decode cX3_ownerOf 53 = .ok (.getfield 189, 3) := by decide +kernel
theorem dX3_ownerOf_56 : decode cX3_ownerOf 56 = .ok (.iload_n 1, 1) := by decide +kernel
theorem dX3_ownerOf_57 : decode cX3_ownerOf 57 = .ok (.iaload, 1) := by decide +kernel
theorem dX3_ownerOf_58 : decode cX3_ownerOf 58 = .ok (.ireturn, 1) := by decide +kernel
theorem dX3_ownerOf_59 : decode cX3_ownerOf 59 = .ok (.aload_n 0, 1) := by decide +kernel
theorem dX3_ownerOf_60 : decode cX3_ownerOf 60 = .ok (.getfield 10, 3) := by decide +kernel
theorem dX3_ownerOf_63 : decode cX3_ownerOf 63 = .ok (.getfield 96, 3) := by decide +kernel
theorem dX3_ownerOf_66 : decode cX3_ownerOf 66 = .ok (.iload_n 1, 1) := by decide +kernel
theorem dX3_ownerOf_67 : decode cX3_ownerOf 67 = .ok (.iaload, 1) := by decide +kernel
theorem dX3_ownerOf_68 : decode cX3_ownerOf 68 = .ok (.ireturn, 1) := by decide +kernel
theorem dX3_ownerOf_69 : decode cX3_ownerOf 69 = .ok (.aload_n 0, 1) := by decide +kernel
theorem dX3_ownerOf_70 : decode cX3_ownerOf 70 = .ok (.getfield 10, 3) := by decide +kernel
theorem dX3_ownerOf_73 : decode cX3_ownerOf 73 = .ok (.getfield 106, 3) := by decide +kernel
theorem dX3_ownerOf_76 : decode cX3_ownerOf 76 = .ok (.iload_n 1, 1) := by decide +kernel
theorem dX3_ownerOf_77 : decode cX3_ownerOf 77 = .ok (.iaload, 1) := by decide +kernel
theorem dX3_ownerOf_78 : decode cX3_ownerOf 78 = .ok (.ireturn, 1) := by decide +kernel
theorem dX3_count_0 : decode cX3_count 0 = .ok (.iload_n 1, 1) := by decide +kernel
theorem dX3_count_1 : decode cX3_count 1 = .ok (.iconst 0, 1) := by decide +kernel
theorem dX3_count_2 : decode cX3_count 2 = .ok (.bipush 8, 2) := by decide +kernel
theorem dX3_count_4 : decode cX3_count 4 = .ok (.invokestatic 49, 3) := by decide +kernel
theorem dX3_count_7 : decode cX3_count 7 = .ok (.iload_n 1, 1) := by decide +kernel
theorem dX3_count_8 : decode cX3_count 8 = .ok (.tableswitch 112 0 7 #[48, 56, 64, 72, 80, 88, 96, 104], 48) := by decide +kernel
theorem dX3_count_56 : decode cX3_count 56 = .ok (.aload_n 0, 1) := by decide +kernel
theorem dX3_count_57 : decode cX3_count 57 = .ok (.getfield 10, 3) := by decide +kernel
theorem dX3_count_60 : decode cX3_count 60 = .ok (.getfield 156, 3) := by decide +kernel
theorem dX3_count_63 : decode cX3_count 63 = .ok (.ireturn, 1) := by decide +kernel
theorem dX3_count_64 : decode cX3_count 64 = .ok (.aload_n 0, 1) := by decide +kernel
theorem dX3_count_65 : decode cX3_count 65 = .ok (.getfield 10, 3) := by decide +kernel
theorem dX3_count_68 : decode cX3_count 68 = .ok (.getfield 112, 3) := by decide +kernel
theorem dX3_count_71 : decode cX3_count 71 = .ok (.ireturn, 1) := by decide +kernel
theorem dX3_count_72 : decode cX3_count 72 = .ok (.aload_n 0, 1) := by decide +kernel
theorem dX3_count_73 : decode cX3_count 73 = .ok (.getfield 10, 3) := by decide +kernel
theorem dX3_count_76 : decode cX3_count 76 = .ok (.getfield 192, 3) := by decide +kernel
theorem dX3_count_79 : decode cX3_count 79 = .ok (.ireturn, 1) := by decide +kernel
theorem dX3_count_80 : decode cX3_count 80 = .ok (.aload_n 0, 1) := by decide +kernel
theorem dX3_count_81 : decode cX3_count 81 = .ok (.getfield 10, 3) := by decide +kernel
theorem dX3_count_84 : decode cX3_count 84 = .ok (.invokevirtual 195, 3) := by decide +kernel
theorem dX3_count_87 : decode cX3_count 87 = .ok (.ireturn, 1) := by decide +kernel
theorem dX3_count_88 : decode cX3_count 88 = .ok (.aload_n 0, 1) := by decide +kernel
theorem dX3_count_89 : decode cX3_count 89 = .ok (.getfield 10, 3) := by decide +kernel
theorem dX3_count_92 : decode cX3_count 92 = .ok (.invokevirtual 150, 3) := by decide +kernel
theorem dX3_count_95 : decode cX3_count 95 = .ok (.ireturn, 1) := by decide +kernel
theorem dX3_count_96 : decode cX3_count 96 = .ok (.aload_n 0, 1) := by decide +kernel
theorem dX3_count_97 : decode cX3_count 97 = .ok (.getfield 10, 3) := by decide +kernel
theorem dX3_count_100 : decode cX3_count 100 = .ok (.invokevirtual 198, 3) := by decide +kernel
theorem dX3_count_103 : decode cX3_count 103 = .ok (.ireturn, 1) := by decide +kernel
theorem dX3_count_104 : decode cX3_count 104 = .ok (.aload_n 0, 1) := by decide +kernel
theorem dX3_count_105 : decode cX3_count 105 = .ok (.getfield 10, 3) := by decide +kernel
theorem dX3_count_108 : decode cX3_count 108 = .ok (.invokevirtual 199, 3) := by decide +kernel
theorem dX3_count_111 : decode cX3_count 111 = .ok (.ireturn, 1) := by decide +kernel
theorem dX3_count_112 : decode cX3_count 112 = .ok (.aload_n 0, 1) := by decide +kernel
theorem dX3_count_113 : decode cX3_count 113 = .ok (.getfield 10, 3) := by decide +kernel
theorem dX3_count_116 : decode cX3_count 116 = .ok (.getfield 90, 3) := by decide +kernel
theorem dX3_count_119 : decode cX3_count 119 = .ok (.ireturn, 1) := by decide +kernel
theorem dX3_count_120 : decode cX3_count 120 = .ok (.aload_n 0, 1) := by decide +kernel
theorem dX3_count_121 : decode cX3_count 121 = .ok (.getfield 31, 3) := by decide +kernel
theorem dX3_count_124 : decode cX3_count 124 = .ok (.ireturn, 1) := by decide +kernel
theorem dX3_setting_0 : decode cX3_setting 0 = .ok (.iload_n 1, 1) := by decide +kernel
theorem dX3_setting_1 : decode cX3_setting 1 = .ok (.iconst 2, 1) := by decide +kernel
theorem dX3_setting_2 : decode cX3_setting 2 = .ok (.invokestatic 45, 3) := by decide +kernel
theorem dX3_setting_5 : decode cX3_setting 5 = .ok (.aload_n 0, 1) := by decide +kernel
theorem dX3_setting_6 : decode cX3_setting 6 = .ok (.getfield 10, 3) := by decide +kernel
theorem dX3_setting_9 : decode cX3_setting 9 = .ok (.getfield 84, 3) := by decide +kernel
theorem dX3_setting_12 : decode cX3_setting 12 = .ok (.iload_n 1, 1) := by decide +kernel
theorem dX3_setting_13 : decode cX3_setting 13 = .ok (.iaload, 1) := by decide +kernel
theorem dX3_setting_14 : decode cX3_setting 14 = .ok (.ireturn, 1) := by decide +kernel
theorem dX3_doneIn_0 : decode cX3_doneIn 0 = .ok (.iload_n 1, 1) := by decide +kernel
theorem dX3_doneIn_1 : decode cX3_doneIn 1 = .ok (.iconst 3, 1) := by decide +kernel
theorem dX3_doneIn_2 : decode cX3_doneIn 2 = .ok (.invokestatic 45, 3) := by decide +kernel
theorem dX3_doneIn_5 : decode cX3_doneIn 5 = .ok (.iload_n 2, 1) := by decide +kernel
theorem dX3_doneIn_6 : decode cX3_doneIn 6 = .ok (.iconst 0, 1) := by decide +kernel
theorem dX3_doneIn_7 : decode cX3_doneIn 7 = .ok (.iconst 1, 1) := by decide +kernel
theorem dX3_doneIn_8 : decode cX3_doneIn 8 = .ok (.invokestatic 49, 3) := by decide +kernel
theorem dX3_doneIn_11 : decode cX3_doneIn 11 = .ok (.aload_n 0, 1) := by decide +kernel
theorem dX3_doneIn_12 : decode cX3_doneIn 12 = .ok (.getfield 10, 3) := by decide +kernel
theorem dX3_doneIn_15 : decode cX3_doneIn 15 = .ok (.getfield 69, 3) := by decide +kernel
theorem dX3_doneIn_18 : decode cX3_doneIn 18 = .ok (.iload_n 1, 1) := by decide +kernel
theorem dX3_doneIn_19 : decode cX3_doneIn 19 = .ok (.aaload, 1) := by decide +kernel
theorem dX3_doneIn_20 : decode cX3_doneIn 20 = .ok (.astore_n 3, 1) := by decide +kernel
theorem dX3_doneIn_21 : decode cX3_doneIn 21 = .ok (.aload_n 3, 1) := by decide +kernel
theorem dX3_doneIn_22 : decode cX3_doneIn 22 = .ok (.invokevirtual 99, 3) := by decide +kernel
theorem dX3_doneIn_25 : decode cX3_doneIn 25 = .ok (.istore 4, 2) := by decide +kernel
theorem dX3_doneIn_27 : decode cX3_doneIn 27 = .ok (.iload 4, 2) := by decide +kernel
theorem dX3_doneIn_29 : decode cX3_doneIn 29 = .ok (.ifCond .ne 5, 3) := by decide +kernel
theorem dX3_doneIn_32 : decode cX3_doneIn 32 = .ok (.iconst 0, 1) := by decide +kernel
theorem dX3_doneIn_33 : decode cX3_doneIn 33 = .ok (.ireturn, 1) := by decide +kernel
theorem dX3_doneIn_34 : decode cX3_doneIn 34 = .ok (.aload_n 0, 1) := by decide +kernel
theorem dX3_doneIn_35 : decode cX3_doneIn 35 = .ok (.getfield 10, 3) := by decide +kernel
theorem dX3_doneIn_38 : decode cX3_doneIn 38 = .ok (.aload_n 3, 1) := by decide +kernel
theorem dX3_doneIn_39 : decode cX3_doneIn 39 = .ok (.aload_n 0, 1) := by decide +kernel
theorem dX3_doneIn_40 : decode cX3_doneIn 40 = .ok (.getfield 41, 3) := by decide +kernel
theorem dX3_doneIn_43 : decode cX3_doneIn 43 = .ok (.invokevirtual 182, 3) := by decide +kernel
theorem dX3_doneIn_46 : decode cX3_doneIn 46 = .ok (.istore 5, 2) := by decide +kernel
theorem dX3_doneIn_48 : decode cX3_doneIn 48 = .ok (.iload 5, 2) := by decide +kernel
theorem dX3_doneIn_50 : decode cX3_doneIn 50 = .ok (.ifCond .gt 5, 3) := by decide +kernel
theorem dX3_doneIn_53 : decode cX3_doneIn 53 = .ok (.iconst (-1), 1) := by decide +kernel
theorem dX3_doneIn_54 : decode cX3_doneIn 54 = .ok (.ireturn, 1) := by decide +kernel
theorem dX3_doneIn_55 : decode cX3_doneIn 55 = .ok (.iload_n 2, 1) := by decide +kernel
theorem dX3_doneIn_56 : decode cX3_doneIn 56 = .ok (.ifCond .ne 10, 3) := by decide +kernel
theorem dX3_doneIn_59 : decode cX3_doneIn 59 = .ok (.aload_n 0, 1) := by decide +kernel
theorem dX3_doneIn_60 : decode cX3_doneIn 60 = .ok (.iload 4, 2) := by decide +kernel
theorem dX3_doneIn_62 : decode cX3_doneIn 62 = .ok (.invokevirtual 202, 3) := by decide +kernel
theorem dX3_doneIn_65 : decode cX3_doneIn 65 = .ok (.ireturn, 1) := by decide +kernel
theorem dX3_doneIn_66 : decode cX3_doneIn 66 = .ok (.iload 4, 2) := by decide +kernel
theorem dX3_doneIn_68 : decode cX3_doneIn 68 = .ok (.iconst 1, 1) := by decide +kernel
theorem dX3_doneIn_69 : decode cX3_doneIn 69 = .ok (.isub, 1) := by decide +kernel
theorem dX3_doneIn_70 : decode cX3_doneIn 70 = .ok (.iload 5, 2) := by decide +kernel
theorem dX3_doneIn_72 : decode cX3_doneIn 72 = .ok (.idiv, 1) := by decide +kernel
theorem dX3_doneIn_73 : decode cX3_doneIn 73 = .ok (.istore 6, 2) := by decide +kernel
theorem dX3_doneIn_75 : decode cX3_doneIn 75 = .ok (.iload 6, 2) := by decide +kernel
theorem dX3_doneIn_77 : decode cX3_doneIn 77 = .ok (.bipush 24, 2) := by decide +kernel
theorem dX3_doneIn_79 : decode cX3_doneIn 79 = .ok (.imul, 1) := by decide +kernel
theorem dX3_doneIn_80 : decode cX3_doneIn 80 = .ok (.aload_n 0, 1) := by decide +kernel
theorem dX3_doneIn_81 : decode cX3_doneIn 81 = .ok (.iload 4, 2) := by decide +kernel
theorem dX3_doneIn_83 : decode cX3_doneIn 83 = .ok (.iload 6, 2) := by decide +kernel
theorem dX3_doneIn_85 : decode cX3_doneIn 85 = .ok (.iload 5, 2) := by decide +kernel
theorem dX3_doneIn_87 : decode cX3_doneIn 87 = .ok (.imul, 1) := by decide +kernel
theorem dX3_doneIn_88 : decode cX3_doneIn 88 = .ok (.isub, 1) := by decide +kernel
theorem dX3_doneIn_89 : decode cX3_doneIn 89 = .ok (.invokevirtual 202, 3) := by decide +kernel
theorem dX3_doneIn_92 : decode cX3_doneIn 92 = .ok (.iadd, 1) := by decide +kernel
theorem dX3_doneIn_93 : decode cX3_doneIn 93 = .ok (.ireturn, 1) := by decide +kernel
theorem dX3_ifPassed_0 : decode cX3_ifPassed 0 = .ok (.iload_n 1, 1) := by decide +kernel
theorem dX3_ifPassed_1 : decode cX3_ifPassed 1 = .ok (.iconst 5, 1) := by decide +kernel
theorem dX3_ifPassed_2 : decode cX3_ifPassed 2 = .ok (.invokestatic 45, 3) := by decide +kernel
theorem dX3_ifPassed_5 : decode cX3_ifPassed 5 = .ok (.iload_n 2, 1) := by decide +kernel
theorem dX3_ifPassed_6 : decode cX3_ifPassed 6 = .ok (.iconst 1, 1) := by decide +kernel
theorem dX3_ifPassed_7 : decode cX3_ifPassed 7 = .ok (.bipush 99, 2) := by decide +kernel
theorem dX3_ifPassed_9 : decode cX3_ifPassed 9 = .ok (.invokestatic 49, 3) := by decide +kernel
theorem dX3_ifPassed_12 : decode cX3_ifPassed 12 = .ok (.iconst 0, 1) := by decide +kernel
theorem dX3_ifPassed_13 : decode cX3_ifPassed 13 = .ok (.istore_n 3, 1) := by decide +kernel
theorem dX3_ifPassed_14 : decode cX3_ifPassed 14 = .ok (.iconst 0, 1) := by decide +kernel
theorem dX3_ifPassed_15 : decode cX3_ifPassed 15 = .ok (.istore 4, 2) := by decide +kernel
theorem dX3_ifPassed_17 : decode cX3_ifPassed 17 = .ok (.iload 4, 2) := by decide +kernel
theorem dX3_ifPassed_19 : decode cX3_ifPassed 19 = .ok (.iconst 3, 1) := by decide +kernel
theorem dX3_ifPassed_20 : decode cX3_ifPassed 20 = .ok (.if_icmp .ge 97, 3) := by decide +kernel
theorem dX3_ifPassed_23 : decode cX3_ifPassed 23 = .ok (.aload_n 0, 1) := by decide +kernel
theorem dX3_ifPassed_24 : decode cX3_ifPassed 24 = .ok (.getfield 10, 3) := by decide +kernel
theorem dX3_ifPassed_27 : decode cX3_ifPassed 27 = .ok (.getfield 69, 3) := by decide +kernel
theorem dX3_ifPassed_30 : decode cX3_ifPassed 30 = .ok (.iload 4, 2) := by decide +kernel
theorem dX3_ifPassed_32 : decode cX3_ifPassed 32 = .ok (.aaload, 1) := by decide +kernel
theorem dX3_ifPassed_33 : decode cX3_ifPassed 33 = .ok (.astore 5, 2) := by decide +kernel
theorem dX3_ifPassed_35 : decode cX3_ifPassed 35 = .ok (.aload_n 0, 1) := by decide +kernel
theorem dX3_ifPassed_36 : decode cX3_ifPassed 36 = .ok (.getfield 10, 3) := by decide +kernel
theorem dX3_ifPassed_39 : decode cX3_ifPassed 39 = .ok (.aload 5, 2) := by decide +kernel
theorem dX3_ifPassed_41 : decode cX3_ifPassed 41 = .ok (.aload_n 0, 1) := by decide +kernel
theorem dX3_ifPassed_42 : decode cX3_ifPassed 42 = .ok (.getfield 41, 3) := by decide +kernel
theorem dX3_ifPassed_45 : decode cX3_ifPassed 45 = .ok (.invokevirtual 182, 3) := by decide +kernel
theorem dX3_ifPassed_48 : decode cX3_ifPassed 48 = .ok (.istore 6, 2) := by decide +kernel
theorem dX3_ifPassed_50 : decode cX3_ifPassed 50 = .ok (.iload_n 2, 1) := by decide +kernel
theorem dX3_ifPassed_51 : decode cX3_ifPassed 51 = .ok (.bipush 24, 2) := by decide +kernel
theorem dX3_ifPassed_53 : decode cX3_ifPassed 53 = .ok (.idiv, 1) := by decide +kernel
theorem dX3_ifPassed_54 : decode cX3_ifPassed 54 = .ok (.iload 6, 2) := by decide +kernel
theorem dX3_ifPassed_56 : decode cX3_ifPassed 56 = .ok (.imul, 1) := by decide +kernel
theorem dX3_ifPassed_57 : decode cX3_ifPassed 57 = .ok (.istore 7, 2) := by decide +kernel
theorem dX3_ifPassed_59 : decode cX3_ifPassed 59 = .ok (.iconst 0, 1) := by decide +kernel
theorem dX3_ifPassed_60 : decode cX3_ifPassed 60 = .ok (.istore 8, 2) := by decide +kernel
theorem dX3_ifPassed_62 : decode cX3_ifPassed 62 = .ok (.iload 8, 2) := by decide +kernel
theorem dX3_ifPassed_64 : decode cX3_ifPassed 64 = .ok (.iload_n 2, 1) := by decide +kernel
theorem dX3_ifPassed_65 : decode cX3_ifPassed 65 = .ok (.bipush 24, 2) := by decide +kernel
theorem dX3_ifPassed_67 : decode cX3_ifPassed 67 = .ok (.irem, 1) := by decide +kernel
theorem dX3_ifPassed_68 : decode cX3_ifPassed 68 = .ok (.if_icmp .ge 32, 3) := by decide +kernel
theorem dX3_ifPassed_71 : decode cX3_ifPassed 71 = .ok (.iload 7, 2) := by decide +kernel
theorem dX3_ifPassed_73 : decode cX3_ifPassed 73 = .ok (.aload_n 0, 1) := by decide +kernel
theorem dX3_ifPassed_74 : decode cX3_ifPassed 74 = .ok (.getfield 41, 3) := by decide +kernel
theorem dX3_ifPassed_77 : decode cX3_ifPassed 77 = .ok (.aload_n 0, 1) := by decide +kernel
theorem dX3_ifPassed_78 : decode cX3_ifPassed 78 = .ok (.getfield 10, 3) := by decide +kernel
theorem dX3_ifPassed_81 : decode cX3_ifPassed 81 = .ok (.getfield 156, 3) := by decide +kernel
theorem dX3_ifPassed_84 : decode cX3_ifPassed 84 = .ok (.iload 8, 2) := by decide +kernel
theorem dX3_ifPassed_86 : decode cX3_ifPassed 86 = .ok (.iadd, 1) := by decide +kernel
theorem dX3_ifPassed_87 : decode cX3_ifPassed 87 = .ok (.bipush 24, 2) := by decide +kernel
theorem dX3_ifPassed_89 : decode cX3_ifPassed 89 = .ok (.irem, 1) := by decide +kernel
theorem dX3_ifPassed_90 : decode cX3_ifPassed 90 = .ok (.iaload, 1) := by decide +kernel
theorem dX3_ifPassed_91 : decode cX3_ifPassed 91 = .ok (.iadd, 1) := by decide +kernel
theorem dX3_ifPassed_92 : decode cX3_ifPassed 92 = .ok (.istore 7, 2) := by decide +kernel
theorem dX3_ifPassed_94 : decode cX3_ifPassed 94 = .ok (.iinc 8 1, 3) := by decide +kernel
theorem dX3_ifPassed_97 : decode cX3_ifPassed 97 = .ok (.goto (-35), 3) := by decide +kernel
theorem dX3_ifPassed_100 : decode cX3_ifPassed 100 = .ok (.iload_n 3, 1) := by decide +kernel
theorem dX3_ifPassed_101 : decode cX3_ifPassed 101 = .ok (.aload 5, 2) := by decide +kernel
theorem dX3_ifPassed_103 : decode cX3_ifPassed 103 = .ok (.iload_n 1, 1) := by decide +kernel
theorem dX3_ifPassed_104 : decode cX3_ifPassed 104 = .ok (.iload 7, 2) := by decide +kernel
theorem dX3_ifPassed_106 : decode cX3_ifPassed 106 = .ok (.invokevirtual 205, 3) := by decide +kernel
theorem dX3_ifPassed_109 : decode cX3_ifPassed 109 = .ok (.iadd, 1) := by decide +kernel
theorem dX3_ifPassed_110 : decode cX3_ifPassed 110 = .ok (.istore_n 3, 1) := by decide +kernel
theorem dX3_ifPassed_111 : decode cX3_ifPassed 111 = .ok (.iinc 4 1, 3) := by decide +kernel
theorem dX3_ifPassed_114 : decode cX3_ifPassed 114 = .ok (.goto (-97), 3) := by decide +kernel
theorem dX3_ifPassed_117 : decode cX3_ifPassed 117 = .ok (.iload_n 3, 1) := by decide +kernel
theorem dX3_ifPassed_118 : decode cX3_ifPassed 118 = .ok (.ireturn, 1) := by decide +kernel
theorem dX3_turnsIn_0 : decode cX3_turnsIn 0 = .ok (.iconst 0, 1) := by decide +kernel
theorem dX3_turnsIn_1 : decode cX3_turnsIn 1 = .ok (.istore_n 1, 1) := by decide +kernel
theorem dX3_turnsIn_2 : decode cX3_turnsIn 2 = .ok (.iload_n 1, 1) := by decide +kernel
theorem dX3_turnsIn_3 : decode cX3_turnsIn 3 = .ok (.bipush 24, 2) := by decide +kernel
theorem dX3_turnsIn_5 : decode cX3_turnsIn 5 = .ok (.if_icmp .ge 33, 3) := by decide +kernel
theorem dX3_turnsIn_8 : decode cX3_turnsIn 8 = .ok (.aload_n 0, 1) := by decide +kernel
theorem dX3_turnsIn_9 : decode cX3_turnsIn 9 = .ok (.getfield 10, 3) := by decide +kernel
theorem dX3_turnsIn_12 : decode cX3_turnsIn 12 = .ok (.aload_n 0, 1) := by decide +kernel
theorem dX3_turnsIn_13 : decode cX3_turnsIn 13 = .ok (.getfield 10, 3) := by decide +kernel
theorem dX3_turnsIn_16 : decode cX3_turnsIn 16 = .ok (.getfield 156, 3) := by decide +kernel
theorem dX3_turnsIn_19 : decode cX3_turnsIn 19 = .ok (.iload_n 1, 1) := by decide +kernel
theorem dX3_turnsIn_20 : decode cX3_turnsIn 20 = .ok (.iadd, 1) := by decide +kernel
theorem dX3_turnsIn_21 : decode cX3_turnsIn 21 = .ok (.bipush 24, 2) := by decide +kernel
theorem dX3_turnsIn_23 : decode cX3_turnsIn 23 = .ok (.irem, 1) := by decide +kernel
theorem dX3_turnsIn_24 : decode cX3_turnsIn 24 = .ok (.invokevirtual 167, 3) := by decide +kernel
theorem dX3_turnsIn_27 : decode cX3_turnsIn 27 = .ok (.ifCond .ne 5, 3) := by decide +kernel
theorem dX3_turnsIn_30 : decode cX3_turnsIn 30 = .ok (.iload_n 1, 1) := by decide +kernel
theorem dX3_turnsIn_31 : decode cX3_turnsIn 31 = .ok (.ireturn, 1) := by decide +kernel
theorem dX3_turnsIn_32 : decode cX3_turnsIn 32 = .ok (.iinc 1 1, 3) := by decide +kernel
theorem dX3_turnsIn_35 : decode cX3_turnsIn 35 = .ok (.goto (-33), 3) := by decide +kernel
theorem dX3_turnsIn_38 : decode cX3_turnsIn 38 = .ok (.iconst (-1), 1) := by decide +kernel
theorem dX3_turnsIn_39 : decode cX3_turnsIn 39 = .ok (.ireturn, 1) := by decide +kernel
theorem dX3_mainVane_0 : decode cX3_mainVane 0 = .ok (.iconst 0, 1) := by decide +kernel
theorem dX3_mainVane_1 : decode cX3_mainVane 1 = .ok (.istore_n 1, 1) := by decide +kernel
theorem dX3_mainVane_2 : decode cX3_mainVane 2 = .ok (.aload_n 0, 1) := by decide +kernel
theorem dX3_mainVane_3 : decode cX3_mainVane 3 = .ok (.getfield 10, 3) := by decide +kernel
theorem dX3_mainVane_6 : decode cX3_mainVane 6 = .ok (.iconst 0, 1) := by decide +kernel
theorem dX3_mainVane_7 : decode cX3_mainVane 7 = .ok (.invokevirtual 176, 3) := by decide +kernel
theorem dX3_mainVane_10 : decode cX3_mainVane 10 = .ok (.istore_n 2, 1) := by decide +kernel
theorem dX3_mainVane_11 : decode cX3_mainVane 11 = .ok (.iconst 1, 1) := by decide +kernel
theorem dX3_mainVane_12 : decode cX3_mainVane 12 = .ok (.istore_n 3, 1) := by decide +kernel
theorem dX3_mainVane_13 : decode cX3_mainVane 13 = .ok (.iload_n 3, 1) := by decide +kernel
theorem dX3_mainVane_14 : decode cX3_mainVane 14 = .ok (.bipush 6, 2) := by decide +kernel
theorem dX3_mainVane_16 : decode cX3_mainVane 16 = .ok (.if_icmp .ge 30, 3) := by decide +kernel
theorem dX3_mainVane_19 : decode cX3_mainVane 19 = .ok (.aload_n 0, 1) := by decide +kernel
theorem dX3_mainVane_20 : decode cX3_mainVane 20 = .ok (.getfield 10, 3) := by decide +kernel
theorem dX3_mainVane_23 : decode cX3_mainVane 23 = .ok (.iload_n 3, 1) := by decide +kernel
theorem dX3_mainVane_24 : decode cX3_mainVane 24 = .ok (.invokevirtual 176, 3) := by decide +kernel
theorem dX3_mainVane_27 : decode cX3_mainVane 27 = .ok (.istore 4, 2) := by decide +kernel
theorem dX3_mainVane_29 : decode cX3_mainVane 29 = .ok (.iload 4, 2) := by decide +kernel
theorem dX3_mainVane_31 : decode cX3_mainVane 31 = .ok (.iload_n 2, 1) := by decide +kernel
theorem dX3_mainVane_32 : decode cX3_mainVane 32 = .ok (.if_icmp .le 8, 3) := by decide +kernel
theorem dX3_mainVane_35 : decode cX3_mainVane 35 = .ok (.iload_n 3, 1) := by decide +kernel
theorem dX3_mainVane_36 : decode cX3_mainVane 36 = .ok (.istore_n 1, 1) := by decide +kernel
theorem dX3_mainVane_37 : decode cX3_mainVane 37 = .ok (.iload 4, 2) := by decide +kernel
theorem dX3_mainVane_39 : decode cX3_mainVane 39 = .ok (.istore_n 2, 1) := by decide +kernel
theorem dX3_mainVane_40 : decode cX3_mainVane 40 = .ok (.iinc 3 1, 3) := by decide +kernel
theorem dX3_mainVane_43 : decode cX3_mainVane 43 = .ok (.goto (-30), 3) := by decide +kernel
theorem dX3_mainVane_46 : decode cX3_mainVane 46 = .ok (.iload_n 1, 1) := by decide +kernel
theorem dX3_mainVane_47 : decode cX3_mainVane 47 = .ok (.ireturn, 1) := by decide +kernel
theorem dX3_turnShare_0 : decode cX3_turnShare 0 = .ok (.aload_n 0, 1) := by decide +kernel
theorem dX3_turnShare_1 : decode cX3_turnShare 1 = .ok (.getfield 10, 3) := by decide +kernel
theorem dX3_turnShare_4 : decode cX3_turnShare 4 = .ok (.invokevirtual 150, 3) := by decide +kernel
theorem dX3_turnShare_7 : decode cX3_turnShare 7 = .ok (.i2d, 1) := by decide +kernel
theorem dX3_turnShare_8 : decode cX3_turnShare 8 = .ok (.ldc2_w 209, 3) := by decide +kernel
theorem dX3_turnShare_11 : decode cX3_turnShare 11 = .ok (.ddiv, 1) := by decide +kernel
theorem dX3_turnShare_12 : decode cX3_turnShare 12 = .ok (.dreturn, 1) := by decide +kernel
theorem dX3_digest_0 : decode cX3_digest 0 = .ok (.ldc2_w 211, 3) := by decide +kernel
theorem dX3_digest_3 : decode cX3_digest 3 = .ok (.lstore_n 1, 1) := by decide +kernel
theorem dX3_digest_4 : decode cX3_digest 4 = .ok (.iconst 0, 1) := by decide +kernel
theorem dX3_digest_5 : decode cX3_digest 5 = .ok (.istore_n 3, 1) := by decide +kernel
theorem dX3_digest_6 : decode cX3_digest 6 = .ok (.iload_n 3, 1) := by decide +kernel
theorem dX3_digest_7 : decode cX3_digest 7 = .ok (.bipush 8, 2) := by decide +kernel
theorem dX3_digest_9 : decode cX3_digest 9 = .ok (.if_icmp .gt 22, 3) := by decide +kernel
theorem dX3_digest_12 : decode cX3_digest 12 = .ok (.ldc2_w 213, 3) := by decide +kernel
theorem dX3_digest_15 : decode cX3_digest 15 = .ok (.lload_n 1, 1) := by decide +kernel
theorem dX3_digest_16 : decode cX3_digest 16 = .ok (.lmul, 1) := by decide +kernel
theorem dX3_digest_17 : decode cX3_digest 17 = .ok (.aload_n 0, 1) := by decide +kernel
theorem dX3_digest_18 : decode cX3_digest 18 = .ok (.iload_n 3, 1) := by decide +kernel
theorem dX3_digest_19 : decode cX3_digest 19 = .ok (.invokevirtual 215, 3) := by decide +kernel
theorem dX3_digest_22 : decode cX3_digest 22 = .ok (.i2l, 1) := by decide +kernel
theorem dX3_digest_23 : decode cX3_digest 23 = .ok (.ladd, 1) := by decide +kernel
theorem dX3_digest_24 : decode cX3_digest 24 = .ok (.lstore_n 1, 1) := by decide +kernel
theorem dX3_digest_25 : decode cX3_digest 25 = .ok (.iinc 3 1, 3) := by decide +kernel
theorem dX3_digest_28 : decode cX3_digest 28 = .ok (.goto (-22), 3) := by decide +kernel
theorem dX3_digest_31 : decode cX3_digest 31 = .ok (.iconst 0, 1) := by decide +kernel
theorem dX3_digest_32 : decode cX3_digest 32 = .ok (.istore_n 3, 1) := by decide +kernel
theorem dX3_digest_33 : decode cX3_digest 33 = .ok (.iload_n 3, 1) := by decide +kernel
theorem dX3_digest_34 : decode cX3_digest 34 = .ok (.iconst 2, 1) := by decide +kernel
theorem dX3_digest_35 : decode cX3_digest 35 = .ok (.if_icmp .ge 22, 3) := by decide +kernel
theorem dX3_digest_38 : decode cX3_digest 38 = .ok (.ldc2_w 213, 3) := by decide +kernel
theorem dX3_digest_41 : decode cX3_digest 41 = .ok (.lload_n 1, 1) := by decide +kernel
theorem dX3_digest_42 : decode cX3_digest 42 = .ok (.lmul, 1) := by decide +kernel
theorem dX3_digest_43 : decode cX3_digest 43 = .ok (.aload_n 0, 1) := by decide +kernel
theorem dX3_digest_44 : decode cX3_digest 44 = .ok (.iload_n 3, 1) := by decide +kernel
theorem dX3_digest_45 : decode cX3_digest 45 = .ok (.invokevirtual 218, 3) := by decide +kernel
theorem dX3_digest_48 : decode cX3_digest 48 = .ok (.i2l, 1) := by decide +kernel
theorem dX3_digest_49 : decode cX3_digest 49 = .ok (.ladd, 1) := by decide +kernel
theorem dX3_digest_50 : decode cX3_digest 50 = .ok (.lstore_n 1, 1) := by decide +kernel
theorem dX3_digest_51 : decode cX3_digest 51 = .ok (.iinc 3 1, 3) := by decide +kernel
theorem dX3_digest_54 : decode cX3_digest 54 = .ok (.goto (-21), 3) := by decide +kernel
theorem dX3_digest_57 : decode cX3_digest 57 = .ok (.iconst 0, 1) := by decide +kernel
theorem dX3_digest_58 : decode cX3_digest 58 = .ok (.istore_n 3, 1) := by decide +kernel
theorem dX3_digest_59 : decode cX3_digest 59 = .ok (.iload_n 3, 1) := by decide +kernel
theorem dX3_digest_60 : decode cX3_digest 60 = .ok (.bipush 24, 2) := by decide +kernel
theorem dX3_digest_62 : decode cX3_digest 62 = .ok (.if_icmp .ge 39, 3) := by decide +kernel
theorem dX3_digest_65 : decode cX3_digest 65 = .ok (.iconst 0, 1) := by decide +kernel
theorem dX3_digest_66 : decode cX3_digest 66 = .ok (.istore 4, 2) := by decide +kernel
theorem dX3_digest_68 : decode cX3_digest 68 = .ok (.iload 4, 2) := by decide +kernel
theorem dX3_digest_70 : decode cX3_digest 70 = .ok (.iconst 4, 1) := by decide +kernel
theorem dX3_digest_71 : decode cX3_digest 71 = .ok (.if_icmp .gt 24, 3) := by decide +kernel
theorem dX3_digest_74 : decode cX3_digest 74 = .ok (.ldc2_w 213, 3) := by decide +kernel
theorem dX3_digest_77 : decode cX3_digest 77 = .ok (.lload_n 1, 1) := by decide +kernel
theorem dX3_digest_78 : decode cX3_digest 78 = .ok (.lmul, 1) := by decide +kernel
theorem dX3_digest_79 : decode cX3_digest 79 = .ok (.aload_n 0, 1) := by decide +kernel
theorem dX3_digest_80 : decode cX3_digest 80 = .ok (.iload_n 3, 1) := by decide +kernel
theorem dX3_digest_81 : decode cX3_digest 81 = .ok (.iload 4, 2) := by decide +kernel
theorem dX3_digest_83 : decode cX3_digest 83 = .ok (.invokevirtual 221, 3) := by decide +kernel
theorem dX3_digest_86 : decode cX3_digest 86 = .ok (.i2l, 1) := by decide +kernel
theorem dX3_digest_87 : decode cX3_digest 87 = .ok (.ladd, 1) := by decide +kernel
theorem dX3_digest_88 : decode cX3_digest 88 = .ok (.lstore_n 1, 1) := by decide +kernel
theorem dX3_digest_89 : decode cX3_digest 89 = .ok (.iinc 4 1, 3) := by decide +kernel
theorem dX3_digest_92 : decode cX3_digest 92 = .ok (.goto (-24), 3) := by decide +kernel
theorem dX3_digest_95 : decode cX3_digest 95 = .ok (.iinc 3 1, 3) := by decide +kernel
theorem dX3_digest_98 : decode cX3_digest 98 = .ok (.goto (-39), 3) := by decide +kernel
theorem dX3_digest_101 : decode cX3_digest 101 = .ok (.iconst 0, 1) := by decide +kernel
theorem dX3_digest_102 : decode cX3_digest 102 = .ok (.istore_n 3, 1) := by decide +kernel
theorem dX3_digest_103 : decode cX3_digest 103 = .ok (.iload_n 3, 1) := by decide +kernel
end
section
theorem dX3_digest_104 : decode cX3_digest 104 = .ok (.bipush 6, 2) := by decide +kernel
theorem dX3_digest_106 : decode cX3_digest 106 = .ok (.if_icmp .ge 39, 3) := by decide +kernel
theorem dX3_digest_109 : decode cX3_digest 109 = .ok (.iconst 0, 1) := by decide +kernel
theorem dX3_digest_110 : decode cX3_digest 110 = .ok (.istore 4, 2) := by decide +kernel
theorem dX3_digest_112 : decode cX3_digest 112 = .ok (.iload 4, 2) := by decide +kernel
theorem dX3_digest_114 : decode cX3_digest 114 = .ok (.iconst 5, 1) := by decide +kernel
theorem dX3_digest_115 : decode cX3_digest 115 = .ok (.if_icmp .gt 24, 3) := by decide +kernel
theorem dX3_digest_118 : decode cX3_digest 118 = .ok (.ldc2_w 213, 3) := by decide +kernel
theorem dX3_digest_121 : decode cX3_digest 121 = .ok (.lload_n 1, 1) := by decide +kernel
theorem dX3_digest_122 : decode cX3_digest 122 = .ok (.lmul, 1) := by decide +kernel
theorem dX3_digest_123 : decode cX3_digest 123 = .ok (.aload_n 0, 1) := by decide +kernel
theorem dX3_digest_124 : decode cX3_digest 124 = .ok (.iload_n 3, 1) := by decide +kernel
theorem dX3_digest_125 : decode cX3_digest 125 = .ok (.iload 4, 2) := by decide +kernel
theorem dX3_digest_127 : decode cX3_digest 127 = .ok (.invokevirtual 224, 3) := by decide +kernel
theorem dX3_digest_130 : decode cX3_digest 130 = .ok (.i2l, 1) := by decide +kernel
theorem dX3_digest_131 : decode cX3_digest 131 = .ok (.ladd, 1) := by decide +kernel
theorem dX3_digest_132 : decode cX3_digest 132 = .ok (.lstore_n 1, 1) := by decide +kernel
theorem dX3_digest_133 : decode cX3_digest 133 = .ok (.iinc 4 1, 3) := by decide +kernel
theorem dX3_digest_136 : decode cX3_digest 136 = .ok (.goto (-24), 3) := by decide +kernel
theorem dX3_digest_139 : decode cX3_digest 139 = .ok (.iinc 3 1, 3) := by decide +kernel
theorem dX3_digest_142 : decode cX3_digest 142 = .ok (.goto (-39), 3) := by decide +kernel
theorem dX3_digest_145 : decode cX3_digest 145 = .ok (.iconst 0, 1) := by decide +kernel
theorem dX3_digest_146 : decode cX3_digest 146 = .ok (.istore_n 3, 1) := by decide +kernel
theorem dX3_digest_147 : decode cX3_digest 147 = .ok (.iload_n 3, 1) := by decide +kernel
theorem dX3_digest_148 : decode cX3_digest 148 = .ok (.iconst 3, 1) := by decide +kernel
theorem dX3_digest_149 : decode cX3_digest 149 = .ok (.if_icmp .ge 67, 3) := by decide +kernel
theorem dX3_digest_152 : decode cX3_digest 152 = .ok (.iconst 0, 1) := by decide +kernel
theorem dX3_digest_153 : decode cX3_digest 153 = .ok (.istore 4, 2) := by decide +kernel
theorem dX3_digest_155 : decode cX3_digest 155 = .ok (.iload 4, 2) := by decide +kernel
theorem dX3_digest_157 : decode cX3_digest 157 = .ok (.iconst 5, 1) := by decide +kernel
theorem dX3_digest_158 : decode cX3_digest 158 = .ok (.if_icmp .gt 24, 3) := by decide +kernel
theorem dX3_digest_161 : decode cX3_digest 161 = .ok (.ldc2_w 213, 3) := by decide +kernel
theorem dX3_digest_164 : decode cX3_digest 164 = .ok (.lload_n 1, 1) := by decide +kernel
theorem dX3_digest_165 : decode cX3_digest 165 = .ok (.lmul, 1) := by decide +kernel
theorem dX3_digest_166 : decode cX3_digest 166 = .ok (.aload_n 0, 1) := by decide +kernel
theorem dX3_digest_167 : decode cX3_digest 167 = .ok (.iload_n 3, 1) := by decide +kernel
theorem dX3_digest_168 : decode cX3_digest 168 = .ok (.iload 4, 2) := by decide +kernel
theorem dX3_digest_170 : decode cX3_digest 170 = .ok (.invokevirtual 227, 3) := by decide +kernel
theorem dX3_digest_173 : decode cX3_digest 173 = .ok (.i2l, 1) := by decide +kernel
theorem dX3_digest_174 : decode cX3_digest 174 = .ok (.ladd, 1) := by decide +kernel
theorem dX3_digest_175 : decode cX3_digest 175 = .ok (.lstore_n 1, 1) := by decide +kernel
theorem dX3_digest_176 : decode cX3_digest 176 = .ok (.iinc 4 1, 3) := by decide +kernel
theorem dX3_digest_179 : decode cX3_digest 179 = .ok (.goto (-24), 3) := by decide +kernel
theorem dX3_digest_182 : decode cX3_digest 182 = .ok (.ldc2_w 213, 3) := by decide +kernel
theorem dX3_digest_185 : decode cX3_digest 185 = .ok (.lload_n 1, 1) := by decide +kernel
theorem dX3_digest_186 : decode cX3_digest 186 = .ok (.lmul, 1) := by decide +kernel
theorem dX3_digest_187 : decode cX3_digest 187 = .ok (.aload_n 0, 1) := by decide +kernel
theorem dX3_digest_188 : decode cX3_digest 188 = .ok (.iload_n 3, 1) := by decide +kernel
theorem dX3_digest_189 : decode cX3_digest 189 = .ok (.iconst 0, 1) := by decide +kernel
theorem dX3_digest_190 : decode cX3_digest 190 = .ok (.invokevirtual 230, 3) := by decide +kernel
theorem dX3_digest_193 : decode cX3_digest 193 = .ok (.i2l, 1) := by decide +kernel
theorem dX3_digest_194 : decode cX3_digest 194 = .ok (.ladd, 1) := by decide +kernel
theorem dX3_digest_195 : decode cX3_digest 195 = .ok (.lstore_n 1, 1) := by decide +kernel
theorem dX3_digest_196 : decode cX3_digest 196 = .ok (.ldc2_w 213, 3) := by decide +kernel
theorem dX3_digest_199 : decode cX3_digest 199 = .ok (.lload_n 1, 1) := by decide +kernel
theorem dX3_digest_200 : decode cX3_digest 200 = .ok (.lmul, 1) := by decide +kernel
theorem dX3_digest_201 : decode cX3_digest 201 = .ok (.aload_n 0, 1) := by decide +kernel
theorem dX3_digest_202 : decode cX3_digest 202 = .ok (.iload_n 3, 1) := by decide +kernel
theorem dX3_digest_203 : decode cX3_digest 203 = .ok (.iconst 1, 1) := by decide +kernel
theorem dX3_digest_204 : decode cX3_digest 204 = .ok (.invokevirtual 230, 3) := by decide +kernel
theorem dX3_digest_207 : decode cX3_digest 207 = .ok (.i2l, 1) := by decide +kernel
theorem dX3_digest_208 : decode cX3_digest 208 = .ok (.ladd, 1) := by decide +kernel
theorem dX3_digest_209 : decode cX3_digest 209 = .ok (.lstore_n 1, 1) := by decide +kernel
theorem dX3_digest_210 : decode cX3_digest 210 = .ok (.iinc 3 1, 3) := by decide +kernel
theorem dX3_digest_213 : decode cX3_digest 213 = .ok (.goto (-66), 3) := by decide +kernel
theorem dX3_digest_216 : decode cX3_digest 216 = .ok (.iconst 0, 1) := by decide +kernel
theorem dX3_digest_217 : decode cX3_digest 217 = .ok (.istore_n 3, 1) := by decide +kernel
theorem dX3_digest_218 : decode cX3_digest 218 = .ok (.iload_n 3, 1) := by decide +kernel
theorem dX3_digest_219 : decode cX3_digest 219 = .ok (.iconst 5, 1) := by decide +kernel
theorem dX3_digest_220 : decode cX3_digest 220 = .ok (.if_icmp .ge 54, 3) := by decide +kernel
theorem dX3_digest_223 : decode cX3_digest 223 = .ok (.iconst 0, 1) := by decide +kernel
theorem dX3_digest_224 : decode cX3_digest 224 = .ok (.istore 4, 2) := by decide +kernel
theorem dX3_digest_226 : decode cX3_digest 226 = .ok (.iload 4, 2) := by decide +kernel
theorem dX3_digest_228 : decode cX3_digest 228 = .ok (.iconst 3, 1) := by decide +kernel
theorem dX3_digest_229 : decode cX3_digest 229 = .ok (.if_icmp .gt 24, 3) := by decide +kernel
theorem dX3_digest_232 : decode cX3_digest 232 = .ok (.ldc2_w 213, 3) := by decide +kernel
theorem dX3_digest_235 : decode cX3_digest 235 = .ok (.lload_n 1, 1) := by decide +kernel
theorem dX3_digest_236 : decode cX3_digest 236 = .ok (.lmul, 1) := by decide +kernel
theorem dX3_digest_237 : decode cX3_digest 237 = .ok (.aload_n 0, 1) := by decide +kernel
theorem dX3_digest_238 : decode cX3_digest 238 = .ok (.iload_n 3, 1) := by decide +kernel
theorem dX3_digest_239 : decode cX3_digest 239 = .ok (.iload 4, 2) := by decide +kernel
theorem dX3_digest_241 : decode cX3_digest 241 = .ok (.invokevirtual 233, 3) := by decide +kernel
theorem dX3_digest_244 : decode cX3_digest 244 = .ok (.i2l, 1) := by decide +kernel
theorem dX3_digest_245 : decode cX3_digest 245 = .ok (.ladd, 1) := by decide +kernel
theorem dX3_digest_246 : decode cX3_digest 246 = .ok (.lstore_n 1, 1) := by decide +kernel
theorem dX3_digest_247 : decode cX3_digest 247 = .ok (.iinc 4 1, 3) := by decide +kernel
theorem dX3_digest_250 : decode cX3_digest 250 = .ok (.goto (-24), 3) := by decide +kernel
theorem dX3_digest_253 : decode cX3_digest 253 = .ok (.ldc2_w 213, 3) := by decide +kernel
theorem dX3_digest_256 : decode cX3_digest 256 = .ok (.lload_n 1, 1) := by decide +kernel
theorem dX3_digest_257 : decode cX3_digest 257 = .ok (.lmul, 1) := by decide +kernel
theorem dX3_digest_258 : decode cX3_digest 258 = .ok (.aload_n 0, 1) := by decide +kernel
theorem dX3_digest_259 : decode cX3_digest 259 = .ok (.iload_n 3, 1) := by decide +kernel
theorem dX3_digest_260 : decode cX3_digest 260 = .ok (.bipush 9, 2) := by decide +kernel
theorem dX3_digest_262 : decode cX3_digest 262 = .ok (.invokevirtual 236, 3) := by decide +kernel
theorem dX3_digest_265 : decode cX3_digest 265 = .ok (.i2l, 1) := by decide +kernel
theorem dX3_digest_266 : decode cX3_digest 266 = .ok (.ladd, 1) := by decide +kernel
theorem dX3_digest_267 : decode cX3_digest 267 = .ok (.lstore_n 1, 1) := by decide +kernel
theorem dX3_digest_268 : decode cX3_digest 268 = .ok (.iinc 3 1, 3) := by decide +kernel
theorem dX3_digest_271 : decode cX3_digest 271 = .ok (.goto (-53), 3) := by decide +kernel
theorem dX3_digest_274 : decode cX3_digest 274 = .ok (.ldc2_w 213, 3) := by decide +kernel
theorem dX3_digest_277 : decode cX3_digest 277 = .ok (.lload_n 1, 1) := by decide +kernel
theorem dX3_digest_278 : decode cX3_digest 278 = .ok (.lmul, 1) := by decide +kernel
theorem dX3_digest_279 : decode cX3_digest 279 = .ok (.aload_n 0, 1) := by decide +kernel
theorem dX3_digest_280 : decode cX3_digest 280 = .ok (.invokevirtual 239, 3) := by decide +kernel
theorem dX3_digest_283 : decode cX3_digest 283 = .ok (.i2l, 1) := by decide +kernel
theorem dX3_digest_284 : decode cX3_digest 284 = .ok (.ladd, 1) := by decide +kernel
theorem dX3_digest_285 : decode cX3_digest 285 = .ok (.lstore_n 1, 1) := by decide +kernel
theorem dX3_digest_286 : decode cX3_digest 286 = .ok (.ldc2_w 213, 3) := by decide +kernel
theorem dX3_digest_289 : decode cX3_digest 289 = .ok (.lload_n 1, 1) := by decide +kernel
theorem dX3_digest_290 : decode cX3_digest 290 = .ok (.lmul, 1) := by decide +kernel
theorem dX3_digest_291 : decode cX3_digest 291 = .ok (.aload_n 0, 1) := by decide +kernel
theorem dX3_digest_292 : decode cX3_digest 292 = .ok (.invokevirtual 242, 3) := by decide +kernel
theorem dX3_digest_295 : decode cX3_digest 295 = .ok (.i2l, 1) := by decide +kernel
theorem dX3_digest_296 : decode cX3_digest 296 = .ok (.ladd, 1) := by decide +kernel
theorem dX3_digest_297 : decode cX3_digest 297 = .ok (.lstore_n 1, 1) := by decide +kernel
theorem dX3_digest_298 : decode cX3_digest 298 = .ok (.ldc2_w 213, 3) := by decide +kernel
theorem dX3_digest_301 : decode cX3_digest 301 = .ok (.lload_n 1, 1) := by decide +kernel
theorem dX3_digest_302 : decode cX3_digest 302 = .ok (.lmul, 1) := by decide +kernel
theorem dX3_digest_303 : decode cX3_digest 303 = .ok (.aload_n 0, 1) := by decide +kernel
theorem dX3_digest_304 : decode cX3_digest 304 = .ok (.invokevirtual 245, 3) := by decide +kernel
theorem dX3_digest_307 : decode cX3_digest 307 = .ok (.invokestatic 249, 3) := by decide +kernel
theorem dX3_digest_310 : decode cX3_digest 310 = .ok (.ladd, 1) := by decide +kernel
theorem dX3_digest_311 : decode cX3_digest 311 = .ok (.lstore_n 1, 1) := by decide +kernel
theorem dX3_digest_312 : decode cX3_digest 312 = .ok (.iconst 0, 1) := by decide +kernel
theorem dX3_digest_313 : decode cX3_digest 313 = .ok (.istore_n 3, 1) := by decide +kernel
theorem dX3_digest_314 : decode cX3_digest 314 = .ok (.iload_n 3, 1) := by decide +kernel
theorem dX3_digest_315 : decode cX3_digest 315 = .ok (.iconst 2, 1) := by decide +kernel
theorem dX3_digest_316 : decode cX3_digest 316 = .ok (.if_icmp .ge 31, 3) := by decide +kernel
theorem dX3_digest_319 : decode cX3_digest 319 = .ok (.ldc2_w 213, 3) := by decide +kernel
theorem dX3_digest_322 : decode cX3_digest 322 = .ok (.lload_n 1, 1) := by decide +kernel
theorem dX3_digest_323 : decode cX3_digest 323 = .ok (.lmul, 1) := by decide +kernel
theorem dX3_digest_324 : decode cX3_digest 324 = .ok (.aload_n 0, 1) := by decide +kernel
theorem dX3_digest_325 : decode cX3_digest 325 = .ok (.getfield 20, 3) := by decide +kernel
theorem dX3_digest_328 : decode cX3_digest 328 = .ok (.iload_n 3, 1) := by decide +kernel
theorem dX3_digest_329 : decode cX3_digest 329 = .ok (.baload, 1) := by decide +kernel
theorem dX3_digest_330 : decode cX3_digest 330 = .ok (.ifCond .eq 7, 3) := by decide +kernel
theorem dX3_digest_333 : decode cX3_digest 333 = .ok (.iconst 1, 1) := by decide +kernel
theorem dX3_digest_334 : decode cX3_digest 334 = .ok (.goto 4, 3) := by decide +kernel
theorem dX3_digest_337 : decode cX3_digest 337 = .ok (.iconst 0, 1) := by decide +kernel
theorem dX3_digest_338 : decode cX3_digest 338 = .ok (.i2l, 1) := by decide +kernel
theorem dX3_digest_339 : decode cX3_digest 339 = .ok (.ladd, 1) := by decide +kernel
theorem dX3_digest_340 : decode cX3_digest 340 = .ok (.lstore_n 1, 1) := by decide +kernel
theorem dX3_digest_341 : decode cX3_digest 341 = .ok (.iinc 3 1, 3) := by decide +kernel
theorem dX3_digest_344 : decode cX3_digest 344 = .ok (.goto (-30), 3) := by decide +kernel
theorem dX3_digest_347 : decode cX3_digest 347 = .ok (.ldc2_w 213, 3) := by decide +kernel
theorem dX3_digest_350 : decode cX3_digest 350 = .ok (.lload_n 1, 1) := by decide +kernel
theorem dX3_digest_351 : decode cX3_digest 351 = .ok (.lmul, 1) := by decide +kernel
theorem dX3_digest_352 : decode cX3_digest 352 = .ok (.aload_n 0, 1) := by decide +kernel
theorem dX3_digest_353 : decode cX3_digest 353 = .ok (.getfield 37, 3) := by decide +kernel
theorem dX3_digest_356 : decode cX3_digest 356 = .ok (.getfield 126, 3) := by decide +kernel
theorem dX3_digest_359 : decode cX3_digest 359 = .ok (.i2l, 1) := by decide +kernel
theorem dX3_digest_360 : decode cX3_digest 360 = .ok (.ladd, 1) := by decide +kernel
theorem dX3_digest_361 : decode cX3_digest 361 = .ok (.lstore_n 1, 1) := by decide +kernel
theorem dX3_digest_362 : decode cX3_digest 362 = .ok (.iconst 0, 1) := by decide +kernel
theorem dX3_digest_363 : decode cX3_digest 363 = .ok (.istore_n 3, 1) := by decide +kernel
theorem dX3_digest_364 : decode cX3_digest 364 = .ok (.iload_n 3, 1) := by decide +kernel
theorem dX3_digest_365 : decode cX3_digest 365 = .ok (.aload_n 0, 1) := by decide +kernel
theorem dX3_digest_366 : decode cX3_digest 366 = .ok (.getfield 37, 3) := by decide +kernel
theorem dX3_digest_369 : decode cX3_digest 369 = .ok (.getfield 126, 3) := by decide +kernel
theorem dX3_digest_372 : decode cX3_digest 372 = .ok (.if_icmp .ge 26, 3) := by decide +kernel
theorem dX3_digest_375 : decode cX3_digest 375 = .ok (.ldc2_w 213, 3) := by decide +kernel
theorem dX3_digest_378 : decode cX3_digest 378 = .ok (.lload_n 1, 1) := by decide +kernel
theorem dX3_digest_379 : decode cX3_digest 379 = .ok (.lmul, 1) := by decide +kernel
theorem dX3_digest_380 : decode cX3_digest 380 = .ok (.aload_n 0, 1) := by decide +kernel
theorem dX3_digest_381 : decode cX3_digest 381 = .ok (.getfield 37, 3) := by decide +kernel
theorem dX3_digest_384 : decode cX3_digest 384 = .ok (.getfield 131, 3) := by decide +kernel
theorem dX3_digest_387 : decode cX3_digest 387 = .ok (.iload_n 3, 1) := by decide +kernel
theorem dX3_digest_388 : decode cX3_digest 388 = .ok (.iaload, 1) := by decide +kernel
theorem dX3_digest_389 : decode cX3_digest 389 = .ok (.i2l, 1) := by decide +kernel
theorem dX3_digest_390 : decode cX3_digest 390 = .ok (.ladd, 1) := by decide +kernel
theorem dX3_digest_391 : decode cX3_digest 391 = .ok (.lstore_n 1, 1) := by decide +kernel
theorem dX3_digest_392 : decode cX3_digest 392 = .ok (.iinc 3 1, 3) := by decide +kernel
theorem dX3_digest_395 : decode cX3_digest 395 = .ok (.goto (-31), 3) := by decide +kernel
theorem dX3_digest_398 : decode cX3_digest 398 = .ok (.lload_n 1, 1) := by decide +kernel
theorem dX3_digest_399 : decode cX3_digest 399 = .ok (.lreturn, 1) := by decide +kernel
theorem dX3_needIndex_0 : decode cX3_needIndex 0 = .ok (.iload_n 0, 1) := by decide +kernel
theorem dX3_needIndex_1 : decode cX3_needIndex 1 = .ok (.ifCond .lt 8, 3) := by decide +kernel
theorem dX3_needIndex_4 : decode cX3_needIndex 4 = .ok (.iload_n 0, 1) := by decide +kernel
theorem dX3_needIndex_5 : decode cX3_needIndex 5 = .ok (.iload_n 1, 1) := by decide +kernel
theorem dX3_needIndex_6 : decode cX3_needIndex 6 = .ok (.if_icmp .lt 13, 3) := by decide +kernel
theorem dX3_needIndex_9 : decode cX3_needIndex 9 = .ok (.new 253, 3) := by decide +kernel
theorem dX3_needIndex_12 : decode cX3_needIndex 12 = .ok (.dup, 1) := by decide +kernel
theorem dX3_needIndex_13 : decode cX3_needIndex 13 = .ok (.ldc 255, 2) := by decide +kernel
theorem dX3_needIndex_15 : decode cX3_needIndex 15 = .ok (.invokespecial 257, 3) := by decide +kernel
theorem dX3_needIndex_18 : decode cX3_needIndex 18 = .ok (.athrow, 1) := by decide +kernel
theorem dX3_needIndex_19 : decode cX3_needIndex 19 = .ok (.return_, 1) := by decide +kernel
theorem dX3_needRange_0 : decode cX3_needRange 0 = .ok (.iload_n 0, 1) := by decide +kernel
theorem dX3_needRange_1 : decode cX3_needRange 1 = .ok (.iload_n 1, 1) := by decide +kernel
theorem dX3_needRange_2 : decode cX3_needRange 2 = .ok (.if_icmp .lt 8, 3) := by decide +kernel
theorem dX3_needRange_5 : decode cX3_needRange 5 = .ok (.iload_n 0, 1) := by decide +kernel
theorem dX3_needRange_6 : decode cX3_needRange 6 = .ok (.iload_n 2, 1) := by decide +kernel
theorem dX3_needRange_7 : decode cX3_needRange 7 = .ok (.if_icmp .le 14, 3) := by decide +kernel
theorem dX3_needRange_10 : decode cX3_needRange 10 = .ok (.new 141, 3) := by decide +kernel
theorem dX3_needRange_13 : decode cX3_needRange 13 = .ok (.dup, 1) := by decide +kernel
theorem dX3_needRange_14 : decode cX3_needRange 14 = .ok (.ldc_w 258, 3) := by decide +kernel
theorem dX3_needRange_17 : decode cX3_needRange 17 = .ok (.invokespecial 145, 3) := by decide +kernel
theorem dX3_needRange_20 : decode cX3_needRange 20 = .ok (.athrow, 1) := by decide +kernel
theorem dX3_needRange_21 : decode cX3_needRange 21 = .ok (.return_, 1) := by decide +kernel
theorem dX3_saveState_0 : decode cX3_saveState 0 = .ok (.aload_n 0, 1) := by decide +kernel
theorem dX3_saveState_1 : decode cX3_saveState 1 = .ok (.getfield 24, 3) := by decide +kernel
theorem dX3_saveState_4 : decode cX3_saveState 4 = .ok (.aload_n 0, 1) := by decide +kernel
theorem dX3_saveState_5 : decode cX3_saveState 5 = .ok (.getfield 27, 3) := by decide +kernel
theorem dX3_saveState_8 : decode cX3_saveState 8 = .ok (.aaload, 1) := by decide +kernel
theorem dX3_saveState_9 : decode cX3_saveState 9 = .ok (.aload_n 0, 1) := by decide +kernel
theorem dX3_saveState_10 : decode cX3_saveState 10 = .ok (.getfield 10, 3) := by decide +kernel
theorem dX3_saveState_13 : decode cX3_saveState 13 = .ok (.invokevirtual 153, 3) := by decide +kernel
theorem dX3_saveState_16 : decode cX3_saveState 16 = .ok (.aload_n 0, 1) := by decide +kernel
theorem dX3_saveState_17 : decode cX3_saveState 17 = .ok (.aload_n 0, 1) := by decide +kernel
theorem dX3_saveState_18 : decode cX3_saveState 18 = .ok (.getfield 27, 3) := by decide +kernel
theorem dX3_saveState_21 : decode cX3_saveState 21 = .ok (.iconst 1, 1) := by decide +kernel
theorem dX3_saveState_22 : decode cX3_saveState 22 = .ok (.iadd, 1) := by decide +kernel
theorem dX3_saveState_23 : decode cX3_saveState 23 = .ok (.bipush 6, 2) := by decide +kernel
theorem dX3_saveState_25 : decode cX3_saveState 25 = .ok (.if_icmp .ge 12, 3) := by decide +kernel
theorem dX3_saveState_28 : decode cX3_saveState 28 = .ok (.aload_n 0, 1) := by decide +kernel
theorem dX3_saveState_29 : decode cX3_saveState 29 = .ok (.getfield 27, 3) := by decide +kernel
theorem dX3_saveState_32 : decode cX3_saveState 32 = .ok (.iconst 1, 1) := by decide +kernel
theorem dX3_saveState_33 : decode cX3_saveState 33 = .ok (.iadd, 1) := by decide +kernel
theorem dX3_saveState_34 : decode cX3_saveState 34 = .ok (.goto 4, 3) := by decide +kernel
theorem dX3_saveState_37 : decode cX3_saveState 37 = .ok (.iconst 0, 1) := by decide +kernel
theorem dX3_saveState_38 : decode cX3_saveState 38 = .ok (.putfield 27, 3) := by decide +kernel
theorem dX3_saveState_41 : decode cX3_saveState 41 = .ok (.aload_n 0, 1) := by decide +kernel
theorem dX3_saveState_42 : decode cX3_saveState 42 = .ok (.getfield 31, 3) := by decide +kernel
theorem dX3_saveState_45 : decode cX3_saveState 45 = .ok (.bipush 6, 2) := by decide +kernel
theorem dX3_saveState_47 : decode cX3_saveState 47 = .ok (.if_icmp .ge 13, 3) := by decide +kernel
theorem dX3_saveState_50 : decode cX3_saveState 50 = .ok (.aload_n 0, 1) := by decide +kernel
theorem dX3_saveState_51 : decode cX3_saveState 51 = .ok (.dup, 1) := by decide +kernel
theorem dX3_saveState_52 : decode cX3_saveState 52 = .ok (.getfield 31, 3) := by decide +kernel
theorem dX3_saveState_55 : decode cX3_saveState 55 = .ok (.iconst 1, 1) := by decide +kernel
theorem dX3_saveState_56 : decode cX3_saveState 56 = .ok (.iadd, 1) := by decide +kernel
theorem dX3_saveState_57 : decode cX3_saveState 57 = .ok (.putfield 31, 3) := by decide +kernel
theorem dX3_saveState_60 : decode cX3_saveState 60 = .ok (.return_, 1) := by decide +kernel
theorem dX3_hoursUntilGround_0 : decode cX3_hoursUntilGround 0 = .ok (.iload_n 1, 1) := by decide +kernel
theorem dX3_hoursUntilGround_1 : decode cX3_hoursUntilGround 1 = .ok (.istore_n 2, 1) := by decide +kernel
theorem dX3_hoursUntilGround_2 : decode cX3_hoursUntilGround 2 = .ok (.aload_n 0, 1) := by decide +kernel
theorem dX3_hoursUntilGround_3 : decode cX3_hoursUntilGround 3 = .ok (.getfield 10, 3) := by decide +kernel
theorem dX3_hoursUntilGround_6 : decode cX3_hoursUntilGround 6 = .ok (.getfield 156, 3) := by decide +kernel
theorem dX3_hoursUntilGround_9 : decode cX3_hoursUntilGround 9 = .ok (.istore_n 3, 1) := by decide +kernel
theorem dX3_hoursUntilGround_10 : decode cX3_hoursUntilGround 10 = .ok (.sipush 19008, 3) := by decide +kernel
theorem dX3_hoursUntilGround_13 : decode cX3_hoursUntilGround 13 = .ok (.istore 4, 2) := by decide +kernel
theorem dX3_hoursUntilGround_15 : decode cX3_hoursUntilGround 15 = .ok (.iconst 1, 1) := by decide +kernel
theorem dX3_hoursUntilGround_16 : decode cX3_hoursUntilGround 16 = .ok (.istore 5, 2) := by decide +kernel
theorem dX3_hoursUntilGround_18 : decode cX3_hoursUntilGround 18 = .ok (.iload 5, 2) := by decide +kernel
theorem dX3_hoursUntilGround_20 : decode cX3_hoursUntilGround 20 = .ok (.iload 4, 2) := by decide +kernel
theorem dX3_hoursUntilGround_22 : decode cX3_hoursUntilGround 22 = .ok (.if_icmp .gt 41, 3) := by decide +kernel
theorem dX3_hoursUntilGround_25 : decode cX3_hoursUntilGround 25 = .ok (.iload_n 2, 1) := by decide +kernel
theorem dX3_hoursUntilGround_26 : decode cX3_hoursUntilGround 26 = .ok (.aload_n 0, 1) := by decide +kernel
theorem dX3_hoursUntilGround_27 : decode cX3_hoursUntilGround 27 = .ok (.getfield 41, 3) := by decide +kernel
theorem dX3_hoursUntilGround_30 : decode cX3_hoursUntilGround 30 = .ok (.iload_n 3, 1) := by decide +kernel
theorem dX3_hoursUntilGround_31 : decode cX3_hoursUntilGround 31 = .ok (.iaload, 1) := by decide +kernel
theorem dX3_hoursUntilGround_32 : decode cX3_hoursUntilGround 32 = .ok (.isub, 1) := by decide +kernel
theorem dX3_hoursUntilGround_33 : decode cX3_hoursUntilGround 33 = .ok (.istore_n 2, 1) := by decide +kernel
theorem dX3_hoursUntilGround_34 : decode cX3_hoursUntilGround 34 = .ok (.iload_n 2, 1) := by decide +kernel
theorem dX3_hoursUntilGround_35 : decode cX3_hoursUntilGround 35 = .ok (.ifCond .gt 6, 3) := by decide +kernel
theorem dX3_hoursUntilGround_38 : decode cX3_hoursUntilGround 38 = .ok (.iload 5, 2) := by decide +kernel
theorem dX3_hoursUntilGround_40 : decode cX3_hoursUntilGround 40 = .ok (.ireturn, 1) := by decide +kernel
theorem dX3_hoursUntilGround_41 : decode cX3_hoursUntilGround 41 = .ok (.iload_n 3, 1) := by decide +kernel
theorem dX3_hoursUntilGround_42 : decode cX3_hoursUntilGround 42 = .ok (.iconst 1, 1) := by decide +kernel
theorem dX3_hoursUntilGround_43 : decode cX3_hoursUntilGround 43 = .ok (.iadd, 1) := by decide +kernel
theorem dX3_hoursUntilGround_44 : decode cX3_hoursUntilGround 44 = .ok (.bipush 24, 2) := by decide +kernel
theorem dX3_hoursUntilGround_46 : decode cX3_hoursUntilGround 46 = .ok (.if_icmp .ge 9, 3) := by decide +kernel
theorem dX3_hoursUntilGround_49 : decode cX3_hoursUntilGround 49 = .ok (.iload_n 3, 1) := by decide +kernel
theorem dX3_hoursUntilGround_50 : decode cX3_hoursUntilGround 50 = .ok (.iconst 1, 1) := by decide +kernel
theorem dX3_hoursUntilGround_51 : decode cX3_hoursUntilGround 51 = .ok (.iadd, 1) := by decide +kernel
theorem dX3_hoursUntilGround_52 : decode cX3_hoursUntilGround 52 = .ok (.goto 4, 3) := by decide +kernel
theorem dX3_hoursUntilGround_55 : decode cX3_hoursUntilGround 55 = .ok (.iconst 0, 1) := by decide +kernel
theorem dX3_hoursUntilGround_56 : decode cX3_hoursUntilGround 56 = .ok (.istore_n 3, 1) := by decide +kernel
theorem dX3_hoursUntilGround_57 : decode cX3_hoursUntilGround 57 = .ok (.iinc 5 1, 3) := by decide +kernel
theorem dX3_hoursUntilGround_60 : decode cX3_hoursUntilGround 60 = .ok (.goto (-42), 3) := by decide +kernel
theorem dX3_hoursUntilGround_63 : decode cX3_hoursUntilGround 63 = .ok (.iconst (-1), 1) := by decide +kernel
theorem dX3_hoursUntilGround_64 : decode cX3_hoursUntilGround 64 = .ok (.ireturn, 1) := by decide +kernel
theorem dX3_bitsOf_0 : decode cX3_bitsOf 0 = .ok (.dload_n 0, 1) := by decide +kernel
theorem dX3_bitsOf_1 : decode cX3_bitsOf 1 = .ok (.dconst 0, 1) := by decide +kernel
theorem dX3_bitsOf_2 : decode cX3_bitsOf 2 = .ok (.dcmp .g, 1) := by decide +kernel
theorem dX3_bitsOf_3 : decode cX3_bitsOf 3 = .ok (.ifCond .gt 5, 3) := by decide +kernel
theorem dX3_bitsOf_6 : decode cX3_bitsOf 6 = .ok (.lconst 0, 1) := by decide +kernel
theorem dX3_bitsOf_7 : decode cX3_bitsOf 7 = .ok (.lreturn, 1) := by decide +kernel
theorem dX3_bitsOf_8 : decode cX3_bitsOf 8 = .ok (.dload_n 0, 1) := by decide +kernel
theorem dX3_bitsOf_9 : decode cX3_bitsOf 9 = .ok (.dstore_n 2, 1) := by decide +kernel
theorem dX3_bitsOf_10 : decode cX3_bitsOf 10 = .ok (.ldc2_w 260, 3) := by decide +kernel
theorem dX3_bitsOf_13 : decode cX3_bitsOf 13 = .ok (.lstore 4, 2) := by decide +kernel
theorem dX3_bitsOf_15 : decode cX3_bitsOf 15 = .ok (.iconst 0, 1) := by decide +kernel
theorem dX3_bitsOf_16 : decode cX3_bitsOf 16 = .ok (.istore 6, 2) := by decide +kernel
theorem dX3_bitsOf_18 : decode cX3_bitsOf 18 = .ok (.iload 6, 2) := by decide +kernel
theorem dX3_bitsOf_20 : decode cX3_bitsOf 20 = .ok (.sipush 1000, 3) := by decide +kernel
theorem dX3_bitsOf_23 : decode cX3_bitsOf 23 = .ok (.if_icmp .ge 27, 3) := by decide +kernel
theorem dX3_bitsOf_26 : decode cX3_bitsOf 26 = .ok (.dload_n 2, 1) := by decide +kernel
theorem dX3_bitsOf_27 : decode cX3_bitsOf 27 = .ok (.dconst 1, 1) := by decide +kernel
theorem dX3_bitsOf_28 : decode cX3_bitsOf 28 = .ok (.dcmp .g, 1) := by decide +kernel
theorem dX3_bitsOf_29 : decode cX3_bitsOf 29 = .ok (.ifCond .ge 21, 3) := by decide +kernel
theorem dX3_bitsOf_32 : decode cX3_bitsOf 32 = .ok (.dload_n 2, 1) := by decide +kernel
theorem dX3_bitsOf_33 : decode cX3_bitsOf 33 = .ok (.ldc2_w 262, 3) := by decide +kernel
theorem dX3_bitsOf_36 : decode cX3_bitsOf 36 = .ok (.dmul, 1) := by decide +kernel
theorem dX3_bitsOf_37 : decode cX3_bitsOf 37 = .ok (.dstore_n 2, 1) := by decide +kernel
theorem dX3_bitsOf_38 : decode cX3_bitsOf 38 = .ok (.lload 4, 2) := by decide +kernel
theorem dX3_bitsOf_40 : decode cX3_bitsOf 40 = .ok (.lconst 1, 1) := by decide +kernel
theorem dX3_bitsOf_41 : decode cX3_bitsOf 41 = .ok (.lsub, 1) := by decide +kernel
theorem dX3_bitsOf_42 : decode cX3_bitsOf 42 = .ok (.lstore 4, 2) := by decide +kernel
theorem dX3_bitsOf_44 : decode cX3_bitsOf 44 = .ok (.iinc 6 1, 3) := by decide +kernel
theorem dX3_bitsOf_47 : decode cX3_bitsOf 47 = .ok (.goto (-29), 3) := by decide +kernel
theorem dX3_bitsOf_50 : decode cX3_bitsOf 50 = .ok (.dload_n 2, 1) := by decide +kernel
theorem dX3_bitsOf_51 : decode cX3_bitsOf 51 = .ok (.dconst 1, 1) := by decide +kernel
theorem dX3_bitsOf_52 : decode cX3_bitsOf 52 = .ok (.dsub, 1) := by decide +kernel
theorem dX3_bitsOf_53 : decode cX3_bitsOf 53 = .ok (.ldc2_w 264, 3) := by decide +kernel
theorem dX3_bitsOf_56 : decode cX3_bitsOf 56 = .ok (.dmul, 1) := by decide +kernel
theorem dX3_bitsOf_57 : decode cX3_bitsOf 57 = .ok (.d2l, 1) := by decide +kernel
theorem dX3_bitsOf_58 : decode cX3_bitsOf 58 = .ok (.lstore 6, 2) := by decide +kernel
theorem dX3_bitsOf_60 : decode cX3_bitsOf 60 = .ok (.lload 4, 2) := by decide +kernel
theorem dX3_bitsOf_62 : decode cX3_bitsOf 62 = .ok (.bipush 52, 2) := by decide +kernel
theorem dX3_bitsOf_64 : decode cX3_bitsOf 64 = .ok (.lshl, 1) := by decide +kernel
theorem dX3_bitsOf_65 : decode cX3_bitsOf 65 = .ok (.lload 6, 2) := by decide +kernel
theorem dX3_bitsOf_67 : decode cX3_bitsOf 67 = .ok (.lor, 1) := by decide +kernel
theorem dX3_bitsOf_68 : decode cX3_bitsOf 68 = .ok (.lreturn, 1) := by decide +kernel
theorem dX4_init_0 : decode cX4_init 0 = .ok (.aload_n 0, 1) := by decide +kernel
theorem dX4_init_1 : decode cX4_init 1 = .ok (.invokespecial 1, 3) := by decide +kernel
theorem dX4_init_4 : decode cX4_init 4 = .ok (.aload_n 0, 1) := by decide +kernel
theorem dX4_init_5 : decode cX4_init 5 = .ok (.sipush 150, 3) := by decide +kernel
theorem dX4_init_8 : decode cX4_init 8 = .ok (.newarray .int, 2) := by decide +kernel
theorem dX4_init_10 : decode cX4_init 10 = .ok (.putfield 7, 3) := by decide +kernel
theorem dX4_init_13 : decode cX4_init 13 = .ok (.aload_n 0, 1) := by decide +kernel
theorem dX4_init_14 : decode cX4_init 14 = .ok (.sipush 150, 3) := by decide +kernel
theorem dX4_init_17 : decode cX4_init 17 = .ok (.newarray .int, 2) := by decide +kernel
theorem dX4_init_19 : decode cX4_init 19 = .ok (.putfield 13, 3) := by decide +kernel
theorem dX4_init_22 : decode cX4_init 22 = .ok (.aload_n 0, 1) := by decide +kernel
theorem dX4_init_23 : decode cX4_init 23 = .ok (.sipush 900, 3) := by decide +kernel
theorem dX4_init_26 : decode cX4_init 26 = .ok (.newarray .int, 2) := by decide +kernel
theorem dX4_init_28 : decode cX4_init 28 = .ok (.putfield 16, 3) := by decide +kernel
theorem dX4_init_31 : decode cX4_init 31 = .ok (.aload_n 0, 1) := by decide +kernel
theorem dX4_init_32 : decode cX4_init 32 = .ok (.sipush 300, 3) := by decide +kernel
theorem dX4_init_35 : decode cX4_init 35 = .ok (.newarray .int, 2) := by decide +kernel
theorem dX4_init_37 : decode cX4_init 37 = .ok (.putfield 19, 3) := by decide +kernel
theorem dX4_init_40 : decode cX4_init 40 = .ok (.aload_n 0, 1) := by decide +kernel
theorem dX4_init_41 : decode cX4_init 41 = .ok (.iconst 2, 1) := by decide +kernel
theorem dX4_init_42 : decode cX4_init 42 = .ok (.newarray .boolean, 2) := by decide +kernel
theorem dX4_init_44 : decode cX4_init 44 = .ok (.putfield 22, 3) := by decide +kernel
theorem dX4_init_47 : decode cX4_init 47 = .ok (.aload_n 0, 1) := by decide +kernel
theorem dX4_init_48 : decode cX4_init 48 = .ok (.bipush 60, 2) := by decide +kernel
theorem dX4_init_50 : decode cX4_init 50 = .ok (.newarray .int, 2) := by decide +kernel
theorem dX4_init_52 : decode cX4_init 52 = .ok (.putfield 26, 3) := by decide +kernel
theorem dX4_init_55 : decode cX4_init 55 = .ok (.iconst 0, 1) := by decide +kernel
theorem dX4_init_56 : decode cX4_init 56 = .ok (.istore_n 1, 1) := by decide +kernel
theorem dX4_init_57 : decode cX4_init 57 = .ok (.iload_n 1, 1) := by decide +kernel
theorem dX4_init_58 : decode cX4_init 58 = .ok (.bipush 24, 2) := by decide +kernel
theorem dX4_init_60 : decode cX4_init 60 = .ok (.if_icmp .ge 35, 3) := by decide +kernel
theorem dX4_init_63 : decode cX4_init 63 = .ok (.aload_n 0, 1) := by decide +kernel
theorem dX4_init_64 : decode cX4_init 64 = .ok (.getfield 7, 3) := by decide +kernel
theorem dX4_init_67 : decode cX4_init 67 = .ok (.iconst 2, 1) := by decide +kernel
theorem dX4_init_68 : decode cX4_init 68 = .ok (.iload_n 1, 1) := by decide +kernel
theorem dX4_init_69 : decode cX4_init 69 = .ok (.imul, 1) := by decide +kernel
theorem dX4_init_70 : decode cX4_init 70 = .ok (.iload_n 1, 1) := by decide +kernel
theorem dX4_init_71 : decode cX4_init 71 = .ok (.bipush 8, 2) := by decide +kernel
theorem dX4_init_73 : decode cX4_init 73 = .ok (.irem, 1) := by decide +kernel
theorem dX4_init_74 : decode cX4_init 74 = .ok (.iastore, 1) := by decide +kernel
theorem dX4_init_75 : decode cX4_init 75 = .ok (.aload_n 0, 1) := by decide +kernel
theorem dX4_init_76 : decode cX4_init 76 = .ok (.getfield 7, 3) := by decide +kernel
theorem dX4_init_79 : decode cX4_init 79 = .ok (.iconst 2, 1) := by decide +kernel
theorem dX4_init_80 : decode cX4_init 80 = .ok (.iload_n 1, 1) := by decide +kernel
theorem dX4_init_81 : decode cX4_init 81 = .ok (.imul, 1) := by decide +kernel
theorem dX4_init_82 : decode cX4_init 82 = .ok (.iconst 1, 1) := by decide +kernel
theorem dX4_init_83 : decode cX4_init 83 = .ok (.iadd, 1) := by decide +kernel
theorem dX4_init_84 : decode cX4_init 84 = .ok (.iload_n 1, 1) := by decide +kernel
theorem dX4_init_85 : decode cX4_init 85 = .ok (.bipush 10, 2) := by decide +kernel
theorem dX4_init_87 : decode cX4_init 87 = .ok (.irem, 1) := by decide +kernel
theorem dX4_init_88 : decode cX4_init 88 = .ok (.iastore, 1) := by decide +kernel
theorem dX4_init_89 : decode cX4_init 89 = .ok (.iinc 1 1, 3) := by decide +kernel
theorem dX4_init_92 : decode cX4_init 92 = .ok (.goto (-35), 3) := by decide +kernel
theorem dX4_init_95 : decode cX4_init 95 = .ok (.iconst 0, 1) := by decide +kernel
theorem dX4_init_96 : decode cX4_init 96 = .ok (.istore_n 1, 1) := by decide +kernel
theorem dX4_init_97 : decode cX4_init 97 = .ok (.iload_n 1, 1) := by decide +kernel
theorem dX4_init_98 : decode cX4_init 98 = .ok (.bipush 6, 2) := by decide +kernel
theorem dX4_init_100 : decode cX4_init 100 = .ok (.if_icmp .ge 49, 3) := by decide +kernel
theorem dX4_init_103 : decode cX4_init 103 = .ok (.aload_n 0, 1) := by decide +kernel
theorem dX4_init_104 : decode cX4_init 104 = .ok (.getfield 7, 3) := by decide +kernel
theorem dX4_init_107 : decode cX4_init 107 = .ok (.bipush 48, 2) := by decide +kernel
theorem dX4_init_109 : decode cX4_init 109 = .ok (.iconst 4, 1) := by decide +kernel
theorem dX4_init_110 : decode cX4_init 110 = .ok (.iload_n 1, 1) := by decide +kernel
theorem dX4_init_111 : decode cX4_init 111 = .ok (.imul, 1) := by decide +kernel
theorem dX4_init_112 : decode cX4_init 112 = .ok (.iadd, 1) := by decide +kernel
theorem dX4_init_113 : decode cX4_init 113 = .ok (.iload_n 1, 1) := by decide +kernel
theorem dX4_init_114 : decode cX4_init 114 = .ok (.iastore, 1) := by decide +kernel
theorem dX4_init_115 : decode cX4_init 115 = .ok (.aload_n 0, 1) := by decide +kernel
theorem dX4_init_116 : decode cX4_init 116 = .ok (.getfield 7, 3) := by decide +kernel
theorem dX4_init_119 : decode cX4_init 119 = .ok (.bipush 48, 2) := by decide +kernel
theorem dX4_init_121 : decode cX4_init 121 = .ok (.iconst 4, 1) := by decide +kernel
theorem dX4_init_122 : decode cX4_init 122 = .ok (.iload_n 1, 1) := by decide +kernel
theorem dX4_init_123 : decode cX4_init 123 = .ok (.imul, 1) := by decide +kernel
theorem dX4_init_124 : decode cX4_init 124 = .ok (.iadd, 1) := by decide +kernel
theorem dX4_init_125 : decode cX4_init 125 = .ok (.iconst 1, 1) := by decide +kernel
theorem dX4_init_126 : decode cX4_init 126 = .ok (.iadd, 1) := by decide +kernel
theorem dX4_init_127 : decode cX4_init 127 = .ok (.iconst 2, 1) := by decide +kernel
theorem dX4_init_128 : decode cX4_init 128 = .ok (.iastore, 1) := by decide +kernel
theorem dX4_init_129 : decode cX4_init 129 = .ok (.aload_n 0, 1) := by decide +kernel
theorem dX4_init_130 : decode cX4_init 130 = .ok (.getfield 7, 3) := by decide +kernel
theorem dX4_init_133 : decode cX4_init 133 = .ok (.bipush 48, 2) := by decide +kernel
theorem dX4_init_135 : decode cX4_init 135 = .ok (.iconst 4, 1) := by decide +kernel
theorem dX4_init_136 : decode cX4_init 136 = .ok (.iload_n 1, 1) := by decide +kernel
theorem dX4_init_137 : decode cX4_init 137 = .ok (.imul, 1) := by decide +kernel
theorem dX4_init_138 : decode cX4_init 138 = .ok (.iadd, 1) := by decide +kernel
theorem dX4_init_139 : decode cX4_init 139 = .ok (.iconst 2, 1) := by decide +kernel
theorem dX4_init_140 : decode cX4_init 140 = .ok (.iadd, 1) := by decide +kernel
theorem dX4_init_141 : decode cX4_init 141 = .ok (.iconst 1, 1) := by decide +kernel
theorem dX4_init_142 : decode cX4_init 142 = .ok (.iastore, 1) := by decide +kernel
theorem dX4_init_143 : decode cX4_init 143 = .ok (.iinc 1 1, 3) := by decide +kernel
theorem dX4_init_146 : decode cX4_init 146 = .ok (.goto (-49), 3) := by decide +kernel
theorem dX4_init_149 : decode cX4_init 149 = .ok (.aload_n 0, 1) := by decide +kernel
theorem dX4_init_150 : decode cX4_init 150 = .ok (.getfield 7, 3) := by decide +kernel
theorem dX4_init_153 : decode cX4_init 153 = .ok (.bipush 72, 2) := by decide +kernel
theorem dX4_init_155 : decode cX4_init 155 = .ok (.iconst 3, 1) := by decide +kernel
theorem dX4_init_156 : decode cX4_init 156 = .ok (.iastore, 1) := by decide +kernel
theorem dX4_init_157 : decode cX4_init 157 = .ok (.iconst 0, 1) := by decide +kernel
theorem dX4_init_158 : decode cX4_init 158 = .ok (.istore_n 1, 1) := by decide +kernel
theorem dX4_init_159 : decode cX4_init 159 = .ok (.iload_n 1, 1) := by decide +kernel
theorem dX4_init_160 : decode cX4_init 160 = .ok (.iconst 3, 1) := by decide +kernel
theorem dX4_init_161 : decode cX4_init 161 = .ok (.if_icmp .ge 24, 3) := by decide +kernel
theorem dX4_init_164 : decode cX4_init 164 = .ok (.aload_n 0, 1) := by decide +kernel
theorem dX4_init_165 : decode cX4_init 165 = .ok (.getfield 7, 3) := by decide +kernel
theorem dX4_init_168 : decode cX4_init 168 = .ok (.bipush 74, 2) := by decide +kernel
theorem dX4_init_170 : decode cX4_init 170 = .ok (.bipush 19, 2) := by decide +kernel
theorem dX4_init_172 : decode cX4_init 172 = .ok (.iload_n 1, 1) := by decide +kernel
theorem dX4_init_173 : decode cX4_init 173 = .ok (.imul, 1) := by decide +kernel
theorem dX4_init_174 : decode cX4_init 174 = .ok (.iadd, 1) := by decide +kernel
theorem dX4_init_175 : decode cX4_init 175 = .ok (.iconst 0, 1) := by decide +kernel
theorem dX4_init_176 : decode cX4_init 176 = .ok (.iadd, 1) := by decide +kernel
theorem dX4_init_177 : decode cX4_init 177 = .ok (.iconst 2, 1) := by decide +kernel
theorem dX4_init_178 : decode cX4_init 178 = .ok (.iastore, 1) := by decide +kernel
theorem dX4_init_179 : decode cX4_init 179 = .ok (.iinc 1 1, 3) := by decide +kernel
theorem dX4_init_182 : decode cX4_init 182 = .ok (.goto (-23), 3) := by decide +kernel
theorem dX4_init_185 : decode cX4_init 185 = .ok (.return_, 1) := by decide +kernel
theorem dX4_thrown_0 : decode cX4_thrown 0 = .ok (.aload_n 0, 1) := by decide +kernel
theorem dX4_thrown_1 : decode cX4_thrown 1 = .ok (.getfield 29, 3) := by decide +kernel
theorem dX4_thrown_4 : decode cX4_thrown 4 = .ok (.ireturn, 1) := by decide +kernel
theorem dX4_in_0 : decode cX4_in 0 = .ok (.iload_n 0, 1) := by decide +kernel
theorem dX4_in_1 : decode cX4_in 1 = .ok (.iload_n 1, 1) := by decide +kernel
theorem dX4_in_2 : decode cX4_in 2 = .ok (.if_icmp .lt 12, 3) := by decide +kernel
theorem dX4_in_5 : decode cX4_in 5 = .ok (.iload_n 0, 1) := by decide +kernel
theorem dX4_in_6 : decode cX4_in 6 = .ok (.iload_n 2, 1) := by decide +kernel
theorem dX4_in_7 : decode cX4_in 7 = .ok (.if_icmp .gt 7, 3) := by decide +kernel
theorem dX4_in_10 : decode cX4_in 10 = .ok (.iconst 1, 1) := by decide +kernel
theorem dX4_in_11 : decode cX4_in 11 = .ok (.goto 4, 3) := by decide +kernel
theorem dX4_in_14 : decode cX4_in 14 = .ok (.iconst 0, 1) := by decide +kernel
theorem dX4_in_15 : decode cX4_in 15 = .ok (.ireturn, 1) := by decide +kernel
theorem dX4_vaneAt_0 : decode cX4_vaneAt 0 = .ok (.aload_n 0, 1) := by decide +kernel
theorem dX4_vaneAt_1 : decode cX4_vaneAt 1 = .ok (.getfield 7, 3) := by decide +kernel
theorem dX4_vaneAt_4 : decode cX4_vaneAt 4 = .ok (.bipush 48, 2) := by decide +kernel
theorem dX4_vaneAt_6 : decode cX4_vaneAt 6 = .ok (.iconst 4, 1) := by decide +kernel
theorem dX4_vaneAt_7 : decode cX4_vaneAt 7 = .ok (.iload_n 1, 1) := by decide +kernel
theorem dX4_vaneAt_8 : decode cX4_vaneAt 8 = .ok (.imul, 1) := by decide +kernel
theorem dX4_vaneAt_9 : decode cX4_vaneAt 9 = .ok (.iadd, 1) := by decide +kernel
theorem dX4_vaneAt_10 : decode cX4_vaneAt 10 = .ok (.iload_n 2, 1) := by decide +kernel
theorem dX4_vaneAt_11 : decode cX4_vaneAt 11 = .ok (.iadd, 1) := by decide +kernel
theorem dX4_vaneAt_12 : decode cX4_vaneAt 12 = .ok (.iaload, 1) := by decide +kernel
theorem dX4_vaneAt_13 : decode cX4_vaneAt 13 = .ok (.ireturn, 1) := by decide +kernel
theorem dX4_millAt_0 : decode cX4_millAt 0 = .ok (.aload_n 0, 1) := by decide +kernel
theorem dX4_millAt_1 : decode cX4_millAt 1 = .ok (.getfield 7, 3) := by decide +kernel
theorem dX4_millAt_4 : decode cX4_millAt 4 = .ok (.bipush 74, 2) := by decide +kernel
theorem dX4_millAt_6 : decode cX4_millAt 6 = .ok (.bipush 19, 2) := by decide +kernel
theorem dX4_millAt_8 : decode cX4_millAt 8 = .ok (.iload_n 1, 1) := by decide +kernel
theorem dX4_millAt_9 : decode cX4_millAt 9 = .ok (.imul, 1) := by decide +kernel
theorem dX4_millAt_10 : decode cX4_millAt 10 = .ok (.iadd, 1) := by decide +kernel
theorem dX4_millAt_11 : decode cX4_millAt 11 = .ok (.iload_n 2, 1) := by decide +kernel
theorem dX4_millAt_12 : decode cX4_millAt 12 = .ok (.iadd, 1) := by decide +kernel
theorem dX4_millAt_13 : decode cX4_millAt 13 = .ok (.iaload, 1) := by decide +kernel
theorem dX4_millAt_14 : decode cX4_millAt 14 = .ok (.ireturn, 1) := by decide +kernel
theorem dX4_ownerAt_0 : decode cX4_ownerAt 0 = .ok (.aload_n 0, 1) := by decide +kernel
theorem dX4_ownerAt_1 : decode cX4_ownerAt 1 = .ok (.getfield 7, 3) := by decide +kernel
theorem dX4_ownerAt_4 : decode cX4_ownerAt 4 = .ok (.sipush 131, 3) := by decide +kernel
theorem dX4_ownerAt_7 : decode cX4_ownerAt 7 = .ok (.iconst 3, 1) := by decide +kernel
theorem dX4_ownerAt_8 : decode cX4_ownerAt 8 = .ok (.iload_n 1, 1) := by decide +kernel
theorem dX4_ownerAt_9 : decode cX4_ownerAt 9 = .ok (.imul, 1) := by decide +kernel
theorem dX4_ownerAt_10 : decode cX4_ownerAt 10 = .ok (.iadd, 1) := by decide +kernel
theorem dX4_ownerAt_11 : decode cX4_ownerAt 11 = .ok (.iload_n 2, 1) := by decide +kernel
theorem dX4_ownerAt_12 : decode cX4_ownerAt 12 = .ok (.iadd, 1) := by decide +kernel
theorem dX4_ownerAt_13 : decode cX4_ownerAt 13 = .ok (.iaload, 1) := by decide +kernel
theorem dX4_ownerAt_14 : decode cX4_ownerAt 14 = .ok (.ireturn, 1) := by decide +kernel
theorem dX4_addToMill_0 : decode cX4_addToMill 0 = .ok (.aload_n 0, 1) := by decide +kernel
theorem dX4_addToMill_1 : decode cX4_addToMill 1 = .ok (.getfield 7, 3) := by decide +kernel
theorem dX4_addToMill_4 : decode cX4_addToMill 4 = .ok (.bipush 74, 2) := by decide +kernel
theorem dX4_addToMill_6 : decode cX4_addToMill 6 = .ok (.bipush 19, 2) := by decide +kernel
theorem dX4_addToMill_8 : decode cX4_addToMill 8 = .ok (.iload_n 1, 1) := by decide +kernel
theorem dX4_addToMill_9 : decode cX4_addToMill 9 = .ok (.imul, 1) := by decide +kernel
theorem dX4_addToMill_10 : decode cX4_addToMill 10 = .ok (.iadd, 1) := by decide +kernel
theorem dX4_addToMill_11 : decode cX4_addToMill 11 = .ok (.iload_n 2, 1) := by decide +kernel
theorem dX4_addToMill_12 : decode cX4_addToMill 12 = .ok (.iadd, 1) := by decide +kernel
theorem dX4_addToMill_13 : decode cX4_addToMill 13 = .ok (.dup2, 1) := by decide +kernel
theorem dX4_addToMill_14 : decode cX4_addToMill 14 = .ok (.iaload, 1) := by decide +kernel
theorem dX4_addToMill_15 : decode cX4_addToMill 15 = .ok (.iload_n 3, 1) := by decide +kernel
theorem dX4_addToMill_16 : decode cX4_addToMill 16 = .ok (.iadd, 1) := by decide +kernel
theorem dX4_addToMill_17 : decode cX4_addToMill 17 = .ok (.iastore, 1) := by decide +kernel
theorem dX4_addToMill_18 : decode cX4_addToMill 18 = .ok (.return_, 1) := by decide +kernel
theorem dX4_addToOwner_0 : decode cX4_addToOwner 0 = .ok (.aload_n 0, 1) := by decide +kernel
theorem dX4_addToOwner_1 : decode cX4_addToOwner 1 = .ok (.getfield 7, 3) := by decide +kernel
theorem dX4_addToOwner_4 : decode cX4_addToOwner 4 = .ok (.sipush 131, 3) := by decide +kernel
theorem dX4_addToOwner_7 : decode cX4_addToOwner 7 = .ok (.iconst 3, 1) := by decide +kernel
theorem dX4_addToOwner_8 : decode cX4_addToOwner 8 = .ok (.iload_n 1, 1) := by decide +kernel
theorem dX4_addToOwner_9 : decode cX4_addToOwner 9 = .ok (.imul, 1) := by decide +kernel
theorem dX4_addToOwner_10 : decode cX4_addToOwner 10 = .ok (.iadd, 1) := by decide +kernel
theorem dX4_addToOwner_11 : decode cX4_addToOwner 11 = .ok (.iload_n 2, 1) := by decide +kernel
theorem dX4_addToOwner_12 : decode cX4_addToOwner 12 = .ok (.iadd, 1) := by decide +kernel
theorem dX4_addToOwner_13 : decode cX4_addToOwner 13 = .ok (.dup2, 1) := by decide +kernel
theorem dX4_addToOwner_14 : decode cX4_addToOwner 14 = .ok (.iaload, 1) := by decide +kernel
theorem dX4_addToOwner_15 : decode cX4_addToOwner 15 = .ok (.iload_n 3, 1) := by decide +kernel
theorem dX4_addToOwner_16 : decode cX4_addToOwner 16 = .ok (.iadd, 1) := by decide +kernel
theorem dX4_addToOwner_17 : decode cX4_addToOwner 17 = .ok (.iastore, 1) := by decide +kernel
theorem dX4_addToOwner_18 : decode cX4_addToOwner 18 = .ok (.return_, 1) := by decide +kernel
theorem dX4_record_0 : decode cX4_record 0 = .ok (.aload_n 0, 1) := by decide +kernel
theorem dX4_record_1 : decode cX4_record 1 = .ok (.getfield 33, 3) := by decide +kernel
theorem dX4_record_4 : decode cX4_record 4 = .ok (.bipush 6, 2) := by decide +kernel
theorem dX4_record_6 : decode cX4_record 6 = .ok (.if_icmp .ne 44, 3) := by decide +kernel
theorem dX4_record_9 : decode cX4_record 9 = .ok (.iconst 0, 1) := by decide +kernel
theorem dX4_record_10 : decode cX4_record 10 = .ok (.istore_n 1, 1) := by decide +kernel
theorem dX4_record_11 : decode cX4_record 11 = .ok (.iload_n 1, 1) := by decide +kernel
theorem dX4_record_12 : decode cX4_record 12 = .ok (.sipush 750, 3) := by decide +kernel
theorem dX4_record_15 : decode cX4_record 15 = .ok (.if_icmp .ge 25, 3) := by decide +kernel
theorem dX4_record_18 : decode cX4_record 18 = .ok (.aload_n 0, 1) := by decide +kernel
theorem dX4_record_19 : decode cX4_record 19 = .ok (.getfield 16, 3) := by decide +kernel
theorem dX4_record_22 : decode cX4_record 22 = .ok (.iload_n 1, 1) := by decide +kernel
theorem dX4_record_23 : decode cX4_record 23 = .ok (.aload_n 0, 1) := by decide +kernel
theorem dX4_record_24 : decode cX4_record 24 = .ok (.getfield 16, 3) := by decide +kernel
theorem dX4_record_27 : decode cX4_record 27 = .ok (.sipush 150, 3) := by decide +kernel
theorem dX4_record_30 : decode cX4_record 30 = .ok (.iload_n 1, 1) := by decide +kernel
theorem dX4_record_31 : decode cX4_record 31 = .ok (.iadd, 1) := by decide +kernel
theorem dX4_record_32 : decode cX4_record 32 = .ok (.iaload, 1) := by decide +kernel
theorem dX4_record_33 : decode cX4_record 33 = .ok (.iastore, 1) := by decide +kernel
theorem dX4_record_34 : decode cX4_record 34 = .ok (.iinc 1 1, 3) := by decide +kernel
theorem dX4_record_37 : decode cX4_record 37 = .ok (.goto (-26), 3) := by decide +kernel
theorem dX4_record_40 : decode cX4_record 40 = .ok (.aload_n 0, 1) := by decide +kernel
theorem dX4_record_41 : decode cX4_record 41 = .ok (.dup, 1) := by decide +kernel
theorem dX4_record_42 : decode cX4_record 42 = .ok (.getfield 33, 3) := by decide +kernel
theorem dX4_record_45 : decode cX4_record 45 = .ok (.iconst 1, 1) := by decide +kernel
theorem dX4_record_46 : decode cX4_record 46 = .ok (.isub, 1) := by decide +kernel
theorem dX4_record_47 : decode cX4_record 47 = .ok (.putfield 33, 3) := by decide +kernel
theorem dX4_record_50 : decode cX4_record 50 = .ok (.iconst 0, 1) := by decide +kernel
theorem dX4_record_51 : decode cX4_record 51 = .ok (.istore_n 1, 1) := by decide +kernel
theorem dX4_record_52 : decode cX4_record 52 = .ok (.iload_n 1, 1) := by decide +kernel
theorem dX4_record_53 : decode cX4_record 53 = .ok (.sipush 150, 3) := by decide +kernel
theorem dX4_record_56 : decode cX4_record 56 = .ok (.if_icmp .ge 30, 3) := by decide +kernel
theorem dX4_record_59 : decode cX4_record 59 = .ok (.aload_n 0, 1) := by decide +kernel
theorem dX4_record_60 : decode cX4_record 60 = .ok (.getfield 16, 3) := by decide +kernel
theorem dX4_record_63 : decode cX4_record 63 = .ok (.sipush 150, 3) := by decide +kernel
theorem dX4_record_66 : decode cX4_record 66 = .ok (.aload_n 0, 1) := by decide +kernel
theorem dX4_record_67 : decode cX4_record 67 = .ok (.getfield 33, 3) := by decide +kernel
theorem dX4_record_70 : decode cX4_record 70 = .ok (.imul, 1) := by decide +kernel
theorem dX4_record_71 : decode cX4_record 71 = .ok (.iload_n 1, 1) := by decide +kernel
theorem dX4_record_72 : decode cX4_record 72 = .ok (.iadd, 1) := by decide +kernel
theorem dX4_record_73 : decode cX4_record 73 = .ok (.aload_n 0, 1) := by decide +kernel
theorem dX4_record_74 : decode cX4_record 74 = .ok (.getfield 7, 3) := by decide +kernel
theorem dX4_record_77 : decode cX4_record 77 = .ok (.iload_n 1, 1) := by decide +kernel
theorem dX4_record_78 : decode cX4_record 78 = .ok (.iaload, 1) := by decide +kernel
theorem dX4_record_79 : decode cX4_record 79 = .ok (.iastore, 1) := by decide +kernel
theorem dX4_record_80 : decode cX4_record 80 = .ok (.iinc 1 1, 3) := by decide +kernel
theorem dX4_record_83 : decode cX4_record 83 = .ok (.goto (-31), 3) := by decide +kernel
theorem dX4_record_86 : decode cX4_record 86 = .ok (.aload_n 0, 1) := by decide +kernel
theorem dX4_record_87 : decode cX4_record 87 = .ok (.dup, 1) := by decide +kernel
theorem dX4_record_88 : decode cX4_record 88 = .ok (.getfield 33, 3) := by decide +kernel
theorem dX4_record_91 : decode cX4_record 91 = .ok (.iconst 1, 1) := by decide +kernel
theorem dX4_record_92 : decode cX4_record 92 = .ok (.iadd, 1) := by decide +kernel
theorem dX4_record_93 : decode cX4_record 93 = .ok (.putfield 33, 3) := by decide +kernel
theorem dX4_record_96 : decode cX4_record 96 = .ok (.return_, 1) := by decide +kernel
theorem dX4_undo_0 : decode cX4_undo 0 = .ok (.aload_n 0, 1) := by decide +kernel
theorem dX4_undo_1 : decode cX4_undo 1 = .ok (.aload_n 0, 1) := by decide +kernel
theorem dX4_undo_2 : decode cX4_undo 2 = .ok (.getfield 33, 3) := by decide +kernel
theorem dX4_undo_5 : decode cX4_undo 5 = .ok (.ifCond .ne 7, 3) := by decide +kernel
theorem dX4_undo_8 : decode cX4_undo 8 = .ok (.iconst 1, 1) := by decide +kernel
theorem dX4_undo_9 : decode cX4_undo 9 = .ok (.goto 4, 3) := by decide +kernel
theorem dX4_undo_12 : decode cX4_undo 12 = .ok (.iconst 0, 1) := by decide +kernel
theorem dX4_undo_13 : decode cX4_undo 13 = .ok (.putfield 29, 3) := by decide +kernel
theorem dX4_undo_16 : decode cX4_undo 16 = .ok (.aload_n 0, 1) := by decide +kernel
theorem dX4_undo_17 : decode cX4_undo 17 = .ok (.getfield 29, 3) := by decide +kernel
theorem dX4_undo_20 : decode cX4_undo 20 = .ok (.ifCond .le 5, 3) := by decide +kernel
theorem dX4_undo_23 : decode cX4_undo 23 = .ok (.iconst 0, 1) := by decide +kernel
theorem dX4_undo_24 : decode cX4_undo 24 = .ok (.ireturn, 1) := by decide +kernel
theorem dX4_undo_25 : decode cX4_undo 25 = .ok (.aload_n 0, 1) := by decide +kernel
theorem dX4_undo_26 : decode cX4_undo 26 = .ok (.dup, 1) := by decide +kernel
theorem dX4_undo_27 : decode cX4_undo 27 = .ok (.getfield 33, 3) := by decide +kernel
theorem dX4_undo_30 : decode cX4_undo 30 = .ok (.iconst 1, 1) := by decide +kernel
theorem dX4_undo_31 : decode cX4_undo 31 = .ok (.isub, 1) := by decide +kernel
theorem dX4_undo_32 : decode cX4_undo 32 = .ok (.putfield 33, 3) := by decide +kernel
theorem dX4_undo_35 : decode cX4_undo 35 = .ok (.iconst 0, 1) := by decide +kernel
theorem dX4_undo_36 : decode cX4_undo 36 = .ok (.istore_n 1, 1) := by decide +kernel
theorem dX4_undo_37 : decode cX4_undo 37 = .ok (.iload_n 1, 1) := by decide +kernel
theorem dX4_undo_38 : decode cX4_undo 38 = .ok (.sipush 150, 3) := by decide +kernel
theorem dX4_undo_41 : decode cX4_undo 41 = .ok (.if_icmp .ge 30, 3) := by decide +kernel
theorem dX4_undo_44 : decode cX4_undo 44 = .ok (.aload_n 0, 1) := by decide +kernel
theorem dX4_undo_45 : decode cX4_undo 45 = .ok (.getfield 7, 3) := by decide +kernel
theorem dX4_undo_48 : decode cX4_undo 48 = .ok (.iload_n 1, 1) := by decide +kernel
theorem dX4_undo_49 : decode cX4_undo 49 = .ok (.aload_n 0, 1) := by decide +kernel
theorem dX4_undo_50 : decode cX4_undo 50 = .ok (.getfield 16, 3) := by decide +kernel
theorem dX4_undo_53 : decode cX4_undo 53 = .ok (.sipush 150, 3) := by decide +kernel
theorem dX4_undo_56 : decode cX4_undo 56 = .ok (.aload_n 0, 1) := by decide +kernel
theorem dX4_undo_57 : decode cX4_undo 57 = .ok (.getfield 33, 3) := by decide +kernel
theorem dX4_undo_60 : decode cX4_undo 60 = .ok (.imul, 1) := by decide +kernel
theorem dX4_undo_61 : decode cX4_undo 61 = .ok (.iload_n 1, 1) := by decide +kernel
theorem dX4_undo_62 : decode cX4_undo 62 = .ok (.iadd, 1) := by decide +kernel
theorem dX4_undo_63 : decode cX4_undo 63 = .ok (.iaload, 1) := by decide +kernel
theorem dX4_undo_64 : decode cX4_undo 64 = .ok (.iastore, 1) := by decide +kernel
theorem dX4_undo_65 : decode cX4_undo 65 = .ok (.iinc 1 1, 3) := by decide +kernel
theorem dX4_undo_68 : decode cX4_undo 68 = .ok (.goto (-31), 3) := by decide +kernel
theorem dX4_undo_71 : decode cX4_undo 71 = .ok (.aload_n 0, 1) := by decide +kernel
theorem dX4_undo_72 : decode cX4_undo 72 = .ok (.getfield 33, 3) := by decide +kernel
theorem dX4_undo_75 : decode cX4_undo 75 = .ok (.ireturn, 1) := by decide +kernel
theorem dX4_keep_0 : decode cX4_keep 0 = .ok (.aload_n 0, 1) := by decide +kernel
theorem dX4_keep_1 : decode cX4_keep 1 = .ok (.iload_n 1, 1) := by decide +kernel
theorem dX4_keep_2 : decode cX4_keep 2 = .ok (.iconst 0, 1) := by decide +kernel
theorem dX4_keep_3 : decode cX4_keep 3 = .ok (.iconst 1, 1) := by decide +kernel
theorem dX4_keep_4 : decode cX4_keep 4 = .ok (.invokestatic 36, 3) := by decide +kernel
theorem dX4_keep_7 : decode cX4_keep 7 = .ok (.ifCond .eq 7, 3) := by decide +kernel
theorem dX4_keep_10 : decode cX4_keep 10 = .ok (.iconst 0, 1) := by decide +kernel
theorem dX4_keep_11 : decode cX4_keep 11 = .ok (.goto 4, 3) := by decide +kernel
theorem dX4_keep_14 : decode cX4_keep 14 = .ok (.iconst 1, 1) := by decide +kernel
theorem dX4_keep_15 : decode cX4_keep 15 = .ok (.putfield 29, 3) := by decide +kernel
theorem dX4_keep_18 : decode cX4_keep 18 = .ok (.aload_n 0, 1) := by decide +kernel
theorem dX4_keep_19 : decode cX4_keep 19 = .ok (.getfield 29, 3) := by decide +kernel
theorem dX4_keep_22 : decode cX4_keep 22 = .ok (.ifCond .le 5, 3) := by decide +kernel
theorem dX4_keep_25 : decode cX4_keep 25 = .ok (.iconst 0, 1) := by decide +kernel
theorem dX4_keep_26 : decode cX4_keep 26 = .ok (.ireturn, 1) := by decide +kernel
theorem dX4_keep_27 : decode cX4_keep 27 = .ok (.iconst 0, 1) := by decide +kernel
theorem dX4_keep_28 : decode cX4_keep 28 = .ok (.istore_n 2, 1) := by decide +kernel
theorem dX4_keep_29 : decode cX4_keep 29 = .ok (.iload_n 2, 1) := by decide +kernel
theorem dX4_keep_30 : decode cX4_keep 30 = .ok (.sipush 150, 3) := by decide +kernel
theorem dX4_keep_33 : decode cX4_keep 33 = .ok (.if_icmp .ge 27, 3) := by decide +kernel
theorem dX4_keep_36 : decode cX4_keep 36 = .ok (.aload_n 0, 1) := by decide +kernel
theorem dX4_keep_37 : decode cX4_keep 37 = .ok (.getfield 19, 3) := by decide +kernel
theorem dX4_keep_40 : decode cX4_keep 40 = .ok (.sipush 150, 3) := by decide +kernel
theorem dX4_keep_43 : decode cX4_keep 43 = .ok (.iload_n 1, 1) := by decide +kernel
theorem dX4_keep_44 : decode cX4_keep 44 = .ok (.imul, 1) := by decide +kernel
theorem dX4_keep_45 : decode cX4_keep 45 = .ok (.iload_n 2, 1) := by decide +kernel
theorem dX4_keep_46 : decode cX4_keep 46 = .ok (.iadd, 1) := by decide +kernel
theorem dX4_keep_47 : decode cX4_keep 47 = .ok (.aload_n 0, 1) := by decide +kernel
theorem dX4_keep_48 : decode cX4_keep 48 = .ok (.getfield 7, 3) := by decide +kernel
theorem dX4_keep_51 : decode cX4_keep 51 = .ok (.iload_n 2, 1) := by decide +kernel
theorem dX4_keep_52 : decode cX4_keep 52 = .ok (.iaload, 1) := by decide +kernel
theorem dX4_keep_53 : decode cX4_keep 53 = .ok (.iastore, 1) := by decide +kernel
theorem dX4_keep_54 : decode cX4_keep 54 = .ok (.iinc 2 1, 3) := by decide +kernel
theorem dX4_keep_57 : decode cX4_keep 57 = .ok (.goto (-28), 3) := by decide +kernel
theorem dX4_keep_60 : decode cX4_keep 60 = .ok (.aload_n 0, 1) := by decide +kernel
theorem dX4_keep_61 : decode cX4_keep 61 = .ok (.getfield 22, 3) := by decide +kernel
theorem dX4_keep_64 : decode cX4_keep 64 = .ok (.iload_n 1, 1) := by decide +kernel
theorem dX4_keep_65 : decode cX4_keep 65 = .ok (.iconst 1, 1) := by decide +kernel
theorem dX4_keep_66 : decode cX4_keep 66 = .ok (.bastore, 1) := by decide +kernel
theorem dX4_keep_67 : decode cX4_keep 67 = .ok (.aload_n 0, 1) := by decide +kernel
theorem dX4_keep_68 : decode cX4_keep 68 = .ok (.getfield 7, 3) := by decide +kernel
theorem dX4_keep_71 : decode cX4_keep 71 = .ok (.sipush 146, 3) := by decide +kernel
theorem dX4_keep_74 : decode cX4_keep 74 = .ok (.iaload, 1) := by decide +kernel
theorem dX4_keep_75 : decode cX4_keep 75 = .ok (.ireturn, 1) := by decide +kernel
theorem dX4_goBack_0 : decode cX4_goBack 0 = .ok (.aload_n 0, 1) := by decide +kernel
theorem dX4_goBack_1 : decode cX4_goBack 1 = .ok (.iload_n 1, 1) := by decide +kernel
theorem dX4_goBack_2 : decode cX4_goBack 2 = .ok (.iconst 0, 1) := by decide +kernel
theorem dX4_goBack_3 : decode cX4_goBack 3 = .ok (.iconst 1, 1) := by decide +kernel
theorem dX4_goBack_4 : decode cX4_goBack 4 = .ok (.invokestatic 36, 3) := by decide +kernel
theorem dX4_goBack_7 : decode cX4_goBack 7 = .ok (.ifCond .ne 7, 3) := by decide +kernel
theorem dX4_goBack_10 : decode cX4_goBack 10 = .ok (.iconst 1, 1) := by decide +kernel
theorem dX4_goBack_11 : decode cX4_goBack 11 = .ok (.goto 17, 3) := by decide +kernel
theorem dX4_goBack_14 : decode cX4_goBack 14 = .ok (.aload_n 0, 1) := by decide +kernel
theorem dX4_goBack_15 : decode cX4_goBack 15 = .ok (.getfield 22, 3) := by decide +kernel
theorem dX4_goBack_18 : decode cX4_goBack 18 = .ok (.iload_n 1, 1) := by decide +kernel
theorem dX4_goBack_19 : decode cX4_goBack 19 = .ok (.baload, 1) := by decide +kernel
theorem dX4_goBack_20 : decode cX4_goBack 20 = .ok (.ifCond .eq 7, 3) := by decide +kernel
theorem dX4_goBack_23 : decode cX4_goBack 23 = .ok (.iconst 0, 1) := by decide +kernel
theorem dX4_goBack_24 : decode cX4_goBack 24 = .ok (.goto 4, 3) := by decide +kernel
theorem dX4_goBack_27 : decode cX4_goBack 27 = .ok (.iconst 2, 1) := by decide +kernel
theorem dX4_goBack_28 : decode cX4_goBack 28 = .ok (.putfield 29, 3) := by decide +kernel
theorem dX4_goBack_31 : decode cX4_goBack 31 = .ok (.aload_n 0, 1) := by decide +kernel
theorem dX4_goBack_32 : decode cX4_goBack 32 = .ok (.getfield 29, 3) := by decide +kernel
theorem dX4_goBack_35 : decode cX4_goBack 35 = .ok (.ifCond .le 5, 3) := by decide +kernel
theorem dX4_goBack_38 : decode cX4_goBack 38 = .ok (.iconst 0, 1) := by decide +kernel
theorem dX4_goBack_39 : decode cX4_goBack 39 = .ok (.ireturn, 1) := by decide +kernel
theorem dX4_goBack_40 : decode cX4_goBack 40 = .ok (.aload_n 0, 1) := by decide +kernel
theorem dX4_goBack_41 : decode cX4_goBack 41 = .ok (.invokevirtual 40, 3) := by decide +kernel
theorem dX4_goBack_44 : decode cX4_goBack 44 = .ok (.iconst 0, 1) := by decide +kernel
theorem dX4_goBack_45 : decode cX4_goBack 45 = .ok (.istore_n 2, 1) := by decide +kernel
theorem dX4_goBack_46 : decode cX4_goBack 46 = .ok (.iload_n 2, 1) := by decide +kernel
theorem dX4_goBack_47 : decode cX4_goBack 47 = .ok (.sipush 150, 3) := by decide +kernel
theorem dX4_goBack_50 : decode cX4_goBack 50 = .ok (.if_icmp .ge 27, 3) := by decide +kernel
theorem dX4_goBack_53 : decode cX4_goBack 53 = .ok (.aload_n 0, 1) := by decide +kernel
theorem dX4_goBack_54 : decode cX4_goBack 54 = .ok (.getfield 7, 3) := by decide +kernel
theorem dX4_goBack_57 : decode cX4_goBack 57 = .ok (.iload_n 2, 1) := by decide +kernel
theorem dX4_goBack_58 : decode cX4_goBack 58 = .ok (.aload_n 0, 1) := by decide +kernel
theorem dX4_goBack_59 : decode cX4_goBack 59 = .ok (.getfield 19, 3) := by decide +kernel
theorem dX4_goBack_62 : decode cX4_goBack 62 = .ok (.sipush 150, 3) := by decide +kernel
theorem dX4_goBack_65 : decode cX4_goBack 65 = .ok (.iload_n 1, 1) := by decide +kernel
theorem dX4_goBack_66 : decode cX4_goBack 66 = .ok (.imul, 1) := by decide +kernel
theorem dX4_goBack_67 : decode cX4_goBack 67 = .ok (.iload_n 2, 1) := by decide +kernel
theorem dX4_goBack_68 : decode cX4_goBack 68 = .ok (.iadd, 1) := by decide +kernel
theorem dX4_goBack_69 : decode cX4_goBack 69 = .ok (.iaload, 1) := by decide +kernel
theorem dX4_goBack_70 : decode cX4_goBack 70 = .ok (.iastore, 1) := by decide +kernel
theorem dX4_goBack_71 : decode cX4_goBack 71 = .ok (.iinc 2 1, 3) := by decide +kernel
theorem dX4_goBack_74 : decode cX4_goBack 74 = .ok (.goto (-28), 3) := by decide +kernel
theorem dX4_goBack_77 : decode cX4_goBack 77 = .ok (.aload_n 0, 1) := by decide +kernel
theorem dX4_goBack_78 : decode cX4_goBack 78 = .ok (.getfield 7, 3) := by decide +kernel
theorem dX4_goBack_81 : decode cX4_goBack 81 = .ok (.sipush 146, 3) := by decide +kernel
theorem dX4_goBack_84 : decode cX4_goBack 84 = .ok (.iaload, 1) := by decide +kernel
theorem dX4_goBack_85 : decode cX4_goBack 85 = .ok (.ireturn, 1) := by decide +kernel
theorem dX4_putAside_0 : decode cX4_putAside 0 = .ok (.iconst 0, 1) := by decide +kernel
theorem dX4_putAside_1 : decode cX4_putAside 1 = .ok (.istore_n 1, 1) := by decide +kernel
theorem dX4_putAside_2 : decode cX4_putAside 2 = .ok (.iload_n 1, 1) := by decide +kernel
theorem dX4_putAside_3 : decode cX4_putAside 3 = .ok (.sipush 150, 3) := by decide +kernel
theorem dX4_putAside_6 : decode cX4_putAside 6 = .ok (.if_icmp .ge 21, 3) := by decide +kernel
theorem dX4_putAside_9 : decode cX4_putAside 9 = .ok (.aload_n 0, 1) := by decide +kernel
theorem dX4_putAside_10 : decode cX4_putAside 10 = .ok (.getfield 13, 3) := by decide +kernel
theorem dX4_putAside_13 : decode cX4_putAside 13 = .ok (.iload_n 1, 1) := by decide +kernel
theorem dX4_putAside_14 : decode cX4_putAside 14 = .ok (.aload_n 0, 1) := by decide +kernel
theorem dX4_putAside_15 : decode cX4_putAside 15 = .ok (.getfield 7, 3) := by decide +kernel
theorem dX4_putAside_18 : decode cX4_putAside 18 = .ok (.iload_n 1, 1) := by decide +kernel
theorem dX4_putAside_19 : decode cX4_putAside 19 = .ok (.iaload, 1) := by decide +kernel
theorem dX4_putAside_20 : decode cX4_putAside 20 = .ok (.iastore, 1) := by decide +kernel
theorem dX4_putAside_21 : decode cX4_putAside 21 = .ok (.iinc 1 1, 3) := by decide +kernel
theorem dX4_putAside_24 : decode cX4_putAside 24 = .ok (.goto (-22), 3) := by decide +kernel
theorem dX4_putAside_27 : decode cX4_putAside 27 = .ok (.return_, 1) := by decide +kernel
theorem dX4_putBack_0 : decode cX4_putBack 0 = .ok (.iconst 0, 1) := by decide +kernel
theorem dX4_putBack_1 : decode cX4_putBack 1 = .ok (.istore_n 1, 1) := by decide +kernel
theorem dX4_putBack_2 : decode cX4_putBack 2 = .ok (.iload_n 1, 1) := by decide +kernel
theorem dX4_putBack_3 : decode cX4_putBack 3 = .ok (.sipush 150, 3) := by decide +kernel
theorem dX4_putBack_6 : decode cX4_putBack 6 = .ok (.if_icmp .ge 21, 3) := by decide +kernel
theorem dX4_putBack_9 : decode cX4_putBack 9 = .ok (.aload_n 0, 1) := by decide +kernel
theorem dX4_putBack_10 : decode cX4_putBack 10 = .ok (.getfield 7, 3) := by decide +kernel
theorem dX4_putBack_13 : decode cX4_putBack 13 = .ok (.iload_n 1, 1) := by decide +kernel
theorem dX4_putBack_14 : decode cX4_putBack 14 = .ok (.aload_n 0, 1) := by decide +kernel
theorem dX4_putBack_15 : decode cX4_putBack 15 = .ok (.getfield 13, 3) := by decide +kernel
theorem dX4_putBack_18 : decode cX4_putBack 18 = .ok (.iload_n 1, 1) := by decide +kernel
theorem dX4_putBack_19 : decode cX4_putBack 19 = .ok (.iaload, 1) := by decide +kernel
theorem dX4_putBack_20 : decode cX4_putBack 20 = .ok (.iastore, 1) := by decide +kernel
theorem dX4_putBack_21 : decode cX4_putBack 21 = .ok (.iinc 1 1, 3) := by decide +kernel
theorem dX4_putBack_24 : decode cX4_putBack 24 = .ok (.goto (-22), 3) := by decide +kernel
theorem dX4_putBack_27 : decode cX4_putBack 27 = .ok (.return_, 1) := by decide +kernel
theorem dX4_agrees_0 : decode cX4_agrees 0 = .ok (.aload_n 0, 1) := by decide +kernel
theorem dX4_agrees_1 : decode cX4_agrees 1 = .ok (.iload_n 1, 1) := by decide +kernel
theorem dX4_agrees_2 : decode cX4_agrees 2 = .ok (.iconst 0, 1) := by decide +kernel
theorem dX4_agrees_3 : decode cX4_agrees 3 = .ok (.invokevirtual 43, 3) := by decide +kernel
theorem dX4_agrees_6 : decode cX4_agrees 6 = .ok (.aload_n 0, 1) := by decide +kernel
theorem dX4_agrees_7 : decode cX4_agrees 7 = .ok (.getfield 7, 3) := by decide +kernel
theorem dX4_agrees_10 : decode cX4_agrees 10 = .ok (.iconst 2, 1) := by decide +kernel
theorem dX4_agrees_11 : decode cX4_agrees 11 = .ok (.iload_n 2, 1) := by decide +kernel
theorem dX4_agrees_12 : decode cX4_agrees 12 = .ok (.imul, 1) := by decide +kernel
theorem dX4_agrees_13 : decode cX4_agrees 13 = .ok (.iaload, 1) := by decide +kernel
theorem dX4_agrees_14 : decode cX4_agrees 14 = .ok (.isub, 1) := by decide +kernel
theorem dX4_agrees_15 : decode cX4_agrees 15 = .ok (.bipush 8, 2) := by decide +kernel
theorem dX4_agrees_17 : decode cX4_agrees 17 = .ok (.iadd, 1) := by decide +kernel
theorem dX4_agrees_18 : decode cX4_agrees 18 = .ok (.bipush 8, 2) := by decide +kernel
theorem dX4_agrees_20 : decode cX4_agrees 20 = .ok (.irem, 1) := by decide +kernel
theorem dX4_agrees_21 : decode cX4_agrees 21 = .ok (.istore_n 3, 1) := by decide +kernel
theorem dX4_agrees_22 : decode cX4_agrees 22 = .ok (.iload_n 3, 1) := by decide +kernel
theorem dX4_agrees_23 : decode cX4_agrees 23 = .ok (.iconst 4, 1) := by decide +kernel
theorem dX4_agrees_24 : decode cX4_agrees 24 = .ok (.if_icmp .le 10, 3) := by decide +kernel
theorem dX4_agrees_27 : decode cX4_agrees 27 = .ok (.bipush 8, 2) := by decide +kernel
theorem dX4_agrees_29 : decode cX4_agrees 29 = .ok (.iload_n 3, 1) := by decide +kernel
theorem dX4_agrees_30 : decode cX4_agrees 30 = .ok (.isub, 1) := by decide +kernel
theorem dX4_agrees_31 : decode cX4_agrees 31 = .ok (.goto 4, 3) := by decide +kernel
theorem dX4_agrees_34 : decode cX4_agrees 34 = .ok (.iload_n 3, 1) := by decide +kernel
theorem dX4_agrees_35 : decode cX4_agrees 35 = .ok (.istore 4, 2) := by decide +kernel
theorem dX4_agrees_37 : decode cX4_agrees 37 = .ok (.aload_n 0, 1) := by decide +kernel
theorem dX4_agrees_38 : decode cX4_agrees 38 = .ok (.getfield 7, 3) := by decide +kernel
theorem dX4_agrees_41 : decode cX4_agrees 41 = .ok (.iconst 2, 1) := by decide +kernel
theorem dX4_agrees_42 : decode cX4_agrees 42 = .ok (.iload_n 2, 1) := by decide +kernel
theorem dX4_agrees_43 : decode cX4_agrees 43 = .ok (.imul, 1) := by decide +kernel
theorem dX4_agrees_44 : decode cX4_agrees 44 = .ok (.iconst 1, 1) := by decide +kernel
theorem dX4_agrees_45 : decode cX4_agrees 45 = .ok (.iadd, 1) := by decide +kernel
theorem dX4_agrees_46 : decode cX4_agrees 46 = .ok (.iaload, 1) := by decide +kernel
theorem dX4_agrees_47 : decode cX4_agrees 47 = .ok (.aload_n 0, 1) := by decide +kernel
theorem dX4_agrees_48 : decode cX4_agrees 48 = .ok (.iload_n 1, 1) := by decide +kernel
theorem dX4_agrees_49 : decode cX4_agrees 49 = .ok (.iconst 2, 1) := by decide +kernel
theorem dX4_agrees_50 : decode cX4_agrees 50 = .ok (.invokevirtual 43, 3) := by decide +kernel
theorem dX4_agrees_53 : decode cX4_agrees 53 = .ok (.if_icmp .lt 18, 3) := by decide +kernel
theorem dX4_agrees_56 : decode cX4_agrees 56 = .ok (.iload 4, 2) := by decide +kernel
theorem dX4_agrees_58 : decode cX4_agrees 58 = .ok (.aload_n 0, 1) := by decide +kernel
theorem dX4_agrees_59 : decode cX4_agrees 59 = .ok (.iload_n 1, 1) := by decide +kernel
theorem dX4_agrees_60 : decode cX4_agrees 60 = .ok (.iconst 1, 1) := by decide +kernel
theorem dX4_agrees_61 : decode cX4_agrees 61 = .ok (.invokevirtual 43, 3) := by decide +kernel
theorem dX4_agrees_64 : decode cX4_agrees 64 = .ok (.if_icmp .gt 7, 3) := by decide +kernel
theorem dX4_agrees_67 : decode cX4_agrees 67 = .ok (.iconst 1, 1) := by decide +kernel
theorem dX4_agrees_68 : decode cX4_agrees 68 = .ok (.goto 4, 3) := by decide +kernel
theorem dX4_agrees_71 : decode cX4_agrees 71 = .ok (.iconst 0, 1) := by decide +kernel
theorem dX4_agrees_72 : decode cX4_agrees 72 = .ok (.ireturn, 1) := by decide +kernel
theorem dX4_committee_0 : decode cX4_committee 0 = .ok (.iconst 0, 1) := by decide +kernel
theorem dX4_committee_1 : decode cX4_committee 1 = .ok (.istore_n 1, 1) := by decide +kernel
theorem dX4_committee_2 : decode cX4_committee 2 = .ok (.iconst 0, 1) := by decide +kernel
theorem dX4_committee_3 : decode cX4_committee 3 = .ok (.istore_n 2, 1) := by decide +kernel
theorem dX4_committee_4 : decode cX4_committee 4 = .ok (.iload_n 2, 1) := by decide +kernel
theorem dX4_committee_5 : decode cX4_committee 5 = .ok (.bipush 6, 2) := by decide +kernel
theorem dX4_committee_7 : decode cX4_committee 7 = .ok (.if_icmp .ge 20, 3) := by decide +kernel
theorem dX4_committee_10 : decode cX4_committee 10 = .ok (.iload_n 1, 1) := by decide +kernel
theorem dX4_committee_11 : decode cX4_committee 11 = .ok (.iconst 1, 1) := by decide +kernel
theorem dX4_committee_12 : decode cX4_committee 12 = .ok (.aload_n 0, 1) := by decide +kernel
theorem dX4_committee_13 : decode cX4_committee 13 = .ok (.iload_n 2, 1) := by decide +kernel
theorem dX4_committee_14 : decode cX4_committee 14 = .ok (.iconst 3, 1) := by decide +kernel
theorem dX4_committee_15 : decode cX4_committee 15 = .ok (.invokevirtual 43, 3) := by decide +kernel
theorem dX4_committee_18 : decode cX4_committee 18 = .ok (.isub, 1) := by decide +kernel
theorem dX4_committee_19 : decode cX4_committee 19 = .ok (.iadd, 1) := by decide +kernel
theorem dX4_committee_20 : decode cX4_committee 20 = .ok (.istore_n 1, 1) := by decide +kernel
theorem dX4_committee_21 : decode cX4_committee 21 = .ok (.iinc 2 1, 3) := by decide +kernel
theorem dX4_committee_24 : decode cX4_committee 24 = .ok (.goto (-20), 3) := by decide +kernel
theorem dX4_committee_27 : decode cX4_committee 27 = .ok (.iload_n 1, 1) := by decide +kernel
theorem dX4_committee_28 : decode cX4_committee 28 = .ok (.ireturn, 1) := by decide +kernel
theorem dX4_agreeing_0 : decode cX4_agreeing 0 = .ok (.iconst 0, 1) := by decide +kernel
theorem dX4_agreeing_1 : decode cX4_agreeing 1 = .ok (.istore_n 2, 1) := by decide +kernel
theorem dX4_agreeing_2 : decode cX4_agreeing 2 = .ok (.iconst 0, 1) := by decide +kernel
theorem dX4_agreeing_3 : decode cX4_agreeing 3 = .ok (.istore_n 3, 1) := by decide +kernel
theorem dX4_agreeing_4 : decode cX4_agreeing 4 = .ok (.iload_n 3, 1) := by decide +kernel
theorem dX4_agreeing_5 : decode cX4_agreeing 5 = .ok (.bipush 6, 2) := by decide +kernel
theorem dX4_agreeing_7 : decode cX4_agreeing 7 = .ok (.if_icmp .ge 35, 3) := by decide +kernel
theorem dX4_agreeing_10 : decode cX4_agreeing 10 = .ok (.iload_n 2, 1) := by decide +kernel
theorem dX4_agreeing_11 : decode cX4_agreeing 11 = .ok (.aload_n 0, 1) := by decide +kernel
theorem dX4_agreeing_12 : decode cX4_agreeing 12 = .ok (.iload_n 3, 1) := by decide +kernel
theorem dX4_agreeing_13 : decode cX4_agreeing 13 = .ok (.iconst 3, 1) := by decide +kernel
theorem dX4_agreeing_14 : decode cX4_agreeing 14 = .ok (.invokevirtual 43, 3) := by decide +kernel
theorem dX4_agreeing_17 : decode cX4_agreeing 17 = .ok (.ifCond .ne 16, 3) := by decide +kernel
theorem dX4_agreeing_20 : decode cX4_agreeing 20 = .ok (.aload_n 0, 1) := by decide +kernel
theorem dX4_agreeing_21 : decode cX4_agreeing 21 = .ok (.iload_n 3, 1) := by decide +kernel
theorem dX4_agreeing_22 : decode cX4_agreeing 22 = .ok (.iload_n 1, 1) := by decide +kernel
theorem dX4_agreeing_23 : decode cX4_agreeing 23 = .ok (.invokevirtual 47, 3) := by decide +kernel
theorem dX4_agreeing_26 : decode cX4_agreeing 26 = .ok (.ifCond .eq 7, 3) := by decide +kernel
theorem dX4_agreeing_29 : decode cX4_agreeing 29 = .ok (.iconst 1, 1) := by decide +kernel
theorem dX4_agreeing_30 : decode cX4_agreeing 30 = .ok (.goto 4, 3) := by decide +kernel
theorem dX4_agreeing_33 : decode cX4_agreeing 33 = .ok (.iconst 0, 1) := by decide +kernel
theorem dX4_agreeing_34 : decode cX4_agreeing 34 = .ok (.iadd, 1) := by decide +kernel
theorem dX4_agreeing_35 : decode cX4_agreeing 35 = .ok (.istore_n 2, 1) := by decide +kernel
theorem dX4_agreeing_36 : decode cX4_agreeing 36 = .ok (.iinc 3 1, 3) := by decide +kernel
theorem dX4_agreeing_39 : decode cX4_agreeing 39 = .ok (.goto (-35), 3) := by decide +kernel
theorem dX4_agreeing_42 : decode cX4_agreeing 42 = .ok (.iload_n 2, 1) := by decide +kernel
theorem dX4_agreeing_43 : decode cX4_agreeing 43 = .ok (.ireturn, 1) := by decide +kernel
theorem dX4_whyNot_0 : decode cX4_whyNot 0 = .ok (.aload_n 0, 1) := by decide +kernel
theorem dX4_whyNot_1 : decode cX4_whyNot 1 = .ok (.invokevirtual 51, 3) := by decide +kernel
theorem dX4_whyNot_4 : decode cX4_whyNot 4 = .ok (.istore_n 2, 1) := by decide +kernel
theorem dX4_whyNot_5 : decode cX4_whyNot 5 = .ok (.iload_n 2, 1) := by decide +kernel
theorem dX4_whyNot_6 : decode cX4_whyNot 6 = .ok (.aload_n 0, 1) := by decide +kernel
theorem dX4_whyNot_7 : decode cX4_whyNot 7 = .ok (.getfield 7, 3) := by decide +kernel
theorem dX4_whyNot_10 : decode cX4_whyNot 10 = .ok (.bipush 72, 2) := by decide +kernel
theorem dX4_whyNot_12 : decode cX4_whyNot 12 = .ok (.iaload, 1) := by decide +kernel
theorem dX4_whyNot_13 : decode cX4_whyNot 13 = .ok (.if_icmp .ge 5, 3) := by decide +kernel
theorem dX4_whyNot_16 : decode cX4_whyNot 16 = .ok (.iconst 1, 1) := by decide +kernel
theorem dX4_whyNot_17 : decode cX4_whyNot 17 = .ok (.ireturn, 1) := by decide +kernel
theorem dX4_whyNot_18 : decode cX4_whyNot 18 = .ok (.iconst 2, 1) := by decide +kernel
theorem dX4_whyNot_19 : decode cX4_whyNot 19 = .ok (.aload_n 0, 1) := by decide +kernel
theorem dX4_whyNot_20 : decode cX4_whyNot 20 = .ok (.iload_n 1, 1) := by decide +kernel
theorem dX4_whyNot_21 : decode cX4_whyNot 21 = .ok (.invokevirtual 55, 3) := by decide +kernel
theorem dX4_whyNot_24 : decode cX4_whyNot 24 = .ok (.imul, 1) := by decide +kernel
theorem dX4_whyNot_25 : decode cX4_whyNot 25 = .ok (.istore_n 3, 1) := by decide +kernel
theorem dX4_whyNot_26 : decode cX4_whyNot 26 = .ok (.iload_n 3, 1) := by decide +kernel
theorem dX4_whyNot_27 : decode cX4_whyNot 27 = .ok (.iload_n 2, 1) := by decide +kernel
theorem dX4_whyNot_28 : decode cX4_whyNot 28 = .ok (.if_icmp .gt 19, 3) := by decide +kernel
theorem dX4_whyNot_31 : decode cX4_whyNot 31 = .ok (.aload_n 0, 1) := by decide +kernel
theorem dX4_whyNot_32 : decode cX4_whyNot 32 = .ok (.getfield 7, 3) := by decide +kernel
theorem dX4_whyNot_35 : decode cX4_whyNot 35 = .ok (.bipush 73, 2) := by decide +kernel
theorem dX4_whyNot_37 : decode cX4_whyNot 37 = .ok (.iaload, 1) := by decide +kernel
theorem dX4_whyNot_38 : decode cX4_whyNot 38 = .ok (.iconst 1, 1) := by decide +kernel
theorem dX4_whyNot_39 : decode cX4_whyNot 39 = .ok (.if_icmp .ne 12, 3) := by decide +kernel
theorem dX4_whyNot_42 : decode cX4_whyNot 42 = .ok (.iload_n 3, 1) := by decide +kernel
theorem dX4_whyNot_43 : decode cX4_whyNot 43 = .ok (.iload_n 2, 1) := by decide +kernel
theorem dX4_whyNot_44 : decode cX4_whyNot 44 = .ok (.if_icmp .ne 7, 3) := by decide +kernel
theorem dX4_whyNot_47 : decode cX4_whyNot 47 = .ok (.iconst 0, 1) := by decide +kernel
theorem dX4_whyNot_48 : decode cX4_whyNot 48 = .ok (.goto 4, 3) := by decide +kernel
theorem dX4_whyNot_51 : decode cX4_whyNot 51 = .ok (.iconst 2, 1) := by decide +kernel
theorem dX4_whyNot_52 : decode cX4_whyNot 52 = .ok (.ireturn, 1) := by decide +kernel
theorem dX4_hoursOfDay_0 : decode cX4_hoursOfDay 0 = .ok (.iconst 0, 1) := by decide +kernel
theorem dX4_hoursOfDay_1 : decode cX4_hoursOfDay 1 = .ok (.istore_n 1, 1) := by decide +kernel
theorem dX4_hoursOfDay_2 : decode cX4_hoursOfDay 2 = .ok (.iconst 0, 1) := by decide +kernel
theorem dX4_hoursOfDay_3 : decode cX4_hoursOfDay 3 = .ok (.istore_n 2, 1) := by decide +kernel
theorem dX4_hoursOfDay_4 : decode cX4_hoursOfDay 4 = .ok (.iload_n 2, 1) := by decide +kernel
theorem dX4_hoursOfDay_5 : decode cX4_hoursOfDay 5 = .ok (.bipush 24, 2) := by decide +kernel
theorem dX4_hoursOfDay_7 : decode cX4_hoursOfDay 7 = .ok (.if_icmp .ge 25, 3) := by decide +kernel
theorem dX4_hoursOfDay_10 : decode cX4_hoursOfDay 10 = .ok (.iload_n 1, 1) := by decide +kernel
theorem dX4_hoursOfDay_11 : decode cX4_hoursOfDay 11 = .ok (.aload_n 0, 1) := by decide +kernel
theorem dX4_hoursOfDay_12 : decode cX4_hoursOfDay 12 = .ok (.iload_n 2, 1) := by decide +kernel
theorem dX4_hoursOfDay_13 : decode cX4_hoursOfDay 13 = .ok (.invokevirtual 59, 3) := by decide +kernel
theorem dX4_hoursOfDay_16 : decode cX4_hoursOfDay 16 = .ok (.ifCond .ne 7, 3) := by decide +kernel
theorem dX4_hoursOfDay_19 : decode cX4_hoursOfDay 19 = .ok (.iconst 1, 1) := by decide +kernel
theorem dX4_hoursOfDay_20 : decode cX4_hoursOfDay 20 = .ok (.goto 4, 3) := by decide +kernel
theorem dX4_hoursOfDay_23 : decode cX4_hoursOfDay 23 = .ok (.iconst 0, 1) := by decide +kernel
theorem dX4_hoursOfDay_24 : decode cX4_hoursOfDay 24 = .ok (.iadd, 1) := by decide +kernel
theorem dX4_hoursOfDay_25 : decode cX4_hoursOfDay 25 = .ok (.istore_n 1, 1) := by decide +kernel
theorem dX4_hoursOfDay_26 : decode cX4_hoursOfDay 26 = .ok (.iinc 2 1, 3) := by decide +kernel
theorem dX4_hoursOfDay_29 : decode cX4_hoursOfDay 29 = .ok (.goto (-25), 3) := by decide +kernel
theorem dX4_hoursOfDay_32 : decode cX4_hoursOfDay 32 = .ok (.iload_n 1, 1) := by decide +kernel
theorem dX4_hoursOfDay_33 : decode cX4_hoursOfDay 33 = .ok (.ireturn, 1) := by decide +kernel
theorem dX4_much_0 : decode cX4_much 0 = .ok (.aload_n 0, 1) := by decide +kernel
theorem dX4_much_1 : decode cX4_much 1 = .ok (.iload_n 2, 1) := by decide +kernel
theorem dX4_much_2 : decode cX4_much 2 = .ok (.invokevirtual 59, 3) := by decide +kernel
theorem dX4_much_5 : decode cX4_much 5 = .ok (.ifCond .ne 25, 3) := by decide +kernel
theorem dX4_much_8 : decode cX4_much 8 = .ok (.aload_n 0, 1) := by decide +kernel
theorem dX4_much_9 : decode cX4_much 9 = .ok (.iload_n 1, 1) := by decide +kernel
theorem dX4_much_10 : decode cX4_much 10 = .ok (.iconst 0, 1) := by decide +kernel
theorem dX4_much_11 : decode cX4_much 11 = .ok (.invokevirtual 62, 3) := by decide +kernel
theorem dX4_much_14 : decode cX4_much 14 = .ok (.aload_n 0, 1) := by decide +kernel
theorem dX4_much_15 : decode cX4_much 15 = .ok (.getfield 7, 3) := by decide +kernel
theorem dX4_much_18 : decode cX4_much 18 = .ok (.iconst 2, 1) := by decide +kernel
theorem dX4_much_19 : decode cX4_much 19 = .ok (.iload_n 2, 1) := by decide +kernel
theorem dX4_much_20 : decode cX4_much 20 = .ok (.imul, 1) := by decide +kernel
theorem dX4_much_21 : decode cX4_much 21 = .ok (.iconst 1, 1) := by decide +kernel
theorem dX4_much_22 : decode cX4_much 22 = .ok (.iadd, 1) := by decide +kernel
theorem dX4_much_23 : decode cX4_much 23 = .ok (.iaload, 1) := by decide +kernel
theorem dX4_much_24 : decode cX4_much 24 = .ok (.imul, 1) := by decide +kernel
theorem dX4_much_25 : decode cX4_much 25 = .ok (.iconst 4, 1) := by decide +kernel
theorem dX4_much_26 : decode cX4_much 26 = .ok (.idiv, 1) := by decide +kernel
theorem dX4_much_27 : decode cX4_much 27 = .ok (.goto 4, 3) := by decide +kernel
theorem dX4_much_30 : decode cX4_much 30 = .ok (.iconst 0, 1) := by decide +kernel
theorem dX4_much_31 : decode cX4_much 31 = .ok (.ireturn, 1) := by decide +kernel
theorem dX4_muchInDay_0 : decode cX4_muchInDay 0 = .ok (.iconst 0, 1) := by decide +kernel
theorem dX4_muchInDay_1 : decode cX4_muchInDay 1 = .ok (.istore_n 2, 1) := by decide +kernel
theorem dX4_muchInDay_2 : decode cX4_muchInDay 2 = .ok (.iconst 0, 1) := by decide +kernel
theorem dX4_muchInDay_3 : decode cX4_muchInDay 3 = .ok (.istore_n 3, 1) := by decide +kernel
theorem dX4_muchInDay_4 : decode cX4_muchInDay 4 = .ok (.iload_n 3, 1) := by decide +kernel
theorem dX4_muchInDay_5 : decode cX4_muchInDay 5 = .ok (.bipush 24, 2) := by decide +kernel
theorem dX4_muchInDay_7 : decode cX4_muchInDay 7 = .ok (.if_icmp .ge 18, 3) := by decide +kernel
theorem dX4_muchInDay_10 : decode cX4_muchInDay 10 = .ok (.iload_n 2, 1) := by decide +kernel
theorem dX4_muchInDay_11 : decode cX4_muchInDay 11 = .ok (.aload_n 0, 1) := by decide +kernel
theorem dX4_muchInDay_12 : decode cX4_muchInDay 12 = .ok (.iload_n 1, 1) := by decide +kernel
theorem dX4_muchInDay_13 : decode cX4_muchInDay 13 = .ok (.iload_n 3, 1) := by decide +kernel
theorem dX4_muchInDay_14 : decode cX4_muchInDay 14 = .ok (.invokevirtual 65, 3) := by decide +kernel
theorem dX4_muchInDay_17 : decode cX4_muchInDay 17 = .ok (.iadd, 1) := by decide +kernel
theorem dX4_muchInDay_18 : decode cX4_muchInDay 18 = .ok (.istore_n 2, 1) := by decide +kernel
theorem dX4_muchInDay_19 : decode cX4_muchInDay 19 = .ok (.iinc 3 1, 3) := by decide +kernel
theorem dX4_muchInDay_22 : decode cX4_muchInDay 22 = .ok (.goto (-18), 3) := by decide +kernel
theorem dX4_muchInDay_25 : decode cX4_muchInDay 25 = .ok (.iload_n 2, 1) := by decide +kernel
theorem dX4_muchInDay_26 : decode cX4_muchInDay 26 = .ok (.ireturn, 1) := by decide +kernel
theorem dX4_waiting_0 : decode cX4_waiting 0 = .ok (.iconst 0, 1) := by decide +kernel
theorem dX4_waiting_1 : decode cX4_waiting 1 = .ok (.istore_n 2, 1) := by decide +kernel
theorem dX4_waiting_2 : decode cX4_waiting 2 = .ok (.iconst 0, 1) := by decide +kernel
theorem dX4_waiting_3 : decode cX4_waiting 3 = .ok (.istore_n 3, 1) := by decide +kernel
theorem dX4_waiting_4 : decode cX4_waiting 4 = .ok (.iload_n 3, 1) := by decide +kernel
theorem dX4_waiting_5 : decode cX4_waiting 5 = .ok (.aload_n 0, 1) := by decide +kernel
theorem dX4_waiting_6 : decode cX4_waiting 6 = .ok (.iload_n 1, 1) := by decide +kernel
theorem dX4_waiting_7 : decode cX4_waiting 7 = .ok (.iconst 1, 1) := by decide +kernel
theorem dX4_waiting_8 : decode cX4_waiting 8 = .ok (.invokevirtual 62, 3) := by decide +kernel
theorem dX4_waiting_11 : decode cX4_waiting 11 = .ok (.if_icmp .ge 24, 3) := by decide +kernel
theorem dX4_waiting_14 : decode cX4_waiting 14 = .ok (.iload_n 2, 1) := by decide +kernel
theorem dX4_waiting_15 : decode cX4_waiting 15 = .ok (.aload_n 0, 1) := by decide +kernel
theorem dX4_waiting_16 : decode cX4_waiting 16 = .ok (.iload_n 1, 1) := by decide +kernel
theorem dX4_waiting_17 : decode cX4_waiting 17 = .ok (.iconst 3, 1) := by decide +kernel
theorem dX4_waiting_18 : decode cX4_waiting 18 = .ok (.iconst 2, 1) := by decide +kernel
theorem dX4_waiting_19 : decode cX4_waiting 19 = .ok (.iload_n 3, 1) := by decide +kernel
theorem dX4_waiting_20 : decode cX4_waiting 20 = .ok (.imul, 1) := by decide +kernel
theorem dX4_waiting_21 : decode cX4_waiting 21 = .ok (.iadd, 1) := by decide +kernel
theorem dX4_waiting_22 : decode cX4_waiting 22 = .ok (.iconst 1, 1) := by decide +kernel
theorem dX4_waiting_23 : decode cX4_waiting 23 = .ok (.iadd, 1) := by decide +kernel
theorem dX4_waiting_24 : decode cX4_waiting 24 = .ok (.invokevirtual 62, 3) := by decide +kernel
theorem dX4_waiting_27 : decode cX4_waiting 27 = .ok (.iadd, 1) := by decide +kernel
theorem dX4_waiting_28 : decode cX4_waiting 28 = .ok (.istore_n 2, 1) := by decide +kernel
theorem dX4_waiting_29 : decode cX4_waiting 29 = .ok (.iinc 3 1, 3) := by decide +kernel
theorem dX4_waiting_32 : decode cX4_waiting 32 = .ok (.goto (-28), 3) := by decide +kernel
theorem dX4_waiting_35 : decode cX4_waiting 35 = .ok (.iload_n 2, 1) := by decide +kernel
theorem dX4_waiting_36 : decode cX4_waiting 36 = .ok (.ireturn, 1) := by decide +kernel
theorem dX4_dropFirst_0 : decode cX4_dropFirst 0 = .ok (.aload_n 0, 1) := by decide +kernel
theorem dX4_dropFirst_1 : decode cX4_dropFirst 1 = .ok (.iload_n 1, 1) := by decide +kernel
theorem dX4_dropFirst_2 : decode cX4_dropFirst 2 = .ok (.iconst 1, 1) := by decide +kernel
theorem dX4_dropFirst_3 : decode cX4_dropFirst 3 = .ok (.iconst (-1), 1) := by decide +kernel
theorem dX4_dropFirst_4 : decode cX4_dropFirst 4 = .ok (.invokevirtual 68, 3) := by decide +kernel
theorem dX4_dropFirst_7 : decode cX4_dropFirst 7 = .ok (.bipush 74, 2) := by decide +kernel
theorem dX4_dropFirst_9 : decode cX4_dropFirst 9 = .ok (.bipush 19, 2) := by decide +kernel
theorem dX4_dropFirst_11 : decode cX4_dropFirst 11 = .ok (.iload_n 1, 1) := by decide +kernel
theorem dX4_dropFirst_12 : decode cX4_dropFirst 12 = .ok (.imul, 1) := by decide +kernel
theorem dX4_dropFirst_13 : decode cX4_dropFirst 13 = .ok (.iadd, 1) := by decide +kernel
theorem dX4_dropFirst_14 : decode cX4_dropFirst 14 = .ok (.iconst 3, 1) := by decide +kernel
theorem dX4_dropFirst_15 : decode cX4_dropFirst 15 = .ok (.iadd, 1) := by decide +kernel
theorem dX4_dropFirst_16 : decode cX4_dropFirst 16 = .ok (.istore_n 2, 1) := by decide +kernel
theorem dX4_dropFirst_17 : decode cX4_dropFirst 17 = .ok (.iload_n 2, 1) := by decide +kernel
theorem dX4_dropFirst_18 : decode cX4_dropFirst 18 = .ok (.istore_n 3, 1) := by decide +kernel
theorem dX4_dropFirst_19 : decode cX4_dropFirst 19 = .ok (.iload_n 3, 1) := by decide +kernel
theorem dX4_dropFirst_20 : decode cX4_dropFirst 20 = .ok (.iload_n 2, 1) := by decide +kernel
theorem dX4_dropFirst_21 : decode cX4_dropFirst 21 = .ok (.iconst 2, 1) := by decide +kernel
theorem dX4_dropFirst_22 : decode cX4_dropFirst 22 = .ok (.aload_n 0, 1) := by decide +kernel
theorem dX4_dropFirst_23 : decode cX4_dropFirst 23 = .ok (.iload_n 1, 1) := by decide +kernel
theorem dX4_dropFirst_24 : decode cX4_dropFirst 24 = .ok (.iconst 1, 1) := by decide +kernel
theorem dX4_dropFirst_25 : decode cX4_dropFirst 25 = .ok (.invokevirtual 62, 3) := by decide +kernel
theorem dX4_dropFirst_28 : decode cX4_dropFirst 28 = .ok (.imul, 1) := by decide +kernel
theorem dX4_dropFirst_29 : decode cX4_dropFirst 29 = .ok (.iadd, 1) := by decide +kernel
theorem dX4_dropFirst_30 : decode cX4_dropFirst 30 = .ok (.if_icmp .ge 23, 3) := by decide +kernel
theorem dX4_dropFirst_33 : decode cX4_dropFirst 33 = .ok (.aload_n 0, 1) := by decide +kernel
theorem dX4_dropFirst_34 : decode cX4_dropFirst 34 = .ok (.getfield 7, 3) := by decide +kernel
theorem dX4_dropFirst_37 : decode cX4_dropFirst 37 = .ok (.iload_n 3, 1) := by decide +kernel
theorem dX4_dropFirst_38 : decode cX4_dropFirst 38 = .ok (.aload_n 0, 1) := by decide +kernel
theorem dX4_dropFirst_39 : decode cX4_dropFirst 39 = .ok (.getfield 7, 3) := by decide +kernel
theorem dX4_dropFirst_42 : decode cX4_dropFirst 42 = .ok (.iload_n 3, 1) := by decide +kernel
theorem dX4_dropFirst_43 : decode cX4_dropFirst 43 = .ok (.iconst 2, 1) := by decide +kernel
theorem dX4_dropFirst_44 : decode cX4_dropFirst 44 = .ok (.iadd, 1) := by decide +kernel
theorem dX4_dropFirst_45 : decode cX4_dropFirst 45 = .ok (.iaload, 1) := by decide +kernel
theorem dX4_dropFirst_46 : decode cX4_dropFirst 46 = .ok (.iastore, 1) := by decide +kernel
theorem dX4_dropFirst_47 : decode cX4_dropFirst 47 = .ok (.iinc 3 1, 3) := by decide +kernel
theorem dX4_dropFirst_50 : decode cX4_dropFirst 50 = .ok (.goto (-31), 3) := by decide +kernel
theorem dX4_dropFirst_53 : decode cX4_dropFirst 53 = .ok (.return_, 1) := by decide +kernel
theorem dX4_grind_0 : decode cX4_grind 0 = .ok (.iload_n 2, 1) := by decide +kernel
theorem dX4_grind_1 : decode cX4_grind 1 = .ok (.istore_n 3, 1) := by decide +kernel
theorem dX4_grind_2 : decode cX4_grind 2 = .ok (.iload_n 3, 1) := by decide +kernel
theorem dX4_grind_3 : decode cX4_grind 3 = .ok (.ifCond .le 84, 3) := by decide +kernel
theorem dX4_grind_6 : decode cX4_grind 6 = .ok (.aload_n 0, 1) := by decide +kernel
theorem dX4_grind_7 : decode cX4_grind 7 = .ok (.iload_n 1, 1) := by decide +kernel
theorem dX4_grind_8 : decode cX4_grind 8 = .ok (.iconst 1, 1) := by decide +kernel
theorem dX4_grind_9 : decode cX4_grind 9 = .ok (.invokevirtual 62, 3) := by decide +kernel
theorem dX4_grind_12 : decode cX4_grind 12 = .ok (.ifCond .le 75, 3) := by decide +kernel
theorem dX4_grind_15 : decode cX4_grind 15 = .ok (.aload_n 0, 1) := by decide +kernel
theorem dX4_grind_16 : decode cX4_grind 16 = .ok (.iload_n 1, 1) := by decide +kernel
theorem dX4_grind_17 : decode cX4_grind 17 = .ok (.iconst 4, 1) := by decide +kernel
theorem dX4_grind_18 : decode cX4_grind 18 = .ok (.invokevirtual 62, 3) := by decide +kernel
theorem dX4_grind_21 : decode cX4_grind 21 = .ok (.istore 4, 2) := by decide +kernel
theorem dX4_grind_23 : decode cX4_grind 23 = .ok (.iload 4, 2) := by decide +kernel
theorem dX4_grind_25 : decode cX4_grind 25 = .ok (.iload_n 3, 1) := by decide +kernel
theorem dX4_grind_26 : decode cX4_grind 26 = .ok (.if_icmp .ge 8, 3) := by decide +kernel
theorem dX4_grind_29 : decode cX4_grind 29 = .ok (.iload 4, 2) := by decide +kernel
theorem dX4_grind_31 : decode cX4_grind 31 = .ok (.goto 4, 3) := by decide +kernel
theorem dX4_grind_34 : decode cX4_grind 34 = .ok (.iload_n 3, 1) := by decide +kernel
theorem dX4_grind_35 : decode cX4_grind 35 = .ok (.istore 5, 2) := by decide +kernel
theorem dX4_grind_37 : decode cX4_grind 37 = .ok (.aload_n 0, 1) := by decide +kernel
theorem dX4_grind_38 : decode cX4_grind 38 = .ok (.aload_n 0, 1) := by decide +kernel
theorem dX4_grind_39 : decode cX4_grind 39 = .ok (.iload_n 1, 1) := by decide +kernel
theorem dX4_grind_40 : decode cX4_grind 40 = .ok (.iconst 3, 1) := by decide +kernel
theorem dX4_grind_41 : decode cX4_grind 41 = .ok (.invokevirtual 62, 3) := by decide +kernel
theorem dX4_grind_44 : decode cX4_grind 44 = .ok (.iconst 0, 1) := by decide +kernel
theorem dX4_grind_45 : decode cX4_grind 45 = .ok (.iload 5, 2) := by decide +kernel
theorem dX4_grind_47 : decode cX4_grind 47 = .ok (.invokevirtual 72, 3) := by decide +kernel
theorem dX4_grind_50 : decode cX4_grind 50 = .ok (.aload_n 0, 1) := by decide +kernel
theorem dX4_grind_51 : decode cX4_grind 51 = .ok (.iload_n 1, 1) := by decide +kernel
theorem dX4_grind_52 : decode cX4_grind 52 = .ok (.iconst 2, 1) := by decide +kernel
theorem dX4_grind_53 : decode cX4_grind 53 = .ok (.iload 5, 2) := by decide +kernel
theorem dX4_grind_55 : decode cX4_grind 55 = .ok (.invokevirtual 68, 3) := by decide +kernel
theorem dX4_grind_58 : decode cX4_grind 58 = .ok (.aload_n 0, 1) := by decide +kernel
theorem dX4_grind_59 : decode cX4_grind 59 = .ok (.iload_n 1, 1) := by decide +kernel
theorem dX4_grind_60 : decode cX4_grind 60 = .ok (.iconst 4, 1) := by decide +kernel
theorem dX4_grind_61 : decode cX4_grind 61 = .ok (.iload 5, 2) := by decide +kernel
theorem dX4_grind_63 : decode cX4_grind 63 = .ok (.ineg, 1) := by decide +kernel
theorem dX4_grind_64 : decode cX4_grind 64 = .ok (.invokevirtual 68, 3) := by decide +kernel
theorem dX4_grind_67 : decode cX4_grind 67 = .ok (.iload_n 3, 1) := by decide +kernel
theorem dX4_grind_68 : decode cX4_grind 68 = .ok (.iload 5, 2) := by decide +kernel
theorem dX4_grind_70 : decode cX4_grind 70 = .ok (.isub, 1) := by decide +kernel
theorem dX4_grind_71 : decode cX4_grind 71 = .ok (.istore_n 3, 1) := by decide +kernel
theorem dX4_grind_72 : decode cX4_grind 72 = .ok (.iload 5, 2) := by decide +kernel
theorem dX4_grind_74 : decode cX4_grind 74 = .ok (.iload 4, 2) := by decide +kernel
theorem dX4_grind_76 : decode cX4_grind 76 = .ok (.if_icmp .ne 8, 3) := by decide +kernel
theorem dX4_grind_79 : decode cX4_grind 79 = .ok (.aload_n 0, 1) := by decide +kernel
theorem dX4_grind_80 : decode cX4_grind 80 = .ok (.iload_n 1, 1) := by decide +kernel
theorem dX4_grind_81 : decode cX4_grind 81 = .ok (.invokevirtual 75, 3) := by decide +kernel
theorem dX4_grind_84 : decode cX4_grind 84 = .ok (.goto (-82), 3) := by decide +kernel
theorem dX4_grind_87 : decode cX4_grind 87 = .ok (.iload_n 2, 1) := by decide +kernel
theorem dX4_grind_88 : decode cX4_grind 88 = .ok (.iload_n 3, 1) := by decide +kernel
theorem dX4_grind_89 : decode cX4_grind 89 = .ok (.isub, 1) := by decide +kernel
theorem dX4_grind_90 : decode cX4_grind 90 = .ok (.ireturn, 1) := by decide +kernel
theorem dX4_doHour_0 : decode cX4_doHour 0 = .ok (.aload_n 0, 1) := by decide +kernel
theorem dX4_doHour_1 : decode cX4_doHour 1 = .ok (.getfield 7, 3) := by decide +kernel
theorem dX4_doHour_4 : decode cX4_doHour 4 = .ok (.sipush 146, 3) := by decide +kernel
theorem dX4_doHour_7 : decode cX4_doHour 7 = .ok (.iaload, 1) := by decide +kernel
theorem dX4_doHour_8 : decode cX4_doHour 8 = .ok (.istore_n 1, 1) := by decide +kernel
theorem dX4_doHour_9 : decode cX4_doHour 9 = .ok (.iconst 0, 1) := by decide +kernel
theorem dX4_doHour_10 : decode cX4_doHour 10 = .ok (.istore_n 2, 1) := by decide +kernel
theorem dX4_doHour_11 : decode cX4_doHour 11 = .ok (.iconst 0, 1) := by decide +kernel
theorem dX4_doHour_12 : decode cX4_doHour 12 = .ok (.istore_n 3, 1) := by decide +kernel
theorem dX4_doHour_13 : decode cX4_doHour 13 = .ok (.iload_n 3, 1) := by decide +kernel
theorem dX4_doHour_14 : decode cX4_doHour 14 = .ok (.iconst 3, 1) := by decide +kernel
theorem dX4_doHour_15 : decode cX4_doHour 15 = .ok (.if_icmp .ge 23, 3) := by decide +kernel
theorem dX4_doHour_18 : decode cX4_doHour 18 = .ok (.iload_n 2, 1) := by decide +kernel
theorem dX4_doHour_19 : decode cX4_doHour 19 = .ok (.aload_n 0, 1) := by decide +kernel
theorem dX4_doHour_20 : decode cX4_doHour 20 = .ok (.iload_n 3, 1) := by decide +kernel
theorem dX4_doHour_21 : decode cX4_doHour 21 = .ok (.aload_n 0, 1) := by decide +kernel
theorem dX4_doHour_22 : decode cX4_doHour 22 = .ok (.iload_n 3, 1) := by decide +kernel
theorem dX4_doHour_23 : decode cX4_doHour 23 = .ok (.iload_n 1, 1) := by decide +kernel
theorem dX4_doHour_24 : decode cX4_doHour 24 = .ok (.invokevirtual 65, 3) := by decide +kernel
theorem dX4_doHour_27 : decode cX4_doHour 27 = .ok (.invokevirtual 79, 3) := by decide +kernel
theorem dX4_doHour_30 : decode cX4_doHour 30 = .ok (.iadd, 1) := by decide +kernel
theorem dX4_doHour_31 : decode cX4_doHour 31 = .ok (.istore_n 2, 1) := by decide +kernel
theorem dX4_doHour_32 : decode cX4_doHour 32 = .ok (.iinc 3 1, 3) := by decide +kernel
theorem dX4_doHour_35 : decode cX4_doHour 35 = .ok (.goto (-22), 3) := by decide +kernel
theorem dX4_doHour_38 : decode cX4_doHour 38 = .ok (.aload_n 0, 1) := by decide +kernel
theorem dX4_doHour_39 : decode cX4_doHour 39 = .ok (.getfield 7, 3) := by decide +kernel
theorem dX4_doHour_42 : decode cX4_doHour 42 = .ok (.sipush 148, 3) := by decide +kernel
theorem dX4_doHour_45 : decode cX4_doHour 45 = .ok (.dup2, 1) := by decide +kernel
theorem dX4_doHour_46 : decode cX4_doHour 46 = .ok (.iaload, 1) := by decide +kernel
theorem dX4_doHour_47 : decode cX4_doHour 47 = .ok (.aload_n 0, 1) := by decide +kernel
theorem dX4_doHour_48 : decode cX4_doHour 48 = .ok (.iload_n 1, 1) := by decide +kernel
theorem dX4_doHour_49 : decode cX4_doHour 49 = .ok (.invokevirtual 59, 3) := by decide +kernel
theorem dX4_doHour_52 : decode cX4_doHour 52 = .ok (.ifCond .ne 7, 3) := by decide +kernel
theorem dX4_doHour_55 : decode cX4_doHour 55 = .ok (.iconst 1, 1) := by decide +kernel
theorem dX4_doHour_56 : decode cX4_doHour 56 = .ok (.goto 4, 3) := by decide +kernel
theorem dX4_doHour_59 : decode cX4_doHour 59 = .ok (.iconst 0, 1) := by decide +kernel
theorem dX4_doHour_60 : decode cX4_doHour 60 = .ok (.iadd, 1) := by decide +kernel
theorem dX4_doHour_61 : decode cX4_doHour 61 = .ok (.iastore, 1) := by decide +kernel
theorem dX4_doHour_62 : decode cX4_doHour 62 = .ok (.aload_n 0, 1) := by decide +kernel
theorem dX4_doHour_63 : decode cX4_doHour 63 = .ok (.getfield 7, 3) := by decide +kernel
theorem dX4_doHour_66 : decode cX4_doHour 66 = .ok (.sipush 147, 3) := by decide +kernel
theorem dX4_doHour_69 : decode cX4_doHour 69 = .ok (.dup2, 1) := by decide +kernel
theorem dX4_doHour_70 : decode cX4_doHour 70 = .ok (.iaload, 1) := by decide +kernel
theorem dX4_doHour_71 : decode cX4_doHour 71 = .ok (.iconst 1, 1) := by decide +kernel
theorem dX4_doHour_72 : decode cX4_doHour 72 = .ok (.iadd, 1) := by decide +kernel
theorem dX4_doHour_73 : decode cX4_doHour 73 = .ok (.iastore, 1) := by decide +kernel
theorem dX4_doHour_74 : decode cX4_doHour 74 = .ok (.aload_n 0, 1) := by decide +kernel
theorem dX4_doHour_75 : decode cX4_doHour 75 = .ok (.getfield 7, 3) := by decide +kernel
theorem dX4_doHour_78 : decode cX4_doHour 78 = .ok (.sipush 146, 3) := by decide +kernel
theorem dX4_doHour_81 : decode cX4_doHour 81 = .ok (.iload_n 1, 1) := by decide +kernel
theorem dX4_doHour_82 : decode cX4_doHour 82 = .ok (.iconst 1, 1) := by decide +kernel
theorem dX4_doHour_83 : decode cX4_doHour 83 = .ok (.iadd, 1) := by decide +kernel
theorem dX4_doHour_84 : decode cX4_doHour 84 = .ok (.bipush 24, 2) := by decide +kernel
theorem dX4_doHour_86 : decode cX4_doHour 86 = .ok (.irem, 1) := by decide +kernel
theorem dX4_doHour_87 : decode cX4_doHour 87 = .ok (.iastore, 1) := by decide +kernel
theorem dX4_doHour_88 : decode cX4_doHour 88 = .ok (.iload_n 2, 1) := by decide +kernel
theorem dX4_doHour_89 : decode cX4_doHour 89 = .ok (.ireturn, 1) := by decide +kernel
theorem dX4_doHours_0 : decode cX4_doHours 0 = .ok (.iconst 0, 1) := by decide +kernel
theorem dX4_doHours_1 : decode cX4_doHours 1 = .ok (.istore_n 2, 1) := by decide +kernel
theorem dX4_doHours_2 : decode cX4_doHours 2 = .ok (.iconst 0, 1) := by decide +kernel
theorem dX4_doHours_3 : decode cX4_doHours 3 = .ok (.istore_n 3, 1) := by decide +kernel
theorem dX4_doHours_4 : decode cX4_doHours 4 = .ok (.iload_n 3, 1) := by decide +kernel
theorem dX4_doHours_5 : decode cX4_doHours 5 = .ok (.iload_n 1, 1) := by decide +kernel
theorem dX4_doHours_6 : decode cX4_doHours 6 = .ok (.if_icmp .ge 16, 3) := by decide +kernel
theorem dX4_doHours_9 : decode cX4_doHours 9 = .ok (.iload_n 2, 1) := by decide +kernel
theorem dX4_doHours_10 : decode cX4_doHours 10 = .ok (.aload_n 0, 1) := by decide +kernel
theorem dX4_doHours_11 : decode cX4_doHours 11 = .ok (.invokevirtual 82, 3) := by decide +kernel
theorem dX4_doHours_14 : decode cX4_doHours 14 = .ok (.iadd, 1) := by decide +kernel
theorem dX4_doHours_15 : decode cX4_doHours 15 = .ok (.istore_n 2, 1) := by decide +kernel
theorem dX4_doHours_16 : decode cX4_doHours 16 = .ok (.iinc 3 1, 3) := by decide +kernel
theorem dX4_doHours_19 : decode cX4_doHours 19 = .ok (.goto (-15), 3) := by decide +kernel
theorem dX4_doHours_22 : decode cX4_doHours 22 = .ok (.iload_n 2, 1) := by decide +kernel
theorem dX4_doHours_23 : decode cX4_doHours 23 = .ok (.ireturn, 1) := by decide +kernel
theorem dX4_change_0 : decode cX4_change 0 = .ok (.aload_n 0, 1) := by decide +kernel
theorem dX4_change_1 : decode cX4_change 1 = .ok (.invokevirtual 40, 3) := by decide +kernel
theorem dX4_change_4 : decode cX4_change 4 = .ok (.aload_n 0, 1) := by decide +kernel
theorem dX4_change_5 : decode cX4_change 5 = .ok (.getfield 7, 3) := by decide +kernel
theorem dX4_change_8 : decode cX4_change 8 = .ok (.iload_n 1, 1) := by decide +kernel
theorem dX4_change_9 : decode cX4_change 9 = .ok (.iaload, 1) := by decide +kernel
theorem dX4_change_10 : decode cX4_change 10 = .ok (.istore_n 3, 1) := by decide +kernel
theorem dX4_change_11 : decode cX4_change 11 = .ok (.aload_n 0, 1) := by decide +kernel
theorem dX4_change_12 : decode cX4_change 12 = .ok (.getfield 7, 3) := by decide +kernel
theorem dX4_change_15 : decode cX4_change 15 = .ok (.iload_n 1, 1) := by decide +kernel
theorem dX4_change_16 : decode cX4_change 16 = .ok (.iload_n 2, 1) := by decide +kernel
theorem dX4_change_17 : decode cX4_change 17 = .ok (.iastore, 1) := by decide +kernel
theorem dX4_change_18 : decode cX4_change 18 = .ok (.iload_n 3, 1) := by decide +kernel
theorem dX4_change_19 : decode cX4_change 19 = .ok (.ireturn, 1) := by decide +kernel
theorem dX4_wind_0 : decode cX4_wind 0 = .ok (.aload_n 0, 1) := by decide +kernel
theorem dX4_wind_1 : decode cX4_wind 1 = .ok (.iload_n 1, 1) := by decide +kernel
theorem dX4_wind_2 : decode cX4_wind 2 = .ok (.iconst 0, 1) := by decide +kernel
theorem dX4_wind_3 : decode cX4_wind 3 = .ok (.bipush 23, 2) := by decide +kernel
theorem dX4_wind_5 : decode cX4_wind 5 = .ok (.invokestatic 36, 3) := by decide +kernel
theorem dX4_wind_8 : decode cX4_wind 8 = .ok (.ifCond .ne 7, 3) := by decide +kernel
theorem dX4_wind_11 : decode cX4_wind 11 = .ok (.iconst 1, 1) := by decide +kernel
theorem dX4_wind_12 : decode cX4_wind 12 = .ok (.goto 28, 3) := by decide +kernel
theorem dX4_wind_15 : decode cX4_wind 15 = .ok (.iload_n 2, 1) := by decide +kernel
theorem dX4_wind_16 : decode cX4_wind 16 = .ok (.iconst 0, 1) := by decide +kernel
theorem dX4_wind_17 : decode cX4_wind 17 = .ok (.bipush 7, 2) := by decide +kernel
theorem dX4_wind_19 : decode cX4_wind 19 = .ok (.invokestatic 36, 3) := by decide +kernel
theorem dX4_wind_22 : decode cX4_wind 22 = .ok (.ifCond .eq 17, 3) := by decide +kernel
theorem dX4_wind_25 : decode cX4_wind 25 = .ok (.iload_n 3, 1) := by decide +kernel
theorem dX4_wind_26 : decode cX4_wind 26 = .ok (.iconst 0, 1) := by decide +kernel
theorem dX4_wind_27 : decode cX4_wind 27 = .ok (.bipush 9, 2) := by decide +kernel
theorem dX4_wind_29 : decode cX4_wind 29 = .ok (.invokestatic 36, 3) := by decide +kernel
theorem dX4_wind_32 : decode cX4_wind 32 = .ok (.ifCond .eq 7, 3) := by decide +kernel
theorem dX4_wind_35 : decode cX4_wind 35 = .ok (.iconst 0, 1) := by decide +kernel
theorem dX4_wind_36 : decode cX4_wind 36 = .ok (.goto 4, 3) := by decide +kernel
theorem dX4_wind_39 : decode cX4_wind 39 = .ok (.iconst 2, 1) := by decide +kernel
theorem dX4_wind_40 : decode cX4_wind 40 = .ok (.putfield 29, 3) := by decide +kernel
theorem dX4_wind_43 : decode cX4_wind 43 = .ok (.aload_n 0, 1) := by decide +kernel
theorem dX4_wind_44 : decode cX4_wind 44 = .ok (.getfield 29, 3) := by decide +kernel
theorem dX4_wind_47 : decode cX4_wind 47 = .ok (.ifCond .le 5, 3) := by decide +kernel
theorem dX4_wind_50 : decode cX4_wind 50 = .ok (.iconst 0, 1) := by decide +kernel
theorem dX4_wind_51 : decode cX4_wind 51 = .ok (.ireturn, 1) := by decide +kernel
theorem dX4_wind_52 : decode cX4_wind 52 = .ok (.aload_n 0, 1) := by decide +kernel
theorem dX4_wind_53 : decode cX4_wind 53 = .ok (.invokevirtual 40, 3) := by decide +kernel
theorem dX4_wind_56 : decode cX4_wind 56 = .ok (.bipush 10, 2) := by decide +kernel
theorem dX4_wind_58 : decode cX4_wind 58 = .ok (.aload_n 0, 1) := by decide +kernel
theorem dX4_wind_59 : decode cX4_wind 59 = .ok (.getfield 7, 3) := by decide +kernel
theorem dX4_wind_62 : decode cX4_wind 62 = .ok (.iconst 2, 1) := by decide +kernel
theorem dX4_wind_63 : decode cX4_wind 63 = .ok (.iload_n 1, 1) := by decide +kernel
theorem dX4_wind_64 : decode cX4_wind 64 = .ok (.imul, 1) := by decide +kernel
theorem dX4_wind_65 : decode cX4_wind 65 = .ok (.iaload, 1) := by decide +kernel
theorem dX4_wind_66 : decode cX4_wind 66 = .ok (.imul, 1) := by decide +kernel
theorem dX4_wind_67 : decode cX4_wind 67 = .ok (.aload_n 0, 1) := by decide +kernel
theorem dX4_wind_68 : decode cX4_wind 68 = .ok (.getfield 7, 3) := by decide +kernel
theorem dX4_wind_71 : decode cX4_wind 71 = .ok (.iconst 2, 1) := by decide +kernel
theorem dX4_wind_72 : decode cX4_wind 72 = .ok (.iload_n 1, 1) := by decide +kernel
theorem dX4_wind_73 : decode cX4_wind 73 = .ok (.imul, 1) := by decide +kernel
theorem dX4_wind_74 : decode cX4_wind 74 = .ok (.iconst 1, 1) := by decide +kernel
theorem dX4_wind_75 : decode cX4_wind 75 = .ok (.iadd, 1) := by decide +kernel
theorem dX4_wind_76 : decode cX4_wind 76 = .ok (.iaload, 1) := by decide +kernel
theorem dX4_wind_77 : decode cX4_wind 77 = .ok (.iadd, 1) := by decide +kernel
theorem dX4_wind_78 : decode cX4_wind 78 = .ok (.istore 4, 2) := by decide +kernel
theorem dX4_wind_80 : decode cX4_wind 80 = .ok (.aload_n 0, 1) := by decide +kernel
theorem dX4_wind_81 : decode cX4_wind 81 = .ok (.getfield 7, 3) := by decide +kernel
theorem dX4_wind_84 : decode cX4_wind 84 = .ok (.iconst 2, 1) := by decide +kernel
theorem dX4_wind_85 : decode cX4_wind 85 = .ok (.iload_n 1, 1) := by decide +kernel
theorem dX4_wind_86 : decode cX4_wind 86 = .ok (.imul, 1) := by decide +kernel
theorem dX4_wind_87 : decode cX4_wind 87 = .ok (.iload_n 2, 1) := by decide +kernel
theorem dX4_wind_88 : decode cX4_wind 88 = .ok (.iastore, 1) := by decide +kernel
theorem dX4_wind_89 : decode cX4_wind 89 = .ok (.aload_n 0, 1) := by decide +kernel
theorem dX4_wind_90 : decode cX4_wind 90 = .ok (.getfield 7, 3) := by decide +kernel
theorem dX4_wind_93 : decode cX4_wind 93 = .ok (.iconst 2, 1) := by decide +kernel
theorem dX4_wind_94 : decode cX4_wind 94 = .ok (.iload_n 1, 1) := by decide +kernel
theorem dX4_wind_95 : decode cX4_wind 95 = .ok (.imul, 1) := by decide +kernel
theorem dX4_wind_96 : decode cX4_wind 96 = .ok (.iconst 1, 1) := by decide +kernel
theorem dX4_wind_97 : decode cX4_wind 97 = .ok (.iadd, 1) := by decide +kernel
theorem dX4_wind_98 : decode cX4_wind 98 = .ok (.iload_n 3, 1) := by decide +kernel
theorem dX4_wind_99 : decode cX4_wind 99 = .ok (.iastore, 1) := by decide +kernel
theorem dX4_wind_100 : decode cX4_wind 100 = .ok (.iload 4, 2) := by decide +kernel
theorem dX4_wind_102 : decode cX4_wind 102 = .ok (.ireturn, 1) := by decide +kernel
theorem dX4_most_0 : decode cX4_most 0 = .ok (.iload_n 0, 1) := by decide +kernel
theorem dX4_most_1 : decode cX4_most 1 = .ok (.ifCond .ne 8, 3) := by decide +kernel
theorem dX4_most_4 : decode cX4_most 4 = .ok (.bipush 7, 2) := by decide +kernel
theorem dX4_most_6 : decode cX4_most 6 = .ok (.goto 23, 3) := by decide +kernel
theorem dX4_most_9 : decode cX4_most 9 = .ok (.iload_n 0, 1) := by decide +kernel
theorem dX4_most_10 : decode cX4_most 10 = .ok (.iconst 1, 1) := by decide +kernel
theorem dX4_most_11 : decode cX4_most 11 = .ok (.if_icmp .ne 7, 3) := by decide +kernel
theorem dX4_most_14 : decode cX4_most 14 = .ok (.iconst 4, 1) := by decide +kernel
theorem dX4_most_15 : decode cX4_most 15 = .ok (.goto 14, 3) := by decide +kernel
theorem dX4_most_18 : decode cX4_most 18 = .ok (.iload_n 0, 1) := by decide +kernel
theorem dX4_most_19 : decode cX4_most 19 = .ok (.iconst 2, 1) := by decide +kernel
theorem dX4_most_20 : decode cX4_most 20 = .ok (.if_icmp .ne 8, 3) := by decide +kernel
theorem dX4_most_23 : decode cX4_most 23 = .ok (.bipush 9, 2) := by decide +kernel
theorem dX4_most_25 : decode cX4_most 25 = .ok (.goto 4, 3) := by decide +kernel
theorem dX4_most_28 : decode cX4_most 28 = .ok (.iconst 1, 1) := by decide +kernel
theorem dX4_most_29 : decode cX4_most 29 = .ok (.ireturn, 1) := by decide +kernel
theorem dX4_vane_0 : decode cX4_vane 0 = .ok (.aload_n 0, 1) := by decide +kernel
theorem dX4_vane_1 : decode cX4_vane 1 = .ok (.iload_n 1, 1) := by decide +kernel
theorem dX4_vane_2 : decode cX4_vane 2 = .ok (.iconst 0, 1) := by decide +kernel
theorem dX4_vane_3 : decode cX4_vane 3 = .ok (.iconst 5, 1) := by decide +kernel
theorem dX4_vane_4 : decode cX4_vane 4 = .ok (.invokestatic 36, 3) := by decide +kernel
theorem dX4_vane_7 : decode cX4_vane 7 = .ok (.ifCond .ne 7, 3) := by decide +kernel
theorem dX4_vane_10 : decode cX4_vane 10 = .ok (.iconst 1, 1) := by decide +kernel
theorem dX4_vane_11 : decode cX4_vane 11 = .ok (.goto 29, 3) := by decide +kernel
theorem dX4_vane_14 : decode cX4_vane 14 = .ok (.iload_n 2, 1) := by decide +kernel
theorem dX4_vane_15 : decode cX4_vane 15 = .ok (.iconst 0, 1) := by decide +kernel
theorem dX4_vane_16 : decode cX4_vane 16 = .ok (.iconst 3, 1) := by decide +kernel
theorem dX4_vane_17 : decode cX4_vane 17 = .ok (.invokestatic 36, 3) := by decide +kernel
theorem dX4_vane_20 : decode cX4_vane 20 = .ok (.ifCond .eq 19, 3) := by decide +kernel
theorem dX4_vane_23 : decode cX4_vane 23 = .ok (.iload_n 3, 1) := by decide +kernel
theorem dX4_vane_24 : decode cX4_vane 24 = .ok (.iconst 0, 1) := by decide +kernel
theorem dX4_vane_25 : decode cX4_vane 25 = .ok (.iload_n 2, 1) := by decide +kernel
theorem dX4_vane_26 : decode cX4_vane 26 = .ok (.invokestatic 85, 3) := by decide +kernel
theorem dX4_vane_29 : decode cX4_vane 29 = .ok (.invokestatic 36, 3) := by decide +kernel
theorem dX4_vane_32 : decode cX4_vane 32 = .ok (.ifCond .eq 7, 3) := by decide +kernel
theorem dX4_vane_35 : decode cX4_vane 35 = .ok (.iconst 0, 1) := by decide +kernel
theorem dX4_vane_36 : decode cX4_vane 36 = .ok (.goto 4, 3) := by decide +kernel
theorem dX4_vane_39 : decode cX4_vane 39 = .ok (.iconst 2, 1) := by decide +kernel
theorem dX4_vane_40 : decode cX4_vane 40 = .ok (.putfield 29, 3) := by decide +kernel
theorem dX4_vane_43 : decode cX4_vane 43 = .ok (.aload_n 0, 1) := by decide +kernel
theorem dX4_vane_44 : decode cX4_vane 44 = .ok (.getfield 29, 3) := by decide +kernel
theorem dX4_vane_47 : decode cX4_vane 47 = .ok (.ifCond .le 7, 3) := by decide +kernel
theorem dX4_vane_50 : decode cX4_vane 50 = .ok (.iconst 0, 1) := by decide +kernel
theorem dX4_vane_51 : decode cX4_vane 51 = .ok (.goto 16, 3) := by decide +kernel
theorem dX4_vane_54 : decode cX4_vane 54 = .ok (.aload_n 0, 1) := by decide +kernel
theorem dX4_vane_55 : decode cX4_vane 55 = .ok (.bipush 48, 2) := by decide +kernel
theorem dX4_vane_57 : decode cX4_vane 57 = .ok (.iconst 4, 1) := by decide +kernel
theorem dX4_vane_58 : decode cX4_vane 58 = .ok (.iload_n 1, 1) := by decide +kernel
theorem dX4_vane_59 : decode cX4_vane 59 = .ok (.imul, 1) := by decide +kernel
theorem dX4_vane_60 : decode cX4_vane 60 = .ok (.iadd, 1) := by decide +kernel
theorem dX4_vane_61 : decode cX4_vane 61 = .ok (.iload_n 2, 1) := by decide +kernel
theorem dX4_vane_62 : decode cX4_vane 62 = .ok (.iadd, 1) := by decide +kernel
theorem dX4_vane_63 : decode cX4_vane 63 = .ok (.iload_n 3, 1) := by decide +kernel
theorem dX4_vane_64 : decode cX4_vane 64 = .ok (.invokevirtual 88, 3) := by decide +kernel
theorem dX4_vane_67 : decode cX4_vane 67 = .ok (.ireturn, 1) := by decide +kernel
theorem dX4_mill_0 : decode cX4_mill 0 = .ok (.aload_n 0, 1) := by decide +kernel
theorem dX4_mill_1 : decode cX4_mill 1 = .ok (.iload_n 1, 1) := by decide +kernel
theorem dX4_mill_2 : decode cX4_mill 2 = .ok (.iconst 0, 1) := by decide +kernel
theorem dX4_mill_3 : decode cX4_mill 3 = .ok (.iconst 2, 1) := by decide +kernel
theorem dX4_mill_4 : decode cX4_mill 4 = .ok (.invokestatic 36, 3) := by decide +kernel
theorem dX4_mill_7 : decode cX4_mill 7 = .ok (.ifCond .ne 7, 3) := by decide +kernel
theorem dX4_mill_10 : decode cX4_mill 10 = .ok (.iconst 1, 1) := by decide +kernel
theorem dX4_mill_11 : decode cX4_mill 11 = .ok (.goto 18, 3) := by decide +kernel
theorem dX4_mill_14 : decode cX4_mill 14 = .ok (.iload_n 2, 1) := by decide +kernel
theorem dX4_mill_15 : decode cX4_mill 15 = .ok (.iconst 0, 1) := by decide +kernel
theorem dX4_mill_16 : decode cX4_mill 16 = .ok (.bipush 9, 2) := by decide +kernel
theorem dX4_mill_18 : decode cX4_mill 18 = .ok (.invokestatic 36, 3) := by decide +kernel
theorem dX4_mill_21 : decode cX4_mill 21 = .ok (.ifCond .eq 7, 3) := by decide +kernel
theorem dX4_mill_24 : decode cX4_mill 24 = .ok (.iconst 0, 1) := by decide +kernel
theorem dX4_mill_25 : decode cX4_mill 25 = .ok (.goto 4, 3) := by decide +kernel
theorem dX4_mill_28 : decode cX4_mill 28 = .ok (.iconst 2, 1) := by decide +kernel
theorem dX4_mill_29 : decode cX4_mill 29 = .ok (.putfield 29, 3) := by decide +kernel
theorem dX4_mill_32 : decode cX4_mill 32 = .ok (.aload_n 0, 1) := by decide +kernel
theorem dX4_mill_33 : decode cX4_mill 33 = .ok (.getfield 29, 3) := by decide +kernel
theorem dX4_mill_36 : decode cX4_mill 36 = .ok (.ifCond .le 7, 3) := by decide +kernel
theorem dX4_mill_39 : decode cX4_mill 39 = .ok (.iconst 0, 1) := by decide +kernel
theorem dX4_mill_40 : decode cX4_mill 40 = .ok (.goto 17, 3) := by decide +kernel
theorem dX4_mill_43 : decode cX4_mill 43 = .ok (.aload_n 0, 1) := by decide +kernel
theorem dX4_mill_44 : decode cX4_mill 44 = .ok (.bipush 74, 2) := by decide +kernel
theorem dX4_mill_46 : decode cX4_mill 46 = .ok (.bipush 19, 2) := by decide +kernel
theorem dX4_mill_48 : decode cX4_mill 48 = .ok (.iload_n 1, 1) := by decide +kernel
theorem dX4_mill_49 : decode cX4_mill 49 = .ok (.imul, 1) := by decide +kernel
theorem dX4_mill_50 : decode cX4_mill 50 = .ok (.iadd, 1) := by decide +kernel
theorem dX4_mill_51 : decode cX4_mill 51 = .ok (.iconst 0, 1) := by decide +kernel
theorem dX4_mill_52 : decode cX4_mill 52 = .ok (.iadd, 1) := by decide +kernel
theorem dX4_mill_53 : decode cX4_mill 53 = .ok (.iload_n 2, 1) := by decide +kernel
theorem dX4_mill_54 : decode cX4_mill 54 = .ok (.invokevirtual 88, 3) := by decide +kernel
theorem dX4_mill_57 : decode cX4_mill 57 = .ok (.ireturn, 1) := by decide +kernel
theorem dX4_set_0 : decode cX4_set 0 = .ok (.aload_n 0, 1) := by decide +kernel
theorem dX4_set_1 : decode cX4_set 1 = .ok (.iload_n 1, 1) := by decide +kernel
theorem dX4_set_2 : decode cX4_set 2 = .ok (.iconst 0, 1) := by decide +kernel
theorem dX4_set_3 : decode cX4_set 3 = .ok (.iconst 1, 1) := by decide +kernel
theorem dX4_set_4 : decode cX4_set 4 = .ok (.invokestatic 36, 3) := by decide +kernel
theorem dX4_set_7 : decode cX4_set 7 = .ok (.ifCond .ne 7, 3) := by decide +kernel
theorem dX4_set_10 : decode cX4_set 10 = .ok (.iconst 1, 1) := by decide +kernel
theorem dX4_set_11 : decode cX4_set 11 = .ok (.goto 28, 3) := by decide +kernel
theorem dX4_set_14 : decode cX4_set 14 = .ok (.iload_n 2, 1) := by decide +kernel
theorem dX4_set_15 : decode cX4_set 15 = .ok (.iconst 1, 1) := by decide +kernel
theorem dX4_set_16 : decode cX4_set 16 = .ok (.iload_n 1, 1) := by decide +kernel
theorem dX4_set_17 : decode cX4_set 17 = .ok (.isub, 1) := by decide +kernel
theorem dX4_set_18 : decode cX4_set 18 = .ok (.iload_n 1, 1) := by decide +kernel
theorem dX4_set_19 : decode cX4_set 19 = .ok (.ifCond .ne 8, 3) := by decide +kernel
theorem dX4_set_22 : decode cX4_set 22 = .ok (.bipush 6, 2) := by decide +kernel
theorem dX4_set_24 : decode cX4_set 24 = .ok (.goto 4, 3) := by decide +kernel
theorem dX4_set_27 : decode cX4_set 27 = .ok (.iconst 1, 1) := by decide +kernel
theorem dX4_set_28 : decode cX4_set 28 = .ok (.invokestatic 36, 3) := by decide +kernel
theorem dX4_set_31 : decode cX4_set 31 = .ok (.ifCond .eq 7, 3) := by decide +kernel
theorem dX4_set_34 : decode cX4_set 34 = .ok (.iconst 0, 1) := by decide +kernel
theorem dX4_set_35 : decode cX4_set 35 = .ok (.goto 4, 3) := by decide +kernel
theorem dX4_set_38 : decode cX4_set 38 = .ok (.iconst 2, 1) := by decide +kernel
theorem dX4_set_39 : decode cX4_set 39 = .ok (.putfield 29, 3) := by decide +kernel
theorem dX4_set_42 : decode cX4_set 42 = .ok (.aload_n 0, 1) := by decide +kernel
theorem dX4_set_43 : decode cX4_set 43 = .ok (.getfield 29, 3) := by decide +kernel
theorem dX4_set_46 : decode cX4_set 46 = .ok (.ifCond .le 7, 3) := by decide +kernel
theorem dX4_set_49 : decode cX4_set 49 = .ok (.iconst 0, 1) := by decide +kernel
theorem dX4_set_50 : decode cX4_set 50 = .ok (.goto 12, 3) := by decide +kernel
theorem dX4_set_53 : decode cX4_set 53 = .ok (.aload_n 0, 1) := by decide +kernel
theorem dX4_set_54 : decode cX4_set 54 = .ok (.bipush 72, 2) := by decide +kernel
theorem dX4_set_56 : decode cX4_set 56 = .ok (.iload_n 1, 1) := by decide +kernel
theorem dX4_set_57 : decode cX4_set 57 = .ok (.iadd, 1) := by decide +kernel
theorem dX4_set_58 : decode cX4_set 58 = .ok (.iload_n 2, 1) := by decide +kernel
theorem dX4_set_59 : decode cX4_set 59 = .ok (.invokevirtual 88, 3) := by decide +kernel
theorem dX4_set_62 : decode cX4_set 62 = .ok (.ireturn, 1) := by decide +kernel
theorem dX4_bring_0 : decode cX4_bring 0 = .ok (.aload_n 0, 1) := by decide +kernel
theorem dX4_bring_1 : decode cX4_bring 1 = .ok (.iload_n 1, 1) := by decide +kernel
theorem dX4_bring_2 : decode cX4_bring 2 = .ok (.iconst 0, 1) := by decide +kernel
theorem dX4_bring_3 : decode cX4_bring 3 = .ok (.iconst 4, 1) := by decide +kernel
theorem dX4_bring_4 : decode cX4_bring 4 = .ok (.invokestatic 36, 3) := by decide +kernel
theorem dX4_bring_7 : decode cX4_bring 7 = .ok (.ifCond .eq 12, 3) := by decide +kernel
theorem dX4_bring_10 : decode cX4_bring 10 = .ok (.iload_n 2, 1) := by decide +kernel
theorem dX4_bring_11 : decode cX4_bring 11 = .ok (.iconst 0, 1) := by decide +kernel
theorem dX4_bring_12 : decode cX4_bring 12 = .ok (.iconst 2, 1) := by decide +kernel
theorem dX4_bring_13 : decode cX4_bring 13 = .ok (.invokestatic 36, 3) := by decide +kernel
theorem dX4_bring_16 : decode cX4_bring 16 = .ok (.ifCond .ne 7, 3) := by decide +kernel
theorem dX4_bring_19 : decode cX4_bring 19 = .ok (.iconst 1, 1) := by decide +kernel
theorem dX4_bring_20 : decode cX4_bring 20 = .ok (.goto 18, 3) := by decide +kernel
theorem dX4_bring_23 : decode cX4_bring 23 = .ok (.iload_n 3, 1) := by decide +kernel
theorem dX4_bring_24 : decode cX4_bring 24 = .ok (.iconst 1, 1) := by decide +kernel
theorem dX4_bring_25 : decode cX4_bring 25 = .ok (.bipush 99, 2) := by decide +kernel
theorem dX4_bring_27 : decode cX4_bring 27 = .ok (.invokestatic 36, 3) := by decide +kernel
theorem dX4_bring_30 : decode cX4_bring 30 = .ok (.ifCond .eq 7, 3) := by decide +kernel
theorem dX4_bring_33 : decode cX4_bring 33 = .ok (.iconst 0, 1) := by decide +kernel
theorem dX4_bring_34 : decode cX4_bring 34 = .ok (.goto 4, 3) := by decide +kernel
theorem dX4_bring_37 : decode cX4_bring 37 = .ok (.iconst 2, 1) := by decide +kernel
theorem dX4_bring_38 : decode cX4_bring 38 = .ok (.putfield 29, 3) := by decide +kernel
theorem dX4_bring_41 : decode cX4_bring 41 = .ok (.aload_n 0, 1) := by decide +kernel
theorem dX4_bring_42 : decode cX4_bring 42 = .ok (.getfield 29, 3) := by decide +kernel
theorem dX4_bring_45 : decode cX4_bring 45 = .ok (.ifCond .le 5, 3) := by decide +kernel
theorem dX4_bring_48 : decode cX4_bring 48 = .ok (.iconst 0, 1) := by decide +kernel
theorem dX4_bring_49 : decode cX4_bring 49 = .ok (.ireturn, 1) := by decide +kernel
theorem dX4_bring_50 : decode cX4_bring 50 = .ok (.aload_n 0, 1) := by decide +kernel
theorem dX4_bring_51 : decode cX4_bring 51 = .ok (.invokevirtual 40, 3) := by decide +kernel
theorem dX4_bring_54 : decode cX4_bring 54 = .ok (.aload_n 0, 1) := by decide +kernel
theorem dX4_bring_55 : decode cX4_bring 55 = .ok (.iload_n 2, 1) := by decide +kernel
theorem dX4_bring_56 : decode cX4_bring 56 = .ok (.iconst 1, 1) := by decide +kernel
theorem dX4_bring_57 : decode cX4_bring 57 = .ok (.invokevirtual 62, 3) := by decide +kernel
theorem dX4_bring_60 : decode cX4_bring 60 = .ok (.bipush 8, 2) := by decide +kernel
theorem dX4_bring_62 : decode cX4_bring 62 = .ok (.if_icmp .ne 17, 3) := by decide +kernel
theorem dX4_bring_65 : decode cX4_bring 65 = .ok (.aload_n 0, 1) := by decide +kernel
theorem dX4_bring_66 : decode cX4_bring 66 = .ok (.getfield 7, 3) := by decide +kernel
theorem dX4_bring_69 : decode cX4_bring 69 = .ok (.sipush 149, 3) := by decide +kernel
theorem dX4_bring_72 : decode cX4_bring 72 = .ok (.dup2, 1) := by decide +kernel
theorem dX4_bring_73 : decode cX4_bring 73 = .ok (.iaload, 1) := by decide +kernel
theorem dX4_bring_74 : decode cX4_bring 74 = .ok (.iconst 1, 1) := by decide +kernel
theorem dX4_bring_75 : decode cX4_bring 75 = .ok (.iadd, 1) := by decide +kernel
theorem dX4_bring_76 : decode cX4_bring 76 = .ok (.iastore, 1) := by decide +kernel
theorem dX4_bring_77 : decode cX4_bring 77 = .ok (.iconst (-1), 1) := by decide +kernel
theorem dX4_bring_78 : decode cX4_bring 78 = .ok (.ireturn, 1) := by decide +kernel
theorem dX4_bring_79 : decode cX4_bring 79 = .ok (.bipush 74, 2) := by decide +kernel
theorem dX4_bring_81 : decode cX4_bring 81 = .ok (.bipush 19, 2) := by decide +kernel
theorem dX4_bring_83 : decode cX4_bring 83 = .ok (.iload_n 2, 1) := by decide +kernel
theorem dX4_bring_84 : decode cX4_bring 84 = .ok (.imul, 1) := by decide +kernel
theorem dX4_bring_85 : decode cX4_bring 85 = .ok (.iadd, 1) := by decide +kernel
theorem dX4_bring_86 : decode cX4_bring 86 = .ok (.iconst 3, 1) := by decide +kernel
theorem dX4_bring_87 : decode cX4_bring 87 = .ok (.iadd, 1) := by decide +kernel
theorem dX4_bring_88 : decode cX4_bring 88 = .ok (.iconst 2, 1) := by decide +kernel
theorem dX4_bring_89 : decode cX4_bring 89 = .ok (.aload_n 0, 1) := by decide +kernel
theorem dX4_bring_90 : decode cX4_bring 90 = .ok (.iload_n 2, 1) := by decide +kernel
theorem dX4_bring_91 : decode cX4_bring 91 = .ok (.iconst 1, 1) := by decide +kernel
theorem dX4_bring_92 : decode cX4_bring 92 = .ok (.invokevirtual 62, 3) := by decide +kernel
theorem dX4_bring_95 : decode cX4_bring 95 = .ok (.imul, 1) := by decide +kernel
theorem dX4_bring_96 : decode cX4_bring 96 = .ok (.iadd, 1) := by decide +kernel
theorem dX4_bring_97 : decode cX4_bring 97 = .ok (.istore 4, 2) := by decide +kernel
theorem dX4_bring_99 : decode cX4_bring 99 = .ok (.aload_n 0, 1) := by decide +kernel
theorem dX4_bring_100 : decode cX4_bring 100 = .ok (.getfield 7, 3) := by decide +kernel
theorem dX4_bring_103 : decode cX4_bring 103 = .ok (.iload 4, 2) := by decide +kernel
theorem dX4_bring_105 : decode cX4_bring 105 = .ok (.iload_n 1, 1) := by decide +kernel
theorem dX4_bring_106 : decode cX4_bring 106 = .ok (.iastore, 1) := by decide +kernel
theorem dX4_bring_107 : decode cX4_bring 107 = .ok (.aload_n 0, 1) := by decide +kernel
theorem dX4_bring_108 : decode cX4_bring 108 = .ok (.getfield 7, 3) := by decide +kernel
theorem dX4_bring_111 : decode cX4_bring 111 = .ok (.iload 4, 2) := by decide +kernel
theorem dX4_bring_113 : decode cX4_bring 113 = .ok (.iconst 1, 1) := by decide +kernel
theorem dX4_bring_114 : decode cX4_bring 114 = .ok (.iadd, 1) := by decide +kernel
theorem dX4_bring_115 : decode cX4_bring 115 = .ok (.iload_n 3, 1) := by decide +kernel
theorem dX4_bring_116 : decode cX4_bring 116 = .ok (.iastore, 1) := by decide +kernel
theorem dX4_bring_117 : decode cX4_bring 117 = .ok (.aload_n 0, 1) := by decide +kernel
theorem dX4_bring_118 : decode cX4_bring 118 = .ok (.iload_n 2, 1) := by decide +kernel
theorem dX4_bring_119 : decode cX4_bring 119 = .ok (.iconst 1, 1) := by decide +kernel
theorem dX4_bring_120 : decode cX4_bring 120 = .ok (.iconst 1, 1) := by decide +kernel
theorem dX4_bring_121 : decode cX4_bring 121 = .ok (.invokevirtual 68, 3) := by decide +kernel
theorem dX4_bring_124 : decode cX4_bring 124 = .ok (.aload_n 0, 1) := by decide +kernel
theorem dX4_bring_125 : decode cX4_bring 125 = .ok (.iload_n 1, 1) := by decide +kernel
theorem dX4_bring_126 : decode cX4_bring 126 = .ok (.iconst 1, 1) := by decide +kernel
theorem dX4_bring_127 : decode cX4_bring 127 = .ok (.iload_n 3, 1) := by decide +kernel
theorem dX4_bring_128 : decode cX4_bring 128 = .ok (.invokevirtual 72, 3) := by decide +kernel
theorem dX4_bring_131 : decode cX4_bring 131 = .ok (.aload_n 0, 1) := by decide +kernel
theorem dX4_bring_132 : decode cX4_bring 132 = .ok (.iload_n 2, 1) := by decide +kernel
theorem dX4_bring_133 : decode cX4_bring 133 = .ok (.invokevirtual 91, 3) := by decide +kernel
theorem dX4_bring_136 : decode cX4_bring 136 = .ok (.ireturn, 1) := by decide +kernel
theorem dX4_takeBack_0 : decode cX4_takeBack 0 = .ok (.aload_n 0, 1) := by decide +kernel
theorem dX4_takeBack_1 : decode cX4_takeBack 1 = .ok (.iload_n 1, 1) := by decide +kernel
theorem dX4_takeBack_2 : decode cX4_takeBack 2 = .ok (.iconst 0, 1) := by decide +kernel
theorem dX4_takeBack_3 : decode cX4_takeBack 3 = .ok (.iconst 2, 1) := by decide +kernel
theorem dX4_takeBack_4 : decode cX4_takeBack 4 = .ok (.invokestatic 36, 3) := by decide +kernel
theorem dX4_takeBack_7 : decode cX4_takeBack 7 = .ok (.ifCond .eq 7, 3) := by decide +kernel
theorem dX4_takeBack_10 : decode cX4_takeBack 10 = .ok (.iconst 0, 1) := by decide +kernel
theorem dX4_takeBack_11 : decode cX4_takeBack 11 = .ok (.goto 4, 3) := by decide +kernel
theorem dX4_takeBack_14 : decode cX4_takeBack 14 = .ok (.iconst 1, 1) := by decide +kernel
theorem dX4_takeBack_15 : decode cX4_takeBack 15 = .ok (.putfield 29, 3) := by decide +kernel
theorem dX4_takeBack_18 : decode cX4_takeBack 18 = .ok (.aload_n 0, 1) := by decide +kernel
theorem dX4_takeBack_19 : decode cX4_takeBack 19 = .ok (.getfield 29, 3) := by decide +kernel
theorem dX4_takeBack_22 : decode cX4_takeBack 22 = .ok (.ifCond .le 5, 3) := by decide +kernel
theorem dX4_takeBack_25 : decode cX4_takeBack 25 = .ok (.iconst 0, 1) := by decide +kernel
theorem dX4_takeBack_26 : decode cX4_takeBack 26 = .ok (.ireturn, 1) := by decide +kernel
theorem dX4_takeBack_27 : decode cX4_takeBack 27 = .ok (.aload_n 0, 1) := by decide +kernel
theorem dX4_takeBack_28 : decode cX4_takeBack 28 = .ok (.invokevirtual 40, 3) := by decide +kernel
theorem dX4_takeBack_31 : decode cX4_takeBack 31 = .ok (.aload_n 0, 1) := by decide +kernel
theorem dX4_takeBack_32 : decode cX4_takeBack 32 = .ok (.iload_n 1, 1) := by decide +kernel
theorem dX4_takeBack_33 : decode cX4_takeBack 33 = .ok (.iconst 1, 1) := by decide +kernel
theorem dX4_takeBack_34 : decode cX4_takeBack 34 = .ok (.invokevirtual 62, 3) := by decide +kernel
theorem dX4_takeBack_37 : decode cX4_takeBack 37 = .ok (.ifCond .ne 17, 3) := by decide +kernel
theorem dX4_takeBack_40 : decode cX4_takeBack 40 = .ok (.aload_n 0, 1) := by decide +kernel
theorem dX4_takeBack_41 : decode cX4_takeBack 41 = .ok (.getfield 7, 3) := by decide +kernel
theorem dX4_takeBack_44 : decode cX4_takeBack 44 = .ok (.sipush 149, 3) := by decide +kernel
theorem dX4_takeBack_47 : decode cX4_takeBack 47 = .ok (.dup2, 1) := by decide +kernel
theorem dX4_takeBack_48 : decode cX4_takeBack 48 = .ok (.iaload, 1) := by decide +kernel
theorem dX4_takeBack_49 : decode cX4_takeBack 49 = .ok (.iconst 1, 1) := by decide +kernel
theorem dX4_takeBack_50 : decode cX4_takeBack 50 = .ok (.iadd, 1) := by decide +kernel
theorem dX4_takeBack_51 : decode cX4_takeBack 51 = .ok (.iastore, 1) := by decide +kernel
theorem dX4_takeBack_52 : decode cX4_takeBack 52 = .ok (.iconst (-1), 1) := by decide +kernel
theorem dX4_takeBack_53 : decode cX4_takeBack 53 = .ok (.ireturn, 1) := by decide +kernel
theorem dX4_takeBack_54 : decode cX4_takeBack 54 = .ok (.aload_n 0, 1) := by decide +kernel
theorem dX4_takeBack_55 : decode cX4_takeBack 55 = .ok (.iload_n 1, 1) := by decide +kernel
theorem dX4_takeBack_56 : decode cX4_takeBack 56 = .ok (.iconst 1, 1) := by decide +kernel
theorem dX4_takeBack_57 : decode cX4_takeBack 57 = .ok (.iconst (-1), 1) := by decide +kernel
theorem dX4_takeBack_58 : decode cX4_takeBack 58 = .ok (.invokevirtual 68, 3) := by decide +kernel
theorem dX4_takeBack_61 : decode cX4_takeBack 61 = .ok (.iconst 3, 1) := by decide +kernel
theorem dX4_takeBack_62 : decode cX4_takeBack 62 = .ok (.iconst 2, 1) := by decide +kernel
theorem dX4_takeBack_63 : decode cX4_takeBack 63 = .ok (.aload_n 0, 1) := by decide +kernel
theorem dX4_takeBack_64 : decode cX4_takeBack 64 = .ok (.iload_n 1, 1) := by decide +kernel
theorem dX4_takeBack_65 : decode cX4_takeBack 65 = .ok (.iconst 1, 1) := by decide +kernel
theorem dX4_takeBack_66 : decode cX4_takeBack 66 = .ok (.invokevirtual 62, 3) := by decide +kernel
theorem dX4_takeBack_69 : decode cX4_takeBack 69 = .ok (.imul, 1) := by decide +kernel
theorem dX4_takeBack_70 : decode cX4_takeBack 70 = .ok (.iadd, 1) := by decide +kernel
theorem dX4_takeBack_71 : decode cX4_takeBack 71 = .ok (.istore_n 2, 1) := by decide +kernel
theorem dX4_takeBack_72 : decode cX4_takeBack 72 = .ok (.aload_n 0, 1) := by decide +kernel
theorem dX4_takeBack_73 : decode cX4_takeBack 73 = .ok (.aload_n 0, 1) := by decide +kernel
theorem dX4_takeBack_74 : decode cX4_takeBack 74 = .ok (.iload_n 1, 1) := by decide +kernel
theorem dX4_takeBack_75 : decode cX4_takeBack 75 = .ok (.iload_n 2, 1) := by decide +kernel
theorem dX4_takeBack_76 : decode cX4_takeBack 76 = .ok (.invokevirtual 62, 3) := by decide +kernel
theorem dX4_takeBack_79 : decode cX4_takeBack 79 = .ok (.iconst 2, 1) := by decide +kernel
theorem dX4_takeBack_80 : decode cX4_takeBack 80 = .ok (.aload_n 0, 1) := by decide +kernel
theorem dX4_takeBack_81 : decode cX4_takeBack 81 = .ok (.iload_n 1, 1) := by decide +kernel
theorem dX4_takeBack_82 : decode cX4_takeBack 82 = .ok (.iload_n 2, 1) := by decide +kernel
theorem dX4_takeBack_83 : decode cX4_takeBack 83 = .ok (.iconst 1, 1) := by decide +kernel
theorem dX4_takeBack_84 : decode cX4_takeBack 84 = .ok (.iadd, 1) := by decide +kernel
theorem dX4_takeBack_85 : decode cX4_takeBack 85 = .ok (.invokevirtual 62, 3) := by decide +kernel
theorem dX4_takeBack_88 : decode cX4_takeBack 88 = .ok (.invokevirtual 72, 3) := by decide +kernel
theorem dX4_takeBack_91 : decode cX4_takeBack 91 = .ok (.aload_n 0, 1) := by decide +kernel
theorem dX4_takeBack_92 : decode cX4_takeBack 92 = .ok (.iload_n 1, 1) := by decide +kernel
theorem dX4_takeBack_93 : decode cX4_takeBack 93 = .ok (.iload_n 2, 1) := by decide +kernel
theorem dX4_takeBack_94 : decode cX4_takeBack 94 = .ok (.iconst 1, 1) := by decide +kernel
theorem dX4_takeBack_95 : decode cX4_takeBack 95 = .ok (.iadd, 1) := by decide +kernel
theorem dX4_takeBack_96 : decode cX4_takeBack 96 = .ok (.invokevirtual 62, 3) := by decide +kernel
theorem dX4_takeBack_99 : decode cX4_takeBack 99 = .ok (.ireturn, 1) := by decide +kernel
theorem dX4_pass_0 : decode cX4_pass 0 = .ok (.aload_n 0, 1) := by decide +kernel
theorem dX4_pass_1 : decode cX4_pass 1 = .ok (.iload_n 1, 1) := by decide +kernel
theorem dX4_pass_2 : decode cX4_pass 2 = .ok (.iconst 1, 1) := by decide +kernel
theorem dX4_pass_3 : decode cX4_pass 3 = .ok (.bipush 99, 2) := by decide +kernel
theorem dX4_pass_5 : decode cX4_pass 5 = .ok (.invokestatic 36, 3) := by decide +kernel
theorem dX4_pass_8 : decode cX4_pass 8 = .ok (.ifCond .ne 7, 3) := by decide +kernel
theorem dX4_pass_11 : decode cX4_pass 11 = .ok (.iconst 1, 1) := by decide +kernel
theorem dX4_pass_12 : decode cX4_pass 12 = .ok (.goto 23, 3) := by decide +kernel
theorem dX4_pass_15 : decode cX4_pass 15 = .ok (.aload_n 0, 1) := by decide +kernel
theorem dX4_pass_16 : decode cX4_pass 16 = .ok (.getfield 7, 3) := by decide +kernel
theorem dX4_pass_19 : decode cX4_pass 19 = .ok (.sipush 147, 3) := by decide +kernel
theorem dX4_pass_22 : decode cX4_pass 22 = .ok (.iaload, 1) := by decide +kernel
theorem dX4_pass_23 : decode cX4_pass 23 = .ok (.iload_n 1, 1) := by decide +kernel
theorem dX4_pass_24 : decode cX4_pass 24 = .ok (.iadd, 1) := by decide +kernel
theorem dX4_pass_25 : decode cX4_pass 25 = .ok (.ldc 94, 2) := by decide +kernel
theorem dX4_pass_27 : decode cX4_pass 27 = .ok (.if_icmp .le 7, 3) := by decide +kernel
theorem dX4_pass_30 : decode cX4_pass 30 = .ok (.iconst 2, 1) := by decide +kernel
theorem dX4_pass_31 : decode cX4_pass 31 = .ok (.goto 4, 3) := by decide +kernel
theorem dX4_pass_34 : decode cX4_pass 34 = .ok (.iconst 0, 1) := by decide +kernel
theorem dX4_pass_35 : decode cX4_pass 35 = .ok (.putfield 29, 3) := by decide +kernel
theorem dX4_pass_38 : decode cX4_pass 38 = .ok (.aload_n 0, 1) := by decide +kernel
theorem dX4_pass_39 : decode cX4_pass 39 = .ok (.getfield 29, 3) := by decide +kernel
theorem dX4_pass_42 : decode cX4_pass 42 = .ok (.ifCond .le 5, 3) := by decide +kernel
theorem dX4_pass_45 : decode cX4_pass 45 = .ok (.iconst 0, 1) := by decide +kernel
theorem dX4_pass_46 : decode cX4_pass 46 = .ok (.ireturn, 1) := by decide +kernel
theorem dX4_pass_47 : decode cX4_pass 47 = .ok (.aload_n 0, 1) := by decide +kernel
theorem dX4_pass_48 : decode cX4_pass 48 = .ok (.invokevirtual 40, 3) := by decide +kernel
theorem dX4_pass_51 : decode cX4_pass 51 = .ok (.aload_n 0, 1) := by decide +kernel
theorem dX4_pass_52 : decode cX4_pass 52 = .ok (.iload_n 1, 1) := by decide +kernel
theorem dX4_pass_53 : decode cX4_pass 53 = .ok (.invokevirtual 95, 3) := by decide +kernel
theorem dX4_pass_56 : decode cX4_pass 56 = .ok (.ireturn, 1) := by decide +kernel
theorem dX4_append_0 : decode cX4_append 0 = .ok (.aload_n 0, 1) := by decide +kernel
theorem dX4_append_1 : decode cX4_append 1 = .ok (.iload_n 1, 1) := by decide +kernel
theorem dX4_append_2 : decode cX4_append 2 = .ok (.bipush 33, 2) := by decide +kernel
theorem dX4_append_4 : decode cX4_append 4 = .ok (.bipush 126, 2) := by decide +kernel
theorem dX4_append_6 : decode cX4_append 6 = .ok (.invokestatic 36, 3) := by decide +kernel
theorem dX4_append_9 : decode cX4_append 9 = .ok (.ifCond .ne 7, 3) := by decide +kernel
theorem dX4_append_12 : decode cX4_append 12 = .ok (.iconst 1, 1) := by decide +kernel
theorem dX4_append_13 : decode cX4_append 13 = .ok (.goto 17, 3) := by decide +kernel
theorem dX4_append_16 : decode cX4_append 16 = .ok (.aload_n 0, 1) := by decide +kernel
theorem dX4_append_17 : decode cX4_append 17 = .ok (.getfield 98, 3) := by decide +kernel
theorem dX4_append_20 : decode cX4_append 20 = .ok (.bipush 60, 2) := by decide +kernel
theorem dX4_append_22 : decode cX4_append 22 = .ok (.if_icmp .ne 7, 3) := by decide +kernel
theorem dX4_append_25 : decode cX4_append 25 = .ok (.iconst 2, 1) := by decide +kernel
theorem dX4_append_26 : decode cX4_append 26 = .ok (.goto 4, 3) := by decide +kernel
theorem dX4_append_29 : decode cX4_append 29 = .ok (.iconst 0, 1) := by decide +kernel
theorem dX4_append_30 : decode cX4_append 30 = .ok (.putfield 29, 3) := by decide +kernel
theorem dX4_append_33 : decode cX4_append 33 = .ok (.aload_n 0, 1) := by decide +kernel
theorem dX4_append_34 : decode cX4_append 34 = .ok (.getfield 29, 3) := by decide +kernel
theorem dX4_append_37 : decode cX4_append 37 = .ok (.ifCond .le 5, 3) := by decide +kernel
theorem dX4_append_40 : decode cX4_append 40 = .ok (.iconst 0, 1) := by decide +kernel
theorem dX4_append_41 : decode cX4_append 41 = .ok (.ireturn, 1) := by decide +kernel
theorem dX4_append_42 : decode cX4_append 42 = .ok (.aload_n 0, 1) := by decide +kernel
theorem dX4_append_43 : decode cX4_append 43 = .ok (.getfield 26, 3) := by decide +kernel
theorem dX4_append_46 : decode cX4_append 46 = .ok (.aload_n 0, 1) := by decide +kernel
theorem dX4_append_47 : decode cX4_append 47 = .ok (.getfield 98, 3) := by decide +kernel
theorem dX4_append_50 : decode cX4_append 50 = .ok (.iload_n 1, 1) := by decide +kernel
theorem dX4_append_51 : decode cX4_append 51 = .ok (.iastore, 1) := by decide +kernel
theorem dX4_append_52 : decode cX4_append 52 = .ok (.aload_n 0, 1) := by decide +kernel
theorem dX4_append_53 : decode cX4_append 53 = .ok (.dup, 1) := by decide +kernel
theorem dX4_append_54 : decode cX4_append 54 = .ok (.getfield 98, 3) := by decide +kernel
theorem dX4_append_57 : decode cX4_append 57 = .ok (.iconst 1, 1) := by decide +kernel
theorem dX4_append_58 : decode cX4_append 58 = .ok (.iadd, 1) := by decide +kernel
theorem dX4_append_59 : decode cX4_append 59 = .ok (.putfield 98, 3) := by decide +kernel
theorem dX4_append_62 : decode cX4_append 62 = .ok (.aload_n 0, 1) := by decide +kernel
theorem dX4_append_63 : decode cX4_append 63 = .ok (.getfield 98, 3) := by decide +kernel
theorem dX4_append_66 : decode cX4_append 66 = .ok (.ireturn, 1) := by decide +kernel
theorem dX4_clearBuffer_0 : decode cX4_clearBuffer 0 = .ok (.aload_n 0, 1) := by decide +kernel
theorem dX4_clearBuffer_1 : decode cX4_clearBuffer 1 = .ok (.iconst 0, 1) := by decide +kernel
theorem dX4_clearBuffer_2 : decode cX4_clearBuffer 2 = .ok (.putfield 29, 3) := by decide +kernel
theorem dX4_clearBuffer_5 : decode cX4_clearBuffer 5 = .ok (.aload_n 0, 1) := by decide +kernel
theorem dX4_clearBuffer_6 : decode cX4_clearBuffer 6 = .ok (.getfield 98, 3) := by decide +kernel
theorem dX4_clearBuffer_9 : decode cX4_clearBuffer 9 = .ok (.istore_n 1, 1) := by decide +kernel
theorem dX4_clearBuffer_10 : decode cX4_clearBuffer 10 = .ok (.aload_n 0, 1) := by decide +kernel
theorem dX4_clearBuffer_11 : decode cX4_clearBuffer 11 = .ok (.iconst 0, 1) := by decide +kernel
theorem dX4_clearBuffer_12 : decode cX4_clearBuffer 12 = .ok (.putfield 98, 3) := by decide +kernel
theorem dX4_clearBuffer_15 : decode cX4_clearBuffer 15 = .ok (.iload_n 1, 1) := by decide +kernel
theorem dX4_clearBuffer_16 : decode cX4_clearBuffer 16 = .ok (.ireturn, 1) := by decide +kernel
theorem dX4_at_0 : decode cX4_at 0 = .ok (.iload_n 1, 1) := by decide +kernel
theorem dX4_at_1 : decode cX4_at 1 = .ok (.aload_n 0, 1) := by decide +kernel
theorem dX4_at_2 : decode cX4_at 2 = .ok (.getfield 98, 3) := by decide +kernel
theorem dX4_at_5 : decode cX4_at 5 = .ok (.if_icmp .ge 12, 3) := by decide +kernel
theorem dX4_at_8 : decode cX4_at 8 = .ok (.aload_n 0, 1) := by decide +kernel
theorem dX4_at_9 : decode cX4_at 9 = .ok (.getfield 26, 3) := by decide +kernel
theorem dX4_at_12 : decode cX4_at 12 = .ok (.iload_n 1, 1) := by decide +kernel
theorem dX4_at_13 : decode cX4_at 13 = .ok (.iaload, 1) := by decide +kernel
theorem dX4_at_14 : decode cX4_at 14 = .ok (.goto 4, 3) := by decide +kernel
theorem dX4_at_17 : decode cX4_at 17 = .ok (.iconst 0, 1) := by decide +kernel
theorem dX4_at_18 : decode cX4_at 18 = .ok (.ireturn, 1) := by decide +kernel
theorem dX4_readWind_0 : decode cX4_readWind 0 = .ok (.iload_n 1, 1) := by decide +kernel
theorem dX4_readWind_1 : decode cX4_readWind 1 = .ok (.iconst 1, 1) := by decide +kernel
theorem dX4_readWind_2 : decode cX4_readWind 2 = .ok (.iadd, 1) := by decide +kernel
theorem dX4_readWind_3 : decode cX4_readWind 3 = .ok (.istore_n 2, 1) := by decide +kernel
theorem dX4_readWind_4 : decode cX4_readWind 4 = .ok (.aload_n 0, 1) := by decide +kernel
theorem dX4_readWind_5 : decode cX4_readWind 5 = .ok (.aload_n 0, 1) := by decide +kernel
theorem dX4_readWind_6 : decode cX4_readWind 6 = .ok (.iload_n 1, 1) := by decide +kernel
theorem dX4_readWind_7 : decode cX4_readWind 7 = .ok (.invokevirtual 101, 3) := by decide +kernel
theorem dX4_readWind_10 : decode cX4_readWind 10 = .ok (.bipush 48, 2) := by decide +kernel
theorem dX4_readWind_12 : decode cX4_readWind 12 = .ok (.isub, 1) := by decide +kernel
theorem dX4_readWind_13 : decode cX4_readWind 13 = .ok (.putfield 104, 3) := by decide +kernel
theorem dX4_readWind_16 : decode cX4_readWind 16 = .ok (.aload_n 0, 1) := by decide +kernel
theorem dX4_readWind_17 : decode cX4_readWind 17 = .ok (.getfield 104, 3) := by decide +kernel
theorem dX4_readWind_20 : decode cX4_readWind 20 = .ok (.iconst 0, 1) := by decide +kernel
theorem dX4_readWind_21 : decode cX4_readWind 21 = .ok (.bipush 9, 2) := by decide +kernel
theorem dX4_readWind_23 : decode cX4_readWind 23 = .ok (.invokestatic 36, 3) := by decide +kernel
theorem dX4_readWind_26 : decode cX4_readWind 26 = .ok (.ifCond .ne 7, 3) := by decide +kernel
theorem dX4_readWind_29 : decode cX4_readWind 29 = .ok (.iconst (-1), 1) := by decide +kernel
theorem dX4_readWind_30 : decode cX4_readWind 30 = .ok (.iload_n 1, 1) := by decide +kernel
theorem dX4_readWind_31 : decode cX4_readWind 31 = .ok (.isub, 1) := by decide +kernel
theorem dX4_readWind_32 : decode cX4_readWind 32 = .ok (.ireturn, 1) := by decide +kernel
theorem dX4_readWind_33 : decode cX4_readWind 33 = .ok (.aload_n 0, 1) := by decide +kernel
theorem dX4_readWind_34 : decode cX4_readWind 34 = .ok (.getfield 104, 3) := by decide +kernel
theorem dX4_readWind_37 : decode cX4_readWind 37 = .ok (.ifCond .le 62, 3) := by decide +kernel
theorem dX4_readWind_40 : decode cX4_readWind 40 = .ok (.aload_n 0, 1) := by decide +kernel
theorem dX4_readWind_41 : decode cX4_readWind 41 = .ok (.iload_n 2, 1) := by decide +kernel
theorem dX4_readWind_42 : decode cX4_readWind 42 = .ok (.invokevirtual 101, 3) := by decide +kernel
theorem dX4_readWind_45 : decode cX4_readWind 45 = .ok (.bipush 48, 2) := by decide +kernel
theorem dX4_readWind_47 : decode cX4_readWind 47 = .ok (.bipush 57, 2) := by decide +kernel
theorem dX4_readWind_49 : decode cX4_readWind 49 = .ok (.invokestatic 36, 3) := by decide +kernel
theorem dX4_readWind_52 : decode cX4_readWind 52 = .ok (.ifCond .eq 47, 3) := by decide +kernel
theorem dX4_readWind_55 : decode cX4_readWind 55 = .ok (.bipush 10, 2) := by decide +kernel
theorem dX4_readWind_57 : decode cX4_readWind 57 = .ok (.aload_n 0, 1) := by decide +kernel
theorem dX4_readWind_58 : decode cX4_readWind 58 = .ok (.getfield 104, 3) := by decide +kernel
theorem dX4_readWind_61 : decode cX4_readWind 61 = .ok (.imul, 1) := by decide +kernel
theorem dX4_readWind_62 : decode cX4_readWind 62 = .ok (.aload_n 0, 1) := by decide +kernel
theorem dX4_readWind_63 : decode cX4_readWind 63 = .ok (.iload_n 2, 1) := by decide +kernel
theorem dX4_readWind_64 : decode cX4_readWind 64 = .ok (.invokevirtual 101, 3) := by decide +kernel
theorem dX4_readWind_67 : decode cX4_readWind 67 = .ok (.iadd, 1) := by decide +kernel
theorem dX4_readWind_68 : decode cX4_readWind 68 = .ok (.bipush 48, 2) := by decide +kernel
theorem dX4_readWind_70 : decode cX4_readWind 70 = .ok (.isub, 1) := by decide +kernel
theorem dX4_readWind_71 : decode cX4_readWind 71 = .ok (.bipush 24, 2) := by decide +kernel
theorem dX4_readWind_73 : decode cX4_readWind 73 = .ok (.if_icmp .ge 26, 3) := by decide +kernel
theorem dX4_readWind_76 : decode cX4_readWind 76 = .ok (.aload_n 0, 1) := by decide +kernel
theorem dX4_readWind_77 : decode cX4_readWind 77 = .ok (.bipush 10, 2) := by decide +kernel
theorem dX4_readWind_79 : decode cX4_readWind 79 = .ok (.aload_n 0, 1) := by decide +kernel
theorem dX4_readWind_80 : decode cX4_readWind 80 = .ok (.getfield 104, 3) := by decide +kernel
theorem dX4_readWind_83 : decode cX4_readWind 83 = .ok (.imul, 1) := by decide +kernel
theorem dX4_readWind_84 : decode cX4_readWind 84 = .ok (.aload_n 0, 1) := by decide +kernel
theorem dX4_readWind_85 : decode cX4_readWind 85 = .ok (.iload_n 2, 1) := by decide +kernel
theorem dX4_readWind_86 : decode cX4_readWind 86 = .ok (.invokevirtual 101, 3) := by decide +kernel
theorem dX4_readWind_89 : decode cX4_readWind 89 = .ok (.iadd, 1) := by decide +kernel
theorem dX4_readWind_90 : decode cX4_readWind 90 = .ok (.bipush 48, 2) := by decide +kernel
theorem dX4_readWind_92 : decode cX4_readWind 92 = .ok (.isub, 1) := by decide +kernel
theorem dX4_readWind_93 : decode cX4_readWind 93 = .ok (.putfield 104, 3) := by decide +kernel
theorem dX4_readWind_96 : decode cX4_readWind 96 = .ok (.iinc 2 1, 3) := by decide +kernel
theorem dX4_readWind_99 : decode cX4_readWind 99 = .ok (.aload_n 0, 1) := by decide +kernel
theorem dX4_readWind_100 : decode cX4_readWind 100 = .ok (.iload_n 2, 1) := by decide +kernel
theorem dX4_readWind_101 : decode cX4_readWind 101 = .ok (.invokevirtual 101, 3) := by decide +kernel
theorem dX4_readWind_104 : decode cX4_readWind 104 = .ok (.bipush 61, 2) := by decide +kernel
theorem dX4_readWind_106 : decode cX4_readWind 106 = .ok (.if_icmp .eq 7, 3) := by decide +kernel
theorem dX4_readWind_109 : decode cX4_readWind 109 = .ok (.iconst (-1), 1) := by decide +kernel
theorem dX4_readWind_110 : decode cX4_readWind 110 = .ok (.iload_n 2, 1) := by decide +kernel
theorem dX4_readWind_111 : decode cX4_readWind 111 = .ok (.isub, 1) := by decide +kernel
theorem dX4_readWind_112 : decode cX4_readWind 112 = .ok (.ireturn, 1) := by decide +kernel
theorem dX4_readWind_113 : decode cX4_readWind 113 = .ok (.aload_n 0, 1) := by decide +kernel
theorem dX4_readWind_114 : decode cX4_readWind 114 = .ok (.iload_n 2, 1) := by decide +kernel
theorem dX4_readWind_115 : decode cX4_readWind 115 = .ok (.iconst 1, 1) := by decide +kernel
theorem dX4_readWind_116 : decode cX4_readWind 116 = .ok (.iadd, 1) := by decide +kernel
theorem dX4_readWind_117 : decode cX4_readWind 117 = .ok (.invokevirtual 101, 3) := by decide +kernel
theorem dX4_readWind_120 : decode cX4_readWind 120 = .ok (.bipush 48, 2) := by decide +kernel
theorem dX4_readWind_122 : decode cX4_readWind 122 = .ok (.bipush 55, 2) := by decide +kernel
theorem dX4_readWind_124 : decode cX4_readWind 124 = .ok (.invokestatic 36, 3) := by decide +kernel
theorem dX4_readWind_127 : decode cX4_readWind 127 = .ok (.ifCond .ne 8, 3) := by decide +kernel
theorem dX4_readWind_130 : decode cX4_readWind 130 = .ok (.bipush (-2), 2) := by decide +kernel
theorem dX4_readWind_132 : decode cX4_readWind 132 = .ok (.iload_n 2, 1) := by decide +kernel
theorem dX4_readWind_133 : decode cX4_readWind 133 = .ok (.isub, 1) := by decide +kernel
theorem dX4_readWind_134 : decode cX4_readWind 134 = .ok (.ireturn, 1) := by decide +kernel
theorem dX4_readWind_135 : decode cX4_readWind 135 = .ok (.aload_n 0, 1) := by decide +kernel
theorem dX4_readWind_136 : decode cX4_readWind 136 = .ok (.iload_n 2, 1) := by decide +kernel
theorem dX4_readWind_137 : decode cX4_readWind 137 = .ok (.iconst 2, 1) := by decide +kernel
theorem dX4_readWind_138 : decode cX4_readWind 138 = .ok (.iadd, 1) := by decide +kernel
theorem dX4_readWind_139 : decode cX4_readWind 139 = .ok (.invokevirtual 101, 3) := by decide +kernel
theorem dX4_readWind_142 : decode cX4_readWind 142 = .ok (.bipush 48, 2) := by decide +kernel
theorem dX4_readWind_144 : decode cX4_readWind 144 = .ok (.bipush 57, 2) := by decide +kernel
theorem dX4_readWind_146 : decode cX4_readWind 146 = .ok (.invokestatic 36, 3) := by decide +kernel
theorem dX4_readWind_149 : decode cX4_readWind 149 = .ok (.ifCond .eq 9, 3) := by decide +kernel
theorem dX4_readWind_152 : decode cX4_readWind 152 = .ok (.iload_n 2, 1) := by decide +kernel
theorem dX4_readWind_153 : decode cX4_readWind 153 = .ok (.iconst 3, 1) := by decide +kernel
theorem dX4_readWind_154 : decode cX4_readWind 154 = .ok (.iadd, 1) := by decide +kernel
theorem dX4_readWind_155 : decode cX4_readWind 155 = .ok (.goto 7, 3) := by decide +kernel
theorem dX4_readWind_158 : decode cX4_readWind 158 = .ok (.bipush (-3), 2) := by decide +kernel
theorem dX4_readWind_160 : decode cX4_readWind 160 = .ok (.iload_n 2, 1) := by decide +kernel
theorem dX4_readWind_161 : decode cX4_readWind 161 = .ok (.isub, 1) := by decide +kernel
theorem dX4_readWind_162 : decode cX4_readWind 162 = .ok (.ireturn, 1) := by decide +kernel
theorem dX4_findError_0 : decode cX4_findError 0 = .ok (.iconst 0, 1) := by decide +kernel
theorem dX4_findError_1 : decode cX4_findError 1 = .ok (.istore_n 1, 1) := by decide +kernel
theorem dX4_findError_2 : decode cX4_findError 2 = .ok (.aload_n 0, 1) := by decide +kernel
theorem dX4_findError_3 : decode cX4_findError 3 = .ok (.iload_n 1, 1) := by decide +kernel
theorem dX4_findError_4 : decode cX4_findError 4 = .ok (.invokevirtual 107, 3) := by decide +kernel
theorem dX4_findError_7 : decode cX4_findError 7 = .ok (.istore_n 1, 1) := by decide +kernel
theorem dX4_findError_8 : decode cX4_findError 8 = .ok (.iload_n 1, 1) := by decide +kernel
theorem dX4_findError_9 : decode cX4_findError 9 = .ok (.ifCond .ge 7, 3) := by decide +kernel
theorem dX4_findError_12 : decode cX4_findError 12 = .ok (.iconst (-1), 1) := by decide +kernel
theorem dX4_findError_13 : decode cX4_findError 13 = .ok (.iload_n 1, 1) := by decide +kernel
theorem dX4_findError_14 : decode cX4_findError 14 = .ok (.isub, 1) := by decide +kernel
theorem dX4_findError_15 : decode cX4_findError 15 = .ok (.ireturn, 1) := by decide +kernel
theorem dX4_findError_16 : decode cX4_findError 16 = .ok (.iload_n 1, 1) := by decide +kernel
theorem dX4_findError_17 : decode cX4_findError 17 = .ok (.aload_n 0, 1) := by decide +kernel
theorem dX4_findError_18 : decode cX4_findError 18 = .ok (.getfield 98, 3) := by decide +kernel
theorem dX4_findError_21 : decode cX4_findError 21 = .ok (.if_icmp .ne 5, 3) := by decide +kernel
theorem dX4_findError_24 : decode cX4_findError 24 = .ok (.iconst (-1), 1) := by decide +kernel
theorem dX4_findError_25 : decode cX4_findError 25 = .ok (.ireturn, 1) := by decide +kernel
theorem dX4_findError_26 : decode cX4_findError 26 = .ok (.aload_n 0, 1) := by decide +kernel
theorem dX4_findError_27 : decode cX4_findError 27 = .ok (.getfield 26, 3) := by decide +kernel
theorem dX4_findError_30 : decode cX4_findError 30 = .ok (.iload_n 1, 1) := by decide +kernel
theorem dX4_findError_31 : decode cX4_findError 31 = .ok (.iaload, 1) := by decide +kernel
theorem dX4_findError_32 : decode cX4_findError 32 = .ok (.bipush 59, 2) := by decide +kernel
theorem dX4_findError_34 : decode cX4_findError 34 = .ok (.if_icmp .eq 5, 3) := by decide +kernel
theorem dX4_findError_37 : decode cX4_findError 37 = .ok (.iload_n 1, 1) := by decide +kernel
theorem dX4_findError_38 : decode cX4_findError 38 = .ok (.ireturn, 1) := by decide +kernel
theorem dX4_findError_39 : decode cX4_findError 39 = .ok (.iinc 1 1, 3) := by decide +kernel
theorem dX4_findError_42 : decode cX4_findError 42 = .ok (.goto (-40), 3) := by decide +kernel
theorem dX4_firstError_0 : decode cX4_firstError 0 = .ok (.aload_n 0, 1) := by decide +kernel
theorem dX4_firstError_1 : decode cX4_firstError 1 = .ok (.iconst 0, 1) := by decide +kernel
theorem dX4_firstError_2 : decode cX4_firstError 2 = .ok (.putfield 29, 3) := by decide +kernel
theorem dX4_firstError_5 : decode cX4_firstError 5 = .ok (.aload_n 0, 1) := by decide +kernel
theorem dX4_firstError_6 : decode cX4_firstError 6 = .ok (.invokevirtual 110, 3) := by decide +kernel
theorem dX4_firstError_9 : decode cX4_firstError 9 = .ok (.istore_n 1, 1) := by decide +kernel
theorem dX4_firstError_10 : decode cX4_firstError 10 = .ok (.iload_n 1, 1) := by decide +kernel
theorem dX4_firstError_11 : decode cX4_firstError 11 = .ok (.ifCond .ge 10, 3) := by decide +kernel
theorem dX4_firstError_14 : decode cX4_firstError 14 = .ok (.aload_n 0, 1) := by decide +kernel
theorem dX4_firstError_15 : decode cX4_firstError 15 = .ok (.getfield 98, 3) := by decide +kernel
theorem dX4_firstError_18 : decode cX4_firstError 18 = .ok (.goto 4, 3) := by decide +kernel
theorem dX4_firstError_21 : decode cX4_firstError 21 = .ok (.iload_n 1, 1) := by decide +kernel
theorem dX4_firstError_22 : decode cX4_firstError 22 = .ok (.ireturn, 1) := by decide +kernel
theorem dX4_load_0 : decode cX4_load 0 = .ok (.aload_n 0, 1) := by decide +kernel
theorem dX4_load_1 : decode cX4_load 1 = .ok (.aload_n 0, 1) := by decide +kernel
theorem dX4_load_2 : decode cX4_load 2 = .ok (.invokevirtual 110, 3) := by decide +kernel
theorem dX4_load_5 : decode cX4_load 5 = .ok (.ifCond .ge 7, 3) := by decide +kernel
theorem dX4_load_8 : decode cX4_load 8 = .ok (.iconst 0, 1) := by decide +kernel
theorem dX4_load_9 : decode cX4_load 9 = .ok (.goto 4, 3) := by decide +kernel
theorem dX4_load_12 : decode cX4_load 12 = .ok (.iconst 1, 1) := by decide +kernel
theorem dX4_load_13 : decode cX4_load 13 = .ok (.putfield 29, 3) := by decide +kernel
theorem dX4_load_16 : decode cX4_load 16 = .ok (.aload_n 0, 1) := by decide +kernel
theorem dX4_load_17 : decode cX4_load 17 = .ok (.getfield 29, 3) := by decide +kernel
theorem dX4_load_20 : decode cX4_load 20 = .ok (.ifCond .le 5, 3) := by decide +kernel
theorem dX4_load_23 : decode cX4_load 23 = .ok (.iconst 0, 1) := by decide +kernel
theorem dX4_load_24 : decode cX4_load 24 = .ok (.ireturn, 1) := by decide +kernel
theorem dX4_load_25 : decode cX4_load 25 = .ok (.aload_n 0, 1) := by decide +kernel
theorem dX4_load_26 : decode cX4_load 26 = .ok (.invokevirtual 40, 3) := by decide +kernel
theorem dX4_load_29 : decode cX4_load 29 = .ok (.iconst 0, 1) := by decide +kernel
theorem dX4_load_30 : decode cX4_load 30 = .ok (.istore_n 1, 1) := by decide +kernel
theorem dX4_load_31 : decode cX4_load 31 = .ok (.iload_n 1, 1) := by decide +kernel
theorem dX4_load_32 : decode cX4_load 32 = .ok (.aload_n 0, 1) := by decide +kernel
theorem dX4_load_33 : decode cX4_load 33 = .ok (.getfield 98, 3) := by decide +kernel
theorem dX4_load_36 : decode cX4_load 36 = .ok (.if_icmp .ge 60, 3) := by decide +kernel
theorem dX4_load_39 : decode cX4_load 39 = .ok (.aload_n 0, 1) := by decide +kernel
theorem dX4_load_40 : decode cX4_load 40 = .ok (.iload_n 1, 1) := by decide +kernel
theorem dX4_load_41 : decode cX4_load 41 = .ok (.invokevirtual 107, 3) := by decide +kernel
theorem dX4_load_44 : decode cX4_load 44 = .ok (.iconst 1, 1) := by decide +kernel
theorem dX4_load_45 : decode cX4_load 45 = .ok (.iadd, 1) := by decide +kernel
theorem dX4_load_46 : decode cX4_load 46 = .ok (.istore_n 1, 1) := by decide +kernel
theorem dX4_load_47 : decode cX4_load 47 = .ok (.aload_n 0, 1) := by decide +kernel
theorem dX4_load_48 : decode cX4_load 48 = .ok (.getfield 7, 3) := by decide +kernel
theorem dX4_load_51 : decode cX4_load 51 = .ok (.iconst 2, 1) := by decide +kernel
theorem dX4_load_52 : decode cX4_load 52 = .ok (.aload_n 0, 1) := by decide +kernel
theorem dX4_load_53 : decode cX4_load 53 = .ok (.getfield 104, 3) := by decide +kernel
theorem dX4_load_56 : decode cX4_load 56 = .ok (.imul, 1) := by decide +kernel
theorem dX4_load_57 : decode cX4_load 57 = .ok (.aload_n 0, 1) := by decide +kernel
theorem dX4_load_58 : decode cX4_load 58 = .ok (.getfield 26, 3) := by decide +kernel
theorem dX4_load_61 : decode cX4_load 61 = .ok (.iload_n 1, 1) := by decide +kernel
theorem dX4_load_62 : decode cX4_load 62 = .ok (.iconst 3, 1) := by decide +kernel
theorem dX4_load_63 : decode cX4_load 63 = .ok (.isub, 1) := by decide +kernel
theorem dX4_load_64 : decode cX4_load 64 = .ok (.iaload, 1) := by decide +kernel
theorem dX4_load_65 : decode cX4_load 65 = .ok (.bipush 48, 2) := by decide +kernel
theorem dX4_load_67 : decode cX4_load 67 = .ok (.isub, 1) := by decide +kernel
theorem dX4_load_68 : decode cX4_load 68 = .ok (.iastore, 1) := by decide +kernel
theorem dX4_load_69 : decode cX4_load 69 = .ok (.aload_n 0, 1) := by decide +kernel
theorem dX4_load_70 : decode cX4_load 70 = .ok (.getfield 7, 3) := by decide +kernel
theorem dX4_load_73 : decode cX4_load 73 = .ok (.iconst 2, 1) := by decide +kernel
theorem dX4_load_74 : decode cX4_load 74 = .ok (.aload_n 0, 1) := by decide +kernel
theorem dX4_load_75 : decode cX4_load 75 = .ok (.getfield 104, 3) := by decide +kernel
theorem dX4_load_78 : decode cX4_load 78 = .ok (.imul, 1) := by decide +kernel
theorem dX4_load_79 : decode cX4_load 79 = .ok (.iconst 1, 1) := by decide +kernel
theorem dX4_load_80 : decode cX4_load 80 = .ok (.iadd, 1) := by decide +kernel
theorem dX4_load_81 : decode cX4_load 81 = .ok (.aload_n 0, 1) := by decide +kernel
theorem dX4_load_82 : decode cX4_load 82 = .ok (.getfield 26, 3) := by decide +kernel
theorem dX4_load_85 : decode cX4_load 85 = .ok (.iload_n 1, 1) := by decide +kernel
theorem dX4_load_86 : decode cX4_load 86 = .ok (.iconst 2, 1) := by decide +kernel
theorem dX4_load_87 : decode cX4_load 87 = .ok (.isub, 1) := by decide +kernel
theorem dX4_load_88 : decode cX4_load 88 = .ok (.iaload, 1) := by decide +kernel
theorem dX4_load_89 : decode cX4_load 89 = .ok (.bipush 48, 2) := by decide +kernel
theorem dX4_load_91 : decode cX4_load 91 = .ok (.isub, 1) := by decide +kernel
theorem dX4_load_92 : decode cX4_load 92 = .ok (.iastore, 1) := by decide +kernel
theorem dX4_load_93 : decode cX4_load 93 = .ok (.goto (-62), 3) := by decide +kernel
theorem dX4_load_96 : decode cX4_load 96 = .ok (.aload_n 0, 1) := by decide +kernel
theorem dX4_load_97 : decode cX4_load 97 = .ok (.iconst 0, 1) := by decide +kernel
theorem dX4_load_98 : decode cX4_load 98 = .ok (.putfield 98, 3) := by decide +kernel
theorem dX4_load_101 : decode cX4_load 101 = .ok (.aload_n 0, 1) := by decide +kernel
theorem dX4_load_102 : decode cX4_load 102 = .ok (.invokevirtual 113, 3) := by decide +kernel
theorem dX4_load_105 : decode cX4_load 105 = .ok (.ireturn, 1) := by decide +kernel
theorem dX4_hourNow_0 : decode cX4_hourNow 0 = .ok (.iload_n 2, 1) := by decide +kernel
theorem dX4_hourNow_1 : decode cX4_hourNow 1 = .ok (.tableswitch 54 0 3 #[31, 31, 42, 48], 31) := by decide +kernel
theorem dX4_hourNow_32 : decode cX4_hourNow 32 = .ok (.aload_n 0, 1) := by decide +kernel
theorem dX4_hourNow_33 : decode cX4_hourNow 33 = .ok (.getfield 7, 3) := by decide +kernel
theorem dX4_hourNow_36 : decode cX4_hourNow 36 = .ok (.iconst 2, 1) := by decide +kernel
theorem dX4_hourNow_37 : decode cX4_hourNow 37 = .ok (.iload_n 1, 1) := by decide +kernel
theorem dX4_hourNow_38 : decode cX4_hourNow 38 = .ok (.imul, 1) := by decide +kernel
theorem dX4_hourNow_39 : decode cX4_hourNow 39 = .ok (.iload_n 2, 1) := by decide +kernel
theorem dX4_hourNow_40 : decode cX4_hourNow 40 = .ok (.iadd, 1) := by decide +kernel
theorem dX4_hourNow_41 : decode cX4_hourNow 41 = .ok (.iaload, 1) := by decide +kernel
theorem dX4_hourNow_42 : decode cX4_hourNow 42 = .ok (.ireturn, 1) := by decide +kernel
theorem dX4_hourNow_43 : decode cX4_hourNow 43 = .ok (.aload_n 0, 1) := by decide +kernel
theorem dX4_hourNow_44 : decode cX4_hourNow 44 = .ok (.iload_n 1, 1) := by decide +kernel
theorem dX4_hourNow_45 : decode cX4_hourNow 45 = .ok (.invokevirtual 55, 3) := by decide +kernel
theorem dX4_hourNow_48 : decode cX4_hourNow 48 = .ok (.ireturn, 1) := by decide +kernel
theorem dX4_hourNow_49 : decode cX4_hourNow 49 = .ok (.aload_n 0, 1) := by decide +kernel
theorem dX4_hourNow_50 : decode cX4_hourNow 50 = .ok (.iload_n 1, 1) := by decide +kernel
theorem dX4_hourNow_51 : decode cX4_hourNow 51 = .ok (.invokevirtual 59, 3) := by decide +kernel
theorem dX4_hourNow_54 : decode cX4_hourNow 54 = .ok (.ireturn, 1) := by decide +kernel
theorem dX4_hourNow_55 : decode cX4_hourNow 55 = .ok (.aload_n 0, 1) := by decide +kernel
theorem dX4_hourNow_56 : decode cX4_hourNow 56 = .ok (.iconst 0, 1) := by decide +kernel
theorem dX4_hourNow_57 : decode cX4_hourNow 57 = .ok (.iload_n 1, 1) := by decide +kernel
theorem dX4_hourNow_58 : decode cX4_hourNow 58 = .ok (.invokevirtual 65, 3) := by decide +kernel
theorem dX4_hourNow_61 : decode cX4_hourNow 61 = .ok (.aload_n 0, 1) := by decide +kernel
theorem dX4_hourNow_62 : decode cX4_hourNow 62 = .ok (.iconst 1, 1) := by decide +kernel
theorem dX4_hourNow_63 : decode cX4_hourNow 63 = .ok (.iload_n 1, 1) := by decide +kernel
theorem dX4_hourNow_64 : decode cX4_hourNow 64 = .ok (.invokevirtual 65, 3) := by decide +kernel
theorem dX4_hourNow_67 : decode cX4_hourNow 67 = .ok (.iadd, 1) := by decide +kernel
theorem dX4_hourNow_68 : decode cX4_hourNow 68 = .ok (.aload_n 0, 1) := by decide +kernel
theorem dX4_hourNow_69 : decode cX4_hourNow 69 = .ok (.iconst 2, 1) := by decide +kernel
theorem dX4_hourNow_70 : decode cX4_hourNow 70 = .ok (.iload_n 1, 1) := by decide +kernel
theorem dX4_hourNow_71 : decode cX4_hourNow 71 = .ok (.invokevirtual 65, 3) := by decide +kernel
theorem dX4_hourNow_74 : decode cX4_hourNow 74 = .ok (.iadd, 1) := by decide +kernel
theorem dX4_hourNow_75 : decode cX4_hourNow 75 = .ok (.ireturn, 1) := by decide +kernel
theorem dX4_hourOf_0 : decode cX4_hourOf 0 = .ok (.aload_n 0, 1) := by decide +kernel
theorem dX4_hourOf_1 : decode cX4_hourOf 1 = .ok (.iload_n 1, 1) := by decide +kernel
theorem dX4_hourOf_2 : decode cX4_hourOf 2 = .ok (.iconst 0, 1) := by decide +kernel
theorem dX4_hourOf_3 : decode cX4_hourOf 3 = .ok (.bipush 23, 2) := by decide +kernel
theorem dX4_hourOf_5 : decode cX4_hourOf 5 = .ok (.invokestatic 36, 3) := by decide +kernel
theorem dX4_hourOf_8 : decode cX4_hourOf 8 = .ok (.ifCond .ne 7, 3) := by decide +kernel
theorem dX4_hourOf_11 : decode cX4_hourOf 11 = .ok (.iconst 1, 1) := by decide +kernel
theorem dX4_hourOf_12 : decode cX4_hourOf 12 = .ok (.goto 17, 3) := by decide +kernel
theorem dX4_hourOf_15 : decode cX4_hourOf 15 = .ok (.iload_n 2, 1) := by decide +kernel
theorem dX4_hourOf_16 : decode cX4_hourOf 16 = .ok (.iconst 0, 1) := by decide +kernel
theorem dX4_hourOf_17 : decode cX4_hourOf 17 = .ok (.iconst 4, 1) := by decide +kernel
theorem dX4_hourOf_18 : decode cX4_hourOf 18 = .ok (.invokestatic 36, 3) := by decide +kernel
theorem dX4_hourOf_21 : decode cX4_hourOf 21 = .ok (.ifCond .eq 7, 3) := by decide +kernel
theorem dX4_hourOf_24 : decode cX4_hourOf 24 = .ok (.iconst 0, 1) := by decide +kernel
theorem dX4_hourOf_25 : decode cX4_hourOf 25 = .ok (.goto 4, 3) := by decide +kernel
theorem dX4_hourOf_28 : decode cX4_hourOf 28 = .ok (.iconst 2, 1) := by decide +kernel
theorem dX4_hourOf_29 : decode cX4_hourOf 29 = .ok (.putfield 29, 3) := by decide +kernel
theorem dX4_hourOf_32 : decode cX4_hourOf 32 = .ok (.aload_n 0, 1) := by decide +kernel
theorem dX4_hourOf_33 : decode cX4_hourOf 33 = .ok (.getfield 29, 3) := by decide +kernel
theorem dX4_hourOf_36 : decode cX4_hourOf 36 = .ok (.ifCond .le 7, 3) := by decide +kernel
theorem dX4_hourOf_39 : decode cX4_hourOf 39 = .ok (.iconst 0, 1) := by decide +kernel
theorem dX4_hourOf_40 : decode cX4_hourOf 40 = .ok (.goto 9, 3) := by decide +kernel
theorem dX4_hourOf_43 : decode cX4_hourOf 43 = .ok (.aload_n 0, 1) := by decide +kernel
theorem dX4_hourOf_44 : decode cX4_hourOf 44 = .ok (.iload_n 1, 1) := by decide +kernel
theorem dX4_hourOf_45 : decode cX4_hourOf 45 = .ok (.iload_n 2, 1) := by decide +kernel
theorem dX4_hourOf_46 : decode cX4_hourOf 46 = .ok (.invokevirtual 116, 3) := by decide +kernel
theorem dX4_hourOf_49 : decode cX4_hourOf 49 = .ok (.ireturn, 1) := by decide +kernel
theorem dX4_agreeingHours_0 : decode cX4_agreeingHours 0 = .ok (.iconst 0, 1) := by decide +kernel
theorem dX4_agreeingHours_1 : decode cX4_agreeingHours 1 = .ok (.istore_n 2, 1) := by decide +kernel
theorem dX4_agreeingHours_2 : decode cX4_agreeingHours 2 = .ok (.iconst 0, 1) := by decide +kernel
theorem dX4_agreeingHours_3 : decode cX4_agreeingHours 3 = .ok (.istore_n 3, 1) := by decide +kernel
theorem dX4_agreeingHours_4 : decode cX4_agreeingHours 4 = .ok (.iload_n 3, 1) := by decide +kernel
theorem dX4_agreeingHours_5 : decode cX4_agreeingHours 5 = .ok (.bipush 24, 2) := by decide +kernel
theorem dX4_agreeingHours_7 : decode cX4_agreeingHours 7 = .ok (.if_icmp .ge 26, 3) := by decide +kernel
theorem dX4_agreeingHours_10 : decode cX4_agreeingHours 10 = .ok (.iload_n 2, 1) := by decide +kernel
theorem dX4_agreeingHours_11 : decode cX4_agreeingHours 11 = .ok (.aload_n 0, 1) := by decide +kernel
theorem dX4_agreeingHours_12 : decode cX4_agreeingHours 12 = .ok (.iload_n 1, 1) := by decide +kernel
theorem dX4_agreeingHours_13 : decode cX4_agreeingHours 13 = .ok (.iload_n 3, 1) := by decide +kernel
theorem dX4_agreeingHours_14 : decode cX4_agreeingHours 14 = .ok (.invokevirtual 47, 3) := by decide +kernel
theorem dX4_agreeingHours_17 : decode cX4_agreeingHours 17 = .ok (.ifCond .eq 7, 3) := by decide +kernel
theorem dX4_agreeingHours_20 : decode cX4_agreeingHours 20 = .ok (.iconst 1, 1) := by decide +kernel
theorem dX4_agreeingHours_21 : decode cX4_agreeingHours 21 = .ok (.goto 4, 3) := by decide +kernel
theorem dX4_agreeingHours_24 : decode cX4_agreeingHours 24 = .ok (.iconst 0, 1) := by decide +kernel
theorem dX4_agreeingHours_25 : decode cX4_agreeingHours 25 = .ok (.iadd, 1) := by decide +kernel
theorem dX4_agreeingHours_26 : decode cX4_agreeingHours 26 = .ok (.istore_n 2, 1) := by decide +kernel
theorem dX4_agreeingHours_27 : decode cX4_agreeingHours 27 = .ok (.iinc 3 1, 3) := by decide +kernel
theorem dX4_agreeingHours_30 : decode cX4_agreeingHours 30 = .ok (.goto (-26), 3) := by decide +kernel
theorem dX4_agreeingHours_33 : decode cX4_agreeingHours 33 = .ok (.iload_n 2, 1) := by decide +kernel
theorem dX4_agreeingHours_34 : decode cX4_agreeingHours 34 = .ok (.ireturn, 1) := by decide +kernel
theorem dX4_matters_0 : decode cX4_matters 0 = .ok (.bipush 48, 2) := by decide +kernel
theorem dX4_matters_2 : decode cX4_matters 2 = .ok (.iconst 4, 1) := by decide +kernel
theorem dX4_matters_3 : decode cX4_matters 3 = .ok (.iload_n 1, 1) := by decide +kernel
theorem dX4_matters_4 : decode cX4_matters 4 = .ok (.imul, 1) := by decide +kernel
theorem dX4_matters_5 : decode cX4_matters 5 = .ok (.iadd, 1) := by decide +kernel
theorem dX4_matters_6 : decode cX4_matters 6 = .ok (.iconst 3, 1) := by decide +kernel
theorem dX4_matters_7 : decode cX4_matters 7 = .ok (.iadd, 1) := by decide +kernel
theorem dX4_matters_8 : decode cX4_matters 8 = .ok (.istore_n 2, 1) := by decide +kernel
theorem dX4_matters_9 : decode cX4_matters 9 = .ok (.iconst 0, 1) := by decide +kernel
theorem dX4_matters_10 : decode cX4_matters 10 = .ok (.istore_n 3, 1) := by decide +kernel
theorem dX4_matters_11 : decode cX4_matters 11 = .ok (.iconst 0, 1) := by decide +kernel
theorem dX4_matters_12 : decode cX4_matters 12 = .ok (.istore 4, 2) := by decide +kernel
theorem dX4_matters_14 : decode cX4_matters 14 = .ok (.iload 4, 2) := by decide +kernel
theorem dX4_matters_16 : decode cX4_matters 16 = .ok (.bipush 24, 2) := by decide +kernel
theorem dX4_matters_18 : decode cX4_matters 18 = .ok (.if_icmp .ge 80, 3) := by decide +kernel
theorem dX4_matters_21 : decode cX4_matters 21 = .ok (.aload_n 0, 1) := by decide +kernel
theorem dX4_matters_22 : decode cX4_matters 22 = .ok (.iload 4, 2) := by decide +kernel
theorem dX4_matters_24 : decode cX4_matters 24 = .ok (.invokevirtual 59, 3) := by decide +kernel
theorem dX4_matters_27 : decode cX4_matters 27 = .ok (.ifCond .ne 7, 3) := by decide +kernel
theorem dX4_matters_30 : decode cX4_matters 30 = .ok (.iconst 1, 1) := by decide +kernel
theorem dX4_matters_31 : decode cX4_matters 31 = .ok (.goto 4, 3) := by decide +kernel
theorem dX4_matters_34 : decode cX4_matters 34 = .ok (.iconst 0, 1) := by decide +kernel
theorem dX4_matters_35 : decode cX4_matters 35 = .ok (.istore 5, 2) := by decide +kernel
theorem dX4_matters_37 : decode cX4_matters 37 = .ok (.aload_n 0, 1) := by decide +kernel
theorem dX4_matters_38 : decode cX4_matters 38 = .ok (.getfield 7, 3) := by decide +kernel
theorem dX4_matters_41 : decode cX4_matters 41 = .ok (.iload_n 2, 1) := by decide +kernel
theorem dX4_matters_42 : decode cX4_matters 42 = .ok (.iconst 1, 1) := by decide +kernel
theorem dX4_matters_43 : decode cX4_matters 43 = .ok (.aload_n 0, 1) := by decide +kernel
theorem dX4_matters_44 : decode cX4_matters 44 = .ok (.getfield 7, 3) := by decide +kernel
theorem dX4_matters_47 : decode cX4_matters 47 = .ok (.iload_n 2, 1) := by decide +kernel
theorem dX4_matters_48 : decode cX4_matters 48 = .ok (.iaload, 1) := by decide +kernel
theorem dX4_matters_49 : decode cX4_matters 49 = .ok (.isub, 1) := by decide +kernel
theorem dX4_matters_50 : decode cX4_matters 50 = .ok (.iastore, 1) := by decide +kernel
theorem dX4_matters_51 : decode cX4_matters 51 = .ok (.iload_n 3, 1) := by decide +kernel
theorem dX4_matters_52 : decode cX4_matters 52 = .ok (.aload_n 0, 1) := by decide +kernel
theorem dX4_matters_53 : decode cX4_matters 53 = .ok (.iload 4, 2) := by decide +kernel
theorem dX4_matters_55 : decode cX4_matters 55 = .ok (.invokevirtual 59, 3) := by decide +kernel
theorem dX4_matters_58 : decode cX4_matters 58 = .ok (.ifCond .ne 7, 3) := by decide +kernel
theorem dX4_matters_61 : decode cX4_matters 61 = .ok (.iconst 1, 1) := by decide +kernel
theorem dX4_matters_62 : decode cX4_matters 62 = .ok (.goto 4, 3) := by decide +kernel
theorem dX4_matters_65 : decode cX4_matters 65 = .ok (.iconst 0, 1) := by decide +kernel
theorem dX4_matters_66 : decode cX4_matters 66 = .ok (.iload 5, 2) := by decide +kernel
theorem dX4_matters_68 : decode cX4_matters 68 = .ok (.if_icmp .eq 7, 3) := by decide +kernel
theorem dX4_matters_71 : decode cX4_matters 71 = .ok (.iconst 1, 1) := by decide +kernel
theorem dX4_matters_72 : decode cX4_matters 72 = .ok (.goto 4, 3) := by decide +kernel
theorem dX4_matters_75 : decode cX4_matters 75 = .ok (.iconst 0, 1) := by decide +kernel
theorem dX4_matters_76 : decode cX4_matters 76 = .ok (.iadd, 1) := by decide +kernel
theorem dX4_matters_77 : decode cX4_matters 77 = .ok (.istore_n 3, 1) := by decide +kernel
theorem dX4_matters_78 : decode cX4_matters 78 = .ok (.aload_n 0, 1) := by decide +kernel
theorem dX4_matters_79 : decode cX4_matters 79 = .ok (.getfield 7, 3) := by decide +kernel
theorem dX4_matters_82 : decode cX4_matters 82 = .ok (.iload_n 2, 1) := by decide +kernel
theorem dX4_matters_83 : decode cX4_matters 83 = .ok (.iconst 1, 1) := by decide +kernel
theorem dX4_matters_84 : decode cX4_matters 84 = .ok (.aload_n 0, 1) := by decide +kernel
theorem dX4_matters_85 : decode cX4_matters 85 = .ok (.getfield 7, 3) := by decide +kernel
theorem dX4_matters_88 : decode cX4_matters 88 = .ok (.iload_n 2, 1) := by decide +kernel
theorem dX4_matters_89 : decode cX4_matters 89 = .ok (.iaload, 1) := by decide +kernel
theorem dX4_matters_90 : decode cX4_matters 90 = .ok (.isub, 1) := by decide +kernel
theorem dX4_matters_91 : decode cX4_matters 91 = .ok (.iastore, 1) := by decide +kernel
theorem dX4_matters_92 : decode cX4_matters 92 = .ok (.iinc 4 1, 3) := by decide +kernel
theorem dX4_matters_95 : decode cX4_matters 95 = .ok (.goto (-81), 3) := by decide +kernel
theorem dX4_matters_98 : decode cX4_matters 98 = .ok (.iload_n 3, 1) := by decide +kernel
theorem dX4_matters_99 : decode cX4_matters 99 = .ok (.ireturn, 1) := by decide +kernel
theorem dX4_vaneNow_0 : decode cX4_vaneNow 0 = .ok (.iload_n 2, 1) := by decide +kernel
theorem dX4_vaneNow_1 : decode cX4_vaneNow 1 = .ok (.iconst 4, 1) := by decide +kernel
theorem dX4_vaneNow_2 : decode cX4_vaneNow 2 = .ok (.if_icmp .ge 12, 3) := by decide +kernel
theorem dX4_vaneNow_5 : decode cX4_vaneNow 5 = .ok (.aload_n 0, 1) := by decide +kernel
theorem dX4_vaneNow_6 : decode cX4_vaneNow 6 = .ok (.iload_n 1, 1) := by decide +kernel
theorem dX4_vaneNow_7 : decode cX4_vaneNow 7 = .ok (.iload_n 2, 1) := by decide +kernel
theorem dX4_vaneNow_8 : decode cX4_vaneNow 8 = .ok (.invokevirtual 43, 3) := by decide +kernel
theorem dX4_vaneNow_11 : decode cX4_vaneNow 11 = .ok (.goto 21, 3) := by decide +kernel
theorem dX4_vaneNow_14 : decode cX4_vaneNow 14 = .ok (.iload_n 2, 1) := by decide +kernel
theorem dX4_vaneNow_15 : decode cX4_vaneNow 15 = .ok (.iconst 4, 1) := by decide +kernel
theorem dX4_vaneNow_16 : decode cX4_vaneNow 16 = .ok (.if_icmp .ne 11, 3) := by decide +kernel
theorem dX4_vaneNow_19 : decode cX4_vaneNow 19 = .ok (.aload_n 0, 1) := by decide +kernel
theorem dX4_vaneNow_20 : decode cX4_vaneNow 20 = .ok (.iload_n 1, 1) := by decide +kernel
theorem dX4_vaneNow_21 : decode cX4_vaneNow 21 = .ok (.invokevirtual 119, 3) := by decide +kernel
theorem dX4_vaneNow_24 : decode cX4_vaneNow 24 = .ok (.goto 8, 3) := by decide +kernel
theorem dX4_vaneNow_27 : decode cX4_vaneNow 27 = .ok (.aload_n 0, 1) := by decide +kernel
theorem dX4_vaneNow_28 : decode cX4_vaneNow 28 = .ok (.iload_n 1, 1) := by decide +kernel
theorem dX4_vaneNow_29 : decode cX4_vaneNow 29 = .ok (.invokevirtual 122, 3) := by decide +kernel
theorem dX4_vaneNow_32 : decode cX4_vaneNow 32 = .ok (.ireturn, 1) := by decide +kernel
theorem dX4_vaneOf_0 : decode cX4_vaneOf 0 = .ok (.aload_n 0, 1) := by decide +kernel
theorem dX4_vaneOf_1 : decode cX4_vaneOf 1 = .ok (.iload_n 1, 1) := by decide +kernel
theorem dX4_vaneOf_2 : decode cX4_vaneOf 2 = .ok (.iconst 0, 1) := by decide +kernel
theorem dX4_vaneOf_3 : decode cX4_vaneOf 3 = .ok (.iconst 5, 1) := by decide +kernel
theorem dX4_vaneOf_4 : decode cX4_vaneOf 4 = .ok (.invokestatic 36, 3) := by decide +kernel
theorem dX4_vaneOf_7 : decode cX4_vaneOf 7 = .ok (.ifCond .ne 7, 3) := by decide +kernel
theorem dX4_vaneOf_10 : decode cX4_vaneOf 10 = .ok (.iconst 1, 1) := by decide +kernel
theorem dX4_vaneOf_11 : decode cX4_vaneOf 11 = .ok (.goto 17, 3) := by decide +kernel
theorem dX4_vaneOf_14 : decode cX4_vaneOf 14 = .ok (.iload_n 2, 1) := by decide +kernel
theorem dX4_vaneOf_15 : decode cX4_vaneOf 15 = .ok (.iconst 0, 1) := by decide +kernel
theorem dX4_vaneOf_16 : decode cX4_vaneOf 16 = .ok (.iconst 5, 1) := by decide +kernel
theorem dX4_vaneOf_17 : decode cX4_vaneOf 17 = .ok (.invokestatic 36, 3) := by decide +kernel
theorem dX4_vaneOf_20 : decode cX4_vaneOf 20 = .ok (.ifCond .eq 7, 3) := by decide +kernel
theorem dX4_vaneOf_23 : decode cX4_vaneOf 23 = .ok (.iconst 0, 1) := by decide +kernel
theorem dX4_vaneOf_24 : decode cX4_vaneOf 24 = .ok (.goto 4, 3) := by decide +kernel
theorem dX4_vaneOf_27 : decode cX4_vaneOf 27 = .ok (.iconst 2, 1) := by decide +kernel
theorem dX4_vaneOf_28 : decode cX4_vaneOf 28 = .ok (.putfield 29, 3) := by decide +kernel
theorem dX4_vaneOf_31 : decode cX4_vaneOf 31 = .ok (.aload_n 0, 1) := by decide +kernel
theorem dX4_vaneOf_32 : decode cX4_vaneOf 32 = .ok (.getfield 29, 3) := by decide +kernel
theorem dX4_vaneOf_35 : decode cX4_vaneOf 35 = .ok (.ifCond .le 7, 3) := by decide +kernel
theorem dX4_vaneOf_38 : decode cX4_vaneOf 38 = .ok (.iconst 0, 1) := by decide +kernel
theorem dX4_vaneOf_39 : decode cX4_vaneOf 39 = .ok (.goto 9, 3) := by decide +kernel
theorem dX4_vaneOf_42 : decode cX4_vaneOf 42 = .ok (.aload_n 0, 1) := by decide +kernel
theorem dX4_vaneOf_43 : decode cX4_vaneOf 43 = .ok (.iload_n 1, 1) := by decide +kernel
theorem dX4_vaneOf_44 : decode cX4_vaneOf 44 = .ok (.iload_n 2, 1) := by decide +kernel
theorem dX4_vaneOf_45 : decode cX4_vaneOf 45 = .ok (.invokevirtual 125, 3) := by decide +kernel
theorem dX4_vaneOf_48 : decode cX4_vaneOf 48 = .ok (.ireturn, 1) := by decide +kernel
theorem dX4_millNow_0 : decode cX4_millNow 0 = .ok (.iload_n 2, 1) := by decide +kernel
theorem dX4_millNow_1 : decode cX4_millNow 1 = .ok (.tableswitch 82 0 4 #[35, 42, 49, 55, 62], 35) := by decide +kernel
theorem dX4_millNow_36 : decode cX4_millNow 36 = .ok (.aload_n 0, 1) := by decide +kernel
theorem dX4_millNow_37 : decode cX4_millNow 37 = .ok (.iload_n 1, 1) := by decide +kernel
theorem dX4_millNow_38 : decode cX4_millNow 38 = .ok (.iconst 0, 1) := by decide +kernel
theorem dX4_millNow_39 : decode cX4_millNow 39 = .ok (.invokevirtual 62, 3) := by decide +kernel
theorem dX4_millNow_42 : decode cX4_millNow 42 = .ok (.ireturn, 1) := by decide +kernel
theorem dX4_millNow_43 : decode cX4_millNow 43 = .ok (.aload_n 0, 1) := by decide +kernel
theorem dX4_millNow_44 : decode cX4_millNow 44 = .ok (.iload_n 1, 1) := by decide +kernel
theorem dX4_millNow_45 : decode cX4_millNow 45 = .ok (.iconst 1, 1) := by decide +kernel
theorem dX4_millNow_46 : decode cX4_millNow 46 = .ok (.invokevirtual 62, 3) := by decide +kernel
theorem dX4_millNow_49 : decode cX4_millNow 49 = .ok (.ireturn, 1) := by decide +kernel
theorem dX4_millNow_50 : decode cX4_millNow 50 = .ok (.aload_n 0, 1) := by decide +kernel
theorem dX4_millNow_51 : decode cX4_millNow 51 = .ok (.iload_n 1, 1) := by decide +kernel
theorem dX4_millNow_52 : decode cX4_millNow 52 = .ok (.invokevirtual 91, 3) := by decide +kernel
theorem dX4_millNow_55 : decode cX4_millNow 55 = .ok (.ireturn, 1) := by decide +kernel
theorem dX4_millNow_56 : decode cX4_millNow 56 = .ok (.aload_n 0, 1) := by decide +kernel
theorem dX4_millNow_57 : decode cX4_millNow 57 = .ok (.iload_n 1, 1) := by decide +kernel
theorem dX4_millNow_58 : decode cX4_millNow 58 = .ok (.iconst 2, 1) := by decide +kernel
theorem dX4_millNow_59 : decode cX4_millNow 59 = .ok (.invokevirtual 62, 3) := by decide +kernel
theorem dX4_millNow_62 : decode cX4_millNow 62 = .ok (.ireturn, 1) := by decide +kernel
theorem dX4_millNow_63 : decode cX4_millNow 63 = .ok (.aload_n 0, 1) := by decide +kernel
theorem dX4_millNow_64 : decode cX4_millNow 64 = .ok (.iload_n 1, 1) := by decide +kernel
theorem dX4_millNow_65 : decode cX4_millNow 65 = .ok (.iconst 1, 1) := by decide +kernel
theorem dX4_millNow_66 : decode cX4_millNow 66 = .ok (.invokevirtual 62, 3) := by decide +kernel
theorem dX4_millNow_69 : decode cX4_millNow 69 = .ok (.ifCond .ne 7, 3) := by decide +kernel
theorem dX4_millNow_72 : decode cX4_millNow 72 = .ok (.iconst (-1), 1) := by decide +kernel
theorem dX4_millNow_73 : decode cX4_millNow 73 = .ok (.goto 9, 3) := by decide +kernel
theorem dX4_millNow_76 : decode cX4_millNow 76 = .ok (.aload_n 0, 1) := by decide +kernel
theorem dX4_millNow_77 : decode cX4_millNow 77 = .ok (.iload_n 1, 1) := by decide +kernel
theorem dX4_millNow_78 : decode cX4_millNow 78 = .ok (.iconst 3, 1) := by decide +kernel
theorem dX4_millNow_79 : decode cX4_millNow 79 = .ok (.invokevirtual 62, 3) := by decide +kernel
theorem dX4_millNow_82 : decode cX4_millNow 82 = .ok (.ireturn, 1) := by decide +kernel
theorem dX4_millNow_83 : decode cX4_millNow 83 = .ok (.aload_n 0, 1) := by decide +kernel
theorem dX4_millNow_84 : decode cX4_millNow 84 = .ok (.iload_n 1, 1) := by decide +kernel
theorem dX4_millNow_85 : decode cX4_millNow 85 = .ok (.invokevirtual 128, 3) := by decide +kernel
theorem dX4_millNow_88 : decode cX4_millNow 88 = .ok (.ireturn, 1) := by decide +kernel
theorem dX4_millOf_0 : decode cX4_millOf 0 = .ok (.aload_n 0, 1) := by decide +kernel
theorem dX4_millOf_1 : decode cX4_millOf 1 = .ok (.iload_n 1, 1) := by decide +kernel
theorem dX4_millOf_2 : decode cX4_millOf 2 = .ok (.iconst 0, 1) := by decide +kernel
theorem dX4_millOf_3 : decode cX4_millOf 3 = .ok (.iconst 2, 1) := by decide +kernel
theorem dX4_millOf_4 : decode cX4_millOf 4 = .ok (.invokestatic 36, 3) := by decide +kernel
theorem dX4_millOf_7 : decode cX4_millOf 7 = .ok (.ifCond .ne 7, 3) := by decide +kernel
theorem dX4_millOf_10 : decode cX4_millOf 10 = .ok (.iconst 1, 1) := by decide +kernel
theorem dX4_millOf_11 : decode cX4_millOf 11 = .ok (.goto 17, 3) := by decide +kernel
theorem dX4_millOf_14 : decode cX4_millOf 14 = .ok (.iload_n 2, 1) := by decide +kernel
theorem dX4_millOf_15 : decode cX4_millOf 15 = .ok (.iconst 0, 1) := by decide +kernel
theorem dX4_millOf_16 : decode cX4_millOf 16 = .ok (.iconst 5, 1) := by decide +kernel
theorem dX4_millOf_17 : decode cX4_millOf 17 = .ok (.invokestatic 36, 3) := by decide +kernel
theorem dX4_millOf_20 : decode cX4_millOf 20 = .ok (.ifCond .eq 7, 3) := by decide +kernel
theorem dX4_millOf_23 : decode cX4_millOf 23 = .ok (.iconst 0, 1) := by decide +kernel
theorem dX4_millOf_24 : decode cX4_millOf 24 = .ok (.goto 4, 3) := by decide +kernel
theorem dX4_millOf_27 : decode cX4_millOf 27 = .ok (.iconst 2, 1) := by decide +kernel
theorem dX4_millOf_28 : decode cX4_millOf 28 = .ok (.putfield 29, 3) := by decide +kernel
theorem dX4_millOf_31 : decode cX4_millOf 31 = .ok (.aload_n 0, 1) := by decide +kernel
theorem dX4_millOf_32 : decode cX4_millOf 32 = .ok (.getfield 29, 3) := by decide +kernel
theorem dX4_millOf_35 : decode cX4_millOf 35 = .ok (.ifCond .le 7, 3) := by decide +kernel
theorem dX4_millOf_38 : decode cX4_millOf 38 = .ok (.iconst 0, 1) := by decide +kernel
theorem dX4_millOf_39 : decode cX4_millOf 39 = .ok (.goto 9, 3) := by decide +kernel
end
section
theorem dX4_millOf_42 : decode cX4_millOf 42 = .ok (.aload_n 0, 1) := by decide +kernel
theorem dX4_millOf_43 : decode cX4_millOf 43 = .ok (.iload_n 1, 1) := by decide +kernel
theorem dX4_millOf_44 : decode cX4_millOf 44 = .ok (.iload_n 2, 1) := by decide +kernel
theorem dX4_millOf_45 : decode cX4_millOf 45 = .ok (.invokevirtual 131, 3) := by decide +kernel
theorem dX4_millOf_48 : decode cX4_millOf 48 = .ok (.ireturn, 1) := by decide +kernel
theorem dX4_waitingOf_0 : decode cX4_waitingOf 0 = .ok (.iconst 0, 1) := by decide +kernel
theorem dX4_waitingOf_1 : decode cX4_waitingOf 1 = .ok (.istore_n 2, 1) := by decide +kernel
theorem dX4_waitingOf_2 : decode cX4_waitingOf 2 = .ok (.iconst 0, 1) := by decide +kernel
theorem dX4_waitingOf_3 : decode cX4_waitingOf 3 = .ok (.istore_n 3, 1) := by decide +kernel
theorem dX4_waitingOf_4 : decode cX4_waitingOf 4 = .ok (.iload_n 3, 1) := by decide +kernel
theorem dX4_waitingOf_5 : decode cX4_waitingOf 5 = .ok (.iconst 3, 1) := by decide +kernel
theorem dX4_waitingOf_6 : decode cX4_waitingOf 6 = .ok (.if_icmp .ge 64, 3) := by decide +kernel
theorem dX4_waitingOf_9 : decode cX4_waitingOf 9 = .ok (.iconst 0, 1) := by decide +kernel
theorem dX4_waitingOf_10 : decode cX4_waitingOf 10 = .ok (.istore 4, 2) := by decide +kernel
theorem dX4_waitingOf_12 : decode cX4_waitingOf 12 = .ok (.iload 4, 2) := by decide +kernel
theorem dX4_waitingOf_14 : decode cX4_waitingOf 14 = .ok (.aload_n 0, 1) := by decide +kernel
theorem dX4_waitingOf_15 : decode cX4_waitingOf 15 = .ok (.iload_n 3, 1) := by decide +kernel
theorem dX4_waitingOf_16 : decode cX4_waitingOf 16 = .ok (.iconst 1, 1) := by decide +kernel
theorem dX4_waitingOf_17 : decode cX4_waitingOf 17 = .ok (.invokevirtual 62, 3) := by decide +kernel
theorem dX4_waitingOf_20 : decode cX4_waitingOf 20 = .ok (.if_icmp .ge 44, 3) := by decide +kernel
theorem dX4_waitingOf_23 : decode cX4_waitingOf 23 = .ok (.iload_n 2, 1) := by decide +kernel
theorem dX4_waitingOf_24 : decode cX4_waitingOf 24 = .ok (.aload_n 0, 1) := by decide +kernel
theorem dX4_waitingOf_25 : decode cX4_waitingOf 25 = .ok (.iload_n 3, 1) := by decide +kernel
theorem dX4_waitingOf_26 : decode cX4_waitingOf 26 = .ok (.iconst 3, 1) := by decide +kernel
theorem dX4_waitingOf_27 : decode cX4_waitingOf 27 = .ok (.iconst 2, 1) := by decide +kernel
theorem dX4_waitingOf_28 : decode cX4_waitingOf 28 = .ok (.iload 4, 2) := by decide +kernel
theorem dX4_waitingOf_30 : decode cX4_waitingOf 30 = .ok (.imul, 1) := by decide +kernel
theorem dX4_waitingOf_31 : decode cX4_waitingOf 31 = .ok (.iadd, 1) := by decide +kernel
theorem dX4_waitingOf_32 : decode cX4_waitingOf 32 = .ok (.invokevirtual 62, 3) := by decide +kernel
theorem dX4_waitingOf_35 : decode cX4_waitingOf 35 = .ok (.iload_n 1, 1) := by decide +kernel
theorem dX4_waitingOf_36 : decode cX4_waitingOf 36 = .ok (.if_icmp .ne 19, 3) := by decide +kernel
theorem dX4_waitingOf_39 : decode cX4_waitingOf 39 = .ok (.aload_n 0, 1) := by decide +kernel
theorem dX4_waitingOf_40 : decode cX4_waitingOf 40 = .ok (.iload_n 3, 1) := by decide +kernel
theorem dX4_waitingOf_41 : decode cX4_waitingOf 41 = .ok (.iconst 3, 1) := by decide +kernel
theorem dX4_waitingOf_42 : decode cX4_waitingOf 42 = .ok (.iconst 2, 1) := by decide +kernel
theorem dX4_waitingOf_43 : decode cX4_waitingOf 43 = .ok (.iload 4, 2) := by decide +kernel
theorem dX4_waitingOf_45 : decode cX4_waitingOf 45 = .ok (.imul, 1) := by decide +kernel
theorem dX4_waitingOf_46 : decode cX4_waitingOf 46 = .ok (.iadd, 1) := by decide +kernel
theorem dX4_waitingOf_47 : decode cX4_waitingOf 47 = .ok (.iconst 1, 1) := by decide +kernel
theorem dX4_waitingOf_48 : decode cX4_waitingOf 48 = .ok (.iadd, 1) := by decide +kernel
theorem dX4_waitingOf_49 : decode cX4_waitingOf 49 = .ok (.invokevirtual 62, 3) := by decide +kernel
theorem dX4_waitingOf_52 : decode cX4_waitingOf 52 = .ok (.goto 4, 3) := by decide +kernel
theorem dX4_waitingOf_55 : decode cX4_waitingOf 55 = .ok (.iconst 0, 1) := by decide +kernel
theorem dX4_waitingOf_56 : decode cX4_waitingOf 56 = .ok (.iadd, 1) := by decide +kernel
theorem dX4_waitingOf_57 : decode cX4_waitingOf 57 = .ok (.istore_n 2, 1) := by decide +kernel
theorem dX4_waitingOf_58 : decode cX4_waitingOf 58 = .ok (.iinc 4 1, 3) := by decide +kernel
theorem dX4_waitingOf_61 : decode cX4_waitingOf 61 = .ok (.goto (-49), 3) := by decide +kernel
theorem dX4_waitingOf_64 : decode cX4_waitingOf 64 = .ok (.iinc 3 1, 3) := by decide +kernel
theorem dX4_waitingOf_67 : decode cX4_waitingOf 67 = .ok (.goto (-63), 3) := by decide +kernel
theorem dX4_waitingOf_70 : decode cX4_waitingOf 70 = .ok (.iload_n 2, 1) := by decide +kernel
theorem dX4_waitingOf_71 : decode cX4_waitingOf 71 = .ok (.ireturn, 1) := by decide +kernel
theorem dX4_ownerNow_0 : decode cX4_ownerNow 0 = .ok (.iload_n 2, 1) := by decide +kernel
theorem dX4_ownerNow_1 : decode cX4_ownerNow 1 = .ok (.ifCond .ne 11, 3) := by decide +kernel
theorem dX4_ownerNow_4 : decode cX4_ownerNow 4 = .ok (.aload_n 0, 1) := by decide +kernel
theorem dX4_ownerNow_5 : decode cX4_ownerNow 5 = .ok (.iload_n 1, 1) := by decide +kernel
theorem dX4_ownerNow_6 : decode cX4_ownerNow 6 = .ok (.invokevirtual 134, 3) := by decide +kernel
theorem dX4_ownerNow_9 : decode cX4_ownerNow 9 = .ok (.goto 11, 3) := by decide +kernel
theorem dX4_ownerNow_12 : decode cX4_ownerNow 12 = .ok (.aload_n 0, 1) := by decide +kernel
theorem dX4_ownerNow_13 : decode cX4_ownerNow 13 = .ok (.iload_n 1, 1) := by decide +kernel
theorem dX4_ownerNow_14 : decode cX4_ownerNow 14 = .ok (.iload_n 2, 1) := by decide +kernel
theorem dX4_ownerNow_15 : decode cX4_ownerNow 15 = .ok (.iconst 1, 1) := by decide +kernel
theorem dX4_ownerNow_16 : decode cX4_ownerNow 16 = .ok (.isub, 1) := by decide +kernel
theorem dX4_ownerNow_17 : decode cX4_ownerNow 17 = .ok (.invokevirtual 137, 3) := by decide +kernel
theorem dX4_ownerNow_20 : decode cX4_ownerNow 20 = .ok (.ireturn, 1) := by decide +kernel
theorem dX4_ownerOf_0 : decode cX4_ownerOf 0 = .ok (.aload_n 0, 1) := by decide +kernel
theorem dX4_ownerOf_1 : decode cX4_ownerOf 1 = .ok (.iload_n 1, 1) := by decide +kernel
theorem dX4_ownerOf_2 : decode cX4_ownerOf 2 = .ok (.iconst 0, 1) := by decide +kernel
theorem dX4_ownerOf_3 : decode cX4_ownerOf 3 = .ok (.iconst 4, 1) := by decide +kernel
theorem dX4_ownerOf_4 : decode cX4_ownerOf 4 = .ok (.invokestatic 36, 3) := by decide +kernel
theorem dX4_ownerOf_7 : decode cX4_ownerOf 7 = .ok (.ifCond .ne 7, 3) := by decide +kernel
theorem dX4_ownerOf_10 : decode cX4_ownerOf 10 = .ok (.iconst 1, 1) := by decide +kernel
theorem dX4_ownerOf_11 : decode cX4_ownerOf 11 = .ok (.goto 17, 3) := by decide +kernel
theorem dX4_ownerOf_14 : decode cX4_ownerOf 14 = .ok (.iload_n 2, 1) := by decide +kernel
theorem dX4_ownerOf_15 : decode cX4_ownerOf 15 = .ok (.iconst 0, 1) := by decide +kernel
theorem dX4_ownerOf_16 : decode cX4_ownerOf 16 = .ok (.iconst 3, 1) := by decide +kernel
theorem dX4_ownerOf_17 : decode cX4_ownerOf 17 = .ok (.invokestatic 36, 3) := by decide +kernel
theorem dX4_ownerOf_20 : decode cX4_ownerOf 20 = .ok (.ifCond .eq 7, 3) := by decide +kernel
theorem dX4_ownerOf_23 : decode cX4_ownerOf 23 = .ok (.iconst 0, 1) := by decide +kernel
theorem dX4_ownerOf_24 : decode cX4_ownerOf 24 = .ok (.goto 4, 3) := by decide +kernel
theorem dX4_ownerOf_27 : decode cX4_ownerOf 27 = .ok (.iconst 2, 1) := by decide +kernel
theorem dX4_ownerOf_28 : decode cX4_ownerOf 28 = .ok (.putfield 29, 3) := by decide +kernel
theorem dX4_ownerOf_31 : decode cX4_ownerOf 31 = .ok (.aload_n 0, 1) := by decide +kernel
theorem dX4_ownerOf_32 : decode cX4_ownerOf 32 = .ok (.getfield 29, 3) := by decide +kernel
theorem dX4_ownerOf_35 : decode cX4_ownerOf 35 = .ok (.ifCond .le 7, 3) := by decide +kernel
theorem dX4_ownerOf_38 : decode cX4_ownerOf 38 = .ok (.iconst 0, 1) := by decide +kernel
theorem dX4_ownerOf_39 : decode cX4_ownerOf 39 = .ok (.goto 9, 3) := by decide +kernel
theorem dX4_ownerOf_42 : decode cX4_ownerOf 42 = .ok (.aload_n 0, 1) := by decide +kernel
theorem dX4_ownerOf_43 : decode cX4_ownerOf 43 = .ok (.iload_n 1, 1) := by decide +kernel
theorem dX4_ownerOf_44 : decode cX4_ownerOf 44 = .ok (.iload_n 2, 1) := by decide +kernel
theorem dX4_ownerOf_45 : decode cX4_ownerOf 45 = .ok (.invokevirtual 140, 3) := by decide +kernel
theorem dX4_ownerOf_48 : decode cX4_ownerOf 48 = .ok (.ireturn, 1) := by decide +kernel
theorem dX4_allFlour_0 : decode cX4_allFlour 0 = .ok (.iconst 0, 1) := by decide +kernel
theorem dX4_allFlour_1 : decode cX4_allFlour 1 = .ok (.istore_n 1, 1) := by decide +kernel
theorem dX4_allFlour_2 : decode cX4_allFlour 2 = .ok (.iconst 0, 1) := by decide +kernel
theorem dX4_allFlour_3 : decode cX4_allFlour 3 = .ok (.istore_n 2, 1) := by decide +kernel
theorem dX4_allFlour_4 : decode cX4_allFlour 4 = .ok (.iload_n 2, 1) := by decide +kernel
theorem dX4_allFlour_5 : decode cX4_allFlour 5 = .ok (.iconst 5, 1) := by decide +kernel
theorem dX4_allFlour_6 : decode cX4_allFlour 6 = .ok (.if_icmp .ge 18, 3) := by decide +kernel
theorem dX4_allFlour_9 : decode cX4_allFlour 9 = .ok (.iload_n 1, 1) := by decide +kernel
theorem dX4_allFlour_10 : decode cX4_allFlour 10 = .ok (.aload_n 0, 1) := by decide +kernel
theorem dX4_allFlour_11 : decode cX4_allFlour 11 = .ok (.iload_n 2, 1) := by decide +kernel
theorem dX4_allFlour_12 : decode cX4_allFlour 12 = .ok (.iconst 0, 1) := by decide +kernel
theorem dX4_allFlour_13 : decode cX4_allFlour 13 = .ok (.invokevirtual 137, 3) := by decide +kernel
theorem dX4_allFlour_16 : decode cX4_allFlour 16 = .ok (.iadd, 1) := by decide +kernel
theorem dX4_allFlour_17 : decode cX4_allFlour 17 = .ok (.istore_n 1, 1) := by decide +kernel
theorem dX4_allFlour_18 : decode cX4_allFlour 18 = .ok (.iinc 2 1, 3) := by decide +kernel
theorem dX4_allFlour_21 : decode cX4_allFlour 21 = .ok (.goto (-17), 3) := by decide +kernel
theorem dX4_allFlour_24 : decode cX4_allFlour 24 = .ok (.iload_n 1, 1) := by decide +kernel
theorem dX4_allFlour_25 : decode cX4_allFlour 25 = .ok (.ireturn, 1) := by decide +kernel
theorem dX4_countNow_0 : decode cX4_countNow 0 = .ok (.iload_n 1, 1) := by decide +kernel
theorem dX4_countNow_1 : decode cX4_countNow 1 = .ok (.tableswitch 116 0 7 #[47, 56, 65, 74, 79, 84, 102, 107], 47) := by decide +kernel
theorem dX4_countNow_48 : decode cX4_countNow 48 = .ok (.aload_n 0, 1) := by decide +kernel
theorem dX4_countNow_49 : decode cX4_countNow 49 = .ok (.getfield 7, 3) := by decide +kernel
theorem dX4_countNow_52 : decode cX4_countNow 52 = .ok (.sipush 146, 3) := by decide +kernel
theorem dX4_countNow_55 : decode cX4_countNow 55 = .ok (.iaload, 1) := by decide +kernel
theorem dX4_countNow_56 : decode cX4_countNow 56 = .ok (.ireturn, 1) := by decide +kernel
theorem dX4_countNow_57 : decode cX4_countNow 57 = .ok (.aload_n 0, 1) := by decide +kernel
theorem dX4_countNow_58 : decode cX4_countNow 58 = .ok (.getfield 7, 3) := by decide +kernel
theorem dX4_countNow_61 : decode cX4_countNow 61 = .ok (.sipush 147, 3) := by decide +kernel
theorem dX4_countNow_64 : decode cX4_countNow 64 = .ok (.iaload, 1) := by decide +kernel
theorem dX4_countNow_65 : decode cX4_countNow 65 = .ok (.ireturn, 1) := by decide +kernel
theorem dX4_countNow_66 : decode cX4_countNow 66 = .ok (.aload_n 0, 1) := by decide +kernel
theorem dX4_countNow_67 : decode cX4_countNow 67 = .ok (.getfield 7, 3) := by decide +kernel
theorem dX4_countNow_70 : decode cX4_countNow 70 = .ok (.sipush 148, 3) := by decide +kernel
theorem dX4_countNow_73 : decode cX4_countNow 73 = .ok (.iaload, 1) := by decide +kernel
theorem dX4_countNow_74 : decode cX4_countNow 74 = .ok (.ireturn, 1) := by decide +kernel
theorem dX4_countNow_75 : decode cX4_countNow 75 = .ok (.aload_n 0, 1) := by decide +kernel
theorem dX4_countNow_76 : decode cX4_countNow 76 = .ok (.invokevirtual 51, 3) := by decide +kernel
theorem dX4_countNow_79 : decode cX4_countNow 79 = .ok (.ireturn, 1) := by decide +kernel
theorem dX4_countNow_80 : decode cX4_countNow 80 = .ok (.aload_n 0, 1) := by decide +kernel
theorem dX4_countNow_81 : decode cX4_countNow 81 = .ok (.invokevirtual 113, 3) := by decide +kernel
theorem dX4_countNow_84 : decode cX4_countNow 84 = .ok (.ireturn, 1) := by decide +kernel
theorem dX4_countNow_85 : decode cX4_countNow 85 = .ok (.aload_n 0, 1) := by decide +kernel
theorem dX4_countNow_86 : decode cX4_countNow 86 = .ok (.iconst 0, 1) := by decide +kernel
theorem dX4_countNow_87 : decode cX4_countNow 87 = .ok (.invokevirtual 91, 3) := by decide +kernel
theorem dX4_countNow_90 : decode cX4_countNow 90 = .ok (.aload_n 0, 1) := by decide +kernel
theorem dX4_countNow_91 : decode cX4_countNow 91 = .ok (.iconst 1, 1) := by decide +kernel
theorem dX4_countNow_92 : decode cX4_countNow 92 = .ok (.invokevirtual 91, 3) := by decide +kernel
theorem dX4_countNow_95 : decode cX4_countNow 95 = .ok (.iadd, 1) := by decide +kernel
theorem dX4_countNow_96 : decode cX4_countNow 96 = .ok (.aload_n 0, 1) := by decide +kernel
theorem dX4_countNow_97 : decode cX4_countNow 97 = .ok (.iconst 2, 1) := by decide +kernel
theorem dX4_countNow_98 : decode cX4_countNow 98 = .ok (.invokevirtual 91, 3) := by decide +kernel
theorem dX4_countNow_101 : decode cX4_countNow 101 = .ok (.iadd, 1) := by decide +kernel
theorem dX4_countNow_102 : decode cX4_countNow 102 = .ok (.ireturn, 1) := by decide +kernel
theorem dX4_countNow_103 : decode cX4_countNow 103 = .ok (.aload_n 0, 1) := by decide +kernel
theorem dX4_countNow_104 : decode cX4_countNow 104 = .ok (.invokevirtual 143, 3) := by decide +kernel
theorem dX4_countNow_107 : decode cX4_countNow 107 = .ok (.ireturn, 1) := by decide +kernel
theorem dX4_countNow_108 : decode cX4_countNow 108 = .ok (.aload_n 0, 1) := by decide +kernel
theorem dX4_countNow_109 : decode cX4_countNow 109 = .ok (.getfield 7, 3) := by decide +kernel
theorem dX4_countNow_112 : decode cX4_countNow 112 = .ok (.sipush 149, 3) := by decide +kernel
theorem dX4_countNow_115 : decode cX4_countNow 115 = .ok (.iaload, 1) := by decide +kernel
theorem dX4_countNow_116 : decode cX4_countNow 116 = .ok (.ireturn, 1) := by decide +kernel
theorem dX4_countNow_117 : decode cX4_countNow 117 = .ok (.aload_n 0, 1) := by decide +kernel
theorem dX4_countNow_118 : decode cX4_countNow 118 = .ok (.getfield 33, 3) := by decide +kernel
theorem dX4_countNow_121 : decode cX4_countNow 121 = .ok (.ireturn, 1) := by decide +kernel
theorem dX4_count_0 : decode cX4_count 0 = .ok (.aload_n 0, 1) := by decide +kernel
theorem dX4_count_1 : decode cX4_count 1 = .ok (.iload_n 1, 1) := by decide +kernel
theorem dX4_count_2 : decode cX4_count 2 = .ok (.iconst 0, 1) := by decide +kernel
theorem dX4_count_3 : decode cX4_count 3 = .ok (.bipush 8, 2) := by decide +kernel
theorem dX4_count_5 : decode cX4_count 5 = .ok (.invokestatic 36, 3) := by decide +kernel
theorem dX4_count_8 : decode cX4_count 8 = .ok (.ifCond .eq 7, 3) := by decide +kernel
theorem dX4_count_11 : decode cX4_count 11 = .ok (.iconst 0, 1) := by decide +kernel
theorem dX4_count_12 : decode cX4_count 12 = .ok (.goto 4, 3) := by decide +kernel
theorem dX4_count_15 : decode cX4_count 15 = .ok (.iconst 1, 1) := by decide +kernel
theorem dX4_count_16 : decode cX4_count 16 = .ok (.putfield 29, 3) := by decide +kernel
theorem dX4_count_19 : decode cX4_count 19 = .ok (.aload_n 0, 1) := by decide +kernel
theorem dX4_count_20 : decode cX4_count 20 = .ok (.getfield 29, 3) := by decide +kernel
theorem dX4_count_23 : decode cX4_count 23 = .ok (.ifCond .le 7, 3) := by decide +kernel
theorem dX4_count_26 : decode cX4_count 26 = .ok (.iconst 0, 1) := by decide +kernel
theorem dX4_count_27 : decode cX4_count 27 = .ok (.goto 8, 3) := by decide +kernel
theorem dX4_count_30 : decode cX4_count 30 = .ok (.aload_n 0, 1) := by decide +kernel
theorem dX4_count_31 : decode cX4_count 31 = .ok (.iload_n 1, 1) := by decide +kernel
theorem dX4_count_32 : decode cX4_count 32 = .ok (.invokevirtual 146, 3) := by decide +kernel
theorem dX4_count_35 : decode cX4_count 35 = .ok (.ireturn, 1) := by decide +kernel
theorem dX4_setting_0 : decode cX4_setting 0 = .ok (.aload_n 0, 1) := by decide +kernel
theorem dX4_setting_1 : decode cX4_setting 1 = .ok (.iload_n 1, 1) := by decide +kernel
theorem dX4_setting_2 : decode cX4_setting 2 = .ok (.iconst 0, 1) := by decide +kernel
theorem dX4_setting_3 : decode cX4_setting 3 = .ok (.iconst 1, 1) := by decide +kernel
theorem dX4_setting_4 : decode cX4_setting 4 = .ok (.invokestatic 36, 3) := by decide +kernel
theorem dX4_setting_7 : decode cX4_setting 7 = .ok (.ifCond .eq 7, 3) := by decide +kernel
theorem dX4_setting_10 : decode cX4_setting 10 = .ok (.iconst 0, 1) := by decide +kernel
theorem dX4_setting_11 : decode cX4_setting 11 = .ok (.goto 4, 3) := by decide +kernel
theorem dX4_setting_14 : decode cX4_setting 14 = .ok (.iconst 1, 1) := by decide +kernel
theorem dX4_setting_15 : decode cX4_setting 15 = .ok (.putfield 29, 3) := by decide +kernel
theorem dX4_setting_18 : decode cX4_setting 18 = .ok (.aload_n 0, 1) := by decide +kernel
theorem dX4_setting_19 : decode cX4_setting 19 = .ok (.getfield 29, 3) := by decide +kernel
theorem dX4_setting_22 : decode cX4_setting 22 = .ok (.ifCond .le 7, 3) := by decide +kernel
theorem dX4_setting_25 : decode cX4_setting 25 = .ok (.iconst 0, 1) := by decide +kernel
theorem dX4_setting_26 : decode cX4_setting 26 = .ok (.goto 12, 3) := by decide +kernel
theorem dX4_setting_29 : decode cX4_setting 29 = .ok (.aload_n 0, 1) := by decide +kernel
theorem dX4_setting_30 : decode cX4_setting 30 = .ok (.getfield 7, 3) := by decide +kernel
theorem dX4_setting_33 : decode cX4_setting 33 = .ok (.bipush 72, 2) := by decide +kernel
theorem dX4_setting_35 : decode cX4_setting 35 = .ok (.iload_n 1, 1) := by decide +kernel
theorem dX4_setting_36 : decode cX4_setting 36 = .ok (.iadd, 1) := by decide +kernel
theorem dX4_setting_37 : decode cX4_setting 37 = .ok (.iaload, 1) := by decide +kernel
theorem dX4_setting_38 : decode cX4_setting 38 = .ok (.ireturn, 1) := by decide +kernel
theorem dX4_doneNow_0 : decode cX4_doneNow 0 = .ok (.aload_n 0, 1) := by decide +kernel
theorem dX4_doneNow_1 : decode cX4_doneNow 1 = .ok (.iload_n 1, 1) := by decide +kernel
theorem dX4_doneNow_2 : decode cX4_doneNow 2 = .ok (.invokevirtual 91, 3) := by decide +kernel
theorem dX4_doneNow_5 : decode cX4_doneNow 5 = .ok (.istore_n 2, 1) := by decide +kernel
theorem dX4_doneNow_6 : decode cX4_doneNow 6 = .ok (.aload_n 0, 1) := by decide +kernel
theorem dX4_doneNow_7 : decode cX4_doneNow 7 = .ok (.iload_n 1, 1) := by decide +kernel
theorem dX4_doneNow_8 : decode cX4_doneNow 8 = .ok (.invokevirtual 128, 3) := by decide +kernel
theorem dX4_doneNow_11 : decode cX4_doneNow 11 = .ok (.istore_n 3, 1) := by decide +kernel
theorem dX4_doneNow_12 : decode cX4_doneNow 12 = .ok (.iload_n 2, 1) := by decide +kernel
theorem dX4_doneNow_13 : decode cX4_doneNow 13 = .ok (.ifCond .le 9, 3) := by decide +kernel
theorem dX4_doneNow_16 : decode cX4_doneNow 16 = .ok (.iload_n 3, 1) := by decide +kernel
theorem dX4_doneNow_17 : decode cX4_doneNow 17 = .ok (.ifCond .ne 5, 3) := by decide +kernel
theorem dX4_doneNow_20 : decode cX4_doneNow 20 = .ok (.iconst (-1), 1) := by decide +kernel
theorem dX4_doneNow_21 : decode cX4_doneNow 21 = .ok (.ireturn, 1) := by decide +kernel
theorem dX4_doneNow_22 : decode cX4_doneNow 22 = .ok (.iconst 0, 1) := by decide +kernel
theorem dX4_doneNow_23 : decode cX4_doneNow 23 = .ok (.istore 4, 2) := by decide +kernel
theorem dX4_doneNow_25 : decode cX4_doneNow 25 = .ok (.iload_n 2, 1) := by decide +kernel
theorem dX4_doneNow_26 : decode cX4_doneNow 26 = .ok (.ifCond .le 31, 3) := by decide +kernel
theorem dX4_doneNow_29 : decode cX4_doneNow 29 = .ok (.iload_n 2, 1) := by decide +kernel
theorem dX4_doneNow_30 : decode cX4_doneNow 30 = .ok (.aload_n 0, 1) := by decide +kernel
theorem dX4_doneNow_31 : decode cX4_doneNow 31 = .ok (.iload_n 1, 1) := by decide +kernel
theorem dX4_doneNow_32 : decode cX4_doneNow 32 = .ok (.aload_n 0, 1) := by decide +kernel
theorem dX4_doneNow_33 : decode cX4_doneNow 33 = .ok (.getfield 7, 3) := by decide +kernel
theorem dX4_doneNow_36 : decode cX4_doneNow 36 = .ok (.sipush 146, 3) := by decide +kernel
theorem dX4_doneNow_39 : decode cX4_doneNow 39 = .ok (.iaload, 1) := by decide +kernel
theorem dX4_doneNow_40 : decode cX4_doneNow 40 = .ok (.iload 4, 2) := by decide +kernel
theorem dX4_doneNow_42 : decode cX4_doneNow 42 = .ok (.iadd, 1) := by decide +kernel
theorem dX4_doneNow_43 : decode cX4_doneNow 43 = .ok (.bipush 24, 2) := by decide +kernel
theorem dX4_doneNow_45 : decode cX4_doneNow 45 = .ok (.irem, 1) := by decide +kernel
theorem dX4_doneNow_46 : decode cX4_doneNow 46 = .ok (.invokevirtual 65, 3) := by decide +kernel
theorem dX4_doneNow_49 : decode cX4_doneNow 49 = .ok (.isub, 1) := by decide +kernel
theorem dX4_doneNow_50 : decode cX4_doneNow 50 = .ok (.istore_n 2, 1) := by decide +kernel
theorem dX4_doneNow_51 : decode cX4_doneNow 51 = .ok (.iinc 4 1, 3) := by decide +kernel
theorem dX4_doneNow_54 : decode cX4_doneNow 54 = .ok (.goto (-29), 3) := by decide +kernel
theorem dX4_doneNow_57 : decode cX4_doneNow 57 = .ok (.iload 4, 2) := by decide +kernel
theorem dX4_doneNow_59 : decode cX4_doneNow 59 = .ok (.ireturn, 1) := by decide +kernel
theorem dX4_doneIn_0 : decode cX4_doneIn 0 = .ok (.aload_n 0, 1) := by decide +kernel
theorem dX4_doneIn_1 : decode cX4_doneIn 1 = .ok (.iload_n 1, 1) := by decide +kernel
theorem dX4_doneIn_2 : decode cX4_doneIn 2 = .ok (.iconst 0, 1) := by decide +kernel
theorem dX4_doneIn_3 : decode cX4_doneIn 3 = .ok (.iconst 2, 1) := by decide +kernel
theorem dX4_doneIn_4 : decode cX4_doneIn 4 = .ok (.invokestatic 36, 3) := by decide +kernel
theorem dX4_doneIn_7 : decode cX4_doneIn 7 = .ok (.ifCond .ne 7, 3) := by decide +kernel
theorem dX4_doneIn_10 : decode cX4_doneIn 10 = .ok (.iconst 1, 1) := by decide +kernel
theorem dX4_doneIn_11 : decode cX4_doneIn 11 = .ok (.goto 17, 3) := by decide +kernel
theorem dX4_doneIn_14 : decode cX4_doneIn 14 = .ok (.iload_n 2, 1) := by decide +kernel
theorem dX4_doneIn_15 : decode cX4_doneIn 15 = .ok (.iconst 0, 1) := by decide +kernel
theorem dX4_doneIn_16 : decode cX4_doneIn 16 = .ok (.iconst 1, 1) := by decide +kernel
theorem dX4_doneIn_17 : decode cX4_doneIn 17 = .ok (.invokestatic 36, 3) := by decide +kernel
theorem dX4_doneIn_20 : decode cX4_doneIn 20 = .ok (.ifCond .eq 7, 3) := by decide +kernel
theorem dX4_doneIn_23 : decode cX4_doneIn 23 = .ok (.iconst 0, 1) := by decide +kernel
theorem dX4_doneIn_24 : decode cX4_doneIn 24 = .ok (.goto 4, 3) := by decide +kernel
theorem dX4_doneIn_27 : decode cX4_doneIn 27 = .ok (.iconst 2, 1) := by decide +kernel
theorem dX4_doneIn_28 : decode cX4_doneIn 28 = .ok (.putfield 29, 3) := by decide +kernel
theorem dX4_doneIn_31 : decode cX4_doneIn 31 = .ok (.aload_n 0, 1) := by decide +kernel
theorem dX4_doneIn_32 : decode cX4_doneIn 32 = .ok (.getfield 29, 3) := by decide +kernel
theorem dX4_doneIn_35 : decode cX4_doneIn 35 = .ok (.ifCond .le 7, 3) := by decide +kernel
theorem dX4_doneIn_38 : decode cX4_doneIn 38 = .ok (.iconst 0, 1) := by decide +kernel
theorem dX4_doneIn_39 : decode cX4_doneIn 39 = .ok (.goto 8, 3) := by decide +kernel
theorem dX4_doneIn_42 : decode cX4_doneIn 42 = .ok (.aload_n 0, 1) := by decide +kernel
theorem dX4_doneIn_43 : decode cX4_doneIn 43 = .ok (.iload_n 1, 1) := by decide +kernel
theorem dX4_doneIn_44 : decode cX4_doneIn 44 = .ok (.invokevirtual 149, 3) := by decide +kernel
theorem dX4_doneIn_47 : decode cX4_doneIn 47 = .ok (.ireturn, 1) := by decide +kernel
theorem dX4_passed_0 : decode cX4_passed 0 = .ok (.aload_n 0, 1) := by decide +kernel
theorem dX4_passed_1 : decode cX4_passed 1 = .ok (.invokevirtual 152, 3) := by decide +kernel
theorem dX4_passed_4 : decode cX4_passed 4 = .ok (.aload_n 0, 1) := by decide +kernel
theorem dX4_passed_5 : decode cX4_passed 5 = .ok (.iload_n 1, 1) := by decide +kernel
theorem dX4_passed_6 : decode cX4_passed 6 = .ok (.iconst 0, 1) := by decide +kernel
theorem dX4_passed_7 : decode cX4_passed 7 = .ok (.invokevirtual 137, 3) := by decide +kernel
theorem dX4_passed_10 : decode cX4_passed 10 = .ok (.istore_n 3, 1) := by decide +kernel
theorem dX4_passed_11 : decode cX4_passed 11 = .ok (.aload_n 0, 1) := by decide +kernel
theorem dX4_passed_12 : decode cX4_passed 12 = .ok (.iload_n 2, 1) := by decide +kernel
theorem dX4_passed_13 : decode cX4_passed 13 = .ok (.invokevirtual 95, 3) := by decide +kernel
theorem dX4_passed_16 : decode cX4_passed 16 = .ok (.pop, 1) := by decide +kernel
theorem dX4_passed_17 : decode cX4_passed 17 = .ok (.aload_n 0, 1) := by decide +kernel
theorem dX4_passed_18 : decode cX4_passed 18 = .ok (.iload_n 1, 1) := by decide +kernel
theorem dX4_passed_19 : decode cX4_passed 19 = .ok (.iconst 0, 1) := by decide +kernel
theorem dX4_passed_20 : decode cX4_passed 20 = .ok (.invokevirtual 137, 3) := by decide +kernel
theorem dX4_passed_23 : decode cX4_passed 23 = .ok (.iload_n 3, 1) := by decide +kernel
theorem dX4_passed_24 : decode cX4_passed 24 = .ok (.isub, 1) := by decide +kernel
theorem dX4_passed_25 : decode cX4_passed 25 = .ok (.istore 4, 2) := by decide +kernel
theorem dX4_passed_27 : decode cX4_passed 27 = .ok (.aload_n 0, 1) := by decide +kernel
theorem dX4_passed_28 : decode cX4_passed 28 = .ok (.invokevirtual 155, 3) := by decide +kernel
theorem dX4_passed_31 : decode cX4_passed 31 = .ok (.iload 4, 2) := by decide +kernel
theorem dX4_passed_33 : decode cX4_passed 33 = .ok (.ireturn, 1) := by decide +kernel
theorem dX4_ifPassed_0 : decode cX4_ifPassed 0 = .ok (.aload_n 0, 1) := by decide +kernel
theorem dX4_ifPassed_1 : decode cX4_ifPassed 1 = .ok (.iload_n 1, 1) := by decide +kernel
theorem dX4_ifPassed_2 : decode cX4_ifPassed 2 = .ok (.iconst 0, 1) := by decide +kernel
theorem dX4_ifPassed_3 : decode cX4_ifPassed 3 = .ok (.iconst 4, 1) := by decide +kernel
theorem dX4_ifPassed_4 : decode cX4_ifPassed 4 = .ok (.invokestatic 36, 3) := by decide +kernel
theorem dX4_ifPassed_7 : decode cX4_ifPassed 7 = .ok (.ifCond .ne 7, 3) := by decide +kernel
theorem dX4_ifPassed_10 : decode cX4_ifPassed 10 = .ok (.iconst 1, 1) := by decide +kernel
theorem dX4_ifPassed_11 : decode cX4_ifPassed 11 = .ok (.goto 18, 3) := by decide +kernel
theorem dX4_ifPassed_14 : decode cX4_ifPassed 14 = .ok (.iload_n 2, 1) := by decide +kernel
theorem dX4_ifPassed_15 : decode cX4_ifPassed 15 = .ok (.iconst 1, 1) := by decide +kernel
theorem dX4_ifPassed_16 : decode cX4_ifPassed 16 = .ok (.bipush 99, 2) := by decide +kernel
theorem dX4_ifPassed_18 : decode cX4_ifPassed 18 = .ok (.invokestatic 36, 3) := by decide +kernel
theorem dX4_ifPassed_21 : decode cX4_ifPassed 21 = .ok (.ifCond .eq 7, 3) := by decide +kernel
theorem dX4_ifPassed_24 : decode cX4_ifPassed 24 = .ok (.iconst 0, 1) := by decide +kernel
theorem dX4_ifPassed_25 : decode cX4_ifPassed 25 = .ok (.goto 4, 3) := by decide +kernel
theorem dX4_ifPassed_28 : decode cX4_ifPassed 28 = .ok (.iconst 2, 1) := by decide +kernel
theorem dX4_ifPassed_29 : decode cX4_ifPassed 29 = .ok (.putfield 29, 3) := by decide +kernel
theorem dX4_ifPassed_32 : decode cX4_ifPassed 32 = .ok (.aload_n 0, 1) := by decide +kernel
theorem dX4_ifPassed_33 : decode cX4_ifPassed 33 = .ok (.getfield 29, 3) := by decide +kernel
theorem dX4_ifPassed_36 : decode cX4_ifPassed 36 = .ok (.ifCond .le 7, 3) := by decide +kernel
theorem dX4_ifPassed_39 : decode cX4_ifPassed 39 = .ok (.iconst 0, 1) := by decide +kernel
theorem dX4_ifPassed_40 : decode cX4_ifPassed 40 = .ok (.goto 9, 3) := by decide +kernel
theorem dX4_ifPassed_43 : decode cX4_ifPassed 43 = .ok (.aload_n 0, 1) := by decide +kernel
theorem dX4_ifPassed_44 : decode cX4_ifPassed 44 = .ok (.iload_n 1, 1) := by decide +kernel
theorem dX4_ifPassed_45 : decode cX4_ifPassed 45 = .ok (.iload_n 2, 1) := by decide +kernel
theorem dX4_ifPassed_46 : decode cX4_ifPassed 46 = .ok (.invokevirtual 158, 3) := by decide +kernel
theorem dX4_ifPassed_49 : decode cX4_ifPassed 49 = .ok (.ireturn, 1) := by decide +kernel
theorem dX4_turnsNow_0 : decode cX4_turnsNow 0 = .ok (.iconst 0, 1) := by decide +kernel
theorem dX4_turnsNow_1 : decode cX4_turnsNow 1 = .ok (.istore_n 1, 1) := by decide +kernel
theorem dX4_turnsNow_2 : decode cX4_turnsNow 2 = .ok (.iload_n 1, 1) := by decide +kernel
theorem dX4_turnsNow_3 : decode cX4_turnsNow 3 = .ok (.bipush 24, 2) := by decide +kernel
theorem dX4_turnsNow_5 : decode cX4_turnsNow 5 = .ok (.if_icmp .ge 31, 3) := by decide +kernel
theorem dX4_turnsNow_8 : decode cX4_turnsNow 8 = .ok (.aload_n 0, 1) := by decide +kernel
theorem dX4_turnsNow_9 : decode cX4_turnsNow 9 = .ok (.aload_n 0, 1) := by decide +kernel
theorem dX4_turnsNow_10 : decode cX4_turnsNow 10 = .ok (.getfield 7, 3) := by decide +kernel
theorem dX4_turnsNow_13 : decode cX4_turnsNow 13 = .ok (.sipush 146, 3) := by decide +kernel
theorem dX4_turnsNow_16 : decode cX4_turnsNow 16 = .ok (.iaload, 1) := by decide +kernel
theorem dX4_turnsNow_17 : decode cX4_turnsNow 17 = .ok (.iload_n 1, 1) := by decide +kernel
theorem dX4_turnsNow_18 : decode cX4_turnsNow 18 = .ok (.iadd, 1) := by decide +kernel
theorem dX4_turnsNow_19 : decode cX4_turnsNow 19 = .ok (.bipush 24, 2) := by decide +kernel
theorem dX4_turnsNow_21 : decode cX4_turnsNow 21 = .ok (.irem, 1) := by decide +kernel
theorem dX4_turnsNow_22 : decode cX4_turnsNow 22 = .ok (.invokevirtual 59, 3) := by decide +kernel
theorem dX4_turnsNow_25 : decode cX4_turnsNow 25 = .ok (.ifCond .ne 5, 3) := by decide +kernel
theorem dX4_turnsNow_28 : decode cX4_turnsNow 28 = .ok (.iload_n 1, 1) := by decide +kernel
theorem dX4_turnsNow_29 : decode cX4_turnsNow 29 = .ok (.ireturn, 1) := by decide +kernel
theorem dX4_turnsNow_30 : decode cX4_turnsNow 30 = .ok (.iinc 1 1, 3) := by decide +kernel
theorem dX4_turnsNow_33 : decode cX4_turnsNow 33 = .ok (.goto (-31), 3) := by decide +kernel
theorem dX4_turnsNow_36 : decode cX4_turnsNow 36 = .ok (.iconst (-1), 1) := by decide +kernel
theorem dX4_turnsNow_37 : decode cX4_turnsNow 37 = .ok (.ireturn, 1) := by decide +kernel
theorem dX4_turnsIn_0 : decode cX4_turnsIn 0 = .ok (.aload_n 0, 1) := by decide +kernel
theorem dX4_turnsIn_1 : decode cX4_turnsIn 1 = .ok (.iconst 0, 1) := by decide +kernel
theorem dX4_turnsIn_2 : decode cX4_turnsIn 2 = .ok (.putfield 29, 3) := by decide +kernel
theorem dX4_turnsIn_5 : decode cX4_turnsIn 5 = .ok (.aload_n 0, 1) := by decide +kernel
theorem dX4_turnsIn_6 : decode cX4_turnsIn 6 = .ok (.invokevirtual 161, 3) := by decide +kernel
theorem dX4_turnsIn_9 : decode cX4_turnsIn 9 = .ok (.ireturn, 1) := by decide +kernel
theorem dX4_findMain_0 : decode cX4_findMain 0 = .ok (.iconst 0, 1) := by decide +kernel
theorem dX4_findMain_1 : decode cX4_findMain 1 = .ok (.istore_n 1, 1) := by decide +kernel
theorem dX4_findMain_2 : decode cX4_findMain 2 = .ok (.iconst 1, 1) := by decide +kernel
theorem dX4_findMain_3 : decode cX4_findMain 3 = .ok (.istore_n 2, 1) := by decide +kernel
theorem dX4_findMain_4 : decode cX4_findMain 4 = .ok (.iload_n 2, 1) := by decide +kernel
theorem dX4_findMain_5 : decode cX4_findMain 5 = .ok (.bipush 6, 2) := by decide +kernel
theorem dX4_findMain_7 : decode cX4_findMain 7 = .ok (.if_icmp .ge 28, 3) := by decide +kernel
theorem dX4_findMain_10 : decode cX4_findMain 10 = .ok (.aload_n 0, 1) := by decide +kernel
theorem dX4_findMain_11 : decode cX4_findMain 11 = .ok (.iload_n 2, 1) := by decide +kernel
theorem dX4_findMain_12 : decode cX4_findMain 12 = .ok (.invokevirtual 122, 3) := by decide +kernel
theorem dX4_findMain_15 : decode cX4_findMain 15 = .ok (.aload_n 0, 1) := by decide +kernel
theorem dX4_findMain_16 : decode cX4_findMain 16 = .ok (.iload_n 1, 1) := by decide +kernel
theorem dX4_findMain_17 : decode cX4_findMain 17 = .ok (.invokevirtual 122, 3) := by decide +kernel
theorem dX4_findMain_20 : decode cX4_findMain 20 = .ok (.if_icmp .le 7, 3) := by decide +kernel
theorem dX4_findMain_23 : decode cX4_findMain 23 = .ok (.iload_n 2, 1) := by decide +kernel
theorem dX4_findMain_24 : decode cX4_findMain 24 = .ok (.goto 4, 3) := by decide +kernel
theorem dX4_findMain_27 : decode cX4_findMain 27 = .ok (.iload_n 1, 1) := by decide +kernel
theorem dX4_findMain_28 : decode cX4_findMain 28 = .ok (.istore_n 1, 1) := by decide +kernel
theorem dX4_findMain_29 : decode cX4_findMain 29 = .ok (.iinc 2 1, 3) := by decide +kernel
theorem dX4_findMain_32 : decode cX4_findMain 32 = .ok (.goto (-28), 3) := by decide +kernel
theorem dX4_findMain_35 : decode cX4_findMain 35 = .ok (.iload_n 1, 1) := by decide +kernel
theorem dX4_findMain_36 : decode cX4_findMain 36 = .ok (.ireturn, 1) := by decide +kernel
theorem dX4_mainVane_0 : decode cX4_mainVane 0 = .ok (.aload_n 0, 1) := by decide +kernel
theorem dX4_mainVane_1 : decode cX4_mainVane 1 = .ok (.iconst 0, 1) := by decide +kernel
theorem dX4_mainVane_2 : decode cX4_mainVane 2 = .ok (.putfield 29, 3) := by decide +kernel
theorem dX4_mainVane_5 : decode cX4_mainVane 5 = .ok (.aload_n 0, 1) := by decide +kernel
theorem dX4_mainVane_6 : decode cX4_mainVane 6 = .ok (.invokevirtual 164, 3) := by decide +kernel
theorem dX4_mainVane_9 : decode cX4_mainVane 9 = .ok (.ireturn, 1) := by decide +kernel
theorem dX4_turnShare_0 : decode cX4_turnShare 0 = .ok (.aload_n 0, 1) := by decide +kernel
theorem dX4_turnShare_1 : decode cX4_turnShare 1 = .ok (.iconst 0, 1) := by decide +kernel
theorem dX4_turnShare_2 : decode cX4_turnShare 2 = .ok (.putfield 29, 3) := by decide +kernel
theorem dX4_turnShare_5 : decode cX4_turnShare 5 = .ok (.aload_n 0, 1) := by decide +kernel
theorem dX4_turnShare_6 : decode cX4_turnShare 6 = .ok (.invokevirtual 113, 3) := by decide +kernel
theorem dX4_turnShare_9 : decode cX4_turnShare 9 = .ok (.i2d, 1) := by decide +kernel
theorem dX4_turnShare_10 : decode cX4_turnShare 10 = .ok (.ldc2_w 167, 3) := by decide +kernel
theorem dX4_turnShare_13 : decode cX4_turnShare 13 = .ok (.ddiv, 1) := by decide +kernel
theorem dX4_turnShare_14 : decode cX4_turnShare 14 = .ok (.dreturn, 1) := by decide +kernel
theorem dX4_digest_0 : decode cX4_digest 0 = .ok (.aload_n 0, 1) := by decide +kernel
theorem dX4_digest_1 : decode cX4_digest 1 = .ok (.iconst 0, 1) := by decide +kernel
theorem dX4_digest_2 : decode cX4_digest 2 = .ok (.putfield 29, 3) := by decide +kernel
theorem dX4_digest_5 : decode cX4_digest 5 = .ok (.ldc2_w 169, 3) := by decide +kernel
theorem dX4_digest_8 : decode cX4_digest 8 = .ok (.lstore_n 1, 1) := by decide +kernel
theorem dX4_digest_9 : decode cX4_digest 9 = .ok (.iconst 0, 1) := by decide +kernel
theorem dX4_digest_10 : decode cX4_digest 10 = .ok (.istore_n 3, 1) := by decide +kernel
theorem dX4_digest_11 : decode cX4_digest 11 = .ok (.iload_n 3, 1) := by decide +kernel
theorem dX4_digest_12 : decode cX4_digest 12 = .ok (.bipush 9, 2) := by decide +kernel
theorem dX4_digest_14 : decode cX4_digest 14 = .ok (.if_icmp .ge 22, 3) := by decide +kernel
theorem dX4_digest_17 : decode cX4_digest 17 = .ok (.ldc2_w 171, 3) := by decide +kernel
theorem dX4_digest_20 : decode cX4_digest 20 = .ok (.lload_n 1, 1) := by decide +kernel
theorem dX4_digest_21 : decode cX4_digest 21 = .ok (.lmul, 1) := by decide +kernel
theorem dX4_digest_22 : decode cX4_digest 22 = .ok (.aload_n 0, 1) := by decide +kernel
theorem dX4_digest_23 : decode cX4_digest 23 = .ok (.iload_n 3, 1) := by decide +kernel
theorem dX4_digest_24 : decode cX4_digest 24 = .ok (.invokevirtual 146, 3) := by decide +kernel
theorem dX4_digest_27 : decode cX4_digest 27 = .ok (.i2l, 1) := by decide +kernel
theorem dX4_digest_28 : decode cX4_digest 28 = .ok (.ladd, 1) := by decide +kernel
theorem dX4_digest_29 : decode cX4_digest 29 = .ok (.lstore_n 1, 1) := by decide +kernel
theorem dX4_digest_30 : decode cX4_digest 30 = .ok (.iinc 3 1, 3) := by decide +kernel
theorem dX4_digest_33 : decode cX4_digest 33 = .ok (.goto (-22), 3) := by decide +kernel
theorem dX4_digest_36 : decode cX4_digest 36 = .ok (.ldc2_w 171, 3) := by decide +kernel
theorem dX4_digest_39 : decode cX4_digest 39 = .ok (.ldc2_w 171, 3) := by decide +kernel
theorem dX4_digest_42 : decode cX4_digest 42 = .ok (.lload_n 1, 1) := by decide +kernel
theorem dX4_digest_43 : decode cX4_digest 43 = .ok (.lmul, 1) := by decide +kernel
theorem dX4_digest_44 : decode cX4_digest 44 = .ok (.aload_n 0, 1) := by decide +kernel
theorem dX4_digest_45 : decode cX4_digest 45 = .ok (.getfield 7, 3) := by decide +kernel
theorem dX4_digest_48 : decode cX4_digest 48 = .ok (.bipush 72, 2) := by decide +kernel
theorem dX4_digest_50 : decode cX4_digest 50 = .ok (.iaload, 1) := by decide +kernel
theorem dX4_digest_51 : decode cX4_digest 51 = .ok (.i2l, 1) := by decide +kernel
theorem dX4_digest_52 : decode cX4_digest 52 = .ok (.ladd, 1) := by decide +kernel
theorem dX4_digest_53 : decode cX4_digest 53 = .ok (.lmul, 1) := by decide +kernel
theorem dX4_digest_54 : decode cX4_digest 54 = .ok (.aload_n 0, 1) := by decide +kernel
theorem dX4_digest_55 : decode cX4_digest 55 = .ok (.getfield 7, 3) := by decide +kernel
theorem dX4_digest_58 : decode cX4_digest 58 = .ok (.bipush 73, 2) := by decide +kernel
theorem dX4_digest_60 : decode cX4_digest 60 = .ok (.iaload, 1) := by decide +kernel
theorem dX4_digest_61 : decode cX4_digest 61 = .ok (.i2l, 1) := by decide +kernel
theorem dX4_digest_62 : decode cX4_digest 62 = .ok (.ladd, 1) := by decide +kernel
theorem dX4_digest_63 : decode cX4_digest 63 = .ok (.lstore_n 1, 1) := by decide +kernel
theorem dX4_digest_64 : decode cX4_digest 64 = .ok (.iconst 0, 1) := by decide +kernel
theorem dX4_digest_65 : decode cX4_digest 65 = .ok (.istore_n 3, 1) := by decide +kernel
theorem dX4_digest_66 : decode cX4_digest 66 = .ok (.iload_n 3, 1) := by decide +kernel
theorem dX4_digest_67 : decode cX4_digest 67 = .ok (.bipush 120, 2) := by decide +kernel
theorem dX4_digest_69 : decode cX4_digest 69 = .ok (.if_icmp .ge 27, 3) := by decide +kernel
theorem dX4_digest_72 : decode cX4_digest 72 = .ok (.ldc2_w 171, 3) := by decide +kernel
theorem dX4_digest_75 : decode cX4_digest 75 = .ok (.lload_n 1, 1) := by decide +kernel
theorem dX4_digest_76 : decode cX4_digest 76 = .ok (.lmul, 1) := by decide +kernel
theorem dX4_digest_77 : decode cX4_digest 77 = .ok (.aload_n 0, 1) := by decide +kernel
theorem dX4_digest_78 : decode cX4_digest 78 = .ok (.iload_n 3, 1) := by decide +kernel
theorem dX4_digest_79 : decode cX4_digest 79 = .ok (.iconst 5, 1) := by decide +kernel
theorem dX4_digest_80 : decode cX4_digest 80 = .ok (.idiv, 1) := by decide +kernel
theorem dX4_digest_81 : decode cX4_digest 81 = .ok (.iload_n 3, 1) := by decide +kernel
theorem dX4_digest_82 : decode cX4_digest 82 = .ok (.iconst 5, 1) := by decide +kernel
theorem dX4_digest_83 : decode cX4_digest 83 = .ok (.irem, 1) := by decide +kernel
theorem dX4_digest_84 : decode cX4_digest 84 = .ok (.invokevirtual 116, 3) := by decide +kernel
theorem dX4_digest_87 : decode cX4_digest 87 = .ok (.i2l, 1) := by decide +kernel
theorem dX4_digest_88 : decode cX4_digest 88 = .ok (.ladd, 1) := by decide +kernel
theorem dX4_digest_89 : decode cX4_digest 89 = .ok (.lstore_n 1, 1) := by decide +kernel
theorem dX4_digest_90 : decode cX4_digest 90 = .ok (.iinc 3 1, 3) := by decide +kernel
theorem dX4_digest_93 : decode cX4_digest 93 = .ok (.goto (-27), 3) := by decide +kernel
theorem dX4_digest_96 : decode cX4_digest 96 = .ok (.iconst 0, 1) := by decide +kernel
theorem dX4_digest_97 : decode cX4_digest 97 = .ok (.istore_n 3, 1) := by decide +kernel
theorem dX4_digest_98 : decode cX4_digest 98 = .ok (.iload_n 3, 1) := by decide +kernel
theorem dX4_digest_99 : decode cX4_digest 99 = .ok (.bipush 36, 2) := by decide +kernel
theorem dX4_digest_101 : decode cX4_digest 101 = .ok (.if_icmp .ge 29, 3) := by decide +kernel
theorem dX4_digest_104 : decode cX4_digest 104 = .ok (.ldc2_w 171, 3) := by decide +kernel
theorem dX4_digest_107 : decode cX4_digest 107 = .ok (.lload_n 1, 1) := by decide +kernel
theorem dX4_digest_108 : decode cX4_digest 108 = .ok (.lmul, 1) := by decide +kernel
theorem dX4_digest_109 : decode cX4_digest 109 = .ok (.aload_n 0, 1) := by decide +kernel
theorem dX4_digest_110 : decode cX4_digest 110 = .ok (.iload_n 3, 1) := by decide +kernel
theorem dX4_digest_111 : decode cX4_digest 111 = .ok (.bipush 6, 2) := by decide +kernel
theorem dX4_digest_113 : decode cX4_digest 113 = .ok (.idiv, 1) := by decide +kernel
theorem dX4_digest_114 : decode cX4_digest 114 = .ok (.iload_n 3, 1) := by decide +kernel
theorem dX4_digest_115 : decode cX4_digest 115 = .ok (.bipush 6, 2) := by decide +kernel
theorem dX4_digest_117 : decode cX4_digest 117 = .ok (.irem, 1) := by decide +kernel
theorem dX4_digest_118 : decode cX4_digest 118 = .ok (.invokevirtual 125, 3) := by decide +kernel
theorem dX4_digest_121 : decode cX4_digest 121 = .ok (.i2l, 1) := by decide +kernel
theorem dX4_digest_122 : decode cX4_digest 122 = .ok (.ladd, 1) := by decide +kernel
theorem dX4_digest_123 : decode cX4_digest 123 = .ok (.lstore_n 1, 1) := by decide +kernel
theorem dX4_digest_124 : decode cX4_digest 124 = .ok (.iinc 3 1, 3) := by decide +kernel
theorem dX4_digest_127 : decode cX4_digest 127 = .ok (.goto (-29), 3) := by decide +kernel
theorem dX4_digest_130 : decode cX4_digest 130 = .ok (.iconst 0, 1) := by decide +kernel
theorem dX4_digest_131 : decode cX4_digest 131 = .ok (.istore_n 3, 1) := by decide +kernel
theorem dX4_digest_132 : decode cX4_digest 132 = .ok (.iload_n 3, 1) := by decide +kernel
theorem dX4_digest_133 : decode cX4_digest 133 = .ok (.iconst 3, 1) := by decide +kernel
theorem dX4_digest_134 : decode cX4_digest 134 = .ok (.if_icmp .ge 64, 3) := by decide +kernel
theorem dX4_digest_137 : decode cX4_digest 137 = .ok (.iconst 0, 1) := by decide +kernel
theorem dX4_digest_138 : decode cX4_digest 138 = .ok (.istore 4, 2) := by decide +kernel
theorem dX4_digest_140 : decode cX4_digest 140 = .ok (.iload 4, 2) := by decide +kernel
theorem dX4_digest_142 : decode cX4_digest 142 = .ok (.bipush 6, 2) := by decide +kernel
theorem dX4_digest_144 : decode cX4_digest 144 = .ok (.if_icmp .ge 24, 3) := by decide +kernel
theorem dX4_digest_147 : decode cX4_digest 147 = .ok (.ldc2_w 171, 3) := by decide +kernel
theorem dX4_digest_150 : decode cX4_digest 150 = .ok (.lload_n 1, 1) := by decide +kernel
theorem dX4_digest_151 : decode cX4_digest 151 = .ok (.lmul, 1) := by decide +kernel
theorem dX4_digest_152 : decode cX4_digest 152 = .ok (.aload_n 0, 1) := by decide +kernel
theorem dX4_digest_153 : decode cX4_digest 153 = .ok (.iload_n 3, 1) := by decide +kernel
theorem dX4_digest_154 : decode cX4_digest 154 = .ok (.iload 4, 2) := by decide +kernel
theorem dX4_digest_156 : decode cX4_digest 156 = .ok (.invokevirtual 131, 3) := by decide +kernel
theorem dX4_digest_159 : decode cX4_digest 159 = .ok (.i2l, 1) := by decide +kernel
theorem dX4_digest_160 : decode cX4_digest 160 = .ok (.ladd, 1) := by decide +kernel
theorem dX4_digest_161 : decode cX4_digest 161 = .ok (.lstore_n 1, 1) := by decide +kernel
theorem dX4_digest_162 : decode cX4_digest 162 = .ok (.iinc 4 1, 3) := by decide +kernel
theorem dX4_digest_165 : decode cX4_digest 165 = .ok (.goto (-25), 3) := by decide +kernel
theorem dX4_digest_168 : decode cX4_digest 168 = .ok (.ldc2_w 171, 3) := by decide +kernel
theorem dX4_digest_171 : decode cX4_digest 171 = .ok (.ldc2_w 171, 3) := by decide +kernel
theorem dX4_digest_174 : decode cX4_digest 174 = .ok (.lload_n 1, 1) := by decide +kernel
theorem dX4_digest_175 : decode cX4_digest 175 = .ok (.lmul, 1) := by decide +kernel
theorem dX4_digest_176 : decode cX4_digest 176 = .ok (.aload_n 0, 1) := by decide +kernel
theorem dX4_digest_177 : decode cX4_digest 177 = .ok (.iload_n 3, 1) := by decide +kernel
theorem dX4_digest_178 : decode cX4_digest 178 = .ok (.invokevirtual 149, 3) := by decide +kernel
theorem dX4_digest_181 : decode cX4_digest 181 = .ok (.i2l, 1) := by decide +kernel
theorem dX4_digest_182 : decode cX4_digest 182 = .ok (.ladd, 1) := by decide +kernel
theorem dX4_digest_183 : decode cX4_digest 183 = .ok (.lmul, 1) := by decide +kernel
theorem dX4_digest_184 : decode cX4_digest 184 = .ok (.aload_n 0, 1) := by decide +kernel
theorem dX4_digest_185 : decode cX4_digest 185 = .ok (.iload_n 3, 1) := by decide +kernel
theorem dX4_digest_186 : decode cX4_digest 186 = .ok (.invokevirtual 149, 3) := by decide +kernel
theorem dX4_digest_189 : decode cX4_digest 189 = .ok (.i2l, 1) := by decide +kernel
theorem dX4_digest_190 : decode cX4_digest 190 = .ok (.ladd, 1) := by decide +kernel
theorem dX4_digest_191 : decode cX4_digest 191 = .ok (.lstore_n 1, 1) := by decide +kernel
theorem dX4_digest_192 : decode cX4_digest 192 = .ok (.iinc 3 1, 3) := by decide +kernel
theorem dX4_digest_195 : decode cX4_digest 195 = .ok (.goto (-63), 3) := by decide +kernel
theorem dX4_digest_198 : decode cX4_digest 198 = .ok (.iconst 0, 1) := by decide +kernel
theorem dX4_digest_199 : decode cX4_digest 199 = .ok (.istore_n 3, 1) := by decide +kernel
theorem dX4_digest_200 : decode cX4_digest 200 = .ok (.iload_n 3, 1) := by decide +kernel
theorem dX4_digest_201 : decode cX4_digest 201 = .ok (.iconst 5, 1) := by decide +kernel
theorem dX4_digest_202 : decode cX4_digest 202 = .ok (.if_icmp .ge 54, 3) := by decide +kernel
theorem dX4_digest_205 : decode cX4_digest 205 = .ok (.iconst 0, 1) := by decide +kernel
theorem dX4_digest_206 : decode cX4_digest 206 = .ok (.istore 4, 2) := by decide +kernel
theorem dX4_digest_208 : decode cX4_digest 208 = .ok (.iload 4, 2) := by decide +kernel
theorem dX4_digest_210 : decode cX4_digest 210 = .ok (.iconst 4, 1) := by decide +kernel
theorem dX4_digest_211 : decode cX4_digest 211 = .ok (.if_icmp .ge 24, 3) := by decide +kernel
theorem dX4_digest_214 : decode cX4_digest 214 = .ok (.ldc2_w 171, 3) := by decide +kernel
theorem dX4_digest_217 : decode cX4_digest 217 = .ok (.lload_n 1, 1) := by decide +kernel
theorem dX4_digest_218 : decode cX4_digest 218 = .ok (.lmul, 1) := by decide +kernel
theorem dX4_digest_219 : decode cX4_digest 219 = .ok (.aload_n 0, 1) := by decide +kernel
theorem dX4_digest_220 : decode cX4_digest 220 = .ok (.iload_n 3, 1) := by decide +kernel
theorem dX4_digest_221 : decode cX4_digest 221 = .ok (.iload 4, 2) := by decide +kernel
theorem dX4_digest_223 : decode cX4_digest 223 = .ok (.invokevirtual 140, 3) := by decide +kernel
theorem dX4_digest_226 : decode cX4_digest 226 = .ok (.i2l, 1) := by decide +kernel
theorem dX4_digest_227 : decode cX4_digest 227 = .ok (.ladd, 1) := by decide +kernel
theorem dX4_digest_228 : decode cX4_digest 228 = .ok (.lstore_n 1, 1) := by decide +kernel
theorem dX4_digest_229 : decode cX4_digest 229 = .ok (.iinc 4 1, 3) := by decide +kernel
theorem dX4_digest_232 : decode cX4_digest 232 = .ok (.goto (-24), 3) := by decide +kernel
theorem dX4_digest_235 : decode cX4_digest 235 = .ok (.ldc2_w 171, 3) := by decide +kernel
theorem dX4_digest_238 : decode cX4_digest 238 = .ok (.lload_n 1, 1) := by decide +kernel
theorem dX4_digest_239 : decode cX4_digest 239 = .ok (.lmul, 1) := by decide +kernel
theorem dX4_digest_240 : decode cX4_digest 240 = .ok (.aload_n 0, 1) := by decide +kernel
theorem dX4_digest_241 : decode cX4_digest 241 = .ok (.iload_n 3, 1) := by decide +kernel
theorem dX4_digest_242 : decode cX4_digest 242 = .ok (.bipush 9, 2) := by decide +kernel
theorem dX4_digest_244 : decode cX4_digest 244 = .ok (.invokevirtual 158, 3) := by decide +kernel
theorem dX4_digest_247 : decode cX4_digest 247 = .ok (.i2l, 1) := by decide +kernel
theorem dX4_digest_248 : decode cX4_digest 248 = .ok (.ladd, 1) := by decide +kernel
theorem dX4_digest_249 : decode cX4_digest 249 = .ok (.lstore_n 1, 1) := by decide +kernel
theorem dX4_digest_250 : decode cX4_digest 250 = .ok (.iinc 3 1, 3) := by decide +kernel
theorem dX4_digest_253 : decode cX4_digest 253 = .ok (.goto (-53), 3) := by decide +kernel
theorem dX4_digest_256 : decode cX4_digest 256 = .ok (.ldc2_w 171, 3) := by decide +kernel
theorem dX4_digest_259 : decode cX4_digest 259 = .ok (.ldc2_w 171, 3) := by decide +kernel
theorem dX4_digest_262 : decode cX4_digest 262 = .ok (.lload_n 1, 1) := by decide +kernel
theorem dX4_digest_263 : decode cX4_digest 263 = .ok (.lmul, 1) := by decide +kernel
theorem dX4_digest_264 : decode cX4_digest 264 = .ok (.aload_n 0, 1) := by decide +kernel
theorem dX4_digest_265 : decode cX4_digest 265 = .ok (.invokevirtual 161, 3) := by decide +kernel
theorem dX4_digest_268 : decode cX4_digest 268 = .ok (.i2l, 1) := by decide +kernel
theorem dX4_digest_269 : decode cX4_digest 269 = .ok (.ladd, 1) := by decide +kernel
theorem dX4_digest_270 : decode cX4_digest 270 = .ok (.lmul, 1) := by decide +kernel
theorem dX4_digest_271 : decode cX4_digest 271 = .ok (.aload_n 0, 1) := by decide +kernel
theorem dX4_digest_272 : decode cX4_digest 272 = .ok (.invokevirtual 164, 3) := by decide +kernel
theorem dX4_digest_275 : decode cX4_digest 275 = .ok (.i2l, 1) := by decide +kernel
theorem dX4_digest_276 : decode cX4_digest 276 = .ok (.ladd, 1) := by decide +kernel
theorem dX4_digest_277 : decode cX4_digest 277 = .ok (.lstore_n 1, 1) := by decide +kernel
theorem dX4_digest_278 : decode cX4_digest 278 = .ok (.ldc2_w 171, 3) := by decide +kernel
theorem dX4_digest_281 : decode cX4_digest 281 = .ok (.lload_n 1, 1) := by decide +kernel
theorem dX4_digest_282 : decode cX4_digest 282 = .ok (.lmul, 1) := by decide +kernel
theorem dX4_digest_283 : decode cX4_digest 283 = .ok (.aload_n 0, 1) := by decide +kernel
theorem dX4_digest_284 : decode cX4_digest 284 = .ok (.invokevirtual 113, 3) := by decide +kernel
theorem dX4_digest_287 : decode cX4_digest 287 = .ok (.i2d, 1) := by decide +kernel
theorem dX4_digest_288 : decode cX4_digest 288 = .ok (.ldc2_w 167, 3) := by decide +kernel
theorem dX4_digest_291 : decode cX4_digest 291 = .ok (.ddiv, 1) := by decide +kernel
theorem dX4_digest_292 : decode cX4_digest 292 = .ok (.invokestatic 173, 3) := by decide +kernel
theorem dX4_digest_295 : decode cX4_digest 295 = .ok (.ladd, 1) := by decide +kernel
theorem dX4_digest_296 : decode cX4_digest 296 = .ok (.lstore_n 1, 1) := by decide +kernel
theorem dX4_digest_297 : decode cX4_digest 297 = .ok (.ldc2_w 171, 3) := by decide +kernel
theorem dX4_digest_300 : decode cX4_digest 300 = .ok (.ldc2_w 171, 3) := by decide +kernel
theorem dX4_digest_303 : decode cX4_digest 303 = .ok (.lload_n 1, 1) := by decide +kernel
theorem dX4_digest_304 : decode cX4_digest 304 = .ok (.lmul, 1) := by decide +kernel
theorem dX4_digest_305 : decode cX4_digest 305 = .ok (.aload_n 0, 1) := by decide +kernel
theorem dX4_digest_306 : decode cX4_digest 306 = .ok (.getfield 22, 3) := by decide +kernel
theorem dX4_digest_309 : decode cX4_digest 309 = .ok (.iconst 0, 1) := by decide +kernel
theorem dX4_digest_310 : decode cX4_digest 310 = .ok (.baload, 1) := by decide +kernel
theorem dX4_digest_311 : decode cX4_digest 311 = .ok (.ifCond .eq 7, 3) := by decide +kernel
theorem dX4_digest_314 : decode cX4_digest 314 = .ok (.iconst 1, 1) := by decide +kernel
theorem dX4_digest_315 : decode cX4_digest 315 = .ok (.goto 4, 3) := by decide +kernel
theorem dX4_digest_318 : decode cX4_digest 318 = .ok (.iconst 0, 1) := by decide +kernel
theorem dX4_digest_319 : decode cX4_digest 319 = .ok (.i2l, 1) := by decide +kernel
theorem dX4_digest_320 : decode cX4_digest 320 = .ok (.ladd, 1) := by decide +kernel
theorem dX4_digest_321 : decode cX4_digest 321 = .ok (.lmul, 1) := by decide +kernel
theorem dX4_digest_322 : decode cX4_digest 322 = .ok (.aload_n 0, 1) := by decide +kernel
theorem dX4_digest_323 : decode cX4_digest 323 = .ok (.getfield 22, 3) := by decide +kernel
theorem dX4_digest_326 : decode cX4_digest 326 = .ok (.iconst 1, 1) := by decide +kernel
theorem dX4_digest_327 : decode cX4_digest 327 = .ok (.baload, 1) := by decide +kernel
theorem dX4_digest_328 : decode cX4_digest 328 = .ok (.ifCond .eq 7, 3) := by decide +kernel
theorem dX4_digest_331 : decode cX4_digest 331 = .ok (.iconst 1, 1) := by decide +kernel
theorem dX4_digest_332 : decode cX4_digest 332 = .ok (.goto 4, 3) := by decide +kernel
theorem dX4_digest_335 : decode cX4_digest 335 = .ok (.iconst 0, 1) := by decide +kernel
theorem dX4_digest_336 : decode cX4_digest 336 = .ok (.i2l, 1) := by decide +kernel
theorem dX4_digest_337 : decode cX4_digest 337 = .ok (.ladd, 1) := by decide +kernel
theorem dX4_digest_338 : decode cX4_digest 338 = .ok (.lstore_n 1, 1) := by decide +kernel
theorem dX4_digest_339 : decode cX4_digest 339 = .ok (.ldc2_w 171, 3) := by decide +kernel
theorem dX4_digest_342 : decode cX4_digest 342 = .ok (.lload_n 1, 1) := by decide +kernel
theorem dX4_digest_343 : decode cX4_digest 343 = .ok (.lmul, 1) := by decide +kernel
theorem dX4_digest_344 : decode cX4_digest 344 = .ok (.aload_n 0, 1) := by decide +kernel
theorem dX4_digest_345 : decode cX4_digest 345 = .ok (.getfield 98, 3) := by decide +kernel
theorem dX4_digest_348 : decode cX4_digest 348 = .ok (.i2l, 1) := by decide +kernel
theorem dX4_digest_349 : decode cX4_digest 349 = .ok (.ladd, 1) := by decide +kernel
theorem dX4_digest_350 : decode cX4_digest 350 = .ok (.lstore_n 1, 1) := by decide +kernel
theorem dX4_digest_351 : decode cX4_digest 351 = .ok (.iconst 0, 1) := by decide +kernel
theorem dX4_digest_352 : decode cX4_digest 352 = .ok (.istore_n 3, 1) := by decide +kernel
theorem dX4_digest_353 : decode cX4_digest 353 = .ok (.iload_n 3, 1) := by decide +kernel
theorem dX4_digest_354 : decode cX4_digest 354 = .ok (.aload_n 0, 1) := by decide +kernel
theorem dX4_digest_355 : decode cX4_digest 355 = .ok (.getfield 98, 3) := by decide +kernel
theorem dX4_digest_358 : decode cX4_digest 358 = .ok (.if_icmp .ge 23, 3) := by decide +kernel
theorem dX4_digest_361 : decode cX4_digest 361 = .ok (.ldc2_w 171, 3) := by decide +kernel
theorem dX4_digest_364 : decode cX4_digest 364 = .ok (.lload_n 1, 1) := by decide +kernel
theorem dX4_digest_365 : decode cX4_digest 365 = .ok (.lmul, 1) := by decide +kernel
theorem dX4_digest_366 : decode cX4_digest 366 = .ok (.aload_n 0, 1) := by decide +kernel
theorem dX4_digest_367 : decode cX4_digest 367 = .ok (.getfield 26, 3) := by decide +kernel
theorem dX4_digest_370 : decode cX4_digest 370 = .ok (.iload_n 3, 1) := by decide +kernel
theorem dX4_digest_371 : decode cX4_digest 371 = .ok (.iaload, 1) := by decide +kernel
theorem dX4_digest_372 : decode cX4_digest 372 = .ok (.i2l, 1) := by decide +kernel
theorem dX4_digest_373 : decode cX4_digest 373 = .ok (.ladd, 1) := by decide +kernel
theorem dX4_digest_374 : decode cX4_digest 374 = .ok (.lstore_n 1, 1) := by decide +kernel
theorem dX4_digest_375 : decode cX4_digest 375 = .ok (.iinc 3 1, 3) := by decide +kernel
theorem dX4_digest_378 : decode cX4_digest 378 = .ok (.goto (-25), 3) := by decide +kernel
theorem dX4_digest_381 : decode cX4_digest 381 = .ok (.lload_n 1, 1) := by decide +kernel
theorem dX4_digest_382 : decode cX4_digest 382 = .ok (.lreturn, 1) := by decide +kernel
theorem dJxe99ae_isNaN_b9ae7_0 : decode cJxe99ae_isNaN_b9ae7 0 = .ok (.dload_n 0, 1) := by decide +kernel
theorem dJxe99ae_isNaN_b9ae7_1 : decode cJxe99ae_isNaN_b9ae7 1 = .ok (.dload_n 0, 1) := by decide +kernel
theorem dJxe99ae_isNaN_b9ae7_2 : decode cJxe99ae_isNaN_b9ae7 2 = .ok (.dcmp .l, 1) := by decide +kernel
theorem dJxe99ae_isNaN_b9ae7_3 : decode cJxe99ae_isNaN_b9ae7 3 = .ok (.ifCond .eq 7, 3) := by decide +kernel
theorem dJxe99ae_isNaN_b9ae7_6 : decode cJxe99ae_isNaN_b9ae7 6 = .ok (.iconst 1, 1) := by decide +kernel
theorem dJxe99ae_isNaN_b9ae7_7 : decode cJxe99ae_isNaN_b9ae7 7 = .ok (.goto 4, 3) := by decide +kernel
theorem dJxe99ae_isNaN_b9ae7_10 : decode cJxe99ae_isNaN_b9ae7 10 = .ok (.iconst 0, 1) := by decide +kernel
theorem dJxe99ae_isNaN_b9ae7_11 : decode cJxe99ae_isNaN_b9ae7 11 = .ok (.ireturn, 1) := by decide +kernel
theorem dJxe99ae_doubleToLongBits_ccdee_0 : decode cJxe99ae_doubleToLongBits_ccdee 0 = .ok (.dload_n 0, 1) := by decide +kernel
theorem dJxe99ae_doubleToLongBits_ccdee_1 : decode cJxe99ae_doubleToLongBits_ccdee 1 = .ok (.invokestatic 122, 3) := by decide +kernel
theorem dJxe99ae_doubleToLongBits_ccdee_4 : decode cJxe99ae_doubleToLongBits_ccdee 4 = .ok (.ifCond .ne 8, 3) := by decide +kernel
theorem dJxe99ae_doubleToLongBits_ccdee_7 : decode cJxe99ae_doubleToLongBits_ccdee 7 = .ok (.dload_n 0, 1) := by decide +kernel
theorem dJxe99ae_doubleToLongBits_ccdee_8 : decode cJxe99ae_doubleToLongBits_ccdee 8 = .ok (.invokestatic 134, 3) := by decide +kernel
theorem dJxe99ae_doubleToLongBits_ccdee_11 : decode cJxe99ae_doubleToLongBits_ccdee 11 = .ok (.lreturn, 1) := by decide +kernel
theorem dJxe99ae_doubleToLongBits_ccdee_12 : decode cJxe99ae_doubleToLongBits_ccdee 12 = .ok (.ldc2_w 137, 3) := by decide +kernel
theorem dJxe99ae_doubleToLongBits_ccdee_15 : decode cJxe99ae_doubleToLongBits_ccdee 15 = .ok (.lreturn, 1) := by decide +kernel
theorem dJ9_min_7cf53_0 : decode cJ9_min_7cf53 0 = .ok (.iload_n 0, 1) := by decide +kernel
theorem dJ9_min_7cf53_1 : decode cJ9_min_7cf53 1 = .ok (.iload_n 1, 1) := by decide +kernel
theorem dJ9_min_7cf53_2 : decode cJ9_min_7cf53 2 = .ok (.if_icmp .gt 7, 3) := by decide +kernel
theorem dJ9_min_7cf53_5 : decode cJ9_min_7cf53 5 = .ok (.iload_n 0, 1) := by decide +kernel
theorem dJ9_min_7cf53_6 : decode cJ9_min_7cf53 6 = .ok (.goto 4, 3) := by decide +kernel
theorem dJ9_min_7cf53_9 : decode cJ9_min_7cf53 9 = .ok (.iload_n 1, 1) := by decide +kernel
theorem dJ9_min_7cf53_10 : decode cJ9_min_7cf53 10 = .ok (.ireturn, 1) := by decide +kernel
theorem dL_wind_0 : decode cL_wind 0 = .ok (.aload 4, 2) := by decide +kernel
theorem dL_wind_2 : decode cL_wind 2 = .ok (.iconst 0, 1) := by decide +kernel
theorem dL_wind_3 : decode cL_wind 3 = .ok (.aload_n 0, 1) := by decide +kernel
theorem dL_wind_4 : decode cL_wind 4 = .ok (.iload_n 1, 1) := by decide +kernel
theorem dL_wind_5 : decode cL_wind 5 = .ok (.iload_n 2, 1) := by decide +kernel
theorem dL_wind_6 : decode cL_wind 6 = .ok (.iload_n 3, 1) := by decide +kernel
theorem dL_wind_7 : decode cL_wind 7 = .ok (.invokevirtual 7, 3) := by decide +kernel
theorem dL_wind_10 : decode cL_wind 10 = .ok (.i2l, 1) := by decide +kernel
theorem dL_wind_11 : decode cL_wind 11 = .ok (.lastore, 1) := by decide +kernel
theorem dL_wind_12 : decode cL_wind 12 = .ok (.goto 11, 3) := by decide +kernel
theorem dL_wind_15 : decode cL_wind 15 = .ok (.astore 5, 2) := by decide +kernel
theorem dL_wind_17 : decode cL_wind 17 = .ok (.iconst 1, 1) := by decide +kernel
theorem dL_wind_18 : decode cL_wind 18 = .ok (.ireturn, 1) := by decide +kernel
theorem dL_wind_19 : decode cL_wind 19 = .ok (.astore 5, 2) := by decide +kernel
theorem dL_wind_21 : decode cL_wind 21 = .ok (.iconst 2, 1) := by decide +kernel
theorem dL_wind_22 : decode cL_wind 22 = .ok (.ireturn, 1) := by decide +kernel
theorem dL_wind_23 : decode cL_wind 23 = .ok (.iconst 0, 1) := by decide +kernel
theorem dL_wind_24 : decode cL_wind 24 = .ok (.ireturn, 1) := by decide +kernel
theorem dL_vane_0 : decode cL_vane 0 = .ok (.aload 4, 2) := by decide +kernel
theorem dL_vane_2 : decode cL_vane 2 = .ok (.iconst 0, 1) := by decide +kernel
theorem dL_vane_3 : decode cL_vane 3 = .ok (.aload_n 0, 1) := by decide +kernel
theorem dL_vane_4 : decode cL_vane 4 = .ok (.iload_n 1, 1) := by decide +kernel
theorem dL_vane_5 : decode cL_vane 5 = .ok (.iload_n 2, 1) := by decide +kernel
theorem dL_vane_6 : decode cL_vane 6 = .ok (.iload_n 3, 1) := by decide +kernel
theorem dL_vane_7 : decode cL_vane 7 = .ok (.invokevirtual 17, 3) := by decide +kernel
theorem dL_vane_10 : decode cL_vane 10 = .ok (.i2l, 1) := by decide +kernel
theorem dL_vane_11 : decode cL_vane 11 = .ok (.lastore, 1) := by decide +kernel
theorem dL_vane_12 : decode cL_vane 12 = .ok (.goto 11, 3) := by decide +kernel
theorem dL_vane_15 : decode cL_vane 15 = .ok (.astore 5, 2) := by decide +kernel
theorem dL_vane_17 : decode cL_vane 17 = .ok (.iconst 1, 1) := by decide +kernel
theorem dL_vane_18 : decode cL_vane 18 = .ok (.ireturn, 1) := by decide +kernel
theorem dL_vane_19 : decode cL_vane 19 = .ok (.astore 5, 2) := by decide +kernel
theorem dL_vane_21 : decode cL_vane 21 = .ok (.iconst 2, 1) := by decide +kernel
theorem dL_vane_22 : decode cL_vane 22 = .ok (.ireturn, 1) := by decide +kernel
theorem dL_vane_23 : decode cL_vane 23 = .ok (.iconst 0, 1) := by decide +kernel
theorem dL_vane_24 : decode cL_vane 24 = .ok (.ireturn, 1) := by decide +kernel
theorem dL_mill_0 : decode cL_mill 0 = .ok (.aload_n 3, 1) := by decide +kernel
theorem dL_mill_1 : decode cL_mill 1 = .ok (.iconst 0, 1) := by decide +kernel
theorem dL_mill_2 : decode cL_mill 2 = .ok (.aload_n 0, 1) := by decide +kernel
theorem dL_mill_3 : decode cL_mill 3 = .ok (.iload_n 1, 1) := by decide +kernel
theorem dL_mill_4 : decode cL_mill 4 = .ok (.iload_n 2, 1) := by decide +kernel
theorem dL_mill_5 : decode cL_mill 5 = .ok (.invokevirtual 20, 3) := by decide +kernel
theorem dL_mill_8 : decode cL_mill 8 = .ok (.i2l, 1) := by decide +kernel
theorem dL_mill_9 : decode cL_mill 9 = .ok (.lastore, 1) := by decide +kernel
theorem dL_mill_10 : decode cL_mill 10 = .ok (.goto 11, 3) := by decide +kernel
theorem dL_mill_13 : decode cL_mill 13 = .ok (.astore 4, 2) := by decide +kernel
theorem dL_mill_15 : decode cL_mill 15 = .ok (.iconst 1, 1) := by decide +kernel
theorem dL_mill_16 : decode cL_mill 16 = .ok (.ireturn, 1) := by decide +kernel
theorem dL_mill_17 : decode cL_mill 17 = .ok (.astore 4, 2) := by decide +kernel
theorem dL_mill_19 : decode cL_mill 19 = .ok (.iconst 2, 1) := by decide +kernel
theorem dL_mill_20 : decode cL_mill 20 = .ok (.ireturn, 1) := by decide +kernel
theorem dL_mill_21 : decode cL_mill 21 = .ok (.iconst 0, 1) := by decide +kernel
theorem dL_mill_22 : decode cL_mill 22 = .ok (.ireturn, 1) := by decide +kernel
theorem dL_set_0 : decode cL_set 0 = .ok (.aload_n 3, 1) := by decide +kernel
theorem dL_set_1 : decode cL_set 1 = .ok (.iconst 0, 1) := by decide +kernel
theorem dL_set_2 : decode cL_set 2 = .ok (.aload_n 0, 1) := by decide +kernel
theorem dL_set_3 : decode cL_set 3 = .ok (.iload_n 1, 1) := by decide +kernel
theorem dL_set_4 : decode cL_set 4 = .ok (.iload_n 2, 1) := by decide +kernel
theorem dL_set_5 : decode cL_set 5 = .ok (.invokevirtual 24, 3) := by decide +kernel
theorem dL_set_8 : decode cL_set 8 = .ok (.i2l, 1) := by decide +kernel
theorem dL_set_9 : decode cL_set 9 = .ok (.lastore, 1) := by decide +kernel
theorem dL_set_10 : decode cL_set 10 = .ok (.goto 11, 3) := by decide +kernel
theorem dL_set_13 : decode cL_set 13 = .ok (.astore 4, 2) := by decide +kernel
theorem dL_set_15 : decode cL_set 15 = .ok (.iconst 1, 1) := by decide +kernel
theorem dL_set_16 : decode cL_set 16 = .ok (.ireturn, 1) := by decide +kernel
theorem dL_set_17 : decode cL_set 17 = .ok (.astore 4, 2) := by decide +kernel
theorem dL_set_19 : decode cL_set 19 = .ok (.iconst 2, 1) := by decide +kernel
theorem dL_set_20 : decode cL_set 20 = .ok (.ireturn, 1) := by decide +kernel
theorem dL_set_21 : decode cL_set 21 = .ok (.iconst 0, 1) := by decide +kernel
theorem dL_set_22 : decode cL_set 22 = .ok (.ireturn, 1) := by decide +kernel
theorem dL_bring_0 : decode cL_bring 0 = .ok (.aload 4, 2) := by decide +kernel
theorem dL_bring_2 : decode cL_bring 2 = .ok (.iconst 0, 1) := by decide +kernel
theorem dL_bring_3 : decode cL_bring 3 = .ok (.aload_n 0, 1) := by decide +kernel
theorem dL_bring_4 : decode cL_bring 4 = .ok (.iload_n 1, 1) := by decide +kernel
theorem dL_bring_5 : decode cL_bring 5 = .ok (.iload_n 2, 1) := by decide +kernel
theorem dL_bring_6 : decode cL_bring 6 = .ok (.iload_n 3, 1) := by decide +kernel
theorem dL_bring_7 : decode cL_bring 7 = .ok (.invokevirtual 27, 3) := by decide +kernel
theorem dL_bring_10 : decode cL_bring 10 = .ok (.i2l, 1) := by decide +kernel
theorem dL_bring_11 : decode cL_bring 11 = .ok (.lastore, 1) := by decide +kernel
theorem dL_bring_12 : decode cL_bring 12 = .ok (.goto 11, 3) := by decide +kernel
theorem dL_bring_15 : decode cL_bring 15 = .ok (.astore 5, 2) := by decide +kernel
theorem dL_bring_17 : decode cL_bring 17 = .ok (.iconst 1, 1) := by decide +kernel
theorem dL_bring_18 : decode cL_bring 18 = .ok (.ireturn, 1) := by decide +kernel
theorem dL_bring_19 : decode cL_bring 19 = .ok (.astore 5, 2) := by decide +kernel
theorem dL_bring_21 : decode cL_bring 21 = .ok (.iconst 2, 1) := by decide +kernel
theorem dL_bring_22 : decode cL_bring 22 = .ok (.ireturn, 1) := by decide +kernel
theorem dL_bring_23 : decode cL_bring 23 = .ok (.iconst 0, 1) := by decide +kernel
theorem dL_bring_24 : decode cL_bring 24 = .ok (.ireturn, 1) := by decide +kernel
theorem dL_takeBack_0 : decode cL_takeBack 0 = .ok (.aload_n 2, 1) := by decide +kernel
theorem dL_takeBack_1 : decode cL_takeBack 1 = .ok (.iconst 0, 1) := by decide +kernel
theorem dL_takeBack_2 : decode cL_takeBack 2 = .ok (.aload_n 0, 1) := by decide +kernel
theorem dL_takeBack_3 : decode cL_takeBack 3 = .ok (.iload_n 1, 1) := by decide +kernel
theorem dL_takeBack_4 : decode cL_takeBack 4 = .ok (.invokevirtual 30, 3) := by decide +kernel
theorem dL_takeBack_7 : decode cL_takeBack 7 = .ok (.i2l, 1) := by decide +kernel
theorem dL_takeBack_8 : decode cL_takeBack 8 = .ok (.lastore, 1) := by decide +kernel
theorem dL_takeBack_9 : decode cL_takeBack 9 = .ok (.goto 6, 3) := by decide +kernel
theorem dL_takeBack_12 : decode cL_takeBack 12 = .ok (.astore_n 3, 1) := by decide +kernel
theorem dL_takeBack_13 : decode cL_takeBack 13 = .ok (.iconst 1, 1) := by decide +kernel
theorem dL_takeBack_14 : decode cL_takeBack 14 = .ok (.ireturn, 1) := by decide +kernel
theorem dL_takeBack_15 : decode cL_takeBack 15 = .ok (.iconst 0, 1) := by decide +kernel
theorem dL_takeBack_16 : decode cL_takeBack 16 = .ok (.ireturn, 1) := by decide +kernel
theorem dL_pass_0 : decode cL_pass 0 = .ok (.aload_n 2, 1) := by decide +kernel
theorem dL_pass_1 : decode cL_pass 1 = .ok (.iconst 0, 1) := by decide +kernel
theorem dL_pass_2 : decode cL_pass 2 = .ok (.aload_n 0, 1) := by decide +kernel
theorem dL_pass_3 : decode cL_pass 3 = .ok (.iload_n 1, 1) := by decide +kernel
theorem dL_pass_4 : decode cL_pass 4 = .ok (.invokevirtual 34, 3) := by decide +kernel
theorem dL_pass_7 : decode cL_pass 7 = .ok (.i2l, 1) := by decide +kernel
theorem dL_pass_8 : decode cL_pass 8 = .ok (.lastore, 1) := by decide +kernel
theorem dL_pass_9 : decode cL_pass 9 = .ok (.goto 9, 3) := by decide +kernel
theorem dL_pass_12 : decode cL_pass 12 = .ok (.astore_n 3, 1) := by decide +kernel
theorem dL_pass_13 : decode cL_pass 13 = .ok (.iconst 1, 1) := by decide +kernel
theorem dL_pass_14 : decode cL_pass 14 = .ok (.ireturn, 1) := by decide +kernel
theorem dL_pass_15 : decode cL_pass 15 = .ok (.astore_n 3, 1) := by decide +kernel
theorem dL_pass_16 : decode cL_pass 16 = .ok (.iconst 2, 1) := by decide +kernel
theorem dL_pass_17 : decode cL_pass 17 = .ok (.ireturn, 1) := by decide +kernel
theorem dL_pass_18 : decode cL_pass 18 = .ok (.iconst 0, 1) := by decide +kernel
theorem dL_pass_19 : decode cL_pass 19 = .ok (.ireturn, 1) := by decide +kernel
theorem dL_append_0 : decode cL_append 0 = .ok (.aload_n 2, 1) := by decide +kernel
theorem dL_append_1 : decode cL_append 1 = .ok (.iconst 0, 1) := by decide +kernel
theorem dL_append_2 : decode cL_append 2 = .ok (.aload_n 0, 1) := by decide +kernel
theorem dL_append_3 : decode cL_append 3 = .ok (.iload_n 1, 1) := by decide +kernel
theorem dL_append_4 : decode cL_append 4 = .ok (.invokevirtual 39, 3) := by decide +kernel
theorem dL_append_7 : decode cL_append 7 = .ok (.i2l, 1) := by decide +kernel
theorem dL_append_8 : decode cL_append 8 = .ok (.lastore, 1) := by decide +kernel
theorem dL_append_9 : decode cL_append 9 = .ok (.goto 9, 3) := by decide +kernel
theorem dL_append_12 : decode cL_append 12 = .ok (.astore_n 3, 1) := by decide +kernel
theorem dL_append_13 : decode cL_append 13 = .ok (.iconst 1, 1) := by decide +kernel
theorem dL_append_14 : decode cL_append 14 = .ok (.ireturn, 1) := by decide +kernel
theorem dL_append_15 : decode cL_append 15 = .ok (.astore_n 3, 1) := by decide +kernel
theorem dL_append_16 : decode cL_append 16 = .ok (.iconst 2, 1) := by decide +kernel
theorem dL_append_17 : decode cL_append 17 = .ok (.ireturn, 1) := by decide +kernel
theorem dL_append_18 : decode cL_append 18 = .ok (.iconst 0, 1) := by decide +kernel
theorem dL_append_19 : decode cL_append 19 = .ok (.ireturn, 1) := by decide +kernel
theorem dL_load_0 : decode cL_load 0 = .ok (.aload_n 1, 1) := by decide +kernel
theorem dL_load_1 : decode cL_load 1 = .ok (.iconst 0, 1) := by decide +kernel
theorem dL_load_2 : decode cL_load 2 = .ok (.aload_n 0, 1) := by decide +kernel
theorem dL_load_3 : decode cL_load 3 = .ok (.invokevirtual 42, 3) := by decide +kernel
theorem dL_load_6 : decode cL_load 6 = .ok (.i2l, 1) := by decide +kernel
theorem dL_load_7 : decode cL_load 7 = .ok (.lastore, 1) := by decide +kernel
theorem dL_load_8 : decode cL_load 8 = .ok (.goto 6, 3) := by decide +kernel
theorem dL_load_11 : decode cL_load 11 = .ok (.astore_n 2, 1) := by decide +kernel
theorem dL_load_12 : decode cL_load 12 = .ok (.iconst 1, 1) := by decide +kernel
theorem dL_load_13 : decode cL_load 13 = .ok (.ireturn, 1) := by decide +kernel
theorem dL_load_14 : decode cL_load 14 = .ok (.iconst 0, 1) := by decide +kernel
theorem dL_load_15 : decode cL_load 15 = .ok (.ireturn, 1) := by decide +kernel
theorem dL_keep_0 : decode cL_keep 0 = .ok (.aload_n 2, 1) := by decide +kernel
theorem dL_keep_1 : decode cL_keep 1 = .ok (.iconst 0, 1) := by decide +kernel
theorem dL_keep_2 : decode cL_keep 2 = .ok (.aload_n 0, 1) := by decide +kernel
theorem dL_keep_3 : decode cL_keep 3 = .ok (.iload_n 1, 1) := by decide +kernel
theorem dL_keep_4 : decode cL_keep 4 = .ok (.invokevirtual 46, 3) := by decide +kernel
theorem dL_keep_7 : decode cL_keep 7 = .ok (.i2l, 1) := by decide +kernel
theorem dL_keep_8 : decode cL_keep 8 = .ok (.lastore, 1) := by decide +kernel
theorem dL_keep_9 : decode cL_keep 9 = .ok (.goto 6, 3) := by decide +kernel
theorem dL_keep_12 : decode cL_keep 12 = .ok (.astore_n 3, 1) := by decide +kernel
theorem dL_keep_13 : decode cL_keep 13 = .ok (.iconst 1, 1) := by decide +kernel
theorem dL_keep_14 : decode cL_keep 14 = .ok (.ireturn, 1) := by decide +kernel
theorem dL_keep_15 : decode cL_keep 15 = .ok (.iconst 0, 1) := by decide +kernel
theorem dL_keep_16 : decode cL_keep 16 = .ok (.ireturn, 1) := by decide +kernel
theorem dL_goBack_0 : decode cL_goBack 0 = .ok (.aload_n 2, 1) := by decide +kernel
theorem dL_goBack_1 : decode cL_goBack 1 = .ok (.iconst 0, 1) := by decide +kernel
theorem dL_goBack_2 : decode cL_goBack 2 = .ok (.aload_n 0, 1) := by decide +kernel
theorem dL_goBack_3 : decode cL_goBack 3 = .ok (.iload_n 1, 1) := by decide +kernel
theorem dL_goBack_4 : decode cL_goBack 4 = .ok (.invokevirtual 49, 3) := by decide +kernel
theorem dL_goBack_7 : decode cL_goBack 7 = .ok (.i2l, 1) := by decide +kernel
theorem dL_goBack_8 : decode cL_goBack 8 = .ok (.lastore, 1) := by decide +kernel
theorem dL_goBack_9 : decode cL_goBack 9 = .ok (.goto 9, 3) := by decide +kernel
theorem dL_goBack_12 : decode cL_goBack 12 = .ok (.astore_n 3, 1) := by decide +kernel
theorem dL_goBack_13 : decode cL_goBack 13 = .ok (.iconst 1, 1) := by decide +kernel
theorem dL_goBack_14 : decode cL_goBack 14 = .ok (.ireturn, 1) := by decide +kernel
theorem dL_goBack_15 : decode cL_goBack 15 = .ok (.astore_n 3, 1) := by decide +kernel
theorem dL_goBack_16 : decode cL_goBack 16 = .ok (.iconst 2, 1) := by decide +kernel
theorem dL_goBack_17 : decode cL_goBack 17 = .ok (.ireturn, 1) := by decide +kernel
theorem dL_goBack_18 : decode cL_goBack 18 = .ok (.iconst 0, 1) := by decide +kernel
theorem dL_goBack_19 : decode cL_goBack 19 = .ok (.ireturn, 1) := by decide +kernel
theorem dL_undo_0 : decode cL_undo 0 = .ok (.aload_n 1, 1) := by decide +kernel
theorem dL_undo_1 : decode cL_undo 1 = .ok (.iconst 0, 1) := by decide +kernel
theorem dL_undo_2 : decode cL_undo 2 = .ok (.aload_n 0, 1) := by decide +kernel
theorem dL_undo_3 : decode cL_undo 3 = .ok (.invokevirtual 52, 3) := by decide +kernel
theorem dL_undo_6 : decode cL_undo 6 = .ok (.i2l, 1) := by decide +kernel
theorem dL_undo_7 : decode cL_undo 7 = .ok (.lastore, 1) := by decide +kernel
theorem dL_undo_8 : decode cL_undo 8 = .ok (.goto 6, 3) := by decide +kernel
theorem dL_undo_11 : decode cL_undo 11 = .ok (.astore_n 2, 1) := by decide +kernel
theorem dL_undo_12 : decode cL_undo 12 = .ok (.iconst 1, 1) := by decide +kernel
theorem dL_undo_13 : decode cL_undo 13 = .ok (.ireturn, 1) := by decide +kernel
theorem dL_undo_14 : decode cL_undo 14 = .ok (.iconst 0, 1) := by decide +kernel
theorem dL_undo_15 : decode cL_undo 15 = .ok (.ireturn, 1) := by decide +kernel
theorem dL_hourOf_0 : decode cL_hourOf 0 = .ok (.aload_n 3, 1) := by decide +kernel
theorem dL_hourOf_1 : decode cL_hourOf 1 = .ok (.iconst 0, 1) := by decide +kernel
theorem dL_hourOf_2 : decode cL_hourOf 2 = .ok (.aload_n 0, 1) := by decide +kernel
theorem dL_hourOf_3 : decode cL_hourOf 3 = .ok (.iload_n 1, 1) := by decide +kernel
theorem dL_hourOf_4 : decode cL_hourOf 4 = .ok (.iload_n 2, 1) := by decide +kernel
theorem dL_hourOf_5 : decode cL_hourOf 5 = .ok (.invokevirtual 55, 3) := by decide +kernel
theorem dL_hourOf_8 : decode cL_hourOf 8 = .ok (.i2l, 1) := by decide +kernel
theorem dL_hourOf_9 : decode cL_hourOf 9 = .ok (.lastore, 1) := by decide +kernel
theorem dL_hourOf_10 : decode cL_hourOf 10 = .ok (.goto 11, 3) := by decide +kernel
theorem dL_hourOf_13 : decode cL_hourOf 13 = .ok (.astore 4, 2) := by decide +kernel
theorem dL_hourOf_15 : decode cL_hourOf 15 = .ok (.iconst 1, 1) := by decide +kernel
theorem dL_hourOf_16 : decode cL_hourOf 16 = .ok (.ireturn, 1) := by decide +kernel
theorem dL_hourOf_17 : decode cL_hourOf 17 = .ok (.astore 4, 2) := by decide +kernel
theorem dL_hourOf_19 : decode cL_hourOf 19 = .ok (.iconst 2, 1) := by decide +kernel
theorem dL_hourOf_20 : decode cL_hourOf 20 = .ok (.ireturn, 1) := by decide +kernel
theorem dL_hourOf_21 : decode cL_hourOf 21 = .ok (.iconst 0, 1) := by decide +kernel
theorem dL_hourOf_22 : decode cL_hourOf 22 = .ok (.ireturn, 1) := by decide +kernel
theorem dL_vaneOf_0 : decode cL_vaneOf 0 = .ok (.aload_n 3, 1) := by decide +kernel
theorem dL_vaneOf_1 : decode cL_vaneOf 1 = .ok (.iconst 0, 1) := by decide +kernel
theorem dL_vaneOf_2 : decode cL_vaneOf 2 = .ok (.aload_n 0, 1) := by decide +kernel
theorem dL_vaneOf_3 : decode cL_vaneOf 3 = .ok (.iload_n 1, 1) := by decide +kernel
theorem dL_vaneOf_4 : decode cL_vaneOf 4 = .ok (.iload_n 2, 1) := by decide +kernel
theorem dL_vaneOf_5 : decode cL_vaneOf 5 = .ok (.invokevirtual 58, 3) := by decide +kernel
theorem dL_vaneOf_8 : decode cL_vaneOf 8 = .ok (.i2l, 1) := by decide +kernel
theorem dL_vaneOf_9 : decode cL_vaneOf 9 = .ok (.lastore, 1) := by decide +kernel
theorem dL_vaneOf_10 : decode cL_vaneOf 10 = .ok (.goto 11, 3) := by decide +kernel
theorem dL_vaneOf_13 : decode cL_vaneOf 13 = .ok (.astore 4, 2) := by decide +kernel
theorem dL_vaneOf_15 : decode cL_vaneOf 15 = .ok (.iconst 1, 1) := by decide +kernel
theorem dL_vaneOf_16 : decode cL_vaneOf 16 = .ok (.ireturn, 1) := by decide +kernel
theorem dL_vaneOf_17 : decode cL_vaneOf 17 = .ok (.astore 4, 2) := by decide +kernel
theorem dL_vaneOf_19 : decode cL_vaneOf 19 = .ok (.iconst 2, 1) := by decide +kernel
theorem dL_vaneOf_20 : decode cL_vaneOf 20 = .ok (.ireturn, 1) := by decide +kernel
theorem dL_vaneOf_21 : decode cL_vaneOf 21 = .ok (.iconst 0, 1) := by decide +kernel
theorem dL_vaneOf_22 : decode cL_vaneOf 22 = .ok (.ireturn, 1) := by decide +kernel
theorem dL_millOf_0 : decode cL_millOf 0 = .ok (.aload_n 3, 1) := by decide +kernel
theorem dL_millOf_1 : decode cL_millOf 1 = .ok (.iconst 0, 1) := by decide +kernel
theorem dL_millOf_2 : decode cL_millOf 2 = .ok (.aload_n 0, 1) := by decide +kernel
theorem dL_millOf_3 : decode cL_millOf 3 = .ok (.iload_n 1, 1) := by decide +kernel
theorem dL_millOf_4 : decode cL_millOf 4 = .ok (.iload_n 2, 1) := by decide +kernel
theorem dL_millOf_5 : decode cL_millOf 5 = .ok (.invokevirtual 61, 3) := by decide +kernel
theorem dL_millOf_8 : decode cL_millOf 8 = .ok (.i2l, 1) := by decide +kernel
theorem dL_millOf_9 : decode cL_millOf 9 = .ok (.lastore, 1) := by decide +kernel
theorem dL_millOf_10 : decode cL_millOf 10 = .ok (.goto 11, 3) := by decide +kernel
theorem dL_millOf_13 : decode cL_millOf 13 = .ok (.astore 4, 2) := by decide +kernel
theorem dL_millOf_15 : decode cL_millOf 15 = .ok (.iconst 1, 1) := by decide +kernel
theorem dL_millOf_16 : decode cL_millOf 16 = .ok (.ireturn, 1) := by decide +kernel
theorem dL_millOf_17 : decode cL_millOf 17 = .ok (.astore 4, 2) := by decide +kernel
theorem dL_millOf_19 : decode cL_millOf 19 = .ok (.iconst 2, 1) := by decide +kernel
theorem dL_millOf_20 : decode cL_millOf 20 = .ok (.ireturn, 1) := by decide +kernel
theorem dL_millOf_21 : decode cL_millOf 21 = .ok (.iconst 0, 1) := by decide +kernel
theorem dL_millOf_22 : decode cL_millOf 22 = .ok (.ireturn, 1) := by decide +kernel
theorem dL_ownerOf_0 : decode cL_ownerOf 0 = .ok (.aload_n 3, 1) := by decide +kernel
theorem dL_ownerOf_1 : decode cL_ownerOf 1 = .ok (.iconst 0, 1) := by decide +kernel
theorem dL_ownerOf_2 : decode cL_ownerOf 2 = .ok (.aload_n 0, 1) := by decide +kernel
theorem dL_ownerOf_3 : decode cL_ownerOf 3 = .ok (.iload_n 1, 1) := by decide +kernel
theorem dL_ownerOf_4 : decode cL_ownerOf 4 = .ok (.iload_n 2, 1) := by decide +kernel
theorem dL_ownerOf_5 : decode cL_ownerOf 5 = .ok (.invokevirtual 64, 3) := by decide +kernel
theorem dL_ownerOf_8 : decode cL_ownerOf 8 = .ok (.i2l, 1) := by decide +kernel
theorem dL_ownerOf_9 : decode cL_ownerOf 9 = .ok (.lastore, 1) := by decide +kernel
theorem dL_ownerOf_10 : decode cL_ownerOf 10 = .ok (.goto 11, 3) := by decide +kernel
theorem dL_ownerOf_13 : decode cL_ownerOf 13 = .ok (.astore 4, 2) := by decide +kernel
theorem dL_ownerOf_15 : decode cL_ownerOf 15 = .ok (.iconst 1, 1) := by decide +kernel
theorem dL_ownerOf_16 : decode cL_ownerOf 16 = .ok (.ireturn, 1) := by decide +kernel
theorem dL_ownerOf_17 : decode cL_ownerOf 17 = .ok (.astore 4, 2) := by decide +kernel
theorem dL_ownerOf_19 : decode cL_ownerOf 19 = .ok (.iconst 2, 1) := by decide +kernel
theorem dL_ownerOf_20 : decode cL_ownerOf 20 = .ok (.ireturn, 1) := by decide +kernel
theorem dL_ownerOf_21 : decode cL_ownerOf 21 = .ok (.iconst 0, 1) := by decide +kernel
theorem dL_ownerOf_22 : decode cL_ownerOf 22 = .ok (.ireturn, 1) := by decide +kernel
theorem dL_count_0 : decode cL_count 0 = .ok (.aload_n 2, 1) := by decide +kernel
theorem dL_count_1 : decode cL_count 1 = .ok (.iconst 0, 1) := by decide +kernel
theorem dL_count_2 : decode cL_count 2 = .ok (.aload_n 0, 1) := by decide +kernel
theorem dL_count_3 : decode cL_count 3 = .ok (.iload_n 1, 1) := by decide +kernel
theorem dL_count_4 : decode cL_count 4 = .ok (.invokevirtual 67, 3) := by decide +kernel
theorem dL_count_7 : decode cL_count 7 = .ok (.i2l, 1) := by decide +kernel
theorem dL_count_8 : decode cL_count 8 = .ok (.lastore, 1) := by decide +kernel
theorem dL_count_9 : decode cL_count 9 = .ok (.goto 6, 3) := by decide +kernel
theorem dL_count_12 : decode cL_count 12 = .ok (.astore_n 3, 1) := by decide +kernel
theorem dL_count_13 : decode cL_count 13 = .ok (.iconst 1, 1) := by decide +kernel
theorem dL_count_14 : decode cL_count 14 = .ok (.ireturn, 1) := by decide +kernel
theorem dL_count_15 : decode cL_count 15 = .ok (.iconst 0, 1) := by decide +kernel
theorem dL_count_16 : decode cL_count 16 = .ok (.ireturn, 1) := by decide +kernel
theorem dL_setting_0 : decode cL_setting 0 = .ok (.aload_n 2, 1) := by decide +kernel
theorem dL_setting_1 : decode cL_setting 1 = .ok (.iconst 0, 1) := by decide +kernel
theorem dL_setting_2 : decode cL_setting 2 = .ok (.aload_n 0, 1) := by decide +kernel
theorem dL_setting_3 : decode cL_setting 3 = .ok (.iload_n 1, 1) := by decide +kernel
theorem dL_setting_4 : decode cL_setting 4 = .ok (.invokevirtual 70, 3) := by decide +kernel
theorem dL_setting_7 : decode cL_setting 7 = .ok (.i2l, 1) := by decide +kernel
theorem dL_setting_8 : decode cL_setting 8 = .ok (.lastore, 1) := by decide +kernel
theorem dL_setting_9 : decode cL_setting 9 = .ok (.goto 6, 3) := by decide +kernel
theorem dL_setting_12 : decode cL_setting 12 = .ok (.astore_n 3, 1) := by decide +kernel
theorem dL_setting_13 : decode cL_setting 13 = .ok (.iconst 1, 1) := by decide +kernel
theorem dL_setting_14 : decode cL_setting 14 = .ok (.ireturn, 1) := by decide +kernel
theorem dL_setting_15 : decode cL_setting 15 = .ok (.iconst 0, 1) := by decide +kernel
theorem dL_setting_16 : decode cL_setting 16 = .ok (.ireturn, 1) := by decide +kernel
theorem dL_doneIn_0 : decode cL_doneIn 0 = .ok (.aload_n 3, 1) := by decide +kernel
theorem dL_doneIn_1 : decode cL_doneIn 1 = .ok (.iconst 0, 1) := by decide +kernel
theorem dL_doneIn_2 : decode cL_doneIn 2 = .ok (.aload_n 0, 1) := by decide +kernel
theorem dL_doneIn_3 : decode cL_doneIn 3 = .ok (.iload_n 1, 1) := by decide +kernel
theorem dL_doneIn_4 : decode cL_doneIn 4 = .ok (.iload_n 2, 1) := by decide +kernel
theorem dL_doneIn_5 : decode cL_doneIn 5 = .ok (.invokevirtual 73, 3) := by decide +kernel
theorem dL_doneIn_8 : decode cL_doneIn 8 = .ok (.i2l, 1) := by decide +kernel
theorem dL_doneIn_9 : decode cL_doneIn 9 = .ok (.lastore, 1) := by decide +kernel
theorem dL_doneIn_10 : decode cL_doneIn 10 = .ok (.goto 11, 3) := by decide +kernel
theorem dL_doneIn_13 : decode cL_doneIn 13 = .ok (.astore 4, 2) := by decide +kernel
theorem dL_doneIn_15 : decode cL_doneIn 15 = .ok (.iconst 1, 1) := by decide +kernel
theorem dL_doneIn_16 : decode cL_doneIn 16 = .ok (.ireturn, 1) := by decide +kernel
theorem dL_doneIn_17 : decode cL_doneIn 17 = .ok (.astore 4, 2) := by decide +kernel
theorem dL_doneIn_19 : decode cL_doneIn 19 = .ok (.iconst 2, 1) := by decide +kernel
theorem dL_doneIn_20 : decode cL_doneIn 20 = .ok (.ireturn, 1) := by decide +kernel
theorem dL_doneIn_21 : decode cL_doneIn 21 = .ok (.iconst 0, 1) := by decide +kernel
theorem dL_doneIn_22 : decode cL_doneIn 22 = .ok (.ireturn, 1) := by decide +kernel
theorem dL_ifPassed_0 : decode cL_ifPassed 0 = .ok (.aload_n 3, 1) := by decide +kernel
theorem dL_ifPassed_1 : decode cL_ifPassed 1 = .ok (.iconst 0, 1) := by decide +kernel
theorem dL_ifPassed_2 : decode cL_ifPassed 2 = .ok (.aload_n 0, 1) := by decide +kernel
theorem dL_ifPassed_3 : decode cL_ifPassed 3 = .ok (.iload_n 1, 1) := by decide +kernel
theorem dL_ifPassed_4 : decode cL_ifPassed 4 = .ok (.iload_n 2, 1) := by decide +kernel
theorem dL_ifPassed_5 : decode cL_ifPassed 5 = .ok (.invokevirtual 76, 3) := by decide +kernel
theorem dL_ifPassed_8 : decode cL_ifPassed 8 = .ok (.i2l, 1) := by decide +kernel
theorem dL_ifPassed_9 : decode cL_ifPassed 9 = .ok (.lastore, 1) := by decide +kernel
theorem dL_ifPassed_10 : decode cL_ifPassed 10 = .ok (.goto 11, 3) := by decide +kernel
theorem dL_ifPassed_13 : decode cL_ifPassed 13 = .ok (.astore 4, 2) := by decide +kernel
theorem dL_ifPassed_15 : decode cL_ifPassed 15 = .ok (.iconst 1, 1) := by decide +kernel
theorem dL_ifPassed_16 : decode cL_ifPassed 16 = .ok (.ireturn, 1) := by decide +kernel
theorem dL_ifPassed_17 : decode cL_ifPassed 17 = .ok (.astore 4, 2) := by decide +kernel
theorem dL_ifPassed_19 : decode cL_ifPassed 19 = .ok (.iconst 2, 1) := by decide +kernel
theorem dL_ifPassed_20 : decode cL_ifPassed 20 = .ok (.ireturn, 1) := by decide +kernel
theorem dL_ifPassed_21 : decode cL_ifPassed 21 = .ok (.iconst 0, 1) := by decide +kernel
theorem dL_ifPassed_22 : decode cL_ifPassed 22 = .ok (.ireturn, 1) := by decide +kernel
theorem dL_law_0 : decode cL_law 0 = .ok (.new 8, 3) := by decide +kernel
theorem dL_law_3 : decode cL_law 3 = .ok (.dup, 1) := by decide +kernel
theorem dL_law_4 : decode cL_law 4 = .ok (.invokespecial 79, 3) := by decide +kernel
theorem dL_law_7 : decode cL_law 7 = .ok (.astore_n 1, 1) := by decide +kernel
theorem dL_law_8 : decode cL_law 8 = .ok (.new 80, 3) := by decide +kernel
theorem dL_law_11 : decode cL_law 11 = .ok (.dup, 1) := by decide +kernel
theorem dL_law_12 : decode cL_law 12 = .ok (.invokespecial 82, 3) := by decide +kernel
theorem dL_law_15 : decode cL_law 15 = .ok (.astore_n 2, 1) := by decide +kernel
theorem dL_law_16 : decode cL_law 16 = .ok (.iconst 1, 1) := by decide +kernel
theorem dL_law_17 : decode cL_law 17 = .ok (.newarray .long, 2) := by decide +kernel
theorem dL_law_19 : decode cL_law 19 = .ok (.astore_n 3, 1) := by decide +kernel
theorem dL_law_20 : decode cL_law 20 = .ok (.iconst 0, 1) := by decide +kernel
theorem dL_law_21 : decode cL_law 21 = .ok (.istore 4, 2) := by decide +kernel
theorem dL_law_23 : decode cL_law 23 = .ok (.iload 4, 2) := by decide +kernel
theorem dL_law_25 : decode cL_law 25 = .ok (.aload_n 0, 1) := by decide +kernel
theorem dL_law_26 : decode cL_law 26 = .ok (.arraylength, 1) := by decide +kernel
theorem dL_law_27 : decode cL_law 27 = .ok (.iconst 4, 1) := by decide +kernel
theorem dL_law_28 : decode cL_law 28 = .ok (.isub, 1) := by decide +kernel
theorem dL_law_29 : decode cL_law 29 = .ok (.if_icmp .gt 1504, 3) := by decide +kernel
theorem dL_law_32 : decode cL_law 32 = .ok (.aload_n 0, 1) := by decide +kernel
theorem dL_law_33 : decode cL_law 33 = .ok (.iload 4, 2) := by decide +kernel
theorem dL_law_35 : decode cL_law 35 = .ok (.iaload, 1) := by decide +kernel
theorem dL_law_36 : decode cL_law 36 = .ok (.bipush 31, 2) := by decide +kernel
theorem dL_law_38 : decode cL_law 38 = .ok (.iand, 1) := by decide +kernel
theorem dL_law_39 : decode cL_law 39 = .ok (.tableswitch 1488 0 25 #[117, 197, 277, 345, 413, 493, 549, 605, 661, 674, 687, 731, 787, 843, 887, 955, 1023, 1091, 1159, 1215, 1271, 1339, 1407, 1420, 1433, 1474], 117) := by decide +kernel
theorem dL_law_156 : decode cL_law 156 = .ok (.aload_n 1, 1) := by decide +kernel
theorem dL_law_157 : decode cL_law 157 = .ok (.aload_n 0, 1) := by decide +kernel
theorem dL_law_158 : decode cL_law 158 = .ok (.iload 4, 2) := by decide +kernel
theorem dL_law_160 : decode cL_law 160 = .ok (.iconst 1, 1) := by decide +kernel
theorem dL_law_161 : decode cL_law 161 = .ok (.iadd, 1) := by decide +kernel
theorem dL_law_162 : decode cL_law 162 = .ok (.iaload, 1) := by decide +kernel
theorem dL_law_163 : decode cL_law 163 = .ok (.aload_n 0, 1) := by decide +kernel
theorem dL_law_164 : decode cL_law 164 = .ok (.iload 4, 2) := by decide +kernel
theorem dL_law_166 : decode cL_law 166 = .ok (.iconst 2, 1) := by decide +kernel
theorem dL_law_167 : decode cL_law 167 = .ok (.iadd, 1) := by decide +kernel
theorem dL_law_168 : decode cL_law 168 = .ok (.iaload, 1) := by decide +kernel
theorem dL_law_169 : decode cL_law 169 = .ok (.aload_n 0, 1) := by decide +kernel
theorem dL_law_170 : decode cL_law 170 = .ok (.iload 4, 2) := by decide +kernel
theorem dL_law_172 : decode cL_law 172 = .ok (.iconst 3, 1) := by decide +kernel
theorem dL_law_173 : decode cL_law 173 = .ok (.iadd, 1) := by decide +kernel
theorem dL_law_174 : decode cL_law 174 = .ok (.iaload, 1) := by decide +kernel
theorem dL_law_175 : decode cL_law 175 = .ok (.aload_n 3, 1) := by decide +kernel
theorem dL_law_176 : decode cL_law 176 = .ok (.invokestatic 83, 3) := by decide +kernel
theorem dL_law_179 : decode cL_law 179 = .ok (.istore 5, 2) := by decide +kernel
theorem dL_law_181 : decode cL_law 181 = .ok (.aload_n 2, 1) := by decide +kernel
theorem dL_law_182 : decode cL_law 182 = .ok (.aload_n 0, 1) := by decide +kernel
theorem dL_law_183 : decode cL_law 183 = .ok (.iload 4, 2) := by decide +kernel
theorem dL_law_185 : decode cL_law 185 = .ok (.iconst 1, 1) := by decide +kernel
theorem dL_law_186 : decode cL_law 186 = .ok (.iadd, 1) := by decide +kernel
theorem dL_law_187 : decode cL_law 187 = .ok (.iaload, 1) := by decide +kernel
theorem dL_law_188 : decode cL_law 188 = .ok (.aload_n 0, 1) := by decide +kernel
theorem dL_law_189 : decode cL_law 189 = .ok (.iload 4, 2) := by decide +kernel
theorem dL_law_191 : decode cL_law 191 = .ok (.iconst 2, 1) := by decide +kernel
theorem dL_law_192 : decode cL_law 192 = .ok (.iadd, 1) := by decide +kernel
theorem dL_law_193 : decode cL_law 193 = .ok (.iaload, 1) := by decide +kernel
theorem dL_law_194 : decode cL_law 194 = .ok (.aload_n 0, 1) := by decide +kernel
theorem dL_law_195 : decode cL_law 195 = .ok (.iload 4, 2) := by decide +kernel
theorem dL_law_197 : decode cL_law 197 = .ok (.iconst 3, 1) := by decide +kernel
theorem dL_law_198 : decode cL_law 198 = .ok (.iadd, 1) := by decide +kernel
theorem dL_law_199 : decode cL_law 199 = .ok (.iaload, 1) := by decide +kernel
theorem dL_law_200 : decode cL_law 200 = .ok (.invokevirtual 88, 3) := by decide +kernel
theorem dL_law_203 : decode cL_law 203 = .ok (.istore 6, 2) := by decide +kernel
theorem dL_law_205 : decode cL_law 205 = .ok (.aload_n 2, 1) := by decide +kernel
theorem dL_law_206 : decode cL_law 206 = .ok (.invokevirtual 89, 3) := by decide +kernel
theorem dL_law_209 : decode cL_law 209 = .ok (.iload 5, 2) := by decide +kernel
theorem dL_law_211 : decode cL_law 211 = .ok (.if_icmp .eq 5, 3) := by decide +kernel
theorem dL_law_214 : decode cL_law 214 = .ok (.iconst 0, 1) := by decide +kernel
theorem dL_law_215 : decode cL_law 215 = .ok (.ireturn, 1) := by decide +kernel
theorem dL_law_216 : decode cL_law 216 = .ok (.iload 5, 2) := by decide +kernel
theorem dL_law_218 : decode cL_law 218 = .ok (.ifCond .ne 15, 3) := by decide +kernel
theorem dL_law_221 : decode cL_law 221 = .ok (.aload_n 3, 1) := by decide +kernel
theorem dL_law_222 : decode cL_law 222 = .ok (.iconst 0, 1) := by decide +kernel
theorem dL_law_223 : decode cL_law 223 = .ok (.laload, 1) := by decide +kernel
theorem dL_law_224 : decode cL_law 224 = .ok (.iload 6, 2) := by decide +kernel
theorem dL_law_226 : decode cL_law 226 = .ok (.i2l, 1) := by decide +kernel
theorem dL_law_227 : decode cL_law 227 = .ok (.lcmp, 1) := by decide +kernel
theorem dL_law_228 : decode cL_law 228 = .ok (.ifCond .eq 5, 3) := by decide +kernel
theorem dL_law_231 : decode cL_law 231 = .ok (.iconst 0, 1) := by decide +kernel
theorem dL_law_232 : decode cL_law 232 = .ok (.ireturn, 1) := by decide +kernel
theorem dL_law_233 : decode cL_law 233 = .ok (.goto 1294, 3) := by decide +kernel
theorem dL_law_236 : decode cL_law 236 = .ok (.aload_n 1, 1) := by decide +kernel
theorem dL_law_237 : decode cL_law 237 = .ok (.aload_n 0, 1) := by decide +kernel
theorem dL_law_238 : decode cL_law 238 = .ok (.iload 4, 2) := by decide +kernel
theorem dL_law_240 : decode cL_law 240 = .ok (.iconst 1, 1) := by decide +kernel
theorem dL_law_241 : decode cL_law 241 = .ok (.iadd, 1) := by decide +kernel
theorem dL_law_242 : decode cL_law 242 = .ok (.iaload, 1) := by decide +kernel
theorem dL_law_243 : decode cL_law 243 = .ok (.aload_n 0, 1) := by decide +kernel
theorem dL_law_244 : decode cL_law 244 = .ok (.iload 4, 2) := by decide +kernel
theorem dL_law_246 : decode cL_law 246 = .ok (.iconst 2, 1) := by decide +kernel
theorem dL_law_247 : decode cL_law 247 = .ok (.iadd, 1) := by decide +kernel
theorem dL_law_248 : decode cL_law 248 = .ok (.iaload, 1) := by decide +kernel
theorem dL_law_249 : decode cL_law 249 = .ok (.aload_n 0, 1) := by decide +kernel
theorem dL_law_250 : decode cL_law 250 = .ok (.iload 4, 2) := by decide +kernel
theorem dL_law_252 : decode cL_law 252 = .ok (.iconst 3, 1) := by decide +kernel
theorem dL_law_253 : decode cL_law 253 = .ok (.iadd, 1) := by decide +kernel
theorem dL_law_254 : decode cL_law 254 = .ok (.iaload, 1) := by decide +kernel
theorem dL_law_255 : decode cL_law 255 = .ok (.aload_n 3, 1) := by decide +kernel
theorem dL_law_256 : decode cL_law 256 = .ok (.invokestatic 92, 3) := by decide +kernel
theorem dL_law_259 : decode cL_law 259 = .ok (.istore 5, 2) := by decide +kernel
theorem dL_law_261 : decode cL_law 261 = .ok (.aload_n 2, 1) := by decide +kernel
theorem dL_law_262 : decode cL_law 262 = .ok (.aload_n 0, 1) := by decide +kernel
theorem dL_law_263 : decode cL_law 263 = .ok (.iload 4, 2) := by decide +kernel
theorem dL_law_265 : decode cL_law 265 = .ok (.iconst 1, 1) := by decide +kernel
theorem dL_law_266 : decode cL_law 266 = .ok (.iadd, 1) := by decide +kernel
theorem dL_law_267 : decode cL_law 267 = .ok (.iaload, 1) := by decide +kernel
theorem dL_law_268 : decode cL_law 268 = .ok (.aload_n 0, 1) := by decide +kernel
theorem dL_law_269 : decode cL_law 269 = .ok (.iload 4, 2) := by decide +kernel
theorem dL_law_271 : decode cL_law 271 = .ok (.iconst 2, 1) := by decide +kernel
theorem dL_law_272 : decode cL_law 272 = .ok (.iadd, 1) := by decide +kernel
theorem dL_law_273 : decode cL_law 273 = .ok (.iaload, 1) := by decide +kernel
theorem dL_law_274 : decode cL_law 274 = .ok (.aload_n 0, 1) := by decide +kernel
theorem dL_law_275 : decode cL_law 275 = .ok (.iload 4, 2) := by decide +kernel
theorem dL_law_277 : decode cL_law 277 = .ok (.iconst 3, 1) := by decide +kernel
theorem dL_law_278 : decode cL_law 278 = .ok (.iadd, 1) := by decide +kernel
theorem dL_law_279 : decode cL_law 279 = .ok (.iaload, 1) := by decide +kernel
theorem dL_law_280 : decode cL_law 280 = .ok (.invokevirtual 94, 3) := by decide +kernel
theorem dL_law_283 : decode cL_law 283 = .ok (.istore 6, 2) := by decide +kernel
theorem dL_law_285 : decode cL_law 285 = .ok (.aload_n 2, 1) := by decide +kernel
theorem dL_law_286 : decode cL_law 286 = .ok (.invokevirtual 89, 3) := by decide +kernel
theorem dL_law_289 : decode cL_law 289 = .ok (.iload 5, 2) := by decide +kernel
theorem dL_law_291 : decode cL_law 291 = .ok (.if_icmp .eq 5, 3) := by decide +kernel
theorem dL_law_294 : decode cL_law 294 = .ok (.iconst 0, 1) := by decide +kernel
theorem dL_law_295 : decode cL_law 295 = .ok (.ireturn, 1) := by decide +kernel
theorem dL_law_296 : decode cL_law 296 = .ok (.iload 5, 2) := by decide +kernel
theorem dL_law_298 : decode cL_law 298 = .ok (.ifCond .ne 15, 3) := by decide +kernel
theorem dL_law_301 : decode cL_law 301 = .ok (.aload_n 3, 1) := by decide +kernel
theorem dL_law_302 : decode cL_law 302 = .ok (.iconst 0, 1) := by decide +kernel
theorem dL_law_303 : decode cL_law 303 = .ok (.laload, 1) := by decide +kernel
theorem dL_law_304 : decode cL_law 304 = .ok (.iload 6, 2) := by decide +kernel
theorem dL_law_306 : decode cL_law 306 = .ok (.i2l, 1) := by decide +kernel
theorem dL_law_307 : decode cL_law 307 = .ok (.lcmp, 1) := by decide +kernel
theorem dL_law_308 : decode cL_law 308 = .ok (.ifCond .eq 5, 3) := by decide +kernel
theorem dL_law_311 : decode cL_law 311 = .ok (.iconst 0, 1) := by decide +kernel
theorem dL_law_312 : decode cL_law 312 = .ok (.ireturn, 1) := by decide +kernel
theorem dL_law_313 : decode cL_law 313 = .ok (.goto 1214, 3) := by decide +kernel
theorem dL_law_316 : decode cL_law 316 = .ok (.aload_n 1, 1) := by decide +kernel
theorem dL_law_317 : decode cL_law 317 = .ok (.aload_n 0, 1) := by decide +kernel
theorem dL_law_318 : decode cL_law 318 = .ok (.iload 4, 2) := by decide +kernel
theorem dL_law_320 : decode cL_law 320 = .ok (.iconst 1, 1) := by decide +kernel
theorem dL_law_321 : decode cL_law 321 = .ok (.iadd, 1) := by decide +kernel
theorem dL_law_322 : decode cL_law 322 = .ok (.iaload, 1) := by decide +kernel
theorem dL_law_323 : decode cL_law 323 = .ok (.aload_n 0, 1) := by decide +kernel
theorem dL_law_324 : decode cL_law 324 = .ok (.iload 4, 2) := by decide +kernel
theorem dL_law_326 : decode cL_law 326 = .ok (.iconst 2, 1) := by decide +kernel
theorem dL_law_327 : decode cL_law 327 = .ok (.iadd, 1) := by decide +kernel
theorem dL_law_328 : decode cL_law 328 = .ok (.iaload, 1) := by decide +kernel
theorem dL_law_329 : decode cL_law 329 = .ok (.aload_n 3, 1) := by decide +kernel
theorem dL_law_330 : decode cL_law 330 = .ok (.invokestatic 95, 3) := by decide +kernel
theorem dL_law_333 : decode cL_law 333 = .ok (.istore 5, 2) := by decide +kernel
theorem dL_law_335 : decode cL_law 335 = .ok (.aload_n 2, 1) := by decide +kernel
theorem dL_law_336 : decode cL_law 336 = .ok (.aload_n 0, 1) := by decide +kernel
theorem dL_law_337 : decode cL_law 337 = .ok (.iload 4, 2) := by decide +kernel
theorem dL_law_339 : decode cL_law 339 = .ok (.iconst 1, 1) := by decide +kernel
theorem dL_law_340 : decode cL_law 340 = .ok (.iadd, 1) := by decide +kernel
theorem dL_law_341 : decode cL_law 341 = .ok (.iaload, 1) := by decide +kernel
theorem dL_law_342 : decode cL_law 342 = .ok (.aload_n 0, 1) := by decide +kernel
theorem dL_law_343 : decode cL_law 343 = .ok (.iload 4, 2) := by decide +kernel
theorem dL_law_345 : decode cL_law 345 = .ok (.iconst 2, 1) := by decide +kernel
theorem dL_law_346 : decode cL_law 346 = .ok (.iadd, 1) := by decide +kernel
theorem dL_law_347 : decode cL_law 347 = .ok (.iaload, 1) := by decide +kernel
theorem dL_law_348 : decode cL_law 348 = .ok (.invokevirtual 98, 3) := by decide +kernel
theorem dL_law_351 : decode cL_law 351 = .ok (.istore 6, 2) := by decide +kernel
theorem dL_law_353 : decode cL_law 353 = .ok (.aload_n 2, 1) := by decide +kernel
theorem dL_law_354 : decode cL_law 354 = .ok (.invokevirtual 89, 3) := by decide +kernel
theorem dL_law_357 : decode cL_law 357 = .ok (.iload 5, 2) := by decide +kernel
theorem dL_law_359 : decode cL_law 359 = .ok (.if_icmp .eq 5, 3) := by decide +kernel
theorem dL_law_362 : decode cL_law 362 = .ok (.iconst 0, 1) := by decide +kernel
theorem dL_law_363 : decode cL_law 363 = .ok (.ireturn, 1) := by decide +kernel
theorem dL_law_364 : decode cL_law 364 = .ok (.iload 5, 2) := by decide +kernel
theorem dL_law_366 : decode cL_law 366 = .ok (.ifCond .ne 15, 3) := by decide +kernel
theorem dL_law_369 : decode cL_law 369 = .ok (.aload_n 3, 1) := by decide +kernel
theorem dL_law_370 : decode cL_law 370 = .ok (.iconst 0, 1) := by decide +kernel
theorem dL_law_371 : decode cL_law 371 = .ok (.laload, 1) := by decide +kernel
theorem dL_law_372 : decode cL_law 372 = .ok (.iload 6, 2) := by decide +kernel
theorem dL_law_374 : decode cL_law 374 = .ok (.i2l, 1) := by decide +kernel
theorem dL_law_375 : decode cL_law 375 = .ok (.lcmp, 1) := by decide +kernel
theorem dL_law_376 : decode cL_law 376 = .ok (.ifCond .eq 5, 3) := by decide +kernel
theorem dL_law_379 : decode cL_law 379 = .ok (.iconst 0, 1) := by decide +kernel
theorem dL_law_380 : decode cL_law 380 = .ok (.ireturn, 1) := by decide +kernel
theorem dL_law_381 : decode cL_law 381 = .ok (.goto 1146, 3) := by decide +kernel
theorem dL_law_384 : decode cL_law 384 = .ok (.aload_n 1, 1) := by decide +kernel
theorem dL_law_385 : decode cL_law 385 = .ok (.aload_n 0, 1) := by decide +kernel
theorem dL_law_386 : decode cL_law 386 = .ok (.iload 4, 2) := by decide +kernel
theorem dL_law_388 : decode cL_law 388 = .ok (.iconst 1, 1) := by decide +kernel
theorem dL_law_389 : decode cL_law 389 = .ok (.iadd, 1) := by decide +kernel
theorem dL_law_390 : decode cL_law 390 = .ok (.iaload, 1) := by decide +kernel
theorem dL_law_391 : decode cL_law 391 = .ok (.aload_n 0, 1) := by decide +kernel
theorem dL_law_392 : decode cL_law 392 = .ok (.iload 4, 2) := by decide +kernel
theorem dL_law_394 : decode cL_law 394 = .ok (.iconst 2, 1) := by decide +kernel
theorem dL_law_395 : decode cL_law 395 = .ok (.iadd, 1) := by decide +kernel
theorem dL_law_396 : decode cL_law 396 = .ok (.iaload, 1) := by decide +kernel
theorem dL_law_397 : decode cL_law 397 = .ok (.aload_n 3, 1) := by decide +kernel
theorem dL_law_398 : decode cL_law 398 = .ok (.invokestatic 99, 3) := by decide +kernel
theorem dL_law_401 : decode cL_law 401 = .ok (.istore 5, 2) := by decide +kernel
theorem dL_law_403 : decode cL_law 403 = .ok (.aload_n 2, 1) := by decide +kernel
theorem dL_law_404 : decode cL_law 404 = .ok (.aload_n 0, 1) := by decide +kernel
theorem dL_law_405 : decode cL_law 405 = .ok (.iload 4, 2) := by decide +kernel
theorem dL_law_407 : decode cL_law 407 = .ok (.iconst 1, 1) := by decide +kernel
theorem dL_law_408 : decode cL_law 408 = .ok (.iadd, 1) := by decide +kernel
theorem dL_law_409 : decode cL_law 409 = .ok (.iaload, 1) := by decide +kernel
theorem dL_law_410 : decode cL_law 410 = .ok (.aload_n 0, 1) := by decide +kernel
theorem dL_law_411 : decode cL_law 411 = .ok (.iload 4, 2) := by decide +kernel
theorem dL_law_413 : decode cL_law 413 = .ok (.iconst 2, 1) := by decide +kernel
theorem dL_law_414 : decode cL_law 414 = .ok (.iadd, 1) := by decide +kernel
theorem dL_law_415 : decode cL_law 415 = .ok (.iaload, 1) := by decide +kernel
theorem dL_law_416 : decode cL_law 416 = .ok (.invokevirtual 101, 3) := by decide +kernel
theorem dL_law_419 : decode cL_law 419 = .ok (.istore 6, 2) := by decide +kernel
theorem dL_law_421 : decode cL_law 421 = .ok (.aload_n 2, 1) := by decide +kernel
theorem dL_law_422 : decode cL_law 422 = .ok (.invokevirtual 89, 3) := by decide +kernel
theorem dL_law_425 : decode cL_law 425 = .ok (.iload 5, 2) := by decide +kernel
theorem dL_law_427 : decode cL_law 427 = .ok (.if_icmp .eq 5, 3) := by decide +kernel
theorem dL_law_430 : decode cL_law 430 = .ok (.iconst 0, 1) := by decide +kernel
theorem dL_law_431 : decode cL_law 431 = .ok (.ireturn, 1) := by decide +kernel
theorem dL_law_432 : decode cL_law 432 = .ok (.iload 5, 2) := by decide +kernel
theorem dL_law_434 : decode cL_law 434 = .ok (.ifCond .ne 15, 3) := by decide +kernel
theorem dL_law_437 : decode cL_law 437 = .ok (.aload_n 3, 1) := by decide +kernel
theorem dL_law_438 : decode cL_law 438 = .ok (.iconst 0, 1) := by decide +kernel
theorem dL_law_439 : decode cL_law 439 = .ok (.laload, 1) := by decide +kernel
theorem dL_law_440 : decode cL_law 440 = .ok (.iload 6, 2) := by decide +kernel
theorem dL_law_442 : decode cL_law 442 = .ok (.i2l, 1) := by decide +kernel
theorem dL_law_443 : decode cL_law 443 = .ok (.lcmp, 1) := by decide +kernel
theorem dL_law_444 : decode cL_law 444 = .ok (.ifCond .eq 5, 3) := by decide +kernel
theorem dL_law_447 : decode cL_law 447 = .ok (.iconst 0, 1) := by decide +kernel
theorem dL_law_448 : decode cL_law 448 = .ok (.ireturn, 1) := by decide +kernel
theorem dL_law_449 : decode cL_law 449 = .ok (.goto 1078, 3) := by decide +kernel
theorem dL_law_452 : decode cL_law 452 = .ok (.aload_n 1, 1) := by decide +kernel
theorem dL_law_453 : decode cL_law 453 = .ok (.aload_n 0, 1) := by decide +kernel
theorem dL_law_454 : decode cL_law 454 = .ok (.iload 4, 2) := by decide +kernel
theorem dL_law_456 : decode cL_law 456 = .ok (.iconst 1, 1) := by decide +kernel
theorem dL_law_457 : decode cL_law 457 = .ok (.iadd, 1) := by decide +kernel
theorem dL_law_458 : decode cL_law 458 = .ok (.iaload, 1) := by decide +kernel
theorem dL_law_459 : decode cL_law 459 = .ok (.aload_n 0, 1) := by decide +kernel
theorem dL_law_460 : decode cL_law 460 = .ok (.iload 4, 2) := by decide +kernel
theorem dL_law_462 : decode cL_law 462 = .ok (.iconst 2, 1) := by decide +kernel
theorem dL_law_463 : decode cL_law 463 = .ok (.iadd, 1) := by decide +kernel
theorem dL_law_464 : decode cL_law 464 = .ok (.iaload, 1) := by decide +kernel
theorem dL_law_465 : decode cL_law 465 = .ok (.aload_n 0, 1) := by decide +kernel
theorem dL_law_466 : decode cL_law 466 = .ok (.iload 4, 2) := by decide +kernel
theorem dL_law_468 : decode cL_law 468 = .ok (.iconst 3, 1) := by decide +kernel
theorem dL_law_469 : decode cL_law 469 = .ok (.iadd, 1) := by decide +kernel
theorem dL_law_470 : decode cL_law 470 = .ok (.iaload, 1) := by decide +kernel
theorem dL_law_471 : decode cL_law 471 = .ok (.aload_n 3, 1) := by decide +kernel
theorem dL_law_472 : decode cL_law 472 = .ok (.invokestatic 102, 3) := by decide +kernel
theorem dL_law_475 : decode cL_law 475 = .ok (.istore 5, 2) := by decide +kernel
theorem dL_law_477 : decode cL_law 477 = .ok (.aload_n 2, 1) := by decide +kernel
theorem dL_law_478 : decode cL_law 478 = .ok (.aload_n 0, 1) := by decide +kernel
theorem dL_law_479 : decode cL_law 479 = .ok (.iload 4, 2) := by decide +kernel
theorem dL_law_481 : decode cL_law 481 = .ok (.iconst 1, 1) := by decide +kernel
theorem dL_law_482 : decode cL_law 482 = .ok (.iadd, 1) := by decide +kernel
theorem dL_law_483 : decode cL_law 483 = .ok (.iaload, 1) := by decide +kernel
theorem dL_law_484 : decode cL_law 484 = .ok (.aload_n 0, 1) := by decide +kernel
theorem dL_law_485 : decode cL_law 485 = .ok (.iload 4, 2) := by decide +kernel
theorem dL_law_487 : decode cL_law 487 = .ok (.iconst 2, 1) := by decide +kernel
theorem dL_law_488 : decode cL_law 488 = .ok (.iadd, 1) := by decide +kernel
theorem dL_law_489 : decode cL_law 489 = .ok (.iaload, 1) := by decide +kernel
theorem dL_law_490 : decode cL_law 490 = .ok (.aload_n 0, 1) := by decide +kernel
theorem dL_law_491 : decode cL_law 491 = .ok (.iload 4, 2) := by decide +kernel
theorem dL_law_493 : decode cL_law 493 = .ok (.iconst 3, 1) := by decide +kernel
theorem dL_law_494 : decode cL_law 494 = .ok (.iadd, 1) := by decide +kernel
theorem dL_law_495 : decode cL_law 495 = .ok (.iaload, 1) := by decide +kernel
theorem dL_law_496 : decode cL_law 496 = .ok (.invokevirtual 104, 3) := by decide +kernel
theorem dL_law_499 : decode cL_law 499 = .ok (.istore 6, 2) := by decide +kernel
theorem dL_law_501 : decode cL_law 501 = .ok (.aload_n 2, 1) := by decide +kernel
theorem dL_law_502 : decode cL_law 502 = .ok (.invokevirtual 89, 3) := by decide +kernel
theorem dL_law_505 : decode cL_law 505 = .ok (.iload 5, 2) := by decide +kernel
theorem dL_law_507 : decode cL_law 507 = .ok (.if_icmp .eq 5, 3) := by decide +kernel
theorem dL_law_510 : decode cL_law 510 = .ok (.iconst 0, 1) := by decide +kernel
theorem dL_law_511 : decode cL_law 511 = .ok (.ireturn, 1) := by decide +kernel
theorem dL_law_512 : decode cL_law 512 = .ok (.iload 5, 2) := by decide +kernel
theorem dL_law_514 : decode cL_law 514 = .ok (.ifCond .ne 15, 3) := by decide +kernel
theorem dL_law_517 : decode cL_law 517 = .ok (.aload_n 3, 1) := by decide +kernel
theorem dL_law_518 : decode cL_law 518 = .ok (.iconst 0, 1) := by decide +kernel
theorem dL_law_519 : decode cL_law 519 = .ok (.laload, 1) := by decide +kernel
theorem dL_law_520 : decode cL_law 520 = .ok (.iload 6, 2) := by decide +kernel
theorem dL_law_522 : decode cL_law 522 = .ok (.i2l, 1) := by decide +kernel
theorem dL_law_523 : decode cL_law 523 = .ok (.lcmp, 1) := by decide +kernel
theorem dL_law_524 : decode cL_law 524 = .ok (.ifCond .eq 5, 3) := by decide +kernel
theorem dL_law_527 : decode cL_law 527 = .ok (.iconst 0, 1) := by decide +kernel
theorem dL_law_528 : decode cL_law 528 = .ok (.ireturn, 1) := by decide +kernel
theorem dL_law_529 : decode cL_law 529 = .ok (.goto 998, 3) := by decide +kernel
theorem dL_law_532 : decode cL_law 532 = .ok (.aload_n 1, 1) := by decide +kernel
theorem dL_law_533 : decode cL_law 533 = .ok (.aload_n 0, 1) := by decide +kernel
theorem dL_law_534 : decode cL_law 534 = .ok (.iload 4, 2) := by decide +kernel
theorem dL_law_536 : decode cL_law 536 = .ok (.iconst 1, 1) := by decide +kernel
theorem dL_law_537 : decode cL_law 537 = .ok (.iadd, 1) := by decide +kernel
theorem dL_law_538 : decode cL_law 538 = .ok (.iaload, 1) := by decide +kernel
theorem dL_law_539 : decode cL_law 539 = .ok (.aload_n 3, 1) := by decide +kernel
theorem dL_law_540 : decode cL_law 540 = .ok (.invokestatic 105, 3) := by decide +kernel
theorem dL_law_543 : decode cL_law 543 = .ok (.istore 5, 2) := by decide +kernel
theorem dL_law_545 : decode cL_law 545 = .ok (.aload_n 2, 1) := by decide +kernel
theorem dL_law_546 : decode cL_law 546 = .ok (.aload_n 0, 1) := by decide +kernel
theorem dL_law_547 : decode cL_law 547 = .ok (.iload 4, 2) := by decide +kernel
theorem dL_law_549 : decode cL_law 549 = .ok (.iconst 1, 1) := by decide +kernel
theorem dL_law_550 : decode cL_law 550 = .ok (.iadd, 1) := by decide +kernel
theorem dL_law_551 : decode cL_law 551 = .ok (.iaload, 1) := by decide +kernel
theorem dL_law_552 : decode cL_law 552 = .ok (.invokevirtual 108, 3) := by decide +kernel
theorem dL_law_555 : decode cL_law 555 = .ok (.istore 6, 2) := by decide +kernel
theorem dL_law_557 : decode cL_law 557 = .ok (.aload_n 2, 1) := by decide +kernel
theorem dL_law_558 : decode cL_law 558 = .ok (.invokevirtual 89, 3) := by decide +kernel
theorem dL_law_561 : decode cL_law 561 = .ok (.iload 5, 2) := by decide +kernel
theorem dL_law_563 : decode cL_law 563 = .ok (.if_icmp .eq 5, 3) := by decide +kernel
theorem dL_law_566 : decode cL_law 566 = .ok (.iconst 0, 1) := by decide +kernel
theorem dL_law_567 : decode cL_law 567 = .ok (.ireturn, 1) := by decide +kernel
theorem dL_law_568 : decode cL_law 568 = .ok (.iload 5, 2) := by decide +kernel
theorem dL_law_570 : decode cL_law 570 = .ok (.ifCond .ne 15, 3) := by decide +kernel
theorem dL_law_573 : decode cL_law 573 = .ok (.aload_n 3, 1) := by decide +kernel
theorem dL_law_574 : decode cL_law 574 = .ok (.iconst 0, 1) := by decide +kernel
theorem dL_law_575 : decode cL_law 575 = .ok (.laload, 1) := by decide +kernel
theorem dL_law_576 : decode cL_law 576 = .ok (.iload 6, 2) := by decide +kernel
theorem dL_law_578 : decode cL_law 578 = .ok (.i2l, 1) := by decide +kernel
theorem dL_law_579 : decode cL_law 579 = .ok (.lcmp, 1) := by decide +kernel
theorem dL_law_580 : decode cL_law 580 = .ok (.ifCond .eq 5, 3) := by decide +kernel
theorem dL_law_583 : decode cL_law 583 = .ok (.iconst 0, 1) := by decide +kernel
theorem dL_law_584 : decode cL_law 584 = .ok (.ireturn, 1) := by decide +kernel
theorem dL_law_585 : decode cL_law 585 = .ok (.goto 942, 3) := by decide +kernel
theorem dL_law_588 : decode cL_law 588 = .ok (.aload_n 1, 1) := by decide +kernel
theorem dL_law_589 : decode cL_law 589 = .ok (.aload_n 0, 1) := by decide +kernel
theorem dL_law_590 : decode cL_law 590 = .ok (.iload 4, 2) := by decide +kernel
theorem dL_law_592 : decode cL_law 592 = .ok (.iconst 1, 1) := by decide +kernel
theorem dL_law_593 : decode cL_law 593 = .ok (.iadd, 1) := by decide +kernel
theorem dL_law_594 : decode cL_law 594 = .ok (.iaload, 1) := by decide +kernel
theorem dL_law_595 : decode cL_law 595 = .ok (.aload_n 3, 1) := by decide +kernel
theorem dL_law_596 : decode cL_law 596 = .ok (.invokestatic 109, 3) := by decide +kernel
theorem dL_law_599 : decode cL_law 599 = .ok (.istore 5, 2) := by decide +kernel
theorem dL_law_601 : decode cL_law 601 = .ok (.aload_n 2, 1) := by decide +kernel
theorem dL_law_602 : decode cL_law 602 = .ok (.aload_n 0, 1) := by decide +kernel
theorem dL_law_603 : decode cL_law 603 = .ok (.iload 4, 2) := by decide +kernel
theorem dL_law_605 : decode cL_law 605 = .ok (.iconst 1, 1) := by decide +kernel
theorem dL_law_606 : decode cL_law 606 = .ok (.iadd, 1) := by decide +kernel
theorem dL_law_607 : decode cL_law 607 = .ok (.iaload, 1) := by decide +kernel
theorem dL_law_608 : decode cL_law 608 = .ok (.invokevirtual 111, 3) := by decide +kernel
theorem dL_law_611 : decode cL_law 611 = .ok (.istore 6, 2) := by decide +kernel
theorem dL_law_613 : decode cL_law 613 = .ok (.aload_n 2, 1) := by decide +kernel
theorem dL_law_614 : decode cL_law 614 = .ok (.invokevirtual 89, 3) := by decide +kernel
theorem dL_law_617 : decode cL_law 617 = .ok (.iload 5, 2) := by decide +kernel
theorem dL_law_619 : decode cL_law 619 = .ok (.if_icmp .eq 5, 3) := by decide +kernel
theorem dL_law_622 : decode cL_law 622 = .ok (.iconst 0, 1) := by decide +kernel
theorem dL_law_623 : decode cL_law 623 = .ok (.ireturn, 1) := by decide +kernel
theorem dL_law_624 : decode cL_law 624 = .ok (.iload 5, 2) := by decide +kernel
theorem dL_law_626 : decode cL_law 626 = .ok (.ifCond .ne 15, 3) := by decide +kernel
theorem dL_law_629 : decode cL_law 629 = .ok (.aload_n 3, 1) := by decide +kernel
theorem dL_law_630 : decode cL_law 630 = .ok (.iconst 0, 1) := by decide +kernel
theorem dL_law_631 : decode cL_law 631 = .ok (.laload, 1) := by decide +kernel
theorem dL_law_632 : decode cL_law 632 = .ok (.iload 6, 2) := by decide +kernel
theorem dL_law_634 : decode cL_law 634 = .ok (.i2l, 1) := by decide +kernel
theorem dL_law_635 : decode cL_law 635 = .ok (.lcmp, 1) := by decide +kernel
theorem dL_law_636 : decode cL_law 636 = .ok (.ifCond .eq 5, 3) := by decide +kernel
theorem dL_law_639 : decode cL_law 639 = .ok (.iconst 0, 1) := by decide +kernel
theorem dL_law_640 : decode cL_law 640 = .ok (.ireturn, 1) := by decide +kernel
theorem dL_law_641 : decode cL_law 641 = .ok (.goto 886, 3) := by decide +kernel
theorem dL_law_644 : decode cL_law 644 = .ok (.aload_n 1, 1) := by decide +kernel
theorem dL_law_645 : decode cL_law 645 = .ok (.aload_n 0, 1) := by decide +kernel
theorem dL_law_646 : decode cL_law 646 = .ok (.iload 4, 2) := by decide +kernel
theorem dL_law_648 : decode cL_law 648 = .ok (.iconst 1, 1) := by decide +kernel
theorem dL_law_649 : decode cL_law 649 = .ok (.iadd, 1) := by decide +kernel
theorem dL_law_650 : decode cL_law 650 = .ok (.iaload, 1) := by decide +kernel
theorem dL_law_651 : decode cL_law 651 = .ok (.aload_n 3, 1) := by decide +kernel
theorem dL_law_652 : decode cL_law 652 = .ok (.invokestatic 112, 3) := by decide +kernel
theorem dL_law_655 : decode cL_law 655 = .ok (.istore 5, 2) := by decide +kernel
theorem dL_law_657 : decode cL_law 657 = .ok (.aload_n 2, 1) := by decide +kernel
theorem dL_law_658 : decode cL_law 658 = .ok (.aload_n 0, 1) := by decide +kernel
theorem dL_law_659 : decode cL_law 659 = .ok (.iload 4, 2) := by decide +kernel
theorem dL_law_661 : decode cL_law 661 = .ok (.iconst 1, 1) := by decide +kernel
theorem dL_law_662 : decode cL_law 662 = .ok (.iadd, 1) := by decide +kernel
theorem dL_law_663 : decode cL_law 663 = .ok (.iaload, 1) := by decide +kernel
theorem dL_law_664 : decode cL_law 664 = .ok (.invokevirtual 114, 3) := by decide +kernel
theorem dL_law_667 : decode cL_law 667 = .ok (.istore 6, 2) := by decide +kernel
theorem dL_law_669 : decode cL_law 669 = .ok (.aload_n 2, 1) := by decide +kernel
theorem dL_law_670 : decode cL_law 670 = .ok (.invokevirtual 89, 3) := by decide +kernel
theorem dL_law_673 : decode cL_law 673 = .ok (.iload 5, 2) := by decide +kernel
theorem dL_law_675 : decode cL_law 675 = .ok (.if_icmp .eq 5, 3) := by decide +kernel
theorem dL_law_678 : decode cL_law 678 = .ok (.iconst 0, 1) := by decide +kernel
theorem dL_law_679 : decode cL_law 679 = .ok (.ireturn, 1) := by decide +kernel
theorem dL_law_680 : decode cL_law 680 = .ok (.iload 5, 2) := by decide +kernel
theorem dL_law_682 : decode cL_law 682 = .ok (.ifCond .ne 15, 3) := by decide +kernel
theorem dL_law_685 : decode cL_law 685 = .ok (.aload_n 3, 1) := by decide +kernel
theorem dL_law_686 : decode cL_law 686 = .ok (.iconst 0, 1) := by decide +kernel
theorem dL_law_687 : decode cL_law 687 = .ok (.laload, 1) := by decide +kernel
theorem dL_law_688 : decode cL_law 688 = .ok (.iload 6, 2) := by decide +kernel
theorem dL_law_690 : decode cL_law 690 = .ok (.i2l, 1) := by decide +kernel
theorem dL_law_691 : decode cL_law 691 = .ok (.lcmp, 1) := by decide +kernel
theorem dL_law_692 : decode cL_law 692 = .ok (.ifCond .eq 5, 3) := by decide +kernel
theorem dL_law_695 : decode cL_law 695 = .ok (.iconst 0, 1) := by decide +kernel
theorem dL_law_696 : decode cL_law 696 = .ok (.ireturn, 1) := by decide +kernel
theorem dL_law_697 : decode cL_law 697 = .ok (.goto 830, 3) := by decide +kernel
theorem dL_law_700 : decode cL_law 700 = .ok (.aload_n 1, 1) := by decide +kernel
theorem dL_law_701 : decode cL_law 701 = .ok (.invokevirtual 115, 3) := by decide +kernel
theorem dL_law_704 : decode cL_law 704 = .ok (.aload_n 2, 1) := by decide +kernel
theorem dL_law_705 : decode cL_law 705 = .ok (.invokevirtual 118, 3) := by decide +kernel
theorem dL_law_708 : decode cL_law 708 = .ok (.if_icmp .eq 819, 3) := by decide +kernel
theorem dL_law_711 : decode cL_law 711 = .ok (.iconst 0, 1) := by decide +kernel
theorem dL_law_712 : decode cL_law 712 = .ok (.ireturn, 1) := by decide +kernel
theorem dL_law_713 : decode cL_law 713 = .ok (.aload_n 1, 1) := by decide +kernel
theorem dL_law_714 : decode cL_law 714 = .ok (.invokevirtual 119, 3) := by decide +kernel
theorem dL_law_717 : decode cL_law 717 = .ok (.aload_n 2, 1) := by decide +kernel
theorem dL_law_718 : decode cL_law 718 = .ok (.invokevirtual 122, 3) := by decide +kernel
theorem dL_law_721 : decode cL_law 721 = .ok (.if_icmp .eq 806, 3) := by decide +kernel
theorem dL_law_724 : decode cL_law 724 = .ok (.iconst 0, 1) := by decide +kernel
theorem dL_law_725 : decode cL_law 725 = .ok (.ireturn, 1) := by decide +kernel
theorem dL_law_726 : decode cL_law 726 = .ok (.aload_n 1, 1) := by decide +kernel
theorem dL_law_727 : decode cL_law 727 = .ok (.aload_n 3, 1) := by decide +kernel
theorem dL_law_728 : decode cL_law 728 = .ok (.invokestatic 123, 3) := by decide +kernel
theorem dL_law_731 : decode cL_law 731 = .ok (.istore 5, 2) := by decide +kernel
theorem dL_law_733 : decode cL_law 733 = .ok (.aload_n 2, 1) := by decide +kernel
theorem dL_law_734 : decode cL_law 734 = .ok (.invokevirtual 126, 3) := by decide +kernel
theorem dL_law_737 : decode cL_law 737 = .ok (.istore 6, 2) := by decide +kernel
theorem dL_law_739 : decode cL_law 739 = .ok (.aload_n 2, 1) := by decide +kernel
theorem dL_law_740 : decode cL_law 740 = .ok (.invokevirtual 89, 3) := by decide +kernel
theorem dL_law_743 : decode cL_law 743 = .ok (.iload 5, 2) := by decide +kernel
theorem dL_law_745 : decode cL_law 745 = .ok (.if_icmp .eq 5, 3) := by decide +kernel
theorem dL_law_748 : decode cL_law 748 = .ok (.iconst 0, 1) := by decide +kernel
theorem dL_law_749 : decode cL_law 749 = .ok (.ireturn, 1) := by decide +kernel
theorem dL_law_750 : decode cL_law 750 = .ok (.iload 5, 2) := by decide +kernel
theorem dL_law_752 : decode cL_law 752 = .ok (.ifCond .ne 15, 3) := by decide +kernel
theorem dL_law_755 : decode cL_law 755 = .ok (.aload_n 3, 1) := by decide +kernel
theorem dL_law_756 : decode cL_law 756 = .ok (.iconst 0, 1) := by decide +kernel
theorem dL_law_757 : decode cL_law 757 = .ok (.laload, 1) := by decide +kernel
theorem dL_law_758 : decode cL_law 758 = .ok (.iload 6, 2) := by decide +kernel
theorem dL_law_760 : decode cL_law 760 = .ok (.i2l, 1) := by decide +kernel
theorem dL_law_761 : decode cL_law 761 = .ok (.lcmp, 1) := by decide +kernel
theorem dL_law_762 : decode cL_law 762 = .ok (.ifCond .eq 5, 3) := by decide +kernel
theorem dL_law_765 : decode cL_law 765 = .ok (.iconst 0, 1) := by decide +kernel
theorem dL_law_766 : decode cL_law 766 = .ok (.ireturn, 1) := by decide +kernel
theorem dL_law_767 : decode cL_law 767 = .ok (.goto 760, 3) := by decide +kernel
theorem dL_law_770 : decode cL_law 770 = .ok (.aload_n 1, 1) := by decide +kernel
theorem dL_law_771 : decode cL_law 771 = .ok (.aload_n 0, 1) := by decide +kernel
theorem dL_law_772 : decode cL_law 772 = .ok (.iload 4, 2) := by decide +kernel
theorem dL_law_774 : decode cL_law 774 = .ok (.iconst 1, 1) := by decide +kernel
theorem dL_law_775 : decode cL_law 775 = .ok (.iadd, 1) := by decide +kernel
theorem dL_law_776 : decode cL_law 776 = .ok (.iaload, 1) := by decide +kernel
theorem dL_law_777 : decode cL_law 777 = .ok (.aload_n 3, 1) := by decide +kernel
theorem dL_law_778 : decode cL_law 778 = .ok (.invokestatic 127, 3) := by decide +kernel
theorem dL_law_781 : decode cL_law 781 = .ok (.istore 5, 2) := by decide +kernel
theorem dL_law_783 : decode cL_law 783 = .ok (.aload_n 2, 1) := by decide +kernel
theorem dL_law_784 : decode cL_law 784 = .ok (.aload_n 0, 1) := by decide +kernel
theorem dL_law_785 : decode cL_law 785 = .ok (.iload 4, 2) := by decide +kernel
theorem dL_law_787 : decode cL_law 787 = .ok (.iconst 1, 1) := by decide +kernel
theorem dL_law_788 : decode cL_law 788 = .ok (.iadd, 1) := by decide +kernel
theorem dL_law_789 : decode cL_law 789 = .ok (.iaload, 1) := by decide +kernel
theorem dL_law_790 : decode cL_law 790 = .ok (.invokevirtual 129, 3) := by decide +kernel
theorem dL_law_793 : decode cL_law 793 = .ok (.istore 6, 2) := by decide +kernel
theorem dL_law_795 : decode cL_law 795 = .ok (.aload_n 2, 1) := by decide +kernel
theorem dL_law_796 : decode cL_law 796 = .ok (.invokevirtual 89, 3) := by decide +kernel
theorem dL_law_799 : decode cL_law 799 = .ok (.iload 5, 2) := by decide +kernel
theorem dL_law_801 : decode cL_law 801 = .ok (.if_icmp .eq 5, 3) := by decide +kernel
theorem dL_law_804 : decode cL_law 804 = .ok (.iconst 0, 1) := by decide +kernel
theorem dL_law_805 : decode cL_law 805 = .ok (.ireturn, 1) := by decide +kernel
theorem dL_law_806 : decode cL_law 806 = .ok (.iload 5, 2) := by decide +kernel
theorem dL_law_808 : decode cL_law 808 = .ok (.ifCond .ne 15, 3) := by decide +kernel
theorem dL_law_811 : decode cL_law 811 = .ok (.aload_n 3, 1) := by decide +kernel
theorem dL_law_812 : decode cL_law 812 = .ok (.iconst 0, 1) := by decide +kernel
theorem dL_law_813 : decode cL_law 813 = .ok (.laload, 1) := by decide +kernel
theorem dL_law_814 : decode cL_law 814 = .ok (.iload 6, 2) := by decide +kernel
theorem dL_law_816 : decode cL_law 816 = .ok (.i2l, 1) := by decide +kernel
theorem dL_law_817 : decode cL_law 817 = .ok (.lcmp, 1) := by decide +kernel
theorem dL_law_818 : decode cL_law 818 = .ok (.ifCond .eq 5, 3) := by decide +kernel
theorem dL_law_821 : decode cL_law 821 = .ok (.iconst 0, 1) := by decide +kernel
theorem dL_law_822 : decode cL_law 822 = .ok (.ireturn, 1) := by decide +kernel
theorem dL_law_823 : decode cL_law 823 = .ok (.goto 704, 3) := by decide +kernel
theorem dL_law_826 : decode cL_law 826 = .ok (.aload_n 1, 1) := by decide +kernel
theorem dL_law_827 : decode cL_law 827 = .ok (.aload_n 0, 1) := by decide +kernel
theorem dL_law_828 : decode cL_law 828 = .ok (.iload 4, 2) := by decide +kernel
theorem dL_law_830 : decode cL_law 830 = .ok (.iconst 1, 1) := by decide +kernel
theorem dL_law_831 : decode cL_law 831 = .ok (.iadd, 1) := by decide +kernel
theorem dL_law_832 : decode cL_law 832 = .ok (.iaload, 1) := by decide +kernel
theorem dL_law_833 : decode cL_law 833 = .ok (.aload_n 3, 1) := by decide +kernel
theorem dL_law_834 : decode cL_law 834 = .ok (.invokestatic 130, 3) := by decide +kernel
theorem dL_law_837 : decode cL_law 837 = .ok (.istore 5, 2) := by decide +kernel
theorem dL_law_839 : decode cL_law 839 = .ok (.aload_n 2, 1) := by decide +kernel
theorem dL_law_840 : decode cL_law 840 = .ok (.aload_n 0, 1) := by decide +kernel
theorem dL_law_841 : decode cL_law 841 = .ok (.iload 4, 2) := by decide +kernel
theorem dL_law_843 : decode cL_law 843 = .ok (.iconst 1, 1) := by decide +kernel
theorem dL_law_844 : decode cL_law 844 = .ok (.iadd, 1) := by decide +kernel
theorem dL_law_845 : decode cL_law 845 = .ok (.iaload, 1) := by decide +kernel
theorem dL_law_846 : decode cL_law 846 = .ok (.invokevirtual 132, 3) := by decide +kernel
theorem dL_law_849 : decode cL_law 849 = .ok (.istore 6, 2) := by decide +kernel
theorem dL_law_851 : decode cL_law 851 = .ok (.aload_n 2, 1) := by decide +kernel
theorem dL_law_852 : decode cL_law 852 = .ok (.invokevirtual 89, 3) := by decide +kernel
theorem dL_law_855 : decode cL_law 855 = .ok (.iload 5, 2) := by decide +kernel
theorem dL_law_857 : decode cL_law 857 = .ok (.if_icmp .eq 5, 3) := by decide +kernel
theorem dL_law_860 : decode cL_law 860 = .ok (.iconst 0, 1) := by decide +kernel
theorem dL_law_861 : decode cL_law 861 = .ok (.ireturn, 1) := by decide +kernel
theorem dL_law_862 : decode cL_law 862 = .ok (.iload 5, 2) := by decide +kernel
theorem dL_law_864 : decode cL_law 864 = .ok (.ifCond .ne 15, 3) := by decide +kernel
theorem dL_law_867 : decode cL_law 867 = .ok (.aload_n 3, 1) := by decide +kernel
theorem dL_law_868 : decode cL_law 868 = .ok (.iconst 0, 1) := by decide +kernel
theorem dL_law_869 : decode cL_law 869 = .ok (.laload, 1) := by decide +kernel
theorem dL_law_870 : decode cL_law 870 = .ok (.iload 6, 2) := by decide +kernel
theorem dL_law_872 : decode cL_law 872 = .ok (.i2l, 1) := by decide +kernel
theorem dL_law_873 : decode cL_law 873 = .ok (.lcmp, 1) := by decide +kernel
theorem dL_law_874 : decode cL_law 874 = .ok (.ifCond .eq 5, 3) := by decide +kernel
theorem dL_law_877 : decode cL_law 877 = .ok (.iconst 0, 1) := by decide +kernel
theorem dL_law_878 : decode cL_law 878 = .ok (.ireturn, 1) := by decide +kernel
theorem dL_law_879 : decode cL_law 879 = .ok (.goto 648, 3) := by decide +kernel
theorem dL_law_882 : decode cL_law 882 = .ok (.aload_n 1, 1) := by decide +kernel
theorem dL_law_883 : decode cL_law 883 = .ok (.aload_n 3, 1) := by decide +kernel
theorem dL_law_884 : decode cL_law 884 = .ok (.invokestatic 133, 3) := by decide +kernel
theorem dL_law_887 : decode cL_law 887 = .ok (.istore 5, 2) := by decide +kernel
theorem dL_law_889 : decode cL_law 889 = .ok (.aload_n 2, 1) := by decide +kernel
theorem dL_law_890 : decode cL_law 890 = .ok (.invokevirtual 135, 3) := by decide +kernel
theorem dL_law_893 : decode cL_law 893 = .ok (.istore 6, 2) := by decide +kernel
theorem dL_law_895 : decode cL_law 895 = .ok (.aload_n 2, 1) := by decide +kernel
theorem dL_law_896 : decode cL_law 896 = .ok (.invokevirtual 89, 3) := by decide +kernel
theorem dL_law_899 : decode cL_law 899 = .ok (.iload 5, 2) := by decide +kernel
theorem dL_law_901 : decode cL_law 901 = .ok (.if_icmp .eq 5, 3) := by decide +kernel
theorem dL_law_904 : decode cL_law 904 = .ok (.iconst 0, 1) := by decide +kernel
theorem dL_law_905 : decode cL_law 905 = .ok (.ireturn, 1) := by decide +kernel
theorem dL_law_906 : decode cL_law 906 = .ok (.iload 5, 2) := by decide +kernel
theorem dL_law_908 : decode cL_law 908 = .ok (.ifCond .ne 15, 3) := by decide +kernel
theorem dL_law_911 : decode cL_law 911 = .ok (.aload_n 3, 1) := by decide +kernel
theorem dL_law_912 : decode cL_law 912 = .ok (.iconst 0, 1) := by decide +kernel
theorem dL_law_913 : decode cL_law 913 = .ok (.laload, 1) := by decide +kernel
theorem dL_law_914 : decode cL_law 914 = .ok (.iload 6, 2) := by decide +kernel
theorem dL_law_916 : decode cL_law 916 = .ok (.i2l, 1) := by decide +kernel
theorem dL_law_917 : decode cL_law 917 = .ok (.lcmp, 1) := by decide +kernel
theorem dL_law_918 : decode cL_law 918 = .ok (.ifCond .eq 5, 3) := by decide +kernel
theorem dL_law_921 : decode cL_law 921 = .ok (.iconst 0, 1) := by decide +kernel
theorem dL_law_922 : decode cL_law 922 = .ok (.ireturn, 1) := by decide +kernel
theorem dL_law_923 : decode cL_law 923 = .ok (.goto 604, 3) := by decide +kernel
theorem dL_law_926 : decode cL_law 926 = .ok (.aload_n 1, 1) := by decide +kernel
theorem dL_law_927 : decode cL_law 927 = .ok (.aload_n 0, 1) := by decide +kernel
theorem dL_law_928 : decode cL_law 928 = .ok (.iload 4, 2) := by decide +kernel
theorem dL_law_930 : decode cL_law 930 = .ok (.iconst 1, 1) := by decide +kernel
theorem dL_law_931 : decode cL_law 931 = .ok (.iadd, 1) := by decide +kernel
theorem dL_law_932 : decode cL_law 932 = .ok (.iaload, 1) := by decide +kernel
theorem dL_law_933 : decode cL_law 933 = .ok (.aload_n 0, 1) := by decide +kernel
theorem dL_law_934 : decode cL_law 934 = .ok (.iload 4, 2) := by decide +kernel
theorem dL_law_936 : decode cL_law 936 = .ok (.iconst 2, 1) := by decide +kernel
theorem dL_law_937 : decode cL_law 937 = .ok (.iadd, 1) := by decide +kernel
theorem dL_law_938 : decode cL_law 938 = .ok (.iaload, 1) := by decide +kernel
theorem dL_law_939 : decode cL_law 939 = .ok (.aload_n 3, 1) := by decide +kernel
theorem dL_law_940 : decode cL_law 940 = .ok (.invokestatic 136, 3) := by decide +kernel
theorem dL_law_943 : decode cL_law 943 = .ok (.istore 5, 2) := by decide +kernel
theorem dL_law_945 : decode cL_law 945 = .ok (.aload_n 2, 1) := by decide +kernel
theorem dL_law_946 : decode cL_law 946 = .ok (.aload_n 0, 1) := by decide +kernel
theorem dL_law_947 : decode cL_law 947 = .ok (.iload 4, 2) := by decide +kernel
theorem dL_law_949 : decode cL_law 949 = .ok (.iconst 1, 1) := by decide +kernel
theorem dL_law_950 : decode cL_law 950 = .ok (.iadd, 1) := by decide +kernel
theorem dL_law_951 : decode cL_law 951 = .ok (.iaload, 1) := by decide +kernel
theorem dL_law_952 : decode cL_law 952 = .ok (.aload_n 0, 1) := by decide +kernel
theorem dL_law_953 : decode cL_law 953 = .ok (.iload 4, 2) := by decide +kernel
theorem dL_law_955 : decode cL_law 955 = .ok (.iconst 2, 1) := by decide +kernel
theorem dL_law_956 : decode cL_law 956 = .ok (.iadd, 1) := by decide +kernel
theorem dL_law_957 : decode cL_law 957 = .ok (.iaload, 1) := by decide +kernel
theorem dL_law_958 : decode cL_law 958 = .ok (.invokevirtual 138, 3) := by decide +kernel
theorem dL_law_961 : decode cL_law 961 = .ok (.istore 6, 2) := by decide +kernel
theorem dL_law_963 : decode cL_law 963 = .ok (.aload_n 2, 1) := by decide +kernel
theorem dL_law_964 : decode cL_law 964 = .ok (.invokevirtual 89, 3) := by decide +kernel
theorem dL_law_967 : decode cL_law 967 = .ok (.iload 5, 2) := by decide +kernel
theorem dL_law_969 : decode cL_law 969 = .ok (.if_icmp .eq 5, 3) := by decide +kernel
theorem dL_law_972 : decode cL_law 972 = .ok (.iconst 0, 1) := by decide +kernel
theorem dL_law_973 : decode cL_law 973 = .ok (.ireturn, 1) := by decide +kernel
theorem dL_law_974 : decode cL_law 974 = .ok (.iload 5, 2) := by decide +kernel
theorem dL_law_976 : decode cL_law 976 = .ok (.ifCond .ne 15, 3) := by decide +kernel
theorem dL_law_979 : decode cL_law 979 = .ok (.aload_n 3, 1) := by decide +kernel
theorem dL_law_980 : decode cL_law 980 = .ok (.iconst 0, 1) := by decide +kernel
theorem dL_law_981 : decode cL_law 981 = .ok (.laload, 1) := by decide +kernel
theorem dL_law_982 : decode cL_law 982 = .ok (.iload 6, 2) := by decide +kernel
theorem dL_law_984 : decode cL_law 984 = .ok (.i2l, 1) := by decide +kernel
theorem dL_law_985 : decode cL_law 985 = .ok (.lcmp, 1) := by decide +kernel
theorem dL_law_986 : decode cL_law 986 = .ok (.ifCond .eq 5, 3) := by decide +kernel
theorem dL_law_989 : decode cL_law 989 = .ok (.iconst 0, 1) := by decide +kernel
theorem dL_law_990 : decode cL_law 990 = .ok (.ireturn, 1) := by decide +kernel
theorem dL_law_991 : decode cL_law 991 = .ok (.goto 536, 3) := by decide +kernel
theorem dL_law_994 : decode cL_law 994 = .ok (.aload_n 1, 1) := by decide +kernel
theorem dL_law_995 : decode cL_law 995 = .ok (.aload_n 0, 1) := by decide +kernel
theorem dL_law_996 : decode cL_law 996 = .ok (.iload 4, 2) := by decide +kernel
theorem dL_law_998 : decode cL_law 998 = .ok (.iconst 1, 1) := by decide +kernel
theorem dL_law_999 : decode cL_law 999 = .ok (.iadd, 1) := by decide +kernel
theorem dL_law_1000 : decode cL_law 1000 = .ok (.iaload, 1) := by decide +kernel
theorem dL_law_1001 : decode cL_law 1001 = .ok (.aload_n 0, 1) := by decide +kernel
theorem dL_law_1002 : decode cL_law 1002 = .ok (.iload 4, 2) := by decide +kernel
theorem dL_law_1004 : decode cL_law 1004 = .ok (.iconst 2, 1) := by decide +kernel
theorem dL_law_1005 : decode cL_law 1005 = .ok (.iadd, 1) := by decide +kernel
theorem dL_law_1006 : decode cL_law 1006 = .ok (.iaload, 1) := by decide +kernel
theorem dL_law_1007 : decode cL_law 1007 = .ok (.aload_n 3, 1) := by decide +kernel
theorem dL_law_1008 : decode cL_law 1008 = .ok (.invokestatic 139, 3) := by decide +kernel
theorem dL_law_1011 : decode cL_law 1011 = .ok (.istore 5, 2) := by decide +kernel
theorem dL_law_1013 : decode cL_law 1013 = .ok (.aload_n 2, 1) := by decide +kernel
theorem dL_law_1014 : decode cL_law 1014 = .ok (.aload_n 0, 1) := by decide +kernel
theorem dL_law_1015 : decode cL_law 1015 = .ok (.iload 4, 2) := by decide +kernel
theorem dL_law_1017 : decode cL_law 1017 = .ok (.iconst 1, 1) := by decide +kernel
theorem dL_law_1018 : decode cL_law 1018 = .ok (.iadd, 1) := by decide +kernel
theorem dL_law_1019 : decode cL_law 1019 = .ok (.iaload, 1) := by decide +kernel
theorem dL_law_1020 : decode cL_law 1020 = .ok (.aload_n 0, 1) := by decide +kernel
theorem dL_law_1021 : decode cL_law 1021 = .ok (.iload 4, 2) := by decide +kernel
theorem dL_law_1023 : decode cL_law 1023 = .ok (.iconst 2, 1) := by decide +kernel
theorem dL_law_1024 : decode cL_law 1024 = .ok (.iadd, 1) := by decide +kernel
theorem dL_law_1025 : decode cL_law 1025 = .ok (.iaload, 1) := by decide +kernel
theorem dL_law_1026 : decode cL_law 1026 = .ok (.invokevirtual 141, 3) := by decide +kernel
theorem dL_law_1029 : decode cL_law 1029 = .ok (.istore 6, 2) := by decide +kernel
theorem dL_law_1031 : decode cL_law 1031 = .ok (.aload_n 2, 1) := by decide +kernel
theorem dL_law_1032 : decode cL_law 1032 = .ok (.invokevirtual 89, 3) := by decide +kernel
theorem dL_law_1035 : decode cL_law 1035 = .ok (.iload 5, 2) := by decide +kernel
theorem dL_law_1037 : decode cL_law 1037 = .ok (.if_icmp .eq 5, 3) := by decide +kernel
theorem dL_law_1040 : decode cL_law 1040 = .ok (.iconst 0, 1) := by decide +kernel
theorem dL_law_1041 : decode cL_law 1041 = .ok (.ireturn, 1) := by decide +kernel
theorem dL_law_1042 : decode cL_law 1042 = .ok (.iload 5, 2) := by decide +kernel
theorem dL_law_1044 : decode cL_law 1044 = .ok (.ifCond .ne 15, 3) := by decide +kernel
theorem dL_law_1047 : decode cL_law 1047 = .ok (.aload_n 3, 1) := by decide +kernel
theorem dL_law_1048 : decode cL_law 1048 = .ok (.iconst 0, 1) := by decide +kernel
theorem dL_law_1049 : decode cL_law 1049 = .ok (.laload, 1) := by decide +kernel
theorem dL_law_1050 : decode cL_law 1050 = .ok (.iload 6, 2) := by decide +kernel
theorem dL_law_1052 : decode cL_law 1052 = .ok (.i2l, 1) := by decide +kernel
theorem dL_law_1053 : decode cL_law 1053 = .ok (.lcmp, 1) := by decide +kernel
theorem dL_law_1054 : decode cL_law 1054 = .ok (.ifCond .eq 5, 3) := by decide +kernel
theorem dL_law_1057 : decode cL_law 1057 = .ok (.iconst 0, 1) := by decide +kernel
theorem dL_law_1058 : decode cL_law 1058 = .ok (.ireturn, 1) := by decide +kernel
theorem dL_law_1059 : decode cL_law 1059 = .ok (.goto 468, 3) := by decide +kernel
theorem dL_law_1062 : decode cL_law 1062 = .ok (.aload_n 1, 1) := by decide +kernel
theorem dL_law_1063 : decode cL_law 1063 = .ok (.aload_n 0, 1) := by decide +kernel
theorem dL_law_1064 : decode cL_law 1064 = .ok (.iload 4, 2) := by decide +kernel
theorem dL_law_1066 : decode cL_law 1066 = .ok (.iconst 1, 1) := by decide +kernel
theorem dL_law_1067 : decode cL_law 1067 = .ok (.iadd, 1) := by decide +kernel
theorem dL_law_1068 : decode cL_law 1068 = .ok (.iaload, 1) := by decide +kernel
theorem dL_law_1069 : decode cL_law 1069 = .ok (.aload_n 0, 1) := by decide +kernel
theorem dL_law_1070 : decode cL_law 1070 = .ok (.iload 4, 2) := by decide +kernel
theorem dL_law_1072 : decode cL_law 1072 = .ok (.iconst 2, 1) := by decide +kernel
theorem dL_law_1073 : decode cL_law 1073 = .ok (.iadd, 1) := by decide +kernel
theorem dL_law_1074 : decode cL_law 1074 = .ok (.iaload, 1) := by decide +kernel
theorem dL_law_1075 : decode cL_law 1075 = .ok (.aload_n 3, 1) := by decide +kernel
theorem dL_law_1076 : decode cL_law 1076 = .ok (.invokestatic 142, 3) := by decide +kernel
theorem dL_law_1079 : decode cL_law 1079 = .ok (.istore 5, 2) := by decide +kernel
theorem dL_law_1081 : decode cL_law 1081 = .ok (.aload_n 2, 1) := by decide +kernel
theorem dL_law_1082 : decode cL_law 1082 = .ok (.aload_n 0, 1) := by decide +kernel
theorem dL_law_1083 : decode cL_law 1083 = .ok (.iload 4, 2) := by decide +kernel
theorem dL_law_1085 : decode cL_law 1085 = .ok (.iconst 1, 1) := by decide +kernel
theorem dL_law_1086 : decode cL_law 1086 = .ok (.iadd, 1) := by decide +kernel
theorem dL_law_1087 : decode cL_law 1087 = .ok (.iaload, 1) := by decide +kernel
theorem dL_law_1088 : decode cL_law 1088 = .ok (.aload_n 0, 1) := by decide +kernel
theorem dL_law_1089 : decode cL_law 1089 = .ok (.iload 4, 2) := by decide +kernel
theorem dL_law_1091 : decode cL_law 1091 = .ok (.iconst 2, 1) := by decide +kernel
theorem dL_law_1092 : decode cL_law 1092 = .ok (.iadd, 1) := by decide +kernel
theorem dL_law_1093 : decode cL_law 1093 = .ok (.iaload, 1) := by decide +kernel
theorem dL_law_1094 : decode cL_law 1094 = .ok (.invokevirtual 144, 3) := by decide +kernel
theorem dL_law_1097 : decode cL_law 1097 = .ok (.istore 6, 2) := by decide +kernel
theorem dL_law_1099 : decode cL_law 1099 = .ok (.aload_n 2, 1) := by decide +kernel
theorem dL_law_1100 : decode cL_law 1100 = .ok (.invokevirtual 89, 3) := by decide +kernel
theorem dL_law_1103 : decode cL_law 1103 = .ok (.iload 5, 2) := by decide +kernel
theorem dL_law_1105 : decode cL_law 1105 = .ok (.if_icmp .eq 5, 3) := by decide +kernel
theorem dL_law_1108 : decode cL_law 1108 = .ok (.iconst 0, 1) := by decide +kernel
theorem dL_law_1109 : decode cL_law 1109 = .ok (.ireturn, 1) := by decide +kernel
theorem dL_law_1110 : decode cL_law 1110 = .ok (.iload 5, 2) := by decide +kernel
theorem dL_law_1112 : decode cL_law 1112 = .ok (.ifCond .ne 15, 3) := by decide +kernel
theorem dL_law_1115 : decode cL_law 1115 = .ok (.aload_n 3, 1) := by decide +kernel
theorem dL_law_1116 : decode cL_law 1116 = .ok (.iconst 0, 1) := by decide +kernel
theorem dL_law_1117 : decode cL_law 1117 = .ok (.laload, 1) := by decide +kernel
theorem dL_law_1118 : decode cL_law 1118 = .ok (.iload 6, 2) := by decide +kernel
theorem dL_law_1120 : decode cL_law 1120 = .ok (.i2l, 1) := by decide +kernel
theorem dL_law_1121 : decode cL_law 1121 = .ok (.lcmp, 1) := by decide +kernel
theorem dL_law_1122 : decode cL_law 1122 = .ok (.ifCond .eq 5, 3) := by decide +kernel
theorem dL_law_1125 : decode cL_law 1125 = .ok (.iconst 0, 1) := by decide +kernel
theorem dL_law_1126 : decode cL_law 1126 = .ok (.ireturn, 1) := by decide +kernel
theorem dL_law_1127 : decode cL_law 1127 = .ok (.goto 400, 3) := by decide +kernel
theorem dL_law_1130 : decode cL_law 1130 = .ok (.aload_n 1, 1) := by decide +kernel
theorem dL_law_1131 : decode cL_law 1131 = .ok (.aload_n 0, 1) := by decide +kernel
theorem dL_law_1132 : decode cL_law 1132 = .ok (.iload 4, 2) := by decide +kernel
theorem dL_law_1134 : decode cL_law 1134 = .ok (.iconst 1, 1) := by decide +kernel
theorem dL_law_1135 : decode cL_law 1135 = .ok (.iadd, 1) := by decide +kernel
theorem dL_law_1136 : decode cL_law 1136 = .ok (.iaload, 1) := by decide +kernel
theorem dL_law_1137 : decode cL_law 1137 = .ok (.aload_n 0, 1) := by decide +kernel
theorem dL_law_1138 : decode cL_law 1138 = .ok (.iload 4, 2) := by decide +kernel
theorem dL_law_1140 : decode cL_law 1140 = .ok (.iconst 2, 1) := by decide +kernel
theorem dL_law_1141 : decode cL_law 1141 = .ok (.iadd, 1) := by decide +kernel
theorem dL_law_1142 : decode cL_law 1142 = .ok (.iaload, 1) := by decide +kernel
theorem dL_law_1143 : decode cL_law 1143 = .ok (.aload_n 3, 1) := by decide +kernel
theorem dL_law_1144 : decode cL_law 1144 = .ok (.invokestatic 145, 3) := by decide +kernel
theorem dL_law_1147 : decode cL_law 1147 = .ok (.istore 5, 2) := by decide +kernel
theorem dL_law_1149 : decode cL_law 1149 = .ok (.aload_n 2, 1) := by decide +kernel
theorem dL_law_1150 : decode cL_law 1150 = .ok (.aload_n 0, 1) := by decide +kernel
theorem dL_law_1151 : decode cL_law 1151 = .ok (.iload 4, 2) := by decide +kernel
theorem dL_law_1153 : decode cL_law 1153 = .ok (.iconst 1, 1) := by decide +kernel
theorem dL_law_1154 : decode cL_law 1154 = .ok (.iadd, 1) := by decide +kernel
theorem dL_law_1155 : decode cL_law 1155 = .ok (.iaload, 1) := by decide +kernel
theorem dL_law_1156 : decode cL_law 1156 = .ok (.aload_n 0, 1) := by decide +kernel
theorem dL_law_1157 : decode cL_law 1157 = .ok (.iload 4, 2) := by decide +kernel
theorem dL_law_1159 : decode cL_law 1159 = .ok (.iconst 2, 1) := by decide +kernel
theorem dL_law_1160 : decode cL_law 1160 = .ok (.iadd, 1) := by decide +kernel
theorem dL_law_1161 : decode cL_law 1161 = .ok (.iaload, 1) := by decide +kernel
theorem dL_law_1162 : decode cL_law 1162 = .ok (.invokevirtual 147, 3) := by decide +kernel
theorem dL_law_1165 : decode cL_law 1165 = .ok (.istore 6, 2) := by decide +kernel
theorem dL_law_1167 : decode cL_law 1167 = .ok (.aload_n 2, 1) := by decide +kernel
theorem dL_law_1168 : decode cL_law 1168 = .ok (.invokevirtual 89, 3) := by decide +kernel
theorem dL_law_1171 : decode cL_law 1171 = .ok (.iload 5, 2) := by decide +kernel
theorem dL_law_1173 : decode cL_law 1173 = .ok (.if_icmp .eq 5, 3) := by decide +kernel
theorem dL_law_1176 : decode cL_law 1176 = .ok (.iconst 0, 1) := by decide +kernel
theorem dL_law_1177 : decode cL_law 1177 = .ok (.ireturn, 1) := by decide +kernel
theorem dL_law_1178 : decode cL_law 1178 = .ok (.iload 5, 2) := by decide +kernel
theorem dL_law_1180 : decode cL_law 1180 = .ok (.ifCond .ne 15, 3) := by decide +kernel
theorem dL_law_1183 : decode cL_law 1183 = .ok (.aload_n 3, 1) := by decide +kernel
theorem dL_law_1184 : decode cL_law 1184 = .ok (.iconst 0, 1) := by decide +kernel
theorem dL_law_1185 : decode cL_law 1185 = .ok (.laload, 1) := by decide +kernel
theorem dL_law_1186 : decode cL_law 1186 = .ok (.iload 6, 2) := by decide +kernel
theorem dL_law_1188 : decode cL_law 1188 = .ok (.i2l, 1) := by decide +kernel
theorem dL_law_1189 : decode cL_law 1189 = .ok (.lcmp, 1) := by decide +kernel
theorem dL_law_1190 : decode cL_law 1190 = .ok (.ifCond .eq 5, 3) := by decide +kernel
theorem dL_law_1193 : decode cL_law 1193 = .ok (.iconst 0, 1) := by decide +kernel
theorem dL_law_1194 : decode cL_law 1194 = .ok (.ireturn, 1) := by decide +kernel
theorem dL_law_1195 : decode cL_law 1195 = .ok (.goto 332, 3) := by decide +kernel
theorem dL_law_1198 : decode cL_law 1198 = .ok (.aload_n 1, 1) := by decide +kernel
theorem dL_law_1199 : decode cL_law 1199 = .ok (.aload_n 0, 1) := by decide +kernel
theorem dL_law_1200 : decode cL_law 1200 = .ok (.iload 4, 2) := by decide +kernel
theorem dL_law_1202 : decode cL_law 1202 = .ok (.iconst 1, 1) := by decide +kernel
theorem dL_law_1203 : decode cL_law 1203 = .ok (.iadd, 1) := by decide +kernel
theorem dL_law_1204 : decode cL_law 1204 = .ok (.iaload, 1) := by decide +kernel
theorem dL_law_1205 : decode cL_law 1205 = .ok (.aload_n 3, 1) := by decide +kernel
theorem dL_law_1206 : decode cL_law 1206 = .ok (.invokestatic 148, 3) := by decide +kernel
theorem dL_law_1209 : decode cL_law 1209 = .ok (.istore 5, 2) := by decide +kernel
theorem dL_law_1211 : decode cL_law 1211 = .ok (.aload_n 2, 1) := by decide +kernel
theorem dL_law_1212 : decode cL_law 1212 = .ok (.aload_n 0, 1) := by decide +kernel
theorem dL_law_1213 : decode cL_law 1213 = .ok (.iload 4, 2) := by decide +kernel
theorem dL_law_1215 : decode cL_law 1215 = .ok (.iconst 1, 1) := by decide +kernel
theorem dL_law_1216 : decode cL_law 1216 = .ok (.iadd, 1) := by decide +kernel
theorem dL_law_1217 : decode cL_law 1217 = .ok (.iaload, 1) := by decide +kernel
theorem dL_law_1218 : decode cL_law 1218 = .ok (.invokevirtual 150, 3) := by decide +kernel
theorem dL_law_1221 : decode cL_law 1221 = .ok (.istore 6, 2) := by decide +kernel
theorem dL_law_1223 : decode cL_law 1223 = .ok (.aload_n 2, 1) := by decide +kernel
theorem dL_law_1224 : decode cL_law 1224 = .ok (.invokevirtual 89, 3) := by decide +kernel
theorem dL_law_1227 : decode cL_law 1227 = .ok (.iload 5, 2) := by decide +kernel
theorem dL_law_1229 : decode cL_law 1229 = .ok (.if_icmp .eq 5, 3) := by decide +kernel
theorem dL_law_1232 : decode cL_law 1232 = .ok (.iconst 0, 1) := by decide +kernel
theorem dL_law_1233 : decode cL_law 1233 = .ok (.ireturn, 1) := by decide +kernel
theorem dL_law_1234 : decode cL_law 1234 = .ok (.iload 5, 2) := by decide +kernel
theorem dL_law_1236 : decode cL_law 1236 = .ok (.ifCond .ne 15, 3) := by decide +kernel
theorem dL_law_1239 : decode cL_law 1239 = .ok (.aload_n 3, 1) := by decide +kernel
theorem dL_law_1240 : decode cL_law 1240 = .ok (.iconst 0, 1) := by decide +kernel
theorem dL_law_1241 : decode cL_law 1241 = .ok (.laload, 1) := by decide +kernel
theorem dL_law_1242 : decode cL_law 1242 = .ok (.iload 6, 2) := by decide +kernel
theorem dL_law_1244 : decode cL_law 1244 = .ok (.i2l, 1) := by decide +kernel
theorem dL_law_1245 : decode cL_law 1245 = .ok (.lcmp, 1) := by decide +kernel
theorem dL_law_1246 : decode cL_law 1246 = .ok (.ifCond .eq 5, 3) := by decide +kernel
theorem dL_law_1249 : decode cL_law 1249 = .ok (.iconst 0, 1) := by decide +kernel
theorem dL_law_1250 : decode cL_law 1250 = .ok (.ireturn, 1) := by decide +kernel
theorem dL_law_1251 : decode cL_law 1251 = .ok (.goto 276, 3) := by decide +kernel
theorem dL_law_1254 : decode cL_law 1254 = .ok (.aload_n 1, 1) := by decide +kernel
theorem dL_law_1255 : decode cL_law 1255 = .ok (.aload_n 0, 1) := by decide +kernel
theorem dL_law_1256 : decode cL_law 1256 = .ok (.iload 4, 2) := by decide +kernel
theorem dL_law_1258 : decode cL_law 1258 = .ok (.iconst 1, 1) := by decide +kernel
theorem dL_law_1259 : decode cL_law 1259 = .ok (.iadd, 1) := by decide +kernel
theorem dL_law_1260 : decode cL_law 1260 = .ok (.iaload, 1) := by decide +kernel
theorem dL_law_1261 : decode cL_law 1261 = .ok (.aload_n 3, 1) := by decide +kernel
theorem dL_law_1262 : decode cL_law 1262 = .ok (.invokestatic 151, 3) := by decide +kernel
theorem dL_law_1265 : decode cL_law 1265 = .ok (.istore 5, 2) := by decide +kernel
theorem dL_law_1267 : decode cL_law 1267 = .ok (.aload_n 2, 1) := by decide +kernel
theorem dL_law_1268 : decode cL_law 1268 = .ok (.aload_n 0, 1) := by decide +kernel
theorem dL_law_1269 : decode cL_law 1269 = .ok (.iload 4, 2) := by decide +kernel
theorem dL_law_1271 : decode cL_law 1271 = .ok (.iconst 1, 1) := by decide +kernel
theorem dL_law_1272 : decode cL_law 1272 = .ok (.iadd, 1) := by decide +kernel
theorem dL_law_1273 : decode cL_law 1273 = .ok (.iaload, 1) := by decide +kernel
theorem dL_law_1274 : decode cL_law 1274 = .ok (.invokevirtual 153, 3) := by decide +kernel
theorem dL_law_1277 : decode cL_law 1277 = .ok (.istore 6, 2) := by decide +kernel
theorem dL_law_1279 : decode cL_law 1279 = .ok (.aload_n 2, 1) := by decide +kernel
theorem dL_law_1280 : decode cL_law 1280 = .ok (.invokevirtual 89, 3) := by decide +kernel
theorem dL_law_1283 : decode cL_law 1283 = .ok (.iload 5, 2) := by decide +kernel
theorem dL_law_1285 : decode cL_law 1285 = .ok (.if_icmp .eq 5, 3) := by decide +kernel
theorem dL_law_1288 : decode cL_law 1288 = .ok (.iconst 0, 1) := by decide +kernel
theorem dL_law_1289 : decode cL_law 1289 = .ok (.ireturn, 1) := by decide +kernel
theorem dL_law_1290 : decode cL_law 1290 = .ok (.iload 5, 2) := by decide +kernel
theorem dL_law_1292 : decode cL_law 1292 = .ok (.ifCond .ne 15, 3) := by decide +kernel
theorem dL_law_1295 : decode cL_law 1295 = .ok (.aload_n 3, 1) := by decide +kernel
theorem dL_law_1296 : decode cL_law 1296 = .ok (.iconst 0, 1) := by decide +kernel
theorem dL_law_1297 : decode cL_law 1297 = .ok (.laload, 1) := by decide +kernel
theorem dL_law_1298 : decode cL_law 1298 = .ok (.iload 6, 2) := by decide +kernel
theorem dL_law_1300 : decode cL_law 1300 = .ok (.i2l, 1) := by decide +kernel
theorem dL_law_1301 : decode cL_law 1301 = .ok (.lcmp, 1) := by decide +kernel
theorem dL_law_1302 : decode cL_law 1302 = .ok (.ifCond .eq 5, 3) := by decide +kernel
theorem dL_law_1305 : decode cL_law 1305 = .ok (.iconst 0, 1) := by decide +kernel
theorem dL_law_1306 : decode cL_law 1306 = .ok (.ireturn, 1) := by decide +kernel
theorem dL_law_1307 : decode cL_law 1307 = .ok (.goto 220, 3) := by decide +kernel
theorem dL_law_1310 : decode cL_law 1310 = .ok (.aload_n 1, 1) := by decide +kernel
theorem dL_law_1311 : decode cL_law 1311 = .ok (.aload_n 0, 1) := by decide +kernel
theorem dL_law_1312 : decode cL_law 1312 = .ok (.iload 4, 2) := by decide +kernel
theorem dL_law_1314 : decode cL_law 1314 = .ok (.iconst 1, 1) := by decide +kernel
theorem dL_law_1315 : decode cL_law 1315 = .ok (.iadd, 1) := by decide +kernel
theorem dL_law_1316 : decode cL_law 1316 = .ok (.iaload, 1) := by decide +kernel
theorem dL_law_1317 : decode cL_law 1317 = .ok (.aload_n 0, 1) := by decide +kernel
theorem dL_law_1318 : decode cL_law 1318 = .ok (.iload 4, 2) := by decide +kernel
theorem dL_law_1320 : decode cL_law 1320 = .ok (.iconst 2, 1) := by decide +kernel
theorem dL_law_1321 : decode cL_law 1321 = .ok (.iadd, 1) := by decide +kernel
theorem dL_law_1322 : decode cL_law 1322 = .ok (.iaload, 1) := by decide +kernel
theorem dL_law_1323 : decode cL_law 1323 = .ok (.aload_n 3, 1) := by decide +kernel
theorem dL_law_1324 : decode cL_law 1324 = .ok (.invokestatic 154, 3) := by decide +kernel
theorem dL_law_1327 : decode cL_law 1327 = .ok (.istore 5, 2) := by decide +kernel
theorem dL_law_1329 : decode cL_law 1329 = .ok (.aload_n 2, 1) := by decide +kernel
theorem dL_law_1330 : decode cL_law 1330 = .ok (.aload_n 0, 1) := by decide +kernel
theorem dL_law_1331 : decode cL_law 1331 = .ok (.iload 4, 2) := by decide +kernel
theorem dL_law_1333 : decode cL_law 1333 = .ok (.iconst 1, 1) := by decide +kernel
theorem dL_law_1334 : decode cL_law 1334 = .ok (.iadd, 1) := by decide +kernel
theorem dL_law_1335 : decode cL_law 1335 = .ok (.iaload, 1) := by decide +kernel
theorem dL_law_1336 : decode cL_law 1336 = .ok (.aload_n 0, 1) := by decide +kernel
theorem dL_law_1337 : decode cL_law 1337 = .ok (.iload 4, 2) := by decide +kernel
theorem dL_law_1339 : decode cL_law 1339 = .ok (.iconst 2, 1) := by decide +kernel
theorem dL_law_1340 : decode cL_law 1340 = .ok (.iadd, 1) := by decide +kernel
theorem dL_law_1341 : decode cL_law 1341 = .ok (.iaload, 1) := by decide +kernel
theorem dL_law_1342 : decode cL_law 1342 = .ok (.invokevirtual 156, 3) := by decide +kernel
theorem dL_law_1345 : decode cL_law 1345 = .ok (.istore 6, 2) := by decide +kernel
theorem dL_law_1347 : decode cL_law 1347 = .ok (.aload_n 2, 1) := by decide +kernel
theorem dL_law_1348 : decode cL_law 1348 = .ok (.invokevirtual 89, 3) := by decide +kernel
theorem dL_law_1351 : decode cL_law 1351 = .ok (.iload 5, 2) := by decide +kernel
theorem dL_law_1353 : decode cL_law 1353 = .ok (.if_icmp .eq 5, 3) := by decide +kernel
theorem dL_law_1356 : decode cL_law 1356 = .ok (.iconst 0, 1) := by decide +kernel
theorem dL_law_1357 : decode cL_law 1357 = .ok (.ireturn, 1) := by decide +kernel
theorem dL_law_1358 : decode cL_law 1358 = .ok (.iload 5, 2) := by decide +kernel
theorem dL_law_1360 : decode cL_law 1360 = .ok (.ifCond .ne 15, 3) := by decide +kernel
theorem dL_law_1363 : decode cL_law 1363 = .ok (.aload_n 3, 1) := by decide +kernel
theorem dL_law_1364 : decode cL_law 1364 = .ok (.iconst 0, 1) := by decide +kernel
theorem dL_law_1365 : decode cL_law 1365 = .ok (.laload, 1) := by decide +kernel
theorem dL_law_1366 : decode cL_law 1366 = .ok (.iload 6, 2) := by decide +kernel
theorem dL_law_1368 : decode cL_law 1368 = .ok (.i2l, 1) := by decide +kernel
theorem dL_law_1369 : decode cL_law 1369 = .ok (.lcmp, 1) := by decide +kernel
theorem dL_law_1370 : decode cL_law 1370 = .ok (.ifCond .eq 5, 3) := by decide +kernel
theorem dL_law_1373 : decode cL_law 1373 = .ok (.iconst 0, 1) := by decide +kernel
theorem dL_law_1374 : decode cL_law 1374 = .ok (.ireturn, 1) := by decide +kernel
theorem dL_law_1375 : decode cL_law 1375 = .ok (.goto 152, 3) := by decide +kernel
theorem dL_law_1378 : decode cL_law 1378 = .ok (.aload_n 1, 1) := by decide +kernel
theorem dL_law_1379 : decode cL_law 1379 = .ok (.aload_n 0, 1) := by decide +kernel
theorem dL_law_1380 : decode cL_law 1380 = .ok (.iload 4, 2) := by decide +kernel
theorem dL_law_1382 : decode cL_law 1382 = .ok (.iconst 1, 1) := by decide +kernel
theorem dL_law_1383 : decode cL_law 1383 = .ok (.iadd, 1) := by decide +kernel
theorem dL_law_1384 : decode cL_law 1384 = .ok (.iaload, 1) := by decide +kernel
theorem dL_law_1385 : decode cL_law 1385 = .ok (.aload_n 0, 1) := by decide +kernel
theorem dL_law_1386 : decode cL_law 1386 = .ok (.iload 4, 2) := by decide +kernel
theorem dL_law_1388 : decode cL_law 1388 = .ok (.iconst 2, 1) := by decide +kernel
theorem dL_law_1389 : decode cL_law 1389 = .ok (.iadd, 1) := by decide +kernel
theorem dL_law_1390 : decode cL_law 1390 = .ok (.iaload, 1) := by decide +kernel
theorem dL_law_1391 : decode cL_law 1391 = .ok (.aload_n 3, 1) := by decide +kernel
theorem dL_law_1392 : decode cL_law 1392 = .ok (.invokestatic 157, 3) := by decide +kernel
theorem dL_law_1395 : decode cL_law 1395 = .ok (.istore 5, 2) := by decide +kernel
theorem dL_law_1397 : decode cL_law 1397 = .ok (.aload_n 2, 1) := by decide +kernel
theorem dL_law_1398 : decode cL_law 1398 = .ok (.aload_n 0, 1) := by decide +kernel
theorem dL_law_1399 : decode cL_law 1399 = .ok (.iload 4, 2) := by decide +kernel
theorem dL_law_1401 : decode cL_law 1401 = .ok (.iconst 1, 1) := by decide +kernel
theorem dL_law_1402 : decode cL_law 1402 = .ok (.iadd, 1) := by decide +kernel
theorem dL_law_1403 : decode cL_law 1403 = .ok (.iaload, 1) := by decide +kernel
theorem dL_law_1404 : decode cL_law 1404 = .ok (.aload_n 0, 1) := by decide +kernel
theorem dL_law_1405 : decode cL_law 1405 = .ok (.iload 4, 2) := by decide +kernel
theorem dL_law_1407 : decode cL_law 1407 = .ok (.iconst 2, 1) := by decide +kernel
theorem dL_law_1408 : decode cL_law 1408 = .ok (.iadd, 1) := by decide +kernel
theorem dL_law_1409 : decode cL_law 1409 = .ok (.iaload, 1) := by decide +kernel
theorem dL_law_1410 : decode cL_law 1410 = .ok (.invokevirtual 159, 3) := by decide +kernel
theorem dL_law_1413 : decode cL_law 1413 = .ok (.istore 6, 2) := by decide +kernel
theorem dL_law_1415 : decode cL_law 1415 = .ok (.aload_n 2, 1) := by decide +kernel
theorem dL_law_1416 : decode cL_law 1416 = .ok (.invokevirtual 89, 3) := by decide +kernel
theorem dL_law_1419 : decode cL_law 1419 = .ok (.iload 5, 2) := by decide +kernel
theorem dL_law_1421 : decode cL_law 1421 = .ok (.if_icmp .eq 5, 3) := by decide +kernel
theorem dL_law_1424 : decode cL_law 1424 = .ok (.iconst 0, 1) := by decide +kernel
theorem dL_law_1425 : decode cL_law 1425 = .ok (.ireturn, 1) := by decide +kernel
theorem dL_law_1426 : decode cL_law 1426 = .ok (.iload 5, 2) := by decide +kernel
theorem dL_law_1428 : decode cL_law 1428 = .ok (.ifCond .ne 15, 3) := by decide +kernel
theorem dL_law_1431 : decode cL_law 1431 = .ok (.aload_n 3, 1) := by decide +kernel
theorem dL_law_1432 : decode cL_law 1432 = .ok (.iconst 0, 1) := by decide +kernel
theorem dL_law_1433 : decode cL_law 1433 = .ok (.laload, 1) := by decide +kernel
theorem dL_law_1434 : decode cL_law 1434 = .ok (.iload 6, 2) := by decide +kernel
theorem dL_law_1436 : decode cL_law 1436 = .ok (.i2l, 1) := by decide +kernel
theorem dL_law_1437 : decode cL_law 1437 = .ok (.lcmp, 1) := by decide +kernel
theorem dL_law_1438 : decode cL_law 1438 = .ok (.ifCond .eq 5, 3) := by decide +kernel
theorem dL_law_1441 : decode cL_law 1441 = .ok (.iconst 0, 1) := by decide +kernel
theorem dL_law_1442 : decode cL_law 1442 = .ok (.ireturn, 1) := by decide +kernel
theorem dL_law_1443 : decode cL_law 1443 = .ok (.goto 84, 3) := by decide +kernel
theorem dL_law_1446 : decode cL_law 1446 = .ok (.aload_n 1, 1) := by decide +kernel
theorem dL_law_1447 : decode cL_law 1447 = .ok (.invokevirtual 160, 3) := by decide +kernel
theorem dL_law_1450 : decode cL_law 1450 = .ok (.aload_n 2, 1) := by decide +kernel
theorem dL_law_1451 : decode cL_law 1451 = .ok (.invokevirtual 163, 3) := by decide +kernel
theorem dL_law_1454 : decode cL_law 1454 = .ok (.if_icmp .eq 73, 3) := by decide +kernel
theorem dL_law_1457 : decode cL_law 1457 = .ok (.iconst 0, 1) := by decide +kernel
theorem dL_law_1458 : decode cL_law 1458 = .ok (.ireturn, 1) := by decide +kernel
theorem dL_law_1459 : decode cL_law 1459 = .ok (.aload_n 1, 1) := by decide +kernel
theorem dL_law_1460 : decode cL_law 1460 = .ok (.invokevirtual 164, 3) := by decide +kernel
theorem dL_law_1463 : decode cL_law 1463 = .ok (.aload_n 2, 1) := by decide +kernel
theorem dL_law_1464 : decode cL_law 1464 = .ok (.invokevirtual 167, 3) := by decide +kernel
theorem dL_law_1467 : decode cL_law 1467 = .ok (.if_icmp .eq 60, 3) := by decide +kernel
theorem dL_law_1470 : decode cL_law 1470 = .ok (.iconst 0, 1) := by decide +kernel
theorem dL_law_1471 : decode cL_law 1471 = .ok (.ireturn, 1) := by decide +kernel
theorem dL_law_1472 : decode cL_law 1472 = .ok (.aload_n 1, 1) := by decide +kernel
theorem dL_law_1473 : decode cL_law 1473 = .ok (.invokevirtual 168, 3) := by decide +kernel
theorem dL_law_1476 : decode cL_law 1476 = .ok (.dstore 5, 2) := by decide +kernel
theorem dL_law_1478 : decode cL_law 1478 = .ok (.aload_n 2, 1) := by decide +kernel
theorem dL_law_1479 : decode cL_law 1479 = .ok (.invokevirtual 172, 3) := by decide +kernel
theorem dL_law_1482 : decode cL_law 1482 = .ok (.dstore 7, 2) := by decide +kernel
theorem dL_law_1484 : decode cL_law 1484 = .ok (.dload 5, 2) := by decide +kernel
theorem dL_law_1486 : decode cL_law 1486 = .ok (.dload 7, 2) := by decide +kernel
theorem dL_law_1488 : decode cL_law 1488 = .ok (.dcmp .l, 1) := by decide +kernel
theorem dL_law_1489 : decode cL_law 1489 = .ok (.ifCond .eq 21, 3) := by decide +kernel
theorem dL_law_1492 : decode cL_law 1492 = .ok (.dload 5, 2) := by decide +kernel
theorem dL_law_1494 : decode cL_law 1494 = .ok (.dload 5, 2) := by decide +kernel
theorem dL_law_1496 : decode cL_law 1496 = .ok (.dcmp .l, 1) := by decide +kernel
theorem dL_law_1497 : decode cL_law 1497 = .ok (.ifCond .eq 11, 3) := by decide +kernel
theorem dL_law_1500 : decode cL_law 1500 = .ok (.dload 7, 2) := by decide +kernel
theorem dL_law_1502 : decode cL_law 1502 = .ok (.dload 7, 2) := by decide +kernel
theorem dL_law_1504 : decode cL_law 1504 = .ok (.dcmp .l, 1) := by decide +kernel
theorem dL_law_1505 : decode cL_law 1505 = .ok (.ifCond .ne 5, 3) := by decide +kernel
theorem dL_law_1508 : decode cL_law 1508 = .ok (.iconst 0, 1) := by decide +kernel
theorem dL_law_1509 : decode cL_law 1509 = .ok (.ireturn, 1) := by decide +kernel
theorem dL_law_1510 : decode cL_law 1510 = .ok (.goto 17, 3) := by decide +kernel
theorem dL_law_1513 : decode cL_law 1513 = .ok (.aload_n 1, 1) := by decide +kernel
theorem dL_law_1514 : decode cL_law 1514 = .ok (.invokevirtual 173, 3) := by decide +kernel
theorem dL_law_1517 : decode cL_law 1517 = .ok (.aload_n 2, 1) := by decide +kernel
theorem dL_law_1518 : decode cL_law 1518 = .ok (.invokevirtual 177, 3) := by decide +kernel
theorem dL_law_1521 : decode cL_law 1521 = .ok (.lcmp, 1) := by decide +kernel
theorem dL_law_1522 : decode cL_law 1522 = .ok (.ifCond .eq 5, 3) := by decide +kernel
theorem dL_law_1525 : decode cL_law 1525 = .ok (.iconst 0, 1) := by decide +kernel
theorem dL_law_1526 : decode cL_law 1526 = .ok (.ireturn, 1) := by decide +kernel
theorem dL_law_1527 : decode cL_law 1527 = .ok (.iinc 4 4, 3) := by decide +kernel
theorem dL_law_1530 : decode cL_law 1530 = .ok (.goto (-1507), 3) := by decide +kernel
theorem dL_law_1533 : decode cL_law 1533 = .ok (.iconst 1, 1) := by decide +kernel
theorem dL_law_1534 : decode cL_law 1534 = .ok (.ireturn, 1) := by decide +kernel
end
section
/-! A program logic over the kit: worlds by numbers. A cell's references are places in a list; 'ad' sends a place to its address. -/
abbrev j_C : Type := (Nat × vp_A) ⊕ (Nat × List Value)
abbrev j_H : Type := List j_C
abbrev j_L : Type := List (Nat × Value)
abbrev j_O : Type := Option Value ⊕ String
abbrev j_F : Type := j_O → j_H → Prop
/-- a method: own class, name, bytes, locals, answer, frames below it, words of locals below it, its table, the law's script, whether it makes cells -/
abbrev j_M : Type := String × MethodName × ByteArray × Nat × Option FieldType × Nat × Nat × List (Nat × Nat × Nat × Nat) × Option (Nat × (Nat → Int32)) × Bool
abbrev jm_o (M : j_M) : String := M.1
abbrev jm_y (M : j_M) : MethodName := M.2.1
abbrev jm_b (M : j_M) : ByteArray := M.2.2.1
abbrev jm_n (M : j_M) : Nat := M.2.2.2.1
abbrev jm_r (M : j_M) : Option FieldType := M.2.2.2.2.1
abbrev jm_f (M : j_M) : Nat := M.2.2.2.2.2.1
abbrev jm_l (M : j_M) : Nat := M.2.2.2.2.2.2.1
abbrev jm_h (M : j_M) : List (Nat × Nat × Nat × Nat) := M.2.2.2.2.2.2.2.1
abbrev jm_s (M : j_M) : Option (Nat × (Nat → Int32)) := M.2.2.2.2.2.2.2.2.1
/-- whether it may make cells that are told -/
abbrev jm_a (M : j_M) : Bool := M.2.2.2.2.2.2.2.2.2
def j_v (ad : Nat → Nat) : Value → Value
  | .ref i => .ref (ad i)
  | v => v
def j_a (ad : Nat → Nat) : vp_A → vp_A
  | (n, .inr (.inr (.inr (.inr f)))) => (n, .inr (.inr (.inr (.inr (fun j => (f j).map ad)))))
  | a => a
def j_c (T : Nat → ClassId) (ad : Nat → Nat) : j_C → va_E
  | .inl (t, a) => .inl (T t, j_a ad a)
  | .inr (c, fs) => .inr (c, fs.map (j_v ad))
def j_w (T : Nat → ClassId) (ad : Nat → Nat) (h : j_H) : va_W := h.mapIdx fun i c => (ad i, j_c T ad c)
abbrev j_l (ad : Nat → Nat) (lv : j_L) : j_L := lv.map fun q => (q.1, j_v ad q.2)
theorem j_w_get {T : Nat → ClassId} {ad : Nat → Nat} {h : j_H} {i : Nat} {c : j_C} (e : h[i]? = some c) : (j_w T ad h)[i]? = some (ad i, j_c T ad c) := by
  unfold j_w
  rw [List.getElem?_mapIdx, e]
  rfl
theorem j_w_inv {T : Nat → ClassId} {ad : Nat → Nat} {h : j_H} {i : Nat} {q : Nat × va_E} (e : (j_w T ad h)[i]? = some q) : ∃ c, h[i]? = some c ∧ q = (ad i, j_c T ad c) := by
  unfold j_w at e
  rw [List.getElem?_mapIdx] at e
  cases hc : h[i]? with
  | none => rw [hc] at e; cases e
  | some c => rw [hc] at e; cases e; exact ⟨c, rfl, rfl⟩
theorem j_w_set {T : Nat → ClassId} {ad : Nat → Nat} {h : j_H} {i : Nat} {c : j_C} : (j_w T ad h).set i (ad i, j_c T ad c) = j_w T ad (h.set i c) := by
  apply List.ext_getElem?
  intro k
  unfold j_w
  rw [List.getElem?_mapIdx]
  by_cases e : i = k
  · subst e
    by_cases hl : i < h.length
    · rw [List.getElem?_set_self (by simpa using hl), List.getElem?_set_self hl]; rfl
    · rw [List.getElem?_eq_none (by simpa using hl), List.getElem?_eq_none (by simpa using hl)]; rfl
  · rw [List.getElem?_set_ne e, List.getElem?_set_ne e, List.getElem?_mapIdx]
theorem j_w_len {T : Nat → ClassId} {ad : Nat → Nat} {h : j_H} : (j_w T ad h).length = h.length := by simp [j_w]
/-- the types of arrays, by their places -/
abbrev j_ty : List FieldType := [.int, .long, .boolean, .array .int, .object "VaneVotes$Mill", .object "VaneVotes$Village"]
def j_tys (T : Nat → ClassId) : List (ClassId × FieldType) := j_ty.mapIdx fun i ty => (T i, ty)
theorem j_tys_get {T : Nat → ClassId} {i : Nat} {ty : FieldType} (e : j_ty[i]? = some ty) : (j_tys T)[i]? = some (T i, ty) := by
  unfold j_tys
  rw [List.getElem?_mapIdx, e]
  rfl
/-- the words that every method may use -/
def j_ws : List Cond := lw_tbl.filter goodWord
theorem j_in {w : Cond} (h : w ∈ lw_tbl) (g : goodWord w = true) : w ∈ j_ws := List.mem_filter.mpr ⟨h, g⟩
theorem j_good : GoodIn j_ws j_ws := fun _ h => ⟨h, good_of_word (List.mem_filter.mp h).2⟩
def j_cd (M : j_M) : Cond := match jm_h M with
  | [] => .code (jm_y M) (jm_b M) (jm_n M) (jm_r M)
  | q :: t => .codeWith (jm_y M) (jm_b M) (jm_n M) (jm_r M) (q :: t)
def j_mw (M : j_M) : List Cond := j_cd M :: j_ws
def j_rm (M : j_M) (mc ms : Nat) : Room := { frames := jm_f M, cells := mc, slots := ms, locals := jm_l M }
/-- texts and static rows that methods read -/
def j_vm (k : Nat) : Int32 := match k with
  | 0 => 7
  | 1 => 4
  | 2 => 9
  | _ => 1
def j_sl (k : Nat) : Int32 := match k with
  | 0 => 1
  | _ => 0
def j_sm (k : Nat) : Int32 := match k with
  | 0 => 6
  | _ => 1
abbrev j_str : List (String × Nat × String) := [("VaneVotes", 118, "too many hours would have gone by"), ("VaneVotes", 129, "the buffer is full"), ("VaneVotes", 143, "the buffer does not tell winds"), ("VaneVotes", 159, "there is no snapshot in the slot"), ("VaneVotes", 161, "there is no saved state"), ("VaneVotes", 255, "there is no such number"), ("VaneVotes", 258, "a value is out of range")]
abbrev j_sta : List (String × Nat × (Nat → Int32)) := [("VANE_MOST", 4, j_vm), ("SETTING_LEAST", 2, j_sl), ("SETTING_MOST", 2, j_sm)]
/-- words of the tables that are no good words: each is carried by itself -/
abbrev j_dc : List MethodName := [⟨"java/lang/RuntimeException", "<init>", "(Ljava/lang/String;)V"⟩, ⟨"java/lang/Exception", "<init>", "(Ljava/lang/String;)V"⟩, ⟨"java/lang/Throwable", "<init>", "(Ljava/lang/String;)V"⟩]
abbrev j_cs : List String := ["java/lang/IndexOutOfBoundsException", "java/lang/IllegalArgumentException", "java/lang/IllegalStateException"]
abbrev j_nc : List (String × String) := [("java/lang/IllegalArgumentException", "java/lang/IndexOutOfBoundsException"), ("java/lang/IllegalStateException", "java/lang/IllegalArgumentException")]
abbrev j_nl : List (String × Nat × MethodName × String) := [("VaneVotes$Village", 54, ⟨"VaneVotes$Mill", "<init>", "()V"⟩, "VaneVotes"), ("VaneVotes", 36, ⟨"VaneVotes$WindText", "<init>", "()V"⟩, "VaneVotes")]
def j_U (U : State) : Prop := (∀ x ∈ j_dc, va_Nw (.declares x) U) ∧ (∀ x ∈ j_cs, va_Nw (.castable x x) U) ∧ (∀ q ∈ j_nc, va_Nc q.1 q.2 U) ∧ (∀ q ∈ j_nl, va_Nw (.methodLinkNest q.1 q.2.1 q.2.2.1 q.2.2.2) U)
theorem j_U.warm {s U : State} (hW : s.WarmedH U.vm) (h : j_U s) : j_U U := ⟨fun x hx => va_Nw.warmD hW (h.1 x hx), fun x hx => va_Nw.warmC hW (h.2.1 x hx), fun q hq => va_Nc.moved hW.alike (h.2.2.1 q hq), fun q hq => va_Nw.warmM hW (h.2.2.2 q hq)⟩
theorem j_U.same {s U : State} (e : s.vm = U.vm) (h : j_U s) : j_U U := ⟨fun x hx => va_Nw.same rfl e (h.1 x hx), fun x hx => va_Nw.same rfl e (h.2.1 x hx), fun q hq => va_Nc.moved (by rw [e]; exact Vm.Alike.refl _) (h.2.2.1 q hq), fun q hq => va_Nw.same rfl e (h.2.2.2 q hq)⟩
def j_S (A : Nat → Prop) (U : State) (H : Heap) : Prop :=
  vx_Zq Bundle.tN "UNASSIGNED_STACK" Bundle.steD A U H ∧ vx_Zq Bundle.tN "SUPPRESSED_SENTINEL" Bundle.listD A U H ∧ (∀ q ∈ j_str, ∃ sa, vk_R q.1 q.2.1 q.2.2 sa U) ∧
  (∀ q ∈ j_sta, ∃ t, va_Z "VaneVotes" q.1 "[I" (.ref t) A U H ∧ va_T .int t q.2.1 (fun j => .int (q.2.2 j)) A U H) ∧ j_U U
theorem j_S.blind {A : Nat → Prop} {U : State} (g : JFrame) (mk : MethodId) (a : Array Value) (h : j_S A U U.heap) : j_S A (U.calling g mk a) (U.calling g mk a).heap := by
  obtain ⟨h1, h2, h3, h4, h5⟩ := h
  refine ⟨vx_Zq.moved (u := U) (Vm.Alike.refl U.vm) h1, vx_Zq.moved (u := U) (Vm.Alike.refl U.vm) h2, fun q hq => ?_, fun q hq => ?_, j_U.same (s := U) rfl h5⟩
  · obtain ⟨sa, hs⟩ := h3 q hq
    exact ⟨sa, vk_R.same (u := U) rfl hs⟩
  · obtain ⟨t, ht1, ht2⟩ := h4 q hq
    exact ⟨t, va_Z.moved (u := U) (Vm.Alike.refl U.vm) ht1, va_T.moved (u := U) (Vm.Alike.refl U.vm) ht2⟩
theorem j_S.call {A A' : Nat → Prop} {s U : State} {H : Heap} {locs : List Loc} (h : j_S A s s.heap) (hS : va_S A s.heap H locs) (hU : U.heap = H) (hW : s.WarmedH U.vm) (hAA : ∀ q, A' q → A q) : j_S A' U U.heap := by
  obtain ⟨h1, h2, h3, h4, h5⟩ := h
  rw [hU]
  have hk : ∀ a : Nat, a < s.heap.size → ¬ A a → H[a]? = s.heap[a]? := fun a ha hn => hS.2.1 a ha hn
  refine ⟨((h1.kept hk).moved hW.alike).narrow hAA, ((h2.kept hk).moved hW.alike).narrow hAA, fun q hq => ?_, fun q hq => ?_, h5.warm hW⟩
  · obtain ⟨sa, hs⟩ := h3 q hq
    exact ⟨sa, vk_R.warm hW hs⟩
  · obtain ⟨t, ht1, ht2⟩ := h4 q hq
    exact ⟨t, ((ht1.kept hk).moved hW.alike).narrow hAA, ((ht2.kept hk).moved hW.alike).narrow hAA⟩
/-- a method's start, its end by an answer, its end by an exception -/
def j_P (D : va_G) (T : Nat → ClassId) (ad : Nat → Nat) (h : j_H) (sz : Nat) : State → Prop := fun U =>
  U.heap.size = sz ∧ va_P D vwCl (j_w T ad h) U.heap ∧ va_K D vwCl (j_tys T) U ∧ va_D (fun _ => True) (j_w T ad h) ∧ j_S (va_A (j_w T ad h) sz) U U.heap
def j_Q (Φ : j_F) (D : va_G) (T : Nat → ClassId) (A : Nat → Prop) (ad : Nat → Nat) (N : Nat → Prop) : Array Value → State → Outcome → State → Prop := fun _ st o t =>
  (∃ (v : Option Value) (h' : j_H) (ad' : Nat → Nat), o = .returned (v.map (j_v ad')) ∧ Φ (.inl v) h' ∧ (∀ i, N i → ad' i = ad i) ∧ va_P D vwCl (j_w T ad' h') t.heap ∧ va_D A (j_w T ad' h')) ∧ va_F A st t
def j_E (Φ : j_F) (D : va_G) (T : Nat → ClassId) (A : Nat → Prop) (ad : Nat → Nat) (N : Nat → Prop) : String → State → State → Prop := fun E st t =>
  (∃ (h' : j_H) (ad' : Nat → Nat), Φ (.inr E) h' ∧ (∀ i, N i → ad' i = ad i) ∧ va_P D vwCl (j_w T ad' h') t.heap ∧ va_D A (j_w T ad' h')) ∧ va_F A st t
/-- a contract: from the world h with the arguments as, the method ends as Φ says -/
def Ct (M : j_M) (mc ms : Nat) (as : List Value) (h : j_H) (Φ : j_F) : Prop :=
  ∀ (l : Launch), l.stackTraces = false → ∀ (D : va_G) (T : Nat → ClassId) (ad : Nat → Nat) (sz : Nat),
    vx_Met l (jm_y M) (j_mw M) (j_rm M mc ms) (va_Pc (as.map (j_v ad)) (j_P D T ad h sz)) (j_Q Φ D T (va_A (j_w T ad h) sz) ad (fun i => jm_a M = true → i < h.length)) (j_E Φ D T (va_A (j_w T ad h) sz) ad (fun i => jm_a M = true → i < h.length)) mc ms (va_A (j_w T ad h) sz)
/-- the script's number -/
abbrev j_sid : Nat := 1000000
def j_scr (M : j_M) (N : Nat → Prop) (ad0 : Nat → Nat) (A : Nat → Prop) (s : State) : Prop := match jm_s M with
  | none => True
  | some q => N j_sid ∧ va_X (ad0 j_sid) q.1 q.2 s s.heap ∧ ad0 j_sid < s.heap.size ∧ ¬ A (ad0 j_sid)
/-- what holds all through a method's body -/
def j_X (M : j_M) (p : Program) (l : Launch) (R : Room) (s : State) (m : MethodId) (args : Array Value) (meth : Method) (c : Code) (D : va_G) (T : Nat → ClassId) (A : Nat → Prop) (N : Nat → Prop) (ad0 : Nat → Nat) (mc ms : Nat) : Prop :=
  p.tables.exec = Jvm.exec ∧ c.code = jm_b M ∧ c.maxLocals = jm_n M ∧ s.vm.findClass (jm_o M) = some m.cls ∧ (∀ w ∈ j_ws, w.before args s = true) ∧ meth.sig.returnType = jm_r M ∧ meth.locks = false ∧ va_K D vwCl (j_tys T) s ∧ l.stackTraces = false ∧
  jm_f M ≤ R.frames ∧ jm_l M ≤ R.locals ∧ mc ≤ R.cells ∧ ms ≤ R.slots ∧ (∀ q, s.heap.size ≤ q → A q) ∧ j_S A s s.heap ∧ c.exceptionTable.toList = tableOf (jm_h M) ∧ meth.name = (jm_y M).name ∧ j_scr M N ad0 A s
/-- what holds at a place of it -/
def j_I (M : j_M) (s : State) (D : va_G) (T : Nat → ClassId) (A : Nat → Prop) (N : Nat → Prop) (ad0 : Nat → Nat) (mc ms : Nat) (ad : Nat → Nat) (H : Heap) (locs : List Loc) (cells slots : Nat) (ls : Array Slot) (bc bs : Nat) (lv : j_L) (h : j_H) : Prop :=
  cells + bc ≤ mc ∧ slots + bs ≤ ms ∧ lv_has ls (jm_n M) (j_l ad lv) ∧ va_P D vwCl (j_w T ad h) H ∧ va_D A (j_w T ad h) ∧ va_S A s.heap H locs ∧ (∀ i, N i → ad i = ad0 i) ∧ (jm_a M = true → ∀ i, h.length ≤ i → i < j_sid → ¬ N i)
/-- from pc with these locals, this stack and this world, the method ends as Φ says; bc cells of bs slots may still be made -/
def J (M : j_M) (Φ : j_F) (bc bs pc : Nat) (lv : j_L) (st : List Value) (h : j_H) : Prop :=
  ∀ (p : Program) (l : Launch) (e : Env) (R : Room) (s : State) (m : MethodId) (args : Array Value) (below : List Frame) (meth : Method) (c : Code) (D : va_G) (T : Nat → ClassId) (A : Nat → Prop) (N : Nat → Prop) (ad0 : Nat → Nat) (mc ms : Nat),
    j_X M p l R s m args meth c D T A N ad0 mc ms → ∀ (ad : Nat → Nat) (H : Heap) (locs : List Loc) (cells slots : Nat) (ls : Array Slot), j_I M s D T A N ad0 mc ms ad H locs cells slots ls bc bs lv h →
      W p l e R s m args below meth c H locs cells slots (vx_MQ below (j_Q Φ D T A ad0 N) (j_E Φ D T A ad0 N) args s mc ms A) (F0 m pc ls (st.map (j_v ad)))
/-- the same with an exception of the class E thrown at pc -/
def JX (M : j_M) (Φ : j_F) (bc bs pc : Nat) (lv : j_L) (h : j_H) (E : String) : Prop :=
  ∀ (p : Program) (l : Launch) (e : Env) (R : Room) (s : State) (m : MethodId) (args : Array Value) (below : List Frame) (meth : Method) (c : Code) (D : va_G) (T : Nat → ClassId) (A : Nat → Prop) (N : Nat → Prop) (ad0 : Nat → Nat) (mc ms : Nat),
    j_X M p l R s m args meth c D T A N ad0 mc ms → ∀ (ad : Nat → Nat) (H : Heap) (locs : List Loc) (cells slots : Nat) (ls : Array Slot), j_I M s D T A N ad0 mc ms ad H locs cells slots ls bc bs lv h →
      ∀ (rest : List Value) (q : Addr) (ce : Cell), H[q]? = some ce → ce.vm = .none → s.vm.findClass E = some ce.cls →
      vx_W p l e R s m args below meth c H locs cells slots (vx_MQ below (j_Q Φ D T A ad0 N) (j_E Φ D T A ad0 N) args s mc ms A) (F0 m pc ls rest) q
/-- what an instruction does: a transformer; the exits by Φ, all else by K -/
abbrev j_K : Type := Nat → j_L → List Value → j_H → Prop
abbrev j_T : Type := j_F → Nat → Nat → j_K → j_L → List Value → j_H → Prop
def Snd (M : j_M) (pc : Nat) (S : j_T) : Prop := ∀ (Φ : j_F) (bc bs : Nat) (K : j_K), (∀ pc lv st h, K pc lv st h → J M Φ bc bs pc lv st h) → ∀ lv st h, S Φ bc bs K lv st h → J M Φ bc bs pc lv st h
def j_look {α : Type} (pc : Nat) : List (Nat × α) → Option α
  | [] => none
  | q :: t => match Nat.beq pc q.1 with
    | true => some q.2
    | false => j_look pc t
/-- fewer locals: those below n -/
def j_cut (n : Nat) : j_L → (j_L → Prop) → Prop
  | [], k => k []
  | q :: t, k => match Nat.blt q.1 n with
    | true => j_cut n t (fun t' => k (q :: t'))
    | false => j_cut n t k
/-- n instructions from pc on; at a stop (pc, n) the locals below n are kept -/
def wp (cd : List (Nat × j_T)) (stops : List (Nat × Nat)) (Φ : j_F) (bc bs : Nat) (K : j_K) : Nat → j_K
  | 0, pc, lv, st, h => K pc lv st h
  | n + 1, pc, lv, st, h => match j_look pc cd with
    | none => K pc lv st h
    | some S => S Φ bc bs (fun pc' lv' st' h' => match j_look pc' stops with
      | some k => j_cut k lv' (fun l => K pc' l st' h')
      | none => wp cd stops Φ bc bs K n pc' lv' st' h') lv st h
theorem J.fewer {M : j_M} {Φ : j_F} {bc bs pc : Nat} {lv lv' : j_L} {st : List Value} {h : j_H} (hs : ∀ q ∈ lv, q ∈ lv') (k : J M Φ bc bs pc lv st h) : J M Φ bc bs pc lv' st h := by
  intro p l e R s m args below meth c D T A N ad0 mc ms hX ad H locs cells slots ls hI
  refine k p l e R s m args below meth c D T A N ad0 mc ms hX ad H locs cells slots ls ?_
  obtain ⟨h1, h2, h3, h4⟩ := hI
  refine ⟨h1, h2, ⟨h3.1, h3.2.1, fun q hq => h3.2.2 q ?_⟩, h4⟩
  obtain ⟨q0, hq0, rfl⟩ := List.mem_map.mp hq
  exact List.mem_map.mpr ⟨q0, hs q0 hq0, rfl⟩
theorem J.less {M : j_M} {Φ : j_F} {bc bs bc' bs' pc : Nat} {lv : j_L} {st : List Value} {h : j_H} (h1 : bc' ≤ bc) (h2 : bs' ≤ bs) (k : J M Φ bc' bs' pc lv st h) : J M Φ bc bs pc lv st h := by
  intro p l e R s m args below meth c D T A N ad0 mc ms hX ad H locs cells slots ls hI
  refine k p l e R s m args below meth c D T A N ad0 mc ms hX ad H locs cells slots ls ?_
  obtain ⟨g1, g2, g3⟩ := hI
  exact ⟨by omega, by omega, g3⟩
theorem j_cut_inv (n : Nat) : ∀ (l : j_L) (k : j_L → Prop), j_cut n l k → ∃ l', k l' ∧ ∀ q ∈ l', q ∈ l
  | [], k, h => ⟨[], h, fun _ h => h⟩
  | q :: t, k, h => by
    unfold j_cut at h
    split at h
    · obtain ⟨l', h1, h2⟩ := j_cut_inv n t _ h
      exact ⟨q :: l', h1, fun z hz => by
        rcases List.mem_cons.mp hz with rfl | hz
        · exact List.mem_cons_self
        · exact List.mem_cons_of_mem _ (h2 z hz)⟩
    · obtain ⟨l', h1, h2⟩ := j_cut_inv n t _ h
      exact ⟨l', h1, fun z hz => List.mem_cons_of_mem _ (h2 z hz)⟩
theorem j_look_in {α : Type} {pc : Nat} {S : α} : ∀ (l : List (Nat × α)), j_look pc l = some S → (pc, S) ∈ l
  | [], h => by cases h
  | q :: t, h => by
    unfold j_look at h
    split at h
    · rename_i e
      cases h
      have := Nat.eq_of_beq_eq_true e
      subst this
      exact List.mem_cons_self
    · exact List.mem_cons_of_mem _ (j_look_in t h)
theorem wp_J {M : j_M} {cd : List (Nat × j_T)} (hcd : ∀ q ∈ cd, Snd M q.1 q.2) {stops : List (Nat × Nat)} {Φ : j_F} {bc bs : Nat} : ∀ (n pc : Nat) (lv : j_L) (st : List Value) (h : j_H), wp cd stops Φ bc bs (J M Φ bc bs) n pc lv st h → J M Φ bc bs pc lv st h
  | 0, _, _, _, _, k => k
  | n + 1, pc, lv, st, h, k => by
    unfold wp at k
    split at k
    · exact k
    · rename_i S hS
      refine hcd _ (j_look_in _ hS) Φ bc bs _ ?_ lv st h k
      intro pc' lv' st' h' k'
      split at k'
      · obtain ⟨l', k2, hl⟩ := j_cut_inv _ _ _ k'
        exact J.fewer hl k2
      · exact wp_J hcd n pc' lv' st' h' k'
end
section
/-! Instructions: e_ what one does, s_ that it is so. -/
def j_nth {α : Type} : List α → Nat → Option α
  | [], _ => none
  | a :: _, 0 => some a
  | _ :: t, n + 1 => j_nth t n
theorem j_nth_eq {α : Type} : ∀ (l : List α) (i : Nat), j_nth l i = l[i]?
  | [], i => by simp [j_nth]
  | a :: t, 0 => by simp [j_nth]
  | a :: t, n + 1 => by simp [j_nth, j_nth_eq t n]
def j_setk {α : Type} : List α → Nat → α → (List α → Prop) → Prop
  | [], _, _, k => k []
  | _ :: t, 0, x, k => k (x :: t)
  | a :: t, n + 1, x, k => j_setk t n x (fun t' => k (a :: t'))
theorem j_setk_eq {α : Type} : ∀ (l : List α) (i : Nat) (x : α) (k : List α → Prop), j_setk l i x k = k (l.set i x)
  | [], i, x, k => by simp [j_setk]
  | a :: t, 0, x, k => by simp [j_setk]
  | a :: t, n + 1, x, k => by simp [j_setk, j_setk_eq t n]
def j_flt {α : Type} (P : α → Bool) : List α → (List α → Prop) → Prop
  | [], k => k []
  | q :: t, k => match P q with
    | true => j_flt P t (fun t' => k (q :: t'))
    | false => j_flt P t k
theorem j_flt_eq {α : Type} (P : α → Bool) : ∀ (l : List α) (k : List α → Prop), j_flt P l k = k (l.filter P)
  | [], k => by simp [j_flt]
  | q :: t, k => by
    unfold j_flt
    split
    · rename_i e; rw [j_flt_eq P t, List.filter_cons_of_pos e]
    · rename_i e; rw [j_flt_eq P t, List.filter_cons_of_neg (by simp [e])]
def j_ins (i : Nat) (v : Value) : j_L → (j_L → Prop) → Prop
  | [], k => k [(i, v)]
  | q :: t, k => match Nat.blt i q.1 with
    | true => k ((i, v) :: q :: t)
    | false => j_ins i v t (fun t' => k (q :: t'))
theorem j_ins_inv (i : Nat) (v : Value) : ∀ (l : j_L) (k : j_L → Prop), j_ins i v l k → ∃ l', k l' ∧ ∀ q ∈ l', q = (i, v) ∨ q ∈ l
  | [], k, h => ⟨_, h, fun q hq => Or.inl (List.mem_singleton.mp hq)⟩
  | a :: t, k, h => by
    unfold j_ins at h
    split at h
    · exact ⟨_, h, fun q hq => List.mem_cons.mp hq⟩
    · obtain ⟨l', h1, h2⟩ := j_ins_inv i v t _ h
      refine ⟨_, h1, fun q hq => ?_⟩
      rcases List.mem_cons.mp hq with rfl | hq
      · exact Or.inr List.mem_cons_self
      · rcases h2 q hq with h | h
        · exact Or.inl h
        · exact Or.inr (List.mem_cons_of_mem _ h)
abbrev j_k1 (i : Nat) : Nat × Value → Bool := fun q => !(q.1 == i) && !(q.1 + 1 == i && q.2.category == 2)
abbrev j_k2 (i : Nat) : Nat × Value → Bool := fun q => !(q.1 == i) && (!(q.1 == i + 1) && !(q.1 + 1 == i && q.2.category == 2))
def j_put (P : Nat × Value → Bool) (i : Nat) (v : Value) (lv : j_L) (k : j_L → Prop) : Prop := j_flt P lv (fun l => j_ins i v l k)
theorem j_put_inv {P : Nat × Value → Bool} {i : Nat} {v : Value} {lv : j_L} {k : j_L → Prop} (h : j_put P i v lv k) : ∃ l', k l' ∧ ∀ q ∈ l', q = (i, v) ∨ q ∈ lv.filter P := by
  unfold j_put at h
  rw [j_flt_eq] at h
  exact j_ins_inv i v _ k h
theorem j_v_cat (ad : Nat → Nat) (v : Value) : (j_v ad v).category = v.category := by cases v <;> rfl
theorem j_l_k1 (ad : Nat → Nat) (i : Nat) (lv : j_L) : (j_l ad lv).filter (fun q => !(q.1 == i) && !(q.1 + 1 == i && q.2.category == 2)) = j_l ad (lv.filter (j_k1 i)) := by
  unfold j_l
  rw [List.filter_map]
  congr 1
  apply List.filter_congr
  intro q _
  simp [j_v_cat, j_k1, j_k2]
theorem j_l_k2 (ad : Nat → Nat) (i : Nat) (lv : j_L) : (j_l ad lv).filter (fun q => !(q.1 == i) && (!(q.1 == i + 1) && !(q.1 + 1 == i && q.2.category == 2))) = j_l ad (lv.filter (j_k2 i)) := by
  unfold j_l
  rw [List.filter_map]
  congr 1
  apply List.filter_congr
  intro q _
  simp [j_v_cat, j_k1, j_k2]
theorem j_has_sub {ls : Array Slot} {n i : Nat} {v : Value} {ad : Nat → Nat} {lv l' : j_L} {P : Nat × Value → Bool} (h : lv_has ls n ((i, j_v ad v) :: j_l ad (lv.filter P))) (hs : ∀ q ∈ l', q = (i, v) ∨ q ∈ lv.filter P) : lv_has ls n (j_l ad l') := by
  refine ⟨h.1, h.2.1, fun q hq => h.2.2 q ?_⟩
  obtain ⟨q0, hq0, rfl⟩ := List.mem_map.mp hq
  rcases hs q0 hq0 with rfl | h
  · exact List.mem_cons_self
  · exact List.mem_cons_of_mem _ (List.mem_map.mpr ⟨q0, h, rfl⟩)
theorem j_lget {ls : Array Slot} {n i : Nat} {v : Value} {ad : Nat → Nat} {lv : j_L} (hl : lv_has ls n (j_l ad lv)) (e : j_look i lv = some v) : ls[i]? = some (.val (j_v ad v)) :=
  hl.2.2 (i, j_v ad v) (List.mem_map.mpr ⟨(i, v), j_look_in _ e, rfl⟩)
theorem j_I.put {M : j_M} {s : State} {D : va_G} {T : Nat → ClassId} {A N : Nat → Prop} {ad0 ad : Nat → Nat} {mc ms cells slots bc bs : Nat} {H : Heap} {locs : List Loc} {ls ls' : Array Slot} {lv l' : j_L} {h : j_H}
    (hI : j_I M s D T A N ad0 mc ms ad H locs cells slots ls bc bs lv h) (hl : lv_has ls' (jm_n M) (j_l ad l')) : j_I M s D T A N ad0 mc ms ad H locs cells slots ls' bc bs l' h :=
  ⟨hI.1, hI.2.1, hl, hI.2.2.2⟩
theorem j_I.world {M : j_M} {s : State} {D : va_G} {T : Nat → ClassId} {A N : Nat → Prop} {ad0 ad : Nat → Nat} {mc ms cells slots bc bs : Nat} {H H1 : Heap} {locs locs1 : List Loc} {ls : Array Slot} {lv : j_L} {h : j_H} {i : Nat} {c : j_C} {e : Nat × va_E}
    (hI : j_I M s D T A N ad0 mc ms ad H locs cells slots ls bc bs lv h) (he : e = (ad i, j_c T ad c)) (hP : va_P D vwCl ((j_w T ad h).set i e) H1) (hD : va_D A ((j_w T ad h).set i e)) (hS : va_S A s.heap H1 locs1) : j_I M s D T A N ad0 mc ms ad H1 locs1 cells slots ls bc bs lv (h.set i c) := by
  subst he
  rw [j_w_set] at hP hD
  exact ⟨hI.1, hI.2.1, hI.2.2.1, hP, hD, hS, hI.2.2.2.2.2.2.1, fun h1 i h2 => hI.2.2.2.2.2.2.2 h1 i (by rw [List.length_set] at h2; exact h2)⟩
/-- an object of the class ci at the place i -/
def j_obj (h : j_H) (i ci : Nat) (k : List Value → Prop) : Prop := match j_nth h i with
  | some (.inr (c, fs)) => match Nat.beq c ci with
    | true => k fs
    | false => False
  | _ => False
theorem j_obj_inv {h : j_H} {i ci : Nat} {k : List Value → Prop} (e : j_obj h i ci k) : ∃ fs, h[i]? = some (.inr (ci, fs)) ∧ k fs := by
  unfold j_obj at e
  rw [j_nth_eq] at e
  split at e
  · rename_i c fs h1
    split at e
    · rename_i h2
      have := Nat.eq_of_beq_eq_true h2
      subst this
      exact ⟨fs, h1, e⟩
    · exact e.elim
  · exact e.elim
/-- a row of ints (or of booleans) of the type t at the place i -/
def j_ia (t : Nat) (h : j_H) (i : Nat) (k : Nat → (Nat → Int32) → Prop) : Prop := match j_nth h i with
  | some (.inl (t', n, .inl f)) => match Nat.beq t' t with
    | true => k n f
    | false => False
  | _ => False
theorem j_ia_inv {t : Nat} {h : j_H} {i : Nat} {k : Nat → (Nat → Int32) → Prop} (e : j_ia t h i k) : ∃ n f, h[i]? = some (.inl (t, n, .inl f)) ∧ k n f := by
  unfold j_ia at e
  rw [j_nth_eq] at e
  split at e
  · rename_i c n f h1
    split at e
    · rename_i h2
      have := Nat.eq_of_beq_eq_true h2
      subst this
      exact ⟨n, f, h1, e⟩
    · exact e.elim
  · exact e.elim
def j_la (t : Nat) (h : j_H) (i : Nat) (k : Nat → (Nat → Int64) → Prop) : Prop := match j_nth h i with
  | some (.inl (t', n, .inr (.inl f))) => match Nat.beq t' t with
    | true => k n f
    | false => False
  | _ => False
theorem j_la_inv {t : Nat} {h : j_H} {i : Nat} {k : Nat → (Nat → Int64) → Prop} (e : j_la t h i k) : ∃ n f, h[i]? = some (.inl (t, n, .inr (.inl f))) ∧ k n f := by
  unfold j_la at e
  rw [j_nth_eq] at e
  split at e
  · rename_i c n f h1
    split at e
    · rename_i h2
      have := Nat.eq_of_beq_eq_true h2
      subst this
      exact ⟨n, f, h1, e⟩
    · exact e.elim
  · exact e.elim
def j_qa (t : Nat) (h : j_H) (i : Nat) (k : Nat → (Nat → Option Nat) → Prop) : Prop := match j_nth h i with
  | some (.inl (t', n, .inr (.inr (.inr (.inr f))))) => match Nat.beq t' t with
    | true => k n f
    | false => False
  | _ => False
theorem j_qa_inv {t : Nat} {h : j_H} {i : Nat} {k : Nat → (Nat → Option Nat) → Prop} (e : j_qa t h i k) : ∃ n f, h[i]? = some (.inl (t, n, .inr (.inr (.inr (.inr f))))) ∧ k n f := by
  unfold j_qa at e
  rw [j_nth_eq] at e
  split at e
  · rename_i c n f h1
    split at e
    · rename_i h2
      have := Nat.eq_of_beq_eq_true h2
      subst this
      exact ⟨n, f, h1, e⟩
    · exact e.elim
  · exact e.elim

def e_iadd (nx : Nat) : j_T := fun _ _ _ K lv st h => match st with
  | .int y :: .int x :: r => K nx lv (.int (x + y) :: r) h
  | _ => False
theorem s_iadd {M : j_M} {pc : Nat}  (hd : decode (jm_b M) pc = .ok (.iadd, 1)) : Snd M pc (e_iadd  (pc + 1)) := by
  intro Φ bc bs K hK lv st h hS
  unfold e_iadd at hS
  split at hS
  · intro p l e R s m args below meth c D T A N ad0 mc ms hX ad H locs cells slots ls hI
    obtain ⟨hx, hb, hml, hown, hts, hret, hlk, hKk, hst, hfr, hlo, hmc, hms, hA, hSx, htb, hnm, hsc⟩ := id hX
    obtain ⟨hc, hs, hl, hP, hD, hSS, hN, hAl⟩ := id hI
    exact lv_iadd hx hb hd (hK _ _ _ _ hS p l e R s m args below meth c D T A N ad0 mc ms hX ad H locs cells slots ls hI)
  · exact hS.elim
def e_isub (nx : Nat) : j_T := fun _ _ _ K lv st h => match st with
  | .int y :: .int x :: r => K nx lv (.int (x - y) :: r) h
  | _ => False
theorem s_isub {M : j_M} {pc : Nat}  (hd : decode (jm_b M) pc = .ok (.isub, 1)) : Snd M pc (e_isub  (pc + 1)) := by
  intro Φ bc bs K hK lv st h hS
  unfold e_isub at hS
  split at hS
  · intro p l e R s m args below meth c D T A N ad0 mc ms hX ad H locs cells slots ls hI
    obtain ⟨hx, hb, hml, hown, hts, hret, hlk, hKk, hst, hfr, hlo, hmc, hms, hA, hSx, htb, hnm, hsc⟩ := id hX
    obtain ⟨hc, hs, hl, hP, hD, hSS, hN, hAl⟩ := id hI
    exact lv_isub hx hb hd (hK _ _ _ _ hS p l e R s m args below meth c D T A N ad0 mc ms hX ad H locs cells slots ls hI)
  · exact hS.elim
def e_imul (nx : Nat) : j_T := fun _ _ _ K lv st h => match st with
  | .int y :: .int x :: r => K nx lv (.int (x * y) :: r) h
  | _ => False
theorem s_imul {M : j_M} {pc : Nat}  (hd : decode (jm_b M) pc = .ok (.imul, 1)) : Snd M pc (e_imul  (pc + 1)) := by
  intro Φ bc bs K hK lv st h hS
  unfold e_imul at hS
  split at hS
  · intro p l e R s m args below meth c D T A N ad0 mc ms hX ad H locs cells slots ls hI
    obtain ⟨hx, hb, hml, hown, hts, hret, hlk, hKk, hst, hfr, hlo, hmc, hms, hA, hSx, htb, hnm, hsc⟩ := id hX
    obtain ⟨hc, hs, hl, hP, hD, hSS, hN, hAl⟩ := id hI
    exact lv_imul hx hb hd (hK _ _ _ _ hS p l e R s m args below meth c D T A N ad0 mc ms hX ad H locs cells slots ls hI)
  · exact hS.elim
def e_iand (nx : Nat) : j_T := fun _ _ _ K lv st h => match st with
  | .int y :: .int x :: r => K nx lv (.int (x &&& y) :: r) h
  | _ => False
theorem s_iand {M : j_M} {pc : Nat}  (hd : decode (jm_b M) pc = .ok (.iand, 1)) : Snd M pc (e_iand  (pc + 1)) := by
  intro Φ bc bs K hK lv st h hS
  unfold e_iand at hS
  split at hS
  · intro p l e R s m args below meth c D T A N ad0 mc ms hX ad H locs cells slots ls hI
    obtain ⟨hx, hb, hml, hown, hts, hret, hlk, hKk, hst, hfr, hlo, hmc, hms, hA, hSx, htb, hnm, hsc⟩ := id hX
    obtain ⟨hc, hs, hl, hP, hD, hSS, hN, hAl⟩ := id hI
    exact lv_iand hx hb hd (hK _ _ _ _ hS p l e R s m args below meth c D T A N ad0 mc ms hX ad H locs cells slots ls hI)
  · exact hS.elim
def e_ior (nx : Nat) : j_T := fun _ _ _ K lv st h => match st with
  | .int y :: .int x :: r => K nx lv (.int (x ||| y) :: r) h
  | _ => False
theorem s_ior {M : j_M} {pc : Nat}  (hd : decode (jm_b M) pc = .ok (.ior, 1)) : Snd M pc (e_ior  (pc + 1)) := by
  intro Φ bc bs K hK lv st h hS
  unfold e_ior at hS
  split at hS
  · intro p l e R s m args below meth c D T A N ad0 mc ms hX ad H locs cells slots ls hI
    obtain ⟨hx, hb, hml, hown, hts, hret, hlk, hKk, hst, hfr, hlo, hmc, hms, hA, hSx, htb, hnm, hsc⟩ := id hX
    obtain ⟨hc, hs, hl, hP, hD, hSS, hN, hAl⟩ := id hI
    exact lv_ior hx hb hd (hK _ _ _ _ hS p l e R s m args below meth c D T A N ad0 mc ms hX ad H locs cells slots ls hI)
  · exact hS.elim
def e_idiv (nx : Nat) : j_T := fun _ _ _ K lv st h => match st with
  | .int y :: .int x :: r => (¬ y = 0) ∧ K nx lv (.int (x / y) :: r) h
  | _ => False
theorem s_idiv {M : j_M} {pc : Nat}  (hd : decode (jm_b M) pc = .ok (.idiv, 1)) : Snd M pc (e_idiv  (pc + 1)) := by
  intro Φ bc bs K hK lv st h hS
  unfold e_idiv at hS
  split at hS
  · obtain ⟨hcond, hS⟩ := hS
    intro p l e R s m args below meth c D T A N ad0 mc ms hX ad H locs cells slots ls hI
    obtain ⟨hx, hb, hml, hown, hts, hret, hlk, hKk, hst, hfr, hlo, hmc, hms, hA, hSx, htb, hnm, hsc⟩ := id hX
    obtain ⟨hc, hs, hl, hP, hD, hSS, hN, hAl⟩ := id hI
    exact lv_idiv hx hb hd hcond (hK _ _ _ _ hS p l e R s m args below meth c D T A N ad0 mc ms hX ad H locs cells slots ls hI)
  · exact hS.elim
def e_irem (nx : Nat) : j_T := fun _ _ _ K lv st h => match st with
  | .int y :: .int x :: r => (¬ y = 0) ∧ K nx lv (.int (x - x / y * y) :: r) h
  | _ => False
theorem s_irem {M : j_M} {pc : Nat}  (hd : decode (jm_b M) pc = .ok (.irem, 1)) : Snd M pc (e_irem  (pc + 1)) := by
  intro Φ bc bs K hK lv st h hS
  unfold e_irem at hS
  split at hS
  · obtain ⟨hcond, hS⟩ := hS
    intro p l e R s m args below meth c D T A N ad0 mc ms hX ad H locs cells slots ls hI
    obtain ⟨hx, hb, hml, hown, hts, hret, hlk, hKk, hst, hfr, hlo, hmc, hms, hA, hSx, htb, hnm, hsc⟩ := id hX
    obtain ⟨hc, hs, hl, hP, hD, hSS, hN, hAl⟩ := id hI
    exact lv_irem hx hb hd hcond (hK _ _ _ _ hS p l e R s m args below meth c D T A N ad0 mc ms hX ad H locs cells slots ls hI)
  · exact hS.elim
def e_ineg (nx : Nat) : j_T := fun _ _ _ K lv st h => match st with
  | .int x :: r => K nx lv (.int (-x) :: r) h
  | _ => False
theorem s_ineg {M : j_M} {pc : Nat}  (hd : decode (jm_b M) pc = .ok (.ineg, 1)) : Snd M pc (e_ineg  (pc + 1)) := by
  intro Φ bc bs K hK lv st h hS
  unfold e_ineg at hS
  split at hS
  · intro p l e R s m args below meth c D T A N ad0 mc ms hX ad H locs cells slots ls hI
    obtain ⟨hx, hb, hml, hown, hts, hret, hlk, hKk, hst, hfr, hlo, hmc, hms, hA, hSx, htb, hnm, hsc⟩ := id hX
    obtain ⟨hc, hs, hl, hP, hD, hSS, hN, hAl⟩ := id hI
    exact lv_ineg hx hb hd (hK _ _ _ _ hS p l e R s m args below meth c D T A N ad0 mc ms hX ad H locs cells slots ls hI)
  · exact hS.elim
def e_ladd (nx : Nat) : j_T := fun _ _ _ K lv st h => match st with
  | .long y :: .long x :: r => K nx lv (.long (x + y) :: r) h
  | _ => False
theorem s_ladd {M : j_M} {pc : Nat}  (hd : decode (jm_b M) pc = .ok (.ladd, 1)) : Snd M pc (e_ladd  (pc + 1)) := by
  intro Φ bc bs K hK lv st h hS
  unfold e_ladd at hS
  split at hS
  · intro p l e R s m args below meth c D T A N ad0 mc ms hX ad H locs cells slots ls hI
    obtain ⟨hx, hb, hml, hown, hts, hret, hlk, hKk, hst, hfr, hlo, hmc, hms, hA, hSx, htb, hnm, hsc⟩ := id hX
    obtain ⟨hc, hs, hl, hP, hD, hSS, hN, hAl⟩ := id hI
    exact lv_ladd hx hb hd (hK _ _ _ _ hS p l e R s m args below meth c D T A N ad0 mc ms hX ad H locs cells slots ls hI)
  · exact hS.elim
def e_lsub (nx : Nat) : j_T := fun _ _ _ K lv st h => match st with
  | .long y :: .long x :: r => K nx lv (.long (x - y) :: r) h
  | _ => False
theorem s_lsub {M : j_M} {pc : Nat}  (hd : decode (jm_b M) pc = .ok (.lsub, 1)) : Snd M pc (e_lsub  (pc + 1)) := by
  intro Φ bc bs K hK lv st h hS
  unfold e_lsub at hS
  split at hS
  · intro p l e R s m args below meth c D T A N ad0 mc ms hX ad H locs cells slots ls hI
    obtain ⟨hx, hb, hml, hown, hts, hret, hlk, hKk, hst, hfr, hlo, hmc, hms, hA, hSx, htb, hnm, hsc⟩ := id hX
    obtain ⟨hc, hs, hl, hP, hD, hSS, hN, hAl⟩ := id hI
    exact lv_lsub hx hb hd (hK _ _ _ _ hS p l e R s m args below meth c D T A N ad0 mc ms hX ad H locs cells slots ls hI)
  · exact hS.elim
def e_lmul (nx : Nat) : j_T := fun _ _ _ K lv st h => match st with
  | .long y :: .long x :: r => K nx lv (.long (x * y) :: r) h
  | _ => False
theorem s_lmul {M : j_M} {pc : Nat}  (hd : decode (jm_b M) pc = .ok (.lmul, 1)) : Snd M pc (e_lmul  (pc + 1)) := by
  intro Φ bc bs K hK lv st h hS
  unfold e_lmul at hS
  split at hS
  · intro p l e R s m args below meth c D T A N ad0 mc ms hX ad H locs cells slots ls hI
    obtain ⟨hx, hb, hml, hown, hts, hret, hlk, hKk, hst, hfr, hlo, hmc, hms, hA, hSx, htb, hnm, hsc⟩ := id hX
    obtain ⟨hc, hs, hl, hP, hD, hSS, hN, hAl⟩ := id hI
    exact lv_lmul hx hb hd (hK _ _ _ _ hS p l e R s m args below meth c D T A N ad0 mc ms hX ad H locs cells slots ls hI)
  · exact hS.elim
def e_lor (nx : Nat) : j_T := fun _ _ _ K lv st h => match st with
  | .long y :: .long x :: r => K nx lv (.long (x ||| y) :: r) h
  | _ => False
theorem s_lor {M : j_M} {pc : Nat}  (hd : decode (jm_b M) pc = .ok (.lor, 1)) : Snd M pc (e_lor  (pc + 1)) := by
  intro Φ bc bs K hK lv st h hS
  unfold e_lor at hS
  split at hS
  · intro p l e R s m args below meth c D T A N ad0 mc ms hX ad H locs cells slots ls hI
    obtain ⟨hx, hb, hml, hown, hts, hret, hlk, hKk, hst, hfr, hlo, hmc, hms, hA, hSx, htb, hnm, hsc⟩ := id hX
    obtain ⟨hc, hs, hl, hP, hD, hSS, hN, hAl⟩ := id hI
    exact lv_lor hx hb hd (hK _ _ _ _ hS p l e R s m args below meth c D T A N ad0 mc ms hX ad H locs cells slots ls hI)
  · exact hS.elim
def e_lshl (nx : Nat) : j_T := fun _ _ _ K lv st h => match st with
  | .int y :: .long x :: r => K nx lv (.long (x <<< (y.toInt64 &&& 63)) :: r) h
  | _ => False
theorem s_lshl {M : j_M} {pc : Nat} (hd : decode (jm_b M) pc = .ok (.lshl, 1)) : Snd M pc (e_lshl (pc + 1)) := by
  intro Φ bc bs K hK lv st h hS
  unfold e_lshl at hS
  split at hS
  · intro p l e R s m args below meth c D T A N ad0 mc ms hX ad H locs cells slots ls hI
    obtain ⟨hx, hb, hml, hown, hts, hret, hlk, hKk, hst, hfr, hlo, hmc, hms, hA, hSx, htb, hnm, hsc⟩ := id hX
    obtain ⟨hc, hs, hl, hP, hD, hSS, hN, hAl⟩ := id hI
    exact lv_lshl hx hb hd rfl (hK _ _ _ _ hS p l e R s m args below meth c D T A N ad0 mc ms hX ad H locs cells slots ls hI)
  · exact hS.elim
def e_lcmp (nx : Nat) : j_T := fun _ _ _ K lv st h => match st with
  | .long y :: .long x :: r => K nx lv (.int (lg_cmp x y) :: r) h
  | _ => False
theorem s_lcmp {M : j_M} {pc : Nat}  (hd : decode (jm_b M) pc = .ok (.lcmp, 1)) : Snd M pc (e_lcmp  (pc + 1)) := by
  intro Φ bc bs K hK lv st h hS
  unfold e_lcmp at hS
  split at hS
  · intro p l e R s m args below meth c D T A N ad0 mc ms hX ad H locs cells slots ls hI
    obtain ⟨hx, hb, hml, hown, hts, hret, hlk, hKk, hst, hfr, hlo, hmc, hms, hA, hSx, htb, hnm, hsc⟩ := id hX
    obtain ⟨hc, hs, hl, hP, hD, hSS, hN, hAl⟩ := id hI
    exact W.lcmp hx hb hd (hK _ _ _ _ hS p l e R s m args below meth c D T A N ad0 mc ms hX ad H locs cells slots ls hI)
  · exact hS.elim
def e_dmul (nx : Nat) : j_T := fun _ _ _ K lv st h => match st with
  | .double y :: .double x :: r => vf_n64 (FP.dmul x y) ∧ K nx lv (.double (FP.dmul x y) :: r) h
  | _ => False
theorem s_dmul {M : j_M} {pc : Nat}  (hd : decode (jm_b M) pc = .ok (.dmul, 1)) : Snd M pc (e_dmul  (pc + 1)) := by
  intro Φ bc bs K hK lv st h hS
  unfold e_dmul at hS
  split at hS
  · obtain ⟨hcond, hS⟩ := hS
    intro p l e R s m args below meth c D T A N ad0 mc ms hX ad H locs cells slots ls hI
    obtain ⟨hx, hb, hml, hown, hts, hret, hlk, hKk, hst, hfr, hlo, hmc, hms, hA, hSx, htb, hnm, hsc⟩ := id hX
    obtain ⟨hc, hs, hl, hP, hD, hSS, hN, hAl⟩ := id hI
    exact lv_dmul hx hb hd hcond (hK _ _ _ _ hS p l e R s m args below meth c D T A N ad0 mc ms hX ad H locs cells slots ls hI)
  · exact hS.elim
def e_dsub (nx : Nat) : j_T := fun _ _ _ K lv st h => match st with
  | .double y :: .double x :: r => vf_n64 (FP.dsub x y) ∧ K nx lv (.double (FP.dsub x y) :: r) h
  | _ => False
theorem s_dsub {M : j_M} {pc : Nat}  (hd : decode (jm_b M) pc = .ok (.dsub, 1)) : Snd M pc (e_dsub  (pc + 1)) := by
  intro Φ bc bs K hK lv st h hS
  unfold e_dsub at hS
  split at hS
  · obtain ⟨hcond, hS⟩ := hS
    intro p l e R s m args below meth c D T A N ad0 mc ms hX ad H locs cells slots ls hI
    obtain ⟨hx, hb, hml, hown, hts, hret, hlk, hKk, hst, hfr, hlo, hmc, hms, hA, hSx, htb, hnm, hsc⟩ := id hX
    obtain ⟨hc, hs, hl, hP, hD, hSS, hN, hAl⟩ := id hI
    exact lv_dsub hx hb hd hcond (hK _ _ _ _ hS p l e R s m args below meth c D T A N ad0 mc ms hX ad H locs cells slots ls hI)
  · exact hS.elim
def e_ddiv (nx : Nat) : j_T := fun _ _ _ K lv st h => match st with
  | .double y :: .double x :: r => vf_n64 (FP.ddiv x y) ∧ K nx lv (.double (FP.ddiv x y) :: r) h
  | _ => False
theorem s_ddiv {M : j_M} {pc : Nat}  (hd : decode (jm_b M) pc = .ok (.ddiv, 1)) : Snd M pc (e_ddiv  (pc + 1)) := by
  intro Φ bc bs K hK lv st h hS
  unfold e_ddiv at hS
  split at hS
  · obtain ⟨hcond, hS⟩ := hS
    intro p l e R s m args below meth c D T A N ad0 mc ms hX ad H locs cells slots ls hI
    obtain ⟨hx, hb, hml, hown, hts, hret, hlk, hKk, hst, hfr, hlo, hmc, hms, hA, hSx, htb, hnm, hsc⟩ := id hX
    obtain ⟨hc, hs, hl, hP, hD, hSS, hN, hAl⟩ := id hI
    exact lv_ddiv hx hb hd hcond (hK _ _ _ _ hS p l e R s m args below meth c D T A N ad0 mc ms hX ad H locs cells slots ls hI)
  · exact hS.elim
def e_i2d (nx : Nat) : j_T := fun _ _ _ K lv st h => match st with
  | .int x :: r => K nx lv (.double (FP.i2d x) :: r) h
  | _ => False
theorem s_i2d {M : j_M} {pc : Nat}  (hd : decode (jm_b M) pc = .ok (.i2d, 1)) : Snd M pc (e_i2d  (pc + 1)) := by
  intro Φ bc bs K hK lv st h hS
  unfold e_i2d at hS
  split at hS
  · intro p l e R s m args below meth c D T A N ad0 mc ms hX ad H locs cells slots ls hI
    obtain ⟨hx, hb, hml, hown, hts, hret, hlk, hKk, hst, hfr, hlo, hmc, hms, hA, hSx, htb, hnm, hsc⟩ := id hX
    obtain ⟨hc, hs, hl, hP, hD, hSS, hN, hAl⟩ := id hI
    exact lv_i2d hx hb hd (hK _ _ _ _ hS p l e R s m args below meth c D T A N ad0 mc ms hX ad H locs cells slots ls hI)
  · exact hS.elim
def e_d2l (nx : Nat) : j_T := fun _ _ _ K lv st h => match st with
  | .double x :: r => K nx lv (.long (FP.d2l x) :: r) h
  | _ => False
theorem s_d2l {M : j_M} {pc : Nat}  (hd : decode (jm_b M) pc = .ok (.d2l, 1)) : Snd M pc (e_d2l  (pc + 1)) := by
  intro Φ bc bs K hK lv st h hS
  unfold e_d2l at hS
  split at hS
  · intro p l e R s m args below meth c D T A N ad0 mc ms hX ad H locs cells slots ls hI
    obtain ⟨hx, hb, hml, hown, hts, hret, hlk, hKk, hst, hfr, hlo, hmc, hms, hA, hSx, htb, hnm, hsc⟩ := id hX
    obtain ⟨hc, hs, hl, hP, hD, hSS, hN, hAl⟩ := id hI
    exact lv_d2l hx hb hd (hK _ _ _ _ hS p l e R s m args below meth c D T A N ad0 mc ms hX ad H locs cells slots ls hI)
  · exact hS.elim
def e_i2l (nx : Nat) : j_T := fun _ _ _ K lv st h => match st with
  | .int x :: r => K nx lv (.long x.toInt64 :: r) h
  | _ => False
theorem s_i2l {M : j_M} {pc : Nat} (hd : decode (jm_b M) pc = .ok (.i2l, 1)) : Snd M pc (e_i2l (pc + 1)) := by
  intro Φ bc bs K hK lv st h hS
  unfold e_i2l at hS
  split at hS
  · intro p l e R s m args below meth c D T A N ad0 mc ms hX ad H locs cells slots ls hI
    obtain ⟨hx, hb, hml, hown, hts, hret, hlk, hKk, hst, hfr, hlo, hmc, hms, hA, hSx, htb, hnm, hsc⟩ := id hX
    obtain ⟨hc, hs, hl, hP, hD, hSS, hN, hAl⟩ := id hI
    exact lv_i2l hx hb hd rfl (hK _ _ _ _ hS p l e R s m args below meth c D T A N ad0 mc ms hX ad H locs cells slots ls hI)
  · exact hS.elim
def e_dcmp (op : CmpOp) (nx : Nat) : j_T := fun _ _ _ K lv st h => match st with
  | .double y :: .double x :: r => K nx lv (.int (Op.cmpValue (FP.dcmp x y) op) :: r) h
  | _ => False
theorem s_dcmp {M : j_M} {pc : Nat} {op : CmpOp} (hd : decode (jm_b M) pc = .ok (.dcmp op, 1)) : Snd M pc (e_dcmp op (pc + 1)) := by
  intro Φ bc bs K hK lv st h hS
  unfold e_dcmp at hS
  split at hS
  · intro p l e R s m args below meth c D T A N ad0 mc ms hX ad H locs cells slots ls hI
    obtain ⟨hx, hb, hml, hown, hts, hret, hlk, hKk, hst, hfr, hlo, hmc, hms, hA, hSx, htb, hnm, hsc⟩ := id hX
    obtain ⟨hc, hs, hl, hP, hD, hSS, hN, hAl⟩ := id hI
    exact lv_dcmp hx hb hd (hK _ _ _ _ hS p l e R s m args below meth c D T A N ad0 mc ms hX ad H locs cells slots ls hI)
  · exact hS.elim
def e_dup (nx : Nat) : j_T := fun _ _ _ K lv st h => match st with
  | v :: r => v.category = 1 ∧ K nx lv (v :: v :: r) h
  | _ => False
theorem s_dup {M : j_M} {pc : Nat} (hd : decode (jm_b M) pc = .ok (.dup, 1)) : Snd M pc (e_dup (pc + 1)) := by
  intro Φ bc bs K hK lv st h hS
  unfold e_dup at hS
  split at hS
  · rename_i v r
    obtain ⟨hcat, hS⟩ := hS
    intro p l e R s m args below meth c D T A N ad0 mc ms hX ad H locs cells slots ls hI
    obtain ⟨hx, hb, hml, hown, hts, hret, hlk, hKk, hst, hfr, hlo, hmc, hms, hA, hSx, htb, hnm, hsc⟩ := id hX
    obtain ⟨hc, hs, hl, hP, hD, hSS, hN, hAl⟩ := id hI
    exact lv_dup hx hb hd ((j_v_cat ad v).trans hcat) (hK _ _ _ _ hS p l e R s m args below meth c D T A N ad0 mc ms hX ad H locs cells slots ls hI)
  · exact hS.elim
def e_dup2 (nx : Nat) : j_T := fun _ _ _ K lv st h => match st with
  | v :: u :: r => v.category = 1 ∧ u.category = 1 ∧ K nx lv (v :: u :: v :: u :: r) h
  | _ => False
theorem s_dup2 {M : j_M} {pc : Nat} (hd : decode (jm_b M) pc = .ok (.dup2, 1)) : Snd M pc (e_dup2 (pc + 1)) := by
  intro Φ bc bs K hK lv st h hS
  unfold e_dup2 at hS
  split at hS
  · rename_i v u r
    obtain ⟨hcat, hcat2, hS⟩ := hS
    intro p l e R s m args below meth c D T A N ad0 mc ms hX ad H locs cells slots ls hI
    obtain ⟨hx, hb, hml, hown, hts, hret, hlk, hKk, hst, hfr, hlo, hmc, hms, hA, hSx, htb, hnm, hsc⟩ := id hX
    obtain ⟨hc, hs, hl, hP, hD, hSS, hN, hAl⟩ := id hI
    exact lv_dup2_11 hx hb hd ((j_v_cat ad v).trans hcat) ((j_v_cat ad u).trans hcat2) (hK _ _ _ _ hS p l e R s m args below meth c D T A N ad0 mc ms hX ad H locs cells slots ls hI)
  · exact hS.elim
def e_pop (nx : Nat) : j_T := fun _ _ _ K lv st h => match st with
  | v :: r => v.category = 1 ∧ K nx lv r h
  | _ => False
theorem s_pop {M : j_M} {pc : Nat} (hd : decode (jm_b M) pc = .ok (.pop, 1)) : Snd M pc (e_pop (pc + 1)) := by
  intro Φ bc bs K hK lv st h hS
  unfold e_pop at hS
  split at hS
  · rename_i v r
    obtain ⟨hcat, hS⟩ := hS
    intro p l e R s m args below meth c D T A N ad0 mc ms hX ad H locs cells slots ls hI
    obtain ⟨hx, hb, hml, hown, hts, hret, hlk, hKk, hst, hfr, hlo, hmc, hms, hA, hSx, htb, hnm, hsc⟩ := id hX
    obtain ⟨hc, hs, hl, hP, hD, hSS, hN, hAl⟩ := id hI
    exact lv_pop hx hb hd ((j_v_cat ad v).trans hcat) (hK _ _ _ _ hS p l e R s m args below meth c D T A N ad0 mc ms hX ad H locs cells slots ls hI)
  · exact hS.elim
def e_ci (v : Int32) (nx : Nat) : j_T := fun _ _ _ K lv st h => K nx lv (.int v :: st) h
def e_cl (v : Int64) (nx : Nat) : j_T := fun _ _ _ K lv st h => K nx lv (.long v :: st) h
def e_cd (v : UInt64) (nx : Nat) : j_T := fun _ _ _ K lv st h => K nx lv (.double v :: st) h
theorem s_iconst {M : j_M} {pc : Nat} {n : Int} {v : Int32} (hd : decode (jm_b M) pc = .ok (.iconst n, 1)) (hv : Int32.ofInt n = v) : Snd M pc (e_ci v (pc + 1)) := by
  intro Φ bc bs K hK lv st h hS
  intro p l e R s m args below meth c D T A N ad0 mc ms hX ad H locs cells slots ls hI
  obtain ⟨hx, hb, hml, hown, hts, hret, hlk, hKk, hst, hfr, hlo, hmc, hms, hA, hSx, htb, hnm, hsc⟩ := id hX
  obtain ⟨hc, hs, hl, hP, hD, hSS, hN, hAl⟩ := id hI
  exact lv_iconst hx hb hd hv (hK _ _ _ _ hS p l e R s m args below meth c D T A N ad0 mc ms hX ad H locs cells slots ls hI)
theorem s_bipush {M : j_M} {pc : Nat} {n : Int} {v : Int32} (hd : decode (jm_b M) pc = .ok (.bipush n, 2)) (hv : (Int8.ofInt n).toInt32 = v) : Snd M pc (e_ci v (pc + 2)) := by
  intro Φ bc bs K hK lv st h hS
  intro p l e R s m args below meth c D T A N ad0 mc ms hX ad H locs cells slots ls hI
  obtain ⟨hx, hb, hml, hown, hts, hret, hlk, hKk, hst, hfr, hlo, hmc, hms, hA, hSx, htb, hnm, hsc⟩ := id hX
  obtain ⟨hc, hs, hl, hP, hD, hSS, hN, hAl⟩ := id hI
  exact lv_bipush hx hb hd hv (hK _ _ _ _ hS p l e R s m args below meth c D T A N ad0 mc ms hX ad H locs cells slots ls hI)
theorem s_sipush {M : j_M} {pc : Nat} {n : Int} {v : Int32} (hd : decode (jm_b M) pc = .ok (.sipush n, 3)) (hv : (Int16.ofInt n).toInt32 = v) : Snd M pc (e_ci v (pc + 3)) := by
  intro Φ bc bs K hK lv st h hS
  intro p l e R s m args below meth c D T A N ad0 mc ms hX ad H locs cells slots ls hI
  obtain ⟨hx, hb, hml, hown, hts, hret, hlk, hKk, hst, hfr, hlo, hmc, hms, hA, hSx, htb, hnm, hsc⟩ := id hX
  obtain ⟨hc, hs, hl, hP, hD, hSS, hN, hAl⟩ := id hI
  exact lv_sipush hx hb hd hv (hK _ _ _ _ hS p l e R s m args below meth c D T A N ad0 mc ms hX ad H locs cells slots ls hI)
theorem s_lconst {M : j_M} {pc : Nat} {n : Fin 2} {v : Int64} (hd : decode (jm_b M) pc = .ok (.lconst n, 1)) (hv : Int64.ofNat (n : Nat) = v) : Snd M pc (e_cl v (pc + 1)) := by
  intro Φ bc bs K hK lv st h hS
  intro p l e R s m args below meth c D T A N ad0 mc ms hX ad H locs cells slots ls hI
  obtain ⟨hx, hb, hml, hown, hts, hret, hlk, hKk, hst, hfr, hlo, hmc, hms, hA, hSx, htb, hnm, hsc⟩ := id hX
  obtain ⟨hc, hs, hl, hP, hD, hSS, hN, hAl⟩ := id hI
  exact lv_lconst hx hb hd hv (hK _ _ _ _ hS p l e R s m args below meth c D T A N ad0 mc ms hX ad H locs cells slots ls hI)
theorem s_ldc {M : j_M} {pc : Nat} {ix : Nat} {v : Int32} (hd : decode (jm_b M) pc = .ok (.ldc ix, 2)) (hw : Jvm.Cond.constant (jm_o M) ix v ∈ j_ws) : Snd M pc (e_ci v (pc + 2)) := by
  intro Φ bc bs K hK lv st h hS
  intro p l e R s m args below meth c D T A N ad0 mc ms hX ad H locs cells slots ls hI
  obtain ⟨hx, hb, hml, hown, hts, hret, hlk, hKk, hst, hfr, hlo, hmc, hms, hA, hSx, htb, hnm, hsc⟩ := id hX
  obtain ⟨hc, hs, hl, hP, hD, hSS, hN, hAl⟩ := id hI
  exact lv_ldc hx hb hown (hts _ hw) hd (hK _ _ _ _ hS p l e R s m args below meth c D T A N ad0 mc ms hX ad H locs cells slots ls hI)
theorem s_ldcw {M : j_M} {pc : Nat} {ix : Nat} {v : Int32} (hd : decode (jm_b M) pc = .ok (.ldc_w ix, 3)) (hw : Jvm.Cond.constant (jm_o M) ix v ∈ j_ws) : Snd M pc (e_ci v (pc + 3)) := by
  intro Φ bc bs K hK lv st h hS
  intro p l e R s m args below meth c D T A N ad0 mc ms hX ad H locs cells slots ls hI
  obtain ⟨hx, hb, hml, hown, hts, hret, hlk, hKk, hst, hfr, hlo, hmc, hms, hA, hSx, htb, hnm, hsc⟩ := id hX
  obtain ⟨hc, hs, hl, hP, hD, hSS, hN, hAl⟩ := id hI
  exact lv_ldcw hx hb hown (hts _ hw) hd (hK _ _ _ _ hS p l e R s m args below meth c D T A N ad0 mc ms hX ad H locs cells slots ls hI)
theorem s_ldc2 {M : j_M} {pc : Nat} {ix : Nat} {v : Int64} (hd : decode (jm_b M) pc = .ok (.ldc2_w ix, 3)) (hw : Jvm.Cond.constantLong (jm_o M) ix v ∈ j_ws) : Snd M pc (e_cl v (pc + 3)) := by
  intro Φ bc bs K hK lv st h hS
  intro p l e R s m args below meth c D T A N ad0 mc ms hX ad H locs cells slots ls hI
  obtain ⟨hx, hb, hml, hown, hts, hret, hlk, hKk, hst, hfr, hlo, hmc, hms, hA, hSx, htb, hnm, hsc⟩ := id hX
  obtain ⟨hc, hs, hl, hP, hD, hSS, hN, hAl⟩ := id hI
  exact lv_ldc2 hx hb hown (hts _ hw) hd (hK _ _ _ _ hS p l e R s m args below meth c D T A N ad0 mc ms hX ad H locs cells slots ls hI)
theorem s_ldc2d {M : j_M} {pc : Nat} {ix : Nat} {v : UInt64} (hd : decode (jm_b M) pc = .ok (.ldc2_w ix, 3)) (hw : Jvm.Cond.constantDouble (jm_o M) ix v ∈ j_ws) : Snd M pc (e_cd v (pc + 3)) := by
  intro Φ bc bs K hK lv st h hS
  intro p l e R s m args below meth c D T A N ad0 mc ms hX ad H locs cells slots ls hI
  obtain ⟨hx, hb, hml, hown, hts, hret, hlk, hKk, hst, hfr, hlo, hmc, hms, hA, hSx, htb, hnm, hsc⟩ := id hX
  obtain ⟨hc, hs, hl, hP, hD, hSS, hN, hAl⟩ := id hI
  exact lv_ldc2d hx hb hown (hts _ hw) hd (hK _ _ _ _ hS p l e R s m args below meth c D T A N ad0 mc ms hX ad H locs cells slots ls hI)
theorem s_dconst0 {M : j_M} {pc : Nat} (hd : decode (jm_b M) pc = .ok (.dconst 0, 1)) : Snd M pc (e_cd FP.dconst0 (pc + 1)) := by
  intro Φ bc bs K hK lv st h hS
  intro p l e R s m args below meth c D T A N ad0 mc ms hX ad H locs cells slots ls hI
  obtain ⟨hx, hb, hml, hown, hts, hret, hlk, hKk, hst, hfr, hlo, hmc, hms, hA, hSx, htb, hnm, hsc⟩ := id hX
  obtain ⟨hc, hs, hl, hP, hD, hSS, hN, hAl⟩ := id hI
  exact lv_dconst0 hx hb hd (hK _ _ _ _ hS p l e R s m args below meth c D T A N ad0 mc ms hX ad H locs cells slots ls hI)
theorem s_dconst1 {M : j_M} {pc : Nat} (hd : decode (jm_b M) pc = .ok (.dconst 1, 1)) : Snd M pc (e_cd FP.dconst1 (pc + 1)) := by
  intro Φ bc bs K hK lv st h hS
  intro p l e R s m args below meth c D T A N ad0 mc ms hX ad H locs cells slots ls hI
  obtain ⟨hx, hb, hml, hown, hts, hret, hlk, hKk, hst, hfr, hlo, hmc, hms, hA, hSx, htb, hnm, hsc⟩ := id hX
  obtain ⟨hc, hs, hl, hP, hD, hSS, hN, hAl⟩ := id hI
  exact lv_dconst1 hx hb hd (hK _ _ _ _ hS p l e R s m args below meth c D T A N ad0 mc ms hX ad H locs cells slots ls hI)
def e_ild (i nx : Nat) : j_T := fun _ _ _ K lv st h => match j_look i lv with
  | some (.int x) => K nx lv (.int x :: st) h
  | _ => False
theorem s_iload_n {M : j_M} {pc : Nat} {k : Fin 4} {i : Nat} (hd : decode (jm_b M) pc = .ok (.iload_n k, 1)) (hk : (k : Nat) = i) : Snd M pc (e_ild i (pc + 1)) := by
  intro Φ bc bs K hK lv st h hS
  unfold e_ild at hS
  split at hS
  · rename_i x hg
    intro p l e R s m args below meth c D T A N ad0 mc ms hX ad H locs cells slots ls hI
    obtain ⟨hx, hb, hml, hown, hts, hret, hlk, hKk, hst, hfr, hlo, hmc, hms, hA, hSx, htb, hnm, hsc⟩ := id hX
    obtain ⟨hc, hs, hl, hP, hD, hSS, hN, hAl⟩ := id hI
    exact lv_iload_n hx hb hd hk (j_lget hl hg) (hK _ _ _ _ hS p l e R s m args below meth c D T A N ad0 mc ms hX ad H locs cells slots ls hI)
  · exact hS.elim
theorem s_iload {M : j_M} {pc : Nat} {i : Nat} (hd : decode (jm_b M) pc = .ok (.iload i, 2)) : Snd M pc (e_ild i (pc + 2)) := by
  intro Φ bc bs K hK lv st h hS
  unfold e_ild at hS
  split at hS
  · rename_i x hg
    intro p l e R s m args below meth c D T A N ad0 mc ms hX ad H locs cells slots ls hI
    obtain ⟨hx, hb, hml, hown, hts, hret, hlk, hKk, hst, hfr, hlo, hmc, hms, hA, hSx, htb, hnm, hsc⟩ := id hX
    obtain ⟨hc, hs, hl, hP, hD, hSS, hN, hAl⟩ := id hI
    exact lv_iload hx hb hd (j_lget hl hg) (hK _ _ _ _ hS p l e R s m args below meth c D T A N ad0 mc ms hX ad H locs cells slots ls hI)
  · exact hS.elim
def e_ist (i nx : Nat) : j_T := fun _ _ _ K lv st h => match st with
  | .int x :: r => j_put (j_k1 i) i (.int x) lv (fun l' => K nx l' r h)
  | _ => False
theorem s_istore_n {M : j_M} {pc : Nat} {k : Fin 4} {i : Nat} (hd : decode (jm_b M) pc = .ok (.istore_n k, 1)) (hk : (k : Nat) = i) (hi : i < jm_n M) : Snd M pc (e_ist i (pc + 1)) := by
  intro Φ bc bs K hK lv st h hS
  unfold e_ist at hS
  split at hS
  · rename_i x r
    obtain ⟨l', hS, hsub⟩ := j_put_inv hS
    intro p l e R s m args below meth c D T A N ad0 mc ms hX ad H locs cells slots ls hI
    obtain ⟨hx, hb, hml, hown, hts, hret, hlk, hKk, hst, hfr, hlo, hmc, hms, hA, hSx, htb, hnm, hsc⟩ := id hX
    obtain ⟨hc, hs, hl, hP, hD, hSS, hN, hAl⟩ := id hI
    refine lv_istore_n hx hb hd hk hl hi (congrArg _ (j_l_k1 ad i lv)) (fun ls' hl' => ?_)
    exact hK _ _ _ _ hS p l e R s m args below meth c D T A N ad0 mc ms hX ad H locs cells slots ls' (j_I.put hI (j_has_sub (v := .int x) hl' hsub))
  · exact hS.elim
theorem s_istore {M : j_M} {pc : Nat} {i : Nat} (hd : decode (jm_b M) pc = .ok (.istore i, 2)) (hi : i < jm_n M) : Snd M pc (e_ist i (pc + 2)) := by
  intro Φ bc bs K hK lv st h hS
  unfold e_ist at hS
  split at hS
  · rename_i x r
    obtain ⟨l', hS, hsub⟩ := j_put_inv hS
    intro p l e R s m args below meth c D T A N ad0 mc ms hX ad H locs cells slots ls hI
    obtain ⟨hx, hb, hml, hown, hts, hret, hlk, hKk, hst, hfr, hlo, hmc, hms, hA, hSx, htb, hnm, hsc⟩ := id hX
    obtain ⟨hc, hs, hl, hP, hD, hSS, hN, hAl⟩ := id hI
    refine lv_istore hx hb hd hl hi (congrArg _ (j_l_k1 ad i lv)) (fun ls' hl' => ?_)
    exact hK _ _ _ _ hS p l e R s m args below meth c D T A N ad0 mc ms hX ad H locs cells slots ls' (j_I.put hI (j_has_sub (v := .int x) hl' hsub))
  · exact hS.elim
def e_lld (i nx : Nat) : j_T := fun _ _ _ K lv st h => match j_look i lv with
  | some (.long x) => K nx lv (.long x :: st) h
  | _ => False
theorem s_lload_n {M : j_M} {pc : Nat} {k : Fin 4} {i : Nat} (hd : decode (jm_b M) pc = .ok (.lload_n k, 1)) (hk : (k : Nat) = i) : Snd M pc (e_lld i (pc + 1)) := by
  intro Φ bc bs K hK lv st h hS
  unfold e_lld at hS
  split at hS
  · rename_i x hg
    intro p l e R s m args below meth c D T A N ad0 mc ms hX ad H locs cells slots ls hI
    obtain ⟨hx, hb, hml, hown, hts, hret, hlk, hKk, hst, hfr, hlo, hmc, hms, hA, hSx, htb, hnm, hsc⟩ := id hX
    obtain ⟨hc, hs, hl, hP, hD, hSS, hN, hAl⟩ := id hI
    exact lv_lload_n hx hb hd hk (j_lget hl hg) (hK _ _ _ _ hS p l e R s m args below meth c D T A N ad0 mc ms hX ad H locs cells slots ls hI)
  · exact hS.elim
theorem s_lload {M : j_M} {pc : Nat} {i : Nat} (hd : decode (jm_b M) pc = .ok (.lload i, 2)) : Snd M pc (e_lld i (pc + 2)) := by
  intro Φ bc bs K hK lv st h hS
  unfold e_lld at hS
  split at hS
  · rename_i x hg
    intro p l e R s m args below meth c D T A N ad0 mc ms hX ad H locs cells slots ls hI
    obtain ⟨hx, hb, hml, hown, hts, hret, hlk, hKk, hst, hfr, hlo, hmc, hms, hA, hSx, htb, hnm, hsc⟩ := id hX
    obtain ⟨hc, hs, hl, hP, hD, hSS, hN, hAl⟩ := id hI
    exact lv_lload hx hb hd (j_lget hl hg) (hK _ _ _ _ hS p l e R s m args below meth c D T A N ad0 mc ms hX ad H locs cells slots ls hI)
  · exact hS.elim
def e_lst (i nx : Nat) : j_T := fun _ _ _ K lv st h => match st with
  | .long x :: r => j_put (j_k2 i) i (.long x) lv (fun l' => K nx l' r h)
  | _ => False
theorem s_lstore_n {M : j_M} {pc : Nat} {k : Fin 4} {i : Nat} (hd : decode (jm_b M) pc = .ok (.lstore_n k, 1)) (hk : (k : Nat) = i) (hi : i + 1 < jm_n M) : Snd M pc (e_lst i (pc + 1)) := by
  intro Φ bc bs K hK lv st h hS
  unfold e_lst at hS
  split at hS
  · rename_i x r
    obtain ⟨l', hS, hsub⟩ := j_put_inv hS
    intro p l e R s m args below meth c D T A N ad0 mc ms hX ad H locs cells slots ls hI
    obtain ⟨hx, hb, hml, hown, hts, hret, hlk, hKk, hst, hfr, hlo, hmc, hms, hA, hSx, htb, hnm, hsc⟩ := id hX
    obtain ⟨hc, hs, hl, hP, hD, hSS, hN, hAl⟩ := id hI
    refine lv_lstore_n hx hb hd hk hl hi (congrArg _ (j_l_k2 ad i lv)) (fun ls' hl' => ?_)
    exact hK _ _ _ _ hS p l e R s m args below meth c D T A N ad0 mc ms hX ad H locs cells slots ls' (j_I.put hI (j_has_sub (v := .long x) hl' hsub))
  · exact hS.elim
theorem s_lstore {M : j_M} {pc : Nat} {i : Nat} (hd : decode (jm_b M) pc = .ok (.lstore i, 2)) (hi : i + 1 < jm_n M) : Snd M pc (e_lst i (pc + 2)) := by
  intro Φ bc bs K hK lv st h hS
  unfold e_lst at hS
  split at hS
  · rename_i x r
    obtain ⟨l', hS, hsub⟩ := j_put_inv hS
    intro p l e R s m args below meth c D T A N ad0 mc ms hX ad H locs cells slots ls hI
    obtain ⟨hx, hb, hml, hown, hts, hret, hlk, hKk, hst, hfr, hlo, hmc, hms, hA, hSx, htb, hnm, hsc⟩ := id hX
    obtain ⟨hc, hs, hl, hP, hD, hSS, hN, hAl⟩ := id hI
    refine lv_lstore hx hb hd hl hi (congrArg _ (j_l_k2 ad i lv)) (fun ls' hl' => ?_)
    exact hK _ _ _ _ hS p l e R s m args below meth c D T A N ad0 mc ms hX ad H locs cells slots ls' (j_I.put hI (j_has_sub (v := .long x) hl' hsub))
  · exact hS.elim
def e_dld (i nx : Nat) : j_T := fun _ _ _ K lv st h => match j_look i lv with
  | some (.double x) => K nx lv (.double x :: st) h
  | _ => False
theorem s_dload_n {M : j_M} {pc : Nat} {k : Fin 4} {i : Nat} (hd : decode (jm_b M) pc = .ok (.dload_n k, 1)) (hk : (k : Nat) = i) : Snd M pc (e_dld i (pc + 1)) := by
  intro Φ bc bs K hK lv st h hS
  unfold e_dld at hS
  split at hS
  · rename_i x hg
    intro p l e R s m args below meth c D T A N ad0 mc ms hX ad H locs cells slots ls hI
    obtain ⟨hx, hb, hml, hown, hts, hret, hlk, hKk, hst, hfr, hlo, hmc, hms, hA, hSx, htb, hnm, hsc⟩ := id hX
    obtain ⟨hc, hs, hl, hP, hD, hSS, hN, hAl⟩ := id hI
    exact lv_dload_n hx hb hd hk (j_lget hl hg) (hK _ _ _ _ hS p l e R s m args below meth c D T A N ad0 mc ms hX ad H locs cells slots ls hI)
  · exact hS.elim
theorem s_dload {M : j_M} {pc : Nat} {i : Nat} (hd : decode (jm_b M) pc = .ok (.dload i, 2)) : Snd M pc (e_dld i (pc + 2)) := by
  intro Φ bc bs K hK lv st h hS
  unfold e_dld at hS
  split at hS
  · rename_i x hg
    intro p l e R s m args below meth c D T A N ad0 mc ms hX ad H locs cells slots ls hI
    obtain ⟨hx, hb, hml, hown, hts, hret, hlk, hKk, hst, hfr, hlo, hmc, hms, hA, hSx, htb, hnm, hsc⟩ := id hX
    obtain ⟨hc, hs, hl, hP, hD, hSS, hN, hAl⟩ := id hI
    exact lv_dload hx hb hd (j_lget hl hg) (hK _ _ _ _ hS p l e R s m args below meth c D T A N ad0 mc ms hX ad H locs cells slots ls hI)
  · exact hS.elim
def e_dst (i nx : Nat) : j_T := fun _ _ _ K lv st h => match st with
  | .double x :: r => j_put (j_k2 i) i (.double x) lv (fun l' => K nx l' r h)
  | _ => False
theorem s_dstore_n {M : j_M} {pc : Nat} {k : Fin 4} {i : Nat} (hd : decode (jm_b M) pc = .ok (.dstore_n k, 1)) (hk : (k : Nat) = i) (hi : i + 1 < jm_n M) : Snd M pc (e_dst i (pc + 1)) := by
  intro Φ bc bs K hK lv st h hS
  unfold e_dst at hS
  split at hS
  · rename_i x r
    obtain ⟨l', hS, hsub⟩ := j_put_inv hS
    intro p l e R s m args below meth c D T A N ad0 mc ms hX ad H locs cells slots ls hI
    obtain ⟨hx, hb, hml, hown, hts, hret, hlk, hKk, hst, hfr, hlo, hmc, hms, hA, hSx, htb, hnm, hsc⟩ := id hX
    obtain ⟨hc, hs, hl, hP, hD, hSS, hN, hAl⟩ := id hI
    refine lv_dstore_n hx hb hd hk hl hi (congrArg _ (j_l_k2 ad i lv)) (fun ls' hl' => ?_)
    exact hK _ _ _ _ hS p l e R s m args below meth c D T A N ad0 mc ms hX ad H locs cells slots ls' (j_I.put hI (j_has_sub (v := .double x) hl' hsub))
  · exact hS.elim
theorem s_dstore {M : j_M} {pc : Nat} {i : Nat} (hd : decode (jm_b M) pc = .ok (.dstore i, 2)) (hi : i + 1 < jm_n M) : Snd M pc (e_dst i (pc + 2)) := by
  intro Φ bc bs K hK lv st h hS
  unfold e_dst at hS
  split at hS
  · rename_i x r
    obtain ⟨l', hS, hsub⟩ := j_put_inv hS
    intro p l e R s m args below meth c D T A N ad0 mc ms hX ad H locs cells slots ls hI
    obtain ⟨hx, hb, hml, hown, hts, hret, hlk, hKk, hst, hfr, hlo, hmc, hms, hA, hSx, htb, hnm, hsc⟩ := id hX
    obtain ⟨hc, hs, hl, hP, hD, hSS, hN, hAl⟩ := id hI
    refine lv_dstore hx hb hd hl hi (congrArg _ (j_l_k2 ad i lv)) (fun ls' hl' => ?_)
    exact hK _ _ _ _ hS p l e R s m args below meth c D T A N ad0 mc ms hX ad H locs cells slots ls' (j_I.put hI (j_has_sub (v := .double x) hl' hsub))
  · exact hS.elim
def e_ald (i nx : Nat) : j_T := fun _ _ _ K lv st h => match j_look i lv with
  | some (.ref x) => K nx lv (.ref x :: st) h
  | _ => False
theorem s_aload_n {M : j_M} {pc : Nat} {k : Fin 4} {i : Nat} (hd : decode (jm_b M) pc = .ok (.aload_n k, 1)) (hk : (k : Nat) = i) : Snd M pc (e_ald i (pc + 1)) := by
  intro Φ bc bs K hK lv st h hS
  unfold e_ald at hS
  split at hS
  · rename_i x hg
    intro p l e R s m args below meth c D T A N ad0 mc ms hX ad H locs cells slots ls hI
    obtain ⟨hx, hb, hml, hown, hts, hret, hlk, hKk, hst, hfr, hlo, hmc, hms, hA, hSx, htb, hnm, hsc⟩ := id hX
    obtain ⟨hc, hs, hl, hP, hD, hSS, hN, hAl⟩ := id hI
    exact lv_aload_n hx hb hd hk (j_lget hl hg) (hK _ _ _ _ hS p l e R s m args below meth c D T A N ad0 mc ms hX ad H locs cells slots ls hI)
  · exact hS.elim
theorem s_aload {M : j_M} {pc : Nat} {i : Nat} (hd : decode (jm_b M) pc = .ok (.aload i, 2)) : Snd M pc (e_ald i (pc + 2)) := by
  intro Φ bc bs K hK lv st h hS
  unfold e_ald at hS
  split at hS
  · rename_i x hg
    intro p l e R s m args below meth c D T A N ad0 mc ms hX ad H locs cells slots ls hI
    obtain ⟨hx, hb, hml, hown, hts, hret, hlk, hKk, hst, hfr, hlo, hmc, hms, hA, hSx, htb, hnm, hsc⟩ := id hX
    obtain ⟨hc, hs, hl, hP, hD, hSS, hN, hAl⟩ := id hI
    exact lv_aload hx hb hd (j_lget hl hg) (hK _ _ _ _ hS p l e R s m args below meth c D T A N ad0 mc ms hX ad H locs cells slots ls hI)
  · exact hS.elim
def e_ast (i nx : Nat) : j_T := fun _ _ _ K lv st h => match st with
  | .ref x :: r => j_put (j_k1 i) i (.ref x) lv (fun l' => K nx l' r h)
  | _ => False
theorem s_astore_n {M : j_M} {pc : Nat} {k : Fin 4} {i : Nat} (hd : decode (jm_b M) pc = .ok (.astore_n k, 1)) (hk : (k : Nat) = i) (hi : i < jm_n M) : Snd M pc (e_ast i (pc + 1)) := by
  intro Φ bc bs K hK lv st h hS
  unfold e_ast at hS
  split at hS
  · rename_i x r
    obtain ⟨l', hS, hsub⟩ := j_put_inv hS
    intro p l e R s m args below meth c D T A N ad0 mc ms hX ad H locs cells slots ls hI
    obtain ⟨hx, hb, hml, hown, hts, hret, hlk, hKk, hst, hfr, hlo, hmc, hms, hA, hSx, htb, hnm, hsc⟩ := id hX
    obtain ⟨hc, hs, hl, hP, hD, hSS, hN, hAl⟩ := id hI
    refine lv_astore_n hx hb hd hk hl hi (congrArg _ (j_l_k1 ad i lv)) (fun ls' hl' => ?_)
    exact hK _ _ _ _ hS p l e R s m args below meth c D T A N ad0 mc ms hX ad H locs cells slots ls' (j_I.put hI (j_has_sub (v := .ref x) hl' hsub))
  · exact hS.elim
theorem s_astore {M : j_M} {pc : Nat} {i : Nat} (hd : decode (jm_b M) pc = .ok (.astore i, 2)) (hi : i < jm_n M) : Snd M pc (e_ast i (pc + 2)) := by
  intro Φ bc bs K hK lv st h hS
  unfold e_ast at hS
  split at hS
  · rename_i x r
    obtain ⟨l', hS, hsub⟩ := j_put_inv hS
    intro p l e R s m args below meth c D T A N ad0 mc ms hX ad H locs cells slots ls hI
    obtain ⟨hx, hb, hml, hown, hts, hret, hlk, hKk, hst, hfr, hlo, hmc, hms, hA, hSx, htb, hnm, hsc⟩ := id hX
    obtain ⟨hc, hs, hl, hP, hD, hSS, hN, hAl⟩ := id hI
    refine lv_astore hx hb hd hl hi (congrArg _ (j_l_k1 ad i lv)) (fun ls' hl' => ?_)
    exact hK _ _ _ _ hS p l e R s m args below meth c D T A N ad0 mc ms hX ad H locs cells slots ls' (j_I.put hI (j_has_sub (v := .ref x) hl' hsub))
  · exact hS.elim
def e_iinc (i : Nat) (d : Int32) (nx : Nat) : j_T := fun _ _ _ K lv st h => match j_look i lv with
  | some (.int x) => j_put (j_k1 i) i (.int (x + d)) lv (fun l' => K nx l' st h)
  | _ => False
theorem s_iinc {M : j_M} {pc : Nat} {i : Nat} {n : Int} {d : Int32} (hd : decode (jm_b M) pc = .ok (.iinc i n, 3)) (hn : Int32.ofInt n = d) (hi : i < jm_n M) : Snd M pc (e_iinc i d (pc + 3)) := by
  intro Φ bc bs K hK lv st h hS
  unfold e_iinc at hS
  split at hS
  · rename_i x hg
    obtain ⟨l', hS, hsub⟩ := j_put_inv hS
    intro p l e R s m args below meth c D T A N ad0 mc ms hX ad H locs cells slots ls hI
    obtain ⟨hx, hb, hml, hown, hts, hret, hlk, hKk, hst, hfr, hlo, hmc, hms, hA, hSx, htb, hnm, hsc⟩ := id hX
    obtain ⟨hc, hs, hl, hP, hD, hSS, hN, hAl⟩ := id hI
    obtain ⟨k, hk⟩ := List.getElem?_of_mem (List.mem_map.mpr ⟨(i, .int x), j_look_in _ hg, rfl⟩ : (i, j_v ad (.int x)) ∈ j_l ad lv)
    refine lv_iinc hx hb hd hl hk (by rw [hn]) hi (congrArg _ (j_l_k1 ad i lv)) (fun ls' hl' => ?_)
    exact hK _ _ _ _ hS p l e R s m args below meth c D T A N ad0 mc ms hX ad H locs cells slots ls' (j_I.put hI (j_has_sub (v := .int (x + d)) hl' hsub))
  · exact hS.elim
def e_ifeq (tgt nx : Nat) : j_T := fun _ _ _ K lv st h => match st with
  | .int x :: r => (x = 0 → K tgt lv r h) ∧ (¬ x = 0 → K nx lv r h)
  | _ => False
theorem s_ifeq {M : j_M} {pc : Nat} {off : Int} {tgt : Nat} (hd : decode (jm_b M) pc = .ok (.ifCond .eq off, 3)) (ht : (pc : Int) + off = (tgt : Int)) : Snd M pc (e_ifeq tgt (pc + 3)) := by
  intro Φ bc bs K hK lv st h hS
  unfold e_ifeq at hS
  split at hS
  · obtain ⟨hS1, hS2⟩ := hS
    intro p l e R s m args below meth c D T A N ad0 mc ms hX ad H locs cells slots ls hI
    obtain ⟨hx, hb, hml, hown, hts, hret, hlk, hKk, hst, hfr, hlo, hmc, hms, hA, hSx, htb, hnm, hsc⟩ := id hX
    obtain ⟨hc, hs, hl, hP, hD, hSS, hN, hAl⟩ := id hI
    exact lv_if_eq hx hb hd ht (fun h9 => hK _ _ _ _ (hS1 h9) p l e R s m args below meth c D T A N ad0 mc ms hX ad H locs cells slots ls hI) (fun h9 => hK _ _ _ _ (hS2 h9) p l e R s m args below meth c D T A N ad0 mc ms hX ad H locs cells slots ls hI)
  · exact hS.elim
def e_iceq (tgt nx : Nat) : j_T := fun _ _ _ K lv st h => match st with
  | .int y :: .int x :: r => (x = y → K tgt lv r h) ∧ (¬ x = y → K nx lv r h)
  | _ => False
theorem s_iceq {M : j_M} {pc : Nat} {off : Int} {tgt : Nat} (hd : decode (jm_b M) pc = .ok (.if_icmp .eq off, 3)) (ht : (pc : Int) + off = (tgt : Int)) : Snd M pc (e_iceq tgt (pc + 3)) := by
  intro Φ bc bs K hK lv st h hS
  unfold e_iceq at hS
  split at hS
  · obtain ⟨hS1, hS2⟩ := hS
    intro p l e R s m args below meth c D T A N ad0 mc ms hX ad H locs cells slots ls hI
    obtain ⟨hx, hb, hml, hown, hts, hret, hlk, hKk, hst, hfr, hlo, hmc, hms, hA, hSx, htb, hnm, hsc⟩ := id hX
    obtain ⟨hc, hs, hl, hP, hD, hSS, hN, hAl⟩ := id hI
    exact lv_icmp_eq hx hb hd ht (fun h9 => hK _ _ _ _ (hS1 h9) p l e R s m args below meth c D T A N ad0 mc ms hX ad H locs cells slots ls hI) (fun h9 => hK _ _ _ _ (hS2 h9) p l e R s m args below meth c D T A N ad0 mc ms hX ad H locs cells slots ls hI)
  · exact hS.elim
def e_ifne (tgt nx : Nat) : j_T := fun _ _ _ K lv st h => match st with
  | .int x :: r => (¬ x = 0 → K tgt lv r h) ∧ (x = 0 → K nx lv r h)
  | _ => False
theorem s_ifne {M : j_M} {pc : Nat} {off : Int} {tgt : Nat} (hd : decode (jm_b M) pc = .ok (.ifCond .ne off, 3)) (ht : (pc : Int) + off = (tgt : Int)) : Snd M pc (e_ifne tgt (pc + 3)) := by
  intro Φ bc bs K hK lv st h hS
  unfold e_ifne at hS
  split at hS
  · obtain ⟨hS1, hS2⟩ := hS
    intro p l e R s m args below meth c D T A N ad0 mc ms hX ad H locs cells slots ls hI
    obtain ⟨hx, hb, hml, hown, hts, hret, hlk, hKk, hst, hfr, hlo, hmc, hms, hA, hSx, htb, hnm, hsc⟩ := id hX
    obtain ⟨hc, hs, hl, hP, hD, hSS, hN, hAl⟩ := id hI
    exact lv_if_ne hx hb hd ht (fun h9 => hK _ _ _ _ (hS1 h9) p l e R s m args below meth c D T A N ad0 mc ms hX ad H locs cells slots ls hI) (fun h9 => hK _ _ _ _ (hS2 h9) p l e R s m args below meth c D T A N ad0 mc ms hX ad H locs cells slots ls hI)
  · exact hS.elim
def e_icne (tgt nx : Nat) : j_T := fun _ _ _ K lv st h => match st with
  | .int y :: .int x :: r => (¬ x = y → K tgt lv r h) ∧ (x = y → K nx lv r h)
  | _ => False
theorem s_icne {M : j_M} {pc : Nat} {off : Int} {tgt : Nat} (hd : decode (jm_b M) pc = .ok (.if_icmp .ne off, 3)) (ht : (pc : Int) + off = (tgt : Int)) : Snd M pc (e_icne tgt (pc + 3)) := by
  intro Φ bc bs K hK lv st h hS
  unfold e_icne at hS
  split at hS
  · obtain ⟨hS1, hS2⟩ := hS
    intro p l e R s m args below meth c D T A N ad0 mc ms hX ad H locs cells slots ls hI
    obtain ⟨hx, hb, hml, hown, hts, hret, hlk, hKk, hst, hfr, hlo, hmc, hms, hA, hSx, htb, hnm, hsc⟩ := id hX
    obtain ⟨hc, hs, hl, hP, hD, hSS, hN, hAl⟩ := id hI
    exact lv_icmp_ne hx hb hd ht (fun h9 => hK _ _ _ _ (hS1 h9) p l e R s m args below meth c D T A N ad0 mc ms hX ad H locs cells slots ls hI) (fun h9 => hK _ _ _ _ (hS2 h9) p l e R s m args below meth c D T A N ad0 mc ms hX ad H locs cells slots ls hI)
  · exact hS.elim
def e_iflt (tgt nx : Nat) : j_T := fun _ _ _ K lv st h => match st with
  | .int x :: r => (x < 0 → K tgt lv r h) ∧ (¬ x < 0 → K nx lv r h)
  | _ => False
theorem s_iflt {M : j_M} {pc : Nat} {off : Int} {tgt : Nat} (hd : decode (jm_b M) pc = .ok (.ifCond .lt off, 3)) (ht : (pc : Int) + off = (tgt : Int)) : Snd M pc (e_iflt tgt (pc + 3)) := by
  intro Φ bc bs K hK lv st h hS
  unfold e_iflt at hS
  split at hS
  · obtain ⟨hS1, hS2⟩ := hS
    intro p l e R s m args below meth c D T A N ad0 mc ms hX ad H locs cells slots ls hI
    obtain ⟨hx, hb, hml, hown, hts, hret, hlk, hKk, hst, hfr, hlo, hmc, hms, hA, hSx, htb, hnm, hsc⟩ := id hX
    obtain ⟨hc, hs, hl, hP, hD, hSS, hN, hAl⟩ := id hI
    exact lv_if_lt hx hb hd ht (fun h9 => hK _ _ _ _ (hS1 h9) p l e R s m args below meth c D T A N ad0 mc ms hX ad H locs cells slots ls hI) (fun h9 => hK _ _ _ _ (hS2 h9) p l e R s m args below meth c D T A N ad0 mc ms hX ad H locs cells slots ls hI)
  · exact hS.elim
def e_iclt (tgt nx : Nat) : j_T := fun _ _ _ K lv st h => match st with
  | .int y :: .int x :: r => (x < y → K tgt lv r h) ∧ (¬ x < y → K nx lv r h)
  | _ => False
theorem s_iclt {M : j_M} {pc : Nat} {off : Int} {tgt : Nat} (hd : decode (jm_b M) pc = .ok (.if_icmp .lt off, 3)) (ht : (pc : Int) + off = (tgt : Int)) : Snd M pc (e_iclt tgt (pc + 3)) := by
  intro Φ bc bs K hK lv st h hS
  unfold e_iclt at hS
  split at hS
  · obtain ⟨hS1, hS2⟩ := hS
    intro p l e R s m args below meth c D T A N ad0 mc ms hX ad H locs cells slots ls hI
    obtain ⟨hx, hb, hml, hown, hts, hret, hlk, hKk, hst, hfr, hlo, hmc, hms, hA, hSx, htb, hnm, hsc⟩ := id hX
    obtain ⟨hc, hs, hl, hP, hD, hSS, hN, hAl⟩ := id hI
    exact lv_icmp_lt hx hb hd ht (fun h9 => hK _ _ _ _ (hS1 h9) p l e R s m args below meth c D T A N ad0 mc ms hX ad H locs cells slots ls hI) (fun h9 => hK _ _ _ _ (hS2 h9) p l e R s m args below meth c D T A N ad0 mc ms hX ad H locs cells slots ls hI)
  · exact hS.elim
def e_ifge (tgt nx : Nat) : j_T := fun _ _ _ K lv st h => match st with
  | .int x :: r => (0 ≤ x → K tgt lv r h) ∧ (¬ 0 ≤ x → K nx lv r h)
  | _ => False
theorem s_ifge {M : j_M} {pc : Nat} {off : Int} {tgt : Nat} (hd : decode (jm_b M) pc = .ok (.ifCond .ge off, 3)) (ht : (pc : Int) + off = (tgt : Int)) : Snd M pc (e_ifge tgt (pc + 3)) := by
  intro Φ bc bs K hK lv st h hS
  unfold e_ifge at hS
  split at hS
  · obtain ⟨hS1, hS2⟩ := hS
    intro p l e R s m args below meth c D T A N ad0 mc ms hX ad H locs cells slots ls hI
    obtain ⟨hx, hb, hml, hown, hts, hret, hlk, hKk, hst, hfr, hlo, hmc, hms, hA, hSx, htb, hnm, hsc⟩ := id hX
    obtain ⟨hc, hs, hl, hP, hD, hSS, hN, hAl⟩ := id hI
    exact lv_if_ge hx hb hd ht (fun h9 => hK _ _ _ _ (hS1 h9) p l e R s m args below meth c D T A N ad0 mc ms hX ad H locs cells slots ls hI) (fun h9 => hK _ _ _ _ (hS2 h9) p l e R s m args below meth c D T A N ad0 mc ms hX ad H locs cells slots ls hI)
  · exact hS.elim
def e_icge (tgt nx : Nat) : j_T := fun _ _ _ K lv st h => match st with
  | .int y :: .int x :: r => (y ≤ x → K tgt lv r h) ∧ (¬ y ≤ x → K nx lv r h)
  | _ => False
theorem s_icge {M : j_M} {pc : Nat} {off : Int} {tgt : Nat} (hd : decode (jm_b M) pc = .ok (.if_icmp .ge off, 3)) (ht : (pc : Int) + off = (tgt : Int)) : Snd M pc (e_icge tgt (pc + 3)) := by
  intro Φ bc bs K hK lv st h hS
  unfold e_icge at hS
  split at hS
  · obtain ⟨hS1, hS2⟩ := hS
    intro p l e R s m args below meth c D T A N ad0 mc ms hX ad H locs cells slots ls hI
    obtain ⟨hx, hb, hml, hown, hts, hret, hlk, hKk, hst, hfr, hlo, hmc, hms, hA, hSx, htb, hnm, hsc⟩ := id hX
    obtain ⟨hc, hs, hl, hP, hD, hSS, hN, hAl⟩ := id hI
    exact lv_icmp_ge hx hb hd ht (fun h9 => hK _ _ _ _ (hS1 h9) p l e R s m args below meth c D T A N ad0 mc ms hX ad H locs cells slots ls hI) (fun h9 => hK _ _ _ _ (hS2 h9) p l e R s m args below meth c D T A N ad0 mc ms hX ad H locs cells slots ls hI)
  · exact hS.elim
def e_ifgt (tgt nx : Nat) : j_T := fun _ _ _ K lv st h => match st with
  | .int x :: r => (0 < x → K tgt lv r h) ∧ (¬ 0 < x → K nx lv r h)
  | _ => False
theorem s_ifgt {M : j_M} {pc : Nat} {off : Int} {tgt : Nat} (hd : decode (jm_b M) pc = .ok (.ifCond .gt off, 3)) (ht : (pc : Int) + off = (tgt : Int)) : Snd M pc (e_ifgt tgt (pc + 3)) := by
  intro Φ bc bs K hK lv st h hS
  unfold e_ifgt at hS
  split at hS
  · obtain ⟨hS1, hS2⟩ := hS
    intro p l e R s m args below meth c D T A N ad0 mc ms hX ad H locs cells slots ls hI
    obtain ⟨hx, hb, hml, hown, hts, hret, hlk, hKk, hst, hfr, hlo, hmc, hms, hA, hSx, htb, hnm, hsc⟩ := id hX
    obtain ⟨hc, hs, hl, hP, hD, hSS, hN, hAl⟩ := id hI
    exact lv_if_gt hx hb hd ht (fun h9 => hK _ _ _ _ (hS1 h9) p l e R s m args below meth c D T A N ad0 mc ms hX ad H locs cells slots ls hI) (fun h9 => hK _ _ _ _ (hS2 h9) p l e R s m args below meth c D T A N ad0 mc ms hX ad H locs cells slots ls hI)
  · exact hS.elim
def e_icgt (tgt nx : Nat) : j_T := fun _ _ _ K lv st h => match st with
  | .int y :: .int x :: r => (y < x → K tgt lv r h) ∧ (¬ y < x → K nx lv r h)
  | _ => False
theorem s_icgt {M : j_M} {pc : Nat} {off : Int} {tgt : Nat} (hd : decode (jm_b M) pc = .ok (.if_icmp .gt off, 3)) (ht : (pc : Int) + off = (tgt : Int)) : Snd M pc (e_icgt tgt (pc + 3)) := by
  intro Φ bc bs K hK lv st h hS
  unfold e_icgt at hS
  split at hS
  · obtain ⟨hS1, hS2⟩ := hS
    intro p l e R s m args below meth c D T A N ad0 mc ms hX ad H locs cells slots ls hI
    obtain ⟨hx, hb, hml, hown, hts, hret, hlk, hKk, hst, hfr, hlo, hmc, hms, hA, hSx, htb, hnm, hsc⟩ := id hX
    obtain ⟨hc, hs, hl, hP, hD, hSS, hN, hAl⟩ := id hI
    exact lv_icmp_gt hx hb hd ht (fun h9 => hK _ _ _ _ (hS1 h9) p l e R s m args below meth c D T A N ad0 mc ms hX ad H locs cells slots ls hI) (fun h9 => hK _ _ _ _ (hS2 h9) p l e R s m args below meth c D T A N ad0 mc ms hX ad H locs cells slots ls hI)
  · exact hS.elim
def e_ifle (tgt nx : Nat) : j_T := fun _ _ _ K lv st h => match st with
  | .int x :: r => (x ≤ 0 → K tgt lv r h) ∧ (¬ x ≤ 0 → K nx lv r h)
  | _ => False
theorem s_ifle {M : j_M} {pc : Nat} {off : Int} {tgt : Nat} (hd : decode (jm_b M) pc = .ok (.ifCond .le off, 3)) (ht : (pc : Int) + off = (tgt : Int)) : Snd M pc (e_ifle tgt (pc + 3)) := by
  intro Φ bc bs K hK lv st h hS
  unfold e_ifle at hS
  split at hS
  · obtain ⟨hS1, hS2⟩ := hS
    intro p l e R s m args below meth c D T A N ad0 mc ms hX ad H locs cells slots ls hI
    obtain ⟨hx, hb, hml, hown, hts, hret, hlk, hKk, hst, hfr, hlo, hmc, hms, hA, hSx, htb, hnm, hsc⟩ := id hX
    obtain ⟨hc, hs, hl, hP, hD, hSS, hN, hAl⟩ := id hI
    exact lv_if_le hx hb hd ht (fun h9 => hK _ _ _ _ (hS1 h9) p l e R s m args below meth c D T A N ad0 mc ms hX ad H locs cells slots ls hI) (fun h9 => hK _ _ _ _ (hS2 h9) p l e R s m args below meth c D T A N ad0 mc ms hX ad H locs cells slots ls hI)
  · exact hS.elim
def e_icle (tgt nx : Nat) : j_T := fun _ _ _ K lv st h => match st with
  | .int y :: .int x :: r => (x ≤ y → K tgt lv r h) ∧ (¬ x ≤ y → K nx lv r h)
  | _ => False
theorem s_icle {M : j_M} {pc : Nat} {off : Int} {tgt : Nat} (hd : decode (jm_b M) pc = .ok (.if_icmp .le off, 3)) (ht : (pc : Int) + off = (tgt : Int)) : Snd M pc (e_icle tgt (pc + 3)) := by
  intro Φ bc bs K hK lv st h hS
  unfold e_icle at hS
  split at hS
  · obtain ⟨hS1, hS2⟩ := hS
    intro p l e R s m args below meth c D T A N ad0 mc ms hX ad H locs cells slots ls hI
    obtain ⟨hx, hb, hml, hown, hts, hret, hlk, hKk, hst, hfr, hlo, hmc, hms, hA, hSx, htb, hnm, hsc⟩ := id hX
    obtain ⟨hc, hs, hl, hP, hD, hSS, hN, hAl⟩ := id hI
    exact lv_icmp_le hx hb hd ht (fun h9 => hK _ _ _ _ (hS1 h9) p l e R s m args below meth c D T A N ad0 mc ms hX ad H locs cells slots ls hI) (fun h9 => hK _ _ _ _ (hS2 h9) p l e R s m args below meth c D T A N ad0 mc ms hX ad H locs cells slots ls hI)
  · exact hS.elim
def e_goto (tgt : Nat) : j_T := fun _ _ _ K lv st h => K tgt lv st h
theorem s_goto {M : j_M} {pc : Nat} {off : Int} {tgt : Nat} (hd : decode (jm_b M) pc = .ok (.goto off, 3)) (ht : (pc : Int) + off = (tgt : Int)) : Snd M pc (e_goto tgt) := by
  intro Φ bc bs K hK lv st h hS
  intro p l e R s m args below meth c D T A N ad0 mc ms hX ad H locs cells slots ls hI
  obtain ⟨hx, hb, hml, hown, hts, hret, hlk, hKk, hst, hfr, hlo, hmc, hms, hA, hSx, htb, hnm, hsc⟩ := id hX
  obtain ⟨hc, hs, hl, hP, hD, hSS, hN, hAl⟩ := id hI
  exact lv_goto hx hb hd ht (hK _ _ _ _ hS p l e R s m args below meth c D T A N ad0 mc ms hX ad H locs cells slots ls hI)
def e_getf (ci k nx : Nat) : j_T := fun _ _ _ K lv st h => match st with
  | .ref i :: r => j_obj h i ci (fun fs => match j_nth fs k with
    | some v => K nx lv (v :: r) h
    | none => False)
  | _ => False
theorem s_getf {M : j_M} {pc ci k idx : Nat} {C : String} {F : u_T} {n : Nat} (hcl : vwCl[ci]? = some (C, F, n)) (hin : ∀ w ∈ u_ws C F n, w ∈ j_ws) (hk : k < n) (hw : Cond.fieldLink (jm_o M) idx (F k).1 (F k).2.1 (F k).2.2.1 ∈ j_ws) (hd : decode (jm_b M) pc = .ok (.getfield idx, 3)) : Snd M pc (e_getf ci k (pc + 3)) := by
  intro Φ bc bs K hK lv st h hS
  unfold e_getf at hS
  split at hS
  · rename_i i r
    obtain ⟨fs, hfs, hS⟩ := j_obj_inv hS
    rw [j_nth_eq] at hS
    split at hS
    · rename_i v hv
      intro p l e R s m args below meth c D T A N ad0 mc ms hX ad H locs cells slots ls hI
      obtain ⟨hx, hb, hml, hown, hts, hret, hlk, hKk, hst, hfr, hlo, hmc, hms, hA, hSx, htb, hnm, hsc⟩ := id hX
      obtain ⟨hc, hs, hl, hP, hD, hSS, hN, hAl⟩ := id hI
      exact va_get hx hb hts hin hown hKk hP i (j_w_get hfs) hcl k hk (hts _ hw) (fun _ h9 => h9) (by rw [List.getElem?_map, hv]; rfl) hd (hK _ _ _ _ hS p l e R s m args below meth c D T A N ad0 mc ms hX ad H locs cells slots ls hI)
    · exact hS.elim
  · exact hS.elim
def e_puti (ci k nx : Nat) : j_T := fun _ _ _ K lv st h => match st with
  | .int x :: .ref i :: r => j_obj h i ci (fun fs => match Nat.blt k fs.length with
    | true => j_setk fs k (.int x) (fun fs' => j_setk h i (.inr (ci, fs')) (fun h' => K nx lv r h'))
    | false => False)
  | _ => False
theorem s_puti {M : j_M} {pc ci k idx : Nat} {C : String} {F : u_T} {n : Nat} {ty : Nat → FieldType} (hcl : vwCl[ci]? = some (C, F, n)) (hin : ∀ w ∈ u_ws C F n, w ∈ j_ws) (hty : ∀ k, k < n → parseFieldDescriptor (F k).2.2.1 = some (ty k)) (hnm9 : ∀ a, a < n → ∀ b, b < n → a ≠ b → (F a).2.1 ≠ (F b).2.1) (hk : k < n) (hw : Cond.fieldLink (jm_o M) idx (F k).1 (F k).2.1 (F k).2.2.1 ∈ j_ws) (hfin : (F k).2.2.2 = false) (hdi : parseFieldDescriptor (F k).2.2.1 = some .int) (hd : decode (jm_b M) pc = .ok (.putfield idx, 3)) : Snd M pc (e_puti ci k (pc + 3)) := by
  intro Φ bc bs K hK lv st h hS
  unfold e_puti at hS
  split at hS
  · rename_i x i r
    obtain ⟨fs, hfs, hS⟩ := j_obj_inv hS
    split at hS
    · rename_i hkl
      have hkl : k < fs.length := by simpa using hkl
      rw [j_setk_eq, j_setk_eq] at hS
      intro p l e R s m args below meth c D T A N ad0 mc ms hX ad H locs cells slots ls hI
      obtain ⟨hx, hb, hml, hown, hts, hret, hlk, hKk, hst, hfr, hlo, hmc, hms, hA, hSx, htb, hnm, hsc⟩ := id hX
      obtain ⟨hc, hs, hl, hP, hD, hSS, hN, hAl⟩ := id hI
      refine va_put (v := .int x) (ty := .int) hx hb hts hin ty hty hnm9 hown hKk hP hD hSS i (j_w_get hfs) hcl k hk (hts _ hw) (fun _ h9 => h9) hfin hdi rfl rfl (by rw [List.length_map]; exact hkl) hd (fun H1 locs1 hP1 hD1 hS1 => ?_)
      exact hK _ _ _ _ hS p l e R s m args below meth c D T A N ad0 mc ms hX ad H1 locs1 cells slots ls (j_I.world hI (c := .inr (ci, fs.set k (.int x))) (by show _ = (ad i, Sum.inr (ci, (fs.set k (.int x)).map (j_v ad))); rw [List.map_set]; rfl) hP1 hD1 hS1)
    · exact hS.elim
  · exact hS.elim
/-- a reference into a final field, in a constructor -/
def e_putq (ci k nx : Nat) : j_T := fun _ _ _ K lv st h => match st with
  | .ref x :: .ref i :: r => j_obj h i ci (fun fs => match Nat.blt k fs.length with
    | true => j_setk fs k (.ref x) (fun fs' => j_setk h i (.inr (ci, fs')) (fun h' => K nx lv r h'))
    | false => False)
  | _ => False
theorem s_putq {M : j_M} {pc ci k idx : Nat} {C : String} {F : u_T} {n : Nat} {ty : Nat → FieldType} {fty : FieldType} (hcl : vwCl[ci]? = some (C, F, n)) (hin : ∀ w ∈ u_ws C F n, w ∈ j_ws) (hty : ∀ k, k < n → parseFieldDescriptor (F k).2.2.1 = some (ty k)) (hnm9 : ∀ a, a < n → ∀ b, b < n → a ≠ b → (F a).2.1 ≠ (F b).2.1) (hk : k < n) (hw : Cond.fieldLink (jm_o M) idx (F k).1 (F k).2.1 (F k).2.2.1 ∈ j_ws) (hfin : (F k).2.2.2 = true) (hinit : (jm_y M).name = "<init>") (hdecl : (F k).1 = jm_o M) (hdi : parseFieldDescriptor (F k).2.2.1 = some fty) (hna : ∀ a, narrow fty (.ref a) = .ref a) (hfi : ∀ a, fits fty (.ref a) = true) (hd : decode (jm_b M) pc = .ok (.putfield idx, 3)) : Snd M pc (e_putq ci k (pc + 3)) := by
  intro Φ bc bs K hK lv st h hS
  unfold e_putq at hS
  split at hS
  · rename_i x i r
    obtain ⟨fs, hfs, hS⟩ := j_obj_inv hS
    split at hS
    · rename_i hkl
      have hkl : k < fs.length := by simpa using hkl
      rw [j_setk_eq, j_setk_eq] at hS
      intro p l e R s m args below meth c D T A N ad0 mc ms hX ad H locs cells slots ls hI
      obtain ⟨hx, hb, hml, hown, hts, hret, hlk, hKk, hst, hfr, hlo, hmc, hms, hA, hSx, htb, hnm, hsc⟩ := id hX
      obtain ⟨hc, hs, hl, hP, hD, hSS, hN, hAl⟩ := id hI
      refine va_putF (v := .ref (ad x)) (ty := fty) hx hb hts hin ty hty hnm9 hown hKk hP hD hSS i (j_w_get hfs) hcl k hk (hts _ hw) (fun _ h9 => h9) hfin (hnm.trans hinit) hdecl hdi (hna _) (hfi _) (by rw [List.length_map]; exact hkl) hd (fun H1 locs1 hP1 hD1 hS1 => ?_)
      exact hK _ _ _ _ hS p l e R s m args below meth c D T A N ad0 mc ms hX ad H1 locs1 cells slots ls (j_I.world hI (c := .inr (ci, fs.set k (.ref x))) (by show _ = (ad i, Sum.inr (ci, (fs.set k (.ref x)).map (j_v ad))); rw [List.map_set]; rfl) hP1 hD1 hS1)
    · exact hS.elim
  · exact hS.elim
def e_iald (nx : Nat) : j_T := fun _ _ _ K lv st h => match st with
  | .int x :: .ref i :: r => j_ia 0 h i (fun n f => vp_in x n ∧ K nx lv (.int (f x.toNatClampNeg) :: r) h)
  | _ => False
theorem s_iald {M : j_M} {pc : Nat} (hd : decode (jm_b M) pc = .ok (.iaload, 1)) : Snd M pc (e_iald (pc + 1)) := by
  intro Φ bc bs K hK lv st h hS
  unfold e_iald at hS
  split at hS
  · rename_i x i r
    obtain ⟨n, f, hf, hin, hS⟩ := j_ia_inv hS
    intro p l e R s m args below meth c D T A N ad0 mc ms hX ad H locs cells slots ls hI
    obtain ⟨hx, hb, hml, hown, hts, hret, hlk, hKk, hst, hfr, hlo, hmc, hms, hA, hSx, htb, hnm, hsc⟩ := id hX
    obtain ⟨hc, hs, hl, hP, hD, hSS, hN, hAl⟩ := id hI
    exact va_iald hx hb hKk hP i 0 (j_w_get hf) (j_tys_get rfl) hin hd (hK _ _ _ _ hS p l e R s m args below meth c D T A N ad0 mc ms hX ad H locs cells slots ls hI)
  · exact hS.elim
def e_zald (nx : Nat) : j_T := fun _ _ _ K lv st h => match st with
  | .int x :: .ref i :: r => j_ia 2 h i (fun n f => vp_in x n ∧ K nx lv (.int (f x.toNatClampNeg) :: r) h)
  | _ => False
theorem s_zald {M : j_M} {pc : Nat} (hd : decode (jm_b M) pc = .ok (.baload, 1)) : Snd M pc (e_zald (pc + 1)) := by
  intro Φ bc bs K hK lv st h hS
  unfold e_zald at hS
  split at hS
  · rename_i x i r
    obtain ⟨n, f, hf, hin, hS⟩ := j_ia_inv hS
    intro p l e R s m args below meth c D T A N ad0 mc ms hX ad H locs cells slots ls hI
    obtain ⟨hx, hb, hml, hown, hts, hret, hlk, hKk, hst, hfr, hlo, hmc, hms, hA, hSx, htb, hnm, hsc⟩ := id hX
    obtain ⟨hc, hs, hl, hP, hD, hSS, hN, hAl⟩ := id hI
    exact va_zald hx hb hKk hP i 2 (j_w_get hf) (j_tys_get rfl) hin hd (hK _ _ _ _ hS p l e R s m args below meth c D T A N ad0 mc ms hX ad H locs cells slots ls hI)
  · exact hS.elim
def e_lald (nx : Nat) : j_T := fun _ _ _ K lv st h => match st with
  | .int x :: .ref i :: r => j_la 1 h i (fun n f => vp_in x n ∧ K nx lv (.long (f x.toNatClampNeg) :: r) h)
  | _ => False
theorem s_lald {M : j_M} {pc : Nat} (hd : decode (jm_b M) pc = .ok (.laload, 1)) : Snd M pc (e_lald (pc + 1)) := by
  intro Φ bc bs K hK lv st h hS
  unfold e_lald at hS
  split at hS
  · rename_i x i r
    obtain ⟨n, f, hf, hin, hS⟩ := j_la_inv hS
    intro p l e R s m args below meth c D T A N ad0 mc ms hX ad H locs cells slots ls hI
    obtain ⟨hx, hb, hml, hown, hts, hret, hlk, hKk, hst, hfr, hlo, hmc, hms, hA, hSx, htb, hnm, hsc⟩ := id hX
    obtain ⟨hc, hs, hl, hP, hD, hSS, hN, hAl⟩ := id hI
    exact va_lald hx hb hKk hP i 1 (j_w_get hf) (j_tys_get rfl) hin hd (hK _ _ _ _ hS p l e R s m args below meth c D T A N ad0 mc ms hX ad H locs cells slots ls hI)
  · exact hS.elim
def e_aald (t nx : Nat) : j_T := fun _ _ _ K lv st h => match st with
  | .int x :: .ref i :: r => j_qa t h i (fun n f => vp_in x n ∧ (match f x.toNatClampNeg with
    | some a => K nx lv (.ref a :: r) h
    | none => False))
  | _ => False
theorem s_aald {M : j_M} {pc t : Nat} {ty : FieldType} (ht : j_ty[t]? = some ty) (hr : ty.isReference = true) (hd : decode (jm_b M) pc = .ok (.aaload, 1)) : Snd M pc (e_aald t (pc + 1)) := by
  intro Φ bc bs K hK lv st h hS
  unfold e_aald at hS
  split at hS
  · rename_i x i r
    obtain ⟨n, f, hf, hin, hS⟩ := j_qa_inv hS
    split at hS
    · rename_i a ha
      intro p l e R s m args below meth c D T A N ad0 mc ms hX ad H locs cells slots ls hI
      obtain ⟨hx, hb, hml, hown, hts, hret, hlk, hKk, hst, hfr, hlo, hmc, hms, hA, hSx, htb, hnm, hsc⟩ := id hX
      obtain ⟨hc, hs, hl, hP, hD, hSS, hN, hAl⟩ := id hI
      have hlt : x.toNatClampNeg < n := Nat.not_le.mp fun q => hin (Or.inr q)
      refine W.aald (v := .ref (ad a)) (ty := ty) hx hb (hP i _ (j_w_get hf)) ((hKk.2 t _ (j_tys_get ht)).1 n (fun j => va_rf ((f j).map ad))) hr (fun q => by cases q) (by show ¬ (x < 0 ∨ (arrV _ _ _).slots.size ≤ _); rw [arrV_size]; exact hin) (by show (arrV (T t) n (fun j => va_rf ((f j).map ad))).slots[_]? = _; rw [arrV_read _ _ hlt, ha]; rfl) rfl rfl hd ?_
      exact hK _ _ _ _ hS p l e R s m args below meth c D T A N ad0 mc ms hX ad H locs cells slots ls hI
    · exact hS.elim
  · exact hS.elim
def e_iast (nx : Nat) : j_T := fun _ _ _ K lv st h => match st with
  | .int y :: .int x :: .ref i :: r => j_ia 0 h i (fun n f => vp_in x n ∧ j_setk h i (.inl (0, n, .inl (upd f x.toNatClampNeg y))) (fun h' => K nx lv r h'))
  | _ => False
theorem s_iast {M : j_M} {pc : Nat} (hd : decode (jm_b M) pc = .ok (.iastore, 1)) : Snd M pc (e_iast (pc + 1)) := by
  intro Φ bc bs K hK lv st h hS
  unfold e_iast at hS
  split at hS
  · rename_i y x i r
    obtain ⟨n, f, hf, hin, hS⟩ := j_ia_inv hS
    rw [j_setk_eq] at hS
    intro p l e R s m args below meth c D T A N ad0 mc ms hX ad H locs cells slots ls hI
    obtain ⟨hx, hb, hml, hown, hts, hret, hlk, hKk, hst, hfr, hlo, hmc, hms, hA, hSx, htb, hnm, hsc⟩ := id hX
    obtain ⟨hc, hs, hl, hP, hD, hSS, hN, hAl⟩ := id hI
    refine va_iast hx hb hKk hP hD hSS i 0 (j_w_get hf) (j_tys_get rfl) hin hd (fun H1 locs1 hP1 hD1 hS1 => ?_)
    exact hK _ _ _ _ hS p l e R s m args below meth c D T A N ad0 mc ms hX ad H1 locs1 cells slots ls (j_I.world hI (c := .inl (0, n, .inl (upd f x.toNatClampNeg y))) rfl hP1 hD1 hS1)
  · exact hS.elim
def e_zast (nx : Nat) : j_T := fun _ _ _ K lv st h => match st with
  | .int y :: .int x :: .ref i :: r => j_ia 2 h i (fun n f => vp_in x n ∧ j_setk h i (.inl (2, n, .inl (upd f x.toNatClampNeg (vp_nar .boolean y)))) (fun h' => K nx lv r h'))
  | _ => False
theorem s_zast {M : j_M} {pc : Nat} (hd : decode (jm_b M) pc = .ok (.bastore, 1)) : Snd M pc (e_zast (pc + 1)) := by
  intro Φ bc bs K hK lv st h hS
  unfold e_zast at hS
  split at hS
  · rename_i y x i r
    obtain ⟨n, f, hf, hin, hS⟩ := j_ia_inv hS
    rw [j_setk_eq] at hS
    intro p l e R s m args below meth c D T A N ad0 mc ms hX ad H locs cells slots ls hI
    obtain ⟨hx, hb, hml, hown, hts, hret, hlk, hKk, hst, hfr, hlo, hmc, hms, hA, hSx, htb, hnm, hsc⟩ := id hX
    obtain ⟨hc, hs, hl, hP, hD, hSS, hN, hAl⟩ := id hI
    refine va_zast hx hb hKk hP hD hSS i 2 (j_w_get hf) (j_tys_get rfl) hin hd (fun H1 locs1 hP1 hD1 hS1 => ?_)
    exact hK _ _ _ _ hS p l e R s m args below meth c D T A N ad0 mc ms hX ad H1 locs1 cells slots ls (j_I.world hI (c := .inl (2, n, .inl (upd f x.toNatClampNeg (vp_nar .boolean y)))) rfl hP1 hD1 hS1)
  · exact hS.elim
def e_last (nx : Nat) : j_T := fun _ _ _ K lv st h => match st with
  | .long y :: .int x :: .ref i :: r => j_la 1 h i (fun n f => vp_in x n ∧ j_setk h i (.inl (1, n, .inr (.inl (vp_updL f x.toNatClampNeg y)))) (fun h' => K nx lv r h'))
  | _ => False
theorem s_last {M : j_M} {pc : Nat} (hd : decode (jm_b M) pc = .ok (.lastore, 1)) : Snd M pc (e_last (pc + 1)) := by
  intro Φ bc bs K hK lv st h hS
  unfold e_last at hS
  split at hS
  · rename_i y x i r
    obtain ⟨n, f, hf, hin, hS⟩ := j_la_inv hS
    rw [j_setk_eq] at hS
    intro p l e R s m args below meth c D T A N ad0 mc ms hX ad H locs cells slots ls hI
    obtain ⟨hx, hb, hml, hown, hts, hret, hlk, hKk, hst, hfr, hlo, hmc, hms, hA, hSx, htb, hnm, hsc⟩ := id hX
    obtain ⟨hc, hs, hl, hP, hD, hSS, hN, hAl⟩ := id hI
    refine va_last hx hb hKk hP hD hSS i 1 (j_w_get hf) (j_tys_get rfl) hin hd (fun H1 locs1 hP1 hD1 hS1 => ?_)
    exact hK _ _ _ _ hS p l e R s m args below meth c D T A N ad0 mc ms hX ad H1 locs1 cells slots ls (j_I.world hI (c := .inl (1, n, .inr (.inl (vp_updL f x.toNatClampNeg y)))) rfl hP1 hD1 hS1)
  · exact hS.elim
/-- a reference into a row of references to objects of the class ci -/
def e_aast (t ci nx : Nat) : j_T := fun _ _ _ K lv st h => match st with
  | .ref v :: .int x :: .ref i :: r => j_qa t h i (fun n f => vp_in x n ∧ j_obj h v ci (fun _ => j_setk h i (.inl (t, n, .inr (.inr (.inr (.inr (va_up f x.toNatClampNeg (some v))))))) (fun h' => K nx lv r h')))
  | _ => False
theorem j_map_up {f : Nat → Option Nat} {k v : Nat} {ad : Nat → Nat} : (fun j => (va_up f k (some v) j).map ad) = va_up (fun j => (f j).map ad) k (some (ad v)) := by
  funext j
  unfold va_up
  split <;> rfl
theorem s_aast {M : j_M} {pc t ci : Nat} {q : vw_C} (hcl : vwCl[ci]? = some q) (ht : j_ty[t]? = some (.object q.1)) (hd : decode (jm_b M) pc = .ok (.aastore, 1)) : Snd M pc (e_aast t ci (pc + 1)) := by
  intro Φ bc bs K hK lv st h hS
  unfold e_aast at hS
  split at hS
  · rename_i v x i r
    obtain ⟨n, f, hf, hin, hS⟩ := j_qa_inv hS
    obtain ⟨fs, hfs, hS⟩ := j_obj_inv hS
    rw [j_setk_eq] at hS
    intro p l e R s m args below meth c D T A N ad0 mc ms hX ad H locs cells slots ls hI
    obtain ⟨hx, hb, hml, hown, hts, hret, hlk, hKk, hst, hfr, hlo, hmc, hms, hA, hSx, htb, hnm, hsc⟩ := id hX
    obtain ⟨hc, hs, hl, hP, hD, hSS, hN, hAl⟩ := id hI
    refine va_astq hx hb hKk hP hD hSS i t v ci (j_w_get hf) (j_tys_get ht) (j_w_get hfs) hcl hin hd (fun H1 locs1 hP1 hD1 hS1 => ?_)
    exact hK _ _ _ _ hS p l e R s m args below meth c D T A N ad0 mc ms hX ad H1 locs1 cells slots ls (j_I.world hI (c := .inl (t, n, .inr (.inr (.inr (.inr (va_up f x.toNatClampNeg (some v))))))) (by rw [← j_map_up]; rfl) hP1 hD1 hS1)
  · exact hS.elim
def e_slen (L nx : Nat) : j_T := fun _ _ _ K lv st h => match st with
  | .ref i :: r => i = j_sid ∧ K nx lv (.int (Int32.ofNat L) :: r) h
  | _ => False
theorem s_slen {M : j_M} {pc L : Nat} {xs : Nat → Int32} (hM : jm_s M = some (L, xs)) (hd : decode (jm_b M) pc = .ok (.arraylength, 1)) : Snd M pc (e_slen L (pc + 1)) := by
  intro Φ bc bs K hK lv st h hS
  unfold e_slen at hS
  split at hS
  · obtain ⟨rfl, hS⟩ := hS
    intro p l e R s m args below meth c D T A N ad0 mc ms hX ad H locs cells slots ls hI
    obtain ⟨hx, hb, hml, hown, hts, hret, hlk, hKk, hst, hfr, hlo, hmc, hms, hA, hSx, htb, hnm, hsc⟩ := id hX
    obtain ⟨hc, hs, hl, hP, hD, hSS, hN, hAl⟩ := id hI
    unfold j_scr at hsc
    rw [hM] at hsc
    obtain ⟨hs1, hs2, hs3, hs4⟩ := hsc
    rw [← hN _ hs1] at hs2 hs3 hs4
    exact va_slen hx hb hs2 hs3 hs4 hSS hd (hK _ _ _ _ hS p l e R s m args below meth c D T A N ad0 mc ms hX ad H locs cells slots ls hI)
  · exact hS.elim
def e_sld (L : Nat) (xs : Nat → Int32) (nx : Nat) : j_T := fun _ _ _ K lv st h => match st with
  | .int x :: .ref i :: r => i = j_sid ∧ vp_in x L ∧ K nx lv (.int (xs x.toNatClampNeg) :: r) h
  | _ => False
theorem s_sld {M : j_M} {pc L : Nat} {xs : Nat → Int32} (hM : jm_s M = some (L, xs)) (hd : decode (jm_b M) pc = .ok (.iaload, 1)) : Snd M pc (e_sld L xs (pc + 1)) := by
  intro Φ bc bs K hK lv st h hS
  unfold e_sld at hS
  split at hS
  · obtain ⟨rfl, hin, hS⟩ := hS
    intro p l e R s m args below meth c D T A N ad0 mc ms hX ad H locs cells slots ls hI
    obtain ⟨hx, hb, hml, hown, hts, hret, hlk, hKk, hst, hfr, hlo, hmc, hms, hA, hSx, htb, hnm, hsc⟩ := id hX
    obtain ⟨hc, hs, hl, hP, hD, hSS, hN, hAl⟩ := id hI
    unfold j_scr at hsc
    rw [hM] at hsc
    obtain ⟨hs1, hs2, hs3, hs4⟩ := hsc
    rw [← hN _ hs1] at hs2 hs3 hs4
    exact va_sld hx hb hs2 hs3 hs4 hSS hin hd (hK _ _ _ _ hS p l e R s m args below meth c D T A N ad0 mc ms hX ad H locs cells slots ls hI)
  · exact hS.elim
def e_iret : j_T := fun Φ _ _ _ _ st h => match st with
  | [.int x] => Φ (.inl (some (.int x))) h
  | _ => False
theorem s_iret {M : j_M} {pc : Nat} (hr : jm_r M = some .int) (hd : decode (jm_b M) pc = .ok (.ireturn, 1)) : Snd M pc e_iret := by
  intro Φ bc bs K hK lv st h hS
  unfold e_iret at hS
  split at hS
  · rename_i x
    intro p l e R s m args below meth c D T A N ad0 mc ms hX ad H locs cells slots ls hI
    obtain ⟨hx, hb, hml, hown, hts, hret, hlk, hKk, hst, hfr, hlo, hmc, hms, hA, hSx, htb, hnm, hsc⟩ := id hX
    obtain ⟨hc, hs, hl, hP, hD, hSS, hN, hAl⟩ := id hI
    refine W.widen (k := mc) (n := ms) (by omega) (by omega) (vx_ret ?_)
    exact W.iret (v := x) hx hb (hret.trans hr) (fun t ht hW => ⟨⟨some (.int x), h, ad, rfl, hS, hN, by rw [ht]; exact hP, hD⟩, hSS.F ht⟩) hSS.2.2 hd hlk
  · exact hS.elim
def e_lret : j_T := fun Φ _ _ _ _ st h => match st with
  | [.long x] => Φ (.inl (some (.long x))) h
  | _ => False
theorem s_lret {M : j_M} {pc : Nat} (hr : jm_r M = some .long) (hd : decode (jm_b M) pc = .ok (.lreturn, 1)) : Snd M pc e_lret := by
  intro Φ bc bs K hK lv st h hS
  unfold e_lret at hS
  split at hS
  · rename_i x
    intro p l e R s m args below meth c D T A N ad0 mc ms hX ad H locs cells slots ls hI
    obtain ⟨hx, hb, hml, hown, hts, hret, hlk, hKk, hst, hfr, hlo, hmc, hms, hA, hSx, htb, hnm, hsc⟩ := id hX
    obtain ⟨hc, hs, hl, hP, hD, hSS, hN, hAl⟩ := id hI
    refine W.widen (k := mc) (n := ms) (by omega) (by omega) (vx_ret ?_)
    exact W.lret (v := x) hx hb (hret.trans hr) (fun t ht hW => ⟨⟨some (.long x), h, ad, rfl, hS, hN, by rw [ht]; exact hP, hD⟩, hSS.F ht⟩) hSS.2.2 hd hlk
  · exact hS.elim
def e_dret : j_T := fun Φ _ _ _ _ st h => match st with
  | [.double x] => Φ (.inl (some (.double x))) h
  | _ => False
theorem s_dret {M : j_M} {pc : Nat} (hr : jm_r M = some .double) (hd : decode (jm_b M) pc = .ok (.dreturn, 1)) : Snd M pc e_dret := by
  intro Φ bc bs K hK lv st h hS
  unfold e_dret at hS
  split at hS
  · rename_i x
    intro p l e R s m args below meth c D T A N ad0 mc ms hX ad H locs cells slots ls hI
    obtain ⟨hx, hb, hml, hown, hts, hret, hlk, hKk, hst, hfr, hlo, hmc, hms, hA, hSx, htb, hnm, hsc⟩ := id hX
    obtain ⟨hc, hs, hl, hP, hD, hSS, hN, hAl⟩ := id hI
    refine W.widen (k := mc) (n := ms) (by omega) (by omega) (vx_ret ?_)
    exact W.dret (v := x) hx hb (hret.trans hr) (fun t ht hW => ⟨⟨some (.double x), h, ad, rfl, hS, hN, by rw [ht]; exact hP, hD⟩, hSS.F ht⟩) hSS.2.2 hd hlk
  · exact hS.elim
def e_zret : j_T := fun Φ _ _ _ _ st h => match st with
  | [.int x] => (x = 0 ∨ x = 1) ∧ Φ (.inl (some (.int x))) h
  | _ => False
theorem s_zret {M : j_M} {pc : Nat} (hr : jm_r M = some .boolean) (hd : decode (jm_b M) pc = .ok (.ireturn, 1)) : Snd M pc e_zret := by
  intro Φ bc bs K hK lv st h hS
  unfold e_zret at hS
  split at hS
  · rename_i x
    obtain ⟨h01, hS⟩ := hS
    intro p l e R s m args below meth c D T A N ad0 mc ms hX ad H locs cells slots ls hI
    obtain ⟨hx, hb, hml, hown, hts, hret, hlk, hKk, hst, hfr, hlo, hmc, hms, hA, hSx, htb, hnm, hsc⟩ := id hX
    obtain ⟨hc, hs, hl, hP, hD, hSS, hN, hAl⟩ := id hI
    refine W.widen (k := mc) (n := ms) (by omega) (by omega) (vx_ret ?_)
    refine W.zret (v := x) hx hb (hret.trans hr) (by rcases h01 with rfl | rfl <;> rfl) (fun t ht hW => ⟨⟨some (.int x), h, ad, rfl, hS, hN, by rw [ht]; exact hP, hD⟩, hSS.F ht⟩) hSS.2.2 hd hlk
  · exact hS.elim
def e_vret : j_T := fun Φ _ _ _ _ st h => match st with
  | [] => Φ (.inl none) h
  | _ => False
theorem s_vret {M : j_M} {pc : Nat} (hr : jm_r M = none) (hd : decode (jm_b M) pc = .ok (.return_, 1)) : Snd M pc e_vret := by
  intro Φ bc bs K hK lv st h hS
  unfold e_vret at hS
  split at hS
  · intro p l e R s m args below meth c D T A N ad0 mc ms hX ad H locs cells slots ls hI
    obtain ⟨hx, hb, hml, hown, hts, hret, hlk, hKk, hst, hfr, hlo, hmc, hms, hA, hSx, htb, hnm, hsc⟩ := id hX
    obtain ⟨hc, hs, hl, hP, hD, hSS, hN, hAl⟩ := id hI
    refine W.widen (k := mc) (n := ms) (by omega) (by omega) (vx_ret ?_)
    exact W.vret hx hb (hret.trans hr) (fun t ht hW => ⟨⟨none, h, ad, rfl, hS, hN, by rw [ht]; exact hP, hD⟩, hSS.F ht⟩) hSS.2.2 hd hlk
  · exact hS.elim
end
section
/-! Calls by contract, entries, throws and handlers, over worlds by numbers. -/
theorem j_v_v (ad r : Nat → Nat) (v : Value) : j_v ad (j_v r v) = j_v (fun i => ad (r i)) v := by cases v <;> rfl
theorem j_v_m (ad r : Nat → Nat) (l : List Value) : (l.map (j_v r)).map (j_v ad) = l.map (j_v fun i => ad (r i)) := by
  rw [List.map_map]
  exact List.map_congr_left fun v _ => j_v_v ad r v
def j_rc (r : Nat → Nat) : j_C → j_C
  | .inl (t, a) => .inl (t, j_a r a)
  | .inr (c, fs) => .inr (c, fs.map (j_v r))
theorem j_a_a (ad r : Nat → Nat) (a : vp_A) : j_a ad (j_a r a) = j_a (fun i => ad (r i)) a := by
  obtain ⟨n, f⟩ := a
  rcases f with f | f | f | f | f
  · rfl
  · rfl
  · rfl
  · rfl
  · show (n, _) = (n, _)
    refine congrArg (fun g => (n, Sum.inr (Sum.inr (Sum.inr (Sum.inr g))))) (funext fun j => ?_)
    show Option.map ad (Option.map r (f j)) = _
    cases f j <;> rfl
theorem j_c_rc (T : Nat → ClassId) (ad r : Nat → Nat) (c : j_C) : j_c T ad (j_rc r c) = j_c T (fun i => ad (r i)) c := by
  rcases c with ⟨t, a⟩ | ⟨k, fs⟩
  · show Sum.inl (T t, _) = Sum.inl (T t, _)
    rw [j_a_a]
  · show Sum.inr (k, _) = Sum.inr (k, _)
    rw [j_v_m]
def j_f (ρ : List Nat) : Nat → Nat := fun i => ρ.getD i 0
/-- the world h with the cells cs at the places ρ -/
def j_sc : List Nat → List j_C → j_H → j_H
  | i :: ρ, c :: cs, h => j_sc ρ cs (h.set i c)
  | _, _, h => h
theorem j_sc_len : ∀ (ρ : List Nat) (cs : List j_C) (h : j_H), (j_sc ρ cs h).length = h.length
  | [], _, h => rfl
  | _ :: _, [], h => rfl
  | i :: ρ, c :: cs, h => by
    show (j_sc ρ cs (h.set i c)).length = _
    rw [j_sc_len ρ cs, List.length_set]
theorem j_sc_get : ∀ (ρ : List Nat) (cs : List j_C) (h : j_H), ρ.length = cs.length → ∀ (j : Nat) (c : j_C), (j_sc ρ cs h)[j]? = some c → (∃ k : Nat, ρ[k]? = some j ∧ cs[k]? = some c) ∨ (j ∉ ρ ∧ h[j]? = some c)
  | [], _, h, _, j, c, e => Or.inr ⟨List.not_mem_nil, e⟩
  | _ :: _, [], h, hl, j, c, e => by simp at hl
  | i :: ρ, c0 :: cs, h, hl, j, c, e => by
    rcases j_sc_get ρ cs (h.set i c0) (by simpa using hl) j c e with ⟨k, h1, h2⟩ | ⟨h1, h2⟩
    · exact Or.inl ⟨k + 1, by simpa using h1, by simpa using h2⟩
    · by_cases hij : i = j
      · subst hij
        by_cases hlt : i < h.length
        · rw [List.getElem?_set_self hlt] at h2
          exact Or.inl ⟨0, rfl, h2⟩
        · rw [List.getElem?_eq_none (by simpa using hlt)] at h2
          cases h2
      · rw [List.getElem?_set_ne hij] at h2
        exact Or.inr ⟨fun hm => by
          rcases List.mem_cons.mp hm with h | h
          · exact hij h.symm
          · exact h1 h, h2⟩
/-- the callee's world hm lies in the caller's world h at the places ρ -/
def j_lies (ρ : List Nat) (hm h : j_H) : Prop := ρ.map (j_nth h) = hm.map (fun c => some (j_rc (j_f ρ) c))
theorem j_lies_at {ρ : List Nat} {hm h : j_H} (hg : j_lies ρ hm h) {k : Nat} {c : j_C} (hk : hm[k]? = some c) : ∃ i, ρ[k]? = some i ∧ j_f ρ k = i ∧ h[i]? = some (j_rc (j_f ρ) c) := by
  have h1 : (ρ.map (j_nth h))[k]? = some (some (j_rc (j_f ρ) c)) := by rw [hg, List.getElem?_map, hk]; rfl
  rw [List.getElem?_map] at h1
  cases hi : ρ[k]? with
  | none => rw [hi] at h1; cases h1
  | some i =>
    rw [hi] at h1
    refine ⟨i, rfl, ?_, ?_⟩
    · unfold j_f; rw [List.getD_eq_getElem?_getD, hi]; rfl
    · rw [← j_nth_eq]; exact Option.some.inj h1
theorem j_lies_len {ρ : List Nat} {hm h : j_H} (hg : j_lies ρ hm h) : ρ.length = hm.length := by
  have := congrArg List.length hg
  simpa using this
section JCALL
variable {D : va_G} {T : Nat → ClassId} {A : Nat → Prop} {ad : Nat → Nat} {ρ : List Nat} {h hm hm' : j_H} {H H1 : Heap}
theorem j_sub_P (hg : j_lies ρ hm h) (hP : va_P D vwCl (j_w T ad h) H) : va_P D vwCl (j_w T (fun i => ad (j_f ρ i)) hm) H := by
  intro k q hq
  obtain ⟨c, hc, rfl⟩ := j_w_inv hq
  obtain ⟨i, -, h2, h3⟩ := j_lies_at hg hc
  have h4 := hP i _ (j_w_get h3)
  rw [j_c_rc] at h4
  show va_at D vwCl (ad (j_f ρ k), _) H
  rw [h2]
  exact h4
theorem j_sub_D (hg : j_lies ρ hm h) (hn : va_nd ρ = true) (hD : va_D A (j_w T ad h)) : va_D A (j_w T (fun i => ad (j_f ρ i)) hm) := by
  refine ⟨fun a b x y hx hy hxy => ?_, fun k q hq => ?_⟩
  · obtain ⟨c, hc, rfl⟩ := j_w_inv hx
    obtain ⟨c2, hc2, rfl⟩ := j_w_inv hy
    obtain ⟨i, g1, g2, g3⟩ := j_lies_at hg hc
    obtain ⟨i2, g4, g5, g6⟩ := j_lies_at hg hc2
    have hxy : ad (j_f ρ a) = ad (j_f ρ b) := hxy
    rw [g2, g5] at hxy
    have := hD.1 i i2 _ _ (j_w_get g3) (j_w_get g6) hxy
    subst this
    exact va_nd_inj ρ hn a b i g1 g4
  · obtain ⟨c, hc, rfl⟩ := j_w_inv hq
    obtain ⟨i, -, g2, g3⟩ := j_lies_at hg hc
    have := hD.2 i _ (j_w_get g3)
    show A (ad (j_f ρ k))
    rw [g2]
    exact this
theorem j_sub_A {H0 : Heap} {locs : List Loc} (hg : j_lies ρ hm h) (hD : va_D A (j_w T ad h)) (hS : va_S A H0 H locs) (hA : ∀ q, H0.size ≤ q → A q) : ∀ q, va_A (j_w T (fun i => ad (j_f ρ i)) hm) H.size q → A q := by
  intro q hq
  rcases hq with ⟨k, e, hk⟩ | hq
  · obtain ⟨c, hc, he⟩ := j_w_inv hk
    obtain ⟨i, -, g2, g3⟩ := j_lies_at hg hc
    have := hD.2 i _ (j_w_get g3)
    have e2 : q = ad (j_f ρ k) := congrArg Prod.fst he
    rw [e2, g2]
    exact this
  · exact hA q (Nat.le_trans hS.1 hq)
theorem j_back_P (hg : j_lies ρ hm h) (hP : va_P D vwCl (j_w T ad h) H) (hD : va_D A (j_w T ad h)) (hlen : hm'.length = hm.length) (hk : ∀ q : Nat, q < H.size → ¬ va_A (j_w T (fun i => ad (j_f ρ i)) hm) H.size q → H1[q]? = H[q]?)
    (hP1 : va_P D vwCl (j_w T (fun i => ad (j_f ρ i)) hm') H1) : va_P D vwCl (j_w T ad (j_sc ρ (hm'.map (j_rc (j_f ρ))) h)) H1 := by
  intro j q hq
  obtain ⟨c, hc, rfl⟩ := j_w_inv hq
  rcases j_sc_get ρ _ h (by rw [List.length_map, hlen]; exact j_lies_len hg) j c hc with ⟨k, h1, h2⟩ | ⟨h1, h2⟩
  · rw [List.getElem?_map] at h2
    cases hc' : hm'[k]? with
    | none => rw [hc'] at h2; cases h2
    | some c' =>
      rw [hc'] at h2
      cases h2
      have h3 := hP1 k _ (j_w_get hc')
      rw [j_c_rc]
      have e : j_f ρ k = j := by unfold j_f; rw [List.getD_eq_getElem?_getD, h1]; rfl
      rw [← e]
      exact h3
  · have h3 := hP j _ (j_w_get h2)
    refine h3.kept (hk _ h3.lt fun hA => ?_)
    rcases hA with ⟨k, e, hk⟩ | hA
    · obtain ⟨c2, hc2, he⟩ := j_w_inv hk
      obtain ⟨i, g1, g2, g3⟩ := j_lies_at hg hc2
      have e2 : ad j = ad (j_f ρ k) := congrArg Prod.fst he
      rw [g2] at e2
      have := hD.1 j i _ _ (j_w_get h2) (j_w_get g3) e2
      subst this
      exact h1 (List.mem_of_getElem? g1)
    · exact absurd h3.lt (Nat.not_lt.mpr hA)
theorem j_back_D (cs : List j_C) (hD : va_D A (j_w T ad h)) : va_D A (j_w T ad (j_sc ρ cs h)) := by
  have key : ∀ (k : Nat) (q : Nat × va_E), (j_w T ad (j_sc ρ cs h))[k]? = some q → ∃ q0, (j_w T ad h)[k]? = some q0 ∧ q0.1 = q.1 := by
    intro k q hq
    have hl : k < h.length := by
      have := (List.getElem?_eq_some_iff.mp hq).1
      rw [j_w_len, j_sc_len] at this
      exact this
    obtain ⟨c, -, rfl⟩ := j_w_inv hq
    exact ⟨_, j_w_get (List.getElem?_eq_getElem hl), rfl⟩
  refine ⟨fun a b x y hx hy hxy => ?_, fun k q hq => ?_⟩
  · obtain ⟨x0, h1, h2⟩ := key a x hx
    obtain ⟨y0, h3, h4⟩ := key b y hy
    exact hD.1 a b x0 y0 h1 h3 (h2.trans (hxy.trans h4.symm))
  · obtain ⟨q0, h1, h2⟩ := key k q hq
    rw [← h2]
    exact hD.2 k q0 h1
end JCALL
/-- behind a call -/
theorem j_after {M M' : j_M} {Φ Φ' : j_F} {bc bs bc1 bs1 mc1 ms1 pc : Nat} {lv : j_L} {rest : List Value} {h hm : j_H} {ρ : List Nat} {st0 : List Value} {aa : Array Value}
    {p : Program} {l : Launch} {e : Env} {R : Room} {s : State} {m : MethodId} {args : Array Value} {below : List Frame} {meth : Method} {c : Code} {D : va_G} {T : Nat → ClassId} {A : Nat → Prop} {N : Nat → Prop} {ad0 : Nat → Nat} {mc ms : Nat}
    (hX : j_X M p l R s m args meth c D T A N ad0 mc ms) {ad : Nat → Nat} {H : Heap} {locs : List Loc} {cells slots : Nat} {ls : Array Slot} (hI : j_I M s D T A N ad0 mc ms ad H locs cells slots ls bc bs lv h)
    (ha : jm_a M' = false) (hg : j_lies ρ hm h) (hb1 : bc1 + mc1 ≤ bc) (hb2 : bs1 + ms1 ≤ bs)
    (hr : vx_Run p l e R s m args below meth c H locs cells slots mc1 ms1 (F0 m pc ls st0) (rest.map (j_v ad)) (j_Q Φ' D T (va_A (j_w T (fun i => ad (j_f ρ i)) hm) H.size) (fun i => ad (j_f ρ i)) (fun i => jm_a M' = true → i < hm.length) aa)
      (j_E Φ' D T (va_A (j_w T (fun i => ad (j_f ρ i)) hm) H.size) (fun i => ad (j_f ρ i)) (fun i => jm_a M' = true → i < hm.length)) (va_A (j_w T (fun i => ad (j_f ρ i)) hm) H.size))
    (kk : ∀ v hm', Φ' (.inl v) hm' → hm'.length = hm.length ∧ J M Φ bc1 bs1 (pc + 3) lv ((v.map (j_v (j_f ρ))).toList ++ rest) (j_sc ρ (hm'.map (j_rc (j_f ρ))) h))
    (kx : ∀ E hm', Φ' (.inr E) hm' → hm'.length = hm.length ∧ JX M Φ bc1 bs1 pc lv (j_sc ρ (hm'.map (j_rc (j_f ρ))) h) E) :
    W p l e R s m args below meth c H locs cells slots (vx_MQ below (j_Q Φ D T A ad0 N) (j_E Φ D T A ad0 N) args s mc ms A) (F0 m pc ls st0) := by
  obtain ⟨hx, hb, hml, hown, hts, hret, hlk, hKk, hst, hfr, hlo, hmc, hms, hA, hSx, htb, hnm, hsc⟩ := id hX
  obtain ⟨hc, hs, hl, hP, hD, hSS, hN, hAl⟩ := id hI
  have hsub := j_sub_A hg hD hSS hA
  intro T0 hT X
  rcases hr T0 hT X with ⟨v, st₀, t, T', L, h0, X', hL, e1, e2, ⟨⟨v', hm', ad'', hv, hΦ, hN', hP1, hD1⟩, hF⟩, st⟩ | ⟨q, st₀, t, T', L, E, ce, h0, X', hL, e1, e2, ⟨⟨hm', ad'', hΦ, hN', hP1, hD1⟩, hF⟩, hce, hcv, hcl9, st⟩
  · have hv : v = v'.map (j_v ad'') := Outcome.returned.inj hv
    obtain ⟨k1, k2, k3⟩ := vx_keep h0 e1 hSS (fun q _ h => hsub q h) hsub hL hF
    have ea : ad'' = fun i => ad (j_f ρ i) := funext fun i => hN' i (fun h => by rw [ha] at h; cases h)
    rw [ea] at hP1 hv
    obtain ⟨hlen, hk⟩ := kk v' hm' hΦ
    rw [← e1] at hP1
    obtain ⟨t2, a1, b1⟩ := hk p l e R s m args below meth c D T A N ad0 mc ms hX ad T'.heap (locs ++ L) (cells + mc1) (slots + ms1) ls
      ⟨by omega, by omega, hl, j_back_P hg hP hD hlen k2 hP1, j_back_D _ hD, k3, hN, fun h1 i h2 => hAl h1 i (by rw [j_sc_len] at h2; exact h2)⟩ T' rfl X'
    refine ⟨t2, st t2 ?_, b1⟩
    have e3 : ((v'.map (j_v (j_f ρ))).toList ++ rest).map (j_v ad) = v.toList ++ rest.map (j_v ad) := by
      rw [hv]
      cases v' with
      | none => rfl
      | some w => simp [j_v_v]
    rw [e3] at a1
    exact a1
  · obtain ⟨k1, k2, k3⟩ := vx_keep h0 e1 hSS (fun q _ h => hsub q h) hsub hL hF
    have ea : ad'' = fun i => ad (j_f ρ i) := funext fun i => hN' i (fun h => by rw [ha] at h; cases h)
    rw [ea] at hP1
    obtain ⟨hlen, hk⟩ := kx E hm' hΦ
    rw [← e1] at hP1
    obtain ⟨t2, a1, b1⟩ := hk p l e R s m args below meth c D T A N ad0 mc ms hX ad T'.heap (locs ++ L) (cells + mc1) (slots + ms1) ls
      ⟨by omega, by omega, hl, j_back_P hg hP hD hlen k2 hP1, j_back_D _ hD, k3, hN, fun h1 i h2 => hAl h1 i (by rw [j_sc_len] at h2; exact h2)⟩ (rest.map (j_v ad)) q ce (by rw [e1]; exact hce) hcv hcl9 T' rfl X'
    exact ⟨t2, st.trans a1, b1⟩
theorem j_P_blind {D : va_G} {T : Nat → ClassId} {ad : Nat → Nat} {h : j_H} {sz : Nat} {av : List Value} : FrameBlind (va_Pc av (j_P D T ad h sz)) := by
  intro a U g mk q
  obtain ⟨q0, q1, qP, qK, qD, qS⟩ := q
  exact ⟨q0, q1, qP, va_K.moved (u := U) (U := U.calling g mk a) (Vm.Alike.refl U.vm) qK, qD, qS.blind g mk a⟩
/-- what a call needs of the tables, by the callee: of an instance's method, of a static one, of a static one with a table -/
def j_kV (M' : j_M) (n : Nat) : Prop := jm_h M' = [] ∧ j_cd M' ∈ j_ws ∧ Cond.instanceMethod (jm_y M') ∈ j_ws ∧ Cond.selects (jm_y M').cls (jm_y M') (jm_y M') ∈ j_ws ∧ Cond.initialized (jm_y M').cls ∈ j_ws ∧ (jm_y M').cls ≠ "java/lang/invoke/MethodHandle" ∧ (jm_y M').cls ≠ "java/lang/invoke/VarHandle" ∧ (parseMethodDescriptor (jm_y M').desc).map (fun d => d.parameters.length) = some n
def j_kS (M' : j_M) (n : Nat) : Prop := jm_h M' = [] ∧ j_cd M' ∈ j_ws ∧ Cond.static (jm_y M') ∈ j_ws ∧ Cond.initialized (jm_y M').cls ∈ j_ws ∧ (jm_y M').cls ≠ "java/lang/invoke/MethodHandle" ∧ (jm_y M').cls ≠ "java/lang/invoke/VarHandle" ∧ (parseMethodDescriptor (jm_y M').desc).map (fun d => d.parameters.length) = some n
def j_kH (M' : j_M) (n : Nat) : Prop := jm_h M' ≠ [] ∧ j_cd M' ∈ j_ws ∧ Cond.static (jm_y M') ∈ j_ws ∧ Cond.initialized (jm_y M').cls ∈ j_ws ∧ (jm_y M').cls ≠ "java/lang/invoke/MethodHandle" ∧ (jm_y M').cls ≠ "java/lang/invoke/VarHandle" ∧ (parseMethodDescriptor (jm_y M').desc).map (fun d => d.parameters.length) = some n
theorem j_cd_nil {M : j_M} (h : jm_h M = []) : j_cd M = .code (jm_y M) (jm_b M) (jm_n M) (jm_r M) := by
  unfold j_cd
  rw [h]
theorem j_cd_hh {M : j_M} (h : jm_h M ≠ []) : j_cd M = .codeWith (jm_y M) (jm_b M) (jm_n M) (jm_r M) (jm_h M) := by
  unfold j_cd
  split
  · rename_i e; exact absurd e h
  · rename_i e; rw [e]
theorem j_goodL {w : Cond} {ws : List Cond} (hw : w ∈ j_ws) (h : GoodIn j_ws ws) : GoodIn j_ws (w :: ws) := fun x hx => by
  rcases List.mem_cons.mp hx with rfl | hx
  · exact j_good _ hw
  · exact h x hx
theorem J.callV {M M' : j_M} {Φ Φ' : j_F} {bc bs : Nat} (bc1 bs1 : Nat) {mc1 ms1 pc idx n ci i0 : Nat} {lv : j_L} {st : List Value} (rest : List Value) {as : List Value} {h hm : j_H} (ρ : List Nat) {fs : List Value} {q : vw_C}
    (hC : Ct M' mc1 ms1 (.ref i0 :: as) hm Φ') (hk : j_kV M' n) (hl : Cond.methodLink (jm_o M) idx (jm_y M') ∈ j_ws) (hd : decode (jm_b M) pc = .ok (.invokevirtual idx, 3)) (hRf : jm_f M' + 1 ≤ jm_f M) (hRl : 8 + (jm_n M' + 11) + jm_l M' ≤ jm_l M)
    (ha : jm_a M' = false) (hn : as.length = n) (hst9 : st = ((Value.ref i0 :: as).map (j_v (j_f ρ))).reverse ++ rest) (hcat : (rest.map fun v => v.category).sum ≤ 8) (hrc : hm[i0]? = some (.inr (ci, fs))) (hcl : vwCl[ci]? = some q) (hcn : q.1 = (jm_y M').cls)
    (hg : j_lies ρ hm h) (hnd : va_nd ρ = true) (hb1 : bc1 + mc1 ≤ bc) (hb2 : bs1 + ms1 ≤ bs)
    (kk : ∀ v hm', Φ' (.inl v) hm' → hm'.length = hm.length ∧ J M Φ bc1 bs1 (pc + 3) lv ((v.map (j_v (j_f ρ))).toList ++ rest) (j_sc ρ (hm'.map (j_rc (j_f ρ))) h))
    (kx : ∀ E hm', Φ' (.inr E) hm' → hm'.length = hm.length ∧ JX M Φ bc1 bs1 pc lv (j_sc ρ (hm'.map (j_rc (j_f ρ))) h) E) : J M Φ bc bs pc lv st h := by
  intro p l e R s m args below meth c D T A N ad0 mc ms hX ad H locs cells slots ls hI
  obtain ⟨hx, hb, hml, hown, hts, hret, hlk, hKk, hstk, hfr, hlo, hmc, hms, hA, hSx, htb, hnm, hsc⟩ := id hX
  obtain ⟨hc, hs, hlv, hP, hD, hSS, hN, hAl⟩ := id hI
  obtain ⟨k1, k2, k3, k4, k5, k6, k7, k8⟩ := hk
  have hM := hC l hstk D T (fun i => ad (j_f ρ i)) H.size
  have hPm := j_sub_P hg hP
  have hDm := j_sub_D hg hnd hD
  have hsub := j_sub_A hg hD hSS hA
  have hGd : GoodIn j_ws (wsV (jm_o M) idx (jm_y M').cls (jm_y M') (j_mw M')) := j_goodL hl (j_goodL k3 (j_goodL k4 (j_goodL k5 (j_goodL k2 j_good))))
  refine j_after hX hI ha hg hb1 hb2 (vx_runV (n := n) (b := ad (j_f ρ i0)) (As := as.map (j_v fun i => ad (j_f ρ i))) (rest := rest.map (j_v ad)) ⟨hx, hb, hml, hown, hts⟩ hM
    (cwV n hts hGd (congrArg (· :: j_ws) (j_cd_nil k1)) rfl rfl ⟨rfl, k6, k7, k8⟩ ⟨Nat.le_trans hRf hfr, Nat.le_trans hRl hlo⟩)
    ⟨j_P_blind, hcn ▸ va_recv hKk hPm hcl (j_w_get hrc), fun U hU hW => ⟨rfl, by rw [hU], by rw [hU]; exact hPm, va_K.moved hW.alike hKk, hDm.weaken (fun _ _ _ _ => trivial), hSx.call hSS hU hW hsub⟩⟩
    rfl (by rw [List.length_map]; exact hn) hlv.1 ?_ (lv_room ?_) (by exact hd) ⟨by omega, by omega⟩) kk kx
  · show st.map (j_v ad) = _
    rw [hst9, List.map_append, List.map_reverse, j_v_m, List.map_cons, List.reverse_cons, List.append_assoc]
    rfl
  · rw [List.map_map]
    refine Nat.le_trans (Nat.le_of_eq ?_) hcat
    exact congrArg List.sum (List.map_congr_left fun v _ => j_v_cat ad v)
theorem J.callS {M M' : j_M} {Φ Φ' : j_F} {bc bs : Nat} (bc1 bs1 : Nat) {mc1 ms1 pc idx n : Nat} {lv : j_L} {st : List Value} (rest : List Value) {as : List Value} {h hm : j_H} (ρ : List Nat)
    (hC : Ct M' mc1 ms1 as hm Φ') (hk : j_kS M' n) (hl : Cond.methodLink (jm_o M) idx (jm_y M') ∈ j_ws) (hd : decode (jm_b M) pc = .ok (.invokestatic idx, 3)) (hRf : jm_f M' + 1 ≤ jm_f M) (hRl : 8 + (jm_n M' + 11) + jm_l M' ≤ jm_l M)
    (ha : jm_a M' = false) (hn : as.length = n) (hst9 : st = (as.map (j_v (j_f ρ))).reverse ++ rest) (hcat : (rest.map fun v => v.category).sum ≤ 8)
    (hg : j_lies ρ hm h) (hnd : va_nd ρ = true) (hb1 : bc1 + mc1 ≤ bc) (hb2 : bs1 + ms1 ≤ bs)
    (kk : ∀ v hm', Φ' (.inl v) hm' → hm'.length = hm.length ∧ J M Φ bc1 bs1 (pc + 3) lv ((v.map (j_v (j_f ρ))).toList ++ rest) (j_sc ρ (hm'.map (j_rc (j_f ρ))) h))
    (kx : ∀ E hm', Φ' (.inr E) hm' → hm'.length = hm.length ∧ JX M Φ bc1 bs1 pc lv (j_sc ρ (hm'.map (j_rc (j_f ρ))) h) E) : J M Φ bc bs pc lv st h := by
  intro p l e R s m args below meth c D T A N ad0 mc ms hX ad H locs cells slots ls hI
  obtain ⟨hx, hb, hml, hown, hts, hret, hlk, hKk, hstk, hfr, hlo, hmc, hms, hA, hSx, htb, hnm, hsc⟩ := id hX
  obtain ⟨hc, hs, hlv, hP, hD, hSS, hN, hAl⟩ := id hI
  obtain ⟨k1, k2, k3, k5, k6, k7, k8⟩ := hk
  have hM := hC l hstk D T (fun i => ad (j_f ρ i)) H.size
  have hPm := j_sub_P hg hP
  have hDm := j_sub_D hg hnd hD
  have hsub := j_sub_A hg hD hSS hA
  have hGd : GoodIn j_ws (va_wsS (jm_o M) idx (jm_y M') (j_mw M')) := j_goodL hl (j_goodL k3 (j_goodL k5 (j_goodL k2 j_good)))
  refine j_after hX hI ha hg hb1 hb2 (vx_runS (n := n) (As := as.map (j_v fun i => ad (j_f ρ i))) (rest := rest.map (j_v ad)) ⟨hx, hb, hml, hown, hts⟩ hM
    (va_cwS n hts hGd (congrArg (· :: j_ws) (j_cd_nil k1)) rfl rfl ⟨k6, k7, k8⟩ ⟨Nat.le_trans hRf hfr, Nat.le_trans hRl hlo⟩)
    ⟨j_P_blind, fun U hU hW => ⟨rfl, by rw [hU], by rw [hU]; exact hPm, va_K.moved hW.alike hKk, hDm.weaken (fun _ _ _ _ => trivial), hSx.call hSS hU hW hsub⟩⟩
    rfl (by rw [List.length_map]; exact hn) hlv.1 ?_ (lv_room ?_) (by exact hd) ⟨by omega, by omega⟩) kk kx
  · show st.map (j_v ad) = _
    rw [hst9, List.map_append, List.map_reverse, j_v_m]
  · rw [List.map_map]
    refine Nat.le_trans (Nat.le_of_eq ?_) hcat
    exact congrArg List.sum (List.map_congr_left fun v _ => j_v_cat ad v)
theorem J.callH {M M' : j_M} {Φ Φ' : j_F} {bc bs : Nat} (bc1 bs1 : Nat) {mc1 ms1 pc idx n : Nat} {lv : j_L} {st : List Value} (rest : List Value) {as : List Value} {h hm : j_H} (ρ : List Nat)
    (hC : Ct M' mc1 ms1 as hm Φ') (hk : j_kH M' n) (hl : Cond.methodLink (jm_o M) idx (jm_y M') ∈ j_ws) (hd : decode (jm_b M) pc = .ok (.invokestatic idx, 3)) (hRf : jm_f M' + 1 ≤ jm_f M) (hRl : 8 + (jm_n M' + 11) + jm_l M' ≤ jm_l M)
    (ha : jm_a M' = false) (hn : as.length = n) (hst9 : st = (as.map (j_v (j_f ρ))).reverse ++ rest) (hcat : (rest.map fun v => v.category).sum ≤ 8)
    (hg : j_lies ρ hm h) (hnd : va_nd ρ = true) (hb1 : bc1 + mc1 ≤ bc) (hb2 : bs1 + ms1 ≤ bs)
    (kk : ∀ v hm', Φ' (.inl v) hm' → hm'.length = hm.length ∧ J M Φ bc1 bs1 (pc + 3) lv ((v.map (j_v (j_f ρ))).toList ++ rest) (j_sc ρ (hm'.map (j_rc (j_f ρ))) h))
    (kx : ∀ E hm', Φ' (.inr E) hm' → hm'.length = hm.length ∧ JX M Φ bc1 bs1 pc lv (j_sc ρ (hm'.map (j_rc (j_f ρ))) h) E) : J M Φ bc bs pc lv st h := by
  intro p l e R s m args below meth c D T A N ad0 mc ms hX ad H locs cells slots ls hI
  obtain ⟨hx, hb, hml, hown, hts, hret, hlk, hKk, hstk, hfr, hlo, hmc, hms, hA, hSx, htb, hnm, hsc⟩ := id hX
  obtain ⟨hc, hs, hlv, hP, hD, hSS, hN, hAl⟩ := id hI
  obtain ⟨k1, k2, k3, k5, k6, k7, k8⟩ := hk
  have hM := hC l hstk D T (fun i => ad (j_f ρ i)) H.size
  have hPm := j_sub_P hg hP
  have hDm := j_sub_D hg hnd hD
  have hsub := j_sub_A hg hD hSS hA
  have hGd : GoodIn j_ws (va_wsS (jm_o M) idx (jm_y M') (j_mw M')) := j_goodL hl (j_goodL k3 (j_goodL k5 (j_goodL k2 j_good)))
  refine j_after hX hI ha hg hb1 hb2 (vx_runSX (n := n) (As := as.map (j_v fun i => ad (j_f ρ i))) (rest := rest.map (j_v ad)) ⟨hx, hb, hml, hown, hts⟩ hM
    (vx_cwSW n hts hGd (congrArg (· :: j_ws) (j_cd_hh k1)) rfl rfl ⟨k6, k7, k8⟩ ⟨Nat.le_trans hRf hfr, Nat.le_trans hRl hlo⟩)
    ⟨j_P_blind, fun U hU hW => ⟨rfl, by rw [hU], by rw [hU]; exact hPm, va_K.moved hW.alike hKk, hDm.weaken (fun _ _ _ _ => trivial), hSx.call hSS hU hW hsub⟩⟩
    rfl (by rw [List.length_map]; exact hn) hlv.1 ?_ (lv_room ?_) (by exact hd) ⟨by omega, by omega⟩) kk kx
  · show st.map (j_v ad) = _
    rw [hst9, List.map_append, List.map_reverse, j_v_m]
  · rw [List.map_map]
    refine Nat.le_trans (Nat.le_of_eq ?_) hcat
    exact congrArg List.sum (List.map_congr_left fun v _ => j_v_cat ad v)
/-- a method's entry -/
theorem j_args (ad : Nat → Nat) : ∀ (i : Nat) (vs : List Value), lv_args i (vs.map (j_v ad)) = j_l ad (lv_args i vs)
  | _, [] => rfl
  | i, v :: vs => by
    show (i, j_v ad v) :: lv_args _ (vs.map (j_v ad)) = (i, j_v ad v) :: _
    rw [j_v_cat, j_args ad _ vs]
theorem j_slen (ad : Nat → Nat) (vs : List Value) : (lg_sl (vs.map (j_v ad))).length = (lg_sl vs).length := by
  unfold lg_sl
  rw [List.length_flatMap, List.length_flatMap, List.map_map]
  refine congrArg List.sum (List.map_congr_left fun v _ => ?_)
  show (if (j_v ad v).category = 2 then [Slot.val (j_v ad v), Slot.second] else [Slot.val (j_v ad v)]).length = (if v.category = 2 then [Slot.val v, Slot.second] else [Slot.val v]).length
  rw [j_v_cat]
  split <;> rfl
theorem Ct.of {M : j_M} {mc ms : Nat} {as : List Value} {h : j_H} {Φ : j_F} (hh : jm_h M = []) (hs : jm_s M = none) (hy : plainName (jm_y M).cls = true) (ho : (jm_y M).cls = jm_o M) (hn : (lg_sl as).length ≤ jm_n M) (k : J M Φ mc ms 0 (lv_args 0 as) [] h) : Ct M mc ms as h Φ := by
  intro l hst D T ad sz
  refine vx_ofW (cc := jm_b M) (maxL := jm_n M) (ret := jm_r M) hy (congrArg (· :: j_ws) (j_cd_nil hh)) ?_
  intro p e s m args below meth c s₁ B hml ht hv
  obtain ⟨rfl, hsz, hP, hK, hD0, hS0⟩ := hv
  have hts := atoms_spec (ws := j_mw M) B.pre
  subst hsz
  have hl := lv_entry (as.map (j_v ad)) (n := jm_n M) (by rw [j_slen]; exact hn)
  rw [lg_entry_eq]
  rw [j_args] at hl
  refine k p l e (j_rm M mc ms) s m _ below meth c D T (va_A (j_w T ad h) s.heap.size) (fun i => jm_a M = true → i < h.length) ad mc ms ⟨B.exec, B.bytes, hml, ho ▸ findClass_of_methodNamed B.named, fun w hw => hts w (List.mem_cons_of_mem _ hw), B.returns, B.notSynchronized, hK, hst, Nat.le_refl _, Nat.le_refl _, Nat.le_refl _, Nat.le_refl _, fun q h => Or.inr h, hS0, ?_, (name_of_methodNamed B.named B.method).1, ?_⟩ ad s.heap [] 0 0 _ ⟨by omega, by omega, hl, hP, hD0.self, va_S.rf, fun _ _ => rfl, fun h1 i h2 _ h4 => absurd (h4 h1) (by omega)⟩
  · rw [hh]
    exact List.eq_nil_iff_forall_not_mem.mpr fun x hx => ht x hx
  · unfold j_scr; rw [hs]; trivial
theorem Ct.ofH {M : j_M} {mc ms : Nat} {as : List Value} {h : j_H} {Φ : j_F} (hh : jm_h M ≠ []) (hs : jm_s M = none) (hy : plainName (jm_y M).cls = true) (ho : (jm_y M).cls = jm_o M) (hn : (lg_sl as).length ≤ jm_n M) (k : J M Φ mc ms 0 (lv_args 0 as) [] h) : Ct M mc ms as h Φ := by
  intro l hst D T ad sz
  refine vx_ofWH (cc := jm_b M) (maxL := jm_n M) (ret := jm_r M) (hh := jm_h M) hy (congrArg (· :: j_ws) (j_cd_hh hh)) ?_
  intro p e s m args below meth c s₁ B hml hv
  obtain ⟨rfl, hsz, hP, hK, hD0, hS0⟩ := hv
  have hts := atoms_spec (ws := j_mw M) B.pre
  subst hsz
  have hl := lv_entry (as.map (j_v ad)) (n := jm_n M) (by rw [j_slen]; exact hn)
  rw [lg_entry_eq]
  rw [j_args] at hl
  refine k p l e (j_rm M mc ms) s m _ below meth c D T (va_A (j_w T ad h) s.heap.size) (fun i => jm_a M = true → i < h.length) ad mc ms ⟨B.exec, B.bytes, hml, ho ▸ findClass_of_methodNamed B.named, fun w hw => hts w (List.mem_cons_of_mem _ hw), B.returns, B.notSynchronized, hK, hst, Nat.le_refl _, Nat.le_refl _, Nat.le_refl _, Nat.le_refl _, fun q h => Or.inr h, hS0, ?_, (name_of_methodNamed B.named B.method).1, ?_⟩ ad s.heap [] 0 0 _ ⟨by omega, by omega, hl, hP, hD0.self, va_S.rf, fun _ _ => rfl, fun h1 i h2 _ h4 => absurd (h4 h1) (by omega)⟩
  · refine vx_table (x := jm_y M) B (bytes := jm_b M) (maxL' := jm_n M) (ret' := jm_r M) ?_
    have := hts _ List.mem_cons_self
    rw [j_cd_hh hh] at this
    exact this
  · unfold j_scr; rw [hs]; trivial
/-- an exception leaves a method without a table -/
theorem JX.out {M : j_M} {Φ : j_F} {bc bs pc : Nat} {lv : j_L} {h : j_H} {E : String} (hh : jm_h M = []) (hΦ : Φ (.inr E) h) : JX M Φ bc bs pc lv h E := by
  intro p l e R s m args below meth c D T A N ad0 mc ms hX ad H locs cells slots ls hI rest q ce hq hv hcl
  obtain ⟨hx, hb, hml, hown, hts, hret, hlk, hKk, hstk, hfr, hlo, hmc, hms, hA, hSx, htb, hnm, hsc⟩ := id hX
  obtain ⟨hc, hs, hlv, hP, hD, hSS, hN, hAl⟩ := id hI
  refine vx_out (by rw [htb, hh]; intro x hx; cases hx) hlk hq hv hcl (fun t ht hal => ⟨⟨h, ad, hΦ, hN, by rw [ht]; exact hP, hD⟩, hSS.F ht⟩) hSS.2.2 (by omega) (by omega)
/-- caught by the row x of the table, past the rows pre; the handler stores it away -/
theorem JX.catch {M : j_M} {Φ : j_F} {bc bs pc i : Nat} {lv lv' : j_L} {h : j_H} {E : String} (pre : List ExceptionTableEntry) (x : ExceptionTableEntry) (suf : List ExceptionTableEntry) (hsplit : tableOf (jm_h M) = pre ++ x :: suf)
    (hpass : ∀ z ∈ pre, covers z pc = false ∨ (z.catchType ≠ 0 ∧ ∃ nm : String, Cond.classLink (jm_o M) z.catchType nm ∈ j_ws ∧ (E, nm) ∈ j_nc)) (hcov : covers x pc = true) (h0 : x.catchType ≠ 0) (hlink : Cond.classLink (jm_o M) x.catchType E ∈ j_ws) (hE : E ∈ j_cs)
    (hd : decode (jm_b M) x.handlerPc = .ok (.astore i, 2)) (hi : i < jm_n M) (hlv' : ∀ q ∈ lv', q ∈ lv.filter (j_k1 i)) (kk : J M Φ bc bs (x.handlerPc + 2) lv' [] h) : JX M Φ bc bs pc lv h E := by
  intro p l e R s m args below meth c D T A N ad0 mc ms hX ad H locs cells slots ls hI rest q ce hq hv hcl
  obtain ⟨hx, hb, hml, hown, hts, hret, hlk, hKk, hstk, hfr, hlo, hmc, hms, hA, hSx, htb, hnm, hsc⟩ := id hX
  obtain ⟨hc, hs, hlv, hP, hD, hSS, hN, hAl⟩ := id hI
  obtain ⟨u1, u2, u3, u4⟩ := hSx.2.2.2.2
  refine vx_catch hown pre x suf (htb.trans hsplit) (fun z hz => ?_) hcov h0 (hts _ hlink) (va_Nw.use rfl (u2 E hE)) hq hv hcl ?_
  · rcases hpass z hz with h | ⟨h1, nm, h2, h3⟩
    · exact Or.inl h
    · exact Or.inr ⟨h1, nm, hts _ h2, u3 _ h3⟩
  · refine lv_astore hx hb hd hlv hi (congrArg _ (j_l_k1 ad i lv)) (fun ls' hl' => ?_)
    exact kk p l e R s m args below meth c D T A N ad0 mc ms hX ad H locs cells slots ls' (j_I.put hI ⟨hl'.1, hl'.2.1, fun z hz => hl'.2.2 z (List.mem_cons_of_mem _ (by
      obtain ⟨z0, h1, rfl⟩ := List.mem_map.mp hz
      exact List.mem_map.mpr ⟨z0, hlv' z0 h1, rfl⟩))⟩)
/-- 'throw new E(text)' -/
def e_thr (E : String) : j_T := fun Φ bc bs _ _ st h => match st with
  | [] => match Nat.ble 1 bc && Nat.ble 6 bs with
    | true => Φ (.inr E) h
    | false => False
  | _ => False
abbrev j_nms : List String := ["java/lang/RuntimeException", "java/lang/Exception"]
def j_at (w : Cond) : Prop := w ∈ j_ws ∨ (∃ x ∈ j_dc, w = .declares x) ∨ (∃ x ∈ j_cs, w = .castable x x)
theorem j_at_use {s : State} {args : Array Value} {w : Cond} (h : j_at w) (hts : ∀ w ∈ j_ws, w.before args s = true) (hU : j_U s) : w.before args s = true := by
  rcases h with h | ⟨x, hx, rfl⟩ | ⟨x, hx, rfl⟩
  · exact hts _ h
  · exact va_Nw.use rfl (hU.1 x hx)
  · exact va_Nw.use rfl (hU.2.1 x hx)
theorem s_thr {M : j_M} {pc ik is ic : Nat} {E text : String} (hh : jm_h M = []) (hE : Bundle.fit E = true) (hk : Cond.classLink (jm_o M) ik E ∈ j_ws) (hini : Cond.initialized E ∈ j_ws) (hstr : (jm_o M, is, text) ∈ j_str) (hat : ∀ w ∈ vx_atS (jm_o M) ic E j_nms, j_at w)
    (hgood : ∀ w ∈ Cond.classLink (jm_o M) ik E :: Cond.initialized E :: vx_atS (jm_o M) ic E j_nms, vx_ot w = true) (hf : 6 ≤ jm_f M) (hlo9 : 82 ≤ jm_l M)
    (d0 : decode (jm_b M) pc = .ok (.new ik, 3)) (d3 : decode (jm_b M) (pc + 3) = .ok (.dup, 1)) (d4 : decode (jm_b M) (pc + 4) = .ok (.ldc is, 2)) (d6 : decode (jm_b M) (pc + 6) = .ok (.invokespecial ic, 3)) (d9 : decode (jm_b M) (pc + 9) = .ok (.athrow, 1)) : Snd M pc (e_thr E) := by
  intro Φ bc bs K hK lv st h hS
  unfold e_thr at hS
  split at hS
  · split at hS
    · rename_i hbl
      have hbl : 1 ≤ bc ∧ 6 ≤ bs := by simpa using hbl
      intro p l e R s m args below meth c D T A N ad0 mc ms hX ad H locs cells slots ls hI
      obtain ⟨hx, hb, hml, hown, hts, hret, hlk, hKk, hst, hfr, hlo, hmc, hms, hA, hSx, htb, hnm, hsc⟩ := id hX
      obtain ⟨hc, hs, hl, hP, hD, hSS, hN, hAl⟩ := id hI
      obtain ⟨sa, hsa⟩ := hSx.2.2.1 _ hstr
      refine vx_throwS (A := A) hx hb hst hown hE (by decide +kernel) (hts _ hk) (hts _ hini) hsa (fun w hw => j_at_use (hat w hw) hts hSx.2.2.2.2) hgood hSx.1 hSx.2.1 hSS (hl.1.trans hml.symm) d0 d3 d4 d6 d9 (by rw [htb, hh]; intro x hx; cases hx) (Nat.lt_of_lt_of_le (Nat.lt_of_lt_of_le (by decide) hf) hfr) (Nat.le_trans (by exact hlo9) hlo) (by omega) (by omega) hlk (fun t hal hsz hkp => ⟨⟨h, ad, hS, hN, ?_, hD⟩, ?_⟩) hSS.2.2 (by omega) (by omega)
      · exact hP.kept (fun k q hq => hkp _ (hP k q hq).lt)
      · refine ⟨Nat.le_trans hSS.1 hsz, fun q h1 h2 => ?_⟩
        rw [hkp q (Nat.lt_of_lt_of_le h1 hSS.1)]
        exact hSS.2.1 q h1 h2
    · exact hS.elim
  · exact hS.elim
theorem s_thrW {M : j_M} {pc ik is ic : Nat} {E text : String} (hh : jm_h M = []) (hE : Bundle.fit E = true) (hk : Cond.classLink (jm_o M) ik E ∈ j_ws) (hini : Cond.initialized E ∈ j_ws) (hstr : (jm_o M, is, text) ∈ j_str) (hat : ∀ w ∈ vx_atS (jm_o M) ic E j_nms, j_at w)
    (hgood : ∀ w ∈ Cond.classLink (jm_o M) ik E :: Cond.initialized E :: vx_atS (jm_o M) ic E j_nms, vx_ot w = true) (hf : 6 ≤ jm_f M) (hlo9 : 82 ≤ jm_l M)
    (d0 : decode (jm_b M) pc = .ok (.new ik, 3)) (d3 : decode (jm_b M) (pc + 3) = .ok (.dup, 1)) (d4 : decode (jm_b M) (pc + 4) = .ok (.ldc_w is, 3)) (d6 : decode (jm_b M) (pc + 7) = .ok (.invokespecial ic, 3)) (d9 : decode (jm_b M) (pc + 10) = .ok (.athrow, 1)) : Snd M pc (e_thr E) := by
  intro Φ bc bs K hK lv st h hS
  unfold e_thr at hS
  split at hS
  · split at hS
    · rename_i hbl
      have hbl : 1 ≤ bc ∧ 6 ≤ bs := by simpa using hbl
      intro p l e R s m args below meth c D T A N ad0 mc ms hX ad H locs cells slots ls hI
      obtain ⟨hx, hb, hml, hown, hts, hret, hlk, hKk, hst, hfr, hlo, hmc, hms, hA, hSx, htb, hnm, hsc⟩ := id hX
      obtain ⟨hc, hs, hl, hP, hD, hSS, hN, hAl⟩ := id hI
      obtain ⟨sa, hsa⟩ := hSx.2.2.1 _ hstr
      refine vx_throwSW (A := A) hx hb hst hown hE (by decide +kernel) (hts _ hk) (hts _ hini) hsa (fun w hw => j_at_use (hat w hw) hts hSx.2.2.2.2) hgood hSx.1 hSx.2.1 hSS (hl.1.trans hml.symm) d0 d3 d4 d6 d9 (by rw [htb, hh]; intro x hx; cases hx) (Nat.lt_of_lt_of_le (Nat.lt_of_lt_of_le (by decide) hf) hfr) (Nat.le_trans (by exact hlo9) hlo) (by omega) (by omega) hlk (fun t hal hsz hkp => ⟨⟨h, ad, hS, hN, ?_, hD⟩, ?_⟩) hSS.2.2 (by omega) (by omega)
      · exact hP.kept (fun k q hq => hkp _ (hP k q hq).lt)
      · refine ⟨Nat.le_trans hSS.1 hsz, fun q h1 h2 => ?_⟩
        rw [hkp q (Nat.lt_of_lt_of_le h1 hSS.1)]
        exact hSS.2.1 q h1 h2
    · exact hS.elim
  · exact hS.elim
end
