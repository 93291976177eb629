section
-- ===== PART A: goes FIRST, ahead of the names: the tables' words, and 'selects' of the private methods out of them =====
/-- a private method of a class that the tables say can be made, by its rows of tables_1 -/
def lw_okq (q : MethodName × Nat) : Prop := (q.1.cls ≠ "java/lang/invoke/MethodHandle" ∧ q.1.cls ≠ "java/lang/invoke/VarHandle") ∧ Cond.instantiable q.1.cls q.2 ∈ tables_1 ∧ Cond.privateMethod q.1 ∈ tables_1 ∧ Cond.instanceMethod q.1 ∈ tables_1
theorem lw_p0 : lw_okq (⟨"PowerShares", "refusalOfSheet", "(I)I"⟩, 6) := ⟨⟨by decide +kernel, by decide +kernel⟩, List.mem_of_getElem? (i := 12) (by decide +kernel), List.mem_of_getElem? (i := 230) (by decide +kernel), List.mem_of_getElem? (i := 231) (by decide +kernel)⟩
theorem lw_p1 : lw_okq (⟨"PowerShares", "finding", "(I)I"⟩, 6) := ⟨⟨by decide +kernel, by decide +kernel⟩, List.mem_of_getElem? (i := 12) (by decide +kernel), List.mem_of_getElem? (i := 241) (by decide +kernel), List.mem_of_getElem? (i := 242) (by decide +kernel)⟩
theorem lw_p2 : lw_okq (⟨"PowerShares", "readGains", "(LPowerShares$Sheet;)I"⟩, 6) := ⟨⟨by decide +kernel, by decide +kernel⟩, List.mem_of_getElem? (i := 12) (by decide +kernel), List.mem_of_getElem? (i := 245) (by decide +kernel), List.mem_of_getElem? (i := 246) (by decide +kernel)⟩
theorem lw_p3 : lw_okq (⟨"PowerShares$Laws", "build", "(III)V"⟩, 4) := ⟨⟨by decide +kernel, by decide +kernel⟩, List.mem_of_getElem? (i := 61) (by decide +kernel), List.mem_of_getElem? (i := 288) (by decide +kernel), List.mem_of_getElem? (i := 289) (by decide +kernel)⟩
theorem lw_p4 : lw_okq (⟨"PowerShares$Laws", "expand", "(I)I"⟩, 4) := ⟨⟨by decide +kernel, by decide +kernel⟩, List.mem_of_getElem? (i := 61) (by decide +kernel), List.mem_of_getElem? (i := 301) (by decide +kernel), List.mem_of_getElem? (i := 302) (by decide +kernel)⟩
theorem lw_p5 : lw_okq (⟨"PowerShares$Laws", "listMembers", "(I)I"⟩, 4) := ⟨⟨by decide +kernel, by decide +kernel⟩, List.mem_of_getElem? (i := 61) (by decide +kernel), List.mem_of_getElem? (i := 305) (by decide +kernel), List.mem_of_getElem? (i := 306) (by decide +kernel)⟩
theorem lw_p6 : lw_okq (⟨"PowerShares$Laws", "expandRow", "(III)J"⟩, 4) := ⟨⟨by decide +kernel, by decide +kernel⟩, List.mem_of_getElem? (i := 61) (by decide +kernel), List.mem_of_getElem? (i := 315) (by decide +kernel), List.mem_of_getElem? (i := 316) (by decide +kernel)⟩
theorem lw_p7 : lw_okq (⟨"PowerShares$Walk", "goalOf", "(I[I)I"⟩, 4) := ⟨⟨by decide +kernel, by decide +kernel⟩, List.mem_of_getElem? (i := 81) (by decide +kernel), List.mem_of_getElem? (i := 411) (by decide +kernel), List.mem_of_getElem? (i := 412) (by decide +kernel)⟩
theorem lw_p8 : lw_okq (⟨"PowerShares", "stepsOfText", "()I"⟩, 6) := ⟨⟨by decide +kernel, by decide +kernel⟩, List.mem_of_getElem? (i := 12) (by decide +kernel), List.mem_of_getElem? (i := 424) (by decide +kernel), List.mem_of_getElem? (i := 425) (by decide +kernel)⟩
theorem lw_p9 : lw_okq (⟨"PowerShares$Walk", "wouldMove", "([I)Z"⟩, 4) := ⟨⟨by decide +kernel, by decide +kernel⟩, List.mem_of_getElem? (i := 81) (by decide +kernel), List.mem_of_getElem? (i := 438) (by decide +kernel), List.mem_of_getElem? (i := 439) (by decide +kernel)⟩
theorem lw_p10 : lw_okq (⟨"PowerShares", "refusalOfItem", "(III)I"⟩, 6) := ⟨⟨by decide +kernel, by decide +kernel⟩, List.mem_of_getElem? (i := 12) (by decide +kernel), List.mem_of_getElem? (i := 474) (by decide +kernel), List.mem_of_getElem? (i := 475) (by decide +kernel)⟩
theorem lw_p11 : lw_okq (⟨"PowerShares", "digestSender", "(JI)J"⟩, 6) := ⟨⟨by decide +kernel, by decide +kernel⟩, List.mem_of_getElem? (i := 12) (by decide +kernel), List.mem_of_getElem? (i := 525) (by decide +kernel), List.mem_of_getElem? (i := 526) (by decide +kernel)⟩
theorem lw_p12 : lw_okq (⟨"PowerSharesModel", "isSender", "(I)Z"⟩, 24) := ⟨⟨by decide +kernel, by decide +kernel⟩, List.mem_of_getElem? (i := 533) (by decide +kernel), List.mem_of_getElem? (i := 624) (by decide +kernel), List.mem_of_getElem? (i := 625) (by decide +kernel)⟩
theorem lw_p13 : lw_okq (⟨"PowerSharesModel", "setting", "(II)I"⟩, 24) := ⟨⟨by decide +kernel, by decide +kernel⟩, List.mem_of_getElem? (i := 533) (by decide +kernel), List.mem_of_getElem? (i := 638) (by decide +kernel), List.mem_of_getElem? (i := 639) (by decide +kernel)⟩
theorem lw_p14 : lw_okq (⟨"PowerSharesModel", "onNow", "()I"⟩, 24) := ⟨⟨by decide +kernel, by decide +kernel⟩, List.mem_of_getElem? (i := 533) (by decide +kernel), List.mem_of_getElem? (i := 646) (by decide +kernel), List.mem_of_getElem? (i := 647) (by decide +kernel)⟩
theorem lw_p15 : lw_okq (⟨"PowerSharesModel", "meets", "(I)I"⟩, 24) := ⟨⟨by decide +kernel, by decide +kernel⟩, List.mem_of_getElem? (i := 533) (by decide +kernel), List.mem_of_getElem? (i := 677) (by decide +kernel), List.mem_of_getElem? (i := 678) (by decide +kernel)⟩
def lw_privs_1 : List (MethodName × Nat) := [(⟨"PowerShares", "refusalOfSheet", "(I)I"⟩, 6), (⟨"PowerShares", "finding", "(I)I"⟩, 6), (⟨"PowerShares", "readGains", "(LPowerShares$Sheet;)I"⟩, 6), (⟨"PowerShares$Laws", "build", "(III)V"⟩, 4), (⟨"PowerShares$Laws", "expand", "(I)I"⟩, 4), (⟨"PowerShares$Laws", "listMembers", "(I)I"⟩, 4), (⟨"PowerShares$Laws", "expandRow", "(III)J"⟩, 4), (⟨"PowerShares$Walk", "goalOf", "(I[I)I"⟩, 4), (⟨"PowerShares", "stepsOfText", "()I"⟩, 6), (⟨"PowerShares$Walk", "wouldMove", "([I)Z"⟩, 4), (⟨"PowerShares", "refusalOfItem", "(III)I"⟩, 6), (⟨"PowerShares", "digestSender", "(JI)J"⟩, 6), (⟨"PowerSharesModel", "isSender", "(I)Z"⟩, 24), (⟨"PowerSharesModel", "setting", "(II)I"⟩, 24), (⟨"PowerSharesModel", "onNow", "()I"⟩, 24), (⟨"PowerSharesModel", "meets", "(I)I"⟩, 24)]
theorem lw_r1 : ∀ q ∈ lw_privs_1, lw_okq q := List.forall_mem_cons.mpr ⟨lw_p0, List.forall_mem_cons.mpr ⟨lw_p1, List.forall_mem_cons.mpr ⟨lw_p2, List.forall_mem_cons.mpr ⟨lw_p3, List.forall_mem_cons.mpr ⟨lw_p4, List.forall_mem_cons.mpr ⟨lw_p5, List.forall_mem_cons.mpr ⟨lw_p6, List.forall_mem_cons.mpr ⟨lw_p7, List.forall_mem_cons.mpr ⟨lw_p8, List.forall_mem_cons.mpr ⟨lw_p9, List.forall_mem_cons.mpr ⟨lw_p10, List.forall_mem_cons.mpr ⟨lw_p11, List.forall_mem_cons.mpr ⟨lw_p12, List.forall_mem_cons.mpr ⟨lw_p13, List.forall_mem_cons.mpr ⟨lw_p14, List.forall_mem_cons.mpr ⟨lw_p15, fun _ h => absurd h List.not_mem_nil⟩⟩⟩⟩⟩⟩⟩⟩⟩⟩⟩⟩⟩⟩⟩⟩
theorem lw_p16 : lw_okq (⟨"PowerSharesModel", "infoOf", "(II)I"⟩, 24) := ⟨⟨by decide +kernel, by decide +kernel⟩, List.mem_of_getElem? (i := 533) (by decide +kernel), List.mem_of_getElem? (i := 685) (by decide +kernel), List.mem_of_getElem? (i := 686) (by decide +kernel)⟩
theorem lw_p17 : lw_okq (⟨"PowerSharesModel", "triesNow", "()V"⟩, 24) := ⟨⟨by decide +kernel, by decide +kernel⟩, List.mem_of_getElem? (i := 533) (by decide +kernel), List.mem_of_getElem? (i := 689) (by decide +kernel), List.mem_of_getElem? (i := 690) (by decide +kernel)⟩
theorem lw_p18 : lw_okq (⟨"PowerSharesModel", "needOf", "(I)I"⟩, 24) := ⟨⟨by decide +kernel, by decide +kernel⟩, List.mem_of_getElem? (i := 533) (by decide +kernel), List.mem_of_getElem? (i := 693) (by decide +kernel), List.mem_of_getElem? (i := 694) (by decide +kernel)⟩
theorem lw_p19 : lw_okq (⟨"PowerSharesModel", "heardBy", "(I)I"⟩, 24) := ⟨⟨by decide +kernel, by decide +kernel⟩, List.mem_of_getElem? (i := 533) (by decide +kernel), List.mem_of_getElem? (i := 697) (by decide +kernel), List.mem_of_getElem? (i := 698) (by decide +kernel)⟩
theorem lw_p20 : lw_okq (⟨"PowerSharesModel", "hasWish", "(I)Z"⟩, 24) := ⟨⟨by decide +kernel, by decide +kernel⟩, List.mem_of_getElem? (i := 533) (by decide +kernel), List.mem_of_getElem? (i := 701) (by decide +kernel), List.mem_of_getElem? (i := 702) (by decide +kernel)⟩
theorem lw_p21 : lw_okq (⟨"PowerSharesModel", "asksAsTold", "()V"⟩, 24) := ⟨⟨by decide +kernel, by decide +kernel⟩, List.mem_of_getElem? (i := 533) (by decide +kernel), List.mem_of_getElem? (i := 717) (by decide +kernel), List.mem_of_getElem? (i := 718) (by decide +kernel)⟩
theorem lw_p22 : lw_okq (⟨"PowerSharesModel", "lays", "(II)V"⟩, 24) := ⟨⟨by decide +kernel, by decide +kernel⟩, List.mem_of_getElem? (i := 533) (by decide +kernel), List.mem_of_getElem? (i := 721) (by decide +kernel), List.mem_of_getElem? (i := 722) (by decide +kernel)⟩
theorem lw_p23 : lw_okq (⟨"PowerSharesModel", "determines", "()V"⟩, 24) := ⟨⟨by decide +kernel, by decide +kernel⟩, List.mem_of_getElem? (i := 533) (by decide +kernel), List.mem_of_getElem? (i := 726) (by decide +kernel), List.mem_of_getElem? (i := 727) (by decide +kernel)⟩
theorem lw_p24 : lw_okq (⟨"PowerSharesModel", "isFeasibleNow", "()Z"⟩, 24) := ⟨⟨by decide +kernel, by decide +kernel⟩, List.mem_of_getElem? (i := 533) (by decide +kernel), List.mem_of_getElem? (i := 737) (by decide +kernel), List.mem_of_getElem? (i := 738) (by decide +kernel)⟩
theorem lw_p25 : lw_okq (⟨"PowerSharesModel", "isFeasible", "(I)Z"⟩, 24) := ⟨⟨by decide +kernel, by decide +kernel⟩, List.mem_of_getElem? (i := 533) (by decide +kernel), List.mem_of_getElem? (i := 741) (by decide +kernel), List.mem_of_getElem? (i := 742) (by decide +kernel)⟩
theorem lw_p26 : lw_okq (⟨"PowerSharesModel", "leastOf", "(II)J"⟩, 24) := ⟨⟨by decide +kernel, by decide +kernel⟩, List.mem_of_getElem? (i := 533) (by decide +kernel), List.mem_of_getElem? (i := 749) (by decide +kernel), List.mem_of_getElem? (i := 750) (by decide +kernel)⟩
theorem lw_p27 : lw_okq (⟨"PowerSharesModel", "witnessNow", "()I"⟩, 24) := ⟨⟨by decide +kernel, by decide +kernel⟩, List.mem_of_getElem? (i := 533) (by decide +kernel), List.mem_of_getElem? (i := 760) (by decide +kernel), List.mem_of_getElem? (i := 761) (by decide +kernel)⟩
theorem lw_p28 : lw_okq (⟨"PowerSharesModel", "outNow", "()I"⟩, 24) := ⟨⟨by decide +kernel, by decide +kernel⟩, List.mem_of_getElem? (i := 533) (by decide +kernel), List.mem_of_getElem? (i := 768) (by decide +kernel), List.mem_of_getElem? (i := 769) (by decide +kernel)⟩
theorem lw_p29 : lw_okq (⟨"PowerSharesModel", "admittedNow", "()I"⟩, 24) := ⟨⟨by decide +kernel, by decide +kernel⟩, List.mem_of_getElem? (i := 533) (by decide +kernel), List.mem_of_getElem? (i := 776) (by decide +kernel), List.mem_of_getElem? (i := 777) (by decide +kernel)⟩
theorem lw_p30 : lw_okq (⟨"PowerSharesModel", "shareOf", "(II)J"⟩, 24) := ⟨⟨by decide +kernel, by decide +kernel⟩, List.mem_of_getElem? (i := 533) (by decide +kernel), List.mem_of_getElem? (i := 792) (by decide +kernel), List.mem_of_getElem? (i := 793) (by decide +kernel)⟩
theorem lw_p31 : lw_okq (⟨"PowerSharesModel", "stepped", "(I)I"⟩, 24) := ⟨⟨by decide +kernel, by decide +kernel⟩, List.mem_of_getElem? (i := 533) (by decide +kernel), List.mem_of_getElem? (i := 800) (by decide +kernel), List.mem_of_getElem? (i := 801) (by decide +kernel)⟩
def lw_privs_2 : List (MethodName × Nat) := [(⟨"PowerSharesModel", "infoOf", "(II)I"⟩, 24), (⟨"PowerSharesModel", "triesNow", "()V"⟩, 24), (⟨"PowerSharesModel", "needOf", "(I)I"⟩, 24), (⟨"PowerSharesModel", "heardBy", "(I)I"⟩, 24), (⟨"PowerSharesModel", "hasWish", "(I)Z"⟩, 24), (⟨"PowerSharesModel", "asksAsTold", "()V"⟩, 24), (⟨"PowerSharesModel", "lays", "(II)V"⟩, 24), (⟨"PowerSharesModel", "determines", "()V"⟩, 24), (⟨"PowerSharesModel", "isFeasibleNow", "()Z"⟩, 24), (⟨"PowerSharesModel", "isFeasible", "(I)Z"⟩, 24), (⟨"PowerSharesModel", "leastOf", "(II)J"⟩, 24), (⟨"PowerSharesModel", "witnessNow", "()I"⟩, 24), (⟨"PowerSharesModel", "outNow", "()I"⟩, 24), (⟨"PowerSharesModel", "admittedNow", "()I"⟩, 24), (⟨"PowerSharesModel", "shareOf", "(II)J"⟩, 24), (⟨"PowerSharesModel", "stepped", "(I)I"⟩, 24)]
theorem lw_r2 : ∀ q ∈ lw_privs_2, lw_okq q := List.forall_mem_cons.mpr ⟨lw_p16, List.forall_mem_cons.mpr ⟨lw_p17, List.forall_mem_cons.mpr ⟨lw_p18, List.forall_mem_cons.mpr ⟨lw_p19, List.forall_mem_cons.mpr ⟨lw_p20, List.forall_mem_cons.mpr ⟨lw_p21, List.forall_mem_cons.mpr ⟨lw_p22, List.forall_mem_cons.mpr ⟨lw_p23, List.forall_mem_cons.mpr ⟨lw_p24, List.forall_mem_cons.mpr ⟨lw_p25, List.forall_mem_cons.mpr ⟨lw_p26, List.forall_mem_cons.mpr ⟨lw_p27, List.forall_mem_cons.mpr ⟨lw_p28, List.forall_mem_cons.mpr ⟨lw_p29, List.forall_mem_cons.mpr ⟨lw_p30, List.forall_mem_cons.mpr ⟨lw_p31, fun _ h => absurd h List.not_mem_nil⟩⟩⟩⟩⟩⟩⟩⟩⟩⟩⟩⟩⟩⟩⟩⟩
theorem lw_p32 : lw_okq (⟨"PowerSharesModel", "turns", "()I"⟩, 24) := ⟨⟨by decide +kernel, by decide +kernel⟩, List.mem_of_getElem? (i := 533) (by decide +kernel), List.mem_of_getElem? (i := 808) (by decide +kernel), List.mem_of_getElem? (i := 809) (by decide +kernel)⟩
theorem lw_p33 : lw_okq (⟨"PowerSharesModel", "keepsTried", "()V"⟩, 24) := ⟨⟨by decide +kernel, by decide +kernel⟩, List.mem_of_getElem? (i := 533) (by decide +kernel), List.mem_of_getElem? (i := 812) (by decide +kernel), List.mem_of_getElem? (i := 813) (by decide +kernel)⟩
theorem lw_p34 : lw_okq (⟨"PowerSharesModel", "stillNow", "()I"⟩, 24) := ⟨⟨by decide +kernel, by decide +kernel⟩, List.mem_of_getElem? (i := 533) (by decide +kernel), List.mem_of_getElem? (i := 825) (by decide +kernel), List.mem_of_getElem? (i := 826) (by decide +kernel)⟩
theorem lw_p35 : lw_okq (⟨"PowerSharesModel", "restOf", "(I)I"⟩, 24) := ⟨⟨by decide +kernel, by decide +kernel⟩, List.mem_of_getElem? (i := 533) (by decide +kernel), List.mem_of_getElem? (i := 833) (by decide +kernel), List.mem_of_getElem? (i := 834) (by decide +kernel)⟩
theorem lw_p36 : lw_okq (⟨"PowerSharesModel", "metNow", "()I"⟩, 24) := ⟨⟨by decide +kernel, by decide +kernel⟩, List.mem_of_getElem? (i := 533) (by decide +kernel), List.mem_of_getElem? (i := 841) (by decide +kernel), List.mem_of_getElem? (i := 842) (by decide +kernel)⟩
theorem lw_p37 : lw_okq (⟨"PowerSharesModel", "lacks", "(III)I"⟩, 24) := ⟨⟨by decide +kernel, by decide +kernel⟩, List.mem_of_getElem? (i := 533) (by decide +kernel), List.mem_of_getElem? (i := 857) (by decide +kernel), List.mem_of_getElem? (i := 858) (by decide +kernel)⟩
theorem lw_p38 : lw_okq (⟨"PowerSharesModel", "keep", "(III)V"⟩, 24) := ⟨⟨by decide +kernel, by decide +kernel⟩, List.mem_of_getElem? (i := 533) (by decide +kernel), List.mem_of_getElem? (i := 861) (by decide +kernel), List.mem_of_getElem? (i := 862) (by decide +kernel)⟩
theorem lw_p39 : lw_okq (⟨"PowerSharesModel", "sumOn", "()I"⟩, 24) := ⟨⟨by decide +kernel, by decide +kernel⟩, List.mem_of_getElem? (i := 533) (by decide +kernel), List.mem_of_getElem? (i := 882) (by decide +kernel), List.mem_of_getElem? (i := 883) (by decide +kernel)⟩
theorem lw_p40 : lw_okq (⟨"PowerSharesModel", "senderDigest", "(JI)J"⟩, 24) := ⟨⟨by decide +kernel, by decide +kernel⟩, List.mem_of_getElem? (i := 533) (by decide +kernel), List.mem_of_getElem? (i := 896) (by decide +kernel), List.mem_of_getElem? (i := 897) (by decide +kernel)⟩
def lw_privs_3 : List (MethodName × Nat) := [(⟨"PowerSharesModel", "turns", "()I"⟩, 24), (⟨"PowerSharesModel", "keepsTried", "()V"⟩, 24), (⟨"PowerSharesModel", "stillNow", "()I"⟩, 24), (⟨"PowerSharesModel", "restOf", "(I)I"⟩, 24), (⟨"PowerSharesModel", "metNow", "()I"⟩, 24), (⟨"PowerSharesModel", "lacks", "(III)I"⟩, 24), (⟨"PowerSharesModel", "keep", "(III)V"⟩, 24), (⟨"PowerSharesModel", "sumOn", "()I"⟩, 24), (⟨"PowerSharesModel", "senderDigest", "(JI)J"⟩, 24)]
theorem lw_r3 : ∀ q ∈ lw_privs_3, lw_okq q := List.forall_mem_cons.mpr ⟨lw_p32, List.forall_mem_cons.mpr ⟨lw_p33, List.forall_mem_cons.mpr ⟨lw_p34, List.forall_mem_cons.mpr ⟨lw_p35, List.forall_mem_cons.mpr ⟨lw_p36, List.forall_mem_cons.mpr ⟨lw_p37, List.forall_mem_cons.mpr ⟨lw_p38, List.forall_mem_cons.mpr ⟨lw_p39, List.forall_mem_cons.mpr ⟨lw_p40, fun _ h => absurd h List.not_mem_nil⟩⟩⟩⟩⟩⟩⟩⟩⟩
def lw_privs : List (MethodName × Nat) := lw_privs_1 ++ (lw_privs_2 ++ (lw_privs_3))
def lw_tbl : List Cond := k2_sels lw_privs ++ tables_1
theorem lw_privs_ok : ∀ q ∈ lw_privs, lw_okq q := by
  show ∀ q ∈ lw_privs_1 ++ (lw_privs_2 ++ (lw_privs_3)), lw_okq q
  exact List.forall_mem_append.mpr ⟨lw_r1, List.forall_mem_append.mpr ⟨lw_r2, lw_r3⟩⟩
end
section
def RX0 : String := "PowerShares$Laws"
def TX0 : u_T := fun k => match k with
  | 0 => ("PowerShares$Laws", "told", "LPowerShares$Senders;", true)
  | 1 => ("PowerShares$Laws", "square", "[J", true)
  | 2 => ("PowerShares$Laws", "partial", "[J", true)
  | _ => ("PowerShares$Laws", "members", "[I", true)
def tyX0 : Nat → FieldType := fun k => match k with
  | 0 => .object "PowerShares$Senders"
  | 1 => .array .long
  | 2 => .array .long
  | _ => .array .int
abbrev wsX00 : List Cond := u_ws RX0 TX0 4
theorem nmX0 : ∀ a, a < 4 → ∀ b, b < 4 → a ≠ b → (TX0 a).2.1 ≠ (TX0 b).2.1 := by decide +kernel
theorem tyX0_ok : ∀ k, k < 4 → parseFieldDescriptor (TX0 k).2.2.1 = some (tyX0 k) := by decide +kernel
abbrev cX0_init : ByteArray := prog_2_method_1_code
def yX0_init : MethodName := ⟨RX0, "<init>", "(LPowerShares$Senders;)V"⟩
abbrev cX0_buildAsTold : ByteArray := prog_2_method_2_code
def yX0_buildAsTold : MethodName := ⟨RX0, "buildAsTold", "()V"⟩
abbrev cX0_build : ByteArray := prog_2_method_3_code
def yX0_build : MethodName := ⟨RX0, "build", "(III)V"⟩
abbrev cX0_replaceColumnByNoise : ByteArray := prog_2_method_4_code
def yX0_replaceColumnByNoise : MethodName := ⟨RX0, "replaceColumnByNoise", "(I)V"⟩
abbrev cX0_minorOf : ByteArray := prog_2_method_5_code
def yX0_minorOf : MethodName := ⟨RX0, "minorOf", "(I)J"⟩
abbrev cX0_holdFor : ByteArray := prog_2_method_6_code
def yX0_holdFor : MethodName := ⟨RX0, "holdFor", "(I)Z"⟩
abbrev cX0_expand : ByteArray := prog_2_method_7_code
def yX0_expand : MethodName := ⟨RX0, "expand", "(I)I"⟩
abbrev cX0_expandRow : ByteArray := prog_2_method_8_code
def yX0_expandRow : MethodName := ⟨RX0, "expandRow", "(III)J"⟩
abbrev cX0_listMembers : ByteArray := prog_2_method_9_code
def yX0_listMembers : MethodName := ⟨RX0, "listMembers", "(I)I"⟩
abbrev cX0_fewestTooMany : ByteArray := prog_2_method_10_code
def yX0_fewestTooMany : MethodName := ⟨RX0, "fewestTooMany", "(I)I"⟩
abbrev cX0_fewestToLeave : ByteArray := prog_2_method_11_code
def yX0_fewestToLeave : MethodName := ⟨RX0, "fewestToLeave", "(I)I"⟩
abbrev cX0_comeIn : ByteArray := prog_2_method_12_code
def yX0_comeIn : MethodName := ⟨RX0, "comeIn", "(I)I"⟩
abbrev cX0_whoseWishLess : ByteArray := prog_2_method_13_code
def yX0_whoseWishLess : MethodName := ⟨RX0, "whoseWishLess", "(I)I"⟩
abbrev cX0_greatestQuarters : ByteArray := prog_2_method_14_code
def yX0_greatestQuarters : MethodName := ⟨RX0, "greatestQuarters", "(I)I"⟩
def RX1 : String := "PowerShares$Senders"
def TX1 : u_T := fun k => match k with
  | 0 => ("PowerShares$Senders", "many", "I", false)
  | 1 => ("PowerShares$Senders", "onBits", "I", false)
  | 2 => ("PowerShares$Senders", "gains", "[I", true)
  | 3 => ("PowerShares$Senders", "wishes", "[I", true)
  | 4 => ("PowerShares$Senders", "noises", "[I", true)
  | 5 => ("PowerShares$Senders", "caps", "[I", true)
  | _ => ("PowerShares$Senders", "powers", "[I", true)
def tyX1 : Nat → FieldType := fun k => match k with
  | 0 => .int
  | 1 => .int
  | 2 => .array .int
  | 3 => .array .int
  | 4 => .array .int
  | 5 => .array .int
  | _ => .array .int
abbrev wsX10 : List Cond := u_ws RX1 TX1 7
theorem nmX1 : ∀ a, a < 7 → ∀ b, b < 7 → a ≠ b → (TX1 a).2.1 ≠ (TX1 b).2.1 := by decide +kernel
theorem tyX1_ok : ∀ k, k < 7 → parseFieldDescriptor (TX1 k).2.2.1 = some (tyX1 k) := by decide +kernel
abbrev cX1_init : ByteArray := prog_3_method_1_code
def yX1_init : MethodName := ⟨RX1, "<init>", "()V"⟩
abbrev cX1_mayBeGain : ByteArray := prog_3_method_2_code
def yX1_mayBeGain : MethodName := ⟨RX1, "mayBeGain", "(III)Z"⟩
abbrev cX1_isThere : ByteArray := prog_3_method_3_code
def yX1_isThere : MethodName := ⟨RX1, "isThere", "(I)Z"⟩
abbrev cX1_allBits : ByteArray := prog_3_method_4_code
def yX1_allBits : MethodName := ⟨RX1, "allBits", "()I"⟩
abbrev cX1_onSet : ByteArray := prog_3_method_5_code
def yX1_onSet : MethodName := ⟨RX1, "onSet", "()I"⟩
abbrev cX1_isOn : ByteArray := prog_3_method_6_code
def yX1_isOn : MethodName := ⟨RX1, "isOn", "(I)Z"⟩
abbrev cX1_gainOf : ByteArray := prog_3_method_7_code
def yX1_gainOf : MethodName := ⟨RX1, "gainOf", "(II)I"⟩
abbrev cX1_tellGain : ByteArray := prog_3_method_8_code
def yX1_tellGain : MethodName := ⟨RX1, "tellGain", "(III)V"⟩
abbrev cX1_othersAndNoise : ByteArray := prog_3_method_9_code
def yX1_othersAndNoise : MethodName := ⟨RX1, "othersAndNoise", "(I[I)I"⟩
abbrev cX1_needOf : ByteArray := prog_3_method_10_code
def yX1_needOf : MethodName := ⟨RX1, "needOf", "(I[I)I"⟩
abbrev cX1_isContent : ByteArray := prog_3_method_11_code
def yX1_isContent : MethodName := ⟨RX1, "isContent", "(I)Z"⟩
abbrev cX1_contentSet : ByteArray := prog_3_method_12_code
def yX1_contentSet : MethodName := ⟨RX1, "contentSet", "()I"⟩
abbrev cX1_sumOfPowers : ByteArray := prog_3_method_13_code
def yX1_sumOfPowers : MethodName := ⟨RX1, "sumOfPowers", "()I"⟩
def RX2 : String := "PowerShares$Sheet"
def TX2 : u_T := fun k => match k with
  | 0 => ("PowerShares$Sheet", "form", "I", false)
  | 1 => ("PowerShares$Sheet", "size", "I", false)
  | _ => ("PowerShares$Sheet", "items", "[I", true)
def tyX2 : Nat → FieldType := fun k => match k with
  | 0 => .int
  | 1 => .int
  | _ => .array .int
abbrev wsX20 : List Cond := u_ws RX2 TX2 3
theorem nmX2 : ∀ a, a < 3 → ∀ b, b < 3 → a ≠ b → (TX2 a).2.1 ≠ (TX2 b).2.1 := by decide +kernel
theorem tyX2_ok : ∀ k, k < 3 → parseFieldDescriptor (TX2 k).2.2.1 = some (tyX2 k) := by decide +kernel
abbrev cX2_init : ByteArray := prog_4_method_1_code
def yX2_init : MethodName := ⟨RX2, "<init>", "()V"⟩
abbrev cX2_isLost : ByteArray := prog_4_method_2_code
def yX2_isLost : MethodName := ⟨RX2, "isLost", "()Z"⟩
abbrev cX2_renew : ByteArray := prog_4_method_3_code
def yX2_renew : MethodName := ⟨RX2, "renew", "(II)V"⟩
abbrev cX2_hasRange : ByteArray := prog_4_method_4_code
def yX2_hasRange : MethodName := ⟨RX2, "hasRange", "(II)Z"⟩
abbrev cX2_store : ByteArray := prog_4_method_5_code
def yX2_store : MethodName := ⟨RX2, "store", "(II)V"⟩
def RX3 : String := "PowerShares$Text"
def TX3 : u_T := fun k => match k with
  | 0 => ("PowerShares$Text", "length", "I", false)
  | _ => ("PowerShares$Text", "bytes", "[I", true)
def tyX3 : Nat → FieldType := fun k => match k with
  | 0 => .int
  | _ => .array .int
abbrev wsX30 : List Cond := u_ws RX3 TX3 2
theorem nmX3 : ∀ a, a < 2 → ∀ b, b < 2 → a ≠ b → (TX3 a).2.1 ≠ (TX3 b).2.1 := by decide +kernel
theorem tyX3_ok : ∀ k, k < 2 → parseFieldDescriptor (TX3 k).2.2.1 = some (tyX3 k) := by decide +kernel
abbrev cX3_init : ByteArray := prog_5_method_1_code
def yX3_init : MethodName := ⟨RX3, "<init>", "()V"⟩
abbrev cX3_append : ByteArray := prog_5_method_2_code
def yX3_append : MethodName := ⟨RX3, "append", "(I)Z"⟩
abbrev cX3_firstWrong : ByteArray := prog_5_method_3_code
def yX3_firstWrong : MethodName := ⟨RX3, "firstWrong", "(I)I"⟩
def RX4 : String := "PowerShares$Walk"
def TX4 : u_T := fun k => match k with
  | 0 => ("PowerShares$Walk", "ruleNumber", "I", false)
  | 1 => ("PowerShares$Walk", "trial", "[I", true)
  | 2 => ("PowerShares$Walk", "told", "LPowerShares$Senders;", true)
  | _ => ("PowerShares$Walk", "next", "[I", true)
def tyX4 : Nat → FieldType := fun k => match k with
  | 0 => .int
  | 1 => .array .int
  | 2 => .object "PowerShares$Senders"
  | _ => .array .int
abbrev wsX40 : List Cond := u_ws RX4 TX4 4
theorem nmX4 : ∀ a, a < 4 → ∀ b, b < 4 → a ≠ b → (TX4 a).2.1 ≠ (TX4 b).2.1 := by decide +kernel
theorem tyX4_ok : ∀ k, k < 4 → parseFieldDescriptor (TX4 k).2.2.1 = some (tyX4 k) := by decide +kernel
abbrev cX4_init : ByteArray := prog_6_method_1_code
def yX4_init : MethodName := ⟨RX4, "<init>", "(LPowerShares$Senders;)V"⟩
abbrev cX4_stepOf : ByteArray := prog_6_method_2_code
def yX4_stepOf : MethodName := ⟨RX4, "stepOf", "(I[I)I"⟩
abbrev cX4_takeTurn : ByteArray := prog_6_method_3_code
def yX4_takeTurn : MethodName := ⟨RX4, "takeTurn", "([I)I"⟩
abbrev cX4_goalOf : ByteArray := prog_6_method_4_code
def yX4_goalOf : MethodName := ⟨RX4, "goalOf", "(I[I)I"⟩
abbrev cX4_settle : ByteArray := prog_6_method_5_code
def yX4_settle : MethodName := ⟨RX4, "settle", "()I"⟩
abbrev cX4_wouldMove : ByteArray := prog_6_method_6_code
def yX4_wouldMove : MethodName := ⟨RX4, "wouldMove", "([I)Z"⟩
def RX5 : String := "PowerShares"
def TX5 : u_T := fun k => match k with
  | 0 => ("PowerShares", "told", "LPowerShares$Senders;", true)
  | 1 => ("PowerShares", "laws", "LPowerShares$Laws;", true)
  | 2 => ("PowerShares", "walk", "LPowerShares$Walk;", true)
  | 3 => ("PowerShares", "text", "LPowerShares$Text;", true)
  | 4 => ("PowerShares", "sheets", "[LPowerShares$Sheet;", true)
  | _ => ("PowerShares", "latestFinding", "I", false)
def tyX5 : Nat → FieldType := fun k => match k with
  | 0 => .object "PowerShares$Senders"
  | 1 => .object "PowerShares$Laws"
  | 2 => .object "PowerShares$Walk"
  | 3 => .object "PowerShares$Text"
  | 4 => .array (.object "PowerShares$Sheet")
  | _ => .int
abbrev wsX50 : List Cond := u_ws RX5 TX5 6
theorem nmX5 : ∀ a, a < 6 → ∀ b, b < 6 → a ≠ b → (TX5 a).2.1 ≠ (TX5 b).2.1 := by decide +kernel
theorem tyX5_ok : ∀ k, k < 6 → parseFieldDescriptor (TX5 k).2.2.1 = some (tyX5 k) := by decide +kernel
abbrev cX5_init : ByteArray := prog_1_method_1_code
def yX5_init : MethodName := ⟨RX5, "<init>", "()V"⟩
abbrev cX5_senders : ByteArray := prog_1_method_2_code
def yX5_senders : MethodName := ⟨RX5, "senders", "(I)I"⟩
abbrev cX5_gain : ByteArray := prog_1_method_3_code
def yX5_gain : MethodName := ⟨RX5, "gain", "(III)I"⟩
abbrev cX5_set : ByteArray := prog_1_method_4_code
def yX5_set : MethodName := ⟨RX5, "set", "(III)I"⟩
abbrev cX5_on : ByteArray := prog_1_method_5_code
def yX5_on : MethodName := ⟨RX5, "on", "(I)I"⟩
abbrev cX5_power : ByteArray := prog_1_method_6_code
def yX5_power : MethodName := ⟨RX5, "power", "(II)I"⟩
abbrev cX5_rule : ByteArray := prog_1_method_7_code
def yX5_rule : MethodName := ⟨RX5, "rule", "(I)I"⟩
abbrev cX5_type : ByteArray := prog_1_method_8_code
def yX5_type : MethodName := ⟨RX5, "type", "(I)I"⟩
abbrev cX5_wipe : ByteArray := prog_1_method_9_code
def yX5_wipe : MethodName := ⟨RX5, "wipe", "()I"⟩
abbrev cX5_fault : ByteArray := prog_1_method_10_code
def yX5_fault : MethodName := ⟨RX5, "fault", "()I"⟩
abbrev cX5_read : ByteArray := prog_1_method_11_code
def yX5_read : MethodName := ⟨RX5, "read", "(I)I"⟩
abbrev cX5_info : ByteArray := prog_1_method_12_code
def yX5_info : MethodName := ⟨RX5, "info", "(II)I"⟩
abbrev cX5_heard : ByteArray := prog_1_method_13_code
def yX5_heard : MethodName := ⟨RX5, "heard", "(II)I"⟩
abbrev cX5_minor : ByteArray := prog_1_method_14_code
def yX5_minor : MethodName := ⟨RX5, "minor", "(I)J"⟩
abbrev cX5_feasible : ByteArray := prog_1_method_15_code
def yX5_feasible : MethodName := ⟨RX5, "feasible", "()I"⟩
abbrev cX5_least : ByteArray := prog_1_method_16_code
def yX5_least : MethodName := ⟨RX5, "least", "(II)J"⟩
abbrev cX5_witness : ByteArray := prog_1_method_17_code
def yX5_witness : MethodName := ⟨RX5, "witness", "()I"⟩
abbrev cX5_out : ByteArray := prog_1_method_18_code
def yX5_out : MethodName := ⟨RX5, "out", "()I"⟩
abbrev cX5_admitted : ByteArray := prog_1_method_19_code
def yX5_admitted : MethodName := ⟨RX5, "admitted", "()I"⟩
abbrev cX5_softer : ByteArray := prog_1_method_20_code
def yX5_softer : MethodName := ⟨RX5, "softer", "()I"⟩
abbrev cX5_margin : ByteArray := prog_1_method_21_code
def yX5_margin : MethodName := ⟨RX5, "margin", "()I"⟩
abbrev cX5_share : ByteArray := prog_1_method_22_code
def yX5_share : MethodName := ⟨RX5, "share", "(II)J"⟩
abbrev cX5_step : ByteArray := prog_1_method_23_code
def yX5_step : MethodName := ⟨RX5, "step", "(I)I"⟩
abbrev cX5_turn : ByteArray := prog_1_method_24_code
def yX5_turn : MethodName := ⟨RX5, "turn", "()I"⟩
abbrev cX5_order : ByteArray := prog_1_method_25_code
def yX5_order : MethodName := ⟨RX5, "order", "()I"⟩
abbrev cX5_still : ByteArray := prog_1_method_26_code
def yX5_still : MethodName := ⟨RX5, "still", "()I"⟩
abbrev cX5_rest : ByteArray := prog_1_method_27_code
def yX5_rest : MethodName := ⟨RX5, "rest", "(I)I"⟩
abbrev cX5_met : ByteArray := prog_1_method_28_code
def yX5_met : MethodName := ⟨RX5, "met", "()I"⟩
abbrev cX5_sheet : ByteArray := prog_1_method_29_code
def yX5_sheet : MethodName := ⟨RX5, "sheet", "(III)I"⟩
abbrev cX5_lose : ByteArray := prog_1_method_30_code
def yX5_lose : MethodName := ⟨RX5, "lose", "(I)I"⟩
abbrev cX5_put : ByteArray := prog_1_method_31_code
def yX5_put : MethodName := ⟨RX5, "put", "(IIII)I"⟩
abbrev cX5_get : ByteArray := prog_1_method_32_code
def yX5_get : MethodName := ⟨RX5, "get", "(III)I"⟩
abbrev cX5_copy : ByteArray := prog_1_method_33_code
def yX5_copy : MethodName := ⟨RX5, "copy", "(IIIII)I"⟩
abbrev cX5_write : ByteArray := prog_1_method_34_code
def yX5_write : MethodName := ⟨RX5, "write", "(I)I"⟩
abbrev cX5_count : ByteArray := prog_1_method_35_code
def yX5_count : MethodName := ⟨RX5, "count", "(I)I"⟩
abbrev cX5_digest : ByteArray := prog_1_method_36_code
def yX5_digest : MethodName := ⟨RX5, "digest", "()J"⟩
abbrev cX5_digestSender : ByteArray := prog_1_method_37_code
def yX5_digestSender : MethodName := ⟨RX5, "digestSender", "(JI)J"⟩
abbrev cX5_readGains : ByteArray := prog_1_method_38_code
def yX5_readGains : MethodName := ⟨RX5, "readGains", "(LPowerShares$Sheet;)I"⟩
abbrev cX5_stepsOfText : ByteArray := prog_1_method_39_code
def yX5_stepsOfText : MethodName := ⟨RX5, "stepsOfText", "()I"⟩
abbrev cX5_refusalOfSheet : ByteArray := prog_1_method_40_code
def yX5_refusalOfSheet : MethodName := ⟨RX5, "refusalOfSheet", "(I)I"⟩
abbrev cX5_refusalOfItem : ByteArray := prog_1_method_41_code
def yX5_refusalOfItem : MethodName := ⟨RX5, "refusalOfItem", "(III)I"⟩
abbrev cX5_finding : ByteArray := prog_1_method_42_code
def yX5_finding : MethodName := ⟨RX5, "finding", "(I)I"⟩
abbrev cX5_isSheet : ByteArray := prog_1_method_43_code
def yX5_isSheet : MethodName := ⟨RX5, "isSheet", "(I)Z"⟩
abbrev cX5_isForm : ByteArray := prog_1_method_44_code
def yX5_isForm : MethodName := ⟨RX5, "isForm", "(I)Z"⟩
abbrev cX5_exchange : ByteArray := prog_1_method_45_code
def yX5_exchange : MethodName := ⟨RX5, "exchange", "([IIIII)I"⟩
abbrev cX5_asLong : ByteArray := prog_1_method_46_code
def yX5_asLong : MethodName := ⟨RX5, "asLong", "(I)J"⟩
abbrev cX5_lowestTerm : ByteArray := prog_1_method_47_code
def yX5_lowestTerm : MethodName := ⟨RX5, "lowestTerm", "(JJI)J"⟩
abbrev cX5_commonDivisor : ByteArray := prog_1_method_48_code
def yX5_commonDivisor : MethodName := ⟨RX5, "commonDivisor", "(JJ)J"⟩
def RX6 : String := "PowerSharesModel"
def TX6 : u_T := fun k => match k with
  | 0 => ("PowerSharesModel", "many", "I", false)
  | 1 => ("PowerSharesModel", "ruleNow", "I", false)
  | 2 => ("PowerSharesModel", "gains", "[I", true)
  | 3 => ("PowerSharesModel", "wishes", "[I", true)
  | 4 => ("PowerSharesModel", "noises", "[I", true)
  | 5 => ("PowerSharesModel", "caps", "[I", true)
  | 6 => ("PowerSharesModel", "isOn", "[Z", true)
  | 7 => ("PowerSharesModel", "powers", "[I", true)
  | 8 => ("PowerSharesModel", "typed", "[I", true)
  | 9 => ("PowerSharesModel", "typedSize", "I", false)
  | 10 => ("PowerSharesModel", "square", "[J", true)
  | 11 => ("PowerSharesModel", "given", "[J", true)
  | 12 => ("PowerSharesModel", "asked", "[I", true)
  | 13 => ("PowerSharesModel", "ownTimes", "I", false)
  | 14 => ("PowerSharesModel", "wide", "I", false)
  | 15 => ("PowerSharesModel", "tried", "[I", true)
  | 16 => ("PowerSharesModel", "behind", "[I", true)
  | 17 => ("PowerSharesModel", "rests", "[I", true)
  | 18 => ("PowerSharesModel", "isThere", "[Z", true)
  | 19 => ("PowerSharesModel", "forms", "[I", true)
  | 20 => ("PowerSharesModel", "sizes", "[I", true)
  | 21 => ("PowerSharesModel", "items", "[I", true)
  | 22 => ("PowerSharesModel", "moved", "[I", true)
  | _ => ("PowerSharesModel", "finding", "I", false)
def tyX6 : Nat → FieldType := fun k => match k with
  | 0 => .int
  | 1 => .int
  | 2 => .array .int
  | 3 => .array .int
  | 4 => .array .int
  | 5 => .array .int
  | 6 => .array .boolean
  | 7 => .array .int
  | 8 => .array .int
  | 9 => .int
  | 10 => .array .long
  | 11 => .array .long
  | 12 => .array .int
  | 13 => .int
  | 14 => .int
  | 15 => .array .int
  | 16 => .array .int
  | 17 => .array .int
  | 18 => .array .boolean
  | 19 => .array .int
  | 20 => .array .int
  | 21 => .array .int
  | 22 => .array .int
  | _ => .int
abbrev wsX60 : List Cond := u_ws RX6 TX6 24
theorem nmX6 : ∀ a, a < 24 → ∀ b, b < 24 → a ≠ b → (TX6 a).2.1 ≠ (TX6 b).2.1 := by decide +kernel
theorem tyX6_ok : ∀ k, k < 24 → parseFieldDescriptor (TX6 k).2.2.1 = some (tyX6 k) := by decide +kernel
abbrev cX6_init : ByteArray := prog_8_method_1_code
def yX6_init : MethodName := ⟨RX6, "<init>", "()V"⟩
abbrev cX6_in : ByteArray := prog_8_method_3_code
def yX6_in : MethodName := ⟨RX6, "in", "(III)Z"⟩
abbrev cX6_no : ByteArray := prog_8_method_4_code
def yX6_no : MethodName := ⟨RX6, "no", "(I)J"⟩
abbrev cX6_isSender : ByteArray := prog_8_method_5_code
def yX6_isSender : MethodName := ⟨RX6, "isSender", "(I)Z"⟩
abbrev cX6_isGain : ByteArray := prog_8_method_6_code
def yX6_isGain : MethodName := ⟨RX6, "isGain", "(III)Z"⟩
abbrev cX6_senders : ByteArray := prog_8_method_7_code
def yX6_senders : MethodName := ⟨RX6, "senders", "(I)I"⟩
abbrev cX6_gain : ByteArray := prog_8_method_8_code
def yX6_gain : MethodName := ⟨RX6, "gain", "(III)I"⟩
abbrev cX6_isSetting : ByteArray := prog_8_method_9_code
def yX6_isSetting : MethodName := ⟨RX6, "isSetting", "(II)Z"⟩
abbrev cX6_setting : ByteArray := prog_8_method_10_code
def yX6_setting : MethodName := ⟨RX6, "setting", "(II)I"⟩
abbrev cX6_set : ByteArray := prog_8_method_11_code
def yX6_set : MethodName := ⟨RX6, "set", "(III)I"⟩
abbrev cX6_onNow : ByteArray := prog_8_method_12_code
def yX6_onNow : MethodName := ⟨RX6, "onNow", "()I"⟩
abbrev cX6_on : ByteArray := prog_8_method_13_code
def yX6_on : MethodName := ⟨RX6, "on", "(I)I"⟩
abbrev cX6_power : ByteArray := prog_8_method_14_code
def yX6_power : MethodName := ⟨RX6, "power", "(II)I"⟩
abbrev cX6_rule : ByteArray := prog_8_method_15_code
def yX6_rule : MethodName := ⟨RX6, "rule", "(I)I"⟩
abbrev cX6_type : ByteArray := prog_8_method_16_code
def yX6_type : MethodName := ⟨RX6, "type", "(I)I"⟩
abbrev cX6_wipe : ByteArray := prog_8_method_17_code
def yX6_wipe : MethodName := ⟨RX6, "wipe", "()I"⟩
abbrev cX6_fault : ByteArray := prog_8_method_18_code
def yX6_fault : MethodName := ⟨RX6, "fault", "()I"⟩
abbrev cX6_read : ByteArray := prog_8_method_19_code
def yX6_read : MethodName := ⟨RX6, "read", "(I)I"⟩
abbrev cX6_heardBy : ByteArray := prog_8_method_20_code
def yX6_heardBy : MethodName := ⟨RX6, "heardBy", "(I)I"⟩
abbrev cX6_triesNow : ByteArray := prog_8_method_21_code
def yX6_triesNow : MethodName := ⟨RX6, "triesNow", "()V"⟩
abbrev cX6_needOf : ByteArray := prog_8_method_22_code
def yX6_needOf : MethodName := ⟨RX6, "needOf", "(I)I"⟩
abbrev cX6_hasWish : ByteArray := prog_8_method_23_code
def yX6_hasWish : MethodName := ⟨RX6, "hasWish", "(I)Z"⟩
abbrev cX6_infoOf : ByteArray := prog_8_method_24_code
def yX6_infoOf : MethodName := ⟨RX6, "infoOf", "(II)I"⟩
abbrev cX6_info : ByteArray := prog_8_method_25_code
def yX6_info : MethodName := ⟨RX6, "info", "(II)I"⟩
abbrev cX6_heard : ByteArray := prog_8_method_26_code
def yX6_heard : MethodName := ⟨RX6, "heard", "(II)I"⟩
abbrev cX6_bitsOf : ByteArray := prog_8_method_27_code
def yX6_bitsOf : MethodName := ⟨RX6, "bitsOf", "(I)I"⟩
abbrev cX6_asksAsTold : ByteArray := prog_8_method_28_code
def yX6_asksAsTold : MethodName := ⟨RX6, "asksAsTold", "()V"⟩
abbrev cX6_lays : ByteArray := prog_8_method_29_code
def yX6_lays : MethodName := ⟨RX6, "lays", "(II)V"⟩
abbrev cX6_determines : ByteArray := prog_8_method_30_code
def yX6_determines : MethodName := ⟨RX6, "determines", "()V"⟩
abbrev cX6_isFeasible : ByteArray := prog_8_method_31_code
def yX6_isFeasible : MethodName := ⟨RX6, "isFeasible", "(I)Z"⟩
abbrev cX6_minor : ByteArray := prog_8_method_32_code
def yX6_minor : MethodName := ⟨RX6, "minor", "(I)J"⟩
abbrev cX6_isFeasibleNow : ByteArray := prog_8_method_33_code
def yX6_isFeasibleNow : MethodName := ⟨RX6, "isFeasibleNow", "()Z"⟩
abbrev cX6_feasible : ByteArray := prog_8_method_34_code
def yX6_feasible : MethodName := ⟨RX6, "feasible", "()I"⟩
abbrev cX6_partOf : ByteArray := prog_8_method_35_code
def yX6_partOf : MethodName := ⟨RX6, "partOf", "(JJI)J"⟩
abbrev cX6_leastOf : ByteArray := prog_8_method_36_code
def yX6_leastOf : MethodName := ⟨RX6, "leastOf", "(II)J"⟩
abbrev cX6_least : ByteArray := prog_8_method_37_code
def yX6_least : MethodName := ⟨RX6, "least", "(II)J"⟩
abbrev cX6_witnessNow : ByteArray := prog_8_method_38_code
def yX6_witnessNow : MethodName := ⟨RX6, "witnessNow", "()I"⟩
abbrev cX6_witness : ByteArray := prog_8_method_39_code
def yX6_witness : MethodName := ⟨RX6, "witness", "()I"⟩
abbrev cX6_outNow : ByteArray := prog_8_method_40_code
def yX6_outNow : MethodName := ⟨RX6, "outNow", "()I"⟩
abbrev cX6_out : ByteArray := prog_8_method_41_code
def yX6_out : MethodName := ⟨RX6, "out", "()I"⟩
abbrev cX6_admittedNow : ByteArray := prog_8_method_42_code
def yX6_admittedNow : MethodName := ⟨RX6, "admittedNow", "()I"⟩
abbrev cX6_admitted : ByteArray := prog_8_method_43_code
def yX6_admitted : MethodName := ⟨RX6, "admitted", "()I"⟩
abbrev cX6_softer : ByteArray := prog_8_method_44_code
def yX6_softer : MethodName := ⟨RX6, "softer", "()I"⟩
abbrev cX6_margin : ByteArray := prog_8_method_45_code
def yX6_margin : MethodName := ⟨RX6, "margin", "()I"⟩
abbrev cX6_shareOf : ByteArray := prog_8_method_46_code
def yX6_shareOf : MethodName := ⟨RX6, "shareOf", "(II)J"⟩
abbrev cX6_share : ByteArray := prog_8_method_47_code
def yX6_share : MethodName := ⟨RX6, "share", "(II)J"⟩
abbrev cX6_stepped : ByteArray := prog_8_method_48_code
def yX6_stepped : MethodName := ⟨RX6, "stepped", "(I)I"⟩
abbrev cX6_turns : ByteArray := prog_8_method_49_code
def yX6_turns : MethodName := ⟨RX6, "turns", "()I"⟩
abbrev cX6_keepsTried : ByteArray := prog_8_method_50_code
def yX6_keepsTried : MethodName := ⟨RX6, "keepsTried", "()V"⟩
abbrev cX6_step : ByteArray := prog_8_method_51_code
def yX6_step : MethodName := ⟨RX6, "step", "(I)I"⟩
abbrev cX6_turn : ByteArray := prog_8_method_52_code
def yX6_turn : MethodName := ⟨RX6, "turn", "()I"⟩
abbrev cX6_order : ByteArray := prog_8_method_53_code
def yX6_order : MethodName := ⟨RX6, "order", "()I"⟩
abbrev cX6_stillNow : ByteArray := prog_8_method_54_code
def yX6_stillNow : MethodName := ⟨RX6, "stillNow", "()I"⟩
abbrev cX6_still : ByteArray := prog_8_method_55_code
def yX6_still : MethodName := ⟨RX6, "still", "()I"⟩
abbrev cX6_restOf : ByteArray := prog_8_method_56_code
def yX6_restOf : MethodName := ⟨RX6, "restOf", "(I)I"⟩
abbrev cX6_rest : ByteArray := prog_8_method_57_code
def yX6_rest : MethodName := ⟨RX6, "rest", "(I)I"⟩
abbrev cX6_metNow : ByteArray := prog_8_method_58_code
def yX6_metNow : MethodName := ⟨RX6, "metNow", "()I"⟩
abbrev cX6_met : ByteArray := prog_8_method_59_code
def yX6_met : MethodName := ⟨RX6, "met", "()I"⟩
abbrev cX6_meets : ByteArray := prog_8_method_60_code
def yX6_meets : MethodName := ⟨RX6, "meets", "(I)I"⟩
abbrev cX6_isSheet : ByteArray := prog_8_method_61_code
def yX6_isSheet : MethodName := ⟨RX6, "isSheet", "(I)Z"⟩
abbrev cX6_sheet : ByteArray := prog_8_method_62_code
def yX6_sheet : MethodName := ⟨RX6, "sheet", "(III)I"⟩
abbrev cX6_lose : ByteArray := prog_8_method_63_code
def yX6_lose : MethodName := ⟨RX6, "lose", "(I)I"⟩
abbrev cX6_lacks : ByteArray := prog_8_method_64_code
def yX6_lacks : MethodName := ⟨RX6, "lacks", "(III)I"⟩
abbrev cX6_keep : ByteArray := prog_8_method_65_code
def yX6_keep : MethodName := ⟨RX6, "keep", "(III)V"⟩
abbrev cX6_put : ByteArray := prog_8_method_66_code
def yX6_put : MethodName := ⟨RX6, "put", "(IIII)I"⟩
abbrev cX6_get : ByteArray := prog_8_method_67_code
def yX6_get : MethodName := ⟨RX6, "get", "(III)I"⟩
abbrev cX6_copy : ByteArray := prog_8_method_68_code
def yX6_copy : MethodName := ⟨RX6, "copy", "(IIIII)I"⟩
abbrev cX6_write : ByteArray := prog_8_method_69_code
def yX6_write : MethodName := ⟨RX6, "write", "(I)I"⟩
abbrev cX6_sumOn : ByteArray := prog_8_method_70_code
def yX6_sumOn : MethodName := ⟨RX6, "sumOn", "()I"⟩
abbrev cX6_count : ByteArray := prog_8_method_71_code
def yX6_count : MethodName := ⟨RX6, "count", "(I)I"⟩
abbrev cX6_senderDigest : ByteArray := prog_8_method_72_code
def yX6_senderDigest : MethodName := ⟨RX6, "senderDigest", "(JI)J"⟩
abbrev cX6_digest : ByteArray := prog_8_method_73_code
def yX6_digest : MethodName := ⟨RX6, "digest", "()J"⟩
def RJ6 : String := "java/lang/Integer"
def TJ6 : u_T := fun k => match k with
  | _ => ("", "", "", false)
def tyJ6 : Nat → FieldType := fun k => match k with
  | _ => .int
abbrev wsJ60 : List Cond := u_ws RJ6 TJ6 0
theorem nmJ6 : ∀ a, a < 0 → ∀ b, b < 0 → a ≠ b → (TJ6 a).2.1 ≠ (TJ6 b).2.1 := by decide +kernel
theorem tyJ6_ok : ∀ k, k < 0 → parseFieldDescriptor (TJ6 k).2.2.1 = some (tyJ6 k) := by decide +kernel
abbrev cJ6_bitCount_0f7a4 : ByteArray := prog_9_method_49_code
def yJ6_bitCount_0f7a4 : MethodName := ⟨RJ6, "bitCount", "(I)I"⟩
def RJ9 : String := "java/lang/Math"
def TJ9 : u_T := fun k => match k with
  | _ => ("", "", "", false)
def tyJ9 : Nat → FieldType := fun k => match k with
  | _ => .int
abbrev wsJ90 : List Cond := u_ws RJ9 TJ9 0
theorem nmJ9 : ∀ a, a < 0 → ∀ b, b < 0 → a ≠ b → (TJ9 a).2.1 ≠ (TJ9 b).2.1 := by decide +kernel
theorem tyJ9_ok : ∀ k, k < 0 → parseFieldDescriptor (TJ9 k).2.2.1 = some (tyJ9 k) := by decide +kernel
abbrev cJ9_max_7cf53 : ByteArray := prog_10_method_65_code
def yJ9_max_7cf53 : MethodName := ⟨RJ9, "max", "(II)I"⟩
abbrev cJ9_max_f86c9 : ByteArray := prog_10_method_66_code
def yJ9_max_f86c9 : MethodName := ⟨RJ9, "max", "(JJ)J"⟩
abbrev cJ9_min_7cf53 : ByteArray := prog_10_method_69_code
def yJ9_min_7cf53 : MethodName := ⟨RJ9, "min", "(II)I"⟩
def RJ10 : String := "java/lang/System"
def TJ10 : u_T := fun k => match k with
  | _ => ("", "", "", false)
def tyJ10 : Nat → FieldType := fun k => match k with
  | _ => .int
abbrev wsJ100 : List Cond := u_ws RJ10 TJ10 0
theorem nmJ10 : ∀ a, a < 0 → ∀ b, b < 0 → a ≠ b → (TJ10 a).2.1 ≠ (TJ10 b).2.1 := by decide +kernel
theorem tyJ10_ok : ∀ k, k < 0 → parseFieldDescriptor (TJ10 k).2.2.1 = some (tyJ10 k) := by decide +kernel
def RL : String := "PowerSharesLaw"
abbrev cL_law : ByteArray := code
def yL_law : MethodName := ⟨RL, "law", "([I)Z"⟩
abbrev vwCl : List vw_C := [(RX0, TX0, 4), (RX1, TX1, 7), (RX2, TX2, 3), (RX3, TX3, 2), (RX4, TX4, 4), (RX5, TX5, 6), (RX6, TX6, 24)]
end
section
theorem dX0_init_0 : decode cX0_init 0 = .ok (.aload_n 0, 1) := by decide +kernel
theorem dX0_init_1 : decode cX0_init 1 = .ok (.invokespecial 3, 3) := by decide +kernel
theorem dX0_init_4 : decode cX0_init 4 = .ok (.aload_n 0, 1) := by decide +kernel
theorem dX0_init_5 : decode cX0_init 5 = .ok (.aload_n 1, 1) := by decide +kernel
theorem dX0_init_6 : decode cX0_init 6 = .ok (.putfield 9, 3) := by decide +kernel
theorem dX0_init_9 : decode cX0_init 9 = .ok (.aload_n 0, 1) := by decide +kernel
theorem dX0_init_10 : decode cX0_init 10 = .ok (.bipush 25, 2) := by decide +kernel
theorem dX0_init_12 : decode cX0_init 12 = .ok (.newarray .long, 2) := by decide +kernel
theorem dX0_init_14 : decode cX0_init 14 = .ok (.putfield 17, 3) := by decide +kernel
theorem dX0_init_17 : decode cX0_init 17 = .ok (.aload_n 0, 1) := by decide +kernel
theorem dX0_init_18 : decode cX0_init 18 = .ok (.bipush 32, 2) := by decide +kernel
theorem dX0_init_20 : decode cX0_init 20 = .ok (.newarray .long, 2) := by decide +kernel
theorem dX0_init_22 : decode cX0_init 22 = .ok (.putfield 21, 3) := by decide +kernel
theorem dX0_init_25 : decode cX0_init 25 = .ok (.aload_n 0, 1) := by decide +kernel
theorem dX0_init_26 : decode cX0_init 26 = .ok (.iconst 5, 1) := by decide +kernel
theorem dX0_init_27 : decode cX0_init 27 = .ok (.newarray .int, 2) := by decide +kernel
theorem dX0_init_29 : decode cX0_init 29 = .ok (.putfield 24, 3) := by decide +kernel
theorem dX0_init_32 : decode cX0_init 32 = .ok (.return_, 1) := by decide +kernel
theorem dX0_buildAsTold_0 : decode cX0_buildAsTold 0 = .ok (.aload_n 0, 1) := by decide +kernel
theorem dX0_buildAsTold_1 : decode cX0_buildAsTold 1 = .ok (.iconst 1, 1) := by decide +kernel
theorem dX0_buildAsTold_2 : decode cX0_buildAsTold 2 = .ok (.iconst 1, 1) := by decide +kernel
theorem dX0_buildAsTold_3 : decode cX0_buildAsTold 3 = .ok (.iconst (-1), 1) := by decide +kernel
theorem dX0_buildAsTold_4 : decode cX0_buildAsTold 4 = .ok (.invokevirtual 28, 3) := by decide +kernel
theorem dX0_buildAsTold_7 : decode cX0_buildAsTold 7 = .ok (.return_, 1) := by decide +kernel
theorem dX0_build_0 : decode cX0_build 0 = .ok (.iconst 0, 1) := by decide +kernel
theorem dX0_build_1 : decode cX0_build 1 = .ok (.istore 4, 2) := by decide +kernel
theorem dX0_build_3 : decode cX0_build 3 = .ok (.iload 4, 2) := by decide +kernel
theorem dX0_build_5 : decode cX0_build 5 = .ok (.aload_n 0, 1) := by decide +kernel
theorem dX0_build_6 : decode cX0_build 6 = .ok (.getfield 9, 3) := by decide +kernel
theorem dX0_build_9 : decode cX0_build 9 = .ok (.getfield 32, 3) := by decide +kernel
theorem dX0_build_12 : decode cX0_build 12 = .ok (.if_icmp .ge 119, 3) := by decide +kernel
theorem dX0_build_15 : decode cX0_build 15 = .ok (.aload_n 0, 1) := by decide +kernel
theorem dX0_build_16 : decode cX0_build 16 = .ok (.getfield 9, 3) := by decide +kernel
theorem dX0_build_19 : decode cX0_build 19 = .ok (.getfield 36, 3) := by decide +kernel
theorem dX0_build_22 : decode cX0_build 22 = .ok (.iload 4, 2) := by decide +kernel
theorem dX0_build_24 : decode cX0_build 24 = .ok (.iaload, 1) := by decide +kernel
theorem dX0_build_25 : decode cX0_build 25 = .ok (.istore 5, 2) := by decide +kernel
theorem dX0_build_27 : decode cX0_build 27 = .ok (.iload 4, 2) := by decide +kernel
theorem dX0_build_29 : decode cX0_build 29 = .ok (.iload_n 3, 1) := by decide +kernel
theorem dX0_build_30 : decode cX0_build 30 = .ok (.if_icmp .ne 13, 3) := by decide +kernel
theorem dX0_build_33 : decode cX0_build 33 = .ok (.iload 5, 2) := by decide +kernel
theorem dX0_build_35 : decode cX0_build 35 = .ok (.iconst 1, 1) := by decide +kernel
theorem dX0_build_36 : decode cX0_build 36 = .ok (.isub, 1) := by decide +kernel
theorem dX0_build_37 : decode cX0_build 37 = .ok (.iconst 1, 1) := by decide +kernel
theorem dX0_build_38 : decode cX0_build 38 = .ok (.invokestatic 39, 3) := by decide +kernel
theorem dX0_build_41 : decode cX0_build 41 = .ok (.istore 5, 2) := by decide +kernel
theorem dX0_build_43 : decode cX0_build 43 = .ok (.iconst 0, 1) := by decide +kernel
theorem dX0_build_44 : decode cX0_build 44 = .ok (.istore 6, 2) := by decide +kernel
theorem dX0_build_46 : decode cX0_build 46 = .ok (.iload 6, 2) := by decide +kernel
theorem dX0_build_48 : decode cX0_build 48 = .ok (.aload_n 0, 1) := by decide +kernel
theorem dX0_build_49 : decode cX0_build 49 = .ok (.getfield 9, 3) := by decide +kernel
theorem dX0_build_52 : decode cX0_build 52 = .ok (.getfield 32, 3) := by decide +kernel
theorem dX0_build_55 : decode cX0_build 55 = .ok (.if_icmp .ge 70, 3) := by decide +kernel
theorem dX0_build_58 : decode cX0_build 58 = .ok (.aload_n 0, 1) := by decide +kernel
theorem dX0_build_59 : decode cX0_build 59 = .ok (.getfield 17, 3) := by decide +kernel
theorem dX0_build_62 : decode cX0_build 62 = .ok (.iload 4, 2) := by decide +kernel
theorem dX0_build_64 : decode cX0_build 64 = .ok (.iconst 5, 1) := by decide +kernel
theorem dX0_build_65 : decode cX0_build 65 = .ok (.imul, 1) := by decide +kernel
theorem dX0_build_66 : decode cX0_build 66 = .ok (.iload 6, 2) := by decide +kernel
theorem dX0_build_68 : decode cX0_build 68 = .ok (.iadd, 1) := by decide +kernel
theorem dX0_build_69 : decode cX0_build 69 = .ok (.iload 4, 2) := by decide +kernel
theorem dX0_build_71 : decode cX0_build 71 = .ok (.iload 6, 2) := by decide +kernel
theorem dX0_build_73 : decode cX0_build 73 = .ok (.if_icmp .ne 25, 3) := by decide +kernel
theorem dX0_build_76 : decode cX0_build 76 = .ok (.ldc2_w 45, 3) := by decide +kernel
theorem dX0_build_79 : decode cX0_build 79 = .ok (.aload_n 0, 1) := by decide +kernel
theorem dX0_build_80 : decode cX0_build 80 = .ok (.getfield 9, 3) := by decide +kernel
theorem dX0_build_83 : decode cX0_build 83 = .ok (.iload 4, 2) := by decide +kernel
theorem dX0_build_85 : decode cX0_build 85 = .ok (.iload 4, 2) := by decide +kernel
theorem dX0_build_87 : decode cX0_build 87 = .ok (.invokevirtual 47, 3) := by decide +kernel
theorem dX0_build_90 : decode cX0_build 90 = .ok (.i2l, 1) := by decide +kernel
theorem dX0_build_91 : decode cX0_build 91 = .ok (.lmul, 1) := by decide +kernel
theorem dX0_build_92 : decode cX0_build 92 = .ok (.iload_n 1, 1) := by decide +kernel
theorem dX0_build_93 : decode cX0_build 93 = .ok (.i2l, 1) := by decide +kernel
theorem dX0_build_94 : decode cX0_build 94 = .ok (.lmul, 1) := by decide +kernel
theorem dX0_build_95 : decode cX0_build 95 = .ok (.goto 23, 3) := by decide +kernel
theorem dX0_build_98 : decode cX0_build 98 = .ok (.iload 5, 2) := by decide +kernel
theorem dX0_build_100 : decode cX0_build 100 = .ok (.i2l, 1) := by decide +kernel
theorem dX0_build_101 : decode cX0_build 101 = .ok (.lneg, 1) := by decide +kernel
theorem dX0_build_102 : decode cX0_build 102 = .ok (.iload_n 2, 1) := by decide +kernel
theorem dX0_build_103 : decode cX0_build 103 = .ok (.i2l, 1) := by decide +kernel
theorem dX0_build_104 : decode cX0_build 104 = .ok (.lmul, 1) := by decide +kernel
theorem dX0_build_105 : decode cX0_build 105 = .ok (.aload_n 0, 1) := by decide +kernel
theorem dX0_build_106 : decode cX0_build 106 = .ok (.getfield 9, 3) := by decide +kernel
theorem dX0_build_109 : decode cX0_build 109 = .ok (.iload 4, 2) := by decide +kernel
theorem dX0_build_111 : decode cX0_build 111 = .ok (.iload 6, 2) := by decide +kernel
theorem dX0_build_113 : decode cX0_build 113 = .ok (.invokevirtual 47, 3) := by decide +kernel
theorem dX0_build_116 : decode cX0_build 116 = .ok (.i2l, 1) := by decide +kernel
theorem dX0_build_117 : decode cX0_build 117 = .ok (.lmul, 1) := by decide +kernel
theorem dX0_build_118 : decode cX0_build 118 = .ok (.lastore, 1) := by decide +kernel
theorem dX0_build_119 : decode cX0_build 119 = .ok (.iinc 6 1, 3) := by decide +kernel
theorem dX0_build_122 : decode cX0_build 122 = .ok (.goto (-76), 3) := by decide +kernel
theorem dX0_build_125 : decode cX0_build 125 = .ok (.iinc 4 1, 3) := by decide +kernel
theorem dX0_build_128 : decode cX0_build 128 = .ok (.goto (-125), 3) := by decide +kernel
theorem dX0_build_131 : decode cX0_build 131 = .ok (.return_, 1) := by decide +kernel
theorem dX0_replaceColumnByNoise_0 : decode cX0_replaceColumnByNoise 0 = .ok (.iconst 0, 1) := by decide +kernel
theorem dX0_replaceColumnByNoise_1 : decode cX0_replaceColumnByNoise 1 = .ok (.istore_n 2, 1) := by decide +kernel
theorem dX0_replaceColumnByNoise_2 : decode cX0_replaceColumnByNoise 2 = .ok (.iload_n 2, 1) := by decide +kernel
theorem dX0_replaceColumnByNoise_3 : decode cX0_replaceColumnByNoise 3 = .ok (.aload_n 0, 1) := by decide +kernel
theorem dX0_replaceColumnByNoise_4 : decode cX0_replaceColumnByNoise 4 = .ok (.getfield 9, 3) := by decide +kernel
theorem dX0_replaceColumnByNoise_7 : decode cX0_replaceColumnByNoise 7 = .ok (.getfield 32, 3) := by decide +kernel
theorem dX0_replaceColumnByNoise_10 : decode cX0_replaceColumnByNoise 10 = .ok (.if_icmp .ge 40, 3) := by decide +kernel
theorem dX0_replaceColumnByNoise_13 : decode cX0_replaceColumnByNoise 13 = .ok (.aload_n 0, 1) := by decide +kernel
theorem dX0_replaceColumnByNoise_14 : decode cX0_replaceColumnByNoise 14 = .ok (.getfield 17, 3) := by decide +kernel
theorem dX0_replaceColumnByNoise_17 : decode cX0_replaceColumnByNoise 17 = .ok (.iload_n 2, 1) := by decide +kernel
theorem dX0_replaceColumnByNoise_18 : decode cX0_replaceColumnByNoise 18 = .ok (.iconst 5, 1) := by decide +kernel
theorem dX0_replaceColumnByNoise_19 : decode cX0_replaceColumnByNoise 19 = .ok (.imul, 1) := by decide +kernel
theorem dX0_replaceColumnByNoise_20 : decode cX0_replaceColumnByNoise 20 = .ok (.iload_n 1, 1) := by decide +kernel
theorem dX0_replaceColumnByNoise_21 : decode cX0_replaceColumnByNoise 21 = .ok (.iadd, 1) := by decide +kernel
theorem dX0_replaceColumnByNoise_22 : decode cX0_replaceColumnByNoise 22 = .ok (.aload_n 0, 1) := by decide +kernel
theorem dX0_replaceColumnByNoise_23 : decode cX0_replaceColumnByNoise 23 = .ok (.getfield 9, 3) := by decide +kernel
theorem dX0_replaceColumnByNoise_26 : decode cX0_replaceColumnByNoise 26 = .ok (.getfield 36, 3) := by decide +kernel
theorem dX0_replaceColumnByNoise_29 : decode cX0_replaceColumnByNoise 29 = .ok (.iload_n 2, 1) := by decide +kernel
theorem dX0_replaceColumnByNoise_30 : decode cX0_replaceColumnByNoise 30 = .ok (.iaload, 1) := by decide +kernel
theorem dX0_replaceColumnByNoise_31 : decode cX0_replaceColumnByNoise 31 = .ok (.i2l, 1) := by decide +kernel
theorem dX0_replaceColumnByNoise_32 : decode cX0_replaceColumnByNoise 32 = .ok (.aload_n 0, 1) := by decide +kernel
theorem dX0_replaceColumnByNoise_33 : decode cX0_replaceColumnByNoise 33 = .ok (.getfield 9, 3) := by decide +kernel
theorem dX0_replaceColumnByNoise_36 : decode cX0_replaceColumnByNoise 36 = .ok (.getfield 50, 3) := by decide +kernel
theorem dX0_replaceColumnByNoise_39 : decode cX0_replaceColumnByNoise 39 = .ok (.iload_n 2, 1) := by decide +kernel
theorem dX0_replaceColumnByNoise_40 : decode cX0_replaceColumnByNoise 40 = .ok (.iaload, 1) := by decide +kernel
theorem dX0_replaceColumnByNoise_41 : decode cX0_replaceColumnByNoise 41 = .ok (.i2l, 1) := by decide +kernel
theorem dX0_replaceColumnByNoise_42 : decode cX0_replaceColumnByNoise 42 = .ok (.lmul, 1) := by decide +kernel
theorem dX0_replaceColumnByNoise_43 : decode cX0_replaceColumnByNoise 43 = .ok (.lastore, 1) := by decide +kernel
theorem dX0_replaceColumnByNoise_44 : decode cX0_replaceColumnByNoise 44 = .ok (.iinc 2 1, 3) := by decide +kernel
theorem dX0_replaceColumnByNoise_47 : decode cX0_replaceColumnByNoise 47 = .ok (.goto (-45), 3) := by decide +kernel
theorem dX0_replaceColumnByNoise_50 : decode cX0_replaceColumnByNoise 50 = .ok (.return_, 1) := by decide +kernel
theorem dX0_minorOf_0 : decode cX0_minorOf 0 = .ok (.aload_n 0, 1) := by decide +kernel
theorem dX0_minorOf_1 : decode cX0_minorOf 1 = .ok (.getfield 21, 3) := by decide +kernel
theorem dX0_minorOf_4 : decode cX0_minorOf 4 = .ok (.iconst 1, 1) := by decide +kernel
theorem dX0_minorOf_5 : decode cX0_minorOf 5 = .ok (.aload_n 0, 1) := by decide +kernel
theorem dX0_minorOf_6 : decode cX0_minorOf 6 = .ok (.iload_n 1, 1) := by decide +kernel
theorem dX0_minorOf_7 : decode cX0_minorOf 7 = .ok (.invokevirtual 53, 3) := by decide +kernel
theorem dX0_minorOf_10 : decode cX0_minorOf 10 = .ok (.ishl, 1) := by decide +kernel
theorem dX0_minorOf_11 : decode cX0_minorOf 11 = .ok (.iconst 1, 1) := by decide +kernel
theorem dX0_minorOf_12 : decode cX0_minorOf 12 = .ok (.isub, 1) := by decide +kernel
theorem dX0_minorOf_13 : decode cX0_minorOf 13 = .ok (.laload, 1) := by decide +kernel
theorem dX0_minorOf_14 : decode cX0_minorOf 14 = .ok (.lreturn, 1) := by decide +kernel
theorem dX0_holdFor_0 : decode cX0_holdFor 0 = .ok (.aload_n 0, 1) := by decide +kernel
theorem dX0_holdFor_1 : decode cX0_holdFor 1 = .ok (.iload_n 1, 1) := by decide +kernel
theorem dX0_holdFor_2 : decode cX0_holdFor 2 = .ok (.invokevirtual 53, 3) := by decide +kernel
theorem dX0_holdFor_5 : decode cX0_holdFor 5 = .ok (.istore_n 2, 1) := by decide +kernel
theorem dX0_holdFor_6 : decode cX0_holdFor 6 = .ok (.iconst 1, 1) := by decide +kernel
theorem dX0_holdFor_7 : decode cX0_holdFor 7 = .ok (.istore_n 3, 1) := by decide +kernel
theorem dX0_holdFor_8 : decode cX0_holdFor 8 = .ok (.iload_n 3, 1) := by decide +kernel
theorem dX0_holdFor_9 : decode cX0_holdFor 9 = .ok (.iload_n 2, 1) := by decide +kernel
theorem dX0_holdFor_10 : decode cX0_holdFor 10 = .ok (.if_icmp .gt 26, 3) := by decide +kernel
theorem dX0_holdFor_13 : decode cX0_holdFor 13 = .ok (.aload_n 0, 1) := by decide +kernel
theorem dX0_holdFor_14 : decode cX0_holdFor 14 = .ok (.getfield 21, 3) := by decide +kernel
theorem dX0_holdFor_17 : decode cX0_holdFor 17 = .ok (.iconst 1, 1) := by decide +kernel
theorem dX0_holdFor_18 : decode cX0_holdFor 18 = .ok (.iload_n 3, 1) := by decide +kernel
theorem dX0_holdFor_19 : decode cX0_holdFor 19 = .ok (.ishl, 1) := by decide +kernel
theorem dX0_holdFor_20 : decode cX0_holdFor 20 = .ok (.iconst 1, 1) := by decide +kernel
theorem dX0_holdFor_21 : decode cX0_holdFor 21 = .ok (.isub, 1) := by decide +kernel
theorem dX0_holdFor_22 : decode cX0_holdFor 22 = .ok (.laload, 1) := by decide +kernel
theorem dX0_holdFor_23 : decode cX0_holdFor 23 = .ok (.lconst 0, 1) := by decide +kernel
theorem dX0_holdFor_24 : decode cX0_holdFor 24 = .ok (.lcmp, 1) := by decide +kernel
theorem dX0_holdFor_25 : decode cX0_holdFor 25 = .ok (.ifCond .gt 5, 3) := by decide +kernel
theorem dX0_holdFor_28 : decode cX0_holdFor 28 = .ok (.iconst 0, 1) := by decide +kernel
theorem dX0_holdFor_29 : decode cX0_holdFor 29 = .ok (.ireturn, 1) := by decide +kernel
theorem dX0_holdFor_30 : decode cX0_holdFor 30 = .ok (.iinc 3 1, 3) := by decide +kernel
theorem dX0_holdFor_33 : decode cX0_holdFor 33 = .ok (.goto (-25), 3) := by decide +kernel
theorem dX0_holdFor_36 : decode cX0_holdFor 36 = .ok (.iconst 1, 1) := by decide +kernel
theorem dX0_holdFor_37 : decode cX0_holdFor 37 = .ok (.ireturn, 1) := by decide +kernel
theorem dX0_expand_0 : decode cX0_expand 0 = .ok (.aload_n 0, 1) := by decide +kernel
theorem dX0_expand_1 : decode cX0_expand 1 = .ok (.iload_n 1, 1) := by decide +kernel
theorem dX0_expand_2 : decode cX0_expand 2 = .ok (.invokevirtual 57, 3) := by decide +kernel
theorem dX0_expand_5 : decode cX0_expand 5 = .ok (.istore_n 2, 1) := by decide +kernel
theorem dX0_expand_6 : decode cX0_expand 6 = .ok (.aload_n 0, 1) := by decide +kernel
theorem dX0_expand_7 : decode cX0_expand 7 = .ok (.getfield 21, 3) := by decide +kernel
theorem dX0_expand_10 : decode cX0_expand 10 = .ok (.iconst 0, 1) := by decide +kernel
theorem dX0_expand_11 : decode cX0_expand 11 = .ok (.lconst 1, 1) := by decide +kernel
theorem dX0_expand_12 : decode cX0_expand 12 = .ok (.lastore, 1) := by decide +kernel
theorem dX0_expand_13 : decode cX0_expand 13 = .ok (.iconst 1, 1) := by decide +kernel
theorem dX0_expand_14 : decode cX0_expand 14 = .ok (.istore_n 3, 1) := by decide +kernel
theorem dX0_expand_15 : decode cX0_expand 15 = .ok (.iload_n 3, 1) := by decide +kernel
theorem dX0_expand_16 : decode cX0_expand 16 = .ok (.iconst 1, 1) := by decide +kernel
theorem dX0_expand_17 : decode cX0_expand 17 = .ok (.iload_n 2, 1) := by decide +kernel
theorem dX0_expand_18 : decode cX0_expand 18 = .ok (.ishl, 1) := by decide +kernel
theorem dX0_expand_19 : decode cX0_expand 19 = .ok (.if_icmp .ge 32, 3) := by decide +kernel
theorem dX0_expand_22 : decode cX0_expand 22 = .ok (.aload_n 0, 1) := by decide +kernel
theorem dX0_expand_23 : decode cX0_expand 23 = .ok (.getfield 21, 3) := by decide +kernel
theorem dX0_expand_26 : decode cX0_expand 26 = .ok (.iload_n 3, 1) := by decide +kernel
theorem dX0_expand_27 : decode cX0_expand 27 = .ok (.aload_n 0, 1) := by decide +kernel
theorem dX0_expand_28 : decode cX0_expand 28 = .ok (.aload_n 0, 1) := by decide +kernel
theorem dX0_expand_29 : decode cX0_expand 29 = .ok (.getfield 24, 3) := by decide +kernel
theorem dX0_expand_32 : decode cX0_expand 32 = .ok (.iload_n 3, 1) := by decide +kernel
theorem dX0_expand_33 : decode cX0_expand 33 = .ok (.invokestatic 60, 3) := by decide +kernel
theorem dX0_expand_36 : decode cX0_expand 36 = .ok (.iconst 1, 1) := by decide +kernel
theorem dX0_expand_37 : decode cX0_expand 37 = .ok (.isub, 1) := by decide +kernel
theorem dX0_expand_38 : decode cX0_expand 38 = .ok (.iaload, 1) := by decide +kernel
theorem dX0_expand_39 : decode cX0_expand 39 = .ok (.iload_n 3, 1) := by decide +kernel
theorem dX0_expand_40 : decode cX0_expand 40 = .ok (.iload_n 2, 1) := by decide +kernel
theorem dX0_expand_41 : decode cX0_expand 41 = .ok (.invokevirtual 65, 3) := by decide +kernel
theorem dX0_expand_44 : decode cX0_expand 44 = .ok (.lastore, 1) := by decide +kernel
theorem dX0_expand_45 : decode cX0_expand 45 = .ok (.iinc 3 1, 3) := by decide +kernel
theorem dX0_expand_48 : decode cX0_expand 48 = .ok (.goto (-33), 3) := by decide +kernel
theorem dX0_expand_51 : decode cX0_expand 51 = .ok (.iload_n 2, 1) := by decide +kernel
theorem dX0_expand_52 : decode cX0_expand 52 = .ok (.ireturn, 1) := by decide +kernel
theorem dX0_expandRow_0 : decode cX0_expandRow 0 = .ok (.lconst 0, 1) := by decide +kernel
theorem dX0_expandRow_1 : decode cX0_expandRow 1 = .ok (.lstore 4, 2) := by decide +kernel
theorem dX0_expandRow_3 : decode cX0_expandRow 3 = .ok (.lconst 1, 1) := by decide +kernel
theorem dX0_expandRow_4 : decode cX0_expandRow 4 = .ok (.lstore 6, 2) := by decide +kernel
theorem dX0_expandRow_6 : decode cX0_expandRow 6 = .ok (.iload_n 3, 1) := by decide +kernel
theorem dX0_expandRow_7 : decode cX0_expandRow 7 = .ok (.iconst 1, 1) := by decide +kernel
theorem dX0_expandRow_8 : decode cX0_expandRow 8 = .ok (.isub, 1) := by decide +kernel
theorem dX0_expandRow_9 : decode cX0_expandRow 9 = .ok (.istore 8, 2) := by decide +kernel
theorem dX0_expandRow_11 : decode cX0_expandRow 11 = .ok (.iload 8, 2) := by decide +kernel
theorem dX0_expandRow_13 : decode cX0_expandRow 13 = .ok (.ifCond .lt 60, 3) := by decide +kernel
theorem dX0_expandRow_16 : decode cX0_expandRow 16 = .ok (.iload_n 2, 1) := by decide +kernel
theorem dX0_expandRow_17 : decode cX0_expandRow 17 = .ok (.iload 8, 2) := by decide +kernel
theorem dX0_expandRow_19 : decode cX0_expandRow 19 = .ok (.ishr, 1) := by decide +kernel
theorem dX0_expandRow_20 : decode cX0_expandRow 20 = .ok (.iconst 1, 1) := by decide +kernel
theorem dX0_expandRow_21 : decode cX0_expandRow 21 = .ok (.iand, 1) := by decide +kernel
theorem dX0_expandRow_22 : decode cX0_expandRow 22 = .ok (.iconst 1, 1) := by decide +kernel
theorem dX0_expandRow_23 : decode cX0_expandRow 23 = .ok (.if_icmp .ne 44, 3) := by decide +kernel
theorem dX0_expandRow_26 : decode cX0_expandRow 26 = .ok (.lload 4, 2) := by decide +kernel
theorem dX0_expandRow_28 : decode cX0_expandRow 28 = .ok (.lload 6, 2) := by decide +kernel
theorem dX0_expandRow_30 : decode cX0_expandRow 30 = .ok (.aload_n 0, 1) := by decide +kernel
theorem dX0_expandRow_31 : decode cX0_expandRow 31 = .ok (.getfield 17, 3) := by decide +kernel
theorem dX0_expandRow_34 : decode cX0_expandRow 34 = .ok (.iload_n 1, 1) := by decide +kernel
theorem dX0_expandRow_35 : decode cX0_expandRow 35 = .ok (.iconst 5, 1) := by decide +kernel
theorem dX0_expandRow_36 : decode cX0_expandRow 36 = .ok (.imul, 1) := by decide +kernel
theorem dX0_expandRow_37 : decode cX0_expandRow 37 = .ok (.aload_n 0, 1) := by decide +kernel
theorem dX0_expandRow_38 : decode cX0_expandRow 38 = .ok (.getfield 24, 3) := by decide +kernel
theorem dX0_expandRow_41 : decode cX0_expandRow 41 = .ok (.iload 8, 2) := by decide +kernel
theorem dX0_expandRow_43 : decode cX0_expandRow 43 = .ok (.iaload, 1) := by decide +kernel
theorem dX0_expandRow_44 : decode cX0_expandRow 44 = .ok (.iadd, 1) := by decide +kernel
theorem dX0_expandRow_45 : decode cX0_expandRow 45 = .ok (.laload, 1) := by decide +kernel
theorem dX0_expandRow_46 : decode cX0_expandRow 46 = .ok (.lmul, 1) := by decide +kernel
theorem dX0_expandRow_47 : decode cX0_expandRow 47 = .ok (.aload_n 0, 1) := by decide +kernel
theorem dX0_expandRow_48 : decode cX0_expandRow 48 = .ok (.getfield 21, 3) := by decide +kernel
theorem dX0_expandRow_51 : decode cX0_expandRow 51 = .ok (.iload_n 2, 1) := by decide +kernel
theorem dX0_expandRow_52 : decode cX0_expandRow 52 = .ok (.iconst 1, 1) := by decide +kernel
theorem dX0_expandRow_53 : decode cX0_expandRow 53 = .ok (.iload 8, 2) := by decide +kernel
theorem dX0_expandRow_55 : decode cX0_expandRow 55 = .ok (.ishl, 1) := by decide +kernel
theorem dX0_expandRow_56 : decode cX0_expandRow 56 = .ok (.ixor, 1) := by decide +kernel
theorem dX0_expandRow_57 : decode cX0_expandRow 57 = .ok (.laload, 1) := by decide +kernel
theorem dX0_expandRow_58 : decode cX0_expandRow 58 = .ok (.lmul, 1) := by decide +kernel
theorem dX0_expandRow_59 : decode cX0_expandRow 59 = .ok (.ladd, 1) := by decide +kernel
theorem dX0_expandRow_60 : decode cX0_expandRow 60 = .ok (.lstore 4, 2) := by decide +kernel
theorem dX0_expandRow_62 : decode cX0_expandRow 62 = .ok (.lload 6, 2) := by decide +kernel
theorem dX0_expandRow_64 : decode cX0_expandRow 64 = .ok (.lneg, 1) := by decide +kernel
theorem dX0_expandRow_65 : decode cX0_expandRow 65 = .ok (.lstore 6, 2) := by decide +kernel
theorem dX0_expandRow_67 : decode cX0_expandRow 67 = .ok (.iinc 8 (-1), 3) := by decide +kernel
theorem dX0_expandRow_70 : decode cX0_expandRow 70 = .ok (.goto (-59), 3) := by decide +kernel
theorem dX0_expandRow_73 : decode cX0_expandRow 73 = .ok (.lload 4, 2) := by decide +kernel
theorem dX0_expandRow_75 : decode cX0_expandRow 75 = .ok (.lreturn, 1) := by decide +kernel
theorem dX0_listMembers_0 : decode cX0_listMembers 0 = .ok (.iconst 0, 1) := by decide +kernel
theorem dX0_listMembers_1 : decode cX0_listMembers 1 = .ok (.istore_n 2, 1) := by decide +kernel
theorem dX0_listMembers_2 : decode cX0_listMembers 2 = .ok (.iconst 0, 1) := by decide +kernel
theorem dX0_listMembers_3 : decode cX0_listMembers 3 = .ok (.istore_n 3, 1) := by decide +kernel
theorem dX0_listMembers_4 : decode cX0_listMembers 4 = .ok (.iload_n 3, 1) := by decide +kernel
theorem dX0_listMembers_5 : decode cX0_listMembers 5 = .ok (.aload_n 0, 1) := by decide +kernel
theorem dX0_listMembers_6 : decode cX0_listMembers 6 = .ok (.getfield 9, 3) := by decide +kernel
theorem dX0_listMembers_9 : decode cX0_listMembers 9 = .ok (.getfield 32, 3) := by decide +kernel
theorem dX0_listMembers_12 : decode cX0_listMembers 12 = .ok (.if_icmp .ge 28, 3) := by decide +kernel
theorem dX0_listMembers_15 : decode cX0_listMembers 15 = .ok (.iload_n 1, 1) := by decide +kernel
theorem dX0_listMembers_16 : decode cX0_listMembers 16 = .ok (.iload_n 3, 1) := by decide +kernel
theorem dX0_listMembers_17 : decode cX0_listMembers 17 = .ok (.ishr, 1) := by decide +kernel
theorem dX0_listMembers_18 : decode cX0_listMembers 18 = .ok (.iconst 1, 1) := by decide +kernel
theorem dX0_listMembers_19 : decode cX0_listMembers 19 = .ok (.iand, 1) := by decide +kernel
theorem dX0_listMembers_20 : decode cX0_listMembers 20 = .ok (.iconst 1, 1) := by decide +kernel
theorem dX0_listMembers_21 : decode cX0_listMembers 21 = .ok (.if_icmp .ne 13, 3) := by decide +kernel
theorem dX0_listMembers_24 : decode cX0_listMembers 24 = .ok (.aload_n 0, 1) := by decide +kernel
theorem dX0_listMembers_25 : decode cX0_listMembers 25 = .ok (.getfield 24, 3) := by decide +kernel
theorem dX0_listMembers_28 : decode cX0_listMembers 28 = .ok (.iload_n 2, 1) := by decide +kernel
theorem dX0_listMembers_29 : decode cX0_listMembers 29 = .ok (.iload_n 3, 1) := by decide +kernel
theorem dX0_listMembers_30 : decode cX0_listMembers 30 = .ok (.iastore, 1) := by decide +kernel
theorem dX0_listMembers_31 : decode cX0_listMembers 31 = .ok (.iinc 2 1, 3) := by decide +kernel
theorem dX0_listMembers_34 : decode cX0_listMembers 34 = .ok (.iinc 3 1, 3) := by decide +kernel
theorem dX0_listMembers_37 : decode cX0_listMembers 37 = .ok (.goto (-33), 3) := by decide +kernel
theorem dX0_listMembers_40 : decode cX0_listMembers 40 = .ok (.iload_n 2, 1) := by decide +kernel
theorem dX0_listMembers_41 : decode cX0_listMembers 41 = .ok (.ireturn, 1) := by decide +kernel
theorem dX0_fewestTooMany_0 : decode cX0_fewestTooMany 0 = .ok (.iconst 0, 1) := by decide +kernel
theorem dX0_fewestTooMany_1 : decode cX0_fewestTooMany 1 = .ok (.istore_n 2, 1) := by decide +kernel
theorem dX0_fewestTooMany_2 : decode cX0_fewestTooMany 2 = .ok (.bipush 6, 2) := by decide +kernel
theorem dX0_fewestTooMany_4 : decode cX0_fewestTooMany 4 = .ok (.istore_n 3, 1) := by decide +kernel
theorem dX0_fewestTooMany_5 : decode cX0_fewestTooMany 5 = .ok (.iconst 1, 1) := by decide +kernel
theorem dX0_fewestTooMany_6 : decode cX0_fewestTooMany 6 = .ok (.istore 4, 2) := by decide +kernel
theorem dX0_fewestTooMany_8 : decode cX0_fewestTooMany 8 = .ok (.iload 4, 2) := by decide +kernel
theorem dX0_fewestTooMany_10 : decode cX0_fewestTooMany 10 = .ok (.iload_n 1, 1) := by decide +kernel
theorem dX0_fewestTooMany_11 : decode cX0_fewestTooMany 11 = .ok (.if_icmp .gt 46, 3) := by decide +kernel
theorem dX0_fewestTooMany_14 : decode cX0_fewestTooMany 14 = .ok (.iload 4, 2) := by decide +kernel
theorem dX0_fewestTooMany_16 : decode cX0_fewestTooMany 16 = .ok (.invokestatic 60, 3) := by decide +kernel
theorem dX0_fewestTooMany_19 : decode cX0_fewestTooMany 19 = .ok (.istore 5, 2) := by decide +kernel
theorem dX0_fewestTooMany_21 : decode cX0_fewestTooMany 21 = .ok (.iload 4, 2) := by decide +kernel
theorem dX0_fewestTooMany_23 : decode cX0_fewestTooMany 23 = .ok (.iload_n 1, 1) := by decide +kernel
theorem dX0_fewestTooMany_24 : decode cX0_fewestTooMany 24 = .ok (.iconst (-1), 1) := by decide +kernel
theorem dX0_fewestTooMany_25 : decode cX0_fewestTooMany 25 = .ok (.ixor, 1) := by decide +kernel
theorem dX0_fewestTooMany_26 : decode cX0_fewestTooMany 26 = .ok (.iand, 1) := by decide +kernel
theorem dX0_fewestTooMany_27 : decode cX0_fewestTooMany 27 = .ok (.ifCond .ne 24, 3) := by decide +kernel
theorem dX0_fewestTooMany_30 : decode cX0_fewestTooMany 30 = .ok (.iload 5, 2) := by decide +kernel
theorem dX0_fewestTooMany_32 : decode cX0_fewestTooMany 32 = .ok (.iload_n 3, 1) := by decide +kernel
theorem dX0_fewestTooMany_33 : decode cX0_fewestTooMany 33 = .ok (.if_icmp .ge 18, 3) := by decide +kernel
theorem dX0_fewestTooMany_36 : decode cX0_fewestTooMany 36 = .ok (.aload_n 0, 1) := by decide +kernel
theorem dX0_fewestTooMany_37 : decode cX0_fewestTooMany 37 = .ok (.iload 4, 2) := by decide +kernel
theorem dX0_fewestTooMany_39 : decode cX0_fewestTooMany 39 = .ok (.invokevirtual 69, 3) := by decide +kernel
theorem dX0_fewestTooMany_42 : decode cX0_fewestTooMany 42 = .ok (.ifCond .ne 9, 3) := by decide +kernel
theorem dX0_fewestTooMany_45 : decode cX0_fewestTooMany 45 = .ok (.iload 4, 2) := by decide +kernel
theorem dX0_fewestTooMany_47 : decode cX0_fewestTooMany 47 = .ok (.istore_n 2, 1) := by decide +kernel
theorem dX0_fewestTooMany_48 : decode cX0_fewestTooMany 48 = .ok (.iload 5, 2) := by decide +kernel
theorem dX0_fewestTooMany_50 : decode cX0_fewestTooMany 50 = .ok (.istore_n 3, 1) := by decide +kernel
theorem dX0_fewestTooMany_51 : decode cX0_fewestTooMany 51 = .ok (.iinc 4 1, 3) := by decide +kernel
theorem dX0_fewestTooMany_54 : decode cX0_fewestTooMany 54 = .ok (.goto (-46), 3) := by decide +kernel
theorem dX0_fewestTooMany_57 : decode cX0_fewestTooMany 57 = .ok (.iload_n 2, 1) := by decide +kernel
theorem dX0_fewestTooMany_58 : decode cX0_fewestTooMany 58 = .ok (.ireturn, 1) := by decide +kernel
theorem dX0_fewestToLeave_0 : decode cX0_fewestToLeave 0 = .ok (.iload_n 1, 1) := by decide +kernel
theorem dX0_fewestToLeave_1 : decode cX0_fewestToLeave 1 = .ok (.istore_n 2, 1) := by decide +kernel
theorem dX0_fewestToLeave_2 : decode cX0_fewestToLeave 2 = .ok (.iconst 0, 1) := by decide +kernel
theorem dX0_fewestToLeave_3 : decode cX0_fewestToLeave 3 = .ok (.istore_n 3, 1) := by decide +kernel
theorem dX0_fewestToLeave_4 : decode cX0_fewestToLeave 4 = .ok (.iload_n 3, 1) := by decide +kernel
theorem dX0_fewestToLeave_5 : decode cX0_fewestToLeave 5 = .ok (.iload_n 1, 1) := by decide +kernel
theorem dX0_fewestToLeave_6 : decode cX0_fewestToLeave 6 = .ok (.if_icmp .ge 54, 3) := by decide +kernel
theorem dX0_fewestToLeave_9 : decode cX0_fewestToLeave 9 = .ok (.iload_n 3, 1) := by decide +kernel
theorem dX0_fewestToLeave_10 : decode cX0_fewestToLeave 10 = .ok (.invokestatic 60, 3) := by decide +kernel
theorem dX0_fewestToLeave_13 : decode cX0_fewestToLeave 13 = .ok (.iload_n 2, 1) := by decide +kernel
theorem dX0_fewestToLeave_14 : decode cX0_fewestToLeave 14 = .ok (.invokestatic 60, 3) := by decide +kernel
theorem dX0_fewestToLeave_17 : decode cX0_fewestToLeave 17 = .ok (.if_icmp .ge 7, 3) := by decide +kernel
theorem dX0_fewestToLeave_20 : decode cX0_fewestToLeave 20 = .ok (.iconst 1, 1) := by decide +kernel
theorem dX0_fewestToLeave_21 : decode cX0_fewestToLeave 21 = .ok (.goto 4, 3) := by decide +kernel
theorem dX0_fewestToLeave_24 : decode cX0_fewestToLeave 24 = .ok (.iconst 0, 1) := by decide +kernel
theorem dX0_fewestToLeave_25 : decode cX0_fewestToLeave 25 = .ok (.istore 4, 2) := by decide +kernel
theorem dX0_fewestToLeave_27 : decode cX0_fewestToLeave 27 = .ok (.iload_n 3, 1) := by decide +kernel
theorem dX0_fewestToLeave_28 : decode cX0_fewestToLeave 28 = .ok (.iload_n 1, 1) := by decide +kernel
theorem dX0_fewestToLeave_29 : decode cX0_fewestToLeave 29 = .ok (.iconst (-1), 1) := by decide +kernel
theorem dX0_fewestToLeave_30 : decode cX0_fewestToLeave 30 = .ok (.ixor, 1) := by decide +kernel
theorem dX0_fewestToLeave_31 : decode cX0_fewestToLeave 31 = .ok (.iand, 1) := by decide +kernel
theorem dX0_fewestToLeave_32 : decode cX0_fewestToLeave 32 = .ok (.ifCond .ne 22, 3) := by decide +kernel
theorem dX0_fewestToLeave_35 : decode cX0_fewestToLeave 35 = .ok (.iload 4, 2) := by decide +kernel
theorem dX0_fewestToLeave_37 : decode cX0_fewestToLeave 37 = .ok (.ifCond .eq 17, 3) := by decide +kernel
theorem dX0_fewestToLeave_40 : decode cX0_fewestToLeave 40 = .ok (.aload_n 0, 1) := by decide +kernel
theorem dX0_fewestToLeave_41 : decode cX0_fewestToLeave 41 = .ok (.iload_n 1, 1) := by decide +kernel
theorem dX0_fewestToLeave_42 : decode cX0_fewestToLeave 42 = .ok (.iload_n 3, 1) := by decide +kernel
theorem dX0_fewestToLeave_43 : decode cX0_fewestToLeave 43 = .ok (.iconst (-1), 1) := by decide +kernel
theorem dX0_fewestToLeave_44 : decode cX0_fewestToLeave 44 = .ok (.ixor, 1) := by decide +kernel
theorem dX0_fewestToLeave_45 : decode cX0_fewestToLeave 45 = .ok (.iand, 1) := by decide +kernel
theorem dX0_fewestToLeave_46 : decode cX0_fewestToLeave 46 = .ok (.invokevirtual 69, 3) := by decide +kernel
theorem dX0_fewestToLeave_49 : decode cX0_fewestToLeave 49 = .ok (.ifCond .eq 5, 3) := by decide +kernel
theorem dX0_fewestToLeave_52 : decode cX0_fewestToLeave 52 = .ok (.iload_n 3, 1) := by decide +kernel
theorem dX0_fewestToLeave_53 : decode cX0_fewestToLeave 53 = .ok (.istore_n 2, 1) := by decide +kernel
theorem dX0_fewestToLeave_54 : decode cX0_fewestToLeave 54 = .ok (.iinc 3 1, 3) := by decide +kernel
theorem dX0_fewestToLeave_57 : decode cX0_fewestToLeave 57 = .ok (.goto (-53), 3) := by decide +kernel
theorem dX0_fewestToLeave_60 : decode cX0_fewestToLeave 60 = .ok (.iload_n 2, 1) := by decide +kernel
theorem dX0_fewestToLeave_61 : decode cX0_fewestToLeave 61 = .ok (.ireturn, 1) := by decide +kernel
theorem dX0_comeIn_0 : decode cX0_comeIn 0 = .ok (.iconst 0, 1) := by decide +kernel
theorem dX0_comeIn_1 : decode cX0_comeIn 1 = .ok (.istore_n 2, 1) := by decide +kernel
theorem dX0_comeIn_2 : decode cX0_comeIn 2 = .ok (.iconst 0, 1) := by decide +kernel
theorem dX0_comeIn_3 : decode cX0_comeIn 3 = .ok (.istore_n 3, 1) := by decide +kernel
theorem dX0_comeIn_4 : decode cX0_comeIn 4 = .ok (.iload_n 3, 1) := by decide +kernel
theorem dX0_comeIn_5 : decode cX0_comeIn 5 = .ok (.aload_n 0, 1) := by decide +kernel
theorem dX0_comeIn_6 : decode cX0_comeIn 6 = .ok (.getfield 9, 3) := by decide +kernel
theorem dX0_comeIn_9 : decode cX0_comeIn 9 = .ok (.getfield 32, 3) := by decide +kernel
theorem dX0_comeIn_12 : decode cX0_comeIn 12 = .ok (.if_icmp .ge 37, 3) := by decide +kernel
theorem dX0_comeIn_15 : decode cX0_comeIn 15 = .ok (.iload_n 2, 1) := by decide +kernel
theorem dX0_comeIn_16 : decode cX0_comeIn 16 = .ok (.iconst 1, 1) := by decide +kernel
theorem dX0_comeIn_17 : decode cX0_comeIn 17 = .ok (.iload_n 3, 1) := by decide +kernel
theorem dX0_comeIn_18 : decode cX0_comeIn 18 = .ok (.ishl, 1) := by decide +kernel
theorem dX0_comeIn_19 : decode cX0_comeIn 19 = .ok (.ior, 1) := by decide +kernel
theorem dX0_comeIn_20 : decode cX0_comeIn 20 = .ok (.istore 4, 2) := by decide +kernel
theorem dX0_comeIn_22 : decode cX0_comeIn 22 = .ok (.iload_n 1, 1) := by decide +kernel
theorem dX0_comeIn_23 : decode cX0_comeIn 23 = .ok (.iload_n 3, 1) := by decide +kernel
theorem dX0_comeIn_24 : decode cX0_comeIn 24 = .ok (.ishr, 1) := by decide +kernel
theorem dX0_comeIn_25 : decode cX0_comeIn 25 = .ok (.iconst 1, 1) := by decide +kernel
theorem dX0_comeIn_26 : decode cX0_comeIn 26 = .ok (.iand, 1) := by decide +kernel
theorem dX0_comeIn_27 : decode cX0_comeIn 27 = .ok (.iconst 1, 1) := by decide +kernel
theorem dX0_comeIn_28 : decode cX0_comeIn 28 = .ok (.if_icmp .ne 15, 3) := by decide +kernel
theorem dX0_comeIn_31 : decode cX0_comeIn 31 = .ok (.aload_n 0, 1) := by decide +kernel
theorem dX0_comeIn_32 : decode cX0_comeIn 32 = .ok (.iload 4, 2) := by decide +kernel
theorem dX0_comeIn_34 : decode cX0_comeIn 34 = .ok (.invokevirtual 69, 3) := by decide +kernel
theorem dX0_comeIn_37 : decode cX0_comeIn 37 = .ok (.ifCond .eq 6, 3) := by decide +kernel
theorem dX0_comeIn_40 : decode cX0_comeIn 40 = .ok (.iload 4, 2) := by decide +kernel
theorem dX0_comeIn_42 : decode cX0_comeIn 42 = .ok (.istore_n 2, 1) := by decide +kernel
theorem dX0_comeIn_43 : decode cX0_comeIn 43 = .ok (.iinc 3 1, 3) := by decide +kernel
theorem dX0_comeIn_46 : decode cX0_comeIn 46 = .ok (.goto (-42), 3) := by decide +kernel
theorem dX0_comeIn_49 : decode cX0_comeIn 49 = .ok (.iload_n 2, 1) := by decide +kernel
theorem dX0_comeIn_50 : decode cX0_comeIn 50 = .ok (.ireturn, 1) := by decide +kernel
theorem dX0_whoseWishLess_0 : decode cX0_whoseWishLess 0 = .ok (.aload_n 0, 1) := by decide +kernel
theorem dX0_whoseWishLess_1 : decode cX0_whoseWishLess 1 = .ok (.invokevirtual 73, 3) := by decide +kernel
theorem dX0_whoseWishLess_4 : decode cX0_whoseWishLess 4 = .ok (.aload_n 0, 1) := by decide +kernel
theorem dX0_whoseWishLess_5 : decode cX0_whoseWishLess 5 = .ok (.iload_n 1, 1) := by decide +kernel
theorem dX0_whoseWishLess_6 : decode cX0_whoseWishLess 6 = .ok (.invokevirtual 69, 3) := by decide +kernel
theorem dX0_whoseWishLess_9 : decode cX0_whoseWishLess 9 = .ok (.ifCond .eq 5, 3) := by decide +kernel
theorem dX0_whoseWishLess_12 : decode cX0_whoseWishLess 12 = .ok (.iconst (-1), 1) := by decide +kernel
theorem dX0_whoseWishLess_13 : decode cX0_whoseWishLess 13 = .ok (.ireturn, 1) := by decide +kernel
theorem dX0_whoseWishLess_14 : decode cX0_whoseWishLess 14 = .ok (.iconst 0, 1) := by decide +kernel
theorem dX0_whoseWishLess_15 : decode cX0_whoseWishLess 15 = .ok (.istore_n 2, 1) := by decide +kernel
theorem dX0_whoseWishLess_16 : decode cX0_whoseWishLess 16 = .ok (.iload_n 2, 1) := by decide +kernel
theorem dX0_whoseWishLess_17 : decode cX0_whoseWishLess 17 = .ok (.aload_n 0, 1) := by decide +kernel
theorem dX0_whoseWishLess_18 : decode cX0_whoseWishLess 18 = .ok (.getfield 9, 3) := by decide +kernel
theorem dX0_whoseWishLess_21 : decode cX0_whoseWishLess 21 = .ok (.getfield 32, 3) := by decide +kernel
theorem dX0_whoseWishLess_24 : decode cX0_whoseWishLess 24 = .ok (.if_icmp .ge 35, 3) := by decide +kernel
theorem dX0_whoseWishLess_27 : decode cX0_whoseWishLess 27 = .ok (.aload_n 0, 1) := by decide +kernel
theorem dX0_whoseWishLess_28 : decode cX0_whoseWishLess 28 = .ok (.iconst 1, 1) := by decide +kernel
theorem dX0_whoseWishLess_29 : decode cX0_whoseWishLess 29 = .ok (.iconst 1, 1) := by decide +kernel
theorem dX0_whoseWishLess_30 : decode cX0_whoseWishLess 30 = .ok (.iload_n 2, 1) := by decide +kernel
theorem dX0_whoseWishLess_31 : decode cX0_whoseWishLess 31 = .ok (.invokevirtual 28, 3) := by decide +kernel
theorem dX0_whoseWishLess_34 : decode cX0_whoseWishLess 34 = .ok (.iload_n 1, 1) := by decide +kernel
theorem dX0_whoseWishLess_35 : decode cX0_whoseWishLess 35 = .ok (.iload_n 2, 1) := by decide +kernel
theorem dX0_whoseWishLess_36 : decode cX0_whoseWishLess 36 = .ok (.ishr, 1) := by decide +kernel
theorem dX0_whoseWishLess_37 : decode cX0_whoseWishLess 37 = .ok (.iconst 1, 1) := by decide +kernel
theorem dX0_whoseWishLess_38 : decode cX0_whoseWishLess 38 = .ok (.iand, 1) := by decide +kernel
theorem dX0_whoseWishLess_39 : decode cX0_whoseWishLess 39 = .ok (.iconst 1, 1) := by decide +kernel
theorem dX0_whoseWishLess_40 : decode cX0_whoseWishLess 40 = .ok (.if_icmp .ne 13, 3) := by decide +kernel
theorem dX0_whoseWishLess_43 : decode cX0_whoseWishLess 43 = .ok (.aload_n 0, 1) := by decide +kernel
theorem dX0_whoseWishLess_44 : decode cX0_whoseWishLess 44 = .ok (.iload_n 1, 1) := by decide +kernel
theorem dX0_whoseWishLess_45 : decode cX0_whoseWishLess 45 = .ok (.invokevirtual 69, 3) := by decide +kernel
theorem dX0_whoseWishLess_48 : decode cX0_whoseWishLess 48 = .ok (.ifCond .eq 5, 3) := by decide +kernel
theorem dX0_whoseWishLess_51 : decode cX0_whoseWishLess 51 = .ok (.iload_n 2, 1) := by decide +kernel
theorem dX0_whoseWishLess_52 : decode cX0_whoseWishLess 52 = .ok (.ireturn, 1) := by decide +kernel
theorem dX0_whoseWishLess_53 : decode cX0_whoseWishLess 53 = .ok (.iinc 2 1, 3) := by decide +kernel
theorem dX0_whoseWishLess_56 : decode cX0_whoseWishLess 56 = .ok (.goto (-40), 3) := by decide +kernel
theorem dX0_whoseWishLess_59 : decode cX0_whoseWishLess 59 = .ok (.iconst (-1), 1) := by decide +kernel
theorem dX0_whoseWishLess_60 : decode cX0_whoseWishLess 60 = .ok (.ireturn, 1) := by decide +kernel
theorem dX0_greatestQuarters_0 : decode cX0_greatestQuarters 0 = .ok (.bipush 8, 2) := by decide +kernel
theorem dX0_greatestQuarters_2 : decode cX0_greatestQuarters 2 = .ok (.istore_n 2, 1) := by decide +kernel
theorem dX0_greatestQuarters_3 : decode cX0_greatestQuarters 3 = .ok (.iload_n 2, 1) := by decide +kernel
theorem dX0_greatestQuarters_4 : decode cX0_greatestQuarters 4 = .ok (.ifCond .le 26, 3) := by decide +kernel
theorem dX0_greatestQuarters_7 : decode cX0_greatestQuarters 7 = .ok (.aload_n 0, 1) := by decide +kernel
theorem dX0_greatestQuarters_8 : decode cX0_greatestQuarters 8 = .ok (.iconst 4, 1) := by decide +kernel
theorem dX0_greatestQuarters_9 : decode cX0_greatestQuarters 9 = .ok (.iload_n 2, 1) := by decide +kernel
theorem dX0_greatestQuarters_10 : decode cX0_greatestQuarters 10 = .ok (.iconst (-1), 1) := by decide +kernel
theorem dX0_greatestQuarters_11 : decode cX0_greatestQuarters 11 = .ok (.invokevirtual 28, 3) := by decide +kernel
theorem dX0_greatestQuarters_14 : decode cX0_greatestQuarters 14 = .ok (.aload_n 0, 1) := by decide +kernel
theorem dX0_greatestQuarters_15 : decode cX0_greatestQuarters 15 = .ok (.iload_n 1, 1) := by decide +kernel
theorem dX0_greatestQuarters_16 : decode cX0_greatestQuarters 16 = .ok (.invokevirtual 69, 3) := by decide +kernel
theorem dX0_greatestQuarters_19 : decode cX0_greatestQuarters 19 = .ok (.ifCond .eq 5, 3) := by decide +kernel
theorem dX0_greatestQuarters_22 : decode cX0_greatestQuarters 22 = .ok (.iload_n 2, 1) := by decide +kernel
theorem dX0_greatestQuarters_23 : decode cX0_greatestQuarters 23 = .ok (.ireturn, 1) := by decide +kernel
theorem dX0_greatestQuarters_24 : decode cX0_greatestQuarters 24 = .ok (.iinc 2 (-1), 3) := by decide +kernel
theorem dX0_greatestQuarters_27 : decode cX0_greatestQuarters 27 = .ok (.goto (-24), 3) := by decide +kernel
theorem dX0_greatestQuarters_30 : decode cX0_greatestQuarters 30 = .ok (.iconst 0, 1) := by decide +kernel
theorem dX0_greatestQuarters_31 : decode cX0_greatestQuarters 31 = .ok (.ireturn, 1) := by decide +kernel
theorem dX1_init_0 : decode cX1_init 0 = .ok (.aload_n 0, 1) := by decide +kernel
theorem dX1_init_1 : decode cX1_init 1 = .ok (.invokespecial 1, 3) := by decide +kernel
theorem dX1_init_4 : decode cX1_init 4 = .ok (.aload_n 0, 1) := by decide +kernel
theorem dX1_init_5 : decode cX1_init 5 = .ok (.iconst 3, 1) := by decide +kernel
theorem dX1_init_6 : decode cX1_init 6 = .ok (.putfield 7, 3) := by decide +kernel
theorem dX1_init_9 : decode cX1_init 9 = .ok (.aload_n 0, 1) := by decide +kernel
theorem dX1_init_10 : decode cX1_init 10 = .ok (.bipush 31, 2) := by decide +kernel
theorem dX1_init_12 : decode cX1_init 12 = .ok (.putfield 13, 3) := by decide +kernel
theorem dX1_init_15 : decode cX1_init 15 = .ok (.aload_n 0, 1) := by decide +kernel
theorem dX1_init_16 : decode cX1_init 16 = .ok (.bipush 25, 2) := by decide +kernel
theorem dX1_init_18 : decode cX1_init 18 = .ok (.newarray .int, 2) := by decide +kernel
theorem dX1_init_20 : decode cX1_init 20 = .ok (.putfield 16, 3) := by decide +kernel
theorem dX1_init_23 : decode cX1_init 23 = .ok (.aload_n 0, 1) := by decide +kernel
theorem dX1_init_24 : decode cX1_init 24 = .ok (.iconst 5, 1) := by decide +kernel
theorem dX1_init_25 : decode cX1_init 25 = .ok (.newarray .int, 2) := by decide +kernel
theorem dX1_init_27 : decode cX1_init 27 = .ok (.putfield 20, 3) := by decide +kernel
theorem dX1_init_30 : decode cX1_init 30 = .ok (.aload_n 0, 1) := by decide +kernel
theorem dX1_init_31 : decode cX1_init 31 = .ok (.iconst 5, 1) := by decide +kernel
theorem dX1_init_32 : decode cX1_init 32 = .ok (.newarray .int, 2) := by decide +kernel
theorem dX1_init_34 : decode cX1_init 34 = .ok (.putfield 23, 3) := by decide +kernel
theorem dX1_init_37 : decode cX1_init 37 = .ok (.aload_n 0, 1) := by decide +kernel
theorem dX1_init_38 : decode cX1_init 38 = .ok (.iconst 5, 1) := by decide +kernel
theorem dX1_init_39 : decode cX1_init 39 = .ok (.newarray .int, 2) := by decide +kernel
theorem dX1_init_41 : decode cX1_init 41 = .ok (.putfield 26, 3) := by decide +kernel
theorem dX1_init_44 : decode cX1_init 44 = .ok (.aload_n 0, 1) := by decide +kernel
theorem dX1_init_45 : decode cX1_init 45 = .ok (.iconst 5, 1) := by decide +kernel
theorem dX1_init_46 : decode cX1_init 46 = .ok (.newarray .int, 2) := by decide +kernel
theorem dX1_init_48 : decode cX1_init 48 = .ok (.putfield 29, 3) := by decide +kernel
theorem dX1_init_51 : decode cX1_init 51 = .ok (.iconst 0, 1) := by decide +kernel
theorem dX1_init_52 : decode cX1_init 52 = .ok (.istore_n 1, 1) := by decide +kernel
theorem dX1_init_53 : decode cX1_init 53 = .ok (.iload_n 1, 1) := by decide +kernel
theorem dX1_init_54 : decode cX1_init 54 = .ok (.iconst 5, 1) := by decide +kernel
theorem dX1_init_55 : decode cX1_init 55 = .ok (.if_icmp .ge 65, 3) := by decide +kernel
theorem dX1_init_58 : decode cX1_init 58 = .ok (.iconst 0, 1) := by decide +kernel
theorem dX1_init_59 : decode cX1_init 59 = .ok (.istore_n 2, 1) := by decide +kernel
theorem dX1_init_60 : decode cX1_init 60 = .ok (.iload_n 2, 1) := by decide +kernel
theorem dX1_init_61 : decode cX1_init 61 = .ok (.iconst 5, 1) := by decide +kernel
theorem dX1_init_62 : decode cX1_init 62 = .ok (.if_icmp .ge 30, 3) := by decide +kernel
theorem dX1_init_65 : decode cX1_init 65 = .ok (.aload_n 0, 1) := by decide +kernel
theorem dX1_init_66 : decode cX1_init 66 = .ok (.getfield 16, 3) := by decide +kernel
theorem dX1_init_69 : decode cX1_init 69 = .ok (.iload_n 1, 1) := by decide +kernel
theorem dX1_init_70 : decode cX1_init 70 = .ok (.iconst 5, 1) := by decide +kernel
theorem dX1_init_71 : decode cX1_init 71 = .ok (.imul, 1) := by decide +kernel
theorem dX1_init_72 : decode cX1_init 72 = .ok (.iload_n 2, 1) := by decide +kernel
theorem dX1_init_73 : decode cX1_init 73 = .ok (.iadd, 1) := by decide +kernel
theorem dX1_init_74 : decode cX1_init 74 = .ok (.iload_n 1, 1) := by decide +kernel
theorem dX1_init_75 : decode cX1_init 75 = .ok (.iload_n 2, 1) := by decide +kernel
theorem dX1_init_76 : decode cX1_init 76 = .ok (.if_icmp .ne 8, 3) := by decide +kernel
theorem dX1_init_79 : decode cX1_init 79 = .ok (.bipush 10, 2) := by decide +kernel
theorem dX1_init_81 : decode cX1_init 81 = .ok (.goto 4, 3) := by decide +kernel
theorem dX1_init_84 : decode cX1_init 84 = .ok (.iconst 1, 1) := by decide +kernel
theorem dX1_init_85 : decode cX1_init 85 = .ok (.iastore, 1) := by decide +kernel
theorem dX1_init_86 : decode cX1_init 86 = .ok (.iinc 2 1, 3) := by decide +kernel
theorem dX1_init_89 : decode cX1_init 89 = .ok (.goto (-29), 3) := by decide +kernel
theorem dX1_init_92 : decode cX1_init 92 = .ok (.aload_n 0, 1) := by decide +kernel
theorem dX1_init_93 : decode cX1_init 93 = .ok (.getfield 20, 3) := by decide +kernel
theorem dX1_init_96 : decode cX1_init 96 = .ok (.iload_n 1, 1) := by decide +kernel
theorem dX1_init_97 : decode cX1_init 97 = .ok (.iconst 5, 1) := by decide +kernel
theorem dX1_init_98 : decode cX1_init 98 = .ok (.iastore, 1) := by decide +kernel
theorem dX1_init_99 : decode cX1_init 99 = .ok (.aload_n 0, 1) := by decide +kernel
theorem dX1_init_100 : decode cX1_init 100 = .ok (.getfield 23, 3) := by decide +kernel
theorem dX1_init_103 : decode cX1_init 103 = .ok (.iload_n 1, 1) := by decide +kernel
theorem dX1_init_104 : decode cX1_init 104 = .ok (.iconst 1, 1) := by decide +kernel
theorem dX1_init_105 : decode cX1_init 105 = .ok (.iastore, 1) := by decide +kernel
theorem dX1_init_106 : decode cX1_init 106 = .ok (.aload_n 0, 1) := by decide +kernel
theorem dX1_init_107 : decode cX1_init 107 = .ok (.getfield 26, 3) := by decide +kernel
theorem dX1_init_110 : decode cX1_init 110 = .ok (.iload_n 1, 1) := by decide +kernel
theorem dX1_init_111 : decode cX1_init 111 = .ok (.bipush 100, 2) := by decide +kernel
theorem dX1_init_113 : decode cX1_init 113 = .ok (.iastore, 1) := by decide +kernel
theorem dX1_init_114 : decode cX1_init 114 = .ok (.iinc 1 1, 3) := by decide +kernel
theorem dX1_init_117 : decode cX1_init 117 = .ok (.goto (-64), 3) := by decide +kernel
theorem dX1_init_120 : decode cX1_init 120 = .ok (.return_, 1) := by decide +kernel
theorem dX1_mayBeGain_0 : decode cX1_mayBeGain 0 = .ok (.iload_n 0, 1) := by decide +kernel
theorem dX1_mayBeGain_1 : decode cX1_mayBeGain 1 = .ok (.iload_n 1, 1) := by decide +kernel
theorem dX1_mayBeGain_2 : decode cX1_mayBeGain 2 = .ok (.if_icmp .ne 22, 3) := by decide +kernel
theorem dX1_mayBeGain_5 : decode cX1_mayBeGain 5 = .ok (.iload_n 2, 1) := by decide +kernel
theorem dX1_mayBeGain_6 : decode cX1_mayBeGain 6 = .ok (.iconst 1, 1) := by decide +kernel
theorem dX1_mayBeGain_7 : decode cX1_mayBeGain 7 = .ok (.if_icmp .lt 13, 3) := by decide +kernel
theorem dX1_mayBeGain_10 : decode cX1_mayBeGain 10 = .ok (.iload_n 2, 1) := by decide +kernel
theorem dX1_mayBeGain_11 : decode cX1_mayBeGain 11 = .ok (.bipush 30, 2) := by decide +kernel
theorem dX1_mayBeGain_13 : decode cX1_mayBeGain 13 = .ok (.if_icmp .gt 7, 3) := by decide +kernel
theorem dX1_mayBeGain_16 : decode cX1_mayBeGain 16 = .ok (.iconst 1, 1) := by decide +kernel
theorem dX1_mayBeGain_17 : decode cX1_mayBeGain 17 = .ok (.goto 22, 3) := by decide +kernel
theorem dX1_mayBeGain_20 : decode cX1_mayBeGain 20 = .ok (.iconst 0, 1) := by decide +kernel
theorem dX1_mayBeGain_21 : decode cX1_mayBeGain 21 = .ok (.goto 18, 3) := by decide +kernel
theorem dX1_mayBeGain_24 : decode cX1_mayBeGain 24 = .ok (.iload_n 2, 1) := by decide +kernel
theorem dX1_mayBeGain_25 : decode cX1_mayBeGain 25 = .ok (.ifCond .lt 13, 3) := by decide +kernel
theorem dX1_mayBeGain_28 : decode cX1_mayBeGain 28 = .ok (.iload_n 2, 1) := by decide +kernel
theorem dX1_mayBeGain_29 : decode cX1_mayBeGain 29 = .ok (.bipush 9, 2) := by decide +kernel
theorem dX1_mayBeGain_31 : decode cX1_mayBeGain 31 = .ok (.if_icmp .gt 7, 3) := by decide +kernel
theorem dX1_mayBeGain_34 : decode cX1_mayBeGain 34 = .ok (.iconst 1, 1) := by decide +kernel
theorem dX1_mayBeGain_35 : decode cX1_mayBeGain 35 = .ok (.goto 4, 3) := by decide +kernel
theorem dX1_mayBeGain_38 : decode cX1_mayBeGain 38 = .ok (.iconst 0, 1) := by decide +kernel
theorem dX1_mayBeGain_39 : decode cX1_mayBeGain 39 = .ok (.ireturn, 1) := by decide +kernel
theorem dX1_isThere_0 : decode cX1_isThere 0 = .ok (.iload_n 1, 1) := by decide +kernel
theorem dX1_isThere_1 : decode cX1_isThere 1 = .ok (.ifCond .lt 15, 3) := by decide +kernel
theorem dX1_isThere_4 : decode cX1_isThere 4 = .ok (.iload_n 1, 1) := by decide +kernel
theorem dX1_isThere_5 : decode cX1_isThere 5 = .ok (.aload_n 0, 1) := by decide +kernel
theorem dX1_isThere_6 : decode cX1_isThere 6 = .ok (.getfield 7, 3) := by decide +kernel
theorem dX1_isThere_9 : decode cX1_isThere 9 = .ok (.if_icmp .ge 7, 3) := by decide +kernel
theorem dX1_isThere_12 : decode cX1_isThere 12 = .ok (.iconst 1, 1) := by decide +kernel
theorem dX1_isThere_13 : decode cX1_isThere 13 = .ok (.goto 4, 3) := by decide +kernel
theorem dX1_isThere_16 : decode cX1_isThere 16 = .ok (.iconst 0, 1) := by decide +kernel
theorem dX1_isThere_17 : decode cX1_isThere 17 = .ok (.ireturn, 1) := by decide +kernel
theorem dX1_allBits_0 : decode cX1_allBits 0 = .ok (.iconst 1, 1) := by decide +kernel
theorem dX1_allBits_1 : decode cX1_allBits 1 = .ok (.aload_n 0, 1) := by decide +kernel
theorem dX1_allBits_2 : decode cX1_allBits 2 = .ok (.getfield 7, 3) := by decide +kernel
theorem dX1_allBits_5 : decode cX1_allBits 5 = .ok (.ishl, 1) := by decide +kernel
theorem dX1_allBits_6 : decode cX1_allBits 6 = .ok (.iconst 1, 1) := by decide +kernel
theorem dX1_allBits_7 : decode cX1_allBits 7 = .ok (.isub, 1) := by decide +kernel
theorem dX1_allBits_8 : decode cX1_allBits 8 = .ok (.ireturn, 1) := by decide +kernel
theorem dX1_onSet_0 : decode cX1_onSet 0 = .ok (.aload_n 0, 1) := by decide +kernel
theorem dX1_onSet_1 : decode cX1_onSet 1 = .ok (.getfield 13, 3) := by decide +kernel
theorem dX1_onSet_4 : decode cX1_onSet 4 = .ok (.aload_n 0, 1) := by decide +kernel
theorem dX1_onSet_5 : decode cX1_onSet 5 = .ok (.invokevirtual 32, 3) := by decide +kernel
theorem dX1_onSet_8 : decode cX1_onSet 8 = .ok (.iand, 1) := by decide +kernel
theorem dX1_onSet_9 : decode cX1_onSet 9 = .ok (.ireturn, 1) := by decide +kernel
theorem dX1_isOn_0 : decode cX1_isOn 0 = .ok (.aload_n 0, 1) := by decide +kernel
theorem dX1_isOn_1 : decode cX1_isOn 1 = .ok (.getfield 13, 3) := by decide +kernel
theorem dX1_isOn_4 : decode cX1_isOn 4 = .ok (.iload_n 1, 1) := by decide +kernel
theorem dX1_isOn_5 : decode cX1_isOn 5 = .ok (.ishr, 1) := by decide +kernel
theorem dX1_isOn_6 : decode cX1_isOn 6 = .ok (.iconst 1, 1) := by decide +kernel
theorem dX1_isOn_7 : decode cX1_isOn 7 = .ok (.iand, 1) := by decide +kernel
theorem dX1_isOn_8 : decode cX1_isOn 8 = .ok (.iconst 1, 1) := by decide +kernel
theorem dX1_isOn_9 : decode cX1_isOn 9 = .ok (.if_icmp .ne 7, 3) := by decide +kernel
theorem dX1_isOn_12 : decode cX1_isOn 12 = .ok (.iconst 1, 1) := by decide +kernel
theorem dX1_isOn_13 : decode cX1_isOn 13 = .ok (.goto 4, 3) := by decide +kernel
theorem dX1_isOn_16 : decode cX1_isOn 16 = .ok (.iconst 0, 1) := by decide +kernel
theorem dX1_isOn_17 : decode cX1_isOn 17 = .ok (.ireturn, 1) := by decide +kernel
theorem dX1_gainOf_0 : decode cX1_gainOf 0 = .ok (.aload_n 0, 1) := by decide +kernel
theorem dX1_gainOf_1 : decode cX1_gainOf 1 = .ok (.getfield 16, 3) := by decide +kernel
theorem dX1_gainOf_4 : decode cX1_gainOf 4 = .ok (.iload_n 1, 1) := by decide +kernel
theorem dX1_gainOf_5 : decode cX1_gainOf 5 = .ok (.iconst 5, 1) := by decide +kernel
theorem dX1_gainOf_6 : decode cX1_gainOf 6 = .ok (.imul, 1) := by decide +kernel
theorem dX1_gainOf_7 : decode cX1_gainOf 7 = .ok (.iload_n 2, 1) := by decide +kernel
theorem dX1_gainOf_8 : decode cX1_gainOf 8 = .ok (.iadd, 1) := by decide +kernel
theorem dX1_gainOf_9 : decode cX1_gainOf 9 = .ok (.iaload, 1) := by decide +kernel
theorem dX1_gainOf_10 : decode cX1_gainOf 10 = .ok (.ireturn, 1) := by decide +kernel
theorem dX1_tellGain_0 : decode cX1_tellGain 0 = .ok (.aload_n 0, 1) := by decide +kernel
theorem dX1_tellGain_1 : decode cX1_tellGain 1 = .ok (.getfield 16, 3) := by decide +kernel
theorem dX1_tellGain_4 : decode cX1_tellGain 4 = .ok (.iload_n 1, 1) := by decide +kernel
theorem dX1_tellGain_5 : decode cX1_tellGain 5 = .ok (.iconst 5, 1) := by decide +kernel
theorem dX1_tellGain_6 : decode cX1_tellGain 6 = .ok (.imul, 1) := by decide +kernel
theorem dX1_tellGain_7 : decode cX1_tellGain 7 = .ok (.iload_n 2, 1) := by decide +kernel
theorem dX1_tellGain_8 : decode cX1_tellGain 8 = .ok (.iadd, 1) := by decide +kernel
theorem dX1_tellGain_9 : decode cX1_tellGain 9 = .ok (.iload_n 3, 1) := by decide +kernel
theorem dX1_tellGain_10 : decode cX1_tellGain 10 = .ok (.iastore, 1) := by decide +kernel
theorem dX1_tellGain_11 : decode cX1_tellGain 11 = .ok (.return_, 1) := by decide +kernel
theorem dX1_othersAndNoise_0 : decode cX1_othersAndNoise 0 = .ok (.aload_n 0, 1) := by decide +kernel
theorem dX1_othersAndNoise_1 : decode cX1_othersAndNoise 1 = .ok (.getfield 23, 3) := by decide +kernel
theorem dX1_othersAndNoise_4 : decode cX1_othersAndNoise 4 = .ok (.iload_n 1, 1) := by decide +kernel
theorem dX1_othersAndNoise_5 : decode cX1_othersAndNoise 5 = .ok (.iaload, 1) := by decide +kernel
theorem dX1_othersAndNoise_6 : decode cX1_othersAndNoise 6 = .ok (.istore_n 3, 1) := by decide +kernel
theorem dX1_othersAndNoise_7 : decode cX1_othersAndNoise 7 = .ok (.iconst 0, 1) := by decide +kernel
theorem dX1_othersAndNoise_8 : decode cX1_othersAndNoise 8 = .ok (.istore 4, 2) := by decide +kernel
theorem dX1_othersAndNoise_10 : decode cX1_othersAndNoise 10 = .ok (.iload 4, 2) := by decide +kernel
theorem dX1_othersAndNoise_12 : decode cX1_othersAndNoise 12 = .ok (.aload_n 0, 1) := by decide +kernel
theorem dX1_othersAndNoise_13 : decode cX1_othersAndNoise 13 = .ok (.getfield 7, 3) := by decide +kernel
theorem dX1_othersAndNoise_16 : decode cX1_othersAndNoise 16 = .ok (.if_icmp .ge 47, 3) := by decide +kernel
theorem dX1_othersAndNoise_19 : decode cX1_othersAndNoise 19 = .ok (.iload 4, 2) := by decide +kernel
theorem dX1_othersAndNoise_21 : decode cX1_othersAndNoise 21 = .ok (.iload_n 1, 1) := by decide +kernel
theorem dX1_othersAndNoise_22 : decode cX1_othersAndNoise 22 = .ok (.if_icmp .eq 35, 3) := by decide +kernel
theorem dX1_othersAndNoise_25 : decode cX1_othersAndNoise 25 = .ok (.aload_n 0, 1) := by decide +kernel
theorem dX1_othersAndNoise_26 : decode cX1_othersAndNoise 26 = .ok (.getfield 13, 3) := by decide +kernel
theorem dX1_othersAndNoise_29 : decode cX1_othersAndNoise 29 = .ok (.iload 4, 2) := by decide +kernel
theorem dX1_othersAndNoise_31 : decode cX1_othersAndNoise 31 = .ok (.ishr, 1) := by decide +kernel
theorem dX1_othersAndNoise_32 : decode cX1_othersAndNoise 32 = .ok (.iconst 1, 1) := by decide +kernel
theorem dX1_othersAndNoise_33 : decode cX1_othersAndNoise 33 = .ok (.iand, 1) := by decide +kernel
theorem dX1_othersAndNoise_34 : decode cX1_othersAndNoise 34 = .ok (.iconst 1, 1) := by decide +kernel
theorem dX1_othersAndNoise_35 : decode cX1_othersAndNoise 35 = .ok (.if_icmp .ne 22, 3) := by decide +kernel
theorem dX1_othersAndNoise_38 : decode cX1_othersAndNoise 38 = .ok (.iload_n 3, 1) := by decide +kernel
theorem dX1_othersAndNoise_39 : decode cX1_othersAndNoise 39 = .ok (.aload_n 0, 1) := by decide +kernel
theorem dX1_othersAndNoise_40 : decode cX1_othersAndNoise 40 = .ok (.getfield 16, 3) := by decide +kernel
theorem dX1_othersAndNoise_43 : decode cX1_othersAndNoise 43 = .ok (.iload_n 1, 1) := by decide +kernel
theorem dX1_othersAndNoise_44 : decode cX1_othersAndNoise 44 = .ok (.iconst 5, 1) := by decide +kernel
theorem dX1_othersAndNoise_45 : decode cX1_othersAndNoise 45 = .ok (.imul, 1) := by decide +kernel
theorem dX1_othersAndNoise_46 : decode cX1_othersAndNoise 46 = .ok (.iload 4, 2) := by decide +kernel
theorem dX1_othersAndNoise_48 : decode cX1_othersAndNoise 48 = .ok (.iadd, 1) := by decide +kernel
theorem dX1_othersAndNoise_49 : decode cX1_othersAndNoise 49 = .ok (.iaload, 1) := by decide +kernel
theorem dX1_othersAndNoise_50 : decode cX1_othersAndNoise 50 = .ok (.aload_n 2, 1) := by decide +kernel
theorem dX1_othersAndNoise_51 : decode cX1_othersAndNoise 51 = .ok (.iload 4, 2) := by decide +kernel
theorem dX1_othersAndNoise_53 : decode cX1_othersAndNoise 53 = .ok (.iaload, 1) := by decide +kernel
theorem dX1_othersAndNoise_54 : decode cX1_othersAndNoise 54 = .ok (.imul, 1) := by decide +kernel
theorem dX1_othersAndNoise_55 : decode cX1_othersAndNoise 55 = .ok (.iadd, 1) := by decide +kernel
theorem dX1_othersAndNoise_56 : decode cX1_othersAndNoise 56 = .ok (.istore_n 3, 1) := by decide +kernel
theorem dX1_othersAndNoise_57 : decode cX1_othersAndNoise 57 = .ok (.iinc 4 1, 3) := by decide +kernel
theorem dX1_othersAndNoise_60 : decode cX1_othersAndNoise 60 = .ok (.goto (-50), 3) := by decide +kernel
theorem dX1_othersAndNoise_63 : decode cX1_othersAndNoise 63 = .ok (.iload_n 3, 1) := by decide +kernel
theorem dX1_othersAndNoise_64 : decode cX1_othersAndNoise 64 = .ok (.ireturn, 1) := by decide +kernel
theorem dX1_needOf_0 : decode cX1_needOf 0 = .ok (.bipush 10, 2) := by decide +kernel
theorem dX1_needOf_2 : decode cX1_needOf 2 = .ok (.aload_n 0, 1) := by decide +kernel
theorem dX1_needOf_3 : decode cX1_needOf 3 = .ok (.iload_n 1, 1) := by decide +kernel
theorem dX1_needOf_4 : decode cX1_needOf 4 = .ok (.iload_n 1, 1) := by decide +kernel
theorem dX1_needOf_5 : decode cX1_needOf 5 = .ok (.invokevirtual 36, 3) := by decide +kernel
theorem dX1_needOf_8 : decode cX1_needOf 8 = .ok (.imul, 1) := by decide +kernel
theorem dX1_needOf_9 : decode cX1_needOf 9 = .ok (.istore_n 3, 1) := by decide +kernel
theorem dX1_needOf_10 : decode cX1_needOf 10 = .ok (.iload_n 3, 1) := by decide +kernel
theorem dX1_needOf_11 : decode cX1_needOf 11 = .ok (.ifCond .gt 7, 3) := by decide +kernel
theorem dX1_needOf_14 : decode cX1_needOf 14 = .ok (.iconst 0, 1) := by decide +kernel
theorem dX1_needOf_15 : decode cX1_needOf 15 = .ok (.goto 22, 3) := by decide +kernel
theorem dX1_needOf_18 : decode cX1_needOf 18 = .ok (.aload_n 0, 1) := by decide +kernel
theorem dX1_needOf_19 : decode cX1_needOf 19 = .ok (.getfield 20, 3) := by decide +kernel
theorem dX1_needOf_22 : decode cX1_needOf 22 = .ok (.iload_n 1, 1) := by decide +kernel
theorem dX1_needOf_23 : decode cX1_needOf 23 = .ok (.iaload, 1) := by decide +kernel
theorem dX1_needOf_24 : decode cX1_needOf 24 = .ok (.aload_n 0, 1) := by decide +kernel
theorem dX1_needOf_25 : decode cX1_needOf 25 = .ok (.iload_n 1, 1) := by decide +kernel
theorem dX1_needOf_26 : decode cX1_needOf 26 = .ok (.aload_n 2, 1) := by decide +kernel
theorem dX1_needOf_27 : decode cX1_needOf 27 = .ok (.invokevirtual 40, 3) := by decide +kernel
theorem dX1_needOf_30 : decode cX1_needOf 30 = .ok (.imul, 1) := by decide +kernel
theorem dX1_needOf_31 : decode cX1_needOf 31 = .ok (.iload_n 3, 1) := by decide +kernel
theorem dX1_needOf_32 : decode cX1_needOf 32 = .ok (.iadd, 1) := by decide +kernel
theorem dX1_needOf_33 : decode cX1_needOf 33 = .ok (.iconst 1, 1) := by decide +kernel
theorem dX1_needOf_34 : decode cX1_needOf 34 = .ok (.isub, 1) := by decide +kernel
theorem dX1_needOf_35 : decode cX1_needOf 35 = .ok (.iload_n 3, 1) := by decide +kernel
theorem dX1_needOf_36 : decode cX1_needOf 36 = .ok (.idiv, 1) := by decide +kernel
theorem dX1_needOf_37 : decode cX1_needOf 37 = .ok (.ireturn, 1) := by decide +kernel
theorem dX1_isContent_0 : decode cX1_isContent 0 = .ok (.aload_n 0, 1) := by decide +kernel
theorem dX1_isContent_1 : decode cX1_isContent 1 = .ok (.iload_n 1, 1) := by decide +kernel
theorem dX1_isContent_2 : decode cX1_isContent 2 = .ok (.invokevirtual 44, 3) := by decide +kernel
theorem dX1_isContent_5 : decode cX1_isContent 5 = .ok (.ifCond .eq 42, 3) := by decide +kernel
theorem dX1_isContent_8 : decode cX1_isContent 8 = .ok (.bipush 10, 2) := by decide +kernel
theorem dX1_isContent_10 : decode cX1_isContent 10 = .ok (.aload_n 0, 1) := by decide +kernel
theorem dX1_isContent_11 : decode cX1_isContent 11 = .ok (.iload_n 1, 1) := by decide +kernel
theorem dX1_isContent_12 : decode cX1_isContent 12 = .ok (.iload_n 1, 1) := by decide +kernel
theorem dX1_isContent_13 : decode cX1_isContent 13 = .ok (.invokevirtual 36, 3) := by decide +kernel
theorem dX1_isContent_16 : decode cX1_isContent 16 = .ok (.imul, 1) := by decide +kernel
theorem dX1_isContent_17 : decode cX1_isContent 17 = .ok (.aload_n 0, 1) := by decide +kernel
theorem dX1_isContent_18 : decode cX1_isContent 18 = .ok (.getfield 29, 3) := by decide +kernel
theorem dX1_isContent_21 : decode cX1_isContent 21 = .ok (.iload_n 1, 1) := by decide +kernel
theorem dX1_isContent_22 : decode cX1_isContent 22 = .ok (.iaload, 1) := by decide +kernel
theorem dX1_isContent_23 : decode cX1_isContent 23 = .ok (.imul, 1) := by decide +kernel
theorem dX1_isContent_24 : decode cX1_isContent 24 = .ok (.aload_n 0, 1) := by decide +kernel
theorem dX1_isContent_25 : decode cX1_isContent 25 = .ok (.getfield 20, 3) := by decide +kernel
theorem dX1_isContent_28 : decode cX1_isContent 28 = .ok (.iload_n 1, 1) := by decide +kernel
theorem dX1_isContent_29 : decode cX1_isContent 29 = .ok (.iaload, 1) := by decide +kernel
theorem dX1_isContent_30 : decode cX1_isContent 30 = .ok (.aload_n 0, 1) := by decide +kernel
theorem dX1_isContent_31 : decode cX1_isContent 31 = .ok (.iload_n 1, 1) := by decide +kernel
theorem dX1_isContent_32 : decode cX1_isContent 32 = .ok (.aload_n 0, 1) := by decide +kernel
theorem dX1_isContent_33 : decode cX1_isContent 33 = .ok (.getfield 29, 3) := by decide +kernel
theorem dX1_isContent_36 : decode cX1_isContent 36 = .ok (.invokevirtual 40, 3) := by decide +kernel
theorem dX1_isContent_39 : decode cX1_isContent 39 = .ok (.imul, 1) := by decide +kernel
theorem dX1_isContent_40 : decode cX1_isContent 40 = .ok (.if_icmp .lt 7, 3) := by decide +kernel
theorem dX1_isContent_43 : decode cX1_isContent 43 = .ok (.iconst 1, 1) := by decide +kernel
theorem dX1_isContent_44 : decode cX1_isContent 44 = .ok (.goto 4, 3) := by decide +kernel
theorem dX1_isContent_47 : decode cX1_isContent 47 = .ok (.iconst 0, 1) := by decide +kernel
theorem dX1_isContent_48 : decode cX1_isContent 48 = .ok (.ireturn, 1) := by decide +kernel
theorem dX1_contentSet_0 : decode cX1_contentSet 0 = .ok (.iconst 0, 1) := by decide +kernel
theorem dX1_contentSet_1 : decode cX1_contentSet 1 = .ok (.istore_n 1, 1) := by decide +kernel
theorem dX1_contentSet_2 : decode cX1_contentSet 2 = .ok (.iconst 0, 1) := by decide +kernel
theorem dX1_contentSet_3 : decode cX1_contentSet 3 = .ok (.istore_n 2, 1) := by decide +kernel
theorem dX1_contentSet_4 : decode cX1_contentSet 4 = .ok (.iload_n 2, 1) := by decide +kernel
theorem dX1_contentSet_5 : decode cX1_contentSet 5 = .ok (.aload_n 0, 1) := by decide +kernel
theorem dX1_contentSet_6 : decode cX1_contentSet 6 = .ok (.getfield 7, 3) := by decide +kernel
theorem dX1_contentSet_9 : decode cX1_contentSet 9 = .ok (.if_icmp .ge 23, 3) := by decide +kernel
theorem dX1_contentSet_12 : decode cX1_contentSet 12 = .ok (.aload_n 0, 1) := by decide +kernel
theorem dX1_contentSet_13 : decode cX1_contentSet 13 = .ok (.iload_n 2, 1) := by decide +kernel
theorem dX1_contentSet_14 : decode cX1_contentSet 14 = .ok (.invokevirtual 48, 3) := by decide +kernel
theorem dX1_contentSet_17 : decode cX1_contentSet 17 = .ok (.ifCond .eq 9, 3) := by decide +kernel
theorem dX1_contentSet_20 : decode cX1_contentSet 20 = .ok (.iload_n 1, 1) := by decide +kernel
theorem dX1_contentSet_21 : decode cX1_contentSet 21 = .ok (.iconst 1, 1) := by decide +kernel
theorem dX1_contentSet_22 : decode cX1_contentSet 22 = .ok (.iload_n 2, 1) := by decide +kernel
theorem dX1_contentSet_23 : decode cX1_contentSet 23 = .ok (.ishl, 1) := by decide +kernel
theorem dX1_contentSet_24 : decode cX1_contentSet 24 = .ok (.ior, 1) := by decide +kernel
theorem dX1_contentSet_25 : decode cX1_contentSet 25 = .ok (.istore_n 1, 1) := by decide +kernel
theorem dX1_contentSet_26 : decode cX1_contentSet 26 = .ok (.iinc 2 1, 3) := by decide +kernel
theorem dX1_contentSet_29 : decode cX1_contentSet 29 = .ok (.goto (-25), 3) := by decide +kernel
theorem dX1_contentSet_32 : decode cX1_contentSet 32 = .ok (.iload_n 1, 1) := by decide +kernel
theorem dX1_contentSet_33 : decode cX1_contentSet 33 = .ok (.ireturn, 1) := by decide +kernel
theorem dX1_sumOfPowers_0 : decode cX1_sumOfPowers 0 = .ok (.iconst 0, 1) := by decide +kernel
theorem dX1_sumOfPowers_1 : decode cX1_sumOfPowers 1 = .ok (.istore_n 1, 1) := by decide +kernel
theorem dX1_sumOfPowers_2 : decode cX1_sumOfPowers 2 = .ok (.iconst 0, 1) := by decide +kernel
theorem dX1_sumOfPowers_3 : decode cX1_sumOfPowers 3 = .ok (.istore_n 2, 1) := by decide +kernel
theorem dX1_sumOfPowers_4 : decode cX1_sumOfPowers 4 = .ok (.iload_n 2, 1) := by decide +kernel
theorem dX1_sumOfPowers_5 : decode cX1_sumOfPowers 5 = .ok (.aload_n 0, 1) := by decide +kernel
theorem dX1_sumOfPowers_6 : decode cX1_sumOfPowers 6 = .ok (.getfield 7, 3) := by decide +kernel
theorem dX1_sumOfPowers_9 : decode cX1_sumOfPowers 9 = .ok (.if_icmp .ge 26, 3) := by decide +kernel
theorem dX1_sumOfPowers_12 : decode cX1_sumOfPowers 12 = .ok (.aload_n 0, 1) := by decide +kernel
theorem dX1_sumOfPowers_13 : decode cX1_sumOfPowers 13 = .ok (.iload_n 2, 1) := by decide +kernel
theorem dX1_sumOfPowers_14 : decode cX1_sumOfPowers 14 = .ok (.invokevirtual 44, 3) := by decide +kernel
theorem dX1_sumOfPowers_17 : decode cX1_sumOfPowers 17 = .ok (.ifCond .eq 12, 3) := by decide +kernel
theorem dX1_sumOfPowers_20 : decode cX1_sumOfPowers 20 = .ok (.iload_n 1, 1) := by decide +kernel
theorem dX1_sumOfPowers_21 : decode cX1_sumOfPowers 21 = .ok (.aload_n 0, 1) := by decide +kernel
theorem dX1_sumOfPowers_22 : decode cX1_sumOfPowers 22 = .ok (.getfield 29, 3) := by decide +kernel
theorem dX1_sumOfPowers_25 : decode cX1_sumOfPowers 25 = .ok (.iload_n 2, 1) := by decide +kernel
theorem dX1_sumOfPowers_26 : decode cX1_sumOfPowers 26 = .ok (.iaload, 1) := by decide +kernel
theorem dX1_sumOfPowers_27 : decode cX1_sumOfPowers 27 = .ok (.iadd, 1) := by decide +kernel
theorem dX1_sumOfPowers_28 : decode cX1_sumOfPowers 28 = .ok (.istore_n 1, 1) := by decide +kernel
theorem dX1_sumOfPowers_29 : decode cX1_sumOfPowers 29 = .ok (.iinc 2 1, 3) := by decide +kernel
theorem dX1_sumOfPowers_32 : decode cX1_sumOfPowers 32 = .ok (.goto (-28), 3) := by decide +kernel
theorem dX1_sumOfPowers_35 : decode cX1_sumOfPowers 35 = .ok (.iload_n 1, 1) := by decide +kernel
theorem dX1_sumOfPowers_36 : decode cX1_sumOfPowers 36 = .ok (.ireturn, 1) := by decide +kernel
theorem dX2_init_0 : decode cX2_init 0 = .ok (.aload_n 0, 1) := by decide +kernel
theorem dX2_init_1 : decode cX2_init 1 = .ok (.invokespecial 1, 3) := by decide +kernel
theorem dX2_init_4 : decode cX2_init 4 = .ok (.aload_n 0, 1) := by decide +kernel
theorem dX2_init_5 : decode cX2_init 5 = .ok (.iconst 0, 1) := by decide +kernel
theorem dX2_init_6 : decode cX2_init 6 = .ok (.putfield 7, 3) := by decide +kernel
theorem dX2_init_9 : decode cX2_init 9 = .ok (.aload_n 0, 1) := by decide +kernel
theorem dX2_init_10 : decode cX2_init 10 = .ok (.iconst (-1), 1) := by decide +kernel
theorem dX2_init_11 : decode cX2_init 11 = .ok (.putfield 13, 3) := by decide +kernel
theorem dX2_init_14 : decode cX2_init 14 = .ok (.aload_n 0, 1) := by decide +kernel
theorem dX2_init_15 : decode cX2_init 15 = .ok (.bipush 60, 2) := by decide +kernel
theorem dX2_init_17 : decode cX2_init 17 = .ok (.newarray .int, 2) := by decide +kernel
theorem dX2_init_19 : decode cX2_init 19 = .ok (.putfield 16, 3) := by decide +kernel
theorem dX2_init_22 : decode cX2_init 22 = .ok (.return_, 1) := by decide +kernel
theorem dX2_isLost_0 : decode cX2_isLost 0 = .ok (.aload_n 0, 1) := by decide +kernel
theorem dX2_isLost_1 : decode cX2_isLost 1 = .ok (.getfield 13, 3) := by decide +kernel
theorem dX2_isLost_4 : decode cX2_isLost 4 = .ok (.iconst (-1), 1) := by decide +kernel
theorem dX2_isLost_5 : decode cX2_isLost 5 = .ok (.if_icmp .ne 7, 3) := by decide +kernel
theorem dX2_isLost_8 : decode cX2_isLost 8 = .ok (.iconst 1, 1) := by decide +kernel
theorem dX2_isLost_9 : decode cX2_isLost 9 = .ok (.goto 4, 3) := by decide +kernel
theorem dX2_isLost_12 : decode cX2_isLost 12 = .ok (.iconst 0, 1) := by decide +kernel
theorem dX2_isLost_13 : decode cX2_isLost 13 = .ok (.ireturn, 1) := by decide +kernel
theorem dX2_renew_0 : decode cX2_renew 0 = .ok (.aload_n 0, 1) := by decide +kernel
theorem dX2_renew_1 : decode cX2_renew 1 = .ok (.iload_n 1, 1) := by decide +kernel
theorem dX2_renew_2 : decode cX2_renew 2 = .ok (.putfield 7, 3) := by decide +kernel
theorem dX2_renew_5 : decode cX2_renew 5 = .ok (.aload_n 0, 1) := by decide +kernel
theorem dX2_renew_6 : decode cX2_renew 6 = .ok (.iload_n 2, 1) := by decide +kernel
theorem dX2_renew_7 : decode cX2_renew 7 = .ok (.putfield 13, 3) := by decide +kernel
theorem dX2_renew_10 : decode cX2_renew 10 = .ok (.iconst 0, 1) := by decide +kernel
theorem dX2_renew_11 : decode cX2_renew 11 = .ok (.istore_n 3, 1) := by decide +kernel
theorem dX2_renew_12 : decode cX2_renew 12 = .ok (.iload_n 3, 1) := by decide +kernel
theorem dX2_renew_13 : decode cX2_renew 13 = .ok (.bipush 60, 2) := by decide +kernel
theorem dX2_renew_15 : decode cX2_renew 15 = .ok (.if_icmp .ge 16, 3) := by decide +kernel
theorem dX2_renew_18 : decode cX2_renew 18 = .ok (.aload_n 0, 1) := by decide +kernel
theorem dX2_renew_19 : decode cX2_renew 19 = .ok (.getfield 16, 3) := by decide +kernel
theorem dX2_renew_22 : decode cX2_renew 22 = .ok (.iload_n 3, 1) := by decide +kernel
theorem dX2_renew_23 : decode cX2_renew 23 = .ok (.iconst 0, 1) := by decide +kernel
theorem dX2_renew_24 : decode cX2_renew 24 = .ok (.iastore, 1) := by decide +kernel
theorem dX2_renew_25 : decode cX2_renew 25 = .ok (.iinc 3 1, 3) := by decide +kernel
theorem dX2_renew_28 : decode cX2_renew 28 = .ok (.goto (-16), 3) := by decide +kernel
theorem dX2_renew_31 : decode cX2_renew 31 = .ok (.return_, 1) := by decide +kernel
theorem dX2_hasRange_0 : decode cX2_hasRange 0 = .ok (.iload_n 1, 1) := by decide +kernel
theorem dX2_hasRange_1 : decode cX2_hasRange 1 = .ok (.ifCond .lt 29, 3) := by decide +kernel
theorem dX2_hasRange_4 : decode cX2_hasRange 4 = .ok (.iload_n 2, 1) := by decide +kernel
theorem dX2_hasRange_5 : decode cX2_hasRange 5 = .ok (.ifCond .lt 25, 3) := by decide +kernel
theorem dX2_hasRange_8 : decode cX2_hasRange 8 = .ok (.iload_n 2, 1) := by decide +kernel
theorem dX2_hasRange_9 : decode cX2_hasRange 9 = .ok (.aload_n 0, 1) := by decide +kernel
theorem dX2_hasRange_10 : decode cX2_hasRange 10 = .ok (.getfield 13, 3) := by decide +kernel
theorem dX2_hasRange_13 : decode cX2_hasRange 13 = .ok (.if_icmp .gt 17, 3) := by decide +kernel
theorem dX2_hasRange_16 : decode cX2_hasRange 16 = .ok (.iload_n 1, 1) := by decide +kernel
theorem dX2_hasRange_17 : decode cX2_hasRange 17 = .ok (.aload_n 0, 1) := by decide +kernel
theorem dX2_hasRange_18 : decode cX2_hasRange 18 = .ok (.getfield 13, 3) := by decide +kernel
theorem dX2_hasRange_21 : decode cX2_hasRange 21 = .ok (.iload_n 2, 1) := by decide +kernel
theorem dX2_hasRange_22 : decode cX2_hasRange 22 = .ok (.isub, 1) := by decide +kernel
theorem dX2_hasRange_23 : decode cX2_hasRange 23 = .ok (.if_icmp .gt 7, 3) := by decide +kernel
theorem dX2_hasRange_26 : decode cX2_hasRange 26 = .ok (.iconst 1, 1) := by decide +kernel
theorem dX2_hasRange_27 : decode cX2_hasRange 27 = .ok (.goto 4, 3) := by decide +kernel
theorem dX2_hasRange_30 : decode cX2_hasRange 30 = .ok (.iconst 0, 1) := by decide +kernel
theorem dX2_hasRange_31 : decode cX2_hasRange 31 = .ok (.ireturn, 1) := by decide +kernel
theorem dX2_store_0 : decode cX2_store 0 = .ok (.aload_n 0, 1) := by decide +kernel
theorem dX2_store_1 : decode cX2_store 1 = .ok (.getfield 7, 3) := by decide +kernel
theorem dX2_store_4 : decode cX2_store 4 = .ok (.lookupswitch 50 #[(0, 28), (1, 39)], 28) := by decide +kernel
theorem dX2_store_32 : decode cX2_store 32 = .ok (.aload_n 0, 1) := by decide +kernel
theorem dX2_store_33 : decode cX2_store 33 = .ok (.getfield 16, 3) := by decide +kernel
theorem dX2_store_36 : decode cX2_store 36 = .ok (.iload_n 1, 1) := by decide +kernel
theorem dX2_store_37 : decode cX2_store 37 = .ok (.iload_n 2, 1) := by decide +kernel
theorem dX2_store_38 : decode cX2_store 38 = .ok (.i2b, 1) := by decide +kernel
theorem dX2_store_39 : decode cX2_store 39 = .ok (.iastore, 1) := by decide +kernel
theorem dX2_store_40 : decode cX2_store 40 = .ok (.goto 21, 3) := by decide +kernel
theorem dX2_store_43 : decode cX2_store 43 = .ok (.aload_n 0, 1) := by decide +kernel
theorem dX2_store_44 : decode cX2_store 44 = .ok (.getfield 16, 3) := by decide +kernel
theorem dX2_store_47 : decode cX2_store 47 = .ok (.iload_n 1, 1) := by decide +kernel
theorem dX2_store_48 : decode cX2_store 48 = .ok (.iload_n 2, 1) := by decide +kernel
theorem dX2_store_49 : decode cX2_store 49 = .ok (.i2s, 1) := by decide +kernel
theorem dX2_store_50 : decode cX2_store 50 = .ok (.iastore, 1) := by decide +kernel
theorem dX2_store_51 : decode cX2_store 51 = .ok (.goto 10, 3) := by decide +kernel
theorem dX2_store_54 : decode cX2_store 54 = .ok (.aload_n 0, 1) := by decide +kernel
theorem dX2_store_55 : decode cX2_store 55 = .ok (.getfield 16, 3) := by decide +kernel
theorem dX2_store_58 : decode cX2_store 58 = .ok (.iload_n 1, 1) := by decide +kernel
theorem dX2_store_59 : decode cX2_store 59 = .ok (.iload_n 2, 1) := by decide +kernel
theorem dX2_store_60 : decode cX2_store 60 = .ok (.iastore, 1) := by decide +kernel
theorem dX2_store_61 : decode cX2_store 61 = .ok (.return_, 1) := by decide +kernel
theorem dX3_init_0 : decode cX3_init 0 = .ok (.aload_n 0, 1) := by decide +kernel
theorem dX3_init_1 : decode cX3_init 1 = .ok (.invokespecial 3, 3) := by decide +kernel
theorem dX3_init_4 : decode cX3_init 4 = .ok (.aload_n 0, 1) := by decide +kernel
theorem dX3_init_5 : decode cX3_init 5 = .ok (.iconst 0, 1) := by decide +kernel
theorem dX3_init_6 : decode cX3_init 6 = .ok (.putfield 9, 3) := by decide +kernel
theorem dX3_init_9 : decode cX3_init 9 = .ok (.aload_n 0, 1) := by decide +kernel
theorem dX3_init_10 : decode cX3_init 10 = .ok (.bipush 12, 2) := by decide +kernel
theorem dX3_init_12 : decode cX3_init 12 = .ok (.newarray .int, 2) := by decide +kernel
theorem dX3_init_14 : decode cX3_init 14 = .ok (.putfield 15, 3) := by decide +kernel
theorem dX3_init_17 : decode cX3_init 17 = .ok (.return_, 1) := by decide +kernel
theorem dX3_append_0 : decode cX3_append 0 = .ok (.aload_n 0, 1) := by decide +kernel
theorem dX3_append_1 : decode cX3_append 1 = .ok (.getfield 9, 3) := by decide +kernel
theorem dX3_append_4 : decode cX3_append 4 = .ok (.bipush 12, 2) := by decide +kernel
theorem dX3_append_6 : decode cX3_append 6 = .ok (.if_icmp .lt 5, 3) := by decide +kernel
theorem dX3_append_9 : decode cX3_append 9 = .ok (.iconst 0, 1) := by decide +kernel
theorem dX3_append_10 : decode cX3_append 10 = .ok (.ireturn, 1) := by decide +kernel
theorem dX3_append_11 : decode cX3_append 11 = .ok (.aload_n 0, 1) := by decide +kernel
theorem dX3_append_12 : decode cX3_append 12 = .ok (.getfield 15, 3) := by decide +kernel
theorem dX3_append_15 : decode cX3_append 15 = .ok (.aload_n 0, 1) := by decide +kernel
theorem dX3_append_16 : decode cX3_append 16 = .ok (.getfield 9, 3) := by decide +kernel
theorem dX3_append_19 : decode cX3_append 19 = .ok (.iload_n 1, 1) := by decide +kernel
theorem dX3_append_20 : decode cX3_append 20 = .ok (.iastore, 1) := by decide +kernel
theorem dX3_append_21 : decode cX3_append 21 = .ok (.aload_n 0, 1) := by decide +kernel
theorem dX3_append_22 : decode cX3_append 22 = .ok (.dup, 1) := by decide +kernel
theorem dX3_append_23 : decode cX3_append 23 = .ok (.getfield 9, 3) := by decide +kernel
theorem dX3_append_26 : decode cX3_append 26 = .ok (.iconst 1, 1) := by decide +kernel
theorem dX3_append_27 : decode cX3_append 27 = .ok (.iadd, 1) := by decide +kernel
theorem dX3_append_28 : decode cX3_append 28 = .ok (.putfield 9, 3) := by decide +kernel
theorem dX3_append_31 : decode cX3_append 31 = .ok (.iconst 1, 1) := by decide +kernel
theorem dX3_append_32 : decode cX3_append 32 = .ok (.ireturn, 1) := by decide +kernel
theorem dX3_firstWrong_0 : decode cX3_firstWrong 0 = .ok (.iconst 0, 1) := by decide +kernel
theorem dX3_firstWrong_1 : decode cX3_firstWrong 1 = .ok (.istore_n 2, 1) := by decide +kernel
theorem dX3_firstWrong_2 : decode cX3_firstWrong 2 = .ok (.iload_n 2, 1) := by decide +kernel
theorem dX3_firstWrong_3 : decode cX3_firstWrong 3 = .ok (.aload_n 0, 1) := by decide +kernel
theorem dX3_firstWrong_4 : decode cX3_firstWrong 4 = .ok (.getfield 9, 3) := by decide +kernel
theorem dX3_firstWrong_7 : decode cX3_firstWrong 7 = .ok (.if_icmp .ge 30, 3) := by decide +kernel
theorem dX3_firstWrong_10 : decode cX3_firstWrong 10 = .ok (.aload_n 0, 1) := by decide +kernel
theorem dX3_firstWrong_11 : decode cX3_firstWrong 11 = .ok (.getfield 15, 3) := by decide +kernel
theorem dX3_firstWrong_14 : decode cX3_firstWrong 14 = .ok (.iload_n 2, 1) := by decide +kernel
theorem dX3_firstWrong_15 : decode cX3_firstWrong 15 = .ok (.iaload, 1) := by decide +kernel
theorem dX3_firstWrong_16 : decode cX3_firstWrong 16 = .ok (.bipush 97, 2) := by decide +kernel
theorem dX3_firstWrong_18 : decode cX3_firstWrong 18 = .ok (.isub, 1) := by decide +kernel
theorem dX3_firstWrong_19 : decode cX3_firstWrong 19 = .ok (.istore_n 3, 1) := by decide +kernel
theorem dX3_firstWrong_20 : decode cX3_firstWrong 20 = .ok (.iload_n 3, 1) := by decide +kernel
theorem dX3_firstWrong_21 : decode cX3_firstWrong 21 = .ok (.ifCond .lt 8, 3) := by decide +kernel
theorem dX3_firstWrong_24 : decode cX3_firstWrong 24 = .ok (.iload_n 3, 1) := by decide +kernel
theorem dX3_firstWrong_25 : decode cX3_firstWrong 25 = .ok (.iload_n 1, 1) := by decide +kernel
theorem dX3_firstWrong_26 : decode cX3_firstWrong 26 = .ok (.if_icmp .lt 5, 3) := by decide +kernel
theorem dX3_firstWrong_29 : decode cX3_firstWrong 29 = .ok (.iload_n 2, 1) := by decide +kernel
theorem dX3_firstWrong_30 : decode cX3_firstWrong 30 = .ok (.ireturn, 1) := by decide +kernel
theorem dX3_firstWrong_31 : decode cX3_firstWrong 31 = .ok (.iinc 2 1, 3) := by decide +kernel
theorem dX3_firstWrong_34 : decode cX3_firstWrong 34 = .ok (.goto (-32), 3) := by decide +kernel
theorem dX3_firstWrong_37 : decode cX3_firstWrong 37 = .ok (.iconst (-1), 1) := by decide +kernel
theorem dX3_firstWrong_38 : decode cX3_firstWrong 38 = .ok (.ireturn, 1) := by decide +kernel
theorem dX4_init_0 : decode cX4_init 0 = .ok (.aload_n 0, 1) := by decide +kernel
theorem dX4_init_1 : decode cX4_init 1 = .ok (.invokespecial 3, 3) := by decide +kernel
theorem dX4_init_4 : decode cX4_init 4 = .ok (.aload_n 0, 1) := by decide +kernel
theorem dX4_init_5 : decode cX4_init 5 = .ok (.aload_n 1, 1) := by decide +kernel
theorem dX4_init_6 : decode cX4_init 6 = .ok (.putfield 9, 3) := by decide +kernel
theorem dX4_init_9 : decode cX4_init 9 = .ok (.aload_n 0, 1) := by decide +kernel
theorem dX4_init_10 : decode cX4_init 10 = .ok (.iconst 0, 1) := by decide +kernel
theorem dX4_init_11 : decode cX4_init 11 = .ok (.putfield 15, 3) := by decide +kernel
theorem dX4_init_14 : decode cX4_init 14 = .ok (.aload_n 0, 1) := by decide +kernel
theorem dX4_init_15 : decode cX4_init 15 = .ok (.iconst 5, 1) := by decide +kernel
theorem dX4_init_16 : decode cX4_init 16 = .ok (.newarray .int, 2) := by decide +kernel
theorem dX4_init_18 : decode cX4_init 18 = .ok (.putfield 21, 3) := by decide +kernel
theorem dX4_init_21 : decode cX4_init 21 = .ok (.aload_n 0, 1) := by decide +kernel
theorem dX4_init_22 : decode cX4_init 22 = .ok (.iconst 5, 1) := by decide +kernel
theorem dX4_init_23 : decode cX4_init 23 = .ok (.newarray .int, 2) := by decide +kernel
theorem dX4_init_25 : decode cX4_init 25 = .ok (.putfield 25, 3) := by decide +kernel
theorem dX4_init_28 : decode cX4_init 28 = .ok (.return_, 1) := by decide +kernel
theorem dX4_stepOf_0 : decode cX4_stepOf 0 = .ok (.aload_n 0, 1) := by decide +kernel
theorem dX4_stepOf_1 : decode cX4_stepOf 1 = .ok (.getfield 9, 3) := by decide +kernel
theorem dX4_stepOf_4 : decode cX4_stepOf 4 = .ok (.iload_n 1, 1) := by decide +kernel
theorem dX4_stepOf_5 : decode cX4_stepOf 5 = .ok (.aload_n 2, 1) := by decide +kernel
theorem dX4_stepOf_6 : decode cX4_stepOf 6 = .ok (.invokevirtual 28, 3) := by decide +kernel
theorem dX4_stepOf_9 : decode cX4_stepOf 9 = .ok (.aload_n 0, 1) := by decide +kernel
theorem dX4_stepOf_10 : decode cX4_stepOf 10 = .ok (.getfield 9, 3) := by decide +kernel
theorem dX4_stepOf_13 : decode cX4_stepOf 13 = .ok (.getfield 32, 3) := by decide +kernel
theorem dX4_stepOf_16 : decode cX4_stepOf 16 = .ok (.iload_n 1, 1) := by decide +kernel
theorem dX4_stepOf_17 : decode cX4_stepOf 17 = .ok (.iaload, 1) := by decide +kernel
theorem dX4_stepOf_18 : decode cX4_stepOf 18 = .ok (.invokestatic 35, 3) := by decide +kernel
theorem dX4_stepOf_21 : decode cX4_stepOf 21 = .ok (.ireturn, 1) := by decide +kernel
theorem dX4_takeTurn_0 : decode cX4_takeTurn 0 = .ok (.iconst 0, 1) := by decide +kernel
theorem dX4_takeTurn_1 : decode cX4_takeTurn 1 = .ok (.istore_n 2, 1) := by decide +kernel
theorem dX4_takeTurn_2 : decode cX4_takeTurn 2 = .ok (.iconst 0, 1) := by decide +kernel
theorem dX4_takeTurn_3 : decode cX4_takeTurn 3 = .ok (.istore_n 3, 1) := by decide +kernel
theorem dX4_takeTurn_4 : decode cX4_takeTurn 4 = .ok (.iload_n 3, 1) := by decide +kernel
theorem dX4_takeTurn_5 : decode cX4_takeTurn 5 = .ok (.aload_n 0, 1) := by decide +kernel
theorem dX4_takeTurn_6 : decode cX4_takeTurn 6 = .ok (.getfield 9, 3) := by decide +kernel
theorem dX4_takeTurn_9 : decode cX4_takeTurn 9 = .ok (.getfield 41, 3) := by decide +kernel
theorem dX4_takeTurn_12 : decode cX4_takeTurn 12 = .ok (.if_icmp .ge 53, 3) := by decide +kernel
theorem dX4_takeTurn_15 : decode cX4_takeTurn 15 = .ok (.aload_n 0, 1) := by decide +kernel
theorem dX4_takeTurn_16 : decode cX4_takeTurn 16 = .ok (.getfield 25, 3) := by decide +kernel
theorem dX4_takeTurn_19 : decode cX4_takeTurn 19 = .ok (.iload_n 3, 1) := by decide +kernel
theorem dX4_takeTurn_20 : decode cX4_takeTurn 20 = .ok (.aload_n 0, 1) := by decide +kernel
theorem dX4_takeTurn_21 : decode cX4_takeTurn 21 = .ok (.iload_n 3, 1) := by decide +kernel
theorem dX4_takeTurn_22 : decode cX4_takeTurn 22 = .ok (.aload_n 1, 1) := by decide +kernel
theorem dX4_takeTurn_23 : decode cX4_takeTurn 23 = .ok (.invokevirtual 44, 3) := by decide +kernel
theorem dX4_takeTurn_26 : decode cX4_takeTurn 26 = .ok (.iastore, 1) := by decide +kernel
theorem dX4_takeTurn_27 : decode cX4_takeTurn 27 = .ok (.aload_n 0, 1) := by decide +kernel
theorem dX4_takeTurn_28 : decode cX4_takeTurn 28 = .ok (.getfield 25, 3) := by decide +kernel
theorem dX4_takeTurn_31 : decode cX4_takeTurn 31 = .ok (.iload_n 3, 1) := by decide +kernel
theorem dX4_takeTurn_32 : decode cX4_takeTurn 32 = .ok (.iaload, 1) := by decide +kernel
theorem dX4_takeTurn_33 : decode cX4_takeTurn 33 = .ok (.aload_n 1, 1) := by decide +kernel
theorem dX4_takeTurn_34 : decode cX4_takeTurn 34 = .ok (.iload_n 3, 1) := by decide +kernel
theorem dX4_takeTurn_35 : decode cX4_takeTurn 35 = .ok (.iaload, 1) := by decide +kernel
theorem dX4_takeTurn_36 : decode cX4_takeTurn 36 = .ok (.if_icmp .eq 6, 3) := by decide +kernel
theorem dX4_takeTurn_39 : decode cX4_takeTurn 39 = .ok (.iinc 2 1, 3) := by decide +kernel
theorem dX4_takeTurn_42 : decode cX4_takeTurn 42 = .ok (.aload_n 0, 1) := by decide +kernel
theorem dX4_takeTurn_43 : decode cX4_takeTurn 43 = .ok (.getfield 15, 3) := by decide +kernel
theorem dX4_takeTurn_46 : decode cX4_takeTurn 46 = .ok (.iconst 1, 1) := by decide +kernel
theorem dX4_takeTurn_47 : decode cX4_takeTurn 47 = .ok (.if_icmp .ne 12, 3) := by decide +kernel
theorem dX4_takeTurn_50 : decode cX4_takeTurn 50 = .ok (.aload_n 1, 1) := by decide +kernel
theorem dX4_takeTurn_51 : decode cX4_takeTurn 51 = .ok (.iload_n 3, 1) := by decide +kernel
theorem dX4_takeTurn_52 : decode cX4_takeTurn 52 = .ok (.aload_n 0, 1) := by decide +kernel
theorem dX4_takeTurn_53 : decode cX4_takeTurn 53 = .ok (.getfield 25, 3) := by decide +kernel
theorem dX4_takeTurn_56 : decode cX4_takeTurn 56 = .ok (.iload_n 3, 1) := by decide +kernel
theorem dX4_takeTurn_57 : decode cX4_takeTurn 57 = .ok (.iaload, 1) := by decide +kernel
theorem dX4_takeTurn_58 : decode cX4_takeTurn 58 = .ok (.iastore, 1) := by decide +kernel
theorem dX4_takeTurn_59 : decode cX4_takeTurn 59 = .ok (.iinc 3 1, 3) := by decide +kernel
theorem dX4_takeTurn_62 : decode cX4_takeTurn 62 = .ok (.goto (-58), 3) := by decide +kernel
theorem dX4_takeTurn_65 : decode cX4_takeTurn 65 = .ok (.aload_n 0, 1) := by decide +kernel
theorem dX4_takeTurn_66 : decode cX4_takeTurn 66 = .ok (.getfield 25, 3) := by decide +kernel
theorem dX4_takeTurn_69 : decode cX4_takeTurn 69 = .ok (.iconst 0, 1) := by decide +kernel
theorem dX4_takeTurn_70 : decode cX4_takeTurn 70 = .ok (.aload_n 1, 1) := by decide +kernel
theorem dX4_takeTurn_71 : decode cX4_takeTurn 71 = .ok (.iconst 0, 1) := by decide +kernel
theorem dX4_takeTurn_72 : decode cX4_takeTurn 72 = .ok (.aload_n 0, 1) := by decide +kernel
theorem dX4_takeTurn_73 : decode cX4_takeTurn 73 = .ok (.getfield 9, 3) := by decide +kernel
theorem dX4_takeTurn_76 : decode cX4_takeTurn 76 = .ok (.getfield 41, 3) := by decide +kernel
theorem dX4_takeTurn_79 : decode cX4_takeTurn 79 = .ok (.invokestatic 47, 3) := by decide +kernel
theorem dX4_takeTurn_82 : decode cX4_takeTurn 82 = .ok (.iload_n 2, 1) := by decide +kernel
theorem dX4_takeTurn_83 : decode cX4_takeTurn 83 = .ok (.ireturn, 1) := by decide +kernel
theorem dX4_goalOf_0 : decode cX4_goalOf 0 = .ok (.aload_n 0, 1) := by decide +kernel
theorem dX4_goalOf_1 : decode cX4_goalOf 1 = .ok (.getfield 9, 3) := by decide +kernel
theorem dX4_goalOf_4 : decode cX4_goalOf 4 = .ok (.iload_n 1, 1) := by decide +kernel
theorem dX4_goalOf_5 : decode cX4_goalOf 5 = .ok (.invokevirtual 53, 3) := by decide +kernel
theorem dX4_goalOf_8 : decode cX4_goalOf 8 = .ok (.ifCond .ne 7, 3) := by decide +kernel
theorem dX4_goalOf_11 : decode cX4_goalOf 11 = .ok (.aload_n 2, 1) := by decide +kernel
theorem dX4_goalOf_12 : decode cX4_goalOf 12 = .ok (.iload_n 1, 1) := by decide +kernel
theorem dX4_goalOf_13 : decode cX4_goalOf 13 = .ok (.iaload, 1) := by decide +kernel
theorem dX4_goalOf_14 : decode cX4_goalOf 14 = .ok (.ireturn, 1) := by decide +kernel
theorem dX4_goalOf_15 : decode cX4_goalOf 15 = .ok (.aload_n 0, 1) := by decide +kernel
theorem dX4_goalOf_16 : decode cX4_goalOf 16 = .ok (.iload_n 1, 1) := by decide +kernel
theorem dX4_goalOf_17 : decode cX4_goalOf 17 = .ok (.aload_n 2, 1) := by decide +kernel
theorem dX4_goalOf_18 : decode cX4_goalOf 18 = .ok (.invokevirtual 57, 3) := by decide +kernel
theorem dX4_goalOf_21 : decode cX4_goalOf 21 = .ok (.istore_n 3, 1) := by decide +kernel
theorem dX4_goalOf_22 : decode cX4_goalOf 22 = .ok (.aload_n 0, 1) := by decide +kernel
theorem dX4_goalOf_23 : decode cX4_goalOf 23 = .ok (.getfield 15, 3) := by decide +kernel
theorem dX4_goalOf_26 : decode cX4_goalOf 26 = .ok (.iconst 2, 1) := by decide +kernel
theorem dX4_goalOf_27 : decode cX4_goalOf 27 = .ok (.if_icmp .ne 15, 3) := by decide +kernel
theorem dX4_goalOf_30 : decode cX4_goalOf 30 = .ok (.aload_n 2, 1) := by decide +kernel
theorem dX4_goalOf_31 : decode cX4_goalOf 31 = .ok (.iload_n 1, 1) := by decide +kernel
theorem dX4_goalOf_32 : decode cX4_goalOf 32 = .ok (.iaload, 1) := by decide +kernel
theorem dX4_goalOf_33 : decode cX4_goalOf 33 = .ok (.iload_n 3, 1) := by decide +kernel
theorem dX4_goalOf_34 : decode cX4_goalOf 34 = .ok (.iadd, 1) := by decide +kernel
theorem dX4_goalOf_35 : decode cX4_goalOf 35 = .ok (.iconst 1, 1) := by decide +kernel
theorem dX4_goalOf_36 : decode cX4_goalOf 36 = .ok (.iadd, 1) := by decide +kernel
theorem dX4_goalOf_37 : decode cX4_goalOf 37 = .ok (.iconst 2, 1) := by decide +kernel
theorem dX4_goalOf_38 : decode cX4_goalOf 38 = .ok (.idiv, 1) := by decide +kernel
theorem dX4_goalOf_39 : decode cX4_goalOf 39 = .ok (.goto 4, 3) := by decide +kernel
theorem dX4_goalOf_42 : decode cX4_goalOf 42 = .ok (.iload_n 3, 1) := by decide +kernel
theorem dX4_goalOf_43 : decode cX4_goalOf 43 = .ok (.ireturn, 1) := by decide +kernel
theorem dX4_settle_0 : decode cX4_settle 0 = .ok (.aload_n 0, 1) := by decide +kernel
theorem dX4_settle_1 : decode cX4_settle 1 = .ok (.getfield 9, 3) := by decide +kernel
theorem dX4_settle_4 : decode cX4_settle 4 = .ok (.getfield 60, 3) := by decide +kernel
theorem dX4_settle_7 : decode cX4_settle 7 = .ok (.iconst 0, 1) := by decide +kernel
theorem dX4_settle_8 : decode cX4_settle 8 = .ok (.aload_n 0, 1) := by decide +kernel
theorem dX4_settle_9 : decode cX4_settle 9 = .ok (.getfield 21, 3) := by decide +kernel
theorem dX4_settle_12 : decode cX4_settle 12 = .ok (.iconst 0, 1) := by decide +kernel
theorem dX4_settle_13 : decode cX4_settle 13 = .ok (.iconst 5, 1) := by decide +kernel
theorem dX4_settle_14 : decode cX4_settle 14 = .ok (.invokestatic 47, 3) := by decide +kernel
theorem dX4_settle_17 : decode cX4_settle 17 = .ok (.iconst 0, 1) := by decide +kernel
theorem dX4_settle_18 : decode cX4_settle 18 = .ok (.istore_n 1, 1) := by decide +kernel
theorem dX4_settle_19 : decode cX4_settle 19 = .ok (.iload_n 1, 1) := by decide +kernel
theorem dX4_settle_20 : decode cX4_settle 20 = .ok (.sipush 200, 3) := by decide +kernel
theorem dX4_settle_23 : decode cX4_settle 23 = .ok (.if_icmp .ge 22, 3) := by decide +kernel
theorem dX4_settle_26 : decode cX4_settle 26 = .ok (.aload_n 0, 1) := by decide +kernel
theorem dX4_settle_27 : decode cX4_settle 27 = .ok (.aload_n 0, 1) := by decide +kernel
theorem dX4_settle_28 : decode cX4_settle 28 = .ok (.getfield 21, 3) := by decide +kernel
theorem dX4_settle_31 : decode cX4_settle 31 = .ok (.invokevirtual 63, 3) := by decide +kernel
theorem dX4_settle_34 : decode cX4_settle 34 = .ok (.ifCond .ne 5, 3) := by decide +kernel
theorem dX4_settle_37 : decode cX4_settle 37 = .ok (.iload_n 1, 1) := by decide +kernel
theorem dX4_settle_38 : decode cX4_settle 38 = .ok (.ireturn, 1) := by decide +kernel
theorem dX4_settle_39 : decode cX4_settle 39 = .ok (.iinc 1 1, 3) := by decide +kernel
theorem dX4_settle_42 : decode cX4_settle 42 = .ok (.goto (-23), 3) := by decide +kernel
theorem dX4_settle_45 : decode cX4_settle 45 = .ok (.aload_n 0, 1) := by decide +kernel
theorem dX4_settle_46 : decode cX4_settle 46 = .ok (.aload_n 0, 1) := by decide +kernel
theorem dX4_settle_47 : decode cX4_settle 47 = .ok (.getfield 21, 3) := by decide +kernel
theorem dX4_settle_50 : decode cX4_settle 50 = .ok (.invokevirtual 67, 3) := by decide +kernel
theorem dX4_settle_53 : decode cX4_settle 53 = .ok (.ifCond .eq 7, 3) := by decide +kernel
theorem dX4_settle_56 : decode cX4_settle 56 = .ok (.iconst (-1), 1) := by decide +kernel
theorem dX4_settle_57 : decode cX4_settle 57 = .ok (.goto 6, 3) := by decide +kernel
theorem dX4_settle_60 : decode cX4_settle 60 = .ok (.sipush 200, 3) := by decide +kernel
theorem dX4_settle_63 : decode cX4_settle 63 = .ok (.ireturn, 1) := by decide +kernel
theorem dX4_wouldMove_0 : decode cX4_wouldMove 0 = .ok (.iconst 0, 1) := by decide +kernel
theorem dX4_wouldMove_1 : decode cX4_wouldMove 1 = .ok (.istore_n 2, 1) := by decide +kernel
theorem dX4_wouldMove_2 : decode cX4_wouldMove 2 = .ok (.iload_n 2, 1) := by decide +kernel
theorem dX4_wouldMove_3 : decode cX4_wouldMove 3 = .ok (.aload_n 0, 1) := by decide +kernel
theorem dX4_wouldMove_4 : decode cX4_wouldMove 4 = .ok (.getfield 9, 3) := by decide +kernel
theorem dX4_wouldMove_7 : decode cX4_wouldMove 7 = .ok (.getfield 41, 3) := by decide +kernel
theorem dX4_wouldMove_10 : decode cX4_wouldMove 10 = .ok (.if_icmp .ge 23, 3) := by decide +kernel
theorem dX4_wouldMove_13 : decode cX4_wouldMove 13 = .ok (.aload_n 0, 1) := by decide +kernel
theorem dX4_wouldMove_14 : decode cX4_wouldMove 14 = .ok (.iload_n 2, 1) := by decide +kernel
theorem dX4_wouldMove_15 : decode cX4_wouldMove 15 = .ok (.aload_n 1, 1) := by decide +kernel
theorem dX4_wouldMove_16 : decode cX4_wouldMove 16 = .ok (.invokevirtual 44, 3) := by decide +kernel
theorem dX4_wouldMove_19 : decode cX4_wouldMove 19 = .ok (.aload_n 1, 1) := by decide +kernel
theorem dX4_wouldMove_20 : decode cX4_wouldMove 20 = .ok (.iload_n 2, 1) := by decide +kernel
theorem dX4_wouldMove_21 : decode cX4_wouldMove 21 = .ok (.iaload, 1) := by decide +kernel
theorem dX4_wouldMove_22 : decode cX4_wouldMove 22 = .ok (.if_icmp .eq 5, 3) := by decide +kernel
theorem dX4_wouldMove_25 : decode cX4_wouldMove 25 = .ok (.iconst 1, 1) := by decide +kernel
theorem dX4_wouldMove_26 : decode cX4_wouldMove 26 = .ok (.ireturn, 1) := by decide +kernel
theorem dX4_wouldMove_27 : decode cX4_wouldMove 27 = .ok (.iinc 2 1, 3) := by decide +kernel
theorem dX4_wouldMove_30 : decode cX4_wouldMove 30 = .ok (.goto (-28), 3) := by decide +kernel
theorem dX4_wouldMove_33 : decode cX4_wouldMove 33 = .ok (.iconst 0, 1) := by decide +kernel
theorem dX4_wouldMove_34 : decode cX4_wouldMove 34 = .ok (.ireturn, 1) := by decide +kernel
theorem dJ6_bitCount_0f7a4_0 : decode cJ6_bitCount_0f7a4 0 = .ok (.iload_n 0, 1) := by decide +kernel
theorem dJ6_bitCount_0f7a4_1 : decode cJ6_bitCount_0f7a4 1 = .ok (.iload_n 0, 1) := by decide +kernel
theorem dJ6_bitCount_0f7a4_2 : decode cJ6_bitCount_0f7a4 2 = .ok (.iconst 1, 1) := by decide +kernel
theorem dJ6_bitCount_0f7a4_3 : decode cJ6_bitCount_0f7a4 3 = .ok (.iushr, 1) := by decide +kernel
theorem dJ6_bitCount_0f7a4_4 : decode cJ6_bitCount_0f7a4 4 = .ok (.ldc_w 265, 3) := by decide +kernel
theorem dJ6_bitCount_0f7a4_7 : decode cJ6_bitCount_0f7a4 7 = .ok (.iand, 1) := by decide +kernel
theorem dJ6_bitCount_0f7a4_8 : decode cJ6_bitCount_0f7a4 8 = .ok (.isub, 1) := by decide +kernel
theorem dJ6_bitCount_0f7a4_9 : decode cJ6_bitCount_0f7a4 9 = .ok (.istore_n 0, 1) := by decide +kernel
theorem dJ6_bitCount_0f7a4_10 : decode cJ6_bitCount_0f7a4 10 = .ok (.iload_n 0, 1) := by decide +kernel
theorem dJ6_bitCount_0f7a4_11 : decode cJ6_bitCount_0f7a4 11 = .ok (.ldc_w 266, 3) := by decide +kernel
theorem dJ6_bitCount_0f7a4_14 : decode cJ6_bitCount_0f7a4 14 = .ok (.iand, 1) := by decide +kernel
theorem dJ6_bitCount_0f7a4_15 : decode cJ6_bitCount_0f7a4 15 = .ok (.iload_n 0, 1) := by decide +kernel
theorem dJ6_bitCount_0f7a4_16 : decode cJ6_bitCount_0f7a4 16 = .ok (.iconst 2, 1) := by decide +kernel
theorem dJ6_bitCount_0f7a4_17 : decode cJ6_bitCount_0f7a4 17 = .ok (.iushr, 1) := by decide +kernel
theorem dJ6_bitCount_0f7a4_18 : decode cJ6_bitCount_0f7a4 18 = .ok (.ldc_w 266, 3) := by decide +kernel
theorem dJ6_bitCount_0f7a4_21 : decode cJ6_bitCount_0f7a4 21 = .ok (.iand, 1) := by decide +kernel
theorem dJ6_bitCount_0f7a4_22 : decode cJ6_bitCount_0f7a4 22 = .ok (.iadd, 1) := by decide +kernel
theorem dJ6_bitCount_0f7a4_23 : decode cJ6_bitCount_0f7a4 23 = .ok (.istore_n 0, 1) := by decide +kernel
theorem dJ6_bitCount_0f7a4_24 : decode cJ6_bitCount_0f7a4 24 = .ok (.iload_n 0, 1) := by decide +kernel
theorem dJ6_bitCount_0f7a4_25 : decode cJ6_bitCount_0f7a4 25 = .ok (.iload_n 0, 1) := by decide +kernel
theorem dJ6_bitCount_0f7a4_26 : decode cJ6_bitCount_0f7a4 26 = .ok (.iconst 4, 1) := by decide +kernel
theorem dJ6_bitCount_0f7a4_27 : decode cJ6_bitCount_0f7a4 27 = .ok (.iushr, 1) := by decide +kernel
theorem dJ6_bitCount_0f7a4_28 : decode cJ6_bitCount_0f7a4 28 = .ok (.iadd, 1) := by decide +kernel
theorem dJ6_bitCount_0f7a4_29 : decode cJ6_bitCount_0f7a4 29 = .ok (.ldc_w 267, 3) := by decide +kernel
theorem dJ6_bitCount_0f7a4_32 : decode cJ6_bitCount_0f7a4 32 = .ok (.iand, 1) := by decide +kernel
theorem dJ6_bitCount_0f7a4_33 : decode cJ6_bitCount_0f7a4 33 = .ok (.istore_n 0, 1) := by decide +kernel
theorem dJ6_bitCount_0f7a4_34 : decode cJ6_bitCount_0f7a4 34 = .ok (.iload_n 0, 1) := by decide +kernel
theorem dJ6_bitCount_0f7a4_35 : decode cJ6_bitCount_0f7a4 35 = .ok (.iload_n 0, 1) := by decide +kernel
theorem dJ6_bitCount_0f7a4_36 : decode cJ6_bitCount_0f7a4 36 = .ok (.bipush 8, 2) := by decide +kernel
theorem dJ6_bitCount_0f7a4_38 : decode cJ6_bitCount_0f7a4 38 = .ok (.iushr, 1) := by decide +kernel
theorem dJ6_bitCount_0f7a4_39 : decode cJ6_bitCount_0f7a4 39 = .ok (.iadd, 1) := by decide +kernel
theorem dJ6_bitCount_0f7a4_40 : decode cJ6_bitCount_0f7a4 40 = .ok (.istore_n 0, 1) := by decide +kernel
theorem dJ6_bitCount_0f7a4_41 : decode cJ6_bitCount_0f7a4 41 = .ok (.iload_n 0, 1) := by decide +kernel
theorem dJ6_bitCount_0f7a4_42 : decode cJ6_bitCount_0f7a4 42 = .ok (.iload_n 0, 1) := by decide +kernel
theorem dJ6_bitCount_0f7a4_43 : decode cJ6_bitCount_0f7a4 43 = .ok (.bipush 16, 2) := by decide +kernel
theorem dJ6_bitCount_0f7a4_45 : decode cJ6_bitCount_0f7a4 45 = .ok (.iushr, 1) := by decide +kernel
theorem dJ6_bitCount_0f7a4_46 : decode cJ6_bitCount_0f7a4 46 = .ok (.iadd, 1) := by decide +kernel
theorem dJ6_bitCount_0f7a4_47 : decode cJ6_bitCount_0f7a4 47 = .ok (.istore_n 0, 1) := by decide +kernel
theorem dJ6_bitCount_0f7a4_48 : decode cJ6_bitCount_0f7a4 48 = .ok (.iload_n 0, 1) := by decide +kernel
theorem dJ6_bitCount_0f7a4_49 : decode cJ6_bitCount_0f7a4 49 = .ok (.bipush 63, 2) := by decide +kernel
theorem dJ6_bitCount_0f7a4_51 : decode cJ6_bitCount_0f7a4 51 = .ok (.iand, 1) := by decide +kernel
theorem dJ6_bitCount_0f7a4_52 : decode cJ6_bitCount_0f7a4 52 = .ok (.ireturn, 1) := by decide +kernel
theorem dJ9_max_7cf53_0 : decode cJ9_max_7cf53 0 = .ok (.iload_n 0, 1) := by decide +kernel
theorem dJ9_max_7cf53_1 : decode cJ9_max_7cf53 1 = .ok (.iload_n 1, 1) := by decide +kernel
theorem dJ9_max_7cf53_2 : decode cJ9_max_7cf53 2 = .ok (.if_icmp .lt 7, 3) := by decide +kernel
theorem dJ9_max_7cf53_5 : decode cJ9_max_7cf53 5 = .ok (.iload_n 0, 1) := by decide +kernel
theorem dJ9_max_7cf53_6 : decode cJ9_max_7cf53 6 = .ok (.goto 4, 3) := by decide +kernel
theorem dJ9_max_7cf53_9 : decode cJ9_max_7cf53 9 = .ok (.iload_n 1, 1) := by decide +kernel
theorem dJ9_max_7cf53_10 : decode cJ9_max_7cf53 10 = .ok (.ireturn, 1) := by decide +kernel
theorem dJ9_max_f86c9_0 : decode cJ9_max_f86c9 0 = .ok (.lload_n 0, 1) := by decide +kernel
theorem dJ9_max_f86c9_1 : decode cJ9_max_f86c9 1 = .ok (.lload_n 2, 1) := by decide +kernel
theorem dJ9_max_f86c9_2 : decode cJ9_max_f86c9 2 = .ok (.lcmp, 1) := by decide +kernel
theorem dJ9_max_f86c9_3 : decode cJ9_max_f86c9 3 = .ok (.ifCond .lt 7, 3) := by decide +kernel
theorem dJ9_max_f86c9_6 : decode cJ9_max_f86c9 6 = .ok (.lload_n 0, 1) := by decide +kernel
theorem dJ9_max_f86c9_7 : decode cJ9_max_f86c9 7 = .ok (.goto 4, 3) := by decide +kernel
theorem dJ9_max_f86c9_10 : decode cJ9_max_f86c9 10 = .ok (.lload_n 2, 1) := by decide +kernel
theorem dJ9_max_f86c9_11 : decode cJ9_max_f86c9 11 = .ok (.lreturn, 1) := by decide +kernel
theorem dJ9_min_7cf53_0 : decode cJ9_min_7cf53 0 = .ok (.iload_n 0, 1) := by decide +kernel
theorem dJ9_min_7cf53_1 : decode cJ9_min_7cf53 1 = .ok (.iload_n 1, 1) := by decide +kernel
theorem dJ9_min_7cf53_2 : decode cJ9_min_7cf53 2 = .ok (.if_icmp .gt 7, 3) := by decide +kernel
theorem dJ9_min_7cf53_5 : decode cJ9_min_7cf53 5 = .ok (.iload_n 0, 1) := by decide +kernel
theorem dJ9_min_7cf53_6 : decode cJ9_min_7cf53 6 = .ok (.goto 4, 3) := by decide +kernel
theorem dJ9_min_7cf53_9 : decode cJ9_min_7cf53 9 = .ok (.iload_n 1, 1) := by decide +kernel
theorem dJ9_min_7cf53_10 : decode cJ9_min_7cf53 10 = .ok (.ireturn, 1) := by decide +kernel
end
section
theorem dX5_init_0 : decode cX5_init 0 = .ok (.aload_n 0, 1) := by decide +kernel
theorem dX5_init_1 : decode cX5_init 1 = .ok (.invokespecial 1, 3) := by decide +kernel
theorem dX5_init_4 : decode cX5_init 4 = .ok (.aload_n 0, 1) := by decide +kernel
theorem dX5_init_5 : decode cX5_init 5 = .ok (.new 7, 3) := by decide +kernel
theorem dX5_init_8 : decode cX5_init 8 = .ok (.dup, 1) := by decide +kernel
theorem dX5_init_9 : decode cX5_init 9 = .ok (.invokespecial 9, 3) := by decide +kernel
theorem dX5_init_12 : decode cX5_init 12 = .ok (.putfield 10, 3) := by decide +kernel
theorem dX5_init_15 : decode cX5_init 15 = .ok (.aload_n 0, 1) := by decide +kernel
theorem dX5_init_16 : decode cX5_init 16 = .ok (.new 16, 3) := by decide +kernel
theorem dX5_init_19 : decode cX5_init 19 = .ok (.dup, 1) := by decide +kernel
theorem dX5_init_20 : decode cX5_init 20 = .ok (.aload_n 0, 1) := by decide +kernel
theorem dX5_init_21 : decode cX5_init 21 = .ok (.getfield 10, 3) := by decide +kernel
theorem dX5_init_24 : decode cX5_init 24 = .ok (.invokespecial 18, 3) := by decide +kernel
theorem dX5_init_27 : decode cX5_init 27 = .ok (.putfield 21, 3) := by decide +kernel
theorem dX5_init_30 : decode cX5_init 30 = .ok (.aload_n 0, 1) := by decide +kernel
theorem dX5_init_31 : decode cX5_init 31 = .ok (.new 25, 3) := by decide +kernel
theorem dX5_init_34 : decode cX5_init 34 = .ok (.dup, 1) := by decide +kernel
theorem dX5_init_35 : decode cX5_init 35 = .ok (.aload_n 0, 1) := by decide +kernel
theorem dX5_init_36 : decode cX5_init 36 = .ok (.getfield 10, 3) := by decide +kernel
theorem dX5_init_39 : decode cX5_init 39 = .ok (.invokespecial 27, 3) := by decide +kernel
theorem dX5_init_42 : decode cX5_init 42 = .ok (.putfield 28, 3) := by decide +kernel
theorem dX5_init_45 : decode cX5_init 45 = .ok (.aload_n 0, 1) := by decide +kernel
theorem dX5_init_46 : decode cX5_init 46 = .ok (.new 32, 3) := by decide +kernel
theorem dX5_init_49 : decode cX5_init 49 = .ok (.dup, 1) := by decide +kernel
theorem dX5_init_50 : decode cX5_init 50 = .ok (.invokespecial 34, 3) := by decide +kernel
theorem dX5_init_53 : decode cX5_init 53 = .ok (.putfield 35, 3) := by decide +kernel
theorem dX5_init_56 : decode cX5_init 56 = .ok (.aload_n 0, 1) := by decide +kernel
theorem dX5_init_57 : decode cX5_init 57 = .ok (.iconst 4, 1) := by decide +kernel
theorem dX5_init_58 : decode cX5_init 58 = .ok (.anewarray 39, 3) := by decide +kernel
theorem dX5_init_61 : decode cX5_init 61 = .ok (.putfield 41, 3) := by decide +kernel
theorem dX5_init_64 : decode cX5_init 64 = .ok (.iconst 0, 1) := by decide +kernel
theorem dX5_init_65 : decode cX5_init 65 = .ok (.istore_n 1, 1) := by decide +kernel
theorem dX5_init_66 : decode cX5_init 66 = .ok (.iload_n 1, 1) := by decide +kernel
theorem dX5_init_67 : decode cX5_init 67 = .ok (.iconst 4, 1) := by decide +kernel
theorem dX5_init_68 : decode cX5_init 68 = .ok (.if_icmp .ge 22, 3) := by decide +kernel
theorem dX5_init_71 : decode cX5_init 71 = .ok (.aload_n 0, 1) := by decide +kernel
theorem dX5_init_72 : decode cX5_init 72 = .ok (.getfield 41, 3) := by decide +kernel
theorem dX5_init_75 : decode cX5_init 75 = .ok (.iload_n 1, 1) := by decide +kernel
theorem dX5_init_76 : decode cX5_init 76 = .ok (.new 39, 3) := by decide +kernel
theorem dX5_init_79 : decode cX5_init 79 = .ok (.dup, 1) := by decide +kernel
theorem dX5_init_80 : decode cX5_init 80 = .ok (.invokespecial 45, 3) := by decide +kernel
theorem dX5_init_83 : decode cX5_init 83 = .ok (.aastore, 1) := by decide +kernel
theorem dX5_init_84 : decode cX5_init 84 = .ok (.iinc 1 1, 3) := by decide +kernel
theorem dX5_init_87 : decode cX5_init 87 = .ok (.goto (-21), 3) := by decide +kernel
theorem dX5_init_90 : decode cX5_init 90 = .ok (.aload_n 0, 1) := by decide +kernel
theorem dX5_init_91 : decode cX5_init 91 = .ok (.iconst 0, 1) := by decide +kernel
theorem dX5_init_92 : decode cX5_init 92 = .ok (.putfield 46, 3) := by decide +kernel
theorem dX5_init_95 : decode cX5_init 95 = .ok (.return_, 1) := by decide +kernel
theorem dX5_senders_0 : decode cX5_senders 0 = .ok (.iload_n 1, 1) := by decide +kernel
theorem dX5_senders_1 : decode cX5_senders 1 = .ok (.iconst 1, 1) := by decide +kernel
theorem dX5_senders_2 : decode cX5_senders 2 = .ok (.if_icmp .lt 8, 3) := by decide +kernel
theorem dX5_senders_5 : decode cX5_senders 5 = .ok (.iload_n 1, 1) := by decide +kernel
theorem dX5_senders_6 : decode cX5_senders 6 = .ok (.iconst 5, 1) := by decide +kernel
theorem dX5_senders_7 : decode cX5_senders 7 = .ok (.if_icmp .le 6, 3) := by decide +kernel
theorem dX5_senders_10 : decode cX5_senders 10 = .ok (.bipush (-2), 2) := by decide +kernel
theorem dX5_senders_12 : decode cX5_senders 12 = .ok (.ireturn, 1) := by decide +kernel
theorem dX5_senders_13 : decode cX5_senders 13 = .ok (.aload_n 0, 1) := by decide +kernel
theorem dX5_senders_14 : decode cX5_senders 14 = .ok (.getfield 10, 3) := by decide +kernel
theorem dX5_senders_17 : decode cX5_senders 17 = .ok (.getfield 50, 3) := by decide +kernel
theorem dX5_senders_20 : decode cX5_senders 20 = .ok (.istore_n 2, 1) := by decide +kernel
theorem dX5_senders_21 : decode cX5_senders 21 = .ok (.aload_n 0, 1) := by decide +kernel
theorem dX5_senders_22 : decode cX5_senders 22 = .ok (.getfield 10, 3) := by decide +kernel
theorem dX5_senders_25 : decode cX5_senders 25 = .ok (.iload_n 1, 1) := by decide +kernel
theorem dX5_senders_26 : decode cX5_senders 26 = .ok (.putfield 50, 3) := by decide +kernel
theorem dX5_senders_29 : decode cX5_senders 29 = .ok (.iload_n 2, 1) := by decide +kernel
theorem dX5_senders_30 : decode cX5_senders 30 = .ok (.ireturn, 1) := by decide +kernel
theorem dX5_gain_0 : decode cX5_gain 0 = .ok (.aload_n 0, 1) := by decide +kernel
theorem dX5_gain_1 : decode cX5_gain 1 = .ok (.getfield 10, 3) := by decide +kernel
theorem dX5_gain_4 : decode cX5_gain 4 = .ok (.iload_n 1, 1) := by decide +kernel
theorem dX5_gain_5 : decode cX5_gain 5 = .ok (.invokevirtual 53, 3) := by decide +kernel
theorem dX5_gain_8 : decode cX5_gain 8 = .ok (.ifCond .eq 23, 3) := by decide +kernel
theorem dX5_gain_11 : decode cX5_gain 11 = .ok (.aload_n 0, 1) := by decide +kernel
theorem dX5_gain_12 : decode cX5_gain 12 = .ok (.getfield 10, 3) := by decide +kernel
theorem dX5_gain_15 : decode cX5_gain 15 = .ok (.iload_n 2, 1) := by decide +kernel
theorem dX5_gain_16 : decode cX5_gain 16 = .ok (.invokevirtual 53, 3) := by decide +kernel
theorem dX5_gain_19 : decode cX5_gain 19 = .ok (.ifCond .eq 12, 3) := by decide +kernel
theorem dX5_gain_22 : decode cX5_gain 22 = .ok (.iload_n 1, 1) := by decide +kernel
theorem dX5_gain_23 : decode cX5_gain 23 = .ok (.iload_n 2, 1) := by decide +kernel
theorem dX5_gain_24 : decode cX5_gain 24 = .ok (.iload_n 3, 1) := by decide +kernel
theorem dX5_gain_25 : decode cX5_gain 25 = .ok (.invokestatic 57, 3) := by decide +kernel
theorem dX5_gain_28 : decode cX5_gain 28 = .ok (.ifCond .ne 6, 3) := by decide +kernel
theorem dX5_gain_31 : decode cX5_gain 31 = .ok (.bipush (-2), 2) := by decide +kernel
theorem dX5_gain_33 : decode cX5_gain 33 = .ok (.ireturn, 1) := by decide +kernel
theorem dX5_gain_34 : decode cX5_gain 34 = .ok (.aload_n 0, 1) := by decide +kernel
theorem dX5_gain_35 : decode cX5_gain 35 = .ok (.getfield 10, 3) := by decide +kernel
theorem dX5_gain_38 : decode cX5_gain 38 = .ok (.iload_n 1, 1) := by decide +kernel
theorem dX5_gain_39 : decode cX5_gain 39 = .ok (.iload_n 2, 1) := by decide +kernel
theorem dX5_gain_40 : decode cX5_gain 40 = .ok (.invokevirtual 61, 3) := by decide +kernel
theorem dX5_gain_43 : decode cX5_gain 43 = .ok (.istore 4, 2) := by decide +kernel
theorem dX5_gain_45 : decode cX5_gain 45 = .ok (.aload_n 0, 1) := by decide +kernel
theorem dX5_gain_46 : decode cX5_gain 46 = .ok (.getfield 10, 3) := by decide +kernel
theorem dX5_gain_49 : decode cX5_gain 49 = .ok (.iload_n 1, 1) := by decide +kernel
theorem dX5_gain_50 : decode cX5_gain 50 = .ok (.iload_n 2, 1) := by decide +kernel
theorem dX5_gain_51 : decode cX5_gain 51 = .ok (.iload_n 3, 1) := by decide +kernel
theorem dX5_gain_52 : decode cX5_gain 52 = .ok (.invokevirtual 65, 3) := by decide +kernel
theorem dX5_gain_55 : decode cX5_gain 55 = .ok (.iload 4, 2) := by decide +kernel
theorem dX5_gain_57 : decode cX5_gain 57 = .ok (.ireturn, 1) := by decide +kernel
theorem dX5_set_0 : decode cX5_set 0 = .ok (.aload_n 0, 1) := by decide +kernel
theorem dX5_set_1 : decode cX5_set 1 = .ok (.getfield 10, 3) := by decide +kernel
theorem dX5_set_4 : decode cX5_set 4 = .ok (.iload_n 1, 1) := by decide +kernel
theorem dX5_set_5 : decode cX5_set 5 = .ok (.invokevirtual 53, 3) := by decide +kernel
theorem dX5_set_8 : decode cX5_set 8 = .ok (.ifCond .ne 6, 3) := by decide +kernel
theorem dX5_set_11 : decode cX5_set 11 = .ok (.bipush (-2), 2) := by decide +kernel
theorem dX5_set_13 : decode cX5_set 13 = .ok (.ireturn, 1) := by decide +kernel
theorem dX5_set_14 : decode cX5_set 14 = .ok (.iload_n 2, 1) := by decide +kernel
theorem dX5_set_15 : decode cX5_set 15 = .ok (.tableswitch 74 0 2 #[25, 41, 57], 25) := by decide +kernel
theorem dX5_set_40 : decode cX5_set 40 = .ok (.aload_n 0, 1) := by decide +kernel
theorem dX5_set_41 : decode cX5_set 41 = .ok (.getfield 10, 3) := by decide +kernel
theorem dX5_set_44 : decode cX5_set 44 = .ok (.getfield 69, 3) := by decide +kernel
theorem dX5_set_47 : decode cX5_set 47 = .ok (.iload_n 1, 1) := by decide +kernel
theorem dX5_set_48 : decode cX5_set 48 = .ok (.iload_n 3, 1) := by decide +kernel
theorem dX5_set_49 : decode cX5_set 49 = .ok (.iconst 1, 1) := by decide +kernel
theorem dX5_set_50 : decode cX5_set 50 = .ok (.bipush 20, 2) := by decide +kernel
theorem dX5_set_52 : decode cX5_set 52 = .ok (.invokestatic 73, 3) := by decide +kernel
theorem dX5_set_55 : decode cX5_set 55 = .ok (.ireturn, 1) := by decide +kernel
theorem dX5_set_56 : decode cX5_set 56 = .ok (.aload_n 0, 1) := by decide +kernel
theorem dX5_set_57 : decode cX5_set 57 = .ok (.getfield 10, 3) := by decide +kernel
theorem dX5_set_60 : decode cX5_set 60 = .ok (.getfield 77, 3) := by decide +kernel
theorem dX5_set_63 : decode cX5_set 63 = .ok (.iload_n 1, 1) := by decide +kernel
theorem dX5_set_64 : decode cX5_set 64 = .ok (.iload_n 3, 1) := by decide +kernel
theorem dX5_set_65 : decode cX5_set 65 = .ok (.iconst 0, 1) := by decide +kernel
theorem dX5_set_66 : decode cX5_set 66 = .ok (.bipush 9, 2) := by decide +kernel
theorem dX5_set_68 : decode cX5_set 68 = .ok (.invokestatic 73, 3) := by decide +kernel
theorem dX5_set_71 : decode cX5_set 71 = .ok (.ireturn, 1) := by decide +kernel
theorem dX5_set_72 : decode cX5_set 72 = .ok (.aload_n 0, 1) := by decide +kernel
theorem dX5_set_73 : decode cX5_set 73 = .ok (.getfield 10, 3) := by decide +kernel
theorem dX5_set_76 : decode cX5_set 76 = .ok (.getfield 80, 3) := by decide +kernel
theorem dX5_set_79 : decode cX5_set 79 = .ok (.iload_n 1, 1) := by decide +kernel
theorem dX5_set_80 : decode cX5_set 80 = .ok (.iload_n 3, 1) := by decide +kernel
theorem dX5_set_81 : decode cX5_set 81 = .ok (.iconst 0, 1) := by decide +kernel
theorem dX5_set_82 : decode cX5_set 82 = .ok (.sipush 999, 3) := by decide +kernel
theorem dX5_set_85 : decode cX5_set 85 = .ok (.invokestatic 73, 3) := by decide +kernel
theorem dX5_set_88 : decode cX5_set 88 = .ok (.ireturn, 1) := by decide +kernel
theorem dX5_set_89 : decode cX5_set 89 = .ok (.bipush (-2), 2) := by decide +kernel
theorem dX5_set_91 : decode cX5_set 91 = .ok (.ireturn, 1) := by decide +kernel
theorem dX5_on_0 : decode cX5_on 0 = .ok (.aload_n 0, 1) := by decide +kernel
theorem dX5_on_1 : decode cX5_on 1 = .ok (.getfield 10, 3) := by decide +kernel
theorem dX5_on_4 : decode cX5_on 4 = .ok (.iload_n 1, 1) := by decide +kernel
theorem dX5_on_5 : decode cX5_on 5 = .ok (.invokevirtual 53, 3) := by decide +kernel
theorem dX5_on_8 : decode cX5_on 8 = .ok (.ifCond .ne 6, 3) := by decide +kernel
theorem dX5_on_11 : decode cX5_on 11 = .ok (.bipush (-2), 2) := by decide +kernel
theorem dX5_on_13 : decode cX5_on 13 = .ok (.ireturn, 1) := by decide +kernel
theorem dX5_on_14 : decode cX5_on 14 = .ok (.aload_n 0, 1) := by decide +kernel
theorem dX5_on_15 : decode cX5_on 15 = .ok (.getfield 10, 3) := by decide +kernel
theorem dX5_on_18 : decode cX5_on 18 = .ok (.dup, 1) := by decide +kernel
theorem dX5_on_19 : decode cX5_on 19 = .ok (.getfield 83, 3) := by decide +kernel
theorem dX5_on_22 : decode cX5_on 22 = .ok (.iconst 1, 1) := by decide +kernel
theorem dX5_on_23 : decode cX5_on 23 = .ok (.iload_n 1, 1) := by decide +kernel
theorem dX5_on_24 : decode cX5_on 24 = .ok (.ishl, 1) := by decide +kernel
theorem dX5_on_25 : decode cX5_on 25 = .ok (.ixor, 1) := by decide +kernel
theorem dX5_on_26 : decode cX5_on 26 = .ok (.putfield 83, 3) := by decide +kernel
theorem dX5_on_29 : decode cX5_on 29 = .ok (.aload_n 0, 1) := by decide +kernel
theorem dX5_on_30 : decode cX5_on 30 = .ok (.getfield 10, 3) := by decide +kernel
theorem dX5_on_33 : decode cX5_on 33 = .ok (.invokevirtual 86, 3) := by decide +kernel
theorem dX5_on_36 : decode cX5_on 36 = .ok (.ireturn, 1) := by decide +kernel
theorem dX5_power_0 : decode cX5_power 0 = .ok (.aload_n 0, 1) := by decide +kernel
theorem dX5_power_1 : decode cX5_power 1 = .ok (.getfield 10, 3) := by decide +kernel
theorem dX5_power_4 : decode cX5_power 4 = .ok (.iload_n 1, 1) := by decide +kernel
theorem dX5_power_5 : decode cX5_power 5 = .ok (.invokevirtual 53, 3) := by decide +kernel
theorem dX5_power_8 : decode cX5_power 8 = .ok (.ifCond .eq 22, 3) := by decide +kernel
theorem dX5_power_11 : decode cX5_power 11 = .ok (.aload_n 0, 1) := by decide +kernel
theorem dX5_power_12 : decode cX5_power 12 = .ok (.getfield 10, 3) := by decide +kernel
theorem dX5_power_15 : decode cX5_power 15 = .ok (.getfield 90, 3) := by decide +kernel
theorem dX5_power_18 : decode cX5_power 18 = .ok (.iload_n 1, 1) := by decide +kernel
theorem dX5_power_19 : decode cX5_power 19 = .ok (.iload_n 2, 1) := by decide +kernel
theorem dX5_power_20 : decode cX5_power 20 = .ok (.iconst 0, 1) := by decide +kernel
theorem dX5_power_21 : decode cX5_power 21 = .ok (.sipush 999, 3) := by decide +kernel
theorem dX5_power_24 : decode cX5_power 24 = .ok (.invokestatic 73, 3) := by decide +kernel
theorem dX5_power_27 : decode cX5_power 27 = .ok (.goto 5, 3) := by decide +kernel
theorem dX5_power_30 : decode cX5_power 30 = .ok (.bipush (-2), 2) := by decide +kernel
theorem dX5_power_32 : decode cX5_power 32 = .ok (.ireturn, 1) := by decide +kernel
theorem dX5_rule_0 : decode cX5_rule 0 = .ok (.iload_n 1, 1) := by decide +kernel
theorem dX5_rule_1 : decode cX5_rule 1 = .ok (.ifCond .lt 8, 3) := by decide +kernel
theorem dX5_rule_4 : decode cX5_rule 4 = .ok (.iload_n 1, 1) := by decide +kernel
theorem dX5_rule_5 : decode cX5_rule 5 = .ok (.iconst 2, 1) := by decide +kernel
theorem dX5_rule_6 : decode cX5_rule 6 = .ok (.if_icmp .le 6, 3) := by decide +kernel
theorem dX5_rule_9 : decode cX5_rule 9 = .ok (.bipush (-2), 2) := by decide +kernel
theorem dX5_rule_11 : decode cX5_rule 11 = .ok (.ireturn, 1) := by decide +kernel
theorem dX5_rule_12 : decode cX5_rule 12 = .ok (.aload_n 0, 1) := by decide +kernel
theorem dX5_rule_13 : decode cX5_rule 13 = .ok (.getfield 28, 3) := by decide +kernel
theorem dX5_rule_16 : decode cX5_rule 16 = .ok (.getfield 93, 3) := by decide +kernel
theorem dX5_rule_19 : decode cX5_rule 19 = .ok (.istore_n 2, 1) := by decide +kernel
theorem dX5_rule_20 : decode cX5_rule 20 = .ok (.aload_n 0, 1) := by decide +kernel
theorem dX5_rule_21 : decode cX5_rule 21 = .ok (.getfield 28, 3) := by decide +kernel
theorem dX5_rule_24 : decode cX5_rule 24 = .ok (.iload_n 1, 1) := by decide +kernel
theorem dX5_rule_25 : decode cX5_rule 25 = .ok (.putfield 93, 3) := by decide +kernel
theorem dX5_rule_28 : decode cX5_rule 28 = .ok (.iload_n 2, 1) := by decide +kernel
theorem dX5_rule_29 : decode cX5_rule 29 = .ok (.ireturn, 1) := by decide +kernel
theorem dX5_type_0 : decode cX5_type 0 = .ok (.iload_n 1, 1) := by decide +kernel
theorem dX5_type_1 : decode cX5_type 1 = .ok (.ifCond .lt 10, 3) := by decide +kernel
theorem dX5_type_4 : decode cX5_type 4 = .ok (.iload_n 1, 1) := by decide +kernel
theorem dX5_type_5 : decode cX5_type 5 = .ok (.sipush 255, 3) := by decide +kernel
theorem dX5_type_8 : decode cX5_type 8 = .ok (.if_icmp .le 6, 3) := by decide +kernel
theorem dX5_type_11 : decode cX5_type 11 = .ok (.bipush (-2), 2) := by decide +kernel
theorem dX5_type_13 : decode cX5_type 13 = .ok (.ireturn, 1) := by decide +kernel
theorem dX5_type_14 : decode cX5_type 14 = .ok (.aload_n 0, 1) := by decide +kernel
theorem dX5_type_15 : decode cX5_type 15 = .ok (.getfield 35, 3) := by decide +kernel
theorem dX5_type_18 : decode cX5_type 18 = .ok (.iload_n 1, 1) := by decide +kernel
theorem dX5_type_19 : decode cX5_type 19 = .ok (.invokevirtual 96, 3) := by decide +kernel
theorem dX5_type_22 : decode cX5_type 22 = .ok (.ifCond .eq 13, 3) := by decide +kernel
theorem dX5_type_25 : decode cX5_type 25 = .ok (.aload_n 0, 1) := by decide +kernel
theorem dX5_type_26 : decode cX5_type 26 = .ok (.getfield 35, 3) := by decide +kernel
theorem dX5_type_29 : decode cX5_type 29 = .ok (.getfield 99, 3) := by decide +kernel
theorem dX5_type_32 : decode cX5_type 32 = .ok (.goto 5, 3) := by decide +kernel
theorem dX5_type_35 : decode cX5_type 35 = .ok (.bipush (-4), 2) := by decide +kernel
theorem dX5_type_37 : decode cX5_type 37 = .ok (.ireturn, 1) := by decide +kernel
theorem dX5_wipe_0 : decode cX5_wipe 0 = .ok (.aload_n 0, 1) := by decide +kernel
theorem dX5_wipe_1 : decode cX5_wipe 1 = .ok (.getfield 35, 3) := by decide +kernel
theorem dX5_wipe_4 : decode cX5_wipe 4 = .ok (.getfield 99, 3) := by decide +kernel
theorem dX5_wipe_7 : decode cX5_wipe 7 = .ok (.istore_n 1, 1) := by decide +kernel
theorem dX5_wipe_8 : decode cX5_wipe 8 = .ok (.aload_n 0, 1) := by decide +kernel
theorem dX5_wipe_9 : decode cX5_wipe 9 = .ok (.getfield 35, 3) := by decide +kernel
theorem dX5_wipe_12 : decode cX5_wipe 12 = .ok (.iconst 0, 1) := by decide +kernel
theorem dX5_wipe_13 : decode cX5_wipe 13 = .ok (.putfield 99, 3) := by decide +kernel
theorem dX5_wipe_16 : decode cX5_wipe 16 = .ok (.iload_n 1, 1) := by decide +kernel
theorem dX5_wipe_17 : decode cX5_wipe 17 = .ok (.ireturn, 1) := by decide +kernel
theorem dX5_fault_0 : decode cX5_fault 0 = .ok (.aload_n 0, 1) := by decide +kernel
theorem dX5_fault_1 : decode cX5_fault 1 = .ok (.getfield 35, 3) := by decide +kernel
theorem dX5_fault_4 : decode cX5_fault 4 = .ok (.aload_n 0, 1) := by decide +kernel
theorem dX5_fault_5 : decode cX5_fault 5 = .ok (.getfield 10, 3) := by decide +kernel
theorem dX5_fault_8 : decode cX5_fault 8 = .ok (.getfield 50, 3) := by decide +kernel
theorem dX5_fault_11 : decode cX5_fault 11 = .ok (.invokevirtual 102, 3) := by decide +kernel
theorem dX5_fault_14 : decode cX5_fault 14 = .ok (.ireturn, 1) := by decide +kernel
theorem dX5_read_0 : decode cX5_read 0 = .ok (.aload_n 0, 1) := by decide +kernel
theorem dX5_read_1 : decode cX5_read 1 = .ok (.iload_n 1, 1) := by decide +kernel
theorem dX5_read_2 : decode cX5_read 2 = .ok (.invokevirtual 106, 3) := by decide +kernel
theorem dX5_read_5 : decode cX5_read 5 = .ok (.istore_n 2, 1) := by decide +kernel
theorem dX5_read_6 : decode cX5_read 6 = .ok (.iload_n 2, 1) := by decide +kernel
theorem dX5_read_7 : decode cX5_read 7 = .ok (.ifCond .eq 7, 3) := by decide +kernel
theorem dX5_read_10 : decode cX5_read 10 = .ok (.iload_n 2, 1) := by decide +kernel
theorem dX5_read_11 : decode cX5_read 11 = .ok (.goto 13, 3) := by decide +kernel
theorem dX5_read_14 : decode cX5_read 14 = .ok (.aload_n 0, 1) := by decide +kernel
theorem dX5_read_15 : decode cX5_read 15 = .ok (.aload_n 0, 1) := by decide +kernel
theorem dX5_read_16 : decode cX5_read 16 = .ok (.getfield 41, 3) := by decide +kernel
theorem dX5_read_19 : decode cX5_read 19 = .ok (.iload_n 1, 1) := by decide +kernel
theorem dX5_read_20 : decode cX5_read 20 = .ok (.aaload, 1) := by decide +kernel
theorem dX5_read_21 : decode cX5_read 21 = .ok (.invokevirtual 109, 3) := by decide +kernel
theorem dX5_read_24 : decode cX5_read 24 = .ok (.ireturn, 1) := by decide +kernel
theorem dX5_info_0 : decode cX5_info 0 = .ok (.aload_n 0, 1) := by decide +kernel
theorem dX5_info_1 : decode cX5_info 1 = .ok (.getfield 10, 3) := by decide +kernel
theorem dX5_info_4 : decode cX5_info 4 = .ok (.iload_n 1, 1) := by decide +kernel
theorem dX5_info_5 : decode cX5_info 5 = .ok (.invokevirtual 53, 3) := by decide +kernel
theorem dX5_info_8 : decode cX5_info 8 = .ok (.ifCond .ne 6, 3) := by decide +kernel
theorem dX5_info_11 : decode cX5_info 11 = .ok (.bipush (-2), 2) := by decide +kernel
theorem dX5_info_13 : decode cX5_info 13 = .ok (.ireturn, 1) := by decide +kernel
theorem dX5_info_14 : decode cX5_info 14 = .ok (.iload_n 2, 1) := by decide +kernel
theorem dX5_info_15 : decode cX5_info 15 = .ok (.tableswitch 145 0 7 #[45, 55, 65, 75, 92, 102, 118, 135], 45) := by decide +kernel
theorem dX5_info_60 : decode cX5_info 60 = .ok (.aload_n 0, 1) := by decide +kernel
theorem dX5_info_61 : decode cX5_info 61 = .ok (.getfield 10, 3) := by decide +kernel
theorem dX5_info_64 : decode cX5_info 64 = .ok (.getfield 69, 3) := by decide +kernel
theorem dX5_info_67 : decode cX5_info 67 = .ok (.iload_n 1, 1) := by decide +kernel
theorem dX5_info_68 : decode cX5_info 68 = .ok (.iaload, 1) := by decide +kernel
theorem dX5_info_69 : decode cX5_info 69 = .ok (.ireturn, 1) := by decide +kernel
theorem dX5_info_70 : decode cX5_info 70 = .ok (.aload_n 0, 1) := by decide +kernel
theorem dX5_info_71 : decode cX5_info 71 = .ok (.getfield 10, 3) := by decide +kernel
theorem dX5_info_74 : decode cX5_info 74 = .ok (.getfield 77, 3) := by decide +kernel
theorem dX5_info_77 : decode cX5_info 77 = .ok (.iload_n 1, 1) := by decide +kernel
theorem dX5_info_78 : decode cX5_info 78 = .ok (.iaload, 1) := by decide +kernel
theorem dX5_info_79 : decode cX5_info 79 = .ok (.ireturn, 1) := by decide +kernel
theorem dX5_info_80 : decode cX5_info 80 = .ok (.aload_n 0, 1) := by decide +kernel
theorem dX5_info_81 : decode cX5_info 81 = .ok (.getfield 10, 3) := by decide +kernel
theorem dX5_info_84 : decode cX5_info 84 = .ok (.getfield 80, 3) := by decide +kernel
theorem dX5_info_87 : decode cX5_info 87 = .ok (.iload_n 1, 1) := by decide +kernel
theorem dX5_info_88 : decode cX5_info 88 = .ok (.iaload, 1) := by decide +kernel
theorem dX5_info_89 : decode cX5_info 89 = .ok (.ireturn, 1) := by decide +kernel
theorem dX5_info_90 : decode cX5_info 90 = .ok (.aload_n 0, 1) := by decide +kernel
theorem dX5_info_91 : decode cX5_info 91 = .ok (.getfield 10, 3) := by decide +kernel
theorem dX5_info_94 : decode cX5_info 94 = .ok (.iload_n 1, 1) := by decide +kernel
theorem dX5_info_95 : decode cX5_info 95 = .ok (.invokevirtual 113, 3) := by decide +kernel
theorem dX5_info_98 : decode cX5_info 98 = .ok (.ifCond .eq 7, 3) := by decide +kernel
theorem dX5_info_101 : decode cX5_info 101 = .ok (.iconst 1, 1) := by decide +kernel
theorem dX5_info_102 : decode cX5_info 102 = .ok (.goto 4, 3) := by decide +kernel
theorem dX5_info_105 : decode cX5_info 105 = .ok (.iconst 0, 1) := by decide +kernel
theorem dX5_info_106 : decode cX5_info 106 = .ok (.ireturn, 1) := by decide +kernel
theorem dX5_info_107 : decode cX5_info 107 = .ok (.aload_n 0, 1) := by decide +kernel
theorem dX5_info_108 : decode cX5_info 108 = .ok (.getfield 10, 3) := by decide +kernel
theorem dX5_info_111 : decode cX5_info 111 = .ok (.getfield 90, 3) := by decide +kernel
theorem dX5_info_114 : decode cX5_info 114 = .ok (.iload_n 1, 1) := by decide +kernel
theorem dX5_info_115 : decode cX5_info 115 = .ok (.iaload, 1) := by decide +kernel
theorem dX5_info_116 : decode cX5_info 116 = .ok (.ireturn, 1) := by decide +kernel
theorem dX5_info_117 : decode cX5_info 117 = .ok (.aload_n 0, 1) := by decide +kernel
theorem dX5_info_118 : decode cX5_info 118 = .ok (.getfield 10, 3) := by decide +kernel
theorem dX5_info_121 : decode cX5_info 121 = .ok (.iload_n 1, 1) := by decide +kernel
theorem dX5_info_122 : decode cX5_info 122 = .ok (.aload_n 0, 1) := by decide +kernel
theorem dX5_info_123 : decode cX5_info 123 = .ok (.getfield 10, 3) := by decide +kernel
theorem dX5_info_126 : decode cX5_info 126 = .ok (.getfield 90, 3) := by decide +kernel
theorem dX5_info_129 : decode cX5_info 129 = .ok (.invokevirtual 116, 3) := by decide +kernel
theorem dX5_info_132 : decode cX5_info 132 = .ok (.ireturn, 1) := by decide +kernel
theorem dX5_info_133 : decode cX5_info 133 = .ok (.aload_n 0, 1) := by decide +kernel
theorem dX5_info_134 : decode cX5_info 134 = .ok (.getfield 10, 3) := by decide +kernel
theorem dX5_info_137 : decode cX5_info 137 = .ok (.iload_n 1, 1) := by decide +kernel
theorem dX5_info_138 : decode cX5_info 138 = .ok (.invokevirtual 120, 3) := by decide +kernel
theorem dX5_info_141 : decode cX5_info 141 = .ok (.ifCond .eq 7, 3) := by decide +kernel
theorem dX5_info_144 : decode cX5_info 144 = .ok (.iconst 1, 1) := by decide +kernel
theorem dX5_info_145 : decode cX5_info 145 = .ok (.goto 4, 3) := by decide +kernel
theorem dX5_info_148 : decode cX5_info 148 = .ok (.iconst 0, 1) := by decide +kernel
theorem dX5_info_149 : decode cX5_info 149 = .ok (.ireturn, 1) := by decide +kernel
theorem dX5_info_150 : decode cX5_info 150 = .ok (.aload_n 0, 1) := by decide +kernel
theorem dX5_info_151 : decode cX5_info 151 = .ok (.getfield 10, 3) := by decide +kernel
theorem dX5_info_154 : decode cX5_info 154 = .ok (.iload_n 1, 1) := by decide +kernel
theorem dX5_info_155 : decode cX5_info 155 = .ok (.iload_n 1, 1) := by decide +kernel
theorem dX5_info_156 : decode cX5_info 156 = .ok (.invokevirtual 61, 3) := by decide +kernel
theorem dX5_info_159 : decode cX5_info 159 = .ok (.ireturn, 1) := by decide +kernel
theorem dX5_info_160 : decode cX5_info 160 = .ok (.bipush (-2), 2) := by decide +kernel
theorem dX5_info_162 : decode cX5_info 162 = .ok (.ireturn, 1) := by decide +kernel
theorem dX5_heard_0 : decode cX5_heard 0 = .ok (.aload_n 0, 1) := by decide +kernel
theorem dX5_heard_1 : decode cX5_heard 1 = .ok (.getfield 10, 3) := by decide +kernel
theorem dX5_heard_4 : decode cX5_heard 4 = .ok (.iload_n 1, 1) := by decide +kernel
theorem dX5_heard_5 : decode cX5_heard 5 = .ok (.invokevirtual 53, 3) := by decide +kernel
theorem dX5_heard_8 : decode cX5_heard 8 = .ok (.ifCond .eq 26, 3) := by decide +kernel
theorem dX5_heard_11 : decode cX5_heard 11 = .ok (.aload_n 0, 1) := by decide +kernel
theorem dX5_heard_12 : decode cX5_heard 12 = .ok (.getfield 10, 3) := by decide +kernel
theorem dX5_heard_15 : decode cX5_heard 15 = .ok (.iload_n 2, 1) := by decide +kernel
theorem dX5_heard_16 : decode cX5_heard 16 = .ok (.invokevirtual 53, 3) := by decide +kernel
theorem dX5_heard_19 : decode cX5_heard 19 = .ok (.ifCond .eq 15, 3) := by decide +kernel
theorem dX5_heard_22 : decode cX5_heard 22 = .ok (.aload_n 0, 1) := by decide +kernel
theorem dX5_heard_23 : decode cX5_heard 23 = .ok (.getfield 10, 3) := by decide +kernel
theorem dX5_heard_26 : decode cX5_heard 26 = .ok (.iload_n 1, 1) := by decide +kernel
theorem dX5_heard_27 : decode cX5_heard 27 = .ok (.iload_n 2, 1) := by decide +kernel
theorem dX5_heard_28 : decode cX5_heard 28 = .ok (.invokevirtual 61, 3) := by decide +kernel
theorem dX5_heard_31 : decode cX5_heard 31 = .ok (.goto 5, 3) := by decide +kernel
theorem dX5_heard_34 : decode cX5_heard 34 = .ok (.bipush (-2), 2) := by decide +kernel
theorem dX5_heard_36 : decode cX5_heard 36 = .ok (.ireturn, 1) := by decide +kernel
theorem dX5_minor_0 : decode cX5_minor 0 = .ok (.iload_n 1, 1) := by decide +kernel
theorem dX5_minor_1 : decode cX5_minor 1 = .ok (.ifCond .lt 14, 3) := by decide +kernel
theorem dX5_minor_4 : decode cX5_minor 4 = .ok (.iload_n 1, 1) := by decide +kernel
theorem dX5_minor_5 : decode cX5_minor 5 = .ok (.aload_n 0, 1) := by decide +kernel
theorem dX5_minor_6 : decode cX5_minor 6 = .ok (.getfield 10, 3) := by decide +kernel
theorem dX5_minor_9 : decode cX5_minor 9 = .ok (.invokevirtual 123, 3) := by decide +kernel
theorem dX5_minor_12 : decode cX5_minor 12 = .ok (.if_icmp .le 9, 3) := by decide +kernel
theorem dX5_minor_15 : decode cX5_minor 15 = .ok (.bipush (-2), 2) := by decide +kernel
theorem dX5_minor_17 : decode cX5_minor 17 = .ok (.invokestatic 126, 3) := by decide +kernel
theorem dX5_minor_20 : decode cX5_minor 20 = .ok (.lreturn, 1) := by decide +kernel
theorem dX5_minor_21 : decode cX5_minor 21 = .ok (.aload_n 0, 1) := by decide +kernel
theorem dX5_minor_22 : decode cX5_minor 22 = .ok (.getfield 21, 3) := by decide +kernel
theorem dX5_minor_25 : decode cX5_minor 25 = .ok (.invokevirtual 130, 3) := by decide +kernel
theorem dX5_minor_28 : decode cX5_minor 28 = .ok (.aload_n 0, 1) := by decide +kernel
theorem dX5_minor_29 : decode cX5_minor 29 = .ok (.getfield 21, 3) := by decide +kernel
theorem dX5_minor_32 : decode cX5_minor 32 = .ok (.iload_n 1, 1) := by decide +kernel
theorem dX5_minor_33 : decode cX5_minor 33 = .ok (.aload_n 0, 1) := by decide +kernel
theorem dX5_minor_34 : decode cX5_minor 34 = .ok (.getfield 10, 3) := by decide +kernel
theorem dX5_minor_37 : decode cX5_minor 37 = .ok (.invokevirtual 86, 3) := by decide +kernel
theorem dX5_minor_40 : decode cX5_minor 40 = .ok (.iand, 1) := by decide +kernel
theorem dX5_minor_41 : decode cX5_minor 41 = .ok (.invokevirtual 133, 3) := by decide +kernel
theorem dX5_minor_44 : decode cX5_minor 44 = .ok (.lreturn, 1) := by decide +kernel
theorem dX5_feasible_0 : decode cX5_feasible 0 = .ok (.aload_n 0, 1) := by decide +kernel
theorem dX5_feasible_1 : decode cX5_feasible 1 = .ok (.getfield 21, 3) := by decide +kernel
theorem dX5_feasible_4 : decode cX5_feasible 4 = .ok (.invokevirtual 130, 3) := by decide +kernel
theorem dX5_feasible_7 : decode cX5_feasible 7 = .ok (.aload_n 0, 1) := by decide +kernel
theorem dX5_feasible_8 : decode cX5_feasible 8 = .ok (.getfield 21, 3) := by decide +kernel
theorem dX5_feasible_11 : decode cX5_feasible 11 = .ok (.aload_n 0, 1) := by decide +kernel
theorem dX5_feasible_12 : decode cX5_feasible 12 = .ok (.getfield 10, 3) := by decide +kernel
theorem dX5_feasible_15 : decode cX5_feasible 15 = .ok (.invokevirtual 86, 3) := by decide +kernel
theorem dX5_feasible_18 : decode cX5_feasible 18 = .ok (.invokevirtual 136, 3) := by decide +kernel
theorem dX5_feasible_21 : decode cX5_feasible 21 = .ok (.ifCond .eq 7, 3) := by decide +kernel
theorem dX5_feasible_24 : decode cX5_feasible 24 = .ok (.iconst 1, 1) := by decide +kernel
theorem dX5_feasible_25 : decode cX5_feasible 25 = .ok (.goto 4, 3) := by decide +kernel
theorem dX5_feasible_28 : decode cX5_feasible 28 = .ok (.iconst 0, 1) := by decide +kernel
theorem dX5_feasible_29 : decode cX5_feasible 29 = .ok (.ireturn, 1) := by decide +kernel
theorem dX5_least_0 : decode cX5_least 0 = .ok (.aload_n 0, 1) := by decide +kernel
theorem dX5_least_1 : decode cX5_least 1 = .ok (.getfield 10, 3) := by decide +kernel
theorem dX5_least_4 : decode cX5_least 4 = .ok (.iload_n 1, 1) := by decide +kernel
theorem dX5_least_5 : decode cX5_least 5 = .ok (.invokevirtual 53, 3) := by decide +kernel
theorem dX5_least_8 : decode cX5_least 8 = .ok (.ifCond .eq 12, 3) := by decide +kernel
theorem dX5_least_11 : decode cX5_least 11 = .ok (.iload_n 2, 1) := by decide +kernel
theorem dX5_least_12 : decode cX5_least 12 = .ok (.ifCond .lt 8, 3) := by decide +kernel
theorem dX5_least_15 : decode cX5_least 15 = .ok (.iload_n 2, 1) := by decide +kernel
theorem dX5_least_16 : decode cX5_least 16 = .ok (.iconst 1, 1) := by decide +kernel
theorem dX5_least_17 : decode cX5_least 17 = .ok (.if_icmp .le 9, 3) := by decide +kernel
theorem dX5_least_20 : decode cX5_least 20 = .ok (.bipush (-2), 2) := by decide +kernel
theorem dX5_least_22 : decode cX5_least 22 = .ok (.invokestatic 126, 3) := by decide +kernel
theorem dX5_least_25 : decode cX5_least 25 = .ok (.lreturn, 1) := by decide +kernel
theorem dX5_least_26 : decode cX5_least 26 = .ok (.aload_n 0, 1) := by decide +kernel
theorem dX5_least_27 : decode cX5_least 27 = .ok (.getfield 10, 3) := by decide +kernel
theorem dX5_least_30 : decode cX5_least 30 = .ok (.iload_n 1, 1) := by decide +kernel
theorem dX5_least_31 : decode cX5_least 31 = .ok (.invokevirtual 113, 3) := by decide +kernel
theorem dX5_least_34 : decode cX5_least 34 = .ok (.ifCond .ne 9, 3) := by decide +kernel
theorem dX5_least_37 : decode cX5_least 37 = .ok (.bipush (-3), 2) := by decide +kernel
theorem dX5_least_39 : decode cX5_least 39 = .ok (.invokestatic 126, 3) := by decide +kernel
theorem dX5_least_42 : decode cX5_least 42 = .ok (.lreturn, 1) := by decide +kernel
theorem dX5_least_43 : decode cX5_least 43 = .ok (.aload_n 0, 1) := by decide +kernel
theorem dX5_least_44 : decode cX5_least 44 = .ok (.getfield 10, 3) := by decide +kernel
theorem dX5_least_47 : decode cX5_least 47 = .ok (.invokevirtual 86, 3) := by decide +kernel
theorem dX5_least_50 : decode cX5_least 50 = .ok (.istore_n 3, 1) := by decide +kernel
theorem dX5_least_51 : decode cX5_least 51 = .ok (.aload_n 0, 1) := by decide +kernel
theorem dX5_least_52 : decode cX5_least 52 = .ok (.getfield 21, 3) := by decide +kernel
theorem dX5_least_55 : decode cX5_least 55 = .ok (.invokevirtual 130, 3) := by decide +kernel
theorem dX5_least_58 : decode cX5_least 58 = .ok (.aload_n 0, 1) := by decide +kernel
theorem dX5_least_59 : decode cX5_least 59 = .ok (.getfield 21, 3) := by decide +kernel
theorem dX5_least_62 : decode cX5_least 62 = .ok (.iload_n 3, 1) := by decide +kernel
theorem dX5_least_63 : decode cX5_least 63 = .ok (.invokevirtual 136, 3) := by decide +kernel
theorem dX5_least_66 : decode cX5_least 66 = .ok (.ifCond .ne 9, 3) := by decide +kernel
theorem dX5_least_69 : decode cX5_least 69 = .ok (.bipush (-3), 2) := by decide +kernel
theorem dX5_least_71 : decode cX5_least 71 = .ok (.invokestatic 126, 3) := by decide +kernel
theorem dX5_least_74 : decode cX5_least 74 = .ok (.lreturn, 1) := by decide +kernel
theorem dX5_least_75 : decode cX5_least 75 = .ok (.aload_n 0, 1) := by decide +kernel
theorem dX5_least_76 : decode cX5_least 76 = .ok (.getfield 21, 3) := by decide +kernel
theorem dX5_least_79 : decode cX5_least 79 = .ok (.iload_n 3, 1) := by decide +kernel
theorem dX5_least_80 : decode cX5_least 80 = .ok (.invokevirtual 133, 3) := by decide +kernel
theorem dX5_least_83 : decode cX5_least 83 = .ok (.lstore 4, 2) := by decide +kernel
theorem dX5_least_85 : decode cX5_least 85 = .ok (.aload_n 0, 1) := by decide +kernel
theorem dX5_least_86 : decode cX5_least 86 = .ok (.getfield 21, 3) := by decide +kernel
theorem dX5_least_89 : decode cX5_least 89 = .ok (.iload_n 1, 1) := by decide +kernel
theorem dX5_least_90 : decode cX5_least 90 = .ok (.invokevirtual 139, 3) := by decide +kernel
theorem dX5_least_93 : decode cX5_least 93 = .ok (.aload_n 0, 1) := by decide +kernel
theorem dX5_least_94 : decode cX5_least 94 = .ok (.getfield 21, 3) := by decide +kernel
theorem dX5_least_97 : decode cX5_least 97 = .ok (.iload_n 3, 1) := by decide +kernel
theorem dX5_least_98 : decode cX5_least 98 = .ok (.invokevirtual 133, 3) := by decide +kernel
theorem dX5_least_101 : decode cX5_least 101 = .ok (.lload 4, 2) := by decide +kernel
theorem dX5_least_103 : decode cX5_least 103 = .ok (.iload_n 2, 1) := by decide +kernel
theorem dX5_least_104 : decode cX5_least 104 = .ok (.invokestatic 143, 3) := by decide +kernel
theorem dX5_least_107 : decode cX5_least 107 = .ok (.lreturn, 1) := by decide +kernel
theorem dX5_witness_0 : decode cX5_witness 0 = .ok (.aload_n 0, 1) := by decide +kernel
theorem dX5_witness_1 : decode cX5_witness 1 = .ok (.getfield 21, 3) := by decide +kernel
theorem dX5_witness_4 : decode cX5_witness 4 = .ok (.invokevirtual 130, 3) := by decide +kernel
theorem dX5_witness_7 : decode cX5_witness 7 = .ok (.aload_n 0, 1) := by decide +kernel
theorem dX5_witness_8 : decode cX5_witness 8 = .ok (.getfield 21, 3) := by decide +kernel
theorem dX5_witness_11 : decode cX5_witness 11 = .ok (.aload_n 0, 1) := by decide +kernel
theorem dX5_witness_12 : decode cX5_witness 12 = .ok (.getfield 10, 3) := by decide +kernel
theorem dX5_witness_15 : decode cX5_witness 15 = .ok (.invokevirtual 86, 3) := by decide +kernel
theorem dX5_witness_18 : decode cX5_witness 18 = .ok (.invokevirtual 147, 3) := by decide +kernel
theorem dX5_witness_21 : decode cX5_witness 21 = .ok (.ireturn, 1) := by decide +kernel
theorem dX5_out_0 : decode cX5_out 0 = .ok (.aload_n 0, 1) := by decide +kernel
theorem dX5_out_1 : decode cX5_out 1 = .ok (.getfield 21, 3) := by decide +kernel
theorem dX5_out_4 : decode cX5_out 4 = .ok (.invokevirtual 130, 3) := by decide +kernel
theorem dX5_out_7 : decode cX5_out 7 = .ok (.aload_n 0, 1) := by decide +kernel
theorem dX5_out_8 : decode cX5_out 8 = .ok (.getfield 21, 3) := by decide +kernel
theorem dX5_out_11 : decode cX5_out 11 = .ok (.aload_n 0, 1) := by decide +kernel
theorem dX5_out_12 : decode cX5_out 12 = .ok (.getfield 10, 3) := by decide +kernel
theorem dX5_out_15 : decode cX5_out 15 = .ok (.invokevirtual 86, 3) := by decide +kernel
theorem dX5_out_18 : decode cX5_out 18 = .ok (.invokevirtual 150, 3) := by decide +kernel
theorem dX5_out_21 : decode cX5_out 21 = .ok (.ireturn, 1) := by decide +kernel
theorem dX5_admitted_0 : decode cX5_admitted 0 = .ok (.aload_n 0, 1) := by decide +kernel
theorem dX5_admitted_1 : decode cX5_admitted 1 = .ok (.getfield 21, 3) := by decide +kernel
theorem dX5_admitted_4 : decode cX5_admitted 4 = .ok (.invokevirtual 130, 3) := by decide +kernel
theorem dX5_admitted_7 : decode cX5_admitted 7 = .ok (.aload_n 0, 1) := by decide +kernel
theorem dX5_admitted_8 : decode cX5_admitted 8 = .ok (.getfield 21, 3) := by decide +kernel
theorem dX5_admitted_11 : decode cX5_admitted 11 = .ok (.aload_n 0, 1) := by decide +kernel
theorem dX5_admitted_12 : decode cX5_admitted 12 = .ok (.getfield 10, 3) := by decide +kernel
theorem dX5_admitted_15 : decode cX5_admitted 15 = .ok (.invokevirtual 86, 3) := by decide +kernel
theorem dX5_admitted_18 : decode cX5_admitted 18 = .ok (.invokevirtual 153, 3) := by decide +kernel
theorem dX5_admitted_21 : decode cX5_admitted 21 = .ok (.ireturn, 1) := by decide +kernel
theorem dX5_softer_0 : decode cX5_softer 0 = .ok (.aload_n 0, 1) := by decide +kernel
theorem dX5_softer_1 : decode cX5_softer 1 = .ok (.getfield 21, 3) := by decide +kernel
theorem dX5_softer_4 : decode cX5_softer 4 = .ok (.aload_n 0, 1) := by decide +kernel
theorem dX5_softer_5 : decode cX5_softer 5 = .ok (.getfield 10, 3) := by decide +kernel
theorem dX5_softer_8 : decode cX5_softer 8 = .ok (.invokevirtual 86, 3) := by decide +kernel
theorem dX5_softer_11 : decode cX5_softer 11 = .ok (.invokevirtual 156, 3) := by decide +kernel
theorem dX5_softer_14 : decode cX5_softer 14 = .ok (.ireturn, 1) := by decide +kernel
theorem dX5_margin_0 : decode cX5_margin 0 = .ok (.aload_n 0, 1) := by decide +kernel
theorem dX5_margin_1 : decode cX5_margin 1 = .ok (.getfield 21, 3) := by decide +kernel
theorem dX5_margin_4 : decode cX5_margin 4 = .ok (.aload_n 0, 1) := by decide +kernel
theorem dX5_margin_5 : decode cX5_margin 5 = .ok (.getfield 10, 3) := by decide +kernel
theorem dX5_margin_8 : decode cX5_margin 8 = .ok (.invokevirtual 86, 3) := by decide +kernel
theorem dX5_margin_11 : decode cX5_margin 11 = .ok (.invokevirtual 159, 3) := by decide +kernel
theorem dX5_margin_14 : decode cX5_margin 14 = .ok (.ireturn, 1) := by decide +kernel
theorem dX5_share_0 : decode cX5_share 0 = .ok (.aload_n 0, 1) := by decide +kernel
theorem dX5_share_1 : decode cX5_share 1 = .ok (.getfield 10, 3) := by decide +kernel
theorem dX5_share_4 : decode cX5_share 4 = .ok (.iload_n 1, 1) := by decide +kernel
theorem dX5_share_5 : decode cX5_share 5 = .ok (.invokevirtual 53, 3) := by decide +kernel
theorem dX5_share_8 : decode cX5_share 8 = .ok (.ifCond .eq 12, 3) := by decide +kernel
theorem dX5_share_11 : decode cX5_share 11 = .ok (.iload_n 2, 1) := by decide +kernel
theorem dX5_share_12 : decode cX5_share 12 = .ok (.ifCond .lt 8, 3) := by decide +kernel
theorem dX5_share_15 : decode cX5_share 15 = .ok (.iload_n 2, 1) := by decide +kernel
theorem dX5_share_16 : decode cX5_share 16 = .ok (.iconst 1, 1) := by decide +kernel
theorem dX5_share_17 : decode cX5_share 17 = .ok (.if_icmp .le 9, 3) := by decide +kernel
theorem dX5_share_20 : decode cX5_share 20 = .ok (.bipush (-2), 2) := by decide +kernel
theorem dX5_share_22 : decode cX5_share 22 = .ok (.invokestatic 126, 3) := by decide +kernel
theorem dX5_share_25 : decode cX5_share 25 = .ok (.lreturn, 1) := by decide +kernel
theorem dX5_share_26 : decode cX5_share 26 = .ok (.aload_n 0, 1) := by decide +kernel
theorem dX5_share_27 : decode cX5_share 27 = .ok (.getfield 10, 3) := by decide +kernel
theorem dX5_share_30 : decode cX5_share 30 = .ok (.iload_n 1, 1) := by decide +kernel
theorem dX5_share_31 : decode cX5_share 31 = .ok (.aload_n 0, 1) := by decide +kernel
theorem dX5_share_32 : decode cX5_share 32 = .ok (.getfield 10, 3) := by decide +kernel
theorem dX5_share_35 : decode cX5_share 35 = .ok (.getfield 90, 3) := by decide +kernel
theorem dX5_share_38 : decode cX5_share 38 = .ok (.invokevirtual 162, 3) := by decide +kernel
theorem dX5_share_41 : decode cX5_share 41 = .ok (.istore_n 3, 1) := by decide +kernel
theorem dX5_share_42 : decode cX5_share 42 = .ok (.aload_n 0, 1) := by decide +kernel
theorem dX5_share_43 : decode cX5_share 43 = .ok (.getfield 10, 3) := by decide +kernel
theorem dX5_share_46 : decode cX5_share 46 = .ok (.iload_n 1, 1) := by decide +kernel
theorem dX5_share_47 : decode cX5_share 47 = .ok (.invokevirtual 113, 3) := by decide +kernel
theorem dX5_share_50 : decode cX5_share 50 = .ok (.ifCond .eq 7, 3) := by decide +kernel
theorem dX5_share_53 : decode cX5_share 53 = .ok (.iload_n 3, 1) := by decide +kernel
theorem dX5_share_54 : decode cX5_share 54 = .ok (.ifCond .ne 9, 3) := by decide +kernel
theorem dX5_share_57 : decode cX5_share 57 = .ok (.bipush (-3), 2) := by decide +kernel
theorem dX5_share_59 : decode cX5_share 59 = .ok (.invokestatic 126, 3) := by decide +kernel
theorem dX5_share_62 : decode cX5_share 62 = .ok (.lreturn, 1) := by decide +kernel
theorem dX5_share_63 : decode cX5_share 63 = .ok (.aload_n 0, 1) := by decide +kernel
theorem dX5_share_64 : decode cX5_share 64 = .ok (.getfield 10, 3) := by decide +kernel
theorem dX5_share_67 : decode cX5_share 67 = .ok (.iload_n 1, 1) := by decide +kernel
theorem dX5_share_68 : decode cX5_share 68 = .ok (.iload_n 1, 1) := by decide +kernel
theorem dX5_share_69 : decode cX5_share 69 = .ok (.invokevirtual 61, 3) := by decide +kernel
theorem dX5_share_72 : decode cX5_share 72 = .ok (.i2l, 1) := by decide +kernel
theorem dX5_share_73 : decode cX5_share 73 = .ok (.aload_n 0, 1) := by decide +kernel
theorem dX5_share_74 : decode cX5_share 74 = .ok (.getfield 10, 3) := by decide +kernel
theorem dX5_share_77 : decode cX5_share 77 = .ok (.getfield 90, 3) := by decide +kernel
theorem dX5_share_80 : decode cX5_share 80 = .ok (.iload_n 1, 1) := by decide +kernel
theorem dX5_share_81 : decode cX5_share 81 = .ok (.iaload, 1) := by decide +kernel
theorem dX5_share_82 : decode cX5_share 82 = .ok (.i2l, 1) := by decide +kernel
theorem dX5_share_83 : decode cX5_share 83 = .ok (.lmul, 1) := by decide +kernel
theorem dX5_share_84 : decode cX5_share 84 = .ok (.iload_n 3, 1) := by decide +kernel
theorem dX5_share_85 : decode cX5_share 85 = .ok (.i2l, 1) := by decide +kernel
theorem dX5_share_86 : decode cX5_share 86 = .ok (.iload_n 2, 1) := by decide +kernel
theorem dX5_share_87 : decode cX5_share 87 = .ok (.invokestatic 143, 3) := by decide +kernel
theorem dX5_share_90 : decode cX5_share 90 = .ok (.lreturn, 1) := by decide +kernel
theorem dX5_step_0 : decode cX5_step 0 = .ok (.aload_n 0, 1) := by decide +kernel
theorem dX5_step_1 : decode cX5_step 1 = .ok (.getfield 10, 3) := by decide +kernel
theorem dX5_step_4 : decode cX5_step 4 = .ok (.iload_n 1, 1) := by decide +kernel
theorem dX5_step_5 : decode cX5_step 5 = .ok (.invokevirtual 53, 3) := by decide +kernel
theorem dX5_step_8 : decode cX5_step 8 = .ok (.ifCond .ne 6, 3) := by decide +kernel
theorem dX5_step_11 : decode cX5_step 11 = .ok (.bipush (-2), 2) := by decide +kernel
theorem dX5_step_13 : decode cX5_step 13 = .ok (.ireturn, 1) := by decide +kernel
theorem dX5_step_14 : decode cX5_step 14 = .ok (.aload_n 0, 1) := by decide +kernel
theorem dX5_step_15 : decode cX5_step 15 = .ok (.getfield 10, 3) := by decide +kernel
theorem dX5_step_18 : decode cX5_step 18 = .ok (.iload_n 1, 1) := by decide +kernel
theorem dX5_step_19 : decode cX5_step 19 = .ok (.invokevirtual 113, 3) := by decide +kernel
theorem dX5_step_22 : decode cX5_step 22 = .ok (.ifCond .ne 6, 3) := by decide +kernel
theorem dX5_step_25 : decode cX5_step 25 = .ok (.bipush (-3), 2) := by decide +kernel
theorem dX5_step_27 : decode cX5_step 27 = .ok (.ireturn, 1) := by decide +kernel
theorem dX5_step_28 : decode cX5_step 28 = .ok (.aload_n 0, 1) := by decide +kernel
theorem dX5_step_29 : decode cX5_step 29 = .ok (.getfield 10, 3) := by decide +kernel
theorem dX5_step_32 : decode cX5_step 32 = .ok (.getfield 90, 3) := by decide +kernel
theorem dX5_step_35 : decode cX5_step 35 = .ok (.iload_n 1, 1) := by decide +kernel
theorem dX5_step_36 : decode cX5_step 36 = .ok (.aload_n 0, 1) := by decide +kernel
theorem dX5_step_37 : decode cX5_step 37 = .ok (.getfield 28, 3) := by decide +kernel
theorem dX5_step_40 : decode cX5_step 40 = .ok (.iload_n 1, 1) := by decide +kernel
theorem dX5_step_41 : decode cX5_step 41 = .ok (.aload_n 0, 1) := by decide +kernel
theorem dX5_step_42 : decode cX5_step 42 = .ok (.getfield 10, 3) := by decide +kernel
theorem dX5_step_45 : decode cX5_step 45 = .ok (.getfield 90, 3) := by decide +kernel
theorem dX5_step_48 : decode cX5_step 48 = .ok (.invokevirtual 165, 3) := by decide +kernel
theorem dX5_step_51 : decode cX5_step 51 = .ok (.iastore, 1) := by decide +kernel
theorem dX5_step_52 : decode cX5_step 52 = .ok (.aload_n 0, 1) := by decide +kernel
theorem dX5_step_53 : decode cX5_step 53 = .ok (.getfield 10, 3) := by decide +kernel
theorem dX5_step_56 : decode cX5_step 56 = .ok (.getfield 90, 3) := by decide +kernel
theorem dX5_step_59 : decode cX5_step 59 = .ok (.iload_n 1, 1) := by decide +kernel
theorem dX5_step_60 : decode cX5_step 60 = .ok (.iaload, 1) := by decide +kernel
theorem dX5_step_61 : decode cX5_step 61 = .ok (.ireturn, 1) := by decide +kernel
theorem dX5_turn_0 : decode cX5_turn 0 = .ok (.aload_n 0, 1) := by decide +kernel
theorem dX5_turn_1 : decode cX5_turn 1 = .ok (.getfield 28, 3) := by decide +kernel
theorem dX5_turn_4 : decode cX5_turn 4 = .ok (.aload_n 0, 1) := by decide +kernel
theorem dX5_turn_5 : decode cX5_turn 5 = .ok (.getfield 10, 3) := by decide +kernel
theorem dX5_turn_8 : decode cX5_turn 8 = .ok (.getfield 90, 3) := by decide +kernel
theorem dX5_turn_11 : decode cX5_turn 11 = .ok (.invokevirtual 168, 3) := by decide +kernel
theorem dX5_turn_14 : decode cX5_turn 14 = .ok (.ireturn, 1) := by decide +kernel
theorem dX5_order_0 : decode cX5_order 0 = .ok (.aload_n 0, 1) := by decide +kernel
theorem dX5_order_1 : decode cX5_order 1 = .ok (.getfield 35, 3) := by decide +kernel
theorem dX5_order_4 : decode cX5_order 4 = .ok (.aload_n 0, 1) := by decide +kernel
theorem dX5_order_5 : decode cX5_order 5 = .ok (.getfield 10, 3) := by decide +kernel
theorem dX5_order_8 : decode cX5_order 8 = .ok (.getfield 50, 3) := by decide +kernel
theorem dX5_order_11 : decode cX5_order 11 = .ok (.invokevirtual 102, 3) := by decide +kernel
theorem dX5_order_14 : decode cX5_order 14 = .ok (.iconst (-1), 1) := by decide +kernel
theorem dX5_order_15 : decode cX5_order 15 = .ok (.if_icmp .ne 10, 3) := by decide +kernel
theorem dX5_order_18 : decode cX5_order 18 = .ok (.aload_n 0, 1) := by decide +kernel
theorem dX5_order_19 : decode cX5_order 19 = .ok (.invokevirtual 172, 3) := by decide +kernel
theorem dX5_order_22 : decode cX5_order 22 = .ok (.goto 4, 3) := by decide +kernel
theorem dX5_order_25 : decode cX5_order 25 = .ok (.iconst 0, 1) := by decide +kernel
theorem dX5_order_26 : decode cX5_order 26 = .ok (.ireturn, 1) := by decide +kernel
theorem dX5_still_0 : decode cX5_still 0 = .ok (.aload_n 0, 1) := by decide +kernel
theorem dX5_still_1 : decode cX5_still 1 = .ok (.getfield 28, 3) := by decide +kernel
theorem dX5_still_4 : decode cX5_still 4 = .ok (.invokevirtual 175, 3) := by decide +kernel
theorem dX5_still_7 : decode cX5_still 7 = .ok (.ireturn, 1) := by decide +kernel
theorem dX5_rest_0 : decode cX5_rest 0 = .ok (.aload_n 0, 1) := by decide +kernel
theorem dX5_rest_1 : decode cX5_rest 1 = .ok (.getfield 10, 3) := by decide +kernel
theorem dX5_rest_4 : decode cX5_rest 4 = .ok (.iload_n 1, 1) := by decide +kernel
theorem dX5_rest_5 : decode cX5_rest 5 = .ok (.invokevirtual 53, 3) := by decide +kernel
theorem dX5_rest_8 : decode cX5_rest 8 = .ok (.ifCond .ne 6, 3) := by decide +kernel
theorem dX5_rest_11 : decode cX5_rest 11 = .ok (.bipush (-2), 2) := by decide +kernel
theorem dX5_rest_13 : decode cX5_rest 13 = .ok (.ireturn, 1) := by decide +kernel
theorem dX5_rest_14 : decode cX5_rest 14 = .ok (.aload_n 0, 1) := by decide +kernel
theorem dX5_rest_15 : decode cX5_rest 15 = .ok (.getfield 28, 3) := by decide +kernel
theorem dX5_rest_18 : decode cX5_rest 18 = .ok (.invokevirtual 175, 3) := by decide +kernel
theorem dX5_rest_21 : decode cX5_rest 21 = .ok (.pop, 1) := by decide +kernel
theorem dX5_rest_22 : decode cX5_rest 22 = .ok (.aload_n 0, 1) := by decide +kernel
theorem dX5_rest_23 : decode cX5_rest 23 = .ok (.getfield 28, 3) := by decide +kernel
theorem dX5_rest_26 : decode cX5_rest 26 = .ok (.getfield 178, 3) := by decide +kernel
theorem dX5_rest_29 : decode cX5_rest 29 = .ok (.iload_n 1, 1) := by decide +kernel
theorem dX5_rest_30 : decode cX5_rest 30 = .ok (.iaload, 1) := by decide +kernel
theorem dX5_rest_31 : decode cX5_rest 31 = .ok (.ireturn, 1) := by decide +kernel
theorem dX5_met_0 : decode cX5_met 0 = .ok (.aload_n 0, 1) := by decide +kernel
theorem dX5_met_1 : decode cX5_met 1 = .ok (.getfield 10, 3) := by decide +kernel
theorem dX5_met_4 : decode cX5_met 4 = .ok (.invokevirtual 181, 3) := by decide +kernel
theorem dX5_met_7 : decode cX5_met 7 = .ok (.ireturn, 1) := by decide +kernel
theorem dX5_sheet_0 : decode cX5_sheet 0 = .ok (.iload_n 1, 1) := by decide +kernel
theorem dX5_sheet_1 : decode cX5_sheet 1 = .ok (.invokestatic 184, 3) := by decide +kernel
theorem dX5_sheet_4 : decode cX5_sheet 4 = .ok (.ifCond .eq 16, 3) := by decide +kernel
theorem dX5_sheet_7 : decode cX5_sheet 7 = .ok (.iload_n 2, 1) := by decide +kernel
theorem dX5_sheet_8 : decode cX5_sheet 8 = .ok (.invokestatic 187, 3) := by decide +kernel
theorem dX5_sheet_11 : decode cX5_sheet 11 = .ok (.ifCond .eq 9, 3) := by decide +kernel
theorem dX5_sheet_14 : decode cX5_sheet 14 = .ok (.iload_n 3, 1) := by decide +kernel
theorem dX5_sheet_15 : decode cX5_sheet 15 = .ok (.bipush 60, 2) := by decide +kernel
theorem dX5_sheet_17 : decode cX5_sheet 17 = .ok (.if_icmp .le 6, 3) := by decide +kernel
theorem dX5_sheet_20 : decode cX5_sheet 20 = .ok (.bipush (-2), 2) := by decide +kernel
theorem dX5_sheet_22 : decode cX5_sheet 22 = .ok (.ireturn, 1) := by decide +kernel
theorem dX5_sheet_23 : decode cX5_sheet 23 = .ok (.iload_n 3, 1) := by decide +kernel
theorem dX5_sheet_24 : decode cX5_sheet 24 = .ok (.ifCond .ge 9, 3) := by decide +kernel
theorem dX5_sheet_27 : decode cX5_sheet 27 = .ok (.aload_n 0, 1) := by decide +kernel
theorem dX5_sheet_28 : decode cX5_sheet 28 = .ok (.iconst 5, 1) := by decide +kernel
theorem dX5_sheet_29 : decode cX5_sheet 29 = .ok (.invokevirtual 190, 3) := by decide +kernel
theorem dX5_sheet_32 : decode cX5_sheet 32 = .ok (.ireturn, 1) := by decide +kernel
theorem dX5_sheet_33 : decode cX5_sheet 33 = .ok (.aload_n 0, 1) := by decide +kernel
theorem dX5_sheet_34 : decode cX5_sheet 34 = .ok (.getfield 41, 3) := by decide +kernel
theorem dX5_sheet_37 : decode cX5_sheet 37 = .ok (.iload_n 1, 1) := by decide +kernel
theorem dX5_sheet_38 : decode cX5_sheet 38 = .ok (.aaload, 1) := by decide +kernel
theorem dX5_sheet_39 : decode cX5_sheet 39 = .ok (.iload_n 2, 1) := by decide +kernel
theorem dX5_sheet_40 : decode cX5_sheet 40 = .ok (.iload_n 3, 1) := by decide +kernel
theorem dX5_sheet_41 : decode cX5_sheet 41 = .ok (.invokevirtual 193, 3) := by decide +kernel
theorem dX5_sheet_44 : decode cX5_sheet 44 = .ok (.iload_n 3, 1) := by decide +kernel
theorem dX5_sheet_45 : decode cX5_sheet 45 = .ok (.ireturn, 1) := by decide +kernel
theorem dX5_lose_0 : decode cX5_lose 0 = .ok (.aload_n 0, 1) := by decide +kernel
theorem dX5_lose_1 : decode cX5_lose 1 = .ok (.iload_n 1, 1) := by decide +kernel
theorem dX5_lose_2 : decode cX5_lose 2 = .ok (.invokevirtual 106, 3) := by decide +kernel
theorem dX5_lose_5 : decode cX5_lose 5 = .ok (.istore_n 2, 1) := by decide +kernel
theorem dX5_lose_6 : decode cX5_lose 6 = .ok (.iload_n 2, 1) := by decide +kernel
theorem dX5_lose_7 : decode cX5_lose 7 = .ok (.ifCond .eq 5, 3) := by decide +kernel
theorem dX5_lose_10 : decode cX5_lose 10 = .ok (.iload_n 2, 1) := by decide +kernel
theorem dX5_lose_11 : decode cX5_lose 11 = .ok (.ireturn, 1) := by decide +kernel
theorem dX5_lose_12 : decode cX5_lose 12 = .ok (.aload_n 0, 1) := by decide +kernel
theorem dX5_lose_13 : decode cX5_lose 13 = .ok (.getfield 41, 3) := by decide +kernel
theorem dX5_lose_16 : decode cX5_lose 16 = .ok (.iload_n 1, 1) := by decide +kernel
theorem dX5_lose_17 : decode cX5_lose 17 = .ok (.aaload, 1) := by decide +kernel
theorem dX5_lose_18 : decode cX5_lose 18 = .ok (.getfield 197, 3) := by decide +kernel
theorem dX5_lose_21 : decode cX5_lose 21 = .ok (.istore_n 3, 1) := by decide +kernel
theorem dX5_lose_22 : decode cX5_lose 22 = .ok (.aload_n 0, 1) := by decide +kernel
theorem dX5_lose_23 : decode cX5_lose 23 = .ok (.getfield 41, 3) := by decide +kernel
theorem dX5_lose_26 : decode cX5_lose 26 = .ok (.iload_n 1, 1) := by decide +kernel
theorem dX5_lose_27 : decode cX5_lose 27 = .ok (.aaload, 1) := by decide +kernel
theorem dX5_lose_28 : decode cX5_lose 28 = .ok (.iconst (-1), 1) := by decide +kernel
theorem dX5_lose_29 : decode cX5_lose 29 = .ok (.putfield 197, 3) := by decide +kernel
theorem dX5_lose_32 : decode cX5_lose 32 = .ok (.iload_n 3, 1) := by decide +kernel
theorem dX5_lose_33 : decode cX5_lose 33 = .ok (.ireturn, 1) := by decide +kernel
theorem dX5_put_0 : decode cX5_put 0 = .ok (.aload_n 0, 1) := by decide +kernel
theorem dX5_put_1 : decode cX5_put 1 = .ok (.iload_n 1, 1) := by decide +kernel
theorem dX5_put_2 : decode cX5_put 2 = .ok (.iload_n 2, 1) := by decide +kernel
theorem dX5_put_3 : decode cX5_put 3 = .ok (.iload_n 3, 1) := by decide +kernel
theorem dX5_put_4 : decode cX5_put 4 = .ok (.invokevirtual 200, 3) := by decide +kernel
theorem dX5_put_7 : decode cX5_put 7 = .ok (.istore 5, 2) := by decide +kernel
theorem dX5_put_9 : decode cX5_put 9 = .ok (.iload 5, 2) := by decide +kernel
theorem dX5_put_11 : decode cX5_put 11 = .ok (.ifCond .eq 6, 3) := by decide +kernel
theorem dX5_put_14 : decode cX5_put 14 = .ok (.iload 5, 2) := by decide +kernel
theorem dX5_put_16 : decode cX5_put 16 = .ok (.ireturn, 1) := by decide +kernel
theorem dX5_put_17 : decode cX5_put 17 = .ok (.aload_n 0, 1) := by decide +kernel
theorem dX5_put_18 : decode cX5_put 18 = .ok (.getfield 41, 3) := by decide +kernel
theorem dX5_put_21 : decode cX5_put 21 = .ok (.iload_n 1, 1) := by decide +kernel
theorem dX5_put_22 : decode cX5_put 22 = .ok (.aaload, 1) := by decide +kernel
theorem dX5_put_23 : decode cX5_put 23 = .ok (.iload_n 3, 1) := by decide +kernel
theorem dX5_put_24 : decode cX5_put 24 = .ok (.iload 4, 2) := by decide +kernel
theorem dX5_put_26 : decode cX5_put 26 = .ok (.invokevirtual 204, 3) := by decide +kernel
theorem dX5_put_29 : decode cX5_put 29 = .ok (.iconst 1, 1) := by decide +kernel
theorem dX5_put_30 : decode cX5_put 30 = .ok (.ireturn, 1) := by decide +kernel
theorem dX5_get_0 : decode cX5_get 0 = .ok (.aload_n 0, 1) := by decide +kernel
theorem dX5_get_1 : decode cX5_get 1 = .ok (.iload_n 1, 1) := by decide +kernel
theorem dX5_get_2 : decode cX5_get 2 = .ok (.iload_n 2, 1) := by decide +kernel
theorem dX5_get_3 : decode cX5_get 3 = .ok (.iload_n 3, 1) := by decide +kernel
theorem dX5_get_4 : decode cX5_get 4 = .ok (.invokevirtual 200, 3) := by decide +kernel
theorem dX5_get_7 : decode cX5_get 7 = .ok (.ifCond .eq 8, 3) := by decide +kernel
theorem dX5_get_10 : decode cX5_get 10 = .ok (.ldc 209, 2) := by decide +kernel
theorem dX5_get_12 : decode cX5_get 12 = .ok (.goto 14, 3) := by decide +kernel
theorem dX5_get_15 : decode cX5_get 15 = .ok (.aload_n 0, 1) := by decide +kernel
theorem dX5_get_16 : decode cX5_get 16 = .ok (.getfield 41, 3) := by decide +kernel
theorem dX5_get_19 : decode cX5_get 19 = .ok (.iload_n 1, 1) := by decide +kernel
theorem dX5_get_20 : decode cX5_get 20 = .ok (.aaload, 1) := by decide +kernel
theorem dX5_get_21 : decode cX5_get 21 = .ok (.getfield 210, 3) := by decide +kernel
theorem dX5_get_24 : decode cX5_get 24 = .ok (.iload_n 3, 1) := by decide +kernel
theorem dX5_get_25 : decode cX5_get 25 = .ok (.iaload, 1) := by decide +kernel
theorem dX5_get_26 : decode cX5_get 26 = .ok (.ireturn, 1) := by decide +kernel
theorem dX5_copy_0 : decode cX5_copy 0 = .ok (.iload_n 1, 1) := by decide +kernel
theorem dX5_copy_1 : decode cX5_copy 1 = .ok (.invokestatic 184, 3) := by decide +kernel
theorem dX5_copy_4 : decode cX5_copy 4 = .ok (.ifCond .eq 10, 3) := by decide +kernel
theorem dX5_copy_7 : decode cX5_copy 7 = .ok (.iload_n 3, 1) := by decide +kernel
theorem dX5_copy_8 : decode cX5_copy 8 = .ok (.invokestatic 184, 3) := by decide +kernel
theorem dX5_copy_11 : decode cX5_copy 11 = .ok (.ifCond .ne 6, 3) := by decide +kernel
theorem dX5_copy_14 : decode cX5_copy 14 = .ok (.bipush (-2), 2) := by decide +kernel
theorem dX5_copy_16 : decode cX5_copy 16 = .ok (.ireturn, 1) := by decide +kernel
theorem dX5_copy_17 : decode cX5_copy 17 = .ok (.aload_n 0, 1) := by decide +kernel
theorem dX5_copy_18 : decode cX5_copy 18 = .ok (.getfield 41, 3) := by decide +kernel
theorem dX5_copy_21 : decode cX5_copy 21 = .ok (.iload_n 1, 1) := by decide +kernel
theorem dX5_copy_22 : decode cX5_copy 22 = .ok (.aaload, 1) := by decide +kernel
theorem dX5_copy_23 : decode cX5_copy 23 = .ok (.astore 6, 2) := by decide +kernel
theorem dX5_copy_25 : decode cX5_copy 25 = .ok (.aload_n 0, 1) := by decide +kernel
theorem dX5_copy_26 : decode cX5_copy 26 = .ok (.getfield 41, 3) := by decide +kernel
theorem dX5_copy_29 : decode cX5_copy 29 = .ok (.iload_n 3, 1) := by decide +kernel
theorem dX5_copy_30 : decode cX5_copy 30 = .ok (.aaload, 1) := by decide +kernel
theorem dX5_copy_31 : decode cX5_copy 31 = .ok (.astore 7, 2) := by decide +kernel
theorem dX5_copy_33 : decode cX5_copy 33 = .ok (.aload 6, 2) := by decide +kernel
theorem dX5_copy_35 : decode cX5_copy 35 = .ok (.invokevirtual 213, 3) := by decide +kernel
theorem dX5_copy_38 : decode cX5_copy 38 = .ok (.ifCond .ne 11, 3) := by decide +kernel
theorem dX5_copy_41 : decode cX5_copy 41 = .ok (.aload 7, 2) := by decide +kernel
theorem dX5_copy_43 : decode cX5_copy 43 = .ok (.invokevirtual 213, 3) := by decide +kernel
theorem dX5_copy_46 : decode cX5_copy 46 = .ok (.ifCond .eq 9, 3) := by decide +kernel
theorem dX5_copy_49 : decode cX5_copy 49 = .ok (.aload_n 0, 1) := by decide +kernel
theorem dX5_copy_50 : decode cX5_copy 50 = .ok (.iconst 1, 1) := by decide +kernel
theorem dX5_copy_51 : decode cX5_copy 51 = .ok (.invokevirtual 190, 3) := by decide +kernel
theorem dX5_copy_54 : decode cX5_copy 54 = .ok (.ireturn, 1) := by decide +kernel
theorem dX5_copy_55 : decode cX5_copy 55 = .ok (.aload 6, 2) := by decide +kernel
theorem dX5_copy_57 : decode cX5_copy 57 = .ok (.getfield 217, 3) := by decide +kernel
theorem dX5_copy_60 : decode cX5_copy 60 = .ok (.aload 7, 2) := by decide +kernel
theorem dX5_copy_62 : decode cX5_copy 62 = .ok (.getfield 217, 3) := by decide +kernel
theorem dX5_copy_65 : decode cX5_copy 65 = .ok (.if_icmp .eq 9, 3) := by decide +kernel
theorem dX5_copy_68 : decode cX5_copy 68 = .ok (.aload_n 0, 1) := by decide +kernel
theorem dX5_copy_69 : decode cX5_copy 69 = .ok (.iconst 4, 1) := by decide +kernel
theorem dX5_copy_70 : decode cX5_copy 70 = .ok (.invokevirtual 190, 3) := by decide +kernel
theorem dX5_copy_73 : decode cX5_copy 73 = .ok (.ireturn, 1) := by decide +kernel
theorem dX5_copy_74 : decode cX5_copy 74 = .ok (.aload 6, 2) := by decide +kernel
theorem dX5_copy_76 : decode cX5_copy 76 = .ok (.iload_n 2, 1) := by decide +kernel
theorem dX5_copy_77 : decode cX5_copy 77 = .ok (.iload 5, 2) := by decide +kernel
theorem dX5_copy_79 : decode cX5_copy 79 = .ok (.invokevirtual 220, 3) := by decide +kernel
theorem dX5_copy_82 : decode cX5_copy 82 = .ok (.ifCond .eq 15, 3) := by decide +kernel
theorem dX5_copy_85 : decode cX5_copy 85 = .ok (.aload 7, 2) := by decide +kernel
theorem dX5_copy_87 : decode cX5_copy 87 = .ok (.iload 4, 2) := by decide +kernel
theorem dX5_copy_89 : decode cX5_copy 89 = .ok (.iload 5, 2) := by decide +kernel
theorem dX5_copy_91 : decode cX5_copy 91 = .ok (.invokevirtual 220, 3) := by decide +kernel
theorem dX5_copy_94 : decode cX5_copy 94 = .ok (.ifCond .ne 9, 3) := by decide +kernel
theorem dX5_copy_97 : decode cX5_copy 97 = .ok (.aload_n 0, 1) := by decide +kernel
theorem dX5_copy_98 : decode cX5_copy 98 = .ok (.iconst 2, 1) := by decide +kernel
theorem dX5_copy_99 : decode cX5_copy 99 = .ok (.invokevirtual 190, 3) := by decide +kernel
theorem dX5_copy_102 : decode cX5_copy 102 = .ok (.ireturn, 1) := by decide +kernel
theorem dX5_copy_103 : decode cX5_copy 103 = .ok (.aload 6, 2) := by decide +kernel
theorem dX5_copy_105 : decode cX5_copy 105 = .ok (.getfield 210, 3) := by decide +kernel
theorem dX5_copy_108 : decode cX5_copy 108 = .ok (.iload_n 2, 1) := by decide +kernel
theorem dX5_copy_109 : decode cX5_copy 109 = .ok (.aload 7, 2) := by decide +kernel
theorem dX5_copy_111 : decode cX5_copy 111 = .ok (.getfield 210, 3) := by decide +kernel
theorem dX5_copy_114 : decode cX5_copy 114 = .ok (.iload 4, 2) := by decide +kernel
theorem dX5_copy_116 : decode cX5_copy 116 = .ok (.iload 5, 2) := by decide +kernel
theorem dX5_copy_118 : decode cX5_copy 118 = .ok (.invokestatic 224, 3) := by decide +kernel
theorem dX5_copy_121 : decode cX5_copy 121 = .ok (.iconst 1, 1) := by decide +kernel
theorem dX5_copy_122 : decode cX5_copy 122 = .ok (.ireturn, 1) := by decide +kernel
theorem dX5_write_0 : decode cX5_write 0 = .ok (.aload_n 0, 1) := by decide +kernel
theorem dX5_write_1 : decode cX5_write 1 = .ok (.iload_n 1, 1) := by decide +kernel
theorem dX5_write_2 : decode cX5_write 2 = .ok (.invokevirtual 106, 3) := by decide +kernel
theorem dX5_write_5 : decode cX5_write 5 = .ok (.istore_n 2, 1) := by decide +kernel
theorem dX5_write_6 : decode cX5_write 6 = .ok (.iload_n 2, 1) := by decide +kernel
theorem dX5_write_7 : decode cX5_write 7 = .ok (.ifCond .eq 5, 3) := by decide +kernel
theorem dX5_write_10 : decode cX5_write 10 = .ok (.iload_n 2, 1) := by decide +kernel
theorem dX5_write_11 : decode cX5_write 11 = .ok (.ireturn, 1) := by decide +kernel
theorem dX5_write_12 : decode cX5_write 12 = .ok (.aload_n 0, 1) := by decide +kernel
theorem dX5_write_13 : decode cX5_write 13 = .ok (.getfield 28, 3) := by decide +kernel
theorem dX5_write_16 : decode cX5_write 16 = .ok (.invokevirtual 175, 3) := by decide +kernel
theorem dX5_write_19 : decode cX5_write 19 = .ok (.pop, 1) := by decide +kernel
theorem dX5_write_20 : decode cX5_write 20 = .ok (.aload_n 0, 1) := by decide +kernel
theorem dX5_write_21 : decode cX5_write 21 = .ok (.getfield 41, 3) := by decide +kernel
theorem dX5_write_24 : decode cX5_write 24 = .ok (.iload_n 1, 1) := by decide +kernel
theorem dX5_write_25 : decode cX5_write 25 = .ok (.aaload, 1) := by decide +kernel
theorem dX5_write_26 : decode cX5_write 26 = .ok (.getfield 197, 3) := by decide +kernel
theorem dX5_write_29 : decode cX5_write 29 = .ok (.aload_n 0, 1) := by decide +kernel
theorem dX5_write_30 : decode cX5_write 30 = .ok (.getfield 10, 3) := by decide +kernel
theorem dX5_write_33 : decode cX5_write 33 = .ok (.getfield 50, 3) := by decide +kernel
theorem dX5_write_36 : decode cX5_write 36 = .ok (.invokestatic 230, 3) := by decide +kernel
theorem dX5_write_39 : decode cX5_write 39 = .ok (.istore_n 3, 1) := by decide +kernel
theorem dX5_write_40 : decode cX5_write 40 = .ok (.iconst 0, 1) := by decide +kernel
theorem dX5_write_41 : decode cX5_write 41 = .ok (.istore 4, 2) := by decide +kernel
theorem dX5_write_43 : decode cX5_write 43 = .ok (.iload 4, 2) := by decide +kernel
theorem dX5_write_45 : decode cX5_write 45 = .ok (.iload_n 3, 1) := by decide +kernel
theorem dX5_write_46 : decode cX5_write 46 = .ok (.if_icmp .ge 30, 3) := by decide +kernel
theorem dX5_write_49 : decode cX5_write 49 = .ok (.aload_n 0, 1) := by decide +kernel
theorem dX5_write_50 : decode cX5_write 50 = .ok (.getfield 41, 3) := by decide +kernel
theorem dX5_write_53 : decode cX5_write 53 = .ok (.iload_n 1, 1) := by decide +kernel
theorem dX5_write_54 : decode cX5_write 54 = .ok (.aaload, 1) := by decide +kernel
theorem dX5_write_55 : decode cX5_write 55 = .ok (.iload 4, 2) := by decide +kernel
theorem dX5_write_57 : decode cX5_write 57 = .ok (.aload_n 0, 1) := by decide +kernel
theorem dX5_write_58 : decode cX5_write 58 = .ok (.getfield 28, 3) := by decide +kernel
theorem dX5_write_61 : decode cX5_write 61 = .ok (.getfield 178, 3) := by decide +kernel
theorem dX5_write_64 : decode cX5_write 64 = .ok (.iload 4, 2) := by decide +kernel
theorem dX5_write_66 : decode cX5_write 66 = .ok (.iaload, 1) := by decide +kernel
theorem dX5_write_67 : decode cX5_write 67 = .ok (.invokevirtual 204, 3) := by decide +kernel
theorem dX5_write_70 : decode cX5_write 70 = .ok (.iinc 4 1, 3) := by decide +kernel
theorem dX5_write_73 : decode cX5_write 73 = .ok (.goto (-30), 3) := by decide +kernel
theorem dX5_write_76 : decode cX5_write 76 = .ok (.iload_n 3, 1) := by decide +kernel
theorem dX5_write_77 : decode cX5_write 77 = .ok (.ireturn, 1) := by decide +kernel
theorem dX5_count_0 : decode cX5_count 0 = .ok (.iload_n 1, 1) := by decide +kernel
theorem dX5_count_1 : decode cX5_count 1 = .ok (.tableswitch 126 0 8 #[51, 59, 70, 81, 89, 97, 105, 113, 121], 51) := by decide +kernel
theorem dX5_count_52 : decode cX5_count 52 = .ok (.aload_n 0, 1) := by decide +kernel
theorem dX5_count_53 : decode cX5_count 53 = .ok (.getfield 10, 3) := by decide +kernel
theorem dX5_count_56 : decode cX5_count 56 = .ok (.getfield 50, 3) := by decide +kernel
theorem dX5_count_59 : decode cX5_count 59 = .ok (.ireturn, 1) := by decide +kernel
theorem dX5_count_60 : decode cX5_count 60 = .ok (.aload_n 0, 1) := by decide +kernel
theorem dX5_count_61 : decode cX5_count 61 = .ok (.getfield 10, 3) := by decide +kernel
theorem dX5_count_64 : decode cX5_count 64 = .ok (.invokevirtual 86, 3) := by decide +kernel
theorem dX5_count_67 : decode cX5_count 67 = .ok (.invokestatic 235, 3) := by decide +kernel
theorem dX5_count_70 : decode cX5_count 70 = .ok (.ireturn, 1) := by decide +kernel
theorem dX5_count_71 : decode cX5_count 71 = .ok (.aload_n 0, 1) := by decide +kernel
theorem dX5_count_72 : decode cX5_count 72 = .ok (.getfield 10, 3) := by decide +kernel
theorem dX5_count_75 : decode cX5_count 75 = .ok (.invokevirtual 181, 3) := by decide +kernel
theorem dX5_count_78 : decode cX5_count 78 = .ok (.invokestatic 235, 3) := by decide +kernel
theorem dX5_count_81 : decode cX5_count 81 = .ok (.ireturn, 1) := by decide +kernel
theorem dX5_count_82 : decode cX5_count 82 = .ok (.aload_n 0, 1) := by decide +kernel
theorem dX5_count_83 : decode cX5_count 83 = .ok (.getfield 10, 3) := by decide +kernel
theorem dX5_count_86 : decode cX5_count 86 = .ok (.invokevirtual 238, 3) := by decide +kernel
theorem dX5_count_89 : decode cX5_count 89 = .ok (.ireturn, 1) := by decide +kernel
theorem dX5_count_90 : decode cX5_count 90 = .ok (.aload_n 0, 1) := by decide +kernel
theorem dX5_count_91 : decode cX5_count 91 = .ok (.invokevirtual 241, 3) := by decide +kernel
theorem dX5_count_94 : decode cX5_count 94 = .ok (.invokestatic 235, 3) := by decide +kernel
theorem dX5_count_97 : decode cX5_count 97 = .ok (.ireturn, 1) := by decide +kernel
theorem dX5_count_98 : decode cX5_count 98 = .ok (.aload_n 0, 1) := by decide +kernel
theorem dX5_count_99 : decode cX5_count 99 = .ok (.invokevirtual 244, 3) := by decide +kernel
theorem dX5_count_102 : decode cX5_count 102 = .ok (.invokestatic 235, 3) := by decide +kernel
theorem dX5_count_105 : decode cX5_count 105 = .ok (.ireturn, 1) := by decide +kernel
theorem dX5_count_106 : decode cX5_count 106 = .ok (.aload_n 0, 1) := by decide +kernel
theorem dX5_count_107 : decode cX5_count 107 = .ok (.getfield 35, 3) := by decide +kernel
theorem dX5_count_110 : decode cX5_count 110 = .ok (.getfield 99, 3) := by decide +kernel
theorem dX5_count_113 : decode cX5_count 113 = .ok (.ireturn, 1) := by decide +kernel
theorem dX5_count_114 : decode cX5_count 114 = .ok (.aload_n 0, 1) := by decide +kernel
theorem dX5_count_115 : decode cX5_count 115 = .ok (.getfield 28, 3) := by decide +kernel
theorem dX5_count_118 : decode cX5_count 118 = .ok (.invokevirtual 175, 3) := by decide +kernel
theorem dX5_count_121 : decode cX5_count 121 = .ok (.ireturn, 1) := by decide +kernel
theorem dX5_count_122 : decode cX5_count 122 = .ok (.aload_n 0, 1) := by decide +kernel
theorem dX5_count_123 : decode cX5_count 123 = .ok (.getfield 46, 3) := by decide +kernel
theorem dX5_count_126 : decode cX5_count 126 = .ok (.ireturn, 1) := by decide +kernel
theorem dX5_count_127 : decode cX5_count 127 = .ok (.bipush (-2), 2) := by decide +kernel
theorem dX5_count_129 : decode cX5_count 129 = .ok (.ireturn, 1) := by decide +kernel
theorem dX5_digest_0 : decode cX5_digest 0 = .ok (.ldc2_w 247, 3) := by decide +kernel
theorem dX5_digest_3 : decode cX5_digest 3 = .ok (.lstore_n 1, 1) := by decide +kernel
theorem dX5_digest_4 : decode cX5_digest 4 = .ok (.iconst 0, 1) := by decide +kernel
theorem dX5_digest_5 : decode cX5_digest 5 = .ok (.istore_n 3, 1) := by decide +kernel
theorem dX5_digest_6 : decode cX5_digest 6 = .ok (.iload_n 3, 1) := by decide +kernel
theorem dX5_digest_7 : decode cX5_digest 7 = .ok (.bipush 6, 2) := by decide +kernel
theorem dX5_digest_9 : decode cX5_digest 9 = .ok (.if_icmp .gt 22, 3) := by decide +kernel
theorem dX5_digest_12 : decode cX5_digest 12 = .ok (.ldc2_w 249, 3) := by decide +kernel
theorem dX5_digest_15 : decode cX5_digest 15 = .ok (.lload_n 1, 1) := by decide +kernel
theorem dX5_digest_16 : decode cX5_digest 16 = .ok (.lmul, 1) := by decide +kernel
theorem dX5_digest_17 : decode cX5_digest 17 = .ok (.aload_n 0, 1) := by decide +kernel
theorem dX5_digest_18 : decode cX5_digest 18 = .ok (.iload_n 3, 1) := by decide +kernel
theorem dX5_digest_19 : decode cX5_digest 19 = .ok (.invokevirtual 251, 3) := by decide +kernel
theorem dX5_digest_22 : decode cX5_digest 22 = .ok (.i2l, 1) := by decide +kernel
theorem dX5_digest_23 : decode cX5_digest 23 = .ok (.ladd, 1) := by decide +kernel
theorem dX5_digest_24 : decode cX5_digest 24 = .ok (.lstore_n 1, 1) := by decide +kernel
theorem dX5_digest_25 : decode cX5_digest 25 = .ok (.iinc 3 1, 3) := by decide +kernel
theorem dX5_digest_28 : decode cX5_digest 28 = .ok (.goto (-22), 3) := by decide +kernel
theorem dX5_digest_31 : decode cX5_digest 31 = .ok (.ldc2_w 249, 3) := by decide +kernel
theorem dX5_digest_34 : decode cX5_digest 34 = .ok (.lload_n 1, 1) := by decide +kernel
theorem dX5_digest_35 : decode cX5_digest 35 = .ok (.lmul, 1) := by decide +kernel
theorem dX5_digest_36 : decode cX5_digest 36 = .ok (.aload_n 0, 1) := by decide +kernel
theorem dX5_digest_37 : decode cX5_digest 37 = .ok (.getfield 28, 3) := by decide +kernel
theorem dX5_digest_40 : decode cX5_digest 40 = .ok (.invokevirtual 175, 3) := by decide +kernel
theorem dX5_digest_43 : decode cX5_digest 43 = .ok (.i2l, 1) := by decide +kernel
theorem dX5_digest_44 : decode cX5_digest 44 = .ok (.ladd, 1) := by decide +kernel
theorem dX5_digest_45 : decode cX5_digest 45 = .ok (.lstore_n 1, 1) := by decide +kernel
theorem dX5_digest_46 : decode cX5_digest 46 = .ok (.ldc2_w 249, 3) := by decide +kernel
theorem dX5_digest_49 : decode cX5_digest 49 = .ok (.lload_n 1, 1) := by decide +kernel
theorem dX5_digest_50 : decode cX5_digest 50 = .ok (.lmul, 1) := by decide +kernel
theorem dX5_digest_51 : decode cX5_digest 51 = .ok (.aload_n 0, 1) := by decide +kernel
theorem dX5_digest_52 : decode cX5_digest 52 = .ok (.invokevirtual 254, 3) := by decide +kernel
theorem dX5_digest_55 : decode cX5_digest 55 = .ok (.i2l, 1) := by decide +kernel
theorem dX5_digest_56 : decode cX5_digest 56 = .ok (.ladd, 1) := by decide +kernel
theorem dX5_digest_57 : decode cX5_digest 57 = .ok (.lstore_n 1, 1) := by decide +kernel
theorem dX5_digest_58 : decode cX5_digest 58 = .ok (.ldc2_w 249, 3) := by decide +kernel
theorem dX5_digest_61 : decode cX5_digest 61 = .ok (.lload_n 1, 1) := by decide +kernel
theorem dX5_digest_62 : decode cX5_digest 62 = .ok (.lmul, 1) := by decide +kernel
theorem dX5_digest_63 : decode cX5_digest 63 = .ok (.aload_n 0, 1) := by decide +kernel
theorem dX5_digest_64 : decode cX5_digest 64 = .ok (.invokevirtual 257, 3) := by decide +kernel
theorem dX5_digest_67 : decode cX5_digest 67 = .ok (.i2l, 1) := by decide +kernel
theorem dX5_digest_68 : decode cX5_digest 68 = .ok (.ladd, 1) := by decide +kernel
theorem dX5_digest_69 : decode cX5_digest 69 = .ok (.lstore_n 1, 1) := by decide +kernel
theorem dX5_digest_70 : decode cX5_digest 70 = .ok (.ldc2_w 249, 3) := by decide +kernel
theorem dX5_digest_73 : decode cX5_digest 73 = .ok (.lload_n 1, 1) := by decide +kernel
theorem dX5_digest_74 : decode cX5_digest 74 = .ok (.lmul, 1) := by decide +kernel
theorem dX5_digest_75 : decode cX5_digest 75 = .ok (.aload_n 0, 1) := by decide +kernel
theorem dX5_digest_76 : decode cX5_digest 76 = .ok (.invokevirtual 260, 3) := by decide +kernel
theorem dX5_digest_79 : decode cX5_digest 79 = .ok (.i2l, 1) := by decide +kernel
theorem dX5_digest_80 : decode cX5_digest 80 = .ok (.ladd, 1) := by decide +kernel
theorem dX5_digest_81 : decode cX5_digest 81 = .ok (.lstore_n 1, 1) := by decide +kernel
theorem dX5_digest_82 : decode cX5_digest 82 = .ok (.ldc2_w 249, 3) := by decide +kernel
theorem dX5_digest_85 : decode cX5_digest 85 = .ok (.lload_n 1, 1) := by decide +kernel
theorem dX5_digest_86 : decode cX5_digest 86 = .ok (.lmul, 1) := by decide +kernel
theorem dX5_digest_87 : decode cX5_digest 87 = .ok (.aload_n 0, 1) := by decide +kernel
theorem dX5_digest_88 : decode cX5_digest 88 = .ok (.invokevirtual 241, 3) := by decide +kernel
theorem dX5_digest_91 : decode cX5_digest 91 = .ok (.i2l, 1) := by decide +kernel
theorem dX5_digest_92 : decode cX5_digest 92 = .ok (.ladd, 1) := by decide +kernel
theorem dX5_digest_93 : decode cX5_digest 93 = .ok (.lstore_n 1, 1) := by decide +kernel
theorem dX5_digest_94 : decode cX5_digest 94 = .ok (.ldc2_w 249, 3) := by decide +kernel
theorem dX5_digest_97 : decode cX5_digest 97 = .ok (.lload_n 1, 1) := by decide +kernel
theorem dX5_digest_98 : decode cX5_digest 98 = .ok (.lmul, 1) := by decide +kernel
theorem dX5_digest_99 : decode cX5_digest 99 = .ok (.aload_n 0, 1) := by decide +kernel
theorem dX5_digest_100 : decode cX5_digest 100 = .ok (.invokevirtual 244, 3) := by decide +kernel
theorem dX5_digest_103 : decode cX5_digest 103 = .ok (.i2l, 1) := by decide +kernel
theorem dX5_digest_104 : decode cX5_digest 104 = .ok (.ladd, 1) := by decide +kernel
theorem dX5_digest_105 : decode cX5_digest 105 = .ok (.lstore_n 1, 1) := by decide +kernel
theorem dX5_digest_106 : decode cX5_digest 106 = .ok (.ldc2_w 249, 3) := by decide +kernel
theorem dX5_digest_109 : decode cX5_digest 109 = .ok (.lload_n 1, 1) := by decide +kernel
theorem dX5_digest_110 : decode cX5_digest 110 = .ok (.lmul, 1) := by decide +kernel
theorem dX5_digest_111 : decode cX5_digest 111 = .ok (.aload_n 0, 1) := by decide +kernel
theorem dX5_digest_112 : decode cX5_digest 112 = .ok (.invokevirtual 263, 3) := by decide +kernel
theorem dX5_digest_115 : decode cX5_digest 115 = .ok (.i2l, 1) := by decide +kernel
theorem dX5_digest_116 : decode cX5_digest 116 = .ok (.ladd, 1) := by decide +kernel
theorem dX5_digest_117 : decode cX5_digest 117 = .ok (.lstore_n 1, 1) := by decide +kernel
theorem dX5_digest_118 : decode cX5_digest 118 = .ok (.ldc2_w 249, 3) := by decide +kernel
theorem dX5_digest_121 : decode cX5_digest 121 = .ok (.lload_n 1, 1) := by decide +kernel
theorem dX5_digest_122 : decode cX5_digest 122 = .ok (.lmul, 1) := by decide +kernel
theorem dX5_digest_123 : decode cX5_digest 123 = .ok (.aload_n 0, 1) := by decide +kernel
theorem dX5_digest_124 : decode cX5_digest 124 = .ok (.invokevirtual 266, 3) := by decide +kernel
theorem dX5_digest_127 : decode cX5_digest 127 = .ok (.i2l, 1) := by decide +kernel
theorem dX5_digest_128 : decode cX5_digest 128 = .ok (.ladd, 1) := by decide +kernel
theorem dX5_digest_129 : decode cX5_digest 129 = .ok (.lstore_n 1, 1) := by decide +kernel
theorem dX5_digest_130 : decode cX5_digest 130 = .ok (.ldc2_w 249, 3) := by decide +kernel
theorem dX5_digest_133 : decode cX5_digest 133 = .ok (.lload_n 1, 1) := by decide +kernel
theorem dX5_digest_134 : decode cX5_digest 134 = .ok (.lmul, 1) := by decide +kernel
theorem dX5_digest_135 : decode cX5_digest 135 = .ok (.aload_n 0, 1) := by decide +kernel
theorem dX5_digest_136 : decode cX5_digest 136 = .ok (.invokevirtual 269, 3) := by decide +kernel
theorem dX5_digest_139 : decode cX5_digest 139 = .ok (.i2l, 1) := by decide +kernel
theorem dX5_digest_140 : decode cX5_digest 140 = .ok (.ladd, 1) := by decide +kernel
theorem dX5_digest_141 : decode cX5_digest 141 = .ok (.lstore_n 1, 1) := by decide +kernel
theorem dX5_digest_142 : decode cX5_digest 142 = .ok (.iconst 0, 1) := by decide +kernel
theorem dX5_digest_143 : decode cX5_digest 143 = .ok (.istore_n 3, 1) := by decide +kernel
theorem dX5_digest_144 : decode cX5_digest 144 = .ok (.iload_n 3, 1) := by decide +kernel
theorem dX5_digest_145 : decode cX5_digest 145 = .ok (.aload_n 0, 1) := by decide +kernel
theorem dX5_digest_146 : decode cX5_digest 146 = .ok (.getfield 10, 3) := by decide +kernel
theorem dX5_digest_149 : decode cX5_digest 149 = .ok (.getfield 50, 3) := by decide +kernel
theorem dX5_digest_152 : decode cX5_digest 152 = .ok (.if_icmp .ge 16, 3) := by decide +kernel
theorem dX5_digest_155 : decode cX5_digest 155 = .ok (.aload_n 0, 1) := by decide +kernel
theorem dX5_digest_156 : decode cX5_digest 156 = .ok (.lload_n 1, 1) := by decide +kernel
theorem dX5_digest_157 : decode cX5_digest 157 = .ok (.iload_n 3, 1) := by decide +kernel
theorem dX5_digest_158 : decode cX5_digest 158 = .ok (.invokevirtual 272, 3) := by decide +kernel
theorem dX5_digest_161 : decode cX5_digest 161 = .ok (.lstore_n 1, 1) := by decide +kernel
theorem dX5_digest_162 : decode cX5_digest 162 = .ok (.iinc 3 1, 3) := by decide +kernel
theorem dX5_digest_165 : decode cX5_digest 165 = .ok (.goto (-21), 3) := by decide +kernel
theorem dX5_digest_168 : decode cX5_digest 168 = .ok (.iconst 0, 1) := by decide +kernel
theorem dX5_digest_169 : decode cX5_digest 169 = .ok (.istore_n 3, 1) := by decide +kernel
theorem dX5_digest_170 : decode cX5_digest 170 = .ok (.iload_n 3, 1) := by decide +kernel
theorem dX5_digest_171 : decode cX5_digest 171 = .ok (.aload_n 0, 1) := by decide +kernel
theorem dX5_digest_172 : decode cX5_digest 172 = .ok (.getfield 10, 3) := by decide +kernel
theorem dX5_digest_175 : decode cX5_digest 175 = .ok (.invokevirtual 123, 3) := by decide +kernel
theorem dX5_digest_178 : decode cX5_digest 178 = .ok (.if_icmp .gt 21, 3) := by decide +kernel
theorem dX5_digest_181 : decode cX5_digest 181 = .ok (.ldc2_w 249, 3) := by decide +kernel
theorem dX5_digest_184 : decode cX5_digest 184 = .ok (.lload_n 1, 1) := by decide +kernel
theorem dX5_digest_185 : decode cX5_digest 185 = .ok (.lmul, 1) := by decide +kernel
theorem dX5_digest_186 : decode cX5_digest 186 = .ok (.aload_n 0, 1) := by decide +kernel
theorem dX5_digest_187 : decode cX5_digest 187 = .ok (.iload_n 3, 1) := by decide +kernel
theorem dX5_digest_188 : decode cX5_digest 188 = .ok (.invokevirtual 276, 3) := by decide +kernel
theorem dX5_digest_191 : decode cX5_digest 191 = .ok (.ladd, 1) := by decide +kernel
theorem dX5_digest_192 : decode cX5_digest 192 = .ok (.lstore_n 1, 1) := by decide +kernel
theorem dX5_digest_193 : decode cX5_digest 193 = .ok (.iinc 3 1, 3) := by decide +kernel
theorem dX5_digest_196 : decode cX5_digest 196 = .ok (.goto (-26), 3) := by decide +kernel
theorem dX5_digest_199 : decode cX5_digest 199 = .ok (.lload_n 1, 1) := by decide +kernel
theorem dX5_digest_200 : decode cX5_digest 200 = .ok (.lreturn, 1) := by decide +kernel
theorem dX5_digestSender_0 : decode cX5_digestSender 0 = .ok (.lload_n 1, 1) := by decide +kernel
theorem dX5_digestSender_1 : decode cX5_digestSender 1 = .ok (.lstore 4, 2) := by decide +kernel
theorem dX5_digestSender_3 : decode cX5_digestSender 3 = .ok (.iconst 0, 1) := by decide +kernel
theorem dX5_digestSender_4 : decode cX5_digestSender 4 = .ok (.istore 6, 2) := by decide +kernel
theorem dX5_digestSender_6 : decode cX5_digestSender 6 = .ok (.iload 6, 2) := by decide +kernel
theorem dX5_digestSender_8 : decode cX5_digestSender 8 = .ok (.bipush 7, 2) := by decide +kernel
theorem dX5_digestSender_10 : decode cX5_digestSender 10 = .ok (.if_icmp .gt 26, 3) := by decide +kernel
theorem dX5_digestSender_13 : decode cX5_digestSender 13 = .ok (.ldc2_w 249, 3) := by decide +kernel
theorem dX5_digestSender_16 : decode cX5_digestSender 16 = .ok (.lload 4, 2) := by decide +kernel
theorem dX5_digestSender_18 : decode cX5_digestSender 18 = .ok (.lmul, 1) := by decide +kernel
theorem dX5_digestSender_19 : decode cX5_digestSender 19 = .ok (.aload_n 0, 1) := by decide +kernel
theorem dX5_digestSender_20 : decode cX5_digestSender 20 = .ok (.iload_n 3, 1) := by decide +kernel
theorem dX5_digestSender_21 : decode cX5_digestSender 21 = .ok (.iload 6, 2) := by decide +kernel
theorem dX5_digestSender_23 : decode cX5_digestSender 23 = .ok (.invokevirtual 279, 3) := by decide +kernel
theorem dX5_digestSender_26 : decode cX5_digestSender 26 = .ok (.i2l, 1) := by decide +kernel
theorem dX5_digestSender_27 : decode cX5_digestSender 27 = .ok (.ladd, 1) := by decide +kernel
theorem dX5_digestSender_28 : decode cX5_digestSender 28 = .ok (.lstore 4, 2) := by decide +kernel
theorem dX5_digestSender_30 : decode cX5_digestSender 30 = .ok (.iinc 6 1, 3) := by decide +kernel
theorem dX5_digestSender_33 : decode cX5_digestSender 33 = .ok (.goto (-27), 3) := by decide +kernel
theorem dX5_digestSender_36 : decode cX5_digestSender 36 = .ok (.ldc2_w 249, 3) := by decide +kernel
theorem dX5_digestSender_39 : decode cX5_digestSender 39 = .ok (.lload 4, 2) := by decide +kernel
theorem dX5_digestSender_41 : decode cX5_digestSender 41 = .ok (.lmul, 1) := by decide +kernel
theorem dX5_digestSender_42 : decode cX5_digestSender 42 = .ok (.aload_n 0, 1) := by decide +kernel
theorem dX5_digestSender_43 : decode cX5_digestSender 43 = .ok (.iload_n 3, 1) := by decide +kernel
theorem dX5_digestSender_44 : decode cX5_digestSender 44 = .ok (.iconst 0, 1) := by decide +kernel
theorem dX5_digestSender_45 : decode cX5_digestSender 45 = .ok (.invokevirtual 282, 3) := by decide +kernel
theorem dX5_digestSender_48 : decode cX5_digestSender 48 = .ok (.ladd, 1) := by decide +kernel
theorem dX5_digestSender_49 : decode cX5_digestSender 49 = .ok (.lstore 4, 2) := by decide +kernel
theorem dX5_digestSender_51 : decode cX5_digestSender 51 = .ok (.ldc2_w 249, 3) := by decide +kernel
theorem dX5_digestSender_54 : decode cX5_digestSender 54 = .ok (.lload 4, 2) := by decide +kernel
theorem dX5_digestSender_56 : decode cX5_digestSender 56 = .ok (.lmul, 1) := by decide +kernel
theorem dX5_digestSender_57 : decode cX5_digestSender 57 = .ok (.aload_n 0, 1) := by decide +kernel
theorem dX5_digestSender_58 : decode cX5_digestSender 58 = .ok (.iload_n 3, 1) := by decide +kernel
theorem dX5_digestSender_59 : decode cX5_digestSender 59 = .ok (.iconst 1, 1) := by decide +kernel
theorem dX5_digestSender_60 : decode cX5_digestSender 60 = .ok (.invokevirtual 282, 3) := by decide +kernel
theorem dX5_digestSender_63 : decode cX5_digestSender 63 = .ok (.ladd, 1) := by decide +kernel
theorem dX5_digestSender_64 : decode cX5_digestSender 64 = .ok (.lstore 4, 2) := by decide +kernel
theorem dX5_digestSender_66 : decode cX5_digestSender 66 = .ok (.ldc2_w 249, 3) := by decide +kernel
theorem dX5_digestSender_69 : decode cX5_digestSender 69 = .ok (.lload 4, 2) := by decide +kernel
theorem dX5_digestSender_71 : decode cX5_digestSender 71 = .ok (.lmul, 1) := by decide +kernel
theorem dX5_digestSender_72 : decode cX5_digestSender 72 = .ok (.aload_n 0, 1) := by decide +kernel
theorem dX5_digestSender_73 : decode cX5_digestSender 73 = .ok (.iload_n 3, 1) := by decide +kernel
theorem dX5_digestSender_74 : decode cX5_digestSender 74 = .ok (.iconst 0, 1) := by decide +kernel
theorem dX5_digestSender_75 : decode cX5_digestSender 75 = .ok (.invokevirtual 286, 3) := by decide +kernel
theorem dX5_digestSender_78 : decode cX5_digestSender 78 = .ok (.ladd, 1) := by decide +kernel
theorem dX5_digestSender_79 : decode cX5_digestSender 79 = .ok (.lstore 4, 2) := by decide +kernel
theorem dX5_digestSender_81 : decode cX5_digestSender 81 = .ok (.ldc2_w 249, 3) := by decide +kernel
theorem dX5_digestSender_84 : decode cX5_digestSender 84 = .ok (.lload 4, 2) := by decide +kernel
theorem dX5_digestSender_86 : decode cX5_digestSender 86 = .ok (.lmul, 1) := by decide +kernel
theorem dX5_digestSender_87 : decode cX5_digestSender 87 = .ok (.aload_n 0, 1) := by decide +kernel
theorem dX5_digestSender_88 : decode cX5_digestSender 88 = .ok (.iload_n 3, 1) := by decide +kernel
theorem dX5_digestSender_89 : decode cX5_digestSender 89 = .ok (.iconst 1, 1) := by decide +kernel
theorem dX5_digestSender_90 : decode cX5_digestSender 90 = .ok (.invokevirtual 286, 3) := by decide +kernel
theorem dX5_digestSender_93 : decode cX5_digestSender 93 = .ok (.ladd, 1) := by decide +kernel
theorem dX5_digestSender_94 : decode cX5_digestSender 94 = .ok (.lstore 4, 2) := by decide +kernel
theorem dX5_digestSender_96 : decode cX5_digestSender 96 = .ok (.ldc2_w 249, 3) := by decide +kernel
theorem dX5_digestSender_99 : decode cX5_digestSender 99 = .ok (.lload 4, 2) := by decide +kernel
theorem dX5_digestSender_101 : decode cX5_digestSender 101 = .ok (.lmul, 1) := by decide +kernel
theorem dX5_digestSender_102 : decode cX5_digestSender 102 = .ok (.aload_n 0, 1) := by decide +kernel
theorem dX5_digestSender_103 : decode cX5_digestSender 103 = .ok (.getfield 28, 3) := by decide +kernel
theorem dX5_digestSender_106 : decode cX5_digestSender 106 = .ok (.getfield 178, 3) := by decide +kernel
theorem dX5_digestSender_109 : decode cX5_digestSender 109 = .ok (.iload_n 3, 1) := by decide +kernel
theorem dX5_digestSender_110 : decode cX5_digestSender 110 = .ok (.iaload, 1) := by decide +kernel
theorem dX5_digestSender_111 : decode cX5_digestSender 111 = .ok (.i2l, 1) := by decide +kernel
theorem dX5_digestSender_112 : decode cX5_digestSender 112 = .ok (.ladd, 1) := by decide +kernel
theorem dX5_digestSender_113 : decode cX5_digestSender 113 = .ok (.lstore 4, 2) := by decide +kernel
theorem dX5_digestSender_115 : decode cX5_digestSender 115 = .ok (.iconst 0, 1) := by decide +kernel
theorem dX5_digestSender_116 : decode cX5_digestSender 116 = .ok (.istore 6, 2) := by decide +kernel
theorem dX5_digestSender_118 : decode cX5_digestSender 118 = .ok (.iload 6, 2) := by decide +kernel
theorem dX5_digestSender_120 : decode cX5_digestSender 120 = .ok (.aload_n 0, 1) := by decide +kernel
theorem dX5_digestSender_121 : decode cX5_digestSender 121 = .ok (.getfield 10, 3) := by decide +kernel
theorem dX5_digestSender_124 : decode cX5_digestSender 124 = .ok (.getfield 50, 3) := by decide +kernel
theorem dX5_digestSender_127 : decode cX5_digestSender 127 = .ok (.if_icmp .ge 29, 3) := by decide +kernel
theorem dX5_digestSender_130 : decode cX5_digestSender 130 = .ok (.ldc2_w 249, 3) := by decide +kernel
theorem dX5_digestSender_133 : decode cX5_digestSender 133 = .ok (.lload 4, 2) := by decide +kernel
theorem dX5_digestSender_135 : decode cX5_digestSender 135 = .ok (.lmul, 1) := by decide +kernel
theorem dX5_digestSender_136 : decode cX5_digestSender 136 = .ok (.aload_n 0, 1) := by decide +kernel
theorem dX5_digestSender_137 : decode cX5_digestSender 137 = .ok (.getfield 10, 3) := by decide +kernel
theorem dX5_digestSender_140 : decode cX5_digestSender 140 = .ok (.iload_n 3, 1) := by decide +kernel
theorem dX5_digestSender_141 : decode cX5_digestSender 141 = .ok (.iload 6, 2) := by decide +kernel
theorem dX5_digestSender_143 : decode cX5_digestSender 143 = .ok (.invokevirtual 61, 3) := by decide +kernel
theorem dX5_digestSender_146 : decode cX5_digestSender 146 = .ok (.i2l, 1) := by decide +kernel
theorem dX5_digestSender_147 : decode cX5_digestSender 147 = .ok (.ladd, 1) := by decide +kernel
theorem dX5_digestSender_148 : decode cX5_digestSender 148 = .ok (.lstore 4, 2) := by decide +kernel
theorem dX5_digestSender_150 : decode cX5_digestSender 150 = .ok (.iinc 6 1, 3) := by decide +kernel
theorem dX5_digestSender_153 : decode cX5_digestSender 153 = .ok (.goto (-35), 3) := by decide +kernel
theorem dX5_digestSender_156 : decode cX5_digestSender 156 = .ok (.lload 4, 2) := by decide +kernel
theorem dX5_digestSender_158 : decode cX5_digestSender 158 = .ok (.lreturn, 1) := by decide +kernel
theorem dX5_readGains_0 : decode cX5_readGains 0 = .ok (.iconst 0, 1) := by decide +kernel
theorem dX5_readGains_1 : decode cX5_readGains 1 = .ok (.istore_n 2, 1) := by decide +kernel
theorem dX5_readGains_2 : decode cX5_readGains 2 = .ok (.iconst 0, 1) := by decide +kernel
theorem dX5_readGains_3 : decode cX5_readGains 3 = .ok (.istore_n 3, 1) := by decide +kernel
theorem dX5_readGains_4 : decode cX5_readGains 4 = .ok (.iload_n 3, 1) := by decide +kernel
theorem dX5_readGains_5 : decode cX5_readGains 5 = .ok (.aload_n 0, 1) := by decide +kernel
theorem dX5_readGains_6 : decode cX5_readGains 6 = .ok (.getfield 10, 3) := by decide +kernel
theorem dX5_readGains_9 : decode cX5_readGains 9 = .ok (.getfield 50, 3) := by decide +kernel
theorem dX5_readGains_12 : decode cX5_readGains 12 = .ok (.if_icmp .ge 74, 3) := by decide +kernel
theorem dX5_readGains_15 : decode cX5_readGains 15 = .ok (.iconst 0, 1) := by decide +kernel
theorem dX5_readGains_16 : decode cX5_readGains 16 = .ok (.istore 4, 2) := by decide +kernel
theorem dX5_readGains_18 : decode cX5_readGains 18 = .ok (.iload 4, 2) := by decide +kernel
theorem dX5_readGains_20 : decode cX5_readGains 20 = .ok (.aload_n 0, 1) := by decide +kernel
theorem dX5_readGains_21 : decode cX5_readGains 21 = .ok (.getfield 10, 3) := by decide +kernel
theorem dX5_readGains_24 : decode cX5_readGains 24 = .ok (.getfield 50, 3) := by decide +kernel
theorem dX5_readGains_27 : decode cX5_readGains 27 = .ok (.if_icmp .ge 53, 3) := by decide +kernel
theorem dX5_readGains_30 : decode cX5_readGains 30 = .ok (.iload_n 2, 1) := by decide +kernel
theorem dX5_readGains_31 : decode cX5_readGains 31 = .ok (.aload_n 1, 1) := by decide +kernel
theorem dX5_readGains_32 : decode cX5_readGains 32 = .ok (.getfield 197, 3) := by decide +kernel
theorem dX5_readGains_35 : decode cX5_readGains 35 = .ok (.if_icmp .ge 18, 3) := by decide +kernel
theorem dX5_readGains_38 : decode cX5_readGains 38 = .ok (.iload_n 3, 1) := by decide +kernel
theorem dX5_readGains_39 : decode cX5_readGains 39 = .ok (.iload 4, 2) := by decide +kernel
theorem dX5_readGains_41 : decode cX5_readGains 41 = .ok (.aload_n 1, 1) := by decide +kernel
theorem dX5_readGains_42 : decode cX5_readGains 42 = .ok (.getfield 210, 3) := by decide +kernel
theorem dX5_readGains_45 : decode cX5_readGains 45 = .ok (.iload_n 2, 1) := by decide +kernel
theorem dX5_readGains_46 : decode cX5_readGains 46 = .ok (.iaload, 1) := by decide +kernel
theorem dX5_readGains_47 : decode cX5_readGains 47 = .ok (.invokestatic 57, 3) := by decide +kernel
theorem dX5_readGains_50 : decode cX5_readGains 50 = .ok (.ifCond .ne 5, 3) := by decide +kernel
theorem dX5_readGains_53 : decode cX5_readGains 53 = .ok (.iload_n 2, 1) := by decide +kernel
theorem dX5_readGains_54 : decode cX5_readGains 54 = .ok (.ireturn, 1) := by decide +kernel
theorem dX5_readGains_55 : decode cX5_readGains 55 = .ok (.aload_n 0, 1) := by decide +kernel
theorem dX5_readGains_56 : decode cX5_readGains 56 = .ok (.getfield 10, 3) := by decide +kernel
theorem dX5_readGains_59 : decode cX5_readGains 59 = .ok (.iload_n 3, 1) := by decide +kernel
theorem dX5_readGains_60 : decode cX5_readGains 60 = .ok (.iload 4, 2) := by decide +kernel
theorem dX5_readGains_62 : decode cX5_readGains 62 = .ok (.aload_n 1, 1) := by decide +kernel
theorem dX5_readGains_63 : decode cX5_readGains 63 = .ok (.getfield 210, 3) := by decide +kernel
theorem dX5_readGains_66 : decode cX5_readGains 66 = .ok (.iload_n 2, 1) := by decide +kernel
theorem dX5_readGains_67 : decode cX5_readGains 67 = .ok (.iaload, 1) := by decide +kernel
theorem dX5_readGains_68 : decode cX5_readGains 68 = .ok (.invokevirtual 65, 3) := by decide +kernel
theorem dX5_readGains_71 : decode cX5_readGains 71 = .ok (.iinc 2 1, 3) := by decide +kernel
theorem dX5_readGains_74 : decode cX5_readGains 74 = .ok (.iinc 4 1, 3) := by decide +kernel
theorem dX5_readGains_77 : decode cX5_readGains 77 = .ok (.goto (-59), 3) := by decide +kernel
theorem dX5_readGains_80 : decode cX5_readGains 80 = .ok (.iinc 3 1, 3) := by decide +kernel
theorem dX5_readGains_83 : decode cX5_readGains 83 = .ok (.goto (-79), 3) := by decide +kernel
theorem dX5_readGains_86 : decode cX5_readGains 86 = .ok (.iload_n 2, 1) := by decide +kernel
theorem dX5_readGains_87 : decode cX5_readGains 87 = .ok (.ireturn, 1) := by decide +kernel
theorem dX5_stepsOfText_0 : decode cX5_stepsOfText 0 = .ok (.iconst 0, 1) := by decide +kernel
theorem dX5_stepsOfText_1 : decode cX5_stepsOfText 1 = .ok (.istore_n 1, 1) := by decide +kernel
theorem dX5_stepsOfText_2 : decode cX5_stepsOfText 2 = .ok (.iconst 0, 1) := by decide +kernel
theorem dX5_stepsOfText_3 : decode cX5_stepsOfText 3 = .ok (.istore_n 2, 1) := by decide +kernel
theorem dX5_stepsOfText_4 : decode cX5_stepsOfText 4 = .ok (.iload_n 2, 1) := by decide +kernel
theorem dX5_stepsOfText_5 : decode cX5_stepsOfText 5 = .ok (.aload_n 0, 1) := by decide +kernel
theorem dX5_stepsOfText_6 : decode cX5_stepsOfText 6 = .ok (.getfield 35, 3) := by decide +kernel
theorem dX5_stepsOfText_9 : decode cX5_stepsOfText 9 = .ok (.getfield 99, 3) := by decide +kernel
theorem dX5_stepsOfText_12 : decode cX5_stepsOfText 12 = .ok (.if_icmp .ge 57, 3) := by decide +kernel
theorem dX5_stepsOfText_15 : decode cX5_stepsOfText 15 = .ok (.aload_n 0, 1) := by decide +kernel
theorem dX5_stepsOfText_16 : decode cX5_stepsOfText 16 = .ok (.getfield 35, 3) := by decide +kernel
theorem dX5_stepsOfText_19 : decode cX5_stepsOfText 19 = .ok (.getfield 289, 3) := by decide +kernel
theorem dX5_stepsOfText_22 : decode cX5_stepsOfText 22 = .ok (.iload_n 2, 1) := by decide +kernel
theorem dX5_stepsOfText_23 : decode cX5_stepsOfText 23 = .ok (.iaload, 1) := by decide +kernel
theorem dX5_stepsOfText_24 : decode cX5_stepsOfText 24 = .ok (.bipush 97, 2) := by decide +kernel
theorem dX5_stepsOfText_26 : decode cX5_stepsOfText 26 = .ok (.isub, 1) := by decide +kernel
theorem dX5_stepsOfText_27 : decode cX5_stepsOfText 27 = .ok (.istore_n 3, 1) := by decide +kernel
theorem dX5_stepsOfText_28 : decode cX5_stepsOfText 28 = .ok (.aload_n 0, 1) := by decide +kernel
theorem dX5_stepsOfText_29 : decode cX5_stepsOfText 29 = .ok (.getfield 10, 3) := by decide +kernel
theorem dX5_stepsOfText_32 : decode cX5_stepsOfText 32 = .ok (.getfield 90, 3) := by decide +kernel
theorem dX5_stepsOfText_35 : decode cX5_stepsOfText 35 = .ok (.iload_n 3, 1) := by decide +kernel
theorem dX5_stepsOfText_36 : decode cX5_stepsOfText 36 = .ok (.iaload, 1) := by decide +kernel
theorem dX5_stepsOfText_37 : decode cX5_stepsOfText 37 = .ok (.istore 4, 2) := by decide +kernel
theorem dX5_stepsOfText_39 : decode cX5_stepsOfText 39 = .ok (.aload_n 0, 1) := by decide +kernel
theorem dX5_stepsOfText_40 : decode cX5_stepsOfText 40 = .ok (.getfield 10, 3) := by decide +kernel
theorem dX5_stepsOfText_43 : decode cX5_stepsOfText 43 = .ok (.iload_n 3, 1) := by decide +kernel
theorem dX5_stepsOfText_44 : decode cX5_stepsOfText 44 = .ok (.invokevirtual 113, 3) := by decide +kernel
theorem dX5_stepsOfText_47 : decode cX5_stepsOfText 47 = .ok (.ifCond .eq 16, 3) := by decide +kernel
theorem dX5_stepsOfText_50 : decode cX5_stepsOfText 50 = .ok (.aload_n 0, 1) := by decide +kernel
theorem dX5_stepsOfText_51 : decode cX5_stepsOfText 51 = .ok (.iload_n 3, 1) := by decide +kernel
theorem dX5_stepsOfText_52 : decode cX5_stepsOfText 52 = .ok (.invokevirtual 292, 3) := by decide +kernel
theorem dX5_stepsOfText_55 : decode cX5_stepsOfText 55 = .ok (.iload 4, 2) := by decide +kernel
theorem dX5_stepsOfText_57 : decode cX5_stepsOfText 57 = .ok (.if_icmp .eq 6, 3) := by decide +kernel
theorem dX5_stepsOfText_60 : decode cX5_stepsOfText 60 = .ok (.iinc 1 1, 3) := by decide +kernel
theorem dX5_stepsOfText_63 : decode cX5_stepsOfText 63 = .ok (.iinc 2 1, 3) := by decide +kernel
theorem dX5_stepsOfText_66 : decode cX5_stepsOfText 66 = .ok (.goto (-62), 3) := by decide +kernel
theorem dX5_stepsOfText_69 : decode cX5_stepsOfText 69 = .ok (.iload_n 1, 1) := by decide +kernel
theorem dX5_stepsOfText_70 : decode cX5_stepsOfText 70 = .ok (.ireturn, 1) := by decide +kernel
theorem dX5_refusalOfSheet_0 : decode cX5_refusalOfSheet 0 = .ok (.iload_n 1, 1) := by decide +kernel
theorem dX5_refusalOfSheet_1 : decode cX5_refusalOfSheet 1 = .ok (.invokestatic 184, 3) := by decide +kernel
theorem dX5_refusalOfSheet_4 : decode cX5_refusalOfSheet 4 = .ok (.ifCond .ne 6, 3) := by decide +kernel
theorem dX5_refusalOfSheet_7 : decode cX5_refusalOfSheet 7 = .ok (.bipush (-2), 2) := by decide +kernel
theorem dX5_refusalOfSheet_9 : decode cX5_refusalOfSheet 9 = .ok (.ireturn, 1) := by decide +kernel
theorem dX5_refusalOfSheet_10 : decode cX5_refusalOfSheet 10 = .ok (.aload_n 0, 1) := by decide +kernel
theorem dX5_refusalOfSheet_11 : decode cX5_refusalOfSheet 11 = .ok (.getfield 41, 3) := by decide +kernel
theorem dX5_refusalOfSheet_14 : decode cX5_refusalOfSheet 14 = .ok (.iload_n 1, 1) := by decide +kernel
theorem dX5_refusalOfSheet_15 : decode cX5_refusalOfSheet 15 = .ok (.aaload, 1) := by decide +kernel
theorem dX5_refusalOfSheet_16 : decode cX5_refusalOfSheet 16 = .ok (.invokevirtual 213, 3) := by decide +kernel
theorem dX5_refusalOfSheet_19 : decode cX5_refusalOfSheet 19 = .ok (.ifCond .eq 11, 3) := by decide +kernel
theorem dX5_refusalOfSheet_22 : decode cX5_refusalOfSheet 22 = .ok (.aload_n 0, 1) := by decide +kernel
theorem dX5_refusalOfSheet_23 : decode cX5_refusalOfSheet 23 = .ok (.iconst 1, 1) := by decide +kernel
theorem dX5_refusalOfSheet_24 : decode cX5_refusalOfSheet 24 = .ok (.invokevirtual 190, 3) := by decide +kernel
theorem dX5_refusalOfSheet_27 : decode cX5_refusalOfSheet 27 = .ok (.goto 4, 3) := by decide +kernel
theorem dX5_refusalOfSheet_30 : decode cX5_refusalOfSheet 30 = .ok (.iconst 0, 1) := by decide +kernel
theorem dX5_refusalOfSheet_31 : decode cX5_refusalOfSheet 31 = .ok (.ireturn, 1) := by decide +kernel
theorem dX5_refusalOfItem_0 : decode cX5_refusalOfItem 0 = .ok (.iload_n 1, 1) := by decide +kernel
theorem dX5_refusalOfItem_1 : decode cX5_refusalOfItem 1 = .ok (.invokestatic 184, 3) := by decide +kernel
theorem dX5_refusalOfItem_4 : decode cX5_refusalOfItem 4 = .ok (.ifCond .eq 10, 3) := by decide +kernel
theorem dX5_refusalOfItem_7 : decode cX5_refusalOfItem 7 = .ok (.iload_n 2, 1) := by decide +kernel
theorem dX5_refusalOfItem_8 : decode cX5_refusalOfItem 8 = .ok (.invokestatic 187, 3) := by decide +kernel
theorem dX5_refusalOfItem_11 : decode cX5_refusalOfItem 11 = .ok (.ifCond .ne 6, 3) := by decide +kernel
theorem dX5_refusalOfItem_14 : decode cX5_refusalOfItem 14 = .ok (.bipush (-2), 2) := by decide +kernel
theorem dX5_refusalOfItem_16 : decode cX5_refusalOfItem 16 = .ok (.ireturn, 1) := by decide +kernel
theorem dX5_refusalOfItem_17 : decode cX5_refusalOfItem 17 = .ok (.aload_n 0, 1) := by decide +kernel
theorem dX5_refusalOfItem_18 : decode cX5_refusalOfItem 18 = .ok (.getfield 41, 3) := by decide +kernel
theorem dX5_refusalOfItem_21 : decode cX5_refusalOfItem 21 = .ok (.iload_n 1, 1) := by decide +kernel
theorem dX5_refusalOfItem_22 : decode cX5_refusalOfItem 22 = .ok (.aaload, 1) := by decide +kernel
theorem dX5_refusalOfItem_23 : decode cX5_refusalOfItem 23 = .ok (.invokevirtual 213, 3) := by decide +kernel
theorem dX5_refusalOfItem_26 : decode cX5_refusalOfItem 26 = .ok (.ifCond .eq 9, 3) := by decide +kernel
theorem dX5_refusalOfItem_29 : decode cX5_refusalOfItem 29 = .ok (.aload_n 0, 1) := by decide +kernel
theorem dX5_refusalOfItem_30 : decode cX5_refusalOfItem 30 = .ok (.iconst 1, 1) := by decide +kernel
theorem dX5_refusalOfItem_31 : decode cX5_refusalOfItem 31 = .ok (.invokevirtual 190, 3) := by decide +kernel
theorem dX5_refusalOfItem_34 : decode cX5_refusalOfItem 34 = .ok (.ireturn, 1) := by decide +kernel
theorem dX5_refusalOfItem_35 : decode cX5_refusalOfItem 35 = .ok (.aload_n 0, 1) := by decide +kernel
theorem dX5_refusalOfItem_36 : decode cX5_refusalOfItem 36 = .ok (.getfield 41, 3) := by decide +kernel
theorem dX5_refusalOfItem_39 : decode cX5_refusalOfItem 39 = .ok (.iload_n 1, 1) := by decide +kernel
theorem dX5_refusalOfItem_40 : decode cX5_refusalOfItem 40 = .ok (.aaload, 1) := by decide +kernel
theorem dX5_refusalOfItem_41 : decode cX5_refusalOfItem 41 = .ok (.getfield 217, 3) := by decide +kernel
theorem dX5_refusalOfItem_44 : decode cX5_refusalOfItem 44 = .ok (.iload_n 2, 1) := by decide +kernel
theorem dX5_refusalOfItem_45 : decode cX5_refusalOfItem 45 = .ok (.if_icmp .eq 9, 3) := by decide +kernel
theorem dX5_refusalOfItem_48 : decode cX5_refusalOfItem 48 = .ok (.aload_n 0, 1) := by decide +kernel
theorem dX5_refusalOfItem_49 : decode cX5_refusalOfItem 49 = .ok (.iconst 3, 1) := by decide +kernel
theorem dX5_refusalOfItem_50 : decode cX5_refusalOfItem 50 = .ok (.invokevirtual 190, 3) := by decide +kernel
theorem dX5_refusalOfItem_53 : decode cX5_refusalOfItem 53 = .ok (.ireturn, 1) := by decide +kernel
theorem dX5_refusalOfItem_54 : decode cX5_refusalOfItem 54 = .ok (.aload_n 0, 1) := by decide +kernel
theorem dX5_refusalOfItem_55 : decode cX5_refusalOfItem 55 = .ok (.getfield 41, 3) := by decide +kernel
theorem dX5_refusalOfItem_58 : decode cX5_refusalOfItem 58 = .ok (.iload_n 1, 1) := by decide +kernel
theorem dX5_refusalOfItem_59 : decode cX5_refusalOfItem 59 = .ok (.aaload, 1) := by decide +kernel
theorem dX5_refusalOfItem_60 : decode cX5_refusalOfItem 60 = .ok (.iload_n 3, 1) := by decide +kernel
theorem dX5_refusalOfItem_61 : decode cX5_refusalOfItem 61 = .ok (.iconst 1, 1) := by decide +kernel
theorem dX5_refusalOfItem_62 : decode cX5_refusalOfItem 62 = .ok (.invokevirtual 220, 3) := by decide +kernel
theorem dX5_refusalOfItem_65 : decode cX5_refusalOfItem 65 = .ok (.ifCond .eq 7, 3) := by decide +kernel
theorem dX5_refusalOfItem_68 : decode cX5_refusalOfItem 68 = .ok (.iconst 0, 1) := by decide +kernel
theorem dX5_refusalOfItem_69 : decode cX5_refusalOfItem 69 = .ok (.goto 8, 3) := by decide +kernel
theorem dX5_refusalOfItem_72 : decode cX5_refusalOfItem 72 = .ok (.aload_n 0, 1) := by decide +kernel
theorem dX5_refusalOfItem_73 : decode cX5_refusalOfItem 73 = .ok (.iconst 2, 1) := by decide +kernel
theorem dX5_refusalOfItem_74 : decode cX5_refusalOfItem 74 = .ok (.invokevirtual 190, 3) := by decide +kernel
theorem dX5_refusalOfItem_77 : decode cX5_refusalOfItem 77 = .ok (.ireturn, 1) := by decide +kernel
theorem dX5_finding_0 : decode cX5_finding 0 = .ok (.aload_n 0, 1) := by decide +kernel
theorem dX5_finding_1 : decode cX5_finding 1 = .ok (.iload_n 1, 1) := by decide +kernel
theorem dX5_finding_2 : decode cX5_finding 2 = .ok (.putfield 46, 3) := by decide +kernel
theorem dX5_finding_5 : decode cX5_finding 5 = .ok (.bipush (-10), 2) := by decide +kernel
theorem dX5_finding_7 : decode cX5_finding 7 = .ok (.iload_n 1, 1) := by decide +kernel
theorem dX5_finding_8 : decode cX5_finding 8 = .ok (.isub, 1) := by decide +kernel
theorem dX5_finding_9 : decode cX5_finding 9 = .ok (.ireturn, 1) := by decide +kernel
theorem dX5_isSheet_0 : decode cX5_isSheet 0 = .ok (.iload_n 0, 1) := by decide +kernel
theorem dX5_isSheet_1 : decode cX5_isSheet 1 = .ok (.ifCond .lt 12, 3) := by decide +kernel
theorem dX5_isSheet_4 : decode cX5_isSheet 4 = .ok (.iload_n 0, 1) := by decide +kernel
theorem dX5_isSheet_5 : decode cX5_isSheet 5 = .ok (.iconst 4, 1) := by decide +kernel
theorem dX5_isSheet_6 : decode cX5_isSheet 6 = .ok (.if_icmp .ge 7, 3) := by decide +kernel
theorem dX5_isSheet_9 : decode cX5_isSheet 9 = .ok (.iconst 1, 1) := by decide +kernel
theorem dX5_isSheet_10 : decode cX5_isSheet 10 = .ok (.goto 4, 3) := by decide +kernel
theorem dX5_isSheet_13 : decode cX5_isSheet 13 = .ok (.iconst 0, 1) := by decide +kernel
theorem dX5_isSheet_14 : decode cX5_isSheet 14 = .ok (.ireturn, 1) := by decide +kernel
theorem dX5_isForm_0 : decode cX5_isForm 0 = .ok (.iload_n 0, 1) := by decide +kernel
theorem dX5_isForm_1 : decode cX5_isForm 1 = .ok (.ifCond .lt 12, 3) := by decide +kernel
theorem dX5_isForm_4 : decode cX5_isForm 4 = .ok (.iload_n 0, 1) := by decide +kernel
theorem dX5_isForm_5 : decode cX5_isForm 5 = .ok (.iconst 3, 1) := by decide +kernel
theorem dX5_isForm_6 : decode cX5_isForm 6 = .ok (.if_icmp .ge 7, 3) := by decide +kernel
theorem dX5_isForm_9 : decode cX5_isForm 9 = .ok (.iconst 1, 1) := by decide +kernel
theorem dX5_isForm_10 : decode cX5_isForm 10 = .ok (.goto 4, 3) := by decide +kernel
theorem dX5_isForm_13 : decode cX5_isForm 13 = .ok (.iconst 0, 1) := by decide +kernel
theorem dX5_isForm_14 : decode cX5_isForm 14 = .ok (.ireturn, 1) := by decide +kernel
theorem dX5_exchange_0 : decode cX5_exchange 0 = .ok (.iload_n 2, 1) := by decide +kernel
theorem dX5_exchange_1 : decode cX5_exchange 1 = .ok (.iload_n 3, 1) := by decide +kernel
theorem dX5_exchange_2 : decode cX5_exchange 2 = .ok (.if_icmp .lt 9, 3) := by decide +kernel
theorem dX5_exchange_5 : decode cX5_exchange 5 = .ok (.iload_n 2, 1) := by decide +kernel
theorem dX5_exchange_6 : decode cX5_exchange 6 = .ok (.iload 4, 2) := by decide +kernel
theorem dX5_exchange_8 : decode cX5_exchange 8 = .ok (.if_icmp .le 6, 3) := by decide +kernel
theorem dX5_exchange_11 : decode cX5_exchange 11 = .ok (.bipush (-2), 2) := by decide +kernel
theorem dX5_exchange_13 : decode cX5_exchange 13 = .ok (.ireturn, 1) := by decide +kernel
theorem dX5_exchange_14 : decode cX5_exchange 14 = .ok (.aload_n 0, 1) := by decide +kernel
theorem dX5_exchange_15 : decode cX5_exchange 15 = .ok (.iload_n 1, 1) := by decide +kernel
theorem dX5_exchange_16 : decode cX5_exchange 16 = .ok (.iaload, 1) := by decide +kernel
theorem dX5_exchange_17 : decode cX5_exchange 17 = .ok (.istore 5, 2) := by decide +kernel
theorem dX5_exchange_19 : decode cX5_exchange 19 = .ok (.aload_n 0, 1) := by decide +kernel
theorem dX5_exchange_20 : decode cX5_exchange 20 = .ok (.iload_n 1, 1) := by decide +kernel
theorem dX5_exchange_21 : decode cX5_exchange 21 = .ok (.iload_n 2, 1) := by decide +kernel
theorem dX5_exchange_22 : decode cX5_exchange 22 = .ok (.iastore, 1) := by decide +kernel
theorem dX5_exchange_23 : decode cX5_exchange 23 = .ok (.iload 5, 2) := by decide +kernel
theorem dX5_exchange_25 : decode cX5_exchange 25 = .ok (.ireturn, 1) := by decide +kernel
theorem dX5_asLong_0 : decode cX5_asLong 0 = .ok (.ldc2_w 297, 3) := by decide +kernel
theorem dX5_asLong_3 : decode cX5_asLong 3 = .ok (.iload_n 0, 1) := by decide +kernel
theorem dX5_asLong_4 : decode cX5_asLong 4 = .ok (.i2l, 1) := by decide +kernel
theorem dX5_asLong_5 : decode cX5_asLong 5 = .ok (.lsub, 1) := by decide +kernel
theorem dX5_asLong_6 : decode cX5_asLong 6 = .ok (.lreturn, 1) := by decide +kernel
theorem dX5_lowestTerm_0 : decode cX5_lowestTerm 0 = .ok (.lload_n 0, 1) := by decide +kernel
theorem dX5_lowestTerm_1 : decode cX5_lowestTerm 1 = .ok (.lload_n 2, 1) := by decide +kernel
theorem dX5_lowestTerm_2 : decode cX5_lowestTerm 2 = .ok (.invokestatic 299, 3) := by decide +kernel
theorem dX5_lowestTerm_5 : decode cX5_lowestTerm 5 = .ok (.lstore 5, 2) := by decide +kernel
theorem dX5_lowestTerm_7 : decode cX5_lowestTerm 7 = .ok (.iload 4, 2) := by decide +kernel
theorem dX5_lowestTerm_9 : decode cX5_lowestTerm 9 = .ok (.ifCond .ne 7, 3) := by decide +kernel
theorem dX5_lowestTerm_12 : decode cX5_lowestTerm 12 = .ok (.lload_n 0, 1) := by decide +kernel
theorem dX5_lowestTerm_13 : decode cX5_lowestTerm 13 = .ok (.goto 4, 3) := by decide +kernel
theorem dX5_lowestTerm_16 : decode cX5_lowestTerm 16 = .ok (.lload_n 2, 1) := by decide +kernel
theorem dX5_lowestTerm_17 : decode cX5_lowestTerm 17 = .ok (.lload 5, 2) := by decide +kernel
theorem dX5_lowestTerm_19 : decode cX5_lowestTerm 19 = .ok (.ldiv, 1) := by decide +kernel
theorem dX5_lowestTerm_20 : decode cX5_lowestTerm 20 = .ok (.lreturn, 1) := by decide +kernel
theorem dX5_commonDivisor_0 : decode cX5_commonDivisor 0 = .ok (.lload_n 0, 1) := by decide +kernel
theorem dX5_commonDivisor_1 : decode cX5_commonDivisor 1 = .ok (.lstore 4, 2) := by decide +kernel
theorem dX5_commonDivisor_3 : decode cX5_commonDivisor 3 = .ok (.lload_n 2, 1) := by decide +kernel
theorem dX5_commonDivisor_4 : decode cX5_commonDivisor 4 = .ok (.lstore 6, 2) := by decide +kernel
theorem dX5_commonDivisor_6 : decode cX5_commonDivisor 6 = .ok (.iconst 0, 1) := by decide +kernel
theorem dX5_commonDivisor_7 : decode cX5_commonDivisor 7 = .ok (.istore 8, 2) := by decide +kernel
theorem dX5_commonDivisor_9 : decode cX5_commonDivisor 9 = .ok (.iload 8, 2) := by decide +kernel
theorem dX5_commonDivisor_11 : decode cX5_commonDivisor 11 = .ok (.bipush 100, 2) := by decide +kernel
theorem dX5_commonDivisor_13 : decode cX5_commonDivisor 13 = .ok (.if_icmp .ge 31, 3) := by decide +kernel
theorem dX5_commonDivisor_16 : decode cX5_commonDivisor 16 = .ok (.lload 6, 2) := by decide +kernel
theorem dX5_commonDivisor_18 : decode cX5_commonDivisor 18 = .ok (.lconst 0, 1) := by decide +kernel
theorem dX5_commonDivisor_19 : decode cX5_commonDivisor 19 = .ok (.lcmp, 1) := by decide +kernel
theorem dX5_commonDivisor_20 : decode cX5_commonDivisor 20 = .ok (.ifCond .eq 24, 3) := by decide +kernel
theorem dX5_commonDivisor_23 : decode cX5_commonDivisor 23 = .ok (.lload 4, 2) := by decide +kernel
theorem dX5_commonDivisor_25 : decode cX5_commonDivisor 25 = .ok (.lload 6, 2) := by decide +kernel
theorem dX5_commonDivisor_27 : decode cX5_commonDivisor 27 = .ok (.lrem, 1) := by decide +kernel
theorem dX5_commonDivisor_28 : decode cX5_commonDivisor 28 = .ok (.lstore 9, 2) := by decide +kernel
theorem dX5_commonDivisor_30 : decode cX5_commonDivisor 30 = .ok (.lload 6, 2) := by decide +kernel
theorem dX5_commonDivisor_32 : decode cX5_commonDivisor 32 = .ok (.lstore 4, 2) := by decide +kernel
theorem dX5_commonDivisor_34 : decode cX5_commonDivisor 34 = .ok (.lload 9, 2) := by decide +kernel
theorem dX5_commonDivisor_36 : decode cX5_commonDivisor 36 = .ok (.lstore 6, 2) := by decide +kernel
theorem dX5_commonDivisor_38 : decode cX5_commonDivisor 38 = .ok (.iinc 8 1, 3) := by decide +kernel
theorem dX5_commonDivisor_41 : decode cX5_commonDivisor 41 = .ok (.goto (-32), 3) := by decide +kernel
theorem dX5_commonDivisor_44 : decode cX5_commonDivisor 44 = .ok (.lload 4, 2) := by decide +kernel
theorem dX5_commonDivisor_46 : decode cX5_commonDivisor 46 = .ok (.lconst 1, 1) := by decide +kernel
theorem dX5_commonDivisor_47 : decode cX5_commonDivisor 47 = .ok (.invokestatic 303, 3) := by decide +kernel
theorem dX5_commonDivisor_50 : decode cX5_commonDivisor 50 = .ok (.lreturn, 1) := by decide +kernel
end
section
theorem dX6_init_0 : decode cX6_init 0 = .ok (.aload_n 0, 1) := by decide +kernel
theorem dX6_init_1 : decode cX6_init 1 = .ok (.invokespecial 1, 3) := by decide +kernel
theorem dX6_init_4 : decode cX6_init 4 = .ok (.aload_n 0, 1) := by decide +kernel
theorem dX6_init_5 : decode cX6_init 5 = .ok (.iconst 3, 1) := by decide +kernel
theorem dX6_init_6 : decode cX6_init 6 = .ok (.putfield 7, 3) := by decide +kernel
theorem dX6_init_9 : decode cX6_init 9 = .ok (.aload_n 0, 1) := by decide +kernel
theorem dX6_init_10 : decode cX6_init 10 = .ok (.bipush 25, 2) := by decide +kernel
theorem dX6_init_12 : decode cX6_init 12 = .ok (.newarray .int, 2) := by decide +kernel
theorem dX6_init_14 : decode cX6_init 14 = .ok (.putfield 13, 3) := by decide +kernel
theorem dX6_init_17 : decode cX6_init 17 = .ok (.aload_n 0, 1) := by decide +kernel
theorem dX6_init_18 : decode cX6_init 18 = .ok (.iconst 5, 1) := by decide +kernel
theorem dX6_init_19 : decode cX6_init 19 = .ok (.newarray .int, 2) := by decide +kernel
theorem dX6_init_21 : decode cX6_init 21 = .ok (.putfield 17, 3) := by decide +kernel
theorem dX6_init_24 : decode cX6_init 24 = .ok (.aload_n 0, 1) := by decide +kernel
theorem dX6_init_25 : decode cX6_init 25 = .ok (.iconst 5, 1) := by decide +kernel
theorem dX6_init_26 : decode cX6_init 26 = .ok (.newarray .int, 2) := by decide +kernel
theorem dX6_init_28 : decode cX6_init 28 = .ok (.putfield 20, 3) := by decide +kernel
theorem dX6_init_31 : decode cX6_init 31 = .ok (.aload_n 0, 1) := by decide +kernel
theorem dX6_init_32 : decode cX6_init 32 = .ok (.iconst 5, 1) := by decide +kernel
theorem dX6_init_33 : decode cX6_init 33 = .ok (.newarray .int, 2) := by decide +kernel
theorem dX6_init_35 : decode cX6_init 35 = .ok (.putfield 23, 3) := by decide +kernel
theorem dX6_init_38 : decode cX6_init 38 = .ok (.aload_n 0, 1) := by decide +kernel
theorem dX6_init_39 : decode cX6_init 39 = .ok (.iconst 5, 1) := by decide +kernel
theorem dX6_init_40 : decode cX6_init 40 = .ok (.newarray .boolean, 2) := by decide +kernel
theorem dX6_init_42 : decode cX6_init 42 = .ok (.putfield 26, 3) := by decide +kernel
theorem dX6_init_45 : decode cX6_init 45 = .ok (.aload_n 0, 1) := by decide +kernel
theorem dX6_init_46 : decode cX6_init 46 = .ok (.iconst 5, 1) := by decide +kernel
theorem dX6_init_47 : decode cX6_init 47 = .ok (.newarray .int, 2) := by decide +kernel
theorem dX6_init_49 : decode cX6_init 49 = .ok (.putfield 30, 3) := by decide +kernel
theorem dX6_init_52 : decode cX6_init 52 = .ok (.aload_n 0, 1) := by decide +kernel
theorem dX6_init_53 : decode cX6_init 53 = .ok (.bipush 12, 2) := by decide +kernel
theorem dX6_init_55 : decode cX6_init 55 = .ok (.newarray .int, 2) := by decide +kernel
theorem dX6_init_57 : decode cX6_init 57 = .ok (.putfield 33, 3) := by decide +kernel
theorem dX6_init_60 : decode cX6_init 60 = .ok (.aload_n 0, 1) := by decide +kernel
theorem dX6_init_61 : decode cX6_init 61 = .ok (.bipush 25, 2) := by decide +kernel
theorem dX6_init_63 : decode cX6_init 63 = .ok (.newarray .long, 2) := by decide +kernel
theorem dX6_init_65 : decode cX6_init 65 = .ok (.putfield 36, 3) := by decide +kernel
theorem dX6_init_68 : decode cX6_init 68 = .ok (.aload_n 0, 1) := by decide +kernel
theorem dX6_init_69 : decode cX6_init 69 = .ok (.bipush 32, 2) := by decide +kernel
theorem dX6_init_71 : decode cX6_init 71 = .ok (.newarray .long, 2) := by decide +kernel
theorem dX6_init_73 : decode cX6_init 73 = .ok (.putfield 40, 3) := by decide +kernel
theorem dX6_init_76 : decode cX6_init 76 = .ok (.aload_n 0, 1) := by decide +kernel
theorem dX6_init_77 : decode cX6_init 77 = .ok (.iconst 5, 1) := by decide +kernel
theorem dX6_init_78 : decode cX6_init 78 = .ok (.newarray .int, 2) := by decide +kernel
theorem dX6_init_80 : decode cX6_init 80 = .ok (.putfield 43, 3) := by decide +kernel
theorem dX6_init_83 : decode cX6_init 83 = .ok (.aload_n 0, 1) := by decide +kernel
theorem dX6_init_84 : decode cX6_init 84 = .ok (.iconst 1, 1) := by decide +kernel
theorem dX6_init_85 : decode cX6_init 85 = .ok (.putfield 46, 3) := by decide +kernel
theorem dX6_init_88 : decode cX6_init 88 = .ok (.aload_n 0, 1) := by decide +kernel
theorem dX6_init_89 : decode cX6_init 89 = .ok (.iconst 5, 1) := by decide +kernel
theorem dX6_init_90 : decode cX6_init 90 = .ok (.newarray .int, 2) := by decide +kernel
theorem dX6_init_92 : decode cX6_init 92 = .ok (.putfield 49, 3) := by decide +kernel
theorem dX6_init_95 : decode cX6_init 95 = .ok (.aload_n 0, 1) := by decide +kernel
theorem dX6_init_96 : decode cX6_init 96 = .ok (.iconst 5, 1) := by decide +kernel
theorem dX6_init_97 : decode cX6_init 97 = .ok (.newarray .int, 2) := by decide +kernel
theorem dX6_init_99 : decode cX6_init 99 = .ok (.putfield 52, 3) := by decide +kernel
theorem dX6_init_102 : decode cX6_init 102 = .ok (.aload_n 0, 1) := by decide +kernel
theorem dX6_init_103 : decode cX6_init 103 = .ok (.iconst 5, 1) := by decide +kernel
theorem dX6_init_104 : decode cX6_init 104 = .ok (.newarray .int, 2) := by decide +kernel
theorem dX6_init_106 : decode cX6_init 106 = .ok (.putfield 55, 3) := by decide +kernel
theorem dX6_init_109 : decode cX6_init 109 = .ok (.aload_n 0, 1) := by decide +kernel
theorem dX6_init_110 : decode cX6_init 110 = .ok (.iconst 4, 1) := by decide +kernel
theorem dX6_init_111 : decode cX6_init 111 = .ok (.newarray .boolean, 2) := by decide +kernel
theorem dX6_init_113 : decode cX6_init 113 = .ok (.putfield 58, 3) := by decide +kernel
theorem dX6_init_116 : decode cX6_init 116 = .ok (.aload_n 0, 1) := by decide +kernel
theorem dX6_init_117 : decode cX6_init 117 = .ok (.iconst 4, 1) := by decide +kernel
theorem dX6_init_118 : decode cX6_init 118 = .ok (.newarray .int, 2) := by decide +kernel
theorem dX6_init_120 : decode cX6_init 120 = .ok (.putfield 61, 3) := by decide +kernel
theorem dX6_init_123 : decode cX6_init 123 = .ok (.aload_n 0, 1) := by decide +kernel
theorem dX6_init_124 : decode cX6_init 124 = .ok (.iconst 4, 1) := by decide +kernel
theorem dX6_init_125 : decode cX6_init 125 = .ok (.newarray .int, 2) := by decide +kernel
theorem dX6_init_127 : decode cX6_init 127 = .ok (.putfield 64, 3) := by decide +kernel
theorem dX6_init_130 : decode cX6_init 130 = .ok (.aload_n 0, 1) := by decide +kernel
theorem dX6_init_131 : decode cX6_init 131 = .ok (.sipush 240, 3) := by decide +kernel
theorem dX6_init_134 : decode cX6_init 134 = .ok (.newarray .int, 2) := by decide +kernel
theorem dX6_init_136 : decode cX6_init 136 = .ok (.putfield 67, 3) := by decide +kernel
theorem dX6_init_139 : decode cX6_init 139 = .ok (.aload_n 0, 1) := by decide +kernel
theorem dX6_init_140 : decode cX6_init 140 = .ok (.bipush 60, 2) := by decide +kernel
theorem dX6_init_142 : decode cX6_init 142 = .ok (.newarray .int, 2) := by decide +kernel
theorem dX6_init_144 : decode cX6_init 144 = .ok (.putfield 70, 3) := by decide +kernel
theorem dX6_init_147 : decode cX6_init 147 = .ok (.iconst 0, 1) := by decide +kernel
theorem dX6_init_148 : decode cX6_init 148 = .ok (.istore_n 1, 1) := by decide +kernel
theorem dX6_init_149 : decode cX6_init 149 = .ok (.iload_n 1, 1) := by decide +kernel
theorem dX6_init_150 : decode cX6_init 150 = .ok (.iconst 5, 1) := by decide +kernel
theorem dX6_init_151 : decode cX6_init 151 = .ok (.if_icmp .ge 72, 3) := by decide +kernel
theorem dX6_init_154 : decode cX6_init 154 = .ok (.aload_n 0, 1) := by decide +kernel
theorem dX6_init_155 : decode cX6_init 155 = .ok (.getfield 17, 3) := by decide +kernel
theorem dX6_init_158 : decode cX6_init 158 = .ok (.iload_n 1, 1) := by decide +kernel
theorem dX6_init_159 : decode cX6_init 159 = .ok (.iconst 5, 1) := by decide +kernel
theorem dX6_init_160 : decode cX6_init 160 = .ok (.iastore, 1) := by decide +kernel
theorem dX6_init_161 : decode cX6_init 161 = .ok (.aload_n 0, 1) := by decide +kernel
theorem dX6_init_162 : decode cX6_init 162 = .ok (.getfield 20, 3) := by decide +kernel
theorem dX6_init_165 : decode cX6_init 165 = .ok (.iload_n 1, 1) := by decide +kernel
theorem dX6_init_166 : decode cX6_init 166 = .ok (.iconst 1, 1) := by decide +kernel
theorem dX6_init_167 : decode cX6_init 167 = .ok (.iastore, 1) := by decide +kernel
theorem dX6_init_168 : decode cX6_init 168 = .ok (.aload_n 0, 1) := by decide +kernel
theorem dX6_init_169 : decode cX6_init 169 = .ok (.getfield 23, 3) := by decide +kernel
theorem dX6_init_172 : decode cX6_init 172 = .ok (.iload_n 1, 1) := by decide +kernel
theorem dX6_init_173 : decode cX6_init 173 = .ok (.bipush 100, 2) := by decide +kernel
theorem dX6_init_175 : decode cX6_init 175 = .ok (.iastore, 1) := by decide +kernel
theorem dX6_init_176 : decode cX6_init 176 = .ok (.aload_n 0, 1) := by decide +kernel
theorem dX6_init_177 : decode cX6_init 177 = .ok (.getfield 26, 3) := by decide +kernel
theorem dX6_init_180 : decode cX6_init 180 = .ok (.iload_n 1, 1) := by decide +kernel
theorem dX6_init_181 : decode cX6_init 181 = .ok (.iconst 1, 1) := by decide +kernel
theorem dX6_init_182 : decode cX6_init 182 = .ok (.bastore, 1) := by decide +kernel
theorem dX6_init_183 : decode cX6_init 183 = .ok (.iconst 0, 1) := by decide +kernel
theorem dX6_init_184 : decode cX6_init 184 = .ok (.istore_n 2, 1) := by decide +kernel
theorem dX6_init_185 : decode cX6_init 185 = .ok (.iload_n 2, 1) := by decide +kernel
theorem dX6_init_186 : decode cX6_init 186 = .ok (.iconst 5, 1) := by decide +kernel
theorem dX6_init_187 : decode cX6_init 187 = .ok (.if_icmp .ge 30, 3) := by decide +kernel
theorem dX6_init_190 : decode cX6_init 190 = .ok (.aload_n 0, 1) := by decide +kernel
theorem dX6_init_191 : decode cX6_init 191 = .ok (.getfield 13, 3) := by decide +kernel
theorem dX6_init_194 : decode cX6_init 194 = .ok (.iconst 5, 1) := by decide +kernel
theorem dX6_init_195 : decode cX6_init 195 = .ok (.iload_n 1, 1) := by decide +kernel
theorem dX6_init_196 : decode cX6_init 196 = .ok (.imul, 1) := by decide +kernel
theorem dX6_init_197 : decode cX6_init 197 = .ok (.iload_n 2, 1) := by decide +kernel
theorem dX6_init_198 : decode cX6_init 198 = .ok (.iadd, 1) := by decide +kernel
theorem dX6_init_199 : decode cX6_init 199 = .ok (.iload_n 1, 1) := by decide +kernel
theorem dX6_init_200 : decode cX6_init 200 = .ok (.iload_n 2, 1) := by decide +kernel
theorem dX6_init_201 : decode cX6_init 201 = .ok (.if_icmp .ne 8, 3) := by decide +kernel
theorem dX6_init_204 : decode cX6_init 204 = .ok (.bipush 10, 2) := by decide +kernel
theorem dX6_init_206 : decode cX6_init 206 = .ok (.goto 4, 3) := by decide +kernel
theorem dX6_init_209 : decode cX6_init 209 = .ok (.iconst 1, 1) := by decide +kernel
theorem dX6_init_210 : decode cX6_init 210 = .ok (.iastore, 1) := by decide +kernel
theorem dX6_init_211 : decode cX6_init 211 = .ok (.iinc 2 1, 3) := by decide +kernel
theorem dX6_init_214 : decode cX6_init 214 = .ok (.goto (-29), 3) := by decide +kernel
theorem dX6_init_217 : decode cX6_init 217 = .ok (.iinc 1 1, 3) := by decide +kernel
theorem dX6_init_220 : decode cX6_init 220 = .ok (.goto (-71), 3) := by decide +kernel
theorem dX6_init_223 : decode cX6_init 223 = .ok (.return_, 1) := by decide +kernel
theorem dX6_in_0 : decode cX6_in 0 = .ok (.iload_n 0, 1) := by decide +kernel
theorem dX6_in_1 : decode cX6_in 1 = .ok (.iload_n 1, 1) := by decide +kernel
theorem dX6_in_2 : decode cX6_in 2 = .ok (.if_icmp .lt 12, 3) := by decide +kernel
theorem dX6_in_5 : decode cX6_in 5 = .ok (.iload_n 0, 1) := by decide +kernel
theorem dX6_in_6 : decode cX6_in 6 = .ok (.iload_n 2, 1) := by decide +kernel
theorem dX6_in_7 : decode cX6_in 7 = .ok (.if_icmp .gt 7, 3) := by decide +kernel
theorem dX6_in_10 : decode cX6_in 10 = .ok (.iconst 1, 1) := by decide +kernel
theorem dX6_in_11 : decode cX6_in 11 = .ok (.goto 4, 3) := by decide +kernel
theorem dX6_in_14 : decode cX6_in 14 = .ok (.iconst 0, 1) := by decide +kernel
theorem dX6_in_15 : decode cX6_in 15 = .ok (.ireturn, 1) := by decide +kernel
theorem dX6_no_0 : decode cX6_no 0 = .ok (.ldc2_w 73, 3) := by decide +kernel
theorem dX6_no_3 : decode cX6_no 3 = .ok (.iload_n 0, 1) := by decide +kernel
theorem dX6_no_4 : decode cX6_no 4 = .ok (.i2l, 1) := by decide +kernel
theorem dX6_no_5 : decode cX6_no 5 = .ok (.lsub, 1) := by decide +kernel
theorem dX6_no_6 : decode cX6_no 6 = .ok (.lreturn, 1) := by decide +kernel
theorem dX6_isSender_0 : decode cX6_isSender 0 = .ok (.iload_n 1, 1) := by decide +kernel
theorem dX6_isSender_1 : decode cX6_isSender 1 = .ok (.iconst 0, 1) := by decide +kernel
theorem dX6_isSender_2 : decode cX6_isSender 2 = .ok (.aload_n 0, 1) := by decide +kernel
theorem dX6_isSender_3 : decode cX6_isSender 3 = .ok (.getfield 7, 3) := by decide +kernel
theorem dX6_isSender_6 : decode cX6_isSender 6 = .ok (.iconst 1, 1) := by decide +kernel
theorem dX6_isSender_7 : decode cX6_isSender 7 = .ok (.isub, 1) := by decide +kernel
theorem dX6_isSender_8 : decode cX6_isSender 8 = .ok (.invokestatic 75, 3) := by decide +kernel
theorem dX6_isSender_11 : decode cX6_isSender 11 = .ok (.ireturn, 1) := by decide +kernel
theorem dX6_isGain_0 : decode cX6_isGain 0 = .ok (.iload_n 0, 1) := by decide +kernel
theorem dX6_isGain_1 : decode cX6_isGain 1 = .ok (.iload_n 1, 1) := by decide +kernel
theorem dX6_isGain_2 : decode cX6_isGain 2 = .ok (.if_icmp .ne 13, 3) := by decide +kernel
theorem dX6_isGain_5 : decode cX6_isGain 5 = .ok (.iload_n 2, 1) := by decide +kernel
theorem dX6_isGain_6 : decode cX6_isGain 6 = .ok (.iconst 1, 1) := by decide +kernel
theorem dX6_isGain_7 : decode cX6_isGain 7 = .ok (.bipush 30, 2) := by decide +kernel
theorem dX6_isGain_9 : decode cX6_isGain 9 = .ok (.invokestatic 75, 3) := by decide +kernel
theorem dX6_isGain_12 : decode cX6_isGain 12 = .ok (.goto 10, 3) := by decide +kernel
theorem dX6_isGain_15 : decode cX6_isGain 15 = .ok (.iload_n 2, 1) := by decide +kernel
theorem dX6_isGain_16 : decode cX6_isGain 16 = .ok (.iconst 0, 1) := by decide +kernel
theorem dX6_isGain_17 : decode cX6_isGain 17 = .ok (.bipush 9, 2) := by decide +kernel
theorem dX6_isGain_19 : decode cX6_isGain 19 = .ok (.invokestatic 75, 3) := by decide +kernel
theorem dX6_isGain_22 : decode cX6_isGain 22 = .ok (.ireturn, 1) := by decide +kernel
theorem dX6_senders_0 : decode cX6_senders 0 = .ok (.iload_n 1, 1) := by decide +kernel
theorem dX6_senders_1 : decode cX6_senders 1 = .ok (.iconst 1, 1) := by decide +kernel
theorem dX6_senders_2 : decode cX6_senders 2 = .ok (.iconst 5, 1) := by decide +kernel
theorem dX6_senders_3 : decode cX6_senders 3 = .ok (.invokestatic 75, 3) := by decide +kernel
theorem dX6_senders_6 : decode cX6_senders 6 = .ok (.ifCond .ne 6, 3) := by decide +kernel
theorem dX6_senders_9 : decode cX6_senders 9 = .ok (.bipush (-2), 2) := by decide +kernel
theorem dX6_senders_11 : decode cX6_senders 11 = .ok (.ireturn, 1) := by decide +kernel
theorem dX6_senders_12 : decode cX6_senders 12 = .ok (.aload_n 0, 1) := by decide +kernel
theorem dX6_senders_13 : decode cX6_senders 13 = .ok (.getfield 7, 3) := by decide +kernel
theorem dX6_senders_16 : decode cX6_senders 16 = .ok (.istore_n 2, 1) := by decide +kernel
theorem dX6_senders_17 : decode cX6_senders 17 = .ok (.aload_n 0, 1) := by decide +kernel
theorem dX6_senders_18 : decode cX6_senders 18 = .ok (.iload_n 1, 1) := by decide +kernel
theorem dX6_senders_19 : decode cX6_senders 19 = .ok (.putfield 7, 3) := by decide +kernel
theorem dX6_senders_22 : decode cX6_senders 22 = .ok (.iload_n 2, 1) := by decide +kernel
theorem dX6_senders_23 : decode cX6_senders 23 = .ok (.ireturn, 1) := by decide +kernel
theorem dX6_gain_0 : decode cX6_gain 0 = .ok (.aload_n 0, 1) := by decide +kernel
theorem dX6_gain_1 : decode cX6_gain 1 = .ok (.iload_n 1, 1) := by decide +kernel
theorem dX6_gain_2 : decode cX6_gain 2 = .ok (.invokevirtual 79, 3) := by decide +kernel
theorem dX6_gain_5 : decode cX6_gain 5 = .ok (.ifCond .eq 20, 3) := by decide +kernel
theorem dX6_gain_8 : decode cX6_gain 8 = .ok (.aload_n 0, 1) := by decide +kernel
theorem dX6_gain_9 : decode cX6_gain 9 = .ok (.iload_n 2, 1) := by decide +kernel
theorem dX6_gain_10 : decode cX6_gain 10 = .ok (.invokevirtual 79, 3) := by decide +kernel
theorem dX6_gain_13 : decode cX6_gain 13 = .ok (.ifCond .eq 12, 3) := by decide +kernel
theorem dX6_gain_16 : decode cX6_gain 16 = .ok (.iload_n 1, 1) := by decide +kernel
theorem dX6_gain_17 : decode cX6_gain 17 = .ok (.iload_n 2, 1) := by decide +kernel
theorem dX6_gain_18 : decode cX6_gain 18 = .ok (.iload_n 3, 1) := by decide +kernel
theorem dX6_gain_19 : decode cX6_gain 19 = .ok (.invokestatic 83, 3) := by decide +kernel
theorem dX6_gain_22 : decode cX6_gain 22 = .ok (.ifCond .ne 6, 3) := by decide +kernel
theorem dX6_gain_25 : decode cX6_gain 25 = .ok (.bipush (-2), 2) := by decide +kernel
theorem dX6_gain_27 : decode cX6_gain 27 = .ok (.ireturn, 1) := by decide +kernel
theorem dX6_gain_28 : decode cX6_gain 28 = .ok (.aload_n 0, 1) := by decide +kernel
theorem dX6_gain_29 : decode cX6_gain 29 = .ok (.getfield 13, 3) := by decide +kernel
theorem dX6_gain_32 : decode cX6_gain 32 = .ok (.iconst 5, 1) := by decide +kernel
theorem dX6_gain_33 : decode cX6_gain 33 = .ok (.iload_n 1, 1) := by decide +kernel
theorem dX6_gain_34 : decode cX6_gain 34 = .ok (.imul, 1) := by decide +kernel
theorem dX6_gain_35 : decode cX6_gain 35 = .ok (.iload_n 2, 1) := by decide +kernel
theorem dX6_gain_36 : decode cX6_gain 36 = .ok (.iadd, 1) := by decide +kernel
theorem dX6_gain_37 : decode cX6_gain 37 = .ok (.iaload, 1) := by decide +kernel
theorem dX6_gain_38 : decode cX6_gain 38 = .ok (.istore 4, 2) := by decide +kernel
theorem dX6_gain_40 : decode cX6_gain 40 = .ok (.aload_n 0, 1) := by decide +kernel
theorem dX6_gain_41 : decode cX6_gain 41 = .ok (.getfield 13, 3) := by decide +kernel
theorem dX6_gain_44 : decode cX6_gain 44 = .ok (.iconst 5, 1) := by decide +kernel
theorem dX6_gain_45 : decode cX6_gain 45 = .ok (.iload_n 1, 1) := by decide +kernel
theorem dX6_gain_46 : decode cX6_gain 46 = .ok (.imul, 1) := by decide +kernel
theorem dX6_gain_47 : decode cX6_gain 47 = .ok (.iload_n 2, 1) := by decide +kernel
theorem dX6_gain_48 : decode cX6_gain 48 = .ok (.iadd, 1) := by decide +kernel
theorem dX6_gain_49 : decode cX6_gain 49 = .ok (.iload_n 3, 1) := by decide +kernel
theorem dX6_gain_50 : decode cX6_gain 50 = .ok (.iastore, 1) := by decide +kernel
theorem dX6_gain_51 : decode cX6_gain 51 = .ok (.iload 4, 2) := by decide +kernel
theorem dX6_gain_53 : decode cX6_gain 53 = .ok (.ireturn, 1) := by decide +kernel
theorem dX6_isSetting_0 : decode cX6_isSetting 0 = .ok (.iload_n 0, 1) := by decide +kernel
theorem dX6_isSetting_1 : decode cX6_isSetting 1 = .ok (.ifCond .ne 13, 3) := by decide +kernel
theorem dX6_isSetting_4 : decode cX6_isSetting 4 = .ok (.iload_n 1, 1) := by decide +kernel
theorem dX6_isSetting_5 : decode cX6_isSetting 5 = .ok (.iconst 1, 1) := by decide +kernel
theorem dX6_isSetting_6 : decode cX6_isSetting 6 = .ok (.bipush 20, 2) := by decide +kernel
theorem dX6_isSetting_8 : decode cX6_isSetting 8 = .ok (.invokestatic 75, 3) := by decide +kernel
theorem dX6_isSetting_11 : decode cX6_isSetting 11 = .ok (.goto 39, 3) := by decide +kernel
theorem dX6_isSetting_14 : decode cX6_isSetting 14 = .ok (.iload_n 0, 1) := by decide +kernel
theorem dX6_isSetting_15 : decode cX6_isSetting 15 = .ok (.iconst 1, 1) := by decide +kernel
theorem dX6_isSetting_16 : decode cX6_isSetting 16 = .ok (.if_icmp .ne 13, 3) := by decide +kernel
theorem dX6_isSetting_19 : decode cX6_isSetting 19 = .ok (.iload_n 1, 1) := by decide +kernel
theorem dX6_isSetting_20 : decode cX6_isSetting 20 = .ok (.iconst 0, 1) := by decide +kernel
theorem dX6_isSetting_21 : decode cX6_isSetting 21 = .ok (.bipush 9, 2) := by decide +kernel
theorem dX6_isSetting_23 : decode cX6_isSetting 23 = .ok (.invokestatic 75, 3) := by decide +kernel
theorem dX6_isSetting_26 : decode cX6_isSetting 26 = .ok (.goto 24, 3) := by decide +kernel
theorem dX6_isSetting_29 : decode cX6_isSetting 29 = .ok (.iload_n 0, 1) := by decide +kernel
theorem dX6_isSetting_30 : decode cX6_isSetting 30 = .ok (.iconst 2, 1) := by decide +kernel
theorem dX6_isSetting_31 : decode cX6_isSetting 31 = .ok (.if_icmp .ne 18, 3) := by decide +kernel
theorem dX6_isSetting_34 : decode cX6_isSetting 34 = .ok (.iload_n 1, 1) := by decide +kernel
theorem dX6_isSetting_35 : decode cX6_isSetting 35 = .ok (.iconst 0, 1) := by decide +kernel
theorem dX6_isSetting_36 : decode cX6_isSetting 36 = .ok (.sipush 999, 3) := by decide +kernel
theorem dX6_isSetting_39 : decode cX6_isSetting 39 = .ok (.invokestatic 75, 3) := by decide +kernel
theorem dX6_isSetting_42 : decode cX6_isSetting 42 = .ok (.ifCond .eq 7, 3) := by decide +kernel
theorem dX6_isSetting_45 : decode cX6_isSetting 45 = .ok (.iconst 1, 1) := by decide +kernel
theorem dX6_isSetting_46 : decode cX6_isSetting 46 = .ok (.goto 4, 3) := by decide +kernel
theorem dX6_isSetting_49 : decode cX6_isSetting 49 = .ok (.iconst 0, 1) := by decide +kernel
theorem dX6_isSetting_50 : decode cX6_isSetting 50 = .ok (.ireturn, 1) := by decide +kernel
theorem dX6_setting_0 : decode cX6_setting 0 = .ok (.iload_n 2, 1) := by decide +kernel
theorem dX6_setting_1 : decode cX6_setting 1 = .ok (.ifCond .ne 12, 3) := by decide +kernel
theorem dX6_setting_4 : decode cX6_setting 4 = .ok (.aload_n 0, 1) := by decide +kernel
theorem dX6_setting_5 : decode cX6_setting 5 = .ok (.getfield 17, 3) := by decide +kernel
theorem dX6_setting_8 : decode cX6_setting 8 = .ok (.iload_n 1, 1) := by decide +kernel
theorem dX6_setting_9 : decode cX6_setting 9 = .ok (.iaload, 1) := by decide +kernel
theorem dX6_setting_10 : decode cX6_setting 10 = .ok (.goto 23, 3) := by decide +kernel
theorem dX6_setting_13 : decode cX6_setting 13 = .ok (.iload_n 2, 1) := by decide +kernel
theorem dX6_setting_14 : decode cX6_setting 14 = .ok (.iconst 1, 1) := by decide +kernel
theorem dX6_setting_15 : decode cX6_setting 15 = .ok (.if_icmp .ne 12, 3) := by decide +kernel
theorem dX6_setting_18 : decode cX6_setting 18 = .ok (.aload_n 0, 1) := by decide +kernel
theorem dX6_setting_19 : decode cX6_setting 19 = .ok (.getfield 20, 3) := by decide +kernel
theorem dX6_setting_22 : decode cX6_setting 22 = .ok (.iload_n 1, 1) := by decide +kernel
theorem dX6_setting_23 : decode cX6_setting 23 = .ok (.iaload, 1) := by decide +kernel
theorem dX6_setting_24 : decode cX6_setting 24 = .ok (.goto 9, 3) := by decide +kernel
theorem dX6_setting_27 : decode cX6_setting 27 = .ok (.aload_n 0, 1) := by decide +kernel
theorem dX6_setting_28 : decode cX6_setting 28 = .ok (.getfield 23, 3) := by decide +kernel
theorem dX6_setting_31 : decode cX6_setting 31 = .ok (.iload_n 1, 1) := by decide +kernel
theorem dX6_setting_32 : decode cX6_setting 32 = .ok (.iaload, 1) := by decide +kernel
theorem dX6_setting_33 : decode cX6_setting 33 = .ok (.ireturn, 1) := by decide +kernel
theorem dX6_set_0 : decode cX6_set 0 = .ok (.aload_n 0, 1) := by decide +kernel
theorem dX6_set_1 : decode cX6_set 1 = .ok (.iload_n 1, 1) := by decide +kernel
theorem dX6_set_2 : decode cX6_set 2 = .ok (.invokevirtual 79, 3) := by decide +kernel
theorem dX6_set_5 : decode cX6_set 5 = .ok (.ifCond .eq 11, 3) := by decide +kernel
theorem dX6_set_8 : decode cX6_set 8 = .ok (.iload_n 2, 1) := by decide +kernel
theorem dX6_set_9 : decode cX6_set 9 = .ok (.iload_n 3, 1) := by decide +kernel
theorem dX6_set_10 : decode cX6_set 10 = .ok (.invokestatic 86, 3) := by decide +kernel
theorem dX6_set_13 : decode cX6_set 13 = .ok (.ifCond .ne 6, 3) := by decide +kernel
theorem dX6_set_16 : decode cX6_set 16 = .ok (.bipush (-2), 2) := by decide +kernel
theorem dX6_set_18 : decode cX6_set 18 = .ok (.ireturn, 1) := by decide +kernel
theorem dX6_set_19 : decode cX6_set 19 = .ok (.aload_n 0, 1) := by decide +kernel
theorem dX6_set_20 : decode cX6_set 20 = .ok (.iload_n 1, 1) := by decide +kernel
theorem dX6_set_21 : decode cX6_set 21 = .ok (.iload_n 2, 1) := by decide +kernel
theorem dX6_set_22 : decode cX6_set 22 = .ok (.invokevirtual 90, 3) := by decide +kernel
theorem dX6_set_25 : decode cX6_set 25 = .ok (.istore 4, 2) := by decide +kernel
theorem dX6_set_27 : decode cX6_set 27 = .ok (.iload_n 2, 1) := by decide +kernel
theorem dX6_set_28 : decode cX6_set 28 = .ok (.ifCond .ne 13, 3) := by decide +kernel
theorem dX6_set_31 : decode cX6_set 31 = .ok (.aload_n 0, 1) := by decide +kernel
theorem dX6_set_32 : decode cX6_set 32 = .ok (.getfield 17, 3) := by decide +kernel
theorem dX6_set_35 : decode cX6_set 35 = .ok (.iload_n 1, 1) := by decide +kernel
theorem dX6_set_36 : decode cX6_set 36 = .ok (.iload_n 3, 1) := by decide +kernel
theorem dX6_set_37 : decode cX6_set 37 = .ok (.iastore, 1) := by decide +kernel
theorem dX6_set_38 : decode cX6_set 38 = .ok (.goto 25, 3) := by decide +kernel
theorem dX6_set_41 : decode cX6_set 41 = .ok (.iload_n 2, 1) := by decide +kernel
theorem dX6_set_42 : decode cX6_set 42 = .ok (.iconst 1, 1) := by decide +kernel
theorem dX6_set_43 : decode cX6_set 43 = .ok (.if_icmp .ne 13, 3) := by decide +kernel
theorem dX6_set_46 : decode cX6_set 46 = .ok (.aload_n 0, 1) := by decide +kernel
theorem dX6_set_47 : decode cX6_set 47 = .ok (.getfield 20, 3) := by decide +kernel
theorem dX6_set_50 : decode cX6_set 50 = .ok (.iload_n 1, 1) := by decide +kernel
theorem dX6_set_51 : decode cX6_set 51 = .ok (.iload_n 3, 1) := by decide +kernel
theorem dX6_set_52 : decode cX6_set 52 = .ok (.iastore, 1) := by decide +kernel
theorem dX6_set_53 : decode cX6_set 53 = .ok (.goto 10, 3) := by decide +kernel
theorem dX6_set_56 : decode cX6_set 56 = .ok (.aload_n 0, 1) := by decide +kernel
theorem dX6_set_57 : decode cX6_set 57 = .ok (.getfield 23, 3) := by decide +kernel
theorem dX6_set_60 : decode cX6_set 60 = .ok (.iload_n 1, 1) := by decide +kernel
theorem dX6_set_61 : decode cX6_set 61 = .ok (.iload_n 3, 1) := by decide +kernel
theorem dX6_set_62 : decode cX6_set 62 = .ok (.iastore, 1) := by decide +kernel
theorem dX6_set_63 : decode cX6_set 63 = .ok (.iload 4, 2) := by decide +kernel
theorem dX6_set_65 : decode cX6_set 65 = .ok (.ireturn, 1) := by decide +kernel
theorem dX6_onNow_0 : decode cX6_onNow 0 = .ok (.iconst 0, 1) := by decide +kernel
theorem dX6_onNow_1 : decode cX6_onNow 1 = .ok (.istore_n 1, 1) := by decide +kernel
theorem dX6_onNow_2 : decode cX6_onNow 2 = .ok (.iconst 0, 1) := by decide +kernel
theorem dX6_onNow_3 : decode cX6_onNow 3 = .ok (.istore_n 2, 1) := by decide +kernel
theorem dX6_onNow_4 : decode cX6_onNow 4 = .ok (.iload_n 2, 1) := by decide +kernel
theorem dX6_onNow_5 : decode cX6_onNow 5 = .ok (.aload_n 0, 1) := by decide +kernel
theorem dX6_onNow_6 : decode cX6_onNow 6 = .ok (.getfield 7, 3) := by decide +kernel
theorem dX6_onNow_9 : decode cX6_onNow 9 = .ok (.if_icmp .ge 28, 3) := by decide +kernel
theorem dX6_onNow_12 : decode cX6_onNow 12 = .ok (.iload_n 1, 1) := by decide +kernel
theorem dX6_onNow_13 : decode cX6_onNow 13 = .ok (.aload_n 0, 1) := by decide +kernel
theorem dX6_onNow_14 : decode cX6_onNow 14 = .ok (.getfield 26, 3) := by decide +kernel
theorem dX6_onNow_17 : decode cX6_onNow 17 = .ok (.iload_n 2, 1) := by decide +kernel
theorem dX6_onNow_18 : decode cX6_onNow 18 = .ok (.baload, 1) := by decide +kernel
theorem dX6_onNow_19 : decode cX6_onNow 19 = .ok (.ifCond .eq 9, 3) := by decide +kernel
theorem dX6_onNow_22 : decode cX6_onNow 22 = .ok (.iconst 1, 1) := by decide +kernel
theorem dX6_onNow_23 : decode cX6_onNow 23 = .ok (.iload_n 2, 1) := by decide +kernel
theorem dX6_onNow_24 : decode cX6_onNow 24 = .ok (.ishl, 1) := by decide +kernel
theorem dX6_onNow_25 : decode cX6_onNow 25 = .ok (.goto 4, 3) := by decide +kernel
theorem dX6_onNow_28 : decode cX6_onNow 28 = .ok (.iconst 0, 1) := by decide +kernel
theorem dX6_onNow_29 : decode cX6_onNow 29 = .ok (.ior, 1) := by decide +kernel
theorem dX6_onNow_30 : decode cX6_onNow 30 = .ok (.istore_n 1, 1) := by decide +kernel
theorem dX6_onNow_31 : decode cX6_onNow 31 = .ok (.iinc 2 1, 3) := by decide +kernel
theorem dX6_onNow_34 : decode cX6_onNow 34 = .ok (.goto (-30), 3) := by decide +kernel
theorem dX6_onNow_37 : decode cX6_onNow 37 = .ok (.iload_n 1, 1) := by decide +kernel
theorem dX6_onNow_38 : decode cX6_onNow 38 = .ok (.ireturn, 1) := by decide +kernel
theorem dX6_on_0 : decode cX6_on 0 = .ok (.aload_n 0, 1) := by decide +kernel
theorem dX6_on_1 : decode cX6_on 1 = .ok (.iload_n 1, 1) := by decide +kernel
theorem dX6_on_2 : decode cX6_on 2 = .ok (.invokevirtual 79, 3) := by decide +kernel
theorem dX6_on_5 : decode cX6_on 5 = .ok (.ifCond .ne 6, 3) := by decide +kernel
theorem dX6_on_8 : decode cX6_on 8 = .ok (.bipush (-2), 2) := by decide +kernel
theorem dX6_on_10 : decode cX6_on 10 = .ok (.ireturn, 1) := by decide +kernel
theorem dX6_on_11 : decode cX6_on 11 = .ok (.aload_n 0, 1) := by decide +kernel
theorem dX6_on_12 : decode cX6_on 12 = .ok (.getfield 26, 3) := by decide +kernel
theorem dX6_on_15 : decode cX6_on 15 = .ok (.iload_n 1, 1) := by decide +kernel
theorem dX6_on_16 : decode cX6_on 16 = .ok (.aload_n 0, 1) := by decide +kernel
theorem dX6_on_17 : decode cX6_on 17 = .ok (.getfield 26, 3) := by decide +kernel
theorem dX6_on_20 : decode cX6_on 20 = .ok (.iload_n 1, 1) := by decide +kernel
theorem dX6_on_21 : decode cX6_on 21 = .ok (.baload, 1) := by decide +kernel
theorem dX6_on_22 : decode cX6_on 22 = .ok (.ifCond .ne 7, 3) := by decide +kernel
theorem dX6_on_25 : decode cX6_on 25 = .ok (.iconst 1, 1) := by decide +kernel
theorem dX6_on_26 : decode cX6_on 26 = .ok (.goto 4, 3) := by decide +kernel
theorem dX6_on_29 : decode cX6_on 29 = .ok (.iconst 0, 1) := by decide +kernel
theorem dX6_on_30 : decode cX6_on 30 = .ok (.bastore, 1) := by decide +kernel
theorem dX6_on_31 : decode cX6_on 31 = .ok (.aload_n 0, 1) := by decide +kernel
theorem dX6_on_32 : decode cX6_on 32 = .ok (.invokevirtual 94, 3) := by decide +kernel
theorem dX6_on_35 : decode cX6_on 35 = .ok (.ireturn, 1) := by decide +kernel
theorem dX6_power_0 : decode cX6_power 0 = .ok (.aload_n 0, 1) := by decide +kernel
theorem dX6_power_1 : decode cX6_power 1 = .ok (.iload_n 1, 1) := by decide +kernel
theorem dX6_power_2 : decode cX6_power 2 = .ok (.invokevirtual 79, 3) := by decide +kernel
theorem dX6_power_5 : decode cX6_power 5 = .ok (.ifCond .eq 14, 3) := by decide +kernel
theorem dX6_power_8 : decode cX6_power 8 = .ok (.iload_n 2, 1) := by decide +kernel
theorem dX6_power_9 : decode cX6_power 9 = .ok (.iconst 0, 1) := by decide +kernel
theorem dX6_power_10 : decode cX6_power 10 = .ok (.sipush 999, 3) := by decide +kernel
theorem dX6_power_13 : decode cX6_power 13 = .ok (.invokestatic 75, 3) := by decide +kernel
theorem dX6_power_16 : decode cX6_power 16 = .ok (.ifCond .ne 6, 3) := by decide +kernel
theorem dX6_power_19 : decode cX6_power 19 = .ok (.bipush (-2), 2) := by decide +kernel
theorem dX6_power_21 : decode cX6_power 21 = .ok (.ireturn, 1) := by decide +kernel
theorem dX6_power_22 : decode cX6_power 22 = .ok (.aload_n 0, 1) := by decide +kernel
theorem dX6_power_23 : decode cX6_power 23 = .ok (.getfield 30, 3) := by decide +kernel
theorem dX6_power_26 : decode cX6_power 26 = .ok (.iload_n 1, 1) := by decide +kernel
theorem dX6_power_27 : decode cX6_power 27 = .ok (.iaload, 1) := by decide +kernel
theorem dX6_power_28 : decode cX6_power 28 = .ok (.istore_n 3, 1) := by decide +kernel
theorem dX6_power_29 : decode cX6_power 29 = .ok (.aload_n 0, 1) := by decide +kernel
theorem dX6_power_30 : decode cX6_power 30 = .ok (.getfield 30, 3) := by decide +kernel
theorem dX6_power_33 : decode cX6_power 33 = .ok (.iload_n 1, 1) := by decide +kernel
theorem dX6_power_34 : decode cX6_power 34 = .ok (.iload_n 2, 1) := by decide +kernel
theorem dX6_power_35 : decode cX6_power 35 = .ok (.iastore, 1) := by decide +kernel
theorem dX6_power_36 : decode cX6_power 36 = .ok (.iload_n 3, 1) := by decide +kernel
theorem dX6_power_37 : decode cX6_power 37 = .ok (.ireturn, 1) := by decide +kernel
theorem dX6_rule_0 : decode cX6_rule 0 = .ok (.iload_n 1, 1) := by decide +kernel
theorem dX6_rule_1 : decode cX6_rule 1 = .ok (.iconst 0, 1) := by decide +kernel
theorem dX6_rule_2 : decode cX6_rule 2 = .ok (.iconst 2, 1) := by decide +kernel
theorem dX6_rule_3 : decode cX6_rule 3 = .ok (.invokestatic 75, 3) := by decide +kernel
theorem dX6_rule_6 : decode cX6_rule 6 = .ok (.ifCond .ne 6, 3) := by decide +kernel
theorem dX6_rule_9 : decode cX6_rule 9 = .ok (.bipush (-2), 2) := by decide +kernel
theorem dX6_rule_11 : decode cX6_rule 11 = .ok (.ireturn, 1) := by decide +kernel
theorem dX6_rule_12 : decode cX6_rule 12 = .ok (.aload_n 0, 1) := by decide +kernel
theorem dX6_rule_13 : decode cX6_rule 13 = .ok (.getfield 98, 3) := by decide +kernel
theorem dX6_rule_16 : decode cX6_rule 16 = .ok (.istore_n 2, 1) := by decide +kernel
theorem dX6_rule_17 : decode cX6_rule 17 = .ok (.aload_n 0, 1) := by decide +kernel
theorem dX6_rule_18 : decode cX6_rule 18 = .ok (.iload_n 1, 1) := by decide +kernel
theorem dX6_rule_19 : decode cX6_rule 19 = .ok (.putfield 98, 3) := by decide +kernel
theorem dX6_rule_22 : decode cX6_rule 22 = .ok (.iload_n 2, 1) := by decide +kernel
theorem dX6_rule_23 : decode cX6_rule 23 = .ok (.ireturn, 1) := by decide +kernel
theorem dX6_type_0 : decode cX6_type 0 = .ok (.iload_n 1, 1) := by decide +kernel
theorem dX6_type_1 : decode cX6_type 1 = .ok (.iconst 0, 1) := by decide +kernel
theorem dX6_type_2 : decode cX6_type 2 = .ok (.sipush 255, 3) := by decide +kernel
theorem dX6_type_5 : decode cX6_type 5 = .ok (.invokestatic 75, 3) := by decide +kernel
theorem dX6_type_8 : decode cX6_type 8 = .ok (.ifCond .ne 6, 3) := by decide +kernel
theorem dX6_type_11 : decode cX6_type 11 = .ok (.bipush (-2), 2) := by decide +kernel
theorem dX6_type_13 : decode cX6_type 13 = .ok (.ireturn, 1) := by decide +kernel
theorem dX6_type_14 : decode cX6_type 14 = .ok (.aload_n 0, 1) := by decide +kernel
theorem dX6_type_15 : decode cX6_type 15 = .ok (.getfield 101, 3) := by decide +kernel
theorem dX6_type_18 : decode cX6_type 18 = .ok (.bipush 12, 2) := by decide +kernel
theorem dX6_type_20 : decode cX6_type 20 = .ok (.if_icmp .ne 6, 3) := by decide +kernel
theorem dX6_type_23 : decode cX6_type 23 = .ok (.bipush (-4), 2) := by decide +kernel
theorem dX6_type_25 : decode cX6_type 25 = .ok (.ireturn, 1) := by decide +kernel
theorem dX6_type_26 : decode cX6_type 26 = .ok (.aload_n 0, 1) := by decide +kernel
theorem dX6_type_27 : decode cX6_type 27 = .ok (.getfield 33, 3) := by decide +kernel
theorem dX6_type_30 : decode cX6_type 30 = .ok (.aload_n 0, 1) := by decide +kernel
theorem dX6_type_31 : decode cX6_type 31 = .ok (.getfield 101, 3) := by decide +kernel
theorem dX6_type_34 : decode cX6_type 34 = .ok (.iload_n 1, 1) := by decide +kernel
theorem dX6_type_35 : decode cX6_type 35 = .ok (.iastore, 1) := by decide +kernel
theorem dX6_type_36 : decode cX6_type 36 = .ok (.aload_n 0, 1) := by decide +kernel
theorem dX6_type_37 : decode cX6_type 37 = .ok (.dup, 1) := by decide +kernel
theorem dX6_type_38 : decode cX6_type 38 = .ok (.getfield 101, 3) := by decide +kernel
theorem dX6_type_41 : decode cX6_type 41 = .ok (.iconst 1, 1) := by decide +kernel
theorem dX6_type_42 : decode cX6_type 42 = .ok (.iadd, 1) := by decide +kernel
theorem dX6_type_43 : decode cX6_type 43 = .ok (.putfield 101, 3) := by decide +kernel
theorem dX6_type_46 : decode cX6_type 46 = .ok (.aload_n 0, 1) := by decide +kernel
theorem dX6_type_47 : decode cX6_type 47 = .ok (.getfield 101, 3) := by decide +kernel
theorem dX6_type_50 : decode cX6_type 50 = .ok (.ireturn, 1) := by decide +kernel
theorem dX6_wipe_0 : decode cX6_wipe 0 = .ok (.aload_n 0, 1) := by decide +kernel
theorem dX6_wipe_1 : decode cX6_wipe 1 = .ok (.getfield 101, 3) := by decide +kernel
theorem dX6_wipe_4 : decode cX6_wipe 4 = .ok (.istore_n 1, 1) := by decide +kernel
theorem dX6_wipe_5 : decode cX6_wipe 5 = .ok (.aload_n 0, 1) := by decide +kernel
theorem dX6_wipe_6 : decode cX6_wipe 6 = .ok (.iconst 0, 1) := by decide +kernel
theorem dX6_wipe_7 : decode cX6_wipe 7 = .ok (.putfield 101, 3) := by decide +kernel
theorem dX6_wipe_10 : decode cX6_wipe 10 = .ok (.iload_n 1, 1) := by decide +kernel
theorem dX6_wipe_11 : decode cX6_wipe 11 = .ok (.ireturn, 1) := by decide +kernel
theorem dX6_fault_0 : decode cX6_fault 0 = .ok (.iconst (-1), 1) := by decide +kernel
theorem dX6_fault_1 : decode cX6_fault 1 = .ok (.istore_n 1, 1) := by decide +kernel
theorem dX6_fault_2 : decode cX6_fault 2 = .ok (.aload_n 0, 1) := by decide +kernel
theorem dX6_fault_3 : decode cX6_fault 3 = .ok (.getfield 101, 3) := by decide +kernel
theorem dX6_fault_6 : decode cX6_fault 6 = .ok (.iconst 1, 1) := by decide +kernel
theorem dX6_fault_7 : decode cX6_fault 7 = .ok (.isub, 1) := by decide +kernel
theorem dX6_fault_8 : decode cX6_fault 8 = .ok (.istore_n 2, 1) := by decide +kernel
theorem dX6_fault_9 : decode cX6_fault 9 = .ok (.iload_n 2, 1) := by decide +kernel
theorem dX6_fault_10 : decode cX6_fault 10 = .ok (.ifCond .lt 31, 3) := by decide +kernel
theorem dX6_fault_13 : decode cX6_fault 13 = .ok (.aload_n 0, 1) := by decide +kernel
theorem dX6_fault_14 : decode cX6_fault 14 = .ok (.aload_n 0, 1) := by decide +kernel
theorem dX6_fault_15 : decode cX6_fault 15 = .ok (.getfield 33, 3) := by decide +kernel
theorem dX6_fault_18 : decode cX6_fault 18 = .ok (.iload_n 2, 1) := by decide +kernel
theorem dX6_fault_19 : decode cX6_fault 19 = .ok (.iaload, 1) := by decide +kernel
theorem dX6_fault_20 : decode cX6_fault 20 = .ok (.bipush 97, 2) := by decide +kernel
theorem dX6_fault_22 : decode cX6_fault 22 = .ok (.isub, 1) := by decide +kernel
theorem dX6_fault_23 : decode cX6_fault 23 = .ok (.invokevirtual 79, 3) := by decide +kernel
theorem dX6_fault_26 : decode cX6_fault 26 = .ok (.ifCond .eq 7, 3) := by decide +kernel
theorem dX6_fault_29 : decode cX6_fault 29 = .ok (.iload_n 1, 1) := by decide +kernel
theorem dX6_fault_30 : decode cX6_fault 30 = .ok (.goto 4, 3) := by decide +kernel
theorem dX6_fault_33 : decode cX6_fault 33 = .ok (.iload_n 2, 1) := by decide +kernel
theorem dX6_fault_34 : decode cX6_fault 34 = .ok (.istore_n 1, 1) := by decide +kernel
theorem dX6_fault_35 : decode cX6_fault 35 = .ok (.iinc 2 (-1), 3) := by decide +kernel
theorem dX6_fault_38 : decode cX6_fault 38 = .ok (.goto (-29), 3) := by decide +kernel
theorem dX6_fault_41 : decode cX6_fault 41 = .ok (.iload_n 1, 1) := by decide +kernel
theorem dX6_fault_42 : decode cX6_fault 42 = .ok (.ireturn, 1) := by decide +kernel
theorem dX6_read_0 : decode cX6_read 0 = .ok (.iload_n 1, 1) := by decide +kernel
theorem dX6_read_1 : decode cX6_read 1 = .ok (.invokestatic 104, 3) := by decide +kernel
theorem dX6_read_4 : decode cX6_read 4 = .ok (.ifCond .ne 6, 3) := by decide +kernel
theorem dX6_read_7 : decode cX6_read 7 = .ok (.bipush (-2), 2) := by decide +kernel
theorem dX6_read_9 : decode cX6_read 9 = .ok (.ireturn, 1) := by decide +kernel
theorem dX6_read_10 : decode cX6_read 10 = .ok (.aload_n 0, 1) := by decide +kernel
theorem dX6_read_11 : decode cX6_read 11 = .ok (.getfield 58, 3) := by decide +kernel
theorem dX6_read_14 : decode cX6_read 14 = .ok (.iload_n 1, 1) := by decide +kernel
theorem dX6_read_15 : decode cX6_read 15 = .ok (.baload, 1) := by decide +kernel
theorem dX6_read_16 : decode cX6_read 16 = .ok (.ifCond .ne 9, 3) := by decide +kernel
theorem dX6_read_19 : decode cX6_read 19 = .ok (.aload_n 0, 1) := by decide +kernel
theorem dX6_read_20 : decode cX6_read 20 = .ok (.iconst 1, 1) := by decide +kernel
theorem dX6_read_21 : decode cX6_read 21 = .ok (.invokevirtual 107, 3) := by decide +kernel
theorem dX6_read_24 : decode cX6_read 24 = .ok (.ireturn, 1) := by decide +kernel
theorem dX6_read_25 : decode cX6_read 25 = .ok (.iconst 0, 1) := by decide +kernel
theorem dX6_read_26 : decode cX6_read 26 = .ok (.istore_n 2, 1) := by decide +kernel
theorem dX6_read_27 : decode cX6_read 27 = .ok (.iload_n 2, 1) := by decide +kernel
theorem dX6_read_28 : decode cX6_read 28 = .ok (.aload_n 0, 1) := by decide +kernel
theorem dX6_read_29 : decode cX6_read 29 = .ok (.getfield 64, 3) := by decide +kernel
theorem dX6_read_32 : decode cX6_read 32 = .ok (.iload_n 1, 1) := by decide +kernel
theorem dX6_read_33 : decode cX6_read 33 = .ok (.iaload, 1) := by decide +kernel
theorem dX6_read_34 : decode cX6_read 34 = .ok (.if_icmp .ge 82, 3) := by decide +kernel
theorem dX6_read_37 : decode cX6_read 37 = .ok (.iload_n 2, 1) := by decide +kernel
theorem dX6_read_38 : decode cX6_read 38 = .ok (.aload_n 0, 1) := by decide +kernel
theorem dX6_read_39 : decode cX6_read 39 = .ok (.getfield 7, 3) := by decide +kernel
theorem dX6_read_42 : decode cX6_read 42 = .ok (.aload_n 0, 1) := by decide +kernel
theorem dX6_read_43 : decode cX6_read 43 = .ok (.getfield 7, 3) := by decide +kernel
theorem dX6_read_46 : decode cX6_read 46 = .ok (.imul, 1) := by decide +kernel
theorem dX6_read_47 : decode cX6_read 47 = .ok (.if_icmp .ge 69, 3) := by decide +kernel
theorem dX6_read_50 : decode cX6_read 50 = .ok (.iload_n 2, 1) := by decide +kernel
theorem dX6_read_51 : decode cX6_read 51 = .ok (.aload_n 0, 1) := by decide +kernel
theorem dX6_read_52 : decode cX6_read 52 = .ok (.getfield 7, 3) := by decide +kernel
theorem dX6_read_55 : decode cX6_read 55 = .ok (.idiv, 1) := by decide +kernel
theorem dX6_read_56 : decode cX6_read 56 = .ok (.iload_n 2, 1) := by decide +kernel
theorem dX6_read_57 : decode cX6_read 57 = .ok (.aload_n 0, 1) := by decide +kernel
theorem dX6_read_58 : decode cX6_read 58 = .ok (.getfield 7, 3) := by decide +kernel
theorem dX6_read_61 : decode cX6_read 61 = .ok (.irem, 1) := by decide +kernel
theorem dX6_read_62 : decode cX6_read 62 = .ok (.aload_n 0, 1) := by decide +kernel
theorem dX6_read_63 : decode cX6_read 63 = .ok (.getfield 67, 3) := by decide +kernel
theorem dX6_read_66 : decode cX6_read 66 = .ok (.bipush 60, 2) := by decide +kernel
theorem dX6_read_68 : decode cX6_read 68 = .ok (.iload_n 1, 1) := by decide +kernel
theorem dX6_read_69 : decode cX6_read 69 = .ok (.imul, 1) := by decide +kernel
theorem dX6_read_70 : decode cX6_read 70 = .ok (.iload_n 2, 1) := by decide +kernel
theorem dX6_read_71 : decode cX6_read 71 = .ok (.iadd, 1) := by decide +kernel
theorem dX6_read_72 : decode cX6_read 72 = .ok (.iaload, 1) := by decide +kernel
theorem dX6_read_73 : decode cX6_read 73 = .ok (.invokestatic 83, 3) := by decide +kernel
theorem dX6_read_76 : decode cX6_read 76 = .ok (.ifCond .eq 40, 3) := by decide +kernel
theorem dX6_read_79 : decode cX6_read 79 = .ok (.aload_n 0, 1) := by decide +kernel
theorem dX6_read_80 : decode cX6_read 80 = .ok (.getfield 13, 3) := by decide +kernel
theorem dX6_read_83 : decode cX6_read 83 = .ok (.iconst 5, 1) := by decide +kernel
theorem dX6_read_84 : decode cX6_read 84 = .ok (.iload_n 2, 1) := by decide +kernel
theorem dX6_read_85 : decode cX6_read 85 = .ok (.aload_n 0, 1) := by decide +kernel
theorem dX6_read_86 : decode cX6_read 86 = .ok (.getfield 7, 3) := by decide +kernel
theorem dX6_read_89 : decode cX6_read 89 = .ok (.idiv, 1) := by decide +kernel
theorem dX6_read_90 : decode cX6_read 90 = .ok (.imul, 1) := by decide +kernel
theorem dX6_read_91 : decode cX6_read 91 = .ok (.iload_n 2, 1) := by decide +kernel
theorem dX6_read_92 : decode cX6_read 92 = .ok (.aload_n 0, 1) := by decide +kernel
theorem dX6_read_93 : decode cX6_read 93 = .ok (.getfield 7, 3) := by decide +kernel
theorem dX6_read_96 : decode cX6_read 96 = .ok (.irem, 1) := by decide +kernel
theorem dX6_read_97 : decode cX6_read 97 = .ok (.iadd, 1) := by decide +kernel
theorem dX6_read_98 : decode cX6_read 98 = .ok (.aload_n 0, 1) := by decide +kernel
theorem dX6_read_99 : decode cX6_read 99 = .ok (.getfield 67, 3) := by decide +kernel
theorem dX6_read_102 : decode cX6_read 102 = .ok (.bipush 60, 2) := by decide +kernel
theorem dX6_read_104 : decode cX6_read 104 = .ok (.iload_n 1, 1) := by decide +kernel
theorem dX6_read_105 : decode cX6_read 105 = .ok (.imul, 1) := by decide +kernel
theorem dX6_read_106 : decode cX6_read 106 = .ok (.iload_n 2, 1) := by decide +kernel
theorem dX6_read_107 : decode cX6_read 107 = .ok (.iadd, 1) := by decide +kernel
theorem dX6_read_108 : decode cX6_read 108 = .ok (.iaload, 1) := by decide +kernel
theorem dX6_read_109 : decode cX6_read 109 = .ok (.iastore, 1) := by decide +kernel
theorem dX6_read_110 : decode cX6_read 110 = .ok (.iinc 2 1, 3) := by decide +kernel
theorem dX6_read_113 : decode cX6_read 113 = .ok (.goto (-86), 3) := by decide +kernel
theorem dX6_read_116 : decode cX6_read 116 = .ok (.iload_n 2, 1) := by decide +kernel
theorem dX6_read_117 : decode cX6_read 117 = .ok (.ireturn, 1) := by decide +kernel
theorem dX6_heardBy_0 : decode cX6_heardBy 0 = .ok (.aload_n 0, 1) := by decide +kernel
theorem dX6_heardBy_1 : decode cX6_heardBy 1 = .ok (.getfield 20, 3) := by decide +kernel
theorem dX6_heardBy_4 : decode cX6_heardBy 4 = .ok (.iload_n 1, 1) := by decide +kernel
theorem dX6_heardBy_5 : decode cX6_heardBy 5 = .ok (.iaload, 1) := by decide +kernel
theorem dX6_heardBy_6 : decode cX6_heardBy 6 = .ok (.istore_n 2, 1) := by decide +kernel
theorem dX6_heardBy_7 : decode cX6_heardBy 7 = .ok (.iconst 0, 1) := by decide +kernel
theorem dX6_heardBy_8 : decode cX6_heardBy 8 = .ok (.istore_n 3, 1) := by decide +kernel
theorem dX6_heardBy_9 : decode cX6_heardBy 9 = .ok (.iload_n 3, 1) := by decide +kernel
theorem dX6_heardBy_10 : decode cX6_heardBy 10 = .ok (.aload_n 0, 1) := by decide +kernel
theorem dX6_heardBy_11 : decode cX6_heardBy 11 = .ok (.getfield 7, 3) := by decide +kernel
theorem dX6_heardBy_14 : decode cX6_heardBy 14 = .ok (.if_icmp .ge 47, 3) := by decide +kernel
theorem dX6_heardBy_17 : decode cX6_heardBy 17 = .ok (.iload_n 2, 1) := by decide +kernel
theorem dX6_heardBy_18 : decode cX6_heardBy 18 = .ok (.iload_n 3, 1) := by decide +kernel
theorem dX6_heardBy_19 : decode cX6_heardBy 19 = .ok (.iload_n 1, 1) := by decide +kernel
theorem dX6_heardBy_20 : decode cX6_heardBy 20 = .ok (.if_icmp .eq 32, 3) := by decide +kernel
theorem dX6_heardBy_23 : decode cX6_heardBy 23 = .ok (.aload_n 0, 1) := by decide +kernel
theorem dX6_heardBy_24 : decode cX6_heardBy 24 = .ok (.getfield 26, 3) := by decide +kernel
theorem dX6_heardBy_27 : decode cX6_heardBy 27 = .ok (.iload_n 3, 1) := by decide +kernel
theorem dX6_heardBy_28 : decode cX6_heardBy 28 = .ok (.baload, 1) := by decide +kernel
theorem dX6_heardBy_29 : decode cX6_heardBy 29 = .ok (.ifCond .eq 23, 3) := by decide +kernel
theorem dX6_heardBy_32 : decode cX6_heardBy 32 = .ok (.aload_n 0, 1) := by decide +kernel
theorem dX6_heardBy_33 : decode cX6_heardBy 33 = .ok (.getfield 13, 3) := by decide +kernel
theorem dX6_heardBy_36 : decode cX6_heardBy 36 = .ok (.iconst 5, 1) := by decide +kernel
theorem dX6_heardBy_37 : decode cX6_heardBy 37 = .ok (.iload_n 1, 1) := by decide +kernel
theorem dX6_heardBy_38 : decode cX6_heardBy 38 = .ok (.imul, 1) := by decide +kernel
theorem dX6_heardBy_39 : decode cX6_heardBy 39 = .ok (.iload_n 3, 1) := by decide +kernel
theorem dX6_heardBy_40 : decode cX6_heardBy 40 = .ok (.iadd, 1) := by decide +kernel
theorem dX6_heardBy_41 : decode cX6_heardBy 41 = .ok (.iaload, 1) := by decide +kernel
theorem dX6_heardBy_42 : decode cX6_heardBy 42 = .ok (.aload_n 0, 1) := by decide +kernel
theorem dX6_heardBy_43 : decode cX6_heardBy 43 = .ok (.getfield 49, 3) := by decide +kernel
theorem dX6_heardBy_46 : decode cX6_heardBy 46 = .ok (.iload_n 3, 1) := by decide +kernel
theorem dX6_heardBy_47 : decode cX6_heardBy 47 = .ok (.iaload, 1) := by decide +kernel
theorem dX6_heardBy_48 : decode cX6_heardBy 48 = .ok (.imul, 1) := by decide +kernel
theorem dX6_heardBy_49 : decode cX6_heardBy 49 = .ok (.goto 4, 3) := by decide +kernel
theorem dX6_heardBy_52 : decode cX6_heardBy 52 = .ok (.iconst 0, 1) := by decide +kernel
theorem dX6_heardBy_53 : decode cX6_heardBy 53 = .ok (.iadd, 1) := by decide +kernel
theorem dX6_heardBy_54 : decode cX6_heardBy 54 = .ok (.istore_n 2, 1) := by decide +kernel
theorem dX6_heardBy_55 : decode cX6_heardBy 55 = .ok (.iinc 3 1, 3) := by decide +kernel
theorem dX6_heardBy_58 : decode cX6_heardBy 58 = .ok (.goto (-49), 3) := by decide +kernel
theorem dX6_heardBy_61 : decode cX6_heardBy 61 = .ok (.iload_n 2, 1) := by decide +kernel
theorem dX6_heardBy_62 : decode cX6_heardBy 62 = .ok (.ireturn, 1) := by decide +kernel
theorem dX6_triesNow_0 : decode cX6_triesNow 0 = .ok (.iconst 0, 1) := by decide +kernel
theorem dX6_triesNow_1 : decode cX6_triesNow 1 = .ok (.istore_n 1, 1) := by decide +kernel
theorem dX6_triesNow_2 : decode cX6_triesNow 2 = .ok (.iload_n 1, 1) := by decide +kernel
theorem dX6_triesNow_3 : decode cX6_triesNow 3 = .ok (.iconst 5, 1) := by decide +kernel
theorem dX6_triesNow_4 : decode cX6_triesNow 4 = .ok (.if_icmp .ge 21, 3) := by decide +kernel
theorem dX6_triesNow_7 : decode cX6_triesNow 7 = .ok (.aload_n 0, 1) := by decide +kernel
theorem dX6_triesNow_8 : decode cX6_triesNow 8 = .ok (.getfield 49, 3) := by decide +kernel
theorem dX6_triesNow_11 : decode cX6_triesNow 11 = .ok (.iload_n 1, 1) := by decide +kernel
theorem dX6_triesNow_12 : decode cX6_triesNow 12 = .ok (.aload_n 0, 1) := by decide +kernel
theorem dX6_triesNow_13 : decode cX6_triesNow 13 = .ok (.getfield 30, 3) := by decide +kernel
theorem dX6_triesNow_16 : decode cX6_triesNow 16 = .ok (.iload_n 1, 1) := by decide +kernel
theorem dX6_triesNow_17 : decode cX6_triesNow 17 = .ok (.iaload, 1) := by decide +kernel
theorem dX6_triesNow_18 : decode cX6_triesNow 18 = .ok (.iastore, 1) := by decide +kernel
theorem dX6_triesNow_19 : decode cX6_triesNow 19 = .ok (.iinc 1 1, 3) := by decide +kernel
theorem dX6_triesNow_22 : decode cX6_triesNow 22 = .ok (.goto (-20), 3) := by decide +kernel
theorem dX6_triesNow_25 : decode cX6_triesNow 25 = .ok (.return_, 1) := by decide +kernel
theorem dX6_needOf_0 : decode cX6_needOf 0 = .ok (.bipush 10, 2) := by decide +kernel
theorem dX6_needOf_2 : decode cX6_needOf 2 = .ok (.aload_n 0, 1) := by decide +kernel
theorem dX6_needOf_3 : decode cX6_needOf 3 = .ok (.getfield 13, 3) := by decide +kernel
theorem dX6_needOf_6 : decode cX6_needOf 6 = .ok (.bipush 6, 2) := by decide +kernel
theorem dX6_needOf_8 : decode cX6_needOf 8 = .ok (.iload_n 1, 1) := by decide +kernel
theorem dX6_needOf_9 : decode cX6_needOf 9 = .ok (.imul, 1) := by decide +kernel
theorem dX6_needOf_10 : decode cX6_needOf 10 = .ok (.iaload, 1) := by decide +kernel
theorem dX6_needOf_11 : decode cX6_needOf 11 = .ok (.imul, 1) := by decide +kernel
theorem dX6_needOf_12 : decode cX6_needOf 12 = .ok (.istore_n 2, 1) := by decide +kernel
theorem dX6_needOf_13 : decode cX6_needOf 13 = .ok (.aload_n 0, 1) := by decide +kernel
theorem dX6_needOf_14 : decode cX6_needOf 14 = .ok (.getfield 17, 3) := by decide +kernel
theorem dX6_needOf_17 : decode cX6_needOf 17 = .ok (.iload_n 1, 1) := by decide +kernel
theorem dX6_needOf_18 : decode cX6_needOf 18 = .ok (.iaload, 1) := by decide +kernel
theorem dX6_needOf_19 : decode cX6_needOf 19 = .ok (.aload_n 0, 1) := by decide +kernel
theorem dX6_needOf_20 : decode cX6_needOf 20 = .ok (.iload_n 1, 1) := by decide +kernel
theorem dX6_needOf_21 : decode cX6_needOf 21 = .ok (.invokevirtual 111, 3) := by decide +kernel
theorem dX6_needOf_24 : decode cX6_needOf 24 = .ok (.imul, 1) := by decide +kernel
theorem dX6_needOf_25 : decode cX6_needOf 25 = .ok (.iload_n 2, 1) := by decide +kernel
theorem dX6_needOf_26 : decode cX6_needOf 26 = .ok (.iadd, 1) := by decide +kernel
theorem dX6_needOf_27 : decode cX6_needOf 27 = .ok (.iconst 1, 1) := by decide +kernel
theorem dX6_needOf_28 : decode cX6_needOf 28 = .ok (.isub, 1) := by decide +kernel
theorem dX6_needOf_29 : decode cX6_needOf 29 = .ok (.iload_n 2, 1) := by decide +kernel
theorem dX6_needOf_30 : decode cX6_needOf 30 = .ok (.idiv, 1) := by decide +kernel
theorem dX6_needOf_31 : decode cX6_needOf 31 = .ok (.ireturn, 1) := by decide +kernel
theorem dX6_hasWish_0 : decode cX6_hasWish 0 = .ok (.aload_n 0, 1) := by decide +kernel
theorem dX6_hasWish_1 : decode cX6_hasWish 1 = .ok (.invokevirtual 114, 3) := by decide +kernel
theorem dX6_hasWish_4 : decode cX6_hasWish 4 = .ok (.aload_n 0, 1) := by decide +kernel
theorem dX6_hasWish_5 : decode cX6_hasWish 5 = .ok (.getfield 26, 3) := by decide +kernel
theorem dX6_hasWish_8 : decode cX6_hasWish 8 = .ok (.iload_n 1, 1) := by decide +kernel
theorem dX6_hasWish_9 : decode cX6_hasWish 9 = .ok (.baload, 1) := by decide +kernel
theorem dX6_hasWish_10 : decode cX6_hasWish 10 = .ok (.ifCond .eq 41, 3) := by decide +kernel
theorem dX6_hasWish_13 : decode cX6_hasWish 13 = .ok (.bipush 10, 2) := by decide +kernel
theorem dX6_hasWish_15 : decode cX6_hasWish 15 = .ok (.aload_n 0, 1) := by decide +kernel
theorem dX6_hasWish_16 : decode cX6_hasWish 16 = .ok (.getfield 13, 3) := by decide +kernel
theorem dX6_hasWish_19 : decode cX6_hasWish 19 = .ok (.bipush 6, 2) := by decide +kernel
theorem dX6_hasWish_21 : decode cX6_hasWish 21 = .ok (.iload_n 1, 1) := by decide +kernel
theorem dX6_hasWish_22 : decode cX6_hasWish 22 = .ok (.imul, 1) := by decide +kernel
theorem dX6_hasWish_23 : decode cX6_hasWish 23 = .ok (.iaload, 1) := by decide +kernel
theorem dX6_hasWish_24 : decode cX6_hasWish 24 = .ok (.imul, 1) := by decide +kernel
theorem dX6_hasWish_25 : decode cX6_hasWish 25 = .ok (.aload_n 0, 1) := by decide +kernel
theorem dX6_hasWish_26 : decode cX6_hasWish 26 = .ok (.getfield 30, 3) := by decide +kernel
theorem dX6_hasWish_29 : decode cX6_hasWish 29 = .ok (.iload_n 1, 1) := by decide +kernel
theorem dX6_hasWish_30 : decode cX6_hasWish 30 = .ok (.iaload, 1) := by decide +kernel
theorem dX6_hasWish_31 : decode cX6_hasWish 31 = .ok (.imul, 1) := by decide +kernel
theorem dX6_hasWish_32 : decode cX6_hasWish 32 = .ok (.aload_n 0, 1) := by decide +kernel
theorem dX6_hasWish_33 : decode cX6_hasWish 33 = .ok (.getfield 17, 3) := by decide +kernel
theorem dX6_hasWish_36 : decode cX6_hasWish 36 = .ok (.iload_n 1, 1) := by decide +kernel
theorem dX6_hasWish_37 : decode cX6_hasWish 37 = .ok (.iaload, 1) := by decide +kernel
theorem dX6_hasWish_38 : decode cX6_hasWish 38 = .ok (.aload_n 0, 1) := by decide +kernel
theorem dX6_hasWish_39 : decode cX6_hasWish 39 = .ok (.iload_n 1, 1) := by decide +kernel
theorem dX6_hasWish_40 : decode cX6_hasWish 40 = .ok (.invokevirtual 111, 3) := by decide +kernel
theorem dX6_hasWish_43 : decode cX6_hasWish 43 = .ok (.imul, 1) := by decide +kernel
theorem dX6_hasWish_44 : decode cX6_hasWish 44 = .ok (.if_icmp .lt 7, 3) := by decide +kernel
theorem dX6_hasWish_47 : decode cX6_hasWish 47 = .ok (.iconst 1, 1) := by decide +kernel
theorem dX6_hasWish_48 : decode cX6_hasWish 48 = .ok (.goto 4, 3) := by decide +kernel
theorem dX6_hasWish_51 : decode cX6_hasWish 51 = .ok (.iconst 0, 1) := by decide +kernel
theorem dX6_hasWish_52 : decode cX6_hasWish 52 = .ok (.ireturn, 1) := by decide +kernel
theorem dX6_infoOf_0 : decode cX6_infoOf 0 = .ok (.aload_n 0, 1) := by decide +kernel
theorem dX6_infoOf_1 : decode cX6_infoOf 1 = .ok (.invokevirtual 114, 3) := by decide +kernel
theorem dX6_infoOf_4 : decode cX6_infoOf 4 = .ok (.iload_n 2, 1) := by decide +kernel
theorem dX6_infoOf_5 : decode cX6_infoOf 5 = .ok (.tableswitch 92 0 6 #[43, 43, 43, 50, 65, 72, 78], 43) := by decide +kernel
theorem dX6_infoOf_48 : decode cX6_infoOf 48 = .ok (.aload_n 0, 1) := by decide +kernel
theorem dX6_infoOf_49 : decode cX6_infoOf 49 = .ok (.iload_n 1, 1) := by decide +kernel
theorem dX6_infoOf_50 : decode cX6_infoOf 50 = .ok (.iload_n 2, 1) := by decide +kernel
theorem dX6_infoOf_51 : decode cX6_infoOf 51 = .ok (.invokevirtual 90, 3) := by decide +kernel
theorem dX6_infoOf_54 : decode cX6_infoOf 54 = .ok (.ireturn, 1) := by decide +kernel
theorem dX6_infoOf_55 : decode cX6_infoOf 55 = .ok (.aload_n 0, 1) := by decide +kernel
theorem dX6_infoOf_56 : decode cX6_infoOf 56 = .ok (.getfield 26, 3) := by decide +kernel
theorem dX6_infoOf_59 : decode cX6_infoOf 59 = .ok (.iload_n 1, 1) := by decide +kernel
theorem dX6_infoOf_60 : decode cX6_infoOf 60 = .ok (.baload, 1) := by decide +kernel
theorem dX6_infoOf_61 : decode cX6_infoOf 61 = .ok (.ifCond .eq 7, 3) := by decide +kernel
theorem dX6_infoOf_64 : decode cX6_infoOf 64 = .ok (.iconst 1, 1) := by decide +kernel
theorem dX6_infoOf_65 : decode cX6_infoOf 65 = .ok (.goto 4, 3) := by decide +kernel
theorem dX6_infoOf_68 : decode cX6_infoOf 68 = .ok (.iconst 0, 1) := by decide +kernel
theorem dX6_infoOf_69 : decode cX6_infoOf 69 = .ok (.ireturn, 1) := by decide +kernel
theorem dX6_infoOf_70 : decode cX6_infoOf 70 = .ok (.aload_n 0, 1) := by decide +kernel
theorem dX6_infoOf_71 : decode cX6_infoOf 71 = .ok (.getfield 30, 3) := by decide +kernel
theorem dX6_infoOf_74 : decode cX6_infoOf 74 = .ok (.iload_n 1, 1) := by decide +kernel
theorem dX6_infoOf_75 : decode cX6_infoOf 75 = .ok (.iaload, 1) := by decide +kernel
theorem dX6_infoOf_76 : decode cX6_infoOf 76 = .ok (.ireturn, 1) := by decide +kernel
theorem dX6_infoOf_77 : decode cX6_infoOf 77 = .ok (.aload_n 0, 1) := by decide +kernel
theorem dX6_infoOf_78 : decode cX6_infoOf 78 = .ok (.iload_n 1, 1) := by decide +kernel
theorem dX6_infoOf_79 : decode cX6_infoOf 79 = .ok (.invokevirtual 117, 3) := by decide +kernel
theorem dX6_infoOf_82 : decode cX6_infoOf 82 = .ok (.ireturn, 1) := by decide +kernel
theorem dX6_infoOf_83 : decode cX6_infoOf 83 = .ok (.aload_n 0, 1) := by decide +kernel
theorem dX6_infoOf_84 : decode cX6_infoOf 84 = .ok (.iload_n 1, 1) := by decide +kernel
theorem dX6_infoOf_85 : decode cX6_infoOf 85 = .ok (.invokevirtual 120, 3) := by decide +kernel
theorem dX6_infoOf_88 : decode cX6_infoOf 88 = .ok (.ifCond .eq 7, 3) := by decide +kernel
theorem dX6_infoOf_91 : decode cX6_infoOf 91 = .ok (.iconst 1, 1) := by decide +kernel
theorem dX6_infoOf_92 : decode cX6_infoOf 92 = .ok (.goto 4, 3) := by decide +kernel
theorem dX6_infoOf_95 : decode cX6_infoOf 95 = .ok (.iconst 0, 1) := by decide +kernel
theorem dX6_infoOf_96 : decode cX6_infoOf 96 = .ok (.ireturn, 1) := by decide +kernel
theorem dX6_infoOf_97 : decode cX6_infoOf 97 = .ok (.aload_n 0, 1) := by decide +kernel
theorem dX6_infoOf_98 : decode cX6_infoOf 98 = .ok (.getfield 13, 3) := by decide +kernel
theorem dX6_infoOf_101 : decode cX6_infoOf 101 = .ok (.bipush 6, 2) := by decide +kernel
theorem dX6_infoOf_103 : decode cX6_infoOf 103 = .ok (.iload_n 1, 1) := by decide +kernel
theorem dX6_infoOf_104 : decode cX6_infoOf 104 = .ok (.imul, 1) := by decide +kernel
theorem dX6_infoOf_105 : decode cX6_infoOf 105 = .ok (.iaload, 1) := by decide +kernel
theorem dX6_infoOf_106 : decode cX6_infoOf 106 = .ok (.ireturn, 1) := by decide +kernel
theorem dX6_info_0 : decode cX6_info 0 = .ok (.aload_n 0, 1) := by decide +kernel
theorem dX6_info_1 : decode cX6_info 1 = .ok (.iload_n 1, 1) := by decide +kernel
theorem dX6_info_2 : decode cX6_info 2 = .ok (.invokevirtual 79, 3) := by decide +kernel
theorem dX6_info_5 : decode cX6_info 5 = .ok (.ifCond .eq 22, 3) := by decide +kernel
theorem dX6_info_8 : decode cX6_info 8 = .ok (.iload_n 2, 1) := by decide +kernel
theorem dX6_info_9 : decode cX6_info 9 = .ok (.iconst 0, 1) := by decide +kernel
theorem dX6_info_10 : decode cX6_info 10 = .ok (.bipush 7, 2) := by decide +kernel
theorem dX6_info_12 : decode cX6_info 12 = .ok (.invokestatic 75, 3) := by decide +kernel
theorem dX6_info_15 : decode cX6_info 15 = .ok (.ifCond .eq 12, 3) := by decide +kernel
theorem dX6_info_18 : decode cX6_info 18 = .ok (.aload_n 0, 1) := by decide +kernel
theorem dX6_info_19 : decode cX6_info 19 = .ok (.iload_n 1, 1) := by decide +kernel
theorem dX6_info_20 : decode cX6_info 20 = .ok (.iload_n 2, 1) := by decide +kernel
theorem dX6_info_21 : decode cX6_info 21 = .ok (.invokevirtual 123, 3) := by decide +kernel
theorem dX6_info_24 : decode cX6_info 24 = .ok (.goto 5, 3) := by decide +kernel
theorem dX6_info_27 : decode cX6_info 27 = .ok (.bipush (-2), 2) := by decide +kernel
theorem dX6_info_29 : decode cX6_info 29 = .ok (.ireturn, 1) := by decide +kernel
theorem dX6_heard_0 : decode cX6_heard 0 = .ok (.aload_n 0, 1) := by decide +kernel
theorem dX6_heard_1 : decode cX6_heard 1 = .ok (.iload_n 1, 1) := by decide +kernel
theorem dX6_heard_2 : decode cX6_heard 2 = .ok (.invokevirtual 79, 3) := by decide +kernel
theorem dX6_heard_5 : decode cX6_heard 5 = .ok (.ifCond .eq 24, 3) := by decide +kernel
theorem dX6_heard_8 : decode cX6_heard 8 = .ok (.aload_n 0, 1) := by decide +kernel
theorem dX6_heard_9 : decode cX6_heard 9 = .ok (.iload_n 2, 1) := by decide +kernel
theorem dX6_heard_10 : decode cX6_heard 10 = .ok (.invokevirtual 79, 3) := by decide +kernel
theorem dX6_heard_13 : decode cX6_heard 13 = .ok (.ifCond .eq 16, 3) := by decide +kernel
theorem dX6_heard_16 : decode cX6_heard 16 = .ok (.aload_n 0, 1) := by decide +kernel
theorem dX6_heard_17 : decode cX6_heard 17 = .ok (.getfield 13, 3) := by decide +kernel
theorem dX6_heard_20 : decode cX6_heard 20 = .ok (.iconst 5, 1) := by decide +kernel
theorem dX6_heard_21 : decode cX6_heard 21 = .ok (.iload_n 1, 1) := by decide +kernel
theorem dX6_heard_22 : decode cX6_heard 22 = .ok (.imul, 1) := by decide +kernel
theorem dX6_heard_23 : decode cX6_heard 23 = .ok (.iload_n 2, 1) := by decide +kernel
theorem dX6_heard_24 : decode cX6_heard 24 = .ok (.iadd, 1) := by decide +kernel
theorem dX6_heard_25 : decode cX6_heard 25 = .ok (.iaload, 1) := by decide +kernel
theorem dX6_heard_26 : decode cX6_heard 26 = .ok (.goto 5, 3) := by decide +kernel
theorem dX6_heard_29 : decode cX6_heard 29 = .ok (.bipush (-2), 2) := by decide +kernel
theorem dX6_heard_31 : decode cX6_heard 31 = .ok (.ireturn, 1) := by decide +kernel
theorem dX6_bitsOf_0 : decode cX6_bitsOf 0 = .ok (.iconst 0, 1) := by decide +kernel
theorem dX6_bitsOf_1 : decode cX6_bitsOf 1 = .ok (.istore_n 1, 1) := by decide +kernel
theorem dX6_bitsOf_2 : decode cX6_bitsOf 2 = .ok (.iconst 0, 1) := by decide +kernel
theorem dX6_bitsOf_3 : decode cX6_bitsOf 3 = .ok (.istore_n 2, 1) := by decide +kernel
theorem dX6_bitsOf_4 : decode cX6_bitsOf 4 = .ok (.iload_n 2, 1) := by decide +kernel
theorem dX6_bitsOf_5 : decode cX6_bitsOf 5 = .ok (.iconst 5, 1) := by decide +kernel
theorem dX6_bitsOf_6 : decode cX6_bitsOf 6 = .ok (.if_icmp .ge 17, 3) := by decide +kernel
theorem dX6_bitsOf_9 : decode cX6_bitsOf 9 = .ok (.iload_n 1, 1) := by decide +kernel
theorem dX6_bitsOf_10 : decode cX6_bitsOf 10 = .ok (.iload_n 0, 1) := by decide +kernel
theorem dX6_bitsOf_11 : decode cX6_bitsOf 11 = .ok (.iload_n 2, 1) := by decide +kernel
theorem dX6_bitsOf_12 : decode cX6_bitsOf 12 = .ok (.ishr, 1) := by decide +kernel
theorem dX6_bitsOf_13 : decode cX6_bitsOf 13 = .ok (.iconst 1, 1) := by decide +kernel
theorem dX6_bitsOf_14 : decode cX6_bitsOf 14 = .ok (.iand, 1) := by decide +kernel
theorem dX6_bitsOf_15 : decode cX6_bitsOf 15 = .ok (.iadd, 1) := by decide +kernel
theorem dX6_bitsOf_16 : decode cX6_bitsOf 16 = .ok (.istore_n 1, 1) := by decide +kernel
theorem dX6_bitsOf_17 : decode cX6_bitsOf 17 = .ok (.iinc 2 1, 3) := by decide +kernel
theorem dX6_bitsOf_20 : decode cX6_bitsOf 20 = .ok (.goto (-16), 3) := by decide +kernel
theorem dX6_bitsOf_23 : decode cX6_bitsOf 23 = .ok (.iload_n 1, 1) := by decide +kernel
theorem dX6_bitsOf_24 : decode cX6_bitsOf 24 = .ok (.ireturn, 1) := by decide +kernel
theorem dX6_asksAsTold_0 : decode cX6_asksAsTold 0 = .ok (.aload_n 0, 1) := by decide +kernel
theorem dX6_asksAsTold_1 : decode cX6_asksAsTold 1 = .ok (.iconst 1, 1) := by decide +kernel
theorem dX6_asksAsTold_2 : decode cX6_asksAsTold 2 = .ok (.putfield 46, 3) := by decide +kernel
theorem dX6_asksAsTold_5 : decode cX6_asksAsTold 5 = .ok (.iconst 0, 1) := by decide +kernel
theorem dX6_asksAsTold_6 : decode cX6_asksAsTold 6 = .ok (.istore_n 1, 1) := by decide +kernel
theorem dX6_asksAsTold_7 : decode cX6_asksAsTold 7 = .ok (.iload_n 1, 1) := by decide +kernel
theorem dX6_asksAsTold_8 : decode cX6_asksAsTold 8 = .ok (.iconst 5, 1) := by decide +kernel
theorem dX6_asksAsTold_9 : decode cX6_asksAsTold 9 = .ok (.if_icmp .ge 21, 3) := by decide +kernel
theorem dX6_asksAsTold_12 : decode cX6_asksAsTold 12 = .ok (.aload_n 0, 1) := by decide +kernel
theorem dX6_asksAsTold_13 : decode cX6_asksAsTold 13 = .ok (.getfield 43, 3) := by decide +kernel
theorem dX6_asksAsTold_16 : decode cX6_asksAsTold 16 = .ok (.iload_n 1, 1) := by decide +kernel
theorem dX6_asksAsTold_17 : decode cX6_asksAsTold 17 = .ok (.aload_n 0, 1) := by decide +kernel
theorem dX6_asksAsTold_18 : decode cX6_asksAsTold 18 = .ok (.getfield 17, 3) := by decide +kernel
theorem dX6_asksAsTold_21 : decode cX6_asksAsTold 21 = .ok (.iload_n 1, 1) := by decide +kernel
theorem dX6_asksAsTold_22 : decode cX6_asksAsTold 22 = .ok (.iaload, 1) := by decide +kernel
theorem dX6_asksAsTold_23 : decode cX6_asksAsTold 23 = .ok (.iastore, 1) := by decide +kernel
theorem dX6_asksAsTold_24 : decode cX6_asksAsTold 24 = .ok (.iinc 1 1, 3) := by decide +kernel
theorem dX6_asksAsTold_27 : decode cX6_asksAsTold 27 = .ok (.goto (-20), 3) := by decide +kernel
theorem dX6_asksAsTold_30 : decode cX6_asksAsTold 30 = .ok (.return_, 1) := by decide +kernel
theorem dX6_lays_0 : decode cX6_lays 0 = .ok (.aload_n 0, 1) := by decide +kernel
theorem dX6_lays_1 : decode cX6_lays 1 = .ok (.iconst 0, 1) := by decide +kernel
theorem dX6_lays_2 : decode cX6_lays 2 = .ok (.putfield 126, 3) := by decide +kernel
theorem dX6_lays_5 : decode cX6_lays 5 = .ok (.iconst 0, 1) := by decide +kernel
theorem dX6_lays_6 : decode cX6_lays 6 = .ok (.istore_n 3, 1) := by decide +kernel
theorem dX6_lays_7 : decode cX6_lays 7 = .ok (.iload_n 3, 1) := by decide +kernel
theorem dX6_lays_8 : decode cX6_lays 8 = .ok (.iconst 5, 1) := by decide +kernel
theorem dX6_lays_9 : decode cX6_lays 9 = .ok (.if_icmp .ge 151, 3) := by decide +kernel
theorem dX6_lays_12 : decode cX6_lays 12 = .ok (.iload_n 1, 1) := by decide +kernel
theorem dX6_lays_13 : decode cX6_lays 13 = .ok (.iload_n 3, 1) := by decide +kernel
theorem dX6_lays_14 : decode cX6_lays 14 = .ok (.ishr, 1) := by decide +kernel
theorem dX6_lays_15 : decode cX6_lays 15 = .ok (.iconst 1, 1) := by decide +kernel
theorem dX6_lays_16 : decode cX6_lays 16 = .ok (.iand, 1) := by decide +kernel
theorem dX6_lays_17 : decode cX6_lays 17 = .ok (.iconst 1, 1) := by decide +kernel
theorem dX6_lays_18 : decode cX6_lays 18 = .ok (.if_icmp .ne 136, 3) := by decide +kernel
theorem dX6_lays_21 : decode cX6_lays 21 = .ok (.iconst 0, 1) := by decide +kernel
theorem dX6_lays_22 : decode cX6_lays 22 = .ok (.istore 4, 2) := by decide +kernel
theorem dX6_lays_24 : decode cX6_lays 24 = .ok (.iconst 0, 1) := by decide +kernel
theorem dX6_lays_25 : decode cX6_lays 25 = .ok (.istore 5, 2) := by decide +kernel
theorem dX6_lays_27 : decode cX6_lays 27 = .ok (.iload 5, 2) := by decide +kernel
theorem dX6_lays_29 : decode cX6_lays 29 = .ok (.iconst 5, 1) := by decide +kernel
theorem dX6_lays_30 : decode cX6_lays 30 = .ok (.if_icmp .ge 114, 3) := by decide +kernel
theorem dX6_lays_33 : decode cX6_lays 33 = .ok (.iload_n 1, 1) := by decide +kernel
theorem dX6_lays_34 : decode cX6_lays 34 = .ok (.iload 5, 2) := by decide +kernel
theorem dX6_lays_36 : decode cX6_lays 36 = .ok (.ishr, 1) := by decide +kernel
theorem dX6_lays_37 : decode cX6_lays 37 = .ok (.iconst 1, 1) := by decide +kernel
theorem dX6_lays_38 : decode cX6_lays 38 = .ok (.iand, 1) := by decide +kernel
theorem dX6_lays_39 : decode cX6_lays 39 = .ok (.iconst 1, 1) := by decide +kernel
theorem dX6_lays_40 : decode cX6_lays 40 = .ok (.if_icmp .ne 98, 3) := by decide +kernel
theorem dX6_lays_43 : decode cX6_lays 43 = .ok (.iload_n 3, 1) := by decide +kernel
theorem dX6_lays_44 : decode cX6_lays 44 = .ok (.iload 5, 2) := by decide +kernel
theorem dX6_lays_46 : decode cX6_lays 46 = .ok (.if_icmp .ne 26, 3) := by decide +kernel
theorem dX6_lays_49 : decode cX6_lays 49 = .ok (.ldc2_w 129, 3) := by decide +kernel
theorem dX6_lays_52 : decode cX6_lays 52 = .ok (.aload_n 0, 1) := by decide +kernel
theorem dX6_lays_53 : decode cX6_lays 53 = .ok (.getfield 46, 3) := by decide +kernel
theorem dX6_lays_56 : decode cX6_lays 56 = .ok (.i2l, 1) := by decide +kernel
theorem dX6_lays_57 : decode cX6_lays 57 = .ok (.lmul, 1) := by decide +kernel
theorem dX6_lays_58 : decode cX6_lays 58 = .ok (.aload_n 0, 1) := by decide +kernel
theorem dX6_lays_59 : decode cX6_lays 59 = .ok (.getfield 13, 3) := by decide +kernel
theorem dX6_lays_62 : decode cX6_lays 62 = .ok (.bipush 6, 2) := by decide +kernel
theorem dX6_lays_64 : decode cX6_lays 64 = .ok (.iload_n 3, 1) := by decide +kernel
theorem dX6_lays_65 : decode cX6_lays 65 = .ok (.imul, 1) := by decide +kernel
theorem dX6_lays_66 : decode cX6_lays 66 = .ok (.iaload, 1) := by decide +kernel
theorem dX6_lays_67 : decode cX6_lays 67 = .ok (.i2l, 1) := by decide +kernel
theorem dX6_lays_68 : decode cX6_lays 68 = .ok (.lmul, 1) := by decide +kernel
theorem dX6_lays_69 : decode cX6_lays 69 = .ok (.goto 24, 3) := by decide +kernel
theorem dX6_lays_72 : decode cX6_lays 72 = .ok (.aload_n 0, 1) := by decide +kernel
theorem dX6_lays_73 : decode cX6_lays 73 = .ok (.getfield 43, 3) := by decide +kernel
theorem dX6_lays_76 : decode cX6_lays 76 = .ok (.iload_n 3, 1) := by decide +kernel
theorem dX6_lays_77 : decode cX6_lays 77 = .ok (.iaload, 1) := by decide +kernel
theorem dX6_lays_78 : decode cX6_lays 78 = .ok (.i2l, 1) := by decide +kernel
theorem dX6_lays_79 : decode cX6_lays 79 = .ok (.lneg, 1) := by decide +kernel
theorem dX6_lays_80 : decode cX6_lays 80 = .ok (.aload_n 0, 1) := by decide +kernel
theorem dX6_lays_81 : decode cX6_lays 81 = .ok (.getfield 13, 3) := by decide +kernel
theorem dX6_lays_84 : decode cX6_lays 84 = .ok (.iconst 5, 1) := by decide +kernel
theorem dX6_lays_85 : decode cX6_lays 85 = .ok (.iload_n 3, 1) := by decide +kernel
theorem dX6_lays_86 : decode cX6_lays 86 = .ok (.imul, 1) := by decide +kernel
theorem dX6_lays_87 : decode cX6_lays 87 = .ok (.iload 5, 2) := by decide +kernel
theorem dX6_lays_89 : decode cX6_lays 89 = .ok (.iadd, 1) := by decide +kernel
theorem dX6_lays_90 : decode cX6_lays 90 = .ok (.iaload, 1) := by decide +kernel
theorem dX6_lays_91 : decode cX6_lays 91 = .ok (.i2l, 1) := by decide +kernel
theorem dX6_lays_92 : decode cX6_lays 92 = .ok (.lmul, 1) := by decide +kernel
theorem dX6_lays_93 : decode cX6_lays 93 = .ok (.lstore 6, 2) := by decide +kernel
theorem dX6_lays_95 : decode cX6_lays 95 = .ok (.aload_n 0, 1) := by decide +kernel
theorem dX6_lays_96 : decode cX6_lays 96 = .ok (.getfield 36, 3) := by decide +kernel
theorem dX6_lays_99 : decode cX6_lays 99 = .ok (.iconst 5, 1) := by decide +kernel
theorem dX6_lays_100 : decode cX6_lays 100 = .ok (.aload_n 0, 1) := by decide +kernel
theorem dX6_lays_101 : decode cX6_lays 101 = .ok (.getfield 126, 3) := by decide +kernel
theorem dX6_lays_104 : decode cX6_lays 104 = .ok (.imul, 1) := by decide +kernel
theorem dX6_lays_105 : decode cX6_lays 105 = .ok (.iload 4, 2) := by decide +kernel
theorem dX6_lays_107 : decode cX6_lays 107 = .ok (.iadd, 1) := by decide +kernel
theorem dX6_lays_108 : decode cX6_lays 108 = .ok (.iload 4, 2) := by decide +kernel
theorem dX6_lays_110 : decode cX6_lays 110 = .ok (.iload_n 2, 1) := by decide +kernel
theorem dX6_lays_111 : decode cX6_lays 111 = .ok (.if_icmp .ne 21, 3) := by decide +kernel
theorem dX6_lays_114 : decode cX6_lays 114 = .ok (.aload_n 0, 1) := by decide +kernel
theorem dX6_lays_115 : decode cX6_lays 115 = .ok (.getfield 43, 3) := by decide +kernel
theorem dX6_lays_118 : decode cX6_lays 118 = .ok (.iload_n 3, 1) := by decide +kernel
theorem dX6_lays_119 : decode cX6_lays 119 = .ok (.iaload, 1) := by decide +kernel
theorem dX6_lays_120 : decode cX6_lays 120 = .ok (.i2l, 1) := by decide +kernel
theorem dX6_lays_121 : decode cX6_lays 121 = .ok (.aload_n 0, 1) := by decide +kernel
theorem dX6_lays_122 : decode cX6_lays 122 = .ok (.getfield 20, 3) := by decide +kernel
theorem dX6_lays_125 : decode cX6_lays 125 = .ok (.iload_n 3, 1) := by decide +kernel
theorem dX6_lays_126 : decode cX6_lays 126 = .ok (.iaload, 1) := by decide +kernel
theorem dX6_lays_127 : decode cX6_lays 127 = .ok (.i2l, 1) := by decide +kernel
theorem dX6_lays_128 : decode cX6_lays 128 = .ok (.lmul, 1) := by decide +kernel
theorem dX6_lays_129 : decode cX6_lays 129 = .ok (.goto 5, 3) := by decide +kernel
theorem dX6_lays_132 : decode cX6_lays 132 = .ok (.lload 6, 2) := by decide +kernel
theorem dX6_lays_134 : decode cX6_lays 134 = .ok (.lastore, 1) := by decide +kernel
theorem dX6_lays_135 : decode cX6_lays 135 = .ok (.iinc 4 1, 3) := by decide +kernel
theorem dX6_lays_138 : decode cX6_lays 138 = .ok (.iinc 5 1, 3) := by decide +kernel
theorem dX6_lays_141 : decode cX6_lays 141 = .ok (.goto (-114), 3) := by decide +kernel
theorem dX6_lays_144 : decode cX6_lays 144 = .ok (.aload_n 0, 1) := by decide +kernel
theorem dX6_lays_145 : decode cX6_lays 145 = .ok (.dup, 1) := by decide +kernel
theorem dX6_lays_146 : decode cX6_lays 146 = .ok (.getfield 126, 3) := by decide +kernel
theorem dX6_lays_149 : decode cX6_lays 149 = .ok (.iconst 1, 1) := by decide +kernel
theorem dX6_lays_150 : decode cX6_lays 150 = .ok (.iadd, 1) := by decide +kernel
theorem dX6_lays_151 : decode cX6_lays 151 = .ok (.putfield 126, 3) := by decide +kernel
theorem dX6_lays_154 : decode cX6_lays 154 = .ok (.iinc 3 1, 3) := by decide +kernel
theorem dX6_lays_157 : decode cX6_lays 157 = .ok (.goto (-150), 3) := by decide +kernel
theorem dX6_lays_160 : decode cX6_lays 160 = .ok (.aload_n 0, 1) := by decide +kernel
theorem dX6_lays_161 : decode cX6_lays 161 = .ok (.invokevirtual 131, 3) := by decide +kernel
theorem dX6_lays_164 : decode cX6_lays 164 = .ok (.return_, 1) := by decide +kernel
theorem dX6_determines_0 : decode cX6_determines 0 = .ok (.aload_n 0, 1) := by decide +kernel
theorem dX6_determines_1 : decode cX6_determines 1 = .ok (.getfield 40, 3) := by decide +kernel
theorem dX6_determines_4 : decode cX6_determines 4 = .ok (.iconst 0, 1) := by decide +kernel
theorem dX6_determines_5 : decode cX6_determines 5 = .ok (.lconst 1, 1) := by decide +kernel
theorem dX6_determines_6 : decode cX6_determines 6 = .ok (.lastore, 1) := by decide +kernel
theorem dX6_determines_7 : decode cX6_determines 7 = .ok (.iconst 1, 1) := by decide +kernel
theorem dX6_determines_8 : decode cX6_determines 8 = .ok (.istore_n 1, 1) := by decide +kernel
theorem dX6_determines_9 : decode cX6_determines 9 = .ok (.iload_n 1, 1) := by decide +kernel
theorem dX6_determines_10 : decode cX6_determines 10 = .ok (.iconst 1, 1) := by decide +kernel
theorem dX6_determines_11 : decode cX6_determines 11 = .ok (.aload_n 0, 1) := by decide +kernel
theorem dX6_determines_12 : decode cX6_determines 12 = .ok (.getfield 126, 3) := by decide +kernel
theorem dX6_determines_15 : decode cX6_determines 15 = .ok (.ishl, 1) := by decide +kernel
theorem dX6_determines_16 : decode cX6_determines 16 = .ok (.if_icmp .ge 103, 3) := by decide +kernel
theorem dX6_determines_19 : decode cX6_determines 19 = .ok (.iload_n 1, 1) := by decide +kernel
theorem dX6_determines_20 : decode cX6_determines 20 = .ok (.invokestatic 134, 3) := by decide +kernel
theorem dX6_determines_23 : decode cX6_determines 23 = .ok (.iconst 1, 1) := by decide +kernel
theorem dX6_determines_24 : decode cX6_determines 24 = .ok (.isub, 1) := by decide +kernel
theorem dX6_determines_25 : decode cX6_determines 25 = .ok (.istore_n 2, 1) := by decide +kernel
theorem dX6_determines_26 : decode cX6_determines 26 = .ok (.lconst 0, 1) := by decide +kernel
theorem dX6_determines_27 : decode cX6_determines 27 = .ok (.lstore_n 3, 1) := by decide +kernel
theorem dX6_determines_28 : decode cX6_determines 28 = .ok (.iconst 0, 1) := by decide +kernel
theorem dX6_determines_29 : decode cX6_determines 29 = .ok (.istore 5, 2) := by decide +kernel
theorem dX6_determines_31 : decode cX6_determines 31 = .ok (.iload 5, 2) := by decide +kernel
theorem dX6_determines_33 : decode cX6_determines 33 = .ok (.aload_n 0, 1) := by decide +kernel
theorem dX6_determines_34 : decode cX6_determines 34 = .ok (.getfield 126, 3) := by decide +kernel
theorem dX6_determines_37 : decode cX6_determines 37 = .ok (.if_icmp .ge 69, 3) := by decide +kernel
theorem dX6_determines_40 : decode cX6_determines 40 = .ok (.iload_n 1, 1) := by decide +kernel
theorem dX6_determines_41 : decode cX6_determines 41 = .ok (.iload 5, 2) := by decide +kernel
theorem dX6_determines_43 : decode cX6_determines 43 = .ok (.ishr, 1) := by decide +kernel
theorem dX6_determines_44 : decode cX6_determines 44 = .ok (.iconst 1, 1) := by decide +kernel
theorem dX6_determines_45 : decode cX6_determines 45 = .ok (.iand, 1) := by decide +kernel
theorem dX6_determines_46 : decode cX6_determines 46 = .ok (.iconst 1, 1) := by decide +kernel
theorem dX6_determines_47 : decode cX6_determines 47 = .ok (.if_icmp .ne 53, 3) := by decide +kernel
theorem dX6_determines_50 : decode cX6_determines 50 = .ok (.aload_n 0, 1) := by decide +kernel
theorem dX6_determines_51 : decode cX6_determines 51 = .ok (.getfield 36, 3) := by decide +kernel
theorem dX6_determines_54 : decode cX6_determines 54 = .ok (.iconst 5, 1) := by decide +kernel
theorem dX6_determines_55 : decode cX6_determines 55 = .ok (.iload_n 2, 1) := by decide +kernel
theorem dX6_determines_56 : decode cX6_determines 56 = .ok (.imul, 1) := by decide +kernel
theorem dX6_determines_57 : decode cX6_determines 57 = .ok (.iload 5, 2) := by decide +kernel
theorem dX6_determines_59 : decode cX6_determines 59 = .ok (.iadd, 1) := by decide +kernel
theorem dX6_determines_60 : decode cX6_determines 60 = .ok (.laload, 1) := by decide +kernel
theorem dX6_determines_61 : decode cX6_determines 61 = .ok (.aload_n 0, 1) := by decide +kernel
theorem dX6_determines_62 : decode cX6_determines 62 = .ok (.getfield 40, 3) := by decide +kernel
theorem dX6_determines_65 : decode cX6_determines 65 = .ok (.iload_n 1, 1) := by decide +kernel
theorem dX6_determines_66 : decode cX6_determines 66 = .ok (.iconst 1, 1) := by decide +kernel
theorem dX6_determines_67 : decode cX6_determines 67 = .ok (.iload 5, 2) := by decide +kernel
theorem dX6_determines_69 : decode cX6_determines 69 = .ok (.ishl, 1) := by decide +kernel
theorem dX6_determines_70 : decode cX6_determines 70 = .ok (.isub, 1) := by decide +kernel
theorem dX6_determines_71 : decode cX6_determines 71 = .ok (.laload, 1) := by decide +kernel
theorem dX6_determines_72 : decode cX6_determines 72 = .ok (.lmul, 1) := by decide +kernel
theorem dX6_determines_73 : decode cX6_determines 73 = .ok (.lstore 6, 2) := by decide +kernel
theorem dX6_determines_75 : decode cX6_determines 75 = .ok (.lload_n 3, 1) := by decide +kernel
theorem dX6_determines_76 : decode cX6_determines 76 = .ok (.iload_n 1, 1) := by decide +kernel
theorem dX6_determines_77 : decode cX6_determines 77 = .ok (.iload 5, 2) := by decide +kernel
theorem dX6_determines_79 : decode cX6_determines 79 = .ok (.iconst 1, 1) := by decide +kernel
theorem dX6_determines_80 : decode cX6_determines 80 = .ok (.iadd, 1) := by decide +kernel
theorem dX6_determines_81 : decode cX6_determines 81 = .ok (.ishr, 1) := by decide +kernel
theorem dX6_determines_82 : decode cX6_determines 82 = .ok (.invokestatic 134, 3) := by decide +kernel
theorem dX6_determines_85 : decode cX6_determines 85 = .ok (.iconst 2, 1) := by decide +kernel
theorem dX6_determines_86 : decode cX6_determines 86 = .ok (.irem, 1) := by decide +kernel
theorem dX6_determines_87 : decode cX6_determines 87 = .ok (.ifCond .ne 8, 3) := by decide +kernel
theorem dX6_determines_90 : decode cX6_determines 90 = .ok (.lload 6, 2) := by decide +kernel
theorem dX6_determines_92 : decode cX6_determines 92 = .ok (.goto 6, 3) := by decide +kernel
theorem dX6_determines_95 : decode cX6_determines 95 = .ok (.lload 6, 2) := by decide +kernel
theorem dX6_determines_97 : decode cX6_determines 97 = .ok (.lneg, 1) := by decide +kernel
theorem dX6_determines_98 : decode cX6_determines 98 = .ok (.ladd, 1) := by decide +kernel
theorem dX6_determines_99 : decode cX6_determines 99 = .ok (.lstore_n 3, 1) := by decide +kernel
theorem dX6_determines_100 : decode cX6_determines 100 = .ok (.iinc 5 1, 3) := by decide +kernel
theorem dX6_determines_103 : decode cX6_determines 103 = .ok (.goto (-72), 3) := by decide +kernel
theorem dX6_determines_106 : decode cX6_determines 106 = .ok (.aload_n 0, 1) := by decide +kernel
theorem dX6_determines_107 : decode cX6_determines 107 = .ok (.getfield 40, 3) := by decide +kernel
theorem dX6_determines_110 : decode cX6_determines 110 = .ok (.iload_n 1, 1) := by decide +kernel
theorem dX6_determines_111 : decode cX6_determines 111 = .ok (.lload_n 3, 1) := by decide +kernel
theorem dX6_determines_112 : decode cX6_determines 112 = .ok (.lastore, 1) := by decide +kernel
theorem dX6_determines_113 : decode cX6_determines 113 = .ok (.iinc 1 1, 3) := by decide +kernel
theorem dX6_determines_116 : decode cX6_determines 116 = .ok (.goto (-107), 3) := by decide +kernel
theorem dX6_determines_119 : decode cX6_determines 119 = .ok (.return_, 1) := by decide +kernel
theorem dX6_isFeasible_0 : decode cX6_isFeasible 0 = .ok (.aload_n 0, 1) := by decide +kernel
theorem dX6_isFeasible_1 : decode cX6_isFeasible 1 = .ok (.iload_n 1, 1) := by decide +kernel
theorem dX6_isFeasible_2 : decode cX6_isFeasible 2 = .ok (.iconst (-1), 1) := by decide +kernel
theorem dX6_isFeasible_3 : decode cX6_isFeasible 3 = .ok (.invokevirtual 137, 3) := by decide +kernel
theorem dX6_isFeasible_6 : decode cX6_isFeasible 6 = .ok (.iconst 1, 1) := by decide +kernel
theorem dX6_isFeasible_7 : decode cX6_isFeasible 7 = .ok (.istore_n 2, 1) := by decide +kernel
theorem dX6_isFeasible_8 : decode cX6_isFeasible 8 = .ok (.iconst 1, 1) := by decide +kernel
theorem dX6_isFeasible_9 : decode cX6_isFeasible 9 = .ok (.istore_n 3, 1) := by decide +kernel
theorem dX6_isFeasible_10 : decode cX6_isFeasible 10 = .ok (.iload_n 3, 1) := by decide +kernel
theorem dX6_isFeasible_11 : decode cX6_isFeasible 11 = .ok (.aload_n 0, 1) := by decide +kernel
theorem dX6_isFeasible_12 : decode cX6_isFeasible 12 = .ok (.getfield 126, 3) := by decide +kernel
theorem dX6_isFeasible_15 : decode cX6_isFeasible 15 = .ok (.if_icmp .gt 34, 3) := by decide +kernel
theorem dX6_isFeasible_18 : decode cX6_isFeasible 18 = .ok (.iload_n 2, 1) := by decide +kernel
theorem dX6_isFeasible_19 : decode cX6_isFeasible 19 = .ok (.ifCond .eq 22, 3) := by decide +kernel
theorem dX6_isFeasible_22 : decode cX6_isFeasible 22 = .ok (.aload_n 0, 1) := by decide +kernel
theorem dX6_isFeasible_23 : decode cX6_isFeasible 23 = .ok (.getfield 40, 3) := by decide +kernel
theorem dX6_isFeasible_26 : decode cX6_isFeasible 26 = .ok (.iconst 1, 1) := by decide +kernel
theorem dX6_isFeasible_27 : decode cX6_isFeasible 27 = .ok (.iload_n 3, 1) := by decide +kernel
theorem dX6_isFeasible_28 : decode cX6_isFeasible 28 = .ok (.ishl, 1) := by decide +kernel
theorem dX6_isFeasible_29 : decode cX6_isFeasible 29 = .ok (.iconst 1, 1) := by decide +kernel
theorem dX6_isFeasible_30 : decode cX6_isFeasible 30 = .ok (.isub, 1) := by decide +kernel
theorem dX6_isFeasible_31 : decode cX6_isFeasible 31 = .ok (.laload, 1) := by decide +kernel
theorem dX6_isFeasible_32 : decode cX6_isFeasible 32 = .ok (.lconst 0, 1) := by decide +kernel
theorem dX6_isFeasible_33 : decode cX6_isFeasible 33 = .ok (.lcmp, 1) := by decide +kernel
theorem dX6_isFeasible_34 : decode cX6_isFeasible 34 = .ok (.ifCond .le 7, 3) := by decide +kernel
theorem dX6_isFeasible_37 : decode cX6_isFeasible 37 = .ok (.iconst 1, 1) := by decide +kernel
theorem dX6_isFeasible_38 : decode cX6_isFeasible 38 = .ok (.goto 4, 3) := by decide +kernel
theorem dX6_isFeasible_41 : decode cX6_isFeasible 41 = .ok (.iconst 0, 1) := by decide +kernel
theorem dX6_isFeasible_42 : decode cX6_isFeasible 42 = .ok (.istore_n 2, 1) := by decide +kernel
theorem dX6_isFeasible_43 : decode cX6_isFeasible 43 = .ok (.iinc 3 1, 3) := by decide +kernel
theorem dX6_isFeasible_46 : decode cX6_isFeasible 46 = .ok (.goto (-36), 3) := by decide +kernel
theorem dX6_isFeasible_49 : decode cX6_isFeasible 49 = .ok (.iload_n 2, 1) := by decide +kernel
theorem dX6_isFeasible_50 : decode cX6_isFeasible 50 = .ok (.ireturn, 1) := by decide +kernel
theorem dX6_minor_0 : decode cX6_minor 0 = .ok (.iload_n 1, 1) := by decide +kernel
theorem dX6_minor_1 : decode cX6_minor 1 = .ok (.iconst 0, 1) := by decide +kernel
theorem dX6_minor_2 : decode cX6_minor 2 = .ok (.iconst 1, 1) := by decide +kernel
theorem dX6_minor_3 : decode cX6_minor 3 = .ok (.aload_n 0, 1) := by decide +kernel
theorem dX6_minor_4 : decode cX6_minor 4 = .ok (.getfield 7, 3) := by decide +kernel
theorem dX6_minor_7 : decode cX6_minor 7 = .ok (.ishl, 1) := by decide +kernel
theorem dX6_minor_8 : decode cX6_minor 8 = .ok (.iconst 1, 1) := by decide +kernel
theorem dX6_minor_9 : decode cX6_minor 9 = .ok (.isub, 1) := by decide +kernel
theorem dX6_minor_10 : decode cX6_minor 10 = .ok (.invokestatic 75, 3) := by decide +kernel
theorem dX6_minor_13 : decode cX6_minor 13 = .ok (.ifCond .ne 9, 3) := by decide +kernel
theorem dX6_minor_16 : decode cX6_minor 16 = .ok (.bipush (-2), 2) := by decide +kernel
theorem dX6_minor_18 : decode cX6_minor 18 = .ok (.invokestatic 141, 3) := by decide +kernel
theorem dX6_minor_21 : decode cX6_minor 21 = .ok (.lreturn, 1) := by decide +kernel
theorem dX6_minor_22 : decode cX6_minor 22 = .ok (.aload_n 0, 1) := by decide +kernel
theorem dX6_minor_23 : decode cX6_minor 23 = .ok (.invokevirtual 145, 3) := by decide +kernel
theorem dX6_minor_26 : decode cX6_minor 26 = .ok (.aload_n 0, 1) := by decide +kernel
theorem dX6_minor_27 : decode cX6_minor 27 = .ok (.iload_n 1, 1) := by decide +kernel
theorem dX6_minor_28 : decode cX6_minor 28 = .ok (.aload_n 0, 1) := by decide +kernel
theorem dX6_minor_29 : decode cX6_minor 29 = .ok (.invokevirtual 94, 3) := by decide +kernel
theorem dX6_minor_32 : decode cX6_minor 32 = .ok (.iand, 1) := by decide +kernel
theorem dX6_minor_33 : decode cX6_minor 33 = .ok (.iconst (-1), 1) := by decide +kernel
theorem dX6_minor_34 : decode cX6_minor 34 = .ok (.invokevirtual 137, 3) := by decide +kernel
theorem dX6_minor_37 : decode cX6_minor 37 = .ok (.aload_n 0, 1) := by decide +kernel
theorem dX6_minor_38 : decode cX6_minor 38 = .ok (.getfield 40, 3) := by decide +kernel
theorem dX6_minor_41 : decode cX6_minor 41 = .ok (.iconst 1, 1) := by decide +kernel
theorem dX6_minor_42 : decode cX6_minor 42 = .ok (.aload_n 0, 1) := by decide +kernel
theorem dX6_minor_43 : decode cX6_minor 43 = .ok (.getfield 126, 3) := by decide +kernel
theorem dX6_minor_46 : decode cX6_minor 46 = .ok (.ishl, 1) := by decide +kernel
theorem dX6_minor_47 : decode cX6_minor 47 = .ok (.iconst 1, 1) := by decide +kernel
theorem dX6_minor_48 : decode cX6_minor 48 = .ok (.isub, 1) := by decide +kernel
theorem dX6_minor_49 : decode cX6_minor 49 = .ok (.laload, 1) := by decide +kernel
theorem dX6_minor_50 : decode cX6_minor 50 = .ok (.lreturn, 1) := by decide +kernel
theorem dX6_isFeasibleNow_0 : decode cX6_isFeasibleNow 0 = .ok (.aload_n 0, 1) := by decide +kernel
theorem dX6_isFeasibleNow_1 : decode cX6_isFeasibleNow 1 = .ok (.invokevirtual 145, 3) := by decide +kernel
theorem dX6_isFeasibleNow_4 : decode cX6_isFeasibleNow 4 = .ok (.aload_n 0, 1) := by decide +kernel
theorem dX6_isFeasibleNow_5 : decode cX6_isFeasibleNow 5 = .ok (.aload_n 0, 1) := by decide +kernel
theorem dX6_isFeasibleNow_6 : decode cX6_isFeasibleNow 6 = .ok (.invokevirtual 94, 3) := by decide +kernel
theorem dX6_isFeasibleNow_9 : decode cX6_isFeasibleNow 9 = .ok (.invokevirtual 148, 3) := by decide +kernel
theorem dX6_isFeasibleNow_12 : decode cX6_isFeasibleNow 12 = .ok (.ireturn, 1) := by decide +kernel
theorem dX6_feasible_0 : decode cX6_feasible 0 = .ok (.aload_n 0, 1) := by decide +kernel
theorem dX6_feasible_1 : decode cX6_feasible 1 = .ok (.invokevirtual 151, 3) := by decide +kernel
theorem dX6_feasible_4 : decode cX6_feasible 4 = .ok (.ifCond .eq 7, 3) := by decide +kernel
theorem dX6_feasible_7 : decode cX6_feasible 7 = .ok (.iconst 1, 1) := by decide +kernel
theorem dX6_feasible_8 : decode cX6_feasible 8 = .ok (.goto 4, 3) := by decide +kernel
theorem dX6_feasible_11 : decode cX6_feasible 11 = .ok (.iconst 0, 1) := by decide +kernel
theorem dX6_feasible_12 : decode cX6_feasible 12 = .ok (.ireturn, 1) := by decide +kernel
theorem dX6_partOf_0 : decode cX6_partOf 0 = .ok (.lload_n 0, 1) := by decide +kernel
theorem dX6_partOf_1 : decode cX6_partOf 1 = .ok (.lstore 5, 2) := by decide +kernel
theorem dX6_partOf_3 : decode cX6_partOf 3 = .ok (.lload_n 2, 1) := by decide +kernel
theorem dX6_partOf_4 : decode cX6_partOf 4 = .ok (.lstore 7, 2) := by decide +kernel
theorem dX6_partOf_6 : decode cX6_partOf 6 = .ok (.lload 7, 2) := by decide +kernel
theorem dX6_partOf_8 : decode cX6_partOf 8 = .ok (.lconst 0, 1) := by decide +kernel
theorem dX6_partOf_9 : decode cX6_partOf 9 = .ok (.lcmp, 1) := by decide +kernel
theorem dX6_partOf_10 : decode cX6_partOf 10 = .ok (.ifCond .eq 21, 3) := by decide +kernel
theorem dX6_partOf_13 : decode cX6_partOf 13 = .ok (.lload 5, 2) := by decide +kernel
theorem dX6_partOf_15 : decode cX6_partOf 15 = .ok (.lload 7, 2) := by decide +kernel
theorem dX6_partOf_17 : decode cX6_partOf 17 = .ok (.lrem, 1) := by decide +kernel
theorem dX6_partOf_18 : decode cX6_partOf 18 = .ok (.lstore 9, 2) := by decide +kernel
theorem dX6_partOf_20 : decode cX6_partOf 20 = .ok (.lload 7, 2) := by decide +kernel
theorem dX6_partOf_22 : decode cX6_partOf 22 = .ok (.lstore 5, 2) := by decide +kernel
theorem dX6_partOf_24 : decode cX6_partOf 24 = .ok (.lload 9, 2) := by decide +kernel
theorem dX6_partOf_26 : decode cX6_partOf 26 = .ok (.lstore 7, 2) := by decide +kernel
theorem dX6_partOf_28 : decode cX6_partOf 28 = .ok (.goto (-22), 3) := by decide +kernel
theorem dX6_partOf_31 : decode cX6_partOf 31 = .ok (.iload 4, 2) := by decide +kernel
theorem dX6_partOf_33 : decode cX6_partOf 33 = .ok (.ifCond .ne 10, 3) := by decide +kernel
theorem dX6_partOf_36 : decode cX6_partOf 36 = .ok (.lload_n 0, 1) := by decide +kernel
theorem dX6_partOf_37 : decode cX6_partOf 37 = .ok (.lload 5, 2) := by decide +kernel
theorem dX6_partOf_39 : decode cX6_partOf 39 = .ok (.ldiv, 1) := by decide +kernel
theorem dX6_partOf_40 : decode cX6_partOf 40 = .ok (.goto 7, 3) := by decide +kernel
theorem dX6_partOf_43 : decode cX6_partOf 43 = .ok (.lload_n 2, 1) := by decide +kernel
theorem dX6_partOf_44 : decode cX6_partOf 44 = .ok (.lload 5, 2) := by decide +kernel
theorem dX6_partOf_46 : decode cX6_partOf 46 = .ok (.ldiv, 1) := by decide +kernel
theorem dX6_partOf_47 : decode cX6_partOf 47 = .ok (.lreturn, 1) := by decide +kernel
theorem dX6_leastOf_0 : decode cX6_leastOf 0 = .ok (.aload_n 0, 1) := by decide +kernel
theorem dX6_leastOf_1 : decode cX6_leastOf 1 = .ok (.invokevirtual 94, 3) := by decide +kernel
theorem dX6_leastOf_4 : decode cX6_leastOf 4 = .ok (.istore_n 3, 1) := by decide +kernel
theorem dX6_leastOf_5 : decode cX6_leastOf 5 = .ok (.iload_n 3, 1) := by decide +kernel
theorem dX6_leastOf_6 : decode cX6_leastOf 6 = .ok (.iconst 1, 1) := by decide +kernel
theorem dX6_leastOf_7 : decode cX6_leastOf 7 = .ok (.iload_n 1, 1) := by decide +kernel
theorem dX6_leastOf_8 : decode cX6_leastOf 8 = .ok (.ishl, 1) := by decide +kernel
theorem dX6_leastOf_9 : decode cX6_leastOf 9 = .ok (.iconst 1, 1) := by decide +kernel
theorem dX6_leastOf_10 : decode cX6_leastOf 10 = .ok (.isub, 1) := by decide +kernel
theorem dX6_leastOf_11 : decode cX6_leastOf 11 = .ok (.iand, 1) := by decide +kernel
theorem dX6_leastOf_12 : decode cX6_leastOf 12 = .ok (.invokestatic 134, 3) := by decide +kernel
theorem dX6_leastOf_15 : decode cX6_leastOf 15 = .ok (.istore 4, 2) := by decide +kernel
theorem dX6_leastOf_17 : decode cX6_leastOf 17 = .ok (.aload_n 0, 1) := by decide +kernel
theorem dX6_leastOf_18 : decode cX6_leastOf 18 = .ok (.iload_n 3, 1) := by decide +kernel
theorem dX6_leastOf_19 : decode cX6_leastOf 19 = .ok (.iconst (-1), 1) := by decide +kernel
theorem dX6_leastOf_20 : decode cX6_leastOf 20 = .ok (.invokevirtual 137, 3) := by decide +kernel
theorem dX6_leastOf_23 : decode cX6_leastOf 23 = .ok (.aload_n 0, 1) := by decide +kernel
theorem dX6_leastOf_24 : decode cX6_leastOf 24 = .ok (.getfield 40, 3) := by decide +kernel
theorem dX6_leastOf_27 : decode cX6_leastOf 27 = .ok (.iconst 1, 1) := by decide +kernel
theorem dX6_leastOf_28 : decode cX6_leastOf 28 = .ok (.aload_n 0, 1) := by decide +kernel
theorem dX6_leastOf_29 : decode cX6_leastOf 29 = .ok (.getfield 126, 3) := by decide +kernel
theorem dX6_leastOf_32 : decode cX6_leastOf 32 = .ok (.ishl, 1) := by decide +kernel
theorem dX6_leastOf_33 : decode cX6_leastOf 33 = .ok (.iconst 1, 1) := by decide +kernel
theorem dX6_leastOf_34 : decode cX6_leastOf 34 = .ok (.isub, 1) := by decide +kernel
theorem dX6_leastOf_35 : decode cX6_leastOf 35 = .ok (.laload, 1) := by decide +kernel
theorem dX6_leastOf_36 : decode cX6_leastOf 36 = .ok (.lstore 5, 2) := by decide +kernel
theorem dX6_leastOf_38 : decode cX6_leastOf 38 = .ok (.aload_n 0, 1) := by decide +kernel
theorem dX6_leastOf_39 : decode cX6_leastOf 39 = .ok (.iload_n 3, 1) := by decide +kernel
theorem dX6_leastOf_40 : decode cX6_leastOf 40 = .ok (.iload 4, 2) := by decide +kernel
theorem dX6_leastOf_42 : decode cX6_leastOf 42 = .ok (.invokevirtual 137, 3) := by decide +kernel
theorem dX6_leastOf_45 : decode cX6_leastOf 45 = .ok (.aload_n 0, 1) := by decide +kernel
theorem dX6_leastOf_46 : decode cX6_leastOf 46 = .ok (.getfield 40, 3) := by decide +kernel
theorem dX6_leastOf_49 : decode cX6_leastOf 49 = .ok (.iconst 1, 1) := by decide +kernel
theorem dX6_leastOf_50 : decode cX6_leastOf 50 = .ok (.aload_n 0, 1) := by decide +kernel
theorem dX6_leastOf_51 : decode cX6_leastOf 51 = .ok (.getfield 126, 3) := by decide +kernel
theorem dX6_leastOf_54 : decode cX6_leastOf 54 = .ok (.ishl, 1) := by decide +kernel
theorem dX6_leastOf_55 : decode cX6_leastOf 55 = .ok (.iconst 1, 1) := by decide +kernel
theorem dX6_leastOf_56 : decode cX6_leastOf 56 = .ok (.isub, 1) := by decide +kernel
theorem dX6_leastOf_57 : decode cX6_leastOf 57 = .ok (.laload, 1) := by decide +kernel
theorem dX6_leastOf_58 : decode cX6_leastOf 58 = .ok (.lload 5, 2) := by decide +kernel
theorem dX6_leastOf_60 : decode cX6_leastOf 60 = .ok (.iload_n 2, 1) := by decide +kernel
theorem dX6_leastOf_61 : decode cX6_leastOf 61 = .ok (.invokestatic 155, 3) := by decide +kernel
theorem dX6_leastOf_64 : decode cX6_leastOf 64 = .ok (.lreturn, 1) := by decide +kernel
theorem dX6_least_0 : decode cX6_least 0 = .ok (.aload_n 0, 1) := by decide +kernel
theorem dX6_least_1 : decode cX6_least 1 = .ok (.iload_n 1, 1) := by decide +kernel
theorem dX6_least_2 : decode cX6_least 2 = .ok (.invokevirtual 79, 3) := by decide +kernel
theorem dX6_least_5 : decode cX6_least 5 = .ok (.ifCond .eq 12, 3) := by decide +kernel
theorem dX6_least_8 : decode cX6_least 8 = .ok (.iload_n 2, 1) := by decide +kernel
theorem dX6_least_9 : decode cX6_least 9 = .ok (.iconst 0, 1) := by decide +kernel
theorem dX6_least_10 : decode cX6_least 10 = .ok (.iconst 1, 1) := by decide +kernel
theorem dX6_least_11 : decode cX6_least 11 = .ok (.invokestatic 75, 3) := by decide +kernel
theorem dX6_least_14 : decode cX6_least 14 = .ok (.ifCond .ne 9, 3) := by decide +kernel
theorem dX6_least_17 : decode cX6_least 17 = .ok (.bipush (-2), 2) := by decide +kernel
theorem dX6_least_19 : decode cX6_least 19 = .ok (.invokestatic 141, 3) := by decide +kernel
theorem dX6_least_22 : decode cX6_least 22 = .ok (.lreturn, 1) := by decide +kernel
theorem dX6_least_23 : decode cX6_least 23 = .ok (.aload_n 0, 1) := by decide +kernel
theorem dX6_least_24 : decode cX6_least 24 = .ok (.getfield 26, 3) := by decide +kernel
theorem dX6_least_27 : decode cX6_least 27 = .ok (.iload_n 1, 1) := by decide +kernel
theorem dX6_least_28 : decode cX6_least 28 = .ok (.baload, 1) := by decide +kernel
theorem dX6_least_29 : decode cX6_least 29 = .ok (.ifCond .eq 19, 3) := by decide +kernel
theorem dX6_least_32 : decode cX6_least 32 = .ok (.aload_n 0, 1) := by decide +kernel
theorem dX6_least_33 : decode cX6_least 33 = .ok (.invokevirtual 151, 3) := by decide +kernel
theorem dX6_least_36 : decode cX6_least 36 = .ok (.ifCond .eq 12, 3) := by decide +kernel
theorem dX6_least_39 : decode cX6_least 39 = .ok (.aload_n 0, 1) := by decide +kernel
theorem dX6_least_40 : decode cX6_least 40 = .ok (.iload_n 1, 1) := by decide +kernel
theorem dX6_least_41 : decode cX6_least 41 = .ok (.iload_n 2, 1) := by decide +kernel
theorem dX6_least_42 : decode cX6_least 42 = .ok (.invokevirtual 159, 3) := by decide +kernel
theorem dX6_least_45 : decode cX6_least 45 = .ok (.goto 8, 3) := by decide +kernel
theorem dX6_least_48 : decode cX6_least 48 = .ok (.bipush (-3), 2) := by decide +kernel
theorem dX6_least_50 : decode cX6_least 50 = .ok (.invokestatic 141, 3) := by decide +kernel
theorem dX6_least_53 : decode cX6_least 53 = .ok (.lreturn, 1) := by decide +kernel
theorem dX6_witnessNow_0 : decode cX6_witnessNow 0 = .ok (.aload_n 0, 1) := by decide +kernel
theorem dX6_witnessNow_1 : decode cX6_witnessNow 1 = .ok (.invokevirtual 94, 3) := by decide +kernel
theorem dX6_witnessNow_4 : decode cX6_witnessNow 4 = .ok (.istore_n 1, 1) := by decide +kernel
theorem dX6_witnessNow_5 : decode cX6_witnessNow 5 = .ok (.iconst 0, 1) := by decide +kernel
theorem dX6_witnessNow_6 : decode cX6_witnessNow 6 = .ok (.istore_n 2, 1) := by decide +kernel
theorem dX6_witnessNow_7 : decode cX6_witnessNow 7 = .ok (.aload_n 0, 1) := by decide +kernel
theorem dX6_witnessNow_8 : decode cX6_witnessNow 8 = .ok (.invokevirtual 151, 3) := by decide +kernel
theorem dX6_witnessNow_11 : decode cX6_witnessNow 11 = .ok (.istore_n 3, 1) := by decide +kernel
theorem dX6_witnessNow_12 : decode cX6_witnessNow 12 = .ok (.iconst 1, 1) := by decide +kernel
theorem dX6_witnessNow_13 : decode cX6_witnessNow 13 = .ok (.istore 4, 2) := by decide +kernel
theorem dX6_witnessNow_15 : decode cX6_witnessNow 15 = .ok (.iload 4, 2) := by decide +kernel
theorem dX6_witnessNow_17 : decode cX6_witnessNow 17 = .ok (.bipush 32, 2) := by decide +kernel
theorem dX6_witnessNow_19 : decode cX6_witnessNow 19 = .ok (.if_icmp .ge 66, 3) := by decide +kernel
theorem dX6_witnessNow_22 : decode cX6_witnessNow 22 = .ok (.iload_n 3, 1) := by decide +kernel
theorem dX6_witnessNow_23 : decode cX6_witnessNow 23 = .ok (.ifCond .ne 62, 3) := by decide +kernel
theorem dX6_witnessNow_26 : decode cX6_witnessNow 26 = .ok (.iload_n 2, 1) := by decide +kernel
theorem dX6_witnessNow_27 : decode cX6_witnessNow 27 = .ok (.ifCond .eq 15, 3) := by decide +kernel
theorem dX6_witnessNow_30 : decode cX6_witnessNow 30 = .ok (.iload 4, 2) := by decide +kernel
theorem dX6_witnessNow_32 : decode cX6_witnessNow 32 = .ok (.invokestatic 134, 3) := by decide +kernel
theorem dX6_witnessNow_35 : decode cX6_witnessNow 35 = .ok (.iload_n 2, 1) := by decide +kernel
theorem dX6_witnessNow_36 : decode cX6_witnessNow 36 = .ok (.invokestatic 134, 3) := by decide +kernel
theorem dX6_witnessNow_39 : decode cX6_witnessNow 39 = .ok (.if_icmp .ge 7, 3) := by decide +kernel
theorem dX6_witnessNow_42 : decode cX6_witnessNow 42 = .ok (.iconst 1, 1) := by decide +kernel
theorem dX6_witnessNow_43 : decode cX6_witnessNow 43 = .ok (.goto 4, 3) := by decide +kernel
theorem dX6_witnessNow_46 : decode cX6_witnessNow 46 = .ok (.iconst 0, 1) := by decide +kernel
theorem dX6_witnessNow_47 : decode cX6_witnessNow 47 = .ok (.istore 5, 2) := by decide +kernel
theorem dX6_witnessNow_49 : decode cX6_witnessNow 49 = .ok (.iload 4, 2) := by decide +kernel
theorem dX6_witnessNow_51 : decode cX6_witnessNow 51 = .ok (.iload_n 1, 1) := by decide +kernel
theorem dX6_witnessNow_52 : decode cX6_witnessNow 52 = .ok (.iconst (-1), 1) := by decide +kernel
theorem dX6_witnessNow_53 : decode cX6_witnessNow 53 = .ok (.ixor, 1) := by decide +kernel
theorem dX6_witnessNow_54 : decode cX6_witnessNow 54 = .ok (.iand, 1) := by decide +kernel
theorem dX6_witnessNow_55 : decode cX6_witnessNow 55 = .ok (.ifCond .ne 22, 3) := by decide +kernel
theorem dX6_witnessNow_58 : decode cX6_witnessNow 58 = .ok (.iload 5, 2) := by decide +kernel
theorem dX6_witnessNow_60 : decode cX6_witnessNow 60 = .ok (.ifCond .eq 17, 3) := by decide +kernel
theorem dX6_witnessNow_63 : decode cX6_witnessNow 63 = .ok (.aload_n 0, 1) := by decide +kernel
theorem dX6_witnessNow_64 : decode cX6_witnessNow 64 = .ok (.iload 4, 2) := by decide +kernel
theorem dX6_witnessNow_66 : decode cX6_witnessNow 66 = .ok (.invokevirtual 148, 3) := by decide +kernel
theorem dX6_witnessNow_69 : decode cX6_witnessNow 69 = .ok (.ifCond .ne 8, 3) := by decide +kernel
theorem dX6_witnessNow_72 : decode cX6_witnessNow 72 = .ok (.iload 4, 2) := by decide +kernel
theorem dX6_witnessNow_74 : decode cX6_witnessNow 74 = .ok (.goto 4, 3) := by decide +kernel
theorem dX6_witnessNow_77 : decode cX6_witnessNow 77 = .ok (.iload_n 2, 1) := by decide +kernel
theorem dX6_witnessNow_78 : decode cX6_witnessNow 78 = .ok (.istore_n 2, 1) := by decide +kernel
theorem dX6_witnessNow_79 : decode cX6_witnessNow 79 = .ok (.iinc 4 1, 3) := by decide +kernel
theorem dX6_witnessNow_82 : decode cX6_witnessNow 82 = .ok (.goto (-67), 3) := by decide +kernel
theorem dX6_witnessNow_85 : decode cX6_witnessNow 85 = .ok (.iload_n 2, 1) := by decide +kernel
theorem dX6_witnessNow_86 : decode cX6_witnessNow 86 = .ok (.ireturn, 1) := by decide +kernel
theorem dX6_witness_0 : decode cX6_witness 0 = .ok (.aload_n 0, 1) := by decide +kernel
theorem dX6_witness_1 : decode cX6_witness 1 = .ok (.invokevirtual 163, 3) := by decide +kernel
theorem dX6_witness_4 : decode cX6_witness 4 = .ok (.ireturn, 1) := by decide +kernel
theorem dX6_outNow_0 : decode cX6_outNow 0 = .ok (.aload_n 0, 1) := by decide +kernel
theorem dX6_outNow_1 : decode cX6_outNow 1 = .ok (.invokevirtual 145, 3) := by decide +kernel
theorem dX6_outNow_4 : decode cX6_outNow 4 = .ok (.aload_n 0, 1) := by decide +kernel
theorem dX6_outNow_5 : decode cX6_outNow 5 = .ok (.invokevirtual 94, 3) := by decide +kernel
theorem dX6_outNow_8 : decode cX6_outNow 8 = .ok (.istore_n 1, 1) := by decide +kernel
theorem dX6_outNow_9 : decode cX6_outNow 9 = .ok (.iload_n 1, 1) := by decide +kernel
theorem dX6_outNow_10 : decode cX6_outNow 10 = .ok (.istore_n 2, 1) := by decide +kernel
theorem dX6_outNow_11 : decode cX6_outNow 11 = .ok (.iconst 0, 1) := by decide +kernel
theorem dX6_outNow_12 : decode cX6_outNow 12 = .ok (.istore_n 3, 1) := by decide +kernel
theorem dX6_outNow_13 : decode cX6_outNow 13 = .ok (.iload_n 3, 1) := by decide +kernel
theorem dX6_outNow_14 : decode cX6_outNow 14 = .ok (.bipush 32, 2) := by decide +kernel
theorem dX6_outNow_16 : decode cX6_outNow 16 = .ok (.if_icmp .ge 58, 3) := by decide +kernel
theorem dX6_outNow_19 : decode cX6_outNow 19 = .ok (.iload_n 3, 1) := by decide +kernel
theorem dX6_outNow_20 : decode cX6_outNow 20 = .ok (.invokestatic 134, 3) := by decide +kernel
theorem dX6_outNow_23 : decode cX6_outNow 23 = .ok (.iload_n 2, 1) := by decide +kernel
theorem dX6_outNow_24 : decode cX6_outNow 24 = .ok (.invokestatic 134, 3) := by decide +kernel
theorem dX6_outNow_27 : decode cX6_outNow 27 = .ok (.if_icmp .ge 7, 3) := by decide +kernel
theorem dX6_outNow_30 : decode cX6_outNow 30 = .ok (.iconst 1, 1) := by decide +kernel
theorem dX6_outNow_31 : decode cX6_outNow 31 = .ok (.goto 4, 3) := by decide +kernel
theorem dX6_outNow_34 : decode cX6_outNow 34 = .ok (.iconst 0, 1) := by decide +kernel
theorem dX6_outNow_35 : decode cX6_outNow 35 = .ok (.istore 4, 2) := by decide +kernel
theorem dX6_outNow_37 : decode cX6_outNow 37 = .ok (.iload_n 3, 1) := by decide +kernel
theorem dX6_outNow_38 : decode cX6_outNow 38 = .ok (.iload_n 1, 1) := by decide +kernel
theorem dX6_outNow_39 : decode cX6_outNow 39 = .ok (.iconst (-1), 1) := by decide +kernel
theorem dX6_outNow_40 : decode cX6_outNow 40 = .ok (.ixor, 1) := by decide +kernel
theorem dX6_outNow_41 : decode cX6_outNow 41 = .ok (.iand, 1) := by decide +kernel
theorem dX6_outNow_42 : decode cX6_outNow 42 = .ok (.ifCond .ne 24, 3) := by decide +kernel
theorem dX6_outNow_45 : decode cX6_outNow 45 = .ok (.iload 4, 2) := by decide +kernel
theorem dX6_outNow_47 : decode cX6_outNow 47 = .ok (.ifCond .eq 19, 3) := by decide +kernel
theorem dX6_outNow_50 : decode cX6_outNow 50 = .ok (.aload_n 0, 1) := by decide +kernel
theorem dX6_outNow_51 : decode cX6_outNow 51 = .ok (.iload_n 1, 1) := by decide +kernel
theorem dX6_outNow_52 : decode cX6_outNow 52 = .ok (.iload_n 3, 1) := by decide +kernel
theorem dX6_outNow_53 : decode cX6_outNow 53 = .ok (.iconst (-1), 1) := by decide +kernel
theorem dX6_outNow_54 : decode cX6_outNow 54 = .ok (.ixor, 1) := by decide +kernel
theorem dX6_outNow_55 : decode cX6_outNow 55 = .ok (.iand, 1) := by decide +kernel
theorem dX6_outNow_56 : decode cX6_outNow 56 = .ok (.invokevirtual 148, 3) := by decide +kernel
theorem dX6_outNow_59 : decode cX6_outNow 59 = .ok (.ifCond .eq 7, 3) := by decide +kernel
theorem dX6_outNow_62 : decode cX6_outNow 62 = .ok (.iload_n 3, 1) := by decide +kernel
theorem dX6_outNow_63 : decode cX6_outNow 63 = .ok (.goto 4, 3) := by decide +kernel
theorem dX6_outNow_66 : decode cX6_outNow 66 = .ok (.iload_n 2, 1) := by decide +kernel
theorem dX6_outNow_67 : decode cX6_outNow 67 = .ok (.istore_n 2, 1) := by decide +kernel
theorem dX6_outNow_68 : decode cX6_outNow 68 = .ok (.iinc 3 1, 3) := by decide +kernel
theorem dX6_outNow_71 : decode cX6_outNow 71 = .ok (.goto (-58), 3) := by decide +kernel
theorem dX6_outNow_74 : decode cX6_outNow 74 = .ok (.iload_n 2, 1) := by decide +kernel
theorem dX6_outNow_75 : decode cX6_outNow 75 = .ok (.ireturn, 1) := by decide +kernel
theorem dX6_out_0 : decode cX6_out 0 = .ok (.aload_n 0, 1) := by decide +kernel
theorem dX6_out_1 : decode cX6_out 1 = .ok (.invokevirtual 166, 3) := by decide +kernel
theorem dX6_out_4 : decode cX6_out 4 = .ok (.ireturn, 1) := by decide +kernel
theorem dX6_admittedNow_0 : decode cX6_admittedNow 0 = .ok (.aload_n 0, 1) := by decide +kernel
theorem dX6_admittedNow_1 : decode cX6_admittedNow 1 = .ok (.invokevirtual 145, 3) := by decide +kernel
theorem dX6_admittedNow_4 : decode cX6_admittedNow 4 = .ok (.iconst 0, 1) := by decide +kernel
theorem dX6_admittedNow_5 : decode cX6_admittedNow 5 = .ok (.istore_n 1, 1) := by decide +kernel
theorem dX6_admittedNow_6 : decode cX6_admittedNow 6 = .ok (.iconst 0, 1) := by decide +kernel
theorem dX6_admittedNow_7 : decode cX6_admittedNow 7 = .ok (.istore_n 2, 1) := by decide +kernel
theorem dX6_admittedNow_8 : decode cX6_admittedNow 8 = .ok (.iload_n 2, 1) := by decide +kernel
theorem dX6_admittedNow_9 : decode cX6_admittedNow 9 = .ok (.aload_n 0, 1) := by decide +kernel
theorem dX6_admittedNow_10 : decode cX6_admittedNow 10 = .ok (.getfield 7, 3) := by decide +kernel
theorem dX6_admittedNow_13 : decode cX6_admittedNow 13 = .ok (.if_icmp .ge 40, 3) := by decide +kernel
theorem dX6_admittedNow_16 : decode cX6_admittedNow 16 = .ok (.aload_n 0, 1) := by decide +kernel
theorem dX6_admittedNow_17 : decode cX6_admittedNow 17 = .ok (.getfield 26, 3) := by decide +kernel
theorem dX6_admittedNow_20 : decode cX6_admittedNow 20 = .ok (.iload_n 2, 1) := by decide +kernel
theorem dX6_admittedNow_21 : decode cX6_admittedNow 21 = .ok (.baload, 1) := by decide +kernel
theorem dX6_admittedNow_22 : decode cX6_admittedNow 22 = .ok (.ifCond .eq 23, 3) := by decide +kernel
theorem dX6_admittedNow_25 : decode cX6_admittedNow 25 = .ok (.aload_n 0, 1) := by decide +kernel
theorem dX6_admittedNow_26 : decode cX6_admittedNow 26 = .ok (.iload_n 1, 1) := by decide +kernel
theorem dX6_admittedNow_27 : decode cX6_admittedNow 27 = .ok (.iconst 1, 1) := by decide +kernel
theorem dX6_admittedNow_28 : decode cX6_admittedNow 28 = .ok (.iload_n 2, 1) := by decide +kernel
theorem dX6_admittedNow_29 : decode cX6_admittedNow 29 = .ok (.ishl, 1) := by decide +kernel
theorem dX6_admittedNow_30 : decode cX6_admittedNow 30 = .ok (.ior, 1) := by decide +kernel
theorem dX6_admittedNow_31 : decode cX6_admittedNow 31 = .ok (.invokevirtual 148, 3) := by decide +kernel
theorem dX6_admittedNow_34 : decode cX6_admittedNow 34 = .ok (.ifCond .eq 11, 3) := by decide +kernel
theorem dX6_admittedNow_37 : decode cX6_admittedNow 37 = .ok (.iload_n 1, 1) := by decide +kernel
theorem dX6_admittedNow_38 : decode cX6_admittedNow 38 = .ok (.iconst 1, 1) := by decide +kernel
theorem dX6_admittedNow_39 : decode cX6_admittedNow 39 = .ok (.iload_n 2, 1) := by decide +kernel
theorem dX6_admittedNow_40 : decode cX6_admittedNow 40 = .ok (.ishl, 1) := by decide +kernel
theorem dX6_admittedNow_41 : decode cX6_admittedNow 41 = .ok (.ior, 1) := by decide +kernel
theorem dX6_admittedNow_42 : decode cX6_admittedNow 42 = .ok (.goto 4, 3) := by decide +kernel
theorem dX6_admittedNow_45 : decode cX6_admittedNow 45 = .ok (.iload_n 1, 1) := by decide +kernel
theorem dX6_admittedNow_46 : decode cX6_admittedNow 46 = .ok (.istore_n 1, 1) := by decide +kernel
theorem dX6_admittedNow_47 : decode cX6_admittedNow 47 = .ok (.iinc 2 1, 3) := by decide +kernel
theorem dX6_admittedNow_50 : decode cX6_admittedNow 50 = .ok (.goto (-42), 3) := by decide +kernel
theorem dX6_admittedNow_53 : decode cX6_admittedNow 53 = .ok (.iload_n 1, 1) := by decide +kernel
theorem dX6_admittedNow_54 : decode cX6_admittedNow 54 = .ok (.ireturn, 1) := by decide +kernel
theorem dX6_admitted_0 : decode cX6_admitted 0 = .ok (.aload_n 0, 1) := by decide +kernel
theorem dX6_admitted_1 : decode cX6_admitted 1 = .ok (.invokevirtual 169, 3) := by decide +kernel
theorem dX6_admitted_4 : decode cX6_admitted 4 = .ok (.ireturn, 1) := by decide +kernel
theorem dX6_softer_0 : decode cX6_softer 0 = .ok (.aload_n 0, 1) := by decide +kernel
theorem dX6_softer_1 : decode cX6_softer 1 = .ok (.invokevirtual 151, 3) := by decide +kernel
theorem dX6_softer_4 : decode cX6_softer 4 = .ok (.ifCond .eq 5, 3) := by decide +kernel
theorem dX6_softer_7 : decode cX6_softer 7 = .ok (.iconst (-1), 1) := by decide +kernel
theorem dX6_softer_8 : decode cX6_softer 8 = .ok (.ireturn, 1) := by decide +kernel
theorem dX6_softer_9 : decode cX6_softer 9 = .ok (.iconst (-1), 1) := by decide +kernel
theorem dX6_softer_10 : decode cX6_softer 10 = .ok (.istore_n 1, 1) := by decide +kernel
theorem dX6_softer_11 : decode cX6_softer 11 = .ok (.aload_n 0, 1) := by decide +kernel
theorem dX6_softer_12 : decode cX6_softer 12 = .ok (.getfield 7, 3) := by decide +kernel
theorem dX6_softer_15 : decode cX6_softer 15 = .ok (.iconst 1, 1) := by decide +kernel
theorem dX6_softer_16 : decode cX6_softer 16 = .ok (.isub, 1) := by decide +kernel
theorem dX6_softer_17 : decode cX6_softer 17 = .ok (.istore_n 2, 1) := by decide +kernel
theorem dX6_softer_18 : decode cX6_softer 18 = .ok (.iload_n 2, 1) := by decide +kernel
theorem dX6_softer_19 : decode cX6_softer 19 = .ok (.ifCond .lt 63, 3) := by decide +kernel
theorem dX6_softer_22 : decode cX6_softer 22 = .ok (.aload_n 0, 1) := by decide +kernel
theorem dX6_softer_23 : decode cX6_softer 23 = .ok (.invokevirtual 145, 3) := by decide +kernel
theorem dX6_softer_26 : decode cX6_softer 26 = .ok (.aload_n 0, 1) := by decide +kernel
theorem dX6_softer_27 : decode cX6_softer 27 = .ok (.getfield 43, 3) := by decide +kernel
theorem dX6_softer_30 : decode cX6_softer 30 = .ok (.iload_n 2, 1) := by decide +kernel
theorem dX6_softer_31 : decode cX6_softer 31 = .ok (.dup2, 1) := by decide +kernel
theorem dX6_softer_32 : decode cX6_softer 32 = .ok (.iaload, 1) := by decide +kernel
theorem dX6_softer_33 : decode cX6_softer 33 = .ok (.aload_n 0, 1) := by decide +kernel
theorem dX6_softer_34 : decode cX6_softer 34 = .ok (.getfield 17, 3) := by decide +kernel
theorem dX6_softer_37 : decode cX6_softer 37 = .ok (.iload_n 2, 1) := by decide +kernel
theorem dX6_softer_38 : decode cX6_softer 38 = .ok (.iaload, 1) := by decide +kernel
theorem dX6_softer_39 : decode cX6_softer 39 = .ok (.iconst 1, 1) := by decide +kernel
theorem dX6_softer_40 : decode cX6_softer 40 = .ok (.if_icmp .le 7, 3) := by decide +kernel
theorem dX6_softer_43 : decode cX6_softer 43 = .ok (.iconst 1, 1) := by decide +kernel
theorem dX6_softer_44 : decode cX6_softer 44 = .ok (.goto 4, 3) := by decide +kernel
theorem dX6_softer_47 : decode cX6_softer 47 = .ok (.iconst 0, 1) := by decide +kernel
theorem dX6_softer_48 : decode cX6_softer 48 = .ok (.isub, 1) := by decide +kernel
theorem dX6_softer_49 : decode cX6_softer 49 = .ok (.iastore, 1) := by decide +kernel
theorem dX6_softer_50 : decode cX6_softer 50 = .ok (.aload_n 0, 1) := by decide +kernel
theorem dX6_softer_51 : decode cX6_softer 51 = .ok (.getfield 26, 3) := by decide +kernel
theorem dX6_softer_54 : decode cX6_softer 54 = .ok (.iload_n 2, 1) := by decide +kernel
theorem dX6_softer_55 : decode cX6_softer 55 = .ok (.baload, 1) := by decide +kernel
theorem dX6_softer_56 : decode cX6_softer 56 = .ok (.ifCond .eq 18, 3) := by decide +kernel
theorem dX6_softer_59 : decode cX6_softer 59 = .ok (.aload_n 0, 1) := by decide +kernel
theorem dX6_softer_60 : decode cX6_softer 60 = .ok (.aload_n 0, 1) := by decide +kernel
theorem dX6_softer_61 : decode cX6_softer 61 = .ok (.invokevirtual 94, 3) := by decide +kernel
theorem dX6_softer_64 : decode cX6_softer 64 = .ok (.invokevirtual 148, 3) := by decide +kernel
theorem dX6_softer_67 : decode cX6_softer 67 = .ok (.ifCond .eq 7, 3) := by decide +kernel
theorem dX6_softer_70 : decode cX6_softer 70 = .ok (.iload_n 2, 1) := by decide +kernel
theorem dX6_softer_71 : decode cX6_softer 71 = .ok (.goto 4, 3) := by decide +kernel
theorem dX6_softer_74 : decode cX6_softer 74 = .ok (.iload_n 1, 1) := by decide +kernel
theorem dX6_softer_75 : decode cX6_softer 75 = .ok (.istore_n 1, 1) := by decide +kernel
theorem dX6_softer_76 : decode cX6_softer 76 = .ok (.iinc 2 (-1), 3) := by decide +kernel
theorem dX6_softer_79 : decode cX6_softer 79 = .ok (.goto (-61), 3) := by decide +kernel
theorem dX6_softer_82 : decode cX6_softer 82 = .ok (.iload_n 1, 1) := by decide +kernel
theorem dX6_softer_83 : decode cX6_softer 83 = .ok (.ireturn, 1) := by decide +kernel
theorem dX6_margin_0 : decode cX6_margin 0 = .ok (.iconst 0, 1) := by decide +kernel
theorem dX6_margin_1 : decode cX6_margin 1 = .ok (.istore_n 1, 1) := by decide +kernel
theorem dX6_margin_2 : decode cX6_margin 2 = .ok (.iconst 1, 1) := by decide +kernel
theorem dX6_margin_3 : decode cX6_margin 3 = .ok (.istore_n 2, 1) := by decide +kernel
theorem dX6_margin_4 : decode cX6_margin 4 = .ok (.iload_n 2, 1) := by decide +kernel
theorem dX6_margin_5 : decode cX6_margin 5 = .ok (.bipush 8, 2) := by decide +kernel
theorem dX6_margin_7 : decode cX6_margin 7 = .ok (.if_icmp .gt 58, 3) := by decide +kernel
theorem dX6_margin_10 : decode cX6_margin 10 = .ok (.aload_n 0, 1) := by decide +kernel
theorem dX6_margin_11 : decode cX6_margin 11 = .ok (.iconst 4, 1) := by decide +kernel
theorem dX6_margin_12 : decode cX6_margin 12 = .ok (.putfield 46, 3) := by decide +kernel
theorem dX6_margin_15 : decode cX6_margin 15 = .ok (.iconst 0, 1) := by decide +kernel
theorem dX6_margin_16 : decode cX6_margin 16 = .ok (.istore_n 3, 1) := by decide +kernel
theorem dX6_margin_17 : decode cX6_margin 17 = .ok (.iload_n 3, 1) := by decide +kernel
theorem dX6_margin_18 : decode cX6_margin 18 = .ok (.iconst 5, 1) := by decide +kernel
theorem dX6_margin_19 : decode cX6_margin 19 = .ok (.if_icmp .ge 23, 3) := by decide +kernel
theorem dX6_margin_22 : decode cX6_margin 22 = .ok (.aload_n 0, 1) := by decide +kernel
theorem dX6_margin_23 : decode cX6_margin 23 = .ok (.getfield 43, 3) := by decide +kernel
theorem dX6_margin_26 : decode cX6_margin 26 = .ok (.iload_n 3, 1) := by decide +kernel
theorem dX6_margin_27 : decode cX6_margin 27 = .ok (.aload_n 0, 1) := by decide +kernel
theorem dX6_margin_28 : decode cX6_margin 28 = .ok (.getfield 17, 3) := by decide +kernel
theorem dX6_margin_31 : decode cX6_margin 31 = .ok (.iload_n 3, 1) := by decide +kernel
theorem dX6_margin_32 : decode cX6_margin 32 = .ok (.iaload, 1) := by decide +kernel
theorem dX6_margin_33 : decode cX6_margin 33 = .ok (.iload_n 2, 1) := by decide +kernel
theorem dX6_margin_34 : decode cX6_margin 34 = .ok (.imul, 1) := by decide +kernel
theorem dX6_margin_35 : decode cX6_margin 35 = .ok (.iastore, 1) := by decide +kernel
theorem dX6_margin_36 : decode cX6_margin 36 = .ok (.iinc 3 1, 3) := by decide +kernel
theorem dX6_margin_39 : decode cX6_margin 39 = .ok (.goto (-22), 3) := by decide +kernel
theorem dX6_margin_42 : decode cX6_margin 42 = .ok (.aload_n 0, 1) := by decide +kernel
theorem dX6_margin_43 : decode cX6_margin 43 = .ok (.aload_n 0, 1) := by decide +kernel
theorem dX6_margin_44 : decode cX6_margin 44 = .ok (.invokevirtual 94, 3) := by decide +kernel
theorem dX6_margin_47 : decode cX6_margin 47 = .ok (.invokevirtual 148, 3) := by decide +kernel
theorem dX6_margin_50 : decode cX6_margin 50 = .ok (.ifCond .eq 7, 3) := by decide +kernel
theorem dX6_margin_53 : decode cX6_margin 53 = .ok (.iload_n 2, 1) := by decide +kernel
theorem dX6_margin_54 : decode cX6_margin 54 = .ok (.goto 4, 3) := by decide +kernel
theorem dX6_margin_57 : decode cX6_margin 57 = .ok (.iload_n 1, 1) := by decide +kernel
theorem dX6_margin_58 : decode cX6_margin 58 = .ok (.istore_n 1, 1) := by decide +kernel
theorem dX6_margin_59 : decode cX6_margin 59 = .ok (.iinc 2 1, 3) := by decide +kernel
theorem dX6_margin_62 : decode cX6_margin 62 = .ok (.goto (-58), 3) := by decide +kernel
theorem dX6_margin_65 : decode cX6_margin 65 = .ok (.iload_n 1, 1) := by decide +kernel
theorem dX6_margin_66 : decode cX6_margin 66 = .ok (.ireturn, 1) := by decide +kernel
theorem dX6_shareOf_0 : decode cX6_shareOf 0 = .ok (.aload_n 0, 1) := by decide +kernel
theorem dX6_shareOf_1 : decode cX6_shareOf 1 = .ok (.invokevirtual 114, 3) := by decide +kernel
theorem dX6_shareOf_4 : decode cX6_shareOf 4 = .ok (.aload_n 0, 1) := by decide +kernel
theorem dX6_shareOf_5 : decode cX6_shareOf 5 = .ok (.iload_n 1, 1) := by decide +kernel
theorem dX6_shareOf_6 : decode cX6_shareOf 6 = .ok (.invokevirtual 111, 3) := by decide +kernel
theorem dX6_shareOf_9 : decode cX6_shareOf 9 = .ok (.istore_n 3, 1) := by decide +kernel
theorem dX6_shareOf_10 : decode cX6_shareOf 10 = .ok (.iload_n 3, 1) := by decide +kernel
theorem dX6_shareOf_11 : decode cX6_shareOf 11 = .ok (.ifCond .ne 11, 3) := by decide +kernel
theorem dX6_shareOf_14 : decode cX6_shareOf 14 = .ok (.bipush (-3), 2) := by decide +kernel
theorem dX6_shareOf_16 : decode cX6_shareOf 16 = .ok (.invokestatic 141, 3) := by decide +kernel
theorem dX6_shareOf_19 : decode cX6_shareOf 19 = .ok (.goto 27, 3) := by decide +kernel
theorem dX6_shareOf_22 : decode cX6_shareOf 22 = .ok (.aload_n 0, 1) := by decide +kernel
theorem dX6_shareOf_23 : decode cX6_shareOf 23 = .ok (.getfield 13, 3) := by decide +kernel
theorem dX6_shareOf_26 : decode cX6_shareOf 26 = .ok (.bipush 6, 2) := by decide +kernel
theorem dX6_shareOf_28 : decode cX6_shareOf 28 = .ok (.iload_n 1, 1) := by decide +kernel
theorem dX6_shareOf_29 : decode cX6_shareOf 29 = .ok (.imul, 1) := by decide +kernel
theorem dX6_shareOf_30 : decode cX6_shareOf 30 = .ok (.iaload, 1) := by decide +kernel
theorem dX6_shareOf_31 : decode cX6_shareOf 31 = .ok (.i2l, 1) := by decide +kernel
theorem dX6_shareOf_32 : decode cX6_shareOf 32 = .ok (.aload_n 0, 1) := by decide +kernel
theorem dX6_shareOf_33 : decode cX6_shareOf 33 = .ok (.getfield 30, 3) := by decide +kernel
theorem dX6_shareOf_36 : decode cX6_shareOf 36 = .ok (.iload_n 1, 1) := by decide +kernel
theorem dX6_shareOf_37 : decode cX6_shareOf 37 = .ok (.iaload, 1) := by decide +kernel
theorem dX6_shareOf_38 : decode cX6_shareOf 38 = .ok (.i2l, 1) := by decide +kernel
theorem dX6_shareOf_39 : decode cX6_shareOf 39 = .ok (.lmul, 1) := by decide +kernel
theorem dX6_shareOf_40 : decode cX6_shareOf 40 = .ok (.iload_n 3, 1) := by decide +kernel
theorem dX6_shareOf_41 : decode cX6_shareOf 41 = .ok (.i2l, 1) := by decide +kernel
theorem dX6_shareOf_42 : decode cX6_shareOf 42 = .ok (.iload_n 2, 1) := by decide +kernel
theorem dX6_shareOf_43 : decode cX6_shareOf 43 = .ok (.invokestatic 155, 3) := by decide +kernel
theorem dX6_shareOf_46 : decode cX6_shareOf 46 = .ok (.lreturn, 1) := by decide +kernel
theorem dX6_share_0 : decode cX6_share 0 = .ok (.aload_n 0, 1) := by decide +kernel
theorem dX6_share_1 : decode cX6_share 1 = .ok (.iload_n 1, 1) := by decide +kernel
theorem dX6_share_2 : decode cX6_share 2 = .ok (.invokevirtual 79, 3) := by decide +kernel
theorem dX6_share_5 : decode cX6_share 5 = .ok (.ifCond .eq 12, 3) := by decide +kernel
theorem dX6_share_8 : decode cX6_share 8 = .ok (.iload_n 2, 1) := by decide +kernel
theorem dX6_share_9 : decode cX6_share 9 = .ok (.iconst 0, 1) := by decide +kernel
theorem dX6_share_10 : decode cX6_share 10 = .ok (.iconst 1, 1) := by decide +kernel
theorem dX6_share_11 : decode cX6_share 11 = .ok (.invokestatic 75, 3) := by decide +kernel
theorem dX6_share_14 : decode cX6_share 14 = .ok (.ifCond .ne 9, 3) := by decide +kernel
theorem dX6_share_17 : decode cX6_share 17 = .ok (.bipush (-2), 2) := by decide +kernel
theorem dX6_share_19 : decode cX6_share 19 = .ok (.invokestatic 141, 3) := by decide +kernel
theorem dX6_share_22 : decode cX6_share 22 = .ok (.lreturn, 1) := by decide +kernel
theorem dX6_share_23 : decode cX6_share 23 = .ok (.aload_n 0, 1) := by decide +kernel
theorem dX6_share_24 : decode cX6_share 24 = .ok (.getfield 26, 3) := by decide +kernel
theorem dX6_share_27 : decode cX6_share 27 = .ok (.iload_n 1, 1) := by decide +kernel
theorem dX6_share_28 : decode cX6_share 28 = .ok (.baload, 1) := by decide +kernel
theorem dX6_share_29 : decode cX6_share 29 = .ok (.ifCond .eq 12, 3) := by decide +kernel
theorem dX6_share_32 : decode cX6_share 32 = .ok (.aload_n 0, 1) := by decide +kernel
theorem dX6_share_33 : decode cX6_share 33 = .ok (.iload_n 1, 1) := by decide +kernel
theorem dX6_share_34 : decode cX6_share 34 = .ok (.iload_n 2, 1) := by decide +kernel
theorem dX6_share_35 : decode cX6_share 35 = .ok (.invokevirtual 172, 3) := by decide +kernel
theorem dX6_share_38 : decode cX6_share 38 = .ok (.goto 8, 3) := by decide +kernel
theorem dX6_share_41 : decode cX6_share 41 = .ok (.bipush (-3), 2) := by decide +kernel
theorem dX6_share_43 : decode cX6_share 43 = .ok (.invokestatic 141, 3) := by decide +kernel
theorem dX6_share_46 : decode cX6_share 46 = .ok (.lreturn, 1) := by decide +kernel
theorem dX6_stepped_0 : decode cX6_stepped 0 = .ok (.aload_n 0, 1) := by decide +kernel
theorem dX6_stepped_1 : decode cX6_stepped 1 = .ok (.iload_n 1, 1) := by decide +kernel
theorem dX6_stepped_2 : decode cX6_stepped 2 = .ok (.invokevirtual 117, 3) := by decide +kernel
theorem dX6_stepped_5 : decode cX6_stepped 5 = .ok (.istore_n 2, 1) := by decide +kernel
theorem dX6_stepped_6 : decode cX6_stepped 6 = .ok (.iload_n 2, 1) := by decide +kernel
theorem dX6_stepped_7 : decode cX6_stepped 7 = .ok (.aload_n 0, 1) := by decide +kernel
theorem dX6_stepped_8 : decode cX6_stepped 8 = .ok (.getfield 23, 3) := by decide +kernel
theorem dX6_stepped_11 : decode cX6_stepped 11 = .ok (.iload_n 1, 1) := by decide +kernel
theorem dX6_stepped_12 : decode cX6_stepped 12 = .ok (.iaload, 1) := by decide +kernel
theorem dX6_stepped_13 : decode cX6_stepped 13 = .ok (.if_icmp .ge 7, 3) := by decide +kernel
theorem dX6_stepped_16 : decode cX6_stepped 16 = .ok (.iload_n 2, 1) := by decide +kernel
theorem dX6_stepped_17 : decode cX6_stepped 17 = .ok (.goto 9, 3) := by decide +kernel
theorem dX6_stepped_20 : decode cX6_stepped 20 = .ok (.aload_n 0, 1) := by decide +kernel
theorem dX6_stepped_21 : decode cX6_stepped 21 = .ok (.getfield 23, 3) := by decide +kernel
theorem dX6_stepped_24 : decode cX6_stepped 24 = .ok (.iload_n 1, 1) := by decide +kernel
theorem dX6_stepped_25 : decode cX6_stepped 25 = .ok (.iaload, 1) := by decide +kernel
theorem dX6_stepped_26 : decode cX6_stepped 26 = .ok (.ireturn, 1) := by decide +kernel
theorem dX6_turns_0 : decode cX6_turns 0 = .ok (.iconst 0, 1) := by decide +kernel
theorem dX6_turns_1 : decode cX6_turns 1 = .ok (.istore_n 1, 1) := by decide +kernel
theorem dX6_turns_2 : decode cX6_turns 2 = .ok (.iconst 0, 1) := by decide +kernel
theorem dX6_turns_3 : decode cX6_turns 3 = .ok (.istore_n 2, 1) := by decide +kernel
theorem dX6_turns_4 : decode cX6_turns 4 = .ok (.iload_n 2, 1) := by decide +kernel
theorem dX6_turns_5 : decode cX6_turns 5 = .ok (.aload_n 0, 1) := by decide +kernel
theorem dX6_turns_6 : decode cX6_turns 6 = .ok (.getfield 7, 3) := by decide +kernel
theorem dX6_turns_9 : decode cX6_turns 9 = .ok (.if_icmp .ge 130, 3) := by decide +kernel
theorem dX6_turns_12 : decode cX6_turns 12 = .ok (.aload_n 0, 1) := by decide +kernel
theorem dX6_turns_13 : decode cX6_turns 13 = .ok (.getfield 52, 3) := by decide +kernel
theorem dX6_turns_16 : decode cX6_turns 16 = .ok (.iload_n 2, 1) := by decide +kernel
theorem dX6_turns_17 : decode cX6_turns 17 = .ok (.aload_n 0, 1) := by decide +kernel
theorem dX6_turns_18 : decode cX6_turns 18 = .ok (.getfield 26, 3) := by decide +kernel
theorem dX6_turns_21 : decode cX6_turns 21 = .ok (.iload_n 2, 1) := by decide +kernel
theorem dX6_turns_22 : decode cX6_turns 22 = .ok (.baload, 1) := by decide +kernel
theorem dX6_turns_23 : decode cX6_turns 23 = .ok (.ifCond .eq 11, 3) := by decide +kernel
theorem dX6_turns_26 : decode cX6_turns 26 = .ok (.aload_n 0, 1) := by decide +kernel
theorem dX6_turns_27 : decode cX6_turns 27 = .ok (.iload_n 2, 1) := by decide +kernel
theorem dX6_turns_28 : decode cX6_turns 28 = .ok (.invokevirtual 175, 3) := by decide +kernel
theorem dX6_turns_31 : decode cX6_turns 31 = .ok (.goto 9, 3) := by decide +kernel
theorem dX6_turns_34 : decode cX6_turns 34 = .ok (.aload_n 0, 1) := by decide +kernel
theorem dX6_turns_35 : decode cX6_turns 35 = .ok (.getfield 49, 3) := by decide +kernel
theorem dX6_turns_38 : decode cX6_turns 38 = .ok (.iload_n 2, 1) := by decide +kernel
theorem dX6_turns_39 : decode cX6_turns 39 = .ok (.iaload, 1) := by decide +kernel
theorem dX6_turns_40 : decode cX6_turns 40 = .ok (.iastore, 1) := by decide +kernel
theorem dX6_turns_41 : decode cX6_turns 41 = .ok (.aload_n 0, 1) := by decide +kernel
theorem dX6_turns_42 : decode cX6_turns 42 = .ok (.getfield 52, 3) := by decide +kernel
theorem dX6_turns_45 : decode cX6_turns 45 = .ok (.iload_n 2, 1) := by decide +kernel
theorem dX6_turns_46 : decode cX6_turns 46 = .ok (.aload_n 0, 1) := by decide +kernel
theorem dX6_turns_47 : decode cX6_turns 47 = .ok (.getfield 26, 3) := by decide +kernel
theorem dX6_turns_50 : decode cX6_turns 50 = .ok (.iload_n 2, 1) := by decide +kernel
theorem dX6_turns_51 : decode cX6_turns 51 = .ok (.baload, 1) := by decide +kernel
theorem dX6_turns_52 : decode cX6_turns 52 = .ok (.ifCond .eq 31, 3) := by decide +kernel
theorem dX6_turns_55 : decode cX6_turns 55 = .ok (.aload_n 0, 1) := by decide +kernel
theorem dX6_turns_56 : decode cX6_turns 56 = .ok (.getfield 98, 3) := by decide +kernel
theorem dX6_turns_59 : decode cX6_turns 59 = .ok (.iconst 2, 1) := by decide +kernel
theorem dX6_turns_60 : decode cX6_turns 60 = .ok (.if_icmp .ne 23, 3) := by decide +kernel
theorem dX6_turns_63 : decode cX6_turns 63 = .ok (.aload_n 0, 1) := by decide +kernel
theorem dX6_turns_64 : decode cX6_turns 64 = .ok (.getfield 49, 3) := by decide +kernel
theorem dX6_turns_67 : decode cX6_turns 67 = .ok (.iload_n 2, 1) := by decide +kernel
theorem dX6_turns_68 : decode cX6_turns 68 = .ok (.iaload, 1) := by decide +kernel
theorem dX6_turns_69 : decode cX6_turns 69 = .ok (.aload_n 0, 1) := by decide +kernel
theorem dX6_turns_70 : decode cX6_turns 70 = .ok (.getfield 52, 3) := by decide +kernel
theorem dX6_turns_73 : decode cX6_turns 73 = .ok (.iload_n 2, 1) := by decide +kernel
theorem dX6_turns_74 : decode cX6_turns 74 = .ok (.iaload, 1) := by decide +kernel
theorem dX6_turns_75 : decode cX6_turns 75 = .ok (.iadd, 1) := by decide +kernel
theorem dX6_turns_76 : decode cX6_turns 76 = .ok (.iconst 1, 1) := by decide +kernel
theorem dX6_turns_77 : decode cX6_turns 77 = .ok (.iadd, 1) := by decide +kernel
theorem dX6_turns_78 : decode cX6_turns 78 = .ok (.iconst 2, 1) := by decide +kernel
theorem dX6_turns_79 : decode cX6_turns 79 = .ok (.idiv, 1) := by decide +kernel
theorem dX6_turns_80 : decode cX6_turns 80 = .ok (.goto 9, 3) := by decide +kernel
theorem dX6_turns_83 : decode cX6_turns 83 = .ok (.aload_n 0, 1) := by decide +kernel
theorem dX6_turns_84 : decode cX6_turns 84 = .ok (.getfield 52, 3) := by decide +kernel
theorem dX6_turns_87 : decode cX6_turns 87 = .ok (.iload_n 2, 1) := by decide +kernel
theorem dX6_turns_88 : decode cX6_turns 88 = .ok (.iaload, 1) := by decide +kernel
theorem dX6_turns_89 : decode cX6_turns 89 = .ok (.iastore, 1) := by decide +kernel
theorem dX6_turns_90 : decode cX6_turns 90 = .ok (.aload_n 0, 1) := by decide +kernel
theorem dX6_turns_91 : decode cX6_turns 91 = .ok (.getfield 98, 3) := by decide +kernel
theorem dX6_turns_94 : decode cX6_turns 94 = .ok (.iconst 1, 1) := by decide +kernel
theorem dX6_turns_95 : decode cX6_turns 95 = .ok (.if_icmp .ne 38, 3) := by decide +kernel
theorem dX6_turns_98 : decode cX6_turns 98 = .ok (.iload_n 1, 1) := by decide +kernel
theorem dX6_turns_99 : decode cX6_turns 99 = .ok (.aload_n 0, 1) := by decide +kernel
theorem dX6_turns_100 : decode cX6_turns 100 = .ok (.getfield 52, 3) := by decide +kernel
theorem dX6_turns_103 : decode cX6_turns 103 = .ok (.iload_n 2, 1) := by decide +kernel
theorem dX6_turns_104 : decode cX6_turns 104 = .ok (.iaload, 1) := by decide +kernel
theorem dX6_turns_105 : decode cX6_turns 105 = .ok (.aload_n 0, 1) := by decide +kernel
theorem dX6_turns_106 : decode cX6_turns 106 = .ok (.getfield 49, 3) := by decide +kernel
theorem dX6_turns_109 : decode cX6_turns 109 = .ok (.iload_n 2, 1) := by decide +kernel
theorem dX6_turns_110 : decode cX6_turns 110 = .ok (.iaload, 1) := by decide +kernel
theorem dX6_turns_111 : decode cX6_turns 111 = .ok (.if_icmp .ne 7, 3) := by decide +kernel
theorem dX6_turns_114 : decode cX6_turns 114 = .ok (.iconst 0, 1) := by decide +kernel
theorem dX6_turns_115 : decode cX6_turns 115 = .ok (.goto 4, 3) := by decide +kernel
theorem dX6_turns_118 : decode cX6_turns 118 = .ok (.iconst 1, 1) := by decide +kernel
theorem dX6_turns_119 : decode cX6_turns 119 = .ok (.iadd, 1) := by decide +kernel
theorem dX6_turns_120 : decode cX6_turns 120 = .ok (.istore_n 1, 1) := by decide +kernel
theorem dX6_turns_121 : decode cX6_turns 121 = .ok (.aload_n 0, 1) := by decide +kernel
theorem dX6_turns_122 : decode cX6_turns 122 = .ok (.getfield 49, 3) := by decide +kernel
theorem dX6_turns_125 : decode cX6_turns 125 = .ok (.iload_n 2, 1) := by decide +kernel
theorem dX6_turns_126 : decode cX6_turns 126 = .ok (.aload_n 0, 1) := by decide +kernel
theorem dX6_turns_127 : decode cX6_turns 127 = .ok (.getfield 52, 3) := by decide +kernel
theorem dX6_turns_130 : decode cX6_turns 130 = .ok (.iload_n 2, 1) := by decide +kernel
theorem dX6_turns_131 : decode cX6_turns 131 = .ok (.iaload, 1) := by decide +kernel
theorem dX6_turns_132 : decode cX6_turns 132 = .ok (.iastore, 1) := by decide +kernel
theorem dX6_turns_133 : decode cX6_turns 133 = .ok (.iinc 2 1, 3) := by decide +kernel
theorem dX6_turns_136 : decode cX6_turns 136 = .ok (.goto (-132), 3) := by decide +kernel
theorem dX6_turns_139 : decode cX6_turns 139 = .ok (.iconst 0, 1) := by decide +kernel
theorem dX6_turns_140 : decode cX6_turns 140 = .ok (.istore_n 2, 1) := by decide +kernel
theorem dX6_turns_141 : decode cX6_turns 141 = .ok (.iload_n 2, 1) := by decide +kernel
theorem dX6_turns_142 : decode cX6_turns 142 = .ok (.aload_n 0, 1) := by decide +kernel
theorem dX6_turns_143 : decode cX6_turns 143 = .ok (.getfield 7, 3) := by decide +kernel
theorem dX6_turns_146 : decode cX6_turns 146 = .ok (.if_icmp .ge 44, 3) := by decide +kernel
theorem dX6_turns_149 : decode cX6_turns 149 = .ok (.iload_n 1, 1) := by decide +kernel
theorem dX6_turns_150 : decode cX6_turns 150 = .ok (.aload_n 0, 1) := by decide +kernel
theorem dX6_turns_151 : decode cX6_turns 151 = .ok (.getfield 52, 3) := by decide +kernel
theorem dX6_turns_154 : decode cX6_turns 154 = .ok (.iload_n 2, 1) := by decide +kernel
theorem dX6_turns_155 : decode cX6_turns 155 = .ok (.iaload, 1) := by decide +kernel
theorem dX6_turns_156 : decode cX6_turns 156 = .ok (.aload_n 0, 1) := by decide +kernel
theorem dX6_turns_157 : decode cX6_turns 157 = .ok (.getfield 49, 3) := by decide +kernel
theorem dX6_turns_160 : decode cX6_turns 160 = .ok (.iload_n 2, 1) := by decide +kernel
theorem dX6_turns_161 : decode cX6_turns 161 = .ok (.iaload, 1) := by decide +kernel
theorem dX6_turns_162 : decode cX6_turns 162 = .ok (.if_icmp .ne 7, 3) := by decide +kernel
theorem dX6_turns_165 : decode cX6_turns 165 = .ok (.iconst 0, 1) := by decide +kernel
theorem dX6_turns_166 : decode cX6_turns 166 = .ok (.goto 4, 3) := by decide +kernel
theorem dX6_turns_169 : decode cX6_turns 169 = .ok (.iconst 1, 1) := by decide +kernel
theorem dX6_turns_170 : decode cX6_turns 170 = .ok (.iadd, 1) := by decide +kernel
theorem dX6_turns_171 : decode cX6_turns 171 = .ok (.istore_n 1, 1) := by decide +kernel
theorem dX6_turns_172 : decode cX6_turns 172 = .ok (.aload_n 0, 1) := by decide +kernel
theorem dX6_turns_173 : decode cX6_turns 173 = .ok (.getfield 49, 3) := by decide +kernel
theorem dX6_turns_176 : decode cX6_turns 176 = .ok (.iload_n 2, 1) := by decide +kernel
theorem dX6_turns_177 : decode cX6_turns 177 = .ok (.aload_n 0, 1) := by decide +kernel
theorem dX6_turns_178 : decode cX6_turns 178 = .ok (.getfield 52, 3) := by decide +kernel
theorem dX6_turns_181 : decode cX6_turns 181 = .ok (.iload_n 2, 1) := by decide +kernel
theorem dX6_turns_182 : decode cX6_turns 182 = .ok (.iaload, 1) := by decide +kernel
theorem dX6_turns_183 : decode cX6_turns 183 = .ok (.iastore, 1) := by decide +kernel
theorem dX6_turns_184 : decode cX6_turns 184 = .ok (.iinc 2 1, 3) := by decide +kernel
theorem dX6_turns_187 : decode cX6_turns 187 = .ok (.goto (-46), 3) := by decide +kernel
theorem dX6_turns_190 : decode cX6_turns 190 = .ok (.iload_n 1, 1) := by decide +kernel
theorem dX6_turns_191 : decode cX6_turns 191 = .ok (.ireturn, 1) := by decide +kernel
theorem dX6_keepsTried_0 : decode cX6_keepsTried 0 = .ok (.iconst 0, 1) := by decide +kernel
theorem dX6_keepsTried_1 : decode cX6_keepsTried 1 = .ok (.istore_n 1, 1) := by decide +kernel
theorem dX6_keepsTried_2 : decode cX6_keepsTried 2 = .ok (.iload_n 1, 1) := by decide +kernel
theorem dX6_keepsTried_3 : decode cX6_keepsTried 3 = .ok (.aload_n 0, 1) := by decide +kernel
theorem dX6_keepsTried_4 : decode cX6_keepsTried 4 = .ok (.getfield 7, 3) := by decide +kernel
theorem dX6_keepsTried_7 : decode cX6_keepsTried 7 = .ok (.if_icmp .ge 21, 3) := by decide +kernel
theorem dX6_keepsTried_10 : decode cX6_keepsTried 10 = .ok (.aload_n 0, 1) := by decide +kernel
theorem dX6_keepsTried_11 : decode cX6_keepsTried 11 = .ok (.getfield 30, 3) := by decide +kernel
theorem dX6_keepsTried_14 : decode cX6_keepsTried 14 = .ok (.iload_n 1, 1) := by decide +kernel
theorem dX6_keepsTried_15 : decode cX6_keepsTried 15 = .ok (.aload_n 0, 1) := by decide +kernel
theorem dX6_keepsTried_16 : decode cX6_keepsTried 16 = .ok (.getfield 49, 3) := by decide +kernel
theorem dX6_keepsTried_19 : decode cX6_keepsTried 19 = .ok (.iload_n 1, 1) := by decide +kernel
theorem dX6_keepsTried_20 : decode cX6_keepsTried 20 = .ok (.iaload, 1) := by decide +kernel
theorem dX6_keepsTried_21 : decode cX6_keepsTried 21 = .ok (.iastore, 1) := by decide +kernel
theorem dX6_keepsTried_22 : decode cX6_keepsTried 22 = .ok (.iinc 1 1, 3) := by decide +kernel
theorem dX6_keepsTried_25 : decode cX6_keepsTried 25 = .ok (.goto (-23), 3) := by decide +kernel
theorem dX6_keepsTried_28 : decode cX6_keepsTried 28 = .ok (.return_, 1) := by decide +kernel
theorem dX6_step_0 : decode cX6_step 0 = .ok (.aload_n 0, 1) := by decide +kernel
theorem dX6_step_1 : decode cX6_step 1 = .ok (.iload_n 1, 1) := by decide +kernel
theorem dX6_step_2 : decode cX6_step 2 = .ok (.invokevirtual 79, 3) := by decide +kernel
theorem dX6_step_5 : decode cX6_step 5 = .ok (.ifCond .ne 6, 3) := by decide +kernel
theorem dX6_step_8 : decode cX6_step 8 = .ok (.bipush (-2), 2) := by decide +kernel
theorem dX6_step_10 : decode cX6_step 10 = .ok (.ireturn, 1) := by decide +kernel
theorem dX6_step_11 : decode cX6_step 11 = .ok (.aload_n 0, 1) := by decide +kernel
theorem dX6_step_12 : decode cX6_step 12 = .ok (.getfield 26, 3) := by decide +kernel
theorem dX6_step_15 : decode cX6_step 15 = .ok (.iload_n 1, 1) := by decide +kernel
theorem dX6_step_16 : decode cX6_step 16 = .ok (.baload, 1) := by decide +kernel
theorem dX6_step_17 : decode cX6_step 17 = .ok (.ifCond .ne 6, 3) := by decide +kernel
theorem dX6_step_20 : decode cX6_step 20 = .ok (.bipush (-3), 2) := by decide +kernel
theorem dX6_step_22 : decode cX6_step 22 = .ok (.ireturn, 1) := by decide +kernel
theorem dX6_step_23 : decode cX6_step 23 = .ok (.aload_n 0, 1) := by decide +kernel
theorem dX6_step_24 : decode cX6_step 24 = .ok (.invokevirtual 114, 3) := by decide +kernel
theorem dX6_step_27 : decode cX6_step 27 = .ok (.aload_n 0, 1) := by decide +kernel
theorem dX6_step_28 : decode cX6_step 28 = .ok (.getfield 30, 3) := by decide +kernel
theorem dX6_step_31 : decode cX6_step 31 = .ok (.iload_n 1, 1) := by decide +kernel
theorem dX6_step_32 : decode cX6_step 32 = .ok (.aload_n 0, 1) := by decide +kernel
theorem dX6_step_33 : decode cX6_step 33 = .ok (.iload_n 1, 1) := by decide +kernel
theorem dX6_step_34 : decode cX6_step 34 = .ok (.invokevirtual 175, 3) := by decide +kernel
theorem dX6_step_37 : decode cX6_step 37 = .ok (.iastore, 1) := by decide +kernel
theorem dX6_step_38 : decode cX6_step 38 = .ok (.aload_n 0, 1) := by decide +kernel
theorem dX6_step_39 : decode cX6_step 39 = .ok (.getfield 30, 3) := by decide +kernel
theorem dX6_step_42 : decode cX6_step 42 = .ok (.iload_n 1, 1) := by decide +kernel
theorem dX6_step_43 : decode cX6_step 43 = .ok (.iaload, 1) := by decide +kernel
theorem dX6_step_44 : decode cX6_step 44 = .ok (.ireturn, 1) := by decide +kernel
theorem dX6_turn_0 : decode cX6_turn 0 = .ok (.aload_n 0, 1) := by decide +kernel
theorem dX6_turn_1 : decode cX6_turn 1 = .ok (.invokevirtual 114, 3) := by decide +kernel
theorem dX6_turn_4 : decode cX6_turn 4 = .ok (.aload_n 0, 1) := by decide +kernel
theorem dX6_turn_5 : decode cX6_turn 5 = .ok (.invokevirtual 178, 3) := by decide +kernel
theorem dX6_turn_8 : decode cX6_turn 8 = .ok (.istore_n 1, 1) := by decide +kernel
theorem dX6_turn_9 : decode cX6_turn 9 = .ok (.aload_n 0, 1) := by decide +kernel
theorem dX6_turn_10 : decode cX6_turn 10 = .ok (.invokevirtual 181, 3) := by decide +kernel
theorem dX6_turn_13 : decode cX6_turn 13 = .ok (.iload_n 1, 1) := by decide +kernel
theorem dX6_turn_14 : decode cX6_turn 14 = .ok (.ireturn, 1) := by decide +kernel
theorem dX6_order_0 : decode cX6_order 0 = .ok (.iconst 0, 1) := by decide +kernel
theorem dX6_order_1 : decode cX6_order 1 = .ok (.istore_n 1, 1) := by decide +kernel
theorem dX6_order_2 : decode cX6_order 2 = .ok (.iconst 0, 1) := by decide +kernel
theorem dX6_order_3 : decode cX6_order 3 = .ok (.istore_n 2, 1) := by decide +kernel
theorem dX6_order_4 : decode cX6_order 4 = .ok (.iload_n 2, 1) := by decide +kernel
theorem dX6_order_5 : decode cX6_order 5 = .ok (.aload_n 0, 1) := by decide +kernel
theorem dX6_order_6 : decode cX6_order 6 = .ok (.getfield 101, 3) := by decide +kernel
theorem dX6_order_9 : decode cX6_order 9 = .ok (.if_icmp .ge 68, 3) := by decide +kernel
theorem dX6_order_12 : decode cX6_order 12 = .ok (.aload_n 0, 1) := by decide +kernel
theorem dX6_order_13 : decode cX6_order 13 = .ok (.invokevirtual 184, 3) := by decide +kernel
theorem dX6_order_16 : decode cX6_order 16 = .ok (.iconst (-1), 1) := by decide +kernel
theorem dX6_order_17 : decode cX6_order 17 = .ok (.if_icmp .ne 60, 3) := by decide +kernel
theorem dX6_order_20 : decode cX6_order 20 = .ok (.aload_n 0, 1) := by decide +kernel
theorem dX6_order_21 : decode cX6_order 21 = .ok (.getfield 33, 3) := by decide +kernel
theorem dX6_order_24 : decode cX6_order 24 = .ok (.iload_n 2, 1) := by decide +kernel
theorem dX6_order_25 : decode cX6_order 25 = .ok (.iaload, 1) := by decide +kernel
theorem dX6_order_26 : decode cX6_order 26 = .ok (.bipush 97, 2) := by decide +kernel
theorem dX6_order_28 : decode cX6_order 28 = .ok (.isub, 1) := by decide +kernel
theorem dX6_order_29 : decode cX6_order 29 = .ok (.istore_n 3, 1) := by decide +kernel
theorem dX6_order_30 : decode cX6_order 30 = .ok (.aload_n 0, 1) := by decide +kernel
theorem dX6_order_31 : decode cX6_order 31 = .ok (.invokevirtual 114, 3) := by decide +kernel
theorem dX6_order_34 : decode cX6_order 34 = .ok (.aload_n 0, 1) := by decide +kernel
theorem dX6_order_35 : decode cX6_order 35 = .ok (.getfield 26, 3) := by decide +kernel
theorem dX6_order_38 : decode cX6_order 38 = .ok (.iload_n 3, 1) := by decide +kernel
theorem dX6_order_39 : decode cX6_order 39 = .ok (.baload, 1) := by decide +kernel
theorem dX6_order_40 : decode cX6_order 40 = .ok (.ifCond .eq 31, 3) := by decide +kernel
theorem dX6_order_43 : decode cX6_order 43 = .ok (.aload_n 0, 1) := by decide +kernel
theorem dX6_order_44 : decode cX6_order 44 = .ok (.iload_n 3, 1) := by decide +kernel
theorem dX6_order_45 : decode cX6_order 45 = .ok (.invokevirtual 175, 3) := by decide +kernel
theorem dX6_order_48 : decode cX6_order 48 = .ok (.aload_n 0, 1) := by decide +kernel
theorem dX6_order_49 : decode cX6_order 49 = .ok (.getfield 30, 3) := by decide +kernel
theorem dX6_order_52 : decode cX6_order 52 = .ok (.iload_n 3, 1) := by decide +kernel
theorem dX6_order_53 : decode cX6_order 53 = .ok (.iaload, 1) := by decide +kernel
theorem dX6_order_54 : decode cX6_order 54 = .ok (.if_icmp .eq 17, 3) := by decide +kernel
theorem dX6_order_57 : decode cX6_order 57 = .ok (.aload_n 0, 1) := by decide +kernel
theorem dX6_order_58 : decode cX6_order 58 = .ok (.getfield 30, 3) := by decide +kernel
theorem dX6_order_61 : decode cX6_order 61 = .ok (.iload_n 3, 1) := by decide +kernel
theorem dX6_order_62 : decode cX6_order 62 = .ok (.aload_n 0, 1) := by decide +kernel
theorem dX6_order_63 : decode cX6_order 63 = .ok (.iload_n 3, 1) := by decide +kernel
theorem dX6_order_64 : decode cX6_order 64 = .ok (.invokevirtual 175, 3) := by decide +kernel
theorem dX6_order_67 : decode cX6_order 67 = .ok (.iastore, 1) := by decide +kernel
theorem dX6_order_68 : decode cX6_order 68 = .ok (.iinc 1 1, 3) := by decide +kernel
theorem dX6_order_71 : decode cX6_order 71 = .ok (.iinc 2 1, 3) := by decide +kernel
theorem dX6_order_74 : decode cX6_order 74 = .ok (.goto (-70), 3) := by decide +kernel
theorem dX6_order_77 : decode cX6_order 77 = .ok (.iload_n 1, 1) := by decide +kernel
theorem dX6_order_78 : decode cX6_order 78 = .ok (.ireturn, 1) := by decide +kernel
theorem dX6_stillNow_0 : decode cX6_stillNow 0 = .ok (.aload_n 0, 1) := by decide +kernel
theorem dX6_stillNow_1 : decode cX6_stillNow 1 = .ok (.invokevirtual 114, 3) := by decide +kernel
theorem dX6_stillNow_4 : decode cX6_stillNow 4 = .ok (.iconst 0, 1) := by decide +kernel
theorem dX6_stillNow_5 : decode cX6_stillNow 5 = .ok (.istore_n 1, 1) := by decide +kernel
theorem dX6_stillNow_6 : decode cX6_stillNow 6 = .ok (.iload_n 1, 1) := by decide +kernel
theorem dX6_stillNow_7 : decode cX6_stillNow 7 = .ok (.sipush 200, 3) := by decide +kernel
theorem dX6_stillNow_10 : decode cX6_stillNow 10 = .ok (.if_icmp .ge 16, 3) := by decide +kernel
theorem dX6_stillNow_13 : decode cX6_stillNow 13 = .ok (.aload_n 0, 1) := by decide +kernel
theorem dX6_stillNow_14 : decode cX6_stillNow 14 = .ok (.invokevirtual 178, 3) := by decide +kernel
theorem dX6_stillNow_17 : decode cX6_stillNow 17 = .ok (.ifCond .le 9, 3) := by decide +kernel
theorem dX6_stillNow_20 : decode cX6_stillNow 20 = .ok (.iinc 1 1, 3) := by decide +kernel
theorem dX6_stillNow_23 : decode cX6_stillNow 23 = .ok (.goto (-17), 3) := by decide +kernel
theorem dX6_stillNow_26 : decode cX6_stillNow 26 = .ok (.iload_n 1, 1) := by decide +kernel
theorem dX6_stillNow_27 : decode cX6_stillNow 27 = .ok (.sipush 200, 3) := by decide +kernel
theorem dX6_stillNow_30 : decode cX6_stillNow 30 = .ok (.if_icmp .ge 5, 3) := by decide +kernel
theorem dX6_stillNow_33 : decode cX6_stillNow 33 = .ok (.iload_n 1, 1) := by decide +kernel
theorem dX6_stillNow_34 : decode cX6_stillNow 34 = .ok (.ireturn, 1) := by decide +kernel
theorem dX6_stillNow_35 : decode cX6_stillNow 35 = .ok (.iconst 0, 1) := by decide +kernel
theorem dX6_stillNow_36 : decode cX6_stillNow 36 = .ok (.istore_n 2, 1) := by decide +kernel
theorem dX6_stillNow_37 : decode cX6_stillNow 37 = .ok (.iload_n 2, 1) := by decide +kernel
theorem dX6_stillNow_38 : decode cX6_stillNow 38 = .ok (.aload_n 0, 1) := by decide +kernel
theorem dX6_stillNow_39 : decode cX6_stillNow 39 = .ok (.getfield 7, 3) := by decide +kernel
theorem dX6_stillNow_42 : decode cX6_stillNow 42 = .ok (.if_icmp .ge 21, 3) := by decide +kernel
theorem dX6_stillNow_45 : decode cX6_stillNow 45 = .ok (.aload_n 0, 1) := by decide +kernel
theorem dX6_stillNow_46 : decode cX6_stillNow 46 = .ok (.getfield 55, 3) := by decide +kernel
theorem dX6_stillNow_49 : decode cX6_stillNow 49 = .ok (.iload_n 2, 1) := by decide +kernel
theorem dX6_stillNow_50 : decode cX6_stillNow 50 = .ok (.aload_n 0, 1) := by decide +kernel
theorem dX6_stillNow_51 : decode cX6_stillNow 51 = .ok (.getfield 49, 3) := by decide +kernel
theorem dX6_stillNow_54 : decode cX6_stillNow 54 = .ok (.iload_n 2, 1) := by decide +kernel
theorem dX6_stillNow_55 : decode cX6_stillNow 55 = .ok (.iaload, 1) := by decide +kernel
theorem dX6_stillNow_56 : decode cX6_stillNow 56 = .ok (.iastore, 1) := by decide +kernel
theorem dX6_stillNow_57 : decode cX6_stillNow 57 = .ok (.iinc 2 1, 3) := by decide +kernel
theorem dX6_stillNow_60 : decode cX6_stillNow 60 = .ok (.goto (-23), 3) := by decide +kernel
theorem dX6_stillNow_63 : decode cX6_stillNow 63 = .ok (.aload_n 0, 1) := by decide +kernel
theorem dX6_stillNow_64 : decode cX6_stillNow 64 = .ok (.invokevirtual 178, 3) := by decide +kernel
theorem dX6_stillNow_67 : decode cX6_stillNow 67 = .ok (.istore_n 2, 1) := by decide +kernel
theorem dX6_stillNow_68 : decode cX6_stillNow 68 = .ok (.iconst 0, 1) := by decide +kernel
theorem dX6_stillNow_69 : decode cX6_stillNow 69 = .ok (.istore_n 3, 1) := by decide +kernel
theorem dX6_stillNow_70 : decode cX6_stillNow 70 = .ok (.iload_n 3, 1) := by decide +kernel
theorem dX6_stillNow_71 : decode cX6_stillNow 71 = .ok (.aload_n 0, 1) := by decide +kernel
theorem dX6_stillNow_72 : decode cX6_stillNow 72 = .ok (.getfield 7, 3) := by decide +kernel
theorem dX6_stillNow_75 : decode cX6_stillNow 75 = .ok (.if_icmp .ge 21, 3) := by decide +kernel
theorem dX6_stillNow_78 : decode cX6_stillNow 78 = .ok (.aload_n 0, 1) := by decide +kernel
theorem dX6_stillNow_79 : decode cX6_stillNow 79 = .ok (.getfield 49, 3) := by decide +kernel
theorem dX6_stillNow_82 : decode cX6_stillNow 82 = .ok (.iload_n 3, 1) := by decide +kernel
theorem dX6_stillNow_83 : decode cX6_stillNow 83 = .ok (.aload_n 0, 1) := by decide +kernel
theorem dX6_stillNow_84 : decode cX6_stillNow 84 = .ok (.getfield 55, 3) := by decide +kernel
theorem dX6_stillNow_87 : decode cX6_stillNow 87 = .ok (.iload_n 3, 1) := by decide +kernel
theorem dX6_stillNow_88 : decode cX6_stillNow 88 = .ok (.iaload, 1) := by decide +kernel
theorem dX6_stillNow_89 : decode cX6_stillNow 89 = .ok (.iastore, 1) := by decide +kernel
theorem dX6_stillNow_90 : decode cX6_stillNow 90 = .ok (.iinc 3 1, 3) := by decide +kernel
theorem dX6_stillNow_93 : decode cX6_stillNow 93 = .ok (.goto (-23), 3) := by decide +kernel
theorem dX6_stillNow_96 : decode cX6_stillNow 96 = .ok (.iload_n 2, 1) := by decide +kernel
theorem dX6_stillNow_97 : decode cX6_stillNow 97 = .ok (.ifCond .le 7, 3) := by decide +kernel
theorem dX6_stillNow_100 : decode cX6_stillNow 100 = .ok (.iconst (-1), 1) := by decide +kernel
theorem dX6_stillNow_101 : decode cX6_stillNow 101 = .ok (.goto 6, 3) := by decide +kernel
theorem dX6_stillNow_104 : decode cX6_stillNow 104 = .ok (.sipush 200, 3) := by decide +kernel
theorem dX6_stillNow_107 : decode cX6_stillNow 107 = .ok (.ireturn, 1) := by decide +kernel
theorem dX6_still_0 : decode cX6_still 0 = .ok (.aload_n 0, 1) := by decide +kernel
theorem dX6_still_1 : decode cX6_still 1 = .ok (.invokevirtual 187, 3) := by decide +kernel
theorem dX6_still_4 : decode cX6_still 4 = .ok (.ireturn, 1) := by decide +kernel
theorem dX6_restOf_0 : decode cX6_restOf 0 = .ok (.aload_n 0, 1) := by decide +kernel
theorem dX6_restOf_1 : decode cX6_restOf 1 = .ok (.invokevirtual 187, 3) := by decide +kernel
theorem dX6_restOf_4 : decode cX6_restOf 4 = .ok (.pop, 1) := by decide +kernel
theorem dX6_restOf_5 : decode cX6_restOf 5 = .ok (.aload_n 0, 1) := by decide +kernel
theorem dX6_restOf_6 : decode cX6_restOf 6 = .ok (.getfield 49, 3) := by decide +kernel
theorem dX6_restOf_9 : decode cX6_restOf 9 = .ok (.iload_n 1, 1) := by decide +kernel
theorem dX6_restOf_10 : decode cX6_restOf 10 = .ok (.iaload, 1) := by decide +kernel
theorem dX6_restOf_11 : decode cX6_restOf 11 = .ok (.ireturn, 1) := by decide +kernel
theorem dX6_rest_0 : decode cX6_rest 0 = .ok (.aload_n 0, 1) := by decide +kernel
theorem dX6_rest_1 : decode cX6_rest 1 = .ok (.iload_n 1, 1) := by decide +kernel
theorem dX6_rest_2 : decode cX6_rest 2 = .ok (.invokevirtual 79, 3) := by decide +kernel
theorem dX6_rest_5 : decode cX6_rest 5 = .ok (.ifCond .eq 11, 3) := by decide +kernel
theorem dX6_rest_8 : decode cX6_rest 8 = .ok (.aload_n 0, 1) := by decide +kernel
theorem dX6_rest_9 : decode cX6_rest 9 = .ok (.iload_n 1, 1) := by decide +kernel
theorem dX6_rest_10 : decode cX6_rest 10 = .ok (.invokevirtual 190, 3) := by decide +kernel
theorem dX6_rest_13 : decode cX6_rest 13 = .ok (.goto 5, 3) := by decide +kernel
theorem dX6_rest_16 : decode cX6_rest 16 = .ok (.bipush (-2), 2) := by decide +kernel
theorem dX6_rest_18 : decode cX6_rest 18 = .ok (.ireturn, 1) := by decide +kernel
theorem dX6_metNow_0 : decode cX6_metNow 0 = .ok (.iconst 0, 1) := by decide +kernel
theorem dX6_metNow_1 : decode cX6_metNow 1 = .ok (.istore_n 1, 1) := by decide +kernel
theorem dX6_metNow_2 : decode cX6_metNow 2 = .ok (.iconst 0, 1) := by decide +kernel
theorem dX6_metNow_3 : decode cX6_metNow 3 = .ok (.istore_n 2, 1) := by decide +kernel
theorem dX6_metNow_4 : decode cX6_metNow 4 = .ok (.iload_n 2, 1) := by decide +kernel
theorem dX6_metNow_5 : decode cX6_metNow 5 = .ok (.aload_n 0, 1) := by decide +kernel
theorem dX6_metNow_6 : decode cX6_metNow 6 = .ok (.getfield 7, 3) := by decide +kernel
theorem dX6_metNow_9 : decode cX6_metNow 9 = .ok (.if_icmp .ge 27, 3) := by decide +kernel
theorem dX6_metNow_12 : decode cX6_metNow 12 = .ok (.iload_n 1, 1) := by decide +kernel
theorem dX6_metNow_13 : decode cX6_metNow 13 = .ok (.aload_n 0, 1) := by decide +kernel
theorem dX6_metNow_14 : decode cX6_metNow 14 = .ok (.iload_n 2, 1) := by decide +kernel
theorem dX6_metNow_15 : decode cX6_metNow 15 = .ok (.invokevirtual 120, 3) := by decide +kernel
theorem dX6_metNow_18 : decode cX6_metNow 18 = .ok (.ifCond .eq 9, 3) := by decide +kernel
theorem dX6_metNow_21 : decode cX6_metNow 21 = .ok (.iconst 1, 1) := by decide +kernel
theorem dX6_metNow_22 : decode cX6_metNow 22 = .ok (.iload_n 2, 1) := by decide +kernel
theorem dX6_metNow_23 : decode cX6_metNow 23 = .ok (.ishl, 1) := by decide +kernel
theorem dX6_metNow_24 : decode cX6_metNow 24 = .ok (.goto 4, 3) := by decide +kernel
theorem dX6_metNow_27 : decode cX6_metNow 27 = .ok (.iconst 0, 1) := by decide +kernel
theorem dX6_metNow_28 : decode cX6_metNow 28 = .ok (.ior, 1) := by decide +kernel
theorem dX6_metNow_29 : decode cX6_metNow 29 = .ok (.istore_n 1, 1) := by decide +kernel
theorem dX6_metNow_30 : decode cX6_metNow 30 = .ok (.iinc 2 1, 3) := by decide +kernel
theorem dX6_metNow_33 : decode cX6_metNow 33 = .ok (.goto (-29), 3) := by decide +kernel
theorem dX6_metNow_36 : decode cX6_metNow 36 = .ok (.iload_n 1, 1) := by decide +kernel
theorem dX6_metNow_37 : decode cX6_metNow 37 = .ok (.ireturn, 1) := by decide +kernel
theorem dX6_met_0 : decode cX6_met 0 = .ok (.aload_n 0, 1) := by decide +kernel
theorem dX6_met_1 : decode cX6_met 1 = .ok (.invokevirtual 193, 3) := by decide +kernel
theorem dX6_met_4 : decode cX6_met 4 = .ok (.ireturn, 1) := by decide +kernel
theorem dX6_meets_0 : decode cX6_meets 0 = .ok (.aload_n 0, 1) := by decide +kernel
theorem dX6_meets_1 : decode cX6_meets 1 = .ok (.iload_n 1, 1) := by decide +kernel
theorem dX6_meets_2 : decode cX6_meets 2 = .ok (.putfield 196, 3) := by decide +kernel
theorem dX6_meets_5 : decode cX6_meets 5 = .ok (.bipush (-10), 2) := by decide +kernel
theorem dX6_meets_7 : decode cX6_meets 7 = .ok (.iload_n 1, 1) := by decide +kernel
theorem dX6_meets_8 : decode cX6_meets 8 = .ok (.isub, 1) := by decide +kernel
theorem dX6_meets_9 : decode cX6_meets 9 = .ok (.ireturn, 1) := by decide +kernel
theorem dX6_isSheet_0 : decode cX6_isSheet 0 = .ok (.iload_n 0, 1) := by decide +kernel
theorem dX6_isSheet_1 : decode cX6_isSheet 1 = .ok (.iconst 0, 1) := by decide +kernel
theorem dX6_isSheet_2 : decode cX6_isSheet 2 = .ok (.iconst 3, 1) := by decide +kernel
theorem dX6_isSheet_3 : decode cX6_isSheet 3 = .ok (.invokestatic 75, 3) := by decide +kernel
theorem dX6_isSheet_6 : decode cX6_isSheet 6 = .ok (.ireturn, 1) := by decide +kernel
theorem dX6_sheet_0 : decode cX6_sheet 0 = .ok (.iload_n 1, 1) := by decide +kernel
theorem dX6_sheet_1 : decode cX6_sheet 1 = .ok (.invokestatic 104, 3) := by decide +kernel
theorem dX6_sheet_4 : decode cX6_sheet 4 = .ok (.ifCond .eq 18, 3) := by decide +kernel
theorem dX6_sheet_7 : decode cX6_sheet 7 = .ok (.iload_n 2, 1) := by decide +kernel
theorem dX6_sheet_8 : decode cX6_sheet 8 = .ok (.iconst 0, 1) := by decide +kernel
theorem dX6_sheet_9 : decode cX6_sheet 9 = .ok (.iconst 2, 1) := by decide +kernel
theorem dX6_sheet_10 : decode cX6_sheet 10 = .ok (.invokestatic 75, 3) := by decide +kernel
theorem dX6_sheet_13 : decode cX6_sheet 13 = .ok (.ifCond .eq 9, 3) := by decide +kernel
theorem dX6_sheet_16 : decode cX6_sheet 16 = .ok (.iload_n 3, 1) := by decide +kernel
theorem dX6_sheet_17 : decode cX6_sheet 17 = .ok (.bipush 60, 2) := by decide +kernel
theorem dX6_sheet_19 : decode cX6_sheet 19 = .ok (.if_icmp .le 6, 3) := by decide +kernel
theorem dX6_sheet_22 : decode cX6_sheet 22 = .ok (.bipush (-2), 2) := by decide +kernel
theorem dX6_sheet_24 : decode cX6_sheet 24 = .ok (.ireturn, 1) := by decide +kernel
theorem dX6_sheet_25 : decode cX6_sheet 25 = .ok (.iload_n 3, 1) := by decide +kernel
theorem dX6_sheet_26 : decode cX6_sheet 26 = .ok (.ifCond .ge 9, 3) := by decide +kernel
theorem dX6_sheet_29 : decode cX6_sheet 29 = .ok (.aload_n 0, 1) := by decide +kernel
theorem dX6_sheet_30 : decode cX6_sheet 30 = .ok (.iconst 5, 1) := by decide +kernel
theorem dX6_sheet_31 : decode cX6_sheet 31 = .ok (.invokevirtual 107, 3) := by decide +kernel
theorem dX6_sheet_34 : decode cX6_sheet 34 = .ok (.ireturn, 1) := by decide +kernel
theorem dX6_sheet_35 : decode cX6_sheet 35 = .ok (.aload_n 0, 1) := by decide +kernel
theorem dX6_sheet_36 : decode cX6_sheet 36 = .ok (.getfield 58, 3) := by decide +kernel
theorem dX6_sheet_39 : decode cX6_sheet 39 = .ok (.iload_n 1, 1) := by decide +kernel
theorem dX6_sheet_40 : decode cX6_sheet 40 = .ok (.iconst 1, 1) := by decide +kernel
theorem dX6_sheet_41 : decode cX6_sheet 41 = .ok (.bastore, 1) := by decide +kernel
theorem dX6_sheet_42 : decode cX6_sheet 42 = .ok (.aload_n 0, 1) := by decide +kernel
theorem dX6_sheet_43 : decode cX6_sheet 43 = .ok (.getfield 61, 3) := by decide +kernel
theorem dX6_sheet_46 : decode cX6_sheet 46 = .ok (.iload_n 1, 1) := by decide +kernel
theorem dX6_sheet_47 : decode cX6_sheet 47 = .ok (.iload_n 2, 1) := by decide +kernel
theorem dX6_sheet_48 : decode cX6_sheet 48 = .ok (.iastore, 1) := by decide +kernel
theorem dX6_sheet_49 : decode cX6_sheet 49 = .ok (.aload_n 0, 1) := by decide +kernel
theorem dX6_sheet_50 : decode cX6_sheet 50 = .ok (.getfield 64, 3) := by decide +kernel
theorem dX6_sheet_53 : decode cX6_sheet 53 = .ok (.iload_n 1, 1) := by decide +kernel
theorem dX6_sheet_54 : decode cX6_sheet 54 = .ok (.iload_n 3, 1) := by decide +kernel
theorem dX6_sheet_55 : decode cX6_sheet 55 = .ok (.iastore, 1) := by decide +kernel
theorem dX6_sheet_56 : decode cX6_sheet 56 = .ok (.iconst 0, 1) := by decide +kernel
theorem dX6_sheet_57 : decode cX6_sheet 57 = .ok (.istore 4, 2) := by decide +kernel
theorem dX6_sheet_59 : decode cX6_sheet 59 = .ok (.iload 4, 2) := by decide +kernel
theorem dX6_sheet_61 : decode cX6_sheet 61 = .ok (.bipush 60, 2) := by decide +kernel
theorem dX6_sheet_63 : decode cX6_sheet 63 = .ok (.if_icmp .ge 22, 3) := by decide +kernel
theorem dX6_sheet_66 : decode cX6_sheet 66 = .ok (.aload_n 0, 1) := by decide +kernel
theorem dX6_sheet_67 : decode cX6_sheet 67 = .ok (.getfield 67, 3) := by decide +kernel
theorem dX6_sheet_70 : decode cX6_sheet 70 = .ok (.bipush 60, 2) := by decide +kernel
theorem dX6_sheet_72 : decode cX6_sheet 72 = .ok (.iload_n 1, 1) := by decide +kernel
theorem dX6_sheet_73 : decode cX6_sheet 73 = .ok (.imul, 1) := by decide +kernel
theorem dX6_sheet_74 : decode cX6_sheet 74 = .ok (.iload 4, 2) := by decide +kernel
theorem dX6_sheet_76 : decode cX6_sheet 76 = .ok (.iadd, 1) := by decide +kernel
theorem dX6_sheet_77 : decode cX6_sheet 77 = .ok (.iconst 0, 1) := by decide +kernel
theorem dX6_sheet_78 : decode cX6_sheet 78 = .ok (.iastore, 1) := by decide +kernel
theorem dX6_sheet_79 : decode cX6_sheet 79 = .ok (.iinc 4 1, 3) := by decide +kernel
theorem dX6_sheet_82 : decode cX6_sheet 82 = .ok (.goto (-23), 3) := by decide +kernel
theorem dX6_sheet_85 : decode cX6_sheet 85 = .ok (.iload_n 3, 1) := by decide +kernel
theorem dX6_sheet_86 : decode cX6_sheet 86 = .ok (.ireturn, 1) := by decide +kernel
theorem dX6_lose_0 : decode cX6_lose 0 = .ok (.iload_n 1, 1) := by decide +kernel
theorem dX6_lose_1 : decode cX6_lose 1 = .ok (.invokestatic 104, 3) := by decide +kernel
theorem dX6_lose_4 : decode cX6_lose 4 = .ok (.ifCond .ne 6, 3) := by decide +kernel
theorem dX6_lose_7 : decode cX6_lose 7 = .ok (.bipush (-2), 2) := by decide +kernel
theorem dX6_lose_9 : decode cX6_lose 9 = .ok (.ireturn, 1) := by decide +kernel
theorem dX6_lose_10 : decode cX6_lose 10 = .ok (.aload_n 0, 1) := by decide +kernel
theorem dX6_lose_11 : decode cX6_lose 11 = .ok (.getfield 58, 3) := by decide +kernel
theorem dX6_lose_14 : decode cX6_lose 14 = .ok (.iload_n 1, 1) := by decide +kernel
theorem dX6_lose_15 : decode cX6_lose 15 = .ok (.baload, 1) := by decide +kernel
theorem dX6_lose_16 : decode cX6_lose 16 = .ok (.ifCond .ne 9, 3) := by decide +kernel
theorem dX6_lose_19 : decode cX6_lose 19 = .ok (.aload_n 0, 1) := by decide +kernel
theorem dX6_lose_20 : decode cX6_lose 20 = .ok (.iconst 1, 1) := by decide +kernel
theorem dX6_lose_21 : decode cX6_lose 21 = .ok (.invokevirtual 107, 3) := by decide +kernel
theorem dX6_lose_24 : decode cX6_lose 24 = .ok (.ireturn, 1) := by decide +kernel
theorem dX6_lose_25 : decode cX6_lose 25 = .ok (.aload_n 0, 1) := by decide +kernel
theorem dX6_lose_26 : decode cX6_lose 26 = .ok (.getfield 58, 3) := by decide +kernel
theorem dX6_lose_29 : decode cX6_lose 29 = .ok (.iload_n 1, 1) := by decide +kernel
theorem dX6_lose_30 : decode cX6_lose 30 = .ok (.iconst 0, 1) := by decide +kernel
theorem dX6_lose_31 : decode cX6_lose 31 = .ok (.bastore, 1) := by decide +kernel
theorem dX6_lose_32 : decode cX6_lose 32 = .ok (.aload_n 0, 1) := by decide +kernel
theorem dX6_lose_33 : decode cX6_lose 33 = .ok (.getfield 64, 3) := by decide +kernel
theorem dX6_lose_36 : decode cX6_lose 36 = .ok (.iload_n 1, 1) := by decide +kernel
theorem dX6_lose_37 : decode cX6_lose 37 = .ok (.iaload, 1) := by decide +kernel
theorem dX6_lose_38 : decode cX6_lose 38 = .ok (.ireturn, 1) := by decide +kernel
theorem dX6_lacks_0 : decode cX6_lacks 0 = .ok (.aload_n 0, 1) := by decide +kernel
theorem dX6_lacks_1 : decode cX6_lacks 1 = .ok (.getfield 58, 3) := by decide +kernel
theorem dX6_lacks_4 : decode cX6_lacks 4 = .ok (.iload_n 1, 1) := by decide +kernel
theorem dX6_lacks_5 : decode cX6_lacks 5 = .ok (.baload, 1) := by decide +kernel
theorem dX6_lacks_6 : decode cX6_lacks 6 = .ok (.ifCond .ne 7, 3) := by decide +kernel
theorem dX6_lacks_9 : decode cX6_lacks 9 = .ok (.iconst 1, 1) := by decide +kernel
theorem dX6_lacks_10 : decode cX6_lacks 10 = .ok (.goto 38, 3) := by decide +kernel
theorem dX6_lacks_13 : decode cX6_lacks 13 = .ok (.aload_n 0, 1) := by decide +kernel
theorem dX6_lacks_14 : decode cX6_lacks 14 = .ok (.getfield 61, 3) := by decide +kernel
theorem dX6_lacks_17 : decode cX6_lacks 17 = .ok (.iload_n 1, 1) := by decide +kernel
theorem dX6_lacks_18 : decode cX6_lacks 18 = .ok (.iaload, 1) := by decide +kernel
theorem dX6_lacks_19 : decode cX6_lacks 19 = .ok (.iload_n 2, 1) := by decide +kernel
theorem dX6_lacks_20 : decode cX6_lacks 20 = .ok (.if_icmp .eq 7, 3) := by decide +kernel
theorem dX6_lacks_23 : decode cX6_lacks 23 = .ok (.iconst 3, 1) := by decide +kernel
theorem dX6_lacks_24 : decode cX6_lacks 24 = .ok (.goto 24, 3) := by decide +kernel
theorem dX6_lacks_27 : decode cX6_lacks 27 = .ok (.iload_n 3, 1) := by decide +kernel
theorem dX6_lacks_28 : decode cX6_lacks 28 = .ok (.iconst 0, 1) := by decide +kernel
theorem dX6_lacks_29 : decode cX6_lacks 29 = .ok (.aload_n 0, 1) := by decide +kernel
theorem dX6_lacks_30 : decode cX6_lacks 30 = .ok (.getfield 64, 3) := by decide +kernel
theorem dX6_lacks_33 : decode cX6_lacks 33 = .ok (.iload_n 1, 1) := by decide +kernel
theorem dX6_lacks_34 : decode cX6_lacks 34 = .ok (.iaload, 1) := by decide +kernel
theorem dX6_lacks_35 : decode cX6_lacks 35 = .ok (.iconst 1, 1) := by decide +kernel
theorem dX6_lacks_36 : decode cX6_lacks 36 = .ok (.isub, 1) := by decide +kernel
theorem dX6_lacks_37 : decode cX6_lacks 37 = .ok (.invokestatic 75, 3) := by decide +kernel
theorem dX6_lacks_40 : decode cX6_lacks 40 = .ok (.ifCond .eq 7, 3) := by decide +kernel
theorem dX6_lacks_43 : decode cX6_lacks 43 = .ok (.iconst 0, 1) := by decide +kernel
theorem dX6_lacks_44 : decode cX6_lacks 44 = .ok (.goto 4, 3) := by decide +kernel
theorem dX6_lacks_47 : decode cX6_lacks 47 = .ok (.iconst 2, 1) := by decide +kernel
theorem dX6_lacks_48 : decode cX6_lacks 48 = .ok (.ireturn, 1) := by decide +kernel
theorem dX6_keep_0 : decode cX6_keep 0 = .ok (.aload_n 0, 1) := by decide +kernel
theorem dX6_keep_1 : decode cX6_keep 1 = .ok (.getfield 67, 3) := by decide +kernel
theorem dX6_keep_4 : decode cX6_keep 4 = .ok (.bipush 60, 2) := by decide +kernel
theorem dX6_keep_6 : decode cX6_keep 6 = .ok (.iload_n 1, 1) := by decide +kernel
theorem dX6_keep_7 : decode cX6_keep 7 = .ok (.imul, 1) := by decide +kernel
theorem dX6_keep_8 : decode cX6_keep 8 = .ok (.iload_n 2, 1) := by decide +kernel
theorem dX6_keep_9 : decode cX6_keep 9 = .ok (.iadd, 1) := by decide +kernel
theorem dX6_keep_10 : decode cX6_keep 10 = .ok (.aload_n 0, 1) := by decide +kernel
theorem dX6_keep_11 : decode cX6_keep 11 = .ok (.getfield 61, 3) := by decide +kernel
theorem dX6_keep_14 : decode cX6_keep 14 = .ok (.iload_n 1, 1) := by decide +kernel
theorem dX6_keep_15 : decode cX6_keep 15 = .ok (.iaload, 1) := by decide +kernel
theorem dX6_keep_16 : decode cX6_keep 16 = .ok (.ifCond .ne 8, 3) := by decide +kernel
theorem dX6_keep_19 : decode cX6_keep 19 = .ok (.iload_n 3, 1) := by decide +kernel
theorem dX6_keep_20 : decode cX6_keep 20 = .ok (.i2b, 1) := by decide +kernel
theorem dX6_keep_21 : decode cX6_keep 21 = .ok (.goto 19, 3) := by decide +kernel
theorem dX6_keep_24 : decode cX6_keep 24 = .ok (.aload_n 0, 1) := by decide +kernel
theorem dX6_keep_25 : decode cX6_keep 25 = .ok (.getfield 61, 3) := by decide +kernel
theorem dX6_keep_28 : decode cX6_keep 28 = .ok (.iload_n 1, 1) := by decide +kernel
theorem dX6_keep_29 : decode cX6_keep 29 = .ok (.iaload, 1) := by decide +kernel
theorem dX6_keep_30 : decode cX6_keep 30 = .ok (.iconst 1, 1) := by decide +kernel
theorem dX6_keep_31 : decode cX6_keep 31 = .ok (.if_icmp .ne 8, 3) := by decide +kernel
theorem dX6_keep_34 : decode cX6_keep 34 = .ok (.iload_n 3, 1) := by decide +kernel
theorem dX6_keep_35 : decode cX6_keep 35 = .ok (.i2s, 1) := by decide +kernel
theorem dX6_keep_36 : decode cX6_keep 36 = .ok (.goto 4, 3) := by decide +kernel
theorem dX6_keep_39 : decode cX6_keep 39 = .ok (.iload_n 3, 1) := by decide +kernel
theorem dX6_keep_40 : decode cX6_keep 40 = .ok (.iastore, 1) := by decide +kernel
theorem dX6_keep_41 : decode cX6_keep 41 = .ok (.return_, 1) := by decide +kernel
theorem dX6_put_0 : decode cX6_put 0 = .ok (.iload_n 1, 1) := by decide +kernel
theorem dX6_put_1 : decode cX6_put 1 = .ok (.invokestatic 104, 3) := by decide +kernel
theorem dX6_put_4 : decode cX6_put 4 = .ok (.ifCond .eq 12, 3) := by decide +kernel
theorem dX6_put_7 : decode cX6_put 7 = .ok (.iload_n 2, 1) := by decide +kernel
theorem dX6_put_8 : decode cX6_put 8 = .ok (.iconst 0, 1) := by decide +kernel
theorem dX6_put_9 : decode cX6_put 9 = .ok (.iconst 2, 1) := by decide +kernel
theorem dX6_put_10 : decode cX6_put 10 = .ok (.invokestatic 75, 3) := by decide +kernel
theorem dX6_put_13 : decode cX6_put 13 = .ok (.ifCond .ne 6, 3) := by decide +kernel
theorem dX6_put_16 : decode cX6_put 16 = .ok (.bipush (-2), 2) := by decide +kernel
theorem dX6_put_18 : decode cX6_put 18 = .ok (.ireturn, 1) := by decide +kernel
theorem dX6_put_19 : decode cX6_put 19 = .ok (.aload_n 0, 1) := by decide +kernel
theorem dX6_put_20 : decode cX6_put 20 = .ok (.iload_n 1, 1) := by decide +kernel
theorem dX6_put_21 : decode cX6_put 21 = .ok (.iload_n 2, 1) := by decide +kernel
theorem dX6_put_22 : decode cX6_put 22 = .ok (.iload_n 3, 1) := by decide +kernel
theorem dX6_put_23 : decode cX6_put 23 = .ok (.invokevirtual 199, 3) := by decide +kernel
theorem dX6_put_26 : decode cX6_put 26 = .ok (.istore 5, 2) := by decide +kernel
theorem dX6_put_28 : decode cX6_put 28 = .ok (.iload 5, 2) := by decide +kernel
theorem dX6_put_30 : decode cX6_put 30 = .ok (.ifCond .le 10, 3) := by decide +kernel
theorem dX6_put_33 : decode cX6_put 33 = .ok (.aload_n 0, 1) := by decide +kernel
theorem dX6_put_34 : decode cX6_put 34 = .ok (.iload 5, 2) := by decide +kernel
theorem dX6_put_36 : decode cX6_put 36 = .ok (.invokevirtual 107, 3) := by decide +kernel
theorem dX6_put_39 : decode cX6_put 39 = .ok (.ireturn, 1) := by decide +kernel
theorem dX6_put_40 : decode cX6_put 40 = .ok (.aload_n 0, 1) := by decide +kernel
theorem dX6_put_41 : decode cX6_put 41 = .ok (.iload_n 1, 1) := by decide +kernel
theorem dX6_put_42 : decode cX6_put 42 = .ok (.iload_n 3, 1) := by decide +kernel
theorem dX6_put_43 : decode cX6_put 43 = .ok (.iload 4, 2) := by decide +kernel
theorem dX6_put_45 : decode cX6_put 45 = .ok (.invokevirtual 203, 3) := by decide +kernel
theorem dX6_put_48 : decode cX6_put 48 = .ok (.iconst 1, 1) := by decide +kernel
theorem dX6_put_49 : decode cX6_put 49 = .ok (.ireturn, 1) := by decide +kernel
theorem dX6_get_0 : decode cX6_get 0 = .ok (.iload_n 1, 1) := by decide +kernel
theorem dX6_get_1 : decode cX6_get 1 = .ok (.invokestatic 104, 3) := by decide +kernel
theorem dX6_get_4 : decode cX6_get 4 = .ok (.ifCond .eq 12, 3) := by decide +kernel
theorem dX6_get_7 : decode cX6_get 7 = .ok (.iload_n 2, 1) := by decide +kernel
theorem dX6_get_8 : decode cX6_get 8 = .ok (.iconst 0, 1) := by decide +kernel
theorem dX6_get_9 : decode cX6_get 9 = .ok (.iconst 2, 1) := by decide +kernel
theorem dX6_get_10 : decode cX6_get 10 = .ok (.invokestatic 75, 3) := by decide +kernel
theorem dX6_get_13 : decode cX6_get 13 = .ok (.ifCond .ne 6, 3) := by decide +kernel
theorem dX6_get_16 : decode cX6_get 16 = .ok (.ldc 207, 2) := by decide +kernel
theorem dX6_get_18 : decode cX6_get 18 = .ok (.ireturn, 1) := by decide +kernel
theorem dX6_get_19 : decode cX6_get 19 = .ok (.aload_n 0, 1) := by decide +kernel
theorem dX6_get_20 : decode cX6_get 20 = .ok (.iload_n 1, 1) := by decide +kernel
theorem dX6_get_21 : decode cX6_get 21 = .ok (.iload_n 2, 1) := by decide +kernel
theorem dX6_get_22 : decode cX6_get 22 = .ok (.iload_n 3, 1) := by decide +kernel
theorem dX6_get_23 : decode cX6_get 23 = .ok (.invokevirtual 199, 3) := by decide +kernel
theorem dX6_get_26 : decode cX6_get 26 = .ok (.istore 4, 2) := by decide +kernel
theorem dX6_get_28 : decode cX6_get 28 = .ok (.iload 4, 2) := by decide +kernel
theorem dX6_get_30 : decode cX6_get 30 = .ok (.ifCond .le 12, 3) := by decide +kernel
theorem dX6_get_33 : decode cX6_get 33 = .ok (.aload_n 0, 1) := by decide +kernel
theorem dX6_get_34 : decode cX6_get 34 = .ok (.iload 4, 2) := by decide +kernel
theorem dX6_get_36 : decode cX6_get 36 = .ok (.putfield 196, 3) := by decide +kernel
theorem dX6_get_39 : decode cX6_get 39 = .ok (.ldc 207, 2) := by decide +kernel
theorem dX6_get_41 : decode cX6_get 41 = .ok (.ireturn, 1) := by decide +kernel
theorem dX6_get_42 : decode cX6_get 42 = .ok (.aload_n 0, 1) := by decide +kernel
theorem dX6_get_43 : decode cX6_get 43 = .ok (.getfield 67, 3) := by decide +kernel
theorem dX6_get_46 : decode cX6_get 46 = .ok (.bipush 60, 2) := by decide +kernel
theorem dX6_get_48 : decode cX6_get 48 = .ok (.iload_n 1, 1) := by decide +kernel
theorem dX6_get_49 : decode cX6_get 49 = .ok (.imul, 1) := by decide +kernel
theorem dX6_get_50 : decode cX6_get 50 = .ok (.iload_n 3, 1) := by decide +kernel
theorem dX6_get_51 : decode cX6_get 51 = .ok (.iadd, 1) := by decide +kernel
theorem dX6_get_52 : decode cX6_get 52 = .ok (.iaload, 1) := by decide +kernel
theorem dX6_get_53 : decode cX6_get 53 = .ok (.ireturn, 1) := by decide +kernel
theorem dX6_copy_0 : decode cX6_copy 0 = .ok (.iload_n 1, 1) := by decide +kernel
theorem dX6_copy_1 : decode cX6_copy 1 = .ok (.invokestatic 104, 3) := by decide +kernel
theorem dX6_copy_4 : decode cX6_copy 4 = .ok (.ifCond .eq 10, 3) := by decide +kernel
theorem dX6_copy_7 : decode cX6_copy 7 = .ok (.iload_n 3, 1) := by decide +kernel
theorem dX6_copy_8 : decode cX6_copy 8 = .ok (.invokestatic 104, 3) := by decide +kernel
theorem dX6_copy_11 : decode cX6_copy 11 = .ok (.ifCond .ne 6, 3) := by decide +kernel
theorem dX6_copy_14 : decode cX6_copy 14 = .ok (.bipush (-2), 2) := by decide +kernel
theorem dX6_copy_16 : decode cX6_copy 16 = .ok (.ireturn, 1) := by decide +kernel
theorem dX6_copy_17 : decode cX6_copy 17 = .ok (.aload_n 0, 1) := by decide +kernel
theorem dX6_copy_18 : decode cX6_copy 18 = .ok (.getfield 58, 3) := by decide +kernel
theorem dX6_copy_21 : decode cX6_copy 21 = .ok (.iload_n 1, 1) := by decide +kernel
theorem dX6_copy_22 : decode cX6_copy 22 = .ok (.baload, 1) := by decide +kernel
theorem dX6_copy_23 : decode cX6_copy 23 = .ok (.ifCond .eq 12, 3) := by decide +kernel
theorem dX6_copy_26 : decode cX6_copy 26 = .ok (.aload_n 0, 1) := by decide +kernel
theorem dX6_copy_27 : decode cX6_copy 27 = .ok (.getfield 58, 3) := by decide +kernel
theorem dX6_copy_30 : decode cX6_copy 30 = .ok (.iload_n 3, 1) := by decide +kernel
theorem dX6_copy_31 : decode cX6_copy 31 = .ok (.baload, 1) := by decide +kernel
theorem dX6_copy_32 : decode cX6_copy 32 = .ok (.ifCond .ne 9, 3) := by decide +kernel
theorem dX6_copy_35 : decode cX6_copy 35 = .ok (.aload_n 0, 1) := by decide +kernel
theorem dX6_copy_36 : decode cX6_copy 36 = .ok (.iconst 1, 1) := by decide +kernel
theorem dX6_copy_37 : decode cX6_copy 37 = .ok (.invokevirtual 107, 3) := by decide +kernel
theorem dX6_copy_40 : decode cX6_copy 40 = .ok (.ireturn, 1) := by decide +kernel
theorem dX6_copy_41 : decode cX6_copy 41 = .ok (.aload_n 0, 1) := by decide +kernel
theorem dX6_copy_42 : decode cX6_copy 42 = .ok (.getfield 61, 3) := by decide +kernel
theorem dX6_copy_45 : decode cX6_copy 45 = .ok (.iload_n 1, 1) := by decide +kernel
theorem dX6_copy_46 : decode cX6_copy 46 = .ok (.iaload, 1) := by decide +kernel
theorem dX6_copy_47 : decode cX6_copy 47 = .ok (.aload_n 0, 1) := by decide +kernel
theorem dX6_copy_48 : decode cX6_copy 48 = .ok (.getfield 61, 3) := by decide +kernel
theorem dX6_copy_51 : decode cX6_copy 51 = .ok (.iload_n 3, 1) := by decide +kernel
theorem dX6_copy_52 : decode cX6_copy 52 = .ok (.iaload, 1) := by decide +kernel
theorem dX6_copy_53 : decode cX6_copy 53 = .ok (.if_icmp .eq 9, 3) := by decide +kernel
theorem dX6_copy_56 : decode cX6_copy 56 = .ok (.aload_n 0, 1) := by decide +kernel
theorem dX6_copy_57 : decode cX6_copy 57 = .ok (.iconst 4, 1) := by decide +kernel
theorem dX6_copy_58 : decode cX6_copy 58 = .ok (.invokevirtual 107, 3) := by decide +kernel
theorem dX6_copy_61 : decode cX6_copy 61 = .ok (.ireturn, 1) := by decide +kernel
theorem dX6_copy_62 : decode cX6_copy 62 = .ok (.iload_n 2, 1) := by decide +kernel
theorem dX6_copy_63 : decode cX6_copy 63 = .ok (.ifCond .lt 48, 3) := by decide +kernel
theorem dX6_copy_66 : decode cX6_copy 66 = .ok (.iload 4, 2) := by decide +kernel
theorem dX6_copy_68 : decode cX6_copy 68 = .ok (.ifCond .lt 43, 3) := by decide +kernel
theorem dX6_copy_71 : decode cX6_copy 71 = .ok (.iload 5, 2) := by decide +kernel
theorem dX6_copy_73 : decode cX6_copy 73 = .ok (.ifCond .lt 38, 3) := by decide +kernel
theorem dX6_copy_76 : decode cX6_copy 76 = .ok (.iload_n 2, 1) := by decide +kernel
theorem dX6_copy_77 : decode cX6_copy 77 = .ok (.i2l, 1) := by decide +kernel
theorem dX6_copy_78 : decode cX6_copy 78 = .ok (.iload 5, 2) := by decide +kernel
theorem dX6_copy_80 : decode cX6_copy 80 = .ok (.i2l, 1) := by decide +kernel
theorem dX6_copy_81 : decode cX6_copy 81 = .ok (.ladd, 1) := by decide +kernel
theorem dX6_copy_82 : decode cX6_copy 82 = .ok (.aload_n 0, 1) := by decide +kernel
theorem dX6_copy_83 : decode cX6_copy 83 = .ok (.getfield 64, 3) := by decide +kernel
theorem dX6_copy_86 : decode cX6_copy 86 = .ok (.iload_n 1, 1) := by decide +kernel
theorem dX6_copy_87 : decode cX6_copy 87 = .ok (.iaload, 1) := by decide +kernel
theorem dX6_copy_88 : decode cX6_copy 88 = .ok (.i2l, 1) := by decide +kernel
theorem dX6_copy_89 : decode cX6_copy 89 = .ok (.lcmp, 1) := by decide +kernel
theorem dX6_copy_90 : decode cX6_copy 90 = .ok (.ifCond .gt 21, 3) := by decide +kernel
theorem dX6_copy_93 : decode cX6_copy 93 = .ok (.iload 4, 2) := by decide +kernel
theorem dX6_copy_95 : decode cX6_copy 95 = .ok (.i2l, 1) := by decide +kernel
theorem dX6_copy_96 : decode cX6_copy 96 = .ok (.iload 5, 2) := by decide +kernel
theorem dX6_copy_98 : decode cX6_copy 98 = .ok (.i2l, 1) := by decide +kernel
theorem dX6_copy_99 : decode cX6_copy 99 = .ok (.ladd, 1) := by decide +kernel
theorem dX6_copy_100 : decode cX6_copy 100 = .ok (.aload_n 0, 1) := by decide +kernel
theorem dX6_copy_101 : decode cX6_copy 101 = .ok (.getfield 64, 3) := by decide +kernel
theorem dX6_copy_104 : decode cX6_copy 104 = .ok (.iload_n 3, 1) := by decide +kernel
theorem dX6_copy_105 : decode cX6_copy 105 = .ok (.iaload, 1) := by decide +kernel
theorem dX6_copy_106 : decode cX6_copy 106 = .ok (.i2l, 1) := by decide +kernel
theorem dX6_copy_107 : decode cX6_copy 107 = .ok (.lcmp, 1) := by decide +kernel
theorem dX6_copy_108 : decode cX6_copy 108 = .ok (.ifCond .le 9, 3) := by decide +kernel
theorem dX6_copy_111 : decode cX6_copy 111 = .ok (.aload_n 0, 1) := by decide +kernel
theorem dX6_copy_112 : decode cX6_copy 112 = .ok (.iconst 2, 1) := by decide +kernel
theorem dX6_copy_113 : decode cX6_copy 113 = .ok (.invokevirtual 107, 3) := by decide +kernel
theorem dX6_copy_116 : decode cX6_copy 116 = .ok (.ireturn, 1) := by decide +kernel
theorem dX6_copy_117 : decode cX6_copy 117 = .ok (.iconst 0, 1) := by decide +kernel
theorem dX6_copy_118 : decode cX6_copy 118 = .ok (.istore 6, 2) := by decide +kernel
theorem dX6_copy_120 : decode cX6_copy 120 = .ok (.iload 6, 2) := by decide +kernel
theorem dX6_copy_122 : decode cX6_copy 122 = .ok (.iload 5, 2) := by decide +kernel
theorem dX6_copy_124 : decode cX6_copy 124 = .ok (.if_icmp .ge 30, 3) := by decide +kernel
theorem dX6_copy_127 : decode cX6_copy 127 = .ok (.aload_n 0, 1) := by decide +kernel
theorem dX6_copy_128 : decode cX6_copy 128 = .ok (.getfield 70, 3) := by decide +kernel
theorem dX6_copy_131 : decode cX6_copy 131 = .ok (.iload 6, 2) := by decide +kernel
theorem dX6_copy_133 : decode cX6_copy 133 = .ok (.aload_n 0, 1) := by decide +kernel
theorem dX6_copy_134 : decode cX6_copy 134 = .ok (.getfield 67, 3) := by decide +kernel
theorem dX6_copy_137 : decode cX6_copy 137 = .ok (.bipush 60, 2) := by decide +kernel
theorem dX6_copy_139 : decode cX6_copy 139 = .ok (.iload_n 1, 1) := by decide +kernel
theorem dX6_copy_140 : decode cX6_copy 140 = .ok (.imul, 1) := by decide +kernel
theorem dX6_copy_141 : decode cX6_copy 141 = .ok (.iload_n 2, 1) := by decide +kernel
theorem dX6_copy_142 : decode cX6_copy 142 = .ok (.iadd, 1) := by decide +kernel
theorem dX6_copy_143 : decode cX6_copy 143 = .ok (.iload 6, 2) := by decide +kernel
theorem dX6_copy_145 : decode cX6_copy 145 = .ok (.iadd, 1) := by decide +kernel
theorem dX6_copy_146 : decode cX6_copy 146 = .ok (.iaload, 1) := by decide +kernel
theorem dX6_copy_147 : decode cX6_copy 147 = .ok (.iastore, 1) := by decide +kernel
theorem dX6_copy_148 : decode cX6_copy 148 = .ok (.iinc 6 1, 3) := by decide +kernel
theorem dX6_copy_151 : decode cX6_copy 151 = .ok (.goto (-31), 3) := by decide +kernel
theorem dX6_copy_154 : decode cX6_copy 154 = .ok (.iconst 0, 1) := by decide +kernel
theorem dX6_copy_155 : decode cX6_copy 155 = .ok (.istore 6, 2) := by decide +kernel
theorem dX6_copy_157 : decode cX6_copy 157 = .ok (.iload 6, 2) := by decide +kernel
theorem dX6_copy_159 : decode cX6_copy 159 = .ok (.iload 5, 2) := by decide +kernel
theorem dX6_copy_161 : decode cX6_copy 161 = .ok (.if_icmp .ge 31, 3) := by decide +kernel
theorem dX6_copy_164 : decode cX6_copy 164 = .ok (.aload_n 0, 1) := by decide +kernel
theorem dX6_copy_165 : decode cX6_copy 165 = .ok (.getfield 67, 3) := by decide +kernel
theorem dX6_copy_168 : decode cX6_copy 168 = .ok (.bipush 60, 2) := by decide +kernel
theorem dX6_copy_170 : decode cX6_copy 170 = .ok (.iload_n 3, 1) := by decide +kernel
theorem dX6_copy_171 : decode cX6_copy 171 = .ok (.imul, 1) := by decide +kernel
theorem dX6_copy_172 : decode cX6_copy 172 = .ok (.iload 4, 2) := by decide +kernel
theorem dX6_copy_174 : decode cX6_copy 174 = .ok (.iadd, 1) := by decide +kernel
theorem dX6_copy_175 : decode cX6_copy 175 = .ok (.iload 6, 2) := by decide +kernel
theorem dX6_copy_177 : decode cX6_copy 177 = .ok (.iadd, 1) := by decide +kernel
theorem dX6_copy_178 : decode cX6_copy 178 = .ok (.aload_n 0, 1) := by decide +kernel
theorem dX6_copy_179 : decode cX6_copy 179 = .ok (.getfield 70, 3) := by decide +kernel
theorem dX6_copy_182 : decode cX6_copy 182 = .ok (.iload 6, 2) := by decide +kernel
theorem dX6_copy_184 : decode cX6_copy 184 = .ok (.iaload, 1) := by decide +kernel
theorem dX6_copy_185 : decode cX6_copy 185 = .ok (.iastore, 1) := by decide +kernel
theorem dX6_copy_186 : decode cX6_copy 186 = .ok (.iinc 6 1, 3) := by decide +kernel
theorem dX6_copy_189 : decode cX6_copy 189 = .ok (.goto (-32), 3) := by decide +kernel
theorem dX6_copy_192 : decode cX6_copy 192 = .ok (.iconst 1, 1) := by decide +kernel
theorem dX6_copy_193 : decode cX6_copy 193 = .ok (.ireturn, 1) := by decide +kernel
theorem dX6_write_0 : decode cX6_write 0 = .ok (.iload_n 1, 1) := by decide +kernel
theorem dX6_write_1 : decode cX6_write 1 = .ok (.invokestatic 104, 3) := by decide +kernel
theorem dX6_write_4 : decode cX6_write 4 = .ok (.ifCond .ne 6, 3) := by decide +kernel
theorem dX6_write_7 : decode cX6_write 7 = .ok (.bipush (-2), 2) := by decide +kernel
theorem dX6_write_9 : decode cX6_write 9 = .ok (.ireturn, 1) := by decide +kernel
theorem dX6_write_10 : decode cX6_write 10 = .ok (.aload_n 0, 1) := by decide +kernel
theorem dX6_write_11 : decode cX6_write 11 = .ok (.getfield 58, 3) := by decide +kernel
theorem dX6_write_14 : decode cX6_write 14 = .ok (.iload_n 1, 1) := by decide +kernel
theorem dX6_write_15 : decode cX6_write 15 = .ok (.baload, 1) := by decide +kernel
theorem dX6_write_16 : decode cX6_write 16 = .ok (.ifCond .ne 9, 3) := by decide +kernel
theorem dX6_write_19 : decode cX6_write 19 = .ok (.aload_n 0, 1) := by decide +kernel
theorem dX6_write_20 : decode cX6_write 20 = .ok (.iconst 1, 1) := by decide +kernel
theorem dX6_write_21 : decode cX6_write 21 = .ok (.invokevirtual 107, 3) := by decide +kernel
theorem dX6_write_24 : decode cX6_write 24 = .ok (.ireturn, 1) := by decide +kernel
theorem dX6_write_25 : decode cX6_write 25 = .ok (.iconst 0, 1) := by decide +kernel
theorem dX6_write_26 : decode cX6_write 26 = .ok (.istore_n 2, 1) := by decide +kernel
theorem dX6_write_27 : decode cX6_write 27 = .ok (.iload_n 2, 1) := by decide +kernel
theorem dX6_write_28 : decode cX6_write 28 = .ok (.aload_n 0, 1) := by decide +kernel
theorem dX6_write_29 : decode cX6_write 29 = .ok (.getfield 64, 3) := by decide +kernel
theorem dX6_write_32 : decode cX6_write 32 = .ok (.iload_n 1, 1) := by decide +kernel
theorem dX6_write_33 : decode cX6_write 33 = .ok (.iaload, 1) := by decide +kernel
theorem dX6_write_34 : decode cX6_write 34 = .ok (.if_icmp .ge 28, 3) := by decide +kernel
theorem dX6_write_37 : decode cX6_write 37 = .ok (.iload_n 2, 1) := by decide +kernel
theorem dX6_write_38 : decode cX6_write 38 = .ok (.aload_n 0, 1) := by decide +kernel
theorem dX6_write_39 : decode cX6_write 39 = .ok (.getfield 7, 3) := by decide +kernel
theorem dX6_write_42 : decode cX6_write 42 = .ok (.if_icmp .ge 20, 3) := by decide +kernel
theorem dX6_write_45 : decode cX6_write 45 = .ok (.aload_n 0, 1) := by decide +kernel
theorem dX6_write_46 : decode cX6_write 46 = .ok (.iload_n 1, 1) := by decide +kernel
theorem dX6_write_47 : decode cX6_write 47 = .ok (.iload_n 2, 1) := by decide +kernel
theorem dX6_write_48 : decode cX6_write 48 = .ok (.aload_n 0, 1) := by decide +kernel
theorem dX6_write_49 : decode cX6_write 49 = .ok (.iload_n 2, 1) := by decide +kernel
theorem dX6_write_50 : decode cX6_write 50 = .ok (.invokevirtual 190, 3) := by decide +kernel
theorem dX6_write_53 : decode cX6_write 53 = .ok (.invokevirtual 203, 3) := by decide +kernel
theorem dX6_write_56 : decode cX6_write 56 = .ok (.iinc 2 1, 3) := by decide +kernel
theorem dX6_write_59 : decode cX6_write 59 = .ok (.goto (-32), 3) := by decide +kernel
theorem dX6_write_62 : decode cX6_write 62 = .ok (.iload_n 2, 1) := by decide +kernel
theorem dX6_write_63 : decode cX6_write 63 = .ok (.ireturn, 1) := by decide +kernel
theorem dX6_sumOn_0 : decode cX6_sumOn 0 = .ok (.iconst 0, 1) := by decide +kernel
theorem dX6_sumOn_1 : decode cX6_sumOn 1 = .ok (.istore_n 1, 1) := by decide +kernel
theorem dX6_sumOn_2 : decode cX6_sumOn 2 = .ok (.iconst 0, 1) := by decide +kernel
theorem dX6_sumOn_3 : decode cX6_sumOn 3 = .ok (.istore_n 2, 1) := by decide +kernel
theorem dX6_sumOn_4 : decode cX6_sumOn 4 = .ok (.iload_n 2, 1) := by decide +kernel
theorem dX6_sumOn_5 : decode cX6_sumOn 5 = .ok (.aload_n 0, 1) := by decide +kernel
theorem dX6_sumOn_6 : decode cX6_sumOn 6 = .ok (.getfield 7, 3) := by decide +kernel
theorem dX6_sumOn_9 : decode cX6_sumOn 9 = .ok (.if_icmp .ge 31, 3) := by decide +kernel
theorem dX6_sumOn_12 : decode cX6_sumOn 12 = .ok (.iload_n 1, 1) := by decide +kernel
theorem dX6_sumOn_13 : decode cX6_sumOn 13 = .ok (.aload_n 0, 1) := by decide +kernel
theorem dX6_sumOn_14 : decode cX6_sumOn 14 = .ok (.getfield 26, 3) := by decide +kernel
theorem dX6_sumOn_17 : decode cX6_sumOn 17 = .ok (.iload_n 2, 1) := by decide +kernel
theorem dX6_sumOn_18 : decode cX6_sumOn 18 = .ok (.baload, 1) := by decide +kernel
theorem dX6_sumOn_19 : decode cX6_sumOn 19 = .ok (.ifCond .eq 12, 3) := by decide +kernel
theorem dX6_sumOn_22 : decode cX6_sumOn 22 = .ok (.aload_n 0, 1) := by decide +kernel
theorem dX6_sumOn_23 : decode cX6_sumOn 23 = .ok (.getfield 30, 3) := by decide +kernel
theorem dX6_sumOn_26 : decode cX6_sumOn 26 = .ok (.iload_n 2, 1) := by decide +kernel
theorem dX6_sumOn_27 : decode cX6_sumOn 27 = .ok (.iaload, 1) := by decide +kernel
theorem dX6_sumOn_28 : decode cX6_sumOn 28 = .ok (.goto 4, 3) := by decide +kernel
theorem dX6_sumOn_31 : decode cX6_sumOn 31 = .ok (.iconst 0, 1) := by decide +kernel
theorem dX6_sumOn_32 : decode cX6_sumOn 32 = .ok (.iadd, 1) := by decide +kernel
theorem dX6_sumOn_33 : decode cX6_sumOn 33 = .ok (.istore_n 1, 1) := by decide +kernel
theorem dX6_sumOn_34 : decode cX6_sumOn 34 = .ok (.iinc 2 1, 3) := by decide +kernel
theorem dX6_sumOn_37 : decode cX6_sumOn 37 = .ok (.goto (-33), 3) := by decide +kernel
theorem dX6_sumOn_40 : decode cX6_sumOn 40 = .ok (.iload_n 1, 1) := by decide +kernel
theorem dX6_sumOn_41 : decode cX6_sumOn 41 = .ok (.ireturn, 1) := by decide +kernel
theorem dX6_count_0 : decode cX6_count 0 = .ok (.iload_n 1, 1) := by decide +kernel
theorem dX6_count_1 : decode cX6_count 1 = .ok (.tableswitch 108 0 8 #[51, 56, 64, 72, 77, 85, 93, 98, 103], 51) := by decide +kernel
theorem dX6_count_52 : decode cX6_count 52 = .ok (.aload_n 0, 1) := by decide +kernel
theorem dX6_count_53 : decode cX6_count 53 = .ok (.getfield 7, 3) := by decide +kernel
theorem dX6_count_56 : decode cX6_count 56 = .ok (.ireturn, 1) := by decide +kernel
theorem dX6_count_57 : decode cX6_count 57 = .ok (.aload_n 0, 1) := by decide +kernel
theorem dX6_count_58 : decode cX6_count 58 = .ok (.invokevirtual 94, 3) := by decide +kernel
theorem dX6_count_61 : decode cX6_count 61 = .ok (.invokestatic 134, 3) := by decide +kernel
theorem dX6_count_64 : decode cX6_count 64 = .ok (.ireturn, 1) := by decide +kernel
theorem dX6_count_65 : decode cX6_count 65 = .ok (.aload_n 0, 1) := by decide +kernel
theorem dX6_count_66 : decode cX6_count 66 = .ok (.invokevirtual 193, 3) := by decide +kernel
theorem dX6_count_69 : decode cX6_count 69 = .ok (.invokestatic 134, 3) := by decide +kernel
theorem dX6_count_72 : decode cX6_count 72 = .ok (.ireturn, 1) := by decide +kernel
theorem dX6_count_73 : decode cX6_count 73 = .ok (.aload_n 0, 1) := by decide +kernel
theorem dX6_count_74 : decode cX6_count 74 = .ok (.invokevirtual 208, 3) := by decide +kernel
theorem dX6_count_77 : decode cX6_count 77 = .ok (.ireturn, 1) := by decide +kernel
theorem dX6_count_78 : decode cX6_count 78 = .ok (.aload_n 0, 1) := by decide +kernel
theorem dX6_count_79 : decode cX6_count 79 = .ok (.invokevirtual 166, 3) := by decide +kernel
theorem dX6_count_82 : decode cX6_count 82 = .ok (.invokestatic 134, 3) := by decide +kernel
theorem dX6_count_85 : decode cX6_count 85 = .ok (.ireturn, 1) := by decide +kernel
theorem dX6_count_86 : decode cX6_count 86 = .ok (.aload_n 0, 1) := by decide +kernel
theorem dX6_count_87 : decode cX6_count 87 = .ok (.invokevirtual 169, 3) := by decide +kernel
theorem dX6_count_90 : decode cX6_count 90 = .ok (.invokestatic 134, 3) := by decide +kernel
theorem dX6_count_93 : decode cX6_count 93 = .ok (.ireturn, 1) := by decide +kernel
theorem dX6_count_94 : decode cX6_count 94 = .ok (.aload_n 0, 1) := by decide +kernel
theorem dX6_count_95 : decode cX6_count 95 = .ok (.getfield 101, 3) := by decide +kernel
theorem dX6_count_98 : decode cX6_count 98 = .ok (.ireturn, 1) := by decide +kernel
theorem dX6_count_99 : decode cX6_count 99 = .ok (.aload_n 0, 1) := by decide +kernel
theorem dX6_count_100 : decode cX6_count 100 = .ok (.invokevirtual 187, 3) := by decide +kernel
theorem dX6_count_103 : decode cX6_count 103 = .ok (.ireturn, 1) := by decide +kernel
theorem dX6_count_104 : decode cX6_count 104 = .ok (.aload_n 0, 1) := by decide +kernel
theorem dX6_count_105 : decode cX6_count 105 = .ok (.getfield 196, 3) := by decide +kernel
theorem dX6_count_108 : decode cX6_count 108 = .ok (.ireturn, 1) := by decide +kernel
theorem dX6_count_109 : decode cX6_count 109 = .ok (.bipush (-2), 2) := by decide +kernel
theorem dX6_count_111 : decode cX6_count 111 = .ok (.ireturn, 1) := by decide +kernel
theorem dX6_senderDigest_0 : decode cX6_senderDigest 0 = .ok (.lload_n 1, 1) := by decide +kernel
theorem dX6_senderDigest_1 : decode cX6_senderDigest 1 = .ok (.lstore 4, 2) := by decide +kernel
theorem dX6_senderDigest_3 : decode cX6_senderDigest 3 = .ok (.iconst 0, 1) := by decide +kernel
theorem dX6_senderDigest_4 : decode cX6_senderDigest 4 = .ok (.istore 6, 2) := by decide +kernel
theorem dX6_senderDigest_6 : decode cX6_senderDigest 6 = .ok (.iload 6, 2) := by decide +kernel
theorem dX6_senderDigest_8 : decode cX6_senderDigest 8 = .ok (.bipush 8, 2) := by decide +kernel
theorem dX6_senderDigest_10 : decode cX6_senderDigest 10 = .ok (.if_icmp .ge 26, 3) := by decide +kernel
theorem dX6_senderDigest_13 : decode cX6_senderDigest 13 = .ok (.ldc2_w 211, 3) := by decide +kernel
theorem dX6_senderDigest_16 : decode cX6_senderDigest 16 = .ok (.lload 4, 2) := by decide +kernel
theorem dX6_senderDigest_18 : decode cX6_senderDigest 18 = .ok (.lmul, 1) := by decide +kernel
theorem dX6_senderDigest_19 : decode cX6_senderDigest 19 = .ok (.aload_n 0, 1) := by decide +kernel
theorem dX6_senderDigest_20 : decode cX6_senderDigest 20 = .ok (.iload_n 3, 1) := by decide +kernel
theorem dX6_senderDigest_21 : decode cX6_senderDigest 21 = .ok (.iload 6, 2) := by decide +kernel
theorem dX6_senderDigest_23 : decode cX6_senderDigest 23 = .ok (.invokevirtual 123, 3) := by decide +kernel
theorem dX6_senderDigest_26 : decode cX6_senderDigest 26 = .ok (.i2l, 1) := by decide +kernel
theorem dX6_senderDigest_27 : decode cX6_senderDigest 27 = .ok (.ladd, 1) := by decide +kernel
theorem dX6_senderDigest_28 : decode cX6_senderDigest 28 = .ok (.lstore 4, 2) := by decide +kernel
theorem dX6_senderDigest_30 : decode cX6_senderDigest 30 = .ok (.iinc 6 1, 3) := by decide +kernel
theorem dX6_senderDigest_33 : decode cX6_senderDigest 33 = .ok (.goto (-27), 3) := by decide +kernel
theorem dX6_senderDigest_36 : decode cX6_senderDigest 36 = .ok (.ldc2_w 211, 3) := by decide +kernel
theorem dX6_senderDigest_39 : decode cX6_senderDigest 39 = .ok (.lload 4, 2) := by decide +kernel
theorem dX6_senderDigest_41 : decode cX6_senderDigest 41 = .ok (.lmul, 1) := by decide +kernel
theorem dX6_senderDigest_42 : decode cX6_senderDigest 42 = .ok (.aload_n 0, 1) := by decide +kernel
theorem dX6_senderDigest_43 : decode cX6_senderDigest 43 = .ok (.iload_n 3, 1) := by decide +kernel
theorem dX6_senderDigest_44 : decode cX6_senderDigest 44 = .ok (.iconst 0, 1) := by decide +kernel
theorem dX6_senderDigest_45 : decode cX6_senderDigest 45 = .ok (.invokevirtual 213, 3) := by decide +kernel
theorem dX6_senderDigest_48 : decode cX6_senderDigest 48 = .ok (.ladd, 1) := by decide +kernel
theorem dX6_senderDigest_49 : decode cX6_senderDigest 49 = .ok (.lstore 4, 2) := by decide +kernel
theorem dX6_senderDigest_51 : decode cX6_senderDigest 51 = .ok (.ldc2_w 211, 3) := by decide +kernel
theorem dX6_senderDigest_54 : decode cX6_senderDigest 54 = .ok (.lload 4, 2) := by decide +kernel
theorem dX6_senderDigest_56 : decode cX6_senderDigest 56 = .ok (.lmul, 1) := by decide +kernel
theorem dX6_senderDigest_57 : decode cX6_senderDigest 57 = .ok (.aload_n 0, 1) := by decide +kernel
theorem dX6_senderDigest_58 : decode cX6_senderDigest 58 = .ok (.iload_n 3, 1) := by decide +kernel
theorem dX6_senderDigest_59 : decode cX6_senderDigest 59 = .ok (.iconst 1, 1) := by decide +kernel
theorem dX6_senderDigest_60 : decode cX6_senderDigest 60 = .ok (.invokevirtual 213, 3) := by decide +kernel
theorem dX6_senderDigest_63 : decode cX6_senderDigest 63 = .ok (.ladd, 1) := by decide +kernel
theorem dX6_senderDigest_64 : decode cX6_senderDigest 64 = .ok (.lstore 4, 2) := by decide +kernel
theorem dX6_senderDigest_66 : decode cX6_senderDigest 66 = .ok (.ldc2_w 211, 3) := by decide +kernel
theorem dX6_senderDigest_69 : decode cX6_senderDigest 69 = .ok (.lload 4, 2) := by decide +kernel
theorem dX6_senderDigest_71 : decode cX6_senderDigest 71 = .ok (.lmul, 1) := by decide +kernel
theorem dX6_senderDigest_72 : decode cX6_senderDigest 72 = .ok (.aload_n 0, 1) := by decide +kernel
theorem dX6_senderDigest_73 : decode cX6_senderDigest 73 = .ok (.iload_n 3, 1) := by decide +kernel
theorem dX6_senderDigest_74 : decode cX6_senderDigest 74 = .ok (.iconst 0, 1) := by decide +kernel
theorem dX6_senderDigest_75 : decode cX6_senderDigest 75 = .ok (.invokevirtual 216, 3) := by decide +kernel
theorem dX6_senderDigest_78 : decode cX6_senderDigest 78 = .ok (.ladd, 1) := by decide +kernel
theorem dX6_senderDigest_79 : decode cX6_senderDigest 79 = .ok (.lstore 4, 2) := by decide +kernel
theorem dX6_senderDigest_81 : decode cX6_senderDigest 81 = .ok (.ldc2_w 211, 3) := by decide +kernel
theorem dX6_senderDigest_84 : decode cX6_senderDigest 84 = .ok (.lload 4, 2) := by decide +kernel
theorem dX6_senderDigest_86 : decode cX6_senderDigest 86 = .ok (.lmul, 1) := by decide +kernel
theorem dX6_senderDigest_87 : decode cX6_senderDigest 87 = .ok (.aload_n 0, 1) := by decide +kernel
theorem dX6_senderDigest_88 : decode cX6_senderDigest 88 = .ok (.iload_n 3, 1) := by decide +kernel
theorem dX6_senderDigest_89 : decode cX6_senderDigest 89 = .ok (.iconst 1, 1) := by decide +kernel
theorem dX6_senderDigest_90 : decode cX6_senderDigest 90 = .ok (.invokevirtual 216, 3) := by decide +kernel
theorem dX6_senderDigest_93 : decode cX6_senderDigest 93 = .ok (.ladd, 1) := by decide +kernel
theorem dX6_senderDigest_94 : decode cX6_senderDigest 94 = .ok (.lstore 4, 2) := by decide +kernel
theorem dX6_senderDigest_96 : decode cX6_senderDigest 96 = .ok (.ldc2_w 211, 3) := by decide +kernel
theorem dX6_senderDigest_99 : decode cX6_senderDigest 99 = .ok (.lload 4, 2) := by decide +kernel
theorem dX6_senderDigest_101 : decode cX6_senderDigest 101 = .ok (.lmul, 1) := by decide +kernel
theorem dX6_senderDigest_102 : decode cX6_senderDigest 102 = .ok (.aload_n 0, 1) := by decide +kernel
theorem dX6_senderDigest_103 : decode cX6_senderDigest 103 = .ok (.iload_n 3, 1) := by decide +kernel
theorem dX6_senderDigest_104 : decode cX6_senderDigest 104 = .ok (.invokevirtual 190, 3) := by decide +kernel
theorem dX6_senderDigest_107 : decode cX6_senderDigest 107 = .ok (.i2l, 1) := by decide +kernel
theorem dX6_senderDigest_108 : decode cX6_senderDigest 108 = .ok (.ladd, 1) := by decide +kernel
theorem dX6_senderDigest_109 : decode cX6_senderDigest 109 = .ok (.lstore 4, 2) := by decide +kernel
theorem dX6_senderDigest_111 : decode cX6_senderDigest 111 = .ok (.iconst 0, 1) := by decide +kernel
theorem dX6_senderDigest_112 : decode cX6_senderDigest 112 = .ok (.istore 6, 2) := by decide +kernel
theorem dX6_senderDigest_114 : decode cX6_senderDigest 114 = .ok (.iload 6, 2) := by decide +kernel
theorem dX6_senderDigest_116 : decode cX6_senderDigest 116 = .ok (.aload_n 0, 1) := by decide +kernel
theorem dX6_senderDigest_117 : decode cX6_senderDigest 117 = .ok (.getfield 7, 3) := by decide +kernel
theorem dX6_senderDigest_120 : decode cX6_senderDigest 120 = .ok (.if_icmp .ge 30, 3) := by decide +kernel
theorem dX6_senderDigest_123 : decode cX6_senderDigest 123 = .ok (.ldc2_w 211, 3) := by decide +kernel
theorem dX6_senderDigest_126 : decode cX6_senderDigest 126 = .ok (.lload 4, 2) := by decide +kernel
theorem dX6_senderDigest_128 : decode cX6_senderDigest 128 = .ok (.lmul, 1) := by decide +kernel
theorem dX6_senderDigest_129 : decode cX6_senderDigest 129 = .ok (.aload_n 0, 1) := by decide +kernel
theorem dX6_senderDigest_130 : decode cX6_senderDigest 130 = .ok (.getfield 13, 3) := by decide +kernel
theorem dX6_senderDigest_133 : decode cX6_senderDigest 133 = .ok (.iconst 5, 1) := by decide +kernel
theorem dX6_senderDigest_134 : decode cX6_senderDigest 134 = .ok (.iload_n 3, 1) := by decide +kernel
theorem dX6_senderDigest_135 : decode cX6_senderDigest 135 = .ok (.imul, 1) := by decide +kernel
theorem dX6_senderDigest_136 : decode cX6_senderDigest 136 = .ok (.iload 6, 2) := by decide +kernel
theorem dX6_senderDigest_138 : decode cX6_senderDigest 138 = .ok (.iadd, 1) := by decide +kernel
theorem dX6_senderDigest_139 : decode cX6_senderDigest 139 = .ok (.iaload, 1) := by decide +kernel
theorem dX6_senderDigest_140 : decode cX6_senderDigest 140 = .ok (.i2l, 1) := by decide +kernel
theorem dX6_senderDigest_141 : decode cX6_senderDigest 141 = .ok (.ladd, 1) := by decide +kernel
theorem dX6_senderDigest_142 : decode cX6_senderDigest 142 = .ok (.lstore 4, 2) := by decide +kernel
theorem dX6_senderDigest_144 : decode cX6_senderDigest 144 = .ok (.iinc 6 1, 3) := by decide +kernel
theorem dX6_senderDigest_147 : decode cX6_senderDigest 147 = .ok (.goto (-33), 3) := by decide +kernel
theorem dX6_senderDigest_150 : decode cX6_senderDigest 150 = .ok (.lload 4, 2) := by decide +kernel
theorem dX6_senderDigest_152 : decode cX6_senderDigest 152 = .ok (.lreturn, 1) := by decide +kernel
theorem dX6_digest_0 : decode cX6_digest 0 = .ok (.ldc2_w 219, 3) := by decide +kernel
theorem dX6_digest_3 : decode cX6_digest 3 = .ok (.lstore_n 1, 1) := by decide +kernel
theorem dX6_digest_4 : decode cX6_digest 4 = .ok (.iconst 0, 1) := by decide +kernel
theorem dX6_digest_5 : decode cX6_digest 5 = .ok (.istore_n 3, 1) := by decide +kernel
theorem dX6_digest_6 : decode cX6_digest 6 = .ok (.iload_n 3, 1) := by decide +kernel
theorem dX6_digest_7 : decode cX6_digest 7 = .ok (.bipush 8, 2) := by decide +kernel
theorem dX6_digest_9 : decode cX6_digest 9 = .ok (.if_icmp .ge 22, 3) := by decide +kernel
theorem dX6_digest_12 : decode cX6_digest 12 = .ok (.ldc2_w 211, 3) := by decide +kernel
theorem dX6_digest_15 : decode cX6_digest 15 = .ok (.lload_n 1, 1) := by decide +kernel
theorem dX6_digest_16 : decode cX6_digest 16 = .ok (.lmul, 1) := by decide +kernel
theorem dX6_digest_17 : decode cX6_digest 17 = .ok (.aload_n 0, 1) := by decide +kernel
theorem dX6_digest_18 : decode cX6_digest 18 = .ok (.iload_n 3, 1) := by decide +kernel
theorem dX6_digest_19 : decode cX6_digest 19 = .ok (.invokevirtual 221, 3) := by decide +kernel
theorem dX6_digest_22 : decode cX6_digest 22 = .ok (.i2l, 1) := by decide +kernel
theorem dX6_digest_23 : decode cX6_digest 23 = .ok (.ladd, 1) := by decide +kernel
theorem dX6_digest_24 : decode cX6_digest 24 = .ok (.lstore_n 1, 1) := by decide +kernel
theorem dX6_digest_25 : decode cX6_digest 25 = .ok (.iinc 3 1, 3) := by decide +kernel
theorem dX6_digest_28 : decode cX6_digest 28 = .ok (.goto (-22), 3) := by decide +kernel
theorem dX6_digest_31 : decode cX6_digest 31 = .ok (.ldc2_w 211, 3) := by decide +kernel
theorem dX6_digest_34 : decode cX6_digest 34 = .ok (.lload_n 1, 1) := by decide +kernel
theorem dX6_digest_35 : decode cX6_digest 35 = .ok (.lmul, 1) := by decide +kernel
theorem dX6_digest_36 : decode cX6_digest 36 = .ok (.aload_n 0, 1) := by decide +kernel
theorem dX6_digest_37 : decode cX6_digest 37 = .ok (.invokevirtual 184, 3) := by decide +kernel
theorem dX6_digest_40 : decode cX6_digest 40 = .ok (.i2l, 1) := by decide +kernel
theorem dX6_digest_41 : decode cX6_digest 41 = .ok (.ladd, 1) := by decide +kernel
theorem dX6_digest_42 : decode cX6_digest 42 = .ok (.lstore_n 1, 1) := by decide +kernel
theorem dX6_digest_43 : decode cX6_digest 43 = .ok (.ldc2_w 211, 3) := by decide +kernel
theorem dX6_digest_46 : decode cX6_digest 46 = .ok (.lload_n 1, 1) := by decide +kernel
theorem dX6_digest_47 : decode cX6_digest 47 = .ok (.lmul, 1) := by decide +kernel
theorem dX6_digest_48 : decode cX6_digest 48 = .ok (.aload_n 0, 1) := by decide +kernel
theorem dX6_digest_49 : decode cX6_digest 49 = .ok (.invokevirtual 224, 3) := by decide +kernel
theorem dX6_digest_52 : decode cX6_digest 52 = .ok (.i2l, 1) := by decide +kernel
theorem dX6_digest_53 : decode cX6_digest 53 = .ok (.ladd, 1) := by decide +kernel
theorem dX6_digest_54 : decode cX6_digest 54 = .ok (.lstore_n 1, 1) := by decide +kernel
theorem dX6_digest_55 : decode cX6_digest 55 = .ok (.ldc2_w 211, 3) := by decide +kernel
theorem dX6_digest_58 : decode cX6_digest 58 = .ok (.lload_n 1, 1) := by decide +kernel
theorem dX6_digest_59 : decode cX6_digest 59 = .ok (.lmul, 1) := by decide +kernel
theorem dX6_digest_60 : decode cX6_digest 60 = .ok (.aload_n 0, 1) := by decide +kernel
theorem dX6_digest_61 : decode cX6_digest 61 = .ok (.invokevirtual 163, 3) := by decide +kernel
theorem dX6_digest_64 : decode cX6_digest 64 = .ok (.i2l, 1) := by decide +kernel
theorem dX6_digest_65 : decode cX6_digest 65 = .ok (.ladd, 1) := by decide +kernel
theorem dX6_digest_66 : decode cX6_digest 66 = .ok (.lstore_n 1, 1) := by decide +kernel
theorem dX6_digest_67 : decode cX6_digest 67 = .ok (.ldc2_w 211, 3) := by decide +kernel
theorem dX6_digest_70 : decode cX6_digest 70 = .ok (.lload_n 1, 1) := by decide +kernel
theorem dX6_digest_71 : decode cX6_digest 71 = .ok (.lmul, 1) := by decide +kernel
theorem dX6_digest_72 : decode cX6_digest 72 = .ok (.aload_n 0, 1) := by decide +kernel
theorem dX6_digest_73 : decode cX6_digest 73 = .ok (.invokevirtual 166, 3) := by decide +kernel
theorem dX6_digest_76 : decode cX6_digest 76 = .ok (.i2l, 1) := by decide +kernel
theorem dX6_digest_77 : decode cX6_digest 77 = .ok (.ladd, 1) := by decide +kernel
theorem dX6_digest_78 : decode cX6_digest 78 = .ok (.lstore_n 1, 1) := by decide +kernel
theorem dX6_digest_79 : decode cX6_digest 79 = .ok (.ldc2_w 211, 3) := by decide +kernel
theorem dX6_digest_82 : decode cX6_digest 82 = .ok (.lload_n 1, 1) := by decide +kernel
theorem dX6_digest_83 : decode cX6_digest 83 = .ok (.lmul, 1) := by decide +kernel
theorem dX6_digest_84 : decode cX6_digest 84 = .ok (.aload_n 0, 1) := by decide +kernel
theorem dX6_digest_85 : decode cX6_digest 85 = .ok (.invokevirtual 169, 3) := by decide +kernel
theorem dX6_digest_88 : decode cX6_digest 88 = .ok (.i2l, 1) := by decide +kernel
theorem dX6_digest_89 : decode cX6_digest 89 = .ok (.ladd, 1) := by decide +kernel
theorem dX6_digest_90 : decode cX6_digest 90 = .ok (.lstore_n 1, 1) := by decide +kernel
theorem dX6_digest_91 : decode cX6_digest 91 = .ok (.ldc2_w 211, 3) := by decide +kernel
theorem dX6_digest_94 : decode cX6_digest 94 = .ok (.lload_n 1, 1) := by decide +kernel
theorem dX6_digest_95 : decode cX6_digest 95 = .ok (.lmul, 1) := by decide +kernel
theorem dX6_digest_96 : decode cX6_digest 96 = .ok (.aload_n 0, 1) := by decide +kernel
theorem dX6_digest_97 : decode cX6_digest 97 = .ok (.invokevirtual 227, 3) := by decide +kernel
theorem dX6_digest_100 : decode cX6_digest 100 = .ok (.i2l, 1) := by decide +kernel
theorem dX6_digest_101 : decode cX6_digest 101 = .ok (.ladd, 1) := by decide +kernel
theorem dX6_digest_102 : decode cX6_digest 102 = .ok (.lstore_n 1, 1) := by decide +kernel
theorem dX6_digest_103 : decode cX6_digest 103 = .ok (.ldc2_w 211, 3) := by decide +kernel
theorem dX6_digest_106 : decode cX6_digest 106 = .ok (.lload_n 1, 1) := by decide +kernel
theorem dX6_digest_107 : decode cX6_digest 107 = .ok (.lmul, 1) := by decide +kernel
theorem dX6_digest_108 : decode cX6_digest 108 = .ok (.aload_n 0, 1) := by decide +kernel
theorem dX6_digest_109 : decode cX6_digest 109 = .ok (.invokevirtual 230, 3) := by decide +kernel
theorem dX6_digest_112 : decode cX6_digest 112 = .ok (.i2l, 1) := by decide +kernel
theorem dX6_digest_113 : decode cX6_digest 113 = .ok (.ladd, 1) := by decide +kernel
theorem dX6_digest_114 : decode cX6_digest 114 = .ok (.lstore_n 1, 1) := by decide +kernel
theorem dX6_digest_115 : decode cX6_digest 115 = .ok (.ldc2_w 211, 3) := by decide +kernel
theorem dX6_digest_118 : decode cX6_digest 118 = .ok (.lload_n 1, 1) := by decide +kernel
theorem dX6_digest_119 : decode cX6_digest 119 = .ok (.lmul, 1) := by decide +kernel
theorem dX6_digest_120 : decode cX6_digest 120 = .ok (.aload_n 0, 1) := by decide +kernel
theorem dX6_digest_121 : decode cX6_digest 121 = .ok (.invokevirtual 193, 3) := by decide +kernel
theorem dX6_digest_124 : decode cX6_digest 124 = .ok (.i2l, 1) := by decide +kernel
theorem dX6_digest_125 : decode cX6_digest 125 = .ok (.ladd, 1) := by decide +kernel
theorem dX6_digest_126 : decode cX6_digest 126 = .ok (.lstore_n 1, 1) := by decide +kernel
theorem dX6_digest_127 : decode cX6_digest 127 = .ok (.iconst 0, 1) := by decide +kernel
theorem dX6_digest_128 : decode cX6_digest 128 = .ok (.istore_n 3, 1) := by decide +kernel
theorem dX6_digest_129 : decode cX6_digest 129 = .ok (.iload_n 3, 1) := by decide +kernel
theorem dX6_digest_130 : decode cX6_digest 130 = .ok (.aload_n 0, 1) := by decide +kernel
theorem dX6_digest_131 : decode cX6_digest 131 = .ok (.getfield 7, 3) := by decide +kernel
theorem dX6_digest_134 : decode cX6_digest 134 = .ok (.if_icmp .ge 16, 3) := by decide +kernel
theorem dX6_digest_137 : decode cX6_digest 137 = .ok (.aload_n 0, 1) := by decide +kernel
theorem dX6_digest_138 : decode cX6_digest 138 = .ok (.lload_n 1, 1) := by decide +kernel
theorem dX6_digest_139 : decode cX6_digest 139 = .ok (.iload_n 3, 1) := by decide +kernel
theorem dX6_digest_140 : decode cX6_digest 140 = .ok (.invokevirtual 233, 3) := by decide +kernel
theorem dX6_digest_143 : decode cX6_digest 143 = .ok (.lstore_n 1, 1) := by decide +kernel
theorem dX6_digest_144 : decode cX6_digest 144 = .ok (.iinc 3 1, 3) := by decide +kernel
theorem dX6_digest_147 : decode cX6_digest 147 = .ok (.goto (-18), 3) := by decide +kernel
theorem dX6_digest_150 : decode cX6_digest 150 = .ok (.iconst 0, 1) := by decide +kernel
theorem dX6_digest_151 : decode cX6_digest 151 = .ok (.istore_n 3, 1) := by decide +kernel
theorem dX6_digest_152 : decode cX6_digest 152 = .ok (.iload_n 3, 1) := by decide +kernel
theorem dX6_digest_153 : decode cX6_digest 153 = .ok (.iconst 1, 1) := by decide +kernel
theorem dX6_digest_154 : decode cX6_digest 154 = .ok (.aload_n 0, 1) := by decide +kernel
theorem dX6_digest_155 : decode cX6_digest 155 = .ok (.getfield 7, 3) := by decide +kernel
theorem dX6_digest_158 : decode cX6_digest 158 = .ok (.ishl, 1) := by decide +kernel
theorem dX6_digest_159 : decode cX6_digest 159 = .ok (.if_icmp .ge 21, 3) := by decide +kernel
theorem dX6_digest_162 : decode cX6_digest 162 = .ok (.ldc2_w 211, 3) := by decide +kernel
theorem dX6_digest_165 : decode cX6_digest 165 = .ok (.lload_n 1, 1) := by decide +kernel
theorem dX6_digest_166 : decode cX6_digest 166 = .ok (.lmul, 1) := by decide +kernel
theorem dX6_digest_167 : decode cX6_digest 167 = .ok (.aload_n 0, 1) := by decide +kernel
theorem dX6_digest_168 : decode cX6_digest 168 = .ok (.iload_n 3, 1) := by decide +kernel
theorem dX6_digest_169 : decode cX6_digest 169 = .ok (.invokevirtual 237, 3) := by decide +kernel
theorem dX6_digest_172 : decode cX6_digest 172 = .ok (.ladd, 1) := by decide +kernel
theorem dX6_digest_173 : decode cX6_digest 173 = .ok (.lstore_n 1, 1) := by decide +kernel
theorem dX6_digest_174 : decode cX6_digest 174 = .ok (.iinc 3 1, 3) := by decide +kernel
theorem dX6_digest_177 : decode cX6_digest 177 = .ok (.goto (-25), 3) := by decide +kernel
theorem dX6_digest_180 : decode cX6_digest 180 = .ok (.lload_n 1, 1) := by decide +kernel
theorem dX6_digest_181 : decode cX6_digest 181 = .ok (.lreturn, 1) := by decide +kernel
end
section
theorem dL_law_0 : decode cL_law 0 = .ok (.new 7, 3) := by decide +kernel
theorem dL_law_3 : decode cL_law 3 = .ok (.dup, 1) := by decide +kernel
theorem dL_law_4 : decode cL_law 4 = .ok (.invokespecial 9, 3) := by decide +kernel
theorem dL_law_7 : decode cL_law 7 = .ok (.astore_n 1, 1) := by decide +kernel
theorem dL_law_8 : decode cL_law 8 = .ok (.new 10, 3) := by decide +kernel
theorem dL_law_11 : decode cL_law 11 = .ok (.dup, 1) := by decide +kernel
theorem dL_law_12 : decode cL_law 12 = .ok (.invokespecial 12, 3) := by decide +kernel
theorem dL_law_15 : decode cL_law 15 = .ok (.astore_n 2, 1) := by decide +kernel
theorem dL_law_16 : decode cL_law 16 = .ok (.iconst 0, 1) := by decide +kernel
theorem dL_law_17 : decode cL_law 17 = .ok (.istore_n 3, 1) := by decide +kernel
theorem dL_law_18 : decode cL_law 18 = .ok (.iload_n 3, 1) := by decide +kernel
theorem dL_law_19 : decode cL_law 19 = .ok (.aload_n 0, 1) := by decide +kernel
theorem dL_law_20 : decode cL_law 20 = .ok (.arraylength, 1) := by decide +kernel
theorem dL_law_21 : decode cL_law 21 = .ok (.bipush 6, 2) := by decide +kernel
theorem dL_law_23 : decode cL_law 23 = .ok (.isub, 1) := by decide +kernel
theorem dL_law_24 : decode cL_law 24 = .ok (.if_icmp .gt 1049, 3) := by decide +kernel
theorem dL_law_27 : decode cL_law 27 = .ok (.aload_n 0, 1) := by decide +kernel
theorem dL_law_28 : decode cL_law 28 = .ok (.iload_n 3, 1) := by decide +kernel
theorem dL_law_29 : decode cL_law 29 = .ok (.iaload, 1) := by decide +kernel
theorem dL_law_30 : decode cL_law 30 = .ok (.bipush 63, 2) := by decide +kernel
theorem dL_law_32 : decode cL_law 32 = .ok (.iand, 1) := by decide +kernel
theorem dL_law_33 : decode cL_law 33 = .ok (.tableswitch 1034 0 34 #[155, 178, 221, 264, 287, 320, 343, 366, 379, 392, 415, 448, 481, 505, 518, 552, 565, 578, 591, 604, 617, 651, 674, 687, 700, 713, 736, 749, 792, 815, 868, 911, 974, 997, 1020], 155) := by decide +kernel
theorem dL_law_188 : decode cL_law 188 = .ok (.aload_n 1, 1) := by decide +kernel
theorem dL_law_189 : decode cL_law 189 = .ok (.aload_n 0, 1) := by decide +kernel
theorem dL_law_190 : decode cL_law 190 = .ok (.iload_n 3, 1) := by decide +kernel
theorem dL_law_191 : decode cL_law 191 = .ok (.iconst 1, 1) := by decide +kernel
theorem dL_law_192 : decode cL_law 192 = .ok (.iadd, 1) := by decide +kernel
theorem dL_law_193 : decode cL_law 193 = .ok (.iaload, 1) := by decide +kernel
theorem dL_law_194 : decode cL_law 194 = .ok (.invokevirtual 13, 3) := by decide +kernel
theorem dL_law_197 : decode cL_law 197 = .ok (.aload_n 2, 1) := by decide +kernel
theorem dL_law_198 : decode cL_law 198 = .ok (.aload_n 0, 1) := by decide +kernel
theorem dL_law_199 : decode cL_law 199 = .ok (.iload_n 3, 1) := by decide +kernel
theorem dL_law_200 : decode cL_law 200 = .ok (.iconst 1, 1) := by decide +kernel
theorem dL_law_201 : decode cL_law 201 = .ok (.iadd, 1) := by decide +kernel
theorem dL_law_202 : decode cL_law 202 = .ok (.iaload, 1) := by decide +kernel
theorem dL_law_203 : decode cL_law 203 = .ok (.invokevirtual 17, 3) := by decide +kernel
theorem dL_law_206 : decode cL_law 206 = .ok (.if_icmp .eq 861, 3) := by decide +kernel
theorem dL_law_209 : decode cL_law 209 = .ok (.iconst 0, 1) := by decide +kernel
theorem dL_law_210 : decode cL_law 210 = .ok (.ireturn, 1) := by decide +kernel
theorem dL_law_211 : decode cL_law 211 = .ok (.aload_n 1, 1) := by decide +kernel
theorem dL_law_212 : decode cL_law 212 = .ok (.aload_n 0, 1) := by decide +kernel
theorem dL_law_213 : decode cL_law 213 = .ok (.iload_n 3, 1) := by decide +kernel
theorem dL_law_214 : decode cL_law 214 = .ok (.iconst 1, 1) := by decide +kernel
theorem dL_law_215 : decode cL_law 215 = .ok (.iadd, 1) := by decide +kernel
theorem dL_law_216 : decode cL_law 216 = .ok (.iaload, 1) := by decide +kernel
theorem dL_law_217 : decode cL_law 217 = .ok (.aload_n 0, 1) := by decide +kernel
theorem dL_law_218 : decode cL_law 218 = .ok (.iload_n 3, 1) := by decide +kernel
theorem dL_law_219 : decode cL_law 219 = .ok (.iconst 2, 1) := by decide +kernel
theorem dL_law_220 : decode cL_law 220 = .ok (.iadd, 1) := by decide +kernel
theorem dL_law_221 : decode cL_law 221 = .ok (.iaload, 1) := by decide +kernel
theorem dL_law_222 : decode cL_law 222 = .ok (.aload_n 0, 1) := by decide +kernel
theorem dL_law_223 : decode cL_law 223 = .ok (.iload_n 3, 1) := by decide +kernel
theorem dL_law_224 : decode cL_law 224 = .ok (.iconst 3, 1) := by decide +kernel
theorem dL_law_225 : decode cL_law 225 = .ok (.iadd, 1) := by decide +kernel
theorem dL_law_226 : decode cL_law 226 = .ok (.iaload, 1) := by decide +kernel
theorem dL_law_227 : decode cL_law 227 = .ok (.invokevirtual 18, 3) := by decide +kernel
theorem dL_law_230 : decode cL_law 230 = .ok (.aload_n 2, 1) := by decide +kernel
theorem dL_law_231 : decode cL_law 231 = .ok (.aload_n 0, 1) := by decide +kernel
theorem dL_law_232 : decode cL_law 232 = .ok (.iload_n 3, 1) := by decide +kernel
theorem dL_law_233 : decode cL_law 233 = .ok (.iconst 1, 1) := by decide +kernel
theorem dL_law_234 : decode cL_law 234 = .ok (.iadd, 1) := by decide +kernel
theorem dL_law_235 : decode cL_law 235 = .ok (.iaload, 1) := by decide +kernel
theorem dL_law_236 : decode cL_law 236 = .ok (.aload_n 0, 1) := by decide +kernel
theorem dL_law_237 : decode cL_law 237 = .ok (.iload_n 3, 1) := by decide +kernel
theorem dL_law_238 : decode cL_law 238 = .ok (.iconst 2, 1) := by decide +kernel
theorem dL_law_239 : decode cL_law 239 = .ok (.iadd, 1) := by decide +kernel
theorem dL_law_240 : decode cL_law 240 = .ok (.iaload, 1) := by decide +kernel
theorem dL_law_241 : decode cL_law 241 = .ok (.aload_n 0, 1) := by decide +kernel
theorem dL_law_242 : decode cL_law 242 = .ok (.iload_n 3, 1) := by decide +kernel
theorem dL_law_243 : decode cL_law 243 = .ok (.iconst 3, 1) := by decide +kernel
theorem dL_law_244 : decode cL_law 244 = .ok (.iadd, 1) := by decide +kernel
theorem dL_law_245 : decode cL_law 245 = .ok (.iaload, 1) := by decide +kernel
theorem dL_law_246 : decode cL_law 246 = .ok (.invokevirtual 22, 3) := by decide +kernel
theorem dL_law_249 : decode cL_law 249 = .ok (.if_icmp .eq 818, 3) := by decide +kernel
theorem dL_law_252 : decode cL_law 252 = .ok (.iconst 0, 1) := by decide +kernel
theorem dL_law_253 : decode cL_law 253 = .ok (.ireturn, 1) := by decide +kernel
theorem dL_law_254 : decode cL_law 254 = .ok (.aload_n 1, 1) := by decide +kernel
theorem dL_law_255 : decode cL_law 255 = .ok (.aload_n 0, 1) := by decide +kernel
theorem dL_law_256 : decode cL_law 256 = .ok (.iload_n 3, 1) := by decide +kernel
theorem dL_law_257 : decode cL_law 257 = .ok (.iconst 1, 1) := by decide +kernel
theorem dL_law_258 : decode cL_law 258 = .ok (.iadd, 1) := by decide +kernel
theorem dL_law_259 : decode cL_law 259 = .ok (.iaload, 1) := by decide +kernel
theorem dL_law_260 : decode cL_law 260 = .ok (.aload_n 0, 1) := by decide +kernel
theorem dL_law_261 : decode cL_law 261 = .ok (.iload_n 3, 1) := by decide +kernel
theorem dL_law_262 : decode cL_law 262 = .ok (.iconst 2, 1) := by decide +kernel
theorem dL_law_263 : decode cL_law 263 = .ok (.iadd, 1) := by decide +kernel
theorem dL_law_264 : decode cL_law 264 = .ok (.iaload, 1) := by decide +kernel
theorem dL_law_265 : decode cL_law 265 = .ok (.aload_n 0, 1) := by decide +kernel
theorem dL_law_266 : decode cL_law 266 = .ok (.iload_n 3, 1) := by decide +kernel
theorem dL_law_267 : decode cL_law 267 = .ok (.iconst 3, 1) := by decide +kernel
theorem dL_law_268 : decode cL_law 268 = .ok (.iadd, 1) := by decide +kernel
theorem dL_law_269 : decode cL_law 269 = .ok (.iaload, 1) := by decide +kernel
theorem dL_law_270 : decode cL_law 270 = .ok (.invokevirtual 23, 3) := by decide +kernel
theorem dL_law_273 : decode cL_law 273 = .ok (.aload_n 2, 1) := by decide +kernel
theorem dL_law_274 : decode cL_law 274 = .ok (.aload_n 0, 1) := by decide +kernel
theorem dL_law_275 : decode cL_law 275 = .ok (.iload_n 3, 1) := by decide +kernel
theorem dL_law_276 : decode cL_law 276 = .ok (.iconst 1, 1) := by decide +kernel
theorem dL_law_277 : decode cL_law 277 = .ok (.iadd, 1) := by decide +kernel
theorem dL_law_278 : decode cL_law 278 = .ok (.iaload, 1) := by decide +kernel
theorem dL_law_279 : decode cL_law 279 = .ok (.aload_n 0, 1) := by decide +kernel
theorem dL_law_280 : decode cL_law 280 = .ok (.iload_n 3, 1) := by decide +kernel
theorem dL_law_281 : decode cL_law 281 = .ok (.iconst 2, 1) := by decide +kernel
theorem dL_law_282 : decode cL_law 282 = .ok (.iadd, 1) := by decide +kernel
theorem dL_law_283 : decode cL_law 283 = .ok (.iaload, 1) := by decide +kernel
theorem dL_law_284 : decode cL_law 284 = .ok (.aload_n 0, 1) := by decide +kernel
theorem dL_law_285 : decode cL_law 285 = .ok (.iload_n 3, 1) := by decide +kernel
theorem dL_law_286 : decode cL_law 286 = .ok (.iconst 3, 1) := by decide +kernel
theorem dL_law_287 : decode cL_law 287 = .ok (.iadd, 1) := by decide +kernel
theorem dL_law_288 : decode cL_law 288 = .ok (.iaload, 1) := by decide +kernel
theorem dL_law_289 : decode cL_law 289 = .ok (.invokevirtual 26, 3) := by decide +kernel
theorem dL_law_292 : decode cL_law 292 = .ok (.if_icmp .eq 775, 3) := by decide +kernel
theorem dL_law_295 : decode cL_law 295 = .ok (.iconst 0, 1) := by decide +kernel
theorem dL_law_296 : decode cL_law 296 = .ok (.ireturn, 1) := by decide +kernel
theorem dL_law_297 : decode cL_law 297 = .ok (.aload_n 1, 1) := by decide +kernel
theorem dL_law_298 : decode cL_law 298 = .ok (.aload_n 0, 1) := by decide +kernel
theorem dL_law_299 : decode cL_law 299 = .ok (.iload_n 3, 1) := by decide +kernel
theorem dL_law_300 : decode cL_law 300 = .ok (.iconst 1, 1) := by decide +kernel
theorem dL_law_301 : decode cL_law 301 = .ok (.iadd, 1) := by decide +kernel
theorem dL_law_302 : decode cL_law 302 = .ok (.iaload, 1) := by decide +kernel
theorem dL_law_303 : decode cL_law 303 = .ok (.invokevirtual 27, 3) := by decide +kernel
theorem dL_law_306 : decode cL_law 306 = .ok (.aload_n 2, 1) := by decide +kernel
theorem dL_law_307 : decode cL_law 307 = .ok (.aload_n 0, 1) := by decide +kernel
theorem dL_law_308 : decode cL_law 308 = .ok (.iload_n 3, 1) := by decide +kernel
theorem dL_law_309 : decode cL_law 309 = .ok (.iconst 1, 1) := by decide +kernel
theorem dL_law_310 : decode cL_law 310 = .ok (.iadd, 1) := by decide +kernel
theorem dL_law_311 : decode cL_law 311 = .ok (.iaload, 1) := by decide +kernel
theorem dL_law_312 : decode cL_law 312 = .ok (.invokevirtual 30, 3) := by decide +kernel
theorem dL_law_315 : decode cL_law 315 = .ok (.if_icmp .eq 752, 3) := by decide +kernel
theorem dL_law_318 : decode cL_law 318 = .ok (.iconst 0, 1) := by decide +kernel
theorem dL_law_319 : decode cL_law 319 = .ok (.ireturn, 1) := by decide +kernel
theorem dL_law_320 : decode cL_law 320 = .ok (.aload_n 1, 1) := by decide +kernel
theorem dL_law_321 : decode cL_law 321 = .ok (.aload_n 0, 1) := by decide +kernel
theorem dL_law_322 : decode cL_law 322 = .ok (.iload_n 3, 1) := by decide +kernel
theorem dL_law_323 : decode cL_law 323 = .ok (.iconst 1, 1) := by decide +kernel
theorem dL_law_324 : decode cL_law 324 = .ok (.iadd, 1) := by decide +kernel
theorem dL_law_325 : decode cL_law 325 = .ok (.iaload, 1) := by decide +kernel
theorem dL_law_326 : decode cL_law 326 = .ok (.aload_n 0, 1) := by decide +kernel
theorem dL_law_327 : decode cL_law 327 = .ok (.iload_n 3, 1) := by decide +kernel
theorem dL_law_328 : decode cL_law 328 = .ok (.iconst 2, 1) := by decide +kernel
theorem dL_law_329 : decode cL_law 329 = .ok (.iadd, 1) := by decide +kernel
theorem dL_law_330 : decode cL_law 330 = .ok (.iaload, 1) := by decide +kernel
theorem dL_law_331 : decode cL_law 331 = .ok (.invokevirtual 31, 3) := by decide +kernel
theorem dL_law_334 : decode cL_law 334 = .ok (.aload_n 2, 1) := by decide +kernel
theorem dL_law_335 : decode cL_law 335 = .ok (.aload_n 0, 1) := by decide +kernel
theorem dL_law_336 : decode cL_law 336 = .ok (.iload_n 3, 1) := by decide +kernel
theorem dL_law_337 : decode cL_law 337 = .ok (.iconst 1, 1) := by decide +kernel
theorem dL_law_338 : decode cL_law 338 = .ok (.iadd, 1) := by decide +kernel
theorem dL_law_339 : decode cL_law 339 = .ok (.iaload, 1) := by decide +kernel
theorem dL_law_340 : decode cL_law 340 = .ok (.aload_n 0, 1) := by decide +kernel
theorem dL_law_341 : decode cL_law 341 = .ok (.iload_n 3, 1) := by decide +kernel
theorem dL_law_342 : decode cL_law 342 = .ok (.iconst 2, 1) := by decide +kernel
theorem dL_law_343 : decode cL_law 343 = .ok (.iadd, 1) := by decide +kernel
theorem dL_law_344 : decode cL_law 344 = .ok (.iaload, 1) := by decide +kernel
theorem dL_law_345 : decode cL_law 345 = .ok (.invokevirtual 35, 3) := by decide +kernel
theorem dL_law_348 : decode cL_law 348 = .ok (.if_icmp .eq 719, 3) := by decide +kernel
theorem dL_law_351 : decode cL_law 351 = .ok (.iconst 0, 1) := by decide +kernel
theorem dL_law_352 : decode cL_law 352 = .ok (.ireturn, 1) := by decide +kernel
theorem dL_law_353 : decode cL_law 353 = .ok (.aload_n 1, 1) := by decide +kernel
theorem dL_law_354 : decode cL_law 354 = .ok (.aload_n 0, 1) := by decide +kernel
theorem dL_law_355 : decode cL_law 355 = .ok (.iload_n 3, 1) := by decide +kernel
theorem dL_law_356 : decode cL_law 356 = .ok (.iconst 1, 1) := by decide +kernel
theorem dL_law_357 : decode cL_law 357 = .ok (.iadd, 1) := by decide +kernel
theorem dL_law_358 : decode cL_law 358 = .ok (.iaload, 1) := by decide +kernel
theorem dL_law_359 : decode cL_law 359 = .ok (.invokevirtual 36, 3) := by decide +kernel
theorem dL_law_362 : decode cL_law 362 = .ok (.aload_n 2, 1) := by decide +kernel
theorem dL_law_363 : decode cL_law 363 = .ok (.aload_n 0, 1) := by decide +kernel
theorem dL_law_364 : decode cL_law 364 = .ok (.iload_n 3, 1) := by decide +kernel
theorem dL_law_365 : decode cL_law 365 = .ok (.iconst 1, 1) := by decide +kernel
theorem dL_law_366 : decode cL_law 366 = .ok (.iadd, 1) := by decide +kernel
theorem dL_law_367 : decode cL_law 367 = .ok (.iaload, 1) := by decide +kernel
theorem dL_law_368 : decode cL_law 368 = .ok (.invokevirtual 39, 3) := by decide +kernel
theorem dL_law_371 : decode cL_law 371 = .ok (.if_icmp .eq 696, 3) := by decide +kernel
theorem dL_law_374 : decode cL_law 374 = .ok (.iconst 0, 1) := by decide +kernel
theorem dL_law_375 : decode cL_law 375 = .ok (.ireturn, 1) := by decide +kernel
theorem dL_law_376 : decode cL_law 376 = .ok (.aload_n 1, 1) := by decide +kernel
theorem dL_law_377 : decode cL_law 377 = .ok (.aload_n 0, 1) := by decide +kernel
theorem dL_law_378 : decode cL_law 378 = .ok (.iload_n 3, 1) := by decide +kernel
theorem dL_law_379 : decode cL_law 379 = .ok (.iconst 1, 1) := by decide +kernel
theorem dL_law_380 : decode cL_law 380 = .ok (.iadd, 1) := by decide +kernel
theorem dL_law_381 : decode cL_law 381 = .ok (.iaload, 1) := by decide +kernel
theorem dL_law_382 : decode cL_law 382 = .ok (.invokevirtual 40, 3) := by decide +kernel
theorem dL_law_385 : decode cL_law 385 = .ok (.aload_n 2, 1) := by decide +kernel
theorem dL_law_386 : decode cL_law 386 = .ok (.aload_n 0, 1) := by decide +kernel
theorem dL_law_387 : decode cL_law 387 = .ok (.iload_n 3, 1) := by decide +kernel
theorem dL_law_388 : decode cL_law 388 = .ok (.iconst 1, 1) := by decide +kernel
theorem dL_law_389 : decode cL_law 389 = .ok (.iadd, 1) := by decide +kernel
theorem dL_law_390 : decode cL_law 390 = .ok (.iaload, 1) := by decide +kernel
theorem dL_law_391 : decode cL_law 391 = .ok (.invokevirtual 43, 3) := by decide +kernel
theorem dL_law_394 : decode cL_law 394 = .ok (.if_icmp .eq 673, 3) := by decide +kernel
theorem dL_law_397 : decode cL_law 397 = .ok (.iconst 0, 1) := by decide +kernel
theorem dL_law_398 : decode cL_law 398 = .ok (.ireturn, 1) := by decide +kernel
theorem dL_law_399 : decode cL_law 399 = .ok (.aload_n 1, 1) := by decide +kernel
theorem dL_law_400 : decode cL_law 400 = .ok (.invokevirtual 44, 3) := by decide +kernel
theorem dL_law_403 : decode cL_law 403 = .ok (.aload_n 2, 1) := by decide +kernel
theorem dL_law_404 : decode cL_law 404 = .ok (.invokevirtual 48, 3) := by decide +kernel
theorem dL_law_407 : decode cL_law 407 = .ok (.if_icmp .eq 660, 3) := by decide +kernel
theorem dL_law_410 : decode cL_law 410 = .ok (.iconst 0, 1) := by decide +kernel
theorem dL_law_411 : decode cL_law 411 = .ok (.ireturn, 1) := by decide +kernel
theorem dL_law_412 : decode cL_law 412 = .ok (.aload_n 1, 1) := by decide +kernel
theorem dL_law_413 : decode cL_law 413 = .ok (.invokevirtual 49, 3) := by decide +kernel
theorem dL_law_416 : decode cL_law 416 = .ok (.aload_n 2, 1) := by decide +kernel
theorem dL_law_417 : decode cL_law 417 = .ok (.invokevirtual 52, 3) := by decide +kernel
theorem dL_law_420 : decode cL_law 420 = .ok (.if_icmp .eq 647, 3) := by decide +kernel
theorem dL_law_423 : decode cL_law 423 = .ok (.iconst 0, 1) := by decide +kernel
theorem dL_law_424 : decode cL_law 424 = .ok (.ireturn, 1) := by decide +kernel
theorem dL_law_425 : decode cL_law 425 = .ok (.aload_n 1, 1) := by decide +kernel
theorem dL_law_426 : decode cL_law 426 = .ok (.aload_n 0, 1) := by decide +kernel
theorem dL_law_427 : decode cL_law 427 = .ok (.iload_n 3, 1) := by decide +kernel
theorem dL_law_428 : decode cL_law 428 = .ok (.iconst 1, 1) := by decide +kernel
theorem dL_law_429 : decode cL_law 429 = .ok (.iadd, 1) := by decide +kernel
theorem dL_law_430 : decode cL_law 430 = .ok (.iaload, 1) := by decide +kernel
theorem dL_law_431 : decode cL_law 431 = .ok (.invokevirtual 53, 3) := by decide +kernel
theorem dL_law_434 : decode cL_law 434 = .ok (.aload_n 2, 1) := by decide +kernel
theorem dL_law_435 : decode cL_law 435 = .ok (.aload_n 0, 1) := by decide +kernel
theorem dL_law_436 : decode cL_law 436 = .ok (.iload_n 3, 1) := by decide +kernel
theorem dL_law_437 : decode cL_law 437 = .ok (.iconst 1, 1) := by decide +kernel
theorem dL_law_438 : decode cL_law 438 = .ok (.iadd, 1) := by decide +kernel
theorem dL_law_439 : decode cL_law 439 = .ok (.iaload, 1) := by decide +kernel
theorem dL_law_440 : decode cL_law 440 = .ok (.invokevirtual 56, 3) := by decide +kernel
theorem dL_law_443 : decode cL_law 443 = .ok (.if_icmp .eq 624, 3) := by decide +kernel
theorem dL_law_446 : decode cL_law 446 = .ok (.iconst 0, 1) := by decide +kernel
theorem dL_law_447 : decode cL_law 447 = .ok (.ireturn, 1) := by decide +kernel
theorem dL_law_448 : decode cL_law 448 = .ok (.aload_n 1, 1) := by decide +kernel
theorem dL_law_449 : decode cL_law 449 = .ok (.aload_n 0, 1) := by decide +kernel
theorem dL_law_450 : decode cL_law 450 = .ok (.iload_n 3, 1) := by decide +kernel
theorem dL_law_451 : decode cL_law 451 = .ok (.iconst 1, 1) := by decide +kernel
theorem dL_law_452 : decode cL_law 452 = .ok (.iadd, 1) := by decide +kernel
theorem dL_law_453 : decode cL_law 453 = .ok (.iaload, 1) := by decide +kernel
theorem dL_law_454 : decode cL_law 454 = .ok (.aload_n 0, 1) := by decide +kernel
theorem dL_law_455 : decode cL_law 455 = .ok (.iload_n 3, 1) := by decide +kernel
theorem dL_law_456 : decode cL_law 456 = .ok (.iconst 2, 1) := by decide +kernel
theorem dL_law_457 : decode cL_law 457 = .ok (.iadd, 1) := by decide +kernel
theorem dL_law_458 : decode cL_law 458 = .ok (.iaload, 1) := by decide +kernel
theorem dL_law_459 : decode cL_law 459 = .ok (.invokevirtual 57, 3) := by decide +kernel
theorem dL_law_462 : decode cL_law 462 = .ok (.aload_n 2, 1) := by decide +kernel
theorem dL_law_463 : decode cL_law 463 = .ok (.aload_n 0, 1) := by decide +kernel
theorem dL_law_464 : decode cL_law 464 = .ok (.iload_n 3, 1) := by decide +kernel
theorem dL_law_465 : decode cL_law 465 = .ok (.iconst 1, 1) := by decide +kernel
theorem dL_law_466 : decode cL_law 466 = .ok (.iadd, 1) := by decide +kernel
theorem dL_law_467 : decode cL_law 467 = .ok (.iaload, 1) := by decide +kernel
theorem dL_law_468 : decode cL_law 468 = .ok (.aload_n 0, 1) := by decide +kernel
theorem dL_law_469 : decode cL_law 469 = .ok (.iload_n 3, 1) := by decide +kernel
theorem dL_law_470 : decode cL_law 470 = .ok (.iconst 2, 1) := by decide +kernel
theorem dL_law_471 : decode cL_law 471 = .ok (.iadd, 1) := by decide +kernel
theorem dL_law_472 : decode cL_law 472 = .ok (.iaload, 1) := by decide +kernel
theorem dL_law_473 : decode cL_law 473 = .ok (.invokevirtual 60, 3) := by decide +kernel
theorem dL_law_476 : decode cL_law 476 = .ok (.if_icmp .eq 591, 3) := by decide +kernel
theorem dL_law_479 : decode cL_law 479 = .ok (.iconst 0, 1) := by decide +kernel
theorem dL_law_480 : decode cL_law 480 = .ok (.ireturn, 1) := by decide +kernel
theorem dL_law_481 : decode cL_law 481 = .ok (.aload_n 1, 1) := by decide +kernel
theorem dL_law_482 : decode cL_law 482 = .ok (.aload_n 0, 1) := by decide +kernel
theorem dL_law_483 : decode cL_law 483 = .ok (.iload_n 3, 1) := by decide +kernel
theorem dL_law_484 : decode cL_law 484 = .ok (.iconst 1, 1) := by decide +kernel
theorem dL_law_485 : decode cL_law 485 = .ok (.iadd, 1) := by decide +kernel
theorem dL_law_486 : decode cL_law 486 = .ok (.iaload, 1) := by decide +kernel
theorem dL_law_487 : decode cL_law 487 = .ok (.aload_n 0, 1) := by decide +kernel
theorem dL_law_488 : decode cL_law 488 = .ok (.iload_n 3, 1) := by decide +kernel
theorem dL_law_489 : decode cL_law 489 = .ok (.iconst 2, 1) := by decide +kernel
theorem dL_law_490 : decode cL_law 490 = .ok (.iadd, 1) := by decide +kernel
theorem dL_law_491 : decode cL_law 491 = .ok (.iaload, 1) := by decide +kernel
theorem dL_law_492 : decode cL_law 492 = .ok (.invokevirtual 61, 3) := by decide +kernel
theorem dL_law_495 : decode cL_law 495 = .ok (.aload_n 2, 1) := by decide +kernel
theorem dL_law_496 : decode cL_law 496 = .ok (.aload_n 0, 1) := by decide +kernel
theorem dL_law_497 : decode cL_law 497 = .ok (.iload_n 3, 1) := by decide +kernel
theorem dL_law_498 : decode cL_law 498 = .ok (.iconst 1, 1) := by decide +kernel
theorem dL_law_499 : decode cL_law 499 = .ok (.iadd, 1) := by decide +kernel
theorem dL_law_500 : decode cL_law 500 = .ok (.iaload, 1) := by decide +kernel
theorem dL_law_501 : decode cL_law 501 = .ok (.aload_n 0, 1) := by decide +kernel
theorem dL_law_502 : decode cL_law 502 = .ok (.iload_n 3, 1) := by decide +kernel
theorem dL_law_503 : decode cL_law 503 = .ok (.iconst 2, 1) := by decide +kernel
theorem dL_law_504 : decode cL_law 504 = .ok (.iadd, 1) := by decide +kernel
theorem dL_law_505 : decode cL_law 505 = .ok (.iaload, 1) := by decide +kernel
theorem dL_law_506 : decode cL_law 506 = .ok (.invokevirtual 64, 3) := by decide +kernel
theorem dL_law_509 : decode cL_law 509 = .ok (.if_icmp .eq 558, 3) := by decide +kernel
theorem dL_law_512 : decode cL_law 512 = .ok (.iconst 0, 1) := by decide +kernel
theorem dL_law_513 : decode cL_law 513 = .ok (.ireturn, 1) := by decide +kernel
theorem dL_law_514 : decode cL_law 514 = .ok (.aload_n 1, 1) := by decide +kernel
theorem dL_law_515 : decode cL_law 515 = .ok (.aload_n 0, 1) := by decide +kernel
theorem dL_law_516 : decode cL_law 516 = .ok (.iload_n 3, 1) := by decide +kernel
theorem dL_law_517 : decode cL_law 517 = .ok (.iconst 1, 1) := by decide +kernel
theorem dL_law_518 : decode cL_law 518 = .ok (.iadd, 1) := by decide +kernel
theorem dL_law_519 : decode cL_law 519 = .ok (.iaload, 1) := by decide +kernel
theorem dL_law_520 : decode cL_law 520 = .ok (.invokevirtual 65, 3) := by decide +kernel
theorem dL_law_523 : decode cL_law 523 = .ok (.aload_n 2, 1) := by decide +kernel
theorem dL_law_524 : decode cL_law 524 = .ok (.aload_n 0, 1) := by decide +kernel
theorem dL_law_525 : decode cL_law 525 = .ok (.iload_n 3, 1) := by decide +kernel
theorem dL_law_526 : decode cL_law 526 = .ok (.iconst 1, 1) := by decide +kernel
theorem dL_law_527 : decode cL_law 527 = .ok (.iadd, 1) := by decide +kernel
theorem dL_law_528 : decode cL_law 528 = .ok (.iaload, 1) := by decide +kernel
theorem dL_law_529 : decode cL_law 529 = .ok (.invokevirtual 69, 3) := by decide +kernel
theorem dL_law_532 : decode cL_law 532 = .ok (.lcmp, 1) := by decide +kernel
theorem dL_law_533 : decode cL_law 533 = .ok (.ifCond .eq 534, 3) := by decide +kernel
theorem dL_law_536 : decode cL_law 536 = .ok (.iconst 0, 1) := by decide +kernel
theorem dL_law_537 : decode cL_law 537 = .ok (.ireturn, 1) := by decide +kernel
theorem dL_law_538 : decode cL_law 538 = .ok (.aload_n 1, 1) := by decide +kernel
theorem dL_law_539 : decode cL_law 539 = .ok (.invokevirtual 70, 3) := by decide +kernel
theorem dL_law_542 : decode cL_law 542 = .ok (.aload_n 2, 1) := by decide +kernel
theorem dL_law_543 : decode cL_law 543 = .ok (.invokevirtual 73, 3) := by decide +kernel
theorem dL_law_546 : decode cL_law 546 = .ok (.if_icmp .eq 521, 3) := by decide +kernel
theorem dL_law_549 : decode cL_law 549 = .ok (.iconst 0, 1) := by decide +kernel
theorem dL_law_550 : decode cL_law 550 = .ok (.ireturn, 1) := by decide +kernel
theorem dL_law_551 : decode cL_law 551 = .ok (.aload_n 1, 1) := by decide +kernel
theorem dL_law_552 : decode cL_law 552 = .ok (.aload_n 0, 1) := by decide +kernel
theorem dL_law_553 : decode cL_law 553 = .ok (.iload_n 3, 1) := by decide +kernel
theorem dL_law_554 : decode cL_law 554 = .ok (.iconst 1, 1) := by decide +kernel
theorem dL_law_555 : decode cL_law 555 = .ok (.iadd, 1) := by decide +kernel
theorem dL_law_556 : decode cL_law 556 = .ok (.iaload, 1) := by decide +kernel
theorem dL_law_557 : decode cL_law 557 = .ok (.aload_n 0, 1) := by decide +kernel
theorem dL_law_558 : decode cL_law 558 = .ok (.iload_n 3, 1) := by decide +kernel
theorem dL_law_559 : decode cL_law 559 = .ok (.iconst 2, 1) := by decide +kernel
theorem dL_law_560 : decode cL_law 560 = .ok (.iadd, 1) := by decide +kernel
theorem dL_law_561 : decode cL_law 561 = .ok (.iaload, 1) := by decide +kernel
theorem dL_law_562 : decode cL_law 562 = .ok (.invokevirtual 74, 3) := by decide +kernel
theorem dL_law_565 : decode cL_law 565 = .ok (.aload_n 2, 1) := by decide +kernel
theorem dL_law_566 : decode cL_law 566 = .ok (.aload_n 0, 1) := by decide +kernel
theorem dL_law_567 : decode cL_law 567 = .ok (.iload_n 3, 1) := by decide +kernel
theorem dL_law_568 : decode cL_law 568 = .ok (.iconst 1, 1) := by decide +kernel
theorem dL_law_569 : decode cL_law 569 = .ok (.iadd, 1) := by decide +kernel
theorem dL_law_570 : decode cL_law 570 = .ok (.iaload, 1) := by decide +kernel
theorem dL_law_571 : decode cL_law 571 = .ok (.aload_n 0, 1) := by decide +kernel
theorem dL_law_572 : decode cL_law 572 = .ok (.iload_n 3, 1) := by decide +kernel
theorem dL_law_573 : decode cL_law 573 = .ok (.iconst 2, 1) := by decide +kernel
theorem dL_law_574 : decode cL_law 574 = .ok (.iadd, 1) := by decide +kernel
theorem dL_law_575 : decode cL_law 575 = .ok (.iaload, 1) := by decide +kernel
theorem dL_law_576 : decode cL_law 576 = .ok (.invokevirtual 78, 3) := by decide +kernel
theorem dL_law_579 : decode cL_law 579 = .ok (.lcmp, 1) := by decide +kernel
theorem dL_law_580 : decode cL_law 580 = .ok (.ifCond .eq 487, 3) := by decide +kernel
theorem dL_law_583 : decode cL_law 583 = .ok (.iconst 0, 1) := by decide +kernel
theorem dL_law_584 : decode cL_law 584 = .ok (.ireturn, 1) := by decide +kernel
theorem dL_law_585 : decode cL_law 585 = .ok (.aload_n 1, 1) := by decide +kernel
theorem dL_law_586 : decode cL_law 586 = .ok (.invokevirtual 79, 3) := by decide +kernel
theorem dL_law_589 : decode cL_law 589 = .ok (.aload_n 2, 1) := by decide +kernel
theorem dL_law_590 : decode cL_law 590 = .ok (.invokevirtual 82, 3) := by decide +kernel
theorem dL_law_593 : decode cL_law 593 = .ok (.if_icmp .eq 474, 3) := by decide +kernel
theorem dL_law_596 : decode cL_law 596 = .ok (.iconst 0, 1) := by decide +kernel
theorem dL_law_597 : decode cL_law 597 = .ok (.ireturn, 1) := by decide +kernel
theorem dL_law_598 : decode cL_law 598 = .ok (.aload_n 1, 1) := by decide +kernel
theorem dL_law_599 : decode cL_law 599 = .ok (.invokevirtual 83, 3) := by decide +kernel
theorem dL_law_602 : decode cL_law 602 = .ok (.aload_n 2, 1) := by decide +kernel
theorem dL_law_603 : decode cL_law 603 = .ok (.invokevirtual 86, 3) := by decide +kernel
theorem dL_law_606 : decode cL_law 606 = .ok (.if_icmp .eq 461, 3) := by decide +kernel
theorem dL_law_609 : decode cL_law 609 = .ok (.iconst 0, 1) := by decide +kernel
theorem dL_law_610 : decode cL_law 610 = .ok (.ireturn, 1) := by decide +kernel
theorem dL_law_611 : decode cL_law 611 = .ok (.aload_n 1, 1) := by decide +kernel
theorem dL_law_612 : decode cL_law 612 = .ok (.invokevirtual 87, 3) := by decide +kernel
theorem dL_law_615 : decode cL_law 615 = .ok (.aload_n 2, 1) := by decide +kernel
theorem dL_law_616 : decode cL_law 616 = .ok (.invokevirtual 90, 3) := by decide +kernel
theorem dL_law_619 : decode cL_law 619 = .ok (.if_icmp .eq 448, 3) := by decide +kernel
theorem dL_law_622 : decode cL_law 622 = .ok (.iconst 0, 1) := by decide +kernel
theorem dL_law_623 : decode cL_law 623 = .ok (.ireturn, 1) := by decide +kernel
theorem dL_law_624 : decode cL_law 624 = .ok (.aload_n 1, 1) := by decide +kernel
theorem dL_law_625 : decode cL_law 625 = .ok (.invokevirtual 91, 3) := by decide +kernel
theorem dL_law_628 : decode cL_law 628 = .ok (.aload_n 2, 1) := by decide +kernel
theorem dL_law_629 : decode cL_law 629 = .ok (.invokevirtual 94, 3) := by decide +kernel
theorem dL_law_632 : decode cL_law 632 = .ok (.if_icmp .eq 435, 3) := by decide +kernel
theorem dL_law_635 : decode cL_law 635 = .ok (.iconst 0, 1) := by decide +kernel
theorem dL_law_636 : decode cL_law 636 = .ok (.ireturn, 1) := by decide +kernel
theorem dL_law_637 : decode cL_law 637 = .ok (.aload_n 1, 1) := by decide +kernel
theorem dL_law_638 : decode cL_law 638 = .ok (.invokevirtual 95, 3) := by decide +kernel
theorem dL_law_641 : decode cL_law 641 = .ok (.aload_n 2, 1) := by decide +kernel
theorem dL_law_642 : decode cL_law 642 = .ok (.invokevirtual 98, 3) := by decide +kernel
theorem dL_law_645 : decode cL_law 645 = .ok (.if_icmp .eq 422, 3) := by decide +kernel
theorem dL_law_648 : decode cL_law 648 = .ok (.iconst 0, 1) := by decide +kernel
theorem dL_law_649 : decode cL_law 649 = .ok (.ireturn, 1) := by decide +kernel
theorem dL_law_650 : decode cL_law 650 = .ok (.aload_n 1, 1) := by decide +kernel
theorem dL_law_651 : decode cL_law 651 = .ok (.aload_n 0, 1) := by decide +kernel
theorem dL_law_652 : decode cL_law 652 = .ok (.iload_n 3, 1) := by decide +kernel
theorem dL_law_653 : decode cL_law 653 = .ok (.iconst 1, 1) := by decide +kernel
theorem dL_law_654 : decode cL_law 654 = .ok (.iadd, 1) := by decide +kernel
theorem dL_law_655 : decode cL_law 655 = .ok (.iaload, 1) := by decide +kernel
theorem dL_law_656 : decode cL_law 656 = .ok (.aload_n 0, 1) := by decide +kernel
theorem dL_law_657 : decode cL_law 657 = .ok (.iload_n 3, 1) := by decide +kernel
theorem dL_law_658 : decode cL_law 658 = .ok (.iconst 2, 1) := by decide +kernel
theorem dL_law_659 : decode cL_law 659 = .ok (.iadd, 1) := by decide +kernel
theorem dL_law_660 : decode cL_law 660 = .ok (.iaload, 1) := by decide +kernel
theorem dL_law_661 : decode cL_law 661 = .ok (.invokevirtual 99, 3) := by decide +kernel
theorem dL_law_664 : decode cL_law 664 = .ok (.aload_n 2, 1) := by decide +kernel
theorem dL_law_665 : decode cL_law 665 = .ok (.aload_n 0, 1) := by decide +kernel
theorem dL_law_666 : decode cL_law 666 = .ok (.iload_n 3, 1) := by decide +kernel
theorem dL_law_667 : decode cL_law 667 = .ok (.iconst 1, 1) := by decide +kernel
theorem dL_law_668 : decode cL_law 668 = .ok (.iadd, 1) := by decide +kernel
theorem dL_law_669 : decode cL_law 669 = .ok (.iaload, 1) := by decide +kernel
theorem dL_law_670 : decode cL_law 670 = .ok (.aload_n 0, 1) := by decide +kernel
theorem dL_law_671 : decode cL_law 671 = .ok (.iload_n 3, 1) := by decide +kernel
theorem dL_law_672 : decode cL_law 672 = .ok (.iconst 2, 1) := by decide +kernel
theorem dL_law_673 : decode cL_law 673 = .ok (.iadd, 1) := by decide +kernel
theorem dL_law_674 : decode cL_law 674 = .ok (.iaload, 1) := by decide +kernel
theorem dL_law_675 : decode cL_law 675 = .ok (.invokevirtual 102, 3) := by decide +kernel
theorem dL_law_678 : decode cL_law 678 = .ok (.lcmp, 1) := by decide +kernel
theorem dL_law_679 : decode cL_law 679 = .ok (.ifCond .eq 388, 3) := by decide +kernel
theorem dL_law_682 : decode cL_law 682 = .ok (.iconst 0, 1) := by decide +kernel
theorem dL_law_683 : decode cL_law 683 = .ok (.ireturn, 1) := by decide +kernel
theorem dL_law_684 : decode cL_law 684 = .ok (.aload_n 1, 1) := by decide +kernel
theorem dL_law_685 : decode cL_law 685 = .ok (.aload_n 0, 1) := by decide +kernel
theorem dL_law_686 : decode cL_law 686 = .ok (.iload_n 3, 1) := by decide +kernel
theorem dL_law_687 : decode cL_law 687 = .ok (.iconst 1, 1) := by decide +kernel
theorem dL_law_688 : decode cL_law 688 = .ok (.iadd, 1) := by decide +kernel
theorem dL_law_689 : decode cL_law 689 = .ok (.iaload, 1) := by decide +kernel
theorem dL_law_690 : decode cL_law 690 = .ok (.invokevirtual 103, 3) := by decide +kernel
theorem dL_law_693 : decode cL_law 693 = .ok (.aload_n 2, 1) := by decide +kernel
theorem dL_law_694 : decode cL_law 694 = .ok (.aload_n 0, 1) := by decide +kernel
theorem dL_law_695 : decode cL_law 695 = .ok (.iload_n 3, 1) := by decide +kernel
theorem dL_law_696 : decode cL_law 696 = .ok (.iconst 1, 1) := by decide +kernel
theorem dL_law_697 : decode cL_law 697 = .ok (.iadd, 1) := by decide +kernel
theorem dL_law_698 : decode cL_law 698 = .ok (.iaload, 1) := by decide +kernel
theorem dL_law_699 : decode cL_law 699 = .ok (.invokevirtual 106, 3) := by decide +kernel
theorem dL_law_702 : decode cL_law 702 = .ok (.if_icmp .eq 365, 3) := by decide +kernel
theorem dL_law_705 : decode cL_law 705 = .ok (.iconst 0, 1) := by decide +kernel
theorem dL_law_706 : decode cL_law 706 = .ok (.ireturn, 1) := by decide +kernel
theorem dL_law_707 : decode cL_law 707 = .ok (.aload_n 1, 1) := by decide +kernel
theorem dL_law_708 : decode cL_law 708 = .ok (.invokevirtual 107, 3) := by decide +kernel
theorem dL_law_711 : decode cL_law 711 = .ok (.aload_n 2, 1) := by decide +kernel
theorem dL_law_712 : decode cL_law 712 = .ok (.invokevirtual 110, 3) := by decide +kernel
theorem dL_law_715 : decode cL_law 715 = .ok (.if_icmp .eq 352, 3) := by decide +kernel
theorem dL_law_718 : decode cL_law 718 = .ok (.iconst 0, 1) := by decide +kernel
theorem dL_law_719 : decode cL_law 719 = .ok (.ireturn, 1) := by decide +kernel
theorem dL_law_720 : decode cL_law 720 = .ok (.aload_n 1, 1) := by decide +kernel
theorem dL_law_721 : decode cL_law 721 = .ok (.invokevirtual 111, 3) := by decide +kernel
theorem dL_law_724 : decode cL_law 724 = .ok (.aload_n 2, 1) := by decide +kernel
theorem dL_law_725 : decode cL_law 725 = .ok (.invokevirtual 114, 3) := by decide +kernel
theorem dL_law_728 : decode cL_law 728 = .ok (.if_icmp .eq 339, 3) := by decide +kernel
theorem dL_law_731 : decode cL_law 731 = .ok (.iconst 0, 1) := by decide +kernel
theorem dL_law_732 : decode cL_law 732 = .ok (.ireturn, 1) := by decide +kernel
theorem dL_law_733 : decode cL_law 733 = .ok (.aload_n 1, 1) := by decide +kernel
theorem dL_law_734 : decode cL_law 734 = .ok (.invokevirtual 115, 3) := by decide +kernel
theorem dL_law_737 : decode cL_law 737 = .ok (.aload_n 2, 1) := by decide +kernel
theorem dL_law_738 : decode cL_law 738 = .ok (.invokevirtual 118, 3) := by decide +kernel
theorem dL_law_741 : decode cL_law 741 = .ok (.if_icmp .eq 326, 3) := by decide +kernel
theorem dL_law_744 : decode cL_law 744 = .ok (.iconst 0, 1) := by decide +kernel
theorem dL_law_745 : decode cL_law 745 = .ok (.ireturn, 1) := by decide +kernel
theorem dL_law_746 : decode cL_law 746 = .ok (.aload_n 1, 1) := by decide +kernel
theorem dL_law_747 : decode cL_law 747 = .ok (.aload_n 0, 1) := by decide +kernel
theorem dL_law_748 : decode cL_law 748 = .ok (.iload_n 3, 1) := by decide +kernel
theorem dL_law_749 : decode cL_law 749 = .ok (.iconst 1, 1) := by decide +kernel
theorem dL_law_750 : decode cL_law 750 = .ok (.iadd, 1) := by decide +kernel
theorem dL_law_751 : decode cL_law 751 = .ok (.iaload, 1) := by decide +kernel
theorem dL_law_752 : decode cL_law 752 = .ok (.invokevirtual 119, 3) := by decide +kernel
theorem dL_law_755 : decode cL_law 755 = .ok (.aload_n 2, 1) := by decide +kernel
theorem dL_law_756 : decode cL_law 756 = .ok (.aload_n 0, 1) := by decide +kernel
theorem dL_law_757 : decode cL_law 757 = .ok (.iload_n 3, 1) := by decide +kernel
theorem dL_law_758 : decode cL_law 758 = .ok (.iconst 1, 1) := by decide +kernel
theorem dL_law_759 : decode cL_law 759 = .ok (.iadd, 1) := by decide +kernel
theorem dL_law_760 : decode cL_law 760 = .ok (.iaload, 1) := by decide +kernel
theorem dL_law_761 : decode cL_law 761 = .ok (.invokevirtual 122, 3) := by decide +kernel
theorem dL_law_764 : decode cL_law 764 = .ok (.if_icmp .eq 303, 3) := by decide +kernel
theorem dL_law_767 : decode cL_law 767 = .ok (.iconst 0, 1) := by decide +kernel
theorem dL_law_768 : decode cL_law 768 = .ok (.ireturn, 1) := by decide +kernel
theorem dL_law_769 : decode cL_law 769 = .ok (.aload_n 1, 1) := by decide +kernel
theorem dL_law_770 : decode cL_law 770 = .ok (.invokevirtual 123, 3) := by decide +kernel
theorem dL_law_773 : decode cL_law 773 = .ok (.aload_n 2, 1) := by decide +kernel
theorem dL_law_774 : decode cL_law 774 = .ok (.invokevirtual 126, 3) := by decide +kernel
theorem dL_law_777 : decode cL_law 777 = .ok (.if_icmp .eq 290, 3) := by decide +kernel
theorem dL_law_780 : decode cL_law 780 = .ok (.iconst 0, 1) := by decide +kernel
theorem dL_law_781 : decode cL_law 781 = .ok (.ireturn, 1) := by decide +kernel
theorem dL_law_782 : decode cL_law 782 = .ok (.aload_n 1, 1) := by decide +kernel
theorem dL_law_783 : decode cL_law 783 = .ok (.aload_n 0, 1) := by decide +kernel
theorem dL_law_784 : decode cL_law 784 = .ok (.iload_n 3, 1) := by decide +kernel
theorem dL_law_785 : decode cL_law 785 = .ok (.iconst 1, 1) := by decide +kernel
theorem dL_law_786 : decode cL_law 786 = .ok (.iadd, 1) := by decide +kernel
theorem dL_law_787 : decode cL_law 787 = .ok (.iaload, 1) := by decide +kernel
theorem dL_law_788 : decode cL_law 788 = .ok (.aload_n 0, 1) := by decide +kernel
theorem dL_law_789 : decode cL_law 789 = .ok (.iload_n 3, 1) := by decide +kernel
theorem dL_law_790 : decode cL_law 790 = .ok (.iconst 2, 1) := by decide +kernel
theorem dL_law_791 : decode cL_law 791 = .ok (.iadd, 1) := by decide +kernel
theorem dL_law_792 : decode cL_law 792 = .ok (.iaload, 1) := by decide +kernel
theorem dL_law_793 : decode cL_law 793 = .ok (.aload_n 0, 1) := by decide +kernel
theorem dL_law_794 : decode cL_law 794 = .ok (.iload_n 3, 1) := by decide +kernel
theorem dL_law_795 : decode cL_law 795 = .ok (.iconst 3, 1) := by decide +kernel
theorem dL_law_796 : decode cL_law 796 = .ok (.iadd, 1) := by decide +kernel
theorem dL_law_797 : decode cL_law 797 = .ok (.iaload, 1) := by decide +kernel
theorem dL_law_798 : decode cL_law 798 = .ok (.invokevirtual 127, 3) := by decide +kernel
theorem dL_law_801 : decode cL_law 801 = .ok (.aload_n 2, 1) := by decide +kernel
theorem dL_law_802 : decode cL_law 802 = .ok (.aload_n 0, 1) := by decide +kernel
theorem dL_law_803 : decode cL_law 803 = .ok (.iload_n 3, 1) := by decide +kernel
theorem dL_law_804 : decode cL_law 804 = .ok (.iconst 1, 1) := by decide +kernel
theorem dL_law_805 : decode cL_law 805 = .ok (.iadd, 1) := by decide +kernel
theorem dL_law_806 : decode cL_law 806 = .ok (.iaload, 1) := by decide +kernel
theorem dL_law_807 : decode cL_law 807 = .ok (.aload_n 0, 1) := by decide +kernel
theorem dL_law_808 : decode cL_law 808 = .ok (.iload_n 3, 1) := by decide +kernel
theorem dL_law_809 : decode cL_law 809 = .ok (.iconst 2, 1) := by decide +kernel
theorem dL_law_810 : decode cL_law 810 = .ok (.iadd, 1) := by decide +kernel
theorem dL_law_811 : decode cL_law 811 = .ok (.iaload, 1) := by decide +kernel
theorem dL_law_812 : decode cL_law 812 = .ok (.aload_n 0, 1) := by decide +kernel
theorem dL_law_813 : decode cL_law 813 = .ok (.iload_n 3, 1) := by decide +kernel
theorem dL_law_814 : decode cL_law 814 = .ok (.iconst 3, 1) := by decide +kernel
theorem dL_law_815 : decode cL_law 815 = .ok (.iadd, 1) := by decide +kernel
theorem dL_law_816 : decode cL_law 816 = .ok (.iaload, 1) := by decide +kernel
theorem dL_law_817 : decode cL_law 817 = .ok (.invokevirtual 130, 3) := by decide +kernel
theorem dL_law_820 : decode cL_law 820 = .ok (.if_icmp .eq 247, 3) := by decide +kernel
theorem dL_law_823 : decode cL_law 823 = .ok (.iconst 0, 1) := by decide +kernel
theorem dL_law_824 : decode cL_law 824 = .ok (.ireturn, 1) := by decide +kernel
theorem dL_law_825 : decode cL_law 825 = .ok (.aload_n 1, 1) := by decide +kernel
theorem dL_law_826 : decode cL_law 826 = .ok (.aload_n 0, 1) := by decide +kernel
theorem dL_law_827 : decode cL_law 827 = .ok (.iload_n 3, 1) := by decide +kernel
theorem dL_law_828 : decode cL_law 828 = .ok (.iconst 1, 1) := by decide +kernel
theorem dL_law_829 : decode cL_law 829 = .ok (.iadd, 1) := by decide +kernel
theorem dL_law_830 : decode cL_law 830 = .ok (.iaload, 1) := by decide +kernel
theorem dL_law_831 : decode cL_law 831 = .ok (.invokevirtual 131, 3) := by decide +kernel
theorem dL_law_834 : decode cL_law 834 = .ok (.aload_n 2, 1) := by decide +kernel
theorem dL_law_835 : decode cL_law 835 = .ok (.aload_n 0, 1) := by decide +kernel
theorem dL_law_836 : decode cL_law 836 = .ok (.iload_n 3, 1) := by decide +kernel
theorem dL_law_837 : decode cL_law 837 = .ok (.iconst 1, 1) := by decide +kernel
theorem dL_law_838 : decode cL_law 838 = .ok (.iadd, 1) := by decide +kernel
theorem dL_law_839 : decode cL_law 839 = .ok (.iaload, 1) := by decide +kernel
theorem dL_law_840 : decode cL_law 840 = .ok (.invokevirtual 134, 3) := by decide +kernel
theorem dL_law_843 : decode cL_law 843 = .ok (.if_icmp .eq 224, 3) := by decide +kernel
theorem dL_law_846 : decode cL_law 846 = .ok (.iconst 0, 1) := by decide +kernel
theorem dL_law_847 : decode cL_law 847 = .ok (.ireturn, 1) := by decide +kernel
theorem dL_law_848 : decode cL_law 848 = .ok (.aload_n 1, 1) := by decide +kernel
theorem dL_law_849 : decode cL_law 849 = .ok (.aload_n 0, 1) := by decide +kernel
theorem dL_law_850 : decode cL_law 850 = .ok (.iload_n 3, 1) := by decide +kernel
theorem dL_law_851 : decode cL_law 851 = .ok (.iconst 1, 1) := by decide +kernel
theorem dL_law_852 : decode cL_law 852 = .ok (.iadd, 1) := by decide +kernel
theorem dL_law_853 : decode cL_law 853 = .ok (.iaload, 1) := by decide +kernel
theorem dL_law_854 : decode cL_law 854 = .ok (.aload_n 0, 1) := by decide +kernel
theorem dL_law_855 : decode cL_law 855 = .ok (.iload_n 3, 1) := by decide +kernel
theorem dL_law_856 : decode cL_law 856 = .ok (.iconst 2, 1) := by decide +kernel
theorem dL_law_857 : decode cL_law 857 = .ok (.iadd, 1) := by decide +kernel
theorem dL_law_858 : decode cL_law 858 = .ok (.iaload, 1) := by decide +kernel
theorem dL_law_859 : decode cL_law 859 = .ok (.aload_n 0, 1) := by decide +kernel
theorem dL_law_860 : decode cL_law 860 = .ok (.iload_n 3, 1) := by decide +kernel
theorem dL_law_861 : decode cL_law 861 = .ok (.iconst 3, 1) := by decide +kernel
theorem dL_law_862 : decode cL_law 862 = .ok (.iadd, 1) := by decide +kernel
theorem dL_law_863 : decode cL_law 863 = .ok (.iaload, 1) := by decide +kernel
theorem dL_law_864 : decode cL_law 864 = .ok (.aload_n 0, 1) := by decide +kernel
theorem dL_law_865 : decode cL_law 865 = .ok (.iload_n 3, 1) := by decide +kernel
theorem dL_law_866 : decode cL_law 866 = .ok (.iconst 4, 1) := by decide +kernel
theorem dL_law_867 : decode cL_law 867 = .ok (.iadd, 1) := by decide +kernel
theorem dL_law_868 : decode cL_law 868 = .ok (.iaload, 1) := by decide +kernel
theorem dL_law_869 : decode cL_law 869 = .ok (.invokevirtual 135, 3) := by decide +kernel
theorem dL_law_872 : decode cL_law 872 = .ok (.aload_n 2, 1) := by decide +kernel
theorem dL_law_873 : decode cL_law 873 = .ok (.aload_n 0, 1) := by decide +kernel
theorem dL_law_874 : decode cL_law 874 = .ok (.iload_n 3, 1) := by decide +kernel
theorem dL_law_875 : decode cL_law 875 = .ok (.iconst 1, 1) := by decide +kernel
theorem dL_law_876 : decode cL_law 876 = .ok (.iadd, 1) := by decide +kernel
theorem dL_law_877 : decode cL_law 877 = .ok (.iaload, 1) := by decide +kernel
theorem dL_law_878 : decode cL_law 878 = .ok (.aload_n 0, 1) := by decide +kernel
theorem dL_law_879 : decode cL_law 879 = .ok (.iload_n 3, 1) := by decide +kernel
theorem dL_law_880 : decode cL_law 880 = .ok (.iconst 2, 1) := by decide +kernel
theorem dL_law_881 : decode cL_law 881 = .ok (.iadd, 1) := by decide +kernel
theorem dL_law_882 : decode cL_law 882 = .ok (.iaload, 1) := by decide +kernel
theorem dL_law_883 : decode cL_law 883 = .ok (.aload_n 0, 1) := by decide +kernel
theorem dL_law_884 : decode cL_law 884 = .ok (.iload_n 3, 1) := by decide +kernel
theorem dL_law_885 : decode cL_law 885 = .ok (.iconst 3, 1) := by decide +kernel
theorem dL_law_886 : decode cL_law 886 = .ok (.iadd, 1) := by decide +kernel
theorem dL_law_887 : decode cL_law 887 = .ok (.iaload, 1) := by decide +kernel
theorem dL_law_888 : decode cL_law 888 = .ok (.aload_n 0, 1) := by decide +kernel
theorem dL_law_889 : decode cL_law 889 = .ok (.iload_n 3, 1) := by decide +kernel
theorem dL_law_890 : decode cL_law 890 = .ok (.iconst 4, 1) := by decide +kernel
theorem dL_law_891 : decode cL_law 891 = .ok (.iadd, 1) := by decide +kernel
theorem dL_law_892 : decode cL_law 892 = .ok (.iaload, 1) := by decide +kernel
theorem dL_law_893 : decode cL_law 893 = .ok (.invokevirtual 139, 3) := by decide +kernel
theorem dL_law_896 : decode cL_law 896 = .ok (.if_icmp .eq 171, 3) := by decide +kernel
theorem dL_law_899 : decode cL_law 899 = .ok (.iconst 0, 1) := by decide +kernel
theorem dL_law_900 : decode cL_law 900 = .ok (.ireturn, 1) := by decide +kernel
theorem dL_law_901 : decode cL_law 901 = .ok (.aload_n 1, 1) := by decide +kernel
theorem dL_law_902 : decode cL_law 902 = .ok (.aload_n 0, 1) := by decide +kernel
theorem dL_law_903 : decode cL_law 903 = .ok (.iload_n 3, 1) := by decide +kernel
theorem dL_law_904 : decode cL_law 904 = .ok (.iconst 1, 1) := by decide +kernel
theorem dL_law_905 : decode cL_law 905 = .ok (.iadd, 1) := by decide +kernel
theorem dL_law_906 : decode cL_law 906 = .ok (.iaload, 1) := by decide +kernel
theorem dL_law_907 : decode cL_law 907 = .ok (.aload_n 0, 1) := by decide +kernel
theorem dL_law_908 : decode cL_law 908 = .ok (.iload_n 3, 1) := by decide +kernel
theorem dL_law_909 : decode cL_law 909 = .ok (.iconst 2, 1) := by decide +kernel
theorem dL_law_910 : decode cL_law 910 = .ok (.iadd, 1) := by decide +kernel
theorem dL_law_911 : decode cL_law 911 = .ok (.iaload, 1) := by decide +kernel
theorem dL_law_912 : decode cL_law 912 = .ok (.aload_n 0, 1) := by decide +kernel
theorem dL_law_913 : decode cL_law 913 = .ok (.iload_n 3, 1) := by decide +kernel
theorem dL_law_914 : decode cL_law 914 = .ok (.iconst 3, 1) := by decide +kernel
theorem dL_law_915 : decode cL_law 915 = .ok (.iadd, 1) := by decide +kernel
theorem dL_law_916 : decode cL_law 916 = .ok (.iaload, 1) := by decide +kernel
theorem dL_law_917 : decode cL_law 917 = .ok (.invokevirtual 140, 3) := by decide +kernel
theorem dL_law_920 : decode cL_law 920 = .ok (.aload_n 2, 1) := by decide +kernel
theorem dL_law_921 : decode cL_law 921 = .ok (.aload_n 0, 1) := by decide +kernel
theorem dL_law_922 : decode cL_law 922 = .ok (.iload_n 3, 1) := by decide +kernel
theorem dL_law_923 : decode cL_law 923 = .ok (.iconst 1, 1) := by decide +kernel
theorem dL_law_924 : decode cL_law 924 = .ok (.iadd, 1) := by decide +kernel
theorem dL_law_925 : decode cL_law 925 = .ok (.iaload, 1) := by decide +kernel
theorem dL_law_926 : decode cL_law 926 = .ok (.aload_n 0, 1) := by decide +kernel
theorem dL_law_927 : decode cL_law 927 = .ok (.iload_n 3, 1) := by decide +kernel
theorem dL_law_928 : decode cL_law 928 = .ok (.iconst 2, 1) := by decide +kernel
theorem dL_law_929 : decode cL_law 929 = .ok (.iadd, 1) := by decide +kernel
theorem dL_law_930 : decode cL_law 930 = .ok (.iaload, 1) := by decide +kernel
theorem dL_law_931 : decode cL_law 931 = .ok (.aload_n 0, 1) := by decide +kernel
theorem dL_law_932 : decode cL_law 932 = .ok (.iload_n 3, 1) := by decide +kernel
theorem dL_law_933 : decode cL_law 933 = .ok (.iconst 3, 1) := by decide +kernel
theorem dL_law_934 : decode cL_law 934 = .ok (.iadd, 1) := by decide +kernel
theorem dL_law_935 : decode cL_law 935 = .ok (.iaload, 1) := by decide +kernel
theorem dL_law_936 : decode cL_law 936 = .ok (.invokevirtual 143, 3) := by decide +kernel
theorem dL_law_939 : decode cL_law 939 = .ok (.if_icmp .eq 128, 3) := by decide +kernel
theorem dL_law_942 : decode cL_law 942 = .ok (.iconst 0, 1) := by decide +kernel
theorem dL_law_943 : decode cL_law 943 = .ok (.ireturn, 1) := by decide +kernel
theorem dL_law_944 : decode cL_law 944 = .ok (.aload_n 1, 1) := by decide +kernel
theorem dL_law_945 : decode cL_law 945 = .ok (.aload_n 0, 1) := by decide +kernel
theorem dL_law_946 : decode cL_law 946 = .ok (.iload_n 3, 1) := by decide +kernel
theorem dL_law_947 : decode cL_law 947 = .ok (.iconst 1, 1) := by decide +kernel
theorem dL_law_948 : decode cL_law 948 = .ok (.iadd, 1) := by decide +kernel
theorem dL_law_949 : decode cL_law 949 = .ok (.iaload, 1) := by decide +kernel
theorem dL_law_950 : decode cL_law 950 = .ok (.aload_n 0, 1) := by decide +kernel
theorem dL_law_951 : decode cL_law 951 = .ok (.iload_n 3, 1) := by decide +kernel
theorem dL_law_952 : decode cL_law 952 = .ok (.iconst 2, 1) := by decide +kernel
theorem dL_law_953 : decode cL_law 953 = .ok (.iadd, 1) := by decide +kernel
theorem dL_law_954 : decode cL_law 954 = .ok (.iaload, 1) := by decide +kernel
theorem dL_law_955 : decode cL_law 955 = .ok (.aload_n 0, 1) := by decide +kernel
theorem dL_law_956 : decode cL_law 956 = .ok (.iload_n 3, 1) := by decide +kernel
theorem dL_law_957 : decode cL_law 957 = .ok (.iconst 3, 1) := by decide +kernel
theorem dL_law_958 : decode cL_law 958 = .ok (.iadd, 1) := by decide +kernel
theorem dL_law_959 : decode cL_law 959 = .ok (.iaload, 1) := by decide +kernel
theorem dL_law_960 : decode cL_law 960 = .ok (.aload_n 0, 1) := by decide +kernel
theorem dL_law_961 : decode cL_law 961 = .ok (.iload_n 3, 1) := by decide +kernel
theorem dL_law_962 : decode cL_law 962 = .ok (.iconst 4, 1) := by decide +kernel
theorem dL_law_963 : decode cL_law 963 = .ok (.iadd, 1) := by decide +kernel
theorem dL_law_964 : decode cL_law 964 = .ok (.iaload, 1) := by decide +kernel
theorem dL_law_965 : decode cL_law 965 = .ok (.aload_n 0, 1) := by decide +kernel
theorem dL_law_966 : decode cL_law 966 = .ok (.iload_n 3, 1) := by decide +kernel
theorem dL_law_967 : decode cL_law 967 = .ok (.iconst 5, 1) := by decide +kernel
theorem dL_law_968 : decode cL_law 968 = .ok (.iadd, 1) := by decide +kernel
theorem dL_law_969 : decode cL_law 969 = .ok (.iaload, 1) := by decide +kernel
theorem dL_law_970 : decode cL_law 970 = .ok (.invokevirtual 144, 3) := by decide +kernel
theorem dL_law_973 : decode cL_law 973 = .ok (.aload_n 2, 1) := by decide +kernel
theorem dL_law_974 : decode cL_law 974 = .ok (.aload_n 0, 1) := by decide +kernel
theorem dL_law_975 : decode cL_law 975 = .ok (.iload_n 3, 1) := by decide +kernel
theorem dL_law_976 : decode cL_law 976 = .ok (.iconst 1, 1) := by decide +kernel
theorem dL_law_977 : decode cL_law 977 = .ok (.iadd, 1) := by decide +kernel
theorem dL_law_978 : decode cL_law 978 = .ok (.iaload, 1) := by decide +kernel
theorem dL_law_979 : decode cL_law 979 = .ok (.aload_n 0, 1) := by decide +kernel
theorem dL_law_980 : decode cL_law 980 = .ok (.iload_n 3, 1) := by decide +kernel
theorem dL_law_981 : decode cL_law 981 = .ok (.iconst 2, 1) := by decide +kernel
theorem dL_law_982 : decode cL_law 982 = .ok (.iadd, 1) := by decide +kernel
theorem dL_law_983 : decode cL_law 983 = .ok (.iaload, 1) := by decide +kernel
theorem dL_law_984 : decode cL_law 984 = .ok (.aload_n 0, 1) := by decide +kernel
theorem dL_law_985 : decode cL_law 985 = .ok (.iload_n 3, 1) := by decide +kernel
theorem dL_law_986 : decode cL_law 986 = .ok (.iconst 3, 1) := by decide +kernel
theorem dL_law_987 : decode cL_law 987 = .ok (.iadd, 1) := by decide +kernel
theorem dL_law_988 : decode cL_law 988 = .ok (.iaload, 1) := by decide +kernel
theorem dL_law_989 : decode cL_law 989 = .ok (.aload_n 0, 1) := by decide +kernel
theorem dL_law_990 : decode cL_law 990 = .ok (.iload_n 3, 1) := by decide +kernel
theorem dL_law_991 : decode cL_law 991 = .ok (.iconst 4, 1) := by decide +kernel
theorem dL_law_992 : decode cL_law 992 = .ok (.iadd, 1) := by decide +kernel
theorem dL_law_993 : decode cL_law 993 = .ok (.iaload, 1) := by decide +kernel
theorem dL_law_994 : decode cL_law 994 = .ok (.aload_n 0, 1) := by decide +kernel
theorem dL_law_995 : decode cL_law 995 = .ok (.iload_n 3, 1) := by decide +kernel
theorem dL_law_996 : decode cL_law 996 = .ok (.iconst 5, 1) := by decide +kernel
theorem dL_law_997 : decode cL_law 997 = .ok (.iadd, 1) := by decide +kernel
theorem dL_law_998 : decode cL_law 998 = .ok (.iaload, 1) := by decide +kernel
theorem dL_law_999 : decode cL_law 999 = .ok (.invokevirtual 148, 3) := by decide +kernel
theorem dL_law_1002 : decode cL_law 1002 = .ok (.if_icmp .eq 65, 3) := by decide +kernel
theorem dL_law_1005 : decode cL_law 1005 = .ok (.iconst 0, 1) := by decide +kernel
theorem dL_law_1006 : decode cL_law 1006 = .ok (.ireturn, 1) := by decide +kernel
theorem dL_law_1007 : decode cL_law 1007 = .ok (.aload_n 1, 1) := by decide +kernel
theorem dL_law_1008 : decode cL_law 1008 = .ok (.aload_n 0, 1) := by decide +kernel
theorem dL_law_1009 : decode cL_law 1009 = .ok (.iload_n 3, 1) := by decide +kernel
theorem dL_law_1010 : decode cL_law 1010 = .ok (.iconst 1, 1) := by decide +kernel
theorem dL_law_1011 : decode cL_law 1011 = .ok (.iadd, 1) := by decide +kernel
theorem dL_law_1012 : decode cL_law 1012 = .ok (.iaload, 1) := by decide +kernel
theorem dL_law_1013 : decode cL_law 1013 = .ok (.invokevirtual 149, 3) := by decide +kernel
theorem dL_law_1016 : decode cL_law 1016 = .ok (.aload_n 2, 1) := by decide +kernel
theorem dL_law_1017 : decode cL_law 1017 = .ok (.aload_n 0, 1) := by decide +kernel
theorem dL_law_1018 : decode cL_law 1018 = .ok (.iload_n 3, 1) := by decide +kernel
theorem dL_law_1019 : decode cL_law 1019 = .ok (.iconst 1, 1) := by decide +kernel
theorem dL_law_1020 : decode cL_law 1020 = .ok (.iadd, 1) := by decide +kernel
theorem dL_law_1021 : decode cL_law 1021 = .ok (.iaload, 1) := by decide +kernel
theorem dL_law_1022 : decode cL_law 1022 = .ok (.invokevirtual 152, 3) := by decide +kernel
theorem dL_law_1025 : decode cL_law 1025 = .ok (.if_icmp .eq 42, 3) := by decide +kernel
theorem dL_law_1028 : decode cL_law 1028 = .ok (.iconst 0, 1) := by decide +kernel
theorem dL_law_1029 : decode cL_law 1029 = .ok (.ireturn, 1) := by decide +kernel
theorem dL_law_1030 : decode cL_law 1030 = .ok (.aload_n 1, 1) := by decide +kernel
theorem dL_law_1031 : decode cL_law 1031 = .ok (.aload_n 0, 1) := by decide +kernel
theorem dL_law_1032 : decode cL_law 1032 = .ok (.iload_n 3, 1) := by decide +kernel
theorem dL_law_1033 : decode cL_law 1033 = .ok (.iconst 1, 1) := by decide +kernel
theorem dL_law_1034 : decode cL_law 1034 = .ok (.iadd, 1) := by decide +kernel
theorem dL_law_1035 : decode cL_law 1035 = .ok (.iaload, 1) := by decide +kernel
theorem dL_law_1036 : decode cL_law 1036 = .ok (.invokevirtual 153, 3) := by decide +kernel
theorem dL_law_1039 : decode cL_law 1039 = .ok (.aload_n 2, 1) := by decide +kernel
theorem dL_law_1040 : decode cL_law 1040 = .ok (.aload_n 0, 1) := by decide +kernel
theorem dL_law_1041 : decode cL_law 1041 = .ok (.iload_n 3, 1) := by decide +kernel
theorem dL_law_1042 : decode cL_law 1042 = .ok (.iconst 1, 1) := by decide +kernel
theorem dL_law_1043 : decode cL_law 1043 = .ok (.iadd, 1) := by decide +kernel
theorem dL_law_1044 : decode cL_law 1044 = .ok (.iaload, 1) := by decide +kernel
theorem dL_law_1045 : decode cL_law 1045 = .ok (.invokevirtual 156, 3) := by decide +kernel
theorem dL_law_1048 : decode cL_law 1048 = .ok (.if_icmp .eq 19, 3) := by decide +kernel
theorem dL_law_1051 : decode cL_law 1051 = .ok (.iconst 0, 1) := by decide +kernel
theorem dL_law_1052 : decode cL_law 1052 = .ok (.ireturn, 1) := by decide +kernel
theorem dL_law_1053 : decode cL_law 1053 = .ok (.aload_n 1, 1) := by decide +kernel
theorem dL_law_1054 : decode cL_law 1054 = .ok (.invokevirtual 157, 3) := by decide +kernel
theorem dL_law_1057 : decode cL_law 1057 = .ok (.aload_n 2, 1) := by decide +kernel
theorem dL_law_1058 : decode cL_law 1058 = .ok (.invokevirtual 161, 3) := by decide +kernel
theorem dL_law_1061 : decode cL_law 1061 = .ok (.lcmp, 1) := by decide +kernel
theorem dL_law_1062 : decode cL_law 1062 = .ok (.ifCond .eq 5, 3) := by decide +kernel
theorem dL_law_1065 : decode cL_law 1065 = .ok (.iconst 0, 1) := by decide +kernel
theorem dL_law_1066 : decode cL_law 1066 = .ok (.ireturn, 1) := by decide +kernel
theorem dL_law_1067 : decode cL_law 1067 = .ok (.iinc 3 6, 3) := by decide +kernel
theorem dL_law_1070 : decode cL_law 1070 = .ok (.goto (-1052), 3) := by decide +kernel
theorem dL_law_1073 : decode cL_law 1073 = .ok (.iconst 1, 1) := by decide +kernel
theorem dL_law_1074 : decode cL_law 1074 = .ok (.ireturn, 1) := by decide +kernel
end
section
/-! the world: 44 cells; the judgement G, the contract Ct, a row an instruction -/
abbrev GT : Type := Launch × va_G × (ClassId × ClassId × ClassId × ClassId) × (Nat → Nat)
abbrev MD : Type := MethodName × ByteArray × Nat × Option FieldType
abbrev St : Type := (Nat → Nat → Int32) × (Nat → Nat → Int64)
abbrev NT : Type := Room × Nat × Nat × (List Frame → Array Value → State → (Nat → Prop) → State → Prop) × (State → (Nat → Prop) → Prop)
abbrev rf (Γ : GT) (k : Nat) : Value := .ref (Γ.2.2.2 k)
def tyO (Γ : GT) : List (ClassId × FieldType) := [(Γ.2.2.1.1, .int), (Γ.2.2.1.2.1, .long), (Γ.2.2.1.2.2.1, .boolean), (Γ.2.2.1.2.2.2, .object RX2)]
def ciN (Γ : GT) (n : Nat) (f : Nat → Int32) : va_E := .inl (Γ.2.2.1.1, n, .inl f)
def cjN (Γ : GT) (n : Nat) (f : Nat → Int64) : va_E := .inl (Γ.2.2.1.2.1, n, .inr (.inl f))
def czN (Γ : GT) (n : Nat) (f : Nat → Int32) : va_E := .inl (Γ.2.2.1.2.2.1, n, .inl f)
def cel (Γ : GT) (k : Nat) (f : Nat → Int32) (g : Nat → Int64) : va_E := match k with
  | 0 => .inr (5, [rf Γ 1, rf Γ 7, rf Γ 11, rf Γ 14, rf Γ 16, .int (f 5)])
  | 1 => .inr (1, [.int (f 0), .int (f 1), rf Γ 2, rf Γ 3, rf Γ 4, rf Γ 5, rf Γ 6])
  | 2 => ciN Γ 25 f
  | 3 => ciN Γ 5 f
  | 4 => ciN Γ 5 f
  | 5 => ciN Γ 5 f
  | 6 => ciN Γ 5 f
  | 7 => .inr (0, [rf Γ 1, rf Γ 8, rf Γ 9, rf Γ 10])
  | 8 => cjN Γ 25 g
  | 9 => cjN Γ 32 g
  | 10 => ciN Γ 5 f
  | 11 => .inr (4, [.int (f 0), rf Γ 12, rf Γ 1, rf Γ 13])
  | 12 => ciN Γ 5 f
  | 13 => ciN Γ 5 f
  | 14 => .inr (3, [.int (f 0), rf Γ 15])
  | 15 => ciN Γ 12 f
  | 16 => .inl (Γ.2.2.1.2.2.2, 4, .inr (.inr (.inr (.inr (fun i => some (Γ.2.2.2 (17 + i)))))))
  | 17 => .inr (2, [.int (f 0), .int (f 1), rf Γ 21])
  | 18 => .inr (2, [.int (f 0), .int (f 1), rf Γ 22])
  | 19 => .inr (2, [.int (f 0), .int (f 1), rf Γ 23])
  | 20 => .inr (2, [.int (f 0), .int (f 1), rf Γ 24])
  | 21 => ciN Γ 60 f
  | 22 => ciN Γ 60 f
  | 23 => ciN Γ 60 f
  | 24 => ciN Γ 60 f
  | 25 => .inr (6, [.int (f 0), .int (f 1), rf Γ 26, rf Γ 27, rf Γ 28, rf Γ 29, rf Γ 30, rf Γ 31, rf Γ 32, .int (f 9), rf Γ 33, rf Γ 34, rf Γ 35, .int (f 13), .int (f 14), rf Γ 36, rf Γ 37, rf Γ 38, rf Γ 39, rf Γ 40, rf Γ 41, rf Γ 42, rf Γ 43, .int (f 23)])
  | 26 => ciN Γ 25 f
  | 27 => ciN Γ 5 f
  | 28 => ciN Γ 5 f
  | 29 => ciN Γ 5 f
  | 30 => czN Γ 5 f
  | 31 => ciN Γ 5 f
  | 32 => ciN Γ 12 f
  | 33 => cjN Γ 25 g
  | 34 => cjN Γ 32 g
  | 35 => ciN Γ 5 f
  | 36 => ciN Γ 5 f
  | 37 => ciN Γ 5 f
  | 38 => ciN Γ 5 f
  | 39 => czN Γ 4 f
  | 40 => ciN Γ 4 f
  | 41 => ciN Γ 4 f
  | 42 => ciN Γ 240 f
  | _ => ciN Γ 60 f
def wO (Γ : GT) (σ : St) : va_W := (List.range 44).map (fun k => (Γ.2.2.2 k, cel Γ k (σ.1 k) (σ.2 k)))
theorem wO_at {Γ : GT} {σ : St} {k : Nat} (h : k < 44) : (wO Γ σ)[k]? = some (Γ.2.2.2 k, cel Γ k (σ.1 k) (σ.2 k)) := by simp [wO, h]
theorem wO_none {Γ : GT} {σ : St} {k : Nat} (h : ¬ k < 44) : (wO Γ σ)[k]? = none := by
  rw [List.getElem?_eq_none_iff]; simp [wO]; omega
theorem wO_len {Γ : GT} {σ : St} : (wO Γ σ).length = 44 := by simp [wO]
theorem wO_ad {Γ : GT} {σ : St} {k : Nat} {q : Nat × va_E} (h : (wO Γ σ)[k]? = some q) : k < 44 ∧ q.1 = Γ.2.2.2 k := by
  by_cases h4 : k < 44
  · rw [wO_at h4] at h; cases h; exact ⟨h4, rfl⟩
  · rw [wO_none h4] at h; cases h
theorem wO_set {Γ : GT} {σ τ : St} {a : Nat} (h : ∀ b, b ≠ a → τ.1 b = σ.1 b ∧ τ.2 b = σ.2 b) : (wO Γ σ).set a (Γ.2.2.2 a, cel Γ a (τ.1 a) (τ.2 a)) = wO Γ τ := by
  apply List.ext_getElem?
  intro k
  by_cases hk : k = a
  · subst hk
    by_cases h4 : k < 44
    · rw [wO_at h4, List.getElem?_set_self (by rw [wO_len]; exact h4)]
    · rw [wO_none h4, List.getElem?_eq_none_iff]; rw [List.length_set, wO_len]; omega
  · rw [List.getElem?_set_ne (Ne.symm hk)]
    by_cases h4 : k < 44
    · rw [wO_at h4, wO_at h4, (h k hk).1, (h k hk).2]
    · rw [wO_none h4, wO_none h4]
theorem wO_D {Γ : GT} {σ τ : St} {A : Nat → Prop} (h : va_D A (wO Γ σ)) : va_D A (wO Γ τ) := by
  have key : ∀ (k : Nat) (q : Nat × va_E), (wO Γ τ)[k]? = some q → (wO Γ σ)[k]? = some (q.1, cel Γ k (σ.1 k) (σ.2 k)) := by
    intro k q hk
    obtain ⟨h4, e⟩ := wO_ad hk
    rw [wO_at h4, e]
  exact ⟨fun i j p q hi hj hpq => h.1 i j _ _ (key i p hi) (key j q hj) hpq, fun k q hk => h.2 k (q.1, cel Γ k (σ.1 k) (σ.2 k)) (key k q hk)⟩
/-- the whole row of a cell is changed -/
def sF (σ : St) (a : Nat) (f : Nat → Int32) : St := (fun b => if b = a then f else σ.1 b, σ.2)
def sI (σ : St) (a k : Nat) (v : Int32) : St := sF σ a (upd (σ.1 a) k v)
def sG (σ : St) (a : Nat) (f : Nat → Int64) : St := (σ.1, fun b => if b = a then f else σ.2 b)
def sJ (σ : St) (a k : Nat) (v : Int64) : St := sG σ a (vp_updL (σ.2 a) k v)
theorem wO_sF {Γ : GT} {σ : St} {a : Nat} {f : Nat → Int32} : (wO Γ σ).set a (Γ.2.2.2 a, cel Γ a f (σ.2 a)) = wO Γ (sF σ a f) := by
  have h := wO_set (Γ := Γ) (σ := σ) (τ := sF σ a f) (a := a) (fun b hb => ⟨by simp [sF, hb], rfl⟩)
  simpa [sF] using h
theorem wO_sG {Γ : GT} {σ : St} {a : Nat} {f : Nat → Int64} : (wO Γ σ).set a (Γ.2.2.2 a, cel Γ a (σ.1 a) f) = wO Γ (sG σ a f) := by
  have h := wO_set (Γ := Γ) (σ := σ) (τ := sG σ a f) (a := a) (fun b hb => ⟨rfl, by simp [sG, hb]⟩)
  simpa [sG] using h
/-- every word that a method may use: of the tables, and kept by every call -/
def gt : List Cond := lw_tbl.filter goodWord
theorem gt_in {w : Cond} {i : Nat} (h : lw_tbl[i]? = some w) (g : goodWord w = true) : w ∈ gt := List.mem_filter.mpr ⟨List.mem_of_getElem? h, g⟩
theorem gt_good : GoodIn gt gt := fun w h => ⟨h, good_of_word (List.mem_filter.mp h).2⟩
def Cx (Γ : GT) (M : MD) (N : NT) (p : Program) (s : State) (m : MethodId) (args : Array Value) (meth : Method) (c : Code) (A : Nat → Prop) : Prop :=
  p.tables.exec = Jvm.exec ∧ c.code = M.2.1 ∧ meth.sig.returnType = M.2.2.2 ∧ c.maxLocals = M.2.2.1 ∧ s.vm.findClass M.1.cls = some m.cls ∧ (∀ w ∈ gt, w.before args s = true) ∧ meth.locks = false ∧ va_K Γ.2.1 vwCl (tyO Γ) s ∧ (∀ q, s.heap.size ≤ q → A q) ∧ N.2.2.2.2 s A
def G (Γ : GT) (M : MD) (N : NT) (pc : Nat) (ls : List (Nat × Value)) (st : List Value) (σ : St) : Prop :=
  ∀ (p : Program) (e : Env) (s : State) (m : MethodId) (args : Array Value) (below : List Frame) (meth : Method) (c : Code) (A : Nat → Prop) (H : Heap) (locs : List Loc) (la : Array Slot),
    Cx Γ M N p s m args meth c A → va_P Γ.2.1 vwCl (wO Γ σ) H → va_D A (wO Γ σ) → va_S A s.heap H locs → lv_has la M.2.2.1 ls →
    W p Γ.1 e N.1 s m args below meth c H locs N.2.1 N.2.2.1 (N.2.2.2.1 below args s A) (F0 m pc la st)
def Qcc (Γ : GT) (Q : Option Value → St → Prop) (A : Nat → Prop) : Array Value → State → Outcome → State → Prop := fun _ st oc t =>
  (∃ (v : Option Value) (τ : St), oc = .returned v ∧ Q v τ ∧ va_P Γ.2.1 vwCl (wO Γ τ) t.heap) ∧ va_F A st t
abbrev rmN (n : Nat) : Room := { frames := n, cells := 0, slots := 0, locals := 30 * n }
abbrev NM (Γ : GT) (n : Nat) (Q : Option Value → St → Prop) : NT := (rmN n, 0, 0, fun below args s A => MQ below (Qcc Γ Q A) args s 0 0 A, fun _ _ => True)
def wsM (M : MD) : List Cond := Cond.code M.1 M.2.1 M.2.2.1 M.2.2.2 :: gt
def PcC (Γ : GT) (args : List Value) (σ : St) (sz : Nat) : Array Value → State → Prop := va_Pc args (fun U => U.heap.size = sz ∧ va_P Γ.2.1 vwCl (wO Γ σ) U.heap ∧ va_K Γ.2.1 vwCl (tyO Γ) U ∧ va_D (fun _ => True) (wO Γ σ))
/-- the contract: from the world σ the method M with these arguments ends, in a world τ, with an answer v, of which Q v τ holds -/
def Ct (Γ : GT) (M : MD) (n : Nat) (args : List Value) (σ : St) (Q : Option Value → St → Prop) : Prop :=
  ∀ sz : Nat, Met Γ.1 M.1 (wsM M) (rmN n) (PcC Γ args σ sz) (Qcc Γ Q (va_A (wO Γ σ) sz)) 0 0 (va_A (wO Γ σ) sz)
abbrev CtI (Γ : GT) (M : MD) (n : Nat) (args : List Value) (σ : St) (Q : Int32 → St → Prop) : Prop := Ct Γ M n args σ (fun v τ => ∃ r : Int32, v = some (.int r) ∧ Q r τ)
abbrev CtJ (Γ : GT) (M : MD) (n : Nat) (args : List Value) (σ : St) (Q : Int64 → St → Prop) : Prop := Ct Γ M n args σ (fun v τ => ∃ r : Int64, v = some (.long r) ∧ Q r τ)
abbrev CtV (Γ : GT) (M : MD) (n : Nat) (args : List Value) (σ : St) (Q : St → Prop) : Prop := Ct Γ M n args σ (fun v τ => v = none ∧ Q τ)
theorem ct_of {Γ : GT} {M : MD} {n : Nat} {args : List Value} {σ : St} {Q : Option Value → St → Prop} (hy : plainName M.1.cls = true) (hn : (lg_sl args).length ≤ M.2.2.1) (h : G Γ M (NM Γ n Q) 0 (lv_args 0 args) [] σ) : Ct Γ M n args σ Q := by
  intro sz
  refine Met.ofW (cc := M.2.1) (maxL := M.2.2.1) (ret := M.2.2.2) hy rfl ?_
  intro p e s m args' below meth c s₁ B hml hv
  obtain ⟨rfl, hsz, hP, hK, hD0⟩ := hv
  have hts := atoms_spec (ws := wsM M) B.pre
  have hown : s.vm.findClass M.1.cls = some m.cls := findClass_of_methodNamed B.named
  subst hsz
  have hl := lv_entry args (n := M.2.2.1) hn
  rw [lg_entry_eq]
  exact h p e s m _ below meth c (va_A (wO Γ σ) s.heap.size) s.heap [] _ ⟨B.exec, B.bytes, B.returns, hml, hown, fun w hw => hts w (List.mem_cons_of_mem _ hw), B.notSynchronized, hK, fun q hq => Or.inr hq, trivial⟩ hP hD0.self va_S.rf hl
/-- a contract says less -/
theorem Ct.mono {Γ : GT} {M : MD} {n : Nat} {args : List Value} {σ : St} {Q Q' : Option Value → St → Prop} (h : Ct Γ M n args σ Q) (hq : ∀ v τ, Q v τ → Q' v τ) : Ct Γ M n args σ Q' := by
  intro sz
  have h0 := h sz
  intro p e ha hc hk s m a below hf happ hP hK
  obtain ⟨k, o, h1, h2, h3, ⟨⟨⟨v, τ, e1, e2, e3⟩, e4⟩, e5⟩⟩ := h0 p e ha hc hk s m a below hf happ hP hK
  exact ⟨k, o, h1, h2, h3, ⟨⟨⟨v, τ, e1, hq v τ e2, e3⟩, e4⟩, e5⟩⟩
def rmOk (n : Nat) (N : NT) : Prop := n ≤ N.1.frames ∧ 30 * n ≤ N.1.locals ∧ N.2.1 ≤ N.1.cells ∧ N.2.2.1 ≤ N.1.slots
theorem rmOk_M (Γ : GT) (n : Nat) (Q : Option Value → St → Prop) : rmOk n (NM Γ n Q) := ⟨Nat.le_refl _, Nat.le_refl _, Nat.le_refl _, Nat.le_refl _⟩
section ROWS
variable {Γ : GT} {M : MD} {N : NT} {pc : Nat} {ls : List (Nat × Value)} {st : List Value} {σ : St}
theorem g_pm {ls' : List (Nat × Value)} (ks : List Nat) (h : lv_pick ls ks = ls') (k : G Γ M N pc ls' st σ) : G Γ M N pc ls st σ :=
  fun p e s m args below meth c A H locs la C hP hD hS hl => k p e s m args below meth c A H locs la C hP hD hS (lv_sub hl ks h)
theorem g_iconst {n : Int} (v : Int32) (hd : decode M.2.1 pc = .ok (.iconst n, 1)) (hv : Int32.ofInt n = v) (k : G Γ M N (pc + 1) ls (.int v :: st) σ) : G Γ M N pc ls st σ :=
  fun p e s m args below meth c A H locs la C hP hD hS hl => lv_iconst C.1 C.2.1 hd hv (k p e s m args below meth c A H locs la C hP hD hS hl)
theorem g_bipush {n : Int} (v : Int32) (hd : decode M.2.1 pc = .ok (.bipush n, 2)) (hv : (Int8.ofInt n).toInt32 = v) (k : G Γ M N (pc + 2) ls (.int v :: st) σ) : G Γ M N pc ls st σ :=
  fun p e s m args below meth c A H locs la C hP hD hS hl => lv_bipush C.1 C.2.1 hd hv (k p e s m args below meth c A H locs la C hP hD hS hl)
theorem g_sipush {n : Int} (v : Int32) (hd : decode M.2.1 pc = .ok (.sipush n, 3)) (hv : (Int16.ofInt n).toInt32 = v) (k : G Γ M N (pc + 3) ls (.int v :: st) σ) : G Γ M N pc ls st σ :=
  fun p e s m args below meth c A H locs la C hP hD hS hl => lv_sipush C.1 C.2.1 hd hv (k p e s m args below meth c A H locs la C hP hD hS hl)
theorem g_lconst {n : Fin 2} (v : Int64) (hd : decode M.2.1 pc = .ok (.lconst n, 1)) (hv : Int64.ofNat (n : Nat) = v) (k : G Γ M N (pc + 1) ls (.long v :: st) σ) : G Γ M N pc ls st σ :=
  fun p e s m args below meth c A H locs la C hP hD hS hl => lv_lconst C.1 C.2.1 hd hv (k p e s m args below meth c A H locs la C hP hD hS hl)
theorem g_ldc {idx : Nat} (v : Int32) (hw : Cond.constant M.1.cls idx v ∈ gt) (hd : decode M.2.1 pc = .ok (.ldc idx, 2)) (k : G Γ M N (pc + 2) ls (.int v :: st) σ) : G Γ M N pc ls st σ :=
  fun p e s m args below meth c A H locs la C hP hD hS hl => lv_ldc C.1 C.2.1 C.2.2.2.2.1 (C.2.2.2.2.2.1 _ hw) hd (k p e s m args below meth c A H locs la C hP hD hS hl)
theorem g_ldcw {idx : Nat} (v : Int32) (hw : Cond.constant M.1.cls idx v ∈ gt) (hd : decode M.2.1 pc = .ok (.ldc_w idx, 3)) (k : G Γ M N (pc + 3) ls (.int v :: st) σ) : G Γ M N pc ls st σ :=
  fun p e s m args below meth c A H locs la C hP hD hS hl => lv_ldcw C.1 C.2.1 C.2.2.2.2.1 (C.2.2.2.2.2.1 _ hw) hd (k p e s m args below meth c A H locs la C hP hD hS hl)
theorem g_ldc2 {idx : Nat} (v : Int64) (hw : Cond.constantLong M.1.cls idx v ∈ gt) (hd : decode M.2.1 pc = .ok (.ldc2_w idx, 3)) (k : G Γ M N (pc + 3) ls (.long v :: st) σ) : G Γ M N pc ls st σ :=
  fun p e s m args below meth c A H locs la C hP hD hS hl => lv_ldc2 C.1 C.2.1 C.2.2.2.2.1 (C.2.2.2.2.2.1 _ hw) hd (k p e s m args below meth c A H locs la C hP hD hS hl)
theorem g_iload_n {k : Fin 4} {i : Nat} {x : Int32} (hd : decode M.2.1 pc = .ok (.iload_n k, 1)) (hi : (k : Nat) = i) (j : Nat) (hj : ls[j]? = some (i, .int x)) (kk : G Γ M N (pc + 1) ls (.int x :: st) σ) : G Γ M N pc ls st σ :=
  fun p e s m args below meth c A H locs la C hP hD hS hl => lv_iload_n C.1 C.2.1 hd hi (lv_at hl j hj) (kk p e s m args below meth c A H locs la C hP hD hS hl)
theorem g_iload {i : Nat} {x : Int32} (hd : decode M.2.1 pc = .ok (.iload i, 2)) (j : Nat) (hj : ls[j]? = some (i, .int x)) (kk : G Γ M N (pc + 2) ls (.int x :: st) σ) : G Γ M N pc ls st σ :=
  fun p e s m args below meth c A H locs la C hP hD hS hl => lv_iload C.1 C.2.1 hd (lv_at hl j hj) (kk p e s m args below meth c A H locs la C hP hD hS hl)
theorem g_lload_n {k : Fin 4} {i : Nat} {x : Int64} (hd : decode M.2.1 pc = .ok (.lload_n k, 1)) (hi : (k : Nat) = i) (j : Nat) (hj : ls[j]? = some (i, .long x)) (kk : G Γ M N (pc + 1) ls (.long x :: st) σ) : G Γ M N pc ls st σ :=
  fun p e s m args below meth c A H locs la C hP hD hS hl => lv_lload_n C.1 C.2.1 hd hi (lv_at hl j hj) (kk p e s m args below meth c A H locs la C hP hD hS hl)
theorem g_lload {i : Nat} {x : Int64} (hd : decode M.2.1 pc = .ok (.lload i, 2)) (j : Nat) (hj : ls[j]? = some (i, .long x)) (kk : G Γ M N (pc + 2) ls (.long x :: st) σ) : G Γ M N pc ls st σ :=
  fun p e s m args below meth c A H locs la C hP hD hS hl => lv_lload C.1 C.2.1 hd (lv_at hl j hj) (kk p e s m args below meth c A H locs la C hP hD hS hl)
theorem g_aload_n {k : Fin 4} {i : Nat} {x : Nat} (hd : decode M.2.1 pc = .ok (.aload_n k, 1)) (hi : (k : Nat) = i) (j : Nat) (hj : ls[j]? = some (i, .ref x)) (kk : G Γ M N (pc + 1) ls (.ref x :: st) σ) : G Γ M N pc ls st σ :=
  fun p e s m args below meth c A H locs la C hP hD hS hl => lv_aload_n C.1 C.2.1 hd hi (lv_at hl j hj) (kk p e s m args below meth c A H locs la C hP hD hS hl)
theorem g_aload {i : Nat} {x : Nat} (hd : decode M.2.1 pc = .ok (.aload i, 2)) (j : Nat) (hj : ls[j]? = some (i, .ref x)) (kk : G Γ M N (pc + 2) ls (.ref x :: st) σ) : G Γ M N pc ls st σ :=
  fun p e s m args below meth c A H locs la C hP hD hS hl => lv_aload C.1 C.2.1 hd (lv_at hl j hj) (kk p e s m args below meth c A H locs la C hP hD hS hl)
theorem g_istore_n {k : Fin 4} {i : Nat} {x : Int32} (lv' : List (Nat × Value)) (hd : decode M.2.1 pc = .ok (.istore_n k, 1)) (hi : (k : Nat) = i) (hn : i < M.2.2.1) (hl' : (i, Value.int x) :: ls.filter (fun q => !(q.1 == i) && !(q.1 + 1 == i && q.2.category == 2)) = lv') (kk : G Γ M N (pc + 1) lv' st σ) : G Γ M N pc ls (.int x :: st) σ :=
  fun p e s m args below meth c A H locs la C hP hD hS hl => lv_istore_n C.1 C.2.1 hd hi hl hn hl' (fun la hl => kk p e s m args below meth c A H locs la C hP hD hS hl)
theorem g_istore {i : Nat} {x : Int32} (lv' : List (Nat × Value)) (hd : decode M.2.1 pc = .ok (.istore i, 2)) (hn : i < M.2.2.1) (hl' : (i, Value.int x) :: ls.filter (fun q => !(q.1 == i) && !(q.1 + 1 == i && q.2.category == 2)) = lv') (kk : G Γ M N (pc + 2) lv' st σ) : G Γ M N pc ls (.int x :: st) σ :=
  fun p e s m args below meth c A H locs la C hP hD hS hl => lv_istore C.1 C.2.1 hd hl hn hl' (fun la hl => kk p e s m args below meth c A H locs la C hP hD hS hl)
theorem g_astore_n {k : Fin 4} {i : Nat} {x : Nat} (lv' : List (Nat × Value)) (hd : decode M.2.1 pc = .ok (.astore_n k, 1)) (hi : (k : Nat) = i) (hn : i < M.2.2.1) (hl' : (i, Value.ref x) :: ls.filter (fun q => !(q.1 == i) && !(q.1 + 1 == i && q.2.category == 2)) = lv') (kk : G Γ M N (pc + 1) lv' st σ) : G Γ M N pc ls (.ref x :: st) σ :=
  fun p e s m args below meth c A H locs la C hP hD hS hl => lv_astore_n C.1 C.2.1 hd hi hl hn hl' (fun la hl => kk p e s m args below meth c A H locs la C hP hD hS hl)
theorem g_astore {i : Nat} {x : Nat} (lv' : List (Nat × Value)) (hd : decode M.2.1 pc = .ok (.astore i, 2)) (hn : i < M.2.2.1) (hl' : (i, Value.ref x) :: ls.filter (fun q => !(q.1 == i) && !(q.1 + 1 == i && q.2.category == 2)) = lv') (kk : G Γ M N (pc + 2) lv' st σ) : G Γ M N pc ls (.ref x :: st) σ :=
  fun p e s m args below meth c A H locs la C hP hD hS hl => lv_astore C.1 C.2.1 hd hl hn hl' (fun la hl => kk p e s m args below meth c A H locs la C hP hD hS hl)
theorem g_lstore_n {k : Fin 4} {i : Nat} {x : Int64} (lv' : List (Nat × Value)) (hd : decode M.2.1 pc = .ok (.lstore_n k, 1)) (hi : (k : Nat) = i) (hn : i + 1 < M.2.2.1) (hl' : (i, Value.long x) :: ls.filter (fun q => !(q.1 == i) && (!(q.1 == i + 1) && !(q.1 + 1 == i && q.2.category == 2))) = lv') (kk : G Γ M N (pc + 1) lv' st σ) : G Γ M N pc ls (.long x :: st) σ :=
  fun p e s m args below meth c A H locs la C hP hD hS hl => lv_lstore_n C.1 C.2.1 hd hi hl hn hl' (fun la hl => kk p e s m args below meth c A H locs la C hP hD hS hl)
theorem g_lstore {i : Nat} {x : Int64} (lv' : List (Nat × Value)) (hd : decode M.2.1 pc = .ok (.lstore i, 2)) (hn : i + 1 < M.2.2.1) (hl' : (i, Value.long x) :: ls.filter (fun q => !(q.1 == i) && (!(q.1 == i + 1) && !(q.1 + 1 == i && q.2.category == 2))) = lv') (kk : G Γ M N (pc + 2) lv' st σ) : G Γ M N pc ls (.long x :: st) σ :=
  fun p e s m args below meth c A H locs la C hP hD hS hl => lv_lstore C.1 C.2.1 hd hl hn hl' (fun la hl => kk p e s m args below meth c A H locs la C hP hD hS hl)
theorem g_iinc {i : Nat} {n : Int} {x : Int32} (v : Int32) (lv' : List (Nat × Value)) (hd : decode M.2.1 pc = .ok (.iinc i n, 3)) (j : Nat) (hj : ls[j]? = some (i, .int x)) (hv : Int32.ofInt n = v) (hn : i < M.2.2.1) (hl' : (i, Value.int (x + v)) :: ls.filter (fun q => !(q.1 == i) && !(q.1 + 1 == i && q.2.category == 2)) = lv') (kk : G Γ M N (pc + 3) lv' st σ) : G Γ M N pc ls st σ :=
  fun p e s m args below meth c A H locs la C hP hD hS hl => lv_iinc C.1 C.2.1 hd hl hj (by rw [hv]) hn hl' (fun la hl => kk p e s m args below meth c A H locs la C hP hD hS hl)
theorem g_iadd {x y : Int32} (hd : decode M.2.1 pc = .ok (.iadd, 1)) (k : G Γ M N (pc + 1) ls (.int (x + y) :: st) σ) : G Γ M N pc ls (.int y :: .int x :: st) σ :=
  fun p e s m args below meth c A H locs la C hP hD hS hl => lv_iadd C.1 C.2.1 hd (k p e s m args below meth c A H locs la C hP hD hS hl)
theorem g_isub {x y : Int32} (hd : decode M.2.1 pc = .ok (.isub, 1)) (k : G Γ M N (pc + 1) ls (.int (x - y) :: st) σ) : G Γ M N pc ls (.int y :: .int x :: st) σ :=
  fun p e s m args below meth c A H locs la C hP hD hS hl => lv_isub C.1 C.2.1 hd (k p e s m args below meth c A H locs la C hP hD hS hl)
theorem g_imul {x y : Int32} (hd : decode M.2.1 pc = .ok (.imul, 1)) (k : G Γ M N (pc + 1) ls (.int (x * y) :: st) σ) : G Γ M N pc ls (.int y :: .int x :: st) σ :=
  fun p e s m args below meth c A H locs la C hP hD hS hl => lv_imul C.1 C.2.1 hd (k p e s m args below meth c A H locs la C hP hD hS hl)
theorem g_iand {x y : Int32} (hd : decode M.2.1 pc = .ok (.iand, 1)) (k : G Γ M N (pc + 1) ls (.int (x &&& y) :: st) σ) : G Γ M N pc ls (.int y :: .int x :: st) σ :=
  fun p e s m args below meth c A H locs la C hP hD hS hl => lv_iand C.1 C.2.1 hd (k p e s m args below meth c A H locs la C hP hD hS hl)
theorem g_ior {x y : Int32} (hd : decode M.2.1 pc = .ok (.ior, 1)) (k : G Γ M N (pc + 1) ls (.int (x ||| y) :: st) σ) : G Γ M N pc ls (.int y :: .int x :: st) σ :=
  fun p e s m args below meth c A H locs la C hP hD hS hl => lv_ior C.1 C.2.1 hd (k p e s m args below meth c A H locs la C hP hD hS hl)
theorem g_ixor {x y : Int32} (hd : decode M.2.1 pc = .ok (.ixor, 1)) (k : G Γ M N (pc + 1) ls (.int (x ^^^ y) :: st) σ) : G Γ M N pc ls (.int y :: .int x :: st) σ :=
  fun p e s m args below meth c A H locs la C hP hD hS hl => lv_ixor C.1 C.2.1 hd (k p e s m args below meth c A H locs la C hP hD hS hl)
theorem g_ishl {x y : Int32} (hd : decode M.2.1 pc = .ok (.ishl, 1)) (k : G Γ M N (pc + 1) ls (.int (x <<< (y &&& 31)) :: st) σ) : G Γ M N pc ls (.int y :: .int x :: st) σ :=
  fun p e s m args below meth c A H locs la C hP hD hS hl => lv_ishl C.1 C.2.1 hd (k p e s m args below meth c A H locs la C hP hD hS hl)
theorem g_ishr {x y : Int32} (hd : decode M.2.1 pc = .ok (.ishr, 1)) (k : G Γ M N (pc + 1) ls (.int (x >>> (y &&& 31)) :: st) σ) : G Γ M N pc ls (.int y :: .int x :: st) σ :=
  fun p e s m args below meth c A H locs la C hP hD hS hl => lv_ishr C.1 C.2.1 hd (k p e s m args below meth c A H locs la C hP hD hS hl)
theorem g_ladd {x y : Int64} (hd : decode M.2.1 pc = .ok (.ladd, 1)) (k : G Γ M N (pc + 1) ls (.long (x + y) :: st) σ) : G Γ M N pc ls (.long y :: .long x :: st) σ :=
  fun p e s m args below meth c A H locs la C hP hD hS hl => lv_ladd C.1 C.2.1 hd (k p e s m args below meth c A H locs la C hP hD hS hl)
theorem g_lsub {x y : Int64} (hd : decode M.2.1 pc = .ok (.lsub, 1)) (k : G Γ M N (pc + 1) ls (.long (x - y) :: st) σ) : G Γ M N pc ls (.long y :: .long x :: st) σ :=
  fun p e s m args below meth c A H locs la C hP hD hS hl => lv_lsub C.1 C.2.1 hd (k p e s m args below meth c A H locs la C hP hD hS hl)
theorem g_lmul {x y : Int64} (hd : decode M.2.1 pc = .ok (.lmul, 1)) (k : G Γ M N (pc + 1) ls (.long (x * y) :: st) σ) : G Γ M N pc ls (.long y :: .long x :: st) σ :=
  fun p e s m args below meth c A H locs la C hP hD hS hl => lv_lmul C.1 C.2.1 hd (k p e s m args below meth c A H locs la C hP hD hS hl)
theorem g_iushr {x y : Int32} (hd : decode M.2.1 pc = .ok (.iushr, 1)) (k : G Γ M N (pc + 1) ls (.int ((x.toUInt32 >>> (y.toUInt32 &&& Int32.toUInt32 31)).toInt32) :: st) σ) : G Γ M N pc ls (.int y :: .int x :: st) σ :=
  fun p e s m args below meth c A H locs la C hP hD hS hl => lv_iushr C.1 C.2.1 hd rfl (k p e s m args below meth c A H locs la C hP hD hS hl)
theorem g_idiv {x y : Int32} (hd : decode M.2.1 pc = .ok (.idiv, 1)) (hne : ¬ y = 0) (k : G Γ M N (pc + 1) ls (.int (x / y) :: st) σ) : G Γ M N pc ls (.int y :: .int x :: st) σ :=
  fun p e s m args below meth c A H locs la C hP hD hS hl => lv_idiv C.1 C.2.1 hd hne (k p e s m args below meth c A H locs la C hP hD hS hl)
theorem g_irem {x y : Int32} (hd : decode M.2.1 pc = .ok (.irem, 1)) (hne : ¬ y = 0) (k : G Γ M N (pc + 1) ls (.int (x - x / y * y) :: st) σ) : G Γ M N pc ls (.int y :: .int x :: st) σ :=
  fun p e s m args below meth c A H locs la C hP hD hS hl => lv_irem C.1 C.2.1 hd hne (k p e s m args below meth c A H locs la C hP hD hS hl)
theorem g_ldiv {x y : Int64} (hd : decode M.2.1 pc = .ok (.ldiv, 1)) (hne : ¬ y = 0) (k : G Γ M N (pc + 1) ls (.long (x / y) :: st) σ) : G Γ M N pc ls (.long y :: .long x :: st) σ :=
  fun p e s m args below meth c A H locs la C hP hD hS hl => lv_ldiv C.1 C.2.1 hd hne (k p e s m args below meth c A H locs la C hP hD hS hl)
theorem g_lrem {x y : Int64} (hd : decode M.2.1 pc = .ok (.lrem, 1)) (hne : ¬ y = 0) (k : G Γ M N (pc + 1) ls (.long (x - x / y * y) :: st) σ) : G Γ M N pc ls (.long y :: .long x :: st) σ :=
  fun p e s m args below meth c A H locs la C hP hD hS hl => lv_lrem C.1 C.2.1 hd hne (k p e s m args below meth c A H locs la C hP hD hS hl)
theorem g_lneg {x : Int64} (hd : decode M.2.1 pc = .ok (.lneg, 1)) (k : G Γ M N (pc + 1) ls (.long (-x) :: st) σ) : G Γ M N pc ls (.long x :: st) σ :=
  fun p e s m args below meth c A H locs la C hP hD hS hl => lv_lneg C.1 C.2.1 hd (k p e s m args below meth c A H locs la C hP hD hS hl)
theorem g_i2l {x : Int32} (hd : decode M.2.1 pc = .ok (.i2l, 1)) (k : G Γ M N (pc + 1) ls (.long (x.toInt64) :: st) σ) : G Γ M N pc ls (.int x :: st) σ :=
  fun p e s m args below meth c A H locs la C hP hD hS hl => lv_i2l C.1 C.2.1 hd rfl (k p e s m args below meth c A H locs la C hP hD hS hl)
theorem g_i2b {x : Int32} (hd : decode M.2.1 pc = .ok (.i2b, 1)) (k : G Γ M N (pc + 1) ls (.int (x.toInt8.toInt32) :: st) σ) : G Γ M N pc ls (.int x :: st) σ :=
  fun p e s m args below meth c A H locs la C hP hD hS hl => lv_i2b C.1 C.2.1 hd rfl (k p e s m args below meth c A H locs la C hP hD hS hl)
theorem g_i2s {x : Int32} (hd : decode M.2.1 pc = .ok (.i2s, 1)) (k : G Γ M N (pc + 1) ls (.int (x.toInt16.toInt32) :: st) σ) : G Γ M N pc ls (.int x :: st) σ :=
  fun p e s m args below meth c A H locs la C hP hD hS hl => lv_i2s C.1 C.2.1 hd rfl (k p e s m args below meth c A H locs la C hP hD hS hl)
theorem g_dup {v : Value} (hd : decode M.2.1 pc = .ok (.dup, 1)) (hv : v.category = 1) (k : G Γ M N (pc + 1) ls (v :: v :: st) σ) : G Γ M N pc ls (v :: st) σ :=
  fun p e s m args below meth c A H locs la C hP hD hS hl => lv_dup C.1 C.2.1 hd hv (k p e s m args below meth c A H locs la C hP hD hS hl)
theorem g_dup2 {v u : Value} (hd : decode M.2.1 pc = .ok (.dup2, 1)) (hv : v.category = 1) (hu : u.category = 1) (k : G Γ M N (pc + 1) ls (v :: u :: v :: u :: st) σ) : G Γ M N pc ls (v :: u :: st) σ :=
  fun p e s m args below meth c A H locs la C hP hD hS hl => lv_dup2_11 C.1 C.2.1 hd hv hu (k p e s m args below meth c A H locs la C hP hD hS hl)
theorem g_pop {v : Value} (hd : decode M.2.1 pc = .ok (.pop, 1)) (hv : v.category = 1) (k : G Γ M N (pc + 1) ls st σ) : G Γ M N pc ls (v :: st) σ :=
  fun p e s m args below meth c A H locs la C hP hD hS hl => lv_pop C.1 C.2.1 hd hv (k p e s m args below meth c A H locs la C hP hD hS hl)
theorem g_goto {off : Int} (tgt : Nat) (hd : decode M.2.1 pc = .ok (.goto off, 3)) (ht : (pc : Int) + off = (tgt : Int)) (k : G Γ M N tgt ls st σ) : G Γ M N pc ls st σ :=
  fun p e s m args below meth c A H locs la C hP hD hS hl => lv_goto C.1 C.2.1 hd ht (k p e s m args below meth c A H locs la C hP hD hS hl)
theorem g_if_eq {x : Int32} {off : Int} (tgt : Nat) (hd : decode M.2.1 pc = .ok (.ifCond .eq off, 3)) (ht : (pc : Int) + off = (tgt : Int)) (kt : x = 0 → G Γ M N tgt ls st σ) (kf : ¬ x = 0 → G Γ M N (pc + 3) ls st σ) : G Γ M N pc ls (.int x :: st) σ :=
  fun p e s m args below meth c A H locs la C hP hD hS hl => lv_if_eq C.1 C.2.1 hd ht (fun q => kt q p e s m args below meth c A H locs la C hP hD hS hl) (fun q => kf q p e s m args below meth c A H locs la C hP hD hS hl)
theorem g_icmp_eq {x y : Int32} {off : Int} (tgt : Nat) (hd : decode M.2.1 pc = .ok (.if_icmp .eq off, 3)) (ht : (pc : Int) + off = (tgt : Int)) (kt : x = y → G Γ M N tgt ls st σ) (kf : ¬ x = y → G Γ M N (pc + 3) ls st σ) : G Γ M N pc ls (.int y :: .int x :: st) σ :=
  fun p e s m args below meth c A H locs la C hP hD hS hl => lv_icmp_eq C.1 C.2.1 hd ht (fun q => kt q p e s m args below meth c A H locs la C hP hD hS hl) (fun q => kf q p e s m args below meth c A H locs la C hP hD hS hl)
theorem g_if_ne {x : Int32} {off : Int} (tgt : Nat) (hd : decode M.2.1 pc = .ok (.ifCond .ne off, 3)) (ht : (pc : Int) + off = (tgt : Int)) (kt : ¬ x = 0 → G Γ M N tgt ls st σ) (kf : x = 0 → G Γ M N (pc + 3) ls st σ) : G Γ M N pc ls (.int x :: st) σ :=
  fun p e s m args below meth c A H locs la C hP hD hS hl => lv_if_ne C.1 C.2.1 hd ht (fun q => kt q p e s m args below meth c A H locs la C hP hD hS hl) (fun q => kf q p e s m args below meth c A H locs la C hP hD hS hl)
theorem g_icmp_ne {x y : Int32} {off : Int} (tgt : Nat) (hd : decode M.2.1 pc = .ok (.if_icmp .ne off, 3)) (ht : (pc : Int) + off = (tgt : Int)) (kt : ¬ x = y → G Γ M N tgt ls st σ) (kf : x = y → G Γ M N (pc + 3) ls st σ) : G Γ M N pc ls (.int y :: .int x :: st) σ :=
  fun p e s m args below meth c A H locs la C hP hD hS hl => lv_icmp_ne C.1 C.2.1 hd ht (fun q => kt q p e s m args below meth c A H locs la C hP hD hS hl) (fun q => kf q p e s m args below meth c A H locs la C hP hD hS hl)
theorem g_if_lt {x : Int32} {off : Int} (tgt : Nat) (hd : decode M.2.1 pc = .ok (.ifCond .lt off, 3)) (ht : (pc : Int) + off = (tgt : Int)) (kt : x < 0 → G Γ M N tgt ls st σ) (kf : ¬ x < 0 → G Γ M N (pc + 3) ls st σ) : G Γ M N pc ls (.int x :: st) σ :=
  fun p e s m args below meth c A H locs la C hP hD hS hl => lv_if_lt C.1 C.2.1 hd ht (fun q => kt q p e s m args below meth c A H locs la C hP hD hS hl) (fun q => kf q p e s m args below meth c A H locs la C hP hD hS hl)
theorem g_icmp_lt {x y : Int32} {off : Int} (tgt : Nat) (hd : decode M.2.1 pc = .ok (.if_icmp .lt off, 3)) (ht : (pc : Int) + off = (tgt : Int)) (kt : x < y → G Γ M N tgt ls st σ) (kf : ¬ x < y → G Γ M N (pc + 3) ls st σ) : G Γ M N pc ls (.int y :: .int x :: st) σ :=
  fun p e s m args below meth c A H locs la C hP hD hS hl => lv_icmp_lt C.1 C.2.1 hd ht (fun q => kt q p e s m args below meth c A H locs la C hP hD hS hl) (fun q => kf q p e s m args below meth c A H locs la C hP hD hS hl)
theorem g_if_ge {x : Int32} {off : Int} (tgt : Nat) (hd : decode M.2.1 pc = .ok (.ifCond .ge off, 3)) (ht : (pc : Int) + off = (tgt : Int)) (kt : 0 ≤ x → G Γ M N tgt ls st σ) (kf : ¬ 0 ≤ x → G Γ M N (pc + 3) ls st σ) : G Γ M N pc ls (.int x :: st) σ :=
  fun p e s m args below meth c A H locs la C hP hD hS hl => lv_if_ge C.1 C.2.1 hd ht (fun q => kt q p e s m args below meth c A H locs la C hP hD hS hl) (fun q => kf q p e s m args below meth c A H locs la C hP hD hS hl)
theorem g_icmp_ge {x y : Int32} {off : Int} (tgt : Nat) (hd : decode M.2.1 pc = .ok (.if_icmp .ge off, 3)) (ht : (pc : Int) + off = (tgt : Int)) (kt : y ≤ x → G Γ M N tgt ls st σ) (kf : ¬ y ≤ x → G Γ M N (pc + 3) ls st σ) : G Γ M N pc ls (.int y :: .int x :: st) σ :=
  fun p e s m args below meth c A H locs la C hP hD hS hl => lv_icmp_ge C.1 C.2.1 hd ht (fun q => kt q p e s m args below meth c A H locs la C hP hD hS hl) (fun q => kf q p e s m args below meth c A H locs la C hP hD hS hl)
theorem g_if_gt {x : Int32} {off : Int} (tgt : Nat) (hd : decode M.2.1 pc = .ok (.ifCond .gt off, 3)) (ht : (pc : Int) + off = (tgt : Int)) (kt : 0 < x → G Γ M N tgt ls st σ) (kf : ¬ 0 < x → G Γ M N (pc + 3) ls st σ) : G Γ M N pc ls (.int x :: st) σ :=
  fun p e s m args below meth c A H locs la C hP hD hS hl => lv_if_gt C.1 C.2.1 hd ht (fun q => kt q p e s m args below meth c A H locs la C hP hD hS hl) (fun q => kf q p e s m args below meth c A H locs la C hP hD hS hl)
theorem g_icmp_gt {x y : Int32} {off : Int} (tgt : Nat) (hd : decode M.2.1 pc = .ok (.if_icmp .gt off, 3)) (ht : (pc : Int) + off = (tgt : Int)) (kt : y < x → G Γ M N tgt ls st σ) (kf : ¬ y < x → G Γ M N (pc + 3) ls st σ) : G Γ M N pc ls (.int y :: .int x :: st) σ :=
  fun p e s m args below meth c A H locs la C hP hD hS hl => lv_icmp_gt C.1 C.2.1 hd ht (fun q => kt q p e s m args below meth c A H locs la C hP hD hS hl) (fun q => kf q p e s m args below meth c A H locs la C hP hD hS hl)
theorem g_if_le {x : Int32} {off : Int} (tgt : Nat) (hd : decode M.2.1 pc = .ok (.ifCond .le off, 3)) (ht : (pc : Int) + off = (tgt : Int)) (kt : x ≤ 0 → G Γ M N tgt ls st σ) (kf : ¬ x ≤ 0 → G Γ M N (pc + 3) ls st σ) : G Γ M N pc ls (.int x :: st) σ :=
  fun p e s m args below meth c A H locs la C hP hD hS hl => lv_if_le C.1 C.2.1 hd ht (fun q => kt q p e s m args below meth c A H locs la C hP hD hS hl) (fun q => kf q p e s m args below meth c A H locs la C hP hD hS hl)
theorem g_icmp_le {x y : Int32} {off : Int} (tgt : Nat) (hd : decode M.2.1 pc = .ok (.if_icmp .le off, 3)) (ht : (pc : Int) + off = (tgt : Int)) (kt : x ≤ y → G Γ M N tgt ls st σ) (kf : ¬ x ≤ y → G Γ M N (pc + 3) ls st σ) : G Γ M N pc ls (.int y :: .int x :: st) σ :=
  fun p e s m args below meth c A H locs la C hP hD hS hl => lv_icmp_le C.1 C.2.1 hd ht (fun q => kt q p e s m args below meth c A H locs la C hP hD hS hl) (fun q => kf q p e s m args below meth c A H locs la C hP hD hS hl)
theorem g_lcmp_eq {x y : Int64} {off : Int} (tgt : Nat) (hd0 : decode M.2.1 pc = .ok (.lcmp, 1)) (hd : decode M.2.1 (pc + 1) = .ok (.ifCond .eq off, 3)) (ht : ((pc + 1 : Nat) : Int) + off = (tgt : Int)) (kt : x = y → G Γ M N tgt ls st σ) (kf : ¬ x = y → G Γ M N (pc + 1 + 3) ls st σ) : G Γ M N pc ls (.long y :: .long x :: st) σ :=
  fun p e s m args below meth c A H locs la C hP hD hS hl => W.lcmp C.1 C.2.1 hd0 (lv_if_eq C.1 C.2.1 hd ht (fun q => kt ((lg_cmp_eq x y).mp q) p e s m args below meth c A H locs la C hP hD hS hl) (fun q => kf (fun z => q ((lg_cmp_eq x y).mpr z)) p e s m args below meth c A H locs la C hP hD hS hl))
theorem g_lcmp_lt {x y : Int64} {off : Int} (tgt : Nat) (hd0 : decode M.2.1 pc = .ok (.lcmp, 1)) (hd : decode M.2.1 (pc + 1) = .ok (.ifCond .lt off, 3)) (ht : ((pc + 1 : Nat) : Int) + off = (tgt : Int)) (kt : x < y → G Γ M N tgt ls st σ) (kf : ¬ x < y → G Γ M N (pc + 1 + 3) ls st σ) : G Γ M N pc ls (.long y :: .long x :: st) σ :=
  fun p e s m args below meth c A H locs la C hP hD hS hl => W.lcmp C.1 C.2.1 hd0 (lv_if_lt C.1 C.2.1 hd ht (fun q => kt ((lg_cmp_lt x y).mp q) p e s m args below meth c A H locs la C hP hD hS hl) (fun q => kf (fun z => q ((lg_cmp_lt x y).mpr z)) p e s m args below meth c A H locs la C hP hD hS hl))
theorem g_lcmp_ge {x y : Int64} {off : Int} (tgt : Nat) (hd0 : decode M.2.1 pc = .ok (.lcmp, 1)) (hd : decode M.2.1 (pc + 1) = .ok (.ifCond .ge off, 3)) (ht : ((pc + 1 : Nat) : Int) + off = (tgt : Int)) (kt : y ≤ x → G Γ M N tgt ls st σ) (kf : ¬ y ≤ x → G Γ M N (pc + 1 + 3) ls st σ) : G Γ M N pc ls (.long y :: .long x :: st) σ :=
  fun p e s m args below meth c A H locs la C hP hD hS hl => W.lcmp C.1 C.2.1 hd0 (lv_if_ge C.1 C.2.1 hd ht (fun q => kt ((lg_cmp_ge x y).mp q) p e s m args below meth c A H locs la C hP hD hS hl) (fun q => kf (fun z => q ((lg_cmp_ge x y).mpr z)) p e s m args below meth c A H locs la C hP hD hS hl))
theorem g_lcmp_gt {x y : Int64} {off : Int} (tgt : Nat) (hd0 : decode M.2.1 pc = .ok (.lcmp, 1)) (hd : decode M.2.1 (pc + 1) = .ok (.ifCond .gt off, 3)) (ht : ((pc + 1 : Nat) : Int) + off = (tgt : Int)) (kt : y < x → G Γ M N tgt ls st σ) (kf : ¬ y < x → G Γ M N (pc + 1 + 3) ls st σ) : G Γ M N pc ls (.long y :: .long x :: st) σ :=
  fun p e s m args below meth c A H locs la C hP hD hS hl => W.lcmp C.1 C.2.1 hd0 (lv_if_gt C.1 C.2.1 hd ht (fun q => kt ((lg_cmp_gt x y).mp q) p e s m args below meth c A H locs la C hP hD hS hl) (fun q => kf (fun z => q ((lg_cmp_gt x y).mpr z)) p e s m args below meth c A H locs la C hP hD hS hl))
theorem g_lcmp_le {x y : Int64} {off : Int} (tgt : Nat) (hd0 : decode M.2.1 pc = .ok (.lcmp, 1)) (hd : decode M.2.1 (pc + 1) = .ok (.ifCond .le off, 3)) (ht : ((pc + 1 : Nat) : Int) + off = (tgt : Int)) (kt : x ≤ y → G Γ M N tgt ls st σ) (kf : ¬ x ≤ y → G Γ M N (pc + 1 + 3) ls st σ) : G Γ M N pc ls (.long y :: .long x :: st) σ :=
  fun p e s m args below meth c A H locs la C hP hD hS hl => W.lcmp C.1 C.2.1 hd0 (lv_if_le C.1 C.2.1 hd ht (fun q => kt ((lg_cmp_le x y).mp q) p e s m args below meth c A H locs la C hP hD hS hl) (fun q => kf (fun z => q ((lg_cmp_le x y).mpr z)) p e s m args below meth c A H locs la C hP hD hS hl))
theorem g_lcmp_ne {x y : Int64} {off : Int} (tgt : Nat) (hd0 : decode M.2.1 pc = .ok (.lcmp, 1)) (hd : decode M.2.1 (pc + 1) = .ok (.ifCond .ne off, 3)) (ht : ((pc + 1 : Nat) : Int) + off = (tgt : Int)) (kt : ¬ x = y → G Γ M N tgt ls st σ) (kf : x = y → G Γ M N (pc + 1 + 3) ls st σ) : G Γ M N pc ls (.long y :: .long x :: st) σ :=
  fun p e s m args below meth c A H locs la C hP hD hS hl => W.lcmp C.1 C.2.1 hd0 (lv_if_ne C.1 C.2.1 hd ht (fun q => kt (fun z => q ((lg_cmp_eq x y).mpr z)) p e s m args below meth c A H locs la C hP hD hS hl) (fun q => kf ((lg_cmp_eq x y).mp q) p e s m args below meth c A H locs la C hP hD hS hl))
theorem sw_out {x : Int32} (n : Nat) (h : ∀ k, k ≤ n → ¬ x = nI k) : x.toInt < 0 ∨ (n : Int) < x.toInt := by
  rcases Int.lt_or_le x.toInt 0 with h0 | h0
  · exact Or.inl h0
  · rcases Int.lt_or_le (n : Int) x.toInt with h1 | h1
    · exact Or.inr h1
    · exfalso
      have hlt : x.toInt < 2 ^ 31 := by have := Int32.toInt_lt x; simpa using this
      obtain ⟨k, hk⟩ := Int.eq_ofNat_of_zero_le h0
      refine h k (by omega) (Int32.toInt_inj.mp ?_)
      rw [nI_toInt (by omega), hk]
theorem g_tswK {dflt lo hi : Int} {offs : Array Int} {len : Nat} {x : Int32} {off : Int} (kk : Int32) (tgt : Nat) (hd : decode M.2.1 pc = .ok (.tableswitch dflt lo hi offs, len)) (hx : x = kk) (h1 : ¬ kk.toInt < lo) (h2 : ¬ hi < kk.toInt) (ho : offs[(kk.toInt - lo).toNat]? = some off) (ht : (pc : Int) + off = (tgt : Int)) (k : G Γ M N tgt ls st σ) : G Γ M N pc ls (.int x :: st) σ := by
  subst hx
  exact fun p e s m args below meth c A H locs la C hP hD hS hl => lv_tableIn C.1 C.2.1 hd h1 h2 ho ht (k p e s m args below meth c A H locs la C hP hD hS hl)
theorem g_tswD {dflt lo hi : Int} {offs : Array Int} {len : Nat} {x : Int32} (tgt : Nat) (hd : decode M.2.1 pc = .ok (.tableswitch dflt lo hi offs, len)) (hx : x.toInt < lo ∨ hi < x.toInt) (ht : (pc : Int) + dflt = (tgt : Int)) (k : G Γ M N tgt ls st σ) : G Γ M N pc ls (.int x :: st) σ :=
  fun p e s m args below meth c A H locs la C hP hD hS hl => lv_tableOut C.1 C.2.1 hd hx ht (k p e s m args below meth c A H locs la C hP hD hS hl)
theorem g_lsw {dflt : Int} {ps : Array (Int × Int)} {len : Nat} {x : Int32} {off : Int} (tgt : Nat) (hd : decode M.2.1 pc = .ok (.lookupswitch dflt ps, len)) (hp : (ps.toList.zip (ps.toList.drop 1)).all (fun (a, next) => a.1 < next.1) = true) (ho : Op.lookupswitch.offset ps.toList dflt x.toInt = off) (ht : (pc : Int) + off = (tgt : Int)) (k : G Γ M N tgt ls st σ) : G Γ M N pc ls (.int x :: st) σ :=
  fun p e s m args below meth c A H locs la C hP hD hS hl => lv_lookup C.1 C.2.1 hd hp ho ht (k p e s m args below meth c A H locs la C hP hD hS hl)
/-- kinds of cells -/
def fI (a ci k : Nat) : Prop := a < 44 ∧ ∀ (Γ : GT) (f : Nat → Int32) (g : Nat → Int64), ∃ fs : List Value, cel Γ a f g = .inr (ci, fs) ∧ fs[k]? = some (.int (f k))
def fR (a ci k b : Nat) : Prop := a < 44 ∧ ∀ (Γ : GT) (f : Nat → Int32) (g : Nat → Int64), ∃ fs : List Value, cel Γ a f g = .inr (ci, fs) ∧ fs[k]? = some (rf Γ b)
def fP (a ci k : Nat) : Prop := a < 44 ∧ ∀ (Γ : GT) (f : Nat → Int32) (g : Nat → Int64) (v : Int32), ∃ fs : List Value, cel Γ a f g = .inr (ci, fs) ∧ k < fs.length ∧ cel Γ a (upd f k v) g = .inr (ci, fs.set k (.int v))
def aI (a n : Nat) : Prop := a < 44 ∧ ∀ (Γ : GT) (f : Nat → Int32) (g : Nat → Int64), cel Γ a f g = ciN Γ n f
def aJ (a n : Nat) : Prop := a < 44 ∧ ∀ (Γ : GT) (f : Nat → Int32) (g : Nat → Int64), cel Γ a f g = cjN Γ n g
def aZ (a n : Nat) : Prop := a < 44 ∧ ∀ (Γ : GT) (f : Nat → Int32) (g : Nat → Int64), cel Γ a f g = czN Γ n f
def rc (a : Nat) (C : String) : Prop := a < 44 ∧ ∃ (ci : Nat) (r : vw_C), vwCl[ci]? = some r ∧ r.1 = C ∧ ∀ (Γ : GT) (f : Nat → Int32) (g : Nat → Int64), ∃ fs : List Value, cel Γ a f g = .inr (ci, fs)
def FL (own : String) (idx ci k : Nat) : Prop := ∃ (C : String) (T : u_T) (Nn : Nat), vwCl[ci]? = some (C, T, Nn) ∧ k < Nn ∧ Cond.fieldLink own idx (T k).1 (T k).2.1 (T k).2.2.1 ∈ gt ∧ ∀ w ∈ u_ws C T Nn, w ∈ gt
def FP (own : String) (idx ci k : Nat) : Prop := ∃ (C : String) (T : u_T) (Nn : Nat) (ty0 : Nat → FieldType), vwCl[ci]? = some (C, T, Nn) ∧ k < Nn ∧ Cond.fieldLink own idx (T k).1 (T k).2.1 (T k).2.2.1 ∈ gt ∧ (∀ w ∈ u_ws C T Nn, w ∈ gt) ∧ (∀ k, k < Nn → parseFieldDescriptor (T k).2.2.1 = some (ty0 k)) ∧ (∀ a, a < Nn → ∀ b, b < Nn → a ≠ b → (T a).2.1 ≠ (T b).2.1) ∧ (T k).2.2.2 = false ∧ parseFieldDescriptor (T k).2.2.1 = some .int
theorem g_getI {idx : Nat} (a ci k : Nat) (hc : fI a ci k) (hf : FL M.1.cls idx ci k) (hd : decode M.2.1 pc = .ok (.getfield idx, 3)) (kk : G Γ M N (pc + 3) ls (.int (σ.1 a k) :: st) σ) : G Γ M N pc ls (rf Γ a :: st) σ := by
  intro p e s m args below meth c A H locs la C hP hD hS hl
  obtain ⟨ha, hc⟩ := hc
  obtain ⟨fs, e1, e2⟩ := hc Γ (σ.1 a) (σ.2 a)
  obtain ⟨Cn, T, Nn, h1, h2, h3, h4⟩ := hf
  exact va_get C.1 C.2.1 (Ts := gt) C.2.2.2.2.2.1 h4 C.2.2.2.2.1 C.2.2.2.2.2.2.2.1 hP a (by rw [wO_at ha, e1]) h1 k h2 (C.2.2.2.2.2.1 _ h3) (fun _ h => h) e2 hd (kk p e s m args below meth c A H locs la C hP hD hS hl)
theorem g_getR {idx : Nat} (a ci k b : Nat) (hc : fR a ci k b) (hf : FL M.1.cls idx ci k) (hd : decode M.2.1 pc = .ok (.getfield idx, 3)) (kk : G Γ M N (pc + 3) ls (rf Γ b :: st) σ) : G Γ M N pc ls (rf Γ a :: st) σ := by
  intro p e s m args below meth c A H locs la C hP hD hS hl
  obtain ⟨ha, hc⟩ := hc
  obtain ⟨fs, e1, e2⟩ := hc Γ (σ.1 a) (σ.2 a)
  obtain ⟨Cn, T, Nn, h1, h2, h3, h4⟩ := hf
  exact va_get C.1 C.2.1 (Ts := gt) C.2.2.2.2.2.1 h4 C.2.2.2.2.1 C.2.2.2.2.2.2.2.1 hP a (by rw [wO_at ha, e1]) h1 k h2 (C.2.2.2.2.2.1 _ h3) (fun _ h => h) e2 hd (kk p e s m args below meth c A H locs la C hP hD hS hl)
theorem g_put {idx : Nat} {v : Int32} (a ci k : Nat) (hc : fP a ci k) (hf : FP M.1.cls idx ci k) (hd : decode M.2.1 pc = .ok (.putfield idx, 3)) (kk : G Γ M N (pc + 3) ls st (sI σ a k v)) : G Γ M N pc ls (.int v :: rf Γ a :: st) σ := by
  intro p e s m args below meth c A H locs la C hP hD hS hl
  obtain ⟨ha, hc⟩ := hc
  obtain ⟨fs, e1, e2, e3⟩ := hc Γ (σ.1 a) (σ.2 a) v
  obtain ⟨Cn, T, Nn, ty0, h1, h2, h3, h4, h5, h6, h7, h8⟩ := hf
  refine va_put (v := .int v) (ty := .int) C.1 C.2.1 (Ts := gt) C.2.2.2.2.2.1 h4 ty0 h5 h6 C.2.2.2.2.1 C.2.2.2.2.2.2.2.1 hP hD hS a (by rw [wO_at ha, e1]) h1 k h2 (C.2.2.2.2.2.1 _ h3) (fun _ h => h) h7 h8 rfl rfl e2 hd (fun H1 locs1 hP1 hD1 hS1 => ?_)
  have ee : (wO Γ σ).set a (Γ.2.2.2 a, .inr (ci, fs.set k (.int v))) = wO Γ (sI σ a k v) := by rw [← e3]; exact wO_sF
  rw [ee] at hP1
  exact kk p e s m args below meth c A H1 locs1 la C hP1 (wO_D hD) hS1 hl
theorem g_iald {i : Int32} (a n : Nat) (hc : aI a n) (hin : vp_in i n) (hd : decode M.2.1 pc = .ok (.iaload, 1)) (kk : G Γ M N (pc + 1) ls (.int (σ.1 a i.toNatClampNeg) :: st) σ) : G Γ M N pc ls (.int i :: rf Γ a :: st) σ :=
  fun p e s m args below meth c A H locs la C hP hD hS hl => va_iald C.1 C.2.1 C.2.2.2.2.2.2.2.1 hP a 0 (by rw [wO_at hc.1, hc.2]; rfl) rfl hin hd (kk p e s m args below meth c A H locs la C hP hD hS hl)
theorem g_zald {i : Int32} (a n : Nat) (hc : aZ a n) (hin : vp_in i n) (hd : decode M.2.1 pc = .ok (.baload, 1)) (kk : G Γ M N (pc + 1) ls (.int (σ.1 a i.toNatClampNeg) :: st) σ) : G Γ M N pc ls (.int i :: rf Γ a :: st) σ :=
  fun p e s m args below meth c A H locs la C hP hD hS hl => va_zald C.1 C.2.1 C.2.2.2.2.2.2.2.1 hP a 2 (by rw [wO_at hc.1, hc.2]; rfl) rfl hin hd (kk p e s m args below meth c A H locs la C hP hD hS hl)
theorem g_lald {i : Int32} (a n : Nat) (hc : aJ a n) (hin : vp_in i n) (hd : decode M.2.1 pc = .ok (.laload, 1)) (kk : G Γ M N (pc + 1) ls (.long (σ.2 a i.toNatClampNeg) :: st) σ) : G Γ M N pc ls (.int i :: rf Γ a :: st) σ :=
  fun p e s m args below meth c A H locs la C hP hD hS hl => va_lald C.1 C.2.1 C.2.2.2.2.2.2.2.1 hP a 1 (by rw [wO_at hc.1, hc.2]; rfl) rfl hin hd (kk p e s m args below meth c A H locs la C hP hD hS hl)
theorem g_aald {i : Int32} (hin : vp_in i 4) (hd : decode M.2.1 pc = .ok (.aaload, 1)) (kk : G Γ M N (pc + 1) ls (rf Γ (17 + i.toNatClampNeg) :: st) σ) : G Γ M N pc ls (.int i :: rf Γ 16 :: st) σ :=
  fun p e s m args below meth c A H locs la C hP hD hS hl => va_aldq (f := fun i => some (Γ.2.2.2 (17 + i))) C.1 C.2.1 C.2.2.2.2.2.2.2.1 hP 16 3 (by rw [wO_at (by decide)]; rfl) rfl hin hd (kk p e s m args below meth c A H locs la C hP hD hS hl)
theorem g_iast {i x : Int32} (a n : Nat) (hc : aI a n) (hin : vp_in i n) (hd : decode M.2.1 pc = .ok (.iastore, 1)) (kk : G Γ M N (pc + 1) ls st (sI σ a i.toNatClampNeg x)) : G Γ M N pc ls (.int x :: .int i :: rf Γ a :: st) σ := by
  intro p e s m args below meth c A H locs la C hP hD hS hl
  refine va_iast C.1 C.2.1 C.2.2.2.2.2.2.2.1 hP hD hS a 0 (f := σ.1 a) (by rw [wO_at hc.1, hc.2]; rfl) rfl hin hd (fun H1 locs1 hP1 hD1 hS1 => ?_)
  have ee : (wO Γ σ).set a (Γ.2.2.2 a, ciN Γ n (upd (σ.1 a) i.toNatClampNeg x)) = wO Γ (sI σ a i.toNatClampNeg x) := by rw [← hc.2 Γ _ (σ.2 a)]; exact wO_sF
  have hP2 : va_P Γ.2.1 vwCl ((wO Γ σ).set a (Γ.2.2.2 a, ciN Γ n (upd (σ.1 a) i.toNatClampNeg x))) H1 := hP1
  rw [ee] at hP2
  exact kk p e s m args below meth c A H1 locs1 la C hP2 (wO_D hD) hS1 hl
theorem g_zast {i x : Int32} (a n : Nat) (hc : aZ a n) (hin : vp_in i n) (hd : decode M.2.1 pc = .ok (.bastore, 1)) (kk : G Γ M N (pc + 1) ls st (sI σ a i.toNatClampNeg (vp_nar .boolean x))) : G Γ M N pc ls (.int x :: .int i :: rf Γ a :: st) σ := by
  intro p e s m args below meth c A H locs la C hP hD hS hl
  refine va_zast C.1 C.2.1 C.2.2.2.2.2.2.2.1 hP hD hS a 2 (f := σ.1 a) (by rw [wO_at hc.1, hc.2]; rfl) rfl hin hd (fun H1 locs1 hP1 hD1 hS1 => ?_)
  have ee : (wO Γ σ).set a (Γ.2.2.2 a, czN Γ n (upd (σ.1 a) i.toNatClampNeg (vp_nar .boolean x))) = wO Γ (sI σ a i.toNatClampNeg (vp_nar .boolean x)) := by rw [← hc.2 Γ _ (σ.2 a)]; exact wO_sF
  have hP2 : va_P Γ.2.1 vwCl ((wO Γ σ).set a (Γ.2.2.2 a, czN Γ n (upd (σ.1 a) i.toNatClampNeg (vp_nar .boolean x)))) H1 := hP1
  rw [ee] at hP2
  exact kk p e s m args below meth c A H1 locs1 la C hP2 (wO_D hD) hS1 hl
theorem g_last {i : Int32} {x : Int64} (a n : Nat) (hc : aJ a n) (hin : vp_in i n) (hd : decode M.2.1 pc = .ok (.lastore, 1)) (kk : G Γ M N (pc + 1) ls st (sJ σ a i.toNatClampNeg x)) : G Γ M N pc ls (.long x :: .int i :: rf Γ a :: st) σ := by
  intro p e s m args below meth c A H locs la C hP hD hS hl
  refine va_last C.1 C.2.1 C.2.2.2.2.2.2.2.1 hP hD hS a 1 (f := σ.2 a) (by rw [wO_at hc.1, hc.2]; rfl) rfl hin hd (fun H1 locs1 hP1 hD1 hS1 => ?_)
  have ee : (wO Γ σ).set a (Γ.2.2.2 a, cjN Γ n (vp_updL (σ.2 a) i.toNatClampNeg x)) = wO Γ (sJ σ a i.toNatClampNeg x) := by rw [← hc.2 Γ (σ.1 a) _]; exact wO_sG
  have hP2 : va_P Γ.2.1 vwCl ((wO Γ σ).set a (Γ.2.2.2 a, cjN Γ n (vp_updL (σ.2 a) i.toNatClampNeg x))) H1 := hP1
  rw [ee] at hP2
  exact kk p e s m args below meth c A H1 locs1 la C hP2 (wO_D hD) hS1 hl
theorem nfw : nativeFrameWords "java/lang/System" "arraycopy" 5 = 7 := by decide +kernel
theorem g_copy {idx n : Nat} {k sp dp : Int32} (a0 a1 n0 n1 : Nat) (h0 : aI a0 n0) (h1 : aI a1 n1) (hl : Cond.methodLink M.1.cls idx arraycopyName ∈ gt) (hw : Cond.native arraycopyName ∈ gt ∧ Cond.static arraycopyName ∈ gt ∧ Cond.initialized "java/lang/System" ∈ gt) (hR : rmOk n N) (hn : 1 ≤ n) (hst : (st.map fun v => v.category).sum ≤ 8) (hd : decode M.2.1 pc = .ok (.invokestatic idx, 3))
    (q : ¬ sp < 0 ∧ ¬ dp < 0 ∧ ¬ k < 0 ∧ sp.toNatClampNeg + k.toNatClampNeg ≤ n0 ∧ dp.toNatClampNeg + k.toNatClampNeg ≤ n1) (kk : G Γ M N (pc + 3) ls st (sF σ a1 (va_cpy (σ.1 a0) (σ.1 a1) sp.toNatClampNeg dp.toNatClampNeg k.toNatClampNeg))) : G Γ M N pc ls (.int k :: .int dp :: rf Γ a1 :: .int sp :: rf Γ a0 :: st) σ := by
  intro p e s m args below meth c A H locs la C hP hD hS hl9
  obtain ⟨q1, q2, q3, q4, q5⟩ := q
  obtain ⟨r1, r2, r3, r4⟩ := hR
  refine va_copyi (ty := .int) (f := σ.1 a0) (g := σ.1 a1) C.1 C.2.1 (C.2.2.2.1.trans hl9.1.symm) C.2.2.2.2.1 (C.2.2.2.2.2.1 _ hl) (C.2.2.2.2.2.1 _ hw.1) (C.2.2.2.2.2.1 _ hw.2.1) (C.2.2.2.2.2.1 _ hw.2.2) C.2.2.2.2.2.2.2.1 hP hD hS a0 a1 0 0 (by rw [wO_at h0.1, h0.2]; rfl) (by rw [wO_at h1.1, h1.2]; rfl) rfl rfl rfl q1 q2 q3 q4 q5 (fun _ _ => rfl) (by omega) (by rw [nfw]; omega) hd (fun H1 locs1 hP1 hD1 hS1 => ?_)
  have ee : (wO Γ σ).set a1 (Γ.2.2.2 a1, ciN Γ n1 (va_cpy (σ.1 a0) (σ.1 a1) sp.toNatClampNeg dp.toNatClampNeg k.toNatClampNeg)) = wO Γ (sF σ a1 (va_cpy (σ.1 a0) (σ.1 a1) sp.toNatClampNeg dp.toNatClampNeg k.toNatClampNeg)) := by rw [← h1.2 Γ _ (σ.2 a1)]; exact wO_sF
  have hP2 : va_P Γ.2.1 vwCl ((wO Γ σ).set a1 (Γ.2.2.2 a1, ciN Γ n1 (va_cpy (σ.1 a0) (σ.1 a1) sp.toNatClampNeg dp.toNatClampNeg k.toNatClampNeg))) H1 := hP1
  rw [ee] at hP2
  exact kk p e s m args below meth c A H1 locs1 la C hP2 (wO_D hD) hS1 hl9

theorem g_mmin {idx n : Nat} {x y : Int32} (hl : Cond.methodLink M.1.cls idx Lib.Math.min.name ∈ gt) (hw : Cond.static Lib.Math.min.name ∈ gt ∧ Cond.initialized "java/lang/Math" ∈ gt ∧ Cond.code Lib.Math.min.name Lib.Math.min.code 2 (some .int) ∈ gt) (hR : rmOk n N) (hn : 1 ≤ n) (hst : (st.map fun v => v.category).sum ≤ 8) (hd : decode M.2.1 pc = .ok (.invokestatic idx, 3)) (kk : G Γ M N (pc + 3) ls (.int (if y < x then y else x) :: st) σ) : G Γ M N pc ls (.int y :: .int x :: st) σ := by
  intro p e s m args below meth c A H locs la C hP hD hS hl9
  obtain ⟨r1, r2, r3, r4⟩ := hR
  exact va_mmin C.1 C.2.1 (C.2.2.2.1.trans hl9.1.symm) C.2.2.2.2.1 (C.2.2.2.2.2.1 _ hl) (C.2.2.2.2.2.1 _ hw.1) (C.2.2.2.2.2.1 _ hw.2.1) (C.2.2.2.2.2.1 _ hw.2.2) (by omega) (by omega) r3 r4 hd (kk p e s m args below meth c A H locs la C hP hD hS hl9)
theorem g_mmax {idx n : Nat} {x y : Int32} (hl : Cond.methodLink M.1.cls idx Lib.Math.max.name ∈ gt) (hw : Cond.static Lib.Math.max.name ∈ gt ∧ Cond.initialized "java/lang/Math" ∈ gt ∧ Cond.code Lib.Math.max.name Lib.Math.max.code 2 (some .int) ∈ gt) (hR : rmOk n N) (hn : 1 ≤ n) (hst : (st.map fun v => v.category).sum ≤ 8) (hd : decode M.2.1 pc = .ok (.invokestatic idx, 3)) (kk : G Γ M N (pc + 3) ls (.int (if x < y then y else x) :: st) σ) : G Γ M N pc ls (.int y :: .int x :: st) σ := by
  intro p e s m args below meth c A H locs la C hP hD hS hl9
  obtain ⟨r1, r2, r3, r4⟩ := hR
  exact va_mmax C.1 C.2.1 (C.2.2.2.1.trans hl9.1.symm) C.2.2.2.2.1 (C.2.2.2.2.2.1 _ hl) (C.2.2.2.2.2.1 _ hw.1) (C.2.2.2.2.2.1 _ hw.2.1) (C.2.2.2.2.2.1 _ hw.2.2) (by omega) (by omega) r3 r4 hd (kk p e s m args below meth c A H locs la C hP hD hS hl9)
theorem g_mmaxl {idx n : Nat} {x y : Int64} (hl : Cond.methodLink M.1.cls idx Lib.MathLoose.max_long.x ∈ gt) (hw : Cond.static Lib.MathLoose.max_long.x ∈ gt ∧ Cond.initialized "java/lang/Math" ∈ gt ∧ Cond.code Lib.MathLoose.max_long.x Lib.MathLoose.max_long.code 4 (some .long) ∈ gt) (hR : rmOk n N) (hn : 1 ≤ n) (hst : (st.map fun v => v.category).sum ≤ 8) (hd : decode M.2.1 pc = .ok (.invokestatic idx, 3)) (kk : G Γ M N (pc + 3) ls (.long (if y < x then x else y) :: st) σ) : G Γ M N pc ls (.long y :: .long x :: st) σ := by
  intro p e s m args below meth c A H locs la C hP hD hS hl9
  obtain ⟨r1, r2, r3, r4⟩ := hR
  exact va_mmax_long C.1 C.2.1 (C.2.2.2.1.trans hl9.1.symm) C.2.2.2.2.1 (C.2.2.2.2.2.1 _ hl) (C.2.2.2.2.2.1 _ hw.1) (C.2.2.2.2.2.1 _ hw.2.1) (C.2.2.2.2.2.1 _ hw.2.2) (by omega) (by omega) r3 r4 hd (kk p e s m args below meth c A H locs la C hP hD hS hl9)
theorem x_call {p : Program} {l : Launch} {e : Env} {R : Room} {s : State} {m : MethodId} {args : Array Value} {below : List Frame} {meth : Method} {c : Code} {H : Heap} {locs : List Loc} {cells slots : Nat} {Q : State → Prop} {Q0 : Option Value → St → Prop} {A0 A1 : Nat → Prop} {H0 : Heap} {la : Array Slot} {rest st0 : List Value} {a : Array Value}
    (hr : va_Run p l e R s m args below meth c H locs cells slots 0 0 (F0 m pc la st0) rest (Qcc Γ Q0 A1 a) A1) (hS : va_S A0 H0 H locs) (hA : ∀ q, A1 q → A0 q)
    (kk : ∀ (v : Option Value) (τ : St) (H1 : Heap) (locs1 : List Loc), Q0 v τ → va_P Γ.2.1 vwCl (wO Γ τ) H1 → va_S A0 H0 H1 locs1 → W p l e R s m args below meth c H1 locs1 cells slots Q (F0 m (pc + 3) la (v.toList ++ rest))) : W p l e R s m args below meth c H locs cells slots Q (F0 m pc la st0) := by
  intro T hT X
  obtain ⟨v, st₀, t, T', L, h0, X', hL, e1, e2, ⟨⟨v', τ, hv, hq, hb⟩, hz, hk⟩, st⟩ := hr T hT X
  cases hv
  rw [h0] at hz hk
  obtain ⟨t2, a1, b1⟩ := kk v τ T'.heap (locs ++ L) hq (by rw [e1]; exact hb)
    ⟨Nat.le_trans hS.1 (by rw [e1]; exact hz), fun q h1 h2 => by rw [e1, hk q (Nat.lt_of_lt_of_le h1 hS.1) (fun z => h2 (hA q z))]; exact hS.2.1 q h1 h2, fun q hq => by
      rcases List.mem_append.mp hq with h | h
      · exact hS.2.2 q h
      · exact hA _ (hL q h)⟩ T' rfl X'
  exact ⟨t2, st t2 a1, b1⟩
def OkV (M' : MD) (np : Nat) : Prop := Cond.code M'.1 M'.2.1 M'.2.2.1 M'.2.2.2 ∈ gt ∧ Cond.instanceMethod M'.1 ∈ gt ∧ Cond.selects M'.1.cls M'.1 M'.1 ∈ gt ∧ Cond.initialized M'.1.cls ∈ gt ∧ (M'.1.cls ≠ "java/lang/invoke/MethodHandle" ∧ M'.1.cls ≠ "java/lang/invoke/VarHandle" ∧ (parseMethodDescriptor M'.1.desc).map (fun d => d.parameters.length) = some np) ∧ M'.2.2.1 ≤ 11
def OkS (M' : MD) (np : Nat) : Prop := Cond.code M'.1 M'.2.1 M'.2.2.1 M'.2.2.2 ∈ gt ∧ Cond.static M'.1 ∈ gt ∧ Cond.initialized M'.1.cls ∈ gt ∧ (M'.1.cls ≠ "java/lang/invoke/MethodHandle" ∧ M'.1.cls ≠ "java/lang/invoke/VarHandle" ∧ (parseMethodDescriptor M'.1.desc).map (fun d => d.parameters.length) = some np) ∧ M'.2.2.1 ≤ 11
theorem wsM_good {M' : MD} (h : Cond.code M'.1 M'.2.1 M'.2.2.1 M'.2.2.2 ∈ gt) : GoodIn gt (wsM M') := fun w hw => (List.mem_cons.mp hw).elim (fun e => gt_good w (by rw [e]; exact h)) (fun h => gt_good w h)
theorem A_sub {s : State} {A : Nat → Prop} {H : Heap} {locs : List Loc} (hD : va_D A (wO Γ σ)) (hS : va_S A s.heap H locs) (hA : ∀ q, s.heap.size ≤ q → A q) : ∀ q, va_A (wO Γ σ) H.size q → A q := by
  intro q h
  rcases h with ⟨k, e, h⟩ | h
  · exact hD.2 k _ h
  · exact hA q (Nat.le_trans hS.1 h)
theorem g_callV {M' : MD} {np n n' idx a : Nat} {stk As : List Value} {Q0 : Option Value → St → Prop} (hd : decode M.2.1 pc = .ok (.invokevirtual idx, 3)) (hl : Cond.methodLink M.1.cls idx M'.1 ∈ gt) (ok : OkV M' np) (hlen : As.length = np) (hR : rmOk n N) (hn : n' + 1 ≤ n) (hrc : rc a M'.1.cls) (hrest : (st.map fun v => v.category).sum ≤ 8) (hst : stk = As.reverse ++ rf Γ a :: st) (hc : Ct Γ M' n' (rf Γ a :: As) σ Q0) (kk : ∀ v τ, Q0 v τ → G Γ M N (pc + 3) ls (v.toList ++ st) τ) : G Γ M N pc ls stk σ := by
  subst hst
  intro p e s m args below meth c A H locs la C hP hD hS hl9
  obtain ⟨r1, r2, r3, r4⟩ := hR
  obtain ⟨o1, o2, o3, o4, o5, o6⟩ := ok
  obtain ⟨ha, ci, r, q1, q2, q3⟩ := hrc
  obtain ⟨fs, q4⟩ := q3 Γ (σ.1 a) (σ.2 a)
  have hts := C.2.2.2.2.2.1
  have cb : CallB N.1 s args M.1.cls idx M'.1 M'.2.1 M'.2.2.1 M'.2.2.2 (wsM M') (rmN n') 0 0 np := callB_of (Ts := gt) np hts (wsM_good o1) rfl rfl rfl (hts _ o4) (hts _ hl) o5 ⟨by show n' + 1 ≤ _; omega, by show 8 + (M'.2.2.1 + 11) + 30 * n' ≤ _; omega⟩
  have hsub := A_sub hD hS C.2.2.2.2.2.2.2.2.1
  refine x_call (va_runV (C := M'.1.cls) (As := As) (rest := st) (b := Γ.2.2.2 a) ⟨C.1, C.2.1, C.2.2.2.1, C.2.2.2.2.1, hts⟩ (hc H.size) ⟨cb, hts _ o2, hts _ o3⟩ ⟨fun a U g mk q => ?_, ?_, fun U hU hW => ⟨rfl, by rw [hU], by rw [hU]; exact hP, va_K.moved hW.alike C.2.2.2.2.2.2.2.1, hD.weaken (fun _ _ _ _ => trivial)⟩⟩ rfl hlen hl9.1 rfl (lv_room hrest) hd ⟨r3, r4⟩) hS hsub (fun v τ H1 locs1 hq hP1 hS1 => kk v τ hq p e s m args below meth c A H1 locs1 la C hP1 (wO_D hD) hS1 hl9)
  · obtain ⟨z0, z1, zP, zK, zD⟩ := q
    exact ⟨z0, z1, zP, va_K.moved (u := U) (U := U.calling g mk a) (Vm.Alike.refl U.vm) zK, zD⟩
  · obtain ⟨cell, w1, w2, w3⟩ := va_recv (a := Γ.2.2.2 a) C.2.2.2.2.2.2.2.1 hP q1 (q0 := a) (fs := fs) (by rw [wO_at ha, q4])
    exact ⟨cell, w1, w2, by rw [← q2]; exact w3⟩
theorem g_callS {M' : MD} {np n n' idx : Nat} {stk As : List Value} {Q0 : Option Value → St → Prop} (hd : decode M.2.1 pc = .ok (.invokestatic idx, 3)) (hl : Cond.methodLink M.1.cls idx M'.1 ∈ gt) (ok : OkS M' np) (hlen : As.length = np) (hR : rmOk n N) (hn : n' + 1 ≤ n) (hrest : (st.map fun v => v.category).sum ≤ 8) (hst : stk = As.reverse ++ st) (hc : Ct Γ M' n' As σ Q0) (kk : ∀ v τ, Q0 v τ → G Γ M N (pc + 3) ls (v.toList ++ st) τ) : G Γ M N pc ls stk σ := by
  subst hst
  intro p e s m args below meth c A H locs la C hP hD hS hl9
  obtain ⟨r1, r2, r3, r4⟩ := hR
  obtain ⟨o1, o2, o4, o5, o6⟩ := ok
  have hts := C.2.2.2.2.2.1
  have cb : CallB N.1 s args M.1.cls idx M'.1 M'.2.1 M'.2.2.1 M'.2.2.2 (wsM M') (rmN n') 0 0 np := callB_of (Ts := gt) np hts (wsM_good o1) rfl rfl rfl (hts _ o4) (hts _ hl) o5 ⟨by show n' + 1 ≤ _; omega, by show 8 + (M'.2.2.1 + 11) + 30 * n' ≤ _; omega⟩
  have hsub := A_sub hD hS C.2.2.2.2.2.2.2.2.1
  refine x_call (va_runS (As := As) (rest := st) ⟨C.1, C.2.1, C.2.2.2.1, C.2.2.2.2.1, hts⟩ (hc H.size) ⟨cb, hts _ o2⟩ ⟨fun a U g mk q => ?_, fun U hU hW => ⟨rfl, by rw [hU], by rw [hU]; exact hP, va_K.moved hW.alike C.2.2.2.2.2.2.2.1, hD.weaken (fun _ _ _ _ => trivial)⟩⟩ rfl hlen hl9.1 rfl (lv_room hrest) hd ⟨r3, r4⟩) hS hsub (fun v τ H1 locs1 hq hP1 hS1 => kk v τ hq p e s m args below meth c A H1 locs1 la C hP1 (wO_D hD) hS1 hl9)
  obtain ⟨z0, z1, zP, zK, zD⟩ := q
  exact ⟨z0, z1, zP, va_K.moved (u := U) (U := U.calling g mk a) (Vm.Alike.refl U.vm) zK, zD⟩
abbrev NI (Γ : GT) (n : Nat) (Q : Int32 → St → Prop) : NT := NM Γ n (fun v τ => ∃ r : Int32, v = some (.int r) ∧ Q r τ)
abbrev NJ (Γ : GT) (n : Nat) (Q : Int64 → St → Prop) : NT := NM Γ n (fun v τ => ∃ r : Int64, v = some (.long r) ∧ Q r τ)
abbrev NV (Γ : GT) (n : Nat) (Q : St → Prop) : NT := NM Γ n (fun v τ => v = none ∧ Q τ)
theorem g_iret {n : Nat} {Q : Int32 → St → Prop} {v : Int32} (hr : M.2.2.2 = some .int) (hd : decode M.2.1 pc = .ok (.ireturn, 1)) (hq : Q v σ) : G Γ M (NI Γ n Q) pc ls [.int v] σ :=
  fun p e s m args below meth c A H locs la C hP hD hS hl => W.iret C.1 C.2.1 (C.2.2.1.trans hr) (fun t ht hW => ⟨⟨_, σ, rfl, ⟨v, rfl, hq⟩, by rw [ht]; exact hP⟩, hS.F ht⟩) hS.2.2 hd C.2.2.2.2.2.2.1
theorem z_nar {v : Int32} (h : v = 0 ∨ v = 1) : narrow .boolean (.int v) = .int v := by rcases h with rfl | rfl <;> rfl
theorem g_zret {n : Nat} {Q : Int32 → St → Prop} {v : Int32} (hr : M.2.2.2 = some .boolean) (hd : decode M.2.1 pc = .ok (.ireturn, 1)) (hv : v = 0 ∨ v = 1) (hq : Q v σ) : G Γ M (NI Γ n Q) pc ls [.int v] σ :=
  fun p e s m args below meth c A H locs la C hP hD hS hl => W.zret C.1 C.2.1 (C.2.2.1.trans hr) (z_nar hv) (fun t ht hW => ⟨⟨_, σ, rfl, ⟨v, rfl, hq⟩, by rw [ht]; exact hP⟩, hS.F ht⟩) hS.2.2 hd C.2.2.2.2.2.2.1
theorem g_lret {n : Nat} {Q : Int64 → St → Prop} {v : Int64} (hr : M.2.2.2 = some .long) (hd : decode M.2.1 pc = .ok (.lreturn, 1)) (hq : Q v σ) : G Γ M (NJ Γ n Q) pc ls [.long v] σ :=
  fun p e s m args below meth c A H locs la C hP hD hS hl => W.lret C.1 C.2.1 (C.2.2.1.trans hr) (fun t ht hW => ⟨⟨_, σ, rfl, ⟨v, rfl, hq⟩, by rw [ht]; exact hP⟩, hS.F ht⟩) hS.2.2 hd C.2.2.2.2.2.2.1
theorem g_vret {n : Nat} {Q : St → Prop} (hr : M.2.2.2 = none) (hd : decode M.2.1 pc = .ok (.return_, 1)) (hq : Q σ) : G Γ M (NV Γ n Q) pc ls [] σ :=
  fun p e s m args below meth c A H locs la C hP hD hS hl => W.vret C.1 C.2.1 (C.2.2.1.trans hr) (fun t ht hW => ⟨⟨_, σ, rfl, ⟨rfl, hq⟩, by rw [ht]; exact hP⟩, hS.F ht⟩) hS.2.2 hd C.2.2.2.2.2.2.1
theorem g_slen {b L : Nat} {xs : Nat → Int32} (hE : ∀ s A, N.2.2.2.2 s A → va_X b L xs s s.heap ∧ b < s.heap.size ∧ ¬ A b) (hd : decode M.2.1 pc = .ok (.arraylength, 1)) (kk : G Γ M N (pc + 1) ls (.int (nI L) :: st) σ) : G Γ M N pc ls (.ref b :: st) σ := by
  intro p e s m args below meth c A H locs la C hP hD hS hl
  obtain ⟨h1, h2, h3⟩ := hE s A C.2.2.2.2.2.2.2.2.2
  exact va_slen C.1 C.2.1 h1 h2 h3 hS hd (kk p e s m args below meth c A H locs la C hP hD hS hl)
theorem g_sld {b L : Nat} {xs : Nat → Int32} {i : Int32} (hE : ∀ s A, N.2.2.2.2 s A → va_X b L xs s s.heap ∧ b < s.heap.size ∧ ¬ A b) (hin : vp_in i L) (hd : decode M.2.1 pc = .ok (.iaload, 1)) (kk : G Γ M N (pc + 1) ls (.int (xs i.toNatClampNeg) :: st) σ) : G Γ M N pc ls (.int i :: .ref b :: st) σ := by
  intro p e s m args below meth c A H locs la C hP hD hS hl
  obtain ⟨h1, h2, h3⟩ := hE s A C.2.2.2.2.2.2.2.2.2
  exact va_sld C.1 C.2.1 h1 h2 h3 hS hin hd (kk p e s m args below meth c A H locs la C hP hD hS hl)
end ROWS
end
section
/-! words of the tables, by their places -/
theorem gt_m {w : Cond} (h : w ∈ tables_1) (g : goodWord w = true) : w ∈ gt := List.mem_filter.mpr ⟨List.mem_append_right _ h, g⟩
theorem gt_1 {w : Cond} (i : Nat) (h : tables_1_1[i]? = some w) (g : goodWord w = true) : w ∈ gt := gt_m (List.mem_append_left _ (List.mem_of_getElem? h)) g
theorem gt_2 {w : Cond} (i : Nat) (h : tables_1_2[i]? = some w) (g : goodWord w = true) : w ∈ gt := gt_m (List.mem_append_right _ (List.mem_append_left _ (List.mem_of_getElem? h))) g
theorem gt_3 {w : Cond} (i : Nat) (h : tables_1_3[i]? = some w) (g : goodWord w = true) : w ∈ gt := gt_m (List.mem_append_right _ (List.mem_append_right _ (List.mem_append_left _ (List.mem_of_getElem? h)))) g
theorem gt_4 {w : Cond} (i : Nat) (h : tables_1_4[i]? = some w) (g : goodWord w = true) : w ∈ gt := gt_m (List.mem_append_right _ (List.mem_append_right _ (List.mem_append_right _ (List.mem_of_getElem? h)))) g
theorem gt_S {w : Cond} (i : Nat) (h : (k2_sels lw_privs)[i]? = some w) (g : goodWord w = true) : w ∈ gt := List.mem_filter.mpr ⟨List.mem_append_left _ (List.mem_of_getElem? h), g⟩
theorem kin_X0 : Cond.initialized RX0 ∈ gt := (gt_1 3 (by decide +kernel) (by decide +kernel))
theorem kin_X1 : Cond.initialized RX1 ∈ gt := (gt_1 2 (by decide +kernel) (by decide +kernel))
theorem kin_X2 : Cond.initialized RX2 ∈ gt := (gt_1 6 (by decide +kernel) (by decide +kernel))
theorem kin_X3 : Cond.initialized RX3 ∈ gt := (gt_1 5 (by decide +kernel) (by decide +kernel))
theorem kin_X4 : Cond.initialized RX4 ∈ gt := (gt_1 4 (by decide +kernel) (by decide +kernel))
theorem kin_X5 : Cond.initialized RX5 ∈ gt := (gt_1 1 (by decide +kernel) (by decide +kernel))
theorem kin_X6 : Cond.initialized RX6 ∈ gt := (gt_1 7 (by decide +kernel) (by decide +kernel))
theorem kin_J6 : Cond.initialized RJ6 ∈ gt := (gt_1 9 (by decide +kernel) (by decide +kernel))
theorem kin_J9 : Cond.initialized RJ9 ∈ gt := (gt_1 8 (by decide +kernel) (by decide +kernel))
theorem kin_J10 : Cond.initialized RJ10 ∈ gt := (gt_1 10 (by decide +kernel) (by decide +kernel))
theorem inX0 : ∀ w ∈ wsX00, w ∈ gt := by
  intro w hw
  obtain ⟨k, hk, rfl⟩ := List.mem_map.mp hw
  have hk := List.mem_range.mp hk
  match k, hk with
  | 0, _ => exact (gt_1 70 (by decide +kernel) (by decide +kernel))
  | 1, _ => exact (gt_1 72 (by decide +kernel) (by decide +kernel))
  | 2, _ => exact (gt_1 74 (by decide +kernel) (by decide +kernel))
  | 3, _ => exact (gt_1 76 (by decide +kernel) (by decide +kernel))
  | n + 4, h => omega
theorem inX1 : ∀ w ∈ wsX10, w ∈ gt := by
  intro w hw
  obtain ⟨k, hk, rfl⟩ := List.mem_map.mp hw
  have hk := List.mem_range.mp hk
  match k, hk with
  | 0, _ => exact (gt_1 44 (by decide +kernel) (by decide +kernel))
  | 1, _ => exact (gt_1 46 (by decide +kernel) (by decide +kernel))
  | 2, _ => exact (gt_1 48 (by decide +kernel) (by decide +kernel))
  | 3, _ => exact (gt_1 50 (by decide +kernel) (by decide +kernel))
  | 4, _ => exact (gt_1 52 (by decide +kernel) (by decide +kernel))
  | 5, _ => exact (gt_1 54 (by decide +kernel) (by decide +kernel))
  | 6, _ => exact (gt_1 56 (by decide +kernel) (by decide +kernel))
  | n + 7, h => omega
theorem inX2 : ∀ w ∈ wsX20, w ∈ gt := by
  intro w hw
  obtain ⟨k, hk, rfl⟩ := List.mem_map.mp hw
  have hk := List.mem_range.mp hk
  match k, hk with
  | 0, _ => exact (gt_1 129 (by decide +kernel) (by decide +kernel))
  | 1, _ => exact (gt_1 131 (by decide +kernel) (by decide +kernel))
  | 2, _ => exact (gt_1 133 (by decide +kernel) (by decide +kernel))
  | n + 3, h => omega
theorem inX3 : ∀ w ∈ wsX30, w ∈ gt := by
  intro w hw
  obtain ⟨k, hk, rfl⟩ := List.mem_map.mp hw
  have hk := List.mem_range.mp hk
  match k, hk with
  | 0, _ => exact (gt_1 111 (by decide +kernel) (by decide +kernel))
  | 1, _ => exact (gt_1 113 (by decide +kernel) (by decide +kernel))
  | n + 2, h => omega
theorem inX4 : ∀ w ∈ wsX40, w ∈ gt := by
  intro w hw
  obtain ⟨k, hk, rfl⟩ := List.mem_map.mp hw
  have hk := List.mem_range.mp hk
  match k, hk with
  | 0, _ => exact (gt_1 92 (by decide +kernel) (by decide +kernel))
  | 1, _ => exact (gt_1 94 (by decide +kernel) (by decide +kernel))
  | 2, _ => exact (gt_1 96 (by decide +kernel) (by decide +kernel))
  | 3, _ => exact (gt_1 98 (by decide +kernel) (by decide +kernel))
  | n + 4, h => omega
theorem inX5 : ∀ w ∈ wsX50, w ∈ gt := by
  intro w hw
  obtain ⟨k, hk, rfl⟩ := List.mem_map.mp hw
  have hk := List.mem_range.mp hk
  match k, hk with
  | 0, _ => exact (gt_1 142 (by decide +kernel) (by decide +kernel))
  | 1, _ => exact (gt_1 144 (by decide +kernel) (by decide +kernel))
  | 2, _ => exact (gt_1 146 (by decide +kernel) (by decide +kernel))
  | 3, _ => exact (gt_1 148 (by decide +kernel) (by decide +kernel))
  | 4, _ => exact (gt_1 150 (by decide +kernel) (by decide +kernel))
  | 5, _ => exact (gt_1 152 (by decide +kernel) (by decide +kernel))
  | n + 6, h => omega
theorem inX6 : ∀ w ∈ wsX60, w ∈ gt := by
  intro w hw
  obtain ⟨k, hk, rfl⟩ := List.mem_map.mp hw
  have hk := List.mem_range.mp hk
  match k, hk with
  | 0, _ => exact (gt_3 82 (by decide +kernel) (by decide +kernel))
  | 1, _ => exact (gt_3 84 (by decide +kernel) (by decide +kernel))
  | 2, _ => exact (gt_3 86 (by decide +kernel) (by decide +kernel))
  | 3, _ => exact (gt_3 88 (by decide +kernel) (by decide +kernel))
  | 4, _ => exact (gt_3 90 (by decide +kernel) (by decide +kernel))
  | 5, _ => exact (gt_3 92 (by decide +kernel) (by decide +kernel))
  | 6, _ => exact (gt_3 94 (by decide +kernel) (by decide +kernel))
  | 7, _ => exact (gt_3 96 (by decide +kernel) (by decide +kernel))
  | 8, _ => exact (gt_3 98 (by decide +kernel) (by decide +kernel))
  | 9, _ => exact (gt_3 100 (by decide +kernel) (by decide +kernel))
  | 10, _ => exact (gt_3 102 (by decide +kernel) (by decide +kernel))
  | 11, _ => exact (gt_3 104 (by decide +kernel) (by decide +kernel))
  | 12, _ => exact (gt_3 106 (by decide +kernel) (by decide +kernel))
  | 13, _ => exact (gt_3 108 (by decide +kernel) (by decide +kernel))
  | 14, _ => exact (gt_3 110 (by decide +kernel) (by decide +kernel))
  | 15, _ => exact (gt_3 112 (by decide +kernel) (by decide +kernel))
  | 16, _ => exact (gt_3 114 (by decide +kernel) (by decide +kernel))
  | 17, _ => exact (gt_3 116 (by decide +kernel) (by decide +kernel))
  | 18, _ => exact (gt_3 118 (by decide +kernel) (by decide +kernel))
  | 19, _ => exact (gt_3 120 (by decide +kernel) (by decide +kernel))
  | 20, _ => exact (gt_3 122 (by decide +kernel) (by decide +kernel))
  | 21, _ => exact (gt_3 124 (by decide +kernel) (by decide +kernel))
  | 22, _ => exact (gt_3 126 (by decide +kernel) (by decide +kernel))
  | 23, _ => exact (gt_3 128 (by decide +kernel) (by decide +kernel))
  | n + 24, h => omega
theorem fl_X1_7 : FL RX1 7 1 0 := ⟨RX1, TX1, 7, rfl, by decide, (gt_1 25 (by decide +kernel) (by decide +kernel)), inX1⟩
theorem fp_X1_7 : FP RX1 7 1 0 := ⟨RX1, TX1, 7, tyX1, rfl, by decide, (gt_1 25 (by decide +kernel) (by decide +kernel)), inX1, tyX1_ok, nmX1, rfl, by decide +kernel⟩
theorem fl_X5_50 : FL RX5 50 1 0 := ⟨RX1, TX1, 7, rfl, by decide, (gt_1 26 (by decide +kernel) (by decide +kernel)), inX1⟩
theorem fp_X5_50 : FP RX5 50 1 0 := ⟨RX1, TX1, 7, tyX1, rfl, by decide, (gt_1 26 (by decide +kernel) (by decide +kernel)), inX1, tyX1_ok, nmX1, rfl, by decide +kernel⟩
theorem fl_X0_32 : FL RX0 32 1 0 := ⟨RX1, TX1, 7, rfl, by decide, (gt_1 27 (by decide +kernel) (by decide +kernel)), inX1⟩
theorem fp_X0_32 : FP RX0 32 1 0 := ⟨RX1, TX1, 7, tyX1, rfl, by decide, (gt_1 27 (by decide +kernel) (by decide +kernel)), inX1, tyX1_ok, nmX1, rfl, by decide +kernel⟩
theorem fl_X4_41 : FL RX4 41 1 0 := ⟨RX1, TX1, 7, rfl, by decide, (gt_1 28 (by decide +kernel) (by decide +kernel)), inX1⟩
theorem fp_X4_41 : FP RX4 41 1 0 := ⟨RX1, TX1, 7, tyX1, rfl, by decide, (gt_1 28 (by decide +kernel) (by decide +kernel)), inX1, tyX1_ok, nmX1, rfl, by decide +kernel⟩
theorem fl_X1_13 : FL RX1 13 1 1 := ⟨RX1, TX1, 7, rfl, by decide, (gt_1 29 (by decide +kernel) (by decide +kernel)), inX1⟩
theorem fp_X1_13 : FP RX1 13 1 1 := ⟨RX1, TX1, 7, tyX1, rfl, by decide, (gt_1 29 (by decide +kernel) (by decide +kernel)), inX1, tyX1_ok, nmX1, rfl, by decide +kernel⟩
theorem fl_X5_83 : FL RX5 83 1 1 := ⟨RX1, TX1, 7, rfl, by decide, (gt_1 30 (by decide +kernel) (by decide +kernel)), inX1⟩
theorem fp_X5_83 : FP RX5 83 1 1 := ⟨RX1, TX1, 7, tyX1, rfl, by decide, (gt_1 30 (by decide +kernel) (by decide +kernel)), inX1, tyX1_ok, nmX1, rfl, by decide +kernel⟩
theorem fl_X1_16 : FL RX1 16 1 2 := ⟨RX1, TX1, 7, rfl, by decide, (gt_1 31 (by decide +kernel) (by decide +kernel)), inX1⟩
theorem fl_X1_20 : FL RX1 20 1 3 := ⟨RX1, TX1, 7, rfl, by decide, (gt_1 32 (by decide +kernel) (by decide +kernel)), inX1⟩
theorem fl_X0_36 : FL RX0 36 1 3 := ⟨RX1, TX1, 7, rfl, by decide, (gt_1 33 (by decide +kernel) (by decide +kernel)), inX1⟩
theorem fl_X5_69 : FL RX5 69 1 3 := ⟨RX1, TX1, 7, rfl, by decide, (gt_1 34 (by decide +kernel) (by decide +kernel)), inX1⟩
theorem fl_X1_23 : FL RX1 23 1 4 := ⟨RX1, TX1, 7, rfl, by decide, (gt_1 35 (by decide +kernel) (by decide +kernel)), inX1⟩
theorem fl_X0_50 : FL RX0 50 1 4 := ⟨RX1, TX1, 7, rfl, by decide, (gt_1 36 (by decide +kernel) (by decide +kernel)), inX1⟩
theorem fl_X5_77 : FL RX5 77 1 4 := ⟨RX1, TX1, 7, rfl, by decide, (gt_1 37 (by decide +kernel) (by decide +kernel)), inX1⟩
theorem fl_X1_26 : FL RX1 26 1 5 := ⟨RX1, TX1, 7, rfl, by decide, (gt_1 38 (by decide +kernel) (by decide +kernel)), inX1⟩
theorem fl_X4_32 : FL RX4 32 1 5 := ⟨RX1, TX1, 7, rfl, by decide, (gt_1 39 (by decide +kernel) (by decide +kernel)), inX1⟩
theorem fl_X5_80 : FL RX5 80 1 5 := ⟨RX1, TX1, 7, rfl, by decide, (gt_1 40 (by decide +kernel) (by decide +kernel)), inX1⟩
theorem fl_X1_29 : FL RX1 29 1 6 := ⟨RX1, TX1, 7, rfl, by decide, (gt_1 41 (by decide +kernel) (by decide +kernel)), inX1⟩
theorem fl_X4_60 : FL RX4 60 1 6 := ⟨RX1, TX1, 7, rfl, by decide, (gt_1 42 (by decide +kernel) (by decide +kernel)), inX1⟩
theorem fl_X5_90 : FL RX5 90 1 6 := ⟨RX1, TX1, 7, rfl, by decide, (gt_1 43 (by decide +kernel) (by decide +kernel)), inX1⟩
theorem fl_X0_9 : FL RX0 9 0 0 := ⟨RX0, TX0, 4, rfl, by decide, (gt_1 66 (by decide +kernel) (by decide +kernel)), inX0⟩
theorem fl_X0_17 : FL RX0 17 0 1 := ⟨RX0, TX0, 4, rfl, by decide, (gt_1 67 (by decide +kernel) (by decide +kernel)), inX0⟩
theorem fl_X0_21 : FL RX0 21 0 2 := ⟨RX0, TX0, 4, rfl, by decide, (gt_1 68 (by decide +kernel) (by decide +kernel)), inX0⟩
theorem fl_X0_24 : FL RX0 24 0 3 := ⟨RX0, TX0, 4, rfl, by decide, (gt_1 69 (by decide +kernel) (by decide +kernel)), inX0⟩
theorem fl_X4_15 : FL RX4 15 4 0 := ⟨RX4, TX4, 4, rfl, by decide, (gt_1 86 (by decide +kernel) (by decide +kernel)), inX4⟩
theorem fp_X4_15 : FP RX4 15 4 0 := ⟨RX4, TX4, 4, tyX4, rfl, by decide, (gt_1 86 (by decide +kernel) (by decide +kernel)), inX4, tyX4_ok, nmX4, rfl, by decide +kernel⟩
theorem fl_X5_93 : FL RX5 93 4 0 := ⟨RX4, TX4, 4, rfl, by decide, (gt_1 87 (by decide +kernel) (by decide +kernel)), inX4⟩
theorem fp_X5_93 : FP RX5 93 4 0 := ⟨RX4, TX4, 4, tyX4, rfl, by decide, (gt_1 87 (by decide +kernel) (by decide +kernel)), inX4, tyX4_ok, nmX4, rfl, by decide +kernel⟩
theorem fl_X4_21 : FL RX4 21 4 1 := ⟨RX4, TX4, 4, rfl, by decide, (gt_1 88 (by decide +kernel) (by decide +kernel)), inX4⟩
theorem fl_X5_178 : FL RX5 178 4 1 := ⟨RX4, TX4, 4, rfl, by decide, (gt_1 89 (by decide +kernel) (by decide +kernel)), inX4⟩
theorem fl_X4_9 : FL RX4 9 4 2 := ⟨RX4, TX4, 4, rfl, by decide, (gt_1 90 (by decide +kernel) (by decide +kernel)), inX4⟩
theorem fl_X4_25 : FL RX4 25 4 3 := ⟨RX4, TX4, 4, rfl, by decide, (gt_1 91 (by decide +kernel) (by decide +kernel)), inX4⟩
theorem fl_X3_9 : FL RX3 9 3 0 := ⟨RX3, TX3, 2, rfl, by decide, (gt_1 107 (by decide +kernel) (by decide +kernel)), inX3⟩
theorem fp_X3_9 : FP RX3 9 3 0 := ⟨RX3, TX3, 2, tyX3, rfl, by decide, (gt_1 107 (by decide +kernel) (by decide +kernel)), inX3, tyX3_ok, nmX3, rfl, by decide +kernel⟩
theorem fl_X5_99 : FL RX5 99 3 0 := ⟨RX3, TX3, 2, rfl, by decide, (gt_1 108 (by decide +kernel) (by decide +kernel)), inX3⟩
theorem fp_X5_99 : FP RX5 99 3 0 := ⟨RX3, TX3, 2, tyX3, rfl, by decide, (gt_1 108 (by decide +kernel) (by decide +kernel)), inX3, tyX3_ok, nmX3, rfl, by decide +kernel⟩
theorem fl_X3_15 : FL RX3 15 3 1 := ⟨RX3, TX3, 2, rfl, by decide, (gt_1 109 (by decide +kernel) (by decide +kernel)), inX3⟩
theorem fl_X5_289 : FL RX5 289 3 1 := ⟨RX3, TX3, 2, rfl, by decide, (gt_1 110 (by decide +kernel) (by decide +kernel)), inX3⟩
theorem fl_X2_7 : FL RX2 7 2 0 := ⟨RX2, TX2, 3, rfl, by decide, (gt_1 123 (by decide +kernel) (by decide +kernel)), inX2⟩
theorem fp_X2_7 : FP RX2 7 2 0 := ⟨RX2, TX2, 3, tyX2, rfl, by decide, (gt_1 123 (by decide +kernel) (by decide +kernel)), inX2, tyX2_ok, nmX2, rfl, by decide +kernel⟩
theorem fl_X5_217 : FL RX5 217 2 0 := ⟨RX2, TX2, 3, rfl, by decide, (gt_1 124 (by decide +kernel) (by decide +kernel)), inX2⟩
theorem fp_X5_217 : FP RX5 217 2 0 := ⟨RX2, TX2, 3, tyX2, rfl, by decide, (gt_1 124 (by decide +kernel) (by decide +kernel)), inX2, tyX2_ok, nmX2, rfl, by decide +kernel⟩
theorem fl_X2_13 : FL RX2 13 2 1 := ⟨RX2, TX2, 3, rfl, by decide, (gt_1 125 (by decide +kernel) (by decide +kernel)), inX2⟩
theorem fp_X2_13 : FP RX2 13 2 1 := ⟨RX2, TX2, 3, tyX2, rfl, by decide, (gt_1 125 (by decide +kernel) (by decide +kernel)), inX2, tyX2_ok, nmX2, rfl, by decide +kernel⟩
theorem fl_X5_197 : FL RX5 197 2 1 := ⟨RX2, TX2, 3, rfl, by decide, (gt_1 126 (by decide +kernel) (by decide +kernel)), inX2⟩
theorem fp_X5_197 : FP RX5 197 2 1 := ⟨RX2, TX2, 3, tyX2, rfl, by decide, (gt_1 126 (by decide +kernel) (by decide +kernel)), inX2, tyX2_ok, nmX2, rfl, by decide +kernel⟩
theorem fl_X2_16 : FL RX2 16 2 2 := ⟨RX2, TX2, 3, rfl, by decide, (gt_1 127 (by decide +kernel) (by decide +kernel)), inX2⟩
theorem fl_X5_210 : FL RX5 210 2 2 := ⟨RX2, TX2, 3, rfl, by decide, (gt_1 128 (by decide +kernel) (by decide +kernel)), inX2⟩
theorem fl_X5_10 : FL RX5 10 5 0 := ⟨RX5, TX5, 6, rfl, by decide, (gt_1 136 (by decide +kernel) (by decide +kernel)), inX5⟩
theorem fl_X5_21 : FL RX5 21 5 1 := ⟨RX5, TX5, 6, rfl, by decide, (gt_1 137 (by decide +kernel) (by decide +kernel)), inX5⟩
theorem fl_X5_28 : FL RX5 28 5 2 := ⟨RX5, TX5, 6, rfl, by decide, (gt_1 138 (by decide +kernel) (by decide +kernel)), inX5⟩
theorem fl_X5_35 : FL RX5 35 5 3 := ⟨RX5, TX5, 6, rfl, by decide, (gt_1 139 (by decide +kernel) (by decide +kernel)), inX5⟩
theorem fl_X5_41 : FL RX5 41 5 4 := ⟨RX5, TX5, 6, rfl, by decide, (gt_1 140 (by decide +kernel) (by decide +kernel)), inX5⟩
theorem fl_X5_46 : FL RX5 46 5 5 := ⟨RX5, TX5, 6, rfl, by decide, (gt_1 141 (by decide +kernel) (by decide +kernel)), inX5⟩
theorem fp_X5_46 : FP RX5 46 5 5 := ⟨RX5, TX5, 6, tyX5, rfl, by decide, (gt_1 141 (by decide +kernel) (by decide +kernel)), inX5, tyX5_ok, nmX5, rfl, by decide +kernel⟩
theorem fl_X6_7 : FL RX6 7 6 0 := ⟨RX6, TX6, 24, rfl, by decide, (gt_3 58 (by decide +kernel) (by decide +kernel)), inX6⟩
theorem fp_X6_7 : FP RX6 7 6 0 := ⟨RX6, TX6, 24, tyX6, rfl, by decide, (gt_3 58 (by decide +kernel) (by decide +kernel)), inX6, tyX6_ok, nmX6, rfl, by decide +kernel⟩
theorem fl_X6_98 : FL RX6 98 6 1 := ⟨RX6, TX6, 24, rfl, by decide, (gt_3 59 (by decide +kernel) (by decide +kernel)), inX6⟩
theorem fp_X6_98 : FP RX6 98 6 1 := ⟨RX6, TX6, 24, tyX6, rfl, by decide, (gt_3 59 (by decide +kernel) (by decide +kernel)), inX6, tyX6_ok, nmX6, rfl, by decide +kernel⟩
theorem fl_X6_13 : FL RX6 13 6 2 := ⟨RX6, TX6, 24, rfl, by decide, (gt_3 60 (by decide +kernel) (by decide +kernel)), inX6⟩
theorem fl_X6_17 : FL RX6 17 6 3 := ⟨RX6, TX6, 24, rfl, by decide, (gt_3 61 (by decide +kernel) (by decide +kernel)), inX6⟩
theorem fl_X6_20 : FL RX6 20 6 4 := ⟨RX6, TX6, 24, rfl, by decide, (gt_3 62 (by decide +kernel) (by decide +kernel)), inX6⟩
theorem fl_X6_23 : FL RX6 23 6 5 := ⟨RX6, TX6, 24, rfl, by decide, (gt_3 63 (by decide +kernel) (by decide +kernel)), inX6⟩
theorem fl_X6_26 : FL RX6 26 6 6 := ⟨RX6, TX6, 24, rfl, by decide, (gt_3 64 (by decide +kernel) (by decide +kernel)), inX6⟩
theorem fl_X6_30 : FL RX6 30 6 7 := ⟨RX6, TX6, 24, rfl, by decide, (gt_3 65 (by decide +kernel) (by decide +kernel)), inX6⟩
theorem fl_X6_33 : FL RX6 33 6 8 := ⟨RX6, TX6, 24, rfl, by decide, (gt_3 66 (by decide +kernel) (by decide +kernel)), inX6⟩
theorem fl_X6_101 : FL RX6 101 6 9 := ⟨RX6, TX6, 24, rfl, by decide, (gt_3 67 (by decide +kernel) (by decide +kernel)), inX6⟩
theorem fp_X6_101 : FP RX6 101 6 9 := ⟨RX6, TX6, 24, tyX6, rfl, by decide, (gt_3 67 (by decide +kernel) (by decide +kernel)), inX6, tyX6_ok, nmX6, rfl, by decide +kernel⟩
theorem fl_X6_36 : FL RX6 36 6 10 := ⟨RX6, TX6, 24, rfl, by decide, (gt_3 68 (by decide +kernel) (by decide +kernel)), inX6⟩
theorem fl_X6_40 : FL RX6 40 6 11 := ⟨RX6, TX6, 24, rfl, by decide, (gt_3 69 (by decide +kernel) (by decide +kernel)), inX6⟩
theorem fl_X6_43 : FL RX6 43 6 12 := ⟨RX6, TX6, 24, rfl, by decide, (gt_3 70 (by decide +kernel) (by decide +kernel)), inX6⟩
theorem fl_X6_46 : FL RX6 46 6 13 := ⟨RX6, TX6, 24, rfl, by decide, (gt_3 71 (by decide +kernel) (by decide +kernel)), inX6⟩
theorem fp_X6_46 : FP RX6 46 6 13 := ⟨RX6, TX6, 24, tyX6, rfl, by decide, (gt_3 71 (by decide +kernel) (by decide +kernel)), inX6, tyX6_ok, nmX6, rfl, by decide +kernel⟩
theorem fl_X6_126 : FL RX6 126 6 14 := ⟨RX6, TX6, 24, rfl, by decide, (gt_3 72 (by decide +kernel) (by decide +kernel)), inX6⟩
theorem fp_X6_126 : FP RX6 126 6 14 := ⟨RX6, TX6, 24, tyX6, rfl, by decide, (gt_3 72 (by decide +kernel) (by decide +kernel)), inX6, tyX6_ok, nmX6, rfl, by decide +kernel⟩
theorem fl_X6_49 : FL RX6 49 6 15 := ⟨RX6, TX6, 24, rfl, by decide, (gt_3 73 (by decide +kernel) (by decide +kernel)), inX6⟩
theorem fl_X6_52 : FL RX6 52 6 16 := ⟨RX6, TX6, 24, rfl, by decide, (gt_3 74 (by decide +kernel) (by decide +kernel)), inX6⟩
theorem fl_X6_55 : FL RX6 55 6 17 := ⟨RX6, TX6, 24, rfl, by decide, (gt_3 75 (by decide +kernel) (by decide +kernel)), inX6⟩
theorem fl_X6_58 : FL RX6 58 6 18 := ⟨RX6, TX6, 24, rfl, by decide, (gt_3 76 (by decide +kernel) (by decide +kernel)), inX6⟩
theorem fl_X6_61 : FL RX6 61 6 19 := ⟨RX6, TX6, 24, rfl, by decide, (gt_3 77 (by decide +kernel) (by decide +kernel)), inX6⟩
theorem fl_X6_64 : FL RX6 64 6 20 := ⟨RX6, TX6, 24, rfl, by decide, (gt_3 78 (by decide +kernel) (by decide +kernel)), inX6⟩
theorem fl_X6_67 : FL RX6 67 6 21 := ⟨RX6, TX6, 24, rfl, by decide, (gt_3 79 (by decide +kernel) (by decide +kernel)), inX6⟩
theorem fl_X6_70 : FL RX6 70 6 22 := ⟨RX6, TX6, 24, rfl, by decide, (gt_3 80 (by decide +kernel) (by decide +kernel)), inX6⟩
theorem fl_X6_196 : FL RX6 196 6 23 := ⟨RX6, TX6, 24, rfl, by decide, (gt_3 81 (by decide +kernel) (by decide +kernel)), inX6⟩
theorem fp_X6_196 : FP RX6 196 6 23 := ⟨RX6, TX6, 24, tyX6, rfl, by decide, (gt_3 81 (by decide +kernel) (by decide +kernel)), inX6, tyX6_ok, nmX6, rfl, by decide +kernel⟩
theorem ml_L_9 : Cond.methodLink RL 9 yX5_init ∈ gt := (gt_1 13 (by decide +kernel) (by decide +kernel))
theorem ml_X5_9 : Cond.methodLink RX5 9 yX1_init ∈ gt := (gt_1 21 (by decide +kernel) (by decide +kernel))
theorem ml_X5_18 : Cond.methodLink RX5 18 yX0_init ∈ gt := (gt_1 62 (by decide +kernel) (by decide +kernel))
theorem ml_X5_27 : Cond.methodLink RX5 27 yX4_init ∈ gt := (gt_1 82 (by decide +kernel) (by decide +kernel))
theorem ml_X5_34 : Cond.methodLink RX5 34 yX3_init ∈ gt := (gt_1 103 (by decide +kernel) (by decide +kernel))
theorem ml_X5_45 : Cond.methodLink RX5 45 yX2_init ∈ gt := (gt_1 119 (by decide +kernel) (by decide +kernel))
theorem ml_L_13 : Cond.methodLink RL 13 yX5_senders ∈ gt := (gt_1 155 (by decide +kernel) (by decide +kernel))
theorem ml_L_18 : Cond.methodLink RL 18 yX5_gain ∈ gt := (gt_1 159 (by decide +kernel) (by decide +kernel))
theorem ml_X5_53 : Cond.methodLink RX5 53 yX1_isThere ∈ gt := (gt_1 163 (by decide +kernel) (by decide +kernel))
theorem ml_X5_57 : Cond.methodLink RX5 57 yX1_mayBeGain ∈ gt := (gt_1 167 (by decide +kernel) (by decide +kernel))
theorem ml_X5_61 : Cond.methodLink RX5 61 yX1_gainOf ∈ gt := (gt_1 170 (by decide +kernel) (by decide +kernel))
theorem ml_X5_65 : Cond.methodLink RX5 65 yX1_tellGain ∈ gt := (gt_1 174 (by decide +kernel) (by decide +kernel))
theorem ml_L_23 : Cond.methodLink RL 23 yX5_set ∈ gt := (gt_1 178 (by decide +kernel) (by decide +kernel))
theorem ml_X5_73 : Cond.methodLink RX5 73 yX5_exchange ∈ gt := (gt_1 182 (by decide +kernel) (by decide +kernel))
theorem ml_L_27 : Cond.methodLink RL 27 yX5_on ∈ gt := (gt_1 185 (by decide +kernel) (by decide +kernel))
theorem ml_X5_86 : Cond.methodLink RX5 86 yX1_onSet ∈ gt := (gt_1 189 (by decide +kernel) (by decide +kernel))
theorem ml_X1_32 : Cond.methodLink RX1 32 yX1_allBits ∈ gt := (gt_1 193 (by decide +kernel) (by decide +kernel))
theorem ml_L_31 : Cond.methodLink RL 31 yX5_power ∈ gt := (gt_1 197 (by decide +kernel) (by decide +kernel))
theorem ml_L_36 : Cond.methodLink RL 36 yX5_rule ∈ gt := (gt_1 201 (by decide +kernel) (by decide +kernel))
theorem ml_L_40 : Cond.methodLink RL 40 yX5_type ∈ gt := (gt_1 205 (by decide +kernel) (by decide +kernel))
theorem ml_X5_96 : Cond.methodLink RX5 96 yX3_append ∈ gt := (gt_1 209 (by decide +kernel) (by decide +kernel))
theorem ml_L_44 : Cond.methodLink RL 44 yX5_wipe ∈ gt := (gt_1 213 (by decide +kernel) (by decide +kernel))
theorem ml_L_49 : Cond.methodLink RL 49 yX5_fault ∈ gt := (gt_1 217 (by decide +kernel) (by decide +kernel))
theorem ml_X5_102 : Cond.methodLink RX5 102 yX3_firstWrong ∈ gt := (gt_1 221 (by decide +kernel) (by decide +kernel))
theorem ml_L_53 : Cond.methodLink RL 53 yX5_read ∈ gt := (gt_1 225 (by decide +kernel) (by decide +kernel))
theorem ml_X5_106 : Cond.methodLink RX5 106 yX5_refusalOfSheet ∈ gt := (gt_1 229 (by decide +kernel) (by decide +kernel))
theorem ml_X5_184 : Cond.methodLink RX5 184 yX5_isSheet ∈ gt := (gt_1 233 (by decide +kernel) (by decide +kernel))
theorem ml_X5_213 : Cond.methodLink RX5 213 yX2_isLost ∈ gt := (gt_1 236 (by decide +kernel) (by decide +kernel))
theorem ml_X5_190 : Cond.methodLink RX5 190 yX5_finding ∈ gt := (gt_2 0 (by decide +kernel) (by decide +kernel))
theorem ml_X5_109 : Cond.methodLink RX5 109 yX5_readGains ∈ gt := (gt_2 4 (by decide +kernel) (by decide +kernel))
theorem ml_L_57 : Cond.methodLink RL 57 yX5_info ∈ gt := (gt_2 8 (by decide +kernel) (by decide +kernel))
theorem ml_X5_113 : Cond.methodLink RX5 113 yX1_isOn ∈ gt := (gt_2 12 (by decide +kernel) (by decide +kernel))
theorem ml_X5_116 : Cond.methodLink RX5 116 yX1_needOf ∈ gt := (gt_2 16 (by decide +kernel) (by decide +kernel))
theorem ml_X1_36 : Cond.methodLink RX1 36 yX1_gainOf ∈ gt := (gt_2 20 (by decide +kernel) (by decide +kernel))
theorem ml_X1_40 : Cond.methodLink RX1 40 yX1_othersAndNoise ∈ gt := (gt_2 21 (by decide +kernel) (by decide +kernel))
theorem ml_X5_120 : Cond.methodLink RX5 120 yX1_isContent ∈ gt := (gt_2 25 (by decide +kernel) (by decide +kernel))
theorem ml_X1_44 : Cond.methodLink RX1 44 yX1_isOn ∈ gt := (gt_2 29 (by decide +kernel) (by decide +kernel))
theorem ml_L_61 : Cond.methodLink RL 61 yX5_heard ∈ gt := (gt_2 30 (by decide +kernel) (by decide +kernel))
theorem ml_L_65 : Cond.methodLink RL 65 yX5_minor ∈ gt := (gt_2 34 (by decide +kernel) (by decide +kernel))
theorem ml_X5_123 : Cond.methodLink RX5 123 yX1_allBits ∈ gt := (gt_2 38 (by decide +kernel) (by decide +kernel))
theorem ml_X5_126 : Cond.methodLink RX5 126 yX5_asLong ∈ gt := (gt_2 39 (by decide +kernel) (by decide +kernel))
theorem ml_X5_130 : Cond.methodLink RX5 130 yX0_buildAsTold ∈ gt := (gt_2 43 (by decide +kernel) (by decide +kernel))
theorem ml_X0_28 : Cond.methodLink RX0 28 yX0_build ∈ gt := (gt_2 47 (by decide +kernel) (by decide +kernel))
theorem ml_X0_39 : Cond.methodLink RX0 39 Lib.Math.max.name ∈ gt := (gt_2 51 (by decide +kernel) (by decide +kernel))
theorem ml_X0_47 : Cond.methodLink RX0 47 yX1_gainOf ∈ gt := (gt_2 55 (by decide +kernel) (by decide +kernel))
theorem ml_X5_133 : Cond.methodLink RX5 133 yX0_minorOf ∈ gt := (gt_2 56 (by decide +kernel) (by decide +kernel))
theorem ml_X0_53 : Cond.methodLink RX0 53 yX0_expand ∈ gt := (gt_2 60 (by decide +kernel) (by decide +kernel))
theorem ml_X0_57 : Cond.methodLink RX0 57 yX0_listMembers ∈ gt := (gt_2 64 (by decide +kernel) (by decide +kernel))
theorem ml_X0_60 : Cond.methodLink RX0 60 yJ6_bitCount_0f7a4 ∈ gt := (gt_2 68 (by decide +kernel) (by decide +kernel))
theorem ml_X0_65 : Cond.methodLink RX0 65 yX0_expandRow ∈ gt := (gt_2 74 (by decide +kernel) (by decide +kernel))
theorem ml_L_70 : Cond.methodLink RL 70 yX5_feasible ∈ gt := (gt_2 78 (by decide +kernel) (by decide +kernel))
theorem ml_X5_136 : Cond.methodLink RX5 136 yX0_holdFor ∈ gt := (gt_2 82 (by decide +kernel) (by decide +kernel))
theorem ml_L_74 : Cond.methodLink RL 74 yX5_least ∈ gt := (gt_2 86 (by decide +kernel) (by decide +kernel))
theorem ml_X5_139 : Cond.methodLink RX5 139 yX0_replaceColumnByNoise ∈ gt := (gt_2 90 (by decide +kernel) (by decide +kernel))
theorem ml_X5_143 : Cond.methodLink RX5 143 yX5_lowestTerm ∈ gt := (gt_2 94 (by decide +kernel) (by decide +kernel))
theorem ml_X5_299 : Cond.methodLink RX5 299 yX5_commonDivisor ∈ gt := (gt_2 97 (by decide +kernel) (by decide +kernel))
theorem ml_X5_303 : Cond.methodLink RX5 303 Lib.MathLoose.max_long.x ∈ gt := (gt_2 100 (by decide +kernel) (by decide +kernel))
theorem ml_L_79 : Cond.methodLink RL 79 yX5_witness ∈ gt := (gt_2 103 (by decide +kernel) (by decide +kernel))
theorem ml_X5_147 : Cond.methodLink RX5 147 yX0_fewestTooMany ∈ gt := (gt_2 107 (by decide +kernel) (by decide +kernel))
theorem ml_X0_69 : Cond.methodLink RX0 69 yX0_holdFor ∈ gt := (gt_2 111 (by decide +kernel) (by decide +kernel))
theorem ml_L_83 : Cond.methodLink RL 83 yX5_out ∈ gt := (gt_2 112 (by decide +kernel) (by decide +kernel))
theorem ml_X5_150 : Cond.methodLink RX5 150 yX0_fewestToLeave ∈ gt := (gt_2 116 (by decide +kernel) (by decide +kernel))
theorem ml_L_87 : Cond.methodLink RL 87 yX5_admitted ∈ gt := (gt_2 120 (by decide +kernel) (by decide +kernel))
theorem ml_X5_153 : Cond.methodLink RX5 153 yX0_comeIn ∈ gt := (gt_2 124 (by decide +kernel) (by decide +kernel))
theorem ml_L_91 : Cond.methodLink RL 91 yX5_softer ∈ gt := (gt_2 128 (by decide +kernel) (by decide +kernel))
theorem ml_X5_156 : Cond.methodLink RX5 156 yX0_whoseWishLess ∈ gt := (gt_2 132 (by decide +kernel) (by decide +kernel))
theorem ml_X0_73 : Cond.methodLink RX0 73 yX0_buildAsTold ∈ gt := (gt_2 136 (by decide +kernel) (by decide +kernel))
theorem ml_L_95 : Cond.methodLink RL 95 yX5_margin ∈ gt := (gt_2 137 (by decide +kernel) (by decide +kernel))
theorem ml_X5_159 : Cond.methodLink RX5 159 yX0_greatestQuarters ∈ gt := (gt_2 141 (by decide +kernel) (by decide +kernel))
theorem ml_L_99 : Cond.methodLink RL 99 yX5_share ∈ gt := (gt_2 145 (by decide +kernel) (by decide +kernel))
theorem ml_X5_162 : Cond.methodLink RX5 162 yX1_othersAndNoise ∈ gt := (gt_2 149 (by decide +kernel) (by decide +kernel))
theorem ml_L_103 : Cond.methodLink RL 103 yX5_step ∈ gt := (gt_2 150 (by decide +kernel) (by decide +kernel))
theorem ml_X5_165 : Cond.methodLink RX5 165 yX4_stepOf ∈ gt := (gt_2 154 (by decide +kernel) (by decide +kernel))
theorem ml_X4_28 : Cond.methodLink RX4 28 yX1_needOf ∈ gt := (gt_2 158 (by decide +kernel) (by decide +kernel))
theorem ml_X4_35 : Cond.methodLink RX4 35 Lib.Math.min.name ∈ gt := (gt_2 159 (by decide +kernel) (by decide +kernel))
theorem ml_L_107 : Cond.methodLink RL 107 yX5_turn ∈ gt := (gt_2 162 (by decide +kernel) (by decide +kernel))
theorem ml_X5_168 : Cond.methodLink RX5 168 yX4_takeTurn ∈ gt := (gt_2 166 (by decide +kernel) (by decide +kernel))
theorem ml_X4_44 : Cond.methodLink RX4 44 yX4_goalOf ∈ gt := (gt_2 170 (by decide +kernel) (by decide +kernel))
theorem ml_X4_53 : Cond.methodLink RX4 53 yX1_isOn ∈ gt := (gt_2 174 (by decide +kernel) (by decide +kernel))
theorem ml_X4_57 : Cond.methodLink RX4 57 yX4_stepOf ∈ gt := (gt_2 175 (by decide +kernel) (by decide +kernel))
theorem ml_X4_47 : Cond.methodLink RX4 47 arraycopyName ∈ gt := (gt_2 176 (by decide +kernel) (by decide +kernel))
theorem ml_L_111 : Cond.methodLink RL 111 yX5_order ∈ gt := (gt_2 179 (by decide +kernel) (by decide +kernel))
theorem ml_X5_172 : Cond.methodLink RX5 172 yX5_stepsOfText ∈ gt := (gt_2 183 (by decide +kernel) (by decide +kernel))
theorem ml_X5_292 : Cond.methodLink RX5 292 yX5_step ∈ gt := (gt_2 187 (by decide +kernel) (by decide +kernel))
theorem ml_L_115 : Cond.methodLink RL 115 yX5_still ∈ gt := (gt_2 188 (by decide +kernel) (by decide +kernel))
theorem ml_X5_175 : Cond.methodLink RX5 175 yX4_settle ∈ gt := (gt_2 192 (by decide +kernel) (by decide +kernel))
theorem ml_X4_63 : Cond.methodLink RX4 63 yX4_takeTurn ∈ gt := (gt_2 196 (by decide +kernel) (by decide +kernel))
theorem ml_X4_67 : Cond.methodLink RX4 67 yX4_wouldMove ∈ gt := (gt_2 197 (by decide +kernel) (by decide +kernel))
theorem ml_L_119 : Cond.methodLink RL 119 yX5_rest ∈ gt := (gt_2 201 (by decide +kernel) (by decide +kernel))
theorem ml_L_123 : Cond.methodLink RL 123 yX5_met ∈ gt := (gt_2 205 (by decide +kernel) (by decide +kernel))
theorem ml_X5_181 : Cond.methodLink RX5 181 yX1_contentSet ∈ gt := (gt_2 209 (by decide +kernel) (by decide +kernel))
theorem ml_X1_48 : Cond.methodLink RX1 48 yX1_isContent ∈ gt := (gt_2 213 (by decide +kernel) (by decide +kernel))
theorem ml_L_127 : Cond.methodLink RL 127 yX5_sheet ∈ gt := (gt_2 214 (by decide +kernel) (by decide +kernel))
theorem ml_X5_187 : Cond.methodLink RX5 187 yX5_isForm ∈ gt := (gt_2 218 (by decide +kernel) (by decide +kernel))
theorem ml_X5_193 : Cond.methodLink RX5 193 yX2_renew ∈ gt := (gt_2 221 (by decide +kernel) (by decide +kernel))
theorem ml_L_131 : Cond.methodLink RL 131 yX5_lose ∈ gt := (gt_2 225 (by decide +kernel) (by decide +kernel))
theorem ml_L_135 : Cond.methodLink RL 135 yX5_put ∈ gt := (gt_2 229 (by decide +kernel) (by decide +kernel))
theorem ml_X5_200 : Cond.methodLink RX5 200 yX5_refusalOfItem ∈ gt := (gt_2 233 (by decide +kernel) (by decide +kernel))
theorem ml_X5_220 : Cond.methodLink RX5 220 yX2_hasRange ∈ gt := (gt_2 237 (by decide +kernel) (by decide +kernel))
theorem ml_X5_204 : Cond.methodLink RX5 204 yX2_store ∈ gt := (gt_3 1 (by decide +kernel) (by decide +kernel))
theorem ml_L_140 : Cond.methodLink RL 140 yX5_get ∈ gt := (gt_3 5 (by decide +kernel) (by decide +kernel))
theorem ml_L_144 : Cond.methodLink RL 144 yX5_copy ∈ gt := (gt_3 10 (by decide +kernel) (by decide +kernel))
theorem ml_X5_224 : Cond.methodLink RX5 224 arraycopyName ∈ gt := (gt_3 14 (by decide +kernel) (by decide +kernel))
theorem ml_L_149 : Cond.methodLink RL 149 yX5_write ∈ gt := (gt_3 15 (by decide +kernel) (by decide +kernel))
theorem ml_X5_230 : Cond.methodLink RX5 230 Lib.Math.min.name ∈ gt := (gt_3 19 (by decide +kernel) (by decide +kernel))
theorem ml_L_153 : Cond.methodLink RL 153 yX5_count ∈ gt := (gt_3 20 (by decide +kernel) (by decide +kernel))
theorem ml_X5_235 : Cond.methodLink RX5 235 yJ6_bitCount_0f7a4 ∈ gt := (gt_3 24 (by decide +kernel) (by decide +kernel))
theorem ml_X5_238 : Cond.methodLink RX5 238 yX1_sumOfPowers ∈ gt := (gt_3 25 (by decide +kernel) (by decide +kernel))
theorem ml_X5_241 : Cond.methodLink RX5 241 yX5_out ∈ gt := (gt_3 29 (by decide +kernel) (by decide +kernel))
theorem ml_X5_244 : Cond.methodLink RX5 244 yX5_admitted ∈ gt := (gt_3 30 (by decide +kernel) (by decide +kernel))
theorem ml_L_157 : Cond.methodLink RL 157 yX5_digest ∈ gt := (gt_3 31 (by decide +kernel) (by decide +kernel))
theorem ml_X5_251 : Cond.methodLink RX5 251 yX5_count ∈ gt := (gt_3 37 (by decide +kernel) (by decide +kernel))
theorem ml_X5_254 : Cond.methodLink RX5 254 yX5_fault ∈ gt := (gt_3 38 (by decide +kernel) (by decide +kernel))
theorem ml_X5_257 : Cond.methodLink RX5 257 yX5_feasible ∈ gt := (gt_3 39 (by decide +kernel) (by decide +kernel))
theorem ml_X5_260 : Cond.methodLink RX5 260 yX5_witness ∈ gt := (gt_3 40 (by decide +kernel) (by decide +kernel))
theorem ml_X5_263 : Cond.methodLink RX5 263 yX5_softer ∈ gt := (gt_3 41 (by decide +kernel) (by decide +kernel))
theorem ml_X5_266 : Cond.methodLink RX5 266 yX5_margin ∈ gt := (gt_3 42 (by decide +kernel) (by decide +kernel))
theorem ml_X5_269 : Cond.methodLink RX5 269 yX5_met ∈ gt := (gt_3 43 (by decide +kernel) (by decide +kernel))
theorem ml_X5_272 : Cond.methodLink RX5 272 yX5_digestSender ∈ gt := (gt_3 44 (by decide +kernel) (by decide +kernel))
theorem ml_X5_279 : Cond.methodLink RX5 279 yX5_info ∈ gt := (gt_3 48 (by decide +kernel) (by decide +kernel))
theorem ml_X5_282 : Cond.methodLink RX5 282 yX5_least ∈ gt := (gt_3 49 (by decide +kernel) (by decide +kernel))
theorem ml_X5_286 : Cond.methodLink RX5 286 yX5_share ∈ gt := (gt_3 50 (by decide +kernel) (by decide +kernel))
theorem ml_X5_276 : Cond.methodLink RX5 276 yX5_minor ∈ gt := (gt_3 51 (by decide +kernel) (by decide +kernel))
theorem ml_L_12 : Cond.methodLink RL 12 yX6_init ∈ gt := (gt_3 54 (by decide +kernel) (by decide +kernel))
theorem ml_L_17 : Cond.methodLink RL 17 yX6_senders ∈ gt := (gt_3 132 (by decide +kernel) (by decide +kernel))
theorem ml_X6_75 : Cond.methodLink RX6 75 yX6_in ∈ gt := (gt_3 136 (by decide +kernel) (by decide +kernel))
theorem ml_L_22 : Cond.methodLink RL 22 yX6_gain ∈ gt := (gt_3 139 (by decide +kernel) (by decide +kernel))
theorem ml_X6_79 : Cond.methodLink RX6 79 yX6_isSender ∈ gt := (gt_3 143 (by decide +kernel) (by decide +kernel))
theorem ml_X6_83 : Cond.methodLink RX6 83 yX6_isGain ∈ gt := (gt_3 147 (by decide +kernel) (by decide +kernel))
theorem ml_L_26 : Cond.methodLink RL 26 yX6_set ∈ gt := (gt_3 150 (by decide +kernel) (by decide +kernel))
theorem ml_X6_86 : Cond.methodLink RX6 86 yX6_isSetting ∈ gt := (gt_3 154 (by decide +kernel) (by decide +kernel))
theorem ml_X6_90 : Cond.methodLink RX6 90 yX6_setting ∈ gt := (gt_3 157 (by decide +kernel) (by decide +kernel))
theorem ml_L_30 : Cond.methodLink RL 30 yX6_on ∈ gt := (gt_3 161 (by decide +kernel) (by decide +kernel))
theorem ml_X6_94 : Cond.methodLink RX6 94 yX6_onNow ∈ gt := (gt_3 165 (by decide +kernel) (by decide +kernel))
theorem ml_L_35 : Cond.methodLink RL 35 yX6_power ∈ gt := (gt_3 169 (by decide +kernel) (by decide +kernel))
theorem ml_L_39 : Cond.methodLink RL 39 yX6_rule ∈ gt := (gt_3 173 (by decide +kernel) (by decide +kernel))
theorem ml_L_43 : Cond.methodLink RL 43 yX6_type ∈ gt := (gt_3 177 (by decide +kernel) (by decide +kernel))
theorem ml_L_48 : Cond.methodLink RL 48 yX6_wipe ∈ gt := (gt_3 181 (by decide +kernel) (by decide +kernel))
theorem ml_L_52 : Cond.methodLink RL 52 yX6_fault ∈ gt := (gt_3 185 (by decide +kernel) (by decide +kernel))
theorem ml_L_56 : Cond.methodLink RL 56 yX6_read ∈ gt := (gt_3 189 (by decide +kernel) (by decide +kernel))
theorem ml_X6_104 : Cond.methodLink RX6 104 yX6_isSheet ∈ gt := (gt_3 193 (by decide +kernel) (by decide +kernel))
theorem ml_X6_107 : Cond.methodLink RX6 107 yX6_meets ∈ gt := (gt_3 196 (by decide +kernel) (by decide +kernel))
theorem ml_L_60 : Cond.methodLink RL 60 yX6_info ∈ gt := (gt_3 200 (by decide +kernel) (by decide +kernel))
theorem ml_X6_123 : Cond.methodLink RX6 123 yX6_infoOf ∈ gt := (gt_3 204 (by decide +kernel) (by decide +kernel))
theorem ml_X6_114 : Cond.methodLink RX6 114 yX6_triesNow ∈ gt := (gt_3 208 (by decide +kernel) (by decide +kernel))
theorem ml_X6_117 : Cond.methodLink RX6 117 yX6_needOf ∈ gt := (gt_3 212 (by decide +kernel) (by decide +kernel))
theorem ml_X6_111 : Cond.methodLink RX6 111 yX6_heardBy ∈ gt := (gt_3 216 (by decide +kernel) (by decide +kernel))
theorem ml_X6_120 : Cond.methodLink RX6 120 yX6_hasWish ∈ gt := (gt_3 220 (by decide +kernel) (by decide +kernel))
theorem ml_L_64 : Cond.methodLink RL 64 yX6_heard ∈ gt := (gt_3 224 (by decide +kernel) (by decide +kernel))
theorem ml_L_69 : Cond.methodLink RL 69 yX6_minor ∈ gt := (gt_3 228 (by decide +kernel) (by decide +kernel))
theorem ml_X6_141 : Cond.methodLink RX6 141 yX6_no ∈ gt := (gt_3 232 (by decide +kernel) (by decide +kernel))
theorem ml_X6_145 : Cond.methodLink RX6 145 yX6_asksAsTold ∈ gt := (gt_3 236 (by decide +kernel) (by decide +kernel))
theorem ml_X6_137 : Cond.methodLink RX6 137 yX6_lays ∈ gt := (gt_4 0 (by decide +kernel) (by decide +kernel))
theorem ml_X6_131 : Cond.methodLink RX6 131 yX6_determines ∈ gt := (gt_4 5 (by decide +kernel) (by decide +kernel))
theorem ml_X6_134 : Cond.methodLink RX6 134 yX6_bitsOf ∈ gt := (gt_4 9 (by decide +kernel) (by decide +kernel))
theorem ml_L_73 : Cond.methodLink RL 73 yX6_feasible ∈ gt := (gt_4 12 (by decide +kernel) (by decide +kernel))
theorem ml_X6_151 : Cond.methodLink RX6 151 yX6_isFeasibleNow ∈ gt := (gt_4 16 (by decide +kernel) (by decide +kernel))
theorem ml_X6_148 : Cond.methodLink RX6 148 yX6_isFeasible ∈ gt := (gt_4 20 (by decide +kernel) (by decide +kernel))
theorem ml_L_78 : Cond.methodLink RL 78 yX6_least ∈ gt := (gt_4 24 (by decide +kernel) (by decide +kernel))
theorem ml_X6_159 : Cond.methodLink RX6 159 yX6_leastOf ∈ gt := (gt_4 28 (by decide +kernel) (by decide +kernel))
theorem ml_X6_155 : Cond.methodLink RX6 155 yX6_partOf ∈ gt := (gt_4 32 (by decide +kernel) (by decide +kernel))
theorem ml_L_82 : Cond.methodLink RL 82 yX6_witness ∈ gt := (gt_4 35 (by decide +kernel) (by decide +kernel))
theorem ml_X6_163 : Cond.methodLink RX6 163 yX6_witnessNow ∈ gt := (gt_4 39 (by decide +kernel) (by decide +kernel))
theorem ml_L_86 : Cond.methodLink RL 86 yX6_out ∈ gt := (gt_4 43 (by decide +kernel) (by decide +kernel))
theorem ml_X6_166 : Cond.methodLink RX6 166 yX6_outNow ∈ gt := (gt_4 47 (by decide +kernel) (by decide +kernel))
theorem ml_L_90 : Cond.methodLink RL 90 yX6_admitted ∈ gt := (gt_4 51 (by decide +kernel) (by decide +kernel))
theorem ml_X6_169 : Cond.methodLink RX6 169 yX6_admittedNow ∈ gt := (gt_4 55 (by decide +kernel) (by decide +kernel))
theorem ml_L_94 : Cond.methodLink RL 94 yX6_softer ∈ gt := (gt_4 59 (by decide +kernel) (by decide +kernel))
theorem ml_L_98 : Cond.methodLink RL 98 yX6_margin ∈ gt := (gt_4 63 (by decide +kernel) (by decide +kernel))
theorem ml_L_102 : Cond.methodLink RL 102 yX6_share ∈ gt := (gt_4 67 (by decide +kernel) (by decide +kernel))
theorem ml_X6_172 : Cond.methodLink RX6 172 yX6_shareOf ∈ gt := (gt_4 71 (by decide +kernel) (by decide +kernel))
theorem ml_L_106 : Cond.methodLink RL 106 yX6_step ∈ gt := (gt_4 75 (by decide +kernel) (by decide +kernel))
theorem ml_X6_175 : Cond.methodLink RX6 175 yX6_stepped ∈ gt := (gt_4 79 (by decide +kernel) (by decide +kernel))
theorem ml_L_110 : Cond.methodLink RL 110 yX6_turn ∈ gt := (gt_4 83 (by decide +kernel) (by decide +kernel))
theorem ml_X6_178 : Cond.methodLink RX6 178 yX6_turns ∈ gt := (gt_4 87 (by decide +kernel) (by decide +kernel))
theorem ml_X6_181 : Cond.methodLink RX6 181 yX6_keepsTried ∈ gt := (gt_4 91 (by decide +kernel) (by decide +kernel))
theorem ml_L_114 : Cond.methodLink RL 114 yX6_order ∈ gt := (gt_4 95 (by decide +kernel) (by decide +kernel))
theorem ml_X6_184 : Cond.methodLink RX6 184 yX6_fault ∈ gt := (gt_4 99 (by decide +kernel) (by decide +kernel))
theorem ml_L_118 : Cond.methodLink RL 118 yX6_still ∈ gt := (gt_4 100 (by decide +kernel) (by decide +kernel))
theorem ml_X6_187 : Cond.methodLink RX6 187 yX6_stillNow ∈ gt := (gt_4 104 (by decide +kernel) (by decide +kernel))
theorem ml_L_122 : Cond.methodLink RL 122 yX6_rest ∈ gt := (gt_4 108 (by decide +kernel) (by decide +kernel))
theorem ml_X6_190 : Cond.methodLink RX6 190 yX6_restOf ∈ gt := (gt_4 112 (by decide +kernel) (by decide +kernel))
theorem ml_L_126 : Cond.methodLink RL 126 yX6_met ∈ gt := (gt_4 116 (by decide +kernel) (by decide +kernel))
theorem ml_X6_193 : Cond.methodLink RX6 193 yX6_metNow ∈ gt := (gt_4 120 (by decide +kernel) (by decide +kernel))
theorem ml_L_130 : Cond.methodLink RL 130 yX6_sheet ∈ gt := (gt_4 124 (by decide +kernel) (by decide +kernel))
theorem ml_L_134 : Cond.methodLink RL 134 yX6_lose ∈ gt := (gt_4 128 (by decide +kernel) (by decide +kernel))
theorem ml_L_139 : Cond.methodLink RL 139 yX6_put ∈ gt := (gt_4 132 (by decide +kernel) (by decide +kernel))
theorem ml_X6_199 : Cond.methodLink RX6 199 yX6_lacks ∈ gt := (gt_4 136 (by decide +kernel) (by decide +kernel))
theorem ml_X6_203 : Cond.methodLink RX6 203 yX6_keep ∈ gt := (gt_4 140 (by decide +kernel) (by decide +kernel))
theorem ml_L_143 : Cond.methodLink RL 143 yX6_get ∈ gt := (gt_4 144 (by decide +kernel) (by decide +kernel))
theorem ml_L_148 : Cond.methodLink RL 148 yX6_copy ∈ gt := (gt_4 149 (by decide +kernel) (by decide +kernel))
theorem ml_L_152 : Cond.methodLink RL 152 yX6_write ∈ gt := (gt_4 153 (by decide +kernel) (by decide +kernel))
theorem ml_L_156 : Cond.methodLink RL 156 yX6_count ∈ gt := (gt_4 157 (by decide +kernel) (by decide +kernel))
theorem ml_X6_208 : Cond.methodLink RX6 208 yX6_sumOn ∈ gt := (gt_4 161 (by decide +kernel) (by decide +kernel))
theorem ml_L_161 : Cond.methodLink RL 161 yX6_digest ∈ gt := (gt_4 165 (by decide +kernel) (by decide +kernel))
theorem ml_X6_221 : Cond.methodLink RX6 221 yX6_count ∈ gt := (gt_4 171 (by decide +kernel) (by decide +kernel))
theorem ml_X6_224 : Cond.methodLink RX6 224 yX6_feasible ∈ gt := (gt_4 172 (by decide +kernel) (by decide +kernel))
theorem ml_X6_227 : Cond.methodLink RX6 227 yX6_softer ∈ gt := (gt_4 173 (by decide +kernel) (by decide +kernel))
theorem ml_X6_230 : Cond.methodLink RX6 230 yX6_margin ∈ gt := (gt_4 174 (by decide +kernel) (by decide +kernel))
theorem ml_X6_233 : Cond.methodLink RX6 233 yX6_senderDigest ∈ gt := (gt_4 175 (by decide +kernel) (by decide +kernel))
theorem ml_X6_213 : Cond.methodLink RX6 213 yX6_least ∈ gt := (gt_4 179 (by decide +kernel) (by decide +kernel))
theorem ml_X6_216 : Cond.methodLink RX6 216 yX6_share ∈ gt := (gt_4 180 (by decide +kernel) (by decide +kernel))
theorem ml_X6_237 : Cond.methodLink RX6 237 yX6_minor ∈ gt := (gt_4 181 (by decide +kernel) (by decide +kernel))
theorem kl_X5_297 : Cond.constantLong RX5 297 (-9223372036854775808) ∈ gt := (gt_2 42 (by decide +kernel) (by decide +kernel))
theorem kl_X0_45 : Cond.constantLong RX0 45 (10) ∈ gt := (gt_2 54 (by decide +kernel) (by decide +kernel))
theorem kc_J6_265 : Cond.constant RJ6 265 (1431655765) ∈ gt := (gt_2 71 (by decide +kernel) (by decide +kernel))
theorem kc_J6_266 : Cond.constant RJ6 266 (858993459) ∈ gt := (gt_2 72 (by decide +kernel) (by decide +kernel))
theorem kc_J6_267 : Cond.constant RJ6 267 (252645135) ∈ gt := (gt_2 73 (by decide +kernel) (by decide +kernel))
theorem kc_X5_209 : Cond.constant RX5 209 (-2147483648) ∈ gt := (gt_3 9 (by decide +kernel) (by decide +kernel))
theorem kl_X5_247 : Cond.constantLong RX5 247 (17) ∈ gt := (gt_3 35 (by decide +kernel) (by decide +kernel))
theorem kl_X5_249 : Cond.constantLong RX5 249 (31) ∈ gt := (gt_3 36 (by decide +kernel) (by decide +kernel))
theorem kl_X6_73 : Cond.constantLong RX6 73 (-9223372036854775808) ∈ gt := (gt_3 235 (by decide +kernel) (by decide +kernel))
theorem kl_X6_129 : Cond.constantLong RX6 129 (10) ∈ gt := (gt_4 4 (by decide +kernel) (by decide +kernel))
theorem kc_X6_207 : Cond.constant RX6 207 (-2147483648) ∈ gt := (gt_4 148 (by decide +kernel) (by decide +kernel))
theorem kl_X6_219 : Cond.constantLong RX6 219 (17) ∈ gt := (gt_4 169 (by decide +kernel) (by decide +kernel))
theorem kl_X6_211 : Cond.constantLong RX6 211 (31) ∈ gt := (gt_4 170 (by decide +kernel) (by decide +kernel))
theorem kw_copy : Cond.native arraycopyName ∈ gt ∧ Cond.static arraycopyName ∈ gt ∧ Cond.initialized "java/lang/System" ∈ gt := ⟨(gt_2 178 (by decide +kernel) (by decide +kernel)), (gt_2 177 (by decide +kernel) (by decide +kernel)), kin_J10⟩
theorem kw_mmax : Cond.static Lib.Math.max.name ∈ gt ∧ Cond.initialized "java/lang/Math" ∈ gt ∧ Cond.code Lib.Math.max.name Lib.Math.max.code 2 (some .int) ∈ gt := ⟨(gt_2 52 (by decide +kernel) (by decide +kernel)), kin_J9, (gt_2 53 (by decide +kernel) (by decide +kernel))⟩
theorem kw_mmin : Cond.static Lib.Math.min.name ∈ gt ∧ Cond.initialized "java/lang/Math" ∈ gt ∧ Cond.code Lib.Math.min.name Lib.Math.min.code 2 (some .int) ∈ gt := ⟨(gt_2 160 (by decide +kernel) (by decide +kernel)), kin_J9, (gt_2 161 (by decide +kernel) (by decide +kernel))⟩
theorem kw_mmaxl : Cond.static Lib.MathLoose.max_long.x ∈ gt ∧ Cond.initialized "java/lang/Math" ∈ gt ∧ Cond.code Lib.MathLoose.max_long.x Lib.MathLoose.max_long.code 4 (some .long) ∈ gt := ⟨(gt_2 101 (by decide +kernel) (by decide +kernel)), kin_J9, (gt_2 102 (by decide +kernel) (by decide +kernel))⟩
abbrev mX0_init : MD := (yX0_init, cX0_init, 2, none)
abbrev mX0_buildAsTold : MD := (yX0_buildAsTold, cX0_buildAsTold, 1, none)
theorem ok_X0_buildAsTold : OkV mX0_buildAsTold 0 := ⟨(gt_2 46 rfl rfl), (gt_2 44 (by decide +kernel) (by decide +kernel)), (gt_2 45 (by decide +kernel) (by decide +kernel)), kin_X0, ⟨by decide +kernel, by decide +kernel, by decide +kernel⟩, by decide⟩
abbrev mX0_build : MD := (yX0_build, cX0_build, 7, none)
theorem ok_X0_build : OkV mX0_build 3 := ⟨(gt_2 50 rfl rfl), (gt_2 49 (by decide +kernel) (by decide +kernel)), (gt_S 3 (by decide +kernel) (by decide +kernel)), kin_X0, ⟨by decide +kernel, by decide +kernel, by decide +kernel⟩, by decide⟩
abbrev mX0_replaceColumnByNoise : MD := (yX0_replaceColumnByNoise, cX0_replaceColumnByNoise, 3, none)
theorem ok_X0_replaceColumnByNoise : OkV mX0_replaceColumnByNoise 1 := ⟨(gt_2 93 rfl rfl), (gt_2 91 (by decide +kernel) (by decide +kernel)), (gt_2 92 (by decide +kernel) (by decide +kernel)), kin_X0, ⟨by decide +kernel, by decide +kernel, by decide +kernel⟩, by decide⟩
abbrev mX0_minorOf : MD := (yX0_minorOf, cX0_minorOf, 2, (some .long))
theorem ok_X0_minorOf : OkV mX0_minorOf 1 := ⟨(gt_2 59 rfl rfl), (gt_2 57 (by decide +kernel) (by decide +kernel)), (gt_2 58 (by decide +kernel) (by decide +kernel)), kin_X0, ⟨by decide +kernel, by decide +kernel, by decide +kernel⟩, by decide⟩
abbrev mX0_holdFor : MD := (yX0_holdFor, cX0_holdFor, 4, (some .boolean))
theorem ok_X0_holdFor : OkV mX0_holdFor 1 := ⟨(gt_2 85 rfl rfl), (gt_2 83 (by decide +kernel) (by decide +kernel)), (gt_2 84 (by decide +kernel) (by decide +kernel)), kin_X0, ⟨by decide +kernel, by decide +kernel, by decide +kernel⟩, by decide⟩
abbrev mX0_expand : MD := (yX0_expand, cX0_expand, 4, (some .int))
theorem ok_X0_expand : OkV mX0_expand 1 := ⟨(gt_2 63 rfl rfl), (gt_2 62 (by decide +kernel) (by decide +kernel)), (gt_S 4 (by decide +kernel) (by decide +kernel)), kin_X0, ⟨by decide +kernel, by decide +kernel, by decide +kernel⟩, by decide⟩
abbrev mX0_expandRow : MD := (yX0_expandRow, cX0_expandRow, 9, (some .long))
theorem ok_X0_expandRow : OkV mX0_expandRow 3 := ⟨(gt_2 77 rfl rfl), (gt_2 76 (by decide +kernel) (by decide +kernel)), (gt_S 6 (by decide +kernel) (by decide +kernel)), kin_X0, ⟨by decide +kernel, by decide +kernel, by decide +kernel⟩, by decide⟩
abbrev mX0_listMembers : MD := (yX0_listMembers, cX0_listMembers, 4, (some .int))
theorem ok_X0_listMembers : OkV mX0_listMembers 1 := ⟨(gt_2 67 rfl rfl), (gt_2 66 (by decide +kernel) (by decide +kernel)), (gt_S 5 (by decide +kernel) (by decide +kernel)), kin_X0, ⟨by decide +kernel, by decide +kernel, by decide +kernel⟩, by decide⟩
abbrev mX0_fewestTooMany : MD := (yX0_fewestTooMany, cX0_fewestTooMany, 6, (some .int))
theorem ok_X0_fewestTooMany : OkV mX0_fewestTooMany 1 := ⟨(gt_2 110 rfl rfl), (gt_2 108 (by decide +kernel) (by decide +kernel)), (gt_2 109 (by decide +kernel) (by decide +kernel)), kin_X0, ⟨by decide +kernel, by decide +kernel, by decide +kernel⟩, by decide⟩
abbrev mX0_fewestToLeave : MD := (yX0_fewestToLeave, cX0_fewestToLeave, 5, (some .int))
theorem ok_X0_fewestToLeave : OkV mX0_fewestToLeave 1 := ⟨(gt_2 119 rfl rfl), (gt_2 117 (by decide +kernel) (by decide +kernel)), (gt_2 118 (by decide +kernel) (by decide +kernel)), kin_X0, ⟨by decide +kernel, by decide +kernel, by decide +kernel⟩, by decide⟩
abbrev mX0_comeIn : MD := (yX0_comeIn, cX0_comeIn, 5, (some .int))
theorem ok_X0_comeIn : OkV mX0_comeIn 1 := ⟨(gt_2 127 rfl rfl), (gt_2 125 (by decide +kernel) (by decide +kernel)), (gt_2 126 (by decide +kernel) (by decide +kernel)), kin_X0, ⟨by decide +kernel, by decide +kernel, by decide +kernel⟩, by decide⟩
abbrev mX0_whoseWishLess : MD := (yX0_whoseWishLess, cX0_whoseWishLess, 3, (some .int))
theorem ok_X0_whoseWishLess : OkV mX0_whoseWishLess 1 := ⟨(gt_2 135 rfl rfl), (gt_2 133 (by decide +kernel) (by decide +kernel)), (gt_2 134 (by decide +kernel) (by decide +kernel)), kin_X0, ⟨by decide +kernel, by decide +kernel, by decide +kernel⟩, by decide⟩
abbrev mX0_greatestQuarters : MD := (yX0_greatestQuarters, cX0_greatestQuarters, 3, (some .int))
theorem ok_X0_greatestQuarters : OkV mX0_greatestQuarters 1 := ⟨(gt_2 144 rfl rfl), (gt_2 142 (by decide +kernel) (by decide +kernel)), (gt_2 143 (by decide +kernel) (by decide +kernel)), kin_X0, ⟨by decide +kernel, by decide +kernel, by decide +kernel⟩, by decide⟩
abbrev mX1_init : MD := (yX1_init, cX1_init, 3, none)
abbrev mX1_mayBeGain : MD := (yX1_mayBeGain, cX1_mayBeGain, 3, (some .boolean))
theorem ok_X1_mayBeGain : OkS mX1_mayBeGain 3 := ⟨(gt_1 169 rfl rfl), (gt_1 168 (by decide +kernel) (by decide +kernel)), kin_X1, ⟨by decide +kernel, by decide +kernel, by decide +kernel⟩, by decide⟩
abbrev mX1_isThere : MD := (yX1_isThere, cX1_isThere, 2, (some .boolean))
theorem ok_X1_isThere : OkV mX1_isThere 1 := ⟨(gt_1 166 rfl rfl), (gt_1 164 (by decide +kernel) (by decide +kernel)), (gt_1 165 (by decide +kernel) (by decide +kernel)), kin_X1, ⟨by decide +kernel, by decide +kernel, by decide +kernel⟩, by decide⟩
abbrev mX1_allBits : MD := (yX1_allBits, cX1_allBits, 1, (some .int))
theorem ok_X1_allBits : OkV mX1_allBits 0 := ⟨(gt_1 196 rfl rfl), (gt_1 194 (by decide +kernel) (by decide +kernel)), (gt_1 195 (by decide +kernel) (by decide +kernel)), kin_X1, ⟨by decide +kernel, by decide +kernel, by decide +kernel⟩, by decide⟩
abbrev mX1_onSet : MD := (yX1_onSet, cX1_onSet, 1, (some .int))
theorem ok_X1_onSet : OkV mX1_onSet 0 := ⟨(gt_1 192 rfl rfl), (gt_1 190 (by decide +kernel) (by decide +kernel)), (gt_1 191 (by decide +kernel) (by decide +kernel)), kin_X1, ⟨by decide +kernel, by decide +kernel, by decide +kernel⟩, by decide⟩
abbrev mX1_isOn : MD := (yX1_isOn, cX1_isOn, 2, (some .boolean))
theorem ok_X1_isOn : OkV mX1_isOn 1 := ⟨(gt_2 15 rfl rfl), (gt_2 13 (by decide +kernel) (by decide +kernel)), (gt_2 14 (by decide +kernel) (by decide +kernel)), kin_X1, ⟨by decide +kernel, by decide +kernel, by decide +kernel⟩, by decide⟩
abbrev mX1_gainOf : MD := (yX1_gainOf, cX1_gainOf, 3, (some .int))
theorem ok_X1_gainOf : OkV mX1_gainOf 2 := ⟨(gt_1 173 rfl rfl), (gt_1 171 (by decide +kernel) (by decide +kernel)), (gt_1 172 (by decide +kernel) (by decide +kernel)), kin_X1, ⟨by decide +kernel, by decide +kernel, by decide +kernel⟩, by decide⟩
abbrev mX1_tellGain : MD := (yX1_tellGain, cX1_tellGain, 4, none)
theorem ok_X1_tellGain : OkV mX1_tellGain 3 := ⟨(gt_1 177 rfl rfl), (gt_1 175 (by decide +kernel) (by decide +kernel)), (gt_1 176 (by decide +kernel) (by decide +kernel)), kin_X1, ⟨by decide +kernel, by decide +kernel, by decide +kernel⟩, by decide⟩
abbrev mX1_othersAndNoise : MD := (yX1_othersAndNoise, cX1_othersAndNoise, 5, (some .int))
theorem ok_X1_othersAndNoise : OkV mX1_othersAndNoise 2 := ⟨(gt_2 24 rfl rfl), (gt_2 22 (by decide +kernel) (by decide +kernel)), (gt_2 23 (by decide +kernel) (by decide +kernel)), kin_X1, ⟨by decide +kernel, by decide +kernel, by decide +kernel⟩, by decide⟩
abbrev mX1_needOf : MD := (yX1_needOf, cX1_needOf, 4, (some .int))
theorem ok_X1_needOf : OkV mX1_needOf 2 := ⟨(gt_2 19 rfl rfl), (gt_2 17 (by decide +kernel) (by decide +kernel)), (gt_2 18 (by decide +kernel) (by decide +kernel)), kin_X1, ⟨by decide +kernel, by decide +kernel, by decide +kernel⟩, by decide⟩
abbrev mX1_isContent : MD := (yX1_isContent, cX1_isContent, 2, (some .boolean))
theorem ok_X1_isContent : OkV mX1_isContent 1 := ⟨(gt_2 28 rfl rfl), (gt_2 26 (by decide +kernel) (by decide +kernel)), (gt_2 27 (by decide +kernel) (by decide +kernel)), kin_X1, ⟨by decide +kernel, by decide +kernel, by decide +kernel⟩, by decide⟩
abbrev mX1_contentSet : MD := (yX1_contentSet, cX1_contentSet, 3, (some .int))
theorem ok_X1_contentSet : OkV mX1_contentSet 0 := ⟨(gt_2 212 rfl rfl), (gt_2 210 (by decide +kernel) (by decide +kernel)), (gt_2 211 (by decide +kernel) (by decide +kernel)), kin_X1, ⟨by decide +kernel, by decide +kernel, by decide +kernel⟩, by decide⟩
abbrev mX1_sumOfPowers : MD := (yX1_sumOfPowers, cX1_sumOfPowers, 3, (some .int))
theorem ok_X1_sumOfPowers : OkV mX1_sumOfPowers 0 := ⟨(gt_3 28 rfl rfl), (gt_3 26 (by decide +kernel) (by decide +kernel)), (gt_3 27 (by decide +kernel) (by decide +kernel)), kin_X1, ⟨by decide +kernel, by decide +kernel, by decide +kernel⟩, by decide⟩
abbrev mX2_init : MD := (yX2_init, cX2_init, 1, none)
abbrev mX2_isLost : MD := (yX2_isLost, cX2_isLost, 1, (some .boolean))
theorem ok_X2_isLost : OkV mX2_isLost 0 := ⟨(gt_1 239 rfl rfl), (gt_1 237 (by decide +kernel) (by decide +kernel)), (gt_1 238 (by decide +kernel) (by decide +kernel)), kin_X2, ⟨by decide +kernel, by decide +kernel, by decide +kernel⟩, by decide⟩
abbrev mX2_renew : MD := (yX2_renew, cX2_renew, 4, none)
theorem ok_X2_renew : OkV mX2_renew 2 := ⟨(gt_2 224 rfl rfl), (gt_2 222 (by decide +kernel) (by decide +kernel)), (gt_2 223 (by decide +kernel) (by decide +kernel)), kin_X2, ⟨by decide +kernel, by decide +kernel, by decide +kernel⟩, by decide⟩
abbrev mX2_hasRange : MD := (yX2_hasRange, cX2_hasRange, 3, (some .boolean))
theorem ok_X2_hasRange : OkV mX2_hasRange 2 := ⟨(gt_3 0 rfl rfl), (gt_2 238 (by decide +kernel) (by decide +kernel)), (gt_2 239 (by decide +kernel) (by decide +kernel)), kin_X2, ⟨by decide +kernel, by decide +kernel, by decide +kernel⟩, by decide⟩
abbrev mX2_store : MD := (yX2_store, cX2_store, 3, none)
theorem ok_X2_store : OkV mX2_store 2 := ⟨(gt_3 4 rfl rfl), (gt_3 2 (by decide +kernel) (by decide +kernel)), (gt_3 3 (by decide +kernel) (by decide +kernel)), kin_X2, ⟨by decide +kernel, by decide +kernel, by decide +kernel⟩, by decide⟩
abbrev mX3_init : MD := (yX3_init, cX3_init, 1, none)
abbrev mX3_append : MD := (yX3_append, cX3_append, 2, (some .boolean))
theorem ok_X3_append : OkV mX3_append 1 := ⟨(gt_1 212 rfl rfl), (gt_1 210 (by decide +kernel) (by decide +kernel)), (gt_1 211 (by decide +kernel) (by decide +kernel)), kin_X3, ⟨by decide +kernel, by decide +kernel, by decide +kernel⟩, by decide⟩
abbrev mX3_firstWrong : MD := (yX3_firstWrong, cX3_firstWrong, 4, (some .int))
theorem ok_X3_firstWrong : OkV mX3_firstWrong 1 := ⟨(gt_1 224 rfl rfl), (gt_1 222 (by decide +kernel) (by decide +kernel)), (gt_1 223 (by decide +kernel) (by decide +kernel)), kin_X3, ⟨by decide +kernel, by decide +kernel, by decide +kernel⟩, by decide⟩
abbrev mX4_init : MD := (yX4_init, cX4_init, 2, none)
abbrev mX4_stepOf : MD := (yX4_stepOf, cX4_stepOf, 3, (some .int))
theorem ok_X4_stepOf : OkV mX4_stepOf 2 := ⟨(gt_2 157 rfl rfl), (gt_2 155 (by decide +kernel) (by decide +kernel)), (gt_2 156 (by decide +kernel) (by decide +kernel)), kin_X4, ⟨by decide +kernel, by decide +kernel, by decide +kernel⟩, by decide⟩
abbrev mX4_takeTurn : MD := (yX4_takeTurn, cX4_takeTurn, 4, (some .int))
theorem ok_X4_takeTurn : OkV mX4_takeTurn 1 := ⟨(gt_2 169 rfl rfl), (gt_2 167 (by decide +kernel) (by decide +kernel)), (gt_2 168 (by decide +kernel) (by decide +kernel)), kin_X4, ⟨by decide +kernel, by decide +kernel, by decide +kernel⟩, by decide⟩
abbrev mX4_goalOf : MD := (yX4_goalOf, cX4_goalOf, 4, (some .int))
theorem ok_X4_goalOf : OkV mX4_goalOf 2 := ⟨(gt_2 173 rfl rfl), (gt_2 172 (by decide +kernel) (by decide +kernel)), (gt_S 7 (by decide +kernel) (by decide +kernel)), kin_X4, ⟨by decide +kernel, by decide +kernel, by decide +kernel⟩, by decide⟩
abbrev mX4_settle : MD := (yX4_settle, cX4_settle, 2, (some .int))
theorem ok_X4_settle : OkV mX4_settle 0 := ⟨(gt_2 195 rfl rfl), (gt_2 193 (by decide +kernel) (by decide +kernel)), (gt_2 194 (by decide +kernel) (by decide +kernel)), kin_X4, ⟨by decide +kernel, by decide +kernel, by decide +kernel⟩, by decide⟩
abbrev mX4_wouldMove : MD := (yX4_wouldMove, cX4_wouldMove, 3, (some .boolean))
theorem ok_X4_wouldMove : OkV mX4_wouldMove 1 := ⟨(gt_2 200 rfl rfl), (gt_2 199 (by decide +kernel) (by decide +kernel)), (gt_S 9 (by decide +kernel) (by decide +kernel)), kin_X4, ⟨by decide +kernel, by decide +kernel, by decide +kernel⟩, by decide⟩
abbrev mX5_init : MD := (yX5_init, cX5_init, 2, none)
abbrev mX5_senders : MD := (yX5_senders, cX5_senders, 3, (some .int))
theorem ok_X5_senders : OkV mX5_senders 1 := ⟨(gt_1 158 rfl rfl), (gt_1 156 (by decide +kernel) (by decide +kernel)), (gt_1 157 (by decide +kernel) (by decide +kernel)), kin_X5, ⟨by decide +kernel, by decide +kernel, by decide +kernel⟩, by decide⟩
abbrev mX5_gain : MD := (yX5_gain, cX5_gain, 5, (some .int))
theorem ok_X5_gain : OkV mX5_gain 3 := ⟨(gt_1 162 rfl rfl), (gt_1 160 (by decide +kernel) (by decide +kernel)), (gt_1 161 (by decide +kernel) (by decide +kernel)), kin_X5, ⟨by decide +kernel, by decide +kernel, by decide +kernel⟩, by decide⟩
abbrev mX5_set : MD := (yX5_set, cX5_set, 4, (some .int))
theorem ok_X5_set : OkV mX5_set 3 := ⟨(gt_1 181 rfl rfl), (gt_1 179 (by decide +kernel) (by decide +kernel)), (gt_1 180 (by decide +kernel) (by decide +kernel)), kin_X5, ⟨by decide +kernel, by decide +kernel, by decide +kernel⟩, by decide⟩
abbrev mX5_on : MD := (yX5_on, cX5_on, 2, (some .int))
theorem ok_X5_on : OkV mX5_on 1 := ⟨(gt_1 188 rfl rfl), (gt_1 186 (by decide +kernel) (by decide +kernel)), (gt_1 187 (by decide +kernel) (by decide +kernel)), kin_X5, ⟨by decide +kernel, by decide +kernel, by decide +kernel⟩, by decide⟩
abbrev mX5_power : MD := (yX5_power, cX5_power, 3, (some .int))
theorem ok_X5_power : OkV mX5_power 2 := ⟨(gt_1 200 rfl rfl), (gt_1 198 (by decide +kernel) (by decide +kernel)), (gt_1 199 (by decide +kernel) (by decide +kernel)), kin_X5, ⟨by decide +kernel, by decide +kernel, by decide +kernel⟩, by decide⟩
abbrev mX5_rule : MD := (yX5_rule, cX5_rule, 3, (some .int))
theorem ok_X5_rule : OkV mX5_rule 1 := ⟨(gt_1 204 rfl rfl), (gt_1 202 (by decide +kernel) (by decide +kernel)), (gt_1 203 (by decide +kernel) (by decide +kernel)), kin_X5, ⟨by decide +kernel, by decide +kernel, by decide +kernel⟩, by decide⟩
abbrev mX5_type : MD := (yX5_type, cX5_type, 2, (some .int))
theorem ok_X5_type : OkV mX5_type 1 := ⟨(gt_1 208 rfl rfl), (gt_1 206 (by decide +kernel) (by decide +kernel)), (gt_1 207 (by decide +kernel) (by decide +kernel)), kin_X5, ⟨by decide +kernel, by decide +kernel, by decide +kernel⟩, by decide⟩
abbrev mX5_wipe : MD := (yX5_wipe, cX5_wipe, 2, (some .int))
theorem ok_X5_wipe : OkV mX5_wipe 0 := ⟨(gt_1 216 rfl rfl), (gt_1 214 (by decide +kernel) (by decide +kernel)), (gt_1 215 (by decide +kernel) (by decide +kernel)), kin_X5, ⟨by decide +kernel, by decide +kernel, by decide +kernel⟩, by decide⟩
abbrev mX5_fault : MD := (yX5_fault, cX5_fault, 1, (some .int))
theorem ok_X5_fault : OkV mX5_fault 0 := ⟨(gt_1 220 rfl rfl), (gt_1 218 (by decide +kernel) (by decide +kernel)), (gt_1 219 (by decide +kernel) (by decide +kernel)), kin_X5, ⟨by decide +kernel, by decide +kernel, by decide +kernel⟩, by decide⟩
abbrev mX5_read : MD := (yX5_read, cX5_read, 3, (some .int))
theorem ok_X5_read : OkV mX5_read 1 := ⟨(gt_1 228 rfl rfl), (gt_1 226 (by decide +kernel) (by decide +kernel)), (gt_1 227 (by decide +kernel) (by decide +kernel)), kin_X5, ⟨by decide +kernel, by decide +kernel, by decide +kernel⟩, by decide⟩
abbrev mX5_info : MD := (yX5_info, cX5_info, 3, (some .int))
theorem ok_X5_info : OkV mX5_info 2 := ⟨(gt_2 11 rfl rfl), (gt_2 9 (by decide +kernel) (by decide +kernel)), (gt_2 10 (by decide +kernel) (by decide +kernel)), kin_X5, ⟨by decide +kernel, by decide +kernel, by decide +kernel⟩, by decide⟩
abbrev mX5_heard : MD := (yX5_heard, cX5_heard, 3, (some .int))
theorem ok_X5_heard : OkV mX5_heard 2 := ⟨(gt_2 33 rfl rfl), (gt_2 31 (by decide +kernel) (by decide +kernel)), (gt_2 32 (by decide +kernel) (by decide +kernel)), kin_X5, ⟨by decide +kernel, by decide +kernel, by decide +kernel⟩, by decide⟩
abbrev mX5_minor : MD := (yX5_minor, cX5_minor, 2, (some .long))
theorem ok_X5_minor : OkV mX5_minor 1 := ⟨(gt_2 37 rfl rfl), (gt_2 35 (by decide +kernel) (by decide +kernel)), (gt_2 36 (by decide +kernel) (by decide +kernel)), kin_X5, ⟨by decide +kernel, by decide +kernel, by decide +kernel⟩, by decide⟩
abbrev mX5_feasible : MD := (yX5_feasible, cX5_feasible, 1, (some .int))
theorem ok_X5_feasible : OkV mX5_feasible 0 := ⟨(gt_2 81 rfl rfl), (gt_2 79 (by decide +kernel) (by decide +kernel)), (gt_2 80 (by decide +kernel) (by decide +kernel)), kin_X5, ⟨by decide +kernel, by decide +kernel, by decide +kernel⟩, by decide⟩
abbrev mX5_least : MD := (yX5_least, cX5_least, 6, (some .long))
theorem ok_X5_least : OkV mX5_least 2 := ⟨(gt_2 89 rfl rfl), (gt_2 87 (by decide +kernel) (by decide +kernel)), (gt_2 88 (by decide +kernel) (by decide +kernel)), kin_X5, ⟨by decide +kernel, by decide +kernel, by decide +kernel⟩, by decide⟩
abbrev mX5_witness : MD := (yX5_witness, cX5_witness, 1, (some .int))
theorem ok_X5_witness : OkV mX5_witness 0 := ⟨(gt_2 106 rfl rfl), (gt_2 104 (by decide +kernel) (by decide +kernel)), (gt_2 105 (by decide +kernel) (by decide +kernel)), kin_X5, ⟨by decide +kernel, by decide +kernel, by decide +kernel⟩, by decide⟩
abbrev mX5_out : MD := (yX5_out, cX5_out, 1, (some .int))
theorem ok_X5_out : OkV mX5_out 0 := ⟨(gt_2 115 rfl rfl), (gt_2 113 (by decide +kernel) (by decide +kernel)), (gt_2 114 (by decide +kernel) (by decide +kernel)), kin_X5, ⟨by decide +kernel, by decide +kernel, by decide +kernel⟩, by decide⟩
abbrev mX5_admitted : MD := (yX5_admitted, cX5_admitted, 1, (some .int))
theorem ok_X5_admitted : OkV mX5_admitted 0 := ⟨(gt_2 123 rfl rfl), (gt_2 121 (by decide +kernel) (by decide +kernel)), (gt_2 122 (by decide +kernel) (by decide +kernel)), kin_X5, ⟨by decide +kernel, by decide +kernel, by decide +kernel⟩, by decide⟩
abbrev mX5_softer : MD := (yX5_softer, cX5_softer, 1, (some .int))
theorem ok_X5_softer : OkV mX5_softer 0 := ⟨(gt_2 131 rfl rfl), (gt_2 129 (by decide +kernel) (by decide +kernel)), (gt_2 130 (by decide +kernel) (by decide +kernel)), kin_X5, ⟨by decide +kernel, by decide +kernel, by decide +kernel⟩, by decide⟩
abbrev mX5_margin : MD := (yX5_margin, cX5_margin, 1, (some .int))
theorem ok_X5_margin : OkV mX5_margin 0 := ⟨(gt_2 140 rfl rfl), (gt_2 138 (by decide +kernel) (by decide +kernel)), (gt_2 139 (by decide +kernel) (by decide +kernel)), kin_X5, ⟨by decide +kernel, by decide +kernel, by decide +kernel⟩, by decide⟩
abbrev mX5_share : MD := (yX5_share, cX5_share, 4, (some .long))
theorem ok_X5_share : OkV mX5_share 2 := ⟨(gt_2 148 rfl rfl), (gt_2 146 (by decide +kernel) (by decide +kernel)), (gt_2 147 (by decide +kernel) (by decide +kernel)), kin_X5, ⟨by decide +kernel, by decide +kernel, by decide +kernel⟩, by decide⟩
abbrev mX5_step : MD := (yX5_step, cX5_step, 2, (some .int))
theorem ok_X5_step : OkV mX5_step 1 := ⟨(gt_2 153 rfl rfl), (gt_2 151 (by decide +kernel) (by decide +kernel)), (gt_2 152 (by decide +kernel) (by decide +kernel)), kin_X5, ⟨by decide +kernel, by decide +kernel, by decide +kernel⟩, by decide⟩
abbrev mX5_turn : MD := (yX5_turn, cX5_turn, 1, (some .int))
theorem ok_X5_turn : OkV mX5_turn 0 := ⟨(gt_2 165 rfl rfl), (gt_2 163 (by decide +kernel) (by decide +kernel)), (gt_2 164 (by decide +kernel) (by decide +kernel)), kin_X5, ⟨by decide +kernel, by decide +kernel, by decide +kernel⟩, by decide⟩
abbrev mX5_order : MD := (yX5_order, cX5_order, 1, (some .int))
theorem ok_X5_order : OkV mX5_order 0 := ⟨(gt_2 182 rfl rfl), (gt_2 180 (by decide +kernel) (by decide +kernel)), (gt_2 181 (by decide +kernel) (by decide +kernel)), kin_X5, ⟨by decide +kernel, by decide +kernel, by decide +kernel⟩, by decide⟩
abbrev mX5_still : MD := (yX5_still, cX5_still, 1, (some .int))
theorem ok_X5_still : OkV mX5_still 0 := ⟨(gt_2 191 rfl rfl), (gt_2 189 (by decide +kernel) (by decide +kernel)), (gt_2 190 (by decide +kernel) (by decide +kernel)), kin_X5, ⟨by decide +kernel, by decide +kernel, by decide +kernel⟩, by decide⟩
abbrev mX5_rest : MD := (yX5_rest, cX5_rest, 2, (some .int))
theorem ok_X5_rest : OkV mX5_rest 1 := ⟨(gt_2 204 rfl rfl), (gt_2 202 (by decide +kernel) (by decide +kernel)), (gt_2 203 (by decide +kernel) (by decide +kernel)), kin_X5, ⟨by decide +kernel, by decide +kernel, by decide +kernel⟩, by decide⟩
abbrev mX5_met : MD := (yX5_met, cX5_met, 1, (some .int))
theorem ok_X5_met : OkV mX5_met 0 := ⟨(gt_2 208 rfl rfl), (gt_2 206 (by decide +kernel) (by decide +kernel)), (gt_2 207 (by decide +kernel) (by decide +kernel)), kin_X5, ⟨by decide +kernel, by decide +kernel, by decide +kernel⟩, by decide⟩
abbrev mX5_sheet : MD := (yX5_sheet, cX5_sheet, 4, (some .int))
theorem ok_X5_sheet : OkV mX5_sheet 3 := ⟨(gt_2 217 rfl rfl), (gt_2 215 (by decide +kernel) (by decide +kernel)), (gt_2 216 (by decide +kernel) (by decide +kernel)), kin_X5, ⟨by decide +kernel, by decide +kernel, by decide +kernel⟩, by decide⟩
abbrev mX5_lose : MD := (yX5_lose, cX5_lose, 4, (some .int))
theorem ok_X5_lose : OkV mX5_lose 1 := ⟨(gt_2 228 rfl rfl), (gt_2 226 (by decide +kernel) (by decide +kernel)), (gt_2 227 (by decide +kernel) (by decide +kernel)), kin_X5, ⟨by decide +kernel, by decide +kernel, by decide +kernel⟩, by decide⟩
abbrev mX5_put : MD := (yX5_put, cX5_put, 6, (some .int))
theorem ok_X5_put : OkV mX5_put 4 := ⟨(gt_2 232 rfl rfl), (gt_2 230 (by decide +kernel) (by decide +kernel)), (gt_2 231 (by decide +kernel) (by decide +kernel)), kin_X5, ⟨by decide +kernel, by decide +kernel, by decide +kernel⟩, by decide⟩
abbrev mX5_get : MD := (yX5_get, cX5_get, 4, (some .int))
theorem ok_X5_get : OkV mX5_get 3 := ⟨(gt_3 8 rfl rfl), (gt_3 6 (by decide +kernel) (by decide +kernel)), (gt_3 7 (by decide +kernel) (by decide +kernel)), kin_X5, ⟨by decide +kernel, by decide +kernel, by decide +kernel⟩, by decide⟩
abbrev mX5_copy : MD := (yX5_copy, cX5_copy, 8, (some .int))
theorem ok_X5_copy : OkV mX5_copy 5 := ⟨(gt_3 13 rfl rfl), (gt_3 11 (by decide +kernel) (by decide +kernel)), (gt_3 12 (by decide +kernel) (by decide +kernel)), kin_X5, ⟨by decide +kernel, by decide +kernel, by decide +kernel⟩, by decide⟩
abbrev mX5_write : MD := (yX5_write, cX5_write, 5, (some .int))
theorem ok_X5_write : OkV mX5_write 1 := ⟨(gt_3 18 rfl rfl), (gt_3 16 (by decide +kernel) (by decide +kernel)), (gt_3 17 (by decide +kernel) (by decide +kernel)), kin_X5, ⟨by decide +kernel, by decide +kernel, by decide +kernel⟩, by decide⟩
abbrev mX5_count : MD := (yX5_count, cX5_count, 2, (some .int))
theorem ok_X5_count : OkV mX5_count 1 := ⟨(gt_3 23 rfl rfl), (gt_3 21 (by decide +kernel) (by decide +kernel)), (gt_3 22 (by decide +kernel) (by decide +kernel)), kin_X5, ⟨by decide +kernel, by decide +kernel, by decide +kernel⟩, by decide⟩
abbrev mX5_digest : MD := (yX5_digest, cX5_digest, 4, (some .long))
theorem ok_X5_digest : OkV mX5_digest 0 := ⟨(gt_3 34 rfl rfl), (gt_3 32 (by decide +kernel) (by decide +kernel)), (gt_3 33 (by decide +kernel) (by decide +kernel)), kin_X5, ⟨by decide +kernel, by decide +kernel, by decide +kernel⟩, by decide⟩
abbrev mX5_digestSender : MD := (yX5_digestSender, cX5_digestSender, 7, (some .long))
theorem ok_X5_digestSender : OkV mX5_digestSender 2 := ⟨(gt_3 47 rfl rfl), (gt_3 46 (by decide +kernel) (by decide +kernel)), (gt_S 11 (by decide +kernel) (by decide +kernel)), kin_X5, ⟨by decide +kernel, by decide +kernel, by decide +kernel⟩, by decide⟩
abbrev mX5_readGains : MD := (yX5_readGains, cX5_readGains, 5, (some .int))
theorem ok_X5_readGains : OkV mX5_readGains 1 := ⟨(gt_2 7 rfl rfl), (gt_2 6 (by decide +kernel) (by decide +kernel)), (gt_S 2 (by decide +kernel) (by decide +kernel)), kin_X5, ⟨by decide +kernel, by decide +kernel, by decide +kernel⟩, by decide⟩
abbrev mX5_stepsOfText : MD := (yX5_stepsOfText, cX5_stepsOfText, 5, (some .int))
theorem ok_X5_stepsOfText : OkV mX5_stepsOfText 0 := ⟨(gt_2 186 rfl rfl), (gt_2 185 (by decide +kernel) (by decide +kernel)), (gt_S 8 (by decide +kernel) (by decide +kernel)), kin_X5, ⟨by decide +kernel, by decide +kernel, by decide +kernel⟩, by decide⟩
abbrev mX5_refusalOfSheet : MD := (yX5_refusalOfSheet, cX5_refusalOfSheet, 2, (some .int))
theorem ok_X5_refusalOfSheet : OkV mX5_refusalOfSheet 1 := ⟨(gt_1 232 rfl rfl), (gt_1 231 (by decide +kernel) (by decide +kernel)), (gt_S 0 (by decide +kernel) (by decide +kernel)), kin_X5, ⟨by decide +kernel, by decide +kernel, by decide +kernel⟩, by decide⟩
abbrev mX5_refusalOfItem : MD := (yX5_refusalOfItem, cX5_refusalOfItem, 4, (some .int))
theorem ok_X5_refusalOfItem : OkV mX5_refusalOfItem 3 := ⟨(gt_2 236 rfl rfl), (gt_2 235 (by decide +kernel) (by decide +kernel)), (gt_S 10 (by decide +kernel) (by decide +kernel)), kin_X5, ⟨by decide +kernel, by decide +kernel, by decide +kernel⟩, by decide⟩
abbrev mX5_finding : MD := (yX5_finding, cX5_finding, 2, (some .int))
theorem ok_X5_finding : OkV mX5_finding 1 := ⟨(gt_2 3 rfl rfl), (gt_2 2 (by decide +kernel) (by decide +kernel)), (gt_S 1 (by decide +kernel) (by decide +kernel)), kin_X5, ⟨by decide +kernel, by decide +kernel, by decide +kernel⟩, by decide⟩
abbrev mX5_isSheet : MD := (yX5_isSheet, cX5_isSheet, 1, (some .boolean))
theorem ok_X5_isSheet : OkS mX5_isSheet 1 := ⟨(gt_1 235 rfl rfl), (gt_1 234 (by decide +kernel) (by decide +kernel)), kin_X5, ⟨by decide +kernel, by decide +kernel, by decide +kernel⟩, by decide⟩
abbrev mX5_isForm : MD := (yX5_isForm, cX5_isForm, 1, (some .boolean))
theorem ok_X5_isForm : OkS mX5_isForm 1 := ⟨(gt_2 220 rfl rfl), (gt_2 219 (by decide +kernel) (by decide +kernel)), kin_X5, ⟨by decide +kernel, by decide +kernel, by decide +kernel⟩, by decide⟩
abbrev mX5_exchange : MD := (yX5_exchange, cX5_exchange, 6, (some .int))
theorem ok_X5_exchange : OkS mX5_exchange 5 := ⟨(gt_1 184 rfl rfl), (gt_1 183 (by decide +kernel) (by decide +kernel)), kin_X5, ⟨by decide +kernel, by decide +kernel, by decide +kernel⟩, by decide⟩
abbrev mX5_asLong : MD := (yX5_asLong, cX5_asLong, 1, (some .long))
theorem ok_X5_asLong : OkS mX5_asLong 1 := ⟨(gt_2 41 rfl rfl), (gt_2 40 (by decide +kernel) (by decide +kernel)), kin_X5, ⟨by decide +kernel, by decide +kernel, by decide +kernel⟩, by decide⟩
abbrev mX5_lowestTerm : MD := (yX5_lowestTerm, cX5_lowestTerm, 7, (some .long))
theorem ok_X5_lowestTerm : OkS mX5_lowestTerm 3 := ⟨(gt_2 96 rfl rfl), (gt_2 95 (by decide +kernel) (by decide +kernel)), kin_X5, ⟨by decide +kernel, by decide +kernel, by decide +kernel⟩, by decide⟩
abbrev mX5_commonDivisor : MD := (yX5_commonDivisor, cX5_commonDivisor, 11, (some .long))
theorem ok_X5_commonDivisor : OkS mX5_commonDivisor 2 := ⟨(gt_2 99 rfl rfl), (gt_2 98 (by decide +kernel) (by decide +kernel)), kin_X5, ⟨by decide +kernel, by decide +kernel, by decide +kernel⟩, by decide⟩
abbrev mX6_init : MD := (yX6_init, cX6_init, 3, none)
abbrev mX6_in : MD := (yX6_in, cX6_in, 3, (some .boolean))
theorem ok_X6_in : OkS mX6_in 3 := ⟨(gt_3 138 rfl rfl), (gt_3 137 (by decide +kernel) (by decide +kernel)), kin_X6, ⟨by decide +kernel, by decide +kernel, by decide +kernel⟩, by decide⟩
abbrev mX6_no : MD := (yX6_no, cX6_no, 1, (some .long))
theorem ok_X6_no : OkS mX6_no 1 := ⟨(gt_3 234 rfl rfl), (gt_3 233 (by decide +kernel) (by decide +kernel)), kin_X6, ⟨by decide +kernel, by decide +kernel, by decide +kernel⟩, by decide⟩
abbrev mX6_isSender : MD := (yX6_isSender, cX6_isSender, 2, (some .boolean))
theorem ok_X6_isSender : OkV mX6_isSender 1 := ⟨(gt_3 146 rfl rfl), (gt_3 145 (by decide +kernel) (by decide +kernel)), (gt_S 12 (by decide +kernel) (by decide +kernel)), kin_X6, ⟨by decide +kernel, by decide +kernel, by decide +kernel⟩, by decide⟩
abbrev mX6_isGain : MD := (yX6_isGain, cX6_isGain, 3, (some .boolean))
theorem ok_X6_isGain : OkS mX6_isGain 3 := ⟨(gt_3 149 rfl rfl), (gt_3 148 (by decide +kernel) (by decide +kernel)), kin_X6, ⟨by decide +kernel, by decide +kernel, by decide +kernel⟩, by decide⟩
abbrev mX6_senders : MD := (yX6_senders, cX6_senders, 3, (some .int))
theorem ok_X6_senders : OkV mX6_senders 1 := ⟨(gt_3 135 rfl rfl), (gt_3 133 (by decide +kernel) (by decide +kernel)), (gt_3 134 (by decide +kernel) (by decide +kernel)), kin_X6, ⟨by decide +kernel, by decide +kernel, by decide +kernel⟩, by decide⟩
abbrev mX6_gain : MD := (yX6_gain, cX6_gain, 5, (some .int))
theorem ok_X6_gain : OkV mX6_gain 3 := ⟨(gt_3 142 rfl rfl), (gt_3 140 (by decide +kernel) (by decide +kernel)), (gt_3 141 (by decide +kernel) (by decide +kernel)), kin_X6, ⟨by decide +kernel, by decide +kernel, by decide +kernel⟩, by decide⟩
abbrev mX6_isSetting : MD := (yX6_isSetting, cX6_isSetting, 2, (some .boolean))
theorem ok_X6_isSetting : OkS mX6_isSetting 2 := ⟨(gt_3 156 rfl rfl), (gt_3 155 (by decide +kernel) (by decide +kernel)), kin_X6, ⟨by decide +kernel, by decide +kernel, by decide +kernel⟩, by decide⟩
abbrev mX6_setting : MD := (yX6_setting, cX6_setting, 3, (some .int))
theorem ok_X6_setting : OkV mX6_setting 2 := ⟨(gt_3 160 rfl rfl), (gt_3 159 (by decide +kernel) (by decide +kernel)), (gt_S 13 (by decide +kernel) (by decide +kernel)), kin_X6, ⟨by decide +kernel, by decide +kernel, by decide +kernel⟩, by decide⟩
abbrev mX6_set : MD := (yX6_set, cX6_set, 5, (some .int))
theorem ok_X6_set : OkV mX6_set 3 := ⟨(gt_3 153 rfl rfl), (gt_3 151 (by decide +kernel) (by decide +kernel)), (gt_3 152 (by decide +kernel) (by decide +kernel)), kin_X6, ⟨by decide +kernel, by decide +kernel, by decide +kernel⟩, by decide⟩
abbrev mX6_onNow : MD := (yX6_onNow, cX6_onNow, 3, (some .int))
theorem ok_X6_onNow : OkV mX6_onNow 0 := ⟨(gt_3 168 rfl rfl), (gt_3 167 (by decide +kernel) (by decide +kernel)), (gt_S 14 (by decide +kernel) (by decide +kernel)), kin_X6, ⟨by decide +kernel, by decide +kernel, by decide +kernel⟩, by decide⟩
abbrev mX6_on : MD := (yX6_on, cX6_on, 2, (some .int))
theorem ok_X6_on : OkV mX6_on 1 := ⟨(gt_3 164 rfl rfl), (gt_3 162 (by decide +kernel) (by decide +kernel)), (gt_3 163 (by decide +kernel) (by decide +kernel)), kin_X6, ⟨by decide +kernel, by decide +kernel, by decide +kernel⟩, by decide⟩
abbrev mX6_power : MD := (yX6_power, cX6_power, 4, (some .int))
theorem ok_X6_power : OkV mX6_power 2 := ⟨(gt_3 172 rfl rfl), (gt_3 170 (by decide +kernel) (by decide +kernel)), (gt_3 171 (by decide +kernel) (by decide +kernel)), kin_X6, ⟨by decide +kernel, by decide +kernel, by decide +kernel⟩, by decide⟩
abbrev mX6_rule : MD := (yX6_rule, cX6_rule, 3, (some .int))
theorem ok_X6_rule : OkV mX6_rule 1 := ⟨(gt_3 176 rfl rfl), (gt_3 174 (by decide +kernel) (by decide +kernel)), (gt_3 175 (by decide +kernel) (by decide +kernel)), kin_X6, ⟨by decide +kernel, by decide +kernel, by decide +kernel⟩, by decide⟩
abbrev mX6_type : MD := (yX6_type, cX6_type, 2, (some .int))
theorem ok_X6_type : OkV mX6_type 1 := ⟨(gt_3 180 rfl rfl), (gt_3 178 (by decide +kernel) (by decide +kernel)), (gt_3 179 (by decide +kernel) (by decide +kernel)), kin_X6, ⟨by decide +kernel, by decide +kernel, by decide +kernel⟩, by decide⟩
abbrev mX6_wipe : MD := (yX6_wipe, cX6_wipe, 2, (some .int))
theorem ok_X6_wipe : OkV mX6_wipe 0 := ⟨(gt_3 184 rfl rfl), (gt_3 182 (by decide +kernel) (by decide +kernel)), (gt_3 183 (by decide +kernel) (by decide +kernel)), kin_X6, ⟨by decide +kernel, by decide +kernel, by decide +kernel⟩, by decide⟩
abbrev mX6_fault : MD := (yX6_fault, cX6_fault, 3, (some .int))
theorem ok_X6_fault : OkV mX6_fault 0 := ⟨(gt_3 188 rfl rfl), (gt_3 186 (by decide +kernel) (by decide +kernel)), (gt_3 187 (by decide +kernel) (by decide +kernel)), kin_X6, ⟨by decide +kernel, by decide +kernel, by decide +kernel⟩, by decide⟩
abbrev mX6_read : MD := (yX6_read, cX6_read, 3, (some .int))
theorem ok_X6_read : OkV mX6_read 1 := ⟨(gt_3 192 rfl rfl), (gt_3 190 (by decide +kernel) (by decide +kernel)), (gt_3 191 (by decide +kernel) (by decide +kernel)), kin_X6, ⟨by decide +kernel, by decide +kernel, by decide +kernel⟩, by decide⟩
abbrev mX6_heardBy : MD := (yX6_heardBy, cX6_heardBy, 4, (some .int))
theorem ok_X6_heardBy : OkV mX6_heardBy 1 := ⟨(gt_3 219 rfl rfl), (gt_3 218 (by decide +kernel) (by decide +kernel)), (gt_S 19 (by decide +kernel) (by decide +kernel)), kin_X6, ⟨by decide +kernel, by decide +kernel, by decide +kernel⟩, by decide⟩
abbrev mX6_triesNow : MD := (yX6_triesNow, cX6_triesNow, 2, none)
theorem ok_X6_triesNow : OkV mX6_triesNow 0 := ⟨(gt_3 211 rfl rfl), (gt_3 210 (by decide +kernel) (by decide +kernel)), (gt_S 17 (by decide +kernel) (by decide +kernel)), kin_X6, ⟨by decide +kernel, by decide +kernel, by decide +kernel⟩, by decide⟩
abbrev mX6_needOf : MD := (yX6_needOf, cX6_needOf, 3, (some .int))
theorem ok_X6_needOf : OkV mX6_needOf 1 := ⟨(gt_3 215 rfl rfl), (gt_3 214 (by decide +kernel) (by decide +kernel)), (gt_S 18 (by decide +kernel) (by decide +kernel)), kin_X6, ⟨by decide +kernel, by decide +kernel, by decide +kernel⟩, by decide⟩
abbrev mX6_hasWish : MD := (yX6_hasWish, cX6_hasWish, 2, (some .boolean))
theorem ok_X6_hasWish : OkV mX6_hasWish 1 := ⟨(gt_3 223 rfl rfl), (gt_3 222 (by decide +kernel) (by decide +kernel)), (gt_S 20 (by decide +kernel) (by decide +kernel)), kin_X6, ⟨by decide +kernel, by decide +kernel, by decide +kernel⟩, by decide⟩
abbrev mX6_infoOf : MD := (yX6_infoOf, cX6_infoOf, 3, (some .int))
theorem ok_X6_infoOf : OkV mX6_infoOf 2 := ⟨(gt_3 207 rfl rfl), (gt_3 206 (by decide +kernel) (by decide +kernel)), (gt_S 16 (by decide +kernel) (by decide +kernel)), kin_X6, ⟨by decide +kernel, by decide +kernel, by decide +kernel⟩, by decide⟩
abbrev mX6_info : MD := (yX6_info, cX6_info, 3, (some .int))
theorem ok_X6_info : OkV mX6_info 2 := ⟨(gt_3 203 rfl rfl), (gt_3 201 (by decide +kernel) (by decide +kernel)), (gt_3 202 (by decide +kernel) (by decide +kernel)), kin_X6, ⟨by decide +kernel, by decide +kernel, by decide +kernel⟩, by decide⟩
abbrev mX6_heard : MD := (yX6_heard, cX6_heard, 3, (some .int))
theorem ok_X6_heard : OkV mX6_heard 2 := ⟨(gt_3 227 rfl rfl), (gt_3 225 (by decide +kernel) (by decide +kernel)), (gt_3 226 (by decide +kernel) (by decide +kernel)), kin_X6, ⟨by decide +kernel, by decide +kernel, by decide +kernel⟩, by decide⟩
abbrev mX6_bitsOf : MD := (yX6_bitsOf, cX6_bitsOf, 3, (some .int))
theorem ok_X6_bitsOf : OkS mX6_bitsOf 1 := ⟨(gt_4 11 rfl rfl), (gt_4 10 (by decide +kernel) (by decide +kernel)), kin_X6, ⟨by decide +kernel, by decide +kernel, by decide +kernel⟩, by decide⟩
abbrev mX6_asksAsTold : MD := (yX6_asksAsTold, cX6_asksAsTold, 2, none)
theorem ok_X6_asksAsTold : OkV mX6_asksAsTold 0 := ⟨(gt_3 239 rfl rfl), (gt_3 238 (by decide +kernel) (by decide +kernel)), (gt_S 21 (by decide +kernel) (by decide +kernel)), kin_X6, ⟨by decide +kernel, by decide +kernel, by decide +kernel⟩, by decide⟩
abbrev mX6_lays : MD := (yX6_lays, cX6_lays, 8, none)
theorem ok_X6_lays : OkV mX6_lays 2 := ⟨(gt_4 3 rfl rfl), (gt_4 2 (by decide +kernel) (by decide +kernel)), (gt_S 22 (by decide +kernel) (by decide +kernel)), kin_X6, ⟨by decide +kernel, by decide +kernel, by decide +kernel⟩, by decide⟩
abbrev mX6_determines : MD := (yX6_determines, cX6_determines, 8, none)
theorem ok_X6_determines : OkV mX6_determines 0 := ⟨(gt_4 8 rfl rfl), (gt_4 7 (by decide +kernel) (by decide +kernel)), (gt_S 23 (by decide +kernel) (by decide +kernel)), kin_X6, ⟨by decide +kernel, by decide +kernel, by decide +kernel⟩, by decide⟩
abbrev mX6_isFeasible : MD := (yX6_isFeasible, cX6_isFeasible, 4, (some .boolean))
theorem ok_X6_isFeasible : OkV mX6_isFeasible 1 := ⟨(gt_4 23 rfl rfl), (gt_4 22 (by decide +kernel) (by decide +kernel)), (gt_S 25 (by decide +kernel) (by decide +kernel)), kin_X6, ⟨by decide +kernel, by decide +kernel, by decide +kernel⟩, by decide⟩
abbrev mX6_minor : MD := (yX6_minor, cX6_minor, 2, (some .long))
theorem ok_X6_minor : OkV mX6_minor 1 := ⟨(gt_3 231 rfl rfl), (gt_3 229 (by decide +kernel) (by decide +kernel)), (gt_3 230 (by decide +kernel) (by decide +kernel)), kin_X6, ⟨by decide +kernel, by decide +kernel, by decide +kernel⟩, by decide⟩
abbrev mX6_isFeasibleNow : MD := (yX6_isFeasibleNow, cX6_isFeasibleNow, 1, (some .boolean))
theorem ok_X6_isFeasibleNow : OkV mX6_isFeasibleNow 0 := ⟨(gt_4 19 rfl rfl), (gt_4 18 (by decide +kernel) (by decide +kernel)), (gt_S 24 (by decide +kernel) (by decide +kernel)), kin_X6, ⟨by decide +kernel, by decide +kernel, by decide +kernel⟩, by decide⟩
abbrev mX6_feasible : MD := (yX6_feasible, cX6_feasible, 1, (some .int))
theorem ok_X6_feasible : OkV mX6_feasible 0 := ⟨(gt_4 15 rfl rfl), (gt_4 13 (by decide +kernel) (by decide +kernel)), (gt_4 14 (by decide +kernel) (by decide +kernel)), kin_X6, ⟨by decide +kernel, by decide +kernel, by decide +kernel⟩, by decide⟩
abbrev mX6_partOf : MD := (yX6_partOf, cX6_partOf, 11, (some .long))
theorem ok_X6_partOf : OkS mX6_partOf 3 := ⟨(gt_4 34 rfl rfl), (gt_4 33 (by decide +kernel) (by decide +kernel)), kin_X6, ⟨by decide +kernel, by decide +kernel, by decide +kernel⟩, by decide⟩
abbrev mX6_leastOf : MD := (yX6_leastOf, cX6_leastOf, 7, (some .long))
theorem ok_X6_leastOf : OkV mX6_leastOf 2 := ⟨(gt_4 31 rfl rfl), (gt_4 30 (by decide +kernel) (by decide +kernel)), (gt_S 26 (by decide +kernel) (by decide +kernel)), kin_X6, ⟨by decide +kernel, by decide +kernel, by decide +kernel⟩, by decide⟩
abbrev mX6_least : MD := (yX6_least, cX6_least, 3, (some .long))
theorem ok_X6_least : OkV mX6_least 2 := ⟨(gt_4 27 rfl rfl), (gt_4 25 (by decide +kernel) (by decide +kernel)), (gt_4 26 (by decide +kernel) (by decide +kernel)), kin_X6, ⟨by decide +kernel, by decide +kernel, by decide +kernel⟩, by decide⟩
abbrev mX6_witnessNow : MD := (yX6_witnessNow, cX6_witnessNow, 6, (some .int))
theorem ok_X6_witnessNow : OkV mX6_witnessNow 0 := ⟨(gt_4 42 rfl rfl), (gt_4 41 (by decide +kernel) (by decide +kernel)), (gt_S 27 (by decide +kernel) (by decide +kernel)), kin_X6, ⟨by decide +kernel, by decide +kernel, by decide +kernel⟩, by decide⟩
abbrev mX6_witness : MD := (yX6_witness, cX6_witness, 1, (some .int))
theorem ok_X6_witness : OkV mX6_witness 0 := ⟨(gt_4 38 rfl rfl), (gt_4 36 (by decide +kernel) (by decide +kernel)), (gt_4 37 (by decide +kernel) (by decide +kernel)), kin_X6, ⟨by decide +kernel, by decide +kernel, by decide +kernel⟩, by decide⟩
abbrev mX6_outNow : MD := (yX6_outNow, cX6_outNow, 5, (some .int))
theorem ok_X6_outNow : OkV mX6_outNow 0 := ⟨(gt_4 50 rfl rfl), (gt_4 49 (by decide +kernel) (by decide +kernel)), (gt_S 28 (by decide +kernel) (by decide +kernel)), kin_X6, ⟨by decide +kernel, by decide +kernel, by decide +kernel⟩, by decide⟩
abbrev mX6_out : MD := (yX6_out, cX6_out, 1, (some .int))
theorem ok_X6_out : OkV mX6_out 0 := ⟨(gt_4 46 rfl rfl), (gt_4 44 (by decide +kernel) (by decide +kernel)), (gt_4 45 (by decide +kernel) (by decide +kernel)), kin_X6, ⟨by decide +kernel, by decide +kernel, by decide +kernel⟩, by decide⟩
abbrev mX6_admittedNow : MD := (yX6_admittedNow, cX6_admittedNow, 3, (some .int))
theorem ok_X6_admittedNow : OkV mX6_admittedNow 0 := ⟨(gt_4 58 rfl rfl), (gt_4 57 (by decide +kernel) (by decide +kernel)), (gt_S 29 (by decide +kernel) (by decide +kernel)), kin_X6, ⟨by decide +kernel, by decide +kernel, by decide +kernel⟩, by decide⟩
abbrev mX6_admitted : MD := (yX6_admitted, cX6_admitted, 1, (some .int))
theorem ok_X6_admitted : OkV mX6_admitted 0 := ⟨(gt_4 54 rfl rfl), (gt_4 52 (by decide +kernel) (by decide +kernel)), (gt_4 53 (by decide +kernel) (by decide +kernel)), kin_X6, ⟨by decide +kernel, by decide +kernel, by decide +kernel⟩, by decide⟩
abbrev mX6_softer : MD := (yX6_softer, cX6_softer, 3, (some .int))
theorem ok_X6_softer : OkV mX6_softer 0 := ⟨(gt_4 62 rfl rfl), (gt_4 60 (by decide +kernel) (by decide +kernel)), (gt_4 61 (by decide +kernel) (by decide +kernel)), kin_X6, ⟨by decide +kernel, by decide +kernel, by decide +kernel⟩, by decide⟩
abbrev mX6_margin : MD := (yX6_margin, cX6_margin, 4, (some .int))
theorem ok_X6_margin : OkV mX6_margin 0 := ⟨(gt_4 66 rfl rfl), (gt_4 64 (by decide +kernel) (by decide +kernel)), (gt_4 65 (by decide +kernel) (by decide +kernel)), kin_X6, ⟨by decide +kernel, by decide +kernel, by decide +kernel⟩, by decide⟩
abbrev mX6_shareOf : MD := (yX6_shareOf, cX6_shareOf, 4, (some .long))
theorem ok_X6_shareOf : OkV mX6_shareOf 2 := ⟨(gt_4 74 rfl rfl), (gt_4 73 (by decide +kernel) (by decide +kernel)), (gt_S 30 (by decide +kernel) (by decide +kernel)), kin_X6, ⟨by decide +kernel, by decide +kernel, by decide +kernel⟩, by decide⟩
abbrev mX6_share : MD := (yX6_share, cX6_share, 3, (some .long))
theorem ok_X6_share : OkV mX6_share 2 := ⟨(gt_4 70 rfl rfl), (gt_4 68 (by decide +kernel) (by decide +kernel)), (gt_4 69 (by decide +kernel) (by decide +kernel)), kin_X6, ⟨by decide +kernel, by decide +kernel, by decide +kernel⟩, by decide⟩
abbrev mX6_stepped : MD := (yX6_stepped, cX6_stepped, 3, (some .int))
theorem ok_X6_stepped : OkV mX6_stepped 1 := ⟨(gt_4 82 rfl rfl), (gt_4 81 (by decide +kernel) (by decide +kernel)), (gt_S 31 (by decide +kernel) (by decide +kernel)), kin_X6, ⟨by decide +kernel, by decide +kernel, by decide +kernel⟩, by decide⟩
abbrev mX6_turns : MD := (yX6_turns, cX6_turns, 3, (some .int))
theorem ok_X6_turns : OkV mX6_turns 0 := ⟨(gt_4 90 rfl rfl), (gt_4 89 (by decide +kernel) (by decide +kernel)), (gt_S 32 (by decide +kernel) (by decide +kernel)), kin_X6, ⟨by decide +kernel, by decide +kernel, by decide +kernel⟩, by decide⟩
abbrev mX6_keepsTried : MD := (yX6_keepsTried, cX6_keepsTried, 2, none)
theorem ok_X6_keepsTried : OkV mX6_keepsTried 0 := ⟨(gt_4 94 rfl rfl), (gt_4 93 (by decide +kernel) (by decide +kernel)), (gt_S 33 (by decide +kernel) (by decide +kernel)), kin_X6, ⟨by decide +kernel, by decide +kernel, by decide +kernel⟩, by decide⟩
abbrev mX6_step : MD := (yX6_step, cX6_step, 2, (some .int))
theorem ok_X6_step : OkV mX6_step 1 := ⟨(gt_4 78 rfl rfl), (gt_4 76 (by decide +kernel) (by decide +kernel)), (gt_4 77 (by decide +kernel) (by decide +kernel)), kin_X6, ⟨by decide +kernel, by decide +kernel, by decide +kernel⟩, by decide⟩
abbrev mX6_turn : MD := (yX6_turn, cX6_turn, 2, (some .int))
theorem ok_X6_turn : OkV mX6_turn 0 := ⟨(gt_4 86 rfl rfl), (gt_4 84 (by decide +kernel) (by decide +kernel)), (gt_4 85 (by decide +kernel) (by decide +kernel)), kin_X6, ⟨by decide +kernel, by decide +kernel, by decide +kernel⟩, by decide⟩
abbrev mX6_order : MD := (yX6_order, cX6_order, 4, (some .int))
theorem ok_X6_order : OkV mX6_order 0 := ⟨(gt_4 98 rfl rfl), (gt_4 96 (by decide +kernel) (by decide +kernel)), (gt_4 97 (by decide +kernel) (by decide +kernel)), kin_X6, ⟨by decide +kernel, by decide +kernel, by decide +kernel⟩, by decide⟩
abbrev mX6_stillNow : MD := (yX6_stillNow, cX6_stillNow, 4, (some .int))
theorem ok_X6_stillNow : OkV mX6_stillNow 0 := ⟨(gt_4 107 rfl rfl), (gt_4 106 (by decide +kernel) (by decide +kernel)), (gt_S 34 (by decide +kernel) (by decide +kernel)), kin_X6, ⟨by decide +kernel, by decide +kernel, by decide +kernel⟩, by decide⟩
abbrev mX6_still : MD := (yX6_still, cX6_still, 1, (some .int))
theorem ok_X6_still : OkV mX6_still 0 := ⟨(gt_4 103 rfl rfl), (gt_4 101 (by decide +kernel) (by decide +kernel)), (gt_4 102 (by decide +kernel) (by decide +kernel)), kin_X6, ⟨by decide +kernel, by decide +kernel, by decide +kernel⟩, by decide⟩
abbrev mX6_restOf : MD := (yX6_restOf, cX6_restOf, 2, (some .int))
theorem ok_X6_restOf : OkV mX6_restOf 1 := ⟨(gt_4 115 rfl rfl), (gt_4 114 (by decide +kernel) (by decide +kernel)), (gt_S 35 (by decide +kernel) (by decide +kernel)), kin_X6, ⟨by decide +kernel, by decide +kernel, by decide +kernel⟩, by decide⟩
abbrev mX6_rest : MD := (yX6_rest, cX6_rest, 2, (some .int))
theorem ok_X6_rest : OkV mX6_rest 1 := ⟨(gt_4 111 rfl rfl), (gt_4 109 (by decide +kernel) (by decide +kernel)), (gt_4 110 (by decide +kernel) (by decide +kernel)), kin_X6, ⟨by decide +kernel, by decide +kernel, by decide +kernel⟩, by decide⟩
abbrev mX6_metNow : MD := (yX6_metNow, cX6_metNow, 3, (some .int))
theorem ok_X6_metNow : OkV mX6_metNow 0 := ⟨(gt_4 123 rfl rfl), (gt_4 122 (by decide +kernel) (by decide +kernel)), (gt_S 36 (by decide +kernel) (by decide +kernel)), kin_X6, ⟨by decide +kernel, by decide +kernel, by decide +kernel⟩, by decide⟩
abbrev mX6_met : MD := (yX6_met, cX6_met, 1, (some .int))
theorem ok_X6_met : OkV mX6_met 0 := ⟨(gt_4 119 rfl rfl), (gt_4 117 (by decide +kernel) (by decide +kernel)), (gt_4 118 (by decide +kernel) (by decide +kernel)), kin_X6, ⟨by decide +kernel, by decide +kernel, by decide +kernel⟩, by decide⟩
abbrev mX6_meets : MD := (yX6_meets, cX6_meets, 2, (some .int))
theorem ok_X6_meets : OkV mX6_meets 1 := ⟨(gt_3 199 rfl rfl), (gt_3 198 (by decide +kernel) (by decide +kernel)), (gt_S 15 (by decide +kernel) (by decide +kernel)), kin_X6, ⟨by decide +kernel, by decide +kernel, by decide +kernel⟩, by decide⟩
abbrev mX6_isSheet : MD := (yX6_isSheet, cX6_isSheet, 1, (some .boolean))
theorem ok_X6_isSheet : OkS mX6_isSheet 1 := ⟨(gt_3 195 rfl rfl), (gt_3 194 (by decide +kernel) (by decide +kernel)), kin_X6, ⟨by decide +kernel, by decide +kernel, by decide +kernel⟩, by decide⟩
abbrev mX6_sheet : MD := (yX6_sheet, cX6_sheet, 5, (some .int))
theorem ok_X6_sheet : OkV mX6_sheet 3 := ⟨(gt_4 127 rfl rfl), (gt_4 125 (by decide +kernel) (by decide +kernel)), (gt_4 126 (by decide +kernel) (by decide +kernel)), kin_X6, ⟨by decide +kernel, by decide +kernel, by decide +kernel⟩, by decide⟩
abbrev mX6_lose : MD := (yX6_lose, cX6_lose, 2, (some .int))
theorem ok_X6_lose : OkV mX6_lose 1 := ⟨(gt_4 131 rfl rfl), (gt_4 129 (by decide +kernel) (by decide +kernel)), (gt_4 130 (by decide +kernel) (by decide +kernel)), kin_X6, ⟨by decide +kernel, by decide +kernel, by decide +kernel⟩, by decide⟩
abbrev mX6_lacks : MD := (yX6_lacks, cX6_lacks, 4, (some .int))
theorem ok_X6_lacks : OkV mX6_lacks 3 := ⟨(gt_4 139 rfl rfl), (gt_4 138 (by decide +kernel) (by decide +kernel)), (gt_S 37 (by decide +kernel) (by decide +kernel)), kin_X6, ⟨by decide +kernel, by decide +kernel, by decide +kernel⟩, by decide⟩
abbrev mX6_keep : MD := (yX6_keep, cX6_keep, 4, none)
theorem ok_X6_keep : OkV mX6_keep 3 := ⟨(gt_4 143 rfl rfl), (gt_4 142 (by decide +kernel) (by decide +kernel)), (gt_S 38 (by decide +kernel) (by decide +kernel)), kin_X6, ⟨by decide +kernel, by decide +kernel, by decide +kernel⟩, by decide⟩
abbrev mX6_put : MD := (yX6_put, cX6_put, 6, (some .int))
theorem ok_X6_put : OkV mX6_put 4 := ⟨(gt_4 135 rfl rfl), (gt_4 133 (by decide +kernel) (by decide +kernel)), (gt_4 134 (by decide +kernel) (by decide +kernel)), kin_X6, ⟨by decide +kernel, by decide +kernel, by decide +kernel⟩, by decide⟩
abbrev mX6_get : MD := (yX6_get, cX6_get, 5, (some .int))
theorem ok_X6_get : OkV mX6_get 3 := ⟨(gt_4 147 rfl rfl), (gt_4 145 (by decide +kernel) (by decide +kernel)), (gt_4 146 (by decide +kernel) (by decide +kernel)), kin_X6, ⟨by decide +kernel, by decide +kernel, by decide +kernel⟩, by decide⟩
abbrev mX6_copy : MD := (yX6_copy, cX6_copy, 7, (some .int))
theorem ok_X6_copy : OkV mX6_copy 5 := ⟨(gt_4 152 rfl rfl), (gt_4 150 (by decide +kernel) (by decide +kernel)), (gt_4 151 (by decide +kernel) (by decide +kernel)), kin_X6, ⟨by decide +kernel, by decide +kernel, by decide +kernel⟩, by decide⟩
abbrev mX6_write : MD := (yX6_write, cX6_write, 3, (some .int))
theorem ok_X6_write : OkV mX6_write 1 := ⟨(gt_4 156 rfl rfl), (gt_4 154 (by decide +kernel) (by decide +kernel)), (gt_4 155 (by decide +kernel) (by decide +kernel)), kin_X6, ⟨by decide +kernel, by decide +kernel, by decide +kernel⟩, by decide⟩
abbrev mX6_sumOn : MD := (yX6_sumOn, cX6_sumOn, 3, (some .int))
theorem ok_X6_sumOn : OkV mX6_sumOn 0 := ⟨(gt_4 164 rfl rfl), (gt_4 163 (by decide +kernel) (by decide +kernel)), (gt_S 39 (by decide +kernel) (by decide +kernel)), kin_X6, ⟨by decide +kernel, by decide +kernel, by decide +kernel⟩, by decide⟩
abbrev mX6_count : MD := (yX6_count, cX6_count, 2, (some .int))
theorem ok_X6_count : OkV mX6_count 1 := ⟨(gt_4 160 rfl rfl), (gt_4 158 (by decide +kernel) (by decide +kernel)), (gt_4 159 (by decide +kernel) (by decide +kernel)), kin_X6, ⟨by decide +kernel, by decide +kernel, by decide +kernel⟩, by decide⟩
abbrev mX6_senderDigest : MD := (yX6_senderDigest, cX6_senderDigest, 7, (some .long))
theorem ok_X6_senderDigest : OkV mX6_senderDigest 2 := ⟨(gt_4 178 rfl rfl), (gt_4 177 (by decide +kernel) (by decide +kernel)), (gt_S 40 (by decide +kernel) (by decide +kernel)), kin_X6, ⟨by decide +kernel, by decide +kernel, by decide +kernel⟩, by decide⟩
abbrev mX6_digest : MD := (yX6_digest, cX6_digest, 4, (some .long))
theorem ok_X6_digest : OkV mX6_digest 0 := ⟨(gt_4 168 rfl rfl), (gt_4 166 (by decide +kernel) (by decide +kernel)), (gt_4 167 (by decide +kernel) (by decide +kernel)), kin_X6, ⟨by decide +kernel, by decide +kernel, by decide +kernel⟩, by decide⟩
abbrev mJ6_bitCount_0f7a4 : MD := (yJ6_bitCount_0f7a4, cJ6_bitCount_0f7a4, 1, (some .int))
theorem ok_J6_bitCount_0f7a4 : OkS mJ6_bitCount_0f7a4 1 := ⟨(gt_2 70 rfl rfl), (gt_2 69 (by decide +kernel) (by decide +kernel)), kin_J6, ⟨by decide +kernel, by decide +kernel, by decide +kernel⟩, by decide⟩
abbrev mL_law : MD := (x, code, 4, some .boolean)
end
section
theorem zz_probe : True := trivial
end
