section
-- ===== PART A: goes FIRST, ahead of the names: the tables' words, and 'selects' of the private methods out of them =====
/-- a private method of a class that the tables say can be made, by its rows of tables_1 -/
def lw_okq (q : MethodName × Nat) : Prop := (q.1.cls ≠ "java/lang/invoke/MethodHandle" ∧ q.1.cls ≠ "java/lang/invoke/VarHandle") ∧ Cond.instantiable q.1.cls q.2 ∈ tables_1 ∧ Cond.privateMethod q.1 ∈ tables_1 ∧ Cond.instanceMethod q.1 ∈ tables_1
theorem lw_p0 : lw_okq (⟨"TrustLedger", "isLeft", "(I)Z"⟩, 7) := ⟨⟨by decide +kernel, by decide +kernel⟩, List.mem_of_getElem? (i := 15) (by decide +kernel), List.mem_of_getElem? (i := 224) (by decide +kernel), List.mem_of_getElem? (i := 225) (by decide +kernel)⟩
theorem lw_p1 : lw_okq (⟨"TrustLedger", "isAtWork", "(I)Z"⟩, 7) := ⟨⟨by decide +kernel, by decide +kernel⟩, List.mem_of_getElem? (i := 15) (by decide +kernel), List.mem_of_getElem? (i := 258) (by decide +kernel), List.mem_of_getElem? (i := 259) (by decide +kernel)⟩
theorem lw_p2 : lw_okq (⟨"TrustLedger", "isGood", "(I)Z"⟩, 7) := ⟨⟨by decide +kernel, by decide +kernel⟩, List.mem_of_getElem? (i := 15) (by decide +kernel), List.mem_of_getElem? (i := 262) (by decide +kernel), List.mem_of_getElem? (i := 263) (by decide +kernel)⟩
theorem lw_p3 : lw_okq (⟨"TrustLedger$Agreement", "beginRound", "()V"⟩, 11) := ⟨⟨by decide +kernel, by decide +kernel⟩, List.mem_of_getElem? (i := 64) (by decide +kernel), List.mem_of_getElem? (i := 273) (by decide +kernel), List.mem_of_getElem? (i := 274) (by decide +kernel)⟩
theorem lw_p4 : lw_okq (⟨"TrustLedger$Agreement", "voteNominate", "()Z"⟩, 11) := ⟨⟨by decide +kernel, by decide +kernel⟩, List.mem_of_getElem? (i := 64) (by decide +kernel), List.mem_of_getElem? (i := 286) (by decide +kernel), List.mem_of_getElem? (i := 287) (by decide +kernel)⟩
theorem lw_p5 : lw_okq (⟨"TrustLedger$Agreement", "acceptNominate", "()Z"⟩, 11) := ⟨⟨by decide +kernel, by decide +kernel⟩, List.mem_of_getElem? (i := 64) (by decide +kernel), List.mem_of_getElem? (i := 299) (by decide +kernel), List.mem_of_getElem? (i := 300) (by decide +kernel)⟩
theorem lw_p6 : lw_okq (⟨"TrustLedger$Agreement", "confirmNominate", "()Z"⟩, 11) := ⟨⟨by decide +kernel, by decide +kernel⟩, List.mem_of_getElem? (i := 64) (by decide +kernel), List.mem_of_getElem? (i := 328) (by decide +kernel), List.mem_of_getElem? (i := 329) (by decide +kernel)⟩
theorem lw_p7 : lw_okq (⟨"TrustLedger$Agreement", "beginPrepare", "()Z"⟩, 11) := ⟨⟨by decide +kernel, by decide +kernel⟩, List.mem_of_getElem? (i := 64) (by decide +kernel), List.mem_of_getElem? (i := 336) (by decide +kernel), List.mem_of_getElem? (i := 337) (by decide +kernel)⟩
theorem lw_p8 : lw_okq (⟨"TrustLedger$Agreement", "composite", "()I"⟩, 11) := ⟨⟨by decide +kernel, by decide +kernel⟩, List.mem_of_getElem? (i := 64) (by decide +kernel), List.mem_of_getElem? (i := 340) (by decide +kernel), List.mem_of_getElem? (i := 341) (by decide +kernel)⟩
theorem lw_p9 : lw_okq (⟨"TrustLedger$Agreement", "raiseCounter", "()V"⟩, 11) := ⟨⟨by decide +kernel, by decide +kernel⟩, List.mem_of_getElem? (i := 64) (by decide +kernel), List.mem_of_getElem? (i := 344) (by decide +kernel), List.mem_of_getElem? (i := 345) (by decide +kernel)⟩
theorem lw_p10 : lw_okq (⟨"TrustLedger$Agreement", "valueToPrepare", "()I"⟩, 11) := ⟨⟨by decide +kernel, by decide +kernel⟩, List.mem_of_getElem? (i := 64) (by decide +kernel), List.mem_of_getElem? (i := 348) (by decide +kernel), List.mem_of_getElem? (i := 349) (by decide +kernel)⟩
theorem lw_p11 : lw_okq (⟨"TrustLedger$Agreement", "acceptPrepare", "()Z"⟩, 11) := ⟨⟨by decide +kernel, by decide +kernel⟩, List.mem_of_getElem? (i := 64) (by decide +kernel), List.mem_of_getElem? (i := 358) (by decide +kernel), List.mem_of_getElem? (i := 359) (by decide +kernel)⟩
theorem lw_p12 : lw_okq (⟨"TrustLedger$Agreement", "confirmPrepare", "()Z"⟩, 11) := ⟨⟨by decide +kernel, by decide +kernel⟩, List.mem_of_getElem? (i := 64) (by decide +kernel), List.mem_of_getElem? (i := 370) (by decide +kernel), List.mem_of_getElem? (i := 371) (by decide +kernel)⟩
theorem lw_p13 : lw_okq (⟨"TrustLedger$Agreement", "voteCommit", "()Z"⟩, 11) := ⟨⟨by decide +kernel, by decide +kernel⟩, List.mem_of_getElem? (i := 64) (by decide +kernel), List.mem_of_getElem? (i := 374) (by decide +kernel), List.mem_of_getElem? (i := 375) (by decide +kernel)⟩
theorem lw_p14 : lw_okq (⟨"TrustLedger$Agreement", "settleCommit", "()Z"⟩, 11) := ⟨⟨by decide +kernel, by decide +kernel⟩, List.mem_of_getElem? (i := 64) (by decide +kernel), List.mem_of_getElem? (i := 381) (by decide +kernel), List.mem_of_getElem? (i := 382) (by decide +kernel)⟩
theorem lw_p15 : lw_okq (⟨"TrustLedger", "closeSlot", "(LTrustLedger$Node;I)V"⟩, 7) := ⟨⟨by decide +kernel, by decide +kernel⟩, List.mem_of_getElem? (i := 15) (by decide +kernel), List.mem_of_getElem? (i := 385) (by decide +kernel), List.mem_of_getElem? (i := 386) (by decide +kernel)⟩
def lw_privs_1 : List (MethodName × Nat) := [(⟨"TrustLedger", "isLeft", "(I)Z"⟩, 7), (⟨"TrustLedger", "isAtWork", "(I)Z"⟩, 7), (⟨"TrustLedger", "isGood", "(I)Z"⟩, 7), (⟨"TrustLedger$Agreement", "beginRound", "()V"⟩, 11), (⟨"TrustLedger$Agreement", "voteNominate", "()Z"⟩, 11), (⟨"TrustLedger$Agreement", "acceptNominate", "()Z"⟩, 11), (⟨"TrustLedger$Agreement", "confirmNominate", "()Z"⟩, 11), (⟨"TrustLedger$Agreement", "beginPrepare", "()Z"⟩, 11), (⟨"TrustLedger$Agreement", "composite", "()I"⟩, 11), (⟨"TrustLedger$Agreement", "raiseCounter", "()V"⟩, 11), (⟨"TrustLedger$Agreement", "valueToPrepare", "()I"⟩, 11), (⟨"TrustLedger$Agreement", "acceptPrepare", "()Z"⟩, 11), (⟨"TrustLedger$Agreement", "confirmPrepare", "()Z"⟩, 11), (⟨"TrustLedger$Agreement", "voteCommit", "()Z"⟩, 11), (⟨"TrustLedger$Agreement", "settleCommit", "()Z"⟩, 11), (⟨"TrustLedger", "closeSlot", "(LTrustLedger$Node;I)V"⟩, 7)]
theorem lw_r1 : ∀ q ∈ lw_privs_1, lw_okq q := List.forall_mem_cons.mpr ⟨lw_p0, List.forall_mem_cons.mpr ⟨lw_p1, List.forall_mem_cons.mpr ⟨lw_p2, List.forall_mem_cons.mpr ⟨lw_p3, List.forall_mem_cons.mpr ⟨lw_p4, List.forall_mem_cons.mpr ⟨lw_p5, List.forall_mem_cons.mpr ⟨lw_p6, List.forall_mem_cons.mpr ⟨lw_p7, List.forall_mem_cons.mpr ⟨lw_p8, List.forall_mem_cons.mpr ⟨lw_p9, List.forall_mem_cons.mpr ⟨lw_p10, List.forall_mem_cons.mpr ⟨lw_p11, List.forall_mem_cons.mpr ⟨lw_p12, List.forall_mem_cons.mpr ⟨lw_p13, List.forall_mem_cons.mpr ⟨lw_p14, List.forall_mem_cons.mpr ⟨lw_p15, fun _ h => absurd h List.not_mem_nil⟩⟩⟩⟩⟩⟩⟩⟩⟩⟩⟩⟩⟩⟩⟩⟩
theorem lw_p16 : lw_okq (⟨"TrustLedger$Ledger", "match", "(LTrustLedger$Offer;)V"⟩, 4) := ⟨⟨by decide +kernel, by decide +kernel⟩, List.mem_of_getElem? (i := 140) (by decide +kernel), List.mem_of_getElem? (i := 419) (by decide +kernel), List.mem_of_getElem? (i := 420) (by decide +kernel)⟩
theorem lw_p17 : lw_okq (⟨"TrustLedger$Ledger", "bestFor", "(LTrustLedger$Offer;)I"⟩, 4) := ⟨⟨by decide +kernel, by decide +kernel⟩, List.mem_of_getElem? (i := 140) (by decide +kernel), List.mem_of_getElem? (i := 423) (by decide +kernel), List.mem_of_getElem? (i := 424) (by decide +kernel)⟩
theorem lw_p18 : lw_okq (⟨"TrustLedger$Ledger", "tradeWith", "(LTrustLedger$Offer;I)Z"⟩, 4) := ⟨⟨by decide +kernel, by decide +kernel⟩, List.mem_of_getElem? (i := 140) (by decide +kernel), List.mem_of_getElem? (i := 439) (by decide +kernel), List.mem_of_getElem? (i := 440) (by decide +kernel)⟩
theorem lw_p19 : lw_okq (⟨"TrustLedger$Ledger", "canServe", "(LTrustLedger$Offer;)Z"⟩, 4) := ⟨⟨by decide +kernel, by decide +kernel⟩, List.mem_of_getElem? (i := 140) (by decide +kernel), List.mem_of_getElem? (i := 447) (by decide +kernel), List.mem_of_getElem? (i := 448) (by decide +kernel)⟩
theorem lw_p20 : lw_okq (⟨"TrustLedger$Ledger", "move", "([IIII)V"⟩, 4) := ⟨⟨by decide +kernel, by decide +kernel⟩, List.mem_of_getElem? (i := 140) (by decide +kernel), List.mem_of_getElem? (i := 451) (by decide +kernel), List.mem_of_getElem? (i := 452) (by decide +kernel)⟩
theorem lw_p21 : lw_okq (⟨"TrustLedger$Ledger", "takeOut", "(I)V"⟩, 4) := ⟨⟨by decide +kernel, by decide +kernel⟩, List.mem_of_getElem? (i := 140) (by decide +kernel), List.mem_of_getElem? (i := 455) (by decide +kernel), List.mem_of_getElem? (i := 456) (by decide +kernel)⟩
theorem lw_p22 : lw_okq (⟨"TrustLedger", "keepEnvelope", "(LTrustLedger$Envelope;)I"⟩, 7) := ⟨⟨by decide +kernel, by decide +kernel⟩, List.mem_of_getElem? (i := 15) (by decide +kernel), List.mem_of_getElem? (i := 504) (by decide +kernel), List.mem_of_getElem? (i := 505) (by decide +kernel)⟩
theorem lw_p23 : lw_okq (⟨"TrustLedgerModel", "table", "()V"⟩, 32) := ⟨⟨by decide +kernel, by decide +kernel⟩, List.mem_of_getElem? (i := 561) (by decide +kernel), List.mem_of_getElem? (i := 567) (by decide +kernel), List.mem_of_getElem? (i := 568) (by decide +kernel)⟩
theorem lw_p24 : lw_okq (⟨"TrustLedgerModel", "satisfies", "(II)Z"⟩, 32) := ⟨⟨by decide +kernel, by decide +kernel⟩, List.mem_of_getElem? (i := 561) (by decide +kernel), List.mem_of_getElem? (i := 571) (by decide +kernel), List.mem_of_getElem? (i := 572) (by decide +kernel)⟩
theorem lw_p25 : lw_okq (⟨"TrustLedgerModel", "good", "(I)Z"⟩, 32) := ⟨⟨by decide +kernel, by decide +kernel⟩, List.mem_of_getElem? (i := 561) (by decide +kernel), List.mem_of_getElem? (i := 687) (by decide +kernel), List.mem_of_getElem? (i := 688) (by decide +kernel)⟩
theorem lw_p26 : lw_okq (⟨"TrustLedgerModel", "newRound", "(I)V"⟩, 32) := ⟨⟨by decide +kernel, by decide +kernel⟩, List.mem_of_getElem? (i := 561) (by decide +kernel), List.mem_of_getElem? (i := 691) (by decide +kernel), List.mem_of_getElem? (i := 692) (by decide +kernel)⟩
theorem lw_p27 : lw_okq (⟨"TrustLedgerModel", "stir", "(I)V"⟩, 32) := ⟨⟨by decide +kernel, by decide +kernel⟩, List.mem_of_getElem? (i := 561) (by decide +kernel), List.mem_of_getElem? (i := 695) (by decide +kernel), List.mem_of_getElem? (i := 696) (by decide +kernel)⟩
theorem lw_p28 : lw_okq (⟨"TrustLedgerModel", "ruleA", "(I)Z"⟩, 32) := ⟨⟨by decide +kernel, by decide +kernel⟩, List.mem_of_getElem? (i := 561) (by decide +kernel), List.mem_of_getElem? (i := 699) (by decide +kernel), List.mem_of_getElem? (i := 700) (by decide +kernel)⟩
theorem lw_p29 : lw_okq (⟨"TrustLedgerModel", "place", "(III)I"⟩, 32) := ⟨⟨by decide +kernel, by decide +kernel⟩, List.mem_of_getElem? (i := 561) (by decide +kernel), List.mem_of_getElem? (i := 703) (by decide +kernel), List.mem_of_getElem? (i := 704) (by decide +kernel)⟩
theorem lw_p30 : lw_okq (⟨"TrustLedgerModel", "nodes", "(IIIZ)I"⟩, 32) := ⟨⟨by decide +kernel, by decide +kernel⟩, List.mem_of_getElem? (i := 561) (by decide +kernel), List.mem_of_getElem? (i := 707) (by decide +kernel), List.mem_of_getElem? (i := 708) (by decide +kernel)⟩
theorem lw_p31 : lw_okq (⟨"TrustLedgerModel", "has", "(IIII)Z"⟩, 32) := ⟨⟨by decide +kernel, by decide +kernel⟩, List.mem_of_getElem? (i := 561) (by decide +kernel), List.mem_of_getElem? (i := 711) (by decide +kernel), List.mem_of_getElem? (i := 712) (by decide +kernel)⟩
def lw_privs_2 : List (MethodName × Nat) := [(⟨"TrustLedger$Ledger", "match", "(LTrustLedger$Offer;)V"⟩, 4), (⟨"TrustLedger$Ledger", "bestFor", "(LTrustLedger$Offer;)I"⟩, 4), (⟨"TrustLedger$Ledger", "tradeWith", "(LTrustLedger$Offer;I)Z"⟩, 4), (⟨"TrustLedger$Ledger", "canServe", "(LTrustLedger$Offer;)Z"⟩, 4), (⟨"TrustLedger$Ledger", "move", "([IIII)V"⟩, 4), (⟨"TrustLedger$Ledger", "takeOut", "(I)V"⟩, 4), (⟨"TrustLedger", "keepEnvelope", "(LTrustLedger$Envelope;)I"⟩, 7), (⟨"TrustLedgerModel", "table", "()V"⟩, 32), (⟨"TrustLedgerModel", "satisfies", "(II)Z"⟩, 32), (⟨"TrustLedgerModel", "good", "(I)Z"⟩, 32), (⟨"TrustLedgerModel", "newRound", "(I)V"⟩, 32), (⟨"TrustLedgerModel", "stir", "(I)V"⟩, 32), (⟨"TrustLedgerModel", "ruleA", "(I)Z"⟩, 32), (⟨"TrustLedgerModel", "place", "(III)I"⟩, 32), (⟨"TrustLedgerModel", "nodes", "(IIIZ)I"⟩, 32), (⟨"TrustLedgerModel", "has", "(IIII)Z"⟩, 32)]
theorem lw_r2 : ∀ q ∈ lw_privs_2, lw_okq q := List.forall_mem_cons.mpr ⟨lw_p16, List.forall_mem_cons.mpr ⟨lw_p17, List.forall_mem_cons.mpr ⟨lw_p18, List.forall_mem_cons.mpr ⟨lw_p19, List.forall_mem_cons.mpr ⟨lw_p20, List.forall_mem_cons.mpr ⟨lw_p21, List.forall_mem_cons.mpr ⟨lw_p22, List.forall_mem_cons.mpr ⟨lw_p23, List.forall_mem_cons.mpr ⟨lw_p24, List.forall_mem_cons.mpr ⟨lw_p25, List.forall_mem_cons.mpr ⟨lw_p26, List.forall_mem_cons.mpr ⟨lw_p27, List.forall_mem_cons.mpr ⟨lw_p28, List.forall_mem_cons.mpr ⟨lw_p29, List.forall_mem_cons.mpr ⟨lw_p30, List.forall_mem_cons.mpr ⟨lw_p31, fun _ h => absurd h List.not_mem_nil⟩⟩⟩⟩⟩⟩⟩⟩⟩⟩⟩⟩⟩⟩⟩⟩
theorem lw_p32 : lw_okq (⟨"TrustLedgerModel", "put", "(IIII)Z"⟩, 32) := ⟨⟨by decide +kernel, by decide +kernel⟩, List.mem_of_getElem? (i := 561) (by decide +kernel), List.mem_of_getElem? (i := 715) (by decide +kernel), List.mem_of_getElem? (i := 716) (by decide +kernel)⟩
theorem lw_p33 : lw_okq (⟨"TrustLedgerModel", "accept", "(IIII)Z"⟩, 32) := ⟨⟨by decide +kernel, by decide +kernel⟩, List.mem_of_getElem? (i := 561) (by decide +kernel), List.mem_of_getElem? (i := 719) (by decide +kernel), List.mem_of_getElem? (i := 720) (by decide +kernel)⟩
theorem lw_p34 : lw_okq (⟨"TrustLedgerModel", "mayAccept", "(III)Z"⟩, 32) := ⟨⟨by decide +kernel, by decide +kernel⟩, List.mem_of_getElem? (i := 561) (by decide +kernel), List.mem_of_getElem? (i := 723) (by decide +kernel), List.mem_of_getElem? (i := 724) (by decide +kernel)⟩
theorem lw_p35 : lw_okq (⟨"TrustLedgerModel", "clash", "(IIIIZ)Z"⟩, 32) := ⟨⟨by decide +kernel, by decide +kernel⟩, List.mem_of_getElem? (i := 561) (by decide +kernel), List.mem_of_getElem? (i := 727) (by decide +kernel), List.mem_of_getElem? (i := 728) (by decide +kernel)⟩
theorem lw_p36 : lw_okq (⟨"TrustLedgerModel", "gives", "(II)Z"⟩, 32) := ⟨⟨by decide +kernel, by decide +kernel⟩, List.mem_of_getElem? (i := 561) (by decide +kernel), List.mem_of_getElem? (i := 737) (by decide +kernel), List.mem_of_getElem? (i := 738) (by decide +kernel)⟩
theorem lw_p37 : lw_okq (⟨"TrustLedgerModel", "confirm", "(IIII)Z"⟩, 32) := ⟨⟨by decide +kernel, by decide +kernel⟩, List.mem_of_getElem? (i := 561) (by decide +kernel), List.mem_of_getElem? (i := 741) (by decide +kernel), List.mem_of_getElem? (i := 742) (by decide +kernel)⟩
theorem lw_p38 : lw_okq (⟨"TrustLedgerModel", "mayConfirm", "(III)Z"⟩, 32) := ⟨⟨by decide +kernel, by decide +kernel⟩, List.mem_of_getElem? (i := 561) (by decide +kernel), List.mem_of_getElem? (i := 745) (by decide +kernel), List.mem_of_getElem? (i := 746) (by decide +kernel)⟩
theorem lw_p39 : lw_okq (⟨"TrustLedgerModel", "ruleD", "(I)Z"⟩, 32) := ⟨⟨by decide +kernel, by decide +kernel⟩, List.mem_of_getElem? (i := 561) (by decide +kernel), List.mem_of_getElem? (i := 749) (by decide +kernel), List.mem_of_getElem? (i := 750) (by decide +kernel)⟩
theorem lw_p40 : lw_okq (⟨"TrustLedgerModel", "composite", "(I)I"⟩, 32) := ⟨⟨by decide +kernel, by decide +kernel⟩, List.mem_of_getElem? (i := 561) (by decide +kernel), List.mem_of_getElem? (i := 753) (by decide +kernel), List.mem_of_getElem? (i := 754) (by decide +kernel)⟩
theorem lw_p41 : lw_okq (⟨"TrustLedgerModel", "votePrepare", "(I)Z"⟩, 32) := ⟨⟨by decide +kernel, by decide +kernel⟩, List.mem_of_getElem? (i := 561) (by decide +kernel), List.mem_of_getElem? (i := 757) (by decide +kernel), List.mem_of_getElem? (i := 758) (by decide +kernel)⟩
theorem lw_p42 : lw_okq (⟨"TrustLedgerModel", "toPrepare", "(I)I"⟩, 32) := ⟨⟨by decide +kernel, by decide +kernel⟩, List.mem_of_getElem? (i := 561) (by decide +kernel), List.mem_of_getElem? (i := 761) (by decide +kernel), List.mem_of_getElem? (i := 762) (by decide +kernel)⟩
theorem lw_p43 : lw_okq (⟨"TrustLedgerModel", "ruleG", "(I)Z"⟩, 32) := ⟨⟨by decide +kernel, by decide +kernel⟩, List.mem_of_getElem? (i := 561) (by decide +kernel), List.mem_of_getElem? (i := 765) (by decide +kernel), List.mem_of_getElem? (i := 766) (by decide +kernel)⟩
theorem lw_p44 : lw_okq (⟨"TrustLedgerModel", "ruleH", "(I)I"⟩, 32) := ⟨⟨by decide +kernel, by decide +kernel⟩, List.mem_of_getElem? (i := 561) (by decide +kernel), List.mem_of_getElem? (i := 769) (by decide +kernel), List.mem_of_getElem? (i := 770) (by decide +kernel)⟩
theorem lw_p45 : lw_okq (⟨"TrustLedgerModel", "externalize", "(II)V"⟩, 32) := ⟨⟨by decide +kernel, by decide +kernel⟩, List.mem_of_getElem? (i := 561) (by decide +kernel), List.mem_of_getElem? (i := 773) (by decide +kernel), List.mem_of_getElem? (i := 774) (by decide +kernel)⟩
theorem lw_p46 : lw_okq (⟨"TrustLedgerModel", "carry", "(II)V"⟩, 32) := ⟨⟨by decide +kernel, by decide +kernel⟩, List.mem_of_getElem? (i := 561) (by decide +kernel), List.mem_of_getElem? (i := 777) (by decide +kernel), List.mem_of_getElem? (i := 778) (by decide +kernel)⟩
theorem lw_p47 : lw_okq (⟨"TrustLedgerModel", "trade", "(II)V"⟩, 32) := ⟨⟨by decide +kernel, by decide +kernel⟩, List.mem_of_getElem? (i := 561) (by decide +kernel), List.mem_of_getElem? (i := 781) (by decide +kernel), List.mem_of_getElem? (i := 782) (by decide +kernel)⟩
def lw_privs_3 : List (MethodName × Nat) := [(⟨"TrustLedgerModel", "put", "(IIII)Z"⟩, 32), (⟨"TrustLedgerModel", "accept", "(IIII)Z"⟩, 32), (⟨"TrustLedgerModel", "mayAccept", "(III)Z"⟩, 32), (⟨"TrustLedgerModel", "clash", "(IIIIZ)Z"⟩, 32), (⟨"TrustLedgerModel", "gives", "(II)Z"⟩, 32), (⟨"TrustLedgerModel", "confirm", "(IIII)Z"⟩, 32), (⟨"TrustLedgerModel", "mayConfirm", "(III)Z"⟩, 32), (⟨"TrustLedgerModel", "ruleD", "(I)Z"⟩, 32), (⟨"TrustLedgerModel", "composite", "(I)I"⟩, 32), (⟨"TrustLedgerModel", "votePrepare", "(I)Z"⟩, 32), (⟨"TrustLedgerModel", "toPrepare", "(I)I"⟩, 32), (⟨"TrustLedgerModel", "ruleG", "(I)Z"⟩, 32), (⟨"TrustLedgerModel", "ruleH", "(I)I"⟩, 32), (⟨"TrustLedgerModel", "externalize", "(II)V"⟩, 32), (⟨"TrustLedgerModel", "carry", "(II)V"⟩, 32), (⟨"TrustLedgerModel", "trade", "(II)V"⟩, 32)]
theorem lw_r3 : ∀ q ∈ lw_privs_3, lw_okq q := List.forall_mem_cons.mpr ⟨lw_p32, List.forall_mem_cons.mpr ⟨lw_p33, List.forall_mem_cons.mpr ⟨lw_p34, List.forall_mem_cons.mpr ⟨lw_p35, List.forall_mem_cons.mpr ⟨lw_p36, List.forall_mem_cons.mpr ⟨lw_p37, List.forall_mem_cons.mpr ⟨lw_p38, List.forall_mem_cons.mpr ⟨lw_p39, List.forall_mem_cons.mpr ⟨lw_p40, List.forall_mem_cons.mpr ⟨lw_p41, List.forall_mem_cons.mpr ⟨lw_p42, List.forall_mem_cons.mpr ⟨lw_p43, List.forall_mem_cons.mpr ⟨lw_p44, List.forall_mem_cons.mpr ⟨lw_p45, List.forall_mem_cons.mpr ⟨lw_p46, List.forall_mem_cons.mpr ⟨lw_p47, fun _ h => absurd h List.not_mem_nil⟩⟩⟩⟩⟩⟩⟩⟩⟩⟩⟩⟩⟩⟩⟩⟩
theorem lw_p48 : lw_okq (⟨"TrustLedgerModel", "best", "(III)I"⟩, 32) := ⟨⟨by decide +kernel, by decide +kernel⟩, List.mem_of_getElem? (i := 561) (by decide +kernel), List.mem_of_getElem? (i := 785) (by decide +kernel), List.mem_of_getElem? (i := 786) (by decide +kernel)⟩
theorem lw_p49 : lw_okq (⟨"TrustLedgerModel", "cross", "(IIII)I"⟩, 32) := ⟨⟨by decide +kernel, by decide +kernel⟩, List.mem_of_getElem? (i := 561) (by decide +kernel), List.mem_of_getElem? (i := 789) (by decide +kernel), List.mem_of_getElem? (i := 790) (by decide +kernel)⟩
theorem lw_p50 : lw_okq (⟨"TrustLedgerModel", "remove", "(II)V"⟩, 32) := ⟨⟨by decide +kernel, by decide +kernel⟩, List.mem_of_getElem? (i := 561) (by decide +kernel), List.mem_of_getElem? (i := 793) (by decide +kernel), List.mem_of_getElem? (i := 794) (by decide +kernel)⟩
theorem lw_p51 : lw_okq (⟨"TrustLedgerModel", "sealed", "(II)I"⟩, 32) := ⟨⟨by decide +kernel, by decide +kernel⟩, List.mem_of_getElem? (i := 561) (by decide +kernel), List.mem_of_getElem? (i := 805) (by decide +kernel), List.mem_of_getElem? (i := 806) (by decide +kernel)⟩
def lw_privs_4 : List (MethodName × Nat) := [(⟨"TrustLedgerModel", "best", "(III)I"⟩, 32), (⟨"TrustLedgerModel", "cross", "(IIII)I"⟩, 32), (⟨"TrustLedgerModel", "remove", "(II)V"⟩, 32), (⟨"TrustLedgerModel", "sealed", "(II)I"⟩, 32)]
theorem lw_r4 : ∀ q ∈ lw_privs_4, lw_okq q := List.forall_mem_cons.mpr ⟨lw_p48, List.forall_mem_cons.mpr ⟨lw_p49, List.forall_mem_cons.mpr ⟨lw_p50, List.forall_mem_cons.mpr ⟨lw_p51, fun _ h => absurd h List.not_mem_nil⟩⟩⟩⟩
def lw_privs : List (MethodName × Nat) := lw_privs_1 ++ (lw_privs_2 ++ (lw_privs_3 ++ (lw_privs_4)))
def lw_tbl : List Cond := k2_sels lw_privs ++ tables_1
theorem lw_privs_ok : ∀ q ∈ lw_privs, lw_okq q := by
  show ∀ q ∈ lw_privs_1 ++ (lw_privs_2 ++ (lw_privs_3 ++ (lw_privs_4))), lw_okq q
  exact List.forall_mem_append.mpr ⟨lw_r1, List.forall_mem_append.mpr ⟨lw_r2, List.forall_mem_append.mpr ⟨lw_r3, lw_r4⟩⟩⟩
end
section
/-! Names: classes, fields, methods, and a row that decodes each instruction; laid by program (wip/whole/lay.py). -/
def zR_TL : String := "TrustLedger"
def zT_TL : u_T := fun k => match k with
  | 0 => ("TrustLedger", "faulty", "I", true)
  | 1 => ("TrustLedger", "quorums", "LTrustLedger$Quorums;", true)
  | 2 => ("TrustLedger", "nodes", "[LTrustLedger$Node;", true)
  | 3 => ("TrustLedger", "transactions", "[LTrustLedger$Transaction;", true)
  | 4 => ("TrustLedger", "mail", "[LTrustLedger$Envelope;", true)
  | 5 => ("TrustLedger", "mailed", "I", false)
  | _ => ("TrustLedger", "begun", "Z", false)
def zt_TL : Nat → FieldType := fun k => match k with
  | 0 => .int
  | 1 => .object "TrustLedger$Quorums"
  | 2 => .array (.object "TrustLedger$Node")
  | 3 => .array (.object "TrustLedger$Transaction")
  | 4 => .array (.object "TrustLedger$Envelope")
  | 5 => .int
  | _ => .boolean
theorem ztn_TL : ∀ a, a < 7 → ∀ b, b < 7 → a ≠ b → (zT_TL a).2.1 ≠ (zT_TL b).2.1 := by decide +kernel
theorem zto_TL : ∀ k, k < 7 → parseFieldDescriptor (zT_TL k).2.2.1 = some (zt_TL k) := by decide +kernel
def zR_Agreement : String := "TrustLedger$Agreement"
def zT_Agreement : u_T := fun k => match k with
  | 0 => ("TrustLedger$Agreement", "self", "I", true)
  | 1 => ("TrustLedger$Agreement", "slot", "I", true)
  | 2 => ("TrustLedger$Agreement", "trusted", "LTrustLedger$Trust;", true)
  | 3 => ("TrustLedger$Agreement", "nominate", "LTrustLedger$Statements;", true)
  | 4 => ("TrustLedger$Agreement", "prepare", "LTrustLedger$Statements;", true)
  | 5 => ("TrustLedger$Agreement", "commit", "LTrustLedger$Statements;", true)
  | 6 => ("TrustLedger$Agreement", "proposal", "I", false)
  | 7 => ("TrustLedger$Agreement", "round", "I", false)
  | 8 => ("TrustLedger$Agreement", "leaders", "I", false)
  | 9 => ("TrustLedger$Agreement", "counter", "I", false)
  | _ => ("TrustLedger$Agreement", "outcome", "I", false)
def zt_Agreement : Nat → FieldType := fun k => match k with
  | 0 => .int
  | 1 => .int
  | 2 => .object "TrustLedger$Trust"
  | 3 => .object "TrustLedger$Statements"
  | 4 => .object "TrustLedger$Statements"
  | 5 => .object "TrustLedger$Statements"
  | 6 => .int
  | 7 => .int
  | 8 => .int
  | 9 => .int
  | _ => .int
theorem ztn_Agreement : ∀ a, a < 11 → ∀ b, b < 11 → a ≠ b → (zT_Agreement a).2.1 ≠ (zT_Agreement b).2.1 := by decide +kernel
theorem zto_Agreement : ∀ k, k < 11 → parseFieldDescriptor (zT_Agreement k).2.2.1 = some (zt_Agreement k) := by decide +kernel
def zR_Envelope : String := "TrustLedger$Envelope"
def zT_Envelope : u_T := fun k => match k with
  | 0 => ("TrustLedger$Envelope", "sender", "I", true)
  | 1 => ("TrustLedger$Envelope", "slot", "I", true)
  | 2 => ("TrustLedger$Envelope", "backed", "[I", true)
  | _ => ("TrustLedger$Envelope", "accepted", "[I", true)
def zt_Envelope : Nat → FieldType := fun k => match k with
  | 0 => .int
  | 1 => .int
  | 2 => .array (.int)
  | _ => .array (.int)
theorem ztn_Envelope : ∀ a, a < 4 → ∀ b, b < 4 → a ≠ b → (zT_Envelope a).2.1 ≠ (zT_Envelope b).2.1 := by decide +kernel
theorem zto_Envelope : ∀ k, k < 4 → parseFieldDescriptor (zT_Envelope k).2.2.1 = some (zt_Envelope k) := by decide +kernel
def zR_Ledger : String := "TrustLedger$Ledger"
def zT_Ledger : u_T := fun k => match k with
  | 0 => ("TrustLedger$Ledger", "coins", "[I", true)
  | 1 => ("TrustLedger$Ledger", "shares", "[I", true)
  | 2 => ("TrustLedger$Ledger", "book", "[LTrustLedger$Offer;", true)
  | _ => ("TrustLedger$Ledger", "resting", "I", false)
def zt_Ledger : Nat → FieldType := fun k => match k with
  | 0 => .array (.int)
  | 1 => .array (.int)
  | 2 => .array (.object "TrustLedger$Offer")
  | _ => .int
theorem ztn_Ledger : ∀ a, a < 4 → ∀ b, b < 4 → a ≠ b → (zT_Ledger a).2.1 ≠ (zT_Ledger b).2.1 := by decide +kernel
theorem zto_Ledger : ∀ k, k < 4 → parseFieldDescriptor (zT_Ledger k).2.2.1 = some (zt_Ledger k) := by decide +kernel
def zR_Node : String := "TrustLedger$Node"
def zT_Node : u_T := fun k => match k with
  | 0 => ("TrustLedger$Node", "agreements", "[LTrustLedger$Agreement;", true)
  | 1 => ("TrustLedger$Node", "ledger", "LTrustLedger$Ledger;", true)
  | 2 => ("TrustLedger$Node", "slot", "I", false)
  | _ => ("TrustLedger$Node", "head", "I", false)
def zt_Node : Nat → FieldType := fun k => match k with
  | 0 => .array (.object "TrustLedger$Agreement")
  | 1 => .object "TrustLedger$Ledger"
  | 2 => .int
  | _ => .int
theorem ztn_Node : ∀ a, a < 4 → ∀ b, b < 4 → a ≠ b → (zT_Node a).2.1 ≠ (zT_Node b).2.1 := by decide +kernel
theorem zto_Node : ∀ k, k < 4 → parseFieldDescriptor (zT_Node k).2.2.1 = some (zt_Node k) := by decide +kernel
def zR_Offer : String := "TrustLedger$Offer"
def zT_Offer : u_T := fun k => match k with
  | 0 => ("TrustLedger$Offer", "account", "I", true)
  | 1 => ("TrustLedger$Offer", "side", "I", true)
  | 2 => ("TrustLedger$Offer", "price", "I", true)
  | _ => ("TrustLedger$Offer", "amount", "I", false)
def zt_Offer : Nat → FieldType := fun k => match k with
  | 0 => .int
  | 1 => .int
  | 2 => .int
  | _ => .int
theorem ztn_Offer : ∀ a, a < 4 → ∀ b, b < 4 → a ≠ b → (zT_Offer a).2.1 ≠ (zT_Offer b).2.1 := by decide +kernel
theorem zto_Offer : ∀ k, k < 4 → parseFieldDescriptor (zT_Offer k).2.2.1 = some (zt_Offer k) := by decide +kernel
def zR_Quorums : String := "TrustLedger$Quorums"
def zT_Quorums : u_T := fun k => match k with
  | _ => ("TrustLedger$Quorums", "trusts", "[LTrustLedger$Trust;", true)
def zt_Quorums : Nat → FieldType := fun k => match k with
  | _ => .array (.object "TrustLedger$Trust")
theorem ztn_Quorums : ∀ a, a < 1 → ∀ b, b < 1 → a ≠ b → (zT_Quorums a).2.1 ≠ (zT_Quorums b).2.1 := by decide +kernel
theorem zto_Quorums : ∀ k, k < 1 → parseFieldDescriptor (zT_Quorums k).2.2.1 = some (zt_Quorums k) := by decide +kernel
def zR_Statements : String := "TrustLedger$Statements"
def zT_Statements : u_T := fun k => match k with
  | 0 => ("TrustLedger$Statements", "self", "I", true)
  | 1 => ("TrustLedger$Statements", "quorums", "LTrustLedger$Quorums;", true)
  | 2 => ("TrustLedger$Statements", "voted", "I", false)
  | 3 => ("TrustLedger$Statements", "confirmed", "I", false)
  | 4 => ("TrustLedger$Statements", "backed", "[I", true)
  | _ => ("TrustLedger$Statements", "accepted", "[I", true)
def zt_Statements : Nat → FieldType := fun k => match k with
  | 0 => .int
  | 1 => .object "TrustLedger$Quorums"
  | 2 => .int
  | 3 => .int
  | 4 => .array (.int)
  | _ => .array (.int)
theorem ztn_Statements : ∀ a, a < 6 → ∀ b, b < 6 → a ≠ b → (zT_Statements a).2.1 ≠ (zT_Statements b).2.1 := by decide +kernel
theorem zto_Statements : ∀ k, k < 6 → parseFieldDescriptor (zT_Statements k).2.2.1 = some (zt_Statements k) := by decide +kernel
def zR_Transaction : String := "TrustLedger$Transaction"
def zT_Transaction : u_T := fun k => match k with
  | 0 => ("TrustLedger$Transaction", "kind", "I", true)
  | 1 => ("TrustLedger$Transaction", "from", "I", true)
  | 2 => ("TrustLedger$Transaction", "what", "I", true)
  | 3 => ("TrustLedger$Transaction", "other", "I", true)
  | _ => ("TrustLedger$Transaction", "amount", "I", true)
def zt_Transaction : Nat → FieldType := fun k => match k with
  | 0 => .int
  | 1 => .int
  | 2 => .int
  | 3 => .int
  | _ => .int
theorem ztn_Transaction : ∀ a, a < 5 → ∀ b, b < 5 → a ≠ b → (zT_Transaction a).2.1 ≠ (zT_Transaction b).2.1 := by decide +kernel
theorem zto_Transaction : ∀ k, k < 5 → parseFieldDescriptor (zT_Transaction k).2.2.1 = some (zt_Transaction k) := by decide +kernel
def zR_Trust : String := "TrustLedger$Trust"
def zT_Trust : u_T := fun k => match k with
  | 0 => ("TrustLedger$Trust", "threshold", "I", false)
  | 1 => ("TrustLedger$Trust", "members", "I", false)
  | 2 => ("TrustLedger$Trust", "inner", "I", false)
  | _ => ("TrustLedger$Trust", "group", "I", false)
def zt_Trust : Nat → FieldType := fun k => match k with
  | 0 => .int
  | 1 => .int
  | 2 => .int
  | _ => .int
theorem ztn_Trust : ∀ a, a < 4 → ∀ b, b < 4 → a ≠ b → (zT_Trust a).2.1 ≠ (zT_Trust b).2.1 := by decide +kernel
theorem zto_Trust : ∀ k, k < 4 → parseFieldDescriptor (zT_Trust k).2.2.1 = some (zt_Trust k) := by decide +kernel
def zR_Mo : String := "TrustLedgerModel"
def zT_Mo : u_T := fun k => match k with
  | 0 => ("TrustLedgerModel", "faulty", "I", false)
  | 1 => ("TrustLedgerModel", "begun", "Z", false)
  | 2 => ("TrustLedgerModel", "threshold", "[I", false)
  | 3 => ("TrustLedgerModel", "members", "[I", false)
  | 4 => ("TrustLedgerModel", "inner", "[I", false)
  | 5 => ("TrustLedgerModel", "group", "[I", false)
  | 6 => ("TrustLedgerModel", "quorum", "[Z", false)
  | 7 => ("TrustLedgerModel", "slot", "[I", false)
  | 8 => ("TrustLedgerModel", "round", "[I", false)
  | 9 => ("TrustLedgerModel", "leaders", "[I", false)
  | 10 => ("TrustLedgerModel", "counter", "[I", false)
  | 11 => ("TrustLedgerModel", "proposal", "[I", false)
  | 12 => ("TrustLedgerModel", "have", "[I", false)
  | 13 => ("TrustLedgerModel", "knows", "[I", false)
  | 14 => ("TrustLedgerModel", "values", "[I", false)
  | 15 => ("TrustLedgerModel", "headers", "[I", false)
  | 16 => ("TrustLedgerModel", "envelopes", "I", false)
  | 17 => ("TrustLedgerModel", "sender", "[I", false)
  | 18 => ("TrustLedgerModel", "about", "[I", false)
  | 19 => ("TrustLedgerModel", "says", "[I", false)
  | 20 => ("TrustLedgerModel", "isSet", "[Z", false)
  | 21 => ("TrustLedgerModel", "kinds", "[I", false)
  | 22 => ("TrustLedgerModel", "payers", "[I", false)
  | 23 => ("TrustLedgerModel", "whats", "[I", false)
  | 24 => ("TrustLedgerModel", "others", "[I", false)
  | 25 => ("TrustLedgerModel", "amounts", "[I", false)
  | 26 => ("TrustLedgerModel", "balances", "[I", false)
  | 27 => ("TrustLedgerModel", "resting", "[I", false)
  | 28 => ("TrustLedgerModel", "account", "[I", false)
  | 29 => ("TrustLedgerModel", "side", "[I", false)
  | 30 => ("TrustLedgerModel", "price", "[I", false)
  | _ => ("TrustLedgerModel", "amount", "[I", false)
def zt_Mo : Nat → FieldType := fun k => match k with
  | 0 => .int
  | 1 => .boolean
  | 2 => .array (.int)
  | 3 => .array (.int)
  | 4 => .array (.int)
  | 5 => .array (.int)
  | 6 => .array (.boolean)
  | 7 => .array (.int)
  | 8 => .array (.int)
  | 9 => .array (.int)
  | 10 => .array (.int)
  | 11 => .array (.int)
  | 12 => .array (.int)
  | 13 => .array (.int)
  | 14 => .array (.int)
  | 15 => .array (.int)
  | 16 => .int
  | 17 => .array (.int)
  | 18 => .array (.int)
  | 19 => .array (.int)
  | 20 => .array (.boolean)
  | 21 => .array (.int)
  | 22 => .array (.int)
  | 23 => .array (.int)
  | 24 => .array (.int)
  | 25 => .array (.int)
  | 26 => .array (.int)
  | 27 => .array (.int)
  | 28 => .array (.int)
  | 29 => .array (.int)
  | 30 => .array (.int)
  | _ => .array (.int)
theorem ztn_Mo : ∀ a, a < 32 → ∀ b, b < 32 → a ≠ b → (zT_Mo a).2.1 ≠ (zT_Mo b).2.1 := by decide +kernel
theorem zto_Mo : ∀ k, k < 32 → parseFieldDescriptor (zT_Mo k).2.2.1 = some (zt_Mo k) := by decide +kernel
def zR_Law : String := "TrustLedgerLaw"
def zR_Int : String := "java/lang/Integer"
abbrev vwCl : List vw_C := [(zR_TL, zT_TL, 7), (zR_Agreement, zT_Agreement, 11), (zR_Envelope, zT_Envelope, 4), (zR_Ledger, zT_Ledger, 4), (zR_Node, zT_Node, 4), (zR_Offer, zT_Offer, 4), (zR_Quorums, zT_Quorums, 1), (zR_Statements, zT_Statements, 6), (zR_Transaction, zT_Transaction, 5), (zR_Trust, zT_Trust, 4), (zR_Mo, zT_Mo, 32)]
def za_tys : List FieldType := [.int, .boolean, .object "TrustLedger$Agreement", .object "TrustLedger$Envelope", .object "TrustLedger$Node", .object "TrustLedger$Offer", .object "TrustLedger$Transaction", .object "TrustLedger$Trust"]
abbrev zc_Trust_init : ByteArray := prog_10_method_1_code
def zy_Trust_init : MethodName := ⟨zR_Trust, "<init>", "()V"⟩
abbrev zc_Quorums_init : ByteArray := prog_7_method_1_code
def zy_Quorums_init : MethodName := ⟨zR_Quorums, "<init>", "()V"⟩
abbrev zc_Statements_init : ByteArray := prog_8_method_1_code
def zy_Statements_init : MethodName := ⟨zR_Statements, "<init>", "(ILTrustLedger$Quorums;)V"⟩
abbrev zc_Agreement_init : ByteArray := prog_2_method_1_code
def zy_Agreement_init : MethodName := ⟨zR_Agreement, "<init>", "(IILTrustLedger$Quorums;)V"⟩
abbrev zc_Ledger_init : ByteArray := prog_4_method_1_code
def zy_Ledger_init : MethodName := ⟨zR_Ledger, "<init>", "()V"⟩
abbrev zc_Node_init : ByteArray := prog_5_method_1_code
def zy_Node_init : MethodName := ⟨zR_Node, "<init>", "(ILTrustLedger$Quorums;)V"⟩
abbrev zc_TL_init : ByteArray := prog_1_method_1_code
def zy_TL_init : MethodName := ⟨zR_TL, "<init>", "(I)V"⟩
abbrev zc_TL_isWithin : ByteArray := prog_1_method_16_code
def zy_TL_isWithin : MethodName := ⟨zR_TL, "isWithin", "(III)Z"⟩
abbrev zc_Trust_become : ByteArray := prog_10_method_2_code
def zy_Trust_become : MethodName := ⟨zR_Trust, "become", "(IIII)V"⟩
abbrev zc_TL_trust : ByteArray := prog_1_method_2_code
def zy_TL_trust : MethodName := ⟨zR_TL, "trust", "(IIIII)Z"⟩
abbrev zc_TL_isSlot : ByteArray := prog_1_method_18_code
def zy_TL_isSlot : MethodName := ⟨zR_TL, "isSlot", "(I)Z"⟩
abbrev zc_TL_isAccount : ByteArray := prog_1_method_19_code
def zy_TL_isAccount : MethodName := ⟨zR_TL, "isAccount", "(I)Z"⟩
abbrev zc_TL_isLeft : ByteArray := prog_1_method_27_code
def zy_TL_isLeft : MethodName := ⟨zR_TL, "isLeft", "(I)Z"⟩
abbrev zc_Transaction_init : ByteArray := prog_9_method_1_code
def zy_Transaction_init : MethodName := ⟨zR_Transaction, "<init>", "(IIIII)V"⟩
abbrev zc_TL_submit : ByteArray := prog_1_method_3_code
def zy_TL_submit : MethodName := ⟨zR_TL, "submit", "(IIIIIII)Z"⟩
abbrev zc_TL_has : ByteArray := prog_1_method_17_code
def zy_TL_has : MethodName := ⟨zR_TL, "has", "(II)Z"⟩
abbrev zc_TL_isGood : ByteArray := prog_1_method_25_code
def zy_TL_isGood : MethodName := ⟨zR_TL, "isGood", "(I)Z"⟩
abbrev zc_TL_isAtWork : ByteArray := prog_1_method_26_code
def zy_TL_isAtWork : MethodName := ⟨zR_TL, "isAtWork", "(I)Z"⟩
abbrev zc_Trust_everyone : ByteArray := prog_10_method_5_code
def zy_Trust_everyone : MethodName := ⟨zR_Trust, "everyone", "()I"⟩
abbrev zc_Agreement_beginRound : ByteArray := prog_2_method_8_code
def zy_Agreement_beginRound : MethodName := ⟨zR_Agreement, "beginRound", "()V"⟩
abbrev zc_Agreement_takeProposal : ByteArray := prog_2_method_4_code
def zy_Agreement_takeProposal : MethodName := ⟨zR_Agreement, "takeProposal", "(I)V"⟩
abbrev zc_Statements_nodesWith : ByteArray := prog_8_method_5_code
def zy_Statements_nodesWith : MethodName := ⟨zR_Statements, "nodesWith", "([II)I"⟩
abbrev zc_Statements_vote : ByteArray := prog_8_method_2_code
def zy_Statements_vote : MethodName := ⟨zR_Statements, "vote", "(I)Z"⟩
abbrev zc_Agreement_voteNominate : ByteArray := prog_2_method_12_code
def zy_Agreement_voteNominate : MethodName := ⟨zR_Agreement, "voteNominate", "()Z"⟩
abbrev zc_Int_bitCount : ByteArray := prog_13_method_49_code
def zy_Int_bitCount : MethodName := ⟨zR_Int, "bitCount", "(I)I"⟩
abbrev zc_Trust_isSatisfiedBy : ByteArray := prog_10_method_3_code
def zy_Trust_isSatisfiedBy : MethodName := ⟨zR_Trust, "isSatisfiedBy", "(I)Z"⟩
abbrev zc_Quorums_isGivenTo : ByteArray := prog_7_method_2_code
def zy_Quorums_isGivenTo : MethodName := ⟨zR_Quorums, "isGivenTo", "(II)Z"⟩
abbrev zc_Trust_isBlockedBy : ByteArray := prog_10_method_4_code
def zy_Trust_isBlockedBy : MethodName := ⟨zR_Trust, "isBlockedBy", "(I)Z"⟩
abbrev zc_Statements_acceptIfMay : ByteArray := prog_8_method_3_code
def zy_Statements_acceptIfMay : MethodName := ⟨zR_Statements, "acceptIfMay", "(I)Z"⟩
abbrev zc_Agreement_acceptNominate : ByteArray := prog_2_method_13_code
def zy_Agreement_acceptNominate : MethodName := ⟨zR_Agreement, "acceptNominate", "()Z"⟩
abbrev zc_Statements_confirmIfMay : ByteArray := prog_8_method_4_code
def zy_Statements_confirmIfMay : MethodName := ⟨zR_Statements, "confirmIfMay", "(I)Z"⟩
abbrev zc_Agreement_confirmNominate : ByteArray := prog_2_method_14_code
def zy_Agreement_confirmNominate : MethodName := ⟨zR_Agreement, "confirmNominate", "()Z"⟩
abbrev zc_Agreement_composite : ByteArray := prog_2_method_10_code
def zy_Agreement_composite : MethodName := ⟨zR_Agreement, "composite", "()I"⟩
abbrev zc_TL_valueOf : ByteArray := prog_1_method_20_code
def zy_TL_valueOf : MethodName := ⟨zR_TL, "valueOf", "(I)I"⟩
abbrev zc_Agreement_valueToPrepare : ByteArray := prog_2_method_11_code
def zy_Agreement_valueToPrepare : MethodName := ⟨zR_Agreement, "valueToPrepare", "()I"⟩
abbrev zc_TL_ballotOf : ByteArray := prog_1_method_21_code
def zy_TL_ballotOf : MethodName := ⟨zR_TL, "ballotOf", "(II)I"⟩
abbrev zc_Agreement_raiseCounter : ByteArray := prog_2_method_9_code
def zy_Agreement_raiseCounter : MethodName := ⟨zR_Agreement, "raiseCounter", "()V"⟩
abbrev zc_Agreement_beginPrepare : ByteArray := prog_2_method_15_code
def zy_Agreement_beginPrepare : MethodName := ⟨zR_Agreement, "beginPrepare", "()Z"⟩
abbrev zc_TL_otherValued : ByteArray := prog_1_method_22_code
def zy_TL_otherValued : MethodName := ⟨zR_TL, "otherValued", "(I)I"⟩
abbrev zc_TL_abortedBy : ByteArray := prog_1_method_23_code
def zy_TL_abortedBy : MethodName := ⟨zR_TL, "abortedBy", "(I)I"⟩
abbrev zc_Agreement_acceptPrepare : ByteArray := prog_2_method_16_code
def zy_Agreement_acceptPrepare : MethodName := ⟨zR_Agreement, "acceptPrepare", "()Z"⟩
abbrev zc_Agreement_confirmPrepare : ByteArray := prog_2_method_17_code
def zy_Agreement_confirmPrepare : MethodName := ⟨zR_Agreement, "confirmPrepare", "()Z"⟩
abbrev zc_TL_abortersOf : ByteArray := prog_1_method_24_code
def zy_TL_abortersOf : MethodName := ⟨zR_TL, "abortersOf", "(I)I"⟩
abbrev zc_Agreement_voteCommit : ByteArray := prog_2_method_18_code
def zy_Agreement_voteCommit : MethodName := ⟨zR_Agreement, "voteCommit", "()Z"⟩
abbrev zc_Agreement_settleCommit : ByteArray := prog_2_method_19_code
def zy_Agreement_settleCommit : MethodName := ⟨zR_Agreement, "settleCommit", "()Z"⟩
abbrev zc_Agreement_stir : ByteArray := prog_2_method_7_code
def zy_Agreement_stir : MethodName := ⟨zR_Agreement, "stir", "()V"⟩
abbrev zc_Offer_init : ByteArray := prog_6_method_1_code
def zy_Offer_init : MethodName := ⟨zR_Offer, "<init>", "(IIII)V"⟩
abbrev zc_Offer_sells : ByteArray := prog_6_method_2_code
def zy_Offer_sells : MethodName := ⟨zR_Offer, "sells", "()Z"⟩
abbrev zc_Offer_agreesTo : ByteArray := prog_6_method_3_code
def zy_Offer_agreesTo : MethodName := ⟨zR_Offer, "agreesTo", "(I)Z"⟩
abbrev zc_Offer_prefers : ByteArray := prog_6_method_4_code
def zy_Offer_prefers : MethodName := ⟨zR_Offer, "prefers", "(II)Z"⟩
abbrev zc_Ledger_bestFor : ByteArray := prog_4_method_6_code
def zy_Ledger_bestFor : MethodName := ⟨zR_Ledger, "bestFor", "(LTrustLedger$Offer;)I"⟩
abbrev zc_Ledger_canServe : ByteArray := prog_4_method_8_code
def zy_Ledger_canServe : MethodName := ⟨zR_Ledger, "canServe", "(LTrustLedger$Offer;)Z"⟩
abbrev zc_Ledger_move : ByteArray := prog_4_method_4_code
def zy_Ledger_move : MethodName := ⟨zR_Ledger, "move", "([IIII)V"⟩
abbrev zc_Ledger_takeOut : ByteArray := prog_4_method_9_code
def zy_Ledger_takeOut : MethodName := ⟨zR_Ledger, "takeOut", "(I)V"⟩
abbrev zc_Ledger_tradeWith : ByteArray := prog_4_method_7_code
def zy_Ledger_tradeWith : MethodName := ⟨zR_Ledger, "tradeWith", "(LTrustLedger$Offer;I)Z"⟩
abbrev zc_Ledger_match : ByteArray := prog_4_method_5_code
def zy_Ledger_match : MethodName := ⟨zR_Ledger, "match", "(LTrustLedger$Offer;)V"⟩
abbrev zc_Ledger_holdings : ByteArray := prog_4_method_2_code
def zy_Ledger_holdings : MethodName := ⟨zR_Ledger, "holdings", "(I)[I"⟩
abbrev zc_Ledger_carryOut : ByteArray := prog_4_method_3_code
def zy_Ledger_carryOut : MethodName := ⟨zR_Ledger, "carryOut", "(LTrustLedger$Transaction;)V"⟩
abbrev zc_TL_closeSlot : ByteArray := prog_1_method_29_code
def zy_TL_closeSlot : MethodName := ⟨zR_TL, "closeSlot", "(LTrustLedger$Node;I)V"⟩
abbrev zc_TL_propose : ByteArray := prog_1_method_4_code
def zy_TL_propose : MethodName := ⟨zR_TL, "propose", "(II)Z"⟩
abbrev zc_Agreement_runOutOfTime : ByteArray := prog_2_method_5_code
def zy_Agreement_runOutOfTime : MethodName := ⟨zR_Agreement, "runOutOfTime", "()V"⟩
abbrev zc_TL_timeout : ByteArray := prog_1_method_5_code
def zy_TL_timeout : MethodName := ⟨zR_TL, "timeout", "(I)Z"⟩
abbrev zc_Envelope_init : ByteArray := prog_3_method_1_code
def zy_Envelope_init : MethodName := ⟨zR_Envelope, "<init>", "(II)V"⟩
abbrev zc_Agreement_ofKind : ByteArray := prog_2_method_2_code
def zy_Agreement_ofKind : MethodName := ⟨zR_Agreement, "ofKind", "(I)LTrustLedger$Statements;"⟩
abbrev zc_TL_keepEnvelope : ByteArray := prog_1_method_28_code
def zy_TL_keepEnvelope : MethodName := ⟨zR_TL, "keepEnvelope", "(LTrustLedger$Envelope;)I"⟩
abbrev zc_TL_post : ByteArray := prog_1_method_6_code
def zy_TL_post : MethodName := ⟨zR_TL, "post", "(II)I"⟩
abbrev zc_Envelope_claim : ByteArray := prog_3_method_2_code
def zy_Envelope_claim : MethodName := ⟨zR_Envelope, "claim", "(II)V"⟩
abbrev zc_TL_forge : ByteArray := prog_1_method_7_code
def zy_TL_forge : MethodName := ⟨zR_TL, "forge", "(IIIII)I"⟩
abbrev zc_Agreement_learn : ByteArray := prog_2_method_6_code
def zy_Agreement_learn : MethodName := ⟨zR_Agreement, "learn", "(LTrustLedger$Envelope;)V"⟩
abbrev zc_TL_deliver : ByteArray := prog_1_method_8_code
def zy_TL_deliver : MethodName := ⟨zR_TL, "deliver", "(II)Z"⟩
abbrev zc_TL_envelopes : ByteArray := prog_1_method_9_code
def zy_TL_envelopes : MethodName := ⟨zR_TL, "envelopes", "()I"⟩
abbrev zc_Agreement_aspect : ByteArray := prog_2_method_3_code
def zy_Agreement_aspect : MethodName := ⟨zR_Agreement, "aspect", "(I)I"⟩
abbrev zc_TL_state : ByteArray := prog_1_method_10_code
def zy_TL_state : MethodName := ⟨zR_TL, "state", "(II)I"⟩
abbrev zc_TL_statements : ByteArray := prog_1_method_11_code
def zy_TL_statements : MethodName := ⟨zR_TL, "statements", "(IIII)I"⟩
abbrev zc_TL_value : ByteArray := prog_1_method_12_code
def zy_TL_value : MethodName := ⟨zR_TL, "value", "(II)I"⟩
abbrev zc_TL_header : ByteArray := prog_1_method_13_code
def zy_TL_header : MethodName := ⟨zR_TL, "header", "(I)I"⟩
abbrev zc_TL_balance : ByteArray := prog_1_method_14_code
def zy_TL_balance : MethodName := ⟨zR_TL, "balance", "(III)I"⟩
abbrev zc_TL_offer : ByteArray := prog_1_method_15_code
def zy_TL_offer : MethodName := ⟨zR_TL, "offer", "(II)I"⟩
abbrev zc_Mo_many : ByteArray := prog_12_method_4_code
def zy_Mo_many : MethodName := ⟨zR_Mo, "many", "(I)I"⟩
abbrev zc_Mo_satisfies : ByteArray := prog_12_method_5_code
def zy_Mo_satisfies : MethodName := ⟨zR_Mo, "satisfies", "(II)Z"⟩
abbrev zc_Mo_table : ByteArray := prog_12_method_6_code
def zy_Mo_table : MethodName := ⟨zR_Mo, "table", "()V"⟩
abbrev zc_Mo_init : ByteArray := prog_12_method_1_code
def zy_Mo_init : MethodName := ⟨zR_Mo, "<init>", "(I)V"⟩
abbrev zc_Mo_in : ByteArray := prog_12_method_2_code
def zy_Mo_in : MethodName := ⟨zR_Mo, "in", "(III)Z"⟩
abbrev zc_Mo_good : ByteArray := prog_12_method_3_code
def zy_Mo_good : MethodName := ⟨zR_Mo, "good", "(I)Z"⟩
abbrev zc_Mo_gives : ByteArray := prog_12_method_7_code
def zy_Mo_gives : MethodName := ⟨zR_Mo, "gives", "(II)Z"⟩
abbrev zc_Mo_trust : ByteArray := prog_12_method_8_code
def zy_Mo_trust : MethodName := ⟨zR_Mo, "trust", "(IIIII)Z"⟩
abbrev zc_Mo_place : ByteArray := prog_12_method_9_code
def zy_Mo_place : MethodName := ⟨zR_Mo, "place", "(III)I"⟩
abbrev zc_Mo_has : ByteArray := prog_12_method_10_code
def zy_Mo_has : MethodName := ⟨zR_Mo, "has", "(IIII)Z"⟩
abbrev zc_Mo_put : ByteArray := prog_12_method_11_code
def zy_Mo_put : MethodName := ⟨zR_Mo, "put", "(IIII)Z"⟩
abbrev zc_Mo_nodes : ByteArray := prog_12_method_12_code
def zy_Mo_nodes : MethodName := ⟨zR_Mo, "nodes", "(IIIZ)I"⟩
abbrev zc_Mo_worth : ByteArray := prog_12_method_13_code
def zy_Mo_worth : MethodName := ⟨zR_Mo, "worth", "(I)I"⟩
abbrev zc_Mo_aborts : ByteArray := prog_12_method_14_code
def zy_Mo_aborts : MethodName := ⟨zR_Mo, "aborts", "(II)Z"⟩
abbrev zc_Mo_clash : ByteArray := prog_12_method_15_code
def zy_Mo_clash : MethodName := ⟨zR_Mo, "clash", "(IIIIZ)Z"⟩
abbrev zc_Mo_mayAccept : ByteArray := prog_12_method_16_code
def zy_Mo_mayAccept : MethodName := ⟨zR_Mo, "mayAccept", "(III)Z"⟩
abbrev zc_Mo_mayConfirm : ByteArray := prog_12_method_17_code
def zy_Mo_mayConfirm : MethodName := ⟨zR_Mo, "mayConfirm", "(III)Z"⟩
abbrev zc_Mo_composite : ByteArray := prog_12_method_18_code
def zy_Mo_composite : MethodName := ⟨zR_Mo, "composite", "(I)I"⟩
abbrev zc_Mo_toPrepare : ByteArray := prog_12_method_19_code
def zy_Mo_toPrepare : MethodName := ⟨zR_Mo, "toPrepare", "(I)I"⟩
abbrev zc_Mo_votePrepare : ByteArray := prog_12_method_20_code
def zy_Mo_votePrepare : MethodName := ⟨zR_Mo, "votePrepare", "(I)Z"⟩
abbrev zc_Mo_ruleA : ByteArray := prog_12_method_21_code
def zy_Mo_ruleA : MethodName := ⟨zR_Mo, "ruleA", "(I)Z"⟩
abbrev zc_Mo_accept : ByteArray := prog_12_method_22_code
def zy_Mo_accept : MethodName := ⟨zR_Mo, "accept", "(IIII)Z"⟩
abbrev zc_Mo_confirm : ByteArray := prog_12_method_23_code
def zy_Mo_confirm : MethodName := ⟨zR_Mo, "confirm", "(IIII)Z"⟩
abbrev zc_Mo_ruleD : ByteArray := prog_12_method_24_code
def zy_Mo_ruleD : MethodName := ⟨zR_Mo, "ruleD", "(I)Z"⟩
abbrev zc_Mo_ruleG : ByteArray := prog_12_method_25_code
def zy_Mo_ruleG : MethodName := ⟨zR_Mo, "ruleG", "(I)Z"⟩
abbrev zc_Mo_best : ByteArray := prog_12_method_39_code
def zy_Mo_best : MethodName := ⟨zR_Mo, "best", "(III)I"⟩
abbrev zc_Mo_cross : ByteArray := prog_12_method_42_code
def zy_Mo_cross : MethodName := ⟨zR_Mo, "cross", "(IIII)I"⟩
abbrev zc_Mo_remove : ByteArray := prog_12_method_40_code
def zy_Mo_remove : MethodName := ⟨zR_Mo, "remove", "(II)V"⟩
abbrev zc_Mo_trade : ByteArray := prog_12_method_41_code
def zy_Mo_trade : MethodName := ⟨zR_Mo, "trade", "(II)V"⟩
abbrev zc_Mo_carry : ByteArray := prog_12_method_38_code
def zy_Mo_carry : MethodName := ⟨zR_Mo, "carry", "(II)V"⟩
abbrev zc_Mo_externalize : ByteArray := prog_12_method_28_code
def zy_Mo_externalize : MethodName := ⟨zR_Mo, "externalize", "(II)V"⟩
abbrev zc_Mo_ruleH : ByteArray := prog_12_method_26_code
def zy_Mo_ruleH : MethodName := ⟨zR_Mo, "ruleH", "(I)I"⟩
abbrev zc_Mo_stir : ByteArray := prog_12_method_27_code
def zy_Mo_stir : MethodName := ⟨zR_Mo, "stir", "(I)V"⟩
abbrev zc_Mo_newRound : ByteArray := prog_12_method_29_code
def zy_Mo_newRound : MethodName := ⟨zR_Mo, "newRound", "(I)V"⟩
abbrev zc_Mo_propose : ByteArray := prog_12_method_30_code
def zy_Mo_propose : MethodName := ⟨zR_Mo, "propose", "(II)Z"⟩
abbrev zc_Mo_timeout : ByteArray := prog_12_method_31_code
def zy_Mo_timeout : MethodName := ⟨zR_Mo, "timeout", "(I)Z"⟩
abbrev zc_Mo_sealed : ByteArray := prog_12_method_33_code
def zy_Mo_sealed : MethodName := ⟨zR_Mo, "sealed", "(II)I"⟩
abbrev zc_Mo_post : ByteArray := prog_12_method_32_code
def zy_Mo_post : MethodName := ⟨zR_Mo, "post", "(II)I"⟩
abbrev zc_Mo_forge : ByteArray := prog_12_method_34_code
def zy_Mo_forge : MethodName := ⟨zR_Mo, "forge", "(IIIII)I"⟩
abbrev zc_Mo_deliver : ByteArray := prog_12_method_35_code
def zy_Mo_deliver : MethodName := ⟨zR_Mo, "deliver", "(II)Z"⟩
abbrev zc_Mo_envelopes : ByteArray := prog_12_method_36_code
def zy_Mo_envelopes : MethodName := ⟨zR_Mo, "envelopes", "()I"⟩
abbrev zc_Mo_submit : ByteArray := prog_12_method_37_code
def zy_Mo_submit : MethodName := ⟨zR_Mo, "submit", "(IIIIIII)Z"⟩
abbrev zc_Mo_state : ByteArray := prog_12_method_43_code
def zy_Mo_state : MethodName := ⟨zR_Mo, "state", "(II)I"⟩
abbrev zc_Mo_statements : ByteArray := prog_12_method_44_code
def zy_Mo_statements : MethodName := ⟨zR_Mo, "statements", "(IIII)I"⟩
abbrev zc_Mo_value : ByteArray := prog_12_method_45_code
def zy_Mo_value : MethodName := ⟨zR_Mo, "value", "(II)I"⟩
abbrev zc_Mo_header : ByteArray := prog_12_method_46_code
def zy_Mo_header : MethodName := ⟨zR_Mo, "header", "(I)I"⟩
abbrev zc_Mo_balance : ByteArray := prog_12_method_47_code
def zy_Mo_balance : MethodName := ⟨zR_Mo, "balance", "(III)I"⟩
abbrev zc_Mo_offer : ByteArray := prog_12_method_48_code
def zy_Mo_offer : MethodName := ⟨zR_Mo, "offer", "(II)I"⟩
abbrev zc_Law_cell : ByteArray := method_2_code
def zy_Law_cell : MethodName := ⟨zR_Law, "cell", "([II)I"⟩
end
section
theorem zd_Trust_init_0 : decode zc_Trust_init 0 = .ok (.aload_n 0, 1) := by decide +kernel
theorem zd_Trust_init_1 : decode zc_Trust_init 1 = .ok (.invokespecial 3, 3) := by decide +kernel
theorem zd_Trust_init_4 : decode zc_Trust_init 4 = .ok (.aload_n 0, 1) := by decide +kernel
theorem zd_Trust_init_5 : decode zc_Trust_init 5 = .ok (.iconst 4, 1) := by decide +kernel
theorem zd_Trust_init_6 : decode zc_Trust_init 6 = .ok (.putfield 9, 3) := by decide +kernel
theorem zd_Trust_init_9 : decode zc_Trust_init 9 = .ok (.aload_n 0, 1) := by decide +kernel
theorem zd_Trust_init_10 : decode zc_Trust_init 10 = .ok (.bipush 31, 2) := by decide +kernel
theorem zd_Trust_init_12 : decode zc_Trust_init 12 = .ok (.putfield 15, 3) := by decide +kernel
theorem zd_Trust_init_15 : decode zc_Trust_init 15 = .ok (.return_, 1) := by decide +kernel
theorem zd_Quorums_init_0 : decode zc_Quorums_init 0 = .ok (.aload_n 0, 1) := by decide +kernel
theorem zd_Quorums_init_1 : decode zc_Quorums_init 1 = .ok (.invokespecial 3, 3) := by decide +kernel
theorem zd_Quorums_init_4 : decode zc_Quorums_init 4 = .ok (.aload_n 0, 1) := by decide +kernel
theorem zd_Quorums_init_5 : decode zc_Quorums_init 5 = .ok (.iconst 5, 1) := by decide +kernel
theorem zd_Quorums_init_6 : decode zc_Quorums_init 6 = .ok (.anewarray 9, 3) := by decide +kernel
theorem zd_Quorums_init_9 : decode zc_Quorums_init 9 = .ok (.putfield 11, 3) := by decide +kernel
theorem zd_Quorums_init_12 : decode zc_Quorums_init 12 = .ok (.iconst 0, 1) := by decide +kernel
theorem zd_Quorums_init_13 : decode zc_Quorums_init 13 = .ok (.istore_n 1, 1) := by decide +kernel
theorem zd_Quorums_init_14 : decode zc_Quorums_init 14 = .ok (.iload_n 1, 1) := by decide +kernel
theorem zd_Quorums_init_15 : decode zc_Quorums_init 15 = .ok (.iconst 5, 1) := by decide +kernel
theorem zd_Quorums_init_16 : decode zc_Quorums_init 16 = .ok (.if_icmp .ge 22, 3) := by decide +kernel
theorem zd_Quorums_init_19 : decode zc_Quorums_init 19 = .ok (.aload_n 0, 1) := by decide +kernel
theorem zd_Quorums_init_20 : decode zc_Quorums_init 20 = .ok (.getfield 11, 3) := by decide +kernel
theorem zd_Quorums_init_23 : decode zc_Quorums_init 23 = .ok (.iload_n 1, 1) := by decide +kernel
theorem zd_Quorums_init_24 : decode zc_Quorums_init 24 = .ok (.new 9, 3) := by decide +kernel
theorem zd_Quorums_init_27 : decode zc_Quorums_init 27 = .ok (.dup, 1) := by decide +kernel
theorem zd_Quorums_init_28 : decode zc_Quorums_init 28 = .ok (.invokespecial 17, 3) := by decide +kernel
theorem zd_Quorums_init_31 : decode zc_Quorums_init 31 = .ok (.aastore, 1) := by decide +kernel
theorem zd_Quorums_init_32 : decode zc_Quorums_init 32 = .ok (.iinc 1 1, 3) := by decide +kernel
theorem zd_Quorums_init_35 : decode zc_Quorums_init 35 = .ok (.goto (-21), 3) := by decide +kernel
theorem zd_Quorums_init_38 : decode zc_Quorums_init 38 = .ok (.return_, 1) := by decide +kernel
theorem zd_Statements_init_0 : decode zc_Statements_init 0 = .ok (.aload_n 0, 1) := by decide +kernel
theorem zd_Statements_init_1 : decode zc_Statements_init 1 = .ok (.invokespecial 3, 3) := by decide +kernel
theorem zd_Statements_init_4 : decode zc_Statements_init 4 = .ok (.aload_n 0, 1) := by decide +kernel
theorem zd_Statements_init_5 : decode zc_Statements_init 5 = .ok (.iload_n 1, 1) := by decide +kernel
theorem zd_Statements_init_6 : decode zc_Statements_init 6 = .ok (.putfield 9, 3) := by decide +kernel
theorem zd_Statements_init_9 : decode zc_Statements_init 9 = .ok (.aload_n 0, 1) := by decide +kernel
theorem zd_Statements_init_10 : decode zc_Statements_init 10 = .ok (.aload_n 2, 1) := by decide +kernel
theorem zd_Statements_init_11 : decode zc_Statements_init 11 = .ok (.putfield 15, 3) := by decide +kernel
theorem zd_Statements_init_14 : decode zc_Statements_init 14 = .ok (.aload_n 0, 1) := by decide +kernel
theorem zd_Statements_init_15 : decode zc_Statements_init 15 = .ok (.iconst 5, 1) := by decide +kernel
theorem zd_Statements_init_16 : decode zc_Statements_init 16 = .ok (.newarray .int, 2) := by decide +kernel
theorem zd_Statements_init_18 : decode zc_Statements_init 18 = .ok (.putfield 19, 3) := by decide +kernel
theorem zd_Statements_init_21 : decode zc_Statements_init 21 = .ok (.aload_n 0, 1) := by decide +kernel
theorem zd_Statements_init_22 : decode zc_Statements_init 22 = .ok (.iconst 5, 1) := by decide +kernel
theorem zd_Statements_init_23 : decode zc_Statements_init 23 = .ok (.newarray .int, 2) := by decide +kernel
theorem zd_Statements_init_25 : decode zc_Statements_init 25 = .ok (.putfield 23, 3) := by decide +kernel
theorem zd_Statements_init_28 : decode zc_Statements_init 28 = .ok (.return_, 1) := by decide +kernel
theorem zd_Agreement_init_0 : decode zc_Agreement_init 0 = .ok (.aload_n 0, 1) := by decide +kernel
theorem zd_Agreement_init_1 : decode zc_Agreement_init 1 = .ok (.invokespecial 3, 3) := by decide +kernel
theorem zd_Agreement_init_4 : decode zc_Agreement_init 4 = .ok (.aload_n 0, 1) := by decide +kernel
theorem zd_Agreement_init_5 : decode zc_Agreement_init 5 = .ok (.iload_n 1, 1) := by decide +kernel
theorem zd_Agreement_init_6 : decode zc_Agreement_init 6 = .ok (.putfield 9, 3) := by decide +kernel
theorem zd_Agreement_init_9 : decode zc_Agreement_init 9 = .ok (.aload_n 0, 1) := by decide +kernel
theorem zd_Agreement_init_10 : decode zc_Agreement_init 10 = .ok (.iload_n 2, 1) := by decide +kernel
theorem zd_Agreement_init_11 : decode zc_Agreement_init 11 = .ok (.putfield 15, 3) := by decide +kernel
theorem zd_Agreement_init_14 : decode zc_Agreement_init 14 = .ok (.aload_n 0, 1) := by decide +kernel
theorem zd_Agreement_init_15 : decode zc_Agreement_init 15 = .ok (.aload_n 3, 1) := by decide +kernel
theorem zd_Agreement_init_16 : decode zc_Agreement_init 16 = .ok (.getfield 18, 3) := by decide +kernel
theorem zd_Agreement_init_19 : decode zc_Agreement_init 19 = .ok (.iload_n 1, 1) := by decide +kernel
theorem zd_Agreement_init_20 : decode zc_Agreement_init 20 = .ok (.aaload, 1) := by decide +kernel
theorem zd_Agreement_init_21 : decode zc_Agreement_init 21 = .ok (.putfield 24, 3) := by decide +kernel
theorem zd_Agreement_init_24 : decode zc_Agreement_init 24 = .ok (.aload_n 0, 1) := by decide +kernel
theorem zd_Agreement_init_25 : decode zc_Agreement_init 25 = .ok (.new 28, 3) := by decide +kernel
theorem zd_Agreement_init_28 : decode zc_Agreement_init 28 = .ok (.dup, 1) := by decide +kernel
theorem zd_Agreement_init_29 : decode zc_Agreement_init 29 = .ok (.iload_n 1, 1) := by decide +kernel
theorem zd_Agreement_init_30 : decode zc_Agreement_init 30 = .ok (.aload_n 3, 1) := by decide +kernel
theorem zd_Agreement_init_31 : decode zc_Agreement_init 31 = .ok (.invokespecial 30, 3) := by decide +kernel
theorem zd_Agreement_init_34 : decode zc_Agreement_init 34 = .ok (.putfield 33, 3) := by decide +kernel
theorem zd_Agreement_init_37 : decode zc_Agreement_init 37 = .ok (.aload_n 0, 1) := by decide +kernel
theorem zd_Agreement_init_38 : decode zc_Agreement_init 38 = .ok (.new 28, 3) := by decide +kernel
theorem zd_Agreement_init_41 : decode zc_Agreement_init 41 = .ok (.dup, 1) := by decide +kernel
theorem zd_Agreement_init_42 : decode zc_Agreement_init 42 = .ok (.iload_n 1, 1) := by decide +kernel
theorem zd_Agreement_init_43 : decode zc_Agreement_init 43 = .ok (.aload_n 3, 1) := by decide +kernel
theorem zd_Agreement_init_44 : decode zc_Agreement_init 44 = .ok (.invokespecial 30, 3) := by decide +kernel
theorem zd_Agreement_init_47 : decode zc_Agreement_init 47 = .ok (.putfield 37, 3) := by decide +kernel
theorem zd_Agreement_init_50 : decode zc_Agreement_init 50 = .ok (.aload_n 0, 1) := by decide +kernel
theorem zd_Agreement_init_51 : decode zc_Agreement_init 51 = .ok (.new 28, 3) := by decide +kernel
theorem zd_Agreement_init_54 : decode zc_Agreement_init 54 = .ok (.dup, 1) := by decide +kernel
theorem zd_Agreement_init_55 : decode zc_Agreement_init 55 = .ok (.iload_n 1, 1) := by decide +kernel
theorem zd_Agreement_init_56 : decode zc_Agreement_init 56 = .ok (.aload_n 3, 1) := by decide +kernel
theorem zd_Agreement_init_57 : decode zc_Agreement_init 57 = .ok (.invokespecial 30, 3) := by decide +kernel
theorem zd_Agreement_init_60 : decode zc_Agreement_init 60 = .ok (.putfield 40, 3) := by decide +kernel
theorem zd_Agreement_init_63 : decode zc_Agreement_init 63 = .ok (.return_, 1) := by decide +kernel
theorem zd_Ledger_init_0 : decode zc_Ledger_init 0 = .ok (.aload_n 0, 1) := by decide +kernel
theorem zd_Ledger_init_1 : decode zc_Ledger_init 1 = .ok (.invokespecial 3, 3) := by decide +kernel
theorem zd_Ledger_init_4 : decode zc_Ledger_init 4 = .ok (.aload_n 0, 1) := by decide +kernel
theorem zd_Ledger_init_5 : decode zc_Ledger_init 5 = .ok (.iconst 4, 1) := by decide +kernel
theorem zd_Ledger_init_6 : decode zc_Ledger_init 6 = .ok (.newarray .int, 2) := by decide +kernel
theorem zd_Ledger_init_8 : decode zc_Ledger_init 8 = .ok (.putfield 9, 3) := by decide +kernel
theorem zd_Ledger_init_11 : decode zc_Ledger_init 11 = .ok (.aload_n 0, 1) := by decide +kernel
theorem zd_Ledger_init_12 : decode zc_Ledger_init 12 = .ok (.iconst 4, 1) := by decide +kernel
theorem zd_Ledger_init_13 : decode zc_Ledger_init 13 = .ok (.newarray .int, 2) := by decide +kernel
theorem zd_Ledger_init_15 : decode zc_Ledger_init 15 = .ok (.putfield 15, 3) := by decide +kernel
theorem zd_Ledger_init_18 : decode zc_Ledger_init 18 = .ok (.iconst 0, 1) := by decide +kernel
theorem zd_Ledger_init_19 : decode zc_Ledger_init 19 = .ok (.istore_n 1, 1) := by decide +kernel
theorem zd_Ledger_init_20 : decode zc_Ledger_init 20 = .ok (.iload_n 1, 1) := by decide +kernel
theorem zd_Ledger_init_21 : decode zc_Ledger_init 21 = .ok (.iconst 4, 1) := by decide +kernel
theorem zd_Ledger_init_22 : decode zc_Ledger_init 22 = .ok (.if_icmp .ge 25, 3) := by decide +kernel
theorem zd_Ledger_init_25 : decode zc_Ledger_init 25 = .ok (.aload_n 0, 1) := by decide +kernel
theorem zd_Ledger_init_26 : decode zc_Ledger_init 26 = .ok (.getfield 9, 3) := by decide +kernel
theorem zd_Ledger_init_29 : decode zc_Ledger_init 29 = .ok (.iload_n 1, 1) := by decide +kernel
theorem zd_Ledger_init_30 : decode zc_Ledger_init 30 = .ok (.bipush 100, 2) := by decide +kernel
theorem zd_Ledger_init_32 : decode zc_Ledger_init 32 = .ok (.iastore, 1) := by decide +kernel
theorem zd_Ledger_init_33 : decode zc_Ledger_init 33 = .ok (.aload_n 0, 1) := by decide +kernel
theorem zd_Ledger_init_34 : decode zc_Ledger_init 34 = .ok (.getfield 15, 3) := by decide +kernel
theorem zd_Ledger_init_37 : decode zc_Ledger_init 37 = .ok (.iload_n 1, 1) := by decide +kernel
theorem zd_Ledger_init_38 : decode zc_Ledger_init 38 = .ok (.bipush 20, 2) := by decide +kernel
theorem zd_Ledger_init_40 : decode zc_Ledger_init 40 = .ok (.iastore, 1) := by decide +kernel
theorem zd_Ledger_init_41 : decode zc_Ledger_init 41 = .ok (.iinc 1 1, 3) := by decide +kernel
theorem zd_Ledger_init_44 : decode zc_Ledger_init 44 = .ok (.goto (-24), 3) := by decide +kernel
theorem zd_Ledger_init_47 : decode zc_Ledger_init 47 = .ok (.aload_n 0, 1) := by decide +kernel
theorem zd_Ledger_init_48 : decode zc_Ledger_init 48 = .ok (.bipush 8, 2) := by decide +kernel
theorem zd_Ledger_init_50 : decode zc_Ledger_init 50 = .ok (.anewarray 18, 3) := by decide +kernel
theorem zd_Ledger_init_53 : decode zc_Ledger_init 53 = .ok (.putfield 20, 3) := by decide +kernel
theorem zd_Ledger_init_56 : decode zc_Ledger_init 56 = .ok (.return_, 1) := by decide +kernel
theorem zd_Node_init_0 : decode zc_Node_init 0 = .ok (.aload_n 0, 1) := by decide +kernel
theorem zd_Node_init_1 : decode zc_Node_init 1 = .ok (.invokespecial 3, 3) := by decide +kernel
theorem zd_Node_init_4 : decode zc_Node_init 4 = .ok (.aload_n 0, 1) := by decide +kernel
theorem zd_Node_init_5 : decode zc_Node_init 5 = .ok (.iconst 3, 1) := by decide +kernel
theorem zd_Node_init_6 : decode zc_Node_init 6 = .ok (.anewarray 9, 3) := by decide +kernel
theorem zd_Node_init_9 : decode zc_Node_init 9 = .ok (.putfield 11, 3) := by decide +kernel
theorem zd_Node_init_12 : decode zc_Node_init 12 = .ok (.iconst 0, 1) := by decide +kernel
theorem zd_Node_init_13 : decode zc_Node_init 13 = .ok (.istore_n 3, 1) := by decide +kernel
theorem zd_Node_init_14 : decode zc_Node_init 14 = .ok (.iload_n 3, 1) := by decide +kernel
theorem zd_Node_init_15 : decode zc_Node_init 15 = .ok (.iconst 3, 1) := by decide +kernel
theorem zd_Node_init_16 : decode zc_Node_init 16 = .ok (.if_icmp .ge 25, 3) := by decide +kernel
theorem zd_Node_init_19 : decode zc_Node_init 19 = .ok (.aload_n 0, 1) := by decide +kernel
theorem zd_Node_init_20 : decode zc_Node_init 20 = .ok (.getfield 11, 3) := by decide +kernel
theorem zd_Node_init_23 : decode zc_Node_init 23 = .ok (.iload_n 3, 1) := by decide +kernel
theorem zd_Node_init_24 : decode zc_Node_init 24 = .ok (.new 9, 3) := by decide +kernel
theorem zd_Node_init_27 : decode zc_Node_init 27 = .ok (.dup, 1) := by decide +kernel
theorem zd_Node_init_28 : decode zc_Node_init 28 = .ok (.iload_n 1, 1) := by decide +kernel
theorem zd_Node_init_29 : decode zc_Node_init 29 = .ok (.iload_n 3, 1) := by decide +kernel
theorem zd_Node_init_30 : decode zc_Node_init 30 = .ok (.aload_n 2, 1) := by decide +kernel
theorem zd_Node_init_31 : decode zc_Node_init 31 = .ok (.invokespecial 17, 3) := by decide +kernel
theorem zd_Node_init_34 : decode zc_Node_init 34 = .ok (.aastore, 1) := by decide +kernel
theorem zd_Node_init_35 : decode zc_Node_init 35 = .ok (.iinc 3 1, 3) := by decide +kernel
theorem zd_Node_init_38 : decode zc_Node_init 38 = .ok (.goto (-24), 3) := by decide +kernel
theorem zd_Node_init_41 : decode zc_Node_init 41 = .ok (.aload_n 0, 1) := by decide +kernel
theorem zd_Node_init_42 : decode zc_Node_init 42 = .ok (.new 20, 3) := by decide +kernel
theorem zd_Node_init_45 : decode zc_Node_init 45 = .ok (.dup, 1) := by decide +kernel
theorem zd_Node_init_46 : decode zc_Node_init 46 = .ok (.invokespecial 22, 3) := by decide +kernel
theorem zd_Node_init_49 : decode zc_Node_init 49 = .ok (.putfield 23, 3) := by decide +kernel
theorem zd_Node_init_52 : decode zc_Node_init 52 = .ok (.return_, 1) := by decide +kernel
theorem zd_TL_init_0 : decode zc_TL_init 0 = .ok (.aload_n 0, 1) := by decide +kernel
theorem zd_TL_init_1 : decode zc_TL_init 1 = .ok (.invokespecial 3, 3) := by decide +kernel
theorem zd_TL_init_4 : decode zc_TL_init 4 = .ok (.aload_n 0, 1) := by decide +kernel
theorem zd_TL_init_5 : decode zc_TL_init 5 = .ok (.iload_n 1, 1) := by decide +kernel
theorem zd_TL_init_6 : decode zc_TL_init 6 = .ok (.bipush 31, 2) := by decide +kernel
theorem zd_TL_init_8 : decode zc_TL_init 8 = .ok (.iand, 1) := by decide +kernel
theorem zd_TL_init_9 : decode zc_TL_init 9 = .ok (.putfield 9, 3) := by decide +kernel
theorem zd_TL_init_12 : decode zc_TL_init 12 = .ok (.new 13, 3) := by decide +kernel
theorem zd_TL_init_15 : decode zc_TL_init 15 = .ok (.dup, 1) := by decide +kernel
theorem zd_TL_init_16 : decode zc_TL_init 16 = .ok (.invokespecial 15, 3) := by decide +kernel
theorem zd_TL_init_19 : decode zc_TL_init 19 = .ok (.astore_n 2, 1) := by decide +kernel
theorem zd_TL_init_20 : decode zc_TL_init 20 = .ok (.aload_n 0, 1) := by decide +kernel
theorem zd_TL_init_21 : decode zc_TL_init 21 = .ok (.aload_n 2, 1) := by decide +kernel
theorem zd_TL_init_22 : decode zc_TL_init 22 = .ok (.putfield 16, 3) := by decide +kernel
theorem zd_TL_init_25 : decode zc_TL_init 25 = .ok (.aload_n 0, 1) := by decide +kernel
theorem zd_TL_init_26 : decode zc_TL_init 26 = .ok (.iconst 5, 1) := by decide +kernel
theorem zd_TL_init_27 : decode zc_TL_init 27 = .ok (.anewarray 20, 3) := by decide +kernel
theorem zd_TL_init_30 : decode zc_TL_init 30 = .ok (.putfield 22, 3) := by decide +kernel
theorem zd_TL_init_33 : decode zc_TL_init 33 = .ok (.iconst 0, 1) := by decide +kernel
theorem zd_TL_init_34 : decode zc_TL_init 34 = .ok (.istore_n 3, 1) := by decide +kernel
theorem zd_TL_init_35 : decode zc_TL_init 35 = .ok (.iload_n 3, 1) := by decide +kernel
theorem zd_TL_init_36 : decode zc_TL_init 36 = .ok (.iconst 5, 1) := by decide +kernel
theorem zd_TL_init_37 : decode zc_TL_init 37 = .ok (.if_icmp .ge 24, 3) := by decide +kernel
theorem zd_TL_init_40 : decode zc_TL_init 40 = .ok (.aload_n 0, 1) := by decide +kernel
theorem zd_TL_init_41 : decode zc_TL_init 41 = .ok (.getfield 22, 3) := by decide +kernel
theorem zd_TL_init_44 : decode zc_TL_init 44 = .ok (.iload_n 3, 1) := by decide +kernel
theorem zd_TL_init_45 : decode zc_TL_init 45 = .ok (.new 20, 3) := by decide +kernel
theorem zd_TL_init_48 : decode zc_TL_init 48 = .ok (.dup, 1) := by decide +kernel
theorem zd_TL_init_49 : decode zc_TL_init 49 = .ok (.iload_n 3, 1) := by decide +kernel
theorem zd_TL_init_50 : decode zc_TL_init 50 = .ok (.aload_n 2, 1) := by decide +kernel
theorem zd_TL_init_51 : decode zc_TL_init 51 = .ok (.invokespecial 26, 3) := by decide +kernel
theorem zd_TL_init_54 : decode zc_TL_init 54 = .ok (.aastore, 1) := by decide +kernel
theorem zd_TL_init_55 : decode zc_TL_init 55 = .ok (.iinc 3 1, 3) := by decide +kernel
theorem zd_TL_init_58 : decode zc_TL_init 58 = .ok (.goto (-23), 3) := by decide +kernel
theorem zd_TL_init_61 : decode zc_TL_init 61 = .ok (.aload_n 0, 1) := by decide +kernel
theorem zd_TL_init_62 : decode zc_TL_init 62 = .ok (.bipush 9, 2) := by decide +kernel
theorem zd_TL_init_64 : decode zc_TL_init 64 = .ok (.anewarray 29, 3) := by decide +kernel
theorem zd_TL_init_67 : decode zc_TL_init 67 = .ok (.putfield 31, 3) := by decide +kernel
theorem zd_TL_init_70 : decode zc_TL_init 70 = .ok (.aload_n 0, 1) := by decide +kernel
theorem zd_TL_init_71 : decode zc_TL_init 71 = .ok (.bipush 120, 2) := by decide +kernel
theorem zd_TL_init_73 : decode zc_TL_init 73 = .ok (.anewarray 35, 3) := by decide +kernel
theorem zd_TL_init_76 : decode zc_TL_init 76 = .ok (.putfield 37, 3) := by decide +kernel
theorem zd_TL_init_79 : decode zc_TL_init 79 = .ok (.return_, 1) := by decide +kernel
theorem zd_TL_isWithin_0 : decode zc_TL_isWithin 0 = .ok (.iload_n 0, 1) := by decide +kernel
theorem zd_TL_isWithin_1 : decode zc_TL_isWithin 1 = .ok (.iload_n 1, 1) := by decide +kernel
theorem zd_TL_isWithin_2 : decode zc_TL_isWithin 2 = .ok (.if_icmp .lt 12, 3) := by decide +kernel
theorem zd_TL_isWithin_5 : decode zc_TL_isWithin 5 = .ok (.iload_n 0, 1) := by decide +kernel
theorem zd_TL_isWithin_6 : decode zc_TL_isWithin 6 = .ok (.iload_n 2, 1) := by decide +kernel
theorem zd_TL_isWithin_7 : decode zc_TL_isWithin 7 = .ok (.if_icmp .gt 7, 3) := by decide +kernel
theorem zd_TL_isWithin_10 : decode zc_TL_isWithin 10 = .ok (.iconst 1, 1) := by decide +kernel
theorem zd_TL_isWithin_11 : decode zc_TL_isWithin 11 = .ok (.goto 4, 3) := by decide +kernel
theorem zd_TL_isWithin_14 : decode zc_TL_isWithin 14 = .ok (.iconst 0, 1) := by decide +kernel
theorem zd_TL_isWithin_15 : decode zc_TL_isWithin 15 = .ok (.ireturn, 1) := by decide +kernel
theorem zd_Trust_become_0 : decode zc_Trust_become 0 = .ok (.aload_n 0, 1) := by decide +kernel
theorem zd_Trust_become_1 : decode zc_Trust_become 1 = .ok (.iload_n 1, 1) := by decide +kernel
theorem zd_Trust_become_2 : decode zc_Trust_become 2 = .ok (.putfield 9, 3) := by decide +kernel
theorem zd_Trust_become_5 : decode zc_Trust_become 5 = .ok (.aload_n 0, 1) := by decide +kernel
theorem zd_Trust_become_6 : decode zc_Trust_become 6 = .ok (.iload_n 2, 1) := by decide +kernel
theorem zd_Trust_become_7 : decode zc_Trust_become 7 = .ok (.putfield 15, 3) := by decide +kernel
theorem zd_Trust_become_10 : decode zc_Trust_become 10 = .ok (.aload_n 0, 1) := by decide +kernel
theorem zd_Trust_become_11 : decode zc_Trust_become 11 = .ok (.iload_n 3, 1) := by decide +kernel
theorem zd_Trust_become_12 : decode zc_Trust_become 12 = .ok (.putfield 18, 3) := by decide +kernel
theorem zd_Trust_become_15 : decode zc_Trust_become 15 = .ok (.aload_n 0, 1) := by decide +kernel
theorem zd_Trust_become_16 : decode zc_Trust_become 16 = .ok (.iload_n 3, 1) := by decide +kernel
theorem zd_Trust_become_17 : decode zc_Trust_become 17 = .ok (.ifCond .le 8, 3) := by decide +kernel
theorem zd_Trust_become_20 : decode zc_Trust_become 20 = .ok (.iload 4, 2) := by decide +kernel
theorem zd_Trust_become_22 : decode zc_Trust_become 22 = .ok (.goto 4, 3) := by decide +kernel
theorem zd_Trust_become_25 : decode zc_Trust_become 25 = .ok (.iconst 0, 1) := by decide +kernel
theorem zd_Trust_become_26 : decode zc_Trust_become 26 = .ok (.putfield 21, 3) := by decide +kernel
theorem zd_Trust_become_29 : decode zc_Trust_become 29 = .ok (.return_, 1) := by decide +kernel
theorem zd_TL_trust_0 : decode zc_TL_trust 0 = .ok (.iload_n 1, 1) := by decide +kernel
theorem zd_TL_trust_1 : decode zc_TL_trust 1 = .ok (.iconst 0, 1) := by decide +kernel
theorem zd_TL_trust_2 : decode zc_TL_trust 2 = .ok (.iconst 4, 1) := by decide +kernel
theorem zd_TL_trust_3 : decode zc_TL_trust 3 = .ok (.invokestatic 41, 3) := by decide +kernel
theorem zd_TL_trust_6 : decode zc_TL_trust 6 = .ok (.ifCond .eq 48, 3) := by decide +kernel
theorem zd_TL_trust_9 : decode zc_TL_trust 9 = .ok (.iload_n 2, 1) := by decide +kernel
theorem zd_TL_trust_10 : decode zc_TL_trust 10 = .ok (.iconst 1, 1) := by decide +kernel
theorem zd_TL_trust_11 : decode zc_TL_trust 11 = .ok (.bipush 6, 2) := by decide +kernel
theorem zd_TL_trust_13 : decode zc_TL_trust 13 = .ok (.invokestatic 41, 3) := by decide +kernel
theorem zd_TL_trust_16 : decode zc_TL_trust 16 = .ok (.ifCond .eq 38, 3) := by decide +kernel
theorem zd_TL_trust_19 : decode zc_TL_trust 19 = .ok (.iload_n 3, 1) := by decide +kernel
theorem zd_TL_trust_20 : decode zc_TL_trust 20 = .ok (.iconst 0, 1) := by decide +kernel
theorem zd_TL_trust_21 : decode zc_TL_trust 21 = .ok (.bipush 31, 2) := by decide +kernel
theorem zd_TL_trust_23 : decode zc_TL_trust 23 = .ok (.invokestatic 41, 3) := by decide +kernel
theorem zd_TL_trust_26 : decode zc_TL_trust 26 = .ok (.ifCond .eq 28, 3) := by decide +kernel
theorem zd_TL_trust_29 : decode zc_TL_trust 29 = .ok (.iload 4, 2) := by decide +kernel
theorem zd_TL_trust_31 : decode zc_TL_trust 31 = .ok (.iconst 0, 1) := by decide +kernel
theorem zd_TL_trust_32 : decode zc_TL_trust 32 = .ok (.iconst 5, 1) := by decide +kernel
theorem zd_TL_trust_33 : decode zc_TL_trust 33 = .ok (.invokestatic 41, 3) := by decide +kernel
theorem zd_TL_trust_36 : decode zc_TL_trust 36 = .ok (.ifCond .eq 18, 3) := by decide +kernel
theorem zd_TL_trust_39 : decode zc_TL_trust 39 = .ok (.iload 5, 2) := by decide +kernel
theorem zd_TL_trust_41 : decode zc_TL_trust 41 = .ok (.iconst 0, 1) := by decide +kernel
theorem zd_TL_trust_42 : decode zc_TL_trust 42 = .ok (.bipush 31, 2) := by decide +kernel
theorem zd_TL_trust_44 : decode zc_TL_trust 44 = .ok (.invokestatic 41, 3) := by decide +kernel
theorem zd_TL_trust_47 : decode zc_TL_trust 47 = .ok (.ifCond .eq 7, 3) := by decide +kernel
theorem zd_TL_trust_50 : decode zc_TL_trust 50 = .ok (.iconst 1, 1) := by decide +kernel
theorem zd_TL_trust_51 : decode zc_TL_trust 51 = .ok (.goto 4, 3) := by decide +kernel
theorem zd_TL_trust_54 : decode zc_TL_trust 54 = .ok (.iconst 0, 1) := by decide +kernel
theorem zd_TL_trust_55 : decode zc_TL_trust 55 = .ok (.istore 6, 2) := by decide +kernel
theorem zd_TL_trust_57 : decode zc_TL_trust 57 = .ok (.iload 6, 2) := by decide +kernel
theorem zd_TL_trust_59 : decode zc_TL_trust 59 = .ok (.ifCond .eq 10, 3) := by decide +kernel
theorem zd_TL_trust_62 : decode zc_TL_trust 62 = .ok (.aload_n 0, 1) := by decide +kernel
theorem zd_TL_trust_63 : decode zc_TL_trust 63 = .ok (.getfield 45, 3) := by decide +kernel
theorem zd_TL_trust_66 : decode zc_TL_trust 66 = .ok (.ifCond .eq 5, 3) := by decide +kernel
theorem zd_TL_trust_69 : decode zc_TL_trust 69 = .ok (.iconst 0, 1) := by decide +kernel
theorem zd_TL_trust_70 : decode zc_TL_trust 70 = .ok (.ireturn, 1) := by decide +kernel
theorem zd_TL_trust_71 : decode zc_TL_trust 71 = .ok (.aload_n 0, 1) := by decide +kernel
theorem zd_TL_trust_72 : decode zc_TL_trust 72 = .ok (.getfield 16, 3) := by decide +kernel
theorem zd_TL_trust_75 : decode zc_TL_trust 75 = .ok (.getfield 49, 3) := by decide +kernel
theorem zd_TL_trust_78 : decode zc_TL_trust 78 = .ok (.iload_n 1, 1) := by decide +kernel
theorem zd_TL_trust_79 : decode zc_TL_trust 79 = .ok (.aaload, 1) := by decide +kernel
theorem zd_TL_trust_80 : decode zc_TL_trust 80 = .ok (.iload_n 2, 1) := by decide +kernel
theorem zd_TL_trust_81 : decode zc_TL_trust 81 = .ok (.iload_n 3, 1) := by decide +kernel
theorem zd_TL_trust_82 : decode zc_TL_trust 82 = .ok (.iload 4, 2) := by decide +kernel
theorem zd_TL_trust_84 : decode zc_TL_trust 84 = .ok (.iload 5, 2) := by decide +kernel
theorem zd_TL_trust_86 : decode zc_TL_trust 86 = .ok (.invokevirtual 53, 3) := by decide +kernel
theorem zd_TL_trust_89 : decode zc_TL_trust 89 = .ok (.iconst 1, 1) := by decide +kernel
theorem zd_TL_trust_90 : decode zc_TL_trust 90 = .ok (.ireturn, 1) := by decide +kernel
theorem zd_TL_isSlot_0 : decode zc_TL_isSlot 0 = .ok (.iload_n 0, 1) := by decide +kernel
theorem zd_TL_isSlot_1 : decode zc_TL_isSlot 1 = .ok (.iconst 0, 1) := by decide +kernel
theorem zd_TL_isSlot_2 : decode zc_TL_isSlot 2 = .ok (.iconst 2, 1) := by decide +kernel
theorem zd_TL_isSlot_3 : decode zc_TL_isSlot 3 = .ok (.invokestatic 41, 3) := by decide +kernel
theorem zd_TL_isSlot_6 : decode zc_TL_isSlot 6 = .ok (.ireturn, 1) := by decide +kernel
theorem zd_TL_isAccount_0 : decode zc_TL_isAccount 0 = .ok (.iload_n 0, 1) := by decide +kernel
theorem zd_TL_isAccount_1 : decode zc_TL_isAccount 1 = .ok (.iconst 0, 1) := by decide +kernel
theorem zd_TL_isAccount_2 : decode zc_TL_isAccount 2 = .ok (.iconst 3, 1) := by decide +kernel
theorem zd_TL_isAccount_3 : decode zc_TL_isAccount 3 = .ok (.invokestatic 41, 3) := by decide +kernel
theorem zd_TL_isAccount_6 : decode zc_TL_isAccount 6 = .ok (.ireturn, 1) := by decide +kernel
theorem zd_TL_isLeft_0 : decode zc_TL_isLeft 0 = .ok (.iconst 0, 1) := by decide +kernel
theorem zd_TL_isLeft_1 : decode zc_TL_isLeft 1 = .ok (.istore_n 2, 1) := by decide +kernel
theorem zd_TL_isLeft_2 : decode zc_TL_isLeft 2 = .ok (.iload_n 2, 1) := by decide +kernel
theorem zd_TL_isLeft_3 : decode zc_TL_isLeft 3 = .ok (.iconst 5, 1) := by decide +kernel
theorem zd_TL_isLeft_4 : decode zc_TL_isLeft 4 = .ok (.if_icmp .ge 24, 3) := by decide +kernel
theorem zd_TL_isLeft_7 : decode zc_TL_isLeft 7 = .ok (.aload_n 0, 1) := by decide +kernel
theorem zd_TL_isLeft_8 : decode zc_TL_isLeft 8 = .ok (.getfield 22, 3) := by decide +kernel
theorem zd_TL_isLeft_11 : decode zc_TL_isLeft 11 = .ok (.iload_n 2, 1) := by decide +kernel
theorem zd_TL_isLeft_12 : decode zc_TL_isLeft 12 = .ok (.aaload, 1) := by decide +kernel
theorem zd_TL_isLeft_13 : decode zc_TL_isLeft 13 = .ok (.getfield 79, 3) := by decide +kernel
theorem zd_TL_isLeft_16 : decode zc_TL_isLeft 16 = .ok (.iload_n 1, 1) := by decide +kernel
theorem zd_TL_isLeft_17 : decode zc_TL_isLeft 17 = .ok (.if_icmp .le 5, 3) := by decide +kernel
theorem zd_TL_isLeft_20 : decode zc_TL_isLeft 20 = .ok (.iconst 1, 1) := by decide +kernel
theorem zd_TL_isLeft_21 : decode zc_TL_isLeft 21 = .ok (.ireturn, 1) := by decide +kernel
theorem zd_TL_isLeft_22 : decode zc_TL_isLeft 22 = .ok (.iinc 2 1, 3) := by decide +kernel
theorem zd_TL_isLeft_25 : decode zc_TL_isLeft 25 = .ok (.goto (-23), 3) := by decide +kernel
theorem zd_TL_isLeft_28 : decode zc_TL_isLeft 28 = .ok (.iconst 0, 1) := by decide +kernel
theorem zd_TL_isLeft_29 : decode zc_TL_isLeft 29 = .ok (.ireturn, 1) := by decide +kernel
theorem zd_Transaction_init_0 : decode zc_Transaction_init 0 = .ok (.aload_n 0, 1) := by decide +kernel
theorem zd_Transaction_init_1 : decode zc_Transaction_init 1 = .ok (.invokespecial 1, 3) := by decide +kernel
theorem zd_Transaction_init_4 : decode zc_Transaction_init 4 = .ok (.aload_n 0, 1) := by decide +kernel
theorem zd_Transaction_init_5 : decode zc_Transaction_init 5 = .ok (.iload_n 1, 1) := by decide +kernel
theorem zd_Transaction_init_6 : decode zc_Transaction_init 6 = .ok (.putfield 7, 3) := by decide +kernel
theorem zd_Transaction_init_9 : decode zc_Transaction_init 9 = .ok (.aload_n 0, 1) := by decide +kernel
theorem zd_Transaction_init_10 : decode zc_Transaction_init 10 = .ok (.iload_n 2, 1) := by decide +kernel
theorem zd_Transaction_init_11 : decode zc_Transaction_init 11 = .ok (.putfield 13, 3) := by decide +kernel
theorem zd_Transaction_init_14 : decode zc_Transaction_init 14 = .ok (.aload_n 0, 1) := by decide +kernel
theorem zd_Transaction_init_15 : decode zc_Transaction_init 15 = .ok (.iload_n 3, 1) := by decide +kernel
theorem zd_Transaction_init_16 : decode zc_Transaction_init 16 = .ok (.putfield 16, 3) := by decide +kernel
theorem zd_Transaction_init_19 : decode zc_Transaction_init 19 = .ok (.aload_n 0, 1) := by decide +kernel
theorem zd_Transaction_init_20 : decode zc_Transaction_init 20 = .ok (.iload 4, 2) := by decide +kernel
theorem zd_Transaction_init_22 : decode zc_Transaction_init 22 = .ok (.putfield 19, 3) := by decide +kernel
theorem zd_Transaction_init_25 : decode zc_Transaction_init 25 = .ok (.aload_n 0, 1) := by decide +kernel
theorem zd_Transaction_init_26 : decode zc_Transaction_init 26 = .ok (.iload 5, 2) := by decide +kernel
theorem zd_Transaction_init_28 : decode zc_Transaction_init 28 = .ok (.putfield 22, 3) := by decide +kernel
theorem zd_Transaction_init_31 : decode zc_Transaction_init 31 = .ok (.return_, 1) := by decide +kernel
theorem zd_TL_submit_0 : decode zc_TL_submit 0 = .ok (.iload_n 1, 1) := by decide +kernel
theorem zd_TL_submit_1 : decode zc_TL_submit 1 = .ok (.invokestatic 59, 3) := by decide +kernel
theorem zd_TL_submit_4 : decode zc_TL_submit 4 = .ok (.ifCond .eq 81, 3) := by decide +kernel
theorem zd_TL_submit_7 : decode zc_TL_submit 7 = .ok (.iload_n 2, 1) := by decide +kernel
theorem zd_TL_submit_8 : decode zc_TL_submit 8 = .ok (.iconst 0, 1) := by decide +kernel
theorem zd_TL_submit_9 : decode zc_TL_submit 9 = .ok (.iconst 2, 1) := by decide +kernel
theorem zd_TL_submit_10 : decode zc_TL_submit 10 = .ok (.invokestatic 41, 3) := by decide +kernel
theorem zd_TL_submit_13 : decode zc_TL_submit 13 = .ok (.ifCond .eq 72, 3) := by decide +kernel
theorem zd_TL_submit_16 : decode zc_TL_submit 16 = .ok (.iload_n 3, 1) := by decide +kernel
theorem zd_TL_submit_17 : decode zc_TL_submit 17 = .ok (.iconst 0, 1) := by decide +kernel
theorem zd_TL_submit_18 : decode zc_TL_submit 18 = .ok (.iconst 1, 1) := by decide +kernel
theorem zd_TL_submit_19 : decode zc_TL_submit 19 = .ok (.invokestatic 41, 3) := by decide +kernel
theorem zd_TL_submit_22 : decode zc_TL_submit 22 = .ok (.ifCond .eq 63, 3) := by decide +kernel
theorem zd_TL_submit_25 : decode zc_TL_submit 25 = .ok (.iload 4, 2) := by decide +kernel
theorem zd_TL_submit_27 : decode zc_TL_submit 27 = .ok (.invokestatic 63, 3) := by decide +kernel
theorem zd_TL_submit_30 : decode zc_TL_submit 30 = .ok (.ifCond .eq 55, 3) := by decide +kernel
theorem zd_TL_submit_33 : decode zc_TL_submit 33 = .ok (.iload 5, 2) := by decide +kernel
theorem zd_TL_submit_35 : decode zc_TL_submit 35 = .ok (.iconst 0, 1) := by decide +kernel
theorem zd_TL_submit_36 : decode zc_TL_submit 36 = .ok (.iconst 1, 1) := by decide +kernel
theorem zd_TL_submit_37 : decode zc_TL_submit 37 = .ok (.invokestatic 41, 3) := by decide +kernel
theorem zd_TL_submit_40 : decode zc_TL_submit 40 = .ok (.ifCond .eq 45, 3) := by decide +kernel
theorem zd_TL_submit_43 : decode zc_TL_submit 43 = .ok (.iload_n 3, 1) := by decide +kernel
theorem zd_TL_submit_44 : decode zc_TL_submit 44 = .ok (.ifCond .ne 14, 3) := by decide +kernel
theorem zd_TL_submit_47 : decode zc_TL_submit 47 = .ok (.iload 6, 2) := by decide +kernel
theorem zd_TL_submit_49 : decode zc_TL_submit 49 = .ok (.invokestatic 63, 3) := by decide +kernel
theorem zd_TL_submit_52 : decode zc_TL_submit 52 = .ok (.ifCond .eq 33, 3) := by decide +kernel
theorem zd_TL_submit_55 : decode zc_TL_submit 55 = .ok (.goto 14, 3) := by decide +kernel
theorem zd_TL_submit_58 : decode zc_TL_submit 58 = .ok (.iload 6, 2) := by decide +kernel
theorem zd_TL_submit_60 : decode zc_TL_submit 60 = .ok (.iconst 1, 1) := by decide +kernel
theorem zd_TL_submit_61 : decode zc_TL_submit 61 = .ok (.bipush 9, 2) := by decide +kernel
theorem zd_TL_submit_63 : decode zc_TL_submit 63 = .ok (.invokestatic 41, 3) := by decide +kernel
theorem zd_TL_submit_66 : decode zc_TL_submit 66 = .ok (.ifCond .eq 19, 3) := by decide +kernel
theorem zd_TL_submit_69 : decode zc_TL_submit 69 = .ok (.iload 7, 2) := by decide +kernel
theorem zd_TL_submit_71 : decode zc_TL_submit 71 = .ok (.iconst 1, 1) := by decide +kernel
theorem zd_TL_submit_72 : decode zc_TL_submit 72 = .ok (.sipush 1000, 3) := by decide +kernel
theorem zd_TL_submit_75 : decode zc_TL_submit 75 = .ok (.invokestatic 41, 3) := by decide +kernel
theorem zd_TL_submit_78 : decode zc_TL_submit 78 = .ok (.ifCond .eq 7, 3) := by decide +kernel
theorem zd_TL_submit_81 : decode zc_TL_submit 81 = .ok (.iconst 1, 1) := by decide +kernel
theorem zd_TL_submit_82 : decode zc_TL_submit 82 = .ok (.goto 4, 3) := by decide +kernel
theorem zd_TL_submit_85 : decode zc_TL_submit 85 = .ok (.iconst 0, 1) := by decide +kernel
theorem zd_TL_submit_86 : decode zc_TL_submit 86 = .ok (.istore 8, 2) := by decide +kernel
theorem zd_TL_submit_88 : decode zc_TL_submit 88 = .ok (.iload 8, 2) := by decide +kernel
theorem zd_TL_submit_90 : decode zc_TL_submit 90 = .ok (.ifCond .eq 11, 3) := by decide +kernel
theorem zd_TL_submit_93 : decode zc_TL_submit 93 = .ok (.aload_n 0, 1) := by decide +kernel
theorem zd_TL_submit_94 : decode zc_TL_submit 94 = .ok (.iload_n 1, 1) := by decide +kernel
theorem zd_TL_submit_95 : decode zc_TL_submit 95 = .ok (.invokevirtual 66, 3) := by decide +kernel
theorem zd_TL_submit_98 : decode zc_TL_submit 98 = .ok (.ifCond .eq 5, 3) := by decide +kernel
theorem zd_TL_submit_101 : decode zc_TL_submit 101 = .ok (.iconst 0, 1) := by decide +kernel
theorem zd_TL_submit_102 : decode zc_TL_submit 102 = .ok (.ireturn, 1) := by decide +kernel
theorem zd_TL_submit_103 : decode zc_TL_submit 103 = .ok (.iload_n 1, 1) := by decide +kernel
theorem zd_TL_submit_104 : decode zc_TL_submit 104 = .ok (.iconst 3, 1) := by decide +kernel
theorem zd_TL_submit_105 : decode zc_TL_submit 105 = .ok (.imul, 1) := by decide +kernel
theorem zd_TL_submit_106 : decode zc_TL_submit 106 = .ok (.iload_n 2, 1) := by decide +kernel
theorem zd_TL_submit_107 : decode zc_TL_submit 107 = .ok (.iadd, 1) := by decide +kernel
theorem zd_TL_submit_108 : decode zc_TL_submit 108 = .ok (.istore 9, 2) := by decide +kernel
theorem zd_TL_submit_110 : decode zc_TL_submit 110 = .ok (.aload_n 0, 1) := by decide +kernel
theorem zd_TL_submit_111 : decode zc_TL_submit 111 = .ok (.getfield 31, 3) := by decide +kernel
theorem zd_TL_submit_114 : decode zc_TL_submit 114 = .ok (.iload 9, 2) := by decide +kernel
theorem zd_TL_submit_116 : decode zc_TL_submit 116 = .ok (.aaload, 1) := by decide +kernel
theorem zd_TL_submit_117 : decode zc_TL_submit 117 = .ok (.ifnull 5, 3) := by decide +kernel
theorem zd_TL_submit_120 : decode zc_TL_submit 120 = .ok (.iconst 0, 1) := by decide +kernel
theorem zd_TL_submit_121 : decode zc_TL_submit 121 = .ok (.ireturn, 1) := by decide +kernel
theorem zd_TL_submit_122 : decode zc_TL_submit 122 = .ok (.aload_n 0, 1) := by decide +kernel
theorem zd_TL_submit_123 : decode zc_TL_submit 123 = .ok (.getfield 31, 3) := by decide +kernel
theorem zd_TL_submit_126 : decode zc_TL_submit 126 = .ok (.iload 9, 2) := by decide +kernel
theorem zd_TL_submit_128 : decode zc_TL_submit 128 = .ok (.new 29, 3) := by decide +kernel
theorem zd_TL_submit_131 : decode zc_TL_submit 131 = .ok (.dup, 1) := by decide +kernel
theorem zd_TL_submit_132 : decode zc_TL_submit 132 = .ok (.iload_n 3, 1) := by decide +kernel
theorem zd_TL_submit_133 : decode zc_TL_submit 133 = .ok (.iload 4, 2) := by decide +kernel
theorem zd_TL_submit_135 : decode zc_TL_submit 135 = .ok (.iload 5, 2) := by decide +kernel
theorem zd_TL_submit_137 : decode zc_TL_submit 137 = .ok (.iload 6, 2) := by decide +kernel
theorem zd_TL_submit_139 : decode zc_TL_submit 139 = .ok (.iload 7, 2) := by decide +kernel
theorem zd_TL_submit_141 : decode zc_TL_submit 141 = .ok (.invokespecial 69, 3) := by decide +kernel
theorem zd_TL_submit_144 : decode zc_TL_submit 144 = .ok (.aastore, 1) := by decide +kernel
theorem zd_TL_submit_145 : decode zc_TL_submit 145 = .ok (.iconst 1, 1) := by decide +kernel
theorem zd_TL_submit_146 : decode zc_TL_submit 146 = .ok (.ireturn, 1) := by decide +kernel
theorem zd_TL_has_0 : decode zc_TL_has 0 = .ok (.iload_n 0, 1) := by decide +kernel
theorem zd_TL_has_1 : decode zc_TL_has 1 = .ok (.iload_n 1, 1) := by decide +kernel
theorem zd_TL_has_2 : decode zc_TL_has 2 = .ok (.iushr, 1) := by decide +kernel
theorem zd_TL_has_3 : decode zc_TL_has 3 = .ok (.iconst 1, 1) := by decide +kernel
theorem zd_TL_has_4 : decode zc_TL_has 4 = .ok (.iand, 1) := by decide +kernel
theorem zd_TL_has_5 : decode zc_TL_has 5 = .ok (.ifCond .eq 7, 3) := by decide +kernel
theorem zd_TL_has_8 : decode zc_TL_has 8 = .ok (.iconst 1, 1) := by decide +kernel
theorem zd_TL_has_9 : decode zc_TL_has 9 = .ok (.goto 4, 3) := by decide +kernel
theorem zd_TL_has_12 : decode zc_TL_has 12 = .ok (.iconst 0, 1) := by decide +kernel
theorem zd_TL_has_13 : decode zc_TL_has 13 = .ok (.ireturn, 1) := by decide +kernel
theorem zd_TL_isGood_0 : decode zc_TL_isGood 0 = .ok (.iload_n 1, 1) := by decide +kernel
theorem zd_TL_isGood_1 : decode zc_TL_isGood 1 = .ok (.iconst 0, 1) := by decide +kernel
theorem zd_TL_isGood_2 : decode zc_TL_isGood 2 = .ok (.iconst 4, 1) := by decide +kernel
theorem zd_TL_isGood_3 : decode zc_TL_isGood 3 = .ok (.invokestatic 41, 3) := by decide +kernel
theorem zd_TL_isGood_6 : decode zc_TL_isGood 6 = .ok (.ifCond .eq 18, 3) := by decide +kernel
theorem zd_TL_isGood_9 : decode zc_TL_isGood 9 = .ok (.aload_n 0, 1) := by decide +kernel
theorem zd_TL_isGood_10 : decode zc_TL_isGood 10 = .ok (.getfield 9, 3) := by decide +kernel
theorem zd_TL_isGood_13 : decode zc_TL_isGood 13 = .ok (.iload_n 1, 1) := by decide +kernel
theorem zd_TL_isGood_14 : decode zc_TL_isGood 14 = .ok (.invokestatic 135, 3) := by decide +kernel
theorem zd_TL_isGood_17 : decode zc_TL_isGood 17 = .ok (.ifCond .ne 7, 3) := by decide +kernel
theorem zd_TL_isGood_20 : decode zc_TL_isGood 20 = .ok (.iconst 1, 1) := by decide +kernel
theorem zd_TL_isGood_21 : decode zc_TL_isGood 21 = .ok (.goto 4, 3) := by decide +kernel
theorem zd_TL_isGood_24 : decode zc_TL_isGood 24 = .ok (.iconst 0, 1) := by decide +kernel
theorem zd_TL_isGood_25 : decode zc_TL_isGood 25 = .ok (.ireturn, 1) := by decide +kernel
theorem zd_TL_isAtWork_0 : decode zc_TL_isAtWork 0 = .ok (.aload_n 0, 1) := by decide +kernel
theorem zd_TL_isAtWork_1 : decode zc_TL_isAtWork 1 = .ok (.iload_n 1, 1) := by decide +kernel
theorem zd_TL_isAtWork_2 : decode zc_TL_isAtWork 2 = .ok (.invokevirtual 107, 3) := by decide +kernel
theorem zd_TL_isAtWork_5 : decode zc_TL_isAtWork 5 = .ok (.ifCond .eq 22, 3) := by decide +kernel
theorem zd_TL_isAtWork_8 : decode zc_TL_isAtWork 8 = .ok (.aload_n 0, 1) := by decide +kernel
theorem zd_TL_isAtWork_9 : decode zc_TL_isAtWork 9 = .ok (.getfield 22, 3) := by decide +kernel
theorem zd_TL_isAtWork_12 : decode zc_TL_isAtWork 12 = .ok (.iload_n 1, 1) := by decide +kernel
theorem zd_TL_isAtWork_13 : decode zc_TL_isAtWork 13 = .ok (.aaload, 1) := by decide +kernel
theorem zd_TL_isAtWork_14 : decode zc_TL_isAtWork 14 = .ok (.getfield 79, 3) := by decide +kernel
theorem zd_TL_isAtWork_17 : decode zc_TL_isAtWork 17 = .ok (.invokestatic 59, 3) := by decide +kernel
theorem zd_TL_isAtWork_20 : decode zc_TL_isAtWork 20 = .ok (.ifCond .eq 7, 3) := by decide +kernel
theorem zd_TL_isAtWork_23 : decode zc_TL_isAtWork 23 = .ok (.iconst 1, 1) := by decide +kernel
theorem zd_TL_isAtWork_24 : decode zc_TL_isAtWork 24 = .ok (.goto 4, 3) := by decide +kernel
theorem zd_TL_isAtWork_27 : decode zc_TL_isAtWork 27 = .ok (.iconst 0, 1) := by decide +kernel
theorem zd_TL_isAtWork_28 : decode zc_TL_isAtWork 28 = .ok (.ireturn, 1) := by decide +kernel
theorem zd_Trust_everyone_0 : decode zc_Trust_everyone 0 = .ok (.aload_n 0, 1) := by decide +kernel
theorem zd_Trust_everyone_1 : decode zc_Trust_everyone 1 = .ok (.getfield 15, 3) := by decide +kernel
theorem zd_Trust_everyone_4 : decode zc_Trust_everyone 4 = .ok (.aload_n 0, 1) := by decide +kernel
theorem zd_Trust_everyone_5 : decode zc_Trust_everyone 5 = .ok (.getfield 21, 3) := by decide +kernel
theorem zd_Trust_everyone_8 : decode zc_Trust_everyone 8 = .ok (.ior, 1) := by decide +kernel
theorem zd_Trust_everyone_9 : decode zc_Trust_everyone 9 = .ok (.ireturn, 1) := by decide +kernel
theorem zd_Agreement_beginRound_0 : decode zc_Agreement_beginRound 0 = .ok (.aload_n 0, 1) := by decide +kernel
theorem zd_Agreement_beginRound_1 : decode zc_Agreement_beginRound 1 = .ok (.dup, 1) := by decide +kernel
theorem zd_Agreement_beginRound_2 : decode zc_Agreement_beginRound 2 = .ok (.getfield 43, 3) := by decide +kernel
theorem zd_Agreement_beginRound_5 : decode zc_Agreement_beginRound 5 = .ok (.iconst 1, 1) := by decide +kernel
theorem zd_Agreement_beginRound_6 : decode zc_Agreement_beginRound 6 = .ok (.iadd, 1) := by decide +kernel
theorem zd_Agreement_beginRound_7 : decode zc_Agreement_beginRound 7 = .ok (.putfield 43, 3) := by decide +kernel
theorem zd_Agreement_beginRound_10 : decode zc_Agreement_beginRound 10 = .ok (.aload_n 0, 1) := by decide +kernel
theorem zd_Agreement_beginRound_11 : decode zc_Agreement_beginRound 11 = .ok (.getfield 24, 3) := by decide +kernel
theorem zd_Agreement_beginRound_14 : decode zc_Agreement_beginRound 14 = .ok (.invokevirtual 111, 3) := by decide +kernel
theorem zd_Agreement_beginRound_17 : decode zc_Agreement_beginRound 17 = .ok (.iconst 1, 1) := by decide +kernel
theorem zd_Agreement_beginRound_18 : decode zc_Agreement_beginRound 18 = .ok (.aload_n 0, 1) := by decide +kernel
theorem zd_Agreement_beginRound_19 : decode zc_Agreement_beginRound 19 = .ok (.getfield 9, 3) := by decide +kernel
theorem zd_Agreement_beginRound_22 : decode zc_Agreement_beginRound 22 = .ok (.ishl, 1) := by decide +kernel
theorem zd_Agreement_beginRound_23 : decode zc_Agreement_beginRound 23 = .ok (.ior, 1) := by decide +kernel
theorem zd_Agreement_beginRound_24 : decode zc_Agreement_beginRound 24 = .ok (.istore_n 1, 1) := by decide +kernel
theorem zd_Agreement_beginRound_25 : decode zc_Agreement_beginRound 25 = .ok (.aload_n 0, 1) := by decide +kernel
theorem zd_Agreement_beginRound_26 : decode zc_Agreement_beginRound 26 = .ok (.getfield 9, 3) := by decide +kernel
theorem zd_Agreement_beginRound_29 : decode zc_Agreement_beginRound 29 = .ok (.istore_n 2, 1) := by decide +kernel
theorem zd_Agreement_beginRound_30 : decode zc_Agreement_beginRound 30 = .ok (.iconst (-1), 1) := by decide +kernel
theorem zd_Agreement_beginRound_31 : decode zc_Agreement_beginRound 31 = .ok (.istore_n 3, 1) := by decide +kernel
theorem zd_Agreement_beginRound_32 : decode zc_Agreement_beginRound 32 = .ok (.iconst 0, 1) := by decide +kernel
theorem zd_Agreement_beginRound_33 : decode zc_Agreement_beginRound 33 = .ok (.istore 4, 2) := by decide +kernel
theorem zd_Agreement_beginRound_35 : decode zc_Agreement_beginRound 35 = .ok (.iload 4, 2) := by decide +kernel
theorem zd_Agreement_beginRound_37 : decode zc_Agreement_beginRound 37 = .ok (.iconst 5, 1) := by decide +kernel
theorem zd_Agreement_beginRound_38 : decode zc_Agreement_beginRound 38 = .ok (.if_icmp .ge 59, 3) := by decide +kernel
theorem zd_Agreement_beginRound_41 : decode zc_Agreement_beginRound 41 = .ok (.bipush 37, 2) := by decide +kernel
theorem zd_Agreement_beginRound_43 : decode zc_Agreement_beginRound 43 = .ok (.iload 4, 2) := by decide +kernel
theorem zd_Agreement_beginRound_45 : decode zc_Agreement_beginRound 45 = .ok (.imul, 1) := by decide +kernel
theorem zd_Agreement_beginRound_46 : decode zc_Agreement_beginRound 46 = .ok (.bipush 61, 2) := by decide +kernel
theorem zd_Agreement_beginRound_48 : decode zc_Agreement_beginRound 48 = .ok (.aload_n 0, 1) := by decide +kernel
theorem zd_Agreement_beginRound_49 : decode zc_Agreement_beginRound 49 = .ok (.getfield 15, 3) := by decide +kernel
theorem zd_Agreement_beginRound_52 : decode zc_Agreement_beginRound 52 = .ok (.imul, 1) := by decide +kernel
theorem zd_Agreement_beginRound_53 : decode zc_Agreement_beginRound 53 = .ok (.iadd, 1) := by decide +kernel
theorem zd_Agreement_beginRound_54 : decode zc_Agreement_beginRound 54 = .ok (.bipush 17, 2) := by decide +kernel
theorem zd_Agreement_beginRound_56 : decode zc_Agreement_beginRound 56 = .ok (.aload_n 0, 1) := by decide +kernel
theorem zd_Agreement_beginRound_57 : decode zc_Agreement_beginRound 57 = .ok (.getfield 43, 3) := by decide +kernel
theorem zd_Agreement_beginRound_60 : decode zc_Agreement_beginRound 60 = .ok (.imul, 1) := by decide +kernel
theorem zd_Agreement_beginRound_61 : decode zc_Agreement_beginRound 61 = .ok (.iadd, 1) := by decide +kernel
theorem zd_Agreement_beginRound_62 : decode zc_Agreement_beginRound 62 = .ok (.bipush 29, 2) := by decide +kernel
theorem zd_Agreement_beginRound_64 : decode zc_Agreement_beginRound 64 = .ok (.imul, 1) := by decide +kernel
theorem zd_Agreement_beginRound_65 : decode zc_Agreement_beginRound 65 = .ok (.bipush 101, 2) := by decide +kernel
theorem zd_Agreement_beginRound_67 : decode zc_Agreement_beginRound 67 = .ok (.irem, 1) := by decide +kernel
theorem zd_Agreement_beginRound_68 : decode zc_Agreement_beginRound 68 = .ok (.istore 5, 2) := by decide +kernel
theorem zd_Agreement_beginRound_70 : decode zc_Agreement_beginRound 70 = .ok (.iload_n 1, 1) := by decide +kernel
theorem zd_Agreement_beginRound_71 : decode zc_Agreement_beginRound 71 = .ok (.iload 4, 2) := by decide +kernel
theorem zd_Agreement_beginRound_73 : decode zc_Agreement_beginRound 73 = .ok (.invokestatic 116, 3) := by decide +kernel
theorem zd_Agreement_beginRound_76 : decode zc_Agreement_beginRound 76 = .ok (.ifCond .eq 15, 3) := by decide +kernel
theorem zd_Agreement_beginRound_79 : decode zc_Agreement_beginRound 79 = .ok (.iload 5, 2) := by decide +kernel
theorem zd_Agreement_beginRound_81 : decode zc_Agreement_beginRound 81 = .ok (.iload_n 3, 1) := by decide +kernel
theorem zd_Agreement_beginRound_82 : decode zc_Agreement_beginRound 82 = .ok (.if_icmp .le 9, 3) := by decide +kernel
theorem zd_Agreement_beginRound_85 : decode zc_Agreement_beginRound 85 = .ok (.iload 4, 2) := by decide +kernel
theorem zd_Agreement_beginRound_87 : decode zc_Agreement_beginRound 87 = .ok (.istore_n 2, 1) := by decide +kernel
theorem zd_Agreement_beginRound_88 : decode zc_Agreement_beginRound 88 = .ok (.iload 5, 2) := by decide +kernel
theorem zd_Agreement_beginRound_90 : decode zc_Agreement_beginRound 90 = .ok (.istore_n 3, 1) := by decide +kernel
theorem zd_Agreement_beginRound_91 : decode zc_Agreement_beginRound 91 = .ok (.iinc 4 1, 3) := by decide +kernel
theorem zd_Agreement_beginRound_94 : decode zc_Agreement_beginRound 94 = .ok (.goto (-59), 3) := by decide +kernel
theorem zd_Agreement_beginRound_97 : decode zc_Agreement_beginRound 97 = .ok (.aload_n 0, 1) := by decide +kernel
theorem zd_Agreement_beginRound_98 : decode zc_Agreement_beginRound 98 = .ok (.dup, 1) := by decide +kernel
theorem zd_Agreement_beginRound_99 : decode zc_Agreement_beginRound 99 = .ok (.getfield 46, 3) := by decide +kernel
theorem zd_Agreement_beginRound_102 : decode zc_Agreement_beginRound 102 = .ok (.iconst 1, 1) := by decide +kernel
theorem zd_Agreement_beginRound_103 : decode zc_Agreement_beginRound 103 = .ok (.iload_n 2, 1) := by decide +kernel
theorem zd_Agreement_beginRound_104 : decode zc_Agreement_beginRound 104 = .ok (.ishl, 1) := by decide +kernel
theorem zd_Agreement_beginRound_105 : decode zc_Agreement_beginRound 105 = .ok (.ior, 1) := by decide +kernel
theorem zd_Agreement_beginRound_106 : decode zc_Agreement_beginRound 106 = .ok (.putfield 46, 3) := by decide +kernel
theorem zd_Agreement_beginRound_109 : decode zc_Agreement_beginRound 109 = .ok (.return_, 1) := by decide +kernel
theorem zd_Agreement_takeProposal_0 : decode zc_Agreement_takeProposal 0 = .ok (.aload_n 0, 1) := by decide +kernel
theorem zd_Agreement_takeProposal_1 : decode zc_Agreement_takeProposal 1 = .ok (.iload_n 1, 1) := by decide +kernel
theorem zd_Agreement_takeProposal_2 : decode zc_Agreement_takeProposal 2 = .ok (.putfield 56, 3) := by decide +kernel
theorem zd_Agreement_takeProposal_5 : decode zc_Agreement_takeProposal 5 = .ok (.aload_n 0, 1) := by decide +kernel
theorem zd_Agreement_takeProposal_6 : decode zc_Agreement_takeProposal 6 = .ok (.getfield 43, 3) := by decide +kernel
theorem zd_Agreement_takeProposal_9 : decode zc_Agreement_takeProposal 9 = .ok (.ifCond .ne 7, 3) := by decide +kernel
theorem zd_Agreement_takeProposal_12 : decode zc_Agreement_takeProposal 12 = .ok (.aload_n 0, 1) := by decide +kernel
theorem zd_Agreement_takeProposal_13 : decode zc_Agreement_takeProposal 13 = .ok (.invokevirtual 59, 3) := by decide +kernel
theorem zd_Agreement_takeProposal_16 : decode zc_Agreement_takeProposal 16 = .ok (.return_, 1) := by decide +kernel
theorem zd_Statements_nodesWith_0 : decode zc_Statements_nodesWith 0 = .ok (.iconst 0, 1) := by decide +kernel
theorem zd_Statements_nodesWith_1 : decode zc_Statements_nodesWith 1 = .ok (.istore_n 3, 1) := by decide +kernel
theorem zd_Statements_nodesWith_2 : decode zc_Statements_nodesWith 2 = .ok (.iconst 0, 1) := by decide +kernel
theorem zd_Statements_nodesWith_3 : decode zc_Statements_nodesWith 3 = .ok (.istore 4, 2) := by decide +kernel
theorem zd_Statements_nodesWith_5 : decode zc_Statements_nodesWith 5 = .ok (.iload 4, 2) := by decide +kernel
theorem zd_Statements_nodesWith_7 : decode zc_Statements_nodesWith 7 = .ok (.iconst 5, 1) := by decide +kernel
theorem zd_Statements_nodesWith_8 : decode zc_Statements_nodesWith 8 = .ok (.if_icmp .ge 27, 3) := by decide +kernel
theorem zd_Statements_nodesWith_11 : decode zc_Statements_nodesWith 11 = .ok (.aload_n 1, 1) := by decide +kernel
theorem zd_Statements_nodesWith_12 : decode zc_Statements_nodesWith 12 = .ok (.iload 4, 2) := by decide +kernel
theorem zd_Statements_nodesWith_14 : decode zc_Statements_nodesWith 14 = .ok (.iaload, 1) := by decide +kernel
theorem zd_Statements_nodesWith_15 : decode zc_Statements_nodesWith 15 = .ok (.iload_n 2, 1) := by decide +kernel
theorem zd_Statements_nodesWith_16 : decode zc_Statements_nodesWith 16 = .ok (.invokestatic 29, 3) := by decide +kernel
theorem zd_Statements_nodesWith_19 : decode zc_Statements_nodesWith 19 = .ok (.ifCond .eq 10, 3) := by decide +kernel
theorem zd_Statements_nodesWith_22 : decode zc_Statements_nodesWith 22 = .ok (.iload_n 3, 1) := by decide +kernel
theorem zd_Statements_nodesWith_23 : decode zc_Statements_nodesWith 23 = .ok (.iconst 1, 1) := by decide +kernel
theorem zd_Statements_nodesWith_24 : decode zc_Statements_nodesWith 24 = .ok (.iload 4, 2) := by decide +kernel
theorem zd_Statements_nodesWith_26 : decode zc_Statements_nodesWith 26 = .ok (.ishl, 1) := by decide +kernel
theorem zd_Statements_nodesWith_27 : decode zc_Statements_nodesWith 27 = .ok (.ior, 1) := by decide +kernel
theorem zd_Statements_nodesWith_28 : decode zc_Statements_nodesWith 28 = .ok (.istore_n 3, 1) := by decide +kernel
theorem zd_Statements_nodesWith_29 : decode zc_Statements_nodesWith 29 = .ok (.iinc 4 1, 3) := by decide +kernel
theorem zd_Statements_nodesWith_32 : decode zc_Statements_nodesWith 32 = .ok (.goto (-27), 3) := by decide +kernel
theorem zd_Statements_nodesWith_35 : decode zc_Statements_nodesWith 35 = .ok (.iload_n 3, 1) := by decide +kernel
theorem zd_Statements_nodesWith_36 : decode zc_Statements_nodesWith 36 = .ok (.ireturn, 1) := by decide +kernel
theorem zd_Statements_vote_0 : decode zc_Statements_vote 0 = .ok (.aload_n 0, 1) := by decide +kernel
theorem zd_Statements_vote_1 : decode zc_Statements_vote 1 = .ok (.getfield 26, 3) := by decide +kernel
theorem zd_Statements_vote_4 : decode zc_Statements_vote 4 = .ok (.iload_n 1, 1) := by decide +kernel
theorem zd_Statements_vote_5 : decode zc_Statements_vote 5 = .ok (.invokestatic 29, 3) := by decide +kernel
theorem zd_Statements_vote_8 : decode zc_Statements_vote 8 = .ok (.ifCond .eq 5, 3) := by decide +kernel
theorem zd_Statements_vote_11 : decode zc_Statements_vote 11 = .ok (.iconst 0, 1) := by decide +kernel
theorem zd_Statements_vote_12 : decode zc_Statements_vote 12 = .ok (.ireturn, 1) := by decide +kernel
theorem zd_Statements_vote_13 : decode zc_Statements_vote 13 = .ok (.aload_n 0, 1) := by decide +kernel
theorem zd_Statements_vote_14 : decode zc_Statements_vote 14 = .ok (.dup, 1) := by decide +kernel
theorem zd_Statements_vote_15 : decode zc_Statements_vote 15 = .ok (.getfield 26, 3) := by decide +kernel
theorem zd_Statements_vote_18 : decode zc_Statements_vote 18 = .ok (.iconst 1, 1) := by decide +kernel
theorem zd_Statements_vote_19 : decode zc_Statements_vote 19 = .ok (.iload_n 1, 1) := by decide +kernel
theorem zd_Statements_vote_20 : decode zc_Statements_vote 20 = .ok (.ishl, 1) := by decide +kernel
theorem zd_Statements_vote_21 : decode zc_Statements_vote 21 = .ok (.ior, 1) := by decide +kernel
theorem zd_Statements_vote_22 : decode zc_Statements_vote 22 = .ok (.putfield 26, 3) := by decide +kernel
theorem zd_Statements_vote_25 : decode zc_Statements_vote 25 = .ok (.aload_n 0, 1) := by decide +kernel
theorem zd_Statements_vote_26 : decode zc_Statements_vote 26 = .ok (.getfield 19, 3) := by decide +kernel
theorem zd_Statements_vote_29 : decode zc_Statements_vote 29 = .ok (.aload_n 0, 1) := by decide +kernel
theorem zd_Statements_vote_30 : decode zc_Statements_vote 30 = .ok (.getfield 9, 3) := by decide +kernel
theorem zd_Statements_vote_33 : decode zc_Statements_vote 33 = .ok (.dup2, 1) := by decide +kernel
theorem zd_Statements_vote_34 : decode zc_Statements_vote 34 = .ok (.iaload, 1) := by decide +kernel
theorem zd_Statements_vote_35 : decode zc_Statements_vote 35 = .ok (.iconst 1, 1) := by decide +kernel
theorem zd_Statements_vote_36 : decode zc_Statements_vote 36 = .ok (.iload_n 1, 1) := by decide +kernel
theorem zd_Statements_vote_37 : decode zc_Statements_vote 37 = .ok (.ishl, 1) := by decide +kernel
theorem zd_Statements_vote_38 : decode zc_Statements_vote 38 = .ok (.ior, 1) := by decide +kernel
theorem zd_Statements_vote_39 : decode zc_Statements_vote 39 = .ok (.iastore, 1) := by decide +kernel
theorem zd_Statements_vote_40 : decode zc_Statements_vote 40 = .ok (.iconst 1, 1) := by decide +kernel
theorem zd_Statements_vote_41 : decode zc_Statements_vote 41 = .ok (.ireturn, 1) := by decide +kernel
theorem zd_Agreement_voteNominate_0 : decode zc_Agreement_voteNominate 0 = .ok (.iconst 0, 1) := by decide +kernel
theorem zd_Agreement_voteNominate_1 : decode zc_Agreement_voteNominate 1 = .ok (.istore_n 1, 1) := by decide +kernel
theorem zd_Agreement_voteNominate_2 : decode zc_Agreement_voteNominate 2 = .ok (.aload_n 0, 1) := by decide +kernel
theorem zd_Agreement_voteNominate_3 : decode zc_Agreement_voteNominate 3 = .ok (.getfield 33, 3) := by decide +kernel
theorem zd_Agreement_voteNominate_6 : decode zc_Agreement_voteNominate 6 = .ok (.getfield 131, 3) := by decide +kernel
theorem zd_Agreement_voteNominate_9 : decode zc_Agreement_voteNominate 9 = .ok (.ifCond .eq 5, 3) := by decide +kernel
theorem zd_Agreement_voteNominate_12 : decode zc_Agreement_voteNominate 12 = .ok (.iload_n 1, 1) := by decide +kernel
theorem zd_Agreement_voteNominate_13 : decode zc_Agreement_voteNominate 13 = .ok (.ireturn, 1) := by decide +kernel
theorem zd_Agreement_voteNominate_14 : decode zc_Agreement_voteNominate 14 = .ok (.iconst 1, 1) := by decide +kernel
theorem zd_Agreement_voteNominate_15 : decode zc_Agreement_voteNominate 15 = .ok (.istore_n 2, 1) := by decide +kernel
theorem zd_Agreement_voteNominate_16 : decode zc_Agreement_voteNominate 16 = .ok (.iload_n 2, 1) := by decide +kernel
theorem zd_Agreement_voteNominate_17 : decode zc_Agreement_voteNominate 17 = .ok (.bipush 7, 2) := by decide +kernel
theorem zd_Agreement_voteNominate_19 : decode zc_Agreement_voteNominate 19 = .ok (.if_icmp .gt 75, 3) := by decide +kernel
theorem zd_Agreement_voteNominate_22 : decode zc_Agreement_voteNominate 22 = .ok (.aload_n 0, 1) := by decide +kernel
theorem zd_Agreement_voteNominate_23 : decode zc_Agreement_voteNominate 23 = .ok (.getfield 46, 3) := by decide +kernel
theorem zd_Agreement_voteNominate_26 : decode zc_Agreement_voteNominate 26 = .ok (.aload_n 0, 1) := by decide +kernel
theorem zd_Agreement_voteNominate_27 : decode zc_Agreement_voteNominate 27 = .ok (.getfield 9, 3) := by decide +kernel
theorem zd_Agreement_voteNominate_30 : decode zc_Agreement_voteNominate 30 = .ok (.invokestatic 116, 3) := by decide +kernel
theorem zd_Agreement_voteNominate_33 : decode zc_Agreement_voteNominate 33 = .ok (.ifCond .eq 15, 3) := by decide +kernel
theorem zd_Agreement_voteNominate_36 : decode zc_Agreement_voteNominate 36 = .ok (.iload_n 2, 1) := by decide +kernel
theorem zd_Agreement_voteNominate_37 : decode zc_Agreement_voteNominate 37 = .ok (.aload_n 0, 1) := by decide +kernel
theorem zd_Agreement_voteNominate_38 : decode zc_Agreement_voteNominate 38 = .ok (.getfield 56, 3) := by decide +kernel
theorem zd_Agreement_voteNominate_41 : decode zc_Agreement_voteNominate 41 = .ok (.if_icmp .ne 7, 3) := by decide +kernel
theorem zd_Agreement_voteNominate_44 : decode zc_Agreement_voteNominate 44 = .ok (.iconst 1, 1) := by decide +kernel
theorem zd_Agreement_voteNominate_45 : decode zc_Agreement_voteNominate 45 = .ok (.goto 4, 3) := by decide +kernel
theorem zd_Agreement_voteNominate_48 : decode zc_Agreement_voteNominate 48 = .ok (.iconst 0, 1) := by decide +kernel
theorem zd_Agreement_voteNominate_49 : decode zc_Agreement_voteNominate 49 = .ok (.istore_n 3, 1) := by decide +kernel
theorem zd_Agreement_voteNominate_50 : decode zc_Agreement_voteNominate 50 = .ok (.iload_n 3, 1) := by decide +kernel
theorem zd_Agreement_voteNominate_51 : decode zc_Agreement_voteNominate 51 = .ok (.ifCond .ne 26, 3) := by decide +kernel
theorem zd_Agreement_voteNominate_54 : decode zc_Agreement_voteNominate 54 = .ok (.aload_n 0, 1) := by decide +kernel
theorem zd_Agreement_voteNominate_55 : decode zc_Agreement_voteNominate 55 = .ok (.getfield 33, 3) := by decide +kernel
theorem zd_Agreement_voteNominate_58 : decode zc_Agreement_voteNominate 58 = .ok (.aload_n 0, 1) := by decide +kernel
theorem zd_Agreement_voteNominate_59 : decode zc_Agreement_voteNominate 59 = .ok (.getfield 33, 3) := by decide +kernel
theorem zd_Agreement_voteNominate_62 : decode zc_Agreement_voteNominate 62 = .ok (.getfield 69, 3) := by decide +kernel
theorem zd_Agreement_voteNominate_65 : decode zc_Agreement_voteNominate 65 = .ok (.iload_n 2, 1) := by decide +kernel
theorem zd_Agreement_voteNominate_66 : decode zc_Agreement_voteNominate 66 = .ok (.invokevirtual 138, 3) := by decide +kernel
theorem zd_Agreement_voteNominate_69 : decode zc_Agreement_voteNominate 69 = .ok (.aload_n 0, 1) := by decide +kernel
theorem zd_Agreement_voteNominate_70 : decode zc_Agreement_voteNominate 70 = .ok (.getfield 46, 3) := by decide +kernel
theorem zd_Agreement_voteNominate_73 : decode zc_Agreement_voteNominate 73 = .ok (.iand, 1) := by decide +kernel
theorem zd_Agreement_voteNominate_74 : decode zc_Agreement_voteNominate 74 = .ok (.ifCond .eq 14, 3) := by decide +kernel
theorem zd_Agreement_voteNominate_77 : decode zc_Agreement_voteNominate 77 = .ok (.iload_n 1, 1) := by decide +kernel
theorem zd_Agreement_voteNominate_78 : decode zc_Agreement_voteNominate 78 = .ok (.aload_n 0, 1) := by decide +kernel
theorem zd_Agreement_voteNominate_79 : decode zc_Agreement_voteNominate 79 = .ok (.getfield 33, 3) := by decide +kernel
theorem zd_Agreement_voteNominate_82 : decode zc_Agreement_voteNominate 82 = .ok (.iload_n 2, 1) := by decide +kernel
theorem zd_Agreement_voteNominate_83 : decode zc_Agreement_voteNominate 83 = .ok (.invokevirtual 127, 3) := by decide +kernel
theorem zd_Agreement_voteNominate_86 : decode zc_Agreement_voteNominate 86 = .ok (.ior, 1) := by decide +kernel
theorem zd_Agreement_voteNominate_87 : decode zc_Agreement_voteNominate 87 = .ok (.istore_n 1, 1) := by decide +kernel
theorem zd_Agreement_voteNominate_88 : decode zc_Agreement_voteNominate 88 = .ok (.iinc 2 1, 3) := by decide +kernel
theorem zd_Agreement_voteNominate_91 : decode zc_Agreement_voteNominate 91 = .ok (.goto (-75), 3) := by decide +kernel
theorem zd_Agreement_voteNominate_94 : decode zc_Agreement_voteNominate 94 = .ok (.iload_n 1, 1) := by decide +kernel
theorem zd_Agreement_voteNominate_95 : decode zc_Agreement_voteNominate 95 = .ok (.ireturn, 1) := by decide +kernel
theorem zd_Int_bitCount_0 : decode zc_Int_bitCount 0 = .ok (.iload_n 0, 1) := by decide +kernel
theorem zd_Int_bitCount_1 : decode zc_Int_bitCount 1 = .ok (.iload_n 0, 1) := by decide +kernel
theorem zd_Int_bitCount_2 : decode zc_Int_bitCount 2 = .ok (.iconst 1, 1) := by decide +kernel
theorem zd_Int_bitCount_3 : decode zc_Int_bitCount 3 = .ok (.iushr, 1) := by decide +kernel
theorem zd_Int_bitCount_4 : decode zc_Int_bitCount 4 = .ok (.ldc_w 265, 3) := by decide +kernel
theorem zd_Int_bitCount_7 : decode zc_Int_bitCount 7 = .ok (.iand, 1) := by decide +kernel
theorem zd_Int_bitCount_8 : decode zc_Int_bitCount 8 = .ok (.isub, 1) := by decide +kernel
theorem zd_Int_bitCount_9 : decode zc_Int_bitCount 9 = .ok (.istore_n 0, 1) := by decide +kernel
theorem zd_Int_bitCount_10 : decode zc_Int_bitCount 10 = .ok (.iload_n 0, 1) := by decide +kernel
theorem zd_Int_bitCount_11 : decode zc_Int_bitCount 11 = .ok (.ldc_w 266, 3) := by decide +kernel
theorem zd_Int_bitCount_14 : decode zc_Int_bitCount 14 = .ok (.iand, 1) := by decide +kernel
theorem zd_Int_bitCount_15 : decode zc_Int_bitCount 15 = .ok (.iload_n 0, 1) := by decide +kernel
theorem zd_Int_bitCount_16 : decode zc_Int_bitCount 16 = .ok (.iconst 2, 1) := by decide +kernel
theorem zd_Int_bitCount_17 : decode zc_Int_bitCount 17 = .ok (.iushr, 1) := by decide +kernel
theorem zd_Int_bitCount_18 : decode zc_Int_bitCount 18 = .ok (.ldc_w 266, 3) := by decide +kernel
theorem zd_Int_bitCount_21 : decode zc_Int_bitCount 21 = .ok (.iand, 1) := by decide +kernel
theorem zd_Int_bitCount_22 : decode zc_Int_bitCount 22 = .ok (.iadd, 1) := by decide +kernel
theorem zd_Int_bitCount_23 : decode zc_Int_bitCount 23 = .ok (.istore_n 0, 1) := by decide +kernel
theorem zd_Int_bitCount_24 : decode zc_Int_bitCount 24 = .ok (.iload_n 0, 1) := by decide +kernel
theorem zd_Int_bitCount_25 : decode zc_Int_bitCount 25 = .ok (.iload_n 0, 1) := by decide +kernel
theorem zd_Int_bitCount_26 : decode zc_Int_bitCount 26 = .ok (.iconst 4, 1) := by decide +kernel
theorem zd_Int_bitCount_27 : decode zc_Int_bitCount 27 = .ok (.iushr, 1) := by decide +kernel
theorem zd_Int_bitCount_28 : decode zc_Int_bitCount 28 = .ok (.iadd, 1) := by decide +kernel
theorem zd_Int_bitCount_29 : decode zc_Int_bitCount 29 = .ok (.ldc_w 267, 3) := by decide +kernel
theorem zd_Int_bitCount_32 : decode zc_Int_bitCount 32 = .ok (.iand, 1) := by decide +kernel
theorem zd_Int_bitCount_33 : decode zc_Int_bitCount 33 = .ok (.istore_n 0, 1) := by decide +kernel
theorem zd_Int_bitCount_34 : decode zc_Int_bitCount 34 = .ok (.iload_n 0, 1) := by decide +kernel
theorem zd_Int_bitCount_35 : decode zc_Int_bitCount 35 = .ok (.iload_n 0, 1) := by decide +kernel
theorem zd_Int_bitCount_36 : decode zc_Int_bitCount 36 = .ok (.bipush 8, 2) := by decide +kernel
theorem zd_Int_bitCount_38 : decode zc_Int_bitCount 38 = .ok (.iushr, 1) := by decide +kernel
theorem zd_Int_bitCount_39 : decode zc_Int_bitCount 39 = .ok (.iadd, 1) := by decide +kernel
theorem zd_Int_bitCount_40 : decode zc_Int_bitCount 40 = .ok (.istore_n 0, 1) := by decide +kernel
theorem zd_Int_bitCount_41 : decode zc_Int_bitCount 41 = .ok (.iload_n 0, 1) := by decide +kernel
theorem zd_Int_bitCount_42 : decode zc_Int_bitCount 42 = .ok (.iload_n 0, 1) := by decide +kernel
theorem zd_Int_bitCount_43 : decode zc_Int_bitCount 43 = .ok (.bipush 16, 2) := by decide +kernel
theorem zd_Int_bitCount_45 : decode zc_Int_bitCount 45 = .ok (.iushr, 1) := by decide +kernel
theorem zd_Int_bitCount_46 : decode zc_Int_bitCount 46 = .ok (.iadd, 1) := by decide +kernel
theorem zd_Int_bitCount_47 : decode zc_Int_bitCount 47 = .ok (.istore_n 0, 1) := by decide +kernel
theorem zd_Int_bitCount_48 : decode zc_Int_bitCount 48 = .ok (.iload_n 0, 1) := by decide +kernel
theorem zd_Int_bitCount_49 : decode zc_Int_bitCount 49 = .ok (.bipush 63, 2) := by decide +kernel
theorem zd_Int_bitCount_51 : decode zc_Int_bitCount 51 = .ok (.iand, 1) := by decide +kernel
theorem zd_Int_bitCount_52 : decode zc_Int_bitCount 52 = .ok (.ireturn, 1) := by decide +kernel
theorem zd_Trust_isSatisfiedBy_0 : decode zc_Trust_isSatisfiedBy 0 = .ok (.iload_n 1, 1) := by decide +kernel
theorem zd_Trust_isSatisfiedBy_1 : decode zc_Trust_isSatisfiedBy 1 = .ok (.aload_n 0, 1) := by decide +kernel
theorem zd_Trust_isSatisfiedBy_2 : decode zc_Trust_isSatisfiedBy 2 = .ok (.getfield 15, 3) := by decide +kernel
theorem zd_Trust_isSatisfiedBy_5 : decode zc_Trust_isSatisfiedBy 5 = .ok (.iand, 1) := by decide +kernel
theorem zd_Trust_isSatisfiedBy_6 : decode zc_Trust_isSatisfiedBy 6 = .ok (.invokestatic 24, 3) := by decide +kernel
theorem zd_Trust_isSatisfiedBy_9 : decode zc_Trust_isSatisfiedBy 9 = .ok (.istore_n 2, 1) := by decide +kernel
theorem zd_Trust_isSatisfiedBy_10 : decode zc_Trust_isSatisfiedBy 10 = .ok (.aload_n 0, 1) := by decide +kernel
theorem zd_Trust_isSatisfiedBy_11 : decode zc_Trust_isSatisfiedBy 11 = .ok (.getfield 18, 3) := by decide +kernel
theorem zd_Trust_isSatisfiedBy_14 : decode zc_Trust_isSatisfiedBy 14 = .ok (.ifCond .le 22, 3) := by decide +kernel
theorem zd_Trust_isSatisfiedBy_17 : decode zc_Trust_isSatisfiedBy 17 = .ok (.iload_n 1, 1) := by decide +kernel
theorem zd_Trust_isSatisfiedBy_18 : decode zc_Trust_isSatisfiedBy 18 = .ok (.aload_n 0, 1) := by decide +kernel
theorem zd_Trust_isSatisfiedBy_19 : decode zc_Trust_isSatisfiedBy 19 = .ok (.getfield 21, 3) := by decide +kernel
theorem zd_Trust_isSatisfiedBy_22 : decode zc_Trust_isSatisfiedBy 22 = .ok (.iand, 1) := by decide +kernel
theorem zd_Trust_isSatisfiedBy_23 : decode zc_Trust_isSatisfiedBy 23 = .ok (.invokestatic 24, 3) := by decide +kernel
theorem zd_Trust_isSatisfiedBy_26 : decode zc_Trust_isSatisfiedBy 26 = .ok (.aload_n 0, 1) := by decide +kernel
theorem zd_Trust_isSatisfiedBy_27 : decode zc_Trust_isSatisfiedBy 27 = .ok (.getfield 18, 3) := by decide +kernel
theorem zd_Trust_isSatisfiedBy_30 : decode zc_Trust_isSatisfiedBy 30 = .ok (.if_icmp .lt 6, 3) := by decide +kernel
theorem zd_Trust_isSatisfiedBy_33 : decode zc_Trust_isSatisfiedBy 33 = .ok (.iinc 2 1, 3) := by decide +kernel
theorem zd_Trust_isSatisfiedBy_36 : decode zc_Trust_isSatisfiedBy 36 = .ok (.iload_n 2, 1) := by decide +kernel
theorem zd_Trust_isSatisfiedBy_37 : decode zc_Trust_isSatisfiedBy 37 = .ok (.aload_n 0, 1) := by decide +kernel
theorem zd_Trust_isSatisfiedBy_38 : decode zc_Trust_isSatisfiedBy 38 = .ok (.getfield 9, 3) := by decide +kernel
theorem zd_Trust_isSatisfiedBy_41 : decode zc_Trust_isSatisfiedBy 41 = .ok (.if_icmp .lt 7, 3) := by decide +kernel
theorem zd_Trust_isSatisfiedBy_44 : decode zc_Trust_isSatisfiedBy 44 = .ok (.iconst 1, 1) := by decide +kernel
theorem zd_Trust_isSatisfiedBy_45 : decode zc_Trust_isSatisfiedBy 45 = .ok (.goto 4, 3) := by decide +kernel
theorem zd_Trust_isSatisfiedBy_48 : decode zc_Trust_isSatisfiedBy 48 = .ok (.iconst 0, 1) := by decide +kernel
theorem zd_Trust_isSatisfiedBy_49 : decode zc_Trust_isSatisfiedBy 49 = .ok (.ireturn, 1) := by decide +kernel
theorem zd_Quorums_isGivenTo_0 : decode zc_Quorums_isGivenTo 0 = .ok (.iload_n 2, 1) := by decide +kernel
theorem zd_Quorums_isGivenTo_1 : decode zc_Quorums_isGivenTo 1 = .ok (.istore_n 3, 1) := by decide +kernel
theorem zd_Quorums_isGivenTo_2 : decode zc_Quorums_isGivenTo 2 = .ok (.iconst 0, 1) := by decide +kernel
theorem zd_Quorums_isGivenTo_3 : decode zc_Quorums_isGivenTo 3 = .ok (.istore 4, 2) := by decide +kernel
theorem zd_Quorums_isGivenTo_5 : decode zc_Quorums_isGivenTo 5 = .ok (.iload 4, 2) := by decide +kernel
theorem zd_Quorums_isGivenTo_7 : decode zc_Quorums_isGivenTo 7 = .ok (.iconst 5, 1) := by decide +kernel
theorem zd_Quorums_isGivenTo_8 : decode zc_Quorums_isGivenTo 8 = .ok (.if_icmp .ge 75, 3) := by decide +kernel
theorem zd_Quorums_isGivenTo_11 : decode zc_Quorums_isGivenTo 11 = .ok (.iload_n 3, 1) := by decide +kernel
theorem zd_Quorums_isGivenTo_12 : decode zc_Quorums_isGivenTo 12 = .ok (.iload_n 1, 1) := by decide +kernel
theorem zd_Quorums_isGivenTo_13 : decode zc_Quorums_isGivenTo 13 = .ok (.invokestatic 18, 3) := by decide +kernel
theorem zd_Quorums_isGivenTo_16 : decode zc_Quorums_isGivenTo 16 = .ok (.ifCond .eq 67, 3) := by decide +kernel
theorem zd_Quorums_isGivenTo_19 : decode zc_Quorums_isGivenTo 19 = .ok (.iload_n 3, 1) := by decide +kernel
theorem zd_Quorums_isGivenTo_20 : decode zc_Quorums_isGivenTo 20 = .ok (.istore 5, 2) := by decide +kernel
theorem zd_Quorums_isGivenTo_22 : decode zc_Quorums_isGivenTo 22 = .ok (.iconst 0, 1) := by decide +kernel
theorem zd_Quorums_isGivenTo_23 : decode zc_Quorums_isGivenTo 23 = .ok (.istore 6, 2) := by decide +kernel
theorem zd_Quorums_isGivenTo_25 : decode zc_Quorums_isGivenTo 25 = .ok (.iload 6, 2) := by decide +kernel
theorem zd_Quorums_isGivenTo_27 : decode zc_Quorums_isGivenTo 27 = .ok (.iconst 5, 1) := by decide +kernel
theorem zd_Quorums_isGivenTo_28 : decode zc_Quorums_isGivenTo 28 = .ok (.if_icmp .ge 41, 3) := by decide +kernel
theorem zd_Quorums_isGivenTo_31 : decode zc_Quorums_isGivenTo 31 = .ok (.iload_n 3, 1) := by decide +kernel
theorem zd_Quorums_isGivenTo_32 : decode zc_Quorums_isGivenTo 32 = .ok (.iload 6, 2) := by decide +kernel
theorem zd_Quorums_isGivenTo_34 : decode zc_Quorums_isGivenTo 34 = .ok (.invokestatic 18, 3) := by decide +kernel
theorem zd_Quorums_isGivenTo_37 : decode zc_Quorums_isGivenTo 37 = .ok (.ifCond .eq 26, 3) := by decide +kernel
theorem zd_Quorums_isGivenTo_40 : decode zc_Quorums_isGivenTo 40 = .ok (.aload_n 0, 1) := by decide +kernel
theorem zd_Quorums_isGivenTo_41 : decode zc_Quorums_isGivenTo 41 = .ok (.getfield 11, 3) := by decide +kernel
theorem zd_Quorums_isGivenTo_44 : decode zc_Quorums_isGivenTo 44 = .ok (.iload 6, 2) := by decide +kernel
theorem zd_Quorums_isGivenTo_46 : decode zc_Quorums_isGivenTo 46 = .ok (.aaload, 1) := by decide +kernel
theorem zd_Quorums_isGivenTo_47 : decode zc_Quorums_isGivenTo 47 = .ok (.iload_n 3, 1) := by decide +kernel
theorem zd_Quorums_isGivenTo_48 : decode zc_Quorums_isGivenTo 48 = .ok (.invokevirtual 22, 3) := by decide +kernel
theorem zd_Quorums_isGivenTo_51 : decode zc_Quorums_isGivenTo 51 = .ok (.ifCond .ne 12, 3) := by decide +kernel
theorem zd_Quorums_isGivenTo_54 : decode zc_Quorums_isGivenTo 54 = .ok (.iload_n 3, 1) := by decide +kernel
theorem zd_Quorums_isGivenTo_55 : decode zc_Quorums_isGivenTo 55 = .ok (.iconst 1, 1) := by decide +kernel
theorem zd_Quorums_isGivenTo_56 : decode zc_Quorums_isGivenTo 56 = .ok (.iload 6, 2) := by decide +kernel
theorem zd_Quorums_isGivenTo_58 : decode zc_Quorums_isGivenTo 58 = .ok (.ishl, 1) := by decide +kernel
theorem zd_Quorums_isGivenTo_59 : decode zc_Quorums_isGivenTo 59 = .ok (.iconst (-1), 1) := by decide +kernel
theorem zd_Quorums_isGivenTo_60 : decode zc_Quorums_isGivenTo 60 = .ok (.ixor, 1) := by decide +kernel
theorem zd_Quorums_isGivenTo_61 : decode zc_Quorums_isGivenTo 61 = .ok (.iand, 1) := by decide +kernel
theorem zd_Quorums_isGivenTo_62 : decode zc_Quorums_isGivenTo 62 = .ok (.istore_n 3, 1) := by decide +kernel
theorem zd_Quorums_isGivenTo_63 : decode zc_Quorums_isGivenTo 63 = .ok (.iinc 6 1, 3) := by decide +kernel
theorem zd_Quorums_isGivenTo_66 : decode zc_Quorums_isGivenTo 66 = .ok (.goto (-41), 3) := by decide +kernel
theorem zd_Quorums_isGivenTo_69 : decode zc_Quorums_isGivenTo 69 = .ok (.iload_n 3, 1) := by decide +kernel
theorem zd_Quorums_isGivenTo_70 : decode zc_Quorums_isGivenTo 70 = .ok (.iload 5, 2) := by decide +kernel
theorem zd_Quorums_isGivenTo_72 : decode zc_Quorums_isGivenTo 72 = .ok (.if_icmp .ne 5, 3) := by decide +kernel
theorem zd_Quorums_isGivenTo_75 : decode zc_Quorums_isGivenTo 75 = .ok (.iconst 1, 1) := by decide +kernel
theorem zd_Quorums_isGivenTo_76 : decode zc_Quorums_isGivenTo 76 = .ok (.ireturn, 1) := by decide +kernel
theorem zd_Quorums_isGivenTo_77 : decode zc_Quorums_isGivenTo 77 = .ok (.iinc 4 1, 3) := by decide +kernel
theorem zd_Quorums_isGivenTo_80 : decode zc_Quorums_isGivenTo 80 = .ok (.goto (-75), 3) := by decide +kernel
theorem zd_Quorums_isGivenTo_83 : decode zc_Quorums_isGivenTo 83 = .ok (.iconst 0, 1) := by decide +kernel
theorem zd_Quorums_isGivenTo_84 : decode zc_Quorums_isGivenTo 84 = .ok (.ireturn, 1) := by decide +kernel
theorem zd_Trust_isBlockedBy_0 : decode zc_Trust_isBlockedBy 0 = .ok (.aload_n 0, 1) := by decide +kernel
theorem zd_Trust_isBlockedBy_1 : decode zc_Trust_isBlockedBy 1 = .ok (.bipush 31, 2) := by decide +kernel
theorem zd_Trust_isBlockedBy_3 : decode zc_Trust_isBlockedBy 3 = .ok (.iload_n 1, 1) := by decide +kernel
theorem zd_Trust_isBlockedBy_4 : decode zc_Trust_isBlockedBy 4 = .ok (.iconst (-1), 1) := by decide +kernel
theorem zd_Trust_isBlockedBy_5 : decode zc_Trust_isBlockedBy 5 = .ok (.ixor, 1) := by decide +kernel
theorem zd_Trust_isBlockedBy_6 : decode zc_Trust_isBlockedBy 6 = .ok (.iand, 1) := by decide +kernel
theorem zd_Trust_isBlockedBy_7 : decode zc_Trust_isBlockedBy 7 = .ok (.invokevirtual 30, 3) := by decide +kernel
theorem zd_Trust_isBlockedBy_10 : decode zc_Trust_isBlockedBy 10 = .ok (.ifCond .ne 7, 3) := by decide +kernel
theorem zd_Trust_isBlockedBy_13 : decode zc_Trust_isBlockedBy 13 = .ok (.iconst 1, 1) := by decide +kernel
theorem zd_Trust_isBlockedBy_14 : decode zc_Trust_isBlockedBy 14 = .ok (.goto 4, 3) := by decide +kernel
theorem zd_Trust_isBlockedBy_17 : decode zc_Trust_isBlockedBy 17 = .ok (.iconst 0, 1) := by decide +kernel
theorem zd_Trust_isBlockedBy_18 : decode zc_Trust_isBlockedBy 18 = .ok (.ireturn, 1) := by decide +kernel
theorem zd_Statements_acceptIfMay_0 : decode zc_Statements_acceptIfMay 0 = .ok (.aload_n 0, 1) := by decide +kernel
theorem zd_Statements_acceptIfMay_1 : decode zc_Statements_acceptIfMay 1 = .ok (.getfield 23, 3) := by decide +kernel
theorem zd_Statements_acceptIfMay_4 : decode zc_Statements_acceptIfMay 4 = .ok (.aload_n 0, 1) := by decide +kernel
theorem zd_Statements_acceptIfMay_5 : decode zc_Statements_acceptIfMay 5 = .ok (.getfield 9, 3) := by decide +kernel
theorem zd_Statements_acceptIfMay_8 : decode zc_Statements_acceptIfMay 8 = .ok (.iaload, 1) := by decide +kernel
theorem zd_Statements_acceptIfMay_9 : decode zc_Statements_acceptIfMay 9 = .ok (.iload_n 1, 1) := by decide +kernel
theorem zd_Statements_acceptIfMay_10 : decode zc_Statements_acceptIfMay 10 = .ok (.invokestatic 29, 3) := by decide +kernel
theorem zd_Statements_acceptIfMay_13 : decode zc_Statements_acceptIfMay 13 = .ok (.ifCond .eq 5, 3) := by decide +kernel
theorem zd_Statements_acceptIfMay_16 : decode zc_Statements_acceptIfMay 16 = .ok (.iconst 0, 1) := by decide +kernel
theorem zd_Statements_acceptIfMay_17 : decode zc_Statements_acceptIfMay 17 = .ok (.ireturn, 1) := by decide +kernel
theorem zd_Statements_acceptIfMay_18 : decode zc_Statements_acceptIfMay 18 = .ok (.aload_n 0, 1) := by decide +kernel
theorem zd_Statements_acceptIfMay_19 : decode zc_Statements_acceptIfMay 19 = .ok (.getfield 19, 3) := by decide +kernel
theorem zd_Statements_acceptIfMay_22 : decode zc_Statements_acceptIfMay 22 = .ok (.aload_n 0, 1) := by decide +kernel
theorem zd_Statements_acceptIfMay_23 : decode zc_Statements_acceptIfMay 23 = .ok (.getfield 9, 3) := by decide +kernel
theorem zd_Statements_acceptIfMay_26 : decode zc_Statements_acceptIfMay 26 = .ok (.iaload, 1) := by decide +kernel
theorem zd_Statements_acceptIfMay_27 : decode zc_Statements_acceptIfMay 27 = .ok (.iload_n 1, 1) := by decide +kernel
theorem zd_Statements_acceptIfMay_28 : decode zc_Statements_acceptIfMay 28 = .ok (.invokestatic 29, 3) := by decide +kernel
theorem zd_Statements_acceptIfMay_31 : decode zc_Statements_acceptIfMay 31 = .ok (.ifCond .eq 26, 3) := by decide +kernel
theorem zd_Statements_acceptIfMay_34 : decode zc_Statements_acceptIfMay 34 = .ok (.aload_n 0, 1) := by decide +kernel
theorem zd_Statements_acceptIfMay_35 : decode zc_Statements_acceptIfMay 35 = .ok (.getfield 15, 3) := by decide +kernel
theorem zd_Statements_acceptIfMay_38 : decode zc_Statements_acceptIfMay 38 = .ok (.aload_n 0, 1) := by decide +kernel
theorem zd_Statements_acceptIfMay_39 : decode zc_Statements_acceptIfMay 39 = .ok (.getfield 9, 3) := by decide +kernel
theorem zd_Statements_acceptIfMay_42 : decode zc_Statements_acceptIfMay 42 = .ok (.aload_n 0, 1) := by decide +kernel
theorem zd_Statements_acceptIfMay_43 : decode zc_Statements_acceptIfMay 43 = .ok (.aload_n 0, 1) := by decide +kernel
theorem zd_Statements_acceptIfMay_44 : decode zc_Statements_acceptIfMay 44 = .ok (.getfield 19, 3) := by decide +kernel
theorem zd_Statements_acceptIfMay_47 : decode zc_Statements_acceptIfMay 47 = .ok (.iload_n 1, 1) := by decide +kernel
theorem zd_Statements_acceptIfMay_48 : decode zc_Statements_acceptIfMay 48 = .ok (.invokevirtual 33, 3) := by decide +kernel
theorem zd_Statements_acceptIfMay_51 : decode zc_Statements_acceptIfMay 51 = .ok (.invokevirtual 37, 3) := by decide +kernel
theorem zd_Statements_acceptIfMay_54 : decode zc_Statements_acceptIfMay 54 = .ok (.ifCond .ne 30, 3) := by decide +kernel
theorem zd_Statements_acceptIfMay_57 : decode zc_Statements_acceptIfMay 57 = .ok (.aload_n 0, 1) := by decide +kernel
theorem zd_Statements_acceptIfMay_58 : decode zc_Statements_acceptIfMay 58 = .ok (.getfield 15, 3) := by decide +kernel
theorem zd_Statements_acceptIfMay_61 : decode zc_Statements_acceptIfMay 61 = .ok (.getfield 42, 3) := by decide +kernel
theorem zd_Statements_acceptIfMay_64 : decode zc_Statements_acceptIfMay 64 = .ok (.aload_n 0, 1) := by decide +kernel
theorem zd_Statements_acceptIfMay_65 : decode zc_Statements_acceptIfMay 65 = .ok (.getfield 9, 3) := by decide +kernel
theorem zd_Statements_acceptIfMay_68 : decode zc_Statements_acceptIfMay 68 = .ok (.aaload, 1) := by decide +kernel
theorem zd_Statements_acceptIfMay_69 : decode zc_Statements_acceptIfMay 69 = .ok (.aload_n 0, 1) := by decide +kernel
theorem zd_Statements_acceptIfMay_70 : decode zc_Statements_acceptIfMay 70 = .ok (.aload_n 0, 1) := by decide +kernel
theorem zd_Statements_acceptIfMay_71 : decode zc_Statements_acceptIfMay 71 = .ok (.getfield 23, 3) := by decide +kernel
theorem zd_Statements_acceptIfMay_74 : decode zc_Statements_acceptIfMay 74 = .ok (.iload_n 1, 1) := by decide +kernel
theorem zd_Statements_acceptIfMay_75 : decode zc_Statements_acceptIfMay 75 = .ok (.invokevirtual 33, 3) := by decide +kernel
theorem zd_Statements_acceptIfMay_78 : decode zc_Statements_acceptIfMay 78 = .ok (.invokevirtual 46, 3) := by decide +kernel
theorem zd_Statements_acceptIfMay_81 : decode zc_Statements_acceptIfMay 81 = .ok (.ifCond .eq 7, 3) := by decide +kernel
theorem zd_Statements_acceptIfMay_84 : decode zc_Statements_acceptIfMay 84 = .ok (.iconst 1, 1) := by decide +kernel
theorem zd_Statements_acceptIfMay_85 : decode zc_Statements_acceptIfMay 85 = .ok (.goto 4, 3) := by decide +kernel
theorem zd_Statements_acceptIfMay_88 : decode zc_Statements_acceptIfMay 88 = .ok (.iconst 0, 1) := by decide +kernel
theorem zd_Statements_acceptIfMay_89 : decode zc_Statements_acceptIfMay 89 = .ok (.istore_n 2, 1) := by decide +kernel
theorem zd_Statements_acceptIfMay_90 : decode zc_Statements_acceptIfMay 90 = .ok (.iload_n 2, 1) := by decide +kernel
theorem zd_Statements_acceptIfMay_91 : decode zc_Statements_acceptIfMay 91 = .ok (.ifCond .eq 33, 3) := by decide +kernel
theorem zd_Statements_acceptIfMay_94 : decode zc_Statements_acceptIfMay 94 = .ok (.aload_n 0, 1) := by decide +kernel
theorem zd_Statements_acceptIfMay_95 : decode zc_Statements_acceptIfMay 95 = .ok (.getfield 23, 3) := by decide +kernel
theorem zd_Statements_acceptIfMay_98 : decode zc_Statements_acceptIfMay 98 = .ok (.aload_n 0, 1) := by decide +kernel
theorem zd_Statements_acceptIfMay_99 : decode zc_Statements_acceptIfMay 99 = .ok (.getfield 9, 3) := by decide +kernel
theorem zd_Statements_acceptIfMay_102 : decode zc_Statements_acceptIfMay 102 = .ok (.dup2, 1) := by decide +kernel
theorem zd_Statements_acceptIfMay_103 : decode zc_Statements_acceptIfMay 103 = .ok (.iaload, 1) := by decide +kernel
theorem zd_Statements_acceptIfMay_104 : decode zc_Statements_acceptIfMay 104 = .ok (.iconst 1, 1) := by decide +kernel
theorem zd_Statements_acceptIfMay_105 : decode zc_Statements_acceptIfMay 105 = .ok (.iload_n 1, 1) := by decide +kernel
theorem zd_Statements_acceptIfMay_106 : decode zc_Statements_acceptIfMay 106 = .ok (.ishl, 1) := by decide +kernel
theorem zd_Statements_acceptIfMay_107 : decode zc_Statements_acceptIfMay 107 = .ok (.ior, 1) := by decide +kernel
theorem zd_Statements_acceptIfMay_108 : decode zc_Statements_acceptIfMay 108 = .ok (.iastore, 1) := by decide +kernel
theorem zd_Statements_acceptIfMay_109 : decode zc_Statements_acceptIfMay 109 = .ok (.aload_n 0, 1) := by decide +kernel
theorem zd_Statements_acceptIfMay_110 : decode zc_Statements_acceptIfMay 110 = .ok (.getfield 19, 3) := by decide +kernel
theorem zd_Statements_acceptIfMay_113 : decode zc_Statements_acceptIfMay 113 = .ok (.aload_n 0, 1) := by decide +kernel
theorem zd_Statements_acceptIfMay_114 : decode zc_Statements_acceptIfMay 114 = .ok (.getfield 9, 3) := by decide +kernel
theorem zd_Statements_acceptIfMay_117 : decode zc_Statements_acceptIfMay 117 = .ok (.dup2, 1) := by decide +kernel
theorem zd_Statements_acceptIfMay_118 : decode zc_Statements_acceptIfMay 118 = .ok (.iaload, 1) := by decide +kernel
theorem zd_Statements_acceptIfMay_119 : decode zc_Statements_acceptIfMay 119 = .ok (.iconst 1, 1) := by decide +kernel
theorem zd_Statements_acceptIfMay_120 : decode zc_Statements_acceptIfMay 120 = .ok (.iload_n 1, 1) := by decide +kernel
theorem zd_Statements_acceptIfMay_121 : decode zc_Statements_acceptIfMay 121 = .ok (.ishl, 1) := by decide +kernel
theorem zd_Statements_acceptIfMay_122 : decode zc_Statements_acceptIfMay 122 = .ok (.ior, 1) := by decide +kernel
theorem zd_Statements_acceptIfMay_123 : decode zc_Statements_acceptIfMay 123 = .ok (.iastore, 1) := by decide +kernel
theorem zd_Statements_acceptIfMay_124 : decode zc_Statements_acceptIfMay 124 = .ok (.iload_n 2, 1) := by decide +kernel
theorem zd_Statements_acceptIfMay_125 : decode zc_Statements_acceptIfMay 125 = .ok (.ireturn, 1) := by decide +kernel
theorem zd_Agreement_acceptNominate_0 : decode zc_Agreement_acceptNominate 0 = .ok (.iconst 0, 1) := by decide +kernel
theorem zd_Agreement_acceptNominate_1 : decode zc_Agreement_acceptNominate 1 = .ok (.istore_n 1, 1) := by decide +kernel
theorem zd_Agreement_acceptNominate_2 : decode zc_Agreement_acceptNominate 2 = .ok (.iconst 1, 1) := by decide +kernel
theorem zd_Agreement_acceptNominate_3 : decode zc_Agreement_acceptNominate 3 = .ok (.istore_n 2, 1) := by decide +kernel
theorem zd_Agreement_acceptNominate_4 : decode zc_Agreement_acceptNominate 4 = .ok (.iload_n 2, 1) := by decide +kernel
theorem zd_Agreement_acceptNominate_5 : decode zc_Agreement_acceptNominate 5 = .ok (.bipush 7, 2) := by decide +kernel
theorem zd_Agreement_acceptNominate_7 : decode zc_Agreement_acceptNominate 7 = .ok (.if_icmp .gt 20, 3) := by decide +kernel
theorem zd_Agreement_acceptNominate_10 : decode zc_Agreement_acceptNominate 10 = .ok (.iload_n 1, 1) := by decide +kernel
theorem zd_Agreement_acceptNominate_11 : decode zc_Agreement_acceptNominate 11 = .ok (.aload_n 0, 1) := by decide +kernel
theorem zd_Agreement_acceptNominate_12 : decode zc_Agreement_acceptNominate 12 = .ok (.getfield 33, 3) := by decide +kernel
theorem zd_Agreement_acceptNominate_15 : decode zc_Agreement_acceptNominate 15 = .ok (.iload_n 2, 1) := by decide +kernel
theorem zd_Agreement_acceptNominate_16 : decode zc_Agreement_acceptNominate 16 = .ok (.invokevirtual 142, 3) := by decide +kernel
theorem zd_Agreement_acceptNominate_19 : decode zc_Agreement_acceptNominate 19 = .ok (.ior, 1) := by decide +kernel
theorem zd_Agreement_acceptNominate_20 : decode zc_Agreement_acceptNominate 20 = .ok (.istore_n 1, 1) := by decide +kernel
theorem zd_Agreement_acceptNominate_21 : decode zc_Agreement_acceptNominate 21 = .ok (.iinc 2 1, 3) := by decide +kernel
theorem zd_Agreement_acceptNominate_24 : decode zc_Agreement_acceptNominate 24 = .ok (.goto (-20), 3) := by decide +kernel
theorem zd_Agreement_acceptNominate_27 : decode zc_Agreement_acceptNominate 27 = .ok (.iload_n 1, 1) := by decide +kernel
theorem zd_Agreement_acceptNominate_28 : decode zc_Agreement_acceptNominate 28 = .ok (.ireturn, 1) := by decide +kernel
theorem zd_Statements_confirmIfMay_0 : decode zc_Statements_confirmIfMay 0 = .ok (.aload_n 0, 1) := by decide +kernel
theorem zd_Statements_confirmIfMay_1 : decode zc_Statements_confirmIfMay 1 = .ok (.getfield 23, 3) := by decide +kernel
theorem zd_Statements_confirmIfMay_4 : decode zc_Statements_confirmIfMay 4 = .ok (.aload_n 0, 1) := by decide +kernel
theorem zd_Statements_confirmIfMay_5 : decode zc_Statements_confirmIfMay 5 = .ok (.getfield 9, 3) := by decide +kernel
theorem zd_Statements_confirmIfMay_8 : decode zc_Statements_confirmIfMay 8 = .ok (.iaload, 1) := by decide +kernel
theorem zd_Statements_confirmIfMay_9 : decode zc_Statements_confirmIfMay 9 = .ok (.iload_n 1, 1) := by decide +kernel
theorem zd_Statements_confirmIfMay_10 : decode zc_Statements_confirmIfMay 10 = .ok (.invokestatic 29, 3) := by decide +kernel
theorem zd_Statements_confirmIfMay_13 : decode zc_Statements_confirmIfMay 13 = .ok (.ifCond .eq 18, 3) := by decide +kernel
theorem zd_Statements_confirmIfMay_16 : decode zc_Statements_confirmIfMay 16 = .ok (.aload_n 0, 1) := by decide +kernel
theorem zd_Statements_confirmIfMay_17 : decode zc_Statements_confirmIfMay 17 = .ok (.getfield 52, 3) := by decide +kernel
theorem zd_Statements_confirmIfMay_20 : decode zc_Statements_confirmIfMay 20 = .ok (.iload_n 1, 1) := by decide +kernel
theorem zd_Statements_confirmIfMay_21 : decode zc_Statements_confirmIfMay 21 = .ok (.invokestatic 29, 3) := by decide +kernel
theorem zd_Statements_confirmIfMay_24 : decode zc_Statements_confirmIfMay 24 = .ok (.ifCond .ne 7, 3) := by decide +kernel
theorem zd_Statements_confirmIfMay_27 : decode zc_Statements_confirmIfMay 27 = .ok (.iconst 1, 1) := by decide +kernel
theorem zd_Statements_confirmIfMay_28 : decode zc_Statements_confirmIfMay 28 = .ok (.goto 4, 3) := by decide +kernel
theorem zd_Statements_confirmIfMay_31 : decode zc_Statements_confirmIfMay 31 = .ok (.iconst 0, 1) := by decide +kernel
theorem zd_Statements_confirmIfMay_32 : decode zc_Statements_confirmIfMay 32 = .ok (.istore_n 2, 1) := by decide +kernel
theorem zd_Statements_confirmIfMay_33 : decode zc_Statements_confirmIfMay 33 = .ok (.iload_n 2, 1) := by decide +kernel
theorem zd_Statements_confirmIfMay_34 : decode zc_Statements_confirmIfMay 34 = .ok (.ifCond .eq 26, 3) := by decide +kernel
theorem zd_Statements_confirmIfMay_37 : decode zc_Statements_confirmIfMay 37 = .ok (.aload_n 0, 1) := by decide +kernel
theorem zd_Statements_confirmIfMay_38 : decode zc_Statements_confirmIfMay 38 = .ok (.getfield 15, 3) := by decide +kernel
theorem zd_Statements_confirmIfMay_41 : decode zc_Statements_confirmIfMay 41 = .ok (.aload_n 0, 1) := by decide +kernel
theorem zd_Statements_confirmIfMay_42 : decode zc_Statements_confirmIfMay 42 = .ok (.getfield 9, 3) := by decide +kernel
theorem zd_Statements_confirmIfMay_45 : decode zc_Statements_confirmIfMay 45 = .ok (.aload_n 0, 1) := by decide +kernel
theorem zd_Statements_confirmIfMay_46 : decode zc_Statements_confirmIfMay 46 = .ok (.aload_n 0, 1) := by decide +kernel
theorem zd_Statements_confirmIfMay_47 : decode zc_Statements_confirmIfMay 47 = .ok (.getfield 23, 3) := by decide +kernel
theorem zd_Statements_confirmIfMay_50 : decode zc_Statements_confirmIfMay 50 = .ok (.iload_n 1, 1) := by decide +kernel
theorem zd_Statements_confirmIfMay_51 : decode zc_Statements_confirmIfMay 51 = .ok (.invokevirtual 33, 3) := by decide +kernel
theorem zd_Statements_confirmIfMay_54 : decode zc_Statements_confirmIfMay 54 = .ok (.invokevirtual 37, 3) := by decide +kernel
theorem zd_Statements_confirmIfMay_57 : decode zc_Statements_confirmIfMay 57 = .ok (.ifCond .ne 5, 3) := by decide +kernel
theorem zd_Statements_confirmIfMay_60 : decode zc_Statements_confirmIfMay 60 = .ok (.iconst 0, 1) := by decide +kernel
theorem zd_Statements_confirmIfMay_61 : decode zc_Statements_confirmIfMay 61 = .ok (.ireturn, 1) := by decide +kernel
theorem zd_Statements_confirmIfMay_62 : decode zc_Statements_confirmIfMay 62 = .ok (.aload_n 0, 1) := by decide +kernel
theorem zd_Statements_confirmIfMay_63 : decode zc_Statements_confirmIfMay 63 = .ok (.dup, 1) := by decide +kernel
theorem zd_Statements_confirmIfMay_64 : decode zc_Statements_confirmIfMay 64 = .ok (.getfield 52, 3) := by decide +kernel
theorem zd_Statements_confirmIfMay_67 : decode zc_Statements_confirmIfMay 67 = .ok (.iconst 1, 1) := by decide +kernel
theorem zd_Statements_confirmIfMay_68 : decode zc_Statements_confirmIfMay 68 = .ok (.iload_n 1, 1) := by decide +kernel
theorem zd_Statements_confirmIfMay_69 : decode zc_Statements_confirmIfMay 69 = .ok (.ishl, 1) := by decide +kernel
theorem zd_Statements_confirmIfMay_70 : decode zc_Statements_confirmIfMay 70 = .ok (.ior, 1) := by decide +kernel
theorem zd_Statements_confirmIfMay_71 : decode zc_Statements_confirmIfMay 71 = .ok (.putfield 52, 3) := by decide +kernel
theorem zd_Statements_confirmIfMay_74 : decode zc_Statements_confirmIfMay 74 = .ok (.iconst 1, 1) := by decide +kernel
theorem zd_Statements_confirmIfMay_75 : decode zc_Statements_confirmIfMay 75 = .ok (.ireturn, 1) := by decide +kernel
theorem zd_Agreement_confirmNominate_0 : decode zc_Agreement_confirmNominate 0 = .ok (.iconst 0, 1) := by decide +kernel
theorem zd_Agreement_confirmNominate_1 : decode zc_Agreement_confirmNominate 1 = .ok (.istore_n 1, 1) := by decide +kernel
theorem zd_Agreement_confirmNominate_2 : decode zc_Agreement_confirmNominate 2 = .ok (.iconst 1, 1) := by decide +kernel
theorem zd_Agreement_confirmNominate_3 : decode zc_Agreement_confirmNominate 3 = .ok (.istore_n 2, 1) := by decide +kernel
theorem zd_Agreement_confirmNominate_4 : decode zc_Agreement_confirmNominate 4 = .ok (.iload_n 2, 1) := by decide +kernel
theorem zd_Agreement_confirmNominate_5 : decode zc_Agreement_confirmNominate 5 = .ok (.bipush 7, 2) := by decide +kernel
theorem zd_Agreement_confirmNominate_7 : decode zc_Agreement_confirmNominate 7 = .ok (.if_icmp .gt 20, 3) := by decide +kernel
theorem zd_Agreement_confirmNominate_10 : decode zc_Agreement_confirmNominate 10 = .ok (.iload_n 1, 1) := by decide +kernel
theorem zd_Agreement_confirmNominate_11 : decode zc_Agreement_confirmNominate 11 = .ok (.aload_n 0, 1) := by decide +kernel
theorem zd_Agreement_confirmNominate_12 : decode zc_Agreement_confirmNominate 12 = .ok (.getfield 33, 3) := by decide +kernel
theorem zd_Agreement_confirmNominate_15 : decode zc_Agreement_confirmNominate 15 = .ok (.iload_n 2, 1) := by decide +kernel
theorem zd_Agreement_confirmNominate_16 : decode zc_Agreement_confirmNominate 16 = .ok (.invokevirtual 145, 3) := by decide +kernel
theorem zd_Agreement_confirmNominate_19 : decode zc_Agreement_confirmNominate 19 = .ok (.ior, 1) := by decide +kernel
theorem zd_Agreement_confirmNominate_20 : decode zc_Agreement_confirmNominate 20 = .ok (.istore_n 1, 1) := by decide +kernel
theorem zd_Agreement_confirmNominate_21 : decode zc_Agreement_confirmNominate 21 = .ok (.iinc 2 1, 3) := by decide +kernel
theorem zd_Agreement_confirmNominate_24 : decode zc_Agreement_confirmNominate 24 = .ok (.goto (-20), 3) := by decide +kernel
theorem zd_Agreement_confirmNominate_27 : decode zc_Agreement_confirmNominate 27 = .ok (.iload_n 1, 1) := by decide +kernel
theorem zd_Agreement_confirmNominate_28 : decode zc_Agreement_confirmNominate 28 = .ok (.ireturn, 1) := by decide +kernel
theorem zd_Agreement_composite_0 : decode zc_Agreement_composite 0 = .ok (.iconst 0, 1) := by decide +kernel
theorem zd_Agreement_composite_1 : decode zc_Agreement_composite 1 = .ok (.istore_n 1, 1) := by decide +kernel
theorem zd_Agreement_composite_2 : decode zc_Agreement_composite 2 = .ok (.iconst 1, 1) := by decide +kernel
theorem zd_Agreement_composite_3 : decode zc_Agreement_composite 3 = .ok (.istore_n 2, 1) := by decide +kernel
theorem zd_Agreement_composite_4 : decode zc_Agreement_composite 4 = .ok (.iload_n 2, 1) := by decide +kernel
theorem zd_Agreement_composite_5 : decode zc_Agreement_composite 5 = .ok (.bipush 7, 2) := by decide +kernel
theorem zd_Agreement_composite_7 : decode zc_Agreement_composite 7 = .ok (.if_icmp .gt 27, 3) := by decide +kernel
theorem zd_Agreement_composite_10 : decode zc_Agreement_composite 10 = .ok (.aload_n 0, 1) := by decide +kernel
theorem zd_Agreement_composite_11 : decode zc_Agreement_composite 11 = .ok (.getfield 33, 3) := by decide +kernel
theorem zd_Agreement_composite_14 : decode zc_Agreement_composite 14 = .ok (.getfield 131, 3) := by decide +kernel
theorem zd_Agreement_composite_17 : decode zc_Agreement_composite 17 = .ok (.iload_n 2, 1) := by decide +kernel
theorem zd_Agreement_composite_18 : decode zc_Agreement_composite 18 = .ok (.invokestatic 116, 3) := by decide +kernel
theorem zd_Agreement_composite_21 : decode zc_Agreement_composite 21 = .ok (.ifCond .eq 7, 3) := by decide +kernel
theorem zd_Agreement_composite_24 : decode zc_Agreement_composite 24 = .ok (.iload_n 1, 1) := by decide +kernel
theorem zd_Agreement_composite_25 : decode zc_Agreement_composite 25 = .ok (.iload_n 2, 1) := by decide +kernel
theorem zd_Agreement_composite_26 : decode zc_Agreement_composite 26 = .ok (.ior, 1) := by decide +kernel
theorem zd_Agreement_composite_27 : decode zc_Agreement_composite 27 = .ok (.istore_n 1, 1) := by decide +kernel
theorem zd_Agreement_composite_28 : decode zc_Agreement_composite 28 = .ok (.iinc 2 1, 3) := by decide +kernel
theorem zd_Agreement_composite_31 : decode zc_Agreement_composite 31 = .ok (.goto (-27), 3) := by decide +kernel
theorem zd_Agreement_composite_34 : decode zc_Agreement_composite 34 = .ok (.iload_n 1, 1) := by decide +kernel
theorem zd_Agreement_composite_35 : decode zc_Agreement_composite 35 = .ok (.ireturn, 1) := by decide +kernel
theorem zd_TL_valueOf_0 : decode zc_TL_valueOf 0 = .ok (.iload_n 0, 1) := by decide +kernel
theorem zd_TL_valueOf_1 : decode zc_TL_valueOf 1 = .ok (.bipush 7, 2) := by decide +kernel
theorem zd_TL_valueOf_3 : decode zc_TL_valueOf 3 = .ok (.irem, 1) := by decide +kernel
theorem zd_TL_valueOf_4 : decode zc_TL_valueOf 4 = .ok (.iconst 1, 1) := by decide +kernel
theorem zd_TL_valueOf_5 : decode zc_TL_valueOf 5 = .ok (.iadd, 1) := by decide +kernel
theorem zd_TL_valueOf_6 : decode zc_TL_valueOf 6 = .ok (.ireturn, 1) := by decide +kernel
theorem zd_Agreement_valueToPrepare_0 : decode zc_Agreement_valueToPrepare 0 = .ok (.bipush 27, 2) := by decide +kernel
theorem zd_Agreement_valueToPrepare_2 : decode zc_Agreement_valueToPrepare 2 = .ok (.istore_n 1, 1) := by decide +kernel
theorem zd_Agreement_valueToPrepare_3 : decode zc_Agreement_valueToPrepare 3 = .ok (.iload_n 1, 1) := by decide +kernel
theorem zd_Agreement_valueToPrepare_4 : decode zc_Agreement_valueToPrepare 4 = .ok (.ifCond .lt 28, 3) := by decide +kernel
theorem zd_Agreement_valueToPrepare_7 : decode zc_Agreement_valueToPrepare 7 = .ok (.aload_n 0, 1) := by decide +kernel
theorem zd_Agreement_valueToPrepare_8 : decode zc_Agreement_valueToPrepare 8 = .ok (.getfield 37, 3) := by decide +kernel
theorem zd_Agreement_valueToPrepare_11 : decode zc_Agreement_valueToPrepare 11 = .ok (.getfield 131, 3) := by decide +kernel
theorem zd_Agreement_valueToPrepare_14 : decode zc_Agreement_valueToPrepare 14 = .ok (.iload_n 1, 1) := by decide +kernel
theorem zd_Agreement_valueToPrepare_15 : decode zc_Agreement_valueToPrepare 15 = .ok (.invokestatic 116, 3) := by decide +kernel
theorem zd_Agreement_valueToPrepare_18 : decode zc_Agreement_valueToPrepare 18 = .ok (.ifCond .eq 8, 3) := by decide +kernel
theorem zd_Agreement_valueToPrepare_21 : decode zc_Agreement_valueToPrepare 21 = .ok (.iload_n 1, 1) := by decide +kernel
theorem zd_Agreement_valueToPrepare_22 : decode zc_Agreement_valueToPrepare 22 = .ok (.invokestatic 134, 3) := by decide +kernel
theorem zd_Agreement_valueToPrepare_25 : decode zc_Agreement_valueToPrepare 25 = .ok (.ireturn, 1) := by decide +kernel
theorem zd_Agreement_valueToPrepare_26 : decode zc_Agreement_valueToPrepare 26 = .ok (.iinc 1 (-1), 3) := by decide +kernel
theorem zd_Agreement_valueToPrepare_29 : decode zc_Agreement_valueToPrepare 29 = .ok (.goto (-26), 3) := by decide +kernel
theorem zd_Agreement_valueToPrepare_32 : decode zc_Agreement_valueToPrepare 32 = .ok (.aload_n 0, 1) := by decide +kernel
theorem zd_Agreement_valueToPrepare_33 : decode zc_Agreement_valueToPrepare 33 = .ok (.invokevirtual 52, 3) := by decide +kernel
theorem zd_Agreement_valueToPrepare_36 : decode zc_Agreement_valueToPrepare 36 = .ok (.ireturn, 1) := by decide +kernel
theorem zd_TL_ballotOf_0 : decode zc_TL_ballotOf 0 = .ok (.bipush 7, 2) := by decide +kernel
theorem zd_TL_ballotOf_2 : decode zc_TL_ballotOf 2 = .ok (.iload_n 0, 1) := by decide +kernel
theorem zd_TL_ballotOf_3 : decode zc_TL_ballotOf 3 = .ok (.iconst 1, 1) := by decide +kernel
theorem zd_TL_ballotOf_4 : decode zc_TL_ballotOf 4 = .ok (.isub, 1) := by decide +kernel
theorem zd_TL_ballotOf_5 : decode zc_TL_ballotOf 5 = .ok (.imul, 1) := by decide +kernel
theorem zd_TL_ballotOf_6 : decode zc_TL_ballotOf 6 = .ok (.iload_n 1, 1) := by decide +kernel
theorem zd_TL_ballotOf_7 : decode zc_TL_ballotOf 7 = .ok (.iadd, 1) := by decide +kernel
theorem zd_TL_ballotOf_8 : decode zc_TL_ballotOf 8 = .ok (.iconst 1, 1) := by decide +kernel
theorem zd_TL_ballotOf_9 : decode zc_TL_ballotOf 9 = .ok (.isub, 1) := by decide +kernel
theorem zd_TL_ballotOf_10 : decode zc_TL_ballotOf 10 = .ok (.ireturn, 1) := by decide +kernel
theorem zd_Agreement_raiseCounter_0 : decode zc_Agreement_raiseCounter 0 = .ok (.aload_n 0, 1) := by decide +kernel
theorem zd_Agreement_raiseCounter_1 : decode zc_Agreement_raiseCounter 1 = .ok (.dup, 1) := by decide +kernel
theorem zd_Agreement_raiseCounter_2 : decode zc_Agreement_raiseCounter 2 = .ok (.getfield 49, 3) := by decide +kernel
theorem zd_Agreement_raiseCounter_5 : decode zc_Agreement_raiseCounter 5 = .ok (.iconst 1, 1) := by decide +kernel
theorem zd_Agreement_raiseCounter_6 : decode zc_Agreement_raiseCounter 6 = .ok (.iadd, 1) := by decide +kernel
theorem zd_Agreement_raiseCounter_7 : decode zc_Agreement_raiseCounter 7 = .ok (.putfield 49, 3) := by decide +kernel
theorem zd_Agreement_raiseCounter_10 : decode zc_Agreement_raiseCounter 10 = .ok (.aload_n 0, 1) := by decide +kernel
theorem zd_Agreement_raiseCounter_11 : decode zc_Agreement_raiseCounter 11 = .ok (.getfield 37, 3) := by decide +kernel
theorem zd_Agreement_raiseCounter_14 : decode zc_Agreement_raiseCounter 14 = .ok (.aload_n 0, 1) := by decide +kernel
theorem zd_Agreement_raiseCounter_15 : decode zc_Agreement_raiseCounter 15 = .ok (.getfield 49, 3) := by decide +kernel
theorem zd_Agreement_raiseCounter_18 : decode zc_Agreement_raiseCounter 18 = .ok (.aload_n 0, 1) := by decide +kernel
theorem zd_Agreement_raiseCounter_19 : decode zc_Agreement_raiseCounter 19 = .ok (.invokevirtual 120, 3) := by decide +kernel
theorem zd_Agreement_raiseCounter_22 : decode zc_Agreement_raiseCounter 22 = .ok (.invokestatic 123, 3) := by decide +kernel
theorem zd_Agreement_raiseCounter_25 : decode zc_Agreement_raiseCounter 25 = .ok (.invokevirtual 127, 3) := by decide +kernel
theorem zd_Agreement_raiseCounter_28 : decode zc_Agreement_raiseCounter 28 = .ok (.pop, 1) := by decide +kernel
theorem zd_Agreement_raiseCounter_29 : decode zc_Agreement_raiseCounter 29 = .ok (.return_, 1) := by decide +kernel
theorem zd_Agreement_beginPrepare_0 : decode zc_Agreement_beginPrepare 0 = .ok (.aload_n 0, 1) := by decide +kernel
theorem zd_Agreement_beginPrepare_1 : decode zc_Agreement_beginPrepare 1 = .ok (.getfield 49, 3) := by decide +kernel
theorem zd_Agreement_beginPrepare_4 : decode zc_Agreement_beginPrepare 4 = .ok (.ifCond .ne 10, 3) := by decide +kernel
theorem zd_Agreement_beginPrepare_7 : decode zc_Agreement_beginPrepare 7 = .ok (.aload_n 0, 1) := by decide +kernel
theorem zd_Agreement_beginPrepare_8 : decode zc_Agreement_beginPrepare 8 = .ok (.invokevirtual 52, 3) := by decide +kernel
theorem zd_Agreement_beginPrepare_11 : decode zc_Agreement_beginPrepare 11 = .ok (.ifCond .ne 5, 3) := by decide +kernel
theorem zd_Agreement_beginPrepare_14 : decode zc_Agreement_beginPrepare 14 = .ok (.iconst 0, 1) := by decide +kernel
theorem zd_Agreement_beginPrepare_15 : decode zc_Agreement_beginPrepare 15 = .ok (.ireturn, 1) := by decide +kernel
theorem zd_Agreement_beginPrepare_16 : decode zc_Agreement_beginPrepare 16 = .ok (.aload_n 0, 1) := by decide +kernel
theorem zd_Agreement_beginPrepare_17 : decode zc_Agreement_beginPrepare 17 = .ok (.invokevirtual 62, 3) := by decide +kernel
theorem zd_Agreement_beginPrepare_20 : decode zc_Agreement_beginPrepare 20 = .ok (.iconst 1, 1) := by decide +kernel
theorem zd_Agreement_beginPrepare_21 : decode zc_Agreement_beginPrepare 21 = .ok (.ireturn, 1) := by decide +kernel
theorem zd_TL_otherValued_0 : decode zc_TL_otherValued 0 = .ok (.ldc 142, 2) := by decide +kernel
theorem zd_TL_otherValued_2 : decode zc_TL_otherValued 2 = .ok (.ldc 192, 2) := by decide +kernel
theorem zd_TL_otherValued_4 : decode zc_TL_otherValued 4 = .ok (.iload_n 0, 1) := by decide +kernel
theorem zd_TL_otherValued_5 : decode zc_TL_otherValued 5 = .ok (.bipush 7, 2) := by decide +kernel
theorem zd_TL_otherValued_7 : decode zc_TL_otherValued 7 = .ok (.irem, 1) := by decide +kernel
theorem zd_TL_otherValued_8 : decode zc_TL_otherValued 8 = .ok (.ishl, 1) := by decide +kernel
theorem zd_TL_otherValued_9 : decode zc_TL_otherValued 9 = .ok (.iconst (-1), 1) := by decide +kernel
theorem zd_TL_otherValued_10 : decode zc_TL_otherValued 10 = .ok (.ixor, 1) := by decide +kernel
theorem zd_TL_otherValued_11 : decode zc_TL_otherValued 11 = .ok (.iand, 1) := by decide +kernel
theorem zd_TL_otherValued_12 : decode zc_TL_otherValued 12 = .ok (.ireturn, 1) := by decide +kernel
theorem zd_TL_abortedBy_0 : decode zc_TL_abortedBy 0 = .ok (.iload_n 0, 1) := by decide +kernel
theorem zd_TL_abortedBy_1 : decode zc_TL_abortedBy 1 = .ok (.invokestatic 193, 3) := by decide +kernel
theorem zd_TL_abortedBy_4 : decode zc_TL_abortedBy 4 = .ok (.iconst 1, 1) := by decide +kernel
theorem zd_TL_abortedBy_5 : decode zc_TL_abortedBy 5 = .ok (.iload_n 0, 1) := by decide +kernel
theorem zd_TL_abortedBy_6 : decode zc_TL_abortedBy 6 = .ok (.ishl, 1) := by decide +kernel
theorem zd_TL_abortedBy_7 : decode zc_TL_abortedBy 7 = .ok (.iconst 1, 1) := by decide +kernel
theorem zd_TL_abortedBy_8 : decode zc_TL_abortedBy 8 = .ok (.isub, 1) := by decide +kernel
theorem zd_TL_abortedBy_9 : decode zc_TL_abortedBy 9 = .ok (.iand, 1) := by decide +kernel
theorem zd_TL_abortedBy_10 : decode zc_TL_abortedBy 10 = .ok (.ireturn, 1) := by decide +kernel
theorem zd_Agreement_acceptPrepare_0 : decode zc_Agreement_acceptPrepare 0 = .ok (.iconst 0, 1) := by decide +kernel
theorem zd_Agreement_acceptPrepare_1 : decode zc_Agreement_acceptPrepare 1 = .ok (.istore_n 1, 1) := by decide +kernel
theorem zd_Agreement_acceptPrepare_2 : decode zc_Agreement_acceptPrepare 2 = .ok (.iconst 0, 1) := by decide +kernel
theorem zd_Agreement_acceptPrepare_3 : decode zc_Agreement_acceptPrepare 3 = .ok (.istore_n 2, 1) := by decide +kernel
theorem zd_Agreement_acceptPrepare_4 : decode zc_Agreement_acceptPrepare 4 = .ok (.iload_n 2, 1) := by decide +kernel
theorem zd_Agreement_acceptPrepare_5 : decode zc_Agreement_acceptPrepare 5 = .ok (.bipush 28, 2) := by decide +kernel
theorem zd_Agreement_acceptPrepare_7 : decode zc_Agreement_acceptPrepare 7 = .ok (.if_icmp .ge 40, 3) := by decide +kernel
theorem zd_Agreement_acceptPrepare_10 : decode zc_Agreement_acceptPrepare 10 = .ok (.aload_n 0, 1) := by decide +kernel
theorem zd_Agreement_acceptPrepare_11 : decode zc_Agreement_acceptPrepare 11 = .ok (.getfield 40, 3) := by decide +kernel
theorem zd_Agreement_acceptPrepare_14 : decode zc_Agreement_acceptPrepare 14 = .ok (.getfield 79, 3) := by decide +kernel
theorem zd_Agreement_acceptPrepare_17 : decode zc_Agreement_acceptPrepare 17 = .ok (.aload_n 0, 1) := by decide +kernel
theorem zd_Agreement_acceptPrepare_18 : decode zc_Agreement_acceptPrepare 18 = .ok (.getfield 9, 3) := by decide +kernel
theorem zd_Agreement_acceptPrepare_21 : decode zc_Agreement_acceptPrepare 21 = .ok (.iaload, 1) := by decide +kernel
theorem zd_Agreement_acceptPrepare_22 : decode zc_Agreement_acceptPrepare 22 = .ok (.iload_n 2, 1) := by decide +kernel
theorem zd_Agreement_acceptPrepare_23 : decode zc_Agreement_acceptPrepare 23 = .ok (.invokestatic 148, 3) := by decide +kernel
theorem zd_Agreement_acceptPrepare_26 : decode zc_Agreement_acceptPrepare 26 = .ok (.iand, 1) := by decide +kernel
theorem zd_Agreement_acceptPrepare_27 : decode zc_Agreement_acceptPrepare 27 = .ok (.ifCond .ne 14, 3) := by decide +kernel
theorem zd_Agreement_acceptPrepare_30 : decode zc_Agreement_acceptPrepare 30 = .ok (.iload_n 1, 1) := by decide +kernel
theorem zd_Agreement_acceptPrepare_31 : decode zc_Agreement_acceptPrepare 31 = .ok (.aload_n 0, 1) := by decide +kernel
theorem zd_Agreement_acceptPrepare_32 : decode zc_Agreement_acceptPrepare 32 = .ok (.getfield 37, 3) := by decide +kernel
theorem zd_Agreement_acceptPrepare_35 : decode zc_Agreement_acceptPrepare 35 = .ok (.iload_n 2, 1) := by decide +kernel
theorem zd_Agreement_acceptPrepare_36 : decode zc_Agreement_acceptPrepare 36 = .ok (.invokevirtual 142, 3) := by decide +kernel
theorem zd_Agreement_acceptPrepare_39 : decode zc_Agreement_acceptPrepare 39 = .ok (.ior, 1) := by decide +kernel
theorem zd_Agreement_acceptPrepare_40 : decode zc_Agreement_acceptPrepare 40 = .ok (.istore_n 1, 1) := by decide +kernel
theorem zd_Agreement_acceptPrepare_41 : decode zc_Agreement_acceptPrepare 41 = .ok (.iinc 2 1, 3) := by decide +kernel
theorem zd_Agreement_acceptPrepare_44 : decode zc_Agreement_acceptPrepare 44 = .ok (.goto (-40), 3) := by decide +kernel
theorem zd_Agreement_acceptPrepare_47 : decode zc_Agreement_acceptPrepare 47 = .ok (.iload_n 1, 1) := by decide +kernel
theorem zd_Agreement_acceptPrepare_48 : decode zc_Agreement_acceptPrepare 48 = .ok (.ireturn, 1) := by decide +kernel
theorem zd_Agreement_confirmPrepare_0 : decode zc_Agreement_confirmPrepare 0 = .ok (.iconst 0, 1) := by decide +kernel
theorem zd_Agreement_confirmPrepare_1 : decode zc_Agreement_confirmPrepare 1 = .ok (.istore_n 1, 1) := by decide +kernel
theorem zd_Agreement_confirmPrepare_2 : decode zc_Agreement_confirmPrepare 2 = .ok (.iconst 0, 1) := by decide +kernel
theorem zd_Agreement_confirmPrepare_3 : decode zc_Agreement_confirmPrepare 3 = .ok (.istore_n 2, 1) := by decide +kernel
theorem zd_Agreement_confirmPrepare_4 : decode zc_Agreement_confirmPrepare 4 = .ok (.iload_n 2, 1) := by decide +kernel
theorem zd_Agreement_confirmPrepare_5 : decode zc_Agreement_confirmPrepare 5 = .ok (.bipush 28, 2) := by decide +kernel
theorem zd_Agreement_confirmPrepare_7 : decode zc_Agreement_confirmPrepare 7 = .ok (.if_icmp .ge 20, 3) := by decide +kernel
theorem zd_Agreement_confirmPrepare_10 : decode zc_Agreement_confirmPrepare 10 = .ok (.iload_n 1, 1) := by decide +kernel
theorem zd_Agreement_confirmPrepare_11 : decode zc_Agreement_confirmPrepare 11 = .ok (.aload_n 0, 1) := by decide +kernel
theorem zd_Agreement_confirmPrepare_12 : decode zc_Agreement_confirmPrepare 12 = .ok (.getfield 37, 3) := by decide +kernel
theorem zd_Agreement_confirmPrepare_15 : decode zc_Agreement_confirmPrepare 15 = .ok (.iload_n 2, 1) := by decide +kernel
theorem zd_Agreement_confirmPrepare_16 : decode zc_Agreement_confirmPrepare 16 = .ok (.invokevirtual 145, 3) := by decide +kernel
theorem zd_Agreement_confirmPrepare_19 : decode zc_Agreement_confirmPrepare 19 = .ok (.ior, 1) := by decide +kernel
theorem zd_Agreement_confirmPrepare_20 : decode zc_Agreement_confirmPrepare 20 = .ok (.istore_n 1, 1) := by decide +kernel
theorem zd_Agreement_confirmPrepare_21 : decode zc_Agreement_confirmPrepare 21 = .ok (.iinc 2 1, 3) := by decide +kernel
theorem zd_Agreement_confirmPrepare_24 : decode zc_Agreement_confirmPrepare 24 = .ok (.goto (-20), 3) := by decide +kernel
theorem zd_Agreement_confirmPrepare_27 : decode zc_Agreement_confirmPrepare 27 = .ok (.iload_n 1, 1) := by decide +kernel
theorem zd_Agreement_confirmPrepare_28 : decode zc_Agreement_confirmPrepare 28 = .ok (.ireturn, 1) := by decide +kernel
theorem zd_TL_abortersOf_0 : decode zc_TL_abortersOf 0 = .ok (.iload_n 0, 1) := by decide +kernel
theorem zd_TL_abortersOf_1 : decode zc_TL_abortersOf 1 = .ok (.invokestatic 193, 3) := by decide +kernel
theorem zd_TL_abortersOf_4 : decode zc_TL_abortersOf 4 = .ok (.iconst 1, 1) := by decide +kernel
theorem zd_TL_abortersOf_5 : decode zc_TL_abortersOf 5 = .ok (.iload_n 0, 1) := by decide +kernel
theorem zd_TL_abortersOf_6 : decode zc_TL_abortersOf 6 = .ok (.ishl, 1) := by decide +kernel
theorem zd_TL_abortersOf_7 : decode zc_TL_abortersOf 7 = .ok (.iconst 1, 1) := by decide +kernel
theorem zd_TL_abortersOf_8 : decode zc_TL_abortersOf 8 = .ok (.isub, 1) := by decide +kernel
theorem zd_TL_abortersOf_9 : decode zc_TL_abortersOf 9 = .ok (.iconst (-1), 1) := by decide +kernel
theorem zd_TL_abortersOf_10 : decode zc_TL_abortersOf 10 = .ok (.ixor, 1) := by decide +kernel
theorem zd_TL_abortersOf_11 : decode zc_TL_abortersOf 11 = .ok (.iand, 1) := by decide +kernel
theorem zd_TL_abortersOf_12 : decode zc_TL_abortersOf 12 = .ok (.ireturn, 1) := by decide +kernel
theorem zd_Agreement_voteCommit_0 : decode zc_Agreement_voteCommit 0 = .ok (.iconst 0, 1) := by decide +kernel
theorem zd_Agreement_voteCommit_1 : decode zc_Agreement_voteCommit 1 = .ok (.istore_n 1, 1) := by decide +kernel
theorem zd_Agreement_voteCommit_2 : decode zc_Agreement_voteCommit 2 = .ok (.iconst 0, 1) := by decide +kernel
theorem zd_Agreement_voteCommit_3 : decode zc_Agreement_voteCommit 3 = .ok (.istore_n 2, 1) := by decide +kernel
theorem zd_Agreement_voteCommit_4 : decode zc_Agreement_voteCommit 4 = .ok (.iload_n 2, 1) := by decide +kernel
theorem zd_Agreement_voteCommit_5 : decode zc_Agreement_voteCommit 5 = .ok (.bipush 28, 2) := by decide +kernel
theorem zd_Agreement_voteCommit_7 : decode zc_Agreement_voteCommit 7 = .ok (.if_icmp .ge 54, 3) := by decide +kernel
theorem zd_Agreement_voteCommit_10 : decode zc_Agreement_voteCommit 10 = .ok (.aload_n 0, 1) := by decide +kernel
theorem zd_Agreement_voteCommit_11 : decode zc_Agreement_voteCommit 11 = .ok (.getfield 37, 3) := by decide +kernel
theorem zd_Agreement_voteCommit_14 : decode zc_Agreement_voteCommit 14 = .ok (.getfield 131, 3) := by decide +kernel
theorem zd_Agreement_voteCommit_17 : decode zc_Agreement_voteCommit 17 = .ok (.iload_n 2, 1) := by decide +kernel
theorem zd_Agreement_voteCommit_18 : decode zc_Agreement_voteCommit 18 = .ok (.invokestatic 116, 3) := by decide +kernel
theorem zd_Agreement_voteCommit_21 : decode zc_Agreement_voteCommit 21 = .ok (.ifCond .eq 34, 3) := by decide +kernel
theorem zd_Agreement_voteCommit_24 : decode zc_Agreement_voteCommit 24 = .ok (.aload_n 0, 1) := by decide +kernel
theorem zd_Agreement_voteCommit_25 : decode zc_Agreement_voteCommit 25 = .ok (.getfield 37, 3) := by decide +kernel
theorem zd_Agreement_voteCommit_28 : decode zc_Agreement_voteCommit 28 = .ok (.getfield 69, 3) := by decide +kernel
theorem zd_Agreement_voteCommit_31 : decode zc_Agreement_voteCommit 31 = .ok (.aload_n 0, 1) := by decide +kernel
theorem zd_Agreement_voteCommit_32 : decode zc_Agreement_voteCommit 32 = .ok (.getfield 9, 3) := by decide +kernel
theorem zd_Agreement_voteCommit_35 : decode zc_Agreement_voteCommit 35 = .ok (.iaload, 1) := by decide +kernel
theorem zd_Agreement_voteCommit_36 : decode zc_Agreement_voteCommit 36 = .ok (.iload_n 2, 1) := by decide +kernel
theorem zd_Agreement_voteCommit_37 : decode zc_Agreement_voteCommit 37 = .ok (.invokestatic 151, 3) := by decide +kernel
theorem zd_Agreement_voteCommit_40 : decode zc_Agreement_voteCommit 40 = .ok (.iand, 1) := by decide +kernel
theorem zd_Agreement_voteCommit_41 : decode zc_Agreement_voteCommit 41 = .ok (.ifCond .ne 14, 3) := by decide +kernel
theorem zd_Agreement_voteCommit_44 : decode zc_Agreement_voteCommit 44 = .ok (.iload_n 1, 1) := by decide +kernel
theorem zd_Agreement_voteCommit_45 : decode zc_Agreement_voteCommit 45 = .ok (.aload_n 0, 1) := by decide +kernel
theorem zd_Agreement_voteCommit_46 : decode zc_Agreement_voteCommit 46 = .ok (.getfield 40, 3) := by decide +kernel
theorem zd_Agreement_voteCommit_49 : decode zc_Agreement_voteCommit 49 = .ok (.iload_n 2, 1) := by decide +kernel
theorem zd_Agreement_voteCommit_50 : decode zc_Agreement_voteCommit 50 = .ok (.invokevirtual 127, 3) := by decide +kernel
theorem zd_Agreement_voteCommit_53 : decode zc_Agreement_voteCommit 53 = .ok (.ior, 1) := by decide +kernel
theorem zd_Agreement_voteCommit_54 : decode zc_Agreement_voteCommit 54 = .ok (.istore_n 1, 1) := by decide +kernel
theorem zd_Agreement_voteCommit_55 : decode zc_Agreement_voteCommit 55 = .ok (.iinc 2 1, 3) := by decide +kernel
theorem zd_Agreement_voteCommit_58 : decode zc_Agreement_voteCommit 58 = .ok (.goto (-54), 3) := by decide +kernel
theorem zd_Agreement_voteCommit_61 : decode zc_Agreement_voteCommit 61 = .ok (.iload_n 1, 1) := by decide +kernel
theorem zd_Agreement_voteCommit_62 : decode zc_Agreement_voteCommit 62 = .ok (.ireturn, 1) := by decide +kernel
theorem zd_Agreement_settleCommit_0 : decode zc_Agreement_settleCommit 0 = .ok (.iconst 0, 1) := by decide +kernel
theorem zd_Agreement_settleCommit_1 : decode zc_Agreement_settleCommit 1 = .ok (.istore_n 1, 1) := by decide +kernel
theorem zd_Agreement_settleCommit_2 : decode zc_Agreement_settleCommit 2 = .ok (.iconst 0, 1) := by decide +kernel
theorem zd_Agreement_settleCommit_3 : decode zc_Agreement_settleCommit 3 = .ok (.istore_n 2, 1) := by decide +kernel
theorem zd_Agreement_settleCommit_4 : decode zc_Agreement_settleCommit 4 = .ok (.iload_n 2, 1) := by decide +kernel
theorem zd_Agreement_settleCommit_5 : decode zc_Agreement_settleCommit 5 = .ok (.bipush 28, 2) := by decide +kernel
theorem zd_Agreement_settleCommit_7 : decode zc_Agreement_settleCommit 7 = .ok (.if_icmp .ge 66, 3) := by decide +kernel
theorem zd_Agreement_settleCommit_10 : decode zc_Agreement_settleCommit 10 = .ok (.aload_n 0, 1) := by decide +kernel
theorem zd_Agreement_settleCommit_11 : decode zc_Agreement_settleCommit 11 = .ok (.getfield 83, 3) := by decide +kernel
theorem zd_Agreement_settleCommit_14 : decode zc_Agreement_settleCommit 14 = .ok (.ifCond .ne 59, 3) := by decide +kernel
theorem zd_Agreement_settleCommit_17 : decode zc_Agreement_settleCommit 17 = .ok (.aload_n 0, 1) := by decide +kernel
theorem zd_Agreement_settleCommit_18 : decode zc_Agreement_settleCommit 18 = .ok (.getfield 37, 3) := by decide +kernel
theorem zd_Agreement_settleCommit_21 : decode zc_Agreement_settleCommit 21 = .ok (.getfield 79, 3) := by decide +kernel
theorem zd_Agreement_settleCommit_24 : decode zc_Agreement_settleCommit 24 = .ok (.aload_n 0, 1) := by decide +kernel
theorem zd_Agreement_settleCommit_25 : decode zc_Agreement_settleCommit 25 = .ok (.getfield 9, 3) := by decide +kernel
theorem zd_Agreement_settleCommit_28 : decode zc_Agreement_settleCommit 28 = .ok (.iaload, 1) := by decide +kernel
theorem zd_Agreement_settleCommit_29 : decode zc_Agreement_settleCommit 29 = .ok (.iload_n 2, 1) := by decide +kernel
theorem zd_Agreement_settleCommit_30 : decode zc_Agreement_settleCommit 30 = .ok (.invokestatic 151, 3) := by decide +kernel
theorem zd_Agreement_settleCommit_33 : decode zc_Agreement_settleCommit 33 = .ok (.iand, 1) := by decide +kernel
theorem zd_Agreement_settleCommit_34 : decode zc_Agreement_settleCommit 34 = .ok (.ifCond .ne 14, 3) := by decide +kernel
theorem zd_Agreement_settleCommit_37 : decode zc_Agreement_settleCommit 37 = .ok (.iload_n 1, 1) := by decide +kernel
theorem zd_Agreement_settleCommit_38 : decode zc_Agreement_settleCommit 38 = .ok (.aload_n 0, 1) := by decide +kernel
theorem zd_Agreement_settleCommit_39 : decode zc_Agreement_settleCommit 39 = .ok (.getfield 40, 3) := by decide +kernel
theorem zd_Agreement_settleCommit_42 : decode zc_Agreement_settleCommit 42 = .ok (.iload_n 2, 1) := by decide +kernel
theorem zd_Agreement_settleCommit_43 : decode zc_Agreement_settleCommit 43 = .ok (.invokevirtual 142, 3) := by decide +kernel
theorem zd_Agreement_settleCommit_46 : decode zc_Agreement_settleCommit 46 = .ok (.ior, 1) := by decide +kernel
theorem zd_Agreement_settleCommit_47 : decode zc_Agreement_settleCommit 47 = .ok (.istore_n 1, 1) := by decide +kernel
theorem zd_Agreement_settleCommit_48 : decode zc_Agreement_settleCommit 48 = .ok (.aload_n 0, 1) := by decide +kernel
theorem zd_Agreement_settleCommit_49 : decode zc_Agreement_settleCommit 49 = .ok (.getfield 40, 3) := by decide +kernel
theorem zd_Agreement_settleCommit_52 : decode zc_Agreement_settleCommit 52 = .ok (.iload_n 2, 1) := by decide +kernel
theorem zd_Agreement_settleCommit_53 : decode zc_Agreement_settleCommit 53 = .ok (.invokevirtual 145, 3) := by decide +kernel
theorem zd_Agreement_settleCommit_56 : decode zc_Agreement_settleCommit 56 = .ok (.ifCond .eq 11, 3) := by decide +kernel
theorem zd_Agreement_settleCommit_59 : decode zc_Agreement_settleCommit 59 = .ok (.aload_n 0, 1) := by decide +kernel
theorem zd_Agreement_settleCommit_60 : decode zc_Agreement_settleCommit 60 = .ok (.iload_n 2, 1) := by decide +kernel
theorem zd_Agreement_settleCommit_61 : decode zc_Agreement_settleCommit 61 = .ok (.invokestatic 134, 3) := by decide +kernel
theorem zd_Agreement_settleCommit_64 : decode zc_Agreement_settleCommit 64 = .ok (.putfield 83, 3) := by decide +kernel
theorem zd_Agreement_settleCommit_67 : decode zc_Agreement_settleCommit 67 = .ok (.iinc 2 1, 3) := by decide +kernel
theorem zd_Agreement_settleCommit_70 : decode zc_Agreement_settleCommit 70 = .ok (.goto (-66), 3) := by decide +kernel
theorem zd_Agreement_settleCommit_73 : decode zc_Agreement_settleCommit 73 = .ok (.iload_n 1, 1) := by decide +kernel
theorem zd_Agreement_settleCommit_74 : decode zc_Agreement_settleCommit 74 = .ok (.ireturn, 1) := by decide +kernel
theorem zd_Agreement_stir_0 : decode zc_Agreement_stir 0 = .ok (.iconst 1, 1) := by decide +kernel
theorem zd_Agreement_stir_1 : decode zc_Agreement_stir 1 = .ok (.istore_n 1, 1) := by decide +kernel
theorem zd_Agreement_stir_2 : decode zc_Agreement_stir 2 = .ok (.iconst 0, 1) := by decide +kernel
theorem zd_Agreement_stir_3 : decode zc_Agreement_stir 3 = .ok (.istore_n 2, 1) := by decide +kernel
theorem zd_Agreement_stir_4 : decode zc_Agreement_stir 4 = .ok (.iload_n 2, 1) := by decide +kernel
theorem zd_Agreement_stir_5 : decode zc_Agreement_stir 5 = .ok (.sipush 200, 3) := by decide +kernel
theorem zd_Agreement_stir_8 : decode zc_Agreement_stir 8 = .ok (.if_icmp .ge 60, 3) := by decide +kernel
theorem zd_Agreement_stir_11 : decode zc_Agreement_stir 11 = .ok (.iload_n 1, 1) := by decide +kernel
theorem zd_Agreement_stir_12 : decode zc_Agreement_stir 12 = .ok (.ifCond .eq 56, 3) := by decide +kernel
theorem zd_Agreement_stir_15 : decode zc_Agreement_stir 15 = .ok (.aload_n 0, 1) := by decide +kernel
theorem zd_Agreement_stir_16 : decode zc_Agreement_stir 16 = .ok (.getfield 83, 3) := by decide +kernel
theorem zd_Agreement_stir_19 : decode zc_Agreement_stir 19 = .ok (.ifCond .ne 49, 3) := by decide +kernel
theorem zd_Agreement_stir_22 : decode zc_Agreement_stir 22 = .ok (.aload_n 0, 1) := by decide +kernel
theorem zd_Agreement_stir_23 : decode zc_Agreement_stir 23 = .ok (.invokevirtual 86, 3) := by decide +kernel
theorem zd_Agreement_stir_26 : decode zc_Agreement_stir 26 = .ok (.aload_n 0, 1) := by decide +kernel
theorem zd_Agreement_stir_27 : decode zc_Agreement_stir 27 = .ok (.invokevirtual 90, 3) := by decide +kernel
theorem zd_Agreement_stir_30 : decode zc_Agreement_stir 30 = .ok (.ior, 1) := by decide +kernel
theorem zd_Agreement_stir_31 : decode zc_Agreement_stir 31 = .ok (.aload_n 0, 1) := by decide +kernel
theorem zd_Agreement_stir_32 : decode zc_Agreement_stir 32 = .ok (.invokevirtual 93, 3) := by decide +kernel
theorem zd_Agreement_stir_35 : decode zc_Agreement_stir 35 = .ok (.ior, 1) := by decide +kernel
theorem zd_Agreement_stir_36 : decode zc_Agreement_stir 36 = .ok (.aload_n 0, 1) := by decide +kernel
theorem zd_Agreement_stir_37 : decode zc_Agreement_stir 37 = .ok (.invokevirtual 96, 3) := by decide +kernel
theorem zd_Agreement_stir_40 : decode zc_Agreement_stir 40 = .ok (.ior, 1) := by decide +kernel
theorem zd_Agreement_stir_41 : decode zc_Agreement_stir 41 = .ok (.aload_n 0, 1) := by decide +kernel
theorem zd_Agreement_stir_42 : decode zc_Agreement_stir 42 = .ok (.invokevirtual 99, 3) := by decide +kernel
theorem zd_Agreement_stir_45 : decode zc_Agreement_stir 45 = .ok (.ior, 1) := by decide +kernel
theorem zd_Agreement_stir_46 : decode zc_Agreement_stir 46 = .ok (.aload_n 0, 1) := by decide +kernel
theorem zd_Agreement_stir_47 : decode zc_Agreement_stir 47 = .ok (.invokevirtual 102, 3) := by decide +kernel
theorem zd_Agreement_stir_50 : decode zc_Agreement_stir 50 = .ok (.ior, 1) := by decide +kernel
theorem zd_Agreement_stir_51 : decode zc_Agreement_stir 51 = .ok (.aload_n 0, 1) := by decide +kernel
theorem zd_Agreement_stir_52 : decode zc_Agreement_stir 52 = .ok (.invokevirtual 105, 3) := by decide +kernel
theorem zd_Agreement_stir_55 : decode zc_Agreement_stir 55 = .ok (.ior, 1) := by decide +kernel
theorem zd_Agreement_stir_56 : decode zc_Agreement_stir 56 = .ok (.aload_n 0, 1) := by decide +kernel
theorem zd_Agreement_stir_57 : decode zc_Agreement_stir 57 = .ok (.invokevirtual 108, 3) := by decide +kernel
theorem zd_Agreement_stir_60 : decode zc_Agreement_stir 60 = .ok (.ior, 1) := by decide +kernel
theorem zd_Agreement_stir_61 : decode zc_Agreement_stir 61 = .ok (.istore_n 1, 1) := by decide +kernel
theorem zd_Agreement_stir_62 : decode zc_Agreement_stir 62 = .ok (.iinc 2 1, 3) := by decide +kernel
theorem zd_Agreement_stir_65 : decode zc_Agreement_stir 65 = .ok (.goto (-61), 3) := by decide +kernel
theorem zd_Agreement_stir_68 : decode zc_Agreement_stir 68 = .ok (.return_, 1) := by decide +kernel
theorem zd_Offer_init_0 : decode zc_Offer_init 0 = .ok (.aload_n 0, 1) := by decide +kernel
theorem zd_Offer_init_1 : decode zc_Offer_init 1 = .ok (.invokespecial 3, 3) := by decide +kernel
theorem zd_Offer_init_4 : decode zc_Offer_init 4 = .ok (.aload_n 0, 1) := by decide +kernel
theorem zd_Offer_init_5 : decode zc_Offer_init 5 = .ok (.iload_n 1, 1) := by decide +kernel
theorem zd_Offer_init_6 : decode zc_Offer_init 6 = .ok (.putfield 9, 3) := by decide +kernel
theorem zd_Offer_init_9 : decode zc_Offer_init 9 = .ok (.aload_n 0, 1) := by decide +kernel
theorem zd_Offer_init_10 : decode zc_Offer_init 10 = .ok (.iload_n 2, 1) := by decide +kernel
theorem zd_Offer_init_11 : decode zc_Offer_init 11 = .ok (.putfield 15, 3) := by decide +kernel
theorem zd_Offer_init_14 : decode zc_Offer_init 14 = .ok (.aload_n 0, 1) := by decide +kernel
theorem zd_Offer_init_15 : decode zc_Offer_init 15 = .ok (.iload_n 3, 1) := by decide +kernel
theorem zd_Offer_init_16 : decode zc_Offer_init 16 = .ok (.putfield 18, 3) := by decide +kernel
theorem zd_Offer_init_19 : decode zc_Offer_init 19 = .ok (.aload_n 0, 1) := by decide +kernel
theorem zd_Offer_init_20 : decode zc_Offer_init 20 = .ok (.iload 4, 2) := by decide +kernel
theorem zd_Offer_init_22 : decode zc_Offer_init 22 = .ok (.putfield 21, 3) := by decide +kernel
theorem zd_Offer_init_25 : decode zc_Offer_init 25 = .ok (.return_, 1) := by decide +kernel
theorem zd_Offer_sells_0 : decode zc_Offer_sells 0 = .ok (.aload_n 0, 1) := by decide +kernel
theorem zd_Offer_sells_1 : decode zc_Offer_sells 1 = .ok (.getfield 15, 3) := by decide +kernel
theorem zd_Offer_sells_4 : decode zc_Offer_sells 4 = .ok (.iconst 1, 1) := by decide +kernel
theorem zd_Offer_sells_5 : decode zc_Offer_sells 5 = .ok (.if_icmp .ne 7, 3) := by decide +kernel
theorem zd_Offer_sells_8 : decode zc_Offer_sells 8 = .ok (.iconst 1, 1) := by decide +kernel
theorem zd_Offer_sells_9 : decode zc_Offer_sells 9 = .ok (.goto 4, 3) := by decide +kernel
theorem zd_Offer_sells_12 : decode zc_Offer_sells 12 = .ok (.iconst 0, 1) := by decide +kernel
theorem zd_Offer_sells_13 : decode zc_Offer_sells 13 = .ok (.ireturn, 1) := by decide +kernel
theorem zd_Offer_agreesTo_0 : decode zc_Offer_agreesTo 0 = .ok (.aload_n 0, 1) := by decide +kernel
theorem zd_Offer_agreesTo_1 : decode zc_Offer_agreesTo 1 = .ok (.invokevirtual 24, 3) := by decide +kernel
theorem zd_Offer_agreesTo_4 : decode zc_Offer_agreesTo 4 = .ok (.ifCond .eq 19, 3) := by decide +kernel
theorem zd_Offer_agreesTo_7 : decode zc_Offer_agreesTo 7 = .ok (.iload_n 1, 1) := by decide +kernel
theorem zd_Offer_agreesTo_8 : decode zc_Offer_agreesTo 8 = .ok (.aload_n 0, 1) := by decide +kernel
theorem zd_Offer_agreesTo_9 : decode zc_Offer_agreesTo 9 = .ok (.getfield 18, 3) := by decide +kernel
theorem zd_Offer_agreesTo_12 : decode zc_Offer_agreesTo 12 = .ok (.if_icmp .lt 7, 3) := by decide +kernel
theorem zd_Offer_agreesTo_15 : decode zc_Offer_agreesTo 15 = .ok (.iconst 1, 1) := by decide +kernel
theorem zd_Offer_agreesTo_16 : decode zc_Offer_agreesTo 16 = .ok (.goto 20, 3) := by decide +kernel
theorem zd_Offer_agreesTo_19 : decode zc_Offer_agreesTo 19 = .ok (.iconst 0, 1) := by decide +kernel
theorem zd_Offer_agreesTo_20 : decode zc_Offer_agreesTo 20 = .ok (.goto 16, 3) := by decide +kernel
theorem zd_Offer_agreesTo_23 : decode zc_Offer_agreesTo 23 = .ok (.iload_n 1, 1) := by decide +kernel
theorem zd_Offer_agreesTo_24 : decode zc_Offer_agreesTo 24 = .ok (.aload_n 0, 1) := by decide +kernel
theorem zd_Offer_agreesTo_25 : decode zc_Offer_agreesTo 25 = .ok (.getfield 18, 3) := by decide +kernel
theorem zd_Offer_agreesTo_28 : decode zc_Offer_agreesTo 28 = .ok (.if_icmp .gt 7, 3) := by decide +kernel
theorem zd_Offer_agreesTo_31 : decode zc_Offer_agreesTo 31 = .ok (.iconst 1, 1) := by decide +kernel
theorem zd_Offer_agreesTo_32 : decode zc_Offer_agreesTo 32 = .ok (.goto 4, 3) := by decide +kernel
theorem zd_Offer_agreesTo_35 : decode zc_Offer_agreesTo 35 = .ok (.iconst 0, 1) := by decide +kernel
theorem zd_Offer_agreesTo_36 : decode zc_Offer_agreesTo 36 = .ok (.ireturn, 1) := by decide +kernel
theorem zd_Offer_prefers_0 : decode zc_Offer_prefers 0 = .ok (.aload_n 0, 1) := by decide +kernel
theorem zd_Offer_prefers_1 : decode zc_Offer_prefers 1 = .ok (.invokevirtual 24, 3) := by decide +kernel
theorem zd_Offer_prefers_4 : decode zc_Offer_prefers 4 = .ok (.ifCond .eq 16, 3) := by decide +kernel
theorem zd_Offer_prefers_7 : decode zc_Offer_prefers 7 = .ok (.iload_n 1, 1) := by decide +kernel
theorem zd_Offer_prefers_8 : decode zc_Offer_prefers 8 = .ok (.iload_n 2, 1) := by decide +kernel
theorem zd_Offer_prefers_9 : decode zc_Offer_prefers 9 = .ok (.if_icmp .le 7, 3) := by decide +kernel
theorem zd_Offer_prefers_12 : decode zc_Offer_prefers 12 = .ok (.iconst 1, 1) := by decide +kernel
theorem zd_Offer_prefers_13 : decode zc_Offer_prefers 13 = .ok (.goto 17, 3) := by decide +kernel
theorem zd_Offer_prefers_16 : decode zc_Offer_prefers 16 = .ok (.iconst 0, 1) := by decide +kernel
theorem zd_Offer_prefers_17 : decode zc_Offer_prefers 17 = .ok (.goto 13, 3) := by decide +kernel
theorem zd_Offer_prefers_20 : decode zc_Offer_prefers 20 = .ok (.iload_n 1, 1) := by decide +kernel
theorem zd_Offer_prefers_21 : decode zc_Offer_prefers 21 = .ok (.iload_n 2, 1) := by decide +kernel
theorem zd_Offer_prefers_22 : decode zc_Offer_prefers 22 = .ok (.if_icmp .ge 7, 3) := by decide +kernel
theorem zd_Offer_prefers_25 : decode zc_Offer_prefers 25 = .ok (.iconst 1, 1) := by decide +kernel
theorem zd_Offer_prefers_26 : decode zc_Offer_prefers 26 = .ok (.goto 4, 3) := by decide +kernel
theorem zd_Offer_prefers_29 : decode zc_Offer_prefers 29 = .ok (.iconst 0, 1) := by decide +kernel
theorem zd_Offer_prefers_30 : decode zc_Offer_prefers 30 = .ok (.ireturn, 1) := by decide +kernel
theorem zd_Ledger_bestFor_0 : decode zc_Ledger_bestFor 0 = .ok (.iconst (-1), 1) := by decide +kernel
theorem zd_Ledger_bestFor_1 : decode zc_Ledger_bestFor 1 = .ok (.istore_n 2, 1) := by decide +kernel
theorem zd_Ledger_bestFor_2 : decode zc_Ledger_bestFor 2 = .ok (.iconst 0, 1) := by decide +kernel
theorem zd_Ledger_bestFor_3 : decode zc_Ledger_bestFor 3 = .ok (.istore_n 3, 1) := by decide +kernel
theorem zd_Ledger_bestFor_4 : decode zc_Ledger_bestFor 4 = .ok (.iconst 0, 1) := by decide +kernel
theorem zd_Ledger_bestFor_5 : decode zc_Ledger_bestFor 5 = .ok (.istore 4, 2) := by decide +kernel
theorem zd_Ledger_bestFor_7 : decode zc_Ledger_bestFor 7 = .ok (.iload 4, 2) := by decide +kernel
theorem zd_Ledger_bestFor_9 : decode zc_Ledger_bestFor 9 = .ok (.bipush 8, 2) := by decide +kernel
theorem zd_Ledger_bestFor_11 : decode zc_Ledger_bestFor 11 = .ok (.if_icmp .ge 86, 3) := by decide +kernel
theorem zd_Ledger_bestFor_14 : decode zc_Ledger_bestFor 14 = .ok (.aload_n 0, 1) := by decide +kernel
theorem zd_Ledger_bestFor_15 : decode zc_Ledger_bestFor 15 = .ok (.getfield 20, 3) := by decide +kernel
theorem zd_Ledger_bestFor_18 : decode zc_Ledger_bestFor 18 = .ok (.iload 4, 2) := by decide +kernel
theorem zd_Ledger_bestFor_20 : decode zc_Ledger_bestFor 20 = .ok (.aaload, 1) := by decide +kernel
theorem zd_Ledger_bestFor_21 : decode zc_Ledger_bestFor 21 = .ok (.astore 5, 2) := by decide +kernel
theorem zd_Ledger_bestFor_23 : decode zc_Ledger_bestFor 23 = .ok (.aload 5, 2) := by decide +kernel
theorem zd_Ledger_bestFor_25 : decode zc_Ledger_bestFor 25 = .ok (.ifnull 31, 3) := by decide +kernel
theorem zd_Ledger_bestFor_28 : decode zc_Ledger_bestFor 28 = .ok (.aload 5, 2) := by decide +kernel
theorem zd_Ledger_bestFor_30 : decode zc_Ledger_bestFor 30 = .ok (.getfield 69, 3) := by decide +kernel
theorem zd_Ledger_bestFor_33 : decode zc_Ledger_bestFor 33 = .ok (.aload_n 1, 1) := by decide +kernel
theorem zd_Ledger_bestFor_34 : decode zc_Ledger_bestFor 34 = .ok (.getfield 69, 3) := by decide +kernel
theorem zd_Ledger_bestFor_37 : decode zc_Ledger_bestFor 37 = .ok (.if_icmp .eq 19, 3) := by decide +kernel
theorem zd_Ledger_bestFor_40 : decode zc_Ledger_bestFor 40 = .ok (.aload_n 1, 1) := by decide +kernel
theorem zd_Ledger_bestFor_41 : decode zc_Ledger_bestFor 41 = .ok (.aload 5, 2) := by decide +kernel
theorem zd_Ledger_bestFor_43 : decode zc_Ledger_bestFor 43 = .ok (.getfield 72, 3) := by decide +kernel
theorem zd_Ledger_bestFor_46 : decode zc_Ledger_bestFor 46 = .ok (.invokevirtual 75, 3) := by decide +kernel
theorem zd_Ledger_bestFor_49 : decode zc_Ledger_bestFor 49 = .ok (.ifCond .eq 7, 3) := by decide +kernel
theorem zd_Ledger_bestFor_52 : decode zc_Ledger_bestFor 52 = .ok (.iconst 1, 1) := by decide +kernel
theorem zd_Ledger_bestFor_53 : decode zc_Ledger_bestFor 53 = .ok (.goto 4, 3) := by decide +kernel
theorem zd_Ledger_bestFor_56 : decode zc_Ledger_bestFor 56 = .ok (.iconst 0, 1) := by decide +kernel
theorem zd_Ledger_bestFor_57 : decode zc_Ledger_bestFor 57 = .ok (.istore 6, 2) := by decide +kernel
theorem zd_Ledger_bestFor_59 : decode zc_Ledger_bestFor 59 = .ok (.iload 6, 2) := by decide +kernel
theorem zd_Ledger_bestFor_61 : decode zc_Ledger_bestFor 61 = .ok (.ifCond .eq 30, 3) := by decide +kernel
theorem zd_Ledger_bestFor_64 : decode zc_Ledger_bestFor 64 = .ok (.iload_n 2, 1) := by decide +kernel
theorem zd_Ledger_bestFor_65 : decode zc_Ledger_bestFor 65 = .ok (.iconst (-1), 1) := by decide +kernel
theorem zd_Ledger_bestFor_66 : decode zc_Ledger_bestFor 66 = .ok (.if_icmp .eq 16, 3) := by decide +kernel
theorem zd_Ledger_bestFor_69 : decode zc_Ledger_bestFor 69 = .ok (.aload_n 1, 1) := by decide +kernel
theorem zd_Ledger_bestFor_70 : decode zc_Ledger_bestFor 70 = .ok (.aload 5, 2) := by decide +kernel
theorem zd_Ledger_bestFor_72 : decode zc_Ledger_bestFor 72 = .ok (.getfield 72, 3) := by decide +kernel
theorem zd_Ledger_bestFor_75 : decode zc_Ledger_bestFor 75 = .ok (.iload_n 3, 1) := by decide +kernel
theorem zd_Ledger_bestFor_76 : decode zc_Ledger_bestFor 76 = .ok (.invokevirtual 79, 3) := by decide +kernel
theorem zd_Ledger_bestFor_79 : decode zc_Ledger_bestFor 79 = .ok (.ifCond .eq 12, 3) := by decide +kernel
theorem zd_Ledger_bestFor_82 : decode zc_Ledger_bestFor 82 = .ok (.iload 4, 2) := by decide +kernel
theorem zd_Ledger_bestFor_84 : decode zc_Ledger_bestFor 84 = .ok (.istore_n 2, 1) := by decide +kernel
theorem zd_Ledger_bestFor_85 : decode zc_Ledger_bestFor 85 = .ok (.aload 5, 2) := by decide +kernel
theorem zd_Ledger_bestFor_87 : decode zc_Ledger_bestFor 87 = .ok (.getfield 72, 3) := by decide +kernel
theorem zd_Ledger_bestFor_90 : decode zc_Ledger_bestFor 90 = .ok (.istore_n 3, 1) := by decide +kernel
theorem zd_Ledger_bestFor_91 : decode zc_Ledger_bestFor 91 = .ok (.iinc 4 1, 3) := by decide +kernel
theorem zd_Ledger_bestFor_94 : decode zc_Ledger_bestFor 94 = .ok (.goto (-87), 3) := by decide +kernel
theorem zd_Ledger_bestFor_97 : decode zc_Ledger_bestFor 97 = .ok (.iload_n 2, 1) := by decide +kernel
theorem zd_Ledger_bestFor_98 : decode zc_Ledger_bestFor 98 = .ok (.ireturn, 1) := by decide +kernel
theorem zd_Ledger_canServe_0 : decode zc_Ledger_canServe 0 = .ok (.aload_n 1, 1) := by decide +kernel
theorem zd_Ledger_canServe_1 : decode zc_Ledger_canServe 1 = .ok (.invokevirtual 83, 3) := by decide +kernel
theorem zd_Ledger_canServe_4 : decode zc_Ledger_canServe 4 = .ok (.ifCond .eq 23, 3) := by decide +kernel
theorem zd_Ledger_canServe_7 : decode zc_Ledger_canServe 7 = .ok (.aload_n 0, 1) := by decide +kernel
theorem zd_Ledger_canServe_8 : decode zc_Ledger_canServe 8 = .ok (.getfield 15, 3) := by decide +kernel
theorem zd_Ledger_canServe_11 : decode zc_Ledger_canServe 11 = .ok (.aload_n 1, 1) := by decide +kernel
theorem zd_Ledger_canServe_12 : decode zc_Ledger_canServe 12 = .ok (.getfield 87, 3) := by decide +kernel
theorem zd_Ledger_canServe_15 : decode zc_Ledger_canServe 15 = .ok (.iaload, 1) := by decide +kernel
theorem zd_Ledger_canServe_16 : decode zc_Ledger_canServe 16 = .ok (.ifCond .le 7, 3) := by decide +kernel
theorem zd_Ledger_canServe_19 : decode zc_Ledger_canServe 19 = .ok (.iconst 1, 1) := by decide +kernel
theorem zd_Ledger_canServe_20 : decode zc_Ledger_canServe 20 = .ok (.goto 28, 3) := by decide +kernel
theorem zd_Ledger_canServe_23 : decode zc_Ledger_canServe 23 = .ok (.iconst 0, 1) := by decide +kernel
theorem zd_Ledger_canServe_24 : decode zc_Ledger_canServe 24 = .ok (.goto 24, 3) := by decide +kernel
theorem zd_Ledger_canServe_27 : decode zc_Ledger_canServe 27 = .ok (.aload_n 0, 1) := by decide +kernel
theorem zd_Ledger_canServe_28 : decode zc_Ledger_canServe 28 = .ok (.getfield 9, 3) := by decide +kernel
theorem zd_Ledger_canServe_31 : decode zc_Ledger_canServe 31 = .ok (.aload_n 1, 1) := by decide +kernel
theorem zd_Ledger_canServe_32 : decode zc_Ledger_canServe 32 = .ok (.getfield 87, 3) := by decide +kernel
theorem zd_Ledger_canServe_35 : decode zc_Ledger_canServe 35 = .ok (.iaload, 1) := by decide +kernel
theorem zd_Ledger_canServe_36 : decode zc_Ledger_canServe 36 = .ok (.aload_n 1, 1) := by decide +kernel
theorem zd_Ledger_canServe_37 : decode zc_Ledger_canServe 37 = .ok (.getfield 72, 3) := by decide +kernel
theorem zd_Ledger_canServe_40 : decode zc_Ledger_canServe 40 = .ok (.if_icmp .lt 7, 3) := by decide +kernel
theorem zd_Ledger_canServe_43 : decode zc_Ledger_canServe 43 = .ok (.iconst 1, 1) := by decide +kernel
theorem zd_Ledger_canServe_44 : decode zc_Ledger_canServe 44 = .ok (.goto 4, 3) := by decide +kernel
theorem zd_Ledger_canServe_47 : decode zc_Ledger_canServe 47 = .ok (.iconst 0, 1) := by decide +kernel
theorem zd_Ledger_canServe_48 : decode zc_Ledger_canServe 48 = .ok (.ireturn, 1) := by decide +kernel
theorem zd_Ledger_move_0 : decode zc_Ledger_move 0 = .ok (.aload_n 1, 1) := by decide +kernel
theorem zd_Ledger_move_1 : decode zc_Ledger_move 1 = .ok (.iload_n 2, 1) := by decide +kernel
theorem zd_Ledger_move_2 : decode zc_Ledger_move 2 = .ok (.dup2, 1) := by decide +kernel
theorem zd_Ledger_move_3 : decode zc_Ledger_move 3 = .ok (.iaload, 1) := by decide +kernel
theorem zd_Ledger_move_4 : decode zc_Ledger_move 4 = .ok (.iload 4, 2) := by decide +kernel
theorem zd_Ledger_move_6 : decode zc_Ledger_move 6 = .ok (.isub, 1) := by decide +kernel
theorem zd_Ledger_move_7 : decode zc_Ledger_move 7 = .ok (.iastore, 1) := by decide +kernel
theorem zd_Ledger_move_8 : decode zc_Ledger_move 8 = .ok (.aload_n 1, 1) := by decide +kernel
theorem zd_Ledger_move_9 : decode zc_Ledger_move 9 = .ok (.iload_n 3, 1) := by decide +kernel
theorem zd_Ledger_move_10 : decode zc_Ledger_move 10 = .ok (.dup2, 1) := by decide +kernel
theorem zd_Ledger_move_11 : decode zc_Ledger_move 11 = .ok (.iaload, 1) := by decide +kernel
end
section
theorem zd_Ledger_move_12 : decode zc_Ledger_move 12 = .ok (.iload 4, 2) := by decide +kernel
theorem zd_Ledger_move_14 : decode zc_Ledger_move 14 = .ok (.iadd, 1) := by decide +kernel
theorem zd_Ledger_move_15 : decode zc_Ledger_move 15 = .ok (.iastore, 1) := by decide +kernel
theorem zd_Ledger_move_16 : decode zc_Ledger_move 16 = .ok (.return_, 1) := by decide +kernel
theorem zd_Ledger_takeOut_0 : decode zc_Ledger_takeOut 0 = .ok (.aload_n 0, 1) := by decide +kernel
theorem zd_Ledger_takeOut_1 : decode zc_Ledger_takeOut 1 = .ok (.dup, 1) := by decide +kernel
theorem zd_Ledger_takeOut_2 : decode zc_Ledger_takeOut 2 = .ok (.getfield 66, 3) := by decide +kernel
theorem zd_Ledger_takeOut_5 : decode zc_Ledger_takeOut 5 = .ok (.iconst 1, 1) := by decide +kernel
theorem zd_Ledger_takeOut_6 : decode zc_Ledger_takeOut 6 = .ok (.isub, 1) := by decide +kernel
theorem zd_Ledger_takeOut_7 : decode zc_Ledger_takeOut 7 = .ok (.putfield 66, 3) := by decide +kernel
theorem zd_Ledger_takeOut_10 : decode zc_Ledger_takeOut 10 = .ok (.iload_n 1, 1) := by decide +kernel
theorem zd_Ledger_takeOut_11 : decode zc_Ledger_takeOut 11 = .ok (.istore_n 2, 1) := by decide +kernel
theorem zd_Ledger_takeOut_12 : decode zc_Ledger_takeOut 12 = .ok (.iload_n 2, 1) := by decide +kernel
theorem zd_Ledger_takeOut_13 : decode zc_Ledger_takeOut 13 = .ok (.aload_n 0, 1) := by decide +kernel
theorem zd_Ledger_takeOut_14 : decode zc_Ledger_takeOut 14 = .ok (.getfield 66, 3) := by decide +kernel
theorem zd_Ledger_takeOut_17 : decode zc_Ledger_takeOut 17 = .ok (.if_icmp .ge 23, 3) := by decide +kernel
theorem zd_Ledger_takeOut_20 : decode zc_Ledger_takeOut 20 = .ok (.aload_n 0, 1) := by decide +kernel
theorem zd_Ledger_takeOut_21 : decode zc_Ledger_takeOut 21 = .ok (.getfield 20, 3) := by decide +kernel
theorem zd_Ledger_takeOut_24 : decode zc_Ledger_takeOut 24 = .ok (.iload_n 2, 1) := by decide +kernel
theorem zd_Ledger_takeOut_25 : decode zc_Ledger_takeOut 25 = .ok (.aload_n 0, 1) := by decide +kernel
theorem zd_Ledger_takeOut_26 : decode zc_Ledger_takeOut 26 = .ok (.getfield 20, 3) := by decide +kernel
theorem zd_Ledger_takeOut_29 : decode zc_Ledger_takeOut 29 = .ok (.iload_n 2, 1) := by decide +kernel
theorem zd_Ledger_takeOut_30 : decode zc_Ledger_takeOut 30 = .ok (.iconst 1, 1) := by decide +kernel
theorem zd_Ledger_takeOut_31 : decode zc_Ledger_takeOut 31 = .ok (.iadd, 1) := by decide +kernel
theorem zd_Ledger_takeOut_32 : decode zc_Ledger_takeOut 32 = .ok (.aaload, 1) := by decide +kernel
theorem zd_Ledger_takeOut_33 : decode zc_Ledger_takeOut 33 = .ok (.aastore, 1) := by decide +kernel
theorem zd_Ledger_takeOut_34 : decode zc_Ledger_takeOut 34 = .ok (.iinc 2 1, 3) := by decide +kernel
theorem zd_Ledger_takeOut_37 : decode zc_Ledger_takeOut 37 = .ok (.goto (-25), 3) := by decide +kernel
theorem zd_Ledger_takeOut_40 : decode zc_Ledger_takeOut 40 = .ok (.aload_n 0, 1) := by decide +kernel
theorem zd_Ledger_takeOut_41 : decode zc_Ledger_takeOut 41 = .ok (.getfield 20, 3) := by decide +kernel
theorem zd_Ledger_takeOut_44 : decode zc_Ledger_takeOut 44 = .ok (.aload_n 0, 1) := by decide +kernel
theorem zd_Ledger_takeOut_45 : decode zc_Ledger_takeOut 45 = .ok (.getfield 66, 3) := by decide +kernel
theorem zd_Ledger_takeOut_48 : decode zc_Ledger_takeOut 48 = .ok (.aconst_null, 1) := by decide +kernel
theorem zd_Ledger_takeOut_49 : decode zc_Ledger_takeOut 49 = .ok (.aastore, 1) := by decide +kernel
theorem zd_Ledger_takeOut_50 : decode zc_Ledger_takeOut 50 = .ok (.return_, 1) := by decide +kernel
theorem zd_Ledger_tradeWith_0 : decode zc_Ledger_tradeWith 0 = .ok (.aload_n 0, 1) := by decide +kernel
theorem zd_Ledger_tradeWith_1 : decode zc_Ledger_tradeWith 1 = .ok (.getfield 20, 3) := by decide +kernel
theorem zd_Ledger_tradeWith_4 : decode zc_Ledger_tradeWith 4 = .ok (.iload_n 2, 1) := by decide +kernel
theorem zd_Ledger_tradeWith_5 : decode zc_Ledger_tradeWith 5 = .ok (.aaload, 1) := by decide +kernel
theorem zd_Ledger_tradeWith_6 : decode zc_Ledger_tradeWith 6 = .ok (.astore_n 3, 1) := by decide +kernel
theorem zd_Ledger_tradeWith_7 : decode zc_Ledger_tradeWith 7 = .ok (.aload_n 3, 1) := by decide +kernel
theorem zd_Ledger_tradeWith_8 : decode zc_Ledger_tradeWith 8 = .ok (.ifnull 11, 3) := by decide +kernel
theorem zd_Ledger_tradeWith_11 : decode zc_Ledger_tradeWith 11 = .ok (.aload_n 3, 1) := by decide +kernel
theorem zd_Ledger_tradeWith_12 : decode zc_Ledger_tradeWith 12 = .ok (.getfield 72, 3) := by decide +kernel
theorem zd_Ledger_tradeWith_15 : decode zc_Ledger_tradeWith 15 = .ok (.iconst 1, 1) := by decide +kernel
theorem zd_Ledger_tradeWith_16 : decode zc_Ledger_tradeWith 16 = .ok (.if_icmp .ge 5, 3) := by decide +kernel
theorem zd_Ledger_tradeWith_19 : decode zc_Ledger_tradeWith 19 = .ok (.iconst 0, 1) := by decide +kernel
theorem zd_Ledger_tradeWith_20 : decode zc_Ledger_tradeWith 20 = .ok (.ireturn, 1) := by decide +kernel
theorem zd_Ledger_tradeWith_21 : decode zc_Ledger_tradeWith 21 = .ok (.aload_n 1, 1) := by decide +kernel
theorem zd_Ledger_tradeWith_22 : decode zc_Ledger_tradeWith 22 = .ok (.invokevirtual 83, 3) := by decide +kernel
theorem zd_Ledger_tradeWith_25 : decode zc_Ledger_tradeWith 25 = .ok (.ifCond .eq 10, 3) := by decide +kernel
theorem zd_Ledger_tradeWith_28 : decode zc_Ledger_tradeWith 28 = .ok (.aload_n 1, 1) := by decide +kernel
theorem zd_Ledger_tradeWith_29 : decode zc_Ledger_tradeWith 29 = .ok (.getfield 87, 3) := by decide +kernel
theorem zd_Ledger_tradeWith_32 : decode zc_Ledger_tradeWith 32 = .ok (.goto 7, 3) := by decide +kernel
theorem zd_Ledger_tradeWith_35 : decode zc_Ledger_tradeWith 35 = .ok (.aload_n 3, 1) := by decide +kernel
theorem zd_Ledger_tradeWith_36 : decode zc_Ledger_tradeWith 36 = .ok (.getfield 87, 3) := by decide +kernel
theorem zd_Ledger_tradeWith_39 : decode zc_Ledger_tradeWith 39 = .ok (.istore 4, 2) := by decide +kernel
theorem zd_Ledger_tradeWith_41 : decode zc_Ledger_tradeWith 41 = .ok (.aload_n 1, 1) := by decide +kernel
theorem zd_Ledger_tradeWith_42 : decode zc_Ledger_tradeWith 42 = .ok (.invokevirtual 83, 3) := by decide +kernel
theorem zd_Ledger_tradeWith_45 : decode zc_Ledger_tradeWith 45 = .ok (.ifCond .eq 10, 3) := by decide +kernel
theorem zd_Ledger_tradeWith_48 : decode zc_Ledger_tradeWith 48 = .ok (.aload_n 3, 1) := by decide +kernel
theorem zd_Ledger_tradeWith_49 : decode zc_Ledger_tradeWith 49 = .ok (.getfield 87, 3) := by decide +kernel
theorem zd_Ledger_tradeWith_52 : decode zc_Ledger_tradeWith 52 = .ok (.goto 7, 3) := by decide +kernel
theorem zd_Ledger_tradeWith_55 : decode zc_Ledger_tradeWith 55 = .ok (.aload_n 1, 1) := by decide +kernel
theorem zd_Ledger_tradeWith_56 : decode zc_Ledger_tradeWith 56 = .ok (.getfield 87, 3) := by decide +kernel
theorem zd_Ledger_tradeWith_59 : decode zc_Ledger_tradeWith 59 = .ok (.istore 5, 2) := by decide +kernel
theorem zd_Ledger_tradeWith_61 : decode zc_Ledger_tradeWith 61 = .ok (.aload_n 0, 1) := by decide +kernel
theorem zd_Ledger_tradeWith_62 : decode zc_Ledger_tradeWith 62 = .ok (.getfield 9, 3) := by decide +kernel
theorem zd_Ledger_tradeWith_65 : decode zc_Ledger_tradeWith 65 = .ok (.iload 5, 2) := by decide +kernel
theorem zd_Ledger_tradeWith_67 : decode zc_Ledger_tradeWith 67 = .ok (.iaload, 1) := by decide +kernel
theorem zd_Ledger_tradeWith_68 : decode zc_Ledger_tradeWith 68 = .ok (.aload_n 3, 1) := by decide +kernel
theorem zd_Ledger_tradeWith_69 : decode zc_Ledger_tradeWith 69 = .ok (.getfield 72, 3) := by decide +kernel
theorem zd_Ledger_tradeWith_72 : decode zc_Ledger_tradeWith 72 = .ok (.idiv, 1) := by decide +kernel
theorem zd_Ledger_tradeWith_73 : decode zc_Ledger_tradeWith 73 = .ok (.istore 6, 2) := by decide +kernel
theorem zd_Ledger_tradeWith_75 : decode zc_Ledger_tradeWith 75 = .ok (.aload_n 1, 1) := by decide +kernel
theorem zd_Ledger_tradeWith_76 : decode zc_Ledger_tradeWith 76 = .ok (.getfield 57, 3) := by decide +kernel
theorem zd_Ledger_tradeWith_79 : decode zc_Ledger_tradeWith 79 = .ok (.aload_n 3, 1) := by decide +kernel
theorem zd_Ledger_tradeWith_80 : decode zc_Ledger_tradeWith 80 = .ok (.getfield 57, 3) := by decide +kernel
theorem zd_Ledger_tradeWith_83 : decode zc_Ledger_tradeWith 83 = .ok (.invokestatic 90, 3) := by decide +kernel
theorem zd_Ledger_tradeWith_86 : decode zc_Ledger_tradeWith 86 = .ok (.aload_n 0, 1) := by decide +kernel
theorem zd_Ledger_tradeWith_87 : decode zc_Ledger_tradeWith 87 = .ok (.getfield 15, 3) := by decide +kernel
theorem zd_Ledger_tradeWith_90 : decode zc_Ledger_tradeWith 90 = .ok (.iload 4, 2) := by decide +kernel
theorem zd_Ledger_tradeWith_92 : decode zc_Ledger_tradeWith 92 = .ok (.iaload, 1) := by decide +kernel
theorem zd_Ledger_tradeWith_93 : decode zc_Ledger_tradeWith 93 = .ok (.iload 6, 2) := by decide +kernel
theorem zd_Ledger_tradeWith_95 : decode zc_Ledger_tradeWith 95 = .ok (.invokestatic 90, 3) := by decide +kernel
theorem zd_Ledger_tradeWith_98 : decode zc_Ledger_tradeWith 98 = .ok (.invokestatic 90, 3) := by decide +kernel
theorem zd_Ledger_tradeWith_101 : decode zc_Ledger_tradeWith 101 = .ok (.istore 7, 2) := by decide +kernel
theorem zd_Ledger_tradeWith_103 : decode zc_Ledger_tradeWith 103 = .ok (.iload 7, 2) := by decide +kernel
theorem zd_Ledger_tradeWith_105 : decode zc_Ledger_tradeWith 105 = .ok (.ifCond .ne 13, 3) := by decide +kernel
theorem zd_Ledger_tradeWith_108 : decode zc_Ledger_tradeWith 108 = .ok (.aload_n 0, 1) := by decide +kernel
theorem zd_Ledger_tradeWith_109 : decode zc_Ledger_tradeWith 109 = .ok (.aload_n 3, 1) := by decide +kernel
theorem zd_Ledger_tradeWith_110 : decode zc_Ledger_tradeWith 110 = .ok (.invokevirtual 96, 3) := by decide +kernel
theorem zd_Ledger_tradeWith_113 : decode zc_Ledger_tradeWith 113 = .ok (.ifCond .eq 5, 3) := by decide +kernel
theorem zd_Ledger_tradeWith_116 : decode zc_Ledger_tradeWith 116 = .ok (.iconst 0, 1) := by decide +kernel
theorem zd_Ledger_tradeWith_117 : decode zc_Ledger_tradeWith 117 = .ok (.ireturn, 1) := by decide +kernel
theorem zd_Ledger_tradeWith_118 : decode zc_Ledger_tradeWith 118 = .ok (.aload_n 1, 1) := by decide +kernel
theorem zd_Ledger_tradeWith_119 : decode zc_Ledger_tradeWith 119 = .ok (.dup, 1) := by decide +kernel
theorem zd_Ledger_tradeWith_120 : decode zc_Ledger_tradeWith 120 = .ok (.getfield 57, 3) := by decide +kernel
theorem zd_Ledger_tradeWith_123 : decode zc_Ledger_tradeWith 123 = .ok (.iload 7, 2) := by decide +kernel
theorem zd_Ledger_tradeWith_125 : decode zc_Ledger_tradeWith 125 = .ok (.isub, 1) := by decide +kernel
theorem zd_Ledger_tradeWith_126 : decode zc_Ledger_tradeWith 126 = .ok (.putfield 57, 3) := by decide +kernel
theorem zd_Ledger_tradeWith_129 : decode zc_Ledger_tradeWith 129 = .ok (.aload_n 3, 1) := by decide +kernel
theorem zd_Ledger_tradeWith_130 : decode zc_Ledger_tradeWith 130 = .ok (.dup, 1) := by decide +kernel
theorem zd_Ledger_tradeWith_131 : decode zc_Ledger_tradeWith 131 = .ok (.getfield 57, 3) := by decide +kernel
theorem zd_Ledger_tradeWith_134 : decode zc_Ledger_tradeWith 134 = .ok (.iload 7, 2) := by decide +kernel
theorem zd_Ledger_tradeWith_136 : decode zc_Ledger_tradeWith 136 = .ok (.isub, 1) := by decide +kernel
theorem zd_Ledger_tradeWith_137 : decode zc_Ledger_tradeWith 137 = .ok (.putfield 57, 3) := by decide +kernel
theorem zd_Ledger_tradeWith_140 : decode zc_Ledger_tradeWith 140 = .ok (.aload_n 0, 1) := by decide +kernel
theorem zd_Ledger_tradeWith_141 : decode zc_Ledger_tradeWith 141 = .ok (.aload_n 0, 1) := by decide +kernel
theorem zd_Ledger_tradeWith_142 : decode zc_Ledger_tradeWith 142 = .ok (.getfield 15, 3) := by decide +kernel
theorem zd_Ledger_tradeWith_145 : decode zc_Ledger_tradeWith 145 = .ok (.iload 4, 2) := by decide +kernel
theorem zd_Ledger_tradeWith_147 : decode zc_Ledger_tradeWith 147 = .ok (.iload 5, 2) := by decide +kernel
theorem zd_Ledger_tradeWith_149 : decode zc_Ledger_tradeWith 149 = .ok (.iload 7, 2) := by decide +kernel
theorem zd_Ledger_tradeWith_151 : decode zc_Ledger_tradeWith 151 = .ok (.invokevirtual 53, 3) := by decide +kernel
theorem zd_Ledger_tradeWith_154 : decode zc_Ledger_tradeWith 154 = .ok (.aload_n 0, 1) := by decide +kernel
theorem zd_Ledger_tradeWith_155 : decode zc_Ledger_tradeWith 155 = .ok (.aload_n 0, 1) := by decide +kernel
theorem zd_Ledger_tradeWith_156 : decode zc_Ledger_tradeWith 156 = .ok (.getfield 9, 3) := by decide +kernel
theorem zd_Ledger_tradeWith_159 : decode zc_Ledger_tradeWith 159 = .ok (.iload 5, 2) := by decide +kernel
theorem zd_Ledger_tradeWith_161 : decode zc_Ledger_tradeWith 161 = .ok (.iload 4, 2) := by decide +kernel
theorem zd_Ledger_tradeWith_163 : decode zc_Ledger_tradeWith 163 = .ok (.iload 7, 2) := by decide +kernel
theorem zd_Ledger_tradeWith_165 : decode zc_Ledger_tradeWith 165 = .ok (.aload_n 3, 1) := by decide +kernel
theorem zd_Ledger_tradeWith_166 : decode zc_Ledger_tradeWith 166 = .ok (.getfield 72, 3) := by decide +kernel
theorem zd_Ledger_tradeWith_169 : decode zc_Ledger_tradeWith 169 = .ok (.imul, 1) := by decide +kernel
theorem zd_Ledger_tradeWith_170 : decode zc_Ledger_tradeWith 170 = .ok (.invokevirtual 53, 3) := by decide +kernel
theorem zd_Ledger_tradeWith_173 : decode zc_Ledger_tradeWith 173 = .ok (.iload 7, 2) := by decide +kernel
theorem zd_Ledger_tradeWith_175 : decode zc_Ledger_tradeWith 175 = .ok (.ifCond .eq 10, 3) := by decide +kernel
theorem zd_Ledger_tradeWith_178 : decode zc_Ledger_tradeWith 178 = .ok (.aload_n 3, 1) := by decide +kernel
theorem zd_Ledger_tradeWith_179 : decode zc_Ledger_tradeWith 179 = .ok (.getfield 57, 3) := by decide +kernel
theorem zd_Ledger_tradeWith_182 : decode zc_Ledger_tradeWith 182 = .ok (.ifCond .ne 8, 3) := by decide +kernel
theorem zd_Ledger_tradeWith_185 : decode zc_Ledger_tradeWith 185 = .ok (.aload_n 0, 1) := by decide +kernel
theorem zd_Ledger_tradeWith_186 : decode zc_Ledger_tradeWith 186 = .ok (.iload_n 2, 1) := by decide +kernel
theorem zd_Ledger_tradeWith_187 : decode zc_Ledger_tradeWith 187 = .ok (.invokevirtual 100, 3) := by decide +kernel
theorem zd_Ledger_tradeWith_190 : decode zc_Ledger_tradeWith 190 = .ok (.iconst 1, 1) := by decide +kernel
theorem zd_Ledger_tradeWith_191 : decode zc_Ledger_tradeWith 191 = .ok (.ireturn, 1) := by decide +kernel
theorem zd_Ledger_match_0 : decode zc_Ledger_match 0 = .ok (.iconst 1, 1) := by decide +kernel
theorem zd_Ledger_match_1 : decode zc_Ledger_match 1 = .ok (.istore_n 2, 1) := by decide +kernel
theorem zd_Ledger_match_2 : decode zc_Ledger_match 2 = .ok (.iconst 0, 1) := by decide +kernel
theorem zd_Ledger_match_3 : decode zc_Ledger_match 3 = .ok (.istore_n 3, 1) := by decide +kernel
theorem zd_Ledger_match_4 : decode zc_Ledger_match 4 = .ok (.iload_n 3, 1) := by decide +kernel
theorem zd_Ledger_match_5 : decode zc_Ledger_match 5 = .ok (.sipush 1009, 3) := by decide +kernel
theorem zd_Ledger_match_8 : decode zc_Ledger_match 8 = .ok (.if_icmp .ge 49, 3) := by decide +kernel
theorem zd_Ledger_match_11 : decode zc_Ledger_match 11 = .ok (.iload_n 2, 1) := by decide +kernel
theorem zd_Ledger_match_12 : decode zc_Ledger_match 12 = .ok (.ifCond .eq 45, 3) := by decide +kernel
theorem zd_Ledger_match_15 : decode zc_Ledger_match 15 = .ok (.aload_n 1, 1) := by decide +kernel
theorem zd_Ledger_match_16 : decode zc_Ledger_match 16 = .ok (.getfield 57, 3) := by decide +kernel
theorem zd_Ledger_match_19 : decode zc_Ledger_match 19 = .ok (.ifCond .le 38, 3) := by decide +kernel
theorem zd_Ledger_match_22 : decode zc_Ledger_match 22 = .ok (.aload_n 0, 1) := by decide +kernel
theorem zd_Ledger_match_23 : decode zc_Ledger_match 23 = .ok (.aload_n 1, 1) := by decide +kernel
theorem zd_Ledger_match_24 : decode zc_Ledger_match 24 = .ok (.invokevirtual 58, 3) := by decide +kernel
theorem zd_Ledger_match_27 : decode zc_Ledger_match 27 = .ok (.istore 4, 2) := by decide +kernel
theorem zd_Ledger_match_29 : decode zc_Ledger_match 29 = .ok (.iload 4, 2) := by decide +kernel
theorem zd_Ledger_match_31 : decode zc_Ledger_match 31 = .ok (.iconst (-1), 1) := by decide +kernel
theorem zd_Ledger_match_32 : decode zc_Ledger_match 32 = .ok (.if_icmp .eq 17, 3) := by decide +kernel
theorem zd_Ledger_match_35 : decode zc_Ledger_match 35 = .ok (.aload_n 0, 1) := by decide +kernel
theorem zd_Ledger_match_36 : decode zc_Ledger_match 36 = .ok (.aload_n 1, 1) := by decide +kernel
theorem zd_Ledger_match_37 : decode zc_Ledger_match 37 = .ok (.iload 4, 2) := by decide +kernel
theorem zd_Ledger_match_39 : decode zc_Ledger_match 39 = .ok (.invokevirtual 62, 3) := by decide +kernel
theorem zd_Ledger_match_42 : decode zc_Ledger_match 42 = .ok (.ifCond .eq 7, 3) := by decide +kernel
theorem zd_Ledger_match_45 : decode zc_Ledger_match 45 = .ok (.iconst 1, 1) := by decide +kernel
theorem zd_Ledger_match_46 : decode zc_Ledger_match 46 = .ok (.goto 4, 3) := by decide +kernel
theorem zd_Ledger_match_49 : decode zc_Ledger_match 49 = .ok (.iconst 0, 1) := by decide +kernel
theorem zd_Ledger_match_50 : decode zc_Ledger_match 50 = .ok (.istore_n 2, 1) := by decide +kernel
theorem zd_Ledger_match_51 : decode zc_Ledger_match 51 = .ok (.iinc 3 1, 3) := by decide +kernel
theorem zd_Ledger_match_54 : decode zc_Ledger_match 54 = .ok (.goto (-50), 3) := by decide +kernel
theorem zd_Ledger_match_57 : decode zc_Ledger_match 57 = .ok (.aload_n 1, 1) := by decide +kernel
theorem zd_Ledger_match_58 : decode zc_Ledger_match 58 = .ok (.getfield 57, 3) := by decide +kernel
theorem zd_Ledger_match_61 : decode zc_Ledger_match 61 = .ok (.ifCond .le 32, 3) := by decide +kernel
theorem zd_Ledger_match_64 : decode zc_Ledger_match 64 = .ok (.aload_n 0, 1) := by decide +kernel
theorem zd_Ledger_match_65 : decode zc_Ledger_match 65 = .ok (.getfield 66, 3) := by decide +kernel
theorem zd_Ledger_match_68 : decode zc_Ledger_match 68 = .ok (.bipush 8, 2) := by decide +kernel
theorem zd_Ledger_match_70 : decode zc_Ledger_match 70 = .ok (.if_icmp .ge 23, 3) := by decide +kernel
theorem zd_Ledger_match_73 : decode zc_Ledger_match 73 = .ok (.aload_n 0, 1) := by decide +kernel
theorem zd_Ledger_match_74 : decode zc_Ledger_match 74 = .ok (.getfield 20, 3) := by decide +kernel
theorem zd_Ledger_match_77 : decode zc_Ledger_match 77 = .ok (.aload_n 0, 1) := by decide +kernel
theorem zd_Ledger_match_78 : decode zc_Ledger_match 78 = .ok (.getfield 66, 3) := by decide +kernel
theorem zd_Ledger_match_81 : decode zc_Ledger_match 81 = .ok (.aload_n 1, 1) := by decide +kernel
theorem zd_Ledger_match_82 : decode zc_Ledger_match 82 = .ok (.aastore, 1) := by decide +kernel
theorem zd_Ledger_match_83 : decode zc_Ledger_match 83 = .ok (.aload_n 0, 1) := by decide +kernel
theorem zd_Ledger_match_84 : decode zc_Ledger_match 84 = .ok (.dup, 1) := by decide +kernel
theorem zd_Ledger_match_85 : decode zc_Ledger_match 85 = .ok (.getfield 66, 3) := by decide +kernel
theorem zd_Ledger_match_88 : decode zc_Ledger_match 88 = .ok (.iconst 1, 1) := by decide +kernel
theorem zd_Ledger_match_89 : decode zc_Ledger_match 89 = .ok (.iadd, 1) := by decide +kernel
theorem zd_Ledger_match_90 : decode zc_Ledger_match 90 = .ok (.putfield 66, 3) := by decide +kernel
theorem zd_Ledger_match_93 : decode zc_Ledger_match 93 = .ok (.return_, 1) := by decide +kernel
theorem zd_Ledger_holdings_0 : decode zc_Ledger_holdings 0 = .ok (.iload_n 1, 1) := by decide +kernel
theorem zd_Ledger_holdings_1 : decode zc_Ledger_holdings 1 = .ok (.ifCond .ne 10, 3) := by decide +kernel
theorem zd_Ledger_holdings_4 : decode zc_Ledger_holdings 4 = .ok (.aload_n 0, 1) := by decide +kernel
theorem zd_Ledger_holdings_5 : decode zc_Ledger_holdings 5 = .ok (.getfield 9, 3) := by decide +kernel
theorem zd_Ledger_holdings_8 : decode zc_Ledger_holdings 8 = .ok (.goto 7, 3) := by decide +kernel
theorem zd_Ledger_holdings_11 : decode zc_Ledger_holdings 11 = .ok (.aload_n 0, 1) := by decide +kernel
theorem zd_Ledger_holdings_12 : decode zc_Ledger_holdings 12 = .ok (.getfield 15, 3) := by decide +kernel
theorem zd_Ledger_holdings_15 : decode zc_Ledger_holdings 15 = .ok (.areturn, 1) := by decide +kernel
theorem zd_Ledger_carryOut_0 : decode zc_Ledger_carryOut 0 = .ok (.aload_n 0, 1) := by decide +kernel
theorem zd_Ledger_carryOut_1 : decode zc_Ledger_carryOut 1 = .ok (.getfield 9, 3) := by decide +kernel
theorem zd_Ledger_carryOut_4 : decode zc_Ledger_carryOut 4 = .ok (.aload_n 1, 1) := by decide +kernel
theorem zd_Ledger_carryOut_5 : decode zc_Ledger_carryOut 5 = .ok (.getfield 24, 3) := by decide +kernel
theorem zd_Ledger_carryOut_8 : decode zc_Ledger_carryOut 8 = .ok (.iaload, 1) := by decide +kernel
theorem zd_Ledger_carryOut_9 : decode zc_Ledger_carryOut 9 = .ok (.ifCond .ne 4, 3) := by decide +kernel
theorem zd_Ledger_carryOut_12 : decode zc_Ledger_carryOut 12 = .ok (.return_, 1) := by decide +kernel
theorem zd_Ledger_carryOut_13 : decode zc_Ledger_carryOut 13 = .ok (.aload_n 0, 1) := by decide +kernel
theorem zd_Ledger_carryOut_14 : decode zc_Ledger_carryOut 14 = .ok (.getfield 9, 3) := by decide +kernel
theorem zd_Ledger_carryOut_17 : decode zc_Ledger_carryOut 17 = .ok (.aload_n 1, 1) := by decide +kernel
theorem zd_Ledger_carryOut_18 : decode zc_Ledger_carryOut 18 = .ok (.getfield 24, 3) := by decide +kernel
theorem zd_Ledger_carryOut_21 : decode zc_Ledger_carryOut 21 = .ok (.dup2, 1) := by decide +kernel
theorem zd_Ledger_carryOut_22 : decode zc_Ledger_carryOut 22 = .ok (.iaload, 1) := by decide +kernel
theorem zd_Ledger_carryOut_23 : decode zc_Ledger_carryOut 23 = .ok (.iconst 1, 1) := by decide +kernel
theorem zd_Ledger_carryOut_24 : decode zc_Ledger_carryOut 24 = .ok (.isub, 1) := by decide +kernel
theorem zd_Ledger_carryOut_25 : decode zc_Ledger_carryOut 25 = .ok (.iastore, 1) := by decide +kernel
theorem zd_Ledger_carryOut_26 : decode zc_Ledger_carryOut 26 = .ok (.aload_n 1, 1) := by decide +kernel
theorem zd_Ledger_carryOut_27 : decode zc_Ledger_carryOut 27 = .ok (.getfield 30, 3) := by decide +kernel
theorem zd_Ledger_carryOut_30 : decode zc_Ledger_carryOut 30 = .ok (.iconst 1, 1) := by decide +kernel
theorem zd_Ledger_carryOut_31 : decode zc_Ledger_carryOut 31 = .ok (.if_icmp .ne 33, 3) := by decide +kernel
theorem zd_Ledger_carryOut_34 : decode zc_Ledger_carryOut 34 = .ok (.aload_n 0, 1) := by decide +kernel
theorem zd_Ledger_carryOut_35 : decode zc_Ledger_carryOut 35 = .ok (.new 18, 3) := by decide +kernel
theorem zd_Ledger_carryOut_38 : decode zc_Ledger_carryOut 38 = .ok (.dup, 1) := by decide +kernel
theorem zd_Ledger_carryOut_39 : decode zc_Ledger_carryOut 39 = .ok (.aload_n 1, 1) := by decide +kernel
theorem zd_Ledger_carryOut_40 : decode zc_Ledger_carryOut 40 = .ok (.getfield 24, 3) := by decide +kernel
theorem zd_Ledger_carryOut_43 : decode zc_Ledger_carryOut 43 = .ok (.aload_n 1, 1) := by decide +kernel
theorem zd_Ledger_carryOut_44 : decode zc_Ledger_carryOut 44 = .ok (.getfield 33, 3) := by decide +kernel
theorem zd_Ledger_carryOut_47 : decode zc_Ledger_carryOut 47 = .ok (.aload_n 1, 1) := by decide +kernel
theorem zd_Ledger_carryOut_48 : decode zc_Ledger_carryOut 48 = .ok (.getfield 36, 3) := by decide +kernel
theorem zd_Ledger_carryOut_51 : decode zc_Ledger_carryOut 51 = .ok (.aload_n 1, 1) := by decide +kernel
theorem zd_Ledger_carryOut_52 : decode zc_Ledger_carryOut 52 = .ok (.getfield 39, 3) := by decide +kernel
theorem zd_Ledger_carryOut_55 : decode zc_Ledger_carryOut 55 = .ok (.invokespecial 42, 3) := by decide +kernel
theorem zd_Ledger_carryOut_58 : decode zc_Ledger_carryOut 58 = .ok (.invokevirtual 45, 3) := by decide +kernel
theorem zd_Ledger_carryOut_61 : decode zc_Ledger_carryOut 61 = .ok (.goto 47, 3) := by decide +kernel
theorem zd_Ledger_carryOut_64 : decode zc_Ledger_carryOut 64 = .ok (.aload_n 0, 1) := by decide +kernel
theorem zd_Ledger_carryOut_65 : decode zc_Ledger_carryOut 65 = .ok (.aload_n 1, 1) := by decide +kernel
theorem zd_Ledger_carryOut_66 : decode zc_Ledger_carryOut 66 = .ok (.getfield 33, 3) := by decide +kernel
theorem zd_Ledger_carryOut_69 : decode zc_Ledger_carryOut 69 = .ok (.invokevirtual 49, 3) := by decide +kernel
theorem zd_Ledger_carryOut_72 : decode zc_Ledger_carryOut 72 = .ok (.aload_n 1, 1) := by decide +kernel
theorem zd_Ledger_carryOut_73 : decode zc_Ledger_carryOut 73 = .ok (.getfield 24, 3) := by decide +kernel
theorem zd_Ledger_carryOut_76 : decode zc_Ledger_carryOut 76 = .ok (.iaload, 1) := by decide +kernel
theorem zd_Ledger_carryOut_77 : decode zc_Ledger_carryOut 77 = .ok (.aload_n 1, 1) := by decide +kernel
theorem zd_Ledger_carryOut_78 : decode zc_Ledger_carryOut 78 = .ok (.getfield 39, 3) := by decide +kernel
theorem zd_Ledger_carryOut_81 : decode zc_Ledger_carryOut 81 = .ok (.if_icmp .lt 27, 3) := by decide +kernel
theorem zd_Ledger_carryOut_84 : decode zc_Ledger_carryOut 84 = .ok (.aload_n 0, 1) := by decide +kernel
theorem zd_Ledger_carryOut_85 : decode zc_Ledger_carryOut 85 = .ok (.aload_n 0, 1) := by decide +kernel
theorem zd_Ledger_carryOut_86 : decode zc_Ledger_carryOut 86 = .ok (.aload_n 1, 1) := by decide +kernel
theorem zd_Ledger_carryOut_87 : decode zc_Ledger_carryOut 87 = .ok (.getfield 33, 3) := by decide +kernel
theorem zd_Ledger_carryOut_90 : decode zc_Ledger_carryOut 90 = .ok (.invokevirtual 49, 3) := by decide +kernel
theorem zd_Ledger_carryOut_93 : decode zc_Ledger_carryOut 93 = .ok (.aload_n 1, 1) := by decide +kernel
theorem zd_Ledger_carryOut_94 : decode zc_Ledger_carryOut 94 = .ok (.getfield 24, 3) := by decide +kernel
theorem zd_Ledger_carryOut_97 : decode zc_Ledger_carryOut 97 = .ok (.aload_n 1, 1) := by decide +kernel
theorem zd_Ledger_carryOut_98 : decode zc_Ledger_carryOut 98 = .ok (.getfield 36, 3) := by decide +kernel
theorem zd_Ledger_carryOut_101 : decode zc_Ledger_carryOut 101 = .ok (.aload_n 1, 1) := by decide +kernel
theorem zd_Ledger_carryOut_102 : decode zc_Ledger_carryOut 102 = .ok (.getfield 39, 3) := by decide +kernel
theorem zd_Ledger_carryOut_105 : decode zc_Ledger_carryOut 105 = .ok (.invokevirtual 53, 3) := by decide +kernel
theorem zd_Ledger_carryOut_108 : decode zc_Ledger_carryOut 108 = .ok (.return_, 1) := by decide +kernel
theorem zd_TL_closeSlot_0 : decode zc_TL_closeSlot 0 = .ok (.iload_n 2, 1) := by decide +kernel
theorem zd_TL_closeSlot_1 : decode zc_TL_closeSlot 1 = .ok (.ifCond .ne 4, 3) := by decide +kernel
theorem zd_TL_closeSlot_4 : decode zc_TL_closeSlot 4 = .ok (.return_, 1) := by decide +kernel
theorem zd_TL_closeSlot_5 : decode zc_TL_closeSlot 5 = .ok (.iconst 0, 1) := by decide +kernel
theorem zd_TL_closeSlot_6 : decode zc_TL_closeSlot 6 = .ok (.istore_n 3, 1) := by decide +kernel
theorem zd_TL_closeSlot_7 : decode zc_TL_closeSlot 7 = .ok (.iload_n 3, 1) := by decide +kernel
theorem zd_TL_closeSlot_8 : decode zc_TL_closeSlot 8 = .ok (.iconst 3, 1) := by decide +kernel
theorem zd_TL_closeSlot_9 : decode zc_TL_closeSlot 9 = .ok (.if_icmp .ge 46, 3) := by decide +kernel
theorem zd_TL_closeSlot_12 : decode zc_TL_closeSlot 12 = .ok (.aload_n 0, 1) := by decide +kernel
theorem zd_TL_closeSlot_13 : decode zc_TL_closeSlot 13 = .ok (.getfield 31, 3) := by decide +kernel
theorem zd_TL_closeSlot_16 : decode zc_TL_closeSlot 16 = .ok (.aload_n 1, 1) := by decide +kernel
theorem zd_TL_closeSlot_17 : decode zc_TL_closeSlot 17 = .ok (.getfield 79, 3) := by decide +kernel
theorem zd_TL_closeSlot_20 : decode zc_TL_closeSlot 20 = .ok (.iconst 3, 1) := by decide +kernel
theorem zd_TL_closeSlot_21 : decode zc_TL_closeSlot 21 = .ok (.imul, 1) := by decide +kernel
theorem zd_TL_closeSlot_22 : decode zc_TL_closeSlot 22 = .ok (.iload_n 3, 1) := by decide +kernel
theorem zd_TL_closeSlot_23 : decode zc_TL_closeSlot 23 = .ok (.iadd, 1) := by decide +kernel
theorem zd_TL_closeSlot_24 : decode zc_TL_closeSlot 24 = .ok (.aaload, 1) := by decide +kernel
theorem zd_TL_closeSlot_25 : decode zc_TL_closeSlot 25 = .ok (.astore 4, 2) := by decide +kernel
theorem zd_TL_closeSlot_27 : decode zc_TL_closeSlot 27 = .ok (.iload_n 2, 1) := by decide +kernel
theorem zd_TL_closeSlot_28 : decode zc_TL_closeSlot 28 = .ok (.iload_n 3, 1) := by decide +kernel
theorem zd_TL_closeSlot_29 : decode zc_TL_closeSlot 29 = .ok (.invokestatic 135, 3) := by decide +kernel
theorem zd_TL_closeSlot_32 : decode zc_TL_closeSlot 32 = .ok (.ifCond .eq 17, 3) := by decide +kernel
theorem zd_TL_closeSlot_35 : decode zc_TL_closeSlot 35 = .ok (.aload 4, 2) := by decide +kernel
theorem zd_TL_closeSlot_37 : decode zc_TL_closeSlot 37 = .ok (.ifnull 12, 3) := by decide +kernel
theorem zd_TL_closeSlot_40 : decode zc_TL_closeSlot 40 = .ok (.aload_n 1, 1) := by decide +kernel
theorem zd_TL_closeSlot_41 : decode zc_TL_closeSlot 41 = .ok (.getfield 164, 3) := by decide +kernel
theorem zd_TL_closeSlot_44 : decode zc_TL_closeSlot 44 = .ok (.aload 4, 2) := by decide +kernel
theorem zd_TL_closeSlot_46 : decode zc_TL_closeSlot 46 = .ok (.invokevirtual 196, 3) := by decide +kernel
theorem zd_TL_closeSlot_49 : decode zc_TL_closeSlot 49 = .ok (.iinc 3 1, 3) := by decide +kernel
theorem zd_TL_closeSlot_52 : decode zc_TL_closeSlot 52 = .ok (.goto (-45), 3) := by decide +kernel
theorem zd_TL_closeSlot_55 : decode zc_TL_closeSlot 55 = .ok (.aload_n 1, 1) := by decide +kernel
theorem zd_TL_closeSlot_56 : decode zc_TL_closeSlot 56 = .ok (.bipush 31, 2) := by decide +kernel
theorem zd_TL_closeSlot_58 : decode zc_TL_closeSlot 58 = .ok (.bipush 31, 2) := by decide +kernel
theorem zd_TL_closeSlot_60 : decode zc_TL_closeSlot 60 = .ok (.aload_n 1, 1) := by decide +kernel
theorem zd_TL_closeSlot_61 : decode zc_TL_closeSlot 61 = .ok (.getfield 161, 3) := by decide +kernel
theorem zd_TL_closeSlot_64 : decode zc_TL_closeSlot 64 = .ok (.imul, 1) := by decide +kernel
theorem zd_TL_closeSlot_65 : decode zc_TL_closeSlot 65 = .ok (.aload_n 1, 1) := by decide +kernel
theorem zd_TL_closeSlot_66 : decode zc_TL_closeSlot 66 = .ok (.getfield 79, 3) := by decide +kernel
theorem zd_TL_closeSlot_69 : decode zc_TL_closeSlot 69 = .ok (.iadd, 1) := by decide +kernel
theorem zd_TL_closeSlot_70 : decode zc_TL_closeSlot 70 = .ok (.imul, 1) := by decide +kernel
theorem zd_TL_closeSlot_71 : decode zc_TL_closeSlot 71 = .ok (.iload_n 2, 1) := by decide +kernel
theorem zd_TL_closeSlot_72 : decode zc_TL_closeSlot 72 = .ok (.iadd, 1) := by decide +kernel
theorem zd_TL_closeSlot_73 : decode zc_TL_closeSlot 73 = .ok (.putfield 161, 3) := by decide +kernel
theorem zd_TL_closeSlot_76 : decode zc_TL_closeSlot 76 = .ok (.aload_n 1, 1) := by decide +kernel
theorem zd_TL_closeSlot_77 : decode zc_TL_closeSlot 77 = .ok (.dup, 1) := by decide +kernel
theorem zd_TL_closeSlot_78 : decode zc_TL_closeSlot 78 = .ok (.getfield 79, 3) := by decide +kernel
theorem zd_TL_closeSlot_81 : decode zc_TL_closeSlot 81 = .ok (.iconst 1, 1) := by decide +kernel
theorem zd_TL_closeSlot_82 : decode zc_TL_closeSlot 82 = .ok (.iadd, 1) := by decide +kernel
theorem zd_TL_closeSlot_83 : decode zc_TL_closeSlot 83 = .ok (.putfield 79, 3) := by decide +kernel
theorem zd_TL_closeSlot_86 : decode zc_TL_closeSlot 86 = .ok (.return_, 1) := by decide +kernel
theorem zd_TL_propose_0 : decode zc_TL_propose 0 = .ok (.aload_n 0, 1) := by decide +kernel
theorem zd_TL_propose_1 : decode zc_TL_propose 1 = .ok (.iload_n 1, 1) := by decide +kernel
theorem zd_TL_propose_2 : decode zc_TL_propose 2 = .ok (.invokevirtual 72, 3) := by decide +kernel
theorem zd_TL_propose_5 : decode zc_TL_propose 5 = .ok (.ifCond .eq 13, 3) := by decide +kernel
theorem zd_TL_propose_8 : decode zc_TL_propose 8 = .ok (.iload_n 2, 1) := by decide +kernel
theorem zd_TL_propose_9 : decode zc_TL_propose 9 = .ok (.iconst 1, 1) := by decide +kernel
theorem zd_TL_propose_10 : decode zc_TL_propose 10 = .ok (.bipush 7, 2) := by decide +kernel
theorem zd_TL_propose_12 : decode zc_TL_propose 12 = .ok (.invokestatic 41, 3) := by decide +kernel
theorem zd_TL_propose_15 : decode zc_TL_propose 15 = .ok (.ifCond .ne 5, 3) := by decide +kernel
theorem zd_TL_propose_18 : decode zc_TL_propose 18 = .ok (.iconst 0, 1) := by decide +kernel
theorem zd_TL_propose_19 : decode zc_TL_propose 19 = .ok (.ireturn, 1) := by decide +kernel
theorem zd_TL_propose_20 : decode zc_TL_propose 20 = .ok (.aload_n 0, 1) := by decide +kernel
theorem zd_TL_propose_21 : decode zc_TL_propose 21 = .ok (.getfield 22, 3) := by decide +kernel
theorem zd_TL_propose_24 : decode zc_TL_propose 24 = .ok (.iload_n 1, 1) := by decide +kernel
theorem zd_TL_propose_25 : decode zc_TL_propose 25 = .ok (.aaload, 1) := by decide +kernel
theorem zd_TL_propose_26 : decode zc_TL_propose 26 = .ok (.getfield 75, 3) := by decide +kernel
theorem zd_TL_propose_29 : decode zc_TL_propose 29 = .ok (.aload_n 0, 1) := by decide +kernel
theorem zd_TL_propose_30 : decode zc_TL_propose 30 = .ok (.getfield 22, 3) := by decide +kernel
theorem zd_TL_propose_33 : decode zc_TL_propose 33 = .ok (.iload_n 1, 1) := by decide +kernel
theorem zd_TL_propose_34 : decode zc_TL_propose 34 = .ok (.aaload, 1) := by decide +kernel
theorem zd_TL_propose_35 : decode zc_TL_propose 35 = .ok (.getfield 79, 3) := by decide +kernel
theorem zd_TL_propose_38 : decode zc_TL_propose 38 = .ok (.aaload, 1) := by decide +kernel
theorem zd_TL_propose_39 : decode zc_TL_propose 39 = .ok (.astore_n 3, 1) := by decide +kernel
theorem zd_TL_propose_40 : decode zc_TL_propose 40 = .ok (.aload_n 3, 1) := by decide +kernel
theorem zd_TL_propose_41 : decode zc_TL_propose 41 = .ok (.getfield 82, 3) := by decide +kernel
theorem zd_TL_propose_44 : decode zc_TL_propose 44 = .ok (.ifCond .eq 5, 3) := by decide +kernel
theorem zd_TL_propose_47 : decode zc_TL_propose 47 = .ok (.iconst 0, 1) := by decide +kernel
theorem zd_TL_propose_48 : decode zc_TL_propose 48 = .ok (.ireturn, 1) := by decide +kernel
theorem zd_TL_propose_49 : decode zc_TL_propose 49 = .ok (.aload_n 0, 1) := by decide +kernel
theorem zd_TL_propose_50 : decode zc_TL_propose 50 = .ok (.iconst 1, 1) := by decide +kernel
theorem zd_TL_propose_51 : decode zc_TL_propose 51 = .ok (.putfield 45, 3) := by decide +kernel
theorem zd_TL_propose_54 : decode zc_TL_propose 54 = .ok (.aload_n 3, 1) := by decide +kernel
theorem zd_TL_propose_55 : decode zc_TL_propose 55 = .ok (.iload_n 2, 1) := by decide +kernel
theorem zd_TL_propose_56 : decode zc_TL_propose 56 = .ok (.invokevirtual 87, 3) := by decide +kernel
theorem zd_TL_propose_59 : decode zc_TL_propose 59 = .ok (.aload_n 3, 1) := by decide +kernel
theorem zd_TL_propose_60 : decode zc_TL_propose 60 = .ok (.invokevirtual 91, 3) := by decide +kernel
theorem zd_TL_propose_63 : decode zc_TL_propose 63 = .ok (.aload_n 0, 1) := by decide +kernel
theorem zd_TL_propose_64 : decode zc_TL_propose 64 = .ok (.aload_n 0, 1) := by decide +kernel
theorem zd_TL_propose_65 : decode zc_TL_propose 65 = .ok (.getfield 22, 3) := by decide +kernel
theorem zd_TL_propose_68 : decode zc_TL_propose 68 = .ok (.iload_n 1, 1) := by decide +kernel
theorem zd_TL_propose_69 : decode zc_TL_propose 69 = .ok (.aaload, 1) := by decide +kernel
theorem zd_TL_propose_70 : decode zc_TL_propose 70 = .ok (.aload_n 3, 1) := by decide +kernel
theorem zd_TL_propose_71 : decode zc_TL_propose 71 = .ok (.getfield 94, 3) := by decide +kernel
theorem zd_TL_propose_74 : decode zc_TL_propose 74 = .ok (.invokevirtual 97, 3) := by decide +kernel
theorem zd_TL_propose_77 : decode zc_TL_propose 77 = .ok (.iconst 1, 1) := by decide +kernel
theorem zd_TL_propose_78 : decode zc_TL_propose 78 = .ok (.ireturn, 1) := by decide +kernel
theorem zd_Agreement_runOutOfTime_0 : decode zc_Agreement_runOutOfTime 0 = .ok (.aload_n 0, 1) := by decide +kernel
theorem zd_Agreement_runOutOfTime_1 : decode zc_Agreement_runOutOfTime 1 = .ok (.invokevirtual 52, 3) := by decide +kernel
theorem zd_Agreement_runOutOfTime_4 : decode zc_Agreement_runOutOfTime 4 = .ok (.ifCond .ne 10, 3) := by decide +kernel
theorem zd_Agreement_runOutOfTime_7 : decode zc_Agreement_runOutOfTime 7 = .ok (.aload_n 0, 1) := by decide +kernel
theorem zd_Agreement_runOutOfTime_8 : decode zc_Agreement_runOutOfTime 8 = .ok (.invokevirtual 59, 3) := by decide +kernel
theorem zd_Agreement_runOutOfTime_11 : decode zc_Agreement_runOutOfTime 11 = .ok (.goto 15, 3) := by decide +kernel
theorem zd_Agreement_runOutOfTime_14 : decode zc_Agreement_runOutOfTime 14 = .ok (.aload_n 0, 1) := by decide +kernel
theorem zd_Agreement_runOutOfTime_15 : decode zc_Agreement_runOutOfTime 15 = .ok (.getfield 49, 3) := by decide +kernel
theorem zd_Agreement_runOutOfTime_18 : decode zc_Agreement_runOutOfTime 18 = .ok (.iconst 4, 1) := by decide +kernel
theorem zd_Agreement_runOutOfTime_19 : decode zc_Agreement_runOutOfTime 19 = .ok (.if_icmp .ge 7, 3) := by decide +kernel
theorem zd_Agreement_runOutOfTime_22 : decode zc_Agreement_runOutOfTime 22 = .ok (.aload_n 0, 1) := by decide +kernel
theorem zd_Agreement_runOutOfTime_23 : decode zc_Agreement_runOutOfTime 23 = .ok (.invokevirtual 62, 3) := by decide +kernel
theorem zd_Agreement_runOutOfTime_26 : decode zc_Agreement_runOutOfTime 26 = .ok (.return_, 1) := by decide +kernel
theorem zd_TL_timeout_0 : decode zc_TL_timeout 0 = .ok (.aload_n 0, 1) := by decide +kernel
theorem zd_TL_timeout_1 : decode zc_TL_timeout 1 = .ok (.iload_n 1, 1) := by decide +kernel
theorem zd_TL_timeout_2 : decode zc_TL_timeout 2 = .ok (.invokevirtual 72, 3) := by decide +kernel
theorem zd_TL_timeout_5 : decode zc_TL_timeout 5 = .ok (.ifCond .ne 5, 3) := by decide +kernel
theorem zd_TL_timeout_8 : decode zc_TL_timeout 8 = .ok (.iconst 0, 1) := by decide +kernel
theorem zd_TL_timeout_9 : decode zc_TL_timeout 9 = .ok (.ireturn, 1) := by decide +kernel
theorem zd_TL_timeout_10 : decode zc_TL_timeout 10 = .ok (.aload_n 0, 1) := by decide +kernel
theorem zd_TL_timeout_11 : decode zc_TL_timeout 11 = .ok (.getfield 22, 3) := by decide +kernel
theorem zd_TL_timeout_14 : decode zc_TL_timeout 14 = .ok (.iload_n 1, 1) := by decide +kernel
theorem zd_TL_timeout_15 : decode zc_TL_timeout 15 = .ok (.aaload, 1) := by decide +kernel
theorem zd_TL_timeout_16 : decode zc_TL_timeout 16 = .ok (.getfield 75, 3) := by decide +kernel
theorem zd_TL_timeout_19 : decode zc_TL_timeout 19 = .ok (.aload_n 0, 1) := by decide +kernel
theorem zd_TL_timeout_20 : decode zc_TL_timeout 20 = .ok (.getfield 22, 3) := by decide +kernel
theorem zd_TL_timeout_23 : decode zc_TL_timeout 23 = .ok (.iload_n 1, 1) := by decide +kernel
theorem zd_TL_timeout_24 : decode zc_TL_timeout 24 = .ok (.aaload, 1) := by decide +kernel
theorem zd_TL_timeout_25 : decode zc_TL_timeout 25 = .ok (.getfield 79, 3) := by decide +kernel
theorem zd_TL_timeout_28 : decode zc_TL_timeout 28 = .ok (.aaload, 1) := by decide +kernel
theorem zd_TL_timeout_29 : decode zc_TL_timeout 29 = .ok (.astore_n 2, 1) := by decide +kernel
theorem zd_TL_timeout_30 : decode zc_TL_timeout 30 = .ok (.aload_n 2, 1) := by decide +kernel
theorem zd_TL_timeout_31 : decode zc_TL_timeout 31 = .ok (.getfield 101, 3) := by decide +kernel
theorem zd_TL_timeout_34 : decode zc_TL_timeout 34 = .ok (.ifCond .ne 5, 3) := by decide +kernel
theorem zd_TL_timeout_37 : decode zc_TL_timeout 37 = .ok (.iconst 0, 1) := by decide +kernel
theorem zd_TL_timeout_38 : decode zc_TL_timeout 38 = .ok (.ireturn, 1) := by decide +kernel
theorem zd_TL_timeout_39 : decode zc_TL_timeout 39 = .ok (.aload_n 0, 1) := by decide +kernel
theorem zd_TL_timeout_40 : decode zc_TL_timeout 40 = .ok (.iconst 1, 1) := by decide +kernel
theorem zd_TL_timeout_41 : decode zc_TL_timeout 41 = .ok (.putfield 45, 3) := by decide +kernel
theorem zd_TL_timeout_44 : decode zc_TL_timeout 44 = .ok (.aload_n 2, 1) := by decide +kernel
theorem zd_TL_timeout_45 : decode zc_TL_timeout 45 = .ok (.invokevirtual 104, 3) := by decide +kernel
theorem zd_TL_timeout_48 : decode zc_TL_timeout 48 = .ok (.aload_n 2, 1) := by decide +kernel
theorem zd_TL_timeout_49 : decode zc_TL_timeout 49 = .ok (.invokevirtual 91, 3) := by decide +kernel
theorem zd_TL_timeout_52 : decode zc_TL_timeout 52 = .ok (.aload_n 0, 1) := by decide +kernel
theorem zd_TL_timeout_53 : decode zc_TL_timeout 53 = .ok (.aload_n 0, 1) := by decide +kernel
theorem zd_TL_timeout_54 : decode zc_TL_timeout 54 = .ok (.getfield 22, 3) := by decide +kernel
theorem zd_TL_timeout_57 : decode zc_TL_timeout 57 = .ok (.iload_n 1, 1) := by decide +kernel
theorem zd_TL_timeout_58 : decode zc_TL_timeout 58 = .ok (.aaload, 1) := by decide +kernel
theorem zd_TL_timeout_59 : decode zc_TL_timeout 59 = .ok (.aload_n 2, 1) := by decide +kernel
theorem zd_TL_timeout_60 : decode zc_TL_timeout 60 = .ok (.getfield 94, 3) := by decide +kernel
theorem zd_TL_timeout_63 : decode zc_TL_timeout 63 = .ok (.invokevirtual 97, 3) := by decide +kernel
theorem zd_TL_timeout_66 : decode zc_TL_timeout 66 = .ok (.iconst 1, 1) := by decide +kernel
theorem zd_TL_timeout_67 : decode zc_TL_timeout 67 = .ok (.ireturn, 1) := by decide +kernel
theorem zd_Envelope_init_0 : decode zc_Envelope_init 0 = .ok (.aload_n 0, 1) := by decide +kernel
theorem zd_Envelope_init_1 : decode zc_Envelope_init 1 = .ok (.invokespecial 3, 3) := by decide +kernel
theorem zd_Envelope_init_4 : decode zc_Envelope_init 4 = .ok (.aload_n 0, 1) := by decide +kernel
theorem zd_Envelope_init_5 : decode zc_Envelope_init 5 = .ok (.iload_n 1, 1) := by decide +kernel
theorem zd_Envelope_init_6 : decode zc_Envelope_init 6 = .ok (.putfield 9, 3) := by decide +kernel
theorem zd_Envelope_init_9 : decode zc_Envelope_init 9 = .ok (.aload_n 0, 1) := by decide +kernel
theorem zd_Envelope_init_10 : decode zc_Envelope_init 10 = .ok (.iload_n 2, 1) := by decide +kernel
theorem zd_Envelope_init_11 : decode zc_Envelope_init 11 = .ok (.putfield 15, 3) := by decide +kernel
theorem zd_Envelope_init_14 : decode zc_Envelope_init 14 = .ok (.aload_n 0, 1) := by decide +kernel
theorem zd_Envelope_init_15 : decode zc_Envelope_init 15 = .ok (.iconst 3, 1) := by decide +kernel
theorem zd_Envelope_init_16 : decode zc_Envelope_init 16 = .ok (.newarray .int, 2) := by decide +kernel
theorem zd_Envelope_init_18 : decode zc_Envelope_init 18 = .ok (.putfield 18, 3) := by decide +kernel
theorem zd_Envelope_init_21 : decode zc_Envelope_init 21 = .ok (.aload_n 0, 1) := by decide +kernel
theorem zd_Envelope_init_22 : decode zc_Envelope_init 22 = .ok (.iconst 3, 1) := by decide +kernel
theorem zd_Envelope_init_23 : decode zc_Envelope_init 23 = .ok (.newarray .int, 2) := by decide +kernel
theorem zd_Envelope_init_25 : decode zc_Envelope_init 25 = .ok (.putfield 22, 3) := by decide +kernel
theorem zd_Envelope_init_28 : decode zc_Envelope_init 28 = .ok (.return_, 1) := by decide +kernel
theorem zd_Agreement_ofKind_0 : decode zc_Agreement_ofKind 0 = .ok (.iload_n 1, 1) := by decide +kernel
theorem zd_Agreement_ofKind_1 : decode zc_Agreement_ofKind 1 = .ok (.ifCond .ne 8, 3) := by decide +kernel
theorem zd_Agreement_ofKind_4 : decode zc_Agreement_ofKind 4 = .ok (.aload_n 0, 1) := by decide +kernel
theorem zd_Agreement_ofKind_5 : decode zc_Agreement_ofKind 5 = .ok (.getfield 33, 3) := by decide +kernel
theorem zd_Agreement_ofKind_8 : decode zc_Agreement_ofKind 8 = .ok (.areturn, 1) := by decide +kernel
theorem zd_Agreement_ofKind_9 : decode zc_Agreement_ofKind 9 = .ok (.iload_n 1, 1) := by decide +kernel
theorem zd_Agreement_ofKind_10 : decode zc_Agreement_ofKind 10 = .ok (.iconst 1, 1) := by decide +kernel
theorem zd_Agreement_ofKind_11 : decode zc_Agreement_ofKind 11 = .ok (.if_icmp .ne 10, 3) := by decide +kernel
theorem zd_Agreement_ofKind_14 : decode zc_Agreement_ofKind 14 = .ok (.aload_n 0, 1) := by decide +kernel
theorem zd_Agreement_ofKind_15 : decode zc_Agreement_ofKind 15 = .ok (.getfield 37, 3) := by decide +kernel
theorem zd_Agreement_ofKind_18 : decode zc_Agreement_ofKind 18 = .ok (.goto 7, 3) := by decide +kernel
theorem zd_Agreement_ofKind_21 : decode zc_Agreement_ofKind 21 = .ok (.aload_n 0, 1) := by decide +kernel
theorem zd_Agreement_ofKind_22 : decode zc_Agreement_ofKind 22 = .ok (.getfield 40, 3) := by decide +kernel
theorem zd_Agreement_ofKind_25 : decode zc_Agreement_ofKind 25 = .ok (.areturn, 1) := by decide +kernel
theorem zd_TL_keepEnvelope_0 : decode zc_TL_keepEnvelope 0 = .ok (.aload_n 0, 1) := by decide +kernel
theorem zd_TL_keepEnvelope_1 : decode zc_TL_keepEnvelope 1 = .ok (.iconst 1, 1) := by decide +kernel
theorem zd_TL_keepEnvelope_2 : decode zc_TL_keepEnvelope 2 = .ok (.putfield 45, 3) := by decide +kernel
theorem zd_TL_keepEnvelope_5 : decode zc_TL_keepEnvelope 5 = .ok (.aload_n 0, 1) := by decide +kernel
theorem zd_TL_keepEnvelope_6 : decode zc_TL_keepEnvelope 6 = .ok (.getfield 37, 3) := by decide +kernel
theorem zd_TL_keepEnvelope_9 : decode zc_TL_keepEnvelope 9 = .ok (.aload_n 0, 1) := by decide +kernel
theorem zd_TL_keepEnvelope_10 : decode zc_TL_keepEnvelope 10 = .ok (.getfield 110, 3) := by decide +kernel
theorem zd_TL_keepEnvelope_13 : decode zc_TL_keepEnvelope 13 = .ok (.aload_n 1, 1) := by decide +kernel
theorem zd_TL_keepEnvelope_14 : decode zc_TL_keepEnvelope 14 = .ok (.aastore, 1) := by decide +kernel
theorem zd_TL_keepEnvelope_15 : decode zc_TL_keepEnvelope 15 = .ok (.aload_n 0, 1) := by decide +kernel
theorem zd_TL_keepEnvelope_16 : decode zc_TL_keepEnvelope 16 = .ok (.dup, 1) := by decide +kernel
theorem zd_TL_keepEnvelope_17 : decode zc_TL_keepEnvelope 17 = .ok (.getfield 110, 3) := by decide +kernel
theorem zd_TL_keepEnvelope_20 : decode zc_TL_keepEnvelope 20 = .ok (.iconst 1, 1) := by decide +kernel
theorem zd_TL_keepEnvelope_21 : decode zc_TL_keepEnvelope 21 = .ok (.iadd, 1) := by decide +kernel
theorem zd_TL_keepEnvelope_22 : decode zc_TL_keepEnvelope 22 = .ok (.putfield 110, 3) := by decide +kernel
theorem zd_TL_keepEnvelope_25 : decode zc_TL_keepEnvelope 25 = .ok (.aload_n 0, 1) := by decide +kernel
theorem zd_TL_keepEnvelope_26 : decode zc_TL_keepEnvelope 26 = .ok (.getfield 110, 3) := by decide +kernel
theorem zd_TL_keepEnvelope_29 : decode zc_TL_keepEnvelope 29 = .ok (.iconst 1, 1) := by decide +kernel
theorem zd_TL_keepEnvelope_30 : decode zc_TL_keepEnvelope 30 = .ok (.isub, 1) := by decide +kernel
theorem zd_TL_keepEnvelope_31 : decode zc_TL_keepEnvelope 31 = .ok (.ireturn, 1) := by decide +kernel
theorem zd_TL_post_0 : decode zc_TL_post 0 = .ok (.aload_n 0, 1) := by decide +kernel
theorem zd_TL_post_1 : decode zc_TL_post 1 = .ok (.iload_n 1, 1) := by decide +kernel
theorem zd_TL_post_2 : decode zc_TL_post 2 = .ok (.invokevirtual 107, 3) := by decide +kernel
theorem zd_TL_post_5 : decode zc_TL_post 5 = .ok (.ifCond .eq 32, 3) := by decide +kernel
theorem zd_TL_post_8 : decode zc_TL_post 8 = .ok (.iload_n 2, 1) := by decide +kernel
theorem zd_TL_post_9 : decode zc_TL_post 9 = .ok (.invokestatic 59, 3) := by decide +kernel
theorem zd_TL_post_12 : decode zc_TL_post 12 = .ok (.ifCond .eq 25, 3) := by decide +kernel
theorem zd_TL_post_15 : decode zc_TL_post 15 = .ok (.iload_n 2, 1) := by decide +kernel
theorem zd_TL_post_16 : decode zc_TL_post 16 = .ok (.aload_n 0, 1) := by decide +kernel
theorem zd_TL_post_17 : decode zc_TL_post 17 = .ok (.getfield 22, 3) := by decide +kernel
theorem zd_TL_post_20 : decode zc_TL_post 20 = .ok (.iload_n 1, 1) := by decide +kernel
theorem zd_TL_post_21 : decode zc_TL_post 21 = .ok (.aaload, 1) := by decide +kernel
theorem zd_TL_post_22 : decode zc_TL_post 22 = .ok (.getfield 79, 3) := by decide +kernel
theorem zd_TL_post_25 : decode zc_TL_post 25 = .ok (.if_icmp .gt 12, 3) := by decide +kernel
theorem zd_TL_post_28 : decode zc_TL_post 28 = .ok (.aload_n 0, 1) := by decide +kernel
theorem zd_TL_post_29 : decode zc_TL_post 29 = .ok (.getfield 110, 3) := by decide +kernel
theorem zd_TL_post_32 : decode zc_TL_post 32 = .ok (.bipush 120, 2) := by decide +kernel
theorem zd_TL_post_34 : decode zc_TL_post 34 = .ok (.if_icmp .lt 5, 3) := by decide +kernel
theorem zd_TL_post_37 : decode zc_TL_post 37 = .ok (.iconst (-1), 1) := by decide +kernel
theorem zd_TL_post_38 : decode zc_TL_post 38 = .ok (.ireturn, 1) := by decide +kernel
theorem zd_TL_post_39 : decode zc_TL_post 39 = .ok (.new 35, 3) := by decide +kernel
theorem zd_TL_post_42 : decode zc_TL_post 42 = .ok (.dup, 1) := by decide +kernel
theorem zd_TL_post_43 : decode zc_TL_post 43 = .ok (.iload_n 1, 1) := by decide +kernel
theorem zd_TL_post_44 : decode zc_TL_post 44 = .ok (.iload_n 2, 1) := by decide +kernel
theorem zd_TL_post_45 : decode zc_TL_post 45 = .ok (.invokespecial 113, 3) := by decide +kernel
theorem zd_TL_post_48 : decode zc_TL_post 48 = .ok (.astore_n 3, 1) := by decide +kernel
theorem zd_TL_post_49 : decode zc_TL_post 49 = .ok (.iconst 0, 1) := by decide +kernel
theorem zd_TL_post_50 : decode zc_TL_post 50 = .ok (.istore 4, 2) := by decide +kernel
theorem zd_TL_post_52 : decode zc_TL_post 52 = .ok (.iload 4, 2) := by decide +kernel
theorem zd_TL_post_54 : decode zc_TL_post 54 = .ok (.iconst 3, 1) := by decide +kernel
theorem zd_TL_post_55 : decode zc_TL_post 55 = .ok (.if_icmp .ge 55, 3) := by decide +kernel
theorem zd_TL_post_58 : decode zc_TL_post 58 = .ok (.aload_n 0, 1) := by decide +kernel
theorem zd_TL_post_59 : decode zc_TL_post 59 = .ok (.getfield 22, 3) := by decide +kernel
theorem zd_TL_post_62 : decode zc_TL_post 62 = .ok (.iload_n 1, 1) := by decide +kernel
theorem zd_TL_post_63 : decode zc_TL_post 63 = .ok (.aaload, 1) := by decide +kernel
theorem zd_TL_post_64 : decode zc_TL_post 64 = .ok (.getfield 75, 3) := by decide +kernel
theorem zd_TL_post_67 : decode zc_TL_post 67 = .ok (.iload_n 2, 1) := by decide +kernel
theorem zd_TL_post_68 : decode zc_TL_post 68 = .ok (.aaload, 1) := by decide +kernel
theorem zd_TL_post_69 : decode zc_TL_post 69 = .ok (.iload 4, 2) := by decide +kernel
theorem zd_TL_post_71 : decode zc_TL_post 71 = .ok (.invokevirtual 116, 3) := by decide +kernel
theorem zd_TL_post_74 : decode zc_TL_post 74 = .ok (.astore 5, 2) := by decide +kernel
theorem zd_TL_post_76 : decode zc_TL_post 76 = .ok (.aload_n 3, 1) := by decide +kernel
theorem zd_TL_post_77 : decode zc_TL_post 77 = .ok (.getfield 120, 3) := by decide +kernel
theorem zd_TL_post_80 : decode zc_TL_post 80 = .ok (.iload 4, 2) := by decide +kernel
theorem zd_TL_post_82 : decode zc_TL_post 82 = .ok (.aload 5, 2) := by decide +kernel
theorem zd_TL_post_84 : decode zc_TL_post 84 = .ok (.getfield 124, 3) := by decide +kernel
theorem zd_TL_post_87 : decode zc_TL_post 87 = .ok (.iload_n 1, 1) := by decide +kernel
theorem zd_TL_post_88 : decode zc_TL_post 88 = .ok (.iaload, 1) := by decide +kernel
theorem zd_TL_post_89 : decode zc_TL_post 89 = .ok (.iastore, 1) := by decide +kernel
theorem zd_TL_post_90 : decode zc_TL_post 90 = .ok (.aload_n 3, 1) := by decide +kernel
theorem zd_TL_post_91 : decode zc_TL_post 91 = .ok (.getfield 127, 3) := by decide +kernel
theorem zd_TL_post_94 : decode zc_TL_post 94 = .ok (.iload 4, 2) := by decide +kernel
theorem zd_TL_post_96 : decode zc_TL_post 96 = .ok (.aload 5, 2) := by decide +kernel
theorem zd_TL_post_98 : decode zc_TL_post 98 = .ok (.getfield 130, 3) := by decide +kernel
theorem zd_TL_post_101 : decode zc_TL_post 101 = .ok (.iload_n 1, 1) := by decide +kernel
theorem zd_TL_post_102 : decode zc_TL_post 102 = .ok (.iaload, 1) := by decide +kernel
theorem zd_TL_post_103 : decode zc_TL_post 103 = .ok (.iastore, 1) := by decide +kernel
theorem zd_TL_post_104 : decode zc_TL_post 104 = .ok (.iinc 4 1, 3) := by decide +kernel
theorem zd_TL_post_107 : decode zc_TL_post 107 = .ok (.goto (-55), 3) := by decide +kernel
theorem zd_TL_post_110 : decode zc_TL_post 110 = .ok (.aload_n 0, 1) := by decide +kernel
theorem zd_TL_post_111 : decode zc_TL_post 111 = .ok (.aload_n 3, 1) := by decide +kernel
theorem zd_TL_post_112 : decode zc_TL_post 112 = .ok (.invokevirtual 131, 3) := by decide +kernel
theorem zd_TL_post_115 : decode zc_TL_post 115 = .ok (.ireturn, 1) := by decide +kernel
theorem zd_Envelope_claim_0 : decode zc_Envelope_claim 0 = .ok (.aload_n 0, 1) := by decide +kernel
theorem zd_Envelope_claim_1 : decode zc_Envelope_claim 1 = .ok (.getfield 18, 3) := by decide +kernel
theorem zd_Envelope_claim_4 : decode zc_Envelope_claim 4 = .ok (.iload_n 1, 1) := by decide +kernel
theorem zd_Envelope_claim_5 : decode zc_Envelope_claim 5 = .ok (.iload_n 2, 1) := by decide +kernel
theorem zd_Envelope_claim_6 : decode zc_Envelope_claim 6 = .ok (.iastore, 1) := by decide +kernel
theorem zd_Envelope_claim_7 : decode zc_Envelope_claim 7 = .ok (.aload_n 0, 1) := by decide +kernel
theorem zd_Envelope_claim_8 : decode zc_Envelope_claim 8 = .ok (.getfield 22, 3) := by decide +kernel
theorem zd_Envelope_claim_11 : decode zc_Envelope_claim 11 = .ok (.iload_n 1, 1) := by decide +kernel
theorem zd_Envelope_claim_12 : decode zc_Envelope_claim 12 = .ok (.iload_n 2, 1) := by decide +kernel
theorem zd_Envelope_claim_13 : decode zc_Envelope_claim 13 = .ok (.iastore, 1) := by decide +kernel
theorem zd_Envelope_claim_14 : decode zc_Envelope_claim 14 = .ok (.return_, 1) := by decide +kernel
theorem zd_TL_forge_0 : decode zc_TL_forge 0 = .ok (.iload_n 1, 1) := by decide +kernel
theorem zd_TL_forge_1 : decode zc_TL_forge 1 = .ok (.iconst 0, 1) := by decide +kernel
theorem zd_TL_forge_2 : decode zc_TL_forge 2 = .ok (.iconst 4, 1) := by decide +kernel
theorem zd_TL_forge_3 : decode zc_TL_forge 3 = .ok (.invokestatic 41, 3) := by decide +kernel
theorem zd_TL_forge_6 : decode zc_TL_forge 6 = .ok (.ifCond .eq 18, 3) := by decide +kernel
theorem zd_TL_forge_9 : decode zc_TL_forge 9 = .ok (.aload_n 0, 1) := by decide +kernel
theorem zd_TL_forge_10 : decode zc_TL_forge 10 = .ok (.getfield 9, 3) := by decide +kernel
theorem zd_TL_forge_13 : decode zc_TL_forge 13 = .ok (.iload_n 1, 1) := by decide +kernel
theorem zd_TL_forge_14 : decode zc_TL_forge 14 = .ok (.invokestatic 135, 3) := by decide +kernel
theorem zd_TL_forge_17 : decode zc_TL_forge 17 = .ok (.ifCond .eq 7, 3) := by decide +kernel
theorem zd_TL_forge_20 : decode zc_TL_forge 20 = .ok (.iconst 1, 1) := by decide +kernel
theorem zd_TL_forge_21 : decode zc_TL_forge 21 = .ok (.goto 4, 3) := by decide +kernel
theorem zd_TL_forge_24 : decode zc_TL_forge 24 = .ok (.iconst 0, 1) := by decide +kernel
theorem zd_TL_forge_25 : decode zc_TL_forge 25 = .ok (.istore 6, 2) := by decide +kernel
theorem zd_TL_forge_27 : decode zc_TL_forge 27 = .ok (.iload 6, 2) := by decide +kernel
theorem zd_TL_forge_29 : decode zc_TL_forge 29 = .ok (.ifCond .eq 19, 3) := by decide +kernel
theorem zd_TL_forge_32 : decode zc_TL_forge 32 = .ok (.iload_n 2, 1) := by decide +kernel
theorem zd_TL_forge_33 : decode zc_TL_forge 33 = .ok (.invokestatic 59, 3) := by decide +kernel
theorem zd_TL_forge_36 : decode zc_TL_forge 36 = .ok (.ifCond .eq 12, 3) := by decide +kernel
theorem zd_TL_forge_39 : decode zc_TL_forge 39 = .ok (.aload_n 0, 1) := by decide +kernel
theorem zd_TL_forge_40 : decode zc_TL_forge 40 = .ok (.getfield 110, 3) := by decide +kernel
theorem zd_TL_forge_43 : decode zc_TL_forge 43 = .ok (.bipush 120, 2) := by decide +kernel
theorem zd_TL_forge_45 : decode zc_TL_forge 45 = .ok (.if_icmp .lt 5, 3) := by decide +kernel
theorem zd_TL_forge_48 : decode zc_TL_forge 48 = .ok (.iconst (-1), 1) := by decide +kernel
theorem zd_TL_forge_49 : decode zc_TL_forge 49 = .ok (.ireturn, 1) := by decide +kernel
theorem zd_TL_forge_50 : decode zc_TL_forge 50 = .ok (.new 35, 3) := by decide +kernel
theorem zd_TL_forge_53 : decode zc_TL_forge 53 = .ok (.dup, 1) := by decide +kernel
theorem zd_TL_forge_54 : decode zc_TL_forge 54 = .ok (.iload_n 1, 1) := by decide +kernel
theorem zd_TL_forge_55 : decode zc_TL_forge 55 = .ok (.iload_n 2, 1) := by decide +kernel
theorem zd_TL_forge_56 : decode zc_TL_forge 56 = .ok (.invokespecial 113, 3) := by decide +kernel
theorem zd_TL_forge_59 : decode zc_TL_forge 59 = .ok (.astore 7, 2) := by decide +kernel
theorem zd_TL_forge_61 : decode zc_TL_forge 61 = .ok (.aload 7, 2) := by decide +kernel
theorem zd_TL_forge_63 : decode zc_TL_forge 63 = .ok (.iconst 0, 1) := by decide +kernel
theorem zd_TL_forge_64 : decode zc_TL_forge 64 = .ok (.iload_n 3, 1) := by decide +kernel
theorem zd_TL_forge_65 : decode zc_TL_forge 65 = .ok (.sipush 254, 3) := by decide +kernel
theorem zd_TL_forge_68 : decode zc_TL_forge 68 = .ok (.iand, 1) := by decide +kernel
theorem zd_TL_forge_69 : decode zc_TL_forge 69 = .ok (.invokevirtual 139, 3) := by decide +kernel
theorem zd_TL_forge_72 : decode zc_TL_forge 72 = .ok (.aload 7, 2) := by decide +kernel
theorem zd_TL_forge_74 : decode zc_TL_forge 74 = .ok (.iconst 1, 1) := by decide +kernel
theorem zd_TL_forge_75 : decode zc_TL_forge 75 = .ok (.iload 4, 2) := by decide +kernel
theorem zd_TL_forge_77 : decode zc_TL_forge 77 = .ok (.ldc 142, 2) := by decide +kernel
theorem zd_TL_forge_79 : decode zc_TL_forge 79 = .ok (.iand, 1) := by decide +kernel
theorem zd_TL_forge_80 : decode zc_TL_forge 80 = .ok (.invokevirtual 139, 3) := by decide +kernel
theorem zd_TL_forge_83 : decode zc_TL_forge 83 = .ok (.aload 7, 2) := by decide +kernel
theorem zd_TL_forge_85 : decode zc_TL_forge 85 = .ok (.iconst 2, 1) := by decide +kernel
theorem zd_TL_forge_86 : decode zc_TL_forge 86 = .ok (.iload 5, 2) := by decide +kernel
theorem zd_TL_forge_88 : decode zc_TL_forge 88 = .ok (.ldc 142, 2) := by decide +kernel
theorem zd_TL_forge_90 : decode zc_TL_forge 90 = .ok (.iand, 1) := by decide +kernel
theorem zd_TL_forge_91 : decode zc_TL_forge 91 = .ok (.invokevirtual 139, 3) := by decide +kernel
theorem zd_TL_forge_94 : decode zc_TL_forge 94 = .ok (.aload_n 0, 1) := by decide +kernel
theorem zd_TL_forge_95 : decode zc_TL_forge 95 = .ok (.aload 7, 2) := by decide +kernel
theorem zd_TL_forge_97 : decode zc_TL_forge 97 = .ok (.invokevirtual 131, 3) := by decide +kernel
theorem zd_TL_forge_100 : decode zc_TL_forge 100 = .ok (.ireturn, 1) := by decide +kernel
theorem zd_Agreement_learn_0 : decode zc_Agreement_learn 0 = .ok (.iconst 0, 1) := by decide +kernel
theorem zd_Agreement_learn_1 : decode zc_Agreement_learn 1 = .ok (.istore_n 2, 1) := by decide +kernel
theorem zd_Agreement_learn_2 : decode zc_Agreement_learn 2 = .ok (.iload_n 2, 1) := by decide +kernel
theorem zd_Agreement_learn_3 : decode zc_Agreement_learn 3 = .ok (.iconst 3, 1) := by decide +kernel
theorem zd_Agreement_learn_4 : decode zc_Agreement_learn 4 = .ok (.if_icmp .ge 51, 3) := by decide +kernel
theorem zd_Agreement_learn_7 : decode zc_Agreement_learn 7 = .ok (.aload_n 0, 1) := by decide +kernel
theorem zd_Agreement_learn_8 : decode zc_Agreement_learn 8 = .ok (.iload_n 2, 1) := by decide +kernel
theorem zd_Agreement_learn_9 : decode zc_Agreement_learn 9 = .ok (.invokevirtual 65, 3) := by decide +kernel
theorem zd_Agreement_learn_12 : decode zc_Agreement_learn 12 = .ok (.astore_n 3, 1) := by decide +kernel
theorem zd_Agreement_learn_13 : decode zc_Agreement_learn 13 = .ok (.aload_n 3, 1) := by decide +kernel
theorem zd_Agreement_learn_14 : decode zc_Agreement_learn 14 = .ok (.getfield 69, 3) := by decide +kernel
theorem zd_Agreement_learn_17 : decode zc_Agreement_learn 17 = .ok (.aload_n 1, 1) := by decide +kernel
theorem zd_Agreement_learn_18 : decode zc_Agreement_learn 18 = .ok (.getfield 73, 3) := by decide +kernel
theorem zd_Agreement_learn_21 : decode zc_Agreement_learn 21 = .ok (.dup2, 1) := by decide +kernel
theorem zd_Agreement_learn_22 : decode zc_Agreement_learn 22 = .ok (.iaload, 1) := by decide +kernel
theorem zd_Agreement_learn_23 : decode zc_Agreement_learn 23 = .ok (.aload_n 1, 1) := by decide +kernel
theorem zd_Agreement_learn_24 : decode zc_Agreement_learn 24 = .ok (.getfield 78, 3) := by decide +kernel
theorem zd_Agreement_learn_27 : decode zc_Agreement_learn 27 = .ok (.iload_n 2, 1) := by decide +kernel
theorem zd_Agreement_learn_28 : decode zc_Agreement_learn 28 = .ok (.iaload, 1) := by decide +kernel
theorem zd_Agreement_learn_29 : decode zc_Agreement_learn 29 = .ok (.ior, 1) := by decide +kernel
theorem zd_Agreement_learn_30 : decode zc_Agreement_learn 30 = .ok (.iastore, 1) := by decide +kernel
theorem zd_Agreement_learn_31 : decode zc_Agreement_learn 31 = .ok (.aload_n 3, 1) := by decide +kernel
theorem zd_Agreement_learn_32 : decode zc_Agreement_learn 32 = .ok (.getfield 79, 3) := by decide +kernel
theorem zd_Agreement_learn_35 : decode zc_Agreement_learn 35 = .ok (.aload_n 1, 1) := by decide +kernel
theorem zd_Agreement_learn_36 : decode zc_Agreement_learn 36 = .ok (.getfield 73, 3) := by decide +kernel
theorem zd_Agreement_learn_39 : decode zc_Agreement_learn 39 = .ok (.dup2, 1) := by decide +kernel
theorem zd_Agreement_learn_40 : decode zc_Agreement_learn 40 = .ok (.iaload, 1) := by decide +kernel
theorem zd_Agreement_learn_41 : decode zc_Agreement_learn 41 = .ok (.aload_n 1, 1) := by decide +kernel
theorem zd_Agreement_learn_42 : decode zc_Agreement_learn 42 = .ok (.getfield 82, 3) := by decide +kernel
theorem zd_Agreement_learn_45 : decode zc_Agreement_learn 45 = .ok (.iload_n 2, 1) := by decide +kernel
theorem zd_Agreement_learn_46 : decode zc_Agreement_learn 46 = .ok (.iaload, 1) := by decide +kernel
theorem zd_Agreement_learn_47 : decode zc_Agreement_learn 47 = .ok (.ior, 1) := by decide +kernel
theorem zd_Agreement_learn_48 : decode zc_Agreement_learn 48 = .ok (.iastore, 1) := by decide +kernel
theorem zd_Agreement_learn_49 : decode zc_Agreement_learn 49 = .ok (.iinc 2 1, 3) := by decide +kernel
theorem zd_Agreement_learn_52 : decode zc_Agreement_learn 52 = .ok (.goto (-50), 3) := by decide +kernel
theorem zd_Agreement_learn_55 : decode zc_Agreement_learn 55 = .ok (.return_, 1) := by decide +kernel
theorem zd_TL_deliver_0 : decode zc_TL_deliver 0 = .ok (.iload_n 1, 1) := by decide +kernel
theorem zd_TL_deliver_1 : decode zc_TL_deliver 1 = .ok (.iconst 0, 1) := by decide +kernel
theorem zd_TL_deliver_2 : decode zc_TL_deliver 2 = .ok (.bipush 119, 2) := by decide +kernel
theorem zd_TL_deliver_4 : decode zc_TL_deliver 4 = .ok (.invokestatic 41, 3) := by decide +kernel
theorem zd_TL_deliver_7 : decode zc_TL_deliver 7 = .ok (.ifCond .eq 11, 3) := by decide +kernel
theorem zd_TL_deliver_10 : decode zc_TL_deliver 10 = .ok (.aload_n 0, 1) := by decide +kernel
theorem zd_TL_deliver_11 : decode zc_TL_deliver 11 = .ok (.iload_n 2, 1) := by decide +kernel
theorem zd_TL_deliver_12 : decode zc_TL_deliver 12 = .ok (.invokevirtual 72, 3) := by decide +kernel
theorem zd_TL_deliver_15 : decode zc_TL_deliver 15 = .ok (.ifCond .ne 5, 3) := by decide +kernel
theorem zd_TL_deliver_18 : decode zc_TL_deliver 18 = .ok (.iconst 0, 1) := by decide +kernel
theorem zd_TL_deliver_19 : decode zc_TL_deliver 19 = .ok (.ireturn, 1) := by decide +kernel
theorem zd_TL_deliver_20 : decode zc_TL_deliver 20 = .ok (.aload_n 0, 1) := by decide +kernel
theorem zd_TL_deliver_21 : decode zc_TL_deliver 21 = .ok (.getfield 37, 3) := by decide +kernel
theorem zd_TL_deliver_24 : decode zc_TL_deliver 24 = .ok (.iload_n 1, 1) := by decide +kernel
theorem zd_TL_deliver_25 : decode zc_TL_deliver 25 = .ok (.aaload, 1) := by decide +kernel
theorem zd_TL_deliver_26 : decode zc_TL_deliver 26 = .ok (.astore_n 3, 1) := by decide +kernel
theorem zd_TL_deliver_27 : decode zc_TL_deliver 27 = .ok (.aload_n 3, 1) := by decide +kernel
theorem zd_TL_deliver_28 : decode zc_TL_deliver 28 = .ok (.ifnull 27, 3) := by decide +kernel
theorem zd_TL_deliver_31 : decode zc_TL_deliver 31 = .ok (.aload_n 3, 1) := by decide +kernel
theorem zd_TL_deliver_32 : decode zc_TL_deliver 32 = .ok (.getfield 143, 3) := by decide +kernel
theorem zd_TL_deliver_35 : decode zc_TL_deliver 35 = .ok (.iload_n 2, 1) := by decide +kernel
theorem zd_TL_deliver_36 : decode zc_TL_deliver 36 = .ok (.if_icmp .eq 19, 3) := by decide +kernel
theorem zd_TL_deliver_39 : decode zc_TL_deliver 39 = .ok (.aload_n 3, 1) := by decide +kernel
theorem zd_TL_deliver_40 : decode zc_TL_deliver 40 = .ok (.getfield 146, 3) := by decide +kernel
theorem zd_TL_deliver_43 : decode zc_TL_deliver 43 = .ok (.aload_n 0, 1) := by decide +kernel
theorem zd_TL_deliver_44 : decode zc_TL_deliver 44 = .ok (.getfield 22, 3) := by decide +kernel
theorem zd_TL_deliver_47 : decode zc_TL_deliver 47 = .ok (.iload_n 2, 1) := by decide +kernel
theorem zd_TL_deliver_48 : decode zc_TL_deliver 48 = .ok (.aaload, 1) := by decide +kernel
theorem zd_TL_deliver_49 : decode zc_TL_deliver 49 = .ok (.getfield 79, 3) := by decide +kernel
theorem zd_TL_deliver_52 : decode zc_TL_deliver 52 = .ok (.if_icmp .eq 5, 3) := by decide +kernel
theorem zd_TL_deliver_55 : decode zc_TL_deliver 55 = .ok (.iconst 0, 1) := by decide +kernel
theorem zd_TL_deliver_56 : decode zc_TL_deliver 56 = .ok (.ireturn, 1) := by decide +kernel
theorem zd_TL_deliver_57 : decode zc_TL_deliver 57 = .ok (.aload_n 0, 1) := by decide +kernel
theorem zd_TL_deliver_58 : decode zc_TL_deliver 58 = .ok (.getfield 22, 3) := by decide +kernel
theorem zd_TL_deliver_61 : decode zc_TL_deliver 61 = .ok (.iload_n 2, 1) := by decide +kernel
theorem zd_TL_deliver_62 : decode zc_TL_deliver 62 = .ok (.aaload, 1) := by decide +kernel
theorem zd_TL_deliver_63 : decode zc_TL_deliver 63 = .ok (.getfield 75, 3) := by decide +kernel
theorem zd_TL_deliver_66 : decode zc_TL_deliver 66 = .ok (.aload_n 3, 1) := by decide +kernel
theorem zd_TL_deliver_67 : decode zc_TL_deliver 67 = .ok (.getfield 146, 3) := by decide +kernel
theorem zd_TL_deliver_70 : decode zc_TL_deliver 70 = .ok (.aaload, 1) := by decide +kernel
theorem zd_TL_deliver_71 : decode zc_TL_deliver 71 = .ok (.astore 4, 2) := by decide +kernel
theorem zd_TL_deliver_73 : decode zc_TL_deliver 73 = .ok (.aload 4, 2) := by decide +kernel
theorem zd_TL_deliver_75 : decode zc_TL_deliver 75 = .ok (.aload_n 3, 1) := by decide +kernel
theorem zd_TL_deliver_76 : decode zc_TL_deliver 76 = .ok (.invokevirtual 147, 3) := by decide +kernel
theorem zd_TL_deliver_79 : decode zc_TL_deliver 79 = .ok (.aload 4, 2) := by decide +kernel
theorem zd_TL_deliver_81 : decode zc_TL_deliver 81 = .ok (.invokevirtual 91, 3) := by decide +kernel
theorem zd_TL_deliver_84 : decode zc_TL_deliver 84 = .ok (.aload_n 0, 1) := by decide +kernel
theorem zd_TL_deliver_85 : decode zc_TL_deliver 85 = .ok (.aload_n 0, 1) := by decide +kernel
theorem zd_TL_deliver_86 : decode zc_TL_deliver 86 = .ok (.getfield 22, 3) := by decide +kernel
theorem zd_TL_deliver_89 : decode zc_TL_deliver 89 = .ok (.iload_n 2, 1) := by decide +kernel
theorem zd_TL_deliver_90 : decode zc_TL_deliver 90 = .ok (.aaload, 1) := by decide +kernel
theorem zd_TL_deliver_91 : decode zc_TL_deliver 91 = .ok (.aload 4, 2) := by decide +kernel
theorem zd_TL_deliver_93 : decode zc_TL_deliver 93 = .ok (.getfield 94, 3) := by decide +kernel
theorem zd_TL_deliver_96 : decode zc_TL_deliver 96 = .ok (.invokevirtual 97, 3) := by decide +kernel
theorem zd_TL_deliver_99 : decode zc_TL_deliver 99 = .ok (.iconst 1, 1) := by decide +kernel
theorem zd_TL_deliver_100 : decode zc_TL_deliver 100 = .ok (.ireturn, 1) := by decide +kernel
theorem zd_TL_envelopes_0 : decode zc_TL_envelopes 0 = .ok (.aload_n 0, 1) := by decide +kernel
theorem zd_TL_envelopes_1 : decode zc_TL_envelopes 1 = .ok (.getfield 110, 3) := by decide +kernel
theorem zd_TL_envelopes_4 : decode zc_TL_envelopes 4 = .ok (.ireturn, 1) := by decide +kernel
theorem zd_Agreement_aspect_0 : decode zc_Agreement_aspect 0 = .ok (.iload_n 1, 1) := by decide +kernel
theorem zd_Agreement_aspect_1 : decode zc_Agreement_aspect 1 = .ok (.tableswitch 51 1 4 #[31, 36, 41, 46], 31) := by decide +kernel
theorem zd_Agreement_aspect_32 : decode zc_Agreement_aspect 32 = .ok (.aload_n 0, 1) := by decide +kernel
theorem zd_Agreement_aspect_33 : decode zc_Agreement_aspect 33 = .ok (.getfield 43, 3) := by decide +kernel
theorem zd_Agreement_aspect_36 : decode zc_Agreement_aspect 36 = .ok (.ireturn, 1) := by decide +kernel
theorem zd_Agreement_aspect_37 : decode zc_Agreement_aspect 37 = .ok (.aload_n 0, 1) := by decide +kernel
theorem zd_Agreement_aspect_38 : decode zc_Agreement_aspect 38 = .ok (.getfield 46, 3) := by decide +kernel
theorem zd_Agreement_aspect_41 : decode zc_Agreement_aspect 41 = .ok (.ireturn, 1) := by decide +kernel
theorem zd_Agreement_aspect_42 : decode zc_Agreement_aspect 42 = .ok (.aload_n 0, 1) := by decide +kernel
theorem zd_Agreement_aspect_43 : decode zc_Agreement_aspect 43 = .ok (.getfield 49, 3) := by decide +kernel
theorem zd_Agreement_aspect_46 : decode zc_Agreement_aspect 46 = .ok (.ireturn, 1) := by decide +kernel
theorem zd_Agreement_aspect_47 : decode zc_Agreement_aspect 47 = .ok (.aload_n 0, 1) := by decide +kernel
theorem zd_Agreement_aspect_48 : decode zc_Agreement_aspect 48 = .ok (.invokevirtual 52, 3) := by decide +kernel
theorem zd_Agreement_aspect_51 : decode zc_Agreement_aspect 51 = .ok (.ireturn, 1) := by decide +kernel
theorem zd_Agreement_aspect_52 : decode zc_Agreement_aspect 52 = .ok (.aload_n 0, 1) := by decide +kernel
theorem zd_Agreement_aspect_53 : decode zc_Agreement_aspect 53 = .ok (.getfield 56, 3) := by decide +kernel
theorem zd_Agreement_aspect_56 : decode zc_Agreement_aspect 56 = .ok (.ireturn, 1) := by decide +kernel
theorem zd_TL_state_0 : decode zc_TL_state 0 = .ok (.aload_n 0, 1) := by decide +kernel
theorem zd_TL_state_1 : decode zc_TL_state 1 = .ok (.iload_n 1, 1) := by decide +kernel
theorem zd_TL_state_2 : decode zc_TL_state 2 = .ok (.invokevirtual 107, 3) := by decide +kernel
theorem zd_TL_state_5 : decode zc_TL_state 5 = .ok (.ifCond .eq 12, 3) := by decide +kernel
theorem zd_TL_state_8 : decode zc_TL_state 8 = .ok (.iload_n 2, 1) := by decide +kernel
theorem zd_TL_state_9 : decode zc_TL_state 9 = .ok (.iconst 0, 1) := by decide +kernel
theorem zd_TL_state_10 : decode zc_TL_state 10 = .ok (.iconst 5, 1) := by decide +kernel
theorem zd_TL_state_11 : decode zc_TL_state 11 = .ok (.invokestatic 41, 3) := by decide +kernel
theorem zd_TL_state_14 : decode zc_TL_state 14 = .ok (.ifCond .ne 5, 3) := by decide +kernel
theorem zd_TL_state_17 : decode zc_TL_state 17 = .ok (.iconst (-1), 1) := by decide +kernel
theorem zd_TL_state_18 : decode zc_TL_state 18 = .ok (.ireturn, 1) := by decide +kernel
theorem zd_TL_state_19 : decode zc_TL_state 19 = .ok (.aload_n 0, 1) := by decide +kernel
theorem zd_TL_state_20 : decode zc_TL_state 20 = .ok (.getfield 22, 3) := by decide +kernel
theorem zd_TL_state_23 : decode zc_TL_state 23 = .ok (.iload_n 1, 1) := by decide +kernel
theorem zd_TL_state_24 : decode zc_TL_state 24 = .ok (.aaload, 1) := by decide +kernel
theorem zd_TL_state_25 : decode zc_TL_state 25 = .ok (.getfield 79, 3) := by decide +kernel
theorem zd_TL_state_28 : decode zc_TL_state 28 = .ok (.istore_n 3, 1) := by decide +kernel
theorem zd_TL_state_29 : decode zc_TL_state 29 = .ok (.iload_n 2, 1) := by decide +kernel
theorem zd_TL_state_30 : decode zc_TL_state 30 = .ok (.ifCond .ne 5, 3) := by decide +kernel
theorem zd_TL_state_33 : decode zc_TL_state 33 = .ok (.iload_n 3, 1) := by decide +kernel
theorem zd_TL_state_34 : decode zc_TL_state 34 = .ok (.ireturn, 1) := by decide +kernel
theorem zd_TL_state_35 : decode zc_TL_state 35 = .ok (.iload_n 3, 1) := by decide +kernel
theorem zd_TL_state_36 : decode zc_TL_state 36 = .ok (.invokestatic 59, 3) := by decide +kernel
theorem zd_TL_state_39 : decode zc_TL_state 39 = .ok (.ifCond .eq 21, 3) := by decide +kernel
theorem zd_TL_state_42 : decode zc_TL_state 42 = .ok (.aload_n 0, 1) := by decide +kernel
theorem zd_TL_state_43 : decode zc_TL_state 43 = .ok (.getfield 22, 3) := by decide +kernel
theorem zd_TL_state_46 : decode zc_TL_state 46 = .ok (.iload_n 1, 1) := by decide +kernel
theorem zd_TL_state_47 : decode zc_TL_state 47 = .ok (.aaload, 1) := by decide +kernel
theorem zd_TL_state_48 : decode zc_TL_state 48 = .ok (.getfield 75, 3) := by decide +kernel
theorem zd_TL_state_51 : decode zc_TL_state 51 = .ok (.iload_n 3, 1) := by decide +kernel
theorem zd_TL_state_52 : decode zc_TL_state 52 = .ok (.aaload, 1) := by decide +kernel
theorem zd_TL_state_53 : decode zc_TL_state 53 = .ok (.iload_n 2, 1) := by decide +kernel
theorem zd_TL_state_54 : decode zc_TL_state 54 = .ok (.invokevirtual 151, 3) := by decide +kernel
theorem zd_TL_state_57 : decode zc_TL_state 57 = .ok (.goto 4, 3) := by decide +kernel
theorem zd_TL_state_60 : decode zc_TL_state 60 = .ok (.iconst 0, 1) := by decide +kernel
theorem zd_TL_state_61 : decode zc_TL_state 61 = .ok (.ireturn, 1) := by decide +kernel
theorem zd_TL_statements_0 : decode zc_TL_statements 0 = .ok (.aload_n 0, 1) := by decide +kernel
theorem zd_TL_statements_1 : decode zc_TL_statements 1 = .ok (.iload_n 1, 1) := by decide +kernel
theorem zd_TL_statements_2 : decode zc_TL_statements 2 = .ok (.invokevirtual 107, 3) := by decide +kernel
theorem zd_TL_statements_5 : decode zc_TL_statements 5 = .ok (.ifCond .eq 29, 3) := by decide +kernel
theorem zd_TL_statements_8 : decode zc_TL_statements 8 = .ok (.iload_n 2, 1) := by decide +kernel
theorem zd_TL_statements_9 : decode zc_TL_statements 9 = .ok (.invokestatic 59, 3) := by decide +kernel
theorem zd_TL_statements_12 : decode zc_TL_statements 12 = .ok (.ifCond .eq 22, 3) := by decide +kernel
theorem zd_TL_statements_15 : decode zc_TL_statements 15 = .ok (.iload_n 3, 1) := by decide +kernel
theorem zd_TL_statements_16 : decode zc_TL_statements 16 = .ok (.iconst 0, 1) := by decide +kernel
theorem zd_TL_statements_17 : decode zc_TL_statements 17 = .ok (.iconst 2, 1) := by decide +kernel
theorem zd_TL_statements_18 : decode zc_TL_statements 18 = .ok (.invokestatic 41, 3) := by decide +kernel
theorem zd_TL_statements_21 : decode zc_TL_statements 21 = .ok (.ifCond .eq 13, 3) := by decide +kernel
theorem zd_TL_statements_24 : decode zc_TL_statements 24 = .ok (.iload 4, 2) := by decide +kernel
theorem zd_TL_statements_26 : decode zc_TL_statements 26 = .ok (.iconst 0, 1) := by decide +kernel
theorem zd_TL_statements_27 : decode zc_TL_statements 27 = .ok (.iconst 2, 1) := by decide +kernel
theorem zd_TL_statements_28 : decode zc_TL_statements 28 = .ok (.invokestatic 41, 3) := by decide +kernel
theorem zd_TL_statements_31 : decode zc_TL_statements 31 = .ok (.ifCond .ne 5, 3) := by decide +kernel
theorem zd_TL_statements_34 : decode zc_TL_statements 34 = .ok (.iconst (-1), 1) := by decide +kernel
theorem zd_TL_statements_35 : decode zc_TL_statements 35 = .ok (.ireturn, 1) := by decide +kernel
theorem zd_TL_statements_36 : decode zc_TL_statements 36 = .ok (.aload_n 0, 1) := by decide +kernel
theorem zd_TL_statements_37 : decode zc_TL_statements 37 = .ok (.getfield 22, 3) := by decide +kernel
theorem zd_TL_statements_40 : decode zc_TL_statements 40 = .ok (.iload_n 1, 1) := by decide +kernel
theorem zd_TL_statements_41 : decode zc_TL_statements 41 = .ok (.aaload, 1) := by decide +kernel
theorem zd_TL_statements_42 : decode zc_TL_statements 42 = .ok (.getfield 75, 3) := by decide +kernel
theorem zd_TL_statements_45 : decode zc_TL_statements 45 = .ok (.iload_n 2, 1) := by decide +kernel
theorem zd_TL_statements_46 : decode zc_TL_statements 46 = .ok (.aaload, 1) := by decide +kernel
theorem zd_TL_statements_47 : decode zc_TL_statements 47 = .ok (.iload_n 3, 1) := by decide +kernel
theorem zd_TL_statements_48 : decode zc_TL_statements 48 = .ok (.invokevirtual 116, 3) := by decide +kernel
theorem zd_TL_statements_51 : decode zc_TL_statements 51 = .ok (.astore 5, 2) := by decide +kernel
theorem zd_TL_statements_53 : decode zc_TL_statements 53 = .ok (.iload 4, 2) := by decide +kernel
theorem zd_TL_statements_55 : decode zc_TL_statements 55 = .ok (.ifCond .ne 9, 3) := by decide +kernel
theorem zd_TL_statements_58 : decode zc_TL_statements 58 = .ok (.aload 5, 2) := by decide +kernel
theorem zd_TL_statements_60 : decode zc_TL_statements 60 = .ok (.getfield 155, 3) := by decide +kernel
theorem zd_TL_statements_63 : decode zc_TL_statements 63 = .ok (.ireturn, 1) := by decide +kernel
theorem zd_TL_statements_64 : decode zc_TL_statements 64 = .ok (.iload 4, 2) := by decide +kernel
theorem zd_TL_statements_66 : decode zc_TL_statements 66 = .ok (.iconst 1, 1) := by decide +kernel
theorem zd_TL_statements_67 : decode zc_TL_statements 67 = .ok (.if_icmp .ne 13, 3) := by decide +kernel
theorem zd_TL_statements_70 : decode zc_TL_statements 70 = .ok (.aload 5, 2) := by decide +kernel
theorem zd_TL_statements_72 : decode zc_TL_statements 72 = .ok (.getfield 130, 3) := by decide +kernel
theorem zd_TL_statements_75 : decode zc_TL_statements 75 = .ok (.iload_n 1, 1) := by decide +kernel
theorem zd_TL_statements_76 : decode zc_TL_statements 76 = .ok (.iaload, 1) := by decide +kernel
theorem zd_TL_statements_77 : decode zc_TL_statements 77 = .ok (.goto 8, 3) := by decide +kernel
theorem zd_TL_statements_80 : decode zc_TL_statements 80 = .ok (.aload 5, 2) := by decide +kernel
theorem zd_TL_statements_82 : decode zc_TL_statements 82 = .ok (.getfield 158, 3) := by decide +kernel
theorem zd_TL_statements_85 : decode zc_TL_statements 85 = .ok (.ireturn, 1) := by decide +kernel
theorem zd_TL_value_0 : decode zc_TL_value 0 = .ok (.aload_n 0, 1) := by decide +kernel
theorem zd_TL_value_1 : decode zc_TL_value 1 = .ok (.iload_n 1, 1) := by decide +kernel
theorem zd_TL_value_2 : decode zc_TL_value 2 = .ok (.invokevirtual 107, 3) := by decide +kernel
theorem zd_TL_value_5 : decode zc_TL_value 5 = .ok (.ifCond .eq 27, 3) := by decide +kernel
theorem zd_TL_value_8 : decode zc_TL_value 8 = .ok (.iload_n 2, 1) := by decide +kernel
theorem zd_TL_value_9 : decode zc_TL_value 9 = .ok (.invokestatic 59, 3) := by decide +kernel
theorem zd_TL_value_12 : decode zc_TL_value 12 = .ok (.ifCond .eq 20, 3) := by decide +kernel
theorem zd_TL_value_15 : decode zc_TL_value 15 = .ok (.aload_n 0, 1) := by decide +kernel
theorem zd_TL_value_16 : decode zc_TL_value 16 = .ok (.getfield 22, 3) := by decide +kernel
theorem zd_TL_value_19 : decode zc_TL_value 19 = .ok (.iload_n 1, 1) := by decide +kernel
theorem zd_TL_value_20 : decode zc_TL_value 20 = .ok (.aaload, 1) := by decide +kernel
theorem zd_TL_value_21 : decode zc_TL_value 21 = .ok (.getfield 75, 3) := by decide +kernel
theorem zd_TL_value_24 : decode zc_TL_value 24 = .ok (.iload_n 2, 1) := by decide +kernel
theorem zd_TL_value_25 : decode zc_TL_value 25 = .ok (.aaload, 1) := by decide +kernel
theorem zd_TL_value_26 : decode zc_TL_value 26 = .ok (.getfield 94, 3) := by decide +kernel
theorem zd_TL_value_29 : decode zc_TL_value 29 = .ok (.goto 4, 3) := by decide +kernel
theorem zd_TL_value_32 : decode zc_TL_value 32 = .ok (.iconst (-1), 1) := by decide +kernel
theorem zd_TL_value_33 : decode zc_TL_value 33 = .ok (.ireturn, 1) := by decide +kernel
theorem zd_TL_header_0 : decode zc_TL_header 0 = .ok (.aload_n 0, 1) := by decide +kernel
theorem zd_TL_header_1 : decode zc_TL_header 1 = .ok (.iload_n 1, 1) := by decide +kernel
theorem zd_TL_header_2 : decode zc_TL_header 2 = .ok (.invokevirtual 107, 3) := by decide +kernel
theorem zd_TL_header_5 : decode zc_TL_header 5 = .ok (.ifCond .eq 15, 3) := by decide +kernel
theorem zd_TL_header_8 : decode zc_TL_header 8 = .ok (.aload_n 0, 1) := by decide +kernel
theorem zd_TL_header_9 : decode zc_TL_header 9 = .ok (.getfield 22, 3) := by decide +kernel
theorem zd_TL_header_12 : decode zc_TL_header 12 = .ok (.iload_n 1, 1) := by decide +kernel
theorem zd_TL_header_13 : decode zc_TL_header 13 = .ok (.aaload, 1) := by decide +kernel
theorem zd_TL_header_14 : decode zc_TL_header 14 = .ok (.getfield 161, 3) := by decide +kernel
theorem zd_TL_header_17 : decode zc_TL_header 17 = .ok (.goto 4, 3) := by decide +kernel
theorem zd_TL_header_20 : decode zc_TL_header 20 = .ok (.iconst 0, 1) := by decide +kernel
theorem zd_TL_header_21 : decode zc_TL_header 21 = .ok (.ireturn, 1) := by decide +kernel
theorem zd_TL_balance_0 : decode zc_TL_balance 0 = .ok (.aload_n 0, 1) := by decide +kernel
theorem zd_TL_balance_1 : decode zc_TL_balance 1 = .ok (.iload_n 1, 1) := by decide +kernel
theorem zd_TL_balance_2 : decode zc_TL_balance 2 = .ok (.invokevirtual 107, 3) := by decide +kernel
theorem zd_TL_balance_5 : decode zc_TL_balance 5 = .ok (.ifCond .eq 19, 3) := by decide +kernel
theorem zd_TL_balance_8 : decode zc_TL_balance 8 = .ok (.iload_n 2, 1) := by decide +kernel
theorem zd_TL_balance_9 : decode zc_TL_balance 9 = .ok (.invokestatic 63, 3) := by decide +kernel
theorem zd_TL_balance_12 : decode zc_TL_balance 12 = .ok (.ifCond .eq 12, 3) := by decide +kernel
theorem zd_TL_balance_15 : decode zc_TL_balance 15 = .ok (.iload_n 3, 1) := by decide +kernel
theorem zd_TL_balance_16 : decode zc_TL_balance 16 = .ok (.iconst 0, 1) := by decide +kernel
theorem zd_TL_balance_17 : decode zc_TL_balance 17 = .ok (.iconst 1, 1) := by decide +kernel
theorem zd_TL_balance_18 : decode zc_TL_balance 18 = .ok (.invokestatic 41, 3) := by decide +kernel
theorem zd_TL_balance_21 : decode zc_TL_balance 21 = .ok (.ifCond .ne 5, 3) := by decide +kernel
theorem zd_TL_balance_24 : decode zc_TL_balance 24 = .ok (.iconst (-1), 1) := by decide +kernel
theorem zd_TL_balance_25 : decode zc_TL_balance 25 = .ok (.ireturn, 1) := by decide +kernel
theorem zd_TL_balance_26 : decode zc_TL_balance 26 = .ok (.aload_n 0, 1) := by decide +kernel
theorem zd_TL_balance_27 : decode zc_TL_balance 27 = .ok (.getfield 22, 3) := by decide +kernel
theorem zd_TL_balance_30 : decode zc_TL_balance 30 = .ok (.iload_n 1, 1) := by decide +kernel
theorem zd_TL_balance_31 : decode zc_TL_balance 31 = .ok (.aaload, 1) := by decide +kernel
theorem zd_TL_balance_32 : decode zc_TL_balance 32 = .ok (.getfield 164, 3) := by decide +kernel
theorem zd_TL_balance_35 : decode zc_TL_balance 35 = .ok (.iload_n 3, 1) := by decide +kernel
theorem zd_TL_balance_36 : decode zc_TL_balance 36 = .ok (.invokevirtual 168, 3) := by decide +kernel
theorem zd_TL_balance_39 : decode zc_TL_balance 39 = .ok (.iload_n 2, 1) := by decide +kernel
theorem zd_TL_balance_40 : decode zc_TL_balance 40 = .ok (.iaload, 1) := by decide +kernel
theorem zd_TL_balance_41 : decode zc_TL_balance 41 = .ok (.ireturn, 1) := by decide +kernel
theorem zd_TL_offer_0 : decode zc_TL_offer 0 = .ok (.aload_n 0, 1) := by decide +kernel
theorem zd_TL_offer_1 : decode zc_TL_offer 1 = .ok (.iload_n 1, 1) := by decide +kernel
theorem zd_TL_offer_2 : decode zc_TL_offer 2 = .ok (.invokevirtual 107, 3) := by decide +kernel
theorem zd_TL_offer_5 : decode zc_TL_offer 5 = .ok (.ifCond .eq 13, 3) := by decide +kernel
theorem zd_TL_offer_8 : decode zc_TL_offer 8 = .ok (.iload_n 2, 1) := by decide +kernel
theorem zd_TL_offer_9 : decode zc_TL_offer 9 = .ok (.iconst 0, 1) := by decide +kernel
theorem zd_TL_offer_10 : decode zc_TL_offer 10 = .ok (.bipush 7, 2) := by decide +kernel
theorem zd_TL_offer_12 : decode zc_TL_offer 12 = .ok (.invokestatic 41, 3) := by decide +kernel
theorem zd_TL_offer_15 : decode zc_TL_offer 15 = .ok (.ifCond .ne 5, 3) := by decide +kernel
theorem zd_TL_offer_18 : decode zc_TL_offer 18 = .ok (.iconst (-1), 1) := by decide +kernel
theorem zd_TL_offer_19 : decode zc_TL_offer 19 = .ok (.ireturn, 1) := by decide +kernel
theorem zd_TL_offer_20 : decode zc_TL_offer 20 = .ok (.aload_n 0, 1) := by decide +kernel
theorem zd_TL_offer_21 : decode zc_TL_offer 21 = .ok (.getfield 22, 3) := by decide +kernel
theorem zd_TL_offer_24 : decode zc_TL_offer 24 = .ok (.iload_n 1, 1) := by decide +kernel
theorem zd_TL_offer_25 : decode zc_TL_offer 25 = .ok (.aaload, 1) := by decide +kernel
theorem zd_TL_offer_26 : decode zc_TL_offer 26 = .ok (.getfield 164, 3) := by decide +kernel
theorem zd_TL_offer_29 : decode zc_TL_offer 29 = .ok (.getfield 174, 3) := by decide +kernel
theorem zd_TL_offer_32 : decode zc_TL_offer 32 = .ok (.iload_n 2, 1) := by decide +kernel
theorem zd_TL_offer_33 : decode zc_TL_offer 33 = .ok (.aaload, 1) := by decide +kernel
theorem zd_TL_offer_34 : decode zc_TL_offer 34 = .ok (.astore_n 3, 1) := by decide +kernel
theorem zd_TL_offer_35 : decode zc_TL_offer 35 = .ok (.aload_n 3, 1) := by decide +kernel
theorem zd_TL_offer_36 : decode zc_TL_offer 36 = .ok (.ifnonnull 5, 3) := by decide +kernel
theorem zd_TL_offer_39 : decode zc_TL_offer 39 = .ok (.iconst (-1), 1) := by decide +kernel
theorem zd_TL_offer_40 : decode zc_TL_offer 40 = .ok (.ireturn, 1) := by decide +kernel
theorem zd_TL_offer_41 : decode zc_TL_offer 41 = .ok (.aload_n 3, 1) := by decide +kernel
theorem zd_TL_offer_42 : decode zc_TL_offer 42 = .ok (.getfield 178, 3) := by decide +kernel
theorem zd_TL_offer_45 : decode zc_TL_offer 45 = .ok (.iconst 4, 1) := by decide +kernel
theorem zd_TL_offer_46 : decode zc_TL_offer 46 = .ok (.aload_n 3, 1) := by decide +kernel
theorem zd_TL_offer_47 : decode zc_TL_offer 47 = .ok (.getfield 183, 3) := by decide +kernel
theorem zd_TL_offer_50 : decode zc_TL_offer 50 = .ok (.imul, 1) := by decide +kernel
theorem zd_TL_offer_51 : decode zc_TL_offer 51 = .ok (.iadd, 1) := by decide +kernel
theorem zd_TL_offer_52 : decode zc_TL_offer 52 = .ok (.bipush 16, 2) := by decide +kernel
theorem zd_TL_offer_54 : decode zc_TL_offer 54 = .ok (.aload_n 3, 1) := by decide +kernel
theorem zd_TL_offer_55 : decode zc_TL_offer 55 = .ok (.getfield 186, 3) := by decide +kernel
theorem zd_TL_offer_58 : decode zc_TL_offer 58 = .ok (.imul, 1) := by decide +kernel
theorem zd_TL_offer_59 : decode zc_TL_offer 59 = .ok (.iadd, 1) := by decide +kernel
theorem zd_TL_offer_60 : decode zc_TL_offer 60 = .ok (.sipush 256, 3) := by decide +kernel
theorem zd_TL_offer_63 : decode zc_TL_offer 63 = .ok (.aload_n 3, 1) := by decide +kernel
theorem zd_TL_offer_64 : decode zc_TL_offer 64 = .ok (.getfield 189, 3) := by decide +kernel
theorem zd_TL_offer_67 : decode zc_TL_offer 67 = .ok (.imul, 1) := by decide +kernel
theorem zd_TL_offer_68 : decode zc_TL_offer 68 = .ok (.iadd, 1) := by decide +kernel
theorem zd_TL_offer_69 : decode zc_TL_offer 69 = .ok (.ireturn, 1) := by decide +kernel
theorem zd_Mo_many_0 : decode zc_Mo_many 0 = .ok (.iconst 0, 1) := by decide +kernel
theorem zd_Mo_many_1 : decode zc_Mo_many 1 = .ok (.istore_n 1, 1) := by decide +kernel
theorem zd_Mo_many_2 : decode zc_Mo_many 2 = .ok (.iconst 0, 1) := by decide +kernel
theorem zd_Mo_many_3 : decode zc_Mo_many 3 = .ok (.istore_n 2, 1) := by decide +kernel
theorem zd_Mo_many_4 : decode zc_Mo_many 4 = .ok (.iload_n 2, 1) := by decide +kernel
theorem zd_Mo_many_5 : decode zc_Mo_many 5 = .ok (.iconst 5, 1) := by decide +kernel
theorem zd_Mo_many_6 : decode zc_Mo_many 6 = .ok (.if_icmp .ge 17, 3) := by decide +kernel
theorem zd_Mo_many_9 : decode zc_Mo_many 9 = .ok (.iload_n 1, 1) := by decide +kernel
theorem zd_Mo_many_10 : decode zc_Mo_many 10 = .ok (.iload_n 0, 1) := by decide +kernel
theorem zd_Mo_many_11 : decode zc_Mo_many 11 = .ok (.iload_n 2, 1) := by decide +kernel
theorem zd_Mo_many_12 : decode zc_Mo_many 12 = .ok (.ishr, 1) := by decide +kernel
theorem zd_Mo_many_13 : decode zc_Mo_many 13 = .ok (.iconst 1, 1) := by decide +kernel
theorem zd_Mo_many_14 : decode zc_Mo_many 14 = .ok (.iand, 1) := by decide +kernel
theorem zd_Mo_many_15 : decode zc_Mo_many 15 = .ok (.iadd, 1) := by decide +kernel
theorem zd_Mo_many_16 : decode zc_Mo_many 16 = .ok (.istore_n 1, 1) := by decide +kernel
theorem zd_Mo_many_17 : decode zc_Mo_many 17 = .ok (.iinc 2 1, 3) := by decide +kernel
theorem zd_Mo_many_20 : decode zc_Mo_many 20 = .ok (.goto (-16), 3) := by decide +kernel
theorem zd_Mo_many_23 : decode zc_Mo_many 23 = .ok (.iload_n 1, 1) := by decide +kernel
theorem zd_Mo_many_24 : decode zc_Mo_many 24 = .ok (.ireturn, 1) := by decide +kernel
theorem zd_Mo_satisfies_0 : decode zc_Mo_satisfies 0 = .ok (.iload_n 1, 1) := by decide +kernel
theorem zd_Mo_satisfies_1 : decode zc_Mo_satisfies 1 = .ok (.aload_n 0, 1) := by decide +kernel
theorem zd_Mo_satisfies_2 : decode zc_Mo_satisfies 2 = .ok (.getfield 13, 3) := by decide +kernel
theorem zd_Mo_satisfies_5 : decode zc_Mo_satisfies 5 = .ok (.iload_n 2, 1) := by decide +kernel
theorem zd_Mo_satisfies_6 : decode zc_Mo_satisfies 6 = .ok (.iaload, 1) := by decide +kernel
theorem zd_Mo_satisfies_7 : decode zc_Mo_satisfies 7 = .ok (.iand, 1) := by decide +kernel
theorem zd_Mo_satisfies_8 : decode zc_Mo_satisfies 8 = .ok (.invokestatic 109, 3) := by decide +kernel
theorem zd_Mo_satisfies_11 : decode zc_Mo_satisfies 11 = .ok (.istore_n 3, 1) := by decide +kernel
theorem zd_Mo_satisfies_12 : decode zc_Mo_satisfies 12 = .ok (.iload_n 1, 1) := by decide +kernel
theorem zd_Mo_satisfies_13 : decode zc_Mo_satisfies 13 = .ok (.aload_n 0, 1) := by decide +kernel
theorem zd_Mo_satisfies_14 : decode zc_Mo_satisfies 14 = .ok (.getfield 19, 3) := by decide +kernel
theorem zd_Mo_satisfies_17 : decode zc_Mo_satisfies 17 = .ok (.iload_n 2, 1) := by decide +kernel
theorem zd_Mo_satisfies_18 : decode zc_Mo_satisfies 18 = .ok (.iaload, 1) := by decide +kernel
theorem zd_Mo_satisfies_19 : decode zc_Mo_satisfies 19 = .ok (.iand, 1) := by decide +kernel
theorem zd_Mo_satisfies_20 : decode zc_Mo_satisfies 20 = .ok (.invokestatic 109, 3) := by decide +kernel
theorem zd_Mo_satisfies_23 : decode zc_Mo_satisfies 23 = .ok (.istore 4, 2) := by decide +kernel
theorem zd_Mo_satisfies_25 : decode zc_Mo_satisfies 25 = .ok (.iload_n 3, 1) := by decide +kernel
theorem zd_Mo_satisfies_26 : decode zc_Mo_satisfies 26 = .ok (.aload_n 0, 1) := by decide +kernel
theorem zd_Mo_satisfies_27 : decode zc_Mo_satisfies 27 = .ok (.getfield 16, 3) := by decide +kernel
theorem zd_Mo_satisfies_30 : decode zc_Mo_satisfies 30 = .ok (.iload_n 2, 1) := by decide +kernel
theorem zd_Mo_satisfies_31 : decode zc_Mo_satisfies 31 = .ok (.iaload, 1) := by decide +kernel
theorem zd_Mo_satisfies_32 : decode zc_Mo_satisfies 32 = .ok (.ifCond .le 18, 3) := by decide +kernel
theorem zd_Mo_satisfies_35 : decode zc_Mo_satisfies 35 = .ok (.iload 4, 2) := by decide +kernel
theorem zd_Mo_satisfies_37 : decode zc_Mo_satisfies 37 = .ok (.aload_n 0, 1) := by decide +kernel
theorem zd_Mo_satisfies_38 : decode zc_Mo_satisfies 38 = .ok (.getfield 16, 3) := by decide +kernel
theorem zd_Mo_satisfies_41 : decode zc_Mo_satisfies 41 = .ok (.iload_n 2, 1) := by decide +kernel
theorem zd_Mo_satisfies_42 : decode zc_Mo_satisfies 42 = .ok (.iaload, 1) := by decide +kernel
theorem zd_Mo_satisfies_43 : decode zc_Mo_satisfies 43 = .ok (.if_icmp .lt 7, 3) := by decide +kernel
theorem zd_Mo_satisfies_46 : decode zc_Mo_satisfies 46 = .ok (.iconst 1, 1) := by decide +kernel
theorem zd_Mo_satisfies_47 : decode zc_Mo_satisfies 47 = .ok (.goto 4, 3) := by decide +kernel
theorem zd_Mo_satisfies_50 : decode zc_Mo_satisfies 50 = .ok (.iconst 0, 1) := by decide +kernel
theorem zd_Mo_satisfies_51 : decode zc_Mo_satisfies 51 = .ok (.iadd, 1) := by decide +kernel
theorem zd_Mo_satisfies_52 : decode zc_Mo_satisfies 52 = .ok (.aload_n 0, 1) := by decide +kernel
theorem zd_Mo_satisfies_53 : decode zc_Mo_satisfies 53 = .ok (.getfield 7, 3) := by decide +kernel
theorem zd_Mo_satisfies_56 : decode zc_Mo_satisfies 56 = .ok (.iload_n 2, 1) := by decide +kernel
theorem zd_Mo_satisfies_57 : decode zc_Mo_satisfies 57 = .ok (.iaload, 1) := by decide +kernel
theorem zd_Mo_satisfies_58 : decode zc_Mo_satisfies 58 = .ok (.if_icmp .lt 7, 3) := by decide +kernel
theorem zd_Mo_satisfies_61 : decode zc_Mo_satisfies 61 = .ok (.iconst 1, 1) := by decide +kernel
theorem zd_Mo_satisfies_62 : decode zc_Mo_satisfies 62 = .ok (.goto 4, 3) := by decide +kernel
theorem zd_Mo_satisfies_65 : decode zc_Mo_satisfies 65 = .ok (.iconst 0, 1) := by decide +kernel
theorem zd_Mo_satisfies_66 : decode zc_Mo_satisfies 66 = .ok (.ireturn, 1) := by decide +kernel
theorem zd_Mo_table_0 : decode zc_Mo_table 0 = .ok (.iconst 0, 1) := by decide +kernel
theorem zd_Mo_table_1 : decode zc_Mo_table 1 = .ok (.istore_n 1, 1) := by decide +kernel
theorem zd_Mo_table_2 : decode zc_Mo_table 2 = .ok (.iload_n 1, 1) := by decide +kernel
theorem zd_Mo_table_3 : decode zc_Mo_table 3 = .ok (.bipush 32, 2) := by decide +kernel
theorem zd_Mo_table_5 : decode zc_Mo_table 5 = .ok (.if_icmp .ge 54, 3) := by decide +kernel
theorem zd_Mo_table_8 : decode zc_Mo_table 8 = .ok (.aload_n 0, 1) := by decide +kernel
theorem zd_Mo_table_9 : decode zc_Mo_table 9 = .ok (.getfield 22, 3) := by decide +kernel
theorem zd_Mo_table_12 : decode zc_Mo_table 12 = .ok (.iload_n 1, 1) := by decide +kernel
theorem zd_Mo_table_13 : decode zc_Mo_table 13 = .ok (.iconst 1, 1) := by decide +kernel
theorem zd_Mo_table_14 : decode zc_Mo_table 14 = .ok (.bastore, 1) := by decide +kernel
theorem zd_Mo_table_15 : decode zc_Mo_table 15 = .ok (.iconst 0, 1) := by decide +kernel
theorem zd_Mo_table_16 : decode zc_Mo_table 16 = .ok (.istore_n 2, 1) := by decide +kernel
theorem zd_Mo_table_17 : decode zc_Mo_table 17 = .ok (.iload_n 2, 1) := by decide +kernel
theorem zd_Mo_table_18 : decode zc_Mo_table 18 = .ok (.iconst 5, 1) := by decide +kernel
theorem zd_Mo_table_19 : decode zc_Mo_table 19 = .ok (.if_icmp .ge 34, 3) := by decide +kernel
theorem zd_Mo_table_22 : decode zc_Mo_table 22 = .ok (.iload_n 1, 1) := by decide +kernel
theorem zd_Mo_table_23 : decode zc_Mo_table 23 = .ok (.iload_n 2, 1) := by decide +kernel
theorem zd_Mo_table_24 : decode zc_Mo_table 24 = .ok (.ishr, 1) := by decide +kernel
theorem zd_Mo_table_25 : decode zc_Mo_table 25 = .ok (.iconst 1, 1) := by decide +kernel
theorem zd_Mo_table_26 : decode zc_Mo_table 26 = .ok (.iand, 1) := by decide +kernel
theorem zd_Mo_table_27 : decode zc_Mo_table 27 = .ok (.iconst 1, 1) := by decide +kernel
theorem zd_Mo_table_28 : decode zc_Mo_table 28 = .ok (.if_icmp .ne 19, 3) := by decide +kernel
theorem zd_Mo_table_31 : decode zc_Mo_table 31 = .ok (.aload_n 0, 1) := by decide +kernel
theorem zd_Mo_table_32 : decode zc_Mo_table 32 = .ok (.iload_n 1, 1) := by decide +kernel
theorem zd_Mo_table_33 : decode zc_Mo_table 33 = .ok (.iload_n 2, 1) := by decide +kernel
theorem zd_Mo_table_34 : decode zc_Mo_table 34 = .ok (.invokevirtual 113, 3) := by decide +kernel
theorem zd_Mo_table_37 : decode zc_Mo_table 37 = .ok (.ifCond .ne 10, 3) := by decide +kernel
theorem zd_Mo_table_40 : decode zc_Mo_table 40 = .ok (.aload_n 0, 1) := by decide +kernel
theorem zd_Mo_table_41 : decode zc_Mo_table 41 = .ok (.getfield 22, 3) := by decide +kernel
theorem zd_Mo_table_44 : decode zc_Mo_table 44 = .ok (.iload_n 1, 1) := by decide +kernel
theorem zd_Mo_table_45 : decode zc_Mo_table 45 = .ok (.iconst 0, 1) := by decide +kernel
theorem zd_Mo_table_46 : decode zc_Mo_table 46 = .ok (.bastore, 1) := by decide +kernel
theorem zd_Mo_table_47 : decode zc_Mo_table 47 = .ok (.iinc 2 1, 3) := by decide +kernel
theorem zd_Mo_table_50 : decode zc_Mo_table 50 = .ok (.goto (-33), 3) := by decide +kernel
theorem zd_Mo_table_53 : decode zc_Mo_table 53 = .ok (.iinc 1 1, 3) := by decide +kernel
theorem zd_Mo_table_56 : decode zc_Mo_table 56 = .ok (.goto (-54), 3) := by decide +kernel
theorem zd_Mo_table_59 : decode zc_Mo_table 59 = .ok (.return_, 1) := by decide +kernel
theorem zd_Mo_init_0 : decode zc_Mo_init 0 = .ok (.aload_n 0, 1) := by decide +kernel
theorem zd_Mo_init_1 : decode zc_Mo_init 1 = .ok (.invokespecial 1, 3) := by decide +kernel
theorem zd_Mo_init_4 : decode zc_Mo_init 4 = .ok (.aload_n 0, 1) := by decide +kernel
theorem zd_Mo_init_5 : decode zc_Mo_init 5 = .ok (.iconst 5, 1) := by decide +kernel
theorem zd_Mo_init_6 : decode zc_Mo_init 6 = .ok (.newarray .int, 2) := by decide +kernel
theorem zd_Mo_init_8 : decode zc_Mo_init 8 = .ok (.putfield 7, 3) := by decide +kernel
theorem zd_Mo_init_11 : decode zc_Mo_init 11 = .ok (.aload_n 0, 1) := by decide +kernel
theorem zd_Mo_init_12 : decode zc_Mo_init 12 = .ok (.iconst 5, 1) := by decide +kernel
theorem zd_Mo_init_13 : decode zc_Mo_init 13 = .ok (.newarray .int, 2) := by decide +kernel
theorem zd_Mo_init_15 : decode zc_Mo_init 15 = .ok (.putfield 13, 3) := by decide +kernel
theorem zd_Mo_init_18 : decode zc_Mo_init 18 = .ok (.aload_n 0, 1) := by decide +kernel
theorem zd_Mo_init_19 : decode zc_Mo_init 19 = .ok (.iconst 5, 1) := by decide +kernel
theorem zd_Mo_init_20 : decode zc_Mo_init 20 = .ok (.newarray .int, 2) := by decide +kernel
theorem zd_Mo_init_22 : decode zc_Mo_init 22 = .ok (.putfield 16, 3) := by decide +kernel
theorem zd_Mo_init_25 : decode zc_Mo_init 25 = .ok (.aload_n 0, 1) := by decide +kernel
theorem zd_Mo_init_26 : decode zc_Mo_init 26 = .ok (.iconst 5, 1) := by decide +kernel
theorem zd_Mo_init_27 : decode zc_Mo_init 27 = .ok (.newarray .int, 2) := by decide +kernel
theorem zd_Mo_init_29 : decode zc_Mo_init 29 = .ok (.putfield 19, 3) := by decide +kernel
theorem zd_Mo_init_32 : decode zc_Mo_init 32 = .ok (.aload_n 0, 1) := by decide +kernel
theorem zd_Mo_init_33 : decode zc_Mo_init 33 = .ok (.bipush 32, 2) := by decide +kernel
theorem zd_Mo_init_35 : decode zc_Mo_init 35 = .ok (.newarray .boolean, 2) := by decide +kernel
theorem zd_Mo_init_37 : decode zc_Mo_init 37 = .ok (.putfield 22, 3) := by decide +kernel
theorem zd_Mo_init_40 : decode zc_Mo_init 40 = .ok (.aload_n 0, 1) := by decide +kernel
theorem zd_Mo_init_41 : decode zc_Mo_init 41 = .ok (.iconst 5, 1) := by decide +kernel
theorem zd_Mo_init_42 : decode zc_Mo_init 42 = .ok (.newarray .int, 2) := by decide +kernel
theorem zd_Mo_init_44 : decode zc_Mo_init 44 = .ok (.putfield 26, 3) := by decide +kernel
theorem zd_Mo_init_47 : decode zc_Mo_init 47 = .ok (.aload_n 0, 1) := by decide +kernel
theorem zd_Mo_init_48 : decode zc_Mo_init 48 = .ok (.iconst 5, 1) := by decide +kernel
theorem zd_Mo_init_49 : decode zc_Mo_init 49 = .ok (.newarray .int, 2) := by decide +kernel
theorem zd_Mo_init_51 : decode zc_Mo_init 51 = .ok (.putfield 29, 3) := by decide +kernel
theorem zd_Mo_init_54 : decode zc_Mo_init 54 = .ok (.aload_n 0, 1) := by decide +kernel
theorem zd_Mo_init_55 : decode zc_Mo_init 55 = .ok (.iconst 5, 1) := by decide +kernel
theorem zd_Mo_init_56 : decode zc_Mo_init 56 = .ok (.newarray .int, 2) := by decide +kernel
theorem zd_Mo_init_58 : decode zc_Mo_init 58 = .ok (.putfield 32, 3) := by decide +kernel
theorem zd_Mo_init_61 : decode zc_Mo_init 61 = .ok (.aload_n 0, 1) := by decide +kernel
theorem zd_Mo_init_62 : decode zc_Mo_init 62 = .ok (.iconst 5, 1) := by decide +kernel
theorem zd_Mo_init_63 : decode zc_Mo_init 63 = .ok (.newarray .int, 2) := by decide +kernel
theorem zd_Mo_init_65 : decode zc_Mo_init 65 = .ok (.putfield 35, 3) := by decide +kernel
theorem zd_Mo_init_68 : decode zc_Mo_init 68 = .ok (.aload_n 0, 1) := by decide +kernel
theorem zd_Mo_init_69 : decode zc_Mo_init 69 = .ok (.iconst 5, 1) := by decide +kernel
theorem zd_Mo_init_70 : decode zc_Mo_init 70 = .ok (.newarray .int, 2) := by decide +kernel
theorem zd_Mo_init_72 : decode zc_Mo_init 72 = .ok (.putfield 38, 3) := by decide +kernel
theorem zd_Mo_init_75 : decode zc_Mo_init 75 = .ok (.aload_n 0, 1) := by decide +kernel
theorem zd_Mo_init_76 : decode zc_Mo_init 76 = .ok (.sipush 135, 3) := by decide +kernel
theorem zd_Mo_init_79 : decode zc_Mo_init 79 = .ok (.newarray .int, 2) := by decide +kernel
theorem zd_Mo_init_81 : decode zc_Mo_init 81 = .ok (.putfield 41, 3) := by decide +kernel
theorem zd_Mo_init_84 : decode zc_Mo_init 84 = .ok (.aload_n 0, 1) := by decide +kernel
theorem zd_Mo_init_85 : decode zc_Mo_init 85 = .ok (.sipush 150, 3) := by decide +kernel
theorem zd_Mo_init_88 : decode zc_Mo_init 88 = .ok (.newarray .int, 2) := by decide +kernel
theorem zd_Mo_init_90 : decode zc_Mo_init 90 = .ok (.putfield 44, 3) := by decide +kernel
theorem zd_Mo_init_93 : decode zc_Mo_init 93 = .ok (.aload_n 0, 1) := by decide +kernel
theorem zd_Mo_init_94 : decode zc_Mo_init 94 = .ok (.bipush 15, 2) := by decide +kernel
theorem zd_Mo_init_96 : decode zc_Mo_init 96 = .ok (.newarray .int, 2) := by decide +kernel
theorem zd_Mo_init_98 : decode zc_Mo_init 98 = .ok (.putfield 47, 3) := by decide +kernel
theorem zd_Mo_init_101 : decode zc_Mo_init 101 = .ok (.aload_n 0, 1) := by decide +kernel
theorem zd_Mo_init_102 : decode zc_Mo_init 102 = .ok (.iconst 5, 1) := by decide +kernel
theorem zd_Mo_init_103 : decode zc_Mo_init 103 = .ok (.newarray .int, 2) := by decide +kernel
theorem zd_Mo_init_105 : decode zc_Mo_init 105 = .ok (.putfield 50, 3) := by decide +kernel
theorem zd_Mo_init_108 : decode zc_Mo_init 108 = .ok (.aload_n 0, 1) := by decide +kernel
theorem zd_Mo_init_109 : decode zc_Mo_init 109 = .ok (.bipush 120, 2) := by decide +kernel
theorem zd_Mo_init_111 : decode zc_Mo_init 111 = .ok (.newarray .int, 2) := by decide +kernel
theorem zd_Mo_init_113 : decode zc_Mo_init 113 = .ok (.putfield 53, 3) := by decide +kernel
theorem zd_Mo_init_116 : decode zc_Mo_init 116 = .ok (.aload_n 0, 1) := by decide +kernel
theorem zd_Mo_init_117 : decode zc_Mo_init 117 = .ok (.bipush 120, 2) := by decide +kernel
theorem zd_Mo_init_119 : decode zc_Mo_init 119 = .ok (.newarray .int, 2) := by decide +kernel
theorem zd_Mo_init_121 : decode zc_Mo_init 121 = .ok (.putfield 56, 3) := by decide +kernel
theorem zd_Mo_init_124 : decode zc_Mo_init 124 = .ok (.aload_n 0, 1) := by decide +kernel
theorem zd_Mo_init_125 : decode zc_Mo_init 125 = .ok (.sipush 720, 3) := by decide +kernel
theorem zd_Mo_init_128 : decode zc_Mo_init 128 = .ok (.newarray .int, 2) := by decide +kernel
theorem zd_Mo_init_130 : decode zc_Mo_init 130 = .ok (.putfield 59, 3) := by decide +kernel
theorem zd_Mo_init_133 : decode zc_Mo_init 133 = .ok (.aload_n 0, 1) := by decide +kernel
theorem zd_Mo_init_134 : decode zc_Mo_init 134 = .ok (.bipush 9, 2) := by decide +kernel
theorem zd_Mo_init_136 : decode zc_Mo_init 136 = .ok (.newarray .boolean, 2) := by decide +kernel
theorem zd_Mo_init_138 : decode zc_Mo_init 138 = .ok (.putfield 62, 3) := by decide +kernel
theorem zd_Mo_init_141 : decode zc_Mo_init 141 = .ok (.aload_n 0, 1) := by decide +kernel
theorem zd_Mo_init_142 : decode zc_Mo_init 142 = .ok (.bipush 9, 2) := by decide +kernel
theorem zd_Mo_init_144 : decode zc_Mo_init 144 = .ok (.newarray .int, 2) := by decide +kernel
theorem zd_Mo_init_146 : decode zc_Mo_init 146 = .ok (.putfield 65, 3) := by decide +kernel
theorem zd_Mo_init_149 : decode zc_Mo_init 149 = .ok (.aload_n 0, 1) := by decide +kernel
theorem zd_Mo_init_150 : decode zc_Mo_init 150 = .ok (.bipush 9, 2) := by decide +kernel
theorem zd_Mo_init_152 : decode zc_Mo_init 152 = .ok (.newarray .int, 2) := by decide +kernel
theorem zd_Mo_init_154 : decode zc_Mo_init 154 = .ok (.putfield 68, 3) := by decide +kernel
theorem zd_Mo_init_157 : decode zc_Mo_init 157 = .ok (.aload_n 0, 1) := by decide +kernel
theorem zd_Mo_init_158 : decode zc_Mo_init 158 = .ok (.bipush 9, 2) := by decide +kernel
theorem zd_Mo_init_160 : decode zc_Mo_init 160 = .ok (.newarray .int, 2) := by decide +kernel
theorem zd_Mo_init_162 : decode zc_Mo_init 162 = .ok (.putfield 71, 3) := by decide +kernel
theorem zd_Mo_init_165 : decode zc_Mo_init 165 = .ok (.aload_n 0, 1) := by decide +kernel
theorem zd_Mo_init_166 : decode zc_Mo_init 166 = .ok (.bipush 9, 2) := by decide +kernel
theorem zd_Mo_init_168 : decode zc_Mo_init 168 = .ok (.newarray .int, 2) := by decide +kernel
theorem zd_Mo_init_170 : decode zc_Mo_init 170 = .ok (.putfield 74, 3) := by decide +kernel
theorem zd_Mo_init_173 : decode zc_Mo_init 173 = .ok (.aload_n 0, 1) := by decide +kernel
theorem zd_Mo_init_174 : decode zc_Mo_init 174 = .ok (.bipush 9, 2) := by decide +kernel
theorem zd_Mo_init_176 : decode zc_Mo_init 176 = .ok (.newarray .int, 2) := by decide +kernel
theorem zd_Mo_init_178 : decode zc_Mo_init 178 = .ok (.putfield 77, 3) := by decide +kernel
theorem zd_Mo_init_181 : decode zc_Mo_init 181 = .ok (.aload_n 0, 1) := by decide +kernel
theorem zd_Mo_init_182 : decode zc_Mo_init 182 = .ok (.bipush 40, 2) := by decide +kernel
theorem zd_Mo_init_184 : decode zc_Mo_init 184 = .ok (.newarray .int, 2) := by decide +kernel
theorem zd_Mo_init_186 : decode zc_Mo_init 186 = .ok (.putfield 80, 3) := by decide +kernel
theorem zd_Mo_init_189 : decode zc_Mo_init 189 = .ok (.aload_n 0, 1) := by decide +kernel
theorem zd_Mo_init_190 : decode zc_Mo_init 190 = .ok (.iconst 5, 1) := by decide +kernel
theorem zd_Mo_init_191 : decode zc_Mo_init 191 = .ok (.newarray .int, 2) := by decide +kernel
theorem zd_Mo_init_193 : decode zc_Mo_init 193 = .ok (.putfield 83, 3) := by decide +kernel
theorem zd_Mo_init_196 : decode zc_Mo_init 196 = .ok (.aload_n 0, 1) := by decide +kernel
theorem zd_Mo_init_197 : decode zc_Mo_init 197 = .ok (.bipush 45, 2) := by decide +kernel
theorem zd_Mo_init_199 : decode zc_Mo_init 199 = .ok (.newarray .int, 2) := by decide +kernel
theorem zd_Mo_init_201 : decode zc_Mo_init 201 = .ok (.putfield 86, 3) := by decide +kernel
theorem zd_Mo_init_204 : decode zc_Mo_init 204 = .ok (.aload_n 0, 1) := by decide +kernel
theorem zd_Mo_init_205 : decode zc_Mo_init 205 = .ok (.bipush 45, 2) := by decide +kernel
theorem zd_Mo_init_207 : decode zc_Mo_init 207 = .ok (.newarray .int, 2) := by decide +kernel
theorem zd_Mo_init_209 : decode zc_Mo_init 209 = .ok (.putfield 89, 3) := by decide +kernel
theorem zd_Mo_init_212 : decode zc_Mo_init 212 = .ok (.aload_n 0, 1) := by decide +kernel
theorem zd_Mo_init_213 : decode zc_Mo_init 213 = .ok (.bipush 45, 2) := by decide +kernel
theorem zd_Mo_init_215 : decode zc_Mo_init 215 = .ok (.newarray .int, 2) := by decide +kernel
theorem zd_Mo_init_217 : decode zc_Mo_init 217 = .ok (.putfield 92, 3) := by decide +kernel
theorem zd_Mo_init_220 : decode zc_Mo_init 220 = .ok (.aload_n 0, 1) := by decide +kernel
theorem zd_Mo_init_221 : decode zc_Mo_init 221 = .ok (.bipush 45, 2) := by decide +kernel
theorem zd_Mo_init_223 : decode zc_Mo_init 223 = .ok (.newarray .int, 2) := by decide +kernel
theorem zd_Mo_init_225 : decode zc_Mo_init 225 = .ok (.putfield 95, 3) := by decide +kernel
theorem zd_Mo_init_228 : decode zc_Mo_init 228 = .ok (.aload_n 0, 1) := by decide +kernel
theorem zd_Mo_init_229 : decode zc_Mo_init 229 = .ok (.iload_n 1, 1) := by decide +kernel
theorem zd_Mo_init_230 : decode zc_Mo_init 230 = .ok (.bipush 31, 2) := by decide +kernel
theorem zd_Mo_init_232 : decode zc_Mo_init 232 = .ok (.iand, 1) := by decide +kernel
theorem zd_Mo_init_233 : decode zc_Mo_init 233 = .ok (.putfield 98, 3) := by decide +kernel
theorem zd_Mo_init_236 : decode zc_Mo_init 236 = .ok (.iconst 0, 1) := by decide +kernel
theorem zd_Mo_init_237 : decode zc_Mo_init 237 = .ok (.istore_n 2, 1) := by decide +kernel
theorem zd_Mo_init_238 : decode zc_Mo_init 238 = .ok (.iload_n 2, 1) := by decide +kernel
theorem zd_Mo_init_239 : decode zc_Mo_init 239 = .ok (.iconst 5, 1) := by decide +kernel
theorem zd_Mo_init_240 : decode zc_Mo_init 240 = .ok (.if_icmp .ge 69, 3) := by decide +kernel
theorem zd_Mo_init_243 : decode zc_Mo_init 243 = .ok (.aload_n 0, 1) := by decide +kernel
theorem zd_Mo_init_244 : decode zc_Mo_init 244 = .ok (.getfield 7, 3) := by decide +kernel
theorem zd_Mo_init_247 : decode zc_Mo_init 247 = .ok (.iload_n 2, 1) := by decide +kernel
theorem zd_Mo_init_248 : decode zc_Mo_init 248 = .ok (.iconst 4, 1) := by decide +kernel
theorem zd_Mo_init_249 : decode zc_Mo_init 249 = .ok (.iastore, 1) := by decide +kernel
theorem zd_Mo_init_250 : decode zc_Mo_init 250 = .ok (.aload_n 0, 1) := by decide +kernel
theorem zd_Mo_init_251 : decode zc_Mo_init 251 = .ok (.getfield 13, 3) := by decide +kernel
theorem zd_Mo_init_254 : decode zc_Mo_init 254 = .ok (.iload_n 2, 1) := by decide +kernel
theorem zd_Mo_init_255 : decode zc_Mo_init 255 = .ok (.bipush 31, 2) := by decide +kernel
theorem zd_Mo_init_257 : decode zc_Mo_init 257 = .ok (.iastore, 1) := by decide +kernel
theorem zd_Mo_init_258 : decode zc_Mo_init 258 = .ok (.iconst 0, 1) := by decide +kernel
theorem zd_Mo_init_259 : decode zc_Mo_init 259 = .ok (.istore_n 3, 1) := by decide +kernel
theorem zd_Mo_init_260 : decode zc_Mo_init 260 = .ok (.iload_n 3, 1) := by decide +kernel
theorem zd_Mo_init_261 : decode zc_Mo_init 261 = .ok (.iconst 4, 1) := by decide +kernel
theorem zd_Mo_init_262 : decode zc_Mo_init 262 = .ok (.if_icmp .ge 41, 3) := by decide +kernel
theorem zd_Mo_init_265 : decode zc_Mo_init 265 = .ok (.aload_n 0, 1) := by decide +kernel
theorem zd_Mo_init_266 : decode zc_Mo_init 266 = .ok (.getfield 80, 3) := by decide +kernel
theorem zd_Mo_init_269 : decode zc_Mo_init 269 = .ok (.bipush 8, 2) := by decide +kernel
theorem zd_Mo_init_271 : decode zc_Mo_init 271 = .ok (.iload_n 2, 1) := by decide +kernel
theorem zd_Mo_init_272 : decode zc_Mo_init 272 = .ok (.imul, 1) := by decide +kernel
theorem zd_Mo_init_273 : decode zc_Mo_init 273 = .ok (.iconst 2, 1) := by decide +kernel
theorem zd_Mo_init_274 : decode zc_Mo_init 274 = .ok (.iload_n 3, 1) := by decide +kernel
theorem zd_Mo_init_275 : decode zc_Mo_init 275 = .ok (.imul, 1) := by decide +kernel
theorem zd_Mo_init_276 : decode zc_Mo_init 276 = .ok (.iadd, 1) := by decide +kernel
theorem zd_Mo_init_277 : decode zc_Mo_init 277 = .ok (.bipush 100, 2) := by decide +kernel
theorem zd_Mo_init_279 : decode zc_Mo_init 279 = .ok (.iastore, 1) := by decide +kernel
theorem zd_Mo_init_280 : decode zc_Mo_init 280 = .ok (.aload_n 0, 1) := by decide +kernel
theorem zd_Mo_init_281 : decode zc_Mo_init 281 = .ok (.getfield 80, 3) := by decide +kernel
theorem zd_Mo_init_284 : decode zc_Mo_init 284 = .ok (.bipush 8, 2) := by decide +kernel
theorem zd_Mo_init_286 : decode zc_Mo_init 286 = .ok (.iload_n 2, 1) := by decide +kernel
theorem zd_Mo_init_287 : decode zc_Mo_init 287 = .ok (.imul, 1) := by decide +kernel
theorem zd_Mo_init_288 : decode zc_Mo_init 288 = .ok (.iconst 2, 1) := by decide +kernel
theorem zd_Mo_init_289 : decode zc_Mo_init 289 = .ok (.iload_n 3, 1) := by decide +kernel
theorem zd_Mo_init_290 : decode zc_Mo_init 290 = .ok (.imul, 1) := by decide +kernel
theorem zd_Mo_init_291 : decode zc_Mo_init 291 = .ok (.iadd, 1) := by decide +kernel
theorem zd_Mo_init_292 : decode zc_Mo_init 292 = .ok (.iconst 1, 1) := by decide +kernel
theorem zd_Mo_init_293 : decode zc_Mo_init 293 = .ok (.iadd, 1) := by decide +kernel
theorem zd_Mo_init_294 : decode zc_Mo_init 294 = .ok (.bipush 20, 2) := by decide +kernel
theorem zd_Mo_init_296 : decode zc_Mo_init 296 = .ok (.iastore, 1) := by decide +kernel
theorem zd_Mo_init_297 : decode zc_Mo_init 297 = .ok (.iinc 3 1, 3) := by decide +kernel
theorem zd_Mo_init_300 : decode zc_Mo_init 300 = .ok (.goto (-40), 3) := by decide +kernel
theorem zd_Mo_init_303 : decode zc_Mo_init 303 = .ok (.iinc 2 1, 3) := by decide +kernel
theorem zd_Mo_init_306 : decode zc_Mo_init 306 = .ok (.goto (-68), 3) := by decide +kernel
theorem zd_Mo_init_309 : decode zc_Mo_init 309 = .ok (.aload_n 0, 1) := by decide +kernel
theorem zd_Mo_init_310 : decode zc_Mo_init 310 = .ok (.invokevirtual 102, 3) := by decide +kernel
theorem zd_Mo_init_313 : decode zc_Mo_init 313 = .ok (.return_, 1) := by decide +kernel
theorem zd_Mo_in_0 : decode zc_Mo_in 0 = .ok (.iload_n 0, 1) := by decide +kernel
theorem zd_Mo_in_1 : decode zc_Mo_in 1 = .ok (.iload_n 1, 1) := by decide +kernel
theorem zd_Mo_in_2 : decode zc_Mo_in 2 = .ok (.if_icmp .lt 12, 3) := by decide +kernel
theorem zd_Mo_in_5 : decode zc_Mo_in 5 = .ok (.iload_n 0, 1) := by decide +kernel
theorem zd_Mo_in_6 : decode zc_Mo_in 6 = .ok (.iload_n 2, 1) := by decide +kernel
theorem zd_Mo_in_7 : decode zc_Mo_in 7 = .ok (.if_icmp .gt 7, 3) := by decide +kernel
theorem zd_Mo_in_10 : decode zc_Mo_in 10 = .ok (.iconst 1, 1) := by decide +kernel
theorem zd_Mo_in_11 : decode zc_Mo_in 11 = .ok (.goto 4, 3) := by decide +kernel
theorem zd_Mo_in_14 : decode zc_Mo_in 14 = .ok (.iconst 0, 1) := by decide +kernel
theorem zd_Mo_in_15 : decode zc_Mo_in 15 = .ok (.ireturn, 1) := by decide +kernel
theorem zd_Mo_good_0 : decode zc_Mo_good 0 = .ok (.iload_n 1, 1) := by decide +kernel
theorem zd_Mo_good_1 : decode zc_Mo_good 1 = .ok (.iconst 0, 1) := by decide +kernel
theorem zd_Mo_good_2 : decode zc_Mo_good 2 = .ok (.iconst 4, 1) := by decide +kernel
theorem zd_Mo_good_3 : decode zc_Mo_good 3 = .ok (.invokestatic 105, 3) := by decide +kernel
theorem zd_Mo_good_6 : decode zc_Mo_good 6 = .ok (.ifCond .eq 18, 3) := by decide +kernel
theorem zd_Mo_good_9 : decode zc_Mo_good 9 = .ok (.aload_n 0, 1) := by decide +kernel
theorem zd_Mo_good_10 : decode zc_Mo_good 10 = .ok (.getfield 98, 3) := by decide +kernel
theorem zd_Mo_good_13 : decode zc_Mo_good 13 = .ok (.iload_n 1, 1) := by decide +kernel
theorem zd_Mo_good_14 : decode zc_Mo_good 14 = .ok (.ishr, 1) := by decide +kernel
theorem zd_Mo_good_15 : decode zc_Mo_good 15 = .ok (.iconst 1, 1) := by decide +kernel
theorem zd_Mo_good_16 : decode zc_Mo_good 16 = .ok (.iand, 1) := by decide +kernel
theorem zd_Mo_good_17 : decode zc_Mo_good 17 = .ok (.ifCond .ne 7, 3) := by decide +kernel
theorem zd_Mo_good_20 : decode zc_Mo_good 20 = .ok (.iconst 1, 1) := by decide +kernel
theorem zd_Mo_good_21 : decode zc_Mo_good 21 = .ok (.goto 4, 3) := by decide +kernel
theorem zd_Mo_good_24 : decode zc_Mo_good 24 = .ok (.iconst 0, 1) := by decide +kernel
theorem zd_Mo_good_25 : decode zc_Mo_good 25 = .ok (.ireturn, 1) := by decide +kernel
theorem zd_Mo_gives_0 : decode zc_Mo_gives 0 = .ok (.iconst 0, 1) := by decide +kernel
theorem zd_Mo_gives_1 : decode zc_Mo_gives 1 = .ok (.istore_n 3, 1) := by decide +kernel
theorem zd_Mo_gives_2 : decode zc_Mo_gives 2 = .ok (.iload_n 3, 1) := by decide +kernel
theorem zd_Mo_gives_3 : decode zc_Mo_gives 3 = .ok (.bipush 32, 2) := by decide +kernel
theorem zd_Mo_gives_5 : decode zc_Mo_gives 5 = .ok (.if_icmp .ge 37, 3) := by decide +kernel
theorem zd_Mo_gives_8 : decode zc_Mo_gives 8 = .ok (.iload_n 3, 1) := by decide +kernel
theorem zd_Mo_gives_9 : decode zc_Mo_gives 9 = .ok (.iload_n 1, 1) := by decide +kernel
theorem zd_Mo_gives_10 : decode zc_Mo_gives 10 = .ok (.iconst (-1), 1) := by decide +kernel
theorem zd_Mo_gives_11 : decode zc_Mo_gives 11 = .ok (.ixor, 1) := by decide +kernel
theorem zd_Mo_gives_12 : decode zc_Mo_gives 12 = .ok (.iand, 1) := by decide +kernel
theorem zd_Mo_gives_13 : decode zc_Mo_gives 13 = .ok (.ifCond .ne 23, 3) := by decide +kernel
theorem zd_Mo_gives_16 : decode zc_Mo_gives 16 = .ok (.iload_n 3, 1) := by decide +kernel
theorem zd_Mo_gives_17 : decode zc_Mo_gives 17 = .ok (.iload_n 2, 1) := by decide +kernel
theorem zd_Mo_gives_18 : decode zc_Mo_gives 18 = .ok (.ishr, 1) := by decide +kernel
theorem zd_Mo_gives_19 : decode zc_Mo_gives 19 = .ok (.iconst 1, 1) := by decide +kernel
theorem zd_Mo_gives_20 : decode zc_Mo_gives 20 = .ok (.iand, 1) := by decide +kernel
theorem zd_Mo_gives_21 : decode zc_Mo_gives 21 = .ok (.iconst 1, 1) := by decide +kernel
theorem zd_Mo_gives_22 : decode zc_Mo_gives 22 = .ok (.if_icmp .ne 14, 3) := by decide +kernel
theorem zd_Mo_gives_25 : decode zc_Mo_gives 25 = .ok (.aload_n 0, 1) := by decide +kernel
theorem zd_Mo_gives_26 : decode zc_Mo_gives 26 = .ok (.getfield 22, 3) := by decide +kernel
theorem zd_Mo_gives_29 : decode zc_Mo_gives 29 = .ok (.iload_n 3, 1) := by decide +kernel
theorem zd_Mo_gives_30 : decode zc_Mo_gives 30 = .ok (.baload, 1) := by decide +kernel
theorem zd_Mo_gives_31 : decode zc_Mo_gives 31 = .ok (.ifCond .eq 5, 3) := by decide +kernel
theorem zd_Mo_gives_34 : decode zc_Mo_gives 34 = .ok (.iconst 1, 1) := by decide +kernel
theorem zd_Mo_gives_35 : decode zc_Mo_gives 35 = .ok (.ireturn, 1) := by decide +kernel
theorem zd_Mo_gives_36 : decode zc_Mo_gives 36 = .ok (.iinc 3 1, 3) := by decide +kernel
theorem zd_Mo_gives_39 : decode zc_Mo_gives 39 = .ok (.goto (-37), 3) := by decide +kernel
theorem zd_Mo_gives_42 : decode zc_Mo_gives 42 = .ok (.iconst 0, 1) := by decide +kernel
theorem zd_Mo_gives_43 : decode zc_Mo_gives 43 = .ok (.ireturn, 1) := by decide +kernel
theorem zd_Mo_trust_0 : decode zc_Mo_trust 0 = .ok (.iload_n 1, 1) := by decide +kernel
theorem zd_Mo_trust_1 : decode zc_Mo_trust 1 = .ok (.iconst 0, 1) := by decide +kernel
theorem zd_Mo_trust_2 : decode zc_Mo_trust 2 = .ok (.iconst 4, 1) := by decide +kernel
theorem zd_Mo_trust_3 : decode zc_Mo_trust 3 = .ok (.invokestatic 105, 3) := by decide +kernel
theorem zd_Mo_trust_6 : decode zc_Mo_trust 6 = .ok (.ifCond .eq 51, 3) := by decide +kernel
theorem zd_Mo_trust_9 : decode zc_Mo_trust 9 = .ok (.iload_n 2, 1) := by decide +kernel
theorem zd_Mo_trust_10 : decode zc_Mo_trust 10 = .ok (.iconst 1, 1) := by decide +kernel
theorem zd_Mo_trust_11 : decode zc_Mo_trust 11 = .ok (.bipush 6, 2) := by decide +kernel
theorem zd_Mo_trust_13 : decode zc_Mo_trust 13 = .ok (.invokestatic 105, 3) := by decide +kernel
theorem zd_Mo_trust_16 : decode zc_Mo_trust 16 = .ok (.ifCond .eq 41, 3) := by decide +kernel
theorem zd_Mo_trust_19 : decode zc_Mo_trust 19 = .ok (.iload_n 3, 1) := by decide +kernel
theorem zd_Mo_trust_20 : decode zc_Mo_trust 20 = .ok (.iconst 0, 1) := by decide +kernel
theorem zd_Mo_trust_21 : decode zc_Mo_trust 21 = .ok (.bipush 31, 2) := by decide +kernel
theorem zd_Mo_trust_23 : decode zc_Mo_trust 23 = .ok (.invokestatic 105, 3) := by decide +kernel
theorem zd_Mo_trust_26 : decode zc_Mo_trust 26 = .ok (.ifCond .eq 31, 3) := by decide +kernel
theorem zd_Mo_trust_29 : decode zc_Mo_trust 29 = .ok (.iload 5, 2) := by decide +kernel
theorem zd_Mo_trust_31 : decode zc_Mo_trust 31 = .ok (.iconst 0, 1) := by decide +kernel
theorem zd_Mo_trust_32 : decode zc_Mo_trust 32 = .ok (.bipush 31, 2) := by decide +kernel
theorem zd_Mo_trust_34 : decode zc_Mo_trust 34 = .ok (.invokestatic 105, 3) := by decide +kernel
theorem zd_Mo_trust_37 : decode zc_Mo_trust 37 = .ok (.ifCond .eq 20, 3) := by decide +kernel
theorem zd_Mo_trust_40 : decode zc_Mo_trust 40 = .ok (.iload 4, 2) := by decide +kernel
theorem zd_Mo_trust_42 : decode zc_Mo_trust 42 = .ok (.iconst 0, 1) := by decide +kernel
theorem zd_Mo_trust_43 : decode zc_Mo_trust 43 = .ok (.iconst 5, 1) := by decide +kernel
theorem zd_Mo_trust_44 : decode zc_Mo_trust 44 = .ok (.invokestatic 105, 3) := by decide +kernel
theorem zd_Mo_trust_47 : decode zc_Mo_trust 47 = .ok (.ifCond .eq 10, 3) := by decide +kernel
theorem zd_Mo_trust_50 : decode zc_Mo_trust 50 = .ok (.aload_n 0, 1) := by decide +kernel
theorem zd_Mo_trust_51 : decode zc_Mo_trust 51 = .ok (.getfield 117, 3) := by decide +kernel
theorem zd_Mo_trust_54 : decode zc_Mo_trust 54 = .ok (.ifCond .eq 5, 3) := by decide +kernel
theorem zd_Mo_trust_57 : decode zc_Mo_trust 57 = .ok (.iconst 0, 1) := by decide +kernel
theorem zd_Mo_trust_58 : decode zc_Mo_trust 58 = .ok (.ireturn, 1) := by decide +kernel
theorem zd_Mo_trust_59 : decode zc_Mo_trust 59 = .ok (.aload_n 0, 1) := by decide +kernel
theorem zd_Mo_trust_60 : decode zc_Mo_trust 60 = .ok (.getfield 7, 3) := by decide +kernel
theorem zd_Mo_trust_63 : decode zc_Mo_trust 63 = .ok (.iload_n 1, 1) := by decide +kernel
theorem zd_Mo_trust_64 : decode zc_Mo_trust 64 = .ok (.iload_n 2, 1) := by decide +kernel
theorem zd_Mo_trust_65 : decode zc_Mo_trust 65 = .ok (.iastore, 1) := by decide +kernel
theorem zd_Mo_trust_66 : decode zc_Mo_trust 66 = .ok (.aload_n 0, 1) := by decide +kernel
theorem zd_Mo_trust_67 : decode zc_Mo_trust 67 = .ok (.getfield 13, 3) := by decide +kernel
theorem zd_Mo_trust_70 : decode zc_Mo_trust 70 = .ok (.iload_n 1, 1) := by decide +kernel
theorem zd_Mo_trust_71 : decode zc_Mo_trust 71 = .ok (.iload_n 3, 1) := by decide +kernel
theorem zd_Mo_trust_72 : decode zc_Mo_trust 72 = .ok (.iastore, 1) := by decide +kernel
theorem zd_Mo_trust_73 : decode zc_Mo_trust 73 = .ok (.aload_n 0, 1) := by decide +kernel
theorem zd_Mo_trust_74 : decode zc_Mo_trust 74 = .ok (.getfield 16, 3) := by decide +kernel
theorem zd_Mo_trust_77 : decode zc_Mo_trust 77 = .ok (.iload_n 1, 1) := by decide +kernel
theorem zd_Mo_trust_78 : decode zc_Mo_trust 78 = .ok (.iload 4, 2) := by decide +kernel
theorem zd_Mo_trust_80 : decode zc_Mo_trust 80 = .ok (.iastore, 1) := by decide +kernel
theorem zd_Mo_trust_81 : decode zc_Mo_trust 81 = .ok (.aload_n 0, 1) := by decide +kernel
theorem zd_Mo_trust_82 : decode zc_Mo_trust 82 = .ok (.getfield 19, 3) := by decide +kernel
theorem zd_Mo_trust_85 : decode zc_Mo_trust 85 = .ok (.iload_n 1, 1) := by decide +kernel
theorem zd_Mo_trust_86 : decode zc_Mo_trust 86 = .ok (.iload 5, 2) := by decide +kernel
theorem zd_Mo_trust_88 : decode zc_Mo_trust 88 = .ok (.iastore, 1) := by decide +kernel
theorem zd_Mo_trust_89 : decode zc_Mo_trust 89 = .ok (.aload_n 0, 1) := by decide +kernel
theorem zd_Mo_trust_90 : decode zc_Mo_trust 90 = .ok (.invokevirtual 102, 3) := by decide +kernel
theorem zd_Mo_trust_93 : decode zc_Mo_trust 93 = .ok (.iconst 1, 1) := by decide +kernel
theorem zd_Mo_trust_94 : decode zc_Mo_trust 94 = .ok (.ireturn, 1) := by decide +kernel
theorem zd_Mo_place_0 : decode zc_Mo_place 0 = .ok (.bipush 27, 2) := by decide +kernel
theorem zd_Mo_place_2 : decode zc_Mo_place 2 = .ok (.iload_n 1, 1) := by decide +kernel
theorem zd_Mo_place_3 : decode zc_Mo_place 3 = .ok (.imul, 1) := by decide +kernel
theorem zd_Mo_place_4 : decode zc_Mo_place 4 = .ok (.bipush 9, 2) := by decide +kernel
theorem zd_Mo_place_6 : decode zc_Mo_place 6 = .ok (.aload_n 0, 1) := by decide +kernel
theorem zd_Mo_place_7 : decode zc_Mo_place 7 = .ok (.getfield 26, 3) := by decide +kernel
theorem zd_Mo_place_10 : decode zc_Mo_place 10 = .ok (.iload_n 1, 1) := by decide +kernel
theorem zd_Mo_place_11 : decode zc_Mo_place 11 = .ok (.iaload, 1) := by decide +kernel
theorem zd_Mo_place_12 : decode zc_Mo_place 12 = .ok (.imul, 1) := by decide +kernel
theorem zd_Mo_place_13 : decode zc_Mo_place 13 = .ok (.iadd, 1) := by decide +kernel
theorem zd_Mo_place_14 : decode zc_Mo_place 14 = .ok (.iconst 3, 1) := by decide +kernel
theorem zd_Mo_place_15 : decode zc_Mo_place 15 = .ok (.iload_n 2, 1) := by decide +kernel
theorem zd_Mo_place_16 : decode zc_Mo_place 16 = .ok (.imul, 1) := by decide +kernel
theorem zd_Mo_place_17 : decode zc_Mo_place 17 = .ok (.iadd, 1) := by decide +kernel
theorem zd_Mo_place_18 : decode zc_Mo_place 18 = .ok (.iload_n 3, 1) := by decide +kernel
theorem zd_Mo_place_19 : decode zc_Mo_place 19 = .ok (.iadd, 1) := by decide +kernel
theorem zd_Mo_place_20 : decode zc_Mo_place 20 = .ok (.ireturn, 1) := by decide +kernel
theorem zd_Mo_has_0 : decode zc_Mo_has 0 = .ok (.aload_n 0, 1) := by decide +kernel
theorem zd_Mo_has_1 : decode zc_Mo_has 1 = .ok (.getfield 41, 3) := by decide +kernel
theorem zd_Mo_has_4 : decode zc_Mo_has 4 = .ok (.aload_n 0, 1) := by decide +kernel
theorem zd_Mo_has_5 : decode zc_Mo_has 5 = .ok (.iload_n 1, 1) := by decide +kernel
theorem zd_Mo_has_6 : decode zc_Mo_has 6 = .ok (.iload_n 2, 1) := by decide +kernel
theorem zd_Mo_has_7 : decode zc_Mo_has 7 = .ok (.iload_n 3, 1) := by decide +kernel
theorem zd_Mo_has_8 : decode zc_Mo_has 8 = .ok (.invokevirtual 121, 3) := by decide +kernel
theorem zd_Mo_has_11 : decode zc_Mo_has 11 = .ok (.iaload, 1) := by decide +kernel
theorem zd_Mo_has_12 : decode zc_Mo_has 12 = .ok (.iload 4, 2) := by decide +kernel
theorem zd_Mo_has_14 : decode zc_Mo_has 14 = .ok (.ishr, 1) := by decide +kernel
theorem zd_Mo_has_15 : decode zc_Mo_has 15 = .ok (.iconst 1, 1) := by decide +kernel
theorem zd_Mo_has_16 : decode zc_Mo_has 16 = .ok (.iand, 1) := by decide +kernel
theorem zd_Mo_has_17 : decode zc_Mo_has 17 = .ok (.iconst 1, 1) := by decide +kernel
theorem zd_Mo_has_18 : decode zc_Mo_has 18 = .ok (.if_icmp .ne 7, 3) := by decide +kernel
theorem zd_Mo_has_21 : decode zc_Mo_has 21 = .ok (.iconst 1, 1) := by decide +kernel
theorem zd_Mo_has_22 : decode zc_Mo_has 22 = .ok (.goto 4, 3) := by decide +kernel
theorem zd_Mo_has_25 : decode zc_Mo_has 25 = .ok (.iconst 0, 1) := by decide +kernel
theorem zd_Mo_has_26 : decode zc_Mo_has 26 = .ok (.ireturn, 1) := by decide +kernel
theorem zd_Mo_put_0 : decode zc_Mo_put 0 = .ok (.aload_n 0, 1) := by decide +kernel
theorem zd_Mo_put_1 : decode zc_Mo_put 1 = .ok (.iload_n 1, 1) := by decide +kernel
theorem zd_Mo_put_2 : decode zc_Mo_put 2 = .ok (.iload_n 2, 1) := by decide +kernel
theorem zd_Mo_put_3 : decode zc_Mo_put 3 = .ok (.iload_n 3, 1) := by decide +kernel
theorem zd_Mo_put_4 : decode zc_Mo_put 4 = .ok (.invokevirtual 121, 3) := by decide +kernel
theorem zd_Mo_put_7 : decode zc_Mo_put 7 = .ok (.istore 5, 2) := by decide +kernel
theorem zd_Mo_put_9 : decode zc_Mo_put 9 = .ok (.aload_n 0, 1) := by decide +kernel
theorem zd_Mo_put_10 : decode zc_Mo_put 10 = .ok (.getfield 41, 3) := by decide +kernel
theorem zd_Mo_put_13 : decode zc_Mo_put 13 = .ok (.iload 5, 2) := by decide +kernel
theorem zd_Mo_put_15 : decode zc_Mo_put 15 = .ok (.iaload, 1) := by decide +kernel
theorem zd_Mo_put_16 : decode zc_Mo_put 16 = .ok (.istore 6, 2) := by decide +kernel
theorem zd_Mo_put_18 : decode zc_Mo_put 18 = .ok (.aload_n 0, 1) := by decide +kernel
theorem zd_Mo_put_19 : decode zc_Mo_put 19 = .ok (.getfield 41, 3) := by decide +kernel
theorem zd_Mo_put_22 : decode zc_Mo_put 22 = .ok (.iload 5, 2) := by decide +kernel
theorem zd_Mo_put_24 : decode zc_Mo_put 24 = .ok (.iload 6, 2) := by decide +kernel
theorem zd_Mo_put_26 : decode zc_Mo_put 26 = .ok (.iconst 1, 1) := by decide +kernel
theorem zd_Mo_put_27 : decode zc_Mo_put 27 = .ok (.iload 4, 2) := by decide +kernel
theorem zd_Mo_put_29 : decode zc_Mo_put 29 = .ok (.ishl, 1) := by decide +kernel
theorem zd_Mo_put_30 : decode zc_Mo_put 30 = .ok (.ior, 1) := by decide +kernel
theorem zd_Mo_put_31 : decode zc_Mo_put 31 = .ok (.iastore, 1) := by decide +kernel
end
section
theorem zd_Mo_put_32 : decode zc_Mo_put 32 = .ok (.aload_n 0, 1) := by decide +kernel
theorem zd_Mo_put_33 : decode zc_Mo_put 33 = .ok (.getfield 41, 3) := by decide +kernel
theorem zd_Mo_put_36 : decode zc_Mo_put 36 = .ok (.iload 5, 2) := by decide +kernel
theorem zd_Mo_put_38 : decode zc_Mo_put 38 = .ok (.iaload, 1) := by decide +kernel
theorem zd_Mo_put_39 : decode zc_Mo_put 39 = .ok (.iload 6, 2) := by decide +kernel
theorem zd_Mo_put_41 : decode zc_Mo_put 41 = .ok (.if_icmp .eq 7, 3) := by decide +kernel
theorem zd_Mo_put_44 : decode zc_Mo_put 44 = .ok (.iconst 1, 1) := by decide +kernel
theorem zd_Mo_put_45 : decode zc_Mo_put 45 = .ok (.goto 4, 3) := by decide +kernel
theorem zd_Mo_put_48 : decode zc_Mo_put 48 = .ok (.iconst 0, 1) := by decide +kernel
theorem zd_Mo_put_49 : decode zc_Mo_put 49 = .ok (.ireturn, 1) := by decide +kernel
theorem zd_Mo_nodes_0 : decode zc_Mo_nodes 0 = .ok (.iconst 0, 1) := by decide +kernel
theorem zd_Mo_nodes_1 : decode zc_Mo_nodes 1 = .ok (.istore 5, 2) := by decide +kernel
theorem zd_Mo_nodes_3 : decode zc_Mo_nodes 3 = .ok (.iconst 0, 1) := by decide +kernel
theorem zd_Mo_nodes_4 : decode zc_Mo_nodes 4 = .ok (.istore 6, 2) := by decide +kernel
theorem zd_Mo_nodes_6 : decode zc_Mo_nodes 6 = .ok (.iload 6, 2) := by decide +kernel
theorem zd_Mo_nodes_8 : decode zc_Mo_nodes 8 = .ok (.iconst 5, 1) := by decide +kernel
theorem zd_Mo_nodes_9 : decode zc_Mo_nodes 9 = .ok (.if_icmp .ge 122, 3) := by decide +kernel
theorem zd_Mo_nodes_12 : decode zc_Mo_nodes 12 = .ok (.aload_n 0, 1) := by decide +kernel
theorem zd_Mo_nodes_13 : decode zc_Mo_nodes 13 = .ok (.iload_n 1, 1) := by decide +kernel
theorem zd_Mo_nodes_14 : decode zc_Mo_nodes 14 = .ok (.iload_n 2, 1) := by decide +kernel
theorem zd_Mo_nodes_15 : decode zc_Mo_nodes 15 = .ok (.iconst 1, 1) := by decide +kernel
theorem zd_Mo_nodes_16 : decode zc_Mo_nodes 16 = .ok (.iload_n 3, 1) := by decide +kernel
theorem zd_Mo_nodes_17 : decode zc_Mo_nodes 17 = .ok (.invokevirtual 125, 3) := by decide +kernel
theorem zd_Mo_nodes_20 : decode zc_Mo_nodes 20 = .ok (.ifCond .ne 19, 3) := by decide +kernel
theorem zd_Mo_nodes_23 : decode zc_Mo_nodes 23 = .ok (.iload 4, 2) := by decide +kernel
theorem zd_Mo_nodes_25 : decode zc_Mo_nodes 25 = .ok (.ifCond .ne 18, 3) := by decide +kernel
theorem zd_Mo_nodes_28 : decode zc_Mo_nodes 28 = .ok (.aload_n 0, 1) := by decide +kernel
theorem zd_Mo_nodes_29 : decode zc_Mo_nodes 29 = .ok (.iload_n 1, 1) := by decide +kernel
theorem zd_Mo_nodes_30 : decode zc_Mo_nodes 30 = .ok (.iload_n 2, 1) := by decide +kernel
theorem zd_Mo_nodes_31 : decode zc_Mo_nodes 31 = .ok (.iconst 0, 1) := by decide +kernel
theorem zd_Mo_nodes_32 : decode zc_Mo_nodes 32 = .ok (.iload_n 3, 1) := by decide +kernel
theorem zd_Mo_nodes_33 : decode zc_Mo_nodes 33 = .ok (.invokevirtual 125, 3) := by decide +kernel
theorem zd_Mo_nodes_36 : decode zc_Mo_nodes 36 = .ok (.ifCond .eq 7, 3) := by decide +kernel
theorem zd_Mo_nodes_39 : decode zc_Mo_nodes 39 = .ok (.iconst 1, 1) := by decide +kernel
theorem zd_Mo_nodes_40 : decode zc_Mo_nodes 40 = .ok (.goto 4, 3) := by decide +kernel
theorem zd_Mo_nodes_43 : decode zc_Mo_nodes 43 = .ok (.iconst 0, 1) := by decide +kernel
theorem zd_Mo_nodes_44 : decode zc_Mo_nodes 44 = .ok (.istore 7, 2) := by decide +kernel
theorem zd_Mo_nodes_46 : decode zc_Mo_nodes 46 = .ok (.aload_n 0, 1) := by decide +kernel
theorem zd_Mo_nodes_47 : decode zc_Mo_nodes 47 = .ok (.getfield 44, 3) := by decide +kernel
theorem zd_Mo_nodes_50 : decode zc_Mo_nodes 50 = .ok (.bipush 30, 2) := by decide +kernel
theorem zd_Mo_nodes_52 : decode zc_Mo_nodes 52 = .ok (.iload_n 1, 1) := by decide +kernel
theorem zd_Mo_nodes_53 : decode zc_Mo_nodes 53 = .ok (.imul, 1) := by decide +kernel
theorem zd_Mo_nodes_54 : decode zc_Mo_nodes 54 = .ok (.bipush 6, 2) := by decide +kernel
theorem zd_Mo_nodes_56 : decode zc_Mo_nodes 56 = .ok (.iload 6, 2) := by decide +kernel
theorem zd_Mo_nodes_58 : decode zc_Mo_nodes 58 = .ok (.imul, 1) := by decide +kernel
theorem zd_Mo_nodes_59 : decode zc_Mo_nodes 59 = .ok (.iadd, 1) := by decide +kernel
theorem zd_Mo_nodes_60 : decode zc_Mo_nodes 60 = .ok (.iconst 2, 1) := by decide +kernel
theorem zd_Mo_nodes_61 : decode zc_Mo_nodes 61 = .ok (.iload_n 2, 1) := by decide +kernel
theorem zd_Mo_nodes_62 : decode zc_Mo_nodes 62 = .ok (.imul, 1) := by decide +kernel
theorem zd_Mo_nodes_63 : decode zc_Mo_nodes 63 = .ok (.iadd, 1) := by decide +kernel
theorem zd_Mo_nodes_64 : decode zc_Mo_nodes 64 = .ok (.iload 4, 2) := by decide +kernel
theorem zd_Mo_nodes_66 : decode zc_Mo_nodes 66 = .ok (.ifCond .eq 7, 3) := by decide +kernel
theorem zd_Mo_nodes_69 : decode zc_Mo_nodes 69 = .ok (.iconst 1, 1) := by decide +kernel
theorem zd_Mo_nodes_70 : decode zc_Mo_nodes 70 = .ok (.goto 4, 3) := by decide +kernel
theorem zd_Mo_nodes_73 : decode zc_Mo_nodes 73 = .ok (.iconst 0, 1) := by decide +kernel
theorem zd_Mo_nodes_74 : decode zc_Mo_nodes 74 = .ok (.iadd, 1) := by decide +kernel
theorem zd_Mo_nodes_75 : decode zc_Mo_nodes 75 = .ok (.iaload, 1) := by decide +kernel
theorem zd_Mo_nodes_76 : decode zc_Mo_nodes 76 = .ok (.istore 8, 2) := by decide +kernel
theorem zd_Mo_nodes_78 : decode zc_Mo_nodes 78 = .ok (.iload 6, 2) := by decide +kernel
theorem zd_Mo_nodes_80 : decode zc_Mo_nodes 80 = .ok (.iload_n 1, 1) := by decide +kernel
theorem zd_Mo_nodes_81 : decode zc_Mo_nodes 81 = .ok (.if_icmp .ne 8, 3) := by decide +kernel
theorem zd_Mo_nodes_84 : decode zc_Mo_nodes 84 = .ok (.iload 7, 2) := by decide +kernel
theorem zd_Mo_nodes_86 : decode zc_Mo_nodes 86 = .ok (.goto 18, 3) := by decide +kernel
theorem zd_Mo_nodes_89 : decode zc_Mo_nodes 89 = .ok (.iload 8, 2) := by decide +kernel
theorem zd_Mo_nodes_91 : decode zc_Mo_nodes 91 = .ok (.iload_n 3, 1) := by decide +kernel
theorem zd_Mo_nodes_92 : decode zc_Mo_nodes 92 = .ok (.ishr, 1) := by decide +kernel
theorem zd_Mo_nodes_93 : decode zc_Mo_nodes 93 = .ok (.iconst 1, 1) := by decide +kernel
theorem zd_Mo_nodes_94 : decode zc_Mo_nodes 94 = .ok (.iand, 1) := by decide +kernel
theorem zd_Mo_nodes_95 : decode zc_Mo_nodes 95 = .ok (.iconst 1, 1) := by decide +kernel
theorem zd_Mo_nodes_96 : decode zc_Mo_nodes 96 = .ok (.if_icmp .ne 7, 3) := by decide +kernel
theorem zd_Mo_nodes_99 : decode zc_Mo_nodes 99 = .ok (.iconst 1, 1) := by decide +kernel
theorem zd_Mo_nodes_100 : decode zc_Mo_nodes 100 = .ok (.goto 4, 3) := by decide +kernel
theorem zd_Mo_nodes_103 : decode zc_Mo_nodes 103 = .ok (.iconst 0, 1) := by decide +kernel
theorem zd_Mo_nodes_104 : decode zc_Mo_nodes 104 = .ok (.istore 9, 2) := by decide +kernel
theorem zd_Mo_nodes_106 : decode zc_Mo_nodes 106 = .ok (.iload 9, 2) := by decide +kernel
theorem zd_Mo_nodes_108 : decode zc_Mo_nodes 108 = .ok (.ifCond .eq 13, 3) := by decide +kernel
theorem zd_Mo_nodes_111 : decode zc_Mo_nodes 111 = .ok (.iload 5, 2) := by decide +kernel
theorem zd_Mo_nodes_113 : decode zc_Mo_nodes 113 = .ok (.iconst 1, 1) := by decide +kernel
theorem zd_Mo_nodes_114 : decode zc_Mo_nodes 114 = .ok (.iload 6, 2) := by decide +kernel
theorem zd_Mo_nodes_116 : decode zc_Mo_nodes 116 = .ok (.ishl, 1) := by decide +kernel
theorem zd_Mo_nodes_117 : decode zc_Mo_nodes 117 = .ok (.ior, 1) := by decide +kernel
theorem zd_Mo_nodes_118 : decode zc_Mo_nodes 118 = .ok (.goto 5, 3) := by decide +kernel
theorem zd_Mo_nodes_121 : decode zc_Mo_nodes 121 = .ok (.iload 5, 2) := by decide +kernel
theorem zd_Mo_nodes_123 : decode zc_Mo_nodes 123 = .ok (.istore 5, 2) := by decide +kernel
theorem zd_Mo_nodes_125 : decode zc_Mo_nodes 125 = .ok (.iinc 6 1, 3) := by decide +kernel
theorem zd_Mo_nodes_128 : decode zc_Mo_nodes 128 = .ok (.goto (-122), 3) := by decide +kernel
theorem zd_Mo_nodes_131 : decode zc_Mo_nodes 131 = .ok (.iload 5, 2) := by decide +kernel
theorem zd_Mo_nodes_133 : decode zc_Mo_nodes 133 = .ok (.ireturn, 1) := by decide +kernel
theorem zd_Mo_worth_0 : decode zc_Mo_worth 0 = .ok (.iload_n 0, 1) := by decide +kernel
theorem zd_Mo_worth_1 : decode zc_Mo_worth 1 = .ok (.bipush 7, 2) := by decide +kernel
theorem zd_Mo_worth_3 : decode zc_Mo_worth 3 = .ok (.irem, 1) := by decide +kernel
theorem zd_Mo_worth_4 : decode zc_Mo_worth 4 = .ok (.iconst 1, 1) := by decide +kernel
theorem zd_Mo_worth_5 : decode zc_Mo_worth 5 = .ok (.iadd, 1) := by decide +kernel
theorem zd_Mo_worth_6 : decode zc_Mo_worth 6 = .ok (.ireturn, 1) := by decide +kernel
theorem zd_Mo_aborts_0 : decode zc_Mo_aborts 0 = .ok (.iload_n 1, 1) := by decide +kernel
theorem zd_Mo_aborts_1 : decode zc_Mo_aborts 1 = .ok (.iload_n 0, 1) := by decide +kernel
theorem zd_Mo_aborts_2 : decode zc_Mo_aborts 2 = .ok (.if_icmp .ge 18, 3) := by decide +kernel
theorem zd_Mo_aborts_5 : decode zc_Mo_aborts 5 = .ok (.iload_n 1, 1) := by decide +kernel
theorem zd_Mo_aborts_6 : decode zc_Mo_aborts 6 = .ok (.invokestatic 129, 3) := by decide +kernel
theorem zd_Mo_aborts_9 : decode zc_Mo_aborts 9 = .ok (.iload_n 0, 1) := by decide +kernel
theorem zd_Mo_aborts_10 : decode zc_Mo_aborts 10 = .ok (.invokestatic 129, 3) := by decide +kernel
theorem zd_Mo_aborts_13 : decode zc_Mo_aborts 13 = .ok (.if_icmp .eq 7, 3) := by decide +kernel
theorem zd_Mo_aborts_16 : decode zc_Mo_aborts 16 = .ok (.iconst 1, 1) := by decide +kernel
theorem zd_Mo_aborts_17 : decode zc_Mo_aborts 17 = .ok (.goto 4, 3) := by decide +kernel
theorem zd_Mo_aborts_20 : decode zc_Mo_aborts 20 = .ok (.iconst 0, 1) := by decide +kernel
theorem zd_Mo_aborts_21 : decode zc_Mo_aborts 21 = .ok (.ireturn, 1) := by decide +kernel
theorem zd_Mo_clash_0 : decode zc_Mo_clash 0 = .ok (.iconst 0, 1) := by decide +kernel
theorem zd_Mo_clash_1 : decode zc_Mo_clash 1 = .ok (.istore 6, 2) := by decide +kernel
theorem zd_Mo_clash_3 : decode zc_Mo_clash 3 = .ok (.iload 6, 2) := by decide +kernel
theorem zd_Mo_clash_5 : decode zc_Mo_clash 5 = .ok (.bipush 28, 2) := by decide +kernel
theorem zd_Mo_clash_7 : decode zc_Mo_clash 7 = .ok (.if_icmp .ge 52, 3) := by decide +kernel
theorem zd_Mo_clash_10 : decode zc_Mo_clash 10 = .ok (.iload 5, 2) := by decide +kernel
theorem zd_Mo_clash_12 : decode zc_Mo_clash 12 = .ok (.ifCond .eq 13, 3) := by decide +kernel
theorem zd_Mo_clash_15 : decode zc_Mo_clash 15 = .ok (.iload 6, 2) := by decide +kernel
theorem zd_Mo_clash_17 : decode zc_Mo_clash 17 = .ok (.iload 4, 2) := by decide +kernel
theorem zd_Mo_clash_19 : decode zc_Mo_clash 19 = .ok (.invokestatic 132, 3) := by decide +kernel
theorem zd_Mo_clash_22 : decode zc_Mo_clash 22 = .ok (.goto 10, 3) := by decide +kernel
theorem zd_Mo_clash_25 : decode zc_Mo_clash 25 = .ok (.iload 4, 2) := by decide +kernel
theorem zd_Mo_clash_27 : decode zc_Mo_clash 27 = .ok (.iload 6, 2) := by decide +kernel
theorem zd_Mo_clash_29 : decode zc_Mo_clash 29 = .ok (.invokestatic 132, 3) := by decide +kernel
theorem zd_Mo_clash_32 : decode zc_Mo_clash 32 = .ok (.istore 7, 2) := by decide +kernel
theorem zd_Mo_clash_34 : decode zc_Mo_clash 34 = .ok (.iload 7, 2) := by decide +kernel
theorem zd_Mo_clash_36 : decode zc_Mo_clash 36 = .ok (.ifCond .eq 17, 3) := by decide +kernel
theorem zd_Mo_clash_39 : decode zc_Mo_clash 39 = .ok (.aload_n 0, 1) := by decide +kernel
theorem zd_Mo_clash_40 : decode zc_Mo_clash 40 = .ok (.iload_n 1, 1) := by decide +kernel
theorem zd_Mo_clash_41 : decode zc_Mo_clash 41 = .ok (.iload_n 2, 1) := by decide +kernel
theorem zd_Mo_clash_42 : decode zc_Mo_clash 42 = .ok (.iload_n 3, 1) := by decide +kernel
theorem zd_Mo_clash_43 : decode zc_Mo_clash 43 = .ok (.iload 6, 2) := by decide +kernel
theorem zd_Mo_clash_45 : decode zc_Mo_clash 45 = .ok (.invokevirtual 125, 3) := by decide +kernel
theorem zd_Mo_clash_48 : decode zc_Mo_clash 48 = .ok (.ifCond .eq 5, 3) := by decide +kernel
theorem zd_Mo_clash_51 : decode zc_Mo_clash 51 = .ok (.iconst 1, 1) := by decide +kernel
theorem zd_Mo_clash_52 : decode zc_Mo_clash 52 = .ok (.ireturn, 1) := by decide +kernel
theorem zd_Mo_clash_53 : decode zc_Mo_clash 53 = .ok (.iinc 6 1, 3) := by decide +kernel
theorem zd_Mo_clash_56 : decode zc_Mo_clash 56 = .ok (.goto (-53), 3) := by decide +kernel
theorem zd_Mo_clash_59 : decode zc_Mo_clash 59 = .ok (.iconst 0, 1) := by decide +kernel
theorem zd_Mo_clash_60 : decode zc_Mo_clash 60 = .ok (.ireturn, 1) := by decide +kernel
theorem zd_Mo_mayAccept_0 : decode zc_Mo_mayAccept 0 = .ok (.iload_n 2, 1) := by decide +kernel
theorem zd_Mo_mayAccept_1 : decode zc_Mo_mayAccept 1 = .ok (.iconst 1, 1) := by decide +kernel
theorem zd_Mo_mayAccept_2 : decode zc_Mo_mayAccept 2 = .ok (.if_icmp .ne 15, 3) := by decide +kernel
theorem zd_Mo_mayAccept_5 : decode zc_Mo_mayAccept 5 = .ok (.aload_n 0, 1) := by decide +kernel
theorem zd_Mo_mayAccept_6 : decode zc_Mo_mayAccept 6 = .ok (.iload_n 1, 1) := by decide +kernel
theorem zd_Mo_mayAccept_7 : decode zc_Mo_mayAccept 7 = .ok (.iconst 2, 1) := by decide +kernel
theorem zd_Mo_mayAccept_8 : decode zc_Mo_mayAccept 8 = .ok (.iconst 1, 1) := by decide +kernel
theorem zd_Mo_mayAccept_9 : decode zc_Mo_mayAccept 9 = .ok (.iload_n 3, 1) := by decide +kernel
theorem zd_Mo_mayAccept_10 : decode zc_Mo_mayAccept 10 = .ok (.iconst 0, 1) := by decide +kernel
theorem zd_Mo_mayAccept_11 : decode zc_Mo_mayAccept 11 = .ok (.invokevirtual 135, 3) := by decide +kernel
theorem zd_Mo_mayAccept_14 : decode zc_Mo_mayAccept 14 = .ok (.ifCond .ne 20, 3) := by decide +kernel
theorem zd_Mo_mayAccept_17 : decode zc_Mo_mayAccept 17 = .ok (.iload_n 2, 1) := by decide +kernel
theorem zd_Mo_mayAccept_18 : decode zc_Mo_mayAccept 18 = .ok (.iconst 2, 1) := by decide +kernel
theorem zd_Mo_mayAccept_19 : decode zc_Mo_mayAccept 19 = .ok (.if_icmp .ne 17, 3) := by decide +kernel
theorem zd_Mo_mayAccept_22 : decode zc_Mo_mayAccept 22 = .ok (.aload_n 0, 1) := by decide +kernel
theorem zd_Mo_mayAccept_23 : decode zc_Mo_mayAccept 23 = .ok (.iload_n 1, 1) := by decide +kernel
theorem zd_Mo_mayAccept_24 : decode zc_Mo_mayAccept 24 = .ok (.iconst 1, 1) := by decide +kernel
theorem zd_Mo_mayAccept_25 : decode zc_Mo_mayAccept 25 = .ok (.iconst 1, 1) := by decide +kernel
theorem zd_Mo_mayAccept_26 : decode zc_Mo_mayAccept 26 = .ok (.iload_n 3, 1) := by decide +kernel
theorem zd_Mo_mayAccept_27 : decode zc_Mo_mayAccept 27 = .ok (.iconst 1, 1) := by decide +kernel
theorem zd_Mo_mayAccept_28 : decode zc_Mo_mayAccept 28 = .ok (.invokevirtual 135, 3) := by decide +kernel
theorem zd_Mo_mayAccept_31 : decode zc_Mo_mayAccept 31 = .ok (.ifCond .eq 5, 3) := by decide +kernel
theorem zd_Mo_mayAccept_34 : decode zc_Mo_mayAccept 34 = .ok (.iconst 0, 1) := by decide +kernel
theorem zd_Mo_mayAccept_35 : decode zc_Mo_mayAccept 35 = .ok (.ireturn, 1) := by decide +kernel
theorem zd_Mo_mayAccept_36 : decode zc_Mo_mayAccept 36 = .ok (.aload_n 0, 1) := by decide +kernel
theorem zd_Mo_mayAccept_37 : decode zc_Mo_mayAccept 37 = .ok (.iload_n 1, 1) := by decide +kernel
theorem zd_Mo_mayAccept_38 : decode zc_Mo_mayAccept 38 = .ok (.iload_n 2, 1) := by decide +kernel
theorem zd_Mo_mayAccept_39 : decode zc_Mo_mayAccept 39 = .ok (.iload_n 3, 1) := by decide +kernel
theorem zd_Mo_mayAccept_40 : decode zc_Mo_mayAccept 40 = .ok (.iconst 0, 1) := by decide +kernel
theorem zd_Mo_mayAccept_41 : decode zc_Mo_mayAccept 41 = .ok (.invokevirtual 139, 3) := by decide +kernel
theorem zd_Mo_mayAccept_44 : decode zc_Mo_mayAccept 44 = .ok (.istore 4, 2) := by decide +kernel
theorem zd_Mo_mayAccept_46 : decode zc_Mo_mayAccept 46 = .ok (.aload_n 0, 1) := by decide +kernel
theorem zd_Mo_mayAccept_47 : decode zc_Mo_mayAccept 47 = .ok (.iload_n 1, 1) := by decide +kernel
theorem zd_Mo_mayAccept_48 : decode zc_Mo_mayAccept 48 = .ok (.iload_n 2, 1) := by decide +kernel
theorem zd_Mo_mayAccept_49 : decode zc_Mo_mayAccept 49 = .ok (.iload_n 3, 1) := by decide +kernel
theorem zd_Mo_mayAccept_50 : decode zc_Mo_mayAccept 50 = .ok (.iconst 1, 1) := by decide +kernel
theorem zd_Mo_mayAccept_51 : decode zc_Mo_mayAccept 51 = .ok (.invokevirtual 139, 3) := by decide +kernel
theorem zd_Mo_mayAccept_54 : decode zc_Mo_mayAccept 54 = .ok (.istore 5, 2) := by decide +kernel
theorem zd_Mo_mayAccept_56 : decode zc_Mo_mayAccept 56 = .ok (.aload_n 0, 1) := by decide +kernel
theorem zd_Mo_mayAccept_57 : decode zc_Mo_mayAccept 57 = .ok (.bipush 31, 2) := by decide +kernel
theorem zd_Mo_mayAccept_59 : decode zc_Mo_mayAccept 59 = .ok (.iload 5, 2) := by decide +kernel
theorem zd_Mo_mayAccept_61 : decode zc_Mo_mayAccept 61 = .ok (.iconst (-1), 1) := by decide +kernel
theorem zd_Mo_mayAccept_62 : decode zc_Mo_mayAccept 62 = .ok (.ixor, 1) := by decide +kernel
theorem zd_Mo_mayAccept_63 : decode zc_Mo_mayAccept 63 = .ok (.iand, 1) := by decide +kernel
theorem zd_Mo_mayAccept_64 : decode zc_Mo_mayAccept 64 = .ok (.iload_n 1, 1) := by decide +kernel
theorem zd_Mo_mayAccept_65 : decode zc_Mo_mayAccept 65 = .ok (.invokevirtual 113, 3) := by decide +kernel
theorem zd_Mo_mayAccept_68 : decode zc_Mo_mayAccept 68 = .ok (.ifCond .ne 7, 3) := by decide +kernel
theorem zd_Mo_mayAccept_71 : decode zc_Mo_mayAccept 71 = .ok (.iconst 1, 1) := by decide +kernel
theorem zd_Mo_mayAccept_72 : decode zc_Mo_mayAccept 72 = .ok (.goto 4, 3) := by decide +kernel
theorem zd_Mo_mayAccept_75 : decode zc_Mo_mayAccept 75 = .ok (.iconst 0, 1) := by decide +kernel
theorem zd_Mo_mayAccept_76 : decode zc_Mo_mayAccept 76 = .ok (.istore 6, 2) := by decide +kernel
theorem zd_Mo_mayAccept_78 : decode zc_Mo_mayAccept 78 = .ok (.iload 6, 2) := by decide +kernel
theorem zd_Mo_mayAccept_80 : decode zc_Mo_mayAccept 80 = .ok (.ifCond .ne 13, 3) := by decide +kernel
theorem zd_Mo_mayAccept_83 : decode zc_Mo_mayAccept 83 = .ok (.aload_n 0, 1) := by decide +kernel
theorem zd_Mo_mayAccept_84 : decode zc_Mo_mayAccept 84 = .ok (.iload 4, 2) := by decide +kernel
theorem zd_Mo_mayAccept_86 : decode zc_Mo_mayAccept 86 = .ok (.iload_n 1, 1) := by decide +kernel
theorem zd_Mo_mayAccept_87 : decode zc_Mo_mayAccept 87 = .ok (.invokevirtual 143, 3) := by decide +kernel
theorem zd_Mo_mayAccept_90 : decode zc_Mo_mayAccept 90 = .ok (.ifCond .eq 7, 3) := by decide +kernel
theorem zd_Mo_mayAccept_93 : decode zc_Mo_mayAccept 93 = .ok (.iconst 1, 1) := by decide +kernel
theorem zd_Mo_mayAccept_94 : decode zc_Mo_mayAccept 94 = .ok (.goto 4, 3) := by decide +kernel
theorem zd_Mo_mayAccept_97 : decode zc_Mo_mayAccept 97 = .ok (.iconst 0, 1) := by decide +kernel
theorem zd_Mo_mayAccept_98 : decode zc_Mo_mayAccept 98 = .ok (.ireturn, 1) := by decide +kernel
theorem zd_Mo_mayConfirm_0 : decode zc_Mo_mayConfirm 0 = .ok (.aload_n 0, 1) := by decide +kernel
theorem zd_Mo_mayConfirm_1 : decode zc_Mo_mayConfirm 1 = .ok (.iload_n 1, 1) := by decide +kernel
theorem zd_Mo_mayConfirm_2 : decode zc_Mo_mayConfirm 2 = .ok (.iload_n 2, 1) := by decide +kernel
theorem zd_Mo_mayConfirm_3 : decode zc_Mo_mayConfirm 3 = .ok (.iload_n 3, 1) := by decide +kernel
theorem zd_Mo_mayConfirm_4 : decode zc_Mo_mayConfirm 4 = .ok (.iconst 1, 1) := by decide +kernel
theorem zd_Mo_mayConfirm_5 : decode zc_Mo_mayConfirm 5 = .ok (.invokevirtual 139, 3) := by decide +kernel
theorem zd_Mo_mayConfirm_8 : decode zc_Mo_mayConfirm 8 = .ok (.istore 4, 2) := by decide +kernel
theorem zd_Mo_mayConfirm_10 : decode zc_Mo_mayConfirm 10 = .ok (.aload_n 0, 1) := by decide +kernel
theorem zd_Mo_mayConfirm_11 : decode zc_Mo_mayConfirm 11 = .ok (.iload 4, 2) := by decide +kernel
theorem zd_Mo_mayConfirm_13 : decode zc_Mo_mayConfirm 13 = .ok (.iload_n 1, 1) := by decide +kernel
theorem zd_Mo_mayConfirm_14 : decode zc_Mo_mayConfirm 14 = .ok (.invokevirtual 143, 3) := by decide +kernel
theorem zd_Mo_mayConfirm_17 : decode zc_Mo_mayConfirm 17 = .ok (.ireturn, 1) := by decide +kernel
theorem zd_Mo_composite_0 : decode zc_Mo_composite 0 = .ok (.iconst 0, 1) := by decide +kernel
theorem zd_Mo_composite_1 : decode zc_Mo_composite 1 = .ok (.istore_n 2, 1) := by decide +kernel
theorem zd_Mo_composite_2 : decode zc_Mo_composite 2 = .ok (.iconst 1, 1) := by decide +kernel
theorem zd_Mo_composite_3 : decode zc_Mo_composite 3 = .ok (.istore_n 3, 1) := by decide +kernel
theorem zd_Mo_composite_4 : decode zc_Mo_composite 4 = .ok (.iload_n 3, 1) := by decide +kernel
theorem zd_Mo_composite_5 : decode zc_Mo_composite 5 = .ok (.bipush 8, 2) := by decide +kernel
theorem zd_Mo_composite_7 : decode zc_Mo_composite 7 = .ok (.if_icmp .ge 28, 3) := by decide +kernel
theorem zd_Mo_composite_10 : decode zc_Mo_composite 10 = .ok (.aload_n 0, 1) := by decide +kernel
theorem zd_Mo_composite_11 : decode zc_Mo_composite 11 = .ok (.iload_n 1, 1) := by decide +kernel
theorem zd_Mo_composite_12 : decode zc_Mo_composite 12 = .ok (.iconst 0, 1) := by decide +kernel
theorem zd_Mo_composite_13 : decode zc_Mo_composite 13 = .ok (.iconst 2, 1) := by decide +kernel
theorem zd_Mo_composite_14 : decode zc_Mo_composite 14 = .ok (.iload_n 3, 1) := by decide +kernel
theorem zd_Mo_composite_15 : decode zc_Mo_composite 15 = .ok (.invokevirtual 125, 3) := by decide +kernel
theorem zd_Mo_composite_18 : decode zc_Mo_composite 18 = .ok (.ifCond .eq 9, 3) := by decide +kernel
theorem zd_Mo_composite_21 : decode zc_Mo_composite 21 = .ok (.iload_n 2, 1) := by decide +kernel
theorem zd_Mo_composite_22 : decode zc_Mo_composite 22 = .ok (.iload_n 3, 1) := by decide +kernel
theorem zd_Mo_composite_23 : decode zc_Mo_composite 23 = .ok (.ior, 1) := by decide +kernel
theorem zd_Mo_composite_24 : decode zc_Mo_composite 24 = .ok (.goto 4, 3) := by decide +kernel
theorem zd_Mo_composite_27 : decode zc_Mo_composite 27 = .ok (.iload_n 2, 1) := by decide +kernel
theorem zd_Mo_composite_28 : decode zc_Mo_composite 28 = .ok (.istore_n 2, 1) := by decide +kernel
theorem zd_Mo_composite_29 : decode zc_Mo_composite 29 = .ok (.iinc 3 1, 3) := by decide +kernel
theorem zd_Mo_composite_32 : decode zc_Mo_composite 32 = .ok (.goto (-28), 3) := by decide +kernel
theorem zd_Mo_composite_35 : decode zc_Mo_composite 35 = .ok (.iload_n 2, 1) := by decide +kernel
theorem zd_Mo_composite_36 : decode zc_Mo_composite 36 = .ok (.ireturn, 1) := by decide +kernel
theorem zd_Mo_toPrepare_0 : decode zc_Mo_toPrepare 0 = .ok (.bipush 27, 2) := by decide +kernel
theorem zd_Mo_toPrepare_2 : decode zc_Mo_toPrepare 2 = .ok (.istore_n 2, 1) := by decide +kernel
theorem zd_Mo_toPrepare_3 : decode zc_Mo_toPrepare 3 = .ok (.iload_n 2, 1) := by decide +kernel
theorem zd_Mo_toPrepare_4 : decode zc_Mo_toPrepare 4 = .ok (.ifCond .lt 25, 3) := by decide +kernel
theorem zd_Mo_toPrepare_7 : decode zc_Mo_toPrepare 7 = .ok (.aload_n 0, 1) := by decide +kernel
theorem zd_Mo_toPrepare_8 : decode zc_Mo_toPrepare 8 = .ok (.iload_n 1, 1) := by decide +kernel
theorem zd_Mo_toPrepare_9 : decode zc_Mo_toPrepare 9 = .ok (.iconst 1, 1) := by decide +kernel
theorem zd_Mo_toPrepare_10 : decode zc_Mo_toPrepare 10 = .ok (.iconst 2, 1) := by decide +kernel
theorem zd_Mo_toPrepare_11 : decode zc_Mo_toPrepare 11 = .ok (.iload_n 2, 1) := by decide +kernel
theorem zd_Mo_toPrepare_12 : decode zc_Mo_toPrepare 12 = .ok (.invokevirtual 125, 3) := by decide +kernel
theorem zd_Mo_toPrepare_15 : decode zc_Mo_toPrepare 15 = .ok (.ifCond .eq 8, 3) := by decide +kernel
theorem zd_Mo_toPrepare_18 : decode zc_Mo_toPrepare 18 = .ok (.iload_n 2, 1) := by decide +kernel
theorem zd_Mo_toPrepare_19 : decode zc_Mo_toPrepare 19 = .ok (.invokestatic 129, 3) := by decide +kernel
theorem zd_Mo_toPrepare_22 : decode zc_Mo_toPrepare 22 = .ok (.ireturn, 1) := by decide +kernel
theorem zd_Mo_toPrepare_23 : decode zc_Mo_toPrepare 23 = .ok (.iinc 2 (-1), 3) := by decide +kernel
theorem zd_Mo_toPrepare_26 : decode zc_Mo_toPrepare 26 = .ok (.goto (-23), 3) := by decide +kernel
theorem zd_Mo_toPrepare_29 : decode zc_Mo_toPrepare 29 = .ok (.aload_n 0, 1) := by decide +kernel
theorem zd_Mo_toPrepare_30 : decode zc_Mo_toPrepare 30 = .ok (.iload_n 1, 1) := by decide +kernel
theorem zd_Mo_toPrepare_31 : decode zc_Mo_toPrepare 31 = .ok (.invokevirtual 146, 3) := by decide +kernel
theorem zd_Mo_toPrepare_34 : decode zc_Mo_toPrepare 34 = .ok (.ireturn, 1) := by decide +kernel
theorem zd_Mo_votePrepare_0 : decode zc_Mo_votePrepare 0 = .ok (.aload_n 0, 1) := by decide +kernel
theorem zd_Mo_votePrepare_1 : decode zc_Mo_votePrepare 1 = .ok (.iload_n 1, 1) := by decide +kernel
theorem zd_Mo_votePrepare_2 : decode zc_Mo_votePrepare 2 = .ok (.invokevirtual 149, 3) := by decide +kernel
theorem zd_Mo_votePrepare_5 : decode zc_Mo_votePrepare 5 = .ok (.istore_n 2, 1) := by decide +kernel
theorem zd_Mo_votePrepare_6 : decode zc_Mo_votePrepare 6 = .ok (.aload_n 0, 1) := by decide +kernel
theorem zd_Mo_votePrepare_7 : decode zc_Mo_votePrepare 7 = .ok (.iload_n 1, 1) := by decide +kernel
theorem zd_Mo_votePrepare_8 : decode zc_Mo_votePrepare 8 = .ok (.iconst 1, 1) := by decide +kernel
theorem zd_Mo_votePrepare_9 : decode zc_Mo_votePrepare 9 = .ok (.iconst 0, 1) := by decide +kernel
theorem zd_Mo_votePrepare_10 : decode zc_Mo_votePrepare 10 = .ok (.bipush 7, 2) := by decide +kernel
theorem zd_Mo_votePrepare_12 : decode zc_Mo_votePrepare 12 = .ok (.aload_n 0, 1) := by decide +kernel
theorem zd_Mo_votePrepare_13 : decode zc_Mo_votePrepare 13 = .ok (.getfield 35, 3) := by decide +kernel
theorem zd_Mo_votePrepare_16 : decode zc_Mo_votePrepare 16 = .ok (.iload_n 1, 1) := by decide +kernel
theorem zd_Mo_votePrepare_17 : decode zc_Mo_votePrepare 17 = .ok (.iaload, 1) := by decide +kernel
theorem zd_Mo_votePrepare_18 : decode zc_Mo_votePrepare 18 = .ok (.iconst 1, 1) := by decide +kernel
theorem zd_Mo_votePrepare_19 : decode zc_Mo_votePrepare 19 = .ok (.isub, 1) := by decide +kernel
theorem zd_Mo_votePrepare_20 : decode zc_Mo_votePrepare 20 = .ok (.imul, 1) := by decide +kernel
theorem zd_Mo_votePrepare_21 : decode zc_Mo_votePrepare 21 = .ok (.iload_n 2, 1) := by decide +kernel
theorem zd_Mo_votePrepare_22 : decode zc_Mo_votePrepare 22 = .ok (.iadd, 1) := by decide +kernel
theorem zd_Mo_votePrepare_23 : decode zc_Mo_votePrepare 23 = .ok (.iconst 1, 1) := by decide +kernel
theorem zd_Mo_votePrepare_24 : decode zc_Mo_votePrepare 24 = .ok (.isub, 1) := by decide +kernel
theorem zd_Mo_votePrepare_25 : decode zc_Mo_votePrepare 25 = .ok (.invokevirtual 152, 3) := by decide +kernel
theorem zd_Mo_votePrepare_28 : decode zc_Mo_votePrepare 28 = .ok (.ireturn, 1) := by decide +kernel
theorem zd_Mo_ruleA_0 : decode zc_Mo_ruleA 0 = .ok (.iconst 0, 1) := by decide +kernel
theorem zd_Mo_ruleA_1 : decode zc_Mo_ruleA 1 = .ok (.istore_n 2, 1) := by decide +kernel
theorem zd_Mo_ruleA_2 : decode zc_Mo_ruleA 2 = .ok (.aload_n 0, 1) := by decide +kernel
theorem zd_Mo_ruleA_3 : decode zc_Mo_ruleA 3 = .ok (.getfield 41, 3) := by decide +kernel
theorem zd_Mo_ruleA_6 : decode zc_Mo_ruleA 6 = .ok (.aload_n 0, 1) := by decide +kernel
theorem zd_Mo_ruleA_7 : decode zc_Mo_ruleA 7 = .ok (.iload_n 1, 1) := by decide +kernel
theorem zd_Mo_ruleA_8 : decode zc_Mo_ruleA 8 = .ok (.iconst 0, 1) := by decide +kernel
theorem zd_Mo_ruleA_9 : decode zc_Mo_ruleA 9 = .ok (.iconst 2, 1) := by decide +kernel
theorem zd_Mo_ruleA_10 : decode zc_Mo_ruleA 10 = .ok (.invokevirtual 121, 3) := by decide +kernel
theorem zd_Mo_ruleA_13 : decode zc_Mo_ruleA 13 = .ok (.iaload, 1) := by decide +kernel
theorem zd_Mo_ruleA_14 : decode zc_Mo_ruleA 14 = .ok (.ifCond .eq 5, 3) := by decide +kernel
theorem zd_Mo_ruleA_17 : decode zc_Mo_ruleA 17 = .ok (.iconst 0, 1) := by decide +kernel
theorem zd_Mo_ruleA_18 : decode zc_Mo_ruleA 18 = .ok (.ireturn, 1) := by decide +kernel
theorem zd_Mo_ruleA_19 : decode zc_Mo_ruleA 19 = .ok (.iconst 1, 1) := by decide +kernel
theorem zd_Mo_ruleA_20 : decode zc_Mo_ruleA 20 = .ok (.istore_n 3, 1) := by decide +kernel
theorem zd_Mo_ruleA_21 : decode zc_Mo_ruleA 21 = .ok (.iload_n 3, 1) := by decide +kernel
theorem zd_Mo_ruleA_22 : decode zc_Mo_ruleA 22 = .ok (.bipush 8, 2) := by decide +kernel
theorem zd_Mo_ruleA_24 : decode zc_Mo_ruleA 24 = .ok (.if_icmp .ge 88, 3) := by decide +kernel
theorem zd_Mo_ruleA_27 : decode zc_Mo_ruleA 27 = .ok (.aload_n 0, 1) := by decide +kernel
theorem zd_Mo_ruleA_28 : decode zc_Mo_ruleA 28 = .ok (.iload_n 1, 1) := by decide +kernel
theorem zd_Mo_ruleA_29 : decode zc_Mo_ruleA 29 = .ok (.iconst 0, 1) := by decide +kernel
theorem zd_Mo_ruleA_30 : decode zc_Mo_ruleA 30 = .ok (.iload_n 3, 1) := by decide +kernel
theorem zd_Mo_ruleA_31 : decode zc_Mo_ruleA 31 = .ok (.iconst 0, 1) := by decide +kernel
theorem zd_Mo_ruleA_32 : decode zc_Mo_ruleA 32 = .ok (.invokevirtual 139, 3) := by decide +kernel
theorem zd_Mo_ruleA_35 : decode zc_Mo_ruleA 35 = .ok (.istore 4, 2) := by decide +kernel
theorem zd_Mo_ruleA_37 : decode zc_Mo_ruleA 37 = .ok (.aload_n 0, 1) := by decide +kernel
theorem zd_Mo_ruleA_38 : decode zc_Mo_ruleA 38 = .ok (.getfield 32, 3) := by decide +kernel
theorem zd_Mo_ruleA_41 : decode zc_Mo_ruleA 41 = .ok (.iload_n 1, 1) := by decide +kernel
theorem zd_Mo_ruleA_42 : decode zc_Mo_ruleA 42 = .ok (.iaload, 1) := by decide +kernel
theorem zd_Mo_ruleA_43 : decode zc_Mo_ruleA 43 = .ok (.iload_n 1, 1) := by decide +kernel
theorem zd_Mo_ruleA_44 : decode zc_Mo_ruleA 44 = .ok (.ishr, 1) := by decide +kernel
theorem zd_Mo_ruleA_45 : decode zc_Mo_ruleA 45 = .ok (.iconst 1, 1) := by decide +kernel
theorem zd_Mo_ruleA_46 : decode zc_Mo_ruleA 46 = .ok (.iand, 1) := by decide +kernel
theorem zd_Mo_ruleA_47 : decode zc_Mo_ruleA 47 = .ok (.iconst 1, 1) := by decide +kernel
theorem zd_Mo_ruleA_48 : decode zc_Mo_ruleA 48 = .ok (.if_icmp .ne 17, 3) := by decide +kernel
theorem zd_Mo_ruleA_51 : decode zc_Mo_ruleA 51 = .ok (.aload_n 0, 1) := by decide +kernel
theorem zd_Mo_ruleA_52 : decode zc_Mo_ruleA 52 = .ok (.getfield 38, 3) := by decide +kernel
theorem zd_Mo_ruleA_55 : decode zc_Mo_ruleA 55 = .ok (.iload_n 1, 1) := by decide +kernel
theorem zd_Mo_ruleA_56 : decode zc_Mo_ruleA 56 = .ok (.iaload, 1) := by decide +kernel
theorem zd_Mo_ruleA_57 : decode zc_Mo_ruleA 57 = .ok (.iload_n 3, 1) := by decide +kernel
theorem zd_Mo_ruleA_58 : decode zc_Mo_ruleA 58 = .ok (.if_icmp .ne 7, 3) := by decide +kernel
theorem zd_Mo_ruleA_61 : decode zc_Mo_ruleA 61 = .ok (.iconst 1, 1) := by decide +kernel
theorem zd_Mo_ruleA_62 : decode zc_Mo_ruleA 62 = .ok (.goto 4, 3) := by decide +kernel
theorem zd_Mo_ruleA_65 : decode zc_Mo_ruleA 65 = .ok (.iconst 0, 1) := by decide +kernel
theorem zd_Mo_ruleA_66 : decode zc_Mo_ruleA 66 = .ok (.istore 5, 2) := by decide +kernel
theorem zd_Mo_ruleA_68 : decode zc_Mo_ruleA 68 = .ok (.iload 5, 2) := by decide +kernel
theorem zd_Mo_ruleA_70 : decode zc_Mo_ruleA 70 = .ok (.ifCond .ne 15, 3) := by decide +kernel
theorem zd_Mo_ruleA_73 : decode zc_Mo_ruleA 73 = .ok (.iload 4, 2) := by decide +kernel
theorem zd_Mo_ruleA_75 : decode zc_Mo_ruleA 75 = .ok (.aload_n 0, 1) := by decide +kernel
theorem zd_Mo_ruleA_76 : decode zc_Mo_ruleA 76 = .ok (.getfield 32, 3) := by decide +kernel
theorem zd_Mo_ruleA_79 : decode zc_Mo_ruleA 79 = .ok (.iload_n 1, 1) := by decide +kernel
theorem zd_Mo_ruleA_80 : decode zc_Mo_ruleA 80 = .ok (.iaload, 1) := by decide +kernel
theorem zd_Mo_ruleA_81 : decode zc_Mo_ruleA 81 = .ok (.iand, 1) := by decide +kernel
theorem zd_Mo_ruleA_82 : decode zc_Mo_ruleA 82 = .ok (.ifCond .eq 24, 3) := by decide +kernel
theorem zd_Mo_ruleA_85 : decode zc_Mo_ruleA 85 = .ok (.aload_n 0, 1) := by decide +kernel
theorem zd_Mo_ruleA_86 : decode zc_Mo_ruleA 86 = .ok (.iload_n 1, 1) := by decide +kernel
theorem zd_Mo_ruleA_87 : decode zc_Mo_ruleA 87 = .ok (.iconst 0, 1) := by decide +kernel
theorem zd_Mo_ruleA_88 : decode zc_Mo_ruleA 88 = .ok (.iconst 0, 1) := by decide +kernel
theorem zd_Mo_ruleA_89 : decode zc_Mo_ruleA 89 = .ok (.iload_n 3, 1) := by decide +kernel
theorem zd_Mo_ruleA_90 : decode zc_Mo_ruleA 90 = .ok (.invokevirtual 152, 3) := by decide +kernel
theorem zd_Mo_ruleA_93 : decode zc_Mo_ruleA 93 = .ok (.ifCond .ne 7, 3) := by decide +kernel
theorem zd_Mo_ruleA_96 : decode zc_Mo_ruleA 96 = .ok (.iload_n 2, 1) := by decide +kernel
theorem zd_Mo_ruleA_97 : decode zc_Mo_ruleA 97 = .ok (.ifCond .eq 7, 3) := by decide +kernel
theorem zd_Mo_ruleA_100 : decode zc_Mo_ruleA 100 = .ok (.iconst 1, 1) := by decide +kernel
theorem zd_Mo_ruleA_101 : decode zc_Mo_ruleA 101 = .ok (.goto 4, 3) := by decide +kernel
theorem zd_Mo_ruleA_104 : decode zc_Mo_ruleA 104 = .ok (.iconst 0, 1) := by decide +kernel
theorem zd_Mo_ruleA_105 : decode zc_Mo_ruleA 105 = .ok (.istore_n 2, 1) := by decide +kernel
theorem zd_Mo_ruleA_106 : decode zc_Mo_ruleA 106 = .ok (.iinc 3 1, 3) := by decide +kernel
theorem zd_Mo_ruleA_109 : decode zc_Mo_ruleA 109 = .ok (.goto (-88), 3) := by decide +kernel
theorem zd_Mo_ruleA_112 : decode zc_Mo_ruleA 112 = .ok (.iload_n 2, 1) := by decide +kernel
theorem zd_Mo_ruleA_113 : decode zc_Mo_ruleA 113 = .ok (.ireturn, 1) := by decide +kernel
theorem zd_Mo_accept_0 : decode zc_Mo_accept 0 = .ok (.iconst 0, 1) := by decide +kernel
theorem zd_Mo_accept_1 : decode zc_Mo_accept 1 = .ok (.istore 5, 2) := by decide +kernel
theorem zd_Mo_accept_3 : decode zc_Mo_accept 3 = .ok (.iload_n 3, 1) := by decide +kernel
theorem zd_Mo_accept_4 : decode zc_Mo_accept 4 = .ok (.istore 6, 2) := by decide +kernel
theorem zd_Mo_accept_6 : decode zc_Mo_accept 6 = .ok (.iload 6, 2) := by decide +kernel
theorem zd_Mo_accept_8 : decode zc_Mo_accept 8 = .ok (.iload 4, 2) := by decide +kernel
theorem zd_Mo_accept_10 : decode zc_Mo_accept 10 = .ok (.if_icmp .gt 56, 3) := by decide +kernel
theorem zd_Mo_accept_13 : decode zc_Mo_accept 13 = .ok (.aload_n 0, 1) := by decide +kernel
theorem zd_Mo_accept_14 : decode zc_Mo_accept 14 = .ok (.iload_n 1, 1) := by decide +kernel
theorem zd_Mo_accept_15 : decode zc_Mo_accept 15 = .ok (.iload_n 2, 1) := by decide +kernel
theorem zd_Mo_accept_16 : decode zc_Mo_accept 16 = .ok (.iconst 1, 1) := by decide +kernel
theorem zd_Mo_accept_17 : decode zc_Mo_accept 17 = .ok (.iload 6, 2) := by decide +kernel
theorem zd_Mo_accept_19 : decode zc_Mo_accept 19 = .ok (.invokevirtual 125, 3) := by decide +kernel
theorem zd_Mo_accept_22 : decode zc_Mo_accept 22 = .ok (.ifCond .ne 38, 3) := by decide +kernel
theorem zd_Mo_accept_25 : decode zc_Mo_accept 25 = .ok (.aload_n 0, 1) := by decide +kernel
theorem zd_Mo_accept_26 : decode zc_Mo_accept 26 = .ok (.iload_n 1, 1) := by decide +kernel
theorem zd_Mo_accept_27 : decode zc_Mo_accept 27 = .ok (.iload_n 2, 1) := by decide +kernel
theorem zd_Mo_accept_28 : decode zc_Mo_accept 28 = .ok (.iload 6, 2) := by decide +kernel
theorem zd_Mo_accept_30 : decode zc_Mo_accept 30 = .ok (.invokevirtual 155, 3) := by decide +kernel
theorem zd_Mo_accept_33 : decode zc_Mo_accept 33 = .ok (.ifCond .eq 27, 3) := by decide +kernel
theorem zd_Mo_accept_36 : decode zc_Mo_accept 36 = .ok (.aload_n 0, 1) := by decide +kernel
theorem zd_Mo_accept_37 : decode zc_Mo_accept 37 = .ok (.iload_n 1, 1) := by decide +kernel
theorem zd_Mo_accept_38 : decode zc_Mo_accept 38 = .ok (.iload_n 2, 1) := by decide +kernel
theorem zd_Mo_accept_39 : decode zc_Mo_accept 39 = .ok (.iconst 1, 1) := by decide +kernel
theorem zd_Mo_accept_40 : decode zc_Mo_accept 40 = .ok (.iload 6, 2) := by decide +kernel
theorem zd_Mo_accept_42 : decode zc_Mo_accept 42 = .ok (.invokevirtual 152, 3) := by decide +kernel
theorem zd_Mo_accept_45 : decode zc_Mo_accept 45 = .ok (.ifCond .ne 8, 3) := by decide +kernel
theorem zd_Mo_accept_48 : decode zc_Mo_accept 48 = .ok (.iload 5, 2) := by decide +kernel
theorem zd_Mo_accept_50 : decode zc_Mo_accept 50 = .ok (.ifCond .eq 7, 3) := by decide +kernel
theorem zd_Mo_accept_53 : decode zc_Mo_accept 53 = .ok (.iconst 1, 1) := by decide +kernel
theorem zd_Mo_accept_54 : decode zc_Mo_accept 54 = .ok (.goto 4, 3) := by decide +kernel
theorem zd_Mo_accept_57 : decode zc_Mo_accept 57 = .ok (.iconst 0, 1) := by decide +kernel
theorem zd_Mo_accept_58 : decode zc_Mo_accept 58 = .ok (.istore 5, 2) := by decide +kernel
theorem zd_Mo_accept_60 : decode zc_Mo_accept 60 = .ok (.iinc 6 1, 3) := by decide +kernel
theorem zd_Mo_accept_63 : decode zc_Mo_accept 63 = .ok (.goto (-57), 3) := by decide +kernel
theorem zd_Mo_accept_66 : decode zc_Mo_accept 66 = .ok (.iload 5, 2) := by decide +kernel
theorem zd_Mo_accept_68 : decode zc_Mo_accept 68 = .ok (.ireturn, 1) := by decide +kernel
theorem zd_Mo_confirm_0 : decode zc_Mo_confirm 0 = .ok (.iconst 0, 1) := by decide +kernel
theorem zd_Mo_confirm_1 : decode zc_Mo_confirm 1 = .ok (.istore 5, 2) := by decide +kernel
theorem zd_Mo_confirm_3 : decode zc_Mo_confirm 3 = .ok (.iload_n 3, 1) := by decide +kernel
theorem zd_Mo_confirm_4 : decode zc_Mo_confirm 4 = .ok (.istore 6, 2) := by decide +kernel
theorem zd_Mo_confirm_6 : decode zc_Mo_confirm 6 = .ok (.iload 6, 2) := by decide +kernel
theorem zd_Mo_confirm_8 : decode zc_Mo_confirm 8 = .ok (.iload 4, 2) := by decide +kernel
theorem zd_Mo_confirm_10 : decode zc_Mo_confirm 10 = .ok (.if_icmp .gt 56, 3) := by decide +kernel
theorem zd_Mo_confirm_13 : decode zc_Mo_confirm 13 = .ok (.aload_n 0, 1) := by decide +kernel
theorem zd_Mo_confirm_14 : decode zc_Mo_confirm 14 = .ok (.iload_n 1, 1) := by decide +kernel
theorem zd_Mo_confirm_15 : decode zc_Mo_confirm 15 = .ok (.iload_n 2, 1) := by decide +kernel
theorem zd_Mo_confirm_16 : decode zc_Mo_confirm 16 = .ok (.iconst 2, 1) := by decide +kernel
theorem zd_Mo_confirm_17 : decode zc_Mo_confirm 17 = .ok (.iload 6, 2) := by decide +kernel
theorem zd_Mo_confirm_19 : decode zc_Mo_confirm 19 = .ok (.invokevirtual 125, 3) := by decide +kernel
theorem zd_Mo_confirm_22 : decode zc_Mo_confirm 22 = .ok (.ifCond .ne 38, 3) := by decide +kernel
theorem zd_Mo_confirm_25 : decode zc_Mo_confirm 25 = .ok (.aload_n 0, 1) := by decide +kernel
theorem zd_Mo_confirm_26 : decode zc_Mo_confirm 26 = .ok (.iload_n 1, 1) := by decide +kernel
theorem zd_Mo_confirm_27 : decode zc_Mo_confirm 27 = .ok (.iload_n 2, 1) := by decide +kernel
theorem zd_Mo_confirm_28 : decode zc_Mo_confirm 28 = .ok (.iload 6, 2) := by decide +kernel
theorem zd_Mo_confirm_30 : decode zc_Mo_confirm 30 = .ok (.invokevirtual 158, 3) := by decide +kernel
theorem zd_Mo_confirm_33 : decode zc_Mo_confirm 33 = .ok (.ifCond .eq 27, 3) := by decide +kernel
theorem zd_Mo_confirm_36 : decode zc_Mo_confirm 36 = .ok (.aload_n 0, 1) := by decide +kernel
theorem zd_Mo_confirm_37 : decode zc_Mo_confirm 37 = .ok (.iload_n 1, 1) := by decide +kernel
theorem zd_Mo_confirm_38 : decode zc_Mo_confirm 38 = .ok (.iload_n 2, 1) := by decide +kernel
theorem zd_Mo_confirm_39 : decode zc_Mo_confirm 39 = .ok (.iconst 2, 1) := by decide +kernel
theorem zd_Mo_confirm_40 : decode zc_Mo_confirm 40 = .ok (.iload 6, 2) := by decide +kernel
theorem zd_Mo_confirm_42 : decode zc_Mo_confirm 42 = .ok (.invokevirtual 152, 3) := by decide +kernel
theorem zd_Mo_confirm_45 : decode zc_Mo_confirm 45 = .ok (.ifCond .ne 8, 3) := by decide +kernel
theorem zd_Mo_confirm_48 : decode zc_Mo_confirm 48 = .ok (.iload 5, 2) := by decide +kernel
theorem zd_Mo_confirm_50 : decode zc_Mo_confirm 50 = .ok (.ifCond .eq 7, 3) := by decide +kernel
theorem zd_Mo_confirm_53 : decode zc_Mo_confirm 53 = .ok (.iconst 1, 1) := by decide +kernel
theorem zd_Mo_confirm_54 : decode zc_Mo_confirm 54 = .ok (.goto 4, 3) := by decide +kernel
theorem zd_Mo_confirm_57 : decode zc_Mo_confirm 57 = .ok (.iconst 0, 1) := by decide +kernel
theorem zd_Mo_confirm_58 : decode zc_Mo_confirm 58 = .ok (.istore 5, 2) := by decide +kernel
theorem zd_Mo_confirm_60 : decode zc_Mo_confirm 60 = .ok (.iinc 6 1, 3) := by decide +kernel
theorem zd_Mo_confirm_63 : decode zc_Mo_confirm 63 = .ok (.goto (-57), 3) := by decide +kernel
theorem zd_Mo_confirm_66 : decode zc_Mo_confirm 66 = .ok (.iload 5, 2) := by decide +kernel
theorem zd_Mo_confirm_68 : decode zc_Mo_confirm 68 = .ok (.ireturn, 1) := by decide +kernel
theorem zd_Mo_ruleD_0 : decode zc_Mo_ruleD 0 = .ok (.aload_n 0, 1) := by decide +kernel
theorem zd_Mo_ruleD_1 : decode zc_Mo_ruleD 1 = .ok (.getfield 35, 3) := by decide +kernel
theorem zd_Mo_ruleD_4 : decode zc_Mo_ruleD 4 = .ok (.iload_n 1, 1) := by decide +kernel
theorem zd_Mo_ruleD_5 : decode zc_Mo_ruleD 5 = .ok (.iaload, 1) := by decide +kernel
theorem zd_Mo_ruleD_6 : decode zc_Mo_ruleD 6 = .ok (.ifCond .ne 11, 3) := by decide +kernel
theorem zd_Mo_ruleD_9 : decode zc_Mo_ruleD 9 = .ok (.aload_n 0, 1) := by decide +kernel
theorem zd_Mo_ruleD_10 : decode zc_Mo_ruleD 10 = .ok (.iload_n 1, 1) := by decide +kernel
theorem zd_Mo_ruleD_11 : decode zc_Mo_ruleD 11 = .ok (.invokevirtual 146, 3) := by decide +kernel
theorem zd_Mo_ruleD_14 : decode zc_Mo_ruleD 14 = .ok (.ifCond .ne 5, 3) := by decide +kernel
theorem zd_Mo_ruleD_17 : decode zc_Mo_ruleD 17 = .ok (.iconst 0, 1) := by decide +kernel
theorem zd_Mo_ruleD_18 : decode zc_Mo_ruleD 18 = .ok (.ireturn, 1) := by decide +kernel
theorem zd_Mo_ruleD_19 : decode zc_Mo_ruleD 19 = .ok (.aload_n 0, 1) := by decide +kernel
theorem zd_Mo_ruleD_20 : decode zc_Mo_ruleD 20 = .ok (.getfield 35, 3) := by decide +kernel
theorem zd_Mo_ruleD_23 : decode zc_Mo_ruleD 23 = .ok (.iload_n 1, 1) := by decide +kernel
theorem zd_Mo_ruleD_24 : decode zc_Mo_ruleD 24 = .ok (.iconst 1, 1) := by decide +kernel
theorem zd_Mo_ruleD_25 : decode zc_Mo_ruleD 25 = .ok (.iastore, 1) := by decide +kernel
theorem zd_Mo_ruleD_26 : decode zc_Mo_ruleD 26 = .ok (.aload_n 0, 1) := by decide +kernel
theorem zd_Mo_ruleD_27 : decode zc_Mo_ruleD 27 = .ok (.iload_n 1, 1) := by decide +kernel
theorem zd_Mo_ruleD_28 : decode zc_Mo_ruleD 28 = .ok (.invokevirtual 161, 3) := by decide +kernel
theorem zd_Mo_ruleD_31 : decode zc_Mo_ruleD 31 = .ok (.pop, 1) := by decide +kernel
theorem zd_Mo_ruleD_32 : decode zc_Mo_ruleD 32 = .ok (.iconst 1, 1) := by decide +kernel
theorem zd_Mo_ruleD_33 : decode zc_Mo_ruleD 33 = .ok (.ireturn, 1) := by decide +kernel
theorem zd_Mo_ruleG_0 : decode zc_Mo_ruleG 0 = .ok (.iconst 0, 1) := by decide +kernel
theorem zd_Mo_ruleG_1 : decode zc_Mo_ruleG 1 = .ok (.istore_n 2, 1) := by decide +kernel
theorem zd_Mo_ruleG_2 : decode zc_Mo_ruleG 2 = .ok (.iconst 0, 1) := by decide +kernel
theorem zd_Mo_ruleG_3 : decode zc_Mo_ruleG 3 = .ok (.istore_n 3, 1) := by decide +kernel
theorem zd_Mo_ruleG_4 : decode zc_Mo_ruleG 4 = .ok (.iload_n 3, 1) := by decide +kernel
theorem zd_Mo_ruleG_5 : decode zc_Mo_ruleG 5 = .ok (.bipush 28, 2) := by decide +kernel
theorem zd_Mo_ruleG_7 : decode zc_Mo_ruleG 7 = .ok (.if_icmp .ge 77, 3) := by decide +kernel
theorem zd_Mo_ruleG_10 : decode zc_Mo_ruleG 10 = .ok (.aload_n 0, 1) := by decide +kernel
theorem zd_Mo_ruleG_11 : decode zc_Mo_ruleG 11 = .ok (.iload_n 1, 1) := by decide +kernel
theorem zd_Mo_ruleG_12 : decode zc_Mo_ruleG 12 = .ok (.iconst 1, 1) := by decide +kernel
theorem zd_Mo_ruleG_13 : decode zc_Mo_ruleG 13 = .ok (.iconst 0, 1) := by decide +kernel
theorem zd_Mo_ruleG_14 : decode zc_Mo_ruleG 14 = .ok (.iload_n 3, 1) := by decide +kernel
theorem zd_Mo_ruleG_15 : decode zc_Mo_ruleG 15 = .ok (.iconst 1, 1) := by decide +kernel
theorem zd_Mo_ruleG_16 : decode zc_Mo_ruleG 16 = .ok (.invokevirtual 135, 3) := by decide +kernel
theorem zd_Mo_ruleG_19 : decode zc_Mo_ruleG 19 = .ok (.ifCond .ne 19, 3) := by decide +kernel
theorem zd_Mo_ruleG_22 : decode zc_Mo_ruleG 22 = .ok (.aload_n 0, 1) := by decide +kernel
theorem zd_Mo_ruleG_23 : decode zc_Mo_ruleG 23 = .ok (.iload_n 1, 1) := by decide +kernel
theorem zd_Mo_ruleG_24 : decode zc_Mo_ruleG 24 = .ok (.iconst 1, 1) := by decide +kernel
theorem zd_Mo_ruleG_25 : decode zc_Mo_ruleG 25 = .ok (.iconst 1, 1) := by decide +kernel
theorem zd_Mo_ruleG_26 : decode zc_Mo_ruleG 26 = .ok (.iload_n 3, 1) := by decide +kernel
theorem zd_Mo_ruleG_27 : decode zc_Mo_ruleG 27 = .ok (.iconst 1, 1) := by decide +kernel
theorem zd_Mo_ruleG_28 : decode zc_Mo_ruleG 28 = .ok (.invokevirtual 135, 3) := by decide +kernel
theorem zd_Mo_ruleG_31 : decode zc_Mo_ruleG 31 = .ok (.ifCond .ne 7, 3) := by decide +kernel
theorem zd_Mo_ruleG_34 : decode zc_Mo_ruleG 34 = .ok (.iconst 1, 1) := by decide +kernel
theorem zd_Mo_ruleG_35 : decode zc_Mo_ruleG 35 = .ok (.goto 4, 3) := by decide +kernel
theorem zd_Mo_ruleG_38 : decode zc_Mo_ruleG 38 = .ok (.iconst 0, 1) := by decide +kernel
theorem zd_Mo_ruleG_39 : decode zc_Mo_ruleG 39 = .ok (.istore 4, 2) := by decide +kernel
theorem zd_Mo_ruleG_41 : decode zc_Mo_ruleG 41 = .ok (.iload 4, 2) := by decide +kernel
theorem zd_Mo_ruleG_43 : decode zc_Mo_ruleG 43 = .ok (.ifCond .eq 35, 3) := by decide +kernel
theorem zd_Mo_ruleG_46 : decode zc_Mo_ruleG 46 = .ok (.aload_n 0, 1) := by decide +kernel
theorem zd_Mo_ruleG_47 : decode zc_Mo_ruleG 47 = .ok (.iload_n 1, 1) := by decide +kernel
theorem zd_Mo_ruleG_48 : decode zc_Mo_ruleG 48 = .ok (.iconst 1, 1) := by decide +kernel
theorem zd_Mo_ruleG_49 : decode zc_Mo_ruleG 49 = .ok (.iconst 2, 1) := by decide +kernel
theorem zd_Mo_ruleG_50 : decode zc_Mo_ruleG 50 = .ok (.iload_n 3, 1) := by decide +kernel
theorem zd_Mo_ruleG_51 : decode zc_Mo_ruleG 51 = .ok (.invokevirtual 125, 3) := by decide +kernel
theorem zd_Mo_ruleG_54 : decode zc_Mo_ruleG 54 = .ok (.ifCond .eq 24, 3) := by decide +kernel
theorem zd_Mo_ruleG_57 : decode zc_Mo_ruleG 57 = .ok (.aload_n 0, 1) := by decide +kernel
theorem zd_Mo_ruleG_58 : decode zc_Mo_ruleG 58 = .ok (.iload_n 1, 1) := by decide +kernel
theorem zd_Mo_ruleG_59 : decode zc_Mo_ruleG 59 = .ok (.iconst 2, 1) := by decide +kernel
theorem zd_Mo_ruleG_60 : decode zc_Mo_ruleG 60 = .ok (.iconst 0, 1) := by decide +kernel
theorem zd_Mo_ruleG_61 : decode zc_Mo_ruleG 61 = .ok (.iload_n 3, 1) := by decide +kernel
theorem zd_Mo_ruleG_62 : decode zc_Mo_ruleG 62 = .ok (.invokevirtual 152, 3) := by decide +kernel
theorem zd_Mo_ruleG_65 : decode zc_Mo_ruleG 65 = .ok (.ifCond .ne 7, 3) := by decide +kernel
theorem zd_Mo_ruleG_68 : decode zc_Mo_ruleG 68 = .ok (.iload_n 2, 1) := by decide +kernel
theorem zd_Mo_ruleG_69 : decode zc_Mo_ruleG 69 = .ok (.ifCond .eq 7, 3) := by decide +kernel
theorem zd_Mo_ruleG_72 : decode zc_Mo_ruleG 72 = .ok (.iconst 1, 1) := by decide +kernel
theorem zd_Mo_ruleG_73 : decode zc_Mo_ruleG 73 = .ok (.goto 4, 3) := by decide +kernel
theorem zd_Mo_ruleG_76 : decode zc_Mo_ruleG 76 = .ok (.iconst 0, 1) := by decide +kernel
theorem zd_Mo_ruleG_77 : decode zc_Mo_ruleG 77 = .ok (.istore_n 2, 1) := by decide +kernel
theorem zd_Mo_ruleG_78 : decode zc_Mo_ruleG 78 = .ok (.iinc 3 1, 3) := by decide +kernel
theorem zd_Mo_ruleG_81 : decode zc_Mo_ruleG 81 = .ok (.goto (-77), 3) := by decide +kernel
theorem zd_Mo_ruleG_84 : decode zc_Mo_ruleG 84 = .ok (.iload_n 2, 1) := by decide +kernel
theorem zd_Mo_ruleG_85 : decode zc_Mo_ruleG 85 = .ok (.ireturn, 1) := by decide +kernel
theorem zd_Mo_best_0 : decode zc_Mo_best 0 = .ok (.iconst (-1), 1) := by decide +kernel
theorem zd_Mo_best_1 : decode zc_Mo_best 1 = .ok (.istore 4, 2) := by decide +kernel
theorem zd_Mo_best_3 : decode zc_Mo_best 3 = .ok (.bipush 9, 2) := by decide +kernel
theorem zd_Mo_best_5 : decode zc_Mo_best 5 = .ok (.iload_n 1, 1) := by decide +kernel
theorem zd_Mo_best_6 : decode zc_Mo_best 6 = .ok (.imul, 1) := by decide +kernel
theorem zd_Mo_best_7 : decode zc_Mo_best 7 = .ok (.istore 5, 2) := by decide +kernel
theorem zd_Mo_best_9 : decode zc_Mo_best 9 = .ok (.iload 5, 2) := by decide +kernel
theorem zd_Mo_best_11 : decode zc_Mo_best 11 = .ok (.bipush 9, 2) := by decide +kernel
theorem zd_Mo_best_13 : decode zc_Mo_best 13 = .ok (.iload_n 1, 1) := by decide +kernel
theorem zd_Mo_best_14 : decode zc_Mo_best 14 = .ok (.imul, 1) := by decide +kernel
theorem zd_Mo_best_15 : decode zc_Mo_best 15 = .ok (.aload_n 0, 1) := by decide +kernel
theorem zd_Mo_best_16 : decode zc_Mo_best 16 = .ok (.getfield 83, 3) := by decide +kernel
theorem zd_Mo_best_19 : decode zc_Mo_best 19 = .ok (.iload_n 1, 1) := by decide +kernel
theorem zd_Mo_best_20 : decode zc_Mo_best 20 = .ok (.iaload, 1) := by decide +kernel
theorem zd_Mo_best_21 : decode zc_Mo_best 21 = .ok (.iadd, 1) := by decide +kernel
theorem zd_Mo_best_22 : decode zc_Mo_best 22 = .ok (.if_icmp .ge 128, 3) := by decide +kernel
theorem zd_Mo_best_25 : decode zc_Mo_best 25 = .ok (.aload_n 0, 1) := by decide +kernel
theorem zd_Mo_best_26 : decode zc_Mo_best 26 = .ok (.getfield 89, 3) := by decide +kernel
theorem zd_Mo_best_29 : decode zc_Mo_best 29 = .ok (.iload 5, 2) := by decide +kernel
theorem zd_Mo_best_31 : decode zc_Mo_best 31 = .ok (.iaload, 1) := by decide +kernel
theorem zd_Mo_best_32 : decode zc_Mo_best 32 = .ok (.iload_n 2, 1) := by decide +kernel
theorem zd_Mo_best_33 : decode zc_Mo_best 33 = .ok (.if_icmp .eq 36, 3) := by decide +kernel
theorem zd_Mo_best_36 : decode zc_Mo_best 36 = .ok (.iload_n 2, 1) := by decide +kernel
theorem zd_Mo_best_37 : decode zc_Mo_best 37 = .ok (.ifCond .ne 17, 3) := by decide +kernel
theorem zd_Mo_best_40 : decode zc_Mo_best 40 = .ok (.aload_n 0, 1) := by decide +kernel
theorem zd_Mo_best_41 : decode zc_Mo_best 41 = .ok (.getfield 92, 3) := by decide +kernel
theorem zd_Mo_best_44 : decode zc_Mo_best 44 = .ok (.iload 5, 2) := by decide +kernel
theorem zd_Mo_best_46 : decode zc_Mo_best 46 = .ok (.iaload, 1) := by decide +kernel
theorem zd_Mo_best_47 : decode zc_Mo_best 47 = .ok (.iload_n 3, 1) := by decide +kernel
theorem zd_Mo_best_48 : decode zc_Mo_best 48 = .ok (.if_icmp .gt 21, 3) := by decide +kernel
theorem zd_Mo_best_51 : decode zc_Mo_best 51 = .ok (.goto 14, 3) := by decide +kernel
theorem zd_Mo_best_54 : decode zc_Mo_best 54 = .ok (.aload_n 0, 1) := by decide +kernel
theorem zd_Mo_best_55 : decode zc_Mo_best 55 = .ok (.getfield 92, 3) := by decide +kernel
theorem zd_Mo_best_58 : decode zc_Mo_best 58 = .ok (.iload 5, 2) := by decide +kernel
theorem zd_Mo_best_60 : decode zc_Mo_best 60 = .ok (.iaload, 1) := by decide +kernel
theorem zd_Mo_best_61 : decode zc_Mo_best 61 = .ok (.iload_n 3, 1) := by decide +kernel
theorem zd_Mo_best_62 : decode zc_Mo_best 62 = .ok (.if_icmp .lt 7, 3) := by decide +kernel
theorem zd_Mo_best_65 : decode zc_Mo_best 65 = .ok (.iconst 1, 1) := by decide +kernel
theorem zd_Mo_best_66 : decode zc_Mo_best 66 = .ok (.goto 4, 3) := by decide +kernel
theorem zd_Mo_best_69 : decode zc_Mo_best 69 = .ok (.iconst 0, 1) := by decide +kernel
theorem zd_Mo_best_70 : decode zc_Mo_best 70 = .ok (.istore 6, 2) := by decide +kernel
theorem zd_Mo_best_72 : decode zc_Mo_best 72 = .ok (.iload 4, 2) := by decide +kernel
theorem zd_Mo_best_74 : decode zc_Mo_best 74 = .ok (.ifCond .lt 44, 3) := by decide +kernel
theorem zd_Mo_best_77 : decode zc_Mo_best 77 = .ok (.iload_n 2, 1) := by decide +kernel
theorem zd_Mo_best_78 : decode zc_Mo_best 78 = .ok (.ifCond .ne 23, 3) := by decide +kernel
theorem zd_Mo_best_81 : decode zc_Mo_best 81 = .ok (.aload_n 0, 1) := by decide +kernel
theorem zd_Mo_best_82 : decode zc_Mo_best 82 = .ok (.getfield 92, 3) := by decide +kernel
theorem zd_Mo_best_85 : decode zc_Mo_best 85 = .ok (.iload 5, 2) := by decide +kernel
theorem zd_Mo_best_87 : decode zc_Mo_best 87 = .ok (.iaload, 1) := by decide +kernel
theorem zd_Mo_best_88 : decode zc_Mo_best 88 = .ok (.aload_n 0, 1) := by decide +kernel
theorem zd_Mo_best_89 : decode zc_Mo_best 89 = .ok (.getfield 92, 3) := by decide +kernel
theorem zd_Mo_best_92 : decode zc_Mo_best 92 = .ok (.iload 4, 2) := by decide +kernel
theorem zd_Mo_best_94 : decode zc_Mo_best 94 = .ok (.iaload, 1) := by decide +kernel
theorem zd_Mo_best_95 : decode zc_Mo_best 95 = .ok (.if_icmp .ge 27, 3) := by decide +kernel
theorem zd_Mo_best_98 : decode zc_Mo_best 98 = .ok (.goto 20, 3) := by decide +kernel
theorem zd_Mo_best_101 : decode zc_Mo_best 101 = .ok (.aload_n 0, 1) := by decide +kernel
theorem zd_Mo_best_102 : decode zc_Mo_best 102 = .ok (.getfield 92, 3) := by decide +kernel
theorem zd_Mo_best_105 : decode zc_Mo_best 105 = .ok (.iload 5, 2) := by decide +kernel
theorem zd_Mo_best_107 : decode zc_Mo_best 107 = .ok (.iaload, 1) := by decide +kernel
theorem zd_Mo_best_108 : decode zc_Mo_best 108 = .ok (.aload_n 0, 1) := by decide +kernel
theorem zd_Mo_best_109 : decode zc_Mo_best 109 = .ok (.getfield 92, 3) := by decide +kernel
theorem zd_Mo_best_112 : decode zc_Mo_best 112 = .ok (.iload 4, 2) := by decide +kernel
theorem zd_Mo_best_114 : decode zc_Mo_best 114 = .ok (.iaload, 1) := by decide +kernel
theorem zd_Mo_best_115 : decode zc_Mo_best 115 = .ok (.if_icmp .le 7, 3) := by decide +kernel
theorem zd_Mo_best_118 : decode zc_Mo_best 118 = .ok (.iconst 1, 1) := by decide +kernel
theorem zd_Mo_best_119 : decode zc_Mo_best 119 = .ok (.goto 4, 3) := by decide +kernel
theorem zd_Mo_best_122 : decode zc_Mo_best 122 = .ok (.iconst 0, 1) := by decide +kernel
theorem zd_Mo_best_123 : decode zc_Mo_best 123 = .ok (.istore 7, 2) := by decide +kernel
theorem zd_Mo_best_125 : decode zc_Mo_best 125 = .ok (.iload 6, 2) := by decide +kernel
theorem zd_Mo_best_127 : decode zc_Mo_best 127 = .ok (.ifCond .eq 13, 3) := by decide +kernel
theorem zd_Mo_best_130 : decode zc_Mo_best 130 = .ok (.iload 7, 2) := by decide +kernel
theorem zd_Mo_best_132 : decode zc_Mo_best 132 = .ok (.ifCond .eq 8, 3) := by decide +kernel
theorem zd_Mo_best_135 : decode zc_Mo_best 135 = .ok (.iload 5, 2) := by decide +kernel
theorem zd_Mo_best_137 : decode zc_Mo_best 137 = .ok (.goto 5, 3) := by decide +kernel
theorem zd_Mo_best_140 : decode zc_Mo_best 140 = .ok (.iload 4, 2) := by decide +kernel
theorem zd_Mo_best_142 : decode zc_Mo_best 142 = .ok (.istore 4, 2) := by decide +kernel
theorem zd_Mo_best_144 : decode zc_Mo_best 144 = .ok (.iinc 5 1, 3) := by decide +kernel
theorem zd_Mo_best_147 : decode zc_Mo_best 147 = .ok (.goto (-138), 3) := by decide +kernel
theorem zd_Mo_best_150 : decode zc_Mo_best 150 = .ok (.iload 4, 2) := by decide +kernel
theorem zd_Mo_best_152 : decode zc_Mo_best 152 = .ok (.ireturn, 1) := by decide +kernel
theorem zd_Mo_cross_0 : decode zc_Mo_cross 0 = .ok (.aload_n 0, 1) := by decide +kernel
theorem zd_Mo_cross_1 : decode zc_Mo_cross 1 = .ok (.getfield 89, 3) := by decide +kernel
theorem zd_Mo_cross_4 : decode zc_Mo_cross 4 = .ok (.iload_n 3, 1) := by decide +kernel
theorem zd_Mo_cross_5 : decode zc_Mo_cross 5 = .ok (.iaload, 1) := by decide +kernel
theorem zd_Mo_cross_6 : decode zc_Mo_cross 6 = .ok (.ifCond .ne 12, 3) := by decide +kernel
theorem zd_Mo_cross_9 : decode zc_Mo_cross 9 = .ok (.aload_n 0, 1) := by decide +kernel
theorem zd_Mo_cross_10 : decode zc_Mo_cross 10 = .ok (.getfield 86, 3) := by decide +kernel
theorem zd_Mo_cross_13 : decode zc_Mo_cross 13 = .ok (.iload_n 3, 1) := by decide +kernel
theorem zd_Mo_cross_14 : decode zc_Mo_cross 14 = .ok (.iaload, 1) := by decide +kernel
theorem zd_Mo_cross_15 : decode zc_Mo_cross 15 = .ok (.goto 9, 3) := by decide +kernel
theorem zd_Mo_cross_18 : decode zc_Mo_cross 18 = .ok (.aload_n 0, 1) := by decide +kernel
theorem zd_Mo_cross_19 : decode zc_Mo_cross 19 = .ok (.getfield 68, 3) := by decide +kernel
theorem zd_Mo_cross_22 : decode zc_Mo_cross 22 = .ok (.iload_n 2, 1) := by decide +kernel
theorem zd_Mo_cross_23 : decode zc_Mo_cross 23 = .ok (.iaload, 1) := by decide +kernel
theorem zd_Mo_cross_24 : decode zc_Mo_cross 24 = .ok (.istore 5, 2) := by decide +kernel
theorem zd_Mo_cross_26 : decode zc_Mo_cross 26 = .ok (.aload_n 0, 1) := by decide +kernel
theorem zd_Mo_cross_27 : decode zc_Mo_cross 27 = .ok (.getfield 89, 3) := by decide +kernel
theorem zd_Mo_cross_30 : decode zc_Mo_cross 30 = .ok (.iload_n 3, 1) := by decide +kernel
theorem zd_Mo_cross_31 : decode zc_Mo_cross 31 = .ok (.iaload, 1) := by decide +kernel
theorem zd_Mo_cross_32 : decode zc_Mo_cross 32 = .ok (.ifCond .ne 12, 3) := by decide +kernel
theorem zd_Mo_cross_35 : decode zc_Mo_cross 35 = .ok (.aload_n 0, 1) := by decide +kernel
theorem zd_Mo_cross_36 : decode zc_Mo_cross 36 = .ok (.getfield 68, 3) := by decide +kernel
theorem zd_Mo_cross_39 : decode zc_Mo_cross 39 = .ok (.iload_n 2, 1) := by decide +kernel
theorem zd_Mo_cross_40 : decode zc_Mo_cross 40 = .ok (.iaload, 1) := by decide +kernel
theorem zd_Mo_cross_41 : decode zc_Mo_cross 41 = .ok (.goto 9, 3) := by decide +kernel
theorem zd_Mo_cross_44 : decode zc_Mo_cross 44 = .ok (.aload_n 0, 1) := by decide +kernel
theorem zd_Mo_cross_45 : decode zc_Mo_cross 45 = .ok (.getfield 86, 3) := by decide +kernel
theorem zd_Mo_cross_48 : decode zc_Mo_cross 48 = .ok (.iload_n 3, 1) := by decide +kernel
theorem zd_Mo_cross_49 : decode zc_Mo_cross 49 = .ok (.iaload, 1) := by decide +kernel
theorem zd_Mo_cross_50 : decode zc_Mo_cross 50 = .ok (.istore 6, 2) := by decide +kernel
theorem zd_Mo_cross_52 : decode zc_Mo_cross 52 = .ok (.bipush 8, 2) := by decide +kernel
theorem zd_Mo_cross_54 : decode zc_Mo_cross 54 = .ok (.iload_n 1, 1) := by decide +kernel
theorem zd_Mo_cross_55 : decode zc_Mo_cross 55 = .ok (.imul, 1) := by decide +kernel
theorem zd_Mo_cross_56 : decode zc_Mo_cross 56 = .ok (.iconst 2, 1) := by decide +kernel
theorem zd_Mo_cross_57 : decode zc_Mo_cross 57 = .ok (.iload 5, 2) := by decide +kernel
theorem zd_Mo_cross_59 : decode zc_Mo_cross 59 = .ok (.imul, 1) := by decide +kernel
theorem zd_Mo_cross_60 : decode zc_Mo_cross 60 = .ok (.iadd, 1) := by decide +kernel
theorem zd_Mo_cross_61 : decode zc_Mo_cross 61 = .ok (.istore 7, 2) := by decide +kernel
theorem zd_Mo_cross_63 : decode zc_Mo_cross 63 = .ok (.bipush 8, 2) := by decide +kernel
theorem zd_Mo_cross_65 : decode zc_Mo_cross 65 = .ok (.iload_n 1, 1) := by decide +kernel
theorem zd_Mo_cross_66 : decode zc_Mo_cross 66 = .ok (.imul, 1) := by decide +kernel
theorem zd_Mo_cross_67 : decode zc_Mo_cross 67 = .ok (.iconst 2, 1) := by decide +kernel
theorem zd_Mo_cross_68 : decode zc_Mo_cross 68 = .ok (.iload 6, 2) := by decide +kernel
theorem zd_Mo_cross_70 : decode zc_Mo_cross 70 = .ok (.imul, 1) := by decide +kernel
theorem zd_Mo_cross_71 : decode zc_Mo_cross 71 = .ok (.iadd, 1) := by decide +kernel
theorem zd_Mo_cross_72 : decode zc_Mo_cross 72 = .ok (.iconst 1, 1) := by decide +kernel
theorem zd_Mo_cross_73 : decode zc_Mo_cross 73 = .ok (.iadd, 1) := by decide +kernel
theorem zd_Mo_cross_74 : decode zc_Mo_cross 74 = .ok (.istore 8, 2) := by decide +kernel
theorem zd_Mo_cross_76 : decode zc_Mo_cross 76 = .ok (.iload 4, 2) := by decide +kernel
theorem zd_Mo_cross_78 : decode zc_Mo_cross 78 = .ok (.aload_n 0, 1) := by decide +kernel
theorem zd_Mo_cross_79 : decode zc_Mo_cross 79 = .ok (.getfield 95, 3) := by decide +kernel
theorem zd_Mo_cross_82 : decode zc_Mo_cross 82 = .ok (.iload_n 3, 1) := by decide +kernel
theorem zd_Mo_cross_83 : decode zc_Mo_cross 83 = .ok (.iaload, 1) := by decide +kernel
theorem zd_Mo_cross_84 : decode zc_Mo_cross 84 = .ok (.if_icmp .ge 8, 3) := by decide +kernel
theorem zd_Mo_cross_87 : decode zc_Mo_cross 87 = .ok (.iload 4, 2) := by decide +kernel
theorem zd_Mo_cross_89 : decode zc_Mo_cross 89 = .ok (.goto 9, 3) := by decide +kernel
theorem zd_Mo_cross_92 : decode zc_Mo_cross 92 = .ok (.aload_n 0, 1) := by decide +kernel
theorem zd_Mo_cross_93 : decode zc_Mo_cross 93 = .ok (.getfield 95, 3) := by decide +kernel
theorem zd_Mo_cross_96 : decode zc_Mo_cross 96 = .ok (.iload_n 3, 1) := by decide +kernel
theorem zd_Mo_cross_97 : decode zc_Mo_cross 97 = .ok (.iaload, 1) := by decide +kernel
theorem zd_Mo_cross_98 : decode zc_Mo_cross 98 = .ok (.istore 9, 2) := by decide +kernel
theorem zd_Mo_cross_100 : decode zc_Mo_cross 100 = .ok (.aload_n 0, 1) := by decide +kernel
theorem zd_Mo_cross_101 : decode zc_Mo_cross 101 = .ok (.getfield 80, 3) := by decide +kernel
theorem zd_Mo_cross_104 : decode zc_Mo_cross 104 = .ok (.iload 8, 2) := by decide +kernel
theorem zd_Mo_cross_106 : decode zc_Mo_cross 106 = .ok (.iaload, 1) := by decide +kernel
theorem zd_Mo_cross_107 : decode zc_Mo_cross 107 = .ok (.iload 9, 2) := by decide +kernel
theorem zd_Mo_cross_109 : decode zc_Mo_cross 109 = .ok (.if_icmp .ge 13, 3) := by decide +kernel
theorem zd_Mo_cross_112 : decode zc_Mo_cross 112 = .ok (.aload_n 0, 1) := by decide +kernel
theorem zd_Mo_cross_113 : decode zc_Mo_cross 113 = .ok (.getfield 80, 3) := by decide +kernel
theorem zd_Mo_cross_116 : decode zc_Mo_cross 116 = .ok (.iload 8, 2) := by decide +kernel
theorem zd_Mo_cross_118 : decode zc_Mo_cross 118 = .ok (.iaload, 1) := by decide +kernel
theorem zd_Mo_cross_119 : decode zc_Mo_cross 119 = .ok (.goto 5, 3) := by decide +kernel
theorem zd_Mo_cross_122 : decode zc_Mo_cross 122 = .ok (.iload 9, 2) := by decide +kernel
theorem zd_Mo_cross_124 : decode zc_Mo_cross 124 = .ok (.istore 9, 2) := by decide +kernel
theorem zd_Mo_cross_126 : decode zc_Mo_cross 126 = .ok (.aload_n 0, 1) := by decide +kernel
theorem zd_Mo_cross_127 : decode zc_Mo_cross 127 = .ok (.getfield 80, 3) := by decide +kernel
theorem zd_Mo_cross_130 : decode zc_Mo_cross 130 = .ok (.iload 7, 2) := by decide +kernel
theorem zd_Mo_cross_132 : decode zc_Mo_cross 132 = .ok (.iaload, 1) := by decide +kernel
theorem zd_Mo_cross_133 : decode zc_Mo_cross 133 = .ok (.aload_n 0, 1) := by decide +kernel
theorem zd_Mo_cross_134 : decode zc_Mo_cross 134 = .ok (.getfield 92, 3) := by decide +kernel
theorem zd_Mo_cross_137 : decode zc_Mo_cross 137 = .ok (.iload_n 3, 1) := by decide +kernel
theorem zd_Mo_cross_138 : decode zc_Mo_cross 138 = .ok (.iaload, 1) := by decide +kernel
theorem zd_Mo_cross_139 : decode zc_Mo_cross 139 = .ok (.idiv, 1) := by decide +kernel
theorem zd_Mo_cross_140 : decode zc_Mo_cross 140 = .ok (.iload 9, 2) := by decide +kernel
theorem zd_Mo_cross_142 : decode zc_Mo_cross 142 = .ok (.if_icmp .ge 20, 3) := by decide +kernel
theorem zd_Mo_cross_145 : decode zc_Mo_cross 145 = .ok (.aload_n 0, 1) := by decide +kernel
theorem zd_Mo_cross_146 : decode zc_Mo_cross 146 = .ok (.getfield 80, 3) := by decide +kernel
theorem zd_Mo_cross_149 : decode zc_Mo_cross 149 = .ok (.iload 7, 2) := by decide +kernel
theorem zd_Mo_cross_151 : decode zc_Mo_cross 151 = .ok (.iaload, 1) := by decide +kernel
theorem zd_Mo_cross_152 : decode zc_Mo_cross 152 = .ok (.aload_n 0, 1) := by decide +kernel
theorem zd_Mo_cross_153 : decode zc_Mo_cross 153 = .ok (.getfield 92, 3) := by decide +kernel
theorem zd_Mo_cross_156 : decode zc_Mo_cross 156 = .ok (.iload_n 3, 1) := by decide +kernel
theorem zd_Mo_cross_157 : decode zc_Mo_cross 157 = .ok (.iaload, 1) := by decide +kernel
theorem zd_Mo_cross_158 : decode zc_Mo_cross 158 = .ok (.idiv, 1) := by decide +kernel
theorem zd_Mo_cross_159 : decode zc_Mo_cross 159 = .ok (.goto 5, 3) := by decide +kernel
theorem zd_Mo_cross_162 : decode zc_Mo_cross 162 = .ok (.iload 9, 2) := by decide +kernel
theorem zd_Mo_cross_164 : decode zc_Mo_cross 164 = .ok (.istore 9, 2) := by decide +kernel
theorem zd_Mo_cross_166 : decode zc_Mo_cross 166 = .ok (.aload_n 0, 1) := by decide +kernel
theorem zd_Mo_cross_167 : decode zc_Mo_cross 167 = .ok (.getfield 80, 3) := by decide +kernel
theorem zd_Mo_cross_170 : decode zc_Mo_cross 170 = .ok (.iload 7, 2) := by decide +kernel
theorem zd_Mo_cross_172 : decode zc_Mo_cross 172 = .ok (.dup2, 1) := by decide +kernel
theorem zd_Mo_cross_173 : decode zc_Mo_cross 173 = .ok (.iaload, 1) := by decide +kernel
theorem zd_Mo_cross_174 : decode zc_Mo_cross 174 = .ok (.iload 9, 2) := by decide +kernel
theorem zd_Mo_cross_176 : decode zc_Mo_cross 176 = .ok (.aload_n 0, 1) := by decide +kernel
theorem zd_Mo_cross_177 : decode zc_Mo_cross 177 = .ok (.getfield 92, 3) := by decide +kernel
theorem zd_Mo_cross_180 : decode zc_Mo_cross 180 = .ok (.iload_n 3, 1) := by decide +kernel
theorem zd_Mo_cross_181 : decode zc_Mo_cross 181 = .ok (.iaload, 1) := by decide +kernel
theorem zd_Mo_cross_182 : decode zc_Mo_cross 182 = .ok (.imul, 1) := by decide +kernel
theorem zd_Mo_cross_183 : decode zc_Mo_cross 183 = .ok (.isub, 1) := by decide +kernel
theorem zd_Mo_cross_184 : decode zc_Mo_cross 184 = .ok (.iastore, 1) := by decide +kernel
theorem zd_Mo_cross_185 : decode zc_Mo_cross 185 = .ok (.aload_n 0, 1) := by decide +kernel
theorem zd_Mo_cross_186 : decode zc_Mo_cross 186 = .ok (.getfield 80, 3) := by decide +kernel
theorem zd_Mo_cross_189 : decode zc_Mo_cross 189 = .ok (.iload 7, 2) := by decide +kernel
theorem zd_Mo_cross_191 : decode zc_Mo_cross 191 = .ok (.iconst 1, 1) := by decide +kernel
theorem zd_Mo_cross_192 : decode zc_Mo_cross 192 = .ok (.iadd, 1) := by decide +kernel
theorem zd_Mo_cross_193 : decode zc_Mo_cross 193 = .ok (.dup2, 1) := by decide +kernel
theorem zd_Mo_cross_194 : decode zc_Mo_cross 194 = .ok (.iaload, 1) := by decide +kernel
theorem zd_Mo_cross_195 : decode zc_Mo_cross 195 = .ok (.iload 9, 2) := by decide +kernel
theorem zd_Mo_cross_197 : decode zc_Mo_cross 197 = .ok (.iadd, 1) := by decide +kernel
theorem zd_Mo_cross_198 : decode zc_Mo_cross 198 = .ok (.iastore, 1) := by decide +kernel
theorem zd_Mo_cross_199 : decode zc_Mo_cross 199 = .ok (.aload_n 0, 1) := by decide +kernel
theorem zd_Mo_cross_200 : decode zc_Mo_cross 200 = .ok (.getfield 80, 3) := by decide +kernel
theorem zd_Mo_cross_203 : decode zc_Mo_cross 203 = .ok (.iload 8, 2) := by decide +kernel
theorem zd_Mo_cross_205 : decode zc_Mo_cross 205 = .ok (.dup2, 1) := by decide +kernel
theorem zd_Mo_cross_206 : decode zc_Mo_cross 206 = .ok (.iaload, 1) := by decide +kernel
theorem zd_Mo_cross_207 : decode zc_Mo_cross 207 = .ok (.iload 9, 2) := by decide +kernel
theorem zd_Mo_cross_209 : decode zc_Mo_cross 209 = .ok (.isub, 1) := by decide +kernel
theorem zd_Mo_cross_210 : decode zc_Mo_cross 210 = .ok (.iastore, 1) := by decide +kernel
theorem zd_Mo_cross_211 : decode zc_Mo_cross 211 = .ok (.aload_n 0, 1) := by decide +kernel
theorem zd_Mo_cross_212 : decode zc_Mo_cross 212 = .ok (.getfield 80, 3) := by decide +kernel
theorem zd_Mo_cross_215 : decode zc_Mo_cross 215 = .ok (.iload 8, 2) := by decide +kernel
theorem zd_Mo_cross_217 : decode zc_Mo_cross 217 = .ok (.iconst 1, 1) := by decide +kernel
theorem zd_Mo_cross_218 : decode zc_Mo_cross 218 = .ok (.isub, 1) := by decide +kernel
theorem zd_Mo_cross_219 : decode zc_Mo_cross 219 = .ok (.dup2, 1) := by decide +kernel
theorem zd_Mo_cross_220 : decode zc_Mo_cross 220 = .ok (.iaload, 1) := by decide +kernel
theorem zd_Mo_cross_221 : decode zc_Mo_cross 221 = .ok (.iload 9, 2) := by decide +kernel
theorem zd_Mo_cross_223 : decode zc_Mo_cross 223 = .ok (.aload_n 0, 1) := by decide +kernel
theorem zd_Mo_cross_224 : decode zc_Mo_cross 224 = .ok (.getfield 92, 3) := by decide +kernel
theorem zd_Mo_cross_227 : decode zc_Mo_cross 227 = .ok (.iload_n 3, 1) := by decide +kernel
theorem zd_Mo_cross_228 : decode zc_Mo_cross 228 = .ok (.iaload, 1) := by decide +kernel
theorem zd_Mo_cross_229 : decode zc_Mo_cross 229 = .ok (.imul, 1) := by decide +kernel
theorem zd_Mo_cross_230 : decode zc_Mo_cross 230 = .ok (.iadd, 1) := by decide +kernel
theorem zd_Mo_cross_231 : decode zc_Mo_cross 231 = .ok (.iastore, 1) := by decide +kernel
theorem zd_Mo_cross_232 : decode zc_Mo_cross 232 = .ok (.aload_n 0, 1) := by decide +kernel
theorem zd_Mo_cross_233 : decode zc_Mo_cross 233 = .ok (.getfield 95, 3) := by decide +kernel
theorem zd_Mo_cross_236 : decode zc_Mo_cross 236 = .ok (.iload_n 3, 1) := by decide +kernel
theorem zd_Mo_cross_237 : decode zc_Mo_cross 237 = .ok (.dup2, 1) := by decide +kernel
theorem zd_Mo_cross_238 : decode zc_Mo_cross 238 = .ok (.iaload, 1) := by decide +kernel
theorem zd_Mo_cross_239 : decode zc_Mo_cross 239 = .ok (.iload 9, 2) := by decide +kernel
theorem zd_Mo_cross_241 : decode zc_Mo_cross 241 = .ok (.isub, 1) := by decide +kernel
theorem zd_Mo_cross_242 : decode zc_Mo_cross 242 = .ok (.iastore, 1) := by decide +kernel
theorem zd_Mo_cross_243 : decode zc_Mo_cross 243 = .ok (.iload 9, 2) := by decide +kernel
theorem zd_Mo_cross_245 : decode zc_Mo_cross 245 = .ok (.ireturn, 1) := by decide +kernel
theorem zd_Mo_remove_0 : decode zc_Mo_remove 0 = .ok (.aload_n 0, 1) := by decide +kernel
theorem zd_Mo_remove_1 : decode zc_Mo_remove 1 = .ok (.getfield 83, 3) := by decide +kernel
theorem zd_Mo_remove_4 : decode zc_Mo_remove 4 = .ok (.iload_n 1, 1) := by decide +kernel
theorem zd_Mo_remove_5 : decode zc_Mo_remove 5 = .ok (.dup2, 1) := by decide +kernel
theorem zd_Mo_remove_6 : decode zc_Mo_remove 6 = .ok (.iaload, 1) := by decide +kernel
theorem zd_Mo_remove_7 : decode zc_Mo_remove 7 = .ok (.iconst 1, 1) := by decide +kernel
theorem zd_Mo_remove_8 : decode zc_Mo_remove 8 = .ok (.isub, 1) := by decide +kernel
theorem zd_Mo_remove_9 : decode zc_Mo_remove 9 = .ok (.iastore, 1) := by decide +kernel
theorem zd_Mo_remove_10 : decode zc_Mo_remove 10 = .ok (.iload_n 2, 1) := by decide +kernel
theorem zd_Mo_remove_11 : decode zc_Mo_remove 11 = .ok (.istore_n 3, 1) := by decide +kernel
theorem zd_Mo_remove_12 : decode zc_Mo_remove 12 = .ok (.iload_n 3, 1) := by decide +kernel
theorem zd_Mo_remove_13 : decode zc_Mo_remove 13 = .ok (.bipush 9, 2) := by decide +kernel
theorem zd_Mo_remove_15 : decode zc_Mo_remove 15 = .ok (.iload_n 1, 1) := by decide +kernel
theorem zd_Mo_remove_16 : decode zc_Mo_remove 16 = .ok (.imul, 1) := by decide +kernel
theorem zd_Mo_remove_17 : decode zc_Mo_remove 17 = .ok (.aload_n 0, 1) := by decide +kernel
theorem zd_Mo_remove_18 : decode zc_Mo_remove 18 = .ok (.getfield 83, 3) := by decide +kernel
theorem zd_Mo_remove_21 : decode zc_Mo_remove 21 = .ok (.iload_n 1, 1) := by decide +kernel
theorem zd_Mo_remove_22 : decode zc_Mo_remove 22 = .ok (.iaload, 1) := by decide +kernel
theorem zd_Mo_remove_23 : decode zc_Mo_remove 23 = .ok (.iadd, 1) := by decide +kernel
theorem zd_Mo_remove_24 : decode zc_Mo_remove 24 = .ok (.if_icmp .ge 65, 3) := by decide +kernel
theorem zd_Mo_remove_27 : decode zc_Mo_remove 27 = .ok (.aload_n 0, 1) := by decide +kernel
theorem zd_Mo_remove_28 : decode zc_Mo_remove 28 = .ok (.getfield 86, 3) := by decide +kernel
theorem zd_Mo_remove_31 : decode zc_Mo_remove 31 = .ok (.iload_n 3, 1) := by decide +kernel
theorem zd_Mo_remove_32 : decode zc_Mo_remove 32 = .ok (.aload_n 0, 1) := by decide +kernel
theorem zd_Mo_remove_33 : decode zc_Mo_remove 33 = .ok (.getfield 86, 3) := by decide +kernel
theorem zd_Mo_remove_36 : decode zc_Mo_remove 36 = .ok (.iload_n 3, 1) := by decide +kernel
theorem zd_Mo_remove_37 : decode zc_Mo_remove 37 = .ok (.iconst 1, 1) := by decide +kernel
theorem zd_Mo_remove_38 : decode zc_Mo_remove 38 = .ok (.iadd, 1) := by decide +kernel
theorem zd_Mo_remove_39 : decode zc_Mo_remove 39 = .ok (.iaload, 1) := by decide +kernel
theorem zd_Mo_remove_40 : decode zc_Mo_remove 40 = .ok (.iastore, 1) := by decide +kernel
theorem zd_Mo_remove_41 : decode zc_Mo_remove 41 = .ok (.aload_n 0, 1) := by decide +kernel
theorem zd_Mo_remove_42 : decode zc_Mo_remove 42 = .ok (.getfield 89, 3) := by decide +kernel
theorem zd_Mo_remove_45 : decode zc_Mo_remove 45 = .ok (.iload_n 3, 1) := by decide +kernel
theorem zd_Mo_remove_46 : decode zc_Mo_remove 46 = .ok (.aload_n 0, 1) := by decide +kernel
theorem zd_Mo_remove_47 : decode zc_Mo_remove 47 = .ok (.getfield 89, 3) := by decide +kernel
theorem zd_Mo_remove_50 : decode zc_Mo_remove 50 = .ok (.iload_n 3, 1) := by decide +kernel
theorem zd_Mo_remove_51 : decode zc_Mo_remove 51 = .ok (.iconst 1, 1) := by decide +kernel
theorem zd_Mo_remove_52 : decode zc_Mo_remove 52 = .ok (.iadd, 1) := by decide +kernel
theorem zd_Mo_remove_53 : decode zc_Mo_remove 53 = .ok (.iaload, 1) := by decide +kernel
theorem zd_Mo_remove_54 : decode zc_Mo_remove 54 = .ok (.iastore, 1) := by decide +kernel
theorem zd_Mo_remove_55 : decode zc_Mo_remove 55 = .ok (.aload_n 0, 1) := by decide +kernel
theorem zd_Mo_remove_56 : decode zc_Mo_remove 56 = .ok (.getfield 92, 3) := by decide +kernel
theorem zd_Mo_remove_59 : decode zc_Mo_remove 59 = .ok (.iload_n 3, 1) := by decide +kernel
theorem zd_Mo_remove_60 : decode zc_Mo_remove 60 = .ok (.aload_n 0, 1) := by decide +kernel
theorem zd_Mo_remove_61 : decode zc_Mo_remove 61 = .ok (.getfield 92, 3) := by decide +kernel
theorem zd_Mo_remove_64 : decode zc_Mo_remove 64 = .ok (.iload_n 3, 1) := by decide +kernel
theorem zd_Mo_remove_65 : decode zc_Mo_remove 65 = .ok (.iconst 1, 1) := by decide +kernel
theorem zd_Mo_remove_66 : decode zc_Mo_remove 66 = .ok (.iadd, 1) := by decide +kernel
theorem zd_Mo_remove_67 : decode zc_Mo_remove 67 = .ok (.iaload, 1) := by decide +kernel
theorem zd_Mo_remove_68 : decode zc_Mo_remove 68 = .ok (.iastore, 1) := by decide +kernel
theorem zd_Mo_remove_69 : decode zc_Mo_remove 69 = .ok (.aload_n 0, 1) := by decide +kernel
theorem zd_Mo_remove_70 : decode zc_Mo_remove 70 = .ok (.getfield 95, 3) := by decide +kernel
theorem zd_Mo_remove_73 : decode zc_Mo_remove 73 = .ok (.iload_n 3, 1) := by decide +kernel
theorem zd_Mo_remove_74 : decode zc_Mo_remove 74 = .ok (.aload_n 0, 1) := by decide +kernel
theorem zd_Mo_remove_75 : decode zc_Mo_remove 75 = .ok (.getfield 95, 3) := by decide +kernel
theorem zd_Mo_remove_78 : decode zc_Mo_remove 78 = .ok (.iload_n 3, 1) := by decide +kernel
theorem zd_Mo_remove_79 : decode zc_Mo_remove 79 = .ok (.iconst 1, 1) := by decide +kernel
theorem zd_Mo_remove_80 : decode zc_Mo_remove 80 = .ok (.iadd, 1) := by decide +kernel
theorem zd_Mo_remove_81 : decode zc_Mo_remove 81 = .ok (.iaload, 1) := by decide +kernel
theorem zd_Mo_remove_82 : decode zc_Mo_remove 82 = .ok (.iastore, 1) := by decide +kernel
theorem zd_Mo_remove_83 : decode zc_Mo_remove 83 = .ok (.iinc 3 1, 3) := by decide +kernel
theorem zd_Mo_remove_86 : decode zc_Mo_remove 86 = .ok (.goto (-74), 3) := by decide +kernel
theorem zd_Mo_remove_89 : decode zc_Mo_remove 89 = .ok (.return_, 1) := by decide +kernel
theorem zd_Mo_trade_0 : decode zc_Mo_trade 0 = .ok (.aload_n 0, 1) := by decide +kernel
theorem zd_Mo_trade_1 : decode zc_Mo_trade 1 = .ok (.getfield 77, 3) := by decide +kernel
theorem zd_Mo_trade_4 : decode zc_Mo_trade 4 = .ok (.iload_n 2, 1) := by decide +kernel
theorem zd_Mo_trade_5 : decode zc_Mo_trade 5 = .ok (.iaload, 1) := by decide +kernel
theorem zd_Mo_trade_6 : decode zc_Mo_trade 6 = .ok (.istore_n 3, 1) := by decide +kernel
theorem zd_Mo_trade_7 : decode zc_Mo_trade 7 = .ok (.iconst 1, 1) := by decide +kernel
theorem zd_Mo_trade_8 : decode zc_Mo_trade 8 = .ok (.istore 4, 2) := by decide +kernel
theorem zd_Mo_trade_10 : decode zc_Mo_trade 10 = .ok (.iconst 0, 1) := by decide +kernel
theorem zd_Mo_trade_11 : decode zc_Mo_trade 11 = .ok (.istore 5, 2) := by decide +kernel
theorem zd_Mo_trade_13 : decode zc_Mo_trade 13 = .ok (.iload 5, 2) := by decide +kernel
theorem zd_Mo_trade_15 : decode zc_Mo_trade 15 = .ok (.sipush 1100, 3) := by decide +kernel
theorem zd_Mo_trade_18 : decode zc_Mo_trade 18 = .ok (.if_icmp .ge 187, 3) := by decide +kernel
theorem zd_Mo_trade_21 : decode zc_Mo_trade 21 = .ok (.iload 4, 2) := by decide +kernel
theorem zd_Mo_trade_23 : decode zc_Mo_trade 23 = .ok (.ifCond .eq 182, 3) := by decide +kernel
theorem zd_Mo_trade_26 : decode zc_Mo_trade 26 = .ok (.aload_n 0, 1) := by decide +kernel
theorem zd_Mo_trade_27 : decode zc_Mo_trade 27 = .ok (.iload_n 1, 1) := by decide +kernel
theorem zd_Mo_trade_28 : decode zc_Mo_trade 28 = .ok (.aload_n 0, 1) := by decide +kernel
theorem zd_Mo_trade_29 : decode zc_Mo_trade 29 = .ok (.getfield 71, 3) := by decide +kernel
theorem zd_Mo_trade_32 : decode zc_Mo_trade 32 = .ok (.iload_n 2, 1) := by decide +kernel
theorem zd_Mo_trade_33 : decode zc_Mo_trade 33 = .ok (.iaload, 1) := by decide +kernel
theorem zd_Mo_trade_34 : decode zc_Mo_trade 34 = .ok (.aload_n 0, 1) := by decide +kernel
theorem zd_Mo_trade_35 : decode zc_Mo_trade 35 = .ok (.getfield 74, 3) := by decide +kernel
theorem zd_Mo_trade_38 : decode zc_Mo_trade 38 = .ok (.iload_n 2, 1) := by decide +kernel
theorem zd_Mo_trade_39 : decode zc_Mo_trade 39 = .ok (.iaload, 1) := by decide +kernel
theorem zd_Mo_trade_40 : decode zc_Mo_trade 40 = .ok (.invokevirtual 211, 3) := by decide +kernel
theorem zd_Mo_trade_43 : decode zc_Mo_trade 43 = .ok (.istore 6, 2) := by decide +kernel
theorem zd_Mo_trade_45 : decode zc_Mo_trade 45 = .ok (.iload_n 3, 1) := by decide +kernel
theorem zd_Mo_trade_46 : decode zc_Mo_trade 46 = .ok (.ifCond .eq 8, 3) := by decide +kernel
theorem zd_Mo_trade_49 : decode zc_Mo_trade 49 = .ok (.iload 6, 2) := by decide +kernel
theorem zd_Mo_trade_51 : decode zc_Mo_trade 51 = .ok (.ifCond .ge 9, 3) := by decide +kernel
theorem zd_Mo_trade_54 : decode zc_Mo_trade 54 = .ok (.iconst 0, 1) := by decide +kernel
theorem zd_Mo_trade_55 : decode zc_Mo_trade 55 = .ok (.istore 4, 2) := by decide +kernel
theorem zd_Mo_trade_57 : decode zc_Mo_trade 57 = .ok (.goto 142, 3) := by decide +kernel
theorem zd_Mo_trade_60 : decode zc_Mo_trade 60 = .ok (.aload_n 0, 1) := by decide +kernel
theorem zd_Mo_trade_61 : decode zc_Mo_trade 61 = .ok (.iload_n 1, 1) := by decide +kernel
theorem zd_Mo_trade_62 : decode zc_Mo_trade 62 = .ok (.iload_n 2, 1) := by decide +kernel
theorem zd_Mo_trade_63 : decode zc_Mo_trade 63 = .ok (.iload 6, 2) := by decide +kernel
theorem zd_Mo_trade_65 : decode zc_Mo_trade 65 = .ok (.iload_n 3, 1) := by decide +kernel
theorem zd_Mo_trade_66 : decode zc_Mo_trade 66 = .ok (.invokevirtual 214, 3) := by decide +kernel
theorem zd_Mo_trade_69 : decode zc_Mo_trade 69 = .ok (.istore 7, 2) := by decide +kernel
theorem zd_Mo_trade_71 : decode zc_Mo_trade 71 = .ok (.iload_n 3, 1) := by decide +kernel
theorem zd_Mo_trade_72 : decode zc_Mo_trade 72 = .ok (.iload 7, 2) := by decide +kernel
theorem zd_Mo_trade_74 : decode zc_Mo_trade 74 = .ok (.isub, 1) := by decide +kernel
theorem zd_Mo_trade_75 : decode zc_Mo_trade 75 = .ok (.istore_n 3, 1) := by decide +kernel
theorem zd_Mo_trade_76 : decode zc_Mo_trade 76 = .ok (.aload_n 0, 1) := by decide +kernel
theorem zd_Mo_trade_77 : decode zc_Mo_trade 77 = .ok (.getfield 89, 3) := by decide +kernel
theorem zd_Mo_trade_80 : decode zc_Mo_trade 80 = .ok (.iload 6, 2) := by decide +kernel
theorem zd_Mo_trade_82 : decode zc_Mo_trade 82 = .ok (.iaload, 1) := by decide +kernel
theorem zd_Mo_trade_83 : decode zc_Mo_trade 83 = .ok (.iconst 1, 1) := by decide +kernel
theorem zd_Mo_trade_84 : decode zc_Mo_trade 84 = .ok (.if_icmp .ne 35, 3) := by decide +kernel
theorem zd_Mo_trade_87 : decode zc_Mo_trade 87 = .ok (.aload_n 0, 1) := by decide +kernel
theorem zd_Mo_trade_88 : decode zc_Mo_trade 88 = .ok (.getfield 80, 3) := by decide +kernel
theorem zd_Mo_trade_91 : decode zc_Mo_trade 91 = .ok (.bipush 8, 2) := by decide +kernel
theorem zd_Mo_trade_93 : decode zc_Mo_trade 93 = .ok (.iload_n 1, 1) := by decide +kernel
theorem zd_Mo_trade_94 : decode zc_Mo_trade 94 = .ok (.imul, 1) := by decide +kernel
theorem zd_Mo_trade_95 : decode zc_Mo_trade 95 = .ok (.iconst 2, 1) := by decide +kernel
theorem zd_Mo_trade_96 : decode zc_Mo_trade 96 = .ok (.aload_n 0, 1) := by decide +kernel
theorem zd_Mo_trade_97 : decode zc_Mo_trade 97 = .ok (.getfield 86, 3) := by decide +kernel
theorem zd_Mo_trade_100 : decode zc_Mo_trade 100 = .ok (.iload 6, 2) := by decide +kernel
theorem zd_Mo_trade_102 : decode zc_Mo_trade 102 = .ok (.iaload, 1) := by decide +kernel
theorem zd_Mo_trade_103 : decode zc_Mo_trade 103 = .ok (.imul, 1) := by decide +kernel
theorem zd_Mo_trade_104 : decode zc_Mo_trade 104 = .ok (.iadd, 1) := by decide +kernel
theorem zd_Mo_trade_105 : decode zc_Mo_trade 105 = .ok (.iconst 1, 1) := by decide +kernel
theorem zd_Mo_trade_106 : decode zc_Mo_trade 106 = .ok (.iadd, 1) := by decide +kernel
theorem zd_Mo_trade_107 : decode zc_Mo_trade 107 = .ok (.iaload, 1) := by decide +kernel
theorem zd_Mo_trade_108 : decode zc_Mo_trade 108 = .ok (.ifCond .ne 7, 3) := by decide +kernel
theorem zd_Mo_trade_111 : decode zc_Mo_trade 111 = .ok (.iconst 1, 1) := by decide +kernel
theorem zd_Mo_trade_112 : decode zc_Mo_trade 112 = .ok (.goto 41, 3) := by decide +kernel
theorem zd_Mo_trade_115 : decode zc_Mo_trade 115 = .ok (.iconst 0, 1) := by decide +kernel
theorem zd_Mo_trade_116 : decode zc_Mo_trade 116 = .ok (.goto 37, 3) := by decide +kernel
theorem zd_Mo_trade_119 : decode zc_Mo_trade 119 = .ok (.aload_n 0, 1) := by decide +kernel
theorem zd_Mo_trade_120 : decode zc_Mo_trade 120 = .ok (.getfield 80, 3) := by decide +kernel
theorem zd_Mo_trade_123 : decode zc_Mo_trade 123 = .ok (.bipush 8, 2) := by decide +kernel
theorem zd_Mo_trade_125 : decode zc_Mo_trade 125 = .ok (.iload_n 1, 1) := by decide +kernel
theorem zd_Mo_trade_126 : decode zc_Mo_trade 126 = .ok (.imul, 1) := by decide +kernel
theorem zd_Mo_trade_127 : decode zc_Mo_trade 127 = .ok (.iconst 2, 1) := by decide +kernel
theorem zd_Mo_trade_128 : decode zc_Mo_trade 128 = .ok (.aload_n 0, 1) := by decide +kernel
theorem zd_Mo_trade_129 : decode zc_Mo_trade 129 = .ok (.getfield 86, 3) := by decide +kernel
theorem zd_Mo_trade_132 : decode zc_Mo_trade 132 = .ok (.iload 6, 2) := by decide +kernel
theorem zd_Mo_trade_134 : decode zc_Mo_trade 134 = .ok (.iaload, 1) := by decide +kernel
theorem zd_Mo_trade_135 : decode zc_Mo_trade 135 = .ok (.imul, 1) := by decide +kernel
theorem zd_Mo_trade_136 : decode zc_Mo_trade 136 = .ok (.iadd, 1) := by decide +kernel
theorem zd_Mo_trade_137 : decode zc_Mo_trade 137 = .ok (.iaload, 1) := by decide +kernel
theorem zd_Mo_trade_138 : decode zc_Mo_trade 138 = .ok (.aload_n 0, 1) := by decide +kernel
theorem zd_Mo_trade_139 : decode zc_Mo_trade 139 = .ok (.getfield 92, 3) := by decide +kernel
theorem zd_Mo_trade_142 : decode zc_Mo_trade 142 = .ok (.iload 6, 2) := by decide +kernel
theorem zd_Mo_trade_144 : decode zc_Mo_trade 144 = .ok (.iaload, 1) := by decide +kernel
theorem zd_Mo_trade_145 : decode zc_Mo_trade 145 = .ok (.if_icmp .ge 7, 3) := by decide +kernel
theorem zd_Mo_trade_148 : decode zc_Mo_trade 148 = .ok (.iconst 1, 1) := by decide +kernel
theorem zd_Mo_trade_149 : decode zc_Mo_trade 149 = .ok (.goto 4, 3) := by decide +kernel
theorem zd_Mo_trade_152 : decode zc_Mo_trade 152 = .ok (.iconst 0, 1) := by decide +kernel
theorem zd_Mo_trade_153 : decode zc_Mo_trade 153 = .ok (.istore 8, 2) := by decide +kernel
theorem zd_Mo_trade_155 : decode zc_Mo_trade 155 = .ok (.iload 7, 2) := by decide +kernel
theorem zd_Mo_trade_157 : decode zc_Mo_trade 157 = .ok (.ifCond .gt 8, 3) := by decide +kernel
theorem zd_Mo_trade_160 : decode zc_Mo_trade 160 = .ok (.iload 8, 2) := by decide +kernel
theorem zd_Mo_trade_162 : decode zc_Mo_trade 162 = .ok (.ifCond .eq 7, 3) := by decide +kernel
theorem zd_Mo_trade_165 : decode zc_Mo_trade 165 = .ok (.iconst 1, 1) := by decide +kernel
theorem zd_Mo_trade_166 : decode zc_Mo_trade 166 = .ok (.goto 4, 3) := by decide +kernel
theorem zd_Mo_trade_169 : decode zc_Mo_trade 169 = .ok (.iconst 0, 1) := by decide +kernel
theorem zd_Mo_trade_170 : decode zc_Mo_trade 170 = .ok (.istore 4, 2) := by decide +kernel
theorem zd_Mo_trade_172 : decode zc_Mo_trade 172 = .ok (.aload_n 0, 1) := by decide +kernel
theorem zd_Mo_trade_173 : decode zc_Mo_trade 173 = .ok (.getfield 95, 3) := by decide +kernel
theorem zd_Mo_trade_176 : decode zc_Mo_trade 176 = .ok (.iload 6, 2) := by decide +kernel
theorem zd_Mo_trade_178 : decode zc_Mo_trade 178 = .ok (.iaload, 1) := by decide +kernel
theorem zd_Mo_trade_179 : decode zc_Mo_trade 179 = .ok (.ifCond .eq 13, 3) := by decide +kernel
theorem zd_Mo_trade_182 : decode zc_Mo_trade 182 = .ok (.iload 7, 2) := by decide +kernel
theorem zd_Mo_trade_184 : decode zc_Mo_trade 184 = .ok (.ifCond .ne 15, 3) := by decide +kernel
theorem zd_Mo_trade_187 : decode zc_Mo_trade 187 = .ok (.iload 8, 2) := by decide +kernel
theorem zd_Mo_trade_189 : decode zc_Mo_trade 189 = .ok (.ifCond .eq 10, 3) := by decide +kernel
theorem zd_Mo_trade_192 : decode zc_Mo_trade 192 = .ok (.aload_n 0, 1) := by decide +kernel
theorem zd_Mo_trade_193 : decode zc_Mo_trade 193 = .ok (.iload_n 1, 1) := by decide +kernel
theorem zd_Mo_trade_194 : decode zc_Mo_trade 194 = .ok (.iload 6, 2) := by decide +kernel
theorem zd_Mo_trade_196 : decode zc_Mo_trade 196 = .ok (.invokevirtual 218, 3) := by decide +kernel
theorem zd_Mo_trade_199 : decode zc_Mo_trade 199 = .ok (.iinc 5 1, 3) := by decide +kernel
theorem zd_Mo_trade_202 : decode zc_Mo_trade 202 = .ok (.goto (-189), 3) := by decide +kernel
theorem zd_Mo_trade_205 : decode zc_Mo_trade 205 = .ok (.iload_n 3, 1) := by decide +kernel
theorem zd_Mo_trade_206 : decode zc_Mo_trade 206 = .ok (.ifCond .le 84, 3) := by decide +kernel
theorem zd_Mo_trade_209 : decode zc_Mo_trade 209 = .ok (.aload_n 0, 1) := by decide +kernel
theorem zd_Mo_trade_210 : decode zc_Mo_trade 210 = .ok (.getfield 83, 3) := by decide +kernel
theorem zd_Mo_trade_213 : decode zc_Mo_trade 213 = .ok (.iload_n 1, 1) := by decide +kernel
theorem zd_Mo_trade_214 : decode zc_Mo_trade 214 = .ok (.iaload, 1) := by decide +kernel
theorem zd_Mo_trade_215 : decode zc_Mo_trade 215 = .ok (.bipush 8, 2) := by decide +kernel
theorem zd_Mo_trade_217 : decode zc_Mo_trade 217 = .ok (.if_icmp .ge 73, 3) := by decide +kernel
theorem zd_Mo_trade_220 : decode zc_Mo_trade 220 = .ok (.bipush 9, 2) := by decide +kernel
theorem zd_Mo_trade_222 : decode zc_Mo_trade 222 = .ok (.iload_n 1, 1) := by decide +kernel
theorem zd_Mo_trade_223 : decode zc_Mo_trade 223 = .ok (.imul, 1) := by decide +kernel
theorem zd_Mo_trade_224 : decode zc_Mo_trade 224 = .ok (.aload_n 0, 1) := by decide +kernel
theorem zd_Mo_trade_225 : decode zc_Mo_trade 225 = .ok (.getfield 83, 3) := by decide +kernel
theorem zd_Mo_trade_228 : decode zc_Mo_trade 228 = .ok (.iload_n 1, 1) := by decide +kernel
theorem zd_Mo_trade_229 : decode zc_Mo_trade 229 = .ok (.iaload, 1) := by decide +kernel
theorem zd_Mo_trade_230 : decode zc_Mo_trade 230 = .ok (.iadd, 1) := by decide +kernel
theorem zd_Mo_trade_231 : decode zc_Mo_trade 231 = .ok (.istore 5, 2) := by decide +kernel
theorem zd_Mo_trade_233 : decode zc_Mo_trade 233 = .ok (.aload_n 0, 1) := by decide +kernel
theorem zd_Mo_trade_234 : decode zc_Mo_trade 234 = .ok (.getfield 86, 3) := by decide +kernel
theorem zd_Mo_trade_237 : decode zc_Mo_trade 237 = .ok (.iload 5, 2) := by decide +kernel
theorem zd_Mo_trade_239 : decode zc_Mo_trade 239 = .ok (.aload_n 0, 1) := by decide +kernel
theorem zd_Mo_trade_240 : decode zc_Mo_trade 240 = .ok (.getfield 68, 3) := by decide +kernel
theorem zd_Mo_trade_243 : decode zc_Mo_trade 243 = .ok (.iload_n 2, 1) := by decide +kernel
theorem zd_Mo_trade_244 : decode zc_Mo_trade 244 = .ok (.iaload, 1) := by decide +kernel
theorem zd_Mo_trade_245 : decode zc_Mo_trade 245 = .ok (.iastore, 1) := by decide +kernel
theorem zd_Mo_trade_246 : decode zc_Mo_trade 246 = .ok (.aload_n 0, 1) := by decide +kernel
theorem zd_Mo_trade_247 : decode zc_Mo_trade 247 = .ok (.getfield 89, 3) := by decide +kernel
theorem zd_Mo_trade_250 : decode zc_Mo_trade 250 = .ok (.iload 5, 2) := by decide +kernel
theorem zd_Mo_trade_252 : decode zc_Mo_trade 252 = .ok (.aload_n 0, 1) := by decide +kernel
theorem zd_Mo_trade_253 : decode zc_Mo_trade 253 = .ok (.getfield 71, 3) := by decide +kernel
theorem zd_Mo_trade_256 : decode zc_Mo_trade 256 = .ok (.iload_n 2, 1) := by decide +kernel
theorem zd_Mo_trade_257 : decode zc_Mo_trade 257 = .ok (.iaload, 1) := by decide +kernel
theorem zd_Mo_trade_258 : decode zc_Mo_trade 258 = .ok (.iastore, 1) := by decide +kernel
theorem zd_Mo_trade_259 : decode zc_Mo_trade 259 = .ok (.aload_n 0, 1) := by decide +kernel
theorem zd_Mo_trade_260 : decode zc_Mo_trade 260 = .ok (.getfield 92, 3) := by decide +kernel
theorem zd_Mo_trade_263 : decode zc_Mo_trade 263 = .ok (.iload 5, 2) := by decide +kernel
theorem zd_Mo_trade_265 : decode zc_Mo_trade 265 = .ok (.aload_n 0, 1) := by decide +kernel
theorem zd_Mo_trade_266 : decode zc_Mo_trade 266 = .ok (.getfield 74, 3) := by decide +kernel
theorem zd_Mo_trade_269 : decode zc_Mo_trade 269 = .ok (.iload_n 2, 1) := by decide +kernel
theorem zd_Mo_trade_270 : decode zc_Mo_trade 270 = .ok (.iaload, 1) := by decide +kernel
theorem zd_Mo_trade_271 : decode zc_Mo_trade 271 = .ok (.iastore, 1) := by decide +kernel
theorem zd_Mo_trade_272 : decode zc_Mo_trade 272 = .ok (.aload_n 0, 1) := by decide +kernel
theorem zd_Mo_trade_273 : decode zc_Mo_trade 273 = .ok (.getfield 95, 3) := by decide +kernel
theorem zd_Mo_trade_276 : decode zc_Mo_trade 276 = .ok (.iload 5, 2) := by decide +kernel
theorem zd_Mo_trade_278 : decode zc_Mo_trade 278 = .ok (.iload_n 3, 1) := by decide +kernel
theorem zd_Mo_trade_279 : decode zc_Mo_trade 279 = .ok (.iastore, 1) := by decide +kernel
theorem zd_Mo_trade_280 : decode zc_Mo_trade 280 = .ok (.aload_n 0, 1) := by decide +kernel
theorem zd_Mo_trade_281 : decode zc_Mo_trade 281 = .ok (.getfield 83, 3) := by decide +kernel
theorem zd_Mo_trade_284 : decode zc_Mo_trade 284 = .ok (.iload_n 1, 1) := by decide +kernel
theorem zd_Mo_trade_285 : decode zc_Mo_trade 285 = .ok (.dup2, 1) := by decide +kernel
theorem zd_Mo_trade_286 : decode zc_Mo_trade 286 = .ok (.iaload, 1) := by decide +kernel
theorem zd_Mo_trade_287 : decode zc_Mo_trade 287 = .ok (.iconst 1, 1) := by decide +kernel
theorem zd_Mo_trade_288 : decode zc_Mo_trade 288 = .ok (.iadd, 1) := by decide +kernel
theorem zd_Mo_trade_289 : decode zc_Mo_trade 289 = .ok (.iastore, 1) := by decide +kernel
theorem zd_Mo_trade_290 : decode zc_Mo_trade 290 = .ok (.return_, 1) := by decide +kernel
theorem zd_Mo_carry_0 : decode zc_Mo_carry 0 = .ok (.bipush 8, 2) := by decide +kernel
theorem zd_Mo_carry_2 : decode zc_Mo_carry 2 = .ok (.iload_n 1, 1) := by decide +kernel
theorem zd_Mo_carry_3 : decode zc_Mo_carry 3 = .ok (.imul, 1) := by decide +kernel
theorem zd_Mo_carry_4 : decode zc_Mo_carry 4 = .ok (.iconst 2, 1) := by decide +kernel
theorem zd_Mo_carry_5 : decode zc_Mo_carry 5 = .ok (.aload_n 0, 1) := by decide +kernel
theorem zd_Mo_carry_6 : decode zc_Mo_carry 6 = .ok (.getfield 68, 3) := by decide +kernel
theorem zd_Mo_carry_9 : decode zc_Mo_carry 9 = .ok (.iload_n 2, 1) := by decide +kernel
theorem zd_Mo_carry_10 : decode zc_Mo_carry 10 = .ok (.iaload, 1) := by decide +kernel
theorem zd_Mo_carry_11 : decode zc_Mo_carry 11 = .ok (.imul, 1) := by decide +kernel
theorem zd_Mo_carry_12 : decode zc_Mo_carry 12 = .ok (.iadd, 1) := by decide +kernel
theorem zd_Mo_carry_13 : decode zc_Mo_carry 13 = .ok (.istore_n 3, 1) := by decide +kernel
theorem zd_Mo_carry_14 : decode zc_Mo_carry 14 = .ok (.aload_n 0, 1) := by decide +kernel
theorem zd_Mo_carry_15 : decode zc_Mo_carry 15 = .ok (.getfield 80, 3) := by decide +kernel
theorem zd_Mo_carry_18 : decode zc_Mo_carry 18 = .ok (.iload_n 3, 1) := by decide +kernel
theorem zd_Mo_carry_19 : decode zc_Mo_carry 19 = .ok (.iaload, 1) := by decide +kernel
theorem zd_Mo_carry_20 : decode zc_Mo_carry 20 = .ok (.ifCond .ne 4, 3) := by decide +kernel
theorem zd_Mo_carry_23 : decode zc_Mo_carry 23 = .ok (.return_, 1) := by decide +kernel
theorem zd_Mo_carry_24 : decode zc_Mo_carry 24 = .ok (.aload_n 0, 1) := by decide +kernel
theorem zd_Mo_carry_25 : decode zc_Mo_carry 25 = .ok (.getfield 80, 3) := by decide +kernel
theorem zd_Mo_carry_28 : decode zc_Mo_carry 28 = .ok (.iload_n 3, 1) := by decide +kernel
theorem zd_Mo_carry_29 : decode zc_Mo_carry 29 = .ok (.dup2, 1) := by decide +kernel
theorem zd_Mo_carry_30 : decode zc_Mo_carry 30 = .ok (.iaload, 1) := by decide +kernel
theorem zd_Mo_carry_31 : decode zc_Mo_carry 31 = .ok (.iconst 1, 1) := by decide +kernel
theorem zd_Mo_carry_32 : decode zc_Mo_carry 32 = .ok (.isub, 1) := by decide +kernel
theorem zd_Mo_carry_33 : decode zc_Mo_carry 33 = .ok (.iastore, 1) := by decide +kernel
theorem zd_Mo_carry_34 : decode zc_Mo_carry 34 = .ok (.aload_n 0, 1) := by decide +kernel
theorem zd_Mo_carry_35 : decode zc_Mo_carry 35 = .ok (.getfield 65, 3) := by decide +kernel
theorem zd_Mo_carry_38 : decode zc_Mo_carry 38 = .ok (.iload_n 2, 1) := by decide +kernel
theorem zd_Mo_carry_39 : decode zc_Mo_carry 39 = .ok (.iaload, 1) := by decide +kernel
theorem zd_Mo_carry_40 : decode zc_Mo_carry 40 = .ok (.iconst 1, 1) := by decide +kernel
theorem zd_Mo_carry_41 : decode zc_Mo_carry 41 = .ok (.if_icmp .ne 10, 3) := by decide +kernel
theorem zd_Mo_carry_44 : decode zc_Mo_carry 44 = .ok (.aload_n 0, 1) := by decide +kernel
theorem zd_Mo_carry_45 : decode zc_Mo_carry 45 = .ok (.iload_n 1, 1) := by decide +kernel
theorem zd_Mo_carry_46 : decode zc_Mo_carry 46 = .ok (.iload_n 2, 1) := by decide +kernel
theorem zd_Mo_carry_47 : decode zc_Mo_carry 47 = .ok (.invokevirtual 208, 3) := by decide +kernel
theorem zd_Mo_carry_50 : decode zc_Mo_carry 50 = .ok (.return_, 1) := by decide +kernel
theorem zd_Mo_carry_51 : decode zc_Mo_carry 51 = .ok (.aload_n 0, 1) := by decide +kernel
theorem zd_Mo_carry_52 : decode zc_Mo_carry 52 = .ok (.getfield 71, 3) := by decide +kernel
theorem zd_Mo_carry_55 : decode zc_Mo_carry 55 = .ok (.iload_n 2, 1) := by decide +kernel
theorem zd_Mo_carry_56 : decode zc_Mo_carry 56 = .ok (.iaload, 1) := by decide +kernel
theorem zd_Mo_carry_57 : decode zc_Mo_carry 57 = .ok (.istore 4, 2) := by decide +kernel
theorem zd_Mo_carry_59 : decode zc_Mo_carry 59 = .ok (.aload_n 0, 1) := by decide +kernel
theorem zd_Mo_carry_60 : decode zc_Mo_carry 60 = .ok (.getfield 80, 3) := by decide +kernel
theorem zd_Mo_carry_63 : decode zc_Mo_carry 63 = .ok (.iload_n 3, 1) := by decide +kernel
theorem zd_Mo_carry_64 : decode zc_Mo_carry 64 = .ok (.iload 4, 2) := by decide +kernel
theorem zd_Mo_carry_66 : decode zc_Mo_carry 66 = .ok (.iadd, 1) := by decide +kernel
theorem zd_Mo_carry_67 : decode zc_Mo_carry 67 = .ok (.iaload, 1) := by decide +kernel
theorem zd_Mo_carry_68 : decode zc_Mo_carry 68 = .ok (.aload_n 0, 1) := by decide +kernel
theorem zd_Mo_carry_69 : decode zc_Mo_carry 69 = .ok (.getfield 77, 3) := by decide +kernel
theorem zd_Mo_carry_72 : decode zc_Mo_carry 72 = .ok (.iload_n 2, 1) := by decide +kernel
theorem zd_Mo_carry_73 : decode zc_Mo_carry 73 = .ok (.iaload, 1) := by decide +kernel
theorem zd_Mo_carry_74 : decode zc_Mo_carry 74 = .ok (.if_icmp .ge 4, 3) := by decide +kernel
theorem zd_Mo_carry_77 : decode zc_Mo_carry 77 = .ok (.return_, 1) := by decide +kernel
theorem zd_Mo_carry_78 : decode zc_Mo_carry 78 = .ok (.aload_n 0, 1) := by decide +kernel
theorem zd_Mo_carry_79 : decode zc_Mo_carry 79 = .ok (.getfield 80, 3) := by decide +kernel
theorem zd_Mo_carry_82 : decode zc_Mo_carry 82 = .ok (.iload_n 3, 1) := by decide +kernel
theorem zd_Mo_carry_83 : decode zc_Mo_carry 83 = .ok (.iload 4, 2) := by decide +kernel
theorem zd_Mo_carry_85 : decode zc_Mo_carry 85 = .ok (.iadd, 1) := by decide +kernel
theorem zd_Mo_carry_86 : decode zc_Mo_carry 86 = .ok (.dup2, 1) := by decide +kernel
theorem zd_Mo_carry_87 : decode zc_Mo_carry 87 = .ok (.iaload, 1) := by decide +kernel
theorem zd_Mo_carry_88 : decode zc_Mo_carry 88 = .ok (.aload_n 0, 1) := by decide +kernel
theorem zd_Mo_carry_89 : decode zc_Mo_carry 89 = .ok (.getfield 77, 3) := by decide +kernel
theorem zd_Mo_carry_92 : decode zc_Mo_carry 92 = .ok (.iload_n 2, 1) := by decide +kernel
theorem zd_Mo_carry_93 : decode zc_Mo_carry 93 = .ok (.iaload, 1) := by decide +kernel
theorem zd_Mo_carry_94 : decode zc_Mo_carry 94 = .ok (.isub, 1) := by decide +kernel
theorem zd_Mo_carry_95 : decode zc_Mo_carry 95 = .ok (.iastore, 1) := by decide +kernel
theorem zd_Mo_carry_96 : decode zc_Mo_carry 96 = .ok (.aload_n 0, 1) := by decide +kernel
theorem zd_Mo_carry_97 : decode zc_Mo_carry 97 = .ok (.getfield 80, 3) := by decide +kernel
theorem zd_Mo_carry_100 : decode zc_Mo_carry 100 = .ok (.bipush 8, 2) := by decide +kernel
theorem zd_Mo_carry_102 : decode zc_Mo_carry 102 = .ok (.iload_n 1, 1) := by decide +kernel
theorem zd_Mo_carry_103 : decode zc_Mo_carry 103 = .ok (.imul, 1) := by decide +kernel
theorem zd_Mo_carry_104 : decode zc_Mo_carry 104 = .ok (.iconst 2, 1) := by decide +kernel
theorem zd_Mo_carry_105 : decode zc_Mo_carry 105 = .ok (.aload_n 0, 1) := by decide +kernel
theorem zd_Mo_carry_106 : decode zc_Mo_carry 106 = .ok (.getfield 74, 3) := by decide +kernel
theorem zd_Mo_carry_109 : decode zc_Mo_carry 109 = .ok (.iload_n 2, 1) := by decide +kernel
theorem zd_Mo_carry_110 : decode zc_Mo_carry 110 = .ok (.iaload, 1) := by decide +kernel
theorem zd_Mo_carry_111 : decode zc_Mo_carry 111 = .ok (.imul, 1) := by decide +kernel
theorem zd_Mo_carry_112 : decode zc_Mo_carry 112 = .ok (.iadd, 1) := by decide +kernel
theorem zd_Mo_carry_113 : decode zc_Mo_carry 113 = .ok (.iload 4, 2) := by decide +kernel
theorem zd_Mo_carry_115 : decode zc_Mo_carry 115 = .ok (.iadd, 1) := by decide +kernel
theorem zd_Mo_carry_116 : decode zc_Mo_carry 116 = .ok (.dup2, 1) := by decide +kernel
theorem zd_Mo_carry_117 : decode zc_Mo_carry 117 = .ok (.iaload, 1) := by decide +kernel
theorem zd_Mo_carry_118 : decode zc_Mo_carry 118 = .ok (.aload_n 0, 1) := by decide +kernel
theorem zd_Mo_carry_119 : decode zc_Mo_carry 119 = .ok (.getfield 77, 3) := by decide +kernel
theorem zd_Mo_carry_122 : decode zc_Mo_carry 122 = .ok (.iload_n 2, 1) := by decide +kernel
theorem zd_Mo_carry_123 : decode zc_Mo_carry 123 = .ok (.iaload, 1) := by decide +kernel
theorem zd_Mo_carry_124 : decode zc_Mo_carry 124 = .ok (.iadd, 1) := by decide +kernel
theorem zd_Mo_carry_125 : decode zc_Mo_carry 125 = .ok (.iastore, 1) := by decide +kernel
theorem zd_Mo_carry_126 : decode zc_Mo_carry 126 = .ok (.return_, 1) := by decide +kernel
theorem zd_Mo_externalize_0 : decode zc_Mo_externalize 0 = .ok (.aload_n 0, 1) := by decide +kernel
theorem zd_Mo_externalize_1 : decode zc_Mo_externalize 1 = .ok (.getfield 26, 3) := by decide +kernel
theorem zd_Mo_externalize_4 : decode zc_Mo_externalize 4 = .ok (.iload_n 1, 1) := by decide +kernel
theorem zd_Mo_externalize_5 : decode zc_Mo_externalize 5 = .ok (.iaload, 1) := by decide +kernel
theorem zd_Mo_externalize_6 : decode zc_Mo_externalize 6 = .ok (.istore_n 3, 1) := by decide +kernel
theorem zd_Mo_externalize_7 : decode zc_Mo_externalize 7 = .ok (.aload_n 0, 1) := by decide +kernel
theorem zd_Mo_externalize_8 : decode zc_Mo_externalize 8 = .ok (.getfield 47, 3) := by decide +kernel
theorem zd_Mo_externalize_11 : decode zc_Mo_externalize 11 = .ok (.iconst 3, 1) := by decide +kernel
theorem zd_Mo_externalize_12 : decode zc_Mo_externalize 12 = .ok (.iload_n 1, 1) := by decide +kernel
theorem zd_Mo_externalize_13 : decode zc_Mo_externalize 13 = .ok (.imul, 1) := by decide +kernel
theorem zd_Mo_externalize_14 : decode zc_Mo_externalize 14 = .ok (.iload_n 3, 1) := by decide +kernel
theorem zd_Mo_externalize_15 : decode zc_Mo_externalize 15 = .ok (.iadd, 1) := by decide +kernel
theorem zd_Mo_externalize_16 : decode zc_Mo_externalize 16 = .ok (.iload_n 2, 1) := by decide +kernel
theorem zd_Mo_externalize_17 : decode zc_Mo_externalize 17 = .ok (.iastore, 1) := by decide +kernel
theorem zd_Mo_externalize_18 : decode zc_Mo_externalize 18 = .ok (.iconst 0, 1) := by decide +kernel
theorem zd_Mo_externalize_19 : decode zc_Mo_externalize 19 = .ok (.istore 4, 2) := by decide +kernel
theorem zd_Mo_externalize_21 : decode zc_Mo_externalize 21 = .ok (.iload 4, 2) := by decide +kernel
theorem zd_Mo_externalize_23 : decode zc_Mo_externalize 23 = .ok (.iconst 3, 1) := by decide +kernel
theorem zd_Mo_externalize_24 : decode zc_Mo_externalize 24 = .ok (.if_icmp .ge 44, 3) := by decide +kernel
theorem zd_Mo_externalize_27 : decode zc_Mo_externalize 27 = .ok (.iload_n 2, 1) := by decide +kernel
theorem zd_Mo_externalize_28 : decode zc_Mo_externalize 28 = .ok (.iload 4, 2) := by decide +kernel
theorem zd_Mo_externalize_30 : decode zc_Mo_externalize 30 = .ok (.ishr, 1) := by decide +kernel
theorem zd_Mo_externalize_31 : decode zc_Mo_externalize 31 = .ok (.iconst 1, 1) := by decide +kernel
theorem zd_Mo_externalize_32 : decode zc_Mo_externalize 32 = .ok (.iand, 1) := by decide +kernel
theorem zd_Mo_externalize_33 : decode zc_Mo_externalize 33 = .ok (.iconst 1, 1) := by decide +kernel
theorem zd_Mo_externalize_34 : decode zc_Mo_externalize 34 = .ok (.if_icmp .ne 28, 3) := by decide +kernel
theorem zd_Mo_externalize_37 : decode zc_Mo_externalize 37 = .ok (.aload_n 0, 1) := by decide +kernel
theorem zd_Mo_externalize_38 : decode zc_Mo_externalize 38 = .ok (.getfield 62, 3) := by decide +kernel
theorem zd_Mo_externalize_41 : decode zc_Mo_externalize 41 = .ok (.iconst 3, 1) := by decide +kernel
theorem zd_Mo_externalize_42 : decode zc_Mo_externalize 42 = .ok (.iload_n 3, 1) := by decide +kernel
theorem zd_Mo_externalize_43 : decode zc_Mo_externalize 43 = .ok (.imul, 1) := by decide +kernel
theorem zd_Mo_externalize_44 : decode zc_Mo_externalize 44 = .ok (.iload 4, 2) := by decide +kernel
theorem zd_Mo_externalize_46 : decode zc_Mo_externalize 46 = .ok (.iadd, 1) := by decide +kernel
theorem zd_Mo_externalize_47 : decode zc_Mo_externalize 47 = .ok (.baload, 1) := by decide +kernel
theorem zd_Mo_externalize_48 : decode zc_Mo_externalize 48 = .ok (.ifCond .eq 14, 3) := by decide +kernel
theorem zd_Mo_externalize_51 : decode zc_Mo_externalize 51 = .ok (.aload_n 0, 1) := by decide +kernel
theorem zd_Mo_externalize_52 : decode zc_Mo_externalize 52 = .ok (.iload_n 1, 1) := by decide +kernel
theorem zd_Mo_externalize_53 : decode zc_Mo_externalize 53 = .ok (.iconst 3, 1) := by decide +kernel
theorem zd_Mo_externalize_54 : decode zc_Mo_externalize 54 = .ok (.iload_n 3, 1) := by decide +kernel
theorem zd_Mo_externalize_55 : decode zc_Mo_externalize 55 = .ok (.imul, 1) := by decide +kernel
theorem zd_Mo_externalize_56 : decode zc_Mo_externalize 56 = .ok (.iload 4, 2) := by decide +kernel
theorem zd_Mo_externalize_58 : decode zc_Mo_externalize 58 = .ok (.iadd, 1) := by decide +kernel
theorem zd_Mo_externalize_59 : decode zc_Mo_externalize 59 = .ok (.invokevirtual 187, 3) := by decide +kernel
theorem zd_Mo_externalize_62 : decode zc_Mo_externalize 62 = .ok (.iinc 4 1, 3) := by decide +kernel
theorem zd_Mo_externalize_65 : decode zc_Mo_externalize 65 = .ok (.goto (-44), 3) := by decide +kernel
theorem zd_Mo_externalize_68 : decode zc_Mo_externalize 68 = .ok (.aload_n 0, 1) := by decide +kernel
theorem zd_Mo_externalize_69 : decode zc_Mo_externalize 69 = .ok (.getfield 50, 3) := by decide +kernel
theorem zd_Mo_externalize_72 : decode zc_Mo_externalize 72 = .ok (.iload_n 1, 1) := by decide +kernel
theorem zd_Mo_externalize_73 : decode zc_Mo_externalize 73 = .ok (.bipush 31, 2) := by decide +kernel
theorem zd_Mo_externalize_75 : decode zc_Mo_externalize 75 = .ok (.bipush 31, 2) := by decide +kernel
theorem zd_Mo_externalize_77 : decode zc_Mo_externalize 77 = .ok (.aload_n 0, 1) := by decide +kernel
theorem zd_Mo_externalize_78 : decode zc_Mo_externalize 78 = .ok (.getfield 50, 3) := by decide +kernel
theorem zd_Mo_externalize_81 : decode zc_Mo_externalize 81 = .ok (.iload_n 1, 1) := by decide +kernel
theorem zd_Mo_externalize_82 : decode zc_Mo_externalize 82 = .ok (.iaload, 1) := by decide +kernel
theorem zd_Mo_externalize_83 : decode zc_Mo_externalize 83 = .ok (.imul, 1) := by decide +kernel
theorem zd_Mo_externalize_84 : decode zc_Mo_externalize 84 = .ok (.iload_n 3, 1) := by decide +kernel
theorem zd_Mo_externalize_85 : decode zc_Mo_externalize 85 = .ok (.iadd, 1) := by decide +kernel
theorem zd_Mo_externalize_86 : decode zc_Mo_externalize 86 = .ok (.imul, 1) := by decide +kernel
theorem zd_Mo_externalize_87 : decode zc_Mo_externalize 87 = .ok (.iload_n 2, 1) := by decide +kernel
theorem zd_Mo_externalize_88 : decode zc_Mo_externalize 88 = .ok (.iadd, 1) := by decide +kernel
theorem zd_Mo_externalize_89 : decode zc_Mo_externalize 89 = .ok (.iastore, 1) := by decide +kernel
theorem zd_Mo_externalize_90 : decode zc_Mo_externalize 90 = .ok (.aload_n 0, 1) := by decide +kernel
theorem zd_Mo_externalize_91 : decode zc_Mo_externalize 91 = .ok (.getfield 26, 3) := by decide +kernel
theorem zd_Mo_externalize_94 : decode zc_Mo_externalize 94 = .ok (.iload_n 1, 1) := by decide +kernel
theorem zd_Mo_externalize_95 : decode zc_Mo_externalize 95 = .ok (.dup2, 1) := by decide +kernel
theorem zd_Mo_externalize_96 : decode zc_Mo_externalize 96 = .ok (.iaload, 1) := by decide +kernel
theorem zd_Mo_externalize_97 : decode zc_Mo_externalize 97 = .ok (.iconst 1, 1) := by decide +kernel
theorem zd_Mo_externalize_98 : decode zc_Mo_externalize 98 = .ok (.iadd, 1) := by decide +kernel
theorem zd_Mo_externalize_99 : decode zc_Mo_externalize 99 = .ok (.iastore, 1) := by decide +kernel
theorem zd_Mo_externalize_100 : decode zc_Mo_externalize 100 = .ok (.aload_n 0, 1) := by decide +kernel
theorem zd_Mo_externalize_101 : decode zc_Mo_externalize 101 = .ok (.getfield 29, 3) := by decide +kernel
theorem zd_Mo_externalize_104 : decode zc_Mo_externalize 104 = .ok (.iload_n 1, 1) := by decide +kernel
theorem zd_Mo_externalize_105 : decode zc_Mo_externalize 105 = .ok (.iconst 0, 1) := by decide +kernel
theorem zd_Mo_externalize_106 : decode zc_Mo_externalize 106 = .ok (.iastore, 1) := by decide +kernel
theorem zd_Mo_externalize_107 : decode zc_Mo_externalize 107 = .ok (.aload_n 0, 1) := by decide +kernel
theorem zd_Mo_externalize_108 : decode zc_Mo_externalize 108 = .ok (.getfield 32, 3) := by decide +kernel
theorem zd_Mo_externalize_111 : decode zc_Mo_externalize 111 = .ok (.iload_n 1, 1) := by decide +kernel
theorem zd_Mo_externalize_112 : decode zc_Mo_externalize 112 = .ok (.iconst 0, 1) := by decide +kernel
theorem zd_Mo_externalize_113 : decode zc_Mo_externalize 113 = .ok (.iastore, 1) := by decide +kernel
theorem zd_Mo_externalize_114 : decode zc_Mo_externalize 114 = .ok (.aload_n 0, 1) := by decide +kernel
theorem zd_Mo_externalize_115 : decode zc_Mo_externalize 115 = .ok (.getfield 35, 3) := by decide +kernel
theorem zd_Mo_externalize_118 : decode zc_Mo_externalize 118 = .ok (.iload_n 1, 1) := by decide +kernel
theorem zd_Mo_externalize_119 : decode zc_Mo_externalize 119 = .ok (.iconst 0, 1) := by decide +kernel
theorem zd_Mo_externalize_120 : decode zc_Mo_externalize 120 = .ok (.iastore, 1) := by decide +kernel
theorem zd_Mo_externalize_121 : decode zc_Mo_externalize 121 = .ok (.aload_n 0, 1) := by decide +kernel
theorem zd_Mo_externalize_122 : decode zc_Mo_externalize 122 = .ok (.getfield 38, 3) := by decide +kernel
theorem zd_Mo_externalize_125 : decode zc_Mo_externalize 125 = .ok (.iload_n 1, 1) := by decide +kernel
theorem zd_Mo_externalize_126 : decode zc_Mo_externalize 126 = .ok (.iconst 0, 1) := by decide +kernel
theorem zd_Mo_externalize_127 : decode zc_Mo_externalize 127 = .ok (.iastore, 1) := by decide +kernel
theorem zd_Mo_externalize_128 : decode zc_Mo_externalize 128 = .ok (.bipush 30, 2) := by decide +kernel
theorem zd_Mo_externalize_130 : decode zc_Mo_externalize 130 = .ok (.iload_n 1, 1) := by decide +kernel
theorem zd_Mo_externalize_131 : decode zc_Mo_externalize 131 = .ok (.imul, 1) := by decide +kernel
theorem zd_Mo_externalize_132 : decode zc_Mo_externalize 132 = .ok (.istore 4, 2) := by decide +kernel
theorem zd_Mo_externalize_134 : decode zc_Mo_externalize 134 = .ok (.iload 4, 2) := by decide +kernel
theorem zd_Mo_externalize_136 : decode zc_Mo_externalize 136 = .ok (.bipush 30, 2) := by decide +kernel
theorem zd_Mo_externalize_138 : decode zc_Mo_externalize 138 = .ok (.iload_n 1, 1) := by decide +kernel
theorem zd_Mo_externalize_139 : decode zc_Mo_externalize 139 = .ok (.imul, 1) := by decide +kernel
theorem zd_Mo_externalize_140 : decode zc_Mo_externalize 140 = .ok (.bipush 30, 2) := by decide +kernel
theorem zd_Mo_externalize_142 : decode zc_Mo_externalize 142 = .ok (.iadd, 1) := by decide +kernel
theorem zd_Mo_externalize_143 : decode zc_Mo_externalize 143 = .ok (.if_icmp .ge 17, 3) := by decide +kernel
theorem zd_Mo_externalize_146 : decode zc_Mo_externalize 146 = .ok (.aload_n 0, 1) := by decide +kernel
theorem zd_Mo_externalize_147 : decode zc_Mo_externalize 147 = .ok (.getfield 44, 3) := by decide +kernel
theorem zd_Mo_externalize_150 : decode zc_Mo_externalize 150 = .ok (.iload 4, 2) := by decide +kernel
theorem zd_Mo_externalize_152 : decode zc_Mo_externalize 152 = .ok (.iconst 0, 1) := by decide +kernel
theorem zd_Mo_externalize_153 : decode zc_Mo_externalize 153 = .ok (.iastore, 1) := by decide +kernel
theorem zd_Mo_externalize_154 : decode zc_Mo_externalize 154 = .ok (.iinc 4 1, 3) := by decide +kernel
theorem zd_Mo_externalize_157 : decode zc_Mo_externalize 157 = .ok (.goto (-23), 3) := by decide +kernel
theorem zd_Mo_externalize_160 : decode zc_Mo_externalize 160 = .ok (.return_, 1) := by decide +kernel
theorem zd_Mo_ruleH_0 : decode zc_Mo_ruleH 0 = .ok (.iconst 0, 1) := by decide +kernel
theorem zd_Mo_ruleH_1 : decode zc_Mo_ruleH 1 = .ok (.istore_n 2, 1) := by decide +kernel
theorem zd_Mo_ruleH_2 : decode zc_Mo_ruleH 2 = .ok (.iconst 0, 1) := by decide +kernel
theorem zd_Mo_ruleH_3 : decode zc_Mo_ruleH 3 = .ok (.istore_n 3, 1) := by decide +kernel
theorem zd_Mo_ruleH_4 : decode zc_Mo_ruleH 4 = .ok (.iload_n 3, 1) := by decide +kernel
theorem zd_Mo_ruleH_5 : decode zc_Mo_ruleH 5 = .ok (.bipush 28, 2) := by decide +kernel
theorem zd_Mo_ruleH_7 : decode zc_Mo_ruleH 7 = .ok (.if_icmp .ge 60, 3) := by decide +kernel
theorem zd_Mo_ruleH_10 : decode zc_Mo_ruleH 10 = .ok (.aload_n 0, 1) := by decide +kernel
theorem zd_Mo_ruleH_11 : decode zc_Mo_ruleH 11 = .ok (.iload_n 1, 1) := by decide +kernel
theorem zd_Mo_ruleH_12 : decode zc_Mo_ruleH 12 = .ok (.iconst 2, 1) := by decide +kernel
theorem zd_Mo_ruleH_13 : decode zc_Mo_ruleH 13 = .ok (.iload_n 3, 1) := by decide +kernel
theorem zd_Mo_ruleH_14 : decode zc_Mo_ruleH 14 = .ok (.iload_n 3, 1) := by decide +kernel
theorem zd_Mo_ruleH_15 : decode zc_Mo_ruleH 15 = .ok (.invokevirtual 165, 3) := by decide +kernel
theorem zd_Mo_ruleH_18 : decode zc_Mo_ruleH 18 = .ok (.istore 4, 2) := by decide +kernel
theorem zd_Mo_ruleH_20 : decode zc_Mo_ruleH 20 = .ok (.iload 4, 2) := by decide +kernel
theorem zd_Mo_ruleH_22 : decode zc_Mo_ruleH 22 = .ok (.ifCond .eq 7, 3) := by decide +kernel
theorem zd_Mo_ruleH_25 : decode zc_Mo_ruleH 25 = .ok (.iconst 1, 1) := by decide +kernel
theorem zd_Mo_ruleH_26 : decode zc_Mo_ruleH 26 = .ok (.goto 4, 3) := by decide +kernel
theorem zd_Mo_ruleH_29 : decode zc_Mo_ruleH 29 = .ok (.iload_n 2, 1) := by decide +kernel
theorem zd_Mo_ruleH_30 : decode zc_Mo_ruleH 30 = .ok (.istore_n 2, 1) := by decide +kernel
theorem zd_Mo_ruleH_31 : decode zc_Mo_ruleH 31 = .ok (.aload_n 0, 1) := by decide +kernel
theorem zd_Mo_ruleH_32 : decode zc_Mo_ruleH 32 = .ok (.iload_n 1, 1) := by decide +kernel
theorem zd_Mo_ruleH_33 : decode zc_Mo_ruleH 33 = .ok (.iconst 2, 1) := by decide +kernel
theorem zd_Mo_ruleH_34 : decode zc_Mo_ruleH 34 = .ok (.iload_n 3, 1) := by decide +kernel
theorem zd_Mo_ruleH_35 : decode zc_Mo_ruleH 35 = .ok (.invokevirtual 158, 3) := by decide +kernel
theorem zd_Mo_ruleH_38 : decode zc_Mo_ruleH 38 = .ok (.ifCond .eq 23, 3) := by decide +kernel
theorem zd_Mo_ruleH_41 : decode zc_Mo_ruleH 41 = .ok (.aload_n 0, 1) := by decide +kernel
theorem zd_Mo_ruleH_42 : decode zc_Mo_ruleH 42 = .ok (.iload_n 1, 1) := by decide +kernel
theorem zd_Mo_ruleH_43 : decode zc_Mo_ruleH 43 = .ok (.iconst 2, 1) := by decide +kernel
theorem zd_Mo_ruleH_44 : decode zc_Mo_ruleH 44 = .ok (.iconst 2, 1) := by decide +kernel
theorem zd_Mo_ruleH_45 : decode zc_Mo_ruleH 45 = .ok (.iload_n 3, 1) := by decide +kernel
theorem zd_Mo_ruleH_46 : decode zc_Mo_ruleH 46 = .ok (.invokevirtual 152, 3) := by decide +kernel
theorem zd_Mo_ruleH_49 : decode zc_Mo_ruleH 49 = .ok (.pop, 1) := by decide +kernel
theorem zd_Mo_ruleH_50 : decode zc_Mo_ruleH 50 = .ok (.aload_n 0, 1) := by decide +kernel
theorem zd_Mo_ruleH_51 : decode zc_Mo_ruleH 51 = .ok (.iload_n 1, 1) := by decide +kernel
theorem zd_Mo_ruleH_52 : decode zc_Mo_ruleH 52 = .ok (.iload_n 3, 1) := by decide +kernel
theorem zd_Mo_ruleH_53 : decode zc_Mo_ruleH 53 = .ok (.invokestatic 129, 3) := by decide +kernel
theorem zd_Mo_ruleH_56 : decode zc_Mo_ruleH 56 = .ok (.invokevirtual 168, 3) := by decide +kernel
theorem zd_Mo_ruleH_59 : decode zc_Mo_ruleH 59 = .ok (.iconst 2, 1) := by decide +kernel
theorem zd_Mo_ruleH_60 : decode zc_Mo_ruleH 60 = .ok (.ireturn, 1) := by decide +kernel
theorem zd_Mo_ruleH_61 : decode zc_Mo_ruleH 61 = .ok (.iinc 3 1, 3) := by decide +kernel
theorem zd_Mo_ruleH_64 : decode zc_Mo_ruleH 64 = .ok (.goto (-60), 3) := by decide +kernel
theorem zd_Mo_ruleH_67 : decode zc_Mo_ruleH 67 = .ok (.iload_n 2, 1) := by decide +kernel
theorem zd_Mo_ruleH_68 : decode zc_Mo_ruleH 68 = .ok (.ireturn, 1) := by decide +kernel
theorem zd_Mo_stir_0 : decode zc_Mo_stir 0 = .ok (.aload_n 0, 1) := by decide +kernel
theorem zd_Mo_stir_1 : decode zc_Mo_stir 1 = .ok (.getfield 26, 3) := by decide +kernel
theorem zd_Mo_stir_4 : decode zc_Mo_stir 4 = .ok (.iload_n 1, 1) := by decide +kernel
theorem zd_Mo_stir_5 : decode zc_Mo_stir 5 = .ok (.iaload, 1) := by decide +kernel
theorem zd_Mo_stir_6 : decode zc_Mo_stir 6 = .ok (.iconst 3, 1) := by decide +kernel
theorem zd_Mo_stir_7 : decode zc_Mo_stir 7 = .ok (.if_icmp .ge 7, 3) := by decide +kernel
theorem zd_Mo_stir_10 : decode zc_Mo_stir 10 = .ok (.iconst 1, 1) := by decide +kernel
theorem zd_Mo_stir_11 : decode zc_Mo_stir 11 = .ok (.goto 4, 3) := by decide +kernel
theorem zd_Mo_stir_14 : decode zc_Mo_stir 14 = .ok (.iconst 0, 1) := by decide +kernel
theorem zd_Mo_stir_15 : decode zc_Mo_stir 15 = .ok (.istore_n 2, 1) := by decide +kernel
theorem zd_Mo_stir_16 : decode zc_Mo_stir 16 = .ok (.iconst 0, 1) := by decide +kernel
theorem zd_Mo_stir_17 : decode zc_Mo_stir 17 = .ok (.istore_n 3, 1) := by decide +kernel
theorem zd_Mo_stir_18 : decode zc_Mo_stir 18 = .ok (.iload_n 3, 1) := by decide +kernel
theorem zd_Mo_stir_19 : decode zc_Mo_stir 19 = .ok (.sipush 1000, 3) := by decide +kernel
theorem zd_Mo_stir_22 : decode zc_Mo_stir 22 = .ok (.if_icmp .ge 172, 3) := by decide +kernel
theorem zd_Mo_stir_25 : decode zc_Mo_stir 25 = .ok (.iload_n 2, 1) := by decide +kernel
theorem zd_Mo_stir_26 : decode zc_Mo_stir 26 = .ok (.ifCond .eq 168, 3) := by decide +kernel
theorem zd_Mo_stir_29 : decode zc_Mo_stir 29 = .ok (.aload_n 0, 1) := by decide +kernel
theorem zd_Mo_stir_30 : decode zc_Mo_stir 30 = .ok (.iload_n 1, 1) := by decide +kernel
theorem zd_Mo_stir_31 : decode zc_Mo_stir 31 = .ok (.invokevirtual 172, 3) := by decide +kernel
theorem zd_Mo_stir_34 : decode zc_Mo_stir 34 = .ok (.istore_n 2, 1) := by decide +kernel
theorem zd_Mo_stir_35 : decode zc_Mo_stir 35 = .ok (.aload_n 0, 1) := by decide +kernel
theorem zd_Mo_stir_36 : decode zc_Mo_stir 36 = .ok (.iload_n 1, 1) := by decide +kernel
theorem zd_Mo_stir_37 : decode zc_Mo_stir 37 = .ok (.iconst 0, 1) := by decide +kernel
theorem zd_Mo_stir_38 : decode zc_Mo_stir 38 = .ok (.iconst 1, 1) := by decide +kernel
theorem zd_Mo_stir_39 : decode zc_Mo_stir 39 = .ok (.bipush 7, 2) := by decide +kernel
theorem zd_Mo_stir_41 : decode zc_Mo_stir 41 = .ok (.invokevirtual 165, 3) := by decide +kernel
theorem zd_Mo_stir_44 : decode zc_Mo_stir 44 = .ok (.ifCond .ne 7, 3) := by decide +kernel
theorem zd_Mo_stir_47 : decode zc_Mo_stir 47 = .ok (.iload_n 2, 1) := by decide +kernel
theorem zd_Mo_stir_48 : decode zc_Mo_stir 48 = .ok (.ifCond .eq 7, 3) := by decide +kernel
theorem zd_Mo_stir_51 : decode zc_Mo_stir 51 = .ok (.iconst 1, 1) := by decide +kernel
theorem zd_Mo_stir_52 : decode zc_Mo_stir 52 = .ok (.goto 4, 3) := by decide +kernel
theorem zd_Mo_stir_55 : decode zc_Mo_stir 55 = .ok (.iconst 0, 1) := by decide +kernel
theorem zd_Mo_stir_56 : decode zc_Mo_stir 56 = .ok (.istore_n 2, 1) := by decide +kernel
theorem zd_Mo_stir_57 : decode zc_Mo_stir 57 = .ok (.aload_n 0, 1) := by decide +kernel
theorem zd_Mo_stir_58 : decode zc_Mo_stir 58 = .ok (.iload_n 1, 1) := by decide +kernel
theorem zd_Mo_stir_59 : decode zc_Mo_stir 59 = .ok (.iconst 0, 1) := by decide +kernel
theorem zd_Mo_stir_60 : decode zc_Mo_stir 60 = .ok (.iconst 1, 1) := by decide +kernel
theorem zd_Mo_stir_61 : decode zc_Mo_stir 61 = .ok (.bipush 7, 2) := by decide +kernel
theorem zd_Mo_stir_63 : decode zc_Mo_stir 63 = .ok (.invokevirtual 175, 3) := by decide +kernel
theorem zd_Mo_stir_66 : decode zc_Mo_stir 66 = .ok (.ifCond .ne 7, 3) := by decide +kernel
theorem zd_Mo_stir_69 : decode zc_Mo_stir 69 = .ok (.iload_n 2, 1) := by decide +kernel
theorem zd_Mo_stir_70 : decode zc_Mo_stir 70 = .ok (.ifCond .eq 7, 3) := by decide +kernel
theorem zd_Mo_stir_73 : decode zc_Mo_stir 73 = .ok (.iconst 1, 1) := by decide +kernel
theorem zd_Mo_stir_74 : decode zc_Mo_stir 74 = .ok (.goto 4, 3) := by decide +kernel
theorem zd_Mo_stir_77 : decode zc_Mo_stir 77 = .ok (.iconst 0, 1) := by decide +kernel
theorem zd_Mo_stir_78 : decode zc_Mo_stir 78 = .ok (.istore_n 2, 1) := by decide +kernel
theorem zd_Mo_stir_79 : decode zc_Mo_stir 79 = .ok (.aload_n 0, 1) := by decide +kernel
theorem zd_Mo_stir_80 : decode zc_Mo_stir 80 = .ok (.iload_n 1, 1) := by decide +kernel
theorem zd_Mo_stir_81 : decode zc_Mo_stir 81 = .ok (.invokevirtual 178, 3) := by decide +kernel
theorem zd_Mo_stir_84 : decode zc_Mo_stir 84 = .ok (.ifCond .ne 7, 3) := by decide +kernel
theorem zd_Mo_stir_87 : decode zc_Mo_stir 87 = .ok (.iload_n 2, 1) := by decide +kernel
theorem zd_Mo_stir_88 : decode zc_Mo_stir 88 = .ok (.ifCond .eq 7, 3) := by decide +kernel
theorem zd_Mo_stir_91 : decode zc_Mo_stir 91 = .ok (.iconst 1, 1) := by decide +kernel
theorem zd_Mo_stir_92 : decode zc_Mo_stir 92 = .ok (.goto 4, 3) := by decide +kernel
theorem zd_Mo_stir_95 : decode zc_Mo_stir 95 = .ok (.iconst 0, 1) := by decide +kernel
theorem zd_Mo_stir_96 : decode zc_Mo_stir 96 = .ok (.istore_n 2, 1) := by decide +kernel
theorem zd_Mo_stir_97 : decode zc_Mo_stir 97 = .ok (.aload_n 0, 1) := by decide +kernel
theorem zd_Mo_stir_98 : decode zc_Mo_stir 98 = .ok (.iload_n 1, 1) := by decide +kernel
theorem zd_Mo_stir_99 : decode zc_Mo_stir 99 = .ok (.iconst 1, 1) := by decide +kernel
theorem zd_Mo_stir_100 : decode zc_Mo_stir 100 = .ok (.iconst 0, 1) := by decide +kernel
theorem zd_Mo_stir_101 : decode zc_Mo_stir 101 = .ok (.bipush 27, 2) := by decide +kernel
theorem zd_Mo_stir_103 : decode zc_Mo_stir 103 = .ok (.invokevirtual 165, 3) := by decide +kernel
theorem zd_Mo_stir_106 : decode zc_Mo_stir 106 = .ok (.ifCond .ne 7, 3) := by decide +kernel
theorem zd_Mo_stir_109 : decode zc_Mo_stir 109 = .ok (.iload_n 2, 1) := by decide +kernel
theorem zd_Mo_stir_110 : decode zc_Mo_stir 110 = .ok (.ifCond .eq 7, 3) := by decide +kernel
theorem zd_Mo_stir_113 : decode zc_Mo_stir 113 = .ok (.iconst 1, 1) := by decide +kernel
theorem zd_Mo_stir_114 : decode zc_Mo_stir 114 = .ok (.goto 4, 3) := by decide +kernel
theorem zd_Mo_stir_117 : decode zc_Mo_stir 117 = .ok (.iconst 0, 1) := by decide +kernel
theorem zd_Mo_stir_118 : decode zc_Mo_stir 118 = .ok (.istore_n 2, 1) := by decide +kernel
theorem zd_Mo_stir_119 : decode zc_Mo_stir 119 = .ok (.aload_n 0, 1) := by decide +kernel
theorem zd_Mo_stir_120 : decode zc_Mo_stir 120 = .ok (.iload_n 1, 1) := by decide +kernel
theorem zd_Mo_stir_121 : decode zc_Mo_stir 121 = .ok (.iconst 1, 1) := by decide +kernel
theorem zd_Mo_stir_122 : decode zc_Mo_stir 122 = .ok (.iconst 0, 1) := by decide +kernel
theorem zd_Mo_stir_123 : decode zc_Mo_stir 123 = .ok (.bipush 27, 2) := by decide +kernel
theorem zd_Mo_stir_125 : decode zc_Mo_stir 125 = .ok (.invokevirtual 175, 3) := by decide +kernel
theorem zd_Mo_stir_128 : decode zc_Mo_stir 128 = .ok (.ifCond .ne 7, 3) := by decide +kernel
theorem zd_Mo_stir_131 : decode zc_Mo_stir 131 = .ok (.iload_n 2, 1) := by decide +kernel
theorem zd_Mo_stir_132 : decode zc_Mo_stir 132 = .ok (.ifCond .eq 7, 3) := by decide +kernel
theorem zd_Mo_stir_135 : decode zc_Mo_stir 135 = .ok (.iconst 1, 1) := by decide +kernel
theorem zd_Mo_stir_136 : decode zc_Mo_stir 136 = .ok (.goto 4, 3) := by decide +kernel
theorem zd_Mo_stir_139 : decode zc_Mo_stir 139 = .ok (.iconst 0, 1) := by decide +kernel
theorem zd_Mo_stir_140 : decode zc_Mo_stir 140 = .ok (.istore_n 2, 1) := by decide +kernel
theorem zd_Mo_stir_141 : decode zc_Mo_stir 141 = .ok (.aload_n 0, 1) := by decide +kernel
theorem zd_Mo_stir_142 : decode zc_Mo_stir 142 = .ok (.iload_n 1, 1) := by decide +kernel
theorem zd_Mo_stir_143 : decode zc_Mo_stir 143 = .ok (.invokevirtual 181, 3) := by decide +kernel
theorem zd_Mo_stir_146 : decode zc_Mo_stir 146 = .ok (.ifCond .ne 7, 3) := by decide +kernel
theorem zd_Mo_stir_149 : decode zc_Mo_stir 149 = .ok (.iload_n 2, 1) := by decide +kernel
theorem zd_Mo_stir_150 : decode zc_Mo_stir 150 = .ok (.ifCond .eq 7, 3) := by decide +kernel
theorem zd_Mo_stir_153 : decode zc_Mo_stir 153 = .ok (.iconst 1, 1) := by decide +kernel
theorem zd_Mo_stir_154 : decode zc_Mo_stir 154 = .ok (.goto 4, 3) := by decide +kernel
theorem zd_Mo_stir_157 : decode zc_Mo_stir 157 = .ok (.iconst 0, 1) := by decide +kernel
theorem zd_Mo_stir_158 : decode zc_Mo_stir 158 = .ok (.istore_n 2, 1) := by decide +kernel
theorem zd_Mo_stir_159 : decode zc_Mo_stir 159 = .ok (.aload_n 0, 1) := by decide +kernel
theorem zd_Mo_stir_160 : decode zc_Mo_stir 160 = .ok (.iload_n 1, 1) := by decide +kernel
theorem zd_Mo_stir_161 : decode zc_Mo_stir 161 = .ok (.invokevirtual 184, 3) := by decide +kernel
theorem zd_Mo_stir_164 : decode zc_Mo_stir 164 = .ok (.istore 4, 2) := by decide +kernel
end
section
theorem zd_Mo_stir_166 : decode zc_Mo_stir 166 = .ok (.iload 4, 2) := by decide +kernel
theorem zd_Mo_stir_168 : decode zc_Mo_stir 168 = .ok (.iconst 2, 1) := by decide +kernel
theorem zd_Mo_stir_169 : decode zc_Mo_stir 169 = .ok (.if_icmp .ge 17, 3) := by decide +kernel
theorem zd_Mo_stir_172 : decode zc_Mo_stir 172 = .ok (.iload 4, 2) := by decide +kernel
theorem zd_Mo_stir_174 : decode zc_Mo_stir 174 = .ok (.iconst 1, 1) := by decide +kernel
theorem zd_Mo_stir_175 : decode zc_Mo_stir 175 = .ok (.if_icmp .eq 7, 3) := by decide +kernel
theorem zd_Mo_stir_178 : decode zc_Mo_stir 178 = .ok (.iload_n 2, 1) := by decide +kernel
theorem zd_Mo_stir_179 : decode zc_Mo_stir 179 = .ok (.ifCond .eq 7, 3) := by decide +kernel
theorem zd_Mo_stir_182 : decode zc_Mo_stir 182 = .ok (.iconst 1, 1) := by decide +kernel
theorem zd_Mo_stir_183 : decode zc_Mo_stir 183 = .ok (.goto 4, 3) := by decide +kernel
theorem zd_Mo_stir_186 : decode zc_Mo_stir 186 = .ok (.iconst 0, 1) := by decide +kernel
theorem zd_Mo_stir_187 : decode zc_Mo_stir 187 = .ok (.istore_n 2, 1) := by decide +kernel
theorem zd_Mo_stir_188 : decode zc_Mo_stir 188 = .ok (.iinc 3 1, 3) := by decide +kernel
theorem zd_Mo_stir_191 : decode zc_Mo_stir 191 = .ok (.goto (-173), 3) := by decide +kernel
theorem zd_Mo_stir_194 : decode zc_Mo_stir 194 = .ok (.return_, 1) := by decide +kernel
theorem zd_Mo_newRound_0 : decode zc_Mo_newRound 0 = .ok (.aload_n 0, 1) := by decide +kernel
theorem zd_Mo_newRound_1 : decode zc_Mo_newRound 1 = .ok (.getfield 29, 3) := by decide +kernel
theorem zd_Mo_newRound_4 : decode zc_Mo_newRound 4 = .ok (.iload_n 1, 1) := by decide +kernel
theorem zd_Mo_newRound_5 : decode zc_Mo_newRound 5 = .ok (.dup2, 1) := by decide +kernel
theorem zd_Mo_newRound_6 : decode zc_Mo_newRound 6 = .ok (.iaload, 1) := by decide +kernel
theorem zd_Mo_newRound_7 : decode zc_Mo_newRound 7 = .ok (.iconst 1, 1) := by decide +kernel
theorem zd_Mo_newRound_8 : decode zc_Mo_newRound 8 = .ok (.iadd, 1) := by decide +kernel
theorem zd_Mo_newRound_9 : decode zc_Mo_newRound 9 = .ok (.iastore, 1) := by decide +kernel
theorem zd_Mo_newRound_10 : decode zc_Mo_newRound 10 = .ok (.aload_n 0, 1) := by decide +kernel
theorem zd_Mo_newRound_11 : decode zc_Mo_newRound 11 = .ok (.getfield 13, 3) := by decide +kernel
theorem zd_Mo_newRound_14 : decode zc_Mo_newRound 14 = .ok (.iload_n 1, 1) := by decide +kernel
theorem zd_Mo_newRound_15 : decode zc_Mo_newRound 15 = .ok (.iaload, 1) := by decide +kernel
theorem zd_Mo_newRound_16 : decode zc_Mo_newRound 16 = .ok (.iconst 1, 1) := by decide +kernel
theorem zd_Mo_newRound_17 : decode zc_Mo_newRound 17 = .ok (.iload_n 1, 1) := by decide +kernel
theorem zd_Mo_newRound_18 : decode zc_Mo_newRound 18 = .ok (.ishl, 1) := by decide +kernel
theorem zd_Mo_newRound_19 : decode zc_Mo_newRound 19 = .ok (.ior, 1) := by decide +kernel
theorem zd_Mo_newRound_20 : decode zc_Mo_newRound 20 = .ok (.aload_n 0, 1) := by decide +kernel
theorem zd_Mo_newRound_21 : decode zc_Mo_newRound 21 = .ok (.getfield 16, 3) := by decide +kernel
theorem zd_Mo_newRound_24 : decode zc_Mo_newRound 24 = .ok (.iload_n 1, 1) := by decide +kernel
theorem zd_Mo_newRound_25 : decode zc_Mo_newRound 25 = .ok (.iaload, 1) := by decide +kernel
theorem zd_Mo_newRound_26 : decode zc_Mo_newRound 26 = .ok (.ifCond .le 12, 3) := by decide +kernel
theorem zd_Mo_newRound_29 : decode zc_Mo_newRound 29 = .ok (.aload_n 0, 1) := by decide +kernel
theorem zd_Mo_newRound_30 : decode zc_Mo_newRound 30 = .ok (.getfield 19, 3) := by decide +kernel
theorem zd_Mo_newRound_33 : decode zc_Mo_newRound 33 = .ok (.iload_n 1, 1) := by decide +kernel
theorem zd_Mo_newRound_34 : decode zc_Mo_newRound 34 = .ok (.iaload, 1) := by decide +kernel
theorem zd_Mo_newRound_35 : decode zc_Mo_newRound 35 = .ok (.goto 4, 3) := by decide +kernel
theorem zd_Mo_newRound_38 : decode zc_Mo_newRound 38 = .ok (.iconst 0, 1) := by decide +kernel
theorem zd_Mo_newRound_39 : decode zc_Mo_newRound 39 = .ok (.ior, 1) := by decide +kernel
theorem zd_Mo_newRound_40 : decode zc_Mo_newRound 40 = .ok (.istore_n 2, 1) := by decide +kernel
theorem zd_Mo_newRound_41 : decode zc_Mo_newRound 41 = .ok (.iconst (-1), 1) := by decide +kernel
theorem zd_Mo_newRound_42 : decode zc_Mo_newRound 42 = .ok (.istore_n 3, 1) := by decide +kernel
theorem zd_Mo_newRound_43 : decode zc_Mo_newRound 43 = .ok (.iconst (-1), 1) := by decide +kernel
theorem zd_Mo_newRound_44 : decode zc_Mo_newRound 44 = .ok (.istore 4, 2) := by decide +kernel
theorem zd_Mo_newRound_46 : decode zc_Mo_newRound 46 = .ok (.iconst 0, 1) := by decide +kernel
theorem zd_Mo_newRound_47 : decode zc_Mo_newRound 47 = .ok (.istore 5, 2) := by decide +kernel
theorem zd_Mo_newRound_49 : decode zc_Mo_newRound 49 = .ok (.iload 5, 2) := by decide +kernel
theorem zd_Mo_newRound_51 : decode zc_Mo_newRound 51 = .ok (.iconst 5, 1) := by decide +kernel
theorem zd_Mo_newRound_52 : decode zc_Mo_newRound 52 = .ok (.if_icmp .ge 66, 3) := by decide +kernel
theorem zd_Mo_newRound_55 : decode zc_Mo_newRound 55 = .ok (.bipush 37, 2) := by decide +kernel
theorem zd_Mo_newRound_57 : decode zc_Mo_newRound 57 = .ok (.iload 5, 2) := by decide +kernel
theorem zd_Mo_newRound_59 : decode zc_Mo_newRound 59 = .ok (.imul, 1) := by decide +kernel
theorem zd_Mo_newRound_60 : decode zc_Mo_newRound 60 = .ok (.bipush 61, 2) := by decide +kernel
theorem zd_Mo_newRound_62 : decode zc_Mo_newRound 62 = .ok (.aload_n 0, 1) := by decide +kernel
theorem zd_Mo_newRound_63 : decode zc_Mo_newRound 63 = .ok (.getfield 26, 3) := by decide +kernel
theorem zd_Mo_newRound_66 : decode zc_Mo_newRound 66 = .ok (.iload_n 1, 1) := by decide +kernel
theorem zd_Mo_newRound_67 : decode zc_Mo_newRound 67 = .ok (.iaload, 1) := by decide +kernel
theorem zd_Mo_newRound_68 : decode zc_Mo_newRound 68 = .ok (.imul, 1) := by decide +kernel
theorem zd_Mo_newRound_69 : decode zc_Mo_newRound 69 = .ok (.iadd, 1) := by decide +kernel
theorem zd_Mo_newRound_70 : decode zc_Mo_newRound 70 = .ok (.bipush 17, 2) := by decide +kernel
theorem zd_Mo_newRound_72 : decode zc_Mo_newRound 72 = .ok (.aload_n 0, 1) := by decide +kernel
theorem zd_Mo_newRound_73 : decode zc_Mo_newRound 73 = .ok (.getfield 29, 3) := by decide +kernel
theorem zd_Mo_newRound_76 : decode zc_Mo_newRound 76 = .ok (.iload_n 1, 1) := by decide +kernel
theorem zd_Mo_newRound_77 : decode zc_Mo_newRound 77 = .ok (.iaload, 1) := by decide +kernel
theorem zd_Mo_newRound_78 : decode zc_Mo_newRound 78 = .ok (.imul, 1) := by decide +kernel
theorem zd_Mo_newRound_79 : decode zc_Mo_newRound 79 = .ok (.iadd, 1) := by decide +kernel
theorem zd_Mo_newRound_80 : decode zc_Mo_newRound 80 = .ok (.bipush 29, 2) := by decide +kernel
theorem zd_Mo_newRound_82 : decode zc_Mo_newRound 82 = .ok (.imul, 1) := by decide +kernel
theorem zd_Mo_newRound_83 : decode zc_Mo_newRound 83 = .ok (.bipush 101, 2) := by decide +kernel
theorem zd_Mo_newRound_85 : decode zc_Mo_newRound 85 = .ok (.irem, 1) := by decide +kernel
theorem zd_Mo_newRound_86 : decode zc_Mo_newRound 86 = .ok (.istore 6, 2) := by decide +kernel
theorem zd_Mo_newRound_88 : decode zc_Mo_newRound 88 = .ok (.iload_n 2, 1) := by decide +kernel
theorem zd_Mo_newRound_89 : decode zc_Mo_newRound 89 = .ok (.iload 5, 2) := by decide +kernel
theorem zd_Mo_newRound_91 : decode zc_Mo_newRound 91 = .ok (.ishr, 1) := by decide +kernel
theorem zd_Mo_newRound_92 : decode zc_Mo_newRound 92 = .ok (.iconst 1, 1) := by decide +kernel
theorem zd_Mo_newRound_93 : decode zc_Mo_newRound 93 = .ok (.iand, 1) := by decide +kernel
theorem zd_Mo_newRound_94 : decode zc_Mo_newRound 94 = .ok (.iconst 1, 1) := by decide +kernel
theorem zd_Mo_newRound_95 : decode zc_Mo_newRound 95 = .ok (.if_icmp .ne 17, 3) := by decide +kernel
theorem zd_Mo_newRound_98 : decode zc_Mo_newRound 98 = .ok (.iload 6, 2) := by decide +kernel
theorem zd_Mo_newRound_100 : decode zc_Mo_newRound 100 = .ok (.iload 4, 2) := by decide +kernel
theorem zd_Mo_newRound_102 : decode zc_Mo_newRound 102 = .ok (.if_icmp .le 10, 3) := by decide +kernel
theorem zd_Mo_newRound_105 : decode zc_Mo_newRound 105 = .ok (.iload 5, 2) := by decide +kernel
theorem zd_Mo_newRound_107 : decode zc_Mo_newRound 107 = .ok (.istore_n 3, 1) := by decide +kernel
theorem zd_Mo_newRound_108 : decode zc_Mo_newRound 108 = .ok (.iload 6, 2) := by decide +kernel
theorem zd_Mo_newRound_110 : decode zc_Mo_newRound 110 = .ok (.istore 4, 2) := by decide +kernel
theorem zd_Mo_newRound_112 : decode zc_Mo_newRound 112 = .ok (.iinc 5 1, 3) := by decide +kernel
theorem zd_Mo_newRound_115 : decode zc_Mo_newRound 115 = .ok (.goto (-66), 3) := by decide +kernel
theorem zd_Mo_newRound_118 : decode zc_Mo_newRound 118 = .ok (.aload_n 0, 1) := by decide +kernel
theorem zd_Mo_newRound_119 : decode zc_Mo_newRound 119 = .ok (.getfield 32, 3) := by decide +kernel
theorem zd_Mo_newRound_122 : decode zc_Mo_newRound 122 = .ok (.iload_n 1, 1) := by decide +kernel
theorem zd_Mo_newRound_123 : decode zc_Mo_newRound 123 = .ok (.aload_n 0, 1) := by decide +kernel
theorem zd_Mo_newRound_124 : decode zc_Mo_newRound 124 = .ok (.getfield 32, 3) := by decide +kernel
theorem zd_Mo_newRound_127 : decode zc_Mo_newRound 127 = .ok (.iload_n 1, 1) := by decide +kernel
theorem zd_Mo_newRound_128 : decode zc_Mo_newRound 128 = .ok (.iaload, 1) := by decide +kernel
theorem zd_Mo_newRound_129 : decode zc_Mo_newRound 129 = .ok (.iconst 1, 1) := by decide +kernel
theorem zd_Mo_newRound_130 : decode zc_Mo_newRound 130 = .ok (.iload_n 3, 1) := by decide +kernel
theorem zd_Mo_newRound_131 : decode zc_Mo_newRound 131 = .ok (.ishl, 1) := by decide +kernel
theorem zd_Mo_newRound_132 : decode zc_Mo_newRound 132 = .ok (.ior, 1) := by decide +kernel
theorem zd_Mo_newRound_133 : decode zc_Mo_newRound 133 = .ok (.iastore, 1) := by decide +kernel
theorem zd_Mo_newRound_134 : decode zc_Mo_newRound 134 = .ok (.return_, 1) := by decide +kernel
theorem zd_Mo_propose_0 : decode zc_Mo_propose 0 = .ok (.aload_n 0, 1) := by decide +kernel
theorem zd_Mo_propose_1 : decode zc_Mo_propose 1 = .ok (.iload_n 1, 1) := by decide +kernel
theorem zd_Mo_propose_2 : decode zc_Mo_propose 2 = .ok (.invokevirtual 190, 3) := by decide +kernel
theorem zd_Mo_propose_5 : decode zc_Mo_propose 5 = .ok (.ifCond .eq 32, 3) := by decide +kernel
theorem zd_Mo_propose_8 : decode zc_Mo_propose 8 = .ok (.iload_n 2, 1) := by decide +kernel
theorem zd_Mo_propose_9 : decode zc_Mo_propose 9 = .ok (.iconst 1, 1) := by decide +kernel
theorem zd_Mo_propose_10 : decode zc_Mo_propose 10 = .ok (.bipush 7, 2) := by decide +kernel
theorem zd_Mo_propose_12 : decode zc_Mo_propose 12 = .ok (.invokestatic 105, 3) := by decide +kernel
theorem zd_Mo_propose_15 : decode zc_Mo_propose 15 = .ok (.ifCond .eq 22, 3) := by decide +kernel
theorem zd_Mo_propose_18 : decode zc_Mo_propose 18 = .ok (.aload_n 0, 1) := by decide +kernel
theorem zd_Mo_propose_19 : decode zc_Mo_propose 19 = .ok (.getfield 26, 3) := by decide +kernel
theorem zd_Mo_propose_22 : decode zc_Mo_propose 22 = .ok (.iload_n 1, 1) := by decide +kernel
theorem zd_Mo_propose_23 : decode zc_Mo_propose 23 = .ok (.iaload, 1) := by decide +kernel
theorem zd_Mo_propose_24 : decode zc_Mo_propose 24 = .ok (.iconst 3, 1) := by decide +kernel
theorem zd_Mo_propose_25 : decode zc_Mo_propose 25 = .ok (.if_icmp .eq 12, 3) := by decide +kernel
theorem zd_Mo_propose_28 : decode zc_Mo_propose 28 = .ok (.aload_n 0, 1) := by decide +kernel
theorem zd_Mo_propose_29 : decode zc_Mo_propose 29 = .ok (.getfield 38, 3) := by decide +kernel
theorem zd_Mo_propose_32 : decode zc_Mo_propose 32 = .ok (.iload_n 1, 1) := by decide +kernel
theorem zd_Mo_propose_33 : decode zc_Mo_propose 33 = .ok (.iaload, 1) := by decide +kernel
theorem zd_Mo_propose_34 : decode zc_Mo_propose 34 = .ok (.ifCond .le 5, 3) := by decide +kernel
theorem zd_Mo_propose_37 : decode zc_Mo_propose 37 = .ok (.iconst 0, 1) := by decide +kernel
theorem zd_Mo_propose_38 : decode zc_Mo_propose 38 = .ok (.ireturn, 1) := by decide +kernel
theorem zd_Mo_propose_39 : decode zc_Mo_propose 39 = .ok (.aload_n 0, 1) := by decide +kernel
theorem zd_Mo_propose_40 : decode zc_Mo_propose 40 = .ok (.iconst 1, 1) := by decide +kernel
theorem zd_Mo_propose_41 : decode zc_Mo_propose 41 = .ok (.putfield 117, 3) := by decide +kernel
theorem zd_Mo_propose_44 : decode zc_Mo_propose 44 = .ok (.aload_n 0, 1) := by decide +kernel
theorem zd_Mo_propose_45 : decode zc_Mo_propose 45 = .ok (.getfield 38, 3) := by decide +kernel
theorem zd_Mo_propose_48 : decode zc_Mo_propose 48 = .ok (.iload_n 1, 1) := by decide +kernel
theorem zd_Mo_propose_49 : decode zc_Mo_propose 49 = .ok (.iload_n 2, 1) := by decide +kernel
theorem zd_Mo_propose_50 : decode zc_Mo_propose 50 = .ok (.iastore, 1) := by decide +kernel
theorem zd_Mo_propose_51 : decode zc_Mo_propose 51 = .ok (.aload_n 0, 1) := by decide +kernel
theorem zd_Mo_propose_52 : decode zc_Mo_propose 52 = .ok (.getfield 29, 3) := by decide +kernel
theorem zd_Mo_propose_55 : decode zc_Mo_propose 55 = .ok (.iload_n 1, 1) := by decide +kernel
theorem zd_Mo_propose_56 : decode zc_Mo_propose 56 = .ok (.iaload, 1) := by decide +kernel
theorem zd_Mo_propose_57 : decode zc_Mo_propose 57 = .ok (.ifCond .ne 8, 3) := by decide +kernel
theorem zd_Mo_propose_60 : decode zc_Mo_propose 60 = .ok (.aload_n 0, 1) := by decide +kernel
theorem zd_Mo_propose_61 : decode zc_Mo_propose 61 = .ok (.iload_n 1, 1) := by decide +kernel
theorem zd_Mo_propose_62 : decode zc_Mo_propose 62 = .ok (.invokevirtual 193, 3) := by decide +kernel
theorem zd_Mo_propose_65 : decode zc_Mo_propose 65 = .ok (.aload_n 0, 1) := by decide +kernel
theorem zd_Mo_propose_66 : decode zc_Mo_propose 66 = .ok (.iload_n 1, 1) := by decide +kernel
theorem zd_Mo_propose_67 : decode zc_Mo_propose 67 = .ok (.invokevirtual 197, 3) := by decide +kernel
theorem zd_Mo_propose_70 : decode zc_Mo_propose 70 = .ok (.iconst 1, 1) := by decide +kernel
theorem zd_Mo_propose_71 : decode zc_Mo_propose 71 = .ok (.ireturn, 1) := by decide +kernel
theorem zd_Mo_timeout_0 : decode zc_Mo_timeout 0 = .ok (.aload_n 0, 1) := by decide +kernel
theorem zd_Mo_timeout_1 : decode zc_Mo_timeout 1 = .ok (.iload_n 1, 1) := by decide +kernel
theorem zd_Mo_timeout_2 : decode zc_Mo_timeout 2 = .ok (.invokevirtual 190, 3) := by decide +kernel
theorem zd_Mo_timeout_5 : decode zc_Mo_timeout 5 = .ok (.ifCond .eq 22, 3) := by decide +kernel
theorem zd_Mo_timeout_8 : decode zc_Mo_timeout 8 = .ok (.aload_n 0, 1) := by decide +kernel
theorem zd_Mo_timeout_9 : decode zc_Mo_timeout 9 = .ok (.getfield 26, 3) := by decide +kernel
theorem zd_Mo_timeout_12 : decode zc_Mo_timeout 12 = .ok (.iload_n 1, 1) := by decide +kernel
theorem zd_Mo_timeout_13 : decode zc_Mo_timeout 13 = .ok (.iaload, 1) := by decide +kernel
theorem zd_Mo_timeout_14 : decode zc_Mo_timeout 14 = .ok (.iconst 3, 1) := by decide +kernel
theorem zd_Mo_timeout_15 : decode zc_Mo_timeout 15 = .ok (.if_icmp .eq 12, 3) := by decide +kernel
theorem zd_Mo_timeout_18 : decode zc_Mo_timeout 18 = .ok (.aload_n 0, 1) := by decide +kernel
theorem zd_Mo_timeout_19 : decode zc_Mo_timeout 19 = .ok (.getfield 29, 3) := by decide +kernel
theorem zd_Mo_timeout_22 : decode zc_Mo_timeout 22 = .ok (.iload_n 1, 1) := by decide +kernel
theorem zd_Mo_timeout_23 : decode zc_Mo_timeout 23 = .ok (.iaload, 1) := by decide +kernel
theorem zd_Mo_timeout_24 : decode zc_Mo_timeout 24 = .ok (.ifCond .ne 5, 3) := by decide +kernel
theorem zd_Mo_timeout_27 : decode zc_Mo_timeout 27 = .ok (.iconst 0, 1) := by decide +kernel
theorem zd_Mo_timeout_28 : decode zc_Mo_timeout 28 = .ok (.ireturn, 1) := by decide +kernel
theorem zd_Mo_timeout_29 : decode zc_Mo_timeout 29 = .ok (.aload_n 0, 1) := by decide +kernel
theorem zd_Mo_timeout_30 : decode zc_Mo_timeout 30 = .ok (.iconst 1, 1) := by decide +kernel
theorem zd_Mo_timeout_31 : decode zc_Mo_timeout 31 = .ok (.putfield 117, 3) := by decide +kernel
theorem zd_Mo_timeout_34 : decode zc_Mo_timeout 34 = .ok (.aload_n 0, 1) := by decide +kernel
theorem zd_Mo_timeout_35 : decode zc_Mo_timeout 35 = .ok (.iload_n 1, 1) := by decide +kernel
theorem zd_Mo_timeout_36 : decode zc_Mo_timeout 36 = .ok (.invokevirtual 146, 3) := by decide +kernel
theorem zd_Mo_timeout_39 : decode zc_Mo_timeout 39 = .ok (.ifCond .ne 11, 3) := by decide +kernel
theorem zd_Mo_timeout_42 : decode zc_Mo_timeout 42 = .ok (.aload_n 0, 1) := by decide +kernel
theorem zd_Mo_timeout_43 : decode zc_Mo_timeout 43 = .ok (.iload_n 1, 1) := by decide +kernel
theorem zd_Mo_timeout_44 : decode zc_Mo_timeout 44 = .ok (.invokevirtual 193, 3) := by decide +kernel
theorem zd_Mo_timeout_47 : decode zc_Mo_timeout 47 = .ok (.goto 29, 3) := by decide +kernel
theorem zd_Mo_timeout_50 : decode zc_Mo_timeout 50 = .ok (.aload_n 0, 1) := by decide +kernel
theorem zd_Mo_timeout_51 : decode zc_Mo_timeout 51 = .ok (.getfield 35, 3) := by decide +kernel
theorem zd_Mo_timeout_54 : decode zc_Mo_timeout 54 = .ok (.iload_n 1, 1) := by decide +kernel
theorem zd_Mo_timeout_55 : decode zc_Mo_timeout 55 = .ok (.iaload, 1) := by decide +kernel
theorem zd_Mo_timeout_56 : decode zc_Mo_timeout 56 = .ok (.iconst 4, 1) := by decide +kernel
theorem zd_Mo_timeout_57 : decode zc_Mo_timeout 57 = .ok (.if_icmp .ge 19, 3) := by decide +kernel
theorem zd_Mo_timeout_60 : decode zc_Mo_timeout 60 = .ok (.aload_n 0, 1) := by decide +kernel
theorem zd_Mo_timeout_61 : decode zc_Mo_timeout 61 = .ok (.getfield 35, 3) := by decide +kernel
theorem zd_Mo_timeout_64 : decode zc_Mo_timeout 64 = .ok (.iload_n 1, 1) := by decide +kernel
theorem zd_Mo_timeout_65 : decode zc_Mo_timeout 65 = .ok (.dup2, 1) := by decide +kernel
theorem zd_Mo_timeout_66 : decode zc_Mo_timeout 66 = .ok (.iaload, 1) := by decide +kernel
theorem zd_Mo_timeout_67 : decode zc_Mo_timeout 67 = .ok (.iconst 1, 1) := by decide +kernel
theorem zd_Mo_timeout_68 : decode zc_Mo_timeout 68 = .ok (.iadd, 1) := by decide +kernel
theorem zd_Mo_timeout_69 : decode zc_Mo_timeout 69 = .ok (.iastore, 1) := by decide +kernel
theorem zd_Mo_timeout_70 : decode zc_Mo_timeout 70 = .ok (.aload_n 0, 1) := by decide +kernel
theorem zd_Mo_timeout_71 : decode zc_Mo_timeout 71 = .ok (.iload_n 1, 1) := by decide +kernel
theorem zd_Mo_timeout_72 : decode zc_Mo_timeout 72 = .ok (.invokevirtual 161, 3) := by decide +kernel
theorem zd_Mo_timeout_75 : decode zc_Mo_timeout 75 = .ok (.pop, 1) := by decide +kernel
theorem zd_Mo_timeout_76 : decode zc_Mo_timeout 76 = .ok (.aload_n 0, 1) := by decide +kernel
theorem zd_Mo_timeout_77 : decode zc_Mo_timeout 77 = .ok (.iload_n 1, 1) := by decide +kernel
theorem zd_Mo_timeout_78 : decode zc_Mo_timeout 78 = .ok (.invokevirtual 197, 3) := by decide +kernel
theorem zd_Mo_timeout_81 : decode zc_Mo_timeout 81 = .ok (.iconst 1, 1) := by decide +kernel
theorem zd_Mo_timeout_82 : decode zc_Mo_timeout 82 = .ok (.ireturn, 1) := by decide +kernel
theorem zd_Mo_sealed_0 : decode zc_Mo_sealed 0 = .ok (.aload_n 0, 1) := by decide +kernel
theorem zd_Mo_sealed_1 : decode zc_Mo_sealed 1 = .ok (.getfield 53, 3) := by decide +kernel
theorem zd_Mo_sealed_4 : decode zc_Mo_sealed 4 = .ok (.aload_n 0, 1) := by decide +kernel
theorem zd_Mo_sealed_5 : decode zc_Mo_sealed 5 = .ok (.getfield 200, 3) := by decide +kernel
theorem zd_Mo_sealed_8 : decode zc_Mo_sealed 8 = .ok (.iload_n 1, 1) := by decide +kernel
theorem zd_Mo_sealed_9 : decode zc_Mo_sealed 9 = .ok (.iastore, 1) := by decide +kernel
theorem zd_Mo_sealed_10 : decode zc_Mo_sealed 10 = .ok (.aload_n 0, 1) := by decide +kernel
theorem zd_Mo_sealed_11 : decode zc_Mo_sealed 11 = .ok (.getfield 56, 3) := by decide +kernel
theorem zd_Mo_sealed_14 : decode zc_Mo_sealed 14 = .ok (.aload_n 0, 1) := by decide +kernel
theorem zd_Mo_sealed_15 : decode zc_Mo_sealed 15 = .ok (.getfield 200, 3) := by decide +kernel
theorem zd_Mo_sealed_18 : decode zc_Mo_sealed 18 = .ok (.iload_n 2, 1) := by decide +kernel
theorem zd_Mo_sealed_19 : decode zc_Mo_sealed 19 = .ok (.iastore, 1) := by decide +kernel
theorem zd_Mo_sealed_20 : decode zc_Mo_sealed 20 = .ok (.aload_n 0, 1) := by decide +kernel
theorem zd_Mo_sealed_21 : decode zc_Mo_sealed 21 = .ok (.dup, 1) := by decide +kernel
theorem zd_Mo_sealed_22 : decode zc_Mo_sealed 22 = .ok (.getfield 200, 3) := by decide +kernel
theorem zd_Mo_sealed_25 : decode zc_Mo_sealed 25 = .ok (.iconst 1, 1) := by decide +kernel
theorem zd_Mo_sealed_26 : decode zc_Mo_sealed 26 = .ok (.iadd, 1) := by decide +kernel
theorem zd_Mo_sealed_27 : decode zc_Mo_sealed 27 = .ok (.putfield 200, 3) := by decide +kernel
theorem zd_Mo_sealed_30 : decode zc_Mo_sealed 30 = .ok (.aload_n 0, 1) := by decide +kernel
theorem zd_Mo_sealed_31 : decode zc_Mo_sealed 31 = .ok (.getfield 200, 3) := by decide +kernel
theorem zd_Mo_sealed_34 : decode zc_Mo_sealed 34 = .ok (.iconst 1, 1) := by decide +kernel
theorem zd_Mo_sealed_35 : decode zc_Mo_sealed 35 = .ok (.isub, 1) := by decide +kernel
theorem zd_Mo_sealed_36 : decode zc_Mo_sealed 36 = .ok (.ireturn, 1) := by decide +kernel
theorem zd_Mo_post_0 : decode zc_Mo_post 0 = .ok (.aload_n 0, 1) := by decide +kernel
theorem zd_Mo_post_1 : decode zc_Mo_post 1 = .ok (.iload_n 1, 1) := by decide +kernel
theorem zd_Mo_post_2 : decode zc_Mo_post 2 = .ok (.invokevirtual 190, 3) := by decide +kernel
theorem zd_Mo_post_5 : decode zc_Mo_post 5 = .ok (.ifCond .eq 31, 3) := by decide +kernel
theorem zd_Mo_post_8 : decode zc_Mo_post 8 = .ok (.iload_n 2, 1) := by decide +kernel
theorem zd_Mo_post_9 : decode zc_Mo_post 9 = .ok (.iconst 0, 1) := by decide +kernel
theorem zd_Mo_post_10 : decode zc_Mo_post 10 = .ok (.iconst 2, 1) := by decide +kernel
theorem zd_Mo_post_11 : decode zc_Mo_post 11 = .ok (.invokestatic 105, 3) := by decide +kernel
theorem zd_Mo_post_14 : decode zc_Mo_post 14 = .ok (.ifCond .eq 22, 3) := by decide +kernel
theorem zd_Mo_post_17 : decode zc_Mo_post 17 = .ok (.iload_n 2, 1) := by decide +kernel
theorem zd_Mo_post_18 : decode zc_Mo_post 18 = .ok (.aload_n 0, 1) := by decide +kernel
theorem zd_Mo_post_19 : decode zc_Mo_post 19 = .ok (.getfield 26, 3) := by decide +kernel
theorem zd_Mo_post_22 : decode zc_Mo_post 22 = .ok (.iload_n 1, 1) := by decide +kernel
theorem zd_Mo_post_23 : decode zc_Mo_post 23 = .ok (.iaload, 1) := by decide +kernel
theorem zd_Mo_post_24 : decode zc_Mo_post 24 = .ok (.if_icmp .gt 12, 3) := by decide +kernel
theorem zd_Mo_post_27 : decode zc_Mo_post 27 = .ok (.aload_n 0, 1) := by decide +kernel
theorem zd_Mo_post_28 : decode zc_Mo_post 28 = .ok (.getfield 200, 3) := by decide +kernel
theorem zd_Mo_post_31 : decode zc_Mo_post 31 = .ok (.bipush 120, 2) := by decide +kernel
theorem zd_Mo_post_33 : decode zc_Mo_post 33 = .ok (.if_icmp .ne 5, 3) := by decide +kernel
theorem zd_Mo_post_36 : decode zc_Mo_post 36 = .ok (.iconst (-1), 1) := by decide +kernel
theorem zd_Mo_post_37 : decode zc_Mo_post 37 = .ok (.ireturn, 1) := by decide +kernel
theorem zd_Mo_post_38 : decode zc_Mo_post 38 = .ok (.aload_n 0, 1) := by decide +kernel
theorem zd_Mo_post_39 : decode zc_Mo_post 39 = .ok (.iconst 1, 1) := by decide +kernel
theorem zd_Mo_post_40 : decode zc_Mo_post 40 = .ok (.putfield 117, 3) := by decide +kernel
theorem zd_Mo_post_43 : decode zc_Mo_post 43 = .ok (.iconst 0, 1) := by decide +kernel
theorem zd_Mo_post_44 : decode zc_Mo_post 44 = .ok (.istore_n 3, 1) := by decide +kernel
theorem zd_Mo_post_45 : decode zc_Mo_post 45 = .ok (.iload_n 3, 1) := by decide +kernel
theorem zd_Mo_post_46 : decode zc_Mo_post 46 = .ok (.iconst 3, 1) := by decide +kernel
theorem zd_Mo_post_47 : decode zc_Mo_post 47 = .ok (.if_icmp .ge 84, 3) := by decide +kernel
theorem zd_Mo_post_50 : decode zc_Mo_post 50 = .ok (.bipush 27, 2) := by decide +kernel
theorem zd_Mo_post_52 : decode zc_Mo_post 52 = .ok (.iload_n 1, 1) := by decide +kernel
theorem zd_Mo_post_53 : decode zc_Mo_post 53 = .ok (.imul, 1) := by decide +kernel
theorem zd_Mo_post_54 : decode zc_Mo_post 54 = .ok (.bipush 9, 2) := by decide +kernel
theorem zd_Mo_post_56 : decode zc_Mo_post 56 = .ok (.iload_n 2, 1) := by decide +kernel
theorem zd_Mo_post_57 : decode zc_Mo_post 57 = .ok (.imul, 1) := by decide +kernel
theorem zd_Mo_post_58 : decode zc_Mo_post 58 = .ok (.iadd, 1) := by decide +kernel
theorem zd_Mo_post_59 : decode zc_Mo_post 59 = .ok (.iconst 3, 1) := by decide +kernel
theorem zd_Mo_post_60 : decode zc_Mo_post 60 = .ok (.iload_n 3, 1) := by decide +kernel
theorem zd_Mo_post_61 : decode zc_Mo_post 61 = .ok (.imul, 1) := by decide +kernel
theorem zd_Mo_post_62 : decode zc_Mo_post 62 = .ok (.iadd, 1) := by decide +kernel
theorem zd_Mo_post_63 : decode zc_Mo_post 63 = .ok (.istore 4, 2) := by decide +kernel
theorem zd_Mo_post_65 : decode zc_Mo_post 65 = .ok (.aload_n 0, 1) := by decide +kernel
theorem zd_Mo_post_66 : decode zc_Mo_post 66 = .ok (.getfield 59, 3) := by decide +kernel
theorem zd_Mo_post_69 : decode zc_Mo_post 69 = .ok (.bipush 6, 2) := by decide +kernel
theorem zd_Mo_post_71 : decode zc_Mo_post 71 = .ok (.aload_n 0, 1) := by decide +kernel
theorem zd_Mo_post_72 : decode zc_Mo_post 72 = .ok (.getfield 200, 3) := by decide +kernel
theorem zd_Mo_post_75 : decode zc_Mo_post 75 = .ok (.imul, 1) := by decide +kernel
theorem zd_Mo_post_76 : decode zc_Mo_post 76 = .ok (.iconst 2, 1) := by decide +kernel
theorem zd_Mo_post_77 : decode zc_Mo_post 77 = .ok (.iload_n 3, 1) := by decide +kernel
theorem zd_Mo_post_78 : decode zc_Mo_post 78 = .ok (.imul, 1) := by decide +kernel
theorem zd_Mo_post_79 : decode zc_Mo_post 79 = .ok (.iadd, 1) := by decide +kernel
theorem zd_Mo_post_80 : decode zc_Mo_post 80 = .ok (.aload_n 0, 1) := by decide +kernel
theorem zd_Mo_post_81 : decode zc_Mo_post 81 = .ok (.getfield 41, 3) := by decide +kernel
theorem zd_Mo_post_84 : decode zc_Mo_post 84 = .ok (.iload 4, 2) := by decide +kernel
theorem zd_Mo_post_86 : decode zc_Mo_post 86 = .ok (.iaload, 1) := by decide +kernel
theorem zd_Mo_post_87 : decode zc_Mo_post 87 = .ok (.aload_n 0, 1) := by decide +kernel
theorem zd_Mo_post_88 : decode zc_Mo_post 88 = .ok (.getfield 41, 3) := by decide +kernel
theorem zd_Mo_post_91 : decode zc_Mo_post 91 = .ok (.iload 4, 2) := by decide +kernel
theorem zd_Mo_post_93 : decode zc_Mo_post 93 = .ok (.iconst 1, 1) := by decide +kernel
theorem zd_Mo_post_94 : decode zc_Mo_post 94 = .ok (.iadd, 1) := by decide +kernel
theorem zd_Mo_post_95 : decode zc_Mo_post 95 = .ok (.iaload, 1) := by decide +kernel
theorem zd_Mo_post_96 : decode zc_Mo_post 96 = .ok (.ior, 1) := by decide +kernel
theorem zd_Mo_post_97 : decode zc_Mo_post 97 = .ok (.iastore, 1) := by decide +kernel
theorem zd_Mo_post_98 : decode zc_Mo_post 98 = .ok (.aload_n 0, 1) := by decide +kernel
theorem zd_Mo_post_99 : decode zc_Mo_post 99 = .ok (.getfield 59, 3) := by decide +kernel
theorem zd_Mo_post_102 : decode zc_Mo_post 102 = .ok (.bipush 6, 2) := by decide +kernel
theorem zd_Mo_post_104 : decode zc_Mo_post 104 = .ok (.aload_n 0, 1) := by decide +kernel
theorem zd_Mo_post_105 : decode zc_Mo_post 105 = .ok (.getfield 200, 3) := by decide +kernel
theorem zd_Mo_post_108 : decode zc_Mo_post 108 = .ok (.imul, 1) := by decide +kernel
theorem zd_Mo_post_109 : decode zc_Mo_post 109 = .ok (.iconst 2, 1) := by decide +kernel
theorem zd_Mo_post_110 : decode zc_Mo_post 110 = .ok (.iload_n 3, 1) := by decide +kernel
theorem zd_Mo_post_111 : decode zc_Mo_post 111 = .ok (.imul, 1) := by decide +kernel
theorem zd_Mo_post_112 : decode zc_Mo_post 112 = .ok (.iadd, 1) := by decide +kernel
theorem zd_Mo_post_113 : decode zc_Mo_post 113 = .ok (.iconst 1, 1) := by decide +kernel
theorem zd_Mo_post_114 : decode zc_Mo_post 114 = .ok (.iadd, 1) := by decide +kernel
theorem zd_Mo_post_115 : decode zc_Mo_post 115 = .ok (.aload_n 0, 1) := by decide +kernel
theorem zd_Mo_post_116 : decode zc_Mo_post 116 = .ok (.getfield 41, 3) := by decide +kernel
theorem zd_Mo_post_119 : decode zc_Mo_post 119 = .ok (.iload 4, 2) := by decide +kernel
theorem zd_Mo_post_121 : decode zc_Mo_post 121 = .ok (.iconst 1, 1) := by decide +kernel
theorem zd_Mo_post_122 : decode zc_Mo_post 122 = .ok (.iadd, 1) := by decide +kernel
theorem zd_Mo_post_123 : decode zc_Mo_post 123 = .ok (.iaload, 1) := by decide +kernel
theorem zd_Mo_post_124 : decode zc_Mo_post 124 = .ok (.iastore, 1) := by decide +kernel
theorem zd_Mo_post_125 : decode zc_Mo_post 125 = .ok (.iinc 3 1, 3) := by decide +kernel
theorem zd_Mo_post_128 : decode zc_Mo_post 128 = .ok (.goto (-83), 3) := by decide +kernel
theorem zd_Mo_post_131 : decode zc_Mo_post 131 = .ok (.aload_n 0, 1) := by decide +kernel
theorem zd_Mo_post_132 : decode zc_Mo_post 132 = .ok (.iload_n 1, 1) := by decide +kernel
theorem zd_Mo_post_133 : decode zc_Mo_post 133 = .ok (.iload_n 2, 1) := by decide +kernel
theorem zd_Mo_post_134 : decode zc_Mo_post 134 = .ok (.invokevirtual 203, 3) := by decide +kernel
theorem zd_Mo_post_137 : decode zc_Mo_post 137 = .ok (.ireturn, 1) := by decide +kernel
theorem zd_Mo_forge_0 : decode zc_Mo_forge 0 = .ok (.iload_n 1, 1) := by decide +kernel
theorem zd_Mo_forge_1 : decode zc_Mo_forge 1 = .ok (.iconst 0, 1) := by decide +kernel
theorem zd_Mo_forge_2 : decode zc_Mo_forge 2 = .ok (.iconst 4, 1) := by decide +kernel
theorem zd_Mo_forge_3 : decode zc_Mo_forge 3 = .ok (.invokestatic 105, 3) := by decide +kernel
theorem zd_Mo_forge_6 : decode zc_Mo_forge 6 = .ok (.ifCond .eq 29, 3) := by decide +kernel
theorem zd_Mo_forge_9 : decode zc_Mo_forge 9 = .ok (.aload_n 0, 1) := by decide +kernel
theorem zd_Mo_forge_10 : decode zc_Mo_forge 10 = .ok (.iload_n 1, 1) := by decide +kernel
theorem zd_Mo_forge_11 : decode zc_Mo_forge 11 = .ok (.invokevirtual 190, 3) := by decide +kernel
theorem zd_Mo_forge_14 : decode zc_Mo_forge 14 = .ok (.ifCond .ne 21, 3) := by decide +kernel
theorem zd_Mo_forge_17 : decode zc_Mo_forge 17 = .ok (.iload_n 2, 1) := by decide +kernel
theorem zd_Mo_forge_18 : decode zc_Mo_forge 18 = .ok (.iconst 0, 1) := by decide +kernel
theorem zd_Mo_forge_19 : decode zc_Mo_forge 19 = .ok (.iconst 2, 1) := by decide +kernel
theorem zd_Mo_forge_20 : decode zc_Mo_forge 20 = .ok (.invokestatic 105, 3) := by decide +kernel
theorem zd_Mo_forge_23 : decode zc_Mo_forge 23 = .ok (.ifCond .eq 12, 3) := by decide +kernel
theorem zd_Mo_forge_26 : decode zc_Mo_forge 26 = .ok (.aload_n 0, 1) := by decide +kernel
theorem zd_Mo_forge_27 : decode zc_Mo_forge 27 = .ok (.getfield 200, 3) := by decide +kernel
theorem zd_Mo_forge_30 : decode zc_Mo_forge 30 = .ok (.bipush 120, 2) := by decide +kernel
theorem zd_Mo_forge_32 : decode zc_Mo_forge 32 = .ok (.if_icmp .ne 5, 3) := by decide +kernel
theorem zd_Mo_forge_35 : decode zc_Mo_forge 35 = .ok (.iconst (-1), 1) := by decide +kernel
theorem zd_Mo_forge_36 : decode zc_Mo_forge 36 = .ok (.ireturn, 1) := by decide +kernel
theorem zd_Mo_forge_37 : decode zc_Mo_forge 37 = .ok (.aload_n 0, 1) := by decide +kernel
theorem zd_Mo_forge_38 : decode zc_Mo_forge 38 = .ok (.iconst 1, 1) := by decide +kernel
theorem zd_Mo_forge_39 : decode zc_Mo_forge 39 = .ok (.putfield 117, 3) := by decide +kernel
theorem zd_Mo_forge_42 : decode zc_Mo_forge 42 = .ok (.iconst 0, 1) := by decide +kernel
theorem zd_Mo_forge_43 : decode zc_Mo_forge 43 = .ok (.istore 6, 2) := by decide +kernel
theorem zd_Mo_forge_45 : decode zc_Mo_forge 45 = .ok (.iload 6, 2) := by decide +kernel
theorem zd_Mo_forge_47 : decode zc_Mo_forge 47 = .ok (.iconst 2, 1) := by decide +kernel
theorem zd_Mo_forge_48 : decode zc_Mo_forge 48 = .ok (.if_icmp .ge 73, 3) := by decide +kernel
theorem zd_Mo_forge_51 : decode zc_Mo_forge 51 = .ok (.aload_n 0, 1) := by decide +kernel
theorem zd_Mo_forge_52 : decode zc_Mo_forge 52 = .ok (.getfield 59, 3) := by decide +kernel
theorem zd_Mo_forge_55 : decode zc_Mo_forge 55 = .ok (.bipush 6, 2) := by decide +kernel
theorem zd_Mo_forge_57 : decode zc_Mo_forge 57 = .ok (.aload_n 0, 1) := by decide +kernel
theorem zd_Mo_forge_58 : decode zc_Mo_forge 58 = .ok (.getfield 200, 3) := by decide +kernel
theorem zd_Mo_forge_61 : decode zc_Mo_forge 61 = .ok (.imul, 1) := by decide +kernel
theorem zd_Mo_forge_62 : decode zc_Mo_forge 62 = .ok (.iload 6, 2) := by decide +kernel
theorem zd_Mo_forge_64 : decode zc_Mo_forge 64 = .ok (.iadd, 1) := by decide +kernel
theorem zd_Mo_forge_65 : decode zc_Mo_forge 65 = .ok (.iload_n 3, 1) := by decide +kernel
theorem zd_Mo_forge_66 : decode zc_Mo_forge 66 = .ok (.sipush 254, 3) := by decide +kernel
theorem zd_Mo_forge_69 : decode zc_Mo_forge 69 = .ok (.iand, 1) := by decide +kernel
theorem zd_Mo_forge_70 : decode zc_Mo_forge 70 = .ok (.iastore, 1) := by decide +kernel
theorem zd_Mo_forge_71 : decode zc_Mo_forge 71 = .ok (.aload_n 0, 1) := by decide +kernel
theorem zd_Mo_forge_72 : decode zc_Mo_forge 72 = .ok (.getfield 59, 3) := by decide +kernel
theorem zd_Mo_forge_75 : decode zc_Mo_forge 75 = .ok (.bipush 6, 2) := by decide +kernel
theorem zd_Mo_forge_77 : decode zc_Mo_forge 77 = .ok (.aload_n 0, 1) := by decide +kernel
theorem zd_Mo_forge_78 : decode zc_Mo_forge 78 = .ok (.getfield 200, 3) := by decide +kernel
theorem zd_Mo_forge_81 : decode zc_Mo_forge 81 = .ok (.imul, 1) := by decide +kernel
theorem zd_Mo_forge_82 : decode zc_Mo_forge 82 = .ok (.iconst 2, 1) := by decide +kernel
theorem zd_Mo_forge_83 : decode zc_Mo_forge 83 = .ok (.iadd, 1) := by decide +kernel
theorem zd_Mo_forge_84 : decode zc_Mo_forge 84 = .ok (.iload 6, 2) := by decide +kernel
theorem zd_Mo_forge_86 : decode zc_Mo_forge 86 = .ok (.iadd, 1) := by decide +kernel
theorem zd_Mo_forge_87 : decode zc_Mo_forge 87 = .ok (.iload 4, 2) := by decide +kernel
theorem zd_Mo_forge_89 : decode zc_Mo_forge 89 = .ok (.ldc 207, 2) := by decide +kernel
theorem zd_Mo_forge_91 : decode zc_Mo_forge 91 = .ok (.iand, 1) := by decide +kernel
theorem zd_Mo_forge_92 : decode zc_Mo_forge 92 = .ok (.iastore, 1) := by decide +kernel
theorem zd_Mo_forge_93 : decode zc_Mo_forge 93 = .ok (.aload_n 0, 1) := by decide +kernel
theorem zd_Mo_forge_94 : decode zc_Mo_forge 94 = .ok (.getfield 59, 3) := by decide +kernel
theorem zd_Mo_forge_97 : decode zc_Mo_forge 97 = .ok (.bipush 6, 2) := by decide +kernel
theorem zd_Mo_forge_99 : decode zc_Mo_forge 99 = .ok (.aload_n 0, 1) := by decide +kernel
theorem zd_Mo_forge_100 : decode zc_Mo_forge 100 = .ok (.getfield 200, 3) := by decide +kernel
theorem zd_Mo_forge_103 : decode zc_Mo_forge 103 = .ok (.imul, 1) := by decide +kernel
theorem zd_Mo_forge_104 : decode zc_Mo_forge 104 = .ok (.iconst 4, 1) := by decide +kernel
theorem zd_Mo_forge_105 : decode zc_Mo_forge 105 = .ok (.iadd, 1) := by decide +kernel
theorem zd_Mo_forge_106 : decode zc_Mo_forge 106 = .ok (.iload 6, 2) := by decide +kernel
theorem zd_Mo_forge_108 : decode zc_Mo_forge 108 = .ok (.iadd, 1) := by decide +kernel
theorem zd_Mo_forge_109 : decode zc_Mo_forge 109 = .ok (.iload 5, 2) := by decide +kernel
theorem zd_Mo_forge_111 : decode zc_Mo_forge 111 = .ok (.ldc 207, 2) := by decide +kernel
theorem zd_Mo_forge_113 : decode zc_Mo_forge 113 = .ok (.iand, 1) := by decide +kernel
theorem zd_Mo_forge_114 : decode zc_Mo_forge 114 = .ok (.iastore, 1) := by decide +kernel
theorem zd_Mo_forge_115 : decode zc_Mo_forge 115 = .ok (.iinc 6 1, 3) := by decide +kernel
theorem zd_Mo_forge_118 : decode zc_Mo_forge 118 = .ok (.goto (-73), 3) := by decide +kernel
theorem zd_Mo_forge_121 : decode zc_Mo_forge 121 = .ok (.aload_n 0, 1) := by decide +kernel
theorem zd_Mo_forge_122 : decode zc_Mo_forge 122 = .ok (.iload_n 1, 1) := by decide +kernel
theorem zd_Mo_forge_123 : decode zc_Mo_forge 123 = .ok (.iload_n 2, 1) := by decide +kernel
theorem zd_Mo_forge_124 : decode zc_Mo_forge 124 = .ok (.invokevirtual 203, 3) := by decide +kernel
theorem zd_Mo_forge_127 : decode zc_Mo_forge 127 = .ok (.ireturn, 1) := by decide +kernel
theorem zd_Mo_deliver_0 : decode zc_Mo_deliver 0 = .ok (.iload_n 1, 1) := by decide +kernel
theorem zd_Mo_deliver_1 : decode zc_Mo_deliver 1 = .ok (.iconst 0, 1) := by decide +kernel
theorem zd_Mo_deliver_2 : decode zc_Mo_deliver 2 = .ok (.aload_n 0, 1) := by decide +kernel
theorem zd_Mo_deliver_3 : decode zc_Mo_deliver 3 = .ok (.getfield 200, 3) := by decide +kernel
theorem zd_Mo_deliver_6 : decode zc_Mo_deliver 6 = .ok (.iconst 1, 1) := by decide +kernel
theorem zd_Mo_deliver_7 : decode zc_Mo_deliver 7 = .ok (.isub, 1) := by decide +kernel
theorem zd_Mo_deliver_8 : decode zc_Mo_deliver 8 = .ok (.invokestatic 105, 3) := by decide +kernel
theorem zd_Mo_deliver_11 : decode zc_Mo_deliver 11 = .ok (.ifCond .eq 36, 3) := by decide +kernel
theorem zd_Mo_deliver_14 : decode zc_Mo_deliver 14 = .ok (.aload_n 0, 1) := by decide +kernel
theorem zd_Mo_deliver_15 : decode zc_Mo_deliver 15 = .ok (.iload_n 2, 1) := by decide +kernel
theorem zd_Mo_deliver_16 : decode zc_Mo_deliver 16 = .ok (.invokevirtual 190, 3) := by decide +kernel
theorem zd_Mo_deliver_19 : decode zc_Mo_deliver 19 = .ok (.ifCond .eq 28, 3) := by decide +kernel
theorem zd_Mo_deliver_22 : decode zc_Mo_deliver 22 = .ok (.aload_n 0, 1) := by decide +kernel
theorem zd_Mo_deliver_23 : decode zc_Mo_deliver 23 = .ok (.getfield 53, 3) := by decide +kernel
theorem zd_Mo_deliver_26 : decode zc_Mo_deliver 26 = .ok (.iload_n 1, 1) := by decide +kernel
theorem zd_Mo_deliver_27 : decode zc_Mo_deliver 27 = .ok (.iaload, 1) := by decide +kernel
theorem zd_Mo_deliver_28 : decode zc_Mo_deliver 28 = .ok (.iload_n 2, 1) := by decide +kernel
theorem zd_Mo_deliver_29 : decode zc_Mo_deliver 29 = .ok (.if_icmp .eq 18, 3) := by decide +kernel
theorem zd_Mo_deliver_32 : decode zc_Mo_deliver 32 = .ok (.aload_n 0, 1) := by decide +kernel
theorem zd_Mo_deliver_33 : decode zc_Mo_deliver 33 = .ok (.getfield 56, 3) := by decide +kernel
theorem zd_Mo_deliver_36 : decode zc_Mo_deliver 36 = .ok (.iload_n 1, 1) := by decide +kernel
theorem zd_Mo_deliver_37 : decode zc_Mo_deliver 37 = .ok (.iaload, 1) := by decide +kernel
theorem zd_Mo_deliver_38 : decode zc_Mo_deliver 38 = .ok (.aload_n 0, 1) := by decide +kernel
theorem zd_Mo_deliver_39 : decode zc_Mo_deliver 39 = .ok (.getfield 26, 3) := by decide +kernel
theorem zd_Mo_deliver_42 : decode zc_Mo_deliver 42 = .ok (.iload_n 2, 1) := by decide +kernel
theorem zd_Mo_deliver_43 : decode zc_Mo_deliver 43 = .ok (.iaload, 1) := by decide +kernel
theorem zd_Mo_deliver_44 : decode zc_Mo_deliver 44 = .ok (.if_icmp .eq 5, 3) := by decide +kernel
theorem zd_Mo_deliver_47 : decode zc_Mo_deliver 47 = .ok (.iconst 0, 1) := by decide +kernel
theorem zd_Mo_deliver_48 : decode zc_Mo_deliver 48 = .ok (.ireturn, 1) := by decide +kernel
theorem zd_Mo_deliver_49 : decode zc_Mo_deliver 49 = .ok (.iconst 0, 1) := by decide +kernel
theorem zd_Mo_deliver_50 : decode zc_Mo_deliver 50 = .ok (.istore_n 3, 1) := by decide +kernel
theorem zd_Mo_deliver_51 : decode zc_Mo_deliver 51 = .ok (.iload_n 3, 1) := by decide +kernel
theorem zd_Mo_deliver_52 : decode zc_Mo_deliver 52 = .ok (.bipush 6, 2) := by decide +kernel
theorem zd_Mo_deliver_54 : decode zc_Mo_deliver 54 = .ok (.if_icmp .ge 53, 3) := by decide +kernel
theorem zd_Mo_deliver_57 : decode zc_Mo_deliver 57 = .ok (.bipush 30, 2) := by decide +kernel
theorem zd_Mo_deliver_59 : decode zc_Mo_deliver 59 = .ok (.iload_n 2, 1) := by decide +kernel
theorem zd_Mo_deliver_60 : decode zc_Mo_deliver 60 = .ok (.imul, 1) := by decide +kernel
theorem zd_Mo_deliver_61 : decode zc_Mo_deliver 61 = .ok (.bipush 6, 2) := by decide +kernel
theorem zd_Mo_deliver_63 : decode zc_Mo_deliver 63 = .ok (.aload_n 0, 1) := by decide +kernel
theorem zd_Mo_deliver_64 : decode zc_Mo_deliver 64 = .ok (.getfield 53, 3) := by decide +kernel
theorem zd_Mo_deliver_67 : decode zc_Mo_deliver 67 = .ok (.iload_n 1, 1) := by decide +kernel
theorem zd_Mo_deliver_68 : decode zc_Mo_deliver 68 = .ok (.iaload, 1) := by decide +kernel
theorem zd_Mo_deliver_69 : decode zc_Mo_deliver 69 = .ok (.imul, 1) := by decide +kernel
theorem zd_Mo_deliver_70 : decode zc_Mo_deliver 70 = .ok (.iadd, 1) := by decide +kernel
theorem zd_Mo_deliver_71 : decode zc_Mo_deliver 71 = .ok (.iload_n 3, 1) := by decide +kernel
theorem zd_Mo_deliver_72 : decode zc_Mo_deliver 72 = .ok (.iadd, 1) := by decide +kernel
theorem zd_Mo_deliver_73 : decode zc_Mo_deliver 73 = .ok (.istore 4, 2) := by decide +kernel
theorem zd_Mo_deliver_75 : decode zc_Mo_deliver 75 = .ok (.aload_n 0, 1) := by decide +kernel
theorem zd_Mo_deliver_76 : decode zc_Mo_deliver 76 = .ok (.getfield 44, 3) := by decide +kernel
theorem zd_Mo_deliver_79 : decode zc_Mo_deliver 79 = .ok (.iload 4, 2) := by decide +kernel
theorem zd_Mo_deliver_81 : decode zc_Mo_deliver 81 = .ok (.aload_n 0, 1) := by decide +kernel
theorem zd_Mo_deliver_82 : decode zc_Mo_deliver 82 = .ok (.getfield 44, 3) := by decide +kernel
theorem zd_Mo_deliver_85 : decode zc_Mo_deliver 85 = .ok (.iload 4, 2) := by decide +kernel
theorem zd_Mo_deliver_87 : decode zc_Mo_deliver 87 = .ok (.iaload, 1) := by decide +kernel
theorem zd_Mo_deliver_88 : decode zc_Mo_deliver 88 = .ok (.aload_n 0, 1) := by decide +kernel
theorem zd_Mo_deliver_89 : decode zc_Mo_deliver 89 = .ok (.getfield 59, 3) := by decide +kernel
theorem zd_Mo_deliver_92 : decode zc_Mo_deliver 92 = .ok (.bipush 6, 2) := by decide +kernel
theorem zd_Mo_deliver_94 : decode zc_Mo_deliver 94 = .ok (.iload_n 1, 1) := by decide +kernel
theorem zd_Mo_deliver_95 : decode zc_Mo_deliver 95 = .ok (.imul, 1) := by decide +kernel
theorem zd_Mo_deliver_96 : decode zc_Mo_deliver 96 = .ok (.iload_n 3, 1) := by decide +kernel
theorem zd_Mo_deliver_97 : decode zc_Mo_deliver 97 = .ok (.iadd, 1) := by decide +kernel
theorem zd_Mo_deliver_98 : decode zc_Mo_deliver 98 = .ok (.iaload, 1) := by decide +kernel
theorem zd_Mo_deliver_99 : decode zc_Mo_deliver 99 = .ok (.ior, 1) := by decide +kernel
theorem zd_Mo_deliver_100 : decode zc_Mo_deliver 100 = .ok (.iastore, 1) := by decide +kernel
theorem zd_Mo_deliver_101 : decode zc_Mo_deliver 101 = .ok (.iinc 3 1, 3) := by decide +kernel
theorem zd_Mo_deliver_104 : decode zc_Mo_deliver 104 = .ok (.goto (-53), 3) := by decide +kernel
theorem zd_Mo_deliver_107 : decode zc_Mo_deliver 107 = .ok (.aload_n 0, 1) := by decide +kernel
theorem zd_Mo_deliver_108 : decode zc_Mo_deliver 108 = .ok (.iload_n 2, 1) := by decide +kernel
theorem zd_Mo_deliver_109 : decode zc_Mo_deliver 109 = .ok (.invokevirtual 197, 3) := by decide +kernel
theorem zd_Mo_deliver_112 : decode zc_Mo_deliver 112 = .ok (.iconst 1, 1) := by decide +kernel
theorem zd_Mo_deliver_113 : decode zc_Mo_deliver 113 = .ok (.ireturn, 1) := by decide +kernel
theorem zd_Mo_envelopes_0 : decode zc_Mo_envelopes 0 = .ok (.aload_n 0, 1) := by decide +kernel
theorem zd_Mo_envelopes_1 : decode zc_Mo_envelopes 1 = .ok (.getfield 200, 3) := by decide +kernel
theorem zd_Mo_envelopes_4 : decode zc_Mo_envelopes 4 = .ok (.ireturn, 1) := by decide +kernel
theorem zd_Mo_submit_0 : decode zc_Mo_submit 0 = .ok (.iload_n 1, 1) := by decide +kernel
theorem zd_Mo_submit_1 : decode zc_Mo_submit 1 = .ok (.iconst 0, 1) := by decide +kernel
theorem zd_Mo_submit_2 : decode zc_Mo_submit 2 = .ok (.iconst 2, 1) := by decide +kernel
theorem zd_Mo_submit_3 : decode zc_Mo_submit 3 = .ok (.invokestatic 105, 3) := by decide +kernel
theorem zd_Mo_submit_6 : decode zc_Mo_submit 6 = .ok (.ifCond .eq 53, 3) := by decide +kernel
theorem zd_Mo_submit_9 : decode zc_Mo_submit 9 = .ok (.iload_n 2, 1) := by decide +kernel
theorem zd_Mo_submit_10 : decode zc_Mo_submit 10 = .ok (.iconst 0, 1) := by decide +kernel
theorem zd_Mo_submit_11 : decode zc_Mo_submit 11 = .ok (.iconst 2, 1) := by decide +kernel
theorem zd_Mo_submit_12 : decode zc_Mo_submit 12 = .ok (.invokestatic 105, 3) := by decide +kernel
theorem zd_Mo_submit_15 : decode zc_Mo_submit 15 = .ok (.ifCond .eq 44, 3) := by decide +kernel
theorem zd_Mo_submit_18 : decode zc_Mo_submit 18 = .ok (.iload_n 3, 1) := by decide +kernel
theorem zd_Mo_submit_19 : decode zc_Mo_submit 19 = .ok (.iconst 0, 1) := by decide +kernel
theorem zd_Mo_submit_20 : decode zc_Mo_submit 20 = .ok (.iconst 1, 1) := by decide +kernel
theorem zd_Mo_submit_21 : decode zc_Mo_submit 21 = .ok (.invokestatic 105, 3) := by decide +kernel
theorem zd_Mo_submit_24 : decode zc_Mo_submit 24 = .ok (.ifCond .eq 35, 3) := by decide +kernel
theorem zd_Mo_submit_27 : decode zc_Mo_submit 27 = .ok (.iload 4, 2) := by decide +kernel
theorem zd_Mo_submit_29 : decode zc_Mo_submit 29 = .ok (.iconst 0, 1) := by decide +kernel
theorem zd_Mo_submit_30 : decode zc_Mo_submit 30 = .ok (.iconst 3, 1) := by decide +kernel
theorem zd_Mo_submit_31 : decode zc_Mo_submit 31 = .ok (.invokestatic 105, 3) := by decide +kernel
theorem zd_Mo_submit_34 : decode zc_Mo_submit 34 = .ok (.ifCond .eq 25, 3) := by decide +kernel
theorem zd_Mo_submit_37 : decode zc_Mo_submit 37 = .ok (.iload 5, 2) := by decide +kernel
theorem zd_Mo_submit_39 : decode zc_Mo_submit 39 = .ok (.iconst 0, 1) := by decide +kernel
theorem zd_Mo_submit_40 : decode zc_Mo_submit 40 = .ok (.iconst 1, 1) := by decide +kernel
theorem zd_Mo_submit_41 : decode zc_Mo_submit 41 = .ok (.invokestatic 105, 3) := by decide +kernel
theorem zd_Mo_submit_44 : decode zc_Mo_submit 44 = .ok (.ifCond .eq 15, 3) := by decide +kernel
theorem zd_Mo_submit_47 : decode zc_Mo_submit 47 = .ok (.iload 7, 2) := by decide +kernel
theorem zd_Mo_submit_49 : decode zc_Mo_submit 49 = .ok (.iconst 1, 1) := by decide +kernel
theorem zd_Mo_submit_50 : decode zc_Mo_submit 50 = .ok (.sipush 1000, 3) := by decide +kernel
theorem zd_Mo_submit_53 : decode zc_Mo_submit 53 = .ok (.invokestatic 105, 3) := by decide +kernel
theorem zd_Mo_submit_56 : decode zc_Mo_submit 56 = .ok (.ifCond .ne 5, 3) := by decide +kernel
theorem zd_Mo_submit_59 : decode zc_Mo_submit 59 = .ok (.iconst 0, 1) := by decide +kernel
theorem zd_Mo_submit_60 : decode zc_Mo_submit 60 = .ok (.ireturn, 1) := by decide +kernel
theorem zd_Mo_submit_61 : decode zc_Mo_submit 61 = .ok (.iload_n 3, 1) := by decide +kernel
theorem zd_Mo_submit_62 : decode zc_Mo_submit 62 = .ok (.ifCond .ne 13, 3) := by decide +kernel
theorem zd_Mo_submit_65 : decode zc_Mo_submit 65 = .ok (.iload 6, 2) := by decide +kernel
theorem zd_Mo_submit_67 : decode zc_Mo_submit 67 = .ok (.iconst 0, 1) := by decide +kernel
theorem zd_Mo_submit_68 : decode zc_Mo_submit 68 = .ok (.iconst 3, 1) := by decide +kernel
theorem zd_Mo_submit_69 : decode zc_Mo_submit 69 = .ok (.invokestatic 105, 3) := by decide +kernel
theorem zd_Mo_submit_72 : decode zc_Mo_submit 72 = .ok (.goto 11, 3) := by decide +kernel
theorem zd_Mo_submit_75 : decode zc_Mo_submit 75 = .ok (.iload 6, 2) := by decide +kernel
theorem zd_Mo_submit_77 : decode zc_Mo_submit 77 = .ok (.iconst 1, 1) := by decide +kernel
theorem zd_Mo_submit_78 : decode zc_Mo_submit 78 = .ok (.bipush 9, 2) := by decide +kernel
theorem zd_Mo_submit_80 : decode zc_Mo_submit 80 = .ok (.invokestatic 105, 3) := by decide +kernel
theorem zd_Mo_submit_83 : decode zc_Mo_submit 83 = .ok (.istore 8, 2) := by decide +kernel
theorem zd_Mo_submit_85 : decode zc_Mo_submit 85 = .ok (.iconst 0, 1) := by decide +kernel
theorem zd_Mo_submit_86 : decode zc_Mo_submit 86 = .ok (.istore 9, 2) := by decide +kernel
theorem zd_Mo_submit_88 : decode zc_Mo_submit 88 = .ok (.iload 9, 2) := by decide +kernel
theorem zd_Mo_submit_90 : decode zc_Mo_submit 90 = .ok (.iconst 5, 1) := by decide +kernel
theorem zd_Mo_submit_91 : decode zc_Mo_submit 91 = .ok (.if_icmp .ge 41, 3) := by decide +kernel
theorem zd_Mo_submit_94 : decode zc_Mo_submit 94 = .ok (.iload 8, 2) := by decide +kernel
theorem zd_Mo_submit_96 : decode zc_Mo_submit 96 = .ok (.ifCond .eq 27, 3) := by decide +kernel
theorem zd_Mo_submit_99 : decode zc_Mo_submit 99 = .ok (.aload_n 0, 1) := by decide +kernel
theorem zd_Mo_submit_100 : decode zc_Mo_submit 100 = .ok (.iload 9, 2) := by decide +kernel
theorem zd_Mo_submit_102 : decode zc_Mo_submit 102 = .ok (.invokevirtual 190, 3) := by decide +kernel
theorem zd_Mo_submit_105 : decode zc_Mo_submit 105 = .ok (.ifCond .eq 14, 3) := by decide +kernel
theorem zd_Mo_submit_108 : decode zc_Mo_submit 108 = .ok (.aload_n 0, 1) := by decide +kernel
theorem zd_Mo_submit_109 : decode zc_Mo_submit 109 = .ok (.getfield 26, 3) := by decide +kernel
theorem zd_Mo_submit_112 : decode zc_Mo_submit 112 = .ok (.iload 9, 2) := by decide +kernel
theorem zd_Mo_submit_114 : decode zc_Mo_submit 114 = .ok (.iaload, 1) := by decide +kernel
theorem zd_Mo_submit_115 : decode zc_Mo_submit 115 = .ok (.iload_n 1, 1) := by decide +kernel
theorem zd_Mo_submit_116 : decode zc_Mo_submit 116 = .ok (.if_icmp .gt 7, 3) := by decide +kernel
theorem zd_Mo_submit_119 : decode zc_Mo_submit 119 = .ok (.iconst 1, 1) := by decide +kernel
theorem zd_Mo_submit_120 : decode zc_Mo_submit 120 = .ok (.goto 4, 3) := by decide +kernel
theorem zd_Mo_submit_123 : decode zc_Mo_submit 123 = .ok (.iconst 0, 1) := by decide +kernel
theorem zd_Mo_submit_124 : decode zc_Mo_submit 124 = .ok (.istore 8, 2) := by decide +kernel
theorem zd_Mo_submit_126 : decode zc_Mo_submit 126 = .ok (.iinc 9 1, 3) := by decide +kernel
theorem zd_Mo_submit_129 : decode zc_Mo_submit 129 = .ok (.goto (-41), 3) := by decide +kernel
theorem zd_Mo_submit_132 : decode zc_Mo_submit 132 = .ok (.iconst 3, 1) := by decide +kernel
theorem zd_Mo_submit_133 : decode zc_Mo_submit 133 = .ok (.iload_n 1, 1) := by decide +kernel
theorem zd_Mo_submit_134 : decode zc_Mo_submit 134 = .ok (.imul, 1) := by decide +kernel
theorem zd_Mo_submit_135 : decode zc_Mo_submit 135 = .ok (.iload_n 2, 1) := by decide +kernel
theorem zd_Mo_submit_136 : decode zc_Mo_submit 136 = .ok (.iadd, 1) := by decide +kernel
theorem zd_Mo_submit_137 : decode zc_Mo_submit 137 = .ok (.istore 9, 2) := by decide +kernel
theorem zd_Mo_submit_139 : decode zc_Mo_submit 139 = .ok (.iload 8, 2) := by decide +kernel
theorem zd_Mo_submit_141 : decode zc_Mo_submit 141 = .ok (.ifCond .eq 13, 3) := by decide +kernel
theorem zd_Mo_submit_144 : decode zc_Mo_submit 144 = .ok (.aload_n 0, 1) := by decide +kernel
theorem zd_Mo_submit_145 : decode zc_Mo_submit 145 = .ok (.getfield 62, 3) := by decide +kernel
theorem zd_Mo_submit_148 : decode zc_Mo_submit 148 = .ok (.iload 9, 2) := by decide +kernel
theorem zd_Mo_submit_150 : decode zc_Mo_submit 150 = .ok (.baload, 1) := by decide +kernel
theorem zd_Mo_submit_151 : decode zc_Mo_submit 151 = .ok (.ifCond .eq 5, 3) := by decide +kernel
theorem zd_Mo_submit_154 : decode zc_Mo_submit 154 = .ok (.iconst 0, 1) := by decide +kernel
theorem zd_Mo_submit_155 : decode zc_Mo_submit 155 = .ok (.ireturn, 1) := by decide +kernel
theorem zd_Mo_submit_156 : decode zc_Mo_submit 156 = .ok (.aload_n 0, 1) := by decide +kernel
theorem zd_Mo_submit_157 : decode zc_Mo_submit 157 = .ok (.getfield 62, 3) := by decide +kernel
theorem zd_Mo_submit_160 : decode zc_Mo_submit 160 = .ok (.iload 9, 2) := by decide +kernel
theorem zd_Mo_submit_162 : decode zc_Mo_submit 162 = .ok (.iconst 1, 1) := by decide +kernel
theorem zd_Mo_submit_163 : decode zc_Mo_submit 163 = .ok (.bastore, 1) := by decide +kernel
theorem zd_Mo_submit_164 : decode zc_Mo_submit 164 = .ok (.aload_n 0, 1) := by decide +kernel
theorem zd_Mo_submit_165 : decode zc_Mo_submit 165 = .ok (.getfield 65, 3) := by decide +kernel
theorem zd_Mo_submit_168 : decode zc_Mo_submit 168 = .ok (.iload 9, 2) := by decide +kernel
theorem zd_Mo_submit_170 : decode zc_Mo_submit 170 = .ok (.iload_n 3, 1) := by decide +kernel
theorem zd_Mo_submit_171 : decode zc_Mo_submit 171 = .ok (.iastore, 1) := by decide +kernel
theorem zd_Mo_submit_172 : decode zc_Mo_submit 172 = .ok (.aload_n 0, 1) := by decide +kernel
theorem zd_Mo_submit_173 : decode zc_Mo_submit 173 = .ok (.getfield 68, 3) := by decide +kernel
theorem zd_Mo_submit_176 : decode zc_Mo_submit 176 = .ok (.iload 9, 2) := by decide +kernel
theorem zd_Mo_submit_178 : decode zc_Mo_submit 178 = .ok (.iload 4, 2) := by decide +kernel
theorem zd_Mo_submit_180 : decode zc_Mo_submit 180 = .ok (.iastore, 1) := by decide +kernel
theorem zd_Mo_submit_181 : decode zc_Mo_submit 181 = .ok (.aload_n 0, 1) := by decide +kernel
theorem zd_Mo_submit_182 : decode zc_Mo_submit 182 = .ok (.getfield 71, 3) := by decide +kernel
theorem zd_Mo_submit_185 : decode zc_Mo_submit 185 = .ok (.iload 9, 2) := by decide +kernel
theorem zd_Mo_submit_187 : decode zc_Mo_submit 187 = .ok (.iload 5, 2) := by decide +kernel
theorem zd_Mo_submit_189 : decode zc_Mo_submit 189 = .ok (.iastore, 1) := by decide +kernel
theorem zd_Mo_submit_190 : decode zc_Mo_submit 190 = .ok (.aload_n 0, 1) := by decide +kernel
theorem zd_Mo_submit_191 : decode zc_Mo_submit 191 = .ok (.getfield 74, 3) := by decide +kernel
theorem zd_Mo_submit_194 : decode zc_Mo_submit 194 = .ok (.iload 9, 2) := by decide +kernel
theorem zd_Mo_submit_196 : decode zc_Mo_submit 196 = .ok (.iload 6, 2) := by decide +kernel
theorem zd_Mo_submit_198 : decode zc_Mo_submit 198 = .ok (.iastore, 1) := by decide +kernel
theorem zd_Mo_submit_199 : decode zc_Mo_submit 199 = .ok (.aload_n 0, 1) := by decide +kernel
theorem zd_Mo_submit_200 : decode zc_Mo_submit 200 = .ok (.getfield 77, 3) := by decide +kernel
theorem zd_Mo_submit_203 : decode zc_Mo_submit 203 = .ok (.iload 9, 2) := by decide +kernel
theorem zd_Mo_submit_205 : decode zc_Mo_submit 205 = .ok (.iload 7, 2) := by decide +kernel
theorem zd_Mo_submit_207 : decode zc_Mo_submit 207 = .ok (.iastore, 1) := by decide +kernel
theorem zd_Mo_submit_208 : decode zc_Mo_submit 208 = .ok (.iconst 1, 1) := by decide +kernel
theorem zd_Mo_submit_209 : decode zc_Mo_submit 209 = .ok (.ireturn, 1) := by decide +kernel
theorem zd_Mo_state_0 : decode zc_Mo_state 0 = .ok (.aload_n 0, 1) := by decide +kernel
theorem zd_Mo_state_1 : decode zc_Mo_state 1 = .ok (.iload_n 1, 1) := by decide +kernel
theorem zd_Mo_state_2 : decode zc_Mo_state 2 = .ok (.invokevirtual 190, 3) := by decide +kernel
theorem zd_Mo_state_5 : decode zc_Mo_state 5 = .ok (.ifCond .eq 12, 3) := by decide +kernel
theorem zd_Mo_state_8 : decode zc_Mo_state 8 = .ok (.iload_n 2, 1) := by decide +kernel
theorem zd_Mo_state_9 : decode zc_Mo_state 9 = .ok (.iconst 0, 1) := by decide +kernel
theorem zd_Mo_state_10 : decode zc_Mo_state 10 = .ok (.iconst 5, 1) := by decide +kernel
theorem zd_Mo_state_11 : decode zc_Mo_state 11 = .ok (.invokestatic 105, 3) := by decide +kernel
theorem zd_Mo_state_14 : decode zc_Mo_state 14 = .ok (.ifCond .ne 5, 3) := by decide +kernel
theorem zd_Mo_state_17 : decode zc_Mo_state 17 = .ok (.iconst (-1), 1) := by decide +kernel
theorem zd_Mo_state_18 : decode zc_Mo_state 18 = .ok (.ireturn, 1) := by decide +kernel
theorem zd_Mo_state_19 : decode zc_Mo_state 19 = .ok (.iload_n 2, 1) := by decide +kernel
theorem zd_Mo_state_20 : decode zc_Mo_state 20 = .ok (.ifCond .eq 13, 3) := by decide +kernel
theorem zd_Mo_state_23 : decode zc_Mo_state 23 = .ok (.aload_n 0, 1) := by decide +kernel
theorem zd_Mo_state_24 : decode zc_Mo_state 24 = .ok (.getfield 26, 3) := by decide +kernel
theorem zd_Mo_state_27 : decode zc_Mo_state 27 = .ok (.iload_n 1, 1) := by decide +kernel
theorem zd_Mo_state_28 : decode zc_Mo_state 28 = .ok (.iaload, 1) := by decide +kernel
theorem zd_Mo_state_29 : decode zc_Mo_state 29 = .ok (.iconst 3, 1) := by decide +kernel
theorem zd_Mo_state_30 : decode zc_Mo_state 30 = .ok (.if_icmp .ne 18, 3) := by decide +kernel
theorem zd_Mo_state_33 : decode zc_Mo_state 33 = .ok (.iload_n 2, 1) := by decide +kernel
theorem zd_Mo_state_34 : decode zc_Mo_state 34 = .ok (.ifCond .ne 12, 3) := by decide +kernel
theorem zd_Mo_state_37 : decode zc_Mo_state 37 = .ok (.aload_n 0, 1) := by decide +kernel
theorem zd_Mo_state_38 : decode zc_Mo_state 38 = .ok (.getfield 26, 3) := by decide +kernel
theorem zd_Mo_state_41 : decode zc_Mo_state 41 = .ok (.iload_n 1, 1) := by decide +kernel
theorem zd_Mo_state_42 : decode zc_Mo_state 42 = .ok (.iaload, 1) := by decide +kernel
theorem zd_Mo_state_43 : decode zc_Mo_state 43 = .ok (.goto 4, 3) := by decide +kernel
theorem zd_Mo_state_46 : decode zc_Mo_state 46 = .ok (.iconst 0, 1) := by decide +kernel
theorem zd_Mo_state_47 : decode zc_Mo_state 47 = .ok (.ireturn, 1) := by decide +kernel
theorem zd_Mo_state_48 : decode zc_Mo_state 48 = .ok (.iload_n 2, 1) := by decide +kernel
theorem zd_Mo_state_49 : decode zc_Mo_state 49 = .ok (.iconst 1, 1) := by decide +kernel
theorem zd_Mo_state_50 : decode zc_Mo_state 50 = .ok (.if_icmp .ne 12, 3) := by decide +kernel
theorem zd_Mo_state_53 : decode zc_Mo_state 53 = .ok (.aload_n 0, 1) := by decide +kernel
theorem zd_Mo_state_54 : decode zc_Mo_state 54 = .ok (.getfield 29, 3) := by decide +kernel
theorem zd_Mo_state_57 : decode zc_Mo_state 57 = .ok (.iload_n 1, 1) := by decide +kernel
theorem zd_Mo_state_58 : decode zc_Mo_state 58 = .ok (.iaload, 1) := by decide +kernel
theorem zd_Mo_state_59 : decode zc_Mo_state 59 = .ok (.goto 50, 3) := by decide +kernel
theorem zd_Mo_state_62 : decode zc_Mo_state 62 = .ok (.iload_n 2, 1) := by decide +kernel
theorem zd_Mo_state_63 : decode zc_Mo_state 63 = .ok (.iconst 2, 1) := by decide +kernel
theorem zd_Mo_state_64 : decode zc_Mo_state 64 = .ok (.if_icmp .ne 12, 3) := by decide +kernel
theorem zd_Mo_state_67 : decode zc_Mo_state 67 = .ok (.aload_n 0, 1) := by decide +kernel
theorem zd_Mo_state_68 : decode zc_Mo_state 68 = .ok (.getfield 32, 3) := by decide +kernel
theorem zd_Mo_state_71 : decode zc_Mo_state 71 = .ok (.iload_n 1, 1) := by decide +kernel
theorem zd_Mo_state_72 : decode zc_Mo_state 72 = .ok (.iaload, 1) := by decide +kernel
theorem zd_Mo_state_73 : decode zc_Mo_state 73 = .ok (.goto 36, 3) := by decide +kernel
theorem zd_Mo_state_76 : decode zc_Mo_state 76 = .ok (.iload_n 2, 1) := by decide +kernel
theorem zd_Mo_state_77 : decode zc_Mo_state 77 = .ok (.iconst 3, 1) := by decide +kernel
theorem zd_Mo_state_78 : decode zc_Mo_state 78 = .ok (.if_icmp .ne 12, 3) := by decide +kernel
theorem zd_Mo_state_81 : decode zc_Mo_state 81 = .ok (.aload_n 0, 1) := by decide +kernel
theorem zd_Mo_state_82 : decode zc_Mo_state 82 = .ok (.getfield 35, 3) := by decide +kernel
theorem zd_Mo_state_85 : decode zc_Mo_state 85 = .ok (.iload_n 1, 1) := by decide +kernel
theorem zd_Mo_state_86 : decode zc_Mo_state 86 = .ok (.iaload, 1) := by decide +kernel
theorem zd_Mo_state_87 : decode zc_Mo_state 87 = .ok (.goto 22, 3) := by decide +kernel
theorem zd_Mo_state_90 : decode zc_Mo_state 90 = .ok (.iload_n 2, 1) := by decide +kernel
theorem zd_Mo_state_91 : decode zc_Mo_state 91 = .ok (.iconst 4, 1) := by decide +kernel
theorem zd_Mo_state_92 : decode zc_Mo_state 92 = .ok (.if_icmp .ne 11, 3) := by decide +kernel
theorem zd_Mo_state_95 : decode zc_Mo_state 95 = .ok (.aload_n 0, 1) := by decide +kernel
theorem zd_Mo_state_96 : decode zc_Mo_state 96 = .ok (.iload_n 1, 1) := by decide +kernel
theorem zd_Mo_state_97 : decode zc_Mo_state 97 = .ok (.invokevirtual 146, 3) := by decide +kernel
theorem zd_Mo_state_100 : decode zc_Mo_state 100 = .ok (.goto 9, 3) := by decide +kernel
theorem zd_Mo_state_103 : decode zc_Mo_state 103 = .ok (.aload_n 0, 1) := by decide +kernel
theorem zd_Mo_state_104 : decode zc_Mo_state 104 = .ok (.getfield 38, 3) := by decide +kernel
theorem zd_Mo_state_107 : decode zc_Mo_state 107 = .ok (.iload_n 1, 1) := by decide +kernel
theorem zd_Mo_state_108 : decode zc_Mo_state 108 = .ok (.iaload, 1) := by decide +kernel
theorem zd_Mo_state_109 : decode zc_Mo_state 109 = .ok (.ireturn, 1) := by decide +kernel
theorem zd_Mo_statements_0 : decode zc_Mo_statements 0 = .ok (.aload_n 0, 1) := by decide +kernel
theorem zd_Mo_statements_1 : decode zc_Mo_statements 1 = .ok (.iload_n 1, 1) := by decide +kernel
theorem zd_Mo_statements_2 : decode zc_Mo_statements 2 = .ok (.invokevirtual 190, 3) := by decide +kernel
theorem zd_Mo_statements_5 : decode zc_Mo_statements 5 = .ok (.ifCond .eq 31, 3) := by decide +kernel
theorem zd_Mo_statements_8 : decode zc_Mo_statements 8 = .ok (.iload_n 2, 1) := by decide +kernel
theorem zd_Mo_statements_9 : decode zc_Mo_statements 9 = .ok (.iconst 0, 1) := by decide +kernel
theorem zd_Mo_statements_10 : decode zc_Mo_statements 10 = .ok (.iconst 2, 1) := by decide +kernel
theorem zd_Mo_statements_11 : decode zc_Mo_statements 11 = .ok (.invokestatic 105, 3) := by decide +kernel
theorem zd_Mo_statements_14 : decode zc_Mo_statements 14 = .ok (.ifCond .eq 22, 3) := by decide +kernel
theorem zd_Mo_statements_17 : decode zc_Mo_statements 17 = .ok (.iload_n 3, 1) := by decide +kernel
theorem zd_Mo_statements_18 : decode zc_Mo_statements 18 = .ok (.iconst 0, 1) := by decide +kernel
theorem zd_Mo_statements_19 : decode zc_Mo_statements 19 = .ok (.iconst 2, 1) := by decide +kernel
theorem zd_Mo_statements_20 : decode zc_Mo_statements 20 = .ok (.invokestatic 105, 3) := by decide +kernel
theorem zd_Mo_statements_23 : decode zc_Mo_statements 23 = .ok (.ifCond .eq 13, 3) := by decide +kernel
theorem zd_Mo_statements_26 : decode zc_Mo_statements 26 = .ok (.iload 4, 2) := by decide +kernel
theorem zd_Mo_statements_28 : decode zc_Mo_statements 28 = .ok (.iconst 0, 1) := by decide +kernel
theorem zd_Mo_statements_29 : decode zc_Mo_statements 29 = .ok (.iconst 2, 1) := by decide +kernel
theorem zd_Mo_statements_30 : decode zc_Mo_statements 30 = .ok (.invokestatic 105, 3) := by decide +kernel
theorem zd_Mo_statements_33 : decode zc_Mo_statements 33 = .ok (.ifCond .ne 5, 3) := by decide +kernel
theorem zd_Mo_statements_36 : decode zc_Mo_statements 36 = .ok (.iconst (-1), 1) := by decide +kernel
theorem zd_Mo_statements_37 : decode zc_Mo_statements 37 = .ok (.ireturn, 1) := by decide +kernel
theorem zd_Mo_statements_38 : decode zc_Mo_statements 38 = .ok (.aload_n 0, 1) := by decide +kernel
theorem zd_Mo_statements_39 : decode zc_Mo_statements 39 = .ok (.getfield 41, 3) := by decide +kernel
theorem zd_Mo_statements_42 : decode zc_Mo_statements 42 = .ok (.bipush 27, 2) := by decide +kernel
theorem zd_Mo_statements_44 : decode zc_Mo_statements 44 = .ok (.iload_n 1, 1) := by decide +kernel
theorem zd_Mo_statements_45 : decode zc_Mo_statements 45 = .ok (.imul, 1) := by decide +kernel
theorem zd_Mo_statements_46 : decode zc_Mo_statements 46 = .ok (.bipush 9, 2) := by decide +kernel
theorem zd_Mo_statements_48 : decode zc_Mo_statements 48 = .ok (.iload_n 2, 1) := by decide +kernel
theorem zd_Mo_statements_49 : decode zc_Mo_statements 49 = .ok (.imul, 1) := by decide +kernel
theorem zd_Mo_statements_50 : decode zc_Mo_statements 50 = .ok (.iadd, 1) := by decide +kernel
theorem zd_Mo_statements_51 : decode zc_Mo_statements 51 = .ok (.iconst 3, 1) := by decide +kernel
theorem zd_Mo_statements_52 : decode zc_Mo_statements 52 = .ok (.iload_n 3, 1) := by decide +kernel
theorem zd_Mo_statements_53 : decode zc_Mo_statements 53 = .ok (.imul, 1) := by decide +kernel
theorem zd_Mo_statements_54 : decode zc_Mo_statements 54 = .ok (.iadd, 1) := by decide +kernel
theorem zd_Mo_statements_55 : decode zc_Mo_statements 55 = .ok (.iload 4, 2) := by decide +kernel
theorem zd_Mo_statements_57 : decode zc_Mo_statements 57 = .ok (.iadd, 1) := by decide +kernel
theorem zd_Mo_statements_58 : decode zc_Mo_statements 58 = .ok (.iaload, 1) := by decide +kernel
theorem zd_Mo_statements_59 : decode zc_Mo_statements 59 = .ok (.ireturn, 1) := by decide +kernel
theorem zd_Mo_value_0 : decode zc_Mo_value 0 = .ok (.aload_n 0, 1) := by decide +kernel
theorem zd_Mo_value_1 : decode zc_Mo_value 1 = .ok (.iload_n 1, 1) := by decide +kernel
theorem zd_Mo_value_2 : decode zc_Mo_value 2 = .ok (.invokevirtual 190, 3) := by decide +kernel
theorem zd_Mo_value_5 : decode zc_Mo_value 5 = .ok (.ifCond .eq 25, 3) := by decide +kernel
theorem zd_Mo_value_8 : decode zc_Mo_value 8 = .ok (.iload_n 2, 1) := by decide +kernel
theorem zd_Mo_value_9 : decode zc_Mo_value 9 = .ok (.iconst 0, 1) := by decide +kernel
theorem zd_Mo_value_10 : decode zc_Mo_value 10 = .ok (.iconst 2, 1) := by decide +kernel
theorem zd_Mo_value_11 : decode zc_Mo_value 11 = .ok (.invokestatic 105, 3) := by decide +kernel
theorem zd_Mo_value_14 : decode zc_Mo_value 14 = .ok (.ifCond .eq 16, 3) := by decide +kernel
theorem zd_Mo_value_17 : decode zc_Mo_value 17 = .ok (.aload_n 0, 1) := by decide +kernel
theorem zd_Mo_value_18 : decode zc_Mo_value 18 = .ok (.getfield 47, 3) := by decide +kernel
theorem zd_Mo_value_21 : decode zc_Mo_value 21 = .ok (.iconst 3, 1) := by decide +kernel
theorem zd_Mo_value_22 : decode zc_Mo_value 22 = .ok (.iload_n 1, 1) := by decide +kernel
theorem zd_Mo_value_23 : decode zc_Mo_value 23 = .ok (.imul, 1) := by decide +kernel
theorem zd_Mo_value_24 : decode zc_Mo_value 24 = .ok (.iload_n 2, 1) := by decide +kernel
theorem zd_Mo_value_25 : decode zc_Mo_value 25 = .ok (.iadd, 1) := by decide +kernel
theorem zd_Mo_value_26 : decode zc_Mo_value 26 = .ok (.iaload, 1) := by decide +kernel
theorem zd_Mo_value_27 : decode zc_Mo_value 27 = .ok (.goto 4, 3) := by decide +kernel
theorem zd_Mo_value_30 : decode zc_Mo_value 30 = .ok (.iconst (-1), 1) := by decide +kernel
theorem zd_Mo_value_31 : decode zc_Mo_value 31 = .ok (.ireturn, 1) := by decide +kernel
theorem zd_Mo_header_0 : decode zc_Mo_header 0 = .ok (.aload_n 0, 1) := by decide +kernel
theorem zd_Mo_header_1 : decode zc_Mo_header 1 = .ok (.iload_n 1, 1) := by decide +kernel
theorem zd_Mo_header_2 : decode zc_Mo_header 2 = .ok (.invokevirtual 190, 3) := by decide +kernel
theorem zd_Mo_header_5 : decode zc_Mo_header 5 = .ok (.ifCond .eq 12, 3) := by decide +kernel
theorem zd_Mo_header_8 : decode zc_Mo_header 8 = .ok (.aload_n 0, 1) := by decide +kernel
theorem zd_Mo_header_9 : decode zc_Mo_header 9 = .ok (.getfield 50, 3) := by decide +kernel
theorem zd_Mo_header_12 : decode zc_Mo_header 12 = .ok (.iload_n 1, 1) := by decide +kernel
theorem zd_Mo_header_13 : decode zc_Mo_header 13 = .ok (.iaload, 1) := by decide +kernel
theorem zd_Mo_header_14 : decode zc_Mo_header 14 = .ok (.goto 4, 3) := by decide +kernel
theorem zd_Mo_header_17 : decode zc_Mo_header 17 = .ok (.iconst 0, 1) := by decide +kernel
theorem zd_Mo_header_18 : decode zc_Mo_header 18 = .ok (.ireturn, 1) := by decide +kernel
theorem zd_Mo_balance_0 : decode zc_Mo_balance 0 = .ok (.aload_n 0, 1) := by decide +kernel
theorem zd_Mo_balance_1 : decode zc_Mo_balance 1 = .ok (.iload_n 1, 1) := by decide +kernel
theorem zd_Mo_balance_2 : decode zc_Mo_balance 2 = .ok (.invokevirtual 190, 3) := by decide +kernel
theorem zd_Mo_balance_5 : decode zc_Mo_balance 5 = .ok (.ifCond .eq 39, 3) := by decide +kernel
theorem zd_Mo_balance_8 : decode zc_Mo_balance 8 = .ok (.iload_n 2, 1) := by decide +kernel
theorem zd_Mo_balance_9 : decode zc_Mo_balance 9 = .ok (.iconst 0, 1) := by decide +kernel
theorem zd_Mo_balance_10 : decode zc_Mo_balance 10 = .ok (.iconst 3, 1) := by decide +kernel
theorem zd_Mo_balance_11 : decode zc_Mo_balance 11 = .ok (.invokestatic 105, 3) := by decide +kernel
theorem zd_Mo_balance_14 : decode zc_Mo_balance 14 = .ok (.ifCond .eq 30, 3) := by decide +kernel
theorem zd_Mo_balance_17 : decode zc_Mo_balance 17 = .ok (.iload_n 3, 1) := by decide +kernel
theorem zd_Mo_balance_18 : decode zc_Mo_balance 18 = .ok (.iconst 0, 1) := by decide +kernel
theorem zd_Mo_balance_19 : decode zc_Mo_balance 19 = .ok (.iconst 1, 1) := by decide +kernel
theorem zd_Mo_balance_20 : decode zc_Mo_balance 20 = .ok (.invokestatic 105, 3) := by decide +kernel
theorem zd_Mo_balance_23 : decode zc_Mo_balance 23 = .ok (.ifCond .eq 21, 3) := by decide +kernel
theorem zd_Mo_balance_26 : decode zc_Mo_balance 26 = .ok (.aload_n 0, 1) := by decide +kernel
theorem zd_Mo_balance_27 : decode zc_Mo_balance 27 = .ok (.getfield 80, 3) := by decide +kernel
theorem zd_Mo_balance_30 : decode zc_Mo_balance 30 = .ok (.bipush 8, 2) := by decide +kernel
theorem zd_Mo_balance_32 : decode zc_Mo_balance 32 = .ok (.iload_n 1, 1) := by decide +kernel
theorem zd_Mo_balance_33 : decode zc_Mo_balance 33 = .ok (.imul, 1) := by decide +kernel
theorem zd_Mo_balance_34 : decode zc_Mo_balance 34 = .ok (.iconst 2, 1) := by decide +kernel
theorem zd_Mo_balance_35 : decode zc_Mo_balance 35 = .ok (.iload_n 2, 1) := by decide +kernel
theorem zd_Mo_balance_36 : decode zc_Mo_balance 36 = .ok (.imul, 1) := by decide +kernel
theorem zd_Mo_balance_37 : decode zc_Mo_balance 37 = .ok (.iadd, 1) := by decide +kernel
theorem zd_Mo_balance_38 : decode zc_Mo_balance 38 = .ok (.iload_n 3, 1) := by decide +kernel
theorem zd_Mo_balance_39 : decode zc_Mo_balance 39 = .ok (.iadd, 1) := by decide +kernel
theorem zd_Mo_balance_40 : decode zc_Mo_balance 40 = .ok (.iaload, 1) := by decide +kernel
theorem zd_Mo_balance_41 : decode zc_Mo_balance 41 = .ok (.goto 4, 3) := by decide +kernel
theorem zd_Mo_balance_44 : decode zc_Mo_balance 44 = .ok (.iconst (-1), 1) := by decide +kernel
theorem zd_Mo_balance_45 : decode zc_Mo_balance 45 = .ok (.ireturn, 1) := by decide +kernel
theorem zd_Mo_offer_0 : decode zc_Mo_offer 0 = .ok (.aload_n 0, 1) := by decide +kernel
theorem zd_Mo_offer_1 : decode zc_Mo_offer 1 = .ok (.iload_n 1, 1) := by decide +kernel
theorem zd_Mo_offer_2 : decode zc_Mo_offer 2 = .ok (.invokevirtual 190, 3) := by decide +kernel
theorem zd_Mo_offer_5 : decode zc_Mo_offer 5 = .ok (.ifCond .eq 19, 3) := by decide +kernel
theorem zd_Mo_offer_8 : decode zc_Mo_offer 8 = .ok (.iload_n 2, 1) := by decide +kernel
theorem zd_Mo_offer_9 : decode zc_Mo_offer 9 = .ok (.iconst 0, 1) := by decide +kernel
theorem zd_Mo_offer_10 : decode zc_Mo_offer 10 = .ok (.aload_n 0, 1) := by decide +kernel
theorem zd_Mo_offer_11 : decode zc_Mo_offer 11 = .ok (.getfield 83, 3) := by decide +kernel
theorem zd_Mo_offer_14 : decode zc_Mo_offer 14 = .ok (.iload_n 1, 1) := by decide +kernel
theorem zd_Mo_offer_15 : decode zc_Mo_offer 15 = .ok (.iaload, 1) := by decide +kernel
theorem zd_Mo_offer_16 : decode zc_Mo_offer 16 = .ok (.iconst 1, 1) := by decide +kernel
theorem zd_Mo_offer_17 : decode zc_Mo_offer 17 = .ok (.isub, 1) := by decide +kernel
theorem zd_Mo_offer_18 : decode zc_Mo_offer 18 = .ok (.invokestatic 105, 3) := by decide +kernel
theorem zd_Mo_offer_21 : decode zc_Mo_offer 21 = .ok (.ifCond .ne 5, 3) := by decide +kernel
theorem zd_Mo_offer_24 : decode zc_Mo_offer 24 = .ok (.iconst (-1), 1) := by decide +kernel
theorem zd_Mo_offer_25 : decode zc_Mo_offer 25 = .ok (.ireturn, 1) := by decide +kernel
theorem zd_Mo_offer_26 : decode zc_Mo_offer 26 = .ok (.bipush 9, 2) := by decide +kernel
theorem zd_Mo_offer_28 : decode zc_Mo_offer 28 = .ok (.iload_n 1, 1) := by decide +kernel
theorem zd_Mo_offer_29 : decode zc_Mo_offer 29 = .ok (.imul, 1) := by decide +kernel
theorem zd_Mo_offer_30 : decode zc_Mo_offer 30 = .ok (.iload_n 2, 1) := by decide +kernel
theorem zd_Mo_offer_31 : decode zc_Mo_offer 31 = .ok (.iadd, 1) := by decide +kernel
theorem zd_Mo_offer_32 : decode zc_Mo_offer 32 = .ok (.istore_n 3, 1) := by decide +kernel
theorem zd_Mo_offer_33 : decode zc_Mo_offer 33 = .ok (.aload_n 0, 1) := by decide +kernel
theorem zd_Mo_offer_34 : decode zc_Mo_offer 34 = .ok (.getfield 86, 3) := by decide +kernel
theorem zd_Mo_offer_37 : decode zc_Mo_offer 37 = .ok (.iload_n 3, 1) := by decide +kernel
theorem zd_Mo_offer_38 : decode zc_Mo_offer 38 = .ok (.iaload, 1) := by decide +kernel
theorem zd_Mo_offer_39 : decode zc_Mo_offer 39 = .ok (.iconst 4, 1) := by decide +kernel
theorem zd_Mo_offer_40 : decode zc_Mo_offer 40 = .ok (.aload_n 0, 1) := by decide +kernel
theorem zd_Mo_offer_41 : decode zc_Mo_offer 41 = .ok (.getfield 89, 3) := by decide +kernel
theorem zd_Mo_offer_44 : decode zc_Mo_offer 44 = .ok (.iload_n 3, 1) := by decide +kernel
theorem zd_Mo_offer_45 : decode zc_Mo_offer 45 = .ok (.iaload, 1) := by decide +kernel
theorem zd_Mo_offer_46 : decode zc_Mo_offer 46 = .ok (.imul, 1) := by decide +kernel
theorem zd_Mo_offer_47 : decode zc_Mo_offer 47 = .ok (.iadd, 1) := by decide +kernel
theorem zd_Mo_offer_48 : decode zc_Mo_offer 48 = .ok (.bipush 16, 2) := by decide +kernel
theorem zd_Mo_offer_50 : decode zc_Mo_offer 50 = .ok (.aload_n 0, 1) := by decide +kernel
theorem zd_Mo_offer_51 : decode zc_Mo_offer 51 = .ok (.getfield 92, 3) := by decide +kernel
theorem zd_Mo_offer_54 : decode zc_Mo_offer 54 = .ok (.iload_n 3, 1) := by decide +kernel
theorem zd_Mo_offer_55 : decode zc_Mo_offer 55 = .ok (.iaload, 1) := by decide +kernel
theorem zd_Mo_offer_56 : decode zc_Mo_offer 56 = .ok (.imul, 1) := by decide +kernel
theorem zd_Mo_offer_57 : decode zc_Mo_offer 57 = .ok (.iadd, 1) := by decide +kernel
theorem zd_Mo_offer_58 : decode zc_Mo_offer 58 = .ok (.sipush 256, 3) := by decide +kernel
theorem zd_Mo_offer_61 : decode zc_Mo_offer 61 = .ok (.aload_n 0, 1) := by decide +kernel
theorem zd_Mo_offer_62 : decode zc_Mo_offer 62 = .ok (.getfield 95, 3) := by decide +kernel
theorem zd_Mo_offer_65 : decode zc_Mo_offer 65 = .ok (.iload_n 3, 1) := by decide +kernel
theorem zd_Mo_offer_66 : decode zc_Mo_offer 66 = .ok (.iaload, 1) := by decide +kernel
theorem zd_Mo_offer_67 : decode zc_Mo_offer 67 = .ok (.imul, 1) := by decide +kernel
theorem zd_Mo_offer_68 : decode zc_Mo_offer 68 = .ok (.iadd, 1) := by decide +kernel
theorem zd_Mo_offer_69 : decode zc_Mo_offer 69 = .ok (.ireturn, 1) := by decide +kernel
theorem zd_Law_cell_0 : decode zc_Law_cell 0 = .ok (.iload_n 1, 1) := by decide +kernel
theorem zd_Law_cell_1 : decode zc_Law_cell 1 = .ok (.aload_n 0, 1) := by decide +kernel
theorem zd_Law_cell_2 : decode zc_Law_cell 2 = .ok (.arraylength, 1) := by decide +kernel
theorem zd_Law_cell_3 : decode zc_Law_cell 3 = .ok (.if_icmp .ge 9, 3) := by decide +kernel
theorem zd_Law_cell_6 : decode zc_Law_cell 6 = .ok (.aload_n 0, 1) := by decide +kernel
theorem zd_Law_cell_7 : decode zc_Law_cell 7 = .ok (.iload_n 1, 1) := by decide +kernel
theorem zd_Law_cell_8 : decode zc_Law_cell 8 = .ok (.iaload, 1) := by decide +kernel
theorem zd_Law_cell_9 : decode zc_Law_cell 9 = .ok (.goto 4, 3) := by decide +kernel
theorem zd_Law_cell_12 : decode zc_Law_cell 12 = .ok (.iconst 0, 1) := by decide +kernel
theorem zd_Law_cell_13 : decode zc_Law_cell 13 = .ok (.ireturn, 1) := by decide +kernel
theorem zd_Law_law_0 : decode code 0 = .ok (.new 7, 3) := by decide +kernel
theorem zd_Law_law_3 : decode code 3 = .ok (.dup, 1) := by decide +kernel
theorem zd_Law_law_4 : decode code 4 = .ok (.aload_n 0, 1) := by decide +kernel
theorem zd_Law_law_5 : decode code 5 = .ok (.iconst 0, 1) := by decide +kernel
theorem zd_Law_law_6 : decode code 6 = .ok (.invokestatic 9, 3) := by decide +kernel
theorem zd_Law_law_9 : decode code 9 = .ok (.invokespecial 15, 3) := by decide +kernel
theorem zd_Law_law_12 : decode code 12 = .ok (.astore_n 1, 1) := by decide +kernel
theorem zd_Law_law_13 : decode code 13 = .ok (.new 18, 3) := by decide +kernel
theorem zd_Law_law_16 : decode code 16 = .ok (.dup, 1) := by decide +kernel
theorem zd_Law_law_17 : decode code 17 = .ok (.aload_n 0, 1) := by decide +kernel
theorem zd_Law_law_18 : decode code 18 = .ok (.iconst 0, 1) := by decide +kernel
theorem zd_Law_law_19 : decode code 19 = .ok (.invokestatic 9, 3) := by decide +kernel
theorem zd_Law_law_22 : decode code 22 = .ok (.invokespecial 20, 3) := by decide +kernel
theorem zd_Law_law_25 : decode code 25 = .ok (.astore_n 2, 1) := by decide +kernel
theorem zd_Law_law_26 : decode code 26 = .ok (.iconst 1, 1) := by decide +kernel
theorem zd_Law_law_27 : decode code 27 = .ok (.istore_n 3, 1) := by decide +kernel
theorem zd_Law_law_28 : decode code 28 = .ok (.iload_n 3, 1) := by decide +kernel
theorem zd_Law_law_29 : decode code 29 = .ok (.aload_n 0, 1) := by decide +kernel
theorem zd_Law_law_30 : decode code 30 = .ok (.arraylength, 1) := by decide +kernel
theorem zd_Law_law_31 : decode code 31 = .ok (.bipush 8, 2) := by decide +kernel
theorem zd_Law_law_33 : decode code 33 = .ok (.isub, 1) := by decide +kernel
theorem zd_Law_law_34 : decode code 34 = .ok (.if_icmp .gt 650, 3) := by decide +kernel
theorem zd_Law_law_37 : decode code 37 = .ok (.aload_n 0, 1) := by decide +kernel
theorem zd_Law_law_38 : decode code 38 = .ok (.iload_n 3, 1) := by decide +kernel
theorem zd_Law_law_39 : decode code 39 = .ok (.iaload, 1) := by decide +kernel
theorem zd_Law_law_40 : decode code 40 = .ok (.bipush 15, 2) := by decide +kernel
theorem zd_Law_law_42 : decode code 42 = .ok (.iand, 1) := by decide +kernel
theorem zd_Law_law_43 : decode code 43 = .ok (.tableswitch 635 0 13 #[69, 132, 219, 252, 275, 308, 371, 404, 417, 450, 503, 536, 559, 602], 69) := by decide +kernel
theorem zd_Law_law_112 : decode code 112 = .ok (.aload_n 1, 1) := by decide +kernel
theorem zd_Law_law_113 : decode code 113 = .ok (.aload_n 0, 1) := by decide +kernel
theorem zd_Law_law_114 : decode code 114 = .ok (.iload_n 3, 1) := by decide +kernel
theorem zd_Law_law_115 : decode code 115 = .ok (.iconst 1, 1) := by decide +kernel
theorem zd_Law_law_116 : decode code 116 = .ok (.iadd, 1) := by decide +kernel
theorem zd_Law_law_117 : decode code 117 = .ok (.iaload, 1) := by decide +kernel
theorem zd_Law_law_118 : decode code 118 = .ok (.aload_n 0, 1) := by decide +kernel
theorem zd_Law_law_119 : decode code 119 = .ok (.iload_n 3, 1) := by decide +kernel
theorem zd_Law_law_120 : decode code 120 = .ok (.iconst 2, 1) := by decide +kernel
theorem zd_Law_law_121 : decode code 121 = .ok (.iadd, 1) := by decide +kernel
theorem zd_Law_law_122 : decode code 122 = .ok (.iaload, 1) := by decide +kernel
theorem zd_Law_law_123 : decode code 123 = .ok (.aload_n 0, 1) := by decide +kernel
theorem zd_Law_law_124 : decode code 124 = .ok (.iload_n 3, 1) := by decide +kernel
theorem zd_Law_law_125 : decode code 125 = .ok (.iconst 3, 1) := by decide +kernel
theorem zd_Law_law_126 : decode code 126 = .ok (.iadd, 1) := by decide +kernel
theorem zd_Law_law_127 : decode code 127 = .ok (.iaload, 1) := by decide +kernel
theorem zd_Law_law_128 : decode code 128 = .ok (.aload_n 0, 1) := by decide +kernel
theorem zd_Law_law_129 : decode code 129 = .ok (.iload_n 3, 1) := by decide +kernel
theorem zd_Law_law_130 : decode code 130 = .ok (.iconst 4, 1) := by decide +kernel
theorem zd_Law_law_131 : decode code 131 = .ok (.iadd, 1) := by decide +kernel
theorem zd_Law_law_132 : decode code 132 = .ok (.iaload, 1) := by decide +kernel
theorem zd_Law_law_133 : decode code 133 = .ok (.aload_n 0, 1) := by decide +kernel
theorem zd_Law_law_134 : decode code 134 = .ok (.iload_n 3, 1) := by decide +kernel
theorem zd_Law_law_135 : decode code 135 = .ok (.iconst 5, 1) := by decide +kernel
theorem zd_Law_law_136 : decode code 136 = .ok (.iadd, 1) := by decide +kernel
theorem zd_Law_law_137 : decode code 137 = .ok (.iaload, 1) := by decide +kernel
theorem zd_Law_law_138 : decode code 138 = .ok (.invokevirtual 21, 3) := by decide +kernel
theorem zd_Law_law_141 : decode code 141 = .ok (.aload_n 2, 1) := by decide +kernel
theorem zd_Law_law_142 : decode code 142 = .ok (.aload_n 0, 1) := by decide +kernel
theorem zd_Law_law_143 : decode code 143 = .ok (.iload_n 3, 1) := by decide +kernel
theorem zd_Law_law_144 : decode code 144 = .ok (.iconst 1, 1) := by decide +kernel
theorem zd_Law_law_145 : decode code 145 = .ok (.iadd, 1) := by decide +kernel
theorem zd_Law_law_146 : decode code 146 = .ok (.iaload, 1) := by decide +kernel
theorem zd_Law_law_147 : decode code 147 = .ok (.aload_n 0, 1) := by decide +kernel
theorem zd_Law_law_148 : decode code 148 = .ok (.iload_n 3, 1) := by decide +kernel
theorem zd_Law_law_149 : decode code 149 = .ok (.iconst 2, 1) := by decide +kernel
theorem zd_Law_law_150 : decode code 150 = .ok (.iadd, 1) := by decide +kernel
theorem zd_Law_law_151 : decode code 151 = .ok (.iaload, 1) := by decide +kernel
theorem zd_Law_law_152 : decode code 152 = .ok (.aload_n 0, 1) := by decide +kernel
theorem zd_Law_law_153 : decode code 153 = .ok (.iload_n 3, 1) := by decide +kernel
theorem zd_Law_law_154 : decode code 154 = .ok (.iconst 3, 1) := by decide +kernel
theorem zd_Law_law_155 : decode code 155 = .ok (.iadd, 1) := by decide +kernel
theorem zd_Law_law_156 : decode code 156 = .ok (.iaload, 1) := by decide +kernel
theorem zd_Law_law_157 : decode code 157 = .ok (.aload_n 0, 1) := by decide +kernel
theorem zd_Law_law_158 : decode code 158 = .ok (.iload_n 3, 1) := by decide +kernel
theorem zd_Law_law_159 : decode code 159 = .ok (.iconst 4, 1) := by decide +kernel
theorem zd_Law_law_160 : decode code 160 = .ok (.iadd, 1) := by decide +kernel
theorem zd_Law_law_161 : decode code 161 = .ok (.iaload, 1) := by decide +kernel
theorem zd_Law_law_162 : decode code 162 = .ok (.aload_n 0, 1) := by decide +kernel
theorem zd_Law_law_163 : decode code 163 = .ok (.iload_n 3, 1) := by decide +kernel
theorem zd_Law_law_164 : decode code 164 = .ok (.iconst 5, 1) := by decide +kernel
theorem zd_Law_law_165 : decode code 165 = .ok (.iadd, 1) := by decide +kernel
theorem zd_Law_law_166 : decode code 166 = .ok (.iaload, 1) := by decide +kernel
theorem zd_Law_law_167 : decode code 167 = .ok (.invokevirtual 25, 3) := by decide +kernel
theorem zd_Law_law_170 : decode code 170 = .ok (.if_icmp .eq 508, 3) := by decide +kernel
theorem zd_Law_law_173 : decode code 173 = .ok (.iconst 0, 1) := by decide +kernel
theorem zd_Law_law_174 : decode code 174 = .ok (.ireturn, 1) := by decide +kernel
theorem zd_Law_law_175 : decode code 175 = .ok (.aload_n 1, 1) := by decide +kernel
theorem zd_Law_law_176 : decode code 176 = .ok (.aload_n 0, 1) := by decide +kernel
theorem zd_Law_law_177 : decode code 177 = .ok (.iload_n 3, 1) := by decide +kernel
theorem zd_Law_law_178 : decode code 178 = .ok (.iconst 1, 1) := by decide +kernel
theorem zd_Law_law_179 : decode code 179 = .ok (.iadd, 1) := by decide +kernel
theorem zd_Law_law_180 : decode code 180 = .ok (.iaload, 1) := by decide +kernel
theorem zd_Law_law_181 : decode code 181 = .ok (.aload_n 0, 1) := by decide +kernel
theorem zd_Law_law_182 : decode code 182 = .ok (.iload_n 3, 1) := by decide +kernel
theorem zd_Law_law_183 : decode code 183 = .ok (.iconst 2, 1) := by decide +kernel
theorem zd_Law_law_184 : decode code 184 = .ok (.iadd, 1) := by decide +kernel
theorem zd_Law_law_185 : decode code 185 = .ok (.iaload, 1) := by decide +kernel
theorem zd_Law_law_186 : decode code 186 = .ok (.aload_n 0, 1) := by decide +kernel
theorem zd_Law_law_187 : decode code 187 = .ok (.iload_n 3, 1) := by decide +kernel
theorem zd_Law_law_188 : decode code 188 = .ok (.iconst 3, 1) := by decide +kernel
theorem zd_Law_law_189 : decode code 189 = .ok (.iadd, 1) := by decide +kernel
theorem zd_Law_law_190 : decode code 190 = .ok (.iaload, 1) := by decide +kernel
theorem zd_Law_law_191 : decode code 191 = .ok (.aload_n 0, 1) := by decide +kernel
theorem zd_Law_law_192 : decode code 192 = .ok (.iload_n 3, 1) := by decide +kernel
theorem zd_Law_law_193 : decode code 193 = .ok (.iconst 4, 1) := by decide +kernel
theorem zd_Law_law_194 : decode code 194 = .ok (.iadd, 1) := by decide +kernel
theorem zd_Law_law_195 : decode code 195 = .ok (.iaload, 1) := by decide +kernel
theorem zd_Law_law_196 : decode code 196 = .ok (.aload_n 0, 1) := by decide +kernel
theorem zd_Law_law_197 : decode code 197 = .ok (.iload_n 3, 1) := by decide +kernel
theorem zd_Law_law_198 : decode code 198 = .ok (.iconst 5, 1) := by decide +kernel
theorem zd_Law_law_199 : decode code 199 = .ok (.iadd, 1) := by decide +kernel
theorem zd_Law_law_200 : decode code 200 = .ok (.iaload, 1) := by decide +kernel
theorem zd_Law_law_201 : decode code 201 = .ok (.aload_n 0, 1) := by decide +kernel
theorem zd_Law_law_202 : decode code 202 = .ok (.iload_n 3, 1) := by decide +kernel
theorem zd_Law_law_203 : decode code 203 = .ok (.bipush 6, 2) := by decide +kernel
theorem zd_Law_law_205 : decode code 205 = .ok (.iadd, 1) := by decide +kernel
theorem zd_Law_law_206 : decode code 206 = .ok (.iaload, 1) := by decide +kernel
theorem zd_Law_law_207 : decode code 207 = .ok (.aload_n 0, 1) := by decide +kernel
theorem zd_Law_law_208 : decode code 208 = .ok (.iload_n 3, 1) := by decide +kernel
theorem zd_Law_law_209 : decode code 209 = .ok (.bipush 7, 2) := by decide +kernel
theorem zd_Law_law_211 : decode code 211 = .ok (.iadd, 1) := by decide +kernel
theorem zd_Law_law_212 : decode code 212 = .ok (.iaload, 1) := by decide +kernel
theorem zd_Law_law_213 : decode code 213 = .ok (.invokevirtual 26, 3) := by decide +kernel
theorem zd_Law_law_216 : decode code 216 = .ok (.aload_n 2, 1) := by decide +kernel
theorem zd_Law_law_217 : decode code 217 = .ok (.aload_n 0, 1) := by decide +kernel
theorem zd_Law_law_218 : decode code 218 = .ok (.iload_n 3, 1) := by decide +kernel
theorem zd_Law_law_219 : decode code 219 = .ok (.iconst 1, 1) := by decide +kernel
theorem zd_Law_law_220 : decode code 220 = .ok (.iadd, 1) := by decide +kernel
theorem zd_Law_law_221 : decode code 221 = .ok (.iaload, 1) := by decide +kernel
theorem zd_Law_law_222 : decode code 222 = .ok (.aload_n 0, 1) := by decide +kernel
theorem zd_Law_law_223 : decode code 223 = .ok (.iload_n 3, 1) := by decide +kernel
theorem zd_Law_law_224 : decode code 224 = .ok (.iconst 2, 1) := by decide +kernel
theorem zd_Law_law_225 : decode code 225 = .ok (.iadd, 1) := by decide +kernel
theorem zd_Law_law_226 : decode code 226 = .ok (.iaload, 1) := by decide +kernel
theorem zd_Law_law_227 : decode code 227 = .ok (.aload_n 0, 1) := by decide +kernel
theorem zd_Law_law_228 : decode code 228 = .ok (.iload_n 3, 1) := by decide +kernel
theorem zd_Law_law_229 : decode code 229 = .ok (.iconst 3, 1) := by decide +kernel
theorem zd_Law_law_230 : decode code 230 = .ok (.iadd, 1) := by decide +kernel
theorem zd_Law_law_231 : decode code 231 = .ok (.iaload, 1) := by decide +kernel
theorem zd_Law_law_232 : decode code 232 = .ok (.aload_n 0, 1) := by decide +kernel
theorem zd_Law_law_233 : decode code 233 = .ok (.iload_n 3, 1) := by decide +kernel
theorem zd_Law_law_234 : decode code 234 = .ok (.iconst 4, 1) := by decide +kernel
theorem zd_Law_law_235 : decode code 235 = .ok (.iadd, 1) := by decide +kernel
theorem zd_Law_law_236 : decode code 236 = .ok (.iaload, 1) := by decide +kernel
theorem zd_Law_law_237 : decode code 237 = .ok (.aload_n 0, 1) := by decide +kernel
theorem zd_Law_law_238 : decode code 238 = .ok (.iload_n 3, 1) := by decide +kernel
theorem zd_Law_law_239 : decode code 239 = .ok (.iconst 5, 1) := by decide +kernel
theorem zd_Law_law_240 : decode code 240 = .ok (.iadd, 1) := by decide +kernel
theorem zd_Law_law_241 : decode code 241 = .ok (.iaload, 1) := by decide +kernel
theorem zd_Law_law_242 : decode code 242 = .ok (.aload_n 0, 1) := by decide +kernel
theorem zd_Law_law_243 : decode code 243 = .ok (.iload_n 3, 1) := by decide +kernel
theorem zd_Law_law_244 : decode code 244 = .ok (.bipush 6, 2) := by decide +kernel
theorem zd_Law_law_246 : decode code 246 = .ok (.iadd, 1) := by decide +kernel
theorem zd_Law_law_247 : decode code 247 = .ok (.iaload, 1) := by decide +kernel
theorem zd_Law_law_248 : decode code 248 = .ok (.aload_n 0, 1) := by decide +kernel
theorem zd_Law_law_249 : decode code 249 = .ok (.iload_n 3, 1) := by decide +kernel
theorem zd_Law_law_250 : decode code 250 = .ok (.bipush 7, 2) := by decide +kernel
theorem zd_Law_law_252 : decode code 252 = .ok (.iadd, 1) := by decide +kernel
theorem zd_Law_law_253 : decode code 253 = .ok (.iaload, 1) := by decide +kernel
theorem zd_Law_law_254 : decode code 254 = .ok (.invokevirtual 30, 3) := by decide +kernel
theorem zd_Law_law_257 : decode code 257 = .ok (.if_icmp .eq 421, 3) := by decide +kernel
theorem zd_Law_law_260 : decode code 260 = .ok (.iconst 0, 1) := by decide +kernel
theorem zd_Law_law_261 : decode code 261 = .ok (.ireturn, 1) := by decide +kernel
theorem zd_Law_law_262 : decode code 262 = .ok (.aload_n 1, 1) := by decide +kernel
theorem zd_Law_law_263 : decode code 263 = .ok (.aload_n 0, 1) := by decide +kernel
theorem zd_Law_law_264 : decode code 264 = .ok (.iload_n 3, 1) := by decide +kernel
theorem zd_Law_law_265 : decode code 265 = .ok (.iconst 1, 1) := by decide +kernel
theorem zd_Law_law_266 : decode code 266 = .ok (.iadd, 1) := by decide +kernel
theorem zd_Law_law_267 : decode code 267 = .ok (.iaload, 1) := by decide +kernel
theorem zd_Law_law_268 : decode code 268 = .ok (.aload_n 0, 1) := by decide +kernel
theorem zd_Law_law_269 : decode code 269 = .ok (.iload_n 3, 1) := by decide +kernel
theorem zd_Law_law_270 : decode code 270 = .ok (.iconst 2, 1) := by decide +kernel
theorem zd_Law_law_271 : decode code 271 = .ok (.iadd, 1) := by decide +kernel
theorem zd_Law_law_272 : decode code 272 = .ok (.iaload, 1) := by decide +kernel
theorem zd_Law_law_273 : decode code 273 = .ok (.invokevirtual 31, 3) := by decide +kernel
theorem zd_Law_law_276 : decode code 276 = .ok (.aload_n 2, 1) := by decide +kernel
theorem zd_Law_law_277 : decode code 277 = .ok (.aload_n 0, 1) := by decide +kernel
theorem zd_Law_law_278 : decode code 278 = .ok (.iload_n 3, 1) := by decide +kernel
theorem zd_Law_law_279 : decode code 279 = .ok (.iconst 1, 1) := by decide +kernel
theorem zd_Law_law_280 : decode code 280 = .ok (.iadd, 1) := by decide +kernel
theorem zd_Law_law_281 : decode code 281 = .ok (.iaload, 1) := by decide +kernel
theorem zd_Law_law_282 : decode code 282 = .ok (.aload_n 0, 1) := by decide +kernel
theorem zd_Law_law_283 : decode code 283 = .ok (.iload_n 3, 1) := by decide +kernel
theorem zd_Law_law_284 : decode code 284 = .ok (.iconst 2, 1) := by decide +kernel
theorem zd_Law_law_285 : decode code 285 = .ok (.iadd, 1) := by decide +kernel
theorem zd_Law_law_286 : decode code 286 = .ok (.iaload, 1) := by decide +kernel
theorem zd_Law_law_287 : decode code 287 = .ok (.invokevirtual 35, 3) := by decide +kernel
theorem zd_Law_law_290 : decode code 290 = .ok (.if_icmp .eq 388, 3) := by decide +kernel
theorem zd_Law_law_293 : decode code 293 = .ok (.iconst 0, 1) := by decide +kernel
theorem zd_Law_law_294 : decode code 294 = .ok (.ireturn, 1) := by decide +kernel
theorem zd_Law_law_295 : decode code 295 = .ok (.aload_n 1, 1) := by decide +kernel
theorem zd_Law_law_296 : decode code 296 = .ok (.aload_n 0, 1) := by decide +kernel
theorem zd_Law_law_297 : decode code 297 = .ok (.iload_n 3, 1) := by decide +kernel
theorem zd_Law_law_298 : decode code 298 = .ok (.iconst 1, 1) := by decide +kernel
theorem zd_Law_law_299 : decode code 299 = .ok (.iadd, 1) := by decide +kernel
theorem zd_Law_law_300 : decode code 300 = .ok (.iaload, 1) := by decide +kernel
theorem zd_Law_law_301 : decode code 301 = .ok (.invokevirtual 36, 3) := by decide +kernel
theorem zd_Law_law_304 : decode code 304 = .ok (.aload_n 2, 1) := by decide +kernel
theorem zd_Law_law_305 : decode code 305 = .ok (.aload_n 0, 1) := by decide +kernel
theorem zd_Law_law_306 : decode code 306 = .ok (.iload_n 3, 1) := by decide +kernel
theorem zd_Law_law_307 : decode code 307 = .ok (.iconst 1, 1) := by decide +kernel
theorem zd_Law_law_308 : decode code 308 = .ok (.iadd, 1) := by decide +kernel
theorem zd_Law_law_309 : decode code 309 = .ok (.iaload, 1) := by decide +kernel
theorem zd_Law_law_310 : decode code 310 = .ok (.invokevirtual 40, 3) := by decide +kernel
theorem zd_Law_law_313 : decode code 313 = .ok (.if_icmp .eq 365, 3) := by decide +kernel
theorem zd_Law_law_316 : decode code 316 = .ok (.iconst 0, 1) := by decide +kernel
theorem zd_Law_law_317 : decode code 317 = .ok (.ireturn, 1) := by decide +kernel
theorem zd_Law_law_318 : decode code 318 = .ok (.aload_n 1, 1) := by decide +kernel
theorem zd_Law_law_319 : decode code 319 = .ok (.aload_n 0, 1) := by decide +kernel
theorem zd_Law_law_320 : decode code 320 = .ok (.iload_n 3, 1) := by decide +kernel
theorem zd_Law_law_321 : decode code 321 = .ok (.iconst 1, 1) := by decide +kernel
theorem zd_Law_law_322 : decode code 322 = .ok (.iadd, 1) := by decide +kernel
theorem zd_Law_law_323 : decode code 323 = .ok (.iaload, 1) := by decide +kernel
theorem zd_Law_law_324 : decode code 324 = .ok (.aload_n 0, 1) := by decide +kernel
theorem zd_Law_law_325 : decode code 325 = .ok (.iload_n 3, 1) := by decide +kernel
theorem zd_Law_law_326 : decode code 326 = .ok (.iconst 2, 1) := by decide +kernel
theorem zd_Law_law_327 : decode code 327 = .ok (.iadd, 1) := by decide +kernel
theorem zd_Law_law_328 : decode code 328 = .ok (.iaload, 1) := by decide +kernel
theorem zd_Law_law_329 : decode code 329 = .ok (.invokevirtual 41, 3) := by decide +kernel
theorem zd_Law_law_332 : decode code 332 = .ok (.aload_n 2, 1) := by decide +kernel
theorem zd_Law_law_333 : decode code 333 = .ok (.aload_n 0, 1) := by decide +kernel
theorem zd_Law_law_334 : decode code 334 = .ok (.iload_n 3, 1) := by decide +kernel
theorem zd_Law_law_335 : decode code 335 = .ok (.iconst 1, 1) := by decide +kernel
theorem zd_Law_law_336 : decode code 336 = .ok (.iadd, 1) := by decide +kernel
theorem zd_Law_law_337 : decode code 337 = .ok (.iaload, 1) := by decide +kernel
theorem zd_Law_law_338 : decode code 338 = .ok (.aload_n 0, 1) := by decide +kernel
theorem zd_Law_law_339 : decode code 339 = .ok (.iload_n 3, 1) := by decide +kernel
theorem zd_Law_law_340 : decode code 340 = .ok (.iconst 2, 1) := by decide +kernel
theorem zd_Law_law_341 : decode code 341 = .ok (.iadd, 1) := by decide +kernel
theorem zd_Law_law_342 : decode code 342 = .ok (.iaload, 1) := by decide +kernel
theorem zd_Law_law_343 : decode code 343 = .ok (.invokevirtual 45, 3) := by decide +kernel
theorem zd_Law_law_346 : decode code 346 = .ok (.if_icmp .eq 332, 3) := by decide +kernel
theorem zd_Law_law_349 : decode code 349 = .ok (.iconst 0, 1) := by decide +kernel
theorem zd_Law_law_350 : decode code 350 = .ok (.ireturn, 1) := by decide +kernel
theorem zd_Law_law_351 : decode code 351 = .ok (.aload_n 1, 1) := by decide +kernel
theorem zd_Law_law_352 : decode code 352 = .ok (.aload_n 0, 1) := by decide +kernel
theorem zd_Law_law_353 : decode code 353 = .ok (.iload_n 3, 1) := by decide +kernel
theorem zd_Law_law_354 : decode code 354 = .ok (.iconst 1, 1) := by decide +kernel
theorem zd_Law_law_355 : decode code 355 = .ok (.iadd, 1) := by decide +kernel
theorem zd_Law_law_356 : decode code 356 = .ok (.iaload, 1) := by decide +kernel
theorem zd_Law_law_357 : decode code 357 = .ok (.aload_n 0, 1) := by decide +kernel
theorem zd_Law_law_358 : decode code 358 = .ok (.iload_n 3, 1) := by decide +kernel
theorem zd_Law_law_359 : decode code 359 = .ok (.iconst 2, 1) := by decide +kernel
theorem zd_Law_law_360 : decode code 360 = .ok (.iadd, 1) := by decide +kernel
theorem zd_Law_law_361 : decode code 361 = .ok (.iaload, 1) := by decide +kernel
theorem zd_Law_law_362 : decode code 362 = .ok (.aload_n 0, 1) := by decide +kernel
theorem zd_Law_law_363 : decode code 363 = .ok (.iload_n 3, 1) := by decide +kernel
theorem zd_Law_law_364 : decode code 364 = .ok (.iconst 3, 1) := by decide +kernel
theorem zd_Law_law_365 : decode code 365 = .ok (.iadd, 1) := by decide +kernel
theorem zd_Law_law_366 : decode code 366 = .ok (.iaload, 1) := by decide +kernel
theorem zd_Law_law_367 : decode code 367 = .ok (.aload_n 0, 1) := by decide +kernel
theorem zd_Law_law_368 : decode code 368 = .ok (.iload_n 3, 1) := by decide +kernel
theorem zd_Law_law_369 : decode code 369 = .ok (.iconst 4, 1) := by decide +kernel
theorem zd_Law_law_370 : decode code 370 = .ok (.iadd, 1) := by decide +kernel
theorem zd_Law_law_371 : decode code 371 = .ok (.iaload, 1) := by decide +kernel
theorem zd_Law_law_372 : decode code 372 = .ok (.aload_n 0, 1) := by decide +kernel
theorem zd_Law_law_373 : decode code 373 = .ok (.iload_n 3, 1) := by decide +kernel
theorem zd_Law_law_374 : decode code 374 = .ok (.iconst 5, 1) := by decide +kernel
theorem zd_Law_law_375 : decode code 375 = .ok (.iadd, 1) := by decide +kernel
theorem zd_Law_law_376 : decode code 376 = .ok (.iaload, 1) := by decide +kernel
theorem zd_Law_law_377 : decode code 377 = .ok (.invokevirtual 46, 3) := by decide +kernel
theorem zd_Law_law_380 : decode code 380 = .ok (.aload_n 2, 1) := by decide +kernel
theorem zd_Law_law_381 : decode code 381 = .ok (.aload_n 0, 1) := by decide +kernel
theorem zd_Law_law_382 : decode code 382 = .ok (.iload_n 3, 1) := by decide +kernel
theorem zd_Law_law_383 : decode code 383 = .ok (.iconst 1, 1) := by decide +kernel
theorem zd_Law_law_384 : decode code 384 = .ok (.iadd, 1) := by decide +kernel
theorem zd_Law_law_385 : decode code 385 = .ok (.iaload, 1) := by decide +kernel
theorem zd_Law_law_386 : decode code 386 = .ok (.aload_n 0, 1) := by decide +kernel
theorem zd_Law_law_387 : decode code 387 = .ok (.iload_n 3, 1) := by decide +kernel
theorem zd_Law_law_388 : decode code 388 = .ok (.iconst 2, 1) := by decide +kernel
theorem zd_Law_law_389 : decode code 389 = .ok (.iadd, 1) := by decide +kernel
theorem zd_Law_law_390 : decode code 390 = .ok (.iaload, 1) := by decide +kernel
theorem zd_Law_law_391 : decode code 391 = .ok (.aload_n 0, 1) := by decide +kernel
theorem zd_Law_law_392 : decode code 392 = .ok (.iload_n 3, 1) := by decide +kernel
theorem zd_Law_law_393 : decode code 393 = .ok (.iconst 3, 1) := by decide +kernel
theorem zd_Law_law_394 : decode code 394 = .ok (.iadd, 1) := by decide +kernel
theorem zd_Law_law_395 : decode code 395 = .ok (.iaload, 1) := by decide +kernel
theorem zd_Law_law_396 : decode code 396 = .ok (.aload_n 0, 1) := by decide +kernel
theorem zd_Law_law_397 : decode code 397 = .ok (.iload_n 3, 1) := by decide +kernel
theorem zd_Law_law_398 : decode code 398 = .ok (.iconst 4, 1) := by decide +kernel
theorem zd_Law_law_399 : decode code 399 = .ok (.iadd, 1) := by decide +kernel
theorem zd_Law_law_400 : decode code 400 = .ok (.iaload, 1) := by decide +kernel
theorem zd_Law_law_401 : decode code 401 = .ok (.aload_n 0, 1) := by decide +kernel
theorem zd_Law_law_402 : decode code 402 = .ok (.iload_n 3, 1) := by decide +kernel
theorem zd_Law_law_403 : decode code 403 = .ok (.iconst 5, 1) := by decide +kernel
theorem zd_Law_law_404 : decode code 404 = .ok (.iadd, 1) := by decide +kernel
theorem zd_Law_law_405 : decode code 405 = .ok (.iaload, 1) := by decide +kernel
theorem zd_Law_law_406 : decode code 406 = .ok (.invokevirtual 50, 3) := by decide +kernel
theorem zd_Law_law_409 : decode code 409 = .ok (.if_icmp .eq 269, 3) := by decide +kernel
theorem zd_Law_law_412 : decode code 412 = .ok (.iconst 0, 1) := by decide +kernel
theorem zd_Law_law_413 : decode code 413 = .ok (.ireturn, 1) := by decide +kernel
theorem zd_Law_law_414 : decode code 414 = .ok (.aload_n 1, 1) := by decide +kernel
theorem zd_Law_law_415 : decode code 415 = .ok (.aload_n 0, 1) := by decide +kernel
theorem zd_Law_law_416 : decode code 416 = .ok (.iload_n 3, 1) := by decide +kernel
theorem zd_Law_law_417 : decode code 417 = .ok (.iconst 1, 1) := by decide +kernel
theorem zd_Law_law_418 : decode code 418 = .ok (.iadd, 1) := by decide +kernel
theorem zd_Law_law_419 : decode code 419 = .ok (.iaload, 1) := by decide +kernel
theorem zd_Law_law_420 : decode code 420 = .ok (.aload_n 0, 1) := by decide +kernel
theorem zd_Law_law_421 : decode code 421 = .ok (.iload_n 3, 1) := by decide +kernel
theorem zd_Law_law_422 : decode code 422 = .ok (.iconst 2, 1) := by decide +kernel
theorem zd_Law_law_423 : decode code 423 = .ok (.iadd, 1) := by decide +kernel
theorem zd_Law_law_424 : decode code 424 = .ok (.iaload, 1) := by decide +kernel
theorem zd_Law_law_425 : decode code 425 = .ok (.invokevirtual 51, 3) := by decide +kernel
theorem zd_Law_law_428 : decode code 428 = .ok (.aload_n 2, 1) := by decide +kernel
theorem zd_Law_law_429 : decode code 429 = .ok (.aload_n 0, 1) := by decide +kernel
theorem zd_Law_law_430 : decode code 430 = .ok (.iload_n 3, 1) := by decide +kernel
theorem zd_Law_law_431 : decode code 431 = .ok (.iconst 1, 1) := by decide +kernel
theorem zd_Law_law_432 : decode code 432 = .ok (.iadd, 1) := by decide +kernel
theorem zd_Law_law_433 : decode code 433 = .ok (.iaload, 1) := by decide +kernel
theorem zd_Law_law_434 : decode code 434 = .ok (.aload_n 0, 1) := by decide +kernel
theorem zd_Law_law_435 : decode code 435 = .ok (.iload_n 3, 1) := by decide +kernel
theorem zd_Law_law_436 : decode code 436 = .ok (.iconst 2, 1) := by decide +kernel
theorem zd_Law_law_437 : decode code 437 = .ok (.iadd, 1) := by decide +kernel
theorem zd_Law_law_438 : decode code 438 = .ok (.iaload, 1) := by decide +kernel
theorem zd_Law_law_439 : decode code 439 = .ok (.invokevirtual 54, 3) := by decide +kernel
theorem zd_Law_law_442 : decode code 442 = .ok (.if_icmp .eq 236, 3) := by decide +kernel
theorem zd_Law_law_445 : decode code 445 = .ok (.iconst 0, 1) := by decide +kernel
theorem zd_Law_law_446 : decode code 446 = .ok (.ireturn, 1) := by decide +kernel
theorem zd_Law_law_447 : decode code 447 = .ok (.aload_n 1, 1) := by decide +kernel
theorem zd_Law_law_448 : decode code 448 = .ok (.invokevirtual 55, 3) := by decide +kernel
theorem zd_Law_law_451 : decode code 451 = .ok (.aload_n 2, 1) := by decide +kernel
theorem zd_Law_law_452 : decode code 452 = .ok (.invokevirtual 59, 3) := by decide +kernel
theorem zd_Law_law_455 : decode code 455 = .ok (.if_icmp .eq 223, 3) := by decide +kernel
theorem zd_Law_law_458 : decode code 458 = .ok (.iconst 0, 1) := by decide +kernel
theorem zd_Law_law_459 : decode code 459 = .ok (.ireturn, 1) := by decide +kernel
theorem zd_Law_law_460 : decode code 460 = .ok (.aload_n 1, 1) := by decide +kernel
theorem zd_Law_law_461 : decode code 461 = .ok (.aload_n 0, 1) := by decide +kernel
theorem zd_Law_law_462 : decode code 462 = .ok (.iload_n 3, 1) := by decide +kernel
theorem zd_Law_law_463 : decode code 463 = .ok (.iconst 1, 1) := by decide +kernel
theorem zd_Law_law_464 : decode code 464 = .ok (.iadd, 1) := by decide +kernel
theorem zd_Law_law_465 : decode code 465 = .ok (.iaload, 1) := by decide +kernel
theorem zd_Law_law_466 : decode code 466 = .ok (.aload_n 0, 1) := by decide +kernel
theorem zd_Law_law_467 : decode code 467 = .ok (.iload_n 3, 1) := by decide +kernel
theorem zd_Law_law_468 : decode code 468 = .ok (.iconst 2, 1) := by decide +kernel
theorem zd_Law_law_469 : decode code 469 = .ok (.iadd, 1) := by decide +kernel
theorem zd_Law_law_470 : decode code 470 = .ok (.iaload, 1) := by decide +kernel
theorem zd_Law_law_471 : decode code 471 = .ok (.invokevirtual 60, 3) := by decide +kernel
theorem zd_Law_law_474 : decode code 474 = .ok (.aload_n 2, 1) := by decide +kernel
theorem zd_Law_law_475 : decode code 475 = .ok (.aload_n 0, 1) := by decide +kernel
theorem zd_Law_law_476 : decode code 476 = .ok (.iload_n 3, 1) := by decide +kernel
theorem zd_Law_law_477 : decode code 477 = .ok (.iconst 1, 1) := by decide +kernel
theorem zd_Law_law_478 : decode code 478 = .ok (.iadd, 1) := by decide +kernel
theorem zd_Law_law_479 : decode code 479 = .ok (.iaload, 1) := by decide +kernel
theorem zd_Law_law_480 : decode code 480 = .ok (.aload_n 0, 1) := by decide +kernel
theorem zd_Law_law_481 : decode code 481 = .ok (.iload_n 3, 1) := by decide +kernel
theorem zd_Law_law_482 : decode code 482 = .ok (.iconst 2, 1) := by decide +kernel
theorem zd_Law_law_483 : decode code 483 = .ok (.iadd, 1) := by decide +kernel
theorem zd_Law_law_484 : decode code 484 = .ok (.iaload, 1) := by decide +kernel
theorem zd_Law_law_485 : decode code 485 = .ok (.invokevirtual 63, 3) := by decide +kernel
theorem zd_Law_law_488 : decode code 488 = .ok (.if_icmp .eq 190, 3) := by decide +kernel
theorem zd_Law_law_491 : decode code 491 = .ok (.iconst 0, 1) := by decide +kernel
theorem zd_Law_law_492 : decode code 492 = .ok (.ireturn, 1) := by decide +kernel
theorem zd_Law_law_493 : decode code 493 = .ok (.aload_n 1, 1) := by decide +kernel
theorem zd_Law_law_494 : decode code 494 = .ok (.aload_n 0, 1) := by decide +kernel
theorem zd_Law_law_495 : decode code 495 = .ok (.iload_n 3, 1) := by decide +kernel
theorem zd_Law_law_496 : decode code 496 = .ok (.iconst 1, 1) := by decide +kernel
theorem zd_Law_law_497 : decode code 497 = .ok (.iadd, 1) := by decide +kernel
theorem zd_Law_law_498 : decode code 498 = .ok (.iaload, 1) := by decide +kernel
theorem zd_Law_law_499 : decode code 499 = .ok (.aload_n 0, 1) := by decide +kernel
theorem zd_Law_law_500 : decode code 500 = .ok (.iload_n 3, 1) := by decide +kernel
theorem zd_Law_law_501 : decode code 501 = .ok (.iconst 2, 1) := by decide +kernel
theorem zd_Law_law_502 : decode code 502 = .ok (.iadd, 1) := by decide +kernel
theorem zd_Law_law_503 : decode code 503 = .ok (.iaload, 1) := by decide +kernel
theorem zd_Law_law_504 : decode code 504 = .ok (.aload_n 0, 1) := by decide +kernel
theorem zd_Law_law_505 : decode code 505 = .ok (.iload_n 3, 1) := by decide +kernel
theorem zd_Law_law_506 : decode code 506 = .ok (.iconst 3, 1) := by decide +kernel
theorem zd_Law_law_507 : decode code 507 = .ok (.iadd, 1) := by decide +kernel
theorem zd_Law_law_508 : decode code 508 = .ok (.iaload, 1) := by decide +kernel
theorem zd_Law_law_509 : decode code 509 = .ok (.aload_n 0, 1) := by decide +kernel
theorem zd_Law_law_510 : decode code 510 = .ok (.iload_n 3, 1) := by decide +kernel
theorem zd_Law_law_511 : decode code 511 = .ok (.iconst 4, 1) := by decide +kernel
theorem zd_Law_law_512 : decode code 512 = .ok (.iadd, 1) := by decide +kernel
theorem zd_Law_law_513 : decode code 513 = .ok (.iaload, 1) := by decide +kernel
theorem zd_Law_law_514 : decode code 514 = .ok (.invokevirtual 64, 3) := by decide +kernel
theorem zd_Law_law_517 : decode code 517 = .ok (.aload_n 2, 1) := by decide +kernel
theorem zd_Law_law_518 : decode code 518 = .ok (.aload_n 0, 1) := by decide +kernel
theorem zd_Law_law_519 : decode code 519 = .ok (.iload_n 3, 1) := by decide +kernel
theorem zd_Law_law_520 : decode code 520 = .ok (.iconst 1, 1) := by decide +kernel
theorem zd_Law_law_521 : decode code 521 = .ok (.iadd, 1) := by decide +kernel
theorem zd_Law_law_522 : decode code 522 = .ok (.iaload, 1) := by decide +kernel
theorem zd_Law_law_523 : decode code 523 = .ok (.aload_n 0, 1) := by decide +kernel
theorem zd_Law_law_524 : decode code 524 = .ok (.iload_n 3, 1) := by decide +kernel
theorem zd_Law_law_525 : decode code 525 = .ok (.iconst 2, 1) := by decide +kernel
theorem zd_Law_law_526 : decode code 526 = .ok (.iadd, 1) := by decide +kernel
theorem zd_Law_law_527 : decode code 527 = .ok (.iaload, 1) := by decide +kernel
theorem zd_Law_law_528 : decode code 528 = .ok (.aload_n 0, 1) := by decide +kernel
theorem zd_Law_law_529 : decode code 529 = .ok (.iload_n 3, 1) := by decide +kernel
theorem zd_Law_law_530 : decode code 530 = .ok (.iconst 3, 1) := by decide +kernel
theorem zd_Law_law_531 : decode code 531 = .ok (.iadd, 1) := by decide +kernel
theorem zd_Law_law_532 : decode code 532 = .ok (.iaload, 1) := by decide +kernel
theorem zd_Law_law_533 : decode code 533 = .ok (.aload_n 0, 1) := by decide +kernel
theorem zd_Law_law_534 : decode code 534 = .ok (.iload_n 3, 1) := by decide +kernel
theorem zd_Law_law_535 : decode code 535 = .ok (.iconst 4, 1) := by decide +kernel
theorem zd_Law_law_536 : decode code 536 = .ok (.iadd, 1) := by decide +kernel
theorem zd_Law_law_537 : decode code 537 = .ok (.iaload, 1) := by decide +kernel
theorem zd_Law_law_538 : decode code 538 = .ok (.invokevirtual 68, 3) := by decide +kernel
theorem zd_Law_law_541 : decode code 541 = .ok (.if_icmp .eq 137, 3) := by decide +kernel
theorem zd_Law_law_544 : decode code 544 = .ok (.iconst 0, 1) := by decide +kernel
theorem zd_Law_law_545 : decode code 545 = .ok (.ireturn, 1) := by decide +kernel
theorem zd_Law_law_546 : decode code 546 = .ok (.aload_n 1, 1) := by decide +kernel
theorem zd_Law_law_547 : decode code 547 = .ok (.aload_n 0, 1) := by decide +kernel
theorem zd_Law_law_548 : decode code 548 = .ok (.iload_n 3, 1) := by decide +kernel
theorem zd_Law_law_549 : decode code 549 = .ok (.iconst 1, 1) := by decide +kernel
theorem zd_Law_law_550 : decode code 550 = .ok (.iadd, 1) := by decide +kernel
theorem zd_Law_law_551 : decode code 551 = .ok (.iaload, 1) := by decide +kernel
theorem zd_Law_law_552 : decode code 552 = .ok (.aload_n 0, 1) := by decide +kernel
theorem zd_Law_law_553 : decode code 553 = .ok (.iload_n 3, 1) := by decide +kernel
theorem zd_Law_law_554 : decode code 554 = .ok (.iconst 2, 1) := by decide +kernel
theorem zd_Law_law_555 : decode code 555 = .ok (.iadd, 1) := by decide +kernel
theorem zd_Law_law_556 : decode code 556 = .ok (.iaload, 1) := by decide +kernel
theorem zd_Law_law_557 : decode code 557 = .ok (.invokevirtual 69, 3) := by decide +kernel
theorem zd_Law_law_560 : decode code 560 = .ok (.aload_n 2, 1) := by decide +kernel
theorem zd_Law_law_561 : decode code 561 = .ok (.aload_n 0, 1) := by decide +kernel
theorem zd_Law_law_562 : decode code 562 = .ok (.iload_n 3, 1) := by decide +kernel
theorem zd_Law_law_563 : decode code 563 = .ok (.iconst 1, 1) := by decide +kernel
theorem zd_Law_law_564 : decode code 564 = .ok (.iadd, 1) := by decide +kernel
theorem zd_Law_law_565 : decode code 565 = .ok (.iaload, 1) := by decide +kernel
theorem zd_Law_law_566 : decode code 566 = .ok (.aload_n 0, 1) := by decide +kernel
theorem zd_Law_law_567 : decode code 567 = .ok (.iload_n 3, 1) := by decide +kernel
theorem zd_Law_law_568 : decode code 568 = .ok (.iconst 2, 1) := by decide +kernel
theorem zd_Law_law_569 : decode code 569 = .ok (.iadd, 1) := by decide +kernel
theorem zd_Law_law_570 : decode code 570 = .ok (.iaload, 1) := by decide +kernel
theorem zd_Law_law_571 : decode code 571 = .ok (.invokevirtual 72, 3) := by decide +kernel
theorem zd_Law_law_574 : decode code 574 = .ok (.if_icmp .eq 104, 3) := by decide +kernel
theorem zd_Law_law_577 : decode code 577 = .ok (.iconst 0, 1) := by decide +kernel
theorem zd_Law_law_578 : decode code 578 = .ok (.ireturn, 1) := by decide +kernel
theorem zd_Law_law_579 : decode code 579 = .ok (.aload_n 1, 1) := by decide +kernel
theorem zd_Law_law_580 : decode code 580 = .ok (.aload_n 0, 1) := by decide +kernel
theorem zd_Law_law_581 : decode code 581 = .ok (.iload_n 3, 1) := by decide +kernel
theorem zd_Law_law_582 : decode code 582 = .ok (.iconst 1, 1) := by decide +kernel
theorem zd_Law_law_583 : decode code 583 = .ok (.iadd, 1) := by decide +kernel
theorem zd_Law_law_584 : decode code 584 = .ok (.iaload, 1) := by decide +kernel
theorem zd_Law_law_585 : decode code 585 = .ok (.invokevirtual 73, 3) := by decide +kernel
theorem zd_Law_law_588 : decode code 588 = .ok (.aload_n 2, 1) := by decide +kernel
theorem zd_Law_law_589 : decode code 589 = .ok (.aload_n 0, 1) := by decide +kernel
theorem zd_Law_law_590 : decode code 590 = .ok (.iload_n 3, 1) := by decide +kernel
theorem zd_Law_law_591 : decode code 591 = .ok (.iconst 1, 1) := by decide +kernel
theorem zd_Law_law_592 : decode code 592 = .ok (.iadd, 1) := by decide +kernel
theorem zd_Law_law_593 : decode code 593 = .ok (.iaload, 1) := by decide +kernel
theorem zd_Law_law_594 : decode code 594 = .ok (.invokevirtual 77, 3) := by decide +kernel
theorem zd_Law_law_597 : decode code 597 = .ok (.if_icmp .eq 81, 3) := by decide +kernel
theorem zd_Law_law_600 : decode code 600 = .ok (.iconst 0, 1) := by decide +kernel
theorem zd_Law_law_601 : decode code 601 = .ok (.ireturn, 1) := by decide +kernel
theorem zd_Law_law_602 : decode code 602 = .ok (.aload_n 1, 1) := by decide +kernel
theorem zd_Law_law_603 : decode code 603 = .ok (.aload_n 0, 1) := by decide +kernel
theorem zd_Law_law_604 : decode code 604 = .ok (.iload_n 3, 1) := by decide +kernel
theorem zd_Law_law_605 : decode code 605 = .ok (.iconst 1, 1) := by decide +kernel
theorem zd_Law_law_606 : decode code 606 = .ok (.iadd, 1) := by decide +kernel
theorem zd_Law_law_607 : decode code 607 = .ok (.iaload, 1) := by decide +kernel
theorem zd_Law_law_608 : decode code 608 = .ok (.aload_n 0, 1) := by decide +kernel
theorem zd_Law_law_609 : decode code 609 = .ok (.iload_n 3, 1) := by decide +kernel
theorem zd_Law_law_610 : decode code 610 = .ok (.iconst 2, 1) := by decide +kernel
theorem zd_Law_law_611 : decode code 611 = .ok (.iadd, 1) := by decide +kernel
theorem zd_Law_law_612 : decode code 612 = .ok (.iaload, 1) := by decide +kernel
theorem zd_Law_law_613 : decode code 613 = .ok (.aload_n 0, 1) := by decide +kernel
theorem zd_Law_law_614 : decode code 614 = .ok (.iload_n 3, 1) := by decide +kernel
theorem zd_Law_law_615 : decode code 615 = .ok (.iconst 3, 1) := by decide +kernel
theorem zd_Law_law_616 : decode code 616 = .ok (.iadd, 1) := by decide +kernel
theorem zd_Law_law_617 : decode code 617 = .ok (.iaload, 1) := by decide +kernel
theorem zd_Law_law_618 : decode code 618 = .ok (.invokevirtual 78, 3) := by decide +kernel
theorem zd_Law_law_621 : decode code 621 = .ok (.aload_n 2, 1) := by decide +kernel
theorem zd_Law_law_622 : decode code 622 = .ok (.aload_n 0, 1) := by decide +kernel
theorem zd_Law_law_623 : decode code 623 = .ok (.iload_n 3, 1) := by decide +kernel
theorem zd_Law_law_624 : decode code 624 = .ok (.iconst 1, 1) := by decide +kernel
theorem zd_Law_law_625 : decode code 625 = .ok (.iadd, 1) := by decide +kernel
theorem zd_Law_law_626 : decode code 626 = .ok (.iaload, 1) := by decide +kernel
theorem zd_Law_law_627 : decode code 627 = .ok (.aload_n 0, 1) := by decide +kernel
theorem zd_Law_law_628 : decode code 628 = .ok (.iload_n 3, 1) := by decide +kernel
theorem zd_Law_law_629 : decode code 629 = .ok (.iconst 2, 1) := by decide +kernel
theorem zd_Law_law_630 : decode code 630 = .ok (.iadd, 1) := by decide +kernel
theorem zd_Law_law_631 : decode code 631 = .ok (.iaload, 1) := by decide +kernel
theorem zd_Law_law_632 : decode code 632 = .ok (.aload_n 0, 1) := by decide +kernel
theorem zd_Law_law_633 : decode code 633 = .ok (.iload_n 3, 1) := by decide +kernel
theorem zd_Law_law_634 : decode code 634 = .ok (.iconst 3, 1) := by decide +kernel
theorem zd_Law_law_635 : decode code 635 = .ok (.iadd, 1) := by decide +kernel
theorem zd_Law_law_636 : decode code 636 = .ok (.iaload, 1) := by decide +kernel
theorem zd_Law_law_637 : decode code 637 = .ok (.invokevirtual 82, 3) := by decide +kernel
theorem zd_Law_law_640 : decode code 640 = .ok (.if_icmp .eq 38, 3) := by decide +kernel
theorem zd_Law_law_643 : decode code 643 = .ok (.iconst 0, 1) := by decide +kernel
theorem zd_Law_law_644 : decode code 644 = .ok (.ireturn, 1) := by decide +kernel
theorem zd_Law_law_645 : decode code 645 = .ok (.aload_n 1, 1) := by decide +kernel
theorem zd_Law_law_646 : decode code 646 = .ok (.aload_n 0, 1) := by decide +kernel
theorem zd_Law_law_647 : decode code 647 = .ok (.iload_n 3, 1) := by decide +kernel
theorem zd_Law_law_648 : decode code 648 = .ok (.iconst 1, 1) := by decide +kernel
theorem zd_Law_law_649 : decode code 649 = .ok (.iadd, 1) := by decide +kernel
theorem zd_Law_law_650 : decode code 650 = .ok (.iaload, 1) := by decide +kernel
theorem zd_Law_law_651 : decode code 651 = .ok (.aload_n 0, 1) := by decide +kernel
theorem zd_Law_law_652 : decode code 652 = .ok (.iload_n 3, 1) := by decide +kernel
theorem zd_Law_law_653 : decode code 653 = .ok (.iconst 2, 1) := by decide +kernel
theorem zd_Law_law_654 : decode code 654 = .ok (.iadd, 1) := by decide +kernel
theorem zd_Law_law_655 : decode code 655 = .ok (.iaload, 1) := by decide +kernel
theorem zd_Law_law_656 : decode code 656 = .ok (.invokevirtual 83, 3) := by decide +kernel
theorem zd_Law_law_659 : decode code 659 = .ok (.aload_n 2, 1) := by decide +kernel
theorem zd_Law_law_660 : decode code 660 = .ok (.aload_n 0, 1) := by decide +kernel
theorem zd_Law_law_661 : decode code 661 = .ok (.iload_n 3, 1) := by decide +kernel
theorem zd_Law_law_662 : decode code 662 = .ok (.iconst 1, 1) := by decide +kernel
theorem zd_Law_law_663 : decode code 663 = .ok (.iadd, 1) := by decide +kernel
theorem zd_Law_law_664 : decode code 664 = .ok (.iaload, 1) := by decide +kernel
theorem zd_Law_law_665 : decode code 665 = .ok (.aload_n 0, 1) := by decide +kernel
theorem zd_Law_law_666 : decode code 666 = .ok (.iload_n 3, 1) := by decide +kernel
theorem zd_Law_law_667 : decode code 667 = .ok (.iconst 2, 1) := by decide +kernel
theorem zd_Law_law_668 : decode code 668 = .ok (.iadd, 1) := by decide +kernel
theorem zd_Law_law_669 : decode code 669 = .ok (.iaload, 1) := by decide +kernel
theorem zd_Law_law_670 : decode code 670 = .ok (.invokevirtual 86, 3) := by decide +kernel
theorem zd_Law_law_673 : decode code 673 = .ok (.if_icmp .eq 5, 3) := by decide +kernel
theorem zd_Law_law_676 : decode code 676 = .ok (.iconst 0, 1) := by decide +kernel
theorem zd_Law_law_677 : decode code 677 = .ok (.ireturn, 1) := by decide +kernel
theorem zd_Law_law_678 : decode code 678 = .ok (.iinc 3 8, 3) := by decide +kernel
end
section
theorem zd_Law_law_681 : decode code 681 = .ok (.goto (-653), 3) := by decide +kernel
theorem zd_Law_law_684 : decode code 684 = .ok (.iconst 1, 1) := by decide +kernel
theorem zd_Law_law_685 : decode code 685 = .ok (.ireturn, 1) := by decide +kernel
end
section
/-! The heap as this proof sees it: a partial map from addresses to cells, and the next free address; rows of the machine over it. -/
abbrev za_c : Type := (Nat × Nat × ((Nat → Int32) ⊕ (Nat → Option Nat))) ⊕ (Nat × List Value)
abbrev za_h : Type := (Nat → Option za_c) × Nat
def za_up (f : Nat → Option za_c) (a : Nat) (x : za_c) : Nat → Option za_c := fun q => if q = a then some x else f q
def za_w (σ : za_h) (a : Nat) (x : za_c) : za_h := (za_up σ.1 a x, σ.2)
def za_n (σ : za_h) (x : za_c) : za_h := (za_up σ.1 σ.2 x, σ.2 + 1)
def zg_f (σ : za_h) (a ci k : Nat) : Option Value := match σ.1 a with
  | some (.inr (c, fs)) => if c = ci then fs[k]? else none
  | _ => none
def zg_i (σ : za_h) (a ci k : Nat) : Option Int32 := match zg_f σ a ci k with
  | some (.int x) => some x
  | _ => none
def zg_r (σ : za_h) (a ci k : Nat) : Option Nat := match zg_f σ a ci k with
  | some (.ref b) => some b
  | _ => none
def zg_c (σ : za_h) (a ci : Nat) : Option Unit := match σ.1 a with
  | some (.inr (c, _)) => if c = ci then some () else none
  | _ => none
def zp_f (σ : za_h) (a ci k : Nat) (v : Value) : Option za_h := match σ.1 a with
  | some (.inr (c, fs)) => if c = ci ∧ k < fs.length then some (za_w σ a (.inr (c, fs.set k v))) else none
  | _ => none
def za_ld (σ : za_h) (a t : Nat) (i : Int32) : Option Int32 := match σ.1 a with
  | some (.inl (u, n, .inl f)) => if u = t ∧ ¬ (i < 0 ∨ n ≤ i.toNatClampNeg) then some (f i.toNatClampNeg) else none
  | _ => none
def za_st (σ : za_h) (a t : Nat) (i x : Int32) : Option za_h := match σ.1 a with
  | some (.inl (u, n, .inl f)) => if u = t ∧ ¬ (i < 0 ∨ n ≤ i.toNatClampNeg) then some (za_w σ a (.inl (u, n, .inl (upd f i.toNatClampNeg x)))) else none
  | _ => none
def za_lq (σ : za_h) (a t : Nat) (i : Int32) : Option (Option Nat) := match σ.1 a with
  | some (.inl (u, n, .inr f)) => if u = t ∧ ¬ (i < 0 ∨ n ≤ i.toNatClampNeg) then some (f i.toNatClampNeg) else none
  | _ => none
def za_ln (σ : za_h) (a t : Nat) (i : Int32) : Option Nat := match za_lq σ a t i with
  | some (some b) => some b
  | _ => none
def za_sq (σ : za_h) (a t ci : Nat) (i : Int32) (o : Option Nat) : Option za_h := match σ.1 a with
  | some (.inl (u, n, .inr f)) => if u = t ∧ ¬ (i < 0 ∨ n ≤ i.toNatClampNeg) ∧ (o.all fun v => (zg_c σ v ci).isSome) = true then some (za_w σ a (.inl (u, n, .inr (va_up f i.toNatClampNeg o)))) else none
  | _ => none

theorem zg_f_s {σ : za_h} {a ci k : Nat} {v : Value} (h : zg_f σ a ci k = some v) : ∃ fs, σ.1 a = some (.inr (ci, fs)) ∧ fs[k]? = some v := by
  unfold zg_f at h
  split at h
  · rename_i c fs e
    split at h
    · rename_i hc; subst hc; exact ⟨fs, e, h⟩
    · cases h
  · cases h
theorem zg_i_s {σ : za_h} {a ci k : Nat} {x : Int32} (h : zg_i σ a ci k = some x) : zg_f σ a ci k = some (.int x) := by
  unfold zg_i at h
  split at h
  · rename_i y e; cases h; exact e
  · cases h
theorem zg_r_s {σ : za_h} {a ci k : Nat} {b : Nat} (h : zg_r σ a ci k = some b) : zg_f σ a ci k = some (.ref b) := by
  unfold zg_r at h
  split at h
  · rename_i y e; cases h; exact e
  · cases h
theorem zg_c_s {σ : za_h} {a ci : Nat} {u : Unit} (h : zg_c σ a ci = some u) : ∃ fs, σ.1 a = some (.inr (ci, fs)) := by
  unfold zg_c at h
  split at h
  · rename_i c fs e
    split at h
    · rename_i hc; subst hc; exact ⟨fs, e⟩
    · cases h
  · cases h
theorem zp_f_s {σ σ1 : za_h} {a ci k : Nat} {v : Value} (h : zp_f σ a ci k v = some σ1) : ∃ fs, σ.1 a = some (.inr (ci, fs)) ∧ k < fs.length ∧ σ1 = za_w σ a (.inr (ci, fs.set k v)) := by
  unfold zp_f at h
  split at h
  · rename_i c fs e
    split at h
    · rename_i hc; obtain ⟨rfl, hk⟩ := hc; cases h; exact ⟨fs, e, hk, rfl⟩
    · cases h
  · cases h
theorem za_ld_s {σ : za_h} {a t : Nat} {i x : Int32} (h : za_ld σ a t i = some x) : ∃ n f, σ.1 a = some (.inl (t, n, .inl f)) ∧ vp_in i n ∧ x = f i.toNatClampNeg := by
  unfold za_ld at h
  split at h
  · rename_i u n f e
    split at h
    · rename_i hc; obtain ⟨rfl, hk⟩ := hc; cases h; exact ⟨n, f, e, hk, rfl⟩
    · cases h
  · cases h
theorem za_st_s {σ σ1 : za_h} {a t : Nat} {i x : Int32} (h : za_st σ a t i x = some σ1) : ∃ n f, σ.1 a = some (.inl (t, n, .inl f)) ∧ vp_in i n ∧ σ1 = za_w σ a (.inl (t, n, .inl (upd f i.toNatClampNeg x))) := by
  unfold za_st at h
  split at h
  · rename_i u n f e
    split at h
    · rename_i hc; obtain ⟨rfl, hk⟩ := hc; cases h; exact ⟨n, f, e, hk, rfl⟩
    · cases h
  · cases h
theorem za_lq_s {σ : za_h} {a t : Nat} {i : Int32} {x : Option Nat} (h : za_lq σ a t i = some x) : ∃ n f, σ.1 a = some (.inl (t, n, .inr f)) ∧ vp_in i n ∧ x = f i.toNatClampNeg := by
  unfold za_lq at h
  split at h
  · rename_i u n f e
    split at h
    · rename_i hc; obtain ⟨rfl, hk⟩ := hc; cases h; exact ⟨n, f, e, hk, rfl⟩
    · cases h
  · cases h
theorem za_ln_s {σ : za_h} {a t : Nat} {i : Int32} {b : Nat} (h : za_ln σ a t i = some b) : za_lq σ a t i = some (some b) := by
  unfold za_ln at h
  split at h
  · rename_i y e; cases h; exact e
  · cases h
theorem za_sq_s {σ σ1 : za_h} {a t ci : Nat} {i : Int32} {o : Option Nat} (h : za_sq σ a t ci i o = some σ1) : ∃ n f, σ.1 a = some (.inl (t, n, .inr f)) ∧ vp_in i n ∧ (∀ v, o = some v → ∃ fs, σ.1 v = some (.inr (ci, fs))) ∧ σ1 = za_w σ a (.inl (t, n, .inr (va_up f i.toNatClampNeg o))) := by
  unfold za_sq at h
  split at h
  · rename_i u n f e
    split at h
    · rename_i hc
      obtain ⟨rfl, hk, ho⟩ := hc
      cases h
      refine ⟨n, f, e, hk, fun v hv => ?_, rfl⟩
      subst hv
      obtain ⟨w, hw⟩ := Option.isSome_iff_exists.mp (show (zg_c σ v ci).isSome = true from ho)
      exact zg_c_s hw
    · cases h
  · cases h
def za_ushr (x y : Int32) : Int32 := (x.toUInt32 >>> (y.toUInt32 &&& Int32.toUInt32 31)).toInt32
def za_min (x y : Int32) : Int32 := if y < x then y else x
/-- a step of a function that may fail -/
theorem zb_o {α β : Type} {x : Option α} {f : α → Option β} {y : β} (h : x.bind f = some y) : ∃ v, x = some v ∧ f v = some y := by
  cases x with
  | none => cases h
  | some v => exact ⟨v, rfl, h⟩
theorem zb_t {β : Type} {q : Prop} [Decidable q] {a b : Option β} {y : β} (hq : q) (h : (if q then a else b) = some y) : a = some y := by rwa [if_pos hq] at h
theorem zb_f {β : Type} {q : Prop} [Decidable q] {a b : Option β} {y : β} (hq : ¬ q) (h : (if q then a else b) = some y) : b = some y := by rwa [if_neg hq] at h
theorem zb_g {β : Type} {q : Prop} [Decidable q] {a : Option β} {y : β} (h : (if q then a else none) = some y) : q ∧ a = some y := by
  by_cases hq : q
  · exact ⟨hq, by rwa [if_pos hq] at h⟩
  · rw [if_neg hq] at h; cases h
/-- the steady words -/
def za_ws : List Cond := lw_tbl.filter goodWord
theorem za_ws_in {w : Cond} (h : w ∈ lw_tbl) (hg : goodWord w = true) : w ∈ za_ws := List.mem_filter.mpr ⟨h, hg⟩
theorem za_good {w0 : Cond} (h0 : w0 ∈ za_ws) : GoodIn za_ws (w0 :: za_ws) := by
  intro w hw
  have h1 : w ∈ za_ws := by
    rcases List.mem_cons.mp hw with rfl | h
    · exact h0
    · exact h
  refine ⟨h1, ?_⟩
  have h2 := (List.mem_filter.mp h1).2
  unfold goodWord at h2
  split at h2
  · exact Or.inr ⟨_, rfl⟩
  · exact Or.inl h2
def za_nest : Cond → Bool
  | .fieldLinkNest .. => true
  | .methodLinkNest .. => true
  | _ => false
def za_E (ca : Nat → ClassId) (x : za_c) : va_E := match x with
  | .inl (t, n, .inl f) => .inl (ca t, n, .inl f)
  | .inl (t, n, .inr f) => .inl (ca t, n, .inr (.inr (.inr (.inr f))))
  | .inr o => .inr o
def za_T (ca : Nat → ClassId) : List (ClassId × FieldType) := za_tys.mapIdx (fun k ty => (ca k, ty))
theorem za_T_at {ca : Nat → ClassId} {t : Nat} {ty : FieldType} (h : za_tys[t]? = some ty) : (za_T ca)[t]? = some (ca t, ty) := by
  simp [za_T, List.getElem?_mapIdx, h]
def za_K (D : va_G) (ca : Nat → ClassId) (U : State) : Prop := va_K D vwCl (za_T ca) U ∧ (∀ w ∈ lw_tbl, za_nest w = true → va_Nw w U) ∧ ∀ (t : Nat) (C : String), za_tys[t]? = some (.object C) → va_AO C U
theorem za_K.warm {D : va_G} {ca : Nat → ClassId} {s U : State} (h : za_K D ca s) (hW : s.WarmedH U.vm) : za_K D ca U := by
  refine ⟨h.1.moved hW.alike, fun w hw hn => ?_, fun t C ht => (h.2.2 t C ht).moved hW.alike⟩
  have h1 := h.2.1 w hw hn
  cases w <;> first | exact va_Nw.warmF hW h1 | exact va_Nw.warmM hW h1 | (simp [za_nest] at hn; done)
theorem za_K.same {D : va_G} {ca : Nat → ClassId} {s U : State} (h : za_K D ca s) (hU : s.vm = U.vm) : za_K D ca U := by
  have hal : s.vm.Alike U.vm := by rw [hU]; exact Vm.Alike.refl U.vm
  refine ⟨h.1.moved hal, fun w hw hn => ?_, fun t C ht => (h.2.2 t C ht).moved hal⟩
  have h1 := h.2.1 w hw hn
  cases w <;> first | exact va_Nw.same rfl hU h1 | (simp [za_nest] at hn; done)
def za_R (D : va_G) (ca : Nat → ClassId) (n0 : Nat) (σ : za_h) (H : Heap) : Prop := H.size = σ.2 ∧ n0 ≤ σ.2 ∧ ∀ (a : Nat) (x : za_c), σ.1 a = some x → n0 ≤ a ∧ va_at D vwCl (a, za_E ca x) H
def za_A (n0 : Nat) : Nat → Prop := fun q => n0 ≤ q
def za_I (D : va_G) (ca : Nat → ClassId) (n0 : Nat) (s : State) (σ : za_h) (H : Heap) (locs : List Loc) : Prop := za_R D ca n0 σ H ∧ va_S (za_A n0) s.heap H locs
theorem za_R.P {D : va_G} {ca : Nat → ClassId} {n0 : Nat} {σ : za_h} {H : Heap} (h : za_R D ca n0 σ H) {a : Nat} {x : za_c} (hx : σ.1 a = some x) : va_P D vwCl [(a, za_E ca x)] H := by
  intro k q hk
  cases k with
  | zero =>
    have hq : (a, za_E ca x) = q := by simpa using hk
    subst hq
    exact (h.2.2 a x hx).2
  | succ k => simp at hk
theorem za_R.set {D : va_G} {ca : Nat → ClassId} {n0 : Nat} {σ : za_h} {H H1 : Heap} (h : za_R D ca n0 σ H) {a : Nat} {x0 x : za_c} (ha : σ.1 a = some x0) (z : H1.size = H.size) (he : va_at D vwCl (a, za_E ca x) H1) (oq : ∀ q : Nat, q ≠ a → H1[q]? = H[q]?) : za_R D ca n0 (za_w σ a x) H1 := by
  refine ⟨z.trans h.1, h.2.1, fun b y hb => ?_⟩
  by_cases hq : b = a
  · subst hq
    have hy : x = y := by simpa [za_w, za_up] using hb
    subst hy
    exact ⟨(h.2.2 b x0 ha).1, he⟩
  · have hb' : σ.1 b = some y := by simpa [za_w, za_up, hq] using hb
    exact ⟨(h.2.2 b y hb').1, (h.2.2 b y hb').2.kept (oq b hq)⟩
theorem za_R.new {D : va_G} {ca : Nat → ClassId} {n0 : Nat} {σ : za_h} {H H1 : Heap} (h : za_R D ca n0 σ H) {x : za_c} (z : H1.size = H.size + 1) (he : va_at D vwCl (H.size, za_E ca x) H1) (oq : ∀ q : Nat, q < H.size → H1[q]? = H[q]?) : za_R D ca n0 (za_n σ x) H1 := by
  refine ⟨by rw [z, h.1]; rfl, Nat.le_succ_of_le h.2.1, fun b y hb => ?_⟩
  by_cases hq : b = σ.2
  · subst hq
    have hy : x = y := by simpa [za_n, za_up] using hb
    subst hy
    exact ⟨h.2.1, by rw [← h.1]; exact he⟩
  · have hb' : σ.1 b = some y := by simpa [za_n, za_up, hq] using hb
    have h2 := h.2.2 b y hb'
    exact ⟨h2.1, h2.2.kept (oq b h2.2.lt)⟩
theorem za_S.new {n0 : Nat} {H0 H H1 : Heap} {locs : List Loc} (h : va_S (za_A n0) H0 H locs) (z : H1.size = H.size + 1) (oq : ∀ q : Nat, q < H.size → H1[q]? = H[q]?) : va_S (za_A n0) H0 H1 locs :=
  ⟨Nat.le_trans h.1 (by omega), fun x h1 h2 => (oq x (Nat.lt_of_lt_of_le h1 h.1)).trans (h.2.1 x h1 h2), h.2.2⟩
/-- a field, as an instruction of the class own names it by the place index of its pool -/
def za_fd (own : String) (index ci k : Nat) (ty : FieldType) (fin : Bool) : Prop := ∃ (C : String) (T : u_T) (N : Nat) (tt : Nat → FieldType), vwCl[ci]? = some (C, T, N) ∧ k < N ∧ (∀ w ∈ u_ws C T N, w ∈ za_ws) ∧ (T k).1 = C ∧ parseFieldDescriptor (T k).2.2.1 = some ty ∧ (∀ k, k < N → parseFieldDescriptor (T k).2.2.1 = some (tt k)) ∧ (∀ a, a < N → ∀ b, b < N → a ≠ b → (T a).2.1 ≠ (T b).2.1) ∧ (T k).2.2.2 = fin ∧ (Cond.fieldLink own index C (T k).2.1 (T k).2.2.1 ∈ za_ws ∨ ∃ host, Cond.fieldLinkNest own index C (T k).2.1 (T k).2.2.1 host ∈ lw_tbl)
/-- a final field of the class itself, in its constructor -/
def za_ff (own : String) (index ci k : Nat) (ty : FieldType) : Prop := ∃ (T : u_T) (N : Nat) (tt : Nat → FieldType), vwCl[ci]? = some (own, T, N) ∧ k < N ∧ (∀ w ∈ u_ws own T N, w ∈ za_ws) ∧ (T k).1 = own ∧ parseFieldDescriptor (T k).2.2.1 = some ty ∧ (∀ k, k < N → parseFieldDescriptor (T k).2.2.1 = some (tt k)) ∧ (∀ a, a < N → ∀ b, b < N → a ≠ b → (T a).2.1 ≠ (T b).2.1) ∧ (T k).2.2.2 = true ∧ Cond.fieldLink own index own (T k).2.1 (T k).2.2.1 ∈ za_ws
/-- a class that an instruction makes an object of: what a new one holds -/
def za_nd (own : String) (index ci : Nat) (fs : List Value) (N : Nat) : Prop := ∃ (C : String) (T : u_T) (tt : Nat → FieldType), vwCl[ci]? = some (C, T, N) ∧ (∀ w ∈ u_ws C T N, w ∈ za_ws) ∧ (∀ k, k < N → parseFieldDescriptor (T k).2.2.1 = some (tt k)) ∧ Cond.classLink own index C ∈ za_ws ∧ Cond.instantiable C N ∈ za_ws ∧ Cond.initialized C ∈ za_ws ∧ ∀ j, j < N → defaultValue (tt j) = vp_V fs j
def za_mb (own : String) (index : Nat) (y : MethodName) (bytes : ByteArray) (maxL : Nat) (ret : Option FieldType) (n : Nat) : Prop := Cond.code y bytes maxL ret ∈ za_ws ∧ Cond.initialized y.cls ∈ za_ws ∧ (y.cls ≠ "java/lang/invoke/MethodHandle" ∧ y.cls ≠ "java/lang/invoke/VarHandle" ∧ (parseMethodDescriptor y.desc).map (fun d => d.parameters.length) = some n) ∧ (Cond.methodLink own index y ∈ za_ws ∨ ∃ host, Cond.methodLinkNest own index y host ∈ lw_tbl)
def za_mV (own : String) (index : Nat) (y : MethodName) (bytes : ByteArray) (maxL : Nat) (ret : Option FieldType) (n ci : Nat) : Prop := za_mb own index y bytes maxL ret n ∧ Cond.instanceMethod y ∈ za_ws ∧ Cond.selects y.cls y y ∈ za_ws ∧ ∃ (T : u_T) (N : Nat), vwCl[ci]? = some (y.cls, T, N)
def za_mS (own : String) (index : Nat) (y : MethodName) (bytes : ByteArray) (maxL : Nat) (ret : Option FieldType) (n : Nat) : Prop := za_mb own index y bytes maxL ret n ∧ Cond.static y ∈ za_ws
def za_mI (own : String) (index : Nat) (y : MethodName) (bytes : ByteArray) (maxL : Nat) (n : Nat) : Prop := za_mb own index y bytes maxL none n ∧ y.name = "<init>" ∧ Cond.instanceMethod y ∈ za_ws
def za_wy (y : MethodName) (bytes : ByteArray) (maxL : Nat) (ret : Option FieldType) : List Cond := Cond.code y bytes maxL ret :: za_ws
def za_Pc (D : va_G) (ca : Nat → ClassId) (n0 : Nat) (As : List Value) (σ : za_h) : Array Value → State → Prop := va_Pc As (fun U => za_R D ca n0 σ U.heap ∧ za_K D ca U)
def za_Qi (D : va_G) (ca : Nat → ClassId) (n0 : Nat) (r : Int32) (σ : za_h) : Array Value → State → Outcome → State → Prop := va_Qi (S := Unit) (fun x _ => x = r) (fun _ t => za_R D ca n0 σ t.heap) (za_A n0)
def za_Qv (D : va_G) (ca : Nat → ClassId) (n0 : Nat) (_r : Unit) (σ : za_h) : Array Value → State → Outcome → State → Prop := va_Qv (S := Unit) (fun _ => True) (fun _ t => za_R D ca n0 σ t.heap) (za_A n0)
def za_Qr (D : va_G) (ca : Nat → ClassId) (n0 : Nat) (r : Nat) (σ : za_h) : Array Value → State → Outcome → State → Prop := va_Qr (S := Unit) (fun _ => True) (fun _ a t => a = r ∧ za_R D ca n0 σ t.heap) (za_A n0)
section ZA
variable {p : Program} {l : Launch} {e : Env} {R : Room} {s : State} {m : MethodId} {args : Array Value} {below : List Frame} {meth : Method} {c : Code} {H : Heap} {locs : List Loc} {cells slots : Nat} {Q : State → Prop}
variable {cc : ByteArray} {pc : Nat} {ls : Array Slot} {rest : List Value} {D : va_G} {ca : Nat → ClassId} {n0 : Nat} {σ σ1 : za_h} {a : Nat} {own : String}
theorem za_get (hx : p.tables.exec = Jvm.exec) (hb : c.code = cc) (hts : ∀ w ∈ za_ws, w.before args s = true) (hown : s.vm.findClass own = some m.cls) (hK : za_K D ca s) (hI : za_I D ca n0 s σ H locs) {index ci k : Nat} {ty : FieldType} {fin : Bool} (fd : za_fd own index ci k ty fin) {v : Value} (hg : zg_f σ a ci k = some v) (hdg : decode cc pc = .ok (.getfield index, 3))
    (kk : W p l e R s m args below meth c H locs cells slots Q (F0 m (pc + 3) ls (v :: rest))) : W p l e R s m args below meth c H locs cells slots Q (F0 m pc ls (.ref a :: rest)) := by
  obtain ⟨fs, h1, h2⟩ := zg_f_s hg
  obtain ⟨C, T, N, tt, hc, hk, hin, hT1, hd, hty, hnm, hf, hl⟩ := fd
  have hP := hI.1.P h1
  have hsame : ∀ x, s.fieldFound? (T k).1 (T k).2.1 (T k).2.2.1 = some x → s.fieldFound? C (T k).2.1 (T k).2.2.1 = some x := fun x h => by rw [hT1] at h; exact h
  rcases hl with hl | ⟨host, hl⟩
  · exact va_get hx hb hts hin hown hK.1 hP 0 rfl hc k hk (hts _ hl) hsame h2 hdg kk
  · exact va_getN hx hb hts hin hown hK.1 hP 0 rfl hc k hk (va_Nw.use rfl (hK.2.1 _ hl rfl)) hsame h2 hdg kk
theorem za_geti (hx : p.tables.exec = Jvm.exec) (hb : c.code = cc) (hts : ∀ w ∈ za_ws, w.before args s = true) (hown : s.vm.findClass own = some m.cls) (hK : za_K D ca s) (hI : za_I D ca n0 s σ H locs) {index ci k : Nat} {ty : FieldType} {fin : Bool} (fd : za_fd own index ci k ty fin) {v : Int32} (hg : zg_i σ a ci k = some v) (hdg : decode cc pc = .ok (.getfield index, 3))
    (kk : W p l e R s m args below meth c H locs cells slots Q (F0 m (pc + 3) ls (.int v :: rest))) : W p l e R s m args below meth c H locs cells slots Q (F0 m pc ls (.ref a :: rest)) := za_get hx hb hts hown hK hI fd (zg_i_s hg) hdg kk
theorem za_getr (hx : p.tables.exec = Jvm.exec) (hb : c.code = cc) (hts : ∀ w ∈ za_ws, w.before args s = true) (hown : s.vm.findClass own = some m.cls) (hK : za_K D ca s) (hI : za_I D ca n0 s σ H locs) {index ci k : Nat} {ty : FieldType} {fin : Bool} (fd : za_fd own index ci k ty fin) {v : Nat} (hg : zg_r σ a ci k = some v) (hdg : decode cc pc = .ok (.getfield index, 3))
    (kk : W p l e R s m args below meth c H locs cells slots Q (F0 m (pc + 3) ls (.ref v :: rest))) : W p l e R s m args below meth c H locs cells slots Q (F0 m pc ls (.ref a :: rest)) := za_get hx hb hts hown hK hI fd (zg_r_s hg) hdg kk
theorem za_put (hx : p.tables.exec = Jvm.exec) (hb : c.code = cc) (hts : ∀ w ∈ za_ws, w.before args s = true) (hown : s.vm.findClass own = some m.cls) (hK : za_K D ca s) (hI : za_I D ca n0 s σ H locs) {index ci k : Nat} {ty : FieldType} (fd : za_fd own index ci k ty false) {v : Value} (hg : zp_f σ a ci k v = some σ1) (hn : narrow ty v = v) (hfit : fits ty v = true) (hdg : decode cc pc = .ok (.putfield index, 3))
    (kk : ∀ (H1 : Heap) (locs1 : List Loc), za_I D ca n0 s σ1 H1 locs1 → W p l e R s m args below meth c H1 locs1 cells slots Q (F0 m (pc + 3) ls rest)) : W p l e R s m args below meth c H locs cells slots Q (F0 m pc ls (v :: .ref a :: rest)) := by
  obtain ⟨fs, h1, hlen, rfl⟩ := zp_f_s hg
  obtain ⟨C, T, N, tt, hc, hk, hin, hT1, hd, hty, hnm, hf, hl⟩ := fd
  have hap := va_apart (own := own) hts hin tt hty hnm hK.1 hc
  obtain ⟨hA1, hat⟩ := hI.1.2.2 a _ h1
  obtain ⟨r, hr0, cell, q1, q2, q3, q4⟩ := hat
  have hr : r = (C, T, N) := Option.some.inj (hr0.symm.trans hc)
  subst hr
  obtain ⟨hS, hfc, kC, hkC, hkind⟩ := hK.1.1 ci _ hc
  obtain ⟨cf, kf, fi, f, hi, hsl⟩ := hS k hk
  have hlay := hts _ (hin _ (u_in_lay hk))
  unfold u_lay at hlay
  rw [if_neg (by rw [hf]; decide)] at hlay
  have hst := (u_facts hfc hkC (u_lays hts hin hk) hi).1
  have h6 := u_store hfc hkC hkind hlay hi hd hn hfit
  have hi2 : s.fieldFound? C (T k).2.1 (T k).2.2.1 = some (cf, kf, fi, f) := by rw [hT1] at hi; exact hi
  have fin : ∀ H' : Heap, H'[a]? = some (cell.setSlot f.slot v) → H'.size = H.size → (∀ q, q ≠ a → H'[q]? = H[q]?) → W p l e R s m args below meth c H' (locs ++ [⟨a, f.slot⟩]) cells slots Q (F0 m (pc + 3) ls rest) := by
    intro H' e1 e2 e3
    rw [hsl] at e1 ⊢
    exact kk H' _ ⟨hI.1.set (x := .inr (ci, fs.set k v)) h1 e2 ⟨_, hc, t_OB.to (V := updV (vp_V fs) k v) ⟨_, e1, q2, q3, t_set q4 hap hk v⟩ (fun j _ => vp_updV_set hlen v j)⟩ e3, hI.2.put e2 e3 hA1⟩
  rcases hl with hl | ⟨host, hl⟩
  · exact W.putK hx hb (f := f) ⟨hown, hts _ hl, ⟨_, _, _, hi2⟩, hst⟩ (by rw [q2]; exact h6) q1 q3 (by rw [hsl]; exact k2_hasslot (q4 k hk)) rfl rfl hdg fin
  · exact va_WputK hx hb (f := f) hown (va_Nw.use rfl (hK.2.1 _ hl rfl)) hi2 hst (by rw [q2]; exact h6) q1 q3 (by rw [hsl]; exact k2_hasslot (q4 k hk)) rfl rfl hdg fin
theorem za_putF (hx : p.tables.exec = Jvm.exec) (hb : c.code = cc) (hts : ∀ w ∈ za_ws, w.before args s = true) (hown : s.vm.findClass own = some m.cls) (hnm0 : meth.name = "<init>") (hK : za_K D ca s) (hI : za_I D ca n0 s σ H locs) {index ci k : Nat} {ty : FieldType} (fd : za_ff own index ci k ty) {v : Value} (hg : zp_f σ a ci k v = some σ1) (hn : narrow ty v = v) (hfit : fits ty v = true) (hdg : decode cc pc = .ok (.putfield index, 3))
    (kk : ∀ (H1 : Heap) (locs1 : List Loc), za_I D ca n0 s σ1 H1 locs1 → W p l e R s m args below meth c H1 locs1 cells slots Q (F0 m (pc + 3) ls rest)) : W p l e R s m args below meth c H locs cells slots Q (F0 m pc ls (v :: .ref a :: rest)) := by
  obtain ⟨fs, h1, hlen, rfl⟩ := zp_f_s hg
  obtain ⟨T, N, tt, hc, hk, hin, hT1, hd, hty, hnm, hf, hl⟩ := fd
  have hap := va_apart (own := own) hts hin tt hty hnm hK.1 hc
  obtain ⟨hA1, hat⟩ := hI.1.2.2 a _ h1
  obtain ⟨r, hr0, cell, q1, q2, q3, q4⟩ := hat
  have hr : r = (own, T, N) := Option.some.inj (hr0.symm.trans hc)
  subst hr
  obtain ⟨hS, hfc, kC, hkC, hkind⟩ := hK.1.1 ci _ hc
  obtain ⟨cf, kf, fi, f, hi, hsl⟩ := hS k hk
  have hlay := hts _ (hin _ (u_in_lay hk))
  unfold u_lay at hlay
  rw [if_pos hf] at hlay
  have hst := (u_facts hfc hkC (u_lays hts hin hk) hi).1
  have hcf : m.cls = cf := by
    obtain ⟨_, _, c', _, _, _, -, -, hf', -, -, -, hown2, -⟩ := Cond.laysFinal_spec hlay
    have e1 : c' = cf := by have := hi.symm.trans hf'; simp at this; exact this.1.symm
    rw [hT1] at hown2
    rw [← e1]; exact Option.some.inj (hown.symm.trans hown2)
  have h6 := u_fits hfc hkC hkind (Or.inr hlay) hi hd hn hfit
  have hi2 : s.fieldFound? own (T k).2.1 (T k).2.2.1 = some (cf, kf, fi, f) := by rw [hT1] at hi; exact hi
  refine W.putFinK hx hb hown (hts _ hl) hi2 hst hcf hnm0 (by rw [q2]; exact h6) q1 q3 (by rw [hsl]; exact k2_hasslot (q4 k hk)) rfl rfl hdg fun H' e1 e2 e3 => ?_
  rw [hsl] at e1 ⊢
  exact kk H' _ ⟨hI.1.set (x := .inr (ci, fs.set k v)) h1 e2 ⟨_, hc, t_OB.to (V := updV (vp_V fs) k v) ⟨_, e1, q2, q3, t_set q4 hap hk v⟩ (fun j _ => vp_updV_set hlen v j)⟩ e3, hI.2.put e2 e3 hA1⟩
theorem za_new (hx : p.tables.exec = Jvm.exec) (hb : c.code = cc) (hts : ∀ w ∈ za_ws, w.before args s = true) (hown : s.vm.findClass own = some m.cls) (hK : za_K D ca s) (hI : za_I D ca n0 s σ H locs) {index ci N : Nat} {fs : List Value} (nd : za_nd own index ci fs N) (hcells : cells + 1 ≤ R.cells) (hslots : slots + N ≤ R.slots) (hdg : decode cc pc = .ok (.new index, 3))
    (kk : ∀ H1 : Heap, za_I D ca n0 s (za_n σ (.inr (ci, fs))) H1 locs → W p l e R s m args below meth c H1 locs (cells + 1) (slots + N) Q (F0 m (pc + 3) ls (.ref σ.2 :: rest))) : W p l e R s m args below meth c H locs cells slots Q (F0 m pc ls rest) := by
  obtain ⟨C, T, tt, hc, hin, hty, h1, h2, h3, hfs⟩ := nd
  have hKn := hK.1.1 ci _ hc
  refine W.newcK hx hb hown (hts _ h1) (hts _ h2) (hts _ h3) rfl hdg hcells hslots hKn.2.1 rfl fun H1 kC hkC e1 z1 o1 => ?_
  rw [hI.1.1]
  exact kk H1 ⟨hI.1.new z1 ⟨_, hc, (u_born tt hts hin hKn hkC e1 hty).to hfs⟩ o1, za_S.new hI.2 z1 o1⟩
theorem za_newa (hx : p.tables.exec = Jvm.exec) (hb : c.code = cc) (hts : ∀ w ∈ za_ws, w.before args s = true) (hK : za_K D ca s) (hI : za_I D ca n0 s σ H locs) {atype : ArrayType} {ty : FieldType} (t : Nat) (hty : newarray.typeOf atype = ty) (htt : za_tys[t]? = some ty) (hty2 : ty = .int ∨ ty = .boolean) (hw : Cond.arrayClass ty ∈ za_ws) {n : Int32} {N : Nat} (hn : ¬ n < 0) (hN : n.toNatClampNeg = N) (hby : N * 4 ≤ 536870912) (hcells : cells + 1 ≤ R.cells) (hslots : slots + N ≤ R.slots) (hdg : decode cc pc = .ok (.newarray atype, 2))
    (kk : ∀ H1 : Heap, za_I D ca n0 s (za_n σ (.inl (t, N, .inl (fun _ => 0)))) H1 locs → W p l e R s m args below meth c H1 locs (cells + 1) (slots + N) Q (F0 m (pc + 2) ls (.ref σ.2 :: rest))) : W p l e R s m args below meth c H locs cells slots Q (F0 m pc ls (.int n :: rest)) := by
  subst hty
  refine va_newaK hx hb (hts _ hw) rfl hdg rfl hn hN (by rcases hty2 with h | h <;> rw [h] <;> simp [componentBytes] <;> omega) hcells hslots rfl fun H1 cA e1 z1 o1 hAr hNm => ?_
  have hra := (hK.1.2 t _ (za_T_at htt)).2
  have hcA : cA = ca t := by
    rcases hty2 with h | h <;> rw [h] at hra hNm <;> exact Option.some.inj (hNm.symm.trans hra)
  subst hcA
  rw [hI.1.1]
  refine kk H1 ⟨hI.1.new z1 ?_ o1, za_S.new hI.2 z1 o1⟩
  show H1[H.size]? = some (vp_cell _ _)
  rw [e1, vp_cell_i]
  rcases hty2 with h | h <;> rw [h] <;> rfl
theorem za_newq (hx : p.tables.exec = Jvm.exec) (hb : c.code = cc) (hts : ∀ w ∈ za_ws, w.before args s = true) (hown : s.vm.findClass own = some m.cls) (hK : za_K D ca s) (hI : za_I D ca n0 s σ H locs) {index : Nat} {C : String} (t : Nat) (htt : za_tys[t]? = some (.object C)) (hw : Cond.classLink own index C ∈ za_ws) {n : Int32} {N : Nat} (hn : ¬ n < 0) (hN : n.toNatClampNeg = N) (hby : N * 4 ≤ 536870912) (hcells : cells + 1 ≤ R.cells) (hslots : slots + N ≤ R.slots) (hdg : decode cc pc = .ok (.anewarray index, 3))
    (kk : ∀ H1 : Heap, za_I D ca n0 s (za_n σ (.inl (t, N, .inr (fun _ => none)))) H1 locs → W p l e R s m args below meth c H1 locs (cells + 1) (slots + N) Q (F0 m (pc + 3) ls (.ref σ.2 :: rest))) : W p l e R s m args below meth c H locs cells slots Q (F0 m pc ls (.int n :: rest)) := by
  subst hN
  refine W.anew hx hb hown (hts _ hw) (va_AO.use (hK.2.2 t C htt)) rfl hdg rfl hn hby hcells hslots fun cA kA comp f1 f2 f3 f4 => ?_
  generalize hH1 : H.push ({ cls := cA, slots := Array.replicate n.toNatClampNeg .null, vm := .none } : Cell) = H1
  have z1 : H1.size = H.size + 1 := by rw [← hH1, Array.size_push]
  have e1 : H1[H.size]? = some (arrV cA n.toNatClampNeg (fun _ => .null)) := by rw [← hH1, Array.getElem?_push_size, ← arrV_new]
  have o1 : ∀ q : Nat, q < H.size → H1[q]? = H[q]? := fun q hq => by rw [← hH1, Array.getElem?_push, if_neg (Nat.ne_of_lt hq)]
  obtain ⟨_, _, -, -, -, hra⟩ := (hK.1.2 t _ (za_T_at htt)).2
  have hcA : cA = ca t := Option.some.inj (f1.symm.trans hra)
  subst hcA
  show W p l e R s m args below meth c H1 locs (cells + 1) (slots + n.toNatClampNeg) Q (F0 m (pc + 3) ls (.ref H.size :: rest))
  rw [hI.1.1]
  refine kk H1 ⟨hI.1.new z1 ?_ o1, za_S.new hI.2 z1 o1⟩
  show H1[H.size]? = some (vp_cell _ _)
  rw [e1, vp_cell_q]
  rfl
theorem za_iald (hx : p.tables.exec = Jvm.exec) (hb : c.code = cc) (hK : za_K D ca s) (hI : za_I D ca n0 s σ H locs) {i x : Int32} (hg : za_ld σ a 0 i = some x) (hdg : decode cc pc = .ok (.iaload, 1))
    (kk : W p l e R s m args below meth c H locs cells slots Q (F0 m (pc + 1) ls (.int x :: rest))) : W p l e R s m args below meth c H locs cells slots Q (F0 m pc ls (.int i :: .ref a :: rest)) := by
  obtain ⟨n, f, h1, h2, rfl⟩ := za_ld_s hg
  exact va_iald hx hb hK.1 (hI.1.P h1) 0 0 rfl (za_T_at rfl) h2 hdg kk
theorem za_zald (hx : p.tables.exec = Jvm.exec) (hb : c.code = cc) (hK : za_K D ca s) (hI : za_I D ca n0 s σ H locs) {i x : Int32} (hg : za_ld σ a 1 i = some x) (hdg : decode cc pc = .ok (.baload, 1))
    (kk : W p l e R s m args below meth c H locs cells slots Q (F0 m (pc + 1) ls (.int x :: rest))) : W p l e R s m args below meth c H locs cells slots Q (F0 m pc ls (.int i :: .ref a :: rest)) := by
  obtain ⟨n, f, h1, h2, rfl⟩ := za_ld_s hg
  exact va_zald hx hb hK.1 (hI.1.P h1) 0 1 rfl (za_T_at rfl) h2 hdg kk
theorem za_upd {cA : ClassId} {n i : Nat} {f : Nat → Int32} {x : Int32} {H1 : Heap} {a : Nat} (e : H1[a]? = some ((arrV cA n (fun j => .int (f j))).setSlot i (.int x))) : H1[a]? = some (vp_cell cA (n, .inl (upd f i x))) := by
  rw [e, vp_cell_i, arrV_store]
  congr 2
  funext q
  by_cases hq : q = i
  · subst hq
    simp [updV, upd]
  · simp [updV, upd, hq]
theorem za_iast (hx : p.tables.exec = Jvm.exec) (hb : c.code = cc) (hK : za_K D ca s) (hI : za_I D ca n0 s σ H locs) {i x : Int32} (hg : za_st σ a 0 i x = some σ1) (hdg : decode cc pc = .ok (.iastore, 1))
    (kk : ∀ (H1 : Heap) (locs1 : List Loc), za_I D ca n0 s σ1 H1 locs1 → W p l e R s m args below meth c H1 locs1 cells slots Q (F0 m (pc + 1) ls rest)) : W p l e R s m args below meth c H locs cells slots Q (F0 m pc ls (.int x :: .int i :: .ref a :: rest)) := by
  obtain ⟨n, f, h1, h2, rfl⟩ := za_st_s hg
  obtain ⟨hA1, hat⟩ := hI.1.2.2 a _ h1
  refine W.iast hx hb hat ((hK.1.2 0 _ (za_T_at rfl)).1 n (fun j => .int (f j))) (fun q => by cases q) (by show ¬ (i < 0 ∨ (arrV _ _ _).slots.size ≤ _); rw [arrV_size]; exact h2) rfl rfl hdg fun H1 e z oq => ?_
  exact kk H1 _ ⟨hI.1.set (x := .inl (0, n, .inl (upd f i.toNatClampNeg x))) h1 z (za_upd e) oq, hI.2.put z oq hA1⟩
theorem za_zast (hx : p.tables.exec = Jvm.exec) (hb : c.code = cc) (hK : za_K D ca s) (hI : za_I D ca n0 s σ H locs) {i x : Int32} (hg : za_st σ a 1 i (vp_nar .boolean x) = some σ1) (hdg : decode cc pc = .ok (.bastore, 1))
    (kk : ∀ (H1 : Heap) (locs1 : List Loc), za_I D ca n0 s σ1 H1 locs1 → W p l e R s m args below meth c H1 locs1 cells slots Q (F0 m (pc + 1) ls rest)) : W p l e R s m args below meth c H locs cells slots Q (F0 m pc ls (.int x :: .int i :: .ref a :: rest)) := by
  obtain ⟨n, f, h1, h2, rfl⟩ := za_st_s hg
  obtain ⟨hA1, hat⟩ := hI.1.2.2 a _ h1
  refine W.zast hx hb hat ((hK.1.2 1 _ (za_T_at rfl)).1 n (fun j => .int (f j))) (fun q => by cases q) (by show ¬ (i < 0 ∨ (arrV _ _ _).slots.size ≤ _); rw [arrV_size]; exact h2) rfl rfl hdg fun H1 e z oq => ?_
  refine kk H1 _ ⟨hI.1.set (x := .inl (1, n, .inl (upd f i.toNatClampNeg (vp_nar .boolean x)))) h1 z (za_upd (x := vp_nar .boolean x) ?_) oq, hI.2.put z oq hA1⟩
  exact e
theorem za_aald (hx : p.tables.exec = Jvm.exec) (hb : c.code = cc) (hK : za_K D ca s) (hI : za_I D ca n0 s σ H locs) {t : Nat} {C : String} (htt : za_tys[t]? = some (.object C)) {i : Int32} {x : Option Nat} (hg : za_lq σ a t i = some x) (hdg : decode cc pc = .ok (.aaload, 1))
    (kk : W p l e R s m args below meth c H locs cells slots Q (F0 m (pc + 1) ls (va_rf x :: rest))) : W p l e R s m args below meth c H locs cells slots Q (F0 m pc ls (.int i :: .ref a :: rest)) := by
  obtain ⟨n, f, h1, h2, rfl⟩ := za_lq_s hg
  exact va_aldq hx hb hK.1 (hI.1.P h1) 0 t rfl (za_T_at htt) h2 hdg kk
theorem za_aaln (hx : p.tables.exec = Jvm.exec) (hb : c.code = cc) (hK : za_K D ca s) (hI : za_I D ca n0 s σ H locs) {t : Nat} {C : String} (htt : za_tys[t]? = some (.object C)) {i : Int32} {x : Nat} (hg : za_ln σ a t i = some x) (hdg : decode cc pc = .ok (.aaload, 1))
    (kk : W p l e R s m args below meth c H locs cells slots Q (F0 m (pc + 1) ls (.ref x :: rest))) : W p l e R s m args below meth c H locs cells slots Q (F0 m pc ls (.int i :: .ref a :: rest)) := za_aald hx hb hK hI htt (za_ln_s hg) hdg kk
theorem za_upq {cA : ClassId} {n i : Nat} {f : Nat → Option Nat} {o : Option Nat} {H1 : Heap} {a : Nat} (e : H1[a]? = some ((arrV cA n (fun j => va_rf (f j))).setSlot i (va_rf o))) : H1[a]? = some (vp_cell cA (n, .inr (.inr (.inr (.inr (va_up f i o)))))) := by
  rw [e, vp_cell_q, arrV_store]
  congr 2
  funext q
  by_cases hq : q = i
  · subst hq
    simp [updV, va_up]
  · simp [updV, va_up, hq]
theorem za_aast (hx : p.tables.exec = Jvm.exec) (hb : c.code = cc) (hK : za_K D ca s) (hI : za_I D ca n0 s σ H locs) {t ci : Nat} {C : String} (htt : za_tys[t]? = some (.object C)) (hci : ∃ (T : u_T) (N : Nat), vwCl[ci]? = some (C, T, N)) {i : Int32} {o : Option Nat} (hg : za_sq σ a t ci i o = some σ1) (hdg : decode cc pc = .ok (.aastore, 1))
    (kk : ∀ (H1 : Heap) (locs1 : List Loc), za_I D ca n0 s σ1 H1 locs1 → W p l e R s m args below meth c H1 locs1 cells slots Q (F0 m (pc + 1) ls rest)) : W p l e R s m args below meth c H locs cells slots Q (F0 m pc ls (va_rf o :: .int i :: .ref a :: rest)) := by
  obtain ⟨n, f, h1, h2, h3, rfl⟩ := za_sq_s hg
  obtain ⟨hA1, hat⟩ := hI.1.2.2 a _ h1
  cases o with
  | none =>
    refine va_WaastN (C := C) hx hb hat ((hK.1.2 t _ (za_T_at htt)).1 n (fun j => va_rf (f j))) (fun h => by cases h) (by show ¬ (i < 0 ∨ (arrV _ _ _).slots.size ≤ _); rw [arrV_size]; exact h2) rfl rfl hdg fun H1 e z oq => ?_
    exact kk H1 _ ⟨hI.1.set (x := .inl (t, n, .inr (va_up f i.toNatClampNeg none))) h1 z (za_upq (o := none) e) oq, hI.2.put z oq hA1⟩
  | some v =>
    obtain ⟨fs, hv⟩ := h3 v rfl
    obtain ⟨T, N, hci⟩ := hci
    have hlt : i.toNatClampNeg < n := Nat.not_le.mp fun q => h2 (Or.inr q)
    have h0 : ¬ i < 0 := fun q => h2 (Or.inl q)
    obtain ⟨r', hr', cellV, g1, g2, g3, -⟩ := (hI.1.2.2 v _ hv).2
    have hcls := (hK.1.1 ci _ hci).2
    obtain ⟨kA, comp, k1, k2, k3, -⟩ := (hK.1.2 t _ (za_T_at htt)).2
    have hcomp : comp = D.1 ci := Option.some.inj (k3.symm.trans hcls.1)
    subst hcomp
    obtain ⟨kC, hkC, -⟩ := hcls.2
    refine W.aast hx hb hat (fun q h => by cases h) (fun h => by cases h) k1 k2 rfl hkC ⟨h0, by show _ < (arrV _ _ _).slots.size; rw [arrV_size]; exact hlt⟩ g1 (fun q h => by rw [g3] at h; cases h) (by rw [g2]; exact hkC) (by rw [g2]; exact va_assign hcls) rfl rfl hdg fun H1 e z oq => ?_
    exact kk H1 _ ⟨hI.1.set (x := .inl (t, n, .inr (va_up f i.toNatClampNeg (some v)))) h1 z (za_upq (o := some v) e) oq, hI.2.put z oq hA1⟩
/-- a reference that may be null, from and to a local -/
theorem za_aload_n (hx : p.tables.exec = Jvm.exec) (hb : c.code = cc) {k : Fin 4} {i : Nat} {o : Option Nat} (hdg : decode cc pc = .ok (.aload_n k, 1)) (hi : (k : Nat) = i) (hl : ls[i]? = some (.val (va_rf o)))
    (kk : W p l e R s m args below meth c H locs cells slots Q (F0 m (pc + 1) ls (va_rf o :: rest))) : W p l e R s m args below meth c H locs cells slots Q (F0 m pc ls rest) := by
  cases o with
  | none => exact lv_aload_nN hx hb hdg hi hl kk
  | some x => exact lv_aload_n hx hb hdg hi hl kk
theorem za_aload (hx : p.tables.exec = Jvm.exec) (hb : c.code = cc) {i : Nat} {o : Option Nat} (hdg : decode cc pc = .ok (.aload i, 2)) (hl : ls[i]? = some (.val (va_rf o)))
    (kk : W p l e R s m args below meth c H locs cells slots Q (F0 m (pc + 2) ls (va_rf o :: rest))) : W p l e R s m args below meth c H locs cells slots Q (F0 m pc ls rest) := by
  cases o with
  | none => exact lv_aloadN hx hb hdg hl kk
  | some x => exact lv_aload hx hb hdg hl kk
theorem za_astore_n (hx : p.tables.exec = Jvm.exec) (hb : c.code = cc) {k : Fin 4} {i nL : Nat} {o : Option Nat} {lv lv' : List (Nat × Value)} (hdg : decode cc pc = .ok (.astore_n k, 1)) (hi : (k : Nat) = i) (h : lv_has ls nL lv) (hn : i < nL) (hl : (i, va_rf o) :: lv.filter (fun q => !(q.1 == i) && !(q.1 + 1 == i && q.2.category == 2)) = lv')
    (kk : ∀ ls' : Array Slot, lv_has ls' nL lv' → W p l e R s m args below meth c H locs cells slots Q (F0 m (pc + 1) ls' rest)) : W p l e R s m args below meth c H locs cells slots Q (F0 m pc ls (va_rf o :: rest)) := by
  cases o with
  | none => exact lv_astore_nN hx hb hdg hi h hn hl kk
  | some x => exact lv_astore_n hx hb hdg hi h hn hl kk
theorem za_astore (hx : p.tables.exec = Jvm.exec) (hb : c.code = cc) {i nL : Nat} {o : Option Nat} {lv lv' : List (Nat × Value)} (hdg : decode cc pc = .ok (.astore i, 2)) (h : lv_has ls nL lv) (hn : i < nL) (hl : (i, va_rf o) :: lv.filter (fun q => !(q.1 == i) && !(q.1 + 1 == i && q.2.category == 2)) = lv')
    (kk : ∀ ls' : Array Slot, lv_has ls' nL lv' → W p l e R s m args below meth c H locs cells slots Q (F0 m (pc + 2) ls' rest)) : W p l e R s m args below meth c H locs cells slots Q (F0 m pc ls (va_rf o :: rest)) := by
  cases o with
  | none => exact lv_astoreN hx hb hdg h hn hl kk
  | some x => exact lv_astore hx hb hdg h hn hl kk
theorem za_ifnull (hx : p.tables.exec = Jvm.exec) (hb : c.code = cc) {o : Option Nat} {off : Int} {tgt : Nat} (hdg : decode cc pc = .ok (.ifnull off, 3)) (ht : (pc : Int) + off = (tgt : Int))
    (kt : o = none → W p l e R s m args below meth c H locs cells slots Q (F0 m tgt ls rest)) (kf : ∀ x, o = some x → W p l e R s m args below meth c H locs cells slots Q (F0 m (pc + 3) ls rest)) : W p l e R s m args below meth c H locs cells slots Q (F0 m pc ls (va_rf o :: rest)) := by
  cases o with
  | none => exact lv_ifnullN hx hb hdg ht (kt rfl)
  | some x => exact lv_ifnull hx hb hdg (kf x rfl)
theorem za_ifnonnull (hx : p.tables.exec = Jvm.exec) (hb : c.code = cc) {o : Option Nat} {off : Int} {tgt : Nat} (hdg : decode cc pc = .ok (.ifnonnull off, 3)) (ht : (pc : Int) + off = (tgt : Int))
    (kt : ∀ x, o = some x → W p l e R s m args below meth c H locs cells slots Q (F0 m tgt ls rest)) (kf : o = none → W p l e R s m args below meth c H locs cells slots Q (F0 m (pc + 3) ls rest)) : W p l e R s m args below meth c H locs cells slots Q (F0 m pc ls (va_rf o :: rest)) := by
  cases o with
  | none => exact lv_ifnonnullN hx hb hdg (kf rfl)
  | some x => exact lv_ifnonnull hx hb hdg ht (kt x rfl)
/-- ends -/
theorem za_iret {r v : Int32} {mc ms : Nat} {σ' : za_h} (hx : p.tables.exec = Jvm.exec) (hb : c.code = cc) (hr : meth.sig.returnType = some .int) (hlk : meth.locks = false) (hI : za_I D ca n0 s σ H locs) (h : some (v, σ) = some (r, σ')) (hc : cells ≤ mc) (hs : slots ≤ ms) (hdg : decode cc pc = .ok (.ireturn, 1)) : W p l e R s m args below meth c H locs cells slots (MQ below (za_Qi D ca n0 r σ') args s mc ms (za_A n0)) (F0 m pc ls [.int v]) := by
  cases h
  refine W.widen hc hs (W.iret hx hb hr (fun t ht hW => ⟨⟨_, (), rfl, rfl, ?_⟩, hI.2.F ht⟩) hI.2.2.2 hdg hlk)
  show za_R D ca n0 _ t.heap
  rw [ht]; exact hI.1
theorem za_zret {r v : Int32} {mc ms : Nat} {σ' : za_h} (hx : p.tables.exec = Jvm.exec) (hb : c.code = cc) (hr : meth.sig.returnType = some .boolean) (hlk : meth.locks = false) (hI : za_I D ca n0 s σ H locs) (hv : v = 0 ∨ v = 1) (h : some (v, σ) = some (r, σ')) (hc : cells ≤ mc) (hs : slots ≤ ms) (hdg : decode cc pc = .ok (.ireturn, 1)) : W p l e R s m args below meth c H locs cells slots (MQ below (za_Qi D ca n0 r σ') args s mc ms (za_A n0)) (F0 m pc ls [.int v]) := by
  cases h
  refine W.widen hc hs (W.zret hx hb hr (by rcases hv with rfl | rfl <;> decide +kernel) (fun t ht hW => ⟨⟨_, (), rfl, rfl, ?_⟩, hI.2.F ht⟩) hI.2.2.2 hdg hlk)
  show za_R D ca n0 _ t.heap
  rw [ht]; exact hI.1
theorem za_vret {r : Unit} {mc ms : Nat} {σ' : za_h} (hx : p.tables.exec = Jvm.exec) (hb : c.code = cc) (hr : meth.sig.returnType = none) (hlk : meth.locks = false) (hI : za_I D ca n0 s σ H locs) (h : some ((), σ) = some (r, σ')) (hc : cells ≤ mc) (hs : slots ≤ ms) (hdg : decode cc pc = .ok (.return_, 1)) : W p l e R s m args below meth c H locs cells slots (MQ below (za_Qv D ca n0 r σ') args s mc ms (za_A n0)) (F0 m pc ls []) := by
  cases h
  refine W.widen hc hs (W.vret hx hb hr (fun t ht hW => ⟨⟨(), rfl, trivial, ?_⟩, hI.2.F ht⟩) hI.2.2.2 hdg hlk)
  show za_R D ca n0 _ t.heap
  rw [ht]; exact hI.1
theorem za_aret {r v : Nat} {mc ms : Nat} {σ' : za_h} {rt : FieldType} (hx : p.tables.exec = Jvm.exec) (hb : c.code = cc) (hr : meth.sig.returnType = some rt) (hrt : (∃ n, rt = .object n) ∨ ∃ t, rt = .array t) (hlk : meth.locks = false) (hI : za_I D ca n0 s σ H locs) (h : some (v, σ) = some (r, σ')) (hc : cells ≤ mc) (hs : slots ≤ ms) (hdg : decode cc pc = .ok (.areturn, 1)) : W p l e R s m args below meth c H locs cells slots (MQ below (za_Qr D ca n0 r σ') args s mc ms (za_A n0)) (F0 m pc ls [.ref v]) := by
  cases h
  refine W.widen hc hs (W.aret hx hb hr hrt (Or.inr ⟨_, rfl⟩) (fun t ht hW => ⟨⟨(), _, rfl, trivial, rfl, ?_⟩, hI.2.F ht⟩) hI.2.2.2 hdg hlk)
  show za_R D ca n0 _ t.heap
  rw [ht]; exact hI.1
/-- calls -/
theorem za_blind {As : List Value} : FrameBlind (za_Pc D ca n0 As σ) := by
  intro x U g mk h
  exact ⟨h.1, h.2.1, h.2.2.same rfl⟩
theorem za_runV {y : MethodName} {bytes : ByteArray} {maxL nL mc ms n index ci b : Nat} {ret : Option FieldType} {rm : Room} {Qc : Array Value → State → Outcome → State → Prop} {As : List Value} {st0 : List Value} (hx : p.tables.exec = Jvm.exec) (hb : c.code = cc) (hml : c.maxLocals = nL) (hown : s.vm.findClass own = some m.cls) (hts : ∀ w ∈ za_ws, w.before args s = true) (hK : za_K D ca s) (hI : za_I D ca n0 s σ H locs) (hg : zg_c σ b ci = some ())
    (hM : Met l y (za_wy y bytes maxL ret) rm (za_Pc D ca n0 (.ref b :: As) σ) Qc mc ms (za_A n0)) (md : za_mV own index y bytes maxL ret n ci) (hrm : rm.cells = mc ∧ rm.slots = ms) (hR : rm.frames + 1 ≤ R.frames ∧ 8 + (maxL + 11) + rm.locals ≤ R.locals) (hn : As.length = n) (hsize : ls.size = nL) (hst : st0 = As.reverse ++ .ref b :: rest) (hW : (rest.map fun v => v.category).sum ≤ 8) (hdg : decode cc pc = .ok (.invokevirtual index, 3)) (hf : cells + mc ≤ R.cells ∧ slots + ms ≤ R.slots) :
    va_Run p l e R s m args below meth c H locs cells slots mc ms (F0 m pc ls st0) rest (Qc (Value.ref b :: As).toArray) (za_A n0) := by
  obtain ⟨⟨h1, h2, h3, h4⟩, h5, h6, T, N, hci⟩ := md
  obtain ⟨fs, hcell⟩ := zg_c_s hg
  have hrecv := va_recv (q0 := 0) (a := b) (fs := fs) hK.1 (hI.1.P hcell) hci rfl
  have hp : PreV s H y.cls b (za_Pc D ca n0 (.ref b :: As) σ) As := ⟨za_blind, hrecv, fun U hU hW => ⟨rfl, by rw [hU]; exact hI.1, hK.warm hW⟩⟩
  rcases h4 with h4 | ⟨host, h4⟩
  · exact va_runV ⟨hx, hb, hml, hown, hts⟩ hM ⟨callB_of n hts (za_good h1) rfl hrm.1 hrm.2 (hts _ h2) (hts _ h4) h3 hR, hts _ h5, hts _ h6⟩ hp rfl hn hsize hst (lv_room hW) hdg hf
  · exact va_runVN ⟨hx, hb, hml, hown, hts⟩ hM ⟨va_cnB n hts (za_good h1) rfl hrm.1 hrm.2 (hK.2.1 _ h4 rfl) (hts _ h2) h3 hR, hts _ h5, hts _ h6⟩ hp rfl hn hsize hst (lv_room hW) hdg hf
theorem za_runS {y : MethodName} {bytes : ByteArray} {maxL nL mc ms n index : Nat} {ret : Option FieldType} {rm : Room} {Qc : Array Value → State → Outcome → State → Prop} {As : List Value} {st0 : List Value} (hx : p.tables.exec = Jvm.exec) (hb : c.code = cc) (hml : c.maxLocals = nL) (hown : s.vm.findClass own = some m.cls) (hts : ∀ w ∈ za_ws, w.before args s = true) (hK : za_K D ca s) (hI : za_I D ca n0 s σ H locs)
    (hM : Met l y (za_wy y bytes maxL ret) rm (za_Pc D ca n0 As σ) Qc mc ms (za_A n0)) (md : za_mS own index y bytes maxL ret n) (hrm : rm.cells = mc ∧ rm.slots = ms) (hR : rm.frames + 1 ≤ R.frames ∧ 8 + (maxL + 11) + rm.locals ≤ R.locals) (hn : As.length = n) (hsize : ls.size = nL) (hst : st0 = As.reverse ++ rest) (hW : (rest.map fun v => v.category).sum ≤ 8) (hdg : decode cc pc = .ok (.invokestatic index, 3)) (hf : cells + mc ≤ R.cells ∧ slots + ms ≤ R.slots) :
    va_Run p l e R s m args below meth c H locs cells slots mc ms (F0 m pc ls st0) rest (Qc As.toArray) (za_A n0) := by
  obtain ⟨⟨h1, h2, h3, h4⟩, h5⟩ := md
  have hp : PreS s H (za_Pc D ca n0 As σ) As := ⟨za_blind, fun U hU hW => ⟨rfl, by rw [hU]; exact hI.1, hK.warm hW⟩⟩
  rcases h4 with h4 | ⟨host, h4⟩
  · exact va_runS ⟨hx, hb, hml, hown, hts⟩ hM ⟨callB_of n hts (za_good h1) rfl hrm.1 hrm.2 (hts _ h2) (hts _ h4) h3 hR, hts _ h5⟩ hp rfl hn hsize hst (lv_room hW) hdg hf
  · exact va_runSN ⟨hx, hb, hml, hown, hts⟩ hM ⟨va_cnB n hts (za_good h1) rfl hrm.1 hrm.2 (hK.2.1 _ h4 rfl) (hts _ h2) h3 hR, hts _ h5, trivial⟩ hp rfl hn hsize hst (lv_room hW) hdg hf
theorem za_runI {y : MethodName} {bytes : ByteArray} {maxL nL mc ms n index b : Nat} {rm : Room} {Qc : Array Value → State → Outcome → State → Prop} {As : List Value} {st0 : List Value} (hx : p.tables.exec = Jvm.exec) (hb : c.code = cc) (hml : c.maxLocals = nL) (hown : s.vm.findClass own = some m.cls) (hts : ∀ w ∈ za_ws, w.before args s = true) (hK : za_K D ca s) (hI : za_I D ca n0 s σ H locs)
    (hM : Met l y (za_wy y bytes maxL none) rm (za_Pc D ca n0 (.ref b :: As) σ) Qc mc ms (za_A n0)) (md : za_mI own index y bytes maxL n) (hrm : rm.cells = mc ∧ rm.slots = ms) (hR : rm.frames + 1 ≤ R.frames ∧ 8 + (maxL + 11) + rm.locals ≤ R.locals) (hn : As.length = n) (hsize : ls.size = nL) (hst : st0 = As.reverse ++ .ref b :: rest) (hW : (rest.map fun v => v.category).sum ≤ 8) (hdg : decode cc pc = .ok (.invokespecial index, 3)) (hf : cells + mc ≤ R.cells ∧ slots + ms ≤ R.slots) :
    va_Run p l e R s m args below meth c H locs cells slots mc ms (F0 m pc ls st0) rest (Qc (Value.ref b :: As).toArray) (za_A n0) := by
  obtain ⟨⟨h1, h2, h3, h4⟩, h5, h6⟩ := md
  have hp : PreS s H (za_Pc D ca n0 (.ref b :: As) σ) (.ref b :: As) := ⟨za_blind, fun U hU hW => ⟨rfl, by rw [hU]; exact hI.1, hK.warm hW⟩⟩
  rcases h4 with h4 | ⟨host, h4⟩
  · exact va_runI ⟨hx, hb, hml, hown, hts⟩ hM ⟨callB_of n hts (za_good h1) rfl hrm.1 hrm.2 (hts _ h2) (hts _ h4) h3 hR, h5, hts _ h6⟩ hp rfl hn hsize hst (lv_room hW) hdg hf
  · exact va_runIN ⟨hx, hb, hml, hown, hts⟩ hM ⟨va_cnB n hts (za_good h1) rfl hrm.1 hrm.2 (hK.2.1 _ h4 rfl) (hts _ h2) h3 hR, h5, hts _ h6⟩ hp rfl hn hsize hst (lv_room hW) hdg hf
theorem za_calli {r : Int32} {mc ms : Nat} {av : Array Value} {st0 : List Value} (hr : va_Run p l e R s m args below meth c H locs cells slots mc ms (F0 m pc ls st0) rest (za_Qi D ca n0 r σ1 av) (za_A n0)) (hI : za_I D ca n0 s σ H locs)
    (kk : ∀ (H1 : Heap) (locs1 : List Loc), za_I D ca n0 s σ1 H1 locs1 → W p l e R s m args below meth c H1 locs1 (cells + mc) (slots + ms) Q (F0 m (pc + 3) ls (.int r :: rest))) : W p l e R s m args below meth c H locs cells slots Q (F0 m pc ls st0) :=
  va_calli hr hI.2 (fun _ _ h => h) (fun _ h => h) (fun r' u t H1 locs1 ht _ hp hB _ _ hS => by
    have hp' : r' = r := hp
    subst hp'
    have hB' : za_R D ca n0 σ1 t.heap := hB
    rw [ht] at hB'
    exact kk H1 locs1 ⟨hB', hS⟩)
theorem za_callv {r : Unit} {mc ms : Nat} {av : Array Value} {st0 : List Value} (hr : va_Run p l e R s m args below meth c H locs cells slots mc ms (F0 m pc ls st0) rest (za_Qv D ca n0 r σ1 av) (za_A n0)) (hI : za_I D ca n0 s σ H locs)
    (kk : ∀ (H1 : Heap) (locs1 : List Loc), za_I D ca n0 s σ1 H1 locs1 → W p l e R s m args below meth c H1 locs1 (cells + mc) (slots + ms) Q (F0 m (pc + 3) ls rest)) : W p l e R s m args below meth c H locs cells slots Q (F0 m pc ls st0) :=
  va_callv hr hI.2 (fun _ _ h => h) (fun _ h => h) (fun u t H1 locs1 ht _ _ hB _ _ hS => by
    have hB' : za_R D ca n0 σ1 t.heap := hB
    rw [ht] at hB'
    exact kk H1 locs1 ⟨hB', hS⟩)
theorem za_callr {r : Nat} {mc ms : Nat} {av : Array Value} {st0 : List Value} (hr : va_Run p l e R s m args below meth c H locs cells slots mc ms (F0 m pc ls st0) rest (za_Qr D ca n0 r σ1 av) (za_A n0)) (hI : za_I D ca n0 s σ H locs)
    (kk : ∀ (H1 : Heap) (locs1 : List Loc), za_I D ca n0 s σ1 H1 locs1 → W p l e R s m args below meth c H1 locs1 (cells + mc) (slots + ms) Q (F0 m (pc + 3) ls (.ref r :: rest))) : W p l e R s m args below meth c H locs cells slots Q (F0 m pc ls st0) :=
  va_callr hr hI.2 (fun _ _ h => h) (fun _ h => h) (fun u ra t H1 locs1 ht _ _ hB _ _ hS => by
    obtain ⟨rfl, hB'⟩ : ra = r ∧ za_R D ca n0 σ1 t.heap := hB
    rw [ht] at hB'
    exact kk H1 locs1 ⟨hB', hS⟩)
end ZA
/-- a method's contract out of the walk of its body -/
theorem za_met {l : Launch} {y : MethodName} {bytes : ByteArray} {maxL mc ms n0 : Nat} {ret : Option FieldType} {rm : Room} {D : va_G} {ca : Nat → ClassId} {Qc : Array Value → State → Outcome → State → Prop} {As : List Value} {σ : za_h} (hy : plainName y.cls = true) (hlen : (lg_sl As).length ≤ maxL)
    (body : ∀ (p : Program) (e : Env) (s : State) (m : MethodId) (below : List Frame) (meth : Method) (c : Code) (ls : Array Slot), p.tables.exec = Jvm.exec → c.code = bytes → c.maxLocals = maxL → meth.sig.returnType = ret → meth.locks = false → (∀ w ∈ za_ws, w.before As.toArray s = true) → s.vm.findClass y.cls = some m.cls → meth.name = y.name → za_K D ca s → za_I D ca n0 s σ s.heap [] → lv_has ls maxL (lv_args 0 As) →
      W p l e rm s m As.toArray below meth c s.heap [] 0 0 (MQ below Qc As.toArray s mc ms (za_A n0)) (F0 m 0 ls [])) : Met l y (za_wy y bytes maxL ret) rm (za_Pc D ca n0 As σ) Qc mc ms (za_A n0) := by
  refine Met.ofW (cc := bytes) (maxL := maxL) (ret := ret) hy rfl ?_
  intro p e s m args below meth c s₁ B hml hv
  obtain ⟨rfl, hR0, hK⟩ := hv
  have hts := atoms_spec (ws := za_wy y bytes maxL ret) B.pre
  have hl := lv_entry As (n := maxL) hlen
  rw [lg_entry_eq]
  exact body p e s m below meth c _ B.exec B.bytes hml B.returns B.notSynchronized (fun w hw => hts w (List.mem_cons_of_mem _ hw)) (findClass_of_methodNamed B.named) (name_of_methodNamed B.named B.method).1 hK ⟨hR0, va_S.rf⟩ hl
end
section
/-! Words of the tables, and what an instruction needs of them; laid by program. -/
theorem goodIn_zi {ws : List Cond} (h : (ws.all fun w => decide (w ∈ tables_1)) = true) (hg : ws.all goodWord = true) : ∀ w ∈ ws, w ∈ za_ws := fun w hw => za_ws_in (List.mem_append_right _ (of_decide_eq_true (List.all_eq_true.mp h w hw))) (List.all_eq_true.mp hg w hw)
theorem zk_1 : Cond.initialized "TrustLedger" ∈ za_ws := za_ws_in (List.mem_append_right _ (List.mem_of_getElem? (i := 1) (by decide +kernel))) rfl
theorem zk_10 : Cond.initialized "java/lang/Integer" ∈ za_ws := za_ws_in (List.mem_append_right _ (List.mem_of_getElem? (i := 10) (by decide +kernel))) rfl
theorem zk_101 : Cond.arrayClass Jvm.ClassFile.FieldType.int ∈ za_ws := za_ws_in (List.mem_append_right _ (List.mem_of_getElem? (i := 101) (by decide +kernel))) rfl
theorem zk_102 : Cond.fieldLink "TrustLedger$Agreement" 9 "TrustLedger$Agreement" "self" "I" ∈ za_ws := za_ws_in (List.mem_append_right _ (List.mem_of_getElem? (i := 102) (by decide +kernel))) rfl
theorem zk_103 : Cond.fieldLink "TrustLedger$Agreement" 15 "TrustLedger$Agreement" "slot" "I" ∈ za_ws := za_ws_in (List.mem_append_right _ (List.mem_of_getElem? (i := 103) (by decide +kernel))) rfl
theorem zk_104 : Cond.fieldLink "TrustLedger$Agreement" 24 "TrustLedger$Agreement" "trusted" "LTrustLedger$Trust;" ∈ za_ws := za_ws_in (List.mem_append_right _ (List.mem_of_getElem? (i := 104) (by decide +kernel))) rfl
theorem zk_105 : Cond.fieldLink "TrustLedger$Agreement" 33 "TrustLedger$Agreement" "nominate" "LTrustLedger$Statements;" ∈ za_ws := za_ws_in (List.mem_append_right _ (List.mem_of_getElem? (i := 105) (by decide +kernel))) rfl
theorem zk_106 : Cond.fieldLink "TrustLedger$Agreement" 37 "TrustLedger$Agreement" "prepare" "LTrustLedger$Statements;" ∈ za_ws := za_ws_in (List.mem_append_right _ (List.mem_of_getElem? (i := 106) (by decide +kernel))) rfl
theorem zk_107 : Cond.fieldLink "TrustLedger$Agreement" 40 "TrustLedger$Agreement" "commit" "LTrustLedger$Statements;" ∈ za_ws := za_ws_in (List.mem_append_right _ (List.mem_of_getElem? (i := 107) (by decide +kernel))) rfl
theorem zk_108 : Cond.fieldLink "TrustLedger$Agreement" 56 "TrustLedger$Agreement" "proposal" "I" ∈ za_ws := za_ws_in (List.mem_append_right _ (List.mem_of_getElem? (i := 108) (by decide +kernel))) rfl
theorem zk_11 : Cond.initialized "TrustLedger$Offer" ∈ za_ws := za_ws_in (List.mem_append_right _ (List.mem_of_getElem? (i := 11) (by decide +kernel))) rfl
theorem zk_110 : Cond.fieldLink "TrustLedger$Agreement" 43 "TrustLedger$Agreement" "round" "I" ∈ za_ws := za_ws_in (List.mem_append_right _ (List.mem_of_getElem? (i := 110) (by decide +kernel))) rfl
theorem zk_112 : Cond.fieldLink "TrustLedger$Agreement" 46 "TrustLedger$Agreement" "leaders" "I" ∈ za_ws := za_ws_in (List.mem_append_right _ (List.mem_of_getElem? (i := 112) (by decide +kernel))) rfl
theorem zk_113 : Cond.fieldLink "TrustLedger$Agreement" 49 "TrustLedger$Agreement" "counter" "I" ∈ za_ws := za_ws_in (List.mem_append_right _ (List.mem_of_getElem? (i := 113) (by decide +kernel))) rfl
theorem zk_115 : Cond.fieldLink "TrustLedger$Agreement" 83 "TrustLedger$Agreement" "outcome" "I" ∈ za_ws := za_ws_in (List.mem_append_right _ (List.mem_of_getElem? (i := 115) (by decide +kernel))) rfl
theorem zk_12 : Cond.initialized "java/lang/Math" ∈ za_ws := za_ws_in (List.mem_append_right _ (List.mem_of_getElem? (i := 12) (by decide +kernel))) rfl
theorem zk_13 : Cond.initialized "TrustLedger$Envelope" ∈ za_ws := za_ws_in (List.mem_append_right _ (List.mem_of_getElem? (i := 13) (by decide +kernel))) rfl
theorem zk_139 : Cond.classLink "TrustLedger$Node" 20 "TrustLedger$Ledger" ∈ za_ws := za_ws_in (List.mem_append_right _ (List.mem_of_getElem? (i := 139) (by decide +kernel))) rfl
theorem zk_140 : Cond.instantiable "TrustLedger$Ledger" 4 ∈ za_ws := za_ws_in (List.mem_append_right _ (List.mem_of_getElem? (i := 140) (by decide +kernel))) rfl
theorem zk_141 : Cond.methodLink "TrustLedger$Node" 22 zy_Ledger_init ∈ za_ws := za_ws_in (List.mem_append_right _ (List.mem_of_getElem? (i := 141) (by decide +kernel))) rfl
theorem zk_142 : Cond.instanceMethod zy_Ledger_init ∈ za_ws := za_ws_in (List.mem_append_right _ (List.mem_of_getElem? (i := 142) (by decide +kernel))) rfl
theorem zk_143 : Cond.code zy_Ledger_init prog_4_method_1_code 2 (Option.none : Option Jvm.ClassFile.FieldType) ∈ za_ws := za_ws_in (List.mem_append_right _ (List.mem_of_getElem? (i := 143) (by decide +kernel))) rfl
theorem zk_144 : Cond.methodLink "TrustLedger$Ledger" 3 (⟨"java/lang/Object", "<init>", "()V"⟩ : MethodName) ∈ za_ws := za_ws_in (List.mem_append_right _ (List.mem_of_getElem? (i := 144) (by decide +kernel))) rfl
theorem zk_145 : Cond.classLink "TrustLedger$Ledger" 18 "TrustLedger$Offer" ∈ za_ws := za_ws_in (List.mem_append_right _ (List.mem_of_getElem? (i := 145) (by decide +kernel))) rfl
theorem zk_147 : Cond.fieldLink "TrustLedger$Ledger" 9 "TrustLedger$Ledger" "coins" "[I" ∈ za_ws := za_ws_in (List.mem_append_right _ (List.mem_of_getElem? (i := 147) (by decide +kernel))) rfl
theorem zk_148 : Cond.fieldLink "TrustLedger$Ledger" 15 "TrustLedger$Ledger" "shares" "[I" ∈ za_ws := za_ws_in (List.mem_append_right _ (List.mem_of_getElem? (i := 148) (by decide +kernel))) rfl
theorem zk_149 : Cond.fieldLink "TrustLedger$Ledger" 20 "TrustLedger$Ledger" "book" "[LTrustLedger$Offer;" ∈ za_ws := za_ws_in (List.mem_append_right _ (List.mem_of_getElem? (i := 149) (by decide +kernel))) rfl
theorem zk_151 : Cond.fieldLink "TrustLedger$Ledger" 66 "TrustLedger$Ledger" "resting" "I" ∈ za_ws := za_ws_in (List.mem_append_right _ (List.mem_of_getElem? (i := 151) (by decide +kernel))) rfl
theorem zk_161 : Cond.fieldLink "TrustLedger$Node" 11 "TrustLedger$Node" "agreements" "[LTrustLedger$Agreement;" ∈ za_ws := za_ws_in (List.mem_append_right _ (List.mem_of_getElem? (i := 161) (by decide +kernel))) rfl
theorem zk_163 : Cond.fieldLink "TrustLedger$Node" 23 "TrustLedger$Node" "ledger" "LTrustLedger$Ledger;" ∈ za_ws := za_ws_in (List.mem_append_right _ (List.mem_of_getElem? (i := 163) (by decide +kernel))) rfl
theorem zk_176 : Cond.classLink "TrustLedger" 29 "TrustLedger$Transaction" ∈ za_ws := za_ws_in (List.mem_append_right _ (List.mem_of_getElem? (i := 176) (by decide +kernel))) rfl
theorem zk_178 : Cond.classLink "TrustLedger" 35 "TrustLedger$Envelope" ∈ za_ws := za_ws_in (List.mem_append_right _ (List.mem_of_getElem? (i := 178) (by decide +kernel))) rfl
theorem zk_180 : Cond.fieldLink "TrustLedger" 9 "TrustLedger" "faulty" "I" ∈ za_ws := za_ws_in (List.mem_append_right _ (List.mem_of_getElem? (i := 180) (by decide +kernel))) rfl
theorem zk_181 : Cond.fieldLink "TrustLedger" 16 "TrustLedger" "quorums" "LTrustLedger$Quorums;" ∈ za_ws := za_ws_in (List.mem_append_right _ (List.mem_of_getElem? (i := 181) (by decide +kernel))) rfl
theorem zk_182 : Cond.fieldLink "TrustLedger" 22 "TrustLedger" "nodes" "[LTrustLedger$Node;" ∈ za_ws := za_ws_in (List.mem_append_right _ (List.mem_of_getElem? (i := 182) (by decide +kernel))) rfl
theorem zk_183 : Cond.fieldLink "TrustLedger" 31 "TrustLedger" "transactions" "[LTrustLedger$Transaction;" ∈ za_ws := za_ws_in (List.mem_append_right _ (List.mem_of_getElem? (i := 183) (by decide +kernel))) rfl
theorem zk_184 : Cond.fieldLink "TrustLedger" 37 "TrustLedger" "mail" "[LTrustLedger$Envelope;" ∈ za_ws := za_ws_in (List.mem_append_right _ (List.mem_of_getElem? (i := 184) (by decide +kernel))) rfl
theorem zk_185 : Cond.fieldLink "TrustLedger" 110 "TrustLedger" "mailed" "I" ∈ za_ws := za_ws_in (List.mem_append_right _ (List.mem_of_getElem? (i := 185) (by decide +kernel))) rfl
theorem zk_186 : Cond.fieldLink "TrustLedger" 45 "TrustLedger" "begun" "Z" ∈ za_ws := za_ws_in (List.mem_append_right _ (List.mem_of_getElem? (i := 186) (by decide +kernel))) rfl
theorem zk_19 : Cond.methodLink "TrustLedger" 3 (⟨"java/lang/Object", "<init>", "()V"⟩ : MethodName) ∈ za_ws := za_ws_in (List.mem_append_right _ (List.mem_of_getElem? (i := 19) (by decide +kernel))) rfl
theorem zk_2 : Cond.initialized "TrustLedger$Quorums" ∈ za_ws := za_ws_in (List.mem_append_right _ (List.mem_of_getElem? (i := 2) (by decide +kernel))) rfl
theorem zk_20 : Cond.instanceMethod (⟨"java/lang/Object", "<init>", "()V"⟩ : MethodName) ∈ za_ws := za_ws_in (List.mem_append_right _ (List.mem_of_getElem? (i := 20) (by decide +kernel))) rfl
theorem zk_206 : Cond.methodLink "TrustLedger" 41 zy_TL_isWithin ∈ za_ws := za_ws_in (List.mem_append_right _ (List.mem_of_getElem? (i := 206) (by decide +kernel))) rfl
theorem zk_207 : Cond.static zy_TL_isWithin ∈ za_ws := za_ws_in (List.mem_append_right _ (List.mem_of_getElem? (i := 207) (by decide +kernel))) rfl
theorem zk_208 : Cond.code zy_TL_isWithin prog_1_method_16_code 3 (Option.some Jvm.ClassFile.FieldType.boolean) ∈ za_ws := za_ws_in (List.mem_append_right _ (List.mem_of_getElem? (i := 208) (by decide +kernel))) rfl
theorem zk_209 : Cond.methodLink "TrustLedger" 53 zy_Trust_become ∈ za_ws := za_ws_in (List.mem_append_right _ (List.mem_of_getElem? (i := 209) (by decide +kernel))) rfl
theorem zk_21 : Cond.code (⟨"java/lang/Object", "<init>", "()V"⟩ : MethodName) object_method_1_code 1 (Option.none : Option Jvm.ClassFile.FieldType) ∈ za_ws := za_ws_in (List.mem_append_right _ (List.mem_of_getElem? (i := 21) (by decide +kernel))) rfl
theorem zk_210 : Cond.instanceMethod zy_Trust_become ∈ za_ws := za_ws_in (List.mem_append_right _ (List.mem_of_getElem? (i := 210) (by decide +kernel))) rfl
theorem zk_211 : Cond.selects "TrustLedger$Trust" zy_Trust_become zy_Trust_become ∈ za_ws := za_ws_in (List.mem_append_right _ (List.mem_of_getElem? (i := 211) (by decide +kernel))) rfl
theorem zk_212 : Cond.code zy_Trust_become prog_10_method_2_code 5 (Option.none : Option Jvm.ClassFile.FieldType) ∈ za_ws := za_ws_in (List.mem_append_right _ (List.mem_of_getElem? (i := 212) (by decide +kernel))) rfl
theorem zk_217 : Cond.methodLink "TrustLedger" 59 zy_TL_isSlot ∈ za_ws := za_ws_in (List.mem_append_right _ (List.mem_of_getElem? (i := 217) (by decide +kernel))) rfl
theorem zk_218 : Cond.static zy_TL_isSlot ∈ za_ws := za_ws_in (List.mem_append_right _ (List.mem_of_getElem? (i := 218) (by decide +kernel))) rfl
theorem zk_219 : Cond.code zy_TL_isSlot prog_1_method_18_code 1 (Option.some Jvm.ClassFile.FieldType.boolean) ∈ za_ws := za_ws_in (List.mem_append_right _ (List.mem_of_getElem? (i := 219) (by decide +kernel))) rfl
theorem zk_22 : Cond.classLink "TrustLedger" 13 "TrustLedger$Quorums" ∈ za_ws := za_ws_in (List.mem_append_right _ (List.mem_of_getElem? (i := 22) (by decide +kernel))) rfl
theorem zk_220 : Cond.methodLink "TrustLedger" 63 zy_TL_isAccount ∈ za_ws := za_ws_in (List.mem_append_right _ (List.mem_of_getElem? (i := 220) (by decide +kernel))) rfl
theorem zk_221 : Cond.static zy_TL_isAccount ∈ za_ws := za_ws_in (List.mem_append_right _ (List.mem_of_getElem? (i := 221) (by decide +kernel))) rfl
theorem zk_222 : Cond.code zy_TL_isAccount prog_1_method_19_code 1 (Option.some Jvm.ClassFile.FieldType.boolean) ∈ za_ws := za_ws_in (List.mem_append_right _ (List.mem_of_getElem? (i := 222) (by decide +kernel))) rfl
theorem zk_223 : Cond.methodLink "TrustLedger" 66 zy_TL_isLeft ∈ za_ws := za_ws_in (List.mem_append_right _ (List.mem_of_getElem? (i := 223) (by decide +kernel))) rfl
theorem zk_225 : Cond.instanceMethod zy_TL_isLeft ∈ za_ws := za_ws_in (List.mem_append_right _ (List.mem_of_getElem? (i := 225) (by decide +kernel))) rfl
theorem zk_226 : Cond.code zy_TL_isLeft prog_1_method_27_code 3 (Option.some Jvm.ClassFile.FieldType.boolean) ∈ za_ws := za_ws_in (List.mem_append_right _ (List.mem_of_getElem? (i := 226) (by decide +kernel))) rfl
theorem zk_227 : Cond.instantiable "TrustLedger$Transaction" 5 ∈ za_ws := za_ws_in (List.mem_append_right _ (List.mem_of_getElem? (i := 227) (by decide +kernel))) rfl
theorem zk_228 : Cond.methodLink "TrustLedger" 69 zy_Transaction_init ∈ za_ws := za_ws_in (List.mem_append_right _ (List.mem_of_getElem? (i := 228) (by decide +kernel))) rfl
theorem zk_229 : Cond.instanceMethod zy_Transaction_init ∈ za_ws := za_ws_in (List.mem_append_right _ (List.mem_of_getElem? (i := 229) (by decide +kernel))) rfl
theorem zk_23 : Cond.instantiable "TrustLedger$Quorums" 1 ∈ za_ws := za_ws_in (List.mem_append_right _ (List.mem_of_getElem? (i := 23) (by decide +kernel))) rfl
theorem zk_230 : Cond.code zy_Transaction_init prog_9_method_1_code 6 (Option.none : Option Jvm.ClassFile.FieldType) ∈ za_ws := za_ws_in (List.mem_append_right _ (List.mem_of_getElem? (i := 230) (by decide +kernel))) rfl
theorem zk_231 : Cond.methodLink "TrustLedger$Transaction" 1 (⟨"java/lang/Object", "<init>", "()V"⟩ : MethodName) ∈ za_ws := za_ws_in (List.mem_append_right _ (List.mem_of_getElem? (i := 231) (by decide +kernel))) rfl
theorem zk_232 : Cond.fieldLink "TrustLedger$Transaction" 7 "TrustLedger$Transaction" "kind" "I" ∈ za_ws := za_ws_in (List.mem_append_right _ (List.mem_of_getElem? (i := 232) (by decide +kernel))) rfl
theorem zk_234 : Cond.fieldLink "TrustLedger$Transaction" 13 "TrustLedger$Transaction" "from" "I" ∈ za_ws := za_ws_in (List.mem_append_right _ (List.mem_of_getElem? (i := 234) (by decide +kernel))) rfl
theorem zk_236 : Cond.fieldLink "TrustLedger$Transaction" 16 "TrustLedger$Transaction" "what" "I" ∈ za_ws := za_ws_in (List.mem_append_right _ (List.mem_of_getElem? (i := 236) (by decide +kernel))) rfl
theorem zk_238 : Cond.fieldLink "TrustLedger$Transaction" 19 "TrustLedger$Transaction" "other" "I" ∈ za_ws := za_ws_in (List.mem_append_right _ (List.mem_of_getElem? (i := 238) (by decide +kernel))) rfl
theorem zk_24 : Cond.methodLink "TrustLedger" 15 zy_Quorums_init ∈ za_ws := za_ws_in (List.mem_append_right _ (List.mem_of_getElem? (i := 24) (by decide +kernel))) rfl
theorem zk_240 : Cond.fieldLink "TrustLedger$Transaction" 22 "TrustLedger$Transaction" "amount" "I" ∈ za_ws := za_ws_in (List.mem_append_right _ (List.mem_of_getElem? (i := 240) (by decide +kernel))) rfl
theorem zk_25 : Cond.instanceMethod zy_Quorums_init ∈ za_ws := za_ws_in (List.mem_append_right _ (List.mem_of_getElem? (i := 25) (by decide +kernel))) rfl
theorem zk_257 : Cond.methodLink "TrustLedger" 72 zy_TL_isAtWork ∈ za_ws := za_ws_in (List.mem_append_right _ (List.mem_of_getElem? (i := 257) (by decide +kernel))) rfl
theorem zk_259 : Cond.instanceMethod zy_TL_isAtWork ∈ za_ws := za_ws_in (List.mem_append_right _ (List.mem_of_getElem? (i := 259) (by decide +kernel))) rfl
theorem zk_26 : Cond.code zy_Quorums_init prog_7_method_1_code 2 (Option.none : Option Jvm.ClassFile.FieldType) ∈ za_ws := za_ws_in (List.mem_append_right _ (List.mem_of_getElem? (i := 26) (by decide +kernel))) rfl
theorem zk_260 : Cond.code zy_TL_isAtWork prog_1_method_26_code 2 (Option.some Jvm.ClassFile.FieldType.boolean) ∈ za_ws := za_ws_in (List.mem_append_right _ (List.mem_of_getElem? (i := 260) (by decide +kernel))) rfl
theorem zk_261 : Cond.methodLink "TrustLedger" 107 zy_TL_isGood ∈ za_ws := za_ws_in (List.mem_append_right _ (List.mem_of_getElem? (i := 261) (by decide +kernel))) rfl
theorem zk_263 : Cond.instanceMethod zy_TL_isGood ∈ za_ws := za_ws_in (List.mem_append_right _ (List.mem_of_getElem? (i := 263) (by decide +kernel))) rfl
theorem zk_264 : Cond.code zy_TL_isGood prog_1_method_25_code 2 (Option.some Jvm.ClassFile.FieldType.boolean) ∈ za_ws := za_ws_in (List.mem_append_right _ (List.mem_of_getElem? (i := 264) (by decide +kernel))) rfl
theorem zk_265 : Cond.methodLink "TrustLedger" 135 zy_TL_has ∈ za_ws := za_ws_in (List.mem_append_right _ (List.mem_of_getElem? (i := 265) (by decide +kernel))) rfl
theorem zk_266 : Cond.static zy_TL_has ∈ za_ws := za_ws_in (List.mem_append_right _ (List.mem_of_getElem? (i := 266) (by decide +kernel))) rfl
theorem zk_267 : Cond.code zy_TL_has prog_1_method_17_code 2 (Option.some Jvm.ClassFile.FieldType.boolean) ∈ za_ws := za_ws_in (List.mem_append_right _ (List.mem_of_getElem? (i := 267) (by decide +kernel))) rfl
theorem zk_268 : Cond.methodLink "TrustLedger" 87 zy_Agreement_takeProposal ∈ za_ws := za_ws_in (List.mem_append_right _ (List.mem_of_getElem? (i := 268) (by decide +kernel))) rfl
theorem zk_269 : Cond.instanceMethod zy_Agreement_takeProposal ∈ za_ws := za_ws_in (List.mem_append_right _ (List.mem_of_getElem? (i := 269) (by decide +kernel))) rfl
theorem zk_27 : Cond.methodLink "TrustLedger$Quorums" 3 (⟨"java/lang/Object", "<init>", "()V"⟩ : MethodName) ∈ za_ws := za_ws_in (List.mem_append_right _ (List.mem_of_getElem? (i := 27) (by decide +kernel))) rfl
theorem zk_270 : Cond.selects "TrustLedger$Agreement" zy_Agreement_takeProposal zy_Agreement_takeProposal ∈ za_ws := za_ws_in (List.mem_append_right _ (List.mem_of_getElem? (i := 270) (by decide +kernel))) rfl
theorem zk_271 : Cond.code zy_Agreement_takeProposal prog_2_method_4_code 2 (Option.none : Option Jvm.ClassFile.FieldType) ∈ za_ws := za_ws_in (List.mem_append_right _ (List.mem_of_getElem? (i := 271) (by decide +kernel))) rfl
theorem zk_272 : Cond.methodLink "TrustLedger$Agreement" 59 zy_Agreement_beginRound ∈ za_ws := za_ws_in (List.mem_append_right _ (List.mem_of_getElem? (i := 272) (by decide +kernel))) rfl
theorem zk_274 : Cond.instanceMethod zy_Agreement_beginRound ∈ za_ws := za_ws_in (List.mem_append_right _ (List.mem_of_getElem? (i := 274) (by decide +kernel))) rfl
theorem zk_275 : Cond.code zy_Agreement_beginRound prog_2_method_8_code 6 (Option.none : Option Jvm.ClassFile.FieldType) ∈ za_ws := za_ws_in (List.mem_append_right _ (List.mem_of_getElem? (i := 275) (by decide +kernel))) rfl
theorem zk_276 : Cond.methodLink "TrustLedger$Agreement" 111 zy_Trust_everyone ∈ za_ws := za_ws_in (List.mem_append_right _ (List.mem_of_getElem? (i := 276) (by decide +kernel))) rfl
theorem zk_277 : Cond.instanceMethod zy_Trust_everyone ∈ za_ws := za_ws_in (List.mem_append_right _ (List.mem_of_getElem? (i := 277) (by decide +kernel))) rfl
theorem zk_278 : Cond.selects "TrustLedger$Trust" zy_Trust_everyone zy_Trust_everyone ∈ za_ws := za_ws_in (List.mem_append_right _ (List.mem_of_getElem? (i := 278) (by decide +kernel))) rfl
theorem zk_279 : Cond.code zy_Trust_everyone prog_10_method_5_code 1 (Option.some Jvm.ClassFile.FieldType.int) ∈ za_ws := za_ws_in (List.mem_append_right _ (List.mem_of_getElem? (i := 279) (by decide +kernel))) rfl
theorem zk_28 : Cond.classLink "TrustLedger$Quorums" 9 "TrustLedger$Trust" ∈ za_ws := za_ws_in (List.mem_append_right _ (List.mem_of_getElem? (i := 28) (by decide +kernel))) rfl
theorem zk_281 : Cond.methodLink "TrustLedger" 91 zy_Agreement_stir ∈ za_ws := za_ws_in (List.mem_append_right _ (List.mem_of_getElem? (i := 281) (by decide +kernel))) rfl
theorem zk_282 : Cond.instanceMethod zy_Agreement_stir ∈ za_ws := za_ws_in (List.mem_append_right _ (List.mem_of_getElem? (i := 282) (by decide +kernel))) rfl
theorem zk_283 : Cond.selects "TrustLedger$Agreement" zy_Agreement_stir zy_Agreement_stir ∈ za_ws := za_ws_in (List.mem_append_right _ (List.mem_of_getElem? (i := 283) (by decide +kernel))) rfl
theorem zk_284 : Cond.code zy_Agreement_stir prog_2_method_7_code 3 (Option.none : Option Jvm.ClassFile.FieldType) ∈ za_ws := za_ws_in (List.mem_append_right _ (List.mem_of_getElem? (i := 284) (by decide +kernel))) rfl
theorem zk_285 : Cond.methodLink "TrustLedger$Agreement" 86 zy_Agreement_voteNominate ∈ za_ws := za_ws_in (List.mem_append_right _ (List.mem_of_getElem? (i := 285) (by decide +kernel))) rfl
theorem zk_287 : Cond.instanceMethod zy_Agreement_voteNominate ∈ za_ws := za_ws_in (List.mem_append_right _ (List.mem_of_getElem? (i := 287) (by decide +kernel))) rfl
theorem zk_288 : Cond.code zy_Agreement_voteNominate prog_2_method_12_code 4 (Option.some Jvm.ClassFile.FieldType.boolean) ∈ za_ws := za_ws_in (List.mem_append_right _ (List.mem_of_getElem? (i := 288) (by decide +kernel))) rfl
theorem zk_289 : Cond.methodLink "TrustLedger$Agreement" 138 zy_Statements_nodesWith ∈ za_ws := za_ws_in (List.mem_append_right _ (List.mem_of_getElem? (i := 289) (by decide +kernel))) rfl
theorem zk_290 : Cond.instanceMethod zy_Statements_nodesWith ∈ za_ws := za_ws_in (List.mem_append_right _ (List.mem_of_getElem? (i := 290) (by decide +kernel))) rfl
theorem zk_291 : Cond.selects "TrustLedger$Statements" zy_Statements_nodesWith zy_Statements_nodesWith ∈ za_ws := za_ws_in (List.mem_append_right _ (List.mem_of_getElem? (i := 291) (by decide +kernel))) rfl
theorem zk_292 : Cond.code zy_Statements_nodesWith prog_8_method_5_code 5 (Option.some Jvm.ClassFile.FieldType.int) ∈ za_ws := za_ws_in (List.mem_append_right _ (List.mem_of_getElem? (i := 292) (by decide +kernel))) rfl
theorem zk_294 : Cond.methodLink "TrustLedger$Agreement" 127 zy_Statements_vote ∈ za_ws := za_ws_in (List.mem_append_right _ (List.mem_of_getElem? (i := 294) (by decide +kernel))) rfl
theorem zk_295 : Cond.instanceMethod zy_Statements_vote ∈ za_ws := za_ws_in (List.mem_append_right _ (List.mem_of_getElem? (i := 295) (by decide +kernel))) rfl
theorem zk_296 : Cond.selects "TrustLedger$Statements" zy_Statements_vote zy_Statements_vote ∈ za_ws := za_ws_in (List.mem_append_right _ (List.mem_of_getElem? (i := 296) (by decide +kernel))) rfl
theorem zk_297 : Cond.code zy_Statements_vote prog_8_method_2_code 2 (Option.some Jvm.ClassFile.FieldType.boolean) ∈ za_ws := za_ws_in (List.mem_append_right _ (List.mem_of_getElem? (i := 297) (by decide +kernel))) rfl
theorem zk_298 : Cond.methodLink "TrustLedger$Agreement" 90 zy_Agreement_acceptNominate ∈ za_ws := za_ws_in (List.mem_append_right _ (List.mem_of_getElem? (i := 298) (by decide +kernel))) rfl
theorem zk_3 : Cond.initialized "TrustLedger$Trust" ∈ za_ws := za_ws_in (List.mem_append_right _ (List.mem_of_getElem? (i := 3) (by decide +kernel))) rfl
theorem zk_30 : Cond.instantiable "TrustLedger$Trust" 4 ∈ za_ws := za_ws_in (List.mem_append_right _ (List.mem_of_getElem? (i := 30) (by decide +kernel))) rfl
theorem zk_300 : Cond.instanceMethod zy_Agreement_acceptNominate ∈ za_ws := za_ws_in (List.mem_append_right _ (List.mem_of_getElem? (i := 300) (by decide +kernel))) rfl
theorem zk_301 : Cond.code zy_Agreement_acceptNominate prog_2_method_13_code 3 (Option.some Jvm.ClassFile.FieldType.boolean) ∈ za_ws := za_ws_in (List.mem_append_right _ (List.mem_of_getElem? (i := 301) (by decide +kernel))) rfl
theorem zk_302 : Cond.methodLink "TrustLedger$Agreement" 142 zy_Statements_acceptIfMay ∈ za_ws := za_ws_in (List.mem_append_right _ (List.mem_of_getElem? (i := 302) (by decide +kernel))) rfl
theorem zk_303 : Cond.instanceMethod zy_Statements_acceptIfMay ∈ za_ws := za_ws_in (List.mem_append_right _ (List.mem_of_getElem? (i := 303) (by decide +kernel))) rfl
theorem zk_304 : Cond.selects "TrustLedger$Statements" zy_Statements_acceptIfMay zy_Statements_acceptIfMay ∈ za_ws := za_ws_in (List.mem_append_right _ (List.mem_of_getElem? (i := 304) (by decide +kernel))) rfl
theorem zk_305 : Cond.code zy_Statements_acceptIfMay prog_8_method_3_code 3 (Option.some Jvm.ClassFile.FieldType.boolean) ∈ za_ws := za_ws_in (List.mem_append_right _ (List.mem_of_getElem? (i := 305) (by decide +kernel))) rfl
theorem zk_306 : Cond.methodLink "TrustLedger$Statements" 33 zy_Statements_nodesWith ∈ za_ws := za_ws_in (List.mem_append_right _ (List.mem_of_getElem? (i := 306) (by decide +kernel))) rfl
theorem zk_307 : Cond.methodLink "TrustLedger$Statements" 37 zy_Quorums_isGivenTo ∈ za_ws := za_ws_in (List.mem_append_right _ (List.mem_of_getElem? (i := 307) (by decide +kernel))) rfl
theorem zk_308 : Cond.instanceMethod zy_Quorums_isGivenTo ∈ za_ws := za_ws_in (List.mem_append_right _ (List.mem_of_getElem? (i := 308) (by decide +kernel))) rfl
theorem zk_309 : Cond.selects "TrustLedger$Quorums" zy_Quorums_isGivenTo zy_Quorums_isGivenTo ∈ za_ws := za_ws_in (List.mem_append_right _ (List.mem_of_getElem? (i := 309) (by decide +kernel))) rfl
theorem zk_310 : Cond.code zy_Quorums_isGivenTo prog_7_method_2_code 7 (Option.some Jvm.ClassFile.FieldType.boolean) ∈ za_ws := za_ws_in (List.mem_append_right _ (List.mem_of_getElem? (i := 310) (by decide +kernel))) rfl
theorem zk_312 : Cond.methodLink "TrustLedger$Quorums" 22 zy_Trust_isSatisfiedBy ∈ za_ws := za_ws_in (List.mem_append_right _ (List.mem_of_getElem? (i := 312) (by decide +kernel))) rfl
theorem zk_313 : Cond.instanceMethod zy_Trust_isSatisfiedBy ∈ za_ws := za_ws_in (List.mem_append_right _ (List.mem_of_getElem? (i := 313) (by decide +kernel))) rfl
theorem zk_314 : Cond.selects "TrustLedger$Trust" zy_Trust_isSatisfiedBy zy_Trust_isSatisfiedBy ∈ za_ws := za_ws_in (List.mem_append_right _ (List.mem_of_getElem? (i := 314) (by decide +kernel))) rfl
theorem zk_315 : Cond.code zy_Trust_isSatisfiedBy prog_10_method_3_code 3 (Option.some Jvm.ClassFile.FieldType.boolean) ∈ za_ws := za_ws_in (List.mem_append_right _ (List.mem_of_getElem? (i := 315) (by decide +kernel))) rfl
theorem zk_316 : Cond.methodLink "TrustLedger$Trust" 24 zy_Int_bitCount ∈ za_ws := za_ws_in (List.mem_append_right _ (List.mem_of_getElem? (i := 316) (by decide +kernel))) rfl
theorem zk_317 : Cond.static zy_Int_bitCount ∈ za_ws := za_ws_in (List.mem_append_right _ (List.mem_of_getElem? (i := 317) (by decide +kernel))) rfl
theorem zk_318 : Cond.code zy_Int_bitCount prog_13_method_49_code 1 (Option.some Jvm.ClassFile.FieldType.int) ∈ za_ws := za_ws_in (List.mem_append_right _ (List.mem_of_getElem? (i := 318) (by decide +kernel))) rfl
theorem zk_319 : Cond.constant "java/lang/Integer" 265 (1431655765 : Int32) ∈ za_ws := za_ws_in (List.mem_append_right _ (List.mem_of_getElem? (i := 319) (by decide +kernel))) rfl
theorem zk_32 : Cond.instanceMethod zy_Trust_init ∈ za_ws := za_ws_in (List.mem_append_right _ (List.mem_of_getElem? (i := 32) (by decide +kernel))) rfl
theorem zk_320 : Cond.constant "java/lang/Integer" 266 (858993459 : Int32) ∈ za_ws := za_ws_in (List.mem_append_right _ (List.mem_of_getElem? (i := 320) (by decide +kernel))) rfl
theorem zk_321 : Cond.constant "java/lang/Integer" 267 (252645135 : Int32) ∈ za_ws := za_ws_in (List.mem_append_right _ (List.mem_of_getElem? (i := 321) (by decide +kernel))) rfl
theorem zk_322 : Cond.methodLink "TrustLedger$Statements" 46 zy_Trust_isBlockedBy ∈ za_ws := za_ws_in (List.mem_append_right _ (List.mem_of_getElem? (i := 322) (by decide +kernel))) rfl
theorem zk_323 : Cond.instanceMethod zy_Trust_isBlockedBy ∈ za_ws := za_ws_in (List.mem_append_right _ (List.mem_of_getElem? (i := 323) (by decide +kernel))) rfl
theorem zk_324 : Cond.selects "TrustLedger$Trust" zy_Trust_isBlockedBy zy_Trust_isBlockedBy ∈ za_ws := za_ws_in (List.mem_append_right _ (List.mem_of_getElem? (i := 324) (by decide +kernel))) rfl
theorem zk_325 : Cond.code zy_Trust_isBlockedBy prog_10_method_4_code 2 (Option.some Jvm.ClassFile.FieldType.boolean) ∈ za_ws := za_ws_in (List.mem_append_right _ (List.mem_of_getElem? (i := 325) (by decide +kernel))) rfl
theorem zk_326 : Cond.methodLink "TrustLedger$Trust" 30 zy_Trust_isSatisfiedBy ∈ za_ws := za_ws_in (List.mem_append_right _ (List.mem_of_getElem? (i := 326) (by decide +kernel))) rfl
theorem zk_327 : Cond.methodLink "TrustLedger$Agreement" 93 zy_Agreement_confirmNominate ∈ za_ws := za_ws_in (List.mem_append_right _ (List.mem_of_getElem? (i := 327) (by decide +kernel))) rfl
theorem zk_329 : Cond.instanceMethod zy_Agreement_confirmNominate ∈ za_ws := za_ws_in (List.mem_append_right _ (List.mem_of_getElem? (i := 329) (by decide +kernel))) rfl
theorem zk_33 : Cond.code zy_Trust_init prog_10_method_1_code 1 (Option.none : Option Jvm.ClassFile.FieldType) ∈ za_ws := za_ws_in (List.mem_append_right _ (List.mem_of_getElem? (i := 33) (by decide +kernel))) rfl
theorem zk_330 : Cond.code zy_Agreement_confirmNominate prog_2_method_14_code 3 (Option.some Jvm.ClassFile.FieldType.boolean) ∈ za_ws := za_ws_in (List.mem_append_right _ (List.mem_of_getElem? (i := 330) (by decide +kernel))) rfl
theorem zk_331 : Cond.methodLink "TrustLedger$Agreement" 145 zy_Statements_confirmIfMay ∈ za_ws := za_ws_in (List.mem_append_right _ (List.mem_of_getElem? (i := 331) (by decide +kernel))) rfl
theorem zk_332 : Cond.instanceMethod zy_Statements_confirmIfMay ∈ za_ws := za_ws_in (List.mem_append_right _ (List.mem_of_getElem? (i := 332) (by decide +kernel))) rfl
theorem zk_333 : Cond.selects "TrustLedger$Statements" zy_Statements_confirmIfMay zy_Statements_confirmIfMay ∈ za_ws := za_ws_in (List.mem_append_right _ (List.mem_of_getElem? (i := 333) (by decide +kernel))) rfl
theorem zk_334 : Cond.code zy_Statements_confirmIfMay prog_8_method_4_code 3 (Option.some Jvm.ClassFile.FieldType.boolean) ∈ za_ws := za_ws_in (List.mem_append_right _ (List.mem_of_getElem? (i := 334) (by decide +kernel))) rfl
theorem zk_335 : Cond.methodLink "TrustLedger$Agreement" 96 zy_Agreement_beginPrepare ∈ za_ws := za_ws_in (List.mem_append_right _ (List.mem_of_getElem? (i := 335) (by decide +kernel))) rfl
theorem zk_337 : Cond.instanceMethod zy_Agreement_beginPrepare ∈ za_ws := za_ws_in (List.mem_append_right _ (List.mem_of_getElem? (i := 337) (by decide +kernel))) rfl
theorem zk_338 : Cond.code zy_Agreement_beginPrepare prog_2_method_15_code 1 (Option.some Jvm.ClassFile.FieldType.boolean) ∈ za_ws := za_ws_in (List.mem_append_right _ (List.mem_of_getElem? (i := 338) (by decide +kernel))) rfl
theorem zk_339 : Cond.methodLink "TrustLedger$Agreement" 52 zy_Agreement_composite ∈ za_ws := za_ws_in (List.mem_append_right _ (List.mem_of_getElem? (i := 339) (by decide +kernel))) rfl
theorem zk_34 : Cond.methodLink "TrustLedger$Trust" 3 (⟨"java/lang/Object", "<init>", "()V"⟩ : MethodName) ∈ za_ws := za_ws_in (List.mem_append_right _ (List.mem_of_getElem? (i := 34) (by decide +kernel))) rfl
theorem zk_341 : Cond.instanceMethod zy_Agreement_composite ∈ za_ws := za_ws_in (List.mem_append_right _ (List.mem_of_getElem? (i := 341) (by decide +kernel))) rfl
theorem zk_342 : Cond.code zy_Agreement_composite prog_2_method_10_code 3 (Option.some Jvm.ClassFile.FieldType.int) ∈ za_ws := za_ws_in (List.mem_append_right _ (List.mem_of_getElem? (i := 342) (by decide +kernel))) rfl
theorem zk_343 : Cond.methodLink "TrustLedger$Agreement" 62 zy_Agreement_raiseCounter ∈ za_ws := za_ws_in (List.mem_append_right _ (List.mem_of_getElem? (i := 343) (by decide +kernel))) rfl
theorem zk_345 : Cond.instanceMethod zy_Agreement_raiseCounter ∈ za_ws := za_ws_in (List.mem_append_right _ (List.mem_of_getElem? (i := 345) (by decide +kernel))) rfl
theorem zk_346 : Cond.code zy_Agreement_raiseCounter prog_2_method_9_code 1 (Option.none : Option Jvm.ClassFile.FieldType) ∈ za_ws := za_ws_in (List.mem_append_right _ (List.mem_of_getElem? (i := 346) (by decide +kernel))) rfl
theorem zk_347 : Cond.methodLink "TrustLedger$Agreement" 120 zy_Agreement_valueToPrepare ∈ za_ws := za_ws_in (List.mem_append_right _ (List.mem_of_getElem? (i := 347) (by decide +kernel))) rfl
theorem zk_349 : Cond.instanceMethod zy_Agreement_valueToPrepare ∈ za_ws := za_ws_in (List.mem_append_right _ (List.mem_of_getElem? (i := 349) (by decide +kernel))) rfl
theorem zk_35 : Cond.fieldLink "TrustLedger$Trust" 9 "TrustLedger$Trust" "threshold" "I" ∈ za_ws := za_ws_in (List.mem_append_right _ (List.mem_of_getElem? (i := 35) (by decide +kernel))) rfl
theorem zk_350 : Cond.code zy_Agreement_valueToPrepare prog_2_method_11_code 2 (Option.some Jvm.ClassFile.FieldType.int) ∈ za_ws := za_ws_in (List.mem_append_right _ (List.mem_of_getElem? (i := 350) (by decide +kernel))) rfl
theorem zk_352 : Cond.static zy_TL_valueOf ∈ za_ws := za_ws_in (List.mem_append_right _ (List.mem_of_getElem? (i := 352) (by decide +kernel))) rfl
theorem zk_353 : Cond.code zy_TL_valueOf prog_1_method_20_code 1 (Option.some Jvm.ClassFile.FieldType.int) ∈ za_ws := za_ws_in (List.mem_append_right _ (List.mem_of_getElem? (i := 353) (by decide +kernel))) rfl
theorem zk_355 : Cond.static zy_TL_ballotOf ∈ za_ws := za_ws_in (List.mem_append_right _ (List.mem_of_getElem? (i := 355) (by decide +kernel))) rfl
theorem zk_356 : Cond.code zy_TL_ballotOf prog_1_method_21_code 2 (Option.some Jvm.ClassFile.FieldType.int) ∈ za_ws := za_ws_in (List.mem_append_right _ (List.mem_of_getElem? (i := 356) (by decide +kernel))) rfl
theorem zk_357 : Cond.methodLink "TrustLedger$Agreement" 99 zy_Agreement_acceptPrepare ∈ za_ws := za_ws_in (List.mem_append_right _ (List.mem_of_getElem? (i := 357) (by decide +kernel))) rfl
theorem zk_359 : Cond.instanceMethod zy_Agreement_acceptPrepare ∈ za_ws := za_ws_in (List.mem_append_right _ (List.mem_of_getElem? (i := 359) (by decide +kernel))) rfl
theorem zk_36 : Cond.fieldLink "TrustLedger$Trust" 15 "TrustLedger$Trust" "members" "I" ∈ za_ws := za_ws_in (List.mem_append_right _ (List.mem_of_getElem? (i := 36) (by decide +kernel))) rfl
theorem zk_360 : Cond.code zy_Agreement_acceptPrepare prog_2_method_16_code 3 (Option.some Jvm.ClassFile.FieldType.boolean) ∈ za_ws := za_ws_in (List.mem_append_right _ (List.mem_of_getElem? (i := 360) (by decide +kernel))) rfl
theorem zk_362 : Cond.static zy_TL_abortedBy ∈ za_ws := za_ws_in (List.mem_append_right _ (List.mem_of_getElem? (i := 362) (by decide +kernel))) rfl
theorem zk_363 : Cond.code zy_TL_abortedBy prog_1_method_23_code 1 (Option.some Jvm.ClassFile.FieldType.int) ∈ za_ws := za_ws_in (List.mem_append_right _ (List.mem_of_getElem? (i := 363) (by decide +kernel))) rfl
theorem zk_364 : Cond.methodLink "TrustLedger" 193 zy_TL_otherValued ∈ za_ws := za_ws_in (List.mem_append_right _ (List.mem_of_getElem? (i := 364) (by decide +kernel))) rfl
theorem zk_365 : Cond.static zy_TL_otherValued ∈ za_ws := za_ws_in (List.mem_append_right _ (List.mem_of_getElem? (i := 365) (by decide +kernel))) rfl
theorem zk_366 : Cond.code zy_TL_otherValued prog_1_method_22_code 1 (Option.some Jvm.ClassFile.FieldType.int) ∈ za_ws := za_ws_in (List.mem_append_right _ (List.mem_of_getElem? (i := 366) (by decide +kernel))) rfl
theorem zk_367 : Cond.constant "TrustLedger" 142 (268435455 : Int32) ∈ za_ws := za_ws_in (List.mem_append_right _ (List.mem_of_getElem? (i := 367) (by decide +kernel))) rfl
theorem zk_368 : Cond.constant "TrustLedger" 192 (2113665 : Int32) ∈ za_ws := za_ws_in (List.mem_append_right _ (List.mem_of_getElem? (i := 368) (by decide +kernel))) rfl
theorem zk_369 : Cond.methodLink "TrustLedger$Agreement" 102 zy_Agreement_confirmPrepare ∈ za_ws := za_ws_in (List.mem_append_right _ (List.mem_of_getElem? (i := 369) (by decide +kernel))) rfl
theorem zk_37 : Cond.fieldLink "TrustLedger$Trust" 18 "TrustLedger$Trust" "inner" "I" ∈ za_ws := za_ws_in (List.mem_append_right _ (List.mem_of_getElem? (i := 37) (by decide +kernel))) rfl
theorem zk_371 : Cond.instanceMethod zy_Agreement_confirmPrepare ∈ za_ws := za_ws_in (List.mem_append_right _ (List.mem_of_getElem? (i := 371) (by decide +kernel))) rfl
theorem zk_372 : Cond.code zy_Agreement_confirmPrepare prog_2_method_17_code 3 (Option.some Jvm.ClassFile.FieldType.boolean) ∈ za_ws := za_ws_in (List.mem_append_right _ (List.mem_of_getElem? (i := 372) (by decide +kernel))) rfl
theorem zk_373 : Cond.methodLink "TrustLedger$Agreement" 105 zy_Agreement_voteCommit ∈ za_ws := za_ws_in (List.mem_append_right _ (List.mem_of_getElem? (i := 373) (by decide +kernel))) rfl
theorem zk_375 : Cond.instanceMethod zy_Agreement_voteCommit ∈ za_ws := za_ws_in (List.mem_append_right _ (List.mem_of_getElem? (i := 375) (by decide +kernel))) rfl
theorem zk_376 : Cond.code zy_Agreement_voteCommit prog_2_method_18_code 3 (Option.some Jvm.ClassFile.FieldType.boolean) ∈ za_ws := za_ws_in (List.mem_append_right _ (List.mem_of_getElem? (i := 376) (by decide +kernel))) rfl
theorem zk_378 : Cond.static zy_TL_abortersOf ∈ za_ws := za_ws_in (List.mem_append_right _ (List.mem_of_getElem? (i := 378) (by decide +kernel))) rfl
theorem zk_379 : Cond.code zy_TL_abortersOf prog_1_method_24_code 1 (Option.some Jvm.ClassFile.FieldType.int) ∈ za_ws := za_ws_in (List.mem_append_right _ (List.mem_of_getElem? (i := 379) (by decide +kernel))) rfl
theorem zk_38 : Cond.fieldLink "TrustLedger$Trust" 21 "TrustLedger$Trust" "group" "I" ∈ za_ws := za_ws_in (List.mem_append_right _ (List.mem_of_getElem? (i := 38) (by decide +kernel))) rfl
theorem zk_380 : Cond.methodLink "TrustLedger$Agreement" 108 zy_Agreement_settleCommit ∈ za_ws := za_ws_in (List.mem_append_right _ (List.mem_of_getElem? (i := 380) (by decide +kernel))) rfl
theorem zk_382 : Cond.instanceMethod zy_Agreement_settleCommit ∈ za_ws := za_ws_in (List.mem_append_right _ (List.mem_of_getElem? (i := 382) (by decide +kernel))) rfl
theorem zk_383 : Cond.code zy_Agreement_settleCommit prog_2_method_19_code 3 (Option.some Jvm.ClassFile.FieldType.boolean) ∈ za_ws := za_ws_in (List.mem_append_right _ (List.mem_of_getElem? (i := 383) (by decide +kernel))) rfl
theorem zk_384 : Cond.methodLink "TrustLedger" 97 zy_TL_closeSlot ∈ za_ws := za_ws_in (List.mem_append_right _ (List.mem_of_getElem? (i := 384) (by decide +kernel))) rfl
theorem zk_386 : Cond.instanceMethod zy_TL_closeSlot ∈ za_ws := za_ws_in (List.mem_append_right _ (List.mem_of_getElem? (i := 386) (by decide +kernel))) rfl
theorem zk_387 : Cond.code zy_TL_closeSlot prog_1_method_29_code 5 (Option.none : Option Jvm.ClassFile.FieldType) ∈ za_ws := za_ws_in (List.mem_append_right _ (List.mem_of_getElem? (i := 387) (by decide +kernel))) rfl
theorem zk_388 : Cond.methodLink "TrustLedger" 196 zy_Ledger_carryOut ∈ za_ws := za_ws_in (List.mem_append_right _ (List.mem_of_getElem? (i := 388) (by decide +kernel))) rfl
theorem zk_389 : Cond.instanceMethod zy_Ledger_carryOut ∈ za_ws := za_ws_in (List.mem_append_right _ (List.mem_of_getElem? (i := 389) (by decide +kernel))) rfl
theorem zk_390 : Cond.selects "TrustLedger$Ledger" zy_Ledger_carryOut zy_Ledger_carryOut ∈ za_ws := za_ws_in (List.mem_append_right _ (List.mem_of_getElem? (i := 390) (by decide +kernel))) rfl
theorem zk_391 : Cond.code zy_Ledger_carryOut prog_4_method_3_code 2 (Option.none : Option Jvm.ClassFile.FieldType) ∈ za_ws := za_ws_in (List.mem_append_right _ (List.mem_of_getElem? (i := 391) (by decide +kernel))) rfl
theorem zk_392 : Cond.instantiable "TrustLedger$Offer" 4 ∈ za_ws := za_ws_in (List.mem_append_right _ (List.mem_of_getElem? (i := 392) (by decide +kernel))) rfl
theorem zk_393 : Cond.methodLink "TrustLedger$Ledger" 42 zy_Offer_init ∈ za_ws := za_ws_in (List.mem_append_right _ (List.mem_of_getElem? (i := 393) (by decide +kernel))) rfl
theorem zk_394 : Cond.instanceMethod zy_Offer_init ∈ za_ws := za_ws_in (List.mem_append_right _ (List.mem_of_getElem? (i := 394) (by decide +kernel))) rfl
theorem zk_395 : Cond.code zy_Offer_init prog_6_method_1_code 5 (Option.none : Option Jvm.ClassFile.FieldType) ∈ za_ws := za_ws_in (List.mem_append_right _ (List.mem_of_getElem? (i := 395) (by decide +kernel))) rfl
theorem zk_396 : Cond.methodLink "TrustLedger$Offer" 3 (⟨"java/lang/Object", "<init>", "()V"⟩ : MethodName) ∈ za_ws := za_ws_in (List.mem_append_right _ (List.mem_of_getElem? (i := 396) (by decide +kernel))) rfl
theorem zk_397 : Cond.fieldLink "TrustLedger$Offer" 9 "TrustLedger$Offer" "account" "I" ∈ za_ws := za_ws_in (List.mem_append_right _ (List.mem_of_getElem? (i := 397) (by decide +kernel))) rfl
theorem zk_4 : Cond.initialized "TrustLedger$Node" ∈ za_ws := za_ws_in (List.mem_append_right _ (List.mem_of_getElem? (i := 4) (by decide +kernel))) rfl
theorem zk_400 : Cond.fieldLink "TrustLedger$Offer" 15 "TrustLedger$Offer" "side" "I" ∈ za_ws := za_ws_in (List.mem_append_right _ (List.mem_of_getElem? (i := 400) (by decide +kernel))) rfl
theorem zk_403 : Cond.fieldLink "TrustLedger$Offer" 18 "TrustLedger$Offer" "price" "I" ∈ za_ws := za_ws_in (List.mem_append_right _ (List.mem_of_getElem? (i := 403) (by decide +kernel))) rfl
theorem zk_406 : Cond.fieldLink "TrustLedger$Offer" 21 "TrustLedger$Offer" "amount" "I" ∈ za_ws := za_ws_in (List.mem_append_right _ (List.mem_of_getElem? (i := 406) (by decide +kernel))) rfl
theorem zk_418 : Cond.methodLink "TrustLedger$Ledger" 45 zy_Ledger_match ∈ za_ws := za_ws_in (List.mem_append_right _ (List.mem_of_getElem? (i := 418) (by decide +kernel))) rfl
theorem zk_420 : Cond.instanceMethod zy_Ledger_match ∈ za_ws := za_ws_in (List.mem_append_right _ (List.mem_of_getElem? (i := 420) (by decide +kernel))) rfl
theorem zk_421 : Cond.code zy_Ledger_match prog_4_method_5_code 5 (Option.none : Option Jvm.ClassFile.FieldType) ∈ za_ws := za_ws_in (List.mem_append_right _ (List.mem_of_getElem? (i := 421) (by decide +kernel))) rfl
theorem zk_422 : Cond.methodLink "TrustLedger$Ledger" 58 zy_Ledger_bestFor ∈ za_ws := za_ws_in (List.mem_append_right _ (List.mem_of_getElem? (i := 422) (by decide +kernel))) rfl
theorem zk_424 : Cond.instanceMethod zy_Ledger_bestFor ∈ za_ws := za_ws_in (List.mem_append_right _ (List.mem_of_getElem? (i := 424) (by decide +kernel))) rfl
theorem zk_425 : Cond.code zy_Ledger_bestFor prog_4_method_6_code 7 (Option.some Jvm.ClassFile.FieldType.int) ∈ za_ws := za_ws_in (List.mem_append_right _ (List.mem_of_getElem? (i := 425) (by decide +kernel))) rfl
theorem zk_426 : Cond.methodLink "TrustLedger$Ledger" 75 zy_Offer_agreesTo ∈ za_ws := za_ws_in (List.mem_append_right _ (List.mem_of_getElem? (i := 426) (by decide +kernel))) rfl
theorem zk_427 : Cond.instanceMethod zy_Offer_agreesTo ∈ za_ws := za_ws_in (List.mem_append_right _ (List.mem_of_getElem? (i := 427) (by decide +kernel))) rfl
theorem zk_428 : Cond.selects "TrustLedger$Offer" zy_Offer_agreesTo zy_Offer_agreesTo ∈ za_ws := za_ws_in (List.mem_append_right _ (List.mem_of_getElem? (i := 428) (by decide +kernel))) rfl
theorem zk_429 : Cond.code zy_Offer_agreesTo prog_6_method_3_code 2 (Option.some Jvm.ClassFile.FieldType.boolean) ∈ za_ws := za_ws_in (List.mem_append_right _ (List.mem_of_getElem? (i := 429) (by decide +kernel))) rfl
theorem zk_430 : Cond.methodLink "TrustLedger$Offer" 24 zy_Offer_sells ∈ za_ws := za_ws_in (List.mem_append_right _ (List.mem_of_getElem? (i := 430) (by decide +kernel))) rfl
theorem zk_431 : Cond.instanceMethod zy_Offer_sells ∈ za_ws := za_ws_in (List.mem_append_right _ (List.mem_of_getElem? (i := 431) (by decide +kernel))) rfl
theorem zk_432 : Cond.selects "TrustLedger$Offer" zy_Offer_sells zy_Offer_sells ∈ za_ws := za_ws_in (List.mem_append_right _ (List.mem_of_getElem? (i := 432) (by decide +kernel))) rfl
theorem zk_433 : Cond.code zy_Offer_sells prog_6_method_2_code 1 (Option.some Jvm.ClassFile.FieldType.boolean) ∈ za_ws := za_ws_in (List.mem_append_right _ (List.mem_of_getElem? (i := 433) (by decide +kernel))) rfl
theorem zk_434 : Cond.methodLink "TrustLedger$Ledger" 79 zy_Offer_prefers ∈ za_ws := za_ws_in (List.mem_append_right _ (List.mem_of_getElem? (i := 434) (by decide +kernel))) rfl
theorem zk_435 : Cond.instanceMethod zy_Offer_prefers ∈ za_ws := za_ws_in (List.mem_append_right _ (List.mem_of_getElem? (i := 435) (by decide +kernel))) rfl
theorem zk_436 : Cond.selects "TrustLedger$Offer" zy_Offer_prefers zy_Offer_prefers ∈ za_ws := za_ws_in (List.mem_append_right _ (List.mem_of_getElem? (i := 436) (by decide +kernel))) rfl
theorem zk_437 : Cond.code zy_Offer_prefers prog_6_method_4_code 3 (Option.some Jvm.ClassFile.FieldType.boolean) ∈ za_ws := za_ws_in (List.mem_append_right _ (List.mem_of_getElem? (i := 437) (by decide +kernel))) rfl
theorem zk_438 : Cond.methodLink "TrustLedger$Ledger" 62 zy_Ledger_tradeWith ∈ za_ws := za_ws_in (List.mem_append_right _ (List.mem_of_getElem? (i := 438) (by decide +kernel))) rfl
theorem zk_440 : Cond.instanceMethod zy_Ledger_tradeWith ∈ za_ws := za_ws_in (List.mem_append_right _ (List.mem_of_getElem? (i := 440) (by decide +kernel))) rfl
theorem zk_441 : Cond.code zy_Ledger_tradeWith prog_4_method_7_code 8 (Option.some Jvm.ClassFile.FieldType.boolean) ∈ za_ws := za_ws_in (List.mem_append_right _ (List.mem_of_getElem? (i := 441) (by decide +kernel))) rfl
theorem zk_442 : Cond.methodLink "TrustLedger$Ledger" 83 zy_Offer_sells ∈ za_ws := za_ws_in (List.mem_append_right _ (List.mem_of_getElem? (i := 442) (by decide +kernel))) rfl
theorem zk_443 : Cond.methodLink "TrustLedger$Ledger" 90 (⟨"java/lang/Math", "min", "(II)I"⟩ : MethodName) ∈ za_ws := za_ws_in (List.mem_append_right _ (List.mem_of_getElem? (i := 443) (by decide +kernel))) rfl
theorem zk_444 : Cond.static (⟨"java/lang/Math", "min", "(II)I"⟩ : MethodName) ∈ za_ws := za_ws_in (List.mem_append_right _ (List.mem_of_getElem? (i := 444) (by decide +kernel))) rfl
theorem zk_445 : Cond.code (⟨"java/lang/Math", "min", "(II)I"⟩ : MethodName) prog_14_method_69_code 2 (Option.some Jvm.ClassFile.FieldType.int) ∈ za_ws := za_ws_in (List.mem_append_right _ (List.mem_of_getElem? (i := 445) (by decide +kernel))) rfl
theorem zk_446 : Cond.methodLink "TrustLedger$Ledger" 96 zy_Ledger_canServe ∈ za_ws := za_ws_in (List.mem_append_right _ (List.mem_of_getElem? (i := 446) (by decide +kernel))) rfl
theorem zk_448 : Cond.instanceMethod zy_Ledger_canServe ∈ za_ws := za_ws_in (List.mem_append_right _ (List.mem_of_getElem? (i := 448) (by decide +kernel))) rfl
theorem zk_449 : Cond.code zy_Ledger_canServe prog_4_method_8_code 2 (Option.some Jvm.ClassFile.FieldType.boolean) ∈ za_ws := za_ws_in (List.mem_append_right _ (List.mem_of_getElem? (i := 449) (by decide +kernel))) rfl
theorem zk_450 : Cond.methodLink "TrustLedger$Ledger" 53 zy_Ledger_move ∈ za_ws := za_ws_in (List.mem_append_right _ (List.mem_of_getElem? (i := 450) (by decide +kernel))) rfl
theorem zk_452 : Cond.instanceMethod zy_Ledger_move ∈ za_ws := za_ws_in (List.mem_append_right _ (List.mem_of_getElem? (i := 452) (by decide +kernel))) rfl
theorem zk_453 : Cond.code zy_Ledger_move prog_4_method_4_code 5 (Option.none : Option Jvm.ClassFile.FieldType) ∈ za_ws := za_ws_in (List.mem_append_right _ (List.mem_of_getElem? (i := 453) (by decide +kernel))) rfl
theorem zk_454 : Cond.methodLink "TrustLedger$Ledger" 100 zy_Ledger_takeOut ∈ za_ws := za_ws_in (List.mem_append_right _ (List.mem_of_getElem? (i := 454) (by decide +kernel))) rfl
theorem zk_456 : Cond.instanceMethod zy_Ledger_takeOut ∈ za_ws := za_ws_in (List.mem_append_right _ (List.mem_of_getElem? (i := 456) (by decide +kernel))) rfl
theorem zk_457 : Cond.code zy_Ledger_takeOut prog_4_method_9_code 3 (Option.none : Option Jvm.ClassFile.FieldType) ∈ za_ws := za_ws_in (List.mem_append_right _ (List.mem_of_getElem? (i := 457) (by decide +kernel))) rfl
theorem zk_458 : Cond.methodLink "TrustLedger$Ledger" 49 zy_Ledger_holdings ∈ za_ws := za_ws_in (List.mem_append_right _ (List.mem_of_getElem? (i := 458) (by decide +kernel))) rfl
theorem zk_459 : Cond.instanceMethod zy_Ledger_holdings ∈ za_ws := za_ws_in (List.mem_append_right _ (List.mem_of_getElem? (i := 459) (by decide +kernel))) rfl
theorem zk_460 : Cond.selects "TrustLedger$Ledger" zy_Ledger_holdings zy_Ledger_holdings ∈ za_ws := za_ws_in (List.mem_append_right _ (List.mem_of_getElem? (i := 460) (by decide +kernel))) rfl
theorem zk_461 : Cond.code zy_Ledger_holdings prog_4_method_2_code 2 (Option.some (Jvm.ClassFile.FieldType.array Jvm.ClassFile.FieldType.int)) ∈ za_ws := za_ws_in (List.mem_append_right _ (List.mem_of_getElem? (i := 461) (by decide +kernel))) rfl
theorem zk_466 : Cond.methodLink "TrustLedger" 104 zy_Agreement_runOutOfTime ∈ za_ws := za_ws_in (List.mem_append_right _ (List.mem_of_getElem? (i := 466) (by decide +kernel))) rfl
theorem zk_467 : Cond.instanceMethod zy_Agreement_runOutOfTime ∈ za_ws := za_ws_in (List.mem_append_right _ (List.mem_of_getElem? (i := 467) (by decide +kernel))) rfl
theorem zk_468 : Cond.selects "TrustLedger$Agreement" zy_Agreement_runOutOfTime zy_Agreement_runOutOfTime ∈ za_ws := za_ws_in (List.mem_append_right _ (List.mem_of_getElem? (i := 468) (by decide +kernel))) rfl
theorem zk_469 : Cond.code zy_Agreement_runOutOfTime prog_2_method_5_code 1 (Option.none : Option Jvm.ClassFile.FieldType) ∈ za_ws := za_ws_in (List.mem_append_right _ (List.mem_of_getElem? (i := 469) (by decide +kernel))) rfl
theorem zk_474 : Cond.instantiable "TrustLedger$Envelope" 4 ∈ za_ws := za_ws_in (List.mem_append_right _ (List.mem_of_getElem? (i := 474) (by decide +kernel))) rfl
theorem zk_475 : Cond.methodLink "TrustLedger" 113 zy_Envelope_init ∈ za_ws := za_ws_in (List.mem_append_right _ (List.mem_of_getElem? (i := 475) (by decide +kernel))) rfl
theorem zk_476 : Cond.instanceMethod zy_Envelope_init ∈ za_ws := za_ws_in (List.mem_append_right _ (List.mem_of_getElem? (i := 476) (by decide +kernel))) rfl
theorem zk_477 : Cond.code zy_Envelope_init prog_3_method_1_code 3 (Option.none : Option Jvm.ClassFile.FieldType) ∈ za_ws := za_ws_in (List.mem_append_right _ (List.mem_of_getElem? (i := 477) (by decide +kernel))) rfl
theorem zk_478 : Cond.methodLink "TrustLedger$Envelope" 3 (⟨"java/lang/Object", "<init>", "()V"⟩ : MethodName) ∈ za_ws := za_ws_in (List.mem_append_right _ (List.mem_of_getElem? (i := 478) (by decide +kernel))) rfl
theorem zk_479 : Cond.fieldLink "TrustLedger$Envelope" 9 "TrustLedger$Envelope" "sender" "I" ∈ za_ws := za_ws_in (List.mem_append_right _ (List.mem_of_getElem? (i := 479) (by decide +kernel))) rfl
theorem zk_48 : Cond.fieldLink "TrustLedger$Quorums" 11 "TrustLedger$Quorums" "trusts" "[LTrustLedger$Trust;" ∈ za_ws := za_ws_in (List.mem_append_right _ (List.mem_of_getElem? (i := 48) (by decide +kernel))) rfl
theorem zk_482 : Cond.fieldLink "TrustLedger$Envelope" 15 "TrustLedger$Envelope" "slot" "I" ∈ za_ws := za_ws_in (List.mem_append_right _ (List.mem_of_getElem? (i := 482) (by decide +kernel))) rfl
theorem zk_484 : Cond.fieldLink "TrustLedger$Envelope" 18 "TrustLedger$Envelope" "backed" "[I" ∈ za_ws := za_ws_in (List.mem_append_right _ (List.mem_of_getElem? (i := 484) (by decide +kernel))) rfl
theorem zk_487 : Cond.fieldLink "TrustLedger$Envelope" 22 "TrustLedger$Envelope" "accepted" "[I" ∈ za_ws := za_ws_in (List.mem_append_right _ (List.mem_of_getElem? (i := 487) (by decide +kernel))) rfl
theorem zk_499 : Cond.methodLink "TrustLedger" 116 zy_Agreement_ofKind ∈ za_ws := za_ws_in (List.mem_append_right _ (List.mem_of_getElem? (i := 499) (by decide +kernel))) rfl
theorem zk_5 : Cond.initialized "TrustLedger$Agreement" ∈ za_ws := za_ws_in (List.mem_append_right _ (List.mem_of_getElem? (i := 5) (by decide +kernel))) rfl
theorem zk_500 : Cond.instanceMethod zy_Agreement_ofKind ∈ za_ws := za_ws_in (List.mem_append_right _ (List.mem_of_getElem? (i := 500) (by decide +kernel))) rfl
theorem zk_501 : Cond.selects "TrustLedger$Agreement" zy_Agreement_ofKind zy_Agreement_ofKind ∈ za_ws := za_ws_in (List.mem_append_right _ (List.mem_of_getElem? (i := 501) (by decide +kernel))) rfl
theorem zk_502 : Cond.code zy_Agreement_ofKind prog_2_method_2_code 2 (Option.some (Jvm.ClassFile.FieldType.object "TrustLedger$Statements")) ∈ za_ws := za_ws_in (List.mem_append_right _ (List.mem_of_getElem? (i := 502) (by decide +kernel))) rfl
theorem zk_503 : Cond.methodLink "TrustLedger" 131 zy_TL_keepEnvelope ∈ za_ws := za_ws_in (List.mem_append_right _ (List.mem_of_getElem? (i := 503) (by decide +kernel))) rfl
theorem zk_505 : Cond.instanceMethod zy_TL_keepEnvelope ∈ za_ws := za_ws_in (List.mem_append_right _ (List.mem_of_getElem? (i := 505) (by decide +kernel))) rfl
theorem zk_506 : Cond.code zy_TL_keepEnvelope prog_1_method_28_code 2 (Option.some Jvm.ClassFile.FieldType.int) ∈ za_ws := za_ws_in (List.mem_append_right _ (List.mem_of_getElem? (i := 506) (by decide +kernel))) rfl
theorem zk_511 : Cond.methodLink "TrustLedger" 139 zy_Envelope_claim ∈ za_ws := za_ws_in (List.mem_append_right _ (List.mem_of_getElem? (i := 511) (by decide +kernel))) rfl
theorem zk_512 : Cond.instanceMethod zy_Envelope_claim ∈ za_ws := za_ws_in (List.mem_append_right _ (List.mem_of_getElem? (i := 512) (by decide +kernel))) rfl
theorem zk_513 : Cond.selects "TrustLedger$Envelope" zy_Envelope_claim zy_Envelope_claim ∈ za_ws := za_ws_in (List.mem_append_right _ (List.mem_of_getElem? (i := 513) (by decide +kernel))) rfl
theorem zk_514 : Cond.code zy_Envelope_claim prog_3_method_2_code 3 (Option.none : Option Jvm.ClassFile.FieldType) ∈ za_ws := za_ws_in (List.mem_append_right _ (List.mem_of_getElem? (i := 514) (by decide +kernel))) rfl
theorem zk_519 : Cond.methodLink "TrustLedger" 147 zy_Agreement_learn ∈ za_ws := za_ws_in (List.mem_append_right _ (List.mem_of_getElem? (i := 519) (by decide +kernel))) rfl
theorem zk_520 : Cond.instanceMethod zy_Agreement_learn ∈ za_ws := za_ws_in (List.mem_append_right _ (List.mem_of_getElem? (i := 520) (by decide +kernel))) rfl
theorem zk_521 : Cond.selects "TrustLedger$Agreement" zy_Agreement_learn zy_Agreement_learn ∈ za_ws := za_ws_in (List.mem_append_right _ (List.mem_of_getElem? (i := 521) (by decide +kernel))) rfl
theorem zk_522 : Cond.code zy_Agreement_learn prog_2_method_6_code 4 (Option.none : Option Jvm.ClassFile.FieldType) ∈ za_ws := za_ws_in (List.mem_append_right _ (List.mem_of_getElem? (i := 522) (by decide +kernel))) rfl
theorem zk_523 : Cond.methodLink "TrustLedger$Agreement" 65 zy_Agreement_ofKind ∈ za_ws := za_ws_in (List.mem_append_right _ (List.mem_of_getElem? (i := 523) (by decide +kernel))) rfl
theorem zk_532 : Cond.methodLink "TrustLedger" 151 zy_Agreement_aspect ∈ za_ws := za_ws_in (List.mem_append_right _ (List.mem_of_getElem? (i := 532) (by decide +kernel))) rfl
theorem zk_533 : Cond.instanceMethod zy_Agreement_aspect ∈ za_ws := za_ws_in (List.mem_append_right _ (List.mem_of_getElem? (i := 533) (by decide +kernel))) rfl
theorem zk_534 : Cond.selects "TrustLedger$Agreement" zy_Agreement_aspect zy_Agreement_aspect ∈ za_ws := za_ws_in (List.mem_append_right _ (List.mem_of_getElem? (i := 534) (by decide +kernel))) rfl
theorem zk_535 : Cond.code zy_Agreement_aspect prog_2_method_3_code 2 (Option.some Jvm.ClassFile.FieldType.int) ∈ za_ws := za_ws_in (List.mem_append_right _ (List.mem_of_getElem? (i := 535) (by decide +kernel))) rfl
theorem zk_55 : Cond.classLink "TrustLedger" 20 "TrustLedger$Node" ∈ za_ws := za_ws_in (List.mem_append_right _ (List.mem_of_getElem? (i := 55) (by decide +kernel))) rfl
theorem zk_552 : Cond.methodLink "TrustLedger" 168 zy_Ledger_holdings ∈ za_ws := za_ws_in (List.mem_append_right _ (List.mem_of_getElem? (i := 552) (by decide +kernel))) rfl
theorem zk_565 : Cond.methodLink "TrustLedgerModel" 1 (⟨"java/lang/Object", "<init>", "()V"⟩ : MethodName) ∈ za_ws := za_ws_in (List.mem_append_right _ (List.mem_of_getElem? (i := 565) (by decide +kernel))) rfl
theorem zk_566 : Cond.methodLink "TrustLedgerModel" 102 zy_Mo_table ∈ za_ws := za_ws_in (List.mem_append_right _ (List.mem_of_getElem? (i := 566) (by decide +kernel))) rfl
theorem zk_568 : Cond.instanceMethod zy_Mo_table ∈ za_ws := za_ws_in (List.mem_append_right _ (List.mem_of_getElem? (i := 568) (by decide +kernel))) rfl
theorem zk_569 : Cond.code zy_Mo_table prog_12_method_6_code 3 (Option.none : Option Jvm.ClassFile.FieldType) ∈ za_ws := za_ws_in (List.mem_append_right _ (List.mem_of_getElem? (i := 569) (by decide +kernel))) rfl
theorem zk_57 : Cond.instantiable "TrustLedger$Node" 4 ∈ za_ws := za_ws_in (List.mem_append_right _ (List.mem_of_getElem? (i := 57) (by decide +kernel))) rfl
theorem zk_570 : Cond.methodLink "TrustLedgerModel" 113 zy_Mo_satisfies ∈ za_ws := za_ws_in (List.mem_append_right _ (List.mem_of_getElem? (i := 570) (by decide +kernel))) rfl
theorem zk_572 : Cond.instanceMethod zy_Mo_satisfies ∈ za_ws := za_ws_in (List.mem_append_right _ (List.mem_of_getElem? (i := 572) (by decide +kernel))) rfl
theorem zk_573 : Cond.code zy_Mo_satisfies prog_12_method_5_code 5 (Option.some Jvm.ClassFile.FieldType.boolean) ∈ za_ws := za_ws_in (List.mem_append_right _ (List.mem_of_getElem? (i := 573) (by decide +kernel))) rfl
theorem zk_574 : Cond.methodLink "TrustLedgerModel" 109 zy_Mo_many ∈ za_ws := za_ws_in (List.mem_append_right _ (List.mem_of_getElem? (i := 574) (by decide +kernel))) rfl
theorem zk_575 : Cond.static zy_Mo_many ∈ za_ws := za_ws_in (List.mem_append_right _ (List.mem_of_getElem? (i := 575) (by decide +kernel))) rfl
theorem zk_576 : Cond.code zy_Mo_many prog_12_method_4_code 3 (Option.some Jvm.ClassFile.FieldType.int) ∈ za_ws := za_ws_in (List.mem_append_right _ (List.mem_of_getElem? (i := 576) (by decide +kernel))) rfl
theorem zk_577 : Cond.fieldLink "TrustLedgerModel" 98 "TrustLedgerModel" "faulty" "I" ∈ za_ws := za_ws_in (List.mem_append_right _ (List.mem_of_getElem? (i := 577) (by decide +kernel))) rfl
theorem zk_578 : Cond.fieldLink "TrustLedgerModel" 117 "TrustLedgerModel" "begun" "Z" ∈ za_ws := za_ws_in (List.mem_append_right _ (List.mem_of_getElem? (i := 578) (by decide +kernel))) rfl
theorem zk_579 : Cond.fieldLink "TrustLedgerModel" 7 "TrustLedgerModel" "threshold" "[I" ∈ za_ws := za_ws_in (List.mem_append_right _ (List.mem_of_getElem? (i := 579) (by decide +kernel))) rfl
theorem zk_58 : Cond.methodLink "TrustLedger" 26 zy_Node_init ∈ za_ws := za_ws_in (List.mem_append_right _ (List.mem_of_getElem? (i := 58) (by decide +kernel))) rfl
theorem zk_580 : Cond.fieldLink "TrustLedgerModel" 13 "TrustLedgerModel" "members" "[I" ∈ za_ws := za_ws_in (List.mem_append_right _ (List.mem_of_getElem? (i := 580) (by decide +kernel))) rfl
theorem zk_581 : Cond.fieldLink "TrustLedgerModel" 16 "TrustLedgerModel" "inner" "[I" ∈ za_ws := za_ws_in (List.mem_append_right _ (List.mem_of_getElem? (i := 581) (by decide +kernel))) rfl
theorem zk_582 : Cond.fieldLink "TrustLedgerModel" 19 "TrustLedgerModel" "group" "[I" ∈ za_ws := za_ws_in (List.mem_append_right _ (List.mem_of_getElem? (i := 582) (by decide +kernel))) rfl
theorem zk_583 : Cond.fieldLink "TrustLedgerModel" 22 "TrustLedgerModel" "quorum" "[Z" ∈ za_ws := za_ws_in (List.mem_append_right _ (List.mem_of_getElem? (i := 583) (by decide +kernel))) rfl
theorem zk_584 : Cond.fieldLink "TrustLedgerModel" 26 "TrustLedgerModel" "slot" "[I" ∈ za_ws := za_ws_in (List.mem_append_right _ (List.mem_of_getElem? (i := 584) (by decide +kernel))) rfl
theorem zk_585 : Cond.fieldLink "TrustLedgerModel" 29 "TrustLedgerModel" "round" "[I" ∈ za_ws := za_ws_in (List.mem_append_right _ (List.mem_of_getElem? (i := 585) (by decide +kernel))) rfl
theorem zk_586 : Cond.fieldLink "TrustLedgerModel" 32 "TrustLedgerModel" "leaders" "[I" ∈ za_ws := za_ws_in (List.mem_append_right _ (List.mem_of_getElem? (i := 586) (by decide +kernel))) rfl
theorem zk_587 : Cond.fieldLink "TrustLedgerModel" 35 "TrustLedgerModel" "counter" "[I" ∈ za_ws := za_ws_in (List.mem_append_right _ (List.mem_of_getElem? (i := 587) (by decide +kernel))) rfl
theorem zk_588 : Cond.fieldLink "TrustLedgerModel" 38 "TrustLedgerModel" "proposal" "[I" ∈ za_ws := za_ws_in (List.mem_append_right _ (List.mem_of_getElem? (i := 588) (by decide +kernel))) rfl
theorem zk_589 : Cond.fieldLink "TrustLedgerModel" 41 "TrustLedgerModel" "have" "[I" ∈ za_ws := za_ws_in (List.mem_append_right _ (List.mem_of_getElem? (i := 589) (by decide +kernel))) rfl
theorem zk_59 : Cond.instanceMethod zy_Node_init ∈ za_ws := za_ws_in (List.mem_append_right _ (List.mem_of_getElem? (i := 59) (by decide +kernel))) rfl
theorem zk_590 : Cond.fieldLink "TrustLedgerModel" 44 "TrustLedgerModel" "knows" "[I" ∈ za_ws := za_ws_in (List.mem_append_right _ (List.mem_of_getElem? (i := 590) (by decide +kernel))) rfl
theorem zk_591 : Cond.fieldLink "TrustLedgerModel" 47 "TrustLedgerModel" "values" "[I" ∈ za_ws := za_ws_in (List.mem_append_right _ (List.mem_of_getElem? (i := 591) (by decide +kernel))) rfl
theorem zk_592 : Cond.fieldLink "TrustLedgerModel" 50 "TrustLedgerModel" "headers" "[I" ∈ za_ws := za_ws_in (List.mem_append_right _ (List.mem_of_getElem? (i := 592) (by decide +kernel))) rfl
theorem zk_593 : Cond.fieldLink "TrustLedgerModel" 200 "TrustLedgerModel" "envelopes" "I" ∈ za_ws := za_ws_in (List.mem_append_right _ (List.mem_of_getElem? (i := 593) (by decide +kernel))) rfl
theorem zk_594 : Cond.fieldLink "TrustLedgerModel" 53 "TrustLedgerModel" "sender" "[I" ∈ za_ws := za_ws_in (List.mem_append_right _ (List.mem_of_getElem? (i := 594) (by decide +kernel))) rfl
theorem zk_595 : Cond.fieldLink "TrustLedgerModel" 56 "TrustLedgerModel" "about" "[I" ∈ za_ws := za_ws_in (List.mem_append_right _ (List.mem_of_getElem? (i := 595) (by decide +kernel))) rfl
theorem zk_596 : Cond.fieldLink "TrustLedgerModel" 59 "TrustLedgerModel" "says" "[I" ∈ za_ws := za_ws_in (List.mem_append_right _ (List.mem_of_getElem? (i := 596) (by decide +kernel))) rfl
theorem zk_597 : Cond.fieldLink "TrustLedgerModel" 62 "TrustLedgerModel" "isSet" "[Z" ∈ za_ws := za_ws_in (List.mem_append_right _ (List.mem_of_getElem? (i := 597) (by decide +kernel))) rfl
theorem zk_598 : Cond.fieldLink "TrustLedgerModel" 65 "TrustLedgerModel" "kinds" "[I" ∈ za_ws := za_ws_in (List.mem_append_right _ (List.mem_of_getElem? (i := 598) (by decide +kernel))) rfl
theorem zk_599 : Cond.fieldLink "TrustLedgerModel" 68 "TrustLedgerModel" "payers" "[I" ∈ za_ws := za_ws_in (List.mem_append_right _ (List.mem_of_getElem? (i := 599) (by decide +kernel))) rfl
theorem zk_6 : Cond.initialized "TrustLedger$Statements" ∈ za_ws := za_ws_in (List.mem_append_right _ (List.mem_of_getElem? (i := 6) (by decide +kernel))) rfl
theorem zk_60 : Cond.code zy_Node_init prog_5_method_1_code 4 (Option.none : Option Jvm.ClassFile.FieldType) ∈ za_ws := za_ws_in (List.mem_append_right _ (List.mem_of_getElem? (i := 60) (by decide +kernel))) rfl
theorem zk_600 : Cond.fieldLink "TrustLedgerModel" 71 "TrustLedgerModel" "whats" "[I" ∈ za_ws := za_ws_in (List.mem_append_right _ (List.mem_of_getElem? (i := 600) (by decide +kernel))) rfl
theorem zk_601 : Cond.fieldLink "TrustLedgerModel" 74 "TrustLedgerModel" "others" "[I" ∈ za_ws := za_ws_in (List.mem_append_right _ (List.mem_of_getElem? (i := 601) (by decide +kernel))) rfl
theorem zk_602 : Cond.fieldLink "TrustLedgerModel" 77 "TrustLedgerModel" "amounts" "[I" ∈ za_ws := za_ws_in (List.mem_append_right _ (List.mem_of_getElem? (i := 602) (by decide +kernel))) rfl
theorem zk_603 : Cond.fieldLink "TrustLedgerModel" 80 "TrustLedgerModel" "balances" "[I" ∈ za_ws := za_ws_in (List.mem_append_right _ (List.mem_of_getElem? (i := 603) (by decide +kernel))) rfl
theorem zk_604 : Cond.fieldLink "TrustLedgerModel" 83 "TrustLedgerModel" "resting" "[I" ∈ za_ws := za_ws_in (List.mem_append_right _ (List.mem_of_getElem? (i := 604) (by decide +kernel))) rfl
theorem zk_605 : Cond.fieldLink "TrustLedgerModel" 86 "TrustLedgerModel" "account" "[I" ∈ za_ws := za_ws_in (List.mem_append_right _ (List.mem_of_getElem? (i := 605) (by decide +kernel))) rfl
theorem zk_606 : Cond.fieldLink "TrustLedgerModel" 89 "TrustLedgerModel" "side" "[I" ∈ za_ws := za_ws_in (List.mem_append_right _ (List.mem_of_getElem? (i := 606) (by decide +kernel))) rfl
theorem zk_607 : Cond.fieldLink "TrustLedgerModel" 92 "TrustLedgerModel" "price" "[I" ∈ za_ws := za_ws_in (List.mem_append_right _ (List.mem_of_getElem? (i := 607) (by decide +kernel))) rfl
theorem zk_608 : Cond.fieldLink "TrustLedgerModel" 95 "TrustLedgerModel" "amount" "[I" ∈ za_ws := za_ws_in (List.mem_append_right _ (List.mem_of_getElem? (i := 608) (by decide +kernel))) rfl
theorem zk_61 : Cond.methodLink "TrustLedger$Node" 3 (⟨"java/lang/Object", "<init>", "()V"⟩ : MethodName) ∈ za_ws := za_ws_in (List.mem_append_right _ (List.mem_of_getElem? (i := 61) (by decide +kernel))) rfl
theorem zk_62 : Cond.classLink "TrustLedger$Node" 9 "TrustLedger$Agreement" ∈ za_ws := za_ws_in (List.mem_append_right _ (List.mem_of_getElem? (i := 62) (by decide +kernel))) rfl
theorem zk_64 : Cond.instantiable "TrustLedger$Agreement" 11 ∈ za_ws := za_ws_in (List.mem_append_right _ (List.mem_of_getElem? (i := 64) (by decide +kernel))) rfl
theorem zk_65 : Cond.methodLink "TrustLedger$Node" 17 zy_Agreement_init ∈ za_ws := za_ws_in (List.mem_append_right _ (List.mem_of_getElem? (i := 65) (by decide +kernel))) rfl
theorem zk_66 : Cond.instanceMethod zy_Agreement_init ∈ za_ws := za_ws_in (List.mem_append_right _ (List.mem_of_getElem? (i := 66) (by decide +kernel))) rfl
theorem zk_67 : Cond.code zy_Agreement_init prog_2_method_1_code 4 (Option.none : Option Jvm.ClassFile.FieldType) ∈ za_ws := za_ws_in (List.mem_append_right _ (List.mem_of_getElem? (i := 67) (by decide +kernel))) rfl
theorem zk_674 : Cond.arrayClass Jvm.ClassFile.FieldType.boolean ∈ za_ws := za_ws_in (List.mem_append_right _ (List.mem_of_getElem? (i := 674) (by decide +kernel))) rfl
theorem zk_679 : Cond.methodLink "TrustLedgerModel" 105 zy_Mo_in ∈ za_ws := za_ws_in (List.mem_append_right _ (List.mem_of_getElem? (i := 679) (by decide +kernel))) rfl
theorem zk_68 : Cond.methodLink "TrustLedger$Agreement" 3 (⟨"java/lang/Object", "<init>", "()V"⟩ : MethodName) ∈ za_ws := za_ws_in (List.mem_append_right _ (List.mem_of_getElem? (i := 68) (by decide +kernel))) rfl
theorem zk_680 : Cond.static zy_Mo_in ∈ za_ws := za_ws_in (List.mem_append_right _ (List.mem_of_getElem? (i := 680) (by decide +kernel))) rfl
theorem zk_681 : Cond.code zy_Mo_in prog_12_method_2_code 3 (Option.some Jvm.ClassFile.FieldType.boolean) ∈ za_ws := za_ws_in (List.mem_append_right _ (List.mem_of_getElem? (i := 681) (by decide +kernel))) rfl
theorem zk_686 : Cond.methodLink "TrustLedgerModel" 190 zy_Mo_good ∈ za_ws := za_ws_in (List.mem_append_right _ (List.mem_of_getElem? (i := 686) (by decide +kernel))) rfl
theorem zk_688 : Cond.instanceMethod zy_Mo_good ∈ za_ws := za_ws_in (List.mem_append_right _ (List.mem_of_getElem? (i := 688) (by decide +kernel))) rfl
theorem zk_689 : Cond.code zy_Mo_good prog_12_method_3_code 2 (Option.some Jvm.ClassFile.FieldType.boolean) ∈ za_ws := za_ws_in (List.mem_append_right _ (List.mem_of_getElem? (i := 689) (by decide +kernel))) rfl
theorem zk_69 : Cond.classLink "TrustLedger$Agreement" 28 "TrustLedger$Statements" ∈ za_ws := za_ws_in (List.mem_append_right _ (List.mem_of_getElem? (i := 69) (by decide +kernel))) rfl
theorem zk_690 : Cond.methodLink "TrustLedgerModel" 193 zy_Mo_newRound ∈ za_ws := za_ws_in (List.mem_append_right _ (List.mem_of_getElem? (i := 690) (by decide +kernel))) rfl
theorem zk_692 : Cond.instanceMethod zy_Mo_newRound ∈ za_ws := za_ws_in (List.mem_append_right _ (List.mem_of_getElem? (i := 692) (by decide +kernel))) rfl
theorem zk_693 : Cond.code zy_Mo_newRound prog_12_method_29_code 7 (Option.none : Option Jvm.ClassFile.FieldType) ∈ za_ws := za_ws_in (List.mem_append_right _ (List.mem_of_getElem? (i := 693) (by decide +kernel))) rfl
theorem zk_694 : Cond.methodLink "TrustLedgerModel" 197 zy_Mo_stir ∈ za_ws := za_ws_in (List.mem_append_right _ (List.mem_of_getElem? (i := 694) (by decide +kernel))) rfl
theorem zk_696 : Cond.instanceMethod zy_Mo_stir ∈ za_ws := za_ws_in (List.mem_append_right _ (List.mem_of_getElem? (i := 696) (by decide +kernel))) rfl
theorem zk_697 : Cond.code zy_Mo_stir prog_12_method_27_code 5 (Option.none : Option Jvm.ClassFile.FieldType) ∈ za_ws := za_ws_in (List.mem_append_right _ (List.mem_of_getElem? (i := 697) (by decide +kernel))) rfl
theorem zk_698 : Cond.methodLink "TrustLedgerModel" 172 zy_Mo_ruleA ∈ za_ws := za_ws_in (List.mem_append_right _ (List.mem_of_getElem? (i := 698) (by decide +kernel))) rfl
theorem zk_7 : Cond.initialized "TrustLedger$Ledger" ∈ za_ws := za_ws_in (List.mem_append_right _ (List.mem_of_getElem? (i := 7) (by decide +kernel))) rfl
theorem zk_70 : Cond.instantiable "TrustLedger$Statements" 6 ∈ za_ws := za_ws_in (List.mem_append_right _ (List.mem_of_getElem? (i := 70) (by decide +kernel))) rfl
theorem zk_700 : Cond.instanceMethod zy_Mo_ruleA ∈ za_ws := za_ws_in (List.mem_append_right _ (List.mem_of_getElem? (i := 700) (by decide +kernel))) rfl
theorem zk_701 : Cond.code zy_Mo_ruleA prog_12_method_21_code 6 (Option.some Jvm.ClassFile.FieldType.boolean) ∈ za_ws := za_ws_in (List.mem_append_right _ (List.mem_of_getElem? (i := 701) (by decide +kernel))) rfl
theorem zk_702 : Cond.methodLink "TrustLedgerModel" 121 zy_Mo_place ∈ za_ws := za_ws_in (List.mem_append_right _ (List.mem_of_getElem? (i := 702) (by decide +kernel))) rfl
theorem zk_704 : Cond.instanceMethod zy_Mo_place ∈ za_ws := za_ws_in (List.mem_append_right _ (List.mem_of_getElem? (i := 704) (by decide +kernel))) rfl
theorem zk_705 : Cond.code zy_Mo_place prog_12_method_9_code 4 (Option.some Jvm.ClassFile.FieldType.int) ∈ za_ws := za_ws_in (List.mem_append_right _ (List.mem_of_getElem? (i := 705) (by decide +kernel))) rfl
theorem zk_706 : Cond.methodLink "TrustLedgerModel" 139 zy_Mo_nodes ∈ za_ws := za_ws_in (List.mem_append_right _ (List.mem_of_getElem? (i := 706) (by decide +kernel))) rfl
theorem zk_708 : Cond.instanceMethod zy_Mo_nodes ∈ za_ws := za_ws_in (List.mem_append_right _ (List.mem_of_getElem? (i := 708) (by decide +kernel))) rfl
theorem zk_709 : Cond.code zy_Mo_nodes prog_12_method_12_code 10 (Option.some Jvm.ClassFile.FieldType.int) ∈ za_ws := za_ws_in (List.mem_append_right _ (List.mem_of_getElem? (i := 709) (by decide +kernel))) rfl
theorem zk_71 : Cond.methodLink "TrustLedger$Agreement" 30 zy_Statements_init ∈ za_ws := za_ws_in (List.mem_append_right _ (List.mem_of_getElem? (i := 71) (by decide +kernel))) rfl
theorem zk_710 : Cond.methodLink "TrustLedgerModel" 125 zy_Mo_has ∈ za_ws := za_ws_in (List.mem_append_right _ (List.mem_of_getElem? (i := 710) (by decide +kernel))) rfl
theorem zk_712 : Cond.instanceMethod zy_Mo_has ∈ za_ws := za_ws_in (List.mem_append_right _ (List.mem_of_getElem? (i := 712) (by decide +kernel))) rfl
theorem zk_713 : Cond.code zy_Mo_has prog_12_method_10_code 5 (Option.some Jvm.ClassFile.FieldType.boolean) ∈ za_ws := za_ws_in (List.mem_append_right _ (List.mem_of_getElem? (i := 713) (by decide +kernel))) rfl
theorem zk_714 : Cond.methodLink "TrustLedgerModel" 152 zy_Mo_put ∈ za_ws := za_ws_in (List.mem_append_right _ (List.mem_of_getElem? (i := 714) (by decide +kernel))) rfl
theorem zk_716 : Cond.instanceMethod zy_Mo_put ∈ za_ws := za_ws_in (List.mem_append_right _ (List.mem_of_getElem? (i := 716) (by decide +kernel))) rfl
theorem zk_717 : Cond.code zy_Mo_put prog_12_method_11_code 7 (Option.some Jvm.ClassFile.FieldType.boolean) ∈ za_ws := za_ws_in (List.mem_append_right _ (List.mem_of_getElem? (i := 717) (by decide +kernel))) rfl
theorem zk_718 : Cond.methodLink "TrustLedgerModel" 165 zy_Mo_accept ∈ za_ws := za_ws_in (List.mem_append_right _ (List.mem_of_getElem? (i := 718) (by decide +kernel))) rfl
theorem zk_72 : Cond.instanceMethod zy_Statements_init ∈ za_ws := za_ws_in (List.mem_append_right _ (List.mem_of_getElem? (i := 72) (by decide +kernel))) rfl
theorem zk_720 : Cond.instanceMethod zy_Mo_accept ∈ za_ws := za_ws_in (List.mem_append_right _ (List.mem_of_getElem? (i := 720) (by decide +kernel))) rfl
theorem zk_721 : Cond.code zy_Mo_accept prog_12_method_22_code 7 (Option.some Jvm.ClassFile.FieldType.boolean) ∈ za_ws := za_ws_in (List.mem_append_right _ (List.mem_of_getElem? (i := 721) (by decide +kernel))) rfl
theorem zk_722 : Cond.methodLink "TrustLedgerModel" 155 zy_Mo_mayAccept ∈ za_ws := za_ws_in (List.mem_append_right _ (List.mem_of_getElem? (i := 722) (by decide +kernel))) rfl
theorem zk_724 : Cond.instanceMethod zy_Mo_mayAccept ∈ za_ws := za_ws_in (List.mem_append_right _ (List.mem_of_getElem? (i := 724) (by decide +kernel))) rfl
theorem zk_725 : Cond.code zy_Mo_mayAccept prog_12_method_16_code 7 (Option.some Jvm.ClassFile.FieldType.boolean) ∈ za_ws := za_ws_in (List.mem_append_right _ (List.mem_of_getElem? (i := 725) (by decide +kernel))) rfl
theorem zk_726 : Cond.methodLink "TrustLedgerModel" 135 zy_Mo_clash ∈ za_ws := za_ws_in (List.mem_append_right _ (List.mem_of_getElem? (i := 726) (by decide +kernel))) rfl
theorem zk_728 : Cond.instanceMethod zy_Mo_clash ∈ za_ws := za_ws_in (List.mem_append_right _ (List.mem_of_getElem? (i := 728) (by decide +kernel))) rfl
theorem zk_729 : Cond.code zy_Mo_clash prog_12_method_15_code 8 (Option.some Jvm.ClassFile.FieldType.boolean) ∈ za_ws := za_ws_in (List.mem_append_right _ (List.mem_of_getElem? (i := 729) (by decide +kernel))) rfl
theorem zk_73 : Cond.code zy_Statements_init prog_8_method_1_code 3 (Option.none : Option Jvm.ClassFile.FieldType) ∈ za_ws := za_ws_in (List.mem_append_right _ (List.mem_of_getElem? (i := 73) (by decide +kernel))) rfl
theorem zk_730 : Cond.methodLink "TrustLedgerModel" 132 zy_Mo_aborts ∈ za_ws := za_ws_in (List.mem_append_right _ (List.mem_of_getElem? (i := 730) (by decide +kernel))) rfl
theorem zk_731 : Cond.static zy_Mo_aborts ∈ za_ws := za_ws_in (List.mem_append_right _ (List.mem_of_getElem? (i := 731) (by decide +kernel))) rfl
theorem zk_732 : Cond.code zy_Mo_aborts prog_12_method_14_code 2 (Option.some Jvm.ClassFile.FieldType.boolean) ∈ za_ws := za_ws_in (List.mem_append_right _ (List.mem_of_getElem? (i := 732) (by decide +kernel))) rfl
theorem zk_733 : Cond.methodLink "TrustLedgerModel" 129 zy_Mo_worth ∈ za_ws := za_ws_in (List.mem_append_right _ (List.mem_of_getElem? (i := 733) (by decide +kernel))) rfl
theorem zk_734 : Cond.static zy_Mo_worth ∈ za_ws := za_ws_in (List.mem_append_right _ (List.mem_of_getElem? (i := 734) (by decide +kernel))) rfl
theorem zk_735 : Cond.code zy_Mo_worth prog_12_method_13_code 1 (Option.some Jvm.ClassFile.FieldType.int) ∈ za_ws := za_ws_in (List.mem_append_right _ (List.mem_of_getElem? (i := 735) (by decide +kernel))) rfl
theorem zk_736 : Cond.methodLink "TrustLedgerModel" 143 zy_Mo_gives ∈ za_ws := za_ws_in (List.mem_append_right _ (List.mem_of_getElem? (i := 736) (by decide +kernel))) rfl
theorem zk_738 : Cond.instanceMethod zy_Mo_gives ∈ za_ws := za_ws_in (List.mem_append_right _ (List.mem_of_getElem? (i := 738) (by decide +kernel))) rfl
theorem zk_739 : Cond.code zy_Mo_gives prog_12_method_7_code 4 (Option.some Jvm.ClassFile.FieldType.boolean) ∈ za_ws := za_ws_in (List.mem_append_right _ (List.mem_of_getElem? (i := 739) (by decide +kernel))) rfl
theorem zk_74 : Cond.methodLink "TrustLedger$Statements" 3 (⟨"java/lang/Object", "<init>", "()V"⟩ : MethodName) ∈ za_ws := za_ws_in (List.mem_append_right _ (List.mem_of_getElem? (i := 74) (by decide +kernel))) rfl
theorem zk_740 : Cond.methodLink "TrustLedgerModel" 175 zy_Mo_confirm ∈ za_ws := za_ws_in (List.mem_append_right _ (List.mem_of_getElem? (i := 740) (by decide +kernel))) rfl
theorem zk_742 : Cond.instanceMethod zy_Mo_confirm ∈ za_ws := za_ws_in (List.mem_append_right _ (List.mem_of_getElem? (i := 742) (by decide +kernel))) rfl
theorem zk_743 : Cond.code zy_Mo_confirm prog_12_method_23_code 7 (Option.some Jvm.ClassFile.FieldType.boolean) ∈ za_ws := za_ws_in (List.mem_append_right _ (List.mem_of_getElem? (i := 743) (by decide +kernel))) rfl
theorem zk_744 : Cond.methodLink "TrustLedgerModel" 158 zy_Mo_mayConfirm ∈ za_ws := za_ws_in (List.mem_append_right _ (List.mem_of_getElem? (i := 744) (by decide +kernel))) rfl
theorem zk_746 : Cond.instanceMethod zy_Mo_mayConfirm ∈ za_ws := za_ws_in (List.mem_append_right _ (List.mem_of_getElem? (i := 746) (by decide +kernel))) rfl
theorem zk_747 : Cond.code zy_Mo_mayConfirm prog_12_method_17_code 5 (Option.some Jvm.ClassFile.FieldType.boolean) ∈ za_ws := za_ws_in (List.mem_append_right _ (List.mem_of_getElem? (i := 747) (by decide +kernel))) rfl
theorem zk_748 : Cond.methodLink "TrustLedgerModel" 178 zy_Mo_ruleD ∈ za_ws := za_ws_in (List.mem_append_right _ (List.mem_of_getElem? (i := 748) (by decide +kernel))) rfl
theorem zk_75 : Cond.fieldLink "TrustLedger$Statements" 9 "TrustLedger$Statements" "self" "I" ∈ za_ws := za_ws_in (List.mem_append_right _ (List.mem_of_getElem? (i := 75) (by decide +kernel))) rfl
theorem zk_750 : Cond.instanceMethod zy_Mo_ruleD ∈ za_ws := za_ws_in (List.mem_append_right _ (List.mem_of_getElem? (i := 750) (by decide +kernel))) rfl
theorem zk_751 : Cond.code zy_Mo_ruleD prog_12_method_24_code 2 (Option.some Jvm.ClassFile.FieldType.boolean) ∈ za_ws := za_ws_in (List.mem_append_right _ (List.mem_of_getElem? (i := 751) (by decide +kernel))) rfl
theorem zk_752 : Cond.methodLink "TrustLedgerModel" 146 zy_Mo_composite ∈ za_ws := za_ws_in (List.mem_append_right _ (List.mem_of_getElem? (i := 752) (by decide +kernel))) rfl
theorem zk_754 : Cond.instanceMethod zy_Mo_composite ∈ za_ws := za_ws_in (List.mem_append_right _ (List.mem_of_getElem? (i := 754) (by decide +kernel))) rfl
theorem zk_755 : Cond.code zy_Mo_composite prog_12_method_18_code 4 (Option.some Jvm.ClassFile.FieldType.int) ∈ za_ws := za_ws_in (List.mem_append_right _ (List.mem_of_getElem? (i := 755) (by decide +kernel))) rfl
theorem zk_756 : Cond.methodLink "TrustLedgerModel" 161 zy_Mo_votePrepare ∈ za_ws := za_ws_in (List.mem_append_right _ (List.mem_of_getElem? (i := 756) (by decide +kernel))) rfl
theorem zk_758 : Cond.instanceMethod zy_Mo_votePrepare ∈ za_ws := za_ws_in (List.mem_append_right _ (List.mem_of_getElem? (i := 758) (by decide +kernel))) rfl
theorem zk_759 : Cond.code zy_Mo_votePrepare prog_12_method_20_code 3 (Option.some Jvm.ClassFile.FieldType.boolean) ∈ za_ws := za_ws_in (List.mem_append_right _ (List.mem_of_getElem? (i := 759) (by decide +kernel))) rfl
theorem zk_76 : Cond.fieldLink "TrustLedger$Statements" 15 "TrustLedger$Statements" "quorums" "LTrustLedger$Quorums;" ∈ za_ws := za_ws_in (List.mem_append_right _ (List.mem_of_getElem? (i := 76) (by decide +kernel))) rfl
theorem zk_760 : Cond.methodLink "TrustLedgerModel" 149 zy_Mo_toPrepare ∈ za_ws := za_ws_in (List.mem_append_right _ (List.mem_of_getElem? (i := 760) (by decide +kernel))) rfl
theorem zk_762 : Cond.instanceMethod zy_Mo_toPrepare ∈ za_ws := za_ws_in (List.mem_append_right _ (List.mem_of_getElem? (i := 762) (by decide +kernel))) rfl
theorem zk_763 : Cond.code zy_Mo_toPrepare prog_12_method_19_code 3 (Option.some Jvm.ClassFile.FieldType.int) ∈ za_ws := za_ws_in (List.mem_append_right _ (List.mem_of_getElem? (i := 763) (by decide +kernel))) rfl
theorem zk_764 : Cond.methodLink "TrustLedgerModel" 181 zy_Mo_ruleG ∈ za_ws := za_ws_in (List.mem_append_right _ (List.mem_of_getElem? (i := 764) (by decide +kernel))) rfl
theorem zk_766 : Cond.instanceMethod zy_Mo_ruleG ∈ za_ws := za_ws_in (List.mem_append_right _ (List.mem_of_getElem? (i := 766) (by decide +kernel))) rfl
theorem zk_767 : Cond.code zy_Mo_ruleG prog_12_method_25_code 5 (Option.some Jvm.ClassFile.FieldType.boolean) ∈ za_ws := za_ws_in (List.mem_append_right _ (List.mem_of_getElem? (i := 767) (by decide +kernel))) rfl
theorem zk_768 : Cond.methodLink "TrustLedgerModel" 184 zy_Mo_ruleH ∈ za_ws := za_ws_in (List.mem_append_right _ (List.mem_of_getElem? (i := 768) (by decide +kernel))) rfl
theorem zk_77 : Cond.fieldLink "TrustLedger$Statements" 26 "TrustLedger$Statements" "voted" "I" ∈ za_ws := za_ws_in (List.mem_append_right _ (List.mem_of_getElem? (i := 77) (by decide +kernel))) rfl
theorem zk_770 : Cond.instanceMethod zy_Mo_ruleH ∈ za_ws := za_ws_in (List.mem_append_right _ (List.mem_of_getElem? (i := 770) (by decide +kernel))) rfl
theorem zk_771 : Cond.code zy_Mo_ruleH prog_12_method_26_code 5 (Option.some Jvm.ClassFile.FieldType.int) ∈ za_ws := za_ws_in (List.mem_append_right _ (List.mem_of_getElem? (i := 771) (by decide +kernel))) rfl
theorem zk_772 : Cond.methodLink "TrustLedgerModel" 168 zy_Mo_externalize ∈ za_ws := za_ws_in (List.mem_append_right _ (List.mem_of_getElem? (i := 772) (by decide +kernel))) rfl
theorem zk_774 : Cond.instanceMethod zy_Mo_externalize ∈ za_ws := za_ws_in (List.mem_append_right _ (List.mem_of_getElem? (i := 774) (by decide +kernel))) rfl
theorem zk_775 : Cond.code zy_Mo_externalize prog_12_method_28_code 5 (Option.none : Option Jvm.ClassFile.FieldType) ∈ za_ws := za_ws_in (List.mem_append_right _ (List.mem_of_getElem? (i := 775) (by decide +kernel))) rfl
theorem zk_776 : Cond.methodLink "TrustLedgerModel" 187 zy_Mo_carry ∈ za_ws := za_ws_in (List.mem_append_right _ (List.mem_of_getElem? (i := 776) (by decide +kernel))) rfl
theorem zk_778 : Cond.instanceMethod zy_Mo_carry ∈ za_ws := za_ws_in (List.mem_append_right _ (List.mem_of_getElem? (i := 778) (by decide +kernel))) rfl
theorem zk_779 : Cond.code zy_Mo_carry prog_12_method_38_code 5 (Option.none : Option Jvm.ClassFile.FieldType) ∈ za_ws := za_ws_in (List.mem_append_right _ (List.mem_of_getElem? (i := 779) (by decide +kernel))) rfl
theorem zk_780 : Cond.methodLink "TrustLedgerModel" 208 zy_Mo_trade ∈ za_ws := za_ws_in (List.mem_append_right _ (List.mem_of_getElem? (i := 780) (by decide +kernel))) rfl
theorem zk_782 : Cond.instanceMethod zy_Mo_trade ∈ za_ws := za_ws_in (List.mem_append_right _ (List.mem_of_getElem? (i := 782) (by decide +kernel))) rfl
theorem zk_783 : Cond.code zy_Mo_trade prog_12_method_41_code 9 (Option.none : Option Jvm.ClassFile.FieldType) ∈ za_ws := za_ws_in (List.mem_append_right _ (List.mem_of_getElem? (i := 783) (by decide +kernel))) rfl
theorem zk_784 : Cond.methodLink "TrustLedgerModel" 211 zy_Mo_best ∈ za_ws := za_ws_in (List.mem_append_right _ (List.mem_of_getElem? (i := 784) (by decide +kernel))) rfl
theorem zk_786 : Cond.instanceMethod zy_Mo_best ∈ za_ws := za_ws_in (List.mem_append_right _ (List.mem_of_getElem? (i := 786) (by decide +kernel))) rfl
theorem zk_787 : Cond.code zy_Mo_best prog_12_method_39_code 8 (Option.some Jvm.ClassFile.FieldType.int) ∈ za_ws := za_ws_in (List.mem_append_right _ (List.mem_of_getElem? (i := 787) (by decide +kernel))) rfl
theorem zk_788 : Cond.methodLink "TrustLedgerModel" 214 zy_Mo_cross ∈ za_ws := za_ws_in (List.mem_append_right _ (List.mem_of_getElem? (i := 788) (by decide +kernel))) rfl
theorem zk_79 : Cond.fieldLink "TrustLedger$Statements" 52 "TrustLedger$Statements" "confirmed" "I" ∈ za_ws := za_ws_in (List.mem_append_right _ (List.mem_of_getElem? (i := 79) (by decide +kernel))) rfl
theorem zk_790 : Cond.instanceMethod zy_Mo_cross ∈ za_ws := za_ws_in (List.mem_append_right _ (List.mem_of_getElem? (i := 790) (by decide +kernel))) rfl
theorem zk_791 : Cond.code zy_Mo_cross prog_12_method_42_code 10 (Option.some Jvm.ClassFile.FieldType.int) ∈ za_ws := za_ws_in (List.mem_append_right _ (List.mem_of_getElem? (i := 791) (by decide +kernel))) rfl
theorem zk_792 : Cond.methodLink "TrustLedgerModel" 218 zy_Mo_remove ∈ za_ws := za_ws_in (List.mem_append_right _ (List.mem_of_getElem? (i := 792) (by decide +kernel))) rfl
theorem zk_794 : Cond.instanceMethod zy_Mo_remove ∈ za_ws := za_ws_in (List.mem_append_right _ (List.mem_of_getElem? (i := 794) (by decide +kernel))) rfl
theorem zk_795 : Cond.code zy_Mo_remove prog_12_method_40_code 4 (Option.none : Option Jvm.ClassFile.FieldType) ∈ za_ws := za_ws_in (List.mem_append_right _ (List.mem_of_getElem? (i := 795) (by decide +kernel))) rfl
theorem zk_8 : Cond.initialized "TrustLedgerModel" ∈ za_ws := za_ws_in (List.mem_append_right _ (List.mem_of_getElem? (i := 8) (by decide +kernel))) rfl
theorem zk_804 : Cond.methodLink "TrustLedgerModel" 203 zy_Mo_sealed ∈ za_ws := za_ws_in (List.mem_append_right _ (List.mem_of_getElem? (i := 804) (by decide +kernel))) rfl
theorem zk_806 : Cond.instanceMethod zy_Mo_sealed ∈ za_ws := za_ws_in (List.mem_append_right _ (List.mem_of_getElem? (i := 806) (by decide +kernel))) rfl
theorem zk_807 : Cond.code zy_Mo_sealed prog_12_method_33_code 3 (Option.some Jvm.ClassFile.FieldType.int) ∈ za_ws := za_ws_in (List.mem_append_right _ (List.mem_of_getElem? (i := 807) (by decide +kernel))) rfl
theorem zk_812 : Cond.constant "TrustLedgerModel" 207 (268435455 : Int32) ∈ za_ws := za_ws_in (List.mem_append_right _ (List.mem_of_getElem? (i := 812) (by decide +kernel))) rfl
theorem zk_82 : Cond.fieldLink "TrustLedger$Statements" 19 "TrustLedger$Statements" "backed" "[I" ∈ za_ws := za_ws_in (List.mem_append_right _ (List.mem_of_getElem? (i := 82) (by decide +kernel))) rfl
theorem zk_85 : Cond.fieldLink "TrustLedger$Statements" 23 "TrustLedger$Statements" "accepted" "[I" ∈ za_ws := za_ws_in (List.mem_append_right _ (List.mem_of_getElem? (i := 85) (by decide +kernel))) rfl
theorem zk_9 : Cond.initialized "TrustLedger$Transaction" ∈ za_ws := za_ws_in (List.mem_append_right _ (List.mem_of_getElem? (i := 9) (by decide +kernel))) rfl
theorem zk_p0 : Cond.selects "TrustLedger" zy_TL_isLeft zy_TL_isLeft ∈ za_ws := za_ws_in (List.mem_append_left _ (List.mem_of_getElem? (i := 0) (by decide +kernel))) rfl
theorem zk_p1 : Cond.selects "TrustLedger" zy_TL_isAtWork zy_TL_isAtWork ∈ za_ws := za_ws_in (List.mem_append_left _ (List.mem_of_getElem? (i := 1) (by decide +kernel))) rfl
theorem zk_p10 : Cond.selects "TrustLedger$Agreement" zy_Agreement_valueToPrepare zy_Agreement_valueToPrepare ∈ za_ws := za_ws_in (List.mem_append_left _ (List.mem_of_getElem? (i := 10) (by decide +kernel))) rfl
theorem zk_p11 : Cond.selects "TrustLedger$Agreement" zy_Agreement_acceptPrepare zy_Agreement_acceptPrepare ∈ za_ws := za_ws_in (List.mem_append_left _ (List.mem_of_getElem? (i := 11) (by decide +kernel))) rfl
theorem zk_p12 : Cond.selects "TrustLedger$Agreement" zy_Agreement_confirmPrepare zy_Agreement_confirmPrepare ∈ za_ws := za_ws_in (List.mem_append_left _ (List.mem_of_getElem? (i := 12) (by decide +kernel))) rfl
theorem zk_p13 : Cond.selects "TrustLedger$Agreement" zy_Agreement_voteCommit zy_Agreement_voteCommit ∈ za_ws := za_ws_in (List.mem_append_left _ (List.mem_of_getElem? (i := 13) (by decide +kernel))) rfl
theorem zk_p14 : Cond.selects "TrustLedger$Agreement" zy_Agreement_settleCommit zy_Agreement_settleCommit ∈ za_ws := za_ws_in (List.mem_append_left _ (List.mem_of_getElem? (i := 14) (by decide +kernel))) rfl
theorem zk_p15 : Cond.selects "TrustLedger" zy_TL_closeSlot zy_TL_closeSlot ∈ za_ws := za_ws_in (List.mem_append_left _ (List.mem_of_getElem? (i := 15) (by decide +kernel))) rfl
theorem zk_p16 : Cond.selects "TrustLedger$Ledger" zy_Ledger_match zy_Ledger_match ∈ za_ws := za_ws_in (List.mem_append_left _ (List.mem_of_getElem? (i := 16) (by decide +kernel))) rfl
theorem zk_p17 : Cond.selects "TrustLedger$Ledger" zy_Ledger_bestFor zy_Ledger_bestFor ∈ za_ws := za_ws_in (List.mem_append_left _ (List.mem_of_getElem? (i := 17) (by decide +kernel))) rfl
theorem zk_p18 : Cond.selects "TrustLedger$Ledger" zy_Ledger_tradeWith zy_Ledger_tradeWith ∈ za_ws := za_ws_in (List.mem_append_left _ (List.mem_of_getElem? (i := 18) (by decide +kernel))) rfl
theorem zk_p19 : Cond.selects "TrustLedger$Ledger" zy_Ledger_canServe zy_Ledger_canServe ∈ za_ws := za_ws_in (List.mem_append_left _ (List.mem_of_getElem? (i := 19) (by decide +kernel))) rfl
theorem zk_p2 : Cond.selects "TrustLedger" zy_TL_isGood zy_TL_isGood ∈ za_ws := za_ws_in (List.mem_append_left _ (List.mem_of_getElem? (i := 2) (by decide +kernel))) rfl
theorem zk_p20 : Cond.selects "TrustLedger$Ledger" zy_Ledger_move zy_Ledger_move ∈ za_ws := za_ws_in (List.mem_append_left _ (List.mem_of_getElem? (i := 20) (by decide +kernel))) rfl
theorem zk_p21 : Cond.selects "TrustLedger$Ledger" zy_Ledger_takeOut zy_Ledger_takeOut ∈ za_ws := za_ws_in (List.mem_append_left _ (List.mem_of_getElem? (i := 21) (by decide +kernel))) rfl
theorem zk_p22 : Cond.selects "TrustLedger" zy_TL_keepEnvelope zy_TL_keepEnvelope ∈ za_ws := za_ws_in (List.mem_append_left _ (List.mem_of_getElem? (i := 22) (by decide +kernel))) rfl
theorem zk_p23 : Cond.selects "TrustLedgerModel" zy_Mo_table zy_Mo_table ∈ za_ws := za_ws_in (List.mem_append_left _ (List.mem_of_getElem? (i := 23) (by decide +kernel))) rfl
theorem zk_p24 : Cond.selects "TrustLedgerModel" zy_Mo_satisfies zy_Mo_satisfies ∈ za_ws := za_ws_in (List.mem_append_left _ (List.mem_of_getElem? (i := 24) (by decide +kernel))) rfl
theorem zk_p25 : Cond.selects "TrustLedgerModel" zy_Mo_good zy_Mo_good ∈ za_ws := za_ws_in (List.mem_append_left _ (List.mem_of_getElem? (i := 25) (by decide +kernel))) rfl
theorem zk_p26 : Cond.selects "TrustLedgerModel" zy_Mo_newRound zy_Mo_newRound ∈ za_ws := za_ws_in (List.mem_append_left _ (List.mem_of_getElem? (i := 26) (by decide +kernel))) rfl
theorem zk_p27 : Cond.selects "TrustLedgerModel" zy_Mo_stir zy_Mo_stir ∈ za_ws := za_ws_in (List.mem_append_left _ (List.mem_of_getElem? (i := 27) (by decide +kernel))) rfl
theorem zk_p28 : Cond.selects "TrustLedgerModel" zy_Mo_ruleA zy_Mo_ruleA ∈ za_ws := za_ws_in (List.mem_append_left _ (List.mem_of_getElem? (i := 28) (by decide +kernel))) rfl
theorem zk_p29 : Cond.selects "TrustLedgerModel" zy_Mo_place zy_Mo_place ∈ za_ws := za_ws_in (List.mem_append_left _ (List.mem_of_getElem? (i := 29) (by decide +kernel))) rfl
theorem zk_p3 : Cond.selects "TrustLedger$Agreement" zy_Agreement_beginRound zy_Agreement_beginRound ∈ za_ws := za_ws_in (List.mem_append_left _ (List.mem_of_getElem? (i := 3) (by decide +kernel))) rfl
theorem zk_p30 : Cond.selects "TrustLedgerModel" zy_Mo_nodes zy_Mo_nodes ∈ za_ws := za_ws_in (List.mem_append_left _ (List.mem_of_getElem? (i := 30) (by decide +kernel))) rfl
theorem zk_p31 : Cond.selects "TrustLedgerModel" zy_Mo_has zy_Mo_has ∈ za_ws := za_ws_in (List.mem_append_left _ (List.mem_of_getElem? (i := 31) (by decide +kernel))) rfl
theorem zk_p32 : Cond.selects "TrustLedgerModel" zy_Mo_put zy_Mo_put ∈ za_ws := za_ws_in (List.mem_append_left _ (List.mem_of_getElem? (i := 32) (by decide +kernel))) rfl
theorem zk_p33 : Cond.selects "TrustLedgerModel" zy_Mo_accept zy_Mo_accept ∈ za_ws := za_ws_in (List.mem_append_left _ (List.mem_of_getElem? (i := 33) (by decide +kernel))) rfl
theorem zk_p34 : Cond.selects "TrustLedgerModel" zy_Mo_mayAccept zy_Mo_mayAccept ∈ za_ws := za_ws_in (List.mem_append_left _ (List.mem_of_getElem? (i := 34) (by decide +kernel))) rfl
theorem zk_p35 : Cond.selects "TrustLedgerModel" zy_Mo_clash zy_Mo_clash ∈ za_ws := za_ws_in (List.mem_append_left _ (List.mem_of_getElem? (i := 35) (by decide +kernel))) rfl
theorem zk_p36 : Cond.selects "TrustLedgerModel" zy_Mo_gives zy_Mo_gives ∈ za_ws := za_ws_in (List.mem_append_left _ (List.mem_of_getElem? (i := 36) (by decide +kernel))) rfl
theorem zk_p37 : Cond.selects "TrustLedgerModel" zy_Mo_confirm zy_Mo_confirm ∈ za_ws := za_ws_in (List.mem_append_left _ (List.mem_of_getElem? (i := 37) (by decide +kernel))) rfl
theorem zk_p38 : Cond.selects "TrustLedgerModel" zy_Mo_mayConfirm zy_Mo_mayConfirm ∈ za_ws := za_ws_in (List.mem_append_left _ (List.mem_of_getElem? (i := 38) (by decide +kernel))) rfl
theorem zk_p39 : Cond.selects "TrustLedgerModel" zy_Mo_ruleD zy_Mo_ruleD ∈ za_ws := za_ws_in (List.mem_append_left _ (List.mem_of_getElem? (i := 39) (by decide +kernel))) rfl
theorem zk_p4 : Cond.selects "TrustLedger$Agreement" zy_Agreement_voteNominate zy_Agreement_voteNominate ∈ za_ws := za_ws_in (List.mem_append_left _ (List.mem_of_getElem? (i := 4) (by decide +kernel))) rfl
theorem zk_p40 : Cond.selects "TrustLedgerModel" zy_Mo_composite zy_Mo_composite ∈ za_ws := za_ws_in (List.mem_append_left _ (List.mem_of_getElem? (i := 40) (by decide +kernel))) rfl
theorem zk_p41 : Cond.selects "TrustLedgerModel" zy_Mo_votePrepare zy_Mo_votePrepare ∈ za_ws := za_ws_in (List.mem_append_left _ (List.mem_of_getElem? (i := 41) (by decide +kernel))) rfl
theorem zk_p42 : Cond.selects "TrustLedgerModel" zy_Mo_toPrepare zy_Mo_toPrepare ∈ za_ws := za_ws_in (List.mem_append_left _ (List.mem_of_getElem? (i := 42) (by decide +kernel))) rfl
theorem zk_p43 : Cond.selects "TrustLedgerModel" zy_Mo_ruleG zy_Mo_ruleG ∈ za_ws := za_ws_in (List.mem_append_left _ (List.mem_of_getElem? (i := 43) (by decide +kernel))) rfl
theorem zk_p44 : Cond.selects "TrustLedgerModel" zy_Mo_ruleH zy_Mo_ruleH ∈ za_ws := za_ws_in (List.mem_append_left _ (List.mem_of_getElem? (i := 44) (by decide +kernel))) rfl
theorem zk_p45 : Cond.selects "TrustLedgerModel" zy_Mo_externalize zy_Mo_externalize ∈ za_ws := za_ws_in (List.mem_append_left _ (List.mem_of_getElem? (i := 45) (by decide +kernel))) rfl
theorem zk_p46 : Cond.selects "TrustLedgerModel" zy_Mo_carry zy_Mo_carry ∈ za_ws := za_ws_in (List.mem_append_left _ (List.mem_of_getElem? (i := 46) (by decide +kernel))) rfl
theorem zk_p47 : Cond.selects "TrustLedgerModel" zy_Mo_trade zy_Mo_trade ∈ za_ws := za_ws_in (List.mem_append_left _ (List.mem_of_getElem? (i := 47) (by decide +kernel))) rfl
theorem zk_p48 : Cond.selects "TrustLedgerModel" zy_Mo_best zy_Mo_best ∈ za_ws := za_ws_in (List.mem_append_left _ (List.mem_of_getElem? (i := 48) (by decide +kernel))) rfl
theorem zk_p49 : Cond.selects "TrustLedgerModel" zy_Mo_cross zy_Mo_cross ∈ za_ws := za_ws_in (List.mem_append_left _ (List.mem_of_getElem? (i := 49) (by decide +kernel))) rfl
theorem zk_p5 : Cond.selects "TrustLedger$Agreement" zy_Agreement_acceptNominate zy_Agreement_acceptNominate ∈ za_ws := za_ws_in (List.mem_append_left _ (List.mem_of_getElem? (i := 5) (by decide +kernel))) rfl
theorem zk_p50 : Cond.selects "TrustLedgerModel" zy_Mo_remove zy_Mo_remove ∈ za_ws := za_ws_in (List.mem_append_left _ (List.mem_of_getElem? (i := 50) (by decide +kernel))) rfl
theorem zk_p51 : Cond.selects "TrustLedgerModel" zy_Mo_sealed zy_Mo_sealed ∈ za_ws := za_ws_in (List.mem_append_left _ (List.mem_of_getElem? (i := 51) (by decide +kernel))) rfl
theorem zk_p6 : Cond.selects "TrustLedger$Agreement" zy_Agreement_confirmNominate zy_Agreement_confirmNominate ∈ za_ws := za_ws_in (List.mem_append_left _ (List.mem_of_getElem? (i := 6) (by decide +kernel))) rfl
theorem zk_p7 : Cond.selects "TrustLedger$Agreement" zy_Agreement_beginPrepare zy_Agreement_beginPrepare ∈ za_ws := za_ws_in (List.mem_append_left _ (List.mem_of_getElem? (i := 7) (by decide +kernel))) rfl
theorem zk_p8 : Cond.selects "TrustLedger$Agreement" zy_Agreement_composite zy_Agreement_composite ∈ za_ws := za_ws_in (List.mem_append_left _ (List.mem_of_getElem? (i := 8) (by decide +kernel))) rfl
theorem zk_p9 : Cond.selects "TrustLedger$Agreement" zy_Agreement_raiseCounter zy_Agreement_raiseCounter ∈ za_ws := za_ws_in (List.mem_append_left _ (List.mem_of_getElem? (i := 9) (by decide +kernel))) rfl
theorem zn_109 : Cond.fieldLinkNest "TrustLedger" 82 "TrustLedger$Agreement" "proposal" "I" "TrustLedger" ∈ lw_tbl := List.mem_append_right _ (List.mem_of_getElem? (i := 109) (by decide +kernel))
theorem zn_111 : Cond.fieldLinkNest "TrustLedger" 101 "TrustLedger$Agreement" "round" "I" "TrustLedger" ∈ lw_tbl := List.mem_append_right _ (List.mem_of_getElem? (i := 111) (by decide +kernel))
theorem zn_114 : Cond.fieldLinkNest "TrustLedger" 94 "TrustLedger$Agreement" "outcome" "I" "TrustLedger" ∈ lw_tbl := List.mem_append_right _ (List.mem_of_getElem? (i := 114) (by decide +kernel))
theorem zn_150 : Cond.fieldLinkNest "TrustLedger" 174 "TrustLedger$Ledger" "book" "[LTrustLedger$Offer;" "TrustLedger" ∈ lw_tbl := List.mem_append_right _ (List.mem_of_getElem? (i := 150) (by decide +kernel))
theorem zn_162 : Cond.fieldLinkNest "TrustLedger" 75 "TrustLedger$Node" "agreements" "[LTrustLedger$Agreement;" "TrustLedger" ∈ lw_tbl := List.mem_append_right _ (List.mem_of_getElem? (i := 162) (by decide +kernel))
theorem zn_164 : Cond.fieldLinkNest "TrustLedger" 164 "TrustLedger$Node" "ledger" "LTrustLedger$Ledger;" "TrustLedger" ∈ lw_tbl := List.mem_append_right _ (List.mem_of_getElem? (i := 164) (by decide +kernel))
theorem zn_165 : Cond.fieldLinkNest "TrustLedger" 79 "TrustLedger$Node" "slot" "I" "TrustLedger" ∈ lw_tbl := List.mem_append_right _ (List.mem_of_getElem? (i := 165) (by decide +kernel))
theorem zn_166 : Cond.fieldLinkNest "TrustLedger" 161 "TrustLedger$Node" "head" "I" "TrustLedger" ∈ lw_tbl := List.mem_append_right _ (List.mem_of_getElem? (i := 166) (by decide +kernel))
theorem zn_233 : Cond.fieldLinkNest "TrustLedger$Ledger" 30 "TrustLedger$Transaction" "kind" "I" "TrustLedger" ∈ lw_tbl := List.mem_append_right _ (List.mem_of_getElem? (i := 233) (by decide +kernel))
theorem zn_235 : Cond.fieldLinkNest "TrustLedger$Ledger" 24 "TrustLedger$Transaction" "from" "I" "TrustLedger" ∈ lw_tbl := List.mem_append_right _ (List.mem_of_getElem? (i := 235) (by decide +kernel))
theorem zn_237 : Cond.fieldLinkNest "TrustLedger$Ledger" 33 "TrustLedger$Transaction" "what" "I" "TrustLedger" ∈ lw_tbl := List.mem_append_right _ (List.mem_of_getElem? (i := 237) (by decide +kernel))
theorem zn_239 : Cond.fieldLinkNest "TrustLedger$Ledger" 36 "TrustLedger$Transaction" "other" "I" "TrustLedger" ∈ lw_tbl := List.mem_append_right _ (List.mem_of_getElem? (i := 239) (by decide +kernel))
theorem zn_241 : Cond.fieldLinkNest "TrustLedger$Ledger" 39 "TrustLedger$Transaction" "amount" "I" "TrustLedger" ∈ lw_tbl := List.mem_append_right _ (List.mem_of_getElem? (i := 241) (by decide +kernel))
theorem zn_280 : Cond.methodLinkNest "TrustLedger$Agreement" 116 zy_TL_has "TrustLedger" ∈ lw_tbl := List.mem_append_right _ (List.mem_of_getElem? (i := 280) (by decide +kernel))
theorem zn_293 : Cond.methodLinkNest "TrustLedger$Statements" 29 zy_TL_has "TrustLedger" ∈ lw_tbl := List.mem_append_right _ (List.mem_of_getElem? (i := 293) (by decide +kernel))
theorem zn_31 : Cond.methodLinkNest "TrustLedger$Quorums" 17 zy_Trust_init "TrustLedger" ∈ lw_tbl := List.mem_append_right _ (List.mem_of_getElem? (i := 31) (by decide +kernel))
theorem zn_311 : Cond.methodLinkNest "TrustLedger$Quorums" 18 zy_TL_has "TrustLedger" ∈ lw_tbl := List.mem_append_right _ (List.mem_of_getElem? (i := 311) (by decide +kernel))
theorem zn_351 : Cond.methodLinkNest "TrustLedger$Agreement" 134 zy_TL_valueOf "TrustLedger" ∈ lw_tbl := List.mem_append_right _ (List.mem_of_getElem? (i := 351) (by decide +kernel))
theorem zn_354 : Cond.methodLinkNest "TrustLedger$Agreement" 123 zy_TL_ballotOf "TrustLedger" ∈ lw_tbl := List.mem_append_right _ (List.mem_of_getElem? (i := 354) (by decide +kernel))
theorem zn_361 : Cond.methodLinkNest "TrustLedger$Agreement" 148 zy_TL_abortedBy "TrustLedger" ∈ lw_tbl := List.mem_append_right _ (List.mem_of_getElem? (i := 361) (by decide +kernel))
theorem zn_377 : Cond.methodLinkNest "TrustLedger$Agreement" 151 zy_TL_abortersOf "TrustLedger" ∈ lw_tbl := List.mem_append_right _ (List.mem_of_getElem? (i := 377) (by decide +kernel))
theorem zn_398 : Cond.fieldLinkNest "TrustLedger$Ledger" 87 "TrustLedger$Offer" "account" "I" "TrustLedger" ∈ lw_tbl := List.mem_append_right _ (List.mem_of_getElem? (i := 398) (by decide +kernel))
theorem zn_399 : Cond.fieldLinkNest "TrustLedger" 178 "TrustLedger$Offer" "account" "I" "TrustLedger" ∈ lw_tbl := List.mem_append_right _ (List.mem_of_getElem? (i := 399) (by decide +kernel))
theorem zn_401 : Cond.fieldLinkNest "TrustLedger$Ledger" 69 "TrustLedger$Offer" "side" "I" "TrustLedger" ∈ lw_tbl := List.mem_append_right _ (List.mem_of_getElem? (i := 401) (by decide +kernel))
theorem zn_402 : Cond.fieldLinkNest "TrustLedger" 183 "TrustLedger$Offer" "side" "I" "TrustLedger" ∈ lw_tbl := List.mem_append_right _ (List.mem_of_getElem? (i := 402) (by decide +kernel))
theorem zn_404 : Cond.fieldLinkNest "TrustLedger$Ledger" 72 "TrustLedger$Offer" "price" "I" "TrustLedger" ∈ lw_tbl := List.mem_append_right _ (List.mem_of_getElem? (i := 404) (by decide +kernel))
theorem zn_405 : Cond.fieldLinkNest "TrustLedger" 186 "TrustLedger$Offer" "price" "I" "TrustLedger" ∈ lw_tbl := List.mem_append_right _ (List.mem_of_getElem? (i := 405) (by decide +kernel))
theorem zn_407 : Cond.fieldLinkNest "TrustLedger$Ledger" 57 "TrustLedger$Offer" "amount" "I" "TrustLedger" ∈ lw_tbl := List.mem_append_right _ (List.mem_of_getElem? (i := 407) (by decide +kernel))
theorem zn_408 : Cond.fieldLinkNest "TrustLedger" 189 "TrustLedger$Offer" "amount" "I" "TrustLedger" ∈ lw_tbl := List.mem_append_right _ (List.mem_of_getElem? (i := 408) (by decide +kernel))
theorem zn_480 : Cond.fieldLinkNest "TrustLedger$Agreement" 73 "TrustLedger$Envelope" "sender" "I" "TrustLedger" ∈ lw_tbl := List.mem_append_right _ (List.mem_of_getElem? (i := 480) (by decide +kernel))
theorem zn_481 : Cond.fieldLinkNest "TrustLedger" 143 "TrustLedger$Envelope" "sender" "I" "TrustLedger" ∈ lw_tbl := List.mem_append_right _ (List.mem_of_getElem? (i := 481) (by decide +kernel))
theorem zn_483 : Cond.fieldLinkNest "TrustLedger" 146 "TrustLedger$Envelope" "slot" "I" "TrustLedger" ∈ lw_tbl := List.mem_append_right _ (List.mem_of_getElem? (i := 483) (by decide +kernel))
theorem zn_485 : Cond.fieldLinkNest "TrustLedger$Agreement" 78 "TrustLedger$Envelope" "backed" "[I" "TrustLedger" ∈ lw_tbl := List.mem_append_right _ (List.mem_of_getElem? (i := 485) (by decide +kernel))
theorem zn_486 : Cond.fieldLinkNest "TrustLedger" 120 "TrustLedger$Envelope" "backed" "[I" "TrustLedger" ∈ lw_tbl := List.mem_append_right _ (List.mem_of_getElem? (i := 486) (by decide +kernel))
theorem zn_488 : Cond.fieldLinkNest "TrustLedger$Agreement" 82 "TrustLedger$Envelope" "accepted" "[I" "TrustLedger" ∈ lw_tbl := List.mem_append_right _ (List.mem_of_getElem? (i := 488) (by decide +kernel))
theorem zn_489 : Cond.fieldLinkNest "TrustLedger" 127 "TrustLedger$Envelope" "accepted" "[I" "TrustLedger" ∈ lw_tbl := List.mem_append_right _ (List.mem_of_getElem? (i := 489) (by decide +kernel))
theorem zn_49 : Cond.fieldLinkNest "TrustLedger$Agreement" 18 "TrustLedger$Quorums" "trusts" "[LTrustLedger$Trust;" "TrustLedger" ∈ lw_tbl := List.mem_append_right _ (List.mem_of_getElem? (i := 49) (by decide +kernel))
theorem zn_50 : Cond.fieldLinkNest "TrustLedger" 49 "TrustLedger$Quorums" "trusts" "[LTrustLedger$Trust;" "TrustLedger" ∈ lw_tbl := List.mem_append_right _ (List.mem_of_getElem? (i := 50) (by decide +kernel))
theorem zn_51 : Cond.fieldLinkNest "TrustLedger$Statements" 42 "TrustLedger$Quorums" "trusts" "[LTrustLedger$Trust;" "TrustLedger" ∈ lw_tbl := List.mem_append_right _ (List.mem_of_getElem? (i := 51) (by decide +kernel))
theorem zn_78 : Cond.fieldLinkNest "TrustLedger" 155 "TrustLedger$Statements" "voted" "I" "TrustLedger" ∈ lw_tbl := List.mem_append_right _ (List.mem_of_getElem? (i := 78) (by decide +kernel))
theorem zn_80 : Cond.fieldLinkNest "TrustLedger$Agreement" 131 "TrustLedger$Statements" "confirmed" "I" "TrustLedger" ∈ lw_tbl := List.mem_append_right _ (List.mem_of_getElem? (i := 80) (by decide +kernel))
theorem zn_81 : Cond.fieldLinkNest "TrustLedger" 158 "TrustLedger$Statements" "confirmed" "I" "TrustLedger" ∈ lw_tbl := List.mem_append_right _ (List.mem_of_getElem? (i := 81) (by decide +kernel))
theorem zn_83 : Cond.fieldLinkNest "TrustLedger$Agreement" 69 "TrustLedger$Statements" "backed" "[I" "TrustLedger" ∈ lw_tbl := List.mem_append_right _ (List.mem_of_getElem? (i := 83) (by decide +kernel))
theorem zn_84 : Cond.fieldLinkNest "TrustLedger" 124 "TrustLedger$Statements" "backed" "[I" "TrustLedger" ∈ lw_tbl := List.mem_append_right _ (List.mem_of_getElem? (i := 84) (by decide +kernel))
theorem zn_86 : Cond.fieldLinkNest "TrustLedger$Agreement" 79 "TrustLedger$Statements" "accepted" "[I" "TrustLedger" ∈ lw_tbl := List.mem_append_right _ (List.mem_of_getElem? (i := 86) (by decide +kernel))
theorem zn_87 : Cond.fieldLinkNest "TrustLedger" 130 "TrustLedger$Statements" "accepted" "[I" "TrustLedger" ∈ lw_tbl := List.mem_append_right _ (List.mem_of_getElem? (i := 87) (by decide +kernel))
theorem zi_TL : ∀ w ∈ u_ws zR_TL zT_TL 7, w ∈ za_ws := fun w h => (goodIn_zi (by decide +kernel) (by decide +kernel)) w h
theorem zi_Agreement : ∀ w ∈ u_ws zR_Agreement zT_Agreement 11, w ∈ za_ws := fun w h => (goodIn_zi (by decide +kernel) (by decide +kernel)) w h
theorem zi_Envelope : ∀ w ∈ u_ws zR_Envelope zT_Envelope 4, w ∈ za_ws := fun w h => (goodIn_zi (by decide +kernel) (by decide +kernel)) w h
theorem zi_Ledger : ∀ w ∈ u_ws zR_Ledger zT_Ledger 4, w ∈ za_ws := fun w h => (goodIn_zi (by decide +kernel) (by decide +kernel)) w h
theorem zi_Node : ∀ w ∈ u_ws zR_Node zT_Node 4, w ∈ za_ws := fun w h => (goodIn_zi (by decide +kernel) (by decide +kernel)) w h
theorem zi_Offer : ∀ w ∈ u_ws zR_Offer zT_Offer 4, w ∈ za_ws := fun w h => (goodIn_zi (by decide +kernel) (by decide +kernel)) w h
theorem zi_Quorums : ∀ w ∈ u_ws zR_Quorums zT_Quorums 1, w ∈ za_ws := fun w h => (goodIn_zi (by decide +kernel) (by decide +kernel)) w h
theorem zi_Statements : ∀ w ∈ u_ws zR_Statements zT_Statements 6, w ∈ za_ws := fun w h => (goodIn_zi (by decide +kernel) (by decide +kernel)) w h
theorem zi_Transaction : ∀ w ∈ u_ws zR_Transaction zT_Transaction 5, w ∈ za_ws := fun w h => (goodIn_zi (by decide +kernel) (by decide +kernel)) w h
theorem zi_Trust : ∀ w ∈ u_ws zR_Trust zT_Trust 4, w ∈ za_ws := fun w h => (goodIn_zi (by decide +kernel) (by decide +kernel)) w h
theorem zi_Mo : ∀ w ∈ u_ws zR_Mo zT_Mo 32, w ∈ za_ws := fun w h => (goodIn_zi (by decide +kernel) (by decide +kernel)) w h
theorem zl_Trust_9 : za_fd zR_Trust 9 9 0 (.int) false := ⟨zR_Trust, zT_Trust, 4, zt_Trust, rfl, by decide, zi_Trust, rfl, by decide +kernel, zto_Trust, ztn_Trust, rfl, (Or.inl zk_35)⟩
theorem zl_Trust_15 : za_fd zR_Trust 15 9 1 (.int) false := ⟨zR_Trust, zT_Trust, 4, zt_Trust, rfl, by decide, zi_Trust, rfl, by decide +kernel, zto_Trust, ztn_Trust, rfl, (Or.inl zk_36)⟩
theorem zl_Quorums_11 : za_fd zR_Quorums 11 6 0 (.array (.object "TrustLedger$Trust")) true := ⟨zR_Quorums, zT_Quorums, 1, zt_Quorums, rfl, by decide, zi_Quorums, rfl, by decide +kernel, zto_Quorums, ztn_Quorums, rfl, (Or.inl zk_48)⟩
theorem zl_Agreement_18 : za_fd zR_Agreement 18 6 0 (.array (.object "TrustLedger$Trust")) true := ⟨zR_Quorums, zT_Quorums, 1, zt_Quorums, rfl, by decide, zi_Quorums, rfl, by decide +kernel, zto_Quorums, ztn_Quorums, rfl, (Or.inr ⟨_, zn_49⟩)⟩
theorem zl_Ledger_9 : za_fd zR_Ledger 9 3 0 (.array (.int)) true := ⟨zR_Ledger, zT_Ledger, 4, zt_Ledger, rfl, by decide, zi_Ledger, rfl, by decide +kernel, zto_Ledger, ztn_Ledger, rfl, (Or.inl zk_147)⟩
theorem zl_Ledger_15 : za_fd zR_Ledger 15 3 1 (.array (.int)) true := ⟨zR_Ledger, zT_Ledger, 4, zt_Ledger, rfl, by decide, zi_Ledger, rfl, by decide +kernel, zto_Ledger, ztn_Ledger, rfl, (Or.inl zk_148)⟩
theorem zl_Node_11 : za_fd zR_Node 11 4 0 (.array (.object "TrustLedger$Agreement")) true := ⟨zR_Node, zT_Node, 4, zt_Node, rfl, by decide, zi_Node, rfl, by decide +kernel, zto_Node, ztn_Node, rfl, (Or.inl zk_161)⟩
theorem zl_TL_22 : za_fd zR_TL 22 0 2 (.array (.object "TrustLedger$Node")) true := ⟨zR_TL, zT_TL, 7, zt_TL, rfl, by decide, zi_TL, rfl, by decide +kernel, zto_TL, ztn_TL, rfl, (Or.inl zk_182)⟩
theorem zl_Trust_21 : za_fd zR_Trust 21 9 3 (.int) false := ⟨zR_Trust, zT_Trust, 4, zt_Trust, rfl, by decide, zi_Trust, rfl, by decide +kernel, zto_Trust, ztn_Trust, rfl, (Or.inl zk_38)⟩
theorem zl_Trust_18 : za_fd zR_Trust 18 9 2 (.int) false := ⟨zR_Trust, zT_Trust, 4, zt_Trust, rfl, by decide, zi_Trust, rfl, by decide +kernel, zto_Trust, ztn_Trust, rfl, (Or.inl zk_37)⟩
theorem zl_TL_45 : za_fd zR_TL 45 0 6 (.boolean) false := ⟨zR_TL, zT_TL, 7, zt_TL, rfl, by decide, zi_TL, rfl, by decide +kernel, zto_TL, ztn_TL, rfl, (Or.inl zk_186)⟩
theorem zl_TL_16 : za_fd zR_TL 16 0 1 (.object "TrustLedger$Quorums") true := ⟨zR_TL, zT_TL, 7, zt_TL, rfl, by decide, zi_TL, rfl, by decide +kernel, zto_TL, ztn_TL, rfl, (Or.inl zk_181)⟩
theorem zl_TL_49 : za_fd zR_TL 49 6 0 (.array (.object "TrustLedger$Trust")) true := ⟨zR_Quorums, zT_Quorums, 1, zt_Quorums, rfl, by decide, zi_Quorums, rfl, by decide +kernel, zto_Quorums, ztn_Quorums, rfl, (Or.inr ⟨_, zn_50⟩)⟩
theorem zl_TL_79 : za_fd zR_TL 79 4 2 (.int) false := ⟨zR_Node, zT_Node, 4, zt_Node, rfl, by decide, zi_Node, rfl, by decide +kernel, zto_Node, ztn_Node, rfl, (Or.inr ⟨_, zn_165⟩)⟩
theorem zl_TL_31 : za_fd zR_TL 31 0 3 (.array (.object "TrustLedger$Transaction")) true := ⟨zR_TL, zT_TL, 7, zt_TL, rfl, by decide, zi_TL, rfl, by decide +kernel, zto_TL, ztn_TL, rfl, (Or.inl zk_183)⟩
theorem zl_TL_9 : za_fd zR_TL 9 0 0 (.int) true := ⟨zR_TL, zT_TL, 7, zt_TL, rfl, by decide, zi_TL, rfl, by decide +kernel, zto_TL, ztn_TL, rfl, (Or.inl zk_180)⟩
theorem zl_Agreement_46 : za_fd zR_Agreement 46 1 8 (.int) false := ⟨zR_Agreement, zT_Agreement, 11, zt_Agreement, rfl, by decide, zi_Agreement, rfl, by decide +kernel, zto_Agreement, ztn_Agreement, rfl, (Or.inl zk_112)⟩
theorem zl_Agreement_15 : za_fd zR_Agreement 15 1 1 (.int) true := ⟨zR_Agreement, zT_Agreement, 11, zt_Agreement, rfl, by decide, zi_Agreement, rfl, by decide +kernel, zto_Agreement, ztn_Agreement, rfl, (Or.inl zk_103)⟩
theorem zl_Agreement_43 : za_fd zR_Agreement 43 1 7 (.int) false := ⟨zR_Agreement, zT_Agreement, 11, zt_Agreement, rfl, by decide, zi_Agreement, rfl, by decide +kernel, zto_Agreement, ztn_Agreement, rfl, (Or.inl zk_110)⟩
theorem zl_Agreement_24 : za_fd zR_Agreement 24 1 2 (.object "TrustLedger$Trust") true := ⟨zR_Agreement, zT_Agreement, 11, zt_Agreement, rfl, by decide, zi_Agreement, rfl, by decide +kernel, zto_Agreement, ztn_Agreement, rfl, (Or.inl zk_104)⟩
theorem zl_Agreement_9 : za_fd zR_Agreement 9 1 0 (.int) true := ⟨zR_Agreement, zT_Agreement, 11, zt_Agreement, rfl, by decide, zi_Agreement, rfl, by decide +kernel, zto_Agreement, ztn_Agreement, rfl, (Or.inl zk_102)⟩
theorem zl_Agreement_56 : za_fd zR_Agreement 56 1 6 (.int) false := ⟨zR_Agreement, zT_Agreement, 11, zt_Agreement, rfl, by decide, zi_Agreement, rfl, by decide +kernel, zto_Agreement, ztn_Agreement, rfl, (Or.inl zk_108)⟩
theorem zl_Statements_26 : za_fd zR_Statements 26 7 2 (.int) false := ⟨zR_Statements, zT_Statements, 6, zt_Statements, rfl, by decide, zi_Statements, rfl, by decide +kernel, zto_Statements, ztn_Statements, rfl, (Or.inl zk_77)⟩
theorem zl_Statements_19 : za_fd zR_Statements 19 7 4 (.array (.int)) true := ⟨zR_Statements, zT_Statements, 6, zt_Statements, rfl, by decide, zi_Statements, rfl, by decide +kernel, zto_Statements, ztn_Statements, rfl, (Or.inl zk_82)⟩
theorem zl_Statements_9 : za_fd zR_Statements 9 7 0 (.int) true := ⟨zR_Statements, zT_Statements, 6, zt_Statements, rfl, by decide, zi_Statements, rfl, by decide +kernel, zto_Statements, ztn_Statements, rfl, (Or.inl zk_75)⟩
theorem zl_Agreement_33 : za_fd zR_Agreement 33 1 3 (.object "TrustLedger$Statements") true := ⟨zR_Agreement, zT_Agreement, 11, zt_Agreement, rfl, by decide, zi_Agreement, rfl, by decide +kernel, zto_Agreement, ztn_Agreement, rfl, (Or.inl zk_105)⟩
theorem zl_Agreement_69 : za_fd zR_Agreement 69 7 4 (.array (.int)) true := ⟨zR_Statements, zT_Statements, 6, zt_Statements, rfl, by decide, zi_Statements, rfl, by decide +kernel, zto_Statements, ztn_Statements, rfl, (Or.inr ⟨_, zn_83⟩)⟩
theorem zl_Agreement_131 : za_fd zR_Agreement 131 7 3 (.int) false := ⟨zR_Statements, zT_Statements, 6, zt_Statements, rfl, by decide, zi_Statements, rfl, by decide +kernel, zto_Statements, ztn_Statements, rfl, (Or.inr ⟨_, zn_80⟩)⟩
theorem zl_Statements_23 : za_fd zR_Statements 23 7 5 (.array (.int)) true := ⟨zR_Statements, zT_Statements, 6, zt_Statements, rfl, by decide, zi_Statements, rfl, by decide +kernel, zto_Statements, ztn_Statements, rfl, (Or.inl zk_85)⟩
theorem zl_Statements_15 : za_fd zR_Statements 15 7 1 (.object "TrustLedger$Quorums") true := ⟨zR_Statements, zT_Statements, 6, zt_Statements, rfl, by decide, zi_Statements, rfl, by decide +kernel, zto_Statements, ztn_Statements, rfl, (Or.inl zk_76)⟩
theorem zl_Statements_42 : za_fd zR_Statements 42 6 0 (.array (.object "TrustLedger$Trust")) true := ⟨zR_Quorums, zT_Quorums, 1, zt_Quorums, rfl, by decide, zi_Quorums, rfl, by decide +kernel, zto_Quorums, ztn_Quorums, rfl, (Or.inr ⟨_, zn_51⟩)⟩
theorem zl_Statements_52 : za_fd zR_Statements 52 7 3 (.int) false := ⟨zR_Statements, zT_Statements, 6, zt_Statements, rfl, by decide, zi_Statements, rfl, by decide +kernel, zto_Statements, ztn_Statements, rfl, (Or.inl zk_79)⟩
theorem zl_Agreement_37 : za_fd zR_Agreement 37 1 4 (.object "TrustLedger$Statements") true := ⟨zR_Agreement, zT_Agreement, 11, zt_Agreement, rfl, by decide, zi_Agreement, rfl, by decide +kernel, zto_Agreement, ztn_Agreement, rfl, (Or.inl zk_106)⟩
theorem zl_Agreement_49 : za_fd zR_Agreement 49 1 9 (.int) false := ⟨zR_Agreement, zT_Agreement, 11, zt_Agreement, rfl, by decide, zi_Agreement, rfl, by decide +kernel, zto_Agreement, ztn_Agreement, rfl, (Or.inl zk_113)⟩
theorem zl_Agreement_40 : za_fd zR_Agreement 40 1 5 (.object "TrustLedger$Statements") true := ⟨zR_Agreement, zT_Agreement, 11, zt_Agreement, rfl, by decide, zi_Agreement, rfl, by decide +kernel, zto_Agreement, ztn_Agreement, rfl, (Or.inl zk_107)⟩
theorem zl_Agreement_79 : za_fd zR_Agreement 79 7 5 (.array (.int)) true := ⟨zR_Statements, zT_Statements, 6, zt_Statements, rfl, by decide, zi_Statements, rfl, by decide +kernel, zto_Statements, ztn_Statements, rfl, (Or.inr ⟨_, zn_86⟩)⟩
theorem zl_Agreement_83 : za_fd zR_Agreement 83 1 10 (.int) false := ⟨zR_Agreement, zT_Agreement, 11, zt_Agreement, rfl, by decide, zi_Agreement, rfl, by decide +kernel, zto_Agreement, ztn_Agreement, rfl, (Or.inl zk_115)⟩
theorem zl_Offer_21 : za_fd zR_Offer 21 5 3 (.int) false := ⟨zR_Offer, zT_Offer, 4, zt_Offer, rfl, by decide, zi_Offer, rfl, by decide +kernel, zto_Offer, ztn_Offer, rfl, (Or.inl zk_406)⟩
theorem zl_Offer_15 : za_fd zR_Offer 15 5 1 (.int) true := ⟨zR_Offer, zT_Offer, 4, zt_Offer, rfl, by decide, zi_Offer, rfl, by decide +kernel, zto_Offer, ztn_Offer, rfl, (Or.inl zk_400)⟩
theorem zl_Offer_18 : za_fd zR_Offer 18 5 2 (.int) true := ⟨zR_Offer, zT_Offer, 4, zt_Offer, rfl, by decide, zi_Offer, rfl, by decide +kernel, zto_Offer, ztn_Offer, rfl, (Or.inl zk_403)⟩
theorem zl_Ledger_72 : za_fd zR_Ledger 72 5 2 (.int) true := ⟨zR_Offer, zT_Offer, 4, zt_Offer, rfl, by decide, zi_Offer, rfl, by decide +kernel, zto_Offer, ztn_Offer, rfl, (Or.inr ⟨_, zn_404⟩)⟩
theorem zl_Ledger_20 : za_fd zR_Ledger 20 3 2 (.array (.object "TrustLedger$Offer")) true := ⟨zR_Ledger, zT_Ledger, 4, zt_Ledger, rfl, by decide, zi_Ledger, rfl, by decide +kernel, zto_Ledger, ztn_Ledger, rfl, (Or.inl zk_149)⟩
theorem zl_Ledger_69 : za_fd zR_Ledger 69 5 1 (.int) true := ⟨zR_Offer, zT_Offer, 4, zt_Offer, rfl, by decide, zi_Offer, rfl, by decide +kernel, zto_Offer, ztn_Offer, rfl, (Or.inr ⟨_, zn_401⟩)⟩
theorem zl_Ledger_87 : za_fd zR_Ledger 87 5 0 (.int) true := ⟨zR_Offer, zT_Offer, 4, zt_Offer, rfl, by decide, zi_Offer, rfl, by decide +kernel, zto_Offer, ztn_Offer, rfl, (Or.inr ⟨_, zn_398⟩)⟩
theorem zl_Ledger_66 : za_fd zR_Ledger 66 3 3 (.int) false := ⟨zR_Ledger, zT_Ledger, 4, zt_Ledger, rfl, by decide, zi_Ledger, rfl, by decide +kernel, zto_Ledger, ztn_Ledger, rfl, (Or.inl zk_151)⟩
theorem zl_Ledger_57 : za_fd zR_Ledger 57 5 3 (.int) false := ⟨zR_Offer, zT_Offer, 4, zt_Offer, rfl, by decide, zi_Offer, rfl, by decide +kernel, zto_Offer, ztn_Offer, rfl, (Or.inr ⟨_, zn_407⟩)⟩
theorem zl_Ledger_24 : za_fd zR_Ledger 24 8 1 (.int) true := ⟨zR_Transaction, zT_Transaction, 5, zt_Transaction, rfl, by decide, zi_Transaction, rfl, by decide +kernel, zto_Transaction, ztn_Transaction, rfl, (Or.inr ⟨_, zn_235⟩)⟩
theorem zl_Ledger_30 : za_fd zR_Ledger 30 8 0 (.int) true := ⟨zR_Transaction, zT_Transaction, 5, zt_Transaction, rfl, by decide, zi_Transaction, rfl, by decide +kernel, zto_Transaction, ztn_Transaction, rfl, (Or.inr ⟨_, zn_233⟩)⟩
theorem zl_Ledger_33 : za_fd zR_Ledger 33 8 2 (.int) true := ⟨zR_Transaction, zT_Transaction, 5, zt_Transaction, rfl, by decide, zi_Transaction, rfl, by decide +kernel, zto_Transaction, ztn_Transaction, rfl, (Or.inr ⟨_, zn_237⟩)⟩
theorem zl_Ledger_39 : za_fd zR_Ledger 39 8 4 (.int) true := ⟨zR_Transaction, zT_Transaction, 5, zt_Transaction, rfl, by decide, zi_Transaction, rfl, by decide +kernel, zto_Transaction, ztn_Transaction, rfl, (Or.inr ⟨_, zn_241⟩)⟩
theorem zl_Ledger_36 : za_fd zR_Ledger 36 8 3 (.int) true := ⟨zR_Transaction, zT_Transaction, 5, zt_Transaction, rfl, by decide, zi_Transaction, rfl, by decide +kernel, zto_Transaction, ztn_Transaction, rfl, (Or.inr ⟨_, zn_239⟩)⟩
theorem zl_TL_161 : za_fd zR_TL 161 4 3 (.int) false := ⟨zR_Node, zT_Node, 4, zt_Node, rfl, by decide, zi_Node, rfl, by decide +kernel, zto_Node, ztn_Node, rfl, (Or.inr ⟨_, zn_166⟩)⟩
theorem zl_TL_164 : za_fd zR_TL 164 4 1 (.object "TrustLedger$Ledger") true := ⟨zR_Node, zT_Node, 4, zt_Node, rfl, by decide, zi_Node, rfl, by decide +kernel, zto_Node, ztn_Node, rfl, (Or.inr ⟨_, zn_164⟩)⟩
theorem zl_TL_75 : za_fd zR_TL 75 4 0 (.array (.object "TrustLedger$Agreement")) true := ⟨zR_Node, zT_Node, 4, zt_Node, rfl, by decide, zi_Node, rfl, by decide +kernel, zto_Node, ztn_Node, rfl, (Or.inr ⟨_, zn_162⟩)⟩
theorem zl_TL_82 : za_fd zR_TL 82 1 6 (.int) false := ⟨zR_Agreement, zT_Agreement, 11, zt_Agreement, rfl, by decide, zi_Agreement, rfl, by decide +kernel, zto_Agreement, ztn_Agreement, rfl, (Or.inr ⟨_, zn_109⟩)⟩
theorem zl_TL_94 : za_fd zR_TL 94 1 10 (.int) false := ⟨zR_Agreement, zT_Agreement, 11, zt_Agreement, rfl, by decide, zi_Agreement, rfl, by decide +kernel, zto_Agreement, ztn_Agreement, rfl, (Or.inr ⟨_, zn_114⟩)⟩
theorem zl_TL_101 : za_fd zR_TL 101 1 7 (.int) false := ⟨zR_Agreement, zT_Agreement, 11, zt_Agreement, rfl, by decide, zi_Agreement, rfl, by decide +kernel, zto_Agreement, ztn_Agreement, rfl, (Or.inr ⟨_, zn_111⟩)⟩
theorem zl_TL_37 : za_fd zR_TL 37 0 4 (.array (.object "TrustLedger$Envelope")) true := ⟨zR_TL, zT_TL, 7, zt_TL, rfl, by decide, zi_TL, rfl, by decide +kernel, zto_TL, ztn_TL, rfl, (Or.inl zk_184)⟩
theorem zl_TL_110 : za_fd zR_TL 110 0 5 (.int) false := ⟨zR_TL, zT_TL, 7, zt_TL, rfl, by decide, zi_TL, rfl, by decide +kernel, zto_TL, ztn_TL, rfl, (Or.inl zk_185)⟩
theorem zl_TL_120 : za_fd zR_TL 120 2 2 (.array (.int)) true := ⟨zR_Envelope, zT_Envelope, 4, zt_Envelope, rfl, by decide, zi_Envelope, rfl, by decide +kernel, zto_Envelope, ztn_Envelope, rfl, (Or.inr ⟨_, zn_486⟩)⟩
theorem zl_TL_124 : za_fd zR_TL 124 7 4 (.array (.int)) true := ⟨zR_Statements, zT_Statements, 6, zt_Statements, rfl, by decide, zi_Statements, rfl, by decide +kernel, zto_Statements, ztn_Statements, rfl, (Or.inr ⟨_, zn_84⟩)⟩
theorem zl_TL_127 : za_fd zR_TL 127 2 3 (.array (.int)) true := ⟨zR_Envelope, zT_Envelope, 4, zt_Envelope, rfl, by decide, zi_Envelope, rfl, by decide +kernel, zto_Envelope, ztn_Envelope, rfl, (Or.inr ⟨_, zn_489⟩)⟩
theorem zl_TL_130 : za_fd zR_TL 130 7 5 (.array (.int)) true := ⟨zR_Statements, zT_Statements, 6, zt_Statements, rfl, by decide, zi_Statements, rfl, by decide +kernel, zto_Statements, ztn_Statements, rfl, (Or.inr ⟨_, zn_87⟩)⟩
theorem zl_Envelope_18 : za_fd zR_Envelope 18 2 2 (.array (.int)) true := ⟨zR_Envelope, zT_Envelope, 4, zt_Envelope, rfl, by decide, zi_Envelope, rfl, by decide +kernel, zto_Envelope, ztn_Envelope, rfl, (Or.inl zk_484)⟩
theorem zl_Envelope_22 : za_fd zR_Envelope 22 2 3 (.array (.int)) true := ⟨zR_Envelope, zT_Envelope, 4, zt_Envelope, rfl, by decide, zi_Envelope, rfl, by decide +kernel, zto_Envelope, ztn_Envelope, rfl, (Or.inl zk_487)⟩
theorem zl_Agreement_73 : za_fd zR_Agreement 73 2 0 (.int) true := ⟨zR_Envelope, zT_Envelope, 4, zt_Envelope, rfl, by decide, zi_Envelope, rfl, by decide +kernel, zto_Envelope, ztn_Envelope, rfl, (Or.inr ⟨_, zn_480⟩)⟩
theorem zl_Agreement_78 : za_fd zR_Agreement 78 2 2 (.array (.int)) true := ⟨zR_Envelope, zT_Envelope, 4, zt_Envelope, rfl, by decide, zi_Envelope, rfl, by decide +kernel, zto_Envelope, ztn_Envelope, rfl, (Or.inr ⟨_, zn_485⟩)⟩
theorem zl_Agreement_82 : za_fd zR_Agreement 82 2 3 (.array (.int)) true := ⟨zR_Envelope, zT_Envelope, 4, zt_Envelope, rfl, by decide, zi_Envelope, rfl, by decide +kernel, zto_Envelope, ztn_Envelope, rfl, (Or.inr ⟨_, zn_488⟩)⟩
theorem zl_TL_143 : za_fd zR_TL 143 2 0 (.int) true := ⟨zR_Envelope, zT_Envelope, 4, zt_Envelope, rfl, by decide, zi_Envelope, rfl, by decide +kernel, zto_Envelope, ztn_Envelope, rfl, (Or.inr ⟨_, zn_481⟩)⟩
theorem zl_TL_146 : za_fd zR_TL 146 2 1 (.int) true := ⟨zR_Envelope, zT_Envelope, 4, zt_Envelope, rfl, by decide, zi_Envelope, rfl, by decide +kernel, zto_Envelope, ztn_Envelope, rfl, (Or.inr ⟨_, zn_483⟩)⟩
theorem zl_TL_158 : za_fd zR_TL 158 7 3 (.int) false := ⟨zR_Statements, zT_Statements, 6, zt_Statements, rfl, by decide, zi_Statements, rfl, by decide +kernel, zto_Statements, ztn_Statements, rfl, (Or.inr ⟨_, zn_81⟩)⟩
theorem zl_TL_155 : za_fd zR_TL 155 7 2 (.int) false := ⟨zR_Statements, zT_Statements, 6, zt_Statements, rfl, by decide, zi_Statements, rfl, by decide +kernel, zto_Statements, ztn_Statements, rfl, (Or.inr ⟨_, zn_78⟩)⟩
theorem zl_TL_174 : za_fd zR_TL 174 3 2 (.array (.object "TrustLedger$Offer")) true := ⟨zR_Ledger, zT_Ledger, 4, zt_Ledger, rfl, by decide, zi_Ledger, rfl, by decide +kernel, zto_Ledger, ztn_Ledger, rfl, (Or.inr ⟨_, zn_150⟩)⟩
theorem zl_TL_178 : za_fd zR_TL 178 5 0 (.int) true := ⟨zR_Offer, zT_Offer, 4, zt_Offer, rfl, by decide, zi_Offer, rfl, by decide +kernel, zto_Offer, ztn_Offer, rfl, (Or.inr ⟨_, zn_399⟩)⟩
theorem zl_TL_183 : za_fd zR_TL 183 5 1 (.int) true := ⟨zR_Offer, zT_Offer, 4, zt_Offer, rfl, by decide, zi_Offer, rfl, by decide +kernel, zto_Offer, ztn_Offer, rfl, (Or.inr ⟨_, zn_402⟩)⟩
theorem zl_TL_186 : za_fd zR_TL 186 5 2 (.int) true := ⟨zR_Offer, zT_Offer, 4, zt_Offer, rfl, by decide, zi_Offer, rfl, by decide +kernel, zto_Offer, ztn_Offer, rfl, (Or.inr ⟨_, zn_405⟩)⟩
theorem zl_TL_189 : za_fd zR_TL 189 5 3 (.int) false := ⟨zR_Offer, zT_Offer, 4, zt_Offer, rfl, by decide, zi_Offer, rfl, by decide +kernel, zto_Offer, ztn_Offer, rfl, (Or.inr ⟨_, zn_408⟩)⟩
theorem zl_Mo_7 : za_fd zR_Mo 7 10 2 (.array (.int)) false := ⟨zR_Mo, zT_Mo, 32, zt_Mo, rfl, by decide, zi_Mo, rfl, by decide +kernel, zto_Mo, ztn_Mo, rfl, (Or.inl zk_579)⟩
theorem zl_Mo_13 : za_fd zR_Mo 13 10 3 (.array (.int)) false := ⟨zR_Mo, zT_Mo, 32, zt_Mo, rfl, by decide, zi_Mo, rfl, by decide +kernel, zto_Mo, ztn_Mo, rfl, (Or.inl zk_580)⟩
theorem zl_Mo_19 : za_fd zR_Mo 19 10 5 (.array (.int)) false := ⟨zR_Mo, zT_Mo, 32, zt_Mo, rfl, by decide, zi_Mo, rfl, by decide +kernel, zto_Mo, ztn_Mo, rfl, (Or.inl zk_582)⟩
theorem zl_Mo_16 : za_fd zR_Mo 16 10 4 (.array (.int)) false := ⟨zR_Mo, zT_Mo, 32, zt_Mo, rfl, by decide, zi_Mo, rfl, by decide +kernel, zto_Mo, ztn_Mo, rfl, (Or.inl zk_581)⟩
theorem zl_Mo_22 : za_fd zR_Mo 22 10 6 (.array (.boolean)) false := ⟨zR_Mo, zT_Mo, 32, zt_Mo, rfl, by decide, zi_Mo, rfl, by decide +kernel, zto_Mo, ztn_Mo, rfl, (Or.inl zk_583)⟩
theorem zl_Mo_80 : za_fd zR_Mo 80 10 26 (.array (.int)) false := ⟨zR_Mo, zT_Mo, 32, zt_Mo, rfl, by decide, zi_Mo, rfl, by decide +kernel, zto_Mo, ztn_Mo, rfl, (Or.inl zk_603)⟩
theorem zl_Mo_26 : za_fd zR_Mo 26 10 7 (.array (.int)) false := ⟨zR_Mo, zT_Mo, 32, zt_Mo, rfl, by decide, zi_Mo, rfl, by decide +kernel, zto_Mo, ztn_Mo, rfl, (Or.inl zk_584)⟩
theorem zl_Mo_29 : za_fd zR_Mo 29 10 8 (.array (.int)) false := ⟨zR_Mo, zT_Mo, 32, zt_Mo, rfl, by decide, zi_Mo, rfl, by decide +kernel, zto_Mo, ztn_Mo, rfl, (Or.inl zk_585)⟩
theorem zl_Mo_32 : za_fd zR_Mo 32 10 9 (.array (.int)) false := ⟨zR_Mo, zT_Mo, 32, zt_Mo, rfl, by decide, zi_Mo, rfl, by decide +kernel, zto_Mo, ztn_Mo, rfl, (Or.inl zk_586)⟩
theorem zl_Mo_35 : za_fd zR_Mo 35 10 10 (.array (.int)) false := ⟨zR_Mo, zT_Mo, 32, zt_Mo, rfl, by decide, zi_Mo, rfl, by decide +kernel, zto_Mo, ztn_Mo, rfl, (Or.inl zk_587)⟩
theorem zl_Mo_38 : za_fd zR_Mo 38 10 11 (.array (.int)) false := ⟨zR_Mo, zT_Mo, 32, zt_Mo, rfl, by decide, zi_Mo, rfl, by decide +kernel, zto_Mo, ztn_Mo, rfl, (Or.inl zk_588)⟩
theorem zl_Mo_41 : za_fd zR_Mo 41 10 12 (.array (.int)) false := ⟨zR_Mo, zT_Mo, 32, zt_Mo, rfl, by decide, zi_Mo, rfl, by decide +kernel, zto_Mo, ztn_Mo, rfl, (Or.inl zk_589)⟩
theorem zl_Mo_44 : za_fd zR_Mo 44 10 13 (.array (.int)) false := ⟨zR_Mo, zT_Mo, 32, zt_Mo, rfl, by decide, zi_Mo, rfl, by decide +kernel, zto_Mo, ztn_Mo, rfl, (Or.inl zk_590)⟩
theorem zl_Mo_47 : za_fd zR_Mo 47 10 14 (.array (.int)) false := ⟨zR_Mo, zT_Mo, 32, zt_Mo, rfl, by decide, zi_Mo, rfl, by decide +kernel, zto_Mo, ztn_Mo, rfl, (Or.inl zk_591)⟩
theorem zl_Mo_50 : za_fd zR_Mo 50 10 15 (.array (.int)) false := ⟨zR_Mo, zT_Mo, 32, zt_Mo, rfl, by decide, zi_Mo, rfl, by decide +kernel, zto_Mo, ztn_Mo, rfl, (Or.inl zk_592)⟩
theorem zl_Mo_53 : za_fd zR_Mo 53 10 17 (.array (.int)) false := ⟨zR_Mo, zT_Mo, 32, zt_Mo, rfl, by decide, zi_Mo, rfl, by decide +kernel, zto_Mo, ztn_Mo, rfl, (Or.inl zk_594)⟩
theorem zl_Mo_56 : za_fd zR_Mo 56 10 18 (.array (.int)) false := ⟨zR_Mo, zT_Mo, 32, zt_Mo, rfl, by decide, zi_Mo, rfl, by decide +kernel, zto_Mo, ztn_Mo, rfl, (Or.inl zk_595)⟩
theorem zl_Mo_59 : za_fd zR_Mo 59 10 19 (.array (.int)) false := ⟨zR_Mo, zT_Mo, 32, zt_Mo, rfl, by decide, zi_Mo, rfl, by decide +kernel, zto_Mo, ztn_Mo, rfl, (Or.inl zk_596)⟩
theorem zl_Mo_62 : za_fd zR_Mo 62 10 20 (.array (.boolean)) false := ⟨zR_Mo, zT_Mo, 32, zt_Mo, rfl, by decide, zi_Mo, rfl, by decide +kernel, zto_Mo, ztn_Mo, rfl, (Or.inl zk_597)⟩
theorem zl_Mo_65 : za_fd zR_Mo 65 10 21 (.array (.int)) false := ⟨zR_Mo, zT_Mo, 32, zt_Mo, rfl, by decide, zi_Mo, rfl, by decide +kernel, zto_Mo, ztn_Mo, rfl, (Or.inl zk_598)⟩
theorem zl_Mo_68 : za_fd zR_Mo 68 10 22 (.array (.int)) false := ⟨zR_Mo, zT_Mo, 32, zt_Mo, rfl, by decide, zi_Mo, rfl, by decide +kernel, zto_Mo, ztn_Mo, rfl, (Or.inl zk_599)⟩
theorem zl_Mo_71 : za_fd zR_Mo 71 10 23 (.array (.int)) false := ⟨zR_Mo, zT_Mo, 32, zt_Mo, rfl, by decide, zi_Mo, rfl, by decide +kernel, zto_Mo, ztn_Mo, rfl, (Or.inl zk_600)⟩
theorem zl_Mo_74 : za_fd zR_Mo 74 10 24 (.array (.int)) false := ⟨zR_Mo, zT_Mo, 32, zt_Mo, rfl, by decide, zi_Mo, rfl, by decide +kernel, zto_Mo, ztn_Mo, rfl, (Or.inl zk_601)⟩
theorem zl_Mo_77 : za_fd zR_Mo 77 10 25 (.array (.int)) false := ⟨zR_Mo, zT_Mo, 32, zt_Mo, rfl, by decide, zi_Mo, rfl, by decide +kernel, zto_Mo, ztn_Mo, rfl, (Or.inl zk_602)⟩
theorem zl_Mo_83 : za_fd zR_Mo 83 10 27 (.array (.int)) false := ⟨zR_Mo, zT_Mo, 32, zt_Mo, rfl, by decide, zi_Mo, rfl, by decide +kernel, zto_Mo, ztn_Mo, rfl, (Or.inl zk_604)⟩
theorem zl_Mo_86 : za_fd zR_Mo 86 10 28 (.array (.int)) false := ⟨zR_Mo, zT_Mo, 32, zt_Mo, rfl, by decide, zi_Mo, rfl, by decide +kernel, zto_Mo, ztn_Mo, rfl, (Or.inl zk_605)⟩
theorem zl_Mo_89 : za_fd zR_Mo 89 10 29 (.array (.int)) false := ⟨zR_Mo, zT_Mo, 32, zt_Mo, rfl, by decide, zi_Mo, rfl, by decide +kernel, zto_Mo, ztn_Mo, rfl, (Or.inl zk_606)⟩
theorem zl_Mo_92 : za_fd zR_Mo 92 10 30 (.array (.int)) false := ⟨zR_Mo, zT_Mo, 32, zt_Mo, rfl, by decide, zi_Mo, rfl, by decide +kernel, zto_Mo, ztn_Mo, rfl, (Or.inl zk_607)⟩
theorem zl_Mo_95 : za_fd zR_Mo 95 10 31 (.array (.int)) false := ⟨zR_Mo, zT_Mo, 32, zt_Mo, rfl, by decide, zi_Mo, rfl, by decide +kernel, zto_Mo, ztn_Mo, rfl, (Or.inl zk_608)⟩
theorem zl_Mo_98 : za_fd zR_Mo 98 10 0 (.int) false := ⟨zR_Mo, zT_Mo, 32, zt_Mo, rfl, by decide, zi_Mo, rfl, by decide +kernel, zto_Mo, ztn_Mo, rfl, (Or.inl zk_577)⟩
theorem zl_Mo_117 : za_fd zR_Mo 117 10 1 (.boolean) false := ⟨zR_Mo, zT_Mo, 32, zt_Mo, rfl, by decide, zi_Mo, rfl, by decide +kernel, zto_Mo, ztn_Mo, rfl, (Or.inl zk_578)⟩
theorem zl_Mo_200 : za_fd zR_Mo 200 10 16 (.int) false := ⟨zR_Mo, zT_Mo, 32, zt_Mo, rfl, by decide, zi_Mo, rfl, by decide +kernel, zto_Mo, ztn_Mo, rfl, (Or.inl zk_593)⟩
theorem zq_Quorums_11 : za_ff zR_Quorums 11 6 0 (.array (.object "TrustLedger$Trust")) := ⟨zT_Quorums, 1, zt_Quorums, rfl, by decide, zi_Quorums, rfl, by decide +kernel, zto_Quorums, ztn_Quorums, rfl, zk_48⟩
theorem zq_Statements_9 : za_ff zR_Statements 9 7 0 (.int) := ⟨zT_Statements, 6, zt_Statements, rfl, by decide, zi_Statements, rfl, by decide +kernel, zto_Statements, ztn_Statements, rfl, zk_75⟩
theorem zq_Statements_15 : za_ff zR_Statements 15 7 1 (.object "TrustLedger$Quorums") := ⟨zT_Statements, 6, zt_Statements, rfl, by decide, zi_Statements, rfl, by decide +kernel, zto_Statements, ztn_Statements, rfl, zk_76⟩
theorem zq_Statements_19 : za_ff zR_Statements 19 7 4 (.array (.int)) := ⟨zT_Statements, 6, zt_Statements, rfl, by decide, zi_Statements, rfl, by decide +kernel, zto_Statements, ztn_Statements, rfl, zk_82⟩
theorem zq_Statements_23 : za_ff zR_Statements 23 7 5 (.array (.int)) := ⟨zT_Statements, 6, zt_Statements, rfl, by decide, zi_Statements, rfl, by decide +kernel, zto_Statements, ztn_Statements, rfl, zk_85⟩
theorem zq_Agreement_9 : za_ff zR_Agreement 9 1 0 (.int) := ⟨zT_Agreement, 11, zt_Agreement, rfl, by decide, zi_Agreement, rfl, by decide +kernel, zto_Agreement, ztn_Agreement, rfl, zk_102⟩
theorem zq_Agreement_15 : za_ff zR_Agreement 15 1 1 (.int) := ⟨zT_Agreement, 11, zt_Agreement, rfl, by decide, zi_Agreement, rfl, by decide +kernel, zto_Agreement, ztn_Agreement, rfl, zk_103⟩
theorem zq_Agreement_24 : za_ff zR_Agreement 24 1 2 (.object "TrustLedger$Trust") := ⟨zT_Agreement, 11, zt_Agreement, rfl, by decide, zi_Agreement, rfl, by decide +kernel, zto_Agreement, ztn_Agreement, rfl, zk_104⟩
theorem zq_Agreement_33 : za_ff zR_Agreement 33 1 3 (.object "TrustLedger$Statements") := ⟨zT_Agreement, 11, zt_Agreement, rfl, by decide, zi_Agreement, rfl, by decide +kernel, zto_Agreement, ztn_Agreement, rfl, zk_105⟩
theorem zq_Agreement_37 : za_ff zR_Agreement 37 1 4 (.object "TrustLedger$Statements") := ⟨zT_Agreement, 11, zt_Agreement, rfl, by decide, zi_Agreement, rfl, by decide +kernel, zto_Agreement, ztn_Agreement, rfl, zk_106⟩
theorem zq_Agreement_40 : za_ff zR_Agreement 40 1 5 (.object "TrustLedger$Statements") := ⟨zT_Agreement, 11, zt_Agreement, rfl, by decide, zi_Agreement, rfl, by decide +kernel, zto_Agreement, ztn_Agreement, rfl, zk_107⟩
theorem zq_Ledger_20 : za_ff zR_Ledger 20 3 2 (.array (.object "TrustLedger$Offer")) := ⟨zT_Ledger, 4, zt_Ledger, rfl, by decide, zi_Ledger, rfl, by decide +kernel, zto_Ledger, ztn_Ledger, rfl, zk_149⟩
theorem zq_Ledger_9 : za_ff zR_Ledger 9 3 0 (.array (.int)) := ⟨zT_Ledger, 4, zt_Ledger, rfl, by decide, zi_Ledger, rfl, by decide +kernel, zto_Ledger, ztn_Ledger, rfl, zk_147⟩
theorem zq_Ledger_15 : za_ff zR_Ledger 15 3 1 (.array (.int)) := ⟨zT_Ledger, 4, zt_Ledger, rfl, by decide, zi_Ledger, rfl, by decide +kernel, zto_Ledger, ztn_Ledger, rfl, zk_148⟩
theorem zq_Node_23 : za_ff zR_Node 23 4 1 (.object "TrustLedger$Ledger") := ⟨zT_Node, 4, zt_Node, rfl, by decide, zi_Node, rfl, by decide +kernel, zto_Node, ztn_Node, rfl, zk_163⟩
theorem zq_Node_11 : za_ff zR_Node 11 4 0 (.array (.object "TrustLedger$Agreement")) := ⟨zT_Node, 4, zt_Node, rfl, by decide, zi_Node, rfl, by decide +kernel, zto_Node, ztn_Node, rfl, zk_161⟩
theorem zq_TL_31 : za_ff zR_TL 31 0 3 (.array (.object "TrustLedger$Transaction")) := ⟨zT_TL, 7, zt_TL, rfl, by decide, zi_TL, rfl, by decide +kernel, zto_TL, ztn_TL, rfl, zk_183⟩
theorem zq_TL_37 : za_ff zR_TL 37 0 4 (.array (.object "TrustLedger$Envelope")) := ⟨zT_TL, 7, zt_TL, rfl, by decide, zi_TL, rfl, by decide +kernel, zto_TL, ztn_TL, rfl, zk_184⟩
theorem zq_TL_9 : za_ff zR_TL 9 0 0 (.int) := ⟨zT_TL, 7, zt_TL, rfl, by decide, zi_TL, rfl, by decide +kernel, zto_TL, ztn_TL, rfl, zk_180⟩
theorem zq_TL_16 : za_ff zR_TL 16 0 1 (.object "TrustLedger$Quorums") := ⟨zT_TL, 7, zt_TL, rfl, by decide, zi_TL, rfl, by decide +kernel, zto_TL, ztn_TL, rfl, zk_181⟩
theorem zq_TL_22 : za_ff zR_TL 22 0 2 (.array (.object "TrustLedger$Node")) := ⟨zT_TL, 7, zt_TL, rfl, by decide, zi_TL, rfl, by decide +kernel, zto_TL, ztn_TL, rfl, zk_182⟩
theorem zq_Transaction_7 : za_ff zR_Transaction 7 8 0 (.int) := ⟨zT_Transaction, 5, zt_Transaction, rfl, by decide, zi_Transaction, rfl, by decide +kernel, zto_Transaction, ztn_Transaction, rfl, zk_232⟩
theorem zq_Transaction_13 : za_ff zR_Transaction 13 8 1 (.int) := ⟨zT_Transaction, 5, zt_Transaction, rfl, by decide, zi_Transaction, rfl, by decide +kernel, zto_Transaction, ztn_Transaction, rfl, zk_234⟩
theorem zq_Transaction_16 : za_ff zR_Transaction 16 8 2 (.int) := ⟨zT_Transaction, 5, zt_Transaction, rfl, by decide, zi_Transaction, rfl, by decide +kernel, zto_Transaction, ztn_Transaction, rfl, zk_236⟩
theorem zq_Transaction_19 : za_ff zR_Transaction 19 8 3 (.int) := ⟨zT_Transaction, 5, zt_Transaction, rfl, by decide, zi_Transaction, rfl, by decide +kernel, zto_Transaction, ztn_Transaction, rfl, zk_238⟩
theorem zq_Transaction_22 : za_ff zR_Transaction 22 8 4 (.int) := ⟨zT_Transaction, 5, zt_Transaction, rfl, by decide, zi_Transaction, rfl, by decide +kernel, zto_Transaction, ztn_Transaction, rfl, zk_240⟩
theorem zq_Offer_9 : za_ff zR_Offer 9 5 0 (.int) := ⟨zT_Offer, 4, zt_Offer, rfl, by decide, zi_Offer, rfl, by decide +kernel, zto_Offer, ztn_Offer, rfl, zk_397⟩
theorem zq_Offer_15 : za_ff zR_Offer 15 5 1 (.int) := ⟨zT_Offer, 4, zt_Offer, rfl, by decide, zi_Offer, rfl, by decide +kernel, zto_Offer, ztn_Offer, rfl, zk_400⟩
theorem zq_Offer_18 : za_ff zR_Offer 18 5 2 (.int) := ⟨zT_Offer, 4, zt_Offer, rfl, by decide, zi_Offer, rfl, by decide +kernel, zto_Offer, ztn_Offer, rfl, zk_403⟩
theorem zq_Envelope_9 : za_ff zR_Envelope 9 2 0 (.int) := ⟨zT_Envelope, 4, zt_Envelope, rfl, by decide, zi_Envelope, rfl, by decide +kernel, zto_Envelope, ztn_Envelope, rfl, zk_479⟩
theorem zq_Envelope_15 : za_ff zR_Envelope 15 2 1 (.int) := ⟨zT_Envelope, 4, zt_Envelope, rfl, by decide, zi_Envelope, rfl, by decide +kernel, zto_Envelope, ztn_Envelope, rfl, zk_482⟩
theorem zq_Envelope_18 : za_ff zR_Envelope 18 2 2 (.array (.int)) := ⟨zT_Envelope, 4, zt_Envelope, rfl, by decide, zi_Envelope, rfl, by decide +kernel, zto_Envelope, ztn_Envelope, rfl, zk_484⟩
theorem zq_Envelope_22 : za_ff zR_Envelope 22 2 3 (.array (.int)) := ⟨zT_Envelope, 4, zt_Envelope, rfl, by decide, zi_Envelope, rfl, by decide +kernel, zto_Envelope, ztn_Envelope, rfl, zk_487⟩
theorem zw_Quorums_9 : za_nd zR_Quorums 9 9 [.int 0, .int 0, .int 0, .int 0] 4 := ⟨zR_Trust, zT_Trust, zt_Trust, rfl, zi_Trust, zto_Trust, zk_28, zk_30, zk_3, by decide +kernel⟩
theorem zw_Agreement_28 : za_nd zR_Agreement 28 7 [.int 0, .null, .int 0, .int 0, .null, .null] 6 := ⟨zR_Statements, zT_Statements, zt_Statements, rfl, zi_Statements, zto_Statements, zk_69, zk_70, zk_6, by decide +kernel⟩
theorem zw_Node_20 : za_nd zR_Node 20 3 [.null, .null, .null, .int 0] 4 := ⟨zR_Ledger, zT_Ledger, zt_Ledger, rfl, zi_Ledger, zto_Ledger, zk_139, zk_140, zk_7, by decide +kernel⟩
theorem zw_Node_9 : za_nd zR_Node 9 1 [.int 0, .int 0, .null, .null, .null, .null, .int 0, .int 0, .int 0, .int 0, .int 0] 11 := ⟨zR_Agreement, zT_Agreement, zt_Agreement, rfl, zi_Agreement, zto_Agreement, zk_62, zk_64, zk_5, by decide +kernel⟩
theorem zw_TL_20 : za_nd zR_TL 20 4 [.null, .null, .int 0, .int 0] 4 := ⟨zR_Node, zT_Node, zt_Node, rfl, zi_Node, zto_Node, zk_55, zk_57, zk_4, by decide +kernel⟩
theorem zw_TL_13 : za_nd zR_TL 13 6 [.null] 1 := ⟨zR_Quorums, zT_Quorums, zt_Quorums, rfl, zi_Quorums, zto_Quorums, zk_22, zk_23, zk_2, by decide +kernel⟩
theorem zw_TL_29 : za_nd zR_TL 29 8 [.int 0, .int 0, .int 0, .int 0, .int 0] 5 := ⟨zR_Transaction, zT_Transaction, zt_Transaction, rfl, zi_Transaction, zto_Transaction, zk_176, zk_227, zk_9, by decide +kernel⟩
theorem zw_Ledger_18 : za_nd zR_Ledger 18 5 [.int 0, .int 0, .int 0, .int 0] 4 := ⟨zR_Offer, zT_Offer, zt_Offer, rfl, zi_Offer, zto_Offer, zk_145, zk_392, zk_11, by decide +kernel⟩
theorem zw_TL_35 : za_nd zR_TL 35 2 [.int 0, .int 0, .null, .null] 4 := ⟨zR_Envelope, zT_Envelope, zt_Envelope, rfl, zi_Envelope, zto_Envelope, zk_178, zk_474, zk_13, by decide +kernel⟩
theorem zj_Quorums_17 : za_mI zR_Quorums 17 zy_Trust_init zc_Trust_init 1 0 := ⟨⟨zk_33, zk_3, ⟨by decide +kernel, by decide +kernel, by decide +kernel⟩, (Or.inr ⟨_, zn_31⟩)⟩, rfl, zk_32⟩
theorem zj_Agreement_30 : za_mI zR_Agreement 30 zy_Statements_init zc_Statements_init 3 2 := ⟨⟨zk_73, zk_6, ⟨by decide +kernel, by decide +kernel, by decide +kernel⟩, (Or.inl zk_71)⟩, rfl, zk_72⟩
theorem zj_Node_22 : za_mI zR_Node 22 zy_Ledger_init zc_Ledger_init 2 0 := ⟨⟨zk_143, zk_7, ⟨by decide +kernel, by decide +kernel, by decide +kernel⟩, (Or.inl zk_141)⟩, rfl, zk_142⟩
theorem zj_Node_17 : za_mI zR_Node 17 zy_Agreement_init zc_Agreement_init 4 3 := ⟨⟨zk_67, zk_5, ⟨by decide +kernel, by decide +kernel, by decide +kernel⟩, (Or.inl zk_65)⟩, rfl, zk_66⟩
theorem zj_TL_26 : za_mI zR_TL 26 zy_Node_init zc_Node_init 4 2 := ⟨⟨zk_60, zk_4, ⟨by decide +kernel, by decide +kernel, by decide +kernel⟩, (Or.inl zk_58)⟩, rfl, zk_59⟩
theorem zj_TL_15 : za_mI zR_TL 15 zy_Quorums_init zc_Quorums_init 2 0 := ⟨⟨zk_26, zk_2, ⟨by decide +kernel, by decide +kernel, by decide +kernel⟩, (Or.inl zk_24)⟩, rfl, zk_25⟩
theorem zj_TL_53 : za_mV zR_TL 53 zy_Trust_become zc_Trust_become 5 none 4 9 := ⟨⟨zk_212, zk_3, ⟨by decide +kernel, by decide +kernel, by decide +kernel⟩, (Or.inl zk_209)⟩, zk_210, zk_211, _, _, rfl⟩
theorem zj_TL_41 : za_mS zR_TL 41 zy_TL_isWithin zc_TL_isWithin 3 (some .boolean) 3 := ⟨⟨zk_208, zk_1, ⟨by decide +kernel, by decide +kernel, by decide +kernel⟩, (Or.inl zk_206)⟩, zk_207⟩
theorem zj_TL_66 : za_mV zR_TL 66 zy_TL_isLeft zc_TL_isLeft 3 (some .boolean) 1 0 := ⟨⟨zk_226, zk_1, ⟨by decide +kernel, by decide +kernel, by decide +kernel⟩, (Or.inl zk_223)⟩, zk_225, zk_p0, _, _, rfl⟩
theorem zj_TL_69 : za_mI zR_TL 69 zy_Transaction_init zc_Transaction_init 6 5 := ⟨⟨zk_230, zk_9, ⟨by decide +kernel, by decide +kernel, by decide +kernel⟩, (Or.inl zk_228)⟩, rfl, zk_229⟩
theorem zj_TL_59 : za_mS zR_TL 59 zy_TL_isSlot zc_TL_isSlot 1 (some .boolean) 1 := ⟨⟨zk_219, zk_1, ⟨by decide +kernel, by decide +kernel, by decide +kernel⟩, (Or.inl zk_217)⟩, zk_218⟩
theorem zj_TL_63 : za_mS zR_TL 63 zy_TL_isAccount zc_TL_isAccount 1 (some .boolean) 1 := ⟨⟨zk_222, zk_1, ⟨by decide +kernel, by decide +kernel, by decide +kernel⟩, (Or.inl zk_220)⟩, zk_221⟩
theorem zj_TL_135 : za_mS zR_TL 135 zy_TL_has zc_TL_has 2 (some .boolean) 2 := ⟨⟨zk_267, zk_1, ⟨by decide +kernel, by decide +kernel, by decide +kernel⟩, (Or.inl zk_265)⟩, zk_266⟩
theorem zj_TL_107 : za_mV zR_TL 107 zy_TL_isGood zc_TL_isGood 2 (some .boolean) 1 0 := ⟨⟨zk_264, zk_1, ⟨by decide +kernel, by decide +kernel, by decide +kernel⟩, (Or.inl zk_261)⟩, zk_263, zk_p2, _, _, rfl⟩
theorem zj_Agreement_116 : za_mS zR_Agreement 116 zy_TL_has zc_TL_has 2 (some .boolean) 2 := ⟨⟨zk_267, zk_1, ⟨by decide +kernel, by decide +kernel, by decide +kernel⟩, (Or.inr ⟨_, zn_280⟩)⟩, zk_266⟩
theorem zj_Agreement_111 : za_mV zR_Agreement 111 zy_Trust_everyone zc_Trust_everyone 1 (some .int) 0 9 := ⟨⟨zk_279, zk_3, ⟨by decide +kernel, by decide +kernel, by decide +kernel⟩, (Or.inl zk_276)⟩, zk_277, zk_278, _, _, rfl⟩
theorem zj_Agreement_59 : za_mV zR_Agreement 59 zy_Agreement_beginRound zc_Agreement_beginRound 6 none 0 1 := ⟨⟨zk_275, zk_5, ⟨by decide +kernel, by decide +kernel, by decide +kernel⟩, (Or.inl zk_272)⟩, zk_274, zk_p3, _, _, rfl⟩
theorem zj_Statements_29 : za_mS zR_Statements 29 zy_TL_has zc_TL_has 2 (some .boolean) 2 := ⟨⟨zk_267, zk_1, ⟨by decide +kernel, by decide +kernel, by decide +kernel⟩, (Or.inr ⟨_, zn_293⟩)⟩, zk_266⟩
theorem zj_Agreement_127 : za_mV zR_Agreement 127 zy_Statements_vote zc_Statements_vote 2 (some .boolean) 1 7 := ⟨⟨zk_297, zk_6, ⟨by decide +kernel, by decide +kernel, by decide +kernel⟩, (Or.inl zk_294)⟩, zk_295, zk_296, _, _, rfl⟩
theorem zj_Agreement_138 : za_mV zR_Agreement 138 zy_Statements_nodesWith zc_Statements_nodesWith 5 (some .int) 2 7 := ⟨⟨zk_292, zk_6, ⟨by decide +kernel, by decide +kernel, by decide +kernel⟩, (Or.inl zk_289)⟩, zk_290, zk_291, _, _, rfl⟩
theorem zj_Trust_24 : za_mS zR_Trust 24 zy_Int_bitCount zc_Int_bitCount 1 (some .int) 1 := ⟨⟨zk_318, zk_10, ⟨by decide +kernel, by decide +kernel, by decide +kernel⟩, (Or.inl zk_316)⟩, zk_317⟩
theorem zj_Quorums_18 : za_mS zR_Quorums 18 zy_TL_has zc_TL_has 2 (some .boolean) 2 := ⟨⟨zk_267, zk_1, ⟨by decide +kernel, by decide +kernel, by decide +kernel⟩, (Or.inr ⟨_, zn_311⟩)⟩, zk_266⟩
theorem zj_Quorums_22 : za_mV zR_Quorums 22 zy_Trust_isSatisfiedBy zc_Trust_isSatisfiedBy 3 (some .boolean) 1 9 := ⟨⟨zk_315, zk_3, ⟨by decide +kernel, by decide +kernel, by decide +kernel⟩, (Or.inl zk_312)⟩, zk_313, zk_314, _, _, rfl⟩
theorem zj_Trust_30 : za_mV zR_Trust 30 zy_Trust_isSatisfiedBy zc_Trust_isSatisfiedBy 3 (some .boolean) 1 9 := ⟨⟨zk_315, zk_3, ⟨by decide +kernel, by decide +kernel, by decide +kernel⟩, (Or.inl zk_326)⟩, zk_313, zk_314, _, _, rfl⟩
theorem zj_Statements_33 : za_mV zR_Statements 33 zy_Statements_nodesWith zc_Statements_nodesWith 5 (some .int) 2 7 := ⟨⟨zk_292, zk_6, ⟨by decide +kernel, by decide +kernel, by decide +kernel⟩, (Or.inl zk_306)⟩, zk_290, zk_291, _, _, rfl⟩
theorem zj_Statements_46 : za_mV zR_Statements 46 zy_Trust_isBlockedBy zc_Trust_isBlockedBy 2 (some .boolean) 1 9 := ⟨⟨zk_325, zk_3, ⟨by decide +kernel, by decide +kernel, by decide +kernel⟩, (Or.inl zk_322)⟩, zk_323, zk_324, _, _, rfl⟩
theorem zj_Statements_37 : za_mV zR_Statements 37 zy_Quorums_isGivenTo zc_Quorums_isGivenTo 7 (some .boolean) 2 6 := ⟨⟨zk_310, zk_2, ⟨by decide +kernel, by decide +kernel, by decide +kernel⟩, (Or.inl zk_307)⟩, zk_308, zk_309, _, _, rfl⟩
theorem zj_Agreement_142 : za_mV zR_Agreement 142 zy_Statements_acceptIfMay zc_Statements_acceptIfMay 3 (some .boolean) 1 7 := ⟨⟨zk_305, zk_6, ⟨by decide +kernel, by decide +kernel, by decide +kernel⟩, (Or.inl zk_302)⟩, zk_303, zk_304, _, _, rfl⟩
theorem zj_Agreement_145 : za_mV zR_Agreement 145 zy_Statements_confirmIfMay zc_Statements_confirmIfMay 3 (some .boolean) 1 7 := ⟨⟨zk_334, zk_6, ⟨by decide +kernel, by decide +kernel, by decide +kernel⟩, (Or.inl zk_331)⟩, zk_332, zk_333, _, _, rfl⟩
theorem zj_Agreement_52 : za_mV zR_Agreement 52 zy_Agreement_composite zc_Agreement_composite 3 (some .int) 0 1 := ⟨⟨zk_342, zk_5, ⟨by decide +kernel, by decide +kernel, by decide +kernel⟩, (Or.inl zk_339)⟩, zk_341, zk_p8, _, _, rfl⟩
theorem zj_Agreement_134 : za_mS zR_Agreement 134 zy_TL_valueOf zc_TL_valueOf 1 (some .int) 1 := ⟨⟨zk_353, zk_1, ⟨by decide +kernel, by decide +kernel, by decide +kernel⟩, (Or.inr ⟨_, zn_351⟩)⟩, zk_352⟩
theorem zj_Agreement_120 : za_mV zR_Agreement 120 zy_Agreement_valueToPrepare zc_Agreement_valueToPrepare 2 (some .int) 0 1 := ⟨⟨zk_350, zk_5, ⟨by decide +kernel, by decide +kernel, by decide +kernel⟩, (Or.inl zk_347)⟩, zk_349, zk_p10, _, _, rfl⟩
theorem zj_Agreement_123 : za_mS zR_Agreement 123 zy_TL_ballotOf zc_TL_ballotOf 2 (some .int) 2 := ⟨⟨zk_356, zk_1, ⟨by decide +kernel, by decide +kernel, by decide +kernel⟩, (Or.inr ⟨_, zn_354⟩)⟩, zk_355⟩
theorem zj_Agreement_62 : za_mV zR_Agreement 62 zy_Agreement_raiseCounter zc_Agreement_raiseCounter 1 none 0 1 := ⟨⟨zk_346, zk_5, ⟨by decide +kernel, by decide +kernel, by decide +kernel⟩, (Or.inl zk_343)⟩, zk_345, zk_p9, _, _, rfl⟩
theorem zj_TL_193 : za_mS zR_TL 193 zy_TL_otherValued zc_TL_otherValued 1 (some .int) 1 := ⟨⟨zk_366, zk_1, ⟨by decide +kernel, by decide +kernel, by decide +kernel⟩, (Or.inl zk_364)⟩, zk_365⟩
theorem zj_Agreement_148 : za_mS zR_Agreement 148 zy_TL_abortedBy zc_TL_abortedBy 1 (some .int) 1 := ⟨⟨zk_363, zk_1, ⟨by decide +kernel, by decide +kernel, by decide +kernel⟩, (Or.inr ⟨_, zn_361⟩)⟩, zk_362⟩
theorem zj_Agreement_151 : za_mS zR_Agreement 151 zy_TL_abortersOf zc_TL_abortersOf 1 (some .int) 1 := ⟨⟨zk_379, zk_1, ⟨by decide +kernel, by decide +kernel, by decide +kernel⟩, (Or.inr ⟨_, zn_377⟩)⟩, zk_378⟩
theorem zj_Agreement_86 : za_mV zR_Agreement 86 zy_Agreement_voteNominate zc_Agreement_voteNominate 4 (some .boolean) 0 1 := ⟨⟨zk_288, zk_5, ⟨by decide +kernel, by decide +kernel, by decide +kernel⟩, (Or.inl zk_285)⟩, zk_287, zk_p4, _, _, rfl⟩
theorem zj_Agreement_90 : za_mV zR_Agreement 90 zy_Agreement_acceptNominate zc_Agreement_acceptNominate 3 (some .boolean) 0 1 := ⟨⟨zk_301, zk_5, ⟨by decide +kernel, by decide +kernel, by decide +kernel⟩, (Or.inl zk_298)⟩, zk_300, zk_p5, _, _, rfl⟩
theorem zj_Agreement_93 : za_mV zR_Agreement 93 zy_Agreement_confirmNominate zc_Agreement_confirmNominate 3 (some .boolean) 0 1 := ⟨⟨zk_330, zk_5, ⟨by decide +kernel, by decide +kernel, by decide +kernel⟩, (Or.inl zk_327)⟩, zk_329, zk_p6, _, _, rfl⟩
theorem zj_Agreement_96 : za_mV zR_Agreement 96 zy_Agreement_beginPrepare zc_Agreement_beginPrepare 1 (some .boolean) 0 1 := ⟨⟨zk_338, zk_5, ⟨by decide +kernel, by decide +kernel, by decide +kernel⟩, (Or.inl zk_335)⟩, zk_337, zk_p7, _, _, rfl⟩
theorem zj_Agreement_99 : za_mV zR_Agreement 99 zy_Agreement_acceptPrepare zc_Agreement_acceptPrepare 3 (some .boolean) 0 1 := ⟨⟨zk_360, zk_5, ⟨by decide +kernel, by decide +kernel, by decide +kernel⟩, (Or.inl zk_357)⟩, zk_359, zk_p11, _, _, rfl⟩
theorem zj_Agreement_102 : za_mV zR_Agreement 102 zy_Agreement_confirmPrepare zc_Agreement_confirmPrepare 3 (some .boolean) 0 1 := ⟨⟨zk_372, zk_5, ⟨by decide +kernel, by decide +kernel, by decide +kernel⟩, (Or.inl zk_369)⟩, zk_371, zk_p12, _, _, rfl⟩
theorem zj_Agreement_105 : za_mV zR_Agreement 105 zy_Agreement_voteCommit zc_Agreement_voteCommit 3 (some .boolean) 0 1 := ⟨⟨zk_376, zk_5, ⟨by decide +kernel, by decide +kernel, by decide +kernel⟩, (Or.inl zk_373)⟩, zk_375, zk_p13, _, _, rfl⟩
theorem zj_Agreement_108 : za_mV zR_Agreement 108 zy_Agreement_settleCommit zc_Agreement_settleCommit 3 (some .boolean) 0 1 := ⟨⟨zk_383, zk_5, ⟨by decide +kernel, by decide +kernel, by decide +kernel⟩, (Or.inl zk_380)⟩, zk_382, zk_p14, _, _, rfl⟩
theorem zj_Offer_24 : za_mV zR_Offer 24 zy_Offer_sells zc_Offer_sells 1 (some .boolean) 0 5 := ⟨⟨zk_433, zk_11, ⟨by decide +kernel, by decide +kernel, by decide +kernel⟩, (Or.inl zk_430)⟩, zk_431, zk_432, _, _, rfl⟩
theorem zj_Ledger_79 : za_mV zR_Ledger 79 zy_Offer_prefers zc_Offer_prefers 3 (some .boolean) 2 5 := ⟨⟨zk_437, zk_11, ⟨by decide +kernel, by decide +kernel, by decide +kernel⟩, (Or.inl zk_434)⟩, zk_435, zk_436, _, _, rfl⟩
theorem zj_Ledger_75 : za_mV zR_Ledger 75 zy_Offer_agreesTo zc_Offer_agreesTo 2 (some .boolean) 1 5 := ⟨⟨zk_429, zk_11, ⟨by decide +kernel, by decide +kernel, by decide +kernel⟩, (Or.inl zk_426)⟩, zk_427, zk_428, _, _, rfl⟩
theorem zj_Ledger_83 : za_mV zR_Ledger 83 zy_Offer_sells zc_Offer_sells 1 (some .boolean) 0 5 := ⟨⟨zk_433, zk_11, ⟨by decide +kernel, by decide +kernel, by decide +kernel⟩, (Or.inl zk_442)⟩, zk_431, zk_432, _, _, rfl⟩
theorem zj_Ledger_100 : za_mV zR_Ledger 100 zy_Ledger_takeOut zc_Ledger_takeOut 3 none 1 3 := ⟨⟨zk_457, zk_7, ⟨by decide +kernel, by decide +kernel, by decide +kernel⟩, (Or.inl zk_454)⟩, zk_456, zk_p21, _, _, rfl⟩
theorem zj_Ledger_53 : za_mV zR_Ledger 53 zy_Ledger_move zc_Ledger_move 5 none 4 3 := ⟨⟨zk_453, zk_7, ⟨by decide +kernel, by decide +kernel, by decide +kernel⟩, (Or.inl zk_450)⟩, zk_452, zk_p20, _, _, rfl⟩
theorem zj_Ledger_96 : za_mV zR_Ledger 96 zy_Ledger_canServe zc_Ledger_canServe 2 (some .boolean) 1 3 := ⟨⟨zk_449, zk_7, ⟨by decide +kernel, by decide +kernel, by decide +kernel⟩, (Or.inl zk_446)⟩, zk_448, zk_p19, _, _, rfl⟩
theorem zj_Ledger_58 : za_mV zR_Ledger 58 zy_Ledger_bestFor zc_Ledger_bestFor 7 (some .int) 1 3 := ⟨⟨zk_425, zk_7, ⟨by decide +kernel, by decide +kernel, by decide +kernel⟩, (Or.inl zk_422)⟩, zk_424, zk_p17, _, _, rfl⟩
theorem zj_Ledger_62 : za_mV zR_Ledger 62 zy_Ledger_tradeWith zc_Ledger_tradeWith 8 (some .boolean) 2 3 := ⟨⟨zk_441, zk_7, ⟨by decide +kernel, by decide +kernel, by decide +kernel⟩, (Or.inl zk_438)⟩, zk_440, zk_p18, _, _, rfl⟩
theorem zj_Ledger_49 : za_mV zR_Ledger 49 zy_Ledger_holdings zc_Ledger_holdings 2 (some (.array .int)) 1 3 := ⟨⟨zk_461, zk_7, ⟨by decide +kernel, by decide +kernel, by decide +kernel⟩, (Or.inl zk_458)⟩, zk_459, zk_460, _, _, rfl⟩
theorem zj_Ledger_42 : za_mI zR_Ledger 42 zy_Offer_init zc_Offer_init 5 4 := ⟨⟨zk_395, zk_11, ⟨by decide +kernel, by decide +kernel, by decide +kernel⟩, (Or.inl zk_393)⟩, rfl, zk_394⟩
theorem zj_Ledger_45 : za_mV zR_Ledger 45 zy_Ledger_match zc_Ledger_match 5 none 1 3 := ⟨⟨zk_421, zk_7, ⟨by decide +kernel, by decide +kernel, by decide +kernel⟩, (Or.inl zk_418)⟩, zk_420, zk_p16, _, _, rfl⟩
theorem zj_TL_196 : za_mV zR_TL 196 zy_Ledger_carryOut zc_Ledger_carryOut 2 none 1 3 := ⟨⟨zk_391, zk_7, ⟨by decide +kernel, by decide +kernel, by decide +kernel⟩, (Or.inl zk_388)⟩, zk_389, zk_390, _, _, rfl⟩
theorem zj_TL_72 : za_mV zR_TL 72 zy_TL_isAtWork zc_TL_isAtWork 2 (some .boolean) 1 0 := ⟨⟨zk_260, zk_1, ⟨by decide +kernel, by decide +kernel, by decide +kernel⟩, (Or.inl zk_257)⟩, zk_259, zk_p1, _, _, rfl⟩
theorem zj_TL_87 : za_mV zR_TL 87 zy_Agreement_takeProposal zc_Agreement_takeProposal 2 none 1 1 := ⟨⟨zk_271, zk_5, ⟨by decide +kernel, by decide +kernel, by decide +kernel⟩, (Or.inl zk_268)⟩, zk_269, zk_270, _, _, rfl⟩
theorem zj_TL_91 : za_mV zR_TL 91 zy_Agreement_stir zc_Agreement_stir 3 none 0 1 := ⟨⟨zk_284, zk_5, ⟨by decide +kernel, by decide +kernel, by decide +kernel⟩, (Or.inl zk_281)⟩, zk_282, zk_283, _, _, rfl⟩
theorem zj_TL_97 : za_mV zR_TL 97 zy_TL_closeSlot zc_TL_closeSlot 5 none 2 0 := ⟨⟨zk_387, zk_1, ⟨by decide +kernel, by decide +kernel, by decide +kernel⟩, (Or.inl zk_384)⟩, zk_386, zk_p15, _, _, rfl⟩
theorem zj_TL_104 : za_mV zR_TL 104 zy_Agreement_runOutOfTime zc_Agreement_runOutOfTime 1 none 0 1 := ⟨⟨zk_469, zk_5, ⟨by decide +kernel, by decide +kernel, by decide +kernel⟩, (Or.inl zk_466)⟩, zk_467, zk_468, _, _, rfl⟩
theorem zj_TL_131 : za_mV zR_TL 131 zy_TL_keepEnvelope zc_TL_keepEnvelope 2 (some .int) 1 0 := ⟨⟨zk_506, zk_1, ⟨by decide +kernel, by decide +kernel, by decide +kernel⟩, (Or.inl zk_503)⟩, zk_505, zk_p22, _, _, rfl⟩
theorem zj_TL_116 : za_mV zR_TL 116 zy_Agreement_ofKind zc_Agreement_ofKind 2 (some (.object "TrustLedger$Statements")) 1 1 := ⟨⟨zk_502, zk_5, ⟨by decide +kernel, by decide +kernel, by decide +kernel⟩, (Or.inl zk_499)⟩, zk_500, zk_501, _, _, rfl⟩
theorem zj_TL_113 : za_mI zR_TL 113 zy_Envelope_init zc_Envelope_init 3 2 := ⟨⟨zk_477, zk_13, ⟨by decide +kernel, by decide +kernel, by decide +kernel⟩, (Or.inl zk_475)⟩, rfl, zk_476⟩
theorem zj_TL_139 : za_mV zR_TL 139 zy_Envelope_claim zc_Envelope_claim 3 none 2 2 := ⟨⟨zk_514, zk_13, ⟨by decide +kernel, by decide +kernel, by decide +kernel⟩, (Or.inl zk_511)⟩, zk_512, zk_513, _, _, rfl⟩
theorem zj_Agreement_65 : za_mV zR_Agreement 65 zy_Agreement_ofKind zc_Agreement_ofKind 2 (some (.object "TrustLedger$Statements")) 1 1 := ⟨⟨zk_502, zk_5, ⟨by decide +kernel, by decide +kernel, by decide +kernel⟩, (Or.inl zk_523)⟩, zk_500, zk_501, _, _, rfl⟩
theorem zj_TL_147 : za_mV zR_TL 147 zy_Agreement_learn zc_Agreement_learn 4 none 1 1 := ⟨⟨zk_522, zk_5, ⟨by decide +kernel, by decide +kernel, by decide +kernel⟩, (Or.inl zk_519)⟩, zk_520, zk_521, _, _, rfl⟩
theorem zj_TL_151 : za_mV zR_TL 151 zy_Agreement_aspect zc_Agreement_aspect 2 (some .int) 1 1 := ⟨⟨zk_535, zk_5, ⟨by decide +kernel, by decide +kernel, by decide +kernel⟩, (Or.inl zk_532)⟩, zk_533, zk_534, _, _, rfl⟩
theorem zj_TL_168 : za_mV zR_TL 168 zy_Ledger_holdings zc_Ledger_holdings 2 (some (.array .int)) 1 3 := ⟨⟨zk_461, zk_7, ⟨by decide +kernel, by decide +kernel, by decide +kernel⟩, (Or.inl zk_552)⟩, zk_459, zk_460, _, _, rfl⟩
theorem zj_Mo_109 : za_mS zR_Mo 109 zy_Mo_many zc_Mo_many 3 (some .int) 1 := ⟨⟨zk_576, zk_8, ⟨by decide +kernel, by decide +kernel, by decide +kernel⟩, (Or.inl zk_574)⟩, zk_575⟩
theorem zj_Mo_113 : za_mV zR_Mo 113 zy_Mo_satisfies zc_Mo_satisfies 5 (some .boolean) 2 10 := ⟨⟨zk_573, zk_8, ⟨by decide +kernel, by decide +kernel, by decide +kernel⟩, (Or.inl zk_570)⟩, zk_572, zk_p24, _, _, rfl⟩
theorem zj_Mo_102 : za_mV zR_Mo 102 zy_Mo_table zc_Mo_table 3 none 0 10 := ⟨⟨zk_569, zk_8, ⟨by decide +kernel, by decide +kernel, by decide +kernel⟩, (Or.inl zk_566)⟩, zk_568, zk_p23, _, _, rfl⟩
theorem zj_Mo_105 : za_mS zR_Mo 105 zy_Mo_in zc_Mo_in 3 (some .boolean) 3 := ⟨⟨zk_681, zk_8, ⟨by decide +kernel, by decide +kernel, by decide +kernel⟩, (Or.inl zk_679)⟩, zk_680⟩
theorem zj_Mo_121 : za_mV zR_Mo 121 zy_Mo_place zc_Mo_place 4 (some .int) 3 10 := ⟨⟨zk_705, zk_8, ⟨by decide +kernel, by decide +kernel, by decide +kernel⟩, (Or.inl zk_702)⟩, zk_704, zk_p29, _, _, rfl⟩
theorem zj_Mo_125 : za_mV zR_Mo 125 zy_Mo_has zc_Mo_has 5 (some .boolean) 4 10 := ⟨⟨zk_713, zk_8, ⟨by decide +kernel, by decide +kernel, by decide +kernel⟩, (Or.inl zk_710)⟩, zk_712, zk_p31, _, _, rfl⟩
theorem zj_Mo_129 : za_mS zR_Mo 129 zy_Mo_worth zc_Mo_worth 1 (some .int) 1 := ⟨⟨zk_735, zk_8, ⟨by decide +kernel, by decide +kernel, by decide +kernel⟩, (Or.inl zk_733)⟩, zk_734⟩
theorem zj_Mo_132 : za_mS zR_Mo 132 zy_Mo_aborts zc_Mo_aborts 2 (some .boolean) 2 := ⟨⟨zk_732, zk_8, ⟨by decide +kernel, by decide +kernel, by decide +kernel⟩, (Or.inl zk_730)⟩, zk_731⟩
theorem zj_Mo_143 : za_mV zR_Mo 143 zy_Mo_gives zc_Mo_gives 4 (some .boolean) 2 10 := ⟨⟨zk_739, zk_8, ⟨by decide +kernel, by decide +kernel, by decide +kernel⟩, (Or.inl zk_736)⟩, zk_738, zk_p36, _, _, rfl⟩
theorem zj_Mo_139 : za_mV zR_Mo 139 zy_Mo_nodes zc_Mo_nodes 10 (some .int) 4 10 := ⟨⟨zk_709, zk_8, ⟨by decide +kernel, by decide +kernel, by decide +kernel⟩, (Or.inl zk_706)⟩, zk_708, zk_p30, _, _, rfl⟩
theorem zj_Mo_135 : za_mV zR_Mo 135 zy_Mo_clash zc_Mo_clash 8 (some .boolean) 5 10 := ⟨⟨zk_729, zk_8, ⟨by decide +kernel, by decide +kernel, by decide +kernel⟩, (Or.inl zk_726)⟩, zk_728, zk_p35, _, _, rfl⟩
theorem zj_Mo_146 : za_mV zR_Mo 146 zy_Mo_composite zc_Mo_composite 4 (some .int) 1 10 := ⟨⟨zk_755, zk_8, ⟨by decide +kernel, by decide +kernel, by decide +kernel⟩, (Or.inl zk_752)⟩, zk_754, zk_p40, _, _, rfl⟩
theorem zj_Mo_149 : za_mV zR_Mo 149 zy_Mo_toPrepare zc_Mo_toPrepare 3 (some .int) 1 10 := ⟨⟨zk_763, zk_8, ⟨by decide +kernel, by decide +kernel, by decide +kernel⟩, (Or.inl zk_760)⟩, zk_762, zk_p42, _, _, rfl⟩
theorem zj_Mo_152 : za_mV zR_Mo 152 zy_Mo_put zc_Mo_put 7 (some .boolean) 4 10 := ⟨⟨zk_717, zk_8, ⟨by decide +kernel, by decide +kernel, by decide +kernel⟩, (Or.inl zk_714)⟩, zk_716, zk_p32, _, _, rfl⟩
theorem zj_Mo_155 : za_mV zR_Mo 155 zy_Mo_mayAccept zc_Mo_mayAccept 7 (some .boolean) 3 10 := ⟨⟨zk_725, zk_8, ⟨by decide +kernel, by decide +kernel, by decide +kernel⟩, (Or.inl zk_722)⟩, zk_724, zk_p34, _, _, rfl⟩
theorem zj_Mo_158 : za_mV zR_Mo 158 zy_Mo_mayConfirm zc_Mo_mayConfirm 5 (some .boolean) 3 10 := ⟨⟨zk_747, zk_8, ⟨by decide +kernel, by decide +kernel, by decide +kernel⟩, (Or.inl zk_744)⟩, zk_746, zk_p38, _, _, rfl⟩
theorem zj_Mo_161 : za_mV zR_Mo 161 zy_Mo_votePrepare zc_Mo_votePrepare 3 (some .boolean) 1 10 := ⟨⟨zk_759, zk_8, ⟨by decide +kernel, by decide +kernel, by decide +kernel⟩, (Or.inl zk_756)⟩, zk_758, zk_p41, _, _, rfl⟩
theorem zj_Mo_218 : za_mV zR_Mo 218 zy_Mo_remove zc_Mo_remove 4 none 2 10 := ⟨⟨zk_795, zk_8, ⟨by decide +kernel, by decide +kernel, by decide +kernel⟩, (Or.inl zk_792)⟩, zk_794, zk_p50, _, _, rfl⟩
theorem zj_Mo_211 : za_mV zR_Mo 211 zy_Mo_best zc_Mo_best 8 (some .int) 3 10 := ⟨⟨zk_787, zk_8, ⟨by decide +kernel, by decide +kernel, by decide +kernel⟩, (Or.inl zk_784)⟩, zk_786, zk_p48, _, _, rfl⟩
theorem zj_Mo_214 : za_mV zR_Mo 214 zy_Mo_cross zc_Mo_cross 10 (some .int) 4 10 := ⟨⟨zk_791, zk_8, ⟨by decide +kernel, by decide +kernel, by decide +kernel⟩, (Or.inl zk_788)⟩, zk_790, zk_p49, _, _, rfl⟩
theorem zj_Mo_208 : za_mV zR_Mo 208 zy_Mo_trade zc_Mo_trade 9 none 2 10 := ⟨⟨zk_783, zk_8, ⟨by decide +kernel, by decide +kernel, by decide +kernel⟩, (Or.inl zk_780)⟩, zk_782, zk_p47, _, _, rfl⟩
theorem zj_Mo_187 : za_mV zR_Mo 187 zy_Mo_carry zc_Mo_carry 5 none 2 10 := ⟨⟨zk_779, zk_8, ⟨by decide +kernel, by decide +kernel, by decide +kernel⟩, (Or.inl zk_776)⟩, zk_778, zk_p46, _, _, rfl⟩
theorem zj_Mo_168 : za_mV zR_Mo 168 zy_Mo_externalize zc_Mo_externalize 5 none 2 10 := ⟨⟨zk_775, zk_8, ⟨by decide +kernel, by decide +kernel, by decide +kernel⟩, (Or.inl zk_772)⟩, zk_774, zk_p45, _, _, rfl⟩
theorem zj_Mo_165 : za_mV zR_Mo 165 zy_Mo_accept zc_Mo_accept 7 (some .boolean) 4 10 := ⟨⟨zk_721, zk_8, ⟨by decide +kernel, by decide +kernel, by decide +kernel⟩, (Or.inl zk_718)⟩, zk_720, zk_p33, _, _, rfl⟩
theorem zj_Mo_184 : za_mV zR_Mo 184 zy_Mo_ruleH zc_Mo_ruleH 5 (some .int) 1 10 := ⟨⟨zk_771, zk_8, ⟨by decide +kernel, by decide +kernel, by decide +kernel⟩, (Or.inl zk_768)⟩, zk_770, zk_p44, _, _, rfl⟩
theorem zj_Mo_181 : za_mV zR_Mo 181 zy_Mo_ruleG zc_Mo_ruleG 5 (some .boolean) 1 10 := ⟨⟨zk_767, zk_8, ⟨by decide +kernel, by decide +kernel, by decide +kernel⟩, (Or.inl zk_764)⟩, zk_766, zk_p43, _, _, rfl⟩
theorem zj_Mo_175 : za_mV zR_Mo 175 zy_Mo_confirm zc_Mo_confirm 7 (some .boolean) 4 10 := ⟨⟨zk_743, zk_8, ⟨by decide +kernel, by decide +kernel, by decide +kernel⟩, (Or.inl zk_740)⟩, zk_742, zk_p37, _, _, rfl⟩
theorem zj_Mo_178 : za_mV zR_Mo 178 zy_Mo_ruleD zc_Mo_ruleD 2 (some .boolean) 1 10 := ⟨⟨zk_751, zk_8, ⟨by decide +kernel, by decide +kernel, by decide +kernel⟩, (Or.inl zk_748)⟩, zk_750, zk_p39, _, _, rfl⟩
theorem zj_Mo_172 : za_mV zR_Mo 172 zy_Mo_ruleA zc_Mo_ruleA 6 (some .boolean) 1 10 := ⟨⟨zk_701, zk_8, ⟨by decide +kernel, by decide +kernel, by decide +kernel⟩, (Or.inl zk_698)⟩, zk_700, zk_p28, _, _, rfl⟩
theorem zj_Mo_197 : za_mV zR_Mo 197 zy_Mo_stir zc_Mo_stir 5 none 1 10 := ⟨⟨zk_697, zk_8, ⟨by decide +kernel, by decide +kernel, by decide +kernel⟩, (Or.inl zk_694)⟩, zk_696, zk_p27, _, _, rfl⟩
theorem zj_Mo_190 : za_mV zR_Mo 190 zy_Mo_good zc_Mo_good 2 (some .boolean) 1 10 := ⟨⟨zk_689, zk_8, ⟨by decide +kernel, by decide +kernel, by decide +kernel⟩, (Or.inl zk_686)⟩, zk_688, zk_p25, _, _, rfl⟩
theorem zj_Mo_193 : za_mV zR_Mo 193 zy_Mo_newRound zc_Mo_newRound 7 none 1 10 := ⟨⟨zk_693, zk_8, ⟨by decide +kernel, by decide +kernel, by decide +kernel⟩, (Or.inl zk_690)⟩, zk_692, zk_p26, _, _, rfl⟩
theorem zj_Mo_203 : za_mV zR_Mo 203 zy_Mo_sealed zc_Mo_sealed 3 (some .int) 2 10 := ⟨⟨zk_807, zk_8, ⟨by decide +kernel, by decide +kernel, by decide +kernel⟩, (Or.inl zk_804)⟩, zk_806, zk_p51, _, _, rfl⟩
end
