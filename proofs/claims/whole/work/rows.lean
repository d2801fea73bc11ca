section
-- ===== PART A: goes FIRST, ahead of the names: the tables' words, and 'selects' of the private methods out of them =====
/-- a private method of a class that the tables say can be made, by its rows of tables_1 -/
def lw_okq (q : MethodName × Nat) : Prop := (q.1.cls ≠ "java/lang/invoke/MethodHandle" ∧ q.1.cls ≠ "java/lang/invoke/VarHandle") ∧ Cond.instantiable q.1.cls q.2 ∈ tables_1 ∧ Cond.privateMethod q.1 ∈ tables_1 ∧ Cond.instanceMethod q.1 ∈ tables_1
theorem lw_p0 : lw_okq (⟨"TrustLedger", "isLeft", "(I)Z"⟩, 7) := ⟨⟨by decide +kernel, by decide +kernel⟩, List.mem_of_getElem? (i := 15) (by decide +kernel), List.mem_of_getElem? (i := 224) (by decide +kernel), List.mem_of_getElem? (i := 225) (by decide +kernel)⟩
theorem lw_p1 : lw_okq (⟨"TrustLedger", "isAtWork", "(I)Z"⟩, 7) := ⟨⟨by decide +kernel, by decide +kernel⟩, List.mem_of_getElem? (i := 15) (by decide +kernel), List.mem_of_getElem? (i := 258) (by decide +kernel), List.mem_of_getElem? (i := 259) (by decide +kernel)⟩
theorem lw_p2 : lw_okq (⟨"TrustLedger", "isGood", "(I)Z"⟩, 7) := ⟨⟨by decide +kernel, by decide +kernel⟩, List.mem_of_getElem? (i := 15) (by decide +kernel), List.mem_of_getElem? (i := 262) (by decide +kernel), List.mem_of_getElem? (i := 263) (by decide +kernel)⟩
theorem lw_p3 : lw_okq (⟨"TrustLedger$Agreement", "beginRound", "()V"⟩, 11) := ⟨⟨by decide +kernel, by decide +kernel⟩, List.mem_of_getElem? (i := 64) (by decide +kernel), List.mem_of_getElem? (i := 273) (by decide +kernel), List.mem_of_getElem? (i := 274) (by decide +kernel)⟩
theorem lw_p4 : lw_okq (⟨"TrustLedger$Agreement", "voteNominate", "()Z"⟩, 11) := ⟨⟨by decide +kernel, by decide +kernel⟩, List.mem_of_getElem? (i := 64) (by decide +kernel), List.mem_of_getElem? (i := 286) (by decide +kernel), List.mem_of_getElem? (i := 287) (by decide +kernel)⟩
theorem lw_p5 : lw_okq (⟨"TrustLedger$Agreement", "acceptNominate", "()Z"⟩, 11) := ⟨⟨by decide +kernel, by decide +kernel⟩, List.mem_of_getElem? (i := 64) (by decide +kernel), List.mem_of_getElem? (i := 299) (by decide +kernel), List.mem_of_getElem? (i := 300) (by decide +kernel)⟩
theorem lw_p6 : lw_okq (⟨"TrustLedger$Agreement", "confirmNominate", "()Z"⟩, 11) := ⟨⟨by decide +kernel, by decide +kernel⟩, List.mem_of_getElem? (i := 64) (by decide +kernel), List.mem_of_getElem? (i := 328) (by decide +kernel), List.mem_of_getElem? (i := 329) (by decide +kernel)⟩
theorem lw_p7 : lw_okq (⟨"TrustLedger$Agreement", "beginPrepare", "()Z"⟩, 11) := ⟨⟨by decide +kernel, by decide +kernel⟩, List.mem_of_getElem? (i := 64) (by decide +kernel), List.mem_of_getElem? (i := 336) (by decide +kernel), List.mem_of_getElem? (i := 337) (by decide +kernel)⟩
theorem lw_p8 : lw_okq (⟨"TrustLedger$Agreement", "composite", "()I"⟩, 11) := ⟨⟨by decide +kernel, by decide +kernel⟩, List.mem_of_getElem? (i := 64) (by decide +kernel), List.mem_of_getElem? (i := 340) (by decide +kernel), List.mem_of_getElem? (i := 341) (by decide +kernel)⟩
theorem lw_p9 : lw_okq (⟨"TrustLedger$Agreement", "raiseCounter", "()V"⟩, 11) := ⟨⟨by decide +kernel, by decide +kernel⟩, List.mem_of_getElem? (i := 64) (by decide +kernel), List.mem_of_getElem? (i := 344) (by decide +kernel), List.mem_of_getElem? (i := 345) (by decide +kernel)⟩
theorem lw_p10 : lw_okq (⟨"TrustLedger$Agreement", "valueToPrepare", "()I"⟩, 11) := ⟨⟨by decide +kernel, by decide +kernel⟩, List.mem_of_getElem? (i := 64) (by decide +kernel), List.mem_of_getElem? (i := 348) (by decide +kernel), List.mem_of_getElem? (i := 349) (by decide +kernel)⟩
theorem lw_p11 : lw_okq (⟨"TrustLedger$Agreement", "acceptPrepare", "()Z"⟩, 11) := ⟨⟨by decide +kernel, by decide +kernel⟩, List.mem_of_getElem? (i := 64) (by decide +kernel), List.mem_of_getElem? (i := 358) (by decide +kernel), List.mem_of_getElem? (i := 359) (by decide +kernel)⟩
theorem lw_p12 : lw_okq (⟨"TrustLedger$Agreement", "confirmPrepare", "()Z"⟩, 11) := ⟨⟨by decide +kernel, by decide +kernel⟩, List.mem_of_getElem? (i := 64) (by decide +kernel), List.mem_of_getElem? (i := 370) (by decide +kernel), List.mem_of_getElem? (i := 371) (by decide +kernel)⟩
theorem lw_p13 : lw_okq (⟨"TrustLedger$Agreement", "voteCommit", "()Z"⟩, 11) := ⟨⟨by decide +kernel, by decide +kernel⟩, List.mem_of_getElem? (i := 64) (by decide +kernel), List.mem_of_getElem? (i := 374) (by decide +kernel), List.mem_of_getElem? (i := 375) (by decide +kernel)⟩
theorem lw_p14 : lw_okq (⟨"TrustLedger$Agreement", "settleCommit", "()Z"⟩, 11) := ⟨⟨by decide +kernel, by decide +kernel⟩, List.mem_of_getElem? (i := 64) (by decide +kernel), List.mem_of_getElem? (i := 381) (by decide +kernel), List.mem_of_getElem? (i := 382) (by decide +kernel)⟩
theorem lw_p15 : lw_okq (⟨"TrustLedger", "closeSlot", "(LTrustLedger$Node;I)V"⟩, 7) := ⟨⟨by decide +kernel, by decide +kernel⟩, List.mem_of_getElem? (i := 15) (by decide +kernel), List.mem_of_getElem? (i := 385) (by decide +kernel), List.mem_of_getElem? (i := 386) (by decide +kernel)⟩
def lw_privs_1 : List (MethodName × Nat) := [(⟨"TrustLedger", "isLeft", "(I)Z"⟩, 7), (⟨"TrustLedger", "isAtWork", "(I)Z"⟩, 7), (⟨"TrustLedger", "isGood", "(I)Z"⟩, 7), (⟨"TrustLedger$Agreement", "beginRound", "()V"⟩, 11), (⟨"TrustLedger$Agreement", "voteNominate", "()Z"⟩, 11), (⟨"TrustLedger$Agreement", "acceptNominate", "()Z"⟩, 11), (⟨"TrustLedger$Agreement", "confirmNominate", "()Z"⟩, 11), (⟨"TrustLedger$Agreement", "beginPrepare", "()Z"⟩, 11), (⟨"TrustLedger$Agreement", "composite", "()I"⟩, 11), (⟨"TrustLedger$Agreement", "raiseCounter", "()V"⟩, 11), (⟨"TrustLedger$Agreement", "valueToPrepare", "()I"⟩, 11), (⟨"TrustLedger$Agreement", "acceptPrepare", "()Z"⟩, 11), (⟨"TrustLedger$Agreement", "confirmPrepare", "()Z"⟩, 11), (⟨"TrustLedger$Agreement", "voteCommit", "()Z"⟩, 11), (⟨"TrustLedger$Agreement", "settleCommit", "()Z"⟩, 11), (⟨"TrustLedger", "closeSlot", "(LTrustLedger$Node;I)V"⟩, 7)]
theorem lw_r1 : ∀ q ∈ lw_privs_1, lw_okq q := List.forall_mem_cons.mpr ⟨lw_p0, List.forall_mem_cons.mpr ⟨lw_p1, List.forall_mem_cons.mpr ⟨lw_p2, List.forall_mem_cons.mpr ⟨lw_p3, List.forall_mem_cons.mpr ⟨lw_p4, List.forall_mem_cons.mpr ⟨lw_p5, List.forall_mem_cons.mpr ⟨lw_p6, List.forall_mem_cons.mpr ⟨lw_p7, List.forall_mem_cons.mpr ⟨lw_p8, List.forall_mem_cons.mpr ⟨lw_p9, List.forall_mem_cons.mpr ⟨lw_p10, List.forall_mem_cons.mpr ⟨lw_p11, List.forall_mem_cons.mpr ⟨lw_p12, List.forall_mem_cons.mpr ⟨lw_p13, List.forall_mem_cons.mpr ⟨lw_p14, List.forall_mem_cons.mpr ⟨lw_p15, fun _ h => absurd h List.not_mem_nil⟩⟩⟩⟩⟩⟩⟩⟩⟩⟩⟩⟩⟩⟩⟩⟩
theorem lw_p16 : lw_okq (⟨"TrustLedger$Ledger", "match", "(LTrustLedger$Offer;)V"⟩, 4) := ⟨⟨by decide +kernel, by decide +kernel⟩, List.mem_of_getElem? (i := 140) (by decide +kernel), List.mem_of_getElem? (i := 419) (by decide +kernel), List.mem_of_getElem? (i := 420) (by decide +kernel)⟩
theorem lw_p17 : lw_okq (⟨"TrustLedger$Ledger", "bestFor", "(LTrustLedger$Offer;)I"⟩, 4) := ⟨⟨by decide +kernel, by decide +kernel⟩, List.mem_of_getElem? (i := 140) (by decide +kernel), List.mem_of_getElem? (i := 423) (by decide +kernel), List.mem_of_getElem? (i := 424) (by decide +kernel)⟩
theorem lw_p18 : lw_okq (⟨"TrustLedger$Ledger", "tradeWith", "(LTrustLedger$Offer;I)Z"⟩, 4) := ⟨⟨by decide +kernel, by decide +kernel⟩, List.mem_of_getElem? (i := 140) (by decide +kernel), List.mem_of_getElem? (i := 439) (by decide +kernel), List.mem_of_getElem? (i := 440) (by decide +kernel)⟩
theorem lw_p19 : lw_okq (⟨"TrustLedger$Ledger", "canServe", "(LTrustLedger$Offer;)Z"⟩, 4) := ⟨⟨by decide +kernel, by decide +kernel⟩, List.mem_of_getElem? (i := 140) (by decide +kernel), List.mem_of_getElem? (i := 447) (by decide +kernel), List.mem_of_getElem? (i := 448) (by decide +kernel)⟩
theorem lw_p20 : lw_okq (⟨"TrustLedger$Ledger", "move", "([IIII)V"⟩, 4) := ⟨⟨by decide +kernel, by decide +kernel⟩, List.mem_of_getElem? (i := 140) (by decide +kernel), List.mem_of_getElem? (i := 451) (by decide +kernel), List.mem_of_getElem? (i := 452) (by decide +kernel)⟩
theorem lw_p21 : lw_okq (⟨"TrustLedger$Ledger", "takeOut", "(I)V"⟩, 4) := ⟨⟨by decide +kernel, by decide +kernel⟩, List.mem_of_getElem? (i := 140) (by decide +kernel), List.mem_of_getElem? (i := 455) (by decide +kernel), List.mem_of_getElem? (i := 456) (by decide +kernel)⟩
theorem lw_p22 : lw_okq (⟨"TrustLedger", "keepEnvelope", "(LTrustLedger$Envelope;)I"⟩, 7) := ⟨⟨by decide +kernel, by decide +kernel⟩, List.mem_of_getElem? (i := 15) (by decide +kernel), List.mem_of_getElem? (i := 504) (by decide +kernel), List.mem_of_getElem? (i := 505) (by decide +kernel)⟩
theorem lw_p23 : lw_okq (⟨"TrustLedgerModel", "table", "()V"⟩, 32) := ⟨⟨by decide +kernel, by decide +kernel⟩, List.mem_of_getElem? (i := 561) (by decide +kernel), List.mem_of_getElem? (i := 567) (by decide +kernel), List.mem_of_getElem? (i := 568) (by decide +kernel)⟩
theorem lw_p24 : lw_okq (⟨"TrustLedgerModel", "satisfies", "(II)Z"⟩, 32) := ⟨⟨by decide +kernel, by decide +kernel⟩, List.mem_of_getElem? (i := 561) (by decide +kernel), List.mem_of_getElem? (i := 571) (by decide +kernel), List.mem_of_getElem? (i := 572) (by decide +kernel)⟩
theorem lw_p25 : lw_okq (⟨"TrustLedgerModel", "good", "(I)Z"⟩, 32) := ⟨⟨by decide +kernel, by decide +kernel⟩, List.mem_of_getElem? (i := 561) (by decide +kernel), List.mem_of_getElem? (i := 687) (by decide +kernel), List.mem_of_getElem? (i := 688) (by decide +kernel)⟩
theorem lw_p26 : lw_okq (⟨"TrustLedgerModel", "newRound", "(I)V"⟩, 32) := ⟨⟨by decide +kernel, by decide +kernel⟩, List.mem_of_getElem? (i := 561) (by decide +kernel), List.mem_of_getElem? (i := 691) (by decide +kernel), List.mem_of_getElem? (i := 692) (by decide +kernel)⟩
theorem lw_p27 : lw_okq (⟨"TrustLedgerModel", "stir", "(I)V"⟩, 32) := ⟨⟨by decide +kernel, by decide +kernel⟩, List.mem_of_getElem? (i := 561) (by decide +kernel), List.mem_of_getElem? (i := 695) (by decide +kernel), List.mem_of_getElem? (i := 696) (by decide +kernel)⟩
theorem lw_p28 : lw_okq (⟨"TrustLedgerModel", "ruleA", "(I)Z"⟩, 32) := ⟨⟨by decide +kernel, by decide +kernel⟩, List.mem_of_getElem? (i := 561) (by decide +kernel), List.mem_of_getElem? (i := 699) (by decide +kernel), List.mem_of_getElem? (i := 700) (by decide +kernel)⟩
theorem lw_p29 : lw_okq (⟨"TrustLedgerModel", "place", "(III)I"⟩, 32) := ⟨⟨by decide +kernel, by decide +kernel⟩, List.mem_of_getElem? (i := 561) (by decide +kernel), List.mem_of_getElem? (i := 703) (by decide +kernel), List.mem_of_getElem? (i := 704) (by decide +kernel)⟩
theorem lw_p30 : lw_okq (⟨"TrustLedgerModel", "nodes", "(IIIZ)I"⟩, 32) := ⟨⟨by decide +kernel, by decide +kernel⟩, List.mem_of_getElem? (i := 561) (by decide +kernel), List.mem_of_getElem? (i := 707) (by decide +kernel), List.mem_of_getElem? (i := 708) (by decide +kernel)⟩
theorem lw_p31 : lw_okq (⟨"TrustLedgerModel", "has", "(IIII)Z"⟩, 32) := ⟨⟨by decide +kernel, by decide +kernel⟩, List.mem_of_getElem? (i := 561) (by decide +kernel), List.mem_of_getElem? (i := 711) (by decide +kernel), List.mem_of_getElem? (i := 712) (by decide +kernel)⟩
def lw_privs_2 : List (MethodName × Nat) := [(⟨"TrustLedger$Ledger", "match", "(LTrustLedger$Offer;)V"⟩, 4), (⟨"TrustLedger$Ledger", "bestFor", "(LTrustLedger$Offer;)I"⟩, 4), (⟨"TrustLedger$Ledger", "tradeWith", "(LTrustLedger$Offer;I)Z"⟩, 4), (⟨"TrustLedger$Ledger", "canServe", "(LTrustLedger$Offer;)Z"⟩, 4), (⟨"TrustLedger$Ledger", "move", "([IIII)V"⟩, 4), (⟨"TrustLedger$Ledger", "takeOut", "(I)V"⟩, 4), (⟨"TrustLedger", "keepEnvelope", "(LTrustLedger$Envelope;)I"⟩, 7), (⟨"TrustLedgerModel", "table", "()V"⟩, 32), (⟨"TrustLedgerModel", "satisfies", "(II)Z"⟩, 32), (⟨"TrustLedgerModel", "good", "(I)Z"⟩, 32), (⟨"TrustLedgerModel", "newRound", "(I)V"⟩, 32), (⟨"TrustLedgerModel", "stir", "(I)V"⟩, 32), (⟨"TrustLedgerModel", "ruleA", "(I)Z"⟩, 32), (⟨"TrustLedgerModel", "place", "(III)I"⟩, 32), (⟨"TrustLedgerModel", "nodes", "(IIIZ)I"⟩, 32), (⟨"TrustLedgerModel", "has", "(IIII)Z"⟩, 32)]
theorem lw_r2 : ∀ q ∈ lw_privs_2, lw_okq q := List.forall_mem_cons.mpr ⟨lw_p16, List.forall_mem_cons.mpr ⟨lw_p17, List.forall_mem_cons.mpr ⟨lw_p18, List.forall_mem_cons.mpr ⟨lw_p19, List.forall_mem_cons.mpr ⟨lw_p20, List.forall_mem_cons.mpr ⟨lw_p21, List.forall_mem_cons.mpr ⟨lw_p22, List.forall_mem_cons.mpr ⟨lw_p23, List.forall_mem_cons.mpr ⟨lw_p24, List.forall_mem_cons.mpr ⟨lw_p25, List.forall_mem_cons.mpr ⟨lw_p26, List.forall_mem_cons.mpr ⟨lw_p27, List.forall_mem_cons.mpr ⟨lw_p28, List.forall_mem_cons.mpr ⟨lw_p29, List.forall_mem_cons.mpr ⟨lw_p30, List.forall_mem_cons.mpr ⟨lw_p31, fun _ h => absurd h List.not_mem_nil⟩⟩⟩⟩⟩⟩⟩⟩⟩⟩⟩⟩⟩⟩⟩⟩
theorem lw_p32 : lw_okq (⟨"TrustLedgerModel", "put", "(IIII)Z"⟩, 32) := ⟨⟨by decide +kernel, by decide +kernel⟩, List.mem_of_getElem? (i := 561) (by decide +kernel), List.mem_of_getElem? (i := 715) (by decide +kernel), List.mem_of_getElem? (i := 716) (by decide +kernel)⟩
theorem lw_p33 : lw_okq (⟨"TrustLedgerModel", "accept", "(IIII)Z"⟩, 32) := ⟨⟨by decide +kernel, by decide +kernel⟩, List.mem_of_getElem? (i := 561) (by decide +kernel), List.mem_of_getElem? (i := 719) (by decide +kernel), List.mem_of_getElem? (i := 720) (by decide +kernel)⟩
theorem lw_p34 : lw_okq (⟨"TrustLedgerModel", "mayAccept", "(III)Z"⟩, 32) := ⟨⟨by decide +kernel, by decide +kernel⟩, List.mem_of_getElem? (i := 561) (by decide +kernel), List.mem_of_getElem? (i := 723) (by decide +kernel), List.mem_of_getElem? (i := 724) (by decide +kernel)⟩
theorem lw_p35 : lw_okq (⟨"TrustLedgerModel", "clash", "(IIIIZ)Z"⟩, 32) := ⟨⟨by decide +kernel, by decide +kernel⟩, List.mem_of_getElem? (i := 561) (by decide +kernel), List.mem_of_getElem? (i := 727) (by decide +kernel), List.mem_of_getElem? (i := 728) (by decide +kernel)⟩
theorem lw_p36 : lw_okq (⟨"TrustLedgerModel", "gives", "(II)Z"⟩, 32) := ⟨⟨by decide +kernel, by decide +kernel⟩, List.mem_of_getElem? (i := 561) (by decide +kernel), List.mem_of_getElem? (i := 737) (by decide +kernel), List.mem_of_getElem? (i := 738) (by decide +kernel)⟩
theorem lw_p37 : lw_okq (⟨"TrustLedgerModel", "confirm", "(IIII)Z"⟩, 32) := ⟨⟨by decide +kernel, by decide +kernel⟩, List.mem_of_getElem? (i := 561) (by decide +kernel), List.mem_of_getElem? (i := 741) (by decide +kernel), List.mem_of_getElem? (i := 742) (by decide +kernel)⟩
theorem lw_p38 : lw_okq (⟨"TrustLedgerModel", "mayConfirm", "(III)Z"⟩, 32) := ⟨⟨by decide +kernel, by decide +kernel⟩, List.mem_of_getElem? (i := 561) (by decide +kernel), List.mem_of_getElem? (i := 745) (by decide +kernel), List.mem_of_getElem? (i := 746) (by decide +kernel)⟩
theorem lw_p39 : lw_okq (⟨"TrustLedgerModel", "ruleD", "(I)Z"⟩, 32) := ⟨⟨by decide +kernel, by decide +kernel⟩, List.mem_of_getElem? (i := 561) (by decide +kernel), List.mem_of_getElem? (i := 749) (by decide +kernel), List.mem_of_getElem? (i := 750) (by decide +kernel)⟩
theorem lw_p40 : lw_okq (⟨"TrustLedgerModel", "composite", "(I)I"⟩, 32) := ⟨⟨by decide +kernel, by decide +kernel⟩, List.mem_of_getElem? (i := 561) (by decide +kernel), List.mem_of_getElem? (i := 753) (by decide +kernel), List.mem_of_getElem? (i := 754) (by decide +kernel)⟩
theorem lw_p41 : lw_okq (⟨"TrustLedgerModel", "votePrepare", "(I)Z"⟩, 32) := ⟨⟨by decide +kernel, by decide +kernel⟩, List.mem_of_getElem? (i := 561) (by decide +kernel), List.mem_of_getElem? (i := 757) (by decide +kernel), List.mem_of_getElem? (i := 758) (by decide +kernel)⟩
theorem lw_p42 : lw_okq (⟨"TrustLedgerModel", "toPrepare", "(I)I"⟩, 32) := ⟨⟨by decide +kernel, by decide +kernel⟩, List.mem_of_getElem? (i := 561) (by decide +kernel), List.mem_of_getElem? (i := 761) (by decide +kernel), List.mem_of_getElem? (i := 762) (by decide +kernel)⟩
theorem lw_p43 : lw_okq (⟨"TrustLedgerModel", "ruleG", "(I)Z"⟩, 32) := ⟨⟨by decide +kernel, by decide +kernel⟩, List.mem_of_getElem? (i := 561) (by decide +kernel), List.mem_of_getElem? (i := 765) (by decide +kernel), List.mem_of_getElem? (i := 766) (by decide +kernel)⟩
theorem lw_p44 : lw_okq (⟨"TrustLedgerModel", "ruleH", "(I)I"⟩, 32) := ⟨⟨by decide +kernel, by decide +kernel⟩, List.mem_of_getElem? (i := 561) (by decide +kernel), List.mem_of_getElem? (i := 769) (by decide +kernel), List.mem_of_getElem? (i := 770) (by decide +kernel)⟩
theorem lw_p45 : lw_okq (⟨"TrustLedgerModel", "externalize", "(II)V"⟩, 32) := ⟨⟨by decide +kernel, by decide +kernel⟩, List.mem_of_getElem? (i := 561) (by decide +kernel), List.mem_of_getElem? (i := 773) (by decide +kernel), List.mem_of_getElem? (i := 774) (by decide +kernel)⟩
theorem lw_p46 : lw_okq (⟨"TrustLedgerModel", "carry", "(II)V"⟩, 32) := ⟨⟨by decide +kernel, by decide +kernel⟩, List.mem_of_getElem? (i := 561) (by decide +kernel), List.mem_of_getElem? (i := 777) (by decide +kernel), List.mem_of_getElem? (i := 778) (by decide +kernel)⟩
theorem lw_p47 : lw_okq (⟨"TrustLedgerModel", "trade", "(II)V"⟩, 32) := ⟨⟨by decide +kernel, by decide +kernel⟩, List.mem_of_getElem? (i := 561) (by decide +kernel), List.mem_of_getElem? (i := 781) (by decide +kernel), List.mem_of_getElem? (i := 782) (by decide +kernel)⟩
def lw_privs_3 : List (MethodName × Nat) := [(⟨"TrustLedgerModel", "put", "(IIII)Z"⟩, 32), (⟨"TrustLedgerModel", "accept", "(IIII)Z"⟩, 32), (⟨"TrustLedgerModel", "mayAccept", "(III)Z"⟩, 32), (⟨"TrustLedgerModel", "clash", "(IIIIZ)Z"⟩, 32), (⟨"TrustLedgerModel", "gives", "(II)Z"⟩, 32), (⟨"TrustLedgerModel", "confirm", "(IIII)Z"⟩, 32), (⟨"TrustLedgerModel", "mayConfirm", "(III)Z"⟩, 32), (⟨"TrustLedgerModel", "ruleD", "(I)Z"⟩, 32), (⟨"TrustLedgerModel", "composite", "(I)I"⟩, 32), (⟨"TrustLedgerModel", "votePrepare", "(I)Z"⟩, 32), (⟨"TrustLedgerModel", "toPrepare", "(I)I"⟩, 32), (⟨"TrustLedgerModel", "ruleG", "(I)Z"⟩, 32), (⟨"TrustLedgerModel", "ruleH", "(I)I"⟩, 32), (⟨"TrustLedgerModel", "externalize", "(II)V"⟩, 32), (⟨"TrustLedgerModel", "carry", "(II)V"⟩, 32), (⟨"TrustLedgerModel", "trade", "(II)V"⟩, 32)]
theorem lw_r3 : ∀ q ∈ lw_privs_3, lw_okq q := List.forall_mem_cons.mpr ⟨lw_p32, List.forall_mem_cons.mpr ⟨lw_p33, List.forall_mem_cons.mpr ⟨lw_p34, List.forall_mem_cons.mpr ⟨lw_p35, List.forall_mem_cons.mpr ⟨lw_p36, List.forall_mem_cons.mpr ⟨lw_p37, List.forall_mem_cons.mpr ⟨lw_p38, List.forall_mem_cons.mpr ⟨lw_p39, List.forall_mem_cons.mpr ⟨lw_p40, List.forall_mem_cons.mpr ⟨lw_p41, List.forall_mem_cons.mpr ⟨lw_p42, List.forall_mem_cons.mpr ⟨lw_p43, List.forall_mem_cons.mpr ⟨lw_p44, List.forall_mem_cons.mpr ⟨lw_p45, List.forall_mem_cons.mpr ⟨lw_p46, List.forall_mem_cons.mpr ⟨lw_p47, fun _ h => absurd h List.not_mem_nil⟩⟩⟩⟩⟩⟩⟩⟩⟩⟩⟩⟩⟩⟩⟩⟩
theorem lw_p48 : lw_okq (⟨"TrustLedgerModel", "best", "(III)I"⟩, 32) := ⟨⟨by decide +kernel, by decide +kernel⟩, List.mem_of_getElem? (i := 561) (by decide +kernel), List.mem_of_getElem? (i := 785) (by decide +kernel), List.mem_of_getElem? (i := 786) (by decide +kernel)⟩
theorem lw_p49 : lw_okq (⟨"TrustLedgerModel", "cross", "(IIII)I"⟩, 32) := ⟨⟨by decide +kernel, by decide +kernel⟩, List.mem_of_getElem? (i := 561) (by decide +kernel), List.mem_of_getElem? (i := 789) (by decide +kernel), List.mem_of_getElem? (i := 790) (by decide +kernel)⟩
theorem lw_p50 : lw_okq (⟨"TrustLedgerModel", "remove", "(II)V"⟩, 32) := ⟨⟨by decide +kernel, by decide +kernel⟩, List.mem_of_getElem? (i := 561) (by decide +kernel), List.mem_of_getElem? (i := 793) (by decide +kernel), List.mem_of_getElem? (i := 794) (by decide +kernel)⟩
theorem lw_p51 : lw_okq (⟨"TrustLedgerModel", "sealed", "(II)I"⟩, 32) := ⟨⟨by decide +kernel, by decide +kernel⟩, List.mem_of_getElem? (i := 561) (by decide +kernel), List.mem_of_getElem? (i := 805) (by decide +kernel), List.mem_of_getElem? (i := 806) (by decide +kernel)⟩
def lw_privs_4 : List (MethodName × Nat) := [(⟨"TrustLedgerModel", "best", "(III)I"⟩, 32), (⟨"TrustLedgerModel", "cross", "(IIII)I"⟩, 32), (⟨"TrustLedgerModel", "remove", "(II)V"⟩, 32), (⟨"TrustLedgerModel", "sealed", "(II)I"⟩, 32)]
theorem lw_r4 : ∀ q ∈ lw_privs_4, lw_okq q := List.forall_mem_cons.mpr ⟨lw_p48, List.forall_mem_cons.mpr ⟨lw_p49, List.forall_mem_cons.mpr ⟨lw_p50, List.forall_mem_cons.mpr ⟨lw_p51, fun _ h => absurd h List.not_mem_nil⟩⟩⟩⟩
def lw_privs : List (MethodName × Nat) := lw_privs_1 ++ (lw_privs_2 ++ (lw_privs_3 ++ (lw_privs_4)))
def lw_tbl : List Cond := k2_sels lw_privs ++ tables_1
theorem lw_privs_ok : ∀ q ∈ lw_privs, lw_okq q := by
  show ∀ q ∈ lw_privs_1 ++ (lw_privs_2 ++ (lw_privs_3 ++ (lw_privs_4))), lw_okq q
  exact List.forall_mem_append.mpr ⟨lw_r1, List.forall_mem_append.mpr ⟨lw_r2, List.forall_mem_append.mpr ⟨lw_r3, lw_r4⟩⟩⟩
end
section
/-! Names: classes, fields, methods, and a row that decodes each instruction; laid by program (wip/whole/lay.py). -/
def zR_TL : String := "TrustLedger"
def zT_TL : u_T := fun k => match k with
  | 0 => ("TrustLedger", "faulty", "I", true)
  | 1 => ("TrustLedger", "quorums", "LTrustLedger$Quorums;", true)
  | 2 => ("TrustLedger", "nodes", "[LTrustLedger$Node;", true)
  | 3 => ("TrustLedger", "transactions", "[LTrustLedger$Transaction;", true)
  | 4 => ("TrustLedger", "mail", "[LTrustLedger$Envelope;", true)
  | 5 => ("TrustLedger", "mailed", "I", false)
  | _ => ("TrustLedger", "begun", "Z", false)
def zt_TL : Nat → FieldType := fun k => match k with
  | 0 => .int
  | 1 => .object "TrustLedger$Quorums"
  | 2 => .array (.object "TrustLedger$Node")
  | 3 => .array (.object "TrustLedger$Transaction")
  | 4 => .array (.object "TrustLedger$Envelope")
  | 5 => .int
  | _ => .boolean
theorem ztn_TL : ∀ a, a < 7 → ∀ b, b < 7 → a ≠ b → (zT_TL a).2.1 ≠ (zT_TL b).2.1 := by decide +kernel
theorem zto_TL : ∀ k, k < 7 → parseFieldDescriptor (zT_TL k).2.2.1 = some (zt_TL k) := by decide +kernel
def zR_Agreement : String := "TrustLedger$Agreement"
def zT_Agreement : u_T := fun k => match k with
  | 0 => ("TrustLedger$Agreement", "self", "I", true)
  | 1 => ("TrustLedger$Agreement", "slot", "I", true)
  | 2 => ("TrustLedger$Agreement", "trusted", "LTrustLedger$Trust;", true)
  | 3 => ("TrustLedger$Agreement", "nominate", "LTrustLedger$Statements;", true)
  | 4 => ("TrustLedger$Agreement", "prepare", "LTrustLedger$Statements;", true)
  | 5 => ("TrustLedger$Agreement", "commit", "LTrustLedger$Statements;", true)
  | 6 => ("TrustLedger$Agreement", "proposal", "I", false)
  | 7 => ("TrustLedger$Agreement", "round", "I", false)
  | 8 => ("TrustLedger$Agreement", "leaders", "I", false)
  | 9 => ("TrustLedger$Agreement", "counter", "I", false)
  | _ => ("TrustLedger$Agreement", "outcome", "I", false)
def zt_Agreement : Nat → FieldType := fun k => match k with
  | 0 => .int
  | 1 => .int
  | 2 => .object "TrustLedger$Trust"
  | 3 => .object "TrustLedger$Statements"
  | 4 => .object "TrustLedger$Statements"
  | 5 => .object "TrustLedger$Statements"
  | 6 => .int
  | 7 => .int
  | 8 => .int
  | 9 => .int
  | _ => .int
theorem ztn_Agreement : ∀ a, a < 11 → ∀ b, b < 11 → a ≠ b → (zT_Agreement a).2.1 ≠ (zT_Agreement b).2.1 := by decide +kernel
theorem zto_Agreement : ∀ k, k < 11 → parseFieldDescriptor (zT_Agreement k).2.2.1 = some (zt_Agreement k) := by decide +kernel
def zR_Envelope : String := "TrustLedger$Envelope"
def zT_Envelope : u_T := fun k => match k with
  | 0 => ("TrustLedger$Envelope", "sender", "I", true)
  | 1 => ("TrustLedger$Envelope", "slot", "I", true)
  | 2 => ("TrustLedger$Envelope", "backed", "[I", true)
  | _ => ("TrustLedger$Envelope", "accepted", "[I", true)
def zt_Envelope : Nat → FieldType := fun k => match k with
  | 0 => .int
  | 1 => .int
  | 2 => .array (.int)
  | _ => .array (.int)
theorem ztn_Envelope : ∀ a, a < 4 → ∀ b, b < 4 → a ≠ b → (zT_Envelope a).2.1 ≠ (zT_Envelope b).2.1 := by decide +kernel
theorem zto_Envelope : ∀ k, k < 4 → parseFieldDescriptor (zT_Envelope k).2.2.1 = some (zt_Envelope k) := by decide +kernel
def zR_Ledger : String := "TrustLedger$Ledger"
def zT_Ledger : u_T := fun k => match k with
  | 0 => ("TrustLedger$Ledger", "coins", "[I", true)
  | 1 => ("TrustLedger$Ledger", "shares", "[I", true)
  | 2 => ("TrustLedger$Ledger", "book", "[LTrustLedger$Offer;", true)
  | _ => ("TrustLedger$Ledger", "resting", "I", false)
def zt_Ledger : Nat → FieldType := fun k => match k with
  | 0 => .array (.int)
  | 1 => .array (.int)
  | 2 => .array (.object "TrustLedger$Offer")
  | _ => .int
theorem ztn_Ledger : ∀ a, a < 4 → ∀ b, b < 4 → a ≠ b → (zT_Ledger a).2.1 ≠ (zT_Ledger b).2.1 := by decide +kernel
theorem zto_Ledger : ∀ k, k < 4 → parseFieldDescriptor (zT_Ledger k).2.2.1 = some (zt_Ledger k) := by decide +kernel
def zR_Node : String := "TrustLedger$Node"
def zT_Node : u_T := fun k => match k with
  | 0 => ("TrustLedger$Node", "agreements", "[LTrustLedger$Agreement;", true)
  | 1 => ("TrustLedger$Node", "ledger", "LTrustLedger$Ledger;", true)
  | 2 => ("TrustLedger$Node", "slot", "I", false)
  | _ => ("TrustLedger$Node", "head", "I", false)
def zt_Node : Nat → FieldType := fun k => match k with
  | 0 => .array (.object "TrustLedger$Agreement")
  | 1 => .object "TrustLedger$Ledger"
  | 2 => .int
  | _ => .int
theorem ztn_Node : ∀ a, a < 4 → ∀ b, b < 4 → a ≠ b → (zT_Node a).2.1 ≠ (zT_Node b).2.1 := by decide +kernel
theorem zto_Node : ∀ k, k < 4 → parseFieldDescriptor (zT_Node k).2.2.1 = some (zt_Node k) := by decide +kernel
def zR_Offer : String := "TrustLedger$Offer"
def zT_Offer : u_T := fun k => match k with
  | 0 => ("TrustLedger$Offer", "account", "I", true)
  | 1 => ("TrustLedger$Offer", "side", "I", true)
  | 2 => ("TrustLedger$Offer", "price", "I", true)
  | _ => ("TrustLedger$Offer", "amount", "I", false)
def zt_Offer : Nat → FieldType := fun k => match k with
  | 0 => .int
  | 1 => .int
  | 2 => .int
  | _ => .int
theorem ztn_Offer : ∀ a, a < 4 → ∀ b, b < 4 → a ≠ b → (zT_Offer a).2.1 ≠ (zT_Offer b).2.1 := by decide +kernel
theorem zto_Offer : ∀ k, k < 4 → parseFieldDescriptor (zT_Offer k).2.2.1 = some (zt_Offer k) := by decide +kernel
def zR_Quorums : String := "TrustLedger$Quorums"
def zT_Quorums : u_T := fun k => match k with
  | _ => ("TrustLedger$Quorums", "trusts", "[LTrustLedger$Trust;", true)
def zt_Quorums : Nat → FieldType := fun k => match k with
  | _ => .array (.object "TrustLedger$Trust")
theorem ztn_Quorums : ∀ a, a < 1 → ∀ b, b < 1 → a ≠ b → (zT_Quorums a).2.1 ≠ (zT_Quorums b).2.1 := by decide +kernel
theorem zto_Quorums : ∀ k, k < 1 → parseFieldDescriptor (zT_Quorums k).2.2.1 = some (zt_Quorums k) := by decide +kernel
def zR_Statements : String := "TrustLedger$Statements"
def zT_Statements : u_T := fun k => match k with
  | 0 => ("TrustLedger$Statements", "self", "I", true)
  | 1 => ("TrustLedger$Statements", "quorums", "LTrustLedger$Quorums;", true)
  | 2 => ("TrustLedger$Statements", "voted", "I", false)
  | 3 => ("TrustLedger$Statements", "confirmed", "I", false)
  | 4 => ("TrustLedger$Statements", "backed", "[I", true)
  | _ => ("TrustLedger$Statements", "accepted", "[I", true)
def zt_Statements : Nat → FieldType := fun k => match k with
  | 0 => .int
  | 1 => .object "TrustLedger$Quorums"
  | 2 => .int
  | 3 => .int
  | 4 => .array (.int)
  | _ => .array (.int)
theorem ztn_Statements : ∀ a, a < 6 → ∀ b, b < 6 → a ≠ b → (zT_Statements a).2.1 ≠ (zT_Statements b).2.1 := by decide +kernel
theorem zto_Statements : ∀ k, k < 6 → parseFieldDescriptor (zT_Statements k).2.2.1 = some (zt_Statements k) := by decide +kernel
def zR_Transaction : String := "TrustLedger$Transaction"
def zT_Transaction : u_T := fun k => match k with
  | 0 => ("TrustLedger$Transaction", "kind", "I", true)
  | 1 => ("TrustLedger$Transaction", "from", "I", true)
  | 2 => ("TrustLedger$Transaction", "what", "I", true)
  | 3 => ("TrustLedger$Transaction", "other", "I", true)
  | _ => ("TrustLedger$Transaction", "amount", "I", true)
def zt_Transaction : Nat → FieldType := fun k => match k with
  | 0 => .int
  | 1 => .int
  | 2 => .int
  | 3 => .int
  | _ => .int
theorem ztn_Transaction : ∀ a, a < 5 → ∀ b, b < 5 → a ≠ b → (zT_Transaction a).2.1 ≠ (zT_Transaction b).2.1 := by decide +kernel
theorem zto_Transaction : ∀ k, k < 5 → parseFieldDescriptor (zT_Transaction k).2.2.1 = some (zt_Transaction k) := by decide +kernel
def zR_Trust : String := "TrustLedger$Trust"
def zT_Trust : u_T := fun k => match k with
  | 0 => ("TrustLedger$Trust", "threshold", "I", false)
  | 1 => ("TrustLedger$Trust", "members", "I", false)
  | 2 => ("TrustLedger$Trust", "inner", "I", false)
  | _ => ("TrustLedger$Trust", "group", "I", false)
def zt_Trust : Nat → FieldType := fun k => match k with
  | 0 => .int
  | 1 => .int
  | 2 => .int
  | _ => .int
theorem ztn_Trust : ∀ a, a < 4 → ∀ b, b < 4 → a ≠ b → (zT_Trust a).2.1 ≠ (zT_Trust b).2.1 := by decide +kernel
theorem zto_Trust : ∀ k, k < 4 → parseFieldDescriptor (zT_Trust k).2.2.1 = some (zt_Trust k) := by decide +kernel
def zR_Mo : String := "TrustLedgerModel"
def zT_Mo : u_T := fun k => match k with
  | 0 => ("TrustLedgerModel", "faulty", "I", false)
  | 1 => ("TrustLedgerModel", "begun", "Z", false)
  | 2 => ("TrustLedgerModel", "threshold", "[I", false)
  | 3 => ("TrustLedgerModel", "members", "[I", false)
  | 4 => ("TrustLedgerModel", "inner", "[I", false)
  | 5 => ("TrustLedgerModel", "group", "[I", false)
  | 6 => ("TrustLedgerModel", "quorum", "[Z", false)
  | 7 => ("TrustLedgerModel", "slot", "[I", false)
  | 8 => ("TrustLedgerModel", "round", "[I", false)
  | 9 => ("TrustLedgerModel", "leaders", "[I", false)
  | 10 => ("TrustLedgerModel", "counter", "[I", false)
  | 11 => ("TrustLedgerModel", "proposal", "[I", false)
  | 12 => ("TrustLedgerModel", "have", "[I", false)
  | 13 => ("TrustLedgerModel", "knows", "[I", false)
  | 14 => ("TrustLedgerModel", "values", "[I", false)
  | 15 => ("TrustLedgerModel", "headers", "[I", false)
  | 16 => ("TrustLedgerModel", "envelopes", "I", false)
  | 17 => ("TrustLedgerModel", "sender", "[I", false)
  | 18 => ("TrustLedgerModel", "about", "[I", false)
  | 19 => ("TrustLedgerModel", "says", "[I", false)
  | 20 => ("TrustLedgerModel", "isSet", "[Z", false)
  | 21 => ("TrustLedgerModel", "kinds", "[I", false)
  | 22 => ("TrustLedgerModel", "payers", "[I", false)
  | 23 => ("TrustLedgerModel", "whats", "[I", false)
  | 24 => ("TrustLedgerModel", "others", "[I", false)
  | 25 => ("TrustLedgerModel", "amounts", "[I", false)
  | 26 => ("TrustLedgerModel", "balances", "[I", false)
  | 27 => ("TrustLedgerModel", "resting", "[I", false)
  | 28 => ("TrustLedgerModel", "account", "[I", false)
  | 29 => ("TrustLedgerModel", "side", "[I", false)
  | 30 => ("TrustLedgerModel", "price", "[I", false)
  | _ => ("TrustLedgerModel", "amount", "[I", false)
def zt_Mo : Nat → FieldType := fun k => match k with
  | 0 => .int
  | 1 => .boolean
  | 2 => .array (.int)
  | 3 => .array (.int)
  | 4 => .array (.int)
  | 5 => .array (.int)
  | 6 => .array (.boolean)
  | 7 => .array (.int)
  | 8 => .array (.int)
  | 9 => .array (.int)
  | 10 => .array (.int)
  | 11 => .array (.int)
  | 12 => .array (.int)
  | 13 => .array (.int)
  | 14 => .array (.int)
  | 15 => .array (.int)
  | 16 => .int
  | 17 => .array (.int)
  | 18 => .array (.int)
  | 19 => .array (.int)
  | 20 => .array (.boolean)
  | 21 => .array (.int)
  | 22 => .array (.int)
  | 23 => .array (.int)
  | 24 => .array (.int)
  | 25 => .array (.int)
  | 26 => .array (.int)
  | 27 => .array (.int)
  | 28 => .array (.int)
  | 29 => .array (.int)
  | 30 => .array (.int)
  | _ => .array (.int)
theorem ztn_Mo : ∀ a, a < 32 → ∀ b, b < 32 → a ≠ b → (zT_Mo a).2.1 ≠ (zT_Mo b).2.1 := by decide +kernel
theorem zto_Mo : ∀ k, k < 32 → parseFieldDescriptor (zT_Mo k).2.2.1 = some (zt_Mo k) := by decide +kernel
def zR_Law : String := "TrustLedgerLaw"
def zR_Int : String := "java/lang/Integer"
abbrev vwCl : List vw_C := [(zR_TL, zT_TL, 7), (zR_Agreement, zT_Agreement, 11), (zR_Envelope, zT_Envelope, 4), (zR_Ledger, zT_Ledger, 4), (zR_Node, zT_Node, 4), (zR_Offer, zT_Offer, 4), (zR_Quorums, zT_Quorums, 1), (zR_Statements, zT_Statements, 6), (zR_Transaction, zT_Transaction, 5), (zR_Trust, zT_Trust, 4), (zR_Mo, zT_Mo, 32)]
def za_tys : List FieldType := [.int, .boolean, .object "TrustLedger$Agreement", .object "TrustLedger$Envelope", .object "TrustLedger$Node", .object "TrustLedger$Offer", .object "TrustLedger$Transaction", .object "TrustLedger$Trust"]
abbrev zc_Trust_init : ByteArray := prog_10_method_1_code
def zy_Trust_init : MethodName := ⟨zR_Trust, "<init>", "()V"⟩
abbrev zc_Quorums_init : ByteArray := prog_7_method_1_code
def zy_Quorums_init : MethodName := ⟨zR_Quorums, "<init>", "()V"⟩
abbrev zc_Statements_init : ByteArray := prog_8_method_1_code
def zy_Statements_init : MethodName := ⟨zR_Statements, "<init>", "(ILTrustLedger$Quorums;)V"⟩
abbrev zc_Agreement_init : ByteArray := prog_2_method_1_code
def zy_Agreement_init : MethodName := ⟨zR_Agreement, "<init>", "(IILTrustLedger$Quorums;)V"⟩
abbrev zc_Ledger_init : ByteArray := prog_4_method_1_code
def zy_Ledger_init : MethodName := ⟨zR_Ledger, "<init>", "()V"⟩
abbrev zc_Node_init : ByteArray := prog_5_method_1_code
def zy_Node_init : MethodName := ⟨zR_Node, "<init>", "(ILTrustLedger$Quorums;)V"⟩
abbrev zc_TL_init : ByteArray := prog_1_method_1_code
def zy_TL_init : MethodName := ⟨zR_TL, "<init>", "(I)V"⟩
abbrev zc_TL_isWithin : ByteArray := prog_1_method_16_code
def zy_TL_isWithin : MethodName := ⟨zR_TL, "isWithin", "(III)Z"⟩
abbrev zc_Trust_become : ByteArray := prog_10_method_2_code
def zy_Trust_become : MethodName := ⟨zR_Trust, "become", "(IIII)V"⟩
abbrev zc_TL_trust : ByteArray := prog_1_method_2_code
def zy_TL_trust : MethodName := ⟨zR_TL, "trust", "(IIIII)Z"⟩
abbrev zc_TL_isSlot : ByteArray := prog_1_method_18_code
def zy_TL_isSlot : MethodName := ⟨zR_TL, "isSlot", "(I)Z"⟩
abbrev zc_TL_isAccount : ByteArray := prog_1_method_19_code
def zy_TL_isAccount : MethodName := ⟨zR_TL, "isAccount", "(I)Z"⟩
abbrev zc_TL_isLeft : ByteArray := prog_1_method_27_code
def zy_TL_isLeft : MethodName := ⟨zR_TL, "isLeft", "(I)Z"⟩
abbrev zc_Transaction_init : ByteArray := prog_9_method_1_code
def zy_Transaction_init : MethodName := ⟨zR_Transaction, "<init>", "(IIIII)V"⟩
abbrev zc_TL_submit : ByteArray := prog_1_method_3_code
def zy_TL_submit : MethodName := ⟨zR_TL, "submit", "(IIIIIII)Z"⟩
abbrev zc_TL_has : ByteArray := prog_1_method_17_code
def zy_TL_has : MethodName := ⟨zR_TL, "has", "(II)Z"⟩
abbrev zc_TL_isGood : ByteArray := prog_1_method_25_code
def zy_TL_isGood : MethodName := ⟨zR_TL, "isGood", "(I)Z"⟩
abbrev zc_TL_isAtWork : ByteArray := prog_1_method_26_code
def zy_TL_isAtWork : MethodName := ⟨zR_TL, "isAtWork", "(I)Z"⟩
abbrev zc_Trust_everyone : ByteArray := prog_10_method_5_code
def zy_Trust_everyone : MethodName := ⟨zR_Trust, "everyone", "()I"⟩
abbrev zc_Agreement_beginRound : ByteArray := prog_2_method_8_code
def zy_Agreement_beginRound : MethodName := ⟨zR_Agreement, "beginRound", "()V"⟩
abbrev zc_Agreement_takeProposal : ByteArray := prog_2_method_4_code
def zy_Agreement_takeProposal : MethodName := ⟨zR_Agreement, "takeProposal", "(I)V"⟩
abbrev zc_Statements_nodesWith : ByteArray := prog_8_method_5_code
def zy_Statements_nodesWith : MethodName := ⟨zR_Statements, "nodesWith", "([II)I"⟩
abbrev zc_Statements_vote : ByteArray := prog_8_method_2_code
def zy_Statements_vote : MethodName := ⟨zR_Statements, "vote", "(I)Z"⟩
abbrev zc_Agreement_voteNominate : ByteArray := prog_2_method_12_code
def zy_Agreement_voteNominate : MethodName := ⟨zR_Agreement, "voteNominate", "()Z"⟩
abbrev zc_Int_bitCount : ByteArray := prog_13_method_49_code
def zy_Int_bitCount : MethodName := ⟨zR_Int, "bitCount", "(I)I"⟩
abbrev zc_Trust_isSatisfiedBy : ByteArray := prog_10_method_3_code
def zy_Trust_isSatisfiedBy : MethodName := ⟨zR_Trust, "isSatisfiedBy", "(I)Z"⟩
abbrev zc_Quorums_isGivenTo : ByteArray := prog_7_method_2_code
def zy_Quorums_isGivenTo : MethodName := ⟨zR_Quorums, "isGivenTo", "(II)Z"⟩
abbrev zc_Trust_isBlockedBy : ByteArray := prog_10_method_4_code
def zy_Trust_isBlockedBy : MethodName := ⟨zR_Trust, "isBlockedBy", "(I)Z"⟩
abbrev zc_Statements_acceptIfMay : ByteArray := prog_8_method_3_code
def zy_Statements_acceptIfMay : MethodName := ⟨zR_Statements, "acceptIfMay", "(I)Z"⟩
abbrev zc_Agreement_acceptNominate : ByteArray := prog_2_method_13_code
def zy_Agreement_acceptNominate : MethodName := ⟨zR_Agreement, "acceptNominate", "()Z"⟩
abbrev zc_Statements_confirmIfMay : ByteArray := prog_8_method_4_code
def zy_Statements_confirmIfMay : MethodName := ⟨zR_Statements, "confirmIfMay", "(I)Z"⟩
abbrev zc_Agreement_confirmNominate : ByteArray := prog_2_method_14_code
def zy_Agreement_confirmNominate : MethodName := ⟨zR_Agreement, "confirmNominate", "()Z"⟩
abbrev zc_Agreement_composite : ByteArray := prog_2_method_10_code
def zy_Agreement_composite : MethodName := ⟨zR_Agreement, "composite", "()I"⟩
abbrev zc_TL_valueOf : ByteArray := prog_1_method_20_code
def zy_TL_valueOf : MethodName := ⟨zR_TL, "valueOf", "(I)I"⟩
abbrev zc_Agreement_valueToPrepare : ByteArray := prog_2_method_11_code
def zy_Agreement_valueToPrepare : MethodName := ⟨zR_Agreement, "valueToPrepare", "()I"⟩
abbrev zc_TL_ballotOf : ByteArray := prog_1_method_21_code
def zy_TL_ballotOf : MethodName := ⟨zR_TL, "ballotOf", "(II)I"⟩
abbrev zc_Agreement_raiseCounter : ByteArray := prog_2_method_9_code
def zy_Agreement_raiseCounter : MethodName := ⟨zR_Agreement, "raiseCounter", "()V"⟩
abbrev zc_Agreement_beginPrepare : ByteArray := prog_2_method_15_code
def zy_Agreement_beginPrepare : MethodName := ⟨zR_Agreement, "beginPrepare", "()Z"⟩
abbrev zc_TL_otherValued : ByteArray := prog_1_method_22_code
def zy_TL_otherValued : MethodName := ⟨zR_TL, "otherValued", "(I)I"⟩
abbrev zc_TL_abortedBy : ByteArray := prog_1_method_23_code
def zy_TL_abortedBy : MethodName := ⟨zR_TL, "abortedBy", "(I)I"⟩
abbrev zc_Agreement_acceptPrepare : ByteArray := prog_2_method_16_code
def zy_Agreement_acceptPrepare : MethodName := ⟨zR_Agreement, "acceptPrepare", "()Z"⟩
abbrev zc_Agreement_confirmPrepare : ByteArray := prog_2_method_17_code
def zy_Agreement_confirmPrepare : MethodName := ⟨zR_Agreement, "confirmPrepare", "()Z"⟩
abbrev zc_TL_abortersOf : ByteArray := prog_1_method_24_code
def zy_TL_abortersOf : MethodName := ⟨zR_TL, "abortersOf", "(I)I"⟩
abbrev zc_Agreement_voteCommit : ByteArray := prog_2_method_18_code
def zy_Agreement_voteCommit : MethodName := ⟨zR_Agreement, "voteCommit", "()Z"⟩
abbrev zc_Agreement_settleCommit : ByteArray := prog_2_method_19_code
def zy_Agreement_settleCommit : MethodName := ⟨zR_Agreement, "settleCommit", "()Z"⟩
abbrev zc_Agreement_stir : ByteArray := prog_2_method_7_code
def zy_Agreement_stir : MethodName := ⟨zR_Agreement, "stir", "()V"⟩
abbrev zc_Offer_init : ByteArray := prog_6_method_1_code
def zy_Offer_init : MethodName := ⟨zR_Offer, "<init>", "(IIII)V"⟩
abbrev zc_Offer_sells : ByteArray := prog_6_method_2_code
def zy_Offer_sells : MethodName := ⟨zR_Offer, "sells", "()Z"⟩
abbrev zc_Offer_agreesTo : ByteArray := prog_6_method_3_code
def zy_Offer_agreesTo : MethodName := ⟨zR_Offer, "agreesTo", "(I)Z"⟩
abbrev zc_Offer_prefers : ByteArray := prog_6_method_4_code
def zy_Offer_prefers : MethodName := ⟨zR_Offer, "prefers", "(II)Z"⟩
abbrev zc_Ledger_bestFor : ByteArray := prog_4_method_6_code
def zy_Ledger_bestFor : MethodName := ⟨zR_Ledger, "bestFor", "(LTrustLedger$Offer;)I"⟩
abbrev zc_Ledger_canServe : ByteArray := prog_4_method_8_code
def zy_Ledger_canServe : MethodName := ⟨zR_Ledger, "canServe", "(LTrustLedger$Offer;)Z"⟩
abbrev zc_Ledger_move : ByteArray := prog_4_method_4_code
def zy_Ledger_move : MethodName := ⟨zR_Ledger, "move", "([IIII)V"⟩
abbrev zc_Ledger_takeOut : ByteArray := prog_4_method_9_code
def zy_Ledger_takeOut : MethodName := ⟨zR_Ledger, "takeOut", "(I)V"⟩
abbrev zc_Ledger_tradeWith : ByteArray := prog_4_method_7_code
def zy_Ledger_tradeWith : MethodName := ⟨zR_Ledger, "tradeWith", "(LTrustLedger$Offer;I)Z"⟩
abbrev zc_Ledger_match : ByteArray := prog_4_method_5_code
def zy_Ledger_match : MethodName := ⟨zR_Ledger, "match", "(LTrustLedger$Offer;)V"⟩
abbrev zc_Ledger_holdings : ByteArray := prog_4_method_2_code
def zy_Ledger_holdings : MethodName := ⟨zR_Ledger, "holdings", "(I)[I"⟩
abbrev zc_Ledger_carryOut : ByteArray := prog_4_method_3_code
def zy_Ledger_carryOut : MethodName := ⟨zR_Ledger, "carryOut", "(LTrustLedger$Transaction;)V"⟩
abbrev zc_TL_closeSlot : ByteArray := prog_1_method_29_code
def zy_TL_closeSlot : MethodName := ⟨zR_TL, "closeSlot", "(LTrustLedger$Node;I)V"⟩
abbrev zc_TL_propose : ByteArray := prog_1_method_4_code
def zy_TL_propose : MethodName := ⟨zR_TL, "propose", "(II)Z"⟩
abbrev zc_Agreement_runOutOfTime : ByteArray := prog_2_method_5_code
def zy_Agreement_runOutOfTime : MethodName := ⟨zR_Agreement, "runOutOfTime", "()V"⟩
abbrev zc_TL_timeout : ByteArray := prog_1_method_5_code
def zy_TL_timeout : MethodName := ⟨zR_TL, "timeout", "(I)Z"⟩
abbrev zc_Envelope_init : ByteArray := prog_3_method_1_code
def zy_Envelope_init : MethodName := ⟨zR_Envelope, "<init>", "(II)V"⟩
abbrev zc_Agreement_ofKind : ByteArray := prog_2_method_2_code
def zy_Agreement_ofKind : MethodName := ⟨zR_Agreement, "ofKind", "(I)LTrustLedger$Statements;"⟩
abbrev zc_TL_keepEnvelope : ByteArray := prog_1_method_28_code
def zy_TL_keepEnvelope : MethodName := ⟨zR_TL, "keepEnvelope", "(LTrustLedger$Envelope;)I"⟩
abbrev zc_TL_post : ByteArray := prog_1_method_6_code
def zy_TL_post : MethodName := ⟨zR_TL, "post", "(II)I"⟩
abbrev zc_Envelope_claim : ByteArray := prog_3_method_2_code
def zy_Envelope_claim : MethodName := ⟨zR_Envelope, "claim", "(II)V"⟩
abbrev zc_TL_forge : ByteArray := prog_1_method_7_code
def zy_TL_forge : MethodName := ⟨zR_TL, "forge", "(IIIII)I"⟩
abbrev zc_Agreement_learn : ByteArray := prog_2_method_6_code
def zy_Agreement_learn : MethodName := ⟨zR_Agreement, "learn", "(LTrustLedger$Envelope;)V"⟩
abbrev zc_TL_deliver : ByteArray := prog_1_method_8_code
def zy_TL_deliver : MethodName := ⟨zR_TL, "deliver", "(II)Z"⟩
abbrev zc_TL_envelopes : ByteArray := prog_1_method_9_code
def zy_TL_envelopes : MethodName := ⟨zR_TL, "envelopes", "()I"⟩
abbrev zc_Agreement_aspect : ByteArray := prog_2_method_3_code
def zy_Agreement_aspect : MethodName := ⟨zR_Agreement, "aspect", "(I)I"⟩
abbrev zc_TL_state : ByteArray := prog_1_method_10_code
def zy_TL_state : MethodName := ⟨zR_TL, "state", "(II)I"⟩
abbrev zc_TL_statements : ByteArray := prog_1_method_11_code
def zy_TL_statements : MethodName := ⟨zR_TL, "statements", "(IIII)I"⟩
abbrev zc_TL_value : ByteArray := prog_1_method_12_code
def zy_TL_value : MethodName := ⟨zR_TL, "value", "(II)I"⟩
abbrev zc_TL_header : ByteArray := prog_1_method_13_code
def zy_TL_header : MethodName := ⟨zR_TL, "header", "(I)I"⟩
abbrev zc_TL_balance : ByteArray := prog_1_method_14_code
def zy_TL_balance : MethodName := ⟨zR_TL, "balance", "(III)I"⟩
abbrev zc_TL_offer : ByteArray := prog_1_method_15_code
def zy_TL_offer : MethodName := ⟨zR_TL, "offer", "(II)I"⟩
abbrev zc_Mo_many : ByteArray := prog_12_method_4_code
def zy_Mo_many : MethodName := ⟨zR_Mo, "many", "(I)I"⟩
abbrev zc_Mo_satisfies : ByteArray := prog_12_method_5_code
def zy_Mo_satisfies : MethodName := ⟨zR_Mo, "satisfies", "(II)Z"⟩
abbrev zc_Mo_table : ByteArray := prog_12_method_6_code
def zy_Mo_table : MethodName := ⟨zR_Mo, "table", "()V"⟩
abbrev zc_Mo_init : ByteArray := prog_12_method_1_code
def zy_Mo_init : MethodName := ⟨zR_Mo, "<init>", "(I)V"⟩
abbrev zc_Mo_in : ByteArray := prog_12_method_2_code
def zy_Mo_in : MethodName := ⟨zR_Mo, "in", "(III)Z"⟩
abbrev zc_Mo_good : ByteArray := prog_12_method_3_code
def zy_Mo_good : MethodName := ⟨zR_Mo, "good", "(I)Z"⟩
abbrev zc_Mo_gives : ByteArray := prog_12_method_7_code
def zy_Mo_gives : MethodName := ⟨zR_Mo, "gives", "(II)Z"⟩
abbrev zc_Mo_trust : ByteArray := prog_12_method_8_code
def zy_Mo_trust : MethodName := ⟨zR_Mo, "trust", "(IIIII)Z"⟩
abbrev zc_Mo_place : ByteArray := prog_12_method_9_code
def zy_Mo_place : MethodName := ⟨zR_Mo, "place", "(III)I"⟩
abbrev zc_Mo_has : ByteArray := prog_12_method_10_code
def zy_Mo_has : MethodName := ⟨zR_Mo, "has", "(IIII)Z"⟩
abbrev zc_Mo_put : ByteArray := prog_12_method_11_code
def zy_Mo_put : MethodName := ⟨zR_Mo, "put", "(IIII)Z"⟩
abbrev zc_Mo_nodes : ByteArray := prog_12_method_12_code
def zy_Mo_nodes : MethodName := ⟨zR_Mo, "nodes", "(IIIZ)I"⟩
abbrev zc_Mo_worth : ByteArray := prog_12_method_13_code
def zy_Mo_worth : MethodName := ⟨zR_Mo, "worth", "(I)I"⟩
abbrev zc_Mo_aborts : ByteArray := prog_12_method_14_code
def zy_Mo_aborts : MethodName := ⟨zR_Mo, "aborts", "(II)Z"⟩
abbrev zc_Mo_clash : ByteArray := prog_12_method_15_code
def zy_Mo_clash : MethodName := ⟨zR_Mo, "clash", "(IIIIZ)Z"⟩
abbrev zc_Mo_mayAccept : ByteArray := prog_12_method_16_code
def zy_Mo_mayAccept : MethodName := ⟨zR_Mo, "mayAccept", "(III)Z"⟩
abbrev zc_Mo_mayConfirm : ByteArray := prog_12_method_17_code
def zy_Mo_mayConfirm : MethodName := ⟨zR_Mo, "mayConfirm", "(III)Z"⟩
abbrev zc_Mo_composite : ByteArray := prog_12_method_18_code
def zy_Mo_composite : MethodName := ⟨zR_Mo, "composite", "(I)I"⟩
abbrev zc_Mo_toPrepare : ByteArray := prog_12_method_19_code
def zy_Mo_toPrepare : MethodName := ⟨zR_Mo, "toPrepare", "(I)I"⟩
abbrev zc_Mo_votePrepare : ByteArray := prog_12_method_20_code
def zy_Mo_votePrepare : MethodName := ⟨zR_Mo, "votePrepare", "(I)Z"⟩
abbrev zc_Mo_ruleA : ByteArray := prog_12_method_21_code
def zy_Mo_ruleA : MethodName := ⟨zR_Mo, "ruleA", "(I)Z"⟩
abbrev zc_Mo_accept : ByteArray := prog_12_method_22_code
def zy_Mo_accept : MethodName := ⟨zR_Mo, "accept", "(IIII)Z"⟩
abbrev zc_Mo_confirm : ByteArray := prog_12_method_23_code
def zy_Mo_confirm : MethodName := ⟨zR_Mo, "confirm", "(IIII)Z"⟩
abbrev zc_Mo_ruleD : ByteArray := prog_12_method_24_code
def zy_Mo_ruleD : MethodName := ⟨zR_Mo, "ruleD", "(I)Z"⟩
abbrev zc_Mo_ruleG : ByteArray := prog_12_method_25_code
def zy_Mo_ruleG : MethodName := ⟨zR_Mo, "ruleG", "(I)Z"⟩
abbrev zc_Mo_best : ByteArray := prog_12_method_39_code
def zy_Mo_best : MethodName := ⟨zR_Mo, "best", "(III)I"⟩
abbrev zc_Mo_cross : ByteArray := prog_12_method_42_code
def zy_Mo_cross : MethodName := ⟨zR_Mo, "cross", "(IIII)I"⟩
abbrev zc_Mo_remove : ByteArray := prog_12_method_40_code
def zy_Mo_remove : MethodName := ⟨zR_Mo, "remove", "(II)V"⟩
abbrev zc_Mo_trade : ByteArray := prog_12_method_41_code
def zy_Mo_trade : MethodName := ⟨zR_Mo, "trade", "(II)V"⟩
abbrev zc_Mo_carry : ByteArray := prog_12_method_38_code
def zy_Mo_carry : MethodName := ⟨zR_Mo, "carry", "(II)V"⟩
abbrev zc_Mo_externalize : ByteArray := prog_12_method_28_code
def zy_Mo_externalize : MethodName := ⟨zR_Mo, "externalize", "(II)V"⟩
abbrev zc_Mo_ruleH : ByteArray := prog_12_method_26_code
def zy_Mo_ruleH : MethodName := ⟨zR_Mo, "ruleH", "(I)I"⟩
abbrev zc_Mo_stir : ByteArray := prog_12_method_27_code
def zy_Mo_stir : MethodName := ⟨zR_Mo, "stir", "(I)V"⟩
abbrev zc_Mo_newRound : ByteArray := prog_12_method_29_code
def zy_Mo_newRound : MethodName := ⟨zR_Mo, "newRound", "(I)V"⟩
abbrev zc_Mo_propose : ByteArray := prog_12_method_30_code
def zy_Mo_propose : MethodName := ⟨zR_Mo, "propose", "(II)Z"⟩
abbrev zc_Mo_timeout : ByteArray := prog_12_method_31_code
def zy_Mo_timeout : MethodName := ⟨zR_Mo, "timeout", "(I)Z"⟩
abbrev zc_Mo_sealed : ByteArray := prog_12_method_33_code
def zy_Mo_sealed : MethodName := ⟨zR_Mo, "sealed", "(II)I"⟩
abbrev zc_Mo_post : ByteArray := prog_12_method_32_code
def zy_Mo_post : MethodName := ⟨zR_Mo, "post", "(II)I"⟩
abbrev zc_Mo_forge : ByteArray := prog_12_method_34_code
def zy_Mo_forge : MethodName := ⟨zR_Mo, "forge", "(IIIII)I"⟩
abbrev zc_Mo_deliver : ByteArray := prog_12_method_35_code
def zy_Mo_deliver : MethodName := ⟨zR_Mo, "deliver", "(II)Z"⟩
abbrev zc_Mo_envelopes : ByteArray := prog_12_method_36_code
def zy_Mo_envelopes : MethodName := ⟨zR_Mo, "envelopes", "()I"⟩
abbrev zc_Mo_submit : ByteArray := prog_12_method_37_code
def zy_Mo_submit : MethodName := ⟨zR_Mo, "submit", "(IIIIIII)Z"⟩
abbrev zc_Mo_state : ByteArray := prog_12_method_43_code
def zy_Mo_state : MethodName := ⟨zR_Mo, "state", "(II)I"⟩
abbrev zc_Mo_statements : ByteArray := prog_12_method_44_code
def zy_Mo_statements : MethodName := ⟨zR_Mo, "statements", "(IIII)I"⟩
abbrev zc_Mo_value : ByteArray := prog_12_method_45_code
def zy_Mo_value : MethodName := ⟨zR_Mo, "value", "(II)I"⟩
abbrev zc_Mo_header : ByteArray := prog_12_method_46_code
def zy_Mo_header : MethodName := ⟨zR_Mo, "header", "(I)I"⟩
abbrev zc_Mo_balance : ByteArray := prog_12_method_47_code
def zy_Mo_balance : MethodName := ⟨zR_Mo, "balance", "(III)I"⟩
abbrev zc_Mo_offer : ByteArray := prog_12_method_48_code
def zy_Mo_offer : MethodName := ⟨zR_Mo, "offer", "(II)I"⟩
abbrev zc_Law_cell : ByteArray := method_2_code
def zy_Law_cell : MethodName := ⟨zR_Law, "cell", "([II)I"⟩
end
section
/-! The heap as this proof sees it: a partial map from addresses to cells, and the next free address; rows of the machine over it. -/
abbrev za_c : Type := (Nat × Nat × ((Nat → Int32) ⊕ (Nat → Option Nat))) ⊕ (Nat × List Value)
abbrev za_h : Type := (Nat → Option za_c) × Nat
def za_up (f : Nat → Option za_c) (a : Nat) (x : za_c) : Nat → Option za_c := fun q => if q = a then some x else f q
def za_w (σ : za_h) (a : Nat) (x : za_c) : za_h := (za_up σ.1 a x, σ.2)
def za_n (σ : za_h) (x : za_c) : za_h := (za_up σ.1 σ.2 x, σ.2 + 1)
def zg_f (σ : za_h) (a ci k : Nat) : Option Value := match σ.1 a with
  | some (.inr (c, fs)) => if c = ci then fs[k]? else none
  | _ => none
def zg_i (σ : za_h) (a ci k : Nat) : Option Int32 := match zg_f σ a ci k with
  | some (.int x) => some x
  | _ => none
def zg_r (σ : za_h) (a ci k : Nat) : Option Nat := match zg_f σ a ci k with
  | some (.ref b) => some b
  | _ => none
def zg_c (σ : za_h) (a ci : Nat) : Option Unit := match σ.1 a with
  | some (.inr (c, _)) => if c = ci then some () else none
  | _ => none
def zp_f (σ : za_h) (a ci k : Nat) (v : Value) : Option za_h := match σ.1 a with
  | some (.inr (c, fs)) => if c = ci ∧ k < fs.length then some (za_w σ a (.inr (c, fs.set k v))) else none
  | _ => none
def za_ld (σ : za_h) (a t : Nat) (i : Int32) : Option Int32 := match σ.1 a with
  | some (.inl (u, n, .inl f)) => if u = t ∧ ¬ (i < 0 ∨ n ≤ i.toNatClampNeg) then some (f i.toNatClampNeg) else none
  | _ => none
def za_st (σ : za_h) (a t : Nat) (i x : Int32) : Option za_h := match σ.1 a with
  | some (.inl (u, n, .inl f)) => if u = t ∧ ¬ (i < 0 ∨ n ≤ i.toNatClampNeg) then some (za_w σ a (.inl (u, n, .inl (upd f i.toNatClampNeg x)))) else none
  | _ => none
def za_lq (σ : za_h) (a t : Nat) (i : Int32) : Option (Option Nat) := match σ.1 a with
  | some (.inl (u, n, .inr f)) => if u = t ∧ ¬ (i < 0 ∨ n ≤ i.toNatClampNeg) then some (f i.toNatClampNeg) else none
  | _ => none
def za_ln (σ : za_h) (a t : Nat) (i : Int32) : Option Nat := match za_lq σ a t i with
  | some (some b) => some b
  | _ => none
def za_sq (σ : za_h) (a t ci : Nat) (i : Int32) (o : Option Nat) : Option za_h := match σ.1 a with
  | some (.inl (u, n, .inr f)) => if u = t ∧ ¬ (i < 0 ∨ n ≤ i.toNatClampNeg) ∧ (o.all fun v => (zg_c σ v ci).isSome) = true then some (za_w σ a (.inl (u, n, .inr (va_up f i.toNatClampNeg o)))) else none
  | _ => none

theorem zg_f_s {σ : za_h} {a ci k : Nat} {v : Value} (h : zg_f σ a ci k = some v) : ∃ fs, σ.1 a = some (.inr (ci, fs)) ∧ fs[k]? = some v := by
  unfold zg_f at h
  split at h
  · rename_i c fs e
    split at h
    · rename_i hc; subst hc; exact ⟨fs, e, h⟩
    · cases h
  · cases h
theorem zg_i_s {σ : za_h} {a ci k : Nat} {x : Int32} (h : zg_i σ a ci k = some x) : zg_f σ a ci k = some (.int x) := by
  unfold zg_i at h
  split at h
  · rename_i y e; cases h; exact e
  · cases h
theorem zg_r_s {σ : za_h} {a ci k : Nat} {b : Nat} (h : zg_r σ a ci k = some b) : zg_f σ a ci k = some (.ref b) := by
  unfold zg_r at h
  split at h
  · rename_i y e; cases h; exact e
  · cases h
theorem zg_c_s {σ : za_h} {a ci : Nat} {u : Unit} (h : zg_c σ a ci = some u) : ∃ fs, σ.1 a = some (.inr (ci, fs)) := by
  unfold zg_c at h
  split at h
  · rename_i c fs e
    split at h
    · rename_i hc; subst hc; exact ⟨fs, e⟩
    · cases h
  · cases h
theorem zp_f_s {σ σ1 : za_h} {a ci k : Nat} {v : Value} (h : zp_f σ a ci k v = some σ1) : ∃ fs, σ.1 a = some (.inr (ci, fs)) ∧ k < fs.length ∧ σ1 = za_w σ a (.inr (ci, fs.set k v)) := by
  unfold zp_f at h
  split at h
  · rename_i c fs e
    split at h
    · rename_i hc; obtain ⟨rfl, hk⟩ := hc; cases h; exact ⟨fs, e, hk, rfl⟩
    · cases h
  · cases h
theorem za_ld_s {σ : za_h} {a t : Nat} {i x : Int32} (h : za_ld σ a t i = some x) : ∃ n f, σ.1 a = some (.inl (t, n, .inl f)) ∧ vp_in i n ∧ x = f i.toNatClampNeg := by
  unfold za_ld at h
  split at h
  · rename_i u n f e
    split at h
    · rename_i hc; obtain ⟨rfl, hk⟩ := hc; cases h; exact ⟨n, f, e, hk, rfl⟩
    · cases h
  · cases h
theorem za_st_s {σ σ1 : za_h} {a t : Nat} {i x : Int32} (h : za_st σ a t i x = some σ1) : ∃ n f, σ.1 a = some (.inl (t, n, .inl f)) ∧ vp_in i n ∧ σ1 = za_w σ a (.inl (t, n, .inl (upd f i.toNatClampNeg x))) := by
  unfold za_st at h
  split at h
  · rename_i u n f e
    split at h
    · rename_i hc; obtain ⟨rfl, hk⟩ := hc; cases h; exact ⟨n, f, e, hk, rfl⟩
    · cases h
  · cases h
theorem za_lq_s {σ : za_h} {a t : Nat} {i : Int32} {x : Option Nat} (h : za_lq σ a t i = some x) : ∃ n f, σ.1 a = some (.inl (t, n, .inr f)) ∧ vp_in i n ∧ x = f i.toNatClampNeg := by
  unfold za_lq at h
  split at h
  · rename_i u n f e
    split at h
    · rename_i hc; obtain ⟨rfl, hk⟩ := hc; cases h; exact ⟨n, f, e, hk, rfl⟩
    · cases h
  · cases h
theorem za_ln_s {σ : za_h} {a t : Nat} {i : Int32} {b : Nat} (h : za_ln σ a t i = some b) : za_lq σ a t i = some (some b) := by
  unfold za_ln at h
  split at h
  · rename_i y e; cases h; exact e
  · cases h
theorem za_sq_s {σ σ1 : za_h} {a t ci : Nat} {i : Int32} {o : Option Nat} (h : za_sq σ a t ci i o = some σ1) : ∃ n f, σ.1 a = some (.inl (t, n, .inr f)) ∧ vp_in i n ∧ (∀ v, o = some v → ∃ fs, σ.1 v = some (.inr (ci, fs))) ∧ σ1 = za_w σ a (.inl (t, n, .inr (va_up f i.toNatClampNeg o))) := by
  unfold za_sq at h
  split at h
  · rename_i u n f e
    split at h
    · rename_i hc
      obtain ⟨rfl, hk, ho⟩ := hc
      cases h
      refine ⟨n, f, e, hk, fun v hv => ?_, rfl⟩
      subst hv
      obtain ⟨w, hw⟩ := Option.isSome_iff_exists.mp (show (zg_c σ v ci).isSome = true from ho)
      exact zg_c_s hw
    · cases h
  · cases h
def za_ushr (x y : Int32) : Int32 := (x.toUInt32 >>> (y.toUInt32 &&& Int32.toUInt32 31)).toInt32
def za_min (x y : Int32) : Int32 := if y < x then y else x
/-- a step of a function that may fail -/
theorem zb_o {α β : Type} {x : Option α} {f : α → Option β} {y : β} (h : x.bind f = some y) : ∃ v, x = some v ∧ f v = some y := by
  cases x with
  | none => cases h
  | some v => exact ⟨v, rfl, h⟩
theorem zb_t {β : Type} {q : Prop} [Decidable q] {a b : Option β} {y : β} (hq : q) (h : (if q then a else b) = some y) : a = some y := by rwa [if_pos hq] at h
theorem zb_f {β : Type} {q : Prop} [Decidable q] {a b : Option β} {y : β} (hq : ¬ q) (h : (if q then a else b) = some y) : b = some y := by rwa [if_neg hq] at h
theorem zb_g {β : Type} {q : Prop} [Decidable q] {a : Option β} {y : β} (h : (if q then a else none) = some y) : q ∧ a = some y := by
  by_cases hq : q
  · exact ⟨hq, by rwa [if_pos hq] at h⟩
  · rw [if_neg hq] at h; cases h
/-- the steady words -/
def za_ws : List Cond := lw_tbl.filter goodWord
theorem za_ws_in {w : Cond} (h : w ∈ lw_tbl) (hg : goodWord w = true) : w ∈ za_ws := List.mem_filter.mpr ⟨h, hg⟩
theorem za_good {w0 : Cond} (h0 : w0 ∈ za_ws) : GoodIn za_ws (w0 :: za_ws) := by
  intro w hw
  have h1 : w ∈ za_ws := by
    rcases List.mem_cons.mp hw with rfl | h
    · exact h0
    · exact h
  refine ⟨h1, ?_⟩
  have h2 := (List.mem_filter.mp h1).2
  unfold goodWord at h2
  split at h2
  · exact Or.inr ⟨_, rfl⟩
  · exact Or.inl h2
def za_nest : Cond → Bool
  | .fieldLinkNest .. => true
  | .methodLinkNest .. => true
  | _ => false
def za_E (ca : Nat → ClassId) (x : za_c) : va_E := match x with
  | .inl (t, n, .inl f) => .inl (ca t, n, .inl f)
  | .inl (t, n, .inr f) => .inl (ca t, n, .inr (.inr (.inr (.inr f))))
  | .inr o => .inr o
def za_T (ca : Nat → ClassId) : List (ClassId × FieldType) := za_tys.mapIdx (fun k ty => (ca k, ty))
theorem za_T_at {ca : Nat → ClassId} {t : Nat} {ty : FieldType} (h : za_tys[t]? = some ty) : (za_T ca)[t]? = some (ca t, ty) := by
  simp [za_T, List.getElem?_mapIdx, h]
def za_K (D : va_G) (ca : Nat → ClassId) (U : State) : Prop := va_K D vwCl (za_T ca) U ∧ (∀ w ∈ lw_tbl, za_nest w = true → va_Nw w U) ∧ ∀ (t : Nat) (C : String), za_tys[t]? = some (.object C) → va_AO C U
theorem za_K.warm {D : va_G} {ca : Nat → ClassId} {s U : State} (h : za_K D ca s) (hW : s.WarmedH U.vm) : za_K D ca U := by
  refine ⟨h.1.moved hW.alike, fun w hw hn => ?_, fun t C ht => (h.2.2 t C ht).moved hW.alike⟩
  have h1 := h.2.1 w hw hn
  cases w <;> first | exact va_Nw.warmF hW h1 | exact va_Nw.warmM hW h1 | (simp [za_nest] at hn; done)
theorem za_K.same {D : va_G} {ca : Nat → ClassId} {s U : State} (h : za_K D ca s) (hU : s.vm = U.vm) : za_K D ca U := by
  have hal : s.vm.Alike U.vm := by rw [hU]; exact Vm.Alike.refl U.vm
  refine ⟨h.1.moved hal, fun w hw hn => ?_, fun t C ht => (h.2.2 t C ht).moved hal⟩
  have h1 := h.2.1 w hw hn
  cases w <;> first | exact va_Nw.same rfl hU h1 | (simp [za_nest] at hn; done)
def za_R (D : va_G) (ca : Nat → ClassId) (n0 : Nat) (σ : za_h) (H : Heap) : Prop := H.size = σ.2 ∧ n0 ≤ σ.2 ∧ ∀ (a : Nat) (x : za_c), σ.1 a = some x → n0 ≤ a ∧ va_at D vwCl (a, za_E ca x) H
def za_A (n0 : Nat) : Nat → Prop := fun q => n0 ≤ q
def za_I (D : va_G) (ca : Nat → ClassId) (n0 : Nat) (s : State) (σ : za_h) (H : Heap) (locs : List Loc) : Prop := za_R D ca n0 σ H ∧ va_S (za_A n0) s.heap H locs
theorem za_R.P {D : va_G} {ca : Nat → ClassId} {n0 : Nat} {σ : za_h} {H : Heap} (h : za_R D ca n0 σ H) {a : Nat} {x : za_c} (hx : σ.1 a = some x) : va_P D vwCl [(a, za_E ca x)] H := by
  intro k q hk
  cases k with
  | zero =>
    have hq : (a, za_E ca x) = q := by simpa using hk
    subst hq
    exact (h.2.2 a x hx).2
  | succ k => simp at hk
theorem za_R.set {D : va_G} {ca : Nat → ClassId} {n0 : Nat} {σ : za_h} {H H1 : Heap} (h : za_R D ca n0 σ H) {a : Nat} {x0 x : za_c} (ha : σ.1 a = some x0) (z : H1.size = H.size) (he : va_at D vwCl (a, za_E ca x) H1) (oq : ∀ q : Nat, q ≠ a → H1[q]? = H[q]?) : za_R D ca n0 (za_w σ a x) H1 := by
  refine ⟨z.trans h.1, h.2.1, fun b y hb => ?_⟩
  by_cases hq : b = a
  · subst hq
    have hy : x = y := by simpa [za_w, za_up] using hb
    subst hy
    exact ⟨(h.2.2 b x0 ha).1, he⟩
  · have hb' : σ.1 b = some y := by simpa [za_w, za_up, hq] using hb
    exact ⟨(h.2.2 b y hb').1, (h.2.2 b y hb').2.kept (oq b hq)⟩
theorem za_R.new {D : va_G} {ca : Nat → ClassId} {n0 : Nat} {σ : za_h} {H H1 : Heap} (h : za_R D ca n0 σ H) {x : za_c} (z : H1.size = H.size + 1) (he : va_at D vwCl (H.size, za_E ca x) H1) (oq : ∀ q : Nat, q < H.size → H1[q]? = H[q]?) : za_R D ca n0 (za_n σ x) H1 := by
  refine ⟨by rw [z, h.1]; rfl, Nat.le_succ_of_le h.2.1, fun b y hb => ?_⟩
  by_cases hq : b = σ.2
  · subst hq
    have hy : x = y := by simpa [za_n, za_up] using hb
    subst hy
    exact ⟨h.2.1, by rw [← h.1]; exact he⟩
  · have hb' : σ.1 b = some y := by simpa [za_n, za_up, hq] using hb
    have h2 := h.2.2 b y hb'
    exact ⟨h2.1, h2.2.kept (oq b h2.2.lt)⟩
theorem za_S.new {n0 : Nat} {H0 H H1 : Heap} {locs : List Loc} (h : va_S (za_A n0) H0 H locs) (z : H1.size = H.size + 1) (oq : ∀ q : Nat, q < H.size → H1[q]? = H[q]?) : va_S (za_A n0) H0 H1 locs :=
  ⟨Nat.le_trans h.1 (by omega), fun x h1 h2 => (oq x (Nat.lt_of_lt_of_le h1 h.1)).trans (h.2.1 x h1 h2), h.2.2⟩
/-- a field, as an instruction of the class own names it by the place index of its pool -/
def za_fd (own : String) (index ci k : Nat) (ty : FieldType) (fin : Bool) : Prop := ∃ (C : String) (T : u_T) (N : Nat) (tt : Nat → FieldType), vwCl[ci]? = some (C, T, N) ∧ k < N ∧ (∀ w ∈ u_ws C T N, w ∈ za_ws) ∧ (T k).1 = C ∧ parseFieldDescriptor (T k).2.2.1 = some ty ∧ (∀ k, k < N → parseFieldDescriptor (T k).2.2.1 = some (tt k)) ∧ (∀ a, a < N → ∀ b, b < N → a ≠ b → (T a).2.1 ≠ (T b).2.1) ∧ (T k).2.2.2 = fin ∧ (Cond.fieldLink own index C (T k).2.1 (T k).2.2.1 ∈ za_ws ∨ ∃ host, Cond.fieldLinkNest own index C (T k).2.1 (T k).2.2.1 host ∈ lw_tbl)
/-- a final field of the class itself, in its constructor -/
def za_ff (own : String) (index ci k : Nat) (ty : FieldType) : Prop := ∃ (T : u_T) (N : Nat) (tt : Nat → FieldType), vwCl[ci]? = some (own, T, N) ∧ k < N ∧ (∀ w ∈ u_ws own T N, w ∈ za_ws) ∧ (T k).1 = own ∧ parseFieldDescriptor (T k).2.2.1 = some ty ∧ (∀ k, k < N → parseFieldDescriptor (T k).2.2.1 = some (tt k)) ∧ (∀ a, a < N → ∀ b, b < N → a ≠ b → (T a).2.1 ≠ (T b).2.1) ∧ (T k).2.2.2 = true ∧ Cond.fieldLink own index own (T k).2.1 (T k).2.2.1 ∈ za_ws
/-- a class that an instruction makes an object of: what a new one holds -/
def za_nd (own : String) (index ci : Nat) (fs : List Value) (N : Nat) : Prop := ∃ (C : String) (T : u_T) (tt : Nat → FieldType), vwCl[ci]? = some (C, T, N) ∧ (∀ w ∈ u_ws C T N, w ∈ za_ws) ∧ (∀ k, k < N → parseFieldDescriptor (T k).2.2.1 = some (tt k)) ∧ Cond.classLink own index C ∈ za_ws ∧ Cond.instantiable C N ∈ za_ws ∧ Cond.initialized C ∈ za_ws ∧ ∀ j, j < N → defaultValue (tt j) = vp_V fs j
def za_mb (own : String) (index : Nat) (y : MethodName) (bytes : ByteArray) (maxL : Nat) (ret : Option FieldType) (n : Nat) : Prop := Cond.code y bytes maxL ret ∈ za_ws ∧ Cond.initialized y.cls ∈ za_ws ∧ (y.cls ≠ "java/lang/invoke/MethodHandle" ∧ y.cls ≠ "java/lang/invoke/VarHandle" ∧ (parseMethodDescriptor y.desc).map (fun d => d.parameters.length) = some n) ∧ (Cond.methodLink own index y ∈ za_ws ∨ ∃ host, Cond.methodLinkNest own index y host ∈ lw_tbl)
def za_mV (own : String) (index : Nat) (y : MethodName) (bytes : ByteArray) (maxL : Nat) (ret : Option FieldType) (n ci : Nat) : Prop := za_mb own index y bytes maxL ret n ∧ Cond.instanceMethod y ∈ za_ws ∧ Cond.selects y.cls y y ∈ za_ws ∧ ∃ (T : u_T) (N : Nat), vwCl[ci]? = some (y.cls, T, N)
def za_mS (own : String) (index : Nat) (y : MethodName) (bytes : ByteArray) (maxL : Nat) (ret : Option FieldType) (n : Nat) : Prop := za_mb own index y bytes maxL ret n ∧ Cond.static y ∈ za_ws
def za_mI (own : String) (index : Nat) (y : MethodName) (bytes : ByteArray) (maxL : Nat) (n : Nat) : Prop := za_mb own index y bytes maxL none n ∧ y.name = "<init>" ∧ Cond.instanceMethod y ∈ za_ws
def za_wy (y : MethodName) (bytes : ByteArray) (maxL : Nat) (ret : Option FieldType) : List Cond := Cond.code y bytes maxL ret :: za_ws
def za_Pc (D : va_G) (ca : Nat → ClassId) (n0 : Nat) (As : List Value) (σ : za_h) : Array Value → State → Prop := va_Pc As (fun U => za_R D ca n0 σ U.heap ∧ za_K D ca U)
def za_Qi (D : va_G) (ca : Nat → ClassId) (n0 : Nat) (r : Int32) (σ : za_h) : Array Value → State → Outcome → State → Prop := va_Qi (S := Unit) (fun x _ => x = r) (fun _ t => za_R D ca n0 σ t.heap) (za_A n0)
def za_Qv (D : va_G) (ca : Nat → ClassId) (n0 : Nat) (_r : Unit) (σ : za_h) : Array Value → State → Outcome → State → Prop := va_Qv (S := Unit) (fun _ => True) (fun _ t => za_R D ca n0 σ t.heap) (za_A n0)
def za_Qr (D : va_G) (ca : Nat → ClassId) (n0 : Nat) (r : Nat) (σ : za_h) : Array Value → State → Outcome → State → Prop := va_Qr (S := Unit) (fun _ => True) (fun _ a t => a = r ∧ za_R D ca n0 σ t.heap) (za_A n0)
section ZA
variable {p : Program} {l : Launch} {e : Env} {R : Room} {s : State} {m : MethodId} {args : Array Value} {below : List Frame} {meth : Method} {c : Code} {H : Heap} {locs : List Loc} {cells slots : Nat} {Q : State → Prop}
variable {cc : ByteArray} {pc : Nat} {ls : Array Slot} {rest : List Value} {D : va_G} {ca : Nat → ClassId} {n0 : Nat} {σ σ1 : za_h} {a : Nat} {own : String}
theorem za_get (hx : p.tables.exec = Jvm.exec) (hb : c.code = cc) (hts : ∀ w ∈ za_ws, w.before args s = true) (hown : s.vm.findClass own = some m.cls) (hK : za_K D ca s) (hI : za_I D ca n0 s σ H locs) {index ci k : Nat} {ty : FieldType} {fin : Bool} (fd : za_fd own index ci k ty fin) {v : Value} (hg : zg_f σ a ci k = some v) (hdg : decode cc pc = .ok (.getfield index, 3))
    (kk : W p l e R s m args below meth c H locs cells slots Q (F0 m (pc + 3) ls (v :: rest))) : W p l e R s m args below meth c H locs cells slots Q (F0 m pc ls (.ref a :: rest)) := by
  obtain ⟨fs, h1, h2⟩ := zg_f_s hg
  obtain ⟨C, T, N, tt, hc, hk, hin, hT1, hd, hty, hnm, hf, hl⟩ := fd
  have hP := hI.1.P h1
  have hsame : ∀ x, s.fieldFound? (T k).1 (T k).2.1 (T k).2.2.1 = some x → s.fieldFound? C (T k).2.1 (T k).2.2.1 = some x := fun x h => by rw [hT1] at h; exact h
  rcases hl with hl | ⟨host, hl⟩
  · exact va_get hx hb hts hin hown hK.1 hP 0 rfl hc k hk (hts _ hl) hsame h2 hdg kk
  · exact va_getN hx hb hts hin hown hK.1 hP 0 rfl hc k hk (va_Nw.use rfl (hK.2.1 _ hl rfl)) hsame h2 hdg kk
theorem za_geti (hx : p.tables.exec = Jvm.exec) (hb : c.code = cc) (hts : ∀ w ∈ za_ws, w.before args s = true) (hown : s.vm.findClass own = some m.cls) (hK : za_K D ca s) (hI : za_I D ca n0 s σ H locs) {index ci k : Nat} {ty : FieldType} {fin : Bool} (fd : za_fd own index ci k ty fin) {v : Int32} (hg : zg_i σ a ci k = some v) (hdg : decode cc pc = .ok (.getfield index, 3))
    (kk : W p l e R s m args below meth c H locs cells slots Q (F0 m (pc + 3) ls (.int v :: rest))) : W p l e R s m args below meth c H locs cells slots Q (F0 m pc ls (.ref a :: rest)) := za_get hx hb hts hown hK hI fd (zg_i_s hg) hdg kk
theorem za_getr (hx : p.tables.exec = Jvm.exec) (hb : c.code = cc) (hts : ∀ w ∈ za_ws, w.before args s = true) (hown : s.vm.findClass own = some m.cls) (hK : za_K D ca s) (hI : za_I D ca n0 s σ H locs) {index ci k : Nat} {ty : FieldType} {fin : Bool} (fd : za_fd own index ci k ty fin) {v : Nat} (hg : zg_r σ a ci k = some v) (hdg : decode cc pc = .ok (.getfield index, 3))
    (kk : W p l e R s m args below meth c H locs cells slots Q (F0 m (pc + 3) ls (.ref v :: rest))) : W p l e R s m args below meth c H locs cells slots Q (F0 m pc ls (.ref a :: rest)) := za_get hx hb hts hown hK hI fd (zg_r_s hg) hdg kk
theorem za_put (hx : p.tables.exec = Jvm.exec) (hb : c.code = cc) (hts : ∀ w ∈ za_ws, w.before args s = true) (hown : s.vm.findClass own = some m.cls) (hK : za_K D ca s) (hI : za_I D ca n0 s σ H locs) {index ci k : Nat} {ty : FieldType} (fd : za_fd own index ci k ty false) {v : Value} (hg : zp_f σ a ci k v = some σ1) (hn : narrow ty v = v) (hfit : fits ty v = true) (hdg : decode cc pc = .ok (.putfield index, 3))
    (kk : ∀ (H1 : Heap) (locs1 : List Loc), za_I D ca n0 s σ1 H1 locs1 → W p l e R s m args below meth c H1 locs1 cells slots Q (F0 m (pc + 3) ls rest)) : W p l e R s m args below meth c H locs cells slots Q (F0 m pc ls (v :: .ref a :: rest)) := by
  obtain ⟨fs, h1, hlen, rfl⟩ := zp_f_s hg
  obtain ⟨C, T, N, tt, hc, hk, hin, hT1, hd, hty, hnm, hf, hl⟩ := fd
  have hap := va_apart (own := own) hts hin tt hty hnm hK.1 hc
  obtain ⟨hA1, hat⟩ := hI.1.2.2 a _ h1
  obtain ⟨r, hr0, cell, q1, q2, q3, q4⟩ := hat
  have hr : r = (C, T, N) := Option.some.inj (hr0.symm.trans hc)
  subst hr
  obtain ⟨hS, hfc, kC, hkC, hkind⟩ := hK.1.1 ci _ hc
  obtain ⟨cf, kf, fi, f, hi, hsl⟩ := hS k hk
  have hlay := hts _ (hin _ (u_in_lay hk))
  unfold u_lay at hlay
  rw [if_neg (by rw [hf]; decide)] at hlay
  have hst := (u_facts hfc hkC (u_lays hts hin hk) hi).1
  have h6 := u_store hfc hkC hkind hlay hi hd hn hfit
  have hi2 : s.fieldFound? C (T k).2.1 (T k).2.2.1 = some (cf, kf, fi, f) := by rw [hT1] at hi; exact hi
  have fin : ∀ H' : Heap, H'[a]? = some (cell.setSlot f.slot v) → H'.size = H.size → (∀ q, q ≠ a → H'[q]? = H[q]?) → W p l e R s m args below meth c H' (locs ++ [⟨a, f.slot⟩]) cells slots Q (F0 m (pc + 3) ls rest) := by
    intro H' e1 e2 e3
    rw [hsl] at e1 ⊢
    exact kk H' _ ⟨hI.1.set (x := .inr (ci, fs.set k v)) h1 e2 ⟨_, hc, t_OB.to (V := updV (vp_V fs) k v) ⟨_, e1, q2, q3, t_set q4 hap hk v⟩ (fun j _ => vp_updV_set hlen v j)⟩ e3, hI.2.put e2 e3 hA1⟩
  rcases hl with hl | ⟨host, hl⟩
  · exact W.putK hx hb (f := f) ⟨hown, hts _ hl, ⟨_, _, _, hi2⟩, hst⟩ (by rw [q2]; exact h6) q1 q3 (by rw [hsl]; exact k2_hasslot (q4 k hk)) rfl rfl hdg fin
  · exact va_WputK hx hb (f := f) hown (va_Nw.use rfl (hK.2.1 _ hl rfl)) hi2 hst (by rw [q2]; exact h6) q1 q3 (by rw [hsl]; exact k2_hasslot (q4 k hk)) rfl rfl hdg fin
theorem za_putF (hx : p.tables.exec = Jvm.exec) (hb : c.code = cc) (hts : ∀ w ∈ za_ws, w.before args s = true) (hown : s.vm.findClass own = some m.cls) (hnm0 : meth.name = "<init>") (hK : za_K D ca s) (hI : za_I D ca n0 s σ H locs) {index ci k : Nat} {ty : FieldType} (fd : za_ff own index ci k ty) {v : Value} (hg : zp_f σ a ci k v = some σ1) (hn : narrow ty v = v) (hfit : fits ty v = true) (hdg : decode cc pc = .ok (.putfield index, 3))
    (kk : ∀ (H1 : Heap) (locs1 : List Loc), za_I D ca n0 s σ1 H1 locs1 → W p l e R s m args below meth c H1 locs1 cells slots Q (F0 m (pc + 3) ls rest)) : W p l e R s m args below meth c H locs cells slots Q (F0 m pc ls (v :: .ref a :: rest)) := by
  obtain ⟨fs, h1, hlen, rfl⟩ := zp_f_s hg
  obtain ⟨T, N, tt, hc, hk, hin, hT1, hd, hty, hnm, hf, hl⟩ := fd
  have hap := va_apart (own := own) hts hin tt hty hnm hK.1 hc
  obtain ⟨hA1, hat⟩ := hI.1.2.2 a _ h1
  obtain ⟨r, hr0, cell, q1, q2, q3, q4⟩ := hat
  have hr : r = (own, T, N) := Option.some.inj (hr0.symm.trans hc)
  subst hr
  obtain ⟨hS, hfc, kC, hkC, hkind⟩ := hK.1.1 ci _ hc
  obtain ⟨cf, kf, fi, f, hi, hsl⟩ := hS k hk
  have hlay := hts _ (hin _ (u_in_lay hk))
  unfold u_lay at hlay
  rw [if_pos hf] at hlay
  have hst := (u_facts hfc hkC (u_lays hts hin hk) hi).1
  have hcf : m.cls = cf := by
    obtain ⟨_, _, c', _, _, _, -, -, hf', -, -, -, hown2, -⟩ := Cond.laysFinal_spec hlay
    have e1 : c' = cf := by have := hi.symm.trans hf'; simp at this; exact this.1.symm
    rw [hT1] at hown2
    rw [← e1]; exact Option.some.inj (hown.symm.trans hown2)
  have h6 := u_fits hfc hkC hkind (Or.inr hlay) hi hd hn hfit
  have hi2 : s.fieldFound? own (T k).2.1 (T k).2.2.1 = some (cf, kf, fi, f) := by rw [hT1] at hi; exact hi
  refine W.putFinK hx hb hown (hts _ hl) hi2 hst hcf hnm0 (by rw [q2]; exact h6) q1 q3 (by rw [hsl]; exact k2_hasslot (q4 k hk)) rfl rfl hdg fun H' e1 e2 e3 => ?_
  rw [hsl] at e1 ⊢
  exact kk H' _ ⟨hI.1.set (x := .inr (ci, fs.set k v)) h1 e2 ⟨_, hc, t_OB.to (V := updV (vp_V fs) k v) ⟨_, e1, q2, q3, t_set q4 hap hk v⟩ (fun j _ => vp_updV_set hlen v j)⟩ e3, hI.2.put e2 e3 hA1⟩
theorem za_new (hx : p.tables.exec = Jvm.exec) (hb : c.code = cc) (hts : ∀ w ∈ za_ws, w.before args s = true) (hown : s.vm.findClass own = some m.cls) (hK : za_K D ca s) (hI : za_I D ca n0 s σ H locs) {index ci N : Nat} {fs : List Value} (nd : za_nd own index ci fs N) (hcells : cells + 1 ≤ R.cells) (hslots : slots + N ≤ R.slots) (hdg : decode cc pc = .ok (.new index, 3))
    (kk : ∀ H1 : Heap, za_I D ca n0 s (za_n σ (.inr (ci, fs))) H1 locs → W p l e R s m args below meth c H1 locs (cells + 1) (slots + N) Q (F0 m (pc + 3) ls (.ref σ.2 :: rest))) : W p l e R s m args below meth c H locs cells slots Q (F0 m pc ls rest) := by
  obtain ⟨C, T, tt, hc, hin, hty, h1, h2, h3, hfs⟩ := nd
  have hKn := hK.1.1 ci _ hc
  refine W.newcK hx hb hown (hts _ h1) (hts _ h2) (hts _ h3) rfl hdg hcells hslots hKn.2.1 rfl fun H1 kC hkC e1 z1 o1 => ?_
  rw [hI.1.1]
  exact kk H1 ⟨hI.1.new z1 ⟨_, hc, (u_born tt hts hin hKn hkC e1 hty).to hfs⟩ o1, za_S.new hI.2 z1 o1⟩
theorem za_newa (hx : p.tables.exec = Jvm.exec) (hb : c.code = cc) (hts : ∀ w ∈ za_ws, w.before args s = true) (hK : za_K D ca s) (hI : za_I D ca n0 s σ H locs) {atype : ArrayType} {ty : FieldType} (t : Nat) (hty : newarray.typeOf atype = ty) (htt : za_tys[t]? = some ty) (hty2 : ty = .int ∨ ty = .boolean) (hw : Cond.arrayClass ty ∈ za_ws) {n : Int32} {N : Nat} (hn : ¬ n < 0) (hN : n.toNatClampNeg = N) (hby : N * 4 ≤ 536870912) (hcells : cells + 1 ≤ R.cells) (hslots : slots + N ≤ R.slots) (hdg : decode cc pc = .ok (.newarray atype, 2))
    (kk : ∀ H1 : Heap, za_I D ca n0 s (za_n σ (.inl (t, N, .inl (fun _ => 0)))) H1 locs → W p l e R s m args below meth c H1 locs (cells + 1) (slots + N) Q (F0 m (pc + 2) ls (.ref σ.2 :: rest))) : W p l e R s m args below meth c H locs cells slots Q (F0 m pc ls (.int n :: rest)) := by
  subst hty
  refine va_newaK hx hb (hts _ hw) rfl hdg rfl hn hN (by rcases hty2 with h | h <;> rw [h] <;> simp [componentBytes] <;> omega) hcells hslots rfl fun H1 cA e1 z1 o1 hAr hNm => ?_
  have hra := (hK.1.2 t _ (za_T_at htt)).2
  have hcA : cA = ca t := by
    rcases hty2 with h | h <;> rw [h] at hra hNm <;> exact Option.some.inj (hNm.symm.trans hra)
  subst hcA
  rw [hI.1.1]
  refine kk H1 ⟨hI.1.new z1 ?_ o1, za_S.new hI.2 z1 o1⟩
  show H1[H.size]? = some (vp_cell _ _)
  rw [e1, vp_cell_i]
  rcases hty2 with h | h <;> rw [h] <;> rfl
theorem za_newq (hx : p.tables.exec = Jvm.exec) (hb : c.code = cc) (hts : ∀ w ∈ za_ws, w.before args s = true) (hown : s.vm.findClass own = some m.cls) (hK : za_K D ca s) (hI : za_I D ca n0 s σ H locs) {index : Nat} {C : String} (t : Nat) (htt : za_tys[t]? = some (.object C)) (hw : Cond.classLink own index C ∈ za_ws) {n : Int32} {N : Nat} (hn : ¬ n < 0) (hN : n.toNatClampNeg = N) (hby : N * 4 ≤ 536870912) (hcells : cells + 1 ≤ R.cells) (hslots : slots + N ≤ R.slots) (hdg : decode cc pc = .ok (.anewarray index, 3))
    (kk : ∀ H1 : Heap, za_I D ca n0 s (za_n σ (.inl (t, N, .inr (fun _ => none)))) H1 locs → W p l e R s m args below meth c H1 locs (cells + 1) (slots + N) Q (F0 m (pc + 3) ls (.ref σ.2 :: rest))) : W p l e R s m args below meth c H locs cells slots Q (F0 m pc ls (.int n :: rest)) := by
  subst hN
  refine W.anew hx hb hown (hts _ hw) (va_AO.use (hK.2.2 t C htt)) rfl hdg rfl hn hby hcells hslots fun cA kA comp f1 f2 f3 f4 => ?_
  generalize hH1 : H.push ({ cls := cA, slots := Array.replicate n.toNatClampNeg .null, vm := .none } : Cell) = H1
  have z1 : H1.size = H.size + 1 := by rw [← hH1, Array.size_push]
  have e1 : H1[H.size]? = some (arrV cA n.toNatClampNeg (fun _ => .null)) := by rw [← hH1, Array.getElem?_push_size, ← arrV_new]
  have o1 : ∀ q : Nat, q < H.size → H1[q]? = H[q]? := fun q hq => by rw [← hH1, Array.getElem?_push, if_neg (Nat.ne_of_lt hq)]
  obtain ⟨_, _, -, -, -, hra⟩ := (hK.1.2 t _ (za_T_at htt)).2
  have hcA : cA = ca t := Option.some.inj (f1.symm.trans hra)
  subst hcA
  show W p l e R s m args below meth c H1 locs (cells + 1) (slots + n.toNatClampNeg) Q (F0 m (pc + 3) ls (.ref H.size :: rest))
  rw [hI.1.1]
  refine kk H1 ⟨hI.1.new z1 ?_ o1, za_S.new hI.2 z1 o1⟩
  show H1[H.size]? = some (vp_cell _ _)
  rw [e1, vp_cell_q]
  rfl
theorem za_iald (hx : p.tables.exec = Jvm.exec) (hb : c.code = cc) (hK : za_K D ca s) (hI : za_I D ca n0 s σ H locs) {i x : Int32} (hg : za_ld σ a 0 i = some x) (hdg : decode cc pc = .ok (.iaload, 1))
    (kk : W p l e R s m args below meth c H locs cells slots Q (F0 m (pc + 1) ls (.int x :: rest))) : W p l e R s m args below meth c H locs cells slots Q (F0 m pc ls (.int i :: .ref a :: rest)) := by
  obtain ⟨n, f, h1, h2, rfl⟩ := za_ld_s hg
  exact va_iald hx hb hK.1 (hI.1.P h1) 0 0 rfl (za_T_at rfl) h2 hdg kk
theorem za_zald (hx : p.tables.exec = Jvm.exec) (hb : c.code = cc) (hK : za_K D ca s) (hI : za_I D ca n0 s σ H locs) {i x : Int32} (hg : za_ld σ a 1 i = some x) (hdg : decode cc pc = .ok (.baload, 1))
    (kk : W p l e R s m args below meth c H locs cells slots Q (F0 m (pc + 1) ls (.int x :: rest))) : W p l e R s m args below meth c H locs cells slots Q (F0 m pc ls (.int i :: .ref a :: rest)) := by
  obtain ⟨n, f, h1, h2, rfl⟩ := za_ld_s hg
  exact va_zald hx hb hK.1 (hI.1.P h1) 0 1 rfl (za_T_at rfl) h2 hdg kk
theorem za_upd {cA : ClassId} {n i : Nat} {f : Nat → Int32} {x : Int32} {H1 : Heap} {a : Nat} (e : H1[a]? = some ((arrV cA n (fun j => .int (f j))).setSlot i (.int x))) : H1[a]? = some (vp_cell cA (n, .inl (upd f i x))) := by
  rw [e, vp_cell_i, arrV_store]
  congr 2
  funext q
  by_cases hq : q = i
  · subst hq
    simp [updV, upd]
  · simp [updV, upd, hq]
theorem za_iast (hx : p.tables.exec = Jvm.exec) (hb : c.code = cc) (hK : za_K D ca s) (hI : za_I D ca n0 s σ H locs) {i x : Int32} (hg : za_st σ a 0 i x = some σ1) (hdg : decode cc pc = .ok (.iastore, 1))
    (kk : ∀ (H1 : Heap) (locs1 : List Loc), za_I D ca n0 s σ1 H1 locs1 → W p l e R s m args below meth c H1 locs1 cells slots Q (F0 m (pc + 1) ls rest)) : W p l e R s m args below meth c H locs cells slots Q (F0 m pc ls (.int x :: .int i :: .ref a :: rest)) := by
  obtain ⟨n, f, h1, h2, rfl⟩ := za_st_s hg
  obtain ⟨hA1, hat⟩ := hI.1.2.2 a _ h1
  refine W.iast hx hb hat ((hK.1.2 0 _ (za_T_at rfl)).1 n (fun j => .int (f j))) (fun q => by cases q) (by show ¬ (i < 0 ∨ (arrV _ _ _).slots.size ≤ _); rw [arrV_size]; exact h2) rfl rfl hdg fun H1 e z oq => ?_
  exact kk H1 _ ⟨hI.1.set (x := .inl (0, n, .inl (upd f i.toNatClampNeg x))) h1 z (za_upd e) oq, hI.2.put z oq hA1⟩
theorem za_zast (hx : p.tables.exec = Jvm.exec) (hb : c.code = cc) (hK : za_K D ca s) (hI : za_I D ca n0 s σ H locs) {i x : Int32} (hg : za_st σ a 1 i (vp_nar .boolean x) = some σ1) (hdg : decode cc pc = .ok (.bastore, 1))
    (kk : ∀ (H1 : Heap) (locs1 : List Loc), za_I D ca n0 s σ1 H1 locs1 → W p l e R s m args below meth c H1 locs1 cells slots Q (F0 m (pc + 1) ls rest)) : W p l e R s m args below meth c H locs cells slots Q (F0 m pc ls (.int x :: .int i :: .ref a :: rest)) := by
  obtain ⟨n, f, h1, h2, rfl⟩ := za_st_s hg
  obtain ⟨hA1, hat⟩ := hI.1.2.2 a _ h1
  refine W.zast hx hb hat ((hK.1.2 1 _ (za_T_at rfl)).1 n (fun j => .int (f j))) (fun q => by cases q) (by show ¬ (i < 0 ∨ (arrV _ _ _).slots.size ≤ _); rw [arrV_size]; exact h2) rfl rfl hdg fun H1 e z oq => ?_
  refine kk H1 _ ⟨hI.1.set (x := .inl (1, n, .inl (upd f i.toNatClampNeg (vp_nar .boolean x)))) h1 z (za_upd (x := vp_nar .boolean x) ?_) oq, hI.2.put z oq hA1⟩
  exact e
theorem za_aald (hx : p.tables.exec = Jvm.exec) (hb : c.code = cc) (hK : za_K D ca s) (hI : za_I D ca n0 s σ H locs) {t : Nat} {C : String} (htt : za_tys[t]? = some (.object C)) {i : Int32} {x : Option Nat} (hg : za_lq σ a t i = some x) (hdg : decode cc pc = .ok (.aaload, 1))
    (kk : W p l e R s m args below meth c H locs cells slots Q (F0 m (pc + 1) ls (va_rf x :: rest))) : W p l e R s m args below meth c H locs cells slots Q (F0 m pc ls (.int i :: .ref a :: rest)) := by
  obtain ⟨n, f, h1, h2, rfl⟩ := za_lq_s hg
  exact va_aldq hx hb hK.1 (hI.1.P h1) 0 t rfl (za_T_at htt) h2 hdg kk
theorem za_aaln (hx : p.tables.exec = Jvm.exec) (hb : c.code = cc) (hK : za_K D ca s) (hI : za_I D ca n0 s σ H locs) {t : Nat} {C : String} (htt : za_tys[t]? = some (.object C)) {i : Int32} {x : Nat} (hg : za_ln σ a t i = some x) (hdg : decode cc pc = .ok (.aaload, 1))
    (kk : W p l e R s m args below meth c H locs cells slots Q (F0 m (pc + 1) ls (.ref x :: rest))) : W p l e R s m args below meth c H locs cells slots Q (F0 m pc ls (.int i :: .ref a :: rest)) := za_aald hx hb hK hI htt (za_ln_s hg) hdg kk
theorem za_upq {cA : ClassId} {n i : Nat} {f : Nat → Option Nat} {o : Option Nat} {H1 : Heap} {a : Nat} (e : H1[a]? = some ((arrV cA n (fun j => va_rf (f j))).setSlot i (va_rf o))) : H1[a]? = some (vp_cell cA (n, .inr (.inr (.inr (.inr (va_up f i o)))))) := by
  rw [e, vp_cell_q, arrV_store]
  congr 2
  funext q
  by_cases hq : q = i
  · subst hq
    simp [updV, va_up]
  · simp [updV, va_up, hq]
theorem za_aast (hx : p.tables.exec = Jvm.exec) (hb : c.code = cc) (hK : za_K D ca s) (hI : za_I D ca n0 s σ H locs) {t ci : Nat} {C : String} (htt : za_tys[t]? = some (.object C)) (hci : ∃ (T : u_T) (N : Nat), vwCl[ci]? = some (C, T, N)) {i : Int32} {o : Option Nat} (hg : za_sq σ a t ci i o = some σ1) (hdg : decode cc pc = .ok (.aastore, 1))
    (kk : ∀ (H1 : Heap) (locs1 : List Loc), za_I D ca n0 s σ1 H1 locs1 → W p l e R s m args below meth c H1 locs1 cells slots Q (F0 m (pc + 1) ls rest)) : W p l e R s m args below meth c H locs cells slots Q (F0 m pc ls (va_rf o :: .int i :: .ref a :: rest)) := by
  obtain ⟨n, f, h1, h2, h3, rfl⟩ := za_sq_s hg
  obtain ⟨hA1, hat⟩ := hI.1.2.2 a _ h1
  cases o with
  | none =>
    refine va_WaastN (C := C) hx hb hat ((hK.1.2 t _ (za_T_at htt)).1 n (fun j => va_rf (f j))) (fun h => by cases h) (by show ¬ (i < 0 ∨ (arrV _ _ _).slots.size ≤ _); rw [arrV_size]; exact h2) rfl rfl hdg fun H1 e z oq => ?_
    exact kk H1 _ ⟨hI.1.set (x := .inl (t, n, .inr (va_up f i.toNatClampNeg none))) h1 z (za_upq (o := none) e) oq, hI.2.put z oq hA1⟩
  | some v =>
    obtain ⟨fs, hv⟩ := h3 v rfl
    obtain ⟨T, N, hci⟩ := hci
    have hlt : i.toNatClampNeg < n := Nat.not_le.mp fun q => h2 (Or.inr q)
    have h0 : ¬ i < 0 := fun q => h2 (Or.inl q)
    obtain ⟨r', hr', cellV, g1, g2, g3, -⟩ := (hI.1.2.2 v _ hv).2
    have hcls := (hK.1.1 ci _ hci).2
    obtain ⟨kA, comp, k1, k2, k3, -⟩ := (hK.1.2 t _ (za_T_at htt)).2
    have hcomp : comp = D.1 ci := Option.some.inj (k3.symm.trans hcls.1)
    subst hcomp
    obtain ⟨kC, hkC, -⟩ := hcls.2
    refine W.aast hx hb hat (fun q h => by cases h) (fun h => by cases h) k1 k2 rfl hkC ⟨h0, by show _ < (arrV _ _ _).slots.size; rw [arrV_size]; exact hlt⟩ g1 (fun q h => by rw [g3] at h; cases h) (by rw [g2]; exact hkC) (by rw [g2]; exact va_assign hcls) rfl rfl hdg fun H1 e z oq => ?_
    exact kk H1 _ ⟨hI.1.set (x := .inl (t, n, .inr (va_up f i.toNatClampNeg (some v)))) h1 z (za_upq (o := some v) e) oq, hI.2.put z oq hA1⟩
/-- a reference that may be null, from and to a local -/
theorem za_aload_n (hx : p.tables.exec = Jvm.exec) (hb : c.code = cc) {k : Fin 4} {i : Nat} {o : Option Nat} (hdg : decode cc pc = .ok (.aload_n k, 1)) (hi : (k : Nat) = i) (hl : ls[i]? = some (.val (va_rf o)))
    (kk : W p l e R s m args below meth c H locs cells slots Q (F0 m (pc + 1) ls (va_rf o :: rest))) : W p l e R s m args below meth c H locs cells slots Q (F0 m pc ls rest) := by
  cases o with
  | none => exact lv_aload_nN hx hb hdg hi hl kk
  | some x => exact lv_aload_n hx hb hdg hi hl kk
theorem za_aload (hx : p.tables.exec = Jvm.exec) (hb : c.code = cc) {i : Nat} {o : Option Nat} (hdg : decode cc pc = .ok (.aload i, 2)) (hl : ls[i]? = some (.val (va_rf o)))
    (kk : W p l e R s m args below meth c H locs cells slots Q (F0 m (pc + 2) ls (va_rf o :: rest))) : W p l e R s m args below meth c H locs cells slots Q (F0 m pc ls rest) := by
  cases o with
  | none => exact lv_aloadN hx hb hdg hl kk
  | some x => exact lv_aload hx hb hdg hl kk
theorem za_astore_n (hx : p.tables.exec = Jvm.exec) (hb : c.code = cc) {k : Fin 4} {i nL : Nat} {o : Option Nat} {lv lv' : List (Nat × Value)} (hdg : decode cc pc = .ok (.astore_n k, 1)) (hi : (k : Nat) = i) (h : lv_has ls nL lv) (hn : i < nL) (hl : (i, va_rf o) :: lv.filter (fun q => !(q.1 == i) && !(q.1 + 1 == i && q.2.category == 2)) = lv')
    (kk : ∀ ls' : Array Slot, lv_has ls' nL lv' → W p l e R s m args below meth c H locs cells slots Q (F0 m (pc + 1) ls' rest)) : W p l e R s m args below meth c H locs cells slots Q (F0 m pc ls (va_rf o :: rest)) := by
  cases o with
  | none => exact lv_astore_nN hx hb hdg hi h hn hl kk
  | some x => exact lv_astore_n hx hb hdg hi h hn hl kk
theorem za_astore (hx : p.tables.exec = Jvm.exec) (hb : c.code = cc) {i nL : Nat} {o : Option Nat} {lv lv' : List (Nat × Value)} (hdg : decode cc pc = .ok (.astore i, 2)) (h : lv_has ls nL lv) (hn : i < nL) (hl : (i, va_rf o) :: lv.filter (fun q => !(q.1 == i) && !(q.1 + 1 == i && q.2.category == 2)) = lv')
    (kk : ∀ ls' : Array Slot, lv_has ls' nL lv' → W p l e R s m args below meth c H locs cells slots Q (F0 m (pc + 2) ls' rest)) : W p l e R s m args below meth c H locs cells slots Q (F0 m pc ls (va_rf o :: rest)) := by
  cases o with
  | none => exact lv_astoreN hx hb hdg h hn hl kk
  | some x => exact lv_astore hx hb hdg h hn hl kk
theorem za_ifnull (hx : p.tables.exec = Jvm.exec) (hb : c.code = cc) {o : Option Nat} {off : Int} {tgt : Nat} (hdg : decode cc pc = .ok (.ifnull off, 3)) (ht : (pc : Int) + off = (tgt : Int))
    (kt : o = none → W p l e R s m args below meth c H locs cells slots Q (F0 m tgt ls rest)) (kf : ∀ x, o = some x → W p l e R s m args below meth c H locs cells slots Q (F0 m (pc + 3) ls rest)) : W p l e R s m args below meth c H locs cells slots Q (F0 m pc ls (va_rf o :: rest)) := by
  cases o with
  | none => exact lv_ifnullN hx hb hdg ht (kt rfl)
  | some x => exact lv_ifnull hx hb hdg (kf x rfl)
theorem za_ifnonnull (hx : p.tables.exec = Jvm.exec) (hb : c.code = cc) {o : Option Nat} {off : Int} {tgt : Nat} (hdg : decode cc pc = .ok (.ifnonnull off, 3)) (ht : (pc : Int) + off = (tgt : Int))
    (kt : ∀ x, o = some x → W p l e R s m args below meth c H locs cells slots Q (F0 m tgt ls rest)) (kf : o = none → W p l e R s m args below meth c H locs cells slots Q (F0 m (pc + 3) ls rest)) : W p l e R s m args below meth c H locs cells slots Q (F0 m pc ls (va_rf o :: rest)) := by
  cases o with
  | none => exact lv_ifnonnullN hx hb hdg (kf rfl)
  | some x => exact lv_ifnonnull hx hb hdg ht (kt x rfl)
/-- ends -/
theorem za_iret {r v : Int32} {mc ms : Nat} {σ' : za_h} (hx : p.tables.exec = Jvm.exec) (hb : c.code = cc) (hr : meth.sig.returnType = some .int) (hlk : meth.locks = false) (hI : za_I D ca n0 s σ H locs) (h : some (v, σ) = some (r, σ')) (hc : cells ≤ mc) (hs : slots ≤ ms) (hdg : decode cc pc = .ok (.ireturn, 1)) : W p l e R s m args below meth c H locs cells slots (MQ below (za_Qi D ca n0 r σ') args s mc ms (za_A n0)) (F0 m pc ls [.int v]) := by
  cases h
  refine W.widen hc hs (W.iret hx hb hr (fun t ht hW => ⟨⟨_, (), rfl, rfl, ?_⟩, hI.2.F ht⟩) hI.2.2.2 hdg hlk)
  show za_R D ca n0 _ t.heap
  rw [ht]; exact hI.1
theorem za_zret {r v : Int32} {mc ms : Nat} {σ' : za_h} (hx : p.tables.exec = Jvm.exec) (hb : c.code = cc) (hr : meth.sig.returnType = some .boolean) (hlk : meth.locks = false) (hI : za_I D ca n0 s σ H locs) (hv : v = 0 ∨ v = 1) (h : some (v, σ) = some (r, σ')) (hc : cells ≤ mc) (hs : slots ≤ ms) (hdg : decode cc pc = .ok (.ireturn, 1)) : W p l e R s m args below meth c H locs cells slots (MQ below (za_Qi D ca n0 r σ') args s mc ms (za_A n0)) (F0 m pc ls [.int v]) := by
  cases h
  refine W.widen hc hs (W.zret hx hb hr (by rcases hv with rfl | rfl <;> decide +kernel) (fun t ht hW => ⟨⟨_, (), rfl, rfl, ?_⟩, hI.2.F ht⟩) hI.2.2.2 hdg hlk)
  show za_R D ca n0 _ t.heap
  rw [ht]; exact hI.1
theorem za_vret {r : Unit} {mc ms : Nat} {σ' : za_h} (hx : p.tables.exec = Jvm.exec) (hb : c.code = cc) (hr : meth.sig.returnType = none) (hlk : meth.locks = false) (hI : za_I D ca n0 s σ H locs) (h : some ((), σ) = some (r, σ')) (hc : cells ≤ mc) (hs : slots ≤ ms) (hdg : decode cc pc = .ok (.return_, 1)) : W p l e R s m args below meth c H locs cells slots (MQ below (za_Qv D ca n0 r σ') args s mc ms (za_A n0)) (F0 m pc ls []) := by
  cases h
  refine W.widen hc hs (W.vret hx hb hr (fun t ht hW => ⟨⟨(), rfl, trivial, ?_⟩, hI.2.F ht⟩) hI.2.2.2 hdg hlk)
  show za_R D ca n0 _ t.heap
  rw [ht]; exact hI.1
theorem za_aret {r v : Nat} {mc ms : Nat} {σ' : za_h} {rt : FieldType} (hx : p.tables.exec = Jvm.exec) (hb : c.code = cc) (hr : meth.sig.returnType = some rt) (hrt : (∃ n, rt = .object n) ∨ ∃ t, rt = .array t) (hlk : meth.locks = false) (hI : za_I D ca n0 s σ H locs) (h : some (v, σ) = some (r, σ')) (hc : cells ≤ mc) (hs : slots ≤ ms) (hdg : decode cc pc = .ok (.areturn, 1)) : W p l e R s m args below meth c H locs cells slots (MQ below (za_Qr D ca n0 r σ') args s mc ms (za_A n0)) (F0 m pc ls [.ref v]) := by
  cases h
  refine W.widen hc hs (W.aret hx hb hr hrt (Or.inr ⟨_, rfl⟩) (fun t ht hW => ⟨⟨(), _, rfl, trivial, rfl, ?_⟩, hI.2.F ht⟩) hI.2.2.2 hdg hlk)
  show za_R D ca n0 _ t.heap
  rw [ht]; exact hI.1
/-- calls -/
theorem za_blind {As : List Value} : FrameBlind (za_Pc D ca n0 As σ) := by
  intro x U g mk h
  exact ⟨h.1, h.2.1, h.2.2.same rfl⟩
theorem za_runV {y : MethodName} {bytes : ByteArray} {maxL nL mc ms n index ci b : Nat} {ret : Option FieldType} {rm : Room} {Qc : Array Value → State → Outcome → State → Prop} {As : List Value} {st0 : List Value} (hx : p.tables.exec = Jvm.exec) (hb : c.code = cc) (hml : c.maxLocals = nL) (hown : s.vm.findClass own = some m.cls) (hts : ∀ w ∈ za_ws, w.before args s = true) (hK : za_K D ca s) (hI : za_I D ca n0 s σ H locs) (hg : zg_c σ b ci = some ())
    (hM : Met l y (za_wy y bytes maxL ret) rm (za_Pc D ca n0 (.ref b :: As) σ) Qc mc ms (za_A n0)) (md : za_mV own index y bytes maxL ret n ci) (hrm : rm.cells = mc ∧ rm.slots = ms) (hR : rm.frames + 1 ≤ R.frames ∧ 8 + (maxL + 11) + rm.locals ≤ R.locals) (hn : As.length = n) (hsize : ls.size = nL) (hst : st0 = As.reverse ++ .ref b :: rest) (hW : (rest.map fun v => v.category).sum ≤ 8) (hdg : decode cc pc = .ok (.invokevirtual index, 3)) (hf : cells + mc ≤ R.cells ∧ slots + ms ≤ R.slots) :
    va_Run p l e R s m args below meth c H locs cells slots mc ms (F0 m pc ls st0) rest (Qc (Value.ref b :: As).toArray) (za_A n0) := by
  obtain ⟨⟨h1, h2, h3, h4⟩, h5, h6, T, N, hci⟩ := md
  obtain ⟨fs, hcell⟩ := zg_c_s hg
  have hrecv := va_recv (q0 := 0) (a := b) (fs := fs) hK.1 (hI.1.P hcell) hci rfl
  have hp : PreV s H y.cls b (za_Pc D ca n0 (.ref b :: As) σ) As := ⟨za_blind, hrecv, fun U hU hW => ⟨rfl, by rw [hU]; exact hI.1, hK.warm hW⟩⟩
  rcases h4 with h4 | ⟨host, h4⟩
  · exact va_runV ⟨hx, hb, hml, hown, hts⟩ hM ⟨callB_of n hts (za_good h1) rfl hrm.1 hrm.2 (hts _ h2) (hts _ h4) h3 hR, hts _ h5, hts _ h6⟩ hp rfl hn hsize hst (lv_room hW) hdg hf
  · exact va_runVN ⟨hx, hb, hml, hown, hts⟩ hM ⟨va_cnB n hts (za_good h1) rfl hrm.1 hrm.2 (hK.2.1 _ h4 rfl) (hts _ h2) h3 hR, hts _ h5, hts _ h6⟩ hp rfl hn hsize hst (lv_room hW) hdg hf
theorem za_runS {y : MethodName} {bytes : ByteArray} {maxL nL mc ms n index : Nat} {ret : Option FieldType} {rm : Room} {Qc : Array Value → State → Outcome → State → Prop} {As : List Value} {st0 : List Value} (hx : p.tables.exec = Jvm.exec) (hb : c.code = cc) (hml : c.maxLocals = nL) (hown : s.vm.findClass own = some m.cls) (hts : ∀ w ∈ za_ws, w.before args s = true) (hK : za_K D ca s) (hI : za_I D ca n0 s σ H locs)
    (hM : Met l y (za_wy y bytes maxL ret) rm (za_Pc D ca n0 As σ) Qc mc ms (za_A n0)) (md : za_mS own index y bytes maxL ret n) (hrm : rm.cells = mc ∧ rm.slots = ms) (hR : rm.frames + 1 ≤ R.frames ∧ 8 + (maxL + 11) + rm.locals ≤ R.locals) (hn : As.length = n) (hsize : ls.size = nL) (hst : st0 = As.reverse ++ rest) (hW : (rest.map fun v => v.category).sum ≤ 8) (hdg : decode cc pc = .ok (.invokestatic index, 3)) (hf : cells + mc ≤ R.cells ∧ slots + ms ≤ R.slots) :
    va_Run p l e R s m args below meth c H locs cells slots mc ms (F0 m pc ls st0) rest (Qc As.toArray) (za_A n0) := by
  obtain ⟨⟨h1, h2, h3, h4⟩, h5⟩ := md
  have hp : PreS s H (za_Pc D ca n0 As σ) As := ⟨za_blind, fun U hU hW => ⟨rfl, by rw [hU]; exact hI.1, hK.warm hW⟩⟩
  rcases h4 with h4 | ⟨host, h4⟩
  · exact va_runS ⟨hx, hb, hml, hown, hts⟩ hM ⟨callB_of n hts (za_good h1) rfl hrm.1 hrm.2 (hts _ h2) (hts _ h4) h3 hR, hts _ h5⟩ hp rfl hn hsize hst (lv_room hW) hdg hf
  · exact va_runSN ⟨hx, hb, hml, hown, hts⟩ hM ⟨va_cnB n hts (za_good h1) rfl hrm.1 hrm.2 (hK.2.1 _ h4 rfl) (hts _ h2) h3 hR, hts _ h5, trivial⟩ hp rfl hn hsize hst (lv_room hW) hdg hf
theorem za_runI {y : MethodName} {bytes : ByteArray} {maxL nL mc ms n index b : Nat} {rm : Room} {Qc : Array Value → State → Outcome → State → Prop} {As : List Value} {st0 : List Value} (hx : p.tables.exec = Jvm.exec) (hb : c.code = cc) (hml : c.maxLocals = nL) (hown : s.vm.findClass own = some m.cls) (hts : ∀ w ∈ za_ws, w.before args s = true) (hK : za_K D ca s) (hI : za_I D ca n0 s σ H locs)
    (hM : Met l y (za_wy y bytes maxL none) rm (za_Pc D ca n0 (.ref b :: As) σ) Qc mc ms (za_A n0)) (md : za_mI own index y bytes maxL n) (hrm : rm.cells = mc ∧ rm.slots = ms) (hR : rm.frames + 1 ≤ R.frames ∧ 8 + (maxL + 11) + rm.locals ≤ R.locals) (hn : As.length = n) (hsize : ls.size = nL) (hst : st0 = As.reverse ++ .ref b :: rest) (hW : (rest.map fun v => v.category).sum ≤ 8) (hdg : decode cc pc = .ok (.invokespecial index, 3)) (hf : cells + mc ≤ R.cells ∧ slots + ms ≤ R.slots) :
    va_Run p l e R s m args below meth c H locs cells slots mc ms (F0 m pc ls st0) rest (Qc (Value.ref b :: As).toArray) (za_A n0) := by
  obtain ⟨⟨h1, h2, h3, h4⟩, h5, h6⟩ := md
  have hp : PreS s H (za_Pc D ca n0 (.ref b :: As) σ) (.ref b :: As) := ⟨za_blind, fun U hU hW => ⟨rfl, by rw [hU]; exact hI.1, hK.warm hW⟩⟩
  rcases h4 with h4 | ⟨host, h4⟩
  · exact va_runI ⟨hx, hb, hml, hown, hts⟩ hM ⟨callB_of n hts (za_good h1) rfl hrm.1 hrm.2 (hts _ h2) (hts _ h4) h3 hR, h5, hts _ h6⟩ hp rfl hn hsize hst (lv_room hW) hdg hf
  · exact va_runIN ⟨hx, hb, hml, hown, hts⟩ hM ⟨va_cnB n hts (za_good h1) rfl hrm.1 hrm.2 (hK.2.1 _ h4 rfl) (hts _ h2) h3 hR, h5, hts _ h6⟩ hp rfl hn hsize hst (lv_room hW) hdg hf
theorem za_calli {r : Int32} {mc ms : Nat} {av : Array Value} {st0 : List Value} (hr : va_Run p l e R s m args below meth c H locs cells slots mc ms (F0 m pc ls st0) rest (za_Qi D ca n0 r σ1 av) (za_A n0)) (hI : za_I D ca n0 s σ H locs)
    (kk : ∀ (H1 : Heap) (locs1 : List Loc), za_I D ca n0 s σ1 H1 locs1 → W p l e R s m args below meth c H1 locs1 (cells + mc) (slots + ms) Q (F0 m (pc + 3) ls (.int r :: rest))) : W p l e R s m args below meth c H locs cells slots Q (F0 m pc ls st0) :=
  va_calli hr hI.2 (fun _ _ h => h) (fun _ h => h) (fun r' u t H1 locs1 ht _ hp hB _ _ hS => by
    have hp' : r' = r := hp
    subst hp'
    have hB' : za_R D ca n0 σ1 t.heap := hB
    rw [ht] at hB'
    exact kk H1 locs1 ⟨hB', hS⟩)
theorem za_callv {r : Unit} {mc ms : Nat} {av : Array Value} {st0 : List Value} (hr : va_Run p l e R s m args below meth c H locs cells slots mc ms (F0 m pc ls st0) rest (za_Qv D ca n0 r σ1 av) (za_A n0)) (hI : za_I D ca n0 s σ H locs)
    (kk : ∀ (H1 : Heap) (locs1 : List Loc), za_I D ca n0 s σ1 H1 locs1 → W p l e R s m args below meth c H1 locs1 (cells + mc) (slots + ms) Q (F0 m (pc + 3) ls rest)) : W p l e R s m args below meth c H locs cells slots Q (F0 m pc ls st0) :=
  va_callv hr hI.2 (fun _ _ h => h) (fun _ h => h) (fun u t H1 locs1 ht _ _ hB _ _ hS => by
    have hB' : za_R D ca n0 σ1 t.heap := hB
    rw [ht] at hB'
    exact kk H1 locs1 ⟨hB', hS⟩)
theorem za_callr {r : Nat} {mc ms : Nat} {av : Array Value} {st0 : List Value} (hr : va_Run p l e R s m args below meth c H locs cells slots mc ms (F0 m pc ls st0) rest (za_Qr D ca n0 r σ1 av) (za_A n0)) (hI : za_I D ca n0 s σ H locs)
    (kk : ∀ (H1 : Heap) (locs1 : List Loc), za_I D ca n0 s σ1 H1 locs1 → W p l e R s m args below meth c H1 locs1 (cells + mc) (slots + ms) Q (F0 m (pc + 3) ls (.ref r :: rest))) : W p l e R s m args below meth c H locs cells slots Q (F0 m pc ls st0) :=
  va_callr hr hI.2 (fun _ _ h => h) (fun _ h => h) (fun u ra t H1 locs1 ht _ _ hB _ _ hS => by
    obtain ⟨rfl, hB'⟩ : ra = r ∧ za_R D ca n0 σ1 t.heap := hB
    rw [ht] at hB'
    exact kk H1 locs1 ⟨hB', hS⟩)
end ZA
/-- a method's contract out of the walk of its body -/
theorem za_met {l : Launch} {y : MethodName} {bytes : ByteArray} {maxL mc ms n0 : Nat} {ret : Option FieldType} {rm : Room} {D : va_G} {ca : Nat → ClassId} {Qc : Array Value → State → Outcome → State → Prop} {As : List Value} {σ : za_h} (hy : plainName y.cls = true) (hlen : (lg_sl As).length ≤ maxL)
    (body : ∀ (p : Program) (e : Env) (s : State) (m : MethodId) (below : List Frame) (meth : Method) (c : Code) (ls : Array Slot), p.tables.exec = Jvm.exec → c.code = bytes → c.maxLocals = maxL → meth.sig.returnType = ret → meth.locks = false → (∀ w ∈ za_ws, w.before As.toArray s = true) → s.vm.findClass y.cls = some m.cls → meth.name = y.name → za_K D ca s → za_I D ca n0 s σ s.heap [] → lv_has ls maxL (lv_args 0 As) →
      W p l e rm s m As.toArray below meth c s.heap [] 0 0 (MQ below Qc As.toArray s mc ms (za_A n0)) (F0 m 0 ls [])) : Met l y (za_wy y bytes maxL ret) rm (za_Pc D ca n0 As σ) Qc mc ms (za_A n0) := by
  refine Met.ofW (cc := bytes) (maxL := maxL) (ret := ret) hy rfl ?_
  intro p e s m args below meth c s₁ B hml hv
  obtain ⟨rfl, hR0, hK⟩ := hv
  have hts := atoms_spec (ws := za_wy y bytes maxL ret) B.pre
  have hl := lv_entry As (n := maxL) hlen
  rw [lg_entry_eq]
  exact body p e s m below meth c _ B.exec B.bytes hml B.returns B.notSynchronized (fun w hw => hts w (List.mem_cons_of_mem _ hw)) (findClass_of_methodNamed B.named) (name_of_methodNamed B.named B.method).1 hK ⟨hR0, va_S.rf⟩ hl
end
