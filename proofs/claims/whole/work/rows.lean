section
-- ===== PART A: goes FIRST, ahead of the names: the tables' words, and 'selects' of the private methods out of them =====
/-- a private method of a class that the tables say can be made, by its rows of tables_1 -/
def lw_okq (q : MethodName × Nat) : Prop := (q.1.cls ≠ "java/lang/invoke/MethodHandle" ∧ q.1.cls ≠ "java/lang/invoke/VarHandle") ∧ Cond.instantiable q.1.cls q.2 ∈ tables_1 ∧ Cond.privateMethod q.1 ∈ tables_1 ∧ Cond.instanceMethod q.1 ∈ tables_1
theorem lw_p0 : lw_okq (⟨"TaskDesk", "keepValue", "(LTaskDesk$Value;)V"⟩, 18) := ⟨⟨by decide +kernel, by decide +kernel⟩, List.mem_of_getElem? (i := 19) (by decide +kernel), List.mem_of_getElem? (i := 269) (by decide +kernel), List.mem_of_getElem? (i := 270) (by decide +kernel)⟩
theorem lw_p1 : lw_okq (⟨"TaskDesk", "keepPlace", "(LTaskDesk$Place;)V"⟩, 18) := ⟨⟨by decide +kernel, by decide +kernel⟩, List.mem_of_getElem? (i := 19) (by decide +kernel), List.mem_of_getElem? (i := 273) (by decide +kernel), List.mem_of_getElem? (i := 274) (by decide +kernel)⟩
theorem lw_p2 : lw_okq (⟨"TaskDesk", "channelAt", "(I)LTaskDesk$Channel;"⟩, 18) := ⟨⟨by decide +kernel, by decide +kernel⟩, List.mem_of_getElem? (i := 19) (by decide +kernel), List.mem_of_getElem? (i := 344) (by decide +kernel), List.mem_of_getElem? (i := 345) (by decide +kernel)⟩
theorem lw_p3 : lw_okq (⟨"TaskDesk", "isTold", "(LTaskDesk$Channel;)Z"⟩, 18) := ⟨⟨by decide +kernel, by decide +kernel⟩, List.mem_of_getElem? (i := 19) (by decide +kernel), List.mem_of_getElem? (i := 352) (by decide +kernel), List.mem_of_getElem? (i := 353) (by decide +kernel)⟩
theorem lw_p4 : lw_okq (⟨"TaskDesk", "takeValue", "(LTaskDesk$Channel;)J"⟩, 18) := ⟨⟨by decide +kernel, by decide +kernel⟩, List.mem_of_getElem? (i := 19) (by decide +kernel), List.mem_of_getElem? (i := 356) (by decide +kernel), List.mem_of_getElem? (i := 357) (by decide +kernel)⟩
theorem lw_p5 : lw_okq (⟨"TaskDesk", "howItStands", "()I"⟩, 18) := ⟨⟨by decide +kernel, by decide +kernel⟩, List.mem_of_getElem? (i := 19) (by decide +kernel), List.mem_of_getElem? (i := 376) (by decide +kernel), List.mem_of_getElem? (i := 377) (by decide +kernel)⟩
theorem lw_p6 : lw_okq (⟨"TaskDesk", "mustBeCurrent", "()LTaskDesk$Task;"⟩, 18) := ⟨⟨by decide +kernel, by decide +kernel⟩, List.mem_of_getElem? (i := 19) (by decide +kernel), List.mem_of_getElem? (i := 388) (by decide +kernel), List.mem_of_getElem? (i := 389) (by decide +kernel)⟩
theorem lw_p7 : lw_okq (⟨"java/lang/Throwable", "fillInStackTrace", "(I)Ljava/lang/Throwable;"⟩, 6) := ⟨⟨by decide +kernel, by decide +kernel⟩, List.mem_of_getElem? (i := 431) (by decide +kernel), List.mem_of_getElem? (i := 429) (by decide +kernel), List.mem_of_getElem? (i := 430) (by decide +kernel)⟩
theorem lw_p8 : lw_okq (⟨"TaskDesk", "firstFreeTask", "()LTaskDesk$Task;"⟩, 18) := ⟨⟨by decide +kernel, by decide +kernel⟩, List.mem_of_getElem? (i := 19) (by decide +kernel), List.mem_of_getElem? (i := 461) (by decide +kernel), List.mem_of_getElem? (i := 462) (by decide +kernel)⟩
theorem lw_p9 : lw_okq (⟨"TaskDesk", "makeReady", "(LTaskDesk$Task;)V"⟩, 18) := ⟨⟨by decide +kernel, by decide +kernel⟩, List.mem_of_getElem? (i := 19) (by decide +kernel), List.mem_of_getElem? (i := 466) (by decide +kernel), List.mem_of_getElem? (i := 467) (by decide +kernel)⟩
theorem lw_p10 : lw_okq (⟨"TaskDesk", "goOn", "()V"⟩, 18) := ⟨⟨by decide +kernel, by decide +kernel⟩, List.mem_of_getElem? (i := 19) (by decide +kernel), List.mem_of_getElem? (i := 485) (by decide +kernel), List.mem_of_getElem? (i := 486) (by decide +kernel)⟩
theorem lw_p11 : lw_okq (⟨"TaskDesk", "ring", "(LTaskDesk$Timer;)V"⟩, 18) := ⟨⟨by decide +kernel, by decide +kernel⟩, List.mem_of_getElem? (i := 19) (by decide +kernel), List.mem_of_getElem? (i := 493) (by decide +kernel), List.mem_of_getElem? (i := 494) (by decide +kernel)⟩
theorem lw_p12 : lw_okq (⟨"TaskDesk", "takesAtOnce", "(LTaskDesk$Channel;)Z"⟩, 18) := ⟨⟨by decide +kernel, by decide +kernel⟩, List.mem_of_getElem? (i := 19) (by decide +kernel), List.mem_of_getElem? (i := 497) (by decide +kernel), List.mem_of_getElem? (i := 498) (by decide +kernel)⟩
theorem lw_p13 : lw_okq (⟨"TaskDesk", "pass", "(LTaskDesk$Channel;J)V"⟩, 18) := ⟨⟨by decide +kernel, by decide +kernel⟩, List.mem_of_getElem? (i := 19) (by decide +kernel), List.mem_of_getElem? (i := 501) (by decide +kernel), List.mem_of_getElem? (i := 502) (by decide +kernel)⟩
theorem lw_p14 : lw_okq (⟨"TaskDesk", "wake", "(LTaskDesk$Place;JZZ)V"⟩, 18) := ⟨⟨by decide +kernel, by decide +kernel⟩, List.mem_of_getElem? (i := 19) (by decide +kernel), List.mem_of_getElem? (i := 505) (by decide +kernel), List.mem_of_getElem? (i := 506) (by decide +kernel)⟩
theorem lw_p15 : lw_okq (⟨"TaskDesk", "takeOut", "(LTaskDesk$Task;)V"⟩, 18) := ⟨⟨by decide +kernel, by decide +kernel⟩, List.mem_of_getElem? (i := 19) (by decide +kernel), List.mem_of_getElem? (i := 510) (by decide +kernel), List.mem_of_getElem? (i := 511) (by decide +kernel)⟩
def lw_privs_1 : List (MethodName × Nat) := [(⟨"TaskDesk", "keepValue", "(LTaskDesk$Value;)V"⟩, 18), (⟨"TaskDesk", "keepPlace", "(LTaskDesk$Place;)V"⟩, 18), (⟨"TaskDesk", "channelAt", "(I)LTaskDesk$Channel;"⟩, 18), (⟨"TaskDesk", "isTold", "(LTaskDesk$Channel;)Z"⟩, 18), (⟨"TaskDesk", "takeValue", "(LTaskDesk$Channel;)J"⟩, 18), (⟨"TaskDesk", "howItStands", "()I"⟩, 18), (⟨"TaskDesk", "mustBeCurrent", "()LTaskDesk$Task;"⟩, 18), (⟨"java/lang/Throwable", "fillInStackTrace", "(I)Ljava/lang/Throwable;"⟩, 6), (⟨"TaskDesk", "firstFreeTask", "()LTaskDesk$Task;"⟩, 18), (⟨"TaskDesk", "makeReady", "(LTaskDesk$Task;)V"⟩, 18), (⟨"TaskDesk", "goOn", "()V"⟩, 18), (⟨"TaskDesk", "ring", "(LTaskDesk$Timer;)V"⟩, 18), (⟨"TaskDesk", "takesAtOnce", "(LTaskDesk$Channel;)Z"⟩, 18), (⟨"TaskDesk", "pass", "(LTaskDesk$Channel;J)V"⟩, 18), (⟨"TaskDesk", "wake", "(LTaskDesk$Place;JZZ)V"⟩, 18), (⟨"TaskDesk", "takeOut", "(LTaskDesk$Task;)V"⟩, 18)]
theorem lw_r1 : ∀ q ∈ lw_privs_1, lw_okq q := List.forall_mem_cons.mpr ⟨lw_p0, List.forall_mem_cons.mpr ⟨lw_p1, List.forall_mem_cons.mpr ⟨lw_p2, List.forall_mem_cons.mpr ⟨lw_p3, List.forall_mem_cons.mpr ⟨lw_p4, List.forall_mem_cons.mpr ⟨lw_p5, List.forall_mem_cons.mpr ⟨lw_p6, List.forall_mem_cons.mpr ⟨lw_p7, List.forall_mem_cons.mpr ⟨lw_p8, List.forall_mem_cons.mpr ⟨lw_p9, List.forall_mem_cons.mpr ⟨lw_p10, List.forall_mem_cons.mpr ⟨lw_p11, List.forall_mem_cons.mpr ⟨lw_p12, List.forall_mem_cons.mpr ⟨lw_p13, List.forall_mem_cons.mpr ⟨lw_p14, List.forall_mem_cons.mpr ⟨lw_p15, fun _ h => absurd h List.not_mem_nil⟩⟩⟩⟩⟩⟩⟩⟩⟩⟩⟩⟩⟩⟩⟩⟩
theorem lw_p16 : lw_okq (⟨"TaskDesk", "putValue", "(LTaskDesk$Channel;J)V"⟩, 18) := ⟨⟨by decide +kernel, by decide +kernel⟩, List.mem_of_getElem? (i := 19) (by decide +kernel), List.mem_of_getElem? (i := 518) (by decide +kernel), List.mem_of_getElem? (i := 519) (by decide +kernel)⟩
theorem lw_p17 : lw_okq (⟨"TaskDesk", "endAll", "()V"⟩, 18) := ⟨⟨by decide +kernel, by decide +kernel⟩, List.mem_of_getElem? (i := 19) (by decide +kernel), List.mem_of_getElem? (i := 534) (by decide +kernel), List.mem_of_getElem? (i := 535) (by decide +kernel)⟩
theorem lw_p18 : lw_okq (⟨"TaskDesk$Agenda", "lastNotAfter", "(J)LTaskDesk$Timer;"⟩, 2) := ⟨⟨by decide +kernel, by decide +kernel⟩, List.mem_of_getElem? (i := 51) (by decide +kernel), List.mem_of_getElem? (i := 567) (by decide +kernel), List.mem_of_getElem? (i := 568) (by decide +kernel)⟩
theorem lw_p19 : lw_okq (⟨"TaskDesk", "firstFreeChannel", "()LTaskDesk$Channel;"⟩, 18) := ⟨⟨by decide +kernel, by decide +kernel⟩, List.mem_of_getElem? (i := 19) (by decide +kernel), List.mem_of_getElem? (i := 579) (by decide +kernel), List.mem_of_getElem? (i := 580) (by decide +kernel)⟩
theorem lw_p20 : lw_okq (⟨"TaskDesk", "mustBeChannel", "(I)LTaskDesk$Channel;"⟩, 18) := ⟨⟨by decide +kernel, by decide +kernel⟩, List.mem_of_getElem? (i := 19) (by decide +kernel), List.mem_of_getElem? (i := 601) (by decide +kernel), List.mem_of_getElem? (i := 602) (by decide +kernel)⟩
theorem lw_p21 : lw_okq (⟨"TaskDesk", "givesAtOnce", "(LTaskDesk$Channel;)Z"⟩, 18) := ⟨⟨by decide +kernel, by decide +kernel⟩, List.mem_of_getElem? (i := 19) (by decide +kernel), List.mem_of_getElem? (i := 629) (by decide +kernel), List.mem_of_getElem? (i := 630) (by decide +kernel)⟩
theorem lw_p22 : lw_okq (⟨"TaskDesk", "receiveNow", "(LTaskDesk$Task;LTaskDesk$Channel;I)V"⟩, 18) := ⟨⟨by decide +kernel, by decide +kernel⟩, List.mem_of_getElem? (i := 19) (by decide +kernel), List.mem_of_getElem? (i := 633) (by decide +kernel), List.mem_of_getElem? (i := 634) (by decide +kernel)⟩
theorem lw_p23 : lw_okq (⟨"TaskDesk", "wakeAll", "(LTaskDesk$Row;ZZ)V"⟩, 18) := ⟨⟨by decide +kernel, by decide +kernel⟩, List.mem_of_getElem? (i := 19) (by decide +kernel), List.mem_of_getElem? (i := 645) (by decide +kernel), List.mem_of_getElem? (i := 646) (by decide +kernel)⟩
theorem lw_p24 : lw_okq (⟨"TaskDesk", "openCase", "(I)LTaskDesk$Place;"⟩, 18) := ⟨⟨by decide +kernel, by decide +kernel⟩, List.mem_of_getElem? (i := 19) (by decide +kernel), List.mem_of_getElem? (i := 665) (by decide +kernel), List.mem_of_getElem? (i := 666) (by decide +kernel)⟩
theorem lw_p25 : lw_okq (⟨"TaskDesk", "isOpen", "(LTaskDesk$Place;)Z"⟩, 18) := ⟨⟨by decide +kernel, by decide +kernel⟩, List.mem_of_getElem? (i := 19) (by decide +kernel), List.mem_of_getElem? (i := 669) (by decide +kernel), List.mem_of_getElem? (i := 670) (by decide +kernel)⟩
theorem lw_p26 : lw_okq (⟨"TaskDesk", "doCase", "(LTaskDesk$Task;LTaskDesk$Place;)V"⟩, 18) := ⟨⟨by decide +kernel, by decide +kernel⟩, List.mem_of_getElem? (i := 19) (by decide +kernel), List.mem_of_getElem? (i := 673) (by decide +kernel), List.mem_of_getElem? (i := 674) (by decide +kernel)⟩
theorem lw_p27 : lw_okq (⟨"TaskDesk", "forgetCases", "()V"⟩, 18) := ⟨⟨by decide +kernel, by decide +kernel⟩, List.mem_of_getElem? (i := 19) (by decide +kernel), List.mem_of_getElem? (i := 677) (by decide +kernel), List.mem_of_getElem? (i := 678) (by decide +kernel)⟩
theorem lw_p28 : lw_okq (⟨"TaskDesk", "waitInCases", "(LTaskDesk$Task;)V"⟩, 18) := ⟨⟨by decide +kernel, by decide +kernel⟩, List.mem_of_getElem? (i := 19) (by decide +kernel), List.mem_of_getElem? (i := 681) (by decide +kernel), List.mem_of_getElem? (i := 682) (by decide +kernel)⟩
theorem lw_p29 : lw_okq (⟨"TaskDesk", "gateAt", "(I)LTaskDesk$Gate;"⟩, 18) := ⟨⟨by decide +kernel, by decide +kernel⟩, List.mem_of_getElem? (i := 19) (by decide +kernel), List.mem_of_getElem? (i := 697) (by decide +kernel), List.mem_of_getElem? (i := 698) (by decide +kernel)⟩
theorem lw_p30 : lw_okq (⟨"TaskDesk", "mustBeGate", "(I)LTaskDesk$Gate;"⟩, 18) := ⟨⟨by decide +kernel, by decide +kernel⟩, List.mem_of_getElem? (i := 19) (by decide +kernel), List.mem_of_getElem? (i := 710) (by decide +kernel), List.mem_of_getElem? (i := 711) (by decide +kernel)⟩
theorem lw_p31 : lw_okq (⟨"TaskDesk", "giveUpLockOf", "(LTaskDesk$Gate;)V"⟩, 18) := ⟨⟨by decide +kernel, by decide +kernel⟩, List.mem_of_getElem? (i := 19) (by decide +kernel), List.mem_of_getElem? (i := 715) (by decide +kernel), List.mem_of_getElem? (i := 716) (by decide +kernel)⟩
def lw_privs_2 : List (MethodName × Nat) := [(⟨"TaskDesk", "putValue", "(LTaskDesk$Channel;J)V"⟩, 18), (⟨"TaskDesk", "endAll", "()V"⟩, 18), (⟨"TaskDesk$Agenda", "lastNotAfter", "(J)LTaskDesk$Timer;"⟩, 2), (⟨"TaskDesk", "firstFreeChannel", "()LTaskDesk$Channel;"⟩, 18), (⟨"TaskDesk", "mustBeChannel", "(I)LTaskDesk$Channel;"⟩, 18), (⟨"TaskDesk", "givesAtOnce", "(LTaskDesk$Channel;)Z"⟩, 18), (⟨"TaskDesk", "receiveNow", "(LTaskDesk$Task;LTaskDesk$Channel;I)V"⟩, 18), (⟨"TaskDesk", "wakeAll", "(LTaskDesk$Row;ZZ)V"⟩, 18), (⟨"TaskDesk", "openCase", "(I)LTaskDesk$Place;"⟩, 18), (⟨"TaskDesk", "isOpen", "(LTaskDesk$Place;)Z"⟩, 18), (⟨"TaskDesk", "doCase", "(LTaskDesk$Task;LTaskDesk$Place;)V"⟩, 18), (⟨"TaskDesk", "forgetCases", "()V"⟩, 18), (⟨"TaskDesk", "waitInCases", "(LTaskDesk$Task;)V"⟩, 18), (⟨"TaskDesk", "gateAt", "(I)LTaskDesk$Gate;"⟩, 18), (⟨"TaskDesk", "mustBeGate", "(I)LTaskDesk$Gate;"⟩, 18), (⟨"TaskDesk", "giveUpLockOf", "(LTaskDesk$Gate;)V"⟩, 18)]
theorem lw_r2 : ∀ q ∈ lw_privs_2, lw_okq q := List.forall_mem_cons.mpr ⟨lw_p16, List.forall_mem_cons.mpr ⟨lw_p17, List.forall_mem_cons.mpr ⟨lw_p18, List.forall_mem_cons.mpr ⟨lw_p19, List.forall_mem_cons.mpr ⟨lw_p20, List.forall_mem_cons.mpr ⟨lw_p21, List.forall_mem_cons.mpr ⟨lw_p22, List.forall_mem_cons.mpr ⟨lw_p23, List.forall_mem_cons.mpr ⟨lw_p24, List.forall_mem_cons.mpr ⟨lw_p25, List.forall_mem_cons.mpr ⟨lw_p26, List.forall_mem_cons.mpr ⟨lw_p27, List.forall_mem_cons.mpr ⟨lw_p28, List.forall_mem_cons.mpr ⟨lw_p29, List.forall_mem_cons.mpr ⟨lw_p30, List.forall_mem_cons.mpr ⟨lw_p31, fun _ h => absurd h List.not_mem_nil⟩⟩⟩⟩⟩⟩⟩⟩⟩⟩⟩⟩⟩⟩⟩⟩
theorem lw_p32 : lw_okq (⟨"TaskDesk", "giveLockBack", "(LTaskDesk$Gate;)V"⟩, 18) := ⟨⟨by decide +kernel, by decide +kernel⟩, List.mem_of_getElem? (i := 19) (by decide +kernel), List.mem_of_getElem? (i := 720) (by decide +kernel), List.mem_of_getElem? (i := 721) (by decide +kernel)⟩
theorem lw_p33 : lw_okq (⟨"TaskDesk", "endWriting", "(LTaskDesk$Gate;)V"⟩, 18) := ⟨⟨by decide +kernel, by decide +kernel⟩, List.mem_of_getElem? (i := 19) (by decide +kernel), List.mem_of_getElem? (i := 752) (by decide +kernel), List.mem_of_getElem? (i := 753) (by decide +kernel)⟩
theorem lw_p34 : lw_okq (⟨"TaskDesk", "letWriterIn", "(LTaskDesk$Gate;)V"⟩, 18) := ⟨⟨by decide +kernel, by decide +kernel⟩, List.mem_of_getElem? (i := 19) (by decide +kernel), List.mem_of_getElem? (i := 756) (by decide +kernel), List.mem_of_getElem? (i := 757) (by decide +kernel)⟩
theorem lw_p35 : lw_okq (⟨"TaskDesk", "setGroup", "(LTaskDesk$Gate;I)V"⟩, 18) := ⟨⟨by decide +kernel, by decide +kernel⟩, List.mem_of_getElem? (i := 19) (by decide +kernel), List.mem_of_getElem? (i := 760) (by decide +kernel), List.mem_of_getElem? (i := 761) (by decide +kernel)⟩
theorem lw_p36 : lw_okq (⟨"TaskDesk", "wakeFirstOfSignal", "(LTaskDesk$Gate;)V"⟩, 18) := ⟨⟨by decide +kernel, by decide +kernel⟩, List.mem_of_getElem? (i := 19) (by decide +kernel), List.mem_of_getElem? (i := 764) (by decide +kernel), List.mem_of_getElem? (i := 765) (by decide +kernel)⟩
theorem lw_p37 : lw_okq (⟨"TaskDesk", "endReading", "(LTaskDesk$Gate;)V"⟩, 18) := ⟨⟨by decide +kernel, by decide +kernel⟩, List.mem_of_getElem? (i := 19) (by decide +kernel), List.mem_of_getElem? (i := 782) (by decide +kernel), List.mem_of_getElem? (i := 783) (by decide +kernel)⟩
theorem lw_p38 : lw_okq (⟨"TaskDesk", "wakeAllOfSignal", "(LTaskDesk$Gate;)V"⟩, 18) := ⟨⟨by decide +kernel, by decide +kernel⟩, List.mem_of_getElem? (i := 19) (by decide +kernel), List.mem_of_getElem? (i := 786) (by decide +kernel), List.mem_of_getElem? (i := 787) (by decide +kernel)⟩
theorem lw_p39 : lw_okq (⟨"TaskDesk", "mustBeTask", "(I)LTaskDesk$Task;"⟩, 18) := ⟨⟨by decide +kernel, by decide +kernel⟩, List.mem_of_getElem? (i := 19) (by decide +kernel), List.mem_of_getElem? (i := 798) (by decide +kernel), List.mem_of_getElem? (i := 799) (by decide +kernel)⟩
theorem lw_p40 : lw_okq (⟨"TaskDesk", "countBefore", "(LTaskDesk$Place;)I"⟩, 18) := ⟨⟨by decide +kernel, by decide +kernel⟩, List.mem_of_getElem? (i := 19) (by decide +kernel), List.mem_of_getElem? (i := 818) (by decide +kernel), List.mem_of_getElem? (i := 819) (by decide +kernel)⟩
theorem lw_p41 : lw_okq (⟨"TaskDeskModel", "fail", "(I)I"⟩, 42) := ⟨⟨by decide +kernel, by decide +kernel⟩, List.mem_of_getElem? (i := 846) (by decide +kernel), List.mem_of_getElem? (i := 990) (by decide +kernel), List.mem_of_getElem? (i := 991) (by decide +kernel)⟩
theorem lw_p42 : lw_okq (⟨"TaskDeskModel", "isChannel", "(I)Z"⟩, 42) := ⟨⟨by decide +kernel, by decide +kernel⟩, List.mem_of_getElem? (i := 846) (by decide +kernel), List.mem_of_getElem? (i := 998) (by decide +kernel), List.mem_of_getElem? (i := 999) (by decide +kernel)⟩
theorem lw_p43 : lw_okq (⟨"TaskDeskModel", "first", "(IZ)I"⟩, 42) := ⟨⟨by decide +kernel, by decide +kernel⟩, List.mem_of_getElem? (i := 846) (by decide +kernel), List.mem_of_getElem? (i := 1002) (by decide +kernel), List.mem_of_getElem? (i := 1003) (by decide +kernel)⟩
theorem lw_p44 : lw_okq (⟨"TaskDeskModel", "held", "(I)I"⟩, 42) := ⟨⟨by decide +kernel, by decide +kernel⟩, List.mem_of_getElem? (i := 846) (by decide +kernel), List.mem_of_getElem? (i := 1006) (by decide +kernel), List.mem_of_getElem? (i := 1007) (by decide +kernel)⟩
theorem lw_p45 : lw_okq (⟨"TaskDeskModel", "takeFirst", "(I)J"⟩, 42) := ⟨⟨by decide +kernel, by decide +kernel⟩, List.mem_of_getElem? (i := 846) (by decide +kernel), List.mem_of_getElem? (i := 1010) (by decide +kernel), List.mem_of_getElem? (i := 1011) (by decide +kernel)⟩
theorem lw_p46 : lw_okq (⟨"TaskDeskModel", "no", "(I)Z"⟩, 42) := ⟨⟨by decide +kernel, by decide +kernel⟩, List.mem_of_getElem? (i := 846) (by decide +kernel), List.mem_of_getElem? (i := 1023) (by decide +kernel), List.mem_of_getElem? (i := 1024) (by decide +kernel)⟩
theorem lw_p47 : lw_okq (⟨"TaskDeskModel", "maySend", "(I)Z"⟩, 42) := ⟨⟨by decide +kernel, by decide +kernel⟩, List.mem_of_getElem? (i := 846) (by decide +kernel), List.mem_of_getElem? (i := 1027) (by decide +kernel), List.mem_of_getElem? (i := 1028) (by decide +kernel)⟩
def lw_privs_3 : List (MethodName × Nat) := [(⟨"TaskDesk", "giveLockBack", "(LTaskDesk$Gate;)V"⟩, 18), (⟨"TaskDesk", "endWriting", "(LTaskDesk$Gate;)V"⟩, 18), (⟨"TaskDesk", "letWriterIn", "(LTaskDesk$Gate;)V"⟩, 18), (⟨"TaskDesk", "setGroup", "(LTaskDesk$Gate;I)V"⟩, 18), (⟨"TaskDesk", "wakeFirstOfSignal", "(LTaskDesk$Gate;)V"⟩, 18), (⟨"TaskDesk", "endReading", "(LTaskDesk$Gate;)V"⟩, 18), (⟨"TaskDesk", "wakeAllOfSignal", "(LTaskDesk$Gate;)V"⟩, 18), (⟨"TaskDesk", "mustBeTask", "(I)LTaskDesk$Task;"⟩, 18), (⟨"TaskDesk", "countBefore", "(LTaskDesk$Place;)I"⟩, 18), (⟨"TaskDeskModel", "fail", "(I)I"⟩, 42), (⟨"TaskDeskModel", "isChannel", "(I)Z"⟩, 42), (⟨"TaskDeskModel", "first", "(IZ)I"⟩, 42), (⟨"TaskDeskModel", "held", "(I)I"⟩, 42), (⟨"TaskDeskModel", "takeFirst", "(I)J"⟩, 42), (⟨"TaskDeskModel", "no", "(I)Z"⟩, 42), (⟨"TaskDeskModel", "maySend", "(I)Z"⟩, 42)]
theorem lw_r3 : ∀ q ∈ lw_privs_3, lw_okq q := List.forall_mem_cons.mpr ⟨lw_p32, List.forall_mem_cons.mpr ⟨lw_p33, List.forall_mem_cons.mpr ⟨lw_p34, List.forall_mem_cons.mpr ⟨lw_p35, List.forall_mem_cons.mpr ⟨lw_p36, List.forall_mem_cons.mpr ⟨lw_p37, List.forall_mem_cons.mpr ⟨lw_p38, List.forall_mem_cons.mpr ⟨lw_p39, List.forall_mem_cons.mpr ⟨lw_p40, List.forall_mem_cons.mpr ⟨lw_p41, List.forall_mem_cons.mpr ⟨lw_p42, List.forall_mem_cons.mpr ⟨lw_p43, List.forall_mem_cons.mpr ⟨lw_p44, List.forall_mem_cons.mpr ⟨lw_p45, List.forall_mem_cons.mpr ⟨lw_p46, List.forall_mem_cons.mpr ⟨lw_p47, fun _ h => absurd h List.not_mem_nil⟩⟩⟩⟩⟩⟩⟩⟩⟩⟩⟩⟩⟩⟩⟩⟩
theorem lw_p48 : lw_okq (⟨"TaskDeskModel", "deliver", "(IJ)V"⟩, 42) := ⟨⟨by decide +kernel, by decide +kernel⟩, List.mem_of_getElem? (i := 846) (by decide +kernel), List.mem_of_getElem? (i := 1031) (by decide +kernel), List.mem_of_getElem? (i := 1032) (by decide +kernel)⟩
theorem lw_p49 : lw_okq (⟨"TaskDeskModel", "met", "(IJZZ)V"⟩, 42) := ⟨⟨by decide +kernel, by decide +kernel⟩, List.mem_of_getElem? (i := 846) (by decide +kernel), List.mem_of_getElem? (i := 1035) (by decide +kernel), List.mem_of_getElem? (i := 1036) (by decide +kernel)⟩
theorem lw_p50 : lw_okq (⟨"TaskDeskModel", "has", "(IJZIZ)V"⟩, 42) := ⟨⟨by decide +kernel, by decide +kernel⟩, List.mem_of_getElem? (i := 846) (by decide +kernel), List.mem_of_getElem? (i := 1039) (by decide +kernel), List.mem_of_getElem? (i := 1040) (by decide +kernel)⟩
theorem lw_p51 : lw_okq (⟨"TaskDeskModel", "withdraw", "(I)V"⟩, 42) := ⟨⟨by decide +kernel, by decide +kernel⟩, List.mem_of_getElem? (i := 846) (by decide +kernel), List.mem_of_getElem? (i := 1043) (by decide +kernel), List.mem_of_getElem? (i := 1044) (by decide +kernel)⟩
theorem lw_p52 : lw_okq (⟨"TaskDeskModel", "wake", "(I)V"⟩, 42) := ⟨⟨by decide +kernel, by decide +kernel⟩, List.mem_of_getElem? (i := 846) (by decide +kernel), List.mem_of_getElem? (i := 1047) (by decide +kernel), List.mem_of_getElem? (i := 1048) (by decide +kernel)⟩
theorem lw_p53 : lw_okq (⟨"TaskDeskModel", "store", "(IJ)V"⟩, 42) := ⟨⟨by decide +kernel, by decide +kernel⟩, List.mem_of_getElem? (i := 846) (by decide +kernel), List.mem_of_getElem? (i := 1051) (by decide +kernel), List.mem_of_getElem? (i := 1052) (by decide +kernel)⟩
theorem lw_p54 : lw_okq (⟨"TaskDeskModel", "offer", "(IIZJI)V"⟩, 42) := ⟨⟨by decide +kernel, by decide +kernel⟩, List.mem_of_getElem? (i := 846) (by decide +kernel), List.mem_of_getElem? (i := 1055) (by decide +kernel), List.mem_of_getElem? (i := 1056) (by decide +kernel)⟩
theorem lw_p55 : lw_okq (⟨"TaskDeskModel", "rest", "(II)V"⟩, 42) := ⟨⟨by decide +kernel, by decide +kernel⟩, List.mem_of_getElem? (i := 846) (by decide +kernel), List.mem_of_getElem? (i := 1059) (by decide +kernel), List.mem_of_getElem? (i := 1060) (by decide +kernel)⟩
theorem lw_p56 : lw_okq (⟨"TaskDeskModel", "next", "()V"⟩, 42) := ⟨⟨by decide +kernel, by decide +kernel⟩, List.mem_of_getElem? (i := 846) (by decide +kernel), List.mem_of_getElem? (i := 1063) (by decide +kernel), List.mem_of_getElem? (i := 1064) (by decide +kernel)⟩
theorem lw_p57 : lw_okq (⟨"TaskDeskModel", "ring", "()V"⟩, 42) := ⟨⟨by decide +kernel, by decide +kernel⟩, List.mem_of_getElem? (i := 846) (by decide +kernel), List.mem_of_getElem? (i := 1067) (by decide +kernel), List.mem_of_getElem? (i := 1068) (by decide +kernel)⟩
theorem lw_p58 : lw_okq (⟨"TaskDeskModel", "rings", "(I)V"⟩, 42) := ⟨⟨by decide +kernel, by decide +kernel⟩, List.mem_of_getElem? (i := 846) (by decide +kernel), List.mem_of_getElem? (i := 1071) (by decide +kernel), List.mem_of_getElem? (i := 1072) (by decide +kernel)⟩
theorem lw_p59 : lw_okq (⟨"TaskDeskModel", "mayReceive", "(I)Z"⟩, 42) := ⟨⟨by decide +kernel, by decide +kernel⟩, List.mem_of_getElem? (i := 846) (by decide +kernel), List.mem_of_getElem? (i := 1079) (by decide +kernel), List.mem_of_getElem? (i := 1080) (by decide +kernel)⟩
theorem lw_p60 : lw_okq (⟨"TaskDeskModel", "take", "(II)V"⟩, 42) := ⟨⟨by decide +kernel, by decide +kernel⟩, List.mem_of_getElem? (i := 846) (by decide +kernel), List.mem_of_getElem? (i := 1083) (by decide +kernel), List.mem_of_getElem? (i := 1084) (by decide +kernel)⟩
theorem lw_p61 : lw_okq (⟨"TaskDeskModel", "isReady", "(I)Z"⟩, 42) := ⟨⟨by decide +kernel, by decide +kernel⟩, List.mem_of_getElem? (i := 846) (by decide +kernel), List.mem_of_getElem? (i := 1099) (by decide +kernel), List.mem_of_getElem? (i := 1100) (by decide +kernel)⟩
theorem lw_p62 : lw_okq (⟨"TaskDeskModel", "done", "(I)Z"⟩, 42) := ⟨⟨by decide +kernel, by decide +kernel⟩, List.mem_of_getElem? (i := 846) (by decide +kernel), List.mem_of_getElem? (i := 1103) (by decide +kernel), List.mem_of_getElem? (i := 1104) (by decide +kernel)⟩
theorem lw_p63 : lw_okq (⟨"TaskDeskModel", "isGate", "(I)Z"⟩, 42) := ⟨⟨by decide +kernel, by decide +kernel⟩, List.mem_of_getElem? (i := 846) (by decide +kernel), List.mem_of_getElem? (i := 1128) (by decide +kernel), List.mem_of_getElem? (i := 1129) (by decide +kernel)⟩
def lw_privs_4 : List (MethodName × Nat) := [(⟨"TaskDeskModel", "deliver", "(IJ)V"⟩, 42), (⟨"TaskDeskModel", "met", "(IJZZ)V"⟩, 42), (⟨"TaskDeskModel", "has", "(IJZIZ)V"⟩, 42), (⟨"TaskDeskModel", "withdraw", "(I)V"⟩, 42), (⟨"TaskDeskModel", "wake", "(I)V"⟩, 42), (⟨"TaskDeskModel", "store", "(IJ)V"⟩, 42), (⟨"TaskDeskModel", "offer", "(IIZJI)V"⟩, 42), (⟨"TaskDeskModel", "rest", "(II)V"⟩, 42), (⟨"TaskDeskModel", "next", "()V"⟩, 42), (⟨"TaskDeskModel", "ring", "()V"⟩, 42), (⟨"TaskDeskModel", "rings", "(I)V"⟩, 42), (⟨"TaskDeskModel", "mayReceive", "(I)Z"⟩, 42), (⟨"TaskDeskModel", "take", "(II)V"⟩, 42), (⟨"TaskDeskModel", "isReady", "(I)Z"⟩, 42), (⟨"TaskDeskModel", "done", "(I)Z"⟩, 42), (⟨"TaskDeskModel", "isGate", "(I)Z"⟩, 42)]
theorem lw_r4 : ∀ q ∈ lw_privs_4, lw_okq q := List.forall_mem_cons.mpr ⟨lw_p48, List.forall_mem_cons.mpr ⟨lw_p49, List.forall_mem_cons.mpr ⟨lw_p50, List.forall_mem_cons.mpr ⟨lw_p51, List.forall_mem_cons.mpr ⟨lw_p52, List.forall_mem_cons.mpr ⟨lw_p53, List.forall_mem_cons.mpr ⟨lw_p54, List.forall_mem_cons.mpr ⟨lw_p55, List.forall_mem_cons.mpr ⟨lw_p56, List.forall_mem_cons.mpr ⟨lw_p57, List.forall_mem_cons.mpr ⟨lw_p58, List.forall_mem_cons.mpr ⟨lw_p59, List.forall_mem_cons.mpr ⟨lw_p60, List.forall_mem_cons.mpr ⟨lw_p61, List.forall_mem_cons.mpr ⟨lw_p62, List.forall_mem_cons.mpr ⟨lw_p63, fun _ h => absurd h List.not_mem_nil⟩⟩⟩⟩⟩⟩⟩⟩⟩⟩⟩⟩⟩⟩⟩⟩
theorem lw_p64 : lw_okq (⟨"TaskDeskModel", "passes", "(ZIZZ)Z"⟩, 42) := ⟨⟨by decide +kernel, by decide +kernel⟩, List.mem_of_getElem? (i := 846) (by decide +kernel), List.mem_of_getElem? (i := 1136) (by decide +kernel), List.mem_of_getElem? (i := 1137) (by decide +kernel)⟩
theorem lw_p65 : lw_okq (⟨"TaskDeskModel", "stand", "(IIZ)V"⟩, 42) := ⟨⟨by decide +kernel, by decide +kernel⟩, List.mem_of_getElem? (i := 846) (by decide +kernel), List.mem_of_getElem? (i := 1140) (by decide +kernel), List.mem_of_getElem? (i := 1141) (by decide +kernel)⟩
theorem lw_p66 : lw_okq (⟨"TaskDeskModel", "unlock", "(I)V"⟩, 42) := ⟨⟨by decide +kernel, by decide +kernel⟩, List.mem_of_getElem? (i := 846) (by decide +kernel), List.mem_of_getElem? (i := 1144) (by decide +kernel), List.mem_of_getElem? (i := 1145) (by decide +kernel)⟩
theorem lw_p67 : lw_okq (⟨"TaskDeskModel", "standing", "(II)I"⟩, 42) := ⟨⟨by decide +kernel, by decide +kernel⟩, List.mem_of_getElem? (i := 846) (by decide +kernel), List.mem_of_getElem? (i := 1148) (by decide +kernel), List.mem_of_getElem? (i := 1149) (by decide +kernel)⟩
theorem lw_p68 : lw_okq (⟨"TaskDeskModel", "lets", "(IZ)V"⟩, 42) := ⟨⟨by decide +kernel, by decide +kernel⟩, List.mem_of_getElem? (i := 846) (by decide +kernel), List.mem_of_getElem? (i := 1152) (by decide +kernel), List.mem_of_getElem? (i := 1153) (by decide +kernel)⟩
theorem lw_p69 : lw_okq (⟨"TaskDeskModel", "takeOut", "(I)I"⟩, 42) := ⟨⟨by decide +kernel, by decide +kernel⟩, List.mem_of_getElem? (i := 846) (by decide +kernel), List.mem_of_getElem? (i := 1156) (by decide +kernel), List.mem_of_getElem? (i := 1157) (by decide +kernel)⟩
theorem lw_p70 : lw_okq (⟨"TaskDeskModel", "letReaders", "(I)V"⟩, 42) := ⟨⟨by decide +kernel, by decide +kernel⟩, List.mem_of_getElem? (i := 846) (by decide +kernel), List.mem_of_getElem? (i := 1168) (by decide +kernel), List.mem_of_getElem? (i := 1169) (by decide +kernel)⟩
theorem lw_p71 : lw_okq (⟨"TaskDeskModel", "letWriter", "(I)V"⟩, 42) := ⟨⟨by decide +kernel, by decide +kernel⟩, List.mem_of_getElem? (i := 846) (by decide +kernel), List.mem_of_getElem? (i := 1172) (by decide +kernel), List.mem_of_getElem? (i := 1173) (by decide +kernel)⟩
theorem lw_p72 : lw_okq (⟨"TaskDeskModel", "grow", "(II)V"⟩, 42) := ⟨⟨by decide +kernel, by decide +kernel⟩, List.mem_of_getElem? (i := 846) (by decide +kernel), List.mem_of_getElem? (i := 1176) (by decide +kernel), List.mem_of_getElem? (i := 1177) (by decide +kernel)⟩
theorem lw_p73 : lw_okq (⟨"TaskDeskModel", "letAll", "(IZ)V"⟩, 42) := ⟨⟨by decide +kernel, by decide +kernel⟩, List.mem_of_getElem? (i := 846) (by decide +kernel), List.mem_of_getElem? (i := 1180) (by decide +kernel), List.mem_of_getElem? (i := 1181) (by decide +kernel)⟩
theorem lw_p74 : lw_okq (⟨"TaskDeskModel", "signal", "(I)V"⟩, 42) := ⟨⟨by decide +kernel, by decide +kernel⟩, List.mem_of_getElem? (i := 846) (by decide +kernel), List.mem_of_getElem? (i := 1184) (by decide +kernel), List.mem_of_getElem? (i := 1185) (by decide +kernel)⟩
theorem lw_p75 : lw_okq (⟨"TaskDeskModel", "waitAt", "(I)I"⟩, 42) := ⟨⟨by decide +kernel, by decide +kernel⟩, List.mem_of_getElem? (i := 846) (by decide +kernel), List.mem_of_getElem? (i := 1192) (by decide +kernel), List.mem_of_getElem? (i := 1193) (by decide +kernel)⟩
theorem lw_p76 : lw_okq (⟨"TaskDeskModel", "isTask", "(I)Z"⟩, 42) := ⟨⟨by decide +kernel, by decide +kernel⟩, List.mem_of_getElem? (i := 846) (by decide +kernel), List.mem_of_getElem? (i := 1204) (by decide +kernel), List.mem_of_getElem? (i := 1205) (by decide +kernel)⟩
theorem lw_p77 : lw_okq (⟨"TaskDeskModel", "living", "()I"⟩, 42) := ⟨⟨by decide +kernel, by decide +kernel⟩, List.mem_of_getElem? (i := 846) (by decide +kernel), List.mem_of_getElem? (i := 1228) (by decide +kernel), List.mem_of_getElem? (i := 1229) (by decide +kernel)⟩
theorem lw_p78 : lw_okq (⟨"TaskDeskModel", "channels", "()I"⟩, 42) := ⟨⟨by decide +kernel, by decide +kernel⟩, List.mem_of_getElem? (i := 846) (by decide +kernel), List.mem_of_getElem? (i := 1232) (by decide +kernel), List.mem_of_getElem? (i := 1233) (by decide +kernel)⟩
def lw_privs_5 : List (MethodName × Nat) := [(⟨"TaskDeskModel", "passes", "(ZIZZ)Z"⟩, 42), (⟨"TaskDeskModel", "stand", "(IIZ)V"⟩, 42), (⟨"TaskDeskModel", "unlock", "(I)V"⟩, 42), (⟨"TaskDeskModel", "standing", "(II)I"⟩, 42), (⟨"TaskDeskModel", "lets", "(IZ)V"⟩, 42), (⟨"TaskDeskModel", "takeOut", "(I)I"⟩, 42), (⟨"TaskDeskModel", "letReaders", "(I)V"⟩, 42), (⟨"TaskDeskModel", "letWriter", "(I)V"⟩, 42), (⟨"TaskDeskModel", "grow", "(II)V"⟩, 42), (⟨"TaskDeskModel", "letAll", "(IZ)V"⟩, 42), (⟨"TaskDeskModel", "signal", "(I)V"⟩, 42), (⟨"TaskDeskModel", "waitAt", "(I)I"⟩, 42), (⟨"TaskDeskModel", "isTask", "(I)Z"⟩, 42), (⟨"TaskDeskModel", "living", "()I"⟩, 42), (⟨"TaskDeskModel", "channels", "()I"⟩, 42)]
theorem lw_r5 : ∀ q ∈ lw_privs_5, lw_okq q := List.forall_mem_cons.mpr ⟨lw_p64, List.forall_mem_cons.mpr ⟨lw_p65, List.forall_mem_cons.mpr ⟨lw_p66, List.forall_mem_cons.mpr ⟨lw_p67, List.forall_mem_cons.mpr ⟨lw_p68, List.forall_mem_cons.mpr ⟨lw_p69, List.forall_mem_cons.mpr ⟨lw_p70, List.forall_mem_cons.mpr ⟨lw_p71, List.forall_mem_cons.mpr ⟨lw_p72, List.forall_mem_cons.mpr ⟨lw_p73, List.forall_mem_cons.mpr ⟨lw_p74, List.forall_mem_cons.mpr ⟨lw_p75, List.forall_mem_cons.mpr ⟨lw_p76, List.forall_mem_cons.mpr ⟨lw_p77, List.forall_mem_cons.mpr ⟨lw_p78, fun _ h => absurd h List.not_mem_nil⟩⟩⟩⟩⟩⟩⟩⟩⟩⟩⟩⟩⟩⟩⟩
def lw_privs : List (MethodName × Nat) := lw_privs_1 ++ (lw_privs_2 ++ (lw_privs_3 ++ (lw_privs_4 ++ (lw_privs_5))))
def lw_tbl : List Cond := k2_sels lw_privs ++ tables_1
theorem lw_privs_ok : ∀ q ∈ lw_privs, lw_okq q := by
  show ∀ q ∈ lw_privs_1 ++ (lw_privs_2 ++ (lw_privs_3 ++ (lw_privs_4 ++ (lw_privs_5)))), lw_okq q
  exact List.forall_mem_append.mpr ⟨lw_r1, List.forall_mem_append.mpr ⟨lw_r2, List.forall_mem_append.mpr ⟨lw_r3, List.forall_mem_append.mpr ⟨lw_r4, lw_r5⟩⟩⟩⟩
end
section
/-! classes, fields, arrays, methods by numbers: printed by wip/tools/tables.py -/
def kt_F0 : u_T := fun k => match k with
  | 0 => ("TaskDesk", "tasks", "[LTaskDesk$Task;", true)
  | 1 => ("TaskDesk", "taskCount", "I", false)
  | 2 => ("TaskDesk", "ready", "LTaskDesk$Row;", true)
  | 3 => ("TaskDesk", "running", "LTaskDesk$Task;", false)
  | 4 => ("TaskDesk", "over", "Z", false)
  | 5 => ("TaskDesk", "now", "J", false)
  | 6 => ("TaskDesk", "agenda", "LTaskDesk$Agenda;", true)
  | 7 => ("TaskDesk", "alarmCount", "I", false)
  | 8 => ("TaskDesk", "channels", "[LTaskDesk$Channel;", true)
  | 9 => ("TaskDesk", "nowhere", "LTaskDesk$Channel;", true)
  | 10 => ("TaskDesk", "channelCount", "I", false)
  | 11 => ("TaskDesk", "roomGiven", "I", false)
  | 12 => ("TaskDesk", "freeValue", "LTaskDesk$Value;", false)
  | 13 => ("TaskDesk", "told", "[LTaskDesk$Place;", true)
  | 14 => ("TaskDesk", "toldCount", "I", false)
  | 15 => ("TaskDesk", "freePlace", "LTaskDesk$Place;", false)
  | 16 => ("TaskDesk", "gates", "[LTaskDesk$Gate;", true)
  | _ => ("TaskDesk", "gateCount", "I", false)
def kt_y0 : Nat → FieldType := fun k => match k with
  | 0 => .array (.object "TaskDesk$Task")
  | 1 => .int
  | 2 => .object "TaskDesk$Row"
  | 3 => .object "TaskDesk$Task"
  | 4 => .boolean
  | 5 => .long
  | 6 => .object "TaskDesk$Agenda"
  | 7 => .int
  | 8 => .array (.object "TaskDesk$Channel")
  | 9 => .object "TaskDesk$Channel"
  | 10 => .int
  | 11 => .int
  | 12 => .object "TaskDesk$Value"
  | 13 => .array (.object "TaskDesk$Place")
  | 14 => .int
  | 15 => .object "TaskDesk$Place"
  | 16 => .array (.object "TaskDesk$Gate")
  | _ => .int
def kt_F1 : u_T := fun k => match k with
  | 0 => ("TaskDesk$Agenda", "first", "LTaskDesk$Timer;", false)
  | _ => ("TaskDesk$Agenda", "free", "LTaskDesk$Timer;", false)
def kt_y1 : Nat → FieldType := fun k => match k with
  | 0 => .object "TaskDesk$Timer"
  | _ => .object "TaskDesk$Timer"
def kt_F2 : u_T := fun k => match k with
  | 0 => ("TaskDesk$Channel", "number", "I", true)
  | 1 => ("TaskDesk$Channel", "senders", "LTaskDesk$Row;", true)
  | 2 => ("TaskDesk$Channel", "receivers", "LTaskDesk$Row;", true)
  | 3 => ("TaskDesk$Channel", "there", "Z", false)
  | 4 => ("TaskDesk$Channel", "closed", "Z", false)
  | 5 => ("TaskDesk$Channel", "room", "I", false)
  | 6 => ("TaskDesk$Channel", "held", "I", false)
  | 7 => ("TaskDesk$Channel", "alarms", "I", false)
  | 8 => ("TaskDesk$Channel", "first", "LTaskDesk$Value;", false)
  | _ => ("TaskDesk$Channel", "last", "LTaskDesk$Value;", false)
def kt_y2 : Nat → FieldType := fun k => match k with
  | 0 => .int
  | 1 => .object "TaskDesk$Row"
  | 2 => .object "TaskDesk$Row"
  | 3 => .boolean
  | 4 => .boolean
  | 5 => .int
  | 6 => .int
  | 7 => .int
  | 8 => .object "TaskDesk$Value"
  | _ => .object "TaskDesk$Value"
def kt_F3 : u_T := fun k => match k with
  | 0 => ("TaskDesk$Gate", "number", "I", true)
  | 1 => ("TaskDesk$Gate", "waiting", "LTaskDesk$Row;", true)
  | 2 => ("TaskDesk$Gate", "readers", "LTaskDesk$Row;", true)
  | 3 => ("TaskDesk$Gate", "kind", "I", false)
  | 4 => ("TaskDesk$Gate", "taken", "I", false)
  | _ => ("TaskDesk$Gate", "lock", "LTaskDesk$Gate;", false)
def kt_y3 : Nat → FieldType := fun k => match k with
  | 0 => .int
  | 1 => .object "TaskDesk$Row"
  | 2 => .object "TaskDesk$Row"
  | 3 => .int
  | 4 => .int
  | _ => .object "TaskDesk$Gate"
def kt_F4 : u_T := fun k => match k with
  | 0 => ("TaskDesk$Place", "owner", "LTaskDesk$Task;", false)
  | 1 => ("TaskDesk$Place", "target", "LTaskDesk$Channel;", false)
  | 2 => ("TaskDesk$Place", "sends", "Z", false)
  | 3 => ("TaskDesk$Place", "value", "J", false)
  | 4 => ("TaskDesk$Place", "caseNumber", "I", false)
  | 5 => ("TaskDesk$Place", "row", "LTaskDesk$Row;", false)
  | 6 => ("TaskDesk$Place", "before", "LTaskDesk$Place;", false)
  | 7 => ("TaskDesk$Place", "behind", "LTaskDesk$Place;", false)
  | _ => ("TaskDesk$Place", "sibling", "LTaskDesk$Place;", false)
def kt_y4 : Nat → FieldType := fun k => match k with
  | 0 => .object "TaskDesk$Task"
  | 1 => .object "TaskDesk$Channel"
  | 2 => .boolean
  | 3 => .long
  | 4 => .int
  | 5 => .object "TaskDesk$Row"
  | 6 => .object "TaskDesk$Place"
  | 7 => .object "TaskDesk$Place"
  | _ => .object "TaskDesk$Place"
def kt_F5 : u_T := fun k => match k with
  | 0 => ("TaskDesk$Row", "first", "LTaskDesk$Place;", false)
  | 1 => ("TaskDesk$Row", "last", "LTaskDesk$Place;", false)
  | _ => ("TaskDesk$Row", "length", "I", false)
def kt_y5 : Nat → FieldType := fun k => match k with
  | 0 => .object "TaskDesk$Place"
  | 1 => .object "TaskDesk$Place"
  | _ => .int
def kt_F6 : u_T := fun k => match k with
  | 0 => ("TaskDesk$Task", "number", "I", true)
  | 1 => ("TaskDesk$Task", "stand", "LTaskDesk$Place;", true)
  | 2 => ("TaskDesk$Task", "alive", "Z", false)
  | 3 => ("TaskDesk$Task", "state", "I", false)
  | 4 => ("TaskDesk$Task", "at", "I", false)
  | 5 => ("TaskDesk$Task", "cases", "LTaskDesk$Place;", false)
  | 6 => ("TaskDesk$Task", "result", "J", false)
  | 7 => ("TaskDesk$Task", "flag", "Z", false)
  | 8 => ("TaskDesk$Task", "caseNumber", "I", false)
  | _ => ("TaskDesk$Task", "broken", "Z", false)
def kt_y6 : Nat → FieldType := fun k => match k with
  | 0 => .int
  | 1 => .object "TaskDesk$Place"
  | 2 => .boolean
  | 3 => .int
  | 4 => .int
  | 5 => .object "TaskDesk$Place"
  | 6 => .long
  | 7 => .boolean
  | 8 => .int
  | _ => .boolean
def kt_F7 : u_T := fun k => match k with
  | 0 => ("TaskDesk$Timer", "time", "J", false)
  | 1 => ("TaskDesk$Timer", "sleeper", "LTaskDesk$Task;", false)
  | 2 => ("TaskDesk$Timer", "target", "LTaskDesk$Channel;", false)
  | _ => ("TaskDesk$Timer", "behind", "LTaskDesk$Timer;", false)
def kt_y7 : Nat → FieldType := fun k => match k with
  | 0 => .long
  | 1 => .object "TaskDesk$Task"
  | 2 => .object "TaskDesk$Channel"
  | _ => .object "TaskDesk$Timer"
def kt_F8 : u_T := fun k => match k with
  | 0 => ("TaskDesk$Value", "number", "J", false)
  | _ => ("TaskDesk$Value", "behind", "LTaskDesk$Value;", false)
def kt_y8 : Nat → FieldType := fun k => match k with
  | 0 => .long
  | _ => .object "TaskDesk$Value"
def kt_F9 : u_T := fun k => match k with
  | 0 => ("TaskDeskModel", "thrown", "I", false)
  | 1 => ("TaskDeskModel", "current", "I", false)
  | 2 => ("TaskDeskModel", "standing", "I", false)
  | 3 => ("TaskDeskModel", "clock", "J", false)
  | 4 => ("TaskDeskModel", "lives", "[Z", true)
  | 5 => ("TaskDeskModel", "state", "[I", true)
  | 6 => ("TaskDeskModel", "where", "[I", true)
  | 7 => ("TaskDeskModel", "number", "[J", true)
  | 8 => ("TaskDeskModel", "flag", "[Z", true)
  | 9 => ("TaskDeskModel", "chosen", "[I", true)
  | 10 => ("TaskDeskModel", "broken", "[Z", true)
  | 11 => ("TaskDeskModel", "readies", "I", false)
  | 12 => ("TaskDeskModel", "ready", "[I", true)
  | 13 => ("TaskDeskModel", "isThere", "[Z", true)
  | 14 => ("TaskDeskModel", "closed", "[Z", true)
  | 15 => ("TaskDeskModel", "room", "[I", true)
  | 16 => ("TaskDeskModel", "rooms", "I", false)
  | 17 => ("TaskDeskModel", "values", "I", false)
  | 18 => ("TaskDeskModel", "valueOf", "[I", true)
  | 19 => ("TaskDeskModel", "value", "[J", true)
  | 20 => ("TaskDeskModel", "offers", "I", false)
  | 21 => ("TaskDeskModel", "whose", "[I", true)
  | 22 => ("TaskDeskModel", "at", "[I", true)
  | 23 => ("TaskDeskModel", "gives", "[Z", true)
  | 24 => ("TaskDeskModel", "what", "[J", true)
  | 25 => ("TaskDeskModel", "which", "[I", true)
  | 26 => ("TaskDeskModel", "told", "I", false)
  | 27 => ("TaskDeskModel", "toldAt", "[I", true)
  | 28 => ("TaskDeskModel", "toldGives", "[Z", true)
  | 29 => ("TaskDeskModel", "toldWhat", "[J", true)
  | 30 => ("TaskDeskModel", "gates", "I", false)
  | 31 => ("TaskDeskModel", "kind", "[I", true)
  | 32 => ("TaskDeskModel", "held", "[I", true)
  | 33 => ("TaskDeskModel", "lockOf", "[I", true)
  | 34 => ("TaskDeskModel", "standers", "I", false)
  | 35 => ("TaskDeskModel", "stander", "[I", true)
  | 36 => ("TaskDeskModel", "gateOf", "[I", true)
  | 37 => ("TaskDeskModel", "reads", "[Z", true)
  | 38 => ("TaskDeskModel", "events", "I", false)
  | 39 => ("TaskDeskModel", "event", "[I", true)
  | 40 => ("TaskDeskModel", "when", "[J", true)
  | _ => ("TaskDeskModel", "alarms", "I", false)
def kt_y9 : Nat → FieldType := fun k => match k with
  | 0 => .int
  | 1 => .int
  | 2 => .int
  | 3 => .long
  | 4 => .array .boolean
  | 5 => .array .int
  | 6 => .array .int
  | 7 => .array .long
  | 8 => .array .boolean
  | 9 => .array .int
  | 10 => .array .boolean
  | 11 => .int
  | 12 => .array .int
  | 13 => .array .boolean
  | 14 => .array .boolean
  | 15 => .array .int
  | 16 => .int
  | 17 => .int
  | 18 => .array .int
  | 19 => .array .long
  | 20 => .int
  | 21 => .array .int
  | 22 => .array .int
  | 23 => .array .boolean
  | 24 => .array .long
  | 25 => .array .int
  | 26 => .int
  | 27 => .array .int
  | 28 => .array .boolean
  | 29 => .array .long
  | 30 => .int
  | 31 => .array .int
  | 32 => .array .int
  | 33 => .array .int
  | 34 => .int
  | 35 => .array .int
  | 36 => .array .int
  | 37 => .array .boolean
  | 38 => .int
  | 39 => .array .int
  | 40 => .array .long
  | _ => .int
abbrev kx_cl : List vw_C := [("TaskDesk", kt_F0, 18), ("TaskDesk$Agenda", kt_F1, 2), ("TaskDesk$Channel", kt_F2, 10), ("TaskDesk$Gate", kt_F3, 6), ("TaskDesk$Place", kt_F4, 9), ("TaskDesk$Row", kt_F5, 3), ("TaskDesk$Task", kt_F6, 10), ("TaskDesk$Timer", kt_F7, 4), ("TaskDesk$Value", kt_F8, 2), ("TaskDeskModel", kt_F9, 42)]
/-- the kind of a field (0 an int, 1 a long, 2 a reference, 3 a boolean), and the tag of what it refers to -/
def kx_ft (t k : Nat) : Nat × Nat := match t with
  | 0 => (match k with
    | 0 => (2, 102)
    | 1 => (0, 0)
    | 2 => (2, 5)
    | 3 => (2, 6)
    | 4 => (3, 0)
    | 5 => (1, 0)
    | 6 => (2, 1)
    | 7 => (0, 0)
    | 8 => (2, 103)
    | 9 => (2, 2)
    | 10 => (0, 0)
    | 11 => (0, 0)
    | 12 => (2, 8)
    | 13 => (2, 104)
    | 14 => (0, 0)
    | 15 => (2, 4)
    | 16 => (2, 105)
    | 17 => (0, 0)
    | _ => (0, 0))
  | 1 => (match k with
    | 0 => (2, 7)
    | 1 => (2, 7)
    | _ => (0, 0))
  | 2 => (match k with
    | 0 => (0, 0)
    | 1 => (2, 5)
    | 2 => (2, 5)
    | 3 => (3, 0)
    | 4 => (3, 0)
    | 5 => (0, 0)
    | 6 => (0, 0)
    | 7 => (0, 0)
    | 8 => (2, 8)
    | 9 => (2, 8)
    | _ => (0, 0))
  | 3 => (match k with
    | 0 => (0, 0)
    | 1 => (2, 5)
    | 2 => (2, 5)
    | 3 => (0, 0)
    | 4 => (0, 0)
    | 5 => (2, 3)
    | _ => (0, 0))
  | 4 => (match k with
    | 0 => (2, 6)
    | 1 => (2, 2)
    | 2 => (3, 0)
    | 3 => (1, 0)
    | 4 => (0, 0)
    | 5 => (2, 5)
    | 6 => (2, 4)
    | 7 => (2, 4)
    | 8 => (2, 4)
    | _ => (0, 0))
  | 5 => (match k with
    | 0 => (2, 4)
    | 1 => (2, 4)
    | 2 => (0, 0)
    | _ => (0, 0))
  | 6 => (match k with
    | 0 => (0, 0)
    | 1 => (2, 4)
    | 2 => (3, 0)
    | 3 => (0, 0)
    | 4 => (0, 0)
    | 5 => (2, 4)
    | 6 => (1, 0)
    | 7 => (3, 0)
    | 8 => (0, 0)
    | 9 => (3, 0)
    | _ => (0, 0))
  | 7 => (match k with
    | 0 => (1, 0)
    | 1 => (2, 6)
    | 2 => (2, 2)
    | 3 => (2, 7)
    | _ => (0, 0))
  | 8 => (match k with
    | 0 => (1, 0)
    | 1 => (2, 8)
    | _ => (0, 0))
  | 9 => (match k with
    | 0 => (0, 0)
    | 1 => (0, 0)
    | 2 => (0, 0)
    | 3 => (1, 0)
    | 4 => (2, 101)
    | 5 => (2, 99)
    | 6 => (2, 99)
    | 7 => (2, 100)
    | 8 => (2, 101)
    | 9 => (2, 99)
    | 10 => (2, 101)
    | 11 => (0, 0)
    | 12 => (2, 99)
    | 13 => (2, 101)
    | 14 => (2, 101)
    | 15 => (2, 99)
    | 16 => (0, 0)
    | 17 => (0, 0)
    | 18 => (2, 99)
    | 19 => (2, 100)
    | 20 => (0, 0)
    | 21 => (2, 99)
    | 22 => (2, 99)
    | 23 => (2, 101)
    | 24 => (2, 100)
    | 25 => (2, 99)
    | 26 => (0, 0)
    | 27 => (2, 99)
    | 28 => (2, 101)
    | 29 => (2, 100)
    | 30 => (0, 0)
    | 31 => (2, 99)
    | 32 => (2, 99)
    | 33 => (2, 99)
    | 34 => (0, 0)
    | 35 => (2, 99)
    | 36 => (2, 99)
    | 37 => (2, 101)
    | 38 => (0, 0)
    | 39 => (2, 99)
    | 40 => (2, 100)
    | 41 => (0, 0)
    | _ => (0, 0))
  | _ => (0, 0)
def kx_ak (t : Nat) : Nat × Nat := match t with
  | 99 => (0, 0)
  | 100 => (1, 0)
  | 101 => (3, 0)
  | 102 => (2, 6)
  | 103 => (2, 2)
  | 104 => (2, 4)
  | 105 => (2, 3)
  | _ => (0, 0)
def kx_tys (cA : Nat → ClassId) : List (ClassId × FieldType) := [(cA 99, .int), (cA 100, .long), (cA 101, .boolean), (cA 102, .object "TaskDesk$Task"), (cA 103, .object "TaskDesk$Channel"), (cA 104, .object "TaskDesk$Place"), (cA 105, .object "TaskDesk$Gate")]
def kx_en (e : Nat) : String := match e with
  | 0 => "java/lang/IllegalStateException"
  | 1 => "java/lang/IllegalArgumentException"
  | 2 => "java/lang/UnsupportedOperationException"
  | _ => "java/util/NoSuchElementException"
def kx_cc : Nat := 601024
def kx_cs : Nat := 7293034
def kx_mn (n : Nat) : MethodName := match n with
  | 0 => ⟨"TaskDesk", "<init>", "()V"⟩
  | 1 => ⟨"TaskDesk$Row", "<init>", "()V"⟩
  | 2 => ⟨"TaskDesk$Agenda", "<init>", "()V"⟩
  | 3 => ⟨"TaskDesk$Timer", "<init>", "()V"⟩
  | 4 => ⟨"TaskDesk$Channel", "<init>", "(I)V"⟩
  | 5 => ⟨"TaskDesk$Place", "<init>", "(LTaskDesk$Channel;)V"⟩
  | 6 => ⟨"TaskDesk$Task", "<init>", "(ILTaskDesk$Place;)V"⟩
  | 7 => ⟨"TaskDesk$Gate", "<init>", "(I)V"⟩
  | 8 => ⟨"TaskDesk$Value", "<init>", "()V"⟩
  | 9 => ⟨"TaskDesk", "keepValue", "(LTaskDesk$Value;)V"⟩
  | 10 => ⟨"TaskDesk", "keepPlace", "(LTaskDesk$Place;)V"⟩
  | 11 => ⟨"TaskDesk$Task", "begin", "()V"⟩
  | 12 => ⟨"TaskDesk$Task", "tell", "(JZIZ)V"⟩
  | 13 => ⟨"TaskDesk", "release", "(I)Z"⟩
  | 14 => ⟨"TaskDesk", "channelAt", "(I)LTaskDesk$Channel;"⟩
  | 15 => ⟨"TaskDesk$Channel", "isAwaited", "()Z"⟩
  | 16 => ⟨"TaskDesk", "isTold", "(LTaskDesk$Channel;)Z"⟩
  | 17 => ⟨"TaskDesk", "takeValue", "(LTaskDesk$Channel;)J"⟩
  | 18 => ⟨"TaskDesk$Channel", "removeFirst", "()V"⟩
  | 19 => ⟨"TaskDesk", "current", "()I"⟩
  | 20 => ⟨"TaskDesk", "clock", "()J"⟩
  | 21 => ⟨"TaskDesk", "count", "(I)I"⟩
  | 22 => ⟨"TaskDesk", "howItStands", "()I"⟩
  | 23 => ⟨"TaskDesk", "spawn", "()I"⟩
  | 24 => ⟨"TaskDesk", "mustBeCurrent", "()LTaskDesk$Task;"⟩
  | 25 => ⟨"TaskDesk", "firstFreeTask", "()LTaskDesk$Task;"⟩
  | 26 => ⟨"TaskDesk", "makeReady", "(LTaskDesk$Task;)V"⟩
  | 27 => ⟨"TaskDesk$Task", "waitIn", "(LTaskDesk$Row;II)V"⟩
  | 28 => ⟨"TaskDesk$Row", "append", "(LTaskDesk$Place;)V"⟩
  | 29 => ⟨"TaskDesk", "giveWay", "()I"⟩
  | 30 => ⟨"TaskDesk", "goOn", "()V"⟩
  | 31 => ⟨"TaskDesk$Agenda", "takeFirst", "()LTaskDesk$Timer;"⟩
  | 32 => ⟨"TaskDesk", "ring", "(LTaskDesk$Timer;)V"⟩
  | 33 => ⟨"TaskDesk", "takesAtOnce", "(LTaskDesk$Channel;)Z"⟩
  | 34 => ⟨"TaskDesk", "pass", "(LTaskDesk$Channel;J)V"⟩
  | 35 => ⟨"TaskDesk", "wake", "(LTaskDesk$Place;JZZ)V"⟩
  | 36 => ⟨"TaskDesk", "takeOut", "(LTaskDesk$Task;)V"⟩
  | 37 => ⟨"TaskDesk$Place", "stepOut", "()V"⟩
  | 38 => ⟨"TaskDesk", "putValue", "(LTaskDesk$Channel;J)V"⟩
  | 39 => ⟨"TaskDesk$Channel", "append", "(LTaskDesk$Value;)V"⟩
  | 40 => ⟨"TaskDesk", "finish", "()I"⟩
  | 41 => ⟨"TaskDesk", "endAll", "()V"⟩
  | 42 => ⟨"TaskDesk", "sleep", "(J)I"⟩
  | 43 => ⟨"TaskDesk$Agenda", "note", "(JLTaskDesk$Task;LTaskDesk$Channel;)V"⟩
  | 44 => ⟨"TaskDesk$Agenda", "lastNotAfter", "(J)LTaskDesk$Timer;"⟩
  | 45 => ⟨"TaskDesk", "channel", "(I)I"⟩
  | 46 => ⟨"TaskDesk", "firstFreeChannel", "()LTaskDesk$Channel;"⟩
  | 47 => ⟨"TaskDesk", "alarm", "(IJ)V"⟩
  | 48 => ⟨"TaskDesk", "send", "(IJ)Z"⟩
  | 49 => ⟨"TaskDesk", "mustBeChannel", "(I)LTaskDesk$Channel;"⟩
  | 50 => ⟨"TaskDesk", "receive", "(I)Z"⟩
  | 51 => ⟨"TaskDesk", "givesAtOnce", "(LTaskDesk$Channel;)Z"⟩
  | 52 => ⟨"TaskDesk", "receiveNow", "(LTaskDesk$Task;LTaskDesk$Channel;I)V"⟩
  | 53 => ⟨"TaskDesk", "close", "(I)V"⟩
  | 54 => ⟨"TaskDesk", "wakeAll", "(LTaskDesk$Row;ZZ)V"⟩
  | 55 => ⟨"TaskDesk", "offer", "(IZJ)I"⟩
  | 56 => ⟨"TaskDesk", "choose", "(IZ)Z"⟩
  | 57 => ⟨"TaskDesk", "openCase", "(I)LTaskDesk$Place;"⟩
  | 58 => ⟨"TaskDesk", "isOpen", "(LTaskDesk$Place;)Z"⟩
  | 59 => ⟨"TaskDesk", "doCase", "(LTaskDesk$Task;LTaskDesk$Place;)V"⟩
  | 60 => ⟨"TaskDesk", "forgetCases", "()V"⟩
  | 61 => ⟨"TaskDesk", "waitInCases", "(LTaskDesk$Task;)V"⟩
  | 62 => ⟨"TaskDesk$Task", "adopt", "(LTaskDesk$Place;)V"⟩
  | 63 => ⟨"TaskDesk", "gate", "(II)I"⟩
  | 64 => ⟨"TaskDesk", "gateAt", "(I)LTaskDesk$Gate;"⟩
  | 65 => ⟨"TaskDesk", "enter", "(I)Z"⟩
  | 66 => ⟨"TaskDesk", "mustBeGate", "(I)LTaskDesk$Gate;"⟩
  | 67 => ⟨"TaskDesk", "giveUpLockOf", "(LTaskDesk$Gate;)V"⟩
  | 68 => ⟨"TaskDesk", "giveLockBack", "(LTaskDesk$Gate;)V"⟩
  | 69 => ⟨"TaskDesk$Gate", "letsInAtOnce", "()Z"⟩
  | 70 => ⟨"TaskDesk$Gate", "take", "()V"⟩
  | 71 => ⟨"TaskDesk", "read", "(I)Z"⟩
  | 72 => ⟨"TaskDesk", "leave", "(I)V"⟩
  | 73 => ⟨"TaskDesk$Gate", "canBeLeft", "()Z"⟩
  | 74 => ⟨"TaskDesk", "endWriting", "(LTaskDesk$Gate;)V"⟩
  | 75 => ⟨"TaskDesk", "letWriterIn", "(LTaskDesk$Gate;)V"⟩
  | 76 => ⟨"TaskDesk", "setGroup", "(LTaskDesk$Gate;I)V"⟩
  | 77 => ⟨"TaskDesk", "wakeFirstOfSignal", "(LTaskDesk$Gate;)V"⟩
  | 78 => ⟨"TaskDesk", "change", "(II)V"⟩
  | 79 => ⟨"TaskDesk$Gate", "canChangeBy", "(I)Z"⟩
  | 80 => ⟨"TaskDesk", "endReading", "(LTaskDesk$Gate;)V"⟩
  | 81 => ⟨"TaskDesk", "wakeAllOfSignal", "(LTaskDesk$Gate;)V"⟩
  | 82 => ⟨"TaskDesk", "task", "(II)I"⟩
  | 83 => ⟨"TaskDesk", "mustBeTask", "(I)LTaskDesk$Task;"⟩
  | 84 => ⟨"TaskDesk", "countBefore", "(LTaskDesk$Place;)I"⟩
  | 85 => ⟨"TaskDesk", "outcome", "(I)J"⟩
  | 86 => ⟨"TaskDesk", "look", "(II)I"⟩
  | 87 => ⟨"TaskDesk", "watch", "(II)I"⟩
  | 88 => ⟨"TaskDeskModel", "<init>", "()V"⟩
  | 89 => ⟨"TaskDeskModel", "thrown", "()I"⟩
  | 90 => ⟨"TaskDeskModel", "channel", "(I)I"⟩
  | 91 => ⟨"TaskDeskModel", "fail", "(I)I"⟩
  | 92 => ⟨"TaskDeskModel", "release", "(I)Z"⟩
  | 93 => ⟨"TaskDeskModel", "isChannel", "(I)Z"⟩
  | 94 => ⟨"TaskDeskModel", "first", "(IZ)I"⟩
  | 95 => ⟨"TaskDeskModel", "held", "(I)I"⟩
  | 96 => ⟨"TaskDeskModel", "takeFirst", "(I)J"⟩
  | 97 => ⟨"TaskDeskModel", "alarm", "(IJ)V"⟩
  | 98 => ⟨"TaskDeskModel", "send", "(IJ)Z"⟩
  | 99 => ⟨"TaskDeskModel", "no", "(I)Z"⟩
  | 100 => ⟨"TaskDeskModel", "maySend", "(I)Z"⟩
  | 101 => ⟨"TaskDeskModel", "deliver", "(IJ)V"⟩
  | 102 => ⟨"TaskDeskModel", "met", "(IJZZ)V"⟩
  | 103 => ⟨"TaskDeskModel", "has", "(IJZIZ)V"⟩
  | 104 => ⟨"TaskDeskModel", "withdraw", "(I)V"⟩
  | 105 => ⟨"TaskDeskModel", "wake", "(I)V"⟩
  | 106 => ⟨"TaskDeskModel", "store", "(IJ)V"⟩
  | 107 => ⟨"TaskDeskModel", "offer", "(IIZJI)V"⟩
  | 108 => ⟨"TaskDeskModel", "rest", "(II)V"⟩
  | 109 => ⟨"TaskDeskModel", "next", "()V"⟩
  | 110 => ⟨"TaskDeskModel", "ring", "()V"⟩
  | 111 => ⟨"TaskDeskModel", "rings", "(I)V"⟩
  | 112 => ⟨"TaskDeskModel", "receive", "(I)Z"⟩
  | 113 => ⟨"TaskDeskModel", "mayReceive", "(I)Z"⟩
  | 114 => ⟨"TaskDeskModel", "take", "(II)V"⟩
  | 115 => ⟨"TaskDeskModel", "close", "(I)V"⟩
  | 116 => ⟨"TaskDeskModel", "offer", "(IZJ)I"⟩
  | 117 => ⟨"TaskDeskModel", "choose", "(IZ)Z"⟩
  | 118 => ⟨"TaskDeskModel", "isReady", "(I)Z"⟩
  | 119 => ⟨"TaskDeskModel", "done", "(I)Z"⟩
  | 120 => ⟨"TaskDeskModel", "spawn", "()I"⟩
  | 121 => ⟨"TaskDeskModel", "giveWay", "()I"⟩
  | 122 => ⟨"TaskDeskModel", "finish", "()I"⟩
  | 123 => ⟨"TaskDeskModel", "sleep", "(J)I"⟩
  | 124 => ⟨"TaskDeskModel", "gate", "(II)I"⟩
  | 125 => ⟨"TaskDeskModel", "isGate", "(I)Z"⟩
  | 126 => ⟨"TaskDeskModel", "enter", "(I)Z"⟩
  | 127 => ⟨"TaskDeskModel", "passes", "(ZIZZ)Z"⟩
  | 128 => ⟨"TaskDeskModel", "stand", "(IIZ)V"⟩
  | 129 => ⟨"TaskDeskModel", "unlock", "(I)V"⟩
  | 130 => ⟨"TaskDeskModel", "standing", "(II)I"⟩
  | 131 => ⟨"TaskDeskModel", "lets", "(IZ)V"⟩
  | 132 => ⟨"TaskDeskModel", "takeOut", "(I)I"⟩
  | 133 => ⟨"TaskDeskModel", "read", "(I)Z"⟩
  | 134 => ⟨"TaskDeskModel", "leave", "(I)V"⟩
  | 135 => ⟨"TaskDeskModel", "letReaders", "(I)V"⟩
  | 136 => ⟨"TaskDeskModel", "letWriter", "(I)V"⟩
  | 137 => ⟨"TaskDeskModel", "grow", "(II)V"⟩
  | 138 => ⟨"TaskDeskModel", "letAll", "(IZ)V"⟩
  | 139 => ⟨"TaskDeskModel", "signal", "(I)V"⟩
  | 140 => ⟨"TaskDeskModel", "change", "(II)V"⟩
  | 141 => ⟨"TaskDeskModel", "waitAt", "(I)I"⟩
  | 142 => ⟨"TaskDeskModel", "current", "()I"⟩
  | 143 => ⟨"TaskDeskModel", "task", "(II)I"⟩
  | 144 => ⟨"TaskDeskModel", "isTask", "(I)Z"⟩
  | 145 => ⟨"TaskDeskModel", "outcome", "(I)J"⟩
  | 146 => ⟨"TaskDeskModel", "look", "(II)I"⟩
  | 147 => ⟨"TaskDeskModel", "watch", "(II)I"⟩
  | 148 => ⟨"TaskDeskModel", "clock", "()J"⟩
  | 149 => ⟨"TaskDeskModel", "count", "(I)I"⟩
  | 150 => ⟨"TaskDeskModel", "living", "()I"⟩
  | 151 => ⟨"TaskDeskModel", "channels", "()I"⟩
  | _ => ⟨"", "", ""⟩
def kx_pm (n : Nat) : List Nat := match n with
  | 0 => [2]
  | 1 => [7]
  | 2 => [3]
  | 3 => [9]
  | 4 => [4, 0]
  | 5 => [6, 4]
  | 6 => [8, 0, 6]
  | 7 => [5, 0]
  | 8 => [10]
  | 9 => [2, 10]
  | 10 => [2, 6]
  | 11 => [8]
  | 12 => [8, 1, 0, 0, 0]
  | 13 => [2, 0]
  | 14 => [2, 0]
  | 15 => [4]
  | 16 => [2, 4]
  | 17 => [2, 4]
  | 18 => [4]
  | 19 => [2]
  | 20 => [2]
  | 21 => [2, 0]
  | 22 => [2]
  | 23 => [2]
  | 24 => [2]
  | 25 => [2]
  | 26 => [2, 8]
  | 27 => [8, 7, 0, 0]
  | 28 => [7, 6]
  | 29 => [2]
  | 30 => [2]
  | 31 => [3]
  | 32 => [2, 9]
  | 33 => [2, 4]
  | 34 => [2, 4, 1]
  | 35 => [2, 6, 1, 0, 0]
  | 36 => [2, 8]
  | 37 => [6]
  | 38 => [2, 4, 1]
  | 39 => [4, 10]
  | 40 => [2]
  | 41 => [2]
  | 42 => [2, 1]
  | 43 => [3, 1, 8, 4]
  | 44 => [3, 1]
  | 45 => [2, 0]
  | 46 => [2]
  | 47 => [2, 0, 1]
  | 48 => [2, 0, 1]
  | 49 => [2, 0]
  | 50 => [2, 0]
  | 51 => [2, 4]
  | 52 => [2, 8, 4, 0]
  | 53 => [2, 0]
  | 54 => [2, 7, 0, 0]
  | 55 => [2, 0, 0, 1]
  | 56 => [2, 0, 0]
  | 57 => [2, 0]
  | 58 => [2, 6]
  | 59 => [2, 8, 6]
  | 60 => [2]
  | 61 => [2, 8]
  | 62 => [8, 6]
  | 63 => [2, 0, 0]
  | 64 => [2, 0]
  | 65 => [2, 0]
  | 66 => [2, 0]
  | 67 => [2, 5]
  | 68 => [2, 5]
  | 69 => [5]
  | 70 => [5]
  | 71 => [2, 0]
  | 72 => [2, 0]
  | 73 => [5]
  | 74 => [2, 5]
  | 75 => [2, 5]
  | 76 => [2, 5, 0]
  | 77 => [2, 5]
  | 78 => [2, 0, 0]
  | 79 => [5, 0]
  | 80 => [2, 5]
  | 81 => [2, 5]
  | 82 => [2, 0, 0]
  | 83 => [2, 0]
  | 84 => [2, 6]
  | 85 => [2, 0]
  | 86 => [2, 0, 0]
  | 87 => [2, 0, 0]
  | 88 => [11]
  | 89 => [11]
  | 90 => [11, 0]
  | 91 => [11, 0]
  | 92 => [11, 0]
  | 93 => [11, 0]
  | 94 => [11, 0, 0]
  | 95 => [11, 0]
  | 96 => [11, 0]
  | 97 => [11, 0, 1]
  | 98 => [11, 0, 1]
  | 99 => [11, 0]
  | 100 => [11, 0]
  | 101 => [11, 0, 1]
  | 102 => [11, 0, 1, 0, 0]
  | 103 => [11, 0, 1, 0, 0, 0]
  | 104 => [11, 0]
  | 105 => [11, 0]
  | 106 => [11, 0, 1]
  | 107 => [11, 0, 0, 0, 1, 0]
  | 108 => [11, 0, 0]
  | 109 => [11]
  | 110 => [11]
  | 111 => [11, 0]
  | 112 => [11, 0]
  | 113 => [11, 0]
  | 114 => [11, 0, 0]
  | 115 => [11, 0]
  | 116 => [11, 0, 0, 1]
  | 117 => [11, 0, 0]
  | 118 => [11, 0]
  | 119 => [11, 0]
  | 120 => [11]
  | 121 => [11]
  | 122 => [11]
  | 123 => [11, 1]
  | 124 => [11, 0, 0]
  | 125 => [11, 0]
  | 126 => [11, 0]
  | 127 => [11, 0, 0, 0, 0]
  | 128 => [11, 0, 0, 0]
  | 129 => [11, 0]
  | 130 => [11, 0, 0]
  | 131 => [11, 0, 0]
  | 132 => [11, 0]
  | 133 => [11, 0]
  | 134 => [11, 0]
  | 135 => [11, 0]
  | 136 => [11, 0]
  | 137 => [11, 0, 0]
  | 138 => [11, 0, 0]
  | 139 => [11, 0]
  | 140 => [11, 0, 0]
  | 141 => [11, 0]
  | 142 => [11]
  | 143 => [11, 0, 0]
  | 144 => [11, 0]
  | 145 => [11, 0]
  | 146 => [11, 0, 0]
  | 147 => [11, 0, 0]
  | 148 => [11]
  | 149 => [11, 0]
  | 150 => [11]
  | 151 => [11]
  | _ => []
def kx_ths : List (String × Nat × Nat) := [("TaskDesk", 100, 0), ("TaskDesk", 130, 1), ("TaskDesk", 199, 2), ("TaskDesk", 377, 3)]
end
section
def kx_kb (w : Cond) : Bool := match w with
  | .methodLinkNest .. => true
  | .fieldLinkNest .. => true
  | .castable .. => true
  | .arrayOver (.object _) => true
  | .arrayClass _ => true
  | .declares _ => true
  | .stringRef .. => true
  | w => w.onTables && w.keeps
/-- the words that stay -/
def kx_WS : List Cond := lw_tbl.filter kx_kb
theorem kx_in_ws {w : Cond} (h : w ∈ lw_tbl) (hk : kx_kb w = true) : w ∈ kx_WS := List.mem_filter.mpr ⟨h, hk⟩
end
section
/-! A heap of typed cells by numbers, and what one instruction does to it, as a function. -/
abbrev kx_V : Type := Int32 ⊕ (Int64 ⊕ (Nat × Option Nat))
abbrev kx_R : Type := Option kx_V ⊕ Nat
/-- tag of a cell; its ints, longs, references, booleans by place; its length; the next number; cells and slots made -/
abbrev kx_H : Type := (Nat → Option Nat) × (Nat → Nat → Int32) × (Nat → Nat → Int64) × (Nat → Nat → Option Nat) × (Nat → Nat → Bool) × (Nat → Nat) × Nat × Nat × Nat
abbrev kx_O : Type := Option (kx_R × kx_H)
abbrev kx_L : Type := List (Nat × kx_V)
abbrev kx_F : Type := kx_L → List kx_V → kx_H → kx_O
abbrev kx_C : Type := Nat → List kx_V → kx_H → kx_O
abbrev kx_i (x : Int32) : kx_V := .inl x
abbrev kx_l (x : Int64) : kx_V := .inr (.inl x)
abbrev kx_r (t : Nat) (o : Option Nat) : kx_V := .inr (.inr (t, o))
def hp_T (h : kx_H) : Nat → Option Nat := h.1
def hp_I (h : kx_H) : Nat → Nat → Int32 := h.2.1
def hp_L (h : kx_H) : Nat → Nat → Int64 := h.2.2.1
def hp_R (h : kx_H) : Nat → Nat → Option Nat := h.2.2.2.1
def hp_B (h : kx_H) : Nat → Nat → Bool := h.2.2.2.2.1
def hp_N (h : kx_H) : Nat → Nat := h.2.2.2.2.2.1
def hp_X (h : kx_H) : Nat := h.2.2.2.2.2.2.1
def hp_C (h : kx_H) : Nat := h.2.2.2.2.2.2.2.1
def hp_U (h : kx_H) : Nat := h.2.2.2.2.2.2.2.2
def hp_sI (h : kx_H) (a k : Nat) (v : Int32) : kx_H := (h.1, fun b j => if b = a ∧ j = k then v else h.2.1 b j, h.2.2)
def hp_sL (h : kx_H) (a k : Nat) (v : Int64) : kx_H := (h.1, h.2.1, fun b j => if b = a ∧ j = k then v else h.2.2.1 b j, h.2.2.2)
def hp_sR (h : kx_H) (a k : Nat) (v : Option Nat) : kx_H := (h.1, h.2.1, h.2.2.1, fun b j => if b = a ∧ j = k then v else h.2.2.2.1 b j, h.2.2.2.2)
def hp_sB (h : kx_H) (a k : Nat) (v : Bool) : kx_H := (h.1, h.2.1, h.2.2.1, h.2.2.2.1, fun b j => if b = a ∧ j = k then v else h.2.2.2.2.1 b j, h.2.2.2.2.2)
def hp_new (h : kx_H) (t n w : Nat) : kx_H :=
  (fun b => if b = hp_X h then some t else hp_T h b, fun b j => if b = hp_X h then 0 else hp_I h b j, fun b j => if b = hp_X h then 0 else hp_L h b j, fun b j => if b = hp_X h then none else hp_R h b j, fun b j => if b = hp_X h then false else hp_B h b j,
   fun b => if b = hp_X h then n else hp_N h b, hp_X h + 1, hp_C h + 1, hp_U h + w)
def hp_bump (h : kx_H) (k n : Nat) : kx_H := (hp_T h, hp_I h, hp_L h, hp_R h, hp_B h, hp_N h, hp_X h, hp_C h + k, hp_U h + n)
def kx_b (b : Bool) : Int32 := bif b then 1 else 0
def kx_two (v : kx_V) : Bool := match v with
  | .inr (.inl _) => true
  | _ => false
def kx_get (l : kx_L) (i : Nat) : Option kx_V := match l with
  | [] => none
  | q :: r => bif Nat.beq q.1 i then some q.2 else kx_get r i
def kx_put1 (l : kx_L) (i : Nat) (v : kx_V) : kx_L := (i, v) :: l.filter (fun q => !(q.1 == i) && !(q.1 + 1 == i && kx_two q.2))
def kx_put2 (l : kx_L) (i : Nat) (v : kx_V) : kx_L := (i, v) :: l.filter (fun q => !(q.1 == i) && (!(q.1 == i + 1) && !(q.1 + 1 == i && kx_two q.2)))
def kx_pick (l : kx_L) (is : List Nat) : Option kx_L := match is with
  | [] => some []
  | i :: r => (kx_get l i).bind fun v => (kx_pick l r).bind fun t => some ((i, v) :: t)
/-- the live locals, in their order -/
def kx_nm (is : List Nat) (k : kx_F) : kx_F := fun l st h => (kx_pick l is).bind fun l' => k l' st h
def kx_c (v : kx_V) (k : kx_F) : kx_F := fun l st h => k l (v :: st) h
def kx_li (i : Nat) (k : kx_F) : kx_F := fun l st h => match kx_get l i with
  | some (.inl x) => k l (.inl x :: st) h
  | _ => none
def kx_ll (i : Nat) (k : kx_F) : kx_F := fun l st h => match kx_get l i with
  | some (.inr (.inl x)) => k l (.inr (.inl x) :: st) h
  | _ => none
def kx_la (i : Nat) (k : kx_F) : kx_F := fun l st h => match kx_get l i with
  | some (.inr (.inr x)) => k l (.inr (.inr x) :: st) h
  | _ => none
def kx_si (i : Nat) (k : kx_F) : kx_F := fun l st h => match st with
  | .inl x :: r => k (kx_put1 l i (.inl x)) r h
  | _ => none
def kx_sl (i : Nat) (k : kx_F) : kx_F := fun l st h => match st with
  | .inr (.inl x) :: r => k (kx_put2 l i (.inr (.inl x))) r h
  | _ => none
def kx_sa (i : Nat) (k : kx_F) : kx_F := fun l st h => match st with
  | .inr (.inr x) :: r => k (kx_put1 l i (.inr (.inr x))) r h
  | _ => none
def kx_inc (i : Nat) (n : Int32) (k : kx_F) : kx_F := fun l st h => match kx_get l i with
  | some (.inl x) => k (kx_put1 l i (.inl (x + n))) st h
  | _ => none
/-- two ints, an int -/
def kx_ii (f : Int32 → Int32 → Int32) (k : kx_F) : kx_F := fun l st h => match st with
  | .inl y :: .inl x :: r => k l (.inl (f x y) :: r) h
  | _ => none
def kx_irem (k : kx_F) : kx_F := fun l st h => match st with
  | .inl y :: .inl x :: r => if y = 0 then none else k l (.inl (x - x / y * y) :: r) h
  | _ => none
def kx_idiv (k : kx_F) : kx_F := fun l st h => match st with
  | .inl y :: .inl x :: r => if y = 0 then none else k l (.inl (x / y) :: r) h
  | _ => none
def kx_ineg (k : kx_F) : kx_F := fun l st h => match st with
  | .inl x :: r => k l (.inl (-x) :: r) h
  | _ => none
/-- two longs, a long -/
def kx_jj (f : Int64 → Int64 → Int64) (k : kx_F) : kx_F := fun l st h => match st with
  | .inr (.inl y) :: .inr (.inl x) :: r => k l (.inr (.inl (f x y)) :: r) h
  | _ => none
/-- a long and an int, a long -/
def kx_ji (f : Int64 → Int32 → Int64) (k : kx_F) : kx_F := fun l st h => match st with
  | .inl y :: .inr (.inl x) :: r => k l (.inr (.inl (f x y)) :: r) h
  | _ => none
def kx_i2l (k : kx_F) : kx_F := fun l st h => match st with
  | .inl x :: r => k l (.inr (.inl x.toInt64) :: r) h
  | _ => none
def kx_l2i (k : kx_F) : kx_F := fun l st h => match st with
  | .inr (.inl x) :: r => k l (.inl x.toInt32 :: r) h
  | _ => none
def kx_lcmp (k : kx_F) : kx_F := fun l st h => match st with
  | .inr (.inl y) :: .inr (.inl x) :: r => k l (.inl (lg_cmp x y) :: r) h
  | _ => none
def kx_dup (k : kx_F) : kx_F := fun l st h => match st with
  | v :: r => bif kx_two v then none else k l (v :: v :: r) h
  | _ => none
def kx_pop (k : kx_F) : kx_F := fun l st h => match st with
  | v :: r => bif kx_two v then none else k l r h
  | _ => none
def kx_dupx1 (k : kx_F) : kx_F := fun l st h => match st with
  | v :: w :: r => bif kx_two v then none else bif kx_two w then none else k l (v :: w :: v :: r) h
  | _ => none
/-- dup2 of two values of one word -/
def kx_dup2 (k : kx_F) : kx_F := fun l st h => match st with
  | v :: w :: r => bif kx_two v then none else bif kx_two w then none else k l (v :: w :: v :: w :: r) h
  | _ => none
def kx_ifeq (t k : kx_F) : kx_F := fun l st h => match st with
  | .inl x :: r => if x = 0 then t l r h else k l r h
  | _ => none
def kx_ifne (t k : kx_F) : kx_F := fun l st h => match st with
  | .inl x :: r => if x = 0 then k l r h else t l r h
  | _ => none
def kx_iflt (t k : kx_F) : kx_F := fun l st h => match st with
  | .inl x :: r => if x < 0 then t l r h else k l r h
  | _ => none
def kx_ifge (t k : kx_F) : kx_F := fun l st h => match st with
  | .inl x :: r => if 0 ≤ x then t l r h else k l r h
  | _ => none
def kx_ifgt (t k : kx_F) : kx_F := fun l st h => match st with
  | .inl x :: r => if 0 < x then t l r h else k l r h
  | _ => none
def kx_ifle (t k : kx_F) : kx_F := fun l st h => match st with
  | .inl x :: r => if x ≤ 0 then t l r h else k l r h
  | _ => none
def kx_ceq (t k : kx_F) : kx_F := fun l st h => match st with
  | .inl y :: .inl x :: r => if x = y then t l r h else k l r h
  | _ => none
def kx_cne (t k : kx_F) : kx_F := fun l st h => match st with
  | .inl y :: .inl x :: r => if x = y then k l r h else t l r h
  | _ => none
def kx_clt (t k : kx_F) : kx_F := fun l st h => match st with
  | .inl y :: .inl x :: r => if x < y then t l r h else k l r h
  | _ => none
def kx_cge (t k : kx_F) : kx_F := fun l st h => match st with
  | .inl y :: .inl x :: r => if y ≤ x then t l r h else k l r h
  | _ => none
def kx_cgt (t k : kx_F) : kx_F := fun l st h => match st with
  | .inl y :: .inl x :: r => if y < x then t l r h else k l r h
  | _ => none
def kx_cle (t k : kx_F) : kx_F := fun l st h => match st with
  | .inl y :: .inl x :: r => if x ≤ y then t l r h else k l r h
  | _ => none
def kx_aeq (t k : kx_F) : kx_F := fun l st h => match st with
  | .inr (.inr y) :: .inr (.inr x) :: r => bif Nat.beq x.1 y.1 then (if x.2 = y.2 then t l r h else k l r h) else none
  | _ => none
def kx_ane (t k : kx_F) : kx_F := fun l st h => match st with
  | .inr (.inr y) :: .inr (.inr x) :: r => bif Nat.beq x.1 y.1 then (if x.2 = y.2 then k l r h else t l r h) else none
  | _ => none
def kx_nul (t k : kx_F) : kx_F := fun l st h => match st with
  | .inr (.inr x) :: r => if x.2 = none then t l r h else k l r h
  | _ => none
def kx_nnul (t k : kx_F) : kx_F := fun l st h => match st with
  | .inr (.inr x) :: r => if x.2 = none then k l r h else t l r h
  | _ => none
/-- a switch, by its numbers in their order -/
def kx_swl (x : Int32) (cs : List (Int32 × kx_F)) (d : kx_F) : kx_F := match cs with
  | [] => d
  | q :: r => fun l st h => if x = q.1 then q.2 l st h else kx_swl x r d l st h
def kx_sw (cs : List (Int32 × kx_F)) (d : kx_F) : kx_F := fun l st h => match st with
  | .inl x :: r => kx_swl x cs d l r h
  | _ => none
/-- fields: the class's tag, the field's place -/
def kx_gI (t p : Nat) (k : kx_F) : kx_F := fun l st h => match st with
  | .inr (.inr x) :: r => bif Nat.beq x.1 t then x.2.bind (fun a => k l (.inl (hp_I h a p) :: r) h) else none
  | _ => none
def kx_gL (t p : Nat) (k : kx_F) : kx_F := fun l st h => match st with
  | .inr (.inr x) :: r => bif Nat.beq x.1 t then x.2.bind (fun a => k l (.inr (.inl (hp_L h a p)) :: r) h) else none
  | _ => none
def kx_gR (t p c : Nat) (k : kx_F) : kx_F := fun l st h => match st with
  | .inr (.inr x) :: r => bif Nat.beq x.1 t then x.2.bind (fun a => k l (.inr (.inr (c, hp_R h a p)) :: r) h) else none
  | _ => none
def kx_gB (t p : Nat) (k : kx_F) : kx_F := fun l st h => match st with
  | .inr (.inr x) :: r => bif Nat.beq x.1 t then x.2.bind (fun a => k l (.inl (kx_b (hp_B h a p)) :: r) h) else none
  | _ => none
def kx_pI (t p : Nat) (k : kx_F) : kx_F := fun l st h => match st with
  | .inl v :: .inr (.inr x) :: r => bif Nat.beq x.1 t then x.2.bind (fun a => k l r (hp_sI h a p v)) else none
  | _ => none
def kx_pL (t p : Nat) (k : kx_F) : kx_F := fun l st h => match st with
  | .inr (.inl v) :: .inr (.inr x) :: r => bif Nat.beq x.1 t then x.2.bind (fun a => k l r (hp_sL h a p v)) else none
  | _ => none
def kx_pR (t p c : Nat) (k : kx_F) : kx_F := fun l st h => match st with
  | .inr (.inr v) :: .inr (.inr x) :: r => bif (Nat.beq x.1 t && Nat.beq v.1 c) then x.2.bind (fun a => k l r (hp_sR h a p v.2)) else none
  | _ => none
def kx_pB (t p : Nat) (k : kx_F) : kx_F := fun l st h => match st with
  | .inl v :: .inr (.inr x) :: r => bif Nat.beq x.1 t then x.2.bind (fun a => if v = 0 then k l r (hp_sB h a p false) else if v = 1 then k l r (hp_sB h a p true) else none) else none
  | _ => none
/-- arrays: the array's tag -/
def kx_len (t : Nat) (k : kx_F) : kx_F := fun l st h => match st with
  | .inr (.inr x) :: r => bif Nat.beq x.1 t then x.2.bind (fun a => k l (.inl (Int32.ofNat (hp_N h a)) :: r) h) else none
  | _ => none
def kx_aI (t : Nat) (k : kx_F) : kx_F := fun l st h => match st with
  | .inl i :: .inr (.inr x) :: r => bif Nat.beq x.1 t then x.2.bind (fun a => if i < 0 ∨ hp_N h a ≤ i.toNatClampNeg then none else k l (.inl (hp_I h a i.toNatClampNeg) :: r) h) else none
  | _ => none
def kx_aL (t : Nat) (k : kx_F) : kx_F := fun l st h => match st with
  | .inl i :: .inr (.inr x) :: r => bif Nat.beq x.1 t then x.2.bind (fun a => if i < 0 ∨ hp_N h a ≤ i.toNatClampNeg then none else k l (.inr (.inl (hp_L h a i.toNatClampNeg)) :: r) h) else none
  | _ => none
def kx_aR (t c : Nat) (k : kx_F) : kx_F := fun l st h => match st with
  | .inl i :: .inr (.inr x) :: r => bif Nat.beq x.1 t then x.2.bind (fun a => if i < 0 ∨ hp_N h a ≤ i.toNatClampNeg then none else k l (.inr (.inr (c, hp_R h a i.toNatClampNeg)) :: r) h) else none
  | _ => none
def kx_aB (t : Nat) (k : kx_F) : kx_F := fun l st h => match st with
  | .inl i :: .inr (.inr x) :: r => bif Nat.beq x.1 t then x.2.bind (fun a => if i < 0 ∨ hp_N h a ≤ i.toNatClampNeg then none else k l (.inl (kx_b (hp_B h a i.toNatClampNeg)) :: r) h) else none
  | _ => none
def kx_asI (t : Nat) (k : kx_F) : kx_F := fun l st h => match st with
  | .inl v :: .inl i :: .inr (.inr x) :: r => bif Nat.beq x.1 t then x.2.bind (fun a => if i < 0 ∨ hp_N h a ≤ i.toNatClampNeg then none else k l r (hp_sI h a i.toNatClampNeg v)) else none
  | _ => none
def kx_asL (t : Nat) (k : kx_F) : kx_F := fun l st h => match st with
  | .inr (.inl v) :: .inl i :: .inr (.inr x) :: r => bif Nat.beq x.1 t then x.2.bind (fun a => if i < 0 ∨ hp_N h a ≤ i.toNatClampNeg then none else k l r (hp_sL h a i.toNatClampNeg v)) else none
  | _ => none
def kx_asR (t c : Nat) (k : kx_F) : kx_F := fun l st h => match st with
  | .inr (.inr v) :: .inl i :: .inr (.inr x) :: r => bif (Nat.beq x.1 t && Nat.beq v.1 c) then x.2.bind (fun a => if i < 0 ∨ hp_N h a ≤ i.toNatClampNeg then none else k l r (hp_sR h a i.toNatClampNeg v.2)) else none
  | _ => none
def kx_asB (t : Nat) (k : kx_F) : kx_F := fun l st h => match st with
  | .inl v :: .inl i :: .inr (.inr x) :: r => bif Nat.beq x.1 t then x.2.bind (fun a => if i < 0 ∨ hp_N h a ≤ i.toNatClampNeg then none else if v = 0 then k l r (hp_sB h a i.toNatClampNeg false) else if v = 1 then k l r (hp_sB h a i.toNatClampNeg true) else none) else none
  | _ => none
/-- a new object of w fields -/
def kx_new (cc cs t w : Nat) (k : kx_F) : kx_F := fun l st h =>
  if hp_C h + 1 ≤ cc ∧ hp_U h + w ≤ cs then k l (.inr (.inr (t, some (hp_X h))) :: st) (hp_new h t 0 w) else none
/-- a new array -/
def kx_newa (cc cs t : Nat) (k : kx_F) : kx_F := fun l st h => match st with
  | .inl n :: r => if n < 0 ∨ 60000000 < n.toNatClampNeg then none else if hp_C h + 1 ≤ cc ∧ hp_U h + n.toNatClampNeg ≤ cs then k l (.inr (.inr (t, some (hp_X h))) :: r) (hp_new h t n.toNatClampNeg n.toNatClampNeg) else none
  | _ => none
/-- Object's constructor -/
def kx_obj (k : kx_F) : kx_F := fun l st h => match st with
  | .inr (.inr x) :: r => bif Nat.ble r.length 8 then x.2.bind (fun _ => k l r h) else none
  | _ => none
/-- behind a call -/
def kx_bv (o : kx_O) (k : kx_H → kx_O) : kx_O := o.bind fun q => match q.1 with
  | .inl none => k q.2
  | .inr e => some (.inr e, q.2)
  | _ => none
def kx_bi (o : kx_O) (k : Int32 → kx_H → kx_O) : kx_O := o.bind fun q => match q.1 with
  | .inl (some (.inl x)) => k x q.2
  | .inr e => some (.inr e, q.2)
  | _ => none
def kx_bl (o : kx_O) (k : Int64 → kx_H → kx_O) : kx_O := o.bind fun q => match q.1 with
  | .inl (some (.inr (.inl x))) => k x q.2
  | .inr e => some (.inr e, q.2)
  | _ => none
def kx_br (c : Nat) (o : kx_O) (k : Option Nat → kx_H → kx_O) : kx_O := o.bind fun q => match q.1 with
  | .inl (some (.inr (.inr x))) => bif Nat.beq x.1 c then k x.2 q.2 else none
  | .inr e => some (.inr e, q.2)
  | _ => none
/-- which values a method takes: 0 an int, 1 a long, 2 + c a reference of the tag c -/
def kx_fit (p : Nat) (v : kx_V) : Bool := match v with
  | .inl _ => Nat.beq p 0
  | .inr (.inl _) => Nat.beq p 1
  | .inr (.inr x) => Nat.beq p (x.1 + 2)
def kx_fits (ps : List Nat) (vs : List kx_V) : Bool := match ps, vs with
  | [], [] => true
  | p :: ps, v :: vs => kx_fit p v && kx_fits ps vs
  | _, _ => false
/-- the arguments of a static method -/
def kx_as (ps : List Nat) (st : List kx_V) (k : List kx_V → List kx_V → kx_O) : kx_O :=
  bif (kx_fits ps (st.take ps.length).reverse && Nat.ble (st.drop ps.length).length 4) then k (st.take ps.length).reverse (st.drop ps.length) else none
/-- .. and of a method of an object of the tag t -/
def kx_ao (t : Nat) (ps : List Nat) (st : List kx_V) (k : List kx_V → List kx_V → kx_O) : kx_O :=
  bif kx_fits ps (st.take ps.length).reverse then (match st.drop ps.length with
    | .inr (.inr x) :: r => bif (Nat.beq x.1 t && Nat.ble r.length 4) then x.2.bind (fun a => k (.inr (.inr (t, some a)) :: (st.take ps.length).reverse) r) else none
    | _ => none) else none
def kx_Sv (C : kx_C) (n : Nat) (ps : List Nat) (k : kx_F) : kx_F := fun l st h => kx_as ps st fun as r => kx_bv (C n as h) fun h' => k l r h'
def kx_Si (C : kx_C) (n : Nat) (ps : List Nat) (k : kx_F) : kx_F := fun l st h => kx_as ps st fun as r => kx_bi (C n as h) fun x h' => k l (.inl x :: r) h'
def kx_Sl (C : kx_C) (n : Nat) (ps : List Nat) (k : kx_F) : kx_F := fun l st h => kx_as ps st fun as r => kx_bl (C n as h) fun x h' => k l (.inr (.inl x) :: r) h'
def kx_Sr (C : kx_C) (n : Nat) (ps : List Nat) (c : Nat) (k : kx_F) : kx_F := fun l st h => kx_as ps st fun as r => kx_br c (C n as h) fun x h' => k l (.inr (.inr (c, x)) :: r) h'
def kx_Vv (C : kx_C) (n t : Nat) (ps : List Nat) (k : kx_F) : kx_F := fun l st h => kx_ao t ps st fun as r => kx_bv (C n as h) fun h' => k l r h'
def kx_Vi (C : kx_C) (n t : Nat) (ps : List Nat) (k : kx_F) : kx_F := fun l st h => kx_ao t ps st fun as r => kx_bi (C n as h) fun x h' => k l (.inl x :: r) h'
def kx_Vl (C : kx_C) (n t : Nat) (ps : List Nat) (k : kx_F) : kx_F := fun l st h => kx_ao t ps st fun as r => kx_bl (C n as h) fun x h' => k l (.inr (.inl x) :: r) h'
def kx_Vr (C : kx_C) (n t : Nat) (ps : List Nat) (c : Nat) (k : kx_F) : kx_F := fun l st h => kx_ao t ps st fun as r => kx_br c (C n as h) fun x h' => k l (.inr (.inr (c, x)) :: r) h'
/-- ends -/
def kx_rv : kx_F := fun _ st h => match st with
  | [] => some (.inl none, h)
  | _ => none
def kx_ri : kx_F := fun _ st h => match st with
  | [.inl x] => some (.inl (some (.inl x)), h)
  | _ => none
def kx_rz : kx_F := fun _ st h => match st with
  | [.inl x] => if x = 0 ∨ x = 1 then some (.inl (some (.inl x)), h) else none
  | _ => none
def kx_rl : kx_F := fun _ st h => match st with
  | [.inr (.inl x)] => some (.inl (some (.inr (.inl x))), h)
  | _ => none
def kx_rr : kx_F := fun _ st h => match st with
  | [.inr (.inr x)] => some (.inl (some (.inr (.inr x))), h)
  | _ => none
/-- throw new E("text") -/
def kx_th (cc cs e : Nat) : kx_F := fun _ st h => match st with
  | [] => if hp_C h + 1 ≤ cc ∧ hp_U h + 6 ≤ cs then some (.inr e, hp_bump h 1 6) else none
  | _ => none
/-- a method by its blocks -/
def kx_ex (B : Nat → (Nat → kx_F) → kx_F) : Nat → Nat → kx_F
  | 0, _ => fun _ _ _ => none
  | n + 1, b => B b (kx_ex B n)
/-- the locals at the start -/
def kx_in : Nat → List kx_V → kx_L
  | _, [] => []
  | i, v :: vs => (i, v) :: kx_in (bif kx_two v then i + 2 else i + 1) vs
/-- .. where frames enough are left -/
def kx_thd (cc cs d e : Nat) : kx_F := bif Nat.ble 3 d then kx_th cc cs e else fun _ _ _ => none
/-- pop2 of a long -/
def kx_pop2 (k : kx_F) : kx_F := fun l st h => match st with
  | .inr (.inl _) :: r => k l r h
  | _ => none
def kx_fuel : Nat := 1000000
/-- the methods, to a depth: M n d C are the blocks of the method n, its calls by C -/
def kx_ev (M : Nat → Nat → kx_C → Nat → (Nat → kx_F) → kx_F) : Nat → kx_C
  | 0 => fun _ _ _ => none
  | d + 1 => fun n as h => kx_ex (M n d (kx_ev M d)) kx_fuel 0 (kx_in 0 as) [] h
end
section
/-! The world of a walk: the cells by their numbers, at addresses that ι names. -/
def kx_cv (ι : Nat → Nat) (v : kx_V) : Value := match v with
  | .inl x => .int x
  | .inr (.inl x) => .long x
  | .inr (.inr r) => va_rf (r.2.map ι)
def kx_val (ι : Nat → Nat) (h : kx_H) (a kd k : Nat) : Value := match kd with
  | 0 => .int (hp_I h a k)
  | 1 => .long (hp_L h a k)
  | 2 => va_rf ((hp_R h a k).map ι)
  | _ => .int (kx_b (hp_B h a k))
def kx_ok (h : kx_H) (v : kx_V) : Prop := match v with
  | .inr (.inr x) => ∀ a, x.2 = some a → hp_T h a = some x.1
  | _ => True
def kx_lc (ι : Nat → Nat) (lv : kx_L) : List (Nat × Value) := lv.map fun q => (q.1, kx_cv ι q.2)
/-- the script (98), an object (below), an array (above) -/
def kx_at (s0 : State) (D : va_G) (cA : Nat → ClassId) (ι : Nat → Nat) (h : kx_H) (H : Heap) (a t : Nat) : Prop :=
  (t = 98 → va_X (ι a) (hp_N h a) (hp_I h a) s0 H ∧ ι a < s0.heap.size) ∧
  (t < 98 → s0.heap.size ≤ ι a ∧ ∃ r : vw_C, kx_cl[t]? = some r ∧ t_OB (ι a) (D.1 t) r.2.2 (D.2 t) H (fun k => kx_val ι h a (kx_ft t k).1 k)) ∧
  (98 < t → s0.heap.size ≤ ι a ∧ H[ι a]? = some (arrV (cA t) (hp_N h a) (fun i => kx_val ι h a (kx_ak t).1 i)))
def kx_P (s0 : State) (D : va_G) (cA : Nat → ClassId) (ι : Nat → Nat) (h : kx_H) (H : Heap) : Prop :=
  (∀ a t, hp_T h a = some t → a < hp_X h ∧ kx_at s0 D cA ι h H a t) ∧
  (∀ a b t u, hp_T h a = some t → hp_T h b = some u → ι a = ι b → a = b) ∧
  (∀ a t k b, hp_T h a = some t → t < 98 → (kx_ft t k).1 = 2 → hp_R h a k = some b → hp_T h b = some (kx_ft t k).2) ∧
  (∀ a t k b, hp_T h a = some t → 98 < t → (kx_ak t).1 = 2 → hp_R h a k = some b → hp_T h b = some (kx_ak t).2)
/-- which old cells a method may write -/
def kx_A (s0 s : State) : Nat → Prop := fun q => s0.heap.size ≤ q ∧ ∀ cell : Cell, s.heap[q]? = some cell → cell.vm.isStatics = false
def kx_le (h0 h : kx_H) : Prop := hp_X h0 ≤ hp_X h ∧ (∀ a t, hp_T h0 a = some t → hp_T h a = some t) ∧ hp_C h ≤ kx_cc ∧ hp_U h ≤ kx_cs
def kx_out (ι : Nat → Nat) (hf : kx_H) (rr : kx_R) (o : Outcome) (t : State) : Prop := match rr with
  | .inl v => o = .returned (v.map (kx_cv ι)) ∧ ∀ x, v = some x → kx_ok hf x
  | .inr e => ∃ (x : Addr) (cell : Cell), o = .threw x ∧ t.heap[x]? = some cell ∧ cell.vm.isStatics = false ∧ cell.vm ≠ .unknown ∧ t.vm.findClass (kx_en e) = some cell.cls
/-- a method's end -/
def kx_E (s0 : State) (D : va_G) (cA : Nat → ClassId) (ι0 : Nat → Nat) (h0 : kx_H) (rr : kx_R) (hf : kx_H) (st : State) (o : Outcome) (t : State) : Prop :=
  ∃ (ι : Nat → Nat) (L : List Loc) (k n : Nat), (∀ a, a < hp_X h0 → ι a = ι0 a) ∧ kx_P s0 D cA ι hf t.heap ∧ kx_out ι hf rr o t ∧ st.WarmedH t.vm ∧ st.sameButNew ({ t with vm := st.vm } : State) L k n ∧ (∀ q ∈ L, kx_A s0 st q.base) ∧
    (∀ q : Nat, q < s0.heap.size → t.heap[q]? = st.heap[q]?) ∧ hp_C h0 + k = hp_C hf ∧ hp_U h0 + n = hp_U hf ∧ kx_le h0 hf
def kx_Q (s0 : State) (D : va_G) (cA : Nat → ClassId) (below : List Frame) (s : State) (ι0 : Nat → Nat) (h0 : kx_H) (rr : kx_R) (hf : kx_H) : State → Prop := fun t =>
  ∃ o, t.status = .running ∧ Ended t below o ∧ kx_E s0 D cA ι0 h0 rr hf s o t
/-- the slots of a class are apart -/
def kx_ap (D : va_G) : Prop := ∀ (t : Nat) (r : vw_C), kx_cl[t]? = some r → ∀ x y, x < r.2.2 → y < r.2.2 → x ≠ y → D.2 t x ≠ D.2 t y
/-- what holds of the tables at every state of a run -/
def kx_B (s0 : State) (D : va_G) (cA : Nat → ClassId) (U : State) : Prop := s0.WarmedH U.vm ∧ va_K D kx_cl (kx_tys cA) U ∧ kx_ap D ∧ s0.heap.size ≤ U.heap.size ∧ ∀ q : Nat, q < s0.heap.size → U.heap[q]? = s0.heap[q]?
def kx_G (p : Program) (e : Env) (R : Room) (s : State) (m : MethodId) (args : Array Value) (meth : Method) (c : Code) (s0 : State) (D : va_G) (cA : Nat → ClassId) (cc : ByteArray) (own : String) (nL : Nat) (h0 : kx_H) : Prop :=
  p.tables.exec = Jvm.exec ∧ c.code = cc ∧ s.vm.findClass own = some m.cls ∧ c.maxLocals = nL ∧ meth.locks = false ∧ (∀ w ∈ kx_WS, w.before args s = true) ∧ kx_B s0 D cA s ∧ kx_cc ≤ R.cells + hp_C h0 ∧ kx_cs ≤ R.slots + hp_U h0
def kx_Sm (p : Program) (l : Launch) (e : Env) (R : Room) (s : State) (m : MethodId) (args : Array Value) (below : List Frame) (meth : Method) (c : Code) (s0 : State) (D : va_G) (cA : Nat → ClassId) (nL : Nat) (ι0 : Nat → Nat) (h0 : kx_H) (rr : kx_R) (hf : kx_H) (pc : Nat) (lv : kx_L) (st : List kx_V) (h : kx_H) : Prop :=
  ∀ (ι : Nat → Nat) (H : Heap) (locs : List Loc) (cells slots : Nat) (ls : Array Slot),
    kx_P s0 D cA ι h H → (∀ a t, hp_T h a = some t → t ≠ 98 → kx_A s0 s (ι a)) → lv_has ls nL (kx_lc ι lv) → (∀ v ∈ st, kx_ok h v) → (∀ q ∈ lv, kx_ok h q.2) → va_S (kx_A s0 s) s.heap H locs →
    hp_C h0 + cells = hp_C h → hp_U h0 + slots = hp_U h → (∀ a, a < hp_X h0 → ι a = ι0 a) → kx_le h0 h →
    W p l e R s m args below meth c H locs cells slots (kx_Q s0 D cA below s ι0 h0 rr hf) (F0 m pc ls (st.map (kx_cv ι)))
def kx_Sn (p : Program) (l : Launch) (e : Env) (R : Room) (s : State) (m : MethodId) (args : Array Value) (below : List Frame) (meth : Method) (c : Code) (s0 : State) (D : va_G) (cA : Nat → ClassId) (nL : Nat) (ι0 : Nat → Nat) (h0 : kx_H) (rr : kx_R) (hf : kx_H) (pc : Nat) (F : kx_F) : Prop :=
  ∀ lv st h, F lv st h = some (rr, hf) → kx_Sm p l e R s m args below meth c s0 D cA nL ι0 h0 rr hf pc lv st h
theorem kx_get_mem {lv : kx_L} {i : Nat} {v : kx_V} (h : kx_get lv i = some v) : (i, v) ∈ lv := by
  induction lv with
  | nil => cases h
  | cons q r ih =>
    unfold kx_get at h
    cases hq : Nat.beq q.1 i with
    | true =>
      rw [hq] at h
      have h1 : q.2 = v := Option.some.inj h
      have h2 : q.1 = i := Nat.eq_of_beq_eq_true hq
      rw [← h1, ← h2]
      exact List.mem_cons_self
    | false =>
      rw [hq] at h
      exact List.mem_cons_of_mem _ (ih h)
theorem kx_get_at {ι : Nat → Nat} {ls : Array Slot} {nL : Nat} {lv : kx_L} {i : Nat} {v : kx_V} (hl : lv_has ls nL (kx_lc ι lv)) (h : kx_get lv i = some v) : ls[i]? = some (.val (kx_cv ι v)) :=
  hl.2.2 (i, kx_cv ι v) (List.mem_map.mpr ⟨(i, v), kx_get_mem h, rfl⟩)
theorem kx_cv_cat (ι : Nat → Nat) (v : kx_V) : ((kx_cv ι v).category == 2) = kx_two v := by
  rcases v with x | x | ⟨t, o⟩
  · rfl
  · rfl
  · cases o <;> rfl
theorem kx_put1_lc (ι : Nat → Nat) (lv : kx_L) (i : Nat) (v : kx_V) : (i, kx_cv ι v) :: (kx_lc ι lv).filter (fun q => !(q.1 == i) && !(q.1 + 1 == i && q.2.category == 2)) = kx_lc ι (kx_put1 lv i v) := by
  unfold kx_put1 kx_lc
  rw [List.map_cons, List.filter_map]
  congr 2
  apply List.filter_congr
  intro q _
  simp only [Function.comp, kx_cv_cat]
theorem kx_put2_lc (ι : Nat → Nat) (lv : kx_L) (i : Nat) (v : kx_V) : (i, kx_cv ι v) :: (kx_lc ι lv).filter (fun q => !(q.1 == i) && (!(q.1 == i + 1) && !(q.1 + 1 == i && q.2.category == 2))) = kx_lc ι (kx_put2 lv i v) := by
  unfold kx_put2 kx_lc
  rw [List.map_cons, List.filter_map]
  congr 2
  apply List.filter_congr
  intro q _
  simp only [Function.comp, kx_cv_cat]
theorem kx_put1_ok {h : kx_H} {lv : kx_L} {i : Nat} {v : kx_V} (hv : ∀ q ∈ lv, kx_ok h q.2) (h1 : kx_ok h v) : ∀ q ∈ kx_put1 lv i v, kx_ok h q.2 := by
  intro q hq
  rcases List.mem_cons.mp hq with rfl | hq
  · exact h1
  · exact hv q (List.mem_filter.mp hq).1
theorem kx_put2_ok {h : kx_H} {lv : kx_L} {i : Nat} {v : kx_V} (hv : ∀ q ∈ lv, kx_ok h q.2) (h1 : kx_ok h v) : ∀ q ∈ kx_put2 lv i v, kx_ok h q.2 := by
  intro q hq
  rcases List.mem_cons.mp hq with rfl | hq
  · exact h1
  · exact hv q (List.mem_filter.mp hq).1
theorem kx_pick_ok {lv l' : kx_L} {is : List Nat} (h : kx_pick lv is = some l') : ∀ q ∈ l', q ∈ lv := by
  induction is generalizing l' with
  | nil =>
    unfold kx_pick at h
    cases h
    intro q hq
    cases hq
  | cons i r ih =>
    unfold kx_pick at h
    cases hv : kx_get lv i with
    | none => rw [hv] at h; cases h
    | some v =>
      cases ht : kx_pick lv r with
      | none => rw [hv, ht] at h; cases h
      | some t =>
        rw [hv, ht] at h
        cases h
        intro q hq
        rcases List.mem_cons.mp hq with rfl | hq
        · exact kx_get_mem hv
        · exact ih ht q hq
theorem kx_lc_sub {ι : Nat → Nat} {ls : Array Slot} {nL : Nat} {lv l' : kx_L} (h : lv_has ls nL (kx_lc ι lv)) (hs : ∀ q ∈ l', q ∈ lv) : lv_has ls nL (kx_lc ι l') := by
  refine ⟨h.1, h.2.1, fun q hq => ?_⟩
  obtain ⟨x, hx, rfl⟩ := List.mem_map.mp hq
  exact h.2.2 _ (List.mem_map.mpr ⟨x, hs x hx, rfl⟩)
theorem kx_ok2 {h : kx_H} {v : kx_V} {st : List kx_V} (h1 : kx_ok h v) (h2 : ∀ v ∈ st, kx_ok h v) : ∀ w ∈ v :: st, kx_ok h w := by
  intro w hw
  rcases List.mem_cons.mp hw with rfl | hw
  · exact h1
  · exact h2 w hw
theorem kx_okt {h : kx_H} {v : kx_V} {st : List kx_V} (h2 : ∀ w ∈ v :: st, kx_ok h w) : ∀ w ∈ st, kx_ok h w := fun w hw => h2 w (List.mem_cons_of_mem _ hw)
theorem kx_okh {h : kx_H} {v : kx_V} {st : List kx_V} (h2 : ∀ w ∈ v :: st, kx_ok h w) : kx_ok h v := h2 v List.mem_cons_self
section KS
variable {p : Program} {l : Launch} {e : Env} {R : Room} {s : State} {m : MethodId} {args : Array Value} {below : List Frame} {meth : Method} {c : Code}
variable {s0 : State} {D : va_G} {cA : Nat → ClassId} {cc : ByteArray} {own : String} {nL : Nat} {ι0 : Nat → Nat} {h0 hf : kx_H} {rr : kx_R} {pc : Nat} {k : kx_F}
theorem kx_s_c {v : kx_V} {n : Nat} {x : Value} (step : ∀ {H : Heap} {locs : List Loc} {cells slots : Nat} {Q : State → Prop} {ls : Array Slot} {rest : List Value}, W p l e R s m args below meth c H locs cells slots Q (F0 m (pc + n) ls (x :: rest)) → W p l e R s m args below meth c H locs cells slots Q (F0 m pc ls rest)) (hx : ∀ ι, kx_cv ι v = x) (ho : ∀ h, kx_ok h v) (hk : kx_Sn p l e R s m args below meth c s0 D cA nL ι0 h0 rr hf (pc + n) k) : kx_Sn p l e R s m args below meth c s0 D cA nL ι0 h0 rr hf pc (kx_c v k) := by
  intro lv st h hF
  intro ι H locs cells slots ls hP hA hl hs hv hS hC hU hI hE
  have kk := hk lv (v :: st) h hF ι H locs cells slots ls hP hA hl (kx_ok2 (ho h) hs) hv hS hC hU hI hE
  rw [List.map_cons, hx] at kk
  exact step kk
theorem kx_s_iconst (G : kx_G p e R s m args meth c s0 D cA cc own nL h0) {i : Int} {v : Int32} (hv : Int32.ofInt i = v) (hd : decode cc pc = .ok (.iconst i, 1)) (hk : kx_Sn p l e R s m args below meth c s0 D cA nL ι0 h0 rr hf (pc + 1) k) : kx_Sn p l e R s m args below meth c s0 D cA nL ι0 h0 rr hf pc (kx_c (kx_i v) k) :=
  kx_s_c (x := .int v) (fun kk => lv_iconst G.1 G.2.1 hd hv kk) (fun _ => rfl) (fun _ => trivial) hk
theorem kx_s_bipush (G : kx_G p e R s m args meth c s0 D cA cc own nL h0) {i : Int} {v : Int32} (hv : (Int8.ofInt i).toInt32 = v) (hd : decode cc pc = .ok (.bipush i, 2)) (hk : kx_Sn p l e R s m args below meth c s0 D cA nL ι0 h0 rr hf (pc + 2) k) : kx_Sn p l e R s m args below meth c s0 D cA nL ι0 h0 rr hf pc (kx_c (kx_i v) k) :=
  kx_s_c (x := .int v) (fun kk => lv_bipush G.1 G.2.1 hd hv kk) (fun _ => rfl) (fun _ => trivial) hk
theorem kx_s_sipush (G : kx_G p e R s m args meth c s0 D cA cc own nL h0) {i : Int} {v : Int32} (hv : (Int16.ofInt i).toInt32 = v) (hd : decode cc pc = .ok (.sipush i, 3)) (hk : kx_Sn p l e R s m args below meth c s0 D cA nL ι0 h0 rr hf (pc + 3) k) : kx_Sn p l e R s m args below meth c s0 D cA nL ι0 h0 rr hf pc (kx_c (kx_i v) k) :=
  kx_s_c (x := .int v) (fun kk => lv_sipush G.1 G.2.1 hd hv kk) (fun _ => rfl) (fun _ => trivial) hk
theorem kx_s_lconst (G : kx_G p e R s m args meth c s0 D cA cc own nL h0) {i : Fin 2} {v : Int64} (hv : Int64.ofNat (i : Nat) = v) (hd : decode cc pc = .ok (.lconst i, 1)) (hk : kx_Sn p l e R s m args below meth c s0 D cA nL ι0 h0 rr hf (pc + 1) k) : kx_Sn p l e R s m args below meth c s0 D cA nL ι0 h0 rr hf pc (kx_c (kx_l v) k) :=
  kx_s_c (x := .long v) (fun kk => lv_lconst G.1 G.2.1 hd hv kk) (fun _ => rfl) (fun _ => trivial) hk
theorem kx_s_ldc (G : kx_G p e R s m args meth c s0 D cA cc own nL h0) {i : Nat} {v : Int32} (hw : Cond.constant own i v ∈ kx_WS) (hd : decode cc pc = .ok (.ldc i, 2)) (hk : kx_Sn p l e R s m args below meth c s0 D cA nL ι0 h0 rr hf (pc + 2) k) : kx_Sn p l e R s m args below meth c s0 D cA nL ι0 h0 rr hf pc (kx_c (kx_i v) k) :=
  kx_s_c (x := .int v) (fun kk => lv_ldc G.1 G.2.1 G.2.2.1 (G.2.2.2.2.2.1 _ hw) hd kk) (fun _ => rfl) (fun _ => trivial) hk
theorem kx_s_ldc2 (G : kx_G p e R s m args meth c s0 D cA cc own nL h0) {i : Nat} {v : Int64} (hw : Cond.constantLong own i v ∈ kx_WS) (hd : decode cc pc = .ok (.ldc2_w i, 3)) (hk : kx_Sn p l e R s m args below meth c s0 D cA nL ι0 h0 rr hf (pc + 3) k) : kx_Sn p l e R s m args below meth c s0 D cA nL ι0 h0 rr hf pc (kx_c (kx_l v) k) :=
  kx_s_c (x := .long v) (fun kk => lv_ldc2 G.1 G.2.1 G.2.2.1 (G.2.2.2.2.2.1 _ hw) hd kk) (fun _ => rfl) (fun _ => trivial) hk
theorem kx_s_null (G : kx_G p e R s m args meth c s0 D cA cc own nL h0) {t : Nat} (hd : decode cc pc = .ok (.aconst_null, 1)) (hk : kx_Sn p l e R s m args below meth c s0 D cA nL ι0 h0 rr hf (pc + 1) k) : kx_Sn p l e R s m args below meth c s0 D cA nL ι0 h0 rr hf pc (kx_c (kx_r t none) k) :=
  kx_s_c (x := .null) (fun kk => lv_null G.1 G.2.1 hd kk) (fun _ => rfl) (fun _ a ha => by cases ha) hk
theorem kx_s_iload_n (G : kx_G p e R s m args meth c s0 D cA cc own nL h0) {i : Nat} {j : Fin 4} (hi : (j : Nat) = i) (hd : decode cc pc = .ok (.iload_n j, 1)) (hk : kx_Sn p l e R s m args below meth c s0 D cA nL ι0 h0 rr hf (pc + 1) k) : kx_Sn p l e R s m args below meth c s0 D cA nL ι0 h0 rr hf pc (kx_li i k) := by
  intro lv st h hF
  unfold kx_li at hF
  split at hF
  · rename_i x hg
    intro ι H locs cells slots ls hP hA hl hs hv hS hC hU hI hE
    exact lv_iload_n G.1 G.2.1 hd hi (kx_get_at hl hg) (hk _ _ _ hF ι H locs cells slots ls hP hA hl (kx_ok2 trivial hs) hv hS hC hU hI hE)
  · cases hF
theorem kx_s_iload (G : kx_G p e R s m args meth c s0 D cA cc own nL h0) {i : Nat}  (hd : decode cc pc = .ok (.iload i, 2)) (hk : kx_Sn p l e R s m args below meth c s0 D cA nL ι0 h0 rr hf (pc + 2) k) : kx_Sn p l e R s m args below meth c s0 D cA nL ι0 h0 rr hf pc (kx_li i k) := by
  intro lv st h hF
  unfold kx_li at hF
  split at hF
  · rename_i x hg
    intro ι H locs cells slots ls hP hA hl hs hv hS hC hU hI hE
    exact lv_iload G.1 G.2.1 hd (kx_get_at hl hg) (hk _ _ _ hF ι H locs cells slots ls hP hA hl (kx_ok2 trivial hs) hv hS hC hU hI hE)
  · cases hF
theorem kx_s_lload_n (G : kx_G p e R s m args meth c s0 D cA cc own nL h0) {i : Nat} {j : Fin 4} (hi : (j : Nat) = i) (hd : decode cc pc = .ok (.lload_n j, 1)) (hk : kx_Sn p l e R s m args below meth c s0 D cA nL ι0 h0 rr hf (pc + 1) k) : kx_Sn p l e R s m args below meth c s0 D cA nL ι0 h0 rr hf pc (kx_ll i k) := by
  intro lv st h hF
  unfold kx_ll at hF
  split at hF
  · rename_i x hg
    intro ι H locs cells slots ls hP hA hl hs hv hS hC hU hI hE
    exact lv_lload_n G.1 G.2.1 hd hi (kx_get_at hl hg) (hk _ _ _ hF ι H locs cells slots ls hP hA hl (kx_ok2 trivial hs) hv hS hC hU hI hE)
  · cases hF
theorem kx_s_lload (G : kx_G p e R s m args meth c s0 D cA cc own nL h0) {i : Nat}  (hd : decode cc pc = .ok (.lload i, 2)) (hk : kx_Sn p l e R s m args below meth c s0 D cA nL ι0 h0 rr hf (pc + 2) k) : kx_Sn p l e R s m args below meth c s0 D cA nL ι0 h0 rr hf pc (kx_ll i k) := by
  intro lv st h hF
  unfold kx_ll at hF
  split at hF
  · rename_i x hg
    intro ι H locs cells slots ls hP hA hl hs hv hS hC hU hI hE
    exact lv_lload G.1 G.2.1 hd (kx_get_at hl hg) (hk _ _ _ hF ι H locs cells slots ls hP hA hl (kx_ok2 trivial hs) hv hS hC hU hI hE)
  · cases hF
theorem kx_s_aload_n (G : kx_G p e R s m args meth c s0 D cA cc own nL h0) {i : Nat} {j : Fin 4} (hi : (j : Nat) = i) (hd : decode cc pc = .ok (.aload_n j, 1)) (hk : kx_Sn p l e R s m args below meth c s0 D cA nL ι0 h0 rr hf (pc + 1) k) : kx_Sn p l e R s m args below meth c s0 D cA nL ι0 h0 rr hf pc (kx_la i k) := by
  intro lv st h hF
  unfold kx_la at hF
  split at hF
  · rename_i x hg
    intro ι H locs cells slots ls hP hA hl hs hv hS hC hU hI hE
    have h1 := kx_get_at hl hg
    have h2 := hk _ _ _ hF ι H locs cells slots ls hP hA hl (kx_ok2 (hv _ (kx_get_mem hg)) hs) hv hS hC hU hI hE
    obtain ⟨t, o⟩ := x
    cases o with
    | none => exact lv_aload_nN G.1 G.2.1 hd hi  h1 h2
    | some a => exact lv_aload_n G.1 G.2.1 hd hi  h1 h2
  · cases hF
theorem kx_s_aload (G : kx_G p e R s m args meth c s0 D cA cc own nL h0) {i : Nat}  (hd : decode cc pc = .ok (.aload i, 2)) (hk : kx_Sn p l e R s m args below meth c s0 D cA nL ι0 h0 rr hf (pc + 2) k) : kx_Sn p l e R s m args below meth c s0 D cA nL ι0 h0 rr hf pc (kx_la i k) := by
  intro lv st h hF
  unfold kx_la at hF
  split at hF
  · rename_i x hg
    intro ι H locs cells slots ls hP hA hl hs hv hS hC hU hI hE
    have h1 := kx_get_at hl hg
    have h2 := hk _ _ _ hF ι H locs cells slots ls hP hA hl (kx_ok2 (hv _ (kx_get_mem hg)) hs) hv hS hC hU hI hE
    obtain ⟨t, o⟩ := x
    cases o with
    | none => exact lv_aloadN G.1 G.2.1 hd  h1 h2
    | some a => exact lv_aload G.1 G.2.1 hd  h1 h2
  · cases hF
theorem kx_s_istore_n (G : kx_G p e R s m args meth c s0 D cA cc own nL h0) {i : Nat} {j : Fin 4} (hi : (j : Nat) = i) (hd : decode cc pc = .ok (.istore_n j, 1)) (hn : i < nL) (hk : kx_Sn p l e R s m args below meth c s0 D cA nL ι0 h0 rr hf (pc + 1) k) : kx_Sn p l e R s m args below meth c s0 D cA nL ι0 h0 rr hf pc (kx_si i k) := by
  intro lv st h hF
  unfold kx_si at hF
  split at hF
  · rename_i x r
    intro ι H locs cells slots ls hP hA hl hs hv hS hC hU hI hE
    exact lv_istore_n G.1 G.2.1 hd hi hl hn (kx_put1_lc ι lv i (.inl x)) (fun ls' hl' => hk _ _ _ hF ι H locs cells slots ls' hP hA hl' (kx_okt hs) (kx_put1_ok hv trivial) hS hC hU hI hE)
  · cases hF
theorem kx_s_istore (G : kx_G p e R s m args meth c s0 D cA cc own nL h0) {i : Nat}  (hd : decode cc pc = .ok (.istore i, 2)) (hn : i < nL) (hk : kx_Sn p l e R s m args below meth c s0 D cA nL ι0 h0 rr hf (pc + 2) k) : kx_Sn p l e R s m args below meth c s0 D cA nL ι0 h0 rr hf pc (kx_si i k) := by
  intro lv st h hF
  unfold kx_si at hF
  split at hF
  · rename_i x r
    intro ι H locs cells slots ls hP hA hl hs hv hS hC hU hI hE
    exact lv_istore G.1 G.2.1 hd hl hn (kx_put1_lc ι lv i (.inl x)) (fun ls' hl' => hk _ _ _ hF ι H locs cells slots ls' hP hA hl' (kx_okt hs) (kx_put1_ok hv trivial) hS hC hU hI hE)
  · cases hF
theorem kx_s_lstore_n (G : kx_G p e R s m args meth c s0 D cA cc own nL h0) {i : Nat} {j : Fin 4} (hi : (j : Nat) = i) (hd : decode cc pc = .ok (.lstore_n j, 1)) (hn : i + 1 < nL) (hk : kx_Sn p l e R s m args below meth c s0 D cA nL ι0 h0 rr hf (pc + 1) k) : kx_Sn p l e R s m args below meth c s0 D cA nL ι0 h0 rr hf pc (kx_sl i k) := by
  intro lv st h hF
  unfold kx_sl at hF
  split at hF
  · rename_i x r
    intro ι H locs cells slots ls hP hA hl hs hv hS hC hU hI hE
    exact lv_lstore_n G.1 G.2.1 hd hi hl hn (kx_put2_lc ι lv i (.inr (.inl x))) (fun ls' hl' => hk _ _ _ hF ι H locs cells slots ls' hP hA hl' (kx_okt hs) (kx_put2_ok hv trivial) hS hC hU hI hE)
  · cases hF
theorem kx_s_lstore (G : kx_G p e R s m args meth c s0 D cA cc own nL h0) {i : Nat}  (hd : decode cc pc = .ok (.lstore i, 2)) (hn : i + 1 < nL) (hk : kx_Sn p l e R s m args below meth c s0 D cA nL ι0 h0 rr hf (pc + 2) k) : kx_Sn p l e R s m args below meth c s0 D cA nL ι0 h0 rr hf pc (kx_sl i k) := by
  intro lv st h hF
  unfold kx_sl at hF
  split at hF
  · rename_i x r
    intro ι H locs cells slots ls hP hA hl hs hv hS hC hU hI hE
    exact lv_lstore G.1 G.2.1 hd hl hn (kx_put2_lc ι lv i (.inr (.inl x))) (fun ls' hl' => hk _ _ _ hF ι H locs cells slots ls' hP hA hl' (kx_okt hs) (kx_put2_ok hv trivial) hS hC hU hI hE)
  · cases hF
theorem kx_s_astore_n (G : kx_G p e R s m args meth c s0 D cA cc own nL h0) {i : Nat} {j : Fin 4} (hi : (j : Nat) = i) (hd : decode cc pc = .ok (.astore_n j, 1)) (hn : i < nL) (hk : kx_Sn p l e R s m args below meth c s0 D cA nL ι0 h0 rr hf (pc + 1) k) : kx_Sn p l e R s m args below meth c s0 D cA nL ι0 h0 rr hf pc (kx_sa i k) := by
  intro lv st h hF
  unfold kx_sa at hF
  split at hF
  · rename_i x r
    intro ι H locs cells slots ls hP hA hl hs hv hS hC hU hI hE
    have h2 := fun ls' hl' => hk _ _ _ hF ι H locs cells slots ls' hP hA hl' (kx_okt hs) (kx_put1_ok hv (kx_okh hs)) hS hC hU hI hE
    have h3 := kx_put1_lc ι lv i (.inr (.inr x))
    obtain ⟨t, o⟩ := x
    cases o with
    | none => exact lv_astore_nN G.1 G.2.1 hd hi hl hn h3 h2
    | some a => exact lv_astore_n G.1 G.2.1 hd hi hl hn h3 h2
  · cases hF
theorem kx_s_astore (G : kx_G p e R s m args meth c s0 D cA cc own nL h0) {i : Nat}  (hd : decode cc pc = .ok (.astore i, 2)) (hn : i < nL) (hk : kx_Sn p l e R s m args below meth c s0 D cA nL ι0 h0 rr hf (pc + 2) k) : kx_Sn p l e R s m args below meth c s0 D cA nL ι0 h0 rr hf pc (kx_sa i k) := by
  intro lv st h hF
  unfold kx_sa at hF
  split at hF
  · rename_i x r
    intro ι H locs cells slots ls hP hA hl hs hv hS hC hU hI hE
    have h2 := fun ls' hl' => hk _ _ _ hF ι H locs cells slots ls' hP hA hl' (kx_okt hs) (kx_put1_ok hv (kx_okh hs)) hS hC hU hI hE
    have h3 := kx_put1_lc ι lv i (.inr (.inr x))
    obtain ⟨t, o⟩ := x
    cases o with
    | none => exact lv_astoreN G.1 G.2.1 hd hl hn h3 h2
    | some a => exact lv_astore G.1 G.2.1 hd hl hn h3 h2
  · cases hF
theorem kx_s_iinc (G : kx_G p e R s m args meth c s0 D cA cc own nL h0) {i : Nat} {n : Int} {v : Int32} (hd : decode cc pc = .ok (.iinc i n, 3)) (hv0 : Int32.ofInt n = v) (hn : i < nL) (hk : kx_Sn p l e R s m args below meth c s0 D cA nL ι0 h0 rr hf (pc + 3) k) : kx_Sn p l e R s m args below meth c s0 D cA nL ι0 h0 rr hf pc (kx_inc i v k) := by
  intro lv st h hF
  unfold kx_inc at hF
  split at hF
  · rename_i x hg
    intro ι H locs cells slots ls hP hA hl hs hv hS hC hU hI hE
    obtain ⟨q, hq⟩ := List.getElem?_of_mem (show (i, kx_cv ι (.inl x)) ∈ kx_lc ι lv from List.mem_map.mpr ⟨(i, .inl x), kx_get_mem hg, rfl⟩)
    exact lv_iinc (v := x + v) G.1 G.2.1 hd hl hq (by rw [hv0]) hn (kx_put1_lc ι lv i (.inl (x + v))) (fun ls' hl' => hk _ _ _ hF ι H locs cells slots ls' hP hA hl' hs (kx_put1_ok hv trivial) hS hC hU hI hE)
  · cases hF
theorem kx_s_nm {is : List Nat} (hk : kx_Sn p l e R s m args below meth c s0 D cA nL ι0 h0 rr hf pc k) : kx_Sn p l e R s m args below meth c s0 D cA nL ι0 h0 rr hf pc (kx_nm is k) := by
  intro lv st h hF
  unfold kx_nm at hF
  cases hq : kx_pick lv is with
  | none => rw [hq] at hF; cases hF
  | some l' =>
    rw [hq] at hF
    intro ι H locs cells slots ls hP hA hl hs hv hS hC hU hI hE
    have hsub := kx_pick_ok hq
    exact hk _ _ _ hF ι H locs cells slots ls hP hA (kx_lc_sub hl hsub) hs (fun q h9 => hv q (hsub q h9)) hS hC hU hI hE
theorem kx_s_ii {f : Int32 → Int32 → Int32} (step : ∀ {H : Heap} {locs : List Loc} {cells slots : Nat} {Q : State → Prop} {ls : Array Slot} {x y : Int32} {rest : List Value}, W p l e R s m args below meth c H locs cells slots Q (F0 m (pc + 1) ls (.int (f x y) :: rest)) → W p l e R s m args below meth c H locs cells slots Q (F0 m pc ls (.int y :: .int x :: rest))) (hk : kx_Sn p l e R s m args below meth c s0 D cA nL ι0 h0 rr hf (pc + 1) k) : kx_Sn p l e R s m args below meth c s0 D cA nL ι0 h0 rr hf pc (kx_ii f k) := by
  intro lv st h hF
  unfold kx_ii at hF
  split at hF
  · intro ι H locs cells slots ls hP hA hl hs hv hS hC hU hI hE
    exact step (hk _ _ _ hF ι H locs cells slots ls hP hA hl (kx_ok2 trivial (kx_okt (kx_okt hs))) hv hS hC hU hI hE)
  · cases hF
theorem kx_s_jj {f : Int64 → Int64 → Int64} (step : ∀ {H : Heap} {locs : List Loc} {cells slots : Nat} {Q : State → Prop} {ls : Array Slot} {x y : Int64} {rest : List Value}, W p l e R s m args below meth c H locs cells slots Q (F0 m (pc + 1) ls (.long (f x y) :: rest)) → W p l e R s m args below meth c H locs cells slots Q (F0 m pc ls (.long y :: .long x :: rest))) (hk : kx_Sn p l e R s m args below meth c s0 D cA nL ι0 h0 rr hf (pc + 1) k) : kx_Sn p l e R s m args below meth c s0 D cA nL ι0 h0 rr hf pc (kx_jj f k) := by
  intro lv st h hF
  unfold kx_jj at hF
  split at hF
  · intro ι H locs cells slots ls hP hA hl hs hv hS hC hU hI hE
    exact step (hk _ _ _ hF ι H locs cells slots ls hP hA hl (kx_ok2 trivial (kx_okt (kx_okt hs))) hv hS hC hU hI hE)
  · cases hF
theorem kx_s_ji {f : Int64 → Int32 → Int64} (step : ∀ {H : Heap} {locs : List Loc} {cells slots : Nat} {Q : State → Prop} {ls : Array Slot} {x : Int64} {y : Int32} {rest : List Value}, W p l e R s m args below meth c H locs cells slots Q (F0 m (pc + 1) ls (.long (f x y) :: rest)) → W p l e R s m args below meth c H locs cells slots Q (F0 m pc ls (.int y :: .long x :: rest))) (hk : kx_Sn p l e R s m args below meth c s0 D cA nL ι0 h0 rr hf (pc + 1) k) : kx_Sn p l e R s m args below meth c s0 D cA nL ι0 h0 rr hf pc (kx_ji f k) := by
  intro lv st h hF
  unfold kx_ji at hF
  split at hF
  · intro ι H locs cells slots ls hP hA hl hs hv hS hC hU hI hE
    exact step (hk _ _ _ hF ι H locs cells slots ls hP hA hl (kx_ok2 trivial (kx_okt (kx_okt hs))) hv hS hC hU hI hE)
  · cases hF
theorem kx_s_iadd (G : kx_G p e R s m args meth c s0 D cA cc own nL h0) (hd : decode cc pc = .ok (.iadd, 1)) (hk : kx_Sn p l e R s m args below meth c s0 D cA nL ι0 h0 rr hf (pc + 1) k) : kx_Sn p l e R s m args below meth c s0 D cA nL ι0 h0 rr hf pc (kx_ii (fun x y => x + y) k) :=
  kx_s_ii (fun kk => lv_iadd G.1 G.2.1 hd kk) hk
theorem kx_s_isub (G : kx_G p e R s m args meth c s0 D cA cc own nL h0) (hd : decode cc pc = .ok (.isub, 1)) (hk : kx_Sn p l e R s m args below meth c s0 D cA nL ι0 h0 rr hf (pc + 1) k) : kx_Sn p l e R s m args below meth c s0 D cA nL ι0 h0 rr hf pc (kx_ii (fun x y => x - y) k) :=
  kx_s_ii (fun kk => lv_isub G.1 G.2.1 hd kk) hk
theorem kx_s_imul (G : kx_G p e R s m args meth c s0 D cA cc own nL h0) (hd : decode cc pc = .ok (.imul, 1)) (hk : kx_Sn p l e R s m args below meth c s0 D cA nL ι0 h0 rr hf (pc + 1) k) : kx_Sn p l e R s m args below meth c s0 D cA nL ι0 h0 rr hf pc (kx_ii (fun x y => x * y) k) :=
  kx_s_ii (fun kk => lv_imul G.1 G.2.1 hd kk) hk
theorem kx_s_iand (G : kx_G p e R s m args meth c s0 D cA cc own nL h0) (hd : decode cc pc = .ok (.iand, 1)) (hk : kx_Sn p l e R s m args below meth c s0 D cA nL ι0 h0 rr hf (pc + 1) k) : kx_Sn p l e R s m args below meth c s0 D cA nL ι0 h0 rr hf pc (kx_ii (fun x y => x &&& y) k) :=
  kx_s_ii (fun kk => lv_iand G.1 G.2.1 hd kk) hk
theorem kx_s_ior (G : kx_G p e R s m args meth c s0 D cA cc own nL h0) (hd : decode cc pc = .ok (.ior, 1)) (hk : kx_Sn p l e R s m args below meth c s0 D cA nL ι0 h0 rr hf (pc + 1) k) : kx_Sn p l e R s m args below meth c s0 D cA nL ι0 h0 rr hf pc (kx_ii (fun x y => x ||| y) k) :=
  kx_s_ii (fun kk => lv_ior G.1 G.2.1 hd kk) hk
theorem kx_s_ixor (G : kx_G p e R s m args meth c s0 D cA cc own nL h0) (hd : decode cc pc = .ok (.ixor, 1)) (hk : kx_Sn p l e R s m args below meth c s0 D cA nL ι0 h0 rr hf (pc + 1) k) : kx_Sn p l e R s m args below meth c s0 D cA nL ι0 h0 rr hf pc (kx_ii (fun x y => x ^^^ y) k) :=
  kx_s_ii (fun kk => lv_ixor G.1 G.2.1 hd kk) hk
theorem kx_s_ladd (G : kx_G p e R s m args meth c s0 D cA cc own nL h0) (hd : decode cc pc = .ok (.ladd, 1)) (hk : kx_Sn p l e R s m args below meth c s0 D cA nL ι0 h0 rr hf (pc + 1) k) : kx_Sn p l e R s m args below meth c s0 D cA nL ι0 h0 rr hf pc (kx_jj (fun x y => x + y) k) :=
  kx_s_jj (fun kk => lv_ladd G.1 G.2.1 hd kk) hk
theorem kx_s_lsub (G : kx_G p e R s m args meth c s0 D cA cc own nL h0) (hd : decode cc pc = .ok (.lsub, 1)) (hk : kx_Sn p l e R s m args below meth c s0 D cA nL ι0 h0 rr hf (pc + 1) k) : kx_Sn p l e R s m args below meth c s0 D cA nL ι0 h0 rr hf pc (kx_jj (fun x y => x - y) k) :=
  kx_s_jj (fun kk => lv_lsub G.1 G.2.1 hd kk) hk
theorem kx_s_lmul (G : kx_G p e R s m args meth c s0 D cA cc own nL h0) (hd : decode cc pc = .ok (.lmul, 1)) (hk : kx_Sn p l e R s m args below meth c s0 D cA nL ι0 h0 rr hf (pc + 1) k) : kx_Sn p l e R s m args below meth c s0 D cA nL ι0 h0 rr hf pc (kx_jj (fun x y => x * y) k) :=
  kx_s_jj (fun kk => lv_lmul G.1 G.2.1 hd kk) hk
theorem kx_s_land (G : kx_G p e R s m args meth c s0 D cA cc own nL h0) (hd : decode cc pc = .ok (.land, 1)) (hk : kx_Sn p l e R s m args below meth c s0 D cA nL ι0 h0 rr hf (pc + 1) k) : kx_Sn p l e R s m args below meth c s0 D cA nL ι0 h0 rr hf pc (kx_jj (fun x y => x &&& y) k) :=
  kx_s_jj (fun kk => lv_land G.1 G.2.1 hd kk) hk
theorem kx_s_lor (G : kx_G p e R s m args meth c s0 D cA cc own nL h0) (hd : decode cc pc = .ok (.lor, 1)) (hk : kx_Sn p l e R s m args below meth c s0 D cA nL ι0 h0 rr hf (pc + 1) k) : kx_Sn p l e R s m args below meth c s0 D cA nL ι0 h0 rr hf pc (kx_jj (fun x y => x ||| y) k) :=
  kx_s_jj (fun kk => lv_lor G.1 G.2.1 hd kk) hk
theorem kx_s_lxor (G : kx_G p e R s m args meth c s0 D cA cc own nL h0) (hd : decode cc pc = .ok (.lxor, 1)) (hk : kx_Sn p l e R s m args below meth c s0 D cA nL ι0 h0 rr hf (pc + 1) k) : kx_Sn p l e R s m args below meth c s0 D cA nL ι0 h0 rr hf pc (kx_jj (fun x y => x ^^^ y) k) :=
  kx_s_jj (fun kk => lv_lxor G.1 G.2.1 hd kk) hk
theorem kx_s_lshl (G : kx_G p e R s m args meth c s0 D cA cc own nL h0) (hd : decode cc pc = .ok (.lshl, 1)) (hk : kx_Sn p l e R s m args below meth c s0 D cA nL ι0 h0 rr hf (pc + 1) k) : kx_Sn p l e R s m args below meth c s0 D cA nL ι0 h0 rr hf pc (kx_ji (fun x y => x <<< (y.toInt64 &&& 63)) k) :=
  kx_s_ji (fun kk => lv_lshl G.1 G.2.1 hd rfl kk) hk
theorem kx_s_irem (G : kx_G p e R s m args meth c s0 D cA cc own nL h0) (hd : decode cc pc = .ok (.irem, 1)) (hk : kx_Sn p l e R s m args below meth c s0 D cA nL ι0 h0 rr hf (pc + 1) k) : kx_Sn p l e R s m args below meth c s0 D cA nL ι0 h0 rr hf pc (kx_irem k) := by
  intro lv st h hF
  unfold kx_irem at hF
  split at hF
  · split at hF
    · cases hF
    · rename_i hy
      intro ι H locs cells slots ls hP hA hl hs hv hS hC hU hI hE
      exact lv_irem G.1 G.2.1 hd hy (hk _ _ _ hF ι H locs cells slots ls hP hA hl (kx_ok2 trivial (kx_okt (kx_okt hs))) hv hS hC hU hI hE)
  · cases hF
theorem kx_s_idiv (G : kx_G p e R s m args meth c s0 D cA cc own nL h0) (hd : decode cc pc = .ok (.idiv, 1)) (hk : kx_Sn p l e R s m args below meth c s0 D cA nL ι0 h0 rr hf (pc + 1) k) : kx_Sn p l e R s m args below meth c s0 D cA nL ι0 h0 rr hf pc (kx_idiv k) := by
  intro lv st h hF
  unfold kx_idiv at hF
  split at hF
  · split at hF
    · cases hF
    · rename_i hy
      intro ι H locs cells slots ls hP hA hl hs hv hS hC hU hI hE
      exact lv_idiv G.1 G.2.1 hd hy (hk _ _ _ hF ι H locs cells slots ls hP hA hl (kx_ok2 trivial (kx_okt (kx_okt hs))) hv hS hC hU hI hE)
  · cases hF
theorem kx_s_ineg (G : kx_G p e R s m args meth c s0 D cA cc own nL h0) (hd : decode cc pc = .ok (.ineg, 1)) (hk : kx_Sn p l e R s m args below meth c s0 D cA nL ι0 h0 rr hf (pc + 1) k) : kx_Sn p l e R s m args below meth c s0 D cA nL ι0 h0 rr hf pc (kx_ineg k) := by
  intro lv st h hF
  unfold kx_ineg at hF
  split at hF
  · intro ι H locs cells slots ls hP hA hl hs hv hS hC hU hI hE
    exact lv_ineg G.1 G.2.1 hd (hk _ _ _ hF ι H locs cells slots ls hP hA hl (kx_ok2 trivial (kx_okt hs)) hv hS hC hU hI hE)
  · cases hF
theorem kx_s_i2l (G : kx_G p e R s m args meth c s0 D cA cc own nL h0) (hd : decode cc pc = .ok (.i2l, 1)) (hk : kx_Sn p l e R s m args below meth c s0 D cA nL ι0 h0 rr hf (pc + 1) k) : kx_Sn p l e R s m args below meth c s0 D cA nL ι0 h0 rr hf pc (kx_i2l k) := by
  intro lv st h hF
  unfold kx_i2l at hF
  split at hF
  · intro ι H locs cells slots ls hP hA hl hs hv hS hC hU hI hE
    exact lv_i2l G.1 G.2.1 hd rfl (hk _ _ _ hF ι H locs cells slots ls hP hA hl (kx_ok2 trivial (kx_okt hs)) hv hS hC hU hI hE)
  · cases hF
theorem kx_s_l2i (G : kx_G p e R s m args meth c s0 D cA cc own nL h0) (hd : decode cc pc = .ok (.l2i, 1)) (hk : kx_Sn p l e R s m args below meth c s0 D cA nL ι0 h0 rr hf (pc + 1) k) : kx_Sn p l e R s m args below meth c s0 D cA nL ι0 h0 rr hf pc (kx_l2i k) := by
  intro lv st h hF
  unfold kx_l2i at hF
  split at hF
  · intro ι H locs cells slots ls hP hA hl hs hv hS hC hU hI hE
    exact lv_l2i G.1 G.2.1 hd rfl (hk _ _ _ hF ι H locs cells slots ls hP hA hl (kx_ok2 trivial (kx_okt hs)) hv hS hC hU hI hE)
  · cases hF
theorem kx_s_lcmp (G : kx_G p e R s m args meth c s0 D cA cc own nL h0) (hd : decode cc pc = .ok (.lcmp, 1)) (hk : kx_Sn p l e R s m args below meth c s0 D cA nL ι0 h0 rr hf (pc + 1) k) : kx_Sn p l e R s m args below meth c s0 D cA nL ι0 h0 rr hf pc (kx_lcmp k) := by
  intro lv st h hF
  unfold kx_lcmp at hF
  split at hF
  · intro ι H locs cells slots ls hP hA hl hs hv hS hC hU hI hE
    exact W.lcmp G.1 G.2.1 hd (hk _ _ _ hF ι H locs cells slots ls hP hA hl (kx_ok2 trivial (kx_okt (kx_okt hs))) hv hS hC hU hI hE)
  · cases hF
theorem kx_one {ι : Nat → Nat} {v : kx_V} (h : kx_two v = false) : (kx_cv ι v).category = 1 := by
  rcases v with x | x | ⟨t, o⟩
  · rfl
  · cases h
  · cases o <;> rfl
theorem kx_s_dup (G : kx_G p e R s m args meth c s0 D cA cc own nL h0) (hd : decode cc pc = .ok (.dup, 1)) (hk : kx_Sn p l e R s m args below meth c s0 D cA nL ι0 h0 rr hf (pc + 1) k) : kx_Sn p l e R s m args below meth c s0 D cA nL ι0 h0 rr hf pc (kx_dup k) := by
  intro lv st h hF
  unfold kx_dup at hF
  split at hF
  · rename_i v r
    cases hz : kx_two v with
    | true => rw [hz] at hF; cases hF
    | false =>
      rw [hz] at hF
      intro ι H locs cells slots ls hP hA hl hs hv hS hC hU hI hE
      exact lv_dup G.1 G.2.1 hd (kx_one hz) (hk _ _ _ hF ι H locs cells slots ls hP hA hl (kx_ok2 (kx_okh hs) hs) hv hS hC hU hI hE)
  · cases hF
theorem kx_s_pop (G : kx_G p e R s m args meth c s0 D cA cc own nL h0) (hd : decode cc pc = .ok (.pop, 1)) (hk : kx_Sn p l e R s m args below meth c s0 D cA nL ι0 h0 rr hf (pc + 1) k) : kx_Sn p l e R s m args below meth c s0 D cA nL ι0 h0 rr hf pc (kx_pop k) := by
  intro lv st h hF
  unfold kx_pop at hF
  split at hF
  · rename_i v r
    cases hz : kx_two v with
    | true => rw [hz] at hF; cases hF
    | false =>
      rw [hz] at hF
      intro ι H locs cells slots ls hP hA hl hs hv hS hC hU hI hE
      exact lv_pop G.1 G.2.1 hd (kx_one hz) (hk _ _ _ hF ι H locs cells slots ls hP hA hl (kx_okt hs) hv hS hC hU hI hE)
  · cases hF
theorem kx_s_dup_x1 (G : kx_G p e R s m args meth c s0 D cA cc own nL h0) (hd : decode cc pc = .ok (.dup_x1, 1)) (hk : kx_Sn p l e R s m args below meth c s0 D cA nL ι0 h0 rr hf (pc + 1) k) : kx_Sn p l e R s m args below meth c s0 D cA nL ι0 h0 rr hf pc (kx_dupx1 k) := by
  intro lv st h hF
  unfold kx_dupx1 at hF
  split at hF
  · rename_i v w r
    cases hz : kx_two v with
    | true => rw [hz] at hF; cases hF
    | false =>
      cases hz2 : kx_two w with
      | true => rw [hz, hz2] at hF; cases hF
      | false =>
        rw [hz, hz2] at hF
        intro ι H locs cells slots ls hP hA hl hs hv hS hC hU hI hE
        exact lv_dup_x1 G.1 G.2.1 hd (kx_one hz) (kx_one hz2) (hk _ _ _ hF ι H locs cells slots ls hP hA hl (kx_ok2 (kx_okh hs) (kx_ok2 (kx_okh (kx_okt hs)) (kx_ok2 (kx_okh hs) (kx_okt (kx_okt hs))))) hv hS hC hU hI hE)
  · cases hF
theorem kx_s_dup2 (G : kx_G p e R s m args meth c s0 D cA cc own nL h0) (hd : decode cc pc = .ok (.dup2, 1)) (hk : kx_Sn p l e R s m args below meth c s0 D cA nL ι0 h0 rr hf (pc + 1) k) : kx_Sn p l e R s m args below meth c s0 D cA nL ι0 h0 rr hf pc (kx_dup2 k) := by
  intro lv st h hF
  unfold kx_dup2 at hF
  split at hF
  · rename_i v w r
    cases hz : kx_two v with
    | true => rw [hz] at hF; cases hF
    | false =>
      cases hz2 : kx_two w with
      | true => rw [hz, hz2] at hF; cases hF
      | false =>
        rw [hz, hz2] at hF
        intro ι H locs cells slots ls hP hA hl hs hv hS hC hU hI hE
        exact lv_dup2_11 G.1 G.2.1 hd (kx_one hz) (kx_one hz2) (hk _ _ _ hF ι H locs cells slots ls hP hA hl (kx_ok2 (kx_okh hs) (kx_ok2 (kx_okh (kx_okt hs)) hs)) hv hS hC hU hI hE)
  · cases hF
theorem kx_s_ifeq (G : kx_G p e R s m args meth c s0 D cA cc own nL h0) {off : Int} {tgt : Nat} {t : kx_F} (hd : decode cc pc = .ok (.ifCond .eq off, 3)) (hg : (pc : Int) + off = (tgt : Int)) (ht : kx_Sn p l e R s m args below meth c s0 D cA nL ι0 h0 rr hf tgt t) (hk : kx_Sn p l e R s m args below meth c s0 D cA nL ι0 h0 rr hf (pc + 3) k) : kx_Sn p l e R s m args below meth c s0 D cA nL ι0 h0 rr hf pc (kx_ifeq t k) := by
  intro lv st h hF
  unfold kx_ifeq at hF
  split at hF
  · intro ι H locs cells slots ls hP hA hl hs hv hS hC hU hI hE
    exact lv_if_eq G.1 G.2.1 hd hg (fun hb9 => ht _ _ _ (by simpa only [if_pos hb9] using hF) ι H locs cells slots ls hP hA hl (kx_okt hs) hv hS hC hU hI hE) (fun hb9 => hk _ _ _ (by simpa only [if_neg hb9] using hF) ι H locs cells slots ls hP hA hl (kx_okt hs) hv hS hC hU hI hE)
  · cases hF
theorem kx_s_ifne (G : kx_G p e R s m args meth c s0 D cA cc own nL h0) {off : Int} {tgt : Nat} {t : kx_F} (hd : decode cc pc = .ok (.ifCond .ne off, 3)) (hg : (pc : Int) + off = (tgt : Int)) (ht : kx_Sn p l e R s m args below meth c s0 D cA nL ι0 h0 rr hf tgt t) (hk : kx_Sn p l e R s m args below meth c s0 D cA nL ι0 h0 rr hf (pc + 3) k) : kx_Sn p l e R s m args below meth c s0 D cA nL ι0 h0 rr hf pc (kx_ifne t k) := by
  intro lv st h hF
  unfold kx_ifne at hF
  split at hF
  · intro ι H locs cells slots ls hP hA hl hs hv hS hC hU hI hE
    exact lv_if_ne G.1 G.2.1 hd hg (fun hb9 => ht _ _ _ (by simpa only [if_neg hb9] using hF) ι H locs cells slots ls hP hA hl (kx_okt hs) hv hS hC hU hI hE) (fun hb9 => hk _ _ _ (by simpa only [if_pos hb9] using hF) ι H locs cells slots ls hP hA hl (kx_okt hs) hv hS hC hU hI hE)
  · cases hF
theorem kx_s_iflt (G : kx_G p e R s m args meth c s0 D cA cc own nL h0) {off : Int} {tgt : Nat} {t : kx_F} (hd : decode cc pc = .ok (.ifCond .lt off, 3)) (hg : (pc : Int) + off = (tgt : Int)) (ht : kx_Sn p l e R s m args below meth c s0 D cA nL ι0 h0 rr hf tgt t) (hk : kx_Sn p l e R s m args below meth c s0 D cA nL ι0 h0 rr hf (pc + 3) k) : kx_Sn p l e R s m args below meth c s0 D cA nL ι0 h0 rr hf pc (kx_iflt t k) := by
  intro lv st h hF
  unfold kx_iflt at hF
  split at hF
  · intro ι H locs cells slots ls hP hA hl hs hv hS hC hU hI hE
    exact lv_if_lt G.1 G.2.1 hd hg (fun hb9 => ht _ _ _ (by simpa only [if_pos hb9] using hF) ι H locs cells slots ls hP hA hl (kx_okt hs) hv hS hC hU hI hE) (fun hb9 => hk _ _ _ (by simpa only [if_neg hb9] using hF) ι H locs cells slots ls hP hA hl (kx_okt hs) hv hS hC hU hI hE)
  · cases hF
theorem kx_s_ifge (G : kx_G p e R s m args meth c s0 D cA cc own nL h0) {off : Int} {tgt : Nat} {t : kx_F} (hd : decode cc pc = .ok (.ifCond .ge off, 3)) (hg : (pc : Int) + off = (tgt : Int)) (ht : kx_Sn p l e R s m args below meth c s0 D cA nL ι0 h0 rr hf tgt t) (hk : kx_Sn p l e R s m args below meth c s0 D cA nL ι0 h0 rr hf (pc + 3) k) : kx_Sn p l e R s m args below meth c s0 D cA nL ι0 h0 rr hf pc (kx_ifge t k) := by
  intro lv st h hF
  unfold kx_ifge at hF
  split at hF
  · intro ι H locs cells slots ls hP hA hl hs hv hS hC hU hI hE
    exact lv_if_ge G.1 G.2.1 hd hg (fun hb9 => ht _ _ _ (by simpa only [if_pos hb9] using hF) ι H locs cells slots ls hP hA hl (kx_okt hs) hv hS hC hU hI hE) (fun hb9 => hk _ _ _ (by simpa only [if_neg hb9] using hF) ι H locs cells slots ls hP hA hl (kx_okt hs) hv hS hC hU hI hE)
  · cases hF
theorem kx_s_ifgt (G : kx_G p e R s m args meth c s0 D cA cc own nL h0) {off : Int} {tgt : Nat} {t : kx_F} (hd : decode cc pc = .ok (.ifCond .gt off, 3)) (hg : (pc : Int) + off = (tgt : Int)) (ht : kx_Sn p l e R s m args below meth c s0 D cA nL ι0 h0 rr hf tgt t) (hk : kx_Sn p l e R s m args below meth c s0 D cA nL ι0 h0 rr hf (pc + 3) k) : kx_Sn p l e R s m args below meth c s0 D cA nL ι0 h0 rr hf pc (kx_ifgt t k) := by
  intro lv st h hF
  unfold kx_ifgt at hF
  split at hF
  · intro ι H locs cells slots ls hP hA hl hs hv hS hC hU hI hE
    exact lv_if_gt G.1 G.2.1 hd hg (fun hb9 => ht _ _ _ (by simpa only [if_pos hb9] using hF) ι H locs cells slots ls hP hA hl (kx_okt hs) hv hS hC hU hI hE) (fun hb9 => hk _ _ _ (by simpa only [if_neg hb9] using hF) ι H locs cells slots ls hP hA hl (kx_okt hs) hv hS hC hU hI hE)
  · cases hF
theorem kx_s_ifle (G : kx_G p e R s m args meth c s0 D cA cc own nL h0) {off : Int} {tgt : Nat} {t : kx_F} (hd : decode cc pc = .ok (.ifCond .le off, 3)) (hg : (pc : Int) + off = (tgt : Int)) (ht : kx_Sn p l e R s m args below meth c s0 D cA nL ι0 h0 rr hf tgt t) (hk : kx_Sn p l e R s m args below meth c s0 D cA nL ι0 h0 rr hf (pc + 3) k) : kx_Sn p l e R s m args below meth c s0 D cA nL ι0 h0 rr hf pc (kx_ifle t k) := by
  intro lv st h hF
  unfold kx_ifle at hF
  split at hF
  · intro ι H locs cells slots ls hP hA hl hs hv hS hC hU hI hE
    exact lv_if_le G.1 G.2.1 hd hg (fun hb9 => ht _ _ _ (by simpa only [if_pos hb9] using hF) ι H locs cells slots ls hP hA hl (kx_okt hs) hv hS hC hU hI hE) (fun hb9 => hk _ _ _ (by simpa only [if_neg hb9] using hF) ι H locs cells slots ls hP hA hl (kx_okt hs) hv hS hC hU hI hE)
  · cases hF
theorem kx_s_ceq (G : kx_G p e R s m args meth c s0 D cA cc own nL h0) {off : Int} {tgt : Nat} {t : kx_F} (hd : decode cc pc = .ok (.if_icmp .eq off, 3)) (hg : (pc : Int) + off = (tgt : Int)) (ht : kx_Sn p l e R s m args below meth c s0 D cA nL ι0 h0 rr hf tgt t) (hk : kx_Sn p l e R s m args below meth c s0 D cA nL ι0 h0 rr hf (pc + 3) k) : kx_Sn p l e R s m args below meth c s0 D cA nL ι0 h0 rr hf pc (kx_ceq t k) := by
  intro lv st h hF
  unfold kx_ceq at hF
  split at hF
  · intro ι H locs cells slots ls hP hA hl hs hv hS hC hU hI hE
    exact lv_icmp_eq G.1 G.2.1 hd hg (fun hb9 => ht _ _ _ (by simpa only [if_pos hb9] using hF) ι H locs cells slots ls hP hA hl (kx_okt (kx_okt hs)) hv hS hC hU hI hE) (fun hb9 => hk _ _ _ (by simpa only [if_neg hb9] using hF) ι H locs cells slots ls hP hA hl (kx_okt (kx_okt hs)) hv hS hC hU hI hE)
  · cases hF
theorem kx_s_cne (G : kx_G p e R s m args meth c s0 D cA cc own nL h0) {off : Int} {tgt : Nat} {t : kx_F} (hd : decode cc pc = .ok (.if_icmp .ne off, 3)) (hg : (pc : Int) + off = (tgt : Int)) (ht : kx_Sn p l e R s m args below meth c s0 D cA nL ι0 h0 rr hf tgt t) (hk : kx_Sn p l e R s m args below meth c s0 D cA nL ι0 h0 rr hf (pc + 3) k) : kx_Sn p l e R s m args below meth c s0 D cA nL ι0 h0 rr hf pc (kx_cne t k) := by
  intro lv st h hF
  unfold kx_cne at hF
  split at hF
  · intro ι H locs cells slots ls hP hA hl hs hv hS hC hU hI hE
    exact lv_icmp_ne G.1 G.2.1 hd hg (fun hb9 => ht _ _ _ (by simpa only [if_neg hb9] using hF) ι H locs cells slots ls hP hA hl (kx_okt (kx_okt hs)) hv hS hC hU hI hE) (fun hb9 => hk _ _ _ (by simpa only [if_pos hb9] using hF) ι H locs cells slots ls hP hA hl (kx_okt (kx_okt hs)) hv hS hC hU hI hE)
  · cases hF
theorem kx_s_clt (G : kx_G p e R s m args meth c s0 D cA cc own nL h0) {off : Int} {tgt : Nat} {t : kx_F} (hd : decode cc pc = .ok (.if_icmp .lt off, 3)) (hg : (pc : Int) + off = (tgt : Int)) (ht : kx_Sn p l e R s m args below meth c s0 D cA nL ι0 h0 rr hf tgt t) (hk : kx_Sn p l e R s m args below meth c s0 D cA nL ι0 h0 rr hf (pc + 3) k) : kx_Sn p l e R s m args below meth c s0 D cA nL ι0 h0 rr hf pc (kx_clt t k) := by
  intro lv st h hF
  unfold kx_clt at hF
  split at hF
  · intro ι H locs cells slots ls hP hA hl hs hv hS hC hU hI hE
    exact lv_icmp_lt G.1 G.2.1 hd hg (fun hb9 => ht _ _ _ (by simpa only [if_pos hb9] using hF) ι H locs cells slots ls hP hA hl (kx_okt (kx_okt hs)) hv hS hC hU hI hE) (fun hb9 => hk _ _ _ (by simpa only [if_neg hb9] using hF) ι H locs cells slots ls hP hA hl (kx_okt (kx_okt hs)) hv hS hC hU hI hE)
  · cases hF
theorem kx_s_cge (G : kx_G p e R s m args meth c s0 D cA cc own nL h0) {off : Int} {tgt : Nat} {t : kx_F} (hd : decode cc pc = .ok (.if_icmp .ge off, 3)) (hg : (pc : Int) + off = (tgt : Int)) (ht : kx_Sn p l e R s m args below meth c s0 D cA nL ι0 h0 rr hf tgt t) (hk : kx_Sn p l e R s m args below meth c s0 D cA nL ι0 h0 rr hf (pc + 3) k) : kx_Sn p l e R s m args below meth c s0 D cA nL ι0 h0 rr hf pc (kx_cge t k) := by
  intro lv st h hF
  unfold kx_cge at hF
  split at hF
  · intro ι H locs cells slots ls hP hA hl hs hv hS hC hU hI hE
    exact lv_icmp_ge G.1 G.2.1 hd hg (fun hb9 => ht _ _ _ (by simpa only [if_pos hb9] using hF) ι H locs cells slots ls hP hA hl (kx_okt (kx_okt hs)) hv hS hC hU hI hE) (fun hb9 => hk _ _ _ (by simpa only [if_neg hb9] using hF) ι H locs cells slots ls hP hA hl (kx_okt (kx_okt hs)) hv hS hC hU hI hE)
  · cases hF
theorem kx_s_cgt (G : kx_G p e R s m args meth c s0 D cA cc own nL h0) {off : Int} {tgt : Nat} {t : kx_F} (hd : decode cc pc = .ok (.if_icmp .gt off, 3)) (hg : (pc : Int) + off = (tgt : Int)) (ht : kx_Sn p l e R s m args below meth c s0 D cA nL ι0 h0 rr hf tgt t) (hk : kx_Sn p l e R s m args below meth c s0 D cA nL ι0 h0 rr hf (pc + 3) k) : kx_Sn p l e R s m args below meth c s0 D cA nL ι0 h0 rr hf pc (kx_cgt t k) := by
  intro lv st h hF
  unfold kx_cgt at hF
  split at hF
  · intro ι H locs cells slots ls hP hA hl hs hv hS hC hU hI hE
    exact lv_icmp_gt G.1 G.2.1 hd hg (fun hb9 => ht _ _ _ (by simpa only [if_pos hb9] using hF) ι H locs cells slots ls hP hA hl (kx_okt (kx_okt hs)) hv hS hC hU hI hE) (fun hb9 => hk _ _ _ (by simpa only [if_neg hb9] using hF) ι H locs cells slots ls hP hA hl (kx_okt (kx_okt hs)) hv hS hC hU hI hE)
  · cases hF
theorem kx_s_cle (G : kx_G p e R s m args meth c s0 D cA cc own nL h0) {off : Int} {tgt : Nat} {t : kx_F} (hd : decode cc pc = .ok (.if_icmp .le off, 3)) (hg : (pc : Int) + off = (tgt : Int)) (ht : kx_Sn p l e R s m args below meth c s0 D cA nL ι0 h0 rr hf tgt t) (hk : kx_Sn p l e R s m args below meth c s0 D cA nL ι0 h0 rr hf (pc + 3) k) : kx_Sn p l e R s m args below meth c s0 D cA nL ι0 h0 rr hf pc (kx_cle t k) := by
  intro lv st h hF
  unfold kx_cle at hF
  split at hF
  · intro ι H locs cells slots ls hP hA hl hs hv hS hC hU hI hE
    exact lv_icmp_le G.1 G.2.1 hd hg (fun hb9 => ht _ _ _ (by simpa only [if_pos hb9] using hF) ι H locs cells slots ls hP hA hl (kx_okt (kx_okt hs)) hv hS hC hU hI hE) (fun hb9 => hk _ _ _ (by simpa only [if_neg hb9] using hF) ι H locs cells slots ls hP hA hl (kx_okt (kx_okt hs)) hv hS hC hU hI hE)
  · cases hF
theorem kx_s_goto (G : kx_G p e R s m args meth c s0 D cA cc own nL h0) {off : Int} {tgt : Nat} (hd : decode cc pc = .ok (.goto off, 3)) (hg : (pc : Int) + off = (tgt : Int)) (hk : kx_Sn p l e R s m args below meth c s0 D cA nL ι0 h0 rr hf tgt k) : kx_Sn p l e R s m args below meth c s0 D cA nL ι0 h0 rr hf pc k := by
  intro lv st h hF
  intro ι H locs cells slots ls hP hA hl hs hv hS hC hU hI hE
  exact lv_goto G.1 G.2.1 hd hg (hk _ _ _ hF ι H locs cells slots ls hP hA hl hs hv hS hC hU hI hE)
theorem kx_s_ifnull (G : kx_G p e R s m args meth c s0 D cA cc own nL h0) {off : Int} {tgt : Nat} {t : kx_F} (hd : decode cc pc = .ok (.ifnull off, 3)) (hg : (pc : Int) + off = (tgt : Int)) (ht : kx_Sn p l e R s m args below meth c s0 D cA nL ι0 h0 rr hf tgt t) (hk : kx_Sn p l e R s m args below meth c s0 D cA nL ι0 h0 rr hf (pc + 3) k) : kx_Sn p l e R s m args below meth c s0 D cA nL ι0 h0 rr hf pc (kx_nul t k) := by
  intro lv st h hF
  unfold kx_nul at hF
  split at hF
  · rename_i x r
    intro ι H locs cells slots ls hP hA hl hs hv hS hC hU hI hE
    obtain ⟨t9, o⟩ := x
    cases o with
    | none => exact lv_ifnullN G.1 G.2.1 hd hg (ht _ _ _ hF ι H locs cells slots ls hP hA hl (kx_okt hs) hv hS hC hU hI hE)
    | some a => exact lv_ifnull G.1 G.2.1 hd (hk _ _ _ hF ι H locs cells slots ls hP hA hl (kx_okt hs) hv hS hC hU hI hE)
  · cases hF
theorem kx_s_ifnonnull (G : kx_G p e R s m args meth c s0 D cA cc own nL h0) {off : Int} {tgt : Nat} {t : kx_F} (hd : decode cc pc = .ok (.ifnonnull off, 3)) (hg : (pc : Int) + off = (tgt : Int)) (ht : kx_Sn p l e R s m args below meth c s0 D cA nL ι0 h0 rr hf tgt t) (hk : kx_Sn p l e R s m args below meth c s0 D cA nL ι0 h0 rr hf (pc + 3) k) : kx_Sn p l e R s m args below meth c s0 D cA nL ι0 h0 rr hf pc (kx_nnul t k) := by
  intro lv st h hF
  unfold kx_nnul at hF
  split at hF
  · rename_i x r
    intro ι H locs cells slots ls hP hA hl hs hv hS hC hU hI hE
    obtain ⟨t9, o⟩ := x
    cases o with
    | none => exact lv_ifnonnullN G.1 G.2.1 hd (hk _ _ _ hF ι H locs cells slots ls hP hA hl (kx_okt hs) hv hS hC hU hI hE)
    | some a => exact lv_ifnonnull G.1 G.2.1 hd hg (ht _ _ _ hF ι H locs cells slots ls hP hA hl (kx_okt hs) hv hS hC hU hI hE)
  · cases hF
theorem kx_inj {ι : Nat → Nat} {h : kx_H} {H : Heap} (hP : kx_P s0 D cA ι h H) {t u : Nat} {x y : Option Nat} (hx : kx_ok h (kx_r t x)) (hy : kx_ok h (kx_r u y)) : x.map ι = y.map ι ↔ x = y := by
  refine ⟨fun q => ?_, fun q => by rw [q]⟩
  cases x with
  | none => cases y with
    | none => rfl
    | some b => cases q
  | some a => cases y with
    | none => cases q
    | some b => rw [hP.2.1 a b t u (hx a rfl) (hy b rfl) (Option.some.inj q)]
theorem kx_s_aeq (G : kx_G p e R s m args meth c s0 D cA cc own nL h0) {off : Int} {tgt : Nat} {t : kx_F} (hd : decode cc pc = .ok (.if_acmp .eq off, 3)) (hg : (pc : Int) + off = (tgt : Int)) (ht : kx_Sn p l e R s m args below meth c s0 D cA nL ι0 h0 rr hf tgt t) (hk : kx_Sn p l e R s m args below meth c s0 D cA nL ι0 h0 rr hf (pc + 3) k) : kx_Sn p l e R s m args below meth c s0 D cA nL ι0 h0 rr hf pc (kx_aeq t k) := by
  intro lv st h hF
  unfold kx_aeq at hF
  split at hF
  · rename_i y x r
    intro ι H locs cells slots ls hP hA hl hs hv hS hC hU hI hE
    cases hq : Nat.beq x.1 y.1 with
    | false => rw [hq] at hF; cases hF
    | true =>
      rw [hq] at hF
      have hi := kx_inj hP (kx_okh (kx_okt hs)) (kx_okh hs)
      refine lv_acmp_eq G.1 G.2.1 hd hg (fun hb9 => ht _ _ _ ?_ ι H locs cells slots ls hP hA hl (kx_okt (kx_okt hs)) hv hS hC hU hI hE) (fun hb9 => hk _ _ _ ?_ ι H locs cells slots ls hP hA hl (kx_okt (kx_okt hs)) hv hS hC hU hI hE)
      · simpa only [cond_true, if_pos (hi.mp hb9)] using hF
      · simpa only [cond_true, if_neg (fun z => hb9 (hi.mpr z))] using hF
  · cases hF
theorem kx_s_ane (G : kx_G p e R s m args meth c s0 D cA cc own nL h0) {off : Int} {tgt : Nat} {t : kx_F} (hd : decode cc pc = .ok (.if_acmp .ne off, 3)) (hg : (pc : Int) + off = (tgt : Int)) (ht : kx_Sn p l e R s m args below meth c s0 D cA nL ι0 h0 rr hf tgt t) (hk : kx_Sn p l e R s m args below meth c s0 D cA nL ι0 h0 rr hf (pc + 3) k) : kx_Sn p l e R s m args below meth c s0 D cA nL ι0 h0 rr hf pc (kx_ane t k) := by
  intro lv st h hF
  unfold kx_ane at hF
  split at hF
  · rename_i y x r
    intro ι H locs cells slots ls hP hA hl hs hv hS hC hU hI hE
    cases hq : Nat.beq x.1 y.1 with
    | false => rw [hq] at hF; cases hF
    | true =>
      rw [hq] at hF
      have hi := kx_inj hP (kx_okh (kx_okt hs)) (kx_okh hs)
      refine lv_acmp_ne G.1 G.2.1 hd hg (fun hb9 => ht _ _ _ ?_ ι H locs cells slots ls hP hA hl (kx_okt (kx_okt hs)) hv hS hC hU hI hE) (fun hb9 => hk _ _ _ ?_ ι H locs cells slots ls hP hA hl (kx_okt (kx_okt hs)) hv hS hC hU hI hE)
      · simpa only [cond_true, if_neg (fun z => hb9 (hi.mpr z))] using hF
      · simpa only [cond_true, if_pos (hi.mp hb9)] using hF
  · cases hF
end KS
end
section
theorem kx_nrf {ty : FieldType} (h : ty.isReference = true) (o : Option Nat) : narrow ty (va_rf o) = va_rf o := by
  cases ty <;> first | (cases o <;> rfl) | cases h
theorem kx_frf {ty : FieldType} (h : ty.isReference = true) (o : Option Nat) : fits ty (va_rf o) = true := by
  cases ty <;> first | (cases o <;> rfl) | cases h
theorem kx_v0 (ι : Nat → Nat) (h : kx_H) (a k : Nat) (v : Int32) (b kd j : Nat) : kx_val ι (hp_sI h a k v) b kd j = if kd = 0 ∧ b = a ∧ j = k then .int v else kx_val ι h b kd j := by
  rcases kd with _ | _ | _ | kd
  · show Value.int (if b = a ∧ j = k then v else _) = _
    by_cases hq : b = a ∧ j = k
    · rw [if_pos hq, if_pos ⟨rfl, hq⟩]
    · rw [if_neg hq, if_neg (fun z => hq z.2)]; rfl
  · rw [if_neg (fun z => by cases z.1)]; rfl
  · rw [if_neg (fun z => by cases z.1)]; rfl
  · rw [if_neg (fun z => by cases z.1)]; rfl
theorem kx_v1 (ι : Nat → Nat) (h : kx_H) (a k : Nat) (v : Int64) (b kd j : Nat) : kx_val ι (hp_sL h a k v) b kd j = if kd = 1 ∧ b = a ∧ j = k then .long v else kx_val ι h b kd j := by
  rcases kd with _ | _ | _ | kd
  · rw [if_neg (fun z => by cases z.1)]; rfl
  · show Value.long (if b = a ∧ j = k then v else _) = _
    by_cases hq : b = a ∧ j = k
    · rw [if_pos hq, if_pos ⟨rfl, hq⟩]
    · rw [if_neg hq, if_neg (fun z => hq z.2)]; rfl
  · rw [if_neg (fun z => by cases z.1)]; rfl
  · rw [if_neg (fun z => by cases z.1)]; rfl
theorem kx_v2 (ι : Nat → Nat) (h : kx_H) (a k : Nat) (v : Option Nat) (b kd j : Nat) : kx_val ι (hp_sR h a k v) b kd j = if kd = 2 ∧ b = a ∧ j = k then va_rf (v.map ι) else kx_val ι h b kd j := by
  rcases kd with _ | _ | _ | kd
  · rw [if_neg (fun z => by cases z.1)]; rfl
  · rw [if_neg (fun z => by cases z.1)]; rfl
  · show va_rf ((if b = a ∧ j = k then v else _).map ι) = _
    by_cases hq : b = a ∧ j = k
    · rw [if_pos hq, if_pos ⟨rfl, hq⟩]
    · rw [if_neg hq, if_neg (fun z => hq z.2)]; rfl
  · rw [if_neg (fun z => by cases z.1)]; rfl
theorem kx_v3 (ι : Nat → Nat) (h : kx_H) (a k : Nat) (v : Bool) (b kd j : Nat) : kx_val ι (hp_sB h a k v) b kd j = if 2 < kd ∧ b = a ∧ j = k then .int (kx_b v) else kx_val ι h b kd j := by
  rcases kd with _ | _ | _ | kd
  · rw [if_neg (fun z => by omega)]; rfl
  · rw [if_neg (fun z => by omega)]; rfl
  · rw [if_neg (fun z => by omega)]; rfl
  · show Value.int (kx_b (if b = a ∧ j = k then v else _)) = _
    by_cases hq : b = a ∧ j = k
    · rw [if_pos hq, if_pos ⟨by omega, hq⟩]
    · rw [if_neg hq, if_neg (fun z => hq z.2)]; rfl
theorem kx_updV {V : Nat → Value} {k : Nat} {v : Value} (j : Nat) : updV V k v j = if j = k then v else V j := by
  by_cases hj : j = k
  · subst hj; simp [updV]
  · simp [updV, hj]
/-- an object's cell is written -/
theorem kx_P_set {s0 : State} {D : va_G} {cA : Nat → ClassId} {ι : Nat → Nat} {h h' : kx_H} {H H' : Heap} {a t : Nat} {r : vw_C} (hP : kx_P s0 D cA ι h H) (ha : hp_T h a = some t) (ht : t < 98) (hc : kx_cl[t]? = some r)
    (hob : t_OB (ι a) (D.1 t) r.2.2 (D.2 t) H' (fun k => kx_val ι h' a (kx_ft t k).1 k)) (hq : ∀ q : Nat, q ≠ ι a → H'[q]? = H[q]?) (hT : hp_T h' = hp_T h) (hN : hp_N h' = hp_N h) (hX : hp_X h' = hp_X h)
    (ho : ∀ b, b ≠ a → ∀ kd k, kx_val ι h' b kd k = kx_val ι h b kd k) (hIo : ∀ b, b ≠ a → hp_I h' b = hp_I h b)
    (hR1 : ∀ b t' k c, hp_T h b = some t' → t' < 98 → (kx_ft t' k).1 = 2 → hp_R h' b k = some c → hp_T h c = some (kx_ft t' k).2)
    (hR2 : ∀ b t' k c, hp_T h b = some t' → 98 < t' → (kx_ak t').1 = 2 → hp_R h' b k = some c → hp_T h c = some (kx_ak t').2) : kx_P s0 D cA ι h' H' := by
  refine ⟨fun b t' hb => ?_, ?_, ?_, ?_⟩
  · rw [hT] at hb
    by_cases e : b = a
    · subst e
      have e2 : t' = t := Option.some.inj (hb.symm.trans ha)
      subst e2
      exact ⟨by rw [hX]; exact (hP.1 b _ hb).1, fun z => absurd z (by omega), fun _ => ⟨((hP.1 b _ hb).2.2.1 ht).1, r, hc, hob⟩, fun z => absurd z (by omega)⟩
    · have hne : ι b ≠ ι a := fun z => e (hP.2.1 b a t' t hb ha z)
      obtain ⟨g1, g2, g3, g4⟩ := hP.1 b t' hb
      refine ⟨by rw [hX]; exact g1, fun z => ?_, fun z => ?_, fun z => ?_⟩
      · obtain ⟨x1, x2⟩ := g2 z
        rw [hN, hIo b e]
        exact ⟨x1.kept (hq _ hne), x2⟩
      · obtain ⟨x0, r', x1, x2⟩ := g3 z
        exact ⟨x0, r', x1, (x2.kept (hq _ hne)).to (fun k _ => (ho b e _ k).symm)⟩
      · obtain ⟨x0, x1⟩ := g4 z
        refine ⟨x0, ?_⟩
        rw [hq _ hne, x1, hN]
        simp only [ho b e]
  · intro b c t' u hb hc'
    rw [hT] at hb hc'
    exact hP.2.1 b c t' u hb hc'
  · intro b t' k c hb
    rw [hT] at hb ⊢
    exact hR1 b t' k c hb
  · intro b t' k c hb
    rw [hT] at hb ⊢
    exact hR2 b t' k c hb
/-- an array's cell is written -/
theorem kx_P_arr {s0 : State} {D : va_G} {cA : Nat → ClassId} {ι : Nat → Nat} {h h' : kx_H} {H H' : Heap} {a t : Nat} (hP : kx_P s0 D cA ι h H) (ha : hp_T h a = some t) (ht : 98 < t)
    (hob : H'[ι a]? = some (arrV (cA t) (hp_N h a) (fun i => kx_val ι h' a (kx_ak t).1 i))) (hq : ∀ q : Nat, q ≠ ι a → H'[q]? = H[q]?) (hT : hp_T h' = hp_T h) (hN : hp_N h' = hp_N h) (hX : hp_X h' = hp_X h)
    (ho : ∀ b, b ≠ a → ∀ kd k, kx_val ι h' b kd k = kx_val ι h b kd k) (hIo : ∀ b, b ≠ a → hp_I h' b = hp_I h b)
    (hR1 : ∀ b t' k c, hp_T h b = some t' → t' < 98 → (kx_ft t' k).1 = 2 → hp_R h' b k = some c → hp_T h c = some (kx_ft t' k).2)
    (hR2 : ∀ b t' k c, hp_T h b = some t' → 98 < t' → (kx_ak t').1 = 2 → hp_R h' b k = some c → hp_T h c = some (kx_ak t').2) : kx_P s0 D cA ι h' H' := by
  refine ⟨fun b t' hb => ?_, ?_, ?_, ?_⟩
  · rw [hT] at hb
    by_cases e : b = a
    · subst e
      have e2 : t' = t := Option.some.inj (hb.symm.trans ha)
      subst e2
      exact ⟨by rw [hX]; exact (hP.1 b _ hb).1, fun z => absurd z (by omega), fun z => absurd z (by omega), fun _ => ⟨((hP.1 b _ hb).2.2.2 ht).1, by rw [hN]; exact hob⟩⟩
    · have hne : ι b ≠ ι a := fun z => e (hP.2.1 b a t' t hb ha z)
      obtain ⟨g1, g2, g3, g4⟩ := hP.1 b t' hb
      refine ⟨by rw [hX]; exact g1, fun z => ?_, fun z => ?_, fun z => ?_⟩
      · obtain ⟨x1, x2⟩ := g2 z
        rw [hN, hIo b e]
        exact ⟨x1.kept (hq _ hne), x2⟩
      · obtain ⟨x0, r', x1, x2⟩ := g3 z
        exact ⟨x0, r', x1, (x2.kept (hq _ hne)).to (fun k _ => (ho b e _ k).symm)⟩
      · obtain ⟨x0, x1⟩ := g4 z
        refine ⟨x0, ?_⟩
        rw [hq _ hne, x1, hN]
        simp only [ho b e]
  · intro b c t' u hb hc'
    rw [hT] at hb hc'
    exact hP.2.1 b c t' u hb hc'
  · intro b t' k c hb
    rw [hT] at hb ⊢
    exact hR1 b t' k c hb
  · intro b t' k c hb
    rw [hT] at hb ⊢
    exact hR2 b t' k c hb
section KT
variable {p : Program} {l : Launch} {e : Env} {R : Room} {s : State} {m : MethodId} {args : Array Value} {below : List Frame} {meth : Method} {c : Code} {H : Heap} {locs : List Loc} {cells slots : Nat} {Q : State → Prop}
variable {s0 : State} {D : va_G} {cA : Nat → ClassId} {cc : ByteArray} {own : String} {nL : Nat} {ι ι0 : Nat → Nat} {h h0 hf : kx_H} {rr : kx_R} {pc : Nat} {k : kx_F} {ls : Array Slot} {rest : List Value} {a t i : Nat} {r : vw_C}
/-- a field of a class: its place, its link -/
def kx_fd (own : String) (i t q kd cc : Nat) (r : vw_C) : Prop := kx_cl[t]? = some r ∧ q < r.2.2 ∧ t < 98 ∧ Cond.fieldLink own i (r.2.1 q).1 (r.2.1 q).2.1 (r.2.1 q).2.2.1 ∈ kx_WS ∧ (∀ w ∈ u_ws r.1 r.2.1 r.2.2, w ∈ kx_WS) ∧ kx_ft t q = (kd, cc)
theorem kx_wget (G : kx_G p e R s m args meth c s0 D cA cc own nL h0) {q kd c9 : Nat} (hf9 : kx_fd own i t q kd c9 r) (hd : decode cc pc = .ok (.getfield i, 3)) (hP : kx_P s0 D cA ι h H) (ha : hp_T h a = some t) (kk : W p l e R s m args below meth c H locs cells slots Q (F0 m (pc + 3) ls (kx_val ι h a kd q :: rest))) : W p l e R s m args below meth c H locs cells slots Q (F0 m pc ls (.ref (ι a) :: rest)) := by
  obtain ⟨hc, hq, ht, hw, hin, hft⟩ := hf9
  obtain ⟨hx, hb, hown, -, -, hts, ⟨-, hK, -, -, -⟩, -, -⟩ := G
  obtain ⟨-, r', hr', cell, q1, q2, q3, q4⟩ := (hP.1 a t ha).2.2.1 ht
  cases hc.symm.trans hr'
  obtain ⟨hS, hfc, kC, hkC, hkind⟩ := hK.1 t r hc
  obtain ⟨cf, kf, fi, f, hi, hsl⟩ := hS q hq
  refine W.getf hx hb hown (hts _ hw) hi (u_facts hfc hkC (u_lays hts hin hq) hi).1 q1 (by rw [q3]; exact fun z => by cases z) (v := kx_val ι h a kd q) ?_ rfl rfl hd kk
  rw [hsl, q4 q hq]
  show some (kx_val ι h a (kx_ft t q).1 q) = _
  rw [hft]
theorem kx_wput (G : kx_G p e R s m args meth c s0 D cA cc own nL h0) {q kd c9 : Nat} (hf9 : kx_fd own i t q kd c9 r) (hfin : (r.2.1 q).2.2.2 = false) {ty : FieldType} {v : Value} (hdt : parseFieldDescriptor (r.2.1 q).2.2.1 = some ty) (hn : narrow ty v = v) (hfit : fits ty v = true) (hd : decode cc pc = .ok (.putfield i, 3)) (hP : kx_P s0 D cA ι h H) (ha : hp_T h a = some t)
    (kk : ∀ H' : Heap, t_OB (ι a) (D.1 t) r.2.2 (D.2 t) H' (updV (fun j => kx_val ι h a (kx_ft t j).1 j) q v) → H'.size = H.size → (∀ z : Nat, z ≠ ι a → H'[z]? = H[z]?) → W p l e R s m args below meth c H' (locs ++ [⟨ι a, D.2 t q⟩]) cells slots Q (F0 m (pc + 3) ls rest)) : W p l e R s m args below meth c H locs cells slots Q (F0 m pc ls (v :: .ref (ι a) :: rest)) := by
  obtain ⟨hc, hq, ht, hw, hin, hft⟩ := hf9
  obtain ⟨hx, hb, hown, -, -, hts, ⟨-, hK, hap, -, -⟩, -, -⟩ := G
  obtain ⟨-, r', hr', cell, q1, q2, q3, q4⟩ := (hP.1 a t ha).2.2.1 ht
  cases hc.symm.trans hr'
  obtain ⟨hS, hfc, kC, hkC, hkind⟩ := hK.1 t r hc
  obtain ⟨cf, kf, fi, f, hi, hsl⟩ := hS q hq
  have hlay := hts _ (hin _ (u_in_lay hq))
  unfold u_lay at hlay
  rw [if_neg (by rw [hfin]; decide)] at hlay
  have hst := (u_facts hfc hkC (u_lays hts hin hq) hi).1
  have h6 := u_store hfc hkC hkind hlay hi hdt hn hfit
  refine W.putK hx hb (f := f) ⟨hown, hts _ hw, ⟨_, _, _, hi⟩, hst⟩ (by rw [q2]; exact h6) q1 q3 (by rw [hsl]; exact k2_hasslot (q4 q hq)) rfl rfl hd fun H' e1 e2 e3 => ?_
  rw [hsl] at e1 ⊢
  exact kk H' ⟨_, e1, q2, q3, t_set q4 (hap t r hc) hq v⟩ e2 e3
theorem kx_wputF (G : kx_G p e R s m args meth c s0 D cA cc own nL h0) {q kd c9 : Nat} (hf9 : kx_fd own i t q kd c9 r) (hfin : (r.2.1 q).2.2.2 = true) (hin2 : meth.name = "<init>") (hdecl : (r.2.1 q).1 = own) {ty : FieldType} {v : Value} (hdt : parseFieldDescriptor (r.2.1 q).2.2.1 = some ty) (hn : narrow ty v = v) (hfit : fits ty v = true) (hd : decode cc pc = .ok (.putfield i, 3)) (hP : kx_P s0 D cA ι h H) (ha : hp_T h a = some t)
    (kk : ∀ H' : Heap, t_OB (ι a) (D.1 t) r.2.2 (D.2 t) H' (updV (fun j => kx_val ι h a (kx_ft t j).1 j) q v) → H'.size = H.size → (∀ z : Nat, z ≠ ι a → H'[z]? = H[z]?) → W p l e R s m args below meth c H' (locs ++ [⟨ι a, D.2 t q⟩]) cells slots Q (F0 m (pc + 3) ls rest)) : W p l e R s m args below meth c H locs cells slots Q (F0 m pc ls (v :: .ref (ι a) :: rest)) := by
  obtain ⟨hc, hq, ht, hw, hin, hft⟩ := hf9
  obtain ⟨hx, hb, hown, -, -, hts, ⟨-, hK, hap, -, -⟩, -, -⟩ := G
  obtain ⟨-, r', hr', cell, q1, q2, q3, q4⟩ := (hP.1 a t ha).2.2.1 ht
  cases hc.symm.trans hr'
  obtain ⟨hS, hfc, kC, hkC, hkind⟩ := hK.1 t r hc
  obtain ⟨cf, kf, fi, f, hi, hsl⟩ := hS q hq
  have hlay := hts _ (hin _ (u_in_lay hq))
  unfold u_lay at hlay
  rw [if_pos hfin] at hlay
  have hst := (u_facts hfc hkC (u_lays hts hin hq) hi).1
  have hcf : m.cls = cf := by
    obtain ⟨_, _, c', _, _, _, -, -, hf', -, -, -, hown2, -⟩ := Cond.laysFinal_spec hlay
    have e1 : c' = cf := by have := hi.symm.trans hf'; simp at this; exact this.1.symm
    rw [hdecl] at hown2
    rw [← e1]; exact Option.some.inj (hown.symm.trans hown2)
  have h6 := u_fits hfc hkC hkind (Or.inr hlay) hi hdt hn hfit
  refine W.putFinK hx hb hown (hts _ hw) hi hst hcf hin2 (by rw [q2]; exact h6) q1 q3 (by rw [hsl]; exact k2_hasslot (q4 q hq)) rfl rfl hd fun H' e1 e2 e3 => ?_
  rw [hsl] at e1 ⊢
  exact kk H' ⟨_, e1, q2, q3, t_set q4 (hap t r hc) hq v⟩ e2 e3
theorem kx_s_gI (G : kx_G p e R s m args meth c s0 D cA cc own nL h0) {q c9 : Nat} (hf9 : kx_fd own i t q 0 c9 r) (hd : decode cc pc = .ok (.getfield i, 3)) (hk : kx_Sn p l e R s m args below meth c s0 D cA nL ι0 h0 rr hf (pc + 3) k) : kx_Sn p l e R s m args below meth c s0 D cA nL ι0 h0 rr hf pc (kx_gI t q k) := by
  intro lv st h hF
  unfold kx_gI at hF
  split at hF
  · rename_i x r9
    obtain ⟨t9, o9⟩ := x
    cases hq9 : Nat.beq t9 t with
    | false => rw [hq9] at hF; cases hF
    | true =>
      have e9 : t9 = t := Nat.eq_of_beq_eq_true hq9
      subst e9
      rw [hq9] at hF
      cases o9 with
      | none => cases hF
      | some a =>
        intro ι H locs cells slots ls hP hA hl hs hv hS hC hU hI hE
        have ha : hp_T h a = some t9 := kx_okh hs a rfl
        have hok : kx_ok h (kx_i 0) := by
          trivial
        exact kx_wget G hf9 hd hP ha (hk _ _ _ hF ι H locs cells slots ls hP hA hl (kx_ok2 trivial (kx_okt hs)) hv hS hC hU hI hE)
  · cases hF
theorem kx_s_gL (G : kx_G p e R s m args meth c s0 D cA cc own nL h0) {q c9 : Nat} (hf9 : kx_fd own i t q 1 c9 r) (hd : decode cc pc = .ok (.getfield i, 3)) (hk : kx_Sn p l e R s m args below meth c s0 D cA nL ι0 h0 rr hf (pc + 3) k) : kx_Sn p l e R s m args below meth c s0 D cA nL ι0 h0 rr hf pc (kx_gL t q k) := by
  intro lv st h hF
  unfold kx_gL at hF
  split at hF
  · rename_i x r9
    obtain ⟨t9, o9⟩ := x
    cases hq9 : Nat.beq t9 t with
    | false => rw [hq9] at hF; cases hF
    | true =>
      have e9 : t9 = t := Nat.eq_of_beq_eq_true hq9
      subst e9
      rw [hq9] at hF
      cases o9 with
      | none => cases hF
      | some a =>
        intro ι H locs cells slots ls hP hA hl hs hv hS hC hU hI hE
        have ha : hp_T h a = some t9 := kx_okh hs a rfl
        have hok : kx_ok h (kx_i 0) := by
          trivial
        exact kx_wget G hf9 hd hP ha (hk _ _ _ hF ι H locs cells slots ls hP hA hl (kx_ok2 trivial (kx_okt hs)) hv hS hC hU hI hE)
  · cases hF
theorem kx_s_gR (G : kx_G p e R s m args meth c s0 D cA cc own nL h0) {q c9 : Nat} (hf9 : kx_fd own i t q 2 c9 r) (hd : decode cc pc = .ok (.getfield i, 3)) (hk : kx_Sn p l e R s m args below meth c s0 D cA nL ι0 h0 rr hf (pc + 3) k) : kx_Sn p l e R s m args below meth c s0 D cA nL ι0 h0 rr hf pc (kx_gR t q c9 k) := by
  intro lv st h hF
  unfold kx_gR at hF
  split at hF
  · rename_i x r9
    obtain ⟨t9, o9⟩ := x
    cases hq9 : Nat.beq t9 t with
    | false => rw [hq9] at hF; cases hF
    | true =>
      have e9 : t9 = t := Nat.eq_of_beq_eq_true hq9
      subst e9
      rw [hq9] at hF
      cases o9 with
      | none => cases hF
      | some a =>
        intro ι H locs cells slots ls hP hA hl hs hv hS hC hU hI hE
        have ha : hp_T h a = some t9 := kx_okh hs a rfl
        have hok : kx_ok h (kx_r c9 (hp_R h a q)) := by
          intro b hb; have z := hP.2.2.1 a t9 q b ha hf9.2.2.1 (by rw [hf9.2.2.2.2.2]) hb; rw [hf9.2.2.2.2.2] at z; exact z
        exact kx_wget G hf9 hd hP ha (hk _ _ _ hF ι H locs cells slots ls hP hA hl (kx_ok2 hok (kx_okt hs)) hv hS hC hU hI hE)
  · cases hF
theorem kx_s_gB (G : kx_G p e R s m args meth c s0 D cA cc own nL h0) {q c9 : Nat} (hf9 : kx_fd own i t q 3 c9 r) (hd : decode cc pc = .ok (.getfield i, 3)) (hk : kx_Sn p l e R s m args below meth c s0 D cA nL ι0 h0 rr hf (pc + 3) k) : kx_Sn p l e R s m args below meth c s0 D cA nL ι0 h0 rr hf pc (kx_gB t q k) := by
  intro lv st h hF
  unfold kx_gB at hF
  split at hF
  · rename_i x r9
    obtain ⟨t9, o9⟩ := x
    cases hq9 : Nat.beq t9 t with
    | false => rw [hq9] at hF; cases hF
    | true =>
      have e9 : t9 = t := Nat.eq_of_beq_eq_true hq9
      subst e9
      rw [hq9] at hF
      cases o9 with
      | none => cases hF
      | some a =>
        intro ι H locs cells slots ls hP hA hl hs hv hS hC hU hI hE
        have ha : hp_T h a = some t9 := kx_okh hs a rfl
        have hok : kx_ok h (kx_i 0) := by
          trivial
        exact kx_wget G hf9 hd hP ha (hk _ _ _ hF ι H locs cells slots ls hP hA hl (kx_ok2 trivial (kx_okt hs)) hv hS hC hU hI hE)
  · cases hF
theorem kx_s_pI (G : kx_G p e R s m args meth c s0 D cA cc own nL h0) {q c9 : Nat} (hf9 : kx_fd own i t q 0 c9 r) (hfin : (r.2.1 q).2.2.2 = false) (hdt : parseFieldDescriptor (r.2.1 q).2.2.1 = some .int) (hd : decode cc pc = .ok (.putfield i, 3)) (hk : kx_Sn p l e R s m args below meth c s0 D cA nL ι0 h0 rr hf (pc + 3) k) : kx_Sn p l e R s m args below meth c s0 D cA nL ι0 h0 rr hf pc (kx_pI t q k) := by
  intro lv st h hF
  unfold kx_pI at hF
  split at hF
  · rename_i v x r9
    obtain ⟨t9, o9⟩ := x
    cases hq9 : Nat.beq t9 t with
    | false => rw [hq9] at hF; cases hF
    | true =>
      have e9 : t9 = t := Nat.eq_of_beq_eq_true hq9
      subst e9
      rw [hq9] at hF
      cases o9 with
      | none => cases hF
      | some a =>
        intro ι H locs cells slots ls hP hA hl hs hv hS hC hU hI hE
        have ha : hp_T h a = some t9 := kx_okh (kx_okt hs) a rfl
        refine kx_wput (v := Value.int v) G hf9 hfin hdt rfl rfl hd hP ha fun H' e1 e2 e3 => ?_
        refine hk _ _ _ hF ι H' _ cells slots ls (kx_P_set hP ha hf9.2.2.1 hf9.1 (e1.to (fun j _ => ?_)) e3 rfl rfl rfl (fun b hb kd j => ?_) ?_ (fun b t' j z hb hlt hkd hz => hP.2.2.1 b t' j z hb hlt hkd hz) (fun b t' j z hb hlt hkd hz => hP.2.2.2 b t' j z hb hlt hkd hz)) hA hl (kx_okt (kx_okt hs)) hv (hS.put e2 e3 (hA a t9 ha (by have := hf9.2.2.1; omega))) hC hU hI hE
        · rw [kx_updV, kx_v0]
          by_cases hj : j = q
          · subst hj
            rw [if_pos rfl, if_pos ⟨by rw [hf9.2.2.2.2.2], rfl, rfl⟩]
          · rw [if_neg hj, if_neg (fun z => hj z.2.2)]
        · rw [kx_v0, if_neg (fun z => hb z.2.1)]
        · intro b hb; funext j; show (if b = a ∧ j = q then v else hp_I h b j) = _; rw [if_neg (fun z => hb z.1)]
  · cases hF
theorem kx_s_pIF (G : kx_G p e R s m args meth c s0 D cA cc own nL h0) {q c9 : Nat} (hf9 : kx_fd own i t q 0 c9 r) (hfin : (r.2.1 q).2.2.2 = true) (hin2 : meth.name = "<init>") (hdecl : (r.2.1 q).1 = own) (hdt : parseFieldDescriptor (r.2.1 q).2.2.1 = some .int) (hd : decode cc pc = .ok (.putfield i, 3)) (hk : kx_Sn p l e R s m args below meth c s0 D cA nL ι0 h0 rr hf (pc + 3) k) : kx_Sn p l e R s m args below meth c s0 D cA nL ι0 h0 rr hf pc (kx_pI t q k) := by
  intro lv st h hF
  unfold kx_pI at hF
  split at hF
  · rename_i v x r9
    obtain ⟨t9, o9⟩ := x
    cases hq9 : Nat.beq t9 t with
    | false => rw [hq9] at hF; cases hF
    | true =>
      have e9 : t9 = t := Nat.eq_of_beq_eq_true hq9
      subst e9
      rw [hq9] at hF
      cases o9 with
      | none => cases hF
      | some a =>
        intro ι H locs cells slots ls hP hA hl hs hv hS hC hU hI hE
        have ha : hp_T h a = some t9 := kx_okh (kx_okt hs) a rfl
        refine kx_wputF (v := Value.int v) G hf9 hfin hin2 hdecl hdt rfl rfl hd hP ha fun H' e1 e2 e3 => ?_
        refine hk _ _ _ hF ι H' _ cells slots ls (kx_P_set hP ha hf9.2.2.1 hf9.1 (e1.to (fun j _ => ?_)) e3 rfl rfl rfl (fun b hb kd j => ?_) ?_ (fun b t' j z hb hlt hkd hz => hP.2.2.1 b t' j z hb hlt hkd hz) (fun b t' j z hb hlt hkd hz => hP.2.2.2 b t' j z hb hlt hkd hz)) hA hl (kx_okt (kx_okt hs)) hv (hS.put e2 e3 (hA a t9 ha (by have := hf9.2.2.1; omega))) hC hU hI hE
        · rw [kx_updV, kx_v0]
          by_cases hj : j = q
          · subst hj
            rw [if_pos rfl, if_pos ⟨by rw [hf9.2.2.2.2.2], rfl, rfl⟩]
          · rw [if_neg hj, if_neg (fun z => hj z.2.2)]
        · rw [kx_v0, if_neg (fun z => hb z.2.1)]
        · intro b hb; funext j; show (if b = a ∧ j = q then v else hp_I h b j) = _; rw [if_neg (fun z => hb z.1)]
  · cases hF
theorem kx_s_pL (G : kx_G p e R s m args meth c s0 D cA cc own nL h0) {q c9 : Nat} (hf9 : kx_fd own i t q 1 c9 r) (hfin : (r.2.1 q).2.2.2 = false) (hdt : parseFieldDescriptor (r.2.1 q).2.2.1 = some .long) (hd : decode cc pc = .ok (.putfield i, 3)) (hk : kx_Sn p l e R s m args below meth c s0 D cA nL ι0 h0 rr hf (pc + 3) k) : kx_Sn p l e R s m args below meth c s0 D cA nL ι0 h0 rr hf pc (kx_pL t q k) := by
  intro lv st h hF
  unfold kx_pL at hF
  split at hF
  · rename_i v x r9
    obtain ⟨t9, o9⟩ := x
    cases hq9 : Nat.beq t9 t with
    | false => rw [hq9] at hF; cases hF
    | true =>
      have e9 : t9 = t := Nat.eq_of_beq_eq_true hq9
      subst e9
      rw [hq9] at hF
      cases o9 with
      | none => cases hF
      | some a =>
        intro ι H locs cells slots ls hP hA hl hs hv hS hC hU hI hE
        have ha : hp_T h a = some t9 := kx_okh (kx_okt hs) a rfl
        refine kx_wput (v := Value.long v) G hf9 hfin hdt rfl rfl hd hP ha fun H' e1 e2 e3 => ?_
        refine hk _ _ _ hF ι H' _ cells slots ls (kx_P_set hP ha hf9.2.2.1 hf9.1 (e1.to (fun j _ => ?_)) e3 rfl rfl rfl (fun b hb kd j => ?_) ?_ (fun b t' j z hb hlt hkd hz => hP.2.2.1 b t' j z hb hlt hkd hz) (fun b t' j z hb hlt hkd hz => hP.2.2.2 b t' j z hb hlt hkd hz)) hA hl (kx_okt (kx_okt hs)) hv (hS.put e2 e3 (hA a t9 ha (by have := hf9.2.2.1; omega))) hC hU hI hE
        · rw [kx_updV, kx_v1]
          by_cases hj : j = q
          · subst hj
            rw [if_pos rfl, if_pos ⟨by rw [hf9.2.2.2.2.2], rfl, rfl⟩]
          · rw [if_neg hj, if_neg (fun z => hj z.2.2)]
        · rw [kx_v1, if_neg (fun z => hb z.2.1)]
        · intro b hb; rfl
  · cases hF
theorem kx_s_pLF (G : kx_G p e R s m args meth c s0 D cA cc own nL h0) {q c9 : Nat} (hf9 : kx_fd own i t q 1 c9 r) (hfin : (r.2.1 q).2.2.2 = true) (hin2 : meth.name = "<init>") (hdecl : (r.2.1 q).1 = own) (hdt : parseFieldDescriptor (r.2.1 q).2.2.1 = some .long) (hd : decode cc pc = .ok (.putfield i, 3)) (hk : kx_Sn p l e R s m args below meth c s0 D cA nL ι0 h0 rr hf (pc + 3) k) : kx_Sn p l e R s m args below meth c s0 D cA nL ι0 h0 rr hf pc (kx_pL t q k) := by
  intro lv st h hF
  unfold kx_pL at hF
  split at hF
  · rename_i v x r9
    obtain ⟨t9, o9⟩ := x
    cases hq9 : Nat.beq t9 t with
    | false => rw [hq9] at hF; cases hF
    | true =>
      have e9 : t9 = t := Nat.eq_of_beq_eq_true hq9
      subst e9
      rw [hq9] at hF
      cases o9 with
      | none => cases hF
      | some a =>
        intro ι H locs cells slots ls hP hA hl hs hv hS hC hU hI hE
        have ha : hp_T h a = some t9 := kx_okh (kx_okt hs) a rfl
        refine kx_wputF (v := Value.long v) G hf9 hfin hin2 hdecl hdt rfl rfl hd hP ha fun H' e1 e2 e3 => ?_
        refine hk _ _ _ hF ι H' _ cells slots ls (kx_P_set hP ha hf9.2.2.1 hf9.1 (e1.to (fun j _ => ?_)) e3 rfl rfl rfl (fun b hb kd j => ?_) ?_ (fun b t' j z hb hlt hkd hz => hP.2.2.1 b t' j z hb hlt hkd hz) (fun b t' j z hb hlt hkd hz => hP.2.2.2 b t' j z hb hlt hkd hz)) hA hl (kx_okt (kx_okt hs)) hv (hS.put e2 e3 (hA a t9 ha (by have := hf9.2.2.1; omega))) hC hU hI hE
        · rw [kx_updV, kx_v1]
          by_cases hj : j = q
          · subst hj
            rw [if_pos rfl, if_pos ⟨by rw [hf9.2.2.2.2.2], rfl, rfl⟩]
          · rw [if_neg hj, if_neg (fun z => hj z.2.2)]
        · rw [kx_v1, if_neg (fun z => hb z.2.1)]
        · intro b hb; rfl
  · cases hF
theorem kx_s_pR (G : kx_G p e R s m args meth c s0 D cA cc own nL h0) {q c9 : Nat} (hf9 : kx_fd own i t q 2 c9 r) (hfin : (r.2.1 q).2.2.2 = false) {ty : FieldType} (hdt : parseFieldDescriptor (r.2.1 q).2.2.1 = some ty) (hrf : ty.isReference = true) (hd : decode cc pc = .ok (.putfield i, 3)) (hk : kx_Sn p l e R s m args below meth c s0 D cA nL ι0 h0 rr hf (pc + 3) k) : kx_Sn p l e R s m args below meth c s0 D cA nL ι0 h0 rr hf pc (kx_pR t q c9 k) := by
  intro lv st h hF
  unfold kx_pR at hF
  split at hF
  · rename_i v x r9
    obtain ⟨t9, o9⟩ := x
    obtain ⟨t8, v⟩ := v
    cases hq9 : Nat.beq t9 t with
    | false => rw [hq9] at hF; cases hF
    | true =>
     cases hq8 : Nat.beq t8 c9 with
     | false => rw [hq9, hq8] at hF; cases hF
     | true =>
      have e8 : t8 = c9 := Nat.eq_of_beq_eq_true hq8
      subst e8
      have e9 : t9 = t := Nat.eq_of_beq_eq_true hq9
      subst e9
      rw [hq9, hq8] at hF
      cases o9 with
      | none => cases hF
      | some a =>
        intro ι H locs cells slots ls hP hA hl hs hv hS hC hU hI hE
        have ha : hp_T h a = some t9 := kx_okh (kx_okt hs) a rfl
        refine kx_wput (v := va_rf (v.map ι)) G hf9 hfin hdt (kx_nrf hrf _) (kx_frf hrf _) hd hP ha fun H' e1 e2 e3 => ?_
        refine hk _ _ _ hF ι H' _ cells slots ls (kx_P_set hP ha hf9.2.2.1 hf9.1 (e1.to (fun j _ => ?_)) e3 rfl rfl rfl (fun b hb kd j => ?_) ?_ (fun b t' j z hb hlt hkd hz => by
            by_cases e5 : b = a ∧ j = q
            · obtain ⟨rfl, rfl⟩ := e5
              have e6 : t' = t9 := Option.some.inj (hb.symm.trans ha)
              subst e6
              have hz2 : v = some z := by simpa [hp_R, hp_sR] using hz
              rw [hf9.2.2.2.2.2]
              exact kx_okh hs z hz2
            · have hz2 : hp_R h b j = some z := by simpa [hp_R, hp_sR, e5] using hz
              exact hP.2.2.1 b t' j z hb hlt hkd hz2) (fun b t' j z hb hlt hkd hz => by
            by_cases e5 : b = a ∧ j = q
            · obtain ⟨rfl, rfl⟩ := e5
              have e6 : t' = t9 := Option.some.inj (hb.symm.trans ha)
              have := hf9.2.2.1
              omega
            · have hz2 : hp_R h b j = some z := by simpa [hp_R, hp_sR, e5] using hz
              exact hP.2.2.2 b t' j z hb hlt hkd hz2)) hA hl (kx_okt (kx_okt hs)) hv (hS.put e2 e3 (hA a t9 ha (by have := hf9.2.2.1; omega))) hC hU hI hE
        · rw [kx_updV, kx_v2]
          by_cases hj : j = q
          · subst hj
            rw [if_pos rfl, if_pos ⟨by rw [hf9.2.2.2.2.2], rfl, rfl⟩]
          · rw [if_neg hj, if_neg (fun z => hj z.2.2)]
        · rw [kx_v2, if_neg (fun z => hb z.2.1)]
        · intro b hb; rfl
  · cases hF
theorem kx_s_pRF (G : kx_G p e R s m args meth c s0 D cA cc own nL h0) {q c9 : Nat} (hf9 : kx_fd own i t q 2 c9 r) (hfin : (r.2.1 q).2.2.2 = true) (hin2 : meth.name = "<init>") (hdecl : (r.2.1 q).1 = own) {ty : FieldType} (hdt : parseFieldDescriptor (r.2.1 q).2.2.1 = some ty) (hrf : ty.isReference = true) (hd : decode cc pc = .ok (.putfield i, 3)) (hk : kx_Sn p l e R s m args below meth c s0 D cA nL ι0 h0 rr hf (pc + 3) k) : kx_Sn p l e R s m args below meth c s0 D cA nL ι0 h0 rr hf pc (kx_pR t q c9 k) := by
  intro lv st h hF
  unfold kx_pR at hF
  split at hF
  · rename_i v x r9
    obtain ⟨t9, o9⟩ := x
    obtain ⟨t8, v⟩ := v
    cases hq9 : Nat.beq t9 t with
    | false => rw [hq9] at hF; cases hF
    | true =>
     cases hq8 : Nat.beq t8 c9 with
     | false => rw [hq9, hq8] at hF; cases hF
     | true =>
      have e8 : t8 = c9 := Nat.eq_of_beq_eq_true hq8
      subst e8
      have e9 : t9 = t := Nat.eq_of_beq_eq_true hq9
      subst e9
      rw [hq9, hq8] at hF
      cases o9 with
      | none => cases hF
      | some a =>
        intro ι H locs cells slots ls hP hA hl hs hv hS hC hU hI hE
        have ha : hp_T h a = some t9 := kx_okh (kx_okt hs) a rfl
        refine kx_wputF (v := va_rf (v.map ι)) G hf9 hfin hin2 hdecl hdt (kx_nrf hrf _) (kx_frf hrf _) hd hP ha fun H' e1 e2 e3 => ?_
        refine hk _ _ _ hF ι H' _ cells slots ls (kx_P_set hP ha hf9.2.2.1 hf9.1 (e1.to (fun j _ => ?_)) e3 rfl rfl rfl (fun b hb kd j => ?_) ?_ (fun b t' j z hb hlt hkd hz => by
            by_cases e5 : b = a ∧ j = q
            · obtain ⟨rfl, rfl⟩ := e5
              have e6 : t' = t9 := Option.some.inj (hb.symm.trans ha)
              subst e6
              have hz2 : v = some z := by simpa [hp_R, hp_sR] using hz
              rw [hf9.2.2.2.2.2]
              exact kx_okh hs z hz2
            · have hz2 : hp_R h b j = some z := by simpa [hp_R, hp_sR, e5] using hz
              exact hP.2.2.1 b t' j z hb hlt hkd hz2) (fun b t' j z hb hlt hkd hz => by
            by_cases e5 : b = a ∧ j = q
            · obtain ⟨rfl, rfl⟩ := e5
              have e6 : t' = t9 := Option.some.inj (hb.symm.trans ha)
              have := hf9.2.2.1
              omega
            · have hz2 : hp_R h b j = some z := by simpa [hp_R, hp_sR, e5] using hz
              exact hP.2.2.2 b t' j z hb hlt hkd hz2)) hA hl (kx_okt (kx_okt hs)) hv (hS.put e2 e3 (hA a t9 ha (by have := hf9.2.2.1; omega))) hC hU hI hE
        · rw [kx_updV, kx_v2]
          by_cases hj : j = q
          · subst hj
            rw [if_pos rfl, if_pos ⟨by rw [hf9.2.2.2.2.2], rfl, rfl⟩]
          · rw [if_neg hj, if_neg (fun z => hj z.2.2)]
        · rw [kx_v2, if_neg (fun z => hb z.2.1)]
        · intro b hb; rfl
  · cases hF
theorem kx_s_pB0 (G : kx_G p e R s m args meth c s0 D cA cc own nL h0) {q c9 : Nat} (hf9 : kx_fd own i t q 3 c9 r) (hfin : (r.2.1 q).2.2.2 = false) (hdt : parseFieldDescriptor (r.2.1 q).2.2.1 = some .boolean) (hd : decode cc pc = .ok (.putfield i, 3)) (hk : kx_Sn p l e R s m args below meth c s0 D cA nL ι0 h0 rr hf (pc + 3) k) {lv : kx_L} {r9 : List kx_V} {h : kx_H} {a : Nat} {b9 : Bool} (hF : k lv r9 (hp_sB h a q b9) = some (rr, hf)) : kx_Sm p l e R s m args below meth c s0 D cA nL ι0 h0 rr hf pc lv (kx_i (kx_b b9) :: kx_r t (some a) :: r9) h := by
  intro ι H locs cells slots ls hP hA hl hs hv hS hC hU hI hE
  have ha : hp_T h a = some t := kx_okh (kx_okt hs) a rfl
  refine kx_wput (v := .int (kx_b b9)) G hf9 hfin hdt (by cases b9 <;> decide) (by cases b9 <;> decide) hd hP ha fun H' e1 e2 e3 => ?_
  refine hk _ _ _ hF ι H' _ cells slots ls (kx_P_set hP ha hf9.2.2.1 hf9.1 (e1.to (fun j _ => ?_)) e3 rfl rfl rfl (fun b hb kd j => ?_) (fun b hb => rfl) (fun b t' j z hb hlt hkd hz => hP.2.2.1 b t' j z hb hlt hkd hz) (fun b t' j z hb hlt hkd hz => hP.2.2.2 b t' j z hb hlt hkd hz)) hA hl (kx_okt (kx_okt hs)) hv (hS.put e2 e3 (hA a t ha (by have := hf9.2.2.1; omega))) hC hU hI hE
  · rw [kx_updV, kx_v3]
    by_cases hj : j = q
    · subst hj
      rw [if_pos rfl, if_pos ⟨by rw [hf9.2.2.2.2.2]; exact (by decide : 2 < 3), rfl, rfl⟩]
    · rw [if_neg hj, if_neg (fun z => hj z.2.2)]
  · rw [kx_v3, if_neg (fun z => hb z.2.1)]
theorem kx_s_pB (G : kx_G p e R s m args meth c s0 D cA cc own nL h0) {q c9 : Nat} (hf9 : kx_fd own i t q 3 c9 r) (hfin : (r.2.1 q).2.2.2 = false) (hdt : parseFieldDescriptor (r.2.1 q).2.2.1 = some .boolean) (hd : decode cc pc = .ok (.putfield i, 3)) (hk : kx_Sn p l e R s m args below meth c s0 D cA nL ι0 h0 rr hf (pc + 3) k) : kx_Sn p l e R s m args below meth c s0 D cA nL ι0 h0 rr hf pc (kx_pB t q k) := by
  intro lv st h hF
  unfold kx_pB at hF
  split at hF
  · rename_i v x r9
    obtain ⟨t9, o9⟩ := x
    cases hq9 : Nat.beq t9 t with
    | false => rw [hq9] at hF; cases hF
    | true =>
      have e9 : t9 = t := Nat.eq_of_beq_eq_true hq9
      subst e9
      rw [hq9] at hF
      cases o9 with
      | none => cases hF
      | some a =>
        by_cases hv0 : v = 0
        · subst hv0
          exact kx_s_pB0 (b9 := false) G hf9 hfin hdt hd hk hF
        · by_cases hv1 : v = 1
          · subst hv1
            exact kx_s_pB0 (b9 := true) G hf9 hfin hdt hd hk hF
          · simp [hv0, hv1] at hF
  · cases hF
end KT
end
section
section KA
variable {p : Program} {l : Launch} {e : Env} {R : Room} {s : State} {m : MethodId} {args : Array Value} {below : List Frame} {meth : Method} {c : Code} {H : Heap} {locs : List Loc} {cells slots : Nat} {Q : State → Prop}
variable {s0 : State} {D : va_G} {cA : Nat → ClassId} {cc : ByteArray} {own : String} {nL : Nat} {ι ι0 : Nat → Nat} {h h0 hf : kx_H} {rr : kx_R} {pc : Nat} {k : kx_F} {ls : Array Slot} {rest : List Value} {a t i : Nat} {r : vw_C}
/-- an array's tag, its component's type -/
def kx_ar (t kd c9 : Nat) (ty : FieldType) : Prop := (∀ cA : Nat → ClassId, (kx_tys cA)[t - 99]? = some (cA t, ty)) ∧ 98 < t ∧ kx_ak t = (kd, c9)
theorem kx_P_a (hP : kx_P s0 D cA ι h H) (ha : hp_T h a = some t) (ht : 98 < t) : H[ι a]? = some (arrV (cA t) (hp_N h a) (fun i => kx_val ι h a (kx_ak t).1 i)) := ((hP.1 a t ha).2.2.2 ht).2
theorem kx_s_aI (G : kx_G p e R s m args meth c s0 D cA cc own nL h0) {c9 : Nat} (har : kx_ar t 0 c9 .int) (hd : decode cc pc = .ok (.iaload, 1)) (hk : kx_Sn p l e R s m args below meth c s0 D cA nL ι0 h0 rr hf (pc + 1) k) : kx_Sn p l e R s m args below meth c s0 D cA nL ι0 h0 rr hf pc (kx_aI t k) := by
  intro lv st h hF
  unfold kx_aI at hF
  split at hF
  · rename_i i9 x r9
    obtain ⟨t9, o9⟩ := x
    cases hq9 : Nat.beq t9 t with
    | false => rw [hq9] at hF; cases hF
    | true =>
      have e9 : t9 = t := Nat.eq_of_beq_eq_true hq9
      subst e9
      rw [hq9] at hF
      cases o9 with
      | none => cases hF
      | some a =>
        simp only [cond_true, Option.bind_some] at hF
        split at hF
        · cases hF
        · rename_i hin
          intro ι H locs cells slots ls hP hA hl hs hv hS hC hU hI hE
          have ha : hp_T h a = some t9 := kx_okh (kx_okt hs) a rfl
          have hlt : i9.toNatClampNeg < hp_N h a := Nat.not_le.mp fun q => hin (Or.inr q)
          have hcell := kx_P_a hP ha har.2.1
          rw [har.2.2] at hcell
          have hAr := (G.2.2.2.2.2.2.1.2.1.2 _ _ (har.1 cA)).1
          have hok : True := trivial
          exact W.iald (v := kx_val ι h a 0 i9.toNatClampNeg) G.1 G.2.1 hcell (hAr _ _) (fun q => by cases q) (by rw [arrV_size]; exact hin) (by rw [arrV_read _ _ hlt]) rfl rfl hd (hk _ _ _ hF ι H locs cells slots ls hP hA hl (kx_ok2 hok (kx_okt (kx_okt hs))) hv hS hC hU hI hE)
  · cases hF
theorem kx_s_aL (G : kx_G p e R s m args meth c s0 D cA cc own nL h0) {c9 : Nat} (har : kx_ar t 1 c9 .long) (hd : decode cc pc = .ok (.laload, 1)) (hk : kx_Sn p l e R s m args below meth c s0 D cA nL ι0 h0 rr hf (pc + 1) k) : kx_Sn p l e R s m args below meth c s0 D cA nL ι0 h0 rr hf pc (kx_aL t k) := by
  intro lv st h hF
  unfold kx_aL at hF
  split at hF
  · rename_i i9 x r9
    obtain ⟨t9, o9⟩ := x
    cases hq9 : Nat.beq t9 t with
    | false => rw [hq9] at hF; cases hF
    | true =>
      have e9 : t9 = t := Nat.eq_of_beq_eq_true hq9
      subst e9
      rw [hq9] at hF
      cases o9 with
      | none => cases hF
      | some a =>
        simp only [cond_true, Option.bind_some] at hF
        split at hF
        · cases hF
        · rename_i hin
          intro ι H locs cells slots ls hP hA hl hs hv hS hC hU hI hE
          have ha : hp_T h a = some t9 := kx_okh (kx_okt hs) a rfl
          have hlt : i9.toNatClampNeg < hp_N h a := Nat.not_le.mp fun q => hin (Or.inr q)
          have hcell := kx_P_a hP ha har.2.1
          rw [har.2.2] at hcell
          have hAr := (G.2.2.2.2.2.2.1.2.1.2 _ _ (har.1 cA)).1
          have hok : True := trivial
          exact W.lald (v := kx_val ι h a 1 i9.toNatClampNeg) G.1 G.2.1 hcell (hAr _ _) (fun q => by cases q) (by rw [arrV_size]; exact hin) (by rw [arrV_read _ _ hlt]) rfl rfl hd (hk _ _ _ hF ι H locs cells slots ls hP hA hl (kx_ok2 hok (kx_okt (kx_okt hs))) hv hS hC hU hI hE)
  · cases hF
theorem kx_s_aR (G : kx_G p e R s m args meth c s0 D cA cc own nL h0) {c9 : Nat} {ty : FieldType} (hrf : ty.isReference = true) (har : kx_ar t 2 c9 ty) (hd : decode cc pc = .ok (.aaload, 1)) (hk : kx_Sn p l e R s m args below meth c s0 D cA nL ι0 h0 rr hf (pc + 1) k) : kx_Sn p l e R s m args below meth c s0 D cA nL ι0 h0 rr hf pc (kx_aR t c9 k) := by
  intro lv st h hF
  unfold kx_aR at hF
  split at hF
  · rename_i i9 x r9
    obtain ⟨t9, o9⟩ := x
    cases hq9 : Nat.beq t9 t with
    | false => rw [hq9] at hF; cases hF
    | true =>
      have e9 : t9 = t := Nat.eq_of_beq_eq_true hq9
      subst e9
      rw [hq9] at hF
      cases o9 with
      | none => cases hF
      | some a =>
        simp only [cond_true, Option.bind_some] at hF
        split at hF
        · cases hF
        · rename_i hin
          intro ι H locs cells slots ls hP hA hl hs hv hS hC hU hI hE
          have ha : hp_T h a = some t9 := kx_okh (kx_okt hs) a rfl
          have hlt : i9.toNatClampNeg < hp_N h a := Nat.not_le.mp fun q => hin (Or.inr q)
          have hcell := kx_P_a hP ha har.2.1
          rw [har.2.2] at hcell
          have hAr := (G.2.2.2.2.2.2.1.2.1.2 _ _ (har.1 cA)).1
          have hok : kx_ok h (kx_r c9 (hp_R h a i9.toNatClampNeg)) := by intro b hb; have z := hP.2.2.2 a t9 _ b ha har.2.1 (by rw [har.2.2]) hb; rw [har.2.2] at z; exact z
          exact W.aald (v := kx_val ι h a 2 i9.toNatClampNeg) (ty := ty) G.1 G.2.1 hcell (hAr _ _) hrf (fun q => by cases q) (by rw [arrV_size]; exact hin) (by rw [arrV_read _ _ hlt]) rfl rfl hd (hk _ _ _ hF ι H locs cells slots ls hP hA hl (kx_ok2 hok (kx_okt (kx_okt hs))) hv hS hC hU hI hE)
  · cases hF
theorem kx_s_aB (G : kx_G p e R s m args meth c s0 D cA cc own nL h0) {c9 : Nat} (har : kx_ar t 3 c9 .boolean) (hd : decode cc pc = .ok (.baload, 1)) (hk : kx_Sn p l e R s m args below meth c s0 D cA nL ι0 h0 rr hf (pc + 1) k) : kx_Sn p l e R s m args below meth c s0 D cA nL ι0 h0 rr hf pc (kx_aB t k) := by
  intro lv st h hF
  unfold kx_aB at hF
  split at hF
  · rename_i i9 x r9
    obtain ⟨t9, o9⟩ := x
    cases hq9 : Nat.beq t9 t with
    | false => rw [hq9] at hF; cases hF
    | true =>
      have e9 : t9 = t := Nat.eq_of_beq_eq_true hq9
      subst e9
      rw [hq9] at hF
      cases o9 with
      | none => cases hF
      | some a =>
        simp only [cond_true, Option.bind_some] at hF
        split at hF
        · cases hF
        · rename_i hin
          intro ι H locs cells slots ls hP hA hl hs hv hS hC hU hI hE
          have ha : hp_T h a = some t9 := kx_okh (kx_okt hs) a rfl
          have hlt : i9.toNatClampNeg < hp_N h a := Nat.not_le.mp fun q => hin (Or.inr q)
          have hcell := kx_P_a hP ha har.2.1
          rw [har.2.2] at hcell
          have hAr := (G.2.2.2.2.2.2.1.2.1.2 _ _ (har.1 cA)).1
          have hok : True := trivial
          exact W.zald (v := kx_val ι h a 3 i9.toNatClampNeg) G.1 G.2.1 hcell (hAr _ _) (fun q => by cases q) (by rw [arrV_size]; exact hin) (by rw [arrV_read _ _ hlt]) rfl rfl hd (hk _ _ _ hF ι H locs cells slots ls hP hA hl (kx_ok2 hok (kx_okt (kx_okt hs))) hv hS hC hU hI hE)
  · cases hF
theorem kx_s_len (G : kx_G p e R s m args meth c s0 D cA cc own nL h0) {kd c9 : Nat} {ty : FieldType} (har : kx_ar t kd c9 ty) (hd : decode cc pc = .ok (.arraylength, 1)) (hk : kx_Sn p l e R s m args below meth c s0 D cA nL ι0 h0 rr hf (pc + 1) k) : kx_Sn p l e R s m args below meth c s0 D cA nL ι0 h0 rr hf pc (kx_len t k) := by
  intro lv st h hF
  unfold kx_len at hF
  split at hF
  · rename_i x r9
    obtain ⟨t9, o9⟩ := x
    cases hq9 : Nat.beq t9 t with
    | false => rw [hq9] at hF; cases hF
    | true =>
      have e9 : t9 = t := Nat.eq_of_beq_eq_true hq9
      subst e9
      rw [hq9] at hF
      cases o9 with
      | none => cases hF
      | some a =>
        intro ι H locs cells slots ls hP hA hl hs hv hS hC hU hI hE
        have ha : hp_T h a = some t9 := kx_okh hs a rfl
        exact W.alen (n := Int32.ofNat (hp_N h a)) G.1 G.2.1 (kx_P_a hP ha har.2.1) ((G.2.2.2.2.2.2.1.2.1.2 _ _ (har.1 cA)).1 _ _) (by rw [arrV_size] <;> rfl) rfl rfl hd (hk _ _ _ hF ι H locs cells slots ls hP hA hl (kx_ok2 trivial (kx_okt hs)) hv hS hC hU hI hE)
  · cases hF
theorem kx_s_lenS (G : kx_G p e R s m args meth c s0 D cA cc own nL h0) (hd : decode cc pc = .ok (.arraylength, 1)) (hk : kx_Sn p l e R s m args below meth c s0 D cA nL ι0 h0 rr hf (pc + 1) k) : kx_Sn p l e R s m args below meth c s0 D cA nL ι0 h0 rr hf pc (kx_len 98 k) := by
  intro lv st h hF
  unfold kx_len at hF
  split at hF
  · rename_i x r9
    obtain ⟨t9, o9⟩ := x
    cases hq9 : Nat.beq t9 98 with
    | false => rw [hq9] at hF; cases hF
    | true =>
      have e9 : t9 = 98 := Nat.eq_of_beq_eq_true hq9
      subst e9
      rw [hq9] at hF
      cases o9 with
      | none => cases hF
      | some a =>
        intro ι H locs cells slots ls hP hA hl hs hv hS hC hU hI hE
        have ha : hp_T h a = some 98 := kx_okh hs a rfl
        obtain ⟨⟨scr, x1, x2, x3, x4, x5⟩, -⟩ := (hP.1 a 98 ha).2.1 rfl
        exact W.alen (n := Int32.ofNat (hp_N h a)) G.1 G.2.1 x1 (State.isArrayOf_alike G.2.2.2.2.2.2.1.1.alike x2) (by rw [x4] <;> rfl) rfl rfl hd (hk _ _ _ hF ι H locs cells slots ls hP hA hl (kx_ok2 trivial (kx_okt hs)) hv hS hC hU hI hE)
  · cases hF
theorem kx_s_aS (G : kx_G p e R s m args meth c s0 D cA cc own nL h0) (hd : decode cc pc = .ok (.iaload, 1)) (hk : kx_Sn p l e R s m args below meth c s0 D cA nL ι0 h0 rr hf (pc + 1) k) : kx_Sn p l e R s m args below meth c s0 D cA nL ι0 h0 rr hf pc (kx_aI 98 k) := by
  intro lv st h hF
  unfold kx_aI at hF
  split at hF
  · rename_i i9 x r9
    obtain ⟨t9, o9⟩ := x
    cases hq9 : Nat.beq t9 98 with
    | false => rw [hq9] at hF; cases hF
    | true =>
      have e9 : t9 = 98 := Nat.eq_of_beq_eq_true hq9
      subst e9
      rw [hq9] at hF
      cases o9 with
      | none => cases hF
      | some a =>
        simp only [cond_true, Option.bind_some] at hF
        split at hF
        · cases hF
        · rename_i hin
          intro ι H locs cells slots ls hP hA hl hs hv hS hC hU hI hE
          have ha : hp_T h a = some 98 := kx_okh (kx_okt hs) a rfl
          have hlt : i9.toNatClampNeg < hp_N h a := Nat.not_le.mp fun q => hin (Or.inr q)
          obtain ⟨⟨scr, x1, x2, x3, x4, x5⟩, -⟩ := (hP.1 a 98 ha).2.1 rfl
          exact W.iald (v := .int (hp_I h a i9.toNatClampNeg)) G.1 G.2.1 x1 (State.isArrayOf_alike G.2.2.2.2.2.2.1.1.alike x2) x3 (by rw [x4]; exact hin) (x5 _ hlt) rfl rfl hd (hk _ _ _ hF ι H locs cells slots ls hP hA hl (kx_ok2 trivial (kx_okt (kx_okt hs))) hv hS hC hU hI hE)
  · cases hF
theorem kx_s_asI (G : kx_G p e R s m args meth c s0 D cA cc own nL h0) {c9 : Nat} (har : kx_ar t 0 c9 .int) (hd : decode cc pc = .ok (.iastore, 1)) (hk : kx_Sn p l e R s m args below meth c s0 D cA nL ι0 h0 rr hf (pc + 1) k) : kx_Sn p l e R s m args below meth c s0 D cA nL ι0 h0 rr hf pc (kx_asI t k) := by
  intro lv st h hF
  unfold kx_asI at hF
  split at hF
  · rename_i v i9 x r9
    obtain ⟨t9, o9⟩ := x
    cases hq9 : Nat.beq t9 t with
    | false => rw [hq9] at hF; cases hF
    | true =>
      have e9 : t9 = t := Nat.eq_of_beq_eq_true hq9
      subst e9
      rw [hq9] at hF
      cases o9 with
      | none => cases hF
      | some a =>
        simp only [cond_true, Option.bind_some] at hF
        split at hF
        · cases hF
        · rename_i hin
          intro ι H locs cells slots ls hP hA hl hs hv hS hC hU hI hE
          have ha : hp_T h a = some t9 := kx_okh (kx_okt (kx_okt hs)) a rfl
          have hcell := kx_P_a hP ha har.2.1
          have hAr := (G.2.2.2.2.2.2.1.2.1.2 _ _ (har.1 cA)).1
          refine W.iast G.1 G.2.1 hcell (hAr _ _) (fun q => by cases q) (by rw [arrV_size]; exact hin) rfl rfl hd fun H' e1 e2 e3 => ?_
          rw [arrV_store] at e1
          refine hk _ _ _ hF ι H' _ cells slots ls (kx_P_arr hP ha har.2.1 (e1.trans ?_) e3 rfl rfl rfl (fun b hb kd j => ?_) ?_ (fun b t' j z hb hlt hkd hz => hP.2.2.1 b t' j z hb hlt hkd hz) (fun b t' j z hb hlt hkd hz => hP.2.2.2 b t' j z hb hlt hkd hz)) hA hl (kx_okt (kx_okt (kx_okt hs))) hv (hS.put e2 e3 (hA a t9 ha (by have := har.2.1; omega))) hC hU hI hE
          · congr 2
            funext j
            rw [kx_updV, kx_v0]
            by_cases hj : j = i9.toNatClampNeg
            · rw [if_pos hj, if_pos ⟨by rw [har.2.2], rfl, hj⟩]
            · rw [if_neg hj, if_neg (fun z => hj z.2.2)]
          · rw [kx_v0, if_neg (fun z => hb z.2.1)]
          · intro b hb; funext j; show (if b = a ∧ j = i9.toNatClampNeg then v else hp_I h b j) = _; rw [if_neg (fun z => hb z.1)]
  · cases hF
theorem kx_s_asL (G : kx_G p e R s m args meth c s0 D cA cc own nL h0) {c9 : Nat} (har : kx_ar t 1 c9 .long) (hd : decode cc pc = .ok (.lastore, 1)) (hk : kx_Sn p l e R s m args below meth c s0 D cA nL ι0 h0 rr hf (pc + 1) k) : kx_Sn p l e R s m args below meth c s0 D cA nL ι0 h0 rr hf pc (kx_asL t k) := by
  intro lv st h hF
  unfold kx_asL at hF
  split at hF
  · rename_i v i9 x r9
    obtain ⟨t9, o9⟩ := x
    cases hq9 : Nat.beq t9 t with
    | false => rw [hq9] at hF; cases hF
    | true =>
      have e9 : t9 = t := Nat.eq_of_beq_eq_true hq9
      subst e9
      rw [hq9] at hF
      cases o9 with
      | none => cases hF
      | some a =>
        simp only [cond_true, Option.bind_some] at hF
        split at hF
        · cases hF
        · rename_i hin
          intro ι H locs cells slots ls hP hA hl hs hv hS hC hU hI hE
          have ha : hp_T h a = some t9 := kx_okh (kx_okt (kx_okt hs)) a rfl
          have hcell := kx_P_a hP ha har.2.1
          have hAr := (G.2.2.2.2.2.2.1.2.1.2 _ _ (har.1 cA)).1
          refine W.last G.1 G.2.1 hcell (hAr _ _) (fun q => by cases q) (by rw [arrV_size]; exact hin) rfl rfl hd fun H' e1 e2 e3 => ?_
          rw [arrV_store] at e1
          refine hk _ _ _ hF ι H' _ cells slots ls (kx_P_arr hP ha har.2.1 (e1.trans ?_) e3 rfl rfl rfl (fun b hb kd j => ?_) ?_ (fun b t' j z hb hlt hkd hz => hP.2.2.1 b t' j z hb hlt hkd hz) (fun b t' j z hb hlt hkd hz => hP.2.2.2 b t' j z hb hlt hkd hz)) hA hl (kx_okt (kx_okt (kx_okt hs))) hv (hS.put e2 e3 (hA a t9 ha (by have := har.2.1; omega))) hC hU hI hE
          · congr 2
            funext j
            rw [kx_updV, kx_v1]
            by_cases hj : j = i9.toNatClampNeg
            · rw [if_pos hj, if_pos ⟨by rw [har.2.2], rfl, hj⟩]
            · rw [if_neg hj, if_neg (fun z => hj z.2.2)]
          · rw [kx_v1, if_neg (fun z => hb z.2.1)]
          · intro b hb; rfl
  · cases hF
theorem kx_s_asB0 (G : kx_G p e R s m args meth c s0 D cA cc own nL h0) {c9 : Nat} (har : kx_ar t 3 c9 .boolean) (hd : decode cc pc = .ok (.bastore, 1)) (hk : kx_Sn p l e R s m args below meth c s0 D cA nL ι0 h0 rr hf (pc + 1) k) {lv : kx_L} {r9 : List kx_V} {h : kx_H} {a : Nat} {b9 : Bool} {i9 : Int32} (hin : ¬ (i9 < 0 ∨ hp_N h a ≤ i9.toNatClampNeg)) (hF : k lv r9 (hp_sB h a i9.toNatClampNeg b9) = some (rr, hf)) : kx_Sm p l e R s m args below meth c s0 D cA nL ι0 h0 rr hf pc lv (kx_i (kx_b b9) :: kx_i i9 :: kx_r t (some a) :: r9) h := by
  intro ι H locs cells slots ls hP hA hl hs hv hS hC hU hI hE
  have ha : hp_T h a = some t := kx_okh (kx_okt (kx_okt hs)) a rfl
  have hcell := kx_P_a hP ha har.2.1
  have hAr := (G.2.2.2.2.2.2.1.2.1.2 _ _ (har.1 cA)).1
  refine W.zast G.1 G.2.1 hcell (hAr _ _) (fun q => by cases q) (by rw [arrV_size]; exact hin) rfl rfl hd fun H' e1 e2 e3 => ?_
  rw [show narrow .boolean (.int (kx_b b9)) = .int (kx_b b9) from by cases b9 <;> decide, arrV_store] at e1
  refine hk _ _ _ hF ι H' _ cells slots ls (kx_P_arr hP ha har.2.1 (e1.trans ?_) e3 rfl rfl rfl (fun b hb kd j => ?_) (fun b hb => rfl) (fun b t' j z hb hlt hkd hz => hP.2.2.1 b t' j z hb hlt hkd hz) (fun b t' j z hb hlt hkd hz => hP.2.2.2 b t' j z hb hlt hkd hz)) hA hl (kx_okt (kx_okt (kx_okt hs))) hv (hS.put e2 e3 (hA a t ha (by have := har.2.1; omega))) hC hU hI hE
  · congr 2
    funext j
    rw [kx_updV, kx_v3]
    by_cases hj : j = i9.toNatClampNeg
    · rw [if_pos hj, if_pos ⟨by rw [har.2.2]; exact (by decide : 2 < 3), rfl, hj⟩]
    · rw [if_neg hj, if_neg (fun z => hj z.2.2)]
  · rw [kx_v3, if_neg (fun z => hb z.2.1)]
theorem kx_s_asB (G : kx_G p e R s m args meth c s0 D cA cc own nL h0) {c9 : Nat} (har : kx_ar t 3 c9 .boolean) (hd : decode cc pc = .ok (.bastore, 1)) (hk : kx_Sn p l e R s m args below meth c s0 D cA nL ι0 h0 rr hf (pc + 1) k) : kx_Sn p l e R s m args below meth c s0 D cA nL ι0 h0 rr hf pc (kx_asB t k) := by
  intro lv st h hF
  unfold kx_asB at hF
  split at hF
  · rename_i v i9 x r9
    obtain ⟨t9, o9⟩ := x
    cases hq9 : Nat.beq t9 t with
    | false => rw [hq9] at hF; cases hF
    | true =>
      have e9 : t9 = t := Nat.eq_of_beq_eq_true hq9
      subst e9
      rw [hq9] at hF
      cases o9 with
      | none => cases hF
      | some a =>
        simp only [cond_true, Option.bind_some] at hF
        split at hF
        · cases hF
        · rename_i hin
          by_cases hv0 : v = 0
          · subst hv0
            exact kx_s_asB0 (b9 := false) G har hd hk hin hF
          · by_cases hv1 : v = 1
            · subst hv1
              exact kx_s_asB0 (b9 := true) G har hd hk hin hF
            · simp [hv0, hv1] at hF
  · cases hF
theorem kx_s_asR (G : kx_G p e R s m args meth c s0 D cA cc own nL h0) {c9 : Nat} {r9 : vw_C} (har : kx_ar t 2 c9 (.object r9.1)) (hc9 : kx_cl[c9]? = some r9) (h98 : c9 < 98) (hd : decode cc pc = .ok (.aastore, 1)) (hk : kx_Sn p l e R s m args below meth c s0 D cA nL ι0 h0 rr hf (pc + 1) k) : kx_Sn p l e R s m args below meth c s0 D cA nL ι0 h0 rr hf pc (kx_asR t c9 k) := by
  intro lv st h hF
  unfold kx_asR at hF
  split at hF
  · rename_i v i9 x r8
    obtain ⟨t9, o9⟩ := x
    obtain ⟨t8, v⟩ := v
    cases hq9 : Nat.beq t9 t with
    | false => rw [hq9] at hF; cases hF
    | true =>
     cases hq8 : Nat.beq t8 c9 with
     | false => rw [hq9, hq8] at hF; cases hF
     | true =>
      have e9 : t9 = t := Nat.eq_of_beq_eq_true hq9
      subst e9
      have e8 : t8 = c9 := Nat.eq_of_beq_eq_true hq8
      subst e8
      rw [hq9, hq8] at hF
      cases o9 with
      | none => cases hF
      | some a =>
        simp only [Bool.and_true, cond_true, Option.bind_some] at hF
        split at hF
        · cases hF
        · rename_i hin
          intro ι H locs cells slots ls hP hA hl hs hv hS hC hU hI hE
          have ha : hp_T h a = some t9 := kx_okh (kx_okt (kx_okt hs)) a rfl
          have hcell := kx_P_a hP ha har.2.1
          have hAr := G.2.2.2.2.2.2.1.2.1.2 _ _ (har.1 cA)
          have hlt : i9.toNatClampNeg < hp_N h a := Nat.not_le.mp fun q => hin (Or.inr q)
          have hlo : ¬ i9 < 0 := fun q => hin (Or.inl q)
          have fin : ∀ H' : Heap, H'[ι a]? = some ((arrV (cA t9) (hp_N h a) (fun i => kx_val ι h a (kx_ak t9).1 i)).setSlot i9.toNatClampNeg (va_rf (v.map ι))) → H'.size = H.size → (∀ q : Nat, q ≠ ι a → H'[q]? = H[q]?) → W p l e R s m args below meth c H' (locs ++ [⟨ι a, i9.toNatClampNeg⟩]) cells slots (kx_Q s0 D cA below s ι0 h0 rr hf) (F0 m (pc + 1) ls (r8.map (kx_cv ι))) := by
            intro H' e1 e2 e3
            rw [arrV_store] at e1
            refine hk _ _ _ hF ι H' _ cells slots ls (kx_P_arr hP ha har.2.1 (e1.trans ?_) e3 rfl rfl rfl (fun b hb kd j => ?_) (fun b hb => rfl) (fun b t' j z hb hlt hkd hz => ?_) (fun b t' j z hb hlt hkd hz => ?_)) hA hl (kx_okt (kx_okt (kx_okt hs))) hv (hS.put e2 e3 (hA a t9 ha (by have := har.2.1; omega))) hC hU hI hE
            · congr 2
              funext j
              rw [kx_updV, kx_v2]
              by_cases hj : j = i9.toNatClampNeg
              · rw [if_pos hj, if_pos ⟨by rw [har.2.2], rfl, hj⟩]
              · rw [if_neg hj, if_neg (fun z => hj z.2.2)]
            · rw [kx_v2, if_neg (fun z => hb z.2.1)]
            · by_cases e5 : b = a ∧ j = i9.toNatClampNeg
              · obtain ⟨rfl, rfl⟩ := e5
                have e6 : t' = t9 := Option.some.inj (hb.symm.trans ha)
                have := har.2.1
                omega
              · have hz2 : hp_R h b j = some z := by simpa [hp_R, hp_sR, e5] using hz
                exact hP.2.2.1 b t' j z hb hlt hkd hz2
            · by_cases e5 : b = a ∧ j = i9.toNatClampNeg
              · obtain ⟨rfl, rfl⟩ := e5
                have e6 : t' = t9 := Option.some.inj (hb.symm.trans ha)
                subst e6
                have hz2 : v = some z := by simpa [hp_R, hp_sR] using hz
                rw [har.2.2]
                exact kx_okh hs z hz2
              · have hz2 : hp_R h b j = some z := by simpa [hp_R, hp_sR, e5] using hz
                exact hP.2.2.2 b t' j z hb hlt hkd hz2
          cases v with
          | none => exact va_WaastN G.1 G.2.1 hcell (hAr.1 _ _) (fun q => by cases q) (by rw [arrV_size]; exact hin) rfl rfl hd fin
          | some v =>
            have hv9 : hp_T h v = some t8 := kx_okh hs v rfl
            obtain ⟨-, r', hr', cellV, g1, g2, g3, -⟩ := (hP.1 v t8 hv9).2.2.1 h98
            have hcls := (G.2.2.2.2.2.2.1.2.1.1 t8 r9 hc9).2
            obtain ⟨kA, comp, k1, k2, k3, -⟩ := hAr.2
            have hcomp : comp = D.1 t8 := Option.some.inj (k3.symm.trans hcls.1)
            subst hcomp
            obtain ⟨kC, hkC, -⟩ := hcls.2
            exact W.aast G.1 G.2.1 hcell (fun q h => by cases h) (fun h => by cases h) k1 k2 rfl hkC ⟨hlo, by rw [arrV_size]; exact hlt⟩ g1 (fun q h => by rw [g3] at h; cases h) (by rw [g2]; exact hkC) (by rw [g2]; exact va_assign hcls) rfl rfl hd fin
  · cases hF
theorem kx_cv_ext {ι' : Nat → Nat} {v : kx_V} (ho : kx_ok h v) (hx : ∀ a t, hp_T h a = some t → ι' a = ι a) : kx_cv ι' v = kx_cv ι v := by
  rcases v with x | x | ⟨t, o⟩
  · rfl
  · rfl
  · cases o with
    | none => rfl
    | some a => show Value.ref (ι' a) = Value.ref (ι a); rw [hx a t (ho a rfl)]
theorem kx_lc_ext {ι' : Nat → Nat} {lv : kx_L} (ho : ∀ q ∈ lv, kx_ok h q.2) (hx : ∀ a t, hp_T h a = some t → ι' a = ι a) : kx_lc ι' lv = kx_lc ι lv := by
  unfold kx_lc
  exact List.map_congr_left fun q hq => by rw [kx_cv_ext (ho q hq) hx]
theorem kx_st_ext {ι' : Nat → Nat} {st : List kx_V} (ho : ∀ v ∈ st, kx_ok h v) (hx : ∀ a t, hp_T h a = some t → ι' a = ι a) : st.map (kx_cv ι') = st.map (kx_cv ι) :=
  List.map_congr_left fun q hq => kx_cv_ext (ho q hq) hx
theorem kx_P_lt (hP : kx_P s0 D cA ι h H) (hz : s0.heap.size ≤ H.size) (ha : hp_T h a = some t) : ι a < H.size := by
  obtain ⟨-, g2, g3, g4⟩ := hP.1 a t ha
  rcases Nat.lt_trichotomy t 98 with z | z | z
  · obtain ⟨-, r, -, cell, q1, -⟩ := g3 z
    exact (Array.getElem?_eq_some_iff.mp q1).1
  · exact Nat.lt_of_lt_of_le (g2 z).2 hz
  · exact (Array.getElem?_eq_some_iff.mp (g4 z).2).1
/-- a cell more -/
def kx_io (ι : Nat → Nat) (x q : Nat) : Nat → Nat := fun b => if b = x then q else ι b
theorem kx_P_new {H' : Heap} {t n w : Nat} (hP : kx_P s0 D cA ι h H) (hz : s0.heap.size ≤ H.size) (he : H'.size = H.size + 1) (ho : ∀ q : Nat, q < H.size → H'[q]? = H[q]?) (ht : t ≠ 98)
    (h1 : t < 98 → ∃ r : vw_C, kx_cl[t]? = some r ∧ t_OB H.size (D.1 t) r.2.2 (D.2 t) H' (fun k => kx_val (kx_io ι (hp_X h) H.size) (hp_new h t n w) (hp_X h) (kx_ft t k).1 k))
    (h2 : 98 < t → H'[H.size]? = some (arrV (cA t) n (fun i => kx_val (kx_io ι (hp_X h) H.size) (hp_new h t n w) (hp_X h) (kx_ak t).1 i))) : kx_P s0 D cA (kx_io ι (hp_X h) H.size) (hp_new h t n w) H' := by
  have old : ∀ b u, hp_T h b = some u → b ≠ hp_X h := fun b u hb e => by have := (hP.1 b u hb).1; omega
  have tn : ∀ b, hp_T (hp_new h t n w) b = if b = hp_X h then some t else hp_T h b := fun b => rfl
  have tX : hp_T h (hp_X h) = none := by
    cases hq : hp_T h (hp_X h) with
    | none => rfl
    | some u => exact absurd rfl (old _ u hq)
  have io : ∀ b u, hp_T h b = some u → kx_io ι (hp_X h) H.size b = ι b := fun b u hb => by unfold kx_io; rw [if_neg (old b u hb)]
  have vi : ∀ b u, hp_T h b = some u → ∀ j, hp_I (hp_new h t n w) b j = hp_I h b j := fun b u hb j => by show (if b = hp_X h then _ else _) = _; rw [if_neg (old b u hb)]
  have vl : ∀ b u, hp_T h b = some u → ∀ j, hp_L (hp_new h t n w) b j = hp_L h b j := fun b u hb j => by show (if b = hp_X h then _ else _) = _; rw [if_neg (old b u hb)]
  have vr : ∀ b u, hp_T h b = some u → ∀ j, hp_R (hp_new h t n w) b j = hp_R h b j := fun b u hb j => by show (if b = hp_X h then _ else _) = _; rw [if_neg (old b u hb)]
  have vb : ∀ b u, hp_T h b = some u → ∀ j, hp_B (hp_new h t n w) b j = hp_B h b j := fun b u hb j => by show (if b = hp_X h then _ else _) = _; rw [if_neg (old b u hb)]
  have vn : ∀ b u, hp_T h b = some u → hp_N (hp_new h t n w) b = hp_N h b := fun b u hb => by show (if b = hp_X h then _ else _) = _; rw [if_neg (old b u hb)]
  have rn : ∀ j, hp_R (hp_new h t n w) (hp_X h) j = none := fun j => by show (if hp_X h = hp_X h then _ else _) = _; rw [if_pos rfl]
  have val : ∀ b u kd j, hp_T h b = some u → (kd = 2 → ∀ x, hp_R h b j = some x → ∃ y, hp_T h x = some y) → kx_val (kx_io ι (hp_X h) H.size) (hp_new h t n w) b kd j = kx_val ι h b kd j := by
    intro b u kd j hb hr
    rcases kd with _ | _ | _ | kd
    · show Value.int _ = Value.int _; rw [vi b u hb]
    · show Value.long _ = Value.long _; rw [vl b u hb]
    · show va_rf ((hp_R _ b j).map _) = va_rf ((hp_R h b j).map _)
      rw [vr b u hb]
      cases hx : hp_R h b j with
      | none => rfl
      | some x =>
        obtain ⟨y, hy⟩ := hr rfl x hx
        show va_rf (some (kx_io ι _ _ x)) = va_rf (some (ι x))
        rw [io x y hy]
    · show Value.int (kx_b _) = Value.int (kx_b _); rw [vb b u hb]
  refine ⟨fun b u hb => ?_, fun b c9 u u' hb hc' hq => ?_, fun b u k9 x hb hlt hkd hx => ?_, fun b u k9 x hb hlt hkd hx => ?_⟩
  · rw [tn] at hb
    by_cases e : b = hp_X h
    · subst e
      rw [if_pos rfl] at hb
      cases hb
      have ioX : kx_io ι (hp_X h) H.size (hp_X h) = H.size := by unfold kx_io; rw [if_pos rfl]
      refine ⟨Nat.lt_succ_self _, fun z => absurd z ht, fun z => ?_, fun z => ?_⟩
      · rw [ioX]; exact ⟨hz, h1 z⟩
      · rw [ioX]
        refine ⟨hz, ?_⟩
        rw [show hp_N (hp_new h t n w) (hp_X h) = n from by show (if hp_X h = hp_X h then _ else _) = _; rw [if_pos rfl]]
        exact h2 z
    · rw [if_neg e] at hb
      obtain ⟨g1, g2, g3, g4⟩ := hP.1 b u hb
      have hlt := kx_P_lt hP hz hb
      have hio := io b u hb
      refine ⟨Nat.lt_succ_of_lt g1, fun z => ?_, fun z => ?_, fun z => ?_⟩
      · obtain ⟨x1, x2⟩ := g2 z
        rw [hio, vn b u hb, show hp_I (hp_new h t n w) b = hp_I h b from funext (vi b u hb)]
        exact ⟨x1.kept (ho _ hlt), x2⟩
      · obtain ⟨x0, r', x1, x2⟩ := g3 z
        rw [hio]
        exact ⟨x0, r', x1, (x2.kept (ho _ hlt)).to (fun j _ => (val b u _ j hb (fun e2 x hx => ⟨_, hP.2.2.1 b u j x hb z e2 hx⟩)).symm)⟩
      · obtain ⟨x0, x1⟩ := g4 z
        rw [hio]
        refine ⟨x0, ?_⟩
        rw [ho _ hlt, x1, vn b u hb]
        congr 2
        funext j
        exact (val b u _ j hb (fun e2 x hx => ⟨_, hP.2.2.2 b u j x hb z e2 hx⟩)).symm
  · rw [tn] at hb hc'
    by_cases e : b = hp_X h
    · by_cases e2 : c9 = hp_X h
      · rw [e, e2]
      · rw [if_neg e2] at hc'
        have := kx_P_lt hP hz hc'
        rw [io c9 u' hc', e] at hq
        unfold kx_io at hq
        rw [if_pos rfl] at hq
        omega
    · rw [if_neg e] at hb
      by_cases e2 : c9 = hp_X h
      · have := kx_P_lt hP hz hb
        rw [io b u hb, e2] at hq
        unfold kx_io at hq
        rw [if_pos rfl] at hq
        omega
      · rw [if_neg e2] at hc'
        rw [io b u hb, io c9 u' hc'] at hq
        exact hP.2.1 b c9 u u' hb hc' hq
  · rw [tn] at hb
    by_cases e : b = hp_X h
    · rw [e, rn] at hx; cases hx
    · rw [if_neg e] at hb
      rw [vr b u hb] at hx
      have hy := hP.2.2.1 b u k9 x hb hlt hkd hx
      rw [tn, if_neg (old x _ hy)]
      exact hy
  · rw [tn] at hb
    by_cases e : b = hp_X h
    · rw [e, rn] at hx; cases hx
    · rw [if_neg e] at hb
      rw [vr b u hb] at hx
      have hy := hP.2.2.2 b u k9 x hb hlt hkd hx
      rw [tn, if_neg (old x _ hy)]
      exact hy
def kx_dv (kd : Nat) : Value := match kd with
  | 0 => .int 0
  | 1 => .long 0
  | 2 => .null
  | _ => .int 0
theorem kx_val_new {x : Nat} {t n w kd j : Nat} : kx_val (kx_io ι (hp_X h) x) (hp_new h t n w) (hp_X h) kd j = kx_dv kd := by
  rcases kd with _ | _ | _ | kd
  · show Value.int (if hp_X h = hp_X h then _ else _) = _; rw [if_pos rfl]; rfl
  · show Value.long (if hp_X h = hp_X h then _ else _) = _; rw [if_pos rfl]; rfl
  · show va_rf ((if hp_X h = hp_X h then none else _).map _) = _; rw [if_pos rfl]; rfl
  · show Value.int (kx_b (if hp_X h = hp_X h then _ else _)) = _; rw [if_pos rfl]; rfl
theorem kx_old (hP : kx_P s0 D cA ι h H) {x : Nat} : ∀ a t, hp_T h a = some t → kx_io ι (hp_X h) x a = ι a := fun a t ha => by
  have := (hP.1 a t ha).1
  unfold kx_io
  rw [if_neg (by omega)]
theorem kx_tnew (hP : kx_P s0 D cA ι h H) {t n w : Nat} : ∀ a u, hp_T h a = some u → hp_T (hp_new h t n w) a = some u := fun a u ha => by
  have := (hP.1 a u ha).1
  show (if a = hp_X h then _ else _) = _
  rw [if_neg (by omega)]
  exact ha
theorem kx_ok_new (hP : kx_P s0 D cA ι h H) {t n w : Nat} {v : kx_V} (ho : kx_ok h v) : kx_ok (hp_new h t n w) v := by
  rcases v with x | x | ⟨u, o⟩
  · trivial
  · trivial
  · exact fun a ha => kx_tnew hP a u (ho a ha)
/-- the world behind a new cell, for the rest of the walk -/
theorem kx_go_new (G : kx_G p e R s m args meth c s0 D cA cc own nL h0) {t n w : Nat} {lv : kx_L} {st : List kx_V} (hk : kx_Sn p l e R s m args below meth c s0 D cA nL ι0 h0 rr hf (pc + i) k) (hF : k lv (.inr (.inr (t, some (hp_X h))) :: st) (hp_new h t n w) = some (rr, hf)) (hP : kx_P s0 D cA ι h H) (hA : ∀ a t, hp_T h a = some t → t ≠ 98 → kx_A s0 s (ι a)) (hl : lv_has ls nL (kx_lc ι lv)) (hs : ∀ v ∈ st, kx_ok h v) (hv : ∀ q ∈ lv, kx_ok h q.2) (hS : va_S (kx_A s0 s) s.heap H locs)
    (hC : hp_C h0 + cells = hp_C h) (hU : hp_U h0 + slots = hp_U h) (hI : ∀ a, a < hp_X h0 → ι a = ι0 a) (hE : kx_le h0 h) (hroom : hp_C h + 1 ≤ kx_cc ∧ hp_U h + w ≤ kx_cs) {H' : Heap} (he : H'.size = H.size + 1) (ho : ∀ q : Nat, q < H.size → H'[q]? = H[q]?) (hP' : kx_P s0 D cA (kx_io ι (hp_X h) H.size) (hp_new h t n w) H') :
    W p l e R s m args below meth c H' locs (cells + 1) (slots + w) (kx_Q s0 D cA below s ι0 h0 rr hf) (F0 m (pc + i) ls (.ref H.size :: st.map (kx_cv ι))) := by
  have hB := G.2.2.2.2.2.2.1
  have hnT : hp_T (hp_new h t n w) (hp_X h) = some t := by show (if hp_X h = hp_X h then _ else _) = _; rw [if_pos rfl]
  have h1 := hk _ _ _ hF (kx_io ι (hp_X h) H.size) H' locs (cells + 1) (slots + w) ls hP' (fun b u hb hu => ?_) (by rw [kx_lc_ext hv (kx_old hP)]; exact hl) (kx_ok2 (fun b hb => by cases hb; exact hnT) (fun v hv9 => kx_ok_new hP (hs v hv9))) (fun q hq => kx_ok_new hP (hv q hq)) ⟨by rw [he]; exact Nat.le_succ_of_le hS.1, fun q g1 g2 => by rw [ho q (Nat.lt_of_lt_of_le g1 hS.1)]; exact hS.2.1 q g1 g2, hS.2.2⟩
    (by show hp_C h0 + (cells + 1) = hp_C h + 1; omega) (by show hp_U h0 + (slots + w) = hp_U h + w; omega) (fun b hb => ?_) ⟨Nat.le_succ_of_le hE.1, fun b u hb => kx_tnew hP b u (hE.2.1 b u hb), hroom.1, hroom.2⟩
  · rw [List.map_cons, kx_st_ext hs (kx_old hP)] at h1
    have h2 : kx_cv (kx_io ι (hp_X h) H.size) (.inr (.inr (t, some (hp_X h)))) = .ref H.size := by
      show Value.ref (if hp_X h = hp_X h then _ else _) = _
      rw [if_pos rfl]
    rw [h2] at h1
    exact h1
  · by_cases e : b = hp_X h
    · subst e
      unfold kx_io
      rw [if_pos rfl]
      exact ⟨Nat.le_trans hB.2.2.2.1 hS.1, fun cell hc => by rw [Array.getElem?_eq_none hS.1] at hc; cases hc⟩
    · have hb2 : hp_T h b = some u := by
        have z : (if b = hp_X h then some t else hp_T h b) = some u := hb
        rw [if_neg e] at z
        exact z
      rw [kx_old hP b u hb2]
      exact hA b u hb2 hu
  · have := hE.1
    unfold kx_io
    rw [if_neg (by omega)]
    exact hI b hb
theorem kx_s_new (G : kx_G p e R s m args meth c s0 D cA cc own nL h0) {w : Nat} (hc : kx_cl[t]? = some r) (h98 : t < 98) (hw : w = r.2.2) (hin : ∀ w ∈ u_ws r.1 r.2.1 r.2.2, w ∈ kx_WS) (ty : Nat → FieldType) (hty : ∀ k, k < r.2.2 → parseFieldDescriptor (r.2.1 k).2.2.1 = some (ty k)) (hdv : ∀ k, k < r.2.2 → defaultValue (ty k) = kx_dv (kx_ft t k).1)
    (h1 : Cond.classLink own i r.1 ∈ kx_WS) (h2 : Cond.instantiable r.1 r.2.2 ∈ kx_WS) (h3 : Cond.initialized r.1 ∈ kx_WS) (hd : decode cc pc = .ok (.new i, 3)) (hk : kx_Sn p l e R s m args below meth c s0 D cA nL ι0 h0 rr hf (pc + 3) k) : kx_Sn p l e R s m args below meth c s0 D cA nL ι0 h0 rr hf pc (kx_new kx_cc kx_cs t w k) := by
  intro lv st h hF
  unfold kx_new at hF
  split at hF
  · rename_i hroom
    intro ι H locs cells slots ls hP hA hl hs hv hS hC hU hI hE
    obtain ⟨hx, hb, hown, -, -, hts, hB, hcc, hcs⟩ := id G
    have hKn := hB.2.1.1 t r hc
    subst hw
    refine W.newcK hx hb hown (hts _ h1) (hts _ h2) (hts _ h3) rfl hd (by omega) (by omega) hKn.2.1 rfl fun H' kC hkC e1 e2 e3 => ?_
    have hz : s0.heap.size ≤ H.size := Nat.le_trans hB.2.2.2.1 hS.1
    refine kx_go_new G hk hF hP hA hl hs hv hS hC hU hI hE hroom e2 e3 (kx_P_new hP hz e2 e3 (by omega) (fun _ => ⟨r, hc, (u_born ty hts hin hKn hkC e1 hty).to (fun j hj => ?_)⟩) (fun z => absurd z (by omega)))
    rw [kx_val_new]
    exact hdv j hj
  · cases hF
theorem kx_s_newa (G : kx_G p e R s m args meth c s0 D cA cc own nL h0) {kd c9 : Nat} {ty : FieldType} {at9 : ArrayType} (har : kx_ar t kd c9 ty) (hat : newarray.typeOf at9 = ty) (hby : componentBytes ty ≤ 8) (hdv : defaultValue ty = kx_dv kd) (hnob : ∀ n, ty ≠ .object n) (h1 : Cond.arrayClass ty ∈ kx_WS) (hd : decode cc pc = .ok (.newarray at9, 2)) (hk : kx_Sn p l e R s m args below meth c s0 D cA nL ι0 h0 rr hf (pc + 2) k) : kx_Sn p l e R s m args below meth c s0 D cA nL ι0 h0 rr hf pc (kx_newa kx_cc kx_cs t k) := by
  intro lv st h hF
  unfold kx_newa at hF
  split at hF
  · rename_i n r9
    split at hF
    · cases hF
    · rename_i hn
      split at hF
      · rename_i hroom
        intro ι H locs cells slots ls hP hA hl hs hv hS hC hU hI hE
        obtain ⟨hx, hb, hown, -, -, hts, hB, hcc, hcs⟩ := id G
        subst hat
        have hn0 : ¬ n < 0 := fun z => hn (Or.inl z)
        have hn1 : n.toNatClampNeg ≤ 60000000 := Nat.not_lt.mp fun z => hn (Or.inr z)
        refine va_newaK hx hb (hts _ h1) rfl hd rfl hn0 rfl (Nat.le_trans (Nat.mul_le_mul hn1 hby) (by decide)) (by omega) (by omega) rfl fun H' cA9 e1 e2 e3 _ hnm => ?_
        have hz : s0.heap.size ≤ H.size := Nat.le_trans hB.2.2.2.1 hS.1
        have hcl : cA9 = cA t := by
          have z := (hB.2.1.2 _ _ (har.1 cA)).2
          cases hq : newarray.typeOf at9 with
          | object n9 => exact absurd hq (hnob n9)
          | _ =>
            rw [hq] at z hnm
            exact Option.some.inj (hnm.symm.trans z)
        subst hcl
        refine kx_go_new (i := 2) (n := n.toNatClampNeg) G hk hF hP hA hl (kx_okt hs) hv hS hC hU hI hE hroom e2 e3 (kx_P_new hP hz e2 e3 (by have := har.2.1; omega) (fun z => absurd z (by have := har.2.1; omega)) (fun _ => e1.trans ?_))
        congr 2
        funext j
        rw [kx_val_new, har.2.2, hdv]
      · cases hF
  · cases hF
theorem kx_s_anew (G : kx_G p e R s m args meth c s0 D cA cc own nL h0) {c9 : Nat} {r9 : vw_C} (har : kx_ar t 2 c9 (.object r9.1)) (h1 : Cond.classLink own i r9.1 ∈ kx_WS) (h2 : Cond.arrayOver (.object r9.1) ∈ kx_WS) (hd : decode cc pc = .ok (.anewarray i, 3)) (hk : kx_Sn p l e R s m args below meth c s0 D cA nL ι0 h0 rr hf (pc + 3) k) : kx_Sn p l e R s m args below meth c s0 D cA nL ι0 h0 rr hf pc (kx_newa kx_cc kx_cs t k) := by
  intro lv st h hF
  unfold kx_newa at hF
  split at hF
  · rename_i n r8
    split at hF
    · cases hF
    · rename_i hn
      split at hF
      · rename_i hroom
        intro ι H locs cells slots ls hP hA hl hs hv hS hC hU hI hE
        obtain ⟨hx, hb, hown, -, -, hts, hB, hcc, hcs⟩ := id G
        have hn0 : ¬ n < 0 := fun z => hn (Or.inl z)
        have hn1 : n.toNatClampNeg ≤ 60000000 := Nat.not_lt.mp fun z => hn (Or.inr z)
        refine W.anew hx hb hown (hts _ h1) (hts _ h2) rfl hd rfl hn0 (by omega) (by omega) (by omega) fun cA9 kA comp f1 f2 f3 f4 => ?_
        have hz : s0.heap.size ≤ H.size := Nat.le_trans hB.2.2.2.1 hS.1
        have hcl : cA9 = cA t := by
          obtain ⟨-, -, -, -, -, z⟩ := (hB.2.1.2 _ _ (har.1 cA)).2
          exact Option.some.inj (f1.symm.trans z)
        subst hcl
        generalize hH1 : H.push ({ cls := cA t, slots := Array.replicate n.toNatClampNeg .null, vm := .none } : Cell) = H'
        have e2 : H'.size = H.size + 1 := by rw [← hH1, Array.size_push]
        have e1 : H'[H.size]? = some (arrV (cA t) n.toNatClampNeg (fun _ => .null)) := by rw [← hH1, Array.getElem?_push_size, ← arrV_new]
        have e3 : ∀ q : Nat, q < H.size → H'[q]? = H[q]? := fun q hq => by rw [← hH1, Array.getElem?_push, if_neg (Nat.ne_of_lt hq)]
        refine kx_go_new (i := 3) (n := n.toNatClampNeg) G hk hF hP hA hl (kx_okt hs) hv hS hC hU hI hE hroom e2 e3 (kx_P_new hP hz e2 e3 (by have := har.2.1; omega) (fun z => absurd z (by have := har.2.1; omega)) (fun _ => e1.trans ?_))
        congr 2
        funext j
        rw [kx_val_new, har.2.2]
        rfl
      · cases hF
  · cases hF
end KA
end
section
/-- a word that stays -/
def kx_kp (w : Cond) : Prop := ∀ (A A' : Array Value) (u U : State), u.WarmedH U.vm → w.before A u = true → w.before A' U = true
theorem kx_kb_ok {w : Cond} (h : kx_kb w = true) : kx_kp w := by
  intro A A' u U hW hw
  unfold kx_kb at h
  split at h
  · exact va_Nw.use rfl (va_Nw.warmM hW (va_Nw.of rfl hw))
  · exact va_Nw.use rfl (va_Nw.warmF hW (va_Nw.of rfl hw))
  · exact va_Nw.use rfl (va_Nw.warmC hW (va_Nw.of rfl hw))
  · exact va_AO.use (va_AO.moved hW.alike (va_AO.of hw))
  · exact word_at hW (Or.inr ⟨_, rfl⟩) hw
  · exact va_Nw.use rfl (va_Nw.warmD hW (va_Nw.of rfl hw))
  · rename_i own i tx
    have hown : ∃ cur, u.vm.findClass own = some cur := by
      have h1 := hw
      simp only [Cond.before, Cond.holds, Cond.value] at h1
      cases hc : u.vm.findClass own with
      | none => simp [hc] at h1
      | some cur => exact ⟨cur, rfl⟩
    obtain ⟨cur, hown⟩ := hown
    obtain ⟨k, cf, j, a', -, -, -, -, -, hev⟩ := Cond.stringRef_spec hown hw
    exact (vk_R.warm hW (vk_R.of hw hev)).1
  · exact word_at hW (Or.inl h) hw
theorem kx_good : ∀ w ∈ kx_WS, kx_kp w := fun w hw => kx_kb_ok (List.mem_filter.mp hw).2
section KE
variable {p : Program} {l : Launch} {e : Env} {R : Room} {s : State} {m : MethodId} {args : Array Value} {below : List Frame} {meth : Method} {c : Code} {H : Heap} {locs : List Loc} {cells slots : Nat} {Q : State → Prop}
variable {s0 : State} {D : va_G} {cA : Nat → ClassId} {cc : ByteArray} {own : String} {nL : Nat} {ι ι0 : Nat → Nat} {h h0 hf : kx_H} {rr : kx_R} {pc : Nat} {k : kx_F} {ls : Array Slot} {rest : List Value} {a t i : Nat} {r : vw_C}
theorem kx_mono {Q' : State → Prop} {g : JFrame} (hq : ∀ t, Q t → Q' t) (kk : W p l e R s m args below meth c H locs cells slots Q g) : W p l e R s m args below meth c H locs cells slots Q' g := by
  intro T hT X
  obtain ⟨t, a, b⟩ := kk T hT X
  exact ⟨t, a, hq t b⟩
theorem kx_fin {v : Option kx_V} (hB : s0.heap.size ≤ s.heap.size) (hP : kx_P s0 D cA ι hf H) (hS : va_S (kx_A s0 s) s.heap H locs) (hC : hp_C h0 + cells = hp_C hf) (hU : hp_U h0 + slots = hp_U hf) (hI : ∀ a, a < hp_X h0 → ι a = ι0 a) (hE : kx_le h0 hf) (hok : ∀ x, v = some x → kx_ok hf x) :
    ∀ t, MQ below (fun _ _ o t => o = .returned (v.map (kx_cv ι)) ∧ t.heap = H) args s cells slots (kx_A s0 s) t → kx_Q s0 D cA below s ι0 h0 (.inl v) hf t := by
  rintro t ⟨o, h1, h2, ⟨h3, h4⟩, L, ⟨-, h6, h7⟩, h8⟩
  refine ⟨o, h1, h2, ι, L, cells, slots, hI, by rw [h4]; exact hP, ⟨h3, hok⟩, h6, h7, h8, fun q hq => ?_, hC, hU, hE⟩
  rw [h4]
  exact hS.2.1 q (Nat.lt_of_lt_of_le hq hB) (fun z => absurd z.1 (by omega))
theorem kx_s_return (G : kx_G p e R s m args meth c s0 D cA cc own nL h0) (hr : meth.sig.returnType = none) (hd : decode cc pc = .ok (.return_, 1)) : kx_Sn p l e R s m args below meth c s0 D cA nL ι0 h0 rr hf pc kx_rv := by
  intro lv st h hF
  unfold kx_rv at hF
  split at hF
  · cases hF
    intro ι H locs cells slots ls hP hA hl hs hv hS hC hU hI hE
    have hlocks : meth.locks = false := G.2.2.2.2.1
    exact kx_mono (kx_fin (v := none) G.2.2.2.2.2.2.1.2.2.2.1 hP hS hC hU hI hE (fun x hx => by cases hx)) (W.vret G.1 G.2.1 hr (fun t ht _ => ⟨rfl, ht⟩) hS.2.2 hd hlocks)
  · cases hF
theorem kx_s_ireturn (G : kx_G p e R s m args meth c s0 D cA cc own nL h0) (hr : meth.sig.returnType = some .int) (hd : decode cc pc = .ok (.ireturn, 1)) : kx_Sn p l e R s m args below meth c s0 D cA nL ι0 h0 rr hf pc kx_ri := by
  intro lv st h hF
  unfold kx_ri at hF
  split at hF
  · rename_i x
    cases hF
    intro ι H locs cells slots ls hP hA hl hs hv hS hC hU hI hE
    have hlocks : meth.locks = false := G.2.2.2.2.1
    exact kx_mono (kx_fin (v := some (.inl x)) G.2.2.2.2.2.2.1.2.2.2.1 hP hS hC hU hI hE (fun y hy => by cases hy; trivial)) (W.iret G.1 G.2.1 hr (fun t ht _ => ⟨rfl, ht⟩) hS.2.2 hd hlocks)
  · cases hF
theorem kx_s_zreturn (G : kx_G p e R s m args meth c s0 D cA cc own nL h0) (hr : meth.sig.returnType = some .boolean) (hd : decode cc pc = .ok (.ireturn, 1)) : kx_Sn p l e R s m args below meth c s0 D cA nL ι0 h0 rr hf pc kx_rz := by
  intro lv st h hF
  unfold kx_rz at hF
  split at hF
  · rename_i x
    split at hF
    · rename_i hx01
      cases hF
      intro ι H locs cells slots ls hP hA hl hs hv hS hC hU hI hE
      have hlocks : meth.locks = false := G.2.2.2.2.1
      exact kx_mono (kx_fin (v := some (.inl x)) G.2.2.2.2.2.2.1.2.2.2.1 hP hS hC hU hI hE (fun y hy => by cases hy; trivial)) (W.zret G.1 G.2.1 hr (by rcases hx01 with rfl | rfl <;> decide) (fun t ht _ => ⟨rfl, ht⟩) hS.2.2 hd hlocks)
    · cases hF
  · cases hF
theorem kx_s_lreturn (G : kx_G p e R s m args meth c s0 D cA cc own nL h0) (hr : meth.sig.returnType = some .long) (hd : decode cc pc = .ok (.lreturn, 1)) : kx_Sn p l e R s m args below meth c s0 D cA nL ι0 h0 rr hf pc kx_rl := by
  intro lv st h hF
  unfold kx_rl at hF
  split at hF
  · rename_i x
    cases hF
    intro ι H locs cells slots ls hP hA hl hs hv hS hC hU hI hE
    have hlocks : meth.locks = false := G.2.2.2.2.1
    exact kx_mono (kx_fin (v := some (.inr (.inl x))) G.2.2.2.2.2.2.1.2.2.2.1 hP hS hC hU hI hE (fun y hy => by cases hy; trivial)) (W.lret G.1 G.2.1 hr (fun t ht _ => ⟨rfl, ht⟩) hS.2.2 hd hlocks)
  · cases hF
theorem kx_s_areturn (G : kx_G p e R s m args meth c s0 D cA cc own nL h0) {n9 : String} (hr : meth.sig.returnType = some (.object n9)) (hd : decode cc pc = .ok (.areturn, 1)) : kx_Sn p l e R s m args below meth c s0 D cA nL ι0 h0 rr hf pc kx_rr := by
  intro lv st h hF
  unfold kx_rr at hF
  split at hF
  · rename_i x
    cases hF
    intro ι H locs cells slots ls hP hA hl hs hv hS hC hU hI hE
    have hlocks : meth.locks = false := G.2.2.2.2.1
    exact kx_mono (kx_fin (v := some (.inr (.inr x))) G.2.2.2.2.2.2.1.2.2.2.1 hP hS hC hU hI hE (fun y hy => by cases hy; exact kx_okh hs)) (W.aret G.1 G.2.1 hr (Or.inl ⟨_, rfl⟩) (by obtain ⟨t9, o9⟩ := x; cases o9; exact Or.inl rfl; exact Or.inr ⟨_, rfl⟩) (fun t ht _ => ⟨rfl, ht⟩) hS.2.2 hd hlocks)
  · cases hF
theorem kx_w2 (ι : Nat → Nat) (st : List kx_V) : ((st.map (kx_cv ι)).map fun v => v.category).sum ≤ 2 * st.length := by
  induction st with
  | nil => exact Nat.le_refl _
  | cons v r ih =>
    simp only [List.map_cons, List.sum_cons, List.length_cons]
    rcases lv_cat (kx_cv ι v) with z | z <;> omega
theorem kx_w8 {st : List kx_V} {g : JFrame} (hg : st.length ≤ 8) (hR : 40 ≤ R.locals) (h0 : g.monitorRoom = 0) : 2 * g.monitorRoom + ((st.map (kx_cv ι)).map fun v => v.category).sum + 12 ≤ R.locals := by
  have := kx_w2 ι st
  omega
theorem kx_s_obj (G : kx_G p e R s m args meth c s0 D cA cc own nL h0) (h1 : Cond.methodLink own i objectInit ∈ kx_WS) (h2 : Cond.instanceMethod objectInit ∈ kx_WS) (h3 : Cond.code objectInit ⟨#[0xb1]⟩ 1 none ∈ kx_WS) (hR1 : 1 ≤ R.frames) (hR2 : 40 ≤ R.locals) (hd : decode cc pc = .ok (.invokespecial i, 3)) (hk : kx_Sn p l e R s m args below meth c s0 D cA nL ι0 h0 rr hf (pc + 3) k) : kx_Sn p l e R s m args below meth c s0 D cA nL ι0 h0 rr hf pc (kx_obj k) := by
  intro lv st h hF
  unfold kx_obj at hF
  split at hF
  · rename_i x r9
    obtain ⟨t9, o9⟩ := x
    cases hr9 : Nat.ble r9.length 8 with
    | false => rw [hr9] at hF; cases hF
    | true =>
     rw [hr9] at hF
     cases o9 with
     | none => cases hF
     | some a =>
      intro ι H locs cells slots ls hP hA hl hs hv hS hC hU hI hE
      refine W.objInit G.1 G.2.1 G.2.2.1 (G.2.2.2.2.2.1 _ h1) (G.2.2.2.2.2.1 _ h2) (G.2.2.2.2.2.1 _ h3) rfl (by rw [G.2.2.2.1]; exact hl.1) (a := ι a) (rest := r9.map (kx_cv ι)) rfl hd hR1 ?_ (hk _ _ _ hF ι H locs cells slots ls hP hA hl (kx_okt hs) hv hS hC hU hI hE)
      exact kx_w8 (Nat.le_of_ble_eq_true hr9) hR2 rfl
  · cases hF
theorem kx_S_of {T : State} (X : Stand p l e R s m args below meth c T locs cells slots) {A : Nat → Prop} (hL : ∀ q ∈ locs, A q.base) : va_S A s.heap T.heap locs := by
  obtain ⟨-, z1, -, -, -, z6⟩ := X.same
  refine ⟨z1, fun q h1 h2 => ?_, hL⟩
  have hc : s.heap[q]? = some s.heap[q] := Array.getElem?_eq_getElem h1
  obtain ⟨c', g1, g2, g3, g4⟩ := z6 q _ hc
  have g1' : T.heap[q]? = some c' := g1
  rw [g1', hc]
  congr 1
  have e1 : c'.slots = (s.heap[q]).slots := Array.ext_getElem? fun i => g4 i (fun hm => h2 (hL _ hm))
  refine g2.trans ?_
  rw [e1]
theorem kx_A_of {T : State} (X : Stand p l e R s m args below meth c T locs cells slots) {q : Nat} (h1 : s0.heap.size ≤ q) (h2 : ∀ cell : Cell, T.heap[q]? = some cell → cell.vm.isStatics = false) : kx_A s0 s q := by
  refine ⟨h1, fun c0 hc0 => ?_⟩
  obtain ⟨c', g1, g2, -⟩ := X.same.2.2.2.2.2 q c0 hc0
  have e1 : c'.vm = c0.vm := by rw [g2]
  rw [← e1]
  exact h2 c' g1
theorem kx_P_ns (hP : kx_P s0 D cA ι h H) (ha : hp_T h a = some t) (ht : t ≠ 98) : s0.heap.size ≤ ι a ∧ ∃ cell : Cell, H[ι a]? = some cell ∧ cell.vm.isStatics = false := by
  obtain ⟨-, -, g3, g4⟩ := hP.1 a t ha
  rcases Nat.lt_trichotomy t 98 with z | z | z
  · obtain ⟨x0, r, -, cell, q1, -, q3, -⟩ := g3 z
    exact ⟨x0, cell, q1, by rw [q3]; rfl⟩
  · exact absurd z ht
  · exact ⟨(g4 z).1, _, (g4 z).2, rfl⟩
theorem kx_PA {T : State} (X : Stand p l e R s m args below meth c T locs cells slots) (hP : kx_P s0 D cA ι h T.heap) : ∀ a t, hp_T h a = some t → t ≠ 98 → kx_A s0 s (ι a) := by
  intro a t ha ht
  obtain ⟨x0, cell, q1, q2⟩ := kx_P_ns hP ha ht
  exact kx_A_of X x0 (fun c9 h9 => by cases q1.symm.trans h9; exact q2)
def kx_need (d : Nat) (rm : Room) : Prop := d + 2 ≤ rm.frames ∧ 32 * d + 100 ≤ rm.locals
/-- a method's contract: this run of it -/
def kx_Mt (l : Launch) (s0 : State) (D : va_G) (cA : Nat → ClassId) (y : MethodName) (rm : Room) (ι0 : Nat → Nat) (As : List kx_V) (h0 : kx_H) (rr : kx_R) (hf : kx_H) : Prop :=
  MetFree l y (headSpec kx_WS rm) (fun a U => a = (As.map (kx_cv ι0)).toArray ∧ kx_B s0 D cA U ∧ kx_P s0 D cA ι0 h0 U.heap ∧ ∀ v ∈ As, kx_ok h0 v) (fun _ _ _ _ _ => True) (fun _ st o t => kx_E s0 D cA ι0 h0 rr hf st o t)
theorem kx_BU (hB : kx_B s0 D cA s) {U : State} (hW : s.WarmedH U.vm) (hS : va_S (kx_A s0 s) s.heap U.heap locs) : kx_B s0 D cA U := by
  obtain ⟨b1, b2, b3, b4, b5⟩ := hB
  refine ⟨State.WarmedH.trans b1 hW, va_K.moved hW.alike b2, b3, Nat.le_trans b4 hS.1, fun q hq => ?_⟩
  rw [hS.2.1 q (Nat.lt_of_lt_of_le hq b4) (fun z => absurd z.1 (by omega))]
  exact b5 q hq
theorem kx_wcall (G : kx_G p e R s m args meth c s0 D cA cc own nL h0) (hg : ∀ w ∈ kx_WS, kx_kp w) {y : MethodName} {bytes : ByteArray} {maxL : Nat} {ret : Option FieldType} (hcode : Cond.code y bytes maxL ret ∈ kx_WS) (hini : Cond.initialized y.cls ∈ kx_WS) (hmax : maxL ≤ 13) {d : Nat} {As : List kx_V} {r' : kx_R} {h' : kx_H}
    (hM : ∀ rm, kx_need d rm → kx_cc ≤ rm.cells + hp_C h → kx_cs ≤ rm.slots + hp_U h → kx_Mt l s0 D cA y rm ι As h r' h') (hR : kx_need (d + 1) R)
    (hcell : cells ≤ R.cells) (hslot : slots ≤ R.slots)
    (hP : kx_P s0 D cA ι h H) (hS : va_S (kx_A s0 s) s.heap H locs) (hC : hp_C h0 + cells = hp_C h) (hU : hp_U h0 + slots = hp_U h) (hI : ∀ a, a < hp_X h0 → ι a = ι0 a) (hE : kx_le h0 h) (hAs : ∀ v ∈ As, kx_ok h v)
    (hw8 : (rest.map fun v => v.category).sum ≤ 8) (hls : ls.size = nL) {st0 : List Value} {ig : Instr} (hdg : decode cc pc = .ok (ig, 3))
    (enter : ∀ T : State, T.heap = H → Stand p l e R s m args below meth c T locs cells slots → ∃ (vm₁ : Vm) (mk : MethodId), s.WarmedH vm₁ ∧ Stand p l e R s m args below meth c (T.setVm vm₁) locs cells slots ∧ (T.setVm vm₁).methodNamed? y = some mk ∧
      ∀ target, (∀ acts, Steps p.tables e below (doInvoke e ((T.setVm vm₁).setTop (F0 m pc ls rest)) acts mk (As.map (kx_cv ι)).toArray).1 target) → Steps p.tables e below (T.setTop (F0 m pc ls st0)) target)
    (kret : ∀ (v : Option kx_V) (ι' : Nat → Nat) (H' : Heap) (locs' : List Loc) (cells' slots' : Nat), r' = .inl v → kx_P s0 D cA ι' h' H' → (∀ a t, hp_T h' a = some t → t ≠ 98 → kx_A s0 s (ι' a)) → va_S (kx_A s0 s) s.heap H' locs' → hp_C h0 + cells' = hp_C h' → hp_U h0 + slots' = hp_U h' → (∀ a t, hp_T h a = some t → ι' a = ι a) → (∀ a, a < hp_X h0 → ι' a = ι0 a) → kx_le h h' → kx_le h0 h' → (∀ x, v = some x → kx_ok h' x) →
      W p l e R s m args below meth c H' locs' cells' slots' (kx_Q s0 D cA below s ι0 h0 rr hf) (F0 m (pc + 3) ls ((v.map (kx_cv ι')).toList ++ rest)))
    (kthr : ∀ e', r' = .inr e' → rr = .inr e' ∧ hf = h') (hout : ∀ x ∈ c.exceptionTable.toList, covers x pc = false) :
    W p l e R s m args below meth c H locs cells slots (kx_Q s0 D cA below s ι0 h0 rr hf) (F0 m pc ls st0) := by
  intro T hT X
  obtain ⟨vm₁, mk, hW₁, X₁, hn, hgo⟩ := enter T hT X
  obtain ⟨hx, hb, hown, hml, hlocks, hts, hB, hcc, hcs⟩ := id G
  have hU1 : (T.setVm vm₁).heap = H := hT
  generalize hUe : T.setVm vm₁ = U at hn X₁ hgo hU1
  have hWU : s.WarmedH U.vm := by rw [← hUe]; exact hW₁
  have hSU : va_S (kx_A s0 s) s.heap U.heap locs := by rw [hU1]; exact hS
  have hBU := kx_BU hB hWU hSU
  have hM1 := hM { frames := R.frames - 1, cells := R.cells - cells, slots := R.slots - slots, locals := R.locals - (19 + maxL) } ⟨by have := hR.1; show d + 2 ≤ R.frames - 1; omega, by have := hR.2; show 32 * d + 100 ≤ R.locals - (19 + maxL); omega⟩ (by show kx_cc ≤ R.cells - cells + hp_C h; omega) (by show kx_cs ≤ R.slots - slots + hp_U h; omega)
  generalize hrm : ({ frames := R.frames - 1, cells := R.cells - cells, slots := R.slots - slots, locals := R.locals - (19 + maxL) } : Room) = rm at hM1
  have hpre : ∀ w ∈ kx_WS, w.before (As.map (kx_cv ι)).toArray U = true := fun w hw => hg w hw args _ s U hWU (hts w hw)
  have hat : At U (F0 m pc ls rest).method c below := X₁.here
  obtain ⟨methY, cY, hmY, hcY, -, hlY, -, -, -, -⟩ := Cond.code_spec hn (hpre _ hcode)
  obtain ⟨kY, hkY, -⟩ := className_of_methodNamed hn
  have hinitY : kY.init = .initialized := Cond.initialized_spec (findClass_of_methodNamed hn) hkY (hpre _ hini)
  have hdg' : decode c.code (F0 m pc ls rest).pc = .ok (ig, 3) := by rw [hb]; exact hdg
  have happ : (headSpec kx_WS rm).appliesLoose y e.platform (U.calling (F0 m pc ls rest) mk (As.map (kx_cv ι)).toArray) = true :=
    Spec.appliesLoose_calling (g := F0 m pc ls rest) hat hdg' hn hkY hinitY
      (X₁.room_calling (g := F0 m pc ls rest) (R' := rm) (by show ls.size = _; rw [hls, hml]) hmY hcY (by rw [← hrm]; have := hR.1; show R.frames - 1 + 1 ≤ R.frames; omega) (by rw [hlY, ← hrm]; have := hR.2; show 2 * 0 + (rest.map fun v => v.category).sum + (maxL + 11) + (R.locals - (19 + maxL)) ≤ R.locals; omega) (by rw [← hrm]; show cells + (R.cells - cells) ≤ R.cells; omega) (by rw [← hrm]; show slots + (R.slots - slots) ≤ R.slots; omega)) (atoms_intro hpre)
  obtain ⟨mid, hmid⟩ := hat.above
  have hfr : (U.setTop (F0 m pc ls rest)).frames = (.java (F0 m pc ls rest) :: mid) ++ below := by rw [State.frames_setTop' _ hat.top, hmid]; rfl
  have hPc : (U.calling (F0 m pc ls rest) mk (As.map (kx_cv ι)).toArray).heap = H := hU1
  obtain ⟨o, s₂, hsteps, -, hend, hq⟩ := Steps.callFree hM1 p X₁.admits X₁.cas X₁.clock (acts := []) hfr happ ⟨rfl, ⟨hBU.1, va_K.moved (Vm.Alike.refl U.vm) hBU.2.1, hBU.2.2.1, hBU.2.2.2.1, hBU.2.2.2.2⟩, (by show kx_P s0 D cA ι h U.heap; rw [hU1]; exact hP), hAs⟩ trivial
  rw [State.frames_setTop' _ hat.top] at hend
  have hq' : kx_E s0 D cA ι h r' h' (U.calling (F0 m pc ls rest) mk (As.map (kx_cv ι)).toArray) o s₂ := hq
  obtain ⟨ι', L, kn, nn, i1, p1, o1, w1, sm1, l1, f1, c1, u1, e1⟩ := hq'
  obtain ⟨g₀, hg0⟩ := Option.isSome_iff_exists.mp hat.top
  obtain ⟨r0, hr0⟩ := State.topJava?_eq_some.mp hg0
  obtain ⟨e2, q2, q3, q4, q5, q6⟩ := id sm1
  have e3 : s₂ = ({ (U.calling (F0 m pc ls rest) mk (As.map (kx_cv ι)).toArray).setFrames s₂.frames with heap := s₂.heap, slotsUsed := s₂.slotsUsed } : State).setVm s₂.vm := by
    have z : s₂ = ({ s₂ with vm := (U.calling (F0 m pc ls rest) mk (As.map (kx_cv ι)).toArray).vm } : State).setVm s₂.vm := rfl
    rw [e2] at z
    exact z
  have hW' : U.WarmedH s₂.vm := w1
  have hsame : U.sameButNew ({ U with heap := s₂.heap, slotsUsed := s₂.slotsUsed } : State) L kn nn := by
    refine ⟨?_, q2, q3, q4, q5, q6⟩
    obtain ⟨t, ht, -⟩ := State.frames_cons hr0
    show ({ U with heap := s₂.heap, slotsUsed := s₂.slotsUsed } : State) = { U.setFrames U.frames with heap := s₂.heap, slotsUsed := s₂.slotsUsed }
    rw [State.setFrames_self ht]
  have XV : Stand p l e R s m args below meth c (({ U with heap := s₂.heap, slotsUsed := s₂.slotsUsed } : State).setVm s₂.vm) (locs ++ L) (cells + kn) (slots + nn) :=
    ⟨X₁.admits, X₁.cas, X₁.clock, X₁.frames, X₁.room, X₁.hears, X₁.method, X₁.code, (X₁.here.setHeapUsed s₂.heap s₂.slotsUsed).setVm hW'.alike, X₁.tail, State.WarmedH.trans X₁.warmed hW', X₁.limits, X₁.bytes, X₁.same.trans (hsame.setVm s.vm)⟩
  have hLs : ∀ q ∈ locs ++ L, kx_A s0 s q.base := by
    intro q hq
    rcases List.mem_append.mp hq with h1 | h1
    · exact hS.2.2 q h1
    · have h2 := l1 q h1
      exact kx_A_of X₁ h2.1 (fun cell hcell => h2.2 cell hcell)
  have hSV : va_S (kx_A s0 s) s.heap s₂.heap (locs ++ L) := kx_S_of XV hLs
  have hIx : ∀ a t, hp_T h a = some t → ι' a = ι a := fun a t ha => i1 a ((hP.1 a t ha).1)
  have hI' : ∀ a, a < hp_X h0 → ι' a = ι0 a := fun a ha => (i1 a (Nat.lt_of_lt_of_le ha hE.1)).trans (hI a ha)
  have hE' : kx_le h0 h' := ⟨Nat.le_trans hE.1 e1.1, fun a t ha => e1.2.1 a t (hE.2.1 a t ha), e1.2.2⟩
  cases o with
  | returned v0 =>
    cases r' with
    | inr e' => obtain ⟨x, cell, z, -⟩ := o1; cases z
    | inl v =>
      obtain ⟨hv0, hok⟩ := o1
      have hv0 : v0 = v.map (kx_cv ι') := Outcome.returned.inj hv0
      subst hv0
      obtain ⟨c₂, i₂, len₂, hc₂, hd₂, hf₂⟩ := hend
      have hcc2 : c₂ = c := by
        have z : s₂.code? m = U.code? m := by rw [State.code?_eq, State.code?_eq, hW'.alike.method?]
        exact Option.some.inj (hc₂.symm.trans (z.trans hat.code))
      subst hcc2
      have hlen : len₂ = 3 := by rw [hdg'] at hd₂; cases hd₂; rfl
      subst hlen
      have hs₂ : s₂ = (({ U with heap := s₂.heap, slotsUsed := s₂.slotsUsed } : State).setVm s₂.vm).setTop (F0 m (pc + 3) ls ((v.map (kx_cv ι')).toList ++ rest)) := by
        have hr' : (({ U with heap := s₂.heap, slotsUsed := s₂.slotsUsed } : State).setVm s₂.vm).frames = .java g₀ :: r0 := hr0
        refine e3.trans ?_
        rw [hf₂, State.calling_eq hat.top, State.setFrames_setFrames, State.setTop_of_frames _ hr', hr0]
        rfl
      obtain ⟨t, a1, b1⟩ := kret v ι' s₂.heap (locs ++ L) (cells + kn) (slots + nn) rfl p1 (kx_PA XV p1) hSV (by omega) (by omega) hIx hI' e1 hE' hok (({ U with heap := s₂.heap, slotsUsed := s₂.slotsUsed } : State).setVm s₂.vm) rfl XV
      exact ⟨t, hgo _ (fun acts => by rw [doInvoke_state]; exact hsteps.trans (by rw [hs₂]; exact a1)), b1⟩
  | threw x =>
    cases r' with
    | inl v => obtain ⟨z, -⟩ := o1; cases z
    | inr e' =>
      obtain ⟨rfl, rfl⟩ := kthr e' rfl
      have hf₂ : s₂.frames = .throwing x :: .java (F0 m pc ls rest) :: U.frames.tail := hend
      have hs₂ : s₂ = ((({ U with heap := s₂.heap, slotsUsed := s₂.slotsUsed } : State).setVm s₂.vm).setTop (F0 m pc ls rest)).pushFrame (.throwing x) := by
        have hr' : (({ U with heap := s₂.heap, slotsUsed := s₂.slotsUsed } : State).setVm s₂.vm).frames = .java g₀ :: r0 := hr0
        refine e3.trans ?_
        rw [hf₂, State.calling_eq hat.top, State.setFrames_setFrames, State.pushFrame, State.frames_setTop _ hr', State.setTop_of_frames _ hr', State.setFrames_setFrames, hr0]
        rfl
      obtain ⟨z1, z2, z3, z4, z5⟩ := XV.leaveThrown x (g := F0 m pc ls rest) rfl rfl rfl hout hlocks
      refine ⟨_, hgo _ (fun acts => by rw [doInvoke_state]; exact hsteps.trans (by rw [hs₂]; exact z1)), .threw x, z2, z3, ι', locs ++ L, cells + kn, slots + nn, hI', p1, o1, z4, z5, hLs, fun q hq => hSV.2.1 q (Nat.lt_of_lt_of_le hq hB.2.2.2.1) (fun z => absurd z.1 (by omega)), by omega, by omega, hE'⟩
end KE
end
section
section KC
variable {p : Program} {l : Launch} {e : Env} {R : Room} {s : State} {m : MethodId} {args : Array Value} {below : List Frame} {meth : Method} {c : Code} {H : Heap} {locs : List Loc} {cells slots : Nat} {Q : State → Prop}
variable {s0 : State} {D : va_G} {cA : Nat → ClassId} {cc : ByteArray} {own : String} {nL : Nat} {ι ι0 : Nat → Nat} {h h0 hf : kx_H} {rr : kx_R} {pc : Nat} {k : kx_F} {ls : Array Slot} {rest : List Value} {a t i : Nat} {r : vw_C}
theorem kx_enV {T : State} (X : Stand p l e R s m args below meth c T locs cells slots) (hexec : p.tables.exec = Jvm.exec) (hb : c.code = cc) {C : String} {y : MethodName} {bytes : ByteArray} {maxL : Nat} {ret : Option FieldType}
    (hown : s.vm.findClass own = some m.cls) (hlink : (Cond.methodLink own i y).before args s = true) (hinst : (Cond.instanceMethod y).before args s = true) (hsel : (Cond.selects C y y).before args s = true)
    (hcode : (Cond.code y bytes maxL ret).before args s = true) (hy : y.cls ≠ "java/lang/invoke/MethodHandle" ∧ y.cls ≠ "java/lang/invoke/VarHandle")
    {b : Addr} {cellB : Cell} (hcell : T.heap[b]? = some cellB) (hobj : cellB.vm.isStatics = false) (hcls : s.vm.findClass C = some cellB.cls)
    {argsL : List Value} (hlen : (parseMethodDescriptor y.desc).map (fun d => d.parameters.length) = some argsL.length) (hdg : decode cc pc = .ok (.invokevirtual i, 3)) :
    ∃ (vm₁ : Vm) (mk : MethodId), s.WarmedH vm₁ ∧ Stand p l e R s m args below meth c (T.setVm vm₁) locs cells slots ∧ (T.setVm vm₁).methodNamed? y = some mk ∧
      ∀ target, (∀ acts, Steps p.tables e below (doInvoke e ((T.setVm vm₁).setTop (F0 m pc ls rest)) acts mk (Value.ref b :: argsL).toArray).1 target) → Steps p.tables e below (T.setTop (F0 m pc ls (argsL.reverse ++ .ref b :: rest))) target := by
  subst hb
  obtain ⟨mk, methM, hnamed, hmethM, hstM, habM⟩ := Cond.instanceMethod_spec hinst
  obtain ⟨methM', cM, hmethM', -, -, -, -, -, -, hsigM⟩ := Cond.code_spec hnamed hcode
  cases hmethM.symm.trans hmethM'
  obtain ⟨c2, r2, m2, q1, q2, q3, q4, kP, hkP, hkPi⟩ := Cond.selects_spec hsel
  cases hcls.symm.trans q1
  cases (State.methodFound?_of_named hnamed hy).symm.trans q2
  cases hnamed.symm.trans q3
  have hselP : selectMethod e.platform s.vm cellB.cls mk = .method mk := by rw [Launch.admits_selectMethod X.admits]; exact q4
  have hlen' : argsL.length = methM.sig.parameters.length := by rw [hsigM] at hlen; exact (Option.some.inj hlen).symm
  obtain ⟨vm₁, X₁, hstep₁⟩ := X.invokevirtual hexec hown hlink hnamed hmethM hstM hkP hkPi hy (a := b) (cell := cellB) hcell
    (fun z h => by rw [h] at hobj; cases hobj) hselP hmethM habM hkP hkPi (g := F0 m pc ls (argsL.reverse ++ .ref b :: rest)) rfl (argsL := argsL) (rest := rest) hlen' rfl hdg
  exact ⟨vm₁, mk, X₁.warmed, X₁, X₁.named hnamed, fun target h => hstep₁ _ fun acts => h acts⟩
theorem kx_enS {T : State} (X : Stand p l e R s m args below meth c T locs cells slots) (hexec : p.tables.exec = Jvm.exec) (hb : c.code = cc) {y : MethodName} {bytes : ByteArray} {maxL : Nat} {ret : Option FieldType}
    (hown : s.vm.findClass own = some m.cls) (hlink : (Cond.methodLink own i y).before args s = true) (hstat : (Cond.static y).before args s = true) (hinit : (Cond.initialized y.cls).before args s = true)
    (hcode : (Cond.code y bytes maxL ret).before args s = true) (hy : y.cls ≠ "java/lang/invoke/MethodHandle" ∧ y.cls ≠ "java/lang/invoke/VarHandle")
    {argsL : List Value} (hlen : (parseMethodDescriptor y.desc).map (fun d => d.parameters.length) = some argsL.length) (hdg : decode cc pc = .ok (.invokestatic i, 3)) :
    ∃ (vm₁ : Vm) (mk : MethodId), s.WarmedH vm₁ ∧ Stand p l e R s m args below meth c (T.setVm vm₁) locs cells slots ∧ (T.setVm vm₁).methodNamed? y = some mk ∧
      ∀ target, (∀ acts, Steps p.tables e below (doInvoke e ((T.setVm vm₁).setTop (F0 m pc ls rest)) acts mk argsL.toArray).1 target) → Steps p.tables e below (T.setTop (F0 m pc ls (argsL.reverse ++ rest))) target := by
  subst hb
  obtain ⟨mk, hnamed⟩ := Cond.code_named hcode
  obtain ⟨methM, cM, hmethM, -, -, -, -, -, -, hsigM⟩ := Cond.code_spec hnamed hcode
  have hstatic : methM.isStatic = true := Cond.static_spec hnamed hmethM hstat
  obtain ⟨kP, hkP, -⟩ := className_of_methodNamed hnamed
  have hinitP : kP.init = .initialized := Cond.initialized_spec (findClass_of_methodNamed hnamed) hkP hinit
  have hlen' : argsL.length = methM.sig.parameters.length := by rw [hsigM] at hlen; exact (Option.some.inj hlen).symm
  obtain ⟨vm₁, X₁, hstep₁⟩ := X.invokestatic hexec hown hlink hnamed hmethM hstatic hkP hinitP hy (g := F0 m pc ls (argsL.reverse ++ rest)) rfl (argsL := argsL) (rest := rest) hlen' rfl hdg
  exact ⟨vm₁, mk, X₁.warmed, X₁, X₁.named hnamed, fun target h => hstep₁ _ fun acts => h acts⟩
theorem kx_enI {T : State} (X : Stand p l e R s m args below meth c T locs cells slots) (hexec : p.tables.exec = Jvm.exec) (hb : c.code = cc) {y : MethodName} {bytes : ByteArray} {maxL : Nat}
    (hown : s.vm.findClass own = some m.cls) (hy1 : y.name = "<init>") (hlink : (Cond.methodLink own i y).before args s = true) (hinst : (Cond.instanceMethod y).before args s = true)
    (hcode : (Cond.code y bytes maxL none).before args s = true) (hy : y.cls ≠ "java/lang/invoke/MethodHandle" ∧ y.cls ≠ "java/lang/invoke/VarHandle")
    {b : Addr} {argsL : List Value} (hlen : (parseMethodDescriptor y.desc).map (fun d => d.parameters.length) = some argsL.length) (hdg : decode cc pc = .ok (.invokespecial i, 3)) :
    ∃ (vm₁ : Vm) (mk : MethodId), s.WarmedH vm₁ ∧ Stand p l e R s m args below meth c (T.setVm vm₁) locs cells slots ∧ (T.setVm vm₁).methodNamed? y = some mk ∧
      ∀ target, (∀ acts, Steps p.tables e below (doInvoke e ((T.setVm vm₁).setTop (F0 m pc ls rest)) acts mk (Value.ref b :: argsL).toArray).1 target) → Steps p.tables e below (T.setTop (F0 m pc ls (argsL.reverse ++ .ref b :: rest))) target := by
  subst hb
  have hpl : e.platform.magicAccessors = ({} : Platform).magicAccessors := by rw [X.admits.platform]
  have hlen' : ∀ sig, parseMethodDescriptor y.desc = some sig → argsL.length = sig.parameters.length := fun sig h => by rw [h] at hlen; exact (Option.some.inj hlen).symm
  obtain ⟨mk, methM, cM, kP, vm₁, hnamed, hmethM, hcodeM, -, hlocalsM, -, hkP, -, hW₁, hstep₁⟩ := Steps.initColdArgs (e := e) X.here hexec X.warmed hpl hown hy1 hy hlink hinst hcode (f := F0 m pc ls (argsL.reverse ++ .ref b :: rest)) rfl hlen' rfl hdg
  have X₁ := X.noted hW₁
  exact ⟨vm₁, mk, X₁.warmed, X₁, X₁.named hnamed, fun target h => hstep₁ _ fun acts => h acts⟩
theorem kx_enVN {T : State} (X : Stand p l e R s m args below meth c T locs cells slots) (hexec : p.tables.exec = Jvm.exec) (hb : c.code = cc) {C : String} {host : String} {y : MethodName} {bytes : ByteArray} {maxL : Nat} {ret : Option FieldType}
    (hown : s.vm.findClass own = some m.cls) (hlink : (Cond.methodLinkNest own i y host).before args s = true) (hinst : (Cond.instanceMethod y).before args s = true) (hsel : (Cond.selects C y y).before args s = true)
    (hcode : (Cond.code y bytes maxL ret).before args s = true) (hy : y.cls ≠ "java/lang/invoke/MethodHandle" ∧ y.cls ≠ "java/lang/invoke/VarHandle")
    {b : Addr} {cellB : Cell} (hcell : T.heap[b]? = some cellB) (hobj : cellB.vm.isStatics = false) (hcls : s.vm.findClass C = some cellB.cls)
    {argsL : List Value} (hlen : (parseMethodDescriptor y.desc).map (fun d => d.parameters.length) = some argsL.length) (hdg : decode cc pc = .ok (.invokevirtual i, 3)) :
    ∃ (vm₁ : Vm) (mk : MethodId), s.WarmedH vm₁ ∧ Stand p l e R s m args below meth c (T.setVm vm₁) locs cells slots ∧ (T.setVm vm₁).methodNamed? y = some mk ∧
      ∀ target, (∀ acts, Steps p.tables e below (doInvoke e ((T.setVm vm₁).setTop (F0 m pc ls rest)) acts mk (Value.ref b :: argsL).toArray).1 target) → Steps p.tables e below (T.setTop (F0 m pc ls (argsL.reverse ++ .ref b :: rest))) target := by
  subst hb
  obtain ⟨mk, methM, hnamed, hmethM, hstM, habM⟩ := Cond.instanceMethod_spec hinst
  obtain ⟨methM', cM, hmethM', -, -, -, -, -, -, hsigM⟩ := Cond.code_spec hnamed hcode
  cases hmethM.symm.trans hmethM'
  obtain ⟨c2, r2, m2, q1, q2, q3, q4, kP, hkP, hkPi⟩ := Cond.selects_spec hsel
  cases hcls.symm.trans q1
  cases (State.methodFound?_of_named hnamed hy).symm.trans q2
  cases hnamed.symm.trans q3
  have hselP : selectMethod e.platform s.vm cellB.cls mk = .method mk := by rw [Launch.admits_selectMethod X.admits]; exact q4
  have hlen' : argsL.length = methM.sig.parameters.length := by rw [hsigM] at hlen; exact (Option.some.inj hlen).symm
  obtain ⟨vm₁, X₁, hstep₁⟩ := X.invokevirtualNest hexec hown hlink hnamed hmethM hstM hkP hkPi hy (a := b) (cell := cellB) hcell
    (fun z h => by rw [h] at hobj; cases hobj) hselP hmethM habM hkP hkPi (g := F0 m pc ls (argsL.reverse ++ .ref b :: rest)) rfl (argsL := argsL) (rest := rest) hlen' rfl hdg
  exact ⟨vm₁, mk, X₁.warmed, X₁, X₁.named hnamed, fun target h => hstep₁ _ fun acts => h acts⟩
theorem kx_enSN {T : State} (X : Stand p l e R s m args below meth c T locs cells slots) (hexec : p.tables.exec = Jvm.exec) (hb : c.code = cc) {host : String} {y : MethodName} {bytes : ByteArray} {maxL : Nat} {ret : Option FieldType}
    (hown : s.vm.findClass own = some m.cls) (hlink : (Cond.methodLinkNest own i y host).before args s = true) (hstat : (Cond.static y).before args s = true) (hinit : (Cond.initialized y.cls).before args s = true)
    (hcode : (Cond.code y bytes maxL ret).before args s = true) (hy : y.cls ≠ "java/lang/invoke/MethodHandle" ∧ y.cls ≠ "java/lang/invoke/VarHandle")
    {argsL : List Value} (hlen : (parseMethodDescriptor y.desc).map (fun d => d.parameters.length) = some argsL.length) (hdg : decode cc pc = .ok (.invokestatic i, 3)) :
    ∃ (vm₁ : Vm) (mk : MethodId), s.WarmedH vm₁ ∧ Stand p l e R s m args below meth c (T.setVm vm₁) locs cells slots ∧ (T.setVm vm₁).methodNamed? y = some mk ∧
      ∀ target, (∀ acts, Steps p.tables e below (doInvoke e ((T.setVm vm₁).setTop (F0 m pc ls rest)) acts mk argsL.toArray).1 target) → Steps p.tables e below (T.setTop (F0 m pc ls (argsL.reverse ++ rest))) target := by
  subst hb
  obtain ⟨mk, hnamed⟩ := Cond.code_named hcode
  obtain ⟨methM, cM, hmethM, -, -, -, -, -, -, hsigM⟩ := Cond.code_spec hnamed hcode
  have hstatic : methM.isStatic = true := Cond.static_spec hnamed hmethM hstat
  obtain ⟨kP, hkP, -⟩ := className_of_methodNamed hnamed
  have hinitP : kP.init = .initialized := Cond.initialized_spec (findClass_of_methodNamed hnamed) hkP hinit
  have hlen' : argsL.length = methM.sig.parameters.length := by rw [hsigM] at hlen; exact (Option.some.inj hlen).symm
  obtain ⟨vm₁, X₁, hstep₁⟩ := X.invokestaticNest hexec hown hlink hnamed hmethM hstatic hkP hinitP hy (g := F0 m pc ls (argsL.reverse ++ rest)) rfl (argsL := argsL) (rest := rest) hlen' rfl hdg
  exact ⟨vm₁, mk, X₁.warmed, X₁, X₁.named hnamed, fun target h => hstep₁ _ fun acts => h acts⟩
theorem kx_enIN {T : State} (X : Stand p l e R s m args below meth c T locs cells slots) (hexec : p.tables.exec = Jvm.exec) (hb : c.code = cc) {host : String} {y : MethodName} {bytes : ByteArray} {maxL : Nat}
    (hown : s.vm.findClass own = some m.cls) (hy1 : y.name = "<init>") (hlink : (Cond.methodLinkNest own i y host).before args s = true) (hinst : (Cond.instanceMethod y).before args s = true)
    (hcode : (Cond.code y bytes maxL none).before args s = true) (hy : y.cls ≠ "java/lang/invoke/MethodHandle" ∧ y.cls ≠ "java/lang/invoke/VarHandle")
    {b : Addr} {argsL : List Value} (hlen : (parseMethodDescriptor y.desc).map (fun d => d.parameters.length) = some argsL.length) (hdg : decode cc pc = .ok (.invokespecial i, 3)) :
    ∃ (vm₁ : Vm) (mk : MethodId), s.WarmedH vm₁ ∧ Stand p l e R s m args below meth c (T.setVm vm₁) locs cells slots ∧ (T.setVm vm₁).methodNamed? y = some mk ∧
      ∀ target, (∀ acts, Steps p.tables e below (doInvoke e ((T.setVm vm₁).setTop (F0 m pc ls rest)) acts mk (Value.ref b :: argsL).toArray).1 target) → Steps p.tables e below (T.setTop (F0 m pc ls (argsL.reverse ++ .ref b :: rest))) target := by
  subst hb
  have hpl : e.platform.magicAccessors = ({} : Platform).magicAccessors := by rw [X.admits.platform]
  have hlen' : ∀ sig, parseMethodDescriptor y.desc = some sig → argsL.length = sig.parameters.length := fun sig h => by rw [h] at hlen; exact (Option.some.inj hlen).symm
  obtain ⟨mk, methM, cM, kP, vm₁, hnamed, hmethM, hcodeM, -, hlocalsM, -, hkP, -, hW₁, hstep₁⟩ := Steps.initColdArgsNest (e := e) X.here hexec X.warmed hpl hown hy1 hy hlink hinst hcode (f := F0 m pc ls (argsL.reverse ++ .ref b :: rest)) rfl hlen' rfl hdg
  have X₁ := X.noted hW₁
  exact ⟨vm₁, mk, X₁.warmed, X₁, X₁.named hnamed, fun target h => hstep₁ _ fun acts => h acts⟩
/-- the methods that are called -/
def kx_cs9 (l : Launch) (s0 : State) (D : va_G) (cA : Nat → ClassId) (C : kx_C) (d : Nat) : Prop := ∀ (n : Nat) (As : List kx_V) (h : kx_H) (r' : kx_R) (h' : kx_H), C n As h = some (r', h') → kx_fits (kx_pm n) As = true → hp_C h ≤ kx_cc → hp_U h ≤ kx_cs →
  ∀ (rm : Room) (ι : Nat → Nat), kx_need d rm → kx_cc ≤ rm.cells + hp_C h → kx_cs ≤ rm.slots + hp_U h → kx_Mt l s0 D cA (kx_mn n) rm ι As h r' h'
/-- a call site: what holds of the callee -/
def kx_cal (n : Nat) (bytes : ByteArray) (maxL : Nat) (ret : Option FieldType) (w : Nat) : Prop := Cond.code (kx_mn n) bytes maxL ret ∈ kx_WS ∧ Cond.initialized (kx_mn n).cls ∈ kx_WS ∧ maxL ≤ 13 ∧ ((kx_mn n).cls ≠ "java/lang/invoke/MethodHandle" ∧ (kx_mn n).cls ≠ "java/lang/invoke/VarHandle") ∧ (parseMethodDescriptor (kx_mn n).desc).map (fun d => d.parameters.length) = some w
theorem kx_fits_len {ps : List Nat} {vs : List kx_V} (h : kx_fits ps vs = true) : vs.length = ps.length := by
  induction ps generalizing vs with
  | nil => cases vs with
    | nil => rfl
    | cons v vs => cases h
  | cons p ps ih => cases vs with
    | nil => cases h
    | cons v vs =>
      unfold kx_fits at h
      rw [Bool.and_eq_true] at h
      rw [List.length_cons, List.length_cons, ih h.2]
theorem kx_core (G : kx_G p e R s m args meth c s0 D cA cc own nL h0) (hg : ∀ w ∈ kx_WS, kx_kp w) {C : kx_C} {d n : Nat} (hCS : kx_cs9 l s0 D cA C d) (hR : kx_need (d + 1) R) (hout : ∀ x ∈ c.exceptionTable.toList, covers x pc = false) {bytes : ByteArray} {maxL w : Nat} {ret : Option FieldType} (hcal : kx_cal n bytes maxL ret w) {As r9 : List kx_V} (hfit : kx_fits (kx_pm n) As = true) (hr9 : r9.length ≤ 4) {lv : kx_L} {h : kx_H} {q : kx_R × kx_H} (hq : C n As h = some q) {st0 : List Value} {ig : Instr} (hdg : decode cc pc = .ok (ig, 3))
    {ι : Nat → Nat} {H : Heap} (hP : kx_P s0 D cA ι h H) (hl : lv_has ls nL (kx_lc ι lv)) (hs1 : ∀ v ∈ As, kx_ok h v) (hs2 : ∀ v ∈ r9, kx_ok h v) (hv : ∀ q ∈ lv, kx_ok h q.2) (hS : va_S (kx_A s0 s) s.heap H locs) (hC : hp_C h0 + cells = hp_C h) (hU : hp_U h0 + slots = hp_U h) (hI : ∀ a, a < hp_X h0 → ι a = ι0 a) (hE : kx_le h0 h)
    (enter : ∀ T : State, T.heap = H → Stand p l e R s m args below meth c T locs cells slots → ∃ (vm₁ : Vm) (mk : MethodId), s.WarmedH vm₁ ∧ Stand p l e R s m args below meth c (T.setVm vm₁) locs cells slots ∧ (T.setVm vm₁).methodNamed? (kx_mn n) = some mk ∧
      ∀ target, (∀ acts, Steps p.tables e below (doInvoke e ((T.setVm vm₁).setTop (F0 m pc ls (r9.map (kx_cv ι)))) acts mk (As.map (kx_cv ι)).toArray).1 target) → Steps p.tables e below (T.setTop (F0 m pc ls st0)) target)
    (hk : kx_Sn p l e R s m args below meth c s0 D cA nL ι0 h0 rr hf (pc + 3) k) (hret : ∀ v, q.1 = .inl v → k lv (v.toList ++ r9) q.2 = some (rr, hf)) (hthr : ∀ e', q.1 = .inr e' → rr = .inr e' ∧ hf = q.2) :
    W p l e R s m args below meth c H locs cells slots (kx_Q s0 D cA below s ι0 h0 rr hf) (F0 m pc ls st0) := by
  obtain ⟨r', h'⟩ := q
  refine kx_wcall G hg hcal.1 hcal.2.1 hcal.2.2.1 (fun rm hn h1 h2 => hCS n As h r' h' hq hfit hE.2.2.1 hE.2.2.2 rm ι hn h1 h2) hR (by have := G.2.2.2.2.2.2.2.1; have := hE.2.2.1; omega) (by have := G.2.2.2.2.2.2.2.2; have := hE.2.2.2; omega) hP hS hC hU hI hE hs1 (by have := kx_w2 ι r9; omega) hl.1 hdg enter (fun v ι' H' locs' cells' slots' e1 p1 a1 s1 c1 u1 x1 i1 l1 l2 ok1 => ?_) (fun e' he => hthr e' he) hout
  have up : ∀ v9, kx_ok h v9 → kx_ok h' v9 := fun v9 ho => by
    rcases v9 with x | x | ⟨t9, o9⟩
    · trivial
    · trivial
    · exact fun a ha => l1.2.1 a t9 (ho a ha)
  have h3 := hk lv (v.toList ++ r9) h' (hret v e1) ι' H' locs' cells' slots' ls p1 a1 (by rw [kx_lc_ext hv x1]; exact hl) (fun w hw => by
    rcases List.mem_append.mp hw with z | z
    · exact ok1 w (by cases v with
        | none => cases z
        | some y => rw [List.mem_singleton.mp z])
    · exact up w (hs2 w z)) (fun q hq => up _ (hv q hq)) s1 c1 u1 i1 l2
  rw [List.map_append, kx_st_ext hs2 x1] at h3
  have e4 : (v.map (kx_cv ι')).toList = v.toList.map (kx_cv ι') := by cases v <;> rfl
  rw [e4]
  exact h3
theorem kx_and {a b : Bool} (h : (a && b) = true) : a = true ∧ b = true := by
  cases a <;> cases b <;> first | exact ⟨rfl, rfl⟩ | cases h
theorem kx_ao_spec {t : Nat} {ps : List Nat} {st : List kx_V} {K : List kx_V → List kx_V → kx_O} {z : kx_R × kx_H} (hz : kx_ao t ps st K = some z) :
    ∃ (a : Nat) (r : List kx_V), st = st.take ps.length ++ .inr (.inr (t, some a)) :: r ∧ kx_fits ps (st.take ps.length).reverse = true ∧ r.length ≤ 4 ∧ K (.inr (.inr (t, some a)) :: (st.take ps.length).reverse) r = some z := by
  unfold kx_ao at hz
  cases h1 : kx_fits ps (st.take ps.length).reverse with
  | false => rw [h1] at hz; cases hz
  | true =>
    rw [h1] at hz
    simp only [cond_true] at hz
    split at hz
    · rename_i x r hd
      obtain ⟨t9, o9⟩ := x
      cases h2 : (Nat.beq t9 t && Nat.ble r.length 4) with
      | false => rw [h2] at hz; cases hz
      | true =>
        rw [h2] at hz
        obtain ⟨h3, h4⟩ := kx_and h2
        have e9 : t9 = t := Nat.eq_of_beq_eq_true h3
        subst e9
        cases o9 with
        | none => cases hz
        | some a => exact ⟨a, r, by rw [← hd, List.take_append_drop], rfl, Nat.le_of_ble_eq_true h4, hz⟩
    · cases hz
theorem kx_as_spec {ps : List Nat} {st : List kx_V} {K : List kx_V → List kx_V → kx_O} {z : kx_R × kx_H} (hz : kx_as ps st K = some z) :
    kx_fits ps (st.take ps.length).reverse = true ∧ (st.drop ps.length).length ≤ 4 ∧ K (st.take ps.length).reverse (st.drop ps.length) = some z := by
  unfold kx_as at hz
  cases h2 : (kx_fits ps (st.take ps.length).reverse && Nat.ble (st.drop ps.length).length 4) with
  | false => rw [h2] at hz; cases hz
  | true =>
    rw [h2] at hz
    obtain ⟨h3, h4⟩ := kx_and h2
    exact ⟨h3, Nat.le_of_ble_eq_true h4, hz⟩
theorem kx_bv_spec {o : kx_O} {K : kx_H → kx_O} {z : kx_R × kx_H} (hz : kx_bv o K = some z) : ∃ q, o = some q ∧ (∀ v, q.1 = .inl v → v = none ∧ K q.2 = some z) ∧ ∀ e', q.1 = .inr e' → z = (.inr e', q.2) := by
  cases o with
  | none => cases hz
  | some q =>
    obtain ⟨r', h'⟩ := q
    refine ⟨_, rfl, ?_⟩
    rcases r' with v | e'
    · cases v with
      | none => exact ⟨fun v hv => by cases hv; exact ⟨rfl, hz⟩, fun e' he => by cases he⟩
      | some v => cases hz
    · cases hz
      exact ⟨fun v hv => (by cases hv), fun e9 he => (by cases he; rfl)⟩
theorem kx_bi_spec {o : kx_O} {K : Int32 → kx_H → kx_O} {z : kx_R × kx_H} (hz : kx_bi o K = some z) : ∃ q, o = some q ∧ (∀ v, q.1 = .inl v → ∃ x, v = some (.inl x) ∧ K x q.2 = some z) ∧ ∀ e', q.1 = .inr e' → z = (.inr e', q.2) := by
  cases o with
  | none => cases hz
  | some q =>
    obtain ⟨r', h'⟩ := q
    refine ⟨_, rfl, ?_⟩
    rcases r' with v | e'
    · rcases v with _ | (v | v | v)
      · cases hz
      · exact ⟨fun v9 hv => by cases hv; exact ⟨v, rfl, hz⟩, fun e' he => by cases he⟩
      · cases hz
      · cases hz
    · cases hz
      exact ⟨fun v hv => (by cases hv), fun e9 he => (by cases he; rfl)⟩
theorem kx_bl_spec {o : kx_O} {K : Int64 → kx_H → kx_O} {z : kx_R × kx_H} (hz : kx_bl o K = some z) : ∃ q, o = some q ∧ (∀ v, q.1 = .inl v → ∃ x, v = some (.inr (.inl x)) ∧ K x q.2 = some z) ∧ ∀ e', q.1 = .inr e' → z = (.inr e', q.2) := by
  cases o with
  | none => cases hz
  | some q =>
    obtain ⟨r', h'⟩ := q
    refine ⟨_, rfl, ?_⟩
    rcases r' with v | e'
    · rcases v with _ | (v | v | v)
      · cases hz
      · cases hz
      · exact ⟨fun v9 hv => by cases hv; exact ⟨v, rfl, hz⟩, fun e' he => by cases he⟩
      · cases hz
    · cases hz
      exact ⟨fun v hv => (by cases hv), fun e9 he => (by cases he; rfl)⟩
theorem kx_br_spec {c9 : Nat} {o : kx_O} {K : Option Nat → kx_H → kx_O} {z : kx_R × kx_H} (hz : kx_br c9 o K = some z) : ∃ q, o = some q ∧ (∀ v, q.1 = .inl v → ∃ x, v = some (.inr (.inr (c9, x))) ∧ K x q.2 = some z) ∧ ∀ e', q.1 = .inr e' → z = (.inr e', q.2) := by
  cases o with
  | none => cases hz
  | some q =>
    obtain ⟨r', h'⟩ := q
    refine ⟨_, rfl, ?_⟩
    rcases r' with v | e'
    · rcases v with _ | (v | v | v)
      · cases hz
      · cases hz
      · cases hz
      · obtain ⟨t8, o8⟩ := v
        cases h8 : Nat.beq t8 c9 with
        | false => simp [kx_br, h8] at hz
        | true =>
          have e8 : t8 = c9 := Nat.eq_of_beq_eq_true h8
          subst e8
          have hz2 : K o8 h' = some z := by simpa [kx_br, h8] using hz
          exact ⟨fun v9 hv => by cases hv; exact ⟨o8, rfl, hz2⟩, fun e' he => by cases he⟩
    · cases hz
      exact ⟨fun v hv => (by cases hv), fun e9 he => (by cases he; rfl)⟩
theorem kx_fits2 {t : Nat} {ps : List Nat} {a : Nat} {vs : List kx_V} (h : kx_fits ps vs = true) : kx_fits ((t + 2) :: ps) (.inr (.inr (t, some a)) :: vs) = true := by
  show (kx_fit (t + 2) (.inr (.inr (t, some a))) && kx_fits ps vs) = true
  rw [h]
  show (Nat.beq (t + 2) (t + 2) && true) = true
  rw [Nat.beq_refl]
  rfl
theorem kx_s_Vv (G : kx_G p e R s m args meth c s0 D cA cc own nL h0) (hg : ∀ w ∈ kx_WS, kx_kp w) {C : kx_C} {d n : Nat} (hCS : kx_cs9 l s0 D cA C d) (hR : kx_need (d + 1) R) (hout : ∀ x ∈ c.exceptionTable.toList, covers x pc = false) {bytes : ByteArray} {maxL : Nat} {ret : Option FieldType} {ps : List Nat} (hcal : kx_cal n bytes maxL ret ps.length) (hpm : kx_pm n = (t + 2) :: ps) (h1 : Cond.methodLink own i (kx_mn n) ∈ kx_WS) (h2 : Cond.instanceMethod (kx_mn n) ∈ kx_WS) (h3 : Cond.selects r.1 (kx_mn n) (kx_mn n) ∈ kx_WS) (hc : kx_cl[t]? = some r) (h98 : t < 98) (hd : decode cc pc = .ok (.invokevirtual i, 3)) (hk : kx_Sn p l e R s m args below meth c s0 D cA nL ι0 h0 rr hf (pc + 3) k) : kx_Sn p l e R s m args below meth c s0 D cA nL ι0 h0 rr hf pc (kx_Vv C n t ps k) := by
  intro lv st h hF
  unfold kx_Vv at hF
  obtain ⟨a, r9, hst, hfit, hr9, hF⟩ := kx_ao_spec hF
  obtain ⟨q, hq, hret, hthr⟩ := kx_bv_spec hF
  intro ι H locs cells slots ls hP hA hl hs hv hS hC hU hI hE
  have hts := G.2.2.2.2.2.1
  have hs' := hs
  rw [hst] at hs'
  have hta : hp_T h a = some t := hs' (.inr (.inr (t, some a))) (List.mem_append_right _ List.mem_cons_self) a rfl
  have hlen : (st.take ps.length).reverse.length = ps.length := kx_fits_len hfit
  have hmap : st.map (kx_cv ι) = ((st.take ps.length).reverse.map (kx_cv ι)).reverse ++ .ref (ι a) :: r9.map (kx_cv ι) := by
    conv => lhs; rw [hst]
    rw [List.map_append, List.map_cons, List.map_reverse, List.reverse_reverse]
    rfl
  rw [hmap]
  refine kx_core G hg hCS hR hout hcal (As := .inr (.inr (t, some a)) :: (st.take ps.length).reverse) (r9 := r9) (by rw [hpm]; exact kx_fits2 hfit) hr9 hq hd hP hl (fun v hv9 => ?_) (fun v hv9 => hs' v (List.mem_append_right _ (List.mem_cons_of_mem _ hv9))) hv hS hC hU hI hE (fun T hT X => by
      obtain ⟨-, r', hr', cellB, b1, b2, b3, -⟩ := (hP.1 a t hta).2.2.1 h98
      cases hc.symm.trans hr'
      have hK := (G.2.2.2.2.2.2.1.2.1.1 t r hc).2
      exact kx_enV X G.1 G.2.1 (C := r.1) G.2.2.1 (hts _ h1) (hts _ h2) (hts _ h3) (hts _ hcal.1) hcal.2.2.2.1 (by rw [hT]; exact b1) (by rw [b3]; rfl) (by rw [b2]; exact hK.1) (argsL := (st.take ps.length).reverse.map (kx_cv ι)) (by rw [List.length_map, hlen]; exact hcal.2.2.2.2) hd) hk (fun v hv => by obtain ⟨rfl, z⟩ := hret v hv; exact z) (fun e' he => by have z := hthr e' he; cases z; exact ⟨rfl, rfl⟩)
  rcases List.mem_cons.mp hv9 with rfl | hv9
  · exact fun b hb => by cases hb; exact hta
  · exact hs v (List.mem_of_mem_take (List.mem_reverse.mp hv9))
theorem kx_s_VNv (G : kx_G p e R s m args meth c s0 D cA cc own nL h0) (hg : ∀ w ∈ kx_WS, kx_kp w) {C : kx_C} {d n : Nat} (hCS : kx_cs9 l s0 D cA C d) (hR : kx_need (d + 1) R) (hout : ∀ x ∈ c.exceptionTable.toList, covers x pc = false) {bytes : ByteArray} {maxL : Nat} {ret : Option FieldType} {ps : List Nat} (hcal : kx_cal n bytes maxL ret ps.length) (hpm : kx_pm n = (t + 2) :: ps) {host : String} (h1 : Cond.methodLinkNest own i (kx_mn n) host ∈ kx_WS) (h2 : Cond.instanceMethod (kx_mn n) ∈ kx_WS) (h3 : Cond.selects r.1 (kx_mn n) (kx_mn n) ∈ kx_WS) (hc : kx_cl[t]? = some r) (h98 : t < 98) (hd : decode cc pc = .ok (.invokevirtual i, 3)) (hk : kx_Sn p l e R s m args below meth c s0 D cA nL ι0 h0 rr hf (pc + 3) k) : kx_Sn p l e R s m args below meth c s0 D cA nL ι0 h0 rr hf pc (kx_Vv C n t ps k) := by
  intro lv st h hF
  unfold kx_Vv at hF
  obtain ⟨a, r9, hst, hfit, hr9, hF⟩ := kx_ao_spec hF
  obtain ⟨q, hq, hret, hthr⟩ := kx_bv_spec hF
  intro ι H locs cells slots ls hP hA hl hs hv hS hC hU hI hE
  have hts := G.2.2.2.2.2.1
  have hs' := hs
  rw [hst] at hs'
  have hta : hp_T h a = some t := hs' (.inr (.inr (t, some a))) (List.mem_append_right _ List.mem_cons_self) a rfl
  have hlen : (st.take ps.length).reverse.length = ps.length := kx_fits_len hfit
  have hmap : st.map (kx_cv ι) = ((st.take ps.length).reverse.map (kx_cv ι)).reverse ++ .ref (ι a) :: r9.map (kx_cv ι) := by
    conv => lhs; rw [hst]
    rw [List.map_append, List.map_cons, List.map_reverse, List.reverse_reverse]
    rfl
  rw [hmap]
  refine kx_core G hg hCS hR hout hcal (As := .inr (.inr (t, some a)) :: (st.take ps.length).reverse) (r9 := r9) (by rw [hpm]; exact kx_fits2 hfit) hr9 hq hd hP hl (fun v hv9 => ?_) (fun v hv9 => hs' v (List.mem_append_right _ (List.mem_cons_of_mem _ hv9))) hv hS hC hU hI hE (fun T hT X => by
      obtain ⟨-, r', hr', cellB, b1, b2, b3, -⟩ := (hP.1 a t hta).2.2.1 h98
      cases hc.symm.trans hr'
      have hK := (G.2.2.2.2.2.2.1.2.1.1 t r hc).2
      exact kx_enVN X G.1 G.2.1 (C := r.1) G.2.2.1 (hts _ h1) (hts _ h2) (hts _ h3) (hts _ hcal.1) hcal.2.2.2.1 (by rw [hT]; exact b1) (by rw [b3]; rfl) (by rw [b2]; exact hK.1) (argsL := (st.take ps.length).reverse.map (kx_cv ι)) (by rw [List.length_map, hlen]; exact hcal.2.2.2.2) hd) hk (fun v hv => by obtain ⟨rfl, z⟩ := hret v hv; exact z) (fun e' he => by have z := hthr e' he; cases z; exact ⟨rfl, rfl⟩)
  rcases List.mem_cons.mp hv9 with rfl | hv9
  · exact fun b hb => by cases hb; exact hta
  · exact hs v (List.mem_of_mem_take (List.mem_reverse.mp hv9))
theorem kx_s_Iv (G : kx_G p e R s m args meth c s0 D cA cc own nL h0) (hg : ∀ w ∈ kx_WS, kx_kp w) {C : kx_C} {d n : Nat} (hCS : kx_cs9 l s0 D cA C d) (hR : kx_need (d + 1) R) (hout : ∀ x ∈ c.exceptionTable.toList, covers x pc = false) {bytes : ByteArray} {maxL : Nat} {ret : Option FieldType} {ps : List Nat} (hcal : kx_cal n bytes maxL ret ps.length) (hpm : kx_pm n = (t + 2) :: ps) (h1 : Cond.methodLink own i (kx_mn n) ∈ kx_WS) (h2 : Cond.instanceMethod (kx_mn n) ∈ kx_WS) (h3 : (kx_mn n).name = "<init>") (hrn : ret = none) (hd : decode cc pc = .ok (.invokespecial i, 3)) (hk : kx_Sn p l e R s m args below meth c s0 D cA nL ι0 h0 rr hf (pc + 3) k) : kx_Sn p l e R s m args below meth c s0 D cA nL ι0 h0 rr hf pc (kx_Vv C n t ps k) := by
  subst hrn
  intro lv st h hF
  unfold kx_Vv at hF
  obtain ⟨a, r9, hst, hfit, hr9, hF⟩ := kx_ao_spec hF
  obtain ⟨q, hq, hret, hthr⟩ := kx_bv_spec hF
  intro ι H locs cells slots ls hP hA hl hs hv hS hC hU hI hE
  have hts := G.2.2.2.2.2.1
  have hs' := hs
  rw [hst] at hs'
  have hta : hp_T h a = some t := hs' (.inr (.inr (t, some a))) (List.mem_append_right _ List.mem_cons_self) a rfl
  have hlen : (st.take ps.length).reverse.length = ps.length := kx_fits_len hfit
  have hmap : st.map (kx_cv ι) = ((st.take ps.length).reverse.map (kx_cv ι)).reverse ++ .ref (ι a) :: r9.map (kx_cv ι) := by
    conv => lhs; rw [hst]
    rw [List.map_append, List.map_cons, List.map_reverse, List.reverse_reverse]
    rfl
  rw [hmap]
  refine kx_core G hg hCS hR hout hcal (As := .inr (.inr (t, some a)) :: (st.take ps.length).reverse) (r9 := r9) (by rw [hpm]; exact kx_fits2 hfit) hr9 hq hd hP hl (fun v hv9 => ?_) (fun v hv9 => hs' v (List.mem_append_right _ (List.mem_cons_of_mem _ hv9))) hv hS hC hU hI hE (fun T hT X => kx_enI X G.1 G.2.1 G.2.2.1 h3 (hts _ h1) (hts _ h2) (hts _ hcal.1) hcal.2.2.2.1 (argsL := (st.take ps.length).reverse.map (kx_cv ι)) (by rw [List.length_map, hlen]; exact hcal.2.2.2.2) hd) hk (fun v hv => by obtain ⟨rfl, z⟩ := hret v hv; exact z) (fun e' he => by have z := hthr e' he; cases z; exact ⟨rfl, rfl⟩)
  rcases List.mem_cons.mp hv9 with rfl | hv9
  · exact fun b hb => by cases hb; exact hta
  · exact hs v (List.mem_of_mem_take (List.mem_reverse.mp hv9))
theorem kx_s_INv (G : kx_G p e R s m args meth c s0 D cA cc own nL h0) (hg : ∀ w ∈ kx_WS, kx_kp w) {C : kx_C} {d n : Nat} (hCS : kx_cs9 l s0 D cA C d) (hR : kx_need (d + 1) R) (hout : ∀ x ∈ c.exceptionTable.toList, covers x pc = false) {bytes : ByteArray} {maxL : Nat} {ret : Option FieldType} {ps : List Nat} (hcal : kx_cal n bytes maxL ret ps.length) (hpm : kx_pm n = (t + 2) :: ps) {host : String} (h1 : Cond.methodLinkNest own i (kx_mn n) host ∈ kx_WS) (h2 : Cond.instanceMethod (kx_mn n) ∈ kx_WS) (h3 : (kx_mn n).name = "<init>") (hrn : ret = none) (hd : decode cc pc = .ok (.invokespecial i, 3)) (hk : kx_Sn p l e R s m args below meth c s0 D cA nL ι0 h0 rr hf (pc + 3) k) : kx_Sn p l e R s m args below meth c s0 D cA nL ι0 h0 rr hf pc (kx_Vv C n t ps k) := by
  subst hrn
  intro lv st h hF
  unfold kx_Vv at hF
  obtain ⟨a, r9, hst, hfit, hr9, hF⟩ := kx_ao_spec hF
  obtain ⟨q, hq, hret, hthr⟩ := kx_bv_spec hF
  intro ι H locs cells slots ls hP hA hl hs hv hS hC hU hI hE
  have hts := G.2.2.2.2.2.1
  have hs' := hs
  rw [hst] at hs'
  have hta : hp_T h a = some t := hs' (.inr (.inr (t, some a))) (List.mem_append_right _ List.mem_cons_self) a rfl
  have hlen : (st.take ps.length).reverse.length = ps.length := kx_fits_len hfit
  have hmap : st.map (kx_cv ι) = ((st.take ps.length).reverse.map (kx_cv ι)).reverse ++ .ref (ι a) :: r9.map (kx_cv ι) := by
    conv => lhs; rw [hst]
    rw [List.map_append, List.map_cons, List.map_reverse, List.reverse_reverse]
    rfl
  rw [hmap]
  refine kx_core G hg hCS hR hout hcal (As := .inr (.inr (t, some a)) :: (st.take ps.length).reverse) (r9 := r9) (by rw [hpm]; exact kx_fits2 hfit) hr9 hq hd hP hl (fun v hv9 => ?_) (fun v hv9 => hs' v (List.mem_append_right _ (List.mem_cons_of_mem _ hv9))) hv hS hC hU hI hE (fun T hT X => kx_enIN X G.1 G.2.1 G.2.2.1 h3 (hts _ h1) (hts _ h2) (hts _ hcal.1) hcal.2.2.2.1 (argsL := (st.take ps.length).reverse.map (kx_cv ι)) (by rw [List.length_map, hlen]; exact hcal.2.2.2.2) hd) hk (fun v hv => by obtain ⟨rfl, z⟩ := hret v hv; exact z) (fun e' he => by have z := hthr e' he; cases z; exact ⟨rfl, rfl⟩)
  rcases List.mem_cons.mp hv9 with rfl | hv9
  · exact fun b hb => by cases hb; exact hta
  · exact hs v (List.mem_of_mem_take (List.mem_reverse.mp hv9))
theorem kx_s_Sv (G : kx_G p e R s m args meth c s0 D cA cc own nL h0) (hg : ∀ w ∈ kx_WS, kx_kp w) {C : kx_C} {d n : Nat} (hCS : kx_cs9 l s0 D cA C d) (hR : kx_need (d + 1) R) (hout : ∀ x ∈ c.exceptionTable.toList, covers x pc = false) {bytes : ByteArray} {maxL : Nat} {ret : Option FieldType} {ps : List Nat} (hcal : kx_cal n bytes maxL ret ps.length) (hpm : kx_pm n = ps) (h1 : Cond.methodLink own i (kx_mn n) ∈ kx_WS) (h2 : Cond.static (kx_mn n) ∈ kx_WS) (hd : decode cc pc = .ok (.invokestatic i, 3)) (hk : kx_Sn p l e R s m args below meth c s0 D cA nL ι0 h0 rr hf (pc + 3) k) : kx_Sn p l e R s m args below meth c s0 D cA nL ι0 h0 rr hf pc (kx_Sv C n ps k) := by
  intro lv st h hF
  unfold kx_Sv at hF
  obtain ⟨hfit, hr9, hF⟩ := kx_as_spec hF
  obtain ⟨q, hq, hret, hthr⟩ := kx_bv_spec hF
  intro ι H locs cells slots ls hP hA hl hs hv hS hC hU hI hE
  have hts := G.2.2.2.2.2.1
  have hlen : (st.take ps.length).reverse.length = ps.length := kx_fits_len hfit
  have hmap : st.map (kx_cv ι) = ((st.take ps.length).reverse.map (kx_cv ι)).reverse ++ (st.drop ps.length).map (kx_cv ι) := by
    rw [List.map_reverse, List.reverse_reverse, ← List.map_append, List.take_append_drop]
  rw [hmap]
  exact kx_core G hg hCS hR hout hcal (As := (st.take ps.length).reverse) (r9 := st.drop ps.length) (by rw [hpm]; exact hfit) hr9 hq hd hP hl (fun v hv9 => hs v (List.mem_of_mem_take (List.mem_reverse.mp hv9))) (fun v hv9 => hs v (List.mem_of_mem_drop hv9)) hv hS hC hU hI hE (fun T hT X => kx_enS X G.1 G.2.1 G.2.2.1 (hts _ h1) (hts _ h2) (hts _ hcal.2.1) (hts _ hcal.1) hcal.2.2.2.1 (argsL := (st.take ps.length).reverse.map (kx_cv ι)) (by rw [List.length_map, hlen]; exact hcal.2.2.2.2) hd) hk (fun v hv => by obtain ⟨rfl, z⟩ := hret v hv; exact z) (fun e' he => by have z := hthr e' he; cases z; exact ⟨rfl, rfl⟩)
theorem kx_s_SNv (G : kx_G p e R s m args meth c s0 D cA cc own nL h0) (hg : ∀ w ∈ kx_WS, kx_kp w) {C : kx_C} {d n : Nat} (hCS : kx_cs9 l s0 D cA C d) (hR : kx_need (d + 1) R) (hout : ∀ x ∈ c.exceptionTable.toList, covers x pc = false) {bytes : ByteArray} {maxL : Nat} {ret : Option FieldType} {ps : List Nat} (hcal : kx_cal n bytes maxL ret ps.length) (hpm : kx_pm n = ps) {host : String} (h1 : Cond.methodLinkNest own i (kx_mn n) host ∈ kx_WS) (h2 : Cond.static (kx_mn n) ∈ kx_WS) (hd : decode cc pc = .ok (.invokestatic i, 3)) (hk : kx_Sn p l e R s m args below meth c s0 D cA nL ι0 h0 rr hf (pc + 3) k) : kx_Sn p l e R s m args below meth c s0 D cA nL ι0 h0 rr hf pc (kx_Sv C n ps k) := by
  intro lv st h hF
  unfold kx_Sv at hF
  obtain ⟨hfit, hr9, hF⟩ := kx_as_spec hF
  obtain ⟨q, hq, hret, hthr⟩ := kx_bv_spec hF
  intro ι H locs cells slots ls hP hA hl hs hv hS hC hU hI hE
  have hts := G.2.2.2.2.2.1
  have hlen : (st.take ps.length).reverse.length = ps.length := kx_fits_len hfit
  have hmap : st.map (kx_cv ι) = ((st.take ps.length).reverse.map (kx_cv ι)).reverse ++ (st.drop ps.length).map (kx_cv ι) := by
    rw [List.map_reverse, List.reverse_reverse, ← List.map_append, List.take_append_drop]
  rw [hmap]
  exact kx_core G hg hCS hR hout hcal (As := (st.take ps.length).reverse) (r9 := st.drop ps.length) (by rw [hpm]; exact hfit) hr9 hq hd hP hl (fun v hv9 => hs v (List.mem_of_mem_take (List.mem_reverse.mp hv9))) (fun v hv9 => hs v (List.mem_of_mem_drop hv9)) hv hS hC hU hI hE (fun T hT X => kx_enSN X G.1 G.2.1 G.2.2.1 (hts _ h1) (hts _ h2) (hts _ hcal.2.1) (hts _ hcal.1) hcal.2.2.2.1 (argsL := (st.take ps.length).reverse.map (kx_cv ι)) (by rw [List.length_map, hlen]; exact hcal.2.2.2.2) hd) hk (fun v hv => by obtain ⟨rfl, z⟩ := hret v hv; exact z) (fun e' he => by have z := hthr e' he; cases z; exact ⟨rfl, rfl⟩)
theorem kx_s_Vi (G : kx_G p e R s m args meth c s0 D cA cc own nL h0) (hg : ∀ w ∈ kx_WS, kx_kp w) {C : kx_C} {d n : Nat} (hCS : kx_cs9 l s0 D cA C d) (hR : kx_need (d + 1) R) (hout : ∀ x ∈ c.exceptionTable.toList, covers x pc = false) {bytes : ByteArray} {maxL : Nat} {ret : Option FieldType} {ps : List Nat} (hcal : kx_cal n bytes maxL ret ps.length) (hpm : kx_pm n = (t + 2) :: ps) (h1 : Cond.methodLink own i (kx_mn n) ∈ kx_WS) (h2 : Cond.instanceMethod (kx_mn n) ∈ kx_WS) (h3 : Cond.selects r.1 (kx_mn n) (kx_mn n) ∈ kx_WS) (hc : kx_cl[t]? = some r) (h98 : t < 98) (hd : decode cc pc = .ok (.invokevirtual i, 3)) (hk : kx_Sn p l e R s m args below meth c s0 D cA nL ι0 h0 rr hf (pc + 3) k) : kx_Sn p l e R s m args below meth c s0 D cA nL ι0 h0 rr hf pc (kx_Vi C n t ps k) := by
  intro lv st h hF
  unfold kx_Vi at hF
  obtain ⟨a, r9, hst, hfit, hr9, hF⟩ := kx_ao_spec hF
  obtain ⟨q, hq, hret, hthr⟩ := kx_bi_spec hF
  intro ι H locs cells slots ls hP hA hl hs hv hS hC hU hI hE
  have hts := G.2.2.2.2.2.1
  have hs' := hs
  rw [hst] at hs'
  have hta : hp_T h a = some t := hs' (.inr (.inr (t, some a))) (List.mem_append_right _ List.mem_cons_self) a rfl
  have hlen : (st.take ps.length).reverse.length = ps.length := kx_fits_len hfit
  have hmap : st.map (kx_cv ι) = ((st.take ps.length).reverse.map (kx_cv ι)).reverse ++ .ref (ι a) :: r9.map (kx_cv ι) := by
    conv => lhs; rw [hst]
    rw [List.map_append, List.map_cons, List.map_reverse, List.reverse_reverse]
    rfl
  rw [hmap]
  refine kx_core G hg hCS hR hout hcal (As := .inr (.inr (t, some a)) :: (st.take ps.length).reverse) (r9 := r9) (by rw [hpm]; exact kx_fits2 hfit) hr9 hq hd hP hl (fun v hv9 => ?_) (fun v hv9 => hs' v (List.mem_append_right _ (List.mem_cons_of_mem _ hv9))) hv hS hC hU hI hE (fun T hT X => by
      obtain ⟨-, r', hr', cellB, b1, b2, b3, -⟩ := (hP.1 a t hta).2.2.1 h98
      cases hc.symm.trans hr'
      have hK := (G.2.2.2.2.2.2.1.2.1.1 t r hc).2
      exact kx_enV X G.1 G.2.1 (C := r.1) G.2.2.1 (hts _ h1) (hts _ h2) (hts _ h3) (hts _ hcal.1) hcal.2.2.2.1 (by rw [hT]; exact b1) (by rw [b3]; rfl) (by rw [b2]; exact hK.1) (argsL := (st.take ps.length).reverse.map (kx_cv ι)) (by rw [List.length_map, hlen]; exact hcal.2.2.2.2) hd) hk (fun v hv => by obtain ⟨x, rfl, z⟩ := hret v hv; exact z) (fun e' he => by have z := hthr e' he; cases z; exact ⟨rfl, rfl⟩)
  rcases List.mem_cons.mp hv9 with rfl | hv9
  · exact fun b hb => by cases hb; exact hta
  · exact hs v (List.mem_of_mem_take (List.mem_reverse.mp hv9))
theorem kx_s_VNi (G : kx_G p e R s m args meth c s0 D cA cc own nL h0) (hg : ∀ w ∈ kx_WS, kx_kp w) {C : kx_C} {d n : Nat} (hCS : kx_cs9 l s0 D cA C d) (hR : kx_need (d + 1) R) (hout : ∀ x ∈ c.exceptionTable.toList, covers x pc = false) {bytes : ByteArray} {maxL : Nat} {ret : Option FieldType} {ps : List Nat} (hcal : kx_cal n bytes maxL ret ps.length) (hpm : kx_pm n = (t + 2) :: ps) {host : String} (h1 : Cond.methodLinkNest own i (kx_mn n) host ∈ kx_WS) (h2 : Cond.instanceMethod (kx_mn n) ∈ kx_WS) (h3 : Cond.selects r.1 (kx_mn n) (kx_mn n) ∈ kx_WS) (hc : kx_cl[t]? = some r) (h98 : t < 98) (hd : decode cc pc = .ok (.invokevirtual i, 3)) (hk : kx_Sn p l e R s m args below meth c s0 D cA nL ι0 h0 rr hf (pc + 3) k) : kx_Sn p l e R s m args below meth c s0 D cA nL ι0 h0 rr hf pc (kx_Vi C n t ps k) := by
  intro lv st h hF
  unfold kx_Vi at hF
  obtain ⟨a, r9, hst, hfit, hr9, hF⟩ := kx_ao_spec hF
  obtain ⟨q, hq, hret, hthr⟩ := kx_bi_spec hF
  intro ι H locs cells slots ls hP hA hl hs hv hS hC hU hI hE
  have hts := G.2.2.2.2.2.1
  have hs' := hs
  rw [hst] at hs'
  have hta : hp_T h a = some t := hs' (.inr (.inr (t, some a))) (List.mem_append_right _ List.mem_cons_self) a rfl
  have hlen : (st.take ps.length).reverse.length = ps.length := kx_fits_len hfit
  have hmap : st.map (kx_cv ι) = ((st.take ps.length).reverse.map (kx_cv ι)).reverse ++ .ref (ι a) :: r9.map (kx_cv ι) := by
    conv => lhs; rw [hst]
    rw [List.map_append, List.map_cons, List.map_reverse, List.reverse_reverse]
    rfl
  rw [hmap]
  refine kx_core G hg hCS hR hout hcal (As := .inr (.inr (t, some a)) :: (st.take ps.length).reverse) (r9 := r9) (by rw [hpm]; exact kx_fits2 hfit) hr9 hq hd hP hl (fun v hv9 => ?_) (fun v hv9 => hs' v (List.mem_append_right _ (List.mem_cons_of_mem _ hv9))) hv hS hC hU hI hE (fun T hT X => by
      obtain ⟨-, r', hr', cellB, b1, b2, b3, -⟩ := (hP.1 a t hta).2.2.1 h98
      cases hc.symm.trans hr'
      have hK := (G.2.2.2.2.2.2.1.2.1.1 t r hc).2
      exact kx_enVN X G.1 G.2.1 (C := r.1) G.2.2.1 (hts _ h1) (hts _ h2) (hts _ h3) (hts _ hcal.1) hcal.2.2.2.1 (by rw [hT]; exact b1) (by rw [b3]; rfl) (by rw [b2]; exact hK.1) (argsL := (st.take ps.length).reverse.map (kx_cv ι)) (by rw [List.length_map, hlen]; exact hcal.2.2.2.2) hd) hk (fun v hv => by obtain ⟨x, rfl, z⟩ := hret v hv; exact z) (fun e' he => by have z := hthr e' he; cases z; exact ⟨rfl, rfl⟩)
  rcases List.mem_cons.mp hv9 with rfl | hv9
  · exact fun b hb => by cases hb; exact hta
  · exact hs v (List.mem_of_mem_take (List.mem_reverse.mp hv9))
theorem kx_s_Si (G : kx_G p e R s m args meth c s0 D cA cc own nL h0) (hg : ∀ w ∈ kx_WS, kx_kp w) {C : kx_C} {d n : Nat} (hCS : kx_cs9 l s0 D cA C d) (hR : kx_need (d + 1) R) (hout : ∀ x ∈ c.exceptionTable.toList, covers x pc = false) {bytes : ByteArray} {maxL : Nat} {ret : Option FieldType} {ps : List Nat} (hcal : kx_cal n bytes maxL ret ps.length) (hpm : kx_pm n = ps) (h1 : Cond.methodLink own i (kx_mn n) ∈ kx_WS) (h2 : Cond.static (kx_mn n) ∈ kx_WS) (hd : decode cc pc = .ok (.invokestatic i, 3)) (hk : kx_Sn p l e R s m args below meth c s0 D cA nL ι0 h0 rr hf (pc + 3) k) : kx_Sn p l e R s m args below meth c s0 D cA nL ι0 h0 rr hf pc (kx_Si C n ps k) := by
  intro lv st h hF
  unfold kx_Si at hF
  obtain ⟨hfit, hr9, hF⟩ := kx_as_spec hF
  obtain ⟨q, hq, hret, hthr⟩ := kx_bi_spec hF
  intro ι H locs cells slots ls hP hA hl hs hv hS hC hU hI hE
  have hts := G.2.2.2.2.2.1
  have hlen : (st.take ps.length).reverse.length = ps.length := kx_fits_len hfit
  have hmap : st.map (kx_cv ι) = ((st.take ps.length).reverse.map (kx_cv ι)).reverse ++ (st.drop ps.length).map (kx_cv ι) := by
    rw [List.map_reverse, List.reverse_reverse, ← List.map_append, List.take_append_drop]
  rw [hmap]
  exact kx_core G hg hCS hR hout hcal (As := (st.take ps.length).reverse) (r9 := st.drop ps.length) (by rw [hpm]; exact hfit) hr9 hq hd hP hl (fun v hv9 => hs v (List.mem_of_mem_take (List.mem_reverse.mp hv9))) (fun v hv9 => hs v (List.mem_of_mem_drop hv9)) hv hS hC hU hI hE (fun T hT X => kx_enS X G.1 G.2.1 G.2.2.1 (hts _ h1) (hts _ h2) (hts _ hcal.2.1) (hts _ hcal.1) hcal.2.2.2.1 (argsL := (st.take ps.length).reverse.map (kx_cv ι)) (by rw [List.length_map, hlen]; exact hcal.2.2.2.2) hd) hk (fun v hv => by obtain ⟨x, rfl, z⟩ := hret v hv; exact z) (fun e' he => by have z := hthr e' he; cases z; exact ⟨rfl, rfl⟩)
theorem kx_s_SNi (G : kx_G p e R s m args meth c s0 D cA cc own nL h0) (hg : ∀ w ∈ kx_WS, kx_kp w) {C : kx_C} {d n : Nat} (hCS : kx_cs9 l s0 D cA C d) (hR : kx_need (d + 1) R) (hout : ∀ x ∈ c.exceptionTable.toList, covers x pc = false) {bytes : ByteArray} {maxL : Nat} {ret : Option FieldType} {ps : List Nat} (hcal : kx_cal n bytes maxL ret ps.length) (hpm : kx_pm n = ps) {host : String} (h1 : Cond.methodLinkNest own i (kx_mn n) host ∈ kx_WS) (h2 : Cond.static (kx_mn n) ∈ kx_WS) (hd : decode cc pc = .ok (.invokestatic i, 3)) (hk : kx_Sn p l e R s m args below meth c s0 D cA nL ι0 h0 rr hf (pc + 3) k) : kx_Sn p l e R s m args below meth c s0 D cA nL ι0 h0 rr hf pc (kx_Si C n ps k) := by
  intro lv st h hF
  unfold kx_Si at hF
  obtain ⟨hfit, hr9, hF⟩ := kx_as_spec hF
  obtain ⟨q, hq, hret, hthr⟩ := kx_bi_spec hF
  intro ι H locs cells slots ls hP hA hl hs hv hS hC hU hI hE
  have hts := G.2.2.2.2.2.1
  have hlen : (st.take ps.length).reverse.length = ps.length := kx_fits_len hfit
  have hmap : st.map (kx_cv ι) = ((st.take ps.length).reverse.map (kx_cv ι)).reverse ++ (st.drop ps.length).map (kx_cv ι) := by
    rw [List.map_reverse, List.reverse_reverse, ← List.map_append, List.take_append_drop]
  rw [hmap]
  exact kx_core G hg hCS hR hout hcal (As := (st.take ps.length).reverse) (r9 := st.drop ps.length) (by rw [hpm]; exact hfit) hr9 hq hd hP hl (fun v hv9 => hs v (List.mem_of_mem_take (List.mem_reverse.mp hv9))) (fun v hv9 => hs v (List.mem_of_mem_drop hv9)) hv hS hC hU hI hE (fun T hT X => kx_enSN X G.1 G.2.1 G.2.2.1 (hts _ h1) (hts _ h2) (hts _ hcal.2.1) (hts _ hcal.1) hcal.2.2.2.1 (argsL := (st.take ps.length).reverse.map (kx_cv ι)) (by rw [List.length_map, hlen]; exact hcal.2.2.2.2) hd) hk (fun v hv => by obtain ⟨x, rfl, z⟩ := hret v hv; exact z) (fun e' he => by have z := hthr e' he; cases z; exact ⟨rfl, rfl⟩)
theorem kx_s_Vl (G : kx_G p e R s m args meth c s0 D cA cc own nL h0) (hg : ∀ w ∈ kx_WS, kx_kp w) {C : kx_C} {d n : Nat} (hCS : kx_cs9 l s0 D cA C d) (hR : kx_need (d + 1) R) (hout : ∀ x ∈ c.exceptionTable.toList, covers x pc = false) {bytes : ByteArray} {maxL : Nat} {ret : Option FieldType} {ps : List Nat} (hcal : kx_cal n bytes maxL ret ps.length) (hpm : kx_pm n = (t + 2) :: ps) (h1 : Cond.methodLink own i (kx_mn n) ∈ kx_WS) (h2 : Cond.instanceMethod (kx_mn n) ∈ kx_WS) (h3 : Cond.selects r.1 (kx_mn n) (kx_mn n) ∈ kx_WS) (hc : kx_cl[t]? = some r) (h98 : t < 98) (hd : decode cc pc = .ok (.invokevirtual i, 3)) (hk : kx_Sn p l e R s m args below meth c s0 D cA nL ι0 h0 rr hf (pc + 3) k) : kx_Sn p l e R s m args below meth c s0 D cA nL ι0 h0 rr hf pc (kx_Vl C n t ps k) := by
  intro lv st h hF
  unfold kx_Vl at hF
  obtain ⟨a, r9, hst, hfit, hr9, hF⟩ := kx_ao_spec hF
  obtain ⟨q, hq, hret, hthr⟩ := kx_bl_spec hF
  intro ι H locs cells slots ls hP hA hl hs hv hS hC hU hI hE
  have hts := G.2.2.2.2.2.1
  have hs' := hs
  rw [hst] at hs'
  have hta : hp_T h a = some t := hs' (.inr (.inr (t, some a))) (List.mem_append_right _ List.mem_cons_self) a rfl
  have hlen : (st.take ps.length).reverse.length = ps.length := kx_fits_len hfit
  have hmap : st.map (kx_cv ι) = ((st.take ps.length).reverse.map (kx_cv ι)).reverse ++ .ref (ι a) :: r9.map (kx_cv ι) := by
    conv => lhs; rw [hst]
    rw [List.map_append, List.map_cons, List.map_reverse, List.reverse_reverse]
    rfl
  rw [hmap]
  refine kx_core G hg hCS hR hout hcal (As := .inr (.inr (t, some a)) :: (st.take ps.length).reverse) (r9 := r9) (by rw [hpm]; exact kx_fits2 hfit) hr9 hq hd hP hl (fun v hv9 => ?_) (fun v hv9 => hs' v (List.mem_append_right _ (List.mem_cons_of_mem _ hv9))) hv hS hC hU hI hE (fun T hT X => by
      obtain ⟨-, r', hr', cellB, b1, b2, b3, -⟩ := (hP.1 a t hta).2.2.1 h98
      cases hc.symm.trans hr'
      have hK := (G.2.2.2.2.2.2.1.2.1.1 t r hc).2
      exact kx_enV X G.1 G.2.1 (C := r.1) G.2.2.1 (hts _ h1) (hts _ h2) (hts _ h3) (hts _ hcal.1) hcal.2.2.2.1 (by rw [hT]; exact b1) (by rw [b3]; rfl) (by rw [b2]; exact hK.1) (argsL := (st.take ps.length).reverse.map (kx_cv ι)) (by rw [List.length_map, hlen]; exact hcal.2.2.2.2) hd) hk (fun v hv => by obtain ⟨x, rfl, z⟩ := hret v hv; exact z) (fun e' he => by have z := hthr e' he; cases z; exact ⟨rfl, rfl⟩)
  rcases List.mem_cons.mp hv9 with rfl | hv9
  · exact fun b hb => by cases hb; exact hta
  · exact hs v (List.mem_of_mem_take (List.mem_reverse.mp hv9))
theorem kx_s_VNl (G : kx_G p e R s m args meth c s0 D cA cc own nL h0) (hg : ∀ w ∈ kx_WS, kx_kp w) {C : kx_C} {d n : Nat} (hCS : kx_cs9 l s0 D cA C d) (hR : kx_need (d + 1) R) (hout : ∀ x ∈ c.exceptionTable.toList, covers x pc = false) {bytes : ByteArray} {maxL : Nat} {ret : Option FieldType} {ps : List Nat} (hcal : kx_cal n bytes maxL ret ps.length) (hpm : kx_pm n = (t + 2) :: ps) {host : String} (h1 : Cond.methodLinkNest own i (kx_mn n) host ∈ kx_WS) (h2 : Cond.instanceMethod (kx_mn n) ∈ kx_WS) (h3 : Cond.selects r.1 (kx_mn n) (kx_mn n) ∈ kx_WS) (hc : kx_cl[t]? = some r) (h98 : t < 98) (hd : decode cc pc = .ok (.invokevirtual i, 3)) (hk : kx_Sn p l e R s m args below meth c s0 D cA nL ι0 h0 rr hf (pc + 3) k) : kx_Sn p l e R s m args below meth c s0 D cA nL ι0 h0 rr hf pc (kx_Vl C n t ps k) := by
  intro lv st h hF
  unfold kx_Vl at hF
  obtain ⟨a, r9, hst, hfit, hr9, hF⟩ := kx_ao_spec hF
  obtain ⟨q, hq, hret, hthr⟩ := kx_bl_spec hF
  intro ι H locs cells slots ls hP hA hl hs hv hS hC hU hI hE
  have hts := G.2.2.2.2.2.1
  have hs' := hs
  rw [hst] at hs'
  have hta : hp_T h a = some t := hs' (.inr (.inr (t, some a))) (List.mem_append_right _ List.mem_cons_self) a rfl
  have hlen : (st.take ps.length).reverse.length = ps.length := kx_fits_len hfit
  have hmap : st.map (kx_cv ι) = ((st.take ps.length).reverse.map (kx_cv ι)).reverse ++ .ref (ι a) :: r9.map (kx_cv ι) := by
    conv => lhs; rw [hst]
    rw [List.map_append, List.map_cons, List.map_reverse, List.reverse_reverse]
    rfl
  rw [hmap]
  refine kx_core G hg hCS hR hout hcal (As := .inr (.inr (t, some a)) :: (st.take ps.length).reverse) (r9 := r9) (by rw [hpm]; exact kx_fits2 hfit) hr9 hq hd hP hl (fun v hv9 => ?_) (fun v hv9 => hs' v (List.mem_append_right _ (List.mem_cons_of_mem _ hv9))) hv hS hC hU hI hE (fun T hT X => by
      obtain ⟨-, r', hr', cellB, b1, b2, b3, -⟩ := (hP.1 a t hta).2.2.1 h98
      cases hc.symm.trans hr'
      have hK := (G.2.2.2.2.2.2.1.2.1.1 t r hc).2
      exact kx_enVN X G.1 G.2.1 (C := r.1) G.2.2.1 (hts _ h1) (hts _ h2) (hts _ h3) (hts _ hcal.1) hcal.2.2.2.1 (by rw [hT]; exact b1) (by rw [b3]; rfl) (by rw [b2]; exact hK.1) (argsL := (st.take ps.length).reverse.map (kx_cv ι)) (by rw [List.length_map, hlen]; exact hcal.2.2.2.2) hd) hk (fun v hv => by obtain ⟨x, rfl, z⟩ := hret v hv; exact z) (fun e' he => by have z := hthr e' he; cases z; exact ⟨rfl, rfl⟩)
  rcases List.mem_cons.mp hv9 with rfl | hv9
  · exact fun b hb => by cases hb; exact hta
  · exact hs v (List.mem_of_mem_take (List.mem_reverse.mp hv9))
theorem kx_s_Sl (G : kx_G p e R s m args meth c s0 D cA cc own nL h0) (hg : ∀ w ∈ kx_WS, kx_kp w) {C : kx_C} {d n : Nat} (hCS : kx_cs9 l s0 D cA C d) (hR : kx_need (d + 1) R) (hout : ∀ x ∈ c.exceptionTable.toList, covers x pc = false) {bytes : ByteArray} {maxL : Nat} {ret : Option FieldType} {ps : List Nat} (hcal : kx_cal n bytes maxL ret ps.length) (hpm : kx_pm n = ps) (h1 : Cond.methodLink own i (kx_mn n) ∈ kx_WS) (h2 : Cond.static (kx_mn n) ∈ kx_WS) (hd : decode cc pc = .ok (.invokestatic i, 3)) (hk : kx_Sn p l e R s m args below meth c s0 D cA nL ι0 h0 rr hf (pc + 3) k) : kx_Sn p l e R s m args below meth c s0 D cA nL ι0 h0 rr hf pc (kx_Sl C n ps k) := by
  intro lv st h hF
  unfold kx_Sl at hF
  obtain ⟨hfit, hr9, hF⟩ := kx_as_spec hF
  obtain ⟨q, hq, hret, hthr⟩ := kx_bl_spec hF
  intro ι H locs cells slots ls hP hA hl hs hv hS hC hU hI hE
  have hts := G.2.2.2.2.2.1
  have hlen : (st.take ps.length).reverse.length = ps.length := kx_fits_len hfit
  have hmap : st.map (kx_cv ι) = ((st.take ps.length).reverse.map (kx_cv ι)).reverse ++ (st.drop ps.length).map (kx_cv ι) := by
    rw [List.map_reverse, List.reverse_reverse, ← List.map_append, List.take_append_drop]
  rw [hmap]
  exact kx_core G hg hCS hR hout hcal (As := (st.take ps.length).reverse) (r9 := st.drop ps.length) (by rw [hpm]; exact hfit) hr9 hq hd hP hl (fun v hv9 => hs v (List.mem_of_mem_take (List.mem_reverse.mp hv9))) (fun v hv9 => hs v (List.mem_of_mem_drop hv9)) hv hS hC hU hI hE (fun T hT X => kx_enS X G.1 G.2.1 G.2.2.1 (hts _ h1) (hts _ h2) (hts _ hcal.2.1) (hts _ hcal.1) hcal.2.2.2.1 (argsL := (st.take ps.length).reverse.map (kx_cv ι)) (by rw [List.length_map, hlen]; exact hcal.2.2.2.2) hd) hk (fun v hv => by obtain ⟨x, rfl, z⟩ := hret v hv; exact z) (fun e' he => by have z := hthr e' he; cases z; exact ⟨rfl, rfl⟩)
theorem kx_s_SNl (G : kx_G p e R s m args meth c s0 D cA cc own nL h0) (hg : ∀ w ∈ kx_WS, kx_kp w) {C : kx_C} {d n : Nat} (hCS : kx_cs9 l s0 D cA C d) (hR : kx_need (d + 1) R) (hout : ∀ x ∈ c.exceptionTable.toList, covers x pc = false) {bytes : ByteArray} {maxL : Nat} {ret : Option FieldType} {ps : List Nat} (hcal : kx_cal n bytes maxL ret ps.length) (hpm : kx_pm n = ps) {host : String} (h1 : Cond.methodLinkNest own i (kx_mn n) host ∈ kx_WS) (h2 : Cond.static (kx_mn n) ∈ kx_WS) (hd : decode cc pc = .ok (.invokestatic i, 3)) (hk : kx_Sn p l e R s m args below meth c s0 D cA nL ι0 h0 rr hf (pc + 3) k) : kx_Sn p l e R s m args below meth c s0 D cA nL ι0 h0 rr hf pc (kx_Sl C n ps k) := by
  intro lv st h hF
  unfold kx_Sl at hF
  obtain ⟨hfit, hr9, hF⟩ := kx_as_spec hF
  obtain ⟨q, hq, hret, hthr⟩ := kx_bl_spec hF
  intro ι H locs cells slots ls hP hA hl hs hv hS hC hU hI hE
  have hts := G.2.2.2.2.2.1
  have hlen : (st.take ps.length).reverse.length = ps.length := kx_fits_len hfit
  have hmap : st.map (kx_cv ι) = ((st.take ps.length).reverse.map (kx_cv ι)).reverse ++ (st.drop ps.length).map (kx_cv ι) := by
    rw [List.map_reverse, List.reverse_reverse, ← List.map_append, List.take_append_drop]
  rw [hmap]
  exact kx_core G hg hCS hR hout hcal (As := (st.take ps.length).reverse) (r9 := st.drop ps.length) (by rw [hpm]; exact hfit) hr9 hq hd hP hl (fun v hv9 => hs v (List.mem_of_mem_take (List.mem_reverse.mp hv9))) (fun v hv9 => hs v (List.mem_of_mem_drop hv9)) hv hS hC hU hI hE (fun T hT X => kx_enSN X G.1 G.2.1 G.2.2.1 (hts _ h1) (hts _ h2) (hts _ hcal.2.1) (hts _ hcal.1) hcal.2.2.2.1 (argsL := (st.take ps.length).reverse.map (kx_cv ι)) (by rw [List.length_map, hlen]; exact hcal.2.2.2.2) hd) hk (fun v hv => by obtain ⟨x, rfl, z⟩ := hret v hv; exact z) (fun e' he => by have z := hthr e' he; cases z; exact ⟨rfl, rfl⟩)
theorem kx_s_Vr (G : kx_G p e R s m args meth c s0 D cA cc own nL h0) (hg : ∀ w ∈ kx_WS, kx_kp w) {C : kx_C} {d n : Nat} (hCS : kx_cs9 l s0 D cA C d) (hR : kx_need (d + 1) R) (hout : ∀ x ∈ c.exceptionTable.toList, covers x pc = false) {bytes : ByteArray} {maxL : Nat} {ret : Option FieldType} {ps : List Nat} (hcal : kx_cal n bytes maxL ret ps.length) (hpm : kx_pm n = (t + 2) :: ps) (h1 : Cond.methodLink own i (kx_mn n) ∈ kx_WS) (h2 : Cond.instanceMethod (kx_mn n) ∈ kx_WS) (h3 : Cond.selects r.1 (kx_mn n) (kx_mn n) ∈ kx_WS) (hc : kx_cl[t]? = some r) (h98 : t < 98) {c9 : Nat} (hd : decode cc pc = .ok (.invokevirtual i, 3)) (hk : kx_Sn p l e R s m args below meth c s0 D cA nL ι0 h0 rr hf (pc + 3) k) : kx_Sn p l e R s m args below meth c s0 D cA nL ι0 h0 rr hf pc (kx_Vr C n t ps c9 k) := by
  intro lv st h hF
  unfold kx_Vr at hF
  obtain ⟨a, r9, hst, hfit, hr9, hF⟩ := kx_ao_spec hF
  obtain ⟨q, hq, hret, hthr⟩ := kx_br_spec hF
  intro ι H locs cells slots ls hP hA hl hs hv hS hC hU hI hE
  have hts := G.2.2.2.2.2.1
  have hs' := hs
  rw [hst] at hs'
  have hta : hp_T h a = some t := hs' (.inr (.inr (t, some a))) (List.mem_append_right _ List.mem_cons_self) a rfl
  have hlen : (st.take ps.length).reverse.length = ps.length := kx_fits_len hfit
  have hmap : st.map (kx_cv ι) = ((st.take ps.length).reverse.map (kx_cv ι)).reverse ++ .ref (ι a) :: r9.map (kx_cv ι) := by
    conv => lhs; rw [hst]
    rw [List.map_append, List.map_cons, List.map_reverse, List.reverse_reverse]
    rfl
  rw [hmap]
  refine kx_core G hg hCS hR hout hcal (As := .inr (.inr (t, some a)) :: (st.take ps.length).reverse) (r9 := r9) (by rw [hpm]; exact kx_fits2 hfit) hr9 hq hd hP hl (fun v hv9 => ?_) (fun v hv9 => hs' v (List.mem_append_right _ (List.mem_cons_of_mem _ hv9))) hv hS hC hU hI hE (fun T hT X => by
      obtain ⟨-, r', hr', cellB, b1, b2, b3, -⟩ := (hP.1 a t hta).2.2.1 h98
      cases hc.symm.trans hr'
      have hK := (G.2.2.2.2.2.2.1.2.1.1 t r hc).2
      exact kx_enV X G.1 G.2.1 (C := r.1) G.2.2.1 (hts _ h1) (hts _ h2) (hts _ h3) (hts _ hcal.1) hcal.2.2.2.1 (by rw [hT]; exact b1) (by rw [b3]; rfl) (by rw [b2]; exact hK.1) (argsL := (st.take ps.length).reverse.map (kx_cv ι)) (by rw [List.length_map, hlen]; exact hcal.2.2.2.2) hd) hk (fun v hv => by obtain ⟨x, rfl, z⟩ := hret v hv; exact z) (fun e' he => by have z := hthr e' he; cases z; exact ⟨rfl, rfl⟩)
  rcases List.mem_cons.mp hv9 with rfl | hv9
  · exact fun b hb => by cases hb; exact hta
  · exact hs v (List.mem_of_mem_take (List.mem_reverse.mp hv9))
theorem kx_s_VNr (G : kx_G p e R s m args meth c s0 D cA cc own nL h0) (hg : ∀ w ∈ kx_WS, kx_kp w) {C : kx_C} {d n : Nat} (hCS : kx_cs9 l s0 D cA C d) (hR : kx_need (d + 1) R) (hout : ∀ x ∈ c.exceptionTable.toList, covers x pc = false) {bytes : ByteArray} {maxL : Nat} {ret : Option FieldType} {ps : List Nat} (hcal : kx_cal n bytes maxL ret ps.length) (hpm : kx_pm n = (t + 2) :: ps) {host : String} (h1 : Cond.methodLinkNest own i (kx_mn n) host ∈ kx_WS) (h2 : Cond.instanceMethod (kx_mn n) ∈ kx_WS) (h3 : Cond.selects r.1 (kx_mn n) (kx_mn n) ∈ kx_WS) (hc : kx_cl[t]? = some r) (h98 : t < 98) {c9 : Nat} (hd : decode cc pc = .ok (.invokevirtual i, 3)) (hk : kx_Sn p l e R s m args below meth c s0 D cA nL ι0 h0 rr hf (pc + 3) k) : kx_Sn p l e R s m args below meth c s0 D cA nL ι0 h0 rr hf pc (kx_Vr C n t ps c9 k) := by
  intro lv st h hF
  unfold kx_Vr at hF
  obtain ⟨a, r9, hst, hfit, hr9, hF⟩ := kx_ao_spec hF
  obtain ⟨q, hq, hret, hthr⟩ := kx_br_spec hF
  intro ι H locs cells slots ls hP hA hl hs hv hS hC hU hI hE
  have hts := G.2.2.2.2.2.1
  have hs' := hs
  rw [hst] at hs'
  have hta : hp_T h a = some t := hs' (.inr (.inr (t, some a))) (List.mem_append_right _ List.mem_cons_self) a rfl
  have hlen : (st.take ps.length).reverse.length = ps.length := kx_fits_len hfit
  have hmap : st.map (kx_cv ι) = ((st.take ps.length).reverse.map (kx_cv ι)).reverse ++ .ref (ι a) :: r9.map (kx_cv ι) := by
    conv => lhs; rw [hst]
    rw [List.map_append, List.map_cons, List.map_reverse, List.reverse_reverse]
    rfl
  rw [hmap]
  refine kx_core G hg hCS hR hout hcal (As := .inr (.inr (t, some a)) :: (st.take ps.length).reverse) (r9 := r9) (by rw [hpm]; exact kx_fits2 hfit) hr9 hq hd hP hl (fun v hv9 => ?_) (fun v hv9 => hs' v (List.mem_append_right _ (List.mem_cons_of_mem _ hv9))) hv hS hC hU hI hE (fun T hT X => by
      obtain ⟨-, r', hr', cellB, b1, b2, b3, -⟩ := (hP.1 a t hta).2.2.1 h98
      cases hc.symm.trans hr'
      have hK := (G.2.2.2.2.2.2.1.2.1.1 t r hc).2
      exact kx_enVN X G.1 G.2.1 (C := r.1) G.2.2.1 (hts _ h1) (hts _ h2) (hts _ h3) (hts _ hcal.1) hcal.2.2.2.1 (by rw [hT]; exact b1) (by rw [b3]; rfl) (by rw [b2]; exact hK.1) (argsL := (st.take ps.length).reverse.map (kx_cv ι)) (by rw [List.length_map, hlen]; exact hcal.2.2.2.2) hd) hk (fun v hv => by obtain ⟨x, rfl, z⟩ := hret v hv; exact z) (fun e' he => by have z := hthr e' he; cases z; exact ⟨rfl, rfl⟩)
  rcases List.mem_cons.mp hv9 with rfl | hv9
  · exact fun b hb => by cases hb; exact hta
  · exact hs v (List.mem_of_mem_take (List.mem_reverse.mp hv9))
theorem kx_s_Sr (G : kx_G p e R s m args meth c s0 D cA cc own nL h0) (hg : ∀ w ∈ kx_WS, kx_kp w) {C : kx_C} {d n : Nat} (hCS : kx_cs9 l s0 D cA C d) (hR : kx_need (d + 1) R) (hout : ∀ x ∈ c.exceptionTable.toList, covers x pc = false) {bytes : ByteArray} {maxL : Nat} {ret : Option FieldType} {ps : List Nat} (hcal : kx_cal n bytes maxL ret ps.length) (hpm : kx_pm n = ps) (h1 : Cond.methodLink own i (kx_mn n) ∈ kx_WS) (h2 : Cond.static (kx_mn n) ∈ kx_WS) {c9 : Nat} (hd : decode cc pc = .ok (.invokestatic i, 3)) (hk : kx_Sn p l e R s m args below meth c s0 D cA nL ι0 h0 rr hf (pc + 3) k) : kx_Sn p l e R s m args below meth c s0 D cA nL ι0 h0 rr hf pc (kx_Sr C n ps c9 k) := by
  intro lv st h hF
  unfold kx_Sr at hF
  obtain ⟨hfit, hr9, hF⟩ := kx_as_spec hF
  obtain ⟨q, hq, hret, hthr⟩ := kx_br_spec hF
  intro ι H locs cells slots ls hP hA hl hs hv hS hC hU hI hE
  have hts := G.2.2.2.2.2.1
  have hlen : (st.take ps.length).reverse.length = ps.length := kx_fits_len hfit
  have hmap : st.map (kx_cv ι) = ((st.take ps.length).reverse.map (kx_cv ι)).reverse ++ (st.drop ps.length).map (kx_cv ι) := by
    rw [List.map_reverse, List.reverse_reverse, ← List.map_append, List.take_append_drop]
  rw [hmap]
  exact kx_core G hg hCS hR hout hcal (As := (st.take ps.length).reverse) (r9 := st.drop ps.length) (by rw [hpm]; exact hfit) hr9 hq hd hP hl (fun v hv9 => hs v (List.mem_of_mem_take (List.mem_reverse.mp hv9))) (fun v hv9 => hs v (List.mem_of_mem_drop hv9)) hv hS hC hU hI hE (fun T hT X => kx_enS X G.1 G.2.1 G.2.2.1 (hts _ h1) (hts _ h2) (hts _ hcal.2.1) (hts _ hcal.1) hcal.2.2.2.1 (argsL := (st.take ps.length).reverse.map (kx_cv ι)) (by rw [List.length_map, hlen]; exact hcal.2.2.2.2) hd) hk (fun v hv => by obtain ⟨x, rfl, z⟩ := hret v hv; exact z) (fun e' he => by have z := hthr e' he; cases z; exact ⟨rfl, rfl⟩)
theorem kx_s_SNr (G : kx_G p e R s m args meth c s0 D cA cc own nL h0) (hg : ∀ w ∈ kx_WS, kx_kp w) {C : kx_C} {d n : Nat} (hCS : kx_cs9 l s0 D cA C d) (hR : kx_need (d + 1) R) (hout : ∀ x ∈ c.exceptionTable.toList, covers x pc = false) {bytes : ByteArray} {maxL : Nat} {ret : Option FieldType} {ps : List Nat} (hcal : kx_cal n bytes maxL ret ps.length) (hpm : kx_pm n = ps) {host : String} (h1 : Cond.methodLinkNest own i (kx_mn n) host ∈ kx_WS) (h2 : Cond.static (kx_mn n) ∈ kx_WS) {c9 : Nat} (hd : decode cc pc = .ok (.invokestatic i, 3)) (hk : kx_Sn p l e R s m args below meth c s0 D cA nL ι0 h0 rr hf (pc + 3) k) : kx_Sn p l e R s m args below meth c s0 D cA nL ι0 h0 rr hf pc (kx_Sr C n ps c9 k) := by
  intro lv st h hF
  unfold kx_Sr at hF
  obtain ⟨hfit, hr9, hF⟩ := kx_as_spec hF
  obtain ⟨q, hq, hret, hthr⟩ := kx_br_spec hF
  intro ι H locs cells slots ls hP hA hl hs hv hS hC hU hI hE
  have hts := G.2.2.2.2.2.1
  have hlen : (st.take ps.length).reverse.length = ps.length := kx_fits_len hfit
  have hmap : st.map (kx_cv ι) = ((st.take ps.length).reverse.map (kx_cv ι)).reverse ++ (st.drop ps.length).map (kx_cv ι) := by
    rw [List.map_reverse, List.reverse_reverse, ← List.map_append, List.take_append_drop]
  rw [hmap]
  exact kx_core G hg hCS hR hout hcal (As := (st.take ps.length).reverse) (r9 := st.drop ps.length) (by rw [hpm]; exact hfit) hr9 hq hd hP hl (fun v hv9 => hs v (List.mem_of_mem_take (List.mem_reverse.mp hv9))) (fun v hv9 => hs v (List.mem_of_mem_drop hv9)) hv hS hC hU hI hE (fun T hT X => kx_enSN X G.1 G.2.1 G.2.2.1 (hts _ h1) (hts _ h2) (hts _ hcal.2.1) (hts _ hcal.1) hcal.2.2.2.1 (argsL := (st.take ps.length).reverse.map (kx_cv ι)) (by rw [List.length_map, hlen]; exact hcal.2.2.2.2) hd) hk (fun v hv => by obtain ⟨x, rfl, z⟩ := hret v hv; exact z) (fun e' he => by have z := hthr e' he; cases z; exact ⟨rfl, rfl⟩)
end KC
end
section
def kx_wd (ps : List Nat) : Nat := match ps with
  | [] => 0
  | p :: ps => (bif Nat.beq p 1 then 2 else 1) + kx_wd ps
theorem kx_wd_ok {ι : Nat → Nat} {ps : List Nat} {vs : List kx_V} (h : kx_fits ps vs = true) : (lg_sl (vs.map (kx_cv ι))).length = kx_wd ps := by
  induction ps generalizing vs with
  | nil => cases vs with
    | nil => rfl
    | cons v vs => cases h
  | cons p ps ih => cases vs with
    | nil => cases h
    | cons v vs =>
      unfold kx_fits at h
      obtain ⟨h1, h2⟩ := kx_and h
      have h3 := ih h2
      unfold lg_sl at h3 ⊢
      rw [List.map_cons, List.flatMap_cons, List.length_append, h3]
      show _ = (bif Nat.beq p 1 then 2 else 1) + kx_wd ps
      congr 1
      rcases v with x | x | ⟨t, o⟩
      · have e1 : p = 0 := Nat.eq_of_beq_eq_true h1
        subst e1
        rfl
      · have e1 : p = 1 := Nat.eq_of_beq_eq_true h1
        subst e1
        rfl
      · have e1 : p = t + 2 := Nat.eq_of_beq_eq_true h1
        subst e1
        have e2 : Nat.beq (t + 2) 1 = false := rfl
        rw [e2]
        cases o <;> rfl
theorem kx_in_lc (ι : Nat → Nat) (vs : List kx_V) : ∀ i, kx_lc ι (kx_in i vs) = lv_args i (vs.map (kx_cv ι)) := by
  induction vs with
  | nil => intro i; rfl
  | cons v vs ih =>
    intro i
    unfold kx_in lv_args
    have e1 : (bif kx_two v then i + 2 else i + 1) = if (kx_cv ι v).category = 2 then i + 2 else i + 1 := by
      rcases v with x | x | ⟨t, o⟩
      · rfl
      · rfl
      · cases o <;> rfl
    rw [e1]
    show (i, kx_cv ι v) :: kx_lc ι _ = _
    rw [ih]
    rfl
theorem kx_in_ok {h : kx_H} {vs : List kx_V} (hv : ∀ v ∈ vs, kx_ok h v) : ∀ i, ∀ q ∈ kx_in i vs, kx_ok h q.2 := by
  induction vs with
  | nil => intro i q hq; cases hq
  | cons v vs ih =>
    intro i q hq
    unfold kx_in at hq
    rcases List.mem_cons.mp hq with rfl | hq
    · exact hv v List.mem_cons_self
    · exact ih (fun w hw => hv w (List.mem_cons_of_mem _ hw)) _ q hq
section KM
variable {p : Program} {l : Launch} {e : Env} {R : Room} {s : State} {m : MethodId} {args : Array Value} {below : List Frame} {meth : Method} {c : Code} {H : Heap} {locs : List Loc} {cells slots : Nat} {Q : State → Prop}
variable {s0 : State} {D : va_G} {cA : Nat → ClassId} {cc : ByteArray} {own : String} {nL : Nat} {ι ι0 : Nat → Nat} {h h0 hf : kx_H} {rr : kx_R} {pc : Nat} {k : kx_F} {ls : Array Slot} {rest : List Value} {a t i : Nat} {r : vw_C}
/-- a method's contract out of its walk -/
theorem kx_meth {y : MethodName} {maxL : Nat} {ret : Option FieldType} (hcode : Cond.code y cc maxL ret ∈ kx_WS) (hy : plainName y.cls = true) {ps : List Nat} (hps : kx_wd ps ≤ maxL) {F : kx_F} {As : List kx_V} (hF : F (kx_in 0 As) [] h0 = some (rr, hf)) (hfit : kx_fits ps As = true) {rm : Room}
    (hcc : kx_cc ≤ rm.cells + hp_C h0) (hcs : kx_cs ≤ rm.slots + hp_U h0) (hcap : hp_C h0 ≤ kx_cc) (hcap2 : hp_U h0 ≤ kx_cs)
    (body : ∀ (p : Program) (e : Env) (s : State) (m : MethodId) (args : Array Value) (below : List Frame) (meth : Method) (c : Code), kx_G p e rm s m args meth c s0 D cA cc y.cls maxL h0 → meth.sig.returnType = ret → meth.name = y.name → c.exceptionTable.isEmpty = true → l.admits e → kx_Sn p l e rm s m args below meth c s0 D cA maxL ι0 h0 rr hf 0 F) : kx_Mt l s0 D cA y rm ι0 As h0 rr hf := by
  refine MetFree.of_bodyS (code := cc) (maxLocals := maxL) (ret := ret) hy ?_ ?_
  · intro args s m h hn
    obtain ⟨meth, c, h1, h2, h3, h4, h5, h6, -, -⟩ := Cond.code_spec hn (atoms_spec (ws := kx_WS) h _ hcode)
    exact ⟨meth, c, h1, h2, h3, h4, h5, h6⟩
  · intro p e s m args below meth c s₁ B hml hP _
    obtain ⟨rfl, hB, hPw, hok⟩ := hP
    have hts := atoms_spec (ws := kx_WS) B.pre
    have hh0 : s₁.heap = s.heap := by rw [B.state]; rfl
    have X := Stand.of_body B
    have G : kx_G p e rm s m (As.map (kx_cv ι0)).toArray meth c s0 D cA cc y.cls maxL h0 := ⟨B.exec, B.bytes, findClass_of_methodNamed B.named, hml, B.notSynchronized, hts, hB, hcc, hcs⟩
    have hl := lv_entry (As.map (kx_cv ι0)) (n := maxL) (by rw [kx_wd_ok hfit]; exact hps)
    rw [← kx_in_lc ι0 As 0] at hl
    have hw := body p e s m _ below meth c G B.returns (name_of_methodNamed B.named B.method).1 (B.noHandlers (hts _ hcode)) B.admits _ _ _ hF ι0 s.heap [] 0 0 _ hPw (kx_PA X (by rw [hh0]; exact hPw)) hl (fun v hv => by cases hv) (kx_in_ok hok 0) va_S.rf (by omega) (by omega) (fun _ _ => rfl) ⟨Nat.le_refl _, fun _ _ z => z, hcap, hcap2⟩
    obtain ⟨t, a1, o, b1, b2, b3⟩ := hw s₁ hh0 X
    refine ⟨t, o, ?_, b1, b2, b3⟩
    rw [lg_entry_eq]
    exact a1
theorem kx_loop {B : Nat → (Nat → kx_F) → kx_F} (hB : ∀ J, (∀ b, kx_Sn p l e R s m args below meth c s0 D cA nL ι0 h0 rr hf b (J b)) → ∀ b, kx_Sn p l e R s m args below meth c s0 D cA nL ι0 h0 rr hf b (B b J)) : ∀ n b, kx_Sn p l e R s m args below meth c s0 D cA nL ι0 h0 rr hf b (kx_ex B n b) := by
  intro n
  induction n with
  | zero => intro b lv st h hF; cases hF
  | succ n ih => intro b; exact hB _ ih b
theorem kx_s_no : kx_Sn p l e R s m args below meth c s0 D cA nL ι0 h0 rr hf pc (fun _ _ _ => none) := by
  intro lv st h hF
  cases hF
theorem kx_swl_spec {x : Int32} {cs : List (Int32 × kx_F)} {d : kx_F} {lv : kx_L} {st : List kx_V} {z : kx_R × kx_H} (hz : kx_swl x cs d lv st h = some z) : (∃ q ∈ cs, x = q.1 ∧ q.2 lv st h = some z) ∨ ((∀ q ∈ cs, ¬ x = q.1) ∧ d lv st h = some z) := by
  induction cs with
  | nil => exact Or.inr ⟨fun q hq => (by cases hq), hz⟩
  | cons q r ih =>
    unfold kx_swl at hz
    by_cases hq : x = q.1
    · rw [if_pos hq] at hz
      exact Or.inl ⟨q, List.mem_cons_self, hq, hz⟩
    · rw [if_neg hq] at hz
      rcases ih hz with ⟨q9, h1, h2⟩ | ⟨h1, h2⟩
      · exact Or.inl ⟨q9, List.mem_cons_of_mem _ h1, h2⟩
      · refine Or.inr ⟨fun q9 h9 => ?_, h2⟩
        rcases List.mem_cons.mp h9 with rfl | h9
        · exact hq
        · exact h1 q9 h9
theorem kx_s_tsw (G : kx_G p e R s m args meth c s0 D cA cc own nL h0) {dflt lo hi : Int} {offs : Array Int} {len tgtD : Nat} {cs : List (Int32 × kx_F)} {d : kx_F} (hd : decode cc pc = .ok (.tableswitch dflt lo hi offs, len)) (hD : (pc : Int) + dflt = (tgtD : Int)) (hdF : kx_Sn p l e R s m args below meth c s0 D cA nL ι0 h0 rr hf tgtD d)
    (hcs : ∀ q ∈ cs, ¬ q.1.toInt < lo ∧ ¬ hi < q.1.toInt ∧ ∃ (off : Int) (tgt : Nat), offs[(q.1.toInt - lo).toNat]? = some off ∧ (pc : Int) + off = (tgt : Int) ∧ kx_Sn p l e R s m args below meth c s0 D cA nL ι0 h0 rr hf tgt q.2) (hcov : ∀ x : Int32, (∀ q ∈ cs, ¬ x = q.1) → x.toInt < lo ∨ hi < x.toInt) : kx_Sn p l e R s m args below meth c s0 D cA nL ι0 h0 rr hf pc (kx_sw cs d) := by
  intro lv st h hF
  unfold kx_sw at hF
  split at hF
  · rename_i x r9
    intro ι H locs cells slots ls hP hA hl hs hv hS hC hU hI hE
    rcases kx_swl_spec hF with ⟨q, hq, rfl, hz⟩ | ⟨hn, hz⟩
    · obtain ⟨h1, h2, off, tgt, h3, h4, h5⟩ := hcs q hq
      exact lv_tableIn G.1 G.2.1 hd h1 h2 h3 h4 (h5 _ _ _ hz ι H locs cells slots ls hP hA hl (kx_okt hs) hv hS hC hU hI hE)
    · exact lv_tableOut G.1 G.2.1 hd (hcov x hn) hD (hdF _ _ _ hz ι H locs cells slots ls hP hA hl (kx_okt hs) hv hS hC hU hI hE)
  · cases hF
theorem kx_s_lsw (G : kx_G p e R s m args meth c s0 D cA cc own nL h0) {dflt : Int} {ps : Array (Int × Int)} {len tgtD : Nat} {cs : List (Int32 × kx_F)} {d : kx_F} (hd : decode cc pc = .ok (.lookupswitch dflt ps, len)) (hp : (ps.toList.zip (ps.toList.drop 1)).all (fun (a, next) => a.1 < next.1) = true) (hD : (pc : Int) + dflt = (tgtD : Int)) (hdF : kx_Sn p l e R s m args below meth c s0 D cA nL ι0 h0 rr hf tgtD d)
    (hcs : ∀ q ∈ cs, ∃ (off : Int) (tgt : Nat), Op.lookupswitch.offset ps.toList dflt q.1.toInt = off ∧ (pc : Int) + off = (tgt : Int) ∧ kx_Sn p l e R s m args below meth c s0 D cA nL ι0 h0 rr hf tgt q.2) (hcov : ∀ x : Int32, (∀ q ∈ cs, ¬ x = q.1) → Op.lookupswitch.offset ps.toList dflt x.toInt = dflt) : kx_Sn p l e R s m args below meth c s0 D cA nL ι0 h0 rr hf pc (kx_sw cs d) := by
  intro lv st h hF
  unfold kx_sw at hF
  split at hF
  · rename_i x r9
    intro ι H locs cells slots ls hP hA hl hs hv hS hC hU hI hE
    rcases kx_swl_spec hF with ⟨q, hq, rfl, hz⟩ | ⟨hn, hz⟩
    · obtain ⟨off, tgt, h3, h4, h5⟩ := hcs q hq
      exact lv_lookup G.1 G.2.1 hd hp h3 h4 (h5 _ _ _ hz ι H locs cells slots ls hP hA hl (kx_okt hs) hv hS hC hU hI hE)
    · exact lv_lookup G.1 G.2.1 hd hp (hcov x hn) hD (hdF _ _ _ hz ι H locs cells slots ls hP hA hl (kx_okt hs) hv hS hC hU hI hE)
  · cases hF
end KM
end
section
theorem kx_static {A A' : Array Value} {s0 U : State} (hW : s0.WarmedH U.vm) (hh : ∀ q : Nat, q < s0.heap.size → U.heap[q]? = s0.heap[q]?) {C n d : String} (hl : (Cond.laysStatic C n d).before A s0 = true) (hini : (Cond.initialized C).before A s0 = true) (h : (Cond.isRef (.static C n d)).before A s0 = true) : (Cond.isRef (.static C n d)).before A' U = true := by
  have z := va_Zqof (A := fun q => s0.heap.size ≤ q) hl hini h (fun a ha => by omega)
  have z2 := (z.moved hW.alike).kept (H1 := U.heap) (fun a h1 h2 => hh a h1)
  rcases z2 with z3 | ⟨t, z3⟩
  · obtain ⟨cf, kf, fi, f, a, cell, h1, h2, h3, h4, h5, h6, h7, -⟩ := z3
    simp [Cond.before, Cond.holds, Cond.value, Term.eval, State.fieldNamed?, h1, h2, h4, h5, h6, h7]
  · obtain ⟨cf, kf, fi, f, a, cell, h1, h2, h3, h4, h5, h6, h7, -⟩ := z3
    simp [Cond.before, Cond.holds, Cond.value, Term.eval, State.fieldNamed?, h1, h2, h4, h5, h6, h7]
theorem kx_staticL {A A' : Array Value} {s0 U : State} (hW : s0.WarmedH U.vm) (hh : ∀ q : Nat, q < s0.heap.size → U.heap[q]? = s0.heap[q]?) {C n d : String} (hl : (Cond.laysStatic C n d).before A s0 = true) : (Cond.laysStatic C n d).before A' U = true := by
  have h1 : (Cond.laysStatic C n d).before A (s0.setVm U.vm) = true := Cond.holds_shifted (State.Shifted.of_warmed hW) _ [] rfl hl
  obtain ⟨c, k, i, f, a, cell, hc, hi, hst, ha, hcell, hs, hcls, hlt, hty⟩ := Cond.laysStatic_spec h1
  have hcell' : U.heap[a]? = some cell := by
    have z : s0.heap[a]? = some cell := hcell
    rw [hh a (Array.getElem?_eq_some_iff.mp z).1]
    exact z
  have hc' : U.vm.findClass C = some c := hc
  have hi' : U.fieldFound? C n d = some (c, k, i, f) := hi
  simp [Cond.before, Cond.holds, Cond.value, hc', hi', hst, ha, hcell', hs, hcls, hlt, hty]
/-- the exceptions' words: of a class that makes one, its constructor's place there -/
def kx_ta (own : String) (ic e : Nat) : List Cond := Bundle.ownAtoms own ic (kx_en e) ["java/lang/RuntimeException", "java/lang/Exception"]
def kx_sr (n d : String) : Cond := .isRef (.static Bundle.tN n d)
def kx_T0 (s0 : State) : Prop := ∀ q ∈ kx_ths, ∃ A, ∀ w ∈ kx_ta q.1 q.2.1 q.2.2, w.before A s0 = true
theorem kx_ta_ok {own : String} {ic e : Nat} (hq : (own, ic, e) ∈ kx_ths) : ∀ w ∈ kx_ta own ic e, kx_kb w = true ∨ w = kx_sr "UNASSIGNED_STACK" Bundle.steD ∨ w = kx_sr "SUPPRESSED_SENTINEL" Bundle.listD ∨ w = .laysStatic Bundle.tN "UNASSIGNED_STACK" Bundle.steD ∨ w = .laysStatic Bundle.tN "SUPPRESSED_SENTINEL" Bundle.listD := by
  have h : ∀ q ∈ kx_ths, ∀ w ∈ kx_ta q.1 q.2.1 q.2.2, kx_kb w = true ∨ w = kx_sr "UNASSIGNED_STACK" Bundle.steD ∨ w = kx_sr "SUPPRESSED_SENTINEL" Bundle.listD ∨ w = .laysStatic Bundle.tN "UNASSIGNED_STACK" Bundle.steD ∨ w = .laysStatic Bundle.tN "SUPPRESSED_SENTINEL" Bundle.listD := by decide +kernel
  exact h _ hq
theorem kx_ta_at {s0 U : State} (hT : kx_T0 s0) (hW : s0.WarmedH U.vm) (hh : ∀ q : Nat, q < s0.heap.size → U.heap[q]? = s0.heap[q]?) {own : String} {ic e : Nat} (hq : (own, ic, e) ∈ kx_ths) (A' : Array Value) : ∀ w ∈ kx_ta own ic e, w.before A' U = true := by
  intro w hw
  obtain ⟨A, hA⟩ := hT _ hq
  rcases kx_ta_ok hq w hw with h | h | h | h | h
  · exact kx_kb_ok h A A' s0 U hW (hA w hw)
  · subst h
    exact kx_static hW hh (hA (.laysStatic Bundle.tN "UNASSIGNED_STACK" Bundle.steD) (by simp [kx_ta, Bundle.ownAtoms, Bundle.throwableAtoms])) (hA (.initialized Bundle.tN) (by simp [kx_ta, Bundle.ownAtoms, Bundle.throwableAtoms])) (hA _ hw)
  · subst h
    exact kx_static hW hh (hA (.laysStatic Bundle.tN "SUPPRESSED_SENTINEL" Bundle.listD) (by simp [kx_ta, Bundle.ownAtoms, Bundle.throwableAtoms])) (hA (.initialized Bundle.tN) (by simp [kx_ta, Bundle.ownAtoms, Bundle.throwableAtoms])) (hA _ hw)
  · subst h
    exact kx_staticL hW hh (hA _ hw)
  · subst h
    exact kx_staticL hW hh (hA _ hw)
section KR
variable {p : Program} {l : Launch} {e : Env} {R : Room} {s : State} {m : MethodId} {args : Array Value} {below : List Frame} {meth : Method} {c : Code} {H : Heap} {locs : List Loc} {cells slots : Nat} {Q : State → Prop}
variable {s0 : State} {D : va_G} {cA : Nat → ClassId} {cc : ByteArray} {own : String} {nL : Nat} {ι ι0 : Nat → Nat} {h h0 hf : kx_H} {rr : kx_R} {pc : Nat} {k : kx_F} {ls : Array Slot} {rest : List Value} {a t i : Nat} {r : vw_C}
/-- the walk, as if its method began here -/
theorem kx_rebase {T : State} (X : Stand p l e R s m args below meth c T locs cells slots) (hc : cells ≤ R.cells) (hs : slots ≤ R.slots) :
    Stand p l e { frames := R.frames, cells := R.cells - cells, slots := R.slots - slots, locals := R.locals } (T.setFrames (.invoking m args :: below)) m args below meth c T [] 0 0 := by
  obtain ⟨g₀, hfr⟩ := X.frames_eq
  have hcur := State.cur_lt_of_frames hfr
  obtain ⟨th, hth, -⟩ := State.frames_cons hfr
  have hf : (T.setFrames (.invoking m args :: below)).frames = .invoking m args :: below := State.frames_setFrames _ hcur
  have hm : (T.setFrames (.invoking m args :: below)).vm.method? m = some meth := X.method'
  refine ⟨X.admits, X.cas, X.clock, hf, ?_, ?_, hm, X.code, X.here, X.tail, State.WarmedH.refl _, ?_, ?_, ?_⟩
  · have h1 := X.room
    simp only [State.hasRoom, Bool.and_eq_true, decide_eq_true_eq] at h1 ⊢
    rw [State.localsInUse_invoking hf hm X.code, State.stackLimits_setFrames, State.stackBytes_setFrames, hf, X.limits, X.bytes]
    rw [State.localsInUse_invoking X.frames X.method X.code, X.frames] at h1
    have h2 := X.heapSize
    have h3 := X.used
    refine ⟨⟨⟨h1.1.1.1, ?_⟩, ?_⟩, X.book⟩
    · have h4 := h1.1.1.2
      show T.heap.size + (R.cells - cells) ≤ _
      omega
    · have h4 := h1.1.2
      show T.slotsUsed + (R.slots - slots) ≤ _
      omega
  · have h1 := X.hears
    unfold State.hears at h1 ⊢
    have hal := X.warmed.alike
    cases below with
    | nil =>
      simp only at h1 ⊢
      rw [hm]
      rw [X.method] at h1
      exact h1
    | cons f r =>
      cases f <;> simp only at h1 ⊢ <;> first
        | exact h1
        | (rw [hm]; rw [X.method] at h1; exact h1)
        | (rw [State.code?_eq] at h1 ⊢; show ((T.vm.method? _).bind _ |>.bind _).isSome = true; rw [hal.method?]; exact h1)
  · rw [State.stackLimits_setFrames]
  · rw [State.stackBytes_setFrames]
  · refine ⟨?_, Nat.le_refl _, Nat.le_refl _, ?_, ?_, fun a c hc => ⟨c, hc, rfl, rfl, fun _ _ => rfl⟩⟩
    · show T = { (T.setFrames (.invoking m args :: below)).setFrames T.frames with heap := T.heap, slotsUsed := T.slotsUsed }
      rw [State.setFrames_setFrames, State.setFrames_self hth]
    · show T.slotsUsed = T.slotsUsed + ((T.heap.toList.drop T.heap.size).map (·.slots.size)).sum
      rw [List.drop_of_length_le (by simp)]
      rfl
    · show ((T.heap.toList.drop T.heap.size).map (·.slots.size)).sum ≤ 0
      rw [List.drop_of_length_le (by simp)]
      exact Nat.le_refl _
end KR
end
section
section KH
variable {p : Program} {l : Launch} {e : Env} {R : Room} {s : State} {m : MethodId} {args : Array Value} {below : List Frame} {meth : Method} {c : Code} {H : Heap} {locs : List Loc} {cells slots : Nat} {Q : State → Prop}
variable {s0 : State} {D : va_G} {cA : Nat → ClassId} {cc : ByteArray} {own : String} {nL : Nat} {ι ι0 : Nat → Nat} {h h0 hf : kx_H} {rr : kx_R} {pc : Nat} {k : kx_F} {ls : Array Slot} {rest : List Value} {a t i : Nat} {r : vw_C}
theorem kx_P_keep {H' : Heap} {k9 n9 : Nat} (hP : kx_P s0 D cA ι h H) (hz : s0.heap.size ≤ H.size) (hq : ∀ q : Nat, q < H.size → H'[q]? = H[q]?) : kx_P s0 D cA ι (hp_bump h k9 n9) H' := by
  refine ⟨fun b t' hb => ?_, hP.2.1, hP.2.2.1, hP.2.2.2⟩
  have hlt := kx_P_lt hP hz hb
  obtain ⟨g1, g2, g3, g4⟩ := hP.1 b t' hb
  refine ⟨g1, fun z => ?_, fun z => ?_, fun z => ?_⟩
  · obtain ⟨x1, x2⟩ := g2 z
    exact ⟨x1.kept (hq _ hlt), x2⟩
  · obtain ⟨x0, r', x1, x2⟩ := g3 z
    exact ⟨x0, r', x1, x2.kept (hq _ hlt)⟩
  · obtain ⟨x0, x1⟩ := g4 z
    exact ⟨x0, by rw [hq _ hlt]; exact x1⟩
/-- ldc of a String, short or wide -/
def kx_ld (cc : ByteArray) (pc i w : Nat) : Prop := (w = 2 ∧ decode cc pc = .ok (.ldc i, 2)) ∨ (w = 3 ∧ decode cc pc = .ok (.ldc_w i, 3))
theorem kx_ldcs (hx : p.tables.exec = Jvm.exec) (hb : c.code = cc) {tx : String} {w : Nat} (hown : s.vm.findClass own = some m.cls) (hw : (Cond.stringRef own i tx).before args s = true) (hd : kx_ld cc pc i w)
    (kk : ∀ q : Nat, W p l e R s m args below meth c H locs cells slots Q (F0 m (pc + w) ls (.ref q :: rest))) : W p l e R s m args below meth c H locs cells slots Q (F0 m pc ls rest) := by
  obtain ⟨k, cf, j, a', -, -, -, -, -, hev⟩ := Cond.stringRef_spec hown hw
  intro T hT X
  rcases hd with ⟨rfl, hd⟩ | ⟨rfl, hd⟩
  · obtain ⟨t, a1, b1⟩ := kk a' T hT X
    exact ⟨t, X.ldcString hx hown (text := tx) (a := a') hw hev (g := F0 m pc ls rest) rfl (by rw [hb]; exact hd) t a1, b1⟩
  · obtain ⟨t, a1, b1⟩ := kk a' T hT X
    exact ⟨t, X.ldcStringW hx hown (text := tx) (a := a') hw hev (g := F0 m pc ls rest) rfl (by rw [hb]; exact hd) t a1, b1⟩
theorem kx_s_th (G : kx_G p e R s m args meth c s0 D cA cc own nL h0) (hT0 : kx_T0 s0) (hfl : l.flags = pinnedFlags ++ [noTraceFlag]) {ic ex i9 i8 w : Nat} {tx : String} (hq : (own, ic, ex) ∈ kx_ths) (hfit : Bundle.fit (kx_en ex) = true) (h1 : Cond.classLink own i9 (kx_en ex) ∈ kx_WS) (h2 : Cond.instantiable (kx_en ex) 6 ∈ kx_WS) (h3 : Cond.initialized (kx_en ex) ∈ kx_WS) (h4 : Cond.stringRef own i8 tx ∈ kx_WS)
    (hd0 : decode cc pc = .ok (.new i9, 3)) (hd1 : decode cc (pc + 3) = .ok (.dup, 1)) (hd2 : kx_ld cc (pc + 4) i8 w) (hd3 : decode cc (pc + 4 + w) = .ok (.invokespecial ic, 3)) (hd4 : decode cc (pc + 4 + w + 3) = .ok (.athrow, 1)) (hfr : 6 ≤ R.frames) (hlo : 100 ≤ R.locals) (hout : ∀ pc, ∀ x ∈ c.exceptionTable.toList, covers x pc = false) : kx_Sn p l e R s m args below meth c s0 D cA nL ι0 h0 rr hf pc (kx_th kx_cc kx_cs ex) := by
  intro lv st h hF
  unfold kx_th at hF
  split at hF
  · split at hF
    · rename_i hroom
      cases hF
      intro ι H locs cells slots ls hP hA hl hs hv hS hC hU hI hE
      obtain ⟨hx, hb, hown, hml, hlocks, hts, hB, hcc, hcs⟩ := id G
      intro T hT X
      have hc1 : cells + 1 ≤ R.cells := by omega
      have hs1 : slots + 6 ≤ R.slots := by omega
      have X' := kx_rebase X (by omega) (by omega)
      have hW' : s.WarmedH (T.setFrames (.invoking m args :: below)).vm := X.warmed
      have hh' : (T.setFrames (.invoking m args :: below)).heap = H := hT
      have hvm' : (T.setFrames (.invoking m args :: below)).vm = T.vm := rfl
      generalize hs' : T.setFrames (.invoking m args :: below) = s' at X' hW' hh' hvm'
      have hts' : ∀ w ∈ kx_WS, w.before args s' = true := fun w hw => kx_good w hw args args s s' hW' (hts w hw)
      have hown' : s'.vm.findClass own = some m.cls := by rw [hW'.alike.findClass]; exact hown
      have hBU := kx_BU hB hW' (by rw [hh']; exact hS)
      have hta := kx_ta_at hT0 hBU.1 hBU.2.2.2.2 hq args
      obtain ⟨cX, kX, hfX, hkX, -⟩ := Cond.instantiable_spec (hts' _ h2)
      have hin : W p l e { frames := R.frames, cells := R.cells - cells, slots := R.slots - slots, locals := R.locals } s' m args below meth c H [] 0 0 (fun t => t.status = .running ∧ Ended t below (.threw H.size) ∧ s'.WarmedH t.vm ∧ s'.sameButNew ({ t with vm := s'.vm } : State) [] 1 6 ∧ ∃ ce, t.heap[H.size]? = some ce ∧ ce.vm = .none ∧ s'.vm.findClass (kx_en ex) = some ce.cls) (F0 m pc ls []) := by
        refine W.newcK hx hb hown' (hts' _ h1) (hts' _ h2) (hts' _ h3) rfl hd0 (by show 0 + 1 ≤ R.cells - cells; omega) (by show 0 + 6 ≤ R.slots - slots; omega) hfX rfl fun H' kC hkC e1 e2 e3 => ?_
        refine lv_dup hx hb hd1 rfl ?_
        refine kx_ldcs hx hb hown' (hts' _ h4) hd2 fun q => ?_
        intro T2 hT2 X2
        obtain ⟨U, u1, u2, u3, u4, u5, ce, u6, u7⟩ := X2.ctorThrowS hx (Launch.traces_off hfl X2.admits) hown' hfit (by decide +kernel) hta (fun x hx => by cases hx) (a := H.size) (cX := cX) (kX := kC) hfX hkC (by rw [hT2]; exact e1) (by rw [hh']; exact Nat.le_refl _) (msg := .ref q) rfl (g := F0 m (pc + 4 + w) ls [.ref q, .ref H.size, .ref H.size]) rfl (by show ls.size = _; rw [hml]; exact hl.1) rfl rfl (rest := []) rfl (by rw [hb]; exact hd3) (by rw [hb]; exact hd4) (hout _) (by show 2 + 3 < R.frames; omega) (by show 2 * 0 + (1 + 0) + (13 * (2 + 1) + 42) ≤ R.locals; omega) hlocks
        exact ⟨U, u1, u2, u3, u4, u5, ce, u6, u7.vm, u7.cls⟩
      obtain ⟨t, a1, b1, b2, b3, b4, ce, b5, b6, b7⟩ := hin T hT X'
      have hkeep : ∀ q : Nat, q < H.size → t.heap[q]? = H[q]? := by
        intro q hq9
        have z : s'.heap[q]? = some H[q] := by rw [hh']; exact Array.getElem?_eq_getElem hq9
        have z2 := b4.old_cell z
        rw [Array.getElem?_eq_getElem hq9]
        exact z2
      have hz : s0.heap.size ≤ H.size := Nat.le_trans hB.2.2.2.1 hS.1
      have hsame : T.sameButNew ({ t with vm := T.vm } : State) [] 1 6 := by
        obtain ⟨z1, z2⟩ := b4
        rw [← hs'] at z1 z2
        refine ⟨?_, z2⟩
        rw [State.setFrames_setFrames] at z1
        exact z1
      have hfin := X.same.trans (hsame.setVm s.vm)
      rw [List.append_nil] at hfin
      refine ⟨t, a1, .threw H.size, b1, b2, ι, locs, cells + 1, slots + 6, hI, kx_P_keep hP hz hkeep, ⟨H.size, ce, rfl, b5, (by rw [b6]; rfl), (by rw [b6]; exact fun z => (by cases z)), ?_⟩, State.WarmedH.trans hW' b3, hfin, hS.2.2, fun q hq9 => ?_, ?_, ?_, ?_⟩
      · rw [b3.alike.findClass]; exact b7
      · rw [hkeep q (Nat.lt_of_lt_of_le hq9 hz)]
        exact hS.2.1 q (Nat.lt_of_lt_of_le hq9 hB.2.2.2.1) (fun z => absurd z.1 (by omega))
      · show hp_C h0 + (cells + 1) = hp_C h + 1; omega
      · show hp_U h0 + (slots + 6) = hp_U h + 6; omega
      · exact ⟨hE.1, hE.2.1, hroom.1, hroom.2⟩
    · cases hF
  · cases hF
end KH
end
section
section KX
variable {p : Program} {l : Launch} {e : Env} {R : Room} {s : State} {m : MethodId} {args : Array Value} {below : List Frame} {meth : Method} {c : Code} {H : Heap} {locs : List Loc} {cells slots : Nat} {Q : State → Prop}
variable {s0 : State} {D : va_G} {cA : Nat → ClassId} {cc : ByteArray} {own : String} {nL : Nat} {ι ι0 : Nat → Nat} {h h0 hf : kx_H} {rr : kx_R} {pc : Nat} {k : kx_F} {ls : Array Slot} {rest : List Value} {a t i : Nat} {r : vw_C}
/-- all that a block's walk leans on -/
def kx_X (p : Program) (l : Launch) (e : Env) (R : Room) (s : State) (m : MethodId) (args : Array Value) (below : List Frame) (meth : Method) (c : Code) (s0 : State) (D : va_G) (cA : Nat → ClassId) (nL : Nat) (ι0 : Nat → Nat) (h0 : kx_H) (rr : kx_R) (hf : kx_H) (cc : ByteArray) (own : String) (C : kx_C) (d : Nat) (ret : Option FieldType) (nm : String) (J : Nat → kx_F) : Prop :=
  kx_G p e R s m args meth c s0 D cA cc own nL h0 ∧ kx_cs9 l s0 D cA C d ∧ kx_need (d + 1) R ∧ (∀ pc, ∀ x ∈ c.exceptionTable.toList, covers x pc = false) ∧ meth.sig.returnType = ret ∧ meth.name = nm ∧ kx_T0 s0 ∧ l.flags = pinnedFlags ++ [noTraceFlag] ∧ ∀ b, kx_Sn p l e R s m args below meth c s0 D cA nL ι0 h0 rr hf b (J b)
theorem kx_sub {ws : List Cond} (is : List Nat) (h : ws = is.filterMap (fun i => lw_tbl[i]?)) (hk : ws.all kx_kb = true) : ∀ w ∈ ws, w ∈ kx_WS := by
  intro w hw
  have h1 := List.all_eq_true.mp hk w hw
  rw [h] at hw
  obtain ⟨i, -, hi⟩ := List.mem_filterMap.mp hw
  exact kx_in_ws (List.mem_of_getElem? hi) h1
theorem kx_wd1 {w : Cond} (i : Nat) (h : lw_tbl[i]? = some w) (hk : kx_kb w = true) : w ∈ kx_WS := kx_in_ws (List.mem_of_getElem? h) hk
theorem kx_s_thd (G : kx_G p e R s m args meth c s0 D cA cc own nL h0) (hT0 : kx_T0 s0) (hfl : l.flags = pinnedFlags ++ [noTraceFlag]) {d ic ex i9 i8 w : Nat} {tx : String} (hR : kx_need (d + 1) R) (hq : (own, ic, ex) ∈ kx_ths) (hfit : Bundle.fit (kx_en ex) = true) (h1 : Cond.classLink own i9 (kx_en ex) ∈ kx_WS) (h2 : Cond.instantiable (kx_en ex) 6 ∈ kx_WS) (h3 : Cond.initialized (kx_en ex) ∈ kx_WS) (h4 : Cond.stringRef own i8 tx ∈ kx_WS)
    (hd0 : decode cc pc = .ok (.new i9, 3)) (hd1 : decode cc (pc + 3) = .ok (.dup, 1)) (hd2 : kx_ld cc (pc + 4) i8 w) (hd3 : decode cc (pc + 4 + w) = .ok (.invokespecial ic, 3)) (hd4 : decode cc (pc + 4 + w + 3) = .ok (.athrow, 1)) (hout : ∀ pc, ∀ x ∈ c.exceptionTable.toList, covers x pc = false) : kx_Sn p l e R s m args below meth c s0 D cA nL ι0 h0 rr hf pc (kx_thd kx_cc kx_cs d ex) := by
  unfold kx_thd
  cases hz : Nat.ble 3 d with
  | false => exact kx_s_no
  | true =>
    have h9 := Nat.le_of_ble_eq_true hz
    exact kx_s_th G hT0 hfl hq hfit h1 h2 h3 h4 hd0 hd1 hd2 hd3 hd4 (by have := hR.1; omega) (by have := hR.2; omega) hout
theorem kx_s_pop2 (G : kx_G p e R s m args meth c s0 D cA cc own nL h0) (hd : decode cc pc = .ok (.pop2, 1)) (hk : kx_Sn p l e R s m args below meth c s0 D cA nL ι0 h0 rr hf (pc + 1) k) : kx_Sn p l e R s m args below meth c s0 D cA nL ι0 h0 rr hf pc (kx_pop2 k) := by
  intro lv st h hF
  unfold kx_pop2 at hF
  split at hF
  · intro ι H locs cells slots ls hP hA hl hs hv hS hC hU hI hE
    exact lv_pop2_2 G.1 G.2.1 hd rfl (hk _ _ _ hF ι H locs cells slots ls hP hA hl (kx_okt hs) hv hS hC hU hI hE)
  · cases hF
theorem kx_tq {lo hi : Int} {offs : Array Int} {v : Int32} {F : kx_F} (off : Int) (tgt : Nat) (h1 : ¬ v.toInt < lo) (h2 : ¬ hi < v.toInt) (h3 : offs[(v.toInt - lo).toNat]? = some off) (h4 : (pc : Int) + off = (tgt : Int)) (h5 : kx_Sn p l e R s m args below meth c s0 D cA nL ι0 h0 rr hf tgt F) : ¬ ((v, F) : Int32 × kx_F).1.toInt < lo ∧ ¬ hi < ((v, F) : Int32 × kx_F).1.toInt ∧ ∃ (off : Int) (tgt : Nat), offs[(((v, F) : Int32 × kx_F).1.toInt - lo).toNat]? = some off ∧ (pc : Int) + off = (tgt : Int) ∧ kx_Sn p l e R s m args below meth c s0 D cA nL ι0 h0 rr hf tgt ((v, F) : Int32 × kx_F).2 := ⟨h1, h2, off, tgt, h3, h4, h5⟩
theorem kx_lq {dflt : Int} {ps : Array (Int × Int)} {v : Int32} {F : kx_F} (off : Int) (tgt : Nat) (h3 : Op.lookupswitch.offset ps.toList dflt v.toInt = off) (h4 : (pc : Int) + off = (tgt : Int)) (h5 : kx_Sn p l e R s m args below meth c s0 D cA nL ι0 h0 rr hf tgt F) : ∃ (off : Int) (tgt : Nat), Op.lookupswitch.offset ps.toList dflt ((v, F) : Int32 × kx_F).1.toInt = off ∧ (pc : Int) + off = (tgt : Int) ∧ kx_Sn p l e R s m args below meth c s0 D cA nL ι0 h0 rr hf tgt ((v, F) : Int32 × kx_F).2 := ⟨off, tgt, h3, h4, h5⟩
end KX
end
section
/-! the words, fields, arrays, callees that the blocks lean on: printed by wip/tools/blocks.py -/
abbrev kr_0 : vw_C := ("TaskDesk", kt_F0, 18)
set_option maxRecDepth 20000 in
theorem ki_0 : ∀ w ∈ u_ws (kr_0).1 (kr_0).2.1 (kr_0).2.2, w ∈ kx_WS := kx_sub [381, 383, 385, 387, 389, 391, 393, 395, 397, 399, 401, 403, 405, 407, 409, 411, 413, 415] (by decide +kernel) (by decide +kernel)
theorem ky_0 : ∀ k, k < (kr_0).2.2 → parseFieldDescriptor ((kr_0).2.1 k).2.2.1 = some (kt_y0 k) := by decide +kernel
theorem kd_0 : ∀ k, k < (kr_0).2.2 → defaultValue (kt_y0 k) = kx_dv (kx_ft 0 k).1 := by decide +kernel
abbrev kr_1 : vw_C := ("TaskDesk$Agenda", kt_F1, 2)
set_option maxRecDepth 20000 in
theorem ki_1 : ∀ w ∈ u_ws (kr_1).1 (kr_1).2.1 (kr_1).2.2, w ∈ kx_WS := kx_sub [160, 162] (by decide +kernel) (by decide +kernel)
theorem ky_1 : ∀ k, k < (kr_1).2.2 → parseFieldDescriptor ((kr_1).2.1 k).2.2.1 = some (kt_y1 k) := by decide +kernel
theorem kd_1 : ∀ k, k < (kr_1).2.2 → defaultValue (kt_y1 k) = kx_dv (kx_ft 1 k).1 := by decide +kernel
abbrev kr_2 : vw_C := ("TaskDesk$Channel", kt_F2, 10)
set_option maxRecDepth 20000 in
theorem ki_2 : ∀ w ∈ u_ws (kr_2).1 (kr_2).2.1 (kr_2).2.2, w ∈ kx_WS := kx_sub [190, 192, 194, 196, 198, 200, 202, 204, 206, 208] (by decide +kernel) (by decide +kernel)
theorem ky_2 : ∀ k, k < (kr_2).2.2 → parseFieldDescriptor ((kr_2).2.1 k).2.2.1 = some (kt_y2 k) := by decide +kernel
theorem kd_2 : ∀ k, k < (kr_2).2.2 → defaultValue (kt_y2 k) = kx_dv (kx_ft 2 k).1 := by decide +kernel
abbrev kr_3 : vw_C := ("TaskDesk$Gate", kt_F3, 6)
set_option maxRecDepth 20000 in
theorem ki_3 : ∀ w ∈ u_ws (kr_3).1 (kr_3).2.1 (kr_3).2.2, w ∈ kx_WS := kx_sub [320, 322, 324, 326, 328, 330] (by decide +kernel) (by decide +kernel)
theorem ky_3 : ∀ k, k < (kr_3).2.2 → parseFieldDescriptor ((kr_3).2.1 k).2.2.1 = some (kt_y3 k) := by decide +kernel
theorem kd_3 : ∀ k, k < (kr_3).2.2 → defaultValue (kt_y3 k) = kx_dv (kx_ft 3 k).1 := by decide +kernel
abbrev kr_4 : vw_C := ("TaskDesk$Place", kt_F4, 9)
set_option maxRecDepth 20000 in
theorem ki_4 : ∀ w ∈ u_ws (kr_4).1 (kr_4).2.1 (kr_4).2.2, w ∈ kx_WS := kx_sub [237, 239, 241, 243, 245, 247, 249, 251, 253] (by decide +kernel) (by decide +kernel)
theorem ky_4 : ∀ k, k < (kr_4).2.2 → parseFieldDescriptor ((kr_4).2.1 k).2.2.1 = some (kt_y4 k) := by decide +kernel
theorem kd_4 : ∀ k, k < (kr_4).2.2 → defaultValue (kt_y4 k) = kx_dv (kx_ft 4 k).1 := by decide +kernel
abbrev kr_5 : vw_C := ("TaskDesk$Row", kt_F5, 3)
set_option maxRecDepth 20000 in
theorem ki_5 : ∀ w ∈ u_ws (kr_5).1 (kr_5).2.1 (kr_5).2.2, w ∈ kx_WS := kx_sub [122, 124, 126] (by decide +kernel) (by decide +kernel)
theorem ky_5 : ∀ k, k < (kr_5).2.2 → parseFieldDescriptor ((kr_5).2.1 k).2.2.1 = some (kt_y5 k) := by decide +kernel
theorem kd_5 : ∀ k, k < (kr_5).2.2 → defaultValue (kt_y5 k) = kx_dv (kx_ft 5 k).1 := by decide +kernel
abbrev kr_6 : vw_C := ("TaskDesk$Task", kt_F6, 10)
set_option maxRecDepth 20000 in
theorem ki_6 : ∀ w ∈ u_ws (kr_6).1 (kr_6).2.1 (kr_6).2.2, w ∈ kx_WS := kx_sub [281, 283, 285, 287, 289, 291, 293, 295, 297, 299] (by decide +kernel) (by decide +kernel)
theorem ky_6 : ∀ k, k < (kr_6).2.2 → parseFieldDescriptor ((kr_6).2.1 k).2.2.1 = some (kt_y6 k) := by decide +kernel
theorem kd_6 : ∀ k, k < (kr_6).2.2 → defaultValue (kt_y6 k) = kx_dv (kx_ft 6 k).1 := by decide +kernel
abbrev kr_7 : vw_C := ("TaskDesk$Timer", kt_F7, 4)
set_option maxRecDepth 20000 in
theorem ki_7 : ∀ w ∈ u_ws (kr_7).1 (kr_7).2.1 (kr_7).2.2, w ∈ kx_WS := kx_sub [148, 150, 152, 154] (by decide +kernel) (by decide +kernel)
theorem ky_7 : ∀ k, k < (kr_7).2.2 → parseFieldDescriptor ((kr_7).2.1 k).2.2.1 = some (kt_y7 k) := by decide +kernel
theorem kd_7 : ∀ k, k < (kr_7).2.2 → defaultValue (kt_y7 k) = kx_dv (kx_ft 7 k).1 := by decide +kernel
abbrev kr_8 : vw_C := ("TaskDesk$Value", kt_F8, 2)
set_option maxRecDepth 20000 in
theorem ki_8 : ∀ w ∈ u_ws (kr_8).1 (kr_8).2.1 (kr_8).2.2, w ∈ kx_WS := kx_sub [342, 344] (by decide +kernel) (by decide +kernel)
theorem ky_8 : ∀ k, k < (kr_8).2.2 → parseFieldDescriptor ((kr_8).2.1 k).2.2.1 = some (kt_y8 k) := by decide +kernel
theorem kd_8 : ∀ k, k < (kr_8).2.2 → defaultValue (kt_y8 k) = kx_dv (kx_ft 8 k).1 := by decide +kernel
abbrev kr_9 : vw_C := ("TaskDeskModel", kt_F9, 42)
set_option maxRecDepth 20000 in
theorem ki_9 : ∀ w ∈ u_ws (kr_9).1 (kr_9).2.1 (kr_9).2.2, w ∈ kx_WS := kx_sub [972, 974, 976, 978, 980, 982, 984, 986, 988, 990, 992, 994, 996, 998, 1000, 1002, 1004, 1006, 1008, 1010, 1012, 1014, 1016, 1018, 1020, 1022, 1024, 1026, 1028, 1030, 1032, 1034, 1036, 1038, 1040, 1042, 1044, 1046, 1048, 1050, 1052, 1054] (by decide +kernel) (by decide +kernel)
theorem ky_9 : ∀ k, k < (kr_9).2.2 → parseFieldDescriptor ((kr_9).2.1 k).2.2.1 = some (kt_y9 k) := by decide +kernel
theorem kd_9 : ∀ k, k < (kr_9).2.2 → defaultValue (kt_y9 k) = kx_dv (kx_ft 9 k).1 := by decide +kernel
theorem ka_99 : kx_ar 99 0 0 (.int) := ⟨fun _ => rfl, by decide, rfl⟩
theorem ka_100 : kx_ar 100 1 0 (.long) := ⟨fun _ => rfl, by decide, rfl⟩
theorem ka_101 : kx_ar 101 3 0 (.boolean) := ⟨fun _ => rfl, by decide, rfl⟩
theorem ka_102 : kx_ar 102 2 6 (.object "TaskDesk$Task") := ⟨fun _ => rfl, by decide, rfl⟩
theorem ka_103 : kx_ar 103 2 2 (.object "TaskDesk$Channel") := ⟨fun _ => rfl, by decide, rfl⟩
theorem ka_104 : kx_ar 104 2 4 (.object "TaskDesk$Place") := ⟨fun _ => rfl, by decide, rfl⟩
theorem ka_105 : kx_ar 105 2 3 (.object "TaskDesk$Gate") := ⟨fun _ => rfl, by decide, rfl⟩
theorem kw_0 : (Jvm.Cond.selects "TaskDesk" ⟨"TaskDesk", "keepValue", "(LTaskDesk$Value;)V"⟩ ⟨"TaskDesk", "keepValue", "(LTaskDesk$Value;)V"⟩) ∈ kx_WS := kx_wd1 0 (by decide +kernel) rfl
theorem kw_1 : (Jvm.Cond.selects "TaskDesk" ⟨"TaskDesk", "keepPlace", "(LTaskDesk$Place;)V"⟩ ⟨"TaskDesk", "keepPlace", "(LTaskDesk$Place;)V"⟩) ∈ kx_WS := kx_wd1 1 (by decide +kernel) rfl
theorem kw_2 : (Jvm.Cond.selects "TaskDesk" ⟨"TaskDesk", "channelAt", "(I)LTaskDesk$Channel;"⟩ ⟨"TaskDesk", "channelAt", "(I)LTaskDesk$Channel;"⟩) ∈ kx_WS := kx_wd1 2 (by decide +kernel) rfl
theorem kw_3 : (Jvm.Cond.selects "TaskDesk" ⟨"TaskDesk", "isTold", "(LTaskDesk$Channel;)Z"⟩ ⟨"TaskDesk", "isTold", "(LTaskDesk$Channel;)Z"⟩) ∈ kx_WS := kx_wd1 3 (by decide +kernel) rfl
theorem kw_4 : (Jvm.Cond.selects "TaskDesk" ⟨"TaskDesk", "takeValue", "(LTaskDesk$Channel;)J"⟩ ⟨"TaskDesk", "takeValue", "(LTaskDesk$Channel;)J"⟩) ∈ kx_WS := kx_wd1 4 (by decide +kernel) rfl
theorem kw_5 : (Jvm.Cond.selects "TaskDesk" ⟨"TaskDesk", "howItStands", "()I"⟩ ⟨"TaskDesk", "howItStands", "()I"⟩) ∈ kx_WS := kx_wd1 5 (by decide +kernel) rfl
theorem kw_6 : (Jvm.Cond.selects "TaskDesk" ⟨"TaskDesk", "mustBeCurrent", "()LTaskDesk$Task;"⟩ ⟨"TaskDesk", "mustBeCurrent", "()LTaskDesk$Task;"⟩) ∈ kx_WS := kx_wd1 6 (by decide +kernel) rfl
theorem kw_8 : (Jvm.Cond.selects "TaskDesk" ⟨"TaskDesk", "firstFreeTask", "()LTaskDesk$Task;"⟩ ⟨"TaskDesk", "firstFreeTask", "()LTaskDesk$Task;"⟩) ∈ kx_WS := kx_wd1 8 (by decide +kernel) rfl
theorem kw_9 : (Jvm.Cond.selects "TaskDesk" ⟨"TaskDesk", "makeReady", "(LTaskDesk$Task;)V"⟩ ⟨"TaskDesk", "makeReady", "(LTaskDesk$Task;)V"⟩) ∈ kx_WS := kx_wd1 9 (by decide +kernel) rfl
theorem kw_10 : (Jvm.Cond.selects "TaskDesk" ⟨"TaskDesk", "goOn", "()V"⟩ ⟨"TaskDesk", "goOn", "()V"⟩) ∈ kx_WS := kx_wd1 10 (by decide +kernel) rfl
theorem kw_11 : (Jvm.Cond.selects "TaskDesk" ⟨"TaskDesk", "ring", "(LTaskDesk$Timer;)V"⟩ ⟨"TaskDesk", "ring", "(LTaskDesk$Timer;)V"⟩) ∈ kx_WS := kx_wd1 11 (by decide +kernel) rfl
theorem kw_12 : (Jvm.Cond.selects "TaskDesk" ⟨"TaskDesk", "takesAtOnce", "(LTaskDesk$Channel;)Z"⟩ ⟨"TaskDesk", "takesAtOnce", "(LTaskDesk$Channel;)Z"⟩) ∈ kx_WS := kx_wd1 12 (by decide +kernel) rfl
theorem kw_13 : (Jvm.Cond.selects "TaskDesk" ⟨"TaskDesk", "pass", "(LTaskDesk$Channel;J)V"⟩ ⟨"TaskDesk", "pass", "(LTaskDesk$Channel;J)V"⟩) ∈ kx_WS := kx_wd1 13 (by decide +kernel) rfl
theorem kw_14 : (Jvm.Cond.selects "TaskDesk" ⟨"TaskDesk", "wake", "(LTaskDesk$Place;JZZ)V"⟩ ⟨"TaskDesk", "wake", "(LTaskDesk$Place;JZZ)V"⟩) ∈ kx_WS := kx_wd1 14 (by decide +kernel) rfl
theorem kw_15 : (Jvm.Cond.selects "TaskDesk" ⟨"TaskDesk", "takeOut", "(LTaskDesk$Task;)V"⟩ ⟨"TaskDesk", "takeOut", "(LTaskDesk$Task;)V"⟩) ∈ kx_WS := kx_wd1 15 (by decide +kernel) rfl
theorem kw_16 : (Jvm.Cond.selects "TaskDesk" ⟨"TaskDesk", "putValue", "(LTaskDesk$Channel;J)V"⟩ ⟨"TaskDesk", "putValue", "(LTaskDesk$Channel;J)V"⟩) ∈ kx_WS := kx_wd1 16 (by decide +kernel) rfl
theorem kw_17 : (Jvm.Cond.selects "TaskDesk" ⟨"TaskDesk", "endAll", "()V"⟩ ⟨"TaskDesk", "endAll", "()V"⟩) ∈ kx_WS := kx_wd1 17 (by decide +kernel) rfl
theorem kw_18 : (Jvm.Cond.selects "TaskDesk$Agenda" ⟨"TaskDesk$Agenda", "lastNotAfter", "(J)LTaskDesk$Timer;"⟩ ⟨"TaskDesk$Agenda", "lastNotAfter", "(J)LTaskDesk$Timer;"⟩) ∈ kx_WS := kx_wd1 18 (by decide +kernel) rfl
theorem kw_19 : (Jvm.Cond.selects "TaskDesk" ⟨"TaskDesk", "firstFreeChannel", "()LTaskDesk$Channel;"⟩ ⟨"TaskDesk", "firstFreeChannel", "()LTaskDesk$Channel;"⟩) ∈ kx_WS := kx_wd1 19 (by decide +kernel) rfl
theorem kw_20 : (Jvm.Cond.selects "TaskDesk" ⟨"TaskDesk", "mustBeChannel", "(I)LTaskDesk$Channel;"⟩ ⟨"TaskDesk", "mustBeChannel", "(I)LTaskDesk$Channel;"⟩) ∈ kx_WS := kx_wd1 20 (by decide +kernel) rfl
theorem kw_21 : (Jvm.Cond.selects "TaskDesk" ⟨"TaskDesk", "givesAtOnce", "(LTaskDesk$Channel;)Z"⟩ ⟨"TaskDesk", "givesAtOnce", "(LTaskDesk$Channel;)Z"⟩) ∈ kx_WS := kx_wd1 21 (by decide +kernel) rfl
theorem kw_22 : (Jvm.Cond.selects "TaskDesk" ⟨"TaskDesk", "receiveNow", "(LTaskDesk$Task;LTaskDesk$Channel;I)V"⟩ ⟨"TaskDesk", "receiveNow", "(LTaskDesk$Task;LTaskDesk$Channel;I)V"⟩) ∈ kx_WS := kx_wd1 22 (by decide +kernel) rfl
theorem kw_23 : (Jvm.Cond.selects "TaskDesk" ⟨"TaskDesk", "wakeAll", "(LTaskDesk$Row;ZZ)V"⟩ ⟨"TaskDesk", "wakeAll", "(LTaskDesk$Row;ZZ)V"⟩) ∈ kx_WS := kx_wd1 23 (by decide +kernel) rfl
theorem kw_24 : (Jvm.Cond.selects "TaskDesk" ⟨"TaskDesk", "openCase", "(I)LTaskDesk$Place;"⟩ ⟨"TaskDesk", "openCase", "(I)LTaskDesk$Place;"⟩) ∈ kx_WS := kx_wd1 24 (by decide +kernel) rfl
theorem kw_25 : (Jvm.Cond.selects "TaskDesk" ⟨"TaskDesk", "isOpen", "(LTaskDesk$Place;)Z"⟩ ⟨"TaskDesk", "isOpen", "(LTaskDesk$Place;)Z"⟩) ∈ kx_WS := kx_wd1 25 (by decide +kernel) rfl
theorem kw_26 : (Jvm.Cond.selects "TaskDesk" ⟨"TaskDesk", "doCase", "(LTaskDesk$Task;LTaskDesk$Place;)V"⟩ ⟨"TaskDesk", "doCase", "(LTaskDesk$Task;LTaskDesk$Place;)V"⟩) ∈ kx_WS := kx_wd1 26 (by decide +kernel) rfl
theorem kw_27 : (Jvm.Cond.selects "TaskDesk" ⟨"TaskDesk", "forgetCases", "()V"⟩ ⟨"TaskDesk", "forgetCases", "()V"⟩) ∈ kx_WS := kx_wd1 27 (by decide +kernel) rfl
theorem kw_28 : (Jvm.Cond.selects "TaskDesk" ⟨"TaskDesk", "waitInCases", "(LTaskDesk$Task;)V"⟩ ⟨"TaskDesk", "waitInCases", "(LTaskDesk$Task;)V"⟩) ∈ kx_WS := kx_wd1 28 (by decide +kernel) rfl
theorem kw_29 : (Jvm.Cond.selects "TaskDesk" ⟨"TaskDesk", "gateAt", "(I)LTaskDesk$Gate;"⟩ ⟨"TaskDesk", "gateAt", "(I)LTaskDesk$Gate;"⟩) ∈ kx_WS := kx_wd1 29 (by decide +kernel) rfl
theorem kw_30 : (Jvm.Cond.selects "TaskDesk" ⟨"TaskDesk", "mustBeGate", "(I)LTaskDesk$Gate;"⟩ ⟨"TaskDesk", "mustBeGate", "(I)LTaskDesk$Gate;"⟩) ∈ kx_WS := kx_wd1 30 (by decide +kernel) rfl
theorem kw_31 : (Jvm.Cond.selects "TaskDesk" ⟨"TaskDesk", "giveUpLockOf", "(LTaskDesk$Gate;)V"⟩ ⟨"TaskDesk", "giveUpLockOf", "(LTaskDesk$Gate;)V"⟩) ∈ kx_WS := kx_wd1 31 (by decide +kernel) rfl
theorem kw_32 : (Jvm.Cond.selects "TaskDesk" ⟨"TaskDesk", "giveLockBack", "(LTaskDesk$Gate;)V"⟩ ⟨"TaskDesk", "giveLockBack", "(LTaskDesk$Gate;)V"⟩) ∈ kx_WS := kx_wd1 32 (by decide +kernel) rfl
theorem kw_33 : (Jvm.Cond.selects "TaskDesk" ⟨"TaskDesk", "endWriting", "(LTaskDesk$Gate;)V"⟩ ⟨"TaskDesk", "endWriting", "(LTaskDesk$Gate;)V"⟩) ∈ kx_WS := kx_wd1 33 (by decide +kernel) rfl
theorem kw_34 : (Jvm.Cond.selects "TaskDesk" ⟨"TaskDesk", "letWriterIn", "(LTaskDesk$Gate;)V"⟩ ⟨"TaskDesk", "letWriterIn", "(LTaskDesk$Gate;)V"⟩) ∈ kx_WS := kx_wd1 34 (by decide +kernel) rfl
theorem kw_35 : (Jvm.Cond.selects "TaskDesk" ⟨"TaskDesk", "setGroup", "(LTaskDesk$Gate;I)V"⟩ ⟨"TaskDesk", "setGroup", "(LTaskDesk$Gate;I)V"⟩) ∈ kx_WS := kx_wd1 35 (by decide +kernel) rfl
theorem kw_36 : (Jvm.Cond.selects "TaskDesk" ⟨"TaskDesk", "wakeFirstOfSignal", "(LTaskDesk$Gate;)V"⟩ ⟨"TaskDesk", "wakeFirstOfSignal", "(LTaskDesk$Gate;)V"⟩) ∈ kx_WS := kx_wd1 36 (by decide +kernel) rfl
theorem kw_37 : (Jvm.Cond.selects "TaskDesk" ⟨"TaskDesk", "endReading", "(LTaskDesk$Gate;)V"⟩ ⟨"TaskDesk", "endReading", "(LTaskDesk$Gate;)V"⟩) ∈ kx_WS := kx_wd1 37 (by decide +kernel) rfl
theorem kw_38 : (Jvm.Cond.selects "TaskDesk" ⟨"TaskDesk", "wakeAllOfSignal", "(LTaskDesk$Gate;)V"⟩ ⟨"TaskDesk", "wakeAllOfSignal", "(LTaskDesk$Gate;)V"⟩) ∈ kx_WS := kx_wd1 38 (by decide +kernel) rfl
theorem kw_39 : (Jvm.Cond.selects "TaskDesk" ⟨"TaskDesk", "mustBeTask", "(I)LTaskDesk$Task;"⟩ ⟨"TaskDesk", "mustBeTask", "(I)LTaskDesk$Task;"⟩) ∈ kx_WS := kx_wd1 39 (by decide +kernel) rfl
theorem kw_40 : (Jvm.Cond.selects "TaskDesk" ⟨"TaskDesk", "countBefore", "(LTaskDesk$Place;)I"⟩ ⟨"TaskDesk", "countBefore", "(LTaskDesk$Place;)I"⟩) ∈ kx_WS := kx_wd1 40 (by decide +kernel) rfl
theorem kw_41 : (Jvm.Cond.selects "TaskDeskModel" ⟨"TaskDeskModel", "fail", "(I)I"⟩ ⟨"TaskDeskModel", "fail", "(I)I"⟩) ∈ kx_WS := kx_wd1 41 (by decide +kernel) rfl
theorem kw_42 : (Jvm.Cond.selects "TaskDeskModel" ⟨"TaskDeskModel", "isChannel", "(I)Z"⟩ ⟨"TaskDeskModel", "isChannel", "(I)Z"⟩) ∈ kx_WS := kx_wd1 42 (by decide +kernel) rfl
theorem kw_43 : (Jvm.Cond.selects "TaskDeskModel" ⟨"TaskDeskModel", "first", "(IZ)I"⟩ ⟨"TaskDeskModel", "first", "(IZ)I"⟩) ∈ kx_WS := kx_wd1 43 (by decide +kernel) rfl
theorem kw_44 : (Jvm.Cond.selects "TaskDeskModel" ⟨"TaskDeskModel", "held", "(I)I"⟩ ⟨"TaskDeskModel", "held", "(I)I"⟩) ∈ kx_WS := kx_wd1 44 (by decide +kernel) rfl
theorem kw_45 : (Jvm.Cond.selects "TaskDeskModel" ⟨"TaskDeskModel", "takeFirst", "(I)J"⟩ ⟨"TaskDeskModel", "takeFirst", "(I)J"⟩) ∈ kx_WS := kx_wd1 45 (by decide +kernel) rfl
theorem kw_46 : (Jvm.Cond.selects "TaskDeskModel" ⟨"TaskDeskModel", "no", "(I)Z"⟩ ⟨"TaskDeskModel", "no", "(I)Z"⟩) ∈ kx_WS := kx_wd1 46 (by decide +kernel) rfl
theorem kw_47 : (Jvm.Cond.selects "TaskDeskModel" ⟨"TaskDeskModel", "maySend", "(I)Z"⟩ ⟨"TaskDeskModel", "maySend", "(I)Z"⟩) ∈ kx_WS := kx_wd1 47 (by decide +kernel) rfl
theorem kw_48 : (Jvm.Cond.selects "TaskDeskModel" ⟨"TaskDeskModel", "deliver", "(IJ)V"⟩ ⟨"TaskDeskModel", "deliver", "(IJ)V"⟩) ∈ kx_WS := kx_wd1 48 (by decide +kernel) rfl
theorem kw_49 : (Jvm.Cond.selects "TaskDeskModel" ⟨"TaskDeskModel", "met", "(IJZZ)V"⟩ ⟨"TaskDeskModel", "met", "(IJZZ)V"⟩) ∈ kx_WS := kx_wd1 49 (by decide +kernel) rfl
theorem kw_50 : (Jvm.Cond.selects "TaskDeskModel" ⟨"TaskDeskModel", "has", "(IJZIZ)V"⟩ ⟨"TaskDeskModel", "has", "(IJZIZ)V"⟩) ∈ kx_WS := kx_wd1 50 (by decide +kernel) rfl
theorem kw_51 : (Jvm.Cond.selects "TaskDeskModel" ⟨"TaskDeskModel", "withdraw", "(I)V"⟩ ⟨"TaskDeskModel", "withdraw", "(I)V"⟩) ∈ kx_WS := kx_wd1 51 (by decide +kernel) rfl
theorem kw_52 : (Jvm.Cond.selects "TaskDeskModel" ⟨"TaskDeskModel", "wake", "(I)V"⟩ ⟨"TaskDeskModel", "wake", "(I)V"⟩) ∈ kx_WS := kx_wd1 52 (by decide +kernel) rfl
theorem kw_53 : (Jvm.Cond.selects "TaskDeskModel" ⟨"TaskDeskModel", "store", "(IJ)V"⟩ ⟨"TaskDeskModel", "store", "(IJ)V"⟩) ∈ kx_WS := kx_wd1 53 (by decide +kernel) rfl
theorem kw_54 : (Jvm.Cond.selects "TaskDeskModel" ⟨"TaskDeskModel", "offer", "(IIZJI)V"⟩ ⟨"TaskDeskModel", "offer", "(IIZJI)V"⟩) ∈ kx_WS := kx_wd1 54 (by decide +kernel) rfl
theorem kw_55 : (Jvm.Cond.selects "TaskDeskModel" ⟨"TaskDeskModel", "rest", "(II)V"⟩ ⟨"TaskDeskModel", "rest", "(II)V"⟩) ∈ kx_WS := kx_wd1 55 (by decide +kernel) rfl
theorem kw_56 : (Jvm.Cond.selects "TaskDeskModel" ⟨"TaskDeskModel", "next", "()V"⟩ ⟨"TaskDeskModel", "next", "()V"⟩) ∈ kx_WS := kx_wd1 56 (by decide +kernel) rfl
theorem kw_57 : (Jvm.Cond.selects "TaskDeskModel" ⟨"TaskDeskModel", "ring", "()V"⟩ ⟨"TaskDeskModel", "ring", "()V"⟩) ∈ kx_WS := kx_wd1 57 (by decide +kernel) rfl
theorem kw_58 : (Jvm.Cond.selects "TaskDeskModel" ⟨"TaskDeskModel", "rings", "(I)V"⟩ ⟨"TaskDeskModel", "rings", "(I)V"⟩) ∈ kx_WS := kx_wd1 58 (by decide +kernel) rfl
theorem kw_59 : (Jvm.Cond.selects "TaskDeskModel" ⟨"TaskDeskModel", "mayReceive", "(I)Z"⟩ ⟨"TaskDeskModel", "mayReceive", "(I)Z"⟩) ∈ kx_WS := kx_wd1 59 (by decide +kernel) rfl
theorem kw_60 : (Jvm.Cond.selects "TaskDeskModel" ⟨"TaskDeskModel", "take", "(II)V"⟩ ⟨"TaskDeskModel", "take", "(II)V"⟩) ∈ kx_WS := kx_wd1 60 (by decide +kernel) rfl
theorem kw_61 : (Jvm.Cond.selects "TaskDeskModel" ⟨"TaskDeskModel", "isReady", "(I)Z"⟩ ⟨"TaskDeskModel", "isReady", "(I)Z"⟩) ∈ kx_WS := kx_wd1 61 (by decide +kernel) rfl
theorem kw_62 : (Jvm.Cond.selects "TaskDeskModel" ⟨"TaskDeskModel", "done", "(I)Z"⟩ ⟨"TaskDeskModel", "done", "(I)Z"⟩) ∈ kx_WS := kx_wd1 62 (by decide +kernel) rfl
theorem kw_63 : (Jvm.Cond.selects "TaskDeskModel" ⟨"TaskDeskModel", "isGate", "(I)Z"⟩ ⟨"TaskDeskModel", "isGate", "(I)Z"⟩) ∈ kx_WS := kx_wd1 63 (by decide +kernel) rfl
theorem kw_64 : (Jvm.Cond.selects "TaskDeskModel" ⟨"TaskDeskModel", "passes", "(ZIZZ)Z"⟩ ⟨"TaskDeskModel", "passes", "(ZIZZ)Z"⟩) ∈ kx_WS := kx_wd1 64 (by decide +kernel) rfl
theorem kw_65 : (Jvm.Cond.selects "TaskDeskModel" ⟨"TaskDeskModel", "stand", "(IIZ)V"⟩ ⟨"TaskDeskModel", "stand", "(IIZ)V"⟩) ∈ kx_WS := kx_wd1 65 (by decide +kernel) rfl
theorem kw_66 : (Jvm.Cond.selects "TaskDeskModel" ⟨"TaskDeskModel", "unlock", "(I)V"⟩ ⟨"TaskDeskModel", "unlock", "(I)V"⟩) ∈ kx_WS := kx_wd1 66 (by decide +kernel) rfl
theorem kw_67 : (Jvm.Cond.selects "TaskDeskModel" ⟨"TaskDeskModel", "standing", "(II)I"⟩ ⟨"TaskDeskModel", "standing", "(II)I"⟩) ∈ kx_WS := kx_wd1 67 (by decide +kernel) rfl
theorem kw_68 : (Jvm.Cond.selects "TaskDeskModel" ⟨"TaskDeskModel", "lets", "(IZ)V"⟩ ⟨"TaskDeskModel", "lets", "(IZ)V"⟩) ∈ kx_WS := kx_wd1 68 (by decide +kernel) rfl
theorem kw_69 : (Jvm.Cond.selects "TaskDeskModel" ⟨"TaskDeskModel", "takeOut", "(I)I"⟩ ⟨"TaskDeskModel", "takeOut", "(I)I"⟩) ∈ kx_WS := kx_wd1 69 (by decide +kernel) rfl
theorem kw_70 : (Jvm.Cond.selects "TaskDeskModel" ⟨"TaskDeskModel", "letReaders", "(I)V"⟩ ⟨"TaskDeskModel", "letReaders", "(I)V"⟩) ∈ kx_WS := kx_wd1 70 (by decide +kernel) rfl
theorem kw_71 : (Jvm.Cond.selects "TaskDeskModel" ⟨"TaskDeskModel", "letWriter", "(I)V"⟩ ⟨"TaskDeskModel", "letWriter", "(I)V"⟩) ∈ kx_WS := kx_wd1 71 (by decide +kernel) rfl
theorem kw_72 : (Jvm.Cond.selects "TaskDeskModel" ⟨"TaskDeskModel", "grow", "(II)V"⟩ ⟨"TaskDeskModel", "grow", "(II)V"⟩) ∈ kx_WS := kx_wd1 72 (by decide +kernel) rfl
theorem kw_73 : (Jvm.Cond.selects "TaskDeskModel" ⟨"TaskDeskModel", "letAll", "(IZ)V"⟩ ⟨"TaskDeskModel", "letAll", "(IZ)V"⟩) ∈ kx_WS := kx_wd1 73 (by decide +kernel) rfl
theorem kw_74 : (Jvm.Cond.selects "TaskDeskModel" ⟨"TaskDeskModel", "signal", "(I)V"⟩ ⟨"TaskDeskModel", "signal", "(I)V"⟩) ∈ kx_WS := kx_wd1 74 (by decide +kernel) rfl
theorem kw_75 : (Jvm.Cond.selects "TaskDeskModel" ⟨"TaskDeskModel", "waitAt", "(I)I"⟩ ⟨"TaskDeskModel", "waitAt", "(I)I"⟩) ∈ kx_WS := kx_wd1 75 (by decide +kernel) rfl
theorem kw_76 : (Jvm.Cond.selects "TaskDeskModel" ⟨"TaskDeskModel", "isTask", "(I)Z"⟩ ⟨"TaskDeskModel", "isTask", "(I)Z"⟩) ∈ kx_WS := kx_wd1 76 (by decide +kernel) rfl
theorem kw_77 : (Jvm.Cond.selects "TaskDeskModel" ⟨"TaskDeskModel", "living", "()I"⟩ ⟨"TaskDeskModel", "living", "()I"⟩) ∈ kx_WS := kx_wd1 77 (by decide +kernel) rfl
theorem kw_78 : (Jvm.Cond.selects "TaskDeskModel" ⟨"TaskDeskModel", "channels", "()I"⟩ ⟨"TaskDeskModel", "channels", "()I"⟩) ∈ kx_WS := kx_wd1 78 (by decide +kernel) rfl
theorem kw_80 : (Jvm.Cond.initialized "TaskDesk") ∈ kx_WS := kx_wd1 80 (by decide +kernel) rfl
theorem kw_81 : (Jvm.Cond.initialized "TaskDesk$Row") ∈ kx_WS := kx_wd1 81 (by decide +kernel) rfl
theorem kw_82 : (Jvm.Cond.initialized "TaskDesk$Agenda") ∈ kx_WS := kx_wd1 82 (by decide +kernel) rfl
theorem kw_83 : (Jvm.Cond.initialized "TaskDesk$Timer") ∈ kx_WS := kx_wd1 83 (by decide +kernel) rfl
theorem kw_84 : (Jvm.Cond.initialized "TaskDesk$Channel") ∈ kx_WS := kx_wd1 84 (by decide +kernel) rfl
theorem kw_85 : (Jvm.Cond.initialized "TaskDesk$Place") ∈ kx_WS := kx_wd1 85 (by decide +kernel) rfl
theorem kw_86 : (Jvm.Cond.initialized "TaskDesk$Task") ∈ kx_WS := kx_wd1 86 (by decide +kernel) rfl
theorem kw_87 : (Jvm.Cond.initialized "TaskDesk$Gate") ∈ kx_WS := kx_wd1 87 (by decide +kernel) rfl
theorem kw_88 : (Jvm.Cond.initialized "TaskDesk$Value") ∈ kx_WS := kx_wd1 88 (by decide +kernel) rfl
theorem kw_89 : (Jvm.Cond.initialized "TaskDeskModel") ∈ kx_WS := kx_wd1 89 (by decide +kernel) rfl
theorem kw_93 : (Jvm.Cond.initialized "java/lang/IllegalStateException") ∈ kx_WS := kx_wd1 93 (by decide +kernel) rfl
theorem kw_94 : (Jvm.Cond.initialized "java/lang/IllegalArgumentException") ∈ kx_WS := kx_wd1 94 (by decide +kernel) rfl
theorem kw_95 : (Jvm.Cond.initialized "java/lang/UnsupportedOperationException") ∈ kx_WS := kx_wd1 95 (by decide +kernel) rfl
theorem kw_96 : (Jvm.Cond.initialized "java/util/NoSuchElementException") ∈ kx_WS := kx_wd1 96 (by decide +kernel) rfl
theorem kw_102 : (Jvm.Cond.methodLink "TaskDesk" (3 : Nat) ({ cls := "java/lang/Object", name := "<init>", desc := "()V" } : Jvm.MethodName)) ∈ kx_WS := kx_wd1 102 (by decide +kernel) rfl
theorem kw_103 : (Jvm.Cond.instanceMethod ({ cls := "java/lang/Object", name := "<init>", desc := "()V" } : Jvm.MethodName)) ∈ kx_WS := kx_wd1 103 (by decide +kernel) rfl
theorem kw_104 : (Jvm.Cond.code ({ cls := "java/lang/Object", name := "<init>", desc := "()V" } : Jvm.MethodName) object_method_1_code (1 : Nat) (Option.none : Option Jvm.ClassFile.FieldType)) ∈ kx_WS := kx_wd1 104 (by decide +kernel) rfl
theorem kw_105 : (Jvm.Cond.classLink "TaskDesk" (9 : Nat) "TaskDesk$Task") ∈ kx_WS := kx_wd1 105 (by decide +kernel) rfl
theorem kw_106 : (Jvm.Cond.arrayOver (Jvm.ClassFile.FieldType.object "TaskDesk$Task")) ∈ kx_WS := kx_wd1 106 (by decide +kernel) rfl
theorem kw_107 : (Jvm.Cond.classLink "TaskDesk" (15 : Nat) "TaskDesk$Row") ∈ kx_WS := kx_wd1 107 (by decide +kernel) rfl
theorem kw_108 : (Jvm.Cond.instantiable "TaskDesk$Row" (3 : Nat)) ∈ kx_WS := kx_wd1 108 (by decide +kernel) rfl
theorem kw_109 : (Jvm.Cond.methodLinkNest "TaskDesk" (17 : Nat) ({ cls := "TaskDesk$Row", name := "<init>", desc := "()V" } : Jvm.MethodName) "TaskDesk") ∈ kx_WS := kx_wd1 109 (by decide +kernel) rfl
theorem kw_110 : (Jvm.Cond.instanceMethod ({ cls := "TaskDesk$Row", name := "<init>", desc := "()V" } : Jvm.MethodName)) ∈ kx_WS := kx_wd1 110 (by decide +kernel) rfl
theorem kw_111 : (Jvm.Cond.code ({ cls := "TaskDesk$Row", name := "<init>", desc := "()V" } : Jvm.MethodName) prog_6_method_1_code (1 : Nat) (Option.none : Option Jvm.ClassFile.FieldType)) ∈ kx_WS := kx_wd1 111 (by decide +kernel) rfl
theorem kw_112 : (Jvm.Cond.methodLink "TaskDesk$Row" (1 : Nat) ({ cls := "java/lang/Object", name := "<init>", desc := "()V" } : Jvm.MethodName)) ∈ kx_WS := kx_wd1 112 (by decide +kernel) rfl
theorem kw_113 : (Jvm.Cond.fieldLink "TaskDesk$Row" (22 : Nat) "TaskDesk$Row" "first" "LTaskDesk$Place;") ∈ kx_WS := kx_wd1 113 (by decide +kernel) rfl
theorem kw_114 : (Jvm.Cond.fieldLink "TaskDesk$Place" (30 : Nat) "TaskDesk$Row" "first" "LTaskDesk$Place;") ∈ kx_WS := kx_wd1 114 (by decide +kernel) rfl
theorem kw_115 : (Jvm.Cond.fieldLink "TaskDesk" (317 : Nat) "TaskDesk$Row" "first" "LTaskDesk$Place;") ∈ kx_WS := kx_wd1 115 (by decide +kernel) rfl
theorem kw_116 : (Jvm.Cond.fieldLink "TaskDesk$Row" (13 : Nat) "TaskDesk$Row" "last" "LTaskDesk$Place;") ∈ kx_WS := kx_wd1 116 (by decide +kernel) rfl
theorem kw_117 : (Jvm.Cond.fieldLink "TaskDesk$Place" (35 : Nat) "TaskDesk$Row" "last" "LTaskDesk$Place;") ∈ kx_WS := kx_wd1 117 (by decide +kernel) rfl
theorem kw_118 : (Jvm.Cond.fieldLink "TaskDesk$Channel" (23 : Nat) "TaskDesk$Row" "length" "I") ∈ kx_WS := kx_wd1 118 (by decide +kernel) rfl
theorem kw_119 : (Jvm.Cond.fieldLink "TaskDesk$Row" (28 : Nat) "TaskDesk$Row" "length" "I") ∈ kx_WS := kx_wd1 119 (by decide +kernel) rfl
theorem kw_120 : (Jvm.Cond.fieldLink "TaskDesk$Place" (38 : Nat) "TaskDesk$Row" "length" "I") ∈ kx_WS := kx_wd1 120 (by decide +kernel) rfl
theorem kw_121 : (Jvm.Cond.fieldLink "TaskDesk" (383 : Nat) "TaskDesk$Row" "length" "I") ∈ kx_WS := kx_wd1 121 (by decide +kernel) rfl
theorem kw_129 : (Jvm.Cond.classLink "TaskDesk" (22 : Nat) "TaskDesk$Agenda") ∈ kx_WS := kx_wd1 129 (by decide +kernel) rfl
theorem kw_130 : (Jvm.Cond.instantiable "TaskDesk$Agenda" (2 : Nat)) ∈ kx_WS := kx_wd1 130 (by decide +kernel) rfl
theorem kw_131 : (Jvm.Cond.methodLink "TaskDesk" (24 : Nat) ({ cls := "TaskDesk$Agenda", name := "<init>", desc := "()V" } : Jvm.MethodName)) ∈ kx_WS := kx_wd1 131 (by decide +kernel) rfl
theorem kw_132 : (Jvm.Cond.instanceMethod ({ cls := "TaskDesk$Agenda", name := "<init>", desc := "()V" } : Jvm.MethodName)) ∈ kx_WS := kx_wd1 132 (by decide +kernel) rfl
theorem kw_133 : (Jvm.Cond.code ({ cls := "TaskDesk$Agenda", name := "<init>", desc := "()V" } : Jvm.MethodName) prog_2_method_1_code (3 : Nat) (Option.none : Option Jvm.ClassFile.FieldType)) ∈ kx_WS := kx_wd1 133 (by decide +kernel) rfl
theorem kw_134 : (Jvm.Cond.methodLink "TaskDesk$Agenda" (3 : Nat) ({ cls := "java/lang/Object", name := "<init>", desc := "()V" } : Jvm.MethodName)) ∈ kx_WS := kx_wd1 134 (by decide +kernel) rfl
theorem kw_135 : (Jvm.Cond.classLink "TaskDesk$Agenda" (9 : Nat) "TaskDesk$Timer") ∈ kx_WS := kx_wd1 135 (by decide +kernel) rfl
theorem kw_136 : (Jvm.Cond.instantiable "TaskDesk$Timer" (4 : Nat)) ∈ kx_WS := kx_wd1 136 (by decide +kernel) rfl
theorem kw_137 : (Jvm.Cond.methodLinkNest "TaskDesk$Agenda" (11 : Nat) ({ cls := "TaskDesk$Timer", name := "<init>", desc := "()V" } : Jvm.MethodName) "TaskDesk") ∈ kx_WS := kx_wd1 137 (by decide +kernel) rfl
theorem kw_138 : (Jvm.Cond.instanceMethod ({ cls := "TaskDesk$Timer", name := "<init>", desc := "()V" } : Jvm.MethodName)) ∈ kx_WS := kx_wd1 138 (by decide +kernel) rfl
theorem kw_139 : (Jvm.Cond.code ({ cls := "TaskDesk$Timer", name := "<init>", desc := "()V" } : Jvm.MethodName) prog_8_method_1_code (1 : Nat) (Option.none : Option Jvm.ClassFile.FieldType)) ∈ kx_WS := kx_wd1 139 (by decide +kernel) rfl
theorem kw_140 : (Jvm.Cond.methodLink "TaskDesk$Timer" (1 : Nat) ({ cls := "java/lang/Object", name := "<init>", desc := "()V" } : Jvm.MethodName)) ∈ kx_WS := kx_wd1 140 (by decide +kernel) rfl
theorem kw_141 : (Jvm.Cond.fieldLink "TaskDesk$Agenda" (21 : Nat) "TaskDesk$Timer" "time" "J") ∈ kx_WS := kx_wd1 141 (by decide +kernel) rfl
theorem kw_142 : (Jvm.Cond.fieldLink "TaskDesk" (409 : Nat) "TaskDesk$Timer" "time" "J") ∈ kx_WS := kx_wd1 142 (by decide +kernel) rfl
theorem kw_143 : (Jvm.Cond.fieldLink "TaskDesk$Agenda" (25 : Nat) "TaskDesk$Timer" "sleeper" "LTaskDesk$Task;") ∈ kx_WS := kx_wd1 143 (by decide +kernel) rfl
theorem kw_144 : (Jvm.Cond.fieldLink "TaskDesk" (424 : Nat) "TaskDesk$Timer" "sleeper" "LTaskDesk$Task;") ∈ kx_WS := kx_wd1 144 (by decide +kernel) rfl
theorem kw_145 : (Jvm.Cond.fieldLink "TaskDesk$Agenda" (29 : Nat) "TaskDesk$Timer" "target" "LTaskDesk$Channel;") ∈ kx_WS := kx_wd1 145 (by decide +kernel) rfl
theorem kw_146 : (Jvm.Cond.fieldLink "TaskDesk" (427 : Nat) "TaskDesk$Timer" "target" "LTaskDesk$Channel;") ∈ kx_WS := kx_wd1 146 (by decide +kernel) rfl
theorem kw_147 : (Jvm.Cond.fieldLink "TaskDesk$Agenda" (18 : Nat) "TaskDesk$Timer" "behind" "LTaskDesk$Timer;") ∈ kx_WS := kx_wd1 147 (by decide +kernel) rfl
theorem kw_157 : (Jvm.Cond.fieldLink "TaskDesk$Agenda" (37 : Nat) "TaskDesk$Agenda" "first" "LTaskDesk$Timer;") ∈ kx_WS := kx_wd1 157 (by decide +kernel) rfl
theorem kw_158 : (Jvm.Cond.fieldLink "TaskDesk" (418 : Nat) "TaskDesk$Agenda" "first" "LTaskDesk$Timer;") ∈ kx_WS := kx_wd1 158 (by decide +kernel) rfl
theorem kw_159 : (Jvm.Cond.fieldLink "TaskDesk$Agenda" (12 : Nat) "TaskDesk$Agenda" "free" "LTaskDesk$Timer;") ∈ kx_WS := kx_wd1 159 (by decide +kernel) rfl
theorem kw_165 : (Jvm.Cond.classLink "TaskDesk" (29 : Nat) "TaskDesk$Channel") ∈ kx_WS := kx_wd1 165 (by decide +kernel) rfl
theorem kw_166 : (Jvm.Cond.arrayOver (Jvm.ClassFile.FieldType.object "TaskDesk$Channel")) ∈ kx_WS := kx_wd1 166 (by decide +kernel) rfl
theorem kw_167 : (Jvm.Cond.instantiable "TaskDesk$Channel" (10 : Nat)) ∈ kx_WS := kx_wd1 167 (by decide +kernel) rfl
theorem kw_168 : (Jvm.Cond.methodLink "TaskDesk" (35 : Nat) ({ cls := "TaskDesk$Channel", name := "<init>", desc := "(I)V" } : Jvm.MethodName)) ∈ kx_WS := kx_wd1 168 (by decide +kernel) rfl
theorem kw_169 : (Jvm.Cond.instanceMethod ({ cls := "TaskDesk$Channel", name := "<init>", desc := "(I)V" } : Jvm.MethodName)) ∈ kx_WS := kx_wd1 169 (by decide +kernel) rfl
theorem kw_170 : (Jvm.Cond.code ({ cls := "TaskDesk$Channel", name := "<init>", desc := "(I)V" } : Jvm.MethodName) prog_3_method_1_code (2 : Nat) (Option.none : Option Jvm.ClassFile.FieldType)) ∈ kx_WS := kx_wd1 170 (by decide +kernel) rfl
theorem kw_171 : (Jvm.Cond.methodLink "TaskDesk$Channel" (1 : Nat) ({ cls := "java/lang/Object", name := "<init>", desc := "()V" } : Jvm.MethodName)) ∈ kx_WS := kx_wd1 171 (by decide +kernel) rfl
theorem kw_172 : (Jvm.Cond.classLink "TaskDesk$Channel" (7 : Nat) "TaskDesk$Row") ∈ kx_WS := kx_wd1 172 (by decide +kernel) rfl
theorem kw_173 : (Jvm.Cond.methodLinkNest "TaskDesk$Channel" (9 : Nat) ({ cls := "TaskDesk$Row", name := "<init>", desc := "()V" } : Jvm.MethodName) "TaskDesk") ∈ kx_WS := kx_wd1 173 (by decide +kernel) rfl
theorem kw_174 : (Jvm.Cond.fieldLink "TaskDesk$Channel" (19 : Nat) "TaskDesk$Channel" "number" "I") ∈ kx_WS := kx_wd1 174 (by decide +kernel) rfl
theorem kw_175 : (Jvm.Cond.fieldLink "TaskDesk" (162 : Nat) "TaskDesk$Channel" "number" "I") ∈ kx_WS := kx_wd1 175 (by decide +kernel) rfl
theorem kw_176 : (Jvm.Cond.fieldLink "TaskDesk$Channel" (10 : Nat) "TaskDesk$Channel" "senders" "LTaskDesk$Row;") ∈ kx_WS := kx_wd1 176 (by decide +kernel) rfl
theorem kw_177 : (Jvm.Cond.fieldLink "TaskDesk" (218 : Nat) "TaskDesk$Channel" "senders" "LTaskDesk$Row;") ∈ kx_WS := kx_wd1 177 (by decide +kernel) rfl
theorem kw_178 : (Jvm.Cond.fieldLink "TaskDesk$Channel" (16 : Nat) "TaskDesk$Channel" "receivers" "LTaskDesk$Row;") ∈ kx_WS := kx_wd1 178 (by decide +kernel) rfl
theorem kw_179 : (Jvm.Cond.fieldLink "TaskDesk" (232 : Nat) "TaskDesk$Channel" "receivers" "LTaskDesk$Row;") ∈ kx_WS := kx_wd1 179 (by decide +kernel) rfl
theorem kw_180 : (Jvm.Cond.fieldLink "TaskDesk" (150 : Nat) "TaskDesk$Channel" "there" "Z") ∈ kx_WS := kx_wd1 180 (by decide +kernel) rfl
theorem kw_181 : (Jvm.Cond.fieldLink "TaskDesk" (153 : Nat) "TaskDesk$Channel" "closed" "Z") ∈ kx_WS := kx_wd1 181 (by decide +kernel) rfl
theorem kw_182 : (Jvm.Cond.fieldLink "TaskDesk" (156 : Nat) "TaskDesk$Channel" "room" "I") ∈ kx_WS := kx_wd1 182 (by decide +kernel) rfl
theorem kw_183 : (Jvm.Cond.fieldLink "TaskDesk$Channel" (41 : Nat) "TaskDesk$Channel" "held" "I") ∈ kx_WS := kx_wd1 183 (by decide +kernel) rfl
theorem kw_184 : (Jvm.Cond.fieldLink "TaskDesk" (175 : Nat) "TaskDesk$Channel" "held" "I") ∈ kx_WS := kx_wd1 184 (by decide +kernel) rfl
theorem kw_185 : (Jvm.Cond.fieldLink "TaskDesk$Channel" (26 : Nat) "TaskDesk$Channel" "alarms" "I") ∈ kx_WS := kx_wd1 185 (by decide +kernel) rfl
theorem kw_186 : (Jvm.Cond.fieldLink "TaskDesk" (189 : Nat) "TaskDesk$Channel" "alarms" "I") ∈ kx_WS := kx_wd1 186 (by decide +kernel) rfl
theorem kw_187 : (Jvm.Cond.fieldLink "TaskDesk$Channel" (38 : Nat) "TaskDesk$Channel" "first" "LTaskDesk$Value;") ∈ kx_WS := kx_wd1 187 (by decide +kernel) rfl
theorem kw_188 : (Jvm.Cond.fieldLink "TaskDesk" (453 : Nat) "TaskDesk$Channel" "first" "LTaskDesk$Value;") ∈ kx_WS := kx_wd1 188 (by decide +kernel) rfl
theorem kw_189 : (Jvm.Cond.fieldLink "TaskDesk$Channel" (35 : Nat) "TaskDesk$Channel" "last" "LTaskDesk$Value;") ∈ kx_WS := kx_wd1 189 (by decide +kernel) rfl
theorem kw_211 : (Jvm.Cond.classLink "TaskDesk" (42 : Nat) "TaskDesk$Place") ∈ kx_WS := kx_wd1 211 (by decide +kernel) rfl
theorem kw_212 : (Jvm.Cond.arrayOver (Jvm.ClassFile.FieldType.object "TaskDesk$Place")) ∈ kx_WS := kx_wd1 212 (by decide +kernel) rfl
theorem kw_213 : (Jvm.Cond.classLink "TaskDesk" (48 : Nat) "TaskDesk$Gate") ∈ kx_WS := kx_wd1 213 (by decide +kernel) rfl
theorem kw_214 : (Jvm.Cond.arrayOver (Jvm.ClassFile.FieldType.object "TaskDesk$Gate")) ∈ kx_WS := kx_wd1 214 (by decide +kernel) rfl
theorem kw_215 : (Jvm.Cond.instantiable "TaskDesk$Place" (9 : Nat)) ∈ kx_WS := kx_wd1 215 (by decide +kernel) rfl
theorem kw_216 : (Jvm.Cond.methodLink "TaskDesk" (54 : Nat) ({ cls := "TaskDesk$Place", name := "<init>", desc := "(LTaskDesk$Channel;)V" } : Jvm.MethodName)) ∈ kx_WS := kx_wd1 216 (by decide +kernel) rfl
theorem kw_217 : (Jvm.Cond.instanceMethod ({ cls := "TaskDesk$Place", name := "<init>", desc := "(LTaskDesk$Channel;)V" } : Jvm.MethodName)) ∈ kx_WS := kx_wd1 217 (by decide +kernel) rfl
theorem kw_218 : (Jvm.Cond.code ({ cls := "TaskDesk$Place", name := "<init>", desc := "(LTaskDesk$Channel;)V" } : Jvm.MethodName) prog_5_method_1_code (2 : Nat) (Option.none : Option Jvm.ClassFile.FieldType)) ∈ kx_WS := kx_wd1 218 (by decide +kernel) rfl
theorem kw_219 : (Jvm.Cond.methodLink "TaskDesk$Place" (3 : Nat) ({ cls := "java/lang/Object", name := "<init>", desc := "()V" } : Jvm.MethodName)) ∈ kx_WS := kx_wd1 219 (by decide +kernel) rfl
theorem kw_220 : (Jvm.Cond.fieldLink "TaskDesk" (60 : Nat) "TaskDesk$Place" "owner" "LTaskDesk$Task;") ∈ kx_WS := kx_wd1 220 (by decide +kernel) rfl
theorem kw_221 : (Jvm.Cond.fieldLink "TaskDesk$Task" (52 : Nat) "TaskDesk$Place" "owner" "LTaskDesk$Task;") ∈ kx_WS := kx_wd1 221 (by decide +kernel) rfl
theorem kw_222 : (Jvm.Cond.fieldLink "TaskDesk$Place" (15 : Nat) "TaskDesk$Place" "target" "LTaskDesk$Channel;") ∈ kx_WS := kx_wd1 222 (by decide +kernel) rfl
theorem kw_223 : (Jvm.Cond.fieldLink "TaskDesk" (252 : Nat) "TaskDesk$Place" "target" "LTaskDesk$Channel;") ∈ kx_WS := kx_wd1 223 (by decide +kernel) rfl
theorem kw_224 : (Jvm.Cond.fieldLink "TaskDesk" (255 : Nat) "TaskDesk$Place" "sends" "Z") ∈ kx_WS := kx_wd1 224 (by decide +kernel) rfl
theorem kw_225 : (Jvm.Cond.fieldLink "TaskDesk" (215 : Nat) "TaskDesk$Place" "value" "J") ∈ kx_WS := kx_wd1 225 (by decide +kernel) rfl
theorem kw_226 : (Jvm.Cond.fieldLink "TaskDesk$Place" (9 : Nat) "TaskDesk$Place" "caseNumber" "I") ∈ kx_WS := kx_wd1 226 (by decide +kernel) rfl
theorem kw_227 : (Jvm.Cond.fieldLink "TaskDesk" (258 : Nat) "TaskDesk$Place" "caseNumber" "I") ∈ kx_WS := kx_wd1 227 (by decide +kernel) rfl
theorem kw_228 : (Jvm.Cond.fieldLink "TaskDesk$Place" (19 : Nat) "TaskDesk$Place" "row" "LTaskDesk$Row;") ∈ kx_WS := kx_wd1 228 (by decide +kernel) rfl
theorem kw_229 : (Jvm.Cond.fieldLink "TaskDesk$Row" (7 : Nat) "TaskDesk$Place" "row" "LTaskDesk$Row;") ∈ kx_WS := kx_wd1 229 (by decide +kernel) rfl
theorem kw_230 : (Jvm.Cond.fieldLink "TaskDesk$Place" (23 : Nat) "TaskDesk$Place" "before" "LTaskDesk$Place;") ∈ kx_WS := kx_wd1 230 (by decide +kernel) rfl
theorem kw_231 : (Jvm.Cond.fieldLink "TaskDesk$Row" (19 : Nat) "TaskDesk$Place" "before" "LTaskDesk$Place;") ∈ kx_WS := kx_wd1 231 (by decide +kernel) rfl
theorem kw_232 : (Jvm.Cond.fieldLink "TaskDesk" (402 : Nat) "TaskDesk$Place" "before" "LTaskDesk$Place;") ∈ kx_WS := kx_wd1 232 (by decide +kernel) rfl
theorem kw_233 : (Jvm.Cond.fieldLink "TaskDesk$Place" (27 : Nat) "TaskDesk$Place" "behind" "LTaskDesk$Place;") ∈ kx_WS := kx_wd1 233 (by decide +kernel) rfl
theorem kw_234 : (Jvm.Cond.fieldLink "TaskDesk$Row" (25 : Nat) "TaskDesk$Place" "behind" "LTaskDesk$Place;") ∈ kx_WS := kx_wd1 234 (by decide +kernel) rfl
theorem kw_235 : (Jvm.Cond.fieldLink "TaskDesk$Task" (61 : Nat) "TaskDesk$Place" "sibling" "LTaskDesk$Place;") ∈ kx_WS := kx_wd1 235 (by decide +kernel) rfl
theorem kw_236 : (Jvm.Cond.fieldLink "TaskDesk" (249 : Nat) "TaskDesk$Place" "sibling" "LTaskDesk$Place;") ∈ kx_WS := kx_wd1 236 (by decide +kernel) rfl
theorem kw_256 : (Jvm.Cond.instantiable "TaskDesk$Task" (10 : Nat)) ∈ kx_WS := kx_wd1 256 (by decide +kernel) rfl
theorem kw_257 : (Jvm.Cond.methodLink "TaskDesk" (57 : Nat) ({ cls := "TaskDesk$Task", name := "<init>", desc := "(ILTaskDesk$Place;)V" } : Jvm.MethodName)) ∈ kx_WS := kx_wd1 257 (by decide +kernel) rfl
theorem kw_258 : (Jvm.Cond.instanceMethod ({ cls := "TaskDesk$Task", name := "<init>", desc := "(ILTaskDesk$Place;)V" } : Jvm.MethodName)) ∈ kx_WS := kx_wd1 258 (by decide +kernel) rfl
theorem kw_259 : (Jvm.Cond.code ({ cls := "TaskDesk$Task", name := "<init>", desc := "(ILTaskDesk$Place;)V" } : Jvm.MethodName) prog_7_method_1_code (3 : Nat) (Option.none : Option Jvm.ClassFile.FieldType)) ∈ kx_WS := kx_wd1 259 (by decide +kernel) rfl
theorem kw_260 : (Jvm.Cond.methodLink "TaskDesk$Task" (3 : Nat) ({ cls := "java/lang/Object", name := "<init>", desc := "()V" } : Jvm.MethodName)) ∈ kx_WS := kx_wd1 260 (by decide +kernel) rfl
theorem kw_261 : (Jvm.Cond.fieldLink "TaskDesk$Task" (9 : Nat) "TaskDesk$Task" "number" "I") ∈ kx_WS := kx_wd1 261 (by decide +kernel) rfl
theorem kw_262 : (Jvm.Cond.fieldLink "TaskDesk" (107 : Nat) "TaskDesk$Task" "number" "I") ∈ kx_WS := kx_wd1 262 (by decide +kernel) rfl
theorem kw_263 : (Jvm.Cond.fieldLink "TaskDesk$Task" (15 : Nat) "TaskDesk$Task" "stand" "LTaskDesk$Place;") ∈ kx_WS := kx_wd1 263 (by decide +kernel) rfl
theorem kw_264 : (Jvm.Cond.fieldLink "TaskDesk" (211 : Nat) "TaskDesk$Task" "stand" "LTaskDesk$Place;") ∈ kx_WS := kx_wd1 264 (by decide +kernel) rfl
theorem kw_265 : (Jvm.Cond.fieldLink "TaskDesk$Task" (19 : Nat) "TaskDesk$Task" "alive" "Z") ∈ kx_WS := kx_wd1 265 (by decide +kernel) rfl
theorem kw_266 : (Jvm.Cond.fieldLink "TaskDesk" (120 : Nat) "TaskDesk$Task" "alive" "Z") ∈ kx_WS := kx_wd1 266 (by decide +kernel) rfl
theorem kw_267 : (Jvm.Cond.fieldLink "TaskDesk" (79 : Nat) "TaskDesk$Task" "state" "I") ∈ kx_WS := kx_wd1 267 (by decide +kernel) rfl
theorem kw_268 : (Jvm.Cond.fieldLink "TaskDesk$Task" (43 : Nat) "TaskDesk$Task" "state" "I") ∈ kx_WS := kx_wd1 268 (by decide +kernel) rfl
theorem kw_269 : (Jvm.Cond.fieldLink "TaskDesk$Task" (23 : Nat) "TaskDesk$Task" "at" "I") ∈ kx_WS := kx_wd1 269 (by decide +kernel) rfl
theorem kw_270 : (Jvm.Cond.fieldLink "TaskDesk" (359 : Nat) "TaskDesk$Task" "at" "I") ∈ kx_WS := kx_wd1 270 (by decide +kernel) rfl
theorem kw_271 : (Jvm.Cond.fieldLink "TaskDesk$Task" (58 : Nat) "TaskDesk$Task" "cases" "LTaskDesk$Place;") ∈ kx_WS := kx_wd1 271 (by decide +kernel) rfl
theorem kw_272 : (Jvm.Cond.fieldLink "TaskDesk" (435 : Nat) "TaskDesk$Task" "cases" "LTaskDesk$Place;") ∈ kx_WS := kx_wd1 272 (by decide +kernel) rfl
theorem kw_273 : (Jvm.Cond.fieldLink "TaskDesk$Task" (30 : Nat) "TaskDesk$Task" "result" "J") ∈ kx_WS := kx_wd1 273 (by decide +kernel) rfl
theorem kw_274 : (Jvm.Cond.fieldLink "TaskDesk" (378 : Nat) "TaskDesk$Task" "result" "J") ∈ kx_WS := kx_wd1 274 (by decide +kernel) rfl
theorem kw_275 : (Jvm.Cond.fieldLink "TaskDesk$Task" (34 : Nat) "TaskDesk$Task" "flag" "Z") ∈ kx_WS := kx_wd1 275 (by decide +kernel) rfl
theorem kw_276 : (Jvm.Cond.fieldLink "TaskDesk" (363 : Nat) "TaskDesk$Task" "flag" "Z") ∈ kx_WS := kx_wd1 276 (by decide +kernel) rfl
theorem kw_277 : (Jvm.Cond.fieldLink "TaskDesk$Task" (37 : Nat) "TaskDesk$Task" "caseNumber" "I") ∈ kx_WS := kx_wd1 277 (by decide +kernel) rfl
theorem kw_278 : (Jvm.Cond.fieldLink "TaskDesk" (362 : Nat) "TaskDesk$Task" "caseNumber" "I") ∈ kx_WS := kx_wd1 278 (by decide +kernel) rfl
theorem kw_279 : (Jvm.Cond.fieldLink "TaskDesk$Task" (40 : Nat) "TaskDesk$Task" "broken" "Z") ∈ kx_WS := kx_wd1 279 (by decide +kernel) rfl
theorem kw_280 : (Jvm.Cond.fieldLink "TaskDesk" (366 : Nat) "TaskDesk$Task" "broken" "Z") ∈ kx_WS := kx_wd1 280 (by decide +kernel) rfl
theorem kw_302 : (Jvm.Cond.instantiable "TaskDesk$Gate" (6 : Nat)) ∈ kx_WS := kx_wd1 302 (by decide +kernel) rfl
theorem kw_303 : (Jvm.Cond.methodLink "TaskDesk" (64 : Nat) ({ cls := "TaskDesk$Gate", name := "<init>", desc := "(I)V" } : Jvm.MethodName)) ∈ kx_WS := kx_wd1 303 (by decide +kernel) rfl
theorem kw_304 : (Jvm.Cond.instanceMethod ({ cls := "TaskDesk$Gate", name := "<init>", desc := "(I)V" } : Jvm.MethodName)) ∈ kx_WS := kx_wd1 304 (by decide +kernel) rfl
theorem kw_305 : (Jvm.Cond.code ({ cls := "TaskDesk$Gate", name := "<init>", desc := "(I)V" } : Jvm.MethodName) prog_4_method_1_code (2 : Nat) (Option.none : Option Jvm.ClassFile.FieldType)) ∈ kx_WS := kx_wd1 305 (by decide +kernel) rfl
theorem kw_306 : (Jvm.Cond.methodLink "TaskDesk$Gate" (3 : Nat) ({ cls := "java/lang/Object", name := "<init>", desc := "()V" } : Jvm.MethodName)) ∈ kx_WS := kx_wd1 306 (by decide +kernel) rfl
theorem kw_307 : (Jvm.Cond.classLink "TaskDesk$Gate" (9 : Nat) "TaskDesk$Row") ∈ kx_WS := kx_wd1 307 (by decide +kernel) rfl
theorem kw_308 : (Jvm.Cond.methodLinkNest "TaskDesk$Gate" (11 : Nat) ({ cls := "TaskDesk$Row", name := "<init>", desc := "()V" } : Jvm.MethodName) "TaskDesk") ∈ kx_WS := kx_wd1 308 (by decide +kernel) rfl
theorem kw_309 : (Jvm.Cond.fieldLink "TaskDesk$Gate" (21 : Nat) "TaskDesk$Gate" "number" "I") ∈ kx_WS := kx_wd1 309 (by decide +kernel) rfl
theorem kw_310 : (Jvm.Cond.fieldLink "TaskDesk" (295 : Nat) "TaskDesk$Gate" "number" "I") ∈ kx_WS := kx_wd1 310 (by decide +kernel) rfl
theorem kw_311 : (Jvm.Cond.fieldLink "TaskDesk$Gate" (12 : Nat) "TaskDesk$Gate" "waiting" "LTaskDesk$Row;") ∈ kx_WS := kx_wd1 311 (by decide +kernel) rfl
theorem kw_312 : (Jvm.Cond.fieldLink "TaskDesk" (312 : Nat) "TaskDesk$Gate" "waiting" "LTaskDesk$Row;") ∈ kx_WS := kx_wd1 312 (by decide +kernel) rfl
theorem kw_313 : (Jvm.Cond.fieldLink "TaskDesk$Gate" (18 : Nat) "TaskDesk$Gate" "readers" "LTaskDesk$Row;") ∈ kx_WS := kx_wd1 313 (by decide +kernel) rfl
theorem kw_314 : (Jvm.Cond.fieldLink "TaskDesk" (320 : Nat) "TaskDesk$Gate" "readers" "LTaskDesk$Row;") ∈ kx_WS := kx_wd1 314 (by decide +kernel) rfl
theorem kw_315 : (Jvm.Cond.fieldLink "TaskDesk$Gate" (25 : Nat) "TaskDesk$Gate" "kind" "I") ∈ kx_WS := kx_wd1 315 (by decide +kernel) rfl
theorem kw_316 : (Jvm.Cond.fieldLink "TaskDesk" (281 : Nat) "TaskDesk$Gate" "kind" "I") ∈ kx_WS := kx_wd1 316 (by decide +kernel) rfl
theorem kw_317 : (Jvm.Cond.fieldLink "TaskDesk$Gate" (28 : Nat) "TaskDesk$Gate" "taken" "I") ∈ kx_WS := kx_wd1 317 (by decide +kernel) rfl
theorem kw_318 : (Jvm.Cond.fieldLink "TaskDesk" (306 : Nat) "TaskDesk$Gate" "taken" "I") ∈ kx_WS := kx_wd1 318 (by decide +kernel) rfl
theorem kw_319 : (Jvm.Cond.fieldLink "TaskDesk" (291 : Nat) "TaskDesk$Gate" "lock" "LTaskDesk$Gate;") ∈ kx_WS := kx_wd1 319 (by decide +kernel) rfl
theorem kw_333 : (Jvm.Cond.classLink "TaskDesk" (65 : Nat) "TaskDesk$Value") ∈ kx_WS := kx_wd1 333 (by decide +kernel) rfl
theorem kw_334 : (Jvm.Cond.instantiable "TaskDesk$Value" (2 : Nat)) ∈ kx_WS := kx_wd1 334 (by decide +kernel) rfl
theorem kw_335 : (Jvm.Cond.methodLinkNest "TaskDesk" (67 : Nat) ({ cls := "TaskDesk$Value", name := "<init>", desc := "()V" } : Jvm.MethodName) "TaskDesk") ∈ kx_WS := kx_wd1 335 (by decide +kernel) rfl
theorem kw_336 : (Jvm.Cond.instanceMethod ({ cls := "TaskDesk$Value", name := "<init>", desc := "()V" } : Jvm.MethodName)) ∈ kx_WS := kx_wd1 336 (by decide +kernel) rfl
theorem kw_337 : (Jvm.Cond.code ({ cls := "TaskDesk$Value", name := "<init>", desc := "()V" } : Jvm.MethodName) prog_9_method_1_code (1 : Nat) (Option.none : Option Jvm.ClassFile.FieldType)) ∈ kx_WS := kx_wd1 337 (by decide +kernel) rfl
theorem kw_338 : (Jvm.Cond.methodLink "TaskDesk$Value" (1 : Nat) ({ cls := "java/lang/Object", name := "<init>", desc := "()V" } : Jvm.MethodName)) ∈ kx_WS := kx_wd1 338 (by decide +kernel) rfl
theorem kw_339 : (Jvm.Cond.fieldLink "TaskDesk" (448 : Nat) "TaskDesk$Value" "number" "J") ∈ kx_WS := kx_wd1 339 (by decide +kernel) rfl
theorem kw_340 : (Jvm.Cond.fieldLink "TaskDesk$Channel" (29 : Nat) "TaskDesk$Value" "behind" "LTaskDesk$Value;") ∈ kx_WS := kx_wd1 340 (by decide +kernel) rfl
theorem kw_341 : (Jvm.Cond.fieldLink "TaskDesk" (445 : Nat) "TaskDesk$Value" "behind" "LTaskDesk$Value;") ∈ kx_WS := kx_wd1 341 (by decide +kernel) rfl
theorem kw_347 : (Jvm.Cond.methodLink "TaskDesk" (68 : Nat) ({ cls := "TaskDesk", name := "keepValue", desc := "(LTaskDesk$Value;)V" } : Jvm.MethodName)) ∈ kx_WS := kx_wd1 347 (by decide +kernel) rfl
theorem kw_349 : (Jvm.Cond.instanceMethod ({ cls := "TaskDesk", name := "keepValue", desc := "(LTaskDesk$Value;)V" } : Jvm.MethodName)) ∈ kx_WS := kx_wd1 349 (by decide +kernel) rfl
theorem kw_350 : (Jvm.Cond.code ({ cls := "TaskDesk", name := "keepValue", desc := "(LTaskDesk$Value;)V" } : Jvm.MethodName) prog_1_method_49_code (2 : Nat) (Option.none : Option Jvm.ClassFile.FieldType)) ∈ kx_WS := kx_wd1 350 (by decide +kernel) rfl
theorem kw_351 : (Jvm.Cond.methodLink "TaskDesk" (72 : Nat) ({ cls := "TaskDesk", name := "keepPlace", desc := "(LTaskDesk$Place;)V" } : Jvm.MethodName)) ∈ kx_WS := kx_wd1 351 (by decide +kernel) rfl
theorem kw_353 : (Jvm.Cond.instanceMethod ({ cls := "TaskDesk", name := "keepPlace", desc := "(LTaskDesk$Place;)V" } : Jvm.MethodName)) ∈ kx_WS := kx_wd1 353 (by decide +kernel) rfl
theorem kw_354 : (Jvm.Cond.code ({ cls := "TaskDesk", name := "keepPlace", desc := "(LTaskDesk$Place;)V" } : Jvm.MethodName) prog_1_method_56_code (2 : Nat) (Option.none : Option Jvm.ClassFile.FieldType)) ∈ kx_WS := kx_wd1 354 (by decide +kernel) rfl
theorem kw_355 : (Jvm.Cond.methodLink "TaskDesk" (76 : Nat) ({ cls := "TaskDesk$Task", name := "begin", desc := "()V" } : Jvm.MethodName)) ∈ kx_WS := kx_wd1 355 (by decide +kernel) rfl
theorem kw_356 : (Jvm.Cond.instanceMethod ({ cls := "TaskDesk$Task", name := "begin", desc := "()V" } : Jvm.MethodName)) ∈ kx_WS := kx_wd1 356 (by decide +kernel) rfl
theorem kw_357 : (Jvm.Cond.selects "TaskDesk$Task" ({ cls := "TaskDesk$Task", name := "begin", desc := "()V" } : Jvm.MethodName) ({ cls := "TaskDesk$Task", name := "begin", desc := "()V" } : Jvm.MethodName)) ∈ kx_WS := kx_wd1 357 (by decide +kernel) rfl
theorem kw_358 : (Jvm.Cond.code ({ cls := "TaskDesk$Task", name := "begin", desc := "()V" } : Jvm.MethodName) prog_7_method_2_code (1 : Nat) (Option.none : Option Jvm.ClassFile.FieldType)) ∈ kx_WS := kx_wd1 358 (by decide +kernel) rfl
theorem kw_359 : (Jvm.Cond.methodLink "TaskDesk$Task" (26 : Nat) ({ cls := "TaskDesk$Task", name := "tell", desc := "(JZIZ)V" } : Jvm.MethodName)) ∈ kx_WS := kx_wd1 359 (by decide +kernel) rfl
theorem kw_360 : (Jvm.Cond.instanceMethod ({ cls := "TaskDesk$Task", name := "tell", desc := "(JZIZ)V" } : Jvm.MethodName)) ∈ kx_WS := kx_wd1 360 (by decide +kernel) rfl
theorem kw_361 : (Jvm.Cond.selects "TaskDesk$Task" ({ cls := "TaskDesk$Task", name := "tell", desc := "(JZIZ)V" } : Jvm.MethodName) ({ cls := "TaskDesk$Task", name := "tell", desc := "(JZIZ)V" } : Jvm.MethodName)) ∈ kx_WS := kx_wd1 361 (by decide +kernel) rfl
theorem kw_362 : (Jvm.Cond.code ({ cls := "TaskDesk$Task", name := "tell", desc := "(JZIZ)V" } : Jvm.MethodName) prog_7_method_3_code (6 : Nat) (Option.none : Option Jvm.ClassFile.FieldType)) ∈ kx_WS := kx_wd1 362 (by decide +kernel) rfl
theorem kw_363 : (Jvm.Cond.fieldLink "TaskDesk" (11 : Nat) "TaskDesk" "tasks" "[LTaskDesk$Task;") ∈ kx_WS := kx_wd1 363 (by decide +kernel) rfl
theorem kw_364 : (Jvm.Cond.fieldLink "TaskDesk" (83 : Nat) "TaskDesk" "taskCount" "I") ∈ kx_WS := kx_wd1 364 (by decide +kernel) rfl
theorem kw_365 : (Jvm.Cond.fieldLink "TaskDesk" (18 : Nat) "TaskDesk" "ready" "LTaskDesk$Row;") ∈ kx_WS := kx_wd1 365 (by decide +kernel) rfl
theorem kw_366 : (Jvm.Cond.fieldLink "TaskDesk" (86 : Nat) "TaskDesk" "running" "LTaskDesk$Task;") ∈ kx_WS := kx_wd1 366 (by decide +kernel) rfl
theorem kw_367 : (Jvm.Cond.fieldLink "TaskDesk" (399 : Nat) "TaskDesk" "over" "Z") ∈ kx_WS := kx_wd1 367 (by decide +kernel) rfl
theorem kw_368 : (Jvm.Cond.fieldLink "TaskDesk" (131 : Nat) "TaskDesk" "now" "J") ∈ kx_WS := kx_wd1 368 (by decide +kernel) rfl
theorem kw_369 : (Jvm.Cond.fieldLink "TaskDesk" (25 : Nat) "TaskDesk" "agenda" "LTaskDesk$Agenda;") ∈ kx_WS := kx_wd1 369 (by decide +kernel) rfl
theorem kw_370 : (Jvm.Cond.fieldLink "TaskDesk" (184 : Nat) "TaskDesk" "alarmCount" "I") ∈ kx_WS := kx_wd1 370 (by decide +kernel) rfl
theorem kw_371 : (Jvm.Cond.fieldLink "TaskDesk" (31 : Nat) "TaskDesk" "channels" "[LTaskDesk$Channel;") ∈ kx_WS := kx_wd1 371 (by decide +kernel) rfl
theorem kw_372 : (Jvm.Cond.fieldLink "TaskDesk" (38 : Nat) "TaskDesk" "nowhere" "LTaskDesk$Channel;") ∈ kx_WS := kx_wd1 372 (by decide +kernel) rfl
theorem kw_373 : (Jvm.Cond.fieldLink "TaskDesk" (159 : Nat) "TaskDesk" "channelCount" "I") ∈ kx_WS := kx_wd1 373 (by decide +kernel) rfl
theorem kw_374 : (Jvm.Cond.fieldLink "TaskDesk" (145 : Nat) "TaskDesk" "roomGiven" "I") ∈ kx_WS := kx_wd1 374 (by decide +kernel) rfl
theorem kw_375 : (Jvm.Cond.fieldLink "TaskDesk" (441 : Nat) "TaskDesk" "freeValue" "LTaskDesk$Value;") ∈ kx_WS := kx_wd1 375 (by decide +kernel) rfl
theorem kw_376 : (Jvm.Cond.fieldLink "TaskDesk" (44 : Nat) "TaskDesk" "told" "[LTaskDesk$Place;") ∈ kx_WS := kx_wd1 376 (by decide +kernel) rfl
theorem kw_377 : (Jvm.Cond.fieldLink "TaskDesk" (244 : Nat) "TaskDesk" "toldCount" "I") ∈ kx_WS := kx_wd1 377 (by decide +kernel) rfl
theorem kw_378 : (Jvm.Cond.fieldLink "TaskDesk" (241 : Nat) "TaskDesk" "freePlace" "LTaskDesk$Place;") ∈ kx_WS := kx_wd1 378 (by decide +kernel) rfl
theorem kw_379 : (Jvm.Cond.fieldLink "TaskDesk" (50 : Nat) "TaskDesk" "gates" "[LTaskDesk$Gate;") ∈ kx_WS := kx_wd1 379 (by decide +kernel) rfl
theorem kw_380 : (Jvm.Cond.fieldLink "TaskDesk" (286 : Nat) "TaskDesk" "gateCount" "I") ∈ kx_WS := kx_wd1 380 (by decide +kernel) rfl
theorem kw_422 : (Jvm.Cond.methodLink "TaskDesk" (163 : Nat) ({ cls := "TaskDesk", name := "channelAt", desc := "(I)LTaskDesk$Channel;" } : Jvm.MethodName)) ∈ kx_WS := kx_wd1 422 (by decide +kernel) rfl
theorem kw_424 : (Jvm.Cond.instanceMethod ({ cls := "TaskDesk", name := "channelAt", desc := "(I)LTaskDesk$Channel;" } : Jvm.MethodName)) ∈ kx_WS := kx_wd1 424 (by decide +kernel) rfl
theorem kw_425 : (Jvm.Cond.code ({ cls := "TaskDesk", name := "channelAt", desc := "(I)LTaskDesk$Channel;" } : Jvm.MethodName) prog_1_method_30_code (2 : Nat) (Option.some (Jvm.ClassFile.FieldType.object "TaskDesk$Channel"))) ∈ kx_WS := kx_wd1 425 (by decide +kernel) rfl
theorem kw_426 : (Jvm.Cond.methodLink "TaskDesk" (167 : Nat) ({ cls := "TaskDesk$Channel", name := "isAwaited", desc := "()Z" } : Jvm.MethodName)) ∈ kx_WS := kx_wd1 426 (by decide +kernel) rfl
theorem kw_427 : (Jvm.Cond.instanceMethod ({ cls := "TaskDesk$Channel", name := "isAwaited", desc := "()Z" } : Jvm.MethodName)) ∈ kx_WS := kx_wd1 427 (by decide +kernel) rfl
theorem kw_428 : (Jvm.Cond.selects "TaskDesk$Channel" ({ cls := "TaskDesk$Channel", name := "isAwaited", desc := "()Z" } : Jvm.MethodName) ({ cls := "TaskDesk$Channel", name := "isAwaited", desc := "()Z" } : Jvm.MethodName)) ∈ kx_WS := kx_wd1 428 (by decide +kernel) rfl
theorem kw_429 : (Jvm.Cond.code ({ cls := "TaskDesk$Channel", name := "isAwaited", desc := "()Z" } : Jvm.MethodName) prog_3_method_2_code (1 : Nat) (Option.some Jvm.ClassFile.FieldType.boolean)) ∈ kx_WS := kx_wd1 429 (by decide +kernel) rfl
theorem kw_430 : (Jvm.Cond.methodLink "TaskDesk" (171 : Nat) ({ cls := "TaskDesk", name := "isTold", desc := "(LTaskDesk$Channel;)Z" } : Jvm.MethodName)) ∈ kx_WS := kx_wd1 430 (by decide +kernel) rfl
theorem kw_432 : (Jvm.Cond.instanceMethod ({ cls := "TaskDesk", name := "isTold", desc := "(LTaskDesk$Channel;)Z" } : Jvm.MethodName)) ∈ kx_WS := kx_wd1 432 (by decide +kernel) rfl
theorem kw_433 : (Jvm.Cond.code ({ cls := "TaskDesk", name := "isTold", desc := "(LTaskDesk$Channel;)Z" } : Jvm.MethodName) prog_1_method_50_code (3 : Nat) (Option.some Jvm.ClassFile.FieldType.boolean)) ∈ kx_WS := kx_wd1 433 (by decide +kernel) rfl
theorem kw_434 : (Jvm.Cond.methodLink "TaskDesk" (178 : Nat) ({ cls := "TaskDesk", name := "takeValue", desc := "(LTaskDesk$Channel;)J" } : Jvm.MethodName)) ∈ kx_WS := kx_wd1 434 (by decide +kernel) rfl
theorem kw_436 : (Jvm.Cond.instanceMethod ({ cls := "TaskDesk", name := "takeValue", desc := "(LTaskDesk$Channel;)J" } : Jvm.MethodName)) ∈ kx_WS := kx_wd1 436 (by decide +kernel) rfl
theorem kw_437 : (Jvm.Cond.code ({ cls := "TaskDesk", name := "takeValue", desc := "(LTaskDesk$Channel;)J" } : Jvm.MethodName) prog_1_method_48_code (3 : Nat) (Option.some Jvm.ClassFile.FieldType.long)) ∈ kx_WS := kx_wd1 437 (by decide +kernel) rfl
theorem kw_438 : (Jvm.Cond.methodLink "TaskDesk" (455 : Nat) ({ cls := "TaskDesk$Channel", name := "removeFirst", desc := "()V" } : Jvm.MethodName)) ∈ kx_WS := kx_wd1 438 (by decide +kernel) rfl
theorem kw_439 : (Jvm.Cond.instanceMethod ({ cls := "TaskDesk$Channel", name := "removeFirst", desc := "()V" } : Jvm.MethodName)) ∈ kx_WS := kx_wd1 439 (by decide +kernel) rfl
theorem kw_440 : (Jvm.Cond.selects "TaskDesk$Channel" ({ cls := "TaskDesk$Channel", name := "removeFirst", desc := "()V" } : Jvm.MethodName) ({ cls := "TaskDesk$Channel", name := "removeFirst", desc := "()V" } : Jvm.MethodName)) ∈ kx_WS := kx_wd1 440 (by decide +kernel) rfl
theorem kw_441 : (Jvm.Cond.code ({ cls := "TaskDesk$Channel", name := "removeFirst", desc := "()V" } : Jvm.MethodName) prog_3_method_4_code (1 : Nat) (Option.none : Option Jvm.ClassFile.FieldType)) ∈ kx_WS := kx_wd1 441 (by decide +kernel) rfl
theorem kw_443 : (Jvm.Cond.instanceMethod ({ cls := "TaskDesk", name := "current", desc := "()I" } : Jvm.MethodName)) ∈ kx_WS := kx_wd1 443 (by decide +kernel) rfl
theorem kw_444 : (Jvm.Cond.selects "TaskDesk" ({ cls := "TaskDesk", name := "current", desc := "()I" } : Jvm.MethodName) ({ cls := "TaskDesk", name := "current", desc := "()I" } : Jvm.MethodName)) ∈ kx_WS := kx_wd1 444 (by decide +kernel) rfl
theorem kw_445 : (Jvm.Cond.code ({ cls := "TaskDesk", name := "current", desc := "()I" } : Jvm.MethodName) prog_1_method_19_code (1 : Nat) (Option.some Jvm.ClassFile.FieldType.int)) ∈ kx_WS := kx_wd1 445 (by decide +kernel) rfl
theorem kw_454 : (Jvm.Cond.methodLink "TaskDesk" (392 : Nat) ({ cls := "TaskDesk", name := "howItStands", desc := "()I" } : Jvm.MethodName)) ∈ kx_WS := kx_wd1 454 (by decide +kernel) rfl
theorem kw_456 : (Jvm.Cond.instanceMethod ({ cls := "TaskDesk", name := "howItStands", desc := "()I" } : Jvm.MethodName)) ∈ kx_WS := kx_wd1 456 (by decide +kernel) rfl
theorem kw_457 : (Jvm.Cond.code ({ cls := "TaskDesk", name := "howItStands", desc := "()I" } : Jvm.MethodName) prog_1_method_34_code (1 : Nat) (Option.some Jvm.ClassFile.FieldType.int)) ∈ kx_WS := kx_wd1 457 (by decide +kernel) rfl
theorem kw_466 : (Jvm.Cond.methodLink "TaskDesk" (89 : Nat) ({ cls := "TaskDesk", name := "mustBeCurrent", desc := "()LTaskDesk$Task;" } : Jvm.MethodName)) ∈ kx_WS := kx_wd1 466 (by decide +kernel) rfl
theorem kw_468 : (Jvm.Cond.instanceMethod ({ cls := "TaskDesk", name := "mustBeCurrent", desc := "()LTaskDesk$Task;" } : Jvm.MethodName)) ∈ kx_WS := kx_wd1 468 (by decide +kernel) rfl
theorem kw_469 : (Jvm.Cond.code ({ cls := "TaskDesk", name := "mustBeCurrent", desc := "()LTaskDesk$Task;" } : Jvm.MethodName) prog_1_method_26_code (1 : Nat) (Option.some (Jvm.ClassFile.FieldType.object "TaskDesk$Task"))) ∈ kx_WS := kx_wd1 469 (by decide +kernel) rfl
theorem kw_470 : (Jvm.Cond.classLink "TaskDesk" (96 : Nat) "java/lang/IllegalStateException") ∈ kx_WS := kx_wd1 470 (by decide +kernel) rfl
theorem kw_471 : (Jvm.Cond.instantiable "java/lang/IllegalStateException" (6 : Nat)) ∈ kx_WS := kx_wd1 471 (by decide +kernel) rfl
theorem kw_512 : (Jvm.Cond.stringRef "TaskDesk" (395 : Nat) "no task is current") ∈ kx_WS := kx_wd1 512 (by decide +kernel) rfl
theorem kw_539 : (Jvm.Cond.methodLink "TaskDesk" (93 : Nat) ({ cls := "TaskDesk", name := "firstFreeTask", desc := "()LTaskDesk$Task;" } : Jvm.MethodName)) ∈ kx_WS := kx_wd1 539 (by decide +kernel) rfl
theorem kw_541 : (Jvm.Cond.instanceMethod ({ cls := "TaskDesk", name := "firstFreeTask", desc := "()LTaskDesk$Task;" } : Jvm.MethodName)) ∈ kx_WS := kx_wd1 541 (by decide +kernel) rfl
theorem kw_542 : (Jvm.Cond.code ({ cls := "TaskDesk", name := "firstFreeTask", desc := "()LTaskDesk$Task;" } : Jvm.MethodName) prog_1_method_32_code (2 : Nat) (Option.some (Jvm.ClassFile.FieldType.object "TaskDesk$Task"))) ∈ kx_WS := kx_wd1 542 (by decide +kernel) rfl
theorem kw_543 : (Jvm.Cond.stringRef "TaskDesk" (98 : Nat) "there are 256 tasks") ∈ kx_WS := kx_wd1 543 (by decide +kernel) rfl
theorem kw_544 : (Jvm.Cond.methodLink "TaskDesk" (103 : Nat) ({ cls := "TaskDesk", name := "makeReady", desc := "(LTaskDesk$Task;)V" } : Jvm.MethodName)) ∈ kx_WS := kx_wd1 544 (by decide +kernel) rfl
theorem kw_546 : (Jvm.Cond.instanceMethod ({ cls := "TaskDesk", name := "makeReady", desc := "(LTaskDesk$Task;)V" } : Jvm.MethodName)) ∈ kx_WS := kx_wd1 546 (by decide +kernel) rfl
theorem kw_547 : (Jvm.Cond.code ({ cls := "TaskDesk", name := "makeReady", desc := "(LTaskDesk$Task;)V" } : Jvm.MethodName) prog_1_method_35_code (2 : Nat) (Option.none : Option Jvm.ClassFile.FieldType)) ∈ kx_WS := kx_wd1 547 (by decide +kernel) rfl
theorem kw_548 : (Jvm.Cond.methodLink "TaskDesk" (221 : Nat) ({ cls := "TaskDesk$Task", name := "waitIn", desc := "(LTaskDesk$Row;II)V" } : Jvm.MethodName)) ∈ kx_WS := kx_wd1 548 (by decide +kernel) rfl
theorem kw_549 : (Jvm.Cond.instanceMethod ({ cls := "TaskDesk$Task", name := "waitIn", desc := "(LTaskDesk$Row;II)V" } : Jvm.MethodName)) ∈ kx_WS := kx_wd1 549 (by decide +kernel) rfl
theorem kw_550 : (Jvm.Cond.selects "TaskDesk$Task" ({ cls := "TaskDesk$Task", name := "waitIn", desc := "(LTaskDesk$Row;II)V" } : Jvm.MethodName) ({ cls := "TaskDesk$Task", name := "waitIn", desc := "(LTaskDesk$Row;II)V" } : Jvm.MethodName)) ∈ kx_WS := kx_wd1 550 (by decide +kernel) rfl
theorem kw_551 : (Jvm.Cond.code ({ cls := "TaskDesk$Task", name := "waitIn", desc := "(LTaskDesk$Row;II)V" } : Jvm.MethodName) prog_7_method_4_code (4 : Nat) (Option.none : Option Jvm.ClassFile.FieldType)) ∈ kx_WS := kx_wd1 551 (by decide +kernel) rfl
theorem kw_552 : (Jvm.Cond.methodLink "TaskDesk$Task" (46 : Nat) ({ cls := "TaskDesk$Row", name := "append", desc := "(LTaskDesk$Place;)V" } : Jvm.MethodName)) ∈ kx_WS := kx_wd1 552 (by decide +kernel) rfl
theorem kw_553 : (Jvm.Cond.instanceMethod ({ cls := "TaskDesk$Row", name := "append", desc := "(LTaskDesk$Place;)V" } : Jvm.MethodName)) ∈ kx_WS := kx_wd1 553 (by decide +kernel) rfl
theorem kw_554 : (Jvm.Cond.selects "TaskDesk$Row" ({ cls := "TaskDesk$Row", name := "append", desc := "(LTaskDesk$Place;)V" } : Jvm.MethodName) ({ cls := "TaskDesk$Row", name := "append", desc := "(LTaskDesk$Place;)V" } : Jvm.MethodName)) ∈ kx_WS := kx_wd1 554 (by decide +kernel) rfl
theorem kw_555 : (Jvm.Cond.code ({ cls := "TaskDesk$Row", name := "append", desc := "(LTaskDesk$Place;)V" } : Jvm.MethodName) prog_6_method_2_code (2 : Nat) (Option.none : Option Jvm.ClassFile.FieldType)) ∈ kx_WS := kx_wd1 555 (by decide +kernel) rfl
theorem kw_563 : (Jvm.Cond.methodLink "TaskDesk" (110 : Nat) ({ cls := "TaskDesk", name := "goOn", desc := "()V" } : Jvm.MethodName)) ∈ kx_WS := kx_wd1 563 (by decide +kernel) rfl
theorem kw_565 : (Jvm.Cond.instanceMethod ({ cls := "TaskDesk", name := "goOn", desc := "()V" } : Jvm.MethodName)) ∈ kx_WS := kx_wd1 565 (by decide +kernel) rfl
theorem kw_566 : (Jvm.Cond.code ({ cls := "TaskDesk", name := "goOn", desc := "()V" } : Jvm.MethodName) prog_1_method_37_code (4 : Nat) (Option.none : Option Jvm.ClassFile.FieldType)) ∈ kx_WS := kx_wd1 566 (by decide +kernel) rfl
theorem kw_567 : (Jvm.Cond.methodLink "TaskDesk" (405 : Nat) ({ cls := "TaskDesk$Agenda", name := "takeFirst", desc := "()LTaskDesk$Timer;" } : Jvm.MethodName)) ∈ kx_WS := kx_wd1 567 (by decide +kernel) rfl
theorem kw_568 : (Jvm.Cond.instanceMethod ({ cls := "TaskDesk$Agenda", name := "takeFirst", desc := "()LTaskDesk$Timer;" } : Jvm.MethodName)) ∈ kx_WS := kx_wd1 568 (by decide +kernel) rfl
theorem kw_569 : (Jvm.Cond.selects "TaskDesk$Agenda" ({ cls := "TaskDesk$Agenda", name := "takeFirst", desc := "()LTaskDesk$Timer;" } : Jvm.MethodName) ({ cls := "TaskDesk$Agenda", name := "takeFirst", desc := "()LTaskDesk$Timer;" } : Jvm.MethodName)) ∈ kx_WS := kx_wd1 569 (by decide +kernel) rfl
theorem kw_570 : (Jvm.Cond.code ({ cls := "TaskDesk$Agenda", name := "takeFirst", desc := "()LTaskDesk$Timer;" } : Jvm.MethodName) prog_2_method_4_code (2 : Nat) (Option.some (Jvm.ClassFile.FieldType.object "TaskDesk$Timer"))) ∈ kx_WS := kx_wd1 570 (by decide +kernel) rfl
theorem kw_571 : (Jvm.Cond.methodLink "TaskDesk" (414 : Nat) ({ cls := "TaskDesk", name := "ring", desc := "(LTaskDesk$Timer;)V" } : Jvm.MethodName)) ∈ kx_WS := kx_wd1 571 (by decide +kernel) rfl
theorem kw_573 : (Jvm.Cond.instanceMethod ({ cls := "TaskDesk", name := "ring", desc := "(LTaskDesk$Timer;)V" } : Jvm.MethodName)) ∈ kx_WS := kx_wd1 573 (by decide +kernel) rfl
theorem kw_574 : (Jvm.Cond.code ({ cls := "TaskDesk", name := "ring", desc := "(LTaskDesk$Timer;)V" } : Jvm.MethodName) prog_1_method_38_code (3 : Nat) (Option.none : Option Jvm.ClassFile.FieldType)) ∈ kx_WS := kx_wd1 574 (by decide +kernel) rfl
theorem kw_575 : (Jvm.Cond.methodLink "TaskDesk" (200 : Nat) ({ cls := "TaskDesk", name := "takesAtOnce", desc := "(LTaskDesk$Channel;)Z" } : Jvm.MethodName)) ∈ kx_WS := kx_wd1 575 (by decide +kernel) rfl
theorem kw_577 : (Jvm.Cond.instanceMethod ({ cls := "TaskDesk", name := "takesAtOnce", desc := "(LTaskDesk$Channel;)Z" } : Jvm.MethodName)) ∈ kx_WS := kx_wd1 577 (by decide +kernel) rfl
theorem kw_578 : (Jvm.Cond.code ({ cls := "TaskDesk", name := "takesAtOnce", desc := "(LTaskDesk$Channel;)Z" } : Jvm.MethodName) prog_1_method_43_code (3 : Nat) (Option.some Jvm.ClassFile.FieldType.boolean)) ∈ kx_WS := kx_wd1 578 (by decide +kernel) rfl
theorem kw_579 : (Jvm.Cond.methodLink "TaskDesk" (203 : Nat) ({ cls := "TaskDesk", name := "pass", desc := "(LTaskDesk$Channel;J)V" } : Jvm.MethodName)) ∈ kx_WS := kx_wd1 579 (by decide +kernel) rfl
theorem kw_581 : (Jvm.Cond.instanceMethod ({ cls := "TaskDesk", name := "pass", desc := "(LTaskDesk$Channel;J)V" } : Jvm.MethodName)) ∈ kx_WS := kx_wd1 581 (by decide +kernel) rfl
theorem kw_582 : (Jvm.Cond.code ({ cls := "TaskDesk", name := "pass", desc := "(LTaskDesk$Channel;J)V" } : Jvm.MethodName) prog_1_method_45_code (5 : Nat) (Option.none : Option Jvm.ClassFile.FieldType)) ∈ kx_WS := kx_wd1 582 (by decide +kernel) rfl
theorem kw_583 : (Jvm.Cond.methodLink "TaskDesk" (431 : Nat) ({ cls := "TaskDesk", name := "wake", desc := "(LTaskDesk$Place;JZZ)V" } : Jvm.MethodName)) ∈ kx_WS := kx_wd1 583 (by decide +kernel) rfl
theorem kw_585 : (Jvm.Cond.instanceMethod ({ cls := "TaskDesk", name := "wake", desc := "(LTaskDesk$Place;JZZ)V" } : Jvm.MethodName)) ∈ kx_WS := kx_wd1 585 (by decide +kernel) rfl
theorem kw_586 : (Jvm.Cond.code ({ cls := "TaskDesk", name := "wake", desc := "(LTaskDesk$Place;JZZ)V" } : Jvm.MethodName) prog_1_method_40_code (7 : Nat) (Option.none : Option Jvm.ClassFile.FieldType)) ∈ kx_WS := kx_wd1 586 (by decide +kernel) rfl
theorem kw_587 : (Jvm.Cond.methodLink "TaskDesk" (207 : Nat) ({ cls := "TaskDesk$Task", name := "tell", desc := "(JZIZ)V" } : Jvm.MethodName)) ∈ kx_WS := kx_wd1 587 (by decide +kernel) rfl
theorem kw_588 : (Jvm.Cond.methodLink "TaskDesk" (428 : Nat) ({ cls := "TaskDesk", name := "takeOut", desc := "(LTaskDesk$Task;)V" } : Jvm.MethodName)) ∈ kx_WS := kx_wd1 588 (by decide +kernel) rfl
theorem kw_590 : (Jvm.Cond.instanceMethod ({ cls := "TaskDesk", name := "takeOut", desc := "(LTaskDesk$Task;)V" } : Jvm.MethodName)) ∈ kx_WS := kx_wd1 590 (by decide +kernel) rfl
theorem kw_591 : (Jvm.Cond.code ({ cls := "TaskDesk", name := "takeOut", desc := "(LTaskDesk$Task;)V" } : Jvm.MethodName) prog_1_method_42_code (5 : Nat) (Option.none : Option Jvm.ClassFile.FieldType)) ∈ kx_WS := kx_wd1 591 (by decide +kernel) rfl
theorem kw_592 : (Jvm.Cond.methodLink "TaskDesk" (421 : Nat) ({ cls := "TaskDesk$Place", name := "stepOut", desc := "()V" } : Jvm.MethodName)) ∈ kx_WS := kx_wd1 592 (by decide +kernel) rfl
theorem kw_593 : (Jvm.Cond.instanceMethod ({ cls := "TaskDesk$Place", name := "stepOut", desc := "()V" } : Jvm.MethodName)) ∈ kx_WS := kx_wd1 593 (by decide +kernel) rfl
theorem kw_594 : (Jvm.Cond.selects "TaskDesk$Place" ({ cls := "TaskDesk$Place", name := "stepOut", desc := "()V" } : Jvm.MethodName) ({ cls := "TaskDesk$Place", name := "stepOut", desc := "()V" } : Jvm.MethodName)) ∈ kx_WS := kx_wd1 594 (by decide +kernel) rfl
theorem kw_595 : (Jvm.Cond.code ({ cls := "TaskDesk$Place", name := "stepOut", desc := "()V" } : Jvm.MethodName) prog_5_method_2_code (1 : Nat) (Option.none : Option Jvm.ClassFile.FieldType)) ∈ kx_WS := kx_wd1 595 (by decide +kernel) rfl
theorem kw_596 : (Jvm.Cond.methodLink "TaskDesk" (438 : Nat) ({ cls := "TaskDesk", name := "putValue", desc := "(LTaskDesk$Channel;J)V" } : Jvm.MethodName)) ∈ kx_WS := kx_wd1 596 (by decide +kernel) rfl
theorem kw_598 : (Jvm.Cond.instanceMethod ({ cls := "TaskDesk", name := "putValue", desc := "(LTaskDesk$Channel;J)V" } : Jvm.MethodName)) ∈ kx_WS := kx_wd1 598 (by decide +kernel) rfl
theorem kw_599 : (Jvm.Cond.code ({ cls := "TaskDesk", name := "putValue", desc := "(LTaskDesk$Channel;J)V" } : Jvm.MethodName) prog_1_method_47_code (5 : Nat) (Option.none : Option Jvm.ClassFile.FieldType)) ∈ kx_WS := kx_wd1 599 (by decide +kernel) rfl
theorem kw_600 : (Jvm.Cond.methodLink "TaskDesk" (450 : Nat) ({ cls := "TaskDesk$Channel", name := "append", desc := "(LTaskDesk$Value;)V" } : Jvm.MethodName)) ∈ kx_WS := kx_wd1 600 (by decide +kernel) rfl
theorem kw_601 : (Jvm.Cond.instanceMethod ({ cls := "TaskDesk$Channel", name := "append", desc := "(LTaskDesk$Value;)V" } : Jvm.MethodName)) ∈ kx_WS := kx_wd1 601 (by decide +kernel) rfl
theorem kw_602 : (Jvm.Cond.selects "TaskDesk$Channel" ({ cls := "TaskDesk$Channel", name := "append", desc := "(LTaskDesk$Value;)V" } : Jvm.MethodName) ({ cls := "TaskDesk$Channel", name := "append", desc := "(LTaskDesk$Value;)V" } : Jvm.MethodName)) ∈ kx_WS := kx_wd1 602 (by decide +kernel) rfl
theorem kw_603 : (Jvm.Cond.code ({ cls := "TaskDesk$Channel", name := "append", desc := "(LTaskDesk$Value;)V" } : Jvm.MethodName) prog_3_method_3_code (2 : Nat) (Option.none : Option Jvm.ClassFile.FieldType)) ∈ kx_WS := kx_wd1 603 (by decide +kernel) rfl
theorem kw_604 : (Jvm.Cond.methodLink "TaskDesk" (113 : Nat) ({ cls := "TaskDesk", name := "current", desc := "()I" } : Jvm.MethodName)) ∈ kx_WS := kx_wd1 604 (by decide +kernel) rfl
theorem kw_612 : (Jvm.Cond.methodLink "TaskDesk" (117 : Nat) ({ cls := "TaskDesk", name := "endAll", desc := "()V" } : Jvm.MethodName)) ∈ kx_WS := kx_wd1 612 (by decide +kernel) rfl
theorem kw_614 : (Jvm.Cond.instanceMethod ({ cls := "TaskDesk", name := "endAll", desc := "()V" } : Jvm.MethodName)) ∈ kx_WS := kx_wd1 614 (by decide +kernel) rfl
theorem kw_615 : (Jvm.Cond.code ({ cls := "TaskDesk", name := "endAll", desc := "()V" } : Jvm.MethodName) prog_1_method_39_code (2 : Nat) (Option.none : Option Jvm.ClassFile.FieldType)) ∈ kx_WS := kx_wd1 615 (by decide +kernel) rfl
theorem kw_624 : (Jvm.Cond.constantLong "TaskDesk" (124 : Nat) (1000000000 : Int64)) ∈ kx_WS := kx_wd1 624 (by decide +kernel) rfl
theorem kw_625 : (Jvm.Cond.classLink "TaskDesk" (126 : Nat) "java/lang/IllegalArgumentException") ∈ kx_WS := kx_wd1 625 (by decide +kernel) rfl
theorem kw_626 : (Jvm.Cond.instantiable "java/lang/IllegalArgumentException" (6 : Nat)) ∈ kx_WS := kx_wd1 626 (by decide +kernel) rfl
theorem kw_634 : (Jvm.Cond.stringRef "TaskDesk" (128 : Nat) "too long a time") ∈ kx_WS := kx_wd1 634 (by decide +kernel) rfl
theorem kw_641 : (Jvm.Cond.methodLink "TaskDesk" (135 : Nat) ({ cls := "TaskDesk$Agenda", name := "note", desc := "(JLTaskDesk$Task;LTaskDesk$Channel;)V" } : Jvm.MethodName)) ∈ kx_WS := kx_wd1 641 (by decide +kernel) rfl
theorem kw_642 : (Jvm.Cond.instanceMethod ({ cls := "TaskDesk$Agenda", name := "note", desc := "(JLTaskDesk$Task;LTaskDesk$Channel;)V" } : Jvm.MethodName)) ∈ kx_WS := kx_wd1 642 (by decide +kernel) rfl
theorem kw_643 : (Jvm.Cond.selects "TaskDesk$Agenda" ({ cls := "TaskDesk$Agenda", name := "note", desc := "(JLTaskDesk$Task;LTaskDesk$Channel;)V" } : Jvm.MethodName) ({ cls := "TaskDesk$Agenda", name := "note", desc := "(JLTaskDesk$Task;LTaskDesk$Channel;)V" } : Jvm.MethodName)) ∈ kx_WS := kx_wd1 643 (by decide +kernel) rfl
theorem kw_644 : (Jvm.Cond.code ({ cls := "TaskDesk$Agenda", name := "note", desc := "(JLTaskDesk$Task;LTaskDesk$Channel;)V" } : Jvm.MethodName) prog_2_method_2_code (7 : Nat) (Option.none : Option Jvm.ClassFile.FieldType)) ∈ kx_WS := kx_wd1 644 (by decide +kernel) rfl
theorem kw_645 : (Jvm.Cond.methodLink "TaskDesk$Agenda" (33 : Nat) ({ cls := "TaskDesk$Agenda", name := "lastNotAfter", desc := "(J)LTaskDesk$Timer;" } : Jvm.MethodName)) ∈ kx_WS := kx_wd1 645 (by decide +kernel) rfl
theorem kw_647 : (Jvm.Cond.instanceMethod ({ cls := "TaskDesk$Agenda", name := "lastNotAfter", desc := "(J)LTaskDesk$Timer;" } : Jvm.MethodName)) ∈ kx_WS := kx_wd1 647 (by decide +kernel) rfl
theorem kw_648 : (Jvm.Cond.code ({ cls := "TaskDesk$Agenda", name := "lastNotAfter", desc := "(J)LTaskDesk$Timer;" } : Jvm.MethodName) prog_2_method_3_code (5 : Nat) (Option.some (Jvm.ClassFile.FieldType.object "TaskDesk$Timer"))) ∈ kx_WS := kx_wd1 648 (by decide +kernel) rfl
theorem kw_656 : (Jvm.Cond.stringRef "TaskDesk" (139 : Nat) "no such room") ∈ kx_WS := kx_wd1 656 (by decide +kernel) rfl
theorem kw_657 : (Jvm.Cond.methodLink "TaskDesk" (141 : Nat) ({ cls := "TaskDesk", name := "firstFreeChannel", desc := "()LTaskDesk$Channel;" } : Jvm.MethodName)) ∈ kx_WS := kx_wd1 657 (by decide +kernel) rfl
theorem kw_659 : (Jvm.Cond.instanceMethod ({ cls := "TaskDesk", name := "firstFreeChannel", desc := "()LTaskDesk$Channel;" } : Jvm.MethodName)) ∈ kx_WS := kx_wd1 659 (by decide +kernel) rfl
theorem kw_660 : (Jvm.Cond.code ({ cls := "TaskDesk", name := "firstFreeChannel", desc := "()LTaskDesk$Channel;" } : Jvm.MethodName) prog_1_method_33_code (2 : Nat) (Option.some (Jvm.ClassFile.FieldType.object "TaskDesk$Channel"))) ∈ kx_WS := kx_wd1 660 (by decide +kernel) rfl
theorem kw_661 : (Jvm.Cond.stringRef "TaskDesk" (148 : Nat) "too many channels or too much room") ∈ kx_WS := kx_wd1 661 (by decide +kernel) rfl
theorem kw_669 : (Jvm.Cond.stringRef "TaskDesk" (182 : Nat) "no such channel or time") ∈ kx_WS := kx_wd1 669 (by decide +kernel) rfl
theorem kw_670 : (Jvm.Cond.stringRef "TaskDesk" (187 : Nat) "256 alarms are to ring") ∈ kx_WS := kx_wd1 670 (by decide +kernel) rfl
theorem kw_679 : (Jvm.Cond.methodLink "TaskDesk" (192 : Nat) ({ cls := "TaskDesk", name := "mustBeChannel", desc := "(I)LTaskDesk$Channel;" } : Jvm.MethodName)) ∈ kx_WS := kx_wd1 679 (by decide +kernel) rfl
theorem kw_681 : (Jvm.Cond.instanceMethod ({ cls := "TaskDesk", name := "mustBeChannel", desc := "(I)LTaskDesk$Channel;" } : Jvm.MethodName)) ∈ kx_WS := kx_wd1 681 (by decide +kernel) rfl
theorem kw_682 : (Jvm.Cond.code ({ cls := "TaskDesk", name := "mustBeChannel", desc := "(I)LTaskDesk$Channel;" } : Jvm.MethodName) prog_1_method_28_code (3 : Nat) (Option.some (Jvm.ClassFile.FieldType.object "TaskDesk$Channel"))) ∈ kx_WS := kx_wd1 682 (by decide +kernel) rfl
theorem kw_683 : (Jvm.Cond.stringRef "TaskDesk" (381 : Nat) "there is no such channel") ∈ kx_WS := kx_wd1 683 (by decide +kernel) rfl
theorem kw_684 : (Jvm.Cond.classLink "TaskDesk" (195 : Nat) "java/lang/UnsupportedOperationException") ∈ kx_WS := kx_wd1 684 (by decide +kernel) rfl
theorem kw_685 : (Jvm.Cond.instantiable "java/lang/UnsupportedOperationException" (6 : Nat)) ∈ kx_WS := kx_wd1 685 (by decide +kernel) rfl
theorem kw_693 : (Jvm.Cond.stringRef "TaskDesk" (197 : Nat) "the channel is closed") ∈ kx_WS := kx_wd1 693 (by decide +kernel) rfl
theorem kw_707 : (Jvm.Cond.methodLink "TaskDesk" (225 : Nat) ({ cls := "TaskDesk", name := "givesAtOnce", desc := "(LTaskDesk$Channel;)Z" } : Jvm.MethodName)) ∈ kx_WS := kx_wd1 707 (by decide +kernel) rfl
theorem kw_709 : (Jvm.Cond.instanceMethod ({ cls := "TaskDesk", name := "givesAtOnce", desc := "(LTaskDesk$Channel;)Z" } : Jvm.MethodName)) ∈ kx_WS := kx_wd1 709 (by decide +kernel) rfl
theorem kw_710 : (Jvm.Cond.code ({ cls := "TaskDesk", name := "givesAtOnce", desc := "(LTaskDesk$Channel;)Z" } : Jvm.MethodName) prog_1_method_44_code (3 : Nat) (Option.some Jvm.ClassFile.FieldType.boolean)) ∈ kx_WS := kx_wd1 710 (by decide +kernel) rfl
theorem kw_711 : (Jvm.Cond.methodLink "TaskDesk" (228 : Nat) ({ cls := "TaskDesk", name := "receiveNow", desc := "(LTaskDesk$Task;LTaskDesk$Channel;I)V" } : Jvm.MethodName)) ∈ kx_WS := kx_wd1 711 (by decide +kernel) rfl
theorem kw_713 : (Jvm.Cond.instanceMethod ({ cls := "TaskDesk", name := "receiveNow", desc := "(LTaskDesk$Task;LTaskDesk$Channel;I)V" } : Jvm.MethodName)) ∈ kx_WS := kx_wd1 713 (by decide +kernel) rfl
theorem kw_714 : (Jvm.Cond.code ({ cls := "TaskDesk", name := "receiveNow", desc := "(LTaskDesk$Task;LTaskDesk$Channel;I)V" } : Jvm.MethodName) prog_1_method_46_code (8 : Nat) (Option.none : Option Jvm.ClassFile.FieldType)) ∈ kx_WS := kx_wd1 714 (by decide +kernel) rfl
theorem kw_722 : (Jvm.Cond.stringRef "TaskDesk" (235 : Nat) "it cannot be closed") ∈ kx_WS := kx_wd1 722 (by decide +kernel) rfl
theorem kw_723 : (Jvm.Cond.methodLink "TaskDesk" (237 : Nat) ({ cls := "TaskDesk", name := "wakeAll", desc := "(LTaskDesk$Row;ZZ)V" } : Jvm.MethodName)) ∈ kx_WS := kx_wd1 723 (by decide +kernel) rfl
theorem kw_725 : (Jvm.Cond.instanceMethod ({ cls := "TaskDesk", name := "wakeAll", desc := "(LTaskDesk$Row;ZZ)V" } : Jvm.MethodName)) ∈ kx_WS := kx_wd1 725 (by decide +kernel) rfl
theorem kw_726 : (Jvm.Cond.code ({ cls := "TaskDesk", name := "wakeAll", desc := "(LTaskDesk$Row;ZZ)V" } : Jvm.MethodName) prog_1_method_41_code (5 : Nat) (Option.none : Option Jvm.ClassFile.FieldType)) ∈ kx_WS := kx_wd1 726 (by decide +kernel) rfl
theorem kw_734 : (Jvm.Cond.stringRef "TaskDesk" (247 : Nat) "16 cases are told") ∈ kx_WS := kx_wd1 734 (by decide +kernel) rfl
theorem kw_742 : (Jvm.Cond.stringRef "TaskDesk" (261 : Nat) "n is below 0") ∈ kx_WS := kx_wd1 742 (by decide +kernel) rfl
theorem kw_743 : (Jvm.Cond.methodLink "TaskDesk" (263 : Nat) ({ cls := "TaskDesk", name := "openCase", desc := "(I)LTaskDesk$Place;" } : Jvm.MethodName)) ∈ kx_WS := kx_wd1 743 (by decide +kernel) rfl
theorem kw_745 : (Jvm.Cond.instanceMethod ({ cls := "TaskDesk", name := "openCase", desc := "(I)LTaskDesk$Place;" } : Jvm.MethodName)) ∈ kx_WS := kx_wd1 745 (by decide +kernel) rfl
theorem kw_746 : (Jvm.Cond.code ({ cls := "TaskDesk", name := "openCase", desc := "(I)LTaskDesk$Place;" } : Jvm.MethodName) prog_1_method_52_code (5 : Nat) (Option.some (Jvm.ClassFile.FieldType.object "TaskDesk$Place"))) ∈ kx_WS := kx_wd1 746 (by decide +kernel) rfl
theorem kw_747 : (Jvm.Cond.methodLink "TaskDesk" (458 : Nat) ({ cls := "TaskDesk", name := "isOpen", desc := "(LTaskDesk$Place;)Z" } : Jvm.MethodName)) ∈ kx_WS := kx_wd1 747 (by decide +kernel) rfl
theorem kw_749 : (Jvm.Cond.instanceMethod ({ cls := "TaskDesk", name := "isOpen", desc := "(LTaskDesk$Place;)Z" } : Jvm.MethodName)) ∈ kx_WS := kx_wd1 749 (by decide +kernel) rfl
theorem kw_750 : (Jvm.Cond.code ({ cls := "TaskDesk", name := "isOpen", desc := "(LTaskDesk$Place;)Z" } : Jvm.MethodName) prog_1_method_51_code (3 : Nat) (Option.some Jvm.ClassFile.FieldType.boolean)) ∈ kx_WS := kx_wd1 750 (by decide +kernel) rfl
theorem kw_751 : (Jvm.Cond.methodLink "TaskDesk" (267 : Nat) ({ cls := "TaskDesk", name := "doCase", desc := "(LTaskDesk$Task;LTaskDesk$Place;)V" } : Jvm.MethodName)) ∈ kx_WS := kx_wd1 751 (by decide +kernel) rfl
theorem kw_753 : (Jvm.Cond.instanceMethod ({ cls := "TaskDesk", name := "doCase", desc := "(LTaskDesk$Task;LTaskDesk$Place;)V" } : Jvm.MethodName)) ∈ kx_WS := kx_wd1 753 (by decide +kernel) rfl
theorem kw_754 : (Jvm.Cond.code ({ cls := "TaskDesk", name := "doCase", desc := "(LTaskDesk$Task;LTaskDesk$Place;)V" } : Jvm.MethodName) prog_1_method_53_code (4 : Nat) (Option.none : Option Jvm.ClassFile.FieldType)) ∈ kx_WS := kx_wd1 754 (by decide +kernel) rfl
theorem kw_755 : (Jvm.Cond.methodLink "TaskDesk" (271 : Nat) ({ cls := "TaskDesk", name := "forgetCases", desc := "()V" } : Jvm.MethodName)) ∈ kx_WS := kx_wd1 755 (by decide +kernel) rfl
theorem kw_757 : (Jvm.Cond.instanceMethod ({ cls := "TaskDesk", name := "forgetCases", desc := "()V" } : Jvm.MethodName)) ∈ kx_WS := kx_wd1 757 (by decide +kernel) rfl
theorem kw_758 : (Jvm.Cond.code ({ cls := "TaskDesk", name := "forgetCases", desc := "()V" } : Jvm.MethodName) prog_1_method_54_code (2 : Nat) (Option.none : Option Jvm.ClassFile.FieldType)) ∈ kx_WS := kx_wd1 758 (by decide +kernel) rfl
theorem kw_759 : (Jvm.Cond.methodLink "TaskDesk" (274 : Nat) ({ cls := "TaskDesk", name := "waitInCases", desc := "(LTaskDesk$Task;)V" } : Jvm.MethodName)) ∈ kx_WS := kx_wd1 759 (by decide +kernel) rfl
theorem kw_761 : (Jvm.Cond.instanceMethod ({ cls := "TaskDesk", name := "waitInCases", desc := "(LTaskDesk$Task;)V" } : Jvm.MethodName)) ∈ kx_WS := kx_wd1 761 (by decide +kernel) rfl
theorem kw_762 : (Jvm.Cond.code ({ cls := "TaskDesk", name := "waitInCases", desc := "(LTaskDesk$Task;)V" } : Jvm.MethodName) prog_1_method_55_code (5 : Nat) (Option.none : Option Jvm.ClassFile.FieldType)) ∈ kx_WS := kx_wd1 762 (by decide +kernel) rfl
theorem kw_763 : (Jvm.Cond.methodLink "TaskDesk" (462 : Nat) ({ cls := "TaskDesk$Row", name := "append", desc := "(LTaskDesk$Place;)V" } : Jvm.MethodName)) ∈ kx_WS := kx_wd1 763 (by decide +kernel) rfl
theorem kw_764 : (Jvm.Cond.methodLink "TaskDesk" (464 : Nat) ({ cls := "TaskDesk$Task", name := "adopt", desc := "(LTaskDesk$Place;)V" } : Jvm.MethodName)) ∈ kx_WS := kx_wd1 764 (by decide +kernel) rfl
theorem kw_765 : (Jvm.Cond.instanceMethod ({ cls := "TaskDesk$Task", name := "adopt", desc := "(LTaskDesk$Place;)V" } : Jvm.MethodName)) ∈ kx_WS := kx_wd1 765 (by decide +kernel) rfl
theorem kw_766 : (Jvm.Cond.selects "TaskDesk$Task" ({ cls := "TaskDesk$Task", name := "adopt", desc := "(LTaskDesk$Place;)V" } : Jvm.MethodName) ({ cls := "TaskDesk$Task", name := "adopt", desc := "(LTaskDesk$Place;)V" } : Jvm.MethodName)) ∈ kx_WS := kx_wd1 766 (by decide +kernel) rfl
theorem kw_767 : (Jvm.Cond.code ({ cls := "TaskDesk$Task", name := "adopt", desc := "(LTaskDesk$Place;)V" } : Jvm.MethodName) prog_7_method_5_code (2 : Nat) (Option.none : Option Jvm.ClassFile.FieldType)) ∈ kx_WS := kx_wd1 767 (by decide +kernel) rfl
theorem kw_775 : (Jvm.Cond.methodLink "TaskDesk" (277 : Nat) ({ cls := "TaskDesk", name := "gateAt", desc := "(I)LTaskDesk$Gate;" } : Jvm.MethodName)) ∈ kx_WS := kx_wd1 775 (by decide +kernel) rfl
theorem kw_777 : (Jvm.Cond.instanceMethod ({ cls := "TaskDesk", name := "gateAt", desc := "(I)LTaskDesk$Gate;" } : Jvm.MethodName)) ∈ kx_WS := kx_wd1 777 (by decide +kernel) rfl
theorem kw_778 : (Jvm.Cond.code ({ cls := "TaskDesk", name := "gateAt", desc := "(I)LTaskDesk$Gate;" } : Jvm.MethodName) prog_1_method_31_code (2 : Nat) (Option.some (Jvm.ClassFile.FieldType.object "TaskDesk$Gate"))) ∈ kx_WS := kx_wd1 778 (by decide +kernel) rfl
theorem kw_779 : (Jvm.Cond.stringRef "TaskDesk" (284 : Nat) "no such kind or lock") ∈ kx_WS := kx_wd1 779 (by decide +kernel) rfl
theorem kw_780 : (Jvm.Cond.stringRef "TaskDesk" (289 : Nat) "there are 256 gates") ∈ kx_WS := kx_wd1 780 (by decide +kernel) rfl
theorem kw_788 : (Jvm.Cond.methodLink "TaskDesk" (296 : Nat) ({ cls := "TaskDesk", name := "mustBeGate", desc := "(I)LTaskDesk$Gate;" } : Jvm.MethodName)) ∈ kx_WS := kx_wd1 788 (by decide +kernel) rfl
theorem kw_790 : (Jvm.Cond.instanceMethod ({ cls := "TaskDesk", name := "mustBeGate", desc := "(I)LTaskDesk$Gate;" } : Jvm.MethodName)) ∈ kx_WS := kx_wd1 790 (by decide +kernel) rfl
theorem kw_791 : (Jvm.Cond.code ({ cls := "TaskDesk", name := "mustBeGate", desc := "(I)LTaskDesk$Gate;" } : Jvm.MethodName) prog_1_method_29_code (3 : Nat) (Option.some (Jvm.ClassFile.FieldType.object "TaskDesk$Gate"))) ∈ kx_WS := kx_wd1 791 (by decide +kernel) rfl
theorem kw_792 : (Jvm.Cond.stringRef "TaskDesk" (388 : Nat) "there is no such gate") ∈ kx_WS := kx_wd1 792 (by decide +kernel) rfl
theorem kw_793 : (Jvm.Cond.methodLink "TaskDesk" (299 : Nat) ({ cls := "TaskDesk", name := "giveUpLockOf", desc := "(LTaskDesk$Gate;)V" } : Jvm.MethodName)) ∈ kx_WS := kx_wd1 793 (by decide +kernel) rfl
theorem kw_795 : (Jvm.Cond.instanceMethod ({ cls := "TaskDesk", name := "giveUpLockOf", desc := "(LTaskDesk$Gate;)V" } : Jvm.MethodName)) ∈ kx_WS := kx_wd1 795 (by decide +kernel) rfl
theorem kw_796 : (Jvm.Cond.code ({ cls := "TaskDesk", name := "giveUpLockOf", desc := "(LTaskDesk$Gate;)V" } : Jvm.MethodName) prog_1_method_57_code (2 : Nat) (Option.none : Option Jvm.ClassFile.FieldType)) ∈ kx_WS := kx_wd1 796 (by decide +kernel) rfl
theorem kw_797 : (Jvm.Cond.stringRef "TaskDesk" (467 : Nat) "the signal's lock is free") ∈ kx_WS := kx_wd1 797 (by decide +kernel) rfl
theorem kw_798 : (Jvm.Cond.methodLink "TaskDesk" (328 : Nat) ({ cls := "TaskDesk", name := "giveLockBack", desc := "(LTaskDesk$Gate;)V" } : Jvm.MethodName)) ∈ kx_WS := kx_wd1 798 (by decide +kernel) rfl
theorem kw_800 : (Jvm.Cond.instanceMethod ({ cls := "TaskDesk", name := "giveLockBack", desc := "(LTaskDesk$Gate;)V" } : Jvm.MethodName)) ∈ kx_WS := kx_wd1 800 (by decide +kernel) rfl
theorem kw_801 : (Jvm.Cond.code ({ cls := "TaskDesk", name := "giveLockBack", desc := "(LTaskDesk$Gate;)V" } : Jvm.MethodName) prog_1_method_58_code (3 : Nat) (Option.none : Option Jvm.ClassFile.FieldType)) ∈ kx_WS := kx_wd1 801 (by decide +kernel) rfl
theorem kw_802 : (Jvm.Cond.methodLink "TaskDesk" (303 : Nat) ({ cls := "TaskDesk$Gate", name := "letsInAtOnce", desc := "()Z" } : Jvm.MethodName)) ∈ kx_WS := kx_wd1 802 (by decide +kernel) rfl
theorem kw_803 : (Jvm.Cond.instanceMethod ({ cls := "TaskDesk$Gate", name := "letsInAtOnce", desc := "()Z" } : Jvm.MethodName)) ∈ kx_WS := kx_wd1 803 (by decide +kernel) rfl
theorem kw_804 : (Jvm.Cond.selects "TaskDesk$Gate" ({ cls := "TaskDesk$Gate", name := "letsInAtOnce", desc := "()Z" } : Jvm.MethodName) ({ cls := "TaskDesk$Gate", name := "letsInAtOnce", desc := "()Z" } : Jvm.MethodName)) ∈ kx_WS := kx_wd1 804 (by decide +kernel) rfl
theorem kw_805 : (Jvm.Cond.code ({ cls := "TaskDesk$Gate", name := "letsInAtOnce", desc := "()Z" } : Jvm.MethodName) prog_4_method_2_code (1 : Nat) (Option.some Jvm.ClassFile.FieldType.boolean)) ∈ kx_WS := kx_wd1 805 (by decide +kernel) rfl
theorem kw_806 : (Jvm.Cond.methodLink "TaskDesk" (309 : Nat) ({ cls := "TaskDesk$Gate", name := "take", desc := "()V" } : Jvm.MethodName)) ∈ kx_WS := kx_wd1 806 (by decide +kernel) rfl
theorem kw_807 : (Jvm.Cond.instanceMethod ({ cls := "TaskDesk$Gate", name := "take", desc := "()V" } : Jvm.MethodName)) ∈ kx_WS := kx_wd1 807 (by decide +kernel) rfl
theorem kw_808 : (Jvm.Cond.selects "TaskDesk$Gate" ({ cls := "TaskDesk$Gate", name := "take", desc := "()V" } : Jvm.MethodName) ({ cls := "TaskDesk$Gate", name := "take", desc := "()V" } : Jvm.MethodName)) ∈ kx_WS := kx_wd1 808 (by decide +kernel) rfl
theorem kw_809 : (Jvm.Cond.code ({ cls := "TaskDesk$Gate", name := "take", desc := "()V" } : Jvm.MethodName) prog_4_method_3_code (1 : Nat) (Option.none : Option Jvm.ClassFile.FieldType)) ∈ kx_WS := kx_wd1 809 (by decide +kernel) rfl
theorem kw_817 : (Jvm.Cond.stringRef "TaskDesk" (315 : Nat) "the gate is no book") ∈ kx_WS := kx_wd1 817 (by decide +kernel) rfl
theorem kw_825 : (Jvm.Cond.methodLink "TaskDesk" (323 : Nat) ({ cls := "TaskDesk$Gate", name := "canBeLeft", desc := "()Z" } : Jvm.MethodName)) ∈ kx_WS := kx_wd1 825 (by decide +kernel) rfl
theorem kw_826 : (Jvm.Cond.instanceMethod ({ cls := "TaskDesk$Gate", name := "canBeLeft", desc := "()Z" } : Jvm.MethodName)) ∈ kx_WS := kx_wd1 826 (by decide +kernel) rfl
theorem kw_827 : (Jvm.Cond.selects "TaskDesk$Gate" ({ cls := "TaskDesk$Gate", name := "canBeLeft", desc := "()Z" } : Jvm.MethodName) ({ cls := "TaskDesk$Gate", name := "canBeLeft", desc := "()Z" } : Jvm.MethodName)) ∈ kx_WS := kx_wd1 827 (by decide +kernel) rfl
theorem kw_828 : (Jvm.Cond.code ({ cls := "TaskDesk$Gate", name := "canBeLeft", desc := "()Z" } : Jvm.MethodName) prog_4_method_4_code (1 : Nat) (Option.some Jvm.ClassFile.FieldType.boolean)) ∈ kx_WS := kx_wd1 828 (by decide +kernel) rfl
theorem kw_829 : (Jvm.Cond.stringRef "TaskDesk" (326 : Nat) "the gate cannot be given back") ∈ kx_WS := kx_wd1 829 (by decide +kernel) rfl
theorem kw_830 : (Jvm.Cond.methodLink "TaskDesk" (331 : Nat) ({ cls := "TaskDesk", name := "endWriting", desc := "(LTaskDesk$Gate;)V" } : Jvm.MethodName)) ∈ kx_WS := kx_wd1 830 (by decide +kernel) rfl
theorem kw_832 : (Jvm.Cond.instanceMethod ({ cls := "TaskDesk", name := "endWriting", desc := "(LTaskDesk$Gate;)V" } : Jvm.MethodName)) ∈ kx_WS := kx_wd1 832 (by decide +kernel) rfl
theorem kw_833 : (Jvm.Cond.code ({ cls := "TaskDesk", name := "endWriting", desc := "(LTaskDesk$Gate;)V" } : Jvm.MethodName) prog_1_method_59_code (2 : Nat) (Option.none : Option Jvm.ClassFile.FieldType)) ∈ kx_WS := kx_wd1 833 (by decide +kernel) rfl
theorem kw_834 : (Jvm.Cond.methodLink "TaskDesk" (469 : Nat) ({ cls := "TaskDesk", name := "letWriterIn", desc := "(LTaskDesk$Gate;)V" } : Jvm.MethodName)) ∈ kx_WS := kx_wd1 834 (by decide +kernel) rfl
theorem kw_836 : (Jvm.Cond.instanceMethod ({ cls := "TaskDesk", name := "letWriterIn", desc := "(LTaskDesk$Gate;)V" } : Jvm.MethodName)) ∈ kx_WS := kx_wd1 836 (by decide +kernel) rfl
theorem kw_837 : (Jvm.Cond.code ({ cls := "TaskDesk", name := "letWriterIn", desc := "(LTaskDesk$Gate;)V" } : Jvm.MethodName) prog_1_method_61_code (3 : Nat) (Option.none : Option Jvm.ClassFile.FieldType)) ∈ kx_WS := kx_wd1 837 (by decide +kernel) rfl
theorem kw_838 : (Jvm.Cond.methodLink "TaskDesk" (334 : Nat) ({ cls := "TaskDesk", name := "setGroup", desc := "(LTaskDesk$Gate;I)V" } : Jvm.MethodName)) ∈ kx_WS := kx_wd1 838 (by decide +kernel) rfl
theorem kw_840 : (Jvm.Cond.instanceMethod ({ cls := "TaskDesk", name := "setGroup", desc := "(LTaskDesk$Gate;I)V" } : Jvm.MethodName)) ∈ kx_WS := kx_wd1 840 (by decide +kernel) rfl
theorem kw_841 : (Jvm.Cond.code ({ cls := "TaskDesk", name := "setGroup", desc := "(LTaskDesk$Gate;I)V" } : Jvm.MethodName) prog_1_method_62_code (3 : Nat) (Option.none : Option Jvm.ClassFile.FieldType)) ∈ kx_WS := kx_wd1 841 (by decide +kernel) rfl
theorem kw_842 : (Jvm.Cond.methodLink "TaskDesk" (338 : Nat) ({ cls := "TaskDesk", name := "wakeFirstOfSignal", desc := "(LTaskDesk$Gate;)V" } : Jvm.MethodName)) ∈ kx_WS := kx_wd1 842 (by decide +kernel) rfl
theorem kw_844 : (Jvm.Cond.instanceMethod ({ cls := "TaskDesk", name := "wakeFirstOfSignal", desc := "(LTaskDesk$Gate;)V" } : Jvm.MethodName)) ∈ kx_WS := kx_wd1 844 (by decide +kernel) rfl
theorem kw_845 : (Jvm.Cond.code ({ cls := "TaskDesk", name := "wakeFirstOfSignal", desc := "(LTaskDesk$Gate;)V" } : Jvm.MethodName) prog_1_method_64_code (4 : Nat) (Option.none : Option Jvm.ClassFile.FieldType)) ∈ kx_WS := kx_wd1 845 (by decide +kernel) rfl
theorem kw_853 : (Jvm.Cond.stringRef "TaskDesk" (341 : Nat) "such a gate does not change") ∈ kx_WS := kx_wd1 853 (by decide +kernel) rfl
theorem kw_854 : (Jvm.Cond.methodLink "TaskDesk" (343 : Nat) ({ cls := "TaskDesk$Gate", name := "canChangeBy", desc := "(I)Z" } : Jvm.MethodName)) ∈ kx_WS := kx_wd1 854 (by decide +kernel) rfl
theorem kw_855 : (Jvm.Cond.instanceMethod ({ cls := "TaskDesk$Gate", name := "canChangeBy", desc := "(I)Z" } : Jvm.MethodName)) ∈ kx_WS := kx_wd1 855 (by decide +kernel) rfl
theorem kw_856 : (Jvm.Cond.selects "TaskDesk$Gate" ({ cls := "TaskDesk$Gate", name := "canChangeBy", desc := "(I)Z" } : Jvm.MethodName) ({ cls := "TaskDesk$Gate", name := "canChangeBy", desc := "(I)Z" } : Jvm.MethodName)) ∈ kx_WS := kx_wd1 856 (by decide +kernel) rfl
theorem kw_857 : (Jvm.Cond.code ({ cls := "TaskDesk$Gate", name := "canChangeBy", desc := "(I)Z" } : Jvm.MethodName) prog_4_method_5_code (4 : Nat) (Option.some Jvm.ClassFile.FieldType.boolean)) ∈ kx_WS := kx_wd1 857 (by decide +kernel) rfl
theorem kw_858 : (Jvm.Cond.constantLong "TaskDesk$Gate" (31 : Nat) (1000000000 : Int64)) ∈ kx_WS := kx_wd1 858 (by decide +kernel) rfl
theorem kw_859 : (Jvm.Cond.stringRef "TaskDesk" (347 : Nat) "the gate cannot change so") ∈ kx_WS := kx_wd1 859 (by decide +kernel) rfl
theorem kw_860 : (Jvm.Cond.methodLink "TaskDesk" (349 : Nat) ({ cls := "TaskDesk", name := "endReading", desc := "(LTaskDesk$Gate;)V" } : Jvm.MethodName)) ∈ kx_WS := kx_wd1 860 (by decide +kernel) rfl
theorem kw_862 : (Jvm.Cond.instanceMethod ({ cls := "TaskDesk", name := "endReading", desc := "(LTaskDesk$Gate;)V" } : Jvm.MethodName)) ∈ kx_WS := kx_wd1 862 (by decide +kernel) rfl
theorem kw_863 : (Jvm.Cond.code ({ cls := "TaskDesk", name := "endReading", desc := "(LTaskDesk$Gate;)V" } : Jvm.MethodName) prog_1_method_60_code (2 : Nat) (Option.none : Option Jvm.ClassFile.FieldType)) ∈ kx_WS := kx_wd1 863 (by decide +kernel) rfl
theorem kw_864 : (Jvm.Cond.methodLink "TaskDesk" (352 : Nat) ({ cls := "TaskDesk", name := "wakeAllOfSignal", desc := "(LTaskDesk$Gate;)V" } : Jvm.MethodName)) ∈ kx_WS := kx_wd1 864 (by decide +kernel) rfl
theorem kw_866 : (Jvm.Cond.instanceMethod ({ cls := "TaskDesk", name := "wakeAllOfSignal", desc := "(LTaskDesk$Gate;)V" } : Jvm.MethodName)) ∈ kx_WS := kx_wd1 866 (by decide +kernel) rfl
theorem kw_867 : (Jvm.Cond.code ({ cls := "TaskDesk", name := "wakeAllOfSignal", desc := "(LTaskDesk$Gate;)V" } : Jvm.MethodName) prog_1_method_63_code (3 : Nat) (Option.none : Option Jvm.ClassFile.FieldType)) ∈ kx_WS := kx_wd1 867 (by decide +kernel) rfl
theorem kw_876 : (Jvm.Cond.methodLink "TaskDesk" (355 : Nat) ({ cls := "TaskDesk", name := "mustBeTask", desc := "(I)LTaskDesk$Task;" } : Jvm.MethodName)) ∈ kx_WS := kx_wd1 876 (by decide +kernel) rfl
theorem kw_878 : (Jvm.Cond.instanceMethod ({ cls := "TaskDesk", name := "mustBeTask", desc := "(I)LTaskDesk$Task;" } : Jvm.MethodName)) ∈ kx_WS := kx_wd1 878 (by decide +kernel) rfl
theorem kw_879 : (Jvm.Cond.code ({ cls := "TaskDesk", name := "mustBeTask", desc := "(I)LTaskDesk$Task;" } : Jvm.MethodName) prog_1_method_27_code (2 : Nat) (Option.some (Jvm.ClassFile.FieldType.object "TaskDesk$Task"))) ∈ kx_WS := kx_wd1 879 (by decide +kernel) rfl
theorem kw_880 : (Jvm.Cond.classLink "TaskDesk" (373 : Nat) "java/util/NoSuchElementException") ∈ kx_WS := kx_wd1 880 (by decide +kernel) rfl
theorem kw_881 : (Jvm.Cond.instantiable "java/util/NoSuchElementException" (6 : Nat)) ∈ kx_WS := kx_wd1 881 (by decide +kernel) rfl
theorem kw_889 : (Jvm.Cond.stringRef "TaskDesk" (397 : Nat) "there is no such task") ∈ kx_WS := kx_wd1 889 (by decide +kernel) rfl
theorem kw_896 : (Jvm.Cond.methodLink "TaskDesk" (369 : Nat) ({ cls := "TaskDesk", name := "countBefore", desc := "(LTaskDesk$Place;)I" } : Jvm.MethodName)) ∈ kx_WS := kx_wd1 896 (by decide +kernel) rfl
theorem kw_898 : (Jvm.Cond.instanceMethod ({ cls := "TaskDesk", name := "countBefore", desc := "(LTaskDesk$Place;)I" } : Jvm.MethodName)) ∈ kx_WS := kx_wd1 898 (by decide +kernel) rfl
theorem kw_899 : (Jvm.Cond.code ({ cls := "TaskDesk", name := "countBefore", desc := "(LTaskDesk$Place;)I" } : Jvm.MethodName) prog_1_method_36_code (4 : Nat) (Option.some Jvm.ClassFile.FieldType.int)) ∈ kx_WS := kx_wd1 899 (by decide +kernel) rfl
theorem kw_900 : (Jvm.Cond.stringRef "TaskDesk" (375 : Nat) "nothing of this number is told of a task") ∈ kx_WS := kx_wd1 900 (by decide +kernel) rfl
theorem kw_915 : (Jvm.Cond.stringRef "TaskDesk" (386 : Nat) "nothing of this number is told of a channel") ∈ kx_WS := kx_wd1 915 (by decide +kernel) rfl
theorem kw_923 : (Jvm.Cond.stringRef "TaskDesk" (390 : Nat) "nothing of this number is told of a gate") ∈ kx_WS := kx_wd1 923 (by decide +kernel) rfl
theorem kw_929 : (Jvm.Cond.methodLink "TaskDeskModel" (1 : Nat) ({ cls := "java/lang/Object", name := "<init>", desc := "()V" } : Jvm.MethodName)) ∈ kx_WS := kx_wd1 929 (by decide +kernel) rfl
theorem kw_930 : (Jvm.Cond.fieldLink "TaskDeskModel" (99 : Nat) "TaskDeskModel" "thrown" "I") ∈ kx_WS := kx_wd1 930 (by decide +kernel) rfl
theorem kw_931 : (Jvm.Cond.fieldLink "TaskDeskModel" (106 : Nat) "TaskDeskModel" "current" "I") ∈ kx_WS := kx_wd1 931 (by decide +kernel) rfl
theorem kw_932 : (Jvm.Cond.fieldLink "TaskDeskModel" (118 : Nat) "TaskDeskModel" "standing" "I") ∈ kx_WS := kx_wd1 932 (by decide +kernel) rfl
theorem kw_933 : (Jvm.Cond.fieldLink "TaskDeskModel" (121 : Nat) "TaskDeskModel" "clock" "J") ∈ kx_WS := kx_wd1 933 (by decide +kernel) rfl
theorem kw_934 : (Jvm.Cond.fieldLink "TaskDeskModel" (7 : Nat) "TaskDeskModel" "lives" "[Z") ∈ kx_WS := kx_wd1 934 (by decide +kernel) rfl
theorem kw_935 : (Jvm.Cond.fieldLink "TaskDeskModel" (13 : Nat) "TaskDeskModel" "state" "[I") ∈ kx_WS := kx_wd1 935 (by decide +kernel) rfl
theorem kw_936 : (Jvm.Cond.fieldLink "TaskDeskModel" (17 : Nat) "TaskDeskModel" "where" "[I") ∈ kx_WS := kx_wd1 936 (by decide +kernel) rfl
theorem kw_937 : (Jvm.Cond.fieldLink "TaskDeskModel" (20 : Nat) "TaskDeskModel" "number" "[J") ∈ kx_WS := kx_wd1 937 (by decide +kernel) rfl
theorem kw_938 : (Jvm.Cond.fieldLink "TaskDeskModel" (24 : Nat) "TaskDeskModel" "flag" "[Z") ∈ kx_WS := kx_wd1 938 (by decide +kernel) rfl
theorem kw_939 : (Jvm.Cond.fieldLink "TaskDeskModel" (27 : Nat) "TaskDeskModel" "chosen" "[I") ∈ kx_WS := kx_wd1 939 (by decide +kernel) rfl
theorem kw_940 : (Jvm.Cond.fieldLink "TaskDeskModel" (30 : Nat) "TaskDeskModel" "broken" "[Z") ∈ kx_WS := kx_wd1 940 (by decide +kernel) rfl
theorem kw_941 : (Jvm.Cond.fieldLink "TaskDeskModel" (103 : Nat) "TaskDeskModel" "readies" "I") ∈ kx_WS := kx_wd1 941 (by decide +kernel) rfl
theorem kw_942 : (Jvm.Cond.fieldLink "TaskDeskModel" (33 : Nat) "TaskDeskModel" "ready" "[I") ∈ kx_WS := kx_wd1 942 (by decide +kernel) rfl
theorem kw_943 : (Jvm.Cond.fieldLink "TaskDeskModel" (36 : Nat) "TaskDeskModel" "isThere" "[Z") ∈ kx_WS := kx_wd1 943 (by decide +kernel) rfl
theorem kw_944 : (Jvm.Cond.fieldLink "TaskDeskModel" (39 : Nat) "TaskDeskModel" "closed" "[Z") ∈ kx_WS := kx_wd1 944 (by decide +kernel) rfl
theorem kw_945 : (Jvm.Cond.fieldLink "TaskDeskModel" (42 : Nat) "TaskDeskModel" "room" "[I") ∈ kx_WS := kx_wd1 945 (by decide +kernel) rfl
theorem kw_946 : (Jvm.Cond.fieldLink "TaskDeskModel" (173 : Nat) "TaskDeskModel" "rooms" "I") ∈ kx_WS := kx_wd1 946 (by decide +kernel) rfl
theorem kw_947 : (Jvm.Cond.fieldLink "TaskDeskModel" (146 : Nat) "TaskDeskModel" "values" "I") ∈ kx_WS := kx_wd1 947 (by decide +kernel) rfl
theorem kw_948 : (Jvm.Cond.fieldLink "TaskDeskModel" (45 : Nat) "TaskDeskModel" "valueOf" "[I") ∈ kx_WS := kx_wd1 948 (by decide +kernel) rfl
theorem kw_949 : (Jvm.Cond.fieldLink "TaskDeskModel" (48 : Nat) "TaskDeskModel" "value" "[J") ∈ kx_WS := kx_wd1 949 (by decide +kernel) rfl
theorem kw_950 : (Jvm.Cond.fieldLink "TaskDeskModel" (149 : Nat) "TaskDeskModel" "offers" "I") ∈ kx_WS := kx_wd1 950 (by decide +kernel) rfl
theorem kw_951 : (Jvm.Cond.fieldLink "TaskDeskModel" (51 : Nat) "TaskDeskModel" "whose" "[I") ∈ kx_WS := kx_wd1 951 (by decide +kernel) rfl
theorem kw_952 : (Jvm.Cond.fieldLink "TaskDeskModel" (54 : Nat) "TaskDeskModel" "at" "[I") ∈ kx_WS := kx_wd1 952 (by decide +kernel) rfl
theorem kw_953 : (Jvm.Cond.fieldLink "TaskDeskModel" (57 : Nat) "TaskDeskModel" "gives" "[Z") ∈ kx_WS := kx_wd1 953 (by decide +kernel) rfl
theorem kw_954 : (Jvm.Cond.fieldLink "TaskDeskModel" (60 : Nat) "TaskDeskModel" "what" "[J") ∈ kx_WS := kx_wd1 954 (by decide +kernel) rfl
theorem kw_955 : (Jvm.Cond.fieldLink "TaskDeskModel" (63 : Nat) "TaskDeskModel" "which" "[I") ∈ kx_WS := kx_wd1 955 (by decide +kernel) rfl
theorem kw_956 : (Jvm.Cond.fieldLink "TaskDeskModel" (180 : Nat) "TaskDeskModel" "told" "I") ∈ kx_WS := kx_wd1 956 (by decide +kernel) rfl
theorem kw_957 : (Jvm.Cond.fieldLink "TaskDeskModel" (66 : Nat) "TaskDeskModel" "toldAt" "[I") ∈ kx_WS := kx_wd1 957 (by decide +kernel) rfl
theorem kw_958 : (Jvm.Cond.fieldLink "TaskDeskModel" (69 : Nat) "TaskDeskModel" "toldGives" "[Z") ∈ kx_WS := kx_wd1 958 (by decide +kernel) rfl
theorem kw_959 : (Jvm.Cond.fieldLink "TaskDeskModel" (72 : Nat) "TaskDeskModel" "toldWhat" "[J") ∈ kx_WS := kx_wd1 959 (by decide +kernel) rfl
theorem kw_960 : (Jvm.Cond.fieldLink "TaskDeskModel" (218 : Nat) "TaskDeskModel" "gates" "I") ∈ kx_WS := kx_wd1 960 (by decide +kernel) rfl
theorem kw_961 : (Jvm.Cond.fieldLink "TaskDeskModel" (75 : Nat) "TaskDeskModel" "kind" "[I") ∈ kx_WS := kx_wd1 961 (by decide +kernel) rfl
theorem kw_962 : (Jvm.Cond.fieldLink "TaskDeskModel" (78 : Nat) "TaskDeskModel" "held" "[I") ∈ kx_WS := kx_wd1 962 (by decide +kernel) rfl
theorem kw_963 : (Jvm.Cond.fieldLink "TaskDeskModel" (81 : Nat) "TaskDeskModel" "lockOf" "[I") ∈ kx_WS := kx_wd1 963 (by decide +kernel) rfl
theorem kw_964 : (Jvm.Cond.fieldLink "TaskDeskModel" (211 : Nat) "TaskDeskModel" "standers" "I") ∈ kx_WS := kx_wd1 964 (by decide +kernel) rfl
theorem kw_965 : (Jvm.Cond.fieldLink "TaskDeskModel" (84 : Nat) "TaskDeskModel" "stander" "[I") ∈ kx_WS := kx_wd1 965 (by decide +kernel) rfl
theorem kw_966 : (Jvm.Cond.fieldLink "TaskDeskModel" (87 : Nat) "TaskDeskModel" "gateOf" "[I") ∈ kx_WS := kx_wd1 966 (by decide +kernel) rfl
theorem kw_967 : (Jvm.Cond.fieldLink "TaskDeskModel" (90 : Nat) "TaskDeskModel" "reads" "[Z") ∈ kx_WS := kx_wd1 967 (by decide +kernel) rfl
theorem kw_968 : (Jvm.Cond.fieldLink "TaskDeskModel" (112 : Nat) "TaskDeskModel" "events" "I") ∈ kx_WS := kx_wd1 968 (by decide +kernel) rfl
theorem kw_969 : (Jvm.Cond.fieldLink "TaskDeskModel" (93 : Nat) "TaskDeskModel" "event" "[I") ∈ kx_WS := kx_wd1 969 (by decide +kernel) rfl
theorem kw_970 : (Jvm.Cond.fieldLink "TaskDeskModel" (96 : Nat) "TaskDeskModel" "when" "[J") ∈ kx_WS := kx_wd1 970 (by decide +kernel) rfl
theorem kw_971 : (Jvm.Cond.fieldLink "TaskDeskModel" (129 : Nat) "TaskDeskModel" "alarms" "I") ∈ kx_WS := kx_wd1 971 (by decide +kernel) rfl
theorem kw_1057 : (Jvm.Cond.arrayClass Jvm.ClassFile.FieldType.boolean) ∈ kx_WS := kx_wd1 1057 (by decide +kernel) rfl
theorem kw_1058 : (Jvm.Cond.arrayClass Jvm.ClassFile.FieldType.int) ∈ kx_WS := kx_wd1 1058 (by decide +kernel) rfl
theorem kw_1059 : (Jvm.Cond.arrayClass Jvm.ClassFile.FieldType.long) ∈ kx_WS := kx_wd1 1059 (by decide +kernel) rfl
theorem kw_1068 : (Jvm.Cond.methodLink "TaskDeskModel" (170 : Nat) ({ cls := "TaskDeskModel", name := "fail", desc := "(I)I" } : Jvm.MethodName)) ∈ kx_WS := kx_wd1 1068 (by decide +kernel) rfl
theorem kw_1070 : (Jvm.Cond.instanceMethod ({ cls := "TaskDeskModel", name := "fail", desc := "(I)I" } : Jvm.MethodName)) ∈ kx_WS := kx_wd1 1070 (by decide +kernel) rfl
theorem kw_1071 : (Jvm.Cond.code ({ cls := "TaskDeskModel", name := "fail", desc := "(I)I" } : Jvm.MethodName) prog_11_method_3_code (2 : Nat) (Option.some Jvm.ClassFile.FieldType.int)) ∈ kx_WS := kx_wd1 1071 (by decide +kernel) rfl
theorem kw_1076 : (Jvm.Cond.methodLink "TaskDeskModel" (176 : Nat) ({ cls := "TaskDeskModel", name := "isChannel", desc := "(I)Z" } : Jvm.MethodName)) ∈ kx_WS := kx_wd1 1076 (by decide +kernel) rfl
theorem kw_1078 : (Jvm.Cond.instanceMethod ({ cls := "TaskDeskModel", name := "isChannel", desc := "(I)Z" } : Jvm.MethodName)) ∈ kx_WS := kx_wd1 1078 (by decide +kernel) rfl
theorem kw_1079 : (Jvm.Cond.code ({ cls := "TaskDeskModel", name := "isChannel", desc := "(I)Z" } : Jvm.MethodName) prog_11_method_11_code (2 : Nat) (Option.some Jvm.ClassFile.FieldType.boolean)) ∈ kx_WS := kx_wd1 1079 (by decide +kernel) rfl
theorem kw_1080 : (Jvm.Cond.methodLink "TaskDeskModel" (135 : Nat) ({ cls := "TaskDeskModel", name := "first", desc := "(IZ)I" } : Jvm.MethodName)) ∈ kx_WS := kx_wd1 1080 (by decide +kernel) rfl
theorem kw_1082 : (Jvm.Cond.instanceMethod ({ cls := "TaskDeskModel", name := "first", desc := "(IZ)I" } : Jvm.MethodName)) ∈ kx_WS := kx_wd1 1082 (by decide +kernel) rfl
theorem kw_1083 : (Jvm.Cond.code ({ cls := "TaskDeskModel", name := "first", desc := "(IZ)I" } : Jvm.MethodName) prog_11_method_13_code (4 : Nat) (Option.some Jvm.ClassFile.FieldType.int)) ∈ kx_WS := kx_wd1 1083 (by decide +kernel) rfl
theorem kw_1084 : (Jvm.Cond.methodLink "TaskDeskModel" (139 : Nat) ({ cls := "TaskDeskModel", name := "held", desc := "(I)I" } : Jvm.MethodName)) ∈ kx_WS := kx_wd1 1084 (by decide +kernel) rfl
theorem kw_1086 : (Jvm.Cond.instanceMethod ({ cls := "TaskDeskModel", name := "held", desc := "(I)I" } : Jvm.MethodName)) ∈ kx_WS := kx_wd1 1086 (by decide +kernel) rfl
theorem kw_1087 : (Jvm.Cond.code ({ cls := "TaskDeskModel", name := "held", desc := "(I)I" } : Jvm.MethodName) prog_11_method_12_code (4 : Nat) (Option.some Jvm.ClassFile.FieldType.int)) ∈ kx_WS := kx_wd1 1087 (by decide +kernel) rfl
theorem kw_1088 : (Jvm.Cond.methodLink "TaskDeskModel" (166 : Nat) ({ cls := "TaskDeskModel", name := "takeFirst", desc := "(I)J" } : Jvm.MethodName)) ∈ kx_WS := kx_wd1 1088 (by decide +kernel) rfl
theorem kw_1090 : (Jvm.Cond.instanceMethod ({ cls := "TaskDeskModel", name := "takeFirst", desc := "(I)J" } : Jvm.MethodName)) ∈ kx_WS := kx_wd1 1090 (by decide +kernel) rfl
theorem kw_1091 : (Jvm.Cond.code ({ cls := "TaskDeskModel", name := "takeFirst", desc := "(I)J" } : Jvm.MethodName) prog_11_method_19_code (5 : Nat) (Option.some Jvm.ClassFile.FieldType.long)) ∈ kx_WS := kx_wd1 1091 (by decide +kernel) rfl
theorem kw_1096 : (Jvm.Cond.constantLong "TaskDeskModel" (183 : Nat) (1000000000 : Int64)) ∈ kx_WS := kx_wd1 1096 (by decide +kernel) rfl
theorem kw_1101 : (Jvm.Cond.methodLink "TaskDeskModel" (185 : Nat) ({ cls := "TaskDeskModel", name := "no", desc := "(I)Z" } : Jvm.MethodName)) ∈ kx_WS := kx_wd1 1101 (by decide +kernel) rfl
theorem kw_1103 : (Jvm.Cond.instanceMethod ({ cls := "TaskDeskModel", name := "no", desc := "(I)Z" } : Jvm.MethodName)) ∈ kx_WS := kx_wd1 1103 (by decide +kernel) rfl
theorem kw_1104 : (Jvm.Cond.code ({ cls := "TaskDeskModel", name := "no", desc := "(I)Z" } : Jvm.MethodName) prog_11_method_4_code (2 : Nat) (Option.some Jvm.ClassFile.FieldType.boolean)) ∈ kx_WS := kx_wd1 1104 (by decide +kernel) rfl
theorem kw_1105 : (Jvm.Cond.methodLink "TaskDeskModel" (188 : Nat) ({ cls := "TaskDeskModel", name := "maySend", desc := "(I)Z" } : Jvm.MethodName)) ∈ kx_WS := kx_wd1 1105 (by decide +kernel) rfl
theorem kw_1107 : (Jvm.Cond.instanceMethod ({ cls := "TaskDeskModel", name := "maySend", desc := "(I)Z" } : Jvm.MethodName)) ∈ kx_WS := kx_wd1 1107 (by decide +kernel) rfl
theorem kw_1108 : (Jvm.Cond.code ({ cls := "TaskDeskModel", name := "maySend", desc := "(I)Z" } : Jvm.MethodName) prog_11_method_21_code (2 : Nat) (Option.some Jvm.ClassFile.FieldType.boolean)) ∈ kx_WS := kx_wd1 1108 (by decide +kernel) rfl
theorem kw_1109 : (Jvm.Cond.methodLink "TaskDeskModel" (142 : Nat) ({ cls := "TaskDeskModel", name := "deliver", desc := "(IJ)V" } : Jvm.MethodName)) ∈ kx_WS := kx_wd1 1109 (by decide +kernel) rfl
theorem kw_1111 : (Jvm.Cond.instanceMethod ({ cls := "TaskDeskModel", name := "deliver", desc := "(IJ)V" } : Jvm.MethodName)) ∈ kx_WS := kx_wd1 1111 (by decide +kernel) rfl
theorem kw_1112 : (Jvm.Cond.code ({ cls := "TaskDeskModel", name := "deliver", desc := "(IJ)V" } : Jvm.MethodName) prog_11_method_18_code (5 : Nat) (Option.none : Option Jvm.ClassFile.FieldType)) ∈ kx_WS := kx_wd1 1112 (by decide +kernel) rfl
theorem kw_1113 : (Jvm.Cond.methodLink "TaskDeskModel" (159 : Nat) ({ cls := "TaskDeskModel", name := "met", desc := "(IJZZ)V" } : Jvm.MethodName)) ∈ kx_WS := kx_wd1 1113 (by decide +kernel) rfl
theorem kw_1115 : (Jvm.Cond.instanceMethod ({ cls := "TaskDeskModel", name := "met", desc := "(IJZZ)V" } : Jvm.MethodName)) ∈ kx_WS := kx_wd1 1115 (by decide +kernel) rfl
theorem kw_1116 : (Jvm.Cond.code ({ cls := "TaskDeskModel", name := "met", desc := "(IJZZ)V" } : Jvm.MethodName) prog_11_method_15_code (7 : Nat) (Option.none : Option Jvm.ClassFile.FieldType)) ∈ kx_WS := kx_wd1 1116 (by decide +kernel) rfl
theorem kw_1117 : (Jvm.Cond.methodLink "TaskDeskModel" (152 : Nat) ({ cls := "TaskDeskModel", name := "has", desc := "(IJZIZ)V" } : Jvm.MethodName)) ∈ kx_WS := kx_wd1 1117 (by decide +kernel) rfl
theorem kw_1119 : (Jvm.Cond.instanceMethod ({ cls := "TaskDeskModel", name := "has", desc := "(IJZIZ)V" } : Jvm.MethodName)) ∈ kx_WS := kx_wd1 1119 (by decide +kernel) rfl
theorem kw_1120 : (Jvm.Cond.code ({ cls := "TaskDeskModel", name := "has", desc := "(IJZIZ)V" } : Jvm.MethodName) prog_11_method_5_code (7 : Nat) (Option.none : Option Jvm.ClassFile.FieldType)) ∈ kx_WS := kx_wd1 1120 (by decide +kernel) rfl
theorem kw_1121 : (Jvm.Cond.methodLink "TaskDeskModel" (156 : Nat) ({ cls := "TaskDeskModel", name := "withdraw", desc := "(I)V" } : Jvm.MethodName)) ∈ kx_WS := kx_wd1 1121 (by decide +kernel) rfl
theorem kw_1123 : (Jvm.Cond.instanceMethod ({ cls := "TaskDeskModel", name := "withdraw", desc := "(I)V" } : Jvm.MethodName)) ∈ kx_WS := kx_wd1 1123 (by decide +kernel) rfl
theorem kw_1124 : (Jvm.Cond.code ({ cls := "TaskDeskModel", name := "withdraw", desc := "(I)V" } : Jvm.MethodName) prog_11_method_14_code (4 : Nat) (Option.none : Option Jvm.ClassFile.FieldType)) ∈ kx_WS := kx_wd1 1124 (by decide +kernel) rfl
theorem kw_1125 : (Jvm.Cond.methodLink "TaskDeskModel" (125 : Nat) ({ cls := "TaskDeskModel", name := "wake", desc := "(I)V" } : Jvm.MethodName)) ∈ kx_WS := kx_wd1 1125 (by decide +kernel) rfl
theorem kw_1127 : (Jvm.Cond.instanceMethod ({ cls := "TaskDeskModel", name := "wake", desc := "(I)V" } : Jvm.MethodName)) ∈ kx_WS := kx_wd1 1127 (by decide +kernel) rfl
theorem kw_1128 : (Jvm.Cond.code ({ cls := "TaskDeskModel", name := "wake", desc := "(I)V" } : Jvm.MethodName) prog_11_method_6_code (2 : Nat) (Option.none : Option Jvm.ClassFile.FieldType)) ∈ kx_WS := kx_wd1 1128 (by decide +kernel) rfl
theorem kw_1129 : (Jvm.Cond.methodLink "TaskDeskModel" (163 : Nat) ({ cls := "TaskDeskModel", name := "store", desc := "(IJ)V" } : Jvm.MethodName)) ∈ kx_WS := kx_wd1 1129 (by decide +kernel) rfl
theorem kw_1131 : (Jvm.Cond.instanceMethod ({ cls := "TaskDeskModel", name := "store", desc := "(IJ)V" } : Jvm.MethodName)) ∈ kx_WS := kx_wd1 1131 (by decide +kernel) rfl
theorem kw_1132 : (Jvm.Cond.code ({ cls := "TaskDeskModel", name := "store", desc := "(IJ)V" } : Jvm.MethodName) prog_11_method_17_code (4 : Nat) (Option.none : Option Jvm.ClassFile.FieldType)) ∈ kx_WS := kx_wd1 1132 (by decide +kernel) rfl
theorem kw_1133 : (Jvm.Cond.methodLink "TaskDeskModel" (191 : Nat) ({ cls := "TaskDeskModel", name := "offer", desc := "(IIZJI)V" } : Jvm.MethodName)) ∈ kx_WS := kx_wd1 1133 (by decide +kernel) rfl
theorem kw_1135 : (Jvm.Cond.instanceMethod ({ cls := "TaskDeskModel", name := "offer", desc := "(IIZJI)V" } : Jvm.MethodName)) ∈ kx_WS := kx_wd1 1135 (by decide +kernel) rfl
theorem kw_1136 : (Jvm.Cond.code ({ cls := "TaskDeskModel", name := "offer", desc := "(IIZJI)V" } : Jvm.MethodName) prog_11_method_16_code (7 : Nat) (Option.none : Option Jvm.ClassFile.FieldType)) ∈ kx_WS := kx_wd1 1136 (by decide +kernel) rfl
theorem kw_1137 : (Jvm.Cond.methodLink "TaskDeskModel" (195 : Nat) ({ cls := "TaskDeskModel", name := "rest", desc := "(II)V" } : Jvm.MethodName)) ∈ kx_WS := kx_wd1 1137 (by decide +kernel) rfl
theorem kw_1139 : (Jvm.Cond.instanceMethod ({ cls := "TaskDeskModel", name := "rest", desc := "(II)V" } : Jvm.MethodName)) ∈ kx_WS := kx_wd1 1139 (by decide +kernel) rfl
theorem kw_1140 : (Jvm.Cond.code ({ cls := "TaskDeskModel", name := "rest", desc := "(II)V" } : Jvm.MethodName) prog_11_method_7_code (3 : Nat) (Option.none : Option Jvm.ClassFile.FieldType)) ∈ kx_WS := kx_wd1 1140 (by decide +kernel) rfl
theorem kw_1141 : (Jvm.Cond.methodLink "TaskDeskModel" (109 : Nat) ({ cls := "TaskDeskModel", name := "next", desc := "()V" } : Jvm.MethodName)) ∈ kx_WS := kx_wd1 1141 (by decide +kernel) rfl
theorem kw_1143 : (Jvm.Cond.instanceMethod ({ cls := "TaskDeskModel", name := "next", desc := "()V" } : Jvm.MethodName)) ∈ kx_WS := kx_wd1 1143 (by decide +kernel) rfl
theorem kw_1144 : (Jvm.Cond.code ({ cls := "TaskDeskModel", name := "next", desc := "()V" } : Jvm.MethodName) prog_11_method_8_code (2 : Nat) (Option.none : Option Jvm.ClassFile.FieldType)) ∈ kx_WS := kx_wd1 1144 (by decide +kernel) rfl
theorem kw_1145 : (Jvm.Cond.methodLink "TaskDeskModel" (115 : Nat) ({ cls := "TaskDeskModel", name := "ring", desc := "()V" } : Jvm.MethodName)) ∈ kx_WS := kx_wd1 1145 (by decide +kernel) rfl
theorem kw_1147 : (Jvm.Cond.instanceMethod ({ cls := "TaskDeskModel", name := "ring", desc := "()V" } : Jvm.MethodName)) ∈ kx_WS := kx_wd1 1147 (by decide +kernel) rfl
theorem kw_1148 : (Jvm.Cond.code ({ cls := "TaskDeskModel", name := "ring", desc := "()V" } : Jvm.MethodName) prog_11_method_9_code (6 : Nat) (Option.none : Option Jvm.ClassFile.FieldType)) ∈ kx_WS := kx_wd1 1148 (by decide +kernel) rfl
theorem kw_1149 : (Jvm.Cond.methodLink "TaskDeskModel" (132 : Nat) ({ cls := "TaskDeskModel", name := "rings", desc := "(I)V" } : Jvm.MethodName)) ∈ kx_WS := kx_wd1 1149 (by decide +kernel) rfl
theorem kw_1151 : (Jvm.Cond.instanceMethod ({ cls := "TaskDeskModel", name := "rings", desc := "(I)V" } : Jvm.MethodName)) ∈ kx_WS := kx_wd1 1151 (by decide +kernel) rfl
theorem kw_1152 : (Jvm.Cond.code ({ cls := "TaskDeskModel", name := "rings", desc := "(I)V" } : Jvm.MethodName) prog_11_method_10_code (2 : Nat) (Option.none : Option Jvm.ClassFile.FieldType)) ∈ kx_WS := kx_wd1 1152 (by decide +kernel) rfl
theorem kw_1157 : (Jvm.Cond.methodLink "TaskDeskModel" (199 : Nat) ({ cls := "TaskDeskModel", name := "mayReceive", desc := "(I)Z" } : Jvm.MethodName)) ∈ kx_WS := kx_wd1 1157 (by decide +kernel) rfl
theorem kw_1159 : (Jvm.Cond.instanceMethod ({ cls := "TaskDeskModel", name := "mayReceive", desc := "(I)Z" } : Jvm.MethodName)) ∈ kx_WS := kx_wd1 1159 (by decide +kernel) rfl
theorem kw_1160 : (Jvm.Cond.code ({ cls := "TaskDeskModel", name := "mayReceive", desc := "(I)Z" } : Jvm.MethodName) prog_11_method_22_code (2 : Nat) (Option.some Jvm.ClassFile.FieldType.boolean)) ∈ kx_WS := kx_wd1 1160 (by decide +kernel) rfl
theorem kw_1161 : (Jvm.Cond.methodLink "TaskDeskModel" (202 : Nat) ({ cls := "TaskDeskModel", name := "take", desc := "(II)V" } : Jvm.MethodName)) ∈ kx_WS := kx_wd1 1161 (by decide +kernel) rfl
theorem kw_1163 : (Jvm.Cond.instanceMethod ({ cls := "TaskDeskModel", name := "take", desc := "(II)V" } : Jvm.MethodName)) ∈ kx_WS := kx_wd1 1163 (by decide +kernel) rfl
theorem kw_1164 : (Jvm.Cond.code ({ cls := "TaskDeskModel", name := "take", desc := "(II)V" } : Jvm.MethodName) prog_11_method_20_code (4 : Nat) (Option.none : Option Jvm.ClassFile.FieldType)) ∈ kx_WS := kx_wd1 1164 (by decide +kernel) rfl
theorem kw_1177 : (Jvm.Cond.methodLink "TaskDeskModel" (205 : Nat) ({ cls := "TaskDeskModel", name := "isReady", desc := "(I)Z" } : Jvm.MethodName)) ∈ kx_WS := kx_wd1 1177 (by decide +kernel) rfl
theorem kw_1179 : (Jvm.Cond.instanceMethod ({ cls := "TaskDeskModel", name := "isReady", desc := "(I)Z" } : Jvm.MethodName)) ∈ kx_WS := kx_wd1 1179 (by decide +kernel) rfl
theorem kw_1180 : (Jvm.Cond.code ({ cls := "TaskDeskModel", name := "isReady", desc := "(I)Z" } : Jvm.MethodName) prog_11_method_30_code (2 : Nat) (Option.some Jvm.ClassFile.FieldType.boolean)) ∈ kx_WS := kx_wd1 1180 (by decide +kernel) rfl
theorem kw_1181 : (Jvm.Cond.methodLink "TaskDeskModel" (208 : Nat) ({ cls := "TaskDeskModel", name := "done", desc := "(I)Z" } : Jvm.MethodName)) ∈ kx_WS := kx_wd1 1181 (by decide +kernel) rfl
theorem kw_1183 : (Jvm.Cond.instanceMethod ({ cls := "TaskDeskModel", name := "done", desc := "(I)Z" } : Jvm.MethodName)) ∈ kx_WS := kx_wd1 1183 (by decide +kernel) rfl
theorem kw_1184 : (Jvm.Cond.code ({ cls := "TaskDeskModel", name := "done", desc := "(I)Z" } : Jvm.MethodName) prog_11_method_32_code (3 : Nat) (Option.some Jvm.ClassFile.FieldType.boolean)) ∈ kx_WS := kx_wd1 1184 (by decide +kernel) rfl
theorem kw_1190 : (Jvm.Cond.instanceMethod ({ cls := "TaskDeskModel", name := "giveWay", desc := "()I" } : Jvm.MethodName)) ∈ kx_WS := kx_wd1 1190 (by decide +kernel) rfl
theorem kw_1191 : (Jvm.Cond.selects "TaskDeskModel" ({ cls := "TaskDeskModel", name := "giveWay", desc := "()I" } : Jvm.MethodName) ({ cls := "TaskDeskModel", name := "giveWay", desc := "()I" } : Jvm.MethodName)) ∈ kx_WS := kx_wd1 1191 (by decide +kernel) rfl
theorem kw_1192 : (Jvm.Cond.code ({ cls := "TaskDeskModel", name := "giveWay", desc := "()I" } : Jvm.MethodName) prog_11_method_34_code (1 : Nat) (Option.some Jvm.ClassFile.FieldType.int)) ∈ kx_WS := kx_wd1 1192 (by decide +kernel) rfl
theorem kw_1201 : (Jvm.Cond.methodLink "TaskDeskModel" (214 : Nat) ({ cls := "TaskDeskModel", name := "giveWay", desc := "()I" } : Jvm.MethodName)) ∈ kx_WS := kx_wd1 1201 (by decide +kernel) rfl
theorem kw_1206 : (Jvm.Cond.methodLink "TaskDeskModel" (221 : Nat) ({ cls := "TaskDeskModel", name := "isGate", desc := "(I)Z" } : Jvm.MethodName)) ∈ kx_WS := kx_wd1 1206 (by decide +kernel) rfl
theorem kw_1208 : (Jvm.Cond.instanceMethod ({ cls := "TaskDeskModel", name := "isGate", desc := "(I)Z" } : Jvm.MethodName)) ∈ kx_WS := kx_wd1 1208 (by decide +kernel) rfl
theorem kw_1209 : (Jvm.Cond.code ({ cls := "TaskDeskModel", name := "isGate", desc := "(I)Z" } : Jvm.MethodName) prog_11_method_37_code (2 : Nat) (Option.some Jvm.ClassFile.FieldType.boolean)) ∈ kx_WS := kx_wd1 1209 (by decide +kernel) rfl
theorem kw_1214 : (Jvm.Cond.methodLink "TaskDeskModel" (238 : Nat) ({ cls := "TaskDeskModel", name := "passes", desc := "(ZIZZ)Z" } : Jvm.MethodName)) ∈ kx_WS := kx_wd1 1214 (by decide +kernel) rfl
theorem kw_1216 : (Jvm.Cond.instanceMethod ({ cls := "TaskDeskModel", name := "passes", desc := "(ZIZZ)Z" } : Jvm.MethodName)) ∈ kx_WS := kx_wd1 1216 (by decide +kernel) rfl
theorem kw_1217 : (Jvm.Cond.code ({ cls := "TaskDeskModel", name := "passes", desc := "(ZIZZ)Z" } : Jvm.MethodName) prog_11_method_46_code (5 : Nat) (Option.some Jvm.ClassFile.FieldType.boolean)) ∈ kx_WS := kx_wd1 1217 (by decide +kernel) rfl
theorem kw_1218 : (Jvm.Cond.methodLink "TaskDeskModel" (234 : Nat) ({ cls := "TaskDeskModel", name := "stand", desc := "(IIZ)V" } : Jvm.MethodName)) ∈ kx_WS := kx_wd1 1218 (by decide +kernel) rfl
theorem kw_1220 : (Jvm.Cond.instanceMethod ({ cls := "TaskDeskModel", name := "stand", desc := "(IIZ)V" } : Jvm.MethodName)) ∈ kx_WS := kx_wd1 1220 (by decide +kernel) rfl
theorem kw_1221 : (Jvm.Cond.code ({ cls := "TaskDeskModel", name := "stand", desc := "(IIZ)V" } : Jvm.MethodName) prog_11_method_41_code (4 : Nat) (Option.none : Option Jvm.ClassFile.FieldType)) ∈ kx_WS := kx_wd1 1221 (by decide +kernel) rfl
theorem kw_1222 : (Jvm.Cond.methodLink "TaskDeskModel" (242 : Nat) ({ cls := "TaskDeskModel", name := "unlock", desc := "(I)V" } : Jvm.MethodName)) ∈ kx_WS := kx_wd1 1222 (by decide +kernel) rfl
theorem kw_1224 : (Jvm.Cond.instanceMethod ({ cls := "TaskDeskModel", name := "unlock", desc := "(I)V" } : Jvm.MethodName)) ∈ kx_WS := kx_wd1 1224 (by decide +kernel) rfl
theorem kw_1225 : (Jvm.Cond.code ({ cls := "TaskDeskModel", name := "unlock", desc := "(I)V" } : Jvm.MethodName) prog_11_method_44_code (3 : Nat) (Option.none : Option Jvm.ClassFile.FieldType)) ∈ kx_WS := kx_wd1 1225 (by decide +kernel) rfl
theorem kw_1226 : (Jvm.Cond.methodLink "TaskDeskModel" (227 : Nat) ({ cls := "TaskDeskModel", name := "standing", desc := "(II)I" } : Jvm.MethodName)) ∈ kx_WS := kx_wd1 1226 (by decide +kernel) rfl
theorem kw_1228 : (Jvm.Cond.instanceMethod ({ cls := "TaskDeskModel", name := "standing", desc := "(II)I" } : Jvm.MethodName)) ∈ kx_WS := kx_wd1 1228 (by decide +kernel) rfl
theorem kw_1229 : (Jvm.Cond.code ({ cls := "TaskDeskModel", name := "standing", desc := "(II)I" } : Jvm.MethodName) prog_11_method_39_code (4 : Nat) (Option.some Jvm.ClassFile.FieldType.int)) ∈ kx_WS := kx_wd1 1229 (by decide +kernel) rfl
theorem kw_1230 : (Jvm.Cond.methodLink "TaskDeskModel" (230 : Nat) ({ cls := "TaskDeskModel", name := "lets", desc := "(IZ)V" } : Jvm.MethodName)) ∈ kx_WS := kx_wd1 1230 (by decide +kernel) rfl
theorem kw_1232 : (Jvm.Cond.instanceMethod ({ cls := "TaskDeskModel", name := "lets", desc := "(IZ)V" } : Jvm.MethodName)) ∈ kx_WS := kx_wd1 1232 (by decide +kernel) rfl
theorem kw_1233 : (Jvm.Cond.code ({ cls := "TaskDeskModel", name := "lets", desc := "(IZ)V" } : Jvm.MethodName) prog_11_method_42_code (4 : Nat) (Option.none : Option Jvm.ClassFile.FieldType)) ∈ kx_WS := kx_wd1 1233 (by decide +kernel) rfl
theorem kw_1234 : (Jvm.Cond.methodLink "TaskDeskModel" (224 : Nat) ({ cls := "TaskDeskModel", name := "takeOut", desc := "(I)I" } : Jvm.MethodName)) ∈ kx_WS := kx_wd1 1234 (by decide +kernel) rfl
theorem kw_1236 : (Jvm.Cond.instanceMethod ({ cls := "TaskDeskModel", name := "takeOut", desc := "(I)I" } : Jvm.MethodName)) ∈ kx_WS := kx_wd1 1236 (by decide +kernel) rfl
theorem kw_1237 : (Jvm.Cond.code ({ cls := "TaskDeskModel", name := "takeOut", desc := "(I)I" } : Jvm.MethodName) prog_11_method_40_code (4 : Nat) (Option.some Jvm.ClassFile.FieldType.int)) ∈ kx_WS := kx_wd1 1237 (by decide +kernel) rfl
theorem kw_1246 : (Jvm.Cond.methodLink "TaskDeskModel" (245 : Nat) ({ cls := "TaskDeskModel", name := "letReaders", desc := "(I)V" } : Jvm.MethodName)) ∈ kx_WS := kx_wd1 1246 (by decide +kernel) rfl
theorem kw_1248 : (Jvm.Cond.instanceMethod ({ cls := "TaskDeskModel", name := "letReaders", desc := "(I)V" } : Jvm.MethodName)) ∈ kx_WS := kx_wd1 1248 (by decide +kernel) rfl
theorem kw_1249 : (Jvm.Cond.code ({ cls := "TaskDeskModel", name := "letReaders", desc := "(I)V" } : Jvm.MethodName) prog_11_method_50_code (3 : Nat) (Option.none : Option Jvm.ClassFile.FieldType)) ∈ kx_WS := kx_wd1 1249 (by decide +kernel) rfl
theorem kw_1250 : (Jvm.Cond.methodLink "TaskDeskModel" (257 : Nat) ({ cls := "TaskDeskModel", name := "letWriter", desc := "(I)V" } : Jvm.MethodName)) ∈ kx_WS := kx_wd1 1250 (by decide +kernel) rfl
theorem kw_1252 : (Jvm.Cond.instanceMethod ({ cls := "TaskDeskModel", name := "letWriter", desc := "(I)V" } : Jvm.MethodName)) ∈ kx_WS := kx_wd1 1252 (by decide +kernel) rfl
theorem kw_1253 : (Jvm.Cond.code ({ cls := "TaskDeskModel", name := "letWriter", desc := "(I)V" } : Jvm.MethodName) prog_11_method_51_code (3 : Nat) (Option.none : Option Jvm.ClassFile.FieldType)) ∈ kx_WS := kx_wd1 1253 (by decide +kernel) rfl
theorem kw_1254 : (Jvm.Cond.methodLink "TaskDeskModel" (248 : Nat) ({ cls := "TaskDeskModel", name := "grow", desc := "(II)V" } : Jvm.MethodName)) ∈ kx_WS := kx_wd1 1254 (by decide +kernel) rfl
theorem kw_1256 : (Jvm.Cond.instanceMethod ({ cls := "TaskDeskModel", name := "grow", desc := "(II)V" } : Jvm.MethodName)) ∈ kx_WS := kx_wd1 1256 (by decide +kernel) rfl
theorem kw_1257 : (Jvm.Cond.code ({ cls := "TaskDeskModel", name := "grow", desc := "(II)V" } : Jvm.MethodName) prog_11_method_52_code (3 : Nat) (Option.none : Option Jvm.ClassFile.FieldType)) ∈ kx_WS := kx_wd1 1257 (by decide +kernel) rfl
theorem kw_1258 : (Jvm.Cond.methodLink "TaskDeskModel" (254 : Nat) ({ cls := "TaskDeskModel", name := "letAll", desc := "(IZ)V" } : Jvm.MethodName)) ∈ kx_WS := kx_wd1 1258 (by decide +kernel) rfl
theorem kw_1260 : (Jvm.Cond.instanceMethod ({ cls := "TaskDeskModel", name := "letAll", desc := "(IZ)V" } : Jvm.MethodName)) ∈ kx_WS := kx_wd1 1260 (by decide +kernel) rfl
theorem kw_1261 : (Jvm.Cond.code ({ cls := "TaskDeskModel", name := "letAll", desc := "(IZ)V" } : Jvm.MethodName) prog_11_method_43_code (4 : Nat) (Option.none : Option Jvm.ClassFile.FieldType)) ∈ kx_WS := kx_wd1 1261 (by decide +kernel) rfl
theorem kw_1262 : (Jvm.Cond.methodLink "TaskDeskModel" (251 : Nat) ({ cls := "TaskDeskModel", name := "signal", desc := "(I)V" } : Jvm.MethodName)) ∈ kx_WS := kx_wd1 1262 (by decide +kernel) rfl
theorem kw_1264 : (Jvm.Cond.instanceMethod ({ cls := "TaskDeskModel", name := "signal", desc := "(I)V" } : Jvm.MethodName)) ∈ kx_WS := kx_wd1 1264 (by decide +kernel) rfl
theorem kw_1265 : (Jvm.Cond.code ({ cls := "TaskDeskModel", name := "signal", desc := "(I)V" } : Jvm.MethodName) prog_11_method_45_code (5 : Nat) (Option.none : Option Jvm.ClassFile.FieldType)) ∈ kx_WS := kx_wd1 1265 (by decide +kernel) rfl
theorem kw_1270 : (Jvm.Cond.methodLink "TaskDeskModel" (260 : Nat) ({ cls := "TaskDeskModel", name := "waitAt", desc := "(I)I" } : Jvm.MethodName)) ∈ kx_WS := kx_wd1 1270 (by decide +kernel) rfl
theorem kw_1272 : (Jvm.Cond.instanceMethod ({ cls := "TaskDeskModel", name := "waitAt", desc := "(I)I" } : Jvm.MethodName)) ∈ kx_WS := kx_wd1 1272 (by decide +kernel) rfl
theorem kw_1273 : (Jvm.Cond.code ({ cls := "TaskDeskModel", name := "waitAt", desc := "(I)I" } : Jvm.MethodName) prog_11_method_54_code (4 : Nat) (Option.some Jvm.ClassFile.FieldType.int)) ∈ kx_WS := kx_wd1 1273 (by decide +kernel) rfl
theorem kw_1282 : (Jvm.Cond.methodLink "TaskDeskModel" (263 : Nat) ({ cls := "TaskDeskModel", name := "isTask", desc := "(I)Z" } : Jvm.MethodName)) ∈ kx_WS := kx_wd1 1282 (by decide +kernel) rfl
theorem kw_1284 : (Jvm.Cond.instanceMethod ({ cls := "TaskDeskModel", name := "isTask", desc := "(I)Z" } : Jvm.MethodName)) ∈ kx_WS := kx_wd1 1284 (by decide +kernel) rfl
theorem kw_1285 : (Jvm.Cond.code ({ cls := "TaskDeskModel", name := "isTask", desc := "(I)Z" } : Jvm.MethodName) prog_11_method_56_code (2 : Nat) (Option.some Jvm.ClassFile.FieldType.boolean)) ∈ kx_WS := kx_wd1 1285 (by decide +kernel) rfl
theorem kw_1306 : (Jvm.Cond.methodLink "TaskDeskModel" (266 : Nat) ({ cls := "TaskDeskModel", name := "living", desc := "()I" } : Jvm.MethodName)) ∈ kx_WS := kx_wd1 1306 (by decide +kernel) rfl
theorem kw_1308 : (Jvm.Cond.instanceMethod ({ cls := "TaskDeskModel", name := "living", desc := "()I" } : Jvm.MethodName)) ∈ kx_WS := kx_wd1 1308 (by decide +kernel) rfl
theorem kw_1309 : (Jvm.Cond.code ({ cls := "TaskDeskModel", name := "living", desc := "()I" } : Jvm.MethodName) prog_11_method_63_code (3 : Nat) (Option.some Jvm.ClassFile.FieldType.int)) ∈ kx_WS := kx_wd1 1309 (by decide +kernel) rfl
theorem kw_1310 : (Jvm.Cond.methodLink "TaskDeskModel" (269 : Nat) ({ cls := "TaskDeskModel", name := "channels", desc := "()I" } : Jvm.MethodName)) ∈ kx_WS := kx_wd1 1310 (by decide +kernel) rfl
theorem kw_1312 : (Jvm.Cond.instanceMethod ({ cls := "TaskDeskModel", name := "channels", desc := "()I" } : Jvm.MethodName)) ∈ kx_WS := kx_wd1 1312 (by decide +kernel) rfl
theorem kw_1313 : (Jvm.Cond.code ({ cls := "TaskDeskModel", name := "channels", desc := "()I" } : Jvm.MethodName) prog_11_method_64_code (3 : Nat) (Option.some Jvm.ClassFile.FieldType.int)) ∈ kx_WS := kx_wd1 1313 (by decide +kernel) rfl
theorem kf_0_11 : kx_fd "TaskDesk" 11 0 0 2 102 kr_0 := ⟨rfl, by decide, by decide, kw_363, ki_0, rfl⟩
theorem kf_0_18 : kx_fd "TaskDesk" 18 0 2 2 5 kr_0 := ⟨rfl, by decide, by decide, kw_365, ki_0, rfl⟩
theorem kf_0_25 : kx_fd "TaskDesk" 25 0 6 2 1 kr_0 := ⟨rfl, by decide, by decide, kw_369, ki_0, rfl⟩
theorem kf_0_31 : kx_fd "TaskDesk" 31 0 8 2 103 kr_0 := ⟨rfl, by decide, by decide, kw_371, ki_0, rfl⟩
theorem kf_0_38 : kx_fd "TaskDesk" 38 0 9 2 2 kr_0 := ⟨rfl, by decide, by decide, kw_372, ki_0, rfl⟩
theorem kf_0_44 : kx_fd "TaskDesk" 44 0 13 2 104 kr_0 := ⟨rfl, by decide, by decide, kw_376, ki_0, rfl⟩
theorem kf_0_50 : kx_fd "TaskDesk" 50 0 16 2 105 kr_0 := ⟨rfl, by decide, by decide, kw_379, ki_0, rfl⟩
theorem kf_0_60 : kx_fd "TaskDesk" 60 4 0 2 6 kr_4 := ⟨rfl, by decide, by decide, kw_220, ki_4, rfl⟩
theorem kf_0_79 : kx_fd "TaskDesk" 79 6 3 0 0 kr_6 := ⟨rfl, by decide, by decide, kw_267, ki_6, rfl⟩
theorem kf_0_83 : kx_fd "TaskDesk" 83 0 1 0 0 kr_0 := ⟨rfl, by decide, by decide, kw_364, ki_0, rfl⟩
theorem kf_0_86 : kx_fd "TaskDesk" 86 0 3 2 6 kr_0 := ⟨rfl, by decide, by decide, kw_366, ki_0, rfl⟩
theorem kf_0_107 : kx_fd "TaskDesk" 107 6 0 0 0 kr_6 := ⟨rfl, by decide, by decide, kw_262, ki_6, rfl⟩
theorem kf_0_120 : kx_fd "TaskDesk" 120 6 2 3 0 kr_6 := ⟨rfl, by decide, by decide, kw_266, ki_6, rfl⟩
theorem kf_0_131 : kx_fd "TaskDesk" 131 0 5 1 0 kr_0 := ⟨rfl, by decide, by decide, kw_368, ki_0, rfl⟩
theorem kf_0_145 : kx_fd "TaskDesk" 145 0 11 0 0 kr_0 := ⟨rfl, by decide, by decide, kw_374, ki_0, rfl⟩
theorem kf_0_150 : kx_fd "TaskDesk" 150 2 3 3 0 kr_2 := ⟨rfl, by decide, by decide, kw_180, ki_2, rfl⟩
theorem kf_0_153 : kx_fd "TaskDesk" 153 2 4 3 0 kr_2 := ⟨rfl, by decide, by decide, kw_181, ki_2, rfl⟩
theorem kf_0_156 : kx_fd "TaskDesk" 156 2 5 0 0 kr_2 := ⟨rfl, by decide, by decide, kw_182, ki_2, rfl⟩
theorem kf_0_159 : kx_fd "TaskDesk" 159 0 10 0 0 kr_0 := ⟨rfl, by decide, by decide, kw_373, ki_0, rfl⟩
theorem kf_0_162 : kx_fd "TaskDesk" 162 2 0 0 0 kr_2 := ⟨rfl, by decide, by decide, kw_175, ki_2, rfl⟩
theorem kf_0_175 : kx_fd "TaskDesk" 175 2 6 0 0 kr_2 := ⟨rfl, by decide, by decide, kw_184, ki_2, rfl⟩
theorem kf_0_184 : kx_fd "TaskDesk" 184 0 7 0 0 kr_0 := ⟨rfl, by decide, by decide, kw_370, ki_0, rfl⟩
theorem kf_0_189 : kx_fd "TaskDesk" 189 2 7 0 0 kr_2 := ⟨rfl, by decide, by decide, kw_186, ki_2, rfl⟩
theorem kf_0_211 : kx_fd "TaskDesk" 211 6 1 2 4 kr_6 := ⟨rfl, by decide, by decide, kw_264, ki_6, rfl⟩
theorem kf_0_215 : kx_fd "TaskDesk" 215 4 3 1 0 kr_4 := ⟨rfl, by decide, by decide, kw_225, ki_4, rfl⟩
theorem kf_0_218 : kx_fd "TaskDesk" 218 2 1 2 5 kr_2 := ⟨rfl, by decide, by decide, kw_177, ki_2, rfl⟩
theorem kf_0_232 : kx_fd "TaskDesk" 232 2 2 2 5 kr_2 := ⟨rfl, by decide, by decide, kw_179, ki_2, rfl⟩
theorem kf_0_241 : kx_fd "TaskDesk" 241 0 15 2 4 kr_0 := ⟨rfl, by decide, by decide, kw_378, ki_0, rfl⟩
theorem kf_0_244 : kx_fd "TaskDesk" 244 0 14 0 0 kr_0 := ⟨rfl, by decide, by decide, kw_377, ki_0, rfl⟩
theorem kf_0_249 : kx_fd "TaskDesk" 249 4 8 2 4 kr_4 := ⟨rfl, by decide, by decide, kw_236, ki_4, rfl⟩
theorem kf_0_252 : kx_fd "TaskDesk" 252 4 1 2 2 kr_4 := ⟨rfl, by decide, by decide, kw_223, ki_4, rfl⟩
theorem kf_0_255 : kx_fd "TaskDesk" 255 4 2 3 0 kr_4 := ⟨rfl, by decide, by decide, kw_224, ki_4, rfl⟩
theorem kf_0_258 : kx_fd "TaskDesk" 258 4 4 0 0 kr_4 := ⟨rfl, by decide, by decide, kw_227, ki_4, rfl⟩
theorem kf_0_281 : kx_fd "TaskDesk" 281 3 3 0 0 kr_3 := ⟨rfl, by decide, by decide, kw_316, ki_3, rfl⟩
theorem kf_0_286 : kx_fd "TaskDesk" 286 0 17 0 0 kr_0 := ⟨rfl, by decide, by decide, kw_380, ki_0, rfl⟩
theorem kf_0_291 : kx_fd "TaskDesk" 291 3 5 2 3 kr_3 := ⟨rfl, by decide, by decide, kw_319, ki_3, rfl⟩
theorem kf_0_295 : kx_fd "TaskDesk" 295 3 0 0 0 kr_3 := ⟨rfl, by decide, by decide, kw_310, ki_3, rfl⟩
theorem kf_0_306 : kx_fd "TaskDesk" 306 3 4 0 0 kr_3 := ⟨rfl, by decide, by decide, kw_318, ki_3, rfl⟩
theorem kf_0_312 : kx_fd "TaskDesk" 312 3 1 2 5 kr_3 := ⟨rfl, by decide, by decide, kw_312, ki_3, rfl⟩
theorem kf_0_317 : kx_fd "TaskDesk" 317 5 0 2 4 kr_5 := ⟨rfl, by decide, by decide, kw_115, ki_5, rfl⟩
theorem kf_0_320 : kx_fd "TaskDesk" 320 3 2 2 5 kr_3 := ⟨rfl, by decide, by decide, kw_314, ki_3, rfl⟩
theorem kf_0_359 : kx_fd "TaskDesk" 359 6 4 0 0 kr_6 := ⟨rfl, by decide, by decide, kw_270, ki_6, rfl⟩
theorem kf_0_362 : kx_fd "TaskDesk" 362 6 8 0 0 kr_6 := ⟨rfl, by decide, by decide, kw_278, ki_6, rfl⟩
theorem kf_0_363 : kx_fd "TaskDesk" 363 6 7 3 0 kr_6 := ⟨rfl, by decide, by decide, kw_276, ki_6, rfl⟩
theorem kf_0_366 : kx_fd "TaskDesk" 366 6 9 3 0 kr_6 := ⟨rfl, by decide, by decide, kw_280, ki_6, rfl⟩
theorem kf_0_378 : kx_fd "TaskDesk" 378 6 6 1 0 kr_6 := ⟨rfl, by decide, by decide, kw_274, ki_6, rfl⟩
theorem kf_0_383 : kx_fd "TaskDesk" 383 5 2 0 0 kr_5 := ⟨rfl, by decide, by decide, kw_121, ki_5, rfl⟩
theorem kf_0_399 : kx_fd "TaskDesk" 399 0 4 3 0 kr_0 := ⟨rfl, by decide, by decide, kw_367, ki_0, rfl⟩
theorem kf_0_402 : kx_fd "TaskDesk" 402 4 6 2 4 kr_4 := ⟨rfl, by decide, by decide, kw_232, ki_4, rfl⟩
theorem kf_0_409 : kx_fd "TaskDesk" 409 7 0 1 0 kr_7 := ⟨rfl, by decide, by decide, kw_142, ki_7, rfl⟩
theorem kf_0_418 : kx_fd "TaskDesk" 418 1 0 2 7 kr_1 := ⟨rfl, by decide, by decide, kw_158, ki_1, rfl⟩
theorem kf_0_424 : kx_fd "TaskDesk" 424 7 1 2 6 kr_7 := ⟨rfl, by decide, by decide, kw_144, ki_7, rfl⟩
theorem kf_0_427 : kx_fd "TaskDesk" 427 7 2 2 2 kr_7 := ⟨rfl, by decide, by decide, kw_146, ki_7, rfl⟩
theorem kf_0_435 : kx_fd "TaskDesk" 435 6 5 2 4 kr_6 := ⟨rfl, by decide, by decide, kw_272, ki_6, rfl⟩
theorem kf_0_441 : kx_fd "TaskDesk" 441 0 12 2 8 kr_0 := ⟨rfl, by decide, by decide, kw_375, ki_0, rfl⟩
theorem kf_0_445 : kx_fd "TaskDesk" 445 8 1 2 8 kr_8 := ⟨rfl, by decide, by decide, kw_341, ki_8, rfl⟩
theorem kf_0_448 : kx_fd "TaskDesk" 448 8 0 1 0 kr_8 := ⟨rfl, by decide, by decide, kw_339, ki_8, rfl⟩
theorem kf_0_453 : kx_fd "TaskDesk" 453 2 8 2 8 kr_2 := ⟨rfl, by decide, by decide, kw_188, ki_2, rfl⟩
theorem kf_1_12 : kx_fd "TaskDesk$Agenda" 12 1 1 2 7 kr_1 := ⟨rfl, by decide, by decide, kw_159, ki_1, rfl⟩
theorem kf_1_18 : kx_fd "TaskDesk$Agenda" 18 7 3 2 7 kr_7 := ⟨rfl, by decide, by decide, kw_147, ki_7, rfl⟩
theorem kf_1_21 : kx_fd "TaskDesk$Agenda" 21 7 0 1 0 kr_7 := ⟨rfl, by decide, by decide, kw_141, ki_7, rfl⟩
theorem kf_1_25 : kx_fd "TaskDesk$Agenda" 25 7 1 2 6 kr_7 := ⟨rfl, by decide, by decide, kw_143, ki_7, rfl⟩
theorem kf_1_29 : kx_fd "TaskDesk$Agenda" 29 7 2 2 2 kr_7 := ⟨rfl, by decide, by decide, kw_145, ki_7, rfl⟩
theorem kf_1_37 : kx_fd "TaskDesk$Agenda" 37 1 0 2 7 kr_1 := ⟨rfl, by decide, by decide, kw_157, ki_1, rfl⟩
theorem kf_2_10 : kx_fd "TaskDesk$Channel" 10 2 1 2 5 kr_2 := ⟨rfl, by decide, by decide, kw_176, ki_2, rfl⟩
theorem kf_2_16 : kx_fd "TaskDesk$Channel" 16 2 2 2 5 kr_2 := ⟨rfl, by decide, by decide, kw_178, ki_2, rfl⟩
theorem kf_2_19 : kx_fd "TaskDesk$Channel" 19 2 0 0 0 kr_2 := ⟨rfl, by decide, by decide, kw_174, ki_2, rfl⟩
theorem kf_2_23 : kx_fd "TaskDesk$Channel" 23 5 2 0 0 kr_5 := ⟨rfl, by decide, by decide, kw_118, ki_5, rfl⟩
theorem kf_2_26 : kx_fd "TaskDesk$Channel" 26 2 7 0 0 kr_2 := ⟨rfl, by decide, by decide, kw_185, ki_2, rfl⟩
theorem kf_2_29 : kx_fd "TaskDesk$Channel" 29 8 1 2 8 kr_8 := ⟨rfl, by decide, by decide, kw_340, ki_8, rfl⟩
theorem kf_2_35 : kx_fd "TaskDesk$Channel" 35 2 9 2 8 kr_2 := ⟨rfl, by decide, by decide, kw_189, ki_2, rfl⟩
theorem kf_2_38 : kx_fd "TaskDesk$Channel" 38 2 8 2 8 kr_2 := ⟨rfl, by decide, by decide, kw_187, ki_2, rfl⟩
theorem kf_2_41 : kx_fd "TaskDesk$Channel" 41 2 6 0 0 kr_2 := ⟨rfl, by decide, by decide, kw_183, ki_2, rfl⟩
theorem kf_3_12 : kx_fd "TaskDesk$Gate" 12 3 1 2 5 kr_3 := ⟨rfl, by decide, by decide, kw_311, ki_3, rfl⟩
theorem kf_3_18 : kx_fd "TaskDesk$Gate" 18 3 2 2 5 kr_3 := ⟨rfl, by decide, by decide, kw_313, ki_3, rfl⟩
theorem kf_3_21 : kx_fd "TaskDesk$Gate" 21 3 0 0 0 kr_3 := ⟨rfl, by decide, by decide, kw_309, ki_3, rfl⟩
theorem kf_3_25 : kx_fd "TaskDesk$Gate" 25 3 3 0 0 kr_3 := ⟨rfl, by decide, by decide, kw_315, ki_3, rfl⟩
theorem kf_3_28 : kx_fd "TaskDesk$Gate" 28 3 4 0 0 kr_3 := ⟨rfl, by decide, by decide, kw_317, ki_3, rfl⟩
theorem kf_4_9 : kx_fd "TaskDesk$Place" 9 4 4 0 0 kr_4 := ⟨rfl, by decide, by decide, kw_226, ki_4, rfl⟩
theorem kf_4_15 : kx_fd "TaskDesk$Place" 15 4 1 2 2 kr_4 := ⟨rfl, by decide, by decide, kw_222, ki_4, rfl⟩
theorem kf_4_19 : kx_fd "TaskDesk$Place" 19 4 5 2 5 kr_4 := ⟨rfl, by decide, by decide, kw_228, ki_4, rfl⟩
theorem kf_4_23 : kx_fd "TaskDesk$Place" 23 4 6 2 4 kr_4 := ⟨rfl, by decide, by decide, kw_230, ki_4, rfl⟩
theorem kf_4_27 : kx_fd "TaskDesk$Place" 27 4 7 2 4 kr_4 := ⟨rfl, by decide, by decide, kw_233, ki_4, rfl⟩
theorem kf_4_30 : kx_fd "TaskDesk$Place" 30 5 0 2 4 kr_5 := ⟨rfl, by decide, by decide, kw_114, ki_5, rfl⟩
theorem kf_4_35 : kx_fd "TaskDesk$Place" 35 5 1 2 4 kr_5 := ⟨rfl, by decide, by decide, kw_117, ki_5, rfl⟩
theorem kf_4_38 : kx_fd "TaskDesk$Place" 38 5 2 0 0 kr_5 := ⟨rfl, by decide, by decide, kw_120, ki_5, rfl⟩
theorem kf_5_7 : kx_fd "TaskDesk$Row" 7 4 5 2 5 kr_4 := ⟨rfl, by decide, by decide, kw_229, ki_4, rfl⟩
theorem kf_5_13 : kx_fd "TaskDesk$Row" 13 5 1 2 4 kr_5 := ⟨rfl, by decide, by decide, kw_116, ki_5, rfl⟩
theorem kf_5_19 : kx_fd "TaskDesk$Row" 19 4 6 2 4 kr_4 := ⟨rfl, by decide, by decide, kw_231, ki_4, rfl⟩
theorem kf_5_22 : kx_fd "TaskDesk$Row" 22 5 0 2 4 kr_5 := ⟨rfl, by decide, by decide, kw_113, ki_5, rfl⟩
theorem kf_5_25 : kx_fd "TaskDesk$Row" 25 4 7 2 4 kr_4 := ⟨rfl, by decide, by decide, kw_234, ki_4, rfl⟩
theorem kf_5_28 : kx_fd "TaskDesk$Row" 28 5 2 0 0 kr_5 := ⟨rfl, by decide, by decide, kw_119, ki_5, rfl⟩
theorem kf_6_9 : kx_fd "TaskDesk$Task" 9 6 0 0 0 kr_6 := ⟨rfl, by decide, by decide, kw_261, ki_6, rfl⟩
theorem kf_6_15 : kx_fd "TaskDesk$Task" 15 6 1 2 4 kr_6 := ⟨rfl, by decide, by decide, kw_263, ki_6, rfl⟩
theorem kf_6_19 : kx_fd "TaskDesk$Task" 19 6 2 3 0 kr_6 := ⟨rfl, by decide, by decide, kw_265, ki_6, rfl⟩
theorem kf_6_23 : kx_fd "TaskDesk$Task" 23 6 4 0 0 kr_6 := ⟨rfl, by decide, by decide, kw_269, ki_6, rfl⟩
theorem kf_6_30 : kx_fd "TaskDesk$Task" 30 6 6 1 0 kr_6 := ⟨rfl, by decide, by decide, kw_273, ki_6, rfl⟩
theorem kf_6_34 : kx_fd "TaskDesk$Task" 34 6 7 3 0 kr_6 := ⟨rfl, by decide, by decide, kw_275, ki_6, rfl⟩
theorem kf_6_37 : kx_fd "TaskDesk$Task" 37 6 8 0 0 kr_6 := ⟨rfl, by decide, by decide, kw_277, ki_6, rfl⟩
theorem kf_6_40 : kx_fd "TaskDesk$Task" 40 6 9 3 0 kr_6 := ⟨rfl, by decide, by decide, kw_279, ki_6, rfl⟩
theorem kf_6_43 : kx_fd "TaskDesk$Task" 43 6 3 0 0 kr_6 := ⟨rfl, by decide, by decide, kw_268, ki_6, rfl⟩
theorem kf_6_52 : kx_fd "TaskDesk$Task" 52 4 0 2 6 kr_4 := ⟨rfl, by decide, by decide, kw_221, ki_4, rfl⟩
theorem kf_6_58 : kx_fd "TaskDesk$Task" 58 6 5 2 4 kr_6 := ⟨rfl, by decide, by decide, kw_271, ki_6, rfl⟩
theorem kf_6_61 : kx_fd "TaskDesk$Task" 61 4 8 2 4 kr_4 := ⟨rfl, by decide, by decide, kw_235, ki_4, rfl⟩
theorem kf_9_7 : kx_fd "TaskDeskModel" 7 9 4 2 101 kr_9 := ⟨rfl, by decide, by decide, kw_934, ki_9, rfl⟩
theorem kf_9_13 : kx_fd "TaskDeskModel" 13 9 5 2 99 kr_9 := ⟨rfl, by decide, by decide, kw_935, ki_9, rfl⟩
theorem kf_9_17 : kx_fd "TaskDeskModel" 17 9 6 2 99 kr_9 := ⟨rfl, by decide, by decide, kw_936, ki_9, rfl⟩
theorem kf_9_20 : kx_fd "TaskDeskModel" 20 9 7 2 100 kr_9 := ⟨rfl, by decide, by decide, kw_937, ki_9, rfl⟩
theorem kf_9_24 : kx_fd "TaskDeskModel" 24 9 8 2 101 kr_9 := ⟨rfl, by decide, by decide, kw_938, ki_9, rfl⟩
theorem kf_9_27 : kx_fd "TaskDeskModel" 27 9 9 2 99 kr_9 := ⟨rfl, by decide, by decide, kw_939, ki_9, rfl⟩
theorem kf_9_30 : kx_fd "TaskDeskModel" 30 9 10 2 101 kr_9 := ⟨rfl, by decide, by decide, kw_940, ki_9, rfl⟩
theorem kf_9_33 : kx_fd "TaskDeskModel" 33 9 12 2 99 kr_9 := ⟨rfl, by decide, by decide, kw_942, ki_9, rfl⟩
theorem kf_9_36 : kx_fd "TaskDeskModel" 36 9 13 2 101 kr_9 := ⟨rfl, by decide, by decide, kw_943, ki_9, rfl⟩
theorem kf_9_39 : kx_fd "TaskDeskModel" 39 9 14 2 101 kr_9 := ⟨rfl, by decide, by decide, kw_944, ki_9, rfl⟩
theorem kf_9_42 : kx_fd "TaskDeskModel" 42 9 15 2 99 kr_9 := ⟨rfl, by decide, by decide, kw_945, ki_9, rfl⟩
theorem kf_9_45 : kx_fd "TaskDeskModel" 45 9 18 2 99 kr_9 := ⟨rfl, by decide, by decide, kw_948, ki_9, rfl⟩
theorem kf_9_48 : kx_fd "TaskDeskModel" 48 9 19 2 100 kr_9 := ⟨rfl, by decide, by decide, kw_949, ki_9, rfl⟩
theorem kf_9_51 : kx_fd "TaskDeskModel" 51 9 21 2 99 kr_9 := ⟨rfl, by decide, by decide, kw_951, ki_9, rfl⟩
theorem kf_9_54 : kx_fd "TaskDeskModel" 54 9 22 2 99 kr_9 := ⟨rfl, by decide, by decide, kw_952, ki_9, rfl⟩
theorem kf_9_57 : kx_fd "TaskDeskModel" 57 9 23 2 101 kr_9 := ⟨rfl, by decide, by decide, kw_953, ki_9, rfl⟩
theorem kf_9_60 : kx_fd "TaskDeskModel" 60 9 24 2 100 kr_9 := ⟨rfl, by decide, by decide, kw_954, ki_9, rfl⟩
theorem kf_9_63 : kx_fd "TaskDeskModel" 63 9 25 2 99 kr_9 := ⟨rfl, by decide, by decide, kw_955, ki_9, rfl⟩
theorem kf_9_66 : kx_fd "TaskDeskModel" 66 9 27 2 99 kr_9 := ⟨rfl, by decide, by decide, kw_957, ki_9, rfl⟩
theorem kf_9_69 : kx_fd "TaskDeskModel" 69 9 28 2 101 kr_9 := ⟨rfl, by decide, by decide, kw_958, ki_9, rfl⟩
theorem kf_9_72 : kx_fd "TaskDeskModel" 72 9 29 2 100 kr_9 := ⟨rfl, by decide, by decide, kw_959, ki_9, rfl⟩
theorem kf_9_75 : kx_fd "TaskDeskModel" 75 9 31 2 99 kr_9 := ⟨rfl, by decide, by decide, kw_961, ki_9, rfl⟩
theorem kf_9_78 : kx_fd "TaskDeskModel" 78 9 32 2 99 kr_9 := ⟨rfl, by decide, by decide, kw_962, ki_9, rfl⟩
theorem kf_9_81 : kx_fd "TaskDeskModel" 81 9 33 2 99 kr_9 := ⟨rfl, by decide, by decide, kw_963, ki_9, rfl⟩
theorem kf_9_84 : kx_fd "TaskDeskModel" 84 9 35 2 99 kr_9 := ⟨rfl, by decide, by decide, kw_965, ki_9, rfl⟩
theorem kf_9_87 : kx_fd "TaskDeskModel" 87 9 36 2 99 kr_9 := ⟨rfl, by decide, by decide, kw_966, ki_9, rfl⟩
theorem kf_9_90 : kx_fd "TaskDeskModel" 90 9 37 2 101 kr_9 := ⟨rfl, by decide, by decide, kw_967, ki_9, rfl⟩
theorem kf_9_93 : kx_fd "TaskDeskModel" 93 9 39 2 99 kr_9 := ⟨rfl, by decide, by decide, kw_969, ki_9, rfl⟩
theorem kf_9_96 : kx_fd "TaskDeskModel" 96 9 40 2 100 kr_9 := ⟨rfl, by decide, by decide, kw_970, ki_9, rfl⟩
theorem kf_9_99 : kx_fd "TaskDeskModel" 99 9 0 0 0 kr_9 := ⟨rfl, by decide, by decide, kw_930, ki_9, rfl⟩
theorem kf_9_103 : kx_fd "TaskDeskModel" 103 9 11 0 0 kr_9 := ⟨rfl, by decide, by decide, kw_941, ki_9, rfl⟩
theorem kf_9_106 : kx_fd "TaskDeskModel" 106 9 1 0 0 kr_9 := ⟨rfl, by decide, by decide, kw_931, ki_9, rfl⟩
theorem kf_9_112 : kx_fd "TaskDeskModel" 112 9 38 0 0 kr_9 := ⟨rfl, by decide, by decide, kw_968, ki_9, rfl⟩
theorem kf_9_118 : kx_fd "TaskDeskModel" 118 9 2 0 0 kr_9 := ⟨rfl, by decide, by decide, kw_932, ki_9, rfl⟩
theorem kf_9_121 : kx_fd "TaskDeskModel" 121 9 3 1 0 kr_9 := ⟨rfl, by decide, by decide, kw_933, ki_9, rfl⟩
theorem kf_9_129 : kx_fd "TaskDeskModel" 129 9 41 0 0 kr_9 := ⟨rfl, by decide, by decide, kw_971, ki_9, rfl⟩
theorem kf_9_146 : kx_fd "TaskDeskModel" 146 9 17 0 0 kr_9 := ⟨rfl, by decide, by decide, kw_947, ki_9, rfl⟩
theorem kf_9_149 : kx_fd "TaskDeskModel" 149 9 20 0 0 kr_9 := ⟨rfl, by decide, by decide, kw_950, ki_9, rfl⟩
theorem kf_9_173 : kx_fd "TaskDeskModel" 173 9 16 0 0 kr_9 := ⟨rfl, by decide, by decide, kw_946, ki_9, rfl⟩
theorem kf_9_180 : kx_fd "TaskDeskModel" 180 9 26 0 0 kr_9 := ⟨rfl, by decide, by decide, kw_956, ki_9, rfl⟩
theorem kf_9_211 : kx_fd "TaskDeskModel" 211 9 34 0 0 kr_9 := ⟨rfl, by decide, by decide, kw_964, ki_9, rfl⟩
theorem kf_9_218 : kx_fd "TaskDeskModel" 218 9 30 0 0 kr_9 := ⟨rfl, by decide, by decide, kw_960, ki_9, rfl⟩
theorem kc_1 : kx_cal 1 prog_6_method_1_code 1 (Option.none : Option Jvm.ClassFile.FieldType) 0 := ⟨kw_111, kw_81, by decide, ⟨by decide, by decide⟩, by decide +kernel⟩
theorem kc_2 : kx_cal 2 prog_2_method_1_code 3 (Option.none : Option Jvm.ClassFile.FieldType) 0 := ⟨kw_133, kw_82, by decide, ⟨by decide, by decide⟩, by decide +kernel⟩
theorem kc_3 : kx_cal 3 prog_8_method_1_code 1 (Option.none : Option Jvm.ClassFile.FieldType) 0 := ⟨kw_139, kw_83, by decide, ⟨by decide, by decide⟩, by decide +kernel⟩
theorem kc_4 : kx_cal 4 prog_3_method_1_code 2 (Option.none : Option Jvm.ClassFile.FieldType) 1 := ⟨kw_170, kw_84, by decide, ⟨by decide, by decide⟩, by decide +kernel⟩
theorem kc_5 : kx_cal 5 prog_5_method_1_code 2 (Option.none : Option Jvm.ClassFile.FieldType) 1 := ⟨kw_218, kw_85, by decide, ⟨by decide, by decide⟩, by decide +kernel⟩
theorem kc_6 : kx_cal 6 prog_7_method_1_code 3 (Option.none : Option Jvm.ClassFile.FieldType) 2 := ⟨kw_259, kw_86, by decide, ⟨by decide, by decide⟩, by decide +kernel⟩
theorem kc_7 : kx_cal 7 prog_4_method_1_code 2 (Option.none : Option Jvm.ClassFile.FieldType) 1 := ⟨kw_305, kw_87, by decide, ⟨by decide, by decide⟩, by decide +kernel⟩
theorem kc_8 : kx_cal 8 prog_9_method_1_code 1 (Option.none : Option Jvm.ClassFile.FieldType) 0 := ⟨kw_337, kw_88, by decide, ⟨by decide, by decide⟩, by decide +kernel⟩
theorem kc_9 : kx_cal 9 prog_1_method_49_code 2 (Option.none : Option Jvm.ClassFile.FieldType) 1 := ⟨kw_350, kw_80, by decide, ⟨by decide, by decide⟩, by decide +kernel⟩
theorem kc_10 : kx_cal 10 prog_1_method_56_code 2 (Option.none : Option Jvm.ClassFile.FieldType) 1 := ⟨kw_354, kw_80, by decide, ⟨by decide, by decide⟩, by decide +kernel⟩
theorem kc_11 : kx_cal 11 prog_7_method_2_code 1 (Option.none : Option Jvm.ClassFile.FieldType) 0 := ⟨kw_358, kw_86, by decide, ⟨by decide, by decide⟩, by decide +kernel⟩
theorem kc_12 : kx_cal 12 prog_7_method_3_code 6 (Option.none : Option Jvm.ClassFile.FieldType) 4 := ⟨kw_362, kw_86, by decide, ⟨by decide, by decide⟩, by decide +kernel⟩
theorem kc_14 : kx_cal 14 prog_1_method_30_code 2 (Option.some (Jvm.ClassFile.FieldType.object "TaskDesk$Channel")) 1 := ⟨kw_425, kw_80, by decide, ⟨by decide, by decide⟩, by decide +kernel⟩
theorem kc_15 : kx_cal 15 prog_3_method_2_code 1 (Option.some Jvm.ClassFile.FieldType.boolean) 0 := ⟨kw_429, kw_84, by decide, ⟨by decide, by decide⟩, by decide +kernel⟩
theorem kc_16 : kx_cal 16 prog_1_method_50_code 3 (Option.some Jvm.ClassFile.FieldType.boolean) 1 := ⟨kw_433, kw_80, by decide, ⟨by decide, by decide⟩, by decide +kernel⟩
theorem kc_17 : kx_cal 17 prog_1_method_48_code 3 (Option.some Jvm.ClassFile.FieldType.long) 1 := ⟨kw_437, kw_80, by decide, ⟨by decide, by decide⟩, by decide +kernel⟩
theorem kc_18 : kx_cal 18 prog_3_method_4_code 1 (Option.none : Option Jvm.ClassFile.FieldType) 0 := ⟨kw_441, kw_84, by decide, ⟨by decide, by decide⟩, by decide +kernel⟩
theorem kc_19 : kx_cal 19 prog_1_method_19_code 1 (Option.some Jvm.ClassFile.FieldType.int) 0 := ⟨kw_445, kw_80, by decide, ⟨by decide, by decide⟩, by decide +kernel⟩
theorem kc_22 : kx_cal 22 prog_1_method_34_code 1 (Option.some Jvm.ClassFile.FieldType.int) 0 := ⟨kw_457, kw_80, by decide, ⟨by decide, by decide⟩, by decide +kernel⟩
theorem kc_24 : kx_cal 24 prog_1_method_26_code 1 (Option.some (Jvm.ClassFile.FieldType.object "TaskDesk$Task")) 0 := ⟨kw_469, kw_80, by decide, ⟨by decide, by decide⟩, by decide +kernel⟩
theorem kc_25 : kx_cal 25 prog_1_method_32_code 2 (Option.some (Jvm.ClassFile.FieldType.object "TaskDesk$Task")) 0 := ⟨kw_542, kw_80, by decide, ⟨by decide, by decide⟩, by decide +kernel⟩
theorem kc_26 : kx_cal 26 prog_1_method_35_code 2 (Option.none : Option Jvm.ClassFile.FieldType) 1 := ⟨kw_547, kw_80, by decide, ⟨by decide, by decide⟩, by decide +kernel⟩
theorem kc_27 : kx_cal 27 prog_7_method_4_code 4 (Option.none : Option Jvm.ClassFile.FieldType) 3 := ⟨kw_551, kw_86, by decide, ⟨by decide, by decide⟩, by decide +kernel⟩
theorem kc_28 : kx_cal 28 prog_6_method_2_code 2 (Option.none : Option Jvm.ClassFile.FieldType) 1 := ⟨kw_555, kw_81, by decide, ⟨by decide, by decide⟩, by decide +kernel⟩
theorem kc_30 : kx_cal 30 prog_1_method_37_code 4 (Option.none : Option Jvm.ClassFile.FieldType) 0 := ⟨kw_566, kw_80, by decide, ⟨by decide, by decide⟩, by decide +kernel⟩
theorem kc_31 : kx_cal 31 prog_2_method_4_code 2 (Option.some (Jvm.ClassFile.FieldType.object "TaskDesk$Timer")) 0 := ⟨kw_570, kw_82, by decide, ⟨by decide, by decide⟩, by decide +kernel⟩
theorem kc_32 : kx_cal 32 prog_1_method_38_code 3 (Option.none : Option Jvm.ClassFile.FieldType) 1 := ⟨kw_574, kw_80, by decide, ⟨by decide, by decide⟩, by decide +kernel⟩
theorem kc_33 : kx_cal 33 prog_1_method_43_code 3 (Option.some Jvm.ClassFile.FieldType.boolean) 1 := ⟨kw_578, kw_80, by decide, ⟨by decide, by decide⟩, by decide +kernel⟩
theorem kc_34 : kx_cal 34 prog_1_method_45_code 5 (Option.none : Option Jvm.ClassFile.FieldType) 2 := ⟨kw_582, kw_80, by decide, ⟨by decide, by decide⟩, by decide +kernel⟩
theorem kc_35 : kx_cal 35 prog_1_method_40_code 7 (Option.none : Option Jvm.ClassFile.FieldType) 4 := ⟨kw_586, kw_80, by decide, ⟨by decide, by decide⟩, by decide +kernel⟩
theorem kc_36 : kx_cal 36 prog_1_method_42_code 5 (Option.none : Option Jvm.ClassFile.FieldType) 1 := ⟨kw_591, kw_80, by decide, ⟨by decide, by decide⟩, by decide +kernel⟩
theorem kc_37 : kx_cal 37 prog_5_method_2_code 1 (Option.none : Option Jvm.ClassFile.FieldType) 0 := ⟨kw_595, kw_85, by decide, ⟨by decide, by decide⟩, by decide +kernel⟩
theorem kc_38 : kx_cal 38 prog_1_method_47_code 5 (Option.none : Option Jvm.ClassFile.FieldType) 2 := ⟨kw_599, kw_80, by decide, ⟨by decide, by decide⟩, by decide +kernel⟩
theorem kc_39 : kx_cal 39 prog_3_method_3_code 2 (Option.none : Option Jvm.ClassFile.FieldType) 1 := ⟨kw_603, kw_84, by decide, ⟨by decide, by decide⟩, by decide +kernel⟩
theorem kc_41 : kx_cal 41 prog_1_method_39_code 2 (Option.none : Option Jvm.ClassFile.FieldType) 0 := ⟨kw_615, kw_80, by decide, ⟨by decide, by decide⟩, by decide +kernel⟩
theorem kc_43 : kx_cal 43 prog_2_method_2_code 7 (Option.none : Option Jvm.ClassFile.FieldType) 3 := ⟨kw_644, kw_82, by decide, ⟨by decide, by decide⟩, by decide +kernel⟩
theorem kc_44 : kx_cal 44 prog_2_method_3_code 5 (Option.some (Jvm.ClassFile.FieldType.object "TaskDesk$Timer")) 1 := ⟨kw_648, kw_82, by decide, ⟨by decide, by decide⟩, by decide +kernel⟩
theorem kc_46 : kx_cal 46 prog_1_method_33_code 2 (Option.some (Jvm.ClassFile.FieldType.object "TaskDesk$Channel")) 0 := ⟨kw_660, kw_80, by decide, ⟨by decide, by decide⟩, by decide +kernel⟩
theorem kc_49 : kx_cal 49 prog_1_method_28_code 3 (Option.some (Jvm.ClassFile.FieldType.object "TaskDesk$Channel")) 1 := ⟨kw_682, kw_80, by decide, ⟨by decide, by decide⟩, by decide +kernel⟩
theorem kc_51 : kx_cal 51 prog_1_method_44_code 3 (Option.some Jvm.ClassFile.FieldType.boolean) 1 := ⟨kw_710, kw_80, by decide, ⟨by decide, by decide⟩, by decide +kernel⟩
theorem kc_52 : kx_cal 52 prog_1_method_46_code 8 (Option.none : Option Jvm.ClassFile.FieldType) 3 := ⟨kw_714, kw_80, by decide, ⟨by decide, by decide⟩, by decide +kernel⟩
theorem kc_54 : kx_cal 54 prog_1_method_41_code 5 (Option.none : Option Jvm.ClassFile.FieldType) 3 := ⟨kw_726, kw_80, by decide, ⟨by decide, by decide⟩, by decide +kernel⟩
theorem kc_57 : kx_cal 57 prog_1_method_52_code 5 (Option.some (Jvm.ClassFile.FieldType.object "TaskDesk$Place")) 1 := ⟨kw_746, kw_80, by decide, ⟨by decide, by decide⟩, by decide +kernel⟩
theorem kc_58 : kx_cal 58 prog_1_method_51_code 3 (Option.some Jvm.ClassFile.FieldType.boolean) 1 := ⟨kw_750, kw_80, by decide, ⟨by decide, by decide⟩, by decide +kernel⟩
theorem kc_59 : kx_cal 59 prog_1_method_53_code 4 (Option.none : Option Jvm.ClassFile.FieldType) 2 := ⟨kw_754, kw_80, by decide, ⟨by decide, by decide⟩, by decide +kernel⟩
theorem kc_60 : kx_cal 60 prog_1_method_54_code 2 (Option.none : Option Jvm.ClassFile.FieldType) 0 := ⟨kw_758, kw_80, by decide, ⟨by decide, by decide⟩, by decide +kernel⟩
theorem kc_61 : kx_cal 61 prog_1_method_55_code 5 (Option.none : Option Jvm.ClassFile.FieldType) 1 := ⟨kw_762, kw_80, by decide, ⟨by decide, by decide⟩, by decide +kernel⟩
theorem kc_62 : kx_cal 62 prog_7_method_5_code 2 (Option.none : Option Jvm.ClassFile.FieldType) 1 := ⟨kw_767, kw_86, by decide, ⟨by decide, by decide⟩, by decide +kernel⟩
theorem kc_64 : kx_cal 64 prog_1_method_31_code 2 (Option.some (Jvm.ClassFile.FieldType.object "TaskDesk$Gate")) 1 := ⟨kw_778, kw_80, by decide, ⟨by decide, by decide⟩, by decide +kernel⟩
theorem kc_66 : kx_cal 66 prog_1_method_29_code 3 (Option.some (Jvm.ClassFile.FieldType.object "TaskDesk$Gate")) 1 := ⟨kw_791, kw_80, by decide, ⟨by decide, by decide⟩, by decide +kernel⟩
theorem kc_67 : kx_cal 67 prog_1_method_57_code 2 (Option.none : Option Jvm.ClassFile.FieldType) 1 := ⟨kw_796, kw_80, by decide, ⟨by decide, by decide⟩, by decide +kernel⟩
theorem kc_68 : kx_cal 68 prog_1_method_58_code 3 (Option.none : Option Jvm.ClassFile.FieldType) 1 := ⟨kw_801, kw_80, by decide, ⟨by decide, by decide⟩, by decide +kernel⟩
theorem kc_69 : kx_cal 69 prog_4_method_2_code 1 (Option.some Jvm.ClassFile.FieldType.boolean) 0 := ⟨kw_805, kw_87, by decide, ⟨by decide, by decide⟩, by decide +kernel⟩
theorem kc_70 : kx_cal 70 prog_4_method_3_code 1 (Option.none : Option Jvm.ClassFile.FieldType) 0 := ⟨kw_809, kw_87, by decide, ⟨by decide, by decide⟩, by decide +kernel⟩
theorem kc_73 : kx_cal 73 prog_4_method_4_code 1 (Option.some Jvm.ClassFile.FieldType.boolean) 0 := ⟨kw_828, kw_87, by decide, ⟨by decide, by decide⟩, by decide +kernel⟩
theorem kc_74 : kx_cal 74 prog_1_method_59_code 2 (Option.none : Option Jvm.ClassFile.FieldType) 1 := ⟨kw_833, kw_80, by decide, ⟨by decide, by decide⟩, by decide +kernel⟩
theorem kc_75 : kx_cal 75 prog_1_method_61_code 3 (Option.none : Option Jvm.ClassFile.FieldType) 1 := ⟨kw_837, kw_80, by decide, ⟨by decide, by decide⟩, by decide +kernel⟩
theorem kc_76 : kx_cal 76 prog_1_method_62_code 3 (Option.none : Option Jvm.ClassFile.FieldType) 2 := ⟨kw_841, kw_80, by decide, ⟨by decide, by decide⟩, by decide +kernel⟩
theorem kc_77 : kx_cal 77 prog_1_method_64_code 4 (Option.none : Option Jvm.ClassFile.FieldType) 1 := ⟨kw_845, kw_80, by decide, ⟨by decide, by decide⟩, by decide +kernel⟩
theorem kc_79 : kx_cal 79 prog_4_method_5_code 4 (Option.some Jvm.ClassFile.FieldType.boolean) 1 := ⟨kw_857, kw_87, by decide, ⟨by decide, by decide⟩, by decide +kernel⟩
theorem kc_80 : kx_cal 80 prog_1_method_60_code 2 (Option.none : Option Jvm.ClassFile.FieldType) 1 := ⟨kw_863, kw_80, by decide, ⟨by decide, by decide⟩, by decide +kernel⟩
theorem kc_81 : kx_cal 81 prog_1_method_63_code 3 (Option.none : Option Jvm.ClassFile.FieldType) 1 := ⟨kw_867, kw_80, by decide, ⟨by decide, by decide⟩, by decide +kernel⟩
theorem kc_83 : kx_cal 83 prog_1_method_27_code 2 (Option.some (Jvm.ClassFile.FieldType.object "TaskDesk$Task")) 1 := ⟨kw_879, kw_80, by decide, ⟨by decide, by decide⟩, by decide +kernel⟩
theorem kc_84 : kx_cal 84 prog_1_method_36_code 4 (Option.some Jvm.ClassFile.FieldType.int) 1 := ⟨kw_899, kw_80, by decide, ⟨by decide, by decide⟩, by decide +kernel⟩
theorem kc_91 : kx_cal 91 prog_11_method_3_code 2 (Option.some Jvm.ClassFile.FieldType.int) 1 := ⟨kw_1071, kw_89, by decide, ⟨by decide, by decide⟩, by decide +kernel⟩
theorem kc_93 : kx_cal 93 prog_11_method_11_code 2 (Option.some Jvm.ClassFile.FieldType.boolean) 1 := ⟨kw_1079, kw_89, by decide, ⟨by decide, by decide⟩, by decide +kernel⟩
theorem kc_94 : kx_cal 94 prog_11_method_13_code 4 (Option.some Jvm.ClassFile.FieldType.int) 2 := ⟨kw_1083, kw_89, by decide, ⟨by decide, by decide⟩, by decide +kernel⟩
theorem kc_95 : kx_cal 95 prog_11_method_12_code 4 (Option.some Jvm.ClassFile.FieldType.int) 1 := ⟨kw_1087, kw_89, by decide, ⟨by decide, by decide⟩, by decide +kernel⟩
theorem kc_96 : kx_cal 96 prog_11_method_19_code 5 (Option.some Jvm.ClassFile.FieldType.long) 1 := ⟨kw_1091, kw_89, by decide, ⟨by decide, by decide⟩, by decide +kernel⟩
theorem kc_99 : kx_cal 99 prog_11_method_4_code 2 (Option.some Jvm.ClassFile.FieldType.boolean) 1 := ⟨kw_1104, kw_89, by decide, ⟨by decide, by decide⟩, by decide +kernel⟩
theorem kc_100 : kx_cal 100 prog_11_method_21_code 2 (Option.some Jvm.ClassFile.FieldType.boolean) 1 := ⟨kw_1108, kw_89, by decide, ⟨by decide, by decide⟩, by decide +kernel⟩
theorem kc_101 : kx_cal 101 prog_11_method_18_code 5 (Option.none : Option Jvm.ClassFile.FieldType) 2 := ⟨kw_1112, kw_89, by decide, ⟨by decide, by decide⟩, by decide +kernel⟩
theorem kc_102 : kx_cal 102 prog_11_method_15_code 7 (Option.none : Option Jvm.ClassFile.FieldType) 4 := ⟨kw_1116, kw_89, by decide, ⟨by decide, by decide⟩, by decide +kernel⟩
theorem kc_103 : kx_cal 103 prog_11_method_5_code 7 (Option.none : Option Jvm.ClassFile.FieldType) 5 := ⟨kw_1120, kw_89, by decide, ⟨by decide, by decide⟩, by decide +kernel⟩
theorem kc_104 : kx_cal 104 prog_11_method_14_code 4 (Option.none : Option Jvm.ClassFile.FieldType) 1 := ⟨kw_1124, kw_89, by decide, ⟨by decide, by decide⟩, by decide +kernel⟩
theorem kc_105 : kx_cal 105 prog_11_method_6_code 2 (Option.none : Option Jvm.ClassFile.FieldType) 1 := ⟨kw_1128, kw_89, by decide, ⟨by decide, by decide⟩, by decide +kernel⟩
theorem kc_106 : kx_cal 106 prog_11_method_17_code 4 (Option.none : Option Jvm.ClassFile.FieldType) 2 := ⟨kw_1132, kw_89, by decide, ⟨by decide, by decide⟩, by decide +kernel⟩
theorem kc_107 : kx_cal 107 prog_11_method_16_code 7 (Option.none : Option Jvm.ClassFile.FieldType) 5 := ⟨kw_1136, kw_89, by decide, ⟨by decide, by decide⟩, by decide +kernel⟩
theorem kc_108 : kx_cal 108 prog_11_method_7_code 3 (Option.none : Option Jvm.ClassFile.FieldType) 2 := ⟨kw_1140, kw_89, by decide, ⟨by decide, by decide⟩, by decide +kernel⟩
theorem kc_109 : kx_cal 109 prog_11_method_8_code 2 (Option.none : Option Jvm.ClassFile.FieldType) 0 := ⟨kw_1144, kw_89, by decide, ⟨by decide, by decide⟩, by decide +kernel⟩
theorem kc_110 : kx_cal 110 prog_11_method_9_code 6 (Option.none : Option Jvm.ClassFile.FieldType) 0 := ⟨kw_1148, kw_89, by decide, ⟨by decide, by decide⟩, by decide +kernel⟩
theorem kc_111 : kx_cal 111 prog_11_method_10_code 2 (Option.none : Option Jvm.ClassFile.FieldType) 1 := ⟨kw_1152, kw_89, by decide, ⟨by decide, by decide⟩, by decide +kernel⟩
theorem kc_113 : kx_cal 113 prog_11_method_22_code 2 (Option.some Jvm.ClassFile.FieldType.boolean) 1 := ⟨kw_1160, kw_89, by decide, ⟨by decide, by decide⟩, by decide +kernel⟩
theorem kc_114 : kx_cal 114 prog_11_method_20_code 4 (Option.none : Option Jvm.ClassFile.FieldType) 2 := ⟨kw_1164, kw_89, by decide, ⟨by decide, by decide⟩, by decide +kernel⟩
theorem kc_118 : kx_cal 118 prog_11_method_30_code 2 (Option.some Jvm.ClassFile.FieldType.boolean) 1 := ⟨kw_1180, kw_89, by decide, ⟨by decide, by decide⟩, by decide +kernel⟩
theorem kc_119 : kx_cal 119 prog_11_method_32_code 3 (Option.some Jvm.ClassFile.FieldType.boolean) 1 := ⟨kw_1184, kw_89, by decide, ⟨by decide, by decide⟩, by decide +kernel⟩
theorem kc_121 : kx_cal 121 prog_11_method_34_code 1 (Option.some Jvm.ClassFile.FieldType.int) 0 := ⟨kw_1192, kw_89, by decide, ⟨by decide, by decide⟩, by decide +kernel⟩
theorem kc_125 : kx_cal 125 prog_11_method_37_code 2 (Option.some Jvm.ClassFile.FieldType.boolean) 1 := ⟨kw_1209, kw_89, by decide, ⟨by decide, by decide⟩, by decide +kernel⟩
theorem kc_127 : kx_cal 127 prog_11_method_46_code 5 (Option.some Jvm.ClassFile.FieldType.boolean) 4 := ⟨kw_1217, kw_89, by decide, ⟨by decide, by decide⟩, by decide +kernel⟩
theorem kc_128 : kx_cal 128 prog_11_method_41_code 4 (Option.none : Option Jvm.ClassFile.FieldType) 3 := ⟨kw_1221, kw_89, by decide, ⟨by decide, by decide⟩, by decide +kernel⟩
theorem kc_129 : kx_cal 129 prog_11_method_44_code 3 (Option.none : Option Jvm.ClassFile.FieldType) 1 := ⟨kw_1225, kw_89, by decide, ⟨by decide, by decide⟩, by decide +kernel⟩
theorem kc_130 : kx_cal 130 prog_11_method_39_code 4 (Option.some Jvm.ClassFile.FieldType.int) 2 := ⟨kw_1229, kw_89, by decide, ⟨by decide, by decide⟩, by decide +kernel⟩
theorem kc_131 : kx_cal 131 prog_11_method_42_code 4 (Option.none : Option Jvm.ClassFile.FieldType) 2 := ⟨kw_1233, kw_89, by decide, ⟨by decide, by decide⟩, by decide +kernel⟩
theorem kc_132 : kx_cal 132 prog_11_method_40_code 4 (Option.some Jvm.ClassFile.FieldType.int) 1 := ⟨kw_1237, kw_89, by decide, ⟨by decide, by decide⟩, by decide +kernel⟩
theorem kc_135 : kx_cal 135 prog_11_method_50_code 3 (Option.none : Option Jvm.ClassFile.FieldType) 1 := ⟨kw_1249, kw_89, by decide, ⟨by decide, by decide⟩, by decide +kernel⟩
theorem kc_136 : kx_cal 136 prog_11_method_51_code 3 (Option.none : Option Jvm.ClassFile.FieldType) 1 := ⟨kw_1253, kw_89, by decide, ⟨by decide, by decide⟩, by decide +kernel⟩
theorem kc_137 : kx_cal 137 prog_11_method_52_code 3 (Option.none : Option Jvm.ClassFile.FieldType) 2 := ⟨kw_1257, kw_89, by decide, ⟨by decide, by decide⟩, by decide +kernel⟩
theorem kc_138 : kx_cal 138 prog_11_method_43_code 4 (Option.none : Option Jvm.ClassFile.FieldType) 2 := ⟨kw_1261, kw_89, by decide, ⟨by decide, by decide⟩, by decide +kernel⟩
theorem kc_139 : kx_cal 139 prog_11_method_45_code 5 (Option.none : Option Jvm.ClassFile.FieldType) 1 := ⟨kw_1265, kw_89, by decide, ⟨by decide, by decide⟩, by decide +kernel⟩
theorem kc_141 : kx_cal 141 prog_11_method_54_code 4 (Option.some Jvm.ClassFile.FieldType.int) 1 := ⟨kw_1273, kw_89, by decide, ⟨by decide, by decide⟩, by decide +kernel⟩
theorem kc_144 : kx_cal 144 prog_11_method_56_code 2 (Option.some Jvm.ClassFile.FieldType.boolean) 1 := ⟨kw_1285, kw_89, by decide, ⟨by decide, by decide⟩, by decide +kernel⟩
theorem kc_150 : kx_cal 150 prog_11_method_63_code 3 (Option.some Jvm.ClassFile.FieldType.int) 0 := ⟨kw_1309, kw_89, by decide, ⟨by decide, by decide⟩, by decide +kernel⟩
theorem kc_151 : kx_cal 151 prog_11_method_64_code 3 (Option.some Jvm.ClassFile.FieldType.int) 0 := ⟨kw_1313, kw_89, by decide, ⟨by decide, by decide⟩, by decide +kernel⟩
theorem kx_cov {lo hi : Int} {cs : List (Int32 × kx_F)} (n : Nat) (h : lo = 0 ∧ hi = n - 1 ∧ n < 100) {vs : List Int32} (hcs : cs.map (fun q => q.1) = vs) (hm : vs = (List.range n).map (fun i => Int32.ofNat i)) : ∀ x : Int32, (∀ q ∈ cs, ¬ x = q.1) → x.toInt < lo ∨ hi < x.toInt := by
  obtain ⟨rfl, rfl, h3⟩ := h
  intro x hx
  by_cases h1 : x.toInt < 0
  · exact Or.inl h1
  · by_cases h2 : (n : Int) - 1 < x.toInt
    · exact Or.inr h2
    · exfalso
      have e1 : x = Int32.ofNat x.toInt.toNat := Int32.toInt_inj.mp (by
        have z := nI_toInt (n := x.toInt.toNat) (by omega)
        unfold nI at z
        rw [z]
        omega)
      have hmem : Int32.ofNat x.toInt.toNat ∈ cs.map (fun q => q.1) := by
        rw [hcs, hm]
        exact List.mem_map.mpr ⟨x.toInt.toNat, List.mem_range.mpr (by omega), rfl⟩
      obtain ⟨q, hq, e2⟩ := List.mem_map.mp hmem
      exact hx q hq (e1.trans e2.symm)
theorem kx_lcov_2 {a1 o1 a2 o2 dflt : Int} {x1 x2 : Int32} {f1 f2 : kx_F} (h1 : x1.toInt = a1) (h2 : x2.toInt = a2) : ∀ x : Int32, (∀ q ∈ [(x1, f1), (x2, f2)], ¬ x = q.1) → Op.lookupswitch.offset (#[(a1, o1), (a2, o2)] : Array (Int × Int)).toList dflt x.toInt = dflt := by
  intro x hx
  show Op.lookupswitch.offset [(a1, o1), (a2, o2)] dflt x.toInt = dflt
  rw [lv_osw (hx (x1, f1) List.mem_cons_self) h1, lv_osw (hx (x2, f2) (List.mem_cons_of_mem _ List.mem_cons_self)) h2]
  rfl
end
section
section KB
variable {p : Program} {l : Launch} {e : Env} {R : Room} {s : State} {m : MethodId} {args : Array Value} {below : List Frame} {meth : Method} {c : Code} {s0 : State} {D : va_G} {cA : Nat → ClassId} {ι0 : Nat → Nat} {h0 hf : kx_H} {rr : kx_R} {C : kx_C} {d : Nat} {J : Nat → kx_F}
/-! TaskDesk$Row.<init>()V -/
def bk_1_0 (d : Nat) (C : kx_C) (J : Nat → kx_F) : kx_F := (kx_la 0 (kx_obj kx_rv))
def bm_1 (d : Nat) (C : kx_C) (b : Nat) (J : Nat → kx_F) : kx_F := bif Nat.beq b 0 then bk_1_0 d C J else fun _ _ _ => none
set_option maxRecDepth 20000 in
theorem sk_1_0 (X : kx_X p l e R s m args below meth c s0 D cA 1 ι0 h0 rr hf prog_6_method_1_code "TaskDesk$Row" C d (Option.none : Option Jvm.ClassFile.FieldType) "<init>" J) : kx_Sn p l e R s m args below meth c s0 D cA 1 ι0 h0 rr hf 0 (bk_1_0 d C J) := by
  obtain ⟨G, CS, R9, O9, RT, NM, T0, FL, JS⟩ := X
  exact (kx_s_aload_n (j := 0) G rfl (by decide +kernel) (kx_s_obj G kw_112 kw_103 kw_104 (by have := R9.1; omega) (by have := R9.2; omega) (by decide +kernel) (kx_s_return G RT (by decide +kernel))))
theorem sm_1 (X : kx_X p l e R s m args below meth c s0 D cA 1 ι0 h0 rr hf prog_6_method_1_code "TaskDesk$Row" C d (Option.none : Option Jvm.ClassFile.FieldType) "<init>" J) (b : Nat) : kx_Sn p l e R s m args below meth c s0 D cA 1 ι0 h0 rr hf b (bm_1 d C b J) := by
  unfold bm_1
  cases h0 : Nat.beq b 0 with
  | true => rw [Nat.eq_of_beq_eq_true h0]; exact sk_1_0 X
  | false =>
   exact kx_s_no
/-! TaskDesk$Agenda.<init>()V -/
def bk_2_0 (d : Nat) (C : kx_C) (J : Nat → kx_F) : kx_F := (kx_la 0 (kx_obj (kx_c (kx_i 0) (kx_si 1 (kx_nm [0, 1] (J 6))))))
def bk_2_6 (d : Nat) (C : kx_C) (J : Nat → kx_F) : kx_F := (kx_li 1 (kx_c (kx_i 512) (kx_cge kx_rv (kx_new kx_cc kx_cs 7 4 (kx_dup (kx_Vv C 3 7 [] (kx_sa 2 (kx_la 2 (kx_la 0 (kx_gR 1 1 7 (kx_pR 7 3 7 (kx_la 0 (kx_la 2 (kx_pR 1 1 7 (kx_inc 1 1 (kx_nm [0, 1] (J 6)))))))))))))))))
def bm_2 (d : Nat) (C : kx_C) (b : Nat) (J : Nat → kx_F) : kx_F := bif Nat.beq b 0 then bk_2_0 d C J else bif Nat.beq b 6 then bk_2_6 d C J else fun _ _ _ => none
set_option maxRecDepth 20000 in
theorem sk_2_0 (X : kx_X p l e R s m args below meth c s0 D cA 3 ι0 h0 rr hf prog_2_method_1_code "TaskDesk$Agenda" C d (Option.none : Option Jvm.ClassFile.FieldType) "<init>" J) : kx_Sn p l e R s m args below meth c s0 D cA 3 ι0 h0 rr hf 0 (bk_2_0 d C J) := by
  obtain ⟨G, CS, R9, O9, RT, NM, T0, FL, JS⟩ := X
  exact (kx_s_aload_n (j := 0) G rfl (by decide +kernel) (kx_s_obj G kw_134 kw_103 kw_104 (by have := R9.1; omega) (by have := R9.2; omega) (by decide +kernel) (kx_s_iconst (i := 0) G (by decide +kernel) (by decide +kernel) (kx_s_istore_n (j := 1) G rfl (by decide +kernel) (by decide) (kx_s_nm (JS 6))))))
set_option maxRecDepth 20000 in
theorem sk_2_6 (X : kx_X p l e R s m args below meth c s0 D cA 3 ι0 h0 rr hf prog_2_method_1_code "TaskDesk$Agenda" C d (Option.none : Option Jvm.ClassFile.FieldType) "<init>" J) : kx_Sn p l e R s m args below meth c s0 D cA 3 ι0 h0 rr hf 6 (bk_2_6 d C J) := by
  obtain ⟨G, CS, R9, O9, RT, NM, T0, FL, JS⟩ := X
  exact (kx_s_iload_n (j := 1) G rfl (by decide +kernel) (kx_s_sipush (i := 512) G (by decide +kernel) (by decide +kernel) (kx_s_cge (off := 30) (tgt := 40) G (by decide +kernel) rfl (kx_s_return G RT (by decide +kernel)) (kx_s_new G (r := kr_7) rfl (by decide) rfl ki_7 kt_y7 ky_7 kd_7 kw_135 kw_136 kw_83 (by decide +kernel) (kx_s_dup G (by decide +kernel) (kx_s_INv (n := 3) G kx_good CS R9 (O9 _) kc_3 rfl kw_137 kw_138 rfl rfl (by decide +kernel) (kx_s_astore_n (j := 2) G rfl (by decide +kernel) (by decide) (kx_s_aload_n (j := 2) G rfl (by decide +kernel) (kx_s_aload_n (j := 0) G rfl (by decide +kernel) (kx_s_gR G kf_1_12 (by decide +kernel) (kx_s_pR (ty := .object "TaskDesk$Timer") G kf_1_18 rfl (by decide +kernel) rfl (by decide +kernel) (kx_s_aload_n (j := 0) G rfl (by decide +kernel) (kx_s_aload_n (j := 2) G rfl (by decide +kernel) (kx_s_pR (ty := .object "TaskDesk$Timer") G kf_1_12 rfl (by decide +kernel) rfl (by decide +kernel) (kx_s_iinc (n := 1) G (by decide +kernel) (by decide +kernel) (by decide) (kx_s_goto (off := -31) (tgt := 6) G (by decide +kernel) rfl (kx_s_nm (JS 6))))))))))))))))))
theorem sm_2 (X : kx_X p l e R s m args below meth c s0 D cA 3 ι0 h0 rr hf prog_2_method_1_code "TaskDesk$Agenda" C d (Option.none : Option Jvm.ClassFile.FieldType) "<init>" J) (b : Nat) : kx_Sn p l e R s m args below meth c s0 D cA 3 ι0 h0 rr hf b (bm_2 d C b J) := by
  unfold bm_2
  cases h0 : Nat.beq b 0 with
  | true => rw [Nat.eq_of_beq_eq_true h0]; exact sk_2_0 X
  | false =>
   cases h6 : Nat.beq b 6 with
   | true => rw [Nat.eq_of_beq_eq_true h6]; exact sk_2_6 X
   | false =>
    exact kx_s_no
/-! TaskDesk$Timer.<init>()V -/
def bk_3_0 (d : Nat) (C : kx_C) (J : Nat → kx_F) : kx_F := (kx_la 0 (kx_obj kx_rv))
def bm_3 (d : Nat) (C : kx_C) (b : Nat) (J : Nat → kx_F) : kx_F := bif Nat.beq b 0 then bk_3_0 d C J else fun _ _ _ => none
set_option maxRecDepth 20000 in
theorem sk_3_0 (X : kx_X p l e R s m args below meth c s0 D cA 1 ι0 h0 rr hf prog_8_method_1_code "TaskDesk$Timer" C d (Option.none : Option Jvm.ClassFile.FieldType) "<init>" J) : kx_Sn p l e R s m args below meth c s0 D cA 1 ι0 h0 rr hf 0 (bk_3_0 d C J) := by
  obtain ⟨G, CS, R9, O9, RT, NM, T0, FL, JS⟩ := X
  exact (kx_s_aload_n (j := 0) G rfl (by decide +kernel) (kx_s_obj G kw_140 kw_103 kw_104 (by have := R9.1; omega) (by have := R9.2; omega) (by decide +kernel) (kx_s_return G RT (by decide +kernel))))
theorem sm_3 (X : kx_X p l e R s m args below meth c s0 D cA 1 ι0 h0 rr hf prog_8_method_1_code "TaskDesk$Timer" C d (Option.none : Option Jvm.ClassFile.FieldType) "<init>" J) (b : Nat) : kx_Sn p l e R s m args below meth c s0 D cA 1 ι0 h0 rr hf b (bm_3 d C b J) := by
  unfold bm_3
  cases h0 : Nat.beq b 0 with
  | true => rw [Nat.eq_of_beq_eq_true h0]; exact sk_3_0 X
  | false =>
   exact kx_s_no
/-! TaskDesk$Channel.<init>(I)V -/
def bk_4_0 (d : Nat) (C : kx_C) (J : Nat → kx_F) : kx_F := (kx_la 0 (kx_obj (kx_la 0 (kx_new kx_cc kx_cs 5 3 (kx_dup (kx_Vv C 1 5 [] (kx_pR 2 1 5 (kx_la 0 (kx_new kx_cc kx_cs 5 3 (kx_dup (kx_Vv C 1 5 [] (kx_pR 2 2 5 (kx_la 0 (kx_li 1 (kx_pI 2 0 kx_rv)))))))))))))))
def bm_4 (d : Nat) (C : kx_C) (b : Nat) (J : Nat → kx_F) : kx_F := bif Nat.beq b 0 then bk_4_0 d C J else fun _ _ _ => none
set_option maxRecDepth 20000 in
theorem sk_4_0 (X : kx_X p l e R s m args below meth c s0 D cA 2 ι0 h0 rr hf prog_3_method_1_code "TaskDesk$Channel" C d (Option.none : Option Jvm.ClassFile.FieldType) "<init>" J) : kx_Sn p l e R s m args below meth c s0 D cA 2 ι0 h0 rr hf 0 (bk_4_0 d C J) := by
  obtain ⟨G, CS, R9, O9, RT, NM, T0, FL, JS⟩ := X
  exact (kx_s_aload_n (j := 0) G rfl (by decide +kernel) (kx_s_obj G kw_171 kw_103 kw_104 (by have := R9.1; omega) (by have := R9.2; omega) (by decide +kernel) (kx_s_aload_n (j := 0) G rfl (by decide +kernel) (kx_s_new G (r := kr_5) rfl (by decide) rfl ki_5 kt_y5 ky_5 kd_5 kw_172 kw_108 kw_81 (by decide +kernel) (kx_s_dup G (by decide +kernel) (kx_s_INv (n := 1) G kx_good CS R9 (O9 _) kc_1 rfl kw_173 kw_110 rfl rfl (by decide +kernel) (kx_s_pRF (ty := .object "TaskDesk$Row") G kf_2_10 rfl NM rfl (by decide +kernel) rfl (by decide +kernel) (kx_s_aload_n (j := 0) G rfl (by decide +kernel) (kx_s_new G (r := kr_5) rfl (by decide) rfl ki_5 kt_y5 ky_5 kd_5 kw_172 kw_108 kw_81 (by decide +kernel) (kx_s_dup G (by decide +kernel) (kx_s_INv (n := 1) G kx_good CS R9 (O9 _) kc_1 rfl kw_173 kw_110 rfl rfl (by decide +kernel) (kx_s_pRF (ty := .object "TaskDesk$Row") G kf_2_16 rfl NM rfl (by decide +kernel) rfl (by decide +kernel) (kx_s_aload_n (j := 0) G rfl (by decide +kernel) (kx_s_iload_n (j := 1) G rfl (by decide +kernel) (kx_s_pIF G kf_2_19 rfl NM rfl (by decide +kernel) (by decide +kernel) (kx_s_return G RT (by decide +kernel)))))))))))))))))
theorem sm_4 (X : kx_X p l e R s m args below meth c s0 D cA 2 ι0 h0 rr hf prog_3_method_1_code "TaskDesk$Channel" C d (Option.none : Option Jvm.ClassFile.FieldType) "<init>" J) (b : Nat) : kx_Sn p l e R s m args below meth c s0 D cA 2 ι0 h0 rr hf b (bm_4 d C b J) := by
  unfold bm_4
  cases h0 : Nat.beq b 0 with
  | true => rw [Nat.eq_of_beq_eq_true h0]; exact sk_4_0 X
  | false =>
   exact kx_s_no
/-! TaskDesk$Place.<init>(LTaskDesk$Channel;)V -/
def bk_5_0 (d : Nat) (C : kx_C) (J : Nat → kx_F) : kx_F := (kx_la 0 (kx_obj (kx_la 0 (kx_c (kx_i (-1)) (kx_pI 4 4 (kx_la 0 (kx_la 1 (kx_pR 4 1 2 kx_rv))))))))
def bm_5 (d : Nat) (C : kx_C) (b : Nat) (J : Nat → kx_F) : kx_F := bif Nat.beq b 0 then bk_5_0 d C J else fun _ _ _ => none
set_option maxRecDepth 20000 in
theorem sk_5_0 (X : kx_X p l e R s m args below meth c s0 D cA 2 ι0 h0 rr hf prog_5_method_1_code "TaskDesk$Place" C d (Option.none : Option Jvm.ClassFile.FieldType) "<init>" J) : kx_Sn p l e R s m args below meth c s0 D cA 2 ι0 h0 rr hf 0 (bk_5_0 d C J) := by
  obtain ⟨G, CS, R9, O9, RT, NM, T0, FL, JS⟩ := X
  exact (kx_s_aload_n (j := 0) G rfl (by decide +kernel) (kx_s_obj G kw_219 kw_103 kw_104 (by have := R9.1; omega) (by have := R9.2; omega) (by decide +kernel) (kx_s_aload_n (j := 0) G rfl (by decide +kernel) (kx_s_iconst (i := -1) G (by decide +kernel) (by decide +kernel) (kx_s_pI G kf_4_9 rfl (by decide +kernel) (by decide +kernel) (kx_s_aload_n (j := 0) G rfl (by decide +kernel) (kx_s_aload_n (j := 1) G rfl (by decide +kernel) (kx_s_pR (ty := .object "TaskDesk$Channel") G kf_4_15 rfl (by decide +kernel) rfl (by decide +kernel) (kx_s_return G RT (by decide +kernel))))))))))
theorem sm_5 (X : kx_X p l e R s m args below meth c s0 D cA 2 ι0 h0 rr hf prog_5_method_1_code "TaskDesk$Place" C d (Option.none : Option Jvm.ClassFile.FieldType) "<init>" J) (b : Nat) : kx_Sn p l e R s m args below meth c s0 D cA 2 ι0 h0 rr hf b (bm_5 d C b J) := by
  unfold bm_5
  cases h0 : Nat.beq b 0 with
  | true => rw [Nat.eq_of_beq_eq_true h0]; exact sk_5_0 X
  | false =>
   exact kx_s_no
/-! TaskDesk$Task.<init>(ILTaskDesk$Place;)V -/
def bk_6_0 (d : Nat) (C : kx_C) (J : Nat → kx_F) : kx_F := (kx_la 0 (kx_obj (kx_la 0 (kx_li 1 (kx_pI 6 0 (kx_la 0 (kx_la 2 (kx_pR 6 1 4 kx_rv))))))))
def bm_6 (d : Nat) (C : kx_C) (b : Nat) (J : Nat → kx_F) : kx_F := bif Nat.beq b 0 then bk_6_0 d C J else fun _ _ _ => none
set_option maxRecDepth 20000 in
theorem sk_6_0 (X : kx_X p l e R s m args below meth c s0 D cA 3 ι0 h0 rr hf prog_7_method_1_code "TaskDesk$Task" C d (Option.none : Option Jvm.ClassFile.FieldType) "<init>" J) : kx_Sn p l e R s m args below meth c s0 D cA 3 ι0 h0 rr hf 0 (bk_6_0 d C J) := by
  obtain ⟨G, CS, R9, O9, RT, NM, T0, FL, JS⟩ := X
  exact (kx_s_aload_n (j := 0) G rfl (by decide +kernel) (kx_s_obj G kw_260 kw_103 kw_104 (by have := R9.1; omega) (by have := R9.2; omega) (by decide +kernel) (kx_s_aload_n (j := 0) G rfl (by decide +kernel) (kx_s_iload_n (j := 1) G rfl (by decide +kernel) (kx_s_pIF G kf_6_9 rfl NM rfl (by decide +kernel) (by decide +kernel) (kx_s_aload_n (j := 0) G rfl (by decide +kernel) (kx_s_aload_n (j := 2) G rfl (by decide +kernel) (kx_s_pRF (ty := .object "TaskDesk$Place") G kf_6_15 rfl NM rfl (by decide +kernel) rfl (by decide +kernel) (kx_s_return G RT (by decide +kernel))))))))))
theorem sm_6 (X : kx_X p l e R s m args below meth c s0 D cA 3 ι0 h0 rr hf prog_7_method_1_code "TaskDesk$Task" C d (Option.none : Option Jvm.ClassFile.FieldType) "<init>" J) (b : Nat) : kx_Sn p l e R s m args below meth c s0 D cA 3 ι0 h0 rr hf b (bm_6 d C b J) := by
  unfold bm_6
  cases h0 : Nat.beq b 0 with
  | true => rw [Nat.eq_of_beq_eq_true h0]; exact sk_6_0 X
  | false =>
   exact kx_s_no
/-! TaskDesk$Gate.<init>(I)V -/
def bk_7_0 (d : Nat) (C : kx_C) (J : Nat → kx_F) : kx_F := (kx_la 0 (kx_obj (kx_la 0 (kx_new kx_cc kx_cs 5 3 (kx_dup (kx_Vv C 1 5 [] (kx_pR 3 1 5 (kx_la 0 (kx_new kx_cc kx_cs 5 3 (kx_dup (kx_Vv C 1 5 [] (kx_pR 3 2 5 (kx_la 0 (kx_li 1 (kx_pI 3 0 kx_rv)))))))))))))))
def bm_7 (d : Nat) (C : kx_C) (b : Nat) (J : Nat → kx_F) : kx_F := bif Nat.beq b 0 then bk_7_0 d C J else fun _ _ _ => none
set_option maxRecDepth 20000 in
theorem sk_7_0 (X : kx_X p l e R s m args below meth c s0 D cA 2 ι0 h0 rr hf prog_4_method_1_code "TaskDesk$Gate" C d (Option.none : Option Jvm.ClassFile.FieldType) "<init>" J) : kx_Sn p l e R s m args below meth c s0 D cA 2 ι0 h0 rr hf 0 (bk_7_0 d C J) := by
  obtain ⟨G, CS, R9, O9, RT, NM, T0, FL, JS⟩ := X
  exact (kx_s_aload_n (j := 0) G rfl (by decide +kernel) (kx_s_obj G kw_306 kw_103 kw_104 (by have := R9.1; omega) (by have := R9.2; omega) (by decide +kernel) (kx_s_aload_n (j := 0) G rfl (by decide +kernel) (kx_s_new G (r := kr_5) rfl (by decide) rfl ki_5 kt_y5 ky_5 kd_5 kw_307 kw_108 kw_81 (by decide +kernel) (kx_s_dup G (by decide +kernel) (kx_s_INv (n := 1) G kx_good CS R9 (O9 _) kc_1 rfl kw_308 kw_110 rfl rfl (by decide +kernel) (kx_s_pRF (ty := .object "TaskDesk$Row") G kf_3_12 rfl NM rfl (by decide +kernel) rfl (by decide +kernel) (kx_s_aload_n (j := 0) G rfl (by decide +kernel) (kx_s_new G (r := kr_5) rfl (by decide) rfl ki_5 kt_y5 ky_5 kd_5 kw_307 kw_108 kw_81 (by decide +kernel) (kx_s_dup G (by decide +kernel) (kx_s_INv (n := 1) G kx_good CS R9 (O9 _) kc_1 rfl kw_308 kw_110 rfl rfl (by decide +kernel) (kx_s_pRF (ty := .object "TaskDesk$Row") G kf_3_18 rfl NM rfl (by decide +kernel) rfl (by decide +kernel) (kx_s_aload_n (j := 0) G rfl (by decide +kernel) (kx_s_iload_n (j := 1) G rfl (by decide +kernel) (kx_s_pIF G kf_3_21 rfl NM rfl (by decide +kernel) (by decide +kernel) (kx_s_return G RT (by decide +kernel)))))))))))))))))
theorem sm_7 (X : kx_X p l e R s m args below meth c s0 D cA 2 ι0 h0 rr hf prog_4_method_1_code "TaskDesk$Gate" C d (Option.none : Option Jvm.ClassFile.FieldType) "<init>" J) (b : Nat) : kx_Sn p l e R s m args below meth c s0 D cA 2 ι0 h0 rr hf b (bm_7 d C b J) := by
  unfold bm_7
  cases h0 : Nat.beq b 0 with
  | true => rw [Nat.eq_of_beq_eq_true h0]; exact sk_7_0 X
  | false =>
   exact kx_s_no
/-! TaskDesk$Value.<init>()V -/
def bk_8_0 (d : Nat) (C : kx_C) (J : Nat → kx_F) : kx_F := (kx_la 0 (kx_obj kx_rv))
def bm_8 (d : Nat) (C : kx_C) (b : Nat) (J : Nat → kx_F) : kx_F := bif Nat.beq b 0 then bk_8_0 d C J else fun _ _ _ => none
set_option maxRecDepth 20000 in
theorem sk_8_0 (X : kx_X p l e R s m args below meth c s0 D cA 1 ι0 h0 rr hf prog_9_method_1_code "TaskDesk$Value" C d (Option.none : Option Jvm.ClassFile.FieldType) "<init>" J) : kx_Sn p l e R s m args below meth c s0 D cA 1 ι0 h0 rr hf 0 (bk_8_0 d C J) := by
  obtain ⟨G, CS, R9, O9, RT, NM, T0, FL, JS⟩ := X
  exact (kx_s_aload_n (j := 0) G rfl (by decide +kernel) (kx_s_obj G kw_338 kw_103 kw_104 (by have := R9.1; omega) (by have := R9.2; omega) (by decide +kernel) (kx_s_return G RT (by decide +kernel))))
theorem sm_8 (X : kx_X p l e R s m args below meth c s0 D cA 1 ι0 h0 rr hf prog_9_method_1_code "TaskDesk$Value" C d (Option.none : Option Jvm.ClassFile.FieldType) "<init>" J) (b : Nat) : kx_Sn p l e R s m args below meth c s0 D cA 1 ι0 h0 rr hf b (bm_8 d C b J) := by
  unfold bm_8
  cases h0 : Nat.beq b 0 with
  | true => rw [Nat.eq_of_beq_eq_true h0]; exact sk_8_0 X
  | false =>
   exact kx_s_no
/-! TaskDesk$Task.begin()V -/
def bk_11_0 (d : Nat) (C : kx_C) (J : Nat → kx_F) : kx_F := (kx_la 0 (kx_c (kx_i 1) (kx_pB 6 2 (kx_la 0 (kx_c (kx_i (-1)) (kx_pI 6 4 (kx_la 0 (kx_c (kx_l 0) (kx_c (kx_i 0) (kx_c (kx_i (-1)) (kx_c (kx_i 0) (kx_Vv C 12 6 [1, 0, 0, 0] kx_rv))))))))))))
def bm_11 (d : Nat) (C : kx_C) (b : Nat) (J : Nat → kx_F) : kx_F := bif Nat.beq b 0 then bk_11_0 d C J else fun _ _ _ => none
set_option maxRecDepth 20000 in
theorem sk_11_0 (X : kx_X p l e R s m args below meth c s0 D cA 1 ι0 h0 rr hf prog_7_method_2_code "TaskDesk$Task" C d (Option.none : Option Jvm.ClassFile.FieldType) "begin" J) : kx_Sn p l e R s m args below meth c s0 D cA 1 ι0 h0 rr hf 0 (bk_11_0 d C J) := by
  obtain ⟨G, CS, R9, O9, RT, NM, T0, FL, JS⟩ := X
  exact (kx_s_aload_n (j := 0) G rfl (by decide +kernel) (kx_s_iconst (i := 1) G (by decide +kernel) (by decide +kernel) (kx_s_pB G kf_6_19 rfl (by decide +kernel) (by decide +kernel) (kx_s_aload_n (j := 0) G rfl (by decide +kernel) (kx_s_iconst (i := -1) G (by decide +kernel) (by decide +kernel) (kx_s_pI G kf_6_23 rfl (by decide +kernel) (by decide +kernel) (kx_s_aload_n (j := 0) G rfl (by decide +kernel) (kx_s_lconst (i := 0) G (by decide +kernel) (by decide +kernel) (kx_s_iconst (i := 0) G (by decide +kernel) (by decide +kernel) (kx_s_iconst (i := -1) G (by decide +kernel) (by decide +kernel) (kx_s_iconst (i := 0) G (by decide +kernel) (by decide +kernel) (kx_s_Vv (n := 12) G kx_good CS R9 (O9 _) kc_12 rfl kw_359 kw_360 kw_361 (r := kr_6) rfl (by decide) (by decide +kernel) (kx_s_return G RT (by decide +kernel))))))))))))))
theorem sm_11 (X : kx_X p l e R s m args below meth c s0 D cA 1 ι0 h0 rr hf prog_7_method_2_code "TaskDesk$Task" C d (Option.none : Option Jvm.ClassFile.FieldType) "begin" J) (b : Nat) : kx_Sn p l e R s m args below meth c s0 D cA 1 ι0 h0 rr hf b (bm_11 d C b J) := by
  unfold bm_11
  cases h0 : Nat.beq b 0 with
  | true => rw [Nat.eq_of_beq_eq_true h0]; exact sk_11_0 X
  | false =>
   exact kx_s_no
/-! TaskDesk$Task.tell(JZIZ)V -/
def bk_12_0 (d : Nat) (C : kx_C) (J : Nat → kx_F) : kx_F := (kx_la 0 (kx_ll 1 (kx_pL 6 6 (kx_la 0 (kx_li 3 (kx_pB 6 7 (kx_la 0 (kx_li 4 (kx_pI 6 8 (kx_la 0 (kx_li 5 (kx_pB 6 9 kx_rv))))))))))))
def bm_12 (d : Nat) (C : kx_C) (b : Nat) (J : Nat → kx_F) : kx_F := bif Nat.beq b 0 then bk_12_0 d C J else fun _ _ _ => none
set_option maxRecDepth 20000 in
theorem sk_12_0 (X : kx_X p l e R s m args below meth c s0 D cA 6 ι0 h0 rr hf prog_7_method_3_code "TaskDesk$Task" C d (Option.none : Option Jvm.ClassFile.FieldType) "tell" J) : kx_Sn p l e R s m args below meth c s0 D cA 6 ι0 h0 rr hf 0 (bk_12_0 d C J) := by
  obtain ⟨G, CS, R9, O9, RT, NM, T0, FL, JS⟩ := X
  exact (kx_s_aload_n (j := 0) G rfl (by decide +kernel) (kx_s_lload_n (j := 1) G rfl (by decide +kernel) (kx_s_pL G kf_6_30 rfl (by decide +kernel) (by decide +kernel) (kx_s_aload_n (j := 0) G rfl (by decide +kernel) (kx_s_iload_n (j := 3) G rfl (by decide +kernel) (kx_s_pB G kf_6_34 rfl (by decide +kernel) (by decide +kernel) (kx_s_aload_n (j := 0) G rfl (by decide +kernel) (kx_s_iload G (by decide +kernel) (kx_s_pI G kf_6_37 rfl (by decide +kernel) (by decide +kernel) (kx_s_aload_n (j := 0) G rfl (by decide +kernel) (kx_s_iload G (by decide +kernel) (kx_s_pB G kf_6_40 rfl (by decide +kernel) (by decide +kernel) (kx_s_return G RT (by decide +kernel))))))))))))))
theorem sm_12 (X : kx_X p l e R s m args below meth c s0 D cA 6 ι0 h0 rr hf prog_7_method_3_code "TaskDesk$Task" C d (Option.none : Option Jvm.ClassFile.FieldType) "tell" J) (b : Nat) : kx_Sn p l e R s m args below meth c s0 D cA 6 ι0 h0 rr hf b (bm_12 d C b J) := by
  unfold bm_12
  cases h0 : Nat.beq b 0 with
  | true => rw [Nat.eq_of_beq_eq_true h0]; exact sk_12_0 X
  | false =>
   exact kx_s_no
/-! TaskDesk$Channel.isAwaited()Z -/
def bk_15_0 (d : Nat) (C : kx_C) (J : Nat → kx_F) : kx_F := (kx_la 0 (kx_gR 2 1 5 (kx_gI 5 2 (kx_ifgt (kx_nm [] (J 27)) (kx_la 0 (kx_gR 2 2 5 (kx_gI 5 2 (kx_ifgt (kx_nm [] (J 27)) (kx_la 0 (kx_gI 2 7 (kx_ifle (kx_c (kx_i 0) (kx_nm [] (J 32))) (kx_nm [] (J 27)))))))))))))
def bk_15_27 (d : Nat) (C : kx_C) (J : Nat → kx_F) : kx_F := (kx_c (kx_i 1) (kx_nm [] (J 32)))
def bk_15_32 (d : Nat) (C : kx_C) (J : Nat → kx_F) : kx_F := kx_rz
def bm_15 (d : Nat) (C : kx_C) (b : Nat) (J : Nat → kx_F) : kx_F := bif Nat.beq b 0 then bk_15_0 d C J else bif Nat.beq b 27 then bk_15_27 d C J else bif Nat.beq b 32 then bk_15_32 d C J else fun _ _ _ => none
set_option maxRecDepth 20000 in
theorem sk_15_0 (X : kx_X p l e R s m args below meth c s0 D cA 1 ι0 h0 rr hf prog_3_method_2_code "TaskDesk$Channel" C d (Option.some Jvm.ClassFile.FieldType.boolean) "isAwaited" J) : kx_Sn p l e R s m args below meth c s0 D cA 1 ι0 h0 rr hf 0 (bk_15_0 d C J) := by
  obtain ⟨G, CS, R9, O9, RT, NM, T0, FL, JS⟩ := X
  exact (kx_s_aload_n (j := 0) G rfl (by decide +kernel) (kx_s_gR G kf_2_10 (by decide +kernel) (kx_s_gI G kf_2_23 (by decide +kernel) (kx_s_ifgt (off := 20) (tgt := 27) G (by decide +kernel) rfl (kx_s_nm (JS 27)) (kx_s_aload_n (j := 0) G rfl (by decide +kernel) (kx_s_gR G kf_2_16 (by decide +kernel) (kx_s_gI G kf_2_23 (by decide +kernel) (kx_s_ifgt (off := 10) (tgt := 27) G (by decide +kernel) rfl (kx_s_nm (JS 27)) (kx_s_aload_n (j := 0) G rfl (by decide +kernel) (kx_s_gI G kf_2_26 (by decide +kernel) (kx_s_ifle (off := 7) (tgt := 31) G (by decide +kernel) rfl (kx_s_iconst (i := 0) G (by decide +kernel) (by decide +kernel) (kx_s_nm (JS 32))) (kx_s_nm (JS 27)))))))))))))
set_option maxRecDepth 20000 in
theorem sk_15_27 (X : kx_X p l e R s m args below meth c s0 D cA 1 ι0 h0 rr hf prog_3_method_2_code "TaskDesk$Channel" C d (Option.some Jvm.ClassFile.FieldType.boolean) "isAwaited" J) : kx_Sn p l e R s m args below meth c s0 D cA 1 ι0 h0 rr hf 27 (bk_15_27 d C J) := by
  obtain ⟨G, CS, R9, O9, RT, NM, T0, FL, JS⟩ := X
  exact (kx_s_iconst (i := 1) G (by decide +kernel) (by decide +kernel) (kx_s_goto (off := 4) (tgt := 32) G (by decide +kernel) rfl (kx_s_nm (JS 32))))
set_option maxRecDepth 20000 in
theorem sk_15_32 (X : kx_X p l e R s m args below meth c s0 D cA 1 ι0 h0 rr hf prog_3_method_2_code "TaskDesk$Channel" C d (Option.some Jvm.ClassFile.FieldType.boolean) "isAwaited" J) : kx_Sn p l e R s m args below meth c s0 D cA 1 ι0 h0 rr hf 32 (bk_15_32 d C J) := by
  obtain ⟨G, CS, R9, O9, RT, NM, T0, FL, JS⟩ := X
  exact (kx_s_zreturn G RT (by decide +kernel))
theorem sm_15 (X : kx_X p l e R s m args below meth c s0 D cA 1 ι0 h0 rr hf prog_3_method_2_code "TaskDesk$Channel" C d (Option.some Jvm.ClassFile.FieldType.boolean) "isAwaited" J) (b : Nat) : kx_Sn p l e R s m args below meth c s0 D cA 1 ι0 h0 rr hf b (bm_15 d C b J) := by
  unfold bm_15
  cases h0 : Nat.beq b 0 with
  | true => rw [Nat.eq_of_beq_eq_true h0]; exact sk_15_0 X
  | false =>
   cases h27 : Nat.beq b 27 with
   | true => rw [Nat.eq_of_beq_eq_true h27]; exact sk_15_27 X
   | false =>
    cases h32 : Nat.beq b 32 with
    | true => rw [Nat.eq_of_beq_eq_true h32]; exact sk_15_32 X
    | false =>
     exact kx_s_no
/-! TaskDesk$Channel.removeFirst()V -/
def bk_18_0 (d : Nat) (C : kx_C) (J : Nat → kx_F) : kx_F := (kx_la 0 (kx_gR 2 8 8 (kx_nnul (kx_la 0 (kx_la 0 (kx_gR 2 8 8 (kx_gR 8 1 8 (kx_pR 2 8 8 (kx_la 0 (kx_gR 2 8 8 (kx_nnul (kx_nm [0] (J 31)) (kx_la 0 (kx_c (kx_r 8 none) (kx_pR 2 9 8 (kx_nm [0] (J 31))))))))))))) kx_rv)))
def bk_18_31 (d : Nat) (C : kx_C) (J : Nat → kx_F) : kx_F := (kx_la 0 (kx_dup (kx_gI 2 6 (kx_c (kx_i 1) (kx_ii (fun x y => x - y) (kx_pI 2 6 kx_rv))))))
def bm_18 (d : Nat) (C : kx_C) (b : Nat) (J : Nat → kx_F) : kx_F := bif Nat.beq b 0 then bk_18_0 d C J else bif Nat.beq b 31 then bk_18_31 d C J else fun _ _ _ => none
set_option maxRecDepth 20000 in
theorem sk_18_0 (X : kx_X p l e R s m args below meth c s0 D cA 1 ι0 h0 rr hf prog_3_method_4_code "TaskDesk$Channel" C d (Option.none : Option Jvm.ClassFile.FieldType) "removeFirst" J) : kx_Sn p l e R s m args below meth c s0 D cA 1 ι0 h0 rr hf 0 (bk_18_0 d C J) := by
  obtain ⟨G, CS, R9, O9, RT, NM, T0, FL, JS⟩ := X
  exact (kx_s_aload_n (j := 0) G rfl (by decide +kernel) (kx_s_gR G kf_2_38 (by decide +kernel) (kx_s_ifnonnull (off := 4) (tgt := 8) G (by decide +kernel) rfl (kx_s_aload_n (j := 0) G rfl (by decide +kernel) (kx_s_aload_n (j := 0) G rfl (by decide +kernel) (kx_s_gR G kf_2_38 (by decide +kernel) (kx_s_gR G kf_2_29 (by decide +kernel) (kx_s_pR (ty := .object "TaskDesk$Value") G kf_2_38 rfl (by decide +kernel) rfl (by decide +kernel) (kx_s_aload_n (j := 0) G rfl (by decide +kernel) (kx_s_gR G kf_2_38 (by decide +kernel) (kx_s_ifnonnull (off := 8) (tgt := 31) G (by decide +kernel) rfl (kx_s_nm (JS 31)) (kx_s_aload_n (j := 0) G rfl (by decide +kernel) (kx_s_null G (by decide +kernel) (kx_s_pR (ty := .object "TaskDesk$Value") G kf_2_35 rfl (by decide +kernel) rfl (by decide +kernel) (kx_s_nm (JS 31))))))))))))) (kx_s_return G RT (by decide +kernel)))))
set_option maxRecDepth 20000 in
theorem sk_18_31 (X : kx_X p l e R s m args below meth c s0 D cA 1 ι0 h0 rr hf prog_3_method_4_code "TaskDesk$Channel" C d (Option.none : Option Jvm.ClassFile.FieldType) "removeFirst" J) : kx_Sn p l e R s m args below meth c s0 D cA 1 ι0 h0 rr hf 31 (bk_18_31 d C J) := by
  obtain ⟨G, CS, R9, O9, RT, NM, T0, FL, JS⟩ := X
  exact (kx_s_aload_n (j := 0) G rfl (by decide +kernel) (kx_s_dup G (by decide +kernel) (kx_s_gI G kf_2_41 (by decide +kernel) (kx_s_iconst (i := 1) G (by decide +kernel) (by decide +kernel) (kx_s_isub G (by decide +kernel) (kx_s_pI G kf_2_41 rfl (by decide +kernel) (by decide +kernel) (kx_s_return G RT (by decide +kernel))))))))
theorem sm_18 (X : kx_X p l e R s m args below meth c s0 D cA 1 ι0 h0 rr hf prog_3_method_4_code "TaskDesk$Channel" C d (Option.none : Option Jvm.ClassFile.FieldType) "removeFirst" J) (b : Nat) : kx_Sn p l e R s m args below meth c s0 D cA 1 ι0 h0 rr hf b (bm_18 d C b J) := by
  unfold bm_18
  cases h0 : Nat.beq b 0 with
  | true => rw [Nat.eq_of_beq_eq_true h0]; exact sk_18_0 X
  | false =>
   cases h31 : Nat.beq b 31 with
   | true => rw [Nat.eq_of_beq_eq_true h31]; exact sk_18_31 X
   | false =>
    exact kx_s_no
/-! TaskDesk$Task.waitIn(LTaskDesk$Row;II)V -/
def bk_27_0 (d : Nat) (C : kx_C) (J : Nat → kx_F) : kx_F := (kx_la 0 (kx_li 2 (kx_pI 6 3 (kx_la 0 (kx_li 3 (kx_pI 6 4 (kx_la 1 (kx_la 0 (kx_gR 6 1 4 (kx_Vv C 28 5 [6] kx_rv))))))))))
def bm_27 (d : Nat) (C : kx_C) (b : Nat) (J : Nat → kx_F) : kx_F := bif Nat.beq b 0 then bk_27_0 d C J else fun _ _ _ => none
set_option maxRecDepth 20000 in
theorem sk_27_0 (X : kx_X p l e R s m args below meth c s0 D cA 4 ι0 h0 rr hf prog_7_method_4_code "TaskDesk$Task" C d (Option.none : Option Jvm.ClassFile.FieldType) "waitIn" J) : kx_Sn p l e R s m args below meth c s0 D cA 4 ι0 h0 rr hf 0 (bk_27_0 d C J) := by
  obtain ⟨G, CS, R9, O9, RT, NM, T0, FL, JS⟩ := X
  exact (kx_s_aload_n (j := 0) G rfl (by decide +kernel) (kx_s_iload_n (j := 2) G rfl (by decide +kernel) (kx_s_pI G kf_6_43 rfl (by decide +kernel) (by decide +kernel) (kx_s_aload_n (j := 0) G rfl (by decide +kernel) (kx_s_iload_n (j := 3) G rfl (by decide +kernel) (kx_s_pI G kf_6_23 rfl (by decide +kernel) (by decide +kernel) (kx_s_aload_n (j := 1) G rfl (by decide +kernel) (kx_s_aload_n (j := 0) G rfl (by decide +kernel) (kx_s_gR G kf_6_15 (by decide +kernel) (kx_s_Vv (n := 28) G kx_good CS R9 (O9 _) kc_28 rfl kw_552 kw_553 kw_554 (r := kr_5) rfl (by decide) (by decide +kernel) (kx_s_return G RT (by decide +kernel))))))))))))
theorem sm_27 (X : kx_X p l e R s m args below meth c s0 D cA 4 ι0 h0 rr hf prog_7_method_4_code "TaskDesk$Task" C d (Option.none : Option Jvm.ClassFile.FieldType) "waitIn" J) (b : Nat) : kx_Sn p l e R s m args below meth c s0 D cA 4 ι0 h0 rr hf b (bm_27 d C b J) := by
  unfold bm_27
  cases h0 : Nat.beq b 0 with
  | true => rw [Nat.eq_of_beq_eq_true h0]; exact sk_27_0 X
  | false =>
   exact kx_s_no
/-! TaskDesk$Row.append(LTaskDesk$Place;)V -/
def bk_28_0 (d : Nat) (C : kx_C) (J : Nat → kx_F) : kx_F := (kx_la 1 (kx_la 0 (kx_pR 4 5 5 (kx_la 1 (kx_la 0 (kx_gR 5 1 4 (kx_pR 4 6 4 (kx_la 0 (kx_gR 5 1 4 (kx_nnul (kx_la 0 (kx_gR 5 1 4 (kx_la 1 (kx_pR 4 7 4 (kx_nm [0, 1] (J 36)))))) (kx_la 0 (kx_la 1 (kx_pR 5 0 4 (kx_nm [0, 1] (J 36)))))))))))))))
def bk_28_36 (d : Nat) (C : kx_C) (J : Nat → kx_F) : kx_F := (kx_la 0 (kx_la 1 (kx_pR 5 1 4 (kx_la 0 (kx_dup (kx_gI 5 2 (kx_c (kx_i 1) (kx_ii (fun x y => x + y) (kx_pI 5 2 kx_rv)))))))))
def bm_28 (d : Nat) (C : kx_C) (b : Nat) (J : Nat → kx_F) : kx_F := bif Nat.beq b 0 then bk_28_0 d C J else bif Nat.beq b 36 then bk_28_36 d C J else fun _ _ _ => none
set_option maxRecDepth 20000 in
theorem sk_28_0 (X : kx_X p l e R s m args below meth c s0 D cA 2 ι0 h0 rr hf prog_6_method_2_code "TaskDesk$Row" C d (Option.none : Option Jvm.ClassFile.FieldType) "append" J) : kx_Sn p l e R s m args below meth c s0 D cA 2 ι0 h0 rr hf 0 (bk_28_0 d C J) := by
  obtain ⟨G, CS, R9, O9, RT, NM, T0, FL, JS⟩ := X
  exact (kx_s_aload_n (j := 1) G rfl (by decide +kernel) (kx_s_aload_n (j := 0) G rfl (by decide +kernel) (kx_s_pR (ty := .object "TaskDesk$Row") G kf_5_7 rfl (by decide +kernel) rfl (by decide +kernel) (kx_s_aload_n (j := 1) G rfl (by decide +kernel) (kx_s_aload_n (j := 0) G rfl (by decide +kernel) (kx_s_gR G kf_5_13 (by decide +kernel) (kx_s_pR (ty := .object "TaskDesk$Place") G kf_5_19 rfl (by decide +kernel) rfl (by decide +kernel) (kx_s_aload_n (j := 0) G rfl (by decide +kernel) (kx_s_gR G kf_5_13 (by decide +kernel) (kx_s_ifnonnull (off := 11) (tgt := 28) G (by decide +kernel) rfl (kx_s_aload_n (j := 0) G rfl (by decide +kernel) (kx_s_gR G kf_5_13 (by decide +kernel) (kx_s_aload_n (j := 1) G rfl (by decide +kernel) (kx_s_pR (ty := .object "TaskDesk$Place") G kf_5_25 rfl (by decide +kernel) rfl (by decide +kernel) (kx_s_nm (JS 36)))))) (kx_s_aload_n (j := 0) G rfl (by decide +kernel) (kx_s_aload_n (j := 1) G rfl (by decide +kernel) (kx_s_pR (ty := .object "TaskDesk$Place") G kf_5_22 rfl (by decide +kernel) rfl (by decide +kernel) (kx_s_goto (off := 11) (tgt := 36) G (by decide +kernel) rfl (kx_s_nm (JS 36))))))))))))))))
set_option maxRecDepth 20000 in
theorem sk_28_36 (X : kx_X p l e R s m args below meth c s0 D cA 2 ι0 h0 rr hf prog_6_method_2_code "TaskDesk$Row" C d (Option.none : Option Jvm.ClassFile.FieldType) "append" J) : kx_Sn p l e R s m args below meth c s0 D cA 2 ι0 h0 rr hf 36 (bk_28_36 d C J) := by
  obtain ⟨G, CS, R9, O9, RT, NM, T0, FL, JS⟩ := X
  exact (kx_s_aload_n (j := 0) G rfl (by decide +kernel) (kx_s_aload_n (j := 1) G rfl (by decide +kernel) (kx_s_pR (ty := .object "TaskDesk$Place") G kf_5_13 rfl (by decide +kernel) rfl (by decide +kernel) (kx_s_aload_n (j := 0) G rfl (by decide +kernel) (kx_s_dup G (by decide +kernel) (kx_s_gI G kf_5_28 (by decide +kernel) (kx_s_iconst (i := 1) G (by decide +kernel) (by decide +kernel) (kx_s_iadd G (by decide +kernel) (kx_s_pI G kf_5_28 rfl (by decide +kernel) (by decide +kernel) (kx_s_return G RT (by decide +kernel)))))))))))
theorem sm_28 (X : kx_X p l e R s m args below meth c s0 D cA 2 ι0 h0 rr hf prog_6_method_2_code "TaskDesk$Row" C d (Option.none : Option Jvm.ClassFile.FieldType) "append" J) (b : Nat) : kx_Sn p l e R s m args below meth c s0 D cA 2 ι0 h0 rr hf b (bm_28 d C b J) := by
  unfold bm_28
  cases h0 : Nat.beq b 0 with
  | true => rw [Nat.eq_of_beq_eq_true h0]; exact sk_28_0 X
  | false =>
   cases h36 : Nat.beq b 36 with
   | true => rw [Nat.eq_of_beq_eq_true h36]; exact sk_28_36 X
   | false =>
    exact kx_s_no
/-! TaskDesk$Agenda.takeFirst()LTaskDesk$Timer; -/
def bk_31_0 (d : Nat) (C : kx_C) (J : Nat → kx_F) : kx_F := (kx_la 0 (kx_gR 1 0 7 (kx_sa 1 (kx_la 1 (kx_nul (kx_nm [1] (J 30)) (kx_la 0 (kx_la 1 (kx_gR 7 3 7 (kx_pR 1 0 7 (kx_la 1 (kx_la 0 (kx_gR 1 1 7 (kx_pR 7 3 7 (kx_la 0 (kx_la 1 (kx_pR 1 1 7 (kx_nm [1] (J 30))))))))))))))))))
def bk_31_30 (d : Nat) (C : kx_C) (J : Nat → kx_F) : kx_F := (kx_la 1 kx_rr)
def bm_31 (d : Nat) (C : kx_C) (b : Nat) (J : Nat → kx_F) : kx_F := bif Nat.beq b 0 then bk_31_0 d C J else bif Nat.beq b 30 then bk_31_30 d C J else fun _ _ _ => none
set_option maxRecDepth 20000 in
theorem sk_31_0 (X : kx_X p l e R s m args below meth c s0 D cA 2 ι0 h0 rr hf prog_2_method_4_code "TaskDesk$Agenda" C d (Option.some (Jvm.ClassFile.FieldType.object "TaskDesk$Timer")) "takeFirst" J) : kx_Sn p l e R s m args below meth c s0 D cA 2 ι0 h0 rr hf 0 (bk_31_0 d C J) := by
  obtain ⟨G, CS, R9, O9, RT, NM, T0, FL, JS⟩ := X
  exact (kx_s_aload_n (j := 0) G rfl (by decide +kernel) (kx_s_gR G kf_1_37 (by decide +kernel) (kx_s_astore_n (j := 1) G rfl (by decide +kernel) (by decide) (kx_s_aload_n (j := 1) G rfl (by decide +kernel) (kx_s_ifnull (off := 24) (tgt := 30) G (by decide +kernel) rfl (kx_s_nm (JS 30)) (kx_s_aload_n (j := 0) G rfl (by decide +kernel) (kx_s_aload_n (j := 1) G rfl (by decide +kernel) (kx_s_gR G kf_1_18 (by decide +kernel) (kx_s_pR (ty := .object "TaskDesk$Timer") G kf_1_37 rfl (by decide +kernel) rfl (by decide +kernel) (kx_s_aload_n (j := 1) G rfl (by decide +kernel) (kx_s_aload_n (j := 0) G rfl (by decide +kernel) (kx_s_gR G kf_1_12 (by decide +kernel) (kx_s_pR (ty := .object "TaskDesk$Timer") G kf_1_18 rfl (by decide +kernel) rfl (by decide +kernel) (kx_s_aload_n (j := 0) G rfl (by decide +kernel) (kx_s_aload_n (j := 1) G rfl (by decide +kernel) (kx_s_pR (ty := .object "TaskDesk$Timer") G kf_1_12 rfl (by decide +kernel) rfl (by decide +kernel) (kx_s_nm (JS 30))))))))))))))))))
set_option maxRecDepth 20000 in
theorem sk_31_30 (X : kx_X p l e R s m args below meth c s0 D cA 2 ι0 h0 rr hf prog_2_method_4_code "TaskDesk$Agenda" C d (Option.some (Jvm.ClassFile.FieldType.object "TaskDesk$Timer")) "takeFirst" J) : kx_Sn p l e R s m args below meth c s0 D cA 2 ι0 h0 rr hf 30 (bk_31_30 d C J) := by
  obtain ⟨G, CS, R9, O9, RT, NM, T0, FL, JS⟩ := X
  exact (kx_s_aload_n (j := 1) G rfl (by decide +kernel) (kx_s_areturn G RT (by decide +kernel)))
theorem sm_31 (X : kx_X p l e R s m args below meth c s0 D cA 2 ι0 h0 rr hf prog_2_method_4_code "TaskDesk$Agenda" C d (Option.some (Jvm.ClassFile.FieldType.object "TaskDesk$Timer")) "takeFirst" J) (b : Nat) : kx_Sn p l e R s m args below meth c s0 D cA 2 ι0 h0 rr hf b (bm_31 d C b J) := by
  unfold bm_31
  cases h0 : Nat.beq b 0 with
  | true => rw [Nat.eq_of_beq_eq_true h0]; exact sk_31_0 X
  | false =>
   cases h30 : Nat.beq b 30 with
   | true => rw [Nat.eq_of_beq_eq_true h30]; exact sk_31_30 X
   | false =>
    exact kx_s_no
/-! TaskDesk$Place.stepOut()V -/
def bk_37_0 (d : Nat) (C : kx_C) (J : Nat → kx_F) : kx_F := (kx_la 0 (kx_gR 4 5 5 (kx_nnul (kx_la 0 (kx_gR 4 6 4 (kx_nnul (kx_la 0 (kx_gR 4 6 4 (kx_la 0 (kx_gR 4 7 4 (kx_pR 4 7 4 (kx_nm [0] (J 40))))))) (kx_la 0 (kx_gR 4 5 5 (kx_la 0 (kx_gR 4 7 4 (kx_pR 5 0 4 (kx_nm [0] (J 40)))))))))) kx_rv)))
def bk_37_40 (d : Nat) (C : kx_C) (J : Nat → kx_F) : kx_F := (kx_la 0 (kx_gR 4 7 4 (kx_nnul (kx_la 0 (kx_gR 4 7 4 (kx_la 0 (kx_gR 4 6 4 (kx_pR 4 6 4 (kx_nm [0] (J 72))))))) (kx_la 0 (kx_gR 4 5 5 (kx_la 0 (kx_gR 4 6 4 (kx_pR 5 1 4 (kx_nm [0] (J 72))))))))))
def bk_37_72 (d : Nat) (C : kx_C) (J : Nat → kx_F) : kx_F := (kx_la 0 (kx_gR 4 5 5 (kx_dup (kx_gI 5 2 (kx_c (kx_i 1) (kx_ii (fun x y => x - y) (kx_pI 5 2 (kx_la 0 (kx_c (kx_r 5 none) (kx_pR 4 5 5 (kx_la 0 (kx_c (kx_r 4 none) (kx_pR 4 6 4 (kx_la 0 (kx_c (kx_r 4 none) (kx_pR 4 7 4 kx_rv))))))))))))))))
def bm_37 (d : Nat) (C : kx_C) (b : Nat) (J : Nat → kx_F) : kx_F := bif Nat.beq b 0 then bk_37_0 d C J else bif Nat.beq b 40 then bk_37_40 d C J else bif Nat.beq b 72 then bk_37_72 d C J else fun _ _ _ => none
set_option maxRecDepth 20000 in
theorem sk_37_0 (X : kx_X p l e R s m args below meth c s0 D cA 1 ι0 h0 rr hf prog_5_method_2_code "TaskDesk$Place" C d (Option.none : Option Jvm.ClassFile.FieldType) "stepOut" J) : kx_Sn p l e R s m args below meth c s0 D cA 1 ι0 h0 rr hf 0 (bk_37_0 d C J) := by
  obtain ⟨G, CS, R9, O9, RT, NM, T0, FL, JS⟩ := X
  exact (kx_s_aload_n (j := 0) G rfl (by decide +kernel) (kx_s_gR G kf_4_19 (by decide +kernel) (kx_s_ifnonnull (off := 4) (tgt := 8) G (by decide +kernel) rfl (kx_s_aload_n (j := 0) G rfl (by decide +kernel) (kx_s_gR G kf_4_23 (by decide +kernel) (kx_s_ifnonnull (off := 17) (tgt := 29) G (by decide +kernel) rfl (kx_s_aload_n (j := 0) G rfl (by decide +kernel) (kx_s_gR G kf_4_23 (by decide +kernel) (kx_s_aload_n (j := 0) G rfl (by decide +kernel) (kx_s_gR G kf_4_27 (by decide +kernel) (kx_s_pR (ty := .object "TaskDesk$Place") G kf_4_27 rfl (by decide +kernel) rfl (by decide +kernel) (kx_s_nm (JS 40))))))) (kx_s_aload_n (j := 0) G rfl (by decide +kernel) (kx_s_gR G kf_4_19 (by decide +kernel) (kx_s_aload_n (j := 0) G rfl (by decide +kernel) (kx_s_gR G kf_4_27 (by decide +kernel) (kx_s_pR (ty := .object "TaskDesk$Place") G kf_4_30 rfl (by decide +kernel) rfl (by decide +kernel) (kx_s_goto (off := 14) (tgt := 40) G (by decide +kernel) rfl (kx_s_nm (JS 40))))))))))) (kx_s_return G RT (by decide +kernel)))))
set_option maxRecDepth 20000 in
theorem sk_37_40 (X : kx_X p l e R s m args below meth c s0 D cA 1 ι0 h0 rr hf prog_5_method_2_code "TaskDesk$Place" C d (Option.none : Option Jvm.ClassFile.FieldType) "stepOut" J) : kx_Sn p l e R s m args below meth c s0 D cA 1 ι0 h0 rr hf 40 (bk_37_40 d C J) := by
  obtain ⟨G, CS, R9, O9, RT, NM, T0, FL, JS⟩ := X
  exact (kx_s_aload_n (j := 0) G rfl (by decide +kernel) (kx_s_gR G kf_4_27 (by decide +kernel) (kx_s_ifnonnull (off := 17) (tgt := 61) G (by decide +kernel) rfl (kx_s_aload_n (j := 0) G rfl (by decide +kernel) (kx_s_gR G kf_4_27 (by decide +kernel) (kx_s_aload_n (j := 0) G rfl (by decide +kernel) (kx_s_gR G kf_4_23 (by decide +kernel) (kx_s_pR (ty := .object "TaskDesk$Place") G kf_4_23 rfl (by decide +kernel) rfl (by decide +kernel) (kx_s_nm (JS 72))))))) (kx_s_aload_n (j := 0) G rfl (by decide +kernel) (kx_s_gR G kf_4_19 (by decide +kernel) (kx_s_aload_n (j := 0) G rfl (by decide +kernel) (kx_s_gR G kf_4_23 (by decide +kernel) (kx_s_pR (ty := .object "TaskDesk$Place") G kf_4_35 rfl (by decide +kernel) rfl (by decide +kernel) (kx_s_goto (off := 14) (tgt := 72) G (by decide +kernel) rfl (kx_s_nm (JS 72)))))))))))
set_option maxRecDepth 20000 in
theorem sk_37_72 (X : kx_X p l e R s m args below meth c s0 D cA 1 ι0 h0 rr hf prog_5_method_2_code "TaskDesk$Place" C d (Option.none : Option Jvm.ClassFile.FieldType) "stepOut" J) : kx_Sn p l e R s m args below meth c s0 D cA 1 ι0 h0 rr hf 72 (bk_37_72 d C J) := by
  obtain ⟨G, CS, R9, O9, RT, NM, T0, FL, JS⟩ := X
  exact (kx_s_aload_n (j := 0) G rfl (by decide +kernel) (kx_s_gR G kf_4_19 (by decide +kernel) (kx_s_dup G (by decide +kernel) (kx_s_gI G kf_4_38 (by decide +kernel) (kx_s_iconst (i := 1) G (by decide +kernel) (by decide +kernel) (kx_s_isub G (by decide +kernel) (kx_s_pI G kf_4_38 rfl (by decide +kernel) (by decide +kernel) (kx_s_aload_n (j := 0) G rfl (by decide +kernel) (kx_s_null G (by decide +kernel) (kx_s_pR (ty := .object "TaskDesk$Row") G kf_4_19 rfl (by decide +kernel) rfl (by decide +kernel) (kx_s_aload_n (j := 0) G rfl (by decide +kernel) (kx_s_null G (by decide +kernel) (kx_s_pR (ty := .object "TaskDesk$Place") G kf_4_23 rfl (by decide +kernel) rfl (by decide +kernel) (kx_s_aload_n (j := 0) G rfl (by decide +kernel) (kx_s_null G (by decide +kernel) (kx_s_pR (ty := .object "TaskDesk$Place") G kf_4_27 rfl (by decide +kernel) rfl (by decide +kernel) (kx_s_return G RT (by decide +kernel))))))))))))))))))
theorem sm_37 (X : kx_X p l e R s m args below meth c s0 D cA 1 ι0 h0 rr hf prog_5_method_2_code "TaskDesk$Place" C d (Option.none : Option Jvm.ClassFile.FieldType) "stepOut" J) (b : Nat) : kx_Sn p l e R s m args below meth c s0 D cA 1 ι0 h0 rr hf b (bm_37 d C b J) := by
  unfold bm_37
  cases h0 : Nat.beq b 0 with
  | true => rw [Nat.eq_of_beq_eq_true h0]; exact sk_37_0 X
  | false =>
   cases h40 : Nat.beq b 40 with
   | true => rw [Nat.eq_of_beq_eq_true h40]; exact sk_37_40 X
   | false =>
    cases h72 : Nat.beq b 72 with
    | true => rw [Nat.eq_of_beq_eq_true h72]; exact sk_37_72 X
    | false =>
     exact kx_s_no
/-! TaskDesk$Channel.append(LTaskDesk$Value;)V -/
def bk_39_0 (d : Nat) (C : kx_C) (J : Nat → kx_F) : kx_F := (kx_la 1 (kx_c (kx_r 8 none) (kx_pR 8 1 8 (kx_la 0 (kx_gR 2 9 8 (kx_nnul (kx_la 0 (kx_gR 2 9 8 (kx_la 1 (kx_pR 8 1 8 (kx_nm [0, 1] (J 28)))))) (kx_la 0 (kx_la 1 (kx_pR 2 8 8 (kx_nm [0, 1] (J 28)))))))))))
def bk_39_28 (d : Nat) (C : kx_C) (J : Nat → kx_F) : kx_F := (kx_la 0 (kx_la 1 (kx_pR 2 9 8 (kx_la 0 (kx_dup (kx_gI 2 6 (kx_c (kx_i 1) (kx_ii (fun x y => x + y) (kx_pI 2 6 kx_rv)))))))))
def bm_39 (d : Nat) (C : kx_C) (b : Nat) (J : Nat → kx_F) : kx_F := bif Nat.beq b 0 then bk_39_0 d C J else bif Nat.beq b 28 then bk_39_28 d C J else fun _ _ _ => none
set_option maxRecDepth 20000 in
theorem sk_39_0 (X : kx_X p l e R s m args below meth c s0 D cA 2 ι0 h0 rr hf prog_3_method_3_code "TaskDesk$Channel" C d (Option.none : Option Jvm.ClassFile.FieldType) "append" J) : kx_Sn p l e R s m args below meth c s0 D cA 2 ι0 h0 rr hf 0 (bk_39_0 d C J) := by
  obtain ⟨G, CS, R9, O9, RT, NM, T0, FL, JS⟩ := X
  exact (kx_s_aload_n (j := 1) G rfl (by decide +kernel) (kx_s_null G (by decide +kernel) (kx_s_pR (ty := .object "TaskDesk$Value") G kf_2_29 rfl (by decide +kernel) rfl (by decide +kernel) (kx_s_aload_n (j := 0) G rfl (by decide +kernel) (kx_s_gR G kf_2_35 (by decide +kernel) (kx_s_ifnonnull (off := 11) (tgt := 20) G (by decide +kernel) rfl (kx_s_aload_n (j := 0) G rfl (by decide +kernel) (kx_s_gR G kf_2_35 (by decide +kernel) (kx_s_aload_n (j := 1) G rfl (by decide +kernel) (kx_s_pR (ty := .object "TaskDesk$Value") G kf_2_29 rfl (by decide +kernel) rfl (by decide +kernel) (kx_s_nm (JS 28)))))) (kx_s_aload_n (j := 0) G rfl (by decide +kernel) (kx_s_aload_n (j := 1) G rfl (by decide +kernel) (kx_s_pR (ty := .object "TaskDesk$Value") G kf_2_38 rfl (by decide +kernel) rfl (by decide +kernel) (kx_s_goto (off := 11) (tgt := 28) G (by decide +kernel) rfl (kx_s_nm (JS 28))))))))))))
set_option maxRecDepth 20000 in
theorem sk_39_28 (X : kx_X p l e R s m args below meth c s0 D cA 2 ι0 h0 rr hf prog_3_method_3_code "TaskDesk$Channel" C d (Option.none : Option Jvm.ClassFile.FieldType) "append" J) : kx_Sn p l e R s m args below meth c s0 D cA 2 ι0 h0 rr hf 28 (bk_39_28 d C J) := by
  obtain ⟨G, CS, R9, O9, RT, NM, T0, FL, JS⟩ := X
  exact (kx_s_aload_n (j := 0) G rfl (by decide +kernel) (kx_s_aload_n (j := 1) G rfl (by decide +kernel) (kx_s_pR (ty := .object "TaskDesk$Value") G kf_2_35 rfl (by decide +kernel) rfl (by decide +kernel) (kx_s_aload_n (j := 0) G rfl (by decide +kernel) (kx_s_dup G (by decide +kernel) (kx_s_gI G kf_2_41 (by decide +kernel) (kx_s_iconst (i := 1) G (by decide +kernel) (by decide +kernel) (kx_s_iadd G (by decide +kernel) (kx_s_pI G kf_2_41 rfl (by decide +kernel) (by decide +kernel) (kx_s_return G RT (by decide +kernel)))))))))))
theorem sm_39 (X : kx_X p l e R s m args below meth c s0 D cA 2 ι0 h0 rr hf prog_3_method_3_code "TaskDesk$Channel" C d (Option.none : Option Jvm.ClassFile.FieldType) "append" J) (b : Nat) : kx_Sn p l e R s m args below meth c s0 D cA 2 ι0 h0 rr hf b (bm_39 d C b J) := by
  unfold bm_39
  cases h0 : Nat.beq b 0 with
  | true => rw [Nat.eq_of_beq_eq_true h0]; exact sk_39_0 X
  | false =>
   cases h28 : Nat.beq b 28 with
   | true => rw [Nat.eq_of_beq_eq_true h28]; exact sk_39_28 X
   | false =>
    exact kx_s_no
/-! TaskDesk$Agenda.note(JLTaskDesk$Task;LTaskDesk$Channel;)V -/
def bk_43_0 (d : Nat) (C : kx_C) (J : Nat → kx_F) : kx_F := (kx_la 0 (kx_gR 1 1 7 (kx_sa 5 (kx_la 5 (kx_nnul (kx_la 0 (kx_la 5 (kx_gR 7 3 7 (kx_pR 1 1 7 (kx_la 5 (kx_ll 1 (kx_pL 7 0 (kx_la 5 (kx_la 3 (kx_pR 7 1 6 (kx_la 5 (kx_la 4 (kx_pR 7 2 2 (kx_la 0 (kx_ll 1 (kx_Vr C 44 1 [1] 7 (kx_sa 6 (kx_la 6 (kx_nnul (kx_la 5 (kx_la 6 (kx_gR 7 3 7 (kx_pR 7 3 7 (kx_la 6 (kx_la 5 (kx_pR 7 3 7 (kx_nm [] (J 87))))))))) (kx_la 5 (kx_la 0 (kx_gR 1 0 7 (kx_pR 7 3 7 (kx_la 0 (kx_la 5 (kx_pR 1 0 7 (kx_nm [] (J 87)))))))))))))))))))))))))))) kx_rv)))))
def bk_43_87 (d : Nat) (C : kx_C) (J : Nat → kx_F) : kx_F := kx_rv
def bm_43 (d : Nat) (C : kx_C) (b : Nat) (J : Nat → kx_F) : kx_F := bif Nat.beq b 0 then bk_43_0 d C J else bif Nat.beq b 87 then bk_43_87 d C J else fun _ _ _ => none
set_option maxRecDepth 20000 in
theorem sk_43_0 (X : kx_X p l e R s m args below meth c s0 D cA 7 ι0 h0 rr hf prog_2_method_2_code "TaskDesk$Agenda" C d (Option.none : Option Jvm.ClassFile.FieldType) "note" J) : kx_Sn p l e R s m args below meth c s0 D cA 7 ι0 h0 rr hf 0 (bk_43_0 d C J) := by
  obtain ⟨G, CS, R9, O9, RT, NM, T0, FL, JS⟩ := X
  exact (kx_s_aload_n (j := 0) G rfl (by decide +kernel) (kx_s_gR G kf_1_12 (by decide +kernel) (kx_s_astore G (by decide +kernel) (by decide) (kx_s_aload G (by decide +kernel) (kx_s_ifnonnull (off := 4) (tgt := 12) G (by decide +kernel) rfl (kx_s_aload_n (j := 0) G rfl (by decide +kernel) (kx_s_aload G (by decide +kernel) (kx_s_gR G kf_1_18 (by decide +kernel) (kx_s_pR (ty := .object "TaskDesk$Timer") G kf_1_12 rfl (by decide +kernel) rfl (by decide +kernel) (kx_s_aload G (by decide +kernel) (kx_s_lload_n (j := 1) G rfl (by decide +kernel) (kx_s_pL G kf_1_21 rfl (by decide +kernel) (by decide +kernel) (kx_s_aload G (by decide +kernel) (kx_s_aload_n (j := 3) G rfl (by decide +kernel) (kx_s_pR (ty := .object "TaskDesk$Task") G kf_1_25 rfl (by decide +kernel) rfl (by decide +kernel) (kx_s_aload G (by decide +kernel) (kx_s_aload G (by decide +kernel) (kx_s_pR (ty := .object "TaskDesk$Channel") G kf_1_29 rfl (by decide +kernel) rfl (by decide +kernel) (kx_s_aload_n (j := 0) G rfl (by decide +kernel) (kx_s_lload_n (j := 1) G rfl (by decide +kernel) (kx_s_Vr (n := 44) G kx_good CS R9 (O9 _) kc_44 rfl kw_645 kw_647 kw_18 (r := kr_1) rfl (by decide) (by decide +kernel) (kx_s_astore G (by decide +kernel) (by decide) (kx_s_aload G (by decide +kernel) (kx_s_ifnonnull (off := 21) (tgt := 70) G (by decide +kernel) rfl (kx_s_aload G (by decide +kernel) (kx_s_aload G (by decide +kernel) (kx_s_gR G kf_1_18 (by decide +kernel) (kx_s_pR (ty := .object "TaskDesk$Timer") G kf_1_18 rfl (by decide +kernel) rfl (by decide +kernel) (kx_s_aload G (by decide +kernel) (kx_s_aload G (by decide +kernel) (kx_s_pR (ty := .object "TaskDesk$Timer") G kf_1_18 rfl (by decide +kernel) rfl (by decide +kernel) (kx_s_nm (JS 87))))))))) (kx_s_aload G (by decide +kernel) (kx_s_aload_n (j := 0) G rfl (by decide +kernel) (kx_s_gR G kf_1_37 (by decide +kernel) (kx_s_pR (ty := .object "TaskDesk$Timer") G kf_1_18 rfl (by decide +kernel) rfl (by decide +kernel) (kx_s_aload_n (j := 0) G rfl (by decide +kernel) (kx_s_aload G (by decide +kernel) (kx_s_pR (ty := .object "TaskDesk$Timer") G kf_1_37 rfl (by decide +kernel) rfl (by decide +kernel) (kx_s_goto (off := 20) (tgt := 87) G (by decide +kernel) rfl (kx_s_nm (JS 87))))))))))))))))))))))))))))) (kx_s_return G RT (by decide +kernel)))))))
set_option maxRecDepth 20000 in
theorem sk_43_87 (X : kx_X p l e R s m args below meth c s0 D cA 7 ι0 h0 rr hf prog_2_method_2_code "TaskDesk$Agenda" C d (Option.none : Option Jvm.ClassFile.FieldType) "note" J) : kx_Sn p l e R s m args below meth c s0 D cA 7 ι0 h0 rr hf 87 (bk_43_87 d C J) := by
  obtain ⟨G, CS, R9, O9, RT, NM, T0, FL, JS⟩ := X
  exact (kx_s_return G RT (by decide +kernel))
theorem sm_43 (X : kx_X p l e R s m args below meth c s0 D cA 7 ι0 h0 rr hf prog_2_method_2_code "TaskDesk$Agenda" C d (Option.none : Option Jvm.ClassFile.FieldType) "note" J) (b : Nat) : kx_Sn p l e R s m args below meth c s0 D cA 7 ι0 h0 rr hf b (bm_43 d C b J) := by
  unfold bm_43
  cases h0 : Nat.beq b 0 with
  | true => rw [Nat.eq_of_beq_eq_true h0]; exact sk_43_0 X
  | false =>
   cases h87 : Nat.beq b 87 with
   | true => rw [Nat.eq_of_beq_eq_true h87]; exact sk_43_87 X
   | false =>
    exact kx_s_no
/-! TaskDesk$Agenda.lastNotAfter(J)LTaskDesk$Timer; -/
def bk_44_0 (d : Nat) (C : kx_C) (J : Nat → kx_F) : kx_F := (kx_c (kx_r 7 none) (kx_sa 3 (kx_la 0 (kx_gR 1 0 7 (kx_sa 4 (kx_nm [1, 3, 4] (J 8)))))))
def bk_44_8 (d : Nat) (C : kx_C) (J : Nat → kx_F) : kx_F := (kx_la 4 (kx_nul (kx_nm [3] (J 36)) (kx_la 4 (kx_gL 7 0 (kx_ll 1 (kx_lcmp (kx_ifgt (kx_nm [3] (J 36)) (kx_la 4 (kx_sa 3 (kx_la 4 (kx_gR 7 3 7 (kx_sa 4 (kx_nm [1, 3, 4] (J 8))))))))))))))
def bk_44_36 (d : Nat) (C : kx_C) (J : Nat → kx_F) : kx_F := (kx_la 3 kx_rr)
def bm_44 (d : Nat) (C : kx_C) (b : Nat) (J : Nat → kx_F) : kx_F := bif Nat.beq b 0 then bk_44_0 d C J else bif Nat.beq b 8 then bk_44_8 d C J else bif Nat.beq b 36 then bk_44_36 d C J else fun _ _ _ => none
set_option maxRecDepth 20000 in
theorem sk_44_0 (X : kx_X p l e R s m args below meth c s0 D cA 5 ι0 h0 rr hf prog_2_method_3_code "TaskDesk$Agenda" C d (Option.some (Jvm.ClassFile.FieldType.object "TaskDesk$Timer")) "lastNotAfter" J) : kx_Sn p l e R s m args below meth c s0 D cA 5 ι0 h0 rr hf 0 (bk_44_0 d C J) := by
  obtain ⟨G, CS, R9, O9, RT, NM, T0, FL, JS⟩ := X
  exact (kx_s_null G (by decide +kernel) (kx_s_astore_n (j := 3) G rfl (by decide +kernel) (by decide) (kx_s_aload_n (j := 0) G rfl (by decide +kernel) (kx_s_gR G kf_1_37 (by decide +kernel) (kx_s_astore G (by decide +kernel) (by decide) (kx_s_nm (JS 8)))))))
set_option maxRecDepth 20000 in
theorem sk_44_8 (X : kx_X p l e R s m args below meth c s0 D cA 5 ι0 h0 rr hf prog_2_method_3_code "TaskDesk$Agenda" C d (Option.some (Jvm.ClassFile.FieldType.object "TaskDesk$Timer")) "lastNotAfter" J) : kx_Sn p l e R s m args below meth c s0 D cA 5 ι0 h0 rr hf 8 (bk_44_8 d C J) := by
  obtain ⟨G, CS, R9, O9, RT, NM, T0, FL, JS⟩ := X
  exact (kx_s_aload G (by decide +kernel) (kx_s_ifnull (off := 26) (tgt := 36) G (by decide +kernel) rfl (kx_s_nm (JS 36)) (kx_s_aload G (by decide +kernel) (kx_s_gL G kf_1_21 (by decide +kernel) (kx_s_lload_n (j := 1) G rfl (by decide +kernel) (kx_s_lcmp G (by decide +kernel) (kx_s_ifgt (off := 16) (tgt := 36) G (by decide +kernel) rfl (kx_s_nm (JS 36)) (kx_s_aload G (by decide +kernel) (kx_s_astore_n (j := 3) G rfl (by decide +kernel) (by decide) (kx_s_aload G (by decide +kernel) (kx_s_gR G kf_1_18 (by decide +kernel) (kx_s_astore G (by decide +kernel) (by decide) (kx_s_goto (off := -25) (tgt := 8) G (by decide +kernel) rfl (kx_s_nm (JS 8)))))))))))))))
set_option maxRecDepth 20000 in
theorem sk_44_36 (X : kx_X p l e R s m args below meth c s0 D cA 5 ι0 h0 rr hf prog_2_method_3_code "TaskDesk$Agenda" C d (Option.some (Jvm.ClassFile.FieldType.object "TaskDesk$Timer")) "lastNotAfter" J) : kx_Sn p l e R s m args below meth c s0 D cA 5 ι0 h0 rr hf 36 (bk_44_36 d C J) := by
  obtain ⟨G, CS, R9, O9, RT, NM, T0, FL, JS⟩ := X
  exact (kx_s_aload_n (j := 3) G rfl (by decide +kernel) (kx_s_areturn G RT (by decide +kernel)))
theorem sm_44 (X : kx_X p l e R s m args below meth c s0 D cA 5 ι0 h0 rr hf prog_2_method_3_code "TaskDesk$Agenda" C d (Option.some (Jvm.ClassFile.FieldType.object "TaskDesk$Timer")) "lastNotAfter" J) (b : Nat) : kx_Sn p l e R s m args below meth c s0 D cA 5 ι0 h0 rr hf b (bm_44 d C b J) := by
  unfold bm_44
  cases h0 : Nat.beq b 0 with
  | true => rw [Nat.eq_of_beq_eq_true h0]; exact sk_44_0 X
  | false =>
   cases h8 : Nat.beq b 8 with
   | true => rw [Nat.eq_of_beq_eq_true h8]; exact sk_44_8 X
   | false =>
    cases h36 : Nat.beq b 36 with
    | true => rw [Nat.eq_of_beq_eq_true h36]; exact sk_44_36 X
    | false =>
     exact kx_s_no
/-! TaskDesk$Task.adopt(LTaskDesk$Place;)V -/
def bk_62_0 (d : Nat) (C : kx_C) (J : Nat → kx_F) : kx_F := (kx_la 1 (kx_la 0 (kx_pR 4 0 6 (kx_la 1 (kx_la 0 (kx_gR 6 5 4 (kx_pR 4 8 4 (kx_la 0 (kx_la 1 (kx_pR 6 5 4 kx_rv))))))))))
def bm_62 (d : Nat) (C : kx_C) (b : Nat) (J : Nat → kx_F) : kx_F := bif Nat.beq b 0 then bk_62_0 d C J else fun _ _ _ => none
set_option maxRecDepth 20000 in
theorem sk_62_0 (X : kx_X p l e R s m args below meth c s0 D cA 2 ι0 h0 rr hf prog_7_method_5_code "TaskDesk$Task" C d (Option.none : Option Jvm.ClassFile.FieldType) "adopt" J) : kx_Sn p l e R s m args below meth c s0 D cA 2 ι0 h0 rr hf 0 (bk_62_0 d C J) := by
  obtain ⟨G, CS, R9, O9, RT, NM, T0, FL, JS⟩ := X
  exact (kx_s_aload_n (j := 1) G rfl (by decide +kernel) (kx_s_aload_n (j := 0) G rfl (by decide +kernel) (kx_s_pR (ty := .object "TaskDesk$Task") G kf_6_52 rfl (by decide +kernel) rfl (by decide +kernel) (kx_s_aload_n (j := 1) G rfl (by decide +kernel) (kx_s_aload_n (j := 0) G rfl (by decide +kernel) (kx_s_gR G kf_6_58 (by decide +kernel) (kx_s_pR (ty := .object "TaskDesk$Place") G kf_6_61 rfl (by decide +kernel) rfl (by decide +kernel) (kx_s_aload_n (j := 0) G rfl (by decide +kernel) (kx_s_aload_n (j := 1) G rfl (by decide +kernel) (kx_s_pR (ty := .object "TaskDesk$Place") G kf_6_58 rfl (by decide +kernel) rfl (by decide +kernel) (kx_s_return G RT (by decide +kernel))))))))))))
theorem sm_62 (X : kx_X p l e R s m args below meth c s0 D cA 2 ι0 h0 rr hf prog_7_method_5_code "TaskDesk$Task" C d (Option.none : Option Jvm.ClassFile.FieldType) "adopt" J) (b : Nat) : kx_Sn p l e R s m args below meth c s0 D cA 2 ι0 h0 rr hf b (bm_62 d C b J) := by
  unfold bm_62
  cases h0 : Nat.beq b 0 with
  | true => rw [Nat.eq_of_beq_eq_true h0]; exact sk_62_0 X
  | false =>
   exact kx_s_no
/-! TaskDesk$Gate.letsInAtOnce()Z -/
def bk_69_0 (d : Nat) (C : kx_C) (J : Nat → kx_F) : kx_F := (kx_la 0 (kx_gI 3 3 (kx_sw [(3, (kx_c (kx_i 0) kx_rz)), (4, (kx_la 0 (kx_gI 3 4 (kx_c (kx_i 1) (kx_ceq (kx_c (kx_i 0) (kx_nm [] (J 47))) (kx_c (kx_i 1) (kx_nm [] (J 47))))))))] (kx_la 0 (kx_gI 3 4 (kx_ifne (kx_c (kx_i 0) (kx_nm [] (J 60))) (kx_c (kx_i 1) (kx_nm [] (J 60)))))))))
def bk_69_47 (d : Nat) (C : kx_C) (J : Nat → kx_F) : kx_F := kx_rz
def bk_69_60 (d : Nat) (C : kx_C) (J : Nat → kx_F) : kx_F := kx_rz
def bm_69 (d : Nat) (C : kx_C) (b : Nat) (J : Nat → kx_F) : kx_F := bif Nat.beq b 0 then bk_69_0 d C J else bif Nat.beq b 47 then bk_69_47 d C J else bif Nat.beq b 60 then bk_69_60 d C J else fun _ _ _ => none
set_option maxRecDepth 20000 in
theorem sk_69_0 (X : kx_X p l e R s m args below meth c s0 D cA 1 ι0 h0 rr hf prog_4_method_2_code "TaskDesk$Gate" C d (Option.some Jvm.ClassFile.FieldType.boolean) "letsInAtOnce" J) : kx_Sn p l e R s m args below meth c s0 D cA 1 ι0 h0 rr hf 0 (bk_69_0 d C J) := by
  obtain ⟨G, CS, R9, O9, RT, NM, T0, FL, JS⟩ := X
  exact (kx_s_aload_n (j := 0) G rfl (by decide +kernel) (kx_s_gI G kf_3_25 (by decide +kernel) (kx_s_lsw (dflt := 44) (ps := #[(3, 28), (4, 30)]) (len := 28) G (by decide +kernel) (by decide +kernel) (tgtD := 48) rfl (kx_s_aload_n (j := 0) G rfl (by decide +kernel) (kx_s_gI G kf_3_28 (by decide +kernel) (kx_s_ifne (off := 7) (tgt := 59) G (by decide +kernel) rfl (kx_s_iconst (i := 0) G (by decide +kernel) (by decide +kernel) (kx_s_nm (JS 60))) (kx_s_iconst (i := 1) G (by decide +kernel) (by decide +kernel) (kx_s_goto (off := 4) (tgt := 60) G (by decide +kernel) rfl (kx_s_nm (JS 60))))))) (List.forall_mem_cons.mpr ⟨kx_lq (28) 32 (by decide +kernel) rfl (kx_s_iconst (i := 0) G (by decide +kernel) (by decide +kernel) (kx_s_zreturn G RT (by decide +kernel))), List.forall_mem_cons.mpr ⟨kx_lq (30) 34 (by decide +kernel) rfl (kx_s_aload_n (j := 0) G rfl (by decide +kernel) (kx_s_gI G kf_3_28 (by decide +kernel) (kx_s_iconst (i := 1) G (by decide +kernel) (by decide +kernel) (kx_s_ceq (off := 7) (tgt := 46) G (by decide +kernel) rfl (kx_s_iconst (i := 0) G (by decide +kernel) (by decide +kernel) (kx_s_nm (JS 47))) (kx_s_iconst (i := 1) G (by decide +kernel) (by decide +kernel) (kx_s_goto (off := 4) (tgt := 47) G (by decide +kernel) rfl (kx_s_nm (JS 47)))))))), List.forall_mem_nil _⟩⟩) (kx_lcov_2 (by decide +kernel) (by decide +kernel)))))
set_option maxRecDepth 20000 in
theorem sk_69_47 (X : kx_X p l e R s m args below meth c s0 D cA 1 ι0 h0 rr hf prog_4_method_2_code "TaskDesk$Gate" C d (Option.some Jvm.ClassFile.FieldType.boolean) "letsInAtOnce" J) : kx_Sn p l e R s m args below meth c s0 D cA 1 ι0 h0 rr hf 47 (bk_69_47 d C J) := by
  obtain ⟨G, CS, R9, O9, RT, NM, T0, FL, JS⟩ := X
  exact (kx_s_zreturn G RT (by decide +kernel))
set_option maxRecDepth 20000 in
theorem sk_69_60 (X : kx_X p l e R s m args below meth c s0 D cA 1 ι0 h0 rr hf prog_4_method_2_code "TaskDesk$Gate" C d (Option.some Jvm.ClassFile.FieldType.boolean) "letsInAtOnce" J) : kx_Sn p l e R s m args below meth c s0 D cA 1 ι0 h0 rr hf 60 (bk_69_60 d C J) := by
  obtain ⟨G, CS, R9, O9, RT, NM, T0, FL, JS⟩ := X
  exact (kx_s_zreturn G RT (by decide +kernel))
theorem sm_69 (X : kx_X p l e R s m args below meth c s0 D cA 1 ι0 h0 rr hf prog_4_method_2_code "TaskDesk$Gate" C d (Option.some Jvm.ClassFile.FieldType.boolean) "letsInAtOnce" J) (b : Nat) : kx_Sn p l e R s m args below meth c s0 D cA 1 ι0 h0 rr hf b (bm_69 d C b J) := by
  unfold bm_69
  cases h0 : Nat.beq b 0 with
  | true => rw [Nat.eq_of_beq_eq_true h0]; exact sk_69_0 X
  | false =>
   cases h47 : Nat.beq b 47 with
   | true => rw [Nat.eq_of_beq_eq_true h47]; exact sk_69_47 X
   | false =>
    cases h60 : Nat.beq b 60 with
    | true => rw [Nat.eq_of_beq_eq_true h60]; exact sk_69_60 X
    | false =>
     exact kx_s_no
/-! TaskDesk$Gate.take()V -/
def bk_70_0 (d : Nat) (C : kx_C) (J : Nat → kx_F) : kx_F := (kx_la 0 (kx_gI 3 3 (kx_ifne (kx_la 0 (kx_gI 3 3 (kx_c (kx_i 1) (kx_cne (kx_la 0 (kx_gI 3 3 (kx_c (kx_i 4) (kx_cne (kx_nm [] (J 51)) (kx_la 0 (kx_gI 3 4 (kx_ifne (kx_nm [] (J 51)) (kx_la 0 (kx_c (kx_i 1) (kx_pI 3 4 (kx_nm [] (J 51)))))))))))) (kx_la 0 (kx_c (kx_i (-1)) (kx_pI 3 4 (kx_nm [] (J 51))))))))) (kx_la 0 (kx_c (kx_i 1) (kx_pI 3 4 (kx_nm [] (J 51))))))))
def bk_70_51 (d : Nat) (C : kx_C) (J : Nat → kx_F) : kx_F := kx_rv
def bm_70 (d : Nat) (C : kx_C) (b : Nat) (J : Nat → kx_F) : kx_F := bif Nat.beq b 0 then bk_70_0 d C J else bif Nat.beq b 51 then bk_70_51 d C J else fun _ _ _ => none
set_option maxRecDepth 20000 in
theorem sk_70_0 (X : kx_X p l e R s m args below meth c s0 D cA 1 ι0 h0 rr hf prog_4_method_3_code "TaskDesk$Gate" C d (Option.none : Option Jvm.ClassFile.FieldType) "take" J) : kx_Sn p l e R s m args below meth c s0 D cA 1 ι0 h0 rr hf 0 (bk_70_0 d C J) := by
  obtain ⟨G, CS, R9, O9, RT, NM, T0, FL, JS⟩ := X
  exact (kx_s_aload_n (j := 0) G rfl (by decide +kernel) (kx_s_gI G kf_3_25 (by decide +kernel) (kx_s_ifne (off := 11) (tgt := 15) G (by decide +kernel) rfl (kx_s_aload_n (j := 0) G rfl (by decide +kernel) (kx_s_gI G kf_3_25 (by decide +kernel) (kx_s_iconst (i := 1) G (by decide +kernel) (by decide +kernel) (kx_s_cne (off := 11) (tgt := 31) G (by decide +kernel) rfl (kx_s_aload_n (j := 0) G rfl (by decide +kernel) (kx_s_gI G kf_3_25 (by decide +kernel) (kx_s_iconst (i := 4) G (by decide +kernel) (by decide +kernel) (kx_s_cne (off := 15) (tgt := 51) G (by decide +kernel) rfl (kx_s_nm (JS 51)) (kx_s_aload_n (j := 0) G rfl (by decide +kernel) (kx_s_gI G kf_3_28 (by decide +kernel) (kx_s_ifne (off := 8) (tgt := 51) G (by decide +kernel) rfl (kx_s_nm (JS 51)) (kx_s_aload_n (j := 0) G rfl (by decide +kernel) (kx_s_iconst (i := 1) G (by decide +kernel) (by decide +kernel) (kx_s_pI G kf_3_28 rfl (by decide +kernel) (by decide +kernel) (kx_s_nm (JS 51)))))))))))) (kx_s_aload_n (j := 0) G rfl (by decide +kernel) (kx_s_iconst (i := -1) G (by decide +kernel) (by decide +kernel) (kx_s_pI G kf_3_28 rfl (by decide +kernel) (by decide +kernel) (kx_s_goto (off := 23) (tgt := 51) G (by decide +kernel) rfl (kx_s_nm (JS 51)))))))))) (kx_s_aload_n (j := 0) G rfl (by decide +kernel) (kx_s_iconst (i := 1) G (by decide +kernel) (by decide +kernel) (kx_s_pI G kf_3_28 rfl (by decide +kernel) (by decide +kernel) (kx_s_goto (off := 39) (tgt := 51) G (by decide +kernel) rfl (kx_s_nm (JS 51)))))))))
set_option maxRecDepth 20000 in
theorem sk_70_51 (X : kx_X p l e R s m args below meth c s0 D cA 1 ι0 h0 rr hf prog_4_method_3_code "TaskDesk$Gate" C d (Option.none : Option Jvm.ClassFile.FieldType) "take" J) : kx_Sn p l e R s m args below meth c s0 D cA 1 ι0 h0 rr hf 51 (bk_70_51 d C J) := by
  obtain ⟨G, CS, R9, O9, RT, NM, T0, FL, JS⟩ := X
  exact (kx_s_return G RT (by decide +kernel))
theorem sm_70 (X : kx_X p l e R s m args below meth c s0 D cA 1 ι0 h0 rr hf prog_4_method_3_code "TaskDesk$Gate" C d (Option.none : Option Jvm.ClassFile.FieldType) "take" J) (b : Nat) : kx_Sn p l e R s m args below meth c s0 D cA 1 ι0 h0 rr hf b (bm_70 d C b J) := by
  unfold bm_70
  cases h0 : Nat.beq b 0 with
  | true => rw [Nat.eq_of_beq_eq_true h0]; exact sk_70_0 X
  | false =>
   cases h51 : Nat.beq b 51 with
   | true => rw [Nat.eq_of_beq_eq_true h51]; exact sk_70_51 X
   | false =>
    exact kx_s_no
/-! TaskDesk$Gate.canBeLeft()Z -/
def bk_73_0 (d : Nat) (C : kx_C) (J : Nat → kx_F) : kx_F := (kx_la 0 (kx_gI 3 3 (kx_sw [(0, (kx_la 0 (kx_gI 3 4 (kx_c (kx_i 1) (kx_cne (kx_c (kx_i 0) (kx_nm [] (J 49))) (kx_c (kx_i 1) (kx_nm [] (J 49)))))))), (1, (kx_la 0 (kx_gI 3 4 (kx_c (kx_i (-1)) (kx_cne (kx_c (kx_i 0) (kx_nm [] (J 63))) (kx_c (kx_i 1) (kx_nm [] (J 63)))))))), (2, (kx_la 0 (kx_gI 3 4 (kx_ifle (kx_c (kx_i 0) (kx_nm [] (J 76))) (kx_c (kx_i 1) (kx_nm [] (J 76))))))), (3, (kx_c (kx_i 1) kx_rz))] (kx_la 0 (kx_gI 3 4 (kx_c (kx_i 1) (kx_cne (kx_c (kx_i 0) (kx_nm [] (J 92))) (kx_c (kx_i 1) (kx_nm [] (J 92))))))))))
def bk_73_49 (d : Nat) (C : kx_C) (J : Nat → kx_F) : kx_F := kx_rz
def bk_73_63 (d : Nat) (C : kx_C) (J : Nat → kx_F) : kx_F := kx_rz
def bk_73_76 (d : Nat) (C : kx_C) (J : Nat → kx_F) : kx_F := kx_rz
def bk_73_92 (d : Nat) (C : kx_C) (J : Nat → kx_F) : kx_F := kx_rz
def bm_73 (d : Nat) (C : kx_C) (b : Nat) (J : Nat → kx_F) : kx_F := bif Nat.beq b 0 then bk_73_0 d C J else bif Nat.beq b 49 then bk_73_49 d C J else bif Nat.beq b 63 then bk_73_63 d C J else bif Nat.beq b 76 then bk_73_76 d C J else bif Nat.beq b 92 then bk_73_92 d C J else fun _ _ _ => none
set_option maxRecDepth 20000 in
theorem sk_73_0 (X : kx_X p l e R s m args below meth c s0 D cA 1 ι0 h0 rr hf prog_4_method_4_code "TaskDesk$Gate" C d (Option.some Jvm.ClassFile.FieldType.boolean) "canBeLeft" J) : kx_Sn p l e R s m args below meth c s0 D cA 1 ι0 h0 rr hf 0 (bk_73_0 d C J) := by
  obtain ⟨G, CS, R9, O9, RT, NM, T0, FL, JS⟩ := X
  exact (kx_s_aload_n (j := 0) G rfl (by decide +kernel) (kx_s_gI G kf_3_25 (by decide +kernel) (kx_s_tsw (dflt := 75) (lo := 0) (hi := 3) (offs := #[32, 46, 60, 73]) (len := 32) G (by decide +kernel) (tgtD := 79) rfl (kx_s_aload_n (j := 0) G rfl (by decide +kernel) (kx_s_gI G kf_3_28 (by decide +kernel) (kx_s_iconst (i := 1) G (by decide +kernel) (by decide +kernel) (kx_s_cne (off := 7) (tgt := 91) G (by decide +kernel) rfl (kx_s_iconst (i := 0) G (by decide +kernel) (by decide +kernel) (kx_s_nm (JS 92))) (kx_s_iconst (i := 1) G (by decide +kernel) (by decide +kernel) (kx_s_goto (off := 4) (tgt := 92) G (by decide +kernel) rfl (kx_s_nm (JS 92)))))))) (List.forall_mem_cons.mpr ⟨kx_tq (32) 36 (by decide +kernel) (by decide +kernel) (by decide +kernel) rfl (kx_s_aload_n (j := 0) G rfl (by decide +kernel) (kx_s_gI G kf_3_28 (by decide +kernel) (kx_s_iconst (i := 1) G (by decide +kernel) (by decide +kernel) (kx_s_cne (off := 7) (tgt := 48) G (by decide +kernel) rfl (kx_s_iconst (i := 0) G (by decide +kernel) (by decide +kernel) (kx_s_nm (JS 49))) (kx_s_iconst (i := 1) G (by decide +kernel) (by decide +kernel) (kx_s_goto (off := 4) (tgt := 49) G (by decide +kernel) rfl (kx_s_nm (JS 49)))))))), List.forall_mem_cons.mpr ⟨kx_tq (46) 50 (by decide +kernel) (by decide +kernel) (by decide +kernel) rfl (kx_s_aload_n (j := 0) G rfl (by decide +kernel) (kx_s_gI G kf_3_28 (by decide +kernel) (kx_s_iconst (i := -1) G (by decide +kernel) (by decide +kernel) (kx_s_cne (off := 7) (tgt := 62) G (by decide +kernel) rfl (kx_s_iconst (i := 0) G (by decide +kernel) (by decide +kernel) (kx_s_nm (JS 63))) (kx_s_iconst (i := 1) G (by decide +kernel) (by decide +kernel) (kx_s_goto (off := 4) (tgt := 63) G (by decide +kernel) rfl (kx_s_nm (JS 63)))))))), List.forall_mem_cons.mpr ⟨kx_tq (60) 64 (by decide +kernel) (by decide +kernel) (by decide +kernel) rfl (kx_s_aload_n (j := 0) G rfl (by decide +kernel) (kx_s_gI G kf_3_28 (by decide +kernel) (kx_s_ifle (off := 7) (tgt := 75) G (by decide +kernel) rfl (kx_s_iconst (i := 0) G (by decide +kernel) (by decide +kernel) (kx_s_nm (JS 76))) (kx_s_iconst (i := 1) G (by decide +kernel) (by decide +kernel) (kx_s_goto (off := 4) (tgt := 76) G (by decide +kernel) rfl (kx_s_nm (JS 76))))))), List.forall_mem_cons.mpr ⟨kx_tq (73) 77 (by decide +kernel) (by decide +kernel) (by decide +kernel) rfl (kx_s_iconst (i := 1) G (by decide +kernel) (by decide +kernel) (kx_s_zreturn G RT (by decide +kernel))), List.forall_mem_nil _⟩⟩⟩⟩) (kx_cov 4 (by decide) (vs := [0, 1, 2, 3]) rfl (by decide +kernel)))))
set_option maxRecDepth 20000 in
theorem sk_73_49 (X : kx_X p l e R s m args below meth c s0 D cA 1 ι0 h0 rr hf prog_4_method_4_code "TaskDesk$Gate" C d (Option.some Jvm.ClassFile.FieldType.boolean) "canBeLeft" J) : kx_Sn p l e R s m args below meth c s0 D cA 1 ι0 h0 rr hf 49 (bk_73_49 d C J) := by
  obtain ⟨G, CS, R9, O9, RT, NM, T0, FL, JS⟩ := X
  exact (kx_s_zreturn G RT (by decide +kernel))
set_option maxRecDepth 20000 in
theorem sk_73_63 (X : kx_X p l e R s m args below meth c s0 D cA 1 ι0 h0 rr hf prog_4_method_4_code "TaskDesk$Gate" C d (Option.some Jvm.ClassFile.FieldType.boolean) "canBeLeft" J) : kx_Sn p l e R s m args below meth c s0 D cA 1 ι0 h0 rr hf 63 (bk_73_63 d C J) := by
  obtain ⟨G, CS, R9, O9, RT, NM, T0, FL, JS⟩ := X
  exact (kx_s_zreturn G RT (by decide +kernel))
set_option maxRecDepth 20000 in
theorem sk_73_76 (X : kx_X p l e R s m args below meth c s0 D cA 1 ι0 h0 rr hf prog_4_method_4_code "TaskDesk$Gate" C d (Option.some Jvm.ClassFile.FieldType.boolean) "canBeLeft" J) : kx_Sn p l e R s m args below meth c s0 D cA 1 ι0 h0 rr hf 76 (bk_73_76 d C J) := by
  obtain ⟨G, CS, R9, O9, RT, NM, T0, FL, JS⟩ := X
  exact (kx_s_zreturn G RT (by decide +kernel))
set_option maxRecDepth 20000 in
theorem sk_73_92 (X : kx_X p l e R s m args below meth c s0 D cA 1 ι0 h0 rr hf prog_4_method_4_code "TaskDesk$Gate" C d (Option.some Jvm.ClassFile.FieldType.boolean) "canBeLeft" J) : kx_Sn p l e R s m args below meth c s0 D cA 1 ι0 h0 rr hf 92 (bk_73_92 d C J) := by
  obtain ⟨G, CS, R9, O9, RT, NM, T0, FL, JS⟩ := X
  exact (kx_s_zreturn G RT (by decide +kernel))
theorem sm_73 (X : kx_X p l e R s m args below meth c s0 D cA 1 ι0 h0 rr hf prog_4_method_4_code "TaskDesk$Gate" C d (Option.some Jvm.ClassFile.FieldType.boolean) "canBeLeft" J) (b : Nat) : kx_Sn p l e R s m args below meth c s0 D cA 1 ι0 h0 rr hf b (bm_73 d C b J) := by
  unfold bm_73
  cases h0 : Nat.beq b 0 with
  | true => rw [Nat.eq_of_beq_eq_true h0]; exact sk_73_0 X
  | false =>
   cases h49 : Nat.beq b 49 with
   | true => rw [Nat.eq_of_beq_eq_true h49]; exact sk_73_49 X
   | false =>
    cases h63 : Nat.beq b 63 with
    | true => rw [Nat.eq_of_beq_eq_true h63]; exact sk_73_63 X
    | false =>
     cases h76 : Nat.beq b 76 with
     | true => rw [Nat.eq_of_beq_eq_true h76]; exact sk_73_76 X
     | false =>
      cases h92 : Nat.beq b 92 with
      | true => rw [Nat.eq_of_beq_eq_true h92]; exact sk_73_92 X
      | false =>
       exact kx_s_no
/-! TaskDesk$Gate.canChangeBy(I)Z -/
def bk_79_0 (d : Nat) (C : kx_C) (J : Nat → kx_F) : kx_F := (kx_la 0 (kx_gI 3 3 (kx_sw [(1, (kx_la 0 (kx_gI 3 4 (kx_ifle (kx_c (kx_i 0) (kx_nm [] (J 44))) (kx_c (kx_i 1) (kx_nm [] (J 44))))))), (2, (kx_la 0 (kx_gI 3 4 (kx_i2l (kx_li 1 (kx_i2l (kx_jj (fun x y => x + y) (kx_sl 2 (kx_ll 2 (kx_c (kx_l 0) (kx_lcmp (kx_iflt (kx_nm [] (J 72)) (kx_ll 2 (kx_c (kx_l 1000000000) (kx_lcmp (kx_ifgt (kx_nm [] (J 72)) (kx_c (kx_i 1) (kx_nm [] (J 73)))))))))))))))))))] (kx_la 0 (kx_gI 3 3 (kx_c (kx_i 3) (kx_cne (kx_c (kx_i 0) (kx_nm [] (J 87))) (kx_c (kx_i 1) (kx_nm [] (J 87))))))))))
def bk_79_44 (d : Nat) (C : kx_C) (J : Nat → kx_F) : kx_F := kx_rz
def bk_79_72 (d : Nat) (C : kx_C) (J : Nat → kx_F) : kx_F := (kx_c (kx_i 0) (kx_nm [] (J 73)))
def bk_79_73 (d : Nat) (C : kx_C) (J : Nat → kx_F) : kx_F := kx_rz
def bk_79_87 (d : Nat) (C : kx_C) (J : Nat → kx_F) : kx_F := kx_rz
def bm_79 (d : Nat) (C : kx_C) (b : Nat) (J : Nat → kx_F) : kx_F := bif Nat.beq b 0 then bk_79_0 d C J else bif Nat.beq b 44 then bk_79_44 d C J else bif Nat.beq b 72 then bk_79_72 d C J else bif Nat.beq b 73 then bk_79_73 d C J else bif Nat.beq b 87 then bk_79_87 d C J else fun _ _ _ => none
set_option maxRecDepth 20000 in
theorem sk_79_0 (X : kx_X p l e R s m args below meth c s0 D cA 4 ι0 h0 rr hf prog_4_method_5_code "TaskDesk$Gate" C d (Option.some Jvm.ClassFile.FieldType.boolean) "canChangeBy" J) : kx_Sn p l e R s m args below meth c s0 D cA 4 ι0 h0 rr hf 0 (bk_79_0 d C J) := by
  obtain ⟨G, CS, R9, O9, RT, NM, T0, FL, JS⟩ := X
  exact (kx_s_aload_n (j := 0) G rfl (by decide +kernel) (kx_s_gI G kf_3_25 (by decide +kernel) (kx_s_lsw (dflt := 70) (ps := #[(1, 28), (2, 41)]) (len := 28) G (by decide +kernel) (by decide +kernel) (tgtD := 74) rfl (kx_s_aload_n (j := 0) G rfl (by decide +kernel) (kx_s_gI G kf_3_25 (by decide +kernel) (kx_s_iconst (i := 3) G (by decide +kernel) (by decide +kernel) (kx_s_cne (off := 7) (tgt := 86) G (by decide +kernel) rfl (kx_s_iconst (i := 0) G (by decide +kernel) (by decide +kernel) (kx_s_nm (JS 87))) (kx_s_iconst (i := 1) G (by decide +kernel) (by decide +kernel) (kx_s_goto (off := 4) (tgt := 87) G (by decide +kernel) rfl (kx_s_nm (JS 87)))))))) (List.forall_mem_cons.mpr ⟨kx_lq (28) 32 (by decide +kernel) rfl (kx_s_aload_n (j := 0) G rfl (by decide +kernel) (kx_s_gI G kf_3_28 (by decide +kernel) (kx_s_ifle (off := 7) (tgt := 43) G (by decide +kernel) rfl (kx_s_iconst (i := 0) G (by decide +kernel) (by decide +kernel) (kx_s_nm (JS 44))) (kx_s_iconst (i := 1) G (by decide +kernel) (by decide +kernel) (kx_s_goto (off := 4) (tgt := 44) G (by decide +kernel) rfl (kx_s_nm (JS 44))))))), List.forall_mem_cons.mpr ⟨kx_lq (41) 45 (by decide +kernel) rfl (kx_s_aload_n (j := 0) G rfl (by decide +kernel) (kx_s_gI G kf_3_28 (by decide +kernel) (kx_s_i2l G (by decide +kernel) (kx_s_iload_n (j := 1) G rfl (by decide +kernel) (kx_s_i2l G (by decide +kernel) (kx_s_ladd G (by decide +kernel) (kx_s_lstore_n (j := 2) G rfl (by decide +kernel) (by decide) (kx_s_lload_n (j := 2) G rfl (by decide +kernel) (kx_s_lconst (i := 0) G (by decide +kernel) (by decide +kernel) (kx_s_lcmp G (by decide +kernel) (kx_s_iflt (off := 15) (tgt := 72) G (by decide +kernel) rfl (kx_s_nm (JS 72)) (kx_s_lload_n (j := 2) G rfl (by decide +kernel) (kx_s_ldc2 G kw_858 (by decide +kernel) (kx_s_lcmp G (by decide +kernel) (kx_s_ifgt (off := 7) (tgt := 72) G (by decide +kernel) rfl (kx_s_nm (JS 72)) (kx_s_iconst (i := 1) G (by decide +kernel) (by decide +kernel) (kx_s_goto (off := 4) (tgt := 73) G (by decide +kernel) rfl (kx_s_nm (JS 73))))))))))))))))))), List.forall_mem_nil _⟩⟩) (kx_lcov_2 (by decide +kernel) (by decide +kernel)))))
set_option maxRecDepth 20000 in
theorem sk_79_44 (X : kx_X p l e R s m args below meth c s0 D cA 4 ι0 h0 rr hf prog_4_method_5_code "TaskDesk$Gate" C d (Option.some Jvm.ClassFile.FieldType.boolean) "canChangeBy" J) : kx_Sn p l e R s m args below meth c s0 D cA 4 ι0 h0 rr hf 44 (bk_79_44 d C J) := by
  obtain ⟨G, CS, R9, O9, RT, NM, T0, FL, JS⟩ := X
  exact (kx_s_zreturn G RT (by decide +kernel))
set_option maxRecDepth 20000 in
theorem sk_79_72 (X : kx_X p l e R s m args below meth c s0 D cA 4 ι0 h0 rr hf prog_4_method_5_code "TaskDesk$Gate" C d (Option.some Jvm.ClassFile.FieldType.boolean) "canChangeBy" J) : kx_Sn p l e R s m args below meth c s0 D cA 4 ι0 h0 rr hf 72 (bk_79_72 d C J) := by
  obtain ⟨G, CS, R9, O9, RT, NM, T0, FL, JS⟩ := X
  exact (kx_s_iconst (i := 0) G (by decide +kernel) (by decide +kernel) (kx_s_nm (JS 73)))
set_option maxRecDepth 20000 in
theorem sk_79_73 (X : kx_X p l e R s m args below meth c s0 D cA 4 ι0 h0 rr hf prog_4_method_5_code "TaskDesk$Gate" C d (Option.some Jvm.ClassFile.FieldType.boolean) "canChangeBy" J) : kx_Sn p l e R s m args below meth c s0 D cA 4 ι0 h0 rr hf 73 (bk_79_73 d C J) := by
  obtain ⟨G, CS, R9, O9, RT, NM, T0, FL, JS⟩ := X
  exact (kx_s_zreturn G RT (by decide +kernel))
set_option maxRecDepth 20000 in
theorem sk_79_87 (X : kx_X p l e R s m args below meth c s0 D cA 4 ι0 h0 rr hf prog_4_method_5_code "TaskDesk$Gate" C d (Option.some Jvm.ClassFile.FieldType.boolean) "canChangeBy" J) : kx_Sn p l e R s m args below meth c s0 D cA 4 ι0 h0 rr hf 87 (bk_79_87 d C J) := by
  obtain ⟨G, CS, R9, O9, RT, NM, T0, FL, JS⟩ := X
  exact (kx_s_zreturn G RT (by decide +kernel))
theorem sm_79 (X : kx_X p l e R s m args below meth c s0 D cA 4 ι0 h0 rr hf prog_4_method_5_code "TaskDesk$Gate" C d (Option.some Jvm.ClassFile.FieldType.boolean) "canChangeBy" J) (b : Nat) : kx_Sn p l e R s m args below meth c s0 D cA 4 ι0 h0 rr hf b (bm_79 d C b J) := by
  unfold bm_79
  cases h0 : Nat.beq b 0 with
  | true => rw [Nat.eq_of_beq_eq_true h0]; exact sk_79_0 X
  | false =>
   cases h44 : Nat.beq b 44 with
   | true => rw [Nat.eq_of_beq_eq_true h44]; exact sk_79_44 X
   | false =>
    cases h72 : Nat.beq b 72 with
    | true => rw [Nat.eq_of_beq_eq_true h72]; exact sk_79_72 X
    | false =>
     cases h73 : Nat.beq b 73 with
     | true => rw [Nat.eq_of_beq_eq_true h73]; exact sk_79_73 X
     | false =>
      cases h87 : Nat.beq b 87 with
      | true => rw [Nat.eq_of_beq_eq_true h87]; exact sk_79_87 X
      | false =>
       exact kx_s_no
end KB
end
