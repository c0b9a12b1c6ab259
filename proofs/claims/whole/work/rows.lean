section
-- ===== PART A: goes FIRST, ahead of the names: the tables' words, and 'selects' of the private methods out of them =====
/-- a private method of a class that the tables say can be made, by its rows of tables_1 -/
def lw_okq (q : MethodName × Nat) : Prop := (q.1.cls ≠ "java/lang/invoke/MethodHandle" ∧ q.1.cls ≠ "java/lang/invoke/VarHandle") ∧ Cond.instantiable q.1.cls q.2 ∈ tables_1 ∧ Cond.privateMethod q.1 ∈ tables_1 ∧ Cond.instanceMethod q.1 ∈ tables_1
theorem lw_p0 : lw_okq (⟨"TaskDesk", "keepValue", "(LTaskDesk$Value;)V"⟩, 18) := ⟨⟨by decide +kernel, by decide +kernel⟩, List.mem_of_getElem? (i := 19) (by decide +kernel), List.mem_of_getElem? (i := 269) (by decide +kernel), List.mem_of_getElem? (i := 270) (by decide +kernel)⟩
theorem lw_p1 : lw_okq (⟨"TaskDesk", "keepPlace", "(LTaskDesk$Place;)V"⟩, 18) := ⟨⟨by decide +kernel, by decide +kernel⟩, List.mem_of_getElem? (i := 19) (by decide +kernel), List.mem_of_getElem? (i := 273) (by decide +kernel), List.mem_of_getElem? (i := 274) (by decide +kernel)⟩
theorem lw_p2 : lw_okq (⟨"TaskDesk", "channelAt", "(I)LTaskDesk$Channel;"⟩, 18) := ⟨⟨by decide +kernel, by decide +kernel⟩, List.mem_of_getElem? (i := 19) (by decide +kernel), List.mem_of_getElem? (i := 344) (by decide +kernel), List.mem_of_getElem? (i := 345) (by decide +kernel)⟩
theorem lw_p3 : lw_okq (⟨"TaskDesk", "isTold", "(LTaskDesk$Channel;)Z"⟩, 18) := ⟨⟨by decide +kernel, by decide +kernel⟩, List.mem_of_getElem? (i := 19) (by decide +kernel), List.mem_of_getElem? (i := 352) (by decide +kernel), List.mem_of_getElem? (i := 353) (by decide +kernel)⟩
theorem lw_p4 : lw_okq (⟨"TaskDesk", "takeValue", "(LTaskDesk$Channel;)J"⟩, 18) := ⟨⟨by decide +kernel, by decide +kernel⟩, List.mem_of_getElem? (i := 19) (by decide +kernel), List.mem_of_getElem? (i := 356) (by decide +kernel), List.mem_of_getElem? (i := 357) (by decide +kernel)⟩
theorem lw_p5 : lw_okq (⟨"TaskDesk", "howItStands", "()I"⟩, 18) := ⟨⟨by decide +kernel, by decide +kernel⟩, List.mem_of_getElem? (i := 19) (by decide +kernel), List.mem_of_getElem? (i := 376) (by decide +kernel), List.mem_of_getElem? (i := 377) (by decide +kernel)⟩
theorem lw_p6 : lw_okq (⟨"TaskDesk", "mustBeCurrent", "()LTaskDesk$Task;"⟩, 18) := ⟨⟨by decide +kernel, by decide +kernel⟩, List.mem_of_getElem? (i := 19) (by decide +kernel), List.mem_of_getElem? (i := 388) (by decide +kernel), List.mem_of_getElem? (i := 389) (by decide +kernel)⟩
theorem lw_p7 : lw_okq (⟨"java/lang/Throwable", "fillInStackTrace", "(I)Ljava/lang/Throwable;"⟩, 6) := ⟨⟨by decide +kernel, by decide +kernel⟩, List.mem_of_getElem? (i := 431) (by decide +kernel), List.mem_of_getElem? (i := 429) (by decide +kernel), List.mem_of_getElem? (i := 430) (by decide +kernel)⟩
theorem lw_p8 : lw_okq (⟨"TaskDesk", "firstFreeTask", "()LTaskDesk$Task;"⟩, 18) := ⟨⟨by decide +kernel, by decide +kernel⟩, List.mem_of_getElem? (i := 19) (by decide +kernel), List.mem_of_getElem? (i := 461) (by decide +kernel), List.mem_of_getElem? (i := 462) (by decide +kernel)⟩
theorem lw_p9 : lw_okq (⟨"TaskDesk", "makeReady", "(LTaskDesk$Task;)V"⟩, 18) := ⟨⟨by decide +kernel, by decide +kernel⟩, List.mem_of_getElem? (i := 19) (by decide +kernel), List.mem_of_getElem? (i := 466) (by decide +kernel), List.mem_of_getElem? (i := 467) (by decide +kernel)⟩
theorem lw_p10 : lw_okq (⟨"TaskDesk", "goOn", "()V"⟩, 18) := ⟨⟨by decide +kernel, by decide +kernel⟩, List.mem_of_getElem? (i := 19) (by decide +kernel), List.mem_of_getElem? (i := 485) (by decide +kernel), List.mem_of_getElem? (i := 486) (by decide +kernel)⟩
theorem lw_p11 : lw_okq (⟨"TaskDesk", "ring", "(LTaskDesk$Timer;)V"⟩, 18) := ⟨⟨by decide +kernel, by decide +kernel⟩, List.mem_of_getElem? (i := 19) (by decide +kernel), List.mem_of_getElem? (i := 493) (by decide +kernel), List.mem_of_getElem? (i := 494) (by decide +kernel)⟩
theorem lw_p12 : lw_okq (⟨"TaskDesk", "takesAtOnce", "(LTaskDesk$Channel;)Z"⟩, 18) := ⟨⟨by decide +kernel, by decide +kernel⟩, List.mem_of_getElem? (i := 19) (by decide +kernel), List.mem_of_getElem? (i := 497) (by decide +kernel), List.mem_of_getElem? (i := 498) (by decide +kernel)⟩
theorem lw_p13 : lw_okq (⟨"TaskDesk", "pass", "(LTaskDesk$Channel;J)V"⟩, 18) := ⟨⟨by decide +kernel, by decide +kernel⟩, List.mem_of_getElem? (i := 19) (by decide +kernel), List.mem_of_getElem? (i := 501) (by decide +kernel), List.mem_of_getElem? (i := 502) (by decide +kernel)⟩
theorem lw_p14 : lw_okq (⟨"TaskDesk", "wake", "(LTaskDesk$Place;JZZ)V"⟩, 18) := ⟨⟨by decide +kernel, by decide +kernel⟩, List.mem_of_getElem? (i := 19) (by decide +kernel), List.mem_of_getElem? (i := 505) (by decide +kernel), List.mem_of_getElem? (i := 506) (by decide +kernel)⟩
theorem lw_p15 : lw_okq (⟨"TaskDesk", "takeOut", "(LTaskDesk$Task;)V"⟩, 18) := ⟨⟨by decide +kernel, by decide +kernel⟩, List.mem_of_getElem? (i := 19) (by decide +kernel), List.mem_of_getElem? (i := 510) (by decide +kernel), List.mem_of_getElem? (i := 511) (by decide +kernel)⟩
def lw_privs_1 : List (MethodName × Nat) := [(⟨"TaskDesk", "keepValue", "(LTaskDesk$Value;)V"⟩, 18), (⟨"TaskDesk", "keepPlace", "(LTaskDesk$Place;)V"⟩, 18), (⟨"TaskDesk", "channelAt", "(I)LTaskDesk$Channel;"⟩, 18), (⟨"TaskDesk", "isTold", "(LTaskDesk$Channel;)Z"⟩, 18), (⟨"TaskDesk", "takeValue", "(LTaskDesk$Channel;)J"⟩, 18), (⟨"TaskDesk", "howItStands", "()I"⟩, 18), (⟨"TaskDesk", "mustBeCurrent", "()LTaskDesk$Task;"⟩, 18), (⟨"java/lang/Throwable", "fillInStackTrace", "(I)Ljava/lang/Throwable;"⟩, 6), (⟨"TaskDesk", "firstFreeTask", "()LTaskDesk$Task;"⟩, 18), (⟨"TaskDesk", "makeReady", "(LTaskDesk$Task;)V"⟩, 18), (⟨"TaskDesk", "goOn", "()V"⟩, 18), (⟨"TaskDesk", "ring", "(LTaskDesk$Timer;)V"⟩, 18), (⟨"TaskDesk", "takesAtOnce", "(LTaskDesk$Channel;)Z"⟩, 18), (⟨"TaskDesk", "pass", "(LTaskDesk$Channel;J)V"⟩, 18), (⟨"TaskDesk", "wake", "(LTaskDesk$Place;JZZ)V"⟩, 18), (⟨"TaskDesk", "takeOut", "(LTaskDesk$Task;)V"⟩, 18)]
theorem lw_r1 : ∀ q ∈ lw_privs_1, lw_okq q := List.forall_mem_cons.mpr ⟨lw_p0, List.forall_mem_cons.mpr ⟨lw_p1, List.forall_mem_cons.mpr ⟨lw_p2, List.forall_mem_cons.mpr ⟨lw_p3, List.forall_mem_cons.mpr ⟨lw_p4, List.forall_mem_cons.mpr ⟨lw_p5, List.forall_mem_cons.mpr ⟨lw_p6, List.forall_mem_cons.mpr ⟨lw_p7, List.forall_mem_cons.mpr ⟨lw_p8, List.forall_mem_cons.mpr ⟨lw_p9, List.forall_mem_cons.mpr ⟨lw_p10, List.forall_mem_cons.mpr ⟨lw_p11, List.forall_mem_cons.mpr ⟨lw_p12, List.forall_mem_cons.mpr ⟨lw_p13, List.forall_mem_cons.mpr ⟨lw_p14, List.forall_mem_cons.mpr ⟨lw_p15, fun _ h => absurd h List.not_mem_nil⟩⟩⟩⟩⟩⟩⟩⟩⟩⟩⟩⟩⟩⟩⟩⟩
theorem lw_p16 : lw_okq (⟨"TaskDesk", "putValue", "(LTaskDesk$Channel;J)V"⟩, 18) := ⟨⟨by decide +kernel, by decide +kernel⟩, List.mem_of_getElem? (i := 19) (by decide +kernel), List.mem_of_getElem? (i := 518) (by decide +kernel), List.mem_of_getElem? (i := 519) (by decide +kernel)⟩
theorem lw_p17 : lw_okq (⟨"TaskDesk", "endAll", "()V"⟩, 18) := ⟨⟨by decide +kernel, by decide +kernel⟩, List.mem_of_getElem? (i := 19) (by decide +kernel), List.mem_of_getElem? (i := 534) (by decide +kernel), List.mem_of_getElem? (i := 535) (by decide +kernel)⟩
theorem lw_p18 : lw_okq (⟨"TaskDesk$Agenda", "lastNotAfter", "(J)LTaskDesk$Timer;"⟩, 2) := ⟨⟨by decide +kernel, by decide +kernel⟩, List.mem_of_getElem? (i := 51) (by decide +kernel), List.mem_of_getElem? (i := 567) (by decide +kernel), List.mem_of_getElem? (i := 568) (by decide +kernel)⟩
theorem lw_p19 : lw_okq (⟨"TaskDesk", "firstFreeChannel", "()LTaskDesk$Channel;"⟩, 18) := ⟨⟨by decide +kernel, by decide +kernel⟩, List.mem_of_getElem? (i := 19) (by decide +kernel), List.mem_of_getElem? (i := 579) (by decide +kernel), List.mem_of_getElem? (i := 580) (by decide +kernel)⟩
theorem lw_p20 : lw_okq (⟨"TaskDesk", "mustBeChannel", "(I)LTaskDesk$Channel;"⟩, 18) := ⟨⟨by decide +kernel, by decide +kernel⟩, List.mem_of_getElem? (i := 19) (by decide +kernel), List.mem_of_getElem? (i := 601) (by decide +kernel), List.mem_of_getElem? (i := 602) (by decide +kernel)⟩
theorem lw_p21 : lw_okq (⟨"TaskDesk", "givesAtOnce", "(LTaskDesk$Channel;)Z"⟩, 18) := ⟨⟨by decide +kernel, by decide +kernel⟩, List.mem_of_getElem? (i := 19) (by decide +kernel), List.mem_of_getElem? (i := 629) (by decide +kernel), List.mem_of_getElem? (i := 630) (by decide +kernel)⟩
theorem lw_p22 : lw_okq (⟨"TaskDesk", "receiveNow", "(LTaskDesk$Task;LTaskDesk$Channel;I)V"⟩, 18) := ⟨⟨by decide +kernel, by decide +kernel⟩, List.mem_of_getElem? (i := 19) (by decide +kernel), List.mem_of_getElem? (i := 633) (by decide +kernel), List.mem_of_getElem? (i := 634) (by decide +kernel)⟩
theorem lw_p23 : lw_okq (⟨"TaskDesk", "wakeAll", "(LTaskDesk$Row;ZZ)V"⟩, 18) := ⟨⟨by decide +kernel, by decide +kernel⟩, List.mem_of_getElem? (i := 19) (by decide +kernel), List.mem_of_getElem? (i := 645) (by decide +kernel), List.mem_of_getElem? (i := 646) (by decide +kernel)⟩
theorem lw_p24 : lw_okq (⟨"TaskDesk", "openCase", "(I)LTaskDesk$Place;"⟩, 18) := ⟨⟨by decide +kernel, by decide +kernel⟩, List.mem_of_getElem? (i := 19) (by decide +kernel), List.mem_of_getElem? (i := 665) (by decide +kernel), List.mem_of_getElem? (i := 666) (by decide +kernel)⟩
theorem lw_p25 : lw_okq (⟨"TaskDesk", "isOpen", "(LTaskDesk$Place;)Z"⟩, 18) := ⟨⟨by decide +kernel, by decide +kernel⟩, List.mem_of_getElem? (i := 19) (by decide +kernel), List.mem_of_getElem? (i := 669) (by decide +kernel), List.mem_of_getElem? (i := 670) (by decide +kernel)⟩
theorem lw_p26 : lw_okq (⟨"TaskDesk", "doCase", "(LTaskDesk$Task;LTaskDesk$Place;)V"⟩, 18) := ⟨⟨by decide +kernel, by decide +kernel⟩, List.mem_of_getElem? (i := 19) (by decide +kernel), List.mem_of_getElem? (i := 673) (by decide +kernel), List.mem_of_getElem? (i := 674) (by decide +kernel)⟩
theorem lw_p27 : lw_okq (⟨"TaskDesk", "forgetCases", "()V"⟩, 18) := ⟨⟨by decide +kernel, by decide +kernel⟩, List.mem_of_getElem? (i := 19) (by decide +kernel), List.mem_of_getElem? (i := 677) (by decide +kernel), List.mem_of_getElem? (i := 678) (by decide +kernel)⟩
theorem lw_p28 : lw_okq (⟨"TaskDesk", "waitInCases", "(LTaskDesk$Task;)V"⟩, 18) := ⟨⟨by decide +kernel, by decide +kernel⟩, List.mem_of_getElem? (i := 19) (by decide +kernel), List.mem_of_getElem? (i := 681) (by decide +kernel), List.mem_of_getElem? (i := 682) (by decide +kernel)⟩
theorem lw_p29 : lw_okq (⟨"TaskDesk", "gateAt", "(I)LTaskDesk$Gate;"⟩, 18) := ⟨⟨by decide +kernel, by decide +kernel⟩, List.mem_of_getElem? (i := 19) (by decide +kernel), List.mem_of_getElem? (i := 697) (by decide +kernel), List.mem_of_getElem? (i := 698) (by decide +kernel)⟩
theorem lw_p30 : lw_okq (⟨"TaskDesk", "mustBeGate", "(I)LTaskDesk$Gate;"⟩, 18) := ⟨⟨by decide +kernel, by decide +kernel⟩, List.mem_of_getElem? (i := 19) (by decide +kernel), List.mem_of_getElem? (i := 710) (by decide +kernel), List.mem_of_getElem? (i := 711) (by decide +kernel)⟩
theorem lw_p31 : lw_okq (⟨"TaskDesk", "giveUpLockOf", "(LTaskDesk$Gate;)V"⟩, 18) := ⟨⟨by decide +kernel, by decide +kernel⟩, List.mem_of_getElem? (i := 19) (by decide +kernel), List.mem_of_getElem? (i := 715) (by decide +kernel), List.mem_of_getElem? (i := 716) (by decide +kernel)⟩
def lw_privs_2 : List (MethodName × Nat) := [(⟨"TaskDesk", "putValue", "(LTaskDesk$Channel;J)V"⟩, 18), (⟨"TaskDesk", "endAll", "()V"⟩, 18), (⟨"TaskDesk$Agenda", "lastNotAfter", "(J)LTaskDesk$Timer;"⟩, 2), (⟨"TaskDesk", "firstFreeChannel", "()LTaskDesk$Channel;"⟩, 18), (⟨"TaskDesk", "mustBeChannel", "(I)LTaskDesk$Channel;"⟩, 18), (⟨"TaskDesk", "givesAtOnce", "(LTaskDesk$Channel;)Z"⟩, 18), (⟨"TaskDesk", "receiveNow", "(LTaskDesk$Task;LTaskDesk$Channel;I)V"⟩, 18), (⟨"TaskDesk", "wakeAll", "(LTaskDesk$Row;ZZ)V"⟩, 18), (⟨"TaskDesk", "openCase", "(I)LTaskDesk$Place;"⟩, 18), (⟨"TaskDesk", "isOpen", "(LTaskDesk$Place;)Z"⟩, 18), (⟨"TaskDesk", "doCase", "(LTaskDesk$Task;LTaskDesk$Place;)V"⟩, 18), (⟨"TaskDesk", "forgetCases", "()V"⟩, 18), (⟨"TaskDesk", "waitInCases", "(LTaskDesk$Task;)V"⟩, 18), (⟨"TaskDesk", "gateAt", "(I)LTaskDesk$Gate;"⟩, 18), (⟨"TaskDesk", "mustBeGate", "(I)LTaskDesk$Gate;"⟩, 18), (⟨"TaskDesk", "giveUpLockOf", "(LTaskDesk$Gate;)V"⟩, 18)]
theorem lw_r2 : ∀ q ∈ lw_privs_2, lw_okq q := List.forall_mem_cons.mpr ⟨lw_p16, List.forall_mem_cons.mpr ⟨lw_p17, List.forall_mem_cons.mpr ⟨lw_p18, List.forall_mem_cons.mpr ⟨lw_p19, List.forall_mem_cons.mpr ⟨lw_p20, List.forall_mem_cons.mpr ⟨lw_p21, List.forall_mem_cons.mpr ⟨lw_p22, List.forall_mem_cons.mpr ⟨lw_p23, List.forall_mem_cons.mpr ⟨lw_p24, List.forall_mem_cons.mpr ⟨lw_p25, List.forall_mem_cons.mpr ⟨lw_p26, List.forall_mem_cons.mpr ⟨lw_p27, List.forall_mem_cons.mpr ⟨lw_p28, List.forall_mem_cons.mpr ⟨lw_p29, List.forall_mem_cons.mpr ⟨lw_p30, List.forall_mem_cons.mpr ⟨lw_p31, fun _ h => absurd h List.not_mem_nil⟩⟩⟩⟩⟩⟩⟩⟩⟩⟩⟩⟩⟩⟩⟩⟩
theorem lw_p32 : lw_okq (⟨"TaskDesk", "giveLockBack", "(LTaskDesk$Gate;)V"⟩, 18) := ⟨⟨by decide +kernel, by decide +kernel⟩, List.mem_of_getElem? (i := 19) (by decide +kernel), List.mem_of_getElem? (i := 720) (by decide +kernel), List.mem_of_getElem? (i := 721) (by decide +kernel)⟩
theorem lw_p33 : lw_okq (⟨"TaskDesk", "endWriting", "(LTaskDesk$Gate;)V"⟩, 18) := ⟨⟨by decide +kernel, by decide +kernel⟩, List.mem_of_getElem? (i := 19) (by decide +kernel), List.mem_of_getElem? (i := 752) (by decide +kernel), List.mem_of_getElem? (i := 753) (by decide +kernel)⟩
theorem lw_p34 : lw_okq (⟨"TaskDesk", "letWriterIn", "(LTaskDesk$Gate;)V"⟩, 18) := ⟨⟨by decide +kernel, by decide +kernel⟩, List.mem_of_getElem? (i := 19) (by decide +kernel), List.mem_of_getElem? (i := 756) (by decide +kernel), List.mem_of_getElem? (i := 757) (by decide +kernel)⟩
theorem lw_p35 : lw_okq (⟨"TaskDesk", "setGroup", "(LTaskDesk$Gate;I)V"⟩, 18) := ⟨⟨by decide +kernel, by decide +kernel⟩, List.mem_of_getElem? (i := 19) (by decide +kernel), List.mem_of_getElem? (i := 760) (by decide +kernel), List.mem_of_getElem? (i := 761) (by decide +kernel)⟩
theorem lw_p36 : lw_okq (⟨"TaskDesk", "wakeFirstOfSignal", "(LTaskDesk$Gate;)V"⟩, 18) := ⟨⟨by decide +kernel, by decide +kernel⟩, List.mem_of_getElem? (i := 19) (by decide +kernel), List.mem_of_getElem? (i := 764) (by decide +kernel), List.mem_of_getElem? (i := 765) (by decide +kernel)⟩
theorem lw_p37 : lw_okq (⟨"TaskDesk", "endReading", "(LTaskDesk$Gate;)V"⟩, 18) := ⟨⟨by decide +kernel, by decide +kernel⟩, List.mem_of_getElem? (i := 19) (by decide +kernel), List.mem_of_getElem? (i := 782) (by decide +kernel), List.mem_of_getElem? (i := 783) (by decide +kernel)⟩
theorem lw_p38 : lw_okq (⟨"TaskDesk", "wakeAllOfSignal", "(LTaskDesk$Gate;)V"⟩, 18) := ⟨⟨by decide +kernel, by decide +kernel⟩, List.mem_of_getElem? (i := 19) (by decide +kernel), List.mem_of_getElem? (i := 786) (by decide +kernel), List.mem_of_getElem? (i := 787) (by decide +kernel)⟩
theorem lw_p39 : lw_okq (⟨"TaskDesk", "mustBeTask", "(I)LTaskDesk$Task;"⟩, 18) := ⟨⟨by decide +kernel, by decide +kernel⟩, List.mem_of_getElem? (i := 19) (by decide +kernel), List.mem_of_getElem? (i := 798) (by decide +kernel), List.mem_of_getElem? (i := 799) (by decide +kernel)⟩
theorem lw_p40 : lw_okq (⟨"TaskDesk", "countBefore", "(LTaskDesk$Place;)I"⟩, 18) := ⟨⟨by decide +kernel, by decide +kernel⟩, List.mem_of_getElem? (i := 19) (by decide +kernel), List.mem_of_getElem? (i := 818) (by decide +kernel), List.mem_of_getElem? (i := 819) (by decide +kernel)⟩
theorem lw_p41 : lw_okq (⟨"TaskDeskModel", "fail", "(I)I"⟩, 42) := ⟨⟨by decide +kernel, by decide +kernel⟩, List.mem_of_getElem? (i := 846) (by decide +kernel), List.mem_of_getElem? (i := 990) (by decide +kernel), List.mem_of_getElem? (i := 991) (by decide +kernel)⟩
theorem lw_p42 : lw_okq (⟨"TaskDeskModel", "isChannel", "(I)Z"⟩, 42) := ⟨⟨by decide +kernel, by decide +kernel⟩, List.mem_of_getElem? (i := 846) (by decide +kernel), List.mem_of_getElem? (i := 998) (by decide +kernel), List.mem_of_getElem? (i := 999) (by decide +kernel)⟩
theorem lw_p43 : lw_okq (⟨"TaskDeskModel", "first", "(IZ)I"⟩, 42) := ⟨⟨by decide +kernel, by decide +kernel⟩, List.mem_of_getElem? (i := 846) (by decide +kernel), List.mem_of_getElem? (i := 1002) (by decide +kernel), List.mem_of_getElem? (i := 1003) (by decide +kernel)⟩
theorem lw_p44 : lw_okq (⟨"TaskDeskModel", "held", "(I)I"⟩, 42) := ⟨⟨by decide +kernel, by decide +kernel⟩, List.mem_of_getElem? (i := 846) (by decide +kernel), List.mem_of_getElem? (i := 1006) (by decide +kernel), List.mem_of_getElem? (i := 1007) (by decide +kernel)⟩
theorem lw_p45 : lw_okq (⟨"TaskDeskModel", "takeFirst", "(I)J"⟩, 42) := ⟨⟨by decide +kernel, by decide +kernel⟩, List.mem_of_getElem? (i := 846) (by decide +kernel), List.mem_of_getElem? (i := 1010) (by decide +kernel), List.mem_of_getElem? (i := 1011) (by decide +kernel)⟩
theorem lw_p46 : lw_okq (⟨"TaskDeskModel", "no", "(I)Z"⟩, 42) := ⟨⟨by decide +kernel, by decide +kernel⟩, List.mem_of_getElem? (i := 846) (by decide +kernel), List.mem_of_getElem? (i := 1023) (by decide +kernel), List.mem_of_getElem? (i := 1024) (by decide +kernel)⟩
theorem lw_p47 : lw_okq (⟨"TaskDeskModel", "maySend", "(I)Z"⟩, 42) := ⟨⟨by decide +kernel, by decide +kernel⟩, List.mem_of_getElem? (i := 846) (by decide +kernel), List.mem_of_getElem? (i := 1027) (by decide +kernel), List.mem_of_getElem? (i := 1028) (by decide +kernel)⟩
def lw_privs_3 : List (MethodName × Nat) := [(⟨"TaskDesk", "giveLockBack", "(LTaskDesk$Gate;)V"⟩, 18), (⟨"TaskDesk", "endWriting", "(LTaskDesk$Gate;)V"⟩, 18), (⟨"TaskDesk", "letWriterIn", "(LTaskDesk$Gate;)V"⟩, 18), (⟨"TaskDesk", "setGroup", "(LTaskDesk$Gate;I)V"⟩, 18), (⟨"TaskDesk", "wakeFirstOfSignal", "(LTaskDesk$Gate;)V"⟩, 18), (⟨"TaskDesk", "endReading", "(LTaskDesk$Gate;)V"⟩, 18), (⟨"TaskDesk", "wakeAllOfSignal", "(LTaskDesk$Gate;)V"⟩, 18), (⟨"TaskDesk", "mustBeTask", "(I)LTaskDesk$Task;"⟩, 18), (⟨"TaskDesk", "countBefore", "(LTaskDesk$Place;)I"⟩, 18), (⟨"TaskDeskModel", "fail", "(I)I"⟩, 42), (⟨"TaskDeskModel", "isChannel", "(I)Z"⟩, 42), (⟨"TaskDeskModel", "first", "(IZ)I"⟩, 42), (⟨"TaskDeskModel", "held", "(I)I"⟩, 42), (⟨"TaskDeskModel", "takeFirst", "(I)J"⟩, 42), (⟨"TaskDeskModel", "no", "(I)Z"⟩, 42), (⟨"TaskDeskModel", "maySend", "(I)Z"⟩, 42)]
theorem lw_r3 : ∀ q ∈ lw_privs_3, lw_okq q := List.forall_mem_cons.mpr ⟨lw_p32, List.forall_mem_cons.mpr ⟨lw_p33, List.forall_mem_cons.mpr ⟨lw_p34, List.forall_mem_cons.mpr ⟨lw_p35, List.forall_mem_cons.mpr ⟨lw_p36, List.forall_mem_cons.mpr ⟨lw_p37, List.forall_mem_cons.mpr ⟨lw_p38, List.forall_mem_cons.mpr ⟨lw_p39, List.forall_mem_cons.mpr ⟨lw_p40, List.forall_mem_cons.mpr ⟨lw_p41, List.forall_mem_cons.mpr ⟨lw_p42, List.forall_mem_cons.mpr ⟨lw_p43, List.forall_mem_cons.mpr ⟨lw_p44, List.forall_mem_cons.mpr ⟨lw_p45, List.forall_mem_cons.mpr ⟨lw_p46, List.forall_mem_cons.mpr ⟨lw_p47, fun _ h => absurd h List.not_mem_nil⟩⟩⟩⟩⟩⟩⟩⟩⟩⟩⟩⟩⟩⟩⟩⟩
theorem lw_p48 : lw_okq (⟨"TaskDeskModel", "deliver", "(IJ)V"⟩, 42) := ⟨⟨by decide +kernel, by decide +kernel⟩, List.mem_of_getElem? (i := 846) (by decide +kernel), List.mem_of_getElem? (i := 1031) (by decide +kernel), List.mem_of_getElem? (i := 1032) (by decide +kernel)⟩
theorem lw_p49 : lw_okq (⟨"TaskDeskModel", "met", "(IJZZ)V"⟩, 42) := ⟨⟨by decide +kernel, by decide +kernel⟩, List.mem_of_getElem? (i := 846) (by decide +kernel), List.mem_of_getElem? (i := 1035) (by decide +kernel), List.mem_of_getElem? (i := 1036) (by decide +kernel)⟩
theorem lw_p50 : lw_okq (⟨"TaskDeskModel", "has", "(IJZIZ)V"⟩, 42) := ⟨⟨by decide +kernel, by decide +kernel⟩, List.mem_of_getElem? (i := 846) (by decide +kernel), List.mem_of_getElem? (i := 1039) (by decide +kernel), List.mem_of_getElem? (i := 1040) (by decide +kernel)⟩
theorem lw_p51 : lw_okq (⟨"TaskDeskModel", "withdraw", "(I)V"⟩, 42) := ⟨⟨by decide +kernel, by decide +kernel⟩, List.mem_of_getElem? (i := 846) (by decide +kernel), List.mem_of_getElem? (i := 1043) (by decide +kernel), List.mem_of_getElem? (i := 1044) (by decide +kernel)⟩
theorem lw_p52 : lw_okq (⟨"TaskDeskModel", "wake", "(I)V"⟩, 42) := ⟨⟨by decide +kernel, by decide +kernel⟩, List.mem_of_getElem? (i := 846) (by decide +kernel), List.mem_of_getElem? (i := 1047) (by decide +kernel), List.mem_of_getElem? (i := 1048) (by decide +kernel)⟩
theorem lw_p53 : lw_okq (⟨"TaskDeskModel", "store", "(IJ)V"⟩, 42) := ⟨⟨by decide +kernel, by decide +kernel⟩, List.mem_of_getElem? (i := 846) (by decide +kernel), List.mem_of_getElem? (i := 1051) (by decide +kernel), List.mem_of_getElem? (i := 1052) (by decide +kernel)⟩
theorem lw_p54 : lw_okq (⟨"TaskDeskModel", "offer", "(IIZJI)V"⟩, 42) := ⟨⟨by decide +kernel, by decide +kernel⟩, List.mem_of_getElem? (i := 846) (by decide +kernel), List.mem_of_getElem? (i := 1055) (by decide +kernel), List.mem_of_getElem? (i := 1056) (by decide +kernel)⟩
theorem lw_p55 : lw_okq (⟨"TaskDeskModel", "rest", "(II)V"⟩, 42) := ⟨⟨by decide +kernel, by decide +kernel⟩, List.mem_of_getElem? (i := 846) (by decide +kernel), List.mem_of_getElem? (i := 1059) (by decide +kernel), List.mem_of_getElem? (i := 1060) (by decide +kernel)⟩
theorem lw_p56 : lw_okq (⟨"TaskDeskModel", "next", "()V"⟩, 42) := ⟨⟨by decide +kernel, by decide +kernel⟩, List.mem_of_getElem? (i := 846) (by decide +kernel), List.mem_of_getElem? (i := 1063) (by decide +kernel), List.mem_of_getElem? (i := 1064) (by decide +kernel)⟩
theorem lw_p57 : lw_okq (⟨"TaskDeskModel", "ring", "()V"⟩, 42) := ⟨⟨by decide +kernel, by decide +kernel⟩, List.mem_of_getElem? (i := 846) (by decide +kernel), List.mem_of_getElem? (i := 1067) (by decide +kernel), List.mem_of_getElem? (i := 1068) (by decide +kernel)⟩
theorem lw_p58 : lw_okq (⟨"TaskDeskModel", "rings", "(I)V"⟩, 42) := ⟨⟨by decide +kernel, by decide +kernel⟩, List.mem_of_getElem? (i := 846) (by decide +kernel), List.mem_of_getElem? (i := 1071) (by decide +kernel), List.mem_of_getElem? (i := 1072) (by decide +kernel)⟩
theorem lw_p59 : lw_okq (⟨"TaskDeskModel", "mayReceive", "(I)Z"⟩, 42) := ⟨⟨by decide +kernel, by decide +kernel⟩, List.mem_of_getElem? (i := 846) (by decide +kernel), List.mem_of_getElem? (i := 1079) (by decide +kernel), List.mem_of_getElem? (i := 1080) (by decide +kernel)⟩
theorem lw_p60 : lw_okq (⟨"TaskDeskModel", "take", "(II)V"⟩, 42) := ⟨⟨by decide +kernel, by decide +kernel⟩, List.mem_of_getElem? (i := 846) (by decide +kernel), List.mem_of_getElem? (i := 1083) (by decide +kernel), List.mem_of_getElem? (i := 1084) (by decide +kernel)⟩
theorem lw_p61 : lw_okq (⟨"TaskDeskModel", "isReady", "(I)Z"⟩, 42) := ⟨⟨by decide +kernel, by decide +kernel⟩, List.mem_of_getElem? (i := 846) (by decide +kernel), List.mem_of_getElem? (i := 1099) (by decide +kernel), List.mem_of_getElem? (i := 1100) (by decide +kernel)⟩
theorem lw_p62 : lw_okq (⟨"TaskDeskModel", "done", "(I)Z"⟩, 42) := ⟨⟨by decide +kernel, by decide +kernel⟩, List.mem_of_getElem? (i := 846) (by decide +kernel), List.mem_of_getElem? (i := 1103) (by decide +kernel), List.mem_of_getElem? (i := 1104) (by decide +kernel)⟩
theorem lw_p63 : lw_okq (⟨"TaskDeskModel", "isGate", "(I)Z"⟩, 42) := ⟨⟨by decide +kernel, by decide +kernel⟩, List.mem_of_getElem? (i := 846) (by decide +kernel), List.mem_of_getElem? (i := 1128) (by decide +kernel), List.mem_of_getElem? (i := 1129) (by decide +kernel)⟩
def lw_privs_4 : List (MethodName × Nat) := [(⟨"TaskDeskModel", "deliver", "(IJ)V"⟩, 42), (⟨"TaskDeskModel", "met", "(IJZZ)V"⟩, 42), (⟨"TaskDeskModel", "has", "(IJZIZ)V"⟩, 42), (⟨"TaskDeskModel", "withdraw", "(I)V"⟩, 42), (⟨"TaskDeskModel", "wake", "(I)V"⟩, 42), (⟨"TaskDeskModel", "store", "(IJ)V"⟩, 42), (⟨"TaskDeskModel", "offer", "(IIZJI)V"⟩, 42), (⟨"TaskDeskModel", "rest", "(II)V"⟩, 42), (⟨"TaskDeskModel", "next", "()V"⟩, 42), (⟨"TaskDeskModel", "ring", "()V"⟩, 42), (⟨"TaskDeskModel", "rings", "(I)V"⟩, 42), (⟨"TaskDeskModel", "mayReceive", "(I)Z"⟩, 42), (⟨"TaskDeskModel", "take", "(II)V"⟩, 42), (⟨"TaskDeskModel", "isReady", "(I)Z"⟩, 42), (⟨"TaskDeskModel", "done", "(I)Z"⟩, 42), (⟨"TaskDeskModel", "isGate", "(I)Z"⟩, 42)]
theorem lw_r4 : ∀ q ∈ lw_privs_4, lw_okq q := List.forall_mem_cons.mpr ⟨lw_p48, List.forall_mem_cons.mpr ⟨lw_p49, List.forall_mem_cons.mpr ⟨lw_p50, List.forall_mem_cons.mpr ⟨lw_p51, List.forall_mem_cons.mpr ⟨lw_p52, List.forall_mem_cons.mpr ⟨lw_p53, List.forall_mem_cons.mpr ⟨lw_p54, List.forall_mem_cons.mpr ⟨lw_p55, List.forall_mem_cons.mpr ⟨lw_p56, List.forall_mem_cons.mpr ⟨lw_p57, List.forall_mem_cons.mpr ⟨lw_p58, List.forall_mem_cons.mpr ⟨lw_p59, List.forall_mem_cons.mpr ⟨lw_p60, List.forall_mem_cons.mpr ⟨lw_p61, List.forall_mem_cons.mpr ⟨lw_p62, List.forall_mem_cons.mpr ⟨lw_p63, fun _ h => absurd h List.not_mem_nil⟩⟩⟩⟩⟩⟩⟩⟩⟩⟩⟩⟩⟩⟩⟩⟩
theorem lw_p64 : lw_okq (⟨"TaskDeskModel", "passes", "(ZIZZ)Z"⟩, 42) := ⟨⟨by decide +kernel, by decide +kernel⟩, List.mem_of_getElem? (i := 846) (by decide +kernel), List.mem_of_getElem? (i := 1136) (by decide +kernel), List.mem_of_getElem? (i := 1137) (by decide +kernel)⟩
theorem lw_p65 : lw_okq (⟨"TaskDeskModel", "stand", "(IIZ)V"⟩, 42) := ⟨⟨by decide +kernel, by decide +kernel⟩, List.mem_of_getElem? (i := 846) (by decide +kernel), List.mem_of_getElem? (i := 1140) (by decide +kernel), List.mem_of_getElem? (i := 1141) (by decide +kernel)⟩
theorem lw_p66 : lw_okq (⟨"TaskDeskModel", "unlock", "(I)V"⟩, 42) := ⟨⟨by decide +kernel, by decide +kernel⟩, List.mem_of_getElem? (i := 846) (by decide +kernel), List.mem_of_getElem? (i := 1144) (by decide +kernel), List.mem_of_getElem? (i := 1145) (by decide +kernel)⟩
theorem lw_p67 : lw_okq (⟨"TaskDeskModel", "standing", "(II)I"⟩, 42) := ⟨⟨by decide +kernel, by decide +kernel⟩, List.mem_of_getElem? (i := 846) (by decide +kernel), List.mem_of_getElem? (i := 1148) (by decide +kernel), List.mem_of_getElem? (i := 1149) (by decide +kernel)⟩
theorem lw_p68 : lw_okq (⟨"TaskDeskModel", "lets", "(IZ)V"⟩, 42) := ⟨⟨by decide +kernel, by decide +kernel⟩, List.mem_of_getElem? (i := 846) (by decide +kernel), List.mem_of_getElem? (i := 1152) (by decide +kernel), List.mem_of_getElem? (i := 1153) (by decide +kernel)⟩
theorem lw_p69 : lw_okq (⟨"TaskDeskModel", "takeOut", "(I)I"⟩, 42) := ⟨⟨by decide +kernel, by decide +kernel⟩, List.mem_of_getElem? (i := 846) (by decide +kernel), List.mem_of_getElem? (i := 1156) (by decide +kernel), List.mem_of_getElem? (i := 1157) (by decide +kernel)⟩
theorem lw_p70 : lw_okq (⟨"TaskDeskModel", "letReaders", "(I)V"⟩, 42) := ⟨⟨by decide +kernel, by decide +kernel⟩, List.mem_of_getElem? (i := 846) (by decide +kernel), List.mem_of_getElem? (i := 1168) (by decide +kernel), List.mem_of_getElem? (i := 1169) (by decide +kernel)⟩
theorem lw_p71 : lw_okq (⟨"TaskDeskModel", "letWriter", "(I)V"⟩, 42) := ⟨⟨by decide +kernel, by decide +kernel⟩, List.mem_of_getElem? (i := 846) (by decide +kernel), List.mem_of_getElem? (i := 1172) (by decide +kernel), List.mem_of_getElem? (i := 1173) (by decide +kernel)⟩
theorem lw_p72 : lw_okq (⟨"TaskDeskModel", "grow", "(II)V"⟩, 42) := ⟨⟨by decide +kernel, by decide +kernel⟩, List.mem_of_getElem? (i := 846) (by decide +kernel), List.mem_of_getElem? (i := 1176) (by decide +kernel), List.mem_of_getElem? (i := 1177) (by decide +kernel)⟩
theorem lw_p73 : lw_okq (⟨"TaskDeskModel", "letAll", "(IZ)V"⟩, 42) := ⟨⟨by decide +kernel, by decide +kernel⟩, List.mem_of_getElem? (i := 846) (by decide +kernel), List.mem_of_getElem? (i := 1180) (by decide +kernel), List.mem_of_getElem? (i := 1181) (by decide +kernel)⟩
theorem lw_p74 : lw_okq (⟨"TaskDeskModel", "signal", "(I)V"⟩, 42) := ⟨⟨by decide +kernel, by decide +kernel⟩, List.mem_of_getElem? (i := 846) (by decide +kernel), List.mem_of_getElem? (i := 1184) (by decide +kernel), List.mem_of_getElem? (i := 1185) (by decide +kernel)⟩
theorem lw_p75 : lw_okq (⟨"TaskDeskModel", "waitAt", "(I)I"⟩, 42) := ⟨⟨by decide +kernel, by decide +kernel⟩, List.mem_of_getElem? (i := 846) (by decide +kernel), List.mem_of_getElem? (i := 1192) (by decide +kernel), List.mem_of_getElem? (i := 1193) (by decide +kernel)⟩
theorem lw_p76 : lw_okq (⟨"TaskDeskModel", "isTask", "(I)Z"⟩, 42) := ⟨⟨by decide +kernel, by decide +kernel⟩, List.mem_of_getElem? (i := 846) (by decide +kernel), List.mem_of_getElem? (i := 1204) (by decide +kernel), List.mem_of_getElem? (i := 1205) (by decide +kernel)⟩
theorem lw_p77 : lw_okq (⟨"TaskDeskModel", "living", "()I"⟩, 42) := ⟨⟨by decide +kernel, by decide +kernel⟩, List.mem_of_getElem? (i := 846) (by decide +kernel), List.mem_of_getElem? (i := 1228) (by decide +kernel), List.mem_of_getElem? (i := 1229) (by decide +kernel)⟩
theorem lw_p78 : lw_okq (⟨"TaskDeskModel", "channels", "()I"⟩, 42) := ⟨⟨by decide +kernel, by decide +kernel⟩, List.mem_of_getElem? (i := 846) (by decide +kernel), List.mem_of_getElem? (i := 1232) (by decide +kernel), List.mem_of_getElem? (i := 1233) (by decide +kernel)⟩
def lw_privs_5 : List (MethodName × Nat) := [(⟨"TaskDeskModel", "passes", "(ZIZZ)Z"⟩, 42), (⟨"TaskDeskModel", "stand", "(IIZ)V"⟩, 42), (⟨"TaskDeskModel", "unlock", "(I)V"⟩, 42), (⟨"TaskDeskModel", "standing", "(II)I"⟩, 42), (⟨"TaskDeskModel", "lets", "(IZ)V"⟩, 42), (⟨"TaskDeskModel", "takeOut", "(I)I"⟩, 42), (⟨"TaskDeskModel", "letReaders", "(I)V"⟩, 42), (⟨"TaskDeskModel", "letWriter", "(I)V"⟩, 42), (⟨"TaskDeskModel", "grow", "(II)V"⟩, 42), (⟨"TaskDeskModel", "letAll", "(IZ)V"⟩, 42), (⟨"TaskDeskModel", "signal", "(I)V"⟩, 42), (⟨"TaskDeskModel", "waitAt", "(I)I"⟩, 42), (⟨"TaskDeskModel", "isTask", "(I)Z"⟩, 42), (⟨"TaskDeskModel", "living", "()I"⟩, 42), (⟨"TaskDeskModel", "channels", "()I"⟩, 42)]
theorem lw_r5 : ∀ q ∈ lw_privs_5, lw_okq q := List.forall_mem_cons.mpr ⟨lw_p64, List.forall_mem_cons.mpr ⟨lw_p65, List.forall_mem_cons.mpr ⟨lw_p66, List.forall_mem_cons.mpr ⟨lw_p67, List.forall_mem_cons.mpr ⟨lw_p68, List.forall_mem_cons.mpr ⟨lw_p69, List.forall_mem_cons.mpr ⟨lw_p70, List.forall_mem_cons.mpr ⟨lw_p71, List.forall_mem_cons.mpr ⟨lw_p72, List.forall_mem_cons.mpr ⟨lw_p73, List.forall_mem_cons.mpr ⟨lw_p74, List.forall_mem_cons.mpr ⟨lw_p75, List.forall_mem_cons.mpr ⟨lw_p76, List.forall_mem_cons.mpr ⟨lw_p77, List.forall_mem_cons.mpr ⟨lw_p78, fun _ h => absurd h List.not_mem_nil⟩⟩⟩⟩⟩⟩⟩⟩⟩⟩⟩⟩⟩⟩⟩
def lw_privs : List (MethodName × Nat) := lw_privs_1 ++ (lw_privs_2 ++ (lw_privs_3 ++ (lw_privs_4 ++ (lw_privs_5))))
def lw_tbl : List Cond := k2_sels lw_privs ++ tables_1
theorem lw_privs_ok : ∀ q ∈ lw_privs, lw_okq q := by
  show ∀ q ∈ lw_privs_1 ++ (lw_privs_2 ++ (lw_privs_3 ++ (lw_privs_4 ++ (lw_privs_5)))), lw_okq q
  exact List.forall_mem_append.mpr ⟨lw_r1, List.forall_mem_append.mpr ⟨lw_r2, List.forall_mem_append.mpr ⟨lw_r3, List.forall_mem_append.mpr ⟨lw_r4, lw_r5⟩⟩⟩⟩
end
section
/-! classes, fields, arrays, methods by numbers: printed by wip/tools/tables.py -/
def kt_F0 : u_T := fun k => match k with
  | 0 => ("TaskDesk", "tasks", "[LTaskDesk$Task;", true)
  | 1 => ("TaskDesk", "taskCount", "I", false)
  | 2 => ("TaskDesk", "ready", "LTaskDesk$Row;", true)
  | 3 => ("TaskDesk", "running", "LTaskDesk$Task;", false)
  | 4 => ("TaskDesk", "over", "Z", false)
  | 5 => ("TaskDesk", "now", "J", false)
  | 6 => ("TaskDesk", "agenda", "LTaskDesk$Agenda;", true)
  | 7 => ("TaskDesk", "alarmCount", "I", false)
  | 8 => ("TaskDesk", "channels", "[LTaskDesk$Channel;", true)
  | 9 => ("TaskDesk", "nowhere", "LTaskDesk$Channel;", true)
  | 10 => ("TaskDesk", "channelCount", "I", false)
  | 11 => ("TaskDesk", "roomGiven", "I", false)
  | 12 => ("TaskDesk", "freeValue", "LTaskDesk$Value;", false)
  | 13 => ("TaskDesk", "told", "[LTaskDesk$Place;", true)
  | 14 => ("TaskDesk", "toldCount", "I", false)
  | 15 => ("TaskDesk", "freePlace", "LTaskDesk$Place;", false)
  | 16 => ("TaskDesk", "gates", "[LTaskDesk$Gate;", true)
  | _ => ("TaskDesk", "gateCount", "I", false)
def kt_y0 : Nat → FieldType := fun k => match k with
  | 0 => .array (.object "TaskDesk$Task")
  | 1 => .int
  | 2 => .object "TaskDesk$Row"
  | 3 => .object "TaskDesk$Task"
  | 4 => .boolean
  | 5 => .long
  | 6 => .object "TaskDesk$Agenda"
  | 7 => .int
  | 8 => .array (.object "TaskDesk$Channel")
  | 9 => .object "TaskDesk$Channel"
  | 10 => .int
  | 11 => .int
  | 12 => .object "TaskDesk$Value"
  | 13 => .array (.object "TaskDesk$Place")
  | 14 => .int
  | 15 => .object "TaskDesk$Place"
  | 16 => .array (.object "TaskDesk$Gate")
  | _ => .int
def kt_F1 : u_T := fun k => match k with
  | 0 => ("TaskDesk$Agenda", "first", "LTaskDesk$Timer;", false)
  | _ => ("TaskDesk$Agenda", "free", "LTaskDesk$Timer;", false)
def kt_y1 : Nat → FieldType := fun k => match k with
  | 0 => .object "TaskDesk$Timer"
  | _ => .object "TaskDesk$Timer"
def kt_F2 : u_T := fun k => match k with
  | 0 => ("TaskDesk$Channel", "number", "I", true)
  | 1 => ("TaskDesk$Channel", "senders", "LTaskDesk$Row;", true)
  | 2 => ("TaskDesk$Channel", "receivers", "LTaskDesk$Row;", true)
  | 3 => ("TaskDesk$Channel", "there", "Z", false)
  | 4 => ("TaskDesk$Channel", "closed", "Z", false)
  | 5 => ("TaskDesk$Channel", "room", "I", false)
  | 6 => ("TaskDesk$Channel", "held", "I", false)
  | 7 => ("TaskDesk$Channel", "alarms", "I", false)
  | 8 => ("TaskDesk$Channel", "first", "LTaskDesk$Value;", false)
  | _ => ("TaskDesk$Channel", "last", "LTaskDesk$Value;", false)
def kt_y2 : Nat → FieldType := fun k => match k with
  | 0 => .int
  | 1 => .object "TaskDesk$Row"
  | 2 => .object "TaskDesk$Row"
  | 3 => .boolean
  | 4 => .boolean
  | 5 => .int
  | 6 => .int
  | 7 => .int
  | 8 => .object "TaskDesk$Value"
  | _ => .object "TaskDesk$Value"
def kt_F3 : u_T := fun k => match k with
  | 0 => ("TaskDesk$Gate", "number", "I", true)
  | 1 => ("TaskDesk$Gate", "waiting", "LTaskDesk$Row;", true)
  | 2 => ("TaskDesk$Gate", "readers", "LTaskDesk$Row;", true)
  | 3 => ("TaskDesk$Gate", "kind", "I", false)
  | 4 => ("TaskDesk$Gate", "taken", "I", false)
  | _ => ("TaskDesk$Gate", "lock", "LTaskDesk$Gate;", false)
def kt_y3 : Nat → FieldType := fun k => match k with
  | 0 => .int
  | 1 => .object "TaskDesk$Row"
  | 2 => .object "TaskDesk$Row"
  | 3 => .int
  | 4 => .int
  | _ => .object "TaskDesk$Gate"
def kt_F4 : u_T := fun k => match k with
  | 0 => ("TaskDesk$Place", "owner", "LTaskDesk$Task;", false)
  | 1 => ("TaskDesk$Place", "target", "LTaskDesk$Channel;", false)
  | 2 => ("TaskDesk$Place", "sends", "Z", false)
  | 3 => ("TaskDesk$Place", "value", "J", false)
  | 4 => ("TaskDesk$Place", "caseNumber", "I", false)
  | 5 => ("TaskDesk$Place", "row", "LTaskDesk$Row;", false)
  | 6 => ("TaskDesk$Place", "before", "LTaskDesk$Place;", false)
  | 7 => ("TaskDesk$Place", "behind", "LTaskDesk$Place;", false)
  | _ => ("TaskDesk$Place", "sibling", "LTaskDesk$Place;", false)
def kt_y4 : Nat → FieldType := fun k => match k with
  | 0 => .object "TaskDesk$Task"
  | 1 => .object "TaskDesk$Channel"
  | 2 => .boolean
  | 3 => .long
  | 4 => .int
  | 5 => .object "TaskDesk$Row"
  | 6 => .object "TaskDesk$Place"
  | 7 => .object "TaskDesk$Place"
  | _ => .object "TaskDesk$Place"
def kt_F5 : u_T := fun k => match k with
  | 0 => ("TaskDesk$Row", "first", "LTaskDesk$Place;", false)
  | 1 => ("TaskDesk$Row", "last", "LTaskDesk$Place;", false)
  | _ => ("TaskDesk$Row", "length", "I", false)
def kt_y5 : Nat → FieldType := fun k => match k with
  | 0 => .object "TaskDesk$Place"
  | 1 => .object "TaskDesk$Place"
  | _ => .int
def kt_F6 : u_T := fun k => match k with
  | 0 => ("TaskDesk$Task", "number", "I", true)
  | 1 => ("TaskDesk$Task", "stand", "LTaskDesk$Place;", true)
  | 2 => ("TaskDesk$Task", "alive", "Z", false)
  | 3 => ("TaskDesk$Task", "state", "I", false)
  | 4 => ("TaskDesk$Task", "at", "I", false)
  | 5 => ("TaskDesk$Task", "cases", "LTaskDesk$Place;", false)
  | 6 => ("TaskDesk$Task", "result", "J", false)
  | 7 => ("TaskDesk$Task", "flag", "Z", false)
  | 8 => ("TaskDesk$Task", "caseNumber", "I", false)
  | _ => ("TaskDesk$Task", "broken", "Z", false)
def kt_y6 : Nat → FieldType := fun k => match k with
  | 0 => .int
  | 1 => .object "TaskDesk$Place"
  | 2 => .boolean
  | 3 => .int
  | 4 => .int
  | 5 => .object "TaskDesk$Place"
  | 6 => .long
  | 7 => .boolean
  | 8 => .int
  | _ => .boolean
def kt_F7 : u_T := fun k => match k with
  | 0 => ("TaskDesk$Timer", "time", "J", false)
  | 1 => ("TaskDesk$Timer", "sleeper", "LTaskDesk$Task;", false)
  | 2 => ("TaskDesk$Timer", "target", "LTaskDesk$Channel;", false)
  | _ => ("TaskDesk$Timer", "behind", "LTaskDesk$Timer;", false)
def kt_y7 : Nat → FieldType := fun k => match k with
  | 0 => .long
  | 1 => .object "TaskDesk$Task"
  | 2 => .object "TaskDesk$Channel"
  | _ => .object "TaskDesk$Timer"
def kt_F8 : u_T := fun k => match k with
  | 0 => ("TaskDesk$Value", "number", "J", false)
  | _ => ("TaskDesk$Value", "behind", "LTaskDesk$Value;", false)
def kt_y8 : Nat → FieldType := fun k => match k with
  | 0 => .long
  | _ => .object "TaskDesk$Value"
def kt_F9 : u_T := fun k => match k with
  | 0 => ("TaskDeskModel", "thrown", "I", false)
  | 1 => ("TaskDeskModel", "current", "I", false)
  | 2 => ("TaskDeskModel", "standing", "I", false)
  | 3 => ("TaskDeskModel", "clock", "J", false)
  | 4 => ("TaskDeskModel", "lives", "[Z", true)
  | 5 => ("TaskDeskModel", "state", "[I", true)
  | 6 => ("TaskDeskModel", "where", "[I", true)
  | 7 => ("TaskDeskModel", "number", "[J", true)
  | 8 => ("TaskDeskModel", "flag", "[Z", true)
  | 9 => ("TaskDeskModel", "chosen", "[I", true)
  | 10 => ("TaskDeskModel", "broken", "[Z", true)
  | 11 => ("TaskDeskModel", "readies", "I", false)
  | 12 => ("TaskDeskModel", "ready", "[I", true)
  | 13 => ("TaskDeskModel", "isThere", "[Z", true)
  | 14 => ("TaskDeskModel", "closed", "[Z", true)
  | 15 => ("TaskDeskModel", "room", "[I", true)
  | 16 => ("TaskDeskModel", "rooms", "I", false)
  | 17 => ("TaskDeskModel", "values", "I", false)
  | 18 => ("TaskDeskModel", "valueOf", "[I", true)
  | 19 => ("TaskDeskModel", "value", "[J", true)
  | 20 => ("TaskDeskModel", "offers", "I", false)
  | 21 => ("TaskDeskModel", "whose", "[I", true)
  | 22 => ("TaskDeskModel", "at", "[I", true)
  | 23 => ("TaskDeskModel", "gives", "[Z", true)
  | 24 => ("TaskDeskModel", "what", "[J", true)
  | 25 => ("TaskDeskModel", "which", "[I", true)
  | 26 => ("TaskDeskModel", "told", "I", false)
  | 27 => ("TaskDeskModel", "toldAt", "[I", true)
  | 28 => ("TaskDeskModel", "toldGives", "[Z", true)
  | 29 => ("TaskDeskModel", "toldWhat", "[J", true)
  | 30 => ("TaskDeskModel", "gates", "I", false)
  | 31 => ("TaskDeskModel", "kind", "[I", true)
  | 32 => ("TaskDeskModel", "held", "[I", true)
  | 33 => ("TaskDeskModel", "lockOf", "[I", true)
  | 34 => ("TaskDeskModel", "standers", "I", false)
  | 35 => ("TaskDeskModel", "stander", "[I", true)
  | 36 => ("TaskDeskModel", "gateOf", "[I", true)
  | 37 => ("TaskDeskModel", "reads", "[Z", true)
  | 38 => ("TaskDeskModel", "events", "I", false)
  | 39 => ("TaskDeskModel", "event", "[I", true)
  | 40 => ("TaskDeskModel", "when", "[J", true)
  | _ => ("TaskDeskModel", "alarms", "I", false)
def kt_y9 : Nat → FieldType := fun k => match k with
  | 0 => .int
  | 1 => .int
  | 2 => .int
  | 3 => .long
  | 4 => .array .boolean
  | 5 => .array .int
  | 6 => .array .int
  | 7 => .array .long
  | 8 => .array .boolean
  | 9 => .array .int
  | 10 => .array .boolean
  | 11 => .int
  | 12 => .array .int
  | 13 => .array .boolean
  | 14 => .array .boolean
  | 15 => .array .int
  | 16 => .int
  | 17 => .int
  | 18 => .array .int
  | 19 => .array .long
  | 20 => .int
  | 21 => .array .int
  | 22 => .array .int
  | 23 => .array .boolean
  | 24 => .array .long
  | 25 => .array .int
  | 26 => .int
  | 27 => .array .int
  | 28 => .array .boolean
  | 29 => .array .long
  | 30 => .int
  | 31 => .array .int
  | 32 => .array .int
  | 33 => .array .int
  | 34 => .int
  | 35 => .array .int
  | 36 => .array .int
  | 37 => .array .boolean
  | 38 => .int
  | 39 => .array .int
  | 40 => .array .long
  | _ => .int
abbrev kx_cl : List vw_C := [("TaskDesk", kt_F0, 18), ("TaskDesk$Agenda", kt_F1, 2), ("TaskDesk$Channel", kt_F2, 10), ("TaskDesk$Gate", kt_F3, 6), ("TaskDesk$Place", kt_F4, 9), ("TaskDesk$Row", kt_F5, 3), ("TaskDesk$Task", kt_F6, 10), ("TaskDesk$Timer", kt_F7, 4), ("TaskDesk$Value", kt_F8, 2), ("TaskDeskModel", kt_F9, 42)]
/-- the kind of a field (0 an int, 1 a long, 2 a reference, 3 a boolean), and the tag of what it refers to -/
def kx_ft (t k : Nat) : Nat × Nat := match t with
  | 0 => (match k with
    | 0 => (2, 102)
    | 1 => (0, 0)
    | 2 => (2, 5)
    | 3 => (2, 6)
    | 4 => (3, 0)
    | 5 => (1, 0)
    | 6 => (2, 1)
    | 7 => (0, 0)
    | 8 => (2, 103)
    | 9 => (2, 2)
    | 10 => (0, 0)
    | 11 => (0, 0)
    | 12 => (2, 8)
    | 13 => (2, 104)
    | 14 => (0, 0)
    | 15 => (2, 4)
    | 16 => (2, 105)
    | 17 => (0, 0)
    | _ => (0, 0))
  | 1 => (match k with
    | 0 => (2, 7)
    | 1 => (2, 7)
    | _ => (0, 0))
  | 2 => (match k with
    | 0 => (0, 0)
    | 1 => (2, 5)
    | 2 => (2, 5)
    | 3 => (3, 0)
    | 4 => (3, 0)
    | 5 => (0, 0)
    | 6 => (0, 0)
    | 7 => (0, 0)
    | 8 => (2, 8)
    | 9 => (2, 8)
    | _ => (0, 0))
  | 3 => (match k with
    | 0 => (0, 0)
    | 1 => (2, 5)
    | 2 => (2, 5)
    | 3 => (0, 0)
    | 4 => (0, 0)
    | 5 => (2, 3)
    | _ => (0, 0))
  | 4 => (match k with
    | 0 => (2, 6)
    | 1 => (2, 2)
    | 2 => (3, 0)
    | 3 => (1, 0)
    | 4 => (0, 0)
    | 5 => (2, 5)
    | 6 => (2, 4)
    | 7 => (2, 4)
    | 8 => (2, 4)
    | _ => (0, 0))
  | 5 => (match k with
    | 0 => (2, 4)
    | 1 => (2, 4)
    | 2 => (0, 0)
    | _ => (0, 0))
  | 6 => (match k with
    | 0 => (0, 0)
    | 1 => (2, 4)
    | 2 => (3, 0)
    | 3 => (0, 0)
    | 4 => (0, 0)
    | 5 => (2, 4)
    | 6 => (1, 0)
    | 7 => (3, 0)
    | 8 => (0, 0)
    | 9 => (3, 0)
    | _ => (0, 0))
  | 7 => (match k with
    | 0 => (1, 0)
    | 1 => (2, 6)
    | 2 => (2, 2)
    | 3 => (2, 7)
    | _ => (0, 0))
  | 8 => (match k with
    | 0 => (1, 0)
    | 1 => (2, 8)
    | _ => (0, 0))
  | 9 => (match k with
    | 0 => (0, 0)
    | 1 => (0, 0)
    | 2 => (0, 0)
    | 3 => (1, 0)
    | 4 => (2, 101)
    | 5 => (2, 99)
    | 6 => (2, 99)
    | 7 => (2, 100)
    | 8 => (2, 101)
    | 9 => (2, 99)
    | 10 => (2, 101)
    | 11 => (0, 0)
    | 12 => (2, 99)
    | 13 => (2, 101)
    | 14 => (2, 101)
    | 15 => (2, 99)
    | 16 => (0, 0)
    | 17 => (0, 0)
    | 18 => (2, 99)
    | 19 => (2, 100)
    | 20 => (0, 0)
    | 21 => (2, 99)
    | 22 => (2, 99)
    | 23 => (2, 101)
    | 24 => (2, 100)
    | 25 => (2, 99)
    | 26 => (0, 0)
    | 27 => (2, 99)
    | 28 => (2, 101)
    | 29 => (2, 100)
    | 30 => (0, 0)
    | 31 => (2, 99)
    | 32 => (2, 99)
    | 33 => (2, 99)
    | 34 => (0, 0)
    | 35 => (2, 99)
    | 36 => (2, 99)
    | 37 => (2, 101)
    | 38 => (0, 0)
    | 39 => (2, 99)
    | 40 => (2, 100)
    | 41 => (0, 0)
    | _ => (0, 0))
  | _ => (0, 0)
def kx_ak (t : Nat) : Nat × Nat := match t with
  | 99 => (0, 0)
  | 100 => (1, 0)
  | 101 => (3, 0)
  | 102 => (2, 6)
  | 103 => (2, 2)
  | 104 => (2, 4)
  | 105 => (2, 3)
  | _ => (0, 0)
def kx_tys (cA : Nat → ClassId) : List (ClassId × FieldType) := [(cA 99, .int), (cA 100, .long), (cA 101, .boolean), (cA 102, .object "TaskDesk$Task"), (cA 103, .object "TaskDesk$Channel"), (cA 104, .object "TaskDesk$Place"), (cA 105, .object "TaskDesk$Gate")]
def kx_en (e : Nat) : String := match e with
  | 0 => "java/lang/IllegalStateException"
  | 1 => "java/lang/IllegalArgumentException"
  | 2 => "java/lang/UnsupportedOperationException"
  | _ => "java/util/NoSuchElementException"
def kx_cc : Nat := 601024
def kx_cs : Nat := 7293034
def kx_mn (n : Nat) : MethodName := match n with
  | 0 => ⟨"TaskDesk", "<init>", "()V"⟩
  | 1 => ⟨"TaskDesk$Row", "<init>", "()V"⟩
  | 2 => ⟨"TaskDesk$Agenda", "<init>", "()V"⟩
  | 3 => ⟨"TaskDesk$Timer", "<init>", "()V"⟩
  | 4 => ⟨"TaskDesk$Channel", "<init>", "(I)V"⟩
  | 5 => ⟨"TaskDesk$Place", "<init>", "(LTaskDesk$Channel;)V"⟩
  | 6 => ⟨"TaskDesk$Task", "<init>", "(ILTaskDesk$Place;)V"⟩
  | 7 => ⟨"TaskDesk$Gate", "<init>", "(I)V"⟩
  | 8 => ⟨"TaskDesk$Value", "<init>", "()V"⟩
  | 9 => ⟨"TaskDesk", "keepValue", "(LTaskDesk$Value;)V"⟩
  | 10 => ⟨"TaskDesk", "keepPlace", "(LTaskDesk$Place;)V"⟩
  | 11 => ⟨"TaskDesk$Task", "begin", "()V"⟩
  | 12 => ⟨"TaskDesk$Task", "tell", "(JZIZ)V"⟩
  | 13 => ⟨"TaskDesk", "release", "(I)Z"⟩
  | 14 => ⟨"TaskDesk", "channelAt", "(I)LTaskDesk$Channel;"⟩
  | 15 => ⟨"TaskDesk$Channel", "isAwaited", "()Z"⟩
  | 16 => ⟨"TaskDesk", "isTold", "(LTaskDesk$Channel;)Z"⟩
  | 17 => ⟨"TaskDesk", "takeValue", "(LTaskDesk$Channel;)J"⟩
  | 18 => ⟨"TaskDesk$Channel", "removeFirst", "()V"⟩
  | 19 => ⟨"TaskDesk", "current", "()I"⟩
  | 20 => ⟨"TaskDesk", "clock", "()J"⟩
  | 21 => ⟨"TaskDesk", "count", "(I)I"⟩
  | 22 => ⟨"TaskDesk", "howItStands", "()I"⟩
  | 23 => ⟨"TaskDesk", "spawn", "()I"⟩
  | 24 => ⟨"TaskDesk", "mustBeCurrent", "()LTaskDesk$Task;"⟩
  | 25 => ⟨"TaskDesk", "firstFreeTask", "()LTaskDesk$Task;"⟩
  | 26 => ⟨"TaskDesk", "makeReady", "(LTaskDesk$Task;)V"⟩
  | 27 => ⟨"TaskDesk$Task", "waitIn", "(LTaskDesk$Row;II)V"⟩
  | 28 => ⟨"TaskDesk$Row", "append", "(LTaskDesk$Place;)V"⟩
  | 29 => ⟨"TaskDesk", "giveWay", "()I"⟩
  | 30 => ⟨"TaskDesk", "goOn", "()V"⟩
  | 31 => ⟨"TaskDesk$Agenda", "takeFirst", "()LTaskDesk$Timer;"⟩
  | 32 => ⟨"TaskDesk", "ring", "(LTaskDesk$Timer;)V"⟩
  | 33 => ⟨"TaskDesk", "takesAtOnce", "(LTaskDesk$Channel;)Z"⟩
  | 34 => ⟨"TaskDesk", "pass", "(LTaskDesk$Channel;J)V"⟩
  | 35 => ⟨"TaskDesk", "wake", "(LTaskDesk$Place;JZZ)V"⟩
  | 36 => ⟨"TaskDesk", "takeOut", "(LTaskDesk$Task;)V"⟩
  | 37 => ⟨"TaskDesk$Place", "stepOut", "()V"⟩
  | 38 => ⟨"TaskDesk", "putValue", "(LTaskDesk$Channel;J)V"⟩
  | 39 => ⟨"TaskDesk$Channel", "append", "(LTaskDesk$Value;)V"⟩
  | 40 => ⟨"TaskDesk", "finish", "()I"⟩
  | 41 => ⟨"TaskDesk", "endAll", "()V"⟩
  | 42 => ⟨"TaskDesk", "sleep", "(J)I"⟩
  | 43 => ⟨"TaskDesk$Agenda", "note", "(JLTaskDesk$Task;LTaskDesk$Channel;)V"⟩
  | 44 => ⟨"TaskDesk$Agenda", "lastNotAfter", "(J)LTaskDesk$Timer;"⟩
  | 45 => ⟨"TaskDesk", "channel", "(I)I"⟩
  | 46 => ⟨"TaskDesk", "firstFreeChannel", "()LTaskDesk$Channel;"⟩
  | 47 => ⟨"TaskDesk", "alarm", "(IJ)V"⟩
  | 48 => ⟨"TaskDesk", "send", "(IJ)Z"⟩
  | 49 => ⟨"TaskDesk", "mustBeChannel", "(I)LTaskDesk$Channel;"⟩
  | 50 => ⟨"TaskDesk", "receive", "(I)Z"⟩
  | 51 => ⟨"TaskDesk", "givesAtOnce", "(LTaskDesk$Channel;)Z"⟩
  | 52 => ⟨"TaskDesk", "receiveNow", "(LTaskDesk$Task;LTaskDesk$Channel;I)V"⟩
  | 53 => ⟨"TaskDesk", "close", "(I)V"⟩
  | 54 => ⟨"TaskDesk", "wakeAll", "(LTaskDesk$Row;ZZ)V"⟩
  | 55 => ⟨"TaskDesk", "offer", "(IZJ)I"⟩
  | 56 => ⟨"TaskDesk", "choose", "(IZ)Z"⟩
  | 57 => ⟨"TaskDesk", "openCase", "(I)LTaskDesk$Place;"⟩
  | 58 => ⟨"TaskDesk", "isOpen", "(LTaskDesk$Place;)Z"⟩
  | 59 => ⟨"TaskDesk", "doCase", "(LTaskDesk$Task;LTaskDesk$Place;)V"⟩
  | 60 => ⟨"TaskDesk", "forgetCases", "()V"⟩
  | 61 => ⟨"TaskDesk", "waitInCases", "(LTaskDesk$Task;)V"⟩
  | 62 => ⟨"TaskDesk$Task", "adopt", "(LTaskDesk$Place;)V"⟩
  | 63 => ⟨"TaskDesk", "gate", "(II)I"⟩
  | 64 => ⟨"TaskDesk", "gateAt", "(I)LTaskDesk$Gate;"⟩
  | 65 => ⟨"TaskDesk", "enter", "(I)Z"⟩
  | 66 => ⟨"TaskDesk", "mustBeGate", "(I)LTaskDesk$Gate;"⟩
  | 67 => ⟨"TaskDesk", "giveUpLockOf", "(LTaskDesk$Gate;)V"⟩
  | 68 => ⟨"TaskDesk", "giveLockBack", "(LTaskDesk$Gate;)V"⟩
  | 69 => ⟨"TaskDesk$Gate", "letsInAtOnce", "()Z"⟩
  | 70 => ⟨"TaskDesk$Gate", "take", "()V"⟩
  | 71 => ⟨"TaskDesk", "read", "(I)Z"⟩
  | 72 => ⟨"TaskDesk", "leave", "(I)V"⟩
  | 73 => ⟨"TaskDesk$Gate", "canBeLeft", "()Z"⟩
  | 74 => ⟨"TaskDesk", "endWriting", "(LTaskDesk$Gate;)V"⟩
  | 75 => ⟨"TaskDesk", "letWriterIn", "(LTaskDesk$Gate;)V"⟩
  | 76 => ⟨"TaskDesk", "setGroup", "(LTaskDesk$Gate;I)V"⟩
  | 77 => ⟨"TaskDesk", "wakeFirstOfSignal", "(LTaskDesk$Gate;)V"⟩
  | 78 => ⟨"TaskDesk", "change", "(II)V"⟩
  | 79 => ⟨"TaskDesk$Gate", "canChangeBy", "(I)Z"⟩
  | 80 => ⟨"TaskDesk", "endReading", "(LTaskDesk$Gate;)V"⟩
  | 81 => ⟨"TaskDesk", "wakeAllOfSignal", "(LTaskDesk$Gate;)V"⟩
  | 82 => ⟨"TaskDesk", "task", "(II)I"⟩
  | 83 => ⟨"TaskDesk", "mustBeTask", "(I)LTaskDesk$Task;"⟩
  | 84 => ⟨"TaskDesk", "countBefore", "(LTaskDesk$Place;)I"⟩
  | 85 => ⟨"TaskDesk", "outcome", "(I)J"⟩
  | 86 => ⟨"TaskDesk", "look", "(II)I"⟩
  | 87 => ⟨"TaskDesk", "watch", "(II)I"⟩
  | 88 => ⟨"TaskDeskModel", "<init>", "()V"⟩
  | 89 => ⟨"TaskDeskModel", "thrown", "()I"⟩
  | 90 => ⟨"TaskDeskModel", "channel", "(I)I"⟩
  | 91 => ⟨"TaskDeskModel", "fail", "(I)I"⟩
  | 92 => ⟨"TaskDeskModel", "release", "(I)Z"⟩
  | 93 => ⟨"TaskDeskModel", "isChannel", "(I)Z"⟩
  | 94 => ⟨"TaskDeskModel", "first", "(IZ)I"⟩
  | 95 => ⟨"TaskDeskModel", "held", "(I)I"⟩
  | 96 => ⟨"TaskDeskModel", "takeFirst", "(I)J"⟩
  | 97 => ⟨"TaskDeskModel", "alarm", "(IJ)V"⟩
  | 98 => ⟨"TaskDeskModel", "send", "(IJ)Z"⟩
  | 99 => ⟨"TaskDeskModel", "no", "(I)Z"⟩
  | 100 => ⟨"TaskDeskModel", "maySend", "(I)Z"⟩
  | 101 => ⟨"TaskDeskModel", "deliver", "(IJ)V"⟩
  | 102 => ⟨"TaskDeskModel", "met", "(IJZZ)V"⟩
  | 103 => ⟨"TaskDeskModel", "has", "(IJZIZ)V"⟩
  | 104 => ⟨"TaskDeskModel", "withdraw", "(I)V"⟩
  | 105 => ⟨"TaskDeskModel", "wake", "(I)V"⟩
  | 106 => ⟨"TaskDeskModel", "store", "(IJ)V"⟩
  | 107 => ⟨"TaskDeskModel", "offer", "(IIZJI)V"⟩
  | 108 => ⟨"TaskDeskModel", "rest", "(II)V"⟩
  | 109 => ⟨"TaskDeskModel", "next", "()V"⟩
  | 110 => ⟨"TaskDeskModel", "ring", "()V"⟩
  | 111 => ⟨"TaskDeskModel", "rings", "(I)V"⟩
  | 112 => ⟨"TaskDeskModel", "receive", "(I)Z"⟩
  | 113 => ⟨"TaskDeskModel", "mayReceive", "(I)Z"⟩
  | 114 => ⟨"TaskDeskModel", "take", "(II)V"⟩
  | 115 => ⟨"TaskDeskModel", "close", "(I)V"⟩
  | 116 => ⟨"TaskDeskModel", "offer", "(IZJ)I"⟩
  | 117 => ⟨"TaskDeskModel", "choose", "(IZ)Z"⟩
  | 118 => ⟨"TaskDeskModel", "isReady", "(I)Z"⟩
  | 119 => ⟨"TaskDeskModel", "done", "(I)Z"⟩
  | 120 => ⟨"TaskDeskModel", "spawn", "()I"⟩
  | 121 => ⟨"TaskDeskModel", "giveWay", "()I"⟩
  | 122 => ⟨"TaskDeskModel", "finish", "()I"⟩
  | 123 => ⟨"TaskDeskModel", "sleep", "(J)I"⟩
  | 124 => ⟨"TaskDeskModel", "gate", "(II)I"⟩
  | 125 => ⟨"TaskDeskModel", "isGate", "(I)Z"⟩
  | 126 => ⟨"TaskDeskModel", "enter", "(I)Z"⟩
  | 127 => ⟨"TaskDeskModel", "passes", "(ZIZZ)Z"⟩
  | 128 => ⟨"TaskDeskModel", "stand", "(IIZ)V"⟩
  | 129 => ⟨"TaskDeskModel", "unlock", "(I)V"⟩
  | 130 => ⟨"TaskDeskModel", "standing", "(II)I"⟩
  | 131 => ⟨"TaskDeskModel", "lets", "(IZ)V"⟩
  | 132 => ⟨"TaskDeskModel", "takeOut", "(I)I"⟩
  | 133 => ⟨"TaskDeskModel", "read", "(I)Z"⟩
  | 134 => ⟨"TaskDeskModel", "leave", "(I)V"⟩
  | 135 => ⟨"TaskDeskModel", "letReaders", "(I)V"⟩
  | 136 => ⟨"TaskDeskModel", "letWriter", "(I)V"⟩
  | 137 => ⟨"TaskDeskModel", "grow", "(II)V"⟩
  | 138 => ⟨"TaskDeskModel", "letAll", "(IZ)V"⟩
  | 139 => ⟨"TaskDeskModel", "signal", "(I)V"⟩
  | 140 => ⟨"TaskDeskModel", "change", "(II)V"⟩
  | 141 => ⟨"TaskDeskModel", "waitAt", "(I)I"⟩
  | 142 => ⟨"TaskDeskModel", "current", "()I"⟩
  | 143 => ⟨"TaskDeskModel", "task", "(II)I"⟩
  | 144 => ⟨"TaskDeskModel", "isTask", "(I)Z"⟩
  | 145 => ⟨"TaskDeskModel", "outcome", "(I)J"⟩
  | 146 => ⟨"TaskDeskModel", "look", "(II)I"⟩
  | 147 => ⟨"TaskDeskModel", "watch", "(II)I"⟩
  | 148 => ⟨"TaskDeskModel", "clock", "()J"⟩
  | 149 => ⟨"TaskDeskModel", "count", "(I)I"⟩
  | 150 => ⟨"TaskDeskModel", "living", "()I"⟩
  | 151 => ⟨"TaskDeskModel", "channels", "()I"⟩
  | _ => ⟨"", "", ""⟩
def kx_pm (n : Nat) : List Nat := match n with
  | 0 => [2]
  | 1 => [7]
  | 2 => [3]
  | 3 => [9]
  | 4 => [4, 0]
  | 5 => [6, 4]
  | 6 => [8, 0, 6]
  | 7 => [5, 0]
  | 8 => [10]
  | 9 => [2, 10]
  | 10 => [2, 6]
  | 11 => [8]
  | 12 => [8, 1, 0, 0, 0]
  | 13 => [2, 0]
  | 14 => [2, 0]
  | 15 => [4]
  | 16 => [2, 4]
  | 17 => [2, 4]
  | 18 => [4]
  | 19 => [2]
  | 20 => [2]
  | 21 => [2, 0]
  | 22 => [2]
  | 23 => [2]
  | 24 => [2]
  | 25 => [2]
  | 26 => [2, 8]
  | 27 => [8, 7, 0, 0]
  | 28 => [7, 6]
  | 29 => [2]
  | 30 => [2]
  | 31 => [3]
  | 32 => [2, 9]
  | 33 => [2, 4]
  | 34 => [2, 4, 1]
  | 35 => [2, 6, 1, 0, 0]
  | 36 => [2, 8]
  | 37 => [6]
  | 38 => [2, 4, 1]
  | 39 => [4, 10]
  | 40 => [2]
  | 41 => [2]
  | 42 => [2, 1]
  | 43 => [3, 1, 8, 4]
  | 44 => [3, 1]
  | 45 => [2, 0]
  | 46 => [2]
  | 47 => [2, 0, 1]
  | 48 => [2, 0, 1]
  | 49 => [2, 0]
  | 50 => [2, 0]
  | 51 => [2, 4]
  | 52 => [2, 8, 4, 0]
  | 53 => [2, 0]
  | 54 => [2, 7, 0, 0]
  | 55 => [2, 0, 0, 1]
  | 56 => [2, 0, 0]
  | 57 => [2, 0]
  | 58 => [2, 6]
  | 59 => [2, 8, 6]
  | 60 => [2]
  | 61 => [2, 8]
  | 62 => [8, 6]
  | 63 => [2, 0, 0]
  | 64 => [2, 0]
  | 65 => [2, 0]
  | 66 => [2, 0]
  | 67 => [2, 5]
  | 68 => [2, 5]
  | 69 => [5]
  | 70 => [5]
  | 71 => [2, 0]
  | 72 => [2, 0]
  | 73 => [5]
  | 74 => [2, 5]
  | 75 => [2, 5]
  | 76 => [2, 5, 0]
  | 77 => [2, 5]
  | 78 => [2, 0, 0]
  | 79 => [5, 0]
  | 80 => [2, 5]
  | 81 => [2, 5]
  | 82 => [2, 0, 0]
  | 83 => [2, 0]
  | 84 => [2, 6]
  | 85 => [2, 0]
  | 86 => [2, 0, 0]
  | 87 => [2, 0, 0]
  | 88 => [11]
  | 89 => [11]
  | 90 => [11, 0]
  | 91 => [11, 0]
  | 92 => [11, 0]
  | 93 => [11, 0]
  | 94 => [11, 0, 0]
  | 95 => [11, 0]
  | 96 => [11, 0]
  | 97 => [11, 0, 1]
  | 98 => [11, 0, 1]
  | 99 => [11, 0]
  | 100 => [11, 0]
  | 101 => [11, 0, 1]
  | 102 => [11, 0, 1, 0, 0]
  | 103 => [11, 0, 1, 0, 0, 0]
  | 104 => [11, 0]
  | 105 => [11, 0]
  | 106 => [11, 0, 1]
  | 107 => [11, 0, 0, 0, 1, 0]
  | 108 => [11, 0, 0]
  | 109 => [11]
  | 110 => [11]
  | 111 => [11, 0]
  | 112 => [11, 0]
  | 113 => [11, 0]
  | 114 => [11, 0, 0]
  | 115 => [11, 0]
  | 116 => [11, 0, 0, 1]
  | 117 => [11, 0, 0]
  | 118 => [11, 0]
  | 119 => [11, 0]
  | 120 => [11]
  | 121 => [11]
  | 122 => [11]
  | 123 => [11, 1]
  | 124 => [11, 0, 0]
  | 125 => [11, 0]
  | 126 => [11, 0]
  | 127 => [11, 0, 0, 0, 0]
  | 128 => [11, 0, 0, 0]
  | 129 => [11, 0]
  | 130 => [11, 0, 0]
  | 131 => [11, 0, 0]
  | 132 => [11, 0]
  | 133 => [11, 0]
  | 134 => [11, 0]
  | 135 => [11, 0]
  | 136 => [11, 0]
  | 137 => [11, 0, 0]
  | 138 => [11, 0, 0]
  | 139 => [11, 0]
  | 140 => [11, 0, 0]
  | 141 => [11, 0]
  | 142 => [11]
  | 143 => [11, 0, 0]
  | 144 => [11, 0]
  | 145 => [11, 0]
  | 146 => [11, 0, 0]
  | 147 => [11, 0, 0]
  | 148 => [11]
  | 149 => [11, 0]
  | 150 => [11]
  | 151 => [11]
  | _ => []
def kx_ths : List (String × Nat × Nat) := [("TaskDesk", 100, 0), ("TaskDesk", 130, 1), ("TaskDesk", 199, 2), ("TaskDesk", 377, 3)]
end
section
def kx_kb (w : Cond) : Bool := match w with
  | .methodLinkNest .. => true
  | .fieldLinkNest .. => true
  | .castable .. => true
  | .arrayOver (.object _) => true
  | .arrayClass _ => true
  | .declares _ => true
  | .stringRef .. => true
  | w => w.onTables && w.keeps
/-- the words that stay -/
def kx_WS : List Cond := lw_tbl.filter kx_kb
theorem kx_in_ws {w : Cond} (h : w ∈ lw_tbl) (hk : kx_kb w = true) : w ∈ kx_WS := List.mem_filter.mpr ⟨h, hk⟩
end
section
/-! A heap of typed cells by numbers, and what one instruction does to it, as a function. -/
abbrev kx_V : Type := Int32 ⊕ (Int64 ⊕ (Nat × Option Nat))
abbrev kx_R : Type := Option kx_V ⊕ Nat
/-- tag of a cell; its ints, longs, references, booleans by place; its length; the next number; cells and slots made -/
abbrev kx_H : Type := (Nat → Option Nat) × (Nat → Nat → Int32) × (Nat → Nat → Int64) × (Nat → Nat → Option Nat) × (Nat → Nat → Bool) × (Nat → Nat) × Nat × Nat × Nat
abbrev kx_O : Type := Option (kx_R × kx_H)
abbrev kx_L : Type := List (Nat × kx_V)
abbrev kx_F : Type := kx_L → List kx_V → kx_H → kx_O
abbrev kx_C : Type := Nat → List kx_V → kx_H → kx_O
abbrev kx_i (x : Int32) : kx_V := .inl x
abbrev kx_l (x : Int64) : kx_V := .inr (.inl x)
abbrev kx_r (t : Nat) (o : Option Nat) : kx_V := .inr (.inr (t, o))
def hp_T (h : kx_H) : Nat → Option Nat := h.1
def hp_I (h : kx_H) : Nat → Nat → Int32 := h.2.1
def hp_L (h : kx_H) : Nat → Nat → Int64 := h.2.2.1
def hp_R (h : kx_H) : Nat → Nat → Option Nat := h.2.2.2.1
def hp_B (h : kx_H) : Nat → Nat → Bool := h.2.2.2.2.1
def hp_N (h : kx_H) : Nat → Nat := h.2.2.2.2.2.1
def hp_X (h : kx_H) : Nat := h.2.2.2.2.2.2.1
def hp_C (h : kx_H) : Nat := h.2.2.2.2.2.2.2.1
def hp_U (h : kx_H) : Nat := h.2.2.2.2.2.2.2.2
def hp_sI (h : kx_H) (a k : Nat) (v : Int32) : kx_H := (h.1, fun b j => if b = a ∧ j = k then v else h.2.1 b j, h.2.2)
def hp_sL (h : kx_H) (a k : Nat) (v : Int64) : kx_H := (h.1, h.2.1, fun b j => if b = a ∧ j = k then v else h.2.2.1 b j, h.2.2.2)
def hp_sR (h : kx_H) (a k : Nat) (v : Option Nat) : kx_H := (h.1, h.2.1, h.2.2.1, fun b j => if b = a ∧ j = k then v else h.2.2.2.1 b j, h.2.2.2.2)
def hp_sB (h : kx_H) (a k : Nat) (v : Bool) : kx_H := (h.1, h.2.1, h.2.2.1, h.2.2.2.1, fun b j => if b = a ∧ j = k then v else h.2.2.2.2.1 b j, h.2.2.2.2.2)
def hp_new (h : kx_H) (t n w : Nat) : kx_H :=
  (fun b => if b = hp_X h then some t else hp_T h b, fun b j => if b = hp_X h then 0 else hp_I h b j, fun b j => if b = hp_X h then 0 else hp_L h b j, fun b j => if b = hp_X h then none else hp_R h b j, fun b j => if b = hp_X h then false else hp_B h b j,
   fun b => if b = hp_X h then n else hp_N h b, hp_X h + 1, hp_C h + 1, hp_U h + w)
def hp_bump (h : kx_H) (k n : Nat) : kx_H := (hp_T h, hp_I h, hp_L h, hp_R h, hp_B h, hp_N h, hp_X h, hp_C h + k, hp_U h + n)
def kx_b (b : Bool) : Int32 := bif b then 1 else 0
def kx_two (v : kx_V) : Bool := match v with
  | .inr (.inl _) => true
  | _ => false
def kx_get (l : kx_L) (i : Nat) : Option kx_V := match l with
  | [] => none
  | q :: r => bif Nat.beq q.1 i then some q.2 else kx_get r i
def kx_put1 (l : kx_L) (i : Nat) (v : kx_V) : kx_L := (i, v) :: l.filter (fun q => !(q.1 == i) && !(q.1 + 1 == i && kx_two q.2))
def kx_put2 (l : kx_L) (i : Nat) (v : kx_V) : kx_L := (i, v) :: l.filter (fun q => !(q.1 == i) && (!(q.1 == i + 1) && !(q.1 + 1 == i && kx_two q.2)))
def kx_pick (l : kx_L) (is : List Nat) : Option kx_L := match is with
  | [] => some []
  | i :: r => (kx_get l i).bind fun v => (kx_pick l r).bind fun t => some ((i, v) :: t)
/-- the live locals, in their order -/
def kx_nm (is : List Nat) (k : kx_F) : kx_F := fun l st h => (kx_pick l is).bind fun l' => k l' st h
def kx_c (v : kx_V) (k : kx_F) : kx_F := fun l st h => k l (v :: st) h
def kx_li (i : Nat) (k : kx_F) : kx_F := fun l st h => match kx_get l i with
  | some (.inl x) => k l (.inl x :: st) h
  | _ => none
def kx_ll (i : Nat) (k : kx_F) : kx_F := fun l st h => match kx_get l i with
  | some (.inr (.inl x)) => k l (.inr (.inl x) :: st) h
  | _ => none
def kx_la (i : Nat) (k : kx_F) : kx_F := fun l st h => match kx_get l i with
  | some (.inr (.inr x)) => k l (.inr (.inr x) :: st) h
  | _ => none
def kx_si (i : Nat) (k : kx_F) : kx_F := fun l st h => match st with
  | .inl x :: r => k (kx_put1 l i (.inl x)) r h
  | _ => none
def kx_sl (i : Nat) (k : kx_F) : kx_F := fun l st h => match st with
  | .inr (.inl x) :: r => k (kx_put2 l i (.inr (.inl x))) r h
  | _ => none
def kx_sa (i : Nat) (k : kx_F) : kx_F := fun l st h => match st with
  | .inr (.inr x) :: r => k (kx_put1 l i (.inr (.inr x))) r h
  | _ => none
def kx_inc (i : Nat) (n : Int32) (k : kx_F) : kx_F := fun l st h => match kx_get l i with
  | some (.inl x) => k (kx_put1 l i (.inl (x + n))) st h
  | _ => none
/-- two ints, an int -/
def kx_ii (f : Int32 → Int32 → Int32) (k : kx_F) : kx_F := fun l st h => match st with
  | .inl y :: .inl x :: r => k l (.inl (f x y) :: r) h
  | _ => none
def kx_irem (k : kx_F) : kx_F := fun l st h => match st with
  | .inl y :: .inl x :: r => if y = 0 then none else k l (.inl (x - x / y * y) :: r) h
  | _ => none
def kx_idiv (k : kx_F) : kx_F := fun l st h => match st with
  | .inl y :: .inl x :: r => if y = 0 then none else k l (.inl (x / y) :: r) h
  | _ => none
def kx_ineg (k : kx_F) : kx_F := fun l st h => match st with
  | .inl x :: r => k l (.inl (-x) :: r) h
  | _ => none
/-- two longs, a long -/
def kx_jj (f : Int64 → Int64 → Int64) (k : kx_F) : kx_F := fun l st h => match st with
  | .inr (.inl y) :: .inr (.inl x) :: r => k l (.inr (.inl (f x y)) :: r) h
  | _ => none
/-- a long and an int, a long -/
def kx_ji (f : Int64 → Int32 → Int64) (k : kx_F) : kx_F := fun l st h => match st with
  | .inl y :: .inr (.inl x) :: r => k l (.inr (.inl (f x y)) :: r) h
  | _ => none
def kx_i2l (k : kx_F) : kx_F := fun l st h => match st with
  | .inl x :: r => k l (.inr (.inl x.toInt64) :: r) h
  | _ => none
def kx_l2i (k : kx_F) : kx_F := fun l st h => match st with
  | .inr (.inl x) :: r => k l (.inl x.toInt32 :: r) h
  | _ => none
def kx_lcmp (k : kx_F) : kx_F := fun l st h => match st with
  | .inr (.inl y) :: .inr (.inl x) :: r => k l (.inl (lg_cmp x y) :: r) h
  | _ => none
def kx_dup (k : kx_F) : kx_F := fun l st h => match st with
  | v :: r => bif kx_two v then none else k l (v :: v :: r) h
  | _ => none
def kx_pop (k : kx_F) : kx_F := fun l st h => match st with
  | v :: r => bif kx_two v then none else k l r h
  | _ => none
def kx_dupx1 (k : kx_F) : kx_F := fun l st h => match st with
  | v :: w :: r => bif kx_two v then none else bif kx_two w then none else k l (v :: w :: v :: r) h
  | _ => none
/-- dup2 of two values of one word -/
def kx_dup2 (k : kx_F) : kx_F := fun l st h => match st with
  | v :: w :: r => bif kx_two v then none else bif kx_two w then none else k l (v :: w :: v :: w :: r) h
  | _ => none
def kx_ifeq (t k : kx_F) : kx_F := fun l st h => match st with
  | .inl x :: r => if x = 0 then t l r h else k l r h
  | _ => none
def kx_ifne (t k : kx_F) : kx_F := fun l st h => match st with
  | .inl x :: r => if x = 0 then k l r h else t l r h
  | _ => none
def kx_iflt (t k : kx_F) : kx_F := fun l st h => match st with
  | .inl x :: r => if x < 0 then t l r h else k l r h
  | _ => none
def kx_ifge (t k : kx_F) : kx_F := fun l st h => match st with
  | .inl x :: r => if 0 ≤ x then t l r h else k l r h
  | _ => none
def kx_ifgt (t k : kx_F) : kx_F := fun l st h => match st with
  | .inl x :: r => if 0 < x then t l r h else k l r h
  | _ => none
def kx_ifle (t k : kx_F) : kx_F := fun l st h => match st with
  | .inl x :: r => if x ≤ 0 then t l r h else k l r h
  | _ => none
def kx_ceq (t k : kx_F) : kx_F := fun l st h => match st with
  | .inl y :: .inl x :: r => if x = y then t l r h else k l r h
  | _ => none
def kx_cne (t k : kx_F) : kx_F := fun l st h => match st with
  | .inl y :: .inl x :: r => if x = y then k l r h else t l r h
  | _ => none
def kx_clt (t k : kx_F) : kx_F := fun l st h => match st with
  | .inl y :: .inl x :: r => if x < y then t l r h else k l r h
  | _ => none
def kx_cge (t k : kx_F) : kx_F := fun l st h => match st with
  | .inl y :: .inl x :: r => if y ≤ x then t l r h else k l r h
  | _ => none
def kx_cgt (t k : kx_F) : kx_F := fun l st h => match st with
  | .inl y :: .inl x :: r => if y < x then t l r h else k l r h
  | _ => none
def kx_cle (t k : kx_F) : kx_F := fun l st h => match st with
  | .inl y :: .inl x :: r => if x ≤ y then t l r h else k l r h
  | _ => none
def kx_aeq (t k : kx_F) : kx_F := fun l st h => match st with
  | .inr (.inr y) :: .inr (.inr x) :: r => bif Nat.beq x.1 y.1 then (if x.2 = y.2 then t l r h else k l r h) else none
  | _ => none
def kx_ane (t k : kx_F) : kx_F := fun l st h => match st with
  | .inr (.inr y) :: .inr (.inr x) :: r => bif Nat.beq x.1 y.1 then (if x.2 = y.2 then k l r h else t l r h) else none
  | _ => none
def kx_nul (t k : kx_F) : kx_F := fun l st h => match st with
  | .inr (.inr x) :: r => if x.2 = none then t l r h else k l r h
  | _ => none
def kx_nnul (t k : kx_F) : kx_F := fun l st h => match st with
  | .inr (.inr x) :: r => if x.2 = none then k l r h else t l r h
  | _ => none
/-- a switch, by its numbers in their order -/
def kx_swl (x : Int32) (cs : List (Int32 × kx_F)) (d : kx_F) : kx_F := match cs with
  | [] => d
  | q :: r => fun l st h => if x = q.1 then q.2 l st h else kx_swl x r d l st h
def kx_sw (cs : List (Int32 × kx_F)) (d : kx_F) : kx_F := fun l st h => match st with
  | .inl x :: r => kx_swl x cs d l r h
  | _ => none
/-- fields: the class's tag, the field's place -/
def kx_gI (t p : Nat) (k : kx_F) : kx_F := fun l st h => match st with
  | .inr (.inr x) :: r => bif Nat.beq x.1 t then x.2.bind (fun a => k l (.inl (hp_I h a p) :: r) h) else none
  | _ => none
def kx_gL (t p : Nat) (k : kx_F) : kx_F := fun l st h => match st with
  | .inr (.inr x) :: r => bif Nat.beq x.1 t then x.2.bind (fun a => k l (.inr (.inl (hp_L h a p)) :: r) h) else none
  | _ => none
def kx_gR (t p c : Nat) (k : kx_F) : kx_F := fun l st h => match st with
  | .inr (.inr x) :: r => bif Nat.beq x.1 t then x.2.bind (fun a => k l (.inr (.inr (c, hp_R h a p)) :: r) h) else none
  | _ => none
def kx_gB (t p : Nat) (k : kx_F) : kx_F := fun l st h => match st with
  | .inr (.inr x) :: r => bif Nat.beq x.1 t then x.2.bind (fun a => k l (.inl (kx_b (hp_B h a p)) :: r) h) else none
  | _ => none
def kx_pI (t p : Nat) (k : kx_F) : kx_F := fun l st h => match st with
  | .inl v :: .inr (.inr x) :: r => bif Nat.beq x.1 t then x.2.bind (fun a => k l r (hp_sI h a p v)) else none
  | _ => none
def kx_pL (t p : Nat) (k : kx_F) : kx_F := fun l st h => match st with
  | .inr (.inl v) :: .inr (.inr x) :: r => bif Nat.beq x.1 t then x.2.bind (fun a => k l r (hp_sL h a p v)) else none
  | _ => none
def kx_pR (t p c : Nat) (k : kx_F) : kx_F := fun l st h => match st with
  | .inr (.inr v) :: .inr (.inr x) :: r => bif (Nat.beq x.1 t && Nat.beq v.1 c) then x.2.bind (fun a => k l r (hp_sR h a p v.2)) else none
  | _ => none
def kx_pB (t p : Nat) (k : kx_F) : kx_F := fun l st h => match st with
  | .inl v :: .inr (.inr x) :: r => bif Nat.beq x.1 t then x.2.bind (fun a => if v = 0 then k l r (hp_sB h a p false) else if v = 1 then k l r (hp_sB h a p true) else none) else none
  | _ => none
/-- arrays: the array's tag -/
def kx_len (t : Nat) (k : kx_F) : kx_F := fun l st h => match st with
  | .inr (.inr x) :: r => bif Nat.beq x.1 t then x.2.bind (fun a => k l (.inl (Int32.ofNat (hp_N h a)) :: r) h) else none
  | _ => none
def kx_aI (t : Nat) (k : kx_F) : kx_F := fun l st h => match st with
  | .inl i :: .inr (.inr x) :: r => bif Nat.beq x.1 t then x.2.bind (fun a => if i < 0 ∨ hp_N h a ≤ i.toNatClampNeg then none else k l (.inl (hp_I h a i.toNatClampNeg) :: r) h) else none
  | _ => none
def kx_aL (t : Nat) (k : kx_F) : kx_F := fun l st h => match st with
  | .inl i :: .inr (.inr x) :: r => bif Nat.beq x.1 t then x.2.bind (fun a => if i < 0 ∨ hp_N h a ≤ i.toNatClampNeg then none else k l (.inr (.inl (hp_L h a i.toNatClampNeg)) :: r) h) else none
  | _ => none
def kx_aR (t c : Nat) (k : kx_F) : kx_F := fun l st h => match st with
  | .inl i :: .inr (.inr x) :: r => bif Nat.beq x.1 t then x.2.bind (fun a => if i < 0 ∨ hp_N h a ≤ i.toNatClampNeg then none else k l (.inr (.inr (c, hp_R h a i.toNatClampNeg)) :: r) h) else none
  | _ => none
def kx_aB (t : Nat) (k : kx_F) : kx_F := fun l st h => match st with
  | .inl i :: .inr (.inr x) :: r => bif Nat.beq x.1 t then x.2.bind (fun a => if i < 0 ∨ hp_N h a ≤ i.toNatClampNeg then none else k l (.inl (kx_b (hp_B h a i.toNatClampNeg)) :: r) h) else none
  | _ => none
def kx_asI (t : Nat) (k : kx_F) : kx_F := fun l st h => match st with
  | .inl v :: .inl i :: .inr (.inr x) :: r => bif Nat.beq x.1 t then x.2.bind (fun a => if i < 0 ∨ hp_N h a ≤ i.toNatClampNeg then none else k l r (hp_sI h a i.toNatClampNeg v)) else none
  | _ => none
def kx_asL (t : Nat) (k : kx_F) : kx_F := fun l st h => match st with
  | .inr (.inl v) :: .inl i :: .inr (.inr x) :: r => bif Nat.beq x.1 t then x.2.bind (fun a => if i < 0 ∨ hp_N h a ≤ i.toNatClampNeg then none else k l r (hp_sL h a i.toNatClampNeg v)) else none
  | _ => none
def kx_asR (t c : Nat) (k : kx_F) : kx_F := fun l st h => match st with
  | .inr (.inr v) :: .inl i :: .inr (.inr x) :: r => bif (Nat.beq x.1 t && Nat.beq v.1 c) then x.2.bind (fun a => if i < 0 ∨ hp_N h a ≤ i.toNatClampNeg then none else k l r (hp_sR h a i.toNatClampNeg v.2)) else none
  | _ => none
def kx_asB (t : Nat) (k : kx_F) : kx_F := fun l st h => match st with
  | .inl v :: .inl i :: .inr (.inr x) :: r => bif Nat.beq x.1 t then x.2.bind (fun a => if i < 0 ∨ hp_N h a ≤ i.toNatClampNeg then none else if v = 0 then k l r (hp_sB h a i.toNatClampNeg false) else if v = 1 then k l r (hp_sB h a i.toNatClampNeg true) else none) else none
  | _ => none
/-- a new object of w fields -/
def kx_new (cc cs t w : Nat) (k : kx_F) : kx_F := fun l st h =>
  if hp_C h + 1 ≤ cc ∧ hp_U h + w ≤ cs then k l (.inr (.inr (t, some (hp_X h))) :: st) (hp_new h t 0 w) else none
/-- a new array -/
def kx_newa (cc cs t : Nat) (k : kx_F) : kx_F := fun l st h => match st with
  | .inl n :: r => if n < 0 ∨ 60000000 < n.toNatClampNeg then none else if hp_C h + 1 ≤ cc ∧ hp_U h + n.toNatClampNeg ≤ cs then k l (.inr (.inr (t, some (hp_X h))) :: r) (hp_new h t n.toNatClampNeg n.toNatClampNeg) else none
  | _ => none
/-- Object's constructor -/
def kx_obj (k : kx_F) : kx_F := fun l st h => match st with
  | .inr (.inr x) :: r => bif Nat.ble r.length 8 then x.2.bind (fun _ => k l r h) else none
  | _ => none
/-- behind a call -/
def kx_bv (o : kx_O) (k : kx_H → kx_O) : kx_O := o.bind fun q => match q.1 with
  | .inl none => k q.2
  | .inr e => some (.inr e, q.2)
  | _ => none
def kx_bi (o : kx_O) (k : Int32 → kx_H → kx_O) : kx_O := o.bind fun q => match q.1 with
  | .inl (some (.inl x)) => k x q.2
  | .inr e => some (.inr e, q.2)
  | _ => none
def kx_bl (o : kx_O) (k : Int64 → kx_H → kx_O) : kx_O := o.bind fun q => match q.1 with
  | .inl (some (.inr (.inl x))) => k x q.2
  | .inr e => some (.inr e, q.2)
  | _ => none
def kx_br (c : Nat) (o : kx_O) (k : Option Nat → kx_H → kx_O) : kx_O := o.bind fun q => match q.1 with
  | .inl (some (.inr (.inr x))) => bif Nat.beq x.1 c then k x.2 q.2 else none
  | .inr e => some (.inr e, q.2)
  | _ => none
/-- which values a method takes: 0 an int, 1 a long, 2 + c a reference of the tag c -/
def kx_fit (p : Nat) (v : kx_V) : Bool := match v with
  | .inl _ => Nat.beq p 0
  | .inr (.inl _) => Nat.beq p 1
  | .inr (.inr x) => Nat.beq p (x.1 + 2)
def kx_fits (ps : List Nat) (vs : List kx_V) : Bool := match ps, vs with
  | [], [] => true
  | p :: ps, v :: vs => kx_fit p v && kx_fits ps vs
  | _, _ => false
/-- the arguments of a static method -/
def kx_as (ps : List Nat) (st : List kx_V) (k : List kx_V → List kx_V → kx_O) : kx_O :=
  bif (kx_fits ps (st.take ps.length).reverse && Nat.ble (st.drop ps.length).length 4) then k (st.take ps.length).reverse (st.drop ps.length) else none
/-- .. and of a method of an object of the tag t -/
def kx_ao (t : Nat) (ps : List Nat) (st : List kx_V) (k : List kx_V → List kx_V → kx_O) : kx_O :=
  bif kx_fits ps (st.take ps.length).reverse then (match st.drop ps.length with
    | .inr (.inr x) :: r => bif (Nat.beq x.1 t && Nat.ble r.length 4) then x.2.bind (fun a => k (.inr (.inr (t, some a)) :: (st.take ps.length).reverse) r) else none
    | _ => none) else none
def kx_Sv (C : kx_C) (n : Nat) (ps : List Nat) (k : kx_F) : kx_F := fun l st h => kx_as ps st fun as r => kx_bv (C n as h) fun h' => k l r h'
def kx_Si (C : kx_C) (n : Nat) (ps : List Nat) (k : kx_F) : kx_F := fun l st h => kx_as ps st fun as r => kx_bi (C n as h) fun x h' => k l (.inl x :: r) h'
def kx_Sl (C : kx_C) (n : Nat) (ps : List Nat) (k : kx_F) : kx_F := fun l st h => kx_as ps st fun as r => kx_bl (C n as h) fun x h' => k l (.inr (.inl x) :: r) h'
def kx_Sr (C : kx_C) (n : Nat) (ps : List Nat) (c : Nat) (k : kx_F) : kx_F := fun l st h => kx_as ps st fun as r => kx_br c (C n as h) fun x h' => k l (.inr (.inr (c, x)) :: r) h'
def kx_Vv (C : kx_C) (n t : Nat) (ps : List Nat) (k : kx_F) : kx_F := fun l st h => kx_ao t ps st fun as r => kx_bv (C n as h) fun h' => k l r h'
def kx_Vi (C : kx_C) (n t : Nat) (ps : List Nat) (k : kx_F) : kx_F := fun l st h => kx_ao t ps st fun as r => kx_bi (C n as h) fun x h' => k l (.inl x :: r) h'
def kx_Vl (C : kx_C) (n t : Nat) (ps : List Nat) (k : kx_F) : kx_F := fun l st h => kx_ao t ps st fun as r => kx_bl (C n as h) fun x h' => k l (.inr (.inl x) :: r) h'
def kx_Vr (C : kx_C) (n t : Nat) (ps : List Nat) (c : Nat) (k : kx_F) : kx_F := fun l st h => kx_ao t ps st fun as r => kx_br c (C n as h) fun x h' => k l (.inr (.inr (c, x)) :: r) h'
/-- ends -/
def kx_rv : kx_F := fun _ st h => match st with
  | [] => some (.inl none, h)
  | _ => none
def kx_ri : kx_F := fun _ st h => match st with
  | [.inl x] => some (.inl (some (.inl x)), h)
  | _ => none
def kx_rz : kx_F := fun _ st h => match st with
  | [.inl x] => if x = 0 ∨ x = 1 then some (.inl (some (.inl x)), h) else none
  | _ => none
def kx_rl : kx_F := fun _ st h => match st with
  | [.inr (.inl x)] => some (.inl (some (.inr (.inl x))), h)
  | _ => none
def kx_rr : kx_F := fun _ st h => match st with
  | [.inr (.inr x)] => some (.inl (some (.inr (.inr x))), h)
  | _ => none
/-- throw new E("text") -/
def kx_th (cc cs e : Nat) : kx_F := fun _ st h => match st with
  | [] => if hp_C h + 1 ≤ cc ∧ hp_U h + 6 ≤ cs then some (.inr e, hp_bump h 1 6) else none
  | _ => none
/-- a method by its blocks -/
def kx_ex (B : Nat → (Nat → kx_F) → kx_F) : Nat → Nat → kx_F
  | 0, _ => fun _ _ _ => none
  | n + 1, b => B b (kx_ex B n)
/-- the locals at the start -/
def kx_in : Nat → List kx_V → kx_L
  | _, [] => []
  | i, v :: vs => (i, v) :: kx_in (bif kx_two v then i + 2 else i + 1) vs
def kx_fuel : Nat := 1000000
/-- the methods, to a depth: M n C are the blocks of the method n, its calls by C -/
def kx_ev (M : Nat → kx_C → Nat → (Nat → kx_F) → kx_F) : Nat → kx_C
  | 0 => fun _ _ _ => none
  | d + 1 => fun n as h => kx_ex (M n (kx_ev M d)) kx_fuel 0 (kx_in 0 as) [] h
end
section
/-! The world of a walk: the cells by their numbers, at addresses that ι names. -/
def kx_cv (ι : Nat → Nat) (v : kx_V) : Value := match v with
  | .inl x => .int x
  | .inr (.inl x) => .long x
  | .inr (.inr r) => va_rf (r.2.map ι)
def kx_val (ι : Nat → Nat) (h : kx_H) (a kd k : Nat) : Value := match kd with
  | 0 => .int (hp_I h a k)
  | 1 => .long (hp_L h a k)
  | 2 => va_rf ((hp_R h a k).map ι)
  | _ => .int (kx_b (hp_B h a k))
def kx_ok (h : kx_H) (v : kx_V) : Prop := match v with
  | .inr (.inr x) => ∀ a, x.2 = some a → hp_T h a = some x.1
  | _ => True
def kx_lc (ι : Nat → Nat) (lv : kx_L) : List (Nat × Value) := lv.map fun q => (q.1, kx_cv ι q.2)
/-- the script (98), an object (below), an array (above) -/
def kx_at (s0 : State) (D : va_G) (cA : Nat → ClassId) (ι : Nat → Nat) (h : kx_H) (H : Heap) (a t : Nat) : Prop :=
  (t = 98 → va_X (ι a) (hp_N h a) (hp_I h a) s0 H ∧ ι a < s0.heap.size) ∧
  (t < 98 → s0.heap.size ≤ ι a ∧ ∃ r : vw_C, kx_cl[t]? = some r ∧ t_OB (ι a) (D.1 t) r.2.2 (D.2 t) H (fun k => kx_val ι h a (kx_ft t k).1 k)) ∧
  (98 < t → s0.heap.size ≤ ι a ∧ H[ι a]? = some (arrV (cA t) (hp_N h a) (fun i => kx_val ι h a (kx_ak t).1 i)))
def kx_P (s0 : State) (D : va_G) (cA : Nat → ClassId) (ι : Nat → Nat) (h : kx_H) (H : Heap) : Prop :=
  (∀ a t, hp_T h a = some t → a < hp_X h ∧ kx_at s0 D cA ι h H a t) ∧
  (∀ a b t u, hp_T h a = some t → hp_T h b = some u → ι a = ι b → a = b) ∧
  (∀ a t k b, hp_T h a = some t → t < 98 → (kx_ft t k).1 = 2 → hp_R h a k = some b → hp_T h b = some (kx_ft t k).2) ∧
  (∀ a t k b, hp_T h a = some t → 98 < t → (kx_ak t).1 = 2 → hp_R h a k = some b → hp_T h b = some (kx_ak t).2)
/-- which old cells a method may write -/
def kx_A (s0 s : State) : Nat → Prop := fun q => s0.heap.size ≤ q ∧ ∀ cell : Cell, s.heap[q]? = some cell → cell.vm.isStatics = false
def kx_le (h0 h : kx_H) : Prop := hp_X h0 ≤ hp_X h ∧ (∀ a t, hp_T h0 a = some t → hp_T h a = some t) ∧ hp_C h ≤ kx_cc ∧ hp_U h ≤ kx_cs
def kx_out (ι : Nat → Nat) (hf : kx_H) (rr : kx_R) (o : Outcome) (t : State) : Prop := match rr with
  | .inl v => o = .returned (v.map (kx_cv ι)) ∧ ∀ x, v = some x → kx_ok hf x
  | .inr e => ∃ (x : Addr) (cell : Cell), o = .threw x ∧ t.heap[x]? = some cell ∧ cell.vm.isStatics = false ∧ cell.vm ≠ .unknown ∧ t.vm.findClass (kx_en e) = some cell.cls
/-- a method's end -/
def kx_E (s0 : State) (D : va_G) (cA : Nat → ClassId) (ι0 : Nat → Nat) (h0 : kx_H) (rr : kx_R) (hf : kx_H) (st : State) (o : Outcome) (t : State) : Prop :=
  ∃ (ι : Nat → Nat) (L : List Loc) (k n : Nat), (∀ a, a < hp_X h0 → ι a = ι0 a) ∧ kx_P s0 D cA ι hf t.heap ∧ kx_out ι hf rr o t ∧ st.WarmedH t.vm ∧ st.sameButNew ({ t with vm := st.vm } : State) L k n ∧ (∀ q ∈ L, kx_A s0 st q.base) ∧
    (∀ q : Nat, q < s0.heap.size → t.heap[q]? = st.heap[q]?) ∧ hp_C h0 + k = hp_C hf ∧ hp_U h0 + n = hp_U hf ∧ kx_le h0 hf
def kx_Q (s0 : State) (D : va_G) (cA : Nat → ClassId) (below : List Frame) (s : State) (ι0 : Nat → Nat) (h0 : kx_H) (rr : kx_R) (hf : kx_H) : State → Prop := fun t =>
  ∃ o, t.status = .running ∧ Ended t below o ∧ kx_E s0 D cA ι0 h0 rr hf s o t
/-- the slots of a class are apart -/
def kx_ap (D : va_G) : Prop := ∀ (t : Nat) (r : vw_C), kx_cl[t]? = some r → ∀ x y, x < r.2.2 → y < r.2.2 → x ≠ y → D.2 t x ≠ D.2 t y
/-- what holds of the tables at every state of a run -/
def kx_B (s0 : State) (D : va_G) (cA : Nat → ClassId) (U : State) : Prop := s0.WarmedH U.vm ∧ va_K D kx_cl (kx_tys cA) U ∧ kx_ap D ∧ s0.heap.size ≤ U.heap.size ∧ ∀ q : Nat, q < s0.heap.size → U.heap[q]? = s0.heap[q]?
def kx_G (p : Program) (e : Env) (R : Room) (s : State) (m : MethodId) (args : Array Value) (meth : Method) (c : Code) (s0 : State) (D : va_G) (cA : Nat → ClassId) (cc : ByteArray) (own : String) (nL : Nat) (h0 : kx_H) : Prop :=
  p.tables.exec = Jvm.exec ∧ c.code = cc ∧ s.vm.findClass own = some m.cls ∧ c.maxLocals = nL ∧ meth.locks = false ∧ (∀ w ∈ kx_WS, w.before args s = true) ∧ kx_B s0 D cA s ∧ kx_cc ≤ R.cells + hp_C h0 ∧ kx_cs ≤ R.slots + hp_U h0
def kx_Sm (p : Program) (l : Launch) (e : Env) (R : Room) (s : State) (m : MethodId) (args : Array Value) (below : List Frame) (meth : Method) (c : Code) (s0 : State) (D : va_G) (cA : Nat → ClassId) (nL : Nat) (ι0 : Nat → Nat) (h0 : kx_H) (rr : kx_R) (hf : kx_H) (pc : Nat) (lv : kx_L) (st : List kx_V) (h : kx_H) : Prop :=
  ∀ (ι : Nat → Nat) (H : Heap) (locs : List Loc) (cells slots : Nat) (ls : Array Slot),
    kx_P s0 D cA ι h H → (∀ a t, hp_T h a = some t → t ≠ 98 → kx_A s0 s (ι a)) → lv_has ls nL (kx_lc ι lv) → (∀ v ∈ st, kx_ok h v) → (∀ q ∈ lv, kx_ok h q.2) → va_S (kx_A s0 s) s.heap H locs →
    hp_C h0 + cells = hp_C h → hp_U h0 + slots = hp_U h → (∀ a, a < hp_X h0 → ι a = ι0 a) → kx_le h0 h →
    W p l e R s m args below meth c H locs cells slots (kx_Q s0 D cA below s ι0 h0 rr hf) (F0 m pc ls (st.map (kx_cv ι)))
def kx_Sn (p : Program) (l : Launch) (e : Env) (R : Room) (s : State) (m : MethodId) (args : Array Value) (below : List Frame) (meth : Method) (c : Code) (s0 : State) (D : va_G) (cA : Nat → ClassId) (nL : Nat) (ι0 : Nat → Nat) (h0 : kx_H) (rr : kx_R) (hf : kx_H) (pc : Nat) (F : kx_F) : Prop :=
  ∀ lv st h, F lv st h = some (rr, hf) → kx_Sm p l e R s m args below meth c s0 D cA nL ι0 h0 rr hf pc lv st h
theorem kx_get_mem {lv : kx_L} {i : Nat} {v : kx_V} (h : kx_get lv i = some v) : (i, v) ∈ lv := by
  induction lv with
  | nil => cases h
  | cons q r ih =>
    unfold kx_get at h
    cases hq : Nat.beq q.1 i with
    | true =>
      rw [hq] at h
      have h1 : q.2 = v := Option.some.inj h
      have h2 : q.1 = i := Nat.eq_of_beq_eq_true hq
      rw [← h1, ← h2]
      exact List.mem_cons_self
    | false =>
      rw [hq] at h
      exact List.mem_cons_of_mem _ (ih h)
theorem kx_get_at {ι : Nat → Nat} {ls : Array Slot} {nL : Nat} {lv : kx_L} {i : Nat} {v : kx_V} (hl : lv_has ls nL (kx_lc ι lv)) (h : kx_get lv i = some v) : ls[i]? = some (.val (kx_cv ι v)) :=
  hl.2.2 (i, kx_cv ι v) (List.mem_map.mpr ⟨(i, v), kx_get_mem h, rfl⟩)
theorem kx_cv_cat (ι : Nat → Nat) (v : kx_V) : ((kx_cv ι v).category == 2) = kx_two v := by
  rcases v with x | x | ⟨t, o⟩
  · rfl
  · rfl
  · cases o <;> rfl
theorem kx_put1_lc (ι : Nat → Nat) (lv : kx_L) (i : Nat) (v : kx_V) : (i, kx_cv ι v) :: (kx_lc ι lv).filter (fun q => !(q.1 == i) && !(q.1 + 1 == i && q.2.category == 2)) = kx_lc ι (kx_put1 lv i v) := by
  unfold kx_put1 kx_lc
  rw [List.map_cons, List.filter_map]
  congr 2
  apply List.filter_congr
  intro q _
  simp only [Function.comp, kx_cv_cat]
theorem kx_put2_lc (ι : Nat → Nat) (lv : kx_L) (i : Nat) (v : kx_V) : (i, kx_cv ι v) :: (kx_lc ι lv).filter (fun q => !(q.1 == i) && (!(q.1 == i + 1) && !(q.1 + 1 == i && q.2.category == 2))) = kx_lc ι (kx_put2 lv i v) := by
  unfold kx_put2 kx_lc
  rw [List.map_cons, List.filter_map]
  congr 2
  apply List.filter_congr
  intro q _
  simp only [Function.comp, kx_cv_cat]
theorem kx_put1_ok {h : kx_H} {lv : kx_L} {i : Nat} {v : kx_V} (hv : ∀ q ∈ lv, kx_ok h q.2) (h1 : kx_ok h v) : ∀ q ∈ kx_put1 lv i v, kx_ok h q.2 := by
  intro q hq
  rcases List.mem_cons.mp hq with rfl | hq
  · exact h1
  · exact hv q (List.mem_filter.mp hq).1
theorem kx_put2_ok {h : kx_H} {lv : kx_L} {i : Nat} {v : kx_V} (hv : ∀ q ∈ lv, kx_ok h q.2) (h1 : kx_ok h v) : ∀ q ∈ kx_put2 lv i v, kx_ok h q.2 := by
  intro q hq
  rcases List.mem_cons.mp hq with rfl | hq
  · exact h1
  · exact hv q (List.mem_filter.mp hq).1
theorem kx_pick_ok {lv l' : kx_L} {is : List Nat} (h : kx_pick lv is = some l') : ∀ q ∈ l', q ∈ lv := by
  induction is generalizing l' with
  | nil =>
    unfold kx_pick at h
    cases h
    intro q hq
    cases hq
  | cons i r ih =>
    unfold kx_pick at h
    cases hv : kx_get lv i with
    | none => rw [hv] at h; cases h
    | some v =>
      cases ht : kx_pick lv r with
      | none => rw [hv, ht] at h; cases h
      | some t =>
        rw [hv, ht] at h
        cases h
        intro q hq
        rcases List.mem_cons.mp hq with rfl | hq
        · exact kx_get_mem hv
        · exact ih ht q hq
theorem kx_lc_sub {ι : Nat → Nat} {ls : Array Slot} {nL : Nat} {lv l' : kx_L} (h : lv_has ls nL (kx_lc ι lv)) (hs : ∀ q ∈ l', q ∈ lv) : lv_has ls nL (kx_lc ι l') := by
  refine ⟨h.1, h.2.1, fun q hq => ?_⟩
  obtain ⟨x, hx, rfl⟩ := List.mem_map.mp hq
  exact h.2.2 _ (List.mem_map.mpr ⟨x, hs x hx, rfl⟩)
theorem kx_ok2 {h : kx_H} {v : kx_V} {st : List kx_V} (h1 : kx_ok h v) (h2 : ∀ v ∈ st, kx_ok h v) : ∀ w ∈ v :: st, kx_ok h w := by
  intro w hw
  rcases List.mem_cons.mp hw with rfl | hw
  · exact h1
  · exact h2 w hw
theorem kx_okt {h : kx_H} {v : kx_V} {st : List kx_V} (h2 : ∀ w ∈ v :: st, kx_ok h w) : ∀ w ∈ st, kx_ok h w := fun w hw => h2 w (List.mem_cons_of_mem _ hw)
theorem kx_okh {h : kx_H} {v : kx_V} {st : List kx_V} (h2 : ∀ w ∈ v :: st, kx_ok h w) : kx_ok h v := h2 v List.mem_cons_self
section KS
variable {p : Program} {l : Launch} {e : Env} {R : Room} {s : State} {m : MethodId} {args : Array Value} {below : List Frame} {meth : Method} {c : Code}
variable {s0 : State} {D : va_G} {cA : Nat → ClassId} {cc : ByteArray} {own : String} {nL : Nat} {ι0 : Nat → Nat} {h0 hf : kx_H} {rr : kx_R} {pc : Nat} {k : kx_F}
theorem kx_s_c {v : kx_V} {n : Nat} {x : Value} (step : ∀ {H : Heap} {locs : List Loc} {cells slots : Nat} {Q : State → Prop} {ls : Array Slot} {rest : List Value}, W p l e R s m args below meth c H locs cells slots Q (F0 m (pc + n) ls (x :: rest)) → W p l e R s m args below meth c H locs cells slots Q (F0 m pc ls rest)) (hx : ∀ ι, kx_cv ι v = x) (ho : ∀ h, kx_ok h v) (hk : kx_Sn p l e R s m args below meth c s0 D cA nL ι0 h0 rr hf (pc + n) k) : kx_Sn p l e R s m args below meth c s0 D cA nL ι0 h0 rr hf pc (kx_c v k) := by
  intro lv st h hF
  intro ι H locs cells slots ls hP hA hl hs hv hS hC hU hI hE
  have kk := hk lv (v :: st) h hF ι H locs cells slots ls hP hA hl (kx_ok2 (ho h) hs) hv hS hC hU hI hE
  rw [List.map_cons, hx] at kk
  exact step kk
theorem kx_s_iconst (G : kx_G p e R s m args meth c s0 D cA cc own nL h0) {i : Int} {v : Int32} (hv : Int32.ofInt i = v) (hd : decode cc pc = .ok (.iconst i, 1)) (hk : kx_Sn p l e R s m args below meth c s0 D cA nL ι0 h0 rr hf (pc + 1) k) : kx_Sn p l e R s m args below meth c s0 D cA nL ι0 h0 rr hf pc (kx_c (kx_i v) k) :=
  kx_s_c (x := .int v) (fun kk => lv_iconst G.1 G.2.1 hd hv kk) (fun _ => rfl) (fun _ => trivial) hk
theorem kx_s_bipush (G : kx_G p e R s m args meth c s0 D cA cc own nL h0) {i : Int} {v : Int32} (hv : (Int8.ofInt i).toInt32 = v) (hd : decode cc pc = .ok (.bipush i, 2)) (hk : kx_Sn p l e R s m args below meth c s0 D cA nL ι0 h0 rr hf (pc + 2) k) : kx_Sn p l e R s m args below meth c s0 D cA nL ι0 h0 rr hf pc (kx_c (kx_i v) k) :=
  kx_s_c (x := .int v) (fun kk => lv_bipush G.1 G.2.1 hd hv kk) (fun _ => rfl) (fun _ => trivial) hk
theorem kx_s_sipush (G : kx_G p e R s m args meth c s0 D cA cc own nL h0) {i : Int} {v : Int32} (hv : (Int16.ofInt i).toInt32 = v) (hd : decode cc pc = .ok (.sipush i, 3)) (hk : kx_Sn p l e R s m args below meth c s0 D cA nL ι0 h0 rr hf (pc + 3) k) : kx_Sn p l e R s m args below meth c s0 D cA nL ι0 h0 rr hf pc (kx_c (kx_i v) k) :=
  kx_s_c (x := .int v) (fun kk => lv_sipush G.1 G.2.1 hd hv kk) (fun _ => rfl) (fun _ => trivial) hk
theorem kx_s_lconst (G : kx_G p e R s m args meth c s0 D cA cc own nL h0) {i : Fin 2} {v : Int64} (hv : Int64.ofNat (i : Nat) = v) (hd : decode cc pc = .ok (.lconst i, 1)) (hk : kx_Sn p l e R s m args below meth c s0 D cA nL ι0 h0 rr hf (pc + 1) k) : kx_Sn p l e R s m args below meth c s0 D cA nL ι0 h0 rr hf pc (kx_c (kx_l v) k) :=
  kx_s_c (x := .long v) (fun kk => lv_lconst G.1 G.2.1 hd hv kk) (fun _ => rfl) (fun _ => trivial) hk
theorem kx_s_ldc (G : kx_G p e R s m args meth c s0 D cA cc own nL h0) {i : Nat} {v : Int32} (hw : Cond.constant own i v ∈ kx_WS) (hd : decode cc pc = .ok (.ldc i, 2)) (hk : kx_Sn p l e R s m args below meth c s0 D cA nL ι0 h0 rr hf (pc + 2) k) : kx_Sn p l e R s m args below meth c s0 D cA nL ι0 h0 rr hf pc (kx_c (kx_i v) k) :=
  kx_s_c (x := .int v) (fun kk => lv_ldc G.1 G.2.1 G.2.2.1 (G.2.2.2.2.2.1 _ hw) hd kk) (fun _ => rfl) (fun _ => trivial) hk
theorem kx_s_ldc2 (G : kx_G p e R s m args meth c s0 D cA cc own nL h0) {i : Nat} {v : Int64} (hw : Cond.constantLong own i v ∈ kx_WS) (hd : decode cc pc = .ok (.ldc2_w i, 3)) (hk : kx_Sn p l e R s m args below meth c s0 D cA nL ι0 h0 rr hf (pc + 3) k) : kx_Sn p l e R s m args below meth c s0 D cA nL ι0 h0 rr hf pc (kx_c (kx_l v) k) :=
  kx_s_c (x := .long v) (fun kk => lv_ldc2 G.1 G.2.1 G.2.2.1 (G.2.2.2.2.2.1 _ hw) hd kk) (fun _ => rfl) (fun _ => trivial) hk
theorem kx_s_null (G : kx_G p e R s m args meth c s0 D cA cc own nL h0) {t : Nat} (hd : decode cc pc = .ok (.aconst_null, 1)) (hk : kx_Sn p l e R s m args below meth c s0 D cA nL ι0 h0 rr hf (pc + 1) k) : kx_Sn p l e R s m args below meth c s0 D cA nL ι0 h0 rr hf pc (kx_c (kx_r t none) k) :=
  kx_s_c (x := .null) (fun kk => lv_null G.1 G.2.1 hd kk) (fun _ => rfl) (fun _ a ha => by cases ha) hk
theorem kx_s_iload_n (G : kx_G p e R s m args meth c s0 D cA cc own nL h0) {i : Nat} {j : Fin 4} (hi : (j : Nat) = i) (hd : decode cc pc = .ok (.iload_n j, 1)) (hk : kx_Sn p l e R s m args below meth c s0 D cA nL ι0 h0 rr hf (pc + 1) k) : kx_Sn p l e R s m args below meth c s0 D cA nL ι0 h0 rr hf pc (kx_li i k) := by
  intro lv st h hF
  unfold kx_li at hF
  split at hF
  · rename_i x hg
    intro ι H locs cells slots ls hP hA hl hs hv hS hC hU hI hE
    exact lv_iload_n G.1 G.2.1 hd hi (kx_get_at hl hg) (hk _ _ _ hF ι H locs cells slots ls hP hA hl (kx_ok2 trivial hs) hv hS hC hU hI hE)
  · cases hF
theorem kx_s_iload (G : kx_G p e R s m args meth c s0 D cA cc own nL h0) {i : Nat}  (hd : decode cc pc = .ok (.iload i, 2)) (hk : kx_Sn p l e R s m args below meth c s0 D cA nL ι0 h0 rr hf (pc + 2) k) : kx_Sn p l e R s m args below meth c s0 D cA nL ι0 h0 rr hf pc (kx_li i k) := by
  intro lv st h hF
  unfold kx_li at hF
  split at hF
  · rename_i x hg
    intro ι H locs cells slots ls hP hA hl hs hv hS hC hU hI hE
    exact lv_iload G.1 G.2.1 hd (kx_get_at hl hg) (hk _ _ _ hF ι H locs cells slots ls hP hA hl (kx_ok2 trivial hs) hv hS hC hU hI hE)
  · cases hF
theorem kx_s_lload_n (G : kx_G p e R s m args meth c s0 D cA cc own nL h0) {i : Nat} {j : Fin 4} (hi : (j : Nat) = i) (hd : decode cc pc = .ok (.lload_n j, 1)) (hk : kx_Sn p l e R s m args below meth c s0 D cA nL ι0 h0 rr hf (pc + 1) k) : kx_Sn p l e R s m args below meth c s0 D cA nL ι0 h0 rr hf pc (kx_ll i k) := by
  intro lv st h hF
  unfold kx_ll at hF
  split at hF
  · rename_i x hg
    intro ι H locs cells slots ls hP hA hl hs hv hS hC hU hI hE
    exact lv_lload_n G.1 G.2.1 hd hi (kx_get_at hl hg) (hk _ _ _ hF ι H locs cells slots ls hP hA hl (kx_ok2 trivial hs) hv hS hC hU hI hE)
  · cases hF
theorem kx_s_lload (G : kx_G p e R s m args meth c s0 D cA cc own nL h0) {i : Nat}  (hd : decode cc pc = .ok (.lload i, 2)) (hk : kx_Sn p l e R s m args below meth c s0 D cA nL ι0 h0 rr hf (pc + 2) k) : kx_Sn p l e R s m args below meth c s0 D cA nL ι0 h0 rr hf pc (kx_ll i k) := by
  intro lv st h hF
  unfold kx_ll at hF
  split at hF
  · rename_i x hg
    intro ι H locs cells slots ls hP hA hl hs hv hS hC hU hI hE
    exact lv_lload G.1 G.2.1 hd (kx_get_at hl hg) (hk _ _ _ hF ι H locs cells slots ls hP hA hl (kx_ok2 trivial hs) hv hS hC hU hI hE)
  · cases hF
theorem kx_s_aload_n (G : kx_G p e R s m args meth c s0 D cA cc own nL h0) {i : Nat} {j : Fin 4} (hi : (j : Nat) = i) (hd : decode cc pc = .ok (.aload_n j, 1)) (hk : kx_Sn p l e R s m args below meth c s0 D cA nL ι0 h0 rr hf (pc + 1) k) : kx_Sn p l e R s m args below meth c s0 D cA nL ι0 h0 rr hf pc (kx_la i k) := by
  intro lv st h hF
  unfold kx_la at hF
  split at hF
  · rename_i x hg
    intro ι H locs cells slots ls hP hA hl hs hv hS hC hU hI hE
    have h1 := kx_get_at hl hg
    have h2 := hk _ _ _ hF ι H locs cells slots ls hP hA hl (kx_ok2 (hv _ (kx_get_mem hg)) hs) hv hS hC hU hI hE
    obtain ⟨t, o⟩ := x
    cases o with
    | none => exact lv_aload_nN G.1 G.2.1 hd hi  h1 h2
    | some a => exact lv_aload_n G.1 G.2.1 hd hi  h1 h2
  · cases hF
theorem kx_s_aload (G : kx_G p e R s m args meth c s0 D cA cc own nL h0) {i : Nat}  (hd : decode cc pc = .ok (.aload i, 2)) (hk : kx_Sn p l e R s m args below meth c s0 D cA nL ι0 h0 rr hf (pc + 2) k) : kx_Sn p l e R s m args below meth c s0 D cA nL ι0 h0 rr hf pc (kx_la i k) := by
  intro lv st h hF
  unfold kx_la at hF
  split at hF
  · rename_i x hg
    intro ι H locs cells slots ls hP hA hl hs hv hS hC hU hI hE
    have h1 := kx_get_at hl hg
    have h2 := hk _ _ _ hF ι H locs cells slots ls hP hA hl (kx_ok2 (hv _ (kx_get_mem hg)) hs) hv hS hC hU hI hE
    obtain ⟨t, o⟩ := x
    cases o with
    | none => exact lv_aloadN G.1 G.2.1 hd  h1 h2
    | some a => exact lv_aload G.1 G.2.1 hd  h1 h2
  · cases hF
theorem kx_s_istore_n (G : kx_G p e R s m args meth c s0 D cA cc own nL h0) {i : Nat} {j : Fin 4} (hi : (j : Nat) = i) (hd : decode cc pc = .ok (.istore_n j, 1)) (hn : i < nL) (hk : kx_Sn p l e R s m args below meth c s0 D cA nL ι0 h0 rr hf (pc + 1) k) : kx_Sn p l e R s m args below meth c s0 D cA nL ι0 h0 rr hf pc (kx_si i k) := by
  intro lv st h hF
  unfold kx_si at hF
  split at hF
  · rename_i x r
    intro ι H locs cells slots ls hP hA hl hs hv hS hC hU hI hE
    exact lv_istore_n G.1 G.2.1 hd hi hl hn (kx_put1_lc ι lv i (.inl x)) (fun ls' hl' => hk _ _ _ hF ι H locs cells slots ls' hP hA hl' (kx_okt hs) (kx_put1_ok hv trivial) hS hC hU hI hE)
  · cases hF
theorem kx_s_istore (G : kx_G p e R s m args meth c s0 D cA cc own nL h0) {i : Nat}  (hd : decode cc pc = .ok (.istore i, 2)) (hn : i < nL) (hk : kx_Sn p l e R s m args below meth c s0 D cA nL ι0 h0 rr hf (pc + 2) k) : kx_Sn p l e R s m args below meth c s0 D cA nL ι0 h0 rr hf pc (kx_si i k) := by
  intro lv st h hF
  unfold kx_si at hF
  split at hF
  · rename_i x r
    intro ι H locs cells slots ls hP hA hl hs hv hS hC hU hI hE
    exact lv_istore G.1 G.2.1 hd hl hn (kx_put1_lc ι lv i (.inl x)) (fun ls' hl' => hk _ _ _ hF ι H locs cells slots ls' hP hA hl' (kx_okt hs) (kx_put1_ok hv trivial) hS hC hU hI hE)
  · cases hF
theorem kx_s_lstore_n (G : kx_G p e R s m args meth c s0 D cA cc own nL h0) {i : Nat} {j : Fin 4} (hi : (j : Nat) = i) (hd : decode cc pc = .ok (.lstore_n j, 1)) (hn : i + 1 < nL) (hk : kx_Sn p l e R s m args below meth c s0 D cA nL ι0 h0 rr hf (pc + 1) k) : kx_Sn p l e R s m args below meth c s0 D cA nL ι0 h0 rr hf pc (kx_sl i k) := by
  intro lv st h hF
  unfold kx_sl at hF
  split at hF
  · rename_i x r
    intro ι H locs cells slots ls hP hA hl hs hv hS hC hU hI hE
    exact lv_lstore_n G.1 G.2.1 hd hi hl hn (kx_put2_lc ι lv i (.inr (.inl x))) (fun ls' hl' => hk _ _ _ hF ι H locs cells slots ls' hP hA hl' (kx_okt hs) (kx_put2_ok hv trivial) hS hC hU hI hE)
  · cases hF
theorem kx_s_lstore (G : kx_G p e R s m args meth c s0 D cA cc own nL h0) {i : Nat}  (hd : decode cc pc = .ok (.lstore i, 2)) (hn : i + 1 < nL) (hk : kx_Sn p l e R s m args below meth c s0 D cA nL ι0 h0 rr hf (pc + 2) k) : kx_Sn p l e R s m args below meth c s0 D cA nL ι0 h0 rr hf pc (kx_sl i k) := by
  intro lv st h hF
  unfold kx_sl at hF
  split at hF
  · rename_i x r
    intro ι H locs cells slots ls hP hA hl hs hv hS hC hU hI hE
    exact lv_lstore G.1 G.2.1 hd hl hn (kx_put2_lc ι lv i (.inr (.inl x))) (fun ls' hl' => hk _ _ _ hF ι H locs cells slots ls' hP hA hl' (kx_okt hs) (kx_put2_ok hv trivial) hS hC hU hI hE)
  · cases hF
theorem kx_s_astore_n (G : kx_G p e R s m args meth c s0 D cA cc own nL h0) {i : Nat} {j : Fin 4} (hi : (j : Nat) = i) (hd : decode cc pc = .ok (.astore_n j, 1)) (hn : i < nL) (hk : kx_Sn p l e R s m args below meth c s0 D cA nL ι0 h0 rr hf (pc + 1) k) : kx_Sn p l e R s m args below meth c s0 D cA nL ι0 h0 rr hf pc (kx_sa i k) := by
  intro lv st h hF
  unfold kx_sa at hF
  split at hF
  · rename_i x r
    intro ι H locs cells slots ls hP hA hl hs hv hS hC hU hI hE
    have h2 := fun ls' hl' => hk _ _ _ hF ι H locs cells slots ls' hP hA hl' (kx_okt hs) (kx_put1_ok hv (kx_okh hs)) hS hC hU hI hE
    have h3 := kx_put1_lc ι lv i (.inr (.inr x))
    obtain ⟨t, o⟩ := x
    cases o with
    | none => exact lv_astore_nN G.1 G.2.1 hd hi hl hn h3 h2
    | some a => exact lv_astore_n G.1 G.2.1 hd hi hl hn h3 h2
  · cases hF
theorem kx_s_astore (G : kx_G p e R s m args meth c s0 D cA cc own nL h0) {i : Nat}  (hd : decode cc pc = .ok (.astore i, 2)) (hn : i < nL) (hk : kx_Sn p l e R s m args below meth c s0 D cA nL ι0 h0 rr hf (pc + 2) k) : kx_Sn p l e R s m args below meth c s0 D cA nL ι0 h0 rr hf pc (kx_sa i k) := by
  intro lv st h hF
  unfold kx_sa at hF
  split at hF
  · rename_i x r
    intro ι H locs cells slots ls hP hA hl hs hv hS hC hU hI hE
    have h2 := fun ls' hl' => hk _ _ _ hF ι H locs cells slots ls' hP hA hl' (kx_okt hs) (kx_put1_ok hv (kx_okh hs)) hS hC hU hI hE
    have h3 := kx_put1_lc ι lv i (.inr (.inr x))
    obtain ⟨t, o⟩ := x
    cases o with
    | none => exact lv_astoreN G.1 G.2.1 hd hl hn h3 h2
    | some a => exact lv_astore G.1 G.2.1 hd hl hn h3 h2
  · cases hF
theorem kx_s_iinc (G : kx_G p e R s m args meth c s0 D cA cc own nL h0) {i : Nat} {n : Int} {v : Int32} (hd : decode cc pc = .ok (.iinc i n, 3)) (hv0 : Int32.ofInt n = v) (hn : i < nL) (hk : kx_Sn p l e R s m args below meth c s0 D cA nL ι0 h0 rr hf (pc + 3) k) : kx_Sn p l e R s m args below meth c s0 D cA nL ι0 h0 rr hf pc (kx_inc i v k) := by
  intro lv st h hF
  unfold kx_inc at hF
  split at hF
  · rename_i x hg
    intro ι H locs cells slots ls hP hA hl hs hv hS hC hU hI hE
    obtain ⟨q, hq⟩ := List.getElem?_of_mem (show (i, kx_cv ι (.inl x)) ∈ kx_lc ι lv from List.mem_map.mpr ⟨(i, .inl x), kx_get_mem hg, rfl⟩)
    exact lv_iinc (v := x + v) G.1 G.2.1 hd hl hq (by rw [hv0]) hn (kx_put1_lc ι lv i (.inl (x + v))) (fun ls' hl' => hk _ _ _ hF ι H locs cells slots ls' hP hA hl' hs (kx_put1_ok hv trivial) hS hC hU hI hE)
  · cases hF
theorem kx_s_nm {is : List Nat} (hk : kx_Sn p l e R s m args below meth c s0 D cA nL ι0 h0 rr hf pc k) : kx_Sn p l e R s m args below meth c s0 D cA nL ι0 h0 rr hf pc (kx_nm is k) := by
  intro lv st h hF
  unfold kx_nm at hF
  cases hq : kx_pick lv is with
  | none => rw [hq] at hF; cases hF
  | some l' =>
    rw [hq] at hF
    intro ι H locs cells slots ls hP hA hl hs hv hS hC hU hI hE
    have hsub := kx_pick_ok hq
    exact hk _ _ _ hF ι H locs cells slots ls hP hA (kx_lc_sub hl hsub) hs (fun q h9 => hv q (hsub q h9)) hS hC hU hI hE
theorem kx_s_ii {f : Int32 → Int32 → Int32} (step : ∀ {H : Heap} {locs : List Loc} {cells slots : Nat} {Q : State → Prop} {ls : Array Slot} {x y : Int32} {rest : List Value}, W p l e R s m args below meth c H locs cells slots Q (F0 m (pc + 1) ls (.int (f x y) :: rest)) → W p l e R s m args below meth c H locs cells slots Q (F0 m pc ls (.int y :: .int x :: rest))) (hk : kx_Sn p l e R s m args below meth c s0 D cA nL ι0 h0 rr hf (pc + 1) k) : kx_Sn p l e R s m args below meth c s0 D cA nL ι0 h0 rr hf pc (kx_ii f k) := by
  intro lv st h hF
  unfold kx_ii at hF
  split at hF
  · intro ι H locs cells slots ls hP hA hl hs hv hS hC hU hI hE
    exact step (hk _ _ _ hF ι H locs cells slots ls hP hA hl (kx_ok2 trivial (kx_okt (kx_okt hs))) hv hS hC hU hI hE)
  · cases hF
theorem kx_s_jj {f : Int64 → Int64 → Int64} (step : ∀ {H : Heap} {locs : List Loc} {cells slots : Nat} {Q : State → Prop} {ls : Array Slot} {x y : Int64} {rest : List Value}, W p l e R s m args below meth c H locs cells slots Q (F0 m (pc + 1) ls (.long (f x y) :: rest)) → W p l e R s m args below meth c H locs cells slots Q (F0 m pc ls (.long y :: .long x :: rest))) (hk : kx_Sn p l e R s m args below meth c s0 D cA nL ι0 h0 rr hf (pc + 1) k) : kx_Sn p l e R s m args below meth c s0 D cA nL ι0 h0 rr hf pc (kx_jj f k) := by
  intro lv st h hF
  unfold kx_jj at hF
  split at hF
  · intro ι H locs cells slots ls hP hA hl hs hv hS hC hU hI hE
    exact step (hk _ _ _ hF ι H locs cells slots ls hP hA hl (kx_ok2 trivial (kx_okt (kx_okt hs))) hv hS hC hU hI hE)
  · cases hF
theorem kx_s_ji {f : Int64 → Int32 → Int64} (step : ∀ {H : Heap} {locs : List Loc} {cells slots : Nat} {Q : State → Prop} {ls : Array Slot} {x : Int64} {y : Int32} {rest : List Value}, W p l e R s m args below meth c H locs cells slots Q (F0 m (pc + 1) ls (.long (f x y) :: rest)) → W p l e R s m args below meth c H locs cells slots Q (F0 m pc ls (.int y :: .long x :: rest))) (hk : kx_Sn p l e R s m args below meth c s0 D cA nL ι0 h0 rr hf (pc + 1) k) : kx_Sn p l e R s m args below meth c s0 D cA nL ι0 h0 rr hf pc (kx_ji f k) := by
  intro lv st h hF
  unfold kx_ji at hF
  split at hF
  · intro ι H locs cells slots ls hP hA hl hs hv hS hC hU hI hE
    exact step (hk _ _ _ hF ι H locs cells slots ls hP hA hl (kx_ok2 trivial (kx_okt (kx_okt hs))) hv hS hC hU hI hE)
  · cases hF
theorem kx_s_iadd (G : kx_G p e R s m args meth c s0 D cA cc own nL h0) (hd : decode cc pc = .ok (.iadd, 1)) (hk : kx_Sn p l e R s m args below meth c s0 D cA nL ι0 h0 rr hf (pc + 1) k) : kx_Sn p l e R s m args below meth c s0 D cA nL ι0 h0 rr hf pc (kx_ii (fun x y => x + y) k) :=
  kx_s_ii (fun kk => lv_iadd G.1 G.2.1 hd kk) hk
theorem kx_s_isub (G : kx_G p e R s m args meth c s0 D cA cc own nL h0) (hd : decode cc pc = .ok (.isub, 1)) (hk : kx_Sn p l e R s m args below meth c s0 D cA nL ι0 h0 rr hf (pc + 1) k) : kx_Sn p l e R s m args below meth c s0 D cA nL ι0 h0 rr hf pc (kx_ii (fun x y => x - y) k) :=
  kx_s_ii (fun kk => lv_isub G.1 G.2.1 hd kk) hk
theorem kx_s_imul (G : kx_G p e R s m args meth c s0 D cA cc own nL h0) (hd : decode cc pc = .ok (.imul, 1)) (hk : kx_Sn p l e R s m args below meth c s0 D cA nL ι0 h0 rr hf (pc + 1) k) : kx_Sn p l e R s m args below meth c s0 D cA nL ι0 h0 rr hf pc (kx_ii (fun x y => x * y) k) :=
  kx_s_ii (fun kk => lv_imul G.1 G.2.1 hd kk) hk
theorem kx_s_iand (G : kx_G p e R s m args meth c s0 D cA cc own nL h0) (hd : decode cc pc = .ok (.iand, 1)) (hk : kx_Sn p l e R s m args below meth c s0 D cA nL ι0 h0 rr hf (pc + 1) k) : kx_Sn p l e R s m args below meth c s0 D cA nL ι0 h0 rr hf pc (kx_ii (fun x y => x &&& y) k) :=
  kx_s_ii (fun kk => lv_iand G.1 G.2.1 hd kk) hk
theorem kx_s_ior (G : kx_G p e R s m args meth c s0 D cA cc own nL h0) (hd : decode cc pc = .ok (.ior, 1)) (hk : kx_Sn p l e R s m args below meth c s0 D cA nL ι0 h0 rr hf (pc + 1) k) : kx_Sn p l e R s m args below meth c s0 D cA nL ι0 h0 rr hf pc (kx_ii (fun x y => x ||| y) k) :=
  kx_s_ii (fun kk => lv_ior G.1 G.2.1 hd kk) hk
theorem kx_s_ixor (G : kx_G p e R s m args meth c s0 D cA cc own nL h0) (hd : decode cc pc = .ok (.ixor, 1)) (hk : kx_Sn p l e R s m args below meth c s0 D cA nL ι0 h0 rr hf (pc + 1) k) : kx_Sn p l e R s m args below meth c s0 D cA nL ι0 h0 rr hf pc (kx_ii (fun x y => x ^^^ y) k) :=
  kx_s_ii (fun kk => lv_ixor G.1 G.2.1 hd kk) hk
theorem kx_s_ladd (G : kx_G p e R s m args meth c s0 D cA cc own nL h0) (hd : decode cc pc = .ok (.ladd, 1)) (hk : kx_Sn p l e R s m args below meth c s0 D cA nL ι0 h0 rr hf (pc + 1) k) : kx_Sn p l e R s m args below meth c s0 D cA nL ι0 h0 rr hf pc (kx_jj (fun x y => x + y) k) :=
  kx_s_jj (fun kk => lv_ladd G.1 G.2.1 hd kk) hk
theorem kx_s_lsub (G : kx_G p e R s m args meth c s0 D cA cc own nL h0) (hd : decode cc pc = .ok (.lsub, 1)) (hk : kx_Sn p l e R s m args below meth c s0 D cA nL ι0 h0 rr hf (pc + 1) k) : kx_Sn p l e R s m args below meth c s0 D cA nL ι0 h0 rr hf pc (kx_jj (fun x y => x - y) k) :=
  kx_s_jj (fun kk => lv_lsub G.1 G.2.1 hd kk) hk
theorem kx_s_lmul (G : kx_G p e R s m args meth c s0 D cA cc own nL h0) (hd : decode cc pc = .ok (.lmul, 1)) (hk : kx_Sn p l e R s m args below meth c s0 D cA nL ι0 h0 rr hf (pc + 1) k) : kx_Sn p l e R s m args below meth c s0 D cA nL ι0 h0 rr hf pc (kx_jj (fun x y => x * y) k) :=
  kx_s_jj (fun kk => lv_lmul G.1 G.2.1 hd kk) hk
theorem kx_s_land (G : kx_G p e R s m args meth c s0 D cA cc own nL h0) (hd : decode cc pc = .ok (.land, 1)) (hk : kx_Sn p l e R s m args below meth c s0 D cA nL ι0 h0 rr hf (pc + 1) k) : kx_Sn p l e R s m args below meth c s0 D cA nL ι0 h0 rr hf pc (kx_jj (fun x y => x &&& y) k) :=
  kx_s_jj (fun kk => lv_land G.1 G.2.1 hd kk) hk
theorem kx_s_lor (G : kx_G p e R s m args meth c s0 D cA cc own nL h0) (hd : decode cc pc = .ok (.lor, 1)) (hk : kx_Sn p l e R s m args below meth c s0 D cA nL ι0 h0 rr hf (pc + 1) k) : kx_Sn p l e R s m args below meth c s0 D cA nL ι0 h0 rr hf pc (kx_jj (fun x y => x ||| y) k) :=
  kx_s_jj (fun kk => lv_lor G.1 G.2.1 hd kk) hk
theorem kx_s_lxor (G : kx_G p e R s m args meth c s0 D cA cc own nL h0) (hd : decode cc pc = .ok (.lxor, 1)) (hk : kx_Sn p l e R s m args below meth c s0 D cA nL ι0 h0 rr hf (pc + 1) k) : kx_Sn p l e R s m args below meth c s0 D cA nL ι0 h0 rr hf pc (kx_jj (fun x y => x ^^^ y) k) :=
  kx_s_jj (fun kk => lv_lxor G.1 G.2.1 hd kk) hk
theorem kx_s_lshl (G : kx_G p e R s m args meth c s0 D cA cc own nL h0) (hd : decode cc pc = .ok (.lshl, 1)) (hk : kx_Sn p l e R s m args below meth c s0 D cA nL ι0 h0 rr hf (pc + 1) k) : kx_Sn p l e R s m args below meth c s0 D cA nL ι0 h0 rr hf pc (kx_ji (fun x y => x <<< (y.toInt64 &&& 63)) k) :=
  kx_s_ji (fun kk => lv_lshl G.1 G.2.1 hd rfl kk) hk
theorem kx_s_irem (G : kx_G p e R s m args meth c s0 D cA cc own nL h0) (hd : decode cc pc = .ok (.irem, 1)) (hk : kx_Sn p l e R s m args below meth c s0 D cA nL ι0 h0 rr hf (pc + 1) k) : kx_Sn p l e R s m args below meth c s0 D cA nL ι0 h0 rr hf pc (kx_irem k) := by
  intro lv st h hF
  unfold kx_irem at hF
  split at hF
  · split at hF
    · cases hF
    · rename_i hy
      intro ι H locs cells slots ls hP hA hl hs hv hS hC hU hI hE
      exact lv_irem G.1 G.2.1 hd hy (hk _ _ _ hF ι H locs cells slots ls hP hA hl (kx_ok2 trivial (kx_okt (kx_okt hs))) hv hS hC hU hI hE)
  · cases hF
theorem kx_s_idiv (G : kx_G p e R s m args meth c s0 D cA cc own nL h0) (hd : decode cc pc = .ok (.idiv, 1)) (hk : kx_Sn p l e R s m args below meth c s0 D cA nL ι0 h0 rr hf (pc + 1) k) : kx_Sn p l e R s m args below meth c s0 D cA nL ι0 h0 rr hf pc (kx_idiv k) := by
  intro lv st h hF
  unfold kx_idiv at hF
  split at hF
  · split at hF
    · cases hF
    · rename_i hy
      intro ι H locs cells slots ls hP hA hl hs hv hS hC hU hI hE
      exact lv_idiv G.1 G.2.1 hd hy (hk _ _ _ hF ι H locs cells slots ls hP hA hl (kx_ok2 trivial (kx_okt (kx_okt hs))) hv hS hC hU hI hE)
  · cases hF
theorem kx_s_ineg (G : kx_G p e R s m args meth c s0 D cA cc own nL h0) (hd : decode cc pc = .ok (.ineg, 1)) (hk : kx_Sn p l e R s m args below meth c s0 D cA nL ι0 h0 rr hf (pc + 1) k) : kx_Sn p l e R s m args below meth c s0 D cA nL ι0 h0 rr hf pc (kx_ineg k) := by
  intro lv st h hF
  unfold kx_ineg at hF
  split at hF
  · intro ι H locs cells slots ls hP hA hl hs hv hS hC hU hI hE
    exact lv_ineg G.1 G.2.1 hd (hk _ _ _ hF ι H locs cells slots ls hP hA hl (kx_ok2 trivial (kx_okt hs)) hv hS hC hU hI hE)
  · cases hF
theorem kx_s_i2l (G : kx_G p e R s m args meth c s0 D cA cc own nL h0) (hd : decode cc pc = .ok (.i2l, 1)) (hk : kx_Sn p l e R s m args below meth c s0 D cA nL ι0 h0 rr hf (pc + 1) k) : kx_Sn p l e R s m args below meth c s0 D cA nL ι0 h0 rr hf pc (kx_i2l k) := by
  intro lv st h hF
  unfold kx_i2l at hF
  split at hF
  · intro ι H locs cells slots ls hP hA hl hs hv hS hC hU hI hE
    exact lv_i2l G.1 G.2.1 hd rfl (hk _ _ _ hF ι H locs cells slots ls hP hA hl (kx_ok2 trivial (kx_okt hs)) hv hS hC hU hI hE)
  · cases hF
theorem kx_s_l2i (G : kx_G p e R s m args meth c s0 D cA cc own nL h0) (hd : decode cc pc = .ok (.l2i, 1)) (hk : kx_Sn p l e R s m args below meth c s0 D cA nL ι0 h0 rr hf (pc + 1) k) : kx_Sn p l e R s m args below meth c s0 D cA nL ι0 h0 rr hf pc (kx_l2i k) := by
  intro lv st h hF
  unfold kx_l2i at hF
  split at hF
  · intro ι H locs cells slots ls hP hA hl hs hv hS hC hU hI hE
    exact lv_l2i G.1 G.2.1 hd rfl (hk _ _ _ hF ι H locs cells slots ls hP hA hl (kx_ok2 trivial (kx_okt hs)) hv hS hC hU hI hE)
  · cases hF
theorem kx_s_lcmp (G : kx_G p e R s m args meth c s0 D cA cc own nL h0) (hd : decode cc pc = .ok (.lcmp, 1)) (hk : kx_Sn p l e R s m args below meth c s0 D cA nL ι0 h0 rr hf (pc + 1) k) : kx_Sn p l e R s m args below meth c s0 D cA nL ι0 h0 rr hf pc (kx_lcmp k) := by
  intro lv st h hF
  unfold kx_lcmp at hF
  split at hF
  · intro ι H locs cells slots ls hP hA hl hs hv hS hC hU hI hE
    exact W.lcmp G.1 G.2.1 hd (hk _ _ _ hF ι H locs cells slots ls hP hA hl (kx_ok2 trivial (kx_okt (kx_okt hs))) hv hS hC hU hI hE)
  · cases hF
theorem kx_one {ι : Nat → Nat} {v : kx_V} (h : kx_two v = false) : (kx_cv ι v).category = 1 := by
  rcases v with x | x | ⟨t, o⟩
  · rfl
  · cases h
  · cases o <;> rfl
theorem kx_s_dup (G : kx_G p e R s m args meth c s0 D cA cc own nL h0) (hd : decode cc pc = .ok (.dup, 1)) (hk : kx_Sn p l e R s m args below meth c s0 D cA nL ι0 h0 rr hf (pc + 1) k) : kx_Sn p l e R s m args below meth c s0 D cA nL ι0 h0 rr hf pc (kx_dup k) := by
  intro lv st h hF
  unfold kx_dup at hF
  split at hF
  · rename_i v r
    cases hz : kx_two v with
    | true => rw [hz] at hF; cases hF
    | false =>
      rw [hz] at hF
      intro ι H locs cells slots ls hP hA hl hs hv hS hC hU hI hE
      exact lv_dup G.1 G.2.1 hd (kx_one hz) (hk _ _ _ hF ι H locs cells slots ls hP hA hl (kx_ok2 (kx_okh hs) hs) hv hS hC hU hI hE)
  · cases hF
theorem kx_s_pop (G : kx_G p e R s m args meth c s0 D cA cc own nL h0) (hd : decode cc pc = .ok (.pop, 1)) (hk : kx_Sn p l e R s m args below meth c s0 D cA nL ι0 h0 rr hf (pc + 1) k) : kx_Sn p l e R s m args below meth c s0 D cA nL ι0 h0 rr hf pc (kx_pop k) := by
  intro lv st h hF
  unfold kx_pop at hF
  split at hF
  · rename_i v r
    cases hz : kx_two v with
    | true => rw [hz] at hF; cases hF
    | false =>
      rw [hz] at hF
      intro ι H locs cells slots ls hP hA hl hs hv hS hC hU hI hE
      exact lv_pop G.1 G.2.1 hd (kx_one hz) (hk _ _ _ hF ι H locs cells slots ls hP hA hl (kx_okt hs) hv hS hC hU hI hE)
  · cases hF
theorem kx_s_dup_x1 (G : kx_G p e R s m args meth c s0 D cA cc own nL h0) (hd : decode cc pc = .ok (.dup_x1, 1)) (hk : kx_Sn p l e R s m args below meth c s0 D cA nL ι0 h0 rr hf (pc + 1) k) : kx_Sn p l e R s m args below meth c s0 D cA nL ι0 h0 rr hf pc (kx_dupx1 k) := by
  intro lv st h hF
  unfold kx_dupx1 at hF
  split at hF
  · rename_i v w r
    cases hz : kx_two v with
    | true => rw [hz] at hF; cases hF
    | false =>
      cases hz2 : kx_two w with
      | true => rw [hz, hz2] at hF; cases hF
      | false =>
        rw [hz, hz2] at hF
        intro ι H locs cells slots ls hP hA hl hs hv hS hC hU hI hE
        exact lv_dup_x1 G.1 G.2.1 hd (kx_one hz) (kx_one hz2) (hk _ _ _ hF ι H locs cells slots ls hP hA hl (kx_ok2 (kx_okh hs) (kx_ok2 (kx_okh (kx_okt hs)) (kx_ok2 (kx_okh hs) (kx_okt (kx_okt hs))))) hv hS hC hU hI hE)
  · cases hF
theorem kx_s_dup2 (G : kx_G p e R s m args meth c s0 D cA cc own nL h0) (hd : decode cc pc = .ok (.dup2, 1)) (hk : kx_Sn p l e R s m args below meth c s0 D cA nL ι0 h0 rr hf (pc + 1) k) : kx_Sn p l e R s m args below meth c s0 D cA nL ι0 h0 rr hf pc (kx_dup2 k) := by
  intro lv st h hF
  unfold kx_dup2 at hF
  split at hF
  · rename_i v w r
    cases hz : kx_two v with
    | true => rw [hz] at hF; cases hF
    | false =>
      cases hz2 : kx_two w with
      | true => rw [hz, hz2] at hF; cases hF
      | false =>
        rw [hz, hz2] at hF
        intro ι H locs cells slots ls hP hA hl hs hv hS hC hU hI hE
        exact lv_dup2_11 G.1 G.2.1 hd (kx_one hz) (kx_one hz2) (hk _ _ _ hF ι H locs cells slots ls hP hA hl (kx_ok2 (kx_okh hs) (kx_ok2 (kx_okh (kx_okt hs)) hs)) hv hS hC hU hI hE)
  · cases hF
theorem kx_s_ifeq (G : kx_G p e R s m args meth c s0 D cA cc own nL h0) {off : Int} {tgt : Nat} {t : kx_F} (hd : decode cc pc = .ok (.ifCond .eq off, 3)) (hg : (pc : Int) + off = (tgt : Int)) (ht : kx_Sn p l e R s m args below meth c s0 D cA nL ι0 h0 rr hf tgt t) (hk : kx_Sn p l e R s m args below meth c s0 D cA nL ι0 h0 rr hf (pc + 3) k) : kx_Sn p l e R s m args below meth c s0 D cA nL ι0 h0 rr hf pc (kx_ifeq t k) := by
  intro lv st h hF
  unfold kx_ifeq at hF
  split at hF
  · intro ι H locs cells slots ls hP hA hl hs hv hS hC hU hI hE
    exact lv_if_eq G.1 G.2.1 hd hg (fun hb9 => ht _ _ _ (by simpa only [if_pos hb9] using hF) ι H locs cells slots ls hP hA hl (kx_okt hs) hv hS hC hU hI hE) (fun hb9 => hk _ _ _ (by simpa only [if_neg hb9] using hF) ι H locs cells slots ls hP hA hl (kx_okt hs) hv hS hC hU hI hE)
  · cases hF
theorem kx_s_ifne (G : kx_G p e R s m args meth c s0 D cA cc own nL h0) {off : Int} {tgt : Nat} {t : kx_F} (hd : decode cc pc = .ok (.ifCond .ne off, 3)) (hg : (pc : Int) + off = (tgt : Int)) (ht : kx_Sn p l e R s m args below meth c s0 D cA nL ι0 h0 rr hf tgt t) (hk : kx_Sn p l e R s m args below meth c s0 D cA nL ι0 h0 rr hf (pc + 3) k) : kx_Sn p l e R s m args below meth c s0 D cA nL ι0 h0 rr hf pc (kx_ifne t k) := by
  intro lv st h hF
  unfold kx_ifne at hF
  split at hF
  · intro ι H locs cells slots ls hP hA hl hs hv hS hC hU hI hE
    exact lv_if_ne G.1 G.2.1 hd hg (fun hb9 => ht _ _ _ (by simpa only [if_neg hb9] using hF) ι H locs cells slots ls hP hA hl (kx_okt hs) hv hS hC hU hI hE) (fun hb9 => hk _ _ _ (by simpa only [if_pos hb9] using hF) ι H locs cells slots ls hP hA hl (kx_okt hs) hv hS hC hU hI hE)
  · cases hF
theorem kx_s_iflt (G : kx_G p e R s m args meth c s0 D cA cc own nL h0) {off : Int} {tgt : Nat} {t : kx_F} (hd : decode cc pc = .ok (.ifCond .lt off, 3)) (hg : (pc : Int) + off = (tgt : Int)) (ht : kx_Sn p l e R s m args below meth c s0 D cA nL ι0 h0 rr hf tgt t) (hk : kx_Sn p l e R s m args below meth c s0 D cA nL ι0 h0 rr hf (pc + 3) k) : kx_Sn p l e R s m args below meth c s0 D cA nL ι0 h0 rr hf pc (kx_iflt t k) := by
  intro lv st h hF
  unfold kx_iflt at hF
  split at hF
  · intro ι H locs cells slots ls hP hA hl hs hv hS hC hU hI hE
    exact lv_if_lt G.1 G.2.1 hd hg (fun hb9 => ht _ _ _ (by simpa only [if_pos hb9] using hF) ι H locs cells slots ls hP hA hl (kx_okt hs) hv hS hC hU hI hE) (fun hb9 => hk _ _ _ (by simpa only [if_neg hb9] using hF) ι H locs cells slots ls hP hA hl (kx_okt hs) hv hS hC hU hI hE)
  · cases hF
theorem kx_s_ifge (G : kx_G p e R s m args meth c s0 D cA cc own nL h0) {off : Int} {tgt : Nat} {t : kx_F} (hd : decode cc pc = .ok (.ifCond .ge off, 3)) (hg : (pc : Int) + off = (tgt : Int)) (ht : kx_Sn p l e R s m args below meth c s0 D cA nL ι0 h0 rr hf tgt t) (hk : kx_Sn p l e R s m args below meth c s0 D cA nL ι0 h0 rr hf (pc + 3) k) : kx_Sn p l e R s m args below meth c s0 D cA nL ι0 h0 rr hf pc (kx_ifge t k) := by
  intro lv st h hF
  unfold kx_ifge at hF
  split at hF
  · intro ι H locs cells slots ls hP hA hl hs hv hS hC hU hI hE
    exact lv_if_ge G.1 G.2.1 hd hg (fun hb9 => ht _ _ _ (by simpa only [if_pos hb9] using hF) ι H locs cells slots ls hP hA hl (kx_okt hs) hv hS hC hU hI hE) (fun hb9 => hk _ _ _ (by simpa only [if_neg hb9] using hF) ι H locs cells slots ls hP hA hl (kx_okt hs) hv hS hC hU hI hE)
  · cases hF
theorem kx_s_ifgt (G : kx_G p e R s m args meth c s0 D cA cc own nL h0) {off : Int} {tgt : Nat} {t : kx_F} (hd : decode cc pc = .ok (.ifCond .gt off, 3)) (hg : (pc : Int) + off = (tgt : Int)) (ht : kx_Sn p l e R s m args below meth c s0 D cA nL ι0 h0 rr hf tgt t) (hk : kx_Sn p l e R s m args below meth c s0 D cA nL ι0 h0 rr hf (pc + 3) k) : kx_Sn p l e R s m args below meth c s0 D cA nL ι0 h0 rr hf pc (kx_ifgt t k) := by
  intro lv st h hF
  unfold kx_ifgt at hF
  split at hF
  · intro ι H locs cells slots ls hP hA hl hs hv hS hC hU hI hE
    exact lv_if_gt G.1 G.2.1 hd hg (fun hb9 => ht _ _ _ (by simpa only [if_pos hb9] using hF) ι H locs cells slots ls hP hA hl (kx_okt hs) hv hS hC hU hI hE) (fun hb9 => hk _ _ _ (by simpa only [if_neg hb9] using hF) ι H locs cells slots ls hP hA hl (kx_okt hs) hv hS hC hU hI hE)
  · cases hF
theorem kx_s_ifle (G : kx_G p e R s m args meth c s0 D cA cc own nL h0) {off : Int} {tgt : Nat} {t : kx_F} (hd : decode cc pc = .ok (.ifCond .le off, 3)) (hg : (pc : Int) + off = (tgt : Int)) (ht : kx_Sn p l e R s m args below meth c s0 D cA nL ι0 h0 rr hf tgt t) (hk : kx_Sn p l e R s m args below meth c s0 D cA nL ι0 h0 rr hf (pc + 3) k) : kx_Sn p l e R s m args below meth c s0 D cA nL ι0 h0 rr hf pc (kx_ifle t k) := by
  intro lv st h hF
  unfold kx_ifle at hF
  split at hF
  · intro ι H locs cells slots ls hP hA hl hs hv hS hC hU hI hE
    exact lv_if_le G.1 G.2.1 hd hg (fun hb9 => ht _ _ _ (by simpa only [if_pos hb9] using hF) ι H locs cells slots ls hP hA hl (kx_okt hs) hv hS hC hU hI hE) (fun hb9 => hk _ _ _ (by simpa only [if_neg hb9] using hF) ι H locs cells slots ls hP hA hl (kx_okt hs) hv hS hC hU hI hE)
  · cases hF
theorem kx_s_ceq (G : kx_G p e R s m args meth c s0 D cA cc own nL h0) {off : Int} {tgt : Nat} {t : kx_F} (hd : decode cc pc = .ok (.if_icmp .eq off, 3)) (hg : (pc : Int) + off = (tgt : Int)) (ht : kx_Sn p l e R s m args below meth c s0 D cA nL ι0 h0 rr hf tgt t) (hk : kx_Sn p l e R s m args below meth c s0 D cA nL ι0 h0 rr hf (pc + 3) k) : kx_Sn p l e R s m args below meth c s0 D cA nL ι0 h0 rr hf pc (kx_ceq t k) := by
  intro lv st h hF
  unfold kx_ceq at hF
  split at hF
  · intro ι H locs cells slots ls hP hA hl hs hv hS hC hU hI hE
    exact lv_icmp_eq G.1 G.2.1 hd hg (fun hb9 => ht _ _ _ (by simpa only [if_pos hb9] using hF) ι H locs cells slots ls hP hA hl (kx_okt (kx_okt hs)) hv hS hC hU hI hE) (fun hb9 => hk _ _ _ (by simpa only [if_neg hb9] using hF) ι H locs cells slots ls hP hA hl (kx_okt (kx_okt hs)) hv hS hC hU hI hE)
  · cases hF
theorem kx_s_cne (G : kx_G p e R s m args meth c s0 D cA cc own nL h0) {off : Int} {tgt : Nat} {t : kx_F} (hd : decode cc pc = .ok (.if_icmp .ne off, 3)) (hg : (pc : Int) + off = (tgt : Int)) (ht : kx_Sn p l e R s m args below meth c s0 D cA nL ι0 h0 rr hf tgt t) (hk : kx_Sn p l e R s m args below meth c s0 D cA nL ι0 h0 rr hf (pc + 3) k) : kx_Sn p l e R s m args below meth c s0 D cA nL ι0 h0 rr hf pc (kx_cne t k) := by
  intro lv st h hF
  unfold kx_cne at hF
  split at hF
  · intro ι H locs cells slots ls hP hA hl hs hv hS hC hU hI hE
    exact lv_icmp_ne G.1 G.2.1 hd hg (fun hb9 => ht _ _ _ (by simpa only [if_neg hb9] using hF) ι H locs cells slots ls hP hA hl (kx_okt (kx_okt hs)) hv hS hC hU hI hE) (fun hb9 => hk _ _ _ (by simpa only [if_pos hb9] using hF) ι H locs cells slots ls hP hA hl (kx_okt (kx_okt hs)) hv hS hC hU hI hE)
  · cases hF
theorem kx_s_clt (G : kx_G p e R s m args meth c s0 D cA cc own nL h0) {off : Int} {tgt : Nat} {t : kx_F} (hd : decode cc pc = .ok (.if_icmp .lt off, 3)) (hg : (pc : Int) + off = (tgt : Int)) (ht : kx_Sn p l e R s m args below meth c s0 D cA nL ι0 h0 rr hf tgt t) (hk : kx_Sn p l e R s m args below meth c s0 D cA nL ι0 h0 rr hf (pc + 3) k) : kx_Sn p l e R s m args below meth c s0 D cA nL ι0 h0 rr hf pc (kx_clt t k) := by
  intro lv st h hF
  unfold kx_clt at hF
  split at hF
  · intro ι H locs cells slots ls hP hA hl hs hv hS hC hU hI hE
    exact lv_icmp_lt G.1 G.2.1 hd hg (fun hb9 => ht _ _ _ (by simpa only [if_pos hb9] using hF) ι H locs cells slots ls hP hA hl (kx_okt (kx_okt hs)) hv hS hC hU hI hE) (fun hb9 => hk _ _ _ (by simpa only [if_neg hb9] using hF) ι H locs cells slots ls hP hA hl (kx_okt (kx_okt hs)) hv hS hC hU hI hE)
  · cases hF
theorem kx_s_cge (G : kx_G p e R s m args meth c s0 D cA cc own nL h0) {off : Int} {tgt : Nat} {t : kx_F} (hd : decode cc pc = .ok (.if_icmp .ge off, 3)) (hg : (pc : Int) + off = (tgt : Int)) (ht : kx_Sn p l e R s m args below meth c s0 D cA nL ι0 h0 rr hf tgt t) (hk : kx_Sn p l e R s m args below meth c s0 D cA nL ι0 h0 rr hf (pc + 3) k) : kx_Sn p l e R s m args below meth c s0 D cA nL ι0 h0 rr hf pc (kx_cge t k) := by
  intro lv st h hF
  unfold kx_cge at hF
  split at hF
  · intro ι H locs cells slots ls hP hA hl hs hv hS hC hU hI hE
    exact lv_icmp_ge G.1 G.2.1 hd hg (fun hb9 => ht _ _ _ (by simpa only [if_pos hb9] using hF) ι H locs cells slots ls hP hA hl (kx_okt (kx_okt hs)) hv hS hC hU hI hE) (fun hb9 => hk _ _ _ (by simpa only [if_neg hb9] using hF) ι H locs cells slots ls hP hA hl (kx_okt (kx_okt hs)) hv hS hC hU hI hE)
  · cases hF
theorem kx_s_cgt (G : kx_G p e R s m args meth c s0 D cA cc own nL h0) {off : Int} {tgt : Nat} {t : kx_F} (hd : decode cc pc = .ok (.if_icmp .gt off, 3)) (hg : (pc : Int) + off = (tgt : Int)) (ht : kx_Sn p l e R s m args below meth c s0 D cA nL ι0 h0 rr hf tgt t) (hk : kx_Sn p l e R s m args below meth c s0 D cA nL ι0 h0 rr hf (pc + 3) k) : kx_Sn p l e R s m args below meth c s0 D cA nL ι0 h0 rr hf pc (kx_cgt t k) := by
  intro lv st h hF
  unfold kx_cgt at hF
  split at hF
  · intro ι H locs cells slots ls hP hA hl hs hv hS hC hU hI hE
    exact lv_icmp_gt G.1 G.2.1 hd hg (fun hb9 => ht _ _ _ (by simpa only [if_pos hb9] using hF) ι H locs cells slots ls hP hA hl (kx_okt (kx_okt hs)) hv hS hC hU hI hE) (fun hb9 => hk _ _ _ (by simpa only [if_neg hb9] using hF) ι H locs cells slots ls hP hA hl (kx_okt (kx_okt hs)) hv hS hC hU hI hE)
  · cases hF
theorem kx_s_cle (G : kx_G p e R s m args meth c s0 D cA cc own nL h0) {off : Int} {tgt : Nat} {t : kx_F} (hd : decode cc pc = .ok (.if_icmp .le off, 3)) (hg : (pc : Int) + off = (tgt : Int)) (ht : kx_Sn p l e R s m args below meth c s0 D cA nL ι0 h0 rr hf tgt t) (hk : kx_Sn p l e R s m args below meth c s0 D cA nL ι0 h0 rr hf (pc + 3) k) : kx_Sn p l e R s m args below meth c s0 D cA nL ι0 h0 rr hf pc (kx_cle t k) := by
  intro lv st h hF
  unfold kx_cle at hF
  split at hF
  · intro ι H locs cells slots ls hP hA hl hs hv hS hC hU hI hE
    exact lv_icmp_le G.1 G.2.1 hd hg (fun hb9 => ht _ _ _ (by simpa only [if_pos hb9] using hF) ι H locs cells slots ls hP hA hl (kx_okt (kx_okt hs)) hv hS hC hU hI hE) (fun hb9 => hk _ _ _ (by simpa only [if_neg hb9] using hF) ι H locs cells slots ls hP hA hl (kx_okt (kx_okt hs)) hv hS hC hU hI hE)
  · cases hF
theorem kx_s_goto (G : kx_G p e R s m args meth c s0 D cA cc own nL h0) {off : Int} {tgt : Nat} (hd : decode cc pc = .ok (.goto off, 3)) (hg : (pc : Int) + off = (tgt : Int)) (hk : kx_Sn p l e R s m args below meth c s0 D cA nL ι0 h0 rr hf tgt k) : kx_Sn p l e R s m args below meth c s0 D cA nL ι0 h0 rr hf pc k := by
  intro lv st h hF
  intro ι H locs cells slots ls hP hA hl hs hv hS hC hU hI hE
  exact lv_goto G.1 G.2.1 hd hg (hk _ _ _ hF ι H locs cells slots ls hP hA hl hs hv hS hC hU hI hE)
theorem kx_s_ifnull (G : kx_G p e R s m args meth c s0 D cA cc own nL h0) {off : Int} {tgt : Nat} {t : kx_F} (hd : decode cc pc = .ok (.ifnull off, 3)) (hg : (pc : Int) + off = (tgt : Int)) (ht : kx_Sn p l e R s m args below meth c s0 D cA nL ι0 h0 rr hf tgt t) (hk : kx_Sn p l e R s m args below meth c s0 D cA nL ι0 h0 rr hf (pc + 3) k) : kx_Sn p l e R s m args below meth c s0 D cA nL ι0 h0 rr hf pc (kx_nul t k) := by
  intro lv st h hF
  unfold kx_nul at hF
  split at hF
  · rename_i x r
    intro ι H locs cells slots ls hP hA hl hs hv hS hC hU hI hE
    obtain ⟨t9, o⟩ := x
    cases o with
    | none => exact lv_ifnullN G.1 G.2.1 hd hg (ht _ _ _ hF ι H locs cells slots ls hP hA hl (kx_okt hs) hv hS hC hU hI hE)
    | some a => exact lv_ifnull G.1 G.2.1 hd (hk _ _ _ hF ι H locs cells slots ls hP hA hl (kx_okt hs) hv hS hC hU hI hE)
  · cases hF
theorem kx_s_ifnonnull (G : kx_G p e R s m args meth c s0 D cA cc own nL h0) {off : Int} {tgt : Nat} {t : kx_F} (hd : decode cc pc = .ok (.ifnonnull off, 3)) (hg : (pc : Int) + off = (tgt : Int)) (ht : kx_Sn p l e R s m args below meth c s0 D cA nL ι0 h0 rr hf tgt t) (hk : kx_Sn p l e R s m args below meth c s0 D cA nL ι0 h0 rr hf (pc + 3) k) : kx_Sn p l e R s m args below meth c s0 D cA nL ι0 h0 rr hf pc (kx_nnul t k) := by
  intro lv st h hF
  unfold kx_nnul at hF
  split at hF
  · rename_i x r
    intro ι H locs cells slots ls hP hA hl hs hv hS hC hU hI hE
    obtain ⟨t9, o⟩ := x
    cases o with
    | none => exact lv_ifnonnullN G.1 G.2.1 hd (hk _ _ _ hF ι H locs cells slots ls hP hA hl (kx_okt hs) hv hS hC hU hI hE)
    | some a => exact lv_ifnonnull G.1 G.2.1 hd hg (ht _ _ _ hF ι H locs cells slots ls hP hA hl (kx_okt hs) hv hS hC hU hI hE)
  · cases hF
theorem kx_inj {ι : Nat → Nat} {h : kx_H} {H : Heap} (hP : kx_P s0 D cA ι h H) {t u : Nat} {x y : Option Nat} (hx : kx_ok h (kx_r t x)) (hy : kx_ok h (kx_r u y)) : x.map ι = y.map ι ↔ x = y := by
  refine ⟨fun q => ?_, fun q => by rw [q]⟩
  cases x with
  | none => cases y with
    | none => rfl
    | some b => cases q
  | some a => cases y with
    | none => cases q
    | some b => rw [hP.2.1 a b t u (hx a rfl) (hy b rfl) (Option.some.inj q)]
theorem kx_s_aeq (G : kx_G p e R s m args meth c s0 D cA cc own nL h0) {off : Int} {tgt : Nat} {t : kx_F} (hd : decode cc pc = .ok (.if_acmp .eq off, 3)) (hg : (pc : Int) + off = (tgt : Int)) (ht : kx_Sn p l e R s m args below meth c s0 D cA nL ι0 h0 rr hf tgt t) (hk : kx_Sn p l e R s m args below meth c s0 D cA nL ι0 h0 rr hf (pc + 3) k) : kx_Sn p l e R s m args below meth c s0 D cA nL ι0 h0 rr hf pc (kx_aeq t k) := by
  intro lv st h hF
  unfold kx_aeq at hF
  split at hF
  · rename_i y x r
    intro ι H locs cells slots ls hP hA hl hs hv hS hC hU hI hE
    cases hq : Nat.beq x.1 y.1 with
    | false => rw [hq] at hF; cases hF
    | true =>
      rw [hq] at hF
      have hi := kx_inj hP (kx_okh (kx_okt hs)) (kx_okh hs)
      refine lv_acmp_eq G.1 G.2.1 hd hg (fun hb9 => ht _ _ _ ?_ ι H locs cells slots ls hP hA hl (kx_okt (kx_okt hs)) hv hS hC hU hI hE) (fun hb9 => hk _ _ _ ?_ ι H locs cells slots ls hP hA hl (kx_okt (kx_okt hs)) hv hS hC hU hI hE)
      · simpa only [cond_true, if_pos (hi.mp hb9)] using hF
      · simpa only [cond_true, if_neg (fun z => hb9 (hi.mpr z))] using hF
  · cases hF
theorem kx_s_ane (G : kx_G p e R s m args meth c s0 D cA cc own nL h0) {off : Int} {tgt : Nat} {t : kx_F} (hd : decode cc pc = .ok (.if_acmp .ne off, 3)) (hg : (pc : Int) + off = (tgt : Int)) (ht : kx_Sn p l e R s m args below meth c s0 D cA nL ι0 h0 rr hf tgt t) (hk : kx_Sn p l e R s m args below meth c s0 D cA nL ι0 h0 rr hf (pc + 3) k) : kx_Sn p l e R s m args below meth c s0 D cA nL ι0 h0 rr hf pc (kx_ane t k) := by
  intro lv st h hF
  unfold kx_ane at hF
  split at hF
  · rename_i y x r
    intro ι H locs cells slots ls hP hA hl hs hv hS hC hU hI hE
    cases hq : Nat.beq x.1 y.1 with
    | false => rw [hq] at hF; cases hF
    | true =>
      rw [hq] at hF
      have hi := kx_inj hP (kx_okh (kx_okt hs)) (kx_okh hs)
      refine lv_acmp_ne G.1 G.2.1 hd hg (fun hb9 => ht _ _ _ ?_ ι H locs cells slots ls hP hA hl (kx_okt (kx_okt hs)) hv hS hC hU hI hE) (fun hb9 => hk _ _ _ ?_ ι H locs cells slots ls hP hA hl (kx_okt (kx_okt hs)) hv hS hC hU hI hE)
      · simpa only [cond_true, if_neg (fun z => hb9 (hi.mpr z))] using hF
      · simpa only [cond_true, if_pos (hi.mp hb9)] using hF
  · cases hF
end KS
end
section
theorem kx_nrf {ty : FieldType} (h : ty.isReference = true) (o : Option Nat) : narrow ty (va_rf o) = va_rf o := by
  cases ty <;> first | (cases o <;> rfl) | cases h
theorem kx_frf {ty : FieldType} (h : ty.isReference = true) (o : Option Nat) : fits ty (va_rf o) = true := by
  cases ty <;> first | (cases o <;> rfl) | cases h
theorem kx_v0 (ι : Nat → Nat) (h : kx_H) (a k : Nat) (v : Int32) (b kd j : Nat) : kx_val ι (hp_sI h a k v) b kd j = if kd = 0 ∧ b = a ∧ j = k then .int v else kx_val ι h b kd j := by
  rcases kd with _ | _ | _ | kd
  · show Value.int (if b = a ∧ j = k then v else _) = _
    by_cases hq : b = a ∧ j = k
    · rw [if_pos hq, if_pos ⟨rfl, hq⟩]
    · rw [if_neg hq, if_neg (fun z => hq z.2)]; rfl
  · rw [if_neg (fun z => by cases z.1)]; rfl
  · rw [if_neg (fun z => by cases z.1)]; rfl
  · rw [if_neg (fun z => by cases z.1)]; rfl
theorem kx_v1 (ι : Nat → Nat) (h : kx_H) (a k : Nat) (v : Int64) (b kd j : Nat) : kx_val ι (hp_sL h a k v) b kd j = if kd = 1 ∧ b = a ∧ j = k then .long v else kx_val ι h b kd j := by
  rcases kd with _ | _ | _ | kd
  · rw [if_neg (fun z => by cases z.1)]; rfl
  · show Value.long (if b = a ∧ j = k then v else _) = _
    by_cases hq : b = a ∧ j = k
    · rw [if_pos hq, if_pos ⟨rfl, hq⟩]
    · rw [if_neg hq, if_neg (fun z => hq z.2)]; rfl
  · rw [if_neg (fun z => by cases z.1)]; rfl
  · rw [if_neg (fun z => by cases z.1)]; rfl
theorem kx_v2 (ι : Nat → Nat) (h : kx_H) (a k : Nat) (v : Option Nat) (b kd j : Nat) : kx_val ι (hp_sR h a k v) b kd j = if kd = 2 ∧ b = a ∧ j = k then va_rf (v.map ι) else kx_val ι h b kd j := by
  rcases kd with _ | _ | _ | kd
  · rw [if_neg (fun z => by cases z.1)]; rfl
  · rw [if_neg (fun z => by cases z.1)]; rfl
  · show va_rf ((if b = a ∧ j = k then v else _).map ι) = _
    by_cases hq : b = a ∧ j = k
    · rw [if_pos hq, if_pos ⟨rfl, hq⟩]
    · rw [if_neg hq, if_neg (fun z => hq z.2)]; rfl
  · rw [if_neg (fun z => by cases z.1)]; rfl
theorem kx_v3 (ι : Nat → Nat) (h : kx_H) (a k : Nat) (v : Bool) (b kd j : Nat) : kx_val ι (hp_sB h a k v) b kd j = if 2 < kd ∧ b = a ∧ j = k then .int (kx_b v) else kx_val ι h b kd j := by
  rcases kd with _ | _ | _ | kd
  · rw [if_neg (fun z => by omega)]; rfl
  · rw [if_neg (fun z => by omega)]; rfl
  · rw [if_neg (fun z => by omega)]; rfl
  · show Value.int (kx_b (if b = a ∧ j = k then v else _)) = _
    by_cases hq : b = a ∧ j = k
    · rw [if_pos hq, if_pos ⟨by omega, hq⟩]
    · rw [if_neg hq, if_neg (fun z => hq z.2)]; rfl
theorem kx_updV {V : Nat → Value} {k : Nat} {v : Value} (j : Nat) : updV V k v j = if j = k then v else V j := by
  by_cases hj : j = k
  · subst hj; simp [updV]
  · simp [updV, hj]
/-- an object's cell is written -/
theorem kx_P_set {s0 : State} {D : va_G} {cA : Nat → ClassId} {ι : Nat → Nat} {h h' : kx_H} {H H' : Heap} {a t : Nat} {r : vw_C} (hP : kx_P s0 D cA ι h H) (ha : hp_T h a = some t) (ht : t < 98) (hc : kx_cl[t]? = some r)
    (hob : t_OB (ι a) (D.1 t) r.2.2 (D.2 t) H' (fun k => kx_val ι h' a (kx_ft t k).1 k)) (hq : ∀ q : Nat, q ≠ ι a → H'[q]? = H[q]?) (hT : hp_T h' = hp_T h) (hN : hp_N h' = hp_N h) (hX : hp_X h' = hp_X h)
    (ho : ∀ b, b ≠ a → ∀ kd k, kx_val ι h' b kd k = kx_val ι h b kd k) (hIo : ∀ b, b ≠ a → hp_I h' b = hp_I h b)
    (hR1 : ∀ b t' k c, hp_T h b = some t' → t' < 98 → (kx_ft t' k).1 = 2 → hp_R h' b k = some c → hp_T h c = some (kx_ft t' k).2)
    (hR2 : ∀ b t' k c, hp_T h b = some t' → 98 < t' → (kx_ak t').1 = 2 → hp_R h' b k = some c → hp_T h c = some (kx_ak t').2) : kx_P s0 D cA ι h' H' := by
  refine ⟨fun b t' hb => ?_, ?_, ?_, ?_⟩
  · rw [hT] at hb
    by_cases e : b = a
    · subst e
      have e2 : t' = t := Option.some.inj (hb.symm.trans ha)
      subst e2
      exact ⟨by rw [hX]; exact (hP.1 b _ hb).1, fun z => absurd z (by omega), fun _ => ⟨((hP.1 b _ hb).2.2.1 ht).1, r, hc, hob⟩, fun z => absurd z (by omega)⟩
    · have hne : ι b ≠ ι a := fun z => e (hP.2.1 b a t' t hb ha z)
      obtain ⟨g1, g2, g3, g4⟩ := hP.1 b t' hb
      refine ⟨by rw [hX]; exact g1, fun z => ?_, fun z => ?_, fun z => ?_⟩
      · obtain ⟨x1, x2⟩ := g2 z
        rw [hN, hIo b e]
        exact ⟨x1.kept (hq _ hne), x2⟩
      · obtain ⟨x0, r', x1, x2⟩ := g3 z
        exact ⟨x0, r', x1, (x2.kept (hq _ hne)).to (fun k _ => (ho b e _ k).symm)⟩
      · obtain ⟨x0, x1⟩ := g4 z
        refine ⟨x0, ?_⟩
        rw [hq _ hne, x1, hN]
        simp only [ho b e]
  · intro b c t' u hb hc'
    rw [hT] at hb hc'
    exact hP.2.1 b c t' u hb hc'
  · intro b t' k c hb
    rw [hT] at hb ⊢
    exact hR1 b t' k c hb
  · intro b t' k c hb
    rw [hT] at hb ⊢
    exact hR2 b t' k c hb
/-- an array's cell is written -/
theorem kx_P_arr {s0 : State} {D : va_G} {cA : Nat → ClassId} {ι : Nat → Nat} {h h' : kx_H} {H H' : Heap} {a t : Nat} (hP : kx_P s0 D cA ι h H) (ha : hp_T h a = some t) (ht : 98 < t)
    (hob : H'[ι a]? = some (arrV (cA t) (hp_N h a) (fun i => kx_val ι h' a (kx_ak t).1 i))) (hq : ∀ q : Nat, q ≠ ι a → H'[q]? = H[q]?) (hT : hp_T h' = hp_T h) (hN : hp_N h' = hp_N h) (hX : hp_X h' = hp_X h)
    (ho : ∀ b, b ≠ a → ∀ kd k, kx_val ι h' b kd k = kx_val ι h b kd k) (hIo : ∀ b, b ≠ a → hp_I h' b = hp_I h b)
    (hR1 : ∀ b t' k c, hp_T h b = some t' → t' < 98 → (kx_ft t' k).1 = 2 → hp_R h' b k = some c → hp_T h c = some (kx_ft t' k).2)
    (hR2 : ∀ b t' k c, hp_T h b = some t' → 98 < t' → (kx_ak t').1 = 2 → hp_R h' b k = some c → hp_T h c = some (kx_ak t').2) : kx_P s0 D cA ι h' H' := by
  refine ⟨fun b t' hb => ?_, ?_, ?_, ?_⟩
  · rw [hT] at hb
    by_cases e : b = a
    · subst e
      have e2 : t' = t := Option.some.inj (hb.symm.trans ha)
      subst e2
      exact ⟨by rw [hX]; exact (hP.1 b _ hb).1, fun z => absurd z (by omega), fun z => absurd z (by omega), fun _ => ⟨((hP.1 b _ hb).2.2.2 ht).1, by rw [hN]; exact hob⟩⟩
    · have hne : ι b ≠ ι a := fun z => e (hP.2.1 b a t' t hb ha z)
      obtain ⟨g1, g2, g3, g4⟩ := hP.1 b t' hb
      refine ⟨by rw [hX]; exact g1, fun z => ?_, fun z => ?_, fun z => ?_⟩
      · obtain ⟨x1, x2⟩ := g2 z
        rw [hN, hIo b e]
        exact ⟨x1.kept (hq _ hne), x2⟩
      · obtain ⟨x0, r', x1, x2⟩ := g3 z
        exact ⟨x0, r', x1, (x2.kept (hq _ hne)).to (fun k _ => (ho b e _ k).symm)⟩
      · obtain ⟨x0, x1⟩ := g4 z
        refine ⟨x0, ?_⟩
        rw [hq _ hne, x1, hN]
        simp only [ho b e]
  · intro b c t' u hb hc'
    rw [hT] at hb hc'
    exact hP.2.1 b c t' u hb hc'
  · intro b t' k c hb
    rw [hT] at hb ⊢
    exact hR1 b t' k c hb
  · intro b t' k c hb
    rw [hT] at hb ⊢
    exact hR2 b t' k c hb
section KT
variable {p : Program} {l : Launch} {e : Env} {R : Room} {s : State} {m : MethodId} {args : Array Value} {below : List Frame} {meth : Method} {c : Code} {H : Heap} {locs : List Loc} {cells slots : Nat} {Q : State → Prop}
variable {s0 : State} {D : va_G} {cA : Nat → ClassId} {cc : ByteArray} {own : String} {nL : Nat} {ι ι0 : Nat → Nat} {h h0 hf : kx_H} {rr : kx_R} {pc : Nat} {k : kx_F} {ls : Array Slot} {rest : List Value} {a t i : Nat} {r : vw_C}
/-- a field of a class: its place, its link -/
def kx_fd (own : String) (i t q kd cc : Nat) (r : vw_C) : Prop := kx_cl[t]? = some r ∧ q < r.2.2 ∧ t < 98 ∧ Cond.fieldLink own i (r.2.1 q).1 (r.2.1 q).2.1 (r.2.1 q).2.2.1 ∈ kx_WS ∧ (∀ w ∈ u_ws r.1 r.2.1 r.2.2, w ∈ kx_WS) ∧ kx_ft t q = (kd, cc)
theorem kx_wget (G : kx_G p e R s m args meth c s0 D cA cc own nL h0) {q kd c9 : Nat} (hf9 : kx_fd own i t q kd c9 r) (hd : decode cc pc = .ok (.getfield i, 3)) (hP : kx_P s0 D cA ι h H) (ha : hp_T h a = some t) (kk : W p l e R s m args below meth c H locs cells slots Q (F0 m (pc + 3) ls (kx_val ι h a kd q :: rest))) : W p l e R s m args below meth c H locs cells slots Q (F0 m pc ls (.ref (ι a) :: rest)) := by
  obtain ⟨hc, hq, ht, hw, hin, hft⟩ := hf9
  obtain ⟨hx, hb, hown, -, -, hts, ⟨-, hK, -, -, -⟩, -, -⟩ := G
  obtain ⟨-, r', hr', cell, q1, q2, q3, q4⟩ := (hP.1 a t ha).2.2.1 ht
  cases hc.symm.trans hr'
  obtain ⟨hS, hfc, kC, hkC, hkind⟩ := hK.1 t r hc
  obtain ⟨cf, kf, fi, f, hi, hsl⟩ := hS q hq
  refine W.getf hx hb hown (hts _ hw) hi (u_facts hfc hkC (u_lays hts hin hq) hi).1 q1 (by rw [q3]; exact fun z => by cases z) (v := kx_val ι h a kd q) ?_ rfl rfl hd kk
  rw [hsl, q4 q hq]
  show some (kx_val ι h a (kx_ft t q).1 q) = _
  rw [hft]
theorem kx_wput (G : kx_G p e R s m args meth c s0 D cA cc own nL h0) {q kd c9 : Nat} (hf9 : kx_fd own i t q kd c9 r) (hfin : (r.2.1 q).2.2.2 = false) {ty : FieldType} {v : Value} (hdt : parseFieldDescriptor (r.2.1 q).2.2.1 = some ty) (hn : narrow ty v = v) (hfit : fits ty v = true) (hd : decode cc pc = .ok (.putfield i, 3)) (hP : kx_P s0 D cA ι h H) (ha : hp_T h a = some t)
    (kk : ∀ H' : Heap, t_OB (ι a) (D.1 t) r.2.2 (D.2 t) H' (updV (fun j => kx_val ι h a (kx_ft t j).1 j) q v) → H'.size = H.size → (∀ z : Nat, z ≠ ι a → H'[z]? = H[z]?) → W p l e R s m args below meth c H' (locs ++ [⟨ι a, D.2 t q⟩]) cells slots Q (F0 m (pc + 3) ls rest)) : W p l e R s m args below meth c H locs cells slots Q (F0 m pc ls (v :: .ref (ι a) :: rest)) := by
  obtain ⟨hc, hq, ht, hw, hin, hft⟩ := hf9
  obtain ⟨hx, hb, hown, -, -, hts, ⟨-, hK, hap, -, -⟩, -, -⟩ := G
  obtain ⟨-, r', hr', cell, q1, q2, q3, q4⟩ := (hP.1 a t ha).2.2.1 ht
  cases hc.symm.trans hr'
  obtain ⟨hS, hfc, kC, hkC, hkind⟩ := hK.1 t r hc
  obtain ⟨cf, kf, fi, f, hi, hsl⟩ := hS q hq
  have hlay := hts _ (hin _ (u_in_lay hq))
  unfold u_lay at hlay
  rw [if_neg (by rw [hfin]; decide)] at hlay
  have hst := (u_facts hfc hkC (u_lays hts hin hq) hi).1
  have h6 := u_store hfc hkC hkind hlay hi hdt hn hfit
  refine W.putK hx hb (f := f) ⟨hown, hts _ hw, ⟨_, _, _, hi⟩, hst⟩ (by rw [q2]; exact h6) q1 q3 (by rw [hsl]; exact k2_hasslot (q4 q hq)) rfl rfl hd fun H' e1 e2 e3 => ?_
  rw [hsl] at e1 ⊢
  exact kk H' ⟨_, e1, q2, q3, t_set q4 (hap t r hc) hq v⟩ e2 e3
theorem kx_wputF (G : kx_G p e R s m args meth c s0 D cA cc own nL h0) {q kd c9 : Nat} (hf9 : kx_fd own i t q kd c9 r) (hfin : (r.2.1 q).2.2.2 = true) (hin2 : meth.name = "<init>") (hdecl : (r.2.1 q).1 = own) {ty : FieldType} {v : Value} (hdt : parseFieldDescriptor (r.2.1 q).2.2.1 = some ty) (hn : narrow ty v = v) (hfit : fits ty v = true) (hd : decode cc pc = .ok (.putfield i, 3)) (hP : kx_P s0 D cA ι h H) (ha : hp_T h a = some t)
    (kk : ∀ H' : Heap, t_OB (ι a) (D.1 t) r.2.2 (D.2 t) H' (updV (fun j => kx_val ι h a (kx_ft t j).1 j) q v) → H'.size = H.size → (∀ z : Nat, z ≠ ι a → H'[z]? = H[z]?) → W p l e R s m args below meth c H' (locs ++ [⟨ι a, D.2 t q⟩]) cells slots Q (F0 m (pc + 3) ls rest)) : W p l e R s m args below meth c H locs cells slots Q (F0 m pc ls (v :: .ref (ι a) :: rest)) := by
  obtain ⟨hc, hq, ht, hw, hin, hft⟩ := hf9
  obtain ⟨hx, hb, hown, -, -, hts, ⟨-, hK, hap, -, -⟩, -, -⟩ := G
  obtain ⟨-, r', hr', cell, q1, q2, q3, q4⟩ := (hP.1 a t ha).2.2.1 ht
  cases hc.symm.trans hr'
  obtain ⟨hS, hfc, kC, hkC, hkind⟩ := hK.1 t r hc
  obtain ⟨cf, kf, fi, f, hi, hsl⟩ := hS q hq
  have hlay := hts _ (hin _ (u_in_lay hq))
  unfold u_lay at hlay
  rw [if_pos hfin] at hlay
  have hst := (u_facts hfc hkC (u_lays hts hin hq) hi).1
  have hcf : m.cls = cf := by
    obtain ⟨_, _, c', _, _, _, -, -, hf', -, -, -, hown2, -⟩ := Cond.laysFinal_spec hlay
    have e1 : c' = cf := by have := hi.symm.trans hf'; simp at this; exact this.1.symm
    rw [hdecl] at hown2
    rw [← e1]; exact Option.some.inj (hown.symm.trans hown2)
  have h6 := u_fits hfc hkC hkind (Or.inr hlay) hi hdt hn hfit
  refine W.putFinK hx hb hown (hts _ hw) hi hst hcf hin2 (by rw [q2]; exact h6) q1 q3 (by rw [hsl]; exact k2_hasslot (q4 q hq)) rfl rfl hd fun H' e1 e2 e3 => ?_
  rw [hsl] at e1 ⊢
  exact kk H' ⟨_, e1, q2, q3, t_set q4 (hap t r hc) hq v⟩ e2 e3
theorem kx_s_gI (G : kx_G p e R s m args meth c s0 D cA cc own nL h0) {q c9 : Nat} (hf9 : kx_fd own i t q 0 c9 r) (hd : decode cc pc = .ok (.getfield i, 3)) (hk : kx_Sn p l e R s m args below meth c s0 D cA nL ι0 h0 rr hf (pc + 3) k) : kx_Sn p l e R s m args below meth c s0 D cA nL ι0 h0 rr hf pc (kx_gI t q k) := by
  intro lv st h hF
  unfold kx_gI at hF
  split at hF
  · rename_i x r9
    obtain ⟨t9, o9⟩ := x
    cases hq9 : Nat.beq t9 t with
    | false => rw [hq9] at hF; cases hF
    | true =>
      have e9 : t9 = t := Nat.eq_of_beq_eq_true hq9
      subst e9
      rw [hq9] at hF
      cases o9 with
      | none => cases hF
      | some a =>
        intro ι H locs cells slots ls hP hA hl hs hv hS hC hU hI hE
        have ha : hp_T h a = some t9 := kx_okh hs a rfl
        have hok : kx_ok h (kx_i 0) := by
          trivial
        exact kx_wget G hf9 hd hP ha (hk _ _ _ hF ι H locs cells slots ls hP hA hl (kx_ok2 trivial (kx_okt hs)) hv hS hC hU hI hE)
  · cases hF
theorem kx_s_gL (G : kx_G p e R s m args meth c s0 D cA cc own nL h0) {q c9 : Nat} (hf9 : kx_fd own i t q 1 c9 r) (hd : decode cc pc = .ok (.getfield i, 3)) (hk : kx_Sn p l e R s m args below meth c s0 D cA nL ι0 h0 rr hf (pc + 3) k) : kx_Sn p l e R s m args below meth c s0 D cA nL ι0 h0 rr hf pc (kx_gL t q k) := by
  intro lv st h hF
  unfold kx_gL at hF
  split at hF
  · rename_i x r9
    obtain ⟨t9, o9⟩ := x
    cases hq9 : Nat.beq t9 t with
    | false => rw [hq9] at hF; cases hF
    | true =>
      have e9 : t9 = t := Nat.eq_of_beq_eq_true hq9
      subst e9
      rw [hq9] at hF
      cases o9 with
      | none => cases hF
      | some a =>
        intro ι H locs cells slots ls hP hA hl hs hv hS hC hU hI hE
        have ha : hp_T h a = some t9 := kx_okh hs a rfl
        have hok : kx_ok h (kx_i 0) := by
          trivial
        exact kx_wget G hf9 hd hP ha (hk _ _ _ hF ι H locs cells slots ls hP hA hl (kx_ok2 trivial (kx_okt hs)) hv hS hC hU hI hE)
  · cases hF
theorem kx_s_gR (G : kx_G p e R s m args meth c s0 D cA cc own nL h0) {q c9 : Nat} (hf9 : kx_fd own i t q 2 c9 r) (hd : decode cc pc = .ok (.getfield i, 3)) (hk : kx_Sn p l e R s m args below meth c s0 D cA nL ι0 h0 rr hf (pc + 3) k) : kx_Sn p l e R s m args below meth c s0 D cA nL ι0 h0 rr hf pc (kx_gR t q c9 k) := by
  intro lv st h hF
  unfold kx_gR at hF
  split at hF
  · rename_i x r9
    obtain ⟨t9, o9⟩ := x
    cases hq9 : Nat.beq t9 t with
    | false => rw [hq9] at hF; cases hF
    | true =>
      have e9 : t9 = t := Nat.eq_of_beq_eq_true hq9
      subst e9
      rw [hq9] at hF
      cases o9 with
      | none => cases hF
      | some a =>
        intro ι H locs cells slots ls hP hA hl hs hv hS hC hU hI hE
        have ha : hp_T h a = some t9 := kx_okh hs a rfl
        have hok : kx_ok h (kx_r c9 (hp_R h a q)) := by
          intro b hb; have z := hP.2.2.1 a t9 q b ha hf9.2.2.1 (by rw [hf9.2.2.2.2.2]) hb; rw [hf9.2.2.2.2.2] at z; exact z
        exact kx_wget G hf9 hd hP ha (hk _ _ _ hF ι H locs cells slots ls hP hA hl (kx_ok2 hok (kx_okt hs)) hv hS hC hU hI hE)
  · cases hF
theorem kx_s_gB (G : kx_G p e R s m args meth c s0 D cA cc own nL h0) {q c9 : Nat} (hf9 : kx_fd own i t q 3 c9 r) (hd : decode cc pc = .ok (.getfield i, 3)) (hk : kx_Sn p l e R s m args below meth c s0 D cA nL ι0 h0 rr hf (pc + 3) k) : kx_Sn p l e R s m args below meth c s0 D cA nL ι0 h0 rr hf pc (kx_gB t q k) := by
  intro lv st h hF
  unfold kx_gB at hF
  split at hF
  · rename_i x r9
    obtain ⟨t9, o9⟩ := x
    cases hq9 : Nat.beq t9 t with
    | false => rw [hq9] at hF; cases hF
    | true =>
      have e9 : t9 = t := Nat.eq_of_beq_eq_true hq9
      subst e9
      rw [hq9] at hF
      cases o9 with
      | none => cases hF
      | some a =>
        intro ι H locs cells slots ls hP hA hl hs hv hS hC hU hI hE
        have ha : hp_T h a = some t9 := kx_okh hs a rfl
        have hok : kx_ok h (kx_i 0) := by
          trivial
        exact kx_wget G hf9 hd hP ha (hk _ _ _ hF ι H locs cells slots ls hP hA hl (kx_ok2 trivial (kx_okt hs)) hv hS hC hU hI hE)
  · cases hF
theorem kx_s_pI (G : kx_G p e R s m args meth c s0 D cA cc own nL h0) {q c9 : Nat} (hf9 : kx_fd own i t q 0 c9 r) (hfin : (r.2.1 q).2.2.2 = false) (hdt : parseFieldDescriptor (r.2.1 q).2.2.1 = some .int) (hd : decode cc pc = .ok (.putfield i, 3)) (hk : kx_Sn p l e R s m args below meth c s0 D cA nL ι0 h0 rr hf (pc + 3) k) : kx_Sn p l e R s m args below meth c s0 D cA nL ι0 h0 rr hf pc (kx_pI t q k) := by
  intro lv st h hF
  unfold kx_pI at hF
  split at hF
  · rename_i v x r9
    obtain ⟨t9, o9⟩ := x
    cases hq9 : Nat.beq t9 t with
    | false => rw [hq9] at hF; cases hF
    | true =>
      have e9 : t9 = t := Nat.eq_of_beq_eq_true hq9
      subst e9
      rw [hq9] at hF
      cases o9 with
      | none => cases hF
      | some a =>
        intro ι H locs cells slots ls hP hA hl hs hv hS hC hU hI hE
        have ha : hp_T h a = some t9 := kx_okh (kx_okt hs) a rfl
        refine kx_wput (v := Value.int v) G hf9 hfin hdt rfl rfl hd hP ha fun H' e1 e2 e3 => ?_
        refine hk _ _ _ hF ι H' _ cells slots ls (kx_P_set hP ha hf9.2.2.1 hf9.1 (e1.to (fun j _ => ?_)) e3 rfl rfl rfl (fun b hb kd j => ?_) ?_ (fun b t' j z hb hlt hkd hz => hP.2.2.1 b t' j z hb hlt hkd hz) (fun b t' j z hb hlt hkd hz => hP.2.2.2 b t' j z hb hlt hkd hz)) hA hl (kx_okt (kx_okt hs)) hv (hS.put e2 e3 (hA a t9 ha (by have := hf9.2.2.1; omega))) hC hU hI hE
        · rw [kx_updV, kx_v0]
          by_cases hj : j = q
          · subst hj
            rw [if_pos rfl, if_pos ⟨by rw [hf9.2.2.2.2.2], rfl, rfl⟩]
          · rw [if_neg hj, if_neg (fun z => hj z.2.2)]
        · rw [kx_v0, if_neg (fun z => hb z.2.1)]
        · intro b hb; funext j; show (if b = a ∧ j = q then v else hp_I h b j) = _; rw [if_neg (fun z => hb z.1)]
  · cases hF
theorem kx_s_pIF (G : kx_G p e R s m args meth c s0 D cA cc own nL h0) {q c9 : Nat} (hf9 : kx_fd own i t q 0 c9 r) (hfin : (r.2.1 q).2.2.2 = true) (hin2 : meth.name = "<init>") (hdecl : (r.2.1 q).1 = own) (hdt : parseFieldDescriptor (r.2.1 q).2.2.1 = some .int) (hd : decode cc pc = .ok (.putfield i, 3)) (hk : kx_Sn p l e R s m args below meth c s0 D cA nL ι0 h0 rr hf (pc + 3) k) : kx_Sn p l e R s m args below meth c s0 D cA nL ι0 h0 rr hf pc (kx_pI t q k) := by
  intro lv st h hF
  unfold kx_pI at hF
  split at hF
  · rename_i v x r9
    obtain ⟨t9, o9⟩ := x
    cases hq9 : Nat.beq t9 t with
    | false => rw [hq9] at hF; cases hF
    | true =>
      have e9 : t9 = t := Nat.eq_of_beq_eq_true hq9
      subst e9
      rw [hq9] at hF
      cases o9 with
      | none => cases hF
      | some a =>
        intro ι H locs cells slots ls hP hA hl hs hv hS hC hU hI hE
        have ha : hp_T h a = some t9 := kx_okh (kx_okt hs) a rfl
        refine kx_wputF (v := Value.int v) G hf9 hfin hin2 hdecl hdt rfl rfl hd hP ha fun H' e1 e2 e3 => ?_
        refine hk _ _ _ hF ι H' _ cells slots ls (kx_P_set hP ha hf9.2.2.1 hf9.1 (e1.to (fun j _ => ?_)) e3 rfl rfl rfl (fun b hb kd j => ?_) ?_ (fun b t' j z hb hlt hkd hz => hP.2.2.1 b t' j z hb hlt hkd hz) (fun b t' j z hb hlt hkd hz => hP.2.2.2 b t' j z hb hlt hkd hz)) hA hl (kx_okt (kx_okt hs)) hv (hS.put e2 e3 (hA a t9 ha (by have := hf9.2.2.1; omega))) hC hU hI hE
        · rw [kx_updV, kx_v0]
          by_cases hj : j = q
          · subst hj
            rw [if_pos rfl, if_pos ⟨by rw [hf9.2.2.2.2.2], rfl, rfl⟩]
          · rw [if_neg hj, if_neg (fun z => hj z.2.2)]
        · rw [kx_v0, if_neg (fun z => hb z.2.1)]
        · intro b hb; funext j; show (if b = a ∧ j = q then v else hp_I h b j) = _; rw [if_neg (fun z => hb z.1)]
  · cases hF
theorem kx_s_pL (G : kx_G p e R s m args meth c s0 D cA cc own nL h0) {q c9 : Nat} (hf9 : kx_fd own i t q 1 c9 r) (hfin : (r.2.1 q).2.2.2 = false) (hdt : parseFieldDescriptor (r.2.1 q).2.2.1 = some .long) (hd : decode cc pc = .ok (.putfield i, 3)) (hk : kx_Sn p l e R s m args below meth c s0 D cA nL ι0 h0 rr hf (pc + 3) k) : kx_Sn p l e R s m args below meth c s0 D cA nL ι0 h0 rr hf pc (kx_pL t q k) := by
  intro lv st h hF
  unfold kx_pL at hF
  split at hF
  · rename_i v x r9
    obtain ⟨t9, o9⟩ := x
    cases hq9 : Nat.beq t9 t with
    | false => rw [hq9] at hF; cases hF
    | true =>
      have e9 : t9 = t := Nat.eq_of_beq_eq_true hq9
      subst e9
      rw [hq9] at hF
      cases o9 with
      | none => cases hF
      | some a =>
        intro ι H locs cells slots ls hP hA hl hs hv hS hC hU hI hE
        have ha : hp_T h a = some t9 := kx_okh (kx_okt hs) a rfl
        refine kx_wput (v := Value.long v) G hf9 hfin hdt rfl rfl hd hP ha fun H' e1 e2 e3 => ?_
        refine hk _ _ _ hF ι H' _ cells slots ls (kx_P_set hP ha hf9.2.2.1 hf9.1 (e1.to (fun j _ => ?_)) e3 rfl rfl rfl (fun b hb kd j => ?_) ?_ (fun b t' j z hb hlt hkd hz => hP.2.2.1 b t' j z hb hlt hkd hz) (fun b t' j z hb hlt hkd hz => hP.2.2.2 b t' j z hb hlt hkd hz)) hA hl (kx_okt (kx_okt hs)) hv (hS.put e2 e3 (hA a t9 ha (by have := hf9.2.2.1; omega))) hC hU hI hE
        · rw [kx_updV, kx_v1]
          by_cases hj : j = q
          · subst hj
            rw [if_pos rfl, if_pos ⟨by rw [hf9.2.2.2.2.2], rfl, rfl⟩]
          · rw [if_neg hj, if_neg (fun z => hj z.2.2)]
        · rw [kx_v1, if_neg (fun z => hb z.2.1)]
        · intro b hb; rfl
  · cases hF
theorem kx_s_pLF (G : kx_G p e R s m args meth c s0 D cA cc own nL h0) {q c9 : Nat} (hf9 : kx_fd own i t q 1 c9 r) (hfin : (r.2.1 q).2.2.2 = true) (hin2 : meth.name = "<init>") (hdecl : (r.2.1 q).1 = own) (hdt : parseFieldDescriptor (r.2.1 q).2.2.1 = some .long) (hd : decode cc pc = .ok (.putfield i, 3)) (hk : kx_Sn p l e R s m args below meth c s0 D cA nL ι0 h0 rr hf (pc + 3) k) : kx_Sn p l e R s m args below meth c s0 D cA nL ι0 h0 rr hf pc (kx_pL t q k) := by
  intro lv st h hF
  unfold kx_pL at hF
  split at hF
  · rename_i v x r9
    obtain ⟨t9, o9⟩ := x
    cases hq9 : Nat.beq t9 t with
    | false => rw [hq9] at hF; cases hF
    | true =>
      have e9 : t9 = t := Nat.eq_of_beq_eq_true hq9
      subst e9
      rw [hq9] at hF
      cases o9 with
      | none => cases hF
      | some a =>
        intro ι H locs cells slots ls hP hA hl hs hv hS hC hU hI hE
        have ha : hp_T h a = some t9 := kx_okh (kx_okt hs) a rfl
        refine kx_wputF (v := Value.long v) G hf9 hfin hin2 hdecl hdt rfl rfl hd hP ha fun H' e1 e2 e3 => ?_
        refine hk _ _ _ hF ι H' _ cells slots ls (kx_P_set hP ha hf9.2.2.1 hf9.1 (e1.to (fun j _ => ?_)) e3 rfl rfl rfl (fun b hb kd j => ?_) ?_ (fun b t' j z hb hlt hkd hz => hP.2.2.1 b t' j z hb hlt hkd hz) (fun b t' j z hb hlt hkd hz => hP.2.2.2 b t' j z hb hlt hkd hz)) hA hl (kx_okt (kx_okt hs)) hv (hS.put e2 e3 (hA a t9 ha (by have := hf9.2.2.1; omega))) hC hU hI hE
        · rw [kx_updV, kx_v1]
          by_cases hj : j = q
          · subst hj
            rw [if_pos rfl, if_pos ⟨by rw [hf9.2.2.2.2.2], rfl, rfl⟩]
          · rw [if_neg hj, if_neg (fun z => hj z.2.2)]
        · rw [kx_v1, if_neg (fun z => hb z.2.1)]
        · intro b hb; rfl
  · cases hF
theorem kx_s_pR (G : kx_G p e R s m args meth c s0 D cA cc own nL h0) {q c9 : Nat} (hf9 : kx_fd own i t q 2 c9 r) (hfin : (r.2.1 q).2.2.2 = false) {ty : FieldType} (hdt : parseFieldDescriptor (r.2.1 q).2.2.1 = some ty) (hrf : ty.isReference = true) (hd : decode cc pc = .ok (.putfield i, 3)) (hk : kx_Sn p l e R s m args below meth c s0 D cA nL ι0 h0 rr hf (pc + 3) k) : kx_Sn p l e R s m args below meth c s0 D cA nL ι0 h0 rr hf pc (kx_pR t q c9 k) := by
  intro lv st h hF
  unfold kx_pR at hF
  split at hF
  · rename_i v x r9
    obtain ⟨t9, o9⟩ := x
    obtain ⟨t8, v⟩ := v
    cases hq9 : Nat.beq t9 t with
    | false => rw [hq9] at hF; cases hF
    | true =>
     cases hq8 : Nat.beq t8 c9 with
     | false => rw [hq9, hq8] at hF; cases hF
     | true =>
      have e8 : t8 = c9 := Nat.eq_of_beq_eq_true hq8
      subst e8
      have e9 : t9 = t := Nat.eq_of_beq_eq_true hq9
      subst e9
      rw [hq9, hq8] at hF
      cases o9 with
      | none => cases hF
      | some a =>
        intro ι H locs cells slots ls hP hA hl hs hv hS hC hU hI hE
        have ha : hp_T h a = some t9 := kx_okh (kx_okt hs) a rfl
        refine kx_wput (v := va_rf (v.map ι)) G hf9 hfin hdt (kx_nrf hrf _) (kx_frf hrf _) hd hP ha fun H' e1 e2 e3 => ?_
        refine hk _ _ _ hF ι H' _ cells slots ls (kx_P_set hP ha hf9.2.2.1 hf9.1 (e1.to (fun j _ => ?_)) e3 rfl rfl rfl (fun b hb kd j => ?_) ?_ (fun b t' j z hb hlt hkd hz => by
            by_cases e5 : b = a ∧ j = q
            · obtain ⟨rfl, rfl⟩ := e5
              have e6 : t' = t9 := Option.some.inj (hb.symm.trans ha)
              subst e6
              have hz2 : v = some z := by simpa [hp_R, hp_sR] using hz
              rw [hf9.2.2.2.2.2]
              exact kx_okh hs z hz2
            · have hz2 : hp_R h b j = some z := by simpa [hp_R, hp_sR, e5] using hz
              exact hP.2.2.1 b t' j z hb hlt hkd hz2) (fun b t' j z hb hlt hkd hz => by
            by_cases e5 : b = a ∧ j = q
            · obtain ⟨rfl, rfl⟩ := e5
              have e6 : t' = t9 := Option.some.inj (hb.symm.trans ha)
              have := hf9.2.2.1
              omega
            · have hz2 : hp_R h b j = some z := by simpa [hp_R, hp_sR, e5] using hz
              exact hP.2.2.2 b t' j z hb hlt hkd hz2)) hA hl (kx_okt (kx_okt hs)) hv (hS.put e2 e3 (hA a t9 ha (by have := hf9.2.2.1; omega))) hC hU hI hE
        · rw [kx_updV, kx_v2]
          by_cases hj : j = q
          · subst hj
            rw [if_pos rfl, if_pos ⟨by rw [hf9.2.2.2.2.2], rfl, rfl⟩]
          · rw [if_neg hj, if_neg (fun z => hj z.2.2)]
        · rw [kx_v2, if_neg (fun z => hb z.2.1)]
        · intro b hb; rfl
  · cases hF
theorem kx_s_pRF (G : kx_G p e R s m args meth c s0 D cA cc own nL h0) {q c9 : Nat} (hf9 : kx_fd own i t q 2 c9 r) (hfin : (r.2.1 q).2.2.2 = true) (hin2 : meth.name = "<init>") (hdecl : (r.2.1 q).1 = own) {ty : FieldType} (hdt : parseFieldDescriptor (r.2.1 q).2.2.1 = some ty) (hrf : ty.isReference = true) (hd : decode cc pc = .ok (.putfield i, 3)) (hk : kx_Sn p l e R s m args below meth c s0 D cA nL ι0 h0 rr hf (pc + 3) k) : kx_Sn p l e R s m args below meth c s0 D cA nL ι0 h0 rr hf pc (kx_pR t q c9 k) := by
  intro lv st h hF
  unfold kx_pR at hF
  split at hF
  · rename_i v x r9
    obtain ⟨t9, o9⟩ := x
    obtain ⟨t8, v⟩ := v
    cases hq9 : Nat.beq t9 t with
    | false => rw [hq9] at hF; cases hF
    | true =>
     cases hq8 : Nat.beq t8 c9 with
     | false => rw [hq9, hq8] at hF; cases hF
     | true =>
      have e8 : t8 = c9 := Nat.eq_of_beq_eq_true hq8
      subst e8
      have e9 : t9 = t := Nat.eq_of_beq_eq_true hq9
      subst e9
      rw [hq9, hq8] at hF
      cases o9 with
      | none => cases hF
      | some a =>
        intro ι H locs cells slots ls hP hA hl hs hv hS hC hU hI hE
        have ha : hp_T h a = some t9 := kx_okh (kx_okt hs) a rfl
        refine kx_wputF (v := va_rf (v.map ι)) G hf9 hfin hin2 hdecl hdt (kx_nrf hrf _) (kx_frf hrf _) hd hP ha fun H' e1 e2 e3 => ?_
        refine hk _ _ _ hF ι H' _ cells slots ls (kx_P_set hP ha hf9.2.2.1 hf9.1 (e1.to (fun j _ => ?_)) e3 rfl rfl rfl (fun b hb kd j => ?_) ?_ (fun b t' j z hb hlt hkd hz => by
            by_cases e5 : b = a ∧ j = q
            · obtain ⟨rfl, rfl⟩ := e5
              have e6 : t' = t9 := Option.some.inj (hb.symm.trans ha)
              subst e6
              have hz2 : v = some z := by simpa [hp_R, hp_sR] using hz
              rw [hf9.2.2.2.2.2]
              exact kx_okh hs z hz2
            · have hz2 : hp_R h b j = some z := by simpa [hp_R, hp_sR, e5] using hz
              exact hP.2.2.1 b t' j z hb hlt hkd hz2) (fun b t' j z hb hlt hkd hz => by
            by_cases e5 : b = a ∧ j = q
            · obtain ⟨rfl, rfl⟩ := e5
              have e6 : t' = t9 := Option.some.inj (hb.symm.trans ha)
              have := hf9.2.2.1
              omega
            · have hz2 : hp_R h b j = some z := by simpa [hp_R, hp_sR, e5] using hz
              exact hP.2.2.2 b t' j z hb hlt hkd hz2)) hA hl (kx_okt (kx_okt hs)) hv (hS.put e2 e3 (hA a t9 ha (by have := hf9.2.2.1; omega))) hC hU hI hE
        · rw [kx_updV, kx_v2]
          by_cases hj : j = q
          · subst hj
            rw [if_pos rfl, if_pos ⟨by rw [hf9.2.2.2.2.2], rfl, rfl⟩]
          · rw [if_neg hj, if_neg (fun z => hj z.2.2)]
        · rw [kx_v2, if_neg (fun z => hb z.2.1)]
        · intro b hb; rfl
  · cases hF
theorem kx_s_pB0 (G : kx_G p e R s m args meth c s0 D cA cc own nL h0) {q c9 : Nat} (hf9 : kx_fd own i t q 3 c9 r) (hfin : (r.2.1 q).2.2.2 = false) (hdt : parseFieldDescriptor (r.2.1 q).2.2.1 = some .boolean) (hd : decode cc pc = .ok (.putfield i, 3)) (hk : kx_Sn p l e R s m args below meth c s0 D cA nL ι0 h0 rr hf (pc + 3) k) {lv : kx_L} {r9 : List kx_V} {h : kx_H} {a : Nat} {b9 : Bool} (hF : k lv r9 (hp_sB h a q b9) = some (rr, hf)) : kx_Sm p l e R s m args below meth c s0 D cA nL ι0 h0 rr hf pc lv (kx_i (kx_b b9) :: kx_r t (some a) :: r9) h := by
  intro ι H locs cells slots ls hP hA hl hs hv hS hC hU hI hE
  have ha : hp_T h a = some t := kx_okh (kx_okt hs) a rfl
  refine kx_wput (v := .int (kx_b b9)) G hf9 hfin hdt (by cases b9 <;> decide) (by cases b9 <;> decide) hd hP ha fun H' e1 e2 e3 => ?_
  refine hk _ _ _ hF ι H' _ cells slots ls (kx_P_set hP ha hf9.2.2.1 hf9.1 (e1.to (fun j _ => ?_)) e3 rfl rfl rfl (fun b hb kd j => ?_) (fun b hb => rfl) (fun b t' j z hb hlt hkd hz => hP.2.2.1 b t' j z hb hlt hkd hz) (fun b t' j z hb hlt hkd hz => hP.2.2.2 b t' j z hb hlt hkd hz)) hA hl (kx_okt (kx_okt hs)) hv (hS.put e2 e3 (hA a t ha (by have := hf9.2.2.1; omega))) hC hU hI hE
  · rw [kx_updV, kx_v3]
    by_cases hj : j = q
    · subst hj
      rw [if_pos rfl, if_pos ⟨by rw [hf9.2.2.2.2.2]; exact (by decide : 2 < 3), rfl, rfl⟩]
    · rw [if_neg hj, if_neg (fun z => hj z.2.2)]
  · rw [kx_v3, if_neg (fun z => hb z.2.1)]
theorem kx_s_pB (G : kx_G p e R s m args meth c s0 D cA cc own nL h0) {q c9 : Nat} (hf9 : kx_fd own i t q 3 c9 r) (hfin : (r.2.1 q).2.2.2 = false) (hdt : parseFieldDescriptor (r.2.1 q).2.2.1 = some .boolean) (hd : decode cc pc = .ok (.putfield i, 3)) (hk : kx_Sn p l e R s m args below meth c s0 D cA nL ι0 h0 rr hf (pc + 3) k) : kx_Sn p l e R s m args below meth c s0 D cA nL ι0 h0 rr hf pc (kx_pB t q k) := by
  intro lv st h hF
  unfold kx_pB at hF
  split at hF
  · rename_i v x r9
    obtain ⟨t9, o9⟩ := x
    cases hq9 : Nat.beq t9 t with
    | false => rw [hq9] at hF; cases hF
    | true =>
      have e9 : t9 = t := Nat.eq_of_beq_eq_true hq9
      subst e9
      rw [hq9] at hF
      cases o9 with
      | none => cases hF
      | some a =>
        by_cases hv0 : v = 0
        · subst hv0
          exact kx_s_pB0 (b9 := false) G hf9 hfin hdt hd hk hF
        · by_cases hv1 : v = 1
          · subst hv1
            exact kx_s_pB0 (b9 := true) G hf9 hfin hdt hd hk hF
          · simp [hv0, hv1] at hF
  · cases hF
end KT
end
section
section KA
variable {p : Program} {l : Launch} {e : Env} {R : Room} {s : State} {m : MethodId} {args : Array Value} {below : List Frame} {meth : Method} {c : Code} {H : Heap} {locs : List Loc} {cells slots : Nat} {Q : State → Prop}
variable {s0 : State} {D : va_G} {cA : Nat → ClassId} {cc : ByteArray} {own : String} {nL : Nat} {ι ι0 : Nat → Nat} {h h0 hf : kx_H} {rr : kx_R} {pc : Nat} {k : kx_F} {ls : Array Slot} {rest : List Value} {a t i : Nat} {r : vw_C}
/-- an array's tag, its component's type -/
def kx_ar (t kd c9 : Nat) (ty : FieldType) : Prop := (∀ cA : Nat → ClassId, (kx_tys cA)[t - 99]? = some (cA t, ty)) ∧ 98 < t ∧ kx_ak t = (kd, c9)
theorem kx_P_a (hP : kx_P s0 D cA ι h H) (ha : hp_T h a = some t) (ht : 98 < t) : H[ι a]? = some (arrV (cA t) (hp_N h a) (fun i => kx_val ι h a (kx_ak t).1 i)) := ((hP.1 a t ha).2.2.2 ht).2
theorem kx_s_aI (G : kx_G p e R s m args meth c s0 D cA cc own nL h0) {c9 : Nat} (har : kx_ar t 0 c9 .int) (hd : decode cc pc = .ok (.iaload, 1)) (hk : kx_Sn p l e R s m args below meth c s0 D cA nL ι0 h0 rr hf (pc + 1) k) : kx_Sn p l e R s m args below meth c s0 D cA nL ι0 h0 rr hf pc (kx_aI t k) := by
  intro lv st h hF
  unfold kx_aI at hF
  split at hF
  · rename_i i9 x r9
    obtain ⟨t9, o9⟩ := x
    cases hq9 : Nat.beq t9 t with
    | false => rw [hq9] at hF; cases hF
    | true =>
      have e9 : t9 = t := Nat.eq_of_beq_eq_true hq9
      subst e9
      rw [hq9] at hF
      cases o9 with
      | none => cases hF
      | some a =>
        simp only [cond_true, Option.bind_some] at hF
        split at hF
        · cases hF
        · rename_i hin
          intro ι H locs cells slots ls hP hA hl hs hv hS hC hU hI hE
          have ha : hp_T h a = some t9 := kx_okh (kx_okt hs) a rfl
          have hlt : i9.toNatClampNeg < hp_N h a := Nat.not_le.mp fun q => hin (Or.inr q)
          have hcell := kx_P_a hP ha har.2.1
          rw [har.2.2] at hcell
          have hAr := (G.2.2.2.2.2.2.1.2.1.2 _ _ (har.1 cA)).1
          have hok : True := trivial
          exact W.iald (v := kx_val ι h a 0 i9.toNatClampNeg) G.1 G.2.1 hcell (hAr _ _) (fun q => by cases q) (by rw [arrV_size]; exact hin) (by rw [arrV_read _ _ hlt]) rfl rfl hd (hk _ _ _ hF ι H locs cells slots ls hP hA hl (kx_ok2 hok (kx_okt (kx_okt hs))) hv hS hC hU hI hE)
  · cases hF
theorem kx_s_aL (G : kx_G p e R s m args meth c s0 D cA cc own nL h0) {c9 : Nat} (har : kx_ar t 1 c9 .long) (hd : decode cc pc = .ok (.laload, 1)) (hk : kx_Sn p l e R s m args below meth c s0 D cA nL ι0 h0 rr hf (pc + 1) k) : kx_Sn p l e R s m args below meth c s0 D cA nL ι0 h0 rr hf pc (kx_aL t k) := by
  intro lv st h hF
  unfold kx_aL at hF
  split at hF
  · rename_i i9 x r9
    obtain ⟨t9, o9⟩ := x
    cases hq9 : Nat.beq t9 t with
    | false => rw [hq9] at hF; cases hF
    | true =>
      have e9 : t9 = t := Nat.eq_of_beq_eq_true hq9
      subst e9
      rw [hq9] at hF
      cases o9 with
      | none => cases hF
      | some a =>
        simp only [cond_true, Option.bind_some] at hF
        split at hF
        · cases hF
        · rename_i hin
          intro ι H locs cells slots ls hP hA hl hs hv hS hC hU hI hE
          have ha : hp_T h a = some t9 := kx_okh (kx_okt hs) a rfl
          have hlt : i9.toNatClampNeg < hp_N h a := Nat.not_le.mp fun q => hin (Or.inr q)
          have hcell := kx_P_a hP ha har.2.1
          rw [har.2.2] at hcell
          have hAr := (G.2.2.2.2.2.2.1.2.1.2 _ _ (har.1 cA)).1
          have hok : True := trivial
          exact W.lald (v := kx_val ι h a 1 i9.toNatClampNeg) G.1 G.2.1 hcell (hAr _ _) (fun q => by cases q) (by rw [arrV_size]; exact hin) (by rw [arrV_read _ _ hlt]) rfl rfl hd (hk _ _ _ hF ι H locs cells slots ls hP hA hl (kx_ok2 hok (kx_okt (kx_okt hs))) hv hS hC hU hI hE)
  · cases hF
theorem kx_s_aR (G : kx_G p e R s m args meth c s0 D cA cc own nL h0) {c9 : Nat} {ty : FieldType} (hrf : ty.isReference = true) (har : kx_ar t 2 c9 ty) (hd : decode cc pc = .ok (.aaload, 1)) (hk : kx_Sn p l e R s m args below meth c s0 D cA nL ι0 h0 rr hf (pc + 1) k) : kx_Sn p l e R s m args below meth c s0 D cA nL ι0 h0 rr hf pc (kx_aR t c9 k) := by
  intro lv st h hF
  unfold kx_aR at hF
  split at hF
  · rename_i i9 x r9
    obtain ⟨t9, o9⟩ := x
    cases hq9 : Nat.beq t9 t with
    | false => rw [hq9] at hF; cases hF
    | true =>
      have e9 : t9 = t := Nat.eq_of_beq_eq_true hq9
      subst e9
      rw [hq9] at hF
      cases o9 with
      | none => cases hF
      | some a =>
        simp only [cond_true, Option.bind_some] at hF
        split at hF
        · cases hF
        · rename_i hin
          intro ι H locs cells slots ls hP hA hl hs hv hS hC hU hI hE
          have ha : hp_T h a = some t9 := kx_okh (kx_okt hs) a rfl
          have hlt : i9.toNatClampNeg < hp_N h a := Nat.not_le.mp fun q => hin (Or.inr q)
          have hcell := kx_P_a hP ha har.2.1
          rw [har.2.2] at hcell
          have hAr := (G.2.2.2.2.2.2.1.2.1.2 _ _ (har.1 cA)).1
          have hok : kx_ok h (kx_r c9 (hp_R h a i9.toNatClampNeg)) := by intro b hb; have z := hP.2.2.2 a t9 _ b ha har.2.1 (by rw [har.2.2]) hb; rw [har.2.2] at z; exact z
          exact W.aald (v := kx_val ι h a 2 i9.toNatClampNeg) (ty := ty) G.1 G.2.1 hcell (hAr _ _) hrf (fun q => by cases q) (by rw [arrV_size]; exact hin) (by rw [arrV_read _ _ hlt]) rfl rfl hd (hk _ _ _ hF ι H locs cells slots ls hP hA hl (kx_ok2 hok (kx_okt (kx_okt hs))) hv hS hC hU hI hE)
  · cases hF
theorem kx_s_aB (G : kx_G p e R s m args meth c s0 D cA cc own nL h0) {c9 : Nat} (har : kx_ar t 3 c9 .boolean) (hd : decode cc pc = .ok (.baload, 1)) (hk : kx_Sn p l e R s m args below meth c s0 D cA nL ι0 h0 rr hf (pc + 1) k) : kx_Sn p l e R s m args below meth c s0 D cA nL ι0 h0 rr hf pc (kx_aB t k) := by
  intro lv st h hF
  unfold kx_aB at hF
  split at hF
  · rename_i i9 x r9
    obtain ⟨t9, o9⟩ := x
    cases hq9 : Nat.beq t9 t with
    | false => rw [hq9] at hF; cases hF
    | true =>
      have e9 : t9 = t := Nat.eq_of_beq_eq_true hq9
      subst e9
      rw [hq9] at hF
      cases o9 with
      | none => cases hF
      | some a =>
        simp only [cond_true, Option.bind_some] at hF
        split at hF
        · cases hF
        · rename_i hin
          intro ι H locs cells slots ls hP hA hl hs hv hS hC hU hI hE
          have ha : hp_T h a = some t9 := kx_okh (kx_okt hs) a rfl
          have hlt : i9.toNatClampNeg < hp_N h a := Nat.not_le.mp fun q => hin (Or.inr q)
          have hcell := kx_P_a hP ha har.2.1
          rw [har.2.2] at hcell
          have hAr := (G.2.2.2.2.2.2.1.2.1.2 _ _ (har.1 cA)).1
          have hok : True := trivial
          exact W.zald (v := kx_val ι h a 3 i9.toNatClampNeg) G.1 G.2.1 hcell (hAr _ _) (fun q => by cases q) (by rw [arrV_size]; exact hin) (by rw [arrV_read _ _ hlt]) rfl rfl hd (hk _ _ _ hF ι H locs cells slots ls hP hA hl (kx_ok2 hok (kx_okt (kx_okt hs))) hv hS hC hU hI hE)
  · cases hF
theorem kx_s_len (G : kx_G p e R s m args meth c s0 D cA cc own nL h0) {kd c9 : Nat} {ty : FieldType} (har : kx_ar t kd c9 ty) (hd : decode cc pc = .ok (.arraylength, 1)) (hk : kx_Sn p l e R s m args below meth c s0 D cA nL ι0 h0 rr hf (pc + 1) k) : kx_Sn p l e R s m args below meth c s0 D cA nL ι0 h0 rr hf pc (kx_len t k) := by
  intro lv st h hF
  unfold kx_len at hF
  split at hF
  · rename_i x r9
    obtain ⟨t9, o9⟩ := x
    cases hq9 : Nat.beq t9 t with
    | false => rw [hq9] at hF; cases hF
    | true =>
      have e9 : t9 = t := Nat.eq_of_beq_eq_true hq9
      subst e9
      rw [hq9] at hF
      cases o9 with
      | none => cases hF
      | some a =>
        intro ι H locs cells slots ls hP hA hl hs hv hS hC hU hI hE
        have ha : hp_T h a = some t9 := kx_okh hs a rfl
        exact W.alen (n := Int32.ofNat (hp_N h a)) G.1 G.2.1 (kx_P_a hP ha har.2.1) ((G.2.2.2.2.2.2.1.2.1.2 _ _ (har.1 cA)).1 _ _) (by rw [arrV_size] <;> rfl) rfl rfl hd (hk _ _ _ hF ι H locs cells slots ls hP hA hl (kx_ok2 trivial (kx_okt hs)) hv hS hC hU hI hE)
  · cases hF
theorem kx_s_lenS (G : kx_G p e R s m args meth c s0 D cA cc own nL h0) (hd : decode cc pc = .ok (.arraylength, 1)) (hk : kx_Sn p l e R s m args below meth c s0 D cA nL ι0 h0 rr hf (pc + 1) k) : kx_Sn p l e R s m args below meth c s0 D cA nL ι0 h0 rr hf pc (kx_len 98 k) := by
  intro lv st h hF
  unfold kx_len at hF
  split at hF
  · rename_i x r9
    obtain ⟨t9, o9⟩ := x
    cases hq9 : Nat.beq t9 98 with
    | false => rw [hq9] at hF; cases hF
    | true =>
      have e9 : t9 = 98 := Nat.eq_of_beq_eq_true hq9
      subst e9
      rw [hq9] at hF
      cases o9 with
      | none => cases hF
      | some a =>
        intro ι H locs cells slots ls hP hA hl hs hv hS hC hU hI hE
        have ha : hp_T h a = some 98 := kx_okh hs a rfl
        obtain ⟨⟨scr, x1, x2, x3, x4, x5⟩, -⟩ := (hP.1 a 98 ha).2.1 rfl
        exact W.alen (n := Int32.ofNat (hp_N h a)) G.1 G.2.1 x1 (State.isArrayOf_alike G.2.2.2.2.2.2.1.1.alike x2) (by rw [x4] <;> rfl) rfl rfl hd (hk _ _ _ hF ι H locs cells slots ls hP hA hl (kx_ok2 trivial (kx_okt hs)) hv hS hC hU hI hE)
  · cases hF
theorem kx_s_aS (G : kx_G p e R s m args meth c s0 D cA cc own nL h0) (hd : decode cc pc = .ok (.iaload, 1)) (hk : kx_Sn p l e R s m args below meth c s0 D cA nL ι0 h0 rr hf (pc + 1) k) : kx_Sn p l e R s m args below meth c s0 D cA nL ι0 h0 rr hf pc (kx_aI 98 k) := by
  intro lv st h hF
  unfold kx_aI at hF
  split at hF
  · rename_i i9 x r9
    obtain ⟨t9, o9⟩ := x
    cases hq9 : Nat.beq t9 98 with
    | false => rw [hq9] at hF; cases hF
    | true =>
      have e9 : t9 = 98 := Nat.eq_of_beq_eq_true hq9
      subst e9
      rw [hq9] at hF
      cases o9 with
      | none => cases hF
      | some a =>
        simp only [cond_true, Option.bind_some] at hF
        split at hF
        · cases hF
        · rename_i hin
          intro ι H locs cells slots ls hP hA hl hs hv hS hC hU hI hE
          have ha : hp_T h a = some 98 := kx_okh (kx_okt hs) a rfl
          have hlt : i9.toNatClampNeg < hp_N h a := Nat.not_le.mp fun q => hin (Or.inr q)
          obtain ⟨⟨scr, x1, x2, x3, x4, x5⟩, -⟩ := (hP.1 a 98 ha).2.1 rfl
          exact W.iald (v := .int (hp_I h a i9.toNatClampNeg)) G.1 G.2.1 x1 (State.isArrayOf_alike G.2.2.2.2.2.2.1.1.alike x2) x3 (by rw [x4]; exact hin) (x5 _ hlt) rfl rfl hd (hk _ _ _ hF ι H locs cells slots ls hP hA hl (kx_ok2 trivial (kx_okt (kx_okt hs))) hv hS hC hU hI hE)
  · cases hF
theorem kx_s_asI (G : kx_G p e R s m args meth c s0 D cA cc own nL h0) {c9 : Nat} (har : kx_ar t 0 c9 .int) (hd : decode cc pc = .ok (.iastore, 1)) (hk : kx_Sn p l e R s m args below meth c s0 D cA nL ι0 h0 rr hf (pc + 1) k) : kx_Sn p l e R s m args below meth c s0 D cA nL ι0 h0 rr hf pc (kx_asI t k) := by
  intro lv st h hF
  unfold kx_asI at hF
  split at hF
  · rename_i v i9 x r9
    obtain ⟨t9, o9⟩ := x
    cases hq9 : Nat.beq t9 t with
    | false => rw [hq9] at hF; cases hF
    | true =>
      have e9 : t9 = t := Nat.eq_of_beq_eq_true hq9
      subst e9
      rw [hq9] at hF
      cases o9 with
      | none => cases hF
      | some a =>
        simp only [cond_true, Option.bind_some] at hF
        split at hF
        · cases hF
        · rename_i hin
          intro ι H locs cells slots ls hP hA hl hs hv hS hC hU hI hE
          have ha : hp_T h a = some t9 := kx_okh (kx_okt (kx_okt hs)) a rfl
          have hcell := kx_P_a hP ha har.2.1
          have hAr := (G.2.2.2.2.2.2.1.2.1.2 _ _ (har.1 cA)).1
          refine W.iast G.1 G.2.1 hcell (hAr _ _) (fun q => by cases q) (by rw [arrV_size]; exact hin) rfl rfl hd fun H' e1 e2 e3 => ?_
          rw [arrV_store] at e1
          refine hk _ _ _ hF ι H' _ cells slots ls (kx_P_arr hP ha har.2.1 (e1.trans ?_) e3 rfl rfl rfl (fun b hb kd j => ?_) ?_ (fun b t' j z hb hlt hkd hz => hP.2.2.1 b t' j z hb hlt hkd hz) (fun b t' j z hb hlt hkd hz => hP.2.2.2 b t' j z hb hlt hkd hz)) hA hl (kx_okt (kx_okt (kx_okt hs))) hv (hS.put e2 e3 (hA a t9 ha (by have := har.2.1; omega))) hC hU hI hE
          · congr 2
            funext j
            rw [kx_updV, kx_v0]
            by_cases hj : j = i9.toNatClampNeg
            · rw [if_pos hj, if_pos ⟨by rw [har.2.2], rfl, hj⟩]
            · rw [if_neg hj, if_neg (fun z => hj z.2.2)]
          · rw [kx_v0, if_neg (fun z => hb z.2.1)]
          · intro b hb; funext j; show (if b = a ∧ j = i9.toNatClampNeg then v else hp_I h b j) = _; rw [if_neg (fun z => hb z.1)]
  · cases hF
theorem kx_s_asL (G : kx_G p e R s m args meth c s0 D cA cc own nL h0) {c9 : Nat} (har : kx_ar t 1 c9 .long) (hd : decode cc pc = .ok (.lastore, 1)) (hk : kx_Sn p l e R s m args below meth c s0 D cA nL ι0 h0 rr hf (pc + 1) k) : kx_Sn p l e R s m args below meth c s0 D cA nL ι0 h0 rr hf pc (kx_asL t k) := by
  intro lv st h hF
  unfold kx_asL at hF
  split at hF
  · rename_i v i9 x r9
    obtain ⟨t9, o9⟩ := x
    cases hq9 : Nat.beq t9 t with
    | false => rw [hq9] at hF; cases hF
    | true =>
      have e9 : t9 = t := Nat.eq_of_beq_eq_true hq9
      subst e9
      rw [hq9] at hF
      cases o9 with
      | none => cases hF
      | some a =>
        simp only [cond_true, Option.bind_some] at hF
        split at hF
        · cases hF
        · rename_i hin
          intro ι H locs cells slots ls hP hA hl hs hv hS hC hU hI hE
          have ha : hp_T h a = some t9 := kx_okh (kx_okt (kx_okt hs)) a rfl
          have hcell := kx_P_a hP ha har.2.1
          have hAr := (G.2.2.2.2.2.2.1.2.1.2 _ _ (har.1 cA)).1
          refine W.last G.1 G.2.1 hcell (hAr _ _) (fun q => by cases q) (by rw [arrV_size]; exact hin) rfl rfl hd fun H' e1 e2 e3 => ?_
          rw [arrV_store] at e1
          refine hk _ _ _ hF ι H' _ cells slots ls (kx_P_arr hP ha har.2.1 (e1.trans ?_) e3 rfl rfl rfl (fun b hb kd j => ?_) ?_ (fun b t' j z hb hlt hkd hz => hP.2.2.1 b t' j z hb hlt hkd hz) (fun b t' j z hb hlt hkd hz => hP.2.2.2 b t' j z hb hlt hkd hz)) hA hl (kx_okt (kx_okt (kx_okt hs))) hv (hS.put e2 e3 (hA a t9 ha (by have := har.2.1; omega))) hC hU hI hE
          · congr 2
            funext j
            rw [kx_updV, kx_v1]
            by_cases hj : j = i9.toNatClampNeg
            · rw [if_pos hj, if_pos ⟨by rw [har.2.2], rfl, hj⟩]
            · rw [if_neg hj, if_neg (fun z => hj z.2.2)]
          · rw [kx_v1, if_neg (fun z => hb z.2.1)]
          · intro b hb; rfl
  · cases hF
theorem kx_s_asB0 (G : kx_G p e R s m args meth c s0 D cA cc own nL h0) {c9 : Nat} (har : kx_ar t 3 c9 .boolean) (hd : decode cc pc = .ok (.bastore, 1)) (hk : kx_Sn p l e R s m args below meth c s0 D cA nL ι0 h0 rr hf (pc + 1) k) {lv : kx_L} {r9 : List kx_V} {h : kx_H} {a : Nat} {b9 : Bool} {i9 : Int32} (hin : ¬ (i9 < 0 ∨ hp_N h a ≤ i9.toNatClampNeg)) (hF : k lv r9 (hp_sB h a i9.toNatClampNeg b9) = some (rr, hf)) : kx_Sm p l e R s m args below meth c s0 D cA nL ι0 h0 rr hf pc lv (kx_i (kx_b b9) :: kx_i i9 :: kx_r t (some a) :: r9) h := by
  intro ι H locs cells slots ls hP hA hl hs hv hS hC hU hI hE
  have ha : hp_T h a = some t := kx_okh (kx_okt (kx_okt hs)) a rfl
  have hcell := kx_P_a hP ha har.2.1
  have hAr := (G.2.2.2.2.2.2.1.2.1.2 _ _ (har.1 cA)).1
  refine W.zast G.1 G.2.1 hcell (hAr _ _) (fun q => by cases q) (by rw [arrV_size]; exact hin) rfl rfl hd fun H' e1 e2 e3 => ?_
  rw [show narrow .boolean (.int (kx_b b9)) = .int (kx_b b9) from by cases b9 <;> decide, arrV_store] at e1
  refine hk _ _ _ hF ι H' _ cells slots ls (kx_P_arr hP ha har.2.1 (e1.trans ?_) e3 rfl rfl rfl (fun b hb kd j => ?_) (fun b hb => rfl) (fun b t' j z hb hlt hkd hz => hP.2.2.1 b t' j z hb hlt hkd hz) (fun b t' j z hb hlt hkd hz => hP.2.2.2 b t' j z hb hlt hkd hz)) hA hl (kx_okt (kx_okt (kx_okt hs))) hv (hS.put e2 e3 (hA a t ha (by have := har.2.1; omega))) hC hU hI hE
  · congr 2
    funext j
    rw [kx_updV, kx_v3]
    by_cases hj : j = i9.toNatClampNeg
    · rw [if_pos hj, if_pos ⟨by rw [har.2.2]; exact (by decide : 2 < 3), rfl, hj⟩]
    · rw [if_neg hj, if_neg (fun z => hj z.2.2)]
  · rw [kx_v3, if_neg (fun z => hb z.2.1)]
theorem kx_s_asB (G : kx_G p e R s m args meth c s0 D cA cc own nL h0) {c9 : Nat} (har : kx_ar t 3 c9 .boolean) (hd : decode cc pc = .ok (.bastore, 1)) (hk : kx_Sn p l e R s m args below meth c s0 D cA nL ι0 h0 rr hf (pc + 1) k) : kx_Sn p l e R s m args below meth c s0 D cA nL ι0 h0 rr hf pc (kx_asB t k) := by
  intro lv st h hF
  unfold kx_asB at hF
  split at hF
  · rename_i v i9 x r9
    obtain ⟨t9, o9⟩ := x
    cases hq9 : Nat.beq t9 t with
    | false => rw [hq9] at hF; cases hF
    | true =>
      have e9 : t9 = t := Nat.eq_of_beq_eq_true hq9
      subst e9
      rw [hq9] at hF
      cases o9 with
      | none => cases hF
      | some a =>
        simp only [cond_true, Option.bind_some] at hF
        split at hF
        · cases hF
        · rename_i hin
          by_cases hv0 : v = 0
          · subst hv0
            exact kx_s_asB0 (b9 := false) G har hd hk hin hF
          · by_cases hv1 : v = 1
            · subst hv1
              exact kx_s_asB0 (b9 := true) G har hd hk hin hF
            · simp [hv0, hv1] at hF
  · cases hF
theorem kx_s_asR (G : kx_G p e R s m args meth c s0 D cA cc own nL h0) {c9 : Nat} {r9 : vw_C} (har : kx_ar t 2 c9 (.object r9.1)) (hc9 : kx_cl[c9]? = some r9) (h98 : c9 < 98) (hd : decode cc pc = .ok (.aastore, 1)) (hk : kx_Sn p l e R s m args below meth c s0 D cA nL ι0 h0 rr hf (pc + 1) k) : kx_Sn p l e R s m args below meth c s0 D cA nL ι0 h0 rr hf pc (kx_asR t c9 k) := by
  intro lv st h hF
  unfold kx_asR at hF
  split at hF
  · rename_i v i9 x r8
    obtain ⟨t9, o9⟩ := x
    obtain ⟨t8, v⟩ := v
    cases hq9 : Nat.beq t9 t with
    | false => rw [hq9] at hF; cases hF
    | true =>
     cases hq8 : Nat.beq t8 c9 with
     | false => rw [hq9, hq8] at hF; cases hF
     | true =>
      have e9 : t9 = t := Nat.eq_of_beq_eq_true hq9
      subst e9
      have e8 : t8 = c9 := Nat.eq_of_beq_eq_true hq8
      subst e8
      rw [hq9, hq8] at hF
      cases o9 with
      | none => cases hF
      | some a =>
        simp only [Bool.and_true, cond_true, Option.bind_some] at hF
        split at hF
        · cases hF
        · rename_i hin
          intro ι H locs cells slots ls hP hA hl hs hv hS hC hU hI hE
          have ha : hp_T h a = some t9 := kx_okh (kx_okt (kx_okt hs)) a rfl
          have hcell := kx_P_a hP ha har.2.1
          have hAr := G.2.2.2.2.2.2.1.2.1.2 _ _ (har.1 cA)
          have hlt : i9.toNatClampNeg < hp_N h a := Nat.not_le.mp fun q => hin (Or.inr q)
          have hlo : ¬ i9 < 0 := fun q => hin (Or.inl q)
          have fin : ∀ H' : Heap, H'[ι a]? = some ((arrV (cA t9) (hp_N h a) (fun i => kx_val ι h a (kx_ak t9).1 i)).setSlot i9.toNatClampNeg (va_rf (v.map ι))) → H'.size = H.size → (∀ q : Nat, q ≠ ι a → H'[q]? = H[q]?) → W p l e R s m args below meth c H' (locs ++ [⟨ι a, i9.toNatClampNeg⟩]) cells slots (kx_Q s0 D cA below s ι0 h0 rr hf) (F0 m (pc + 1) ls (r8.map (kx_cv ι))) := by
            intro H' e1 e2 e3
            rw [arrV_store] at e1
            refine hk _ _ _ hF ι H' _ cells slots ls (kx_P_arr hP ha har.2.1 (e1.trans ?_) e3 rfl rfl rfl (fun b hb kd j => ?_) (fun b hb => rfl) (fun b t' j z hb hlt hkd hz => ?_) (fun b t' j z hb hlt hkd hz => ?_)) hA hl (kx_okt (kx_okt (kx_okt hs))) hv (hS.put e2 e3 (hA a t9 ha (by have := har.2.1; omega))) hC hU hI hE
            · congr 2
              funext j
              rw [kx_updV, kx_v2]
              by_cases hj : j = i9.toNatClampNeg
              · rw [if_pos hj, if_pos ⟨by rw [har.2.2], rfl, hj⟩]
              · rw [if_neg hj, if_neg (fun z => hj z.2.2)]
            · rw [kx_v2, if_neg (fun z => hb z.2.1)]
            · by_cases e5 : b = a ∧ j = i9.toNatClampNeg
              · obtain ⟨rfl, rfl⟩ := e5
                have e6 : t' = t9 := Option.some.inj (hb.symm.trans ha)
                have := har.2.1
                omega
              · have hz2 : hp_R h b j = some z := by simpa [hp_R, hp_sR, e5] using hz
                exact hP.2.2.1 b t' j z hb hlt hkd hz2
            · by_cases e5 : b = a ∧ j = i9.toNatClampNeg
              · obtain ⟨rfl, rfl⟩ := e5
                have e6 : t' = t9 := Option.some.inj (hb.symm.trans ha)
                subst e6
                have hz2 : v = some z := by simpa [hp_R, hp_sR] using hz
                rw [har.2.2]
                exact kx_okh hs z hz2
              · have hz2 : hp_R h b j = some z := by simpa [hp_R, hp_sR, e5] using hz
                exact hP.2.2.2 b t' j z hb hlt hkd hz2
          cases v with
          | none => exact va_WaastN G.1 G.2.1 hcell (hAr.1 _ _) (fun q => by cases q) (by rw [arrV_size]; exact hin) rfl rfl hd fin
          | some v =>
            have hv9 : hp_T h v = some t8 := kx_okh hs v rfl
            obtain ⟨-, r', hr', cellV, g1, g2, g3, -⟩ := (hP.1 v t8 hv9).2.2.1 h98
            have hcls := (G.2.2.2.2.2.2.1.2.1.1 t8 r9 hc9).2
            obtain ⟨kA, comp, k1, k2, k3, -⟩ := hAr.2
            have hcomp : comp = D.1 t8 := Option.some.inj (k3.symm.trans hcls.1)
            subst hcomp
            obtain ⟨kC, hkC, -⟩ := hcls.2
            exact W.aast G.1 G.2.1 hcell (fun q h => by cases h) (fun h => by cases h) k1 k2 rfl hkC ⟨hlo, by rw [arrV_size]; exact hlt⟩ g1 (fun q h => by rw [g3] at h; cases h) (by rw [g2]; exact hkC) (by rw [g2]; exact va_assign hcls) rfl rfl hd fin
  · cases hF
theorem kx_cv_ext {ι' : Nat → Nat} {v : kx_V} (ho : kx_ok h v) (hx : ∀ a t, hp_T h a = some t → ι' a = ι a) : kx_cv ι' v = kx_cv ι v := by
  rcases v with x | x | ⟨t, o⟩
  · rfl
  · rfl
  · cases o with
    | none => rfl
    | some a => show Value.ref (ι' a) = Value.ref (ι a); rw [hx a t (ho a rfl)]
theorem kx_lc_ext {ι' : Nat → Nat} {lv : kx_L} (ho : ∀ q ∈ lv, kx_ok h q.2) (hx : ∀ a t, hp_T h a = some t → ι' a = ι a) : kx_lc ι' lv = kx_lc ι lv := by
  unfold kx_lc
  exact List.map_congr_left fun q hq => by rw [kx_cv_ext (ho q hq) hx]
theorem kx_st_ext {ι' : Nat → Nat} {st : List kx_V} (ho : ∀ v ∈ st, kx_ok h v) (hx : ∀ a t, hp_T h a = some t → ι' a = ι a) : st.map (kx_cv ι') = st.map (kx_cv ι) :=
  List.map_congr_left fun q hq => kx_cv_ext (ho q hq) hx
theorem kx_P_lt (hP : kx_P s0 D cA ι h H) (hz : s0.heap.size ≤ H.size) (ha : hp_T h a = some t) : ι a < H.size := by
  obtain ⟨-, g2, g3, g4⟩ := hP.1 a t ha
  rcases Nat.lt_trichotomy t 98 with z | z | z
  · obtain ⟨-, r, -, cell, q1, -⟩ := g3 z
    exact (Array.getElem?_eq_some_iff.mp q1).1
  · exact Nat.lt_of_lt_of_le (g2 z).2 hz
  · exact (Array.getElem?_eq_some_iff.mp (g4 z).2).1
/-- a cell more -/
def kx_io (ι : Nat → Nat) (x q : Nat) : Nat → Nat := fun b => if b = x then q else ι b
theorem kx_P_new {H' : Heap} {t n w : Nat} (hP : kx_P s0 D cA ι h H) (hz : s0.heap.size ≤ H.size) (he : H'.size = H.size + 1) (ho : ∀ q : Nat, q < H.size → H'[q]? = H[q]?) (ht : t ≠ 98)
    (h1 : t < 98 → ∃ r : vw_C, kx_cl[t]? = some r ∧ t_OB H.size (D.1 t) r.2.2 (D.2 t) H' (fun k => kx_val (kx_io ι (hp_X h) H.size) (hp_new h t n w) (hp_X h) (kx_ft t k).1 k))
    (h2 : 98 < t → H'[H.size]? = some (arrV (cA t) n (fun i => kx_val (kx_io ι (hp_X h) H.size) (hp_new h t n w) (hp_X h) (kx_ak t).1 i))) : kx_P s0 D cA (kx_io ι (hp_X h) H.size) (hp_new h t n w) H' := by
  have old : ∀ b u, hp_T h b = some u → b ≠ hp_X h := fun b u hb e => by have := (hP.1 b u hb).1; omega
  have tn : ∀ b, hp_T (hp_new h t n w) b = if b = hp_X h then some t else hp_T h b := fun b => rfl
  have tX : hp_T h (hp_X h) = none := by
    cases hq : hp_T h (hp_X h) with
    | none => rfl
    | some u => exact absurd rfl (old _ u hq)
  have io : ∀ b u, hp_T h b = some u → kx_io ι (hp_X h) H.size b = ι b := fun b u hb => by unfold kx_io; rw [if_neg (old b u hb)]
  have vi : ∀ b u, hp_T h b = some u → ∀ j, hp_I (hp_new h t n w) b j = hp_I h b j := fun b u hb j => by show (if b = hp_X h then _ else _) = _; rw [if_neg (old b u hb)]
  have vl : ∀ b u, hp_T h b = some u → ∀ j, hp_L (hp_new h t n w) b j = hp_L h b j := fun b u hb j => by show (if b = hp_X h then _ else _) = _; rw [if_neg (old b u hb)]
  have vr : ∀ b u, hp_T h b = some u → ∀ j, hp_R (hp_new h t n w) b j = hp_R h b j := fun b u hb j => by show (if b = hp_X h then _ else _) = _; rw [if_neg (old b u hb)]
  have vb : ∀ b u, hp_T h b = some u → ∀ j, hp_B (hp_new h t n w) b j = hp_B h b j := fun b u hb j => by show (if b = hp_X h then _ else _) = _; rw [if_neg (old b u hb)]
  have vn : ∀ b u, hp_T h b = some u → hp_N (hp_new h t n w) b = hp_N h b := fun b u hb => by show (if b = hp_X h then _ else _) = _; rw [if_neg (old b u hb)]
  have rn : ∀ j, hp_R (hp_new h t n w) (hp_X h) j = none := fun j => by show (if hp_X h = hp_X h then _ else _) = _; rw [if_pos rfl]
  have val : ∀ b u kd j, hp_T h b = some u → (kd = 2 → ∀ x, hp_R h b j = some x → ∃ y, hp_T h x = some y) → kx_val (kx_io ι (hp_X h) H.size) (hp_new h t n w) b kd j = kx_val ι h b kd j := by
    intro b u kd j hb hr
    rcases kd with _ | _ | _ | kd
    · show Value.int _ = Value.int _; rw [vi b u hb]
    · show Value.long _ = Value.long _; rw [vl b u hb]
    · show va_rf ((hp_R _ b j).map _) = va_rf ((hp_R h b j).map _)
      rw [vr b u hb]
      cases hx : hp_R h b j with
      | none => rfl
      | some x =>
        obtain ⟨y, hy⟩ := hr rfl x hx
        show va_rf (some (kx_io ι _ _ x)) = va_rf (some (ι x))
        rw [io x y hy]
    · show Value.int (kx_b _) = Value.int (kx_b _); rw [vb b u hb]
  refine ⟨fun b u hb => ?_, fun b c9 u u' hb hc' hq => ?_, fun b u k9 x hb hlt hkd hx => ?_, fun b u k9 x hb hlt hkd hx => ?_⟩
  · rw [tn] at hb
    by_cases e : b = hp_X h
    · subst e
      rw [if_pos rfl] at hb
      cases hb
      have ioX : kx_io ι (hp_X h) H.size (hp_X h) = H.size := by unfold kx_io; rw [if_pos rfl]
      refine ⟨Nat.lt_succ_self _, fun z => absurd z ht, fun z => ?_, fun z => ?_⟩
      · rw [ioX]; exact ⟨hz, h1 z⟩
      · rw [ioX]
        refine ⟨hz, ?_⟩
        rw [show hp_N (hp_new h t n w) (hp_X h) = n from by show (if hp_X h = hp_X h then _ else _) = _; rw [if_pos rfl]]
        exact h2 z
    · rw [if_neg e] at hb
      obtain ⟨g1, g2, g3, g4⟩ := hP.1 b u hb
      have hlt := kx_P_lt hP hz hb
      have hio := io b u hb
      refine ⟨Nat.lt_succ_of_lt g1, fun z => ?_, fun z => ?_, fun z => ?_⟩
      · obtain ⟨x1, x2⟩ := g2 z
        rw [hio, vn b u hb, show hp_I (hp_new h t n w) b = hp_I h b from funext (vi b u hb)]
        exact ⟨x1.kept (ho _ hlt), x2⟩
      · obtain ⟨x0, r', x1, x2⟩ := g3 z
        rw [hio]
        exact ⟨x0, r', x1, (x2.kept (ho _ hlt)).to (fun j _ => (val b u _ j hb (fun e2 x hx => ⟨_, hP.2.2.1 b u j x hb z e2 hx⟩)).symm)⟩
      · obtain ⟨x0, x1⟩ := g4 z
        rw [hio]
        refine ⟨x0, ?_⟩
        rw [ho _ hlt, x1, vn b u hb]
        congr 2
        funext j
        exact (val b u _ j hb (fun e2 x hx => ⟨_, hP.2.2.2 b u j x hb z e2 hx⟩)).symm
  · rw [tn] at hb hc'
    by_cases e : b = hp_X h
    · by_cases e2 : c9 = hp_X h
      · rw [e, e2]
      · rw [if_neg e2] at hc'
        have := kx_P_lt hP hz hc'
        rw [io c9 u' hc', e] at hq
        unfold kx_io at hq
        rw [if_pos rfl] at hq
        omega
    · rw [if_neg e] at hb
      by_cases e2 : c9 = hp_X h
      · have := kx_P_lt hP hz hb
        rw [io b u hb, e2] at hq
        unfold kx_io at hq
        rw [if_pos rfl] at hq
        omega
      · rw [if_neg e2] at hc'
        rw [io b u hb, io c9 u' hc'] at hq
        exact hP.2.1 b c9 u u' hb hc' hq
  · rw [tn] at hb
    by_cases e : b = hp_X h
    · rw [e, rn] at hx; cases hx
    · rw [if_neg e] at hb
      rw [vr b u hb] at hx
      have hy := hP.2.2.1 b u k9 x hb hlt hkd hx
      rw [tn, if_neg (old x _ hy)]
      exact hy
  · rw [tn] at hb
    by_cases e : b = hp_X h
    · rw [e, rn] at hx; cases hx
    · rw [if_neg e] at hb
      rw [vr b u hb] at hx
      have hy := hP.2.2.2 b u k9 x hb hlt hkd hx
      rw [tn, if_neg (old x _ hy)]
      exact hy
def kx_dv (kd : Nat) : Value := match kd with
  | 0 => .int 0
  | 1 => .long 0
  | 2 => .null
  | _ => .int 0
theorem kx_val_new {x : Nat} {t n w kd j : Nat} : kx_val (kx_io ι (hp_X h) x) (hp_new h t n w) (hp_X h) kd j = kx_dv kd := by
  rcases kd with _ | _ | _ | kd
  · show Value.int (if hp_X h = hp_X h then _ else _) = _; rw [if_pos rfl]; rfl
  · show Value.long (if hp_X h = hp_X h then _ else _) = _; rw [if_pos rfl]; rfl
  · show va_rf ((if hp_X h = hp_X h then none else _).map _) = _; rw [if_pos rfl]; rfl
  · show Value.int (kx_b (if hp_X h = hp_X h then _ else _)) = _; rw [if_pos rfl]; rfl
theorem kx_old (hP : kx_P s0 D cA ι h H) {x : Nat} : ∀ a t, hp_T h a = some t → kx_io ι (hp_X h) x a = ι a := fun a t ha => by
  have := (hP.1 a t ha).1
  unfold kx_io
  rw [if_neg (by omega)]
theorem kx_tnew (hP : kx_P s0 D cA ι h H) {t n w : Nat} : ∀ a u, hp_T h a = some u → hp_T (hp_new h t n w) a = some u := fun a u ha => by
  have := (hP.1 a u ha).1
  show (if a = hp_X h then _ else _) = _
  rw [if_neg (by omega)]
  exact ha
theorem kx_ok_new (hP : kx_P s0 D cA ι h H) {t n w : Nat} {v : kx_V} (ho : kx_ok h v) : kx_ok (hp_new h t n w) v := by
  rcases v with x | x | ⟨u, o⟩
  · trivial
  · trivial
  · exact fun a ha => kx_tnew hP a u (ho a ha)
/-- the world behind a new cell, for the rest of the walk -/
theorem kx_go_new (G : kx_G p e R s m args meth c s0 D cA cc own nL h0) {t n w : Nat} {lv : kx_L} {st : List kx_V} (hk : kx_Sn p l e R s m args below meth c s0 D cA nL ι0 h0 rr hf (pc + i) k) (hF : k lv (.inr (.inr (t, some (hp_X h))) :: st) (hp_new h t n w) = some (rr, hf)) (hP : kx_P s0 D cA ι h H) (hA : ∀ a t, hp_T h a = some t → t ≠ 98 → kx_A s0 s (ι a)) (hl : lv_has ls nL (kx_lc ι lv)) (hs : ∀ v ∈ st, kx_ok h v) (hv : ∀ q ∈ lv, kx_ok h q.2) (hS : va_S (kx_A s0 s) s.heap H locs)
    (hC : hp_C h0 + cells = hp_C h) (hU : hp_U h0 + slots = hp_U h) (hI : ∀ a, a < hp_X h0 → ι a = ι0 a) (hE : kx_le h0 h) (hroom : hp_C h + 1 ≤ kx_cc ∧ hp_U h + w ≤ kx_cs) {H' : Heap} (he : H'.size = H.size + 1) (ho : ∀ q : Nat, q < H.size → H'[q]? = H[q]?) (hP' : kx_P s0 D cA (kx_io ι (hp_X h) H.size) (hp_new h t n w) H') :
    W p l e R s m args below meth c H' locs (cells + 1) (slots + w) (kx_Q s0 D cA below s ι0 h0 rr hf) (F0 m (pc + i) ls (.ref H.size :: st.map (kx_cv ι))) := by
  have hB := G.2.2.2.2.2.2.1
  have hnT : hp_T (hp_new h t n w) (hp_X h) = some t := by show (if hp_X h = hp_X h then _ else _) = _; rw [if_pos rfl]
  have h1 := hk _ _ _ hF (kx_io ι (hp_X h) H.size) H' locs (cells + 1) (slots + w) ls hP' (fun b u hb hu => ?_) (by rw [kx_lc_ext hv (kx_old hP)]; exact hl) (kx_ok2 (fun b hb => by cases hb; exact hnT) (fun v hv9 => kx_ok_new hP (hs v hv9))) (fun q hq => kx_ok_new hP (hv q hq)) ⟨by rw [he]; exact Nat.le_succ_of_le hS.1, fun q g1 g2 => by rw [ho q (Nat.lt_of_lt_of_le g1 hS.1)]; exact hS.2.1 q g1 g2, hS.2.2⟩
    (by show hp_C h0 + (cells + 1) = hp_C h + 1; omega) (by show hp_U h0 + (slots + w) = hp_U h + w; omega) (fun b hb => ?_) ⟨Nat.le_succ_of_le hE.1, fun b u hb => kx_tnew hP b u (hE.2.1 b u hb), hroom.1, hroom.2⟩
  · rw [List.map_cons, kx_st_ext hs (kx_old hP)] at h1
    have h2 : kx_cv (kx_io ι (hp_X h) H.size) (.inr (.inr (t, some (hp_X h)))) = .ref H.size := by
      show Value.ref (if hp_X h = hp_X h then _ else _) = _
      rw [if_pos rfl]
    rw [h2] at h1
    exact h1
  · by_cases e : b = hp_X h
    · subst e
      unfold kx_io
      rw [if_pos rfl]
      exact ⟨Nat.le_trans hB.2.2.2.1 hS.1, fun cell hc => by rw [Array.getElem?_eq_none hS.1] at hc; cases hc⟩
    · have hb2 : hp_T h b = some u := by
        have z : (if b = hp_X h then some t else hp_T h b) = some u := hb
        rw [if_neg e] at z
        exact z
      rw [kx_old hP b u hb2]
      exact hA b u hb2 hu
  · have := hE.1
    unfold kx_io
    rw [if_neg (by omega)]
    exact hI b hb
theorem kx_s_new (G : kx_G p e R s m args meth c s0 D cA cc own nL h0) {w : Nat} (hc : kx_cl[t]? = some r) (h98 : t < 98) (hw : w = r.2.2) (hin : ∀ w ∈ u_ws r.1 r.2.1 r.2.2, w ∈ kx_WS) (ty : Nat → FieldType) (hty : ∀ k, k < r.2.2 → parseFieldDescriptor (r.2.1 k).2.2.1 = some (ty k)) (hdv : ∀ k, k < r.2.2 → defaultValue (ty k) = kx_dv (kx_ft t k).1)
    (h1 : Cond.classLink own i r.1 ∈ kx_WS) (h2 : Cond.instantiable r.1 r.2.2 ∈ kx_WS) (h3 : Cond.initialized r.1 ∈ kx_WS) (hd : decode cc pc = .ok (.new i, 3)) (hk : kx_Sn p l e R s m args below meth c s0 D cA nL ι0 h0 rr hf (pc + 3) k) : kx_Sn p l e R s m args below meth c s0 D cA nL ι0 h0 rr hf pc (kx_new kx_cc kx_cs t w k) := by
  intro lv st h hF
  unfold kx_new at hF
  split at hF
  · rename_i hroom
    intro ι H locs cells slots ls hP hA hl hs hv hS hC hU hI hE
    obtain ⟨hx, hb, hown, -, -, hts, hB, hcc, hcs⟩ := id G
    have hKn := hB.2.1.1 t r hc
    subst hw
    refine W.newcK hx hb hown (hts _ h1) (hts _ h2) (hts _ h3) rfl hd (by omega) (by omega) hKn.2.1 rfl fun H' kC hkC e1 e2 e3 => ?_
    have hz : s0.heap.size ≤ H.size := Nat.le_trans hB.2.2.2.1 hS.1
    refine kx_go_new G hk hF hP hA hl hs hv hS hC hU hI hE hroom e2 e3 (kx_P_new hP hz e2 e3 (by omega) (fun _ => ⟨r, hc, (u_born ty hts hin hKn hkC e1 hty).to (fun j hj => ?_)⟩) (fun z => absurd z (by omega)))
    rw [kx_val_new]
    exact hdv j hj
  · cases hF
theorem kx_s_newa (G : kx_G p e R s m args meth c s0 D cA cc own nL h0) {kd c9 : Nat} {ty : FieldType} {at9 : ArrayType} (har : kx_ar t kd c9 ty) (hat : newarray.typeOf at9 = ty) (hby : componentBytes ty ≤ 8) (hdv : defaultValue ty = kx_dv kd) (hnob : ∀ n, ty ≠ .object n) (h1 : Cond.arrayClass ty ∈ kx_WS) (hd : decode cc pc = .ok (.newarray at9, 2)) (hk : kx_Sn p l e R s m args below meth c s0 D cA nL ι0 h0 rr hf (pc + 2) k) : kx_Sn p l e R s m args below meth c s0 D cA nL ι0 h0 rr hf pc (kx_newa kx_cc kx_cs t k) := by
  intro lv st h hF
  unfold kx_newa at hF
  split at hF
  · rename_i n r9
    split at hF
    · cases hF
    · rename_i hn
      split at hF
      · rename_i hroom
        intro ι H locs cells slots ls hP hA hl hs hv hS hC hU hI hE
        obtain ⟨hx, hb, hown, -, -, hts, hB, hcc, hcs⟩ := id G
        subst hat
        have hn0 : ¬ n < 0 := fun z => hn (Or.inl z)
        have hn1 : n.toNatClampNeg ≤ 60000000 := Nat.not_lt.mp fun z => hn (Or.inr z)
        refine va_newaK hx hb (hts _ h1) rfl hd rfl hn0 rfl (Nat.le_trans (Nat.mul_le_mul hn1 hby) (by decide)) (by omega) (by omega) rfl fun H' cA9 e1 e2 e3 _ hnm => ?_
        have hz : s0.heap.size ≤ H.size := Nat.le_trans hB.2.2.2.1 hS.1
        have hcl : cA9 = cA t := by
          have z := (hB.2.1.2 _ _ (har.1 cA)).2
          cases hq : newarray.typeOf at9 with
          | object n9 => exact absurd hq (hnob n9)
          | _ =>
            rw [hq] at z hnm
            exact Option.some.inj (hnm.symm.trans z)
        subst hcl
        refine kx_go_new (i := 2) (n := n.toNatClampNeg) G hk hF hP hA hl (kx_okt hs) hv hS hC hU hI hE hroom e2 e3 (kx_P_new hP hz e2 e3 (by have := har.2.1; omega) (fun z => absurd z (by have := har.2.1; omega)) (fun _ => e1.trans ?_))
        congr 2
        funext j
        rw [kx_val_new, har.2.2, hdv]
      · cases hF
  · cases hF
theorem kx_s_anew (G : kx_G p e R s m args meth c s0 D cA cc own nL h0) {c9 : Nat} {r9 : vw_C} (har : kx_ar t 2 c9 (.object r9.1)) (h1 : Cond.classLink own i r9.1 ∈ kx_WS) (h2 : Cond.arrayOver (.object r9.1) ∈ kx_WS) (hd : decode cc pc = .ok (.anewarray i, 3)) (hk : kx_Sn p l e R s m args below meth c s0 D cA nL ι0 h0 rr hf (pc + 3) k) : kx_Sn p l e R s m args below meth c s0 D cA nL ι0 h0 rr hf pc (kx_newa kx_cc kx_cs t k) := by
  intro lv st h hF
  unfold kx_newa at hF
  split at hF
  · rename_i n r8
    split at hF
    · cases hF
    · rename_i hn
      split at hF
      · rename_i hroom
        intro ι H locs cells slots ls hP hA hl hs hv hS hC hU hI hE
        obtain ⟨hx, hb, hown, -, -, hts, hB, hcc, hcs⟩ := id G
        have hn0 : ¬ n < 0 := fun z => hn (Or.inl z)
        have hn1 : n.toNatClampNeg ≤ 60000000 := Nat.not_lt.mp fun z => hn (Or.inr z)
        refine W.anew hx hb hown (hts _ h1) (hts _ h2) rfl hd rfl hn0 (by omega) (by omega) (by omega) fun cA9 kA comp f1 f2 f3 f4 => ?_
        have hz : s0.heap.size ≤ H.size := Nat.le_trans hB.2.2.2.1 hS.1
        have hcl : cA9 = cA t := by
          obtain ⟨-, -, -, -, -, z⟩ := (hB.2.1.2 _ _ (har.1 cA)).2
          exact Option.some.inj (f1.symm.trans z)
        subst hcl
        generalize hH1 : H.push ({ cls := cA t, slots := Array.replicate n.toNatClampNeg .null, vm := .none } : Cell) = H'
        have e2 : H'.size = H.size + 1 := by rw [← hH1, Array.size_push]
        have e1 : H'[H.size]? = some (arrV (cA t) n.toNatClampNeg (fun _ => .null)) := by rw [← hH1, Array.getElem?_push_size, ← arrV_new]
        have e3 : ∀ q : Nat, q < H.size → H'[q]? = H[q]? := fun q hq => by rw [← hH1, Array.getElem?_push, if_neg (Nat.ne_of_lt hq)]
        refine kx_go_new (i := 3) (n := n.toNatClampNeg) G hk hF hP hA hl (kx_okt hs) hv hS hC hU hI hE hroom e2 e3 (kx_P_new hP hz e2 e3 (by have := har.2.1; omega) (fun z => absurd z (by have := har.2.1; omega)) (fun _ => e1.trans ?_))
        congr 2
        funext j
        rw [kx_val_new, har.2.2]
        rfl
      · cases hF
  · cases hF
end KA
end
section
/-- a word that stays -/
def kx_kp (w : Cond) : Prop := ∀ (A A' : Array Value) (u U : State), u.WarmedH U.vm → w.before A u = true → w.before A' U = true
theorem kx_kb_ok {w : Cond} (h : kx_kb w = true) : kx_kp w := by
  intro A A' u U hW hw
  unfold kx_kb at h
  split at h
  · exact va_Nw.use rfl (va_Nw.warmM hW (va_Nw.of rfl hw))
  · exact va_Nw.use rfl (va_Nw.warmF hW (va_Nw.of rfl hw))
  · exact va_Nw.use rfl (va_Nw.warmC hW (va_Nw.of rfl hw))
  · exact va_AO.use (va_AO.moved hW.alike (va_AO.of hw))
  · exact word_at hW (Or.inr ⟨_, rfl⟩) hw
  · exact va_Nw.use rfl (va_Nw.warmD hW (va_Nw.of rfl hw))
  · rename_i own i tx
    have hown : ∃ cur, u.vm.findClass own = some cur := by
      have h1 := hw
      simp only [Cond.before, Cond.holds, Cond.value] at h1
      cases hc : u.vm.findClass own with
      | none => simp [hc] at h1
      | some cur => exact ⟨cur, rfl⟩
    obtain ⟨cur, hown⟩ := hown
    obtain ⟨k, cf, j, a', -, -, -, -, -, hev⟩ := Cond.stringRef_spec hown hw
    exact (vk_R.warm hW (vk_R.of hw hev)).1
  · exact word_at hW (Or.inl h) hw
theorem kx_good : ∀ w ∈ kx_WS, kx_kp w := fun w hw => kx_kb_ok (List.mem_filter.mp hw).2
section KE
variable {p : Program} {l : Launch} {e : Env} {R : Room} {s : State} {m : MethodId} {args : Array Value} {below : List Frame} {meth : Method} {c : Code} {H : Heap} {locs : List Loc} {cells slots : Nat} {Q : State → Prop}
variable {s0 : State} {D : va_G} {cA : Nat → ClassId} {cc : ByteArray} {own : String} {nL : Nat} {ι ι0 : Nat → Nat} {h h0 hf : kx_H} {rr : kx_R} {pc : Nat} {k : kx_F} {ls : Array Slot} {rest : List Value} {a t i : Nat} {r : vw_C}
theorem kx_mono {Q' : State → Prop} {g : JFrame} (hq : ∀ t, Q t → Q' t) (kk : W p l e R s m args below meth c H locs cells slots Q g) : W p l e R s m args below meth c H locs cells slots Q' g := by
  intro T hT X
  obtain ⟨t, a, b⟩ := kk T hT X
  exact ⟨t, a, hq t b⟩
theorem kx_fin {v : Option kx_V} (hB : s0.heap.size ≤ s.heap.size) (hP : kx_P s0 D cA ι hf H) (hS : va_S (kx_A s0 s) s.heap H locs) (hC : hp_C h0 + cells = hp_C hf) (hU : hp_U h0 + slots = hp_U hf) (hI : ∀ a, a < hp_X h0 → ι a = ι0 a) (hE : kx_le h0 hf) (hok : ∀ x, v = some x → kx_ok hf x) :
    ∀ t, MQ below (fun _ _ o t => o = .returned (v.map (kx_cv ι)) ∧ t.heap = H) args s cells slots (kx_A s0 s) t → kx_Q s0 D cA below s ι0 h0 (.inl v) hf t := by
  rintro t ⟨o, h1, h2, ⟨h3, h4⟩, L, ⟨-, h6, h7⟩, h8⟩
  refine ⟨o, h1, h2, ι, L, cells, slots, hI, by rw [h4]; exact hP, ⟨h3, hok⟩, h6, h7, h8, fun q hq => ?_, hC, hU, hE⟩
  rw [h4]
  exact hS.2.1 q (Nat.lt_of_lt_of_le hq hB) (fun z => absurd z.1 (by omega))
theorem kx_s_return (G : kx_G p e R s m args meth c s0 D cA cc own nL h0) (hr : meth.sig.returnType = none) (hd : decode cc pc = .ok (.return_, 1)) : kx_Sn p l e R s m args below meth c s0 D cA nL ι0 h0 rr hf pc kx_rv := by
  intro lv st h hF
  unfold kx_rv at hF
  split at hF
  · cases hF
    intro ι H locs cells slots ls hP hA hl hs hv hS hC hU hI hE
    have hlocks : meth.locks = false := G.2.2.2.2.1
    exact kx_mono (kx_fin (v := none) G.2.2.2.2.2.2.1.2.2.2.1 hP hS hC hU hI hE (fun x hx => by cases hx)) (W.vret G.1 G.2.1 hr (fun t ht _ => ⟨rfl, ht⟩) hS.2.2 hd hlocks)
  · cases hF
theorem kx_s_ireturn (G : kx_G p e R s m args meth c s0 D cA cc own nL h0) (hr : meth.sig.returnType = some .int) (hd : decode cc pc = .ok (.ireturn, 1)) : kx_Sn p l e R s m args below meth c s0 D cA nL ι0 h0 rr hf pc kx_ri := by
  intro lv st h hF
  unfold kx_ri at hF
  split at hF
  · rename_i x
    cases hF
    intro ι H locs cells slots ls hP hA hl hs hv hS hC hU hI hE
    have hlocks : meth.locks = false := G.2.2.2.2.1
    exact kx_mono (kx_fin (v := some (.inl x)) G.2.2.2.2.2.2.1.2.2.2.1 hP hS hC hU hI hE (fun y hy => by cases hy; trivial)) (W.iret G.1 G.2.1 hr (fun t ht _ => ⟨rfl, ht⟩) hS.2.2 hd hlocks)
  · cases hF
theorem kx_s_zreturn (G : kx_G p e R s m args meth c s0 D cA cc own nL h0) (hr : meth.sig.returnType = some .boolean) (hd : decode cc pc = .ok (.ireturn, 1)) : kx_Sn p l e R s m args below meth c s0 D cA nL ι0 h0 rr hf pc kx_rz := by
  intro lv st h hF
  unfold kx_rz at hF
  split at hF
  · rename_i x
    split at hF
    · rename_i hx01
      cases hF
      intro ι H locs cells slots ls hP hA hl hs hv hS hC hU hI hE
      have hlocks : meth.locks = false := G.2.2.2.2.1
      exact kx_mono (kx_fin (v := some (.inl x)) G.2.2.2.2.2.2.1.2.2.2.1 hP hS hC hU hI hE (fun y hy => by cases hy; trivial)) (W.zret G.1 G.2.1 hr (by rcases hx01 with rfl | rfl <;> decide) (fun t ht _ => ⟨rfl, ht⟩) hS.2.2 hd hlocks)
    · cases hF
  · cases hF
theorem kx_s_lreturn (G : kx_G p e R s m args meth c s0 D cA cc own nL h0) (hr : meth.sig.returnType = some .long) (hd : decode cc pc = .ok (.lreturn, 1)) : kx_Sn p l e R s m args below meth c s0 D cA nL ι0 h0 rr hf pc kx_rl := by
  intro lv st h hF
  unfold kx_rl at hF
  split at hF
  · rename_i x
    cases hF
    intro ι H locs cells slots ls hP hA hl hs hv hS hC hU hI hE
    have hlocks : meth.locks = false := G.2.2.2.2.1
    exact kx_mono (kx_fin (v := some (.inr (.inl x))) G.2.2.2.2.2.2.1.2.2.2.1 hP hS hC hU hI hE (fun y hy => by cases hy; trivial)) (W.lret G.1 G.2.1 hr (fun t ht _ => ⟨rfl, ht⟩) hS.2.2 hd hlocks)
  · cases hF
theorem kx_s_areturn (G : kx_G p e R s m args meth c s0 D cA cc own nL h0) {n9 : String} (hr : meth.sig.returnType = some (.object n9)) (hd : decode cc pc = .ok (.areturn, 1)) : kx_Sn p l e R s m args below meth c s0 D cA nL ι0 h0 rr hf pc kx_rr := by
  intro lv st h hF
  unfold kx_rr at hF
  split at hF
  · rename_i x
    cases hF
    intro ι H locs cells slots ls hP hA hl hs hv hS hC hU hI hE
    have hlocks : meth.locks = false := G.2.2.2.2.1
    exact kx_mono (kx_fin (v := some (.inr (.inr x))) G.2.2.2.2.2.2.1.2.2.2.1 hP hS hC hU hI hE (fun y hy => by cases hy; exact kx_okh hs)) (W.aret G.1 G.2.1 hr (Or.inl ⟨_, rfl⟩) (by obtain ⟨t9, o9⟩ := x; cases o9; exact Or.inl rfl; exact Or.inr ⟨_, rfl⟩) (fun t ht _ => ⟨rfl, ht⟩) hS.2.2 hd hlocks)
  · cases hF
theorem kx_w2 (ι : Nat → Nat) (st : List kx_V) : ((st.map (kx_cv ι)).map fun v => v.category).sum ≤ 2 * st.length := by
  induction st with
  | nil => exact Nat.le_refl _
  | cons v r ih =>
    simp only [List.map_cons, List.sum_cons, List.length_cons]
    rcases lv_cat (kx_cv ι v) with z | z <;> omega
theorem kx_w8 {st : List kx_V} {g : JFrame} (hg : st.length ≤ 8) (hR : 40 ≤ R.locals) (h0 : g.monitorRoom = 0) : 2 * g.monitorRoom + ((st.map (kx_cv ι)).map fun v => v.category).sum + 12 ≤ R.locals := by
  have := kx_w2 ι st
  omega
theorem kx_s_obj (G : kx_G p e R s m args meth c s0 D cA cc own nL h0) (h1 : Cond.methodLink own i objectInit ∈ kx_WS) (h2 : Cond.instanceMethod objectInit ∈ kx_WS) (h3 : Cond.code objectInit ⟨#[0xb1]⟩ 1 none ∈ kx_WS) (hR1 : 1 ≤ R.frames) (hR2 : 40 ≤ R.locals) (hd : decode cc pc = .ok (.invokespecial i, 3)) (hk : kx_Sn p l e R s m args below meth c s0 D cA nL ι0 h0 rr hf (pc + 3) k) : kx_Sn p l e R s m args below meth c s0 D cA nL ι0 h0 rr hf pc (kx_obj k) := by
  intro lv st h hF
  unfold kx_obj at hF
  split at hF
  · rename_i x r9
    obtain ⟨t9, o9⟩ := x
    cases hr9 : Nat.ble r9.length 8 with
    | false => rw [hr9] at hF; cases hF
    | true =>
     rw [hr9] at hF
     cases o9 with
     | none => cases hF
     | some a =>
      intro ι H locs cells slots ls hP hA hl hs hv hS hC hU hI hE
      refine W.objInit G.1 G.2.1 G.2.2.1 (G.2.2.2.2.2.1 _ h1) (G.2.2.2.2.2.1 _ h2) (G.2.2.2.2.2.1 _ h3) rfl (by rw [G.2.2.2.1]; exact hl.1) (a := ι a) (rest := r9.map (kx_cv ι)) rfl hd hR1 ?_ (hk _ _ _ hF ι H locs cells slots ls hP hA hl (kx_okt hs) hv hS hC hU hI hE)
      exact kx_w8 (Nat.le_of_ble_eq_true hr9) hR2 rfl
  · cases hF
theorem kx_S_of {T : State} (X : Stand p l e R s m args below meth c T locs cells slots) {A : Nat → Prop} (hL : ∀ q ∈ locs, A q.base) : va_S A s.heap T.heap locs := by
  obtain ⟨-, z1, -, -, -, z6⟩ := X.same
  refine ⟨z1, fun q h1 h2 => ?_, hL⟩
  have hc : s.heap[q]? = some s.heap[q] := Array.getElem?_eq_getElem h1
  obtain ⟨c', g1, g2, g3, g4⟩ := z6 q _ hc
  have g1' : T.heap[q]? = some c' := g1
  rw [g1', hc]
  congr 1
  have e1 : c'.slots = (s.heap[q]).slots := Array.ext_getElem? fun i => g4 i (fun hm => h2 (hL _ hm))
  refine g2.trans ?_
  rw [e1]
theorem kx_A_of {T : State} (X : Stand p l e R s m args below meth c T locs cells slots) {q : Nat} (h1 : s0.heap.size ≤ q) (h2 : ∀ cell : Cell, T.heap[q]? = some cell → cell.vm.isStatics = false) : kx_A s0 s q := by
  refine ⟨h1, fun c0 hc0 => ?_⟩
  obtain ⟨c', g1, g2, -⟩ := X.same.2.2.2.2.2 q c0 hc0
  have e1 : c'.vm = c0.vm := by rw [g2]
  rw [← e1]
  exact h2 c' g1
theorem kx_P_ns (hP : kx_P s0 D cA ι h H) (ha : hp_T h a = some t) (ht : t ≠ 98) : s0.heap.size ≤ ι a ∧ ∃ cell : Cell, H[ι a]? = some cell ∧ cell.vm.isStatics = false := by
  obtain ⟨-, -, g3, g4⟩ := hP.1 a t ha
  rcases Nat.lt_trichotomy t 98 with z | z | z
  · obtain ⟨x0, r, -, cell, q1, -, q3, -⟩ := g3 z
    exact ⟨x0, cell, q1, by rw [q3]; rfl⟩
  · exact absurd z ht
  · exact ⟨(g4 z).1, _, (g4 z).2, rfl⟩
theorem kx_PA {T : State} (X : Stand p l e R s m args below meth c T locs cells slots) (hP : kx_P s0 D cA ι h T.heap) : ∀ a t, hp_T h a = some t → t ≠ 98 → kx_A s0 s (ι a) := by
  intro a t ha ht
  obtain ⟨x0, cell, q1, q2⟩ := kx_P_ns hP ha ht
  exact kx_A_of X x0 (fun c9 h9 => by cases q1.symm.trans h9; exact q2)
def kx_need (d : Nat) (rm : Room) : Prop := d + 2 ≤ rm.frames ∧ 32 * d + 100 ≤ rm.locals
/-- a method's contract: this run of it -/
def kx_Mt (l : Launch) (s0 : State) (D : va_G) (cA : Nat → ClassId) (y : MethodName) (rm : Room) (ι0 : Nat → Nat) (As : List kx_V) (h0 : kx_H) (rr : kx_R) (hf : kx_H) : Prop :=
  MetFree l y (headSpec kx_WS rm) (fun a U => a = (As.map (kx_cv ι0)).toArray ∧ kx_B s0 D cA U ∧ kx_P s0 D cA ι0 h0 U.heap ∧ ∀ v ∈ As, kx_ok h0 v) (fun _ _ _ _ _ => True) (fun _ st o t => kx_E s0 D cA ι0 h0 rr hf st o t)
theorem kx_BU (hB : kx_B s0 D cA s) {U : State} (hW : s.WarmedH U.vm) (hS : va_S (kx_A s0 s) s.heap U.heap locs) : kx_B s0 D cA U := by
  obtain ⟨b1, b2, b3, b4, b5⟩ := hB
  refine ⟨State.WarmedH.trans b1 hW, va_K.moved hW.alike b2, b3, Nat.le_trans b4 hS.1, fun q hq => ?_⟩
  rw [hS.2.1 q (Nat.lt_of_lt_of_le hq b4) (fun z => absurd z.1 (by omega))]
  exact b5 q hq
theorem kx_wcall (G : kx_G p e R s m args meth c s0 D cA cc own nL h0) (hg : ∀ w ∈ kx_WS, kx_kp w) {y : MethodName} {bytes : ByteArray} {maxL : Nat} {ret : Option FieldType} (hcode : Cond.code y bytes maxL ret ∈ kx_WS) (hini : Cond.initialized y.cls ∈ kx_WS) (hmax : maxL ≤ 13) {d : Nat} {As : List kx_V} {r' : kx_R} {h' : kx_H}
    (hM : ∀ rm, kx_need d rm → kx_cc ≤ rm.cells + hp_C h → kx_cs ≤ rm.slots + hp_U h → kx_Mt l s0 D cA y rm ι As h r' h') (hR : kx_need (d + 1) R)
    (hcell : cells ≤ R.cells) (hslot : slots ≤ R.slots)
    (hP : kx_P s0 D cA ι h H) (hS : va_S (kx_A s0 s) s.heap H locs) (hC : hp_C h0 + cells = hp_C h) (hU : hp_U h0 + slots = hp_U h) (hI : ∀ a, a < hp_X h0 → ι a = ι0 a) (hE : kx_le h0 h) (hAs : ∀ v ∈ As, kx_ok h v)
    (hw8 : (rest.map fun v => v.category).sum ≤ 8) (hls : ls.size = nL) {st0 : List Value} {ig : Instr} (hdg : decode cc pc = .ok (ig, 3))
    (enter : ∀ T : State, T.heap = H → Stand p l e R s m args below meth c T locs cells slots → ∃ (vm₁ : Vm) (mk : MethodId), s.WarmedH vm₁ ∧ Stand p l e R s m args below meth c (T.setVm vm₁) locs cells slots ∧ (T.setVm vm₁).methodNamed? y = some mk ∧
      ∀ target, (∀ acts, Steps p.tables e below (doInvoke e ((T.setVm vm₁).setTop (F0 m pc ls rest)) acts mk (As.map (kx_cv ι)).toArray).1 target) → Steps p.tables e below (T.setTop (F0 m pc ls st0)) target)
    (kret : ∀ (v : Option kx_V) (ι' : Nat → Nat) (H' : Heap) (locs' : List Loc) (cells' slots' : Nat), r' = .inl v → kx_P s0 D cA ι' h' H' → (∀ a t, hp_T h' a = some t → t ≠ 98 → kx_A s0 s (ι' a)) → va_S (kx_A s0 s) s.heap H' locs' → hp_C h0 + cells' = hp_C h' → hp_U h0 + slots' = hp_U h' → (∀ a t, hp_T h a = some t → ι' a = ι a) → (∀ a, a < hp_X h0 → ι' a = ι0 a) → kx_le h h' → kx_le h0 h' → (∀ x, v = some x → kx_ok h' x) →
      W p l e R s m args below meth c H' locs' cells' slots' (kx_Q s0 D cA below s ι0 h0 rr hf) (F0 m (pc + 3) ls ((v.map (kx_cv ι')).toList ++ rest)))
    (kthr : ∀ e', r' = .inr e' → rr = .inr e' ∧ hf = h') (hout : ∀ x ∈ c.exceptionTable.toList, covers x pc = false) :
    W p l e R s m args below meth c H locs cells slots (kx_Q s0 D cA below s ι0 h0 rr hf) (F0 m pc ls st0) := by
  intro T hT X
  obtain ⟨vm₁, mk, hW₁, X₁, hn, hgo⟩ := enter T hT X
  obtain ⟨hx, hb, hown, hml, hlocks, hts, hB, hcc, hcs⟩ := id G
  have hU1 : (T.setVm vm₁).heap = H := hT
  generalize hUe : T.setVm vm₁ = U at hn X₁ hgo hU1
  have hWU : s.WarmedH U.vm := by rw [← hUe]; exact hW₁
  have hSU : va_S (kx_A s0 s) s.heap U.heap locs := by rw [hU1]; exact hS
  have hBU := kx_BU hB hWU hSU
  have hM1 := hM { frames := R.frames - 1, cells := R.cells - cells, slots := R.slots - slots, locals := R.locals - (19 + maxL) } ⟨by have := hR.1; show d + 2 ≤ R.frames - 1; omega, by have := hR.2; show 32 * d + 100 ≤ R.locals - (19 + maxL); omega⟩ (by show kx_cc ≤ R.cells - cells + hp_C h; omega) (by show kx_cs ≤ R.slots - slots + hp_U h; omega)
  generalize hrm : ({ frames := R.frames - 1, cells := R.cells - cells, slots := R.slots - slots, locals := R.locals - (19 + maxL) } : Room) = rm at hM1
  have hpre : ∀ w ∈ kx_WS, w.before (As.map (kx_cv ι)).toArray U = true := fun w hw => hg w hw args _ s U hWU (hts w hw)
  have hat : At U (F0 m pc ls rest).method c below := X₁.here
  obtain ⟨methY, cY, hmY, hcY, -, hlY, -, -, -, -⟩ := Cond.code_spec hn (hpre _ hcode)
  obtain ⟨kY, hkY, -⟩ := className_of_methodNamed hn
  have hinitY : kY.init = .initialized := Cond.initialized_spec (findClass_of_methodNamed hn) hkY (hpre _ hini)
  have hdg' : decode c.code (F0 m pc ls rest).pc = .ok (ig, 3) := by rw [hb]; exact hdg
  have happ : (headSpec kx_WS rm).appliesLoose y e.platform (U.calling (F0 m pc ls rest) mk (As.map (kx_cv ι)).toArray) = true :=
    Spec.appliesLoose_calling (g := F0 m pc ls rest) hat hdg' hn hkY hinitY
      (X₁.room_calling (g := F0 m pc ls rest) (R' := rm) (by show ls.size = _; rw [hls, hml]) hmY hcY (by rw [← hrm]; have := hR.1; show R.frames - 1 + 1 ≤ R.frames; omega) (by rw [hlY, ← hrm]; have := hR.2; show 2 * 0 + (rest.map fun v => v.category).sum + (maxL + 11) + (R.locals - (19 + maxL)) ≤ R.locals; omega) (by rw [← hrm]; show cells + (R.cells - cells) ≤ R.cells; omega) (by rw [← hrm]; show slots + (R.slots - slots) ≤ R.slots; omega)) (atoms_intro hpre)
  obtain ⟨mid, hmid⟩ := hat.above
  have hfr : (U.setTop (F0 m pc ls rest)).frames = (.java (F0 m pc ls rest) :: mid) ++ below := by rw [State.frames_setTop' _ hat.top, hmid]; rfl
  have hPc : (U.calling (F0 m pc ls rest) mk (As.map (kx_cv ι)).toArray).heap = H := hU1
  obtain ⟨o, s₂, hsteps, -, hend, hq⟩ := Steps.callFree hM1 p X₁.admits X₁.cas X₁.clock (acts := []) hfr happ ⟨rfl, ⟨hBU.1, va_K.moved (Vm.Alike.refl U.vm) hBU.2.1, hBU.2.2.1, hBU.2.2.2.1, hBU.2.2.2.2⟩, (by show kx_P s0 D cA ι h U.heap; rw [hU1]; exact hP), hAs⟩ trivial
  rw [State.frames_setTop' _ hat.top] at hend
  have hq' : kx_E s0 D cA ι h r' h' (U.calling (F0 m pc ls rest) mk (As.map (kx_cv ι)).toArray) o s₂ := hq
  obtain ⟨ι', L, kn, nn, i1, p1, o1, w1, sm1, l1, f1, c1, u1, e1⟩ := hq'
  obtain ⟨g₀, hg0⟩ := Option.isSome_iff_exists.mp hat.top
  obtain ⟨r0, hr0⟩ := State.topJava?_eq_some.mp hg0
  obtain ⟨e2, q2, q3, q4, q5, q6⟩ := id sm1
  have e3 : s₂ = ({ (U.calling (F0 m pc ls rest) mk (As.map (kx_cv ι)).toArray).setFrames s₂.frames with heap := s₂.heap, slotsUsed := s₂.slotsUsed } : State).setVm s₂.vm := by
    have z : s₂ = ({ s₂ with vm := (U.calling (F0 m pc ls rest) mk (As.map (kx_cv ι)).toArray).vm } : State).setVm s₂.vm := rfl
    rw [e2] at z
    exact z
  have hW' : U.WarmedH s₂.vm := w1
  have hsame : U.sameButNew ({ U with heap := s₂.heap, slotsUsed := s₂.slotsUsed } : State) L kn nn := by
    refine ⟨?_, q2, q3, q4, q5, q6⟩
    obtain ⟨t, ht, -⟩ := State.frames_cons hr0
    show ({ U with heap := s₂.heap, slotsUsed := s₂.slotsUsed } : State) = { U.setFrames U.frames with heap := s₂.heap, slotsUsed := s₂.slotsUsed }
    rw [State.setFrames_self ht]
  have XV : Stand p l e R s m args below meth c (({ U with heap := s₂.heap, slotsUsed := s₂.slotsUsed } : State).setVm s₂.vm) (locs ++ L) (cells + kn) (slots + nn) :=
    ⟨X₁.admits, X₁.cas, X₁.clock, X₁.frames, X₁.room, X₁.hears, X₁.method, X₁.code, (X₁.here.setHeapUsed s₂.heap s₂.slotsUsed).setVm hW'.alike, X₁.tail, State.WarmedH.trans X₁.warmed hW', X₁.limits, X₁.bytes, X₁.same.trans (hsame.setVm s.vm)⟩
  have hLs : ∀ q ∈ locs ++ L, kx_A s0 s q.base := by
    intro q hq
    rcases List.mem_append.mp hq with h1 | h1
    · exact hS.2.2 q h1
    · have h2 := l1 q h1
      exact kx_A_of X₁ h2.1 (fun cell hcell => h2.2 cell hcell)
  have hSV : va_S (kx_A s0 s) s.heap s₂.heap (locs ++ L) := kx_S_of XV hLs
  have hIx : ∀ a t, hp_T h a = some t → ι' a = ι a := fun a t ha => i1 a ((hP.1 a t ha).1)
  have hI' : ∀ a, a < hp_X h0 → ι' a = ι0 a := fun a ha => (i1 a (Nat.lt_of_lt_of_le ha hE.1)).trans (hI a ha)
  have hE' : kx_le h0 h' := ⟨Nat.le_trans hE.1 e1.1, fun a t ha => e1.2.1 a t (hE.2.1 a t ha), e1.2.2⟩
  cases o with
  | returned v0 =>
    cases r' with
    | inr e' => obtain ⟨x, cell, z, -⟩ := o1; cases z
    | inl v =>
      obtain ⟨hv0, hok⟩ := o1
      have hv0 : v0 = v.map (kx_cv ι') := Outcome.returned.inj hv0
      subst hv0
      obtain ⟨c₂, i₂, len₂, hc₂, hd₂, hf₂⟩ := hend
      have hcc2 : c₂ = c := by
        have z : s₂.code? m = U.code? m := by rw [State.code?_eq, State.code?_eq, hW'.alike.method?]
        exact Option.some.inj (hc₂.symm.trans (z.trans hat.code))
      subst hcc2
      have hlen : len₂ = 3 := by rw [hdg'] at hd₂; cases hd₂; rfl
      subst hlen
      have hs₂ : s₂ = (({ U with heap := s₂.heap, slotsUsed := s₂.slotsUsed } : State).setVm s₂.vm).setTop (F0 m (pc + 3) ls ((v.map (kx_cv ι')).toList ++ rest)) := by
        have hr' : (({ U with heap := s₂.heap, slotsUsed := s₂.slotsUsed } : State).setVm s₂.vm).frames = .java g₀ :: r0 := hr0
        refine e3.trans ?_
        rw [hf₂, State.calling_eq hat.top, State.setFrames_setFrames, State.setTop_of_frames _ hr', hr0]
        rfl
      obtain ⟨t, a1, b1⟩ := kret v ι' s₂.heap (locs ++ L) (cells + kn) (slots + nn) rfl p1 (kx_PA XV p1) hSV (by omega) (by omega) hIx hI' e1 hE' hok (({ U with heap := s₂.heap, slotsUsed := s₂.slotsUsed } : State).setVm s₂.vm) rfl XV
      exact ⟨t, hgo _ (fun acts => by rw [doInvoke_state]; exact hsteps.trans (by rw [hs₂]; exact a1)), b1⟩
  | threw x =>
    cases r' with
    | inl v => obtain ⟨z, -⟩ := o1; cases z
    | inr e' =>
      obtain ⟨rfl, rfl⟩ := kthr e' rfl
      have hf₂ : s₂.frames = .throwing x :: .java (F0 m pc ls rest) :: U.frames.tail := hend
      have hs₂ : s₂ = ((({ U with heap := s₂.heap, slotsUsed := s₂.slotsUsed } : State).setVm s₂.vm).setTop (F0 m pc ls rest)).pushFrame (.throwing x) := by
        have hr' : (({ U with heap := s₂.heap, slotsUsed := s₂.slotsUsed } : State).setVm s₂.vm).frames = .java g₀ :: r0 := hr0
        refine e3.trans ?_
        rw [hf₂, State.calling_eq hat.top, State.setFrames_setFrames, State.pushFrame, State.frames_setTop _ hr', State.setTop_of_frames _ hr', State.setFrames_setFrames, hr0]
        rfl
      obtain ⟨z1, z2, z3, z4, z5⟩ := XV.leaveThrown x (g := F0 m pc ls rest) rfl rfl rfl hout hlocks
      refine ⟨_, hgo _ (fun acts => by rw [doInvoke_state]; exact hsteps.trans (by rw [hs₂]; exact z1)), .threw x, z2, z3, ι', locs ++ L, cells + kn, slots + nn, hI', p1, o1, z4, z5, hLs, fun q hq => hSV.2.1 q (Nat.lt_of_lt_of_le hq hB.2.2.2.1) (fun z => absurd z.1 (by omega)), by omega, by omega, hE'⟩
end KE
end
section
section KC
variable {p : Program} {l : Launch} {e : Env} {R : Room} {s : State} {m : MethodId} {args : Array Value} {below : List Frame} {meth : Method} {c : Code} {H : Heap} {locs : List Loc} {cells slots : Nat} {Q : State → Prop}
variable {s0 : State} {D : va_G} {cA : Nat → ClassId} {cc : ByteArray} {own : String} {nL : Nat} {ι ι0 : Nat → Nat} {h h0 hf : kx_H} {rr : kx_R} {pc : Nat} {k : kx_F} {ls : Array Slot} {rest : List Value} {a t i : Nat} {r : vw_C}
theorem kx_enV {T : State} (X : Stand p l e R s m args below meth c T locs cells slots) (hexec : p.tables.exec = Jvm.exec) (hb : c.code = cc) {C : String} {y : MethodName} {bytes : ByteArray} {maxL : Nat} {ret : Option FieldType}
    (hown : s.vm.findClass own = some m.cls) (hlink : (Cond.methodLink own i y).before args s = true) (hinst : (Cond.instanceMethod y).before args s = true) (hsel : (Cond.selects C y y).before args s = true)
    (hcode : (Cond.code y bytes maxL ret).before args s = true) (hy : y.cls ≠ "java/lang/invoke/MethodHandle" ∧ y.cls ≠ "java/lang/invoke/VarHandle")
    {b : Addr} {cellB : Cell} (hcell : T.heap[b]? = some cellB) (hobj : cellB.vm.isStatics = false) (hcls : s.vm.findClass C = some cellB.cls)
    {argsL : List Value} (hlen : (parseMethodDescriptor y.desc).map (fun d => d.parameters.length) = some argsL.length) (hdg : decode cc pc = .ok (.invokevirtual i, 3)) :
    ∃ (vm₁ : Vm) (mk : MethodId), s.WarmedH vm₁ ∧ Stand p l e R s m args below meth c (T.setVm vm₁) locs cells slots ∧ (T.setVm vm₁).methodNamed? y = some mk ∧
      ∀ target, (∀ acts, Steps p.tables e below (doInvoke e ((T.setVm vm₁).setTop (F0 m pc ls rest)) acts mk (Value.ref b :: argsL).toArray).1 target) → Steps p.tables e below (T.setTop (F0 m pc ls (argsL.reverse ++ .ref b :: rest))) target := by
  subst hb
  obtain ⟨mk, methM, hnamed, hmethM, hstM, habM⟩ := Cond.instanceMethod_spec hinst
  obtain ⟨methM', cM, hmethM', -, -, -, -, -, -, hsigM⟩ := Cond.code_spec hnamed hcode
  cases hmethM.symm.trans hmethM'
  obtain ⟨c2, r2, m2, q1, q2, q3, q4, kP, hkP, hkPi⟩ := Cond.selects_spec hsel
  cases hcls.symm.trans q1
  cases (State.methodFound?_of_named hnamed hy).symm.trans q2
  cases hnamed.symm.trans q3
  have hselP : selectMethod e.platform s.vm cellB.cls mk = .method mk := by rw [Launch.admits_selectMethod X.admits]; exact q4
  have hlen' : argsL.length = methM.sig.parameters.length := by rw [hsigM] at hlen; exact (Option.some.inj hlen).symm
  obtain ⟨vm₁, X₁, hstep₁⟩ := X.invokevirtual hexec hown hlink hnamed hmethM hstM hkP hkPi hy (a := b) (cell := cellB) hcell
    (fun z h => by rw [h] at hobj; cases hobj) hselP hmethM habM hkP hkPi (g := F0 m pc ls (argsL.reverse ++ .ref b :: rest)) rfl (argsL := argsL) (rest := rest) hlen' rfl hdg
  exact ⟨vm₁, mk, X₁.warmed, X₁, X₁.named hnamed, fun target h => hstep₁ _ fun acts => h acts⟩
theorem kx_enS {T : State} (X : Stand p l e R s m args below meth c T locs cells slots) (hexec : p.tables.exec = Jvm.exec) (hb : c.code = cc) {y : MethodName} {bytes : ByteArray} {maxL : Nat} {ret : Option FieldType}
    (hown : s.vm.findClass own = some m.cls) (hlink : (Cond.methodLink own i y).before args s = true) (hstat : (Cond.static y).before args s = true) (hinit : (Cond.initialized y.cls).before args s = true)
    (hcode : (Cond.code y bytes maxL ret).before args s = true) (hy : y.cls ≠ "java/lang/invoke/MethodHandle" ∧ y.cls ≠ "java/lang/invoke/VarHandle")
    {argsL : List Value} (hlen : (parseMethodDescriptor y.desc).map (fun d => d.parameters.length) = some argsL.length) (hdg : decode cc pc = .ok (.invokestatic i, 3)) :
    ∃ (vm₁ : Vm) (mk : MethodId), s.WarmedH vm₁ ∧ Stand p l e R s m args below meth c (T.setVm vm₁) locs cells slots ∧ (T.setVm vm₁).methodNamed? y = some mk ∧
      ∀ target, (∀ acts, Steps p.tables e below (doInvoke e ((T.setVm vm₁).setTop (F0 m pc ls rest)) acts mk argsL.toArray).1 target) → Steps p.tables e below (T.setTop (F0 m pc ls (argsL.reverse ++ rest))) target := by
  subst hb
  obtain ⟨mk, hnamed⟩ := Cond.code_named hcode
  obtain ⟨methM, cM, hmethM, -, -, -, -, -, -, hsigM⟩ := Cond.code_spec hnamed hcode
  have hstatic : methM.isStatic = true := Cond.static_spec hnamed hmethM hstat
  obtain ⟨kP, hkP, -⟩ := className_of_methodNamed hnamed
  have hinitP : kP.init = .initialized := Cond.initialized_spec (findClass_of_methodNamed hnamed) hkP hinit
  have hlen' : argsL.length = methM.sig.parameters.length := by rw [hsigM] at hlen; exact (Option.some.inj hlen).symm
  obtain ⟨vm₁, X₁, hstep₁⟩ := X.invokestatic hexec hown hlink hnamed hmethM hstatic hkP hinitP hy (g := F0 m pc ls (argsL.reverse ++ rest)) rfl (argsL := argsL) (rest := rest) hlen' rfl hdg
  exact ⟨vm₁, mk, X₁.warmed, X₁, X₁.named hnamed, fun target h => hstep₁ _ fun acts => h acts⟩
theorem kx_enI {T : State} (X : Stand p l e R s m args below meth c T locs cells slots) (hexec : p.tables.exec = Jvm.exec) (hb : c.code = cc) {y : MethodName} {bytes : ByteArray} {maxL : Nat}
    (hown : s.vm.findClass own = some m.cls) (hy1 : y.name = "<init>") (hlink : (Cond.methodLink own i y).before args s = true) (hinst : (Cond.instanceMethod y).before args s = true)
    (hcode : (Cond.code y bytes maxL none).before args s = true) (hy : y.cls ≠ "java/lang/invoke/MethodHandle" ∧ y.cls ≠ "java/lang/invoke/VarHandle")
    {b : Addr} {argsL : List Value} (hlen : (parseMethodDescriptor y.desc).map (fun d => d.parameters.length) = some argsL.length) (hdg : decode cc pc = .ok (.invokespecial i, 3)) :
    ∃ (vm₁ : Vm) (mk : MethodId), s.WarmedH vm₁ ∧ Stand p l e R s m args below meth c (T.setVm vm₁) locs cells slots ∧ (T.setVm vm₁).methodNamed? y = some mk ∧
      ∀ target, (∀ acts, Steps p.tables e below (doInvoke e ((T.setVm vm₁).setTop (F0 m pc ls rest)) acts mk (Value.ref b :: argsL).toArray).1 target) → Steps p.tables e below (T.setTop (F0 m pc ls (argsL.reverse ++ .ref b :: rest))) target := by
  subst hb
  have hpl : e.platform.magicAccessors = ({} : Platform).magicAccessors := by rw [X.admits.platform]
  have hlen' : ∀ sig, parseMethodDescriptor y.desc = some sig → argsL.length = sig.parameters.length := fun sig h => by rw [h] at hlen; exact (Option.some.inj hlen).symm
  obtain ⟨mk, methM, cM, kP, vm₁, hnamed, hmethM, hcodeM, -, hlocalsM, -, hkP, -, hW₁, hstep₁⟩ := Steps.initColdArgs (e := e) X.here hexec X.warmed hpl hown hy1 hy hlink hinst hcode (f := F0 m pc ls (argsL.reverse ++ .ref b :: rest)) rfl hlen' rfl hdg
  have X₁ := X.noted hW₁
  exact ⟨vm₁, mk, X₁.warmed, X₁, X₁.named hnamed, fun target h => hstep₁ _ fun acts => h acts⟩
theorem kx_enVN {T : State} (X : Stand p l e R s m args below meth c T locs cells slots) (hexec : p.tables.exec = Jvm.exec) (hb : c.code = cc) {C : String} {host : String} {y : MethodName} {bytes : ByteArray} {maxL : Nat} {ret : Option FieldType}
    (hown : s.vm.findClass own = some m.cls) (hlink : (Cond.methodLinkNest own i y host).before args s = true) (hinst : (Cond.instanceMethod y).before args s = true) (hsel : (Cond.selects C y y).before args s = true)
    (hcode : (Cond.code y bytes maxL ret).before args s = true) (hy : y.cls ≠ "java/lang/invoke/MethodHandle" ∧ y.cls ≠ "java/lang/invoke/VarHandle")
    {b : Addr} {cellB : Cell} (hcell : T.heap[b]? = some cellB) (hobj : cellB.vm.isStatics = false) (hcls : s.vm.findClass C = some cellB.cls)
    {argsL : List Value} (hlen : (parseMethodDescriptor y.desc).map (fun d => d.parameters.length) = some argsL.length) (hdg : decode cc pc = .ok (.invokevirtual i, 3)) :
    ∃ (vm₁ : Vm) (mk : MethodId), s.WarmedH vm₁ ∧ Stand p l e R s m args below meth c (T.setVm vm₁) locs cells slots ∧ (T.setVm vm₁).methodNamed? y = some mk ∧
      ∀ target, (∀ acts, Steps p.tables e below (doInvoke e ((T.setVm vm₁).setTop (F0 m pc ls rest)) acts mk (Value.ref b :: argsL).toArray).1 target) → Steps p.tables e below (T.setTop (F0 m pc ls (argsL.reverse ++ .ref b :: rest))) target := by
  subst hb
  obtain ⟨mk, methM, hnamed, hmethM, hstM, habM⟩ := Cond.instanceMethod_spec hinst
  obtain ⟨methM', cM, hmethM', -, -, -, -, -, -, hsigM⟩ := Cond.code_spec hnamed hcode
  cases hmethM.symm.trans hmethM'
  obtain ⟨c2, r2, m2, q1, q2, q3, q4, kP, hkP, hkPi⟩ := Cond.selects_spec hsel
  cases hcls.symm.trans q1
  cases (State.methodFound?_of_named hnamed hy).symm.trans q2
  cases hnamed.symm.trans q3
  have hselP : selectMethod e.platform s.vm cellB.cls mk = .method mk := by rw [Launch.admits_selectMethod X.admits]; exact q4
  have hlen' : argsL.length = methM.sig.parameters.length := by rw [hsigM] at hlen; exact (Option.some.inj hlen).symm
  obtain ⟨vm₁, X₁, hstep₁⟩ := X.invokevirtualNest hexec hown hlink hnamed hmethM hstM hkP hkPi hy (a := b) (cell := cellB) hcell
    (fun z h => by rw [h] at hobj; cases hobj) hselP hmethM habM hkP hkPi (g := F0 m pc ls (argsL.reverse ++ .ref b :: rest)) rfl (argsL := argsL) (rest := rest) hlen' rfl hdg
  exact ⟨vm₁, mk, X₁.warmed, X₁, X₁.named hnamed, fun target h => hstep₁ _ fun acts => h acts⟩
theorem kx_enSN {T : State} (X : Stand p l e R s m args below meth c T locs cells slots) (hexec : p.tables.exec = Jvm.exec) (hb : c.code = cc) {host : String} {y : MethodName} {bytes : ByteArray} {maxL : Nat} {ret : Option FieldType}
    (hown : s.vm.findClass own = some m.cls) (hlink : (Cond.methodLinkNest own i y host).before args s = true) (hstat : (Cond.static y).before args s = true) (hinit : (Cond.initialized y.cls).before args s = true)
    (hcode : (Cond.code y bytes maxL ret).before args s = true) (hy : y.cls ≠ "java/lang/invoke/MethodHandle" ∧ y.cls ≠ "java/lang/invoke/VarHandle")
    {argsL : List Value} (hlen : (parseMethodDescriptor y.desc).map (fun d => d.parameters.length) = some argsL.length) (hdg : decode cc pc = .ok (.invokestatic i, 3)) :
    ∃ (vm₁ : Vm) (mk : MethodId), s.WarmedH vm₁ ∧ Stand p l e R s m args below meth c (T.setVm vm₁) locs cells slots ∧ (T.setVm vm₁).methodNamed? y = some mk ∧
      ∀ target, (∀ acts, Steps p.tables e below (doInvoke e ((T.setVm vm₁).setTop (F0 m pc ls rest)) acts mk argsL.toArray).1 target) → Steps p.tables e below (T.setTop (F0 m pc ls (argsL.reverse ++ rest))) target := by
  subst hb
  obtain ⟨mk, hnamed⟩ := Cond.code_named hcode
  obtain ⟨methM, cM, hmethM, -, -, -, -, -, -, hsigM⟩ := Cond.code_spec hnamed hcode
  have hstatic : methM.isStatic = true := Cond.static_spec hnamed hmethM hstat
  obtain ⟨kP, hkP, -⟩ := className_of_methodNamed hnamed
  have hinitP : kP.init = .initialized := Cond.initialized_spec (findClass_of_methodNamed hnamed) hkP hinit
  have hlen' : argsL.length = methM.sig.parameters.length := by rw [hsigM] at hlen; exact (Option.some.inj hlen).symm
  obtain ⟨vm₁, X₁, hstep₁⟩ := X.invokestaticNest hexec hown hlink hnamed hmethM hstatic hkP hinitP hy (g := F0 m pc ls (argsL.reverse ++ rest)) rfl (argsL := argsL) (rest := rest) hlen' rfl hdg
  exact ⟨vm₁, mk, X₁.warmed, X₁, X₁.named hnamed, fun target h => hstep₁ _ fun acts => h acts⟩
theorem kx_enIN {T : State} (X : Stand p l e R s m args below meth c T locs cells slots) (hexec : p.tables.exec = Jvm.exec) (hb : c.code = cc) {host : String} {y : MethodName} {bytes : ByteArray} {maxL : Nat}
    (hown : s.vm.findClass own = some m.cls) (hy1 : y.name = "<init>") (hlink : (Cond.methodLinkNest own i y host).before args s = true) (hinst : (Cond.instanceMethod y).before args s = true)
    (hcode : (Cond.code y bytes maxL none).before args s = true) (hy : y.cls ≠ "java/lang/invoke/MethodHandle" ∧ y.cls ≠ "java/lang/invoke/VarHandle")
    {b : Addr} {argsL : List Value} (hlen : (parseMethodDescriptor y.desc).map (fun d => d.parameters.length) = some argsL.length) (hdg : decode cc pc = .ok (.invokespecial i, 3)) :
    ∃ (vm₁ : Vm) (mk : MethodId), s.WarmedH vm₁ ∧ Stand p l e R s m args below meth c (T.setVm vm₁) locs cells slots ∧ (T.setVm vm₁).methodNamed? y = some mk ∧
      ∀ target, (∀ acts, Steps p.tables e below (doInvoke e ((T.setVm vm₁).setTop (F0 m pc ls rest)) acts mk (Value.ref b :: argsL).toArray).1 target) → Steps p.tables e below (T.setTop (F0 m pc ls (argsL.reverse ++ .ref b :: rest))) target := by
  subst hb
  have hpl : e.platform.magicAccessors = ({} : Platform).magicAccessors := by rw [X.admits.platform]
  have hlen' : ∀ sig, parseMethodDescriptor y.desc = some sig → argsL.length = sig.parameters.length := fun sig h => by rw [h] at hlen; exact (Option.some.inj hlen).symm
  obtain ⟨mk, methM, cM, kP, vm₁, hnamed, hmethM, hcodeM, -, hlocalsM, -, hkP, -, hW₁, hstep₁⟩ := Steps.initColdArgsNest (e := e) X.here hexec X.warmed hpl hown hy1 hy hlink hinst hcode (f := F0 m pc ls (argsL.reverse ++ .ref b :: rest)) rfl hlen' rfl hdg
  have X₁ := X.noted hW₁
  exact ⟨vm₁, mk, X₁.warmed, X₁, X₁.named hnamed, fun target h => hstep₁ _ fun acts => h acts⟩
/-- the methods that are called -/
def kx_cs9 (l : Launch) (s0 : State) (D : va_G) (cA : Nat → ClassId) (C : kx_C) (d : Nat) : Prop := ∀ (n : Nat) (As : List kx_V) (h : kx_H) (r' : kx_R) (h' : kx_H), C n As h = some (r', h') → kx_fits (kx_pm n) As = true → hp_C h ≤ kx_cc → hp_U h ≤ kx_cs →
  ∀ (rm : Room) (ι : Nat → Nat), kx_need d rm → kx_cc ≤ rm.cells + hp_C h → kx_cs ≤ rm.slots + hp_U h → kx_Mt l s0 D cA (kx_mn n) rm ι As h r' h'
/-- a call site: what holds of the callee -/
def kx_cal (n : Nat) (bytes : ByteArray) (maxL : Nat) (ret : Option FieldType) (w : Nat) : Prop := Cond.code (kx_mn n) bytes maxL ret ∈ kx_WS ∧ Cond.initialized (kx_mn n).cls ∈ kx_WS ∧ maxL ≤ 13 ∧ ((kx_mn n).cls ≠ "java/lang/invoke/MethodHandle" ∧ (kx_mn n).cls ≠ "java/lang/invoke/VarHandle") ∧ (parseMethodDescriptor (kx_mn n).desc).map (fun d => d.parameters.length) = some w
theorem kx_fits_len {ps : List Nat} {vs : List kx_V} (h : kx_fits ps vs = true) : vs.length = ps.length := by
  induction ps generalizing vs with
  | nil => cases vs with
    | nil => rfl
    | cons v vs => cases h
  | cons p ps ih => cases vs with
    | nil => cases h
    | cons v vs =>
      unfold kx_fits at h
      rw [Bool.and_eq_true] at h
      rw [List.length_cons, List.length_cons, ih h.2]
theorem kx_core (G : kx_G p e R s m args meth c s0 D cA cc own nL h0) (hg : ∀ w ∈ kx_WS, kx_kp w) {C : kx_C} {d n : Nat} (hCS : kx_cs9 l s0 D cA C d) (hR : kx_need (d + 1) R) (hout : ∀ x ∈ c.exceptionTable.toList, covers x pc = false) {bytes : ByteArray} {maxL w : Nat} {ret : Option FieldType} (hcal : kx_cal n bytes maxL ret w) {As r9 : List kx_V} (hfit : kx_fits (kx_pm n) As = true) (hr9 : r9.length ≤ 4) {lv : kx_L} {h : kx_H} {q : kx_R × kx_H} (hq : C n As h = some q) {st0 : List Value} {ig : Instr} (hdg : decode cc pc = .ok (ig, 3))
    {ι : Nat → Nat} {H : Heap} (hP : kx_P s0 D cA ι h H) (hl : lv_has ls nL (kx_lc ι lv)) (hs1 : ∀ v ∈ As, kx_ok h v) (hs2 : ∀ v ∈ r9, kx_ok h v) (hv : ∀ q ∈ lv, kx_ok h q.2) (hS : va_S (kx_A s0 s) s.heap H locs) (hC : hp_C h0 + cells = hp_C h) (hU : hp_U h0 + slots = hp_U h) (hI : ∀ a, a < hp_X h0 → ι a = ι0 a) (hE : kx_le h0 h)
    (enter : ∀ T : State, T.heap = H → Stand p l e R s m args below meth c T locs cells slots → ∃ (vm₁ : Vm) (mk : MethodId), s.WarmedH vm₁ ∧ Stand p l e R s m args below meth c (T.setVm vm₁) locs cells slots ∧ (T.setVm vm₁).methodNamed? (kx_mn n) = some mk ∧
      ∀ target, (∀ acts, Steps p.tables e below (doInvoke e ((T.setVm vm₁).setTop (F0 m pc ls (r9.map (kx_cv ι)))) acts mk (As.map (kx_cv ι)).toArray).1 target) → Steps p.tables e below (T.setTop (F0 m pc ls st0)) target)
    (hk : kx_Sn p l e R s m args below meth c s0 D cA nL ι0 h0 rr hf (pc + 3) k) (hret : ∀ v, q.1 = .inl v → k lv (v.toList ++ r9) q.2 = some (rr, hf)) (hthr : ∀ e', q.1 = .inr e' → rr = .inr e' ∧ hf = q.2) :
    W p l e R s m args below meth c H locs cells slots (kx_Q s0 D cA below s ι0 h0 rr hf) (F0 m pc ls st0) := by
  obtain ⟨r', h'⟩ := q
  refine kx_wcall G hg hcal.1 hcal.2.1 hcal.2.2.1 (fun rm hn h1 h2 => hCS n As h r' h' hq hfit hE.2.2.1 hE.2.2.2 rm ι hn h1 h2) hR (by have := G.2.2.2.2.2.2.2.1; have := hE.2.2.1; omega) (by have := G.2.2.2.2.2.2.2.2; have := hE.2.2.2; omega) hP hS hC hU hI hE hs1 (by have := kx_w2 ι r9; omega) hl.1 hdg enter (fun v ι' H' locs' cells' slots' e1 p1 a1 s1 c1 u1 x1 i1 l1 l2 ok1 => ?_) (fun e' he => hthr e' he) hout
  have up : ∀ v9, kx_ok h v9 → kx_ok h' v9 := fun v9 ho => by
    rcases v9 with x | x | ⟨t9, o9⟩
    · trivial
    · trivial
    · exact fun a ha => l1.2.1 a t9 (ho a ha)
  have h3 := hk lv (v.toList ++ r9) h' (hret v e1) ι' H' locs' cells' slots' ls p1 a1 (by rw [kx_lc_ext hv x1]; exact hl) (fun w hw => by
    rcases List.mem_append.mp hw with z | z
    · exact ok1 w (by cases v with
        | none => cases z
        | some y => rw [List.mem_singleton.mp z])
    · exact up w (hs2 w z)) (fun q hq => up _ (hv q hq)) s1 c1 u1 i1 l2
  rw [List.map_append, kx_st_ext hs2 x1] at h3
  have e4 : (v.map (kx_cv ι')).toList = v.toList.map (kx_cv ι') := by cases v <;> rfl
  rw [e4]
  exact h3
theorem kx_and {a b : Bool} (h : (a && b) = true) : a = true ∧ b = true := by
  cases a <;> cases b <;> first | exact ⟨rfl, rfl⟩ | cases h
theorem kx_ao_spec {t : Nat} {ps : List Nat} {st : List kx_V} {K : List kx_V → List kx_V → kx_O} {z : kx_R × kx_H} (hz : kx_ao t ps st K = some z) :
    ∃ (a : Nat) (r : List kx_V), st = st.take ps.length ++ .inr (.inr (t, some a)) :: r ∧ kx_fits ps (st.take ps.length).reverse = true ∧ r.length ≤ 4 ∧ K (.inr (.inr (t, some a)) :: (st.take ps.length).reverse) r = some z := by
  unfold kx_ao at hz
  cases h1 : kx_fits ps (st.take ps.length).reverse with
  | false => rw [h1] at hz; cases hz
  | true =>
    rw [h1] at hz
    simp only [cond_true] at hz
    split at hz
    · rename_i x r hd
      obtain ⟨t9, o9⟩ := x
      cases h2 : (Nat.beq t9 t && Nat.ble r.length 4) with
      | false => rw [h2] at hz; cases hz
      | true =>
        rw [h2] at hz
        obtain ⟨h3, h4⟩ := kx_and h2
        have e9 : t9 = t := Nat.eq_of_beq_eq_true h3
        subst e9
        cases o9 with
        | none => cases hz
        | some a => exact ⟨a, r, by rw [← hd, List.take_append_drop], rfl, Nat.le_of_ble_eq_true h4, hz⟩
    · cases hz
theorem kx_as_spec {ps : List Nat} {st : List kx_V} {K : List kx_V → List kx_V → kx_O} {z : kx_R × kx_H} (hz : kx_as ps st K = some z) :
    kx_fits ps (st.take ps.length).reverse = true ∧ (st.drop ps.length).length ≤ 4 ∧ K (st.take ps.length).reverse (st.drop ps.length) = some z := by
  unfold kx_as at hz
  cases h2 : (kx_fits ps (st.take ps.length).reverse && Nat.ble (st.drop ps.length).length 4) with
  | false => rw [h2] at hz; cases hz
  | true =>
    rw [h2] at hz
    obtain ⟨h3, h4⟩ := kx_and h2
    exact ⟨h3, Nat.le_of_ble_eq_true h4, hz⟩
theorem kx_bv_spec {o : kx_O} {K : kx_H → kx_O} {z : kx_R × kx_H} (hz : kx_bv o K = some z) : ∃ q, o = some q ∧ (∀ v, q.1 = .inl v → v = none ∧ K q.2 = some z) ∧ ∀ e', q.1 = .inr e' → z = (.inr e', q.2) := by
  cases o with
  | none => cases hz
  | some q =>
    obtain ⟨r', h'⟩ := q
    refine ⟨_, rfl, ?_⟩
    rcases r' with v | e'
    · cases v with
      | none => exact ⟨fun v hv => by cases hv; exact ⟨rfl, hz⟩, fun e' he => by cases he⟩
      | some v => cases hz
    · cases hz
      exact ⟨fun v hv => (by cases hv), fun e9 he => (by cases he; rfl)⟩
theorem kx_bi_spec {o : kx_O} {K : Int32 → kx_H → kx_O} {z : kx_R × kx_H} (hz : kx_bi o K = some z) : ∃ q, o = some q ∧ (∀ v, q.1 = .inl v → ∃ x, v = some (.inl x) ∧ K x q.2 = some z) ∧ ∀ e', q.1 = .inr e' → z = (.inr e', q.2) := by
  cases o with
  | none => cases hz
  | some q =>
    obtain ⟨r', h'⟩ := q
    refine ⟨_, rfl, ?_⟩
    rcases r' with v | e'
    · rcases v with _ | (v | v | v)
      · cases hz
      · exact ⟨fun v9 hv => by cases hv; exact ⟨v, rfl, hz⟩, fun e' he => by cases he⟩
      · cases hz
      · cases hz
    · cases hz
      exact ⟨fun v hv => (by cases hv), fun e9 he => (by cases he; rfl)⟩
theorem kx_bl_spec {o : kx_O} {K : Int64 → kx_H → kx_O} {z : kx_R × kx_H} (hz : kx_bl o K = some z) : ∃ q, o = some q ∧ (∀ v, q.1 = .inl v → ∃ x, v = some (.inr (.inl x)) ∧ K x q.2 = some z) ∧ ∀ e', q.1 = .inr e' → z = (.inr e', q.2) := by
  cases o with
  | none => cases hz
  | some q =>
    obtain ⟨r', h'⟩ := q
    refine ⟨_, rfl, ?_⟩
    rcases r' with v | e'
    · rcases v with _ | (v | v | v)
      · cases hz
      · cases hz
      · exact ⟨fun v9 hv => by cases hv; exact ⟨v, rfl, hz⟩, fun e' he => by cases he⟩
      · cases hz
    · cases hz
      exact ⟨fun v hv => (by cases hv), fun e9 he => (by cases he; rfl)⟩
theorem kx_br_spec {c9 : Nat} {o : kx_O} {K : Option Nat → kx_H → kx_O} {z : kx_R × kx_H} (hz : kx_br c9 o K = some z) : ∃ q, o = some q ∧ (∀ v, q.1 = .inl v → ∃ x, v = some (.inr (.inr (c9, x))) ∧ K x q.2 = some z) ∧ ∀ e', q.1 = .inr e' → z = (.inr e', q.2) := by
  cases o with
  | none => cases hz
  | some q =>
    obtain ⟨r', h'⟩ := q
    refine ⟨_, rfl, ?_⟩
    rcases r' with v | e'
    · rcases v with _ | (v | v | v)
      · cases hz
      · cases hz
      · cases hz
      · obtain ⟨t8, o8⟩ := v
        cases h8 : Nat.beq t8 c9 with
        | false => simp [kx_br, h8] at hz
        | true =>
          have e8 : t8 = c9 := Nat.eq_of_beq_eq_true h8
          subst e8
          have hz2 : K o8 h' = some z := by simpa [kx_br, h8] using hz
          exact ⟨fun v9 hv => by cases hv; exact ⟨o8, rfl, hz2⟩, fun e' he => by cases he⟩
    · cases hz
      exact ⟨fun v hv => (by cases hv), fun e9 he => (by cases he; rfl)⟩
theorem kx_fits2 {t : Nat} {ps : List Nat} {a : Nat} {vs : List kx_V} (h : kx_fits ps vs = true) : kx_fits ((t + 2) :: ps) (.inr (.inr (t, some a)) :: vs) = true := by
  show (kx_fit (t + 2) (.inr (.inr (t, some a))) && kx_fits ps vs) = true
  rw [h]
  show (Nat.beq (t + 2) (t + 2) && true) = true
  rw [Nat.beq_refl]
  rfl
theorem kx_s_Vv (G : kx_G p e R s m args meth c s0 D cA cc own nL h0) (hg : ∀ w ∈ kx_WS, kx_kp w) {C : kx_C} {d n : Nat} (hCS : kx_cs9 l s0 D cA C d) (hR : kx_need (d + 1) R) (hout : ∀ x ∈ c.exceptionTable.toList, covers x pc = false) {bytes : ByteArray} {maxL : Nat} {ret : Option FieldType} {ps : List Nat} (hcal : kx_cal n bytes maxL ret ps.length) (hpm : kx_pm n = (t + 2) :: ps) (h1 : Cond.methodLink own i (kx_mn n) ∈ kx_WS) (h2 : Cond.instanceMethod (kx_mn n) ∈ kx_WS) (h3 : Cond.selects r.1 (kx_mn n) (kx_mn n) ∈ kx_WS) (hc : kx_cl[t]? = some r) (h98 : t < 98) (hd : decode cc pc = .ok (.invokevirtual i, 3)) (hk : kx_Sn p l e R s m args below meth c s0 D cA nL ι0 h0 rr hf (pc + 3) k) : kx_Sn p l e R s m args below meth c s0 D cA nL ι0 h0 rr hf pc (kx_Vv C n t ps k) := by
  intro lv st h hF
  unfold kx_Vv at hF
  obtain ⟨a, r9, hst, hfit, hr9, hF⟩ := kx_ao_spec hF
  obtain ⟨q, hq, hret, hthr⟩ := kx_bv_spec hF
  intro ι H locs cells slots ls hP hA hl hs hv hS hC hU hI hE
  have hts := G.2.2.2.2.2.1
  have hs' := hs
  rw [hst] at hs'
  have hta : hp_T h a = some t := hs' (.inr (.inr (t, some a))) (List.mem_append_right _ List.mem_cons_self) a rfl
  have hlen : (st.take ps.length).reverse.length = ps.length := kx_fits_len hfit
  have hmap : st.map (kx_cv ι) = ((st.take ps.length).reverse.map (kx_cv ι)).reverse ++ .ref (ι a) :: r9.map (kx_cv ι) := by
    conv => lhs; rw [hst]
    rw [List.map_append, List.map_cons, List.map_reverse, List.reverse_reverse]
    rfl
  rw [hmap]
  refine kx_core G hg hCS hR hout hcal (As := .inr (.inr (t, some a)) :: (st.take ps.length).reverse) (r9 := r9) (by rw [hpm]; exact kx_fits2 hfit) hr9 hq hd hP hl (fun v hv9 => ?_) (fun v hv9 => hs' v (List.mem_append_right _ (List.mem_cons_of_mem _ hv9))) hv hS hC hU hI hE (fun T hT X => by
      obtain ⟨-, r', hr', cellB, b1, b2, b3, -⟩ := (hP.1 a t hta).2.2.1 h98
      cases hc.symm.trans hr'
      have hK := (G.2.2.2.2.2.2.1.2.1.1 t r hc).2
      exact kx_enV X G.1 G.2.1 (C := r.1) G.2.2.1 (hts _ h1) (hts _ h2) (hts _ h3) (hts _ hcal.1) hcal.2.2.2.1 (by rw [hT]; exact b1) (by rw [b3]; rfl) (by rw [b2]; exact hK.1) (argsL := (st.take ps.length).reverse.map (kx_cv ι)) (by rw [List.length_map, hlen]; exact hcal.2.2.2.2) hd) hk (fun v hv => by obtain ⟨rfl, z⟩ := hret v hv; exact z) (fun e' he => by have z := hthr e' he; cases z; exact ⟨rfl, rfl⟩)
  rcases List.mem_cons.mp hv9 with rfl | hv9
  · exact fun b hb => by cases hb; exact hta
  · exact hs v (List.mem_of_mem_take (List.mem_reverse.mp hv9))
theorem kx_s_VNv (G : kx_G p e R s m args meth c s0 D cA cc own nL h0) (hg : ∀ w ∈ kx_WS, kx_kp w) {C : kx_C} {d n : Nat} (hCS : kx_cs9 l s0 D cA C d) (hR : kx_need (d + 1) R) (hout : ∀ x ∈ c.exceptionTable.toList, covers x pc = false) {bytes : ByteArray} {maxL : Nat} {ret : Option FieldType} {ps : List Nat} (hcal : kx_cal n bytes maxL ret ps.length) (hpm : kx_pm n = (t + 2) :: ps) {host : String} (h1 : Cond.methodLinkNest own i (kx_mn n) host ∈ kx_WS) (h2 : Cond.instanceMethod (kx_mn n) ∈ kx_WS) (h3 : Cond.selects r.1 (kx_mn n) (kx_mn n) ∈ kx_WS) (hc : kx_cl[t]? = some r) (h98 : t < 98) (hd : decode cc pc = .ok (.invokevirtual i, 3)) (hk : kx_Sn p l e R s m args below meth c s0 D cA nL ι0 h0 rr hf (pc + 3) k) : kx_Sn p l e R s m args below meth c s0 D cA nL ι0 h0 rr hf pc (kx_Vv C n t ps k) := by
  intro lv st h hF
  unfold kx_Vv at hF
  obtain ⟨a, r9, hst, hfit, hr9, hF⟩ := kx_ao_spec hF
  obtain ⟨q, hq, hret, hthr⟩ := kx_bv_spec hF
  intro ι H locs cells slots ls hP hA hl hs hv hS hC hU hI hE
  have hts := G.2.2.2.2.2.1
  have hs' := hs
  rw [hst] at hs'
  have hta : hp_T h a = some t := hs' (.inr (.inr (t, some a))) (List.mem_append_right _ List.mem_cons_self) a rfl
  have hlen : (st.take ps.length).reverse.length = ps.length := kx_fits_len hfit
  have hmap : st.map (kx_cv ι) = ((st.take ps.length).reverse.map (kx_cv ι)).reverse ++ .ref (ι a) :: r9.map (kx_cv ι) := by
    conv => lhs; rw [hst]
    rw [List.map_append, List.map_cons, List.map_reverse, List.reverse_reverse]
    rfl
  rw [hmap]
  refine kx_core G hg hCS hR hout hcal (As := .inr (.inr (t, some a)) :: (st.take ps.length).reverse) (r9 := r9) (by rw [hpm]; exact kx_fits2 hfit) hr9 hq hd hP hl (fun v hv9 => ?_) (fun v hv9 => hs' v (List.mem_append_right _ (List.mem_cons_of_mem _ hv9))) hv hS hC hU hI hE (fun T hT X => by
      obtain ⟨-, r', hr', cellB, b1, b2, b3, -⟩ := (hP.1 a t hta).2.2.1 h98
      cases hc.symm.trans hr'
      have hK := (G.2.2.2.2.2.2.1.2.1.1 t r hc).2
      exact kx_enVN X G.1 G.2.1 (C := r.1) G.2.2.1 (hts _ h1) (hts _ h2) (hts _ h3) (hts _ hcal.1) hcal.2.2.2.1 (by rw [hT]; exact b1) (by rw [b3]; rfl) (by rw [b2]; exact hK.1) (argsL := (st.take ps.length).reverse.map (kx_cv ι)) (by rw [List.length_map, hlen]; exact hcal.2.2.2.2) hd) hk (fun v hv => by obtain ⟨rfl, z⟩ := hret v hv; exact z) (fun e' he => by have z := hthr e' he; cases z; exact ⟨rfl, rfl⟩)
  rcases List.mem_cons.mp hv9 with rfl | hv9
  · exact fun b hb => by cases hb; exact hta
  · exact hs v (List.mem_of_mem_take (List.mem_reverse.mp hv9))
theorem kx_s_Iv (G : kx_G p e R s m args meth c s0 D cA cc own nL h0) (hg : ∀ w ∈ kx_WS, kx_kp w) {C : kx_C} {d n : Nat} (hCS : kx_cs9 l s0 D cA C d) (hR : kx_need (d + 1) R) (hout : ∀ x ∈ c.exceptionTable.toList, covers x pc = false) {bytes : ByteArray} {maxL : Nat} {ret : Option FieldType} {ps : List Nat} (hcal : kx_cal n bytes maxL ret ps.length) (hpm : kx_pm n = (t + 2) :: ps) (h1 : Cond.methodLink own i (kx_mn n) ∈ kx_WS) (h2 : Cond.instanceMethod (kx_mn n) ∈ kx_WS) (h3 : (kx_mn n).name = "<init>") (hrn : ret = none) (hd : decode cc pc = .ok (.invokespecial i, 3)) (hk : kx_Sn p l e R s m args below meth c s0 D cA nL ι0 h0 rr hf (pc + 3) k) : kx_Sn p l e R s m args below meth c s0 D cA nL ι0 h0 rr hf pc (kx_Vv C n t ps k) := by
  subst hrn
  intro lv st h hF
  unfold kx_Vv at hF
  obtain ⟨a, r9, hst, hfit, hr9, hF⟩ := kx_ao_spec hF
  obtain ⟨q, hq, hret, hthr⟩ := kx_bv_spec hF
  intro ι H locs cells slots ls hP hA hl hs hv hS hC hU hI hE
  have hts := G.2.2.2.2.2.1
  have hs' := hs
  rw [hst] at hs'
  have hta : hp_T h a = some t := hs' (.inr (.inr (t, some a))) (List.mem_append_right _ List.mem_cons_self) a rfl
  have hlen : (st.take ps.length).reverse.length = ps.length := kx_fits_len hfit
  have hmap : st.map (kx_cv ι) = ((st.take ps.length).reverse.map (kx_cv ι)).reverse ++ .ref (ι a) :: r9.map (kx_cv ι) := by
    conv => lhs; rw [hst]
    rw [List.map_append, List.map_cons, List.map_reverse, List.reverse_reverse]
    rfl
  rw [hmap]
  refine kx_core G hg hCS hR hout hcal (As := .inr (.inr (t, some a)) :: (st.take ps.length).reverse) (r9 := r9) (by rw [hpm]; exact kx_fits2 hfit) hr9 hq hd hP hl (fun v hv9 => ?_) (fun v hv9 => hs' v (List.mem_append_right _ (List.mem_cons_of_mem _ hv9))) hv hS hC hU hI hE (fun T hT X => kx_enI X G.1 G.2.1 G.2.2.1 h3 (hts _ h1) (hts _ h2) (hts _ hcal.1) hcal.2.2.2.1 (argsL := (st.take ps.length).reverse.map (kx_cv ι)) (by rw [List.length_map, hlen]; exact hcal.2.2.2.2) hd) hk (fun v hv => by obtain ⟨rfl, z⟩ := hret v hv; exact z) (fun e' he => by have z := hthr e' he; cases z; exact ⟨rfl, rfl⟩)
  rcases List.mem_cons.mp hv9 with rfl | hv9
  · exact fun b hb => by cases hb; exact hta
  · exact hs v (List.mem_of_mem_take (List.mem_reverse.mp hv9))
theorem kx_s_INv (G : kx_G p e R s m args meth c s0 D cA cc own nL h0) (hg : ∀ w ∈ kx_WS, kx_kp w) {C : kx_C} {d n : Nat} (hCS : kx_cs9 l s0 D cA C d) (hR : kx_need (d + 1) R) (hout : ∀ x ∈ c.exceptionTable.toList, covers x pc = false) {bytes : ByteArray} {maxL : Nat} {ret : Option FieldType} {ps : List Nat} (hcal : kx_cal n bytes maxL ret ps.length) (hpm : kx_pm n = (t + 2) :: ps) {host : String} (h1 : Cond.methodLinkNest own i (kx_mn n) host ∈ kx_WS) (h2 : Cond.instanceMethod (kx_mn n) ∈ kx_WS) (h3 : (kx_mn n).name = "<init>") (hrn : ret = none) (hd : decode cc pc = .ok (.invokespecial i, 3)) (hk : kx_Sn p l e R s m args below meth c s0 D cA nL ι0 h0 rr hf (pc + 3) k) : kx_Sn p l e R s m args below meth c s0 D cA nL ι0 h0 rr hf pc (kx_Vv C n t ps k) := by
  subst hrn
  intro lv st h hF
  unfold kx_Vv at hF
  obtain ⟨a, r9, hst, hfit, hr9, hF⟩ := kx_ao_spec hF
  obtain ⟨q, hq, hret, hthr⟩ := kx_bv_spec hF
  intro ι H locs cells slots ls hP hA hl hs hv hS hC hU hI hE
  have hts := G.2.2.2.2.2.1
  have hs' := hs
  rw [hst] at hs'
  have hta : hp_T h a = some t := hs' (.inr (.inr (t, some a))) (List.mem_append_right _ List.mem_cons_self) a rfl
  have hlen : (st.take ps.length).reverse.length = ps.length := kx_fits_len hfit
  have hmap : st.map (kx_cv ι) = ((st.take ps.length).reverse.map (kx_cv ι)).reverse ++ .ref (ι a) :: r9.map (kx_cv ι) := by
    conv => lhs; rw [hst]
    rw [List.map_append, List.map_cons, List.map_reverse, List.reverse_reverse]
    rfl
  rw [hmap]
  refine kx_core G hg hCS hR hout hcal (As := .inr (.inr (t, some a)) :: (st.take ps.length).reverse) (r9 := r9) (by rw [hpm]; exact kx_fits2 hfit) hr9 hq hd hP hl (fun v hv9 => ?_) (fun v hv9 => hs' v (List.mem_append_right _ (List.mem_cons_of_mem _ hv9))) hv hS hC hU hI hE (fun T hT X => kx_enIN X G.1 G.2.1 G.2.2.1 h3 (hts _ h1) (hts _ h2) (hts _ hcal.1) hcal.2.2.2.1 (argsL := (st.take ps.length).reverse.map (kx_cv ι)) (by rw [List.length_map, hlen]; exact hcal.2.2.2.2) hd) hk (fun v hv => by obtain ⟨rfl, z⟩ := hret v hv; exact z) (fun e' he => by have z := hthr e' he; cases z; exact ⟨rfl, rfl⟩)
  rcases List.mem_cons.mp hv9 with rfl | hv9
  · exact fun b hb => by cases hb; exact hta
  · exact hs v (List.mem_of_mem_take (List.mem_reverse.mp hv9))
theorem kx_s_Sv (G : kx_G p e R s m args meth c s0 D cA cc own nL h0) (hg : ∀ w ∈ kx_WS, kx_kp w) {C : kx_C} {d n : Nat} (hCS : kx_cs9 l s0 D cA C d) (hR : kx_need (d + 1) R) (hout : ∀ x ∈ c.exceptionTable.toList, covers x pc = false) {bytes : ByteArray} {maxL : Nat} {ret : Option FieldType} {ps : List Nat} (hcal : kx_cal n bytes maxL ret ps.length) (hpm : kx_pm n = ps) (h1 : Cond.methodLink own i (kx_mn n) ∈ kx_WS) (h2 : Cond.static (kx_mn n) ∈ kx_WS) (hd : decode cc pc = .ok (.invokestatic i, 3)) (hk : kx_Sn p l e R s m args below meth c s0 D cA nL ι0 h0 rr hf (pc + 3) k) : kx_Sn p l e R s m args below meth c s0 D cA nL ι0 h0 rr hf pc (kx_Sv C n ps k) := by
  intro lv st h hF
  unfold kx_Sv at hF
  obtain ⟨hfit, hr9, hF⟩ := kx_as_spec hF
  obtain ⟨q, hq, hret, hthr⟩ := kx_bv_spec hF
  intro ι H locs cells slots ls hP hA hl hs hv hS hC hU hI hE
  have hts := G.2.2.2.2.2.1
  have hlen : (st.take ps.length).reverse.length = ps.length := kx_fits_len hfit
  have hmap : st.map (kx_cv ι) = ((st.take ps.length).reverse.map (kx_cv ι)).reverse ++ (st.drop ps.length).map (kx_cv ι) := by
    rw [List.map_reverse, List.reverse_reverse, ← List.map_append, List.take_append_drop]
  rw [hmap]
  exact kx_core G hg hCS hR hout hcal (As := (st.take ps.length).reverse) (r9 := st.drop ps.length) (by rw [hpm]; exact hfit) hr9 hq hd hP hl (fun v hv9 => hs v (List.mem_of_mem_take (List.mem_reverse.mp hv9))) (fun v hv9 => hs v (List.mem_of_mem_drop hv9)) hv hS hC hU hI hE (fun T hT X => kx_enS X G.1 G.2.1 G.2.2.1 (hts _ h1) (hts _ h2) (hts _ hcal.2.1) (hts _ hcal.1) hcal.2.2.2.1 (argsL := (st.take ps.length).reverse.map (kx_cv ι)) (by rw [List.length_map, hlen]; exact hcal.2.2.2.2) hd) hk (fun v hv => by obtain ⟨rfl, z⟩ := hret v hv; exact z) (fun e' he => by have z := hthr e' he; cases z; exact ⟨rfl, rfl⟩)
theorem kx_s_SNv (G : kx_G p e R s m args meth c s0 D cA cc own nL h0) (hg : ∀ w ∈ kx_WS, kx_kp w) {C : kx_C} {d n : Nat} (hCS : kx_cs9 l s0 D cA C d) (hR : kx_need (d + 1) R) (hout : ∀ x ∈ c.exceptionTable.toList, covers x pc = false) {bytes : ByteArray} {maxL : Nat} {ret : Option FieldType} {ps : List Nat} (hcal : kx_cal n bytes maxL ret ps.length) (hpm : kx_pm n = ps) {host : String} (h1 : Cond.methodLinkNest own i (kx_mn n) host ∈ kx_WS) (h2 : Cond.static (kx_mn n) ∈ kx_WS) (hd : decode cc pc = .ok (.invokestatic i, 3)) (hk : kx_Sn p l e R s m args below meth c s0 D cA nL ι0 h0 rr hf (pc + 3) k) : kx_Sn p l e R s m args below meth c s0 D cA nL ι0 h0 rr hf pc (kx_Sv C n ps k) := by
  intro lv st h hF
  unfold kx_Sv at hF
  obtain ⟨hfit, hr9, hF⟩ := kx_as_spec hF
  obtain ⟨q, hq, hret, hthr⟩ := kx_bv_spec hF
  intro ι H locs cells slots ls hP hA hl hs hv hS hC hU hI hE
  have hts := G.2.2.2.2.2.1
  have hlen : (st.take ps.length).reverse.length = ps.length := kx_fits_len hfit
  have hmap : st.map (kx_cv ι) = ((st.take ps.length).reverse.map (kx_cv ι)).reverse ++ (st.drop ps.length).map (kx_cv ι) := by
    rw [List.map_reverse, List.reverse_reverse, ← List.map_append, List.take_append_drop]
  rw [hmap]
  exact kx_core G hg hCS hR hout hcal (As := (st.take ps.length).reverse) (r9 := st.drop ps.length) (by rw [hpm]; exact hfit) hr9 hq hd hP hl (fun v hv9 => hs v (List.mem_of_mem_take (List.mem_reverse.mp hv9))) (fun v hv9 => hs v (List.mem_of_mem_drop hv9)) hv hS hC hU hI hE (fun T hT X => kx_enSN X G.1 G.2.1 G.2.2.1 (hts _ h1) (hts _ h2) (hts _ hcal.2.1) (hts _ hcal.1) hcal.2.2.2.1 (argsL := (st.take ps.length).reverse.map (kx_cv ι)) (by rw [List.length_map, hlen]; exact hcal.2.2.2.2) hd) hk (fun v hv => by obtain ⟨rfl, z⟩ := hret v hv; exact z) (fun e' he => by have z := hthr e' he; cases z; exact ⟨rfl, rfl⟩)
theorem kx_s_Vi (G : kx_G p e R s m args meth c s0 D cA cc own nL h0) (hg : ∀ w ∈ kx_WS, kx_kp w) {C : kx_C} {d n : Nat} (hCS : kx_cs9 l s0 D cA C d) (hR : kx_need (d + 1) R) (hout : ∀ x ∈ c.exceptionTable.toList, covers x pc = false) {bytes : ByteArray} {maxL : Nat} {ret : Option FieldType} {ps : List Nat} (hcal : kx_cal n bytes maxL ret ps.length) (hpm : kx_pm n = (t + 2) :: ps) (h1 : Cond.methodLink own i (kx_mn n) ∈ kx_WS) (h2 : Cond.instanceMethod (kx_mn n) ∈ kx_WS) (h3 : Cond.selects r.1 (kx_mn n) (kx_mn n) ∈ kx_WS) (hc : kx_cl[t]? = some r) (h98 : t < 98) (hd : decode cc pc = .ok (.invokevirtual i, 3)) (hk : kx_Sn p l e R s m args below meth c s0 D cA nL ι0 h0 rr hf (pc + 3) k) : kx_Sn p l e R s m args below meth c s0 D cA nL ι0 h0 rr hf pc (kx_Vi C n t ps k) := by
  intro lv st h hF
  unfold kx_Vi at hF
  obtain ⟨a, r9, hst, hfit, hr9, hF⟩ := kx_ao_spec hF
  obtain ⟨q, hq, hret, hthr⟩ := kx_bi_spec hF
  intro ι H locs cells slots ls hP hA hl hs hv hS hC hU hI hE
  have hts := G.2.2.2.2.2.1
  have hs' := hs
  rw [hst] at hs'
  have hta : hp_T h a = some t := hs' (.inr (.inr (t, some a))) (List.mem_append_right _ List.mem_cons_self) a rfl
  have hlen : (st.take ps.length).reverse.length = ps.length := kx_fits_len hfit
  have hmap : st.map (kx_cv ι) = ((st.take ps.length).reverse.map (kx_cv ι)).reverse ++ .ref (ι a) :: r9.map (kx_cv ι) := by
    conv => lhs; rw [hst]
    rw [List.map_append, List.map_cons, List.map_reverse, List.reverse_reverse]
    rfl
  rw [hmap]
  refine kx_core G hg hCS hR hout hcal (As := .inr (.inr (t, some a)) :: (st.take ps.length).reverse) (r9 := r9) (by rw [hpm]; exact kx_fits2 hfit) hr9 hq hd hP hl (fun v hv9 => ?_) (fun v hv9 => hs' v (List.mem_append_right _ (List.mem_cons_of_mem _ hv9))) hv hS hC hU hI hE (fun T hT X => by
      obtain ⟨-, r', hr', cellB, b1, b2, b3, -⟩ := (hP.1 a t hta).2.2.1 h98
      cases hc.symm.trans hr'
      have hK := (G.2.2.2.2.2.2.1.2.1.1 t r hc).2
      exact kx_enV X G.1 G.2.1 (C := r.1) G.2.2.1 (hts _ h1) (hts _ h2) (hts _ h3) (hts _ hcal.1) hcal.2.2.2.1 (by rw [hT]; exact b1) (by rw [b3]; rfl) (by rw [b2]; exact hK.1) (argsL := (st.take ps.length).reverse.map (kx_cv ι)) (by rw [List.length_map, hlen]; exact hcal.2.2.2.2) hd) hk (fun v hv => by obtain ⟨x, rfl, z⟩ := hret v hv; exact z) (fun e' he => by have z := hthr e' he; cases z; exact ⟨rfl, rfl⟩)
  rcases List.mem_cons.mp hv9 with rfl | hv9
  · exact fun b hb => by cases hb; exact hta
  · exact hs v (List.mem_of_mem_take (List.mem_reverse.mp hv9))
theorem kx_s_VNi (G : kx_G p e R s m args meth c s0 D cA cc own nL h0) (hg : ∀ w ∈ kx_WS, kx_kp w) {C : kx_C} {d n : Nat} (hCS : kx_cs9 l s0 D cA C d) (hR : kx_need (d + 1) R) (hout : ∀ x ∈ c.exceptionTable.toList, covers x pc = false) {bytes : ByteArray} {maxL : Nat} {ret : Option FieldType} {ps : List Nat} (hcal : kx_cal n bytes maxL ret ps.length) (hpm : kx_pm n = (t + 2) :: ps) {host : String} (h1 : Cond.methodLinkNest own i (kx_mn n) host ∈ kx_WS) (h2 : Cond.instanceMethod (kx_mn n) ∈ kx_WS) (h3 : Cond.selects r.1 (kx_mn n) (kx_mn n) ∈ kx_WS) (hc : kx_cl[t]? = some r) (h98 : t < 98) (hd : decode cc pc = .ok (.invokevirtual i, 3)) (hk : kx_Sn p l e R s m args below meth c s0 D cA nL ι0 h0 rr hf (pc + 3) k) : kx_Sn p l e R s m args below meth c s0 D cA nL ι0 h0 rr hf pc (kx_Vi C n t ps k) := by
  intro lv st h hF
  unfold kx_Vi at hF
  obtain ⟨a, r9, hst, hfit, hr9, hF⟩ := kx_ao_spec hF
  obtain ⟨q, hq, hret, hthr⟩ := kx_bi_spec hF
  intro ι H locs cells slots ls hP hA hl hs hv hS hC hU hI hE
  have hts := G.2.2.2.2.2.1
  have hs' := hs
  rw [hst] at hs'
  have hta : hp_T h a = some t := hs' (.inr (.inr (t, some a))) (List.mem_append_right _ List.mem_cons_self) a rfl
  have hlen : (st.take ps.length).reverse.length = ps.length := kx_fits_len hfit
  have hmap : st.map (kx_cv ι) = ((st.take ps.length).reverse.map (kx_cv ι)).reverse ++ .ref (ι a) :: r9.map (kx_cv ι) := by
    conv => lhs; rw [hst]
    rw [List.map_append, List.map_cons, List.map_reverse, List.reverse_reverse]
    rfl
  rw [hmap]
  refine kx_core G hg hCS hR hout hcal (As := .inr (.inr (t, some a)) :: (st.take ps.length).reverse) (r9 := r9) (by rw [hpm]; exact kx_fits2 hfit) hr9 hq hd hP hl (fun v hv9 => ?_) (fun v hv9 => hs' v (List.mem_append_right _ (List.mem_cons_of_mem _ hv9))) hv hS hC hU hI hE (fun T hT X => by
      obtain ⟨-, r', hr', cellB, b1, b2, b3, -⟩ := (hP.1 a t hta).2.2.1 h98
      cases hc.symm.trans hr'
      have hK := (G.2.2.2.2.2.2.1.2.1.1 t r hc).2
      exact kx_enVN X G.1 G.2.1 (C := r.1) G.2.2.1 (hts _ h1) (hts _ h2) (hts _ h3) (hts _ hcal.1) hcal.2.2.2.1 (by rw [hT]; exact b1) (by rw [b3]; rfl) (by rw [b2]; exact hK.1) (argsL := (st.take ps.length).reverse.map (kx_cv ι)) (by rw [List.length_map, hlen]; exact hcal.2.2.2.2) hd) hk (fun v hv => by obtain ⟨x, rfl, z⟩ := hret v hv; exact z) (fun e' he => by have z := hthr e' he; cases z; exact ⟨rfl, rfl⟩)
  rcases List.mem_cons.mp hv9 with rfl | hv9
  · exact fun b hb => by cases hb; exact hta
  · exact hs v (List.mem_of_mem_take (List.mem_reverse.mp hv9))
theorem kx_s_Si (G : kx_G p e R s m args meth c s0 D cA cc own nL h0) (hg : ∀ w ∈ kx_WS, kx_kp w) {C : kx_C} {d n : Nat} (hCS : kx_cs9 l s0 D cA C d) (hR : kx_need (d + 1) R) (hout : ∀ x ∈ c.exceptionTable.toList, covers x pc = false) {bytes : ByteArray} {maxL : Nat} {ret : Option FieldType} {ps : List Nat} (hcal : kx_cal n bytes maxL ret ps.length) (hpm : kx_pm n = ps) (h1 : Cond.methodLink own i (kx_mn n) ∈ kx_WS) (h2 : Cond.static (kx_mn n) ∈ kx_WS) (hd : decode cc pc = .ok (.invokestatic i, 3)) (hk : kx_Sn p l e R s m args below meth c s0 D cA nL ι0 h0 rr hf (pc + 3) k) : kx_Sn p l e R s m args below meth c s0 D cA nL ι0 h0 rr hf pc (kx_Si C n ps k) := by
  intro lv st h hF
  unfold kx_Si at hF
  obtain ⟨hfit, hr9, hF⟩ := kx_as_spec hF
  obtain ⟨q, hq, hret, hthr⟩ := kx_bi_spec hF
  intro ι H locs cells slots ls hP hA hl hs hv hS hC hU hI hE
  have hts := G.2.2.2.2.2.1
  have hlen : (st.take ps.length).reverse.length = ps.length := kx_fits_len hfit
  have hmap : st.map (kx_cv ι) = ((st.take ps.length).reverse.map (kx_cv ι)).reverse ++ (st.drop ps.length).map (kx_cv ι) := by
    rw [List.map_reverse, List.reverse_reverse, ← List.map_append, List.take_append_drop]
  rw [hmap]
  exact kx_core G hg hCS hR hout hcal (As := (st.take ps.length).reverse) (r9 := st.drop ps.length) (by rw [hpm]; exact hfit) hr9 hq hd hP hl (fun v hv9 => hs v (List.mem_of_mem_take (List.mem_reverse.mp hv9))) (fun v hv9 => hs v (List.mem_of_mem_drop hv9)) hv hS hC hU hI hE (fun T hT X => kx_enS X G.1 G.2.1 G.2.2.1 (hts _ h1) (hts _ h2) (hts _ hcal.2.1) (hts _ hcal.1) hcal.2.2.2.1 (argsL := (st.take ps.length).reverse.map (kx_cv ι)) (by rw [List.length_map, hlen]; exact hcal.2.2.2.2) hd) hk (fun v hv => by obtain ⟨x, rfl, z⟩ := hret v hv; exact z) (fun e' he => by have z := hthr e' he; cases z; exact ⟨rfl, rfl⟩)
theorem kx_s_SNi (G : kx_G p e R s m args meth c s0 D cA cc own nL h0) (hg : ∀ w ∈ kx_WS, kx_kp w) {C : kx_C} {d n : Nat} (hCS : kx_cs9 l s0 D cA C d) (hR : kx_need (d + 1) R) (hout : ∀ x ∈ c.exceptionTable.toList, covers x pc = false) {bytes : ByteArray} {maxL : Nat} {ret : Option FieldType} {ps : List Nat} (hcal : kx_cal n bytes maxL ret ps.length) (hpm : kx_pm n = ps) {host : String} (h1 : Cond.methodLinkNest own i (kx_mn n) host ∈ kx_WS) (h2 : Cond.static (kx_mn n) ∈ kx_WS) (hd : decode cc pc = .ok (.invokestatic i, 3)) (hk : kx_Sn p l e R s m args below meth c s0 D cA nL ι0 h0 rr hf (pc + 3) k) : kx_Sn p l e R s m args below meth c s0 D cA nL ι0 h0 rr hf pc (kx_Si C n ps k) := by
  intro lv st h hF
  unfold kx_Si at hF
  obtain ⟨hfit, hr9, hF⟩ := kx_as_spec hF
  obtain ⟨q, hq, hret, hthr⟩ := kx_bi_spec hF
  intro ι H locs cells slots ls hP hA hl hs hv hS hC hU hI hE
  have hts := G.2.2.2.2.2.1
  have hlen : (st.take ps.length).reverse.length = ps.length := kx_fits_len hfit
  have hmap : st.map (kx_cv ι) = ((st.take ps.length).reverse.map (kx_cv ι)).reverse ++ (st.drop ps.length).map (kx_cv ι) := by
    rw [List.map_reverse, List.reverse_reverse, ← List.map_append, List.take_append_drop]
  rw [hmap]
  exact kx_core G hg hCS hR hout hcal (As := (st.take ps.length).reverse) (r9 := st.drop ps.length) (by rw [hpm]; exact hfit) hr9 hq hd hP hl (fun v hv9 => hs v (List.mem_of_mem_take (List.mem_reverse.mp hv9))) (fun v hv9 => hs v (List.mem_of_mem_drop hv9)) hv hS hC hU hI hE (fun T hT X => kx_enSN X G.1 G.2.1 G.2.2.1 (hts _ h1) (hts _ h2) (hts _ hcal.2.1) (hts _ hcal.1) hcal.2.2.2.1 (argsL := (st.take ps.length).reverse.map (kx_cv ι)) (by rw [List.length_map, hlen]; exact hcal.2.2.2.2) hd) hk (fun v hv => by obtain ⟨x, rfl, z⟩ := hret v hv; exact z) (fun e' he => by have z := hthr e' he; cases z; exact ⟨rfl, rfl⟩)
theorem kx_s_Vl (G : kx_G p e R s m args meth c s0 D cA cc own nL h0) (hg : ∀ w ∈ kx_WS, kx_kp w) {C : kx_C} {d n : Nat} (hCS : kx_cs9 l s0 D cA C d) (hR : kx_need (d + 1) R) (hout : ∀ x ∈ c.exceptionTable.toList, covers x pc = false) {bytes : ByteArray} {maxL : Nat} {ret : Option FieldType} {ps : List Nat} (hcal : kx_cal n bytes maxL ret ps.length) (hpm : kx_pm n = (t + 2) :: ps) (h1 : Cond.methodLink own i (kx_mn n) ∈ kx_WS) (h2 : Cond.instanceMethod (kx_mn n) ∈ kx_WS) (h3 : Cond.selects r.1 (kx_mn n) (kx_mn n) ∈ kx_WS) (hc : kx_cl[t]? = some r) (h98 : t < 98) (hd : decode cc pc = .ok (.invokevirtual i, 3)) (hk : kx_Sn p l e R s m args below meth c s0 D cA nL ι0 h0 rr hf (pc + 3) k) : kx_Sn p l e R s m args below meth c s0 D cA nL ι0 h0 rr hf pc (kx_Vl C n t ps k) := by
  intro lv st h hF
  unfold kx_Vl at hF
  obtain ⟨a, r9, hst, hfit, hr9, hF⟩ := kx_ao_spec hF
  obtain ⟨q, hq, hret, hthr⟩ := kx_bl_spec hF
  intro ι H locs cells slots ls hP hA hl hs hv hS hC hU hI hE
  have hts := G.2.2.2.2.2.1
  have hs' := hs
  rw [hst] at hs'
  have hta : hp_T h a = some t := hs' (.inr (.inr (t, some a))) (List.mem_append_right _ List.mem_cons_self) a rfl
  have hlen : (st.take ps.length).reverse.length = ps.length := kx_fits_len hfit
  have hmap : st.map (kx_cv ι) = ((st.take ps.length).reverse.map (kx_cv ι)).reverse ++ .ref (ι a) :: r9.map (kx_cv ι) := by
    conv => lhs; rw [hst]
    rw [List.map_append, List.map_cons, List.map_reverse, List.reverse_reverse]
    rfl
  rw [hmap]
  refine kx_core G hg hCS hR hout hcal (As := .inr (.inr (t, some a)) :: (st.take ps.length).reverse) (r9 := r9) (by rw [hpm]; exact kx_fits2 hfit) hr9 hq hd hP hl (fun v hv9 => ?_) (fun v hv9 => hs' v (List.mem_append_right _ (List.mem_cons_of_mem _ hv9))) hv hS hC hU hI hE (fun T hT X => by
      obtain ⟨-, r', hr', cellB, b1, b2, b3, -⟩ := (hP.1 a t hta).2.2.1 h98
      cases hc.symm.trans hr'
      have hK := (G.2.2.2.2.2.2.1.2.1.1 t r hc).2
      exact kx_enV X G.1 G.2.1 (C := r.1) G.2.2.1 (hts _ h1) (hts _ h2) (hts _ h3) (hts _ hcal.1) hcal.2.2.2.1 (by rw [hT]; exact b1) (by rw [b3]; rfl) (by rw [b2]; exact hK.1) (argsL := (st.take ps.length).reverse.map (kx_cv ι)) (by rw [List.length_map, hlen]; exact hcal.2.2.2.2) hd) hk (fun v hv => by obtain ⟨x, rfl, z⟩ := hret v hv; exact z) (fun e' he => by have z := hthr e' he; cases z; exact ⟨rfl, rfl⟩)
  rcases List.mem_cons.mp hv9 with rfl | hv9
  · exact fun b hb => by cases hb; exact hta
  · exact hs v (List.mem_of_mem_take (List.mem_reverse.mp hv9))
theorem kx_s_VNl (G : kx_G p e R s m args meth c s0 D cA cc own nL h0) (hg : ∀ w ∈ kx_WS, kx_kp w) {C : kx_C} {d n : Nat} (hCS : kx_cs9 l s0 D cA C d) (hR : kx_need (d + 1) R) (hout : ∀ x ∈ c.exceptionTable.toList, covers x pc = false) {bytes : ByteArray} {maxL : Nat} {ret : Option FieldType} {ps : List Nat} (hcal : kx_cal n bytes maxL ret ps.length) (hpm : kx_pm n = (t + 2) :: ps) {host : String} (h1 : Cond.methodLinkNest own i (kx_mn n) host ∈ kx_WS) (h2 : Cond.instanceMethod (kx_mn n) ∈ kx_WS) (h3 : Cond.selects r.1 (kx_mn n) (kx_mn n) ∈ kx_WS) (hc : kx_cl[t]? = some r) (h98 : t < 98) (hd : decode cc pc = .ok (.invokevirtual i, 3)) (hk : kx_Sn p l e R s m args below meth c s0 D cA nL ι0 h0 rr hf (pc + 3) k) : kx_Sn p l e R s m args below meth c s0 D cA nL ι0 h0 rr hf pc (kx_Vl C n t ps k) := by
  intro lv st h hF
  unfold kx_Vl at hF
  obtain ⟨a, r9, hst, hfit, hr9, hF⟩ := kx_ao_spec hF
  obtain ⟨q, hq, hret, hthr⟩ := kx_bl_spec hF
  intro ι H locs cells slots ls hP hA hl hs hv hS hC hU hI hE
  have hts := G.2.2.2.2.2.1
  have hs' := hs
  rw [hst] at hs'
  have hta : hp_T h a = some t := hs' (.inr (.inr (t, some a))) (List.mem_append_right _ List.mem_cons_self) a rfl
  have hlen : (st.take ps.length).reverse.length = ps.length := kx_fits_len hfit
  have hmap : st.map (kx_cv ι) = ((st.take ps.length).reverse.map (kx_cv ι)).reverse ++ .ref (ι a) :: r9.map (kx_cv ι) := by
    conv => lhs; rw [hst]
    rw [List.map_append, List.map_cons, List.map_reverse, List.reverse_reverse]
    rfl
  rw [hmap]
  refine kx_core G hg hCS hR hout hcal (As := .inr (.inr (t, some a)) :: (st.take ps.length).reverse) (r9 := r9) (by rw [hpm]; exact kx_fits2 hfit) hr9 hq hd hP hl (fun v hv9 => ?_) (fun v hv9 => hs' v (List.mem_append_right _ (List.mem_cons_of_mem _ hv9))) hv hS hC hU hI hE (fun T hT X => by
      obtain ⟨-, r', hr', cellB, b1, b2, b3, -⟩ := (hP.1 a t hta).2.2.1 h98
      cases hc.symm.trans hr'
      have hK := (G.2.2.2.2.2.2.1.2.1.1 t r hc).2
      exact kx_enVN X G.1 G.2.1 (C := r.1) G.2.2.1 (hts _ h1) (hts _ h2) (hts _ h3) (hts _ hcal.1) hcal.2.2.2.1 (by rw [hT]; exact b1) (by rw [b3]; rfl) (by rw [b2]; exact hK.1) (argsL := (st.take ps.length).reverse.map (kx_cv ι)) (by rw [List.length_map, hlen]; exact hcal.2.2.2.2) hd) hk (fun v hv => by obtain ⟨x, rfl, z⟩ := hret v hv; exact z) (fun e' he => by have z := hthr e' he; cases z; exact ⟨rfl, rfl⟩)
  rcases List.mem_cons.mp hv9 with rfl | hv9
  · exact fun b hb => by cases hb; exact hta
  · exact hs v (List.mem_of_mem_take (List.mem_reverse.mp hv9))
theorem kx_s_Sl (G : kx_G p e R s m args meth c s0 D cA cc own nL h0) (hg : ∀ w ∈ kx_WS, kx_kp w) {C : kx_C} {d n : Nat} (hCS : kx_cs9 l s0 D cA C d) (hR : kx_need (d + 1) R) (hout : ∀ x ∈ c.exceptionTable.toList, covers x pc = false) {bytes : ByteArray} {maxL : Nat} {ret : Option FieldType} {ps : List Nat} (hcal : kx_cal n bytes maxL ret ps.length) (hpm : kx_pm n = ps) (h1 : Cond.methodLink own i (kx_mn n) ∈ kx_WS) (h2 : Cond.static (kx_mn n) ∈ kx_WS) (hd : decode cc pc = .ok (.invokestatic i, 3)) (hk : kx_Sn p l e R s m args below meth c s0 D cA nL ι0 h0 rr hf (pc + 3) k) : kx_Sn p l e R s m args below meth c s0 D cA nL ι0 h0 rr hf pc (kx_Sl C n ps k) := by
  intro lv st h hF
  unfold kx_Sl at hF
  obtain ⟨hfit, hr9, hF⟩ := kx_as_spec hF
  obtain ⟨q, hq, hret, hthr⟩ := kx_bl_spec hF
  intro ι H locs cells slots ls hP hA hl hs hv hS hC hU hI hE
  have hts := G.2.2.2.2.2.1
  have hlen : (st.take ps.length).reverse.length = ps.length := kx_fits_len hfit
  have hmap : st.map (kx_cv ι) = ((st.take ps.length).reverse.map (kx_cv ι)).reverse ++ (st.drop ps.length).map (kx_cv ι) := by
    rw [List.map_reverse, List.reverse_reverse, ← List.map_append, List.take_append_drop]
  rw [hmap]
  exact kx_core G hg hCS hR hout hcal (As := (st.take ps.length).reverse) (r9 := st.drop ps.length) (by rw [hpm]; exact hfit) hr9 hq hd hP hl (fun v hv9 => hs v (List.mem_of_mem_take (List.mem_reverse.mp hv9))) (fun v hv9 => hs v (List.mem_of_mem_drop hv9)) hv hS hC hU hI hE (fun T hT X => kx_enS X G.1 G.2.1 G.2.2.1 (hts _ h1) (hts _ h2) (hts _ hcal.2.1) (hts _ hcal.1) hcal.2.2.2.1 (argsL := (st.take ps.length).reverse.map (kx_cv ι)) (by rw [List.length_map, hlen]; exact hcal.2.2.2.2) hd) hk (fun v hv => by obtain ⟨x, rfl, z⟩ := hret v hv; exact z) (fun e' he => by have z := hthr e' he; cases z; exact ⟨rfl, rfl⟩)
theorem kx_s_SNl (G : kx_G p e R s m args meth c s0 D cA cc own nL h0) (hg : ∀ w ∈ kx_WS, kx_kp w) {C : kx_C} {d n : Nat} (hCS : kx_cs9 l s0 D cA C d) (hR : kx_need (d + 1) R) (hout : ∀ x ∈ c.exceptionTable.toList, covers x pc = false) {bytes : ByteArray} {maxL : Nat} {ret : Option FieldType} {ps : List Nat} (hcal : kx_cal n bytes maxL ret ps.length) (hpm : kx_pm n = ps) {host : String} (h1 : Cond.methodLinkNest own i (kx_mn n) host ∈ kx_WS) (h2 : Cond.static (kx_mn n) ∈ kx_WS) (hd : decode cc pc = .ok (.invokestatic i, 3)) (hk : kx_Sn p l e R s m args below meth c s0 D cA nL ι0 h0 rr hf (pc + 3) k) : kx_Sn p l e R s m args below meth c s0 D cA nL ι0 h0 rr hf pc (kx_Sl C n ps k) := by
  intro lv st h hF
  unfold kx_Sl at hF
  obtain ⟨hfit, hr9, hF⟩ := kx_as_spec hF
  obtain ⟨q, hq, hret, hthr⟩ := kx_bl_spec hF
  intro ι H locs cells slots ls hP hA hl hs hv hS hC hU hI hE
  have hts := G.2.2.2.2.2.1
  have hlen : (st.take ps.length).reverse.length = ps.length := kx_fits_len hfit
  have hmap : st.map (kx_cv ι) = ((st.take ps.length).reverse.map (kx_cv ι)).reverse ++ (st.drop ps.length).map (kx_cv ι) := by
    rw [List.map_reverse, List.reverse_reverse, ← List.map_append, List.take_append_drop]
  rw [hmap]
  exact kx_core G hg hCS hR hout hcal (As := (st.take ps.length).reverse) (r9 := st.drop ps.length) (by rw [hpm]; exact hfit) hr9 hq hd hP hl (fun v hv9 => hs v (List.mem_of_mem_take (List.mem_reverse.mp hv9))) (fun v hv9 => hs v (List.mem_of_mem_drop hv9)) hv hS hC hU hI hE (fun T hT X => kx_enSN X G.1 G.2.1 G.2.2.1 (hts _ h1) (hts _ h2) (hts _ hcal.2.1) (hts _ hcal.1) hcal.2.2.2.1 (argsL := (st.take ps.length).reverse.map (kx_cv ι)) (by rw [List.length_map, hlen]; exact hcal.2.2.2.2) hd) hk (fun v hv => by obtain ⟨x, rfl, z⟩ := hret v hv; exact z) (fun e' he => by have z := hthr e' he; cases z; exact ⟨rfl, rfl⟩)
theorem kx_s_Vr (G : kx_G p e R s m args meth c s0 D cA cc own nL h0) (hg : ∀ w ∈ kx_WS, kx_kp w) {C : kx_C} {d n : Nat} (hCS : kx_cs9 l s0 D cA C d) (hR : kx_need (d + 1) R) (hout : ∀ x ∈ c.exceptionTable.toList, covers x pc = false) {bytes : ByteArray} {maxL : Nat} {ret : Option FieldType} {ps : List Nat} (hcal : kx_cal n bytes maxL ret ps.length) (hpm : kx_pm n = (t + 2) :: ps) (h1 : Cond.methodLink own i (kx_mn n) ∈ kx_WS) (h2 : Cond.instanceMethod (kx_mn n) ∈ kx_WS) (h3 : Cond.selects r.1 (kx_mn n) (kx_mn n) ∈ kx_WS) (hc : kx_cl[t]? = some r) (h98 : t < 98) {c9 : Nat} (hd : decode cc pc = .ok (.invokevirtual i, 3)) (hk : kx_Sn p l e R s m args below meth c s0 D cA nL ι0 h0 rr hf (pc + 3) k) : kx_Sn p l e R s m args below meth c s0 D cA nL ι0 h0 rr hf pc (kx_Vr C n t ps c9 k) := by
  intro lv st h hF
  unfold kx_Vr at hF
  obtain ⟨a, r9, hst, hfit, hr9, hF⟩ := kx_ao_spec hF
  obtain ⟨q, hq, hret, hthr⟩ := kx_br_spec hF
  intro ι H locs cells slots ls hP hA hl hs hv hS hC hU hI hE
  have hts := G.2.2.2.2.2.1
  have hs' := hs
  rw [hst] at hs'
  have hta : hp_T h a = some t := hs' (.inr (.inr (t, some a))) (List.mem_append_right _ List.mem_cons_self) a rfl
  have hlen : (st.take ps.length).reverse.length = ps.length := kx_fits_len hfit
  have hmap : st.map (kx_cv ι) = ((st.take ps.length).reverse.map (kx_cv ι)).reverse ++ .ref (ι a) :: r9.map (kx_cv ι) := by
    conv => lhs; rw [hst]
    rw [List.map_append, List.map_cons, List.map_reverse, List.reverse_reverse]
    rfl
  rw [hmap]
  refine kx_core G hg hCS hR hout hcal (As := .inr (.inr (t, some a)) :: (st.take ps.length).reverse) (r9 := r9) (by rw [hpm]; exact kx_fits2 hfit) hr9 hq hd hP hl (fun v hv9 => ?_) (fun v hv9 => hs' v (List.mem_append_right _ (List.mem_cons_of_mem _ hv9))) hv hS hC hU hI hE (fun T hT X => by
      obtain ⟨-, r', hr', cellB, b1, b2, b3, -⟩ := (hP.1 a t hta).2.2.1 h98
      cases hc.symm.trans hr'
      have hK := (G.2.2.2.2.2.2.1.2.1.1 t r hc).2
      exact kx_enV X G.1 G.2.1 (C := r.1) G.2.2.1 (hts _ h1) (hts _ h2) (hts _ h3) (hts _ hcal.1) hcal.2.2.2.1 (by rw [hT]; exact b1) (by rw [b3]; rfl) (by rw [b2]; exact hK.1) (argsL := (st.take ps.length).reverse.map (kx_cv ι)) (by rw [List.length_map, hlen]; exact hcal.2.2.2.2) hd) hk (fun v hv => by obtain ⟨x, rfl, z⟩ := hret v hv; exact z) (fun e' he => by have z := hthr e' he; cases z; exact ⟨rfl, rfl⟩)
  rcases List.mem_cons.mp hv9 with rfl | hv9
  · exact fun b hb => by cases hb; exact hta
  · exact hs v (List.mem_of_mem_take (List.mem_reverse.mp hv9))
theorem kx_s_VNr (G : kx_G p e R s m args meth c s0 D cA cc own nL h0) (hg : ∀ w ∈ kx_WS, kx_kp w) {C : kx_C} {d n : Nat} (hCS : kx_cs9 l s0 D cA C d) (hR : kx_need (d + 1) R) (hout : ∀ x ∈ c.exceptionTable.toList, covers x pc = false) {bytes : ByteArray} {maxL : Nat} {ret : Option FieldType} {ps : List Nat} (hcal : kx_cal n bytes maxL ret ps.length) (hpm : kx_pm n = (t + 2) :: ps) {host : String} (h1 : Cond.methodLinkNest own i (kx_mn n) host ∈ kx_WS) (h2 : Cond.instanceMethod (kx_mn n) ∈ kx_WS) (h3 : Cond.selects r.1 (kx_mn n) (kx_mn n) ∈ kx_WS) (hc : kx_cl[t]? = some r) (h98 : t < 98) {c9 : Nat} (hd : decode cc pc = .ok (.invokevirtual i, 3)) (hk : kx_Sn p l e R s m args below meth c s0 D cA nL ι0 h0 rr hf (pc + 3) k) : kx_Sn p l e R s m args below meth c s0 D cA nL ι0 h0 rr hf pc (kx_Vr C n t ps c9 k) := by
  intro lv st h hF
  unfold kx_Vr at hF
  obtain ⟨a, r9, hst, hfit, hr9, hF⟩ := kx_ao_spec hF
  obtain ⟨q, hq, hret, hthr⟩ := kx_br_spec hF
  intro ι H locs cells slots ls hP hA hl hs hv hS hC hU hI hE
  have hts := G.2.2.2.2.2.1
  have hs' := hs
  rw [hst] at hs'
  have hta : hp_T h a = some t := hs' (.inr (.inr (t, some a))) (List.mem_append_right _ List.mem_cons_self) a rfl
  have hlen : (st.take ps.length).reverse.length = ps.length := kx_fits_len hfit
  have hmap : st.map (kx_cv ι) = ((st.take ps.length).reverse.map (kx_cv ι)).reverse ++ .ref (ι a) :: r9.map (kx_cv ι) := by
    conv => lhs; rw [hst]
    rw [List.map_append, List.map_cons, List.map_reverse, List.reverse_reverse]
    rfl
  rw [hmap]
  refine kx_core G hg hCS hR hout hcal (As := .inr (.inr (t, some a)) :: (st.take ps.length).reverse) (r9 := r9) (by rw [hpm]; exact kx_fits2 hfit) hr9 hq hd hP hl (fun v hv9 => ?_) (fun v hv9 => hs' v (List.mem_append_right _ (List.mem_cons_of_mem _ hv9))) hv hS hC hU hI hE (fun T hT X => by
      obtain ⟨-, r', hr', cellB, b1, b2, b3, -⟩ := (hP.1 a t hta).2.2.1 h98
      cases hc.symm.trans hr'
      have hK := (G.2.2.2.2.2.2.1.2.1.1 t r hc).2
      exact kx_enVN X G.1 G.2.1 (C := r.1) G.2.2.1 (hts _ h1) (hts _ h2) (hts _ h3) (hts _ hcal.1) hcal.2.2.2.1 (by rw [hT]; exact b1) (by rw [b3]; rfl) (by rw [b2]; exact hK.1) (argsL := (st.take ps.length).reverse.map (kx_cv ι)) (by rw [List.length_map, hlen]; exact hcal.2.2.2.2) hd) hk (fun v hv => by obtain ⟨x, rfl, z⟩ := hret v hv; exact z) (fun e' he => by have z := hthr e' he; cases z; exact ⟨rfl, rfl⟩)
  rcases List.mem_cons.mp hv9 with rfl | hv9
  · exact fun b hb => by cases hb; exact hta
  · exact hs v (List.mem_of_mem_take (List.mem_reverse.mp hv9))
theorem kx_s_Sr (G : kx_G p e R s m args meth c s0 D cA cc own nL h0) (hg : ∀ w ∈ kx_WS, kx_kp w) {C : kx_C} {d n : Nat} (hCS : kx_cs9 l s0 D cA C d) (hR : kx_need (d + 1) R) (hout : ∀ x ∈ c.exceptionTable.toList, covers x pc = false) {bytes : ByteArray} {maxL : Nat} {ret : Option FieldType} {ps : List Nat} (hcal : kx_cal n bytes maxL ret ps.length) (hpm : kx_pm n = ps) (h1 : Cond.methodLink own i (kx_mn n) ∈ kx_WS) (h2 : Cond.static (kx_mn n) ∈ kx_WS) {c9 : Nat} (hd : decode cc pc = .ok (.invokestatic i, 3)) (hk : kx_Sn p l e R s m args below meth c s0 D cA nL ι0 h0 rr hf (pc + 3) k) : kx_Sn p l e R s m args below meth c s0 D cA nL ι0 h0 rr hf pc (kx_Sr C n ps c9 k) := by
  intro lv st h hF
  unfold kx_Sr at hF
  obtain ⟨hfit, hr9, hF⟩ := kx_as_spec hF
  obtain ⟨q, hq, hret, hthr⟩ := kx_br_spec hF
  intro ι H locs cells slots ls hP hA hl hs hv hS hC hU hI hE
  have hts := G.2.2.2.2.2.1
  have hlen : (st.take ps.length).reverse.length = ps.length := kx_fits_len hfit
  have hmap : st.map (kx_cv ι) = ((st.take ps.length).reverse.map (kx_cv ι)).reverse ++ (st.drop ps.length).map (kx_cv ι) := by
    rw [List.map_reverse, List.reverse_reverse, ← List.map_append, List.take_append_drop]
  rw [hmap]
  exact kx_core G hg hCS hR hout hcal (As := (st.take ps.length).reverse) (r9 := st.drop ps.length) (by rw [hpm]; exact hfit) hr9 hq hd hP hl (fun v hv9 => hs v (List.mem_of_mem_take (List.mem_reverse.mp hv9))) (fun v hv9 => hs v (List.mem_of_mem_drop hv9)) hv hS hC hU hI hE (fun T hT X => kx_enS X G.1 G.2.1 G.2.2.1 (hts _ h1) (hts _ h2) (hts _ hcal.2.1) (hts _ hcal.1) hcal.2.2.2.1 (argsL := (st.take ps.length).reverse.map (kx_cv ι)) (by rw [List.length_map, hlen]; exact hcal.2.2.2.2) hd) hk (fun v hv => by obtain ⟨x, rfl, z⟩ := hret v hv; exact z) (fun e' he => by have z := hthr e' he; cases z; exact ⟨rfl, rfl⟩)
theorem kx_s_SNr (G : kx_G p e R s m args meth c s0 D cA cc own nL h0) (hg : ∀ w ∈ kx_WS, kx_kp w) {C : kx_C} {d n : Nat} (hCS : kx_cs9 l s0 D cA C d) (hR : kx_need (d + 1) R) (hout : ∀ x ∈ c.exceptionTable.toList, covers x pc = false) {bytes : ByteArray} {maxL : Nat} {ret : Option FieldType} {ps : List Nat} (hcal : kx_cal n bytes maxL ret ps.length) (hpm : kx_pm n = ps) {host : String} (h1 : Cond.methodLinkNest own i (kx_mn n) host ∈ kx_WS) (h2 : Cond.static (kx_mn n) ∈ kx_WS) {c9 : Nat} (hd : decode cc pc = .ok (.invokestatic i, 3)) (hk : kx_Sn p l e R s m args below meth c s0 D cA nL ι0 h0 rr hf (pc + 3) k) : kx_Sn p l e R s m args below meth c s0 D cA nL ι0 h0 rr hf pc (kx_Sr C n ps c9 k) := by
  intro lv st h hF
  unfold kx_Sr at hF
  obtain ⟨hfit, hr9, hF⟩ := kx_as_spec hF
  obtain ⟨q, hq, hret, hthr⟩ := kx_br_spec hF
  intro ι H locs cells slots ls hP hA hl hs hv hS hC hU hI hE
  have hts := G.2.2.2.2.2.1
  have hlen : (st.take ps.length).reverse.length = ps.length := kx_fits_len hfit
  have hmap : st.map (kx_cv ι) = ((st.take ps.length).reverse.map (kx_cv ι)).reverse ++ (st.drop ps.length).map (kx_cv ι) := by
    rw [List.map_reverse, List.reverse_reverse, ← List.map_append, List.take_append_drop]
  rw [hmap]
  exact kx_core G hg hCS hR hout hcal (As := (st.take ps.length).reverse) (r9 := st.drop ps.length) (by rw [hpm]; exact hfit) hr9 hq hd hP hl (fun v hv9 => hs v (List.mem_of_mem_take (List.mem_reverse.mp hv9))) (fun v hv9 => hs v (List.mem_of_mem_drop hv9)) hv hS hC hU hI hE (fun T hT X => kx_enSN X G.1 G.2.1 G.2.2.1 (hts _ h1) (hts _ h2) (hts _ hcal.2.1) (hts _ hcal.1) hcal.2.2.2.1 (argsL := (st.take ps.length).reverse.map (kx_cv ι)) (by rw [List.length_map, hlen]; exact hcal.2.2.2.2) hd) hk (fun v hv => by obtain ⟨x, rfl, z⟩ := hret v hv; exact z) (fun e' he => by have z := hthr e' he; cases z; exact ⟨rfl, rfl⟩)
end KC
end
section
def kx_wd (ps : List Nat) : Nat := match ps with
  | [] => 0
  | p :: ps => (bif Nat.beq p 1 then 2 else 1) + kx_wd ps
theorem kx_wd_ok {ι : Nat → Nat} {ps : List Nat} {vs : List kx_V} (h : kx_fits ps vs = true) : (lg_sl (vs.map (kx_cv ι))).length = kx_wd ps := by
  induction ps generalizing vs with
  | nil => cases vs with
    | nil => rfl
    | cons v vs => cases h
  | cons p ps ih => cases vs with
    | nil => cases h
    | cons v vs =>
      unfold kx_fits at h
      obtain ⟨h1, h2⟩ := kx_and h
      have h3 := ih h2
      unfold lg_sl at h3 ⊢
      rw [List.map_cons, List.flatMap_cons, List.length_append, h3]
      show _ = (bif Nat.beq p 1 then 2 else 1) + kx_wd ps
      congr 1
      rcases v with x | x | ⟨t, o⟩
      · have e1 : p = 0 := Nat.eq_of_beq_eq_true h1
        subst e1
        rfl
      · have e1 : p = 1 := Nat.eq_of_beq_eq_true h1
        subst e1
        rfl
      · have e1 : p = t + 2 := Nat.eq_of_beq_eq_true h1
        subst e1
        have e2 : Nat.beq (t + 2) 1 = false := rfl
        rw [e2]
        cases o <;> rfl
theorem kx_in_lc (ι : Nat → Nat) (vs : List kx_V) : ∀ i, kx_lc ι (kx_in i vs) = lv_args i (vs.map (kx_cv ι)) := by
  induction vs with
  | nil => intro i; rfl
  | cons v vs ih =>
    intro i
    unfold kx_in lv_args
    have e1 : (bif kx_two v then i + 2 else i + 1) = if (kx_cv ι v).category = 2 then i + 2 else i + 1 := by
      rcases v with x | x | ⟨t, o⟩
      · rfl
      · rfl
      · cases o <;> rfl
    rw [e1]
    show (i, kx_cv ι v) :: kx_lc ι _ = _
    rw [ih]
    rfl
theorem kx_in_ok {h : kx_H} {vs : List kx_V} (hv : ∀ v ∈ vs, kx_ok h v) : ∀ i, ∀ q ∈ kx_in i vs, kx_ok h q.2 := by
  induction vs with
  | nil => intro i q hq; cases hq
  | cons v vs ih =>
    intro i q hq
    unfold kx_in at hq
    rcases List.mem_cons.mp hq with rfl | hq
    · exact hv v List.mem_cons_self
    · exact ih (fun w hw => hv w (List.mem_cons_of_mem _ hw)) _ q hq
section KM
variable {p : Program} {l : Launch} {e : Env} {R : Room} {s : State} {m : MethodId} {args : Array Value} {below : List Frame} {meth : Method} {c : Code} {H : Heap} {locs : List Loc} {cells slots : Nat} {Q : State → Prop}
variable {s0 : State} {D : va_G} {cA : Nat → ClassId} {cc : ByteArray} {own : String} {nL : Nat} {ι ι0 : Nat → Nat} {h h0 hf : kx_H} {rr : kx_R} {pc : Nat} {k : kx_F} {ls : Array Slot} {rest : List Value} {a t i : Nat} {r : vw_C}
/-- a method's contract out of its walk -/
theorem kx_meth {y : MethodName} {maxL : Nat} {ret : Option FieldType} (hcode : Cond.code y cc maxL ret ∈ kx_WS) (hy : plainName y.cls = true) {ps : List Nat} (hps : kx_wd ps ≤ maxL) {F : kx_F} {As : List kx_V} (hF : F (kx_in 0 As) [] h0 = some (rr, hf)) (hfit : kx_fits ps As = true) {rm : Room}
    (hcc : kx_cc ≤ rm.cells + hp_C h0) (hcs : kx_cs ≤ rm.slots + hp_U h0) (hcap : hp_C h0 ≤ kx_cc) (hcap2 : hp_U h0 ≤ kx_cs)
    (body : ∀ (p : Program) (e : Env) (s : State) (m : MethodId) (args : Array Value) (below : List Frame) (meth : Method) (c : Code), kx_G p e rm s m args meth c s0 D cA cc y.cls maxL h0 → meth.sig.returnType = ret → meth.name = y.name → c.exceptionTable.isEmpty = true → l.admits e → kx_Sn p l e rm s m args below meth c s0 D cA maxL ι0 h0 rr hf 0 F) : kx_Mt l s0 D cA y rm ι0 As h0 rr hf := by
  refine MetFree.of_bodyS (code := cc) (maxLocals := maxL) (ret := ret) hy ?_ ?_
  · intro args s m h hn
    obtain ⟨meth, c, h1, h2, h3, h4, h5, h6, -, -⟩ := Cond.code_spec hn (atoms_spec (ws := kx_WS) h _ hcode)
    exact ⟨meth, c, h1, h2, h3, h4, h5, h6⟩
  · intro p e s m args below meth c s₁ B hml hP _
    obtain ⟨rfl, hB, hPw, hok⟩ := hP
    have hts := atoms_spec (ws := kx_WS) B.pre
    have hh0 : s₁.heap = s.heap := by rw [B.state]; rfl
    have X := Stand.of_body B
    have G : kx_G p e rm s m (As.map (kx_cv ι0)).toArray meth c s0 D cA cc y.cls maxL h0 := ⟨B.exec, B.bytes, findClass_of_methodNamed B.named, hml, B.notSynchronized, hts, hB, hcc, hcs⟩
    have hl := lv_entry (As.map (kx_cv ι0)) (n := maxL) (by rw [kx_wd_ok hfit]; exact hps)
    rw [← kx_in_lc ι0 As 0] at hl
    have hw := body p e s m _ below meth c G B.returns (name_of_methodNamed B.named B.method).1 (B.noHandlers (hts _ hcode)) B.admits _ _ _ hF ι0 s.heap [] 0 0 _ hPw (kx_PA X (by rw [hh0]; exact hPw)) hl (fun v hv => by cases hv) (kx_in_ok hok 0) va_S.rf (by omega) (by omega) (fun _ _ => rfl) ⟨Nat.le_refl _, fun _ _ z => z, hcap, hcap2⟩
    obtain ⟨t, a1, o, b1, b2, b3⟩ := hw s₁ hh0 X
    refine ⟨t, o, ?_, b1, b2, b3⟩
    rw [lg_entry_eq]
    exact a1
theorem kx_loop {B : Nat → (Nat → kx_F) → kx_F} (hB : ∀ J, (∀ b, kx_Sn p l e R s m args below meth c s0 D cA nL ι0 h0 rr hf b (J b)) → ∀ b, kx_Sn p l e R s m args below meth c s0 D cA nL ι0 h0 rr hf b (B b J)) : ∀ n b, kx_Sn p l e R s m args below meth c s0 D cA nL ι0 h0 rr hf b (kx_ex B n b) := by
  intro n
  induction n with
  | zero => intro b lv st h hF; cases hF
  | succ n ih => intro b; exact hB _ ih b
theorem kx_s_no : kx_Sn p l e R s m args below meth c s0 D cA nL ι0 h0 rr hf pc (fun _ _ _ => none) := by
  intro lv st h hF
  cases hF
theorem kx_swl_spec {x : Int32} {cs : List (Int32 × kx_F)} {d : kx_F} {lv : kx_L} {st : List kx_V} {z : kx_R × kx_H} (hz : kx_swl x cs d lv st h = some z) : (∃ q ∈ cs, x = q.1 ∧ q.2 lv st h = some z) ∨ ((∀ q ∈ cs, ¬ x = q.1) ∧ d lv st h = some z) := by
  induction cs with
  | nil => exact Or.inr ⟨fun q hq => (by cases hq), hz⟩
  | cons q r ih =>
    unfold kx_swl at hz
    by_cases hq : x = q.1
    · rw [if_pos hq] at hz
      exact Or.inl ⟨q, List.mem_cons_self, hq, hz⟩
    · rw [if_neg hq] at hz
      rcases ih hz with ⟨q9, h1, h2⟩ | ⟨h1, h2⟩
      · exact Or.inl ⟨q9, List.mem_cons_of_mem _ h1, h2⟩
      · refine Or.inr ⟨fun q9 h9 => ?_, h2⟩
        rcases List.mem_cons.mp h9 with rfl | h9
        · exact hq
        · exact h1 q9 h9
theorem kx_s_tsw (G : kx_G p e R s m args meth c s0 D cA cc own nL h0) {dflt lo hi : Int} {offs : Array Int} {len tgtD : Nat} {cs : List (Int32 × kx_F)} {d : kx_F} (hd : decode cc pc = .ok (.tableswitch dflt lo hi offs, len)) (hD : (pc : Int) + dflt = (tgtD : Int)) (hdF : kx_Sn p l e R s m args below meth c s0 D cA nL ι0 h0 rr hf tgtD d)
    (hcs : ∀ q ∈ cs, ¬ q.1.toInt < lo ∧ ¬ hi < q.1.toInt ∧ ∃ (off : Int) (tgt : Nat), offs[(q.1.toInt - lo).toNat]? = some off ∧ (pc : Int) + off = (tgt : Int) ∧ kx_Sn p l e R s m args below meth c s0 D cA nL ι0 h0 rr hf tgt q.2) (hcov : ∀ x : Int32, (∀ q ∈ cs, ¬ x = q.1) → x.toInt < lo ∨ hi < x.toInt) : kx_Sn p l e R s m args below meth c s0 D cA nL ι0 h0 rr hf pc (kx_sw cs d) := by
  intro lv st h hF
  unfold kx_sw at hF
  split at hF
  · rename_i x r9
    intro ι H locs cells slots ls hP hA hl hs hv hS hC hU hI hE
    rcases kx_swl_spec hF with ⟨q, hq, rfl, hz⟩ | ⟨hn, hz⟩
    · obtain ⟨h1, h2, off, tgt, h3, h4, h5⟩ := hcs q hq
      exact lv_tableIn G.1 G.2.1 hd h1 h2 h3 h4 (h5 _ _ _ hz ι H locs cells slots ls hP hA hl (kx_okt hs) hv hS hC hU hI hE)
    · exact lv_tableOut G.1 G.2.1 hd (hcov x hn) hD (hdF _ _ _ hz ι H locs cells slots ls hP hA hl (kx_okt hs) hv hS hC hU hI hE)
  · cases hF
theorem kx_s_lsw (G : kx_G p e R s m args meth c s0 D cA cc own nL h0) {dflt : Int} {ps : Array (Int × Int)} {len tgtD : Nat} {cs : List (Int32 × kx_F)} {d : kx_F} (hd : decode cc pc = .ok (.lookupswitch dflt ps, len)) (hp : (ps.toList.zip (ps.toList.drop 1)).all (fun (a, next) => a.1 < next.1) = true) (hD : (pc : Int) + dflt = (tgtD : Int)) (hdF : kx_Sn p l e R s m args below meth c s0 D cA nL ι0 h0 rr hf tgtD d)
    (hcs : ∀ q ∈ cs, ∃ (off : Int) (tgt : Nat), Op.lookupswitch.offset ps.toList dflt q.1.toInt = off ∧ (pc : Int) + off = (tgt : Int) ∧ kx_Sn p l e R s m args below meth c s0 D cA nL ι0 h0 rr hf tgt q.2) (hcov : ∀ x : Int32, (∀ q ∈ cs, ¬ x = q.1) → Op.lookupswitch.offset ps.toList dflt x.toInt = dflt) : kx_Sn p l e R s m args below meth c s0 D cA nL ι0 h0 rr hf pc (kx_sw cs d) := by
  intro lv st h hF
  unfold kx_sw at hF
  split at hF
  · rename_i x r9
    intro ι H locs cells slots ls hP hA hl hs hv hS hC hU hI hE
    rcases kx_swl_spec hF with ⟨q, hq, rfl, hz⟩ | ⟨hn, hz⟩
    · obtain ⟨off, tgt, h3, h4, h5⟩ := hcs q hq
      exact lv_lookup G.1 G.2.1 hd hp h3 h4 (h5 _ _ _ hz ι H locs cells slots ls hP hA hl (kx_okt hs) hv hS hC hU hI hE)
    · exact lv_lookup G.1 G.2.1 hd hp (hcov x hn) hD (hdF _ _ _ hz ι H locs cells slots ls hP hA hl (kx_okt hs) hv hS hC hU hI hE)
  · cases hF
end KM
end
section
theorem kx_static {A A' : Array Value} {s0 U : State} (hW : s0.WarmedH U.vm) (hh : ∀ q : Nat, q < s0.heap.size → U.heap[q]? = s0.heap[q]?) {C n d : String} (hl : (Cond.laysStatic C n d).before A s0 = true) (hini : (Cond.initialized C).before A s0 = true) (h : (Cond.isRef (.static C n d)).before A s0 = true) : (Cond.isRef (.static C n d)).before A' U = true := by
  have z := va_Zqof (A := fun q => s0.heap.size ≤ q) hl hini h (fun a ha => by omega)
  have z2 := (z.moved hW.alike).kept (H1 := U.heap) (fun a h1 h2 => hh a h1)
  rcases z2 with z3 | ⟨t, z3⟩
  · obtain ⟨cf, kf, fi, f, a, cell, h1, h2, h3, h4, h5, h6, h7, -⟩ := z3
    simp [Cond.before, Cond.holds, Cond.value, Term.eval, State.fieldNamed?, h1, h2, h4, h5, h6, h7]
  · obtain ⟨cf, kf, fi, f, a, cell, h1, h2, h3, h4, h5, h6, h7, -⟩ := z3
    simp [Cond.before, Cond.holds, Cond.value, Term.eval, State.fieldNamed?, h1, h2, h4, h5, h6, h7]
theorem kx_staticL {A A' : Array Value} {s0 U : State} (hW : s0.WarmedH U.vm) (hh : ∀ q : Nat, q < s0.heap.size → U.heap[q]? = s0.heap[q]?) {C n d : String} (hl : (Cond.laysStatic C n d).before A s0 = true) : (Cond.laysStatic C n d).before A' U = true := by
  have h1 : (Cond.laysStatic C n d).before A (s0.setVm U.vm) = true := Cond.holds_shifted (State.Shifted.of_warmed hW) _ [] rfl hl
  obtain ⟨c, k, i, f, a, cell, hc, hi, hst, ha, hcell, hs, hcls, hlt, hty⟩ := Cond.laysStatic_spec h1
  have hcell' : U.heap[a]? = some cell := by
    have z : s0.heap[a]? = some cell := hcell
    rw [hh a (Array.getElem?_eq_some_iff.mp z).1]
    exact z
  have hc' : U.vm.findClass C = some c := hc
  have hi' : U.fieldFound? C n d = some (c, k, i, f) := hi
  simp [Cond.before, Cond.holds, Cond.value, hc', hi', hst, ha, hcell', hs, hcls, hlt, hty]
/-- the exceptions' words: of a class that makes one, its constructor's place there -/
def kx_ta (own : String) (ic e : Nat) : List Cond := Bundle.ownAtoms own ic (kx_en e) ["java/lang/RuntimeException", "java/lang/Exception"]
def kx_sr (n d : String) : Cond := .isRef (.static Bundle.tN n d)
def kx_T0 (s0 : State) : Prop := ∀ q ∈ kx_ths, ∃ A, ∀ w ∈ kx_ta q.1 q.2.1 q.2.2, w.before A s0 = true
theorem kx_ta_ok {own : String} {ic e : Nat} (hq : (own, ic, e) ∈ kx_ths) : ∀ w ∈ kx_ta own ic e, kx_kb w = true ∨ w = kx_sr "UNASSIGNED_STACK" Bundle.steD ∨ w = kx_sr "SUPPRESSED_SENTINEL" Bundle.listD ∨ w = .laysStatic Bundle.tN "UNASSIGNED_STACK" Bundle.steD ∨ w = .laysStatic Bundle.tN "SUPPRESSED_SENTINEL" Bundle.listD := by
  have h : ∀ q ∈ kx_ths, ∀ w ∈ kx_ta q.1 q.2.1 q.2.2, kx_kb w = true ∨ w = kx_sr "UNASSIGNED_STACK" Bundle.steD ∨ w = kx_sr "SUPPRESSED_SENTINEL" Bundle.listD ∨ w = .laysStatic Bundle.tN "UNASSIGNED_STACK" Bundle.steD ∨ w = .laysStatic Bundle.tN "SUPPRESSED_SENTINEL" Bundle.listD := by decide +kernel
  exact h _ hq
theorem kx_ta_at {s0 U : State} (hT : kx_T0 s0) (hW : s0.WarmedH U.vm) (hh : ∀ q : Nat, q < s0.heap.size → U.heap[q]? = s0.heap[q]?) {own : String} {ic e : Nat} (hq : (own, ic, e) ∈ kx_ths) (A' : Array Value) : ∀ w ∈ kx_ta own ic e, w.before A' U = true := by
  intro w hw
  obtain ⟨A, hA⟩ := hT _ hq
  rcases kx_ta_ok hq w hw with h | h | h | h | h
  · exact kx_kb_ok h A A' s0 U hW (hA w hw)
  · subst h
    exact kx_static hW hh (hA (.laysStatic Bundle.tN "UNASSIGNED_STACK" Bundle.steD) (by simp [kx_ta, Bundle.ownAtoms, Bundle.throwableAtoms])) (hA (.initialized Bundle.tN) (by simp [kx_ta, Bundle.ownAtoms, Bundle.throwableAtoms])) (hA _ hw)
  · subst h
    exact kx_static hW hh (hA (.laysStatic Bundle.tN "SUPPRESSED_SENTINEL" Bundle.listD) (by simp [kx_ta, Bundle.ownAtoms, Bundle.throwableAtoms])) (hA (.initialized Bundle.tN) (by simp [kx_ta, Bundle.ownAtoms, Bundle.throwableAtoms])) (hA _ hw)
  · subst h
    exact kx_staticL hW hh (hA _ hw)
  · subst h
    exact kx_staticL hW hh (hA _ hw)
section KR
variable {p : Program} {l : Launch} {e : Env} {R : Room} {s : State} {m : MethodId} {args : Array Value} {below : List Frame} {meth : Method} {c : Code} {H : Heap} {locs : List Loc} {cells slots : Nat} {Q : State → Prop}
variable {s0 : State} {D : va_G} {cA : Nat → ClassId} {cc : ByteArray} {own : String} {nL : Nat} {ι ι0 : Nat → Nat} {h h0 hf : kx_H} {rr : kx_R} {pc : Nat} {k : kx_F} {ls : Array Slot} {rest : List Value} {a t i : Nat} {r : vw_C}
/-- the walk, as if its method began here -/
theorem kx_rebase {T : State} (X : Stand p l e R s m args below meth c T locs cells slots) (hc : cells ≤ R.cells) (hs : slots ≤ R.slots) :
    Stand p l e { frames := R.frames, cells := R.cells - cells, slots := R.slots - slots, locals := R.locals } (T.setFrames (.invoking m args :: below)) m args below meth c T [] 0 0 := by
  obtain ⟨g₀, hfr⟩ := X.frames_eq
  have hcur := State.cur_lt_of_frames hfr
  obtain ⟨th, hth, -⟩ := State.frames_cons hfr
  have hf : (T.setFrames (.invoking m args :: below)).frames = .invoking m args :: below := State.frames_setFrames _ hcur
  have hm : (T.setFrames (.invoking m args :: below)).vm.method? m = some meth := X.method'
  refine ⟨X.admits, X.cas, X.clock, hf, ?_, ?_, hm, X.code, X.here, X.tail, State.WarmedH.refl _, ?_, ?_, ?_⟩
  · have h1 := X.room
    simp only [State.hasRoom, Bool.and_eq_true, decide_eq_true_eq] at h1 ⊢
    rw [State.localsInUse_invoking hf hm X.code, State.stackLimits_setFrames, State.stackBytes_setFrames, hf, X.limits, X.bytes]
    rw [State.localsInUse_invoking X.frames X.method X.code, X.frames] at h1
    have h2 := X.heapSize
    have h3 := X.used
    refine ⟨⟨⟨h1.1.1.1, ?_⟩, ?_⟩, X.book⟩
    · have h4 := h1.1.1.2
      show T.heap.size + (R.cells - cells) ≤ _
      omega
    · have h4 := h1.1.2
      show T.slotsUsed + (R.slots - slots) ≤ _
      omega
  · have h1 := X.hears
    unfold State.hears at h1 ⊢
    have hal := X.warmed.alike
    cases below with
    | nil =>
      simp only at h1 ⊢
      rw [hm]
      rw [X.method] at h1
      exact h1
    | cons f r =>
      cases f <;> simp only at h1 ⊢ <;> first
        | exact h1
        | (rw [hm]; rw [X.method] at h1; exact h1)
        | (rw [State.code?_eq] at h1 ⊢; show ((T.vm.method? _).bind _ |>.bind _).isSome = true; rw [hal.method?]; exact h1)
  · rw [State.stackLimits_setFrames]
  · rw [State.stackBytes_setFrames]
  · refine ⟨?_, Nat.le_refl _, Nat.le_refl _, ?_, ?_, fun a c hc => ⟨c, hc, rfl, rfl, fun _ _ => rfl⟩⟩
    · show T = { (T.setFrames (.invoking m args :: below)).setFrames T.frames with heap := T.heap, slotsUsed := T.slotsUsed }
      rw [State.setFrames_setFrames, State.setFrames_self hth]
    · show T.slotsUsed = T.slotsUsed + ((T.heap.toList.drop T.heap.size).map (·.slots.size)).sum
      rw [List.drop_of_length_le (by simp)]
      rfl
    · show ((T.heap.toList.drop T.heap.size).map (·.slots.size)).sum ≤ 0
      rw [List.drop_of_length_le (by simp)]
      exact Nat.le_refl _
end KR
end
section
section KH
variable {p : Program} {l : Launch} {e : Env} {R : Room} {s : State} {m : MethodId} {args : Array Value} {below : List Frame} {meth : Method} {c : Code} {H : Heap} {locs : List Loc} {cells slots : Nat} {Q : State → Prop}
variable {s0 : State} {D : va_G} {cA : Nat → ClassId} {cc : ByteArray} {own : String} {nL : Nat} {ι ι0 : Nat → Nat} {h h0 hf : kx_H} {rr : kx_R} {pc : Nat} {k : kx_F} {ls : Array Slot} {rest : List Value} {a t i : Nat} {r : vw_C}
theorem kx_P_keep {H' : Heap} {k9 n9 : Nat} (hP : kx_P s0 D cA ι h H) (hz : s0.heap.size ≤ H.size) (hq : ∀ q : Nat, q < H.size → H'[q]? = H[q]?) : kx_P s0 D cA ι (hp_bump h k9 n9) H' := by
  refine ⟨fun b t' hb => ?_, hP.2.1, hP.2.2.1, hP.2.2.2⟩
  have hlt := kx_P_lt hP hz hb
  obtain ⟨g1, g2, g3, g4⟩ := hP.1 b t' hb
  refine ⟨g1, fun z => ?_, fun z => ?_, fun z => ?_⟩
  · obtain ⟨x1, x2⟩ := g2 z
    exact ⟨x1.kept (hq _ hlt), x2⟩
  · obtain ⟨x0, r', x1, x2⟩ := g3 z
    exact ⟨x0, r', x1, x2.kept (hq _ hlt)⟩
  · obtain ⟨x0, x1⟩ := g4 z
    exact ⟨x0, by rw [hq _ hlt]; exact x1⟩
/-- ldc of a String, short or wide -/
def kx_ld (cc : ByteArray) (pc i w : Nat) : Prop := (w = 2 ∧ decode cc pc = .ok (.ldc i, 2)) ∨ (w = 3 ∧ decode cc pc = .ok (.ldc_w i, 3))
theorem kx_ldcs (hx : p.tables.exec = Jvm.exec) (hb : c.code = cc) {tx : String} {w : Nat} (hown : s.vm.findClass own = some m.cls) (hw : (Cond.stringRef own i tx).before args s = true) (hd : kx_ld cc pc i w)
    (kk : ∀ q : Nat, W p l e R s m args below meth c H locs cells slots Q (F0 m (pc + w) ls (.ref q :: rest))) : W p l e R s m args below meth c H locs cells slots Q (F0 m pc ls rest) := by
  obtain ⟨k, cf, j, a', -, -, -, -, -, hev⟩ := Cond.stringRef_spec hown hw
  intro T hT X
  rcases hd with ⟨rfl, hd⟩ | ⟨rfl, hd⟩
  · obtain ⟨t, a1, b1⟩ := kk a' T hT X
    exact ⟨t, X.ldcString hx hown (text := tx) (a := a') hw hev (g := F0 m pc ls rest) rfl (by rw [hb]; exact hd) t a1, b1⟩
  · obtain ⟨t, a1, b1⟩ := kk a' T hT X
    exact ⟨t, X.ldcStringW hx hown (text := tx) (a := a') hw hev (g := F0 m pc ls rest) rfl (by rw [hb]; exact hd) t a1, b1⟩
theorem kx_s_th (G : kx_G p e R s m args meth c s0 D cA cc own nL h0) (hT0 : kx_T0 s0) (hfl : l.flags = pinnedFlags ++ [noTraceFlag]) {ic ex i9 i8 w : Nat} {tx : String} (hq : (own, ic, ex) ∈ kx_ths) (hfit : Bundle.fit (kx_en ex) = true) (h1 : Cond.classLink own i9 (kx_en ex) ∈ kx_WS) (h2 : Cond.instantiable (kx_en ex) 6 ∈ kx_WS) (h3 : Cond.initialized (kx_en ex) ∈ kx_WS) (h4 : Cond.stringRef own i8 tx ∈ kx_WS)
    (hd0 : decode cc pc = .ok (.new i9, 3)) (hd1 : decode cc (pc + 3) = .ok (.dup, 1)) (hd2 : kx_ld cc (pc + 4) i8 w) (hd3 : decode cc (pc + 4 + w) = .ok (.invokespecial ic, 3)) (hd4 : decode cc (pc + 4 + w + 3) = .ok (.athrow, 1)) (hfr : 6 ≤ R.frames) (hlo : 100 ≤ R.locals) (hout : ∀ pc, ∀ x ∈ c.exceptionTable.toList, covers x pc = false) : kx_Sn p l e R s m args below meth c s0 D cA nL ι0 h0 rr hf pc (kx_th kx_cc kx_cs ex) := by
  intro lv st h hF
  unfold kx_th at hF
  split at hF
  · split at hF
    · rename_i hroom
      cases hF
      intro ι H locs cells slots ls hP hA hl hs hv hS hC hU hI hE
      obtain ⟨hx, hb, hown, hml, hlocks, hts, hB, hcc, hcs⟩ := id G
      intro T hT X
      have hc1 : cells + 1 ≤ R.cells := by omega
      have hs1 : slots + 6 ≤ R.slots := by omega
      have X' := kx_rebase X (by omega) (by omega)
      have hW' : s.WarmedH (T.setFrames (.invoking m args :: below)).vm := X.warmed
      have hh' : (T.setFrames (.invoking m args :: below)).heap = H := hT
      have hvm' : (T.setFrames (.invoking m args :: below)).vm = T.vm := rfl
      generalize hs' : T.setFrames (.invoking m args :: below) = s' at X' hW' hh' hvm'
      have hts' : ∀ w ∈ kx_WS, w.before args s' = true := fun w hw => kx_good w hw args args s s' hW' (hts w hw)
      have hown' : s'.vm.findClass own = some m.cls := by rw [hW'.alike.findClass]; exact hown
      have hBU := kx_BU hB hW' (by rw [hh']; exact hS)
      have hta := kx_ta_at hT0 hBU.1 hBU.2.2.2.2 hq args
      obtain ⟨cX, kX, hfX, hkX, -⟩ := Cond.instantiable_spec (hts' _ h2)
      have hin : W p l e { frames := R.frames, cells := R.cells - cells, slots := R.slots - slots, locals := R.locals } s' m args below meth c H [] 0 0 (fun t => t.status = .running ∧ Ended t below (.threw H.size) ∧ s'.WarmedH t.vm ∧ s'.sameButNew ({ t with vm := s'.vm } : State) [] 1 6 ∧ ∃ ce, t.heap[H.size]? = some ce ∧ ce.vm = .none ∧ s'.vm.findClass (kx_en ex) = some ce.cls) (F0 m pc ls []) := by
        refine W.newcK hx hb hown' (hts' _ h1) (hts' _ h2) (hts' _ h3) rfl hd0 (by show 0 + 1 ≤ R.cells - cells; omega) (by show 0 + 6 ≤ R.slots - slots; omega) hfX rfl fun H' kC hkC e1 e2 e3 => ?_
        refine lv_dup hx hb hd1 rfl ?_
        refine kx_ldcs hx hb hown' (hts' _ h4) hd2 fun q => ?_
        intro T2 hT2 X2
        obtain ⟨U, u1, u2, u3, u4, u5, ce, u6, u7⟩ := X2.ctorThrowS hx (Launch.traces_off hfl X2.admits) hown' hfit (by decide +kernel) hta (fun x hx => by cases hx) (a := H.size) (cX := cX) (kX := kC) hfX hkC (by rw [hT2]; exact e1) (by rw [hh']; exact Nat.le_refl _) (msg := .ref q) rfl (g := F0 m (pc + 4 + w) ls [.ref q, .ref H.size, .ref H.size]) rfl (by show ls.size = _; rw [hml]; exact hl.1) rfl rfl (rest := []) rfl (by rw [hb]; exact hd3) (by rw [hb]; exact hd4) (hout _) (by show 2 + 3 < R.frames; omega) (by show 2 * 0 + (1 + 0) + (13 * (2 + 1) + 42) ≤ R.locals; omega) hlocks
        exact ⟨U, u1, u2, u3, u4, u5, ce, u6, u7.vm, u7.cls⟩
      obtain ⟨t, a1, b1, b2, b3, b4, ce, b5, b6, b7⟩ := hin T hT X'
      have hkeep : ∀ q : Nat, q < H.size → t.heap[q]? = H[q]? := by
        intro q hq9
        have z : s'.heap[q]? = some H[q] := by rw [hh']; exact Array.getElem?_eq_getElem hq9
        have z2 := b4.old_cell z
        rw [Array.getElem?_eq_getElem hq9]
        exact z2
      have hz : s0.heap.size ≤ H.size := Nat.le_trans hB.2.2.2.1 hS.1
      have hsame : T.sameButNew ({ t with vm := T.vm } : State) [] 1 6 := by
        obtain ⟨z1, z2⟩ := b4
        rw [← hs'] at z1 z2
        refine ⟨?_, z2⟩
        rw [State.setFrames_setFrames] at z1
        exact z1
      have hfin := X.same.trans (hsame.setVm s.vm)
      rw [List.append_nil] at hfin
      refine ⟨t, a1, .threw H.size, b1, b2, ι, locs, cells + 1, slots + 6, hI, kx_P_keep hP hz hkeep, ⟨H.size, ce, rfl, b5, (by rw [b6]; rfl), (by rw [b6]; exact fun z => (by cases z)), ?_⟩, State.WarmedH.trans hW' b3, hfin, hS.2.2, fun q hq9 => ?_, ?_, ?_, ?_⟩
      · rw [b3.alike.findClass]; exact b7
      · rw [hkeep q (Nat.lt_of_lt_of_le hq9 hz)]
        exact hS.2.1 q (Nat.lt_of_lt_of_le hq9 hB.2.2.2.1) (fun z => absurd z.1 (by omega))
      · show hp_C h0 + (cells + 1) = hp_C h + 1; omega
      · show hp_U h0 + (slots + 6) = hp_U h + 6; omega
      · exact ⟨hE.1, hE.2.1, hroom.1, hroom.2⟩
    · cases hF
  · cases hF
end KH
end
