/-! the words, fields, arrays, callees that the blocks lean on: printed by wip/tools/blocks.py -/
abbrev kr_0 : vw_C := ("TaskDesk", kt_F0, 18)
set_option maxRecDepth 20000 in
theorem ki_0 : ∀ w ∈ u_ws (kr_0).1 (kr_0).2.1 (kr_0).2.2, w ∈ kx_WS := kx_sub [381, 383, 385, 387, 389, 391, 393, 395, 397, 399, 401, 403, 405, 407, 409, 411, 413, 415] (by decide +kernel) (by decide +kernel)
theorem ky_0 : ∀ k, k < (kr_0).2.2 → parseFieldDescriptor ((kr_0).2.1 k).2.2.1 = some (kt_y0 k) := by decide +kernel
theorem kd_0 : ∀ k, k < (kr_0).2.2 → defaultValue (kt_y0 k) = kx_dv (kx_ft 0 k).1 := by decide +kernel
abbrev kr_1 : vw_C := ("TaskDesk$Agenda", kt_F1, 2)
set_option maxRecDepth 20000 in
theorem ki_1 : ∀ w ∈ u_ws (kr_1).1 (kr_1).2.1 (kr_1).2.2, w ∈ kx_WS := kx_sub [160, 162] (by decide +kernel) (by decide +kernel)
theorem ky_1 : ∀ k, k < (kr_1).2.2 → parseFieldDescriptor ((kr_1).2.1 k).2.2.1 = some (kt_y1 k) := by decide +kernel
theorem kd_1 : ∀ k, k < (kr_1).2.2 → defaultValue (kt_y1 k) = kx_dv (kx_ft 1 k).1 := by decide +kernel
abbrev kr_2 : vw_C := ("TaskDesk$Channel", kt_F2, 10)
set_option maxRecDepth 20000 in
theorem ki_2 : ∀ w ∈ u_ws (kr_2).1 (kr_2).2.1 (kr_2).2.2, w ∈ kx_WS := kx_sub [190, 192, 194, 196, 198, 200, 202, 204, 206, 208] (by decide +kernel) (by decide +kernel)
theorem ky_2 : ∀ k, k < (kr_2).2.2 → parseFieldDescriptor ((kr_2).2.1 k).2.2.1 = some (kt_y2 k) := by decide +kernel
theorem kd_2 : ∀ k, k < (kr_2).2.2 → defaultValue (kt_y2 k) = kx_dv (kx_ft 2 k).1 := by decide +kernel
abbrev kr_3 : vw_C := ("TaskDesk$Gate", kt_F3, 6)
set_option maxRecDepth 20000 in
theorem ki_3 : ∀ w ∈ u_ws (kr_3).1 (kr_3).2.1 (kr_3).2.2, w ∈ kx_WS := kx_sub [320, 322, 324, 326, 328, 330] (by decide +kernel) (by decide +kernel)
theorem ky_3 : ∀ k, k < (kr_3).2.2 → parseFieldDescriptor ((kr_3).2.1 k).2.2.1 = some (kt_y3 k) := by decide +kernel
theorem kd_3 : ∀ k, k < (kr_3).2.2 → defaultValue (kt_y3 k) = kx_dv (kx_ft 3 k).1 := by decide +kernel
abbrev kr_4 : vw_C := ("TaskDesk$Place", kt_F4, 9)
set_option maxRecDepth 20000 in
theorem ki_4 : ∀ w ∈ u_ws (kr_4).1 (kr_4).2.1 (kr_4).2.2, w ∈ kx_WS := kx_sub [237, 239, 241, 243, 245, 247, 249, 251, 253] (by decide +kernel) (by decide +kernel)
theorem ky_4 : ∀ k, k < (kr_4).2.2 → parseFieldDescriptor ((kr_4).2.1 k).2.2.1 = some (kt_y4 k) := by decide +kernel
theorem kd_4 : ∀ k, k < (kr_4).2.2 → defaultValue (kt_y4 k) = kx_dv (kx_ft 4 k).1 := by decide +kernel
abbrev kr_5 : vw_C := ("TaskDesk$Row", kt_F5, 3)
set_option maxRecDepth 20000 in
theorem ki_5 : ∀ w ∈ u_ws (kr_5).1 (kr_5).2.1 (kr_5).2.2, w ∈ kx_WS := kx_sub [122, 124, 126] (by decide +kernel) (by decide +kernel)
theorem ky_5 : ∀ k, k < (kr_5).2.2 → parseFieldDescriptor ((kr_5).2.1 k).2.2.1 = some (kt_y5 k) := by decide +kernel
theorem kd_5 : ∀ k, k < (kr_5).2.2 → defaultValue (kt_y5 k) = kx_dv (kx_ft 5 k).1 := by decide +kernel
abbrev kr_6 : vw_C := ("TaskDesk$Task", kt_F6, 10)
set_option maxRecDepth 20000 in
theorem ki_6 : ∀ w ∈ u_ws (kr_6).1 (kr_6).2.1 (kr_6).2.2, w ∈ kx_WS := kx_sub [281, 283, 285, 287, 289, 291, 293, 295, 297, 299] (by decide +kernel) (by decide +kernel)
theorem ky_6 : ∀ k, k < (kr_6).2.2 → parseFieldDescriptor ((kr_6).2.1 k).2.2.1 = some (kt_y6 k) := by decide +kernel
theorem kd_6 : ∀ k, k < (kr_6).2.2 → defaultValue (kt_y6 k) = kx_dv (kx_ft 6 k).1 := by decide +kernel
abbrev kr_7 : vw_C := ("TaskDesk$Timer", kt_F7, 4)
set_option maxRecDepth 20000 in
theorem ki_7 : ∀ w ∈ u_ws (kr_7).1 (kr_7).2.1 (kr_7).2.2, w ∈ kx_WS := kx_sub [148, 150, 152, 154] (by decide +kernel) (by decide +kernel)
theorem ky_7 : ∀ k, k < (kr_7).2.2 → parseFieldDescriptor ((kr_7).2.1 k).2.2.1 = some (kt_y7 k) := by decide +kernel
theorem kd_7 : ∀ k, k < (kr_7).2.2 → defaultValue (kt_y7 k) = kx_dv (kx_ft 7 k).1 := by decide +kernel
abbrev kr_8 : vw_C := ("TaskDesk$Value", kt_F8, 2)
set_option maxRecDepth 20000 in
theorem ki_8 : ∀ w ∈ u_ws (kr_8).1 (kr_8).2.1 (kr_8).2.2, w ∈ kx_WS := kx_sub [342, 344] (by decide +kernel) (by decide +kernel)
theorem ky_8 : ∀ k, k < (kr_8).2.2 → parseFieldDescriptor ((kr_8).2.1 k).2.2.1 = some (kt_y8 k) := by decide +kernel
theorem kd_8 : ∀ k, k < (kr_8).2.2 → defaultValue (kt_y8 k) = kx_dv (kx_ft 8 k).1 := by decide +kernel
abbrev kr_9 : vw_C := ("TaskDeskModel", kt_F9, 42)
set_option maxRecDepth 20000 in
theorem ki_9 : ∀ w ∈ u_ws (kr_9).1 (kr_9).2.1 (kr_9).2.2, w ∈ kx_WS := kx_sub [972, 974, 976, 978, 980, 982, 984, 986, 988, 990, 992, 994, 996, 998, 1000, 1002, 1004, 1006, 1008, 1010, 1012, 1014, 1016, 1018, 1020, 1022, 1024, 1026, 1028, 1030, 1032, 1034, 1036, 1038, 1040, 1042, 1044, 1046, 1048, 1050, 1052, 1054] (by decide +kernel) (by decide +kernel)
theorem ky_9 : ∀ k, k < (kr_9).2.2 → parseFieldDescriptor ((kr_9).2.1 k).2.2.1 = some (kt_y9 k) := by decide +kernel
theorem kd_9 : ∀ k, k < (kr_9).2.2 → defaultValue (kt_y9 k) = kx_dv (kx_ft 9 k).1 := by decide +kernel
theorem ka_99 : kx_ar 99 0 0 (.int) := ⟨fun _ => rfl, by decide, rfl⟩
theorem ka_100 : kx_ar 100 1 0 (.long) := ⟨fun _ => rfl, by decide, rfl⟩
theorem ka_101 : kx_ar 101 3 0 (.boolean) := ⟨fun _ => rfl, by decide, rfl⟩
theorem ka_102 : kx_ar 102 2 6 (.object "TaskDesk$Task") := ⟨fun _ => rfl, by decide, rfl⟩
theorem ka_103 : kx_ar 103 2 2 (.object "TaskDesk$Channel") := ⟨fun _ => rfl, by decide, rfl⟩
theorem ka_104 : kx_ar 104 2 4 (.object "TaskDesk$Place") := ⟨fun _ => rfl, by decide, rfl⟩
theorem ka_105 : kx_ar 105 2 3 (.object "TaskDesk$Gate") := ⟨fun _ => rfl, by decide, rfl⟩
theorem kw_0 : (Jvm.Cond.selects "TaskDesk" ⟨"TaskDesk", "keepValue", "(LTaskDesk$Value;)V"⟩ ⟨"TaskDesk", "keepValue", "(LTaskDesk$Value;)V"⟩) ∈ kx_WS := kx_wd1 0 (by decide +kernel) rfl
theorem kw_1 : (Jvm.Cond.selects "TaskDesk" ⟨"TaskDesk", "keepPlace", "(LTaskDesk$Place;)V"⟩ ⟨"TaskDesk", "keepPlace", "(LTaskDesk$Place;)V"⟩) ∈ kx_WS := kx_wd1 1 (by decide +kernel) rfl
theorem kw_2 : (Jvm.Cond.selects "TaskDesk" ⟨"TaskDesk", "channelAt", "(I)LTaskDesk$Channel;"⟩ ⟨"TaskDesk", "channelAt", "(I)LTaskDesk$Channel;"⟩) ∈ kx_WS := kx_wd1 2 (by decide +kernel) rfl
theorem kw_3 : (Jvm.Cond.selects "TaskDesk" ⟨"TaskDesk", "isTold", "(LTaskDesk$Channel;)Z"⟩ ⟨"TaskDesk", "isTold", "(LTaskDesk$Channel;)Z"⟩) ∈ kx_WS := kx_wd1 3 (by decide +kernel) rfl
theorem kw_4 : (Jvm.Cond.selects "TaskDesk" ⟨"TaskDesk", "takeValue", "(LTaskDesk$Channel;)J"⟩ ⟨"TaskDesk", "takeValue", "(LTaskDesk$Channel;)J"⟩) ∈ kx_WS := kx_wd1 4 (by decide +kernel) rfl
theorem kw_5 : (Jvm.Cond.selects "TaskDesk" ⟨"TaskDesk", "howItStands", "()I"⟩ ⟨"TaskDesk", "howItStands", "()I"⟩) ∈ kx_WS := kx_wd1 5 (by decide +kernel) rfl
theorem kw_6 : (Jvm.Cond.selects "TaskDesk" ⟨"TaskDesk", "mustBeCurrent", "()LTaskDesk$Task;"⟩ ⟨"TaskDesk", "mustBeCurrent", "()LTaskDesk$Task;"⟩) ∈ kx_WS := kx_wd1 6 (by decide +kernel) rfl
theorem kw_8 : (Jvm.Cond.selects "TaskDesk" ⟨"TaskDesk", "firstFreeTask", "()LTaskDesk$Task;"⟩ ⟨"TaskDesk", "firstFreeTask", "()LTaskDesk$Task;"⟩) ∈ kx_WS := kx_wd1 8 (by decide +kernel) rfl
theorem kw_9 : (Jvm.Cond.selects "TaskDesk" ⟨"TaskDesk", "makeReady", "(LTaskDesk$Task;)V"⟩ ⟨"TaskDesk", "makeReady", "(LTaskDesk$Task;)V"⟩) ∈ kx_WS := kx_wd1 9 (by decide +kernel) rfl
theorem kw_10 : (Jvm.Cond.selects "TaskDesk" ⟨"TaskDesk", "goOn", "()V"⟩ ⟨"TaskDesk", "goOn", "()V"⟩) ∈ kx_WS := kx_wd1 10 (by decide +kernel) rfl
theorem kw_11 : (Jvm.Cond.selects "TaskDesk" ⟨"TaskDesk", "ring", "(LTaskDesk$Timer;)V"⟩ ⟨"TaskDesk", "ring", "(LTaskDesk$Timer;)V"⟩) ∈ kx_WS := kx_wd1 11 (by decide +kernel) rfl
theorem kw_12 : (Jvm.Cond.selects "TaskDesk" ⟨"TaskDesk", "takesAtOnce", "(LTaskDesk$Channel;)Z"⟩ ⟨"TaskDesk", "takesAtOnce", "(LTaskDesk$Channel;)Z"⟩) ∈ kx_WS := kx_wd1 12 (by decide +kernel) rfl
theorem kw_13 : (Jvm.Cond.selects "TaskDesk" ⟨"TaskDesk", "pass", "(LTaskDesk$Channel;J)V"⟩ ⟨"TaskDesk", "pass", "(LTaskDesk$Channel;J)V"⟩) ∈ kx_WS := kx_wd1 13 (by decide +kernel) rfl
theorem kw_14 : (Jvm.Cond.selects "TaskDesk" ⟨"TaskDesk", "wake", "(LTaskDesk$Place;JZZ)V"⟩ ⟨"TaskDesk", "wake", "(LTaskDesk$Place;JZZ)V"⟩) ∈ kx_WS := kx_wd1 14 (by decide +kernel) rfl
theorem kw_15 : (Jvm.Cond.selects "TaskDesk" ⟨"TaskDesk", "takeOut", "(LTaskDesk$Task;)V"⟩ ⟨"TaskDesk", "takeOut", "(LTaskDesk$Task;)V"⟩) ∈ kx_WS := kx_wd1 15 (by decide +kernel) rfl
theorem kw_16 : (Jvm.Cond.selects "TaskDesk" ⟨"TaskDesk", "putValue", "(LTaskDesk$Channel;J)V"⟩ ⟨"TaskDesk", "putValue", "(LTaskDesk$Channel;J)V"⟩) ∈ kx_WS := kx_wd1 16 (by decide +kernel) rfl
theorem kw_17 : (Jvm.Cond.selects "TaskDesk" ⟨"TaskDesk", "endAll", "()V"⟩ ⟨"TaskDesk", "endAll", "()V"⟩) ∈ kx_WS := kx_wd1 17 (by decide +kernel) rfl
theorem kw_18 : (Jvm.Cond.selects "TaskDesk$Agenda" ⟨"TaskDesk$Agenda", "lastNotAfter", "(J)LTaskDesk$Timer;"⟩ ⟨"TaskDesk$Agenda", "lastNotAfter", "(J)LTaskDesk$Timer;"⟩) ∈ kx_WS := kx_wd1 18 (by decide +kernel) rfl
theorem kw_19 : (Jvm.Cond.selects "TaskDesk" ⟨"TaskDesk", "firstFreeChannel", "()LTaskDesk$Channel;"⟩ ⟨"TaskDesk", "firstFreeChannel", "()LTaskDesk$Channel;"⟩) ∈ kx_WS := kx_wd1 19 (by decide +kernel) rfl
theorem kw_20 : (Jvm.Cond.selects "TaskDesk" ⟨"TaskDesk", "mustBeChannel", "(I)LTaskDesk$Channel;"⟩ ⟨"TaskDesk", "mustBeChannel", "(I)LTaskDesk$Channel;"⟩) ∈ kx_WS := kx_wd1 20 (by decide +kernel) rfl
theorem kw_21 : (Jvm.Cond.selects "TaskDesk" ⟨"TaskDesk", "givesAtOnce", "(LTaskDesk$Channel;)Z"⟩ ⟨"TaskDesk", "givesAtOnce", "(LTaskDesk$Channel;)Z"⟩) ∈ kx_WS := kx_wd1 21 (by decide +kernel) rfl
theorem kw_22 : (Jvm.Cond.selects "TaskDesk" ⟨"TaskDesk", "receiveNow", "(LTaskDesk$Task;LTaskDesk$Channel;I)V"⟩ ⟨"TaskDesk", "receiveNow", "(LTaskDesk$Task;LTaskDesk$Channel;I)V"⟩) ∈ kx_WS := kx_wd1 22 (by decide +kernel) rfl
theorem kw_23 : (Jvm.Cond.selects "TaskDesk" ⟨"TaskDesk", "wakeAll", "(LTaskDesk$Row;ZZ)V"⟩ ⟨"TaskDesk", "wakeAll", "(LTaskDesk$Row;ZZ)V"⟩) ∈ kx_WS := kx_wd1 23 (by decide +kernel) rfl
theorem kw_24 : (Jvm.Cond.selects "TaskDesk" ⟨"TaskDesk", "openCase", "(I)LTaskDesk$Place;"⟩ ⟨"TaskDesk", "openCase", "(I)LTaskDesk$Place;"⟩) ∈ kx_WS := kx_wd1 24 (by decide +kernel) rfl
theorem kw_25 : (Jvm.Cond.selects "TaskDesk" ⟨"TaskDesk", "isOpen", "(LTaskDesk$Place;)Z"⟩ ⟨"TaskDesk", "isOpen", "(LTaskDesk$Place;)Z"⟩) ∈ kx_WS := kx_wd1 25 (by decide +kernel) rfl
theorem kw_26 : (Jvm.Cond.selects "TaskDesk" ⟨"TaskDesk", "doCase", "(LTaskDesk$Task;LTaskDesk$Place;)V"⟩ ⟨"TaskDesk", "doCase", "(LTaskDesk$Task;LTaskDesk$Place;)V"⟩) ∈ kx_WS := kx_wd1 26 (by decide +kernel) rfl
theorem kw_27 : (Jvm.Cond.selects "TaskDesk" ⟨"TaskDesk", "forgetCases", "()V"⟩ ⟨"TaskDesk", "forgetCases", "()V"⟩) ∈ kx_WS := kx_wd1 27 (by decide +kernel) rfl
theorem kw_28 : (Jvm.Cond.selects "TaskDesk" ⟨"TaskDesk", "waitInCases", "(LTaskDesk$Task;)V"⟩ ⟨"TaskDesk", "waitInCases", "(LTaskDesk$Task;)V"⟩) ∈ kx_WS := kx_wd1 28 (by decide +kernel) rfl
theorem kw_29 : (Jvm.Cond.selects "TaskDesk" ⟨"TaskDesk", "gateAt", "(I)LTaskDesk$Gate;"⟩ ⟨"TaskDesk", "gateAt", "(I)LTaskDesk$Gate;"⟩) ∈ kx_WS := kx_wd1 29 (by decide +kernel) rfl
theorem kw_30 : (Jvm.Cond.selects "TaskDesk" ⟨"TaskDesk", "mustBeGate", "(I)LTaskDesk$Gate;"⟩ ⟨"TaskDesk", "mustBeGate", "(I)LTaskDesk$Gate;"⟩) ∈ kx_WS := kx_wd1 30 (by decide +kernel) rfl
theorem kw_31 : (Jvm.Cond.selects "TaskDesk" ⟨"TaskDesk", "giveUpLockOf", "(LTaskDesk$Gate;)V"⟩ ⟨"TaskDesk", "giveUpLockOf", "(LTaskDesk$Gate;)V"⟩) ∈ kx_WS := kx_wd1 31 (by decide +kernel) rfl
theorem kw_32 : (Jvm.Cond.selects "TaskDesk" ⟨"TaskDesk", "giveLockBack", "(LTaskDesk$Gate;)V"⟩ ⟨"TaskDesk", "giveLockBack", "(LTaskDesk$Gate;)V"⟩) ∈ kx_WS := kx_wd1 32 (by decide +kernel) rfl
theorem kw_33 : (Jvm.Cond.selects "TaskDesk" ⟨"TaskDesk", "endWriting", "(LTaskDesk$Gate;)V"⟩ ⟨"TaskDesk", "endWriting", "(LTaskDesk$Gate;)V"⟩) ∈ kx_WS := kx_wd1 33 (by decide +kernel) rfl
theorem kw_34 : (Jvm.Cond.selects "TaskDesk" ⟨"TaskDesk", "letWriterIn", "(LTaskDesk$Gate;)V"⟩ ⟨"TaskDesk", "letWriterIn", "(LTaskDesk$Gate;)V"⟩) ∈ kx_WS := kx_wd1 34 (by decide +kernel) rfl
theorem kw_35 : (Jvm.Cond.selects "TaskDesk" ⟨"TaskDesk", "setGroup", "(LTaskDesk$Gate;I)V"⟩ ⟨"TaskDesk", "setGroup", "(LTaskDesk$Gate;I)V"⟩) ∈ kx_WS := kx_wd1 35 (by decide +kernel) rfl
theorem kw_36 : (Jvm.Cond.selects "TaskDesk" ⟨"TaskDesk", "wakeFirstOfSignal", "(LTaskDesk$Gate;)V"⟩ ⟨"TaskDesk", "wakeFirstOfSignal", "(LTaskDesk$Gate;)V"⟩) ∈ kx_WS := kx_wd1 36 (by decide +kernel) rfl
theorem kw_37 : (Jvm.Cond.selects "TaskDesk" ⟨"TaskDesk", "endReading", "(LTaskDesk$Gate;)V"⟩ ⟨"TaskDesk", "endReading", "(LTaskDesk$Gate;)V"⟩) ∈ kx_WS := kx_wd1 37 (by decide +kernel) rfl
theorem kw_38 : (Jvm.Cond.selects "TaskDesk" ⟨"TaskDesk", "wakeAllOfSignal", "(LTaskDesk$Gate;)V"⟩ ⟨"TaskDesk", "wakeAllOfSignal", "(LTaskDesk$Gate;)V"⟩) ∈ kx_WS := kx_wd1 38 (by decide +kernel) rfl
theorem kw_39 : (Jvm.Cond.selects "TaskDesk" ⟨"TaskDesk", "mustBeTask", "(I)LTaskDesk$Task;"⟩ ⟨"TaskDesk", "mustBeTask", "(I)LTaskDesk$Task;"⟩) ∈ kx_WS := kx_wd1 39 (by decide +kernel) rfl
theorem kw_40 : (Jvm.Cond.selects "TaskDesk" ⟨"TaskDesk", "countBefore", "(LTaskDesk$Place;)I"⟩ ⟨"TaskDesk", "countBefore", "(LTaskDesk$Place;)I"⟩) ∈ kx_WS := kx_wd1 40 (by decide +kernel) rfl
theorem kw_41 : (Jvm.Cond.selects "TaskDeskModel" ⟨"TaskDeskModel", "fail", "(I)I"⟩ ⟨"TaskDeskModel", "fail", "(I)I"⟩) ∈ kx_WS := kx_wd1 41 (by decide +kernel) rfl
theorem kw_42 : (Jvm.Cond.selects "TaskDeskModel" ⟨"TaskDeskModel", "isChannel", "(I)Z"⟩ ⟨"TaskDeskModel", "isChannel", "(I)Z"⟩) ∈ kx_WS := kx_wd1 42 (by decide +kernel) rfl
theorem kw_43 : (Jvm.Cond.selects "TaskDeskModel" ⟨"TaskDeskModel", "first", "(IZ)I"⟩ ⟨"TaskDeskModel", "first", "(IZ)I"⟩) ∈ kx_WS := kx_wd1 43 (by decide +kernel) rfl
theorem kw_44 : (Jvm.Cond.selects "TaskDeskModel" ⟨"TaskDeskModel", "held", "(I)I"⟩ ⟨"TaskDeskModel", "held", "(I)I"⟩) ∈ kx_WS := kx_wd1 44 (by decide +kernel) rfl
theorem kw_45 : (Jvm.Cond.selects "TaskDeskModel" ⟨"TaskDeskModel", "takeFirst", "(I)J"⟩ ⟨"TaskDeskModel", "takeFirst", "(I)J"⟩) ∈ kx_WS := kx_wd1 45 (by decide +kernel) rfl
theorem kw_46 : (Jvm.Cond.selects "TaskDeskModel" ⟨"TaskDeskModel", "no", "(I)Z"⟩ ⟨"TaskDeskModel", "no", "(I)Z"⟩) ∈ kx_WS := kx_wd1 46 (by decide +kernel) rfl
theorem kw_47 : (Jvm.Cond.selects "TaskDeskModel" ⟨"TaskDeskModel", "maySend", "(I)Z"⟩ ⟨"TaskDeskModel", "maySend", "(I)Z"⟩) ∈ kx_WS := kx_wd1 47 (by decide +kernel) rfl
theorem kw_48 : (Jvm.Cond.selects "TaskDeskModel" ⟨"TaskDeskModel", "deliver", "(IJ)V"⟩ ⟨"TaskDeskModel", "deliver", "(IJ)V"⟩) ∈ kx_WS := kx_wd1 48 (by decide +kernel) rfl
theorem kw_49 : (Jvm.Cond.selects "TaskDeskModel" ⟨"TaskDeskModel", "met", "(IJZZ)V"⟩ ⟨"TaskDeskModel", "met", "(IJZZ)V"⟩) ∈ kx_WS := kx_wd1 49 (by decide +kernel) rfl
theorem kw_50 : (Jvm.Cond.selects "TaskDeskModel" ⟨"TaskDeskModel", "has", "(IJZIZ)V"⟩ ⟨"TaskDeskModel", "has", "(IJZIZ)V"⟩) ∈ kx_WS := kx_wd1 50 (by decide +kernel) rfl
theorem kw_51 : (Jvm.Cond.selects "TaskDeskModel" ⟨"TaskDeskModel", "withdraw", "(I)V"⟩ ⟨"TaskDeskModel", "withdraw", "(I)V"⟩) ∈ kx_WS := kx_wd1 51 (by decide +kernel) rfl
theorem kw_52 : (Jvm.Cond.selects "TaskDeskModel" ⟨"TaskDeskModel", "wake", "(I)V"⟩ ⟨"TaskDeskModel", "wake", "(I)V"⟩) ∈ kx_WS := kx_wd1 52 (by decide +kernel) rfl
theorem kw_53 : (Jvm.Cond.selects "TaskDeskModel" ⟨"TaskDeskModel", "store", "(IJ)V"⟩ ⟨"TaskDeskModel", "store", "(IJ)V"⟩) ∈ kx_WS := kx_wd1 53 (by decide +kernel) rfl
theorem kw_54 : (Jvm.Cond.selects "TaskDeskModel" ⟨"TaskDeskModel", "offer", "(IIZJI)V"⟩ ⟨"TaskDeskModel", "offer", "(IIZJI)V"⟩) ∈ kx_WS := kx_wd1 54 (by decide +kernel) rfl
theorem kw_55 : (Jvm.Cond.selects "TaskDeskModel" ⟨"TaskDeskModel", "rest", "(II)V"⟩ ⟨"TaskDeskModel", "rest", "(II)V"⟩) ∈ kx_WS := kx_wd1 55 (by decide +kernel) rfl
theorem kw_56 : (Jvm.Cond.selects "TaskDeskModel" ⟨"TaskDeskModel", "next", "()V"⟩ ⟨"TaskDeskModel", "next", "()V"⟩) ∈ kx_WS := kx_wd1 56 (by decide +kernel) rfl
theorem kw_57 : (Jvm.Cond.selects "TaskDeskModel" ⟨"TaskDeskModel", "ring", "()V"⟩ ⟨"TaskDeskModel", "ring", "()V"⟩) ∈ kx_WS := kx_wd1 57 (by decide +kernel) rfl
theorem kw_58 : (Jvm.Cond.selects "TaskDeskModel" ⟨"TaskDeskModel", "rings", "(I)V"⟩ ⟨"TaskDeskModel", "rings", "(I)V"⟩) ∈ kx_WS := kx_wd1 58 (by decide +kernel) rfl
theorem kw_59 : (Jvm.Cond.selects "TaskDeskModel" ⟨"TaskDeskModel", "mayReceive", "(I)Z"⟩ ⟨"TaskDeskModel", "mayReceive", "(I)Z"⟩) ∈ kx_WS := kx_wd1 59 (by decide +kernel) rfl
theorem kw_60 : (Jvm.Cond.selects "TaskDeskModel" ⟨"TaskDeskModel", "take", "(II)V"⟩ ⟨"TaskDeskModel", "take", "(II)V"⟩) ∈ kx_WS := kx_wd1 60 (by decide +kernel) rfl
theorem kw_61 : (Jvm.Cond.selects "TaskDeskModel" ⟨"TaskDeskModel", "isReady", "(I)Z"⟩ ⟨"TaskDeskModel", "isReady", "(I)Z"⟩) ∈ kx_WS := kx_wd1 61 (by decide +kernel) rfl
theorem kw_62 : (Jvm.Cond.selects "TaskDeskModel" ⟨"TaskDeskModel", "done", "(I)Z"⟩ ⟨"TaskDeskModel", "done", "(I)Z"⟩) ∈ kx_WS := kx_wd1 62 (by decide +kernel) rfl
theorem kw_63 : (Jvm.Cond.selects "TaskDeskModel" ⟨"TaskDeskModel", "isGate", "(I)Z"⟩ ⟨"TaskDeskModel", "isGate", "(I)Z"⟩) ∈ kx_WS := kx_wd1 63 (by decide +kernel) rfl
theorem kw_64 : (Jvm.Cond.selects "TaskDeskModel" ⟨"TaskDeskModel", "passes", "(ZIZZ)Z"⟩ ⟨"TaskDeskModel", "passes", "(ZIZZ)Z"⟩) ∈ kx_WS := kx_wd1 64 (by decide +kernel) rfl
theorem kw_65 : (Jvm.Cond.selects "TaskDeskModel" ⟨"TaskDeskModel", "stand", "(IIZ)V"⟩ ⟨"TaskDeskModel", "stand", "(IIZ)V"⟩) ∈ kx_WS := kx_wd1 65 (by decide +kernel) rfl
theorem kw_66 : (Jvm.Cond.selects "TaskDeskModel" ⟨"TaskDeskModel", "unlock", "(I)V"⟩ ⟨"TaskDeskModel", "unlock", "(I)V"⟩) ∈ kx_WS := kx_wd1 66 (by decide +kernel) rfl
theorem kw_67 : (Jvm.Cond.selects "TaskDeskModel" ⟨"TaskDeskModel", "standing", "(II)I"⟩ ⟨"TaskDeskModel", "standing", "(II)I"⟩) ∈ kx_WS := kx_wd1 67 (by decide +kernel) rfl
theorem kw_68 : (Jvm.Cond.selects "TaskDeskModel" ⟨"TaskDeskModel", "lets", "(IZ)V"⟩ ⟨"TaskDeskModel", "lets", "(IZ)V"⟩) ∈ kx_WS := kx_wd1 68 (by decide +kernel) rfl
theorem kw_69 : (Jvm.Cond.selects "TaskDeskModel" ⟨"TaskDeskModel", "takeOut", "(I)I"⟩ ⟨"TaskDeskModel", "takeOut", "(I)I"⟩) ∈ kx_WS := kx_wd1 69 (by decide +kernel) rfl
theorem kw_70 : (Jvm.Cond.selects "TaskDeskModel" ⟨"TaskDeskModel", "letReaders", "(I)V"⟩ ⟨"TaskDeskModel", "letReaders", "(I)V"⟩) ∈ kx_WS := kx_wd1 70 (by decide +kernel) rfl
theorem kw_71 : (Jvm.Cond.selects "TaskDeskModel" ⟨"TaskDeskModel", "letWriter", "(I)V"⟩ ⟨"TaskDeskModel", "letWriter", "(I)V"⟩) ∈ kx_WS := kx_wd1 71 (by decide +kernel) rfl
theorem kw_72 : (Jvm.Cond.selects "TaskDeskModel" ⟨"TaskDeskModel", "grow", "(II)V"⟩ ⟨"TaskDeskModel", "grow", "(II)V"⟩) ∈ kx_WS := kx_wd1 72 (by decide +kernel) rfl
theorem kw_73 : (Jvm.Cond.selects "TaskDeskModel" ⟨"TaskDeskModel", "letAll", "(IZ)V"⟩ ⟨"TaskDeskModel", "letAll", "(IZ)V"⟩) ∈ kx_WS := kx_wd1 73 (by decide +kernel) rfl
theorem kw_74 : (Jvm.Cond.selects "TaskDeskModel" ⟨"TaskDeskModel", "signal", "(I)V"⟩ ⟨"TaskDeskModel", "signal", "(I)V"⟩) ∈ kx_WS := kx_wd1 74 (by decide +kernel) rfl
theorem kw_75 : (Jvm.Cond.selects "TaskDeskModel" ⟨"TaskDeskModel", "waitAt", "(I)I"⟩ ⟨"TaskDeskModel", "waitAt", "(I)I"⟩) ∈ kx_WS := kx_wd1 75 (by decide +kernel) rfl
theorem kw_76 : (Jvm.Cond.selects "TaskDeskModel" ⟨"TaskDeskModel", "isTask", "(I)Z"⟩ ⟨"TaskDeskModel", "isTask", "(I)Z"⟩) ∈ kx_WS := kx_wd1 76 (by decide +kernel) rfl
theorem kw_77 : (Jvm.Cond.selects "TaskDeskModel" ⟨"TaskDeskModel", "living", "()I"⟩ ⟨"TaskDeskModel", "living", "()I"⟩) ∈ kx_WS := kx_wd1 77 (by decide +kernel) rfl
theorem kw_78 : (Jvm.Cond.selects "TaskDeskModel" ⟨"TaskDeskModel", "channels", "()I"⟩ ⟨"TaskDeskModel", "channels", "()I"⟩) ∈ kx_WS := kx_wd1 78 (by decide +kernel) rfl
theorem kw_79 : (Jvm.Cond.initialized "TaskDeskLaw") ∈ kx_WS := kx_wd1 79 (by decide +kernel) rfl
theorem kw_80 : (Jvm.Cond.initialized "TaskDesk") ∈ kx_WS := kx_wd1 80 (by decide +kernel) rfl
theorem kw_81 : (Jvm.Cond.initialized "TaskDesk$Row") ∈ kx_WS := kx_wd1 81 (by decide +kernel) rfl
theorem kw_82 : (Jvm.Cond.initialized "TaskDesk$Agenda") ∈ kx_WS := kx_wd1 82 (by decide +kernel) rfl
theorem kw_83 : (Jvm.Cond.initialized "TaskDesk$Timer") ∈ kx_WS := kx_wd1 83 (by decide +kernel) rfl
theorem kw_84 : (Jvm.Cond.initialized "TaskDesk$Channel") ∈ kx_WS := kx_wd1 84 (by decide +kernel) rfl
theorem kw_85 : (Jvm.Cond.initialized "TaskDesk$Place") ∈ kx_WS := kx_wd1 85 (by decide +kernel) rfl
theorem kw_86 : (Jvm.Cond.initialized "TaskDesk$Task") ∈ kx_WS := kx_wd1 86 (by decide +kernel) rfl
theorem kw_87 : (Jvm.Cond.initialized "TaskDesk$Gate") ∈ kx_WS := kx_wd1 87 (by decide +kernel) rfl
theorem kw_88 : (Jvm.Cond.initialized "TaskDesk$Value") ∈ kx_WS := kx_wd1 88 (by decide +kernel) rfl
theorem kw_89 : (Jvm.Cond.initialized "TaskDeskModel") ∈ kx_WS := kx_wd1 89 (by decide +kernel) rfl
theorem kw_93 : (Jvm.Cond.initialized "java/lang/IllegalStateException") ∈ kx_WS := kx_wd1 93 (by decide +kernel) rfl
theorem kw_94 : (Jvm.Cond.initialized "java/lang/IllegalArgumentException") ∈ kx_WS := kx_wd1 94 (by decide +kernel) rfl
theorem kw_95 : (Jvm.Cond.initialized "java/lang/UnsupportedOperationException") ∈ kx_WS := kx_wd1 95 (by decide +kernel) rfl
theorem kw_96 : (Jvm.Cond.initialized "java/util/NoSuchElementException") ∈ kx_WS := kx_wd1 96 (by decide +kernel) rfl
theorem kw_97 : (Jvm.Cond.classLink "TaskDeskLaw" (8 : Nat) "TaskDesk") ∈ kx_WS := kx_wd1 97 (by decide +kernel) rfl
theorem kw_98 : (Jvm.Cond.instantiable "TaskDesk" (18 : Nat)) ∈ kx_WS := kx_wd1 98 (by decide +kernel) rfl
theorem kw_99 : (Jvm.Cond.methodLink "TaskDeskLaw" (89 : Nat) ({ cls := "TaskDesk", name := "<init>", desc := "()V" } : Jvm.MethodName)) ∈ kx_WS := kx_wd1 99 (by decide +kernel) rfl
theorem kw_100 : (Jvm.Cond.instanceMethod ({ cls := "TaskDesk", name := "<init>", desc := "()V" } : Jvm.MethodName)) ∈ kx_WS := kx_wd1 100 (by decide +kernel) rfl
theorem kw_101 : (Jvm.Cond.code ({ cls := "TaskDesk", name := "<init>", desc := "()V" } : Jvm.MethodName) prog_1_method_1_code (4 : Nat) (Option.none : Option Jvm.ClassFile.FieldType)) ∈ kx_WS := kx_wd1 101 (by decide +kernel) rfl
theorem kw_102 : (Jvm.Cond.methodLink "TaskDesk" (3 : Nat) ({ cls := "java/lang/Object", name := "<init>", desc := "()V" } : Jvm.MethodName)) ∈ kx_WS := kx_wd1 102 (by decide +kernel) rfl
theorem kw_103 : (Jvm.Cond.instanceMethod ({ cls := "java/lang/Object", name := "<init>", desc := "()V" } : Jvm.MethodName)) ∈ kx_WS := kx_wd1 103 (by decide +kernel) rfl
theorem kw_104 : (Jvm.Cond.code ({ cls := "java/lang/Object", name := "<init>", desc := "()V" } : Jvm.MethodName) object_method_1_code (1 : Nat) (Option.none : Option Jvm.ClassFile.FieldType)) ∈ kx_WS := kx_wd1 104 (by decide +kernel) rfl
theorem kw_105 : (Jvm.Cond.classLink "TaskDesk" (9 : Nat) "TaskDesk$Task") ∈ kx_WS := kx_wd1 105 (by decide +kernel) rfl
theorem kw_106 : (Jvm.Cond.arrayOver (Jvm.ClassFile.FieldType.object "TaskDesk$Task")) ∈ kx_WS := kx_wd1 106 (by decide +kernel) rfl
theorem kw_107 : (Jvm.Cond.classLink "TaskDesk" (15 : Nat) "TaskDesk$Row") ∈ kx_WS := kx_wd1 107 (by decide +kernel) rfl
theorem kw_108 : (Jvm.Cond.instantiable "TaskDesk$Row" (3 : Nat)) ∈ kx_WS := kx_wd1 108 (by decide +kernel) rfl
theorem kw_109 : (Jvm.Cond.methodLinkNest "TaskDesk" (17 : Nat) ({ cls := "TaskDesk$Row", name := "<init>", desc := "()V" } : Jvm.MethodName) "TaskDesk") ∈ kx_WS := kx_wd1 109 (by decide +kernel) rfl
theorem kw_110 : (Jvm.Cond.instanceMethod ({ cls := "TaskDesk$Row", name := "<init>", desc := "()V" } : Jvm.MethodName)) ∈ kx_WS := kx_wd1 110 (by decide +kernel) rfl
theorem kw_111 : (Jvm.Cond.code ({ cls := "TaskDesk$Row", name := "<init>", desc := "()V" } : Jvm.MethodName) prog_6_method_1_code (1 : Nat) (Option.none : Option Jvm.ClassFile.FieldType)) ∈ kx_WS := kx_wd1 111 (by decide +kernel) rfl
theorem kw_112 : (Jvm.Cond.methodLink "TaskDesk$Row" (1 : Nat) ({ cls := "java/lang/Object", name := "<init>", desc := "()V" } : Jvm.MethodName)) ∈ kx_WS := kx_wd1 112 (by decide +kernel) rfl
theorem kw_113 : (Jvm.Cond.fieldLink "TaskDesk$Row" (22 : Nat) "TaskDesk$Row" "first" "LTaskDesk$Place;") ∈ kx_WS := kx_wd1 113 (by decide +kernel) rfl
theorem kw_114 : (Jvm.Cond.fieldLink "TaskDesk$Place" (30 : Nat) "TaskDesk$Row" "first" "LTaskDesk$Place;") ∈ kx_WS := kx_wd1 114 (by decide +kernel) rfl
theorem kw_115 : (Jvm.Cond.fieldLink "TaskDesk" (317 : Nat) "TaskDesk$Row" "first" "LTaskDesk$Place;") ∈ kx_WS := kx_wd1 115 (by decide +kernel) rfl
theorem kw_116 : (Jvm.Cond.fieldLink "TaskDesk$Row" (13 : Nat) "TaskDesk$Row" "last" "LTaskDesk$Place;") ∈ kx_WS := kx_wd1 116 (by decide +kernel) rfl
theorem kw_117 : (Jvm.Cond.fieldLink "TaskDesk$Place" (35 : Nat) "TaskDesk$Row" "last" "LTaskDesk$Place;") ∈ kx_WS := kx_wd1 117 (by decide +kernel) rfl
theorem kw_118 : (Jvm.Cond.fieldLink "TaskDesk$Channel" (23 : Nat) "TaskDesk$Row" "length" "I") ∈ kx_WS := kx_wd1 118 (by decide +kernel) rfl
theorem kw_119 : (Jvm.Cond.fieldLink "TaskDesk$Row" (28 : Nat) "TaskDesk$Row" "length" "I") ∈ kx_WS := kx_wd1 119 (by decide +kernel) rfl
theorem kw_120 : (Jvm.Cond.fieldLink "TaskDesk$Place" (38 : Nat) "TaskDesk$Row" "length" "I") ∈ kx_WS := kx_wd1 120 (by decide +kernel) rfl
theorem kw_121 : (Jvm.Cond.fieldLink "TaskDesk" (383 : Nat) "TaskDesk$Row" "length" "I") ∈ kx_WS := kx_wd1 121 (by decide +kernel) rfl
theorem kw_129 : (Jvm.Cond.classLink "TaskDesk" (22 : Nat) "TaskDesk$Agenda") ∈ kx_WS := kx_wd1 129 (by decide +kernel) rfl
theorem kw_130 : (Jvm.Cond.instantiable "TaskDesk$Agenda" (2 : Nat)) ∈ kx_WS := kx_wd1 130 (by decide +kernel) rfl
theorem kw_131 : (Jvm.Cond.methodLink "TaskDesk" (24 : Nat) ({ cls := "TaskDesk$Agenda", name := "<init>", desc := "()V" } : Jvm.MethodName)) ∈ kx_WS := kx_wd1 131 (by decide +kernel) rfl
theorem kw_132 : (Jvm.Cond.instanceMethod ({ cls := "TaskDesk$Agenda", name := "<init>", desc := "()V" } : Jvm.MethodName)) ∈ kx_WS := kx_wd1 132 (by decide +kernel) rfl
theorem kw_133 : (Jvm.Cond.code ({ cls := "TaskDesk$Agenda", name := "<init>", desc := "()V" } : Jvm.MethodName) prog_2_method_1_code (3 : Nat) (Option.none : Option Jvm.ClassFile.FieldType)) ∈ kx_WS := kx_wd1 133 (by decide +kernel) rfl
theorem kw_134 : (Jvm.Cond.methodLink "TaskDesk$Agenda" (3 : Nat) ({ cls := "java/lang/Object", name := "<init>", desc := "()V" } : Jvm.MethodName)) ∈ kx_WS := kx_wd1 134 (by decide +kernel) rfl
theorem kw_135 : (Jvm.Cond.classLink "TaskDesk$Agenda" (9 : Nat) "TaskDesk$Timer") ∈ kx_WS := kx_wd1 135 (by decide +kernel) rfl
theorem kw_136 : (Jvm.Cond.instantiable "TaskDesk$Timer" (4 : Nat)) ∈ kx_WS := kx_wd1 136 (by decide +kernel) rfl
theorem kw_137 : (Jvm.Cond.methodLinkNest "TaskDesk$Agenda" (11 : Nat) ({ cls := "TaskDesk$Timer", name := "<init>", desc := "()V" } : Jvm.MethodName) "TaskDesk") ∈ kx_WS := kx_wd1 137 (by decide +kernel) rfl
theorem kw_138 : (Jvm.Cond.instanceMethod ({ cls := "TaskDesk$Timer", name := "<init>", desc := "()V" } : Jvm.MethodName)) ∈ kx_WS := kx_wd1 138 (by decide +kernel) rfl
theorem kw_139 : (Jvm.Cond.code ({ cls := "TaskDesk$Timer", name := "<init>", desc := "()V" } : Jvm.MethodName) prog_8_method_1_code (1 : Nat) (Option.none : Option Jvm.ClassFile.FieldType)) ∈ kx_WS := kx_wd1 139 (by decide +kernel) rfl
theorem kw_140 : (Jvm.Cond.methodLink "TaskDesk$Timer" (1 : Nat) ({ cls := "java/lang/Object", name := "<init>", desc := "()V" } : Jvm.MethodName)) ∈ kx_WS := kx_wd1 140 (by decide +kernel) rfl
theorem kw_141 : (Jvm.Cond.fieldLink "TaskDesk$Agenda" (21 : Nat) "TaskDesk$Timer" "time" "J") ∈ kx_WS := kx_wd1 141 (by decide +kernel) rfl
theorem kw_142 : (Jvm.Cond.fieldLink "TaskDesk" (409 : Nat) "TaskDesk$Timer" "time" "J") ∈ kx_WS := kx_wd1 142 (by decide +kernel) rfl
theorem kw_143 : (Jvm.Cond.fieldLink "TaskDesk$Agenda" (25 : Nat) "TaskDesk$Timer" "sleeper" "LTaskDesk$Task;") ∈ kx_WS := kx_wd1 143 (by decide +kernel) rfl
theorem kw_144 : (Jvm.Cond.fieldLink "TaskDesk" (424 : Nat) "TaskDesk$Timer" "sleeper" "LTaskDesk$Task;") ∈ kx_WS := kx_wd1 144 (by decide +kernel) rfl
theorem kw_145 : (Jvm.Cond.fieldLink "TaskDesk$Agenda" (29 : Nat) "TaskDesk$Timer" "target" "LTaskDesk$Channel;") ∈ kx_WS := kx_wd1 145 (by decide +kernel) rfl
theorem kw_146 : (Jvm.Cond.fieldLink "TaskDesk" (427 : Nat) "TaskDesk$Timer" "target" "LTaskDesk$Channel;") ∈ kx_WS := kx_wd1 146 (by decide +kernel) rfl
theorem kw_147 : (Jvm.Cond.fieldLink "TaskDesk$Agenda" (18 : Nat) "TaskDesk$Timer" "behind" "LTaskDesk$Timer;") ∈ kx_WS := kx_wd1 147 (by decide +kernel) rfl
theorem kw_157 : (Jvm.Cond.fieldLink "TaskDesk$Agenda" (37 : Nat) "TaskDesk$Agenda" "first" "LTaskDesk$Timer;") ∈ kx_WS := kx_wd1 157 (by decide +kernel) rfl
theorem kw_158 : (Jvm.Cond.fieldLink "TaskDesk" (418 : Nat) "TaskDesk$Agenda" "first" "LTaskDesk$Timer;") ∈ kx_WS := kx_wd1 158 (by decide +kernel) rfl
theorem kw_159 : (Jvm.Cond.fieldLink "TaskDesk$Agenda" (12 : Nat) "TaskDesk$Agenda" "free" "LTaskDesk$Timer;") ∈ kx_WS := kx_wd1 159 (by decide +kernel) rfl
theorem kw_165 : (Jvm.Cond.classLink "TaskDesk" (29 : Nat) "TaskDesk$Channel") ∈ kx_WS := kx_wd1 165 (by decide +kernel) rfl
theorem kw_166 : (Jvm.Cond.arrayOver (Jvm.ClassFile.FieldType.object "TaskDesk$Channel")) ∈ kx_WS := kx_wd1 166 (by decide +kernel) rfl
theorem kw_167 : (Jvm.Cond.instantiable "TaskDesk$Channel" (10 : Nat)) ∈ kx_WS := kx_wd1 167 (by decide +kernel) rfl
theorem kw_168 : (Jvm.Cond.methodLink "TaskDesk" (35 : Nat) ({ cls := "TaskDesk$Channel", name := "<init>", desc := "(I)V" } : Jvm.MethodName)) ∈ kx_WS := kx_wd1 168 (by decide +kernel) rfl
theorem kw_169 : (Jvm.Cond.instanceMethod ({ cls := "TaskDesk$Channel", name := "<init>", desc := "(I)V" } : Jvm.MethodName)) ∈ kx_WS := kx_wd1 169 (by decide +kernel) rfl
theorem kw_170 : (Jvm.Cond.code ({ cls := "TaskDesk$Channel", name := "<init>", desc := "(I)V" } : Jvm.MethodName) prog_3_method_1_code (2 : Nat) (Option.none : Option Jvm.ClassFile.FieldType)) ∈ kx_WS := kx_wd1 170 (by decide +kernel) rfl
theorem kw_171 : (Jvm.Cond.methodLink "TaskDesk$Channel" (1 : Nat) ({ cls := "java/lang/Object", name := "<init>", desc := "()V" } : Jvm.MethodName)) ∈ kx_WS := kx_wd1 171 (by decide +kernel) rfl
theorem kw_172 : (Jvm.Cond.classLink "TaskDesk$Channel" (7 : Nat) "TaskDesk$Row") ∈ kx_WS := kx_wd1 172 (by decide +kernel) rfl
theorem kw_173 : (Jvm.Cond.methodLinkNest "TaskDesk$Channel" (9 : Nat) ({ cls := "TaskDesk$Row", name := "<init>", desc := "()V" } : Jvm.MethodName) "TaskDesk") ∈ kx_WS := kx_wd1 173 (by decide +kernel) rfl
theorem kw_174 : (Jvm.Cond.fieldLink "TaskDesk$Channel" (19 : Nat) "TaskDesk$Channel" "number" "I") ∈ kx_WS := kx_wd1 174 (by decide +kernel) rfl
theorem kw_175 : (Jvm.Cond.fieldLink "TaskDesk" (162 : Nat) "TaskDesk$Channel" "number" "I") ∈ kx_WS := kx_wd1 175 (by decide +kernel) rfl
theorem kw_176 : (Jvm.Cond.fieldLink "TaskDesk$Channel" (10 : Nat) "TaskDesk$Channel" "senders" "LTaskDesk$Row;") ∈ kx_WS := kx_wd1 176 (by decide +kernel) rfl
theorem kw_177 : (Jvm.Cond.fieldLink "TaskDesk" (218 : Nat) "TaskDesk$Channel" "senders" "LTaskDesk$Row;") ∈ kx_WS := kx_wd1 177 (by decide +kernel) rfl
theorem kw_178 : (Jvm.Cond.fieldLink "TaskDesk$Channel" (16 : Nat) "TaskDesk$Channel" "receivers" "LTaskDesk$Row;") ∈ kx_WS := kx_wd1 178 (by decide +kernel) rfl
theorem kw_179 : (Jvm.Cond.fieldLink "TaskDesk" (232 : Nat) "TaskDesk$Channel" "receivers" "LTaskDesk$Row;") ∈ kx_WS := kx_wd1 179 (by decide +kernel) rfl
theorem kw_180 : (Jvm.Cond.fieldLink "TaskDesk" (150 : Nat) "TaskDesk$Channel" "there" "Z") ∈ kx_WS := kx_wd1 180 (by decide +kernel) rfl
theorem kw_181 : (Jvm.Cond.fieldLink "TaskDesk" (153 : Nat) "TaskDesk$Channel" "closed" "Z") ∈ kx_WS := kx_wd1 181 (by decide +kernel) rfl
theorem kw_182 : (Jvm.Cond.fieldLink "TaskDesk" (156 : Nat) "TaskDesk$Channel" "room" "I") ∈ kx_WS := kx_wd1 182 (by decide +kernel) rfl
theorem kw_183 : (Jvm.Cond.fieldLink "TaskDesk$Channel" (41 : Nat) "TaskDesk$Channel" "held" "I") ∈ kx_WS := kx_wd1 183 (by decide +kernel) rfl
theorem kw_184 : (Jvm.Cond.fieldLink "TaskDesk" (175 : Nat) "TaskDesk$Channel" "held" "I") ∈ kx_WS := kx_wd1 184 (by decide +kernel) rfl
theorem kw_185 : (Jvm.Cond.fieldLink "TaskDesk$Channel" (26 : Nat) "TaskDesk$Channel" "alarms" "I") ∈ kx_WS := kx_wd1 185 (by decide +kernel) rfl
theorem kw_186 : (Jvm.Cond.fieldLink "TaskDesk" (189 : Nat) "TaskDesk$Channel" "alarms" "I") ∈ kx_WS := kx_wd1 186 (by decide +kernel) rfl
theorem kw_187 : (Jvm.Cond.fieldLink "TaskDesk$Channel" (38 : Nat) "TaskDesk$Channel" "first" "LTaskDesk$Value;") ∈ kx_WS := kx_wd1 187 (by decide +kernel) rfl
theorem kw_188 : (Jvm.Cond.fieldLink "TaskDesk" (453 : Nat) "TaskDesk$Channel" "first" "LTaskDesk$Value;") ∈ kx_WS := kx_wd1 188 (by decide +kernel) rfl
theorem kw_189 : (Jvm.Cond.fieldLink "TaskDesk$Channel" (35 : Nat) "TaskDesk$Channel" "last" "LTaskDesk$Value;") ∈ kx_WS := kx_wd1 189 (by decide +kernel) rfl
theorem kw_211 : (Jvm.Cond.classLink "TaskDesk" (42 : Nat) "TaskDesk$Place") ∈ kx_WS := kx_wd1 211 (by decide +kernel) rfl
theorem kw_212 : (Jvm.Cond.arrayOver (Jvm.ClassFile.FieldType.object "TaskDesk$Place")) ∈ kx_WS := kx_wd1 212 (by decide +kernel) rfl
theorem kw_213 : (Jvm.Cond.classLink "TaskDesk" (48 : Nat) "TaskDesk$Gate") ∈ kx_WS := kx_wd1 213 (by decide +kernel) rfl
theorem kw_214 : (Jvm.Cond.arrayOver (Jvm.ClassFile.FieldType.object "TaskDesk$Gate")) ∈ kx_WS := kx_wd1 214 (by decide +kernel) rfl
theorem kw_215 : (Jvm.Cond.instantiable "TaskDesk$Place" (9 : Nat)) ∈ kx_WS := kx_wd1 215 (by decide +kernel) rfl
theorem kw_216 : (Jvm.Cond.methodLink "TaskDesk" (54 : Nat) ({ cls := "TaskDesk$Place", name := "<init>", desc := "(LTaskDesk$Channel;)V" } : Jvm.MethodName)) ∈ kx_WS := kx_wd1 216 (by decide +kernel) rfl
theorem kw_217 : (Jvm.Cond.instanceMethod ({ cls := "TaskDesk$Place", name := "<init>", desc := "(LTaskDesk$Channel;)V" } : Jvm.MethodName)) ∈ kx_WS := kx_wd1 217 (by decide +kernel) rfl
theorem kw_218 : (Jvm.Cond.code ({ cls := "TaskDesk$Place", name := "<init>", desc := "(LTaskDesk$Channel;)V" } : Jvm.MethodName) prog_5_method_1_code (2 : Nat) (Option.none : Option Jvm.ClassFile.FieldType)) ∈ kx_WS := kx_wd1 218 (by decide +kernel) rfl
theorem kw_219 : (Jvm.Cond.methodLink "TaskDesk$Place" (3 : Nat) ({ cls := "java/lang/Object", name := "<init>", desc := "()V" } : Jvm.MethodName)) ∈ kx_WS := kx_wd1 219 (by decide +kernel) rfl
theorem kw_220 : (Jvm.Cond.fieldLink "TaskDesk" (60 : Nat) "TaskDesk$Place" "owner" "LTaskDesk$Task;") ∈ kx_WS := kx_wd1 220 (by decide +kernel) rfl
theorem kw_221 : (Jvm.Cond.fieldLink "TaskDesk$Task" (52 : Nat) "TaskDesk$Place" "owner" "LTaskDesk$Task;") ∈ kx_WS := kx_wd1 221 (by decide +kernel) rfl
theorem kw_222 : (Jvm.Cond.fieldLink "TaskDesk$Place" (15 : Nat) "TaskDesk$Place" "target" "LTaskDesk$Channel;") ∈ kx_WS := kx_wd1 222 (by decide +kernel) rfl
theorem kw_223 : (Jvm.Cond.fieldLink "TaskDesk" (252 : Nat) "TaskDesk$Place" "target" "LTaskDesk$Channel;") ∈ kx_WS := kx_wd1 223 (by decide +kernel) rfl
theorem kw_224 : (Jvm.Cond.fieldLink "TaskDesk" (255 : Nat) "TaskDesk$Place" "sends" "Z") ∈ kx_WS := kx_wd1 224 (by decide +kernel) rfl
theorem kw_225 : (Jvm.Cond.fieldLink "TaskDesk" (215 : Nat) "TaskDesk$Place" "value" "J") ∈ kx_WS := kx_wd1 225 (by decide +kernel) rfl
theorem kw_226 : (Jvm.Cond.fieldLink "TaskDesk$Place" (9 : Nat) "TaskDesk$Place" "caseNumber" "I") ∈ kx_WS := kx_wd1 226 (by decide +kernel) rfl
theorem kw_227 : (Jvm.Cond.fieldLink "TaskDesk" (258 : Nat) "TaskDesk$Place" "caseNumber" "I") ∈ kx_WS := kx_wd1 227 (by decide +kernel) rfl
theorem kw_228 : (Jvm.Cond.fieldLink "TaskDesk$Place" (19 : Nat) "TaskDesk$Place" "row" "LTaskDesk$Row;") ∈ kx_WS := kx_wd1 228 (by decide +kernel) rfl
theorem kw_229 : (Jvm.Cond.fieldLink "TaskDesk$Row" (7 : Nat) "TaskDesk$Place" "row" "LTaskDesk$Row;") ∈ kx_WS := kx_wd1 229 (by decide +kernel) rfl
theorem kw_230 : (Jvm.Cond.fieldLink "TaskDesk$Place" (23 : Nat) "TaskDesk$Place" "before" "LTaskDesk$Place;") ∈ kx_WS := kx_wd1 230 (by decide +kernel) rfl
theorem kw_231 : (Jvm.Cond.fieldLink "TaskDesk$Row" (19 : Nat) "TaskDesk$Place" "before" "LTaskDesk$Place;") ∈ kx_WS := kx_wd1 231 (by decide +kernel) rfl
theorem kw_232 : (Jvm.Cond.fieldLink "TaskDesk" (402 : Nat) "TaskDesk$Place" "before" "LTaskDesk$Place;") ∈ kx_WS := kx_wd1 232 (by decide +kernel) rfl
theorem kw_233 : (Jvm.Cond.fieldLink "TaskDesk$Place" (27 : Nat) "TaskDesk$Place" "behind" "LTaskDesk$Place;") ∈ kx_WS := kx_wd1 233 (by decide +kernel) rfl
theorem kw_234 : (Jvm.Cond.fieldLink "TaskDesk$Row" (25 : Nat) "TaskDesk$Place" "behind" "LTaskDesk$Place;") ∈ kx_WS := kx_wd1 234 (by decide +kernel) rfl
theorem kw_235 : (Jvm.Cond.fieldLink "TaskDesk$Task" (61 : Nat) "TaskDesk$Place" "sibling" "LTaskDesk$Place;") ∈ kx_WS := kx_wd1 235 (by decide +kernel) rfl
theorem kw_236 : (Jvm.Cond.fieldLink "TaskDesk" (249 : Nat) "TaskDesk$Place" "sibling" "LTaskDesk$Place;") ∈ kx_WS := kx_wd1 236 (by decide +kernel) rfl
theorem kw_256 : (Jvm.Cond.instantiable "TaskDesk$Task" (10 : Nat)) ∈ kx_WS := kx_wd1 256 (by decide +kernel) rfl
theorem kw_257 : (Jvm.Cond.methodLink "TaskDesk" (57 : Nat) ({ cls := "TaskDesk$Task", name := "<init>", desc := "(ILTaskDesk$Place;)V" } : Jvm.MethodName)) ∈ kx_WS := kx_wd1 257 (by decide +kernel) rfl
theorem kw_258 : (Jvm.Cond.instanceMethod ({ cls := "TaskDesk$Task", name := "<init>", desc := "(ILTaskDesk$Place;)V" } : Jvm.MethodName)) ∈ kx_WS := kx_wd1 258 (by decide +kernel) rfl
theorem kw_259 : (Jvm.Cond.code ({ cls := "TaskDesk$Task", name := "<init>", desc := "(ILTaskDesk$Place;)V" } : Jvm.MethodName) prog_7_method_1_code (3 : Nat) (Option.none : Option Jvm.ClassFile.FieldType)) ∈ kx_WS := kx_wd1 259 (by decide +kernel) rfl
theorem kw_260 : (Jvm.Cond.methodLink "TaskDesk$Task" (3 : Nat) ({ cls := "java/lang/Object", name := "<init>", desc := "()V" } : Jvm.MethodName)) ∈ kx_WS := kx_wd1 260 (by decide +kernel) rfl
theorem kw_261 : (Jvm.Cond.fieldLink "TaskDesk$Task" (9 : Nat) "TaskDesk$Task" "number" "I") ∈ kx_WS := kx_wd1 261 (by decide +kernel) rfl
theorem kw_262 : (Jvm.Cond.fieldLink "TaskDesk" (107 : Nat) "TaskDesk$Task" "number" "I") ∈ kx_WS := kx_wd1 262 (by decide +kernel) rfl
theorem kw_263 : (Jvm.Cond.fieldLink "TaskDesk$Task" (15 : Nat) "TaskDesk$Task" "stand" "LTaskDesk$Place;") ∈ kx_WS := kx_wd1 263 (by decide +kernel) rfl
theorem kw_264 : (Jvm.Cond.fieldLink "TaskDesk" (211 : Nat) "TaskDesk$Task" "stand" "LTaskDesk$Place;") ∈ kx_WS := kx_wd1 264 (by decide +kernel) rfl
theorem kw_265 : (Jvm.Cond.fieldLink "TaskDesk$Task" (19 : Nat) "TaskDesk$Task" "alive" "Z") ∈ kx_WS := kx_wd1 265 (by decide +kernel) rfl
theorem kw_266 : (Jvm.Cond.fieldLink "TaskDesk" (120 : Nat) "TaskDesk$Task" "alive" "Z") ∈ kx_WS := kx_wd1 266 (by decide +kernel) rfl
theorem kw_267 : (Jvm.Cond.fieldLink "TaskDesk" (79 : Nat) "TaskDesk$Task" "state" "I") ∈ kx_WS := kx_wd1 267 (by decide +kernel) rfl
theorem kw_268 : (Jvm.Cond.fieldLink "TaskDesk$Task" (43 : Nat) "TaskDesk$Task" "state" "I") ∈ kx_WS := kx_wd1 268 (by decide +kernel) rfl
theorem kw_269 : (Jvm.Cond.fieldLink "TaskDesk$Task" (23 : Nat) "TaskDesk$Task" "at" "I") ∈ kx_WS := kx_wd1 269 (by decide +kernel) rfl
theorem kw_270 : (Jvm.Cond.fieldLink "TaskDesk" (359 : Nat) "TaskDesk$Task" "at" "I") ∈ kx_WS := kx_wd1 270 (by decide +kernel) rfl
theorem kw_271 : (Jvm.Cond.fieldLink "TaskDesk$Task" (58 : Nat) "TaskDesk$Task" "cases" "LTaskDesk$Place;") ∈ kx_WS := kx_wd1 271 (by decide +kernel) rfl
theorem kw_272 : (Jvm.Cond.fieldLink "TaskDesk" (435 : Nat) "TaskDesk$Task" "cases" "LTaskDesk$Place;") ∈ kx_WS := kx_wd1 272 (by decide +kernel) rfl
theorem kw_273 : (Jvm.Cond.fieldLink "TaskDesk$Task" (30 : Nat) "TaskDesk$Task" "result" "J") ∈ kx_WS := kx_wd1 273 (by decide +kernel) rfl
theorem kw_274 : (Jvm.Cond.fieldLink "TaskDesk" (378 : Nat) "TaskDesk$Task" "result" "J") ∈ kx_WS := kx_wd1 274 (by decide +kernel) rfl
theorem kw_275 : (Jvm.Cond.fieldLink "TaskDesk$Task" (34 : Nat) "TaskDesk$Task" "flag" "Z") ∈ kx_WS := kx_wd1 275 (by decide +kernel) rfl
theorem kw_276 : (Jvm.Cond.fieldLink "TaskDesk" (363 : Nat) "TaskDesk$Task" "flag" "Z") ∈ kx_WS := kx_wd1 276 (by decide +kernel) rfl
theorem kw_277 : (Jvm.Cond.fieldLink "TaskDesk$Task" (37 : Nat) "TaskDesk$Task" "caseNumber" "I") ∈ kx_WS := kx_wd1 277 (by decide +kernel) rfl
theorem kw_278 : (Jvm.Cond.fieldLink "TaskDesk" (362 : Nat) "TaskDesk$Task" "caseNumber" "I") ∈ kx_WS := kx_wd1 278 (by decide +kernel) rfl
theorem kw_279 : (Jvm.Cond.fieldLink "TaskDesk$Task" (40 : Nat) "TaskDesk$Task" "broken" "Z") ∈ kx_WS := kx_wd1 279 (by decide +kernel) rfl
theorem kw_280 : (Jvm.Cond.fieldLink "TaskDesk" (366 : Nat) "TaskDesk$Task" "broken" "Z") ∈ kx_WS := kx_wd1 280 (by decide +kernel) rfl
theorem kw_302 : (Jvm.Cond.instantiable "TaskDesk$Gate" (6 : Nat)) ∈ kx_WS := kx_wd1 302 (by decide +kernel) rfl
theorem kw_303 : (Jvm.Cond.methodLink "TaskDesk" (64 : Nat) ({ cls := "TaskDesk$Gate", name := "<init>", desc := "(I)V" } : Jvm.MethodName)) ∈ kx_WS := kx_wd1 303 (by decide +kernel) rfl
theorem kw_304 : (Jvm.Cond.instanceMethod ({ cls := "TaskDesk$Gate", name := "<init>", desc := "(I)V" } : Jvm.MethodName)) ∈ kx_WS := kx_wd1 304 (by decide +kernel) rfl
theorem kw_305 : (Jvm.Cond.code ({ cls := "TaskDesk$Gate", name := "<init>", desc := "(I)V" } : Jvm.MethodName) prog_4_method_1_code (2 : Nat) (Option.none : Option Jvm.ClassFile.FieldType)) ∈ kx_WS := kx_wd1 305 (by decide +kernel) rfl
theorem kw_306 : (Jvm.Cond.methodLink "TaskDesk$Gate" (3 : Nat) ({ cls := "java/lang/Object", name := "<init>", desc := "()V" } : Jvm.MethodName)) ∈ kx_WS := kx_wd1 306 (by decide +kernel) rfl
theorem kw_307 : (Jvm.Cond.classLink "TaskDesk$Gate" (9 : Nat) "TaskDesk$Row") ∈ kx_WS := kx_wd1 307 (by decide +kernel) rfl
theorem kw_308 : (Jvm.Cond.methodLinkNest "TaskDesk$Gate" (11 : Nat) ({ cls := "TaskDesk$Row", name := "<init>", desc := "()V" } : Jvm.MethodName) "TaskDesk") ∈ kx_WS := kx_wd1 308 (by decide +kernel) rfl
theorem kw_309 : (Jvm.Cond.fieldLink "TaskDesk$Gate" (21 : Nat) "TaskDesk$Gate" "number" "I") ∈ kx_WS := kx_wd1 309 (by decide +kernel) rfl
theorem kw_310 : (Jvm.Cond.fieldLink "TaskDesk" (295 : Nat) "TaskDesk$Gate" "number" "I") ∈ kx_WS := kx_wd1 310 (by decide +kernel) rfl
theorem kw_311 : (Jvm.Cond.fieldLink "TaskDesk$Gate" (12 : Nat) "TaskDesk$Gate" "waiting" "LTaskDesk$Row;") ∈ kx_WS := kx_wd1 311 (by decide +kernel) rfl
theorem kw_312 : (Jvm.Cond.fieldLink "TaskDesk" (312 : Nat) "TaskDesk$Gate" "waiting" "LTaskDesk$Row;") ∈ kx_WS := kx_wd1 312 (by decide +kernel) rfl
theorem kw_313 : (Jvm.Cond.fieldLink "TaskDesk$Gate" (18 : Nat) "TaskDesk$Gate" "readers" "LTaskDesk$Row;") ∈ kx_WS := kx_wd1 313 (by decide +kernel) rfl
theorem kw_314 : (Jvm.Cond.fieldLink "TaskDesk" (320 : Nat) "TaskDesk$Gate" "readers" "LTaskDesk$Row;") ∈ kx_WS := kx_wd1 314 (by decide +kernel) rfl
theorem kw_315 : (Jvm.Cond.fieldLink "TaskDesk$Gate" (25 : Nat) "TaskDesk$Gate" "kind" "I") ∈ kx_WS := kx_wd1 315 (by decide +kernel) rfl
theorem kw_316 : (Jvm.Cond.fieldLink "TaskDesk" (281 : Nat) "TaskDesk$Gate" "kind" "I") ∈ kx_WS := kx_wd1 316 (by decide +kernel) rfl
theorem kw_317 : (Jvm.Cond.fieldLink "TaskDesk$Gate" (28 : Nat) "TaskDesk$Gate" "taken" "I") ∈ kx_WS := kx_wd1 317 (by decide +kernel) rfl
theorem kw_318 : (Jvm.Cond.fieldLink "TaskDesk" (306 : Nat) "TaskDesk$Gate" "taken" "I") ∈ kx_WS := kx_wd1 318 (by decide +kernel) rfl
theorem kw_319 : (Jvm.Cond.fieldLink "TaskDesk" (291 : Nat) "TaskDesk$Gate" "lock" "LTaskDesk$Gate;") ∈ kx_WS := kx_wd1 319 (by decide +kernel) rfl
theorem kw_333 : (Jvm.Cond.classLink "TaskDesk" (65 : Nat) "TaskDesk$Value") ∈ kx_WS := kx_wd1 333 (by decide +kernel) rfl
theorem kw_334 : (Jvm.Cond.instantiable "TaskDesk$Value" (2 : Nat)) ∈ kx_WS := kx_wd1 334 (by decide +kernel) rfl
theorem kw_335 : (Jvm.Cond.methodLinkNest "TaskDesk" (67 : Nat) ({ cls := "TaskDesk$Value", name := "<init>", desc := "()V" } : Jvm.MethodName) "TaskDesk") ∈ kx_WS := kx_wd1 335 (by decide +kernel) rfl
theorem kw_336 : (Jvm.Cond.instanceMethod ({ cls := "TaskDesk$Value", name := "<init>", desc := "()V" } : Jvm.MethodName)) ∈ kx_WS := kx_wd1 336 (by decide +kernel) rfl
theorem kw_337 : (Jvm.Cond.code ({ cls := "TaskDesk$Value", name := "<init>", desc := "()V" } : Jvm.MethodName) prog_9_method_1_code (1 : Nat) (Option.none : Option Jvm.ClassFile.FieldType)) ∈ kx_WS := kx_wd1 337 (by decide +kernel) rfl
theorem kw_338 : (Jvm.Cond.methodLink "TaskDesk$Value" (1 : Nat) ({ cls := "java/lang/Object", name := "<init>", desc := "()V" } : Jvm.MethodName)) ∈ kx_WS := kx_wd1 338 (by decide +kernel) rfl
theorem kw_339 : (Jvm.Cond.fieldLink "TaskDesk" (448 : Nat) "TaskDesk$Value" "number" "J") ∈ kx_WS := kx_wd1 339 (by decide +kernel) rfl
theorem kw_340 : (Jvm.Cond.fieldLink "TaskDesk$Channel" (29 : Nat) "TaskDesk$Value" "behind" "LTaskDesk$Value;") ∈ kx_WS := kx_wd1 340 (by decide +kernel) rfl
theorem kw_341 : (Jvm.Cond.fieldLink "TaskDesk" (445 : Nat) "TaskDesk$Value" "behind" "LTaskDesk$Value;") ∈ kx_WS := kx_wd1 341 (by decide +kernel) rfl
theorem kw_347 : (Jvm.Cond.methodLink "TaskDesk" (68 : Nat) ({ cls := "TaskDesk", name := "keepValue", desc := "(LTaskDesk$Value;)V" } : Jvm.MethodName)) ∈ kx_WS := kx_wd1 347 (by decide +kernel) rfl
theorem kw_349 : (Jvm.Cond.instanceMethod ({ cls := "TaskDesk", name := "keepValue", desc := "(LTaskDesk$Value;)V" } : Jvm.MethodName)) ∈ kx_WS := kx_wd1 349 (by decide +kernel) rfl
theorem kw_350 : (Jvm.Cond.code ({ cls := "TaskDesk", name := "keepValue", desc := "(LTaskDesk$Value;)V" } : Jvm.MethodName) prog_1_method_49_code (2 : Nat) (Option.none : Option Jvm.ClassFile.FieldType)) ∈ kx_WS := kx_wd1 350 (by decide +kernel) rfl
theorem kw_351 : (Jvm.Cond.methodLink "TaskDesk" (72 : Nat) ({ cls := "TaskDesk", name := "keepPlace", desc := "(LTaskDesk$Place;)V" } : Jvm.MethodName)) ∈ kx_WS := kx_wd1 351 (by decide +kernel) rfl
theorem kw_353 : (Jvm.Cond.instanceMethod ({ cls := "TaskDesk", name := "keepPlace", desc := "(LTaskDesk$Place;)V" } : Jvm.MethodName)) ∈ kx_WS := kx_wd1 353 (by decide +kernel) rfl
theorem kw_354 : (Jvm.Cond.code ({ cls := "TaskDesk", name := "keepPlace", desc := "(LTaskDesk$Place;)V" } : Jvm.MethodName) prog_1_method_56_code (2 : Nat) (Option.none : Option Jvm.ClassFile.FieldType)) ∈ kx_WS := kx_wd1 354 (by decide +kernel) rfl
theorem kw_355 : (Jvm.Cond.methodLink "TaskDesk" (76 : Nat) ({ cls := "TaskDesk$Task", name := "begin", desc := "()V" } : Jvm.MethodName)) ∈ kx_WS := kx_wd1 355 (by decide +kernel) rfl
theorem kw_356 : (Jvm.Cond.instanceMethod ({ cls := "TaskDesk$Task", name := "begin", desc := "()V" } : Jvm.MethodName)) ∈ kx_WS := kx_wd1 356 (by decide +kernel) rfl
theorem kw_357 : (Jvm.Cond.selects "TaskDesk$Task" ({ cls := "TaskDesk$Task", name := "begin", desc := "()V" } : Jvm.MethodName) ({ cls := "TaskDesk$Task", name := "begin", desc := "()V" } : Jvm.MethodName)) ∈ kx_WS := kx_wd1 357 (by decide +kernel) rfl
theorem kw_358 : (Jvm.Cond.code ({ cls := "TaskDesk$Task", name := "begin", desc := "()V" } : Jvm.MethodName) prog_7_method_2_code (1 : Nat) (Option.none : Option Jvm.ClassFile.FieldType)) ∈ kx_WS := kx_wd1 358 (by decide +kernel) rfl
theorem kw_359 : (Jvm.Cond.methodLink "TaskDesk$Task" (26 : Nat) ({ cls := "TaskDesk$Task", name := "tell", desc := "(JZIZ)V" } : Jvm.MethodName)) ∈ kx_WS := kx_wd1 359 (by decide +kernel) rfl
theorem kw_360 : (Jvm.Cond.instanceMethod ({ cls := "TaskDesk$Task", name := "tell", desc := "(JZIZ)V" } : Jvm.MethodName)) ∈ kx_WS := kx_wd1 360 (by decide +kernel) rfl
theorem kw_361 : (Jvm.Cond.selects "TaskDesk$Task" ({ cls := "TaskDesk$Task", name := "tell", desc := "(JZIZ)V" } : Jvm.MethodName) ({ cls := "TaskDesk$Task", name := "tell", desc := "(JZIZ)V" } : Jvm.MethodName)) ∈ kx_WS := kx_wd1 361 (by decide +kernel) rfl
theorem kw_362 : (Jvm.Cond.code ({ cls := "TaskDesk$Task", name := "tell", desc := "(JZIZ)V" } : Jvm.MethodName) prog_7_method_3_code (6 : Nat) (Option.none : Option Jvm.ClassFile.FieldType)) ∈ kx_WS := kx_wd1 362 (by decide +kernel) rfl
theorem kw_363 : (Jvm.Cond.fieldLink "TaskDesk" (11 : Nat) "TaskDesk" "tasks" "[LTaskDesk$Task;") ∈ kx_WS := kx_wd1 363 (by decide +kernel) rfl
theorem kw_364 : (Jvm.Cond.fieldLink "TaskDesk" (83 : Nat) "TaskDesk" "taskCount" "I") ∈ kx_WS := kx_wd1 364 (by decide +kernel) rfl
theorem kw_365 : (Jvm.Cond.fieldLink "TaskDesk" (18 : Nat) "TaskDesk" "ready" "LTaskDesk$Row;") ∈ kx_WS := kx_wd1 365 (by decide +kernel) rfl
theorem kw_366 : (Jvm.Cond.fieldLink "TaskDesk" (86 : Nat) "TaskDesk" "running" "LTaskDesk$Task;") ∈ kx_WS := kx_wd1 366 (by decide +kernel) rfl
theorem kw_367 : (Jvm.Cond.fieldLink "TaskDesk" (399 : Nat) "TaskDesk" "over" "Z") ∈ kx_WS := kx_wd1 367 (by decide +kernel) rfl
theorem kw_368 : (Jvm.Cond.fieldLink "TaskDesk" (131 : Nat) "TaskDesk" "now" "J") ∈ kx_WS := kx_wd1 368 (by decide +kernel) rfl
theorem kw_369 : (Jvm.Cond.fieldLink "TaskDesk" (25 : Nat) "TaskDesk" "agenda" "LTaskDesk$Agenda;") ∈ kx_WS := kx_wd1 369 (by decide +kernel) rfl
theorem kw_370 : (Jvm.Cond.fieldLink "TaskDesk" (184 : Nat) "TaskDesk" "alarmCount" "I") ∈ kx_WS := kx_wd1 370 (by decide +kernel) rfl
theorem kw_371 : (Jvm.Cond.fieldLink "TaskDesk" (31 : Nat) "TaskDesk" "channels" "[LTaskDesk$Channel;") ∈ kx_WS := kx_wd1 371 (by decide +kernel) rfl
theorem kw_372 : (Jvm.Cond.fieldLink "TaskDesk" (38 : Nat) "TaskDesk" "nowhere" "LTaskDesk$Channel;") ∈ kx_WS := kx_wd1 372 (by decide +kernel) rfl
theorem kw_373 : (Jvm.Cond.fieldLink "TaskDesk" (159 : Nat) "TaskDesk" "channelCount" "I") ∈ kx_WS := kx_wd1 373 (by decide +kernel) rfl
theorem kw_374 : (Jvm.Cond.fieldLink "TaskDesk" (145 : Nat) "TaskDesk" "roomGiven" "I") ∈ kx_WS := kx_wd1 374 (by decide +kernel) rfl
theorem kw_375 : (Jvm.Cond.fieldLink "TaskDesk" (441 : Nat) "TaskDesk" "freeValue" "LTaskDesk$Value;") ∈ kx_WS := kx_wd1 375 (by decide +kernel) rfl
theorem kw_376 : (Jvm.Cond.fieldLink "TaskDesk" (44 : Nat) "TaskDesk" "told" "[LTaskDesk$Place;") ∈ kx_WS := kx_wd1 376 (by decide +kernel) rfl
theorem kw_377 : (Jvm.Cond.fieldLink "TaskDesk" (244 : Nat) "TaskDesk" "toldCount" "I") ∈ kx_WS := kx_wd1 377 (by decide +kernel) rfl
theorem kw_378 : (Jvm.Cond.fieldLink "TaskDesk" (241 : Nat) "TaskDesk" "freePlace" "LTaskDesk$Place;") ∈ kx_WS := kx_wd1 378 (by decide +kernel) rfl
theorem kw_379 : (Jvm.Cond.fieldLink "TaskDesk" (50 : Nat) "TaskDesk" "gates" "[LTaskDesk$Gate;") ∈ kx_WS := kx_wd1 379 (by decide +kernel) rfl
theorem kw_380 : (Jvm.Cond.fieldLink "TaskDesk" (286 : Nat) "TaskDesk" "gateCount" "I") ∈ kx_WS := kx_wd1 380 (by decide +kernel) rfl
theorem kw_418 : (Jvm.Cond.methodLink "TaskDeskLaw" (118 : Nat) ({ cls := "TaskDesk", name := "release", desc := "(I)Z" } : Jvm.MethodName)) ∈ kx_WS := kx_wd1 418 (by decide +kernel) rfl
theorem kw_419 : (Jvm.Cond.instanceMethod ({ cls := "TaskDesk", name := "release", desc := "(I)Z" } : Jvm.MethodName)) ∈ kx_WS := kx_wd1 419 (by decide +kernel) rfl
theorem kw_420 : (Jvm.Cond.selects "TaskDesk" ({ cls := "TaskDesk", name := "release", desc := "(I)Z" } : Jvm.MethodName) ({ cls := "TaskDesk", name := "release", desc := "(I)Z" } : Jvm.MethodName)) ∈ kx_WS := kx_wd1 420 (by decide +kernel) rfl
theorem kw_421 : (Jvm.Cond.code ({ cls := "TaskDesk", name := "release", desc := "(I)Z" } : Jvm.MethodName) prog_1_method_7_code (4 : Nat) (Option.some Jvm.ClassFile.FieldType.boolean)) ∈ kx_WS := kx_wd1 421 (by decide +kernel) rfl
theorem kw_422 : (Jvm.Cond.methodLink "TaskDesk" (163 : Nat) ({ cls := "TaskDesk", name := "channelAt", desc := "(I)LTaskDesk$Channel;" } : Jvm.MethodName)) ∈ kx_WS := kx_wd1 422 (by decide +kernel) rfl
theorem kw_424 : (Jvm.Cond.instanceMethod ({ cls := "TaskDesk", name := "channelAt", desc := "(I)LTaskDesk$Channel;" } : Jvm.MethodName)) ∈ kx_WS := kx_wd1 424 (by decide +kernel) rfl
theorem kw_425 : (Jvm.Cond.code ({ cls := "TaskDesk", name := "channelAt", desc := "(I)LTaskDesk$Channel;" } : Jvm.MethodName) prog_1_method_30_code (2 : Nat) (Option.some (Jvm.ClassFile.FieldType.object "TaskDesk$Channel"))) ∈ kx_WS := kx_wd1 425 (by decide +kernel) rfl
theorem kw_426 : (Jvm.Cond.methodLink "TaskDesk" (167 : Nat) ({ cls := "TaskDesk$Channel", name := "isAwaited", desc := "()Z" } : Jvm.MethodName)) ∈ kx_WS := kx_wd1 426 (by decide +kernel) rfl
theorem kw_427 : (Jvm.Cond.instanceMethod ({ cls := "TaskDesk$Channel", name := "isAwaited", desc := "()Z" } : Jvm.MethodName)) ∈ kx_WS := kx_wd1 427 (by decide +kernel) rfl
theorem kw_428 : (Jvm.Cond.selects "TaskDesk$Channel" ({ cls := "TaskDesk$Channel", name := "isAwaited", desc := "()Z" } : Jvm.MethodName) ({ cls := "TaskDesk$Channel", name := "isAwaited", desc := "()Z" } : Jvm.MethodName)) ∈ kx_WS := kx_wd1 428 (by decide +kernel) rfl
theorem kw_429 : (Jvm.Cond.code ({ cls := "TaskDesk$Channel", name := "isAwaited", desc := "()Z" } : Jvm.MethodName) prog_3_method_2_code (1 : Nat) (Option.some Jvm.ClassFile.FieldType.boolean)) ∈ kx_WS := kx_wd1 429 (by decide +kernel) rfl
theorem kw_430 : (Jvm.Cond.methodLink "TaskDesk" (171 : Nat) ({ cls := "TaskDesk", name := "isTold", desc := "(LTaskDesk$Channel;)Z" } : Jvm.MethodName)) ∈ kx_WS := kx_wd1 430 (by decide +kernel) rfl
theorem kw_432 : (Jvm.Cond.instanceMethod ({ cls := "TaskDesk", name := "isTold", desc := "(LTaskDesk$Channel;)Z" } : Jvm.MethodName)) ∈ kx_WS := kx_wd1 432 (by decide +kernel) rfl
theorem kw_433 : (Jvm.Cond.code ({ cls := "TaskDesk", name := "isTold", desc := "(LTaskDesk$Channel;)Z" } : Jvm.MethodName) prog_1_method_50_code (3 : Nat) (Option.some Jvm.ClassFile.FieldType.boolean)) ∈ kx_WS := kx_wd1 433 (by decide +kernel) rfl
theorem kw_434 : (Jvm.Cond.methodLink "TaskDesk" (178 : Nat) ({ cls := "TaskDesk", name := "takeValue", desc := "(LTaskDesk$Channel;)J" } : Jvm.MethodName)) ∈ kx_WS := kx_wd1 434 (by decide +kernel) rfl
theorem kw_436 : (Jvm.Cond.instanceMethod ({ cls := "TaskDesk", name := "takeValue", desc := "(LTaskDesk$Channel;)J" } : Jvm.MethodName)) ∈ kx_WS := kx_wd1 436 (by decide +kernel) rfl
theorem kw_437 : (Jvm.Cond.code ({ cls := "TaskDesk", name := "takeValue", desc := "(LTaskDesk$Channel;)J" } : Jvm.MethodName) prog_1_method_48_code (3 : Nat) (Option.some Jvm.ClassFile.FieldType.long)) ∈ kx_WS := kx_wd1 437 (by decide +kernel) rfl
theorem kw_438 : (Jvm.Cond.methodLink "TaskDesk" (455 : Nat) ({ cls := "TaskDesk$Channel", name := "removeFirst", desc := "()V" } : Jvm.MethodName)) ∈ kx_WS := kx_wd1 438 (by decide +kernel) rfl
theorem kw_439 : (Jvm.Cond.instanceMethod ({ cls := "TaskDesk$Channel", name := "removeFirst", desc := "()V" } : Jvm.MethodName)) ∈ kx_WS := kx_wd1 439 (by decide +kernel) rfl
theorem kw_440 : (Jvm.Cond.selects "TaskDesk$Channel" ({ cls := "TaskDesk$Channel", name := "removeFirst", desc := "()V" } : Jvm.MethodName) ({ cls := "TaskDesk$Channel", name := "removeFirst", desc := "()V" } : Jvm.MethodName)) ∈ kx_WS := kx_wd1 440 (by decide +kernel) rfl
theorem kw_441 : (Jvm.Cond.code ({ cls := "TaskDesk$Channel", name := "removeFirst", desc := "()V" } : Jvm.MethodName) prog_3_method_4_code (1 : Nat) (Option.none : Option Jvm.ClassFile.FieldType)) ∈ kx_WS := kx_wd1 441 (by decide +kernel) rfl
theorem kw_442 : (Jvm.Cond.methodLink "TaskDeskLaw" (162 : Nat) ({ cls := "TaskDesk", name := "current", desc := "()I" } : Jvm.MethodName)) ∈ kx_WS := kx_wd1 442 (by decide +kernel) rfl
theorem kw_443 : (Jvm.Cond.instanceMethod ({ cls := "TaskDesk", name := "current", desc := "()I" } : Jvm.MethodName)) ∈ kx_WS := kx_wd1 443 (by decide +kernel) rfl
theorem kw_444 : (Jvm.Cond.selects "TaskDesk" ({ cls := "TaskDesk", name := "current", desc := "()I" } : Jvm.MethodName) ({ cls := "TaskDesk", name := "current", desc := "()I" } : Jvm.MethodName)) ∈ kx_WS := kx_wd1 444 (by decide +kernel) rfl
theorem kw_445 : (Jvm.Cond.code ({ cls := "TaskDesk", name := "current", desc := "()I" } : Jvm.MethodName) prog_1_method_19_code (1 : Nat) (Option.some Jvm.ClassFile.FieldType.int)) ∈ kx_WS := kx_wd1 445 (by decide +kernel) rfl
theorem kw_446 : (Jvm.Cond.methodLink "TaskDeskLaw" (178 : Nat) ({ cls := "TaskDesk", name := "clock", desc := "()J" } : Jvm.MethodName)) ∈ kx_WS := kx_wd1 446 (by decide +kernel) rfl
theorem kw_447 : (Jvm.Cond.instanceMethod ({ cls := "TaskDesk", name := "clock", desc := "()J" } : Jvm.MethodName)) ∈ kx_WS := kx_wd1 447 (by decide +kernel) rfl
theorem kw_448 : (Jvm.Cond.selects "TaskDesk" ({ cls := "TaskDesk", name := "clock", desc := "()J" } : Jvm.MethodName) ({ cls := "TaskDesk", name := "clock", desc := "()J" } : Jvm.MethodName)) ∈ kx_WS := kx_wd1 448 (by decide +kernel) rfl
theorem kw_449 : (Jvm.Cond.code ({ cls := "TaskDesk", name := "clock", desc := "()J" } : Jvm.MethodName) prog_1_method_24_code (1 : Nat) (Option.some Jvm.ClassFile.FieldType.long)) ∈ kx_WS := kx_wd1 449 (by decide +kernel) rfl
theorem kw_450 : (Jvm.Cond.methodLink "TaskDeskLaw" (183 : Nat) ({ cls := "TaskDesk", name := "count", desc := "(I)I" } : Jvm.MethodName)) ∈ kx_WS := kx_wd1 450 (by decide +kernel) rfl
theorem kw_451 : (Jvm.Cond.instanceMethod ({ cls := "TaskDesk", name := "count", desc := "(I)I" } : Jvm.MethodName)) ∈ kx_WS := kx_wd1 451 (by decide +kernel) rfl
theorem kw_452 : (Jvm.Cond.selects "TaskDesk" ({ cls := "TaskDesk", name := "count", desc := "(I)I" } : Jvm.MethodName) ({ cls := "TaskDesk", name := "count", desc := "(I)I" } : Jvm.MethodName)) ∈ kx_WS := kx_wd1 452 (by decide +kernel) rfl
theorem kw_453 : (Jvm.Cond.code ({ cls := "TaskDesk", name := "count", desc := "(I)I" } : Jvm.MethodName) prog_1_method_25_code (2 : Nat) (Option.some Jvm.ClassFile.FieldType.int)) ∈ kx_WS := kx_wd1 453 (by decide +kernel) rfl
theorem kw_454 : (Jvm.Cond.methodLink "TaskDesk" (392 : Nat) ({ cls := "TaskDesk", name := "howItStands", desc := "()I" } : Jvm.MethodName)) ∈ kx_WS := kx_wd1 454 (by decide +kernel) rfl
theorem kw_456 : (Jvm.Cond.instanceMethod ({ cls := "TaskDesk", name := "howItStands", desc := "()I" } : Jvm.MethodName)) ∈ kx_WS := kx_wd1 456 (by decide +kernel) rfl
theorem kw_457 : (Jvm.Cond.code ({ cls := "TaskDesk", name := "howItStands", desc := "()I" } : Jvm.MethodName) prog_1_method_34_code (1 : Nat) (Option.some Jvm.ClassFile.FieldType.int)) ∈ kx_WS := kx_wd1 457 (by decide +kernel) rfl
theorem kw_458 : (Jvm.Cond.methodLink "TaskDeskLaw" (93 : Nat) ({ cls := "TaskDeskLaw", name := "spawn", desc := "(LTaskDesk;[J)I" } : Jvm.MethodName)) ∈ kx_WS := kx_wd1 458 (by decide +kernel) rfl
theorem kw_459 : (Jvm.Cond.static ({ cls := "TaskDeskLaw", name := "spawn", desc := "(LTaskDesk;[J)I" } : Jvm.MethodName)) ∈ kx_WS := kx_wd1 459 (by decide +kernel) rfl
theorem kw_460 : (Jvm.Cond.codeWith ({ cls := "TaskDeskLaw", name := "spawn", desc := "(LTaskDesk;[J)I" } : Jvm.MethodName) method_3_code (3 : Nat) (Option.some Jvm.ClassFile.FieldType.int) [((0 : Nat), (8 : Nat), (11 : Nat), (13 : Nat))]) ∈ kx_WS := kx_wd1 460 (by decide +kernel) rfl
theorem kw_461 : (Jvm.Cond.classLink "TaskDeskLaw" (13 : Nat) "java/lang/IllegalStateException") ∈ kx_WS := kx_wd1 461 (by decide +kernel) rfl
theorem kw_462 : (Jvm.Cond.methodLink "TaskDeskLaw" (7 : Nat) ({ cls := "TaskDesk", name := "spawn", desc := "()I" } : Jvm.MethodName)) ∈ kx_WS := kx_wd1 462 (by decide +kernel) rfl
theorem kw_463 : (Jvm.Cond.instanceMethod ({ cls := "TaskDesk", name := "spawn", desc := "()I" } : Jvm.MethodName)) ∈ kx_WS := kx_wd1 463 (by decide +kernel) rfl
theorem kw_464 : (Jvm.Cond.selects "TaskDesk" ({ cls := "TaskDesk", name := "spawn", desc := "()I" } : Jvm.MethodName) ({ cls := "TaskDesk", name := "spawn", desc := "()I" } : Jvm.MethodName)) ∈ kx_WS := kx_wd1 464 (by decide +kernel) rfl
theorem kw_465 : (Jvm.Cond.code ({ cls := "TaskDesk", name := "spawn", desc := "()I" } : Jvm.MethodName) prog_1_method_2_code (2 : Nat) (Option.some Jvm.ClassFile.FieldType.int)) ∈ kx_WS := kx_wd1 465 (by decide +kernel) rfl
theorem kw_466 : (Jvm.Cond.methodLink "TaskDesk" (89 : Nat) ({ cls := "TaskDesk", name := "mustBeCurrent", desc := "()LTaskDesk$Task;" } : Jvm.MethodName)) ∈ kx_WS := kx_wd1 466 (by decide +kernel) rfl
theorem kw_468 : (Jvm.Cond.instanceMethod ({ cls := "TaskDesk", name := "mustBeCurrent", desc := "()LTaskDesk$Task;" } : Jvm.MethodName)) ∈ kx_WS := kx_wd1 468 (by decide +kernel) rfl
theorem kw_469 : (Jvm.Cond.code ({ cls := "TaskDesk", name := "mustBeCurrent", desc := "()LTaskDesk$Task;" } : Jvm.MethodName) prog_1_method_26_code (1 : Nat) (Option.some (Jvm.ClassFile.FieldType.object "TaskDesk$Task"))) ∈ kx_WS := kx_wd1 469 (by decide +kernel) rfl
theorem kw_470 : (Jvm.Cond.classLink "TaskDesk" (96 : Nat) "java/lang/IllegalStateException") ∈ kx_WS := kx_wd1 470 (by decide +kernel) rfl
theorem kw_471 : (Jvm.Cond.instantiable "java/lang/IllegalStateException" (6 : Nat)) ∈ kx_WS := kx_wd1 471 (by decide +kernel) rfl
theorem kw_472 : (Jvm.Cond.castable "java/lang/IllegalStateException" "java/lang/IllegalStateException") ∈ kx_WS := kx_wd1 472 (by decide +kernel) rfl
theorem kw_512 : (Jvm.Cond.stringRef "TaskDesk" (395 : Nat) "no task is current") ∈ kx_WS := kx_wd1 512 (by decide +kernel) rfl
theorem kw_539 : (Jvm.Cond.methodLink "TaskDesk" (93 : Nat) ({ cls := "TaskDesk", name := "firstFreeTask", desc := "()LTaskDesk$Task;" } : Jvm.MethodName)) ∈ kx_WS := kx_wd1 539 (by decide +kernel) rfl
theorem kw_541 : (Jvm.Cond.instanceMethod ({ cls := "TaskDesk", name := "firstFreeTask", desc := "()LTaskDesk$Task;" } : Jvm.MethodName)) ∈ kx_WS := kx_wd1 541 (by decide +kernel) rfl
theorem kw_542 : (Jvm.Cond.code ({ cls := "TaskDesk", name := "firstFreeTask", desc := "()LTaskDesk$Task;" } : Jvm.MethodName) prog_1_method_32_code (2 : Nat) (Option.some (Jvm.ClassFile.FieldType.object "TaskDesk$Task"))) ∈ kx_WS := kx_wd1 542 (by decide +kernel) rfl
theorem kw_543 : (Jvm.Cond.stringRef "TaskDesk" (98 : Nat) "there are 256 tasks") ∈ kx_WS := kx_wd1 543 (by decide +kernel) rfl
theorem kw_544 : (Jvm.Cond.methodLink "TaskDesk" (103 : Nat) ({ cls := "TaskDesk", name := "makeReady", desc := "(LTaskDesk$Task;)V" } : Jvm.MethodName)) ∈ kx_WS := kx_wd1 544 (by decide +kernel) rfl
theorem kw_546 : (Jvm.Cond.instanceMethod ({ cls := "TaskDesk", name := "makeReady", desc := "(LTaskDesk$Task;)V" } : Jvm.MethodName)) ∈ kx_WS := kx_wd1 546 (by decide +kernel) rfl
theorem kw_547 : (Jvm.Cond.code ({ cls := "TaskDesk", name := "makeReady", desc := "(LTaskDesk$Task;)V" } : Jvm.MethodName) prog_1_method_35_code (2 : Nat) (Option.none : Option Jvm.ClassFile.FieldType)) ∈ kx_WS := kx_wd1 547 (by decide +kernel) rfl
theorem kw_548 : (Jvm.Cond.methodLink "TaskDesk" (221 : Nat) ({ cls := "TaskDesk$Task", name := "waitIn", desc := "(LTaskDesk$Row;II)V" } : Jvm.MethodName)) ∈ kx_WS := kx_wd1 548 (by decide +kernel) rfl
theorem kw_549 : (Jvm.Cond.instanceMethod ({ cls := "TaskDesk$Task", name := "waitIn", desc := "(LTaskDesk$Row;II)V" } : Jvm.MethodName)) ∈ kx_WS := kx_wd1 549 (by decide +kernel) rfl
theorem kw_550 : (Jvm.Cond.selects "TaskDesk$Task" ({ cls := "TaskDesk$Task", name := "waitIn", desc := "(LTaskDesk$Row;II)V" } : Jvm.MethodName) ({ cls := "TaskDesk$Task", name := "waitIn", desc := "(LTaskDesk$Row;II)V" } : Jvm.MethodName)) ∈ kx_WS := kx_wd1 550 (by decide +kernel) rfl
theorem kw_551 : (Jvm.Cond.code ({ cls := "TaskDesk$Task", name := "waitIn", desc := "(LTaskDesk$Row;II)V" } : Jvm.MethodName) prog_7_method_4_code (4 : Nat) (Option.none : Option Jvm.ClassFile.FieldType)) ∈ kx_WS := kx_wd1 551 (by decide +kernel) rfl
theorem kw_552 : (Jvm.Cond.methodLink "TaskDesk$Task" (46 : Nat) ({ cls := "TaskDesk$Row", name := "append", desc := "(LTaskDesk$Place;)V" } : Jvm.MethodName)) ∈ kx_WS := kx_wd1 552 (by decide +kernel) rfl
theorem kw_553 : (Jvm.Cond.instanceMethod ({ cls := "TaskDesk$Row", name := "append", desc := "(LTaskDesk$Place;)V" } : Jvm.MethodName)) ∈ kx_WS := kx_wd1 553 (by decide +kernel) rfl
theorem kw_554 : (Jvm.Cond.selects "TaskDesk$Row" ({ cls := "TaskDesk$Row", name := "append", desc := "(LTaskDesk$Place;)V" } : Jvm.MethodName) ({ cls := "TaskDesk$Row", name := "append", desc := "(LTaskDesk$Place;)V" } : Jvm.MethodName)) ∈ kx_WS := kx_wd1 554 (by decide +kernel) rfl
theorem kw_555 : (Jvm.Cond.code ({ cls := "TaskDesk$Row", name := "append", desc := "(LTaskDesk$Place;)V" } : Jvm.MethodName) prog_6_method_2_code (2 : Nat) (Option.none : Option Jvm.ClassFile.FieldType)) ∈ kx_WS := kx_wd1 555 (by decide +kernel) rfl
theorem kw_556 : (Jvm.Cond.methodLink "TaskDeskLaw" (102 : Nat) ({ cls := "TaskDeskLaw", name := "giveWay", desc := "(LTaskDesk;[J)I" } : Jvm.MethodName)) ∈ kx_WS := kx_wd1 556 (by decide +kernel) rfl
theorem kw_557 : (Jvm.Cond.static ({ cls := "TaskDeskLaw", name := "giveWay", desc := "(LTaskDesk;[J)I" } : Jvm.MethodName)) ∈ kx_WS := kx_wd1 557 (by decide +kernel) rfl
theorem kw_558 : (Jvm.Cond.codeWith ({ cls := "TaskDeskLaw", name := "giveWay", desc := "(LTaskDesk;[J)I" } : Jvm.MethodName) method_4_code (3 : Nat) (Option.some Jvm.ClassFile.FieldType.int) [((0 : Nat), (8 : Nat), (11 : Nat), (13 : Nat))]) ∈ kx_WS := kx_wd1 558 (by decide +kernel) rfl
theorem kw_559 : (Jvm.Cond.methodLink "TaskDeskLaw" (15 : Nat) ({ cls := "TaskDesk", name := "giveWay", desc := "()I" } : Jvm.MethodName)) ∈ kx_WS := kx_wd1 559 (by decide +kernel) rfl
theorem kw_560 : (Jvm.Cond.instanceMethod ({ cls := "TaskDesk", name := "giveWay", desc := "()I" } : Jvm.MethodName)) ∈ kx_WS := kx_wd1 560 (by decide +kernel) rfl
theorem kw_561 : (Jvm.Cond.selects "TaskDesk" ({ cls := "TaskDesk", name := "giveWay", desc := "()I" } : Jvm.MethodName) ({ cls := "TaskDesk", name := "giveWay", desc := "()I" } : Jvm.MethodName)) ∈ kx_WS := kx_wd1 561 (by decide +kernel) rfl
theorem kw_562 : (Jvm.Cond.code ({ cls := "TaskDesk", name := "giveWay", desc := "()I" } : Jvm.MethodName) prog_1_method_3_code (1 : Nat) (Option.some Jvm.ClassFile.FieldType.int)) ∈ kx_WS := kx_wd1 562 (by decide +kernel) rfl
theorem kw_563 : (Jvm.Cond.methodLink "TaskDesk" (110 : Nat) ({ cls := "TaskDesk", name := "goOn", desc := "()V" } : Jvm.MethodName)) ∈ kx_WS := kx_wd1 563 (by decide +kernel) rfl
theorem kw_565 : (Jvm.Cond.instanceMethod ({ cls := "TaskDesk", name := "goOn", desc := "()V" } : Jvm.MethodName)) ∈ kx_WS := kx_wd1 565 (by decide +kernel) rfl
theorem kw_566 : (Jvm.Cond.code ({ cls := "TaskDesk", name := "goOn", desc := "()V" } : Jvm.MethodName) prog_1_method_37_code (4 : Nat) (Option.none : Option Jvm.ClassFile.FieldType)) ∈ kx_WS := kx_wd1 566 (by decide +kernel) rfl
theorem kw_567 : (Jvm.Cond.methodLink "TaskDesk" (405 : Nat) ({ cls := "TaskDesk$Agenda", name := "takeFirst", desc := "()LTaskDesk$Timer;" } : Jvm.MethodName)) ∈ kx_WS := kx_wd1 567 (by decide +kernel) rfl
theorem kw_568 : (Jvm.Cond.instanceMethod ({ cls := "TaskDesk$Agenda", name := "takeFirst", desc := "()LTaskDesk$Timer;" } : Jvm.MethodName)) ∈ kx_WS := kx_wd1 568 (by decide +kernel) rfl
theorem kw_569 : (Jvm.Cond.selects "TaskDesk$Agenda" ({ cls := "TaskDesk$Agenda", name := "takeFirst", desc := "()LTaskDesk$Timer;" } : Jvm.MethodName) ({ cls := "TaskDesk$Agenda", name := "takeFirst", desc := "()LTaskDesk$Timer;" } : Jvm.MethodName)) ∈ kx_WS := kx_wd1 569 (by decide +kernel) rfl
theorem kw_570 : (Jvm.Cond.code ({ cls := "TaskDesk$Agenda", name := "takeFirst", desc := "()LTaskDesk$Timer;" } : Jvm.MethodName) prog_2_method_4_code (2 : Nat) (Option.some (Jvm.ClassFile.FieldType.object "TaskDesk$Timer"))) ∈ kx_WS := kx_wd1 570 (by decide +kernel) rfl
theorem kw_571 : (Jvm.Cond.methodLink "TaskDesk" (414 : Nat) ({ cls := "TaskDesk", name := "ring", desc := "(LTaskDesk$Timer;)V" } : Jvm.MethodName)) ∈ kx_WS := kx_wd1 571 (by decide +kernel) rfl
theorem kw_573 : (Jvm.Cond.instanceMethod ({ cls := "TaskDesk", name := "ring", desc := "(LTaskDesk$Timer;)V" } : Jvm.MethodName)) ∈ kx_WS := kx_wd1 573 (by decide +kernel) rfl
theorem kw_574 : (Jvm.Cond.code ({ cls := "TaskDesk", name := "ring", desc := "(LTaskDesk$Timer;)V" } : Jvm.MethodName) prog_1_method_38_code (3 : Nat) (Option.none : Option Jvm.ClassFile.FieldType)) ∈ kx_WS := kx_wd1 574 (by decide +kernel) rfl
theorem kw_575 : (Jvm.Cond.methodLink "TaskDesk" (200 : Nat) ({ cls := "TaskDesk", name := "takesAtOnce", desc := "(LTaskDesk$Channel;)Z" } : Jvm.MethodName)) ∈ kx_WS := kx_wd1 575 (by decide +kernel) rfl
theorem kw_577 : (Jvm.Cond.instanceMethod ({ cls := "TaskDesk", name := "takesAtOnce", desc := "(LTaskDesk$Channel;)Z" } : Jvm.MethodName)) ∈ kx_WS := kx_wd1 577 (by decide +kernel) rfl
theorem kw_578 : (Jvm.Cond.code ({ cls := "TaskDesk", name := "takesAtOnce", desc := "(LTaskDesk$Channel;)Z" } : Jvm.MethodName) prog_1_method_43_code (3 : Nat) (Option.some Jvm.ClassFile.FieldType.boolean)) ∈ kx_WS := kx_wd1 578 (by decide +kernel) rfl
theorem kw_579 : (Jvm.Cond.methodLink "TaskDesk" (203 : Nat) ({ cls := "TaskDesk", name := "pass", desc := "(LTaskDesk$Channel;J)V" } : Jvm.MethodName)) ∈ kx_WS := kx_wd1 579 (by decide +kernel) rfl
theorem kw_581 : (Jvm.Cond.instanceMethod ({ cls := "TaskDesk", name := "pass", desc := "(LTaskDesk$Channel;J)V" } : Jvm.MethodName)) ∈ kx_WS := kx_wd1 581 (by decide +kernel) rfl
theorem kw_582 : (Jvm.Cond.code ({ cls := "TaskDesk", name := "pass", desc := "(LTaskDesk$Channel;J)V" } : Jvm.MethodName) prog_1_method_45_code (5 : Nat) (Option.none : Option Jvm.ClassFile.FieldType)) ∈ kx_WS := kx_wd1 582 (by decide +kernel) rfl
theorem kw_583 : (Jvm.Cond.methodLink "TaskDesk" (431 : Nat) ({ cls := "TaskDesk", name := "wake", desc := "(LTaskDesk$Place;JZZ)V" } : Jvm.MethodName)) ∈ kx_WS := kx_wd1 583 (by decide +kernel) rfl
theorem kw_585 : (Jvm.Cond.instanceMethod ({ cls := "TaskDesk", name := "wake", desc := "(LTaskDesk$Place;JZZ)V" } : Jvm.MethodName)) ∈ kx_WS := kx_wd1 585 (by decide +kernel) rfl
theorem kw_586 : (Jvm.Cond.code ({ cls := "TaskDesk", name := "wake", desc := "(LTaskDesk$Place;JZZ)V" } : Jvm.MethodName) prog_1_method_40_code (7 : Nat) (Option.none : Option Jvm.ClassFile.FieldType)) ∈ kx_WS := kx_wd1 586 (by decide +kernel) rfl
theorem kw_587 : (Jvm.Cond.methodLink "TaskDesk" (207 : Nat) ({ cls := "TaskDesk$Task", name := "tell", desc := "(JZIZ)V" } : Jvm.MethodName)) ∈ kx_WS := kx_wd1 587 (by decide +kernel) rfl
theorem kw_588 : (Jvm.Cond.methodLink "TaskDesk" (428 : Nat) ({ cls := "TaskDesk", name := "takeOut", desc := "(LTaskDesk$Task;)V" } : Jvm.MethodName)) ∈ kx_WS := kx_wd1 588 (by decide +kernel) rfl
theorem kw_590 : (Jvm.Cond.instanceMethod ({ cls := "TaskDesk", name := "takeOut", desc := "(LTaskDesk$Task;)V" } : Jvm.MethodName)) ∈ kx_WS := kx_wd1 590 (by decide +kernel) rfl
theorem kw_591 : (Jvm.Cond.code ({ cls := "TaskDesk", name := "takeOut", desc := "(LTaskDesk$Task;)V" } : Jvm.MethodName) prog_1_method_42_code (5 : Nat) (Option.none : Option Jvm.ClassFile.FieldType)) ∈ kx_WS := kx_wd1 591 (by decide +kernel) rfl
theorem kw_592 : (Jvm.Cond.methodLink "TaskDesk" (421 : Nat) ({ cls := "TaskDesk$Place", name := "stepOut", desc := "()V" } : Jvm.MethodName)) ∈ kx_WS := kx_wd1 592 (by decide +kernel) rfl
theorem kw_593 : (Jvm.Cond.instanceMethod ({ cls := "TaskDesk$Place", name := "stepOut", desc := "()V" } : Jvm.MethodName)) ∈ kx_WS := kx_wd1 593 (by decide +kernel) rfl
theorem kw_594 : (Jvm.Cond.selects "TaskDesk$Place" ({ cls := "TaskDesk$Place", name := "stepOut", desc := "()V" } : Jvm.MethodName) ({ cls := "TaskDesk$Place", name := "stepOut", desc := "()V" } : Jvm.MethodName)) ∈ kx_WS := kx_wd1 594 (by decide +kernel) rfl
theorem kw_595 : (Jvm.Cond.code ({ cls := "TaskDesk$Place", name := "stepOut", desc := "()V" } : Jvm.MethodName) prog_5_method_2_code (1 : Nat) (Option.none : Option Jvm.ClassFile.FieldType)) ∈ kx_WS := kx_wd1 595 (by decide +kernel) rfl
theorem kw_596 : (Jvm.Cond.methodLink "TaskDesk" (438 : Nat) ({ cls := "TaskDesk", name := "putValue", desc := "(LTaskDesk$Channel;J)V" } : Jvm.MethodName)) ∈ kx_WS := kx_wd1 596 (by decide +kernel) rfl
theorem kw_598 : (Jvm.Cond.instanceMethod ({ cls := "TaskDesk", name := "putValue", desc := "(LTaskDesk$Channel;J)V" } : Jvm.MethodName)) ∈ kx_WS := kx_wd1 598 (by decide +kernel) rfl
theorem kw_599 : (Jvm.Cond.code ({ cls := "TaskDesk", name := "putValue", desc := "(LTaskDesk$Channel;J)V" } : Jvm.MethodName) prog_1_method_47_code (5 : Nat) (Option.none : Option Jvm.ClassFile.FieldType)) ∈ kx_WS := kx_wd1 599 (by decide +kernel) rfl
theorem kw_600 : (Jvm.Cond.methodLink "TaskDesk" (450 : Nat) ({ cls := "TaskDesk$Channel", name := "append", desc := "(LTaskDesk$Value;)V" } : Jvm.MethodName)) ∈ kx_WS := kx_wd1 600 (by decide +kernel) rfl
theorem kw_601 : (Jvm.Cond.instanceMethod ({ cls := "TaskDesk$Channel", name := "append", desc := "(LTaskDesk$Value;)V" } : Jvm.MethodName)) ∈ kx_WS := kx_wd1 601 (by decide +kernel) rfl
theorem kw_602 : (Jvm.Cond.selects "TaskDesk$Channel" ({ cls := "TaskDesk$Channel", name := "append", desc := "(LTaskDesk$Value;)V" } : Jvm.MethodName) ({ cls := "TaskDesk$Channel", name := "append", desc := "(LTaskDesk$Value;)V" } : Jvm.MethodName)) ∈ kx_WS := kx_wd1 602 (by decide +kernel) rfl
theorem kw_603 : (Jvm.Cond.code ({ cls := "TaskDesk$Channel", name := "append", desc := "(LTaskDesk$Value;)V" } : Jvm.MethodName) prog_3_method_3_code (2 : Nat) (Option.none : Option Jvm.ClassFile.FieldType)) ∈ kx_WS := kx_wd1 603 (by decide +kernel) rfl
theorem kw_604 : (Jvm.Cond.methodLink "TaskDesk" (113 : Nat) ({ cls := "TaskDesk", name := "current", desc := "()I" } : Jvm.MethodName)) ∈ kx_WS := kx_wd1 604 (by decide +kernel) rfl
theorem kw_605 : (Jvm.Cond.methodLink "TaskDeskLaw" (105 : Nat) ({ cls := "TaskDeskLaw", name := "finish", desc := "(LTaskDesk;[J)I" } : Jvm.MethodName)) ∈ kx_WS := kx_wd1 605 (by decide +kernel) rfl
theorem kw_606 : (Jvm.Cond.static ({ cls := "TaskDeskLaw", name := "finish", desc := "(LTaskDesk;[J)I" } : Jvm.MethodName)) ∈ kx_WS := kx_wd1 606 (by decide +kernel) rfl
theorem kw_607 : (Jvm.Cond.codeWith ({ cls := "TaskDeskLaw", name := "finish", desc := "(LTaskDesk;[J)I" } : Jvm.MethodName) method_5_code (3 : Nat) (Option.some Jvm.ClassFile.FieldType.int) [((0 : Nat), (8 : Nat), (11 : Nat), (13 : Nat))]) ∈ kx_WS := kx_wd1 607 (by decide +kernel) rfl
theorem kw_608 : (Jvm.Cond.methodLink "TaskDeskLaw" (18 : Nat) ({ cls := "TaskDesk", name := "finish", desc := "()I" } : Jvm.MethodName)) ∈ kx_WS := kx_wd1 608 (by decide +kernel) rfl
theorem kw_609 : (Jvm.Cond.instanceMethod ({ cls := "TaskDesk", name := "finish", desc := "()I" } : Jvm.MethodName)) ∈ kx_WS := kx_wd1 609 (by decide +kernel) rfl
theorem kw_610 : (Jvm.Cond.selects "TaskDesk" ({ cls := "TaskDesk", name := "finish", desc := "()I" } : Jvm.MethodName) ({ cls := "TaskDesk", name := "finish", desc := "()I" } : Jvm.MethodName)) ∈ kx_WS := kx_wd1 610 (by decide +kernel) rfl
theorem kw_611 : (Jvm.Cond.code ({ cls := "TaskDesk", name := "finish", desc := "()I" } : Jvm.MethodName) prog_1_method_4_code (2 : Nat) (Option.some Jvm.ClassFile.FieldType.int)) ∈ kx_WS := kx_wd1 611 (by decide +kernel) rfl
theorem kw_612 : (Jvm.Cond.methodLink "TaskDesk" (117 : Nat) ({ cls := "TaskDesk", name := "endAll", desc := "()V" } : Jvm.MethodName)) ∈ kx_WS := kx_wd1 612 (by decide +kernel) rfl
theorem kw_614 : (Jvm.Cond.instanceMethod ({ cls := "TaskDesk", name := "endAll", desc := "()V" } : Jvm.MethodName)) ∈ kx_WS := kx_wd1 614 (by decide +kernel) rfl
theorem kw_615 : (Jvm.Cond.code ({ cls := "TaskDesk", name := "endAll", desc := "()V" } : Jvm.MethodName) prog_1_method_39_code (2 : Nat) (Option.none : Option Jvm.ClassFile.FieldType)) ∈ kx_WS := kx_wd1 615 (by decide +kernel) rfl
theorem kw_616 : (Jvm.Cond.methodLink "TaskDeskLaw" (110 : Nat) ({ cls := "TaskDeskLaw", name := "sleep", desc := "(LTaskDesk;J[J)I" } : Jvm.MethodName)) ∈ kx_WS := kx_wd1 616 (by decide +kernel) rfl
theorem kw_617 : (Jvm.Cond.static ({ cls := "TaskDeskLaw", name := "sleep", desc := "(LTaskDesk;J[J)I" } : Jvm.MethodName)) ∈ kx_WS := kx_wd1 617 (by decide +kernel) rfl
theorem kw_618 : (Jvm.Cond.codeWith ({ cls := "TaskDeskLaw", name := "sleep", desc := "(LTaskDesk;J[J)I" } : Jvm.MethodName) method_6_code (5 : Nat) (Option.some Jvm.ClassFile.FieldType.int) [((0 : Nat), (9 : Nat), (12 : Nat), (25 : Nat)), ((0 : Nat), (9 : Nat), (16 : Nat), (13 : Nat))]) ∈ kx_WS := kx_wd1 618 (by decide +kernel) rfl
theorem kw_619 : (Jvm.Cond.classLink "TaskDeskLaw" (25 : Nat) "java/lang/IllegalArgumentException") ∈ kx_WS := kx_wd1 619 (by decide +kernel) rfl
theorem kw_620 : (Jvm.Cond.methodLink "TaskDeskLaw" (21 : Nat) ({ cls := "TaskDesk", name := "sleep", desc := "(J)I" } : Jvm.MethodName)) ∈ kx_WS := kx_wd1 620 (by decide +kernel) rfl
theorem kw_621 : (Jvm.Cond.instanceMethod ({ cls := "TaskDesk", name := "sleep", desc := "(J)I" } : Jvm.MethodName)) ∈ kx_WS := kx_wd1 621 (by decide +kernel) rfl
theorem kw_622 : (Jvm.Cond.selects "TaskDesk" ({ cls := "TaskDesk", name := "sleep", desc := "(J)I" } : Jvm.MethodName) ({ cls := "TaskDesk", name := "sleep", desc := "(J)I" } : Jvm.MethodName)) ∈ kx_WS := kx_wd1 622 (by decide +kernel) rfl
theorem kw_623 : (Jvm.Cond.code ({ cls := "TaskDesk", name := "sleep", desc := "(J)I" } : Jvm.MethodName) prog_1_method_5_code (4 : Nat) (Option.some Jvm.ClassFile.FieldType.int)) ∈ kx_WS := kx_wd1 623 (by decide +kernel) rfl
theorem kw_624 : (Jvm.Cond.constantLong "TaskDesk" (124 : Nat) (1000000000 : Int64)) ∈ kx_WS := kx_wd1 624 (by decide +kernel) rfl
theorem kw_625 : (Jvm.Cond.classLink "TaskDesk" (126 : Nat) "java/lang/IllegalArgumentException") ∈ kx_WS := kx_wd1 625 (by decide +kernel) rfl
theorem kw_626 : (Jvm.Cond.instantiable "java/lang/IllegalArgumentException" (6 : Nat)) ∈ kx_WS := kx_wd1 626 (by decide +kernel) rfl
theorem kw_627 : (Jvm.Cond.castable "java/lang/IllegalArgumentException" "java/lang/IllegalArgumentException") ∈ kx_WS := kx_wd1 627 (by decide +kernel) rfl
theorem kw_634 : (Jvm.Cond.stringRef "TaskDesk" (128 : Nat) "too long a time") ∈ kx_WS := kx_wd1 634 (by decide +kernel) rfl
theorem kw_641 : (Jvm.Cond.methodLink "TaskDesk" (135 : Nat) ({ cls := "TaskDesk$Agenda", name := "note", desc := "(JLTaskDesk$Task;LTaskDesk$Channel;)V" } : Jvm.MethodName)) ∈ kx_WS := kx_wd1 641 (by decide +kernel) rfl
theorem kw_642 : (Jvm.Cond.instanceMethod ({ cls := "TaskDesk$Agenda", name := "note", desc := "(JLTaskDesk$Task;LTaskDesk$Channel;)V" } : Jvm.MethodName)) ∈ kx_WS := kx_wd1 642 (by decide +kernel) rfl
theorem kw_643 : (Jvm.Cond.selects "TaskDesk$Agenda" ({ cls := "TaskDesk$Agenda", name := "note", desc := "(JLTaskDesk$Task;LTaskDesk$Channel;)V" } : Jvm.MethodName) ({ cls := "TaskDesk$Agenda", name := "note", desc := "(JLTaskDesk$Task;LTaskDesk$Channel;)V" } : Jvm.MethodName)) ∈ kx_WS := kx_wd1 643 (by decide +kernel) rfl
theorem kw_644 : (Jvm.Cond.code ({ cls := "TaskDesk$Agenda", name := "note", desc := "(JLTaskDesk$Task;LTaskDesk$Channel;)V" } : Jvm.MethodName) prog_2_method_2_code (7 : Nat) (Option.none : Option Jvm.ClassFile.FieldType)) ∈ kx_WS := kx_wd1 644 (by decide +kernel) rfl
theorem kw_645 : (Jvm.Cond.methodLink "TaskDesk$Agenda" (33 : Nat) ({ cls := "TaskDesk$Agenda", name := "lastNotAfter", desc := "(J)LTaskDesk$Timer;" } : Jvm.MethodName)) ∈ kx_WS := kx_wd1 645 (by decide +kernel) rfl
theorem kw_647 : (Jvm.Cond.instanceMethod ({ cls := "TaskDesk$Agenda", name := "lastNotAfter", desc := "(J)LTaskDesk$Timer;" } : Jvm.MethodName)) ∈ kx_WS := kx_wd1 647 (by decide +kernel) rfl
theorem kw_648 : (Jvm.Cond.code ({ cls := "TaskDesk$Agenda", name := "lastNotAfter", desc := "(J)LTaskDesk$Timer;" } : Jvm.MethodName) prog_2_method_3_code (5 : Nat) (Option.some (Jvm.ClassFile.FieldType.object "TaskDesk$Timer"))) ∈ kx_WS := kx_wd1 648 (by decide +kernel) rfl
theorem kw_649 : (Jvm.Cond.methodLink "TaskDeskLaw" (114 : Nat) ({ cls := "TaskDeskLaw", name := "channel", desc := "(LTaskDesk;I[J)I" } : Jvm.MethodName)) ∈ kx_WS := kx_wd1 649 (by decide +kernel) rfl
theorem kw_650 : (Jvm.Cond.static ({ cls := "TaskDeskLaw", name := "channel", desc := "(LTaskDesk;I[J)I" } : Jvm.MethodName)) ∈ kx_WS := kx_wd1 650 (by decide +kernel) rfl
theorem kw_651 : (Jvm.Cond.codeWith ({ cls := "TaskDeskLaw", name := "channel", desc := "(LTaskDesk;I[J)I" } : Jvm.MethodName) method_7_code (4 : Nat) (Option.some Jvm.ClassFile.FieldType.int) [((0 : Nat), (9 : Nat), (12 : Nat), (25 : Nat)), ((0 : Nat), (9 : Nat), (15 : Nat), (13 : Nat))]) ∈ kx_WS := kx_wd1 651 (by decide +kernel) rfl
theorem kw_652 : (Jvm.Cond.methodLink "TaskDeskLaw" (27 : Nat) ({ cls := "TaskDesk", name := "channel", desc := "(I)I" } : Jvm.MethodName)) ∈ kx_WS := kx_wd1 652 (by decide +kernel) rfl
theorem kw_653 : (Jvm.Cond.instanceMethod ({ cls := "TaskDesk", name := "channel", desc := "(I)I" } : Jvm.MethodName)) ∈ kx_WS := kx_wd1 653 (by decide +kernel) rfl
theorem kw_654 : (Jvm.Cond.selects "TaskDesk" ({ cls := "TaskDesk", name := "channel", desc := "(I)I" } : Jvm.MethodName) ({ cls := "TaskDesk", name := "channel", desc := "(I)I" } : Jvm.MethodName)) ∈ kx_WS := kx_wd1 654 (by decide +kernel) rfl
theorem kw_655 : (Jvm.Cond.code ({ cls := "TaskDesk", name := "channel", desc := "(I)I" } : Jvm.MethodName) prog_1_method_6_code (3 : Nat) (Option.some Jvm.ClassFile.FieldType.int)) ∈ kx_WS := kx_wd1 655 (by decide +kernel) rfl
theorem kw_656 : (Jvm.Cond.stringRef "TaskDesk" (139 : Nat) "no such room") ∈ kx_WS := kx_wd1 656 (by decide +kernel) rfl
theorem kw_657 : (Jvm.Cond.methodLink "TaskDesk" (141 : Nat) ({ cls := "TaskDesk", name := "firstFreeChannel", desc := "()LTaskDesk$Channel;" } : Jvm.MethodName)) ∈ kx_WS := kx_wd1 657 (by decide +kernel) rfl
theorem kw_659 : (Jvm.Cond.instanceMethod ({ cls := "TaskDesk", name := "firstFreeChannel", desc := "()LTaskDesk$Channel;" } : Jvm.MethodName)) ∈ kx_WS := kx_wd1 659 (by decide +kernel) rfl
theorem kw_660 : (Jvm.Cond.code ({ cls := "TaskDesk", name := "firstFreeChannel", desc := "()LTaskDesk$Channel;" } : Jvm.MethodName) prog_1_method_33_code (2 : Nat) (Option.some (Jvm.ClassFile.FieldType.object "TaskDesk$Channel"))) ∈ kx_WS := kx_wd1 660 (by decide +kernel) rfl
theorem kw_661 : (Jvm.Cond.stringRef "TaskDesk" (148 : Nat) "too many channels or too much room") ∈ kx_WS := kx_wd1 661 (by decide +kernel) rfl
theorem kw_662 : (Jvm.Cond.methodLink "TaskDeskLaw" (122 : Nat) ({ cls := "TaskDeskLaw", name := "alarm", desc := "(LTaskDesk;IJ)I" } : Jvm.MethodName)) ∈ kx_WS := kx_wd1 662 (by decide +kernel) rfl
theorem kw_663 : (Jvm.Cond.static ({ cls := "TaskDeskLaw", name := "alarm", desc := "(LTaskDesk;IJ)I" } : Jvm.MethodName)) ∈ kx_WS := kx_wd1 663 (by decide +kernel) rfl
theorem kw_664 : (Jvm.Cond.codeWith ({ cls := "TaskDeskLaw", name := "alarm", desc := "(LTaskDesk;IJ)I" } : Jvm.MethodName) method_8_code (5 : Nat) (Option.some Jvm.ClassFile.FieldType.int) [((0 : Nat), (6 : Nat), (9 : Nat), (25 : Nat)), ((0 : Nat), (6 : Nat), (13 : Nat), (13 : Nat))]) ∈ kx_WS := kx_wd1 664 (by decide +kernel) rfl
theorem kw_665 : (Jvm.Cond.methodLink "TaskDeskLaw" (31 : Nat) ({ cls := "TaskDesk", name := "alarm", desc := "(IJ)V" } : Jvm.MethodName)) ∈ kx_WS := kx_wd1 665 (by decide +kernel) rfl
theorem kw_666 : (Jvm.Cond.instanceMethod ({ cls := "TaskDesk", name := "alarm", desc := "(IJ)V" } : Jvm.MethodName)) ∈ kx_WS := kx_wd1 666 (by decide +kernel) rfl
theorem kw_667 : (Jvm.Cond.selects "TaskDesk" ({ cls := "TaskDesk", name := "alarm", desc := "(IJ)V" } : Jvm.MethodName) ({ cls := "TaskDesk", name := "alarm", desc := "(IJ)V" } : Jvm.MethodName)) ∈ kx_WS := kx_wd1 667 (by decide +kernel) rfl
theorem kw_668 : (Jvm.Cond.code ({ cls := "TaskDesk", name := "alarm", desc := "(IJ)V" } : Jvm.MethodName) prog_1_method_8_code (5 : Nat) (Option.none : Option Jvm.ClassFile.FieldType)) ∈ kx_WS := kx_wd1 668 (by decide +kernel) rfl
theorem kw_669 : (Jvm.Cond.stringRef "TaskDesk" (182 : Nat) "no such channel or time") ∈ kx_WS := kx_wd1 669 (by decide +kernel) rfl
theorem kw_670 : (Jvm.Cond.stringRef "TaskDesk" (187 : Nat) "256 alarms are to ring") ∈ kx_WS := kx_wd1 670 (by decide +kernel) rfl
theorem kw_671 : (Jvm.Cond.methodLink "TaskDeskLaw" (126 : Nat) ({ cls := "TaskDeskLaw", name := "send", desc := "(LTaskDesk;IJ[J)I" } : Jvm.MethodName)) ∈ kx_WS := kx_wd1 671 (by decide +kernel) rfl
theorem kw_672 : (Jvm.Cond.static ({ cls := "TaskDeskLaw", name := "send", desc := "(LTaskDesk;IJ[J)I" } : Jvm.MethodName)) ∈ kx_WS := kx_wd1 672 (by decide +kernel) rfl
theorem kw_673 : (Jvm.Cond.codeWith ({ cls := "TaskDeskLaw", name := "send", desc := "(LTaskDesk;IJ[J)I" } : Jvm.MethodName) method_9_code (6 : Nat) (Option.some Jvm.ClassFile.FieldType.int) [((0 : Nat), (18 : Nat), (21 : Nat), (25 : Nat)), ((0 : Nat), (18 : Nat), (25 : Nat), (13 : Nat)), ((0 : Nat), (18 : Nat), (29 : Nat), (39 : Nat))]) ∈ kx_WS := kx_wd1 673 (by decide +kernel) rfl
theorem kw_674 : (Jvm.Cond.classLink "TaskDeskLaw" (39 : Nat) "java/lang/UnsupportedOperationException") ∈ kx_WS := kx_wd1 674 (by decide +kernel) rfl
theorem kw_675 : (Jvm.Cond.methodLink "TaskDeskLaw" (35 : Nat) ({ cls := "TaskDesk", name := "send", desc := "(IJ)Z" } : Jvm.MethodName)) ∈ kx_WS := kx_wd1 675 (by decide +kernel) rfl
theorem kw_676 : (Jvm.Cond.instanceMethod ({ cls := "TaskDesk", name := "send", desc := "(IJ)Z" } : Jvm.MethodName)) ∈ kx_WS := kx_wd1 676 (by decide +kernel) rfl
theorem kw_677 : (Jvm.Cond.selects "TaskDesk" ({ cls := "TaskDesk", name := "send", desc := "(IJ)Z" } : Jvm.MethodName) ({ cls := "TaskDesk", name := "send", desc := "(IJ)Z" } : Jvm.MethodName)) ∈ kx_WS := kx_wd1 677 (by decide +kernel) rfl
theorem kw_678 : (Jvm.Cond.code ({ cls := "TaskDesk", name := "send", desc := "(IJ)Z" } : Jvm.MethodName) prog_1_method_9_code (6 : Nat) (Option.some Jvm.ClassFile.FieldType.boolean)) ∈ kx_WS := kx_wd1 678 (by decide +kernel) rfl
theorem kw_679 : (Jvm.Cond.methodLink "TaskDesk" (192 : Nat) ({ cls := "TaskDesk", name := "mustBeChannel", desc := "(I)LTaskDesk$Channel;" } : Jvm.MethodName)) ∈ kx_WS := kx_wd1 679 (by decide +kernel) rfl
theorem kw_681 : (Jvm.Cond.instanceMethod ({ cls := "TaskDesk", name := "mustBeChannel", desc := "(I)LTaskDesk$Channel;" } : Jvm.MethodName)) ∈ kx_WS := kx_wd1 681 (by decide +kernel) rfl
theorem kw_682 : (Jvm.Cond.code ({ cls := "TaskDesk", name := "mustBeChannel", desc := "(I)LTaskDesk$Channel;" } : Jvm.MethodName) prog_1_method_28_code (3 : Nat) (Option.some (Jvm.ClassFile.FieldType.object "TaskDesk$Channel"))) ∈ kx_WS := kx_wd1 682 (by decide +kernel) rfl
theorem kw_683 : (Jvm.Cond.stringRef "TaskDesk" (381 : Nat) "there is no such channel") ∈ kx_WS := kx_wd1 683 (by decide +kernel) rfl
theorem kw_684 : (Jvm.Cond.classLink "TaskDesk" (195 : Nat) "java/lang/UnsupportedOperationException") ∈ kx_WS := kx_wd1 684 (by decide +kernel) rfl
theorem kw_685 : (Jvm.Cond.instantiable "java/lang/UnsupportedOperationException" (6 : Nat)) ∈ kx_WS := kx_wd1 685 (by decide +kernel) rfl
theorem kw_686 : (Jvm.Cond.castable "java/lang/UnsupportedOperationException" "java/lang/UnsupportedOperationException") ∈ kx_WS := kx_wd1 686 (by decide +kernel) rfl
theorem kw_693 : (Jvm.Cond.stringRef "TaskDesk" (197 : Nat) "the channel is closed") ∈ kx_WS := kx_wd1 693 (by decide +kernel) rfl
theorem kw_700 : (Jvm.Cond.methodLink "TaskDeskLaw" (130 : Nat) ({ cls := "TaskDeskLaw", name := "receive", desc := "(LTaskDesk;I[J)I" } : Jvm.MethodName)) ∈ kx_WS := kx_wd1 700 (by decide +kernel) rfl
theorem kw_701 : (Jvm.Cond.static ({ cls := "TaskDeskLaw", name := "receive", desc := "(LTaskDesk;I[J)I" } : Jvm.MethodName)) ∈ kx_WS := kx_wd1 701 (by decide +kernel) rfl
theorem kw_702 : (Jvm.Cond.codeWith ({ cls := "TaskDeskLaw", name := "receive", desc := "(LTaskDesk;I[J)I" } : Jvm.MethodName) method_10_code (4 : Nat) (Option.some Jvm.ClassFile.FieldType.int) [((0 : Nat), (16 : Nat), (19 : Nat), (25 : Nat)), ((0 : Nat), (16 : Nat), (22 : Nat), (13 : Nat))]) ∈ kx_WS := kx_wd1 702 (by decide +kernel) rfl
theorem kw_703 : (Jvm.Cond.methodLink "TaskDeskLaw" (41 : Nat) ({ cls := "TaskDesk", name := "receive", desc := "(I)Z" } : Jvm.MethodName)) ∈ kx_WS := kx_wd1 703 (by decide +kernel) rfl
theorem kw_704 : (Jvm.Cond.instanceMethod ({ cls := "TaskDesk", name := "receive", desc := "(I)Z" } : Jvm.MethodName)) ∈ kx_WS := kx_wd1 704 (by decide +kernel) rfl
theorem kw_705 : (Jvm.Cond.selects "TaskDesk" ({ cls := "TaskDesk", name := "receive", desc := "(I)Z" } : Jvm.MethodName) ({ cls := "TaskDesk", name := "receive", desc := "(I)Z" } : Jvm.MethodName)) ∈ kx_WS := kx_wd1 705 (by decide +kernel) rfl
theorem kw_706 : (Jvm.Cond.code ({ cls := "TaskDesk", name := "receive", desc := "(I)Z" } : Jvm.MethodName) prog_1_method_10_code (4 : Nat) (Option.some Jvm.ClassFile.FieldType.boolean)) ∈ kx_WS := kx_wd1 706 (by decide +kernel) rfl
theorem kw_707 : (Jvm.Cond.methodLink "TaskDesk" (225 : Nat) ({ cls := "TaskDesk", name := "givesAtOnce", desc := "(LTaskDesk$Channel;)Z" } : Jvm.MethodName)) ∈ kx_WS := kx_wd1 707 (by decide +kernel) rfl
theorem kw_709 : (Jvm.Cond.instanceMethod ({ cls := "TaskDesk", name := "givesAtOnce", desc := "(LTaskDesk$Channel;)Z" } : Jvm.MethodName)) ∈ kx_WS := kx_wd1 709 (by decide +kernel) rfl
theorem kw_710 : (Jvm.Cond.code ({ cls := "TaskDesk", name := "givesAtOnce", desc := "(LTaskDesk$Channel;)Z" } : Jvm.MethodName) prog_1_method_44_code (3 : Nat) (Option.some Jvm.ClassFile.FieldType.boolean)) ∈ kx_WS := kx_wd1 710 (by decide +kernel) rfl
theorem kw_711 : (Jvm.Cond.methodLink "TaskDesk" (228 : Nat) ({ cls := "TaskDesk", name := "receiveNow", desc := "(LTaskDesk$Task;LTaskDesk$Channel;I)V" } : Jvm.MethodName)) ∈ kx_WS := kx_wd1 711 (by decide +kernel) rfl
theorem kw_713 : (Jvm.Cond.instanceMethod ({ cls := "TaskDesk", name := "receiveNow", desc := "(LTaskDesk$Task;LTaskDesk$Channel;I)V" } : Jvm.MethodName)) ∈ kx_WS := kx_wd1 713 (by decide +kernel) rfl
theorem kw_714 : (Jvm.Cond.code ({ cls := "TaskDesk", name := "receiveNow", desc := "(LTaskDesk$Task;LTaskDesk$Channel;I)V" } : Jvm.MethodName) prog_1_method_46_code (8 : Nat) (Option.none : Option Jvm.ClassFile.FieldType)) ∈ kx_WS := kx_wd1 714 (by decide +kernel) rfl
theorem kw_715 : (Jvm.Cond.methodLink "TaskDeskLaw" (133 : Nat) ({ cls := "TaskDeskLaw", name := "close", desc := "(LTaskDesk;I)I" } : Jvm.MethodName)) ∈ kx_WS := kx_wd1 715 (by decide +kernel) rfl
theorem kw_716 : (Jvm.Cond.static ({ cls := "TaskDeskLaw", name := "close", desc := "(LTaskDesk;I)I" } : Jvm.MethodName)) ∈ kx_WS := kx_wd1 716 (by decide +kernel) rfl
theorem kw_717 : (Jvm.Cond.codeWith ({ cls := "TaskDeskLaw", name := "close", desc := "(LTaskDesk;I)I" } : Jvm.MethodName) method_11_code (3 : Nat) (Option.some Jvm.ClassFile.FieldType.int) [((0 : Nat), (5 : Nat), (8 : Nat), (25 : Nat)), ((0 : Nat), (5 : Nat), (11 : Nat), (13 : Nat)), ((0 : Nat), (5 : Nat), (14 : Nat), (39 : Nat))]) ∈ kx_WS := kx_wd1 717 (by decide +kernel) rfl
theorem kw_718 : (Jvm.Cond.methodLink "TaskDeskLaw" (45 : Nat) ({ cls := "TaskDesk", name := "close", desc := "(I)V" } : Jvm.MethodName)) ∈ kx_WS := kx_wd1 718 (by decide +kernel) rfl
theorem kw_719 : (Jvm.Cond.instanceMethod ({ cls := "TaskDesk", name := "close", desc := "(I)V" } : Jvm.MethodName)) ∈ kx_WS := kx_wd1 719 (by decide +kernel) rfl
theorem kw_720 : (Jvm.Cond.selects "TaskDesk" ({ cls := "TaskDesk", name := "close", desc := "(I)V" } : Jvm.MethodName) ({ cls := "TaskDesk", name := "close", desc := "(I)V" } : Jvm.MethodName)) ∈ kx_WS := kx_wd1 720 (by decide +kernel) rfl
theorem kw_721 : (Jvm.Cond.code ({ cls := "TaskDesk", name := "close", desc := "(I)V" } : Jvm.MethodName) prog_1_method_11_code (3 : Nat) (Option.none : Option Jvm.ClassFile.FieldType)) ∈ kx_WS := kx_wd1 721 (by decide +kernel) rfl
theorem kw_722 : (Jvm.Cond.stringRef "TaskDesk" (235 : Nat) "it cannot be closed") ∈ kx_WS := kx_wd1 722 (by decide +kernel) rfl
theorem kw_723 : (Jvm.Cond.methodLink "TaskDesk" (237 : Nat) ({ cls := "TaskDesk", name := "wakeAll", desc := "(LTaskDesk$Row;ZZ)V" } : Jvm.MethodName)) ∈ kx_WS := kx_wd1 723 (by decide +kernel) rfl
theorem kw_725 : (Jvm.Cond.instanceMethod ({ cls := "TaskDesk", name := "wakeAll", desc := "(LTaskDesk$Row;ZZ)V" } : Jvm.MethodName)) ∈ kx_WS := kx_wd1 725 (by decide +kernel) rfl
theorem kw_726 : (Jvm.Cond.code ({ cls := "TaskDesk", name := "wakeAll", desc := "(LTaskDesk$Row;ZZ)V" } : Jvm.MethodName) prog_1_method_41_code (5 : Nat) (Option.none : Option Jvm.ClassFile.FieldType)) ∈ kx_WS := kx_wd1 726 (by decide +kernel) rfl
theorem kw_727 : (Jvm.Cond.methodLink "TaskDeskLaw" (137 : Nat) ({ cls := "TaskDeskLaw", name := "offer", desc := "(LTaskDesk;IZJ[J)I" } : Jvm.MethodName)) ∈ kx_WS := kx_wd1 727 (by decide +kernel) rfl
theorem kw_728 : (Jvm.Cond.static ({ cls := "TaskDeskLaw", name := "offer", desc := "(LTaskDesk;IZJ[J)I" } : Jvm.MethodName)) ∈ kx_WS := kx_wd1 728 (by decide +kernel) rfl
theorem kw_729 : (Jvm.Cond.codeWith ({ cls := "TaskDeskLaw", name := "offer", desc := "(LTaskDesk;IZJ[J)I" } : Jvm.MethodName) method_12_code (7 : Nat) (Option.some Jvm.ClassFile.FieldType.int) [((0 : Nat), (12 : Nat), (15 : Nat), (25 : Nat)), ((0 : Nat), (12 : Nat), (19 : Nat), (13 : Nat))]) ∈ kx_WS := kx_wd1 729 (by decide +kernel) rfl
theorem kw_730 : (Jvm.Cond.methodLink "TaskDeskLaw" (49 : Nat) ({ cls := "TaskDesk", name := "offer", desc := "(IZJ)I" } : Jvm.MethodName)) ∈ kx_WS := kx_wd1 730 (by decide +kernel) rfl
theorem kw_731 : (Jvm.Cond.instanceMethod ({ cls := "TaskDesk", name := "offer", desc := "(IZJ)I" } : Jvm.MethodName)) ∈ kx_WS := kx_wd1 731 (by decide +kernel) rfl
theorem kw_732 : (Jvm.Cond.selects "TaskDesk" ({ cls := "TaskDesk", name := "offer", desc := "(IZJ)I" } : Jvm.MethodName) ({ cls := "TaskDesk", name := "offer", desc := "(IZJ)I" } : Jvm.MethodName)) ∈ kx_WS := kx_wd1 732 (by decide +kernel) rfl
theorem kw_733 : (Jvm.Cond.code ({ cls := "TaskDesk", name := "offer", desc := "(IZJ)I" } : Jvm.MethodName) prog_1_method_12_code (7 : Nat) (Option.some Jvm.ClassFile.FieldType.int)) ∈ kx_WS := kx_wd1 733 (by decide +kernel) rfl
theorem kw_734 : (Jvm.Cond.stringRef "TaskDesk" (247 : Nat) "16 cases are told") ∈ kx_WS := kx_wd1 734 (by decide +kernel) rfl
theorem kw_735 : (Jvm.Cond.methodLink "TaskDeskLaw" (141 : Nat) ({ cls := "TaskDeskLaw", name := "choose", desc := "(LTaskDesk;IZ[J)I" } : Jvm.MethodName)) ∈ kx_WS := kx_wd1 735 (by decide +kernel) rfl
theorem kw_736 : (Jvm.Cond.static ({ cls := "TaskDeskLaw", name := "choose", desc := "(LTaskDesk;IZ[J)I" } : Jvm.MethodName)) ∈ kx_WS := kx_wd1 736 (by decide +kernel) rfl
theorem kw_737 : (Jvm.Cond.codeWith ({ cls := "TaskDeskLaw", name := "choose", desc := "(LTaskDesk;IZ[J)I" } : Jvm.MethodName) method_13_code (5 : Nat) (Option.some Jvm.ClassFile.FieldType.int) [((0 : Nat), (17 : Nat), (20 : Nat), (25 : Nat)), ((0 : Nat), (17 : Nat), (24 : Nat), (13 : Nat)), ((0 : Nat), (17 : Nat), (28 : Nat), (39 : Nat))]) ∈ kx_WS := kx_wd1 737 (by decide +kernel) rfl
theorem kw_738 : (Jvm.Cond.methodLink "TaskDeskLaw" (53 : Nat) ({ cls := "TaskDesk", name := "choose", desc := "(IZ)Z" } : Jvm.MethodName)) ∈ kx_WS := kx_wd1 738 (by decide +kernel) rfl
theorem kw_739 : (Jvm.Cond.instanceMethod ({ cls := "TaskDesk", name := "choose", desc := "(IZ)Z" } : Jvm.MethodName)) ∈ kx_WS := kx_wd1 739 (by decide +kernel) rfl
theorem kw_740 : (Jvm.Cond.selects "TaskDesk" ({ cls := "TaskDesk", name := "choose", desc := "(IZ)Z" } : Jvm.MethodName) ({ cls := "TaskDesk", name := "choose", desc := "(IZ)Z" } : Jvm.MethodName)) ∈ kx_WS := kx_wd1 740 (by decide +kernel) rfl
theorem kw_741 : (Jvm.Cond.code ({ cls := "TaskDesk", name := "choose", desc := "(IZ)Z" } : Jvm.MethodName) prog_1_method_13_code (5 : Nat) (Option.some Jvm.ClassFile.FieldType.boolean)) ∈ kx_WS := kx_wd1 741 (by decide +kernel) rfl
theorem kw_742 : (Jvm.Cond.stringRef "TaskDesk" (261 : Nat) "n is below 0") ∈ kx_WS := kx_wd1 742 (by decide +kernel) rfl
theorem kw_743 : (Jvm.Cond.methodLink "TaskDesk" (263 : Nat) ({ cls := "TaskDesk", name := "openCase", desc := "(I)LTaskDesk$Place;" } : Jvm.MethodName)) ∈ kx_WS := kx_wd1 743 (by decide +kernel) rfl
theorem kw_745 : (Jvm.Cond.instanceMethod ({ cls := "TaskDesk", name := "openCase", desc := "(I)LTaskDesk$Place;" } : Jvm.MethodName)) ∈ kx_WS := kx_wd1 745 (by decide +kernel) rfl
theorem kw_746 : (Jvm.Cond.code ({ cls := "TaskDesk", name := "openCase", desc := "(I)LTaskDesk$Place;" } : Jvm.MethodName) prog_1_method_52_code (5 : Nat) (Option.some (Jvm.ClassFile.FieldType.object "TaskDesk$Place"))) ∈ kx_WS := kx_wd1 746 (by decide +kernel) rfl
theorem kw_747 : (Jvm.Cond.methodLink "TaskDesk" (458 : Nat) ({ cls := "TaskDesk", name := "isOpen", desc := "(LTaskDesk$Place;)Z" } : Jvm.MethodName)) ∈ kx_WS := kx_wd1 747 (by decide +kernel) rfl
theorem kw_749 : (Jvm.Cond.instanceMethod ({ cls := "TaskDesk", name := "isOpen", desc := "(LTaskDesk$Place;)Z" } : Jvm.MethodName)) ∈ kx_WS := kx_wd1 749 (by decide +kernel) rfl
theorem kw_750 : (Jvm.Cond.code ({ cls := "TaskDesk", name := "isOpen", desc := "(LTaskDesk$Place;)Z" } : Jvm.MethodName) prog_1_method_51_code (3 : Nat) (Option.some Jvm.ClassFile.FieldType.boolean)) ∈ kx_WS := kx_wd1 750 (by decide +kernel) rfl
theorem kw_751 : (Jvm.Cond.methodLink "TaskDesk" (267 : Nat) ({ cls := "TaskDesk", name := "doCase", desc := "(LTaskDesk$Task;LTaskDesk$Place;)V" } : Jvm.MethodName)) ∈ kx_WS := kx_wd1 751 (by decide +kernel) rfl
theorem kw_753 : (Jvm.Cond.instanceMethod ({ cls := "TaskDesk", name := "doCase", desc := "(LTaskDesk$Task;LTaskDesk$Place;)V" } : Jvm.MethodName)) ∈ kx_WS := kx_wd1 753 (by decide +kernel) rfl
theorem kw_754 : (Jvm.Cond.code ({ cls := "TaskDesk", name := "doCase", desc := "(LTaskDesk$Task;LTaskDesk$Place;)V" } : Jvm.MethodName) prog_1_method_53_code (4 : Nat) (Option.none : Option Jvm.ClassFile.FieldType)) ∈ kx_WS := kx_wd1 754 (by decide +kernel) rfl
theorem kw_755 : (Jvm.Cond.methodLink "TaskDesk" (271 : Nat) ({ cls := "TaskDesk", name := "forgetCases", desc := "()V" } : Jvm.MethodName)) ∈ kx_WS := kx_wd1 755 (by decide +kernel) rfl
theorem kw_757 : (Jvm.Cond.instanceMethod ({ cls := "TaskDesk", name := "forgetCases", desc := "()V" } : Jvm.MethodName)) ∈ kx_WS := kx_wd1 757 (by decide +kernel) rfl
theorem kw_758 : (Jvm.Cond.code ({ cls := "TaskDesk", name := "forgetCases", desc := "()V" } : Jvm.MethodName) prog_1_method_54_code (2 : Nat) (Option.none : Option Jvm.ClassFile.FieldType)) ∈ kx_WS := kx_wd1 758 (by decide +kernel) rfl
theorem kw_759 : (Jvm.Cond.methodLink "TaskDesk" (274 : Nat) ({ cls := "TaskDesk", name := "waitInCases", desc := "(LTaskDesk$Task;)V" } : Jvm.MethodName)) ∈ kx_WS := kx_wd1 759 (by decide +kernel) rfl
theorem kw_761 : (Jvm.Cond.instanceMethod ({ cls := "TaskDesk", name := "waitInCases", desc := "(LTaskDesk$Task;)V" } : Jvm.MethodName)) ∈ kx_WS := kx_wd1 761 (by decide +kernel) rfl
theorem kw_762 : (Jvm.Cond.code ({ cls := "TaskDesk", name := "waitInCases", desc := "(LTaskDesk$Task;)V" } : Jvm.MethodName) prog_1_method_55_code (5 : Nat) (Option.none : Option Jvm.ClassFile.FieldType)) ∈ kx_WS := kx_wd1 762 (by decide +kernel) rfl
theorem kw_763 : (Jvm.Cond.methodLink "TaskDesk" (462 : Nat) ({ cls := "TaskDesk$Row", name := "append", desc := "(LTaskDesk$Place;)V" } : Jvm.MethodName)) ∈ kx_WS := kx_wd1 763 (by decide +kernel) rfl
theorem kw_764 : (Jvm.Cond.methodLink "TaskDesk" (464 : Nat) ({ cls := "TaskDesk$Task", name := "adopt", desc := "(LTaskDesk$Place;)V" } : Jvm.MethodName)) ∈ kx_WS := kx_wd1 764 (by decide +kernel) rfl
theorem kw_765 : (Jvm.Cond.instanceMethod ({ cls := "TaskDesk$Task", name := "adopt", desc := "(LTaskDesk$Place;)V" } : Jvm.MethodName)) ∈ kx_WS := kx_wd1 765 (by decide +kernel) rfl
theorem kw_766 : (Jvm.Cond.selects "TaskDesk$Task" ({ cls := "TaskDesk$Task", name := "adopt", desc := "(LTaskDesk$Place;)V" } : Jvm.MethodName) ({ cls := "TaskDesk$Task", name := "adopt", desc := "(LTaskDesk$Place;)V" } : Jvm.MethodName)) ∈ kx_WS := kx_wd1 766 (by decide +kernel) rfl
theorem kw_767 : (Jvm.Cond.code ({ cls := "TaskDesk$Task", name := "adopt", desc := "(LTaskDesk$Place;)V" } : Jvm.MethodName) prog_7_method_5_code (2 : Nat) (Option.none : Option Jvm.ClassFile.FieldType)) ∈ kx_WS := kx_wd1 767 (by decide +kernel) rfl
theorem kw_768 : (Jvm.Cond.methodLink "TaskDeskLaw" (145 : Nat) ({ cls := "TaskDeskLaw", name := "gate", desc := "(LTaskDesk;II[J)I" } : Jvm.MethodName)) ∈ kx_WS := kx_wd1 768 (by decide +kernel) rfl
theorem kw_769 : (Jvm.Cond.static ({ cls := "TaskDeskLaw", name := "gate", desc := "(LTaskDesk;II[J)I" } : Jvm.MethodName)) ∈ kx_WS := kx_wd1 769 (by decide +kernel) rfl
theorem kw_770 : (Jvm.Cond.codeWith ({ cls := "TaskDeskLaw", name := "gate", desc := "(LTaskDesk;II[J)I" } : Jvm.MethodName) method_14_code (5 : Nat) (Option.some Jvm.ClassFile.FieldType.int) [((0 : Nat), (10 : Nat), (13 : Nat), (25 : Nat)), ((0 : Nat), (10 : Nat), (17 : Nat), (13 : Nat))]) ∈ kx_WS := kx_wd1 770 (by decide +kernel) rfl
theorem kw_771 : (Jvm.Cond.methodLink "TaskDeskLaw" (57 : Nat) ({ cls := "TaskDesk", name := "gate", desc := "(II)I" } : Jvm.MethodName)) ∈ kx_WS := kx_wd1 771 (by decide +kernel) rfl
theorem kw_772 : (Jvm.Cond.instanceMethod ({ cls := "TaskDesk", name := "gate", desc := "(II)I" } : Jvm.MethodName)) ∈ kx_WS := kx_wd1 772 (by decide +kernel) rfl
theorem kw_773 : (Jvm.Cond.selects "TaskDesk" ({ cls := "TaskDesk", name := "gate", desc := "(II)I" } : Jvm.MethodName) ({ cls := "TaskDesk", name := "gate", desc := "(II)I" } : Jvm.MethodName)) ∈ kx_WS := kx_wd1 773 (by decide +kernel) rfl
theorem kw_774 : (Jvm.Cond.code ({ cls := "TaskDesk", name := "gate", desc := "(II)I" } : Jvm.MethodName) prog_1_method_14_code (6 : Nat) (Option.some Jvm.ClassFile.FieldType.int)) ∈ kx_WS := kx_wd1 774 (by decide +kernel) rfl
theorem kw_775 : (Jvm.Cond.methodLink "TaskDesk" (277 : Nat) ({ cls := "TaskDesk", name := "gateAt", desc := "(I)LTaskDesk$Gate;" } : Jvm.MethodName)) ∈ kx_WS := kx_wd1 775 (by decide +kernel) rfl
theorem kw_777 : (Jvm.Cond.instanceMethod ({ cls := "TaskDesk", name := "gateAt", desc := "(I)LTaskDesk$Gate;" } : Jvm.MethodName)) ∈ kx_WS := kx_wd1 777 (by decide +kernel) rfl
theorem kw_778 : (Jvm.Cond.code ({ cls := "TaskDesk", name := "gateAt", desc := "(I)LTaskDesk$Gate;" } : Jvm.MethodName) prog_1_method_31_code (2 : Nat) (Option.some (Jvm.ClassFile.FieldType.object "TaskDesk$Gate"))) ∈ kx_WS := kx_wd1 778 (by decide +kernel) rfl
theorem kw_779 : (Jvm.Cond.stringRef "TaskDesk" (284 : Nat) "no such kind or lock") ∈ kx_WS := kx_wd1 779 (by decide +kernel) rfl
theorem kw_780 : (Jvm.Cond.stringRef "TaskDesk" (289 : Nat) "there are 256 gates") ∈ kx_WS := kx_wd1 780 (by decide +kernel) rfl
theorem kw_781 : (Jvm.Cond.methodLink "TaskDeskLaw" (149 : Nat) ({ cls := "TaskDeskLaw", name := "enter", desc := "(LTaskDesk;I[J)I" } : Jvm.MethodName)) ∈ kx_WS := kx_wd1 781 (by decide +kernel) rfl
theorem kw_782 : (Jvm.Cond.static ({ cls := "TaskDeskLaw", name := "enter", desc := "(LTaskDesk;I[J)I" } : Jvm.MethodName)) ∈ kx_WS := kx_wd1 782 (by decide +kernel) rfl
theorem kw_783 : (Jvm.Cond.codeWith ({ cls := "TaskDeskLaw", name := "enter", desc := "(LTaskDesk;I[J)I" } : Jvm.MethodName) method_15_code (4 : Nat) (Option.some Jvm.ClassFile.FieldType.int) [((0 : Nat), (16 : Nat), (19 : Nat), (25 : Nat)), ((0 : Nat), (16 : Nat), (22 : Nat), (13 : Nat)), ((0 : Nat), (16 : Nat), (25 : Nat), (39 : Nat))]) ∈ kx_WS := kx_wd1 783 (by decide +kernel) rfl
theorem kw_784 : (Jvm.Cond.methodLink "TaskDeskLaw" (61 : Nat) ({ cls := "TaskDesk", name := "enter", desc := "(I)Z" } : Jvm.MethodName)) ∈ kx_WS := kx_wd1 784 (by decide +kernel) rfl
theorem kw_785 : (Jvm.Cond.instanceMethod ({ cls := "TaskDesk", name := "enter", desc := "(I)Z" } : Jvm.MethodName)) ∈ kx_WS := kx_wd1 785 (by decide +kernel) rfl
theorem kw_786 : (Jvm.Cond.selects "TaskDesk" ({ cls := "TaskDesk", name := "enter", desc := "(I)Z" } : Jvm.MethodName) ({ cls := "TaskDesk", name := "enter", desc := "(I)Z" } : Jvm.MethodName)) ∈ kx_WS := kx_wd1 786 (by decide +kernel) rfl
theorem kw_787 : (Jvm.Cond.code ({ cls := "TaskDesk", name := "enter", desc := "(I)Z" } : Jvm.MethodName) prog_1_method_15_code (5 : Nat) (Option.some Jvm.ClassFile.FieldType.boolean)) ∈ kx_WS := kx_wd1 787 (by decide +kernel) rfl
theorem kw_788 : (Jvm.Cond.methodLink "TaskDesk" (296 : Nat) ({ cls := "TaskDesk", name := "mustBeGate", desc := "(I)LTaskDesk$Gate;" } : Jvm.MethodName)) ∈ kx_WS := kx_wd1 788 (by decide +kernel) rfl
theorem kw_790 : (Jvm.Cond.instanceMethod ({ cls := "TaskDesk", name := "mustBeGate", desc := "(I)LTaskDesk$Gate;" } : Jvm.MethodName)) ∈ kx_WS := kx_wd1 790 (by decide +kernel) rfl
theorem kw_791 : (Jvm.Cond.code ({ cls := "TaskDesk", name := "mustBeGate", desc := "(I)LTaskDesk$Gate;" } : Jvm.MethodName) prog_1_method_29_code (3 : Nat) (Option.some (Jvm.ClassFile.FieldType.object "TaskDesk$Gate"))) ∈ kx_WS := kx_wd1 791 (by decide +kernel) rfl
theorem kw_792 : (Jvm.Cond.stringRef "TaskDesk" (388 : Nat) "there is no such gate") ∈ kx_WS := kx_wd1 792 (by decide +kernel) rfl
theorem kw_793 : (Jvm.Cond.methodLink "TaskDesk" (299 : Nat) ({ cls := "TaskDesk", name := "giveUpLockOf", desc := "(LTaskDesk$Gate;)V" } : Jvm.MethodName)) ∈ kx_WS := kx_wd1 793 (by decide +kernel) rfl
theorem kw_795 : (Jvm.Cond.instanceMethod ({ cls := "TaskDesk", name := "giveUpLockOf", desc := "(LTaskDesk$Gate;)V" } : Jvm.MethodName)) ∈ kx_WS := kx_wd1 795 (by decide +kernel) rfl
theorem kw_796 : (Jvm.Cond.code ({ cls := "TaskDesk", name := "giveUpLockOf", desc := "(LTaskDesk$Gate;)V" } : Jvm.MethodName) prog_1_method_57_code (2 : Nat) (Option.none : Option Jvm.ClassFile.FieldType)) ∈ kx_WS := kx_wd1 796 (by decide +kernel) rfl
theorem kw_797 : (Jvm.Cond.stringRef "TaskDesk" (467 : Nat) "the signal's lock is free") ∈ kx_WS := kx_wd1 797 (by decide +kernel) rfl
theorem kw_798 : (Jvm.Cond.methodLink "TaskDesk" (328 : Nat) ({ cls := "TaskDesk", name := "giveLockBack", desc := "(LTaskDesk$Gate;)V" } : Jvm.MethodName)) ∈ kx_WS := kx_wd1 798 (by decide +kernel) rfl
theorem kw_800 : (Jvm.Cond.instanceMethod ({ cls := "TaskDesk", name := "giveLockBack", desc := "(LTaskDesk$Gate;)V" } : Jvm.MethodName)) ∈ kx_WS := kx_wd1 800 (by decide +kernel) rfl
theorem kw_801 : (Jvm.Cond.code ({ cls := "TaskDesk", name := "giveLockBack", desc := "(LTaskDesk$Gate;)V" } : Jvm.MethodName) prog_1_method_58_code (3 : Nat) (Option.none : Option Jvm.ClassFile.FieldType)) ∈ kx_WS := kx_wd1 801 (by decide +kernel) rfl
theorem kw_802 : (Jvm.Cond.methodLink "TaskDesk" (303 : Nat) ({ cls := "TaskDesk$Gate", name := "letsInAtOnce", desc := "()Z" } : Jvm.MethodName)) ∈ kx_WS := kx_wd1 802 (by decide +kernel) rfl
theorem kw_803 : (Jvm.Cond.instanceMethod ({ cls := "TaskDesk$Gate", name := "letsInAtOnce", desc := "()Z" } : Jvm.MethodName)) ∈ kx_WS := kx_wd1 803 (by decide +kernel) rfl
theorem kw_804 : (Jvm.Cond.selects "TaskDesk$Gate" ({ cls := "TaskDesk$Gate", name := "letsInAtOnce", desc := "()Z" } : Jvm.MethodName) ({ cls := "TaskDesk$Gate", name := "letsInAtOnce", desc := "()Z" } : Jvm.MethodName)) ∈ kx_WS := kx_wd1 804 (by decide +kernel) rfl
theorem kw_805 : (Jvm.Cond.code ({ cls := "TaskDesk$Gate", name := "letsInAtOnce", desc := "()Z" } : Jvm.MethodName) prog_4_method_2_code (1 : Nat) (Option.some Jvm.ClassFile.FieldType.boolean)) ∈ kx_WS := kx_wd1 805 (by decide +kernel) rfl
theorem kw_806 : (Jvm.Cond.methodLink "TaskDesk" (309 : Nat) ({ cls := "TaskDesk$Gate", name := "take", desc := "()V" } : Jvm.MethodName)) ∈ kx_WS := kx_wd1 806 (by decide +kernel) rfl
theorem kw_807 : (Jvm.Cond.instanceMethod ({ cls := "TaskDesk$Gate", name := "take", desc := "()V" } : Jvm.MethodName)) ∈ kx_WS := kx_wd1 807 (by decide +kernel) rfl
theorem kw_808 : (Jvm.Cond.selects "TaskDesk$Gate" ({ cls := "TaskDesk$Gate", name := "take", desc := "()V" } : Jvm.MethodName) ({ cls := "TaskDesk$Gate", name := "take", desc := "()V" } : Jvm.MethodName)) ∈ kx_WS := kx_wd1 808 (by decide +kernel) rfl
theorem kw_809 : (Jvm.Cond.code ({ cls := "TaskDesk$Gate", name := "take", desc := "()V" } : Jvm.MethodName) prog_4_method_3_code (1 : Nat) (Option.none : Option Jvm.ClassFile.FieldType)) ∈ kx_WS := kx_wd1 809 (by decide +kernel) rfl
theorem kw_810 : (Jvm.Cond.methodLink "TaskDeskLaw" (152 : Nat) ({ cls := "TaskDeskLaw", name := "read", desc := "(LTaskDesk;I[J)I" } : Jvm.MethodName)) ∈ kx_WS := kx_wd1 810 (by decide +kernel) rfl
theorem kw_811 : (Jvm.Cond.static ({ cls := "TaskDeskLaw", name := "read", desc := "(LTaskDesk;I[J)I" } : Jvm.MethodName)) ∈ kx_WS := kx_wd1 811 (by decide +kernel) rfl
theorem kw_812 : (Jvm.Cond.codeWith ({ cls := "TaskDeskLaw", name := "read", desc := "(LTaskDesk;I[J)I" } : Jvm.MethodName) method_16_code (4 : Nat) (Option.some Jvm.ClassFile.FieldType.int) [((0 : Nat), (16 : Nat), (19 : Nat), (25 : Nat)), ((0 : Nat), (16 : Nat), (22 : Nat), (13 : Nat))]) ∈ kx_WS := kx_wd1 812 (by decide +kernel) rfl
theorem kw_813 : (Jvm.Cond.methodLink "TaskDeskLaw" (64 : Nat) ({ cls := "TaskDesk", name := "read", desc := "(I)Z" } : Jvm.MethodName)) ∈ kx_WS := kx_wd1 813 (by decide +kernel) rfl
theorem kw_814 : (Jvm.Cond.instanceMethod ({ cls := "TaskDesk", name := "read", desc := "(I)Z" } : Jvm.MethodName)) ∈ kx_WS := kx_wd1 814 (by decide +kernel) rfl
theorem kw_815 : (Jvm.Cond.selects "TaskDesk" ({ cls := "TaskDesk", name := "read", desc := "(I)Z" } : Jvm.MethodName) ({ cls := "TaskDesk", name := "read", desc := "(I)Z" } : Jvm.MethodName)) ∈ kx_WS := kx_wd1 815 (by decide +kernel) rfl
theorem kw_816 : (Jvm.Cond.code ({ cls := "TaskDesk", name := "read", desc := "(I)Z" } : Jvm.MethodName) prog_1_method_16_code (4 : Nat) (Option.some Jvm.ClassFile.FieldType.boolean)) ∈ kx_WS := kx_wd1 816 (by decide +kernel) rfl
theorem kw_817 : (Jvm.Cond.stringRef "TaskDesk" (315 : Nat) "the gate is no book") ∈ kx_WS := kx_wd1 817 (by decide +kernel) rfl
theorem kw_818 : (Jvm.Cond.methodLink "TaskDeskLaw" (155 : Nat) ({ cls := "TaskDeskLaw", name := "leave", desc := "(LTaskDesk;I)I" } : Jvm.MethodName)) ∈ kx_WS := kx_wd1 818 (by decide +kernel) rfl
theorem kw_819 : (Jvm.Cond.static ({ cls := "TaskDeskLaw", name := "leave", desc := "(LTaskDesk;I)I" } : Jvm.MethodName)) ∈ kx_WS := kx_wd1 819 (by decide +kernel) rfl
theorem kw_820 : (Jvm.Cond.codeWith ({ cls := "TaskDeskLaw", name := "leave", desc := "(LTaskDesk;I)I" } : Jvm.MethodName) method_17_code (3 : Nat) (Option.some Jvm.ClassFile.FieldType.int) [((0 : Nat), (5 : Nat), (8 : Nat), (25 : Nat)), ((0 : Nat), (5 : Nat), (11 : Nat), (13 : Nat)), ((0 : Nat), (5 : Nat), (14 : Nat), (39 : Nat))]) ∈ kx_WS := kx_wd1 820 (by decide +kernel) rfl
theorem kw_821 : (Jvm.Cond.methodLink "TaskDeskLaw" (67 : Nat) ({ cls := "TaskDesk", name := "leave", desc := "(I)V" } : Jvm.MethodName)) ∈ kx_WS := kx_wd1 821 (by decide +kernel) rfl
theorem kw_822 : (Jvm.Cond.instanceMethod ({ cls := "TaskDesk", name := "leave", desc := "(I)V" } : Jvm.MethodName)) ∈ kx_WS := kx_wd1 822 (by decide +kernel) rfl
theorem kw_823 : (Jvm.Cond.selects "TaskDesk" ({ cls := "TaskDesk", name := "leave", desc := "(I)V" } : Jvm.MethodName) ({ cls := "TaskDesk", name := "leave", desc := "(I)V" } : Jvm.MethodName)) ∈ kx_WS := kx_wd1 823 (by decide +kernel) rfl
theorem kw_824 : (Jvm.Cond.code ({ cls := "TaskDesk", name := "leave", desc := "(I)V" } : Jvm.MethodName) prog_1_method_17_code (3 : Nat) (Option.none : Option Jvm.ClassFile.FieldType)) ∈ kx_WS := kx_wd1 824 (by decide +kernel) rfl
theorem kw_825 : (Jvm.Cond.methodLink "TaskDesk" (323 : Nat) ({ cls := "TaskDesk$Gate", name := "canBeLeft", desc := "()Z" } : Jvm.MethodName)) ∈ kx_WS := kx_wd1 825 (by decide +kernel) rfl
theorem kw_826 : (Jvm.Cond.instanceMethod ({ cls := "TaskDesk$Gate", name := "canBeLeft", desc := "()Z" } : Jvm.MethodName)) ∈ kx_WS := kx_wd1 826 (by decide +kernel) rfl
theorem kw_827 : (Jvm.Cond.selects "TaskDesk$Gate" ({ cls := "TaskDesk$Gate", name := "canBeLeft", desc := "()Z" } : Jvm.MethodName) ({ cls := "TaskDesk$Gate", name := "canBeLeft", desc := "()Z" } : Jvm.MethodName)) ∈ kx_WS := kx_wd1 827 (by decide +kernel) rfl
theorem kw_828 : (Jvm.Cond.code ({ cls := "TaskDesk$Gate", name := "canBeLeft", desc := "()Z" } : Jvm.MethodName) prog_4_method_4_code (1 : Nat) (Option.some Jvm.ClassFile.FieldType.boolean)) ∈ kx_WS := kx_wd1 828 (by decide +kernel) rfl
theorem kw_829 : (Jvm.Cond.stringRef "TaskDesk" (326 : Nat) "the gate cannot be given back") ∈ kx_WS := kx_wd1 829 (by decide +kernel) rfl
theorem kw_830 : (Jvm.Cond.methodLink "TaskDesk" (331 : Nat) ({ cls := "TaskDesk", name := "endWriting", desc := "(LTaskDesk$Gate;)V" } : Jvm.MethodName)) ∈ kx_WS := kx_wd1 830 (by decide +kernel) rfl
theorem kw_832 : (Jvm.Cond.instanceMethod ({ cls := "TaskDesk", name := "endWriting", desc := "(LTaskDesk$Gate;)V" } : Jvm.MethodName)) ∈ kx_WS := kx_wd1 832 (by decide +kernel) rfl
theorem kw_833 : (Jvm.Cond.code ({ cls := "TaskDesk", name := "endWriting", desc := "(LTaskDesk$Gate;)V" } : Jvm.MethodName) prog_1_method_59_code (2 : Nat) (Option.none : Option Jvm.ClassFile.FieldType)) ∈ kx_WS := kx_wd1 833 (by decide +kernel) rfl
theorem kw_834 : (Jvm.Cond.methodLink "TaskDesk" (469 : Nat) ({ cls := "TaskDesk", name := "letWriterIn", desc := "(LTaskDesk$Gate;)V" } : Jvm.MethodName)) ∈ kx_WS := kx_wd1 834 (by decide +kernel) rfl
theorem kw_836 : (Jvm.Cond.instanceMethod ({ cls := "TaskDesk", name := "letWriterIn", desc := "(LTaskDesk$Gate;)V" } : Jvm.MethodName)) ∈ kx_WS := kx_wd1 836 (by decide +kernel) rfl
theorem kw_837 : (Jvm.Cond.code ({ cls := "TaskDesk", name := "letWriterIn", desc := "(LTaskDesk$Gate;)V" } : Jvm.MethodName) prog_1_method_61_code (3 : Nat) (Option.none : Option Jvm.ClassFile.FieldType)) ∈ kx_WS := kx_wd1 837 (by decide +kernel) rfl
theorem kw_838 : (Jvm.Cond.methodLink "TaskDesk" (334 : Nat) ({ cls := "TaskDesk", name := "setGroup", desc := "(LTaskDesk$Gate;I)V" } : Jvm.MethodName)) ∈ kx_WS := kx_wd1 838 (by decide +kernel) rfl
theorem kw_840 : (Jvm.Cond.instanceMethod ({ cls := "TaskDesk", name := "setGroup", desc := "(LTaskDesk$Gate;I)V" } : Jvm.MethodName)) ∈ kx_WS := kx_wd1 840 (by decide +kernel) rfl
theorem kw_841 : (Jvm.Cond.code ({ cls := "TaskDesk", name := "setGroup", desc := "(LTaskDesk$Gate;I)V" } : Jvm.MethodName) prog_1_method_62_code (3 : Nat) (Option.none : Option Jvm.ClassFile.FieldType)) ∈ kx_WS := kx_wd1 841 (by decide +kernel) rfl
theorem kw_842 : (Jvm.Cond.methodLink "TaskDesk" (338 : Nat) ({ cls := "TaskDesk", name := "wakeFirstOfSignal", desc := "(LTaskDesk$Gate;)V" } : Jvm.MethodName)) ∈ kx_WS := kx_wd1 842 (by decide +kernel) rfl
theorem kw_844 : (Jvm.Cond.instanceMethod ({ cls := "TaskDesk", name := "wakeFirstOfSignal", desc := "(LTaskDesk$Gate;)V" } : Jvm.MethodName)) ∈ kx_WS := kx_wd1 844 (by decide +kernel) rfl
theorem kw_845 : (Jvm.Cond.code ({ cls := "TaskDesk", name := "wakeFirstOfSignal", desc := "(LTaskDesk$Gate;)V" } : Jvm.MethodName) prog_1_method_64_code (4 : Nat) (Option.none : Option Jvm.ClassFile.FieldType)) ∈ kx_WS := kx_wd1 845 (by decide +kernel) rfl
theorem kw_846 : (Jvm.Cond.methodLink "TaskDeskLaw" (158 : Nat) ({ cls := "TaskDeskLaw", name := "change", desc := "(LTaskDesk;II)I" } : Jvm.MethodName)) ∈ kx_WS := kx_wd1 846 (by decide +kernel) rfl
theorem kw_847 : (Jvm.Cond.static ({ cls := "TaskDeskLaw", name := "change", desc := "(LTaskDesk;II)I" } : Jvm.MethodName)) ∈ kx_WS := kx_wd1 847 (by decide +kernel) rfl
theorem kw_848 : (Jvm.Cond.codeWith ({ cls := "TaskDeskLaw", name := "change", desc := "(LTaskDesk;II)I" } : Jvm.MethodName) method_18_code (4 : Nat) (Option.some Jvm.ClassFile.FieldType.int) [((0 : Nat), (6 : Nat), (9 : Nat), (25 : Nat)), ((0 : Nat), (6 : Nat), (12 : Nat), (13 : Nat)), ((0 : Nat), (6 : Nat), (15 : Nat), (39 : Nat))]) ∈ kx_WS := kx_wd1 848 (by decide +kernel) rfl
theorem kw_849 : (Jvm.Cond.methodLink "TaskDeskLaw" (70 : Nat) ({ cls := "TaskDesk", name := "change", desc := "(II)V" } : Jvm.MethodName)) ∈ kx_WS := kx_wd1 849 (by decide +kernel) rfl
theorem kw_850 : (Jvm.Cond.instanceMethod ({ cls := "TaskDesk", name := "change", desc := "(II)V" } : Jvm.MethodName)) ∈ kx_WS := kx_wd1 850 (by decide +kernel) rfl
theorem kw_851 : (Jvm.Cond.selects "TaskDesk" ({ cls := "TaskDesk", name := "change", desc := "(II)V" } : Jvm.MethodName) ({ cls := "TaskDesk", name := "change", desc := "(II)V" } : Jvm.MethodName)) ∈ kx_WS := kx_wd1 851 (by decide +kernel) rfl
theorem kw_852 : (Jvm.Cond.code ({ cls := "TaskDesk", name := "change", desc := "(II)V" } : Jvm.MethodName) prog_1_method_18_code (4 : Nat) (Option.none : Option Jvm.ClassFile.FieldType)) ∈ kx_WS := kx_wd1 852 (by decide +kernel) rfl
theorem kw_853 : (Jvm.Cond.stringRef "TaskDesk" (341 : Nat) "such a gate does not change") ∈ kx_WS := kx_wd1 853 (by decide +kernel) rfl
theorem kw_854 : (Jvm.Cond.methodLink "TaskDesk" (343 : Nat) ({ cls := "TaskDesk$Gate", name := "canChangeBy", desc := "(I)Z" } : Jvm.MethodName)) ∈ kx_WS := kx_wd1 854 (by decide +kernel) rfl
theorem kw_855 : (Jvm.Cond.instanceMethod ({ cls := "TaskDesk$Gate", name := "canChangeBy", desc := "(I)Z" } : Jvm.MethodName)) ∈ kx_WS := kx_wd1 855 (by decide +kernel) rfl
theorem kw_856 : (Jvm.Cond.selects "TaskDesk$Gate" ({ cls := "TaskDesk$Gate", name := "canChangeBy", desc := "(I)Z" } : Jvm.MethodName) ({ cls := "TaskDesk$Gate", name := "canChangeBy", desc := "(I)Z" } : Jvm.MethodName)) ∈ kx_WS := kx_wd1 856 (by decide +kernel) rfl
theorem kw_857 : (Jvm.Cond.code ({ cls := "TaskDesk$Gate", name := "canChangeBy", desc := "(I)Z" } : Jvm.MethodName) prog_4_method_5_code (4 : Nat) (Option.some Jvm.ClassFile.FieldType.boolean)) ∈ kx_WS := kx_wd1 857 (by decide +kernel) rfl
theorem kw_858 : (Jvm.Cond.constantLong "TaskDesk$Gate" (31 : Nat) (1000000000 : Int64)) ∈ kx_WS := kx_wd1 858 (by decide +kernel) rfl
theorem kw_859 : (Jvm.Cond.stringRef "TaskDesk" (347 : Nat) "the gate cannot change so") ∈ kx_WS := kx_wd1 859 (by decide +kernel) rfl
theorem kw_860 : (Jvm.Cond.methodLink "TaskDesk" (349 : Nat) ({ cls := "TaskDesk", name := "endReading", desc := "(LTaskDesk$Gate;)V" } : Jvm.MethodName)) ∈ kx_WS := kx_wd1 860 (by decide +kernel) rfl
theorem kw_862 : (Jvm.Cond.instanceMethod ({ cls := "TaskDesk", name := "endReading", desc := "(LTaskDesk$Gate;)V" } : Jvm.MethodName)) ∈ kx_WS := kx_wd1 862 (by decide +kernel) rfl
theorem kw_863 : (Jvm.Cond.code ({ cls := "TaskDesk", name := "endReading", desc := "(LTaskDesk$Gate;)V" } : Jvm.MethodName) prog_1_method_60_code (2 : Nat) (Option.none : Option Jvm.ClassFile.FieldType)) ∈ kx_WS := kx_wd1 863 (by decide +kernel) rfl
theorem kw_864 : (Jvm.Cond.methodLink "TaskDesk" (352 : Nat) ({ cls := "TaskDesk", name := "wakeAllOfSignal", desc := "(LTaskDesk$Gate;)V" } : Jvm.MethodName)) ∈ kx_WS := kx_wd1 864 (by decide +kernel) rfl
theorem kw_866 : (Jvm.Cond.instanceMethod ({ cls := "TaskDesk", name := "wakeAllOfSignal", desc := "(LTaskDesk$Gate;)V" } : Jvm.MethodName)) ∈ kx_WS := kx_wd1 866 (by decide +kernel) rfl
theorem kw_867 : (Jvm.Cond.code ({ cls := "TaskDesk", name := "wakeAllOfSignal", desc := "(LTaskDesk$Gate;)V" } : Jvm.MethodName) prog_1_method_63_code (3 : Nat) (Option.none : Option Jvm.ClassFile.FieldType)) ∈ kx_WS := kx_wd1 867 (by decide +kernel) rfl
theorem kw_868 : (Jvm.Cond.methodLink "TaskDeskLaw" (166 : Nat) ({ cls := "TaskDeskLaw", name := "task", desc := "(LTaskDesk;II[J)I" } : Jvm.MethodName)) ∈ kx_WS := kx_wd1 868 (by decide +kernel) rfl
theorem kw_869 : (Jvm.Cond.static ({ cls := "TaskDeskLaw", name := "task", desc := "(LTaskDesk;II[J)I" } : Jvm.MethodName)) ∈ kx_WS := kx_wd1 869 (by decide +kernel) rfl
theorem kw_870 : (Jvm.Cond.codeWith ({ cls := "TaskDeskLaw", name := "task", desc := "(LTaskDesk;II[J)I" } : Jvm.MethodName) method_19_code (5 : Nat) (Option.some Jvm.ClassFile.FieldType.int) [((0 : Nat), (10 : Nat), (13 : Nat), (77 : Nat))]) ∈ kx_WS := kx_wd1 870 (by decide +kernel) rfl
theorem kw_871 : (Jvm.Cond.classLink "TaskDeskLaw" (77 : Nat) "java/util/NoSuchElementException") ∈ kx_WS := kx_wd1 871 (by decide +kernel) rfl
theorem kw_872 : (Jvm.Cond.methodLink "TaskDeskLaw" (74 : Nat) ({ cls := "TaskDesk", name := "task", desc := "(II)I" } : Jvm.MethodName)) ∈ kx_WS := kx_wd1 872 (by decide +kernel) rfl
theorem kw_873 : (Jvm.Cond.instanceMethod ({ cls := "TaskDesk", name := "task", desc := "(II)I" } : Jvm.MethodName)) ∈ kx_WS := kx_wd1 873 (by decide +kernel) rfl
theorem kw_874 : (Jvm.Cond.selects "TaskDesk" ({ cls := "TaskDesk", name := "task", desc := "(II)I" } : Jvm.MethodName) ({ cls := "TaskDesk", name := "task", desc := "(II)I" } : Jvm.MethodName)) ∈ kx_WS := kx_wd1 874 (by decide +kernel) rfl
theorem kw_875 : (Jvm.Cond.code ({ cls := "TaskDesk", name := "task", desc := "(II)I" } : Jvm.MethodName) prog_1_method_20_code (4 : Nat) (Option.some Jvm.ClassFile.FieldType.int)) ∈ kx_WS := kx_wd1 875 (by decide +kernel) rfl
theorem kw_876 : (Jvm.Cond.methodLink "TaskDesk" (355 : Nat) ({ cls := "TaskDesk", name := "mustBeTask", desc := "(I)LTaskDesk$Task;" } : Jvm.MethodName)) ∈ kx_WS := kx_wd1 876 (by decide +kernel) rfl
theorem kw_878 : (Jvm.Cond.instanceMethod ({ cls := "TaskDesk", name := "mustBeTask", desc := "(I)LTaskDesk$Task;" } : Jvm.MethodName)) ∈ kx_WS := kx_wd1 878 (by decide +kernel) rfl
theorem kw_879 : (Jvm.Cond.code ({ cls := "TaskDesk", name := "mustBeTask", desc := "(I)LTaskDesk$Task;" } : Jvm.MethodName) prog_1_method_27_code (2 : Nat) (Option.some (Jvm.ClassFile.FieldType.object "TaskDesk$Task"))) ∈ kx_WS := kx_wd1 879 (by decide +kernel) rfl
theorem kw_880 : (Jvm.Cond.classLink "TaskDesk" (373 : Nat) "java/util/NoSuchElementException") ∈ kx_WS := kx_wd1 880 (by decide +kernel) rfl
theorem kw_881 : (Jvm.Cond.instantiable "java/util/NoSuchElementException" (6 : Nat)) ∈ kx_WS := kx_wd1 881 (by decide +kernel) rfl
theorem kw_882 : (Jvm.Cond.castable "java/util/NoSuchElementException" "java/util/NoSuchElementException") ∈ kx_WS := kx_wd1 882 (by decide +kernel) rfl
theorem kw_889 : (Jvm.Cond.stringRef "TaskDesk" (397 : Nat) "there is no such task") ∈ kx_WS := kx_wd1 889 (by decide +kernel) rfl
theorem kw_896 : (Jvm.Cond.methodLink "TaskDesk" (369 : Nat) ({ cls := "TaskDesk", name := "countBefore", desc := "(LTaskDesk$Place;)I" } : Jvm.MethodName)) ∈ kx_WS := kx_wd1 896 (by decide +kernel) rfl
theorem kw_898 : (Jvm.Cond.instanceMethod ({ cls := "TaskDesk", name := "countBefore", desc := "(LTaskDesk$Place;)I" } : Jvm.MethodName)) ∈ kx_WS := kx_wd1 898 (by decide +kernel) rfl
theorem kw_899 : (Jvm.Cond.code ({ cls := "TaskDesk", name := "countBefore", desc := "(LTaskDesk$Place;)I" } : Jvm.MethodName) prog_1_method_36_code (4 : Nat) (Option.some Jvm.ClassFile.FieldType.int)) ∈ kx_WS := kx_wd1 899 (by decide +kernel) rfl
theorem kw_900 : (Jvm.Cond.stringRef "TaskDesk" (375 : Nat) "nothing of this number is told of a task") ∈ kx_WS := kx_wd1 900 (by decide +kernel) rfl
theorem kw_901 : (Jvm.Cond.methodLink "TaskDeskLaw" (169 : Nat) ({ cls := "TaskDeskLaw", name := "outcome", desc := "(LTaskDesk;I[J)I" } : Jvm.MethodName)) ∈ kx_WS := kx_wd1 901 (by decide +kernel) rfl
theorem kw_902 : (Jvm.Cond.static ({ cls := "TaskDeskLaw", name := "outcome", desc := "(LTaskDesk;I[J)I" } : Jvm.MethodName)) ∈ kx_WS := kx_wd1 902 (by decide +kernel) rfl
theorem kw_903 : (Jvm.Cond.codeWith ({ cls := "TaskDeskLaw", name := "outcome", desc := "(LTaskDesk;I[J)I" } : Jvm.MethodName) method_20_code (4 : Nat) (Option.some Jvm.ClassFile.FieldType.int) [((0 : Nat), (8 : Nat), (11 : Nat), (77 : Nat))]) ∈ kx_WS := kx_wd1 903 (by decide +kernel) rfl
theorem kw_904 : (Jvm.Cond.methodLink "TaskDeskLaw" (79 : Nat) ({ cls := "TaskDesk", name := "outcome", desc := "(I)J" } : Jvm.MethodName)) ∈ kx_WS := kx_wd1 904 (by decide +kernel) rfl
theorem kw_905 : (Jvm.Cond.instanceMethod ({ cls := "TaskDesk", name := "outcome", desc := "(I)J" } : Jvm.MethodName)) ∈ kx_WS := kx_wd1 905 (by decide +kernel) rfl
theorem kw_906 : (Jvm.Cond.selects "TaskDesk" ({ cls := "TaskDesk", name := "outcome", desc := "(I)J" } : Jvm.MethodName) ({ cls := "TaskDesk", name := "outcome", desc := "(I)J" } : Jvm.MethodName)) ∈ kx_WS := kx_wd1 906 (by decide +kernel) rfl
theorem kw_907 : (Jvm.Cond.code ({ cls := "TaskDesk", name := "outcome", desc := "(I)J" } : Jvm.MethodName) prog_1_method_21_code (2 : Nat) (Option.some Jvm.ClassFile.FieldType.long)) ∈ kx_WS := kx_wd1 907 (by decide +kernel) rfl
theorem kw_908 : (Jvm.Cond.methodLink "TaskDeskLaw" (172 : Nat) ({ cls := "TaskDeskLaw", name := "look", desc := "(LTaskDesk;II[J)I" } : Jvm.MethodName)) ∈ kx_WS := kx_wd1 908 (by decide +kernel) rfl
theorem kw_909 : (Jvm.Cond.static ({ cls := "TaskDeskLaw", name := "look", desc := "(LTaskDesk;II[J)I" } : Jvm.MethodName)) ∈ kx_WS := kx_wd1 909 (by decide +kernel) rfl
theorem kw_910 : (Jvm.Cond.codeWith ({ cls := "TaskDeskLaw", name := "look", desc := "(LTaskDesk;II[J)I" } : Jvm.MethodName) method_21_code (5 : Nat) (Option.some Jvm.ClassFile.FieldType.int) [((0 : Nat), (10 : Nat), (13 : Nat), (77 : Nat))]) ∈ kx_WS := kx_wd1 910 (by decide +kernel) rfl
theorem kw_911 : (Jvm.Cond.methodLink "TaskDeskLaw" (83 : Nat) ({ cls := "TaskDesk", name := "look", desc := "(II)I" } : Jvm.MethodName)) ∈ kx_WS := kx_wd1 911 (by decide +kernel) rfl
theorem kw_912 : (Jvm.Cond.instanceMethod ({ cls := "TaskDesk", name := "look", desc := "(II)I" } : Jvm.MethodName)) ∈ kx_WS := kx_wd1 912 (by decide +kernel) rfl
theorem kw_913 : (Jvm.Cond.selects "TaskDesk" ({ cls := "TaskDesk", name := "look", desc := "(II)I" } : Jvm.MethodName) ({ cls := "TaskDesk", name := "look", desc := "(II)I" } : Jvm.MethodName)) ∈ kx_WS := kx_wd1 913 (by decide +kernel) rfl
theorem kw_914 : (Jvm.Cond.code ({ cls := "TaskDesk", name := "look", desc := "(II)I" } : Jvm.MethodName) prog_1_method_22_code (4 : Nat) (Option.some Jvm.ClassFile.FieldType.int)) ∈ kx_WS := kx_wd1 914 (by decide +kernel) rfl
theorem kw_915 : (Jvm.Cond.stringRef "TaskDesk" (386 : Nat) "nothing of this number is told of a channel") ∈ kx_WS := kx_wd1 915 (by decide +kernel) rfl
theorem kw_916 : (Jvm.Cond.methodLink "TaskDeskLaw" (175 : Nat) ({ cls := "TaskDeskLaw", name := "watch", desc := "(LTaskDesk;II[J)I" } : Jvm.MethodName)) ∈ kx_WS := kx_wd1 916 (by decide +kernel) rfl
theorem kw_917 : (Jvm.Cond.static ({ cls := "TaskDeskLaw", name := "watch", desc := "(LTaskDesk;II[J)I" } : Jvm.MethodName)) ∈ kx_WS := kx_wd1 917 (by decide +kernel) rfl
theorem kw_918 : (Jvm.Cond.codeWith ({ cls := "TaskDeskLaw", name := "watch", desc := "(LTaskDesk;II[J)I" } : Jvm.MethodName) method_22_code (5 : Nat) (Option.some Jvm.ClassFile.FieldType.int) [((0 : Nat), (10 : Nat), (13 : Nat), (77 : Nat))]) ∈ kx_WS := kx_wd1 918 (by decide +kernel) rfl
theorem kw_919 : (Jvm.Cond.methodLink "TaskDeskLaw" (86 : Nat) ({ cls := "TaskDesk", name := "watch", desc := "(II)I" } : Jvm.MethodName)) ∈ kx_WS := kx_wd1 919 (by decide +kernel) rfl
theorem kw_920 : (Jvm.Cond.instanceMethod ({ cls := "TaskDesk", name := "watch", desc := "(II)I" } : Jvm.MethodName)) ∈ kx_WS := kx_wd1 920 (by decide +kernel) rfl
theorem kw_921 : (Jvm.Cond.selects "TaskDesk" ({ cls := "TaskDesk", name := "watch", desc := "(II)I" } : Jvm.MethodName) ({ cls := "TaskDesk", name := "watch", desc := "(II)I" } : Jvm.MethodName)) ∈ kx_WS := kx_wd1 921 (by decide +kernel) rfl
theorem kw_922 : (Jvm.Cond.code ({ cls := "TaskDesk", name := "watch", desc := "(II)I" } : Jvm.MethodName) prog_1_method_23_code (4 : Nat) (Option.some Jvm.ClassFile.FieldType.int)) ∈ kx_WS := kx_wd1 922 (by decide +kernel) rfl
theorem kw_923 : (Jvm.Cond.stringRef "TaskDesk" (390 : Nat) "nothing of this number is told of a gate") ∈ kx_WS := kx_wd1 923 (by decide +kernel) rfl
theorem kw_924 : (Jvm.Cond.classLink "TaskDeskLaw" (90 : Nat) "TaskDeskModel") ∈ kx_WS := kx_wd1 924 (by decide +kernel) rfl
theorem kw_925 : (Jvm.Cond.instantiable "TaskDeskModel" (42 : Nat)) ∈ kx_WS := kx_wd1 925 (by decide +kernel) rfl
theorem kw_926 : (Jvm.Cond.methodLink "TaskDeskLaw" (92 : Nat) ({ cls := "TaskDeskModel", name := "<init>", desc := "()V" } : Jvm.MethodName)) ∈ kx_WS := kx_wd1 926 (by decide +kernel) rfl
theorem kw_927 : (Jvm.Cond.instanceMethod ({ cls := "TaskDeskModel", name := "<init>", desc := "()V" } : Jvm.MethodName)) ∈ kx_WS := kx_wd1 927 (by decide +kernel) rfl
theorem kw_928 : (Jvm.Cond.code ({ cls := "TaskDeskModel", name := "<init>", desc := "()V" } : Jvm.MethodName) prog_11_method_1_code (1 : Nat) (Option.none : Option Jvm.ClassFile.FieldType)) ∈ kx_WS := kx_wd1 928 (by decide +kernel) rfl
theorem kw_929 : (Jvm.Cond.methodLink "TaskDeskModel" (1 : Nat) ({ cls := "java/lang/Object", name := "<init>", desc := "()V" } : Jvm.MethodName)) ∈ kx_WS := kx_wd1 929 (by decide +kernel) rfl
theorem kw_930 : (Jvm.Cond.fieldLink "TaskDeskModel" (99 : Nat) "TaskDeskModel" "thrown" "I") ∈ kx_WS := kx_wd1 930 (by decide +kernel) rfl
theorem kw_931 : (Jvm.Cond.fieldLink "TaskDeskModel" (106 : Nat) "TaskDeskModel" "current" "I") ∈ kx_WS := kx_wd1 931 (by decide +kernel) rfl
theorem kw_932 : (Jvm.Cond.fieldLink "TaskDeskModel" (118 : Nat) "TaskDeskModel" "standing" "I") ∈ kx_WS := kx_wd1 932 (by decide +kernel) rfl
theorem kw_933 : (Jvm.Cond.fieldLink "TaskDeskModel" (121 : Nat) "TaskDeskModel" "clock" "J") ∈ kx_WS := kx_wd1 933 (by decide +kernel) rfl
theorem kw_934 : (Jvm.Cond.fieldLink "TaskDeskModel" (7 : Nat) "TaskDeskModel" "lives" "[Z") ∈ kx_WS := kx_wd1 934 (by decide +kernel) rfl
theorem kw_935 : (Jvm.Cond.fieldLink "TaskDeskModel" (13 : Nat) "TaskDeskModel" "state" "[I") ∈ kx_WS := kx_wd1 935 (by decide +kernel) rfl
theorem kw_936 : (Jvm.Cond.fieldLink "TaskDeskModel" (17 : Nat) "TaskDeskModel" "where" "[I") ∈ kx_WS := kx_wd1 936 (by decide +kernel) rfl
theorem kw_937 : (Jvm.Cond.fieldLink "TaskDeskModel" (20 : Nat) "TaskDeskModel" "number" "[J") ∈ kx_WS := kx_wd1 937 (by decide +kernel) rfl
theorem kw_938 : (Jvm.Cond.fieldLink "TaskDeskModel" (24 : Nat) "TaskDeskModel" "flag" "[Z") ∈ kx_WS := kx_wd1 938 (by decide +kernel) rfl
theorem kw_939 : (Jvm.Cond.fieldLink "TaskDeskModel" (27 : Nat) "TaskDeskModel" "chosen" "[I") ∈ kx_WS := kx_wd1 939 (by decide +kernel) rfl
theorem kw_940 : (Jvm.Cond.fieldLink "TaskDeskModel" (30 : Nat) "TaskDeskModel" "broken" "[Z") ∈ kx_WS := kx_wd1 940 (by decide +kernel) rfl
theorem kw_941 : (Jvm.Cond.fieldLink "TaskDeskModel" (103 : Nat) "TaskDeskModel" "readies" "I") ∈ kx_WS := kx_wd1 941 (by decide +kernel) rfl
theorem kw_942 : (Jvm.Cond.fieldLink "TaskDeskModel" (33 : Nat) "TaskDeskModel" "ready" "[I") ∈ kx_WS := kx_wd1 942 (by decide +kernel) rfl
theorem kw_943 : (Jvm.Cond.fieldLink "TaskDeskModel" (36 : Nat) "TaskDeskModel" "isThere" "[Z") ∈ kx_WS := kx_wd1 943 (by decide +kernel) rfl
theorem kw_944 : (Jvm.Cond.fieldLink "TaskDeskModel" (39 : Nat) "TaskDeskModel" "closed" "[Z") ∈ kx_WS := kx_wd1 944 (by decide +kernel) rfl
theorem kw_945 : (Jvm.Cond.fieldLink "TaskDeskModel" (42 : Nat) "TaskDeskModel" "room" "[I") ∈ kx_WS := kx_wd1 945 (by decide +kernel) rfl
theorem kw_946 : (Jvm.Cond.fieldLink "TaskDeskModel" (173 : Nat) "TaskDeskModel" "rooms" "I") ∈ kx_WS := kx_wd1 946 (by decide +kernel) rfl
theorem kw_947 : (Jvm.Cond.fieldLink "TaskDeskModel" (146 : Nat) "TaskDeskModel" "values" "I") ∈ kx_WS := kx_wd1 947 (by decide +kernel) rfl
theorem kw_948 : (Jvm.Cond.fieldLink "TaskDeskModel" (45 : Nat) "TaskDeskModel" "valueOf" "[I") ∈ kx_WS := kx_wd1 948 (by decide +kernel) rfl
theorem kw_949 : (Jvm.Cond.fieldLink "TaskDeskModel" (48 : Nat) "TaskDeskModel" "value" "[J") ∈ kx_WS := kx_wd1 949 (by decide +kernel) rfl
theorem kw_950 : (Jvm.Cond.fieldLink "TaskDeskModel" (149 : Nat) "TaskDeskModel" "offers" "I") ∈ kx_WS := kx_wd1 950 (by decide +kernel) rfl
theorem kw_951 : (Jvm.Cond.fieldLink "TaskDeskModel" (51 : Nat) "TaskDeskModel" "whose" "[I") ∈ kx_WS := kx_wd1 951 (by decide +kernel) rfl
theorem kw_952 : (Jvm.Cond.fieldLink "TaskDeskModel" (54 : Nat) "TaskDeskModel" "at" "[I") ∈ kx_WS := kx_wd1 952 (by decide +kernel) rfl
theorem kw_953 : (Jvm.Cond.fieldLink "TaskDeskModel" (57 : Nat) "TaskDeskModel" "gives" "[Z") ∈ kx_WS := kx_wd1 953 (by decide +kernel) rfl
theorem kw_954 : (Jvm.Cond.fieldLink "TaskDeskModel" (60 : Nat) "TaskDeskModel" "what" "[J") ∈ kx_WS := kx_wd1 954 (by decide +kernel) rfl
theorem kw_955 : (Jvm.Cond.fieldLink "TaskDeskModel" (63 : Nat) "TaskDeskModel" "which" "[I") ∈ kx_WS := kx_wd1 955 (by decide +kernel) rfl
theorem kw_956 : (Jvm.Cond.fieldLink "TaskDeskModel" (180 : Nat) "TaskDeskModel" "told" "I") ∈ kx_WS := kx_wd1 956 (by decide +kernel) rfl
theorem kw_957 : (Jvm.Cond.fieldLink "TaskDeskModel" (66 : Nat) "TaskDeskModel" "toldAt" "[I") ∈ kx_WS := kx_wd1 957 (by decide +kernel) rfl
theorem kw_958 : (Jvm.Cond.fieldLink "TaskDeskModel" (69 : Nat) "TaskDeskModel" "toldGives" "[Z") ∈ kx_WS := kx_wd1 958 (by decide +kernel) rfl
theorem kw_959 : (Jvm.Cond.fieldLink "TaskDeskModel" (72 : Nat) "TaskDeskModel" "toldWhat" "[J") ∈ kx_WS := kx_wd1 959 (by decide +kernel) rfl
theorem kw_960 : (Jvm.Cond.fieldLink "TaskDeskModel" (218 : Nat) "TaskDeskModel" "gates" "I") ∈ kx_WS := kx_wd1 960 (by decide +kernel) rfl
theorem kw_961 : (Jvm.Cond.fieldLink "TaskDeskModel" (75 : Nat) "TaskDeskModel" "kind" "[I") ∈ kx_WS := kx_wd1 961 (by decide +kernel) rfl
theorem kw_962 : (Jvm.Cond.fieldLink "TaskDeskModel" (78 : Nat) "TaskDeskModel" "held" "[I") ∈ kx_WS := kx_wd1 962 (by decide +kernel) rfl
theorem kw_963 : (Jvm.Cond.fieldLink "TaskDeskModel" (81 : Nat) "TaskDeskModel" "lockOf" "[I") ∈ kx_WS := kx_wd1 963 (by decide +kernel) rfl
theorem kw_964 : (Jvm.Cond.fieldLink "TaskDeskModel" (211 : Nat) "TaskDeskModel" "standers" "I") ∈ kx_WS := kx_wd1 964 (by decide +kernel) rfl
theorem kw_965 : (Jvm.Cond.fieldLink "TaskDeskModel" (84 : Nat) "TaskDeskModel" "stander" "[I") ∈ kx_WS := kx_wd1 965 (by decide +kernel) rfl
theorem kw_966 : (Jvm.Cond.fieldLink "TaskDeskModel" (87 : Nat) "TaskDeskModel" "gateOf" "[I") ∈ kx_WS := kx_wd1 966 (by decide +kernel) rfl
theorem kw_967 : (Jvm.Cond.fieldLink "TaskDeskModel" (90 : Nat) "TaskDeskModel" "reads" "[Z") ∈ kx_WS := kx_wd1 967 (by decide +kernel) rfl
theorem kw_968 : (Jvm.Cond.fieldLink "TaskDeskModel" (112 : Nat) "TaskDeskModel" "events" "I") ∈ kx_WS := kx_wd1 968 (by decide +kernel) rfl
theorem kw_969 : (Jvm.Cond.fieldLink "TaskDeskModel" (93 : Nat) "TaskDeskModel" "event" "[I") ∈ kx_WS := kx_wd1 969 (by decide +kernel) rfl
theorem kw_970 : (Jvm.Cond.fieldLink "TaskDeskModel" (96 : Nat) "TaskDeskModel" "when" "[J") ∈ kx_WS := kx_wd1 970 (by decide +kernel) rfl
theorem kw_971 : (Jvm.Cond.fieldLink "TaskDeskModel" (129 : Nat) "TaskDeskModel" "alarms" "I") ∈ kx_WS := kx_wd1 971 (by decide +kernel) rfl
theorem kw_1057 : (Jvm.Cond.arrayClass Jvm.ClassFile.FieldType.boolean) ∈ kx_WS := kx_wd1 1057 (by decide +kernel) rfl
theorem kw_1058 : (Jvm.Cond.arrayClass Jvm.ClassFile.FieldType.int) ∈ kx_WS := kx_wd1 1058 (by decide +kernel) rfl
theorem kw_1059 : (Jvm.Cond.arrayClass Jvm.ClassFile.FieldType.long) ∈ kx_WS := kx_wd1 1059 (by decide +kernel) rfl
theorem kw_1060 : (Jvm.Cond.methodLink "TaskDeskLaw" (99 : Nat) ({ cls := "TaskDeskModel", name := "thrown", desc := "()I" } : Jvm.MethodName)) ∈ kx_WS := kx_wd1 1060 (by decide +kernel) rfl
theorem kw_1061 : (Jvm.Cond.instanceMethod ({ cls := "TaskDeskModel", name := "thrown", desc := "()I" } : Jvm.MethodName)) ∈ kx_WS := kx_wd1 1061 (by decide +kernel) rfl
theorem kw_1062 : (Jvm.Cond.selects "TaskDeskModel" ({ cls := "TaskDeskModel", name := "thrown", desc := "()I" } : Jvm.MethodName) ({ cls := "TaskDeskModel", name := "thrown", desc := "()I" } : Jvm.MethodName)) ∈ kx_WS := kx_wd1 1062 (by decide +kernel) rfl
theorem kw_1063 : (Jvm.Cond.code ({ cls := "TaskDeskModel", name := "thrown", desc := "()I" } : Jvm.MethodName) prog_11_method_2_code (1 : Nat) (Option.some Jvm.ClassFile.FieldType.int)) ∈ kx_WS := kx_wd1 1063 (by decide +kernel) rfl
theorem kw_1064 : (Jvm.Cond.methodLink "TaskDeskLaw" (117 : Nat) ({ cls := "TaskDeskModel", name := "channel", desc := "(I)I" } : Jvm.MethodName)) ∈ kx_WS := kx_wd1 1064 (by decide +kernel) rfl
theorem kw_1065 : (Jvm.Cond.instanceMethod ({ cls := "TaskDeskModel", name := "channel", desc := "(I)I" } : Jvm.MethodName)) ∈ kx_WS := kx_wd1 1065 (by decide +kernel) rfl
theorem kw_1066 : (Jvm.Cond.selects "TaskDeskModel" ({ cls := "TaskDeskModel", name := "channel", desc := "(I)I" } : Jvm.MethodName) ({ cls := "TaskDeskModel", name := "channel", desc := "(I)I" } : Jvm.MethodName)) ∈ kx_WS := kx_wd1 1066 (by decide +kernel) rfl
theorem kw_1067 : (Jvm.Cond.code ({ cls := "TaskDeskModel", name := "channel", desc := "(I)I" } : Jvm.MethodName) prog_11_method_23_code (3 : Nat) (Option.some Jvm.ClassFile.FieldType.int)) ∈ kx_WS := kx_wd1 1067 (by decide +kernel) rfl
theorem kw_1068 : (Jvm.Cond.methodLink "TaskDeskModel" (170 : Nat) ({ cls := "TaskDeskModel", name := "fail", desc := "(I)I" } : Jvm.MethodName)) ∈ kx_WS := kx_wd1 1068 (by decide +kernel) rfl
theorem kw_1070 : (Jvm.Cond.instanceMethod ({ cls := "TaskDeskModel", name := "fail", desc := "(I)I" } : Jvm.MethodName)) ∈ kx_WS := kx_wd1 1070 (by decide +kernel) rfl
theorem kw_1071 : (Jvm.Cond.code ({ cls := "TaskDeskModel", name := "fail", desc := "(I)I" } : Jvm.MethodName) prog_11_method_3_code (2 : Nat) (Option.some Jvm.ClassFile.FieldType.int)) ∈ kx_WS := kx_wd1 1071 (by decide +kernel) rfl
theorem kw_1072 : (Jvm.Cond.methodLink "TaskDeskLaw" (121 : Nat) ({ cls := "TaskDeskModel", name := "release", desc := "(I)Z" } : Jvm.MethodName)) ∈ kx_WS := kx_wd1 1072 (by decide +kernel) rfl
theorem kw_1073 : (Jvm.Cond.instanceMethod ({ cls := "TaskDeskModel", name := "release", desc := "(I)Z" } : Jvm.MethodName)) ∈ kx_WS := kx_wd1 1073 (by decide +kernel) rfl
theorem kw_1074 : (Jvm.Cond.selects "TaskDeskModel" ({ cls := "TaskDeskModel", name := "release", desc := "(I)Z" } : Jvm.MethodName) ({ cls := "TaskDeskModel", name := "release", desc := "(I)Z" } : Jvm.MethodName)) ∈ kx_WS := kx_wd1 1074 (by decide +kernel) rfl
theorem kw_1075 : (Jvm.Cond.code ({ cls := "TaskDeskModel", name := "release", desc := "(I)Z" } : Jvm.MethodName) prog_11_method_24_code (4 : Nat) (Option.some Jvm.ClassFile.FieldType.boolean)) ∈ kx_WS := kx_wd1 1075 (by decide +kernel) rfl
theorem kw_1076 : (Jvm.Cond.methodLink "TaskDeskModel" (176 : Nat) ({ cls := "TaskDeskModel", name := "isChannel", desc := "(I)Z" } : Jvm.MethodName)) ∈ kx_WS := kx_wd1 1076 (by decide +kernel) rfl
theorem kw_1078 : (Jvm.Cond.instanceMethod ({ cls := "TaskDeskModel", name := "isChannel", desc := "(I)Z" } : Jvm.MethodName)) ∈ kx_WS := kx_wd1 1078 (by decide +kernel) rfl
theorem kw_1079 : (Jvm.Cond.code ({ cls := "TaskDeskModel", name := "isChannel", desc := "(I)Z" } : Jvm.MethodName) prog_11_method_11_code (2 : Nat) (Option.some Jvm.ClassFile.FieldType.boolean)) ∈ kx_WS := kx_wd1 1079 (by decide +kernel) rfl
theorem kw_1080 : (Jvm.Cond.methodLink "TaskDeskModel" (135 : Nat) ({ cls := "TaskDeskModel", name := "first", desc := "(IZ)I" } : Jvm.MethodName)) ∈ kx_WS := kx_wd1 1080 (by decide +kernel) rfl
theorem kw_1082 : (Jvm.Cond.instanceMethod ({ cls := "TaskDeskModel", name := "first", desc := "(IZ)I" } : Jvm.MethodName)) ∈ kx_WS := kx_wd1 1082 (by decide +kernel) rfl
theorem kw_1083 : (Jvm.Cond.code ({ cls := "TaskDeskModel", name := "first", desc := "(IZ)I" } : Jvm.MethodName) prog_11_method_13_code (4 : Nat) (Option.some Jvm.ClassFile.FieldType.int)) ∈ kx_WS := kx_wd1 1083 (by decide +kernel) rfl
theorem kw_1084 : (Jvm.Cond.methodLink "TaskDeskModel" (139 : Nat) ({ cls := "TaskDeskModel", name := "held", desc := "(I)I" } : Jvm.MethodName)) ∈ kx_WS := kx_wd1 1084 (by decide +kernel) rfl
theorem kw_1086 : (Jvm.Cond.instanceMethod ({ cls := "TaskDeskModel", name := "held", desc := "(I)I" } : Jvm.MethodName)) ∈ kx_WS := kx_wd1 1086 (by decide +kernel) rfl
theorem kw_1087 : (Jvm.Cond.code ({ cls := "TaskDeskModel", name := "held", desc := "(I)I" } : Jvm.MethodName) prog_11_method_12_code (4 : Nat) (Option.some Jvm.ClassFile.FieldType.int)) ∈ kx_WS := kx_wd1 1087 (by decide +kernel) rfl
theorem kw_1088 : (Jvm.Cond.methodLink "TaskDeskModel" (166 : Nat) ({ cls := "TaskDeskModel", name := "takeFirst", desc := "(I)J" } : Jvm.MethodName)) ∈ kx_WS := kx_wd1 1088 (by decide +kernel) rfl
theorem kw_1090 : (Jvm.Cond.instanceMethod ({ cls := "TaskDeskModel", name := "takeFirst", desc := "(I)J" } : Jvm.MethodName)) ∈ kx_WS := kx_wd1 1090 (by decide +kernel) rfl
theorem kw_1091 : (Jvm.Cond.code ({ cls := "TaskDeskModel", name := "takeFirst", desc := "(I)J" } : Jvm.MethodName) prog_11_method_19_code (5 : Nat) (Option.some Jvm.ClassFile.FieldType.long)) ∈ kx_WS := kx_wd1 1091 (by decide +kernel) rfl
theorem kw_1092 : (Jvm.Cond.methodLink "TaskDeskLaw" (125 : Nat) ({ cls := "TaskDeskModel", name := "alarm", desc := "(IJ)V" } : Jvm.MethodName)) ∈ kx_WS := kx_wd1 1092 (by decide +kernel) rfl
theorem kw_1093 : (Jvm.Cond.instanceMethod ({ cls := "TaskDeskModel", name := "alarm", desc := "(IJ)V" } : Jvm.MethodName)) ∈ kx_WS := kx_wd1 1093 (by decide +kernel) rfl
theorem kw_1094 : (Jvm.Cond.selects "TaskDeskModel" ({ cls := "TaskDeskModel", name := "alarm", desc := "(IJ)V" } : Jvm.MethodName) ({ cls := "TaskDeskModel", name := "alarm", desc := "(IJ)V" } : Jvm.MethodName)) ∈ kx_WS := kx_wd1 1094 (by decide +kernel) rfl
theorem kw_1095 : (Jvm.Cond.code ({ cls := "TaskDeskModel", name := "alarm", desc := "(IJ)V" } : Jvm.MethodName) prog_11_method_25_code (4 : Nat) (Option.none : Option Jvm.ClassFile.FieldType)) ∈ kx_WS := kx_wd1 1095 (by decide +kernel) rfl
theorem kw_1096 : (Jvm.Cond.constantLong "TaskDeskModel" (183 : Nat) (1000000000 : Int64)) ∈ kx_WS := kx_wd1 1096 (by decide +kernel) rfl
theorem kw_1097 : (Jvm.Cond.methodLink "TaskDeskLaw" (129 : Nat) ({ cls := "TaskDeskModel", name := "send", desc := "(IJ)Z" } : Jvm.MethodName)) ∈ kx_WS := kx_wd1 1097 (by decide +kernel) rfl
theorem kw_1098 : (Jvm.Cond.instanceMethod ({ cls := "TaskDeskModel", name := "send", desc := "(IJ)Z" } : Jvm.MethodName)) ∈ kx_WS := kx_wd1 1098 (by decide +kernel) rfl
theorem kw_1099 : (Jvm.Cond.selects "TaskDeskModel" ({ cls := "TaskDeskModel", name := "send", desc := "(IJ)Z" } : Jvm.MethodName) ({ cls := "TaskDeskModel", name := "send", desc := "(IJ)Z" } : Jvm.MethodName)) ∈ kx_WS := kx_wd1 1099 (by decide +kernel) rfl
theorem kw_1100 : (Jvm.Cond.code ({ cls := "TaskDeskModel", name := "send", desc := "(IJ)Z" } : Jvm.MethodName) prog_11_method_26_code (4 : Nat) (Option.some Jvm.ClassFile.FieldType.boolean)) ∈ kx_WS := kx_wd1 1100 (by decide +kernel) rfl
theorem kw_1101 : (Jvm.Cond.methodLink "TaskDeskModel" (185 : Nat) ({ cls := "TaskDeskModel", name := "no", desc := "(I)Z" } : Jvm.MethodName)) ∈ kx_WS := kx_wd1 1101 (by decide +kernel) rfl
theorem kw_1103 : (Jvm.Cond.instanceMethod ({ cls := "TaskDeskModel", name := "no", desc := "(I)Z" } : Jvm.MethodName)) ∈ kx_WS := kx_wd1 1103 (by decide +kernel) rfl
theorem kw_1104 : (Jvm.Cond.code ({ cls := "TaskDeskModel", name := "no", desc := "(I)Z" } : Jvm.MethodName) prog_11_method_4_code (2 : Nat) (Option.some Jvm.ClassFile.FieldType.boolean)) ∈ kx_WS := kx_wd1 1104 (by decide +kernel) rfl
theorem kw_1105 : (Jvm.Cond.methodLink "TaskDeskModel" (188 : Nat) ({ cls := "TaskDeskModel", name := "maySend", desc := "(I)Z" } : Jvm.MethodName)) ∈ kx_WS := kx_wd1 1105 (by decide +kernel) rfl
theorem kw_1107 : (Jvm.Cond.instanceMethod ({ cls := "TaskDeskModel", name := "maySend", desc := "(I)Z" } : Jvm.MethodName)) ∈ kx_WS := kx_wd1 1107 (by decide +kernel) rfl
theorem kw_1108 : (Jvm.Cond.code ({ cls := "TaskDeskModel", name := "maySend", desc := "(I)Z" } : Jvm.MethodName) prog_11_method_21_code (2 : Nat) (Option.some Jvm.ClassFile.FieldType.boolean)) ∈ kx_WS := kx_wd1 1108 (by decide +kernel) rfl
theorem kw_1109 : (Jvm.Cond.methodLink "TaskDeskModel" (142 : Nat) ({ cls := "TaskDeskModel", name := "deliver", desc := "(IJ)V" } : Jvm.MethodName)) ∈ kx_WS := kx_wd1 1109 (by decide +kernel) rfl
theorem kw_1111 : (Jvm.Cond.instanceMethod ({ cls := "TaskDeskModel", name := "deliver", desc := "(IJ)V" } : Jvm.MethodName)) ∈ kx_WS := kx_wd1 1111 (by decide +kernel) rfl
theorem kw_1112 : (Jvm.Cond.code ({ cls := "TaskDeskModel", name := "deliver", desc := "(IJ)V" } : Jvm.MethodName) prog_11_method_18_code (5 : Nat) (Option.none : Option Jvm.ClassFile.FieldType)) ∈ kx_WS := kx_wd1 1112 (by decide +kernel) rfl
theorem kw_1113 : (Jvm.Cond.methodLink "TaskDeskModel" (159 : Nat) ({ cls := "TaskDeskModel", name := "met", desc := "(IJZZ)V" } : Jvm.MethodName)) ∈ kx_WS := kx_wd1 1113 (by decide +kernel) rfl
theorem kw_1115 : (Jvm.Cond.instanceMethod ({ cls := "TaskDeskModel", name := "met", desc := "(IJZZ)V" } : Jvm.MethodName)) ∈ kx_WS := kx_wd1 1115 (by decide +kernel) rfl
theorem kw_1116 : (Jvm.Cond.code ({ cls := "TaskDeskModel", name := "met", desc := "(IJZZ)V" } : Jvm.MethodName) prog_11_method_15_code (7 : Nat) (Option.none : Option Jvm.ClassFile.FieldType)) ∈ kx_WS := kx_wd1 1116 (by decide +kernel) rfl
theorem kw_1117 : (Jvm.Cond.methodLink "TaskDeskModel" (152 : Nat) ({ cls := "TaskDeskModel", name := "has", desc := "(IJZIZ)V" } : Jvm.MethodName)) ∈ kx_WS := kx_wd1 1117 (by decide +kernel) rfl
theorem kw_1119 : (Jvm.Cond.instanceMethod ({ cls := "TaskDeskModel", name := "has", desc := "(IJZIZ)V" } : Jvm.MethodName)) ∈ kx_WS := kx_wd1 1119 (by decide +kernel) rfl
theorem kw_1120 : (Jvm.Cond.code ({ cls := "TaskDeskModel", name := "has", desc := "(IJZIZ)V" } : Jvm.MethodName) prog_11_method_5_code (7 : Nat) (Option.none : Option Jvm.ClassFile.FieldType)) ∈ kx_WS := kx_wd1 1120 (by decide +kernel) rfl
theorem kw_1121 : (Jvm.Cond.methodLink "TaskDeskModel" (156 : Nat) ({ cls := "TaskDeskModel", name := "withdraw", desc := "(I)V" } : Jvm.MethodName)) ∈ kx_WS := kx_wd1 1121 (by decide +kernel) rfl
theorem kw_1123 : (Jvm.Cond.instanceMethod ({ cls := "TaskDeskModel", name := "withdraw", desc := "(I)V" } : Jvm.MethodName)) ∈ kx_WS := kx_wd1 1123 (by decide +kernel) rfl
theorem kw_1124 : (Jvm.Cond.code ({ cls := "TaskDeskModel", name := "withdraw", desc := "(I)V" } : Jvm.MethodName) prog_11_method_14_code (4 : Nat) (Option.none : Option Jvm.ClassFile.FieldType)) ∈ kx_WS := kx_wd1 1124 (by decide +kernel) rfl
theorem kw_1125 : (Jvm.Cond.methodLink "TaskDeskModel" (125 : Nat) ({ cls := "TaskDeskModel", name := "wake", desc := "(I)V" } : Jvm.MethodName)) ∈ kx_WS := kx_wd1 1125 (by decide +kernel) rfl
theorem kw_1127 : (Jvm.Cond.instanceMethod ({ cls := "TaskDeskModel", name := "wake", desc := "(I)V" } : Jvm.MethodName)) ∈ kx_WS := kx_wd1 1127 (by decide +kernel) rfl
theorem kw_1128 : (Jvm.Cond.code ({ cls := "TaskDeskModel", name := "wake", desc := "(I)V" } : Jvm.MethodName) prog_11_method_6_code (2 : Nat) (Option.none : Option Jvm.ClassFile.FieldType)) ∈ kx_WS := kx_wd1 1128 (by decide +kernel) rfl
theorem kw_1129 : (Jvm.Cond.methodLink "TaskDeskModel" (163 : Nat) ({ cls := "TaskDeskModel", name := "store", desc := "(IJ)V" } : Jvm.MethodName)) ∈ kx_WS := kx_wd1 1129 (by decide +kernel) rfl
theorem kw_1131 : (Jvm.Cond.instanceMethod ({ cls := "TaskDeskModel", name := "store", desc := "(IJ)V" } : Jvm.MethodName)) ∈ kx_WS := kx_wd1 1131 (by decide +kernel) rfl
theorem kw_1132 : (Jvm.Cond.code ({ cls := "TaskDeskModel", name := "store", desc := "(IJ)V" } : Jvm.MethodName) prog_11_method_17_code (4 : Nat) (Option.none : Option Jvm.ClassFile.FieldType)) ∈ kx_WS := kx_wd1 1132 (by decide +kernel) rfl
theorem kw_1133 : (Jvm.Cond.methodLink "TaskDeskModel" (191 : Nat) ({ cls := "TaskDeskModel", name := "offer", desc := "(IIZJI)V" } : Jvm.MethodName)) ∈ kx_WS := kx_wd1 1133 (by decide +kernel) rfl
theorem kw_1135 : (Jvm.Cond.instanceMethod ({ cls := "TaskDeskModel", name := "offer", desc := "(IIZJI)V" } : Jvm.MethodName)) ∈ kx_WS := kx_wd1 1135 (by decide +kernel) rfl
theorem kw_1136 : (Jvm.Cond.code ({ cls := "TaskDeskModel", name := "offer", desc := "(IIZJI)V" } : Jvm.MethodName) prog_11_method_16_code (7 : Nat) (Option.none : Option Jvm.ClassFile.FieldType)) ∈ kx_WS := kx_wd1 1136 (by decide +kernel) rfl
theorem kw_1137 : (Jvm.Cond.methodLink "TaskDeskModel" (195 : Nat) ({ cls := "TaskDeskModel", name := "rest", desc := "(II)V" } : Jvm.MethodName)) ∈ kx_WS := kx_wd1 1137 (by decide +kernel) rfl
theorem kw_1139 : (Jvm.Cond.instanceMethod ({ cls := "TaskDeskModel", name := "rest", desc := "(II)V" } : Jvm.MethodName)) ∈ kx_WS := kx_wd1 1139 (by decide +kernel) rfl
theorem kw_1140 : (Jvm.Cond.code ({ cls := "TaskDeskModel", name := "rest", desc := "(II)V" } : Jvm.MethodName) prog_11_method_7_code (3 : Nat) (Option.none : Option Jvm.ClassFile.FieldType)) ∈ kx_WS := kx_wd1 1140 (by decide +kernel) rfl
theorem kw_1141 : (Jvm.Cond.methodLink "TaskDeskModel" (109 : Nat) ({ cls := "TaskDeskModel", name := "next", desc := "()V" } : Jvm.MethodName)) ∈ kx_WS := kx_wd1 1141 (by decide +kernel) rfl
theorem kw_1143 : (Jvm.Cond.instanceMethod ({ cls := "TaskDeskModel", name := "next", desc := "()V" } : Jvm.MethodName)) ∈ kx_WS := kx_wd1 1143 (by decide +kernel) rfl
theorem kw_1144 : (Jvm.Cond.code ({ cls := "TaskDeskModel", name := "next", desc := "()V" } : Jvm.MethodName) prog_11_method_8_code (2 : Nat) (Option.none : Option Jvm.ClassFile.FieldType)) ∈ kx_WS := kx_wd1 1144 (by decide +kernel) rfl
theorem kw_1145 : (Jvm.Cond.methodLink "TaskDeskModel" (115 : Nat) ({ cls := "TaskDeskModel", name := "ring", desc := "()V" } : Jvm.MethodName)) ∈ kx_WS := kx_wd1 1145 (by decide +kernel) rfl
theorem kw_1147 : (Jvm.Cond.instanceMethod ({ cls := "TaskDeskModel", name := "ring", desc := "()V" } : Jvm.MethodName)) ∈ kx_WS := kx_wd1 1147 (by decide +kernel) rfl
theorem kw_1148 : (Jvm.Cond.code ({ cls := "TaskDeskModel", name := "ring", desc := "()V" } : Jvm.MethodName) prog_11_method_9_code (6 : Nat) (Option.none : Option Jvm.ClassFile.FieldType)) ∈ kx_WS := kx_wd1 1148 (by decide +kernel) rfl
theorem kw_1149 : (Jvm.Cond.methodLink "TaskDeskModel" (132 : Nat) ({ cls := "TaskDeskModel", name := "rings", desc := "(I)V" } : Jvm.MethodName)) ∈ kx_WS := kx_wd1 1149 (by decide +kernel) rfl
theorem kw_1151 : (Jvm.Cond.instanceMethod ({ cls := "TaskDeskModel", name := "rings", desc := "(I)V" } : Jvm.MethodName)) ∈ kx_WS := kx_wd1 1151 (by decide +kernel) rfl
theorem kw_1152 : (Jvm.Cond.code ({ cls := "TaskDeskModel", name := "rings", desc := "(I)V" } : Jvm.MethodName) prog_11_method_10_code (2 : Nat) (Option.none : Option Jvm.ClassFile.FieldType)) ∈ kx_WS := kx_wd1 1152 (by decide +kernel) rfl
theorem kw_1153 : (Jvm.Cond.methodLink "TaskDeskLaw" (132 : Nat) ({ cls := "TaskDeskModel", name := "receive", desc := "(I)Z" } : Jvm.MethodName)) ∈ kx_WS := kx_wd1 1153 (by decide +kernel) rfl
theorem kw_1154 : (Jvm.Cond.instanceMethod ({ cls := "TaskDeskModel", name := "receive", desc := "(I)Z" } : Jvm.MethodName)) ∈ kx_WS := kx_wd1 1154 (by decide +kernel) rfl
theorem kw_1155 : (Jvm.Cond.selects "TaskDeskModel" ({ cls := "TaskDeskModel", name := "receive", desc := "(I)Z" } : Jvm.MethodName) ({ cls := "TaskDeskModel", name := "receive", desc := "(I)Z" } : Jvm.MethodName)) ∈ kx_WS := kx_wd1 1155 (by decide +kernel) rfl
theorem kw_1156 : (Jvm.Cond.code ({ cls := "TaskDeskModel", name := "receive", desc := "(I)Z" } : Jvm.MethodName) prog_11_method_27_code (2 : Nat) (Option.some Jvm.ClassFile.FieldType.boolean)) ∈ kx_WS := kx_wd1 1156 (by decide +kernel) rfl
theorem kw_1157 : (Jvm.Cond.methodLink "TaskDeskModel" (199 : Nat) ({ cls := "TaskDeskModel", name := "mayReceive", desc := "(I)Z" } : Jvm.MethodName)) ∈ kx_WS := kx_wd1 1157 (by decide +kernel) rfl
theorem kw_1159 : (Jvm.Cond.instanceMethod ({ cls := "TaskDeskModel", name := "mayReceive", desc := "(I)Z" } : Jvm.MethodName)) ∈ kx_WS := kx_wd1 1159 (by decide +kernel) rfl
theorem kw_1160 : (Jvm.Cond.code ({ cls := "TaskDeskModel", name := "mayReceive", desc := "(I)Z" } : Jvm.MethodName) prog_11_method_22_code (2 : Nat) (Option.some Jvm.ClassFile.FieldType.boolean)) ∈ kx_WS := kx_wd1 1160 (by decide +kernel) rfl
theorem kw_1161 : (Jvm.Cond.methodLink "TaskDeskModel" (202 : Nat) ({ cls := "TaskDeskModel", name := "take", desc := "(II)V" } : Jvm.MethodName)) ∈ kx_WS := kx_wd1 1161 (by decide +kernel) rfl
theorem kw_1163 : (Jvm.Cond.instanceMethod ({ cls := "TaskDeskModel", name := "take", desc := "(II)V" } : Jvm.MethodName)) ∈ kx_WS := kx_wd1 1163 (by decide +kernel) rfl
theorem kw_1164 : (Jvm.Cond.code ({ cls := "TaskDeskModel", name := "take", desc := "(II)V" } : Jvm.MethodName) prog_11_method_20_code (4 : Nat) (Option.none : Option Jvm.ClassFile.FieldType)) ∈ kx_WS := kx_wd1 1164 (by decide +kernel) rfl
theorem kw_1165 : (Jvm.Cond.methodLink "TaskDeskLaw" (136 : Nat) ({ cls := "TaskDeskModel", name := "close", desc := "(I)V" } : Jvm.MethodName)) ∈ kx_WS := kx_wd1 1165 (by decide +kernel) rfl
theorem kw_1166 : (Jvm.Cond.instanceMethod ({ cls := "TaskDeskModel", name := "close", desc := "(I)V" } : Jvm.MethodName)) ∈ kx_WS := kx_wd1 1166 (by decide +kernel) rfl
theorem kw_1167 : (Jvm.Cond.selects "TaskDeskModel" ({ cls := "TaskDeskModel", name := "close", desc := "(I)V" } : Jvm.MethodName) ({ cls := "TaskDeskModel", name := "close", desc := "(I)V" } : Jvm.MethodName)) ∈ kx_WS := kx_wd1 1167 (by decide +kernel) rfl
theorem kw_1168 : (Jvm.Cond.code ({ cls := "TaskDeskModel", name := "close", desc := "(I)V" } : Jvm.MethodName) prog_11_method_28_code (3 : Nat) (Option.none : Option Jvm.ClassFile.FieldType)) ∈ kx_WS := kx_wd1 1168 (by decide +kernel) rfl
theorem kw_1169 : (Jvm.Cond.methodLink "TaskDeskLaw" (140 : Nat) ({ cls := "TaskDeskModel", name := "offer", desc := "(IZJ)I" } : Jvm.MethodName)) ∈ kx_WS := kx_wd1 1169 (by decide +kernel) rfl
theorem kw_1170 : (Jvm.Cond.instanceMethod ({ cls := "TaskDeskModel", name := "offer", desc := "(IZJ)I" } : Jvm.MethodName)) ∈ kx_WS := kx_wd1 1170 (by decide +kernel) rfl
theorem kw_1171 : (Jvm.Cond.selects "TaskDeskModel" ({ cls := "TaskDeskModel", name := "offer", desc := "(IZJ)I" } : Jvm.MethodName) ({ cls := "TaskDeskModel", name := "offer", desc := "(IZJ)I" } : Jvm.MethodName)) ∈ kx_WS := kx_wd1 1171 (by decide +kernel) rfl
theorem kw_1172 : (Jvm.Cond.code ({ cls := "TaskDeskModel", name := "offer", desc := "(IZJ)I" } : Jvm.MethodName) prog_11_method_29_code (5 : Nat) (Option.some Jvm.ClassFile.FieldType.int)) ∈ kx_WS := kx_wd1 1172 (by decide +kernel) rfl
theorem kw_1173 : (Jvm.Cond.methodLink "TaskDeskLaw" (144 : Nat) ({ cls := "TaskDeskModel", name := "choose", desc := "(IZ)Z" } : Jvm.MethodName)) ∈ kx_WS := kx_wd1 1173 (by decide +kernel) rfl
theorem kw_1174 : (Jvm.Cond.instanceMethod ({ cls := "TaskDeskModel", name := "choose", desc := "(IZ)Z" } : Jvm.MethodName)) ∈ kx_WS := kx_wd1 1174 (by decide +kernel) rfl
theorem kw_1175 : (Jvm.Cond.selects "TaskDeskModel" ({ cls := "TaskDeskModel", name := "choose", desc := "(IZ)Z" } : Jvm.MethodName) ({ cls := "TaskDeskModel", name := "choose", desc := "(IZ)Z" } : Jvm.MethodName)) ∈ kx_WS := kx_wd1 1175 (by decide +kernel) rfl
theorem kw_1176 : (Jvm.Cond.code ({ cls := "TaskDeskModel", name := "choose", desc := "(IZ)Z" } : Jvm.MethodName) prog_11_method_31_code (7 : Nat) (Option.some Jvm.ClassFile.FieldType.boolean)) ∈ kx_WS := kx_wd1 1176 (by decide +kernel) rfl
theorem kw_1177 : (Jvm.Cond.methodLink "TaskDeskModel" (205 : Nat) ({ cls := "TaskDeskModel", name := "isReady", desc := "(I)Z" } : Jvm.MethodName)) ∈ kx_WS := kx_wd1 1177 (by decide +kernel) rfl
theorem kw_1179 : (Jvm.Cond.instanceMethod ({ cls := "TaskDeskModel", name := "isReady", desc := "(I)Z" } : Jvm.MethodName)) ∈ kx_WS := kx_wd1 1179 (by decide +kernel) rfl
theorem kw_1180 : (Jvm.Cond.code ({ cls := "TaskDeskModel", name := "isReady", desc := "(I)Z" } : Jvm.MethodName) prog_11_method_30_code (2 : Nat) (Option.some Jvm.ClassFile.FieldType.boolean)) ∈ kx_WS := kx_wd1 1180 (by decide +kernel) rfl
theorem kw_1181 : (Jvm.Cond.methodLink "TaskDeskModel" (208 : Nat) ({ cls := "TaskDeskModel", name := "done", desc := "(I)Z" } : Jvm.MethodName)) ∈ kx_WS := kx_wd1 1181 (by decide +kernel) rfl
theorem kw_1183 : (Jvm.Cond.instanceMethod ({ cls := "TaskDeskModel", name := "done", desc := "(I)Z" } : Jvm.MethodName)) ∈ kx_WS := kx_wd1 1183 (by decide +kernel) rfl
theorem kw_1184 : (Jvm.Cond.code ({ cls := "TaskDeskModel", name := "done", desc := "(I)Z" } : Jvm.MethodName) prog_11_method_32_code (3 : Nat) (Option.some Jvm.ClassFile.FieldType.boolean)) ∈ kx_WS := kx_wd1 1184 (by decide +kernel) rfl
theorem kw_1185 : (Jvm.Cond.methodLink "TaskDeskLaw" (98 : Nat) ({ cls := "TaskDeskModel", name := "spawn", desc := "()I" } : Jvm.MethodName)) ∈ kx_WS := kx_wd1 1185 (by decide +kernel) rfl
theorem kw_1186 : (Jvm.Cond.instanceMethod ({ cls := "TaskDeskModel", name := "spawn", desc := "()I" } : Jvm.MethodName)) ∈ kx_WS := kx_wd1 1186 (by decide +kernel) rfl
theorem kw_1187 : (Jvm.Cond.selects "TaskDeskModel" ({ cls := "TaskDeskModel", name := "spawn", desc := "()I" } : Jvm.MethodName) ({ cls := "TaskDeskModel", name := "spawn", desc := "()I" } : Jvm.MethodName)) ∈ kx_WS := kx_wd1 1187 (by decide +kernel) rfl
theorem kw_1188 : (Jvm.Cond.code ({ cls := "TaskDeskModel", name := "spawn", desc := "()I" } : Jvm.MethodName) prog_11_method_33_code (2 : Nat) (Option.some Jvm.ClassFile.FieldType.int)) ∈ kx_WS := kx_wd1 1188 (by decide +kernel) rfl
theorem kw_1189 : (Jvm.Cond.methodLink "TaskDeskLaw" (104 : Nat) ({ cls := "TaskDeskModel", name := "giveWay", desc := "()I" } : Jvm.MethodName)) ∈ kx_WS := kx_wd1 1189 (by decide +kernel) rfl
theorem kw_1190 : (Jvm.Cond.instanceMethod ({ cls := "TaskDeskModel", name := "giveWay", desc := "()I" } : Jvm.MethodName)) ∈ kx_WS := kx_wd1 1190 (by decide +kernel) rfl
theorem kw_1191 : (Jvm.Cond.selects "TaskDeskModel" ({ cls := "TaskDeskModel", name := "giveWay", desc := "()I" } : Jvm.MethodName) ({ cls := "TaskDeskModel", name := "giveWay", desc := "()I" } : Jvm.MethodName)) ∈ kx_WS := kx_wd1 1191 (by decide +kernel) rfl
theorem kw_1192 : (Jvm.Cond.code ({ cls := "TaskDeskModel", name := "giveWay", desc := "()I" } : Jvm.MethodName) prog_11_method_34_code (1 : Nat) (Option.some Jvm.ClassFile.FieldType.int)) ∈ kx_WS := kx_wd1 1192 (by decide +kernel) rfl
theorem kw_1193 : (Jvm.Cond.methodLink "TaskDeskLaw" (107 : Nat) ({ cls := "TaskDeskModel", name := "finish", desc := "()I" } : Jvm.MethodName)) ∈ kx_WS := kx_wd1 1193 (by decide +kernel) rfl
theorem kw_1194 : (Jvm.Cond.instanceMethod ({ cls := "TaskDeskModel", name := "finish", desc := "()I" } : Jvm.MethodName)) ∈ kx_WS := kx_wd1 1194 (by decide +kernel) rfl
theorem kw_1195 : (Jvm.Cond.selects "TaskDeskModel" ({ cls := "TaskDeskModel", name := "finish", desc := "()I" } : Jvm.MethodName) ({ cls := "TaskDeskModel", name := "finish", desc := "()I" } : Jvm.MethodName)) ∈ kx_WS := kx_wd1 1195 (by decide +kernel) rfl
theorem kw_1196 : (Jvm.Cond.code ({ cls := "TaskDeskModel", name := "finish", desc := "()I" } : Jvm.MethodName) prog_11_method_35_code (3 : Nat) (Option.some Jvm.ClassFile.FieldType.int)) ∈ kx_WS := kx_wd1 1196 (by decide +kernel) rfl
theorem kw_1197 : (Jvm.Cond.methodLink "TaskDeskLaw" (113 : Nat) ({ cls := "TaskDeskModel", name := "sleep", desc := "(J)I" } : Jvm.MethodName)) ∈ kx_WS := kx_wd1 1197 (by decide +kernel) rfl
theorem kw_1198 : (Jvm.Cond.instanceMethod ({ cls := "TaskDeskModel", name := "sleep", desc := "(J)I" } : Jvm.MethodName)) ∈ kx_WS := kx_wd1 1198 (by decide +kernel) rfl
theorem kw_1199 : (Jvm.Cond.selects "TaskDeskModel" ({ cls := "TaskDeskModel", name := "sleep", desc := "(J)I" } : Jvm.MethodName) ({ cls := "TaskDeskModel", name := "sleep", desc := "(J)I" } : Jvm.MethodName)) ∈ kx_WS := kx_wd1 1199 (by decide +kernel) rfl
theorem kw_1200 : (Jvm.Cond.code ({ cls := "TaskDeskModel", name := "sleep", desc := "(J)I" } : Jvm.MethodName) prog_11_method_36_code (3 : Nat) (Option.some Jvm.ClassFile.FieldType.int)) ∈ kx_WS := kx_wd1 1200 (by decide +kernel) rfl
theorem kw_1201 : (Jvm.Cond.methodLink "TaskDeskModel" (214 : Nat) ({ cls := "TaskDeskModel", name := "giveWay", desc := "()I" } : Jvm.MethodName)) ∈ kx_WS := kx_wd1 1201 (by decide +kernel) rfl
theorem kw_1202 : (Jvm.Cond.methodLink "TaskDeskLaw" (148 : Nat) ({ cls := "TaskDeskModel", name := "gate", desc := "(II)I" } : Jvm.MethodName)) ∈ kx_WS := kx_wd1 1202 (by decide +kernel) rfl
theorem kw_1203 : (Jvm.Cond.instanceMethod ({ cls := "TaskDeskModel", name := "gate", desc := "(II)I" } : Jvm.MethodName)) ∈ kx_WS := kx_wd1 1203 (by decide +kernel) rfl
theorem kw_1204 : (Jvm.Cond.selects "TaskDeskModel" ({ cls := "TaskDeskModel", name := "gate", desc := "(II)I" } : Jvm.MethodName) ({ cls := "TaskDeskModel", name := "gate", desc := "(II)I" } : Jvm.MethodName)) ∈ kx_WS := kx_wd1 1204 (by decide +kernel) rfl
theorem kw_1205 : (Jvm.Cond.code ({ cls := "TaskDeskModel", name := "gate", desc := "(II)I" } : Jvm.MethodName) prog_11_method_38_code (3 : Nat) (Option.some Jvm.ClassFile.FieldType.int)) ∈ kx_WS := kx_wd1 1205 (by decide +kernel) rfl
theorem kw_1206 : (Jvm.Cond.methodLink "TaskDeskModel" (221 : Nat) ({ cls := "TaskDeskModel", name := "isGate", desc := "(I)Z" } : Jvm.MethodName)) ∈ kx_WS := kx_wd1 1206 (by decide +kernel) rfl
theorem kw_1208 : (Jvm.Cond.instanceMethod ({ cls := "TaskDeskModel", name := "isGate", desc := "(I)Z" } : Jvm.MethodName)) ∈ kx_WS := kx_wd1 1208 (by decide +kernel) rfl
theorem kw_1209 : (Jvm.Cond.code ({ cls := "TaskDeskModel", name := "isGate", desc := "(I)Z" } : Jvm.MethodName) prog_11_method_37_code (2 : Nat) (Option.some Jvm.ClassFile.FieldType.boolean)) ∈ kx_WS := kx_wd1 1209 (by decide +kernel) rfl
theorem kw_1210 : (Jvm.Cond.methodLink "TaskDeskLaw" (151 : Nat) ({ cls := "TaskDeskModel", name := "enter", desc := "(I)Z" } : Jvm.MethodName)) ∈ kx_WS := kx_wd1 1210 (by decide +kernel) rfl
theorem kw_1211 : (Jvm.Cond.instanceMethod ({ cls := "TaskDeskModel", name := "enter", desc := "(I)Z" } : Jvm.MethodName)) ∈ kx_WS := kx_wd1 1211 (by decide +kernel) rfl
theorem kw_1212 : (Jvm.Cond.selects "TaskDeskModel" ({ cls := "TaskDeskModel", name := "enter", desc := "(I)Z" } : Jvm.MethodName) ({ cls := "TaskDeskModel", name := "enter", desc := "(I)Z" } : Jvm.MethodName)) ∈ kx_WS := kx_wd1 1212 (by decide +kernel) rfl
theorem kw_1213 : (Jvm.Cond.code ({ cls := "TaskDeskModel", name := "enter", desc := "(I)Z" } : Jvm.MethodName) prog_11_method_47_code (3 : Nat) (Option.some Jvm.ClassFile.FieldType.boolean)) ∈ kx_WS := kx_wd1 1213 (by decide +kernel) rfl
theorem kw_1214 : (Jvm.Cond.methodLink "TaskDeskModel" (238 : Nat) ({ cls := "TaskDeskModel", name := "passes", desc := "(ZIZZ)Z" } : Jvm.MethodName)) ∈ kx_WS := kx_wd1 1214 (by decide +kernel) rfl
theorem kw_1216 : (Jvm.Cond.instanceMethod ({ cls := "TaskDeskModel", name := "passes", desc := "(ZIZZ)Z" } : Jvm.MethodName)) ∈ kx_WS := kx_wd1 1216 (by decide +kernel) rfl
theorem kw_1217 : (Jvm.Cond.code ({ cls := "TaskDeskModel", name := "passes", desc := "(ZIZZ)Z" } : Jvm.MethodName) prog_11_method_46_code (5 : Nat) (Option.some Jvm.ClassFile.FieldType.boolean)) ∈ kx_WS := kx_wd1 1217 (by decide +kernel) rfl
theorem kw_1218 : (Jvm.Cond.methodLink "TaskDeskModel" (234 : Nat) ({ cls := "TaskDeskModel", name := "stand", desc := "(IIZ)V" } : Jvm.MethodName)) ∈ kx_WS := kx_wd1 1218 (by decide +kernel) rfl
theorem kw_1220 : (Jvm.Cond.instanceMethod ({ cls := "TaskDeskModel", name := "stand", desc := "(IIZ)V" } : Jvm.MethodName)) ∈ kx_WS := kx_wd1 1220 (by decide +kernel) rfl
theorem kw_1221 : (Jvm.Cond.code ({ cls := "TaskDeskModel", name := "stand", desc := "(IIZ)V" } : Jvm.MethodName) prog_11_method_41_code (4 : Nat) (Option.none : Option Jvm.ClassFile.FieldType)) ∈ kx_WS := kx_wd1 1221 (by decide +kernel) rfl
theorem kw_1222 : (Jvm.Cond.methodLink "TaskDeskModel" (242 : Nat) ({ cls := "TaskDeskModel", name := "unlock", desc := "(I)V" } : Jvm.MethodName)) ∈ kx_WS := kx_wd1 1222 (by decide +kernel) rfl
theorem kw_1224 : (Jvm.Cond.instanceMethod ({ cls := "TaskDeskModel", name := "unlock", desc := "(I)V" } : Jvm.MethodName)) ∈ kx_WS := kx_wd1 1224 (by decide +kernel) rfl
theorem kw_1225 : (Jvm.Cond.code ({ cls := "TaskDeskModel", name := "unlock", desc := "(I)V" } : Jvm.MethodName) prog_11_method_44_code (3 : Nat) (Option.none : Option Jvm.ClassFile.FieldType)) ∈ kx_WS := kx_wd1 1225 (by decide +kernel) rfl
theorem kw_1226 : (Jvm.Cond.methodLink "TaskDeskModel" (227 : Nat) ({ cls := "TaskDeskModel", name := "standing", desc := "(II)I" } : Jvm.MethodName)) ∈ kx_WS := kx_wd1 1226 (by decide +kernel) rfl
theorem kw_1228 : (Jvm.Cond.instanceMethod ({ cls := "TaskDeskModel", name := "standing", desc := "(II)I" } : Jvm.MethodName)) ∈ kx_WS := kx_wd1 1228 (by decide +kernel) rfl
theorem kw_1229 : (Jvm.Cond.code ({ cls := "TaskDeskModel", name := "standing", desc := "(II)I" } : Jvm.MethodName) prog_11_method_39_code (4 : Nat) (Option.some Jvm.ClassFile.FieldType.int)) ∈ kx_WS := kx_wd1 1229 (by decide +kernel) rfl
theorem kw_1230 : (Jvm.Cond.methodLink "TaskDeskModel" (230 : Nat) ({ cls := "TaskDeskModel", name := "lets", desc := "(IZ)V" } : Jvm.MethodName)) ∈ kx_WS := kx_wd1 1230 (by decide +kernel) rfl
theorem kw_1232 : (Jvm.Cond.instanceMethod ({ cls := "TaskDeskModel", name := "lets", desc := "(IZ)V" } : Jvm.MethodName)) ∈ kx_WS := kx_wd1 1232 (by decide +kernel) rfl
theorem kw_1233 : (Jvm.Cond.code ({ cls := "TaskDeskModel", name := "lets", desc := "(IZ)V" } : Jvm.MethodName) prog_11_method_42_code (4 : Nat) (Option.none : Option Jvm.ClassFile.FieldType)) ∈ kx_WS := kx_wd1 1233 (by decide +kernel) rfl
theorem kw_1234 : (Jvm.Cond.methodLink "TaskDeskModel" (224 : Nat) ({ cls := "TaskDeskModel", name := "takeOut", desc := "(I)I" } : Jvm.MethodName)) ∈ kx_WS := kx_wd1 1234 (by decide +kernel) rfl
theorem kw_1236 : (Jvm.Cond.instanceMethod ({ cls := "TaskDeskModel", name := "takeOut", desc := "(I)I" } : Jvm.MethodName)) ∈ kx_WS := kx_wd1 1236 (by decide +kernel) rfl
theorem kw_1237 : (Jvm.Cond.code ({ cls := "TaskDeskModel", name := "takeOut", desc := "(I)I" } : Jvm.MethodName) prog_11_method_40_code (4 : Nat) (Option.some Jvm.ClassFile.FieldType.int)) ∈ kx_WS := kx_wd1 1237 (by decide +kernel) rfl
theorem kw_1238 : (Jvm.Cond.methodLink "TaskDeskLaw" (154 : Nat) ({ cls := "TaskDeskModel", name := "read", desc := "(I)Z" } : Jvm.MethodName)) ∈ kx_WS := kx_wd1 1238 (by decide +kernel) rfl
theorem kw_1239 : (Jvm.Cond.instanceMethod ({ cls := "TaskDeskModel", name := "read", desc := "(I)Z" } : Jvm.MethodName)) ∈ kx_WS := kx_wd1 1239 (by decide +kernel) rfl
theorem kw_1240 : (Jvm.Cond.selects "TaskDeskModel" ({ cls := "TaskDeskModel", name := "read", desc := "(I)Z" } : Jvm.MethodName) ({ cls := "TaskDeskModel", name := "read", desc := "(I)Z" } : Jvm.MethodName)) ∈ kx_WS := kx_wd1 1240 (by decide +kernel) rfl
theorem kw_1241 : (Jvm.Cond.code ({ cls := "TaskDeskModel", name := "read", desc := "(I)Z" } : Jvm.MethodName) prog_11_method_48_code (3 : Nat) (Option.some Jvm.ClassFile.FieldType.boolean)) ∈ kx_WS := kx_wd1 1241 (by decide +kernel) rfl
theorem kw_1242 : (Jvm.Cond.methodLink "TaskDeskLaw" (157 : Nat) ({ cls := "TaskDeskModel", name := "leave", desc := "(I)V" } : Jvm.MethodName)) ∈ kx_WS := kx_wd1 1242 (by decide +kernel) rfl
theorem kw_1243 : (Jvm.Cond.instanceMethod ({ cls := "TaskDeskModel", name := "leave", desc := "(I)V" } : Jvm.MethodName)) ∈ kx_WS := kx_wd1 1243 (by decide +kernel) rfl
theorem kw_1244 : (Jvm.Cond.selects "TaskDeskModel" ({ cls := "TaskDeskModel", name := "leave", desc := "(I)V" } : Jvm.MethodName) ({ cls := "TaskDeskModel", name := "leave", desc := "(I)V" } : Jvm.MethodName)) ∈ kx_WS := kx_wd1 1244 (by decide +kernel) rfl
theorem kw_1245 : (Jvm.Cond.code ({ cls := "TaskDeskModel", name := "leave", desc := "(I)V" } : Jvm.MethodName) prog_11_method_49_code (4 : Nat) (Option.none : Option Jvm.ClassFile.FieldType)) ∈ kx_WS := kx_wd1 1245 (by decide +kernel) rfl
theorem kw_1246 : (Jvm.Cond.methodLink "TaskDeskModel" (245 : Nat) ({ cls := "TaskDeskModel", name := "letReaders", desc := "(I)V" } : Jvm.MethodName)) ∈ kx_WS := kx_wd1 1246 (by decide +kernel) rfl
theorem kw_1248 : (Jvm.Cond.instanceMethod ({ cls := "TaskDeskModel", name := "letReaders", desc := "(I)V" } : Jvm.MethodName)) ∈ kx_WS := kx_wd1 1248 (by decide +kernel) rfl
theorem kw_1249 : (Jvm.Cond.code ({ cls := "TaskDeskModel", name := "letReaders", desc := "(I)V" } : Jvm.MethodName) prog_11_method_50_code (3 : Nat) (Option.none : Option Jvm.ClassFile.FieldType)) ∈ kx_WS := kx_wd1 1249 (by decide +kernel) rfl
theorem kw_1250 : (Jvm.Cond.methodLink "TaskDeskModel" (257 : Nat) ({ cls := "TaskDeskModel", name := "letWriter", desc := "(I)V" } : Jvm.MethodName)) ∈ kx_WS := kx_wd1 1250 (by decide +kernel) rfl
theorem kw_1252 : (Jvm.Cond.instanceMethod ({ cls := "TaskDeskModel", name := "letWriter", desc := "(I)V" } : Jvm.MethodName)) ∈ kx_WS := kx_wd1 1252 (by decide +kernel) rfl
theorem kw_1253 : (Jvm.Cond.code ({ cls := "TaskDeskModel", name := "letWriter", desc := "(I)V" } : Jvm.MethodName) prog_11_method_51_code (3 : Nat) (Option.none : Option Jvm.ClassFile.FieldType)) ∈ kx_WS := kx_wd1 1253 (by decide +kernel) rfl
theorem kw_1254 : (Jvm.Cond.methodLink "TaskDeskModel" (248 : Nat) ({ cls := "TaskDeskModel", name := "grow", desc := "(II)V" } : Jvm.MethodName)) ∈ kx_WS := kx_wd1 1254 (by decide +kernel) rfl
theorem kw_1256 : (Jvm.Cond.instanceMethod ({ cls := "TaskDeskModel", name := "grow", desc := "(II)V" } : Jvm.MethodName)) ∈ kx_WS := kx_wd1 1256 (by decide +kernel) rfl
theorem kw_1257 : (Jvm.Cond.code ({ cls := "TaskDeskModel", name := "grow", desc := "(II)V" } : Jvm.MethodName) prog_11_method_52_code (3 : Nat) (Option.none : Option Jvm.ClassFile.FieldType)) ∈ kx_WS := kx_wd1 1257 (by decide +kernel) rfl
theorem kw_1258 : (Jvm.Cond.methodLink "TaskDeskModel" (254 : Nat) ({ cls := "TaskDeskModel", name := "letAll", desc := "(IZ)V" } : Jvm.MethodName)) ∈ kx_WS := kx_wd1 1258 (by decide +kernel) rfl
theorem kw_1260 : (Jvm.Cond.instanceMethod ({ cls := "TaskDeskModel", name := "letAll", desc := "(IZ)V" } : Jvm.MethodName)) ∈ kx_WS := kx_wd1 1260 (by decide +kernel) rfl
theorem kw_1261 : (Jvm.Cond.code ({ cls := "TaskDeskModel", name := "letAll", desc := "(IZ)V" } : Jvm.MethodName) prog_11_method_43_code (4 : Nat) (Option.none : Option Jvm.ClassFile.FieldType)) ∈ kx_WS := kx_wd1 1261 (by decide +kernel) rfl
theorem kw_1262 : (Jvm.Cond.methodLink "TaskDeskModel" (251 : Nat) ({ cls := "TaskDeskModel", name := "signal", desc := "(I)V" } : Jvm.MethodName)) ∈ kx_WS := kx_wd1 1262 (by decide +kernel) rfl
theorem kw_1264 : (Jvm.Cond.instanceMethod ({ cls := "TaskDeskModel", name := "signal", desc := "(I)V" } : Jvm.MethodName)) ∈ kx_WS := kx_wd1 1264 (by decide +kernel) rfl
theorem kw_1265 : (Jvm.Cond.code ({ cls := "TaskDeskModel", name := "signal", desc := "(I)V" } : Jvm.MethodName) prog_11_method_45_code (5 : Nat) (Option.none : Option Jvm.ClassFile.FieldType)) ∈ kx_WS := kx_wd1 1265 (by decide +kernel) rfl
theorem kw_1266 : (Jvm.Cond.methodLink "TaskDeskLaw" (161 : Nat) ({ cls := "TaskDeskModel", name := "change", desc := "(II)V" } : Jvm.MethodName)) ∈ kx_WS := kx_wd1 1266 (by decide +kernel) rfl
theorem kw_1267 : (Jvm.Cond.instanceMethod ({ cls := "TaskDeskModel", name := "change", desc := "(II)V" } : Jvm.MethodName)) ∈ kx_WS := kx_wd1 1267 (by decide +kernel) rfl
theorem kw_1268 : (Jvm.Cond.selects "TaskDeskModel" ({ cls := "TaskDeskModel", name := "change", desc := "(II)V" } : Jvm.MethodName) ({ cls := "TaskDeskModel", name := "change", desc := "(II)V" } : Jvm.MethodName)) ∈ kx_WS := kx_wd1 1268 (by decide +kernel) rfl
theorem kw_1269 : (Jvm.Cond.code ({ cls := "TaskDeskModel", name := "change", desc := "(II)V" } : Jvm.MethodName) prog_11_method_53_code (7 : Nat) (Option.none : Option Jvm.ClassFile.FieldType)) ∈ kx_WS := kx_wd1 1269 (by decide +kernel) rfl
theorem kw_1270 : (Jvm.Cond.methodLink "TaskDeskModel" (260 : Nat) ({ cls := "TaskDeskModel", name := "waitAt", desc := "(I)I" } : Jvm.MethodName)) ∈ kx_WS := kx_wd1 1270 (by decide +kernel) rfl
theorem kw_1272 : (Jvm.Cond.instanceMethod ({ cls := "TaskDeskModel", name := "waitAt", desc := "(I)I" } : Jvm.MethodName)) ∈ kx_WS := kx_wd1 1272 (by decide +kernel) rfl
theorem kw_1273 : (Jvm.Cond.code ({ cls := "TaskDeskModel", name := "waitAt", desc := "(I)I" } : Jvm.MethodName) prog_11_method_54_code (4 : Nat) (Option.some Jvm.ClassFile.FieldType.int)) ∈ kx_WS := kx_wd1 1273 (by decide +kernel) rfl
theorem kw_1274 : (Jvm.Cond.methodLink "TaskDeskLaw" (165 : Nat) ({ cls := "TaskDeskModel", name := "current", desc := "()I" } : Jvm.MethodName)) ∈ kx_WS := kx_wd1 1274 (by decide +kernel) rfl
theorem kw_1275 : (Jvm.Cond.instanceMethod ({ cls := "TaskDeskModel", name := "current", desc := "()I" } : Jvm.MethodName)) ∈ kx_WS := kx_wd1 1275 (by decide +kernel) rfl
theorem kw_1276 : (Jvm.Cond.selects "TaskDeskModel" ({ cls := "TaskDeskModel", name := "current", desc := "()I" } : Jvm.MethodName) ({ cls := "TaskDeskModel", name := "current", desc := "()I" } : Jvm.MethodName)) ∈ kx_WS := kx_wd1 1276 (by decide +kernel) rfl
theorem kw_1277 : (Jvm.Cond.code ({ cls := "TaskDeskModel", name := "current", desc := "()I" } : Jvm.MethodName) prog_11_method_55_code (1 : Nat) (Option.some Jvm.ClassFile.FieldType.int)) ∈ kx_WS := kx_wd1 1277 (by decide +kernel) rfl
theorem kw_1278 : (Jvm.Cond.methodLink "TaskDeskLaw" (168 : Nat) ({ cls := "TaskDeskModel", name := "task", desc := "(II)I" } : Jvm.MethodName)) ∈ kx_WS := kx_wd1 1278 (by decide +kernel) rfl
theorem kw_1279 : (Jvm.Cond.instanceMethod ({ cls := "TaskDeskModel", name := "task", desc := "(II)I" } : Jvm.MethodName)) ∈ kx_WS := kx_wd1 1279 (by decide +kernel) rfl
theorem kw_1280 : (Jvm.Cond.selects "TaskDeskModel" ({ cls := "TaskDeskModel", name := "task", desc := "(II)I" } : Jvm.MethodName) ({ cls := "TaskDeskModel", name := "task", desc := "(II)I" } : Jvm.MethodName)) ∈ kx_WS := kx_wd1 1280 (by decide +kernel) rfl
theorem kw_1281 : (Jvm.Cond.code ({ cls := "TaskDeskModel", name := "task", desc := "(II)I" } : Jvm.MethodName) prog_11_method_57_code (4 : Nat) (Option.some Jvm.ClassFile.FieldType.int)) ∈ kx_WS := kx_wd1 1281 (by decide +kernel) rfl
theorem kw_1282 : (Jvm.Cond.methodLink "TaskDeskModel" (263 : Nat) ({ cls := "TaskDeskModel", name := "isTask", desc := "(I)Z" } : Jvm.MethodName)) ∈ kx_WS := kx_wd1 1282 (by decide +kernel) rfl
theorem kw_1284 : (Jvm.Cond.instanceMethod ({ cls := "TaskDeskModel", name := "isTask", desc := "(I)Z" } : Jvm.MethodName)) ∈ kx_WS := kx_wd1 1284 (by decide +kernel) rfl
theorem kw_1285 : (Jvm.Cond.code ({ cls := "TaskDeskModel", name := "isTask", desc := "(I)Z" } : Jvm.MethodName) prog_11_method_56_code (2 : Nat) (Option.some Jvm.ClassFile.FieldType.boolean)) ∈ kx_WS := kx_wd1 1285 (by decide +kernel) rfl
theorem kw_1286 : (Jvm.Cond.methodLink "TaskDeskLaw" (171 : Nat) ({ cls := "TaskDeskModel", name := "outcome", desc := "(I)J" } : Jvm.MethodName)) ∈ kx_WS := kx_wd1 1286 (by decide +kernel) rfl
theorem kw_1287 : (Jvm.Cond.instanceMethod ({ cls := "TaskDeskModel", name := "outcome", desc := "(I)J" } : Jvm.MethodName)) ∈ kx_WS := kx_wd1 1287 (by decide +kernel) rfl
theorem kw_1288 : (Jvm.Cond.selects "TaskDeskModel" ({ cls := "TaskDeskModel", name := "outcome", desc := "(I)J" } : Jvm.MethodName) ({ cls := "TaskDeskModel", name := "outcome", desc := "(I)J" } : Jvm.MethodName)) ∈ kx_WS := kx_wd1 1288 (by decide +kernel) rfl
theorem kw_1289 : (Jvm.Cond.code ({ cls := "TaskDeskModel", name := "outcome", desc := "(I)J" } : Jvm.MethodName) prog_11_method_58_code (2 : Nat) (Option.some Jvm.ClassFile.FieldType.long)) ∈ kx_WS := kx_wd1 1289 (by decide +kernel) rfl
theorem kw_1290 : (Jvm.Cond.methodLink "TaskDeskLaw" (174 : Nat) ({ cls := "TaskDeskModel", name := "look", desc := "(II)I" } : Jvm.MethodName)) ∈ kx_WS := kx_wd1 1290 (by decide +kernel) rfl
theorem kw_1291 : (Jvm.Cond.instanceMethod ({ cls := "TaskDeskModel", name := "look", desc := "(II)I" } : Jvm.MethodName)) ∈ kx_WS := kx_wd1 1291 (by decide +kernel) rfl
theorem kw_1292 : (Jvm.Cond.selects "TaskDeskModel" ({ cls := "TaskDeskModel", name := "look", desc := "(II)I" } : Jvm.MethodName) ({ cls := "TaskDeskModel", name := "look", desc := "(II)I" } : Jvm.MethodName)) ∈ kx_WS := kx_wd1 1292 (by decide +kernel) rfl
theorem kw_1293 : (Jvm.Cond.code ({ cls := "TaskDeskModel", name := "look", desc := "(II)I" } : Jvm.MethodName) prog_11_method_59_code (5 : Nat) (Option.some Jvm.ClassFile.FieldType.int)) ∈ kx_WS := kx_wd1 1293 (by decide +kernel) rfl
theorem kw_1294 : (Jvm.Cond.methodLink "TaskDeskLaw" (177 : Nat) ({ cls := "TaskDeskModel", name := "watch", desc := "(II)I" } : Jvm.MethodName)) ∈ kx_WS := kx_wd1 1294 (by decide +kernel) rfl
theorem kw_1295 : (Jvm.Cond.instanceMethod ({ cls := "TaskDeskModel", name := "watch", desc := "(II)I" } : Jvm.MethodName)) ∈ kx_WS := kx_wd1 1295 (by decide +kernel) rfl
theorem kw_1296 : (Jvm.Cond.selects "TaskDeskModel" ({ cls := "TaskDeskModel", name := "watch", desc := "(II)I" } : Jvm.MethodName) ({ cls := "TaskDeskModel", name := "watch", desc := "(II)I" } : Jvm.MethodName)) ∈ kx_WS := kx_wd1 1296 (by decide +kernel) rfl
theorem kw_1297 : (Jvm.Cond.code ({ cls := "TaskDeskModel", name := "watch", desc := "(II)I" } : Jvm.MethodName) prog_11_method_60_code (3 : Nat) (Option.some Jvm.ClassFile.FieldType.int)) ∈ kx_WS := kx_wd1 1297 (by decide +kernel) rfl
theorem kw_1298 : (Jvm.Cond.methodLink "TaskDeskLaw" (182 : Nat) ({ cls := "TaskDeskModel", name := "clock", desc := "()J" } : Jvm.MethodName)) ∈ kx_WS := kx_wd1 1298 (by decide +kernel) rfl
theorem kw_1299 : (Jvm.Cond.instanceMethod ({ cls := "TaskDeskModel", name := "clock", desc := "()J" } : Jvm.MethodName)) ∈ kx_WS := kx_wd1 1299 (by decide +kernel) rfl
theorem kw_1300 : (Jvm.Cond.selects "TaskDeskModel" ({ cls := "TaskDeskModel", name := "clock", desc := "()J" } : Jvm.MethodName) ({ cls := "TaskDeskModel", name := "clock", desc := "()J" } : Jvm.MethodName)) ∈ kx_WS := kx_wd1 1300 (by decide +kernel) rfl
theorem kw_1301 : (Jvm.Cond.code ({ cls := "TaskDeskModel", name := "clock", desc := "()J" } : Jvm.MethodName) prog_11_method_61_code (1 : Nat) (Option.some Jvm.ClassFile.FieldType.long)) ∈ kx_WS := kx_wd1 1301 (by decide +kernel) rfl
theorem kw_1302 : (Jvm.Cond.methodLink "TaskDeskLaw" (186 : Nat) ({ cls := "TaskDeskModel", name := "count", desc := "(I)I" } : Jvm.MethodName)) ∈ kx_WS := kx_wd1 1302 (by decide +kernel) rfl
theorem kw_1303 : (Jvm.Cond.instanceMethod ({ cls := "TaskDeskModel", name := "count", desc := "(I)I" } : Jvm.MethodName)) ∈ kx_WS := kx_wd1 1303 (by decide +kernel) rfl
theorem kw_1304 : (Jvm.Cond.selects "TaskDeskModel" ({ cls := "TaskDeskModel", name := "count", desc := "(I)I" } : Jvm.MethodName) ({ cls := "TaskDeskModel", name := "count", desc := "(I)I" } : Jvm.MethodName)) ∈ kx_WS := kx_wd1 1304 (by decide +kernel) rfl
theorem kw_1305 : (Jvm.Cond.code ({ cls := "TaskDeskModel", name := "count", desc := "(I)I" } : Jvm.MethodName) prog_11_method_62_code (2 : Nat) (Option.some Jvm.ClassFile.FieldType.int)) ∈ kx_WS := kx_wd1 1305 (by decide +kernel) rfl
theorem kw_1306 : (Jvm.Cond.methodLink "TaskDeskModel" (266 : Nat) ({ cls := "TaskDeskModel", name := "living", desc := "()I" } : Jvm.MethodName)) ∈ kx_WS := kx_wd1 1306 (by decide +kernel) rfl
theorem kw_1308 : (Jvm.Cond.instanceMethod ({ cls := "TaskDeskModel", name := "living", desc := "()I" } : Jvm.MethodName)) ∈ kx_WS := kx_wd1 1308 (by decide +kernel) rfl
theorem kw_1309 : (Jvm.Cond.code ({ cls := "TaskDeskModel", name := "living", desc := "()I" } : Jvm.MethodName) prog_11_method_63_code (3 : Nat) (Option.some Jvm.ClassFile.FieldType.int)) ∈ kx_WS := kx_wd1 1309 (by decide +kernel) rfl
theorem kw_1310 : (Jvm.Cond.methodLink "TaskDeskModel" (269 : Nat) ({ cls := "TaskDeskModel", name := "channels", desc := "()I" } : Jvm.MethodName)) ∈ kx_WS := kx_wd1 1310 (by decide +kernel) rfl
theorem kw_1312 : (Jvm.Cond.instanceMethod ({ cls := "TaskDeskModel", name := "channels", desc := "()I" } : Jvm.MethodName)) ∈ kx_WS := kx_wd1 1312 (by decide +kernel) rfl
theorem kw_1313 : (Jvm.Cond.code ({ cls := "TaskDeskModel", name := "channels", desc := "()I" } : Jvm.MethodName) prog_11_method_64_code (3 : Nat) (Option.some Jvm.ClassFile.FieldType.int)) ∈ kx_WS := kx_wd1 1313 (by decide +kernel) rfl
theorem kw_1314 : (Jvm.Cond.constantLong "TaskDeskLaw" (108 : Nat) (4294967295 : Int64)) ∈ kx_WS := kx_wd1 1314 (by decide +kernel) rfl
theorem kf_0_11 : kx_fd "TaskDesk" 11 0 0 2 102 kr_0 := ⟨rfl, by decide, by decide, kw_363, ki_0, rfl⟩
theorem kf_0_18 : kx_fd "TaskDesk" 18 0 2 2 5 kr_0 := ⟨rfl, by decide, by decide, kw_365, ki_0, rfl⟩
theorem kf_0_25 : kx_fd "TaskDesk" 25 0 6 2 1 kr_0 := ⟨rfl, by decide, by decide, kw_369, ki_0, rfl⟩
theorem kf_0_31 : kx_fd "TaskDesk" 31 0 8 2 103 kr_0 := ⟨rfl, by decide, by decide, kw_371, ki_0, rfl⟩
theorem kf_0_38 : kx_fd "TaskDesk" 38 0 9 2 2 kr_0 := ⟨rfl, by decide, by decide, kw_372, ki_0, rfl⟩
theorem kf_0_44 : kx_fd "TaskDesk" 44 0 13 2 104 kr_0 := ⟨rfl, by decide, by decide, kw_376, ki_0, rfl⟩
theorem kf_0_50 : kx_fd "TaskDesk" 50 0 16 2 105 kr_0 := ⟨rfl, by decide, by decide, kw_379, ki_0, rfl⟩
theorem kf_0_60 : kx_fd "TaskDesk" 60 4 0 2 6 kr_4 := ⟨rfl, by decide, by decide, kw_220, ki_4, rfl⟩
theorem kf_0_79 : kx_fd "TaskDesk" 79 6 3 0 0 kr_6 := ⟨rfl, by decide, by decide, kw_267, ki_6, rfl⟩
theorem kf_0_83 : kx_fd "TaskDesk" 83 0 1 0 0 kr_0 := ⟨rfl, by decide, by decide, kw_364, ki_0, rfl⟩
theorem kf_0_86 : kx_fd "TaskDesk" 86 0 3 2 6 kr_0 := ⟨rfl, by decide, by decide, kw_366, ki_0, rfl⟩
theorem kf_0_107 : kx_fd "TaskDesk" 107 6 0 0 0 kr_6 := ⟨rfl, by decide, by decide, kw_262, ki_6, rfl⟩
theorem kf_0_120 : kx_fd "TaskDesk" 120 6 2 3 0 kr_6 := ⟨rfl, by decide, by decide, kw_266, ki_6, rfl⟩
theorem kf_0_131 : kx_fd "TaskDesk" 131 0 5 1 0 kr_0 := ⟨rfl, by decide, by decide, kw_368, ki_0, rfl⟩
theorem kf_0_145 : kx_fd "TaskDesk" 145 0 11 0 0 kr_0 := ⟨rfl, by decide, by decide, kw_374, ki_0, rfl⟩
theorem kf_0_150 : kx_fd "TaskDesk" 150 2 3 3 0 kr_2 := ⟨rfl, by decide, by decide, kw_180, ki_2, rfl⟩
theorem kf_0_153 : kx_fd "TaskDesk" 153 2 4 3 0 kr_2 := ⟨rfl, by decide, by decide, kw_181, ki_2, rfl⟩
theorem kf_0_156 : kx_fd "TaskDesk" 156 2 5 0 0 kr_2 := ⟨rfl, by decide, by decide, kw_182, ki_2, rfl⟩
theorem kf_0_159 : kx_fd "TaskDesk" 159 0 10 0 0 kr_0 := ⟨rfl, by decide, by decide, kw_373, ki_0, rfl⟩
theorem kf_0_162 : kx_fd "TaskDesk" 162 2 0 0 0 kr_2 := ⟨rfl, by decide, by decide, kw_175, ki_2, rfl⟩
theorem kf_0_175 : kx_fd "TaskDesk" 175 2 6 0 0 kr_2 := ⟨rfl, by decide, by decide, kw_184, ki_2, rfl⟩
theorem kf_0_184 : kx_fd "TaskDesk" 184 0 7 0 0 kr_0 := ⟨rfl, by decide, by decide, kw_370, ki_0, rfl⟩
theorem kf_0_189 : kx_fd "TaskDesk" 189 2 7 0 0 kr_2 := ⟨rfl, by decide, by decide, kw_186, ki_2, rfl⟩
theorem kf_0_211 : kx_fd "TaskDesk" 211 6 1 2 4 kr_6 := ⟨rfl, by decide, by decide, kw_264, ki_6, rfl⟩
theorem kf_0_215 : kx_fd "TaskDesk" 215 4 3 1 0 kr_4 := ⟨rfl, by decide, by decide, kw_225, ki_4, rfl⟩
theorem kf_0_218 : kx_fd "TaskDesk" 218 2 1 2 5 kr_2 := ⟨rfl, by decide, by decide, kw_177, ki_2, rfl⟩
theorem kf_0_232 : kx_fd "TaskDesk" 232 2 2 2 5 kr_2 := ⟨rfl, by decide, by decide, kw_179, ki_2, rfl⟩
theorem kf_0_241 : kx_fd "TaskDesk" 241 0 15 2 4 kr_0 := ⟨rfl, by decide, by decide, kw_378, ki_0, rfl⟩
theorem kf_0_244 : kx_fd "TaskDesk" 244 0 14 0 0 kr_0 := ⟨rfl, by decide, by decide, kw_377, ki_0, rfl⟩
theorem kf_0_249 : kx_fd "TaskDesk" 249 4 8 2 4 kr_4 := ⟨rfl, by decide, by decide, kw_236, ki_4, rfl⟩
theorem kf_0_252 : kx_fd "TaskDesk" 252 4 1 2 2 kr_4 := ⟨rfl, by decide, by decide, kw_223, ki_4, rfl⟩
theorem kf_0_255 : kx_fd "TaskDesk" 255 4 2 3 0 kr_4 := ⟨rfl, by decide, by decide, kw_224, ki_4, rfl⟩
theorem kf_0_258 : kx_fd "TaskDesk" 258 4 4 0 0 kr_4 := ⟨rfl, by decide, by decide, kw_227, ki_4, rfl⟩
theorem kf_0_281 : kx_fd "TaskDesk" 281 3 3 0 0 kr_3 := ⟨rfl, by decide, by decide, kw_316, ki_3, rfl⟩
theorem kf_0_286 : kx_fd "TaskDesk" 286 0 17 0 0 kr_0 := ⟨rfl, by decide, by decide, kw_380, ki_0, rfl⟩
theorem kf_0_291 : kx_fd "TaskDesk" 291 3 5 2 3 kr_3 := ⟨rfl, by decide, by decide, kw_319, ki_3, rfl⟩
theorem kf_0_295 : kx_fd "TaskDesk" 295 3 0 0 0 kr_3 := ⟨rfl, by decide, by decide, kw_310, ki_3, rfl⟩
theorem kf_0_306 : kx_fd "TaskDesk" 306 3 4 0 0 kr_3 := ⟨rfl, by decide, by decide, kw_318, ki_3, rfl⟩
theorem kf_0_312 : kx_fd "TaskDesk" 312 3 1 2 5 kr_3 := ⟨rfl, by decide, by decide, kw_312, ki_3, rfl⟩
theorem kf_0_317 : kx_fd "TaskDesk" 317 5 0 2 4 kr_5 := ⟨rfl, by decide, by decide, kw_115, ki_5, rfl⟩
theorem kf_0_320 : kx_fd "TaskDesk" 320 3 2 2 5 kr_3 := ⟨rfl, by decide, by decide, kw_314, ki_3, rfl⟩
theorem kf_0_359 : kx_fd "TaskDesk" 359 6 4 0 0 kr_6 := ⟨rfl, by decide, by decide, kw_270, ki_6, rfl⟩
theorem kf_0_362 : kx_fd "TaskDesk" 362 6 8 0 0 kr_6 := ⟨rfl, by decide, by decide, kw_278, ki_6, rfl⟩
theorem kf_0_363 : kx_fd "TaskDesk" 363 6 7 3 0 kr_6 := ⟨rfl, by decide, by decide, kw_276, ki_6, rfl⟩
theorem kf_0_366 : kx_fd "TaskDesk" 366 6 9 3 0 kr_6 := ⟨rfl, by decide, by decide, kw_280, ki_6, rfl⟩
theorem kf_0_378 : kx_fd "TaskDesk" 378 6 6 1 0 kr_6 := ⟨rfl, by decide, by decide, kw_274, ki_6, rfl⟩
theorem kf_0_383 : kx_fd "TaskDesk" 383 5 2 0 0 kr_5 := ⟨rfl, by decide, by decide, kw_121, ki_5, rfl⟩
theorem kf_0_399 : kx_fd "TaskDesk" 399 0 4 3 0 kr_0 := ⟨rfl, by decide, by decide, kw_367, ki_0, rfl⟩
theorem kf_0_402 : kx_fd "TaskDesk" 402 4 6 2 4 kr_4 := ⟨rfl, by decide, by decide, kw_232, ki_4, rfl⟩
theorem kf_0_409 : kx_fd "TaskDesk" 409 7 0 1 0 kr_7 := ⟨rfl, by decide, by decide, kw_142, ki_7, rfl⟩
theorem kf_0_418 : kx_fd "TaskDesk" 418 1 0 2 7 kr_1 := ⟨rfl, by decide, by decide, kw_158, ki_1, rfl⟩
theorem kf_0_424 : kx_fd "TaskDesk" 424 7 1 2 6 kr_7 := ⟨rfl, by decide, by decide, kw_144, ki_7, rfl⟩
theorem kf_0_427 : kx_fd "TaskDesk" 427 7 2 2 2 kr_7 := ⟨rfl, by decide, by decide, kw_146, ki_7, rfl⟩
theorem kf_0_435 : kx_fd "TaskDesk" 435 6 5 2 4 kr_6 := ⟨rfl, by decide, by decide, kw_272, ki_6, rfl⟩
theorem kf_0_441 : kx_fd "TaskDesk" 441 0 12 2 8 kr_0 := ⟨rfl, by decide, by decide, kw_375, ki_0, rfl⟩
theorem kf_0_445 : kx_fd "TaskDesk" 445 8 1 2 8 kr_8 := ⟨rfl, by decide, by decide, kw_341, ki_8, rfl⟩
theorem kf_0_448 : kx_fd "TaskDesk" 448 8 0 1 0 kr_8 := ⟨rfl, by decide, by decide, kw_339, ki_8, rfl⟩
theorem kf_0_453 : kx_fd "TaskDesk" 453 2 8 2 8 kr_2 := ⟨rfl, by decide, by decide, kw_188, ki_2, rfl⟩
theorem kf_1_12 : kx_fd "TaskDesk$Agenda" 12 1 1 2 7 kr_1 := ⟨rfl, by decide, by decide, kw_159, ki_1, rfl⟩
theorem kf_1_18 : kx_fd "TaskDesk$Agenda" 18 7 3 2 7 kr_7 := ⟨rfl, by decide, by decide, kw_147, ki_7, rfl⟩
theorem kf_1_21 : kx_fd "TaskDesk$Agenda" 21 7 0 1 0 kr_7 := ⟨rfl, by decide, by decide, kw_141, ki_7, rfl⟩
theorem kf_1_25 : kx_fd "TaskDesk$Agenda" 25 7 1 2 6 kr_7 := ⟨rfl, by decide, by decide, kw_143, ki_7, rfl⟩
theorem kf_1_29 : kx_fd "TaskDesk$Agenda" 29 7 2 2 2 kr_7 := ⟨rfl, by decide, by decide, kw_145, ki_7, rfl⟩
theorem kf_1_37 : kx_fd "TaskDesk$Agenda" 37 1 0 2 7 kr_1 := ⟨rfl, by decide, by decide, kw_157, ki_1, rfl⟩
theorem kf_2_10 : kx_fd "TaskDesk$Channel" 10 2 1 2 5 kr_2 := ⟨rfl, by decide, by decide, kw_176, ki_2, rfl⟩
theorem kf_2_16 : kx_fd "TaskDesk$Channel" 16 2 2 2 5 kr_2 := ⟨rfl, by decide, by decide, kw_178, ki_2, rfl⟩
theorem kf_2_19 : kx_fd "TaskDesk$Channel" 19 2 0 0 0 kr_2 := ⟨rfl, by decide, by decide, kw_174, ki_2, rfl⟩
theorem kf_2_23 : kx_fd "TaskDesk$Channel" 23 5 2 0 0 kr_5 := ⟨rfl, by decide, by decide, kw_118, ki_5, rfl⟩
theorem kf_2_26 : kx_fd "TaskDesk$Channel" 26 2 7 0 0 kr_2 := ⟨rfl, by decide, by decide, kw_185, ki_2, rfl⟩
theorem kf_2_29 : kx_fd "TaskDesk$Channel" 29 8 1 2 8 kr_8 := ⟨rfl, by decide, by decide, kw_340, ki_8, rfl⟩
theorem kf_2_35 : kx_fd "TaskDesk$Channel" 35 2 9 2 8 kr_2 := ⟨rfl, by decide, by decide, kw_189, ki_2, rfl⟩
theorem kf_2_38 : kx_fd "TaskDesk$Channel" 38 2 8 2 8 kr_2 := ⟨rfl, by decide, by decide, kw_187, ki_2, rfl⟩
theorem kf_2_41 : kx_fd "TaskDesk$Channel" 41 2 6 0 0 kr_2 := ⟨rfl, by decide, by decide, kw_183, ki_2, rfl⟩
theorem kf_3_12 : kx_fd "TaskDesk$Gate" 12 3 1 2 5 kr_3 := ⟨rfl, by decide, by decide, kw_311, ki_3, rfl⟩
theorem kf_3_18 : kx_fd "TaskDesk$Gate" 18 3 2 2 5 kr_3 := ⟨rfl, by decide, by decide, kw_313, ki_3, rfl⟩
theorem kf_3_21 : kx_fd "TaskDesk$Gate" 21 3 0 0 0 kr_3 := ⟨rfl, by decide, by decide, kw_309, ki_3, rfl⟩
theorem kf_3_25 : kx_fd "TaskDesk$Gate" 25 3 3 0 0 kr_3 := ⟨rfl, by decide, by decide, kw_315, ki_3, rfl⟩
theorem kf_3_28 : kx_fd "TaskDesk$Gate" 28 3 4 0 0 kr_3 := ⟨rfl, by decide, by decide, kw_317, ki_3, rfl⟩
theorem kf_4_9 : kx_fd "TaskDesk$Place" 9 4 4 0 0 kr_4 := ⟨rfl, by decide, by decide, kw_226, ki_4, rfl⟩
theorem kf_4_15 : kx_fd "TaskDesk$Place" 15 4 1 2 2 kr_4 := ⟨rfl, by decide, by decide, kw_222, ki_4, rfl⟩
theorem kf_4_19 : kx_fd "TaskDesk$Place" 19 4 5 2 5 kr_4 := ⟨rfl, by decide, by decide, kw_228, ki_4, rfl⟩
theorem kf_4_23 : kx_fd "TaskDesk$Place" 23 4 6 2 4 kr_4 := ⟨rfl, by decide, by decide, kw_230, ki_4, rfl⟩
theorem kf_4_27 : kx_fd "TaskDesk$Place" 27 4 7 2 4 kr_4 := ⟨rfl, by decide, by decide, kw_233, ki_4, rfl⟩
theorem kf_4_30 : kx_fd "TaskDesk$Place" 30 5 0 2 4 kr_5 := ⟨rfl, by decide, by decide, kw_114, ki_5, rfl⟩
theorem kf_4_35 : kx_fd "TaskDesk$Place" 35 5 1 2 4 kr_5 := ⟨rfl, by decide, by decide, kw_117, ki_5, rfl⟩
theorem kf_4_38 : kx_fd "TaskDesk$Place" 38 5 2 0 0 kr_5 := ⟨rfl, by decide, by decide, kw_120, ki_5, rfl⟩
theorem kf_5_7 : kx_fd "TaskDesk$Row" 7 4 5 2 5 kr_4 := ⟨rfl, by decide, by decide, kw_229, ki_4, rfl⟩
theorem kf_5_13 : kx_fd "TaskDesk$Row" 13 5 1 2 4 kr_5 := ⟨rfl, by decide, by decide, kw_116, ki_5, rfl⟩
theorem kf_5_19 : kx_fd "TaskDesk$Row" 19 4 6 2 4 kr_4 := ⟨rfl, by decide, by decide, kw_231, ki_4, rfl⟩
theorem kf_5_22 : kx_fd "TaskDesk$Row" 22 5 0 2 4 kr_5 := ⟨rfl, by decide, by decide, kw_113, ki_5, rfl⟩
theorem kf_5_25 : kx_fd "TaskDesk$Row" 25 4 7 2 4 kr_4 := ⟨rfl, by decide, by decide, kw_234, ki_4, rfl⟩
theorem kf_5_28 : kx_fd "TaskDesk$Row" 28 5 2 0 0 kr_5 := ⟨rfl, by decide, by decide, kw_119, ki_5, rfl⟩
theorem kf_6_9 : kx_fd "TaskDesk$Task" 9 6 0 0 0 kr_6 := ⟨rfl, by decide, by decide, kw_261, ki_6, rfl⟩
theorem kf_6_15 : kx_fd "TaskDesk$Task" 15 6 1 2 4 kr_6 := ⟨rfl, by decide, by decide, kw_263, ki_6, rfl⟩
theorem kf_6_19 : kx_fd "TaskDesk$Task" 19 6 2 3 0 kr_6 := ⟨rfl, by decide, by decide, kw_265, ki_6, rfl⟩
theorem kf_6_23 : kx_fd "TaskDesk$Task" 23 6 4 0 0 kr_6 := ⟨rfl, by decide, by decide, kw_269, ki_6, rfl⟩
theorem kf_6_30 : kx_fd "TaskDesk$Task" 30 6 6 1 0 kr_6 := ⟨rfl, by decide, by decide, kw_273, ki_6, rfl⟩
theorem kf_6_34 : kx_fd "TaskDesk$Task" 34 6 7 3 0 kr_6 := ⟨rfl, by decide, by decide, kw_275, ki_6, rfl⟩
theorem kf_6_37 : kx_fd "TaskDesk$Task" 37 6 8 0 0 kr_6 := ⟨rfl, by decide, by decide, kw_277, ki_6, rfl⟩
theorem kf_6_40 : kx_fd "TaskDesk$Task" 40 6 9 3 0 kr_6 := ⟨rfl, by decide, by decide, kw_279, ki_6, rfl⟩
theorem kf_6_43 : kx_fd "TaskDesk$Task" 43 6 3 0 0 kr_6 := ⟨rfl, by decide, by decide, kw_268, ki_6, rfl⟩
theorem kf_6_52 : kx_fd "TaskDesk$Task" 52 4 0 2 6 kr_4 := ⟨rfl, by decide, by decide, kw_221, ki_4, rfl⟩
theorem kf_6_58 : kx_fd "TaskDesk$Task" 58 6 5 2 4 kr_6 := ⟨rfl, by decide, by decide, kw_271, ki_6, rfl⟩
theorem kf_6_61 : kx_fd "TaskDesk$Task" 61 4 8 2 4 kr_4 := ⟨rfl, by decide, by decide, kw_235, ki_4, rfl⟩
theorem kf_9_7 : kx_fd "TaskDeskModel" 7 9 4 2 101 kr_9 := ⟨rfl, by decide, by decide, kw_934, ki_9, rfl⟩
theorem kf_9_13 : kx_fd "TaskDeskModel" 13 9 5 2 99 kr_9 := ⟨rfl, by decide, by decide, kw_935, ki_9, rfl⟩
theorem kf_9_17 : kx_fd "TaskDeskModel" 17 9 6 2 99 kr_9 := ⟨rfl, by decide, by decide, kw_936, ki_9, rfl⟩
theorem kf_9_20 : kx_fd "TaskDeskModel" 20 9 7 2 100 kr_9 := ⟨rfl, by decide, by decide, kw_937, ki_9, rfl⟩
theorem kf_9_24 : kx_fd "TaskDeskModel" 24 9 8 2 101 kr_9 := ⟨rfl, by decide, by decide, kw_938, ki_9, rfl⟩
theorem kf_9_27 : kx_fd "TaskDeskModel" 27 9 9 2 99 kr_9 := ⟨rfl, by decide, by decide, kw_939, ki_9, rfl⟩
theorem kf_9_30 : kx_fd "TaskDeskModel" 30 9 10 2 101 kr_9 := ⟨rfl, by decide, by decide, kw_940, ki_9, rfl⟩
theorem kf_9_33 : kx_fd "TaskDeskModel" 33 9 12 2 99 kr_9 := ⟨rfl, by decide, by decide, kw_942, ki_9, rfl⟩
theorem kf_9_36 : kx_fd "TaskDeskModel" 36 9 13 2 101 kr_9 := ⟨rfl, by decide, by decide, kw_943, ki_9, rfl⟩
theorem kf_9_39 : kx_fd "TaskDeskModel" 39 9 14 2 101 kr_9 := ⟨rfl, by decide, by decide, kw_944, ki_9, rfl⟩
theorem kf_9_42 : kx_fd "TaskDeskModel" 42 9 15 2 99 kr_9 := ⟨rfl, by decide, by decide, kw_945, ki_9, rfl⟩
theorem kf_9_45 : kx_fd "TaskDeskModel" 45 9 18 2 99 kr_9 := ⟨rfl, by decide, by decide, kw_948, ki_9, rfl⟩
theorem kf_9_48 : kx_fd "TaskDeskModel" 48 9 19 2 100 kr_9 := ⟨rfl, by decide, by decide, kw_949, ki_9, rfl⟩
theorem kf_9_51 : kx_fd "TaskDeskModel" 51 9 21 2 99 kr_9 := ⟨rfl, by decide, by decide, kw_951, ki_9, rfl⟩
theorem kf_9_54 : kx_fd "TaskDeskModel" 54 9 22 2 99 kr_9 := ⟨rfl, by decide, by decide, kw_952, ki_9, rfl⟩
theorem kf_9_57 : kx_fd "TaskDeskModel" 57 9 23 2 101 kr_9 := ⟨rfl, by decide, by decide, kw_953, ki_9, rfl⟩
theorem kf_9_60 : kx_fd "TaskDeskModel" 60 9 24 2 100 kr_9 := ⟨rfl, by decide, by decide, kw_954, ki_9, rfl⟩
theorem kf_9_63 : kx_fd "TaskDeskModel" 63 9 25 2 99 kr_9 := ⟨rfl, by decide, by decide, kw_955, ki_9, rfl⟩
theorem kf_9_66 : kx_fd "TaskDeskModel" 66 9 27 2 99 kr_9 := ⟨rfl, by decide, by decide, kw_957, ki_9, rfl⟩
theorem kf_9_69 : kx_fd "TaskDeskModel" 69 9 28 2 101 kr_9 := ⟨rfl, by decide, by decide, kw_958, ki_9, rfl⟩
theorem kf_9_72 : kx_fd "TaskDeskModel" 72 9 29 2 100 kr_9 := ⟨rfl, by decide, by decide, kw_959, ki_9, rfl⟩
theorem kf_9_75 : kx_fd "TaskDeskModel" 75 9 31 2 99 kr_9 := ⟨rfl, by decide, by decide, kw_961, ki_9, rfl⟩
theorem kf_9_78 : kx_fd "TaskDeskModel" 78 9 32 2 99 kr_9 := ⟨rfl, by decide, by decide, kw_962, ki_9, rfl⟩
theorem kf_9_81 : kx_fd "TaskDeskModel" 81 9 33 2 99 kr_9 := ⟨rfl, by decide, by decide, kw_963, ki_9, rfl⟩
theorem kf_9_84 : kx_fd "TaskDeskModel" 84 9 35 2 99 kr_9 := ⟨rfl, by decide, by decide, kw_965, ki_9, rfl⟩
theorem kf_9_87 : kx_fd "TaskDeskModel" 87 9 36 2 99 kr_9 := ⟨rfl, by decide, by decide, kw_966, ki_9, rfl⟩
theorem kf_9_90 : kx_fd "TaskDeskModel" 90 9 37 2 101 kr_9 := ⟨rfl, by decide, by decide, kw_967, ki_9, rfl⟩
theorem kf_9_93 : kx_fd "TaskDeskModel" 93 9 39 2 99 kr_9 := ⟨rfl, by decide, by decide, kw_969, ki_9, rfl⟩
theorem kf_9_96 : kx_fd "TaskDeskModel" 96 9 40 2 100 kr_9 := ⟨rfl, by decide, by decide, kw_970, ki_9, rfl⟩
theorem kf_9_99 : kx_fd "TaskDeskModel" 99 9 0 0 0 kr_9 := ⟨rfl, by decide, by decide, kw_930, ki_9, rfl⟩
theorem kf_9_103 : kx_fd "TaskDeskModel" 103 9 11 0 0 kr_9 := ⟨rfl, by decide, by decide, kw_941, ki_9, rfl⟩
theorem kf_9_106 : kx_fd "TaskDeskModel" 106 9 1 0 0 kr_9 := ⟨rfl, by decide, by decide, kw_931, ki_9, rfl⟩
theorem kf_9_112 : kx_fd "TaskDeskModel" 112 9 38 0 0 kr_9 := ⟨rfl, by decide, by decide, kw_968, ki_9, rfl⟩
theorem kf_9_118 : kx_fd "TaskDeskModel" 118 9 2 0 0 kr_9 := ⟨rfl, by decide, by decide, kw_932, ki_9, rfl⟩
theorem kf_9_121 : kx_fd "TaskDeskModel" 121 9 3 1 0 kr_9 := ⟨rfl, by decide, by decide, kw_933, ki_9, rfl⟩
theorem kf_9_129 : kx_fd "TaskDeskModel" 129 9 41 0 0 kr_9 := ⟨rfl, by decide, by decide, kw_971, ki_9, rfl⟩
theorem kf_9_146 : kx_fd "TaskDeskModel" 146 9 17 0 0 kr_9 := ⟨rfl, by decide, by decide, kw_947, ki_9, rfl⟩
theorem kf_9_149 : kx_fd "TaskDeskModel" 149 9 20 0 0 kr_9 := ⟨rfl, by decide, by decide, kw_950, ki_9, rfl⟩
theorem kf_9_173 : kx_fd "TaskDeskModel" 173 9 16 0 0 kr_9 := ⟨rfl, by decide, by decide, kw_946, ki_9, rfl⟩
theorem kf_9_180 : kx_fd "TaskDeskModel" 180 9 26 0 0 kr_9 := ⟨rfl, by decide, by decide, kw_956, ki_9, rfl⟩
theorem kf_9_211 : kx_fd "TaskDeskModel" 211 9 34 0 0 kr_9 := ⟨rfl, by decide, by decide, kw_964, ki_9, rfl⟩
theorem kf_9_218 : kx_fd "TaskDeskModel" 218 9 30 0 0 kr_9 := ⟨rfl, by decide, by decide, kw_960, ki_9, rfl⟩
theorem kc_0 : kx_cal 0 prog_1_method_1_code 4 (Option.none : Option Jvm.ClassFile.FieldType) 0 := ⟨kw_101, kw_80, by decide, ⟨by decide, by decide⟩, by decide +kernel⟩
theorem kc_1 : kx_cal 1 prog_6_method_1_code 1 (Option.none : Option Jvm.ClassFile.FieldType) 0 := ⟨kw_111, kw_81, by decide, ⟨by decide, by decide⟩, by decide +kernel⟩
theorem kc_2 : kx_cal 2 prog_2_method_1_code 3 (Option.none : Option Jvm.ClassFile.FieldType) 0 := ⟨kw_133, kw_82, by decide, ⟨by decide, by decide⟩, by decide +kernel⟩
theorem kc_3 : kx_cal 3 prog_8_method_1_code 1 (Option.none : Option Jvm.ClassFile.FieldType) 0 := ⟨kw_139, kw_83, by decide, ⟨by decide, by decide⟩, by decide +kernel⟩
theorem kc_4 : kx_cal 4 prog_3_method_1_code 2 (Option.none : Option Jvm.ClassFile.FieldType) 1 := ⟨kw_170, kw_84, by decide, ⟨by decide, by decide⟩, by decide +kernel⟩
theorem kc_5 : kx_cal 5 prog_5_method_1_code 2 (Option.none : Option Jvm.ClassFile.FieldType) 1 := ⟨kw_218, kw_85, by decide, ⟨by decide, by decide⟩, by decide +kernel⟩
theorem kc_6 : kx_cal 6 prog_7_method_1_code 3 (Option.none : Option Jvm.ClassFile.FieldType) 2 := ⟨kw_259, kw_86, by decide, ⟨by decide, by decide⟩, by decide +kernel⟩
theorem kc_7 : kx_cal 7 prog_4_method_1_code 2 (Option.none : Option Jvm.ClassFile.FieldType) 1 := ⟨kw_305, kw_87, by decide, ⟨by decide, by decide⟩, by decide +kernel⟩
theorem kc_8 : kx_cal 8 prog_9_method_1_code 1 (Option.none : Option Jvm.ClassFile.FieldType) 0 := ⟨kw_337, kw_88, by decide, ⟨by decide, by decide⟩, by decide +kernel⟩
theorem kc_9 : kx_cal 9 prog_1_method_49_code 2 (Option.none : Option Jvm.ClassFile.FieldType) 1 := ⟨kw_350, kw_80, by decide, ⟨by decide, by decide⟩, by decide +kernel⟩
theorem kc_10 : kx_cal 10 prog_1_method_56_code 2 (Option.none : Option Jvm.ClassFile.FieldType) 1 := ⟨kw_354, kw_80, by decide, ⟨by decide, by decide⟩, by decide +kernel⟩
theorem kc_11 : kx_cal 11 prog_7_method_2_code 1 (Option.none : Option Jvm.ClassFile.FieldType) 0 := ⟨kw_358, kw_86, by decide, ⟨by decide, by decide⟩, by decide +kernel⟩
theorem kc_12 : kx_cal 12 prog_7_method_3_code 6 (Option.none : Option Jvm.ClassFile.FieldType) 4 := ⟨kw_362, kw_86, by decide, ⟨by decide, by decide⟩, by decide +kernel⟩
theorem kc_13 : kx_cal 13 prog_1_method_7_code 4 (Option.some Jvm.ClassFile.FieldType.boolean) 1 := ⟨kw_421, kw_80, by decide, ⟨by decide, by decide⟩, by decide +kernel⟩
theorem kc_14 : kx_cal 14 prog_1_method_30_code 2 (Option.some (Jvm.ClassFile.FieldType.object "TaskDesk$Channel")) 1 := ⟨kw_425, kw_80, by decide, ⟨by decide, by decide⟩, by decide +kernel⟩
theorem kc_15 : kx_cal 15 prog_3_method_2_code 1 (Option.some Jvm.ClassFile.FieldType.boolean) 0 := ⟨kw_429, kw_84, by decide, ⟨by decide, by decide⟩, by decide +kernel⟩
theorem kc_16 : kx_cal 16 prog_1_method_50_code 3 (Option.some Jvm.ClassFile.FieldType.boolean) 1 := ⟨kw_433, kw_80, by decide, ⟨by decide, by decide⟩, by decide +kernel⟩
theorem kc_17 : kx_cal 17 prog_1_method_48_code 3 (Option.some Jvm.ClassFile.FieldType.long) 1 := ⟨kw_437, kw_80, by decide, ⟨by decide, by decide⟩, by decide +kernel⟩
theorem kc_18 : kx_cal 18 prog_3_method_4_code 1 (Option.none : Option Jvm.ClassFile.FieldType) 0 := ⟨kw_441, kw_84, by decide, ⟨by decide, by decide⟩, by decide +kernel⟩
theorem kc_19 : kx_cal 19 prog_1_method_19_code 1 (Option.some Jvm.ClassFile.FieldType.int) 0 := ⟨kw_445, kw_80, by decide, ⟨by decide, by decide⟩, by decide +kernel⟩
theorem kc_20 : kx_cal 20 prog_1_method_24_code 1 (Option.some Jvm.ClassFile.FieldType.long) 0 := ⟨kw_449, kw_80, by decide, ⟨by decide, by decide⟩, by decide +kernel⟩
theorem kc_21 : kx_cal 21 prog_1_method_25_code 2 (Option.some Jvm.ClassFile.FieldType.int) 1 := ⟨kw_453, kw_80, by decide, ⟨by decide, by decide⟩, by decide +kernel⟩
theorem kc_22 : kx_cal 22 prog_1_method_34_code 1 (Option.some Jvm.ClassFile.FieldType.int) 0 := ⟨kw_457, kw_80, by decide, ⟨by decide, by decide⟩, by decide +kernel⟩
theorem kc_23 : kx_cal 23 prog_1_method_2_code 2 (Option.some Jvm.ClassFile.FieldType.int) 0 := ⟨kw_465, kw_80, by decide, ⟨by decide, by decide⟩, by decide +kernel⟩
theorem kc_24 : kx_cal 24 prog_1_method_26_code 1 (Option.some (Jvm.ClassFile.FieldType.object "TaskDesk$Task")) 0 := ⟨kw_469, kw_80, by decide, ⟨by decide, by decide⟩, by decide +kernel⟩
theorem kc_25 : kx_cal 25 prog_1_method_32_code 2 (Option.some (Jvm.ClassFile.FieldType.object "TaskDesk$Task")) 0 := ⟨kw_542, kw_80, by decide, ⟨by decide, by decide⟩, by decide +kernel⟩
theorem kc_26 : kx_cal 26 prog_1_method_35_code 2 (Option.none : Option Jvm.ClassFile.FieldType) 1 := ⟨kw_547, kw_80, by decide, ⟨by decide, by decide⟩, by decide +kernel⟩
theorem kc_27 : kx_cal 27 prog_7_method_4_code 4 (Option.none : Option Jvm.ClassFile.FieldType) 3 := ⟨kw_551, kw_86, by decide, ⟨by decide, by decide⟩, by decide +kernel⟩
theorem kc_28 : kx_cal 28 prog_6_method_2_code 2 (Option.none : Option Jvm.ClassFile.FieldType) 1 := ⟨kw_555, kw_81, by decide, ⟨by decide, by decide⟩, by decide +kernel⟩
theorem kc_29 : kx_cal 29 prog_1_method_3_code 1 (Option.some Jvm.ClassFile.FieldType.int) 0 := ⟨kw_562, kw_80, by decide, ⟨by decide, by decide⟩, by decide +kernel⟩
theorem kc_30 : kx_cal 30 prog_1_method_37_code 4 (Option.none : Option Jvm.ClassFile.FieldType) 0 := ⟨kw_566, kw_80, by decide, ⟨by decide, by decide⟩, by decide +kernel⟩
theorem kc_31 : kx_cal 31 prog_2_method_4_code 2 (Option.some (Jvm.ClassFile.FieldType.object "TaskDesk$Timer")) 0 := ⟨kw_570, kw_82, by decide, ⟨by decide, by decide⟩, by decide +kernel⟩
theorem kc_32 : kx_cal 32 prog_1_method_38_code 3 (Option.none : Option Jvm.ClassFile.FieldType) 1 := ⟨kw_574, kw_80, by decide, ⟨by decide, by decide⟩, by decide +kernel⟩
theorem kc_33 : kx_cal 33 prog_1_method_43_code 3 (Option.some Jvm.ClassFile.FieldType.boolean) 1 := ⟨kw_578, kw_80, by decide, ⟨by decide, by decide⟩, by decide +kernel⟩
theorem kc_34 : kx_cal 34 prog_1_method_45_code 5 (Option.none : Option Jvm.ClassFile.FieldType) 2 := ⟨kw_582, kw_80, by decide, ⟨by decide, by decide⟩, by decide +kernel⟩
theorem kc_35 : kx_cal 35 prog_1_method_40_code 7 (Option.none : Option Jvm.ClassFile.FieldType) 4 := ⟨kw_586, kw_80, by decide, ⟨by decide, by decide⟩, by decide +kernel⟩
theorem kc_36 : kx_cal 36 prog_1_method_42_code 5 (Option.none : Option Jvm.ClassFile.FieldType) 1 := ⟨kw_591, kw_80, by decide, ⟨by decide, by decide⟩, by decide +kernel⟩
theorem kc_37 : kx_cal 37 prog_5_method_2_code 1 (Option.none : Option Jvm.ClassFile.FieldType) 0 := ⟨kw_595, kw_85, by decide, ⟨by decide, by decide⟩, by decide +kernel⟩
theorem kc_38 : kx_cal 38 prog_1_method_47_code 5 (Option.none : Option Jvm.ClassFile.FieldType) 2 := ⟨kw_599, kw_80, by decide, ⟨by decide, by decide⟩, by decide +kernel⟩
theorem kc_39 : kx_cal 39 prog_3_method_3_code 2 (Option.none : Option Jvm.ClassFile.FieldType) 1 := ⟨kw_603, kw_84, by decide, ⟨by decide, by decide⟩, by decide +kernel⟩
theorem kc_40 : kx_cal 40 prog_1_method_4_code 2 (Option.some Jvm.ClassFile.FieldType.int) 0 := ⟨kw_611, kw_80, by decide, ⟨by decide, by decide⟩, by decide +kernel⟩
theorem kc_41 : kx_cal 41 prog_1_method_39_code 2 (Option.none : Option Jvm.ClassFile.FieldType) 0 := ⟨kw_615, kw_80, by decide, ⟨by decide, by decide⟩, by decide +kernel⟩
theorem kc_42 : kx_cal 42 prog_1_method_5_code 4 (Option.some Jvm.ClassFile.FieldType.int) 1 := ⟨kw_623, kw_80, by decide, ⟨by decide, by decide⟩, by decide +kernel⟩
theorem kc_43 : kx_cal 43 prog_2_method_2_code 7 (Option.none : Option Jvm.ClassFile.FieldType) 3 := ⟨kw_644, kw_82, by decide, ⟨by decide, by decide⟩, by decide +kernel⟩
theorem kc_44 : kx_cal 44 prog_2_method_3_code 5 (Option.some (Jvm.ClassFile.FieldType.object "TaskDesk$Timer")) 1 := ⟨kw_648, kw_82, by decide, ⟨by decide, by decide⟩, by decide +kernel⟩
theorem kc_45 : kx_cal 45 prog_1_method_6_code 3 (Option.some Jvm.ClassFile.FieldType.int) 1 := ⟨kw_655, kw_80, by decide, ⟨by decide, by decide⟩, by decide +kernel⟩
theorem kc_46 : kx_cal 46 prog_1_method_33_code 2 (Option.some (Jvm.ClassFile.FieldType.object "TaskDesk$Channel")) 0 := ⟨kw_660, kw_80, by decide, ⟨by decide, by decide⟩, by decide +kernel⟩
theorem kc_47 : kx_cal 47 prog_1_method_8_code 5 (Option.none : Option Jvm.ClassFile.FieldType) 2 := ⟨kw_668, kw_80, by decide, ⟨by decide, by decide⟩, by decide +kernel⟩
theorem kc_48 : kx_cal 48 prog_1_method_9_code 6 (Option.some Jvm.ClassFile.FieldType.boolean) 2 := ⟨kw_678, kw_80, by decide, ⟨by decide, by decide⟩, by decide +kernel⟩
theorem kc_49 : kx_cal 49 prog_1_method_28_code 3 (Option.some (Jvm.ClassFile.FieldType.object "TaskDesk$Channel")) 1 := ⟨kw_682, kw_80, by decide, ⟨by decide, by decide⟩, by decide +kernel⟩
theorem kc_50 : kx_cal 50 prog_1_method_10_code 4 (Option.some Jvm.ClassFile.FieldType.boolean) 1 := ⟨kw_706, kw_80, by decide, ⟨by decide, by decide⟩, by decide +kernel⟩
theorem kc_51 : kx_cal 51 prog_1_method_44_code 3 (Option.some Jvm.ClassFile.FieldType.boolean) 1 := ⟨kw_710, kw_80, by decide, ⟨by decide, by decide⟩, by decide +kernel⟩
theorem kc_52 : kx_cal 52 prog_1_method_46_code 8 (Option.none : Option Jvm.ClassFile.FieldType) 3 := ⟨kw_714, kw_80, by decide, ⟨by decide, by decide⟩, by decide +kernel⟩
theorem kc_53 : kx_cal 53 prog_1_method_11_code 3 (Option.none : Option Jvm.ClassFile.FieldType) 1 := ⟨kw_721, kw_80, by decide, ⟨by decide, by decide⟩, by decide +kernel⟩
theorem kc_54 : kx_cal 54 prog_1_method_41_code 5 (Option.none : Option Jvm.ClassFile.FieldType) 3 := ⟨kw_726, kw_80, by decide, ⟨by decide, by decide⟩, by decide +kernel⟩
theorem kc_55 : kx_cal 55 prog_1_method_12_code 7 (Option.some Jvm.ClassFile.FieldType.int) 3 := ⟨kw_733, kw_80, by decide, ⟨by decide, by decide⟩, by decide +kernel⟩
theorem kc_56 : kx_cal 56 prog_1_method_13_code 5 (Option.some Jvm.ClassFile.FieldType.boolean) 2 := ⟨kw_741, kw_80, by decide, ⟨by decide, by decide⟩, by decide +kernel⟩
theorem kc_57 : kx_cal 57 prog_1_method_52_code 5 (Option.some (Jvm.ClassFile.FieldType.object "TaskDesk$Place")) 1 := ⟨kw_746, kw_80, by decide, ⟨by decide, by decide⟩, by decide +kernel⟩
theorem kc_58 : kx_cal 58 prog_1_method_51_code 3 (Option.some Jvm.ClassFile.FieldType.boolean) 1 := ⟨kw_750, kw_80, by decide, ⟨by decide, by decide⟩, by decide +kernel⟩
theorem kc_59 : kx_cal 59 prog_1_method_53_code 4 (Option.none : Option Jvm.ClassFile.FieldType) 2 := ⟨kw_754, kw_80, by decide, ⟨by decide, by decide⟩, by decide +kernel⟩
theorem kc_60 : kx_cal 60 prog_1_method_54_code 2 (Option.none : Option Jvm.ClassFile.FieldType) 0 := ⟨kw_758, kw_80, by decide, ⟨by decide, by decide⟩, by decide +kernel⟩
theorem kc_61 : kx_cal 61 prog_1_method_55_code 5 (Option.none : Option Jvm.ClassFile.FieldType) 1 := ⟨kw_762, kw_80, by decide, ⟨by decide, by decide⟩, by decide +kernel⟩
theorem kc_62 : kx_cal 62 prog_7_method_5_code 2 (Option.none : Option Jvm.ClassFile.FieldType) 1 := ⟨kw_767, kw_86, by decide, ⟨by decide, by decide⟩, by decide +kernel⟩
theorem kc_63 : kx_cal 63 prog_1_method_14_code 6 (Option.some Jvm.ClassFile.FieldType.int) 2 := ⟨kw_774, kw_80, by decide, ⟨by decide, by decide⟩, by decide +kernel⟩
theorem kc_64 : kx_cal 64 prog_1_method_31_code 2 (Option.some (Jvm.ClassFile.FieldType.object "TaskDesk$Gate")) 1 := ⟨kw_778, kw_80, by decide, ⟨by decide, by decide⟩, by decide +kernel⟩
theorem kc_65 : kx_cal 65 prog_1_method_15_code 5 (Option.some Jvm.ClassFile.FieldType.boolean) 1 := ⟨kw_787, kw_80, by decide, ⟨by decide, by decide⟩, by decide +kernel⟩
theorem kc_66 : kx_cal 66 prog_1_method_29_code 3 (Option.some (Jvm.ClassFile.FieldType.object "TaskDesk$Gate")) 1 := ⟨kw_791, kw_80, by decide, ⟨by decide, by decide⟩, by decide +kernel⟩
theorem kc_67 : kx_cal 67 prog_1_method_57_code 2 (Option.none : Option Jvm.ClassFile.FieldType) 1 := ⟨kw_796, kw_80, by decide, ⟨by decide, by decide⟩, by decide +kernel⟩
theorem kc_68 : kx_cal 68 prog_1_method_58_code 3 (Option.none : Option Jvm.ClassFile.FieldType) 1 := ⟨kw_801, kw_80, by decide, ⟨by decide, by decide⟩, by decide +kernel⟩
theorem kc_69 : kx_cal 69 prog_4_method_2_code 1 (Option.some Jvm.ClassFile.FieldType.boolean) 0 := ⟨kw_805, kw_87, by decide, ⟨by decide, by decide⟩, by decide +kernel⟩
theorem kc_70 : kx_cal 70 prog_4_method_3_code 1 (Option.none : Option Jvm.ClassFile.FieldType) 0 := ⟨kw_809, kw_87, by decide, ⟨by decide, by decide⟩, by decide +kernel⟩
theorem kc_71 : kx_cal 71 prog_1_method_16_code 4 (Option.some Jvm.ClassFile.FieldType.boolean) 1 := ⟨kw_816, kw_80, by decide, ⟨by decide, by decide⟩, by decide +kernel⟩
theorem kc_72 : kx_cal 72 prog_1_method_17_code 3 (Option.none : Option Jvm.ClassFile.FieldType) 1 := ⟨kw_824, kw_80, by decide, ⟨by decide, by decide⟩, by decide +kernel⟩
theorem kc_73 : kx_cal 73 prog_4_method_4_code 1 (Option.some Jvm.ClassFile.FieldType.boolean) 0 := ⟨kw_828, kw_87, by decide, ⟨by decide, by decide⟩, by decide +kernel⟩
theorem kc_74 : kx_cal 74 prog_1_method_59_code 2 (Option.none : Option Jvm.ClassFile.FieldType) 1 := ⟨kw_833, kw_80, by decide, ⟨by decide, by decide⟩, by decide +kernel⟩
theorem kc_75 : kx_cal 75 prog_1_method_61_code 3 (Option.none : Option Jvm.ClassFile.FieldType) 1 := ⟨kw_837, kw_80, by decide, ⟨by decide, by decide⟩, by decide +kernel⟩
theorem kc_76 : kx_cal 76 prog_1_method_62_code 3 (Option.none : Option Jvm.ClassFile.FieldType) 2 := ⟨kw_841, kw_80, by decide, ⟨by decide, by decide⟩, by decide +kernel⟩
theorem kc_77 : kx_cal 77 prog_1_method_64_code 4 (Option.none : Option Jvm.ClassFile.FieldType) 1 := ⟨kw_845, kw_80, by decide, ⟨by decide, by decide⟩, by decide +kernel⟩
theorem kc_78 : kx_cal 78 prog_1_method_18_code 4 (Option.none : Option Jvm.ClassFile.FieldType) 2 := ⟨kw_852, kw_80, by decide, ⟨by decide, by decide⟩, by decide +kernel⟩
theorem kc_79 : kx_cal 79 prog_4_method_5_code 4 (Option.some Jvm.ClassFile.FieldType.boolean) 1 := ⟨kw_857, kw_87, by decide, ⟨by decide, by decide⟩, by decide +kernel⟩
theorem kc_80 : kx_cal 80 prog_1_method_60_code 2 (Option.none : Option Jvm.ClassFile.FieldType) 1 := ⟨kw_863, kw_80, by decide, ⟨by decide, by decide⟩, by decide +kernel⟩
theorem kc_81 : kx_cal 81 prog_1_method_63_code 3 (Option.none : Option Jvm.ClassFile.FieldType) 1 := ⟨kw_867, kw_80, by decide, ⟨by decide, by decide⟩, by decide +kernel⟩
theorem kc_82 : kx_cal 82 prog_1_method_20_code 4 (Option.some Jvm.ClassFile.FieldType.int) 2 := ⟨kw_875, kw_80, by decide, ⟨by decide, by decide⟩, by decide +kernel⟩
theorem kc_83 : kx_cal 83 prog_1_method_27_code 2 (Option.some (Jvm.ClassFile.FieldType.object "TaskDesk$Task")) 1 := ⟨kw_879, kw_80, by decide, ⟨by decide, by decide⟩, by decide +kernel⟩
theorem kc_84 : kx_cal 84 prog_1_method_36_code 4 (Option.some Jvm.ClassFile.FieldType.int) 1 := ⟨kw_899, kw_80, by decide, ⟨by decide, by decide⟩, by decide +kernel⟩
theorem kc_85 : kx_cal 85 prog_1_method_21_code 2 (Option.some Jvm.ClassFile.FieldType.long) 1 := ⟨kw_907, kw_80, by decide, ⟨by decide, by decide⟩, by decide +kernel⟩
theorem kc_86 : kx_cal 86 prog_1_method_22_code 4 (Option.some Jvm.ClassFile.FieldType.int) 2 := ⟨kw_914, kw_80, by decide, ⟨by decide, by decide⟩, by decide +kernel⟩
theorem kc_87 : kx_cal 87 prog_1_method_23_code 4 (Option.some Jvm.ClassFile.FieldType.int) 2 := ⟨kw_922, kw_80, by decide, ⟨by decide, by decide⟩, by decide +kernel⟩
theorem kc_88 : kx_cal 88 prog_11_method_1_code 1 (Option.none : Option Jvm.ClassFile.FieldType) 0 := ⟨kw_928, kw_89, by decide, ⟨by decide, by decide⟩, by decide +kernel⟩
theorem kc_89 : kx_cal 89 prog_11_method_2_code 1 (Option.some Jvm.ClassFile.FieldType.int) 0 := ⟨kw_1063, kw_89, by decide, ⟨by decide, by decide⟩, by decide +kernel⟩
theorem kc_90 : kx_cal 90 prog_11_method_23_code 3 (Option.some Jvm.ClassFile.FieldType.int) 1 := ⟨kw_1067, kw_89, by decide, ⟨by decide, by decide⟩, by decide +kernel⟩
theorem kc_91 : kx_cal 91 prog_11_method_3_code 2 (Option.some Jvm.ClassFile.FieldType.int) 1 := ⟨kw_1071, kw_89, by decide, ⟨by decide, by decide⟩, by decide +kernel⟩
theorem kc_92 : kx_cal 92 prog_11_method_24_code 4 (Option.some Jvm.ClassFile.FieldType.boolean) 1 := ⟨kw_1075, kw_89, by decide, ⟨by decide, by decide⟩, by decide +kernel⟩
theorem kc_93 : kx_cal 93 prog_11_method_11_code 2 (Option.some Jvm.ClassFile.FieldType.boolean) 1 := ⟨kw_1079, kw_89, by decide, ⟨by decide, by decide⟩, by decide +kernel⟩
theorem kc_94 : kx_cal 94 prog_11_method_13_code 4 (Option.some Jvm.ClassFile.FieldType.int) 2 := ⟨kw_1083, kw_89, by decide, ⟨by decide, by decide⟩, by decide +kernel⟩
theorem kc_95 : kx_cal 95 prog_11_method_12_code 4 (Option.some Jvm.ClassFile.FieldType.int) 1 := ⟨kw_1087, kw_89, by decide, ⟨by decide, by decide⟩, by decide +kernel⟩
theorem kc_96 : kx_cal 96 prog_11_method_19_code 5 (Option.some Jvm.ClassFile.FieldType.long) 1 := ⟨kw_1091, kw_89, by decide, ⟨by decide, by decide⟩, by decide +kernel⟩
theorem kc_97 : kx_cal 97 prog_11_method_25_code 4 (Option.none : Option Jvm.ClassFile.FieldType) 2 := ⟨kw_1095, kw_89, by decide, ⟨by decide, by decide⟩, by decide +kernel⟩
theorem kc_98 : kx_cal 98 prog_11_method_26_code 4 (Option.some Jvm.ClassFile.FieldType.boolean) 2 := ⟨kw_1100, kw_89, by decide, ⟨by decide, by decide⟩, by decide +kernel⟩
theorem kc_99 : kx_cal 99 prog_11_method_4_code 2 (Option.some Jvm.ClassFile.FieldType.boolean) 1 := ⟨kw_1104, kw_89, by decide, ⟨by decide, by decide⟩, by decide +kernel⟩
theorem kc_100 : kx_cal 100 prog_11_method_21_code 2 (Option.some Jvm.ClassFile.FieldType.boolean) 1 := ⟨kw_1108, kw_89, by decide, ⟨by decide, by decide⟩, by decide +kernel⟩
theorem kc_101 : kx_cal 101 prog_11_method_18_code 5 (Option.none : Option Jvm.ClassFile.FieldType) 2 := ⟨kw_1112, kw_89, by decide, ⟨by decide, by decide⟩, by decide +kernel⟩
theorem kc_102 : kx_cal 102 prog_11_method_15_code 7 (Option.none : Option Jvm.ClassFile.FieldType) 4 := ⟨kw_1116, kw_89, by decide, ⟨by decide, by decide⟩, by decide +kernel⟩
theorem kc_103 : kx_cal 103 prog_11_method_5_code 7 (Option.none : Option Jvm.ClassFile.FieldType) 5 := ⟨kw_1120, kw_89, by decide, ⟨by decide, by decide⟩, by decide +kernel⟩
theorem kc_104 : kx_cal 104 prog_11_method_14_code 4 (Option.none : Option Jvm.ClassFile.FieldType) 1 := ⟨kw_1124, kw_89, by decide, ⟨by decide, by decide⟩, by decide +kernel⟩
theorem kc_105 : kx_cal 105 prog_11_method_6_code 2 (Option.none : Option Jvm.ClassFile.FieldType) 1 := ⟨kw_1128, kw_89, by decide, ⟨by decide, by decide⟩, by decide +kernel⟩
theorem kc_106 : kx_cal 106 prog_11_method_17_code 4 (Option.none : Option Jvm.ClassFile.FieldType) 2 := ⟨kw_1132, kw_89, by decide, ⟨by decide, by decide⟩, by decide +kernel⟩
theorem kc_107 : kx_cal 107 prog_11_method_16_code 7 (Option.none : Option Jvm.ClassFile.FieldType) 5 := ⟨kw_1136, kw_89, by decide, ⟨by decide, by decide⟩, by decide +kernel⟩
theorem kc_108 : kx_cal 108 prog_11_method_7_code 3 (Option.none : Option Jvm.ClassFile.FieldType) 2 := ⟨kw_1140, kw_89, by decide, ⟨by decide, by decide⟩, by decide +kernel⟩
theorem kc_109 : kx_cal 109 prog_11_method_8_code 2 (Option.none : Option Jvm.ClassFile.FieldType) 0 := ⟨kw_1144, kw_89, by decide, ⟨by decide, by decide⟩, by decide +kernel⟩
theorem kc_110 : kx_cal 110 prog_11_method_9_code 6 (Option.none : Option Jvm.ClassFile.FieldType) 0 := ⟨kw_1148, kw_89, by decide, ⟨by decide, by decide⟩, by decide +kernel⟩
theorem kc_111 : kx_cal 111 prog_11_method_10_code 2 (Option.none : Option Jvm.ClassFile.FieldType) 1 := ⟨kw_1152, kw_89, by decide, ⟨by decide, by decide⟩, by decide +kernel⟩
theorem kc_112 : kx_cal 112 prog_11_method_27_code 2 (Option.some Jvm.ClassFile.FieldType.boolean) 1 := ⟨kw_1156, kw_89, by decide, ⟨by decide, by decide⟩, by decide +kernel⟩
theorem kc_113 : kx_cal 113 prog_11_method_22_code 2 (Option.some Jvm.ClassFile.FieldType.boolean) 1 := ⟨kw_1160, kw_89, by decide, ⟨by decide, by decide⟩, by decide +kernel⟩
theorem kc_114 : kx_cal 114 prog_11_method_20_code 4 (Option.none : Option Jvm.ClassFile.FieldType) 2 := ⟨kw_1164, kw_89, by decide, ⟨by decide, by decide⟩, by decide +kernel⟩
theorem kc_115 : kx_cal 115 prog_11_method_28_code 3 (Option.none : Option Jvm.ClassFile.FieldType) 1 := ⟨kw_1168, kw_89, by decide, ⟨by decide, by decide⟩, by decide +kernel⟩
theorem kc_116 : kx_cal 116 prog_11_method_29_code 5 (Option.some Jvm.ClassFile.FieldType.int) 3 := ⟨kw_1172, kw_89, by decide, ⟨by decide, by decide⟩, by decide +kernel⟩
theorem kc_117 : kx_cal 117 prog_11_method_31_code 7 (Option.some Jvm.ClassFile.FieldType.boolean) 2 := ⟨kw_1176, kw_89, by decide, ⟨by decide, by decide⟩, by decide +kernel⟩
theorem kc_118 : kx_cal 118 prog_11_method_30_code 2 (Option.some Jvm.ClassFile.FieldType.boolean) 1 := ⟨kw_1180, kw_89, by decide, ⟨by decide, by decide⟩, by decide +kernel⟩
theorem kc_119 : kx_cal 119 prog_11_method_32_code 3 (Option.some Jvm.ClassFile.FieldType.boolean) 1 := ⟨kw_1184, kw_89, by decide, ⟨by decide, by decide⟩, by decide +kernel⟩
theorem kc_120 : kx_cal 120 prog_11_method_33_code 2 (Option.some Jvm.ClassFile.FieldType.int) 0 := ⟨kw_1188, kw_89, by decide, ⟨by decide, by decide⟩, by decide +kernel⟩
theorem kc_121 : kx_cal 121 prog_11_method_34_code 1 (Option.some Jvm.ClassFile.FieldType.int) 0 := ⟨kw_1192, kw_89, by decide, ⟨by decide, by decide⟩, by decide +kernel⟩
theorem kc_122 : kx_cal 122 prog_11_method_35_code 3 (Option.some Jvm.ClassFile.FieldType.int) 0 := ⟨kw_1196, kw_89, by decide, ⟨by decide, by decide⟩, by decide +kernel⟩
theorem kc_123 : kx_cal 123 prog_11_method_36_code 3 (Option.some Jvm.ClassFile.FieldType.int) 1 := ⟨kw_1200, kw_89, by decide, ⟨by decide, by decide⟩, by decide +kernel⟩
theorem kc_124 : kx_cal 124 prog_11_method_38_code 3 (Option.some Jvm.ClassFile.FieldType.int) 2 := ⟨kw_1205, kw_89, by decide, ⟨by decide, by decide⟩, by decide +kernel⟩
theorem kc_125 : kx_cal 125 prog_11_method_37_code 2 (Option.some Jvm.ClassFile.FieldType.boolean) 1 := ⟨kw_1209, kw_89, by decide, ⟨by decide, by decide⟩, by decide +kernel⟩
theorem kc_126 : kx_cal 126 prog_11_method_47_code 3 (Option.some Jvm.ClassFile.FieldType.boolean) 1 := ⟨kw_1213, kw_89, by decide, ⟨by decide, by decide⟩, by decide +kernel⟩
theorem kc_127 : kx_cal 127 prog_11_method_46_code 5 (Option.some Jvm.ClassFile.FieldType.boolean) 4 := ⟨kw_1217, kw_89, by decide, ⟨by decide, by decide⟩, by decide +kernel⟩
theorem kc_128 : kx_cal 128 prog_11_method_41_code 4 (Option.none : Option Jvm.ClassFile.FieldType) 3 := ⟨kw_1221, kw_89, by decide, ⟨by decide, by decide⟩, by decide +kernel⟩
theorem kc_129 : kx_cal 129 prog_11_method_44_code 3 (Option.none : Option Jvm.ClassFile.FieldType) 1 := ⟨kw_1225, kw_89, by decide, ⟨by decide, by decide⟩, by decide +kernel⟩
theorem kc_130 : kx_cal 130 prog_11_method_39_code 4 (Option.some Jvm.ClassFile.FieldType.int) 2 := ⟨kw_1229, kw_89, by decide, ⟨by decide, by decide⟩, by decide +kernel⟩
theorem kc_131 : kx_cal 131 prog_11_method_42_code 4 (Option.none : Option Jvm.ClassFile.FieldType) 2 := ⟨kw_1233, kw_89, by decide, ⟨by decide, by decide⟩, by decide +kernel⟩
theorem kc_132 : kx_cal 132 prog_11_method_40_code 4 (Option.some Jvm.ClassFile.FieldType.int) 1 := ⟨kw_1237, kw_89, by decide, ⟨by decide, by decide⟩, by decide +kernel⟩
theorem kc_133 : kx_cal 133 prog_11_method_48_code 3 (Option.some Jvm.ClassFile.FieldType.boolean) 1 := ⟨kw_1241, kw_89, by decide, ⟨by decide, by decide⟩, by decide +kernel⟩
theorem kc_134 : kx_cal 134 prog_11_method_49_code 4 (Option.none : Option Jvm.ClassFile.FieldType) 1 := ⟨kw_1245, kw_89, by decide, ⟨by decide, by decide⟩, by decide +kernel⟩
theorem kc_135 : kx_cal 135 prog_11_method_50_code 3 (Option.none : Option Jvm.ClassFile.FieldType) 1 := ⟨kw_1249, kw_89, by decide, ⟨by decide, by decide⟩, by decide +kernel⟩
theorem kc_136 : kx_cal 136 prog_11_method_51_code 3 (Option.none : Option Jvm.ClassFile.FieldType) 1 := ⟨kw_1253, kw_89, by decide, ⟨by decide, by decide⟩, by decide +kernel⟩
theorem kc_137 : kx_cal 137 prog_11_method_52_code 3 (Option.none : Option Jvm.ClassFile.FieldType) 2 := ⟨kw_1257, kw_89, by decide, ⟨by decide, by decide⟩, by decide +kernel⟩
theorem kc_138 : kx_cal 138 prog_11_method_43_code 4 (Option.none : Option Jvm.ClassFile.FieldType) 2 := ⟨kw_1261, kw_89, by decide, ⟨by decide, by decide⟩, by decide +kernel⟩
theorem kc_139 : kx_cal 139 prog_11_method_45_code 5 (Option.none : Option Jvm.ClassFile.FieldType) 1 := ⟨kw_1265, kw_89, by decide, ⟨by decide, by decide⟩, by decide +kernel⟩
theorem kc_140 : kx_cal 140 prog_11_method_53_code 7 (Option.none : Option Jvm.ClassFile.FieldType) 2 := ⟨kw_1269, kw_89, by decide, ⟨by decide, by decide⟩, by decide +kernel⟩
theorem kc_141 : kx_cal 141 prog_11_method_54_code 4 (Option.some Jvm.ClassFile.FieldType.int) 1 := ⟨kw_1273, kw_89, by decide, ⟨by decide, by decide⟩, by decide +kernel⟩
theorem kc_142 : kx_cal 142 prog_11_method_55_code 1 (Option.some Jvm.ClassFile.FieldType.int) 0 := ⟨kw_1277, kw_89, by decide, ⟨by decide, by decide⟩, by decide +kernel⟩
theorem kc_143 : kx_cal 143 prog_11_method_57_code 4 (Option.some Jvm.ClassFile.FieldType.int) 2 := ⟨kw_1281, kw_89, by decide, ⟨by decide, by decide⟩, by decide +kernel⟩
theorem kc_144 : kx_cal 144 prog_11_method_56_code 2 (Option.some Jvm.ClassFile.FieldType.boolean) 1 := ⟨kw_1285, kw_89, by decide, ⟨by decide, by decide⟩, by decide +kernel⟩
theorem kc_145 : kx_cal 145 prog_11_method_58_code 2 (Option.some Jvm.ClassFile.FieldType.long) 1 := ⟨kw_1289, kw_89, by decide, ⟨by decide, by decide⟩, by decide +kernel⟩
theorem kc_146 : kx_cal 146 prog_11_method_59_code 5 (Option.some Jvm.ClassFile.FieldType.int) 2 := ⟨kw_1293, kw_89, by decide, ⟨by decide, by decide⟩, by decide +kernel⟩
theorem kc_147 : kx_cal 147 prog_11_method_60_code 3 (Option.some Jvm.ClassFile.FieldType.int) 2 := ⟨kw_1297, kw_89, by decide, ⟨by decide, by decide⟩, by decide +kernel⟩
theorem kc_148 : kx_cal 148 prog_11_method_61_code 1 (Option.some Jvm.ClassFile.FieldType.long) 0 := ⟨kw_1301, kw_89, by decide, ⟨by decide, by decide⟩, by decide +kernel⟩
theorem kc_149 : kx_cal 149 prog_11_method_62_code 2 (Option.some Jvm.ClassFile.FieldType.int) 1 := ⟨kw_1305, kw_89, by decide, ⟨by decide, by decide⟩, by decide +kernel⟩
theorem kc_150 : kx_cal 150 prog_11_method_63_code 3 (Option.some Jvm.ClassFile.FieldType.int) 0 := ⟨kw_1309, kw_89, by decide, ⟨by decide, by decide⟩, by decide +kernel⟩
theorem kc_151 : kx_cal 151 prog_11_method_64_code 3 (Option.some Jvm.ClassFile.FieldType.int) 0 := ⟨kw_1313, kw_89, by decide, ⟨by decide, by decide⟩, by decide +kernel⟩
theorem kx_cov {lo hi : Int} {cs : List (Int32 × kx_F)} (n : Nat) (h : lo = 0 ∧ hi = n - 1 ∧ n < 100) {vs : List Int32} (hcs : cs.map (fun q => q.1) = vs) (hm : vs = (List.range n).map (fun i => Int32.ofNat i)) : ∀ x : Int32, (∀ q ∈ cs, ¬ x = q.1) → x.toInt < lo ∨ hi < x.toInt := by
  obtain ⟨rfl, rfl, h3⟩ := h
  intro x hx
  by_cases h1 : x.toInt < 0
  · exact Or.inl h1
  · by_cases h2 : (n : Int) - 1 < x.toInt
    · exact Or.inr h2
    · exfalso
      have e1 : x = Int32.ofNat x.toInt.toNat := Int32.toInt_inj.mp (by
        have z := nI_toInt (n := x.toInt.toNat) (by omega)
        unfold nI at z
        rw [z]
        omega)
      have hmem : Int32.ofNat x.toInt.toNat ∈ cs.map (fun q => q.1) := by
        rw [hcs, hm]
        exact List.mem_map.mpr ⟨x.toInt.toNat, List.mem_range.mpr (by omega), rfl⟩
      obtain ⟨q, hq, e2⟩ := List.mem_map.mp hmem
      exact hx q hq (e1.trans e2.symm)
theorem kx_lcov_2 {a1 o1 a2 o2 dflt : Int} {x1 x2 : Int32} {f1 f2 : kx_F} (h1 : x1.toInt = a1) (h2 : x2.toInt = a2) : ∀ x : Int32, (∀ q ∈ [(x1, f1), (x2, f2)], ¬ x = q.1) → Op.lookupswitch.offset (#[(a1, o1), (a2, o2)] : Array (Int × Int)).toList dflt x.toInt = dflt := by
  intro x hx
  show Op.lookupswitch.offset [(a1, o1), (a2, o2)] dflt x.toInt = dflt
  rw [lv_osw (hx (x1, f1) List.mem_cons_self) h1, lv_osw (hx (x2, f2) (List.mem_cons_of_mem _ List.mem_cons_self)) h2]
  rfl
