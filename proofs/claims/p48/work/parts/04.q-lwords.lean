theorem wm_L_7 : Cond.methodLink RL 7 yX6_truncateInput ∈ WT := wt_in 1064 (by decide +kernel) (by decide +kernel)
theorem wc_X6_truncateInput : Cond.code yX6_truncateInput cX6_truncateInput 3 (some .int) ∈ WT := wt_in 1067 (by decide +kernel) (by decide +kernel)
theorem hy_X6_truncateInput : (yX6_truncateInput.cls = RX6 ∧ yX6_truncateInput.cls ≠ "java/lang/invoke/MethodHandle" ∧ yX6_truncateInput.cls ≠ "java/lang/invoke/VarHandle" ∧ (parseMethodDescriptor yX6_truncateInput.desc).map (fun d => d.parameters.length) = some 1) := by decide +kernel
theorem wi_X6_truncateInput : Cond.instanceMethod yX6_truncateInput ∈ WT := wt_in 1065 (by decide +kernel) (by decide +kernel)
theorem ws_X6_truncateInput : Cond.selects RX6 yX6_truncateInput yX6_truncateInput ∈ WT := wt_in 1066 (by decide +kernel) (by decide +kernel)
theorem kl_L_7 : CLV RL RX6 6 7 yX6_truncateInput cX6_truncateInput 3 (some .int) 1 := ⟨⟨_, _, rfl⟩, wm_L_7, wi_X6_truncateInput, ws_X6_truncateInput, wn_X6, wc_X6_truncateInput, hy_X6_truncateInput⟩
theorem wl_L_13 : Cond.classLink RL 13 (exN 0) ∈ WT := wt_in 1063 (by decide +kernel) (by decide +kernel)
theorem wm_L_15 : Cond.methodLink RL 15 yX6_addNote ∈ WT := wt_in 1339 (by decide +kernel) (by decide +kernel)
theorem wc_X6_addNote : Cond.code yX6_addNote cX6_addNote 8 (some .int) ∈ WT := wt_in 1342 (by decide +kernel) (by decide +kernel)
theorem hy_X6_addNote : (yX6_addNote.cls = RX6 ∧ yX6_addNote.cls ≠ "java/lang/invoke/MethodHandle" ∧ yX6_addNote.cls ≠ "java/lang/invoke/VarHandle" ∧ (parseMethodDescriptor yX6_addNote.desc).map (fun d => d.parameters.length) = some 6) := by decide +kernel
theorem wi_X6_addNote : Cond.instanceMethod yX6_addNote ∈ WT := wt_in 1340 (by decide +kernel) (by decide +kernel)
theorem ws_X6_addNote : Cond.selects RX6 yX6_addNote yX6_addNote ∈ WT := wt_in 1341 (by decide +kernel) (by decide +kernel)
theorem kl_L_15 : CLV RL RX6 6 15 yX6_addNote cX6_addNote 8 (some .int) 6 := ⟨⟨_, _, rfl⟩, wm_L_15, wi_X6_addNote, ws_X6_addNote, wn_X6, wc_X6_addNote, hy_X6_addNote⟩
theorem wl_L_19 : Cond.classLink RL 19 (exN 1) ∈ WT := wt_in 1024 (by decide +kernel) (by decide +kernel)
theorem wm_L_21 : Cond.methodLink RL 21 yX6_clarify ∈ WT := wt_in 1306 (by decide +kernel) (by decide +kernel)
theorem wc_X6_clarify : Cond.code yX6_clarify cX6_clarify 5 (some .int) ∈ WT := wt_in 1309 (by decide +kernel) (by decide +kernel)
theorem hy_X6_clarify : (yX6_clarify.cls = RX6 ∧ yX6_clarify.cls ≠ "java/lang/invoke/MethodHandle" ∧ yX6_clarify.cls ≠ "java/lang/invoke/VarHandle" ∧ (parseMethodDescriptor yX6_clarify.desc).map (fun d => d.parameters.length) = some 3) := by decide +kernel
theorem wi_X6_clarify : Cond.instanceMethod yX6_clarify ∈ WT := wt_in 1307 (by decide +kernel) (by decide +kernel)
theorem ws_X6_clarify : Cond.selects RX6 yX6_clarify yX6_clarify ∈ WT := wt_in 1308 (by decide +kernel) (by decide +kernel)
theorem kl_L_21 : CLV RL RX6 6 21 yX6_clarify cX6_clarify 5 (some .int) 3 := ⟨⟨_, _, rfl⟩, wm_L_21, wi_X6_clarify, ws_X6_clarify, wn_X6, wc_X6_clarify, hy_X6_clarify⟩
theorem wl_L_25 : Cond.classLink RL 25 (exN 2) ∈ WT := wt_in 1114 (by decide +kernel) (by decide +kernel)
theorem wm_L_27 : Cond.methodLink RL 27 yX6_dropNote ∈ WT := wt_in 1025 (by decide +kernel) (by decide +kernel)
theorem wc_X6_dropNote : Cond.code yX6_dropNote cX6_dropNote 1 (some .int) ∈ WT := wt_in 1028 (by decide +kernel) (by decide +kernel)
theorem hy_X6_dropNote : (yX6_dropNote.cls = RX6 ∧ yX6_dropNote.cls ≠ "java/lang/invoke/MethodHandle" ∧ yX6_dropNote.cls ≠ "java/lang/invoke/VarHandle" ∧ (parseMethodDescriptor yX6_dropNote.desc).map (fun d => d.parameters.length) = some 0) := by decide +kernel
theorem wi_X6_dropNote : Cond.instanceMethod yX6_dropNote ∈ WT := wt_in 1026 (by decide +kernel) (by decide +kernel)
theorem ws_X6_dropNote : Cond.selects RX6 yX6_dropNote yX6_dropNote ∈ WT := wt_in 1027 (by decide +kernel) (by decide +kernel)
theorem kl_L_27 : CLV RL RX6 6 27 yX6_dropNote cX6_dropNote 1 (some .int) 0 := ⟨⟨_, _, rfl⟩, wm_L_27, wi_X6_dropNote, ws_X6_dropNote, wn_X6, wc_X6_dropNote, hy_X6_dropNote⟩
theorem wm_L_31 : Cond.methodLink RL 31 yX6_undo ∈ WT := wt_in 1052 (by decide +kernel) (by decide +kernel)
theorem wc_X6_undo : Cond.code yX6_undo cX6_undo 2 (some .int) ∈ WT := wt_in 1055 (by decide +kernel) (by decide +kernel)
theorem hy_X6_undo : (yX6_undo.cls = RX6 ∧ yX6_undo.cls ≠ "java/lang/invoke/MethodHandle" ∧ yX6_undo.cls ≠ "java/lang/invoke/VarHandle" ∧ (parseMethodDescriptor yX6_undo.desc).map (fun d => d.parameters.length) = some 0) := by decide +kernel
theorem wi_X6_undo : Cond.instanceMethod yX6_undo ∈ WT := wt_in 1053 (by decide +kernel) (by decide +kernel)
theorem ws_X6_undo : Cond.selects RX6 yX6_undo yX6_undo ∈ WT := wt_in 1054 (by decide +kernel) (by decide +kernel)
theorem kl_L_31 : CLV RL RX6 6 31 yX6_undo cX6_undo 2 (some .int) 0 := ⟨⟨_, _, rfl⟩, wm_L_31, wi_X6_undo, ws_X6_undo, wn_X6, wc_X6_undo, hy_X6_undo⟩
theorem wm_L_34 : Cond.methodLink RL 34 yX6_noteKind ∈ WT := wt_in 1347 (by decide +kernel) (by decide +kernel)
theorem wc_X6_noteKind : Cond.code yX6_noteKind cX6_noteKind 2 (some .int) ∈ WT := wt_in 1350 (by decide +kernel) (by decide +kernel)
theorem hy_X6_noteKind : (yX6_noteKind.cls = RX6 ∧ yX6_noteKind.cls ≠ "java/lang/invoke/MethodHandle" ∧ yX6_noteKind.cls ≠ "java/lang/invoke/VarHandle" ∧ (parseMethodDescriptor yX6_noteKind.desc).map (fun d => d.parameters.length) = some 1) := by decide +kernel
theorem wi_X6_noteKind : Cond.instanceMethod yX6_noteKind ∈ WT := wt_in 1348 (by decide +kernel) (by decide +kernel)
theorem ws_X6_noteKind : Cond.selects RX6 yX6_noteKind yX6_noteKind ∈ WT := wt_in 1349 (by decide +kernel) (by decide +kernel)
theorem kl_L_34 : CLV RL RX6 6 34 yX6_noteKind cX6_noteKind 2 (some .int) 1 := ⟨⟨_, _, rfl⟩, wm_L_34, wi_X6_noteKind, ws_X6_noteKind, wn_X6, wc_X6_noteKind, hy_X6_noteKind⟩
theorem wm_L_37 : Cond.methodLink RL 37 yX6_noteFromColumn ∈ WT := wt_in 1250 (by decide +kernel) (by decide +kernel)
theorem wc_X6_noteFromColumn : Cond.code yX6_noteFromColumn cX6_noteFromColumn 2 (some .int) ∈ WT := wt_in 1253 (by decide +kernel) (by decide +kernel)
theorem hy_X6_noteFromColumn : (yX6_noteFromColumn.cls = RX6 ∧ yX6_noteFromColumn.cls ≠ "java/lang/invoke/MethodHandle" ∧ yX6_noteFromColumn.cls ≠ "java/lang/invoke/VarHandle" ∧ (parseMethodDescriptor yX6_noteFromColumn.desc).map (fun d => d.parameters.length) = some 1) := by decide +kernel
theorem wi_X6_noteFromColumn : Cond.instanceMethod yX6_noteFromColumn ∈ WT := wt_in 1251 (by decide +kernel) (by decide +kernel)
theorem ws_X6_noteFromColumn : Cond.selects RX6 yX6_noteFromColumn yX6_noteFromColumn ∈ WT := wt_in 1252 (by decide +kernel) (by decide +kernel)
theorem kl_L_37 : CLV RL RX6 6 37 yX6_noteFromColumn cX6_noteFromColumn 2 (some .int) 1 := ⟨⟨_, _, rfl⟩, wm_L_37, wi_X6_noteFromColumn, ws_X6_noteFromColumn, wn_X6, wc_X6_noteFromColumn, hy_X6_noteFromColumn⟩
theorem wm_L_40 : Cond.methodLink RL 40 yX6_noteFromRow ∈ WT := wt_in 1257 (by decide +kernel) (by decide +kernel)
theorem wc_X6_noteFromRow : Cond.code yX6_noteFromRow cX6_noteFromRow 2 (some .int) ∈ WT := wt_in 1260 (by decide +kernel) (by decide +kernel)
theorem hy_X6_noteFromRow : (yX6_noteFromRow.cls = RX6 ∧ yX6_noteFromRow.cls ≠ "java/lang/invoke/MethodHandle" ∧ yX6_noteFromRow.cls ≠ "java/lang/invoke/VarHandle" ∧ (parseMethodDescriptor yX6_noteFromRow.desc).map (fun d => d.parameters.length) = some 1) := by decide +kernel
theorem wi_X6_noteFromRow : Cond.instanceMethod yX6_noteFromRow ∈ WT := wt_in 1258 (by decide +kernel) (by decide +kernel)
theorem ws_X6_noteFromRow : Cond.selects RX6 yX6_noteFromRow yX6_noteFromRow ∈ WT := wt_in 1259 (by decide +kernel) (by decide +kernel)
theorem kl_L_40 : CLV RL RX6 6 40 yX6_noteFromRow cX6_noteFromRow 2 (some .int) 1 := ⟨⟨_, _, rfl⟩, wm_L_40, wi_X6_noteFromRow, ws_X6_noteFromRow, wn_X6, wc_X6_noteFromRow, hy_X6_noteFromRow⟩
theorem wm_L_43 : Cond.methodLink RL 43 yX6_noteToColumn ∈ WT := wt_in 1264 (by decide +kernel) (by decide +kernel)
theorem wc_X6_noteToColumn : Cond.code yX6_noteToColumn cX6_noteToColumn 2 (some .int) ∈ WT := wt_in 1267 (by decide +kernel) (by decide +kernel)
theorem hy_X6_noteToColumn : (yX6_noteToColumn.cls = RX6 ∧ yX6_noteToColumn.cls ≠ "java/lang/invoke/MethodHandle" ∧ yX6_noteToColumn.cls ≠ "java/lang/invoke/VarHandle" ∧ (parseMethodDescriptor yX6_noteToColumn.desc).map (fun d => d.parameters.length) = some 1) := by decide +kernel
theorem wi_X6_noteToColumn : Cond.instanceMethod yX6_noteToColumn ∈ WT := wt_in 1265 (by decide +kernel) (by decide +kernel)
theorem ws_X6_noteToColumn : Cond.selects RX6 yX6_noteToColumn yX6_noteToColumn ∈ WT := wt_in 1266 (by decide +kernel) (by decide +kernel)
theorem kl_L_43 : CLV RL RX6 6 43 yX6_noteToColumn cX6_noteToColumn 2 (some .int) 1 := ⟨⟨_, _, rfl⟩, wm_L_43, wi_X6_noteToColumn, ws_X6_noteToColumn, wn_X6, wc_X6_noteToColumn, hy_X6_noteToColumn⟩
theorem wm_L_46 : Cond.methodLink RL 46 yX6_noteToRow ∈ WT := wt_in 1271 (by decide +kernel) (by decide +kernel)
theorem wc_X6_noteToRow : Cond.code yX6_noteToRow cX6_noteToRow 2 (some .int) ∈ WT := wt_in 1274 (by decide +kernel) (by decide +kernel)
theorem hy_X6_noteToRow : (yX6_noteToRow.cls = RX6 ∧ yX6_noteToRow.cls ≠ "java/lang/invoke/MethodHandle" ∧ yX6_noteToRow.cls ≠ "java/lang/invoke/VarHandle" ∧ (parseMethodDescriptor yX6_noteToRow.desc).map (fun d => d.parameters.length) = some 1) := by decide +kernel
theorem wi_X6_noteToRow : Cond.instanceMethod yX6_noteToRow ∈ WT := wt_in 1272 (by decide +kernel) (by decide +kernel)
theorem ws_X6_noteToRow : Cond.selects RX6 yX6_noteToRow yX6_noteToRow ∈ WT := wt_in 1273 (by decide +kernel) (by decide +kernel)
theorem kl_L_46 : CLV RL RX6 6 46 yX6_noteToRow cX6_noteToRow 2 (some .int) 1 := ⟨⟨_, _, rfl⟩, wm_L_46, wi_X6_noteToRow, ws_X6_noteToRow, wn_X6, wc_X6_noteToRow, hy_X6_noteToRow⟩
theorem wm_L_49 : Cond.methodLink RL 49 yX6_doubt ∈ WT := wt_in 1192 (by decide +kernel) (by decide +kernel)
theorem wc_X6_doubt : Cond.code yX6_doubt cX6_doubt 2 (some .int) ∈ WT := wt_in 1195 (by decide +kernel) (by decide +kernel)
theorem hy_X6_doubt : (yX6_doubt.cls = RX6 ∧ yX6_doubt.cls ≠ "java/lang/invoke/MethodHandle" ∧ yX6_doubt.cls ≠ "java/lang/invoke/VarHandle" ∧ (parseMethodDescriptor yX6_doubt.desc).map (fun d => d.parameters.length) = some 1) := by decide +kernel
theorem wi_X6_doubt : Cond.instanceMethod yX6_doubt ∈ WT := wt_in 1193 (by decide +kernel) (by decide +kernel)
theorem ws_X6_doubt : Cond.selects RX6 yX6_doubt yX6_doubt ∈ WT := wt_in 1194 (by decide +kernel) (by decide +kernel)
theorem kl_L_49 : CLV RL RX6 6 49 yX6_doubt cX6_doubt 2 (some .int) 1 := ⟨⟨_, _, rfl⟩, wm_L_49, wi_X6_doubt, ws_X6_doubt, wn_X6, wc_X6_doubt, hy_X6_doubt⟩
theorem wm_L_52 : Cond.methodLink RL 52 yX6_noteTakes ∈ WT := wt_in 1354 (by decide +kernel) (by decide +kernel)
theorem wc_X6_noteTakes : Cond.code yX6_noteTakes cX6_noteTakes 2 (some .boolean) ∈ WT := wt_in 1357 (by decide +kernel) (by decide +kernel)
theorem hy_X6_noteTakes : (yX6_noteTakes.cls = RX6 ∧ yX6_noteTakes.cls ≠ "java/lang/invoke/MethodHandle" ∧ yX6_noteTakes.cls ≠ "java/lang/invoke/VarHandle" ∧ (parseMethodDescriptor yX6_noteTakes.desc).map (fun d => d.parameters.length) = some 1) := by decide +kernel
theorem wi_X6_noteTakes : Cond.instanceMethod yX6_noteTakes ∈ WT := wt_in 1355 (by decide +kernel) (by decide +kernel)
theorem ws_X6_noteTakes : Cond.selects RX6 yX6_noteTakes yX6_noteTakes ∈ WT := wt_in 1356 (by decide +kernel) (by decide +kernel)
theorem kl_L_52 : CLV RL RX6 6 52 yX6_noteTakes cX6_noteTakes 2 (some .boolean) 1 := ⟨⟨_, _, rfl⟩, wm_L_52, wi_X6_noteTakes, ws_X6_noteTakes, wn_X6, wc_X6_noteTakes, hy_X6_noteTakes⟩
theorem wm_L_56 : Cond.methodLink RL 56 yX6_positionsAfter ∈ WT := wt_in 1098 (by decide +kernel) (by decide +kernel)
theorem wc_X6_positionsAfter : Cond.code yX6_positionsAfter cX6_positionsAfter 2 (some .int) ∈ WT := wt_in 1101 (by decide +kernel) (by decide +kernel)
theorem hy_X6_positionsAfter : (yX6_positionsAfter.cls = RX6 ∧ yX6_positionsAfter.cls ≠ "java/lang/invoke/MethodHandle" ∧ yX6_positionsAfter.cls ≠ "java/lang/invoke/VarHandle" ∧ (parseMethodDescriptor yX6_positionsAfter.desc).map (fun d => d.parameters.length) = some 1) := by decide +kernel
theorem wi_X6_positionsAfter : Cond.instanceMethod yX6_positionsAfter ∈ WT := wt_in 1099 (by decide +kernel) (by decide +kernel)
theorem ws_X6_positionsAfter : Cond.selects RX6 yX6_positionsAfter yX6_positionsAfter ∈ WT := wt_in 1100 (by decide +kernel) (by decide +kernel)
theorem kl_L_56 : CLV RL RX6 6 56 yX6_positionsAfter cX6_positionsAfter 2 (some .int) 1 := ⟨⟨_, _, rfl⟩, wm_L_56, wi_X6_positionsAfter, ws_X6_positionsAfter, wn_X6, wc_X6_positionsAfter, hy_X6_positionsAfter⟩
theorem wm_L_59 : Cond.methodLink RL 59 yX6_kindAt ∈ WT := wt_in 1115 (by decide +kernel) (by decide +kernel)
theorem wc_X6_kindAt : Cond.code yX6_kindAt cX6_kindAt 4 (some .int) ∈ WT := wt_in 1118 (by decide +kernel) (by decide +kernel)
theorem hy_X6_kindAt : (yX6_kindAt.cls = RX6 ∧ yX6_kindAt.cls ≠ "java/lang/invoke/MethodHandle" ∧ yX6_kindAt.cls ≠ "java/lang/invoke/VarHandle" ∧ (parseMethodDescriptor yX6_kindAt.desc).map (fun d => d.parameters.length) = some 3) := by decide +kernel
theorem wi_X6_kindAt : Cond.instanceMethod yX6_kindAt ∈ WT := wt_in 1116 (by decide +kernel) (by decide +kernel)
theorem ws_X6_kindAt : Cond.selects RX6 yX6_kindAt yX6_kindAt ∈ WT := wt_in 1117 (by decide +kernel) (by decide +kernel)
theorem kl_L_59 : CLV RL RX6 6 59 yX6_kindAt cX6_kindAt 4 (some .int) 3 := ⟨⟨_, _, rfl⟩, wm_L_59, wi_X6_kindAt, ws_X6_kindAt, wn_X6, wc_X6_kindAt, hy_X6_kindAt⟩
theorem wm_L_62 : Cond.methodLink RL 62 yX6_colourAt ∈ WT := wt_in 1151 (by decide +kernel) (by decide +kernel)
theorem wc_X6_colourAt : Cond.code yX6_colourAt cX6_colourAt 4 (some .int) ∈ WT := wt_in 1154 (by decide +kernel) (by decide +kernel)
theorem hy_X6_colourAt : (yX6_colourAt.cls = RX6 ∧ yX6_colourAt.cls ≠ "java/lang/invoke/MethodHandle" ∧ yX6_colourAt.cls ≠ "java/lang/invoke/VarHandle" ∧ (parseMethodDescriptor yX6_colourAt.desc).map (fun d => d.parameters.length) = some 3) := by decide +kernel
theorem wi_X6_colourAt : Cond.instanceMethod yX6_colourAt ∈ WT := wt_in 1152 (by decide +kernel) (by decide +kernel)
theorem ws_X6_colourAt : Cond.selects RX6 yX6_colourAt yX6_colourAt ∈ WT := wt_in 1153 (by decide +kernel) (by decide +kernel)
theorem kl_L_62 : CLV RL RX6 6 62 yX6_colourAt cX6_colourAt 4 (some .int) 3 := ⟨⟨_, _, rfl⟩, wm_L_62, wi_X6_colourAt, ws_X6_colourAt, wn_X6, wc_X6_colourAt, hy_X6_colourAt⟩
theorem wm_L_65 : Cond.methodLink RL 65 yX6_isAttacked ∈ WT := wt_in 1164 (by decide +kernel) (by decide +kernel)
theorem wc_X6_isAttacked : Cond.code yX6_isAttacked cX6_isAttacked 5 (some .boolean) ∈ WT := wt_in 1167 (by decide +kernel) (by decide +kernel)
theorem hy_X6_isAttacked : (yX6_isAttacked.cls = RX6 ∧ yX6_isAttacked.cls ≠ "java/lang/invoke/MethodHandle" ∧ yX6_isAttacked.cls ≠ "java/lang/invoke/VarHandle" ∧ (parseMethodDescriptor yX6_isAttacked.desc).map (fun d => d.parameters.length) = some 4) := by decide +kernel
theorem wi_X6_isAttacked : Cond.instanceMethod yX6_isAttacked ∈ WT := wt_in 1165 (by decide +kernel) (by decide +kernel)
theorem ws_X6_isAttacked : Cond.selects RX6 yX6_isAttacked yX6_isAttacked ∈ WT := wt_in 1166 (by decide +kernel) (by decide +kernel)
theorem kl_L_65 : CLV RL RX6 6 65 yX6_isAttacked cX6_isAttacked 5 (some .boolean) 4 := ⟨⟨_, _, rfl⟩, wm_L_65, wi_X6_isAttacked, ws_X6_isAttacked, wn_X6, wc_X6_isAttacked, hy_X6_isAttacked⟩
theorem wm_L_69 : Cond.methodLink RL 69 yX6_gamesTo ∈ WT := wt_in 1179 (by decide +kernel) (by decide +kernel)
theorem wc_X6_gamesTo : Cond.code yX6_gamesTo cX6_gamesTo 2 (some .long) ∈ WT := wt_in 1182 (by decide +kernel) (by decide +kernel)
theorem hy_X6_gamesTo : (yX6_gamesTo.cls = RX6 ∧ yX6_gamesTo.cls ≠ "java/lang/invoke/MethodHandle" ∧ yX6_gamesTo.cls ≠ "java/lang/invoke/VarHandle" ∧ (parseMethodDescriptor yX6_gamesTo.desc).map (fun d => d.parameters.length) = some 1) := by decide +kernel
theorem wi_X6_gamesTo : Cond.instanceMethod yX6_gamesTo ∈ WT := wt_in 1180 (by decide +kernel) (by decide +kernel)
theorem ws_X6_gamesTo : Cond.selects RX6 yX6_gamesTo yX6_gamesTo ∈ WT := wt_in 1181 (by decide +kernel) (by decide +kernel)
theorem kl_L_69 : CLV RL RX6 6 69 yX6_gamesTo cX6_gamesTo 2 (some .long) 1 := ⟨⟨_, _, rfl⟩, wm_L_69, wi_X6_gamesTo, ws_X6_gamesTo, wn_X6, wc_X6_gamesTo, hy_X6_gamesTo⟩
theorem wK_L_73 : Cond.constantLong RL 73 (-17) ∈ WT := wt_in 1184 (by decide +kernel) (by decide +kernel)
theorem wm_L_75 : Cond.methodLink RL 75 yX6_moveOrigin ∈ WT := wt_in 1220 (by decide +kernel) (by decide +kernel)
theorem wc_X6_moveOrigin : Cond.code yX6_moveOrigin cX6_moveOrigin 3 (some .int) ∈ WT := wt_in 1223 (by decide +kernel) (by decide +kernel)
theorem hy_X6_moveOrigin : (yX6_moveOrigin.cls = RX6 ∧ yX6_moveOrigin.cls ≠ "java/lang/invoke/MethodHandle" ∧ yX6_moveOrigin.cls ≠ "java/lang/invoke/VarHandle" ∧ (parseMethodDescriptor yX6_moveOrigin.desc).map (fun d => d.parameters.length) = some 2) := by decide +kernel
theorem wi_X6_moveOrigin : Cond.instanceMethod yX6_moveOrigin ∈ WT := wt_in 1221 (by decide +kernel) (by decide +kernel)
theorem ws_X6_moveOrigin : Cond.selects RX6 yX6_moveOrigin yX6_moveOrigin ∈ WT := wt_in 1222 (by decide +kernel) (by decide +kernel)
theorem kl_L_75 : CLV RL RX6 6 75 yX6_moveOrigin cX6_moveOrigin 3 (some .int) 2 := ⟨⟨_, _, rfl⟩, wm_L_75, wi_X6_moveOrigin, ws_X6_moveOrigin, wn_X6, wc_X6_moveOrigin, hy_X6_moveOrigin⟩
theorem wm_L_79 : Cond.methodLink RL 79 yX6_moveTarget ∈ WT := wt_in 1236 (by decide +kernel) (by decide +kernel)
theorem wc_X6_moveTarget : Cond.code yX6_moveTarget cX6_moveTarget 3 (some .int) ∈ WT := wt_in 1239 (by decide +kernel) (by decide +kernel)
theorem hy_X6_moveTarget : (yX6_moveTarget.cls = RX6 ∧ yX6_moveTarget.cls ≠ "java/lang/invoke/MethodHandle" ∧ yX6_moveTarget.cls ≠ "java/lang/invoke/VarHandle" ∧ (parseMethodDescriptor yX6_moveTarget.desc).map (fun d => d.parameters.length) = some 2) := by decide +kernel
theorem wi_X6_moveTarget : Cond.instanceMethod yX6_moveTarget ∈ WT := wt_in 1237 (by decide +kernel) (by decide +kernel)
theorem ws_X6_moveTarget : Cond.selects RX6 yX6_moveTarget yX6_moveTarget ∈ WT := wt_in 1238 (by decide +kernel) (by decide +kernel)
theorem kl_L_79 : CLV RL RX6 6 79 yX6_moveTarget cX6_moveTarget 3 (some .int) 2 := ⟨⟨_, _, rfl⟩, wm_L_79, wi_X6_moveTarget, ws_X6_moveTarget, wn_X6, wc_X6_moveTarget, hy_X6_moveTarget⟩
theorem wm_L_82 : Cond.methodLink RL 82 yX6_gamesWithMove ∈ WT := wt_in 1243 (by decide +kernel) (by decide +kernel)
theorem wc_X6_gamesWithMove : Cond.code yX6_gamesWithMove cX6_gamesWithMove 3 (some .long) ∈ WT := wt_in 1246 (by decide +kernel) (by decide +kernel)
theorem hy_X6_gamesWithMove : (yX6_gamesWithMove.cls = RX6 ∧ yX6_gamesWithMove.cls ≠ "java/lang/invoke/MethodHandle" ∧ yX6_gamesWithMove.cls ≠ "java/lang/invoke/VarHandle" ∧ (parseMethodDescriptor yX6_gamesWithMove.desc).map (fun d => d.parameters.length) = some 2) := by decide +kernel
theorem wi_X6_gamesWithMove : Cond.instanceMethod yX6_gamesWithMove ∈ WT := wt_in 1244 (by decide +kernel) (by decide +kernel)
theorem ws_X6_gamesWithMove : Cond.selects RX6 yX6_gamesWithMove yX6_gamesWithMove ∈ WT := wt_in 1245 (by decide +kernel) (by decide +kernel)
theorem kl_L_82 : CLV RL RX6 6 82 yX6_gamesWithMove cX6_gamesWithMove 3 (some .long) 2 := ⟨⟨_, _, rfl⟩, wm_L_82, wi_X6_gamesWithMove, ws_X6_gamesWithMove, wn_X6, wc_X6_gamesWithMove, hy_X6_gamesWithMove⟩
theorem wm_L_86 : Cond.methodLink RL 86 yX6_gamesIfNoted ∈ WT := wt_in 1321 (by decide +kernel) (by decide +kernel)
theorem wc_X6_gamesIfNoted : Cond.code yX6_gamesIfNoted cX6_gamesIfNoted 8 (some .long) ∈ WT := wt_in 1324 (by decide +kernel) (by decide +kernel)
theorem hy_X6_gamesIfNoted : (yX6_gamesIfNoted.cls = RX6 ∧ yX6_gamesIfNoted.cls ≠ "java/lang/invoke/MethodHandle" ∧ yX6_gamesIfNoted.cls ≠ "java/lang/invoke/VarHandle" ∧ (parseMethodDescriptor yX6_gamesIfNoted.desc).map (fun d => d.parameters.length) = some 6) := by decide +kernel
theorem wi_X6_gamesIfNoted : Cond.instanceMethod yX6_gamesIfNoted ∈ WT := wt_in 1322 (by decide +kernel) (by decide +kernel)
theorem ws_X6_gamesIfNoted : Cond.selects RX6 yX6_gamesIfNoted yX6_gamesIfNoted ∈ WT := wt_in 1323 (by decide +kernel) (by decide +kernel)
theorem kl_L_86 : CLV RL RX6 6 86 yX6_gamesIfNoted cX6_gamesIfNoted 8 (some .long) 6 := ⟨⟨_, _, rfl⟩, wm_L_86, wi_X6_gamesIfNoted, ws_X6_gamesIfNoted, wn_X6, wc_X6_gamesIfNoted, hy_X6_gamesIfNoted⟩
theorem wK_L_90 : Cond.constantLong RL 90 (-18) ∈ WT := wt_in 1335 (by decide +kernel) (by decide +kernel)
theorem wk_L_114 : Cond.constant RL 114 (1103515245) ∈ WT := wt_in 1091 (by decide +kernel) (by decide +kernel)
theorem wm_L_92 : Cond.methodLink RL 92 yJ0_length_8abf5 ∈ WT := wt_in 1071 (by decide +kernel) (by decide +kernel)
theorem klh_L_92 : CLV RL RJ0 7 92 yJ0_length_8abf5 cJ0_length_8abf5 1 (some .int) 0 := ⟨⟨_, _, rfl⟩, wm_L_92, wi_J0_length_8abf5, ws_J0_length_8abf5, wn_J0, wc_J0_length_8abf5, hy_J0_length_8abf5⟩
theorem wm_L_97 : Cond.methodLink RL 97 yJ0_charAt_5068e ∈ WT := wt_in 1075 (by decide +kernel) (by decide +kernel)
theorem klh_L_97 : CLV RL RJ0 7 97 yJ0_charAt_5068e cJ0_charAt_5068e 2 (some .char) 1 := ⟨⟨_, _, rfl⟩, wm_L_97, wi_J0_charAt_5068e, ws_J0_charAt_5068e, wn_J0, wc_J0_charAt_5068e, hy_J0_charAt_5068e⟩
theorem wm_L_101 : Cond.methodLink RL 101 yL_truncateInput ∈ WT := wt_in 1060 (by decide +kernel) (by decide +kernel)
theorem wn_L : Cond.initialized RL ∈ WT := wt_in 35 (by decide +kernel) (by decide +kernel)
theorem wt_L_truncateInput : Cond.static yL_truncateInput ∈ WT := wt_in 1061 (by decide +kernel) (by decide +kernel)
theorem hy_L_truncateInput : (yL_truncateInput.cls = RL ∧ yL_truncateInput.cls ≠ "java/lang/invoke/MethodHandle" ∧ yL_truncateInput.cls ≠ "java/lang/invoke/VarHandle" ∧ (parseMethodDescriptor yL_truncateInput.desc).map (fun d => d.parameters.length) = some 2) := by decide +kernel
theorem wcw_L_truncateInput : Cond.codeWith yL_truncateInput cL_truncateInput 3 (some .int) [(0, 5, 6, 13)] ∈ WT := wt_in 1062 (by decide +kernel) (by decide +kernel)
theorem kl_L_101 : CLL RL 101 yL_truncateInput cL_truncateInput 3 .int [(0, 5, 6, 13)] 2 := ⟨wm_L_101, wt_L_truncateInput, wn_L, wcw_L_truncateInput, hy_L_truncateInput.2⟩
theorem wm_L_106 : Cond.methodLink RL 106 yL_word ∈ WT := wt_in 1072 (by decide +kernel) (by decide +kernel)
theorem wt_L_word : Cond.static yL_word ∈ WT := wt_in 1073 (by decide +kernel) (by decide +kernel)
theorem hy_L_word : (yL_word.cls = RL ∧ yL_word.cls ≠ "java/lang/invoke/MethodHandle" ∧ yL_word.cls ≠ "java/lang/invoke/VarHandle" ∧ (parseMethodDescriptor yL_word.desc).map (fun d => d.parameters.length) = some 2) := by decide +kernel
theorem wc_L_word : Cond.code yL_word cL_word 4 (some .int) ∈ WT := wt_in 1074 (by decide +kernel) (by decide +kernel)
theorem kl_L_106 : CLS RL 106 yL_word cL_word 4 (some .int) 2 := ⟨wm_L_106, wt_L_word, wn_L, wc_L_word, hy_L_word.2⟩
theorem wm_L_110 : Cond.methodLink RL 110 yX6_append ∈ WT := wt_in 1076 (by decide +kernel) (by decide +kernel)
theorem wc_X6_append : Cond.code yX6_append cX6_append 7 (some .int) ∈ WT := wt_in 1079 (by decide +kernel) (by decide +kernel)
theorem hy_X6_append : (yX6_append.cls = RX6 ∧ yX6_append.cls ≠ "java/lang/invoke/MethodHandle" ∧ yX6_append.cls ≠ "java/lang/invoke/VarHandle" ∧ (parseMethodDescriptor yX6_append.desc).map (fun d => d.parameters.length) = some 5) := by decide +kernel
theorem wi_X6_append : Cond.instanceMethod yX6_append ∈ WT := wt_in 1077 (by decide +kernel) (by decide +kernel)
theorem ws_X6_append : Cond.selects RX6 yX6_append yX6_append ∈ WT := wt_in 1078 (by decide +kernel) (by decide +kernel)
theorem kl_L_110 : CLV RL RX6 6 110 yX6_append cX6_append 7 (some .int) 5 := ⟨⟨_, _, rfl⟩, wm_L_110, wi_X6_append, ws_X6_append, wn_X6, wc_X6_append, hy_X6_append⟩
theorem wm_L_115 : Cond.methodLink RL 115 yX6_noteCount ∈ WT := wt_in 997 (by decide +kernel) (by decide +kernel)
theorem wc_X6_noteCount : Cond.code yX6_noteCount cX6_noteCount 1 (some .int) ∈ WT := wt_in 1000 (by decide +kernel) (by decide +kernel)
theorem hy_X6_noteCount : (yX6_noteCount.cls = RX6 ∧ yX6_noteCount.cls ≠ "java/lang/invoke/MethodHandle" ∧ yX6_noteCount.cls ≠ "java/lang/invoke/VarHandle" ∧ (parseMethodDescriptor yX6_noteCount.desc).map (fun d => d.parameters.length) = some 0) := by decide +kernel
theorem wi_X6_noteCount : Cond.instanceMethod yX6_noteCount ∈ WT := wt_in 998 (by decide +kernel) (by decide +kernel)
theorem ws_X6_noteCount : Cond.selects RX6 yX6_noteCount yX6_noteCount ∈ WT := wt_in 999 (by decide +kernel) (by decide +kernel)
theorem kl_L_115 : CLV RL RX6 6 115 yX6_noteCount cX6_noteCount 1 (some .int) 0 := ⟨⟨_, _, rfl⟩, wm_L_115, wi_X6_noteCount, ws_X6_noteCount, wn_X6, wc_X6_noteCount, hy_X6_noteCount⟩
theorem wm_L_118 : Cond.methodLink RL 118 yL_positionsAfter ∈ WT := wt_in 1095 (by decide +kernel) (by decide +kernel)
theorem wt_L_positionsAfter : Cond.static yL_positionsAfter ∈ WT := wt_in 1096 (by decide +kernel) (by decide +kernel)
theorem hy_L_positionsAfter : (yL_positionsAfter.cls = RL ∧ yL_positionsAfter.cls ≠ "java/lang/invoke/MethodHandle" ∧ yL_positionsAfter.cls ≠ "java/lang/invoke/VarHandle" ∧ (parseMethodDescriptor yL_positionsAfter.desc).map (fun d => d.parameters.length) = some 2) := by decide +kernel
theorem wcw_L_positionsAfter : Cond.codeWith yL_positionsAfter cL_positionsAfter 3 (some .int) [(0, 5, 6, 13)] ∈ WT := wt_in 1097 (by decide +kernel) (by decide +kernel)
theorem kl_L_118 : CLL RL 118 yL_positionsAfter cL_positionsAfter 3 .int [(0, 5, 6, 13)] 2 := ⟨wm_L_118, wt_L_positionsAfter, wn_L, wcw_L_positionsAfter, hy_L_positionsAfter.2⟩
theorem wm_L_140 : Cond.methodLink RL 140 yX6_gameCount ∈ WT := wt_in 1005 (by decide +kernel) (by decide +kernel)
theorem wc_X6_gameCount : Cond.code yX6_gameCount cX6_gameCount 1 (some .long) ∈ WT := wt_in 1008 (by decide +kernel) (by decide +kernel)
theorem hy_X6_gameCount : (yX6_gameCount.cls = RX6 ∧ yX6_gameCount.cls ≠ "java/lang/invoke/MethodHandle" ∧ yX6_gameCount.cls ≠ "java/lang/invoke/VarHandle" ∧ (parseMethodDescriptor yX6_gameCount.desc).map (fun d => d.parameters.length) = some 0) := by decide +kernel
theorem wi_X6_gameCount : Cond.instanceMethod yX6_gameCount ∈ WT := wt_in 1006 (by decide +kernel) (by decide +kernel)
theorem ws_X6_gameCount : Cond.selects RX6 yX6_gameCount yX6_gameCount ∈ WT := wt_in 1007 (by decide +kernel) (by decide +kernel)
theorem kl_L_140 : CLV RL RX6 6 140 yX6_gameCount cX6_gameCount 1 (some .long) 0 := ⟨⟨_, _, rfl⟩, wm_L_140, wi_X6_gameCount, ws_X6_gameCount, wn_X6, wc_X6_gameCount, hy_X6_gameCount⟩
theorem wm_L_144 : Cond.methodLink RL 144 yX6_isCertain ∈ WT := wt_in 1185 (by decide +kernel) (by decide +kernel)
theorem wc_X6_isCertain : Cond.code yX6_isCertain cX6_isCertain 1 (some .boolean) ∈ WT := wt_in 1188 (by decide +kernel) (by decide +kernel)
theorem hy_X6_isCertain : (yX6_isCertain.cls = RX6 ∧ yX6_isCertain.cls ≠ "java/lang/invoke/MethodHandle" ∧ yX6_isCertain.cls ≠ "java/lang/invoke/VarHandle" ∧ (parseMethodDescriptor yX6_isCertain.desc).map (fun d => d.parameters.length) = some 0) := by decide +kernel
theorem wi_X6_isCertain : Cond.instanceMethod yX6_isCertain ∈ WT := wt_in 1186 (by decide +kernel) (by decide +kernel)
theorem ws_X6_isCertain : Cond.selects RX6 yX6_isCertain yX6_isCertain ∈ WT := wt_in 1187 (by decide +kernel) (by decide +kernel)
theorem kl_L_144 : CLV RL RX6 6 144 yX6_isCertain cX6_isCertain 1 (some .boolean) 0 := ⟨⟨_, _, rfl⟩, wm_L_144, wi_X6_isCertain, ws_X6_isCertain, wn_X6, wc_X6_isCertain, hy_X6_isCertain⟩
theorem wm_L_166 : Cond.methodLink RL 166 yX6_mostDoubtfulNote ∈ WT := wt_in 1275 (by decide +kernel) (by decide +kernel)
theorem wc_X6_mostDoubtfulNote : Cond.code yX6_mostDoubtfulNote cX6_mostDoubtfulNote 5 (some .int) ∈ WT := wt_in 1278 (by decide +kernel) (by decide +kernel)
theorem hy_X6_mostDoubtfulNote : (yX6_mostDoubtfulNote.cls = RX6 ∧ yX6_mostDoubtfulNote.cls ≠ "java/lang/invoke/MethodHandle" ∧ yX6_mostDoubtfulNote.cls ≠ "java/lang/invoke/VarHandle" ∧ (parseMethodDescriptor yX6_mostDoubtfulNote.desc).map (fun d => d.parameters.length) = some 0) := by decide +kernel
theorem wi_X6_mostDoubtfulNote : Cond.instanceMethod yX6_mostDoubtfulNote ∈ WT := wt_in 1276 (by decide +kernel) (by decide +kernel)
theorem ws_X6_mostDoubtfulNote : Cond.selects RX6 yX6_mostDoubtfulNote yX6_mostDoubtfulNote ∈ WT := wt_in 1277 (by decide +kernel) (by decide +kernel)
theorem kl_L_166 : CLV RL RX6 6 166 yX6_mostDoubtfulNote cX6_mostDoubtfulNote 5 (some .int) 0 := ⟨⟨_, _, rfl⟩, wm_L_166, wi_X6_mostDoubtfulNote, ws_X6_mostDoubtfulNote, wn_X6, wc_X6_mostDoubtfulNote, hy_X6_mostDoubtfulNote⟩
theorem wm_L_169 : Cond.methodLink RL 169 yX6_inconsistencies ∈ WT := wt_in 1279 (by decide +kernel) (by decide +kernel)
theorem wc_X6_inconsistencies : Cond.code yX6_inconsistencies cX6_inconsistencies 5 (some .int) ∈ WT := wt_in 1282 (by decide +kernel) (by decide +kernel)
theorem hy_X6_inconsistencies : (yX6_inconsistencies.cls = RX6 ∧ yX6_inconsistencies.cls ≠ "java/lang/invoke/MethodHandle" ∧ yX6_inconsistencies.cls ≠ "java/lang/invoke/VarHandle" ∧ (parseMethodDescriptor yX6_inconsistencies.desc).map (fun d => d.parameters.length) = some 0) := by decide +kernel
theorem wi_X6_inconsistencies : Cond.instanceMethod yX6_inconsistencies ∈ WT := wt_in 1280 (by decide +kernel) (by decide +kernel)
theorem ws_X6_inconsistencies : Cond.selects RX6 yX6_inconsistencies yX6_inconsistencies ∈ WT := wt_in 1281 (by decide +kernel) (by decide +kernel)
theorem kl_L_169 : CLV RL RX6 6 169 yX6_inconsistencies cX6_inconsistencies 5 (some .int) 0 := ⟨⟨_, _, rfl⟩, wm_L_169, wi_X6_inconsistencies, ws_X6_inconsistencies, wn_X6, wc_X6_inconsistencies, hy_X6_inconsistencies⟩
theorem wm_L_148 : Cond.methodLink RL 148 yL_doubt ∈ WT := wt_in 1189 (by decide +kernel) (by decide +kernel)
theorem wt_L_doubt : Cond.static yL_doubt ∈ WT := wt_in 1190 (by decide +kernel) (by decide +kernel)
theorem hy_L_doubt : (yL_doubt.cls = RL ∧ yL_doubt.cls ≠ "java/lang/invoke/MethodHandle" ∧ yL_doubt.cls ≠ "java/lang/invoke/VarHandle" ∧ (parseMethodDescriptor yL_doubt.desc).map (fun d => d.parameters.length) = some 2) := by decide +kernel
theorem wcw_L_doubt : Cond.codeWith yL_doubt cL_doubt 3 (some .int) [(0, 5, 6, 25)] ∈ WT := wt_in 1191 (by decide +kernel) (by decide +kernel)
theorem kl_L_148 : CLL RL 148 yL_doubt cL_doubt 3 .int [(0, 5, 6, 25)] 2 := ⟨wm_L_148, wt_L_doubt, wn_L, wcw_L_doubt, hy_L_doubt.2⟩
theorem wm_L_150 : Cond.methodLink RL 150 yL_moveOrigin ∈ WT := wt_in 1217 (by decide +kernel) (by decide +kernel)
theorem wt_L_moveOrigin : Cond.static yL_moveOrigin ∈ WT := wt_in 1218 (by decide +kernel) (by decide +kernel)
theorem hy_L_moveOrigin : (yL_moveOrigin.cls = RL ∧ yL_moveOrigin.cls ≠ "java/lang/invoke/MethodHandle" ∧ yL_moveOrigin.cls ≠ "java/lang/invoke/VarHandle" ∧ (parseMethodDescriptor yL_moveOrigin.desc).map (fun d => d.parameters.length) = some 3) := by decide +kernel
theorem wcw_L_moveOrigin : Cond.codeWith yL_moveOrigin cL_moveOrigin 4 (some .int) [(0, 6, 7, 25)] ∈ WT := wt_in 1219 (by decide +kernel) (by decide +kernel)
theorem kl_L_150 : CLL RL 150 yL_moveOrigin cL_moveOrigin 4 .int [(0, 6, 7, 25)] 3 := ⟨wm_L_150, wt_L_moveOrigin, wn_L, wcw_L_moveOrigin, hy_L_moveOrigin.2⟩
theorem wm_L_153 : Cond.methodLink RL 153 yL_moveTarget ∈ WT := wt_in 1233 (by decide +kernel) (by decide +kernel)
theorem wt_L_moveTarget : Cond.static yL_moveTarget ∈ WT := wt_in 1234 (by decide +kernel) (by decide +kernel)
theorem hy_L_moveTarget : (yL_moveTarget.cls = RL ∧ yL_moveTarget.cls ≠ "java/lang/invoke/MethodHandle" ∧ yL_moveTarget.cls ≠ "java/lang/invoke/VarHandle" ∧ (parseMethodDescriptor yL_moveTarget.desc).map (fun d => d.parameters.length) = some 3) := by decide +kernel
theorem wcw_L_moveTarget : Cond.codeWith yL_moveTarget cL_moveTarget 4 (some .int) [(0, 6, 7, 25)] ∈ WT := wt_in 1235 (by decide +kernel) (by decide +kernel)
theorem kl_L_153 : CLL RL 153 yL_moveTarget cL_moveTarget 4 .int [(0, 6, 7, 25)] 3 := ⟨wm_L_153, wt_L_moveTarget, wn_L, wcw_L_moveTarget, hy_L_moveTarget.2⟩
theorem wm_L_155 : Cond.methodLink RL 155 yL_gamesWithMove ∈ WT := wt_in 1240 (by decide +kernel) (by decide +kernel)
theorem wt_L_gamesWithMove : Cond.static yL_gamesWithMove ∈ WT := wt_in 1241 (by decide +kernel) (by decide +kernel)
theorem hy_L_gamesWithMove : (yL_gamesWithMove.cls = RL ∧ yL_gamesWithMove.cls ≠ "java/lang/invoke/MethodHandle" ∧ yL_gamesWithMove.cls ≠ "java/lang/invoke/VarHandle" ∧ (parseMethodDescriptor yL_gamesWithMove.desc).map (fun d => d.parameters.length) = some 3) := by decide +kernel
theorem wcw_L_gamesWithMove : Cond.codeWith yL_gamesWithMove cL_gamesWithMove 4 (some .long) [(0, 6, 7, 25)] ∈ WT := wt_in 1242 (by decide +kernel) (by decide +kernel)
theorem kl_L_155 : CLL RL 155 yL_gamesWithMove cL_gamesWithMove 4 .long [(0, 6, 7, 25)] 3 := ⟨wm_L_155, wt_L_gamesWithMove, wn_L, wcw_L_gamesWithMove, hy_L_gamesWithMove.2⟩
theorem wm_L_158 : Cond.methodLink RL 158 yL_noteFromColumn ∈ WT := wt_in 1247 (by decide +kernel) (by decide +kernel)
theorem wt_L_noteFromColumn : Cond.static yL_noteFromColumn ∈ WT := wt_in 1248 (by decide +kernel) (by decide +kernel)
theorem hy_L_noteFromColumn : (yL_noteFromColumn.cls = RL ∧ yL_noteFromColumn.cls ≠ "java/lang/invoke/MethodHandle" ∧ yL_noteFromColumn.cls ≠ "java/lang/invoke/VarHandle" ∧ (parseMethodDescriptor yL_noteFromColumn.desc).map (fun d => d.parameters.length) = some 2) := by decide +kernel
theorem wcw_L_noteFromColumn : Cond.codeWith yL_noteFromColumn cL_noteFromColumn 3 (some .int) [(0, 5, 6, 25)] ∈ WT := wt_in 1249 (by decide +kernel) (by decide +kernel)
theorem kl_L_158 : CLL RL 158 yL_noteFromColumn cL_noteFromColumn 3 .int [(0, 5, 6, 25)] 2 := ⟨wm_L_158, wt_L_noteFromColumn, wn_L, wcw_L_noteFromColumn, hy_L_noteFromColumn.2⟩
theorem wm_L_160 : Cond.methodLink RL 160 yL_noteFromRow ∈ WT := wt_in 1254 (by decide +kernel) (by decide +kernel)
theorem wt_L_noteFromRow : Cond.static yL_noteFromRow ∈ WT := wt_in 1255 (by decide +kernel) (by decide +kernel)
theorem hy_L_noteFromRow : (yL_noteFromRow.cls = RL ∧ yL_noteFromRow.cls ≠ "java/lang/invoke/MethodHandle" ∧ yL_noteFromRow.cls ≠ "java/lang/invoke/VarHandle" ∧ (parseMethodDescriptor yL_noteFromRow.desc).map (fun d => d.parameters.length) = some 2) := by decide +kernel
theorem wcw_L_noteFromRow : Cond.codeWith yL_noteFromRow cL_noteFromRow 3 (some .int) [(0, 5, 6, 25)] ∈ WT := wt_in 1256 (by decide +kernel) (by decide +kernel)
theorem kl_L_160 : CLL RL 160 yL_noteFromRow cL_noteFromRow 3 .int [(0, 5, 6, 25)] 2 := ⟨wm_L_160, wt_L_noteFromRow, wn_L, wcw_L_noteFromRow, hy_L_noteFromRow.2⟩
theorem wm_L_162 : Cond.methodLink RL 162 yL_noteToColumn ∈ WT := wt_in 1261 (by decide +kernel) (by decide +kernel)
theorem wt_L_noteToColumn : Cond.static yL_noteToColumn ∈ WT := wt_in 1262 (by decide +kernel) (by decide +kernel)
theorem hy_L_noteToColumn : (yL_noteToColumn.cls = RL ∧ yL_noteToColumn.cls ≠ "java/lang/invoke/MethodHandle" ∧ yL_noteToColumn.cls ≠ "java/lang/invoke/VarHandle" ∧ (parseMethodDescriptor yL_noteToColumn.desc).map (fun d => d.parameters.length) = some 2) := by decide +kernel
theorem wcw_L_noteToColumn : Cond.codeWith yL_noteToColumn cL_noteToColumn 3 (some .int) [(0, 5, 6, 25)] ∈ WT := wt_in 1263 (by decide +kernel) (by decide +kernel)
theorem kl_L_162 : CLL RL 162 yL_noteToColumn cL_noteToColumn 3 .int [(0, 5, 6, 25)] 2 := ⟨wm_L_162, wt_L_noteToColumn, wn_L, wcw_L_noteToColumn, hy_L_noteToColumn.2⟩
theorem wm_L_164 : Cond.methodLink RL 164 yL_noteToRow ∈ WT := wt_in 1268 (by decide +kernel) (by decide +kernel)
theorem wt_L_noteToRow : Cond.static yL_noteToRow ∈ WT := wt_in 1269 (by decide +kernel) (by decide +kernel)
theorem hy_L_noteToRow : (yL_noteToRow.cls = RL ∧ yL_noteToRow.cls ≠ "java/lang/invoke/MethodHandle" ∧ yL_noteToRow.cls ≠ "java/lang/invoke/VarHandle" ∧ (parseMethodDescriptor yL_noteToRow.desc).map (fun d => d.parameters.length) = some 2) := by decide +kernel
theorem wcw_L_noteToRow : Cond.codeWith yL_noteToRow cL_noteToRow 3 (some .int) [(0, 5, 6, 25)] ∈ WT := wt_in 1270 (by decide +kernel) (by decide +kernel)
theorem kl_L_164 : CLL RL 164 yL_noteToRow cL_noteToRow 3 .int [(0, 5, 6, 25)] 2 := ⟨wm_L_164, wt_L_noteToRow, wn_L, wcw_L_noteToRow, hy_L_noteToRow.2⟩
theorem wm_L_123 : Cond.methodLink RL 123 yX6_columns ∈ WT := wt_in 1107 (by decide +kernel) (by decide +kernel)
theorem wc_X6_columns : Cond.code yX6_columns cX6_columns 1 (some .int) ∈ WT := wt_in 1110 (by decide +kernel) (by decide +kernel)
theorem hy_X6_columns : (yX6_columns.cls = RX6 ∧ yX6_columns.cls ≠ "java/lang/invoke/MethodHandle" ∧ yX6_columns.cls ≠ "java/lang/invoke/VarHandle" ∧ (parseMethodDescriptor yX6_columns.desc).map (fun d => d.parameters.length) = some 0) := by decide +kernel
theorem wi_X6_columns : Cond.instanceMethod yX6_columns ∈ WT := wt_in 1108 (by decide +kernel) (by decide +kernel)
theorem ws_X6_columns : Cond.selects RX6 yX6_columns yX6_columns ∈ WT := wt_in 1109 (by decide +kernel) (by decide +kernel)
theorem kl_L_123 : CLV RL RX6 6 123 yX6_columns cX6_columns 1 (some .int) 0 := ⟨⟨_, _, rfl⟩, wm_L_123, wi_X6_columns, ws_X6_columns, wn_X6, wc_X6_columns, hy_X6_columns⟩
theorem wm_L_120 : Cond.methodLink RL 120 yX6_rows ∈ WT := wt_in 1103 (by decide +kernel) (by decide +kernel)
theorem wc_X6_rows : Cond.code yX6_rows cX6_rows 1 (some .int) ∈ WT := wt_in 1106 (by decide +kernel) (by decide +kernel)
theorem hy_X6_rows : (yX6_rows.cls = RX6 ∧ yX6_rows.cls ≠ "java/lang/invoke/MethodHandle" ∧ yX6_rows.cls ≠ "java/lang/invoke/VarHandle" ∧ (parseMethodDescriptor yX6_rows.desc).map (fun d => d.parameters.length) = some 0) := by decide +kernel
theorem wi_X6_rows : Cond.instanceMethod yX6_rows ∈ WT := wt_in 1104 (by decide +kernel) (by decide +kernel)
theorem ws_X6_rows : Cond.selects RX6 yX6_rows yX6_rows ∈ WT := wt_in 1105 (by decide +kernel) (by decide +kernel)
theorem kl_L_120 : CLV RL RX6 6 120 yX6_rows cX6_rows 1 (some .int) 0 := ⟨⟨_, _, rfl⟩, wm_L_120, wi_X6_rows, ws_X6_rows, wn_X6, wc_X6_rows, hy_X6_rows⟩
theorem wm_L_137 : Cond.methodLink RL 137 yL_gamesTo ∈ WT := wt_in 1176 (by decide +kernel) (by decide +kernel)
theorem wt_L_gamesTo : Cond.static yL_gamesTo ∈ WT := wt_in 1177 (by decide +kernel) (by decide +kernel)
theorem hy_L_gamesTo : (yL_gamesTo.cls = RL ∧ yL_gamesTo.cls ≠ "java/lang/invoke/MethodHandle" ∧ yL_gamesTo.cls ≠ "java/lang/invoke/VarHandle" ∧ (parseMethodDescriptor yL_gamesTo.desc).map (fun d => d.parameters.length) = some 2) := by decide +kernel
theorem wcw_L_gamesTo : Cond.codeWith yL_gamesTo cL_gamesTo 3 (some .long) [(0, 5, 6, 25)] ∈ WT := wt_in 1178 (by decide +kernel) (by decide +kernel)
theorem kl_L_137 : CLL RL 137 yL_gamesTo cL_gamesTo 3 .long [(0, 5, 6, 25)] 2 := ⟨wm_L_137, wt_L_gamesTo, wn_L, wcw_L_gamesTo, hy_L_gamesTo.2⟩
theorem wm_L_131 : Cond.methodLink RL 131 yX6_colourToMove ∈ WT := wt_in 1156 (by decide +kernel) (by decide +kernel)
theorem wc_X6_colourToMove : Cond.code yX6_colourToMove cX6_colourToMove 1 (some .int) ∈ WT := wt_in 1159 (by decide +kernel) (by decide +kernel)
theorem hy_X6_colourToMove : (yX6_colourToMove.cls = RX6 ∧ yX6_colourToMove.cls ≠ "java/lang/invoke/MethodHandle" ∧ yX6_colourToMove.cls ≠ "java/lang/invoke/VarHandle" ∧ (parseMethodDescriptor yX6_colourToMove.desc).map (fun d => d.parameters.length) = some 0) := by decide +kernel
theorem wi_X6_colourToMove : Cond.instanceMethod yX6_colourToMove ∈ WT := wt_in 1157 (by decide +kernel) (by decide +kernel)
theorem ws_X6_colourToMove : Cond.selects RX6 yX6_colourToMove yX6_colourToMove ∈ WT := wt_in 1158 (by decide +kernel) (by decide +kernel)
theorem kl_L_131 : CLV RL RX6 6 131 yX6_colourToMove cX6_colourToMove 1 (some .int) 0 := ⟨⟨_, _, rfl⟩, wm_L_131, wi_X6_colourToMove, ws_X6_colourToMove, wn_X6, wc_X6_colourToMove, hy_X6_colourToMove⟩
theorem wm_L_134 : Cond.methodLink RL 134 yL_isAttacked ∈ WT := wt_in 1161 (by decide +kernel) (by decide +kernel)
theorem wt_L_isAttacked : Cond.static yL_isAttacked ∈ WT := wt_in 1162 (by decide +kernel) (by decide +kernel)
theorem hy_L_isAttacked : (yL_isAttacked.cls = RL ∧ yL_isAttacked.cls ≠ "java/lang/invoke/MethodHandle" ∧ yL_isAttacked.cls ≠ "java/lang/invoke/VarHandle" ∧ (parseMethodDescriptor yL_isAttacked.desc).map (fun d => d.parameters.length) = some 5) := by decide +kernel
theorem wcw_L_isAttacked : Cond.codeWith yL_isAttacked cL_isAttacked 6 (some .int) [(0, 17, 18, 25), (0, 17, 23, 13)] ∈ WT := wt_in 1163 (by decide +kernel) (by decide +kernel)
theorem kl_L_134 : CLL RL 134 yL_isAttacked cL_isAttacked 6 .int [(0, 17, 18, 25), (0, 17, 23, 13)] 5 := ⟨wm_L_134, wt_L_isAttacked, wn_L, wcw_L_isAttacked, hy_L_isAttacked.2⟩
theorem wm_L_126 : Cond.methodLink RL 126 yL_kindAt ∈ WT := wt_in 1111 (by decide +kernel) (by decide +kernel)
theorem wt_L_kindAt : Cond.static yL_kindAt ∈ WT := wt_in 1112 (by decide +kernel) (by decide +kernel)
theorem hy_L_kindAt : (yL_kindAt.cls = RL ∧ yL_kindAt.cls ≠ "java/lang/invoke/MethodHandle" ∧ yL_kindAt.cls ≠ "java/lang/invoke/VarHandle" ∧ (parseMethodDescriptor yL_kindAt.desc).map (fun d => d.parameters.length) = some 4) := by decide +kernel
theorem wcw_L_kindAt : Cond.codeWith yL_kindAt cL_kindAt 5 (some .int) [(0, 7, 8, 25)] ∈ WT := wt_in 1113 (by decide +kernel) (by decide +kernel)
theorem kl_L_126 : CLL RL 126 yL_kindAt cL_kindAt 5 .int [(0, 7, 8, 25)] 4 := ⟨wm_L_126, wt_L_kindAt, wn_L, wcw_L_kindAt, hy_L_kindAt.2⟩
theorem wm_L_129 : Cond.methodLink RL 129 yL_colourAt ∈ WT := wt_in 1148 (by decide +kernel) (by decide +kernel)
theorem wt_L_colourAt : Cond.static yL_colourAt ∈ WT := wt_in 1149 (by decide +kernel) (by decide +kernel)
theorem hy_L_colourAt : (yL_colourAt.cls = RL ∧ yL_colourAt.cls ≠ "java/lang/invoke/MethodHandle" ∧ yL_colourAt.cls ≠ "java/lang/invoke/VarHandle" ∧ (parseMethodDescriptor yL_colourAt.desc).map (fun d => d.parameters.length) = some 4) := by decide +kernel
theorem wcw_L_colourAt : Cond.codeWith yL_colourAt cL_colourAt 5 (some .int) [(0, 7, 8, 25)] ∈ WT := wt_in 1150 (by decide +kernel) (by decide +kernel)
theorem kl_L_129 : CLL RL 129 yL_colourAt cL_colourAt 5 .int [(0, 7, 8, 25)] 4 := ⟨wm_L_129, wt_L_colourAt, wn_L, wcw_L_colourAt, hy_L_colourAt.2⟩
theorem wm_L_172 : Cond.methodLink RL 172 yL_draw ∈ WT := wt_in 1088 (by decide +kernel) (by decide +kernel)
theorem wt_L_draw : Cond.static yL_draw ∈ WT := wt_in 1089 (by decide +kernel) (by decide +kernel)
theorem hy_L_draw : (yL_draw.cls = RL ∧ yL_draw.cls ≠ "java/lang/invoke/MethodHandle" ∧ yL_draw.cls ≠ "java/lang/invoke/VarHandle" ∧ (parseMethodDescriptor yL_draw.desc).map (fun d => d.parameters.length) = some 2) := by decide +kernel
theorem wc_L_draw : Cond.code yL_draw cL_draw 2 (some .int) ∈ WT := wt_in 1090 (by decide +kernel) (by decide +kernel)
theorem kl_L_172 : CLS RL 172 yL_draw cL_draw 2 (some .int) 2 := ⟨wm_L_172, wt_L_draw, wn_L, wc_L_draw, hy_L_draw.2⟩
theorem wm_L_176 : Cond.methodLink RL 176 yL_gamesIfNoted ∈ WT := wt_in 1318 (by decide +kernel) (by decide +kernel)
theorem wt_L_gamesIfNoted : Cond.static yL_gamesIfNoted ∈ WT := wt_in 1319 (by decide +kernel) (by decide +kernel)
theorem hy_L_gamesIfNoted : (yL_gamesIfNoted.cls = RL ∧ yL_gamesIfNoted.cls ≠ "java/lang/invoke/MethodHandle" ∧ yL_gamesIfNoted.cls ≠ "java/lang/invoke/VarHandle" ∧ (parseMethodDescriptor yL_gamesIfNoted.desc).map (fun d => d.parameters.length) = some 7) := by decide +kernel
theorem wcw_L_gamesIfNoted : Cond.codeWith yL_gamesIfNoted cL_gamesIfNoted 8 (some .long) [(0, 13, 14, 13)] ∈ WT := wt_in 1320 (by decide +kernel) (by decide +kernel)
theorem kl_L_176 : CLL RL 176 yL_gamesIfNoted cL_gamesIfNoted 8 .long [(0, 13, 14, 13)] 7 := ⟨wm_L_176, wt_L_gamesIfNoted, wn_L, wcw_L_gamesIfNoted, hy_L_gamesIfNoted.2⟩
theorem wm_L_179 : Cond.methodLink RL 179 yL_addNote ∈ WT := wt_in 1336 (by decide +kernel) (by decide +kernel)
theorem wt_L_addNote : Cond.static yL_addNote ∈ WT := wt_in 1337 (by decide +kernel) (by decide +kernel)
theorem hy_L_addNote : (yL_addNote.cls = RL ∧ yL_addNote.cls ≠ "java/lang/invoke/MethodHandle" ∧ yL_addNote.cls ≠ "java/lang/invoke/VarHandle" ∧ (parseMethodDescriptor yL_addNote.desc).map (fun d => d.parameters.length) = some 7) := by decide +kernel
theorem wcw_L_addNote : Cond.codeWith yL_addNote cL_addNote 8 (some .int) [(0, 13, 14, 13), (0, 13, 19, 19)] ∈ WT := wt_in 1338 (by decide +kernel) (by decide +kernel)
theorem kl_L_179 : CLL RL 179 yL_addNote cL_addNote 8 .int [(0, 13, 14, 13), (0, 13, 19, 19)] 7 := ⟨wm_L_179, wt_L_addNote, wn_L, wcw_L_addNote, hy_L_addNote.2⟩
theorem wm_L_182 : Cond.methodLink RL 182 yL_noteKind ∈ WT := wt_in 1344 (by decide +kernel) (by decide +kernel)
theorem wt_L_noteKind : Cond.static yL_noteKind ∈ WT := wt_in 1345 (by decide +kernel) (by decide +kernel)
theorem hy_L_noteKind : (yL_noteKind.cls = RL ∧ yL_noteKind.cls ≠ "java/lang/invoke/MethodHandle" ∧ yL_noteKind.cls ≠ "java/lang/invoke/VarHandle" ∧ (parseMethodDescriptor yL_noteKind.desc).map (fun d => d.parameters.length) = some 2) := by decide +kernel
theorem wcw_L_noteKind : Cond.codeWith yL_noteKind cL_noteKind 3 (some .int) [(0, 5, 6, 25)] ∈ WT := wt_in 1346 (by decide +kernel) (by decide +kernel)
theorem kl_L_182 : CLL RL 182 yL_noteKind cL_noteKind 3 .int [(0, 5, 6, 25)] 2 := ⟨wm_L_182, wt_L_noteKind, wn_L, wcw_L_noteKind, hy_L_noteKind.2⟩
theorem wm_L_184 : Cond.methodLink RL 184 yL_noteTakes ∈ WT := wt_in 1351 (by decide +kernel) (by decide +kernel)
theorem wt_L_noteTakes : Cond.static yL_noteTakes ∈ WT := wt_in 1352 (by decide +kernel) (by decide +kernel)
theorem hy_L_noteTakes : (yL_noteTakes.cls = RL ∧ yL_noteTakes.cls ≠ "java/lang/invoke/MethodHandle" ∧ yL_noteTakes.cls ≠ "java/lang/invoke/VarHandle" ∧ (parseMethodDescriptor yL_noteTakes.desc).map (fun d => d.parameters.length) = some 2) := by decide +kernel
theorem wcw_L_noteTakes : Cond.codeWith yL_noteTakes cL_noteTakes 3 (some .int) [(0, 13, 14, 25)] ∈ WT := wt_in 1353 (by decide +kernel) (by decide +kernel)
theorem kl_L_184 : CLL RL 184 yL_noteTakes cL_noteTakes 3 .int [(0, 13, 14, 25)] 2 := ⟨wm_L_184, wt_L_noteTakes, wn_L, wcw_L_noteTakes, hy_L_noteTakes.2⟩
theorem wm_L_186 : Cond.methodLink RL 186 yL_dropNote ∈ WT := wt_in 1021 (by decide +kernel) (by decide +kernel)
theorem wt_L_dropNote : Cond.static yL_dropNote ∈ WT := wt_in 1022 (by decide +kernel) (by decide +kernel)
theorem hy_L_dropNote : (yL_dropNote.cls = RL ∧ yL_dropNote.cls ≠ "java/lang/invoke/MethodHandle" ∧ yL_dropNote.cls ≠ "java/lang/invoke/VarHandle" ∧ (parseMethodDescriptor yL_dropNote.desc).map (fun d => d.parameters.length) = some 1) := by decide +kernel
theorem wcw_L_dropNote : Cond.codeWith yL_dropNote cL_dropNote 2 (some .int) [(0, 4, 5, 19)] ∈ WT := wt_in 1023 (by decide +kernel) (by decide +kernel)
theorem kl_L_186 : CLL RL 186 yL_dropNote cL_dropNote 2 .int [(0, 4, 5, 19)] 1 := ⟨wm_L_186, wt_L_dropNote, wn_L, wcw_L_dropNote, hy_L_dropNote.2⟩
theorem wm_L_189 : Cond.methodLink RL 189 yL_clarify ∈ WT := wt_in 1303 (by decide +kernel) (by decide +kernel)
theorem wt_L_clarify : Cond.static yL_clarify ∈ WT := wt_in 1304 (by decide +kernel) (by decide +kernel)
theorem hy_L_clarify : (yL_clarify.cls = RL ∧ yL_clarify.cls ≠ "java/lang/invoke/MethodHandle" ∧ yL_clarify.cls ≠ "java/lang/invoke/VarHandle" ∧ (parseMethodDescriptor yL_clarify.desc).map (fun d => d.parameters.length) = some 4) := by decide +kernel
theorem wcw_L_clarify : Cond.codeWith yL_clarify cL_clarify 5 (some .int) [(0, 7, 8, 25), (0, 7, 13, 13), (0, 7, 18, 19)] ∈ WT := wt_in 1305 (by decide +kernel) (by decide +kernel)
theorem kl_L_189 : CLL RL 189 yL_clarify cL_clarify 5 .int [(0, 7, 8, 25), (0, 7, 13, 13), (0, 7, 18, 19)] 4 := ⟨wm_L_189, wt_L_clarify, wn_L, wcw_L_clarify, hy_L_clarify.2⟩
theorem wm_L_191 : Cond.methodLink RL 191 yL_notes ∈ WT := wt_in 1315 (by decide +kernel) (by decide +kernel)
theorem wt_L_notes : Cond.static yL_notes ∈ WT := wt_in 1316 (by decide +kernel) (by decide +kernel)
theorem hy_L_notes : (yL_notes.cls = RL ∧ yL_notes.cls ≠ "java/lang/invoke/MethodHandle" ∧ yL_notes.cls ≠ "java/lang/invoke/VarHandle" ∧ (parseMethodDescriptor yL_notes.desc).map (fun d => d.parameters.length) = some 2) := by decide +kernel
theorem wc_L_notes : Cond.code yL_notes cL_notes 15 (some .boolean) ∈ WT := wt_in 1317 (by decide +kernel) (by decide +kernel)
theorem kl_L_191 : CLS RL 191 yL_notes cL_notes 15 (some .boolean) 2 := ⟨wm_L_191, wt_L_notes, wn_L, wc_L_notes, hy_L_notes.2⟩
theorem wm_L_240 : Cond.methodLink RL 240 yL_isGame ∈ WT := wt_in 1092 (by decide +kernel) (by decide +kernel)
theorem wt_L_isGame : Cond.static yL_isGame ∈ WT := wt_in 1093 (by decide +kernel) (by decide +kernel)
theorem hy_L_isGame : (yL_isGame.cls = RL ∧ yL_isGame.cls ≠ "java/lang/invoke/MethodHandle" ∧ yL_isGame.cls ≠ "java/lang/invoke/VarHandle" ∧ (parseMethodDescriptor yL_isGame.desc).map (fun d => d.parameters.length) = some 1) := by decide +kernel
theorem wc_L_isGame : Cond.code yL_isGame cL_isGame 14 (some .boolean) ∈ WT := wt_in 1094 (by decide +kernel) (by decide +kernel)
theorem kl_L_240 : CLS RL 240 yL_isGame cL_isGame 14 (some .boolean) 1 := ⟨wm_L_240, wt_L_isGame, wn_L, wc_L_isGame, hy_L_isGame.2⟩
theorem wm_L_244 : Cond.methodLink RL 244 yX6_undoableChanges ∈ WT := wt_in 1001 (by decide +kernel) (by decide +kernel)
theorem wc_X6_undoableChanges : Cond.code yX6_undoableChanges cX6_undoableChanges 1 (some .int) ∈ WT := wt_in 1004 (by decide +kernel) (by decide +kernel)
theorem hy_X6_undoableChanges : (yX6_undoableChanges.cls = RX6 ∧ yX6_undoableChanges.cls ≠ "java/lang/invoke/MethodHandle" ∧ yX6_undoableChanges.cls ≠ "java/lang/invoke/VarHandle" ∧ (parseMethodDescriptor yX6_undoableChanges.desc).map (fun d => d.parameters.length) = some 0) := by decide +kernel
theorem wi_X6_undoableChanges : Cond.instanceMethod yX6_undoableChanges ∈ WT := wt_in 1002 (by decide +kernel) (by decide +kernel)
theorem ws_X6_undoableChanges : Cond.selects RX6 yX6_undoableChanges yX6_undoableChanges ∈ WT := wt_in 1003 (by decide +kernel) (by decide +kernel)
theorem kl_L_244 : CLV RL RX6 6 244 yX6_undoableChanges cX6_undoableChanges 1 (some .int) 0 := ⟨⟨_, _, rfl⟩, wm_L_244, wi_X6_undoableChanges, ws_X6_undoableChanges, wn_X6, wc_X6_undoableChanges, hy_X6_undoableChanges⟩
theorem wm_L_247 : Cond.methodLink RL 247 yL_undo ∈ WT := wt_in 1049 (by decide +kernel) (by decide +kernel)
theorem wt_L_undo : Cond.static yL_undo ∈ WT := wt_in 1050 (by decide +kernel) (by decide +kernel)
theorem hy_L_undo : (yL_undo.cls = RL ∧ yL_undo.cls ≠ "java/lang/invoke/MethodHandle" ∧ yL_undo.cls ≠ "java/lang/invoke/VarHandle" ∧ (parseMethodDescriptor yL_undo.desc).map (fun d => d.parameters.length) = some 1) := by decide +kernel
theorem wcw_L_undo : Cond.codeWith yL_undo cL_undo 2 (some .int) [(0, 4, 5, 19)] ∈ WT := wt_in 1051 (by decide +kernel) (by decide +kernel)
theorem kl_L_247 : CLL RL 247 yL_undo cL_undo 2 .int [(0, 4, 5, 19)] 1 := ⟨wm_L_247, wt_L_undo, wn_L, wcw_L_undo, hy_L_undo.2⟩
theorem wm_L_249 : Cond.methodLink RL 249 Lib.Math.min.name ∈ WT := wt_in 1358 (by decide +kernel) (by decide +kernel)
theorem wm_L_237 : Cond.methodLink RL 237 yL_acts ∈ WT := wt_in 1300 (by decide +kernel) (by decide +kernel)
theorem wt_L_acts : Cond.static yL_acts ∈ WT := wt_in 1301 (by decide +kernel) (by decide +kernel)
theorem hy_L_acts : (yL_acts.cls = RL ∧ yL_acts.cls ≠ "java/lang/invoke/MethodHandle" ∧ yL_acts.cls ≠ "java/lang/invoke/VarHandle" ∧ (parseMethodDescriptor yL_acts.desc).map (fun d => d.parameters.length) = some 2) := by decide +kernel
theorem wc_L_acts : Cond.code yL_acts cL_acts 9 (some .boolean) ∈ WT := wt_in 1302 (by decide +kernel) (by decide +kernel)
theorem kl_L_237 : CLS RL 237 yL_acts cL_acts 9 (some .boolean) 2 := ⟨wm_L_237, wt_L_acts, wn_L, wc_L_acts, hy_L_acts.2⟩
theorem wl_L_93 : Cond.classLink RL 93 RJ0 ∈ WT := wt_in 1387 (by decide +kernel) (by decide +kernel)
theorem st_L_196 : (RL, 196, "king", 3) ∈ strTab := by decide +kernel
theorem st_L_198 : (RL, 198, "queen", 4) ∈ strTab := by decide +kernel
theorem st_L_200 : (RL, 200, "rook", 5) ∈ strTab := by decide +kernel
theorem st_L_202 : (RL, 202, "bishop", 6) ∈ strTab := by decide +kernel
theorem st_L_204 : (RL, 204, "knight", 7) ∈ strTab := by decide +kernel
theorem wl_L_206 : Cond.classLink RL 206 RJ4 ∈ WT := wt_in 1359 (by decide +kernel) (by decide +kernel)
theorem wx_X8 : Cond.instantiable RJ4 4 ∈ WT := wt_in 729 (by decide +kernel) (by decide +kernel)
theorem wn_X8 : Cond.initialized RJ4 ∈ WT := wt_in 46 (by decide +kernel) (by decide +kernel)
theorem df_X8 : ∀ j, j < 4 → defaultValue (tyJ4 j) = if (fk (8 + 10)).getD j false = true then .null else .int 0 := fun j hj => by
  rcases (show j = 0 ∨ j = 1 ∨ j = 2 ∨ j = 3 by omega) with rfl | rfl | rfl | rfl <;> rfl
theorem st_L_208 : (RL, 208, "board 4 4;white king 0 0;black king 3 3;", 34) ∈ strTab := by decide +kernel
theorem wc_J4_init_a7421 : Cond.code yJ4_init_a7421 cJ4_init_a7421 2 none ∈ WT := wt_in 1362 (by decide +kernel) (by decide +kernel)
theorem hy_J4_init_a7421 : (yJ4_init_a7421.cls = RJ4 ∧ yJ4_init_a7421.cls ≠ "java/lang/invoke/MethodHandle" ∧ yJ4_init_a7421.cls ≠ "java/lang/invoke/VarHandle" ∧ (parseMethodDescriptor yJ4_init_a7421.desc).map (fun d => d.parameters.length) = some 1) := by decide +kernel
theorem wi_J4_init_a7421 : Cond.instanceMethod yJ4_init_a7421 ∈ WT := wt_in 1361 (by decide +kernel) (by decide +kernel)
theorem wm_L_210 : Cond.methodLink RL 210 yJ4_init_a7421 ∈ WT := wt_in 1360 (by decide +kernel) (by decide +kernel)
theorem kl_L_210 : CLI RL 210 yJ4_init_a7421 cJ4_init_a7421 2 1 := ⟨Or.inl wm_L_210, wi_J4_init_a7421, wn_J4, wc_J4_init_a7421, rfl, hy_J4_init_a7421.2⟩
theorem wm_L_226 : Cond.methodLink RL 226 yJ4_toString_0e30d ∈ WT := wt_in 1386 (by decide +kernel) (by decide +kernel)
theorem wc_J4_toString_0e30d : Cond.code yJ4_toString_0e30d cJ4_toString_0e30d 1 (some (.object "java/lang/String")) ∈ WT := wt_in 880 (by decide +kernel) (by decide +kernel)
theorem hy_J4_toString_0e30d : (yJ4_toString_0e30d.cls = RJ4 ∧ yJ4_toString_0e30d.cls ≠ "java/lang/invoke/MethodHandle" ∧ yJ4_toString_0e30d.cls ≠ "java/lang/invoke/VarHandle" ∧ (parseMethodDescriptor yJ4_toString_0e30d.desc).map (fun d => d.parameters.length) = some 0) := by decide +kernel
theorem wi_J4_toString_0e30d : Cond.instanceMethod yJ4_toString_0e30d ∈ WT := wt_in 878 (by decide +kernel) (by decide +kernel)
theorem ws_J4_toString_0e30d : Cond.selects RJ4 yJ4_toString_0e30d yJ4_toString_0e30d ∈ WT := wt_in 879 (by decide +kernel) (by decide +kernel)
theorem kl_L_226 : CLV RL RJ4 8 226 yJ4_toString_0e30d cJ4_toString_0e30d 1 (some (.object "java/lang/String")) 0 := ⟨⟨_, _, rfl⟩, wm_L_226, wi_J4_toString_0e30d, ws_J4_toString_0e30d, wn_J4, wc_J4_toString_0e30d, hy_J4_toString_0e30d⟩
theorem wm_L_230 : Cond.methodLink RL 230 yL_write ∈ WT := wt_in 1057 (by decide +kernel) (by decide +kernel)
theorem wt_L_write : Cond.static yL_write ∈ WT := wt_in 1058 (by decide +kernel) (by decide +kernel)
theorem hy_L_write : (yL_write.cls = RL ∧ yL_write.cls ≠ "java/lang/invoke/MethodHandle" ∧ yL_write.cls ≠ "java/lang/invoke/VarHandle" ∧ (parseMethodDescriptor yL_write.desc).map (fun d => d.parameters.length) = some 2) := by decide +kernel
theorem wc_L_write : Cond.code yL_write cL_write 3 (some .boolean) ∈ WT := wt_in 1059 (by decide +kernel) (by decide +kernel)
theorem kl_L_230 : CLS RL 230 yL_write cL_write 3 (some .boolean) 2 := ⟨wm_L_230, wt_L_write, wn_L, wc_L_write, hy_L_write.2⟩
theorem wm_L_234 : Cond.methodLink RL 234 yX6_load ∈ WT := wt_in 389 (by decide +kernel) (by decide +kernel)
theorem wc_X6_load : Cond.code yX6_load cX6_load 2 (some .int) ∈ WT := wt_in 392 (by decide +kernel) (by decide +kernel)
theorem hy_X6_load : (yX6_load.cls = RX6 ∧ yX6_load.cls ≠ "java/lang/invoke/MethodHandle" ∧ yX6_load.cls ≠ "java/lang/invoke/VarHandle" ∧ (parseMethodDescriptor yX6_load.desc).map (fun d => d.parameters.length) = some 0) := by decide +kernel
theorem wi_X6_load : Cond.instanceMethod yX6_load ∈ WT := wt_in 390 (by decide +kernel) (by decide +kernel)
theorem ws_X6_load : Cond.selects RX6 yX6_load yX6_load ∈ WT := wt_in 391 (by decide +kernel) (by decide +kernel)
theorem kl_L_234 : CLV RL RX6 6 234 yX6_load cX6_load 2 (some .int) 0 := ⟨⟨_, _, rfl⟩, wm_L_234, wi_X6_load, ws_X6_load, wn_X6, wc_X6_load, hy_X6_load⟩
theorem st_L_215 : (RL, 215, "black ", 36) ∈ strTab := by decide +kernel
theorem wm_L_217 : Cond.methodLink RL 217 yJ4_append_15ec4 ∈ WT := wt_in 1371 (by decide +kernel) (by decide +kernel)
theorem kl_L_217 : CLV RL RJ4 8 217 yJ4_append_15ec4 cJ4_append_15ec4 2 (some (.object "java/lang/StringBuilder")) 1 := ⟨⟨_, _, rfl⟩, wm_L_217, wi_J4_append_15ec4, ws_J4_append_15ec4, wn_J4, wc_J4_append_15ec4, hy_J4_append_15ec4⟩
theorem wm_L_220 : Cond.methodLink RL 220 yJ4_append_cf468 ∈ WT := wt_in 1372 (by decide +kernel) (by decide +kernel)
theorem wc_J4_append_cf468 : Cond.code yJ4_append_cf468 cJ4_append_cf468 2 (some (.object "java/lang/StringBuilder")) ∈ WT := wt_in 1375 (by decide +kernel) (by decide +kernel)
theorem hy_J4_append_cf468 : (yJ4_append_cf468.cls = RJ4 ∧ yJ4_append_cf468.cls ≠ "java/lang/invoke/MethodHandle" ∧ yJ4_append_cf468.cls ≠ "java/lang/invoke/VarHandle" ∧ (parseMethodDescriptor yJ4_append_cf468.desc).map (fun d => d.parameters.length) = some 1) := by decide +kernel
theorem wi_J4_append_cf468 : Cond.instanceMethod yJ4_append_cf468 ∈ WT := wt_in 1373 (by decide +kernel) (by decide +kernel)
theorem ws_J4_append_cf468 : Cond.selects RJ4 yJ4_append_cf468 yJ4_append_cf468 ∈ WT := wt_in 1374 (by decide +kernel) (by decide +kernel)
theorem kl_L_220 : CLV RL RJ4 8 220 yJ4_append_cf468 cJ4_append_cf468 2 (some (.object "java/lang/StringBuilder")) 1 := ⟨⟨_, _, rfl⟩, wm_L_220, wi_J4_append_cf468, ws_J4_append_cf468, wn_J4, wc_J4_append_cf468, hy_J4_append_cf468⟩
theorem wm_L_223 : Cond.methodLink RL 223 yJ4_append_bf812 ∈ WT := wt_in 1385 (by decide +kernel) (by decide +kernel)
theorem wc_J4_append_bf812 : Cond.code yJ4_append_bf812 cJ4_append_bf812 2 (some (.object "java/lang/StringBuilder")) ∈ WT := wt_in 853 (by decide +kernel) (by decide +kernel)
theorem hy_J4_append_bf812 : (yJ4_append_bf812.cls = RJ4 ∧ yJ4_append_bf812.cls ≠ "java/lang/invoke/MethodHandle" ∧ yJ4_append_bf812.cls ≠ "java/lang/invoke/VarHandle" ∧ (parseMethodDescriptor yJ4_append_bf812.desc).map (fun d => d.parameters.length) = some 1) := by decide +kernel
theorem wi_J4_append_bf812 : Cond.instanceMethod yJ4_append_bf812 ∈ WT := wt_in 851 (by decide +kernel) (by decide +kernel)
theorem ws_J4_append_bf812 : Cond.selects RJ4 yJ4_append_bf812 yJ4_append_bf812 ∈ WT := wt_in 852 (by decide +kernel) (by decide +kernel)
theorem kl_L_223 : CLV RL RJ4 8 223 yJ4_append_bf812 cJ4_append_bf812 2 (some (.object "java/lang/StringBuilder")) 1 := ⟨⟨_, _, rfl⟩, wm_L_223, wi_J4_append_bf812, ws_J4_append_bf812, wn_J4, wc_J4_append_bf812, hy_J4_append_bf812⟩
theorem st_L_213 : (RL, 213, "white ", 35) ∈ strTab := by decide +kernel
