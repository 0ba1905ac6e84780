theorem wm_L_15 : Cond.methodLink RL 15 yX6_addNote ∈ WT := wt_in 1218 (by decide +kernel) (by decide +kernel)
theorem wc_X6_addNote : Cond.code yX6_addNote cX6_addNote 8 (some .int) ∈ WT := wt_in 1221 (by decide +kernel) (by decide +kernel)
theorem hy_X6_addNote : (yX6_addNote.cls = RX6 ∧ yX6_addNote.cls ≠ "java/lang/invoke/MethodHandle" ∧ yX6_addNote.cls ≠ "java/lang/invoke/VarHandle" ∧ (parseMethodDescriptor yX6_addNote.desc).map (fun d => d.parameters.length) = some 6) := by decide +kernel
theorem wi_X6_addNote : Cond.instanceMethod yX6_addNote ∈ WT := wt_in 1219 (by decide +kernel) (by decide +kernel)
theorem ws_X6_addNote : Cond.selects RX6 yX6_addNote yX6_addNote ∈ WT := wt_in 1220 (by decide +kernel) (by decide +kernel)
theorem kl_L_15 : CLV RL RX6 6 15 yX6_addNote cX6_addNote 8 (some .int) 6 := ⟨⟨_, _, rfl⟩, wm_L_15, wi_X6_addNote, ws_X6_addNote, wn_X6, wc_X6_addNote, hy_X6_addNote⟩
theorem wl_L_13 : Cond.classLink RL 13 (exN 0) ∈ WT := wt_in 1206 (by decide +kernel) (by decide +kernel)
theorem wl_L_19 : Cond.classLink RL 19 (exN 1) ∈ WT := wt_in 1217 (by decide +kernel) (by decide +kernel)
theorem wm_L_21 : Cond.methodLink RL 21 yX6_clarify ∈ WT := wt_in 1255 (by decide +kernel) (by decide +kernel)
theorem wc_X6_clarify : Cond.code yX6_clarify cX6_clarify 5 (some .int) ∈ WT := wt_in 1258 (by decide +kernel) (by decide +kernel)
theorem hy_X6_clarify : (yX6_clarify.cls = RX6 ∧ yX6_clarify.cls ≠ "java/lang/invoke/MethodHandle" ∧ yX6_clarify.cls ≠ "java/lang/invoke/VarHandle" ∧ (parseMethodDescriptor yX6_clarify.desc).map (fun d => d.parameters.length) = some 3) := by decide +kernel
theorem wi_X6_clarify : Cond.instanceMethod yX6_clarify ∈ WT := wt_in 1256 (by decide +kernel) (by decide +kernel)
theorem ws_X6_clarify : Cond.selects RX6 yX6_clarify yX6_clarify ∈ WT := wt_in 1257 (by decide +kernel) (by decide +kernel)
theorem kl_L_21 : CLV RL RX6 6 21 yX6_clarify cX6_clarify 5 (some .int) 3 := ⟨⟨_, _, rfl⟩, wm_L_21, wi_X6_clarify, ws_X6_clarify, wn_X6, wc_X6_clarify, hy_X6_clarify⟩
theorem wl_L_25 : Cond.classLink RL 25 (exN 2) ∈ WT := wt_in 1254 (by decide +kernel) (by decide +kernel)
theorem wm_L_68 : Cond.methodLink RL 68 yX6_colourAt ∈ WT := wt_in 1394 (by decide +kernel) (by decide +kernel)
theorem wc_X6_colourAt : Cond.code yX6_colourAt cX6_colourAt 4 (some .int) ∈ WT := wt_in 1397 (by decide +kernel) (by decide +kernel)
theorem hy_X6_colourAt : (yX6_colourAt.cls = RX6 ∧ yX6_colourAt.cls ≠ "java/lang/invoke/MethodHandle" ∧ yX6_colourAt.cls ≠ "java/lang/invoke/VarHandle" ∧ (parseMethodDescriptor yX6_colourAt.desc).map (fun d => d.parameters.length) = some 3) := by decide +kernel
theorem wi_X6_colourAt : Cond.instanceMethod yX6_colourAt ∈ WT := wt_in 1395 (by decide +kernel) (by decide +kernel)
theorem ws_X6_colourAt : Cond.selects RX6 yX6_colourAt yX6_colourAt ∈ WT := wt_in 1396 (by decide +kernel) (by decide +kernel)
theorem kl_L_68 : CLV RL RX6 6 68 yX6_colourAt cX6_colourAt 4 (some .int) 3 := ⟨⟨_, _, rfl⟩, wm_L_68, wi_X6_colourAt, ws_X6_colourAt, wn_X6, wc_X6_colourAt, hy_X6_colourAt⟩
theorem wm_L_82 : Cond.methodLink RL 82 yX6_doubt ∈ WT := wt_in 1431 (by decide +kernel) (by decide +kernel)
theorem wc_X6_doubt : Cond.code yX6_doubt cX6_doubt 2 (some .int) ∈ WT := wt_in 1434 (by decide +kernel) (by decide +kernel)
theorem hy_X6_doubt : (yX6_doubt.cls = RX6 ∧ yX6_doubt.cls ≠ "java/lang/invoke/MethodHandle" ∧ yX6_doubt.cls ≠ "java/lang/invoke/VarHandle" ∧ (parseMethodDescriptor yX6_doubt.desc).map (fun d => d.parameters.length) = some 1) := by decide +kernel
theorem wi_X6_doubt : Cond.instanceMethod yX6_doubt ∈ WT := wt_in 1432 (by decide +kernel) (by decide +kernel)
theorem ws_X6_doubt : Cond.selects RX6 yX6_doubt yX6_doubt ∈ WT := wt_in 1433 (by decide +kernel) (by decide +kernel)
theorem kl_L_82 : CLV RL RX6 6 82 yX6_doubt cX6_doubt 2 (some .int) 1 := ⟨⟨_, _, rfl⟩, wm_L_82, wi_X6_doubt, ws_X6_doubt, wn_X6, wc_X6_doubt, hy_X6_doubt⟩
theorem wm_L_27 : Cond.methodLink RL 27 yX6_dropNote ∈ WT := wt_in 1281 (by decide +kernel) (by decide +kernel)
theorem wc_X6_dropNote : Cond.code yX6_dropNote cX6_dropNote 1 (some .int) ∈ WT := wt_in 1284 (by decide +kernel) (by decide +kernel)
theorem hy_X6_dropNote : (yX6_dropNote.cls = RX6 ∧ yX6_dropNote.cls ≠ "java/lang/invoke/MethodHandle" ∧ yX6_dropNote.cls ≠ "java/lang/invoke/VarHandle" ∧ (parseMethodDescriptor yX6_dropNote.desc).map (fun d => d.parameters.length) = some 0) := by decide +kernel
theorem wi_X6_dropNote : Cond.instanceMethod yX6_dropNote ∈ WT := wt_in 1282 (by decide +kernel) (by decide +kernel)
theorem ws_X6_dropNote : Cond.selects RX6 yX6_dropNote yX6_dropNote ∈ WT := wt_in 1283 (by decide +kernel) (by decide +kernel)
theorem kl_L_27 : CLV RL RX6 6 27 yX6_dropNote cX6_dropNote 1 (some .int) 0 := ⟨⟨_, _, rfl⟩, wm_L_27, wi_X6_dropNote, ws_X6_dropNote, wn_X6, wc_X6_dropNote, hy_X6_dropNote⟩
theorem wm_L_100 : Cond.methodLink RL 100 yX6_gamesIfNoted ∈ WT := wt_in 1477 (by decide +kernel) (by decide +kernel)
theorem wc_X6_gamesIfNoted : Cond.code yX6_gamesIfNoted cX6_gamesIfNoted 8 (some .long) ∈ WT := wt_in 1480 (by decide +kernel) (by decide +kernel)
theorem hy_X6_gamesIfNoted : (yX6_gamesIfNoted.cls = RX6 ∧ yX6_gamesIfNoted.cls ≠ "java/lang/invoke/MethodHandle" ∧ yX6_gamesIfNoted.cls ≠ "java/lang/invoke/VarHandle" ∧ (parseMethodDescriptor yX6_gamesIfNoted.desc).map (fun d => d.parameters.length) = some 6) := by decide +kernel
theorem wi_X6_gamesIfNoted : Cond.instanceMethod yX6_gamesIfNoted ∈ WT := wt_in 1478 (by decide +kernel) (by decide +kernel)
theorem ws_X6_gamesIfNoted : Cond.selects RX6 yX6_gamesIfNoted yX6_gamesIfNoted ∈ WT := wt_in 1479 (by decide +kernel) (by decide +kernel)
theorem kl_L_100 : CLV RL RX6 6 100 yX6_gamesIfNoted cX6_gamesIfNoted 8 (some .long) 6 := ⟨⟨_, _, rfl⟩, wm_L_100, wi_X6_gamesIfNoted, ws_X6_gamesIfNoted, wn_X6, wc_X6_gamesIfNoted, hy_X6_gamesIfNoted⟩
theorem wm_L_78 : Cond.methodLink RL 78 yX6_gamesTo ∈ WT := wt_in 1423 (by decide +kernel) (by decide +kernel)
theorem wc_X6_gamesTo : Cond.code yX6_gamesTo cX6_gamesTo 2 (some .long) ∈ WT := wt_in 1426 (by decide +kernel) (by decide +kernel)
theorem hy_X6_gamesTo : (yX6_gamesTo.cls = RX6 ∧ yX6_gamesTo.cls ≠ "java/lang/invoke/MethodHandle" ∧ yX6_gamesTo.cls ≠ "java/lang/invoke/VarHandle" ∧ (parseMethodDescriptor yX6_gamesTo.desc).map (fun d => d.parameters.length) = some 1) := by decide +kernel
theorem wi_X6_gamesTo : Cond.instanceMethod yX6_gamesTo ∈ WT := wt_in 1424 (by decide +kernel) (by decide +kernel)
theorem ws_X6_gamesTo : Cond.selects RX6 yX6_gamesTo yX6_gamesTo ∈ WT := wt_in 1425 (by decide +kernel) (by decide +kernel)
theorem kl_L_78 : CLV RL RX6 6 78 yX6_gamesTo cX6_gamesTo 2 (some .long) 1 := ⟨⟨_, _, rfl⟩, wm_L_78, wi_X6_gamesTo, ws_X6_gamesTo, wn_X6, wc_X6_gamesTo, hy_X6_gamesTo⟩
theorem wm_L_92 : Cond.methodLink RL 92 yX6_gamesWithMove ∈ WT := wt_in 1461 (by decide +kernel) (by decide +kernel)
theorem wc_X6_gamesWithMove : Cond.code yX6_gamesWithMove cX6_gamesWithMove 3 (some .long) ∈ WT := wt_in 1464 (by decide +kernel) (by decide +kernel)
theorem hy_X6_gamesWithMove : (yX6_gamesWithMove.cls = RX6 ∧ yX6_gamesWithMove.cls ≠ "java/lang/invoke/MethodHandle" ∧ yX6_gamesWithMove.cls ≠ "java/lang/invoke/VarHandle" ∧ (parseMethodDescriptor yX6_gamesWithMove.desc).map (fun d => d.parameters.length) = some 2) := by decide +kernel
theorem wi_X6_gamesWithMove : Cond.instanceMethod yX6_gamesWithMove ∈ WT := wt_in 1462 (by decide +kernel) (by decide +kernel)
theorem ws_X6_gamesWithMove : Cond.selects RX6 yX6_gamesWithMove yX6_gamesWithMove ∈ WT := wt_in 1463 (by decide +kernel) (by decide +kernel)
theorem kl_L_92 : CLV RL RX6 6 92 yX6_gamesWithMove cX6_gamesWithMove 3 (some .long) 2 := ⟨⟨_, _, rfl⟩, wm_L_92, wi_X6_gamesWithMove, ws_X6_gamesWithMove, wn_X6, wc_X6_gamesWithMove, hy_X6_gamesWithMove⟩
theorem wm_L_96 : Cond.methodLink RL 96 yX6_gamesWithPiece ∈ WT := wt_in 1468 (by decide +kernel) (by decide +kernel)
theorem wc_X6_gamesWithPiece : Cond.code yX6_gamesWithPiece cX6_gamesWithPiece 10 (some .long) ∈ WT := wt_in 1471 (by decide +kernel) (by decide +kernel)
theorem hy_X6_gamesWithPiece : (yX6_gamesWithPiece.cls = RX6 ∧ yX6_gamesWithPiece.cls ≠ "java/lang/invoke/MethodHandle" ∧ yX6_gamesWithPiece.cls ≠ "java/lang/invoke/VarHandle" ∧ (parseMethodDescriptor yX6_gamesWithPiece.desc).map (fun d => d.parameters.length) = some 4) := by decide +kernel
theorem wi_X6_gamesWithPiece : Cond.instanceMethod yX6_gamesWithPiece ∈ WT := wt_in 1469 (by decide +kernel) (by decide +kernel)
theorem ws_X6_gamesWithPiece : Cond.selects RX6 yX6_gamesWithPiece yX6_gamesWithPiece ∈ WT := wt_in 1470 (by decide +kernel) (by decide +kernel)
theorem kl_L_96 : CLV RL RX6 6 96 yX6_gamesWithPiece cX6_gamesWithPiece 10 (some .long) 4 := ⟨⟨_, _, rfl⟩, wm_L_96, wi_X6_gamesWithPiece, ws_X6_gamesWithPiece, wn_X6, wc_X6_gamesWithPiece, hy_X6_gamesWithPiece⟩
theorem wm_L_71 : Cond.methodLink RL 71 yX6_isAttacked ∈ WT := wt_in 1402 (by decide +kernel) (by decide +kernel)
theorem wc_X6_isAttacked : Cond.code yX6_isAttacked cX6_isAttacked 5 (some .boolean) ∈ WT := wt_in 1405 (by decide +kernel) (by decide +kernel)
theorem hy_X6_isAttacked : (yX6_isAttacked.cls = RX6 ∧ yX6_isAttacked.cls ≠ "java/lang/invoke/MethodHandle" ∧ yX6_isAttacked.cls ≠ "java/lang/invoke/VarHandle" ∧ (parseMethodDescriptor yX6_isAttacked.desc).map (fun d => d.parameters.length) = some 4) := by decide +kernel
theorem wi_X6_isAttacked : Cond.instanceMethod yX6_isAttacked ∈ WT := wt_in 1403 (by decide +kernel) (by decide +kernel)
theorem ws_X6_isAttacked : Cond.selects RX6 yX6_isAttacked yX6_isAttacked ∈ WT := wt_in 1404 (by decide +kernel) (by decide +kernel)
theorem kl_L_71 : CLV RL RX6 6 71 yX6_isAttacked cX6_isAttacked 5 (some .boolean) 4 := ⟨⟨_, _, rfl⟩, wm_L_71, wi_X6_isAttacked, ws_X6_isAttacked, wn_X6, wc_X6_isAttacked, hy_X6_isAttacked⟩
theorem wm_L_65 : Cond.methodLink RL 65 yX6_kindAt ∈ WT := wt_in 1374 (by decide +kernel) (by decide +kernel)
theorem wc_X6_kindAt : Cond.code yX6_kindAt cX6_kindAt 4 (some .int) ∈ WT := wt_in 1377 (by decide +kernel) (by decide +kernel)
theorem hy_X6_kindAt : (yX6_kindAt.cls = RX6 ∧ yX6_kindAt.cls ≠ "java/lang/invoke/MethodHandle" ∧ yX6_kindAt.cls ≠ "java/lang/invoke/VarHandle" ∧ (parseMethodDescriptor yX6_kindAt.desc).map (fun d => d.parameters.length) = some 3) := by decide +kernel
theorem wi_X6_kindAt : Cond.instanceMethod yX6_kindAt ∈ WT := wt_in 1375 (by decide +kernel) (by decide +kernel)
theorem ws_X6_kindAt : Cond.selects RX6 yX6_kindAt yX6_kindAt ∈ WT := wt_in 1376 (by decide +kernel) (by decide +kernel)
theorem kl_L_65 : CLV RL RX6 6 65 yX6_kindAt cX6_kindAt 4 (some .int) 3 := ⟨⟨_, _, rfl⟩, wm_L_65, wi_X6_kindAt, ws_X6_kindAt, wn_X6, wc_X6_kindAt, hy_X6_kindAt⟩
theorem wm_L_75 : Cond.methodLink RL 75 yX6_legalMoves ∈ WT := wt_in 1415 (by decide +kernel) (by decide +kernel)
theorem wc_X6_legalMoves : Cond.code yX6_legalMoves cX6_legalMoves 2 (some .int) ∈ WT := wt_in 1418 (by decide +kernel) (by decide +kernel)
theorem hy_X6_legalMoves : (yX6_legalMoves.cls = RX6 ∧ yX6_legalMoves.cls ≠ "java/lang/invoke/MethodHandle" ∧ yX6_legalMoves.cls ≠ "java/lang/invoke/VarHandle" ∧ (parseMethodDescriptor yX6_legalMoves.desc).map (fun d => d.parameters.length) = some 1) := by decide +kernel
theorem wi_X6_legalMoves : Cond.instanceMethod yX6_legalMoves ∈ WT := wt_in 1416 (by decide +kernel) (by decide +kernel)
theorem ws_X6_legalMoves : Cond.selects RX6 yX6_legalMoves yX6_legalMoves ∈ WT := wt_in 1417 (by decide +kernel) (by decide +kernel)
theorem kl_L_75 : CLV RL RX6 6 75 yX6_legalMoves cX6_legalMoves 2 (some .int) 1 := ⟨⟨_, _, rfl⟩, wm_L_75, wi_X6_legalMoves, ws_X6_legalMoves, wn_X6, wc_X6_legalMoves, hy_X6_legalMoves⟩
theorem wm_L_85 : Cond.methodLink RL 85 yX6_moveOrigin ∈ WT := wt_in 1438 (by decide +kernel) (by decide +kernel)
theorem wc_X6_moveOrigin : Cond.code yX6_moveOrigin cX6_moveOrigin 3 (some .int) ∈ WT := wt_in 1441 (by decide +kernel) (by decide +kernel)
theorem hy_X6_moveOrigin : (yX6_moveOrigin.cls = RX6 ∧ yX6_moveOrigin.cls ≠ "java/lang/invoke/MethodHandle" ∧ yX6_moveOrigin.cls ≠ "java/lang/invoke/VarHandle" ∧ (parseMethodDescriptor yX6_moveOrigin.desc).map (fun d => d.parameters.length) = some 2) := by decide +kernel
theorem wi_X6_moveOrigin : Cond.instanceMethod yX6_moveOrigin ∈ WT := wt_in 1439 (by decide +kernel) (by decide +kernel)
theorem ws_X6_moveOrigin : Cond.selects RX6 yX6_moveOrigin yX6_moveOrigin ∈ WT := wt_in 1440 (by decide +kernel) (by decide +kernel)
theorem kl_L_85 : CLV RL RX6 6 85 yX6_moveOrigin cX6_moveOrigin 3 (some .int) 2 := ⟨⟨_, _, rfl⟩, wm_L_85, wi_X6_moveOrigin, ws_X6_moveOrigin, wn_X6, wc_X6_moveOrigin, hy_X6_moveOrigin⟩
theorem wm_L_89 : Cond.methodLink RL 89 yX6_moveTarget ∈ WT := wt_in 1454 (by decide +kernel) (by decide +kernel)
theorem wc_X6_moveTarget : Cond.code yX6_moveTarget cX6_moveTarget 3 (some .int) ∈ WT := wt_in 1457 (by decide +kernel) (by decide +kernel)
theorem hy_X6_moveTarget : (yX6_moveTarget.cls = RX6 ∧ yX6_moveTarget.cls ≠ "java/lang/invoke/MethodHandle" ∧ yX6_moveTarget.cls ≠ "java/lang/invoke/VarHandle" ∧ (parseMethodDescriptor yX6_moveTarget.desc).map (fun d => d.parameters.length) = some 2) := by decide +kernel
theorem wi_X6_moveTarget : Cond.instanceMethod yX6_moveTarget ∈ WT := wt_in 1455 (by decide +kernel) (by decide +kernel)
theorem ws_X6_moveTarget : Cond.selects RX6 yX6_moveTarget yX6_moveTarget ∈ WT := wt_in 1456 (by decide +kernel) (by decide +kernel)
theorem kl_L_89 : CLV RL RX6 6 89 yX6_moveTarget cX6_moveTarget 3 (some .int) 2 := ⟨⟨_, _, rfl⟩, wm_L_89, wi_X6_moveTarget, ws_X6_moveTarget, wn_X6, wc_X6_moveTarget, hy_X6_moveTarget⟩
theorem wm_L_59 : Cond.methodLink RL 59 yX6_noteChecks ∈ WT := wt_in 1359 (by decide +kernel) (by decide +kernel)
theorem wc_X6_noteChecks : Cond.code yX6_noteChecks cX6_noteChecks 2 (some .boolean) ∈ WT := wt_in 1362 (by decide +kernel) (by decide +kernel)
theorem hy_X6_noteChecks : (yX6_noteChecks.cls = RX6 ∧ yX6_noteChecks.cls ≠ "java/lang/invoke/MethodHandle" ∧ yX6_noteChecks.cls ≠ "java/lang/invoke/VarHandle" ∧ (parseMethodDescriptor yX6_noteChecks.desc).map (fun d => d.parameters.length) = some 1) := by decide +kernel
theorem wi_X6_noteChecks : Cond.instanceMethod yX6_noteChecks ∈ WT := wt_in 1360 (by decide +kernel) (by decide +kernel)
theorem ws_X6_noteChecks : Cond.selects RX6 yX6_noteChecks yX6_noteChecks ∈ WT := wt_in 1361 (by decide +kernel) (by decide +kernel)
theorem kl_L_59 : CLV RL RX6 6 59 yX6_noteChecks cX6_noteChecks 2 (some .boolean) 1 := ⟨⟨_, _, rfl⟩, wm_L_59, wi_X6_noteChecks, ws_X6_noteChecks, wn_X6, wc_X6_noteChecks, hy_X6_noteChecks⟩
theorem wm_L_43 : Cond.methodLink RL 43 yX6_noteFromColumn ∈ WT := wt_in 1324 (by decide +kernel) (by decide +kernel)
theorem wc_X6_noteFromColumn : Cond.code yX6_noteFromColumn cX6_noteFromColumn 2 (some .int) ∈ WT := wt_in 1327 (by decide +kernel) (by decide +kernel)
theorem hy_X6_noteFromColumn : (yX6_noteFromColumn.cls = RX6 ∧ yX6_noteFromColumn.cls ≠ "java/lang/invoke/MethodHandle" ∧ yX6_noteFromColumn.cls ≠ "java/lang/invoke/VarHandle" ∧ (parseMethodDescriptor yX6_noteFromColumn.desc).map (fun d => d.parameters.length) = some 1) := by decide +kernel
theorem wi_X6_noteFromColumn : Cond.instanceMethod yX6_noteFromColumn ∈ WT := wt_in 1325 (by decide +kernel) (by decide +kernel)
theorem ws_X6_noteFromColumn : Cond.selects RX6 yX6_noteFromColumn yX6_noteFromColumn ∈ WT := wt_in 1326 (by decide +kernel) (by decide +kernel)
theorem kl_L_43 : CLV RL RX6 6 43 yX6_noteFromColumn cX6_noteFromColumn 2 (some .int) 1 := ⟨⟨_, _, rfl⟩, wm_L_43, wi_X6_noteFromColumn, ws_X6_noteFromColumn, wn_X6, wc_X6_noteFromColumn, hy_X6_noteFromColumn⟩
theorem wm_L_46 : Cond.methodLink RL 46 yX6_noteFromRow ∈ WT := wt_in 1331 (by decide +kernel) (by decide +kernel)
theorem wc_X6_noteFromRow : Cond.code yX6_noteFromRow cX6_noteFromRow 2 (some .int) ∈ WT := wt_in 1334 (by decide +kernel) (by decide +kernel)
theorem hy_X6_noteFromRow : (yX6_noteFromRow.cls = RX6 ∧ yX6_noteFromRow.cls ≠ "java/lang/invoke/MethodHandle" ∧ yX6_noteFromRow.cls ≠ "java/lang/invoke/VarHandle" ∧ (parseMethodDescriptor yX6_noteFromRow.desc).map (fun d => d.parameters.length) = some 1) := by decide +kernel
theorem wi_X6_noteFromRow : Cond.instanceMethod yX6_noteFromRow ∈ WT := wt_in 1332 (by decide +kernel) (by decide +kernel)
theorem ws_X6_noteFromRow : Cond.selects RX6 yX6_noteFromRow yX6_noteFromRow ∈ WT := wt_in 1333 (by decide +kernel) (by decide +kernel)
theorem kl_L_46 : CLV RL RX6 6 46 yX6_noteFromRow cX6_noteFromRow 2 (some .int) 1 := ⟨⟨_, _, rfl⟩, wm_L_46, wi_X6_noteFromRow, ws_X6_noteFromRow, wn_X6, wc_X6_noteFromRow, hy_X6_noteFromRow⟩
theorem wm_L_40 : Cond.methodLink RL 40 yX6_noteKind ∈ WT := wt_in 1317 (by decide +kernel) (by decide +kernel)
theorem wc_X6_noteKind : Cond.code yX6_noteKind cX6_noteKind 2 (some .int) ∈ WT := wt_in 1320 (by decide +kernel) (by decide +kernel)
theorem hy_X6_noteKind : (yX6_noteKind.cls = RX6 ∧ yX6_noteKind.cls ≠ "java/lang/invoke/MethodHandle" ∧ yX6_noteKind.cls ≠ "java/lang/invoke/VarHandle" ∧ (parseMethodDescriptor yX6_noteKind.desc).map (fun d => d.parameters.length) = some 1) := by decide +kernel
theorem wi_X6_noteKind : Cond.instanceMethod yX6_noteKind ∈ WT := wt_in 1318 (by decide +kernel) (by decide +kernel)
theorem ws_X6_noteKind : Cond.selects RX6 yX6_noteKind yX6_noteKind ∈ WT := wt_in 1319 (by decide +kernel) (by decide +kernel)
theorem kl_L_40 : CLV RL RX6 6 40 yX6_noteKind cX6_noteKind 2 (some .int) 1 := ⟨⟨_, _, rfl⟩, wm_L_40, wi_X6_noteKind, ws_X6_noteKind, wn_X6, wc_X6_noteKind, hy_X6_noteKind⟩
theorem wm_L_55 : Cond.methodLink RL 55 yX6_noteTakes ∈ WT := wt_in 1352 (by decide +kernel) (by decide +kernel)
theorem wc_X6_noteTakes : Cond.code yX6_noteTakes cX6_noteTakes 2 (some .boolean) ∈ WT := wt_in 1355 (by decide +kernel) (by decide +kernel)
theorem hy_X6_noteTakes : (yX6_noteTakes.cls = RX6 ∧ yX6_noteTakes.cls ≠ "java/lang/invoke/MethodHandle" ∧ yX6_noteTakes.cls ≠ "java/lang/invoke/VarHandle" ∧ (parseMethodDescriptor yX6_noteTakes.desc).map (fun d => d.parameters.length) = some 1) := by decide +kernel
theorem wi_X6_noteTakes : Cond.instanceMethod yX6_noteTakes ∈ WT := wt_in 1353 (by decide +kernel) (by decide +kernel)
theorem ws_X6_noteTakes : Cond.selects RX6 yX6_noteTakes yX6_noteTakes ∈ WT := wt_in 1354 (by decide +kernel) (by decide +kernel)
theorem kl_L_55 : CLV RL RX6 6 55 yX6_noteTakes cX6_noteTakes 2 (some .boolean) 1 := ⟨⟨_, _, rfl⟩, wm_L_55, wi_X6_noteTakes, ws_X6_noteTakes, wn_X6, wc_X6_noteTakes, hy_X6_noteTakes⟩
theorem wm_L_49 : Cond.methodLink RL 49 yX6_noteToColumn ∈ WT := wt_in 1338 (by decide +kernel) (by decide +kernel)
theorem wc_X6_noteToColumn : Cond.code yX6_noteToColumn cX6_noteToColumn 2 (some .int) ∈ WT := wt_in 1341 (by decide +kernel) (by decide +kernel)
theorem hy_X6_noteToColumn : (yX6_noteToColumn.cls = RX6 ∧ yX6_noteToColumn.cls ≠ "java/lang/invoke/MethodHandle" ∧ yX6_noteToColumn.cls ≠ "java/lang/invoke/VarHandle" ∧ (parseMethodDescriptor yX6_noteToColumn.desc).map (fun d => d.parameters.length) = some 1) := by decide +kernel
theorem wi_X6_noteToColumn : Cond.instanceMethod yX6_noteToColumn ∈ WT := wt_in 1339 (by decide +kernel) (by decide +kernel)
theorem ws_X6_noteToColumn : Cond.selects RX6 yX6_noteToColumn yX6_noteToColumn ∈ WT := wt_in 1340 (by decide +kernel) (by decide +kernel)
theorem kl_L_49 : CLV RL RX6 6 49 yX6_noteToColumn cX6_noteToColumn 2 (some .int) 1 := ⟨⟨_, _, rfl⟩, wm_L_49, wi_X6_noteToColumn, ws_X6_noteToColumn, wn_X6, wc_X6_noteToColumn, hy_X6_noteToColumn⟩
theorem wm_L_52 : Cond.methodLink RL 52 yX6_noteToRow ∈ WT := wt_in 1345 (by decide +kernel) (by decide +kernel)
theorem wc_X6_noteToRow : Cond.code yX6_noteToRow cX6_noteToRow 2 (some .int) ∈ WT := wt_in 1348 (by decide +kernel) (by decide +kernel)
theorem hy_X6_noteToRow : (yX6_noteToRow.cls = RX6 ∧ yX6_noteToRow.cls ≠ "java/lang/invoke/MethodHandle" ∧ yX6_noteToRow.cls ≠ "java/lang/invoke/VarHandle" ∧ (parseMethodDescriptor yX6_noteToRow.desc).map (fun d => d.parameters.length) = some 1) := by decide +kernel
theorem wi_X6_noteToRow : Cond.instanceMethod yX6_noteToRow ∈ WT := wt_in 1346 (by decide +kernel) (by decide +kernel)
theorem ws_X6_noteToRow : Cond.selects RX6 yX6_noteToRow yX6_noteToRow ∈ WT := wt_in 1347 (by decide +kernel) (by decide +kernel)
theorem kl_L_52 : CLV RL RX6 6 52 yX6_noteToRow cX6_noteToRow 2 (some .int) 1 := ⟨⟨_, _, rfl⟩, wm_L_52, wi_X6_noteToRow, ws_X6_noteToRow, wn_X6, wc_X6_noteToRow, hy_X6_noteToRow⟩
theorem wm_L_62 : Cond.methodLink RL 62 yX6_positionsAfter ∈ WT := wt_in 1366 (by decide +kernel) (by decide +kernel)
theorem wc_X6_positionsAfter : Cond.code yX6_positionsAfter cX6_positionsAfter 2 (some .int) ∈ WT := wt_in 1369 (by decide +kernel) (by decide +kernel)
theorem hy_X6_positionsAfter : (yX6_positionsAfter.cls = RX6 ∧ yX6_positionsAfter.cls ≠ "java/lang/invoke/MethodHandle" ∧ yX6_positionsAfter.cls ≠ "java/lang/invoke/VarHandle" ∧ (parseMethodDescriptor yX6_positionsAfter.desc).map (fun d => d.parameters.length) = some 1) := by decide +kernel
theorem wi_X6_positionsAfter : Cond.instanceMethod yX6_positionsAfter ∈ WT := wt_in 1367 (by decide +kernel) (by decide +kernel)
theorem ws_X6_positionsAfter : Cond.selects RX6 yX6_positionsAfter yX6_positionsAfter ∈ WT := wt_in 1368 (by decide +kernel) (by decide +kernel)
theorem kl_L_62 : CLV RL RX6 6 62 yX6_positionsAfter cX6_positionsAfter 2 (some .int) 1 := ⟨⟨_, _, rfl⟩, wm_L_62, wi_X6_positionsAfter, ws_X6_positionsAfter, wn_X6, wc_X6_positionsAfter, hy_X6_positionsAfter⟩
theorem wm_L_37 : Cond.methodLink RL 37 yX6_restore ∈ WT := wt_in 1309 (by decide +kernel) (by decide +kernel)
theorem wc_X6_restore : Cond.code yX6_restore cX6_restore 2 (some .int) ∈ WT := wt_in 1312 (by decide +kernel) (by decide +kernel)
theorem hy_X6_restore : (yX6_restore.cls = RX6 ∧ yX6_restore.cls ≠ "java/lang/invoke/MethodHandle" ∧ yX6_restore.cls ≠ "java/lang/invoke/VarHandle" ∧ (parseMethodDescriptor yX6_restore.desc).map (fun d => d.parameters.length) = some 1) := by decide +kernel
theorem wi_X6_restore : Cond.instanceMethod yX6_restore ∈ WT := wt_in 1310 (by decide +kernel) (by decide +kernel)
theorem ws_X6_restore : Cond.selects RX6 yX6_restore yX6_restore ∈ WT := wt_in 1311 (by decide +kernel) (by decide +kernel)
theorem kl_L_37 : CLV RL RX6 6 37 yX6_restore cX6_restore 2 (some .int) 1 := ⟨⟨_, _, rfl⟩, wm_L_37, wi_X6_restore, ws_X6_restore, wn_X6, wc_X6_restore, hy_X6_restore⟩
theorem wm_L_34 : Cond.methodLink RL 34 yX6_save ∈ WT := wt_in 1297 (by decide +kernel) (by decide +kernel)
theorem wc_X6_save : Cond.code yX6_save cX6_save 2 (some .int) ∈ WT := wt_in 1300 (by decide +kernel) (by decide +kernel)
theorem hy_X6_save : (yX6_save.cls = RX6 ∧ yX6_save.cls ≠ "java/lang/invoke/MethodHandle" ∧ yX6_save.cls ≠ "java/lang/invoke/VarHandle" ∧ (parseMethodDescriptor yX6_save.desc).map (fun d => d.parameters.length) = some 1) := by decide +kernel
theorem wi_X6_save : Cond.instanceMethod yX6_save ∈ WT := wt_in 1298 (by decide +kernel) (by decide +kernel)
theorem ws_X6_save : Cond.selects RX6 yX6_save yX6_save ∈ WT := wt_in 1299 (by decide +kernel) (by decide +kernel)
theorem kl_L_34 : CLV RL RX6 6 34 yX6_save cX6_save 2 (some .int) 1 := ⟨⟨_, _, rfl⟩, wm_L_34, wi_X6_save, ws_X6_save, wn_X6, wc_X6_save, hy_X6_save⟩
theorem wm_L_7 : Cond.methodLink RL 7 yX6_truncateInput ∈ WT := wt_in 1207 (by decide +kernel) (by decide +kernel)
theorem wc_X6_truncateInput : Cond.code yX6_truncateInput cX6_truncateInput 3 (some .int) ∈ WT := wt_in 1210 (by decide +kernel) (by decide +kernel)
theorem hy_X6_truncateInput : (yX6_truncateInput.cls = RX6 ∧ yX6_truncateInput.cls ≠ "java/lang/invoke/MethodHandle" ∧ yX6_truncateInput.cls ≠ "java/lang/invoke/VarHandle" ∧ (parseMethodDescriptor yX6_truncateInput.desc).map (fun d => d.parameters.length) = some 1) := by decide +kernel
theorem wi_X6_truncateInput : Cond.instanceMethod yX6_truncateInput ∈ WT := wt_in 1208 (by decide +kernel) (by decide +kernel)
theorem ws_X6_truncateInput : Cond.selects RX6 yX6_truncateInput yX6_truncateInput ∈ WT := wt_in 1209 (by decide +kernel) (by decide +kernel)
theorem kl_L_7 : CLV RL RX6 6 7 yX6_truncateInput cX6_truncateInput 3 (some .int) 1 := ⟨⟨_, _, rfl⟩, wm_L_7, wi_X6_truncateInput, ws_X6_truncateInput, wn_X6, wc_X6_truncateInput, hy_X6_truncateInput⟩
theorem wm_L_31 : Cond.methodLink RL 31 yX6_undo ∈ WT := wt_in 1289 (by decide +kernel) (by decide +kernel)
theorem wc_X6_undo : Cond.code yX6_undo cX6_undo 2 (some .int) ∈ WT := wt_in 1292 (by decide +kernel) (by decide +kernel)
theorem hy_X6_undo : (yX6_undo.cls = RX6 ∧ yX6_undo.cls ≠ "java/lang/invoke/MethodHandle" ∧ yX6_undo.cls ≠ "java/lang/invoke/VarHandle" ∧ (parseMethodDescriptor yX6_undo.desc).map (fun d => d.parameters.length) = some 0) := by decide +kernel
theorem wi_X6_undo : Cond.instanceMethod yX6_undo ∈ WT := wt_in 1290 (by decide +kernel) (by decide +kernel)
theorem ws_X6_undo : Cond.selects RX6 yX6_undo yX6_undo ∈ WT := wt_in 1291 (by decide +kernel) (by decide +kernel)
theorem kl_L_31 : CLV RL RX6 6 31 yX6_undo cX6_undo 2 (some .int) 0 := ⟨⟨_, _, rfl⟩, wm_L_31, wi_X6_undo, ws_X6_undo, wn_X6, wc_X6_undo, hy_X6_undo⟩
theorem wm_L_104 : Cond.methodLink RL 104 yX6_writePosition ∈ WT := wt_in 1484 (by decide +kernel) (by decide +kernel)
theorem wc_X6_writePosition : Cond.code yX6_writePosition cX6_writePosition 5 (some .int) ∈ WT := wt_in 1487 (by decide +kernel) (by decide +kernel)
theorem hy_X6_writePosition : (yX6_writePosition.cls = RX6 ∧ yX6_writePosition.cls ≠ "java/lang/invoke/MethodHandle" ∧ yX6_writePosition.cls ≠ "java/lang/invoke/VarHandle" ∧ (parseMethodDescriptor yX6_writePosition.desc).map (fun d => d.parameters.length) = some 1) := by decide +kernel
theorem wi_X6_writePosition : Cond.instanceMethod yX6_writePosition ∈ WT := wt_in 1485 (by decide +kernel) (by decide +kernel)
theorem ws_X6_writePosition : Cond.selects RX6 yX6_writePosition yX6_writePosition ∈ WT := wt_in 1486 (by decide +kernel) (by decide +kernel)
theorem kl_L_104 : CLV RL RX6 6 104 yX6_writePosition cX6_writePosition 5 (some .int) 1 := ⟨⟨_, _, rfl⟩, wm_L_104, wi_X6_writePosition, ws_X6_writePosition, wn_X6, wc_X6_writePosition, hy_X6_writePosition⟩
theorem wm_L_111 : Cond.methodLink RL 111 yX6_append ∈ WT := wt_in 456 (by decide +kernel) (by decide +kernel)
theorem wc_X6_append : Cond.code yX6_append cX6_append 7 (some .int) ∈ WT := wt_in 459 (by decide +kernel) (by decide +kernel)
theorem hy_X6_append : (yX6_append.cls = RX6 ∧ yX6_append.cls ≠ "java/lang/invoke/MethodHandle" ∧ yX6_append.cls ≠ "java/lang/invoke/VarHandle" ∧ (parseMethodDescriptor yX6_append.desc).map (fun d => d.parameters.length) = some 5) := by decide +kernel
theorem wi_X6_append : Cond.instanceMethod yX6_append ∈ WT := wt_in 457 (by decide +kernel) (by decide +kernel)
theorem ws_X6_append : Cond.selects RX6 yX6_append yX6_append ∈ WT := wt_in 458 (by decide +kernel) (by decide +kernel)
theorem kl_L_111 : CLV RL RX6 6 111 yX6_append cX6_append 7 (some .int) 5 := ⟨⟨_, _, rfl⟩, wm_L_111, wi_X6_append, ws_X6_append, wn_X6, wc_X6_append, hy_X6_append⟩
theorem wm_L_115 : Cond.methodLink RL 115 yX7_append ∈ WT := wt_in 1807 (by decide +kernel) (by decide +kernel)
theorem wc_X7_append : Cond.code yX7_append cX7_append 6 (some .int) ∈ WT := wt_in 1810 (by decide +kernel) (by decide +kernel)
theorem hy_X7_append : (yX7_append.cls = RX7 ∧ yX7_append.cls ≠ "java/lang/invoke/MethodHandle" ∧ yX7_append.cls ≠ "java/lang/invoke/VarHandle" ∧ (parseMethodDescriptor yX7_append.desc).map (fun d => d.parameters.length) = some 5) := by decide +kernel
theorem wi_X7_append : Cond.instanceMethod yX7_append ∈ WT := wt_in 1808 (by decide +kernel) (by decide +kernel)
theorem ws_X7_append : Cond.selects RX7 yX7_append yX7_append ∈ WT := wt_in 1809 (by decide +kernel) (by decide +kernel)
theorem kl_L_115 : CLV RL RX7 7 115 yX7_append cX7_append 6 (some .int) 5 := ⟨⟨_, _, rfl⟩, wm_L_115, wi_X7_append, ws_X7_append, wn_X7, wc_X7_append, hy_X7_append⟩
theorem wm_L_116 : Cond.methodLink RL 116 yL_truncateInput ∈ WT := wt_in 1203 (by decide +kernel) (by decide +kernel)
theorem wcw_L_truncateInput : Cond.codeWith yL_truncateInput cL_truncateInput 4 (some .int) [(0, 9, 12, 13)] ∈ WT := wt_in 1205 (by decide +kernel) (by decide +kernel)
theorem wn_L : Cond.initialized RL ∈ WT := wt_in 97 (by decide +kernel) (by decide +kernel)
theorem wt_L_truncateInput : Cond.static yL_truncateInput ∈ WT := wt_in 1204 (by decide +kernel) (by decide +kernel)
theorem hy_L_truncateInput : (yL_truncateInput.cls = RL ∧ yL_truncateInput.cls ≠ "java/lang/invoke/MethodHandle" ∧ yL_truncateInput.cls ≠ "java/lang/invoke/VarHandle" ∧ (parseMethodDescriptor yL_truncateInput.desc).map (fun d => d.parameters.length) = some 3) := by decide +kernel
theorem kl_L_116 : CLL RL 116 yL_truncateInput cL_truncateInput 4 [(0, 9, 12, 13)] 3 := ⟨wm_L_116, wt_L_truncateInput, wn_L, wcw_L_truncateInput, hy_L_truncateInput.2⟩
theorem wm_L_121 : Cond.methodLink RL 121 yX7_truncateInput ∈ WT := wt_in 1815 (by decide +kernel) (by decide +kernel)
theorem wc_X7_truncateInput : Cond.code yX7_truncateInput cX7_truncateInput 2 (some .int) ∈ WT := wt_in 1818 (by decide +kernel) (by decide +kernel)
theorem hy_X7_truncateInput : (yX7_truncateInput.cls = RX7 ∧ yX7_truncateInput.cls ≠ "java/lang/invoke/MethodHandle" ∧ yX7_truncateInput.cls ≠ "java/lang/invoke/VarHandle" ∧ (parseMethodDescriptor yX7_truncateInput.desc).map (fun d => d.parameters.length) = some 1) := by decide +kernel
theorem wi_X7_truncateInput : Cond.instanceMethod yX7_truncateInput ∈ WT := wt_in 1816 (by decide +kernel) (by decide +kernel)
theorem ws_X7_truncateInput : Cond.selects RX7 yX7_truncateInput yX7_truncateInput ∈ WT := wt_in 1817 (by decide +kernel) (by decide +kernel)
theorem kl_L_121 : CLV RL RX7 7 121 yX7_truncateInput cX7_truncateInput 2 (some .int) 1 := ⟨⟨_, _, rfl⟩, wm_L_121, wi_X7_truncateInput, ws_X7_truncateInput, wn_X7, wc_X7_truncateInput, hy_X7_truncateInput⟩
theorem wm_L_122 : Cond.methodLink RL 122 yX7_thrown ∈ WT := wt_in 1803 (by decide +kernel) (by decide +kernel)
theorem wc_X7_thrown : Cond.code yX7_thrown cX7_thrown 1 (some .int) ∈ WT := wt_in 1806 (by decide +kernel) (by decide +kernel)
theorem hy_X7_thrown : (yX7_thrown.cls = RX7 ∧ yX7_thrown.cls ≠ "java/lang/invoke/MethodHandle" ∧ yX7_thrown.cls ≠ "java/lang/invoke/VarHandle" ∧ (parseMethodDescriptor yX7_thrown.desc).map (fun d => d.parameters.length) = some 0) := by decide +kernel
theorem wi_X7_thrown : Cond.instanceMethod yX7_thrown ∈ WT := wt_in 1804 (by decide +kernel) (by decide +kernel)
theorem ws_X7_thrown : Cond.selects RX7 yX7_thrown yX7_thrown ∈ WT := wt_in 1805 (by decide +kernel) (by decide +kernel)
theorem kl_L_122 : CLV RL RX7 7 122 yX7_thrown cX7_thrown 1 (some .int) 0 := ⟨⟨_, _, rfl⟩, wm_L_122, wi_X7_thrown, ws_X7_thrown, wn_X7, wc_X7_thrown, hy_X7_thrown⟩
theorem wm_L_125 : Cond.methodLink RL 125 yX6_load ∈ WT := wt_in 468 (by decide +kernel) (by decide +kernel)
theorem wc_X6_load : Cond.code yX6_load cX6_load 2 (some .int) ∈ WT := wt_in 471 (by decide +kernel) (by decide +kernel)
theorem hy_X6_load : (yX6_load.cls = RX6 ∧ yX6_load.cls ≠ "java/lang/invoke/MethodHandle" ∧ yX6_load.cls ≠ "java/lang/invoke/VarHandle" ∧ (parseMethodDescriptor yX6_load.desc).map (fun d => d.parameters.length) = some 0) := by decide +kernel
theorem wi_X6_load : Cond.instanceMethod yX6_load ∈ WT := wt_in 469 (by decide +kernel) (by decide +kernel)
theorem ws_X6_load : Cond.selects RX6 yX6_load yX6_load ∈ WT := wt_in 470 (by decide +kernel) (by decide +kernel)
theorem kl_L_125 : CLV RL RX6 6 125 yX6_load cX6_load 2 (some .int) 0 := ⟨⟨_, _, rfl⟩, wm_L_125, wi_X6_load, ws_X6_load, wn_X6, wc_X6_load, hy_X6_load⟩
theorem wm_L_128 : Cond.methodLink RL 128 yX7_load ∈ WT := wt_in 1823 (by decide +kernel) (by decide +kernel)
theorem kl_L_128 : CLV RL RX7 7 128 yX7_load cX7_load 2 (some .int) 0 := ⟨⟨_, _, rfl⟩, wm_L_128, wi_X7_load, ws_X7_load, wn_X7, wc_X7_load, hy_X7_load⟩
theorem wm_L_129 : Cond.methodLink RL 129 yX6_play ∈ WT := wt_in 1076 (by decide +kernel) (by decide +kernel)
theorem wc_X6_play : Cond.code yX6_play cX6_play 1 (some .int) ∈ WT := wt_in 1079 (by decide +kernel) (by decide +kernel)
theorem hy_X6_play : (yX6_play.cls = RX6 ∧ yX6_play.cls ≠ "java/lang/invoke/MethodHandle" ∧ yX6_play.cls ≠ "java/lang/invoke/VarHandle" ∧ (parseMethodDescriptor yX6_play.desc).map (fun d => d.parameters.length) = some 0) := by decide +kernel
theorem wi_X6_play : Cond.instanceMethod yX6_play ∈ WT := wt_in 1077 (by decide +kernel) (by decide +kernel)
theorem ws_X6_play : Cond.selects RX6 yX6_play yX6_play ∈ WT := wt_in 1078 (by decide +kernel) (by decide +kernel)
theorem kl_L_129 : CLV RL RX6 6 129 yX6_play cX6_play 1 (some .int) 0 := ⟨⟨_, _, rfl⟩, wm_L_129, wi_X6_play, ws_X6_play, wn_X6, wc_X6_play, hy_X6_play⟩
theorem wm_L_132 : Cond.methodLink RL 132 yX7_play ∈ WT := wt_in 1824 (by decide +kernel) (by decide +kernel)
theorem wc_X7_play : Cond.code yX7_play cX7_play 1 (some .int) ∈ WT := wt_in 1827 (by decide +kernel) (by decide +kernel)
theorem hy_X7_play : (yX7_play.cls = RX7 ∧ yX7_play.cls ≠ "java/lang/invoke/MethodHandle" ∧ yX7_play.cls ≠ "java/lang/invoke/VarHandle" ∧ (parseMethodDescriptor yX7_play.desc).map (fun d => d.parameters.length) = some 0) := by decide +kernel
theorem wi_X7_play : Cond.instanceMethod yX7_play ∈ WT := wt_in 1825 (by decide +kernel) (by decide +kernel)
theorem ws_X7_play : Cond.selects RX7 yX7_play yX7_play ∈ WT := wt_in 1826 (by decide +kernel) (by decide +kernel)
theorem kl_L_132 : CLV RL RX7 7 132 yX7_play cX7_play 1 (some .int) 0 := ⟨⟨_, _, rfl⟩, wm_L_132, wi_X7_play, ws_X7_play, wn_X7, wc_X7_play, hy_X7_play⟩
theorem wm_L_133 : Cond.methodLink RL 133 yX6_errorCode ∈ WT := wt_in 1084 (by decide +kernel) (by decide +kernel)
theorem wc_X6_errorCode : Cond.code yX6_errorCode cX6_errorCode 1 (some .int) ∈ WT := wt_in 1087 (by decide +kernel) (by decide +kernel)
theorem hy_X6_errorCode : (yX6_errorCode.cls = RX6 ∧ yX6_errorCode.cls ≠ "java/lang/invoke/MethodHandle" ∧ yX6_errorCode.cls ≠ "java/lang/invoke/VarHandle" ∧ (parseMethodDescriptor yX6_errorCode.desc).map (fun d => d.parameters.length) = some 0) := by decide +kernel
theorem wi_X6_errorCode : Cond.instanceMethod yX6_errorCode ∈ WT := wt_in 1085 (by decide +kernel) (by decide +kernel)
theorem ws_X6_errorCode : Cond.selects RX6 yX6_errorCode yX6_errorCode ∈ WT := wt_in 1086 (by decide +kernel) (by decide +kernel)
theorem kl_L_133 : CLV RL RX6 6 133 yX6_errorCode cX6_errorCode 1 (some .int) 0 := ⟨⟨_, _, rfl⟩, wm_L_133, wi_X6_errorCode, ws_X6_errorCode, wn_X6, wc_X6_errorCode, hy_X6_errorCode⟩
theorem wm_L_136 : Cond.methodLink RL 136 yX7_errorCode ∈ WT := wt_in 1828 (by decide +kernel) (by decide +kernel)
theorem wc_X7_errorCode : Cond.code yX7_errorCode cX7_errorCode 1 (some .int) ∈ WT := wt_in 1831 (by decide +kernel) (by decide +kernel)
theorem hy_X7_errorCode : (yX7_errorCode.cls = RX7 ∧ yX7_errorCode.cls ≠ "java/lang/invoke/MethodHandle" ∧ yX7_errorCode.cls ≠ "java/lang/invoke/VarHandle" ∧ (parseMethodDescriptor yX7_errorCode.desc).map (fun d => d.parameters.length) = some 0) := by decide +kernel
theorem wi_X7_errorCode : Cond.instanceMethod yX7_errorCode ∈ WT := wt_in 1829 (by decide +kernel) (by decide +kernel)
theorem ws_X7_errorCode : Cond.selects RX7 yX7_errorCode yX7_errorCode ∈ WT := wt_in 1830 (by decide +kernel) (by decide +kernel)
theorem kl_L_136 : CLV RL RX7 7 136 yX7_errorCode cX7_errorCode 1 (some .int) 0 := ⟨⟨_, _, rfl⟩, wm_L_136, wi_X7_errorCode, ws_X7_errorCode, wn_X7, wc_X7_errorCode, hy_X7_errorCode⟩
theorem wm_L_137 : Cond.methodLink RL 137 yX6_errorOffset ∈ WT := wt_in 1088 (by decide +kernel) (by decide +kernel)
theorem wc_X6_errorOffset : Cond.code yX6_errorOffset cX6_errorOffset 1 (some .int) ∈ WT := wt_in 1091 (by decide +kernel) (by decide +kernel)
theorem hy_X6_errorOffset : (yX6_errorOffset.cls = RX6 ∧ yX6_errorOffset.cls ≠ "java/lang/invoke/MethodHandle" ∧ yX6_errorOffset.cls ≠ "java/lang/invoke/VarHandle" ∧ (parseMethodDescriptor yX6_errorOffset.desc).map (fun d => d.parameters.length) = some 0) := by decide +kernel
theorem wi_X6_errorOffset : Cond.instanceMethod yX6_errorOffset ∈ WT := wt_in 1089 (by decide +kernel) (by decide +kernel)
theorem ws_X6_errorOffset : Cond.selects RX6 yX6_errorOffset yX6_errorOffset ∈ WT := wt_in 1090 (by decide +kernel) (by decide +kernel)
theorem kl_L_137 : CLV RL RX6 6 137 yX6_errorOffset cX6_errorOffset 1 (some .int) 0 := ⟨⟨_, _, rfl⟩, wm_L_137, wi_X6_errorOffset, ws_X6_errorOffset, wn_X6, wc_X6_errorOffset, hy_X6_errorOffset⟩
theorem wm_L_140 : Cond.methodLink RL 140 yX7_errorOffset ∈ WT := wt_in 1836 (by decide +kernel) (by decide +kernel)
theorem wc_X7_errorOffset : Cond.code yX7_errorOffset cX7_errorOffset 1 (some .int) ∈ WT := wt_in 1839 (by decide +kernel) (by decide +kernel)
theorem hy_X7_errorOffset : (yX7_errorOffset.cls = RX7 ∧ yX7_errorOffset.cls ≠ "java/lang/invoke/MethodHandle" ∧ yX7_errorOffset.cls ≠ "java/lang/invoke/VarHandle" ∧ (parseMethodDescriptor yX7_errorOffset.desc).map (fun d => d.parameters.length) = some 0) := by decide +kernel
theorem wi_X7_errorOffset : Cond.instanceMethod yX7_errorOffset ∈ WT := wt_in 1837 (by decide +kernel) (by decide +kernel)
theorem ws_X7_errorOffset : Cond.selects RX7 yX7_errorOffset yX7_errorOffset ∈ WT := wt_in 1838 (by decide +kernel) (by decide +kernel)
theorem kl_L_140 : CLV RL RX7 7 140 yX7_errorOffset cX7_errorOffset 1 (some .int) 0 := ⟨⟨_, _, rfl⟩, wm_L_140, wi_X7_errorOffset, ws_X7_errorOffset, wn_X7, wc_X7_errorOffset, hy_X7_errorOffset⟩
theorem wm_L_141 : Cond.methodLink RL 141 yL_addNote ∈ WT := wt_in 1214 (by decide +kernel) (by decide +kernel)
theorem wcw_L_addNote : Cond.codeWith yL_addNote cL_addNote 9 (some .int) [(0, 18, 21, 13), (0, 18, 25, 19)] ∈ WT := wt_in 1216 (by decide +kernel) (by decide +kernel)
theorem wt_L_addNote : Cond.static yL_addNote ∈ WT := wt_in 1215 (by decide +kernel) (by decide +kernel)
theorem hy_L_addNote : (yL_addNote.cls = RL ∧ yL_addNote.cls ≠ "java/lang/invoke/MethodHandle" ∧ yL_addNote.cls ≠ "java/lang/invoke/VarHandle" ∧ (parseMethodDescriptor yL_addNote.desc).map (fun d => d.parameters.length) = some 8) := by decide +kernel
theorem kl_L_141 : CLL RL 141 yL_addNote cL_addNote 9 [(0, 18, 21, 13), (0, 18, 25, 19)] 8 := ⟨wm_L_141, wt_L_addNote, wn_L, wcw_L_addNote, hy_L_addNote.2⟩
theorem wm_L_144 : Cond.methodLink RL 144 yX7_addNote ∈ WT := wt_in 1840 (by decide +kernel) (by decide +kernel)
theorem wc_X7_addNote : Cond.code yX7_addNote cX7_addNote 8 (some .int) ∈ WT := wt_in 1843 (by decide +kernel) (by decide +kernel)
theorem hy_X7_addNote : (yX7_addNote.cls = RX7 ∧ yX7_addNote.cls ≠ "java/lang/invoke/MethodHandle" ∧ yX7_addNote.cls ≠ "java/lang/invoke/VarHandle" ∧ (parseMethodDescriptor yX7_addNote.desc).map (fun d => d.parameters.length) = some 6) := by decide +kernel
theorem wi_X7_addNote : Cond.instanceMethod yX7_addNote ∈ WT := wt_in 1841 (by decide +kernel) (by decide +kernel)
theorem ws_X7_addNote : Cond.selects RX7 yX7_addNote yX7_addNote ∈ WT := wt_in 1842 (by decide +kernel) (by decide +kernel)
theorem kl_L_144 : CLV RL RX7 7 144 yX7_addNote cX7_addNote 8 (some .int) 6 := ⟨⟨_, _, rfl⟩, wm_L_144, wi_X7_addNote, ws_X7_addNote, wn_X7, wc_X7_addNote, hy_X7_addNote⟩
theorem wm_L_145 : Cond.methodLink RL 145 yL_clarify ∈ WT := wt_in 1251 (by decide +kernel) (by decide +kernel)
theorem wcw_L_clarify : Cond.codeWith yL_clarify cL_clarify 6 (some .int) [(0, 12, 15, 25), (0, 12, 19, 13), (0, 12, 23, 19)] ∈ WT := wt_in 1253 (by decide +kernel) (by decide +kernel)
theorem wt_L_clarify : Cond.static yL_clarify ∈ WT := wt_in 1252 (by decide +kernel) (by decide +kernel)
theorem hy_L_clarify : (yL_clarify.cls = RL ∧ yL_clarify.cls ≠ "java/lang/invoke/MethodHandle" ∧ yL_clarify.cls ≠ "java/lang/invoke/VarHandle" ∧ (parseMethodDescriptor yL_clarify.desc).map (fun d => d.parameters.length) = some 5) := by decide +kernel
theorem kl_L_145 : CLL RL 145 yL_clarify cL_clarify 6 [(0, 12, 15, 25), (0, 12, 19, 13), (0, 12, 23, 19)] 5 := ⟨wm_L_145, wt_L_clarify, wn_L, wcw_L_clarify, hy_L_clarify.2⟩
theorem wm_L_148 : Cond.methodLink RL 148 yX7_clarify ∈ WT := wt_in 1851 (by decide +kernel) (by decide +kernel)
theorem wc_X7_clarify : Cond.code yX7_clarify cX7_clarify 7 (some .int) ∈ WT := wt_in 1854 (by decide +kernel) (by decide +kernel)
theorem hy_X7_clarify : (yX7_clarify.cls = RX7 ∧ yX7_clarify.cls ≠ "java/lang/invoke/MethodHandle" ∧ yX7_clarify.cls ≠ "java/lang/invoke/VarHandle" ∧ (parseMethodDescriptor yX7_clarify.desc).map (fun d => d.parameters.length) = some 3) := by decide +kernel
theorem wi_X7_clarify : Cond.instanceMethod yX7_clarify ∈ WT := wt_in 1852 (by decide +kernel) (by decide +kernel)
theorem ws_X7_clarify : Cond.selects RX7 yX7_clarify yX7_clarify ∈ WT := wt_in 1853 (by decide +kernel) (by decide +kernel)
theorem kl_L_148 : CLV RL RX7 7 148 yX7_clarify cX7_clarify 7 (some .int) 3 := ⟨⟨_, _, rfl⟩, wm_L_148, wi_X7_clarify, ws_X7_clarify, wn_X7, wc_X7_clarify, hy_X7_clarify⟩
theorem wm_L_149 : Cond.methodLink RL 149 yL_dropNote ∈ WT := wt_in 1278 (by decide +kernel) (by decide +kernel)
theorem wcw_L_dropNote : Cond.codeWith yL_dropNote cL_dropNote 3 (some .int) [(0, 8, 11, 19)] ∈ WT := wt_in 1280 (by decide +kernel) (by decide +kernel)
theorem wt_L_dropNote : Cond.static yL_dropNote ∈ WT := wt_in 1279 (by decide +kernel) (by decide +kernel)
theorem hy_L_dropNote : (yL_dropNote.cls = RL ∧ yL_dropNote.cls ≠ "java/lang/invoke/MethodHandle" ∧ yL_dropNote.cls ≠ "java/lang/invoke/VarHandle" ∧ (parseMethodDescriptor yL_dropNote.desc).map (fun d => d.parameters.length) = some 2) := by decide +kernel
theorem kl_L_149 : CLL RL 149 yL_dropNote cL_dropNote 3 [(0, 8, 11, 19)] 2 := ⟨wm_L_149, wt_L_dropNote, wn_L, wcw_L_dropNote, hy_L_dropNote.2⟩
theorem wm_L_152 : Cond.methodLink RL 152 yX7_dropNote ∈ WT := wt_in 1859 (by decide +kernel) (by decide +kernel)
theorem wc_X7_dropNote : Cond.code yX7_dropNote cX7_dropNote 1 (some .int) ∈ WT := wt_in 1862 (by decide +kernel) (by decide +kernel)
theorem hy_X7_dropNote : (yX7_dropNote.cls = RX7 ∧ yX7_dropNote.cls ≠ "java/lang/invoke/MethodHandle" ∧ yX7_dropNote.cls ≠ "java/lang/invoke/VarHandle" ∧ (parseMethodDescriptor yX7_dropNote.desc).map (fun d => d.parameters.length) = some 0) := by decide +kernel
theorem wi_X7_dropNote : Cond.instanceMethod yX7_dropNote ∈ WT := wt_in 1860 (by decide +kernel) (by decide +kernel)
theorem ws_X7_dropNote : Cond.selects RX7 yX7_dropNote yX7_dropNote ∈ WT := wt_in 1861 (by decide +kernel) (by decide +kernel)
theorem kl_L_152 : CLV RL RX7 7 152 yX7_dropNote cX7_dropNote 1 (some .int) 0 := ⟨⟨_, _, rfl⟩, wm_L_152, wi_X7_dropNote, ws_X7_dropNote, wn_X7, wc_X7_dropNote, hy_X7_dropNote⟩
theorem wm_L_153 : Cond.methodLink RL 153 yL_undo ∈ WT := wt_in 1286 (by decide +kernel) (by decide +kernel)
theorem wcw_L_undo : Cond.codeWith yL_undo cL_undo 3 (some .int) [(0, 8, 11, 19)] ∈ WT := wt_in 1288 (by decide +kernel) (by decide +kernel)
theorem wt_L_undo : Cond.static yL_undo ∈ WT := wt_in 1287 (by decide +kernel) (by decide +kernel)
theorem hy_L_undo : (yL_undo.cls = RL ∧ yL_undo.cls ≠ "java/lang/invoke/MethodHandle" ∧ yL_undo.cls ≠ "java/lang/invoke/VarHandle" ∧ (parseMethodDescriptor yL_undo.desc).map (fun d => d.parameters.length) = some 2) := by decide +kernel
theorem kl_L_153 : CLL RL 153 yL_undo cL_undo 3 [(0, 8, 11, 19)] 2 := ⟨wm_L_153, wt_L_undo, wn_L, wcw_L_undo, hy_L_undo.2⟩
theorem wm_L_155 : Cond.methodLink RL 155 yX7_undo ∈ WT := wt_in 1863 (by decide +kernel) (by decide +kernel)
theorem wc_X7_undo : Cond.code yX7_undo cX7_undo 2 (some .int) ∈ WT := wt_in 1866 (by decide +kernel) (by decide +kernel)
theorem hy_X7_undo : (yX7_undo.cls = RX7 ∧ yX7_undo.cls ≠ "java/lang/invoke/MethodHandle" ∧ yX7_undo.cls ≠ "java/lang/invoke/VarHandle" ∧ (parseMethodDescriptor yX7_undo.desc).map (fun d => d.parameters.length) = some 0) := by decide +kernel
theorem wi_X7_undo : Cond.instanceMethod yX7_undo ∈ WT := wt_in 1864 (by decide +kernel) (by decide +kernel)
theorem ws_X7_undo : Cond.selects RX7 yX7_undo yX7_undo ∈ WT := wt_in 1865 (by decide +kernel) (by decide +kernel)
theorem kl_L_155 : CLV RL RX7 7 155 yX7_undo cX7_undo 2 (some .int) 0 := ⟨⟨_, _, rfl⟩, wm_L_155, wi_X7_undo, ws_X7_undo, wn_X7, wc_X7_undo, hy_X7_undo⟩
theorem wm_L_156 : Cond.methodLink RL 156 yL_save ∈ WT := wt_in 1294 (by decide +kernel) (by decide +kernel)
theorem wcw_L_save : Cond.codeWith yL_save cL_save 4 (some .int) [(0, 9, 12, 13)] ∈ WT := wt_in 1296 (by decide +kernel) (by decide +kernel)
theorem wt_L_save : Cond.static yL_save ∈ WT := wt_in 1295 (by decide +kernel) (by decide +kernel)
theorem hy_L_save : (yL_save.cls = RL ∧ yL_save.cls ≠ "java/lang/invoke/MethodHandle" ∧ yL_save.cls ≠ "java/lang/invoke/VarHandle" ∧ (parseMethodDescriptor yL_save.desc).map (fun d => d.parameters.length) = some 3) := by decide +kernel
theorem kl_L_156 : CLL RL 156 yL_save cL_save 4 [(0, 9, 12, 13)] 3 := ⟨wm_L_156, wt_L_save, wn_L, wcw_L_save, hy_L_save.2⟩
theorem wm_L_158 : Cond.methodLink RL 158 yX7_save ∈ WT := wt_in 1867 (by decide +kernel) (by decide +kernel)
theorem wc_X7_save : Cond.code yX7_save cX7_save 2 (some .int) ∈ WT := wt_in 1870 (by decide +kernel) (by decide +kernel)
theorem hy_X7_save : (yX7_save.cls = RX7 ∧ yX7_save.cls ≠ "java/lang/invoke/MethodHandle" ∧ yX7_save.cls ≠ "java/lang/invoke/VarHandle" ∧ (parseMethodDescriptor yX7_save.desc).map (fun d => d.parameters.length) = some 1) := by decide +kernel
theorem wi_X7_save : Cond.instanceMethod yX7_save ∈ WT := wt_in 1868 (by decide +kernel) (by decide +kernel)
theorem ws_X7_save : Cond.selects RX7 yX7_save yX7_save ∈ WT := wt_in 1869 (by decide +kernel) (by decide +kernel)
theorem kl_L_158 : CLV RL RX7 7 158 yX7_save cX7_save 2 (some .int) 1 := ⟨⟨_, _, rfl⟩, wm_L_158, wi_X7_save, ws_X7_save, wn_X7, wc_X7_save, hy_X7_save⟩
theorem wm_L_159 : Cond.methodLink RL 159 yL_restore ∈ WT := wt_in 1306 (by decide +kernel) (by decide +kernel)
theorem wcw_L_restore : Cond.codeWith yL_restore cL_restore 4 (some .int) [(0, 9, 12, 13), (0, 9, 15, 19)] ∈ WT := wt_in 1308 (by decide +kernel) (by decide +kernel)
theorem wt_L_restore : Cond.static yL_restore ∈ WT := wt_in 1307 (by decide +kernel) (by decide +kernel)
theorem hy_L_restore : (yL_restore.cls = RL ∧ yL_restore.cls ≠ "java/lang/invoke/MethodHandle" ∧ yL_restore.cls ≠ "java/lang/invoke/VarHandle" ∧ (parseMethodDescriptor yL_restore.desc).map (fun d => d.parameters.length) = some 3) := by decide +kernel
theorem kl_L_159 : CLL RL 159 yL_restore cL_restore 4 [(0, 9, 12, 13), (0, 9, 15, 19)] 3 := ⟨wm_L_159, wt_L_restore, wn_L, wcw_L_restore, hy_L_restore.2⟩
theorem wm_L_161 : Cond.methodLink RL 161 yX7_restore ∈ WT := wt_in 1871 (by decide +kernel) (by decide +kernel)
theorem wc_X7_restore : Cond.code yX7_restore cX7_restore 4 (some .int) ∈ WT := wt_in 1874 (by decide +kernel) (by decide +kernel)
theorem hy_X7_restore : (yX7_restore.cls = RX7 ∧ yX7_restore.cls ≠ "java/lang/invoke/MethodHandle" ∧ yX7_restore.cls ≠ "java/lang/invoke/VarHandle" ∧ (parseMethodDescriptor yX7_restore.desc).map (fun d => d.parameters.length) = some 1) := by decide +kernel
theorem wi_X7_restore : Cond.instanceMethod yX7_restore ∈ WT := wt_in 1872 (by decide +kernel) (by decide +kernel)
theorem ws_X7_restore : Cond.selects RX7 yX7_restore yX7_restore ∈ WT := wt_in 1873 (by decide +kernel) (by decide +kernel)
theorem kl_L_161 : CLV RL RX7 7 161 yX7_restore cX7_restore 4 (some .int) 1 := ⟨⟨_, _, rfl⟩, wm_L_161, wi_X7_restore, ws_X7_restore, wn_X7, wc_X7_restore, hy_X7_restore⟩
theorem wm_L_162 : Cond.methodLink RL 162 yX6_columns ∈ WT := wt_in 1092 (by decide +kernel) (by decide +kernel)
theorem wc_X6_columns : Cond.code yX6_columns cX6_columns 1 (some .int) ∈ WT := wt_in 1095 (by decide +kernel) (by decide +kernel)
theorem hy_X6_columns : (yX6_columns.cls = RX6 ∧ yX6_columns.cls ≠ "java/lang/invoke/MethodHandle" ∧ yX6_columns.cls ≠ "java/lang/invoke/VarHandle" ∧ (parseMethodDescriptor yX6_columns.desc).map (fun d => d.parameters.length) = some 0) := by decide +kernel
theorem wi_X6_columns : Cond.instanceMethod yX6_columns ∈ WT := wt_in 1093 (by decide +kernel) (by decide +kernel)
theorem ws_X6_columns : Cond.selects RX6 yX6_columns yX6_columns ∈ WT := wt_in 1094 (by decide +kernel) (by decide +kernel)
theorem kl_L_162 : CLV RL RX6 6 162 yX6_columns cX6_columns 1 (some .int) 0 := ⟨⟨_, _, rfl⟩, wm_L_162, wi_X6_columns, ws_X6_columns, wn_X6, wc_X6_columns, hy_X6_columns⟩
theorem wm_L_165 : Cond.methodLink RL 165 yX7_columns ∈ WT := wt_in 1875 (by decide +kernel) (by decide +kernel)
theorem wc_X7_columns : Cond.code yX7_columns cX7_columns 1 (some .int) ∈ WT := wt_in 1878 (by decide +kernel) (by decide +kernel)
theorem hy_X7_columns : (yX7_columns.cls = RX7 ∧ yX7_columns.cls ≠ "java/lang/invoke/MethodHandle" ∧ yX7_columns.cls ≠ "java/lang/invoke/VarHandle" ∧ (parseMethodDescriptor yX7_columns.desc).map (fun d => d.parameters.length) = some 0) := by decide +kernel
theorem wi_X7_columns : Cond.instanceMethod yX7_columns ∈ WT := wt_in 1876 (by decide +kernel) (by decide +kernel)
theorem ws_X7_columns : Cond.selects RX7 yX7_columns yX7_columns ∈ WT := wt_in 1877 (by decide +kernel) (by decide +kernel)
theorem kl_L_165 : CLV RL RX7 7 165 yX7_columns cX7_columns 1 (some .int) 0 := ⟨⟨_, _, rfl⟩, wm_L_165, wi_X7_columns, ws_X7_columns, wn_X7, wc_X7_columns, hy_X7_columns⟩
theorem wm_L_166 : Cond.methodLink RL 166 yX6_rows ∈ WT := wt_in 1096 (by decide +kernel) (by decide +kernel)
theorem wc_X6_rows : Cond.code yX6_rows cX6_rows 1 (some .int) ∈ WT := wt_in 1099 (by decide +kernel) (by decide +kernel)
theorem hy_X6_rows : (yX6_rows.cls = RX6 ∧ yX6_rows.cls ≠ "java/lang/invoke/MethodHandle" ∧ yX6_rows.cls ≠ "java/lang/invoke/VarHandle" ∧ (parseMethodDescriptor yX6_rows.desc).map (fun d => d.parameters.length) = some 0) := by decide +kernel
theorem wi_X6_rows : Cond.instanceMethod yX6_rows ∈ WT := wt_in 1097 (by decide +kernel) (by decide +kernel)
theorem ws_X6_rows : Cond.selects RX6 yX6_rows yX6_rows ∈ WT := wt_in 1098 (by decide +kernel) (by decide +kernel)
theorem kl_L_166 : CLV RL RX6 6 166 yX6_rows cX6_rows 1 (some .int) 0 := ⟨⟨_, _, rfl⟩, wm_L_166, wi_X6_rows, ws_X6_rows, wn_X6, wc_X6_rows, hy_X6_rows⟩
theorem wm_L_169 : Cond.methodLink RL 169 yX7_rows ∈ WT := wt_in 1879 (by decide +kernel) (by decide +kernel)
theorem wc_X7_rows : Cond.code yX7_rows cX7_rows 1 (some .int) ∈ WT := wt_in 1882 (by decide +kernel) (by decide +kernel)
theorem hy_X7_rows : (yX7_rows.cls = RX7 ∧ yX7_rows.cls ≠ "java/lang/invoke/MethodHandle" ∧ yX7_rows.cls ≠ "java/lang/invoke/VarHandle" ∧ (parseMethodDescriptor yX7_rows.desc).map (fun d => d.parameters.length) = some 0) := by decide +kernel
theorem wi_X7_rows : Cond.instanceMethod yX7_rows ∈ WT := wt_in 1880 (by decide +kernel) (by decide +kernel)
theorem ws_X7_rows : Cond.selects RX7 yX7_rows yX7_rows ∈ WT := wt_in 1881 (by decide +kernel) (by decide +kernel)
theorem kl_L_169 : CLV RL RX7 7 169 yX7_rows cX7_rows 1 (some .int) 0 := ⟨⟨_, _, rfl⟩, wm_L_169, wi_X7_rows, ws_X7_rows, wn_X7, wc_X7_rows, hy_X7_rows⟩
theorem wm_L_170 : Cond.methodLink RL 170 yX6_noteCount ∈ WT := wt_in 1100 (by decide +kernel) (by decide +kernel)
theorem wc_X6_noteCount : Cond.code yX6_noteCount cX6_noteCount 1 (some .int) ∈ WT := wt_in 1103 (by decide +kernel) (by decide +kernel)
theorem hy_X6_noteCount : (yX6_noteCount.cls = RX6 ∧ yX6_noteCount.cls ≠ "java/lang/invoke/MethodHandle" ∧ yX6_noteCount.cls ≠ "java/lang/invoke/VarHandle" ∧ (parseMethodDescriptor yX6_noteCount.desc).map (fun d => d.parameters.length) = some 0) := by decide +kernel
theorem wi_X6_noteCount : Cond.instanceMethod yX6_noteCount ∈ WT := wt_in 1101 (by decide +kernel) (by decide +kernel)
theorem ws_X6_noteCount : Cond.selects RX6 yX6_noteCount yX6_noteCount ∈ WT := wt_in 1102 (by decide +kernel) (by decide +kernel)
theorem kl_L_170 : CLV RL RX6 6 170 yX6_noteCount cX6_noteCount 1 (some .int) 0 := ⟨⟨_, _, rfl⟩, wm_L_170, wi_X6_noteCount, ws_X6_noteCount, wn_X6, wc_X6_noteCount, hy_X6_noteCount⟩
theorem wm_L_173 : Cond.methodLink RL 173 yX7_noteCount ∈ WT := wt_in 1883 (by decide +kernel) (by decide +kernel)
theorem wc_X7_noteCount : Cond.code yX7_noteCount cX7_noteCount 1 (some .int) ∈ WT := wt_in 1886 (by decide +kernel) (by decide +kernel)
theorem hy_X7_noteCount : (yX7_noteCount.cls = RX7 ∧ yX7_noteCount.cls ≠ "java/lang/invoke/MethodHandle" ∧ yX7_noteCount.cls ≠ "java/lang/invoke/VarHandle" ∧ (parseMethodDescriptor yX7_noteCount.desc).map (fun d => d.parameters.length) = some 0) := by decide +kernel
theorem wi_X7_noteCount : Cond.instanceMethod yX7_noteCount ∈ WT := wt_in 1884 (by decide +kernel) (by decide +kernel)
theorem ws_X7_noteCount : Cond.selects RX7 yX7_noteCount yX7_noteCount ∈ WT := wt_in 1885 (by decide +kernel) (by decide +kernel)
theorem kl_L_173 : CLV RL RX7 7 173 yX7_noteCount cX7_noteCount 1 (some .int) 0 := ⟨⟨_, _, rfl⟩, wm_L_173, wi_X7_noteCount, ws_X7_noteCount, wn_X7, wc_X7_noteCount, hy_X7_noteCount⟩
theorem wm_L_174 : Cond.methodLink RL 174 yX6_colourToMove ∈ WT := wt_in 1104 (by decide +kernel) (by decide +kernel)
theorem wc_X6_colourToMove : Cond.code yX6_colourToMove cX6_colourToMove 1 (some .int) ∈ WT := wt_in 1107 (by decide +kernel) (by decide +kernel)
theorem hy_X6_colourToMove : (yX6_colourToMove.cls = RX6 ∧ yX6_colourToMove.cls ≠ "java/lang/invoke/MethodHandle" ∧ yX6_colourToMove.cls ≠ "java/lang/invoke/VarHandle" ∧ (parseMethodDescriptor yX6_colourToMove.desc).map (fun d => d.parameters.length) = some 0) := by decide +kernel
theorem wi_X6_colourToMove : Cond.instanceMethod yX6_colourToMove ∈ WT := wt_in 1105 (by decide +kernel) (by decide +kernel)
theorem ws_X6_colourToMove : Cond.selects RX6 yX6_colourToMove yX6_colourToMove ∈ WT := wt_in 1106 (by decide +kernel) (by decide +kernel)
theorem kl_L_174 : CLV RL RX6 6 174 yX6_colourToMove cX6_colourToMove 1 (some .int) 0 := ⟨⟨_, _, rfl⟩, wm_L_174, wi_X6_colourToMove, ws_X6_colourToMove, wn_X6, wc_X6_colourToMove, hy_X6_colourToMove⟩
theorem wm_L_177 : Cond.methodLink RL 177 yX7_colourToMove ∈ WT := wt_in 1887 (by decide +kernel) (by decide +kernel)
theorem wc_X7_colourToMove : Cond.code yX7_colourToMove cX7_colourToMove 1 (some .int) ∈ WT := wt_in 1890 (by decide +kernel) (by decide +kernel)
theorem hy_X7_colourToMove : (yX7_colourToMove.cls = RX7 ∧ yX7_colourToMove.cls ≠ "java/lang/invoke/MethodHandle" ∧ yX7_colourToMove.cls ≠ "java/lang/invoke/VarHandle" ∧ (parseMethodDescriptor yX7_colourToMove.desc).map (fun d => d.parameters.length) = some 0) := by decide +kernel
theorem wi_X7_colourToMove : Cond.instanceMethod yX7_colourToMove ∈ WT := wt_in 1888 (by decide +kernel) (by decide +kernel)
theorem ws_X7_colourToMove : Cond.selects RX7 yX7_colourToMove yX7_colourToMove ∈ WT := wt_in 1889 (by decide +kernel) (by decide +kernel)
theorem kl_L_177 : CLV RL RX7 7 177 yX7_colourToMove cX7_colourToMove 1 (some .int) 0 := ⟨⟨_, _, rfl⟩, wm_L_177, wi_X7_colourToMove, ws_X7_colourToMove, wn_X7, wc_X7_colourToMove, hy_X7_colourToMove⟩
theorem wm_L_178 : Cond.methodLink RL 178 yX6_undoableChanges ∈ WT := wt_in 1109 (by decide +kernel) (by decide +kernel)
theorem wc_X6_undoableChanges : Cond.code yX6_undoableChanges cX6_undoableChanges 1 (some .int) ∈ WT := wt_in 1112 (by decide +kernel) (by decide +kernel)
theorem hy_X6_undoableChanges : (yX6_undoableChanges.cls = RX6 ∧ yX6_undoableChanges.cls ≠ "java/lang/invoke/MethodHandle" ∧ yX6_undoableChanges.cls ≠ "java/lang/invoke/VarHandle" ∧ (parseMethodDescriptor yX6_undoableChanges.desc).map (fun d => d.parameters.length) = some 0) := by decide +kernel
theorem wi_X6_undoableChanges : Cond.instanceMethod yX6_undoableChanges ∈ WT := wt_in 1110 (by decide +kernel) (by decide +kernel)
theorem ws_X6_undoableChanges : Cond.selects RX6 yX6_undoableChanges yX6_undoableChanges ∈ WT := wt_in 1111 (by decide +kernel) (by decide +kernel)
theorem kl_L_178 : CLV RL RX6 6 178 yX6_undoableChanges cX6_undoableChanges 1 (some .int) 0 := ⟨⟨_, _, rfl⟩, wm_L_178, wi_X6_undoableChanges, ws_X6_undoableChanges, wn_X6, wc_X6_undoableChanges, hy_X6_undoableChanges⟩
theorem wm_L_181 : Cond.methodLink RL 181 yX7_undoableChanges ∈ WT := wt_in 1891 (by decide +kernel) (by decide +kernel)
theorem wc_X7_undoableChanges : Cond.code yX7_undoableChanges cX7_undoableChanges 1 (some .int) ∈ WT := wt_in 1894 (by decide +kernel) (by decide +kernel)
theorem hy_X7_undoableChanges : (yX7_undoableChanges.cls = RX7 ∧ yX7_undoableChanges.cls ≠ "java/lang/invoke/MethodHandle" ∧ yX7_undoableChanges.cls ≠ "java/lang/invoke/VarHandle" ∧ (parseMethodDescriptor yX7_undoableChanges.desc).map (fun d => d.parameters.length) = some 0) := by decide +kernel
theorem wi_X7_undoableChanges : Cond.instanceMethod yX7_undoableChanges ∈ WT := wt_in 1892 (by decide +kernel) (by decide +kernel)
theorem ws_X7_undoableChanges : Cond.selects RX7 yX7_undoableChanges yX7_undoableChanges ∈ WT := wt_in 1893 (by decide +kernel) (by decide +kernel)
theorem kl_L_181 : CLV RL RX7 7 181 yX7_undoableChanges cX7_undoableChanges 1 (some .int) 0 := ⟨⟨_, _, rfl⟩, wm_L_181, wi_X7_undoableChanges, ws_X7_undoableChanges, wn_X7, wc_X7_undoableChanges, hy_X7_undoableChanges⟩
theorem wm_L_182 : Cond.methodLink RL 182 yL_noteKind ∈ WT := wt_in 1314 (by decide +kernel) (by decide +kernel)
theorem wcw_L_noteKind : Cond.codeWith yL_noteKind cL_noteKind 4 (some .int) [(0, 9, 12, 25)] ∈ WT := wt_in 1316 (by decide +kernel) (by decide +kernel)
theorem wt_L_noteKind : Cond.static yL_noteKind ∈ WT := wt_in 1315 (by decide +kernel) (by decide +kernel)
theorem hy_L_noteKind : (yL_noteKind.cls = RL ∧ yL_noteKind.cls ≠ "java/lang/invoke/MethodHandle" ∧ yL_noteKind.cls ≠ "java/lang/invoke/VarHandle" ∧ (parseMethodDescriptor yL_noteKind.desc).map (fun d => d.parameters.length) = some 3) := by decide +kernel
theorem kl_L_182 : CLL RL 182 yL_noteKind cL_noteKind 4 [(0, 9, 12, 25)] 3 := ⟨wm_L_182, wt_L_noteKind, wn_L, wcw_L_noteKind, hy_L_noteKind.2⟩
theorem wm_L_184 : Cond.methodLink RL 184 yX7_noteKind ∈ WT := wt_in 1895 (by decide +kernel) (by decide +kernel)
theorem wc_X7_noteKind : Cond.code yX7_noteKind cX7_noteKind 2 (some .int) ∈ WT := wt_in 1898 (by decide +kernel) (by decide +kernel)
theorem hy_X7_noteKind : (yX7_noteKind.cls = RX7 ∧ yX7_noteKind.cls ≠ "java/lang/invoke/MethodHandle" ∧ yX7_noteKind.cls ≠ "java/lang/invoke/VarHandle" ∧ (parseMethodDescriptor yX7_noteKind.desc).map (fun d => d.parameters.length) = some 1) := by decide +kernel
theorem wi_X7_noteKind : Cond.instanceMethod yX7_noteKind ∈ WT := wt_in 1896 (by decide +kernel) (by decide +kernel)
theorem ws_X7_noteKind : Cond.selects RX7 yX7_noteKind yX7_noteKind ∈ WT := wt_in 1897 (by decide +kernel) (by decide +kernel)
theorem kl_L_184 : CLV RL RX7 7 184 yX7_noteKind cX7_noteKind 2 (some .int) 1 := ⟨⟨_, _, rfl⟩, wm_L_184, wi_X7_noteKind, ws_X7_noteKind, wn_X7, wc_X7_noteKind, hy_X7_noteKind⟩
theorem wm_L_185 : Cond.methodLink RL 185 yL_noteFromColumn ∈ WT := wt_in 1321 (by decide +kernel) (by decide +kernel)
theorem wcw_L_noteFromColumn : Cond.codeWith yL_noteFromColumn cL_noteFromColumn 4 (some .int) [(0, 9, 12, 25)] ∈ WT := wt_in 1323 (by decide +kernel) (by decide +kernel)
theorem wt_L_noteFromColumn : Cond.static yL_noteFromColumn ∈ WT := wt_in 1322 (by decide +kernel) (by decide +kernel)
theorem hy_L_noteFromColumn : (yL_noteFromColumn.cls = RL ∧ yL_noteFromColumn.cls ≠ "java/lang/invoke/MethodHandle" ∧ yL_noteFromColumn.cls ≠ "java/lang/invoke/VarHandle" ∧ (parseMethodDescriptor yL_noteFromColumn.desc).map (fun d => d.parameters.length) = some 3) := by decide +kernel
theorem kl_L_185 : CLL RL 185 yL_noteFromColumn cL_noteFromColumn 4 [(0, 9, 12, 25)] 3 := ⟨wm_L_185, wt_L_noteFromColumn, wn_L, wcw_L_noteFromColumn, hy_L_noteFromColumn.2⟩
theorem wm_L_187 : Cond.methodLink RL 187 yX7_noteFromColumn ∈ WT := wt_in 1903 (by decide +kernel) (by decide +kernel)
theorem wc_X7_noteFromColumn : Cond.code yX7_noteFromColumn cX7_noteFromColumn 2 (some .int) ∈ WT := wt_in 1906 (by decide +kernel) (by decide +kernel)
theorem hy_X7_noteFromColumn : (yX7_noteFromColumn.cls = RX7 ∧ yX7_noteFromColumn.cls ≠ "java/lang/invoke/MethodHandle" ∧ yX7_noteFromColumn.cls ≠ "java/lang/invoke/VarHandle" ∧ (parseMethodDescriptor yX7_noteFromColumn.desc).map (fun d => d.parameters.length) = some 1) := by decide +kernel
theorem wi_X7_noteFromColumn : Cond.instanceMethod yX7_noteFromColumn ∈ WT := wt_in 1904 (by decide +kernel) (by decide +kernel)
theorem ws_X7_noteFromColumn : Cond.selects RX7 yX7_noteFromColumn yX7_noteFromColumn ∈ WT := wt_in 1905 (by decide +kernel) (by decide +kernel)
theorem kl_L_187 : CLV RL RX7 7 187 yX7_noteFromColumn cX7_noteFromColumn 2 (some .int) 1 := ⟨⟨_, _, rfl⟩, wm_L_187, wi_X7_noteFromColumn, ws_X7_noteFromColumn, wn_X7, wc_X7_noteFromColumn, hy_X7_noteFromColumn⟩
theorem wm_L_188 : Cond.methodLink RL 188 yL_noteFromRow ∈ WT := wt_in 1328 (by decide +kernel) (by decide +kernel)
theorem wcw_L_noteFromRow : Cond.codeWith yL_noteFromRow cL_noteFromRow 4 (some .int) [(0, 9, 12, 25)] ∈ WT := wt_in 1330 (by decide +kernel) (by decide +kernel)
theorem wt_L_noteFromRow : Cond.static yL_noteFromRow ∈ WT := wt_in 1329 (by decide +kernel) (by decide +kernel)
theorem hy_L_noteFromRow : (yL_noteFromRow.cls = RL ∧ yL_noteFromRow.cls ≠ "java/lang/invoke/MethodHandle" ∧ yL_noteFromRow.cls ≠ "java/lang/invoke/VarHandle" ∧ (parseMethodDescriptor yL_noteFromRow.desc).map (fun d => d.parameters.length) = some 3) := by decide +kernel
theorem kl_L_188 : CLL RL 188 yL_noteFromRow cL_noteFromRow 4 [(0, 9, 12, 25)] 3 := ⟨wm_L_188, wt_L_noteFromRow, wn_L, wcw_L_noteFromRow, hy_L_noteFromRow.2⟩
theorem wm_L_190 : Cond.methodLink RL 190 yX7_noteFromRow ∈ WT := wt_in 1907 (by decide +kernel) (by decide +kernel)
theorem wc_X7_noteFromRow : Cond.code yX7_noteFromRow cX7_noteFromRow 2 (some .int) ∈ WT := wt_in 1910 (by decide +kernel) (by decide +kernel)
theorem hy_X7_noteFromRow : (yX7_noteFromRow.cls = RX7 ∧ yX7_noteFromRow.cls ≠ "java/lang/invoke/MethodHandle" ∧ yX7_noteFromRow.cls ≠ "java/lang/invoke/VarHandle" ∧ (parseMethodDescriptor yX7_noteFromRow.desc).map (fun d => d.parameters.length) = some 1) := by decide +kernel
theorem wi_X7_noteFromRow : Cond.instanceMethod yX7_noteFromRow ∈ WT := wt_in 1908 (by decide +kernel) (by decide +kernel)
theorem ws_X7_noteFromRow : Cond.selects RX7 yX7_noteFromRow yX7_noteFromRow ∈ WT := wt_in 1909 (by decide +kernel) (by decide +kernel)
theorem kl_L_190 : CLV RL RX7 7 190 yX7_noteFromRow cX7_noteFromRow 2 (some .int) 1 := ⟨⟨_, _, rfl⟩, wm_L_190, wi_X7_noteFromRow, ws_X7_noteFromRow, wn_X7, wc_X7_noteFromRow, hy_X7_noteFromRow⟩
theorem wm_L_191 : Cond.methodLink RL 191 yL_noteToColumn ∈ WT := wt_in 1335 (by decide +kernel) (by decide +kernel)
theorem wcw_L_noteToColumn : Cond.codeWith yL_noteToColumn cL_noteToColumn 4 (some .int) [(0, 9, 12, 25)] ∈ WT := wt_in 1337 (by decide +kernel) (by decide +kernel)
theorem wt_L_noteToColumn : Cond.static yL_noteToColumn ∈ WT := wt_in 1336 (by decide +kernel) (by decide +kernel)
theorem hy_L_noteToColumn : (yL_noteToColumn.cls = RL ∧ yL_noteToColumn.cls ≠ "java/lang/invoke/MethodHandle" ∧ yL_noteToColumn.cls ≠ "java/lang/invoke/VarHandle" ∧ (parseMethodDescriptor yL_noteToColumn.desc).map (fun d => d.parameters.length) = some 3) := by decide +kernel
theorem kl_L_191 : CLL RL 191 yL_noteToColumn cL_noteToColumn 4 [(0, 9, 12, 25)] 3 := ⟨wm_L_191, wt_L_noteToColumn, wn_L, wcw_L_noteToColumn, hy_L_noteToColumn.2⟩
theorem wm_L_193 : Cond.methodLink RL 193 yX7_noteToColumn ∈ WT := wt_in 1911 (by decide +kernel) (by decide +kernel)
theorem wc_X7_noteToColumn : Cond.code yX7_noteToColumn cX7_noteToColumn 2 (some .int) ∈ WT := wt_in 1914 (by decide +kernel) (by decide +kernel)
theorem hy_X7_noteToColumn : (yX7_noteToColumn.cls = RX7 ∧ yX7_noteToColumn.cls ≠ "java/lang/invoke/MethodHandle" ∧ yX7_noteToColumn.cls ≠ "java/lang/invoke/VarHandle" ∧ (parseMethodDescriptor yX7_noteToColumn.desc).map (fun d => d.parameters.length) = some 1) := by decide +kernel
theorem wi_X7_noteToColumn : Cond.instanceMethod yX7_noteToColumn ∈ WT := wt_in 1912 (by decide +kernel) (by decide +kernel)
theorem ws_X7_noteToColumn : Cond.selects RX7 yX7_noteToColumn yX7_noteToColumn ∈ WT := wt_in 1913 (by decide +kernel) (by decide +kernel)
theorem kl_L_193 : CLV RL RX7 7 193 yX7_noteToColumn cX7_noteToColumn 2 (some .int) 1 := ⟨⟨_, _, rfl⟩, wm_L_193, wi_X7_noteToColumn, ws_X7_noteToColumn, wn_X7, wc_X7_noteToColumn, hy_X7_noteToColumn⟩
theorem wm_L_194 : Cond.methodLink RL 194 yL_noteToRow ∈ WT := wt_in 1342 (by decide +kernel) (by decide +kernel)
theorem wcw_L_noteToRow : Cond.codeWith yL_noteToRow cL_noteToRow 4 (some .int) [(0, 9, 12, 25)] ∈ WT := wt_in 1344 (by decide +kernel) (by decide +kernel)
theorem wt_L_noteToRow : Cond.static yL_noteToRow ∈ WT := wt_in 1343 (by decide +kernel) (by decide +kernel)
theorem hy_L_noteToRow : (yL_noteToRow.cls = RL ∧ yL_noteToRow.cls ≠ "java/lang/invoke/MethodHandle" ∧ yL_noteToRow.cls ≠ "java/lang/invoke/VarHandle" ∧ (parseMethodDescriptor yL_noteToRow.desc).map (fun d => d.parameters.length) = some 3) := by decide +kernel
theorem kl_L_194 : CLL RL 194 yL_noteToRow cL_noteToRow 4 [(0, 9, 12, 25)] 3 := ⟨wm_L_194, wt_L_noteToRow, wn_L, wcw_L_noteToRow, hy_L_noteToRow.2⟩
theorem wm_L_196 : Cond.methodLink RL 196 yX7_noteToRow ∈ WT := wt_in 1915 (by decide +kernel) (by decide +kernel)
theorem wc_X7_noteToRow : Cond.code yX7_noteToRow cX7_noteToRow 2 (some .int) ∈ WT := wt_in 1918 (by decide +kernel) (by decide +kernel)
theorem hy_X7_noteToRow : (yX7_noteToRow.cls = RX7 ∧ yX7_noteToRow.cls ≠ "java/lang/invoke/MethodHandle" ∧ yX7_noteToRow.cls ≠ "java/lang/invoke/VarHandle" ∧ (parseMethodDescriptor yX7_noteToRow.desc).map (fun d => d.parameters.length) = some 1) := by decide +kernel
theorem wi_X7_noteToRow : Cond.instanceMethod yX7_noteToRow ∈ WT := wt_in 1916 (by decide +kernel) (by decide +kernel)
theorem ws_X7_noteToRow : Cond.selects RX7 yX7_noteToRow yX7_noteToRow ∈ WT := wt_in 1917 (by decide +kernel) (by decide +kernel)
theorem kl_L_196 : CLV RL RX7 7 196 yX7_noteToRow cX7_noteToRow 2 (some .int) 1 := ⟨⟨_, _, rfl⟩, wm_L_196, wi_X7_noteToRow, ws_X7_noteToRow, wn_X7, wc_X7_noteToRow, hy_X7_noteToRow⟩
theorem wm_L_197 : Cond.methodLink RL 197 yL_noteTakes ∈ WT := wt_in 1349 (by decide +kernel) (by decide +kernel)
theorem wcw_L_noteTakes : Cond.codeWith yL_noteTakes cL_noteTakes 4 (some .int) [(0, 16, 19, 25)] ∈ WT := wt_in 1351 (by decide +kernel) (by decide +kernel)
theorem wt_L_noteTakes : Cond.static yL_noteTakes ∈ WT := wt_in 1350 (by decide +kernel) (by decide +kernel)
theorem hy_L_noteTakes : (yL_noteTakes.cls = RL ∧ yL_noteTakes.cls ≠ "java/lang/invoke/MethodHandle" ∧ yL_noteTakes.cls ≠ "java/lang/invoke/VarHandle" ∧ (parseMethodDescriptor yL_noteTakes.desc).map (fun d => d.parameters.length) = some 3) := by decide +kernel
theorem kl_L_197 : CLL RL 197 yL_noteTakes cL_noteTakes 4 [(0, 16, 19, 25)] 3 := ⟨wm_L_197, wt_L_noteTakes, wn_L, wcw_L_noteTakes, hy_L_noteTakes.2⟩
theorem wm_L_199 : Cond.methodLink RL 199 yX7_noteTakes ∈ WT := wt_in 1919 (by decide +kernel) (by decide +kernel)
theorem wc_X7_noteTakes : Cond.code yX7_noteTakes cX7_noteTakes 2 (some .boolean) ∈ WT := wt_in 1922 (by decide +kernel) (by decide +kernel)
theorem hy_X7_noteTakes : (yX7_noteTakes.cls = RX7 ∧ yX7_noteTakes.cls ≠ "java/lang/invoke/MethodHandle" ∧ yX7_noteTakes.cls ≠ "java/lang/invoke/VarHandle" ∧ (parseMethodDescriptor yX7_noteTakes.desc).map (fun d => d.parameters.length) = some 1) := by decide +kernel
theorem wi_X7_noteTakes : Cond.instanceMethod yX7_noteTakes ∈ WT := wt_in 1920 (by decide +kernel) (by decide +kernel)
theorem ws_X7_noteTakes : Cond.selects RX7 yX7_noteTakes yX7_noteTakes ∈ WT := wt_in 1921 (by decide +kernel) (by decide +kernel)
theorem kl_L_199 : CLV RL RX7 7 199 yX7_noteTakes cX7_noteTakes 2 (some .boolean) 1 := ⟨⟨_, _, rfl⟩, wm_L_199, wi_X7_noteTakes, ws_X7_noteTakes, wn_X7, wc_X7_noteTakes, hy_X7_noteTakes⟩
theorem wm_L_200 : Cond.methodLink RL 200 yL_noteChecks ∈ WT := wt_in 1356 (by decide +kernel) (by decide +kernel)
theorem wcw_L_noteChecks : Cond.codeWith yL_noteChecks cL_noteChecks 4 (some .int) [(0, 16, 19, 25)] ∈ WT := wt_in 1358 (by decide +kernel) (by decide +kernel)
theorem wt_L_noteChecks : Cond.static yL_noteChecks ∈ WT := wt_in 1357 (by decide +kernel) (by decide +kernel)
theorem hy_L_noteChecks : (yL_noteChecks.cls = RL ∧ yL_noteChecks.cls ≠ "java/lang/invoke/MethodHandle" ∧ yL_noteChecks.cls ≠ "java/lang/invoke/VarHandle" ∧ (parseMethodDescriptor yL_noteChecks.desc).map (fun d => d.parameters.length) = some 3) := by decide +kernel
theorem kl_L_200 : CLL RL 200 yL_noteChecks cL_noteChecks 4 [(0, 16, 19, 25)] 3 := ⟨wm_L_200, wt_L_noteChecks, wn_L, wcw_L_noteChecks, hy_L_noteChecks.2⟩
theorem wm_L_202 : Cond.methodLink RL 202 yX7_noteChecks ∈ WT := wt_in 1923 (by decide +kernel) (by decide +kernel)
theorem wc_X7_noteChecks : Cond.code yX7_noteChecks cX7_noteChecks 2 (some .boolean) ∈ WT := wt_in 1926 (by decide +kernel) (by decide +kernel)
theorem hy_X7_noteChecks : (yX7_noteChecks.cls = RX7 ∧ yX7_noteChecks.cls ≠ "java/lang/invoke/MethodHandle" ∧ yX7_noteChecks.cls ≠ "java/lang/invoke/VarHandle" ∧ (parseMethodDescriptor yX7_noteChecks.desc).map (fun d => d.parameters.length) = some 1) := by decide +kernel
theorem wi_X7_noteChecks : Cond.instanceMethod yX7_noteChecks ∈ WT := wt_in 1924 (by decide +kernel) (by decide +kernel)
theorem ws_X7_noteChecks : Cond.selects RX7 yX7_noteChecks yX7_noteChecks ∈ WT := wt_in 1925 (by decide +kernel) (by decide +kernel)
theorem kl_L_202 : CLV RL RX7 7 202 yX7_noteChecks cX7_noteChecks 2 (some .boolean) 1 := ⟨⟨_, _, rfl⟩, wm_L_202, wi_X7_noteChecks, ws_X7_noteChecks, wn_X7, wc_X7_noteChecks, hy_X7_noteChecks⟩
theorem wm_L_203 : Cond.methodLink RL 203 yL_positionsAfter ∈ WT := wt_in 1363 (by decide +kernel) (by decide +kernel)
theorem wcw_L_positionsAfter : Cond.codeWith yL_positionsAfter cL_positionsAfter 4 (some .int) [(0, 9, 12, 13)] ∈ WT := wt_in 1365 (by decide +kernel) (by decide +kernel)
theorem wt_L_positionsAfter : Cond.static yL_positionsAfter ∈ WT := wt_in 1364 (by decide +kernel) (by decide +kernel)
theorem hy_L_positionsAfter : (yL_positionsAfter.cls = RL ∧ yL_positionsAfter.cls ≠ "java/lang/invoke/MethodHandle" ∧ yL_positionsAfter.cls ≠ "java/lang/invoke/VarHandle" ∧ (parseMethodDescriptor yL_positionsAfter.desc).map (fun d => d.parameters.length) = some 3) := by decide +kernel
theorem kl_L_203 : CLL RL 203 yL_positionsAfter cL_positionsAfter 4 [(0, 9, 12, 13)] 3 := ⟨wm_L_203, wt_L_positionsAfter, wn_L, wcw_L_positionsAfter, hy_L_positionsAfter.2⟩
theorem wm_L_205 : Cond.methodLink RL 205 yX7_positionsAfter ∈ WT := wt_in 1927 (by decide +kernel) (by decide +kernel)
theorem wc_X7_positionsAfter : Cond.code yX7_positionsAfter cX7_positionsAfter 2 (some .int) ∈ WT := wt_in 1930 (by decide +kernel) (by decide +kernel)
theorem hy_X7_positionsAfter : (yX7_positionsAfter.cls = RX7 ∧ yX7_positionsAfter.cls ≠ "java/lang/invoke/MethodHandle" ∧ yX7_positionsAfter.cls ≠ "java/lang/invoke/VarHandle" ∧ (parseMethodDescriptor yX7_positionsAfter.desc).map (fun d => d.parameters.length) = some 1) := by decide +kernel
theorem wi_X7_positionsAfter : Cond.instanceMethod yX7_positionsAfter ∈ WT := wt_in 1928 (by decide +kernel) (by decide +kernel)
theorem ws_X7_positionsAfter : Cond.selects RX7 yX7_positionsAfter yX7_positionsAfter ∈ WT := wt_in 1929 (by decide +kernel) (by decide +kernel)
theorem kl_L_205 : CLV RL RX7 7 205 yX7_positionsAfter cX7_positionsAfter 2 (some .int) 1 := ⟨⟨_, _, rfl⟩, wm_L_205, wi_X7_positionsAfter, ws_X7_positionsAfter, wn_X7, wc_X7_positionsAfter, hy_X7_positionsAfter⟩
theorem wm_L_206 : Cond.methodLink RL 206 yL_kindAt ∈ WT := wt_in 1371 (by decide +kernel) (by decide +kernel)
theorem wcw_L_kindAt : Cond.codeWith yL_kindAt cL_kindAt 6 (some .int) [(0, 12, 15, 25)] ∈ WT := wt_in 1373 (by decide +kernel) (by decide +kernel)
theorem wt_L_kindAt : Cond.static yL_kindAt ∈ WT := wt_in 1372 (by decide +kernel) (by decide +kernel)
theorem hy_L_kindAt : (yL_kindAt.cls = RL ∧ yL_kindAt.cls ≠ "java/lang/invoke/MethodHandle" ∧ yL_kindAt.cls ≠ "java/lang/invoke/VarHandle" ∧ (parseMethodDescriptor yL_kindAt.desc).map (fun d => d.parameters.length) = some 5) := by decide +kernel
theorem kl_L_206 : CLL RL 206 yL_kindAt cL_kindAt 6 [(0, 12, 15, 25)] 5 := ⟨wm_L_206, wt_L_kindAt, wn_L, wcw_L_kindAt, hy_L_kindAt.2⟩
theorem wm_L_208 : Cond.methodLink RL 208 yX7_kindAt ∈ WT := wt_in 1931 (by decide +kernel) (by decide +kernel)
theorem wc_X7_kindAt : Cond.code yX7_kindAt cX7_kindAt 5 (some .int) ∈ WT := wt_in 1934 (by decide +kernel) (by decide +kernel)
theorem hy_X7_kindAt : (yX7_kindAt.cls = RX7 ∧ yX7_kindAt.cls ≠ "java/lang/invoke/MethodHandle" ∧ yX7_kindAt.cls ≠ "java/lang/invoke/VarHandle" ∧ (parseMethodDescriptor yX7_kindAt.desc).map (fun d => d.parameters.length) = some 3) := by decide +kernel
theorem wi_X7_kindAt : Cond.instanceMethod yX7_kindAt ∈ WT := wt_in 1932 (by decide +kernel) (by decide +kernel)
theorem ws_X7_kindAt : Cond.selects RX7 yX7_kindAt yX7_kindAt ∈ WT := wt_in 1933 (by decide +kernel) (by decide +kernel)
theorem kl_L_208 : CLV RL RX7 7 208 yX7_kindAt cX7_kindAt 5 (some .int) 3 := ⟨⟨_, _, rfl⟩, wm_L_208, wi_X7_kindAt, ws_X7_kindAt, wn_X7, wc_X7_kindAt, hy_X7_kindAt⟩
theorem wm_L_209 : Cond.methodLink RL 209 yL_colourAt ∈ WT := wt_in 1391 (by decide +kernel) (by decide +kernel)
theorem wcw_L_colourAt : Cond.codeWith yL_colourAt cL_colourAt 6 (some .int) [(0, 12, 15, 25)] ∈ WT := wt_in 1393 (by decide +kernel) (by decide +kernel)
theorem wt_L_colourAt : Cond.static yL_colourAt ∈ WT := wt_in 1392 (by decide +kernel) (by decide +kernel)
theorem hy_L_colourAt : (yL_colourAt.cls = RL ∧ yL_colourAt.cls ≠ "java/lang/invoke/MethodHandle" ∧ yL_colourAt.cls ≠ "java/lang/invoke/VarHandle" ∧ (parseMethodDescriptor yL_colourAt.desc).map (fun d => d.parameters.length) = some 5) := by decide +kernel
theorem kl_L_209 : CLL RL 209 yL_colourAt cL_colourAt 6 [(0, 12, 15, 25)] 5 := ⟨wm_L_209, wt_L_colourAt, wn_L, wcw_L_colourAt, hy_L_colourAt.2⟩
theorem wm_L_211 : Cond.methodLink RL 211 yX7_colourAt ∈ WT := wt_in 1951 (by decide +kernel) (by decide +kernel)
theorem wc_X7_colourAt : Cond.code yX7_colourAt cX7_colourAt 5 (some .int) ∈ WT := wt_in 1954 (by decide +kernel) (by decide +kernel)
theorem hy_X7_colourAt : (yX7_colourAt.cls = RX7 ∧ yX7_colourAt.cls ≠ "java/lang/invoke/MethodHandle" ∧ yX7_colourAt.cls ≠ "java/lang/invoke/VarHandle" ∧ (parseMethodDescriptor yX7_colourAt.desc).map (fun d => d.parameters.length) = some 3) := by decide +kernel
theorem wi_X7_colourAt : Cond.instanceMethod yX7_colourAt ∈ WT := wt_in 1952 (by decide +kernel) (by decide +kernel)
theorem ws_X7_colourAt : Cond.selects RX7 yX7_colourAt yX7_colourAt ∈ WT := wt_in 1953 (by decide +kernel) (by decide +kernel)
theorem kl_L_211 : CLV RL RX7 7 211 yX7_colourAt cX7_colourAt 5 (some .int) 3 := ⟨⟨_, _, rfl⟩, wm_L_211, wi_X7_colourAt, ws_X7_colourAt, wn_X7, wc_X7_colourAt, hy_X7_colourAt⟩
theorem wm_L_212 : Cond.methodLink RL 212 yL_isAttacked ∈ WT := wt_in 1399 (by decide +kernel) (by decide +kernel)
theorem wcw_L_isAttacked : Cond.codeWith yL_isAttacked cL_isAttacked 7 (some .int) [(0, 21, 24, 25), (0, 21, 28, 13)] ∈ WT := wt_in 1401 (by decide +kernel) (by decide +kernel)
theorem wt_L_isAttacked : Cond.static yL_isAttacked ∈ WT := wt_in 1400 (by decide +kernel) (by decide +kernel)
theorem hy_L_isAttacked : (yL_isAttacked.cls = RL ∧ yL_isAttacked.cls ≠ "java/lang/invoke/MethodHandle" ∧ yL_isAttacked.cls ≠ "java/lang/invoke/VarHandle" ∧ (parseMethodDescriptor yL_isAttacked.desc).map (fun d => d.parameters.length) = some 6) := by decide +kernel
theorem kl_L_212 : CLL RL 212 yL_isAttacked cL_isAttacked 7 [(0, 21, 24, 25), (0, 21, 28, 13)] 6 := ⟨wm_L_212, wt_L_isAttacked, wn_L, wcw_L_isAttacked, hy_L_isAttacked.2⟩
theorem wm_L_215 : Cond.methodLink RL 215 yX7_isAttacked ∈ WT := wt_in 1955 (by decide +kernel) (by decide +kernel)
theorem wc_X7_isAttacked : Cond.code yX7_isAttacked cX7_isAttacked 5 (some .boolean) ∈ WT := wt_in 1958 (by decide +kernel) (by decide +kernel)
theorem hy_X7_isAttacked : (yX7_isAttacked.cls = RX7 ∧ yX7_isAttacked.cls ≠ "java/lang/invoke/MethodHandle" ∧ yX7_isAttacked.cls ≠ "java/lang/invoke/VarHandle" ∧ (parseMethodDescriptor yX7_isAttacked.desc).map (fun d => d.parameters.length) = some 4) := by decide +kernel
theorem wi_X7_isAttacked : Cond.instanceMethod yX7_isAttacked ∈ WT := wt_in 1956 (by decide +kernel) (by decide +kernel)
theorem ws_X7_isAttacked : Cond.selects RX7 yX7_isAttacked yX7_isAttacked ∈ WT := wt_in 1957 (by decide +kernel) (by decide +kernel)
theorem kl_L_215 : CLV RL RX7 7 215 yX7_isAttacked cX7_isAttacked 5 (some .boolean) 4 := ⟨⟨_, _, rfl⟩, wm_L_215, wi_X7_isAttacked, ws_X7_isAttacked, wn_X7, wc_X7_isAttacked, hy_X7_isAttacked⟩
theorem wm_L_216 : Cond.methodLink RL 216 yL_legalMoves ∈ WT := wt_in 1412 (by decide +kernel) (by decide +kernel)
theorem wcw_L_legalMoves : Cond.codeWith yL_legalMoves cL_legalMoves 4 (some .int) [(0, 9, 12, 25)] ∈ WT := wt_in 1414 (by decide +kernel) (by decide +kernel)
theorem wt_L_legalMoves : Cond.static yL_legalMoves ∈ WT := wt_in 1413 (by decide +kernel) (by decide +kernel)
theorem hy_L_legalMoves : (yL_legalMoves.cls = RL ∧ yL_legalMoves.cls ≠ "java/lang/invoke/MethodHandle" ∧ yL_legalMoves.cls ≠ "java/lang/invoke/VarHandle" ∧ (parseMethodDescriptor yL_legalMoves.desc).map (fun d => d.parameters.length) = some 3) := by decide +kernel
theorem kl_L_216 : CLL RL 216 yL_legalMoves cL_legalMoves 4 [(0, 9, 12, 25)] 3 := ⟨wm_L_216, wt_L_legalMoves, wn_L, wcw_L_legalMoves, hy_L_legalMoves.2⟩
theorem wm_L_218 : Cond.methodLink RL 218 yX7_legalMoves ∈ WT := wt_in 1959 (by decide +kernel) (by decide +kernel)
theorem wc_X7_legalMoves : Cond.code yX7_legalMoves cX7_legalMoves 4 (some .int) ∈ WT := wt_in 1962 (by decide +kernel) (by decide +kernel)
theorem hy_X7_legalMoves : (yX7_legalMoves.cls = RX7 ∧ yX7_legalMoves.cls ≠ "java/lang/invoke/MethodHandle" ∧ yX7_legalMoves.cls ≠ "java/lang/invoke/VarHandle" ∧ (parseMethodDescriptor yX7_legalMoves.desc).map (fun d => d.parameters.length) = some 1) := by decide +kernel
theorem wi_X7_legalMoves : Cond.instanceMethod yX7_legalMoves ∈ WT := wt_in 1960 (by decide +kernel) (by decide +kernel)
theorem ws_X7_legalMoves : Cond.selects RX7 yX7_legalMoves yX7_legalMoves ∈ WT := wt_in 1961 (by decide +kernel) (by decide +kernel)
theorem kl_L_218 : CLV RL RX7 7 218 yX7_legalMoves cX7_legalMoves 4 (some .int) 1 := ⟨⟨_, _, rfl⟩, wm_L_218, wi_X7_legalMoves, ws_X7_legalMoves, wn_X7, wc_X7_legalMoves, hy_X7_legalMoves⟩
theorem wm_L_219 : Cond.methodLink RL 219 yL_gamesTo ∈ WT := wt_in 1420 (by decide +kernel) (by decide +kernel)
theorem wcw_L_gamesTo : Cond.codeWith yL_gamesTo cL_gamesTo 4 (some .int) [(0, 8, 11, 25)] ∈ WT := wt_in 1422 (by decide +kernel) (by decide +kernel)
theorem wt_L_gamesTo : Cond.static yL_gamesTo ∈ WT := wt_in 1421 (by decide +kernel) (by decide +kernel)
theorem hy_L_gamesTo : (yL_gamesTo.cls = RL ∧ yL_gamesTo.cls ≠ "java/lang/invoke/MethodHandle" ∧ yL_gamesTo.cls ≠ "java/lang/invoke/VarHandle" ∧ (parseMethodDescriptor yL_gamesTo.desc).map (fun d => d.parameters.length) = some 3) := by decide +kernel
theorem kl_L_219 : CLL RL 219 yL_gamesTo cL_gamesTo 4 [(0, 8, 11, 25)] 3 := ⟨wm_L_219, wt_L_gamesTo, wn_L, wcw_L_gamesTo, hy_L_gamesTo.2⟩
theorem wm_L_221 : Cond.methodLink RL 221 yX7_gamesTo ∈ WT := wt_in 1963 (by decide +kernel) (by decide +kernel)
theorem wc_X7_gamesTo : Cond.code yX7_gamesTo cX7_gamesTo 2 (some .long) ∈ WT := wt_in 1966 (by decide +kernel) (by decide +kernel)
theorem hy_X7_gamesTo : (yX7_gamesTo.cls = RX7 ∧ yX7_gamesTo.cls ≠ "java/lang/invoke/MethodHandle" ∧ yX7_gamesTo.cls ≠ "java/lang/invoke/VarHandle" ∧ (parseMethodDescriptor yX7_gamesTo.desc).map (fun d => d.parameters.length) = some 1) := by decide +kernel
theorem wi_X7_gamesTo : Cond.instanceMethod yX7_gamesTo ∈ WT := wt_in 1964 (by decide +kernel) (by decide +kernel)
theorem ws_X7_gamesTo : Cond.selects RX7 yX7_gamesTo yX7_gamesTo ∈ WT := wt_in 1965 (by decide +kernel) (by decide +kernel)
theorem kl_L_221 : CLV RL RX7 7 221 yX7_gamesTo cX7_gamesTo 2 (some .long) 1 := ⟨⟨_, _, rfl⟩, wm_L_221, wi_X7_gamesTo, ws_X7_gamesTo, wn_X7, wc_X7_gamesTo, hy_X7_gamesTo⟩
theorem wm_L_222 : Cond.methodLink RL 222 yX6_certainSquares ∈ WT := wt_in 1113 (by decide +kernel) (by decide +kernel)
theorem kl_L_222 : CLV RL RX6 6 222 yX6_certainSquares cX6_certainSquares 4 (some .int) 0 := ⟨⟨_, _, rfl⟩, wm_L_222, wi_X6_certainSquares, ws_X6_certainSquares, wn_X6, wc_X6_certainSquares, hy_X6_certainSquares⟩
theorem wm_L_225 : Cond.methodLink RL 225 yX7_certainSquares ∈ WT := wt_in 1967 (by decide +kernel) (by decide +kernel)
theorem wc_X7_certainSquares : Cond.code yX7_certainSquares cX7_certainSquares 1 (some .int) ∈ WT := wt_in 1970 (by decide +kernel) (by decide +kernel)
theorem hy_X7_certainSquares : (yX7_certainSquares.cls = RX7 ∧ yX7_certainSquares.cls ≠ "java/lang/invoke/MethodHandle" ∧ yX7_certainSquares.cls ≠ "java/lang/invoke/VarHandle" ∧ (parseMethodDescriptor yX7_certainSquares.desc).map (fun d => d.parameters.length) = some 0) := by decide +kernel
theorem wi_X7_certainSquares : Cond.instanceMethod yX7_certainSquares ∈ WT := wt_in 1968 (by decide +kernel) (by decide +kernel)
theorem ws_X7_certainSquares : Cond.selects RX7 yX7_certainSquares yX7_certainSquares ∈ WT := wt_in 1969 (by decide +kernel) (by decide +kernel)
theorem kl_L_225 : CLV RL RX7 7 225 yX7_certainSquares cX7_certainSquares 1 (some .int) 0 := ⟨⟨_, _, rfl⟩, wm_L_225, wi_X7_certainSquares, ws_X7_certainSquares, wn_X7, wc_X7_certainSquares, hy_X7_certainSquares⟩
theorem wm_L_226 : Cond.methodLink RL 226 yX6_gameCount ∈ WT := wt_in 1129 (by decide +kernel) (by decide +kernel)
theorem wc_X6_gameCount : Cond.code yX6_gameCount cX6_gameCount 1 (some .long) ∈ WT := wt_in 1132 (by decide +kernel) (by decide +kernel)
theorem hy_X6_gameCount : (yX6_gameCount.cls = RX6 ∧ yX6_gameCount.cls ≠ "java/lang/invoke/MethodHandle" ∧ yX6_gameCount.cls ≠ "java/lang/invoke/VarHandle" ∧ (parseMethodDescriptor yX6_gameCount.desc).map (fun d => d.parameters.length) = some 0) := by decide +kernel
theorem wi_X6_gameCount : Cond.instanceMethod yX6_gameCount ∈ WT := wt_in 1130 (by decide +kernel) (by decide +kernel)
theorem ws_X6_gameCount : Cond.selects RX6 yX6_gameCount yX6_gameCount ∈ WT := wt_in 1131 (by decide +kernel) (by decide +kernel)
theorem kl_L_226 : CLV RL RX6 6 226 yX6_gameCount cX6_gameCount 1 (some .long) 0 := ⟨⟨_, _, rfl⟩, wm_L_226, wi_X6_gameCount, ws_X6_gameCount, wn_X6, wc_X6_gameCount, hy_X6_gameCount⟩
theorem wm_L_230 : Cond.methodLink RL 230 yX7_gameCount ∈ WT := wt_in 1979 (by decide +kernel) (by decide +kernel)
theorem wc_X7_gameCount : Cond.code yX7_gameCount cX7_gameCount 1 (some .long) ∈ WT := wt_in 1982 (by decide +kernel) (by decide +kernel)
theorem hy_X7_gameCount : (yX7_gameCount.cls = RX7 ∧ yX7_gameCount.cls ≠ "java/lang/invoke/MethodHandle" ∧ yX7_gameCount.cls ≠ "java/lang/invoke/VarHandle" ∧ (parseMethodDescriptor yX7_gameCount.desc).map (fun d => d.parameters.length) = some 0) := by decide +kernel
theorem wi_X7_gameCount : Cond.instanceMethod yX7_gameCount ∈ WT := wt_in 1980 (by decide +kernel) (by decide +kernel)
theorem ws_X7_gameCount : Cond.selects RX7 yX7_gameCount yX7_gameCount ∈ WT := wt_in 1981 (by decide +kernel) (by decide +kernel)
theorem kl_L_230 : CLV RL RX7 7 230 yX7_gameCount cX7_gameCount 1 (some .long) 0 := ⟨⟨_, _, rfl⟩, wm_L_230, wi_X7_gameCount, ws_X7_gameCount, wn_X7, wc_X7_gameCount, hy_X7_gameCount⟩
theorem wm_L_231 : Cond.methodLink RL 231 yX6_isCertain ∈ WT := wt_in 1145 (by decide +kernel) (by decide +kernel)
theorem wc_X6_isCertain : Cond.code yX6_isCertain cX6_isCertain 1 (some .boolean) ∈ WT := wt_in 1148 (by decide +kernel) (by decide +kernel)
theorem hy_X6_isCertain : (yX6_isCertain.cls = RX6 ∧ yX6_isCertain.cls ≠ "java/lang/invoke/MethodHandle" ∧ yX6_isCertain.cls ≠ "java/lang/invoke/VarHandle" ∧ (parseMethodDescriptor yX6_isCertain.desc).map (fun d => d.parameters.length) = some 0) := by decide +kernel
theorem wi_X6_isCertain : Cond.instanceMethod yX6_isCertain ∈ WT := wt_in 1146 (by decide +kernel) (by decide +kernel)
theorem ws_X6_isCertain : Cond.selects RX6 yX6_isCertain yX6_isCertain ∈ WT := wt_in 1147 (by decide +kernel) (by decide +kernel)
theorem kl_L_231 : CLV RL RX6 6 231 yX6_isCertain cX6_isCertain 1 (some .boolean) 0 := ⟨⟨_, _, rfl⟩, wm_L_231, wi_X6_isCertain, ws_X6_isCertain, wn_X6, wc_X6_isCertain, hy_X6_isCertain⟩
theorem wm_L_235 : Cond.methodLink RL 235 yX7_isCertain ∈ WT := wt_in 1987 (by decide +kernel) (by decide +kernel)
theorem wc_X7_isCertain : Cond.code yX7_isCertain cX7_isCertain 1 (some .boolean) ∈ WT := wt_in 1990 (by decide +kernel) (by decide +kernel)
theorem hy_X7_isCertain : (yX7_isCertain.cls = RX7 ∧ yX7_isCertain.cls ≠ "java/lang/invoke/MethodHandle" ∧ yX7_isCertain.cls ≠ "java/lang/invoke/VarHandle" ∧ (parseMethodDescriptor yX7_isCertain.desc).map (fun d => d.parameters.length) = some 0) := by decide +kernel
theorem wi_X7_isCertain : Cond.instanceMethod yX7_isCertain ∈ WT := wt_in 1988 (by decide +kernel) (by decide +kernel)
theorem ws_X7_isCertain : Cond.selects RX7 yX7_isCertain yX7_isCertain ∈ WT := wt_in 1989 (by decide +kernel) (by decide +kernel)
theorem kl_L_235 : CLV RL RX7 7 235 yX7_isCertain cX7_isCertain 1 (some .boolean) 0 := ⟨⟨_, _, rfl⟩, wm_L_235, wi_X7_isCertain, ws_X7_isCertain, wn_X7, wc_X7_isCertain, hy_X7_isCertain⟩
theorem wm_L_236 : Cond.methodLink RL 236 yL_doubt ∈ WT := wt_in 1428 (by decide +kernel) (by decide +kernel)
theorem wcw_L_doubt : Cond.codeWith yL_doubt cL_doubt 4 (some .int) [(0, 9, 12, 25)] ∈ WT := wt_in 1430 (by decide +kernel) (by decide +kernel)
theorem wt_L_doubt : Cond.static yL_doubt ∈ WT := wt_in 1429 (by decide +kernel) (by decide +kernel)
theorem hy_L_doubt : (yL_doubt.cls = RL ∧ yL_doubt.cls ≠ "java/lang/invoke/MethodHandle" ∧ yL_doubt.cls ≠ "java/lang/invoke/VarHandle" ∧ (parseMethodDescriptor yL_doubt.desc).map (fun d => d.parameters.length) = some 3) := by decide +kernel
theorem kl_L_236 : CLL RL 236 yL_doubt cL_doubt 4 [(0, 9, 12, 25)] 3 := ⟨wm_L_236, wt_L_doubt, wn_L, wcw_L_doubt, hy_L_doubt.2⟩
theorem wm_L_238 : Cond.methodLink RL 238 yX7_doubt ∈ WT := wt_in 1991 (by decide +kernel) (by decide +kernel)
theorem wc_X7_doubt : Cond.code yX7_doubt cX7_doubt 2 (some .int) ∈ WT := wt_in 1994 (by decide +kernel) (by decide +kernel)
theorem hy_X7_doubt : (yX7_doubt.cls = RX7 ∧ yX7_doubt.cls ≠ "java/lang/invoke/MethodHandle" ∧ yX7_doubt.cls ≠ "java/lang/invoke/VarHandle" ∧ (parseMethodDescriptor yX7_doubt.desc).map (fun d => d.parameters.length) = some 1) := by decide +kernel
theorem wi_X7_doubt : Cond.instanceMethod yX7_doubt ∈ WT := wt_in 1992 (by decide +kernel) (by decide +kernel)
theorem ws_X7_doubt : Cond.selects RX7 yX7_doubt yX7_doubt ∈ WT := wt_in 1993 (by decide +kernel) (by decide +kernel)
theorem kl_L_238 : CLV RL RX7 7 238 yX7_doubt cX7_doubt 2 (some .int) 1 := ⟨⟨_, _, rfl⟩, wm_L_238, wi_X7_doubt, ws_X7_doubt, wn_X7, wc_X7_doubt, hy_X7_doubt⟩
theorem wm_L_239 : Cond.methodLink RL 239 yL_moveOrigin ∈ WT := wt_in 1435 (by decide +kernel) (by decide +kernel)
theorem wcw_L_moveOrigin : Cond.codeWith yL_moveOrigin cL_moveOrigin 5 (some .int) [(0, 10, 13, 25)] ∈ WT := wt_in 1437 (by decide +kernel) (by decide +kernel)
theorem wt_L_moveOrigin : Cond.static yL_moveOrigin ∈ WT := wt_in 1436 (by decide +kernel) (by decide +kernel)
theorem hy_L_moveOrigin : (yL_moveOrigin.cls = RL ∧ yL_moveOrigin.cls ≠ "java/lang/invoke/MethodHandle" ∧ yL_moveOrigin.cls ≠ "java/lang/invoke/VarHandle" ∧ (parseMethodDescriptor yL_moveOrigin.desc).map (fun d => d.parameters.length) = some 4) := by decide +kernel
theorem kl_L_239 : CLL RL 239 yL_moveOrigin cL_moveOrigin 5 [(0, 10, 13, 25)] 4 := ⟨wm_L_239, wt_L_moveOrigin, wn_L, wcw_L_moveOrigin, hy_L_moveOrigin.2⟩
theorem wm_L_242 : Cond.methodLink RL 242 yX7_moveOrigin ∈ WT := wt_in 2009 (by decide +kernel) (by decide +kernel)
theorem wc_X7_moveOrigin : Cond.code yX7_moveOrigin cX7_moveOrigin 3 (some .int) ∈ WT := wt_in 2012 (by decide +kernel) (by decide +kernel)
theorem hy_X7_moveOrigin : (yX7_moveOrigin.cls = RX7 ∧ yX7_moveOrigin.cls ≠ "java/lang/invoke/MethodHandle" ∧ yX7_moveOrigin.cls ≠ "java/lang/invoke/VarHandle" ∧ (parseMethodDescriptor yX7_moveOrigin.desc).map (fun d => d.parameters.length) = some 2) := by decide +kernel
theorem wi_X7_moveOrigin : Cond.instanceMethod yX7_moveOrigin ∈ WT := wt_in 2010 (by decide +kernel) (by decide +kernel)
theorem ws_X7_moveOrigin : Cond.selects RX7 yX7_moveOrigin yX7_moveOrigin ∈ WT := wt_in 2011 (by decide +kernel) (by decide +kernel)
theorem kl_L_242 : CLV RL RX7 7 242 yX7_moveOrigin cX7_moveOrigin 3 (some .int) 2 := ⟨⟨_, _, rfl⟩, wm_L_242, wi_X7_moveOrigin, ws_X7_moveOrigin, wn_X7, wc_X7_moveOrigin, hy_X7_moveOrigin⟩
theorem wm_L_243 : Cond.methodLink RL 243 yL_moveTarget ∈ WT := wt_in 1451 (by decide +kernel) (by decide +kernel)
theorem wcw_L_moveTarget : Cond.codeWith yL_moveTarget cL_moveTarget 5 (some .int) [(0, 10, 13, 25)] ∈ WT := wt_in 1453 (by decide +kernel) (by decide +kernel)
theorem wt_L_moveTarget : Cond.static yL_moveTarget ∈ WT := wt_in 1452 (by decide +kernel) (by decide +kernel)
theorem hy_L_moveTarget : (yL_moveTarget.cls = RL ∧ yL_moveTarget.cls ≠ "java/lang/invoke/MethodHandle" ∧ yL_moveTarget.cls ≠ "java/lang/invoke/VarHandle" ∧ (parseMethodDescriptor yL_moveTarget.desc).map (fun d => d.parameters.length) = some 4) := by decide +kernel
theorem kl_L_243 : CLL RL 243 yL_moveTarget cL_moveTarget 5 [(0, 10, 13, 25)] 4 := ⟨wm_L_243, wt_L_moveTarget, wn_L, wcw_L_moveTarget, hy_L_moveTarget.2⟩
theorem wm_L_245 : Cond.methodLink RL 245 yX7_moveTarget ∈ WT := wt_in 2021 (by decide +kernel) (by decide +kernel)
theorem wc_X7_moveTarget : Cond.code yX7_moveTarget cX7_moveTarget 3 (some .int) ∈ WT := wt_in 2024 (by decide +kernel) (by decide +kernel)
theorem hy_X7_moveTarget : (yX7_moveTarget.cls = RX7 ∧ yX7_moveTarget.cls ≠ "java/lang/invoke/MethodHandle" ∧ yX7_moveTarget.cls ≠ "java/lang/invoke/VarHandle" ∧ (parseMethodDescriptor yX7_moveTarget.desc).map (fun d => d.parameters.length) = some 2) := by decide +kernel
theorem wi_X7_moveTarget : Cond.instanceMethod yX7_moveTarget ∈ WT := wt_in 2022 (by decide +kernel) (by decide +kernel)
theorem ws_X7_moveTarget : Cond.selects RX7 yX7_moveTarget yX7_moveTarget ∈ WT := wt_in 2023 (by decide +kernel) (by decide +kernel)
theorem kl_L_245 : CLV RL RX7 7 245 yX7_moveTarget cX7_moveTarget 3 (some .int) 2 := ⟨⟨_, _, rfl⟩, wm_L_245, wi_X7_moveTarget, ws_X7_moveTarget, wn_X7, wc_X7_moveTarget, hy_X7_moveTarget⟩
theorem wm_L_246 : Cond.methodLink RL 246 yL_gamesWithMove ∈ WT := wt_in 1458 (by decide +kernel) (by decide +kernel)
theorem wcw_L_gamesWithMove : Cond.codeWith yL_gamesWithMove cL_gamesWithMove 5 (some .int) [(0, 9, 12, 25)] ∈ WT := wt_in 1460 (by decide +kernel) (by decide +kernel)
theorem wt_L_gamesWithMove : Cond.static yL_gamesWithMove ∈ WT := wt_in 1459 (by decide +kernel) (by decide +kernel)
theorem hy_L_gamesWithMove : (yL_gamesWithMove.cls = RL ∧ yL_gamesWithMove.cls ≠ "java/lang/invoke/MethodHandle" ∧ yL_gamesWithMove.cls ≠ "java/lang/invoke/VarHandle" ∧ (parseMethodDescriptor yL_gamesWithMove.desc).map (fun d => d.parameters.length) = some 4) := by decide +kernel
theorem kl_L_246 : CLL RL 246 yL_gamesWithMove cL_gamesWithMove 5 [(0, 9, 12, 25)] 4 := ⟨wm_L_246, wt_L_gamesWithMove, wn_L, wcw_L_gamesWithMove, hy_L_gamesWithMove.2⟩
theorem wm_L_248 : Cond.methodLink RL 248 yX7_gamesWithMove ∈ WT := wt_in 2025 (by decide +kernel) (by decide +kernel)
theorem wc_X7_gamesWithMove : Cond.code yX7_gamesWithMove cX7_gamesWithMove 3 (some .long) ∈ WT := wt_in 2028 (by decide +kernel) (by decide +kernel)
theorem hy_X7_gamesWithMove : (yX7_gamesWithMove.cls = RX7 ∧ yX7_gamesWithMove.cls ≠ "java/lang/invoke/MethodHandle" ∧ yX7_gamesWithMove.cls ≠ "java/lang/invoke/VarHandle" ∧ (parseMethodDescriptor yX7_gamesWithMove.desc).map (fun d => d.parameters.length) = some 2) := by decide +kernel
theorem wi_X7_gamesWithMove : Cond.instanceMethod yX7_gamesWithMove ∈ WT := wt_in 2026 (by decide +kernel) (by decide +kernel)
theorem ws_X7_gamesWithMove : Cond.selects RX7 yX7_gamesWithMove yX7_gamesWithMove ∈ WT := wt_in 2027 (by decide +kernel) (by decide +kernel)
theorem kl_L_248 : CLV RL RX7 7 248 yX7_gamesWithMove cX7_gamesWithMove 3 (some .long) 2 := ⟨⟨_, _, rfl⟩, wm_L_248, wi_X7_gamesWithMove, ws_X7_gamesWithMove, wn_X7, wc_X7_gamesWithMove, hy_X7_gamesWithMove⟩
theorem wm_L_249 : Cond.methodLink RL 249 yL_gamesWithPiece ∈ WT := wt_in 1465 (by decide +kernel) (by decide +kernel)
theorem wcw_L_gamesWithPiece : Cond.codeWith yL_gamesWithPiece cL_gamesWithPiece 7 (some .int) [(0, 13, 16, 25), (0, 13, 20, 13)] ∈ WT := wt_in 1467 (by decide +kernel) (by decide +kernel)
theorem wt_L_gamesWithPiece : Cond.static yL_gamesWithPiece ∈ WT := wt_in 1466 (by decide +kernel) (by decide +kernel)
theorem hy_L_gamesWithPiece : (yL_gamesWithPiece.cls = RL ∧ yL_gamesWithPiece.cls ≠ "java/lang/invoke/MethodHandle" ∧ yL_gamesWithPiece.cls ≠ "java/lang/invoke/VarHandle" ∧ (parseMethodDescriptor yL_gamesWithPiece.desc).map (fun d => d.parameters.length) = some 6) := by decide +kernel
theorem kl_L_249 : CLL RL 249 yL_gamesWithPiece cL_gamesWithPiece 7 [(0, 13, 16, 25), (0, 13, 20, 13)] 6 := ⟨wm_L_249, wt_L_gamesWithPiece, wn_L, wcw_L_gamesWithPiece, hy_L_gamesWithPiece.2⟩
theorem wm_L_251 : Cond.methodLink RL 251 yX7_gamesWithPiece ∈ WT := wt_in 2033 (by decide +kernel) (by decide +kernel)
theorem wc_X7_gamesWithPiece : Cond.code yX7_gamesWithPiece cX7_gamesWithPiece 8 (some .long) ∈ WT := wt_in 2036 (by decide +kernel) (by decide +kernel)
theorem hy_X7_gamesWithPiece : (yX7_gamesWithPiece.cls = RX7 ∧ yX7_gamesWithPiece.cls ≠ "java/lang/invoke/MethodHandle" ∧ yX7_gamesWithPiece.cls ≠ "java/lang/invoke/VarHandle" ∧ (parseMethodDescriptor yX7_gamesWithPiece.desc).map (fun d => d.parameters.length) = some 4) := by decide +kernel
theorem wi_X7_gamesWithPiece : Cond.instanceMethod yX7_gamesWithPiece ∈ WT := wt_in 2034 (by decide +kernel) (by decide +kernel)
theorem ws_X7_gamesWithPiece : Cond.selects RX7 yX7_gamesWithPiece yX7_gamesWithPiece ∈ WT := wt_in 2035 (by decide +kernel) (by decide +kernel)
theorem kl_L_251 : CLV RL RX7 7 251 yX7_gamesWithPiece cX7_gamesWithPiece 8 (some .long) 4 := ⟨⟨_, _, rfl⟩, wm_L_251, wi_X7_gamesWithPiece, ws_X7_gamesWithPiece, wn_X7, wc_X7_gamesWithPiece, hy_X7_gamesWithPiece⟩
theorem wm_L_252 : Cond.methodLink RL 252 yX6_mostDoubtfulNote ∈ WT := wt_in 1149 (by decide +kernel) (by decide +kernel)
theorem wc_X6_mostDoubtfulNote : Cond.code yX6_mostDoubtfulNote cX6_mostDoubtfulNote 5 (some .int) ∈ WT := wt_in 1152 (by decide +kernel) (by decide +kernel)
theorem hy_X6_mostDoubtfulNote : (yX6_mostDoubtfulNote.cls = RX6 ∧ yX6_mostDoubtfulNote.cls ≠ "java/lang/invoke/MethodHandle" ∧ yX6_mostDoubtfulNote.cls ≠ "java/lang/invoke/VarHandle" ∧ (parseMethodDescriptor yX6_mostDoubtfulNote.desc).map (fun d => d.parameters.length) = some 0) := by decide +kernel
theorem wi_X6_mostDoubtfulNote : Cond.instanceMethod yX6_mostDoubtfulNote ∈ WT := wt_in 1150 (by decide +kernel) (by decide +kernel)
theorem ws_X6_mostDoubtfulNote : Cond.selects RX6 yX6_mostDoubtfulNote yX6_mostDoubtfulNote ∈ WT := wt_in 1151 (by decide +kernel) (by decide +kernel)
theorem kl_L_252 : CLV RL RX6 6 252 yX6_mostDoubtfulNote cX6_mostDoubtfulNote 5 (some .int) 0 := ⟨⟨_, _, rfl⟩, wm_L_252, wi_X6_mostDoubtfulNote, ws_X6_mostDoubtfulNote, wn_X6, wc_X6_mostDoubtfulNote, hy_X6_mostDoubtfulNote⟩
theorem wm_L_255 : Cond.methodLink RL 255 yX7_mostDoubtfulNote ∈ WT := wt_in 2037 (by decide +kernel) (by decide +kernel)
theorem wc_X7_mostDoubtfulNote : Cond.code yX7_mostDoubtfulNote cX7_mostDoubtfulNote 5 (some .int) ∈ WT := wt_in 2040 (by decide +kernel) (by decide +kernel)
theorem hy_X7_mostDoubtfulNote : (yX7_mostDoubtfulNote.cls = RX7 ∧ yX7_mostDoubtfulNote.cls ≠ "java/lang/invoke/MethodHandle" ∧ yX7_mostDoubtfulNote.cls ≠ "java/lang/invoke/VarHandle" ∧ (parseMethodDescriptor yX7_mostDoubtfulNote.desc).map (fun d => d.parameters.length) = some 0) := by decide +kernel
theorem wi_X7_mostDoubtfulNote : Cond.instanceMethod yX7_mostDoubtfulNote ∈ WT := wt_in 2038 (by decide +kernel) (by decide +kernel)
theorem ws_X7_mostDoubtfulNote : Cond.selects RX7 yX7_mostDoubtfulNote yX7_mostDoubtfulNote ∈ WT := wt_in 2039 (by decide +kernel) (by decide +kernel)
theorem kl_L_255 : CLV RL RX7 7 255 yX7_mostDoubtfulNote cX7_mostDoubtfulNote 5 (some .int) 0 := ⟨⟨_, _, rfl⟩, wm_L_255, wi_X7_mostDoubtfulNote, ws_X7_mostDoubtfulNote, wn_X7, wc_X7_mostDoubtfulNote, hy_X7_mostDoubtfulNote⟩
theorem wm_L_256 : Cond.methodLink RL 256 yL_gamesIfNoted ∈ WT := wt_in 1474 (by decide +kernel) (by decide +kernel)
theorem wcw_L_gamesIfNoted : Cond.codeWith yL_gamesIfNoted cL_gamesIfNoted 9 (some .int) [(0, 17, 20, 13)] ∈ WT := wt_in 1476 (by decide +kernel) (by decide +kernel)
theorem wt_L_gamesIfNoted : Cond.static yL_gamesIfNoted ∈ WT := wt_in 1475 (by decide +kernel) (by decide +kernel)
theorem hy_L_gamesIfNoted : (yL_gamesIfNoted.cls = RL ∧ yL_gamesIfNoted.cls ≠ "java/lang/invoke/MethodHandle" ∧ yL_gamesIfNoted.cls ≠ "java/lang/invoke/VarHandle" ∧ (parseMethodDescriptor yL_gamesIfNoted.desc).map (fun d => d.parameters.length) = some 8) := by decide +kernel
theorem kl_L_256 : CLL RL 256 yL_gamesIfNoted cL_gamesIfNoted 9 [(0, 17, 20, 13)] 8 := ⟨wm_L_256, wt_L_gamesIfNoted, wn_L, wcw_L_gamesIfNoted, hy_L_gamesIfNoted.2⟩
theorem wm_L_258 : Cond.methodLink RL 258 yX7_gamesIfNoted ∈ WT := wt_in 2041 (by decide +kernel) (by decide +kernel)
theorem wc_X7_gamesIfNoted : Cond.code yX7_gamesIfNoted cX7_gamesIfNoted 10 (some .long) ∈ WT := wt_in 2044 (by decide +kernel) (by decide +kernel)
theorem hy_X7_gamesIfNoted : (yX7_gamesIfNoted.cls = RX7 ∧ yX7_gamesIfNoted.cls ≠ "java/lang/invoke/MethodHandle" ∧ yX7_gamesIfNoted.cls ≠ "java/lang/invoke/VarHandle" ∧ (parseMethodDescriptor yX7_gamesIfNoted.desc).map (fun d => d.parameters.length) = some 6) := by decide +kernel
theorem wi_X7_gamesIfNoted : Cond.instanceMethod yX7_gamesIfNoted ∈ WT := wt_in 2042 (by decide +kernel) (by decide +kernel)
theorem ws_X7_gamesIfNoted : Cond.selects RX7 yX7_gamesIfNoted yX7_gamesIfNoted ∈ WT := wt_in 2043 (by decide +kernel) (by decide +kernel)
theorem kl_L_258 : CLV RL RX7 7 258 yX7_gamesIfNoted cX7_gamesIfNoted 10 (some .long) 6 := ⟨⟨_, _, rfl⟩, wm_L_258, wi_X7_gamesIfNoted, ws_X7_gamesIfNoted, wn_X7, wc_X7_gamesIfNoted, hy_X7_gamesIfNoted⟩
theorem wm_L_259 : Cond.methodLink RL 259 yX6_inconsistencies ∈ WT := wt_in 1166 (by decide +kernel) (by decide +kernel)
theorem wc_X6_inconsistencies : Cond.code yX6_inconsistencies cX6_inconsistencies 5 (some .int) ∈ WT := wt_in 1169 (by decide +kernel) (by decide +kernel)
theorem hy_X6_inconsistencies : (yX6_inconsistencies.cls = RX6 ∧ yX6_inconsistencies.cls ≠ "java/lang/invoke/MethodHandle" ∧ yX6_inconsistencies.cls ≠ "java/lang/invoke/VarHandle" ∧ (parseMethodDescriptor yX6_inconsistencies.desc).map (fun d => d.parameters.length) = some 0) := by decide +kernel
theorem wi_X6_inconsistencies : Cond.instanceMethod yX6_inconsistencies ∈ WT := wt_in 1167 (by decide +kernel) (by decide +kernel)
theorem ws_X6_inconsistencies : Cond.selects RX6 yX6_inconsistencies yX6_inconsistencies ∈ WT := wt_in 1168 (by decide +kernel) (by decide +kernel)
theorem kl_L_259 : CLV RL RX6 6 259 yX6_inconsistencies cX6_inconsistencies 5 (some .int) 0 := ⟨⟨_, _, rfl⟩, wm_L_259, wi_X6_inconsistencies, ws_X6_inconsistencies, wn_X6, wc_X6_inconsistencies, hy_X6_inconsistencies⟩
theorem wm_L_262 : Cond.methodLink RL 262 yX7_inconsistencies ∈ WT := wt_in 2046 (by decide +kernel) (by decide +kernel)
theorem wc_X7_inconsistencies : Cond.code yX7_inconsistencies cX7_inconsistencies 8 (some .int) ∈ WT := wt_in 2049 (by decide +kernel) (by decide +kernel)
theorem hy_X7_inconsistencies : (yX7_inconsistencies.cls = RX7 ∧ yX7_inconsistencies.cls ≠ "java/lang/invoke/MethodHandle" ∧ yX7_inconsistencies.cls ≠ "java/lang/invoke/VarHandle" ∧ (parseMethodDescriptor yX7_inconsistencies.desc).map (fun d => d.parameters.length) = some 0) := by decide +kernel
theorem wi_X7_inconsistencies : Cond.instanceMethod yX7_inconsistencies ∈ WT := wt_in 2047 (by decide +kernel) (by decide +kernel)
theorem ws_X7_inconsistencies : Cond.selects RX7 yX7_inconsistencies yX7_inconsistencies ∈ WT := wt_in 2048 (by decide +kernel) (by decide +kernel)
theorem kl_L_262 : CLV RL RX7 7 262 yX7_inconsistencies cX7_inconsistencies 8 (some .int) 0 := ⟨⟨_, _, rfl⟩, wm_L_262, wi_X7_inconsistencies, ws_X7_inconsistencies, wn_X7, wc_X7_inconsistencies, hy_X7_inconsistencies⟩
theorem wm_L_263 : Cond.methodLink RL 263 yX6_meanGames ∈ WT := wt_in 1190 (by decide +kernel) (by decide +kernel)
theorem wc_X6_meanGames : Cond.code yX6_meanGames cX6_meanGames 2 (some .double) ∈ WT := wt_in 1193 (by decide +kernel) (by decide +kernel)
theorem hy_X6_meanGames : (yX6_meanGames.cls = RX6 ∧ yX6_meanGames.cls ≠ "java/lang/invoke/MethodHandle" ∧ yX6_meanGames.cls ≠ "java/lang/invoke/VarHandle" ∧ (parseMethodDescriptor yX6_meanGames.desc).map (fun d => d.parameters.length) = some 0) := by decide +kernel
theorem wi_X6_meanGames : Cond.instanceMethod yX6_meanGames ∈ WT := wt_in 1191 (by decide +kernel) (by decide +kernel)
theorem ws_X6_meanGames : Cond.selects RX6 yX6_meanGames yX6_meanGames ∈ WT := wt_in 1192 (by decide +kernel) (by decide +kernel)
theorem kl_L_263 : CLV RL RX6 6 263 yX6_meanGames cX6_meanGames 2 (some .double) 0 := ⟨⟨_, _, rfl⟩, wm_L_263, wi_X6_meanGames, ws_X6_meanGames, wn_X6, wc_X6_meanGames, hy_X6_meanGames⟩
theorem wm_L_267 : Cond.methodLink RL 267 yX7_meanGames ∈ WT := wt_in 2058 (by decide +kernel) (by decide +kernel)
theorem wc_X7_meanGames : Cond.code yX7_meanGames cX7_meanGames 1 (some .double) ∈ WT := wt_in 2061 (by decide +kernel) (by decide +kernel)
theorem hy_X7_meanGames : (yX7_meanGames.cls = RX7 ∧ yX7_meanGames.cls ≠ "java/lang/invoke/MethodHandle" ∧ yX7_meanGames.cls ≠ "java/lang/invoke/VarHandle" ∧ (parseMethodDescriptor yX7_meanGames.desc).map (fun d => d.parameters.length) = some 0) := by decide +kernel
theorem wi_X7_meanGames : Cond.instanceMethod yX7_meanGames ∈ WT := wt_in 2059 (by decide +kernel) (by decide +kernel)
theorem ws_X7_meanGames : Cond.selects RX7 yX7_meanGames yX7_meanGames ∈ WT := wt_in 2060 (by decide +kernel) (by decide +kernel)
theorem kl_L_267 : CLV RL RX7 7 267 yX7_meanGames cX7_meanGames 1 (some .double) 0 := ⟨⟨_, _, rfl⟩, wm_L_267, wi_X7_meanGames, ws_X7_meanGames, wn_X7, wc_X7_meanGames, hy_X7_meanGames⟩
theorem wm_L_268 : Cond.methodLink RL 268 yX6_certainShare ∈ WT := wt_in 1194 (by decide +kernel) (by decide +kernel)
theorem wc_X6_certainShare : Cond.code yX6_certainShare cX6_certainShare 2 (some .float) ∈ WT := wt_in 1197 (by decide +kernel) (by decide +kernel)
theorem hy_X6_certainShare : (yX6_certainShare.cls = RX6 ∧ yX6_certainShare.cls ≠ "java/lang/invoke/MethodHandle" ∧ yX6_certainShare.cls ≠ "java/lang/invoke/VarHandle" ∧ (parseMethodDescriptor yX6_certainShare.desc).map (fun d => d.parameters.length) = some 0) := by decide +kernel
theorem wi_X6_certainShare : Cond.instanceMethod yX6_certainShare ∈ WT := wt_in 1195 (by decide +kernel) (by decide +kernel)
theorem ws_X6_certainShare : Cond.selects RX6 yX6_certainShare yX6_certainShare ∈ WT := wt_in 1196 (by decide +kernel) (by decide +kernel)
theorem kl_L_268 : CLV RL RX6 6 268 yX6_certainShare cX6_certainShare 2 (some .float) 0 := ⟨⟨_, _, rfl⟩, wm_L_268, wi_X6_certainShare, ws_X6_certainShare, wn_X6, wc_X6_certainShare, hy_X6_certainShare⟩
theorem wm_L_272 : Cond.methodLink RL 272 yX7_certainShare ∈ WT := wt_in 2062 (by decide +kernel) (by decide +kernel)
theorem wc_X7_certainShare : Cond.code yX7_certainShare cX7_certainShare 1 (some .float) ∈ WT := wt_in 2065 (by decide +kernel) (by decide +kernel)
theorem hy_X7_certainShare : (yX7_certainShare.cls = RX7 ∧ yX7_certainShare.cls ≠ "java/lang/invoke/MethodHandle" ∧ yX7_certainShare.cls ≠ "java/lang/invoke/VarHandle" ∧ (parseMethodDescriptor yX7_certainShare.desc).map (fun d => d.parameters.length) = some 0) := by decide +kernel
theorem wi_X7_certainShare : Cond.instanceMethod yX7_certainShare ∈ WT := wt_in 2063 (by decide +kernel) (by decide +kernel)
theorem ws_X7_certainShare : Cond.selects RX7 yX7_certainShare yX7_certainShare ∈ WT := wt_in 2064 (by decide +kernel) (by decide +kernel)
theorem kl_L_272 : CLV RL RX7 7 272 yX7_certainShare cX7_certainShare 1 (some .float) 0 := ⟨⟨_, _, rfl⟩, wm_L_272, wi_X7_certainShare, ws_X7_certainShare, wn_X7, wc_X7_certainShare, hy_X7_certainShare⟩
theorem wm_L_273 : Cond.methodLink RL 273 yL_writePosition ∈ WT := wt_in 1481 (by decide +kernel) (by decide +kernel)
theorem wcw_L_writePosition : Cond.codeWith yL_writePosition cL_writePosition 4 (some .int) [(0, 9, 12, 25)] ∈ WT := wt_in 1483 (by decide +kernel) (by decide +kernel)
theorem wt_L_writePosition : Cond.static yL_writePosition ∈ WT := wt_in 1482 (by decide +kernel) (by decide +kernel)
theorem hy_L_writePosition : (yL_writePosition.cls = RL ∧ yL_writePosition.cls ≠ "java/lang/invoke/MethodHandle" ∧ yL_writePosition.cls ≠ "java/lang/invoke/VarHandle" ∧ (parseMethodDescriptor yL_writePosition.desc).map (fun d => d.parameters.length) = some 3) := by decide +kernel
theorem kl_L_273 : CLL RL 273 yL_writePosition cL_writePosition 4 [(0, 9, 12, 25)] 3 := ⟨wm_L_273, wt_L_writePosition, wn_L, wcw_L_writePosition, hy_L_writePosition.2⟩
theorem wm_L_275 : Cond.methodLink RL 275 yX7_writePosition ∈ WT := wt_in 2066 (by decide +kernel) (by decide +kernel)
theorem wc_X7_writePosition : Cond.code yX7_writePosition cX7_writePosition 4 (some .int) ∈ WT := wt_in 2069 (by decide +kernel) (by decide +kernel)
theorem hy_X7_writePosition : (yX7_writePosition.cls = RX7 ∧ yX7_writePosition.cls ≠ "java/lang/invoke/MethodHandle" ∧ yX7_writePosition.cls ≠ "java/lang/invoke/VarHandle" ∧ (parseMethodDescriptor yX7_writePosition.desc).map (fun d => d.parameters.length) = some 1) := by decide +kernel
theorem wi_X7_writePosition : Cond.instanceMethod yX7_writePosition ∈ WT := wt_in 2067 (by decide +kernel) (by decide +kernel)
theorem ws_X7_writePosition : Cond.selects RX7 yX7_writePosition yX7_writePosition ∈ WT := wt_in 2068 (by decide +kernel) (by decide +kernel)
theorem kl_L_275 : CLV RL RX7 7 275 yX7_writePosition cX7_writePosition 4 (some .int) 1 := ⟨⟨_, _, rfl⟩, wm_L_275, wi_X7_writePosition, ws_X7_writePosition, wn_X7, wc_X7_writePosition, hy_X7_writePosition⟩
theorem wm_L_276 : Cond.methodLink RL 276 yX6_outputByte ∈ WT := wt_in 1199 (by decide +kernel) (by decide +kernel)
theorem wc_X6_outputByte : Cond.code yX6_outputByte cX6_outputByte 2 (some .int) ∈ WT := wt_in 1202 (by decide +kernel) (by decide +kernel)
theorem hy_X6_outputByte : (yX6_outputByte.cls = RX6 ∧ yX6_outputByte.cls ≠ "java/lang/invoke/MethodHandle" ∧ yX6_outputByte.cls ≠ "java/lang/invoke/VarHandle" ∧ (parseMethodDescriptor yX6_outputByte.desc).map (fun d => d.parameters.length) = some 1) := by decide +kernel
theorem wi_X6_outputByte : Cond.instanceMethod yX6_outputByte ∈ WT := wt_in 1200 (by decide +kernel) (by decide +kernel)
theorem ws_X6_outputByte : Cond.selects RX6 yX6_outputByte yX6_outputByte ∈ WT := wt_in 1201 (by decide +kernel) (by decide +kernel)
theorem kl_L_276 : CLV RL RX6 6 276 yX6_outputByte cX6_outputByte 2 (some .int) 1 := ⟨⟨_, _, rfl⟩, wm_L_276, wi_X6_outputByte, ws_X6_outputByte, wn_X6, wc_X6_outputByte, hy_X6_outputByte⟩
theorem wm_L_279 : Cond.methodLink RL 279 yX7_outputByte ∈ WT := wt_in 2077 (by decide +kernel) (by decide +kernel)
theorem wc_X7_outputByte : Cond.code yX7_outputByte cX7_outputByte 2 (some .int) ∈ WT := wt_in 2080 (by decide +kernel) (by decide +kernel)
theorem hy_X7_outputByte : (yX7_outputByte.cls = RX7 ∧ yX7_outputByte.cls ≠ "java/lang/invoke/MethodHandle" ∧ yX7_outputByte.cls ≠ "java/lang/invoke/VarHandle" ∧ (parseMethodDescriptor yX7_outputByte.desc).map (fun d => d.parameters.length) = some 1) := by decide +kernel
theorem wi_X7_outputByte : Cond.instanceMethod yX7_outputByte ∈ WT := wt_in 2078 (by decide +kernel) (by decide +kernel)
theorem ws_X7_outputByte : Cond.selects RX7 yX7_outputByte yX7_outputByte ∈ WT := wt_in 2079 (by decide +kernel) (by decide +kernel)
theorem kl_L_279 : CLV RL RX7 7 279 yX7_outputByte cX7_outputByte 2 (some .int) 1 := ⟨⟨_, _, rfl⟩, wm_L_279, wi_X7_outputByte, ws_X7_outputByte, wn_X7, wc_X7_outputByte, hy_X7_outputByte⟩
theorem wc_X6_init : Cond.code yX6_init cX6_init 2 none ∈ WT := wt_in 129 (by decide +kernel) (by decide +kernel)
theorem hy_X6_init : (yX6_init.cls = RX6 ∧ yX6_init.cls ≠ "java/lang/invoke/MethodHandle" ∧ yX6_init.cls ≠ "java/lang/invoke/VarHandle" ∧ (parseMethodDescriptor yX6_init.desc).map (fun d => d.parameters.length) = some 0) := by decide +kernel
theorem wi_X6_init : Cond.instanceMethod yX6_init ∈ WT := wt_in 128 (by decide +kernel) (by decide +kernel)
theorem wm_L_107 : Cond.methodLink RL 107 yX6_init ∈ WT := wt_in 127 (by decide +kernel) (by decide +kernel)
theorem kl_L_107 : CLI RL 107 yX6_init cX6_init 2 0 := ⟨Or.inl wm_L_107, wi_X6_init, wn_X6, wc_X6_init, rfl, hy_X6_init.2⟩
theorem wc_X7_init : Cond.code yX7_init cX7_init 1 none ∈ WT := wt_in 1501 (by decide +kernel) (by decide +kernel)
theorem hy_X7_init : (yX7_init.cls = RX7 ∧ yX7_init.cls ≠ "java/lang/invoke/MethodHandle" ∧ yX7_init.cls ≠ "java/lang/invoke/VarHandle" ∧ (parseMethodDescriptor yX7_init.desc).map (fun d => d.parameters.length) = some 0) := by decide +kernel
theorem wi_X7_init : Cond.instanceMethod yX7_init ∈ WT := wt_in 1500 (by decide +kernel) (by decide +kernel)
theorem wm_L_110 : Cond.methodLink RL 110 yX7_init ∈ WT := wt_in 1499 (by decide +kernel) (by decide +kernel)
theorem kl_L_110 : CLI RL 110 yX7_init cX7_init 1 0 := ⟨Or.inl wm_L_110, wi_X7_init, wn_X7, wc_X7_init, rfl, hy_X7_init.2⟩
theorem wl_L_8 : Cond.classLink RL 8 RX6 ∈ WT := wt_in 125 (by decide +kernel) (by decide +kernel)
theorem wx_X6 : Cond.instantiable RX6 12 ∈ WT := wt_in 126 (by decide +kernel) (by decide +kernel)
theorem df_X6 : ∀ j, j < 12 → defaultValue (tyX6 j) = if (fk (6 + 10)).getD j false = true then .null else .int 0 := fun j hj => by
  rcases (show j = 0 ∨ j = 1 ∨ j = 2 ∨ j = 3 ∨ j = 4 ∨ j = 5 ∨ j = 6 ∨ j = 7 ∨ j = 8 ∨ j = 9 ∨ j = 10 ∨ j = 11 by omega) with rfl | rfl | rfl | rfl | rfl | rfl | rfl | rfl | rfl | rfl | rfl | rfl <;> rfl
theorem wl_L_108 : Cond.classLink RL 108 RX7 ∈ WT := wt_in 1497 (by decide +kernel) (by decide +kernel)
theorem wx_X7 : Cond.instantiable RX7 27 ∈ WT := wt_in 1498 (by decide +kernel) (by decide +kernel)
theorem df_X7 : ∀ j, j < 27 → defaultValue (tyX7 j) = if (fk (7 + 10)).getD j false = true then .null else .int 0 := fun j hj => by
  rcases (show j = 0 ∨ j = 1 ∨ j = 2 ∨ j = 3 ∨ j = 4 ∨ j = 5 ∨ j = 6 ∨ j = 7 ∨ j = 8 ∨ j = 9 ∨ j = 10 ∨ j = 11 ∨ j = 12 ∨ j = 13 ∨ j = 14 ∨ j = 15 ∨ j = 16 ∨ j = 17 ∨ j = 18 ∨ j = 19 ∨ j = 20 ∨ j = 21 ∨ j = 22 ∨ j = 23 ∨ j = 24 ∨ j = 25 ∨ j = 26 by omega) with rfl | rfl | rfl | rfl | rfl | rfl | rfl | rfl | rfl | rfl | rfl | rfl | rfl | rfl | rfl | rfl | rfl | rfl | rfl | rfl | rfl | rfl | rfl | rfl | rfl | rfl | rfl <;> rfl
