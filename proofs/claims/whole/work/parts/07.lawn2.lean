set_option maxRecDepth 20000 in
theorem wsL_in_r27 : ∀ w ∈ wsL_law_r27, w ∈ lw_tbl := fun w h => (goodIn_p wsL_law_r27 [654, 659, 663, 667, 925, 671] (by decide +kernel) (by decide +kernel) w h).1
set_option maxRecDepth 20000 in
theorem wsL_in_r28 : ∀ w ∈ wsL_law_r28, w ∈ lw_tbl := fun w h => (goodIn_p wsL_law_r28 [929] (by decide +kernel) (by decide +kernel) w h).1
set_option maxRecDepth 20000 in
theorem wsL_in_wsX80 : ∀ w ∈ wsX80, w ∈ lw_tbl := fun w h => (goodIn_p wsX80 [] (by decide +kernel) (by decide +kernel) w h).1
set_option maxRecDepth 20000 in
theorem wsL_in_wsX90 : ∀ w ∈ wsX90, w ∈ lw_tbl := fun w h => (goodIn_p wsX90 [] (by decide +kernel) (by decide +kernel) w h).1
set_option maxRecDepth 20000 in
theorem wsL_in_wsX60 : ∀ w ∈ wsX60, w ∈ lw_tbl := fun w h => (goodIn_p wsX60 [] (by decide +kernel) (by decide +kernel) w h).1
set_option maxRecDepth 20000 in
theorem wsL_in_wsX50 : ∀ w ∈ wsX50, w ∈ lw_tbl := fun w h => (goodIn_p wsX50 [] (by decide +kernel) (by decide +kernel) w h).1
set_option maxRecDepth 20000 in
theorem wsL_in_wsX30 : ∀ w ∈ wsX30, w ∈ lw_tbl := fun w h => (goodIn_p wsX30 [] (by decide +kernel) (by decide +kernel) w h).1
set_option maxRecDepth 20000 in
theorem wsL_in_wsX00 : ∀ w ∈ wsX00, w ∈ lw_tbl := fun w h => (goodIn_p wsX00 [] (by decide +kernel) (by decide +kernel) w h).1
set_option maxRecDepth 20000 in
theorem wsL_in_wsX20 : ∀ w ∈ wsX20, w ∈ lw_tbl := fun w h => (goodIn_p wsX20 [] (by decide +kernel) (by decide +kernel) w h).1
set_option maxRecDepth 20000 in
theorem wsL_in_wsX10 : ∀ w ∈ wsX10, w ∈ lw_tbl := fun w h => (goodIn_p wsX10 [] (by decide +kernel) (by decide +kernel) w h).1
set_option maxRecDepth 20000 in
theorem wsL_in_wsX40 : ∀ w ∈ wsX40, w ∈ lw_tbl := fun w h => (goodIn_p wsX40 [] (by decide +kernel) (by decide +kernel) w h).1
set_option maxRecDepth 20000 in
theorem wsL_in_wsX70 : ∀ w ∈ wsX70, w ∈ lw_tbl := fun w h => (goodIn_p wsX70 [] (by decide +kernel) (by decide +kernel) w h).1
theorem wsL_law_in : ∀ w ∈ wsL_law, w ∈ lw_tbl := fun w h => ((List.mem_append.mp h).elim (fun h => ((List.mem_append.mp h).elim (fun h => ((List.mem_append.mp h).elim (fun h => ((List.mem_append.mp h).elim (fun h => ((List.mem_append.mp h).elim (fun h => ((List.mem_append.mp h).elim (fun h => ((List.mem_append.mp h).elim (fun h => ((List.mem_append.mp h).elim (fun h => ((List.mem_append.mp h).elim (fun h => ((List.mem_append.mp h).elim (fun h => ((List.mem_append.mp h).elim (fun h => ((List.mem_append.mp h).elim (fun h => (wsL_in_r1 w h)) (fun h => ((List.mem_append.mp h).elim (fun h => (wsL_in_r2 w h)) (fun h => ((List.mem_append.mp h).elim (fun h => (wsL_in_r3 w h)) (fun h => ((List.mem_append.mp h).elim (fun h => (wsL_in_r4 w h)) (fun h => ((List.mem_append.mp h).elim (fun h => (wsL_in_r5 w h)) (fun h => ((List.mem_append.mp h).elim (fun h => (wsL_in_r6 w h)) (fun h => ((List.mem_append.mp h).elim (fun h => (wsL_in_r7 w h)) (fun h => ((List.mem_append.mp h).elim (fun h => (wsL_in_r8 w h)) (fun h => ((List.mem_append.mp h).elim (fun h => (wsL_in_r9 w h)) (fun h => ((List.mem_append.mp h).elim (fun h => (wsL_in_r10 w h)) (fun h => ((List.mem_append.mp h).elim (fun h => (wsL_in_r11 w h)) (fun h => ((List.mem_append.mp h).elim (fun h => (wsL_in_r12 w h)) (fun h => ((List.mem_append.mp h).elim (fun h => (wsL_in_r13 w h)) (fun h => ((List.mem_append.mp h).elim (fun h => (wsL_in_r14 w h)) (fun h => ((List.mem_append.mp h).elim (fun h => (wsL_in_r15 w h)) (fun h => ((List.mem_append.mp h).elim (fun h => (wsL_in_r16 w h)) (fun h => ((List.mem_append.mp h).elim (fun h => (wsL_in_r17 w h)) (fun h => ((List.mem_append.mp h).elim (fun h => (wsL_in_r18 w h)) (fun h => ((List.mem_append.mp h).elim (fun h => (wsL_in_r19 w h)) (fun h => ((List.mem_append.mp h).elim (fun h => (wsL_in_r20 w h)) (fun h => ((List.mem_append.mp h).elim (fun h => (wsL_in_r21 w h)) (fun h => ((List.mem_append.mp h).elim (fun h => (wsL_in_r22 w h)) (fun h => ((List.mem_append.mp h).elim (fun h => (wsL_in_r23 w h)) (fun h => ((List.mem_append.mp h).elim (fun h => (wsL_in_r24 w h)) (fun h => ((List.mem_append.mp h).elim (fun h => (wsL_in_r25 w h)) (fun h => ((List.mem_append.mp h).elim (fun h => (wsL_in_r26 w h)) (fun h => ((List.mem_append.mp h).elim (fun h => (wsL_in_r27 w h)) (fun h => (wsL_in_r28 w h)))))))))))))))))))))))))))))))))))))))))))))))))))))))) (fun h => (wsL_in_wsX80 w h)))) (fun h => (wsL_in_wsX90 w h)))) (fun h => (wsL_in_wsX60 w h)))) (fun h => (wsL_in_wsX50 w h)))) (fun h => (wsL_in_wsX30 w h)))) (fun h => (wsL_in_wsX00 w h)))) (fun h => (wsL_in_wsX20 w h)))) (fun h => (wsL_in_wsX10 w h)))) (fun h => (wsL_in_wsX40 w h)))) (fun h => (wsL_in_wsX70 w h)))) (fun h => (absurd h List.not_mem_nil)))
