/-! the run of the broken() of the reference -/
set_option maxRecDepth 100000 in
theorem ev_run3 : (ev_call 8 42 [.ref 3] ev_wQ).map (fun q => (q.1, q.2.1.take 89, q.2.1.length, q.2.2)) = some (some (.int 0), ev_wQ, 551, 2094) := @of_decide_eq_true _ (ev_dO ev_dR2 _ _) (by decide +kernel)
