/-! the run of the broken() of the class, over the live cells -/
set_option maxRecDepth 100000 in
theorem ev_run2 : ev_call 8 25 [.ref 2] ev_wQ = some (some (.int 0), ev_wQ, 0) := @of_decide_eq_true _ (ev_dO ev_dR _ _) (by decide +kernel)
