set_option maxRecDepth 20000 in
theorem nestM_in : ∀ q ∈ nestM, Cond.methodLinkNest q.1 q.2.1 q.2.2 "PailChain" ∈ lw_tbl := by decide +kernel
set_option maxRecDepth 20000 in
theorem nestF_in : ∀ q ∈ nestF, Cond.fieldLinkNest q.1 q.2 "PailChain" "MOVES" "[I" "PailChain" ∈ lw_tbl := by decide +kernel
