/-! The classes' links are what the tables say -/
set_option maxRecDepth 20000 in
theorem pX_ok_RJ6 : px_ctxB pX_RJ6 = true := by decide +kernel
set_option maxRecDepth 20000 in
theorem pX_ok_RL : px_ctxB pX_RL = true := by decide +kernel
set_option maxRecDepth 20000 in
theorem pX_ok_RX0 : px_ctxB pX_RX0 = true := by decide +kernel
set_option maxRecDepth 20000 in
theorem pX_ok_RX1 : px_ctxB pX_RX1 = true := by decide +kernel
set_option maxRecDepth 20000 in
theorem pX_ok_RX10 : px_ctxB pX_RX10 = true := by decide +kernel
set_option maxRecDepth 20000 in
theorem pX_ok_RX11 : px_ctxB pX_RX11 = true := by decide +kernel
set_option maxRecDepth 20000 in
theorem pX_ok_RX2 : px_ctxB pX_RX2 = true := by decide +kernel
set_option maxRecDepth 20000 in
theorem pX_ok_RX3 : px_ctxB pX_RX3 = true := by decide +kernel
set_option maxRecDepth 20000 in
theorem pX_ok_RX4 : px_ctxB pX_RX4 = true := by decide +kernel
set_option maxRecDepth 20000 in
theorem pX_ok_RX5 : px_ctxB pX_RX5 = true := by decide +kernel
set_option maxRecDepth 20000 in
theorem pX_ok_RX6 : px_ctxB pX_RX6 = true := by decide +kernel
set_option maxRecDepth 20000 in
theorem pX_ok_RX7 : px_ctxB pX_RX7 = true := by decide +kernel
set_option maxRecDepth 20000 in
theorem pX_ok_RX8 : px_ctxB pX_RX8 = true := by decide +kernel
set_option maxRecDepth 20000 in
theorem pX_ok_RX9 : px_ctxB pX_RX9 = true := by decide +kernel
/-- how deep calls may go: a number that nobody counts down by chance -/
theorem px_n10_ex : ∃ n : Nat, n = 10 := ⟨_, rfl⟩
noncomputable def px_n10 : Nat := Classical.choose px_n10_ex
theorem px_n10_eq : px_n10 = 10 := Classical.choose_spec px_n10_ex
/-- how deep calls may go: a number that nobody counts down by chance -/
theorem px_n100_ex : ∃ n : Nat, n = 100 := ⟨_, rfl⟩
noncomputable def px_n100 : Nat := Classical.choose px_n100_ex
theorem px_n100_eq : px_n100 = 100 := Classical.choose_spec px_n100_ex
