/-! every word of AW stands in the tables -/
theorem il_app {a b : List Cond} (ha : ∀ w ∈ a, w ∈ lw_tbl) (hb : ∀ w ∈ b, w ∈ lw_tbl) : ∀ w ∈ a ++ b, w ∈ lw_tbl := fun w h => (List.mem_append.mp h).elim (ha w) (hb w)
set_option maxRecDepth 100000 in
theorem il_x0 : ∀ w ∈ akx0, w ∈ lw_tbl := by decide +kernel
set_option maxRecDepth 100000 in
theorem il_x1 : ∀ w ∈ akx1, w ∈ lw_tbl := by decide +kernel
set_option maxRecDepth 100000 in
theorem il_x2 : ∀ w ∈ akx2, w ∈ lw_tbl := by decide +kernel
set_option maxRecDepth 100000 in
theorem il_w8 : ∀ w ∈ wsX80, w ∈ lw_tbl := by decide +kernel
set_option maxRecDepth 100000 in
theorem il_w9 : ∀ w ∈ wsX90, w ∈ lw_tbl := by decide +kernel
set_option maxRecDepth 100000 in
theorem il_w2 : ∀ w ∈ wsX20, w ∈ lw_tbl := by decide +kernel
set_option maxRecDepth 100000 in
theorem il_w3 : ∀ w ∈ wsX30, w ∈ lw_tbl := by decide +kernel
set_option maxRecDepth 100000 in
theorem il_w6 : ∀ w ∈ wsX60, w ∈ lw_tbl := by decide +kernel
set_option maxRecDepth 100000 in
theorem il_w4 : ∀ w ∈ wsX40, w ∈ lw_tbl := by decide +kernel
set_option maxRecDepth 100000 in
theorem il_w7 : ∀ w ∈ wsX70, w ∈ lw_tbl := by decide +kernel
set_option maxRecDepth 100000 in
theorem il_w5 : ∀ w ∈ wsX50, w ∈ lw_tbl := by decide +kernel
theorem AW_in : ∀ w ∈ AW, w ∈ lw_tbl := il_app il_ak1 (il_app il_ak2 (il_app il_ak3 (il_app il_ak4 (il_app il_ak5 (il_app il_ak6 (il_app il_ak7 (il_app il_ak8 (il_app il_ak9 (il_app il_ak10 (il_app il_ak11 (il_app il_ak12 (il_app il_ak13 (il_app il_ak14 (il_app il_ak15 (il_app il_ak16 (il_app il_ak17 (il_app il_ak18 (il_app il_ak19 (il_app il_ak20 (il_app il_ak21 (il_app il_ak22 (il_app il_ak23 (il_app il_ak24 (il_app il_ak25 (il_app il_ak26 (il_app il_ak27 (il_app il_ak28 (il_app il_ak29 (il_app il_ak30 (il_app il_ak31 (il_app il_ak32 (il_app il_ak33 (il_app il_ak34 (il_app il_ak35 (il_app il_ak36 (il_app il_ak37 (il_app il_ak38 (il_app il_ak39 (il_app il_ak40 (il_app il_ak41 (il_app il_ak42 (il_app il_ak43 (il_app il_ak44 (il_app il_ak45 (il_app il_ak46 (il_app il_ak47 (il_app il_ak48 (il_app il_ak49 (il_app il_ak50 (il_app il_w8 (il_app il_w9 (il_app il_w2 (il_app il_w3 (il_app il_w6 (il_app il_w4 (il_app il_w7 (il_app il_w5 (il_app il_x0 (il_app il_x1 il_x2)))))))))))))))))))))))))))))))))))))))))))))))))))))))))))
