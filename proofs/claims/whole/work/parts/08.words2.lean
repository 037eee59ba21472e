set_option maxRecDepth 20000 in
theorem inA0 : ∀ w ∈ u_ws RX0 TX0 3, w ∈ lw_all := fun w h => List.mem_filter.mpr (by have := List.all_eq_true.mp (by decide +kernel : (u_ws RX0 TX0 3).all (fun w => decide (w ∈ lw_tbl) && goodWord w) = true) w h; simpa [Bool.and_eq_true] using this)
set_option maxRecDepth 20000 in
theorem inA1 : ∀ w ∈ u_ws RX1 TX1 11, w ∈ lw_all := fun w h => List.mem_filter.mpr (by have := List.all_eq_true.mp (by decide +kernel : (u_ws RX1 TX1 11).all (fun w => decide (w ∈ lw_tbl) && goodWord w) = true) w h; simpa [Bool.and_eq_true] using this)
set_option maxRecDepth 20000 in
theorem inA2 : ∀ w ∈ u_ws RX2 TX2 5, w ∈ lw_all := fun w h => List.mem_filter.mpr (by have := List.all_eq_true.mp (by decide +kernel : (u_ws RX2 TX2 5).all (fun w => decide (w ∈ lw_tbl) && goodWord w) = true) w h; simpa [Bool.and_eq_true] using this)
set_option maxRecDepth 20000 in
theorem inA3 : ∀ w ∈ u_ws RX3 TX3 5, w ∈ lw_all := fun w h => List.mem_filter.mpr (by have := List.all_eq_true.mp (by decide +kernel : (u_ws RX3 TX3 5).all (fun w => decide (w ∈ lw_tbl) && goodWord w) = true) w h; simpa [Bool.and_eq_true] using this)
set_option maxRecDepth 20000 in
theorem inA4 : ∀ w ∈ u_ws RX4 TX4 5, w ∈ lw_all := fun w h => List.mem_filter.mpr (by have := List.all_eq_true.mp (by decide +kernel : (u_ws RX4 TX4 5).all (fun w => decide (w ∈ lw_tbl) && goodWord w) = true) w h; simpa [Bool.and_eq_true] using this)
set_option maxRecDepth 20000 in
theorem inA5 : ∀ w ∈ u_ws RX5 TX5 11, w ∈ lw_all := fun w h => List.mem_filter.mpr (by have := List.all_eq_true.mp (by decide +kernel : (u_ws RX5 TX5 11).all (fun w => decide (w ∈ lw_tbl) && goodWord w) = true) w h; simpa [Bool.and_eq_true] using this)
set_option maxRecDepth 20000 in
theorem inA6 : ∀ w ∈ u_ws RX6 TX6 18, w ∈ lw_all := fun w h => List.mem_filter.mpr (by have := List.all_eq_true.mp (by decide +kernel : (u_ws RX6 TX6 18).all (fun w => decide (w ∈ lw_tbl) && goodWord w) = true) w h; simpa [Bool.and_eq_true] using this)
set_option maxRecDepth 20000 in
theorem inA7 : ∀ w ∈ u_ws RX7 TX7 57, w ∈ lw_all := fun w h => List.mem_filter.mpr (by have := List.all_eq_true.mp (by decide +kernel : (u_ws RX7 TX7 57).all (fun w => decide (w ∈ lw_tbl) && goodWord w) = true) w h; simpa [Bool.and_eq_true] using this)
