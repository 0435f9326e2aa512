theorem zz : (lw_tbl.length, (lw_tbl.filter (fun w => !goodWord w)).length) = (0, 0) := by decide +kernel
theorem zz2 : (lw_tbl.filter (fun w => !goodWord w)) = [] := by rfl
