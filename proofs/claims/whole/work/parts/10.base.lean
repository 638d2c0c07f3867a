theorem zz_test : lw_tbl.all goodWord = true := by decide +kernel
