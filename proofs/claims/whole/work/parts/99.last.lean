theorem zz_1 : ((vx_atS RX11 249 "java/lang/IllegalArgumentException" ["java/lang/RuntimeException", "java/lang/Exception"]).all (fun w => lwg.contains w || lwx.contains w)) = true := by decide +kernel
theorem zz_2 : (lw_tbl.all (fun w => goodWord w || okX w)) = true := by decide +kernel
