/-! the law's own rows; and all of them -/
set_option maxRecDepth 100000 in
theorem ai_kl0 : ((ar_293.drop 0).take 60).all (ai_row am_293) = true := by decide +kernel
set_option maxRecDepth 100000 in
theorem ai_kl1 : ((ar_293.drop 60).take 60).all (ai_row am_293) = true := by decide +kernel
set_option maxRecDepth 100000 in
theorem ai_kl2 : ((ar_293.drop 120).take 60).all (ai_row am_293) = true := by decide +kernel
set_option maxRecDepth 100000 in
theorem ai_kl3 : ((ar_293.drop 180).take 60).all (ai_row am_293) = true := by decide +kernel
set_option maxRecDepth 100000 in
theorem ai_kl4 : ((ar_293.drop 240).take 60).all (ai_row am_293) = true := by decide +kernel
set_option maxRecDepth 100000 in
theorem ai_kl5 : ((ar_293.drop 300).take 60).all (ai_row am_293) = true := by decide +kernel
set_option maxRecDepth 100000 in
theorem ai_kl6 : ((ar_293.drop 360).take 60).all (ai_row am_293) = true := by decide +kernel
set_option maxRecDepth 100000 in
theorem ai_kl7 : ((ar_293.drop 420).take 60).all (ai_row am_293) = true := by decide +kernel
set_option maxRecDepth 100000 in
theorem ai_kl8 : ((ar_293.drop 480).take 60).all (ai_row am_293) = true := by decide +kernel
set_option maxRecDepth 100000 in
theorem ai_kl9 : ((ar_293.drop 540).take 60).all (ai_row am_293) = true := by decide +kernel
set_option maxRecDepth 100000 in
theorem ai_kl10 : ((ar_293.drop 600).take 60).all (ai_row am_293) = true := by decide +kernel
set_option maxRecDepth 100000 in
theorem ai_kl11 : ((ar_293.drop 660).take 60).all (ai_row am_293) = true := by decide +kernel
set_option maxRecDepth 100000 in
theorem ai_kl12 : ((ar_293.drop 720).take 60).all (ai_row am_293) = true := by decide +kernel
set_option maxRecDepth 100000 in
theorem ai_kl13 : ((ar_293.drop 780).take 60).all (ai_row am_293) = true := by decide +kernel
set_option maxRecDepth 100000 in
theorem ai_kl14 : ((ar_293.drop 840).take 60).all (ai_row am_293) = true := by decide +kernel
set_option maxRecDepth 100000 in
theorem ai_kl15 : ((ar_293.drop 900).take 60).all (ai_row am_293) = true := by decide +kernel
set_option maxRecDepth 100000 in
theorem ai_kl16 : ((ar_293.drop 960).take 60).all (ai_row am_293) = true := by decide +kernel
set_option maxRecDepth 100000 in
theorem ai_kl17 : ((ar_293.drop 1020).take 60).all (ai_row am_293) = true := by decide +kernel
set_option maxRecDepth 100000 in
theorem ai_kl18 : ((ar_293.drop 1080).take 60).all (ai_row am_293) = true := by decide +kernel
set_option maxRecDepth 100000 in
theorem ai_kl19 : ((ar_293.drop 1140).take 60).all (ai_row am_293) = true := by decide +kernel
set_option maxRecDepth 100000 in
theorem ai_kl20 : ((ar_293.drop 1200).take 60).all (ai_row am_293) = true := by decide +kernel
set_option maxRecDepth 100000 in
theorem ai_klc : ai_cont ar_293 = true := by decide +kernel
