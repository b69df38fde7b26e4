/-! the code of every method but the law -/
theorem chkC_0 : ((List.range 20).map (· + 0)).all chkC = true := by decide +kernel
theorem chkC_20 : ((List.range 20).map (· + 20)).all chkC = true := by decide +kernel
theorem chkC_40 : ((List.range 20).map (· + 40)).all chkC = true := by decide +kernel
theorem chkC_60 : ((List.range 20).map (· + 60)).all chkC = true := by decide +kernel
theorem chkC_80 : ((List.range 20).map (· + 80)).all chkC = true := by decide +kernel
theorem chkC_100 : ((List.range 20).map (· + 100)).all chkC = true := by decide +kernel
theorem chkC_120 : ((List.range 20).map (· + 120)).all chkC = true := by decide +kernel
theorem chkC_140 : ((List.range 20).map (· + 140)).all chkC = true := by decide +kernel
theorem chkC_160 : ((List.range 20).map (· + 160)).all chkC = true := by decide +kernel
theorem chkC_180 : ((List.range 20).map (· + 180)).all chkC = true := by decide +kernel
theorem chkC_200 : ((List.range 20).map (· + 200)).all chkC = true := by decide +kernel
theorem chkC_220 : ((List.range 20).map (· + 220)).all chkC = true := by decide +kernel
theorem chkC_240 : ((List.range 17).map (· + 240)).all chkC = true := by decide +kernel
