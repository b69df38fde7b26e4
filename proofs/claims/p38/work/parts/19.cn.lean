/-! more constants as numbers -/
theorem cn_bipush_9 : (Int8.ofInt 9).toInt32 = (9 : Int32) := by decide
theorem cn_bipush_25 : (Int8.ofInt 25).toInt32 = (25 : Int32) := by decide
theorem cn_bipush_26 : (Int8.ofInt 26).toInt32 = (26 : Int32) := by decide
theorem cn_bipush_11 : (Int8.ofInt 11).toInt32 = (11 : Int32) := by decide
theorem cn_bipush_19 : (Int8.ofInt 19).toInt32 = (19 : Int32) := by decide
theorem cn_bipush_51 : (Int8.ofInt 51).toInt32 = (51 : Int32) := by decide
theorem cn_bipush_53 : (Int8.ofInt 53).toInt32 = (53 : Int32) := by decide
theorem cn_sipush_1998 : (Int16.ofInt 1998).toInt32 = (1998 : Int32) := by decide
theorem cn_iconst_20 : Int32.ofInt 20 = (20 : Int32) := by decide
