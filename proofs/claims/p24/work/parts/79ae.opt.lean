theorem opT_9 : okT9 (topL (2147483648 + 9) (2147483648 + 9)) = true := by decide +kernel
theorem opT_10 : okT10 (topL (2147483648 + 10) (2147483648 + 10)) = true := by decide +kernel
theorem opT_11 : okT11 (topL (2147483648 + 11) (2147483648 + 11)) = true := by decide +kernel
