/-! The checks of methods 140 to 153: every block of each fits the tables. -/
theorem ck_140 : xchk 140 = true := by decide +kernel
theorem ck_141 : xchk 141 = true := by decide +kernel
theorem ck_142 : xchk 142 = true := by decide +kernel
theorem ck_143 : xchk 143 = true := by decide +kernel
theorem ck_144 : xchk 144 = true := by decide +kernel
theorem ck_145 : xchk 145 = true := by decide +kernel
theorem ck_146 : xchk 146 = true := by decide +kernel
theorem ck_147 : xchk 147 = true := by decide +kernel
theorem ck_148 : xchk 148 = true := by decide +kernel
theorem ck_149 : xchk 149 = true := by decide +kernel
theorem ck_150 : xchk 150 = true := by decide +kernel
theorem ck_151 : xchk 151 = true := by decide +kernel
theorem ck_152 : xchk 152 = true := by decide +kernel
theorem ck_153 : xchk 153 = true := by decide +kernel
