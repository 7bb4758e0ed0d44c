/-! the rows of the methods of J1 -/
def mJ1_charAt_3b067 : xM := (yJ1_charAt_3b067, cJ1_charAt_3b067, 2, (some .char), [
  [(0, (.iload_n 1, 1, 0, 0, 0, 0, 0, 0, [])), (1, (.aload_n 0, 2, 0, 0, 0, 0, 0, 0, [])), (2, (.arraylength, 3, 0, 0, 0, 0, 0, 0, [])), (3, (.invokestatic 9, 6, 0, 0, 0, 0, 0, 472, [])), (6, (.aload_n 0, 7, 0, 0, 0, 0, 0, 0, [])), (7, (.iload_n 1, 8, 0, 0, 0, 0, 0, 0, [])), (8, (.baload, 9, 0, 0, 0, 0, 0, 0, [])), (9, (.sipush 255, 12, 0, 255, 0, 0, 0, 0, [])), (12, (.iand, 13, 0, 0, 0, 0, 0, 0, [])), (13, (.i2c, 14, 0, 0, 0, 0, 0, 0, [])), (14, (.ireturn, 15, 0, 0, 0, 0, 0, 0, []))]])
set_option maxRecDepth 100000 in
theorem kJ1_charAt_3b067 : xMk mJ1_charAt_3b067 = true := by decide +kernel
set_option maxRecDepth 100000 in
theorem bJ1_charAt_3b067 : xcB mJ1_charAt_3b067 1 2 = true := by decide +kernel
