/-! the rows of the two checks of an index -/
def mJ3_checkIndex_8e157 : xM := (yJ3_checkIndex_8e157, cJ3_checkIndex_8e157, 3, (some .int), [
  [(0, (.iload_n 0, 1, 0, 0, 0, 0, 0, 0, [])), (1, (.ifCond .lt 8, 4, 9, 0, 0, 0, 0, 0, [])), (4, (.iload_n 0, 5, 0, 0, 0, 0, 0, 0, [])), (5, (.iload_n 1, 6, 0, 0, 0, 0, 0, 0, [])), (6, (.if_icmp .lt 10, 9, 16, 0, 0, 0, 0, 0, []))],
  [(16, (.iload_n 0, 17, 0, 0, 0, 0, 0, 0, [])), (17, (.ireturn, 18, 0, 0, 0, 0, 0, 0, []))]])
set_option maxRecDepth 100000 in
theorem kJ3_checkIndex_8e157 : xMk mJ3_checkIndex_8e157 = true := by decide +kernel
set_option maxRecDepth 100000 in
theorem bJ3_checkIndex_8e157 : xcB mJ3_checkIndex_8e157 1 3 = true := by decide +kernel
def mJ0_checkIndex_df160 : xM := (yJ0_checkIndex_df160, cJ0_checkIndex_df160, 2, none, [
  [(0, (.iload_n 0, 1, 0, 0, 0, 0, 0, 0, [])), (1, (.iload_n 1, 2, 0, 0, 0, 0, 0, 0, [])), (2, (.getstatic 1053, 5, 0, 0, 0, 3, 0, 475, [])), (5, (.invokestatic 1059, 8, 0, 0, 0, 0, 0, 477, [])), (8, (.pop, 9, 0, 0, 0, 0, 0, 0, [])), (9, (.return_, 10, 0, 0, 0, 0, 0, 0, []))]])
set_option maxRecDepth 100000 in
theorem kJ0_checkIndex_df160 : xMk mJ0_checkIndex_df160 = true := by decide +kernel
set_option maxRecDepth 100000 in
theorem bJ0_checkIndex_df160 : xcB mJ0_checkIndex_df160 1 2 = true := by decide +kernel
