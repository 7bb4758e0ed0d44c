/-! the rows of the methods of J0 -/
def mJ0_length_8abf5 : xM := (yJ0_length_8abf5, cJ0_length_8abf5, 1, (some .int), [
  [(0, (.aload_n 0, 1, 0, 0, 0, 0, 0, 0, [])), (1, (.getfield 9, 4, 0, 0, 0, 100, 0, 1216, [])), (4, (.arraylength, 5, 0, 0, 0, 0, 0, 0, [])), (5, (.aload_n 0, 6, 0, 0, 0, 0, 0, 0, [])), (6, (.invokevirtual 335, 9, 0, 0, 0, 0, 0, 454, [])), (9, (.ishr, 10, 0, 0, 0, 0, 0, 0, [])), (10, (.ireturn, 11, 0, 0, 0, 0, 0, 0, []))]])
set_option maxRecDepth 100000 in
theorem kJ0_length_8abf5 : xMk mJ0_length_8abf5 = true := by decide +kernel
set_option maxRecDepth 100000 in
theorem bJ0_length_8abf5 : xcB mJ0_length_8abf5 0 0 = true := by decide +kernel
def mJ0_charAt_5068e : xM := (yJ0_charAt_5068e, cJ0_charAt_5068e, 2, (some .char), [
  [(0, (.aload_n 0, 1, 0, 0, 0, 0, 0, 0, [])), (1, (.invokevirtual 492, 4, 0, 0, 0, 0, 0, 465, [])), (4, (.ifCond .eq 12, 7, 16, 0, 0, 0, 0, 0, [])), (7, (.aload_n 0, 8, 0, 0, 0, 0, 0, 0, [])), (8, (.getfield 9, 11, 0, 0, 0, 100, 0, 1216, [])), (11, (.iload_n 1, 12, 0, 0, 0, 0, 0, 0, [])), (12, (.invokestatic 495, 15, 0, 0, 0, 0, 0, 469, [])), (15, (.ireturn, 16, 0, 0, 0, 0, 0, 0, []))],
  [(16, (.aload_n 0, 17, 0, 0, 0, 0, 0, 0, [])), (17, (.getfield 9, 20, 0, 0, 0, 100, 0, 1216, [])), (20, (.iload_n 1, 21, 0, 0, 0, 0, 0, 0, [])), (21, (.invokestatic 498, 24, 0, 0, 0, 0, 0, 480, [])), (24, (.ireturn, 25, 0, 0, 0, 0, 0, 0, []))]])
set_option maxRecDepth 100000 in
theorem kJ0_charAt_5068e : xMk mJ0_charAt_5068e = true := by decide +kernel
set_option maxRecDepth 100000 in
theorem bJ0_charAt_5068e : xcB mJ0_charAt_5068e 0 1 = true := by decide +kernel
def mJ0_coder_7d493 : xM := (yJ0_coder_7d493, cJ0_coder_7d493, 1, (some .byte), [
  [(0, (.getstatic 38, 3, 0, 0, 0, 2, 0, 458, [])), (3, (.ifCond .eq 10, 6, 13, 0, 0, 0, 0, 0, [])), (6, (.aload_n 0, 7, 0, 0, 0, 0, 0, 0, [])), (7, (.getfield 15, 10, 0, 0, 0, 100, 1, 1217, [])), (10, (.goto 4, 13, 14, 0, 0, 0, 0, 0, [])), (13, (.iconst 1, 14, 0, 1, 0, 0, 0, 0, [])), (14, (.ireturn, 15, 0, 0, 0, 0, 0, 0, []))]])
set_option maxRecDepth 100000 in
theorem kJ0_coder_7d493 : xMk mJ0_coder_7d493 = true := by decide +kernel
set_option maxRecDepth 100000 in
theorem bJ0_coder_7d493 : xcB mJ0_coder_7d493 0 0 = true := by decide +kernel
def mJ0_isLatin1_aae02 : xM := (yJ0_isLatin1_aae02, cJ0_isLatin1_aae02, 1, (some .boolean), [
  [(0, (.getstatic 38, 3, 0, 0, 0, 2, 0, 458, [])), (3, (.ifCond .eq 14, 6, 17, 0, 0, 0, 0, 0, [])), (6, (.aload_n 0, 7, 0, 0, 0, 0, 0, 0, [])), (7, (.getfield 15, 10, 0, 0, 0, 100, 1, 1217, [])), (10, (.ifCond .ne 7, 13, 17, 0, 0, 0, 0, 0, [])), (13, (.iconst 1, 14, 0, 1, 0, 0, 0, 0, [])), (14, (.goto 4, 17, 18, 0, 0, 0, 0, 0, []))],
  [(17, (.iconst 0, 18, 0, 0, 0, 0, 0, 0, [])), (18, (.ireturn, 19, 0, 0, 0, 0, 0, 0, []))]])
set_option maxRecDepth 100000 in
theorem kJ0_isLatin1_aae02 : xMk mJ0_isLatin1_aae02 = true := by decide +kernel
set_option maxRecDepth 100000 in
theorem bJ0_isLatin1_aae02 : xcB mJ0_isLatin1_aae02 0 0 = true := by decide +kernel
