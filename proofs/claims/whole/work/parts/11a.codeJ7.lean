/-! the rows of the methods of J7 -/
def mJ7_fill_53178 : xM := (yJ7_fill_53178, cJ7_fill_53178, 4, none, [
  [(0, (.iconst 0, 1, 0, 0, 0, 0, 0, 0, [])), (1, (.istore_n 2, 2, 0, 0, 0, 0, 0, 0, [])), (2, (.aload_n 0, 3, 0, 0, 0, 0, 0, 0, [])), (3, (.arraylength, 4, 0, 0, 0, 0, 0, 0, [])), (4, (.istore_n 3, 5, 0, 0, 0, 0, 0, 0, [])), (5, (.iload_n 2, 6, 0, 0, 0, 0, 0, 0, [])), (6, (.iload_n 3, 7, 0, 0, 0, 0, 0, 0, [])), (7, (.if_icmp .ge 13, 10, 20, 0, 0, 0, 0, 0, [])), (10, (.aload_n 0, 11, 0, 0, 0, 0, 0, 0, [])), (11, (.iload_n 2, 12, 0, 0, 0, 0, 0, 0, [])), (12, (.iload_n 1, 13, 0, 0, 0, 0, 0, 0, [])), (13, (.iastore, 14, 0, 0, 0, 0, 0, 0, [])), (14, (.iinc 2 1, 17, 0, 1, 0, 0, 0, 0, []))],
  [(17, (.goto (-12), 20, 5, 0, 0, 0, 0, 0, [])), (20, (.return_, 21, 0, 0, 0, 0, 0, 0, []))]])
set_option maxRecDepth 100000 in
theorem kJ7_fill_53178 : xMk mJ7_fill_53178 = true := by decide +kernel
set_option maxRecDepth 100000 in
theorem bJ7_fill_53178 : xcB mJ7_fill_53178 1 2 = true := by decide +kernel
