/-! the rows of the methods of X5 -/
def mX5_init : xM := (yX5_init, cX5_init, 1, none, [
  [(0, (.aload_n 0, 1, 0, 0, 0, 0, 0, 0, [])), (1, (.invokespecial 3, 4, 0, 0, 0, 1, 0, 31, [])), (4, (.aload_n 0, 5, 0, 0, 0, 0, 0, 0, [])), (5, (.sipush 200, 8, 0, 200, 0, 0, 0, 0, [])), (8, (.newarray .int, 10, 0, 0, 0, 0, 200, 0, [])), (10, (.putfield 9, 13, 2, 1, 0, 5, 0, 32, [])), (13, (.return_, 14, 0, 0, 0, 0, 0, 0, []))]])
set_option maxRecDepth 100000 in
theorem kX5_init : xMk mX5_init = true := by decide +kernel
set_option maxRecDepth 100000 in
theorem bX5_init : xcB mX5_init 2 0 = true := by decide +kernel
def mX5_append : xM := (yX5_append, cX5_append, 2, none, [
  [(0, (.aload_n 0, 1, 0, 0, 0, 0, 0, 0, [])), (1, (.getfield 15, 4, 0, 0, 0, 5, 1, 33, [])), (4, (.sipush 200, 7, 0, 200, 0, 0, 0, 0, [])), (7, (.if_icmp .ge 23, 10, 30, 0, 0, 0, 0, 0, [])), (10, (.aload_n 0, 11, 0, 0, 0, 0, 0, 0, [])), (11, (.getfield 9, 14, 0, 0, 0, 5, 0, 32, [])), (14, (.aload_n 0, 15, 0, 0, 0, 0, 0, 0, [])), (15, (.getfield 15, 18, 0, 0, 0, 5, 1, 33, []))],
  [(18, (.iload_n 1, 19, 0, 0, 0, 0, 0, 0, [])), (19, (.iastore, 20, 0, 0, 0, 0, 0, 0, [])), (20, (.aload_n 0, 21, 0, 0, 0, 0, 0, 0, [])), (21, (.dup, 22, 0, 0, 0, 0, 0, 0, [])), (22, (.getfield 15, 25, 0, 0, 0, 5, 1, 33, [])), (25, (.iconst 1, 26, 0, 1, 0, 0, 0, 0, [])), (26, (.iadd, 27, 0, 0, 0, 0, 0, 0, [])), (27, (.putfield 15, 30, 0, 0, 0, 5, 1, 33, [])), (30, (.return_, 31, 0, 0, 0, 0, 0, 0, []))]])
set_option maxRecDepth 100000 in
theorem kX5_append : xMk mX5_append = true := by decide +kernel
set_option maxRecDepth 100000 in
theorem bX5_append : xcB mX5_append 0 1 = true := by decide +kernel
def mX5_signAt : xM := (yX5_signAt, cX5_signAt, 2, (some .int), [
  [(0, (.iload_n 1, 1, 0, 0, 0, 0, 0, 0, [])), (1, (.ifCond .lt 27, 4, 28, 0, 0, 0, 0, 0, [])), (4, (.iload_n 1, 5, 0, 0, 0, 0, 0, 0, [])), (5, (.aload_n 0, 6, 0, 0, 0, 0, 0, 0, [])), (6, (.getfield 15, 9, 0, 0, 0, 5, 1, 33, [])), (9, (.if_icmp .ge 19, 12, 28, 0, 0, 0, 0, 0, [])), (12, (.iload_n 1, 13, 0, 0, 0, 0, 0, 0, [])), (13, (.sipush 200, 16, 0, 200, 0, 0, 0, 0, []))],
  [(16, (.if_icmp .ge 12, 19, 28, 0, 0, 0, 0, 0, [])), (19, (.aload_n 0, 20, 0, 0, 0, 0, 0, 0, [])), (20, (.getfield 9, 23, 0, 0, 0, 5, 0, 32, [])), (23, (.iload_n 1, 24, 0, 0, 0, 0, 0, 0, [])), (24, (.iaload, 25, 0, 0, 0, 0, 0, 0, [])), (25, (.goto 4, 28, 29, 0, 0, 0, 0, 0, [])), (28, (.iconst (-1), 29, 0, -1, 0, 0, 0, 0, [])), (29, (.ireturn, 30, 0, 0, 0, 0, 0, 0, []))]])
set_option maxRecDepth 100000 in
theorem kX5_signAt : xMk mX5_signAt = true := by decide +kernel
set_option maxRecDepth 100000 in
theorem bX5_signAt : xcB mX5_signAt 0 1 = true := by decide +kernel
def mX5_spells : xM := (yX5_spells, cX5_spells, 5, (some .boolean), [
  [(0, (.iload_n 3, 1, 0, 0, 0, 0, 0, 0, [])), (1, (.iload_n 2, 2, 0, 0, 0, 0, 0, 0, [])), (2, (.isub, 3, 0, 0, 0, 0, 0, 0, [])), (3, (.aload_n 1, 4, 0, 0, 0, 0, 0, 0, [])), (4, (.invokevirtual 19, 7, 0, 0, 0, 0, 0, 450, [])), (7, (.if_icmp .eq 5, 10, 12, 0, 0, 0, 0, 0, [])), (10, (.iconst 0, 11, 0, 0, 0, 0, 0, 0, [])), (11, (.ireturn, 12, 0, 0, 0, 0, 0, 0, [])), (12, (.iconst 0, 13, 0, 0, 0, 0, 0, 0, [])), (13, (.istore 4, 15, 0, 0, 0, 0, 0, 0, [])), (15, (.iload 4, 17, 0, 0, 0, 0, 0, 0, []))],
  [(17, (.aload_n 1, 18, 0, 0, 0, 0, 0, 0, [])), (18, (.invokevirtual 19, 21, 0, 0, 0, 0, 0, 450, [])), (21, (.if_icmp .ge 28, 24, 49, 0, 0, 0, 0, 0, [])), (24, (.aload_n 0, 25, 0, 0, 0, 0, 0, 0, [])), (25, (.iload_n 2, 26, 0, 0, 0, 0, 0, 0, [])), (26, (.iload 4, 28, 0, 0, 0, 0, 0, 0, [])), (28, (.iadd, 29, 0, 0, 0, 0, 0, 0, [])), (29, (.invokevirtual 25, 32, 0, 0, 0, 0, 0, 460, []))],
  [(32, (.aload_n 1, 33, 0, 0, 0, 0, 0, 0, [])), (33, (.iload 4, 35, 0, 0, 0, 0, 0, 0, [])), (35, (.invokevirtual 29, 38, 0, 0, 0, 0, 0, 461, [])), (38, (.if_icmp .eq 5, 41, 43, 0, 0, 0, 0, 0, [])), (41, (.iconst 0, 42, 0, 0, 0, 0, 0, 0, [])), (42, (.ireturn, 43, 0, 0, 0, 0, 0, 0, [])), (43, (.iinc 4 1, 46, 0, 1, 0, 0, 0, 0, [])), (46, (.goto (-31), 49, 15, 0, 0, 0, 0, 0, []))],
  [(49, (.iconst 1, 50, 0, 1, 0, 0, 0, 0, [])), (50, (.ireturn, 51, 0, 0, 0, 0, 0, 0, []))]])
set_option maxRecDepth 100000 in
theorem kX5_spells : xMk mX5_spells = true := by decide +kernel
set_option maxRecDepth 100000 in
theorem bX5_spells : xcB mX5_spells 0 3 = true := by decide +kernel
