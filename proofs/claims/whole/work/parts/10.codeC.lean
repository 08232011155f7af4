/-- X0_hasBall, of PoloSeason$Line -/
def e1 : List En := [
  (.aload_n 0, 0, 0, []),
  (.getfield 31, 6, 0, [0, 1]),
  (.ireturn, 1, 0, [])]
def p1 : List Nat := [0, 1, 4]
set_option maxRecDepth 100000 in
theorem ok1 : chk 1 p1 e1 = true := by decide +kernel
/-- X0_isFull, of PoloSeason$Line -/
def e2 : List En := [
  (.aload_n 0, 0, 0, []),
  (.getfield 27, 5, 0, [0, 0]),
  (.bipush 8, 0, 8, []),
  (.if_icmp .lt 7, 0, 0, [6]),
  (.iconst 1, 0, 1, []),
  (.goto 4, 0, 0, [7]),
  (.iconst 0, 0, 0, []),
  (.ireturn, 1, 0, [])]
def p2 : List Nat := [0, 1, 4, 6, 9, 10, 13, 14]
set_option maxRecDepth 100000 in
theorem ok2 : chk 2 p2 e2 = true := by decide +kernel
/-- X0_riders, of PoloSeason$Line -/
def e3 : List En := [
  (.aload_n 0, 0, 0, []),
  (.getfield 27, 5, 0, [0, 0]),
  (.ireturn, 0, 0, [])]
def p3 : List Nat := [0, 1, 4]
set_option maxRecDepth 100000 in
theorem ok3 : chk 3 p3 e3 = true := by decide +kernel
/-- X0_placeBall, of PoloSeason$Line -/
def e4 : List En := [
  (.aload_n 0, 0, 0, []),
  (.iconst 1, 0, 1, []),
  (.putfield 31, 6, 0, [0, 1]),
  (.aload_n 0, 0, 0, []),
  (.iload_n 1, 1, 0, []),
  (.putfield 35, 7, 0, [0, 0]),
  (.aload_n 0, 0, 0, []),
  (.iload_n 2, 2, 0, []),
  (.putfield 38, 8, 0, [0, 0]),
  (.aload_n 0, 0, 0, []),
  (.iload_n 3, 3, 0, []),
  (.putfield 41, 9, 0, [0, 0]),
  (.aload_n 0, 0, 0, []),
  (.iload 4, 4, 0, []),
  (.putfield 44, 10, 0, [0, 0]),
  (.aload_n 0, 0, 0, []),
  (.iconst 0, 0, 0, []),
  (.putfield 27, 5, 0, [0, 0]),
  (.return_, 0, 0, [])]
def p4 : List Nat := [0, 1, 2, 5, 6, 7, 10, 11, 12, 15, 16, 17, 20, 21, 23, 26, 27, 28, 31]
set_option maxRecDepth 100000 in
theorem ok4 : chk 4 p4 e4 = true := by decide +kernel
/-- X0_addRider, of PoloSeason$Line -/
def e5 : List En := [
  (.aload_n 0, 0, 0, []),
  (.getfield 9, 0, 0, [0, 0]),
  (.aload_n 0, 0, 0, []),
  (.getfield 27, 5, 0, [0, 0]),
  (.iload_n 1, 1, 0, []),
  (.iastore, 0, 0, []),
  (.aload_n 0, 0, 0, []),
  (.getfield 15, 1, 0, [0, 0]),
  (.aload_n 0, 0, 0, []),
  (.getfield 27, 5, 0, [0, 0]),
  (.iload_n 2, 2, 0, []),
  (.iastore, 0, 0, []),
  (.aload_n 0, 0, 0, []),
  (.getfield 18, 2, 0, [0, 0]),
  (.aload_n 0, 0, 0, []),
  (.getfield 27, 5, 0, [0, 0]),
  (.iload_n 3, 3, 0, []),
  (.iastore, 0, 0, []),
  (.aload_n 0, 0, 0, []),
  (.getfield 21, 3, 0, [0, 0]),
  (.aload_n 0, 0, 0, []),
  (.getfield 27, 5, 0, [0, 0]),
  (.iload 4, 4, 0, []),
  (.iastore, 0, 0, []),
  (.aload_n 0, 0, 0, []),
  (.getfield 24, 4, 0, [0, 0]),
  (.aload_n 0, 0, 0, []),
  (.getfield 27, 5, 0, [0, 0]),
  (.iload 5, 5, 0, []),
  (.iastore, 0, 0, []),
  (.aload_n 0, 0, 0, []),
  (.dup, 0, 0, []),
  (.getfield 27, 5, 0, [0, 0]),
  (.iconst 1, 0, 1, []),
  (.iadd, 0, 0, []),
  (.putfield 27, 5, 0, [0, 0]),
  (.aload_n 0, 0, 0, []),
  (.getfield 27, 5, 0, [0, 0]),
  (.iconst 1, 0, 1, []),
  (.isub, 0, 0, []),
  (.ireturn, 0, 0, [])]
def p5 : List Nat := [0, 1, 4, 5, 8, 9, 10, 11, 14, 15, 18, 19, 20, 21, 24, 25, 28, 29, 30, 31, 34, 35, 38, 40, 41, 42, 45, 46, 49, 51, 52, 53, 54, 57, 58, 59, 62, 63, 66, 67, 68]
set_option maxRecDepth 100000 in
theorem ok5 : chk 5 p5 e5 = true := by decide +kernel
/-- X0_firstByRight, of PoloSeason$Line -/
def e6 : List En := [
  (.iconst (-1), 0, (-1), []),
  (.istore_n 1, 1, 0, []),
  (.iconst 0, 0, 0, []),
  (.istore_n 2, 2, 0, []),
  (.nop, 5, 0, []),
  (.iload_n 2, 2, 0, []),
  (.aload_n 0, 0, 0, []),
  (.getfield 27, 5, 0, [0, 0]),
  (.if_icmp .ge 35, 0, 0, [27]),
  (.aload_n 0, 0, 0, []),
  (.iload_n 2, 2, 0, []),
  (.invokevirtual 47, 7, 0, [2, 0]),
  (.lconst 0, 0, 0, []),
  (.lcmp, 0, 0, []),
  (.ifCond .le 19, 0, 0, [25]),
  (.iload_n 1, 1, 0, []),
  (.iconst (-1), 0, (-1), []),
  (.if_icmp .eq 12, 0, 0, [23]),
  (.aload_n 0, 0, 0, []),
  (.iload_n 2, 2, 0, []),
  (.iload_n 1, 1, 0, []),
  (.invokevirtual 51, 8, 0, [3, 0]),
  (.ifCond .eq 5, 0, 0, [25]),
  (.iload_n 2, 2, 0, []),
  (.istore_n 1, 1, 0, []),
  (.iinc 2 1, 2, 1, []),
  (.goto (-37), 0, 0, [5]),
  (.iload_n 1, 1, 0, []),
  (.ireturn, 0, 0, [])]
def p6 : List Nat := [0, 1, 2, 3, 4, 4, 5, 6, 9, 12, 13, 14, 17, 18, 19, 22, 23, 24, 27, 28, 29, 30, 33, 36, 37, 38, 41, 44, 45]
set_option maxRecDepth 100000 in
theorem ok6 : chk 6 p6 e6 = true := by decide +kernel
/-- X0_alongBall, of PoloSeason$Line -/
def e7 : List En := [
  (.aload_n 0, 0, 0, []),
  (.getfield 21, 3, 0, [0, 0]),
  (.iload_n 1, 1, 0, []),
  (.iaload, 0, 0, []),
  (.i2l, 0, 0, []),
  (.aload_n 0, 0, 0, []),
  (.getfield 41, 9, 0, [0, 0]),
  (.i2l, 0, 0, []),
  (.lmul, 0, 0, []),
  (.aload_n 0, 0, 0, []),
  (.getfield 24, 4, 0, [0, 0]),
  (.iload_n 1, 1, 0, []),
  (.iaload, 0, 0, []),
  (.i2l, 0, 0, []),
  (.aload_n 0, 0, 0, []),
  (.getfield 44, 10, 0, [0, 0]),
  (.i2l, 0, 0, []),
  (.lmul, 0, 0, []),
  (.ladd, 0, 0, []),
  (.lreturn, 0, 0, [])]
def p7 : List Nat := [0, 1, 4, 5, 6, 7, 8, 11, 12, 13, 14, 17, 18, 19, 20, 21, 24, 25, 26, 27]
set_option maxRecDepth 100000 in
theorem ok7 : chk 7 p7 e7 = true := by decide +kernel
/-- X0_goesBefore, of PoloSeason$Line -/
def e8 : List En := [
  (.aload_n 0, 0, 0, []),
  (.iload_n 1, 1, 0, []),
  (.invokevirtual 47, 7, 0, [2, 0]),
  (.aload_n 0, 0, 0, []),
  (.iload_n 1, 1, 0, []),
  (.invokevirtual 47, 7, 0, [2, 0]),
  (.lmul, 0, 0, []),
  (.aload_n 0, 0, 0, []),
  (.getfield 21, 3, 0, [0, 0]),
  (.iload_n 2, 2, 0, []),
  (.iaload, 0, 0, []),
  (.aload_n 0, 0, 0, []),
  (.getfield 24, 4, 0, [0, 0]),
  (.iload_n 2, 2, 0, []),
  (.iaload, 0, 0, []),
  (.invokestatic 55, 10, 0, [2, 0]),
  (.lmul, 0, 0, []),
  (.lstore_n 3, 3, 0, []),
  (.aload_n 0, 0, 0, []),
  (.iload_n 2, 2, 0, []),
  (.invokevirtual 47, 7, 0, [2, 0]),
  (.aload_n 0, 0, 0, []),
  (.iload_n 2, 2, 0, []),
  (.invokevirtual 47, 7, 0, [2, 0]),
  (.lmul, 0, 0, []),
  (.aload_n 0, 0, 0, []),
  (.getfield 21, 3, 0, [0, 0]),
  (.iload_n 1, 1, 0, []),
  (.iaload, 0, 0, []),
  (.aload_n 0, 0, 0, []),
  (.getfield 24, 4, 0, [0, 0]),
  (.iload_n 1, 1, 0, []),
  (.iaload, 0, 0, []),
  (.invokestatic 55, 10, 0, [2, 0]),
  (.lmul, 0, 0, []),
  (.lstore 5, 5, 0, []),
  (.lload_n 3, 3, 0, []),
  (.lload 5, 5, 0, []),
  (.lcmp, 0, 0, []),
  (.ifCond .eq 16, 0, 0, [48]),
  (.lload_n 3, 3, 0, []),
  (.lload 5, 5, 0, []),
  (.lcmp, 0, 0, []),
  (.ifCond .le 7, 0, 0, [46]),
  (.iconst 1, 0, 1, []),
  (.goto 4, 0, 0, [47]),
  (.iconst 0, 0, 0, []),
  (.ireturn, 1, 0, []),
  (.aload_n 0, 0, 0, []),
  (.iload_n 1, 1, 0, []),
  (.invokevirtual 59, 9, 0, [2, 0]),
  (.aload_n 0, 0, 0, []),
  (.iload_n 2, 2, 0, []),
  (.invokevirtual 59, 9, 0, [2, 0]),
  (.lcmp, 0, 0, []),
  (.ifCond .ge 7, 0, 0, [58]),
  (.iconst 1, 0, 1, []),
  (.goto 4, 0, 0, [59]),
  (.iconst 0, 0, 0, []),
  (.ireturn, 1, 0, [])]
def p8 : List Nat := [0, 1, 2, 5, 6, 7, 10, 11, 12, 15, 16, 17, 18, 21, 22, 23, 26, 27, 28, 29, 30, 33, 34, 35, 38, 39, 40, 43, 44, 45, 46, 49, 50, 51, 54, 55, 57, 58, 60, 61, 64, 65, 67, 68, 71, 72, 75, 76, 77, 78, 79, 82, 83, 84, 87, 88, 91, 92, 95, 96]
set_option maxRecDepth 100000 in
theorem ok8 : chk 8 p8 e8 = true := by decide +kernel
/-- X0_fromBall, of PoloSeason$Line -/
def e9 : List En := [
  (.aload_n 0, 0, 0, []),
  (.getfield 15, 1, 0, [0, 0]),
  (.iload_n 1, 1, 0, []),
  (.iaload, 0, 0, []),
  (.aload_n 0, 0, 0, []),
  (.getfield 35, 7, 0, [0, 0]),
  (.isub, 0, 0, []),
  (.aload_n 0, 0, 0, []),
  (.getfield 18, 2, 0, [0, 0]),
  (.iload_n 1, 1, 0, []),
  (.iaload, 0, 0, []),
  (.aload_n 0, 0, 0, []),
  (.getfield 38, 8, 0, [0, 0]),
  (.isub, 0, 0, []),
  (.invokestatic 55, 10, 0, [2, 0]),
  (.lreturn, 0, 0, [])]
def p9 : List Nat := [0, 1, 4, 5, 6, 7, 10, 11, 12, 15, 16, 17, 18, 21, 22, 25]
set_option maxRecDepth 100000 in
theorem ok9 : chk 9 p9 e9 = true := by decide +kernel
/-- X0_squared, of PoloSeason$Line -/
def e10 : List En := [
  (.iload_n 0, 0, 0, []),
  (.i2l, 0, 0, []),
  (.iload_n 0, 0, 0, []),
  (.i2l, 0, 0, []),
  (.lmul, 0, 0, []),
  (.iload_n 1, 1, 0, []),
  (.i2l, 0, 0, []),
  (.iload_n 1, 1, 0, []),
  (.i2l, 0, 0, []),
  (.lmul, 0, 0, []),
  (.ladd, 0, 0, []),
  (.lreturn, 0, 0, [])]
def p10 : List Nat := [0, 1, 2, 3, 4, 5, 6, 7, 8, 9, 10, 11]
set_option maxRecDepth 100000 in
theorem ok10 : chk 10 p10 e10 = true := by decide +kernel
/-- X0_crosser, of PoloSeason$Line -/
def e11 : List En := [
  (.aload_n 0, 0, 0, []),
  (.invokevirtual 62, 6, 0, [1, 0]),
  (.istore_n 2, 2, 0, []),
  (.iload_n 2, 2, 0, []),
  (.iconst (-1), 0, (-1), []),
  (.if_icmp .ne 5, 0, 0, [8]),
  (.iconst (-1), 0, (-1), []),
  (.ireturn, 0, 0, []),
  (.iconst 0, 0, 0, []),
  (.istore_n 3, 3, 0, []),
  (.iconst 0, 0, 0, []),
  (.istore 4, 4, 0, []),
  (.nop, 13, 0, []),
  (.iload 4, 4, 0, []),
  (.aload_n 0, 0, 0, []),
  (.getfield 27, 5, 0, [0, 0]),
  (.if_icmp .ge 46, 0, 0, [39]),
  (.aload_n 0, 0, 0, []),
  (.getfield 9, 0, 0, [0, 0]),
  (.iload 4, 4, 0, []),
  (.iaload, 0, 0, []),
  (.aload_n 0, 0, 0, []),
  (.getfield 9, 0, 0, [0, 0]),
  (.iload_n 2, 2, 0, []),
  (.iaload, 0, 0, []),
  (.if_icmp .eq 24, 0, 0, [37]),
  (.aload_n 0, 0, 0, []),
  (.iload 4, 4, 0, []),
  (.iload_n 2, 2, 0, []),
  (.invokevirtual 66, 12, 0, [3, 0]),
  (.ifCond .eq 14, 0, 0, [37]),
  (.iload_n 3, 3, 0, []),
  (.iload_n 1, 1, 0, []),
  (.if_icmp .ne 6, 0, 0, [36]),
  (.iload 4, 4, 0, []),
  (.ireturn, 0, 0, []),
  (.iinc 3 1, 3, 1, []),
  (.iinc 4 1, 4, 1, []),
  (.goto (-49), 0, 0, [13]),
  (.iconst (-1), 0, (-1), []),
  (.ireturn, 0, 0, [])]
def p11 : List Nat := [0, 1, 4, 5, 6, 7, 10, 11, 12, 13, 14, 15, 17, 17, 19, 20, 23, 26, 27, 30, 32, 33, 34, 37, 38, 39, 42, 43, 45, 46, 49, 52, 53, 54, 57, 59, 60, 63, 66, 69, 70]
set_option maxRecDepth 100000 in
theorem ok11 : chk 11 p11 e11 = true := by decide +kernel
/-- X0_meets, of PoloSeason$Line -/
def e12 : List En := [
  (.aload_n 0, 0, 0, []),
  (.iload_n 1, 1, 0, []),
  (.iload_n 2, 2, 0, []),
  (.invokevirtual 69, 13, 0, [3, 0]),
  (.ifCond .eq 76, 0, 0, [48]),
  (.aload_n 0, 0, 0, []),
  (.iload_n 2, 2, 0, []),
  (.iload_n 1, 1, 0, []),
  (.invokevirtual 69, 13, 0, [3, 0]),
  (.ifCond .eq 67, 0, 0, [48]),
  (.aload_n 0, 0, 0, []),
  (.getfield 15, 1, 0, [0, 0]),
  (.iload_n 1, 1, 0, []),
  (.iaload, 0, 0, []),
  (.aload_n 0, 0, 0, []),
  (.getfield 21, 3, 0, [0, 0]),
  (.iload_n 1, 1, 0, []),
  (.iaload, 0, 0, []),
  (.aload_n 0, 0, 0, []),
  (.getfield 15, 1, 0, [0, 0]),
  (.iload_n 2, 2, 0, []),
  (.iaload, 0, 0, []),
  (.aload_n 0, 0, 0, []),
  (.getfield 21, 3, 0, [0, 0]),
  (.iload_n 2, 2, 0, []),
  (.iaload, 0, 0, []),
  (.invokestatic 72, 15, 0, [4, 0]),
  (.ifCond .eq 37, 0, 0, [48]),
  (.aload_n 0, 0, 0, []),
  (.getfield 18, 2, 0, [0, 0]),
  (.iload_n 1, 1, 0, []),
  (.iaload, 0, 0, []),
  (.aload_n 0, 0, 0, []),
  (.getfield 24, 4, 0, [0, 0]),
  (.iload_n 1, 1, 0, []),
  (.iaload, 0, 0, []),
  (.aload_n 0, 0, 0, []),
  (.getfield 18, 2, 0, [0, 0]),
  (.iload_n 2, 2, 0, []),
  (.iaload, 0, 0, []),
  (.aload_n 0, 0, 0, []),
  (.getfield 24, 4, 0, [0, 0]),
  (.iload_n 2, 2, 0, []),
  (.iaload, 0, 0, []),
  (.invokestatic 72, 15, 0, [4, 0]),
  (.ifCond .eq 7, 0, 0, [48]),
  (.iconst 1, 0, 1, []),
  (.goto 4, 0, 0, [49]),
  (.iconst 0, 0, 0, []),
  (.ireturn, 1, 0, [])]
def p12 : List Nat := [0, 1, 2, 3, 6, 9, 10, 11, 12, 15, 18, 19, 22, 23, 24, 25, 28, 29, 30, 31, 34, 35, 36, 37, 40, 41, 42, 45, 48, 49, 52, 53, 54, 55, 58, 59, 60, 61, 64, 65, 66, 67, 70, 71, 72, 75, 78, 79, 82, 83]
set_option maxRecDepth 100000 in
theorem ok12 : chk 12 p12 e12 = true := by decide +kernel
/-- X0_straddles, of PoloSeason$Line -/
def e13 : List En := [
  (.aload_n 0, 0, 0, []),
  (.iload_n 1, 1, 0, []),
  (.aload_n 0, 0, 0, []),
  (.getfield 15, 1, 0, [0, 0]),
  (.iload_n 2, 2, 0, []),
  (.iaload, 0, 0, []),
  (.aload_n 0, 0, 0, []),
  (.getfield 18, 2, 0, [0, 0]),
  (.iload_n 2, 2, 0, []),
  (.iaload, 0, 0, []),
  (.invokevirtual 76, 14, 0, [4, 0]),
  (.lstore_n 3, 3, 0, []),
  (.aload_n 0, 0, 0, []),
  (.iload_n 1, 1, 0, []),
  (.aload_n 0, 0, 0, []),
  (.getfield 15, 1, 0, [0, 0]),
  (.iload_n 2, 2, 0, []),
  (.iaload, 0, 0, []),
  (.aload_n 0, 0, 0, []),
  (.getfield 21, 3, 0, [0, 0]),
  (.iload_n 2, 2, 0, []),
  (.iaload, 0, 0, []),
  (.iadd, 0, 0, []),
  (.aload_n 0, 0, 0, []),
  (.getfield 18, 2, 0, [0, 0]),
  (.iload_n 2, 2, 0, []),
  (.iaload, 0, 0, []),
  (.aload_n 0, 0, 0, []),
  (.getfield 24, 4, 0, [0, 0]),
  (.iload_n 2, 2, 0, []),
  (.iaload, 0, 0, []),
  (.iadd, 0, 0, []),
  (.invokevirtual 76, 14, 0, [4, 0]),
  (.lstore 5, 5, 0, []),
  (.lload_n 3, 3, 0, []),
  (.lconst 0, 0, 0, []),
  (.lcmp, 0, 0, []),
  (.ifCond .gt 10, 0, 0, [42]),
  (.lload 5, 5, 0, []),
  (.lconst 0, 0, 0, []),
  (.lcmp, 0, 0, []),
  (.ifCond .ge 16, 0, 0, [50]),
  (.lload_n 3, 3, 0, []),
  (.lconst 0, 0, 0, []),
  (.lcmp, 0, 0, []),
  (.ifCond .lt 14, 0, 0, [52]),
  (.lload 5, 5, 0, []),
  (.lconst 0, 0, 0, []),
  (.lcmp, 0, 0, []),
  (.ifCond .gt 7, 0, 0, [52]),
  (.iconst 1, 0, 1, []),
  (.goto 4, 0, 0, [53]),
  (.iconst 0, 0, 0, []),
  (.ireturn, 1, 0, [])]
def p13 : List Nat := [0, 1, 2, 3, 6, 7, 8, 9, 12, 13, 14, 17, 18, 19, 20, 21, 24, 25, 26, 27, 30, 31, 32, 33, 34, 37, 38, 39, 40, 43, 44, 45, 46, 49, 51, 52, 53, 54, 57, 59, 60, 61, 64, 65, 66, 67, 70, 72, 73, 74, 77, 78, 81, 82]
set_option maxRecDepth 100000 in
theorem ok13 : chk 13 p13 e13 = true := by decide +kernel
/-- X0_turn, of PoloSeason$Line -/
def e14 : List En := [
  (.aload_n 0, 0, 0, []),
  (.getfield 21, 3, 0, [0, 0]),
  (.iload_n 1, 1, 0, []),
  (.iaload, 0, 0, []),
  (.i2l, 0, 0, []),
  (.iload_n 3, 3, 0, []),
  (.aload_n 0, 0, 0, []),
  (.getfield 18, 2, 0, [0, 0]),
  (.iload_n 1, 1, 0, []),
  (.iaload, 0, 0, []),
  (.isub, 0, 0, []),
  (.i2l, 0, 0, []),
  (.lmul, 0, 0, []),
  (.aload_n 0, 0, 0, []),
  (.getfield 24, 4, 0, [0, 0]),
  (.iload_n 1, 1, 0, []),
  (.iaload, 0, 0, []),
  (.i2l, 0, 0, []),
  (.iload_n 2, 2, 0, []),
  (.aload_n 0, 0, 0, []),
  (.getfield 15, 1, 0, [0, 0]),
  (.iload_n 1, 1, 0, []),
  (.iaload, 0, 0, []),
  (.isub, 0, 0, []),
  (.i2l, 0, 0, []),
  (.lmul, 0, 0, []),
  (.lsub, 0, 0, []),
  (.lreturn, 0, 0, [])]
def p14 : List Nat := [0, 1, 4, 5, 6, 7, 8, 9, 12, 13, 14, 15, 16, 17, 18, 21, 22, 23, 24, 25, 26, 29, 30, 31, 32, 33, 34, 35]
set_option maxRecDepth 100000 in
theorem ok14 : chk 14 p14 e14 = true := by decide +kernel
/-- X0_overlap, of PoloSeason$Line -/
def e15 : List En := [
  (.iload_n 0, 0, 0, []),
  (.iload_n 0, 0, 0, []),
  (.iload_n 1, 1, 0, []),
  (.iadd, 0, 0, []),
  (.invokestatic 80, 178, 0, [2, 2]),
  (.istore 4, 4, 0, []),
  (.iload_n 0, 0, 0, []),
  (.iload_n 0, 0, 0, []),
  (.iload_n 1, 1, 0, []),
  (.iadd, 0, 0, []),
  (.invokestatic 86, 177, 0, [2, 1]),
  (.istore 5, 5, 0, []),
  (.iload_n 2, 2, 0, []),
  (.iload_n 2, 2, 0, []),
  (.iload_n 3, 3, 0, []),
  (.iadd, 0, 0, []),
  (.invokestatic 80, 178, 0, [2, 2]),
  (.istore 6, 6, 0, []),
  (.iload_n 2, 2, 0, []),
  (.iload_n 2, 2, 0, []),
  (.iload_n 3, 3, 0, []),
  (.iadd, 0, 0, []),
  (.invokestatic 86, 177, 0, [2, 1]),
  (.istore 7, 7, 0, []),
  (.iload 4, 4, 0, []),
  (.iload 7, 7, 0, []),
  (.if_icmp .gt 14, 0, 0, [32]),
  (.iload 6, 6, 0, []),
  (.iload 5, 5, 0, []),
  (.if_icmp .gt 7, 0, 0, [32]),
  (.iconst 1, 0, 1, []),
  (.goto 4, 0, 0, [33]),
  (.iconst 0, 0, 0, []),
  (.ireturn, 1, 0, [])]
def p15 : List Nat := [0, 1, 2, 3, 4, 7, 9, 10, 11, 12, 13, 16, 18, 19, 20, 21, 22, 25, 27, 28, 29, 30, 31, 34, 36, 38, 40, 43, 45, 47, 50, 51, 54, 55]
set_option maxRecDepth 100000 in
theorem ok15 : chk 15 p15 e15 = true := by decide +kernel
/-- X1_size, of PoloSeason$Noise -/
def e17 : List En := [
  (.aload_n 0, 0, 0, []),
  (.getfield 15, 1, 0, [1, 0]),
  (.ireturn, 0, 0, [])]
def p17 : List Nat := [0, 1, 4]
set_option maxRecDepth 100000 in
theorem ok17 : chk 17 p17 e17 = true := by decide +kernel
/-- X1_add, of PoloSeason$Noise -/
def e18 : List En := [
  (.aload_n 0, 0, 0, []),
  (.getfield 15, 1, 0, [1, 0]),
  (.bipush 20, 0, 20, []),
  (.if_icmp .lt 5, 0, 0, [6]),
  (.iconst (-1), 0, (-1), []),
  (.ireturn, 0, 0, []),
  (.aload_n 0, 0, 0, []),
  (.getfield 9, 0, 0, [1, 0]),
  (.aload_n 0, 0, 0, []),
  (.getfield 15, 1, 0, [1, 0]),
  (.iload_n 1, 1, 0, []),
  (.iastore, 0, 0, []),
  (.aload_n 0, 0, 0, []),
  (.dup, 0, 0, []),
  (.getfield 15, 1, 0, [1, 0]),
  (.iconst 1, 0, 1, []),
  (.iadd, 0, 0, []),
  (.putfield 15, 1, 0, [1, 0]),
  (.aload_n 0, 0, 0, []),
  (.getfield 15, 1, 0, [1, 0]),
  (.ireturn, 0, 0, [])]
def p18 : List Nat := [0, 1, 4, 6, 9, 10, 11, 12, 15, 16, 19, 20, 21, 22, 23, 26, 27, 28, 31, 32, 35]
set_option maxRecDepth 100000 in
theorem ok18 : chk 18 p18 e18 = true := by decide +kernel
/-- X1_empty, of PoloSeason$Noise -/
def e19 : List En := [
  (.aload_n 0, 0, 0, []),
  (.iconst 0, 0, 0, []),
  (.putfield 15, 1, 0, [1, 0]),
  (.return_, 0, 0, [])]
def p19 : List Nat := [0, 1, 2, 5]
set_option maxRecDepth 100000 in
theorem ok19 : chk 19 p19 e19 = true := by decide +kernel
/-- X1_remainder, of PoloSeason$Noise -/
def e20 : List En := [
  (.iload_n 1, 1, 0, []),
  (.ifCond .lt 16, 0, 0, [9]),
  (.iload_n 1, 1, 0, []),
  (.aload_n 0, 0, 0, []),
  (.getfield 15, 1, 0, [1, 0]),
  (.if_icmp .ge 8, 0, 0, [9]),
  (.iload_n 2, 2, 0, []),
  (.iconst 1, 0, 1, []),
  (.if_icmp .ge 5, 0, 0, [11]),
  (.iconst 0, 0, 0, []),
  (.ireturn, 0, 0, []),
  (.aload_n 0, 0, 0, []),
  (.getfield 9, 0, 0, [1, 0]),
  (.iload_n 1, 1, 0, []),
  (.iaload, 0, 0, []),
  (.i2l, 0, 0, []),
  (.ldc2_w 19, 651, 0, []),
  (.land, 0, 0, []),
  (.iload_n 2, 2, 0, []),
  (.i2l, 0, 0, []),
  (.lrem, 0, 0, []),
  (.l2i, 0, 0, []),
  (.ireturn, 0, 0, [])]
def p20 : List Nat := [0, 1, 4, 5, 6, 9, 12, 13, 14, 17, 18, 19, 20, 23, 24, 25, 26, 29, 30, 31, 32, 33, 34]
set_option maxRecDepth 100000 in
theorem ok20 : chk 20 p20 e20 = true := by decide +kernel
/-- X2_ponyIn, of PoloSeason$Planner -/
def e22 : List En := [
  (.iload_n 1, 1, 0, []),
  (.ifCond .lt 18, 0, 0, [10]),
  (.iload_n 1, 1, 0, []),
  (.bipush 6, 0, 6, []),
  (.if_icmp .ge 12, 0, 0, [10]),
  (.aload_n 0, 0, 0, []),
  (.getfield 28, 5, 0, [2, 0]),
  (.iload_n 1, 1, 0, []),
  (.iaload, 0, 0, []),
  (.goto 4, 0, 0, [11]),
  (.iconst (-1), 0, (-1), []),
  (.ireturn, 0, 0, [])]
def p22 : List Nat := [0, 1, 4, 5, 7, 10, 11, 14, 15, 16, 19, 20]
set_option maxRecDepth 100000 in
theorem ok22 : chk 22 p22 e22 = true := by decide +kernel
/-- X2_plan, of PoloSeason$Planner -/
def e23 : List En := [
  (.iload_n 3, 3, 0, []),
  (.bipush 6, 0, 6, []),
  (.invokestatic 41, 178, 0, [2, 2]),
  (.istore 4, 4, 0, []),
  (.aload_n 0, 0, 0, []),
  (.aload_n 1, 1, 0, []),
  (.iload_n 2, 2, 0, []),
  (.iload 4, 4, 0, []),
  (.iconst 1, 0, 1, []),
  (.iadd, 0, 0, []),
  (.iconst 2, 0, 2, []),
  (.idiv, 0, 0, []),
  (.invokevirtual 47, 24, 0, [4, 0]),
  (.aload_n 0, 0, 0, []),
  (.aload_n 0, 0, 0, []),
  (.iload 4, 4, 0, []),
  (.invokevirtual 51, 25, 0, [2, 0]),
  (.invokevirtual 55, 28, 0, [2, 0]),
  (.iconst (-1), 0, (-1), []),
  (.istore 5, 5, 0, []),
  (.iconst 0, 0, 0, []),
  (.istore 6, 6, 0, []),
  (.nop, 23, 0, []),
  (.iload 6, 6, 0, []),
  (.iload 4, 4, 0, []),
  (.if_icmp .ge 48, 0, 0, [50]),
  (.aload_n 0, 0, 0, []),
  (.iload 5, 5, 0, []),
  (.iload 4, 4, 0, []),
  (.iload 6, 6, 0, []),
  (.isub, 0, 0, []),
  (.iconst 1, 0, 1, []),
  (.isub, 0, 0, []),
  (.invokevirtual 59, 29, 0, [3, 0]),
  (.istore 5, 5, 0, []),
  (.aload_n 0, 0, 0, []),
  (.getfield 28, 5, 0, [2, 0]),
  (.iload 6, 6, 0, []),
  (.iload 5, 5, 0, []),
  (.iconst (-1), 0, (-1), []),
  (.if_icmp .ne 7, 0, 0, [43]),
  (.iconst (-1), 0, (-1), []),
  (.goto 10, 0, 0, [47]),
  (.aload_n 0, 0, 0, []),
  (.getfield 9, 0, 0, [2, 0]),
  (.iload 5, 5, 0, []),
  (.iaload, 0, 0, []),
  (.iastore, 0, 0, []),
  (.iinc 6 1, 6, 1, []),
  (.goto (-49), 0, 0, [23]),
  (.return_, 0, 0, [])]
def p23 : List Nat := [0, 1, 3, 6, 8, 9, 10, 11, 13, 14, 15, 16, 17, 20, 21, 22, 24, 27, 30, 31, 33, 34, 36, 36, 38, 40, 43, 44, 46, 48, 50, 51, 52, 53, 56, 58, 59, 62, 64, 66, 67, 70, 71, 74, 75, 78, 80, 81, 82, 85, 88]
set_option maxRecDepth 100000 in
theorem ok23 : chk 23 p23 e23 = true := by decide +kernel
/-- X2_collect, of PoloSeason$Planner -/
def e24 : List En := [
  (.aload_n 0, 0, 0, []),
  (.iconst 0, 0, 0, []),
  (.putfield 31, 6, 0, [2, 0]),
  (.iconst 0, 0, 0, []),
  (.istore 4, 4, 0, []),
  (.nop, 6, 0, []),
  (.iload 4, 4, 0, []),
  (.aload_n 1, 1, 0, []),
  (.invokevirtual 62, 53, 0, [1, 0]),
  (.if_icmp .ge 83, 0, 0, [51]),
  (.aload_n 0, 0, 0, []),
  (.getfield 31, 6, 0, [2, 0]),
  (.bipush 8, 0, 8, []),
  (.if_icmp .ge 74, 0, 0, [51]),
  (.aload_n 1, 1, 0, []),
  (.iload 4, 4, 0, []),
  (.invokevirtual 67, 60, 0, [2, 0]),
  (.iload_n 2, 2, 0, []),
  (.if_icmp .ne 58, 0, 0, [49]),
  (.aload_n 0, 0, 0, []),
  (.getfield 9, 0, 0, [2, 0]),
  (.aload_n 0, 0, 0, []),
  (.getfield 31, 6, 0, [2, 0]),
  (.iload 4, 4, 0, []),
  (.iastore, 0, 0, []),
  (.aload_n 0, 0, 0, []),
  (.getfield 15, 1, 0, [2, 0]),
  (.aload_n 0, 0, 0, []),
  (.getfield 31, 6, 0, [2, 0]),
  (.aload_n 1, 1, 0, []),
  (.iload 4, 4, 0, []),
  (.invokevirtual 70, 61, 0, [2, 0]),
  (.iastore, 0, 0, []),
  (.aload_n 0, 0, 0, []),
  (.getfield 18, 2, 0, [2, 0]),
  (.aload_n 0, 0, 0, []),
  (.getfield 31, 6, 0, [2, 0]),
  (.aload_n 1, 1, 0, []),
  (.iload 4, 4, 0, []),
  (.invokevirtual 73, 63, 0, [2, 0]),
  (.iload_n 3, 3, 0, []),
  (.invokestatic 41, 178, 0, [2, 2]),
  (.iastore, 0, 0, []),
  (.aload_n 0, 0, 0, []),
  (.dup, 0, 0, []),
  (.getfield 31, 6, 0, [2, 0]),
  (.iconst 1, 0, 1, []),
  (.iadd, 0, 0, []),
  (.putfield 31, 6, 0, [2, 0]),
  (.iinc 4 1, 4, 1, []),
  (.goto (-86), 0, 0, [6]),
  (.return_, 0, 0, [])]
def p24 : List Nat := [0, 1, 2, 5, 6, 8, 8, 10, 11, 14, 17, 18, 21, 23, 26, 27, 29, 32, 33, 36, 37, 40, 41, 44, 46, 47, 48, 51, 52, 55, 56, 58, 61, 62, 63, 66, 67, 70, 71, 73, 76, 77, 80, 81, 82, 83, 86, 87, 88, 91, 94, 97]
set_option maxRecDepth 100000 in
theorem ok24 : chk 24 p24 e24 = true := by decide +kernel
/-- X2_fillLowest, of PoloSeason$Planner -/
def e25 : List En := [
  (.iconst 0, 0, 0, []),
  (.istore_n 2, 2, 0, []),
  (.nop, 3, 0, []),
  (.iload_n 2, 2, 0, []),
  (.aload_n 0, 0, 0, []),
  (.getfield 31, 6, 0, [2, 0]),
  (.if_icmp .ge 16, 0, 0, [14]),
  (.aload_n 0, 0, 0, []),
  (.getfield 21, 3, 0, [2, 0]),
  (.iload_n 2, 2, 0, []),
  (.iconst 0, 0, 0, []),
  (.iastore, 0, 0, []),
  (.iinc 2 1, 2, 1, []),
  (.goto (-18), 0, 0, [3]),
  (.iconst 0, 0, 0, []),
  (.istore_n 2, 2, 0, []),
  (.nop, 17, 0, []),
  (.iload_n 2, 2, 0, []),
  (.iload_n 1, 1, 0, []),
  (.if_icmp .ge 40, 0, 0, [43]),
  (.aload_n 0, 0, 0, []),
  (.invokevirtual 76, 26, 0, [1, 0]),
  (.istore_n 3, 3, 0, []),
  (.iload_n 3, 3, 0, []),
  (.iconst (-1), 0, (-1), []),
  (.if_icmp .ne 5, 0, 0, [28]),
  (.iload_n 2, 2, 0, []),
  (.ireturn, 0, 0, []),
  (.aload_n 0, 0, 0, []),
  (.aload_n 0, 0, 0, []),
  (.iload_n 3, 3, 0, []),
  (.invokevirtual 79, 27, 0, [2, 0]),
  (.putfield 35, 7, 0, [2, 0]),
  (.aload_n 0, 0, 0, []),
  (.getfield 21, 3, 0, [2, 0]),
  (.iload_n 3, 3, 0, []),
  (.dup2, 0, 0, []),
  (.iaload, 0, 0, []),
  (.iconst 1, 0, 1, []),
  (.iadd, 0, 0, []),
  (.iastore, 0, 0, []),
  (.iinc 2 1, 2, 1, []),
  (.goto (-39), 0, 0, [17]),
  (.iload_n 1, 1, 0, []),
  (.ireturn, 0, 0, [])]
def p25 : List Nat := [0, 1, 2, 2, 3, 4, 7, 10, 11, 14, 15, 16, 17, 20, 23, 24, 25, 25, 26, 27, 30, 31, 34, 35, 36, 37, 40, 41, 42, 43, 44, 45, 48, 51, 52, 55, 56, 57, 58, 59, 60, 61, 64, 67, 68]
set_option maxRecDepth 100000 in
theorem ok25 : chk 25 p25 e25 = true := by decide +kernel
/-- X2_lowestWithRoom, of PoloSeason$Planner -/
def e26 : List En := [
  (.iconst (-1), 0, (-1), []),
  (.istore_n 1, 1, 0, []),
  (.iconst 0, 0, 0, []),
  (.istore_n 2, 2, 0, []),
  (.nop, 5, 0, []),
  (.iload_n 2, 2, 0, []),
  (.aload_n 0, 0, 0, []),
  (.getfield 31, 6, 0, [2, 0]),
  (.if_icmp .ge 44, 0, 0, [32]),
  (.aload_n 0, 0, 0, []),
  (.getfield 21, 3, 0, [2, 0]),
  (.iload_n 2, 2, 0, []),
  (.iaload, 0, 0, []),
  (.aload_n 0, 0, 0, []),
  (.getfield 18, 2, 0, [2, 0]),
  (.iload_n 2, 2, 0, []),
  (.iaload, 0, 0, []),
  (.if_icmp .ge 23, 0, 0, [30]),
  (.iload_n 1, 1, 0, []),
  (.iconst (-1), 0, (-1), []),
  (.if_icmp .eq 16, 0, 0, [28]),
  (.aload_n 0, 0, 0, []),
  (.iload_n 2, 2, 0, []),
  (.invokevirtual 79, 27, 0, [2, 0]),
  (.aload_n 0, 0, 0, []),
  (.iload_n 1, 1, 0, []),
  (.invokevirtual 79, 27, 0, [2, 0]),
  (.if_icmp .ge 5, 0, 0, [30]),
  (.iload_n 2, 2, 0, []),
  (.istore_n 1, 1, 0, []),
  (.iinc 2 1, 2, 1, []),
  (.goto (-46), 0, 0, [5]),
  (.iload_n 1, 1, 0, []),
  (.ireturn, 0, 0, [])]
def p26 : List Nat := [0, 1, 2, 3, 4, 4, 5, 6, 9, 12, 13, 16, 17, 18, 19, 22, 23, 24, 27, 28, 29, 32, 33, 34, 37, 38, 39, 42, 45, 46, 47, 50, 53, 54]
set_option maxRecDepth 100000 in
theorem ok26 : chk 26 p26 e26 = true := by decide +kernel
/-- X2_levelNow, of PoloSeason$Planner -/
def e27 : List En := [
  (.aload_n 0, 0, 0, []),
  (.getfield 15, 1, 0, [2, 0]),
  (.iload_n 1, 1, 0, []),
  (.iaload, 0, 0, []),
  (.aload_n 0, 0, 0, []),
  (.getfield 21, 3, 0, [2, 0]),
  (.iload_n 1, 1, 0, []),
  (.iaload, 0, 0, []),
  (.bipush 7, 0, 7, []),
  (.imul, 0, 0, []),
  (.iadd, 0, 0, []),
  (.ireturn, 0, 0, [])]
def p27 : List Nat := [0, 1, 4, 5, 6, 7, 10, 11, 12, 14, 15, 16]
set_option maxRecDepth 100000 in
theorem ok27 : chk 27 p27 e27 = true := by decide +kernel
/-- X2_splitByThreshold, of PoloSeason$Planner -/
def e28 : List En := [
  (.aload_n 0, 0, 0, []),
  (.iload_n 1, 1, 0, []),
  (.putfield 38, 8, 0, [2, 0]),
  (.iconst 0, 0, 0, []),
  (.istore_n 2, 2, 0, []),
  (.nop, 6, 0, []),
  (.iload_n 2, 2, 0, []),
  (.aload_n 0, 0, 0, []),
  (.getfield 31, 6, 0, [2, 0]),
  (.if_icmp .ge 107, 0, 0, [73]),
  (.aload_n 0, 0, 0, []),
  (.getfield 21, 3, 0, [2, 0]),
  (.iload_n 2, 2, 0, []),
  (.iconst 0, 0, 0, []),
  (.iastore, 0, 0, []),
  (.aload_n 0, 0, 0, []),
  (.getfield 24, 4, 0, [2, 0]),
  (.iload_n 2, 2, 0, []),
  (.iconst 0, 0, 0, []),
  (.bastore, 0, 0, []),
  (.iconst 0, 0, 0, []),
  (.istore_n 3, 3, 0, []),
  (.nop, 23, 0, []),
  (.iload_n 3, 3, 0, []),
  (.aload_n 0, 0, 0, []),
  (.getfield 18, 2, 0, [2, 0]),
  (.iload_n 2, 2, 0, []),
  (.iaload, 0, 0, []),
  (.if_icmp .ge 60, 0, 0, [62]),
  (.aload_n 0, 0, 0, []),
  (.getfield 15, 1, 0, [2, 0]),
  (.iload_n 2, 2, 0, []),
  (.iaload, 0, 0, []),
  (.iload_n 3, 3, 0, []),
  (.bipush 7, 0, 7, []),
  (.imul, 0, 0, []),
  (.iadd, 0, 0, []),
  (.istore 4, 4, 0, []),
  (.iload 4, 4, 0, []),
  (.aload_n 0, 0, 0, []),
  (.getfield 35, 7, 0, [2, 0]),
  (.if_icmp .ge 16, 0, 0, [51]),
  (.aload_n 0, 0, 0, []),
  (.getfield 21, 3, 0, [2, 0]),
  (.iload_n 2, 2, 0, []),
  (.dup2, 0, 0, []),
  (.iaload, 0, 0, []),
  (.iconst 1, 0, 1, []),
  (.iadd, 0, 0, []),
  (.iastore, 0, 0, []),
  (.goto 19, 0, 0, [60]),
  (.iload 4, 4, 0, []),
  (.aload_n 0, 0, 0, []),
  (.getfield 35, 7, 0, [2, 0]),
  (.if_icmp .ne 10, 0, 0, [60]),
  (.aload_n 0, 0, 0, []),
  (.getfield 24, 4, 0, [2, 0]),
  (.iload_n 2, 2, 0, []),
  (.iconst 1, 0, 1, []),
  (.bastore, 0, 0, []),
  (.iinc 3 1, 3, 1, []),
  (.goto (-64), 0, 0, [23]),
  (.aload_n 0, 0, 0, []),
  (.dup, 0, 0, []),
  (.getfield 38, 8, 0, [2, 0]),
  (.aload_n 0, 0, 0, []),
  (.getfield 21, 3, 0, [2, 0]),
  (.iload_n 2, 2, 0, []),
  (.iaload, 0, 0, []),
  (.isub, 0, 0, []),
  (.putfield 38, 8, 0, [2, 0]),
  (.iinc 2 1, 2, 1, []),
  (.goto (-109), 0, 0, [6]),
  (.return_, 0, 0, [])]
def p28 : List Nat := [0, 1, 2, 5, 6, 7, 7, 8, 9, 12, 15, 16, 19, 20, 21, 22, 23, 26, 27, 28, 29, 30, 31, 31, 32, 33, 36, 37, 38, 41, 42, 45, 46, 47, 48, 50, 51, 52, 54, 56, 57, 60, 63, 64, 67, 68, 69, 70, 71, 72, 73, 76, 78, 79, 82, 85, 86, 89, 90, 91, 92, 95, 98, 99, 100, 103, 104, 107, 108, 109, 110, 113, 116, 119]
set_option maxRecDepth 100000 in
theorem ok28 : chk 28 p28 e28 = true := by decide +kernel
/-- X2_firstThatCompletes, of PoloSeason$Planner -/
def e29 : List En := [
  (.iconst 0, 0, 0, []),
  (.istore_n 3, 3, 0, []),
  (.nop, 3, 0, []),
  (.iload_n 3, 3, 0, []),
  (.aload_n 0, 0, 0, []),
  (.getfield 31, 6, 0, [2, 0]),
  (.if_icmp .ge 25, 0, 0, [19]),
  (.iload_n 3, 3, 0, []),
  (.iload_n 1, 1, 0, []),
  (.if_icmp .eq 14, 0, 0, [17]),
  (.aload_n 0, 0, 0, []),
  (.iload_n 3, 3, 0, []),
  (.iload_n 2, 2, 0, []),
  (.invokevirtual 82, 30, 0, [3, 0]),
  (.ifCond .eq 5, 0, 0, [17]),
  (.iload_n 3, 3, 0, []),
  (.ireturn, 0, 0, []),
  (.iinc 3 1, 3, 1, []),
  (.goto (-27), 0, 0, [3]),
  (.iconst (-1), 0, (-1), []),
  (.ireturn, 0, 0, [])]
def p29 : List Nat := [0, 1, 2, 2, 3, 4, 7, 10, 11, 12, 15, 16, 17, 18, 21, 24, 25, 26, 29, 32, 33]
set_option maxRecDepth 100000 in
theorem ok29 : chk 29 p29 e29 = true := by decide +kernel
/-- X2_completesWith, of PoloSeason$Planner -/
def e30 : List En := [
  (.aload_n 0, 0, 0, []),
  (.getfield 21, 3, 0, [2, 0]),
  (.iload_n 1, 1, 0, []),
  (.iaload, 0, 0, []),
  (.ifCond .le 36, 0, 0, [30]),
  (.aload_n 0, 0, 0, []),
  (.getfield 21, 3, 0, [2, 0]),
  (.iload_n 1, 1, 0, []),
  (.dup2, 0, 0, []),
  (.iaload, 0, 0, []),
  (.iconst 1, 0, 1, []),
  (.isub, 0, 0, []),
  (.iastore, 0, 0, []),
  (.aload_n 0, 0, 0, []),
  (.iload_n 1, 1, 0, []),
  (.iload_n 2, 2, 0, []),
  (.invokevirtual 86, 31, 0, [3, 0]),
  (.ifCond .eq 5, 0, 0, [20]),
  (.iconst 1, 0, 1, []),
  (.ireturn, 1, 0, []),
  (.aload_n 0, 0, 0, []),
  (.getfield 21, 3, 0, [2, 0]),
  (.iload_n 1, 1, 0, []),
  (.dup2, 0, 0, []),
  (.iaload, 0, 0, []),
  (.iconst 1, 0, 1, []),
  (.iadd, 0, 0, []),
  (.iastore, 0, 0, []),
  (.iconst 0, 0, 0, []),
  (.ireturn, 1, 0, []),
  (.aload_n 0, 0, 0, []),
  (.getfield 24, 4, 0, [2, 0]),
  (.iload_n 1, 1, 0, []),
  (.baload, 0, 0, []),
  (.ifCond .eq 10, 0, 0, [38]),
  (.aload_n 0, 0, 0, []),
  (.getfield 38, 8, 0, [2, 0]),
  (.ifCond .gt 5, 0, 0, [40]),
  (.iconst 0, 0, 0, []),
  (.ireturn, 1, 0, []),
  (.aload_n 0, 0, 0, []),
  (.getfield 24, 4, 0, [2, 0]),
  (.iload_n 1, 1, 0, []),
  (.iconst 0, 0, 0, []),
  (.bastore, 0, 0, []),
  (.aload_n 0, 0, 0, []),
  (.dup, 0, 0, []),
  (.getfield 38, 8, 0, [2, 0]),
  (.iconst 1, 0, 1, []),
  (.isub, 0, 0, []),
  (.putfield 38, 8, 0, [2, 0]),
  (.aload_n 0, 0, 0, []),
  (.iload_n 1, 1, 0, []),
  (.iload_n 2, 2, 0, []),
  (.invokevirtual 86, 31, 0, [3, 0]),
  (.ifCond .eq 5, 0, 0, [58]),
  (.iconst 1, 0, 1, []),
  (.ireturn, 1, 0, []),
  (.aload_n 0, 0, 0, []),
  (.getfield 24, 4, 0, [2, 0]),
  (.iload_n 1, 1, 0, []),
  (.iconst 1, 0, 1, []),
  (.bastore, 0, 0, []),
  (.aload_n 0, 0, 0, []),
  (.dup, 0, 0, []),
  (.getfield 38, 8, 0, [2, 0]),
  (.iconst 1, 0, 1, []),
  (.iadd, 0, 0, []),
  (.putfield 38, 8, 0, [2, 0]),
  (.iconst 0, 0, 0, []),
  (.ireturn, 1, 0, [])]
def p30 : List Nat := [0, 1, 4, 5, 6, 9, 10, 13, 14, 15, 16, 17, 18, 19, 20, 21, 22, 25, 28, 29, 30, 31, 34, 35, 36, 37, 38, 39, 40, 41, 42, 43, 46, 47, 48, 51, 52, 55, 58, 59, 60, 61, 64, 65, 66, 67, 68, 69, 72, 73, 74, 77, 78, 79, 80, 83, 86, 87, 88, 89, 92, 93, 94, 95, 96, 97, 100, 101, 102, 105, 106]
set_option maxRecDepth 100000 in
theorem ok30 : chk 30 p30 e30 = true := by decide +kernel
/-- X2_completes, of PoloSeason$Planner -/
def e31 : List En := [
  (.iconst 0, 0, 0, []),
  (.istore_n 3, 3, 0, []),
  (.iconst 0, 0, 0, []),
  (.istore 4, 4, 0, []),
  (.nop, 5, 0, []),
  (.iload 4, 4, 0, []),
  (.aload_n 0, 0, 0, []),
  (.getfield 31, 6, 0, [2, 0]),
  (.if_icmp .ge 65, 0, 0, [42]),
  (.iload 4, 4, 0, []),
  (.iload_n 1, 1, 0, []),
  (.if_icmp .ne 7, 0, 0, [14]),
  (.iload_n 2, 2, 0, []),
  (.goto 6, 0, 0, [17]),
  (.iload_n 2, 2, 0, []),
  (.iconst 1, 0, 1, []),
  (.iadd, 0, 0, []),
  (.iconst 2, 0, 2, []),
  (.idiv, 0, 0, []),
  (.istore 5, 5, 0, []),
  (.aload_n 0, 0, 0, []),
  (.getfield 21, 3, 0, [2, 0]),
  (.iload 4, 4, 0, []),
  (.iaload, 0, 0, []),
  (.iload 5, 5, 0, []),
  (.if_icmp .le 5, 0, 0, [28]),
  (.iconst 0, 0, 0, []),
  (.ireturn, 1, 0, []),
  (.aload_n 0, 0, 0, []),
  (.getfield 24, 4, 0, [2, 0]),
  (.iload 4, 4, 0, []),
  (.baload, 0, 0, []),
  (.ifCond .eq 18, 0, 0, [40]),
  (.aload_n 0, 0, 0, []),
  (.getfield 21, 3, 0, [2, 0]),
  (.iload 4, 4, 0, []),
  (.iaload, 0, 0, []),
  (.iload 5, 5, 0, []),
  (.if_icmp .ge 6, 0, 0, [40]),
  (.iinc 3 1, 3, 1, []),
  (.iinc 4 1, 4, 1, []),
  (.goto (-68), 0, 0, [5]),
  (.iload_n 3, 3, 0, []),
  (.aload_n 0, 0, 0, []),
  (.getfield 38, 8, 0, [2, 0]),
  (.if_icmp .lt 7, 0, 0, [48]),
  (.iconst 1, 0, 1, []),
  (.goto 4, 0, 0, [49]),
  (.iconst 0, 0, 0, []),
  (.ireturn, 1, 0, [])]
def p31 : List Nat := [0, 1, 2, 3, 5, 5, 7, 8, 11, 14, 16, 17, 20, 21, 24, 25, 26, 27, 28, 29, 31, 32, 35, 37, 38, 40, 43, 44, 45, 46, 49, 51, 52, 55, 56, 59, 61, 62, 64, 67, 70, 73, 76, 77, 78, 81, 84, 85, 88, 89]
set_option maxRecDepth 100000 in
theorem ok31 : chk 31 p31 e31 = true := by decide +kernel
/-- X3_players, of PoloSeason$Roster -/
def e33 : List En := [
  (.aload_n 0, 0, 0, []),
  (.getfield 22, 3, 0, [3, 0]),
  (.ireturn, 0, 0, [])]
def p33 : List Nat := [0, 1, 4]
set_option maxRecDepth 100000 in
theorem ok33 : chk 33 p33 e33 = true := by decide +kernel
/-- X3_teams, of PoloSeason$Roster -/
def e34 : List En := [
  (.aload_n 0, 0, 0, []),
  (.getfield 26, 4, 0, [3, 0]),
  (.ireturn, 0, 0, [])]
def p34 : List Nat := [0, 1, 4]
set_option maxRecDepth 100000 in
theorem ok34 : chk 34 p34 e34 = true := by decide +kernel
/-- X3_playersAreFull, of PoloSeason$Roster -/
def e35 : List En := [
  (.aload_n 0, 0, 0, []),
  (.getfield 22, 3, 0, [3, 0]),
  (.bipush 32, 0, 32, []),
  (.if_icmp .lt 7, 0, 0, [6]),
  (.iconst 1, 0, 1, []),
  (.goto 4, 0, 0, [7]),
  (.iconst 0, 0, 0, []),
  (.ireturn, 1, 0, [])]
def p35 : List Nat := [0, 1, 4, 6, 9, 10, 13, 14]
set_option maxRecDepth 100000 in
theorem ok35 : chk 35 p35 e35 = true := by decide +kernel
/-- X3_teamsAreFull, of PoloSeason$Roster -/
def e36 : List En := [
  (.aload_n 0, 0, 0, []),
  (.getfield 26, 4, 0, [3, 0]),
  (.bipush 8, 0, 8, []),
  (.if_icmp .lt 7, 0, 0, [6]),
  (.iconst 1, 0, 1, []),
  (.goto 4, 0, 0, [7]),
  (.iconst 0, 0, 0, []),
  (.ireturn, 1, 0, [])]
def p36 : List Nat := [0, 1, 4, 6, 9, 10, 13, 14]
set_option maxRecDepth 100000 in
theorem ok36 : chk 36 p36 e36 = true := by decide +kernel
/-- X3_addPlayer, of PoloSeason$Roster -/
def e37 : List En := [
  (.aload_n 0, 0, 0, []),
  (.getfield 9, 0, 0, [3, 0]),
  (.aload_n 0, 0, 0, []),
  (.getfield 22, 3, 0, [3, 0]),
  (.iload_n 1, 1, 0, []),
  (.iastore, 0, 0, []),
  (.aload_n 0, 0, 0, []),
  (.dup, 0, 0, []),
  (.getfield 22, 3, 0, [3, 0]),
  (.iconst 1, 0, 1, []),
  (.iadd, 0, 0, []),
  (.putfield 22, 3, 0, [3, 0]),
  (.aload_n 0, 0, 0, []),
  (.getfield 22, 3, 0, [3, 0]),
  (.iconst 1, 0, 1, []),
  (.isub, 0, 0, []),
  (.ireturn, 0, 0, [])]
def p37 : List Nat := [0, 1, 4, 5, 8, 9, 10, 11, 12, 15, 16, 17, 20, 21, 24, 25, 26]
set_option maxRecDepth 100000 in
theorem ok37 : chk 37 p37 e37 = true := by decide +kernel
/-- X3_changeHandicap, of PoloSeason$Roster -/
def e38 : List En := [
  (.aload_n 0, 0, 0, []),
  (.getfield 9, 0, 0, [3, 0]),
  (.iload_n 1, 1, 0, []),
  (.iaload, 0, 0, []),
  (.istore_n 3, 3, 0, []),
  (.aload_n 0, 0, 0, []),
  (.getfield 9, 0, 0, [3, 0]),
  (.iload_n 1, 1, 0, []),
  (.iload_n 2, 2, 0, []),
  (.iastore, 0, 0, []),
  (.iload_n 3, 3, 0, []),
  (.ireturn, 0, 0, [])]
def p38 : List Nat := [0, 1, 4, 5, 6, 7, 8, 11, 12, 13, 14, 15]
set_option maxRecDepth 100000 in
theorem ok38 : chk 38 p38 e38 = true := by decide +kernel
/-- X3_inTeam, of PoloSeason$Roster -/
def e39 : List En := [
  (.aload_n 0, 0, 0, []),
  (.getfield 15, 1, 0, [3, 0]),
  (.iload_n 1, 1, 0, []),
  (.baload, 0, 0, []),
  (.ireturn, 1, 0, [])]
def p39 : List Nat := [0, 1, 4, 5, 6]
set_option maxRecDepth 100000 in
theorem ok39 : chk 39 p39 e39 = true := by decide +kernel
/-- X3_addTeam, of PoloSeason$Roster -/
def e40 : List En := [
  (.aload_n 0, 0, 0, []),
  (.getfield 26, 4, 0, [3, 0]),
  (.iconst 4, 0, 4, []),
  (.imul, 0, 0, []),
  (.istore 5, 5, 0, []),
  (.aload_n 0, 0, 0, []),
  (.iload 5, 5, 0, []),
  (.iload_n 1, 1, 0, []),
  (.invokevirtual 29, 41, 0, [3, 0]),
  (.aload_n 0, 0, 0, []),
  (.iload 5, 5, 0, []),
  (.iconst 1, 0, 1, []),
  (.iadd, 0, 0, []),
  (.iload_n 2, 2, 0, []),
  (.invokevirtual 29, 41, 0, [3, 0]),
  (.aload_n 0, 0, 0, []),
  (.iload 5, 5, 0, []),
  (.iconst 2, 0, 2, []),
  (.iadd, 0, 0, []),
  (.iload_n 3, 3, 0, []),
  (.invokevirtual 29, 41, 0, [3, 0]),
  (.aload_n 0, 0, 0, []),
  (.iload 5, 5, 0, []),
  (.iconst 3, 0, 3, []),
  (.iadd, 0, 0, []),
  (.iload 4, 4, 0, []),
  (.invokevirtual 29, 41, 0, [3, 0]),
  (.aload_n 0, 0, 0, []),
  (.dup, 0, 0, []),
  (.getfield 26, 4, 0, [3, 0]),
  (.iconst 1, 0, 1, []),
  (.iadd, 0, 0, []),
  (.putfield 26, 4, 0, [3, 0]),
  (.aload_n 0, 0, 0, []),
  (.getfield 26, 4, 0, [3, 0]),
  (.iconst 1, 0, 1, []),
  (.isub, 0, 0, []),
  (.ireturn, 0, 0, [])]
def p40 : List Nat := [0, 1, 4, 5, 6, 8, 9, 11, 12, 15, 16, 18, 19, 20, 21, 24, 25, 27, 28, 29, 30, 33, 34, 36, 37, 38, 40, 43, 44, 45, 48, 49, 50, 53, 54, 57, 58, 59]
set_option maxRecDepth 100000 in
theorem ok40 : chk 40 p40 e40 = true := by decide +kernel
/-- X3_seat, of PoloSeason$Roster -/
def e41 : List En := [
  (.aload_n 0, 0, 0, []),
  (.getfield 19, 2, 0, [3, 0]),
  (.iload_n 1, 1, 0, []),
  (.iload_n 2, 2, 0, []),
  (.iastore, 0, 0, []),
  (.aload_n 0, 0, 0, []),
  (.getfield 15, 1, 0, [3, 0]),
  (.iload_n 2, 2, 0, []),
  (.iconst 1, 0, 1, []),
  (.bastore, 0, 0, []),
  (.return_, 0, 0, [])]
def p41 : List Nat := [0, 1, 4, 5, 6, 7, 8, 11, 12, 13, 14]
set_option maxRecDepth 100000 in
theorem ok41 : chk 41 p41 e41 = true := by decide +kernel
/-- X3_memberOf, of PoloSeason$Roster -/
def e42 : List En := [
  (.aload_n 0, 0, 0, []),
  (.getfield 19, 2, 0, [3, 0]),
  (.iload_n 1, 1, 0, []),
  (.iconst 4, 0, 4, []),
  (.imul, 0, 0, []),
  (.iload_n 2, 2, 0, []),
  (.iadd, 0, 0, []),
  (.iaload, 0, 0, []),
  (.ireturn, 0, 0, [])]
def p42 : List Nat := [0, 1, 4, 5, 6, 7, 8, 9, 10]
set_option maxRecDepth 100000 in
theorem ok42 : chk 42 p42 e42 = true := by decide +kernel
/-- X3_sumOf, of PoloSeason$Roster -/
def e43 : List En := [
  (.iconst 0, 0, 0, []),
  (.istore_n 2, 2, 0, []),
  (.iconst 0, 0, 0, []),
  (.istore_n 3, 3, 0, []),
  (.nop, 5, 0, []),
  (.iload_n 3, 3, 0, []),
  (.iconst 4, 0, 4, []),
  (.if_icmp .ge 23, 0, 0, [20]),
  (.iload_n 2, 2, 0, []),
  (.aload_n 0, 0, 0, []),
  (.getfield 9, 0, 0, [3, 0]),
  (.aload_n 0, 0, 0, []),
  (.iload_n 1, 1, 0, []),
  (.iload_n 3, 3, 0, []),
  (.invokevirtual 33, 42, 0, [3, 0]),
  (.iaload, 0, 0, []),
  (.iadd, 0, 0, []),
  (.istore_n 2, 2, 0, []),
  (.iinc 3 1, 3, 1, []),
  (.goto (-22), 0, 0, [5]),
  (.iload_n 2, 2, 0, []),
  (.ireturn, 0, 0, [])]
def p43 : List Nat := [0, 1, 2, 3, 4, 4, 5, 6, 9, 10, 11, 14, 15, 16, 17, 20, 21, 22, 23, 26, 29, 30]
set_option maxRecDepth 100000 in
theorem ok43 : chk 43 p43 e43 = true := by decide +kernel
/-- X4_size, of PoloSeason$Row -/
def e45 : List En := [
  (.aload_n 0, 0, 0, []),
  (.getfield 15, 1, 0, [4, 0]),
  (.ireturn, 0, 0, [])]
def p45 : List Nat := [0, 1, 4]
set_option maxRecDepth 100000 in
theorem ok45 : chk 45 p45 e45 = true := by decide +kernel
/-- X4_empty, of PoloSeason$Row -/
def e46 : List En := [
  (.aload_n 0, 0, 0, []),
  (.iconst 0, 0, 0, []),
  (.putfield 15, 1, 0, [4, 0]),
  (.return_, 0, 0, [])]
def p46 : List Nat := [0, 1, 2, 5]
set_option maxRecDepth 100000 in
theorem ok46 : chk 46 p46 e46 = true := by decide +kernel
/-- X4_append, of PoloSeason$Row -/
def e47 : List En := [
  (.aload_n 0, 0, 0, []),
  (.getfield 15, 1, 0, [4, 0]),
  (.bipush 8, 0, 8, []),
  (.if_icmp .ge 23, 0, 0, [16]),
  (.aload_n 0, 0, 0, []),
  (.getfield 9, 0, 0, [4, 0]),
  (.aload_n 0, 0, 0, []),
  (.getfield 15, 1, 0, [4, 0]),
  (.iload_n 1, 1, 0, []),
  (.iastore, 0, 0, []),
  (.aload_n 0, 0, 0, []),
  (.dup, 0, 0, []),
  (.getfield 15, 1, 0, [4, 0]),
  (.iconst 1, 0, 1, []),
  (.iadd, 0, 0, []),
  (.putfield 15, 1, 0, [4, 0]),
  (.return_, 0, 0, [])]
def p47 : List Nat := [0, 1, 4, 6, 9, 10, 13, 14, 17, 18, 19, 20, 21, 24, 25, 26, 29]
set_option maxRecDepth 100000 in
theorem ok47 : chk 47 p47 e47 = true := by decide +kernel
/-- X4_at, of PoloSeason$Row -/
def e48 : List En := [
  (.iload_n 1, 1, 0, []),
  (.ifCond .lt 20, 0, 0, [11]),
  (.iload_n 1, 1, 0, []),
  (.aload_n 0, 0, 0, []),
  (.getfield 15, 1, 0, [4, 0]),
  (.if_icmp .ge 12, 0, 0, [11]),
  (.aload_n 0, 0, 0, []),
  (.getfield 9, 0, 0, [4, 0]),
  (.iload_n 1, 1, 0, []),
  (.iaload, 0, 0, []),
  (.goto 4, 0, 0, [12]),
  (.iconst (-1), 0, (-1), []),
  (.ireturn, 0, 0, [])]
def p48 : List Nat := [0, 1, 4, 5, 6, 9, 12, 13, 16, 17, 18, 21, 22]
set_option maxRecDepth 100000 in
theorem ok48 : chk 48 p48 e48 = true := by decide +kernel
/-- X4_contains, of PoloSeason$Row -/
def e49 : List En := [
  (.iconst 0, 0, 0, []),
  (.istore_n 2, 2, 0, []),
  (.nop, 3, 0, []),
  (.iload_n 2, 2, 0, []),
  (.aload_n 0, 0, 0, []),
  (.getfield 15, 1, 0, [4, 0]),
  (.if_icmp .ge 21, 0, 0, [17]),
  (.aload_n 0, 0, 0, []),
  (.getfield 9, 0, 0, [4, 0]),
  (.iload_n 2, 2, 0, []),
  (.iaload, 0, 0, []),
  (.iload_n 1, 1, 0, []),
  (.if_icmp .ne 5, 0, 0, [15]),
  (.iconst 1, 0, 1, []),
  (.ireturn, 1, 0, []),
  (.iinc 2 1, 2, 1, []),
  (.goto (-23), 0, 0, [3]),
  (.iconst 0, 0, 0, []),
  (.ireturn, 1, 0, [])]
def p49 : List Nat := [0, 1, 2, 2, 3, 4, 7, 10, 11, 14, 15, 16, 17, 20, 21, 22, 25, 28, 29]
set_option maxRecDepth 100000 in
theorem ok49 : chk 49 p49 e49 = true := by decide +kernel
/-- X4_exchange, of PoloSeason$Row -/
def e50 : List En := [
  (.iload_n 1, 1, 0, []),
  (.ifCond .lt 23, 0, 0, [12]),
  (.iload_n 1, 1, 0, []),
  (.aload_n 0, 0, 0, []),
  (.getfield 15, 1, 0, [4, 0]),
  (.if_icmp .ge 15, 0, 0, [12]),
  (.iload_n 2, 2, 0, []),
  (.ifCond .lt 11, 0, 0, [12]),
  (.iload_n 2, 2, 0, []),
  (.aload_n 0, 0, 0, []),
  (.getfield 15, 1, 0, [4, 0]),
  (.if_icmp .lt 4, 0, 0, [13]),
  (.return_, 0, 0, []),
  (.aload_n 0, 0, 0, []),
  (.getfield 9, 0, 0, [4, 0]),
  (.iload_n 1, 1, 0, []),
  (.iaload, 0, 0, []),
  (.istore_n 3, 3, 0, []),
  (.aload_n 0, 0, 0, []),
  (.getfield 9, 0, 0, [4, 0]),
  (.iload_n 1, 1, 0, []),
  (.aload_n 0, 0, 0, []),
  (.getfield 9, 0, 0, [4, 0]),
  (.iload_n 2, 2, 0, []),
  (.iaload, 0, 0, []),
  (.iastore, 0, 0, []),
  (.aload_n 0, 0, 0, []),
  (.getfield 9, 0, 0, [4, 0]),
  (.iload_n 2, 2, 0, []),
  (.iload_n 3, 3, 0, []),
  (.iastore, 0, 0, []),
  (.return_, 0, 0, [])]
def p50 : List Nat := [0, 1, 4, 5, 6, 9, 12, 13, 16, 17, 18, 21, 24, 25, 26, 29, 30, 31, 32, 33, 36, 37, 38, 41, 42, 43, 44, 45, 48, 49, 50, 51]
set_option maxRecDepth 100000 in
theorem ok50 : chk 50 p50 e50 = true := by decide +kernel
/-- X4_removeAll, of PoloSeason$Row -/
def e51 : List En := [
  (.iconst 0, 0, 0, []),
  (.istore_n 2, 2, 0, []),
  (.iconst 0, 0, 0, []),
  (.istore_n 3, 3, 0, []),
  (.nop, 5, 0, []),
  (.iload_n 3, 3, 0, []),
  (.aload_n 0, 0, 0, []),
  (.getfield 15, 1, 0, [4, 0]),
  (.if_icmp .ge 37, 0, 0, [27]),
  (.aload_n 1, 1, 0, []),
  (.aload_n 0, 0, 0, []),
  (.getfield 9, 0, 0, [4, 0]),
  (.iload_n 3, 3, 0, []),
  (.iaload, 0, 0, []),
  (.invokevirtual 19, 49, 0, [2, 0]),
  (.ifCond .ne 18, 0, 0, [25]),
  (.aload_n 0, 0, 0, []),
  (.getfield 9, 0, 0, [4, 0]),
  (.iload_n 2, 2, 0, []),
  (.aload_n 0, 0, 0, []),
  (.getfield 9, 0, 0, [4, 0]),
  (.iload_n 3, 3, 0, []),
  (.iaload, 0, 0, []),
  (.iastore, 0, 0, []),
  (.iinc 2 1, 2, 1, []),
  (.iinc 3 1, 3, 1, []),
  (.goto (-39), 0, 0, [5]),
  (.aload_n 0, 0, 0, []),
  (.iload_n 2, 2, 0, []),
  (.putfield 15, 1, 0, [4, 0]),
  (.return_, 0, 0, [])]
def p51 : List Nat := [0, 1, 2, 3, 4, 4, 5, 6, 9, 12, 13, 14, 17, 18, 19, 22, 25, 26, 29, 30, 31, 34, 35, 36, 37, 40, 43, 46, 47, 48, 51]
set_option maxRecDepth 100000 in
theorem ok51 : chk 51 p51 e51 = true := by decide +kernel
/-- X5_ponies, of PoloSeason$Stable -/
def e53 : List En := [
  (.aload_n 0, 0, 0, []),
  (.getfield 24, 4, 0, [5, 0]),
  (.ireturn, 0, 0, [])]
def p53 : List Nat := [0, 1, 4]
set_option maxRecDepth 100000 in
theorem ok53 : chk 53 p53 e53 = true := by decide +kernel
/-- X5_today, of PoloSeason$Stable -/
def e54 : List En := [
  (.aload_n 0, 0, 0, []),
  (.getfield 28, 5, 0, [5, 0]),
  (.ireturn, 0, 0, [])]
def p54 : List Nat := [0, 1, 4]
set_option maxRecDepth 100000 in
theorem ok54 : chk 54 p54 e54 = true := by decide +kernel
/-- X5_isFull, of PoloSeason$Stable -/
def e55 : List En := [
  (.aload_n 0, 0, 0, []),
  (.getfield 24, 4, 0, [5, 0]),
  (.bipush 60, 0, 60, []),
  (.if_icmp .lt 7, 0, 0, [6]),
  (.iconst 1, 0, 1, []),
  (.goto 4, 0, 0, [7]),
  (.iconst 0, 0, 0, []),
  (.ireturn, 1, 0, [])]
def p55 : List Nat := [0, 1, 4, 6, 9, 10, 13, 14]
set_option maxRecDepth 100000 in
theorem ok55 : chk 55 p55 e55 = true := by decide +kernel
/-- X5_poniesOf, of PoloSeason$Stable -/
def e56 : List En := [
  (.iconst 0, 0, 0, []),
  (.istore_n 2, 2, 0, []),
  (.iconst 0, 0, 0, []),
  (.istore_n 3, 3, 0, []),
  (.nop, 5, 0, []),
  (.iload_n 3, 3, 0, []),
  (.aload_n 0, 0, 0, []),
  (.getfield 24, 4, 0, [5, 0]),
  (.if_icmp .ge 22, 0, 0, [18]),
  (.aload_n 0, 0, 0, []),
  (.getfield 9, 0, 0, [5, 0]),
  (.iload_n 3, 3, 0, []),
  (.iaload, 0, 0, []),
  (.iload_n 1, 1, 0, []),
  (.if_icmp .ne 6, 0, 0, [16]),
  (.iinc 2 1, 2, 1, []),
  (.iinc 3 1, 3, 1, []),
  (.goto (-24), 0, 0, [5]),
  (.iload_n 2, 2, 0, []),
  (.ireturn, 0, 0, [])]
def p56 : List Nat := [0, 1, 2, 3, 4, 4, 5, 6, 9, 12, 13, 16, 17, 18, 19, 22, 25, 28, 31, 32]
set_option maxRecDepth 100000 in
theorem ok56 : chk 56 p56 e56 = true := by decide +kernel
/-- X5_addPony, of PoloSeason$Stable -/
def e57 : List En := [
  (.aload_n 0, 0, 0, []),
  (.getfield 9, 0, 0, [5, 0]),
  (.aload_n 0, 0, 0, []),
  (.getfield 24, 4, 0, [5, 0]),
  (.iload_n 1, 1, 0, []),
  (.iastore, 0, 0, []),
  (.aload_n 0, 0, 0, []),
  (.dup, 0, 0, []),
  (.getfield 24, 4, 0, [5, 0]),
  (.iconst 1, 0, 1, []),
  (.iadd, 0, 0, []),
  (.putfield 24, 4, 0, [5, 0]),
  (.aload_n 0, 0, 0, []),
  (.getfield 24, 4, 0, [5, 0]),
  (.iconst 1, 0, 1, []),
  (.isub, 0, 0, []),
  (.ireturn, 0, 0, [])]
def p57 : List Nat := [0, 1, 4, 5, 8, 9, 10, 11, 12, 15, 16, 17, 20, 21, 24, 25, 26]
set_option maxRecDepth 100000 in
theorem ok57 : chk 57 p57 e57 = true := by decide +kernel
/-- X5_layUp, of PoloSeason$Stable -/
def e58 : List En := [
  (.aload_n 0, 0, 0, []),
  (.getfield 21, 3, 0, [5, 0]),
  (.iload_n 1, 1, 0, []),
  (.iload_n 2, 2, 0, []),
  (.iastore, 0, 0, []),
  (.aload_n 0, 0, 0, []),
  (.iload_n 1, 1, 0, []),
  (.invokevirtual 31, 59, 0, [2, 0]),
  (.ireturn, 1, 0, [])]
def p58 : List Nat := [0, 1, 4, 5, 6, 7, 8, 9, 12]
set_option maxRecDepth 100000 in
theorem ok58 : chk 58 p58 e58 = true := by decide +kernel
/-- X5_isLame, of PoloSeason$Stable -/
def e59 : List En := [
  (.aload_n 0, 0, 0, []),
  (.getfield 28, 5, 0, [5, 0]),
  (.aload_n 0, 0, 0, []),
  (.getfield 21, 3, 0, [5, 0]),
  (.iload_n 1, 1, 0, []),
  (.iaload, 0, 0, []),
  (.if_icmp .ge 7, 0, 0, [9]),
  (.iconst 1, 0, 1, []),
  (.goto 4, 0, 0, [10]),
  (.iconst 0, 0, 0, []),
  (.ireturn, 1, 0, [])]
def p59 : List Nat := [0, 1, 4, 5, 8, 9, 10, 13, 14, 17, 18]
set_option maxRecDepth 100000 in
theorem ok59 : chk 59 p59 e59 = true := by decide +kernel
/-- X5_ownerOf, of PoloSeason$Stable -/
def e60 : List En := [
  (.aload_n 0, 0, 0, []),
  (.getfield 9, 0, 0, [5, 0]),
  (.iload_n 1, 1, 0, []),
  (.iaload, 0, 0, []),
  (.ireturn, 0, 0, [])]
def p60 : List Nat := [0, 1, 4, 5, 6]
set_option maxRecDepth 100000 in
theorem ok60 : chk 60 p60 e60 = true := by decide +kernel
/-- X5_ledOf, of PoloSeason$Stable -/
def e61 : List En := [
  (.aload_n 0, 0, 0, []),
  (.getfield 15, 1, 0, [5, 0]),
  (.iload_n 1, 1, 0, []),
  (.iaload, 0, 0, []),
  (.ireturn, 0, 0, [])]
def p61 : List Nat := [0, 1, 4, 5, 6]
set_option maxRecDepth 100000 in
theorem ok61 : chk 61 p61 e61 = true := by decide +kernel
/-- X5_ridesToday, of PoloSeason$Stable -/
def e62 : List En := [
  (.aload_n 0, 0, 0, []),
  (.getfield 18, 2, 0, [5, 0]),
  (.iload_n 1, 1, 0, []),
  (.iaload, 0, 0, []),
  (.ireturn, 0, 0, [])]
def p62 : List Nat := [0, 1, 4, 5, 6]
set_option maxRecDepth 100000 in
theorem ok62 : chk 62 p62 e62 = true := by decide +kernel
/-- X5_ridesLeft, of PoloSeason$Stable -/
def e63 : List En := [
  (.aload_n 0, 0, 0, []),
  (.iload_n 1, 1, 0, []),
  (.invokevirtual 31, 59, 0, [2, 0]),
  (.ifCond .eq 7, 0, 0, [6]),
  (.iconst 0, 0, 0, []),
  (.goto 11, 0, 0, [12]),
  (.iconst 2, 0, 2, []),
  (.aload_n 0, 0, 0, []),
  (.getfield 18, 2, 0, [5, 0]),
  (.iload_n 1, 1, 0, []),
  (.iaload, 0, 0, []),
  (.isub, 0, 0, []),
  (.ireturn, 0, 0, [])]
def p63 : List Nat := [0, 1, 2, 5, 8, 9, 12, 13, 14, 17, 18, 19, 20]
set_option maxRecDepth 100000 in
theorem ok63 : chk 63 p63 e63 = true := by decide +kernel
/-- X5_ride, of PoloSeason$Stable -/
def e64 : List En := [
  (.aload_n 0, 0, 0, []),
  (.getfield 18, 2, 0, [5, 0]),
  (.iload_n 1, 1, 0, []),
  (.dup2, 0, 0, []),
  (.iaload, 0, 0, []),
  (.iconst 1, 0, 1, []),
  (.iadd, 0, 0, []),
  (.iastore, 0, 0, []),
  (.aload_n 0, 0, 0, []),
  (.getfield 15, 1, 0, [5, 0]),
  (.iload_n 1, 1, 0, []),
  (.dup2, 0, 0, []),
  (.iaload, 0, 0, []),
  (.bipush 7, 0, 7, []),
  (.iadd, 0, 0, []),
  (.iastore, 0, 0, []),
  (.return_, 0, 0, [])]
def p64 : List Nat := [0, 1, 4, 5, 6, 7, 8, 9, 10, 11, 14, 15, 16, 17, 19, 20, 21]
set_option maxRecDepth 100000 in
theorem ok64 : chk 64 p64 e64 = true := by decide +kernel
/-- X5_nextDay, of PoloSeason$Stable -/
def e65 : List En := [
  (.iconst 0, 0, 0, []),
  (.istore_n 1, 1, 0, []),
  (.nop, 3, 0, []),
  (.iload_n 1, 1, 0, []),
  (.aload_n 0, 0, 0, []),
  (.getfield 24, 4, 0, [5, 0]),
  (.if_icmp .ge 16, 0, 0, [14]),
  (.aload_n 0, 0, 0, []),
  (.getfield 18, 2, 0, [5, 0]),
  (.iload_n 1, 1, 0, []),
  (.iconst 0, 0, 0, []),
  (.iastore, 0, 0, []),
  (.iinc 1 1, 1, 1, []),
  (.goto (-18), 0, 0, [3]),
  (.aload_n 0, 0, 0, []),
  (.dup, 0, 0, []),
  (.getfield 28, 5, 0, [5, 0]),
  (.iconst 1, 0, 1, []),
  (.iadd, 0, 0, []),
  (.putfield 28, 5, 0, [5, 0]),
  (.aload_n 0, 0, 0, []),
  (.getfield 28, 5, 0, [5, 0]),
  (.ireturn, 0, 0, [])]
def p65 : List Nat := [0, 1, 2, 2, 3, 4, 7, 10, 11, 14, 15, 16, 17, 20, 23, 24, 25, 28, 29, 30, 33, 34, 37]
set_option maxRecDepth 100000 in
theorem ok65 : chk 65 p65 e65 = true := by decide +kernel
/-- X6_beginAnew, of PoloSeason$Tournament -/
def e67 : List En := [
  (.aload_n 0, 0, 0, []),
  (.getfield 12, 0, 0, [6, 0]),
  (.invokevirtual 47, 46, 0, [1, 0]),
  (.aload_n 0, 0, 0, []),
  (.getfield 18, 1, 0, [6, 0]),
  (.invokevirtual 47, 46, 0, [1, 0]),
  (.aload_n 0, 0, 0, []),
  (.getfield 21, 2, 0, [6, 0]),
  (.invokevirtual 47, 46, 0, [1, 0]),
  (.aload_n 0, 0, 0, []),
  (.getfield 24, 3, 0, [6, 0]),
  (.invokevirtual 47, 46, 0, [1, 0]),
  (.aload_n 0, 0, 0, []),
  (.iconst 1, 0, 1, []),
  (.putfield 27, 4, 0, [6, 1]),
  (.aload_n 0, 0, 0, []),
  (.iconst 0, 0, 0, []),
  (.putfield 31, 5, 0, [6, 1]),
  (.aload_n 0, 0, 0, []),
  (.iload_n 1, 1, 0, []),
  (.putfield 34, 6, 0, [6, 0]),
  (.aload_n 0, 0, 0, []),
  (.iload_n 2, 2, 0, []),
  (.putfield 38, 7, 0, [6, 0]),
  (.aload_n 0, 0, 0, []),
  (.iconst 0, 0, 0, []),
  (.putfield 41, 8, 0, [6, 0]),
  (.aload_n 0, 0, 0, []),
  (.iconst 0, 0, 0, []),
  (.putfield 44, 9, 0, [6, 0]),
  (.return_, 0, 0, [])]
def p67 : List Nat := [0, 1, 4, 7, 8, 11, 14, 15, 18, 21, 22, 25, 28, 29, 30, 33, 34, 35, 38, 39, 40, 43, 44, 45, 48, 49, 50, 53, 54, 55, 58]
set_option maxRecDepth 100000 in
theorem ok67 : chk 67 p67 e67 = true := by decide +kernel
/-- X6_isOpen, of PoloSeason$Tournament -/
def e68 : List En := [
  (.aload_n 0, 0, 0, []),
  (.getfield 27, 4, 0, [6, 1]),
  (.ireturn, 1, 0, [])]
def p68 : List Nat := [0, 1, 4]
set_option maxRecDepth 100000 in
theorem ok68 : chk 68 p68 e68 = true := by decide +kernel
/-- X6_isDrawn, of PoloSeason$Tournament -/
def e69 : List En := [
  (.aload_n 0, 0, 0, []),
  (.getfield 31, 5, 0, [6, 1]),
  (.ireturn, 1, 0, [])]
def p69 : List Nat := [0, 1, 4]
set_option maxRecDepth 100000 in
theorem ok69 : chk 69 p69 e69 = true := by decide +kernel
/-- X6_limit, of PoloSeason$Tournament -/
def e70 : List En := [
  (.aload_n 0, 0, 0, []),
  (.getfield 34, 6, 0, [6, 0]),
  (.ireturn, 0, 0, [])]
def p70 : List Nat := [0, 1, 4]
set_option maxRecDepth 100000 in
theorem ok70 : chk 70 p70 e70 = true := by decide +kernel
/-- X6_chukkas, of PoloSeason$Tournament -/
def e71 : List En := [
  (.aload_n 0, 0, 0, []),
  (.getfield 38, 7, 0, [6, 0]),
  (.ireturn, 0, 0, [])]
def p71 : List Nat := [0, 1, 4]
set_option maxRecDepth 100000 in
theorem ok71 : chk 71 p71 e71 = true := by decide +kernel
/-- X6_teams, of PoloSeason$Tournament -/
def e72 : List En := [
  (.aload_n 0, 0, 0, []),
  (.getfield 12, 0, 0, [6, 0]),
  (.invokevirtual 50, 45, 0, [1, 0]),
  (.ireturn, 0, 0, [])]
def p72 : List Nat := [0, 1, 4, 7]
set_option maxRecDepth 100000 in
theorem ok72 : chk 72 p72 e72 = true := by decide +kernel
/-- X6_matchesPlayed, of PoloSeason$Tournament -/
def e73 : List En := [
  (.aload_n 0, 0, 0, []),
  (.getfield 41, 8, 0, [6, 0]),
  (.ireturn, 0, 0, [])]
def p73 : List Nat := [0, 1, 4]
set_option maxRecDepth 100000 in
theorem ok73 : chk 73 p73 e73 = true := by decide +kernel
/-- X6_roundsBegun, of PoloSeason$Tournament -/
def e74 : List En := [
  (.aload_n 0, 0, 0, []),
  (.getfield 44, 9, 0, [6, 0]),
  (.ireturn, 0, 0, [])]
def p74 : List Nat := [0, 1, 4]
set_option maxRecDepth 100000 in
theorem ok74 : chk 74 p74 e74 = true := by decide +kernel
/-- X6_holds, of PoloSeason$Tournament -/
def e75 : List En := [
  (.aload_n 0, 0, 0, []),
  (.getfield 12, 0, 0, [6, 0]),
  (.iload_n 1, 1, 0, []),
  (.invokevirtual 54, 49, 0, [2, 0]),
  (.ireturn, 1, 0, [])]
def p75 : List Nat := [0, 1, 4, 5, 8]
set_option maxRecDepth 100000 in
theorem ok75 : chk 75 p75 e75 = true := by decide +kernel
/-- X6_admit, of PoloSeason$Tournament -/
def e76 : List En := [
  (.aload_n 0, 0, 0, []),
  (.getfield 12, 0, 0, [6, 0]),
  (.iload_n 1, 1, 0, []),
  (.invokevirtual 58, 47, 0, [2, 0]),
  (.aload_n 0, 0, 0, []),
  (.getfield 12, 0, 0, [6, 0]),
  (.invokevirtual 50, 45, 0, [1, 0]),
  (.ireturn, 0, 0, [])]
def p76 : List Nat := [0, 1, 4, 5, 8, 9, 12, 15]
set_option maxRecDepth 100000 in
theorem ok76 : chk 76 p76 e76 = true := by decide +kernel
/-- X6_shuffle, of PoloSeason$Tournament -/
def e77 : List En := [
  (.iconst 0, 0, 0, []),
  (.istore_n 2, 2, 0, []),
  (.nop, 3, 0, []),
  (.iload_n 2, 2, 0, []),
  (.aload_n 0, 0, 0, []),
  (.getfield 12, 0, 0, [6, 0]),
  (.invokevirtual 50, 45, 0, [1, 0]),
  (.if_icmp .ge 24, 0, 0, [17]),
  (.aload_n 0, 0, 0, []),
  (.getfield 18, 1, 0, [6, 0]),
  (.aload_n 0, 0, 0, []),
  (.getfield 12, 0, 0, [6, 0]),
  (.iload_n 2, 2, 0, []),
  (.invokevirtual 62, 48, 0, [2, 0]),
  (.invokevirtual 58, 47, 0, [2, 0]),
  (.iinc 2 1, 2, 1, []),
  (.goto (-29), 0, 0, [3]),
  (.iconst 0, 0, 0, []),
  (.istore_n 2, 2, 0, []),
  (.aload_n 0, 0, 0, []),
  (.getfield 18, 1, 0, [6, 0]),
  (.invokevirtual 50, 45, 0, [1, 0]),
  (.iconst 1, 0, 1, []),
  (.isub, 0, 0, []),
  (.istore_n 3, 3, 0, []),
  (.nop, 26, 0, []),
  (.iload_n 3, 3, 0, []),
  (.iconst 1, 0, 1, []),
  (.if_icmp .lt 28, 0, 0, [42]),
  (.aload_n 0, 0, 0, []),
  (.getfield 18, 1, 0, [6, 0]),
  (.iload_n 3, 3, 0, []),
  (.aload_n 1, 1, 0, []),
  (.iload_n 2, 2, 0, []),
  (.iload_n 3, 3, 0, []),
  (.iconst 1, 0, 1, []),
  (.iadd, 0, 0, []),
  (.invokevirtual 66, 20, 0, [3, 0]),
  (.invokevirtual 72, 50, 0, [3, 0]),
  (.iinc 2 1, 2, 1, []),
  (.iinc 3 (-1), 3, (-1), []),
  (.goto (-27), 0, 0, [26]),
  (.aload_n 0, 0, 0, []),
  (.iconst 1, 0, 1, []),
  (.putfield 31, 5, 0, [6, 1]),
  (.aload_n 0, 0, 0, []),
  (.iconst 1, 0, 1, []),
  (.putfield 44, 9, 0, [6, 0]),
  (.return_, 0, 0, [])]
def p77 : List Nat := [0, 1, 2, 2, 3, 4, 7, 10, 13, 14, 17, 18, 21, 22, 25, 28, 31, 34, 35, 36, 37, 40, 43, 44, 45, 46, 46, 47, 48, 51, 52, 55, 56, 57, 58, 59, 60, 61, 64, 67, 70, 73, 76, 77, 78, 81, 82, 83, 86]
set_option maxRecDepth 100000 in
theorem ok77 : chk 77 p77 e77 = true := by decide +kernel
/-- X6_sideOfNext, of PoloSeason$Tournament -/
def e78 : List En := [
  (.aload_n 0, 0, 0, []),
  (.getfield 24, 3, 0, [6, 0]),
  (.invokevirtual 50, 45, 0, [1, 0]),
  (.istore_n 2, 2, 0, []),
  (.aload_n 0, 0, 0, []),
  (.getfield 18, 1, 0, [6, 0]),
  (.invokevirtual 50, 45, 0, [1, 0]),
  (.iconst 1, 0, 1, []),
  (.if_icmp .ne 46, 0, 0, [30]),
  (.aload_n 0, 0, 0, []),
  (.getfield 21, 2, 0, [6, 0]),
  (.invokevirtual 50, 45, 0, [1, 0]),
  (.iconst 1, 0, 1, []),
  (.if_icmp .ne 35, 0, 0, [30]),
  (.iload_n 2, 2, 0, []),
  (.ifCond .le 7, 0, 0, [18]),
  (.iconst (-1), 0, (-1), []),
  (.goto 26, 0, 0, [29]),
  (.iload_n 1, 1, 0, []),
  (.ifCond .ne 14, 0, 0, [25]),
  (.aload_n 0, 0, 0, []),
  (.getfield 18, 1, 0, [6, 0]),
  (.iconst 0, 0, 0, []),
  (.invokevirtual 62, 48, 0, [2, 0]),
  (.goto 11, 0, 0, [29]),
  (.aload_n 0, 0, 0, []),
  (.getfield 21, 2, 0, [6, 0]),
  (.iconst 0, 0, 0, []),
  (.invokevirtual 62, 48, 0, [2, 0]),
  (.ireturn, 0, 0, []),
  (.aload_n 0, 0, 0, []),
  (.getfield 18, 1, 0, [6, 0]),
  (.invokevirtual 50, 45, 0, [1, 0]),
  (.iconst 2, 0, 2, []),
  (.idiv, 0, 0, []),
  (.istore_n 3, 3, 0, []),
  (.iload_n 2, 2, 0, []),
  (.iload_n 3, 3, 0, []),
  (.if_icmp .ge 16, 0, 0, [48]),
  (.aload_n 0, 0, 0, []),
  (.getfield 18, 1, 0, [6, 0]),
  (.iconst 2, 0, 2, []),
  (.iload_n 2, 2, 0, []),
  (.imul, 0, 0, []),
  (.iload_n 1, 1, 0, []),
  (.iadd, 0, 0, []),
  (.invokevirtual 62, 48, 0, [2, 0]),
  (.ireturn, 0, 0, []),
  (.iload_n 2, 2, 0, []),
  (.iload_n 3, 3, 0, []),
  (.isub, 0, 0, []),
  (.istore 4, 4, 0, []),
  (.iload 4, 4, 0, []),
  (.aload_n 0, 0, 0, []),
  (.getfield 21, 2, 0, [6, 0]),
  (.invokevirtual 50, 45, 0, [1, 0]),
  (.iconst 2, 0, 2, []),
  (.idiv, 0, 0, []),
  (.if_icmp .ge 19, 0, 0, [68]),
  (.aload_n 0, 0, 0, []),
  (.getfield 21, 2, 0, [6, 0]),
  (.iconst 2, 0, 2, []),
  (.iload 4, 4, 0, []),
  (.imul, 0, 0, []),
  (.iload_n 1, 1, 0, []),
  (.iadd, 0, 0, []),
  (.invokevirtual 62, 48, 0, [2, 0]),
  (.goto 4, 0, 0, [69]),
  (.iconst (-1), 0, (-1), []),
  (.ireturn, 0, 0, [])]
def p78 : List Nat := [0, 1, 4, 7, 8, 9, 12, 15, 16, 19, 20, 23, 26, 27, 30, 31, 34, 35, 38, 39, 42, 43, 46, 47, 50, 53, 54, 57, 58, 61, 62, 63, 66, 69, 70, 71, 72, 73, 74, 77, 78, 81, 82, 83, 84, 85, 86, 89, 90, 91, 92, 93, 95, 97, 98, 101, 104, 105, 106, 109, 110, 113, 114, 116, 117, 118, 119, 122, 125, 126]
set_option maxRecDepth 100000 in
theorem ok78 : chk 78 p78 e78 = true := by decide +kernel
/-- X6_endMatch, of PoloSeason$Tournament -/
def e79 : List En := [
  (.aload_n 0, 0, 0, []),
  (.getfield 24, 3, 0, [6, 0]),
  (.iload_n 1, 1, 0, []),
  (.invokevirtual 58, 47, 0, [2, 0]),
  (.aload_n 0, 0, 0, []),
  (.dup, 0, 0, []),
  (.getfield 41, 8, 0, [6, 0]),
  (.iconst 1, 0, 1, []),
  (.iadd, 0, 0, []),
  (.putfield 41, 8, 0, [6, 0]),
  (.aload_n 0, 0, 0, []),
  (.iconst 0, 0, 0, []),
  (.invokevirtual 76, 78, 0, [2, 0]),
  (.iconst (-1), 0, (-1), []),
  (.if_icmp .ne 7, 0, 0, [17]),
  (.aload_n 0, 0, 0, []),
  (.invokevirtual 79, 80, 0, [1, 0]),
  (.return_, 0, 0, [])]
def p79 : List Nat := [0, 1, 4, 5, 8, 9, 10, 13, 14, 15, 18, 19, 20, 23, 24, 27, 28, 31]
set_option maxRecDepth 100000 in
theorem ok79 : chk 79 p79 e79 = true := by decide +kernel
/-- X6_endRound, of PoloSeason$Tournament -/
def e80 : List En := [
  (.aload_n 0, 0, 0, []),
  (.getfield 21, 2, 0, [6, 0]),
  (.aload_n 0, 0, 0, []),
  (.getfield 24, 3, 0, [6, 0]),
  (.invokevirtual 82, 51, 0, [2, 0]),
  (.iconst 0, 0, 0, []),
  (.istore_n 1, 1, 0, []),
  (.nop, 8, 0, []),
  (.iload_n 1, 1, 0, []),
  (.aload_n 0, 0, 0, []),
  (.getfield 24, 3, 0, [6, 0]),
  (.invokevirtual 50, 45, 0, [1, 0]),
  (.if_icmp .ge 42, 0, 0, [30]),
  (.aload_n 0, 0, 0, []),
  (.getfield 18, 1, 0, [6, 0]),
  (.aload_n 0, 0, 0, []),
  (.getfield 24, 3, 0, [6, 0]),
  (.iload_n 1, 1, 0, []),
  (.invokevirtual 62, 48, 0, [2, 0]),
  (.invokevirtual 54, 49, 0, [2, 0]),
  (.ifCond .eq 18, 0, 0, [28]),
  (.aload_n 0, 0, 0, []),
  (.getfield 21, 2, 0, [6, 0]),
  (.aload_n 0, 0, 0, []),
  (.getfield 24, 3, 0, [6, 0]),
  (.iload_n 1, 1, 0, []),
  (.invokevirtual 62, 48, 0, [2, 0]),
  (.invokevirtual 58, 47, 0, [2, 0]),
  (.iinc 1 1, 1, 1, []),
  (.goto (-47), 0, 0, [8]),
  (.aload_n 0, 0, 0, []),
  (.getfield 18, 1, 0, [6, 0]),
  (.aload_n 0, 0, 0, []),
  (.getfield 24, 3, 0, [6, 0]),
  (.invokevirtual 82, 51, 0, [2, 0]),
  (.aload_n 0, 0, 0, []),
  (.getfield 24, 3, 0, [6, 0]),
  (.invokevirtual 47, 46, 0, [1, 0]),
  (.aload_n 0, 0, 0, []),
  (.invokevirtual 86, 81, 0, [1, 0]),
  (.ifCond .ne 13, 0, 0, [47]),
  (.aload_n 0, 0, 0, []),
  (.dup, 0, 0, []),
  (.getfield 44, 9, 0, [6, 0]),
  (.iconst 1, 0, 1, []),
  (.iadd, 0, 0, []),
  (.putfield 44, 9, 0, [6, 0]),
  (.return_, 0, 0, [])]
def p80 : List Nat := [0, 1, 4, 5, 8, 11, 12, 13, 13, 14, 15, 18, 21, 24, 25, 28, 29, 32, 33, 36, 39, 42, 43, 46, 47, 50, 51, 54, 57, 60, 63, 64, 67, 68, 71, 74, 75, 78, 81, 82, 85, 88, 89, 90, 93, 94, 95, 98]
set_option maxRecDepth 100000 in
theorem ok80 : chk 80 p80 e80 = true := by decide +kernel
/-- X6_isWon, of PoloSeason$Tournament -/
def e81 : List En := [
  (.aload_n 0, 0, 0, []),
  (.getfield 31, 5, 0, [6, 1]),
  (.ifCond .eq 26, 0, 0, [14]),
  (.aload_n 0, 0, 0, []),
  (.getfield 18, 1, 0, [6, 0]),
  (.invokevirtual 50, 45, 0, [1, 0]),
  (.aload_n 0, 0, 0, []),
  (.getfield 21, 2, 0, [6, 0]),
  (.invokevirtual 50, 45, 0, [1, 0]),
  (.iadd, 0, 0, []),
  (.iconst 1, 0, 1, []),
  (.if_icmp .ne 7, 0, 0, [14]),
  (.iconst 1, 0, 1, []),
  (.goto 4, 0, 0, [15]),
  (.iconst 0, 0, 0, []),
  (.ireturn, 1, 0, [])]
def p81 : List Nat := [0, 1, 4, 7, 8, 11, 14, 15, 18, 21, 22, 23, 26, 27, 30, 31]
set_option maxRecDepth 100000 in
theorem ok81 : chk 81 p81 e81 = true := by decide +kernel
/-- X6_placeOf, of PoloSeason$Tournament -/
def e82 : List En := [
  (.aload_n 0, 0, 0, []),
  (.getfield 31, 5, 0, [6, 1]),
  (.ifCond .eq 14, 0, 0, [8]),
  (.aload_n 0, 0, 0, []),
  (.getfield 12, 0, 0, [6, 0]),
  (.iload_n 1, 1, 0, []),
  (.invokevirtual 54, 49, 0, [2, 0]),
  (.ifCond .ne 5, 0, 0, [10]),
  (.iconst 0, 0, 0, []),
  (.ireturn, 0, 0, []),
  (.aload_n 0, 0, 0, []),
  (.getfield 18, 1, 0, [6, 0]),
  (.iload_n 1, 1, 0, []),
  (.invokevirtual 54, 49, 0, [2, 0]),
  (.istore_n 2, 2, 0, []),
  (.iload_n 2, 2, 0, []),
  (.ifCond .ne 16, 0, 0, [24]),
  (.aload_n 0, 0, 0, []),
  (.getfield 21, 2, 0, [6, 0]),
  (.iload_n 1, 1, 0, []),
  (.invokevirtual 54, 49, 0, [2, 0]),
  (.ifCond .ne 5, 0, 0, [24]),
  (.iconst 3, 0, 3, []),
  (.ireturn, 0, 0, []),
  (.aload_n 0, 0, 0, []),
  (.invokevirtual 86, 81, 0, [1, 0]),
  (.ifCond .eq 5, 0, 0, [29]),
  (.iconst 4, 0, 4, []),
  (.ireturn, 0, 0, []),
  (.iload_n 2, 2, 0, []),
  (.ifCond .eq 7, 0, 0, [33]),
  (.iconst 1, 0, 1, []),
  (.goto 4, 0, 0, [34]),
  (.iconst 2, 0, 2, []),
  (.ireturn, 0, 0, [])]
def p82 : List Nat := [0, 1, 4, 7, 8, 11, 12, 15, 18, 19, 20, 21, 24, 25, 28, 29, 30, 33, 34, 37, 38, 41, 44, 45, 46, 47, 50, 53, 54, 55, 56, 59, 60, 63, 64]
set_option maxRecDepth 100000 in
theorem ok82 : chk 82 p82 e82 = true := by decide +kernel
/-- X6_inRow, of PoloSeason$Tournament -/
def e83 : List En := [
  (.iload_n 1, 1, 0, []),
  (.ifCond .ne 12, 0, 0, [7]),
  (.aload_n 0, 0, 0, []),
  (.getfield 18, 1, 0, [6, 0]),
  (.iload_n 2, 2, 0, []),
  (.invokevirtual 62, 48, 0, [2, 0]),
  (.ireturn, 0, 0, []),
  (.iload_n 1, 1, 0, []),
  (.iconst 1, 0, 1, []),
  (.if_icmp .ne 14, 0, 0, [15]),
  (.aload_n 0, 0, 0, []),
  (.getfield 21, 2, 0, [6, 0]),
  (.iload_n 2, 2, 0, []),
  (.invokevirtual 62, 48, 0, [2, 0]),
  (.goto 4, 0, 0, [16]),
  (.iconst (-1), 0, (-1), []),
  (.ireturn, 0, 0, [])]
def p83 : List Nat := [0, 1, 4, 5, 8, 9, 12, 13, 14, 15, 18, 19, 22, 23, 26, 29, 30]
set_option maxRecDepth 100000 in
theorem ok83 : chk 83 p83 e83 = true := by decide +kernel
/-- X7_player, of PoloSeason -/
def e85 : List En := [
  (.iload_n 1, 1, 0, []),
  (.invokestatic 55, 110, 0, [1, 0]),
  (.aload_n 0, 0, 0, []),
  (.getfield 10, 0, 0, [7, 0]),
  (.invokevirtual 59, 35, 0, [1, 0]),
  (.ifCond .eq 13, 0, 0, [11]),
  (.new 63, 0, 0, []),
  (.aconst_null, 0, 0, []),
  (.aconst_null, 0, 0, []),
  (.aconst_null, 0, 0, []),
  (.aconst_null, 0, 0, []),
  (.aload_n 0, 0, 0, []),
  (.getfield 10, 0, 0, [7, 0]),
  (.iload_n 1, 1, 0, []),
  (.invokevirtual 70, 37, 0, [2, 0]),
  (.ireturn, 0, 0, [])]
def p85 : List Nat := [0, 1, 4, 5, 8, 11, 14, 17, 18, 20, 23, 24, 25, 28, 29, 32]
set_option maxRecDepth 100000 in
theorem ok85 : chk 85 p85 e85 = true := by decide +kernel
/-- X7_rate, of PoloSeason -/
def e86 : List En := [
  (.aload_n 0, 0, 0, []),
  (.iload_n 1, 1, 0, []),
  (.invokevirtual 74, 113, 0, [2, 0]),
  (.iload_n 2, 2, 0, []),
  (.invokestatic 55, 110, 0, [1, 0]),
  (.aload_n 0, 0, 0, []),
  (.getfield 10, 0, 0, [7, 0]),
  (.iload_n 1, 1, 0, []),
  (.iload_n 2, 2, 0, []),
  (.invokevirtual 77, 38, 0, [3, 0]),
  (.ireturn, 0, 0, [])]
def p86 : List Nat := [0, 1, 2, 5, 6, 9, 10, 13, 14, 15, 18]
set_option maxRecDepth 100000 in
theorem ok86 : chk 86 p86 e86 = true := by decide +kernel
/-- X7_team, of PoloSeason -/
def e87 : List En := [
  (.aload_n 0, 0, 0, []),
  (.iload_n 1, 1, 0, []),
  (.invokevirtual 74, 113, 0, [2, 0]),
  (.aload_n 0, 0, 0, []),
  (.iload_n 2, 2, 0, []),
  (.invokevirtual 74, 113, 0, [2, 0]),
  (.aload_n 0, 0, 0, []),
  (.iload_n 3, 3, 0, []),
  (.invokevirtual 74, 113, 0, [2, 0]),
  (.aload_n 0, 0, 0, []),
  (.iload 4, 4, 0, []),
  (.invokevirtual 74, 113, 0, [2, 0]),
  (.aload_n 0, 0, 0, []),
  (.getfield 10, 0, 0, [7, 0]),
  (.invokevirtual 81, 36, 0, [1, 0]),
  (.ifCond .eq 13, 0, 0, [21]),
  (.new 63, 1, 0, []),
  (.aconst_null, 0, 0, []),
  (.aconst_null, 0, 0, []),
  (.aconst_null, 0, 0, []),
  (.aconst_null, 0, 0, []),
  (.iload_n 1, 1, 0, []),
  (.iload_n 2, 2, 0, []),
  (.if_icmp .eq 31, 0, 0, [39]),
  (.iload_n 1, 1, 0, []),
  (.iload_n 3, 3, 0, []),
  (.if_icmp .eq 26, 0, 0, [39]),
  (.iload_n 1, 1, 0, []),
  (.iload 4, 4, 0, []),
  (.if_icmp .eq 20, 0, 0, [39]),
  (.iload_n 2, 2, 0, []),
  (.iload_n 3, 3, 0, []),
  (.if_icmp .eq 15, 0, 0, [39]),
  (.iload_n 2, 2, 0, []),
  (.iload 4, 4, 0, []),
  (.if_icmp .eq 9, 0, 0, [39]),
  (.iload_n 3, 3, 0, []),
  (.iload 4, 4, 0, []),
  (.if_icmp .ne 7, 0, 0, [41]),
  (.iconst 1, 0, 1, []),
  (.goto 4, 0, 0, [42]),
  (.iconst 0, 0, 0, []),
  (.istore 5, 5, 0, []),
  (.iload 5, 5, 0, []),
  (.ifCond .ne 48, 0, 0, [65]),
  (.aload_n 0, 0, 0, []),
  (.getfield 10, 0, 0, [7, 0]),
  (.iload_n 1, 1, 0, []),
  (.invokevirtual 86, 39, 0, [2, 0]),
  (.ifCond .ne 37, 0, 0, [65]),
  (.aload_n 0, 0, 0, []),
  (.getfield 10, 0, 0, [7, 0]),
  (.iload_n 2, 2, 0, []),
  (.invokevirtual 86, 39, 0, [2, 0]),
  (.ifCond .ne 26, 0, 0, [65]),
  (.aload_n 0, 0, 0, []),
  (.getfield 10, 0, 0, [7, 0]),
  (.iload_n 3, 3, 0, []),
  (.invokevirtual 86, 39, 0, [2, 0]),
  (.ifCond .ne 15, 0, 0, [65]),
  (.aload_n 0, 0, 0, []),
  (.getfield 10, 0, 0, [7, 0]),
  (.iload 4, 4, 0, []),
  (.invokevirtual 86, 39, 0, [2, 0]),
  (.ifCond .eq 5, 0, 0, [67]),
  (.iconst (-1), 0, (-1), []),
  (.ireturn, 0, 0, []),
  (.aload_n 0, 0, 0, []),
  (.getfield 10, 0, 0, [7, 0]),
  (.iload_n 1, 1, 0, []),
  (.iload_n 2, 2, 0, []),
  (.iload_n 3, 3, 0, []),
  (.iload 4, 4, 0, []),
  (.invokevirtual 90, 40, 0, [5, 0]),
  (.ireturn, 0, 0, [])]
def p87 : List Nat := [0, 1, 2, 5, 6, 7, 10, 11, 12, 15, 16, 18, 21, 22, 25, 28, 31, 34, 35, 37, 40, 41, 42, 43, 46, 47, 48, 51, 52, 54, 57, 58, 59, 62, 63, 65, 68, 69, 71, 74, 75, 78, 79, 81, 83, 86, 87, 90, 91, 94, 97, 98, 101, 102, 105, 108, 109, 112, 113, 116, 119, 120, 123, 125, 128, 131, 132, 133, 134, 137, 138, 139, 140, 142, 145]
set_option maxRecDepth 100000 in
theorem ok87 : chk 87 p87 e87 = true := by decide +kernel
/-- X7_strength, of PoloSeason -/
def e88 : List En := [
  (.aload_n 0, 0, 0, []),
  (.iload_n 1, 1, 0, []),
  (.invokevirtual 94, 114, 0, [2, 0]),
  (.aload_n 0, 0, 0, []),
  (.getfield 10, 0, 0, [7, 0]),
  (.iload_n 1, 1, 0, []),
  (.invokevirtual 97, 43, 0, [2, 0]),
  (.ireturn, 0, 0, [])]
def p88 : List Nat := [0, 1, 2, 5, 6, 9, 10, 13]
set_option maxRecDepth 100000 in
theorem ok88 : chk 88 p88 e88 = true := by decide +kernel
/-- X7_cup, of PoloSeason -/
def e89 : List En := [
  (.iload_n 1, 1, 0, []),
  (.iconst 0, 0, 0, []),
  (.bipush 40, 0, 40, []),
  (.invokestatic 100, 109, 0, [3, 0]),
  (.ifCond .eq 13, 0, 0, [10]),
  (.iload_n 2, 2, 0, []),
  (.iconst 4, 0, 4, []),
  (.bipush 6, 0, 6, []),
  (.invokestatic 100, 109, 0, [3, 0]),
  (.ifCond .ne 13, 0, 0, [15]),
  (.new 104, 2, 0, []),
  (.aconst_null, 0, 0, []),
  (.aconst_null, 0, 0, []),
  (.aconst_null, 0, 0, []),
  (.aconst_null, 0, 0, []),
  (.aload_n 0, 0, 0, []),
  (.getfield 26, 2, 0, [7, 0]),
  (.iload_n 1, 1, 0, []),
  (.iload_n 2, 2, 0, []),
  (.invokevirtual 109, 67, 0, [3, 0]),
  (.return_, 0, 0, [])]
def p89 : List Nat := [0, 1, 2, 4, 7, 10, 11, 12, 14, 17, 20, 23, 24, 26, 29, 30, 31, 34, 35, 36, 39]
set_option maxRecDepth 100000 in
theorem ok89 : chk 89 p89 e89 = true := by decide +kernel
/-- X7_enter, of PoloSeason -/
def e90 : List En := [
  (.aload_n 0, 0, 0, []),
  (.iload_n 1, 1, 0, []),
  (.invokevirtual 94, 114, 0, [2, 0]),
  (.aload_n 0, 0, 0, []),
  (.invokevirtual 113, 116, 0, [1, 0]),
  (.aload_n 0, 0, 0, []),
  (.getfield 26, 2, 0, [7, 0]),
  (.iload_n 1, 1, 0, []),
  (.invokevirtual 116, 75, 0, [2, 0]),
  (.ifCond .eq 5, 0, 0, [12]),
  (.iconst (-1), 0, (-1), []),
  (.ireturn, 0, 0, []),
  (.aload_n 0, 0, 0, []),
  (.getfield 10, 0, 0, [7, 0]),
  (.iload_n 1, 1, 0, []),
  (.invokevirtual 97, 43, 0, [2, 0]),
  (.aload_n 0, 0, 0, []),
  (.getfield 26, 2, 0, [7, 0]),
  (.invokevirtual 119, 70, 0, [1, 0]),
  (.if_icmp .le 6, 0, 0, [22]),
  (.bipush (-2), 0, (-2), []),
  (.ireturn, 0, 0, []),
  (.aload_n 0, 0, 0, []),
  (.getfield 26, 2, 0, [7, 0]),
  (.iload_n 1, 1, 0, []),
  (.invokevirtual 123, 76, 0, [2, 0]),
  (.ireturn, 0, 0, [])]
def p90 : List Nat := [0, 1, 2, 5, 6, 9, 10, 13, 14, 17, 20, 21, 22, 23, 26, 27, 30, 31, 34, 37, 40, 42, 43, 44, 47, 48, 51]
set_option maxRecDepth 100000 in
theorem ok90 : chk 90 p90 e90 = true := by decide +kernel
/-- X7_noise, of PoloSeason -/
def e91 : List En := [
  (.aload_n 0, 0, 0, []),
  (.getfield 19, 1, 0, [7, 0]),
  (.iload_n 1, 1, 0, []),
  (.invokevirtual 126, 18, 0, [2, 0]),
  (.ireturn, 0, 0, [])]
def p91 : List Nat := [0, 1, 4, 5, 8]
set_option maxRecDepth 100000 in
theorem ok91 : chk 91 p91 e91 = true := by decide +kernel
/-- X7_draw, of PoloSeason -/
def e92 : List En := [
  (.aload_n 0, 0, 0, []),
  (.invokevirtual 113, 116, 0, [1, 0]),
  (.aload_n 0, 0, 0, []),
  (.getfield 26, 2, 0, [7, 0]),
  (.invokevirtual 129, 72, 0, [1, 0]),
  (.istore_n 1, 1, 0, []),
  (.iload_n 1, 1, 0, []),
  (.iconst 2, 0, 2, []),
  (.if_icmp .ge 5, 0, 0, [11]),
  (.iconst (-1), 0, (-1), []),
  (.ireturn, 0, 0, []),
  (.aload_n 0, 0, 0, []),
  (.getfield 19, 1, 0, [7, 0]),
  (.invokevirtual 132, 17, 0, [1, 0]),
  (.iload_n 1, 1, 0, []),
  (.iconst 1, 0, 1, []),
  (.isub, 0, 0, []),
  (.if_icmp .ge 6, 0, 0, [20]),
  (.bipush (-2), 0, (-2), []),
  (.ireturn, 0, 0, []),
  (.aload_n 0, 0, 0, []),
  (.getfield 26, 2, 0, [7, 0]),
  (.aload_n 0, 0, 0, []),
  (.getfield 19, 1, 0, [7, 0]),
  (.invokevirtual 135, 77, 0, [2, 0]),
  (.aload_n 0, 0, 0, []),
  (.getfield 19, 1, 0, [7, 0]),
  (.invokevirtual 139, 19, 0, [1, 0]),
  (.iload_n 1, 1, 0, []),
  (.ireturn, 0, 0, [])]
def p92 : List Nat := [0, 1, 4, 5, 8, 11, 12, 13, 14, 17, 18, 19, 20, 23, 26, 27, 28, 29, 32, 34, 35, 36, 39, 40, 43, 46, 47, 50, 53, 54]
set_option maxRecDepth 100000 in
theorem ok92 : chk 92 p92 e92 = true := by decide +kernel
/-- X7_next, of PoloSeason -/
def e93 : List En := [
  (.iload_n 1, 1, 0, []),
  (.invokestatic 142, 111, 0, [1, 0]),
  (.aload_n 0, 0, 0, []),
  (.getfield 26, 2, 0, [7, 0]),
  (.iload_n 1, 1, 0, []),
  (.invokevirtual 145, 78, 0, [2, 0]),
  (.ireturn, 0, 0, [])]
def p93 : List Nat := [0, 1, 4, 5, 8, 9, 12]
set_option maxRecDepth 100000 in
theorem ok93 : chk 93 p93 e93 = true := by decide +kernel
/-- X7_given, of PoloSeason -/
def e94 : List En := [
  (.iload_n 1, 1, 0, []),
  (.invokestatic 142, 111, 0, [1, 0]),
  (.aload_n 0, 0, 0, []),
  (.getfield 26, 2, 0, [7, 0]),
  (.iload_n 1, 1, 0, []),
  (.invokevirtual 145, 78, 0, [2, 0]),
  (.istore_n 2, 2, 0, []),
  (.aload_n 0, 0, 0, []),
  (.getfield 26, 2, 0, [7, 0]),
  (.iconst 1, 0, 1, []),
  (.iload_n 1, 1, 0, []),
  (.isub, 0, 0, []),
  (.invokevirtual 145, 78, 0, [2, 0]),
  (.istore_n 3, 3, 0, []),
  (.iload_n 2, 2, 0, []),
  (.iconst (-1), 0, (-1), []),
  (.if_icmp .eq 8, 0, 0, [20]),
  (.iload_n 3, 3, 0, []),
  (.iconst (-1), 0, (-1), []),
  (.if_icmp .ne 5, 0, 0, [22]),
  (.iconst (-1), 0, (-1), []),
  (.ireturn, 0, 0, []),
  (.aload_n 0, 0, 0, []),
  (.iload_n 2, 2, 0, []),
  (.iload_n 3, 3, 0, []),
  (.invokevirtual 148, 117, 0, [3, 0]),
  (.ireturn, 0, 0, [])]
def p94 : List Nat := [0, 1, 4, 5, 8, 9, 12, 13, 14, 17, 18, 19, 20, 23, 24, 25, 26, 29, 30, 31, 34, 35, 36, 37, 38, 39, 42]
set_option maxRecDepth 100000 in
theorem ok94 : chk 94 p94 e94 = true := by decide +kernel
/-- X7_play, of PoloSeason -/
def e95 : List En := [
  (.iload_n 1, 1, 0, []),
  (.iconst 0, 0, 0, []),
  (.bipush 50, 0, 50, []),
  (.invokestatic 100, 109, 0, [3, 0]),
  (.ifCond .eq 13, 0, 0, [10]),
  (.iload_n 2, 2, 0, []),
  (.iconst 0, 0, 0, []),
  (.bipush 50, 0, 50, []),
  (.invokestatic 100, 109, 0, [3, 0]),
  (.ifCond .ne 13, 0, 0, [15]),
  (.new 104, 3, 0, []),
  (.aconst_null, 0, 0, []),
  (.aconst_null, 0, 0, []),
  (.aconst_null, 0, 0, []),
  (.aconst_null, 0, 0, []),
  (.aload_n 0, 0, 0, []),
  (.getfield 26, 2, 0, [7, 0]),
  (.iconst 0, 0, 0, []),
  (.invokevirtual 145, 78, 0, [2, 0]),
  (.istore_n 3, 3, 0, []),
  (.aload_n 0, 0, 0, []),
  (.getfield 26, 2, 0, [7, 0]),
  (.iconst 1, 0, 1, []),
  (.invokevirtual 145, 78, 0, [2, 0]),
  (.istore 4, 4, 0, []),
  (.iload_n 3, 3, 0, []),
  (.iconst (-1), 0, (-1), []),
  (.if_icmp .eq 9, 0, 0, [31]),
  (.iload 4, 4, 0, []),
  (.iconst (-1), 0, (-1), []),
  (.if_icmp .ne 13, 0, 0, [36]),
  (.new 63, 4, 0, []),
  (.aconst_null, 0, 0, []),
  (.aconst_null, 0, 0, []),
  (.aconst_null, 0, 0, []),
  (.aconst_null, 0, 0, []),
  (.iconst 2, 0, 2, []),
  (.iload_n 1, 1, 0, []),
  (.imul, 0, 0, []),
  (.aload_n 0, 0, 0, []),
  (.iload_n 3, 3, 0, []),
  (.iload 4, 4, 0, []),
  (.invokevirtual 148, 117, 0, [3, 0]),
  (.iadd, 0, 0, []),
  (.istore 5, 5, 0, []),
  (.iconst 2, 0, 2, []),
  (.iload_n 2, 2, 0, []),
  (.imul, 0, 0, []),
  (.aload_n 0, 0, 0, []),
  (.iload 4, 4, 0, []),
  (.iload_n 3, 3, 0, []),
  (.invokevirtual 148, 117, 0, [3, 0]),
  (.iadd, 0, 0, []),
  (.istore 6, 6, 0, []),
  (.iload 5, 5, 0, []),
  (.iload 6, 6, 0, []),
  (.if_icmp .ne 5, 0, 0, [59]),
  (.iconst (-1), 0, (-1), []),
  (.ireturn, 0, 0, []),
  (.aload_n 0, 0, 0, []),
  (.iload_n 3, 3, 0, []),
  (.invokevirtual 155, 118, 0, [2, 0]),
  (.aload_n 0, 0, 0, []),
  (.iload 4, 4, 0, []),
  (.invokevirtual 155, 118, 0, [2, 0]),
  (.iload 5, 5, 0, []),
  (.iload 6, 6, 0, []),
  (.if_icmp .le 7, 0, 0, [70]),
  (.iconst 1, 0, 1, []),
  (.goto 4, 0, 0, [71]),
  (.iconst 0, 0, 0, []),
  (.istore 7, 7, 0, []),
  (.aload_n 0, 0, 0, []),
  (.getfield 26, 2, 0, [7, 0]),
  (.iload 7, 7, 0, []),
  (.ifCond .eq 8, 0, 0, [78]),
  (.iload 4, 4, 0, []),
  (.goto 4, 0, 0, [79]),
  (.iload_n 3, 3, 0, []),
  (.invokevirtual 158, 79, 0, [2, 0]),
  (.iload 7, 7, 0, []),
  (.ifCond .eq 7, 0, 0, [84]),
  (.iload_n 3, 3, 0, []),
  (.goto 5, 0, 0, [85]),
  (.iload 4, 4, 0, []),
  (.ireturn, 0, 0, [])]
def p95 : List Nat := [0, 1, 2, 4, 7, 10, 11, 12, 14, 17, 20, 23, 24, 26, 29, 30, 31, 34, 35, 38, 39, 40, 43, 44, 47, 49, 50, 51, 54, 56, 57, 60, 63, 64, 66, 69, 70, 71, 72, 73, 74, 75, 77, 80, 81, 83, 84, 85, 86, 87, 89, 90, 93, 94, 96, 98, 100, 103, 104, 105, 106, 107, 110, 111, 113, 116, 118, 120, 123, 124, 127, 128, 130, 131, 134, 136, 139, 141, 144, 145, 148, 150, 153, 154, 157, 159]
set_option maxRecDepth 100000 in
theorem ok95 : chk 95 p95 e95 = true := by decide +kernel
/-- X7_where, of PoloSeason -/
def e96 : List En := [
  (.aload_n 0, 0, 0, []),
  (.iload_n 1, 1, 0, []),
  (.invokevirtual 94, 114, 0, [2, 0]),
  (.aload_n 0, 0, 0, []),
  (.getfield 26, 2, 0, [7, 0]),
  (.iload_n 1, 1, 0, []),
  (.invokevirtual 161, 82, 0, [2, 0]),
  (.ireturn, 0, 0, [])]
def p96 : List Nat := [0, 1, 2, 5, 6, 9, 10, 13]
set_option maxRecDepth 100000 in
theorem ok96 : chk 96 p96 e96 = true := by decide +kernel
/-- X7_row, of PoloSeason -/
def e97 : List En := [
  (.iload_n 1, 1, 0, []),
  (.invokestatic 142, 111, 0, [1, 0]),
  (.aload_n 0, 0, 0, []),
  (.getfield 26, 2, 0, [7, 0]),
  (.iload_n 1, 1, 0, []),
  (.iload_n 2, 2, 0, []),
  (.invokevirtual 164, 83, 0, [3, 0]),
  (.ireturn, 0, 0, [])]
def p97 : List Nat := [0, 1, 4, 5, 8, 9, 10, 13]
set_option maxRecDepth 100000 in
theorem ok97 : chk 97 p97 e97 = true := by decide +kernel
/-- X7_pony, of PoloSeason -/
def e98 : List En := [
  (.aload_n 0, 0, 0, []),
  (.iload_n 1, 1, 0, []),
  (.invokevirtual 74, 113, 0, [2, 0]),
  (.aload_n 0, 0, 0, []),
  (.getfield 33, 3, 0, [7, 0]),
  (.invokevirtual 167, 55, 0, [1, 0]),
  (.ifCond .ne 16, 0, 0, [13]),
  (.aload_n 0, 0, 0, []),
  (.getfield 33, 3, 0, [7, 0]),
  (.iload_n 1, 1, 0, []),
  (.invokevirtual 170, 56, 0, [2, 0]),
  (.bipush 8, 0, 8, []),
  (.if_icmp .lt 13, 0, 0, [18]),
  (.new 63, 5, 0, []),
  (.aconst_null, 0, 0, []),
  (.aconst_null, 0, 0, []),
  (.aconst_null, 0, 0, []),
  (.aconst_null, 0, 0, []),
  (.aload_n 0, 0, 0, []),
  (.getfield 33, 3, 0, [7, 0]),
  (.iload_n 1, 1, 0, []),
  (.invokevirtual 175, 57, 0, [2, 0]),
  (.ireturn, 0, 0, [])]
def p98 : List Nat := [0, 1, 2, 5, 6, 9, 12, 15, 16, 19, 20, 23, 25, 28, 31, 32, 34, 37, 38, 39, 42, 43, 46]
set_option maxRecDepth 100000 in
theorem ok98 : chk 98 p98 e98 = true := by decide +kernel
/-- X7_lame, of PoloSeason -/
def e99 : List En := [
  (.aload_n 0, 0, 0, []),
  (.iload_n 1, 1, 0, []),
  (.invokevirtual 178, 115, 0, [2, 0]),
  (.iload_n 2, 2, 0, []),
  (.iconst 0, 0, 0, []),
  (.ldc 181, 842, 100000, []),
  (.invokestatic 100, 109, 0, [3, 0]),
  (.ifCond .ne 13, 0, 0, [13]),
  (.new 104, 6, 0, []),
  (.aconst_null, 0, 0, []),
  (.aconst_null, 0, 0, []),
  (.aconst_null, 0, 0, []),
  (.aconst_null, 0, 0, []),
  (.aload_n 0, 0, 0, []),
  (.getfield 33, 3, 0, [7, 0]),
  (.iload_n 1, 1, 0, []),
  (.iload_n 2, 2, 0, []),
  (.invokevirtual 184, 58, 0, [3, 0]),
  (.ireturn, 1, 0, [])]
def p99 : List Nat := [0, 1, 2, 5, 6, 7, 9, 12, 15, 18, 19, 21, 24, 25, 26, 29, 30, 31, 34]
set_option maxRecDepth 100000 in
theorem ok99 : chk 99 p99 e99 = true := by decide +kernel
/-- X7_told, of PoloSeason -/
def e100 : List En := [
  (.aload_n 0, 0, 0, []),
  (.iload_n 1, 1, 0, []),
  (.invokevirtual 178, 115, 0, [2, 0]),
  (.iload_n 2, 2, 0, []),
  (.tableswitch 53 0 2 #[26, 35, 44], 0, 0, [20, 5, 10, 15]),
  (.aload_n 0, 0, 0, []),
  (.getfield 33, 3, 0, [7, 0]),
  (.iload_n 1, 1, 0, []),
  (.invokevirtual 188, 60, 0, [2, 0]),
  (.ireturn, 0, 0, []),
  (.aload_n 0, 0, 0, []),
  (.getfield 33, 3, 0, [7, 0]),
  (.iload_n 1, 1, 0, []),
  (.invokevirtual 191, 61, 0, [2, 0]),
  (.ireturn, 0, 0, []),
  (.aload_n 0, 0, 0, []),
  (.getfield 33, 3, 0, [7, 0]),
  (.iload_n 1, 1, 0, []),
  (.invokevirtual 194, 62, 0, [2, 0]),
  (.ireturn, 0, 0, []),
  (.new 104, 7, 0, []),
  (.aconst_null, 0, 0, []),
  (.aconst_null, 0, 0, []),
  (.aconst_null, 0, 0, []),
  (.aconst_null, 0, 0, [])]
def p100 : List Nat := [0, 1, 2, 5, 6, 32, 33, 36, 37, 40, 41, 42, 45, 46, 49, 50, 51, 54, 55, 58, 59, 62, 63, 65, 68]
set_option maxRecDepth 100000 in
theorem ok100 : chk 100 p100 e100 = true := by decide +kernel
/-- X7_mount, of PoloSeason -/
def e101 : List En := [
  (.aload_n 0, 0, 0, []),
  (.iload_n 1, 1, 0, []),
  (.invokevirtual 74, 113, 0, [2, 0]),
  (.iload_n 2, 2, 0, []),
  (.iconst 1, 0, 1, []),
  (.bipush 6, 0, 6, []),
  (.invokestatic 100, 109, 0, [3, 0]),
  (.ifCond .eq 14, 0, 0, [15]),
  (.iload_n 3, 3, 0, []),
  (.iconst 0, 0, 0, []),
  (.iload_n 2, 2, 0, []),
  (.iconst 1, 0, 1, []),
  (.isub, 0, 0, []),
  (.invokestatic 100, 109, 0, [3, 0]),
  (.ifCond .ne 13, 0, 0, [20]),
  (.new 104, 8, 0, []),
  (.aconst_null, 0, 0, []),
  (.aconst_null, 0, 0, []),
  (.aconst_null, 0, 0, []),
  (.aconst_null, 0, 0, []),
  (.aload_n 0, 0, 0, []),
  (.getfield 40, 4, 0, [7, 0]),
  (.aload_n 0, 0, 0, []),
  (.getfield 33, 3, 0, [7, 0]),
  (.iload_n 1, 1, 0, []),
  (.iload_n 2, 2, 0, []),
  (.invokevirtual 201, 23, 0, [4, 0]),
  (.aload_n 0, 0, 0, []),
  (.getfield 40, 4, 0, [7, 0]),
  (.iload_n 3, 3, 0, []),
  (.invokevirtual 205, 22, 0, [2, 0]),
  (.ireturn, 0, 0, [])]
def p101 : List Nat := [0, 1, 2, 5, 6, 7, 9, 12, 15, 16, 17, 18, 19, 20, 23, 26, 29, 30, 32, 35, 36, 37, 40, 41, 44, 45, 46, 49, 50, 53, 54, 57]
set_option maxRecDepth 100000 in
theorem ok101 : chk 101 p101 e101 = true := by decide +kernel
/-- X7_afoot, of PoloSeason -/
def e102 : List En := [
  (.aload_n 0, 0, 0, []),
  (.getfield 51, 6, 0, [7, 0]),
  (.ireturn, 0, 0, [])]
def p102 : List Nat := [0, 1, 4]
set_option maxRecDepth 100000 in
theorem ok102 : chk 102 p102 e102 = true := by decide +kernel
/-- X7_rest, of PoloSeason -/
def e103 : List En := [
  (.aload_n 0, 0, 0, []),
  (.getfield 33, 3, 0, [7, 0]),
  (.invokevirtual 208, 54, 0, [1, 0]),
  (.ldc 181, 842, 100000, []),
  (.if_icmp .lt 13, 0, 0, [10]),
  (.new 63, 9, 0, []),
  (.aconst_null, 0, 0, []),
  (.aconst_null, 0, 0, []),
  (.aconst_null, 0, 0, []),
  (.aconst_null, 0, 0, []),
  (.aload_n 0, 0, 0, []),
  (.getfield 33, 3, 0, [7, 0]),
  (.invokevirtual 213, 65, 0, [1, 0]),
  (.ireturn, 0, 0, [])]
def p103 : List Nat := [0, 1, 4, 7, 9, 12, 15, 16, 18, 21, 22, 23, 26, 29]
set_option maxRecDepth 100000 in
theorem ok103 : chk 103 p103 e103 = true := by decide +kernel
/-- X7_ball, of PoloSeason -/
def e104 : List En := [
  (.iload_n 1, 1, 0, []),
  (.iload_n 2, 2, 0, []),
  (.iload_n 3, 3, 0, []),
  (.iload 4, 4, 0, []),
  (.invokestatic 216, 112, 0, [4, 0]),
  (.aload_n 0, 0, 0, []),
  (.getfield 47, 5, 0, [7, 0]),
  (.iload_n 1, 1, 0, []),
  (.iload_n 2, 2, 0, []),
  (.iload_n 3, 3, 0, []),
  (.iload 4, 4, 0, []),
  (.invokevirtual 220, 4, 0, [5, 0]),
  (.return_, 0, 0, [])]
def p104 : List Nat := [0, 1, 2, 3, 5, 8, 9, 12, 13, 14, 15, 17, 20]
set_option maxRecDepth 100000 in
theorem ok104 : chk 104 p104 e104 = true := by decide +kernel
/-- X7_rider, of PoloSeason -/
def e105 : List En := [
  (.iload_n 1, 1, 0, []),
  (.invokestatic 142, 111, 0, [1, 0]),
  (.iload_n 2, 2, 0, []),
  (.iload_n 3, 3, 0, []),
  (.iload 4, 4, 0, []),
  (.iload 5, 5, 0, []),
  (.invokestatic 216, 112, 0, [4, 0]),
  (.aload_n 0, 0, 0, []),
  (.getfield 47, 5, 0, [7, 0]),
  (.invokevirtual 223, 1, 0, [1, 0]),
  (.ifCond .eq 13, 0, 0, [15]),
  (.aload_n 0, 0, 0, []),
  (.getfield 47, 5, 0, [7, 0]),
  (.invokevirtual 226, 2, 0, [1, 0]),
  (.ifCond .eq 13, 0, 0, [20]),
  (.new 63, 10, 0, []),
  (.aconst_null, 0, 0, []),
  (.aconst_null, 0, 0, []),
  (.aconst_null, 0, 0, []),
  (.aconst_null, 0, 0, []),
  (.aload_n 0, 0, 0, []),
  (.getfield 47, 5, 0, [7, 0]),
  (.iload_n 1, 1, 0, []),
  (.iload_n 2, 2, 0, []),
  (.iload_n 3, 3, 0, []),
  (.iload 4, 4, 0, []),
  (.iload 5, 5, 0, []),
  (.invokevirtual 229, 5, 0, [6, 0]),
  (.ireturn, 0, 0, [])]
def p105 : List Nat := [0, 1, 4, 5, 6, 8, 10, 13, 14, 17, 20, 23, 24, 27, 30, 33, 36, 37, 39, 42, 43, 44, 47, 48, 49, 50, 52, 54, 57]
set_option maxRecDepth 100000 in
theorem ok105 : chk 105 p105 e105 = true := by decide +kernel
/-- X7_right, of PoloSeason -/
def e106 : List En := [
  (.aload_n 0, 0, 0, []),
  (.getfield 47, 5, 0, [7, 0]),
  (.invokevirtual 233, 6, 0, [1, 0]),
  (.ireturn, 0, 0, [])]
def p106 : List Nat := [0, 1, 4, 7]
set_option maxRecDepth 100000 in
theorem ok106 : chk 106 p106 e106 = true := by decide +kernel
/-- X7_foul, of PoloSeason -/
def e107 : List En := [
  (.aload_n 0, 0, 0, []),
  (.getfield 47, 5, 0, [7, 0]),
  (.iload_n 1, 1, 0, []),
  (.invokevirtual 236, 11, 0, [2, 0]),
  (.ireturn, 0, 0, [])]
def p107 : List Nat := [0, 1, 4, 5, 8]
set_option maxRecDepth 100000 in
theorem ok107 : chk 107 p107 e107 = true := by decide +kernel
/-- X7_count, of PoloSeason -/
def e108 : List En := [
  (.iload_n 1, 1, 0, []),
  (.tableswitch 123 0 8 #[51, 59, 67, 75, 83, 91, 99, 107, 115], 0, 0, [38, 2, 6, 10, 14, 18, 22, 26, 30, 34]),
  (.aload_n 0, 0, 0, []),
  (.getfield 10, 0, 0, [7, 0]),
  (.invokevirtual 239, 33, 0, [1, 0]),
  (.ireturn, 0, 0, []),
  (.aload_n 0, 0, 0, []),
  (.getfield 10, 0, 0, [7, 0]),
  (.invokevirtual 242, 34, 0, [1, 0]),
  (.ireturn, 0, 0, []),
  (.aload_n 0, 0, 0, []),
  (.getfield 33, 3, 0, [7, 0]),
  (.invokevirtual 243, 53, 0, [1, 0]),
  (.ireturn, 0, 0, []),
  (.aload_n 0, 0, 0, []),
  (.getfield 26, 2, 0, [7, 0]),
  (.invokevirtual 129, 72, 0, [1, 0]),
  (.ireturn, 0, 0, []),
  (.aload_n 0, 0, 0, []),
  (.getfield 26, 2, 0, [7, 0]),
  (.invokevirtual 246, 73, 0, [1, 0]),
  (.ireturn, 0, 0, []),
  (.aload_n 0, 0, 0, []),
  (.getfield 26, 2, 0, [7, 0]),
  (.invokevirtual 249, 74, 0, [1, 0]),
  (.ireturn, 0, 0, []),
  (.aload_n 0, 0, 0, []),
  (.getfield 33, 3, 0, [7, 0]),
  (.invokevirtual 208, 54, 0, [1, 0]),
  (.ireturn, 0, 0, []),
  (.aload_n 0, 0, 0, []),
  (.getfield 19, 1, 0, [7, 0]),
  (.invokevirtual 132, 17, 0, [1, 0]),
  (.ireturn, 0, 0, []),
  (.aload_n 0, 0, 0, []),
  (.getfield 47, 5, 0, [7, 0]),
  (.invokevirtual 252, 3, 0, [1, 0]),
  (.ireturn, 0, 0, []),
  (.iconst (-1), 0, (-1), []),
  (.ireturn, 0, 0, [])]
def p108 : List Nat := [0, 1, 52, 53, 56, 59, 60, 61, 64, 67, 68, 69, 72, 75, 76, 77, 80, 83, 84, 85, 88, 91, 92, 93, 96, 99, 100, 101, 104, 107, 108, 109, 112, 115, 116, 117, 120, 123, 124, 125]
set_option maxRecDepth 100000 in
theorem ok108 : chk 108 p108 e108 = true := by decide +kernel
/-- X7_within, of PoloSeason -/
def e109 : List En := [
  (.iload_n 0, 0, 0, []),
  (.iload_n 1, 1, 0, []),
  (.if_icmp .lt 12, 0, 0, [8]),
  (.iload_n 0, 0, 0, []),
  (.iload_n 2, 2, 0, []),
  (.if_icmp .gt 7, 0, 0, [8]),
  (.iconst 1, 0, 1, []),
  (.goto 4, 0, 0, [9]),
  (.iconst 0, 0, 0, []),
  (.ireturn, 1, 0, [])]
def p109 : List Nat := [0, 1, 2, 5, 6, 7, 10, 11, 14, 15]
set_option maxRecDepth 100000 in
theorem ok109 : chk 109 p109 e109 = true := by decide +kernel
/-- X7_requireHandicap, of PoloSeason -/
def e110 : List En := [
  (.iload_n 0, 0, 0, []),
  (.bipush (-2), 0, (-2), []),
  (.bipush 10, 0, 10, []),
  (.invokestatic 100, 109, 0, [3, 0]),
  (.ifCond .ne 13, 0, 0, [10]),
  (.new 104, 11, 0, []),
  (.aconst_null, 0, 0, []),
  (.aconst_null, 0, 0, []),
  (.aconst_null, 0, 0, []),
  (.aconst_null, 0, 0, []),
  (.return_, 0, 0, [])]
def p110 : List Nat := [0, 1, 3, 5, 8, 11, 14, 15, 17, 20, 21]
set_option maxRecDepth 100000 in
theorem ok110 : chk 110 p110 e110 = true := by decide +kernel
/-- X7_requireZeroOrOne, of PoloSeason -/
def e111 : List En := [
  (.iload_n 0, 0, 0, []),
  (.ifCond .eq 19, 0, 0, [10]),
  (.iload_n 0, 0, 0, []),
  (.iconst 1, 0, 1, []),
  (.if_icmp .eq 14, 0, 0, [10]),
  (.new 104, 12, 0, []),
  (.aconst_null, 0, 0, []),
  (.aconst_null, 0, 0, []),
  (.aconst_null, 0, 0, []),
  (.aconst_null, 0, 0, []),
  (.return_, 0, 0, [])]
def p111 : List Nat := [0, 1, 4, 5, 6, 9, 12, 13, 16, 19, 20]
set_option maxRecDepth 100000 in
theorem ok111 : chk 111 p111 e111 = true := by decide +kernel
/-- X7_requireWay, of PoloSeason -/
def e112 : List En := [
  (.iload_n 0, 0, 0, []),
  (.sipush (-1000), 0, (-1000), []),
  (.sipush 1000, 0, 1000, []),
  (.invokestatic 100, 109, 0, [3, 0]),
  (.ifCond .eq 20, 0, 0, [12]),
  (.iload_n 1, 1, 0, []),
  (.sipush (-1000), 0, (-1000), []),
  (.sipush 1000, 0, 1000, []),
  (.invokestatic 100, 109, 0, [3, 0]),
  (.ifCond .eq 7, 0, 0, [12]),
  (.iconst 1, 0, 1, []),
  (.goto 4, 0, 0, [13]),
  (.iconst 0, 0, 0, []),
  (.istore 4, 4, 0, []),
  (.iload_n 2, 2, 0, []),
  (.sipush (-1000), 0, (-1000), []),
  (.sipush 1000, 0, 1000, []),
  (.invokestatic 100, 109, 0, [3, 0]),
  (.ifCond .eq 20, 0, 0, [26]),
  (.iload_n 3, 3, 0, []),
  (.sipush (-1000), 0, (-1000), []),
  (.sipush 1000, 0, 1000, []),
  (.invokestatic 100, 109, 0, [3, 0]),
  (.ifCond .eq 7, 0, 0, [26]),
  (.iconst 1, 0, 1, []),
  (.goto 4, 0, 0, [27]),
  (.iconst 0, 0, 0, []),
  (.istore 5, 5, 0, []),
  (.iload 4, 4, 0, []),
  (.ifCond .eq 16, 0, 0, [36]),
  (.iload 5, 5, 0, []),
  (.ifCond .eq 11, 0, 0, [36]),
  (.iload_n 2, 2, 0, []),
  (.ifCond .ne 18, 0, 0, [41]),
  (.iload_n 3, 3, 0, []),
  (.ifCond .ne 14, 0, 0, [41]),
  (.new 104, 13, 0, []),
  (.aconst_null, 0, 0, []),
  (.aconst_null, 0, 0, []),
  (.aconst_null, 0, 0, []),
  (.aconst_null, 0, 0, []),
  (.return_, 0, 0, [])]
def p112 : List Nat := [0, 1, 4, 7, 10, 13, 14, 17, 20, 23, 26, 27, 30, 31, 33, 34, 37, 40, 43, 46, 47, 50, 53, 56, 59, 60, 63, 64, 66, 68, 71, 73, 76, 77, 80, 81, 84, 87, 88, 91, 94, 95]
set_option maxRecDepth 100000 in
theorem ok112 : chk 112 p112 e112 = true := by decide +kernel
/-- X7_requirePlayer, of PoloSeason -/
def e113 : List En := [
  (.iload_n 1, 1, 0, []),
  (.iconst 0, 0, 0, []),
  (.aload_n 0, 0, 0, []),
  (.getfield 10, 0, 0, [7, 0]),
  (.invokevirtual 239, 33, 0, [1, 0]),
  (.iconst 1, 0, 1, []),
  (.isub, 0, 0, []),
  (.invokestatic 100, 109, 0, [3, 0]),
  (.ifCond .ne 14, 0, 0, [14]),
  (.new 261, 14, 0, []),
  (.aconst_null, 0, 0, []),
  (.aconst_null, 0, 0, []),
  (.aconst_null, 0, 0, []),
  (.aconst_null, 0, 0, []),
  (.return_, 0, 0, [])]
def p113 : List Nat := [0, 1, 2, 3, 6, 9, 10, 11, 14, 17, 20, 21, 24, 27, 28]
set_option maxRecDepth 100000 in
theorem ok113 : chk 113 p113 e113 = true := by decide +kernel
/-- X7_requireTeam, of PoloSeason -/
def e114 : List En := [
  (.iload_n 1, 1, 0, []),
  (.iconst 0, 0, 0, []),
  (.aload_n 0, 0, 0, []),
  (.getfield 10, 0, 0, [7, 0]),
  (.invokevirtual 242, 34, 0, [1, 0]),
  (.iconst 1, 0, 1, []),
  (.isub, 0, 0, []),
  (.invokestatic 100, 109, 0, [3, 0]),
  (.ifCond .ne 14, 0, 0, [14]),
  (.new 261, 15, 0, []),
  (.aconst_null, 0, 0, []),
  (.aconst_null, 0, 0, []),
  (.aconst_null, 0, 0, []),
  (.aconst_null, 0, 0, []),
  (.return_, 0, 0, [])]
def p114 : List Nat := [0, 1, 2, 3, 6, 9, 10, 11, 14, 17, 20, 21, 24, 27, 28]
set_option maxRecDepth 100000 in
theorem ok114 : chk 114 p114 e114 = true := by decide +kernel
/-- X7_requirePony, of PoloSeason -/
def e115 : List En := [
  (.iload_n 1, 1, 0, []),
  (.iconst 0, 0, 0, []),
  (.aload_n 0, 0, 0, []),
  (.getfield 33, 3, 0, [7, 0]),
  (.invokevirtual 243, 53, 0, [1, 0]),
  (.iconst 1, 0, 1, []),
  (.isub, 0, 0, []),
  (.invokestatic 100, 109, 0, [3, 0]),
  (.ifCond .ne 14, 0, 0, [14]),
  (.new 261, 16, 0, []),
  (.aconst_null, 0, 0, []),
  (.aconst_null, 0, 0, []),
  (.aconst_null, 0, 0, []),
  (.aconst_null, 0, 0, []),
  (.return_, 0, 0, [])]
def p115 : List Nat := [0, 1, 2, 3, 6, 9, 10, 11, 14, 17, 20, 21, 24, 27, 28]
set_option maxRecDepth 100000 in
theorem ok115 : chk 115 p115 e115 = true := by decide +kernel
/-- X7_requireUndrawnCup, of PoloSeason -/
def e116 : List En := [
  (.aload_n 0, 0, 0, []),
  (.getfield 26, 2, 0, [7, 0]),
  (.invokevirtual 270, 68, 0, [1, 0]),
  (.ifCond .eq 13, 0, 0, [8]),
  (.aload_n 0, 0, 0, []),
  (.getfield 26, 2, 0, [7, 0]),
  (.invokevirtual 273, 69, 0, [1, 0]),
  (.ifCond .eq 14, 0, 0, [13]),
  (.new 63, 17, 0, []),
  (.aconst_null, 0, 0, []),
  (.aconst_null, 0, 0, []),
  (.aconst_null, 0, 0, []),
  (.aconst_null, 0, 0, []),
  (.return_, 0, 0, [])]
def p116 : List Nat := [0, 1, 4, 7, 10, 11, 14, 17, 20, 23, 24, 27, 30, 31]
set_option maxRecDepth 100000 in
theorem ok116 : chk 116 p116 e116 = true := by decide +kernel
/-- X7_halvesFor, of PoloSeason -/
def e117 : List En := [
  (.aload_n 0, 0, 0, []),
  (.getfield 10, 0, 0, [7, 0]),
  (.iload_n 2, 2, 0, []),
  (.invokevirtual 97, 43, 0, [2, 0]),
  (.aload_n 0, 0, 0, []),
  (.getfield 10, 0, 0, [7, 0]),
  (.iload_n 1, 1, 0, []),
  (.invokevirtual 97, 43, 0, [2, 0]),
  (.isub, 0, 0, []),
  (.istore_n 3, 3, 0, []),
  (.iload_n 3, 3, 0, []),
  (.ifCond .gt 5, 0, 0, [14]),
  (.iconst 0, 0, 0, []),
  (.ireturn, 0, 0, []),
  (.iload_n 3, 3, 0, []),
  (.aload_n 0, 0, 0, []),
  (.getfield 26, 2, 0, [7, 0]),
  (.invokevirtual 278, 71, 0, [1, 0]),
  (.imul, 0, 0, []),
  (.istore 4, 4, 0, []),
  (.iload 4, 4, 0, []),
  (.bipush 6, 0, 6, []),
  (.idiv, 0, 0, []),
  (.iconst 2, 0, 2, []),
  (.imul, 0, 0, []),
  (.iload 4, 4, 0, []),
  (.bipush 6, 0, 6, []),
  (.irem, 0, 0, []),
  (.ifCond .ne 7, 0, 0, [31]),
  (.iconst 0, 0, 0, []),
  (.goto 4, 0, 0, [32]),
  (.iconst 1, 0, 1, []),
  (.iadd, 0, 0, []),
  (.ireturn, 0, 0, [])]
def p117 : List Nat := [0, 1, 4, 5, 8, 9, 12, 13, 16, 17, 18, 19, 22, 23, 24, 25, 26, 29, 32, 33, 35, 37, 39, 40, 41, 42, 44, 46, 47, 50, 51, 54, 55, 56]
set_option maxRecDepth 100000 in
theorem ok117 : chk 117 p117 e117 = true := by decide +kernel
/-- X7_rideTeam, of PoloSeason -/
def e118 : List En := [
  (.iconst 0, 0, 0, []),
  (.istore_n 2, 2, 0, []),
  (.nop, 3, 0, []),
  (.iload_n 2, 2, 0, []),
  (.iconst 4, 0, 4, []),
  (.if_icmp .ge 22, 0, 0, [15]),
  (.aload_n 0, 0, 0, []),
  (.aload_n 0, 0, 0, []),
  (.getfield 10, 0, 0, [7, 0]),
  (.iload_n 1, 1, 0, []),
  (.iload_n 2, 2, 0, []),
  (.invokevirtual 281, 42, 0, [3, 0]),
  (.invokevirtual 284, 119, 0, [2, 0]),
  (.iinc 2 1, 2, 1, []),
  (.goto (-21), 0, 0, [3]),
  (.return_, 0, 0, [])]
def p118 : List Nat := [0, 1, 2, 2, 3, 4, 7, 8, 9, 12, 13, 14, 17, 20, 23, 26]
set_option maxRecDepth 100000 in
theorem ok118 : chk 118 p118 e118 = true := by decide +kernel
/-- X7_ridePlayer, of PoloSeason -/
def e119 : List En := [
  (.aload_n 0, 0, 0, []),
  (.getfield 26, 2, 0, [7, 0]),
  (.invokevirtual 278, 71, 0, [1, 0]),
  (.istore_n 2, 2, 0, []),
  (.aload_n 0, 0, 0, []),
  (.getfield 40, 4, 0, [7, 0]),
  (.aload_n 0, 0, 0, []),
  (.getfield 33, 3, 0, [7, 0]),
  (.iload_n 1, 1, 0, []),
  (.iload_n 2, 2, 0, []),
  (.invokevirtual 201, 23, 0, [4, 0]),
  (.iconst 0, 0, 0, []),
  (.istore_n 3, 3, 0, []),
  (.nop, 14, 0, []),
  (.iload_n 3, 3, 0, []),
  (.iload_n 2, 2, 0, []),
  (.if_icmp .ge 47, 0, 0, [38]),
  (.aload_n 0, 0, 0, []),
  (.getfield 40, 4, 0, [7, 0]),
  (.iload_n 3, 3, 0, []),
  (.invokevirtual 205, 22, 0, [2, 0]),
  (.istore 4, 4, 0, []),
  (.iload 4, 4, 0, []),
  (.iconst (-1), 0, (-1), []),
  (.if_icmp .ne 16, 0, 0, [32]),
  (.aload_n 0, 0, 0, []),
  (.dup, 0, 0, []),
  (.getfield 51, 6, 0, [7, 0]),
  (.iconst 1, 0, 1, []),
  (.iadd, 0, 0, []),
  (.putfield 51, 6, 0, [7, 0]),
  (.goto 12, 0, 0, [36]),
  (.aload_n 0, 0, 0, []),
  (.getfield 33, 3, 0, [7, 0]),
  (.iload 4, 4, 0, []),
  (.invokevirtual 287, 64, 0, [2, 0]),
  (.iinc 3 1, 3, 1, []),
  (.goto (-46), 0, 0, [14]),
  (.return_, 0, 0, [])]
def p119 : List Nat := [0, 1, 4, 7, 8, 9, 12, 13, 16, 17, 18, 21, 22, 23, 23, 24, 25, 28, 29, 32, 33, 36, 38, 40, 41, 44, 45, 46, 49, 50, 51, 54, 57, 58, 61, 63, 66, 69, 72]
set_option maxRecDepth 100000 in
theorem ok119 : chk 119 p119 e119 = true := by decide +kernel
