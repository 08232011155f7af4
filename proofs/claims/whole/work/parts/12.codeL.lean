/-- L_player, of PoloSeasonLaw -/
def e179 : List En := [
  (.aload_n 2, 2, 0, []),
  (.iconst 0, 0, 0, []),
  (.aload_n 0, 0, 0, []),
  (.iload_n 1, 1, 0, []),
  (.invokevirtual 7, 85, 0, [2, 0]),
  (.i2l, 0, 0, []),
  (.lastore, 0, 0, []),
  (.goto 9, 0, 0, [14]),
  (.astore_n 3, 3, 0, []),
  (.iconst 1, 0, 1, []),
  (.ireturn, 0, 0, []),
  (.astore_n 3, 3, 0, []),
  (.iconst 2, 0, 2, []),
  (.ireturn, 0, 0, []),
  (.iconst 0, 0, 0, []),
  (.ireturn, 0, 0, [])]
def p179 : List Nat := [0, 1, 2, 3, 4, 7, 8, 9, 12, 13, 14, 15, 16, 17, 18, 19]
set_option maxRecDepth 100000 in
theorem ok179 : chk 179 p179 e179 = true := by decide +kernel
/-- L_rate, of PoloSeasonLaw -/
def e180 : List En := [
  (.aload_n 3, 3, 0, []),
  (.iconst 0, 0, 0, []),
  (.aload_n 0, 0, 0, []),
  (.iload_n 1, 1, 0, []),
  (.iload_n 2, 2, 0, []),
  (.invokevirtual 17, 86, 0, [3, 0]),
  (.i2l, 0, 0, []),
  (.lastore, 0, 0, []),
  (.goto 11, 0, 0, [15]),
  (.astore 4, 4, 0, []),
  (.iconst 1, 0, 1, []),
  (.ireturn, 0, 0, []),
  (.astore 4, 4, 0, []),
  (.iconst 2, 0, 2, []),
  (.ireturn, 0, 0, []),
  (.iconst 0, 0, 0, []),
  (.ireturn, 0, 0, [])]
def p180 : List Nat := [0, 1, 2, 3, 4, 5, 8, 9, 10, 13, 15, 16, 17, 19, 20, 21, 22]
set_option maxRecDepth 100000 in
theorem ok180 : chk 180 p180 e180 = true := by decide +kernel
/-- L_team, of PoloSeasonLaw -/
def e181 : List En := [
  (.aload 5, 5, 0, []),
  (.iconst 0, 0, 0, []),
  (.aload_n 0, 0, 0, []),
  (.iload_n 1, 1, 0, []),
  (.iload_n 2, 2, 0, []),
  (.iload_n 3, 3, 0, []),
  (.iload 4, 4, 0, []),
  (.invokevirtual 23, 87, 0, [5, 0]),
  (.i2l, 0, 0, []),
  (.lastore, 0, 0, []),
  (.goto 11, 0, 0, [17]),
  (.astore 6, 6, 0, []),
  (.iconst 1, 0, 1, []),
  (.ireturn, 0, 0, []),
  (.astore 6, 6, 0, []),
  (.iconst 2, 0, 2, []),
  (.ireturn, 0, 0, []),
  (.iconst 0, 0, 0, []),
  (.ireturn, 0, 0, [])]
def p181 : List Nat := [0, 2, 3, 4, 5, 6, 7, 9, 12, 13, 14, 17, 19, 20, 21, 23, 24, 25, 26]
set_option maxRecDepth 100000 in
theorem ok181 : chk 181 p181 e181 = true := by decide +kernel
/-- L_strength, of PoloSeasonLaw -/
def e182 : List En := [
  (.aload_n 2, 2, 0, []),
  (.iconst 0, 0, 0, []),
  (.aload_n 0, 0, 0, []),
  (.iload_n 1, 1, 0, []),
  (.invokevirtual 27, 88, 0, [2, 0]),
  (.i2l, 0, 0, []),
  (.lastore, 0, 0, []),
  (.goto 6, 0, 0, [11]),
  (.astore_n 3, 3, 0, []),
  (.iconst 1, 0, 1, []),
  (.ireturn, 0, 0, []),
  (.iconst 0, 0, 0, []),
  (.ireturn, 0, 0, [])]
def p182 : List Nat := [0, 1, 2, 3, 4, 7, 8, 9, 12, 13, 14, 15, 16]
set_option maxRecDepth 100000 in
theorem ok182 : chk 182 p182 e182 = true := by decide +kernel
/-- L_cup, of PoloSeasonLaw -/
def e183 : List En := [
  (.aload_n 0, 0, 0, []),
  (.iload_n 1, 1, 0, []),
  (.iload_n 2, 2, 0, []),
  (.invokevirtual 30, 89, 0, [3, 0]),
  (.goto 6, 0, 0, [8]),
  (.astore_n 3, 3, 0, []),
  (.iconst 1, 0, 1, []),
  (.ireturn, 0, 0, []),
  (.iconst 0, 0, 0, []),
  (.ireturn, 0, 0, [])]
def p183 : List Nat := [0, 1, 2, 3, 6, 9, 10, 11, 12, 13]
set_option maxRecDepth 100000 in
theorem ok183 : chk 183 p183 e183 = true := by decide +kernel
/-- L_enter, of PoloSeasonLaw -/
def e184 : List En := [
  (.aload_n 2, 2, 0, []),
  (.iconst 0, 0, 0, []),
  (.aload_n 0, 0, 0, []),
  (.iload_n 1, 1, 0, []),
  (.invokevirtual 34, 90, 0, [2, 0]),
  (.i2l, 0, 0, []),
  (.lastore, 0, 0, []),
  (.goto 9, 0, 0, [14]),
  (.astore_n 3, 3, 0, []),
  (.iconst 1, 0, 1, []),
  (.ireturn, 0, 0, []),
  (.astore_n 3, 3, 0, []),
  (.iconst 2, 0, 2, []),
  (.ireturn, 0, 0, []),
  (.iconst 0, 0, 0, []),
  (.ireturn, 0, 0, [])]
def p184 : List Nat := [0, 1, 2, 3, 4, 7, 8, 9, 12, 13, 14, 15, 16, 17, 18, 19]
set_option maxRecDepth 100000 in
theorem ok184 : chk 184 p184 e184 = true := by decide +kernel
/-- L_draw, of PoloSeasonLaw -/
def e185 : List En := [
  (.aload_n 1, 1, 0, []),
  (.iconst 0, 0, 0, []),
  (.aload_n 0, 0, 0, []),
  (.invokevirtual 37, 92, 0, [1, 0]),
  (.i2l, 0, 0, []),
  (.lastore, 0, 0, []),
  (.goto 6, 0, 0, [10]),
  (.astore_n 2, 2, 0, []),
  (.iconst 1, 0, 1, []),
  (.ireturn, 0, 0, []),
  (.iconst 0, 0, 0, []),
  (.ireturn, 0, 0, [])]
def p185 : List Nat := [0, 1, 2, 3, 6, 7, 8, 11, 12, 13, 14, 15]
set_option maxRecDepth 100000 in
theorem ok185 : chk 185 p185 e185 = true := by decide +kernel
/-- L_next, of PoloSeasonLaw -/
def e186 : List En := [
  (.aload_n 2, 2, 0, []),
  (.iconst 0, 0, 0, []),
  (.aload_n 0, 0, 0, []),
  (.iload_n 1, 1, 0, []),
  (.invokevirtual 41, 93, 0, [2, 0]),
  (.i2l, 0, 0, []),
  (.lastore, 0, 0, []),
  (.goto 6, 0, 0, [11]),
  (.astore_n 3, 3, 0, []),
  (.iconst 1, 0, 1, []),
  (.ireturn, 0, 0, []),
  (.iconst 0, 0, 0, []),
  (.ireturn, 0, 0, [])]
def p186 : List Nat := [0, 1, 2, 3, 4, 7, 8, 9, 12, 13, 14, 15, 16]
set_option maxRecDepth 100000 in
theorem ok186 : chk 186 p186 e186 = true := by decide +kernel
/-- L_given, of PoloSeasonLaw -/
def e187 : List En := [
  (.aload_n 2, 2, 0, []),
  (.iconst 0, 0, 0, []),
  (.aload_n 0, 0, 0, []),
  (.iload_n 1, 1, 0, []),
  (.invokevirtual 44, 94, 0, [2, 0]),
  (.i2l, 0, 0, []),
  (.lastore, 0, 0, []),
  (.goto 6, 0, 0, [11]),
  (.astore_n 3, 3, 0, []),
  (.iconst 1, 0, 1, []),
  (.ireturn, 0, 0, []),
  (.iconst 0, 0, 0, []),
  (.ireturn, 0, 0, [])]
def p187 : List Nat := [0, 1, 2, 3, 4, 7, 8, 9, 12, 13, 14, 15, 16]
set_option maxRecDepth 100000 in
theorem ok187 : chk 187 p187 e187 = true := by decide +kernel
/-- L_play, of PoloSeasonLaw -/
def e188 : List En := [
  (.aload_n 3, 3, 0, []),
  (.iconst 0, 0, 0, []),
  (.aload_n 0, 0, 0, []),
  (.iload_n 1, 1, 0, []),
  (.iload_n 2, 2, 0, []),
  (.invokevirtual 47, 95, 0, [3, 0]),
  (.i2l, 0, 0, []),
  (.lastore, 0, 0, []),
  (.goto 11, 0, 0, [15]),
  (.astore 4, 4, 0, []),
  (.iconst 1, 0, 1, []),
  (.ireturn, 0, 0, []),
  (.astore 4, 4, 0, []),
  (.iconst 2, 0, 2, []),
  (.ireturn, 0, 0, []),
  (.iconst 0, 0, 0, []),
  (.ireturn, 0, 0, [])]
def p188 : List Nat := [0, 1, 2, 3, 4, 5, 8, 9, 10, 13, 15, 16, 17, 19, 20, 21, 22]
set_option maxRecDepth 100000 in
theorem ok188 : chk 188 p188 e188 = true := by decide +kernel
/-- L_where, of PoloSeasonLaw -/
def e189 : List En := [
  (.aload_n 2, 2, 0, []),
  (.iconst 0, 0, 0, []),
  (.aload_n 0, 0, 0, []),
  (.iload_n 1, 1, 0, []),
  (.invokevirtual 50, 96, 0, [2, 0]),
  (.i2l, 0, 0, []),
  (.lastore, 0, 0, []),
  (.goto 6, 0, 0, [11]),
  (.astore_n 3, 3, 0, []),
  (.iconst 1, 0, 1, []),
  (.ireturn, 0, 0, []),
  (.iconst 0, 0, 0, []),
  (.ireturn, 0, 0, [])]
def p189 : List Nat := [0, 1, 2, 3, 4, 7, 8, 9, 12, 13, 14, 15, 16]
set_option maxRecDepth 100000 in
theorem ok189 : chk 189 p189 e189 = true := by decide +kernel
/-- L_row, of PoloSeasonLaw -/
def e190 : List En := [
  (.aload_n 3, 3, 0, []),
  (.iconst 0, 0, 0, []),
  (.aload_n 0, 0, 0, []),
  (.iload_n 1, 1, 0, []),
  (.iload_n 2, 2, 0, []),
  (.invokevirtual 53, 97, 0, [3, 0]),
  (.i2l, 0, 0, []),
  (.lastore, 0, 0, []),
  (.goto 7, 0, 0, [12]),
  (.astore 4, 4, 0, []),
  (.iconst 1, 0, 1, []),
  (.ireturn, 0, 0, []),
  (.iconst 0, 0, 0, []),
  (.ireturn, 0, 0, [])]
def p190 : List Nat := [0, 1, 2, 3, 4, 5, 8, 9, 10, 13, 15, 16, 17, 18]
set_option maxRecDepth 100000 in
theorem ok190 : chk 190 p190 e190 = true := by decide +kernel
/-- L_pony, of PoloSeasonLaw -/
def e191 : List En := [
  (.aload_n 2, 2, 0, []),
  (.iconst 0, 0, 0, []),
  (.aload_n 0, 0, 0, []),
  (.iload_n 1, 1, 0, []),
  (.invokevirtual 56, 98, 0, [2, 0]),
  (.i2l, 0, 0, []),
  (.lastore, 0, 0, []),
  (.goto 9, 0, 0, [14]),
  (.astore_n 3, 3, 0, []),
  (.iconst 1, 0, 1, []),
  (.ireturn, 0, 0, []),
  (.astore_n 3, 3, 0, []),
  (.iconst 2, 0, 2, []),
  (.ireturn, 0, 0, []),
  (.iconst 0, 0, 0, []),
  (.ireturn, 0, 0, [])]
def p191 : List Nat := [0, 1, 2, 3, 4, 7, 8, 9, 12, 13, 14, 15, 16, 17, 18, 19]
set_option maxRecDepth 100000 in
theorem ok191 : chk 191 p191 e191 = true := by decide +kernel
/-- L_lame, of PoloSeasonLaw -/
def e192 : List En := [
  (.aload_n 3, 3, 0, []),
  (.iconst 0, 0, 0, []),
  (.aload_n 0, 0, 0, []),
  (.iload_n 1, 1, 0, []),
  (.iload_n 2, 2, 0, []),
  (.invokevirtual 59, 99, 0, [3, 0]),
  (.ifCond .eq 7, 0, 0, [9]),
  (.lconst 1, 1, 0, []),
  (.goto 4, 0, 0, [10]),
  (.lconst 0, 0, 0, []),
  (.lastore, 0, 0, []),
  (.goto 11, 0, 0, [18]),
  (.astore 4, 4, 0, []),
  (.iconst 1, 0, 1, []),
  (.ireturn, 0, 0, []),
  (.astore 4, 4, 0, []),
  (.iconst 2, 0, 2, []),
  (.ireturn, 0, 0, []),
  (.iconst 0, 0, 0, []),
  (.ireturn, 0, 0, [])]
def p192 : List Nat := [0, 1, 2, 3, 4, 5, 8, 11, 12, 15, 16, 17, 20, 22, 23, 24, 26, 27, 28, 29]
set_option maxRecDepth 100000 in
theorem ok192 : chk 192 p192 e192 = true := by decide +kernel
/-- L_told, of PoloSeasonLaw -/
def e193 : List En := [
  (.aload_n 3, 3, 0, []),
  (.iconst 0, 0, 0, []),
  (.aload_n 0, 0, 0, []),
  (.iload_n 1, 1, 0, []),
  (.iload_n 2, 2, 0, []),
  (.invokevirtual 63, 100, 0, [3, 0]),
  (.i2l, 0, 0, []),
  (.lastore, 0, 0, []),
  (.goto 11, 0, 0, [15]),
  (.astore 4, 4, 0, []),
  (.iconst 1, 0, 1, []),
  (.ireturn, 0, 0, []),
  (.astore 4, 4, 0, []),
  (.iconst 2, 0, 2, []),
  (.ireturn, 0, 0, []),
  (.iconst 0, 0, 0, []),
  (.ireturn, 0, 0, [])]
def p193 : List Nat := [0, 1, 2, 3, 4, 5, 8, 9, 10, 13, 15, 16, 17, 19, 20, 21, 22]
set_option maxRecDepth 100000 in
theorem ok193 : chk 193 p193 e193 = true := by decide +kernel
/-- L_mount, of PoloSeasonLaw -/
def e194 : List En := [
  (.aload 4, 4, 0, []),
  (.iconst 0, 0, 0, []),
  (.aload_n 0, 0, 0, []),
  (.iload_n 1, 1, 0, []),
  (.iload_n 2, 2, 0, []),
  (.iload_n 3, 3, 0, []),
  (.invokevirtual 66, 101, 0, [4, 0]),
  (.i2l, 0, 0, []),
  (.lastore, 0, 0, []),
  (.goto 11, 0, 0, [16]),
  (.astore 5, 5, 0, []),
  (.iconst 1, 0, 1, []),
  (.ireturn, 0, 0, []),
  (.astore 5, 5, 0, []),
  (.iconst 2, 0, 2, []),
  (.ireturn, 0, 0, []),
  (.iconst 0, 0, 0, []),
  (.ireturn, 0, 0, [])]
def p194 : List Nat := [0, 2, 3, 4, 5, 6, 7, 10, 11, 12, 15, 17, 18, 19, 21, 22, 23, 24]
set_option maxRecDepth 100000 in
theorem ok194 : chk 194 p194 e194 = true := by decide +kernel
/-- L_rest, of PoloSeasonLaw -/
def e195 : List En := [
  (.aload_n 1, 1, 0, []),
  (.iconst 0, 0, 0, []),
  (.aload_n 0, 0, 0, []),
  (.invokevirtual 70, 103, 0, [1, 0]),
  (.i2l, 0, 0, []),
  (.lastore, 0, 0, []),
  (.goto 6, 0, 0, [10]),
  (.astore_n 2, 2, 0, []),
  (.iconst 1, 0, 1, []),
  (.ireturn, 0, 0, []),
  (.iconst 0, 0, 0, []),
  (.ireturn, 0, 0, [])]
def p195 : List Nat := [0, 1, 2, 3, 6, 7, 8, 11, 12, 13, 14, 15]
set_option maxRecDepth 100000 in
theorem ok195 : chk 195 p195 e195 = true := by decide +kernel
/-- L_ball, of PoloSeasonLaw -/
def e196 : List En := [
  (.aload_n 0, 0, 0, []),
  (.iload_n 1, 1, 0, []),
  (.iload_n 2, 2, 0, []),
  (.iload_n 3, 3, 0, []),
  (.iload 4, 4, 0, []),
  (.invokevirtual 73, 104, 0, [5, 0]),
  (.goto 7, 0, 0, [10]),
  (.astore 5, 5, 0, []),
  (.iconst 1, 0, 1, []),
  (.ireturn, 0, 0, []),
  (.iconst 0, 0, 0, []),
  (.ireturn, 0, 0, [])]
def p196 : List Nat := [0, 1, 2, 3, 4, 6, 9, 12, 14, 15, 16, 17]
set_option maxRecDepth 100000 in
theorem ok196 : chk 196 p196 e196 = true := by decide +kernel
/-- L_rider, of PoloSeasonLaw -/
def e197 : List En := [
  (.aload 6, 6, 0, []),
  (.iconst 0, 0, 0, []),
  (.aload_n 0, 0, 0, []),
  (.iload_n 1, 1, 0, []),
  (.iload_n 2, 2, 0, []),
  (.iload_n 3, 3, 0, []),
  (.iload 4, 4, 0, []),
  (.iload 5, 5, 0, []),
  (.invokevirtual 77, 105, 0, [6, 0]),
  (.i2l, 0, 0, []),
  (.lastore, 0, 0, []),
  (.goto 11, 0, 0, [18]),
  (.astore 7, 7, 0, []),
  (.iconst 1, 0, 1, []),
  (.ireturn, 0, 0, []),
  (.astore 7, 7, 0, []),
  (.iconst 2, 0, 2, []),
  (.ireturn, 0, 0, []),
  (.iconst 0, 0, 0, []),
  (.ireturn, 0, 0, [])]
def p197 : List Nat := [0, 2, 3, 4, 5, 6, 7, 9, 11, 14, 15, 16, 19, 21, 22, 23, 25, 26, 27, 28]
set_option maxRecDepth 100000 in
theorem ok197 : chk 197 p197 e197 = true := by decide +kernel
