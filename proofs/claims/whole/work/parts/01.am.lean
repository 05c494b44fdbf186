def nth {α : Type} (d : α) : List α → Nat → α
  | [], _ => d
  | a :: _, 0 => a
  | _ :: l, n + 1 => nth d l n
/-! ===== tables of the abstract machine, by program out of the listing ===== -/
def cKl : List Int32 := [(-1), 0, 1, 2, 3, 4, 5, 8, 999, 23, 9999, 9, (-2), 6, 7, 255, (-4), (-100), 24, (-100000), 19, (-3), 40, (-14), (-11), (-12), (-13), 10, 160, 32, 41, 59, 43, 45, 42, 60, 61, 117, 115, 101, 100, 104, 111, 114, 108, 116, 110, 103, 112, 109, 97, 121, 119, 99, 54, 1103515245, 12345, 20, 256, 259, (-259), 260, (-260), 261, (-261), (-42), (-262), 48, 122, 57, (-6), 30, 888888]
def cLl : List Int64 := [(-4611686018427387904), 0, 7, 4, 999, 3, 23, 9999, 9, 1, 888888, 8, 5, 255, 97, 122, 48, 57, 10, 43, 60, 1000, 32, 16, 64, 1048576, 7046029254386353131, 24, 2, 20, (-1)]
def layX : List (Nat × Nat × Nat) := [(0, 8, 0), (1, 8, 0), (0, 6, 0), (1, 10, 0), (1, 10, 0), (5, 10, 6), (1, 6, 0), (1, 6, 0), (1, 6, 0), (1, 6, 0), (1, 6, 0), (1, 6, 0), (1, 6, 0), (1, 6, 0), (1, 6, 0), (1, 6, 0), (0, 7, 0), (1, 5, 0), (1, 5, 0), (1, 5, 0), (0, 2, 0), (1, 6, 0), (1, 6, 0), (0, 3, 0), (1, 160, 0), (1, 160, 0), (1, 3, 0), (0, 5, 0), (5, 6, 29), (1, 160, 0), (1, 160, 0), (1, 160, 0), (1, 160, 0), (1, 160, 0), (1, 160, 0), (5, 6, 36), (1, 3, 0), (1, 3, 0), (1, 3, 0), (1, 3, 0), (1, 3, 0), (1, 3, 0), (1, 6, 0), (1, 31, 0), (0, 0, 0), (1, 8, 0), (1, 5, 0), (1, 5, 0), (1, 5, 0), (1, 5, 0), (1, 24, 0), (0, 1, 0), (1, 8, 0), (1, 5, 0), (1, 5, 0), (1, 5, 0), (1, 6, 0), (0, 4, 0), (1, 4, 0), (1, 4, 0), (5, 4, 61), (1, 40, 0), (1, 40, 0), (1, 40, 0), (1, 40, 0), (1, 6, 1), (0, 10, 0), (4, 36, 0), (0, 10, 0), (4, 61, 0), (0, 10, 0), (4, 8, 0)]
def layM : List (Nat × Nat × Nat) := [(0, 9, 0), (1, 960, 0), (1, 6, 0), (1, 160, 0), (1, 8, 0), (1, 10, 0), (1, 10, 0), (1, 5, 0), (1, 5, 0), (1, 5, 0), (1, 6, 0), (1, 6, 0), (2, 1024, 0), (1, 1024, 0), (1, 8, 0), (1, 8, 0), (1, 5, 0), (1, 5, 0), (1, 5, 0), (1, 8, 0), (1, 15, 0), (1, 6, 0), (3, 4, 0), (1, 4, 0), (1, 4, 0), (1, 160, 0)]
def fldX : List (List (Nat × Nat)) := [[(3, 1), (3, 2), (3, 16), (3, 20), (3, 23), (3, 27), (3, 44), (3, 51), (3, 57)], [], [(3, 3), (3, 4), (3, 5), (0, 0)], [], [], [], [], [], [], [], [], [], [], [], [], [], [(3, 17), (3, 18), (3, 19), (0, 0)], [], [], [], [(3, 21), (3, 22), (0, 0), (0, 0)], [], [], [(3, 24), (0, 0), (3, 25), (3, 26), (0, 0), (0, 0), (0, 0), (0, 0), (0, 0), (0, 0)], [], [], [], [(3, 28), (3, 35), (3, 42), (3, 43), (0, 0), (0, 0)], [], [], [], [], [], [], [], [], [], [], [], [], [], [], [], [], [(3, 1), (3, 2), (3, 16), (3, 20), (3, 27), (3, 45), (3, 46), (0, 0), (3, 47), (3, 48), (3, 49), (3, 50)], [], [], [], [], [], [], [(1, 0), (3, 52), (0, 0), (0, 0), (3, 53), (3, 54), (3, 55), (0, 0), (3, 56), (0, 0), (0, 0)], [], [], [], [], [], [(3, 58), (3, 59), (3, 60)], [], [], [], [], [], [], [], [], [(3, 67), (4, 0)], [], [(3, 69), (4, 0)], [], [(3, 71), (4, 0)], []]
def fldM : List (List (Nat × Nat)) := [[(0, 0), (3, 1), (3, 2), (0, 0), (0, 0), (3, 3), (0, 0), (3, 4), (3, 5), (3, 6), (0, 0), (3, 7), (3, 8), (3, 9), (0, 0), (3, 10), (3, 11), (0, 0), (0, 0), (0, 0), (0, 0), (0, 0), (0, 0), (0, 0), (0, 0), (0, 0), (0, 0), (0, 0), (0, 0), (0, 0), (2, 0), (0, 0), (1, 0), (0, 0), (3, 12), (3, 13), (3, 14), (3, 15), (3, 16), (3, 17), (0, 0), (0, 0), (0, 0), (0, 0), (0, 0), (3, 18), (0, 0), (0, 0), (3, 19), (3, 20), (3, 21), (0, 0), (0, 0), (0, 0), (0, 0), (0, 0), (3, 22), (3, 23), (3, 24), (3, 25)], [], [], [], [], [], [], [], [], [], [], [], [], [], [], [], [], [], [], [], [], [], [], [], [], []]
def sKl : List Value := [.ref 65, .int 1, .retAddr 7]
def infL : List (Nat × Nat × Nat × Nat × Option FieldType × Nat) := [(0, 8, 4, 4, some .int, 0), (0, 8, 3, 3, some .int, 0), (0, 8, 3, 3, some .int, 0), (0, 8, 4, 4, some .int, 0), (0, 8, 3, 3, some .int, 0), (0, 8, 3, 2, some .int, 0), (0, 8, 2, 2, some .int, 0), (0, 8, 2, 1, some .int, 0), (0, 8, 3, 2, some .int, 0), (0, 8, 3, 3, some .int, 0), (0, 8, 4, 3, some .int, 0), (0, 8, 3, 2, some .int, 0), (0, 8, 8, 4, some .int, 0), (0, 8, 3, 3, some .int, 0), (0, 8, 2, 2, some .int, 0), (0, 8, 4, 3, some .int, 0), (0, 8, 3, 2, some .int, 0), (0, 8, 3, 1, some .int, 0), (0, 8, 8, 2, some .int, 0), (0, 8, 3, 3, some .int, 0), (0, 8, 8, 3, some .int, 0), (0, 8, 8, 2, some .int, 0), (0, 8, 3, 2, some .int, 0), (0, 8, 5, 3, some .int, 0), (0, 8, 5, 2, some .int, 0), (0, 8, 2, 2, some .int, 0), (0, 8, 6, 4, some .long, 0), (0, 8, 1, 1, some .int, 0), (0, 8, 1, 1, some .int, 0), (0, 8, 2, 2, some .int, 0), (0, 8, 4, 4, some .int, 0), (0, 8, 4, 4, some .int, 0), (0, 8, 6, 6, some .int, 0), (0, 8, 9, 5, some .int, 0), (0, 8, 3, 3, some .int, 0), (0, 8, 2, 2, some .boolean, 1), (0, 8, 6, 5, some .int, 1), (0, 8, 3, 3, some .int, 1), (0, 8, 6, 1, some .int, 1), (0, 8, 3, 1, some .int, 1), (0, 8, 3, 3, some .int, 1), (0, 8, 4, 2, some .boolean, 1), (0, 8, 4, 2, some .int, 1), (0, 8, 3, 2, some .int, 1), (0, 8, 2, 2, some .int, 0), (1, 9, 6, 3, some .boolean, 1), (1, 9, 3, 3, some .int, 1), (1, 9, 10, 10, none, 0), (1, 9, 2, 2, some .boolean, 0), (1, 9, 2, 2, some .boolean, 0), (1, 9, 2, 2, some .boolean, 0), (1, 9, 3, 3, some .boolean, 0), (1, 9, 5, 4, some .int, 0), (1, 9, 3, 1, some .int, 1), (1, 9, 3, 3, some .int, 0), (1, 9, 4, 3, some .int, 0), (1, 9, 4, 4, some .int, 0), (1, 9, 3, 3, some .int, 0), (1, 9, 3, 2, some .int, 0), (1, 9, 2, 2, some .int, 1), (1, 9, 5, 3, some .int, 0), (1, 9, 5, 2, some .int, 0), (1, 9, 2, 2, some .int, 0), (1, 9, 2, 2, some .int, 0), (1, 9, 3, 1, none, 0), (1, 9, 1, 1, none, 0), (1, 9, 3, 3, some .boolean, 0), (1, 9, 9, 9, some .boolean, 0), (1, 9, 2, 2, some .boolean, 0), (1, 9, 1, 1, some .boolean, 0), (1, 9, 1, 1, some .int, 0), (1, 9, 2, 1, some .int, 0), (1, 9, 2, 1, some .int, 0), (1, 9, 4, 1, some .int, 0), (1, 9, 4, 1, some .int, 0), (1, 9, 3, 1, some .int, 0), (1, 9, 3, 1, some .int, 0), (1, 9, 3, 2, some .int, 0), (1, 9, 6, 3, some .int, 0), (1, 9, 2, 1, some .int, 0), (1, 9, 3, 2, some .int, 0), (1, 9, 4, 4, some .int, 0), (1, 9, 4, 4, some .int, 0), (1, 9, 5, 2, some .int, 0), (1, 9, 2, 1, none, 0), (1, 9, 7, 3, some .int, 0), (1, 9, 5, 3, some .int, 0), (1, 9, 2, 1, none, 0), (1, 9, 3, 1, some .int, 0), (1, 9, 2, 1, none, 0), (1, 9, 3, 3, some .int, 0), (1, 9, 4, 3, some .int, 0), (1, 9, 3, 2, some .int, 0), (1, 9, 8, 4, some .int, 0), (1, 9, 4, 2, none, 0), (1, 9, 3, 1, none, 0), (1, 9, 1, 1, none, 0), (1, 9, 2, 2, some .int, 0), (1, 9, 3, 1, some .int, 0), (1, 9, 3, 1, some .int, 0), (1, 9, 3, 3, some .int, 0), (1, 9, 5, 2, some .int, 0), (1, 9, 5, 2, none, 0), (1, 9, 3, 3, some .int, 0), (1, 9, 2, 2, some .int, 0), (1, 9, 3, 1, some .int, 0), (1, 9, 6, 5, none, 0), (1, 9, 3, 2, some .int, 0), (1, 9, 4, 3, some .int, 0), (1, 9, 3, 3, some .int, 0), (1, 9, 7, 3, some .int, 0), (1, 9, 8, 2, some .int, 0), (1, 9, 2, 2, some .int, 0), (1, 9, 3, 2, some .int, 0), (1, 9, 3, 2, some .int, 0), (1, 9, 3, 3, some .int, 0), (1, 9, 5, 2, some .int, 0), (1, 9, 4, 2, none, 0), (1, 9, 2, 2, some .int, 0), (1, 9, 12, 4, some .long, 0), (1, 9, 2, 1, some .int, 0), (1, 9, 2, 1, some .int, 0), (1, 9, 2, 2, some .int, 0), (1, 9, 1, 1, some .boolean, 1), (1, 9, 5, 4, some .int, 0), (1, 9, 4, 4, some .int, 0), (1, 9, 9, 6, some .int, 0), (1, 9, 8, 5, some .int, 0), (1, 9, 1, 1, some .int, 1), (1, 9, 4, 3, some .int, 0), (0, 0, 1, 1, none, 0), (0, 0, 4, 2, none, 0), (0, 0, 1, 1, none, 0), (0, 0, 4, 2, none, 0), (0, 0, 8, 2, none, 0), (0, 0, 6, 3, some .int, 0), (0, 0, 3, 2, none, 0), (0, 0, 3, 3, some .int, 0), (0, 0, 3, 1, some .int, 0), (0, 0, 3, 1, some .int, 0), (0, 0, 3, 1, some .int, 0), (0, 0, 7, 1, some .int, 0), (0, 0, 4, 2, some .int, 0), (0, 1, 2, 2, none, 0), (0, 1, 2, 2, none, 0), (0, 1, 2, 2, none, 0), (0, 1, 2, 2, none, 0), (0, 2, 3, 3, some .int, 0), (0, 2, 5, 3, some .boolean, 0), (0, 2, 5, 4, some .int, 0), (0, 2, 2, 2, some .int, 1), (0, 2, 4, 3, none, 0), (0, 2, 3, 3, some .int, 0), (0, 3, 2, 2, some .boolean, 0), (0, 3, 3, 2, none, 0), (0, 3, 2, 1, some .int, 0), (0, 3, 1, 1, none, 0), (0, 3, 2, 2, none, 0), (0, 3, 2, 2, none, 0), (0, 3, 3, 2, none, 0), (0, 3, 3, 2, none, 0), (0, 3, 2, 2, none, 0), (0, 3, 3, 2, none, 0), (0, 3, 4, 2, none, 0), (0, 3, 3, 2, none, 0), (0, 3, 2, 2, none, 0), (0, 3, 1, 1, none, 0), (0, 3, 2, 1, none, 0), (0, 3, 1, 1, none, 0), (0, 3, 5, 1, some .int, 0), (0, 3, 1, 1, some .boolean, 1), (0, 3, 1, 1, some .boolean, 1), (0, 3, 1, 1, some .boolean, 1), (0, 4, 5, 4, none, 0), (0, 4, 4, 4, none, 0), (0, 4, 4, 4, some .boolean, 0), (0, 5, 3, 3, some .int, 0), (0, 5, 4, 4, some .int, 0), (0, 5, 5, 5, some .int, 0), (0, 5, 5, 5, some .boolean, 0), (0, 5, 7, 7, none, 0), (0, 5, 2, 2, some .int, 1), (0, 5, 10, 2, some .int, 0), (0, 6, 4, 1, some .int, 1), (0, 6, 5, 3, some .int, 0), (0, 6, 7, 4, some .int, 0), (0, 6, 5, 3, none, 0), (0, 7, 4, 4, some .int, 0), (0, 10, 1, 1, some .int, 0), (0, 10, 1, 1, some .byte, 0), (0, 10, 1, 1, some .boolean, 0), (0, 10, 2, 2, some .char, 0), (0, 10, 2, 2, none, 1), (0, 10, 2, 2, some .int, 0), (0, 10, 3, 3, some .int, 0), (0, 11, 2, 2, some .char, 1), (0, 11, 1, 1, some .boolean, 1), (0, 11, 4, 4, some .int, 1), (0, 11, 6, 4, some .int, 1), (0, 12, 3, 3, some .int, 1)]
def pr_X_set : List Instr := [.iload 1, .lookupswitch 54 #[(1, 2), (2, 10), (3, 21), (4, 32), (5, 43)], .aload 0, .getfield 512, .ldc 7, .iload 2, .iload 3, .ldc 8, .invokestatic 36, .ireturn, .aload 0, .getfield 514, .getfield 448, .aload 0, .getfield 514, .getfield 451, .iload 2, .iload 3, .ldc 4, .invokestatic 36, .ireturn, .aload 0, .getfield 514, .getfield 449, .aload 0, .getfield 514, .getfield 451, .iload 2, .iload 3, .ldc 9, .invokestatic 36, .ireturn, .aload 0, .getfield 514, .getfield 450, .aload 0, .getfield 514, .getfield 451, .iload 2, .iload 3, .ldc 10, .invokestatic 36, .ireturn, .aload 0, .getfield 515, .getfield 129, .aload 0, .getfield 515, .getfield 130, .iload 2, .iload 3, .ldc 11, .invokestatic 36, .ireturn, .ldc 12, .ireturn]
def pr_X_told : List Instr := [.iload 2, .lookupswitch 71 #[(1, 2), (2, 8), (3, 17), (4, 26), (5, 35), (6, 44), (13, 53), (14, 62)], .aload 0, .getfield 512, .ldc 7, .iload 1, .invokestatic 37, .ireturn, .aload 0, .getfield 514, .getfield 448, .aload 0, .getfield 514, .getfield 451, .iload 1, .invokestatic 37, .ireturn, .aload 0, .getfield 514, .getfield 449, .aload 0, .getfield 514, .getfield 451, .iload 1, .invokestatic 37, .ireturn, .aload 0, .getfield 514, .getfield 450, .aload 0, .getfield 514, .getfield 451, .iload 1, .invokestatic 37, .ireturn, .aload 0, .getfield 515, .getfield 129, .aload 0, .getfield 515, .getfield 130, .iload 1, .invokestatic 37, .ireturn, .aload 0, .getfield 515, .getfield 128, .aload 0, .getfield 515, .getfield 130, .iload 1, .invokestatic 37, .ireturn, .aload 0, .getfield 513, .getfield 384, .aload 0, .getfield 513, .getfield 387, .iload 1, .invokestatic 37, .ireturn, .aload 0, .getfield 513, .getfield 385, .aload 0, .getfield 513, .getfield 387, .iload 1, .invokestatic 37, .ireturn, .ldc 12, .ireturn]
def pr_X_word : List Instr := [.iload 1, .ldc 4, .invokestatic 35, .ifCond .eq 7, .iload 2, .invokestatic 183, .ifCond .ne 9, .ldc 12, .ireturn, .aload 0, .getfield 513, .iload 1, .iload 2, .invokevirtual 184, .ireturn]
def pr_X_writer : List Instr := [.aload 0, .getfield 514, .iload 1, .iload 2, .iload 3, .invokevirtual 187, .ireturn]
def pr_X_law : List Instr := [.iload 1, .ldc 6, .invokestatic 35, .ifCond .eq 8, .iload 2, .ldc 11, .invokestatic 35, .ifCond .ne 10, .ldc 12, .ireturn, .aload 0, .getfield 515, .iload 1, .iload 2, .invokevirtual 147, .ireturn]
def pr_X_rule : List Instr := [.iload 1, .aload 0, .getfield 515, .getfield 130, .ldc 2, .isub, .invokestatic 35, .ifCond .ne 10, .ldc 12, .ireturn, .aload 0, .getfield 515, .getfield 131, .istore 2, .aload 0, .getfield 515, .iload 1, .putfield 131, .iload 2, .ireturn]
def pr_X_feed : List Instr := [.iload 1, .ldc 15, .invokestatic 35, .ifCond .ne 6, .ldc 12, .ireturn, .aload 0, .getfield 516, .iload 1, .invokevirtual 153, .ifCond .eq 15, .aload 0, .getfield 516, .getfield 193, .goto 16, .ldc 16, .ireturn]
def pr_X_text : List Instr := [.aload 0, .getfield 517, .getfield 324, .ldc 13, .if_icmp .lt 7, .ldc 16, .ireturn, .aload 0, .getfield 516, .invokevirtual 155, .istore 1, .iload 1, .ldc 0, .if_icmp .eq 18, .ldc 17, .iload 1, .isub, .ireturn, .aload 0, .getfield 517, .aload 0, .getfield 516, .getfield 194, .aload 0, .getfield 516, .getfield 195, .invokevirtual 176, .ireturn]
def pr_X_force : List Instr := [.iload 1, .aload 0, .getfield 517, .getfield 324, .ldc 2, .isub, .invokestatic 35, .ifCond .ne 10, .ldc 12, .ireturn, .aload 0, .getfield 517, .getfield 325, .istore 2, .aload 0, .getfield 517, .iload 1, .putfield 325, .iload 2, .ireturn]
def pr_X_costs : List Instr := [.iload 1, .aload 0, .getfield 513, .getfield 387, .ldc 2, .isub, .invokestatic 35, .ifCond .eq 12, .iload 2, .ldc 9, .invokestatic 35, .ifCond .ne 14, .ldc 12, .ireturn, .aload 0, .getfield 518, .invokevirtual 130, .aload 0, .getfield 518, .iload 1, .iload 2, .invokevirtual 135, .ireturn]
def pr_X_write : List Instr := [.iload 1, .aload 0, .getfield 513, .getfield 387, .ldc 2, .isub, .invokestatic 35, .ifCond .eq 12, .iload 2, .ldc 9, .invokestatic 35, .ifCond .ne 14, .ldc 12, .ireturn, .aload 0, .getfield 518, .invokevirtual 130, .aload 0, .getfield 518, .iload 1, .iload 2, .invokevirtual 135, .istore 3, .aload 0, .getfield 513, .iload 1, .aload 0, .getfield 512, .invokevirtual 186, .iload 3, .ireturn]
def pr_X_pass : List Instr := [.iload 1, .ldc 18, .invokestatic 35, .ifCond .ne 6, .ldc 12, .ireturn, .ldc 1, .istore 2, .iload 2, .iload 1, .if_icmp .ge 21, .aload 0, .getfield 515, .aload 0, .getfield 515, .getfield 131, .aload 0, .getfield 512, .invokevirtual 151, .iinc 2 2, .goto 8, .aload 0, .getfield 512, .invokestatic 38, .ireturn]
def pr_X_cheapest : List Instr := [.iload 1, .ldc 4, .invokestatic 35, .ifCond .eq 12, .iload 2, .ldc 9, .invokestatic 35, .ifCond .eq 12, .iload 3, .ldc 2, .invokestatic 35, .ifCond .ne 14, .ldc 12, .ireturn, .ldc 0, .istore 4, .ldc 0, .istore 5, .aload 0, .getfield 518, .invokevirtual 130, .ldc 1, .istore 6, .iload 6, .aload 0, .getfield 513, .getfield 387, .if_icmp .ge 54, .aload 0, .getfield 513, .getfield 384, .iload 6, .iaload, .iload 1, .if_icmp .eq 36, .goto 52, .aload 0, .getfield 518, .iload 6, .iload 2, .invokevirtual 135, .istore 7, .iload 4, .ldc 0, .if_icmp .eq 48, .iload 7, .iload 5, .if_icmp .ge 52, .iload 6, .istore 4, .iload 7, .istore 5, .iinc 6 2, .goto 23, .iload 3, .ifCond .ne 58, .iload 4, .goto 59, .iload 5, .ireturn]
def pr_X_day : List Instr := [.iload 1, .aload 0, .getfield 514, .getfield 451, .ldc 2, .isub, .invokestatic 35, .ifCond .eq 12, .iload 2, .ldc 3, .invokestatic 35, .ifCond .ne 14, .ldc 19, .ireturn, .aload 0, .getfield 518, .invokevirtual 130, .aload 0, .getfield 518, .invokevirtual 132, .iload 2, .ifCond .ne 28, .aload 0, .getfield 518, .getfield 9, .iload 1, .iaload, .ireturn, .iload 2, .ldc 2, .if_icmp .ne 37, .aload 0, .getfield 518, .getfield 8, .iload 1, .iaload, .goto 42, .aload 0, .getfield 518, .getfield 10, .iload 1, .iaload, .ireturn]
def pr_X_all : List Instr := [.iload 1, .ldc 4, .invokestatic 35, .ifCond .ne 6, .ldc 19, .ireturn, .aload 0, .getfield 518, .invokevirtual 130, .aload 0, .getfield 518, .invokevirtual 132, .iload 1, .lookupswitch 26 #[(1, 14), (2, 18), (3, 22)], .aload 0, .getfield 518, .invokevirtual 138, .ireturn, .aload 0, .getfield 518, .invokevirtual 140, .ireturn, .aload 0, .getfield 518, .invokevirtual 141, .ireturn, .aload 0, .getfield 518, .invokevirtual 139, .ireturn]
def pr_X_when : List Instr := [.iload 1, .aload 0, .getfield 514, .getfield 451, .ldc 2, .isub, .invokestatic 35, .ifCond .eq 12, .iload 2, .ldc 2, .invokestatic 35, .ifCond .ne 14, .ldc 19, .ireturn, .aload 0, .getfield 518, .iload 1, .invokevirtual 136, .aload 0, .getfield 518, .getfield 11, .invokestatic 39, .istore 3, .iload 2, .ifCond .ne 27, .iload 3, .goto 32, .aload 0, .getfield 518, .getfield 11, .iload 3, .iaload, .ireturn]
def pr_X_choose : List Instr := [.iload 1, .aload 0, .getfield 514, .getfield 451, .ldc 2, .isub, .invokestatic 35, .ifCond .ne 10, .ldc 19, .ireturn, .aload 0, .getfield 518, .iload 1, .invokevirtual 136, .aload 0, .getfield 518, .getfield 11, .invokestatic 39, .istore 2, .aload 0, .getfield 514, .getfield 449, .iload 1, .iload 2, .iastore, .aload 0, .getfield 518, .getfield 11, .iload 2, .iaload, .ireturn]
def pr_X_rest : List Instr := [.ldc 1, .istore 1, .iload 1, .aload 0, .getfield 514, .getfield 451, .if_icmp .ge 35, .aload 0, .getfield 518, .iload 1, .invokevirtual 136, .aload 0, .getfield 518, .getfield 11, .aload 0, .getfield 518, .getfield 11, .invokestatic 39, .iaload, .istore 2, .iload 2, .aload 0, .getfield 518, .getfield 11, .aload 0, .getfield 514, .getfield 449, .iload 1, .iaload, .iaload, .if_icmp .le 33, .ldc 1, .ireturn, .iinc 1 2, .goto 2, .ldc 2, .ireturn]
def pr_X_turns : List Instr := [.iload 1, .ldc 2, .invokestatic 35, .ifCond .ne 6, .ldc 19, .ireturn, .aload 0, .getfield 514, .getfield 451, .ldc 5, .invokedynamic 2, .istore 2, .ldc 0, .istore 3, .ldc 1, .istore 4, .ldc 2, .ldc 3, .iload 2, .imul, .ishl, .istore 5, .ldc 1, .istore 6, .iload 6, .iload 5, .if_icmp .ge 74, .iload 6, .iload 2, .invokestatic 41, .ifCond .ne 32, .goto 72, .aload 0, .getfield 518, .invokevirtual 130, .ldc 1, .istore 7, .iload 7, .iload 2, .if_icmp .ge 55, .aload 0, .getfield 518, .getfield 6, .iload 7, .aload 0, .getfield 514, .getfield 449, .iload 6, .iload 7, .iload 2, .invokestatic 40, .iaload, .iastore, .iinc 7 2, .goto 37, .aload 0, .getfield 518, .invokevirtual 132, .aload 0, .getfield 518, .invokevirtual 138, .istore 7, .iload 3, .ldc 0, .if_icmp .eq 68, .iload 7, .iload 4, .if_icmp .le 72, .iload 6, .istore 3, .iload 7, .istore 4, .iinc 6 2, .goto 24, .iload 1, .ifCond .ne 78, .iload 4, .goto 81, .iload 3, .iload 2, .invokestatic 42, .ireturn]
def pr_X_burn : List Instr := [.iload 1, .ldc 14, .invokestatic 35, .ifCond .eq 10, .iload 2, .ldc 2, .isub, .ldc 20, .invokestatic 35, .ifCond .ne 12, .ldc 19, .ireturn, .aload 0, .getfield 518, .iload 1, .ldc 1, .invokevirtual 137, .aload 0, .getfield 518, .iload 1, .iload 2, .invokevirtual 137, .isub, .ireturn]
def pr_X_worst : List Instr := [.iload 1, .ldc 2, .isub, .ldc 20, .invokestatic 35, .ifCond .eq 10, .iload 2, .ldc 2, .invokestatic 35, .ifCond .ne 12, .ldc 19, .ireturn, .aload 0, .getfield 518, .ldc 1, .ldc 1, .invokevirtual 137, .istore 3, .ldc 1, .istore 4, .iload 3, .aload 0, .getfield 518, .ldc 1, .iload 1, .invokevirtual 137, .isub, .istore 5, .ldc 2, .istore 6, .iload 6, .ldc 7, .if_icmp .ge 50, .iload 3, .aload 0, .getfield 518, .iload 6, .iload 1, .invokevirtual 137, .isub, .istore 7, .iload 7, .iload 5, .if_icmp .le 48, .iload 6, .istore 4, .iload 7, .istore 5, .iinc 6 2, .goto 30, .iload 2, .ifCond .ne 54, .iload 4, .goto 55, .iload 5, .ireturn]
def pr_X_best : List Instr := [.iload 1, .ldc 3, .invokestatic 35, .ifCond .ne 6, .ldc 19, .ireturn, .ldc 0, .istore 2, .ldc 1, .istore 3, .ldc 1, .istore 4, .ldc 1, .istore 5, .iload 5, .aload 0, .getfield 515, .getfield 130, .if_icmp .ge 57, .aload 0, .getfield 518, .invokevirtual 130, .aload 0, .getfield 518, .iload 5, .putfield 7, .aload 0, .getfield 518, .invokevirtual 132, .aload 0, .getfield 518, .invokevirtual 140, .istore 6, .aload 0, .getfield 518, .invokevirtual 138, .istore 7, .iload 2, .ldc 0, .if_icmp .eq 49, .iload 6, .iload 3, .if_icmp .gt 49, .iload 6, .iload 3, .if_icmp .ne 55, .iload 7, .iload 4, .if_icmp .le 55, .iload 5, .istore 2, .iload 6, .istore 3, .iload 7, .istore 4, .iinc 5 2, .goto 14, .iload 1, .ifCond .ne 61, .iload 2, .ireturn, .iload 1, .ldc 2, .if_icmp .ne 66, .iload 3, .goto 67, .iload 4, .ireturn]
def pr_X_judge : List Instr := [.aload 0, .iload 1, .invokevirtual 44, .istore 2, .iload 2, .ifCond .eq 8, .iload 2, .ireturn, .aload 0, .getfield 518, .invokevirtual 130, .aload 0, .getfield 518, .invokevirtual 132, .aload 0, .getfield 518, .aload 0, .getfield 520, .getfield 258, .iload 1, .aaload, .invokevirtual 142, .ireturn]
def pr_X_fits : List Instr := [.iload 1, .aload 0, .getfield 514, .getfield 451, .ldc 2, .isub, .invokestatic 35, .ifCond .eq 12, .iload 2, .ldc 10, .invokestatic 35, .ifCond .ne 14, .ldc 12, .ireturn, .aload 0, .getfield 518, .invokevirtual 130, .aload 0, .getfield 518, .iload 1, .invokevirtual 133, .ldc 1, .istore 3, .ldc 1, .istore 4, .iload 4, .aload 0, .getfield 513, .getfield 387, .if_icmp .ge 61, .aload 0, .getfield 513, .getfield 384, .iload 4, .iaload, .aload 0, .getfield 514, .getfield 448, .iload 1, .iaload, .if_icmp .eq 42, .goto 59, .aload 0, .getfield 518, .iload 4, .aload 0, .getfield 514, .getfield 449, .iload 1, .iaload, .invokevirtual 135, .iload 2, .if_icmp .ne 59, .iload 3, .ldc 2, .iload 4, .ishl, .ior, .istore 3, .iinc 4 2, .goto 25, .iload 3, .ireturn]
def pr_X_whose : List Instr := [.aload 0, .iload 1, .invokevirtual 44, .istore 2, .iload 2, .ifCond .eq 8, .iload 2, .ireturn, .ldc 1, .istore 3, .ldc 1, .istore 4, .iload 4, .aload 0, .getfield 515, .getfield 130, .if_icmp .ge 45, .aload 0, .getfield 518, .invokevirtual 130, .aload 0, .getfield 518, .iload 4, .putfield 7, .aload 0, .getfield 518, .invokevirtual 132, .aload 0, .getfield 518, .aload 0, .getfield 520, .getfield 258, .iload 1, .aaload, .invokevirtual 142, .ldc 0, .if_icmp .ne 43, .iload 3, .ldc 2, .iload 4, .ishl, .ior, .istore 3, .iinc 4 2, .goto 12, .iload 3, .ireturn]
def pr_X_drawn : List Instr := [.aload 0, .getfield 518, .invokevirtual 130, .aload 0, .getfield 518, .iload 1, .invokevirtual 131, .aload 0, .getfield 518, .invokevirtual 132, .aload 0, .getfield 518, .invokevirtual 138, .ireturn]
def pr_X_chance : List Instr := [.iload 2, .ldc 2, .isub, .ldc 20, .invokestatic 35, .ifCond .eq 10, .iload 3, .ldc 2, .invokestatic 35, .ifCond .ne 12, .ldc2_w 0, .lreturn, .ldc 1, .istore 4, .ldc 1, .istore 5, .iload 5, .iload 2, .if_icmp .ge 41, .aload 0, .getfield 518, .invokevirtual 130, .aload 0, .getfield 518, .iload 1, .iload 5, .iadd, .invokevirtual 131, .aload 0, .getfield 518, .invokevirtual 132, .aload 0, .getfield 518, .invokevirtual 140, .aload 0, .getfield 514, .getfield 451, .if_icmp .ne 39, .iinc 4 2, .iinc 5 2, .goto 16, .iload 4, .iload 2, .invokestatic 43, .istore 5, .iload 3, .ifCond .ne 52, .iload 4, .iload 5, .idiv, .i2l, .goto 56, .iload 2, .iload 5, .idiv, .i2l, .lreturn]
def pr_X_image : List Instr := [.aload 0, .getfield 512, .ldc 1, .aload 0, .getfield 519, .getfield 65, .ldc 1, .ldc 7, .invokedynamic 0, .aload 0, .getfield 519, .aload 0, .getfield 514, .invokevirtual 143, .aload 0, .getfield 519, .aload 0, .getfield 515, .invokevirtual 145, .aload 0, .getfield 519, .aload 0, .getfield 513, .getfield 387, .putfield 66, .aload 0, .getfield 519, .aload 0, .getfield 517, .getfield 325, .putfield 67, .aload 0, .getfield 519, .ldc 2, .putfield 64, .aload 0, .getfield 514, .getfield 451, .ireturn]
def pr_X_back : List Instr := [.aload 0, .getfield 519, .getfield 64, .ifCond .ne 6, .ldc 21, .ireturn, .aload 0, .getfield 519, .getfield 65, .ldc 1, .aload 0, .getfield 512, .ldc 1, .ldc 7, .invokedynamic 0, .aload 0, .getfield 519, .aload 0, .getfield 514, .invokevirtual 144, .aload 0, .getfield 519, .aload 0, .getfield 515, .invokevirtual 146, .aload 0, .getfield 513, .aload 0, .getfield 519, .getfield 66, .putfield 387, .aload 0, .getfield 517, .aload 0, .getfield 519, .getfield 67, .putfield 325, .aload 0, .getfield 514, .getfield 451, .ireturn]
def pr_X_count : List Instr := [.iload 1, .lookupswitch 34 #[(1, 2), (2, 6), (3, 10), (4, 14), (5, 18), (6, 22), (13, 26), (14, 30)], .aload 0, .getfield 513, .getfield 387, .ireturn, .aload 0, .getfield 514, .getfield 451, .ireturn, .aload 0, .getfield 515, .getfield 130, .ireturn, .aload 0, .getfield 515, .getfield 131, .ireturn, .aload 0, .getfield 517, .getfield 324, .ireturn, .aload 0, .getfield 516, .getfield 193, .ireturn, .aload 0, .getfield 517, .getfield 325, .ireturn, .aload 0, .getfield 512, .invokestatic 38, .ireturn, .ldc 12, .ireturn]
def pr_X_sheet : List Instr := [.iload 1, .ldc 4, .invokestatic 35, .ifCond .eq 10, .iload 2, .ldc 0, .isub, .ldc 4, .invokestatic 35, .ifCond .ne 12, .ldc 12, .ireturn, .iload 2, .ldc 0, .if_icmp .ne 23, .aload 0, .getfield 520, .getfield 256, .iload 1, .ldc 0, .iastore, .ldc 2, .ireturn, .iload 3, .ldc 22, .if_icmp .le 28, .ldc 12, .ireturn, .iload 3, .ifCond .ge 32, .ldc 23, .ireturn, .aload 0, .getfield 520, .iload 1, .iload 2, .iload 3, .invokevirtual 173, .ldc 2, .ireturn]
def pr_X_cell : List Instr := [.iload 1, .ldc 4, .invokestatic 35, .ifCond .ne 6, .ldc 12, .ireturn, .aload 0, .getfield 520, .getfield 256, .iload 1, .iaload, .ldc 0, .if_icmp .ne 15, .ldc 24, .ireturn, .iload 2, .aload 0, .getfield 520, .getfield 257, .iload 1, .iaload, .ldc 2, .isub, .invokestatic 35, .ifCond .ne 27, .ldc 25, .ireturn, .aload 0, .getfield 520, .iload 1, .iload 2, .iload 3, .invokevirtual 174, .ldc 2, .ireturn]
def pr_X_copy : List Instr := [.iload 1, .ldc 4, .invokestatic 35, .ifCond .eq 8, .iload 3, .ldc 4, .invokestatic 35, .ifCond .ne 10, .ldc 12, .ireturn, .aload 0, .getfield 520, .getfield 256, .iload 1, .iaload, .ldc 0, .if_icmp .eq 24, .aload 0, .getfield 520, .getfield 256, .iload 3, .iaload, .ldc 0, .if_icmp .ne 26, .ldc 24, .ireturn, .aload 0, .getfield 520, .getfield 256, .iload 1, .iaload, .aload 0, .getfield 520, .getfield 256, .iload 3, .iaload, .if_icmp .eq 39, .ldc 26, .ireturn, .aload 0, .getfield 520, .iload 1, .iload 2, .iload 5, .invokevirtual 175, .ifCond .eq 53, .aload 0, .getfield 520, .iload 3, .iload 4, .iload 5, .invokevirtual 175, .ifCond .ne 55, .ldc 25, .ireturn, .aload 0, .getfield 520, .getfield 258, .iload 1, .aaload, .iload 2, .aload 0, .getfield 520, .getfield 258, .iload 3, .aaload, .iload 4, .iload 5, .invokedynamic 0, .iload 5, .ireturn]
def pr_X_writers : List Instr := [.iload 1, .ldc 4, .invokestatic 35, .ifCond .eq 12, .iload 2, .ldc 3, .invokestatic 35, .ifCond .eq 12, .iload 4, .ldc 6, .invokestatic 35, .ifCond .ne 14, .ldc 12, .ireturn, .aload 0, .getfield 520, .getfield 256, .iload 1, .iaload, .ldc 0, .if_icmp .ne 23, .ldc 24, .ireturn, .aload 0, .getfield 520, .getfield 256, .iload 1, .iaload, .iload 2, .if_icmp .eq 32, .ldc 26, .ireturn, .aload 0, .getfield 520, .getfield 258, .iload 1, .aaload, .astore 5, .iload 3, .istore 6, .ldc 1, .istore 7, .ldc 1, .istore 8, .iload 8, .iload 4, .if_icmp .ge 77, .aload 0, .getfield 520, .iload 1, .iload 6, .ldc 4, .invokevirtual 175, .ifCond .ne 56, .ldc 25, .ireturn, .aload 0, .getfield 514, .aload 5, .iload 6, .iaload, .aload 5, .iload 6, .ldc 2, .iadd, .iaload, .aload 5, .iload 6, .ldc 3, .iadd, .iaload, .invokevirtual 187, .ifCond .lt 74, .iinc 7 2, .iinc 6 4, .iinc 8 2, .goto 44, .iload 7, .ireturn]
def pr_X_taken : List Instr := [.iload 2, .ldc 6, .invokestatic 35, .ifCond .ne 6, .ldc 12, .ireturn, .iload 1, .aload 0, .getfield 515, .getfield 130, .ldc 2, .isub, .invokestatic 35, .ifCond .ne 16, .ldc 24, .ireturn, .aload 0, .getfield 515, .iload 1, .iload 2, .invokevirtual 148, .ifCond .eq 28, .aload 0, .getfield 515, .getfield 129, .iload 1, .iaload, .goto 29, .ldc 26, .ireturn]
def pr_X_within : List Instr := [.iload 0, .ifCond .lt 7, .iload 0, .iload 1, .if_icmp .gt 7, .ldc 2, .goto 8, .ldc 1, .ireturn]
def pr_X_put : List Instr := [.iload 2, .iload 1, .ldc 2, .isub, .invokestatic 35, .ifCond .eq 10, .iload 3, .iload 4, .invokestatic 35, .ifCond .ne 12, .ldc 12, .ireturn, .aload 0, .iload 2, .iaload, .istore 5, .aload 0, .iload 2, .iload 3, .iastore, .iload 5, .ireturn]
def pr_X_item : List Instr := [.iload 2, .iload 1, .ldc 2, .isub, .invokestatic 35, .ifCond .eq 10, .aload 0, .iload 2, .iaload, .goto 11, .ldc 12, .ireturn]
def pr_X_sum : List Instr := [.ldc 1, .istore 1, .aload 0, .astore 2, .aload 2, .arraylength, .istore 3, .ldc 1, .istore 4, .iload 4, .iload 3, .if_icmp .ge 22, .aload 2, .iload 4, .iaload, .istore 5, .iload 1, .iload 5, .iadd, .istore 1, .iinc 4 2, .goto 9, .iload 1, .ireturn]
def pr_X_firstMost : List Instr := [.ldc 1, .istore 1, .ldc 2, .istore 2, .iload 2, .aload 0, .arraylength, .if_icmp .ge 19, .aload 0, .iload 2, .iaload, .aload 0, .iload 1, .iaload, .if_icmp .le 17, .iload 2, .istore 1, .iinc 2 2, .goto 4, .iload 1, .ireturn]
def pr_X_whoseHour : List Instr := [.iload 0, .ldc 3, .iload 2, .ldc 2, .isub, .iload 1, .isub, .imul, .ishr, .ldc 4, .iand, .ireturn]
def pr_X_isTurn : List Instr := [.ldc 1, .istore 2, .ldc 1, .istore 3, .iload 3, .iload 1, .if_icmp .ge 18, .iload 2, .ldc 2, .iload 0, .iload 3, .iload 1, .invokestatic 40, .ishl, .ior, .istore 2, .iinc 3 2, .goto 4, .iload 2, .ldc 2, .iload 1, .ishl, .ldc 2, .isub, .if_icmp .ne 27, .ldc 2, .goto 28, .ldc 1, .ireturn]
def pr_X_digits : List Instr := [.ldc 1, .istore 2, .ldc 1, .istore 3, .iload 3, .iload 1, .if_icmp .ge 18, .iload 2, .ldc 27, .imul, .iload 0, .iload 3, .iload 1, .invokestatic 40, .iadd, .istore 2, .iinc 3 2, .goto 4, .iload 2, .ireturn]
def pr_X_commonDivisor : List Instr := [.iload 1, .istore 2, .iload 2, .ldc 2, .if_icmp .le 17, .iload 0, .iload 2, .irem, .ifCond .ne 15, .iload 1, .iload 2, .irem, .ifCond .ne 15, .iload 2, .ireturn, .iinc 2 0, .goto 2, .ldc 2, .ireturn]
def pr_X_refusalToJudge : List Instr := [.iload 1, .ldc 4, .invokestatic 35, .ifCond .ne 6, .ldc 12, .ireturn, .aload 0, .getfield 520, .getfield 256, .iload 1, .iaload, .ldc 0, .if_icmp .ne 15, .ldc 24, .ireturn, .aload 0, .getfield 520, .getfield 257, .iload 1, .iaload, .aload 0, .getfield 514, .getfield 451, .if_icmp .ne 26, .ldc 1, .goto 27, .ldc 12, .ireturn]
def pr_M_in : List Instr := [.lload 0, .lload 2, .lcmp, .ifCond .lt 10, .lload 0, .lload 4, .lcmp, .ifCond .gt 10, .ldc 2, .goto 11, .ldc 1, .ireturn]
def pr_M_within : List Instr := [.iload 0, .iload 1, .if_icmp .ge 5, .iload 1, .goto 11, .iload 0, .iload 2, .if_icmp .le 10, .iload 2, .goto 11, .iload 0, .ireturn]
def pr_M_spell : List Instr := [.aload 0, .getfield 577, .iload 1, .iload 2, .iastore, .aload 0, .getfield 577, .iload 1, .ldc 2, .iadd, .iload 3, .iastore, .aload 0, .getfield 577, .iload 1, .ldc 3, .iadd, .iload 4, .iastore, .aload 0, .getfield 577, .iload 1, .ldc 4, .iadd, .iload 5, .iastore, .aload 0, .getfield 577, .iload 1, .ldc 5, .iadd, .iload 6, .iastore, .aload 0, .getfield 577, .iload 1, .ldc 6, .iadd, .iload 7, .iastore, .aload 0, .getfield 577, .iload 1, .ldc 13, .iadd, .iload 8, .iastore, .aload 0, .getfield 577, .iload 1, .ldc 14, .iadd, .iload 9, .iastore, .return_]
def pr_M_isWordNumber : List Instr := [.iload 1, .i2l, .ldc2_w 1, .aload 0, .getfield 586, .ldc 2, .isub, .i2l, .invokestatic 45, .ireturn]
def pr_M_isWriter : List Instr := [.iload 1, .i2l, .ldc2_w 1, .aload 0, .getfield 590, .ldc 2, .isub, .i2l, .invokestatic 45, .ireturn]
def pr_M_isLaw : List Instr := [.iload 1, .i2l, .ldc2_w 1, .aload 0, .getfield 593, .ldc 2, .isub, .i2l, .invokestatic 45, .ireturn]
def pr_M_isOf : List Instr := [.iload 1, .ifCond .ne 8, .iload 2, .i2l, .ldc2_w 1, .ldc2_w 2, .invokestatic 45, .goto 25, .iload 1, .ldc 5, .if_icmp .ge 15, .aload 0, .iload 2, .invokevirtual 49, .goto 25, .iload 1, .ldc 13, .if_icmp .ge 22, .aload 0, .iload 2, .invokevirtual 50, .goto 25, .aload 0, .iload 2, .invokevirtual 48, .ireturn]
def pr_M_set : List Instr := [.iload 1, .i2l, .ldc2_w 1, .ldc2_w 3, .invokestatic 45, .ifCond .eq 36, .aload 0, .iload 1, .iload 2, .invokevirtual 51, .ifCond .eq 36, .iload 3, .i2l, .ldc2_w 1, .iload 1, .ifCond .ne 18, .ldc2_w 4, .goto 34, .iload 1, .ldc 2, .if_icmp .ne 23, .ldc2_w 5, .goto 34, .iload 1, .ldc 3, .if_icmp .ne 28, .ldc2_w 6, .goto 34, .iload 1, .ldc 4, .if_icmp .ne 33, .ldc2_w 7, .goto 34, .ldc2_w 8, .invokestatic 45, .ifCond .ne 38, .ldc 12, .ireturn, .aload 0, .iload 2, .iload 1, .invokevirtual 54, .istore 4, .iload 1, .ifCond .ne 51, .aload 0, .getfield 583, .iload 2, .iload 3, .iastore, .goto 83, .iload 1, .ldc 2, .if_icmp .ne 60, .aload 0, .getfield 587, .iload 2, .iload 3, .iastore, .goto 83, .iload 1, .ldc 3, .if_icmp .ne 69, .aload 0, .getfield 588, .iload 2, .iload 3, .iastore, .goto 83, .iload 1, .ldc 4, .if_icmp .ne 78, .aload 0, .getfield 589, .iload 2, .iload 3, .iastore, .goto 83, .aload 0, .getfield 592, .iload 2, .iload 3, .iastore, .iload 4, .ireturn]
def pr_M_sizeOf : List Instr := [.ldc 1, .istore 1, .iload 0, .istore 2, .iload 2, .ifCond .le 12, .iinc 1 2, .iload 2, .ldc 27, .idiv, .istore 2, .goto 4, .iload 1, .ireturn]
def pr_M_told : List Instr := [.iload 2, .i2l, .ldc2_w 1, .ldc2_w 2, .invokestatic 45, .ifCond .eq 11, .aload 0, .iload 2, .iload 1, .invokevirtual 51, .ifCond .ne 13, .ldc 12, .ireturn, .iload 2, .ldc 5, .if_icmp .ge 44, .iload 2, .ifCond .ne 23, .aload 0, .getfield 583, .iload 1, .iaload, .goto 43, .iload 2, .ldc 2, .if_icmp .ne 31, .aload 0, .getfield 587, .iload 1, .iaload, .goto 43, .iload 2, .ldc 3, .if_icmp .ne 39, .aload 0, .getfield 588, .iload 1, .iaload, .goto 43, .aload 0, .getfield 589, .iload 1, .iaload, .ireturn, .iload 2, .ldc 13, .if_icmp .ge 60, .iload 2, .ldc 5, .if_icmp .ne 55, .aload 0, .getfield 592, .iload 1, .iaload, .goto 59, .aload 0, .getfield 591, .iload 1, .iaload, .ireturn, .iload 2, .ldc 13, .if_icmp .ne 68, .aload 0, .getfield 584, .iload 1, .iaload, .goto 73, .aload 0, .getfield 585, .iload 1, .iaload, .invokestatic 53, .ireturn]
def pr_M_word : List Instr := [.iload 1, .i2l, .ldc2_w 1, .ldc2_w 5, .invokestatic 45, .ifCond .eq 12, .iload 2, .i2l, .ldc2_w 9, .ldc2_w 10, .invokestatic 45, .ifCond .ne 14, .ldc 12, .ireturn, .iload 2, .istore 3, .iload 3, .ifCond .le 33, .iload 3, .ldc 27, .irem, .i2l, .ldc2_w 9, .ldc2_w 11, .invokestatic 45, .ifCond .ne 28, .ldc 12, .ireturn, .iload 3, .ldc 27, .idiv, .istore 3, .goto 16, .aload 0, .getfield 586, .ldc 27, .if_icmp .ne 39, .ldc 16, .ireturn, .aload 0, .getfield 584, .aload 0, .getfield 586, .iload 1, .iastore, .aload 0, .getfield 585, .aload 0, .getfield 586, .iload 2, .iastore, .aload 0, .dup, .getfield 586, .ldc 2, .iadd, .putfield 586, .aload 0, .getfield 586, .ldc 2, .isub, .ireturn]
def pr_M_writer : List Instr := [.iload 1, .i2l, .ldc2_w 1, .ldc2_w 5, .invokestatic 45, .ifCond .eq 18, .iload 2, .i2l, .ldc2_w 1, .ldc2_w 6, .invokestatic 45, .ifCond .eq 18, .iload 3, .i2l, .ldc2_w 1, .ldc2_w 7, .invokestatic 45, .ifCond .ne 20, .ldc 12, .ireturn, .aload 0, .getfield 590, .ldc 6, .if_icmp .ne 26, .ldc 16, .ireturn, .aload 0, .getfield 587, .aload 0, .getfield 590, .iload 1, .iastore, .aload 0, .getfield 588, .aload 0, .getfield 590, .iload 2, .iastore, .aload 0, .getfield 589, .aload 0, .getfield 590, .iload 3, .iastore, .aload 0, .dup, .getfield 590, .ldc 2, .iadd, .putfield 590, .aload 0, .getfield 590, .ldc 2, .isub, .ireturn]
def pr_M_law : List Instr := [.iload 1, .i2l, .ldc2_w 1, .ldc2_w 12, .invokestatic 45, .ifCond .eq 12, .iload 2, .i2l, .ldc2_w 1, .ldc2_w 8, .invokestatic 45, .ifCond .ne 14, .ldc 12, .ireturn, .aload 0, .getfield 593, .ldc 13, .if_icmp .ne 20, .ldc 16, .ireturn, .aload 0, .getfield 591, .aload 0, .getfield 593, .iload 1, .iastore, .aload 0, .getfield 592, .aload 0, .getfield 593, .iload 2, .iastore, .aload 0, .dup, .getfield 593, .ldc 2, .iadd, .putfield 593, .aload 0, .getfield 593, .ldc 2, .isub, .ireturn]
def pr_M_rule : List Instr := [.aload 0, .iload 1, .invokevirtual 50, .ifCond .ne 6, .ldc 12, .ireturn, .aload 0, .getfield 594, .istore 2, .aload 0, .iload 1, .putfield 594, .iload 2, .ireturn]
def pr_M_steep : List Instr := [.iload 0, .iload 1, .iadd, .iload 0, .iload 1, .ldc 2, .iadd, .imul, .iadd, .ireturn]
def pr_M_costBy : List Instr := [.aload 0, .getfield 591, .aload 0, .getfield 594, .iaload, .istore 3, .aload 0, .getfield 592, .aload 0, .getfield 594, .iaload, .istore 4, .iload 3, .ifCond .ne 18, .iload 1, .iload 4, .iadd, .ireturn, .iload 3, .ldc 3, .if_icmp .eq 24, .iload 3, .ldc 5, .if_icmp .ne 38, .iload 3, .ldc 5, .if_icmp .ne 32, .iload 2, .ldc 13, .if_icmp .ge 32, .ldc 1, .goto 37, .iload 1, .iload 4, .iadd, .ldc 3, .idiv, .ireturn, .iload 3, .ldc 4, .if_icmp .ne 49, .iload 1, .iload 1, .ldc 4, .irem, .isub, .iload 4, .invokestatic 59, .goto 61, .iload 1, .iload 4, .invokestatic 59, .iload 3, .ldc 6, .if_icmp .ne 59, .iload 1, .ifCond .ne 59, .ldc 6, .goto 60, .ldc 1, .iadd, .ireturn]
def pr_M_agedBy : List Instr := [.aload 0, .getfield 591, .aload 0, .getfield 594, .iaload, .istore 2, .aload 0, .getfield 592, .aload 0, .getfield 594, .iaload, .istore 3, .iload 2, .ldc 3, .if_icmp .eq 18, .iload 2, .ldc 5, .if_icmp .ne 22, .iload 1, .iload 3, .isub, .goto 38, .iload 2, .ldc 4, .if_icmp .ne 29, .iload 1, .ldc 2, .isub, .goto 38, .iload 2, .ldc 6, .if_icmp .ne 37, .iload 1, .iload 3, .if_icmp .ge 37, .ldc 1, .goto 38, .iload 1, .istore 4, .iload 4, .ifCond .ge 43, .ldc 1, .goto 44, .iload 4, .ireturn]
def pr_M_feed : List Instr := [.iload 1, .i2l, .ldc2_w 1, .ldc2_w 13, .invokestatic 45, .ifCond .ne 8, .ldc 12, .ireturn, .aload 0, .getfield 582, .ldc 28, .if_icmp .ne 14, .ldc 16, .ireturn, .aload 0, .getfield 581, .aload 0, .getfield 582, .iload 1, .iastore, .aload 0, .dup, .getfield 582, .ldc 2, .iadd, .putfield 582, .aload 0, .getfield 582, .ireturn]
def pr_M_byteAt : List Instr := [.iload 1, .aload 0, .getfield 602, .if_icmp .ge 12, .aload 0, .getfield 577, .aload 0, .getfield 601, .iload 1, .iadd, .iaload, .goto 13, .ldc 0, .ireturn]
def pr_M_next : List Instr := [.aload 0, .aload 0, .getfield 603, .invokevirtual 63, .ldc 29, .if_icmp .eq 12, .aload 0, .aload 0, .getfield 603, .invokevirtual 63, .ldc 27, .if_icmp .ne 19, .aload 0, .dup, .getfield 603, .ldc 2, .iadd, .putfield 603, .goto 0, .aload 0, .aload 0, .getfield 603, .putfield 605, .aload 0, .aload 0, .getfield 603, .invokevirtual 63, .istore 1, .aload 0, .ldc 5, .putfield 604, .iload 1, .ifCond .ge 41, .aload 0, .ldc 1, .putfield 604, .aload 0, .aload 0, .getfield 602, .putfield 605, .goto 163, .iload 1, .i2l, .ldc2_w 14, .ldc2_w 15, .invokestatic 45, .ifCond .eq 66, .aload 0, .ldc 2, .putfield 604, .aload 0, .aload 0, .getfield 603, .invokevirtual 63, .i2l, .ldc2_w 14, .ldc2_w 15, .invokestatic 45, .ifCond .eq 163, .aload 0, .dup, .getfield 603, .ldc 2, .iadd, .putfield 603, .goto 50, .iload 1, .i2l, .ldc2_w 16, .ldc2_w 17, .invokestatic 45, .ifCond .eq 126, .aload 0, .ldc 3, .putfield 604, .aload 0, .ldc2_w 1, .putfield 606, .ldc 1, .istore 2, .aload 0, .aload 0, .getfield 603, .invokevirtual 63, .i2l, .ldc2_w 16, .ldc2_w 17, .invokestatic 45, .ifCond .eq 117, .aload 0, .iload 2, .ldc 5, .if_icmp .ge 106, .ldc2_w 18, .aload 0, .getfield 606, .lmul, .aload 0, .aload 0, .getfield 603, .invokevirtual 63, .i2l, .ladd, .ldc2_w 16, .lsub, .goto 108, .aload 0, .getfield 606, .putfield 606, .iinc 2 2, .aload 0, .dup, .getfield 603, .ldc 2, .iadd, .putfield 603, .goto 80, .aload 0, .iload 2, .ldc 5, .if_icmp .le 123, .ldc 5, .goto 124, .ldc 3, .putfield 604, .goto 163, .iload 1, .ldc 22, .if_icmp .eq 150, .iload 1, .ldc 30, .if_icmp .eq 150, .iload 1, .ldc 31, .if_icmp .eq 150, .iload 1, .ldc 32, .if_icmp .eq 150, .iload 1, .ldc 33, .if_icmp .eq 150, .iload 1, .ldc 34, .if_icmp .eq 150, .iload 1, .ldc 35, .if_icmp .eq 150, .iload 1, .ldc 36, .if_icmp .ne 163, .aload 0, .ldc 4, .putfield 604, .aload 0, .iload 1, .i2l, .putfield 606, .aload 0, .dup, .getfield 603, .ldc 2, .iadd, .putfield 603, .return_]
def pr_M_fail : List Instr := [.aload 0, .getfield 608, .ifCond .ne 10, .aload 0, .ldc 2, .putfield 608, .aload 0, .aload 0, .getfield 605, .putfield 609, .return_]
def pr_M_isLetter : List Instr := [.aload 0, .getfield 605, .iload 1, .iadd, .aload 0, .getfield 603, .if_icmp .ge 19, .aload 0, .aload 0, .getfield 605, .iload 1, .iadd, .invokevirtual 63, .iload 2, .if_icmp .ne 17, .ldc 2, .goto 24, .ldc 1, .goto 24, .iload 2, .ifCond .ne 23, .ldc 2, .goto 24, .ldc 1, .ireturn]
def pr_M_isWord : List Instr := [.aload 0, .getfield 608, .ifCond .ne 56, .aload 0, .getfield 604, .ldc 2, .if_icmp .ne 56, .aload 0, .getfield 603, .aload 0, .getfield 605, .ldc 7, .iadd, .if_icmp .gt 56, .aload 0, .ldc 1, .iload 1, .invokevirtual 66, .ifCond .eq 56, .aload 0, .ldc 2, .iload 2, .invokevirtual 66, .ifCond .eq 56, .aload 0, .ldc 3, .iload 3, .invokevirtual 66, .ifCond .eq 56, .aload 0, .ldc 4, .iload 4, .invokevirtual 66, .ifCond .eq 56, .aload 0, .ldc 5, .iload 5, .invokevirtual 66, .ifCond .eq 56, .aload 0, .ldc 6, .iload 6, .invokevirtual 66, .ifCond .eq 56, .aload 0, .ldc 13, .iload 7, .invokevirtual 66, .ifCond .eq 56, .aload 0, .ldc 14, .iload 8, .invokevirtual 66, .ifCond .eq 56, .ldc 2, .goto 57, .ldc 1, .ireturn]
def pr_M_isSign : List Instr := [.aload 0, .getfield 608, .ifCond .ne 15, .aload 0, .getfield 604, .ldc 4, .if_icmp .ne 15, .aload 0, .getfield 606, .iload 1, .i2l, .lcmp, .ifCond .ne 15, .ldc 2, .goto 16, .ldc 1, .ireturn]
def pr_M_opens : List Instr := [.aload 0, .getfield 607, .ldc 6, .if_icmp .ne 8, .aload 0, .invokevirtual 65, .ldc 1, .ireturn, .aload 0, .dup, .getfield 607, .ldc 2, .iadd, .putfield 607, .aload 0, .invokevirtual 64, .ldc 2, .ireturn]
def pr_M_name : List Instr := [.aload 0, .ldc 37, .ldc 38, .ldc 39, .ldc 40, .ldc 1, .ldc 1, .ldc 1, .ldc 1, .invokevirtual 67, .ifCond .eq 14, .aload 0, .getfield 595, .ireturn, .aload 0, .ldc 41, .ldc 42, .ldc 37, .ldc 43, .ldc 1, .ldc 1, .ldc 1, .ldc 1, .invokevirtual 67, .ifCond .eq 28, .aload 0, .getfield 596, .ireturn, .aload 0, .ldc 44, .ldc 39, .ldc 45, .ldc 45, .ldc 39, .ldc 43, .ldc 1, .ldc 1, .invokevirtual 67, .ifCond .eq 42, .aload 0, .getfield 597, .ireturn, .aload 0, .ldc 44, .ldc 39, .ldc 46, .ldc 47, .ldc 45, .ldc 41, .ldc 1, .ldc 1, .invokevirtual 67, .ifCond .eq 56, .aload 0, .getfield 598, .ireturn, .aload 0, .ldc 48, .ldc 37, .ldc 43, .ldc 38, .ldc 39, .ldc 1, .ldc 1, .ldc 1, .invokevirtual 67, .ifCond .eq 70, .aload 0, .getfield 599, .ireturn, .aload 0, .ldc 49, .ldc 50, .ldc 46, .ldc 51, .ldc 1, .ldc 1, .ldc 1, .ldc 1, .invokevirtual 67, .ifCond .eq 84, .aload 0, .getfield 600, .ireturn, .aload 0, .invokevirtual 65, .ldc 1, .ireturn]
def pr_M_atom : List Instr := [.ldc 1, .istore 1, .aload 0, .ldc 33, .invokevirtual 68, .ifCond .eq 20, .aload 0, .invokevirtual 69, .ifCond .eq 80, .aload 0, .invokevirtual 71, .ineg, .istore 1, .aload 0, .dup, .getfield 607, .ldc 2, .isub, .putfield 607, .goto 80, .aload 0, .ldc 22, .invokevirtual 68, .ifCond .eq 48, .aload 0, .invokevirtual 69, .ifCond .eq 80, .aload 0, .invokevirtual 76, .istore 1, .aload 0, .ldc 30, .invokevirtual 68, .ifCond .ne 36, .aload 0, .invokevirtual 65, .aload 0, .dup, .getfield 607, .ldc 2, .isub, .putfield 607, .aload 0, .getfield 608, .ifCond .ne 80, .aload 0, .invokevirtual 64, .goto 80, .aload 0, .getfield 608, .ifCond .ne 62, .aload 0, .getfield 604, .ldc 3, .if_icmp .ne 62, .aload 0, .getfield 606, .l2i, .istore 1, .aload 0, .invokevirtual 64, .goto 80, .aload 0, .getfield 608, .ifCond .ne 78, .aload 0, .getfield 604, .ldc 2, .if_icmp .ne 78, .aload 0, .invokevirtual 70, .istore 1, .aload 0, .getfield 608, .ifCond .ne 80, .aload 0, .invokevirtual 64, .goto 80, .aload 0, .invokevirtual 65, .iload 1, .ireturn]
def pr_M_term : List Instr := [.aload 0, .invokevirtual 71, .istore 1, .aload 0, .ldc 34, .invokevirtual 68, .ifCond .eq 15, .aload 0, .invokevirtual 64, .iload 1, .aload 0, .invokevirtual 71, .imul, .istore 1, .goto 3, .iload 1, .ireturn]
def pr_M_added : List Instr := [.aload 0, .invokevirtual 72, .istore 1, .aload 0, .ldc 32, .invokevirtual 68, .ifCond .ne 11, .aload 0, .ldc 33, .invokevirtual 68, .ifCond .eq 36, .aload 0, .getfield 606, .ldc2_w 19, .lcmp, .ifCond .ne 18, .ldc 2, .goto 19, .ldc 1, .istore 2, .aload 0, .invokevirtual 64, .aload 0, .invokevirtual 72, .istore 3, .iload 2, .ifCond .eq 31, .iload 1, .iload 3, .iadd, .goto 34, .iload 1, .iload 3, .isub, .istore 1, .goto 3, .iload 1, .ireturn]
def pr_M_not : List Instr := [.aload 0, .ldc 46, .ldc 42, .ldc 45, .ldc 1, .ldc 1, .ldc 1, .ldc 1, .ldc 1, .invokevirtual 67, .ifCond .eq 31, .aload 0, .invokevirtual 69, .ifCond .ne 16, .ldc 1, .ireturn, .aload 0, .invokevirtual 74, .istore 1, .aload 0, .dup, .getfield 607, .ldc 2, .isub, .putfield 607, .iload 1, .ifCond .ne 29, .ldc 2, .goto 30, .ldc 1, .ireturn, .aload 0, .invokevirtual 73, .istore 1, .aload 0, .ldc 35, .invokevirtual 68, .ifCond .ne 44, .aload 0, .ldc 36, .invokevirtual 68, .ifCond .ne 44, .iload 1, .ireturn, .aload 0, .getfield 606, .ldc2_w 20, .lcmp, .ifCond .ne 51, .ldc 2, .goto 52, .ldc 1, .istore 2, .aload 0, .invokevirtual 64, .aload 0, .invokevirtual 73, .istore 3, .iload 2, .ifCond .eq 64, .iload 1, .iload 3, .if_icmp .ge 69, .goto 67, .iload 1, .iload 3, .if_icmp .ne 69, .ldc 2, .goto 70, .ldc 1, .ireturn]
def pr_M_both : List Instr := [.aload 0, .invokevirtual 74, .istore 1, .aload 0, .ldc 50, .ldc 46, .ldc 40, .ldc 1, .ldc 1, .ldc 1, .ldc 1, .ldc 1, .invokevirtual 67, .ifCond .eq 28, .aload 0, .invokevirtual 64, .aload 0, .invokevirtual 74, .istore 2, .iload 1, .ifCond .eq 25, .iload 2, .ifCond .eq 25, .ldc 2, .goto 26, .ldc 1, .istore 1, .goto 3, .iload 1, .ireturn]
def pr_M_either : List Instr := [.aload 0, .invokevirtual 75, .istore 1, .aload 0, .ldc 42, .ldc 43, .ldc 1, .ldc 1, .ldc 1, .ldc 1, .ldc 1, .ldc 1, .invokevirtual 67, .ifCond .eq 28, .aload 0, .invokevirtual 64, .aload 0, .invokevirtual 75, .istore 2, .iload 1, .ifCond .ne 23, .iload 2, .ifCond .eq 25, .ldc 2, .goto 26, .ldc 1, .istore 1, .goto 3, .iload 1, .ireturn]
def pr_M_part : List Instr := [.iload 1, .ifCond .ne 4, .aload 0, .invokevirtual 65, .aload 0, .getfield 608, .ifCond .ne 9, .aload 0, .invokevirtual 64, .aload 0, .getfield 608, .ifCond .eq 14, .ldc 1, .goto 16, .aload 0, .invokevirtual 76, .istore 2, .aload 0, .ldc 31, .invokevirtual 68, .ifCond .ne 23, .aload 0, .invokevirtual 65, .aload 0, .getfield 608, .ifCond .ne 28, .aload 0, .invokevirtual 64, .iload 2, .ireturn]
def pr_M_read : List Instr := [.aload 0, .ldc 28, .iload 1, .imul, .putfield 601, .aload 0, .aload 0, .getfield 578, .iload 1, .iaload, .putfield 602, .aload 0, .ldc 1, .putfield 603, .aload 0, .ldc 1, .putfield 607, .aload 0, .ldc 1, .putfield 608, .aload 0, .invokevirtual 64, .aload 0, .aload 0, .ldc 50, .ldc 40, .ldc 40, .ldc 38, .ldc 1, .ldc 1, .ldc 1, .ldc 1, .invokevirtual 67, .invokevirtual 77, .istore 3, .aload 0, .getfield 608, .ifCond .eq 40, .ldc 1, .goto 52, .aload 0, .aload 0, .ldc 52, .ldc 42, .ldc 43, .ldc 45, .ldc 41, .ldc 1, .ldc 1, .ldc 1, .invokevirtual 67, .invokevirtual 77, .istore 4, .aload 0, .getfield 608, .ifCond .eq 58, .ldc 1, .goto 70, .aload 0, .aload 0, .ldc 49, .ldc 50, .ldc 51, .ldc 1, .ldc 1, .ldc 1, .ldc 1, .ldc 1, .invokevirtual 67, .invokevirtual 77, .istore 5, .aload 0, .getfield 608, .ifCond .ne 79, .aload 0, .getfield 604, .ifCond .eq 79, .aload 0, .invokevirtual 65, .iload 2, .ifCond .ne 83, .iload 3, .goto 89, .iload 2, .ldc 2, .if_icmp .ne 88, .iload 4, .goto 89, .iload 5, .ireturn]
def pr_M_text : List Instr := [.aload 0, .getfield 579, .ldc 13, .if_icmp .ne 6, .ldc 16, .ireturn, .ldc 1, .istore 1, .iload 1, .aload 0, .getfield 582, .if_icmp .ge 27, .aload 0, .getfield 577, .ldc 28, .aload 0, .getfield 579, .imul, .iload 1, .iadd, .aload 0, .getfield 581, .iload 1, .iaload, .iastore, .iinc 1 2, .goto 8, .aload 0, .getfield 578, .aload 0, .getfield 579, .aload 0, .getfield 582, .iastore, .aload 0, .ldc 1, .putfield 582, .aload 0, .aload 0, .getfield 579, .ldc 1, .invokevirtual 78, .istore 1, .aload 0, .getfield 608, .ifCond .eq 51, .ldc 17, .aload 0, .getfield 609, .isub, .ireturn, .aload 0, .dup, .getfield 579, .ldc 2, .iadd, .putfield 579, .aload 0, .getfield 579, .ldc 2, .isub, .ireturn]
def pr_M_force : List Instr := [.iload 1, .i2l, .ldc2_w 1, .aload 0, .getfield 579, .ldc 2, .isub, .i2l, .invokestatic 45, .ifCond .ne 12, .ldc 12, .ireturn, .aload 0, .getfield 580, .istore 2, .aload 0, .iload 1, .putfield 580, .iload 2, .ireturn]
def pr_M_adds : List Instr := [.aload 0, .iload 1, .putfield 595, .aload 0, .iload 2, .putfield 596, .aload 0, .iload 3, .putfield 597, .aload 0, .ldc 1, .putfield 598, .aload 0, .ldc 1, .putfield 599, .aload 0, .ldc 1, .putfield 600, .aload 0, .ldc 1, .invokevirtual 83, .ldc 1, .ldc 53, .invokestatic 46, .ireturn]
def pr_M_says : List Instr := [.aload 0, .ldc 1, .putfield 595, .aload 0, .aload 0, .getfield 588, .iload 2, .iaload, .putfield 596, .aload 0, .ldc 1, .putfield 597, .aload 0, .aload 0, .getfield 585, .iload 3, .iaload, .invokestatic 53, .putfield 598, .aload 0, .aload 0, .getfield 589, .iload 2, .iaload, .putfield 599, .aload 0, .aload 0, .getfield 590, .putfield 600, .aload 0, .iload 1, .invokevirtual 83, .ireturn]
def pr_M_keptRead : List Instr := [.aload 0, .getfield 580, .i2l, .ldc2_w 5, .lmul, .iload 1, .i2l, .ladd, .lstore 2, .lload 2, .ldc2_w 21, .lmul, .aload 0, .getfield 595, .i2l, .ladd, .lstore 2, .lload 2, .ldc2_w 22, .lmul, .aload 0, .getfield 596, .i2l, .ladd, .lstore 2, .lload 2, .ldc2_w 23, .lmul, .aload 0, .getfield 597, .i2l, .ladd, .lstore 2, .lload 2, .ldc2_w 24, .lmul, .aload 0, .getfield 598, .i2l, .ladd, .lstore 2, .lload 2, .ldc2_w 25, .lmul, .aload 0, .getfield 599, .i2l, .ladd, .lstore 2, .lload 2, .ldc2_w 23, .lmul, .aload 0, .getfield 600, .i2l, .ladd, .ldc2_w 9, .ladd, .lstore 2, .lload 2, .ldc2_w 26, .lmul, .ldc 54, .lushr, .l2i, .istore 4, .aload 0, .getfield 610, .iload 4, .laload, .lload 2, .lcmp, .ifCond .eq 87, .aload 0, .getfield 611, .iload 4, .aload 0, .aload 0, .getfield 580, .iload 1, .invokevirtual 78, .iastore, .aload 0, .getfield 610, .iload 4, .lload 2, .lastore, .aload 0, .getfield 611, .iload 4, .iaload, .ireturn]
def pr_M_takes : List Instr := [.ldc 1, .istore 1, .iload 1, .ldc 7, .if_icmp .ge 15, .aload 0, .getfield 612, .iload 1, .aload 0, .getfield 583, .iload 1, .iaload, .iastore, .iinc 1 2, .goto 2, .return_]
def pr_M_writes : List Instr := [.ldc 2, .istore 3, .ldc 2, .istore 4, .iload 4, .aload 0, .getfield 585, .iload 1, .iaload, .invokestatic 53, .if_icmp .ge 17, .iload 3, .ldc 27, .imul, .istore 3, .iinc 4 2, .goto 4, .ldc 1, .istore 4, .iload 3, .istore 5, .iload 5, .ifCond .le 76, .aload 0, .getfield 585, .iload 1, .iaload, .iload 5, .idiv, .ldc 27, .irem, .ldc 2, .isub, .istore 6, .iload 4, .aload 0, .aload 0, .getfield 612, .iload 6, .iaload, .iload 2, .invokevirtual 60, .aload 0, .aload 0, .getfield 612, .iload 6, .iaload, .iload 2, .iload 6, .invokevirtual 81, .iadd, .iadd, .istore 4, .aload 0, .getfield 612, .iload 6, .aload 0, .getfield 612, .iload 6, .iaload, .ldc 8, .if_icmp .ge 69, .aload 0, .getfield 612, .iload 6, .iaload, .ldc 2, .iadd, .goto 70, .ldc 8, .iastore, .iload 5, .ldc 27, .idiv, .istore 5, .goto 21, .iload 4, .ireturn]
def pr_M_costOf : List Instr := [.ldc 1, .istore 3, .iload 3, .ldc 7, .if_icmp .ge 15, .aload 0, .getfield 613, .iload 3, .aload 0, .getfield 612, .iload 3, .iaload, .iastore, .iinc 3 2, .goto 2, .aload 0, .iload 1, .iload 2, .invokevirtual 85, .istore 3, .ldc 1, .istore 4, .iload 4, .ldc 7, .if_icmp .ge 35, .aload 0, .getfield 612, .iload 4, .aload 0, .getfield 613, .iload 4, .iaload, .iastore, .iinc 4 2, .goto 22, .iload 3, .ireturn]
def pr_M_ages : List Instr := [.ldc 1, .istore 1, .iload 1, .ldc 7, .if_icmp .ge 17, .aload 0, .getfield 612, .iload 1, .aload 0, .aload 0, .getfield 612, .iload 1, .iaload, .invokevirtual 61, .iastore, .iinc 1 2, .goto 2, .return_]
def pr_M_rowSum : List Instr := [.ldc 1, .istore 1, .ldc 1, .istore 2, .iload 2, .ldc 7, .if_icmp .ge 16, .iload 1, .aload 0, .getfield 612, .iload 2, .iaload, .iadd, .istore 1, .iinc 2 2, .goto 4, .iload 1, .ireturn]
def pr_M_keeps : List Instr := [.ldc 1, .istore 1, .iload 1, .ldc 7, .if_icmp .ge 15, .aload 0, .getfield 583, .iload 1, .aload 0, .getfield 612, .iload 1, .iaload, .iastore, .iinc 1 2, .goto 2, .return_]
def pr_M_costs : List Instr := [.aload 0, .iload 1, .invokevirtual 48, .ifCond .eq 10, .iload 2, .i2l, .ldc2_w 1, .ldc2_w 6, .invokestatic 45, .ifCond .ne 12, .ldc 12, .ireturn, .aload 0, .invokevirtual 84, .aload 0, .iload 1, .iload 2, .invokevirtual 85, .ireturn]
def pr_M_write : List Instr := [.aload 0, .iload 1, .invokevirtual 48, .ifCond .eq 10, .iload 2, .i2l, .ldc2_w 1, .ldc2_w 6, .invokestatic 45, .ifCond .ne 12, .ldc 12, .ireturn, .aload 0, .invokevirtual 84, .aload 0, .iload 1, .iload 2, .invokevirtual 85, .istore 3, .aload 0, .invokevirtual 89, .iload 3, .ireturn]
def pr_M_pass : List Instr := [.iload 1, .i2l, .ldc2_w 1, .ldc2_w 27, .invokestatic 45, .ifCond .ne 8, .ldc 12, .ireturn, .aload 0, .invokevirtual 84, .ldc 1, .istore 2, .iload 2, .iload 1, .if_icmp .ge 19, .aload 0, .invokevirtual 87, .iinc 2 2, .goto 12, .aload 0, .invokevirtual 89, .aload 0, .invokevirtual 88, .ireturn]
def pr_M_cheapest : List Instr := [.iload 1, .i2l, .ldc2_w 1, .ldc2_w 5, .invokestatic 45, .ifCond .eq 18, .iload 2, .i2l, .ldc2_w 1, .ldc2_w 6, .invokestatic 45, .ifCond .eq 18, .iload 3, .i2l, .ldc2_w 1, .ldc2_w 9, .invokestatic 45, .ifCond .ne 20, .ldc 12, .ireturn, .aload 0, .invokevirtual 84, .ldc 0, .istore 4, .ldc 1, .istore 5, .ldc 1, .istore 6, .iload 6, .aload 0, .getfield 586, .if_icmp .ge 55, .aload 0, .getfield 584, .iload 6, .iaload, .iload 1, .if_icmp .ne 53, .aload 0, .iload 6, .iload 2, .invokevirtual 86, .istore 7, .iload 4, .ldc 0, .if_icmp .eq 49, .iload 7, .iload 5, .if_icmp .ge 53, .iload 6, .istore 4, .iload 7, .istore 5, .iinc 6 2, .goto 28, .iload 4, .ldc 0, .if_icmp .eq 60, .iload 3, .ifCond .ne 62, .iload 4, .goto 63, .iload 5, .ireturn]
def pr_M_turnOf : List Instr := [.aload 0, .getfield 614, .iload 1, .ldc 0, .iastore, .aload 0, .getfield 615, .iload 1, .ldc 1, .iastore, .ldc 1, .istore 2, .iload 2, .aload 0, .getfield 586, .if_icmp .ge 85, .aload 0, .getfield 584, .iload 2, .iaload, .aload 0, .getfield 587, .iload 1, .iaload, .if_icmp .ne 83, .aload 0, .iload 2, .aload 0, .getfield 588, .iload 1, .iaload, .invokevirtual 86, .istore 3, .iload 1, .aload 0, .getfield 616, .if_icmp .ne 49, .iload 3, .aload 0, .getfield 617, .if_icmp .ne 49, .aload 0, .dup, .getfield 618, .ldc 2, .iload 2, .ishl, .ior, .putfield 618, .iload 3, .aload 0, .getfield 589, .iload 1, .iaload, .if_icmp .gt 83, .aload 0, .getfield 614, .iload 1, .iaload, .ldc 0, .if_icmp .eq 67, .iload 3, .aload 0, .getfield 615, .iload 1, .iaload, .if_icmp .ge 83, .aload 0, .ldc 3, .iload 1, .iload 2, .invokevirtual 82, .ifCond .eq 83, .aload 0, .getfield 614, .iload 1, .iload 2, .iastore, .aload 0, .getfield 615, .iload 1, .iload 3, .iastore, .iinc 2 2, .goto 12, .aload 0, .getfield 614, .iload 1, .iaload, .ldc 0, .if_icmp .eq 102, .aload 0, .aload 0, .getfield 614, .iload 1, .iaload, .aload 0, .getfield 588, .iload 1, .iaload, .invokevirtual 85, .pop, .return_]
def pr_M_passesDay : List Instr := [.ldc 1, .istore 1, .iload 1, .ldc 18, .if_icmp .ge 26, .ldc 1, .istore 2, .iload 2, .aload 0, .getfield 590, .if_icmp .ge 22, .aload 0, .getfield 588, .iload 2, .iaload, .iload 1, .if_icmp .ne 20, .aload 0, .iload 2, .invokevirtual 94, .iinc 2 2, .goto 7, .aload 0, .invokevirtual 87, .iinc 1 2, .goto 2, .return_]
def pr_M_dayNow : List Instr := [.aload 0, .invokevirtual 84, .aload 0, .invokevirtual 95, .return_]
def pr_M_goodOf : List Instr := [.aload 0, .getfield 614, .iload 1, .iaload, .ldc 0, .if_icmp .ne 8, .ldc 1, .goto 24, .aload 0, .ldc 2, .iload 1, .aload 0, .getfield 614, .iload 1, .iaload, .invokevirtual 82, .ldc 1, .ldc 8, .invokestatic 46, .aload 0, .getfield 615, .iload 1, .iaload, .isub, .ireturn]
def pr_M_allGood : List Instr := [.ldc 1, .istore 1, .ldc 1, .istore 2, .iload 2, .aload 0, .getfield 590, .if_icmp .ge 16, .iload 1, .aload 0, .iload 2, .invokevirtual 97, .iadd, .istore 1, .iinc 2 2, .goto 4, .iload 1, .ireturn]
def pr_M_saying : List Instr := [.ldc 1, .istore 1, .ldc 1, .istore 2, .iload 2, .aload 0, .getfield 590, .if_icmp .ge 22, .iload 1, .aload 0, .getfield 614, .iload 2, .iaload, .ldc 0, .if_icmp .ne 17, .ldc 1, .goto 18, .ldc 2, .iadd, .istore 1, .iinc 2 2, .goto 4, .iload 1, .ireturn]
def pr_M_day : List Instr := [.aload 0, .iload 1, .invokevirtual 49, .ifCond .eq 10, .iload 2, .i2l, .ldc2_w 1, .ldc2_w 28, .invokestatic 45, .ifCond .ne 12, .ldc 19, .ireturn, .aload 0, .invokevirtual 96, .iload 2, .ifCond .ne 21, .aload 0, .getfield 615, .iload 1, .iaload, .goto 32, .iload 2, .ldc 2, .if_icmp .ne 29, .aload 0, .getfield 614, .iload 1, .iaload, .goto 32, .aload 0, .iload 1, .invokevirtual 97, .ireturn]
def pr_M_all : List Instr := [.iload 1, .i2l, .ldc2_w 1, .ldc2_w 5, .invokestatic 45, .ifCond .ne 8, .ldc 19, .ireturn, .aload 0, .invokevirtual 96, .iload 1, .ldc 3, .if_icmp .ge 21, .iload 1, .ifCond .ne 18, .aload 0, .invokevirtual 98, .goto 20, .aload 0, .invokevirtual 99, .ireturn, .iload 1, .ldc 4, .if_icmp .ne 43, .ldc 1, .istore 2, .ldc 1, .istore 3, .iload 3, .aload 0, .getfield 590, .if_icmp .ge 41, .iload 2, .aload 0, .getfield 615, .iload 3, .iaload, .iadd, .istore 2, .iinc 3 2, .goto 28, .iload 2, .ireturn, .aload 0, .getfield 612, .ldc 1, .iaload, .istore 2, .aload 0, .getfield 612, .ldc 1, .iaload, .istore 3, .ldc 2, .istore 4, .iload 4, .ldc 7, .if_icmp .ge 86, .aload 0, .getfield 612, .iload 4, .iaload, .iload 2, .if_icmp .le 69, .aload 0, .getfield 612, .iload 4, .iaload, .goto 70, .iload 2, .istore 2, .aload 0, .getfield 612, .iload 4, .iaload, .iload 3, .if_icmp .ge 82, .aload 0, .getfield 612, .iload 4, .iaload, .goto 83, .iload 3, .istore 3, .iinc 4 2, .goto 55, .iload 2, .iload 3, .isub, .ireturn]
def pr_M_seeks : List Instr := [.aload 0, .getfield 588, .iload 1, .iaload, .istore 2, .ldc 1, .istore 3, .iload 3, .ldc 18, .if_icmp .ge 35, .aload 0, .getfield 588, .iload 1, .iload 3, .iastore, .aload 0, .invokevirtual 96, .aload 0, .iload 1, .invokevirtual 97, .istore 4, .iload 3, .ifCond .eq 27, .iload 4, .aload 0, .getfield 620, .if_icmp .le 33, .aload 0, .iload 3, .putfield 619, .aload 0, .iload 4, .putfield 620, .iinc 3 2, .goto 7, .aload 0, .getfield 588, .iload 1, .iload 2, .iastore, .return_]
def pr_M_when : List Instr := [.aload 0, .iload 1, .invokevirtual 49, .ifCond .eq 10, .iload 2, .i2l, .ldc2_w 1, .ldc2_w 9, .invokestatic 45, .ifCond .ne 12, .ldc 19, .ireturn, .aload 0, .iload 1, .invokevirtual 102, .iload 2, .ifCond .ne 20, .aload 0, .getfield 619, .goto 22, .aload 0, .getfield 620, .ireturn]
def pr_M_choose : List Instr := [.aload 0, .iload 1, .invokevirtual 49, .ifCond .ne 6, .ldc 19, .ireturn, .aload 0, .iload 1, .invokevirtual 102, .aload 0, .getfield 588, .iload 1, .aload 0, .getfield 619, .iastore, .aload 0, .getfield 620, .ireturn]
def pr_M_rest : List Instr := [.ldc 1, .istore 1, .iload 1, .aload 0, .getfield 590, .if_icmp .ge 23, .aload 0, .invokevirtual 96, .aload 0, .iload 1, .invokevirtual 97, .istore 2, .aload 0, .iload 1, .invokevirtual 102, .aload 0, .getfield 620, .iload 2, .if_icmp .le 21, .ldc 1, .ireturn, .iinc 1 2, .goto 2, .ldc 2, .ireturn]
def pr_M_orders : List Instr := [.iload 1, .iload 2, .if_icmp .ne 23, .aload 0, .invokevirtual 96, .aload 0, .invokevirtual 98, .istore 5, .aload 0, .getfield 623, .ldc 0, .if_icmp .eq 16, .iload 5, .aload 0, .getfield 622, .if_icmp .le 22, .aload 0, .iload 5, .putfield 622, .aload 0, .iload 4, .putfield 623, .return_, .ldc 1, .istore 5, .iload 5, .iload 2, .if_icmp .ge 60, .iload 3, .iload 5, .ishr, .ldc 2, .iand, .ifCond .ne 58, .aload 0, .getfield 588, .iload 1, .aload 0, .getfield 621, .iload 5, .iaload, .iastore, .aload 0, .iload 1, .ldc 2, .iadd, .iload 2, .iload 3, .ldc 2, .iload 5, .ishl, .ior, .ldc 27, .iload 4, .imul, .iload 5, .iadd, .invokevirtual 106, .iinc 5 2, .goto 25, .aload 0, .getfield 588, .iload 1, .aload 0, .getfield 621, .iload 1, .iaload, .iastore, .return_]
def pr_M_turns : List Instr := [.iload 1, .i2l, .ldc2_w 1, .ldc2_w 9, .invokestatic 45, .ifCond .ne 8, .ldc 19, .ireturn, .ldc 1, .istore 2, .iload 2, .ldc 6, .if_icmp .ge 23, .aload 0, .getfield 621, .iload 2, .aload 0, .getfield 588, .iload 2, .iaload, .iastore, .iinc 2 2, .goto 10, .aload 0, .ldc 0, .putfield 623, .aload 0, .ldc 1, .putfield 622, .aload 0, .ldc 1, .aload 0, .getfield 590, .ldc 5, .if_icmp .ge 38, .aload 0, .getfield 590, .goto 39, .ldc 5, .ldc 1, .ldc 1, .invokevirtual 106, .iload 1, .ifCond .ne 47, .aload 0, .getfield 622, .goto 49, .aload 0, .getfield 623, .ireturn]
def pr_M_burned : List Instr := [.aload 0, .invokevirtual 96, .aload 0, .invokevirtual 98, .istore 3, .aload 0, .invokevirtual 84, .aload 0, .getfield 612, .iload 1, .aload 0, .getfield 612, .iload 1, .iaload, .iload 2, .iadd, .ldc 8, .if_icmp .ge 25, .aload 0, .getfield 612, .iload 1, .iaload, .iload 2, .iadd, .goto 26, .ldc 8, .iastore, .aload 0, .invokevirtual 95, .iload 3, .aload 0, .invokevirtual 98, .isub, .ireturn]
def pr_M_burn : List Instr := [.iload 1, .i2l, .ldc2_w 1, .ldc2_w 2, .invokestatic 45, .ifCond .eq 17, .iload 2, .i2l, .ldc2_w 9, .ldc2_w 29, .invokestatic 45, .ifCond .eq 17, .aload 0, .iload 1, .iload 2, .invokevirtual 108, .goto 18, .ldc 19, .ireturn]
def pr_M_worst : List Instr := [.iload 1, .i2l, .ldc2_w 9, .ldc2_w 29, .invokestatic 45, .ifCond .eq 12, .iload 2, .i2l, .ldc2_w 1, .ldc2_w 9, .invokestatic 45, .ifCond .ne 14, .ldc 19, .ireturn, .ldc 1, .istore 3, .ldc 1, .istore 4, .ldc 1, .istore 5, .iload 5, .ldc 7, .if_icmp .ge 39, .aload 0, .iload 5, .iload 1, .invokevirtual 108, .istore 6, .iload 5, .ifCond .eq 33, .iload 6, .iload 4, .if_icmp .le 37, .iload 5, .istore 3, .iload 6, .istore 4, .iinc 5 2, .goto 20, .iload 2, .ifCond .ne 43, .iload 3, .goto 44, .iload 4, .ireturn]
def pr_M_best : List Instr := [.iload 1, .i2l, .ldc2_w 1, .ldc2_w 28, .invokestatic 45, .ifCond .ne 8, .ldc 19, .ireturn, .aload 0, .getfield 594, .istore 2, .ldc 0, .istore 3, .ldc 1, .istore 4, .ldc 1, .istore 5, .aload 0, .ldc 1, .putfield 594, .aload 0, .getfield 594, .aload 0, .getfield 593, .if_icmp .ge 59, .aload 0, .invokevirtual 96, .aload 0, .invokevirtual 99, .istore 6, .aload 0, .invokevirtual 98, .istore 7, .iload 3, .ldc 0, .if_icmp .eq 45, .iload 6, .iload 4, .if_icmp .gt 45, .iload 6, .iload 4, .if_icmp .ne 52, .iload 7, .iload 5, .if_icmp .le 52, .aload 0, .getfield 594, .istore 3, .iload 6, .istore 4, .iload 7, .istore 5, .aload 0, .dup, .getfield 594, .ldc 2, .iadd, .putfield 594, .goto 20, .aload 0, .iload 2, .putfield 594, .iload 1, .ifCond .ne 66, .iload 3, .goto 72, .iload 1, .ldc 2, .if_icmp .ne 71, .iload 4, .goto 72, .iload 5, .ireturn]
def pr_M_paidBad : List Instr := [.iload 1, .invokestatic 123, .ifCond .ne 5, .ldc 12, .ireturn, .aload 0, .getfield 632, .iload 1, .baload, .ifCond .ne 12, .ldc 24, .ireturn, .aload 0, .getfield 634, .iload 1, .iaload, .aload 0, .getfield 590, .if_icmp .ne 21, .ldc 1, .goto 22, .ldc 12, .ireturn]
def pr_M_unlike : List Instr := [.aload 0, .invokevirtual 96, .ldc 1, .istore 2, .iload 2, .aload 0, .getfield 590, .if_icmp .ge 33, .aload 0, .getfield 614, .iload 2, .iaload, .ldc 0, .if_icmp .ne 16, .ldc 0, .goto 20, .aload 0, .getfield 615, .iload 2, .iaload, .aload 0, .getfield 635, .ldc 22, .iload 1, .imul, .iload 2, .iadd, .iaload, .if_icmp .eq 31, .iload 2, .ireturn, .iinc 2 2, .goto 4, .ldc 0, .ireturn]
def pr_M_judge : List Instr := [.aload 0, .iload 1, .invokevirtual 112, .istore 2, .iload 2, .ifCond .eq 8, .iload 2, .goto 11, .aload 0, .iload 1, .invokevirtual 113, .ireturn]
def pr_M_fits : List Instr := [.aload 0, .iload 1, .invokevirtual 49, .ifCond .eq 10, .iload 2, .i2l, .ldc2_w 1, .ldc2_w 7, .invokestatic 45, .ifCond .ne 12, .ldc 12, .ireturn, .aload 0, .iload 1, .putfield 616, .aload 0, .iload 2, .putfield 617, .aload 0, .ldc 1, .putfield 618, .aload 0, .invokevirtual 96, .aload 0, .ldc 0, .putfield 616, .aload 0, .getfield 618, .ireturn]
def pr_M_whose : List Instr := [.aload 0, .iload 1, .invokevirtual 112, .istore 2, .iload 2, .ifCond .eq 8, .iload 2, .ireturn, .aload 0, .getfield 594, .istore 3, .ldc 1, .istore 4, .aload 0, .ldc 1, .putfield 594, .aload 0, .getfield 594, .aload 0, .getfield 593, .if_icmp .ge 42, .iload 4, .aload 0, .iload 1, .invokevirtual 113, .ldc 0, .if_icmp .ne 29, .ldc 2, .goto 30, .ldc 1, .aload 0, .getfield 594, .ishl, .ior, .istore 4, .aload 0, .dup, .getfield 594, .ldc 2, .iadd, .putfield 594, .goto 16, .aload 0, .iload 3, .putfield 594, .iload 4, .ireturn]
def pr_M_draws : List Instr := [.iload 1, .istore 2, .ldc 1, .istore 3, .iload 3, .ldc 7, .if_icmp .ge 24, .iload 2, .ldc 55, .imul, .ldc 56, .iadd, .istore 2, .aload 0, .getfield 612, .iload 3, .iload 2, .ldc 27, .iushr, .ldc 57, .irem, .iastore, .iinc 3 2, .goto 4, .aload 0, .invokevirtual 95, .return_]
def pr_M_drawn : List Instr := [.aload 0, .iload 1, .invokevirtual 117, .aload 0, .invokevirtual 98, .ireturn]
def pr_M_chance : List Instr := [.iload 2, .i2l, .ldc2_w 9, .ldc2_w 29, .invokestatic 45, .ifCond .eq 12, .iload 3, .i2l, .ldc2_w 1, .ldc2_w 9, .invokestatic 45, .ifCond .ne 14, .ldc2_w 0, .lreturn, .ldc2_w 1, .lstore 4, .ldc 1, .istore 6, .iload 6, .iload 2, .if_icmp .ge 39, .aload 0, .iload 1, .iload 6, .iadd, .invokevirtual 117, .lload 4, .aload 0, .invokevirtual 99, .aload 0, .getfield 590, .if_icmp .ne 34, .ldc2_w 9, .goto 35, .ldc2_w 1, .ladd, .lstore 4, .iinc 6 2, .goto 18, .lload 4, .lstore 6, .iload 2, .i2l, .lstore 8, .lload 8, .ldc2_w 1, .lcmp, .ifCond .eq 57, .lload 6, .lload 8, .lrem, .lstore 10, .lload 8, .lstore 6, .lload 10, .lstore 8, .goto 44, .iload 3, .ifCond .ne 63, .lload 4, .lload 6, .ldiv, .goto 67, .iload 2, .i2l, .lload 6, .ldiv, .lreturn]
def pr_M_image : List Instr := [.ldc 1, .istore 1, .iload 1, .ldc 7, .if_icmp .ge 15, .aload 0, .getfield 624, .iload 1, .aload 0, .getfield 583, .iload 1, .iaload, .iastore, .iinc 1 2, .goto 2, .ldc 1, .istore 1, .iload 1, .ldc 6, .if_icmp .ge 50, .aload 0, .getfield 625, .iload 1, .aload 0, .getfield 587, .iload 1, .iaload, .iastore, .aload 0, .getfield 625, .ldc 6, .iload 1, .iadd, .aload 0, .getfield 588, .iload 1, .iaload, .iastore, .aload 0, .getfield 625, .ldc 27, .iload 1, .iadd, .aload 0, .getfield 589, .iload 1, .iaload, .iastore, .iinc 1 2, .goto 17, .ldc 1, .istore 1, .iload 1, .ldc 13, .if_icmp .ge 65, .aload 0, .getfield 626, .iload 1, .aload 0, .getfield 592, .iload 1, .iaload, .iastore, .iinc 1 2, .goto 52, .aload 0, .aload 0, .getfield 590, .putfield 627, .aload 0, .aload 0, .getfield 586, .putfield 628, .aload 0, .aload 0, .getfield 593, .putfield 629, .aload 0, .aload 0, .getfield 594, .putfield 630, .aload 0, .aload 0, .getfield 580, .putfield 631, .aload 0, .getfield 590, .ireturn]
def pr_M_back : List Instr := [.aload 0, .getfield 627, .ldc 0, .if_icmp .ne 6, .ldc 21, .ireturn, .ldc 1, .istore 1, .iload 1, .ldc 7, .if_icmp .ge 21, .aload 0, .getfield 583, .iload 1, .aload 0, .getfield 624, .iload 1, .iaload, .iastore, .iinc 1 2, .goto 8, .ldc 1, .istore 1, .iload 1, .ldc 6, .if_icmp .ge 56, .aload 0, .getfield 587, .iload 1, .aload 0, .getfield 625, .iload 1, .iaload, .iastore, .aload 0, .getfield 588, .iload 1, .aload 0, .getfield 625, .ldc 6, .iload 1, .iadd, .iaload, .iastore, .aload 0, .getfield 589, .iload 1, .aload 0, .getfield 625, .ldc 27, .iload 1, .iadd, .iaload, .iastore, .iinc 1 2, .goto 23, .ldc 1, .istore 1, .iload 1, .ldc 13, .if_icmp .ge 71, .aload 0, .getfield 592, .iload 1, .aload 0, .getfield 626, .iload 1, .iaload, .iastore, .iinc 1 2, .goto 58, .aload 0, .aload 0, .getfield 627, .putfield 590, .aload 0, .aload 0, .getfield 628, .putfield 586, .aload 0, .aload 0, .getfield 629, .putfield 593, .aload 0, .aload 0, .getfield 630, .putfield 594, .aload 0, .aload 0, .getfield 631, .putfield 580, .aload 0, .getfield 590, .ireturn]
def pr_M_count : List Instr := [.iload 1, .i2l, .ldc2_w 1, .ldc2_w 2, .invokestatic 45, .ifCond .ne 8, .ldc 12, .ireturn, .iload 1, .ldc 5, .if_icmp .ge 31, .iload 1, .ifCond .ne 16, .aload 0, .getfield 586, .goto 30, .iload 1, .ldc 2, .if_icmp .ne 22, .aload 0, .getfield 590, .goto 30, .iload 1, .ldc 3, .if_icmp .ne 28, .aload 0, .getfield 593, .goto 30, .aload 0, .getfield 594, .ireturn, .iload 1, .ldc 14, .if_icmp .ge 49, .iload 1, .ldc 5, .if_icmp .ne 40, .aload 0, .getfield 579, .goto 48, .iload 1, .ldc 6, .if_icmp .ne 46, .aload 0, .getfield 582, .goto 48, .aload 0, .getfield 580, .ireturn, .aload 0, .invokevirtual 84, .aload 0, .invokevirtual 88, .ireturn]
def pr_M_isSheet : List Instr := [.iload 0, .i2l, .ldc2_w 1, .ldc2_w 5, .invokestatic 45, .ireturn]
def pr_M_sheet : List Instr := [.iload 1, .invokestatic 123, .ifCond .eq 14, .iload 2, .i2l, .ldc2_w 30, .ldc2_w 28, .invokestatic 45, .ifCond .eq 14, .iload 2, .ifCond .lt 16, .iload 3, .ldc 22, .if_icmp .le 16, .ldc 12, .ireturn, .iload 2, .ifCond .lt 22, .iload 3, .ifCond .ge 22, .ldc 23, .ireturn, .aload 0, .getfield 632, .iload 1, .iload 2, .ifCond .lt 29, .ldc 2, .goto 30, .ldc 1, .bastore, .aload 0, .getfield 633, .iload 1, .iload 2, .iastore, .aload 0, .getfield 634, .iload 1, .iload 3, .iastore, .ldc 1, .istore 4, .iload 4, .iload 3, .if_icmp .ge 59, .iload 2, .ifCond .lt 59, .aload 0, .getfield 635, .ldc 22, .iload 1, .imul, .iload 4, .iadd, .ldc 1, .iastore, .iinc 4 2, .goto 43, .ldc 2, .ireturn]
def pr_M_cell : List Instr := [.iload 1, .invokestatic 123, .ifCond .ne 5, .ldc 12, .ireturn, .aload 0, .getfield 632, .iload 1, .baload, .ifCond .ne 12, .ldc 24, .ireturn, .iload 2, .i2l, .ldc2_w 1, .aload 0, .getfield 634, .iload 1, .iaload, .ldc 2, .isub, .i2l, .invokestatic 45, .ifCond .ne 26, .ldc 25, .ireturn, .aload 0, .getfield 635, .ldc 22, .iload 1, .imul, .iload 2, .iadd, .aload 0, .getfield 633, .iload 1, .iaload, .ifCond .ne 41, .iload 3, .i2b, .goto 51, .aload 0, .getfield 633, .iload 1, .iaload, .ldc 2, .if_icmp .ne 50, .iload 3, .i2s, .goto 51, .iload 3, .iastore, .ldc 2, .ireturn]
def pr_M_copy : List Instr := [.iload 1, .invokestatic 123, .ifCond .eq 6, .iload 3, .invokestatic 123, .ifCond .ne 8, .ldc 12, .ireturn, .aload 0, .getfield 632, .iload 1, .baload, .ifCond .eq 18, .aload 0, .getfield 632, .iload 3, .baload, .ifCond .ne 20, .ldc 24, .ireturn, .aload 0, .getfield 633, .iload 1, .iaload, .aload 0, .getfield 633, .iload 3, .iaload, .if_icmp .eq 31, .ldc 26, .ireturn, .iload 5, .ifCond .lt 53, .iload 2, .ifCond .lt 53, .iload 4, .ifCond .lt 53, .iload 2, .aload 0, .getfield 634, .iload 1, .iaload, .iload 5, .isub, .if_icmp .gt 53, .iload 4, .aload 0, .getfield 634, .iload 3, .iaload, .iload 5, .isub, .if_icmp .le 55, .ldc 25, .ireturn, .iload 1, .iload 3, .if_icmp .ne 63, .iload 2, .iload 4, .if_icmp .ge 63, .ldc 2, .goto 64, .ldc 1, .istore 6, .ldc 1, .istore 7, .iload 7, .iload 5, .if_icmp .ge 102, .iload 6, .ifCond .eq 78, .iload 5, .ldc 2, .isub, .iload 7, .isub, .goto 79, .iload 7, .istore 8, .aload 0, .getfield 635, .ldc 22, .iload 3, .imul, .iload 4, .iadd, .iload 8, .iadd, .aload 0, .getfield 635, .ldc 22, .iload 1, .imul, .iload 2, .iadd, .iload 8, .iadd, .iaload, .iastore, .iinc 7 2, .goto 67, .iload 5, .ireturn]
def pr_M_writers : List Instr := [.iload 1, .invokestatic 123, .ifCond .eq 15, .iload 2, .i2l, .ldc2_w 1, .ldc2_w 28, .invokestatic 45, .ifCond .eq 15, .iload 4, .i2l, .ldc2_w 1, .ldc2_w 12, .invokestatic 45, .ifCond .ne 17, .ldc 12, .ireturn, .aload 0, .getfield 632, .iload 1, .baload, .ifCond .eq 30, .aload 0, .getfield 633, .iload 1, .iaload, .iload 2, .if_icmp .eq 30, .ldc 26, .ireturn, .aload 0, .getfield 632, .iload 1, .baload, .ifCond .ne 37, .ldc 24, .ireturn, .ldc 1, .istore 5, .ldc 1, .istore 6, .iload 6, .iload 4, .if_icmp .ge 97, .iload 3, .ifCond .lt 58, .iload 3, .aload 0, .getfield 634, .iload 1, .iaload, .ldc 4, .iload 6, .imul, .isub, .ldc 4, .isub, .if_icmp .le 60, .ldc 25, .ireturn, .ldc 22, .iload 1, .imul, .iload 3, .iadd, .ldc 4, .iload 6, .imul, .iadd, .istore 7, .iload 5, .aload 0, .aload 0, .getfield 635, .iload 7, .iaload, .aload 0, .getfield 635, .iload 7, .ldc 2, .iadd, .iaload, .aload 0, .getfield 635, .iload 7, .ldc 3, .iadd, .iaload, .invokevirtual 56, .ifCond .lt 92, .ldc 2, .goto 93, .ldc 1, .iadd, .istore 5, .iinc 6 2, .goto 41, .iload 5, .ireturn]
def pr_M_over : List Instr := [.iload 0, .ifCond .ne 4, .ldc 0, .goto 18, .iload 0, .ldc 5, .if_icmp .ne 9, .ldc 3, .goto 18, .iload 0, .ldc 4, .if_icmp .eq 15, .iload 0, .ldc 6, .if_icmp .ne 17, .ldc 2, .goto 18, .ldc 1, .ireturn]
def pr_M_taken : List Instr := [.iload 2, .i2l, .ldc2_w 1, .ldc2_w 12, .invokestatic 45, .ifCond .ne 8, .ldc 12, .ireturn, .aload 0, .iload 1, .invokevirtual 50, .ifCond .ne 14, .ldc 24, .ireturn, .aload 0, .getfield 591, .iload 1, .iaload, .istore 3, .iload 3, .ldc 0, .if_icmp .eq 29, .iload 3, .iload 2, .if_icmp .eq 29, .iload 3, .invokestatic 128, .istore 3, .goto 19, .iload 3, .iload 2, .if_icmp .ne 37, .aload 0, .getfield 592, .iload 1, .iaload, .goto 38, .ldc 26, .ireturn]
def pr_Day_dawn : List Instr := [.aload 0, .getfield 0, .ldc 1, .aload 0, .getfield 5, .ldc 1, .ldc 7, .invokedynamic 0, .aload 0, .getfield 2, .getfield 449, .ldc 1, .aload 0, .getfield 6, .ldc 1, .ldc 6, .invokedynamic 0, .aload 0, .aload 0, .getfield 3, .getfield 131, .putfield 7, .return_]
def pr_Day_draw : List Instr := [.iload 1, .istore 2, .ldc 1, .istore 3, .iload 3, .ldc 7, .if_icmp .ge 24, .iload 2, .ldc 55, .imul, .ldc 56, .iadd, .istore 2, .aload 0, .getfield 5, .iload 3, .iload 2, .ldc 27, .iushr, .ldc 57, .irem, .iastore, .iinc 3 2, .goto 4, .return_]
def pr_Day_live : List Instr := [.aload 0, .ldc 0, .invokevirtual 133, .return_]
def pr_Day_liveTo : List Instr := [.ldc 1, .istore 2, .iload 2, .ldc 18, .if_icmp .ge 37, .ldc 1, .istore 3, .iload 3, .aload 0, .getfield 2, .getfield 451, .if_icmp .ge 28, .aload 0, .getfield 6, .iload 3, .iaload, .iload 2, .if_icmp .eq 19, .goto 26, .iload 3, .iload 1, .if_icmp .ne 23, .return_, .aload 0, .iload 3, .invokevirtual 134, .iinc 3 2, .goto 7, .aload 0, .getfield 3, .aload 0, .getfield 7, .aload 0, .getfield 5, .invokevirtual 151, .iinc 2 2, .goto 2, .return_]
def pr_Day_takeTurn : List Instr := [.aload 0, .getfield 6, .iload 1, .iaload, .istore 2, .aload 0, .getfield 2, .getfield 450, .iload 1, .iaload, .istore 3, .ldc 0, .istore 4, .iload 3, .ldc 2, .iadd, .istore 5, .ldc 1, .istore 6, .iload 6, .aload 0, .getfield 1, .getfield 387, .if_icmp .ge 64, .aload 0, .getfield 1, .getfield 384, .iload 6, .iaload, .aload 0, .getfield 2, .getfield 448, .iload 1, .iaload, .if_icmp .eq 36, .goto 62, .aload 0, .iload 6, .iload 2, .invokevirtual 135, .istore 7, .iload 7, .iload 5, .if_icmp .ge 62, .aload 0, .getfield 4, .iload 2, .aload 0, .getfield 1, .getfield 385, .iload 6, .iaload, .iload 3, .aload 0, .getfield 2, .getfield 451, .invokevirtual 179, .ifCond .eq 62, .iload 6, .istore 4, .iload 7, .istore 5, .iinc 6 2, .goto 19, .aload 0, .getfield 8, .iload 1, .iload 4, .iastore, .aload 0, .getfield 9, .iload 1, .ldc 1, .iastore, .aload 0, .getfield 10, .iload 1, .ldc 1, .iastore, .iload 4, .ldc 0, .if_icmp .ne 83, .return_, .aload 0, .getfield 9, .iload 1, .iload 5, .iastore, .aload 0, .getfield 10, .iload 1, .aload 0, .getfield 4, .iload 2, .aload 0, .getfield 1, .getfield 385, .iload 4, .iaload, .iload 3, .aload 0, .getfield 2, .getfield 451, .invokevirtual 178, .iload 5, .isub, .iastore, .aload 0, .getfield 1, .iload 4, .aload 0, .getfield 5, .invokevirtual 186, .return_]
def pr_Day_costOf : List Instr := [.ldc 1, .istore 3, .ldc 1, .istore 4, .iload 4, .aload 0, .getfield 1, .getfield 385, .iload 1, .iaload, .if_icmp .ge 44, .aload 0, .getfield 1, .iload 1, .iload 4, .aload 0, .getfield 5, .invokevirtual 185, .istore 5, .iload 3, .aload 0, .getfield 3, .aload 0, .getfield 7, .iload 5, .iload 2, .invokevirtual 149, .aload 0, .getfield 4, .iload 5, .iload 2, .aload 0, .getfield 1, .getfield 386, .iload 1, .aaload, .iload 4, .iaload, .invokevirtual 177, .iadd, .iadd, .istore 3, .iinc 4 2, .goto 4, .iload 3, .ireturn]
def pr_Day_tryHours : List Instr := [.ldc 1, .istore 2, .iload 2, .ldc 18, .if_icmp .ge 28, .aload 0, .invokevirtual 130, .aload 0, .getfield 6, .iload 1, .iload 2, .iastore, .aload 0, .iload 1, .invokevirtual 133, .aload 0, .iload 1, .invokevirtual 134, .aload 0, .getfield 11, .iload 2, .aload 0, .getfield 10, .iload 1, .iaload, .iastore, .iinc 2 2, .goto 2, .return_]
def pr_Day_goodIfBurned : List Instr := [.aload 0, .invokevirtual 130, .aload 0, .getfield 5, .iload 1, .aload 0, .getfield 5, .iload 1, .iaload, .iload 2, .iadd, .ldc 8, .invokedynamic 2, .iastore, .aload 0, .ldc 0, .invokevirtual 133, .aload 0, .invokevirtual 138, .ireturn]
def pr_Day_allGood : List Instr := [.ldc 1, .istore 1, .ldc 1, .istore 2, .iload 2, .aload 0, .getfield 2, .getfield 451, .if_icmp .ge 18, .iload 1, .aload 0, .getfield 10, .iload 2, .iaload, .iadd, .istore 1, .iinc 2 2, .goto 4, .iload 1, .ireturn]
def pr_Day_allPaid : List Instr := [.ldc 1, .istore 1, .ldc 1, .istore 2, .iload 2, .aload 0, .getfield 2, .getfield 451, .if_icmp .ge 18, .iload 1, .aload 0, .getfield 9, .iload 2, .iaload, .iadd, .istore 1, .iinc 2 2, .goto 4, .iload 1, .ireturn]
def pr_Day_howManySaid : List Instr := [.ldc 1, .istore 1, .ldc 1, .istore 2, .iload 2, .aload 0, .getfield 2, .getfield 451, .if_icmp .ge 18, .aload 0, .getfield 8, .iload 2, .iaload, .ldc 0, .if_icmp .eq 16, .iinc 1 2, .iinc 2 2, .goto 4, .iload 1, .ireturn]
def pr_Day_spread : List Instr := [.aload 0, .getfield 5, .ldc 1, .iaload, .istore 1, .aload 0, .getfield 5, .ldc 1, .iaload, .istore 2, .aload 0, .getfield 5, .astore 3, .aload 3, .arraylength, .istore 4, .ldc 1, .istore 5, .iload 5, .iload 4, .if_icmp .ge 35, .aload 3, .iload 5, .iaload, .istore 6, .iload 1, .iload 6, .invokedynamic 1, .istore 1, .iload 2, .iload 6, .invokedynamic 2, .istore 2, .iinc 5 2, .goto 18, .iload 1, .iload 2, .isub, .ireturn]
def pr_Day_firstUnlike : List Instr := [.ldc 1, .istore 2, .iload 2, .aload 0, .getfield 2, .getfield 451, .if_icmp .ge 29, .aload 0, .getfield 8, .iload 2, .iaload, .ldc 0, .if_icmp .ne 15, .ldc 0, .goto 19, .aload 0, .getfield 9, .iload 2, .iaload, .istore 3, .aload 1, .iload 2, .iaload, .iload 3, .if_icmp .eq 27, .iload 2, .ireturn, .iinc 2 2, .goto 2, .ldc 0, .ireturn]
def pr_Image_keepWriters : List Instr := [.aload 1, .getfield 448, .ldc 1, .aload 0, .getfield 68, .ldc 1, .ldc 6, .invokedynamic 0, .aload 1, .getfield 449, .ldc 1, .aload 0, .getfield 69, .ldc 1, .ldc 6, .invokedynamic 0, .aload 1, .getfield 450, .ldc 1, .aload 0, .getfield 70, .ldc 1, .ldc 6, .invokedynamic 0, .aload 0, .aload 1, .getfield 451, .putfield 71, .return_]
def pr_Image_restoreWriters : List Instr := [.aload 0, .getfield 68, .ldc 1, .aload 1, .getfield 448, .ldc 1, .ldc 6, .invokedynamic 0, .aload 0, .getfield 69, .ldc 1, .aload 1, .getfield 449, .ldc 1, .ldc 6, .invokedynamic 0, .aload 0, .getfield 70, .ldc 1, .aload 1, .getfield 450, .ldc 1, .ldc 6, .invokedynamic 0, .aload 1, .aload 0, .getfield 71, .putfield 451, .return_]
def pr_Image_keepLaws : List Instr := [.aload 1, .getfield 129, .ldc 1, .aload 0, .getfield 72, .ldc 1, .ldc 13, .invokedynamic 0, .aload 0, .aload 1, .getfield 130, .putfield 73, .aload 0, .aload 1, .getfield 131, .putfield 74, .return_]
def pr_Image_restoreLaws : List Instr := [.aload 0, .getfield 72, .ldc 1, .aload 1, .getfield 129, .ldc 1, .ldc 13, .invokedynamic 0, .aload 1, .aload 0, .getfield 73, .putfield 130, .aload 1, .aload 0, .getfield 74, .putfield 131, .return_]
def pr_Laws_add : List Instr := [.aload 0, .getfield 130, .ldc 13, .if_icmp .lt 6, .ldc 16, .ireturn, .aload 0, .getfield 128, .aload 0, .getfield 130, .iload 1, .iastore, .aload 0, .getfield 129, .aload 0, .getfield 130, .iload 2, .iastore, .aload 0, .dup, .getfield 130, .dup_x1, .ldc 2, .iadd, .putfield 130, .ireturn]
def pr_Laws_isUnder : List Instr := [.aload 0, .getfield 128, .iload 1, .iaload, .istore 3, .ldc 1, .istore 4, .iload 4, .ldc 13, .if_icmp .ge 24, .iload 3, .ldc 0, .if_icmp .eq 24, .iload 3, .iload 2, .if_icmp .ne 18, .ldc 2, .ireturn, .getstatic 0, .iload 3, .iaload, .istore 3, .iinc 4 2, .goto 7, .ldc 1, .ireturn]
def pr_Laws_price : List Instr := [.aload 0, .getfield 129, .iload 1, .iaload, .istore 4, .aload 0, .getfield 128, .iload 1, .iaload, .lookupswitch 49 #[(2, 10), (3, 14), (4, 20), (5, 28), (6, 39)], .iload 4, .iload 2, .invokestatic 150, .ireturn, .iload 2, .iload 4, .iadd, .ldc 3, .idiv, .ireturn, .iload 4, .iload 2, .iload 2, .ldc 4, .irem, .isub, .invokestatic 150, .ireturn, .iload 3, .ldc 13, .if_icmp .ge 33, .ldc 1, .goto 38, .iload 2, .iload 4, .iadd, .ldc 3, .idiv, .ireturn, .iload 4, .iload 2, .invokestatic 150, .iload 2, .ifCond .ne 46, .ldc 6, .goto 47, .ldc 1, .iadd, .ireturn, .iload 2, .iload 4, .iadd, .ireturn]
def pr_Laws_steep : List Instr := [.iload 1, .iload 0, .iadd, .iload 1, .iload 0, .ldc 2, .iadd, .imul, .iadd, .ireturn]
def pr_Laws_age : List Instr := [.aload 0, .getfield 128, .iload 1, .iaload, .ifCond .eq 11, .aload 0, .getfield 128, .iload 1, .iaload, .ldc 2, .if_icmp .ne 12, .return_, .ldc 1, .istore 3, .iload 3, .aload 2, .arraylength, .if_icmp .ge 31, .aload 2, .iload 3, .aload 0, .iload 1, .aload 2, .iload 3, .iaload, .invokevirtual 152, .ldc 1, .invokedynamic 1, .iastore, .iinc 3 2, .goto 14, .return_]
def pr_Laws_aged : List Instr := [.aload 0, .getfield 128, .iload 1, .iaload, .lookupswitch 26 #[(3, 5), (4, 12), (5, 5), (6, 16)], .iload 2, .aload 0, .getfield 129, .iload 1, .iaload, .isub, .ireturn, .iload 2, .ldc 2, .isub, .ireturn, .iload 2, .aload 0, .getfield 129, .iload 1, .iaload, .if_icmp .ge 24, .ldc 1, .goto 25, .iload 2, .ireturn, .iload 2, .ireturn]
def pr_Reader_append : List Instr := [.aload 0, .getfield 193, .ldc 28, .if_icmp .lt 6, .ldc 1, .ireturn, .aload 0, .getfield 192, .aload 0, .dup, .getfield 193, .dup_x1, .ldc 2, .iadd, .putfield 193, .iload 1, .iastore, .ldc 2, .ireturn]
def pr_Reader_load : List Instr := [.ldc 1, .istore 2, .iload 2, .aload 1, .invokevirtual 188, .if_icmp .ge 14, .aload 0, .aload 1, .iload 2, .invokevirtual 191, .invokevirtual 153, .pop, .iinc 2 2, .goto 2, .return_]
def pr_Reader_read : List Instr := [.aload 0, .ldc 1, .putfield 196, .aload 0, .ldc 0, .putfield 200, .aload 0, .ldc 1, .putfield 201, .aload 0, .invokevirtual 166, .ldc 1, .istore 1, .iload 1, .ldc 4, .if_icmp .ge 35, .aload 0, .ldc 58, .iload 1, .iadd, .invokevirtual 157, .aload 0, .ldc 1, .invokevirtual 159, .aload 0, .ldc 31, .invokevirtual 157, .aload 0, .getfield 195, .iload 1, .aload 0, .getfield 201, .iastore, .iinc 1 2, .goto 13, .aload 0, .ldc 1, .invokevirtual 157, .aload 0, .ldc 1, .putfield 193, .aload 0, .getfield 200, .ireturn]
def pr_Reader_refuse : List Instr := [.aload 0, .getfield 200, .ldc 0, .if_icmp .ne 8, .aload 0, .aload 0, .getfield 198, .putfield 200, .aload 0, .ldc 2, .putfield 197, .return_]
def pr_Reader_expect : List Instr := [.aload 0, .getfield 197, .iload 1, .if_icmp .ne 7, .aload 0, .invokevirtual 166, .goto 9, .aload 0, .invokevirtual 156, .return_]
def pr_Reader_emit : List Instr := [.aload 0, .getfield 201, .ldc 28, .if_icmp .ge 15, .aload 0, .getfield 194, .aload 0, .dup, .getfield 201, .dup_x1, .ldc 2, .iadd, .putfield 201, .iload 1, .iastore, .return_]
def pr_Reader_readE : List Instr := [.aload 0, .iload 1, .invokevirtual 160, .ldc 1, .istore 2, .iload 2, .ldc 28, .if_icmp .ge 22, .aload 0, .getfield 197, .ldc 59, .if_icmp .ne 22, .aload 0, .invokevirtual 166, .aload 0, .iload 1, .invokevirtual 160, .aload 0, .ldc 60, .invokevirtual 158, .iinc 2 2, .goto 5, .return_]
def pr_Reader_readAnd : List Instr := [.aload 0, .iload 1, .invokevirtual 161, .ldc 1, .istore 2, .iload 2, .ldc 28, .if_icmp .ge 22, .aload 0, .getfield 197, .ldc 61, .if_icmp .ne 22, .aload 0, .invokevirtual 166, .aload 0, .iload 1, .invokevirtual 161, .aload 0, .ldc 62, .invokevirtual 158, .iinc 2 2, .goto 5, .return_]
def pr_Reader_readNot : List Instr := [.aload 0, .getfield 197, .ldc 63, .if_icmp .eq 8, .aload 0, .iload 1, .invokevirtual 162, .goto 24, .iload 1, .ldc 6, .if_icmp .ge 22, .aload 0, .invokevirtual 166, .aload 0, .iload 1, .ldc 2, .iadd, .invokevirtual 161, .aload 0, .ldc 64, .invokevirtual 158, .goto 24, .aload 0, .invokevirtual 156, .return_]
def pr_Reader_readCompared : List Instr := [.aload 0, .iload 1, .invokevirtual 163, .aload 0, .getfield 197, .ldc 35, .if_icmp .eq 11, .aload 0, .getfield 197, .ldc 36, .if_icmp .ne 23, .aload 0, .getfield 197, .istore 2, .aload 0, .invokevirtual 166, .aload 0, .iload 1, .invokevirtual 163, .aload 0, .iload 2, .ineg, .invokevirtual 158, .return_]
def pr_Reader_readSum : List Instr := [.aload 0, .iload 1, .invokevirtual 164, .ldc 1, .istore 2, .iload 2, .ldc 28, .if_icmp .ge 30, .aload 0, .getfield 197, .ldc 32, .if_icmp .eq 16, .aload 0, .getfield 197, .ldc 33, .if_icmp .ne 30, .aload 0, .getfield 197, .istore 3, .aload 0, .invokevirtual 166, .aload 0, .iload 1, .invokevirtual 164, .aload 0, .iload 3, .ineg, .invokevirtual 158, .iinc 2 2, .goto 5, .return_]
def pr_Reader_readTerm : List Instr := [.aload 0, .iload 1, .invokevirtual 165, .ldc 1, .istore 2, .iload 2, .ldc 28, .if_icmp .ge 22, .aload 0, .getfield 197, .ldc 34, .if_icmp .ne 22, .aload 0, .invokevirtual 166, .aload 0, .iload 1, .invokevirtual 165, .aload 0, .ldc 65, .invokevirtual 158, .iinc 2 2, .goto 5, .return_]
def pr_Reader_readOne : List Instr := [.aload 0, .getfield 197, .ldc 3, .if_icmp .ne 11, .aload 0, .aload 0, .getfield 199, .invokevirtual 158, .aload 0, .invokevirtual 166, .goto 62, .aload 0, .getfield 197, .ldc 4, .if_icmp .ne 24, .aload 0, .ldc 0, .aload 0, .getfield 199, .isub, .invokevirtual 158, .aload 0, .invokevirtual 166, .goto 62, .aload 0, .getfield 197, .ldc 33, .if_icmp .ne 42, .iload 1, .ldc 6, .if_icmp .ge 42, .aload 0, .invokevirtual 166, .aload 0, .iload 1, .ldc 2, .iadd, .invokevirtual 165, .aload 0, .ldc 66, .invokevirtual 158, .goto 62, .aload 0, .getfield 197, .ldc 22, .if_icmp .ne 60, .iload 1, .ldc 6, .if_icmp .ge 60, .aload 0, .invokevirtual 166, .aload 0, .iload 1, .ldc 2, .iadd, .invokevirtual 159, .aload 0, .ldc 30, .invokevirtual 157, .goto 62, .aload 0, .invokevirtual 156, .return_]
def pr_Reader_next : List Instr := [.aload 0, .getfield 196, .aload 0, .getfield 193, .if_icmp .ge 19, .aload 0, .getfield 192, .aload 0, .getfield 196, .iaload, .invokestatic 170, .ifCond .eq 19, .aload 0, .dup, .getfield 196, .ldc 2, .iadd, .putfield 196, .goto 0, .aload 0, .aload 0, .getfield 196, .putfield 198, .aload 0, .getfield 196, .aload 0, .getfield 193, .if_icmp .lt 32, .aload 0, .ldc 1, .putfield 197, .goto 76, .aload 0, .getfield 192, .aload 0, .getfield 196, .iaload, .invokestatic 171, .ifCond .eq 42, .aload 0, .invokevirtual 167, .goto 76, .aload 0, .getfield 192, .aload 0, .getfield 196, .iaload, .invokestatic 172, .ifCond .eq 52, .aload 0, .invokevirtual 168, .goto 76, .aload 0, .ldc_w 70, .aload 0, .getfield 192, .aload 0, .getfield 196, .iaload, .i2c, .invokevirtual 193, .ifCond .lt 68, .aload 0, .getfield 192, .aload 0, .getfield 196, .iaload, .goto 69, .ldc 2, .putfield 197, .aload 0, .dup, .getfield 196, .ldc 2, .iadd, .putfield 196, .return_]
def pr_Reader_nextWord : List Instr := [.aload 0, .getfield 196, .aload 0, .getfield 193, .if_icmp .ge 19, .aload 0, .getfield 192, .aload 0, .getfield 196, .iaload, .invokestatic 171, .ifCond .eq 19, .aload 0, .dup, .getfield 196, .ldc 2, .iadd, .putfield 196, .goto 0, .aload 0, .invokevirtual 169, .istore 1, .iload 1, .ldc 0, .if_icmp .ne 29, .aload 0, .ldc 2, .putfield 197, .goto 46, .iload 1, .ldc 13, .if_icmp .ge 38, .aload 0, .ldc 58, .iload 1, .iadd, .putfield 197, .goto 46, .aload 0, .ldc 4, .putfield 197, .aload 0, .iload 1, .ldc 13, .isub, .putfield 199, .return_]
def pr_Reader_nextNumber : List Instr := [.aload 0, .ldc 1, .putfield 199, .aload 0, .getfield 196, .aload 0, .getfield 193, .if_icmp .ge 36, .aload 0, .getfield 192, .aload 0, .getfield 196, .iaload, .invokestatic 172, .ifCond .eq 36, .aload 0, .aload 0, .getfield 199, .ldc 27, .imul, .aload 0, .getfield 192, .aload 0, .getfield 196, .iaload, .iadd, .ldc 67, .isub, .putfield 199, .aload 0, .dup, .getfield 196, .ldc 2, .iadd, .putfield 196, .goto 3, .aload 0, .aload 0, .getfield 196, .aload 0, .getfield 198, .isub, .ldc 5, .if_icmp .gt 46, .ldc 3, .goto 47, .ldc 2, .putfield 197, .return_]
def pr_Reader_knownWord : List Instr := [.ldc 1, .istore 1, .aload 0, .getfield 198, .istore 2, .ldc 2, .istore 3, .ldc 1, .istore 4, .iload 4, .ldc_w 68, .invokevirtual 188, .if_icmp .ge 53, .ldc_w 68, .iload 4, .invokevirtual 191, .ldc 29, .if_icmp .ne 33, .iload 3, .ifCond .eq 26, .iload 2, .aload 0, .getfield 196, .if_icmp .ne 26, .iload 1, .ireturn, .iinc 1 2, .aload 0, .getfield 198, .istore 2, .ldc 2, .istore 3, .goto 51, .iload 3, .ifCond .eq 49, .iload 2, .aload 0, .getfield 196, .if_icmp .ge 49, .aload 0, .getfield 192, .iload 2, .iaload, .ldc_w 68, .iload 4, .invokevirtual 191, .if_icmp .ne 49, .iinc 2 2, .goto 51, .ldc 1, .istore 3, .iinc 4 2, .goto 9, .ldc 0, .ireturn]
def pr_Reader_isBlank : List Instr := [.iload 0, .ldc 29, .if_icmp .eq 6, .iload 0, .ldc 27, .if_icmp .ne 8, .ldc 2, .goto 9, .ldc 1, .ireturn]
def pr_Reader_isLetter : List Instr := [.iload 0, .ldc 50, .if_icmp .lt 8, .iload 0, .ldc 68, .if_icmp .gt 8, .ldc 2, .goto 9, .ldc 1, .ireturn]
def pr_Reader_isDigit : List Instr := [.iload 0, .ldc 67, .if_icmp .lt 8, .iload 0, .ldc 69, .if_icmp .gt 8, .ldc 2, .goto 9, .ldc 1, .ireturn]
def pr_Sheets_lay : List Instr := [.aload 0, .getfield 256, .iload 1, .iload 2, .iastore, .aload 0, .getfield 257, .iload 1, .iload 3, .iastore, .ldc 1, .istore 4, .iload 4, .ldc 22, .if_icmp .ge 24, .aload 0, .getfield 258, .iload 1, .aaload, .iload 4, .ldc 1, .iastore, .iinc 4 2, .goto 12, .return_]
def pr_Sheets_put : List Instr := [.aload 0, .getfield 256, .iload 1, .iaload, .ifCond .ne 14, .aload 0, .getfield 258, .iload 1, .aaload, .iload 2, .iload 3, .i2b, .iastore, .goto 36, .aload 0, .getfield 256, .iload 1, .iaload, .ldc 2, .if_icmp .ne 29, .aload 0, .getfield 258, .iload 1, .aaload, .iload 2, .iload 3, .i2s, .iastore, .goto 36, .aload 0, .getfield 258, .iload 1, .aaload, .iload 2, .iload 3, .iastore, .return_]
def pr_Sheets_hasRoom : List Instr := [.iload 2, .ifCond .lt 20, .iload 3, .ifCond .lt 20, .iload 3, .aload 0, .getfield 257, .iload 1, .iaload, .if_icmp .gt 20, .iload 2, .aload 0, .getfield 257, .iload 1, .iaload, .iload 3, .isub, .if_icmp .gt 20, .ldc 2, .goto 21, .ldc 1, .ireturn]
def pr_Texts_add : List Instr := [.aload 0, .getfield 324, .ldc 13, .if_icmp .lt 6, .ldc 16, .ireturn, .aload 1, .ldc 1, .aload 0, .getfield 320, .aload 0, .getfield 324, .aaload, .ldc 1, .ldc 28, .invokedynamic 0, .aload 2, .ldc 1, .aload 0, .getfield 321, .aload 0, .getfield 324, .aaload, .ldc 1, .ldc 4, .invokedynamic 0, .aload 0, .dup, .getfield 324, .dup_x1, .ldc 2, .iadd, .putfield 324, .ireturn]
def pr_Texts_adds : List Instr := [.aload 0, .iload 1, .iload 2, .iload 3, .ldc 1, .ldc 1, .ldc 1, .invokevirtual 180, .aload 0, .ldc 1, .invokevirtual 182, .ldc 53, .invokestatic 181, .ireturn]
def pr_Texts_worth : List Instr := [.aload 0, .ldc 1, .iload 1, .ldc 1, .iload 2, .iload 3, .iload 4, .invokevirtual 180, .aload 0, .ldc 2, .invokevirtual 182, .ldc 8, .invokestatic 181, .ireturn]
def pr_Texts_may : List Instr := [.aload 0, .ldc 1, .iload 1, .ldc 1, .iload 2, .iload 3, .iload 4, .invokevirtual 180, .aload 0, .ldc 3, .invokevirtual 182, .ifCond .eq 14, .ldc 2, .goto 15, .ldc 1, .ireturn]
def pr_Texts_tell : List Instr := [.aload 0, .getfield 322, .ldc 1, .iload 1, .iastore, .aload 0, .getfield 322, .ldc 2, .iload 2, .iastore, .aload 0, .getfield 322, .ldc 3, .iload 3, .iastore, .aload 0, .getfield 322, .ldc 4, .iload 4, .iastore, .aload 0, .getfield 322, .ldc 5, .iload 5, .iastore, .aload 0, .getfield 322, .ldc 6, .iload 6, .iastore, .return_]
def pr_Texts_bounded : List Instr := [.iload 0, .ifCond .ge 4, .ldc 1, .ireturn, .iload 0, .iload 1, .if_icmp .le 9, .iload 1, .goto 10, .iload 0, .ireturn]
def pr_Texts_valued : List Instr := [.aload 0, .getfield 320, .aload 0, .getfield 325, .aaload, .astore 2, .aload 0, .getfield 321, .aload 0, .getfield 325, .aaload, .iload 1, .iaload, .istore 3, .ldc 0, .istore 4, .iload 1, .ifCond .ne 20, .ldc 1, .goto 29, .aload 0, .getfield 321, .aload 0, .getfield 325, .aaload, .iload 1, .ldc 2, .isub, .iaload, .istore 5, .iload 5, .iload 3, .if_icmp .ge 184, .aload 2, .iload 5, .iaload, .istore 6, .iload 6, .ldc 70, .if_icmp .lt 61, .iload 4, .ldc 71, .if_icmp .lt 45, .ldc 1, .ireturn, .iinc 4 2, .aload 0, .getfield 323, .iload 4, .iload 6, .ifCond .lt 53, .iload 6, .goto 59, .aload 0, .getfield 322, .ldc 0, .iload 6, .isub, .iaload, .iastore, .goto 182, .iload 6, .ldc 66, .if_icmp .eq 67, .iload 6, .ldc 64, .if_icmp .ne 69, .ldc 2, .goto 70, .ldc 1, .istore 7, .iload 4, .iload 7, .ifCond .eq 76, .ldc 1, .goto 77, .ldc 2, .if_icmp .ge 80, .ldc 1, .ireturn, .aload 0, .getfield 323, .iload 4, .iaload, .istore 8, .iload 7, .ifCond .ne 88, .iinc 4 0, .aload 0, .getfield 323, .iload 4, .iaload, .istore 9, .iload 6, .ineg, .lookupswitch 176 #[(34, 112), (32, 96), (33, 104), (35, 120), (36, 131), (59, 154), (61, 142), (63, 166)], .aload 0, .getfield 323, .iload 4, .iload 9, .iload 8, .iadd, .iastore, .goto 182, .aload 0, .getfield 323, .iload 4, .iload 9, .iload 8, .isub, .iastore, .goto 182, .aload 0, .getfield 323, .iload 4, .iload 9, .iload 8, .imul, .iastore, .goto 182, .aload 0, .getfield 323, .iload 4, .iload 9, .iload 8, .if_icmp .ge 128, .ldc 2, .goto 129, .ldc 1, .iastore, .goto 182, .aload 0, .getfield 323, .iload 4, .iload 9, .iload 8, .if_icmp .ne 139, .ldc 2, .goto 140, .ldc 1, .iastore, .goto 182, .aload 0, .getfield 323, .iload 4, .iload 9, .ifCond .eq 151, .iload 8, .ifCond .eq 151, .ldc 2, .goto 152, .ldc 1, .iastore, .goto 182, .aload 0, .getfield 323, .iload 4, .iload 9, .ifCond .ne 161, .iload 8, .ifCond .eq 163, .ldc 2, .goto 164, .ldc 1, .iastore, .goto 182, .aload 0, .getfield 323, .iload 4, .iload 8, .ifCond .ne 173, .ldc 2, .goto 174, .ldc 1, .iastore, .goto 182, .aload 0, .getfield 323, .iload 4, .iload 8, .ineg, .iastore, .iinc 5 2, .goto 30, .aload 0, .getfield 323, .ldc 1, .iaload, .ireturn]
def pr_Words_lengthOf : List Instr := [.iload 0, .ldc 2, .if_icmp .lt 6, .iload 0, .ldc 72, .if_icmp .le 8, .ldc 1, .ireturn, .iload 0, .istore 1, .ldc 1, .istore 2, .ldc 1, .istore 3, .iload 3, .ldc 13, .if_icmp .ge 36, .iload 1, .ifCond .le 36, .iload 1, .ldc 27, .irem, .ldc 2, .isub, .ldc 14, .invokestatic 35, .ifCond .ne 29, .ldc 1, .ireturn, .iload 1, .ldc 27, .idiv, .istore 1, .iinc 2 2, .iinc 3 2, .goto 14, .iload 2, .ireturn]
def pr_Words_add : List Instr := [.aload 0, .getfield 387, .ldc 27, .if_icmp .lt 6, .ldc 16, .ireturn, .iload 2, .istore 3, .aload 0, .getfield 384, .aload 0, .getfield 387, .iload 1, .iastore, .aload 0, .getfield 385, .aload 0, .getfield 387, .iload 2, .invokestatic 183, .iastore, .aload 0, .getfield 385, .aload 0, .getfield 387, .iaload, .ldc 2, .isub, .istore 4, .iload 4, .ifCond .lt 49, .aload 0, .getfield 386, .aload 0, .getfield 387, .aaload, .iload 4, .iload 3, .ldc 27, .irem, .ldc 2, .isub, .iastore, .iload 3, .ldc 27, .idiv, .istore 3, .iinc 4 0, .goto 29, .aload 0, .dup, .getfield 387, .dup_x1, .ldc 2, .iadd, .putfield 387, .ireturn]
def pr_Words_usedAhead : List Instr := [.aload 0, .getfield 386, .iload 1, .aaload, .iload 2, .iaload, .istore 4, .aload 3, .iload 4, .iaload, .istore 5, .ldc 1, .istore 6, .iload 6, .iload 2, .if_icmp .ge 27, .aload 0, .getfield 386, .iload 1, .aaload, .iload 6, .iaload, .iload 4, .if_icmp .ne 25, .iinc 5 2, .iinc 6 2, .goto 13, .iload 5, .ldc 8, .invokedynamic 2, .ireturn]
def pr_Words_spend : List Instr := [.ldc 1, .istore 3, .iload 3, .aload 0, .getfield 385, .iload 1, .iaload, .if_icmp .ge 27, .aload 0, .getfield 386, .iload 1, .aaload, .iload 3, .iaload, .istore 4, .aload 2, .iload 4, .aload 2, .iload 4, .iaload, .ldc 2, .iadd, .ldc 8, .invokedynamic 2, .iastore, .iinc 3 2, .goto 2, .return_]
def pr_Writers_add : List Instr := [.iload 1, .ldc 4, .invokestatic 35, .ifCond .eq 12, .iload 2, .ldc 9, .invokestatic 35, .ifCond .eq 12, .iload 3, .ldc 10, .invokestatic 35, .ifCond .ne 14, .ldc 12, .ireturn, .aload 0, .getfield 451, .ldc 6, .if_icmp .lt 20, .ldc 16, .ireturn, .aload 0, .getfield 448, .aload 0, .getfield 451, .iload 1, .iastore, .aload 0, .getfield 449, .aload 0, .getfield 451, .iload 2, .iastore, .aload 0, .getfield 450, .aload 0, .getfield 451, .iload 3, .iastore, .aload 0, .dup, .getfield 451, .dup_x1, .ldc 2, .iadd, .putfield 451, .ireturn]
def pr_Str_length : List Instr := [.aload 0, .getfield 640, .arraylength, .aload 0, .invokevirtual 189, .ishr, .ireturn]
def pr_Str_coder : List Instr := [.getstatic 1, .ifCond .eq 5, .aload 0, .getfield 641, .goto 6, .ldc 2, .ireturn]
def pr_Str_isLatin1 : List Instr := [.getstatic 1, .ifCond .eq 7, .aload 0, .getfield 641, .ifCond .ne 7, .ldc 2, .goto 8, .ldc 1, .ireturn]
def pr_Str_charAt : List Instr := [.aload 0, .invokevirtual 190, .ifCond .eq 8, .aload 0, .getfield 640, .iload 1, .invokestatic 195, .ireturn, .aload 0, .getfield 640, .iload 1, .nop, .ireturn]
def pr_Str_checkIndex : List Instr := [.iload 0, .iload 1, .getstatic 2, .invokestatic 199, .pop, .return_]
def pr_Str_indexOf : List Instr := [.aload 0, .iload 1, .ldc 1, .invokevirtual 194, .ireturn]
def pr_Str_indexOf2 : List Instr := [.aload 0, .invokevirtual 190, .ifCond .eq 11, .aload 0, .getfield 640, .iload 1, .iload 2, .aload 0, .invokevirtual 188, .invokestatic 197, .goto 18, .aload 0, .getfield 640, .iload 1, .iload 2, .aload 0, .invokevirtual 188, .nop, .ireturn]
def pr_Lat_charAt : List Instr := [.iload 1, .aload 0, .arraylength, .invokestatic 192, .aload 0, .iload 1, .baload, .ldc 15, .iand, .i2c, .ireturn]
def pr_Lat_canEncode : List Instr := [.iload 0, .ifCond .lt 7, .iload 0, .ldc 15, .if_icmp .gt 7, .ldc 2, .goto 8, .ldc 1, .ireturn]
def pr_Lat_indexOf : List Instr := [.iload 1, .invokestatic 196, .ifCond .ne 5, .ldc 0, .ireturn, .iload 2, .ldc 1, .invokedynamic 1, .istore 2, .iload 3, .aload 0, .arraylength, .invokedynamic 2, .istore 3, .iload 2, .iload 3, .if_icmp .lt 19, .ldc 0, .ireturn, .aload 0, .iload 1, .iload 2, .iload 3, .invokestatic 198, .ireturn]
def pr_Lat_indexOfChar : List Instr := [.iload 1, .i2b, .istore 4, .iload 2, .istore 5, .iload 5, .iload 3, .if_icmp .ge 17, .aload 0, .iload 5, .baload, .iload 4, .if_icmp .ne 15, .iload 5, .ireturn, .iinc 5 2, .goto 5, .ldc 0, .ireturn]
def pr_Prec_checkIndex : List Instr := [.iload 0, .ifCond .lt 5, .iload 0, .iload 1, .if_icmp .lt 10, .aload 2, .iload 0, .iload 1, .nop, .nop, .iload 0, .ireturn]
abbrev y_X_set : Nat := 0
abbrev y_X_told : Nat := 1
abbrev y_X_word : Nat := 2
abbrev y_X_writer : Nat := 3
abbrev y_X_law : Nat := 4
abbrev y_X_rule : Nat := 5
abbrev y_X_feed : Nat := 6
abbrev y_X_text : Nat := 7
abbrev y_X_force : Nat := 8
abbrev y_X_costs : Nat := 9
abbrev y_X_write : Nat := 10
abbrev y_X_pass : Nat := 11
abbrev y_X_cheapest : Nat := 12
abbrev y_X_day : Nat := 13
abbrev y_X_all : Nat := 14
abbrev y_X_when : Nat := 15
abbrev y_X_choose : Nat := 16
abbrev y_X_rest : Nat := 17
abbrev y_X_turns : Nat := 18
abbrev y_X_burn : Nat := 19
abbrev y_X_worst : Nat := 20
abbrev y_X_best : Nat := 21
abbrev y_X_judge : Nat := 22
abbrev y_X_fits : Nat := 23
abbrev y_X_whose : Nat := 24
abbrev y_X_drawn : Nat := 25
abbrev y_X_chance : Nat := 26
abbrev y_X_image : Nat := 27
abbrev y_X_back : Nat := 28
abbrev y_X_count : Nat := 29
abbrev y_X_sheet : Nat := 30
abbrev y_X_cell : Nat := 31
abbrev y_X_copy : Nat := 32
abbrev y_X_writers : Nat := 33
abbrev y_X_taken : Nat := 34
abbrev y_X_within : Nat := 35
abbrev y_X_put : Nat := 36
abbrev y_X_item : Nat := 37
abbrev y_X_sum : Nat := 38
abbrev y_X_firstMost : Nat := 39
abbrev y_X_whoseHour : Nat := 40
abbrev y_X_isTurn : Nat := 41
abbrev y_X_digits : Nat := 42
abbrev y_X_commonDivisor : Nat := 43
abbrev y_X_refusalToJudge : Nat := 44
abbrev y_M_in : Nat := 45
abbrev y_M_within : Nat := 46
abbrev y_M_spell : Nat := 47
abbrev y_M_isWordNumber : Nat := 48
abbrev y_M_isWriter : Nat := 49
abbrev y_M_isLaw : Nat := 50
abbrev y_M_isOf : Nat := 51
abbrev y_M_set : Nat := 52
abbrev y_M_sizeOf : Nat := 53
abbrev y_M_told : Nat := 54
abbrev y_M_word : Nat := 55
abbrev y_M_writer : Nat := 56
abbrev y_M_law : Nat := 57
abbrev y_M_rule : Nat := 58
abbrev y_M_steep : Nat := 59
abbrev y_M_costBy : Nat := 60
abbrev y_M_agedBy : Nat := 61
abbrev y_M_feed : Nat := 62
abbrev y_M_byteAt : Nat := 63
abbrev y_M_next : Nat := 64
abbrev y_M_fail : Nat := 65
abbrev y_M_isLetter : Nat := 66
abbrev y_M_isWord : Nat := 67
abbrev y_M_isSign : Nat := 68
abbrev y_M_opens : Nat := 69
abbrev y_M_name : Nat := 70
abbrev y_M_atom : Nat := 71
abbrev y_M_term : Nat := 72
abbrev y_M_added : Nat := 73
abbrev y_M_not : Nat := 74
abbrev y_M_both : Nat := 75
abbrev y_M_either : Nat := 76
abbrev y_M_part : Nat := 77
abbrev y_M_read : Nat := 78
abbrev y_M_text : Nat := 79
abbrev y_M_force : Nat := 80
abbrev y_M_adds : Nat := 81
abbrev y_M_says : Nat := 82
abbrev y_M_keptRead : Nat := 83
abbrev y_M_takes : Nat := 84
abbrev y_M_writes : Nat := 85
abbrev y_M_costOf : Nat := 86
abbrev y_M_ages : Nat := 87
abbrev y_M_rowSum : Nat := 88
abbrev y_M_keeps : Nat := 89
abbrev y_M_costs : Nat := 90
abbrev y_M_write : Nat := 91
abbrev y_M_pass : Nat := 92
abbrev y_M_cheapest : Nat := 93
abbrev y_M_turnOf : Nat := 94
abbrev y_M_passesDay : Nat := 95
abbrev y_M_dayNow : Nat := 96
abbrev y_M_goodOf : Nat := 97
abbrev y_M_allGood : Nat := 98
abbrev y_M_saying : Nat := 99
abbrev y_M_day : Nat := 100
abbrev y_M_all : Nat := 101
abbrev y_M_seeks : Nat := 102
abbrev y_M_when : Nat := 103
abbrev y_M_choose : Nat := 104
abbrev y_M_rest : Nat := 105
abbrev y_M_orders : Nat := 106
abbrev y_M_turns : Nat := 107
abbrev y_M_burned : Nat := 108
abbrev y_M_burn : Nat := 109
abbrev y_M_worst : Nat := 110
abbrev y_M_best : Nat := 111
abbrev y_M_paidBad : Nat := 112
abbrev y_M_unlike : Nat := 113
abbrev y_M_judge : Nat := 114
abbrev y_M_fits : Nat := 115
abbrev y_M_whose : Nat := 116
abbrev y_M_draws : Nat := 117
abbrev y_M_drawn : Nat := 118
abbrev y_M_chance : Nat := 119
abbrev y_M_image : Nat := 120
abbrev y_M_back : Nat := 121
abbrev y_M_count : Nat := 122
abbrev y_M_isSheet : Nat := 123
abbrev y_M_sheet : Nat := 124
abbrev y_M_cell : Nat := 125
abbrev y_M_copy : Nat := 126
abbrev y_M_writers : Nat := 127
abbrev y_M_over : Nat := 128
abbrev y_M_taken : Nat := 129
abbrev y_Day_dawn : Nat := 130
abbrev y_Day_draw : Nat := 131
abbrev y_Day_live : Nat := 132
abbrev y_Day_liveTo : Nat := 133
abbrev y_Day_takeTurn : Nat := 134
abbrev y_Day_costOf : Nat := 135
abbrev y_Day_tryHours : Nat := 136
abbrev y_Day_goodIfBurned : Nat := 137
abbrev y_Day_allGood : Nat := 138
abbrev y_Day_allPaid : Nat := 139
abbrev y_Day_howManySaid : Nat := 140
abbrev y_Day_spread : Nat := 141
abbrev y_Day_firstUnlike : Nat := 142
abbrev y_Image_keepWriters : Nat := 143
abbrev y_Image_restoreWriters : Nat := 144
abbrev y_Image_keepLaws : Nat := 145
abbrev y_Image_restoreLaws : Nat := 146
abbrev y_Laws_add : Nat := 147
abbrev y_Laws_isUnder : Nat := 148
abbrev y_Laws_price : Nat := 149
abbrev y_Laws_steep : Nat := 150
abbrev y_Laws_age : Nat := 151
abbrev y_Laws_aged : Nat := 152
abbrev y_Reader_append : Nat := 153
abbrev y_Reader_load : Nat := 154
abbrev y_Reader_read : Nat := 155
abbrev y_Reader_refuse : Nat := 156
abbrev y_Reader_expect : Nat := 157
abbrev y_Reader_emit : Nat := 158
abbrev y_Reader_readE : Nat := 159
abbrev y_Reader_readAnd : Nat := 160
abbrev y_Reader_readNot : Nat := 161
abbrev y_Reader_readCompared : Nat := 162
abbrev y_Reader_readSum : Nat := 163
abbrev y_Reader_readTerm : Nat := 164
abbrev y_Reader_readOne : Nat := 165
abbrev y_Reader_next : Nat := 166
abbrev y_Reader_nextWord : Nat := 167
abbrev y_Reader_nextNumber : Nat := 168
abbrev y_Reader_knownWord : Nat := 169
abbrev y_Reader_isBlank : Nat := 170
abbrev y_Reader_isLetter : Nat := 171
abbrev y_Reader_isDigit : Nat := 172
abbrev y_Sheets_lay : Nat := 173
abbrev y_Sheets_put : Nat := 174
abbrev y_Sheets_hasRoom : Nat := 175
abbrev y_Texts_add : Nat := 176
abbrev y_Texts_adds : Nat := 177
abbrev y_Texts_worth : Nat := 178
abbrev y_Texts_may : Nat := 179
abbrev y_Texts_tell : Nat := 180
abbrev y_Texts_bounded : Nat := 181
abbrev y_Texts_valued : Nat := 182
abbrev y_Words_lengthOf : Nat := 183
abbrev y_Words_add : Nat := 184
abbrev y_Words_usedAhead : Nat := 185
abbrev y_Words_spend : Nat := 186
abbrev y_Writers_add : Nat := 187
abbrev y_Str_length : Nat := 188
abbrev y_Str_coder : Nat := 189
abbrev y_Str_isLatin1 : Nat := 190
abbrev y_Str_charAt : Nat := 191
abbrev y_Str_checkIndex : Nat := 192
abbrev y_Str_indexOf : Nat := 193
abbrev y_Str_indexOf2 : Nat := 194
abbrev y_Lat_charAt : Nat := 195
abbrev y_Lat_canEncode : Nat := 196
abbrev y_Lat_indexOf : Nat := 197
abbrev y_Lat_indexOfChar : Nat := 198
abbrev y_Prec_checkIndex : Nat := 199
def progL : List (List Instr) := [pr_X_set, pr_X_told, pr_X_word, pr_X_writer, pr_X_law, pr_X_rule, pr_X_feed, pr_X_text, pr_X_force, pr_X_costs, pr_X_write, pr_X_pass, pr_X_cheapest, pr_X_day, pr_X_all, pr_X_when, pr_X_choose, pr_X_rest, pr_X_turns, pr_X_burn, pr_X_worst, pr_X_best, pr_X_judge, pr_X_fits, pr_X_whose, pr_X_drawn, pr_X_chance, pr_X_image, pr_X_back, pr_X_count, pr_X_sheet, pr_X_cell, pr_X_copy, pr_X_writers, pr_X_taken, pr_X_within, pr_X_put, pr_X_item, pr_X_sum, pr_X_firstMost, pr_X_whoseHour, pr_X_isTurn, pr_X_digits, pr_X_commonDivisor, pr_X_refusalToJudge, pr_M_in, pr_M_within, pr_M_spell, pr_M_isWordNumber, pr_M_isWriter, pr_M_isLaw, pr_M_isOf, pr_M_set, pr_M_sizeOf, pr_M_told, pr_M_word, pr_M_writer, pr_M_law, pr_M_rule, pr_M_steep, pr_M_costBy, pr_M_agedBy, pr_M_feed, pr_M_byteAt, pr_M_next, pr_M_fail, pr_M_isLetter, pr_M_isWord, pr_M_isSign, pr_M_opens, pr_M_name, pr_M_atom, pr_M_term, pr_M_added, pr_M_not, pr_M_both, pr_M_either, pr_M_part, pr_M_read, pr_M_text, pr_M_force, pr_M_adds, pr_M_says, pr_M_keptRead, pr_M_takes, pr_M_writes, pr_M_costOf, pr_M_ages, pr_M_rowSum, pr_M_keeps, pr_M_costs, pr_M_write, pr_M_pass, pr_M_cheapest, pr_M_turnOf, pr_M_passesDay, pr_M_dayNow, pr_M_goodOf, pr_M_allGood, pr_M_saying, pr_M_day, pr_M_all, pr_M_seeks, pr_M_when, pr_M_choose, pr_M_rest, pr_M_orders, pr_M_turns, pr_M_burned, pr_M_burn, pr_M_worst, pr_M_best, pr_M_paidBad, pr_M_unlike, pr_M_judge, pr_M_fits, pr_M_whose, pr_M_draws, pr_M_drawn, pr_M_chance, pr_M_image, pr_M_back, pr_M_count, pr_M_isSheet, pr_M_sheet, pr_M_cell, pr_M_copy, pr_M_writers, pr_M_over, pr_M_taken, pr_Day_dawn, pr_Day_draw, pr_Day_live, pr_Day_liveTo, pr_Day_takeTurn, pr_Day_costOf, pr_Day_tryHours, pr_Day_goodIfBurned, pr_Day_allGood, pr_Day_allPaid, pr_Day_howManySaid, pr_Day_spread, pr_Day_firstUnlike, pr_Image_keepWriters, pr_Image_restoreWriters, pr_Image_keepLaws, pr_Image_restoreLaws, pr_Laws_add, pr_Laws_isUnder, pr_Laws_price, pr_Laws_steep, pr_Laws_age, pr_Laws_aged, pr_Reader_append, pr_Reader_load, pr_Reader_read, pr_Reader_refuse, pr_Reader_expect, pr_Reader_emit, pr_Reader_readE, pr_Reader_readAnd, pr_Reader_readNot, pr_Reader_readCompared, pr_Reader_readSum, pr_Reader_readTerm, pr_Reader_readOne, pr_Reader_next, pr_Reader_nextWord, pr_Reader_nextNumber, pr_Reader_knownWord, pr_Reader_isBlank, pr_Reader_isLetter, pr_Reader_isDigit, pr_Sheets_lay, pr_Sheets_put, pr_Sheets_hasRoom, pr_Texts_add, pr_Texts_adds, pr_Texts_worth, pr_Texts_may, pr_Texts_tell, pr_Texts_bounded, pr_Texts_valued, pr_Words_lengthOf, pr_Words_add, pr_Words_usedAhead, pr_Words_spend, pr_Writers_add, pr_Str_length, pr_Str_coder, pr_Str_isLatin1, pr_Str_charAt, pr_Str_checkIndex, pr_Str_indexOf, pr_Str_indexOf2, pr_Lat_charAt, pr_Lat_canEncode, pr_Lat_indexOf, pr_Lat_indexOfChar, pr_Prec_checkIndex]
def cK (n : Nat) : Int32 := nth 0 cKl n
def cL (n : Nat) : Int64 := nth 0 cLl n
def sK (n : Nat) : Value := nth .null sKl n
def prog (y : Nat) : List Instr := nth [] progL y
/-! ===== THE ABSTRACT MACHINE: methods over a memory of int cells (and long ones); a reference is the number of a cell ===== -/
abbrev Mem : Type := (Nat → Nat → Int32) × (Nat → Nat → Int64)
def wI (μ : Mem) (k : Nat) (g : Nat → Int32) : Mem := (fun a => if a = k then g else μ.1 a, μ.2)
def wL (μ : Mem) (k : Nat) (g : Nat → Int64) : Mem := (μ.1, fun a => if a = k then g else μ.2 a)
abbrev PP : Type := Nat → List Value → List Value → Mem → Prop
abbrev QQ : Type := Value → Mem → Prop
abbrev KK : Type := Nat → List Value → Mem → QQ → Prop
/-- a local that holds nothing -/
abbrev un : Value := .retAddr 0
def pI (st : List Value) (f : Int32 → List Value → Prop) : Prop := match st with
  | .int a :: r => f a r
  | _ => False
def pII (st : List Value) (f : Int32 → Int32 → List Value → Prop) : Prop := match st with
  | .int b :: .int a :: r => f a b r
  | _ => False
def pL (st : List Value) (f : Int64 → List Value → Prop) : Prop := match st with
  | .long a :: r => f a r
  | _ => False
def pLL (st : List Value) (f : Int64 → Int64 → List Value → Prop) : Prop := match st with
  | .long b :: .long a :: r => f a b r
  | _ => False
def pLI (st : List Value) (f : Int64 → Int32 → List Value → Prop) : Prop := match st with
  | .int b :: .long a :: r => f a b r
  | _ => False
def pR (st : List Value) (f : Nat → List Value → Prop) : Prop := match st with
  | .ref k :: r => f k r
  | _ => False
/-- array, index -/
def pRI (st : List Value) (f : Nat → Int32 → List Value → Prop) : Prop := match st with
  | .int i :: .ref k :: r => f k i r
  | _ => False
def pRII (st : List Value) (f : Nat → Int32 → Int32 → List Value → Prop) : Prop := match st with
  | .int v :: .int i :: .ref k :: r => f k i v r
  | _ => False
def pRIL (st : List Value) (f : Nat → Int32 → Int64 → List Value → Prop) : Prop := match st with
  | .long v :: .int i :: .ref k :: r => f k i v r
  | _ => False
def pIR' (st : List Value) (f : Nat → Int32 → List Value → Prop) : Prop := match st with
  | .int v :: .ref k :: r => f k v r
  | _ => False
def pLR' (st : List Value) (f : Nat → Int64 → List Value → Prop) : Prop := match st with
  | .long v :: .ref k :: r => f k v r
  | _ => False
def csum : List Value → Nat
  | [] => 0
  | v :: r => v.category + csum r
def isL : Value → Bool
  | .long _ => true
  | .double _ => true
  | _ => false
/-- the store at n spoils no long that begins at n - 1 -/
def okst (lv : List Value) : Nat → Bool
  | 0 => true
  | n + 1 => !isL (nth un lv n)
def cnd (c : Jvm.ClassFile.Cond) (a b : Int32) (A B : Prop) : Prop := match c with
  | .eq => (a = b → A) ∧ (¬ a = b → B)
  | .ne => (¬ a = b → A) ∧ (a = b → B)
  | .lt => (a < b → A) ∧ (¬ a < b → B)
  | .ge => (b ≤ a → A) ∧ (¬ b ≤ a → B)
  | .gt => (b < a → A) ∧ (¬ b < a → B)
  | .le => (a ≤ b → A) ∧ (¬ a ≤ b → B)
def swc (x : Int32) : List (Int × Int) → (Nat → Prop) → Nat → Prop
  | [], P, d => P d
  | (v, t) :: l, P, d => (x = cK v.toNat → P t.toNat) ∧ (¬ x = cK v.toNat → swc x l P d)
def ent : List Value → List Value
  | [] => []
  | .long v :: r => .long v :: un :: ent r
  | .double v :: r => .double v :: un :: ent r
  | v :: r => v :: ent r
def pad : Nat → List Value → List Value
  | 0, _ => []
  | n + 1, [] => un :: pad n []
  | n + 1, v :: r => v :: pad n r
def lay (sd k : Nat) : Nat × Nat × Nat := nth (9, 0, 0) (match sd with | 0 => layX | _ => layM) k
def ilen (sd k : Nat) : Nat := match lay sd k with
  | (1, n, _) => n
  | _ => 0
def wlen (sd k : Nat) : Nat := match lay sd k with
  | (1, n, 0) => n
  | _ => 0
def llen (sd k : Nat) : Nat := match lay sd k with
  | (2, n, _) => n
  | _ => 0
def zlen (sd k : Nat) : Nat := match lay sd k with
  | (3, n, _) => n
  | _ => 0
def blen (sd k : Nat) : Nat := match lay sd k with
  | (4, n, _) => n
  | _ => 0
def alen (sd k : Nat) : Nat := match lay sd k with
  | (5, n, _) => n
  | _ => 0
def achild (sd k : Nat) : Nat := match lay sd k with
  | (5, _, c) => c
  | _ => 0
/-- of a field: its sort (0 int, 1 boolean, 2 long, 3 a cell, 4 byte), the cell -/
def fld (sd k j : Nat) : Nat × Nat := nth (9, 0) (nth [] (match sd with | 0 => fldX | _ => fldM) k) j
def clsIs (sd k c : Nat) : Bool := match lay sd k with
  | (0, c', _) => Nat.beq c' c
  | _ => false
/-- of a method: its side, the class, words of locals, how many values it takes, its answer's type, 1 where it is static -/
def inf (y : Nat) : Nat × Nat × Nat × Nat × Option FieldType × Nat := nth (9, 0, 0, 0, none, 0) infL y
def ret1 (t : Option FieldType) (r : Value) (f : List Value → Prop) : Prop := match t with
  | none => f []
  | some .long => ∃ x : Int64, r = .long x ∧ f [.long x]
  | some _ => ∃ x : Int32, r = .int x ∧ f [.int x]
def call (K : KK) (sd y' : Nat) (vst : Bool) (i : Nat) (lv st : List Value) (μ : Mem) (P : PP) : Prop := match inf y' with
  | (sd', c, mx, n, t, s) => match (Nat.beq sd sd' && Nat.ble n st.length && Nat.ble (csum (st.drop n)) 8 && Nat.ble (csum (st.take n)) mx && (match vst with | true => Nat.beq s 1 | false => Nat.beq s 0 && (match nth un st (n - 1) with | .ref k => clsIs sd k c | _ => false))) with
    | true => K y' (st.take n).reverse μ (fun r μ' => ret1 t r (fun l => P (i + 1) lv (l ++ st.drop n) μ'))
    | false => False
def narOk (t : FieldType) (v : Int32) (A : Prop) : Prop := match t with
  | .int => A
  | _ => narrow t (.int v) = .int v ∧ A
def copy5 (sd i : Nat) (lv st : List Value) (μ : Mem) (P : PP) : Prop := match st with
  | .int n :: .int dp :: .ref b :: .int sp :: .ref a :: r => match Nat.ble (csum r) 8 with
    | false => False
    | true => (¬ sp < 0 ∧ ¬ dp < 0 ∧ ¬ n < 0 ∧ sp.toNatClampNeg + n.toNatClampNeg ≤ wlen sd a ∧ dp.toNatClampNeg + n.toNatClampNeg ≤ wlen sd b ∧ 0 < wlen sd a ∧ 0 < wlen sd b) ∧ ∀ μ' : Mem, μ' = wI μ b (va_cpy (μ.1 a) (μ.1 b) sp.toNatClampNeg dp.toNatClampNeg n.toNatClampNeg) → P (i + 1) lv r μ'
  | _ => False
def prim (sd n i : Nat) (lv st : List Value) (μ : Mem) (P : PP) : Prop := match n with
  | 0 => copy5 sd i lv st μ P
  | 1 => pII st (fun a b r => match Nat.ble (csum r) 8 with
    | false => False
    | true => P (i + 1) lv (.int (if a < b then b else a) :: r) μ)
  | 2 => pII st (fun a b r => match Nat.ble (csum r) 8 with
    | false => False
    | true => P (i + 1) lv (.int (if b < a then b else a) :: r) μ)
  | _ => False
def stp (sd : Nat) (rt : Option FieldType) (K : KK) (Q : QQ) (ins : Instr) (i : Nat) (lv st : List Value) (μ : Mem) (P : PP) : Prop := match ins with
  | .ldc n => P (i + 1) lv (.int (cK n) :: st) μ
  | .ldc2_w n => P (i + 1) lv (.long (cL n) :: st) μ
  | .ldc_w n => P (i + 1) lv (.ref n :: st) μ
  | .getstatic n => P (i + 1) lv (sK n :: st) μ
  | .iload n => match nth un lv n with
    | .int x => P (i + 1) lv (.int x :: st) μ
    | _ => False
  | .lload n => match nth un lv n with
    | .long x => P (i + 1) lv (.long x :: st) μ
    | _ => False
  | .aload n => match nth un lv n with
    | .ref x => P (i + 1) lv (.ref x :: st) μ
    | _ => False
  | .istore n => pI st (fun x r => match (okst lv n && Nat.blt n lv.length) with
    | true => P (i + 1) (lv.set n (.int x)) r μ
    | false => False)
  | .astore n => pR st (fun x r => match (okst lv n && Nat.blt n lv.length) with
    | true => P (i + 1) (lv.set n (.ref x)) r μ
    | false => False)
  | .lstore n => pL st (fun x r => match (okst lv n && Nat.blt (n + 1) lv.length) with
    | true => P (i + 1) ((lv.set n (.long x)).set (n + 1) un) r μ
    | false => False)
  | .iinc n c => match nth un lv n with
    | .int x => match (okst lv n && Nat.blt n lv.length) with
      | true => P (i + 1) (lv.set n (.int (x + cK c.toNat))) st μ
      | false => False
    | _ => False
  | .iadd => pII st (fun a b r => P (i + 1) lv (.int (a + b) :: r) μ)
  | .isub => pII st (fun a b r => P (i + 1) lv (.int (a - b) :: r) μ)
  | .imul => pII st (fun a b r => P (i + 1) lv (.int (a * b) :: r) μ)
  | .idiv => pII st (fun a b r => ¬ b = 0 ∧ P (i + 1) lv (.int (a / b) :: r) μ)
  | .irem => pII st (fun a b r => ¬ b = 0 ∧ P (i + 1) lv (.int (a - a / b * b) :: r) μ)
  | .ineg => pI st (fun a r => P (i + 1) lv (.int (-a) :: r) μ)
  | .iand => pII st (fun a b r => P (i + 1) lv (.int (a &&& b) :: r) μ)
  | .ior => pII st (fun a b r => P (i + 1) lv (.int (a ||| b) :: r) μ)
  | .ishl => pII st (fun a b r => P (i + 1) lv (.int (a <<< (b &&& 31)) :: r) μ)
  | .ishr => pII st (fun a b r => P (i + 1) lv (.int (a >>> (b &&& 31)) :: r) μ)
  | .iushr => pII st (fun a b r => P (i + 1) lv (.int (a.toUInt32 >>> (b.toUInt32 &&& Int32.toUInt32 31)).toInt32 :: r) μ)
  | .i2l => pI st (fun a r => P (i + 1) lv (.long a.toInt64 :: r) μ)
  | .l2i => pL st (fun a r => P (i + 1) lv (.int a.toInt32 :: r) μ)
  | .i2b => pI st (fun a r => P (i + 1) lv (.int a.toInt8.toInt32 :: r) μ)
  | .i2s => pI st (fun a r => P (i + 1) lv (.int a.toInt16.toInt32 :: r) μ)
  | .i2c => pI st (fun a r => P (i + 1) lv (.int (a.toUInt32 % 65536).toInt32 :: r) μ)
  | .ladd => pLL st (fun a b r => P (i + 1) lv (.long (a + b) :: r) μ)
  | .lsub => pLL st (fun a b r => P (i + 1) lv (.long (a - b) :: r) μ)
  | .lmul => pLL st (fun a b r => P (i + 1) lv (.long (a * b) :: r) μ)
  | .ldiv => pLL st (fun a b r => ¬ b = 0 ∧ P (i + 1) lv (.long (a / b) :: r) μ)
  | .lrem => pLL st (fun a b r => ¬ b = 0 ∧ P (i + 1) lv (.long (a - a / b * b) :: r) μ)
  | .lushr => pLI st (fun a b r => P (i + 1) lv (.long (a.toUInt64 >>> (b.toInt64.toUInt64 &&& Int64.toUInt64 63)).toInt64 :: r) μ)
  | .lcmp => pLL st (fun a b r => P (i + 1) lv (.int (lg_cmp a b) :: r) μ)
  | .dup => match st with
    | v :: r => match Nat.beq v.category 1 with
      | true => P (i + 1) lv (v :: v :: r) μ
      | false => False
    | _ => False
  | .dup_x1 => match st with
    | v :: w :: r => match (Nat.beq v.category 1 && Nat.beq w.category 1) with
      | true => P (i + 1) lv (v :: w :: v :: r) μ
      | false => False
    | _ => False
  | .pop => match st with
    | v :: r => match Nat.beq v.category 1 with
      | true => P (i + 1) lv r μ
      | false => False
    | _ => False
  | .ifCond c t => pI st (fun a r => cnd c a 0 (P t.toNat lv r μ) (P (i + 1) lv r μ))
  | .if_icmp c t => pII st (fun a b r => cnd c a b (P t.toNat lv r μ) (P (i + 1) lv r μ))
  | .goto t => P t.toNat lv st μ
  | .lookupswitch d ps => pI st (fun a r => swc a ps.toList (fun t => P t lv r μ) d.toNat)
  | .arraylength => pR st (fun k r => match lay sd k with
    | (0, _, _) => False
    | (9, _, _) => False
    | (_, n, _) => P (i + 1) lv (.int (Int32.ofNat n) :: r) μ)
  | .iaload => pRI st (fun k j r => vp_in j (ilen sd k) ∧ P (i + 1) lv (.int (μ.1 k j.toNatClampNeg) :: r) μ)
  | .iastore => pRII st (fun k j v r => vp_in j (wlen sd k) ∧ ∀ μ' : Mem, μ' = wI μ k (upd (μ.1 k) j.toNatClampNeg v) → P (i + 1) lv r μ')
  | .baload => pRI st (fun k j r => vp_in j (zlen sd k + blen sd k) ∧ P (i + 1) lv (.int (μ.1 k j.toNatClampNeg) :: r) μ)
  | .bastore => pRII st (fun k j v r => vp_in j (zlen sd k) ∧ ∀ μ' : Mem, μ' = wI μ k (upd (μ.1 k) j.toNatClampNeg (vp_nar .boolean v)) → P (i + 1) lv r μ')
  | .laload => pRI st (fun k j r => vp_in j (llen sd k) ∧ P (i + 1) lv (.long (μ.2 k j.toNatClampNeg) :: r) μ)
  | .lastore => pRIL st (fun k j v r => vp_in j (llen sd k) ∧ ∀ μ' : Mem, μ' = wL μ k (vp_updL (μ.2 k) j.toNatClampNeg v) → P (i + 1) lv r μ')
  | .aaload => pRI st (fun k j r => vp_in j (alen sd k) ∧ P (i + 1) lv (.ref (achild sd k + j.toNatClampNeg) :: r) μ)
  | .getfield n => pR st (fun k r => match clsIs sd k (n / 64) with
    | true => (match fld sd k (n % 64) with
      | (3, c) => P (i + 1) lv (.ref c :: r) μ
      | (2, _) => P (i + 1) lv (.long (μ.2 k (n % 64)) :: r) μ
      | (9, _) => False
      | _ => P (i + 1) lv (.int (μ.1 k (n % 64)) :: r) μ)
    | false => False)
  | .putfield n => match st with
    | .int v :: .ref k :: r => (match clsIs sd k (n / 64) with
      | true => (match fld sd k (n % 64) with
        | (0, _) => ∀ μ' : Mem, μ' = wI μ k (upd (μ.1 k) (n % 64) v) → P (i + 1) lv r μ'
        | (1, _) => narrow .boolean (.int v) = .int v ∧ ∀ μ' : Mem, μ' = wI μ k (upd (μ.1 k) (n % 64) v) → P (i + 1) lv r μ'
        | _ => False)
      | false => False)
    | .long v :: .ref k :: r => (match clsIs sd k (n / 64) with
      | true => (match fld sd k (n % 64) with
        | (2, _) => ∀ μ' : Mem, μ' = wL μ k (vp_updL (μ.2 k) (n % 64) v) → P (i + 1) lv r μ'
        | _ => False)
      | false => False)
    | _ => False
  | .invokestatic y => call K sd y true i lv st μ P
  | .invokevirtual y => call K sd y false i lv st μ P
  | .invokedynamic n => prim sd n i lv st μ P
  | .ireturn => match st, rt with
    | [.int v], some t => narOk t v (Q (.int v) μ)
    | _, _ => False
  | .lreturn => match st, rt with
    | [.long v], some .long => Q (.long v) μ
    | _, _ => False
  | .return_ => match st, rt with
    | [], none => Q .null μ
    | _, _ => False
  | _ => False
/-- the least that is closed under steps -/
def AA (K : KK) (y : Nat) (Q : QQ) (i : Nat) (lv st : List Value) (μ : Mem) : Prop :=
  ∀ P : PP, (∀ i lv st μ, stp (inf y).1 (inf y).2.2.2.2.1 K Q (nth .nop (prog y) i) i lv st μ P → P i lv st μ) → P i lv st μ
def Call : Nat → KK
  | 0 => fun _ _ _ _ => False
  | d + 1 => fun y args μ Q => AA (Call d) y Q 0 (pad (inf y).2.2.1 (ent args)) [] μ
def KMono (K : KK) : Prop := ∀ (y : Nat) (args : List Value) (μ : Mem) (Q Q' : QQ), (∀ r μ', Q r μ' → Q' r μ') → K y args μ Q → K y args μ Q'
theorem cnd_mono {c : Jvm.ClassFile.Cond} {a b : Int32} {A B A' B' : Prop} (hA : A → A') (hB : B → B') (h : cnd c a b A B) : cnd c a b A' B' := by
  cases c <;> exact ⟨fun x => by first | exact hA (h.1 x) | exact hB (h.1 x), fun x => by first | exact hB (h.2 x) | exact hA (h.2 x)⟩
theorem swc_mono {x : Int32} {P P' : Nat → Prop} (hP : ∀ t, P t → P' t) : ∀ (l : List (Int × Int)) (d : Nat), swc x l P d → swc x l P' d
  | [], d, h => hP d h
  | (v, t) :: l, d, h => ⟨fun e => hP _ (h.1 e), fun e => swc_mono hP l d (h.2 e)⟩
theorem ret1_mono {t : Option FieldType} {r : Value} {f g : List Value → Prop} (hf : ∀ l, f l → g l) (h : ret1 t r f) : ret1 t r g := by
  cases t with
  | none => exact hf _ h
  | some t =>
    cases t <;> (obtain ⟨x, e, h⟩ := h; exact ⟨x, e, hf _ h⟩)
theorem call_mono {K : KK} (hK : KMono K) {sd y' : Nat} {vst : Bool} {i : Nat} {lv st : List Value} {μ : Mem} {P P' : PP} (hP : ∀ i lv st μ, P i lv st μ → P' i lv st μ) (h : call K sd y' vst i lv st μ P) : call K sd y' vst i lv st μ P' := by
  unfold call at h ⊢
  split at h
  rename_i q1
  split at h
  · exact hK _ _ _ _ _ (fun r μ' hr => ret1_mono (fun l hl => hP _ _ _ _ hl) hr) h
  · exact h
theorem narOk_mono {t : FieldType} {v : Int32} {A B : Prop} (hAB : A → B) (h : narOk t v A) : narOk t v B := by
  unfold narOk at h ⊢
  cases t <;> first | exact hAB h | exact ⟨h.1, hAB h.2⟩
theorem pI_mono {st : List Value} {f g : Int32 → List Value → Prop} (hf : ∀ a r, f a r → g a r) (h : pI st f) : pI st g := by
  unfold pI at h ⊢; split at h <;> first | exact hf _ _ h | exact h.elim
theorem pII_mono {st : List Value} {f g : Int32 → Int32 → List Value → Prop} (hf : ∀ a b r, f a b r → g a b r) (h : pII st f) : pII st g := by
  unfold pII at h ⊢; split at h <;> first | exact hf _ _ _ h | exact h.elim
theorem pL_mono {st : List Value} {f g : Int64 → List Value → Prop} (hf : ∀ a r, f a r → g a r) (h : pL st f) : pL st g := by
  unfold pL at h ⊢; split at h <;> first | exact hf _ _ h | exact h.elim
theorem pLL_mono {st : List Value} {f g : Int64 → Int64 → List Value → Prop} (hf : ∀ a b r, f a b r → g a b r) (h : pLL st f) : pLL st g := by
  unfold pLL at h ⊢; split at h <;> first | exact hf _ _ _ h | exact h.elim
theorem pLI_mono {st : List Value} {f g : Int64 → Int32 → List Value → Prop} (hf : ∀ a b r, f a b r → g a b r) (h : pLI st f) : pLI st g := by
  unfold pLI at h ⊢; split at h <;> first | exact hf _ _ _ h | exact h.elim
theorem pR_mono {st : List Value} {f g : Nat → List Value → Prop} (hf : ∀ a r, f a r → g a r) (h : pR st f) : pR st g := by
  unfold pR at h ⊢; split at h <;> first | exact hf _ _ h | exact h.elim
theorem pRI_mono {st : List Value} {f g : Nat → Int32 → List Value → Prop} (hf : ∀ a b r, f a b r → g a b r) (h : pRI st f) : pRI st g := by
  unfold pRI at h ⊢; split at h <;> first | exact hf _ _ _ h | exact h.elim
theorem pRII_mono {st : List Value} {f g : Nat → Int32 → Int32 → List Value → Prop} (hf : ∀ a b c r, f a b c r → g a b c r) (h : pRII st f) : pRII st g := by
  unfold pRII at h ⊢; split at h <;> first | exact hf _ _ _ _ h | exact h.elim
theorem pRIL_mono {st : List Value} {f g : Nat → Int32 → Int64 → List Value → Prop} (hf : ∀ a b c r, f a b c r → g a b c r) (h : pRIL st f) : pRIL st g := by
  unfold pRIL at h ⊢; split at h <;> first | exact hf _ _ _ _ h | exact h.elim
theorem prim_mono {sd n i : Nat} {lv st : List Value} {μ : Mem} {P P' : PP} (hP : ∀ i lv st μ, P i lv st μ → P' i lv st μ) (h : prim sd n i lv st μ P) : prim sd n i lv st μ P' := by
  match n, h with
  | 0, h =>
    show copy5 sd i lv st μ P'
    have h : copy5 sd i lv st μ P := h
    unfold copy5 at h ⊢
    split at h <;> first | exact h.elim | (split at h <;> first | exact h.elim | exact ⟨h.1, fun m e => hP _ _ _ _ (h.2 m e)⟩)
  | 1, h => exact pII_mono (fun _ _ _ h => by split at h <;> first | exact h.elim | exact hP _ _ _ _ h) h
  | 2, h => exact pII_mono (fun _ _ _ h => by split at h <;> first | exact h.elim | exact hP _ _ _ _ h) h
  | n + 3, h => exact h.elim
set_option maxHeartbeats 4000000 in
theorem stp_mono {sd : Nat} {rt : Option FieldType} {K : KK} (hK : KMono K) {Q Q' : QQ} (hQ : ∀ r μ, Q r μ → Q' r μ) {P P' : PP} (hP : ∀ i lv st μ, P i lv st μ → P' i lv st μ) {ins : Instr} {i : Nat} {lv st : List Value} {μ : Mem} (h : stp sd rt K Q ins i lv st μ P) : stp sd rt K Q' ins i lv st μ P' := by
  unfold stp at h ⊢
  cases ins
  case ldc => exact hP _ _ _ _ h
  case ldc2_w => exact hP _ _ _ _ h
  case ldc_w => exact hP _ _ _ _ h
  case getstatic => exact hP _ _ _ _ h
  case iload => dsimp only at h ⊢; split at h <;> first | exact hP _ _ _ _ h | exact h.elim
  case lload => dsimp only at h ⊢; split at h <;> first | exact hP _ _ _ _ h | exact h.elim
  case aload => dsimp only at h ⊢; split at h <;> first | exact hP _ _ _ _ h | exact h.elim
  case istore => exact pI_mono (fun _ _ h => by split at h <;> first | exact hP _ _ _ _ h | exact h.elim) h
  case astore => exact pR_mono (fun _ _ h => by split at h <;> first | exact hP _ _ _ _ h | exact h.elim) h
  case lstore => exact pL_mono (fun _ _ h => by split at h <;> first | exact hP _ _ _ _ h | exact h.elim) h
  case iinc => dsimp only at h ⊢; split at h <;> first | exact h.elim | (split at h <;> first | exact hP _ _ _ _ h | exact h.elim)
  case iadd => exact pII_mono (fun _ _ _ h => hP _ _ _ _ h) h
  case isub => exact pII_mono (fun _ _ _ h => hP _ _ _ _ h) h
  case imul => exact pII_mono (fun _ _ _ h => hP _ _ _ _ h) h
  case idiv => exact pII_mono (fun _ _ _ h => ⟨h.1, hP _ _ _ _ h.2⟩) h
  case irem => exact pII_mono (fun _ _ _ h => ⟨h.1, hP _ _ _ _ h.2⟩) h
  case ineg => exact pI_mono (fun _ _ h => hP _ _ _ _ h) h
  case iand => exact pII_mono (fun _ _ _ h => hP _ _ _ _ h) h
  case ior => exact pII_mono (fun _ _ _ h => hP _ _ _ _ h) h
  case ishl => exact pII_mono (fun _ _ _ h => hP _ _ _ _ h) h
  case ishr => exact pII_mono (fun _ _ _ h => hP _ _ _ _ h) h
  case iushr => exact pII_mono (fun _ _ _ h => hP _ _ _ _ h) h
  case i2l => exact pI_mono (fun _ _ h => hP _ _ _ _ h) h
  case l2i => exact pL_mono (fun _ _ h => hP _ _ _ _ h) h
  case i2b => exact pI_mono (fun _ _ h => hP _ _ _ _ h) h
  case i2s => exact pI_mono (fun _ _ h => hP _ _ _ _ h) h
  case i2c => exact pI_mono (fun _ _ h => hP _ _ _ _ h) h
  case ladd => exact pLL_mono (fun _ _ _ h => hP _ _ _ _ h) h
  case lsub => exact pLL_mono (fun _ _ _ h => hP _ _ _ _ h) h
  case lmul => exact pLL_mono (fun _ _ _ h => hP _ _ _ _ h) h
  case ldiv => exact pLL_mono (fun _ _ _ h => ⟨h.1, hP _ _ _ _ h.2⟩) h
  case lrem => exact pLL_mono (fun _ _ _ h => ⟨h.1, hP _ _ _ _ h.2⟩) h
  case lushr => exact pLI_mono (fun _ _ _ h => hP _ _ _ _ h) h
  case lcmp => exact pLL_mono (fun _ _ _ h => hP _ _ _ _ h) h
  case dup => dsimp only at h ⊢; split at h <;> first | exact h.elim | (split at h <;> first | exact hP _ _ _ _ h | exact h.elim)
  case dup_x1 => dsimp only at h ⊢; split at h <;> first | exact h.elim | (split at h <;> first | exact hP _ _ _ _ h | exact h.elim)
  case pop => dsimp only at h ⊢; split at h <;> first | exact h.elim | (split at h <;> first | exact hP _ _ _ _ h | exact h.elim)
  case ifCond => exact pI_mono (fun _ _ h => cnd_mono (hP _ _ _ _) (hP _ _ _ _) h) h
  case if_icmp => exact pII_mono (fun _ _ _ h => cnd_mono (hP _ _ _ _) (hP _ _ _ _) h) h
  case goto => exact hP _ _ _ _ h
  case lookupswitch => exact pI_mono (fun _ _ h => swc_mono (fun t => hP _ _ _ _) _ _ h) h
  case arraylength => exact pR_mono (fun _ _ h => by split at h <;> first | exact h.elim | exact hP _ _ _ _ h) h
  case iaload => exact pRI_mono (fun _ _ _ h => ⟨h.1, hP _ _ _ _ h.2⟩) h
  case baload => exact pRI_mono (fun _ _ _ h => ⟨h.1, hP _ _ _ _ h.2⟩) h
  case laload => exact pRI_mono (fun _ _ _ h => ⟨h.1, hP _ _ _ _ h.2⟩) h
  case aaload => exact pRI_mono (fun _ _ _ h => ⟨h.1, hP _ _ _ _ h.2⟩) h
  case iastore => exact pRII_mono (fun _ _ _ _ h => ⟨h.1, fun m e => hP _ _ _ _ (h.2 m e)⟩) h
  case bastore => exact pRII_mono (fun _ _ _ _ h => ⟨h.1, fun m e => hP _ _ _ _ (h.2 m e)⟩) h
  case lastore => exact pRIL_mono (fun _ _ _ _ h => ⟨h.1, fun m e => hP _ _ _ _ (h.2 m e)⟩) h
  case getfield => exact pR_mono (fun _ _ h => by split at h <;> first | exact h.elim | (split at h <;> first | exact h.elim | exact hP _ _ _ _ h)) h
  case putfield =>
    dsimp only at h ⊢
    split at h
    · split at h
      · split at h
        · exact fun m e => hP _ _ _ _ (h m e)
        · exact ⟨h.1, fun m e => hP _ _ _ _ (h.2 m e)⟩
        · exact h.elim
      · exact h.elim
    · split at h
      · split at h
        · exact fun m e => hP _ _ _ _ (h m e)
        · exact h.elim
      · exact h.elim
    · exact h.elim
  case invokestatic => exact call_mono hK hP h
  case invokevirtual => exact call_mono hK hP h
  case invokedynamic => exact prim_mono hP h
  case ireturn => dsimp only at h ⊢; split at h <;> first | exact h.elim | exact narOk_mono (hQ _ _) h
  case lreturn => dsimp only at h ⊢; split at h <;> first | exact h.elim | exact hQ _ _ h
  case return_ => dsimp only at h ⊢; split at h <;> first | exact h.elim | exact hQ _ _ h
  all_goals exact h.elim
theorem AA_mono {K : KK} (hK : KMono K) {y : Nat} {Q Q' : QQ} (hQ : ∀ r μ, Q r μ → Q' r μ) {i : Nat} {lv st : List Value} {μ : Mem} (h : AA K y Q i lv st μ) : AA K y Q' i lv st μ := by
  intro P hP
  exact h P (fun i lv st μ hs => hP i lv st μ (stp_mono hK hQ (fun _ _ _ _ x => x) hs))
theorem Call_mono : ∀ d : Nat, KMono (Call d)
  | 0 => fun _ _ _ _ _ _ h => h
  | d + 1 => fun _ _ _ _ _ hQ h => AA_mono (Call_mono d) hQ h
theorem AA_step {K : KK} (hK : KMono K) {y : Nat} {Q : QQ} {i : Nat} {lv st : List Value} {μ : Mem} (h : stp (inf y).1 (inf y).2.2.2.2.1 K Q (nth .nop (prog y) i) i lv st μ (AA K y Q)) : AA K y Q i lv st μ := by
  intro P hP
  exact hP i lv st μ (stp_mono hK (fun _ _ x => x) (fun _ _ _ _ x => x P hP) h)
def memb (i : Nat) : List Nat → Bool
  | [] => false
  | a :: l => match Nat.beq a i with
    | true => true
    | false => memb i l
/-- a stretch of steps, up to the places where it stops -/
def go (sd : Nat) (rt : Option FieldType) (K : KK) (y : Nat) (Q : QQ) (code : List Instr) (stops : List Nat) : Nat → PP
  | 0 => AA K y Q
  | n + 1 => fun i lv st μ => stp sd rt K Q (nth .nop code i) i lv st μ (fun i' lv' st' μ' => match memb i' stops with
    | true => AA K y Q i' lv' st' μ'
    | false => go sd rt K y Q code stops n i' lv' st' μ')
theorem go_in' {y : Nat} {K : KK} (hK : KMono K) {Q : QQ} {code : List Instr} {stops : List Nat} {sd a b c f : Nat} {rt : Option FieldType} (hc : prog y = code) (hi : inf y = (sd, a, b, c, rt, f)) : ∀ (n i : Nat) (lv st : List Value) (μ : Mem), go sd rt K y Q code stops n i lv st μ → AA K y Q i lv st μ
  | 0, _, _, _, _, h => h
  | n + 1, i, lv, st, μ, h => by
    refine AA_step hK ?_
    rw [hc, hi]
    have h : stp sd rt K Q (nth .nop code i) i lv st μ (fun i' lv' st' μ' => match memb i' stops with
      | true => AA K y Q i' lv' st' μ'
      | false => go sd rt K y Q code stops n i' lv' st' μ') := h
    refine stp_mono hK (fun _ _ x => x) (fun i' lv' st' μ' x => ?_) h
    split at x
    · exact x
    · exact go_in' hK hc hi n i' lv' st' μ' x
theorem go_in {d y : Nat} {Q : QQ} {i : Nat} {lv st : List Value} {μ : Mem} (n : Nat) {code : List Instr} {stops : List Nat} {sd a b c f : Nat} {rt : Option FieldType} (hc : prog y = code) (hi : inf y = (sd, a, b, c, rt, f)) (h : go sd rt (Call d) y Q code stops n i lv st μ) : AA (Call d) y Q i lv st μ := go_in' (Call_mono d) hc hi n i lv st μ h
