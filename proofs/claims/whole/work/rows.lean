section
def nth {α : Type} (d : α) : List α → Nat → α
  | [], _ => d
  | a :: _, 0 => a
  | _ :: l, n + 1 => nth d l n
/-! ===== tables of the abstract machine, by program out of the listing ===== -/
def cKl : List Int32 := [(-1), 0, 1, 2, 3, 4, 5, 8, 999, 23, 9999, 9, (-2), 6, 7, 255, (-4), (-100), 24, (-100000), 19, (-3), 40, (-14), (-11), (-12), (-13), 10, 160, 32, 41, 59, 43, 45, 42, 60, 61, 117, 115, 101, 100, 104, 111, 114, 108, 116, 110, 103, 112, 109, 97, 121, 119, 99, 54, 1103515245, 12345, 20, 256, 259, (-259), 260, (-260), 261, (-261), (-42), (-262), 48, 122, 57, (-6), 30, 888888]
def cLl : List Int64 := [(-4611686018427387904), 0, 7, 4, 999, 3, 23, 9999, 9, 1, 888888, 8, 5, 255, 97, 122, 48, 57, 10, 43, 60, 1000, 32, 16, 64, 1048576, 7046029254386353131, 24, 2, 20, (-1)]
def layX : List (Nat × Nat × Nat) := [(0, 8, 0), (1, 8, 0), (0, 6, 0), (1, 10, 0), (1, 10, 0), (5, 10, 6), (1, 6, 0), (1, 6, 0), (1, 6, 0), (1, 6, 0), (1, 6, 0), (1, 6, 0), (1, 6, 0), (1, 6, 0), (1, 6, 0), (1, 6, 0), (0, 7, 0), (1, 5, 0), (1, 5, 0), (1, 5, 0), (0, 2, 0), (1, 6, 0), (1, 6, 0), (0, 3, 0), (1, 160, 0), (1, 160, 0), (1, 3, 0), (0, 5, 0), (5, 6, 29), (1, 160, 0), (1, 160, 0), (1, 160, 0), (1, 160, 0), (1, 160, 0), (1, 160, 0), (5, 6, 36), (1, 3, 0), (1, 3, 0), (1, 3, 0), (1, 3, 0), (1, 3, 0), (1, 3, 0), (1, 6, 0), (1, 31, 0), (0, 0, 0), (1, 8, 0), (1, 5, 0), (1, 5, 0), (1, 5, 0), (1, 5, 0), (1, 24, 0), (0, 1, 0), (1, 8, 0), (1, 5, 0), (1, 5, 0), (1, 5, 0), (1, 6, 0), (0, 4, 0), (1, 4, 0), (1, 4, 0), (5, 4, 61), (1, 40, 0), (1, 40, 0), (1, 40, 0), (1, 40, 0), (1, 6, 1), (0, 10, 0), (4, 36, 0), (0, 10, 0), (4, 61, 0), (0, 10, 0), (4, 8, 0)]
def layM : List (Nat × Nat × Nat) := [(0, 9, 0), (1, 960, 0), (1, 6, 0), (1, 160, 0), (1, 8, 0), (1, 10, 0), (1, 10, 0), (1, 5, 0), (1, 5, 0), (1, 5, 0), (1, 6, 0), (1, 6, 0), (2, 1024, 0), (1, 1024, 0), (1, 8, 0), (1, 8, 0), (1, 5, 0), (1, 5, 0), (1, 5, 0), (1, 8, 0), (1, 15, 0), (1, 6, 0), (3, 4, 0), (1, 4, 0), (1, 4, 0), (1, 160, 0)]
def fldX : List (List (Nat × Nat)) := [[(3, 1), (3, 2), (3, 16), (3, 20), (3, 23), (3, 27), (3, 44), (3, 51), (3, 57)], [], [(3, 3), (3, 4), (3, 5), (0, 0)], [], [], [], [], [], [], [], [], [], [], [], [], [], [(3, 17), (3, 18), (3, 19), (0, 0)], [], [], [], [(3, 21), (3, 22), (0, 0), (0, 0)], [], [], [(3, 24), (0, 0), (3, 25), (3, 26), (0, 0), (0, 0), (0, 0), (0, 0), (0, 0), (0, 0)], [], [], [], [(3, 28), (3, 35), (3, 42), (3, 43), (0, 0), (0, 0)], [], [], [], [], [], [], [], [], [], [], [], [], [], [], [], [], [(3, 1), (3, 2), (3, 16), (3, 20), (3, 27), (3, 45), (3, 46), (0, 0), (3, 47), (3, 48), (3, 49), (3, 50)], [], [], [], [], [], [], [(1, 0), (3, 52), (0, 0), (0, 0), (3, 53), (3, 54), (3, 55), (0, 0), (3, 56), (0, 0), (0, 0)], [], [], [], [], [], [(3, 58), (3, 59), (3, 60)], [], [], [], [], [], [], [], [], [(3, 67), (4, 0)], [], [(3, 69), (4, 0)], [], [(3, 71), (4, 0)], []]
def fldM : List (List (Nat × Nat)) := [[(0, 0), (3, 1), (3, 2), (0, 0), (0, 0), (3, 3), (0, 0), (3, 4), (3, 5), (3, 6), (0, 0), (3, 7), (3, 8), (3, 9), (0, 0), (3, 10), (3, 11), (0, 0), (0, 0), (0, 0), (0, 0), (0, 0), (0, 0), (0, 0), (0, 0), (0, 0), (0, 0), (0, 0), (0, 0), (0, 0), (2, 0), (0, 0), (1, 0), (0, 0), (3, 12), (3, 13), (3, 14), (3, 15), (3, 16), (3, 17), (0, 0), (0, 0), (0, 0), (0, 0), (0, 0), (3, 18), (0, 0), (0, 0), (3, 19), (3, 20), (3, 21), (0, 0), (0, 0), (0, 0), (0, 0), (0, 0), (3, 22), (3, 23), (3, 24), (3, 25)], [], [], [], [], [], [], [], [], [], [], [], [], [], [], [], [], [], [], [], [], [], [], [], [], []]
def sKl : List Value := [.ref 65, .int 1, .retAddr 7]
def infL : List (Nat × Nat × Nat × Nat × Option FieldType × Nat) := [(0, 8, 4, 4, some .int, 0), (0, 8, 3, 3, some .int, 0), (0, 8, 3, 3, some .int, 0), (0, 8, 4, 4, some .int, 0), (0, 8, 3, 3, some .int, 0), (0, 8, 3, 2, some .int, 0), (0, 8, 2, 2, some .int, 0), (0, 8, 2, 1, some .int, 0), (0, 8, 3, 2, some .int, 0), (0, 8, 3, 3, some .int, 0), (0, 8, 4, 3, some .int, 0), (0, 8, 3, 2, some .int, 0), (0, 8, 8, 4, some .int, 0), (0, 8, 3, 3, some .int, 0), (0, 8, 2, 2, some .int, 0), (0, 8, 4, 3, some .int, 0), (0, 8, 3, 2, some .int, 0), (0, 8, 3, 1, some .int, 0), (0, 8, 8, 2, some .int, 0), (0, 8, 3, 3, some .int, 0), (0, 8, 8, 3, some .int, 0), (0, 8, 8, 2, some .int, 0), (0, 8, 3, 2, some .int, 0), (0, 8, 5, 3, some .int, 0), (0, 8, 5, 2, some .int, 0), (0, 8, 2, 2, some .int, 0), (0, 8, 6, 4, some .long, 0), (0, 8, 1, 1, some .int, 0), (0, 8, 1, 1, some .int, 0), (0, 8, 2, 2, some .int, 0), (0, 8, 4, 4, some .int, 0), (0, 8, 4, 4, some .int, 0), (0, 8, 6, 6, some .int, 0), (0, 8, 9, 5, some .int, 0), (0, 8, 3, 3, some .int, 0), (0, 8, 2, 2, some .boolean, 1), (0, 8, 6, 5, some .int, 1), (0, 8, 3, 3, some .int, 1), (0, 8, 6, 1, some .int, 1), (0, 8, 3, 1, some .int, 1), (0, 8, 3, 3, some .int, 1), (0, 8, 4, 2, some .boolean, 1), (0, 8, 4, 2, some .int, 1), (0, 8, 3, 2, some .int, 1), (0, 8, 2, 2, some .int, 0), (1, 9, 6, 3, some .boolean, 1), (1, 9, 3, 3, some .int, 1), (1, 9, 10, 10, none, 0), (1, 9, 2, 2, some .boolean, 0), (1, 9, 2, 2, some .boolean, 0), (1, 9, 2, 2, some .boolean, 0), (1, 9, 3, 3, some .boolean, 0), (1, 9, 5, 4, some .int, 0), (1, 9, 3, 1, some .int, 1), (1, 9, 3, 3, some .int, 0), (1, 9, 4, 3, some .int, 0), (1, 9, 4, 4, some .int, 0), (1, 9, 3, 3, some .int, 0), (1, 9, 3, 2, some .int, 0), (1, 9, 2, 2, some .int, 1), (1, 9, 5, 3, some .int, 0), (1, 9, 5, 2, some .int, 0), (1, 9, 2, 2, some .int, 0), (1, 9, 2, 2, some .int, 0), (1, 9, 3, 1, none, 0), (1, 9, 1, 1, none, 0), (1, 9, 3, 3, some .boolean, 0), (1, 9, 9, 9, some .boolean, 0), (1, 9, 2, 2, some .boolean, 0), (1, 9, 1, 1, some .boolean, 0), (1, 9, 1, 1, some .int, 0), (1, 9, 2, 1, some .int, 0), (1, 9, 2, 1, some .int, 0), (1, 9, 4, 1, some .int, 0), (1, 9, 4, 1, some .int, 0), (1, 9, 3, 1, some .int, 0), (1, 9, 3, 1, some .int, 0), (1, 9, 3, 2, some .int, 0), (1, 9, 6, 3, some .int, 0), (1, 9, 2, 1, some .int, 0), (1, 9, 3, 2, some .int, 0), (1, 9, 4, 4, some .int, 0), (1, 9, 4, 4, some .int, 0), (1, 9, 5, 2, some .int, 0), (1, 9, 2, 1, none, 0), (1, 9, 7, 3, some .int, 0), (1, 9, 5, 3, some .int, 0), (1, 9, 2, 1, none, 0), (1, 9, 3, 1, some .int, 0), (1, 9, 2, 1, none, 0), (1, 9, 3, 3, some .int, 0), (1, 9, 4, 3, some .int, 0), (1, 9, 3, 2, some .int, 0), (1, 9, 8, 4, some .int, 0), (1, 9, 4, 2, none, 0), (1, 9, 3, 1, none, 0), (1, 9, 1, 1, none, 0), (1, 9, 2, 2, some .int, 0), (1, 9, 3, 1, some .int, 0), (1, 9, 3, 1, some .int, 0), (1, 9, 3, 3, some .int, 0), (1, 9, 5, 2, some .int, 0), (1, 9, 5, 2, none, 0), (1, 9, 3, 3, some .int, 0), (1, 9, 2, 2, some .int, 0), (1, 9, 3, 1, some .int, 0), (1, 9, 6, 5, none, 0), (1, 9, 3, 2, some .int, 0), (1, 9, 4, 3, some .int, 0), (1, 9, 3, 3, some .int, 0), (1, 9, 7, 3, some .int, 0), (1, 9, 8, 2, some .int, 0), (1, 9, 2, 2, some .int, 0), (1, 9, 3, 2, some .int, 0), (1, 9, 3, 2, some .int, 0), (1, 9, 3, 3, some .int, 0), (1, 9, 5, 2, some .int, 0), (1, 9, 4, 2, none, 0), (1, 9, 2, 2, some .int, 0), (1, 9, 12, 4, some .long, 0), (1, 9, 2, 1, some .int, 0), (1, 9, 2, 1, some .int, 0), (1, 9, 2, 2, some .int, 0), (1, 9, 1, 1, some .boolean, 1), (1, 9, 5, 4, some .int, 0), (1, 9, 4, 4, some .int, 0), (1, 9, 9, 6, some .int, 0), (1, 9, 8, 5, some .int, 0), (1, 9, 1, 1, some .int, 1), (1, 9, 4, 3, some .int, 0), (0, 0, 1, 1, none, 0), (0, 0, 4, 2, none, 0), (0, 0, 1, 1, none, 0), (0, 0, 4, 2, none, 0), (0, 0, 8, 2, none, 0), (0, 0, 6, 3, some .int, 0), (0, 0, 3, 2, none, 0), (0, 0, 3, 3, some .int, 0), (0, 0, 3, 1, some .int, 0), (0, 0, 3, 1, some .int, 0), (0, 0, 3, 1, some .int, 0), (0, 0, 7, 1, some .int, 0), (0, 0, 4, 2, some .int, 0), (0, 1, 2, 2, none, 0), (0, 1, 2, 2, none, 0), (0, 1, 2, 2, none, 0), (0, 1, 2, 2, none, 0), (0, 2, 3, 3, some .int, 0), (0, 2, 5, 3, some .boolean, 0), (0, 2, 5, 4, some .int, 0), (0, 2, 2, 2, some .int, 1), (0, 2, 4, 3, none, 0), (0, 2, 3, 3, some .int, 0), (0, 3, 2, 2, some .boolean, 0), (0, 3, 3, 2, none, 0), (0, 3, 2, 1, some .int, 0), (0, 3, 1, 1, none, 0), (0, 3, 2, 2, none, 0), (0, 3, 2, 2, none, 0), (0, 3, 3, 2, none, 0), (0, 3, 3, 2, none, 0), (0, 3, 2, 2, none, 0), (0, 3, 3, 2, none, 0), (0, 3, 4, 2, none, 0), (0, 3, 3, 2, none, 0), (0, 3, 2, 2, none, 0), (0, 3, 1, 1, none, 0), (0, 3, 2, 1, none, 0), (0, 3, 1, 1, none, 0), (0, 3, 5, 1, some .int, 0), (0, 3, 1, 1, some .boolean, 1), (0, 3, 1, 1, some .boolean, 1), (0, 3, 1, 1, some .boolean, 1), (0, 4, 5, 4, none, 0), (0, 4, 4, 4, none, 0), (0, 4, 4, 4, some .boolean, 0), (0, 5, 3, 3, some .int, 0), (0, 5, 4, 4, some .int, 0), (0, 5, 5, 5, some .int, 0), (0, 5, 5, 5, some .boolean, 0), (0, 5, 7, 7, none, 0), (0, 5, 2, 2, some .int, 1), (0, 5, 10, 2, some .int, 0), (0, 6, 4, 1, some .int, 1), (0, 6, 5, 3, some .int, 0), (0, 6, 7, 4, some .int, 0), (0, 6, 5, 3, none, 0), (0, 7, 4, 4, some .int, 0), (0, 10, 1, 1, some .int, 0), (0, 10, 1, 1, some .byte, 0), (0, 10, 1, 1, some .boolean, 0), (0, 10, 2, 2, some .char, 0), (0, 10, 2, 2, none, 1), (0, 10, 2, 2, some .int, 0), (0, 10, 3, 3, some .int, 0), (0, 11, 2, 2, some .char, 1), (0, 11, 1, 1, some .boolean, 1), (0, 11, 4, 4, some .int, 1), (0, 11, 6, 4, some .int, 1), (0, 12, 3, 3, some .int, 1)]
def pr_X_set : List Instr := [.iload 1, .lookupswitch 54 #[(1, 2), (2, 10), (3, 21), (4, 32), (5, 43)], .aload 0, .getfield 512, .ldc 7, .iload 2, .iload 3, .ldc 8, .invokestatic 36, .ireturn, .aload 0, .getfield 514, .getfield 448, .aload 0, .getfield 514, .getfield 451, .iload 2, .iload 3, .ldc 4, .invokestatic 36, .ireturn, .aload 0, .getfield 514, .getfield 449, .aload 0, .getfield 514, .getfield 451, .iload 2, .iload 3, .ldc 9, .invokestatic 36, .ireturn, .aload 0, .getfield 514, .getfield 450, .aload 0, .getfield 514, .getfield 451, .iload 2, .iload 3, .ldc 10, .invokestatic 36, .ireturn, .aload 0, .getfield 515, .getfield 129, .aload 0, .getfield 515, .getfield 130, .iload 2, .iload 3, .ldc 11, .invokestatic 36, .ireturn, .ldc 12, .ireturn]
def pr_X_told : List Instr := [.iload 2, .lookupswitch 71 #[(1, 2), (2, 8), (3, 17), (4, 26), (5, 35), (6, 44), (13, 53), (14, 62)], .aload 0, .getfield 512, .ldc 7, .iload 1, .invokestatic 37, .ireturn, .aload 0, .getfield 514, .getfield 448, .aload 0, .getfield 514, .getfield 451, .iload 1, .invokestatic 37, .ireturn, .aload 0, .getfield 514, .getfield 449, .aload 0, .getfield 514, .getfield 451, .iload 1, .invokestatic 37, .ireturn, .aload 0, .getfield 514, .getfield 450, .aload 0, .getfield 514, .getfield 451, .iload 1, .invokestatic 37, .ireturn, .aload 0, .getfield 515, .getfield 129, .aload 0, .getfield 515, .getfield 130, .iload 1, .invokestatic 37, .ireturn, .aload 0, .getfield 515, .getfield 128, .aload 0, .getfield 515, .getfield 130, .iload 1, .invokestatic 37, .ireturn, .aload 0, .getfield 513, .getfield 384, .aload 0, .getfield 513, .getfield 387, .iload 1, .invokestatic 37, .ireturn, .aload 0, .getfield 513, .getfield 385, .aload 0, .getfield 513, .getfield 387, .iload 1, .invokestatic 37, .ireturn, .ldc 12, .ireturn]
def pr_X_word : List Instr := [.iload 1, .ldc 4, .invokestatic 35, .ifCond .eq 7, .iload 2, .invokestatic 183, .ifCond .ne 9, .ldc 12, .ireturn, .aload 0, .getfield 513, .iload 1, .iload 2, .invokevirtual 184, .ireturn]
def pr_X_writer : List Instr := [.aload 0, .getfield 514, .iload 1, .iload 2, .iload 3, .invokevirtual 187, .ireturn]
def pr_X_law : List Instr := [.iload 1, .ldc 6, .invokestatic 35, .ifCond .eq 8, .iload 2, .ldc 11, .invokestatic 35, .ifCond .ne 10, .ldc 12, .ireturn, .aload 0, .getfield 515, .iload 1, .iload 2, .invokevirtual 147, .ireturn]
def pr_X_rule : List Instr := [.iload 1, .aload 0, .getfield 515, .getfield 130, .ldc 2, .isub, .invokestatic 35, .ifCond .ne 10, .ldc 12, .ireturn, .aload 0, .getfield 515, .getfield 131, .istore 2, .aload 0, .getfield 515, .iload 1, .putfield 131, .iload 2, .ireturn]
def pr_X_feed : List Instr := [.iload 1, .ldc 15, .invokestatic 35, .ifCond .ne 6, .ldc 12, .ireturn, .aload 0, .getfield 516, .iload 1, .invokevirtual 153, .ifCond .eq 15, .aload 0, .getfield 516, .getfield 193, .goto 16, .ldc 16, .ireturn]
def pr_X_text : List Instr := [.aload 0, .getfield 517, .getfield 324, .ldc 13, .if_icmp .lt 7, .ldc 16, .ireturn, .aload 0, .getfield 516, .invokevirtual 155, .istore 1, .iload 1, .ldc 0, .if_icmp .eq 18, .ldc 17, .iload 1, .isub, .ireturn, .aload 0, .getfield 517, .aload 0, .getfield 516, .getfield 194, .aload 0, .getfield 516, .getfield 195, .invokevirtual 176, .ireturn]
def pr_X_force : List Instr := [.iload 1, .aload 0, .getfield 517, .getfield 324, .ldc 2, .isub, .invokestatic 35, .ifCond .ne 10, .ldc 12, .ireturn, .aload 0, .getfield 517, .getfield 325, .istore 2, .aload 0, .getfield 517, .iload 1, .putfield 325, .iload 2, .ireturn]
def pr_X_costs : List Instr := [.iload 1, .aload 0, .getfield 513, .getfield 387, .ldc 2, .isub, .invokestatic 35, .ifCond .eq 12, .iload 2, .ldc 9, .invokestatic 35, .ifCond .ne 14, .ldc 12, .ireturn, .aload 0, .getfield 518, .invokevirtual 130, .aload 0, .getfield 518, .iload 1, .iload 2, .invokevirtual 135, .ireturn]
def pr_X_write : List Instr := [.iload 1, .aload 0, .getfield 513, .getfield 387, .ldc 2, .isub, .invokestatic 35, .ifCond .eq 12, .iload 2, .ldc 9, .invokestatic 35, .ifCond .ne 14, .ldc 12, .ireturn, .aload 0, .getfield 518, .invokevirtual 130, .aload 0, .getfield 518, .iload 1, .iload 2, .invokevirtual 135, .istore 3, .aload 0, .getfield 513, .iload 1, .aload 0, .getfield 512, .invokevirtual 186, .iload 3, .ireturn]
def pr_X_pass : List Instr := [.iload 1, .ldc 18, .invokestatic 35, .ifCond .ne 6, .ldc 12, .ireturn, .ldc 1, .istore 2, .iload 2, .iload 1, .if_icmp .ge 21, .aload 0, .getfield 515, .aload 0, .getfield 515, .getfield 131, .aload 0, .getfield 512, .invokevirtual 151, .iinc 2 2, .goto 8, .aload 0, .getfield 512, .invokestatic 38, .ireturn]
def pr_X_cheapest : List Instr := [.iload 1, .ldc 4, .invokestatic 35, .ifCond .eq 12, .iload 2, .ldc 9, .invokestatic 35, .ifCond .eq 12, .iload 3, .ldc 2, .invokestatic 35, .ifCond .ne 14, .ldc 12, .ireturn, .ldc 0, .istore 4, .ldc 0, .istore 5, .aload 0, .getfield 518, .invokevirtual 130, .ldc 1, .istore 6, .iload 6, .aload 0, .getfield 513, .getfield 387, .if_icmp .ge 54, .aload 0, .getfield 513, .getfield 384, .iload 6, .iaload, .iload 1, .if_icmp .eq 36, .goto 52, .aload 0, .getfield 518, .iload 6, .iload 2, .invokevirtual 135, .istore 7, .iload 4, .ldc 0, .if_icmp .eq 48, .iload 7, .iload 5, .if_icmp .ge 52, .iload 6, .istore 4, .iload 7, .istore 5, .iinc 6 2, .goto 23, .iload 3, .ifCond .ne 58, .iload 4, .goto 59, .iload 5, .ireturn]
def pr_X_day : List Instr := [.iload 1, .aload 0, .getfield 514, .getfield 451, .ldc 2, .isub, .invokestatic 35, .ifCond .eq 12, .iload 2, .ldc 3, .invokestatic 35, .ifCond .ne 14, .ldc 19, .ireturn, .aload 0, .getfield 518, .invokevirtual 130, .aload 0, .getfield 518, .invokevirtual 132, .iload 2, .ifCond .ne 28, .aload 0, .getfield 518, .getfield 9, .iload 1, .iaload, .ireturn, .iload 2, .ldc 2, .if_icmp .ne 37, .aload 0, .getfield 518, .getfield 8, .iload 1, .iaload, .goto 42, .aload 0, .getfield 518, .getfield 10, .iload 1, .iaload, .ireturn]
def pr_X_all : List Instr := [.iload 1, .ldc 4, .invokestatic 35, .ifCond .ne 6, .ldc 19, .ireturn, .aload 0, .getfield 518, .invokevirtual 130, .aload 0, .getfield 518, .invokevirtual 132, .iload 1, .lookupswitch 26 #[(1, 14), (2, 18), (3, 22)], .aload 0, .getfield 518, .invokevirtual 138, .ireturn, .aload 0, .getfield 518, .invokevirtual 140, .ireturn, .aload 0, .getfield 518, .invokevirtual 141, .ireturn, .aload 0, .getfield 518, .invokevirtual 139, .ireturn]
def pr_X_when : List Instr := [.iload 1, .aload 0, .getfield 514, .getfield 451, .ldc 2, .isub, .invokestatic 35, .ifCond .eq 12, .iload 2, .ldc 2, .invokestatic 35, .ifCond .ne 14, .ldc 19, .ireturn, .aload 0, .getfield 518, .iload 1, .invokevirtual 136, .aload 0, .getfield 518, .getfield 11, .invokestatic 39, .istore 3, .iload 2, .ifCond .ne 27, .iload 3, .goto 32, .aload 0, .getfield 518, .getfield 11, .iload 3, .iaload, .ireturn]
def pr_X_choose : List Instr := [.iload 1, .aload 0, .getfield 514, .getfield 451, .ldc 2, .isub, .invokestatic 35, .ifCond .ne 10, .ldc 19, .ireturn, .aload 0, .getfield 518, .iload 1, .invokevirtual 136, .aload 0, .getfield 518, .getfield 11, .invokestatic 39, .istore 2, .aload 0, .getfield 514, .getfield 449, .iload 1, .iload 2, .iastore, .aload 0, .getfield 518, .getfield 11, .iload 2, .iaload, .ireturn]
def pr_X_rest : List Instr := [.ldc 1, .istore 1, .iload 1, .aload 0, .getfield 514, .getfield 451, .if_icmp .ge 35, .aload 0, .getfield 518, .iload 1, .invokevirtual 136, .aload 0, .getfield 518, .getfield 11, .aload 0, .getfield 518, .getfield 11, .invokestatic 39, .iaload, .istore 2, .iload 2, .aload 0, .getfield 518, .getfield 11, .aload 0, .getfield 514, .getfield 449, .iload 1, .iaload, .iaload, .if_icmp .le 33, .ldc 1, .ireturn, .iinc 1 2, .goto 2, .ldc 2, .ireturn]
def pr_X_turns : List Instr := [.iload 1, .ldc 2, .invokestatic 35, .ifCond .ne 6, .ldc 19, .ireturn, .aload 0, .getfield 514, .getfield 451, .ldc 5, .invokedynamic 2, .istore 2, .ldc 0, .istore 3, .ldc 1, .istore 4, .ldc 2, .ldc 3, .iload 2, .imul, .ishl, .istore 5, .ldc 1, .istore 6, .iload 6, .iload 5, .if_icmp .ge 74, .iload 6, .iload 2, .invokestatic 41, .ifCond .ne 32, .goto 72, .aload 0, .getfield 518, .invokevirtual 130, .ldc 1, .istore 7, .iload 7, .iload 2, .if_icmp .ge 55, .aload 0, .getfield 518, .getfield 6, .iload 7, .aload 0, .getfield 514, .getfield 449, .iload 6, .iload 7, .iload 2, .invokestatic 40, .iaload, .iastore, .iinc 7 2, .goto 37, .aload 0, .getfield 518, .invokevirtual 132, .aload 0, .getfield 518, .invokevirtual 138, .istore 7, .iload 3, .ldc 0, .if_icmp .eq 68, .iload 7, .iload 4, .if_icmp .le 72, .iload 6, .istore 3, .iload 7, .istore 4, .iinc 6 2, .goto 24, .iload 1, .ifCond .ne 78, .iload 4, .goto 81, .iload 3, .iload 2, .invokestatic 42, .ireturn]
def pr_X_burn : List Instr := [.iload 1, .ldc 14, .invokestatic 35, .ifCond .eq 10, .iload 2, .ldc 2, .isub, .ldc 20, .invokestatic 35, .ifCond .ne 12, .ldc 19, .ireturn, .aload 0, .getfield 518, .iload 1, .ldc 1, .invokevirtual 137, .aload 0, .getfield 518, .iload 1, .iload 2, .invokevirtual 137, .isub, .ireturn]
def pr_X_worst : List Instr := [.iload 1, .ldc 2, .isub, .ldc 20, .invokestatic 35, .ifCond .eq 10, .iload 2, .ldc 2, .invokestatic 35, .ifCond .ne 12, .ldc 19, .ireturn, .aload 0, .getfield 518, .ldc 1, .ldc 1, .invokevirtual 137, .istore 3, .ldc 1, .istore 4, .iload 3, .aload 0, .getfield 518, .ldc 1, .iload 1, .invokevirtual 137, .isub, .istore 5, .ldc 2, .istore 6, .iload 6, .ldc 7, .if_icmp .ge 50, .iload 3, .aload 0, .getfield 518, .iload 6, .iload 1, .invokevirtual 137, .isub, .istore 7, .iload 7, .iload 5, .if_icmp .le 48, .iload 6, .istore 4, .iload 7, .istore 5, .iinc 6 2, .goto 30, .iload 2, .ifCond .ne 54, .iload 4, .goto 55, .iload 5, .ireturn]
def pr_X_best : List Instr := [.iload 1, .ldc 3, .invokestatic 35, .ifCond .ne 6, .ldc 19, .ireturn, .ldc 0, .istore 2, .ldc 1, .istore 3, .ldc 1, .istore 4, .ldc 1, .istore 5, .iload 5, .aload 0, .getfield 515, .getfield 130, .if_icmp .ge 57, .aload 0, .getfield 518, .invokevirtual 130, .aload 0, .getfield 518, .iload 5, .putfield 7, .aload 0, .getfield 518, .invokevirtual 132, .aload 0, .getfield 518, .invokevirtual 140, .istore 6, .aload 0, .getfield 518, .invokevirtual 138, .istore 7, .iload 2, .ldc 0, .if_icmp .eq 49, .iload 6, .iload 3, .if_icmp .gt 49, .iload 6, .iload 3, .if_icmp .ne 55, .iload 7, .iload 4, .if_icmp .le 55, .iload 5, .istore 2, .iload 6, .istore 3, .iload 7, .istore 4, .iinc 5 2, .goto 14, .iload 1, .ifCond .ne 61, .iload 2, .ireturn, .iload 1, .ldc 2, .if_icmp .ne 66, .iload 3, .goto 67, .iload 4, .ireturn]
def pr_X_judge : List Instr := [.aload 0, .iload 1, .invokevirtual 44, .istore 2, .iload 2, .ifCond .eq 8, .iload 2, .ireturn, .aload 0, .getfield 518, .invokevirtual 130, .aload 0, .getfield 518, .invokevirtual 132, .aload 0, .getfield 518, .aload 0, .getfield 520, .getfield 258, .iload 1, .aaload, .invokevirtual 142, .ireturn]
def pr_X_fits : List Instr := [.iload 1, .aload 0, .getfield 514, .getfield 451, .ldc 2, .isub, .invokestatic 35, .ifCond .eq 12, .iload 2, .ldc 10, .invokestatic 35, .ifCond .ne 14, .ldc 12, .ireturn, .aload 0, .getfield 518, .invokevirtual 130, .aload 0, .getfield 518, .iload 1, .invokevirtual 133, .ldc 1, .istore 3, .ldc 1, .istore 4, .iload 4, .aload 0, .getfield 513, .getfield 387, .if_icmp .ge 61, .aload 0, .getfield 513, .getfield 384, .iload 4, .iaload, .aload 0, .getfield 514, .getfield 448, .iload 1, .iaload, .if_icmp .eq 42, .goto 59, .aload 0, .getfield 518, .iload 4, .aload 0, .getfield 514, .getfield 449, .iload 1, .iaload, .invokevirtual 135, .iload 2, .if_icmp .ne 59, .iload 3, .ldc 2, .iload 4, .ishl, .ior, .istore 3, .iinc 4 2, .goto 25, .iload 3, .ireturn]
def pr_X_whose : List Instr := [.aload 0, .iload 1, .invokevirtual 44, .istore 2, .iload 2, .ifCond .eq 8, .iload 2, .ireturn, .ldc 1, .istore 3, .ldc 1, .istore 4, .iload 4, .aload 0, .getfield 515, .getfield 130, .if_icmp .ge 45, .aload 0, .getfield 518, .invokevirtual 130, .aload 0, .getfield 518, .iload 4, .putfield 7, .aload 0, .getfield 518, .invokevirtual 132, .aload 0, .getfield 518, .aload 0, .getfield 520, .getfield 258, .iload 1, .aaload, .invokevirtual 142, .ldc 0, .if_icmp .ne 43, .iload 3, .ldc 2, .iload 4, .ishl, .ior, .istore 3, .iinc 4 2, .goto 12, .iload 3, .ireturn]
def pr_X_drawn : List Instr := [.aload 0, .getfield 518, .invokevirtual 130, .aload 0, .getfield 518, .iload 1, .invokevirtual 131, .aload 0, .getfield 518, .invokevirtual 132, .aload 0, .getfield 518, .invokevirtual 138, .ireturn]
def pr_X_chance : List Instr := [.iload 2, .ldc 2, .isub, .ldc 20, .invokestatic 35, .ifCond .eq 10, .iload 3, .ldc 2, .invokestatic 35, .ifCond .ne 12, .ldc2_w 0, .lreturn, .ldc 1, .istore 4, .ldc 1, .istore 5, .iload 5, .iload 2, .if_icmp .ge 41, .aload 0, .getfield 518, .invokevirtual 130, .aload 0, .getfield 518, .iload 1, .iload 5, .iadd, .invokevirtual 131, .aload 0, .getfield 518, .invokevirtual 132, .aload 0, .getfield 518, .invokevirtual 140, .aload 0, .getfield 514, .getfield 451, .if_icmp .ne 39, .iinc 4 2, .iinc 5 2, .goto 16, .iload 4, .iload 2, .invokestatic 43, .istore 5, .iload 3, .ifCond .ne 52, .iload 4, .iload 5, .idiv, .i2l, .goto 56, .iload 2, .iload 5, .idiv, .i2l, .lreturn]
def pr_X_image : List Instr := [.aload 0, .getfield 512, .ldc 1, .aload 0, .getfield 519, .getfield 65, .ldc 1, .ldc 7, .invokedynamic 0, .aload 0, .getfield 519, .aload 0, .getfield 514, .invokevirtual 143, .aload 0, .getfield 519, .aload 0, .getfield 515, .invokevirtual 145, .aload 0, .getfield 519, .aload 0, .getfield 513, .getfield 387, .putfield 66, .aload 0, .getfield 519, .aload 0, .getfield 517, .getfield 325, .putfield 67, .aload 0, .getfield 519, .ldc 2, .putfield 64, .aload 0, .getfield 514, .getfield 451, .ireturn]
def pr_X_back : List Instr := [.aload 0, .getfield 519, .getfield 64, .ifCond .ne 6, .ldc 21, .ireturn, .aload 0, .getfield 519, .getfield 65, .ldc 1, .aload 0, .getfield 512, .ldc 1, .ldc 7, .invokedynamic 0, .aload 0, .getfield 519, .aload 0, .getfield 514, .invokevirtual 144, .aload 0, .getfield 519, .aload 0, .getfield 515, .invokevirtual 146, .aload 0, .getfield 513, .aload 0, .getfield 519, .getfield 66, .putfield 387, .aload 0, .getfield 517, .aload 0, .getfield 519, .getfield 67, .putfield 325, .aload 0, .getfield 514, .getfield 451, .ireturn]
def pr_X_count : List Instr := [.iload 1, .lookupswitch 34 #[(1, 2), (2, 6), (3, 10), (4, 14), (5, 18), (6, 22), (13, 26), (14, 30)], .aload 0, .getfield 513, .getfield 387, .ireturn, .aload 0, .getfield 514, .getfield 451, .ireturn, .aload 0, .getfield 515, .getfield 130, .ireturn, .aload 0, .getfield 515, .getfield 131, .ireturn, .aload 0, .getfield 517, .getfield 324, .ireturn, .aload 0, .getfield 516, .getfield 193, .ireturn, .aload 0, .getfield 517, .getfield 325, .ireturn, .aload 0, .getfield 512, .invokestatic 38, .ireturn, .ldc 12, .ireturn]
def pr_X_sheet : List Instr := [.iload 1, .ldc 4, .invokestatic 35, .ifCond .eq 10, .iload 2, .ldc 0, .isub, .ldc 4, .invokestatic 35, .ifCond .ne 12, .ldc 12, .ireturn, .iload 2, .ldc 0, .if_icmp .ne 23, .aload 0, .getfield 520, .getfield 256, .iload 1, .ldc 0, .iastore, .ldc 2, .ireturn, .iload 3, .ldc 22, .if_icmp .le 28, .ldc 12, .ireturn, .iload 3, .ifCond .ge 32, .ldc 23, .ireturn, .aload 0, .getfield 520, .iload 1, .iload 2, .iload 3, .invokevirtual 173, .ldc 2, .ireturn]
def pr_X_cell : List Instr := [.iload 1, .ldc 4, .invokestatic 35, .ifCond .ne 6, .ldc 12, .ireturn, .aload 0, .getfield 520, .getfield 256, .iload 1, .iaload, .ldc 0, .if_icmp .ne 15, .ldc 24, .ireturn, .iload 2, .aload 0, .getfield 520, .getfield 257, .iload 1, .iaload, .ldc 2, .isub, .invokestatic 35, .ifCond .ne 27, .ldc 25, .ireturn, .aload 0, .getfield 520, .iload 1, .iload 2, .iload 3, .invokevirtual 174, .ldc 2, .ireturn]
def pr_X_copy : List Instr := [.iload 1, .ldc 4, .invokestatic 35, .ifCond .eq 8, .iload 3, .ldc 4, .invokestatic 35, .ifCond .ne 10, .ldc 12, .ireturn, .aload 0, .getfield 520, .getfield 256, .iload 1, .iaload, .ldc 0, .if_icmp .eq 24, .aload 0, .getfield 520, .getfield 256, .iload 3, .iaload, .ldc 0, .if_icmp .ne 26, .ldc 24, .ireturn, .aload 0, .getfield 520, .getfield 256, .iload 1, .iaload, .aload 0, .getfield 520, .getfield 256, .iload 3, .iaload, .if_icmp .eq 39, .ldc 26, .ireturn, .aload 0, .getfield 520, .iload 1, .iload 2, .iload 5, .invokevirtual 175, .ifCond .eq 53, .aload 0, .getfield 520, .iload 3, .iload 4, .iload 5, .invokevirtual 175, .ifCond .ne 55, .ldc 25, .ireturn, .aload 0, .getfield 520, .getfield 258, .iload 1, .aaload, .iload 2, .aload 0, .getfield 520, .getfield 258, .iload 3, .aaload, .iload 4, .iload 5, .invokedynamic 0, .iload 5, .ireturn]
def pr_X_writers : List Instr := [.iload 1, .ldc 4, .invokestatic 35, .ifCond .eq 12, .iload 2, .ldc 3, .invokestatic 35, .ifCond .eq 12, .iload 4, .ldc 6, .invokestatic 35, .ifCond .ne 14, .ldc 12, .ireturn, .aload 0, .getfield 520, .getfield 256, .iload 1, .iaload, .ldc 0, .if_icmp .ne 23, .ldc 24, .ireturn, .aload 0, .getfield 520, .getfield 256, .iload 1, .iaload, .iload 2, .if_icmp .eq 32, .ldc 26, .ireturn, .aload 0, .getfield 520, .getfield 258, .iload 1, .aaload, .astore 5, .iload 3, .istore 6, .ldc 1, .istore 7, .ldc 1, .istore 8, .iload 8, .iload 4, .if_icmp .ge 77, .aload 0, .getfield 520, .iload 1, .iload 6, .ldc 4, .invokevirtual 175, .ifCond .ne 56, .ldc 25, .ireturn, .aload 0, .getfield 514, .aload 5, .iload 6, .iaload, .aload 5, .iload 6, .ldc 2, .iadd, .iaload, .aload 5, .iload 6, .ldc 3, .iadd, .iaload, .invokevirtual 187, .ifCond .lt 74, .iinc 7 2, .iinc 6 4, .iinc 8 2, .goto 44, .iload 7, .ireturn]
def pr_X_taken : List Instr := [.iload 2, .ldc 6, .invokestatic 35, .ifCond .ne 6, .ldc 12, .ireturn, .iload 1, .aload 0, .getfield 515, .getfield 130, .ldc 2, .isub, .invokestatic 35, .ifCond .ne 16, .ldc 24, .ireturn, .aload 0, .getfield 515, .iload 1, .iload 2, .invokevirtual 148, .ifCond .eq 28, .aload 0, .getfield 515, .getfield 129, .iload 1, .iaload, .goto 29, .ldc 26, .ireturn]
def pr_X_within : List Instr := [.iload 0, .ifCond .lt 7, .iload 0, .iload 1, .if_icmp .gt 7, .ldc 2, .goto 8, .ldc 1, .ireturn]
def pr_X_put : List Instr := [.iload 2, .iload 1, .ldc 2, .isub, .invokestatic 35, .ifCond .eq 10, .iload 3, .iload 4, .invokestatic 35, .ifCond .ne 12, .ldc 12, .ireturn, .aload 0, .iload 2, .iaload, .istore 5, .aload 0, .iload 2, .iload 3, .iastore, .iload 5, .ireturn]
def pr_X_item : List Instr := [.iload 2, .iload 1, .ldc 2, .isub, .invokestatic 35, .ifCond .eq 10, .aload 0, .iload 2, .iaload, .goto 11, .ldc 12, .ireturn]
def pr_X_sum : List Instr := [.ldc 1, .istore 1, .aload 0, .astore 2, .aload 2, .arraylength, .istore 3, .ldc 1, .istore 4, .iload 4, .iload 3, .if_icmp .ge 22, .aload 2, .iload 4, .iaload, .istore 5, .iload 1, .iload 5, .iadd, .istore 1, .iinc 4 2, .goto 9, .iload 1, .ireturn]
def pr_X_firstMost : List Instr := [.ldc 1, .istore 1, .ldc 2, .istore 2, .iload 2, .aload 0, .arraylength, .if_icmp .ge 19, .aload 0, .iload 2, .iaload, .aload 0, .iload 1, .iaload, .if_icmp .le 17, .iload 2, .istore 1, .iinc 2 2, .goto 4, .iload 1, .ireturn]
def pr_X_whoseHour : List Instr := [.iload 0, .ldc 3, .iload 2, .ldc 2, .isub, .iload 1, .isub, .imul, .ishr, .ldc 4, .iand, .ireturn]
def pr_X_isTurn : List Instr := [.ldc 1, .istore 2, .ldc 1, .istore 3, .iload 3, .iload 1, .if_icmp .ge 18, .iload 2, .ldc 2, .iload 0, .iload 3, .iload 1, .invokestatic 40, .ishl, .ior, .istore 2, .iinc 3 2, .goto 4, .iload 2, .ldc 2, .iload 1, .ishl, .ldc 2, .isub, .if_icmp .ne 27, .ldc 2, .goto 28, .ldc 1, .ireturn]
def pr_X_digits : List Instr := [.ldc 1, .istore 2, .ldc 1, .istore 3, .iload 3, .iload 1, .if_icmp .ge 18, .iload 2, .ldc 27, .imul, .iload 0, .iload 3, .iload 1, .invokestatic 40, .iadd, .istore 2, .iinc 3 2, .goto 4, .iload 2, .ireturn]
def pr_X_commonDivisor : List Instr := [.iload 1, .istore 2, .iload 2, .ldc 2, .if_icmp .le 17, .iload 0, .iload 2, .irem, .ifCond .ne 15, .iload 1, .iload 2, .irem, .ifCond .ne 15, .iload 2, .ireturn, .iinc 2 0, .goto 2, .ldc 2, .ireturn]
def pr_X_refusalToJudge : List Instr := [.iload 1, .ldc 4, .invokestatic 35, .ifCond .ne 6, .ldc 12, .ireturn, .aload 0, .getfield 520, .getfield 256, .iload 1, .iaload, .ldc 0, .if_icmp .ne 15, .ldc 24, .ireturn, .aload 0, .getfield 520, .getfield 257, .iload 1, .iaload, .aload 0, .getfield 514, .getfield 451, .if_icmp .ne 26, .ldc 1, .goto 27, .ldc 12, .ireturn]
def pr_M_in : List Instr := [.lload 0, .lload 2, .lcmp, .ifCond .lt 10, .lload 0, .lload 4, .lcmp, .ifCond .gt 10, .ldc 2, .goto 11, .ldc 1, .ireturn]
def pr_M_within : List Instr := [.iload 0, .iload 1, .if_icmp .ge 5, .iload 1, .goto 11, .iload 0, .iload 2, .if_icmp .le 10, .iload 2, .goto 11, .iload 0, .ireturn]
def pr_M_spell : List Instr := [.aload 0, .getfield 577, .iload 1, .iload 2, .iastore, .aload 0, .getfield 577, .iload 1, .ldc 2, .iadd, .iload 3, .iastore, .aload 0, .getfield 577, .iload 1, .ldc 3, .iadd, .iload 4, .iastore, .aload 0, .getfield 577, .iload 1, .ldc 4, .iadd, .iload 5, .iastore, .aload 0, .getfield 577, .iload 1, .ldc 5, .iadd, .iload 6, .iastore, .aload 0, .getfield 577, .iload 1, .ldc 6, .iadd, .iload 7, .iastore, .aload 0, .getfield 577, .iload 1, .ldc 13, .iadd, .iload 8, .iastore, .aload 0, .getfield 577, .iload 1, .ldc 14, .iadd, .iload 9, .iastore, .return_]
def pr_M_isWordNumber : List Instr := [.iload 1, .i2l, .ldc2_w 1, .aload 0, .getfield 586, .ldc 2, .isub, .i2l, .invokestatic 45, .ireturn]
def pr_M_isWriter : List Instr := [.iload 1, .i2l, .ldc2_w 1, .aload 0, .getfield 590, .ldc 2, .isub, .i2l, .invokestatic 45, .ireturn]
def pr_M_isLaw : List Instr := [.iload 1, .i2l, .ldc2_w 1, .aload 0, .getfield 593, .ldc 2, .isub, .i2l, .invokestatic 45, .ireturn]
def pr_M_isOf : List Instr := [.iload 1, .ifCond .ne 8, .iload 2, .i2l, .ldc2_w 1, .ldc2_w 2, .invokestatic 45, .goto 25, .iload 1, .ldc 5, .if_icmp .ge 15, .aload 0, .iload 2, .invokevirtual 49, .goto 25, .iload 1, .ldc 13, .if_icmp .ge 22, .aload 0, .iload 2, .invokevirtual 50, .goto 25, .aload 0, .iload 2, .invokevirtual 48, .ireturn]
def pr_M_set : List Instr := [.iload 1, .i2l, .ldc2_w 1, .ldc2_w 3, .invokestatic 45, .ifCond .eq 36, .aload 0, .iload 1, .iload 2, .invokevirtual 51, .ifCond .eq 36, .iload 3, .i2l, .ldc2_w 1, .iload 1, .ifCond .ne 18, .ldc2_w 4, .goto 34, .iload 1, .ldc 2, .if_icmp .ne 23, .ldc2_w 5, .goto 34, .iload 1, .ldc 3, .if_icmp .ne 28, .ldc2_w 6, .goto 34, .iload 1, .ldc 4, .if_icmp .ne 33, .ldc2_w 7, .goto 34, .ldc2_w 8, .invokestatic 45, .ifCond .ne 38, .ldc 12, .ireturn, .aload 0, .iload 2, .iload 1, .invokevirtual 54, .istore 4, .iload 1, .ifCond .ne 51, .aload 0, .getfield 583, .iload 2, .iload 3, .iastore, .goto 83, .iload 1, .ldc 2, .if_icmp .ne 60, .aload 0, .getfield 587, .iload 2, .iload 3, .iastore, .goto 83, .iload 1, .ldc 3, .if_icmp .ne 69, .aload 0, .getfield 588, .iload 2, .iload 3, .iastore, .goto 83, .iload 1, .ldc 4, .if_icmp .ne 78, .aload 0, .getfield 589, .iload 2, .iload 3, .iastore, .goto 83, .aload 0, .getfield 592, .iload 2, .iload 3, .iastore, .iload 4, .ireturn]
def pr_M_sizeOf : List Instr := [.ldc 1, .istore 1, .iload 0, .istore 2, .iload 2, .ifCond .le 12, .iinc 1 2, .iload 2, .ldc 27, .idiv, .istore 2, .goto 4, .iload 1, .ireturn]
def pr_M_told : List Instr := [.iload 2, .i2l, .ldc2_w 1, .ldc2_w 2, .invokestatic 45, .ifCond .eq 11, .aload 0, .iload 2, .iload 1, .invokevirtual 51, .ifCond .ne 13, .ldc 12, .ireturn, .iload 2, .ldc 5, .if_icmp .ge 44, .iload 2, .ifCond .ne 23, .aload 0, .getfield 583, .iload 1, .iaload, .goto 43, .iload 2, .ldc 2, .if_icmp .ne 31, .aload 0, .getfield 587, .iload 1, .iaload, .goto 43, .iload 2, .ldc 3, .if_icmp .ne 39, .aload 0, .getfield 588, .iload 1, .iaload, .goto 43, .aload 0, .getfield 589, .iload 1, .iaload, .ireturn, .iload 2, .ldc 13, .if_icmp .ge 60, .iload 2, .ldc 5, .if_icmp .ne 55, .aload 0, .getfield 592, .iload 1, .iaload, .goto 59, .aload 0, .getfield 591, .iload 1, .iaload, .ireturn, .iload 2, .ldc 13, .if_icmp .ne 68, .aload 0, .getfield 584, .iload 1, .iaload, .goto 73, .aload 0, .getfield 585, .iload 1, .iaload, .invokestatic 53, .ireturn]
def pr_M_word : List Instr := [.iload 1, .i2l, .ldc2_w 1, .ldc2_w 5, .invokestatic 45, .ifCond .eq 12, .iload 2, .i2l, .ldc2_w 9, .ldc2_w 10, .invokestatic 45, .ifCond .ne 14, .ldc 12, .ireturn, .iload 2, .istore 3, .iload 3, .ifCond .le 33, .iload 3, .ldc 27, .irem, .i2l, .ldc2_w 9, .ldc2_w 11, .invokestatic 45, .ifCond .ne 28, .ldc 12, .ireturn, .iload 3, .ldc 27, .idiv, .istore 3, .goto 16, .aload 0, .getfield 586, .ldc 27, .if_icmp .ne 39, .ldc 16, .ireturn, .aload 0, .getfield 584, .aload 0, .getfield 586, .iload 1, .iastore, .aload 0, .getfield 585, .aload 0, .getfield 586, .iload 2, .iastore, .aload 0, .dup, .getfield 586, .ldc 2, .iadd, .putfield 586, .aload 0, .getfield 586, .ldc 2, .isub, .ireturn]
def pr_M_writer : List Instr := [.iload 1, .i2l, .ldc2_w 1, .ldc2_w 5, .invokestatic 45, .ifCond .eq 18, .iload 2, .i2l, .ldc2_w 1, .ldc2_w 6, .invokestatic 45, .ifCond .eq 18, .iload 3, .i2l, .ldc2_w 1, .ldc2_w 7, .invokestatic 45, .ifCond .ne 20, .ldc 12, .ireturn, .aload 0, .getfield 590, .ldc 6, .if_icmp .ne 26, .ldc 16, .ireturn, .aload 0, .getfield 587, .aload 0, .getfield 590, .iload 1, .iastore, .aload 0, .getfield 588, .aload 0, .getfield 590, .iload 2, .iastore, .aload 0, .getfield 589, .aload 0, .getfield 590, .iload 3, .iastore, .aload 0, .dup, .getfield 590, .ldc 2, .iadd, .putfield 590, .aload 0, .getfield 590, .ldc 2, .isub, .ireturn]
def pr_M_law : List Instr := [.iload 1, .i2l, .ldc2_w 1, .ldc2_w 12, .invokestatic 45, .ifCond .eq 12, .iload 2, .i2l, .ldc2_w 1, .ldc2_w 8, .invokestatic 45, .ifCond .ne 14, .ldc 12, .ireturn, .aload 0, .getfield 593, .ldc 13, .if_icmp .ne 20, .ldc 16, .ireturn, .aload 0, .getfield 591, .aload 0, .getfield 593, .iload 1, .iastore, .aload 0, .getfield 592, .aload 0, .getfield 593, .iload 2, .iastore, .aload 0, .dup, .getfield 593, .ldc 2, .iadd, .putfield 593, .aload 0, .getfield 593, .ldc 2, .isub, .ireturn]
def pr_M_rule : List Instr := [.aload 0, .iload 1, .invokevirtual 50, .ifCond .ne 6, .ldc 12, .ireturn, .aload 0, .getfield 594, .istore 2, .aload 0, .iload 1, .putfield 594, .iload 2, .ireturn]
def pr_M_steep : List Instr := [.iload 0, .iload 1, .iadd, .iload 0, .iload 1, .ldc 2, .iadd, .imul, .iadd, .ireturn]
def pr_M_costBy : List Instr := [.aload 0, .getfield 591, .aload 0, .getfield 594, .iaload, .istore 3, .aload 0, .getfield 592, .aload 0, .getfield 594, .iaload, .istore 4, .iload 3, .ifCond .ne 18, .iload 1, .iload 4, .iadd, .ireturn, .iload 3, .ldc 3, .if_icmp .eq 24, .iload 3, .ldc 5, .if_icmp .ne 38, .iload 3, .ldc 5, .if_icmp .ne 32, .iload 2, .ldc 13, .if_icmp .ge 32, .ldc 1, .goto 37, .iload 1, .iload 4, .iadd, .ldc 3, .idiv, .ireturn, .iload 3, .ldc 4, .if_icmp .ne 49, .iload 1, .iload 1, .ldc 4, .irem, .isub, .iload 4, .invokestatic 59, .goto 61, .iload 1, .iload 4, .invokestatic 59, .iload 3, .ldc 6, .if_icmp .ne 59, .iload 1, .ifCond .ne 59, .ldc 6, .goto 60, .ldc 1, .iadd, .ireturn]
def pr_M_agedBy : List Instr := [.aload 0, .getfield 591, .aload 0, .getfield 594, .iaload, .istore 2, .aload 0, .getfield 592, .aload 0, .getfield 594, .iaload, .istore 3, .iload 2, .ldc 3, .if_icmp .eq 18, .iload 2, .ldc 5, .if_icmp .ne 22, .iload 1, .iload 3, .isub, .goto 38, .iload 2, .ldc 4, .if_icmp .ne 29, .iload 1, .ldc 2, .isub, .goto 38, .iload 2, .ldc 6, .if_icmp .ne 37, .iload 1, .iload 3, .if_icmp .ge 37, .ldc 1, .goto 38, .iload 1, .istore 4, .iload 4, .ifCond .ge 43, .ldc 1, .goto 44, .iload 4, .ireturn]
def pr_M_feed : List Instr := [.iload 1, .i2l, .ldc2_w 1, .ldc2_w 13, .invokestatic 45, .ifCond .ne 8, .ldc 12, .ireturn, .aload 0, .getfield 582, .ldc 28, .if_icmp .ne 14, .ldc 16, .ireturn, .aload 0, .getfield 581, .aload 0, .getfield 582, .iload 1, .iastore, .aload 0, .dup, .getfield 582, .ldc 2, .iadd, .putfield 582, .aload 0, .getfield 582, .ireturn]
def pr_M_byteAt : List Instr := [.iload 1, .aload 0, .getfield 602, .if_icmp .ge 12, .aload 0, .getfield 577, .aload 0, .getfield 601, .iload 1, .iadd, .iaload, .goto 13, .ldc 0, .ireturn]
def pr_M_next : List Instr := [.aload 0, .aload 0, .getfield 603, .invokevirtual 63, .ldc 29, .if_icmp .eq 12, .aload 0, .aload 0, .getfield 603, .invokevirtual 63, .ldc 27, .if_icmp .ne 19, .aload 0, .dup, .getfield 603, .ldc 2, .iadd, .putfield 603, .goto 0, .aload 0, .aload 0, .getfield 603, .putfield 605, .aload 0, .aload 0, .getfield 603, .invokevirtual 63, .istore 1, .aload 0, .ldc 5, .putfield 604, .iload 1, .ifCond .ge 41, .aload 0, .ldc 1, .putfield 604, .aload 0, .aload 0, .getfield 602, .putfield 605, .goto 163, .iload 1, .i2l, .ldc2_w 14, .ldc2_w 15, .invokestatic 45, .ifCond .eq 66, .aload 0, .ldc 2, .putfield 604, .aload 0, .aload 0, .getfield 603, .invokevirtual 63, .i2l, .ldc2_w 14, .ldc2_w 15, .invokestatic 45, .ifCond .eq 163, .aload 0, .dup, .getfield 603, .ldc 2, .iadd, .putfield 603, .goto 50, .iload 1, .i2l, .ldc2_w 16, .ldc2_w 17, .invokestatic 45, .ifCond .eq 126, .aload 0, .ldc 3, .putfield 604, .aload 0, .ldc2_w 1, .putfield 606, .ldc 1, .istore 2, .aload 0, .aload 0, .getfield 603, .invokevirtual 63, .i2l, .ldc2_w 16, .ldc2_w 17, .invokestatic 45, .ifCond .eq 117, .aload 0, .iload 2, .ldc 5, .if_icmp .ge 106, .ldc2_w 18, .aload 0, .getfield 606, .lmul, .aload 0, .aload 0, .getfield 603, .invokevirtual 63, .i2l, .ladd, .ldc2_w 16, .lsub, .goto 108, .aload 0, .getfield 606, .putfield 606, .iinc 2 2, .aload 0, .dup, .getfield 603, .ldc 2, .iadd, .putfield 603, .goto 80, .aload 0, .iload 2, .ldc 5, .if_icmp .le 123, .ldc 5, .goto 124, .ldc 3, .putfield 604, .goto 163, .iload 1, .ldc 22, .if_icmp .eq 150, .iload 1, .ldc 30, .if_icmp .eq 150, .iload 1, .ldc 31, .if_icmp .eq 150, .iload 1, .ldc 32, .if_icmp .eq 150, .iload 1, .ldc 33, .if_icmp .eq 150, .iload 1, .ldc 34, .if_icmp .eq 150, .iload 1, .ldc 35, .if_icmp .eq 150, .iload 1, .ldc 36, .if_icmp .ne 163, .aload 0, .ldc 4, .putfield 604, .aload 0, .iload 1, .i2l, .putfield 606, .aload 0, .dup, .getfield 603, .ldc 2, .iadd, .putfield 603, .return_]
def pr_M_fail : List Instr := [.aload 0, .getfield 608, .ifCond .ne 10, .aload 0, .ldc 2, .putfield 608, .aload 0, .aload 0, .getfield 605, .putfield 609, .return_]
def pr_M_isLetter : List Instr := [.aload 0, .getfield 605, .iload 1, .iadd, .aload 0, .getfield 603, .if_icmp .ge 19, .aload 0, .aload 0, .getfield 605, .iload 1, .iadd, .invokevirtual 63, .iload 2, .if_icmp .ne 17, .ldc 2, .goto 24, .ldc 1, .goto 24, .iload 2, .ifCond .ne 23, .ldc 2, .goto 24, .ldc 1, .ireturn]
def pr_M_isWord : List Instr := [.aload 0, .getfield 608, .ifCond .ne 56, .aload 0, .getfield 604, .ldc 2, .if_icmp .ne 56, .aload 0, .getfield 603, .aload 0, .getfield 605, .ldc 7, .iadd, .if_icmp .gt 56, .aload 0, .ldc 1, .iload 1, .invokevirtual 66, .ifCond .eq 56, .aload 0, .ldc 2, .iload 2, .invokevirtual 66, .ifCond .eq 56, .aload 0, .ldc 3, .iload 3, .invokevirtual 66, .ifCond .eq 56, .aload 0, .ldc 4, .iload 4, .invokevirtual 66, .ifCond .eq 56, .aload 0, .ldc 5, .iload 5, .invokevirtual 66, .ifCond .eq 56, .aload 0, .ldc 6, .iload 6, .invokevirtual 66, .ifCond .eq 56, .aload 0, .ldc 13, .iload 7, .invokevirtual 66, .ifCond .eq 56, .aload 0, .ldc 14, .iload 8, .invokevirtual 66, .ifCond .eq 56, .ldc 2, .goto 57, .ldc 1, .ireturn]
def pr_M_isSign : List Instr := [.aload 0, .getfield 608, .ifCond .ne 15, .aload 0, .getfield 604, .ldc 4, .if_icmp .ne 15, .aload 0, .getfield 606, .iload 1, .i2l, .lcmp, .ifCond .ne 15, .ldc 2, .goto 16, .ldc 1, .ireturn]
def pr_M_opens : List Instr := [.aload 0, .getfield 607, .ldc 6, .if_icmp .ne 8, .aload 0, .invokevirtual 65, .ldc 1, .ireturn, .aload 0, .dup, .getfield 607, .ldc 2, .iadd, .putfield 607, .aload 0, .invokevirtual 64, .ldc 2, .ireturn]
def pr_M_name : List Instr := [.aload 0, .ldc 37, .ldc 38, .ldc 39, .ldc 40, .ldc 1, .ldc 1, .ldc 1, .ldc 1, .invokevirtual 67, .ifCond .eq 14, .aload 0, .getfield 595, .ireturn, .aload 0, .ldc 41, .ldc 42, .ldc 37, .ldc 43, .ldc 1, .ldc 1, .ldc 1, .ldc 1, .invokevirtual 67, .ifCond .eq 28, .aload 0, .getfield 596, .ireturn, .aload 0, .ldc 44, .ldc 39, .ldc 45, .ldc 45, .ldc 39, .ldc 43, .ldc 1, .ldc 1, .invokevirtual 67, .ifCond .eq 42, .aload 0, .getfield 597, .ireturn, .aload 0, .ldc 44, .ldc 39, .ldc 46, .ldc 47, .ldc 45, .ldc 41, .ldc 1, .ldc 1, .invokevirtual 67, .ifCond .eq 56, .aload 0, .getfield 598, .ireturn, .aload 0, .ldc 48, .ldc 37, .ldc 43, .ldc 38, .ldc 39, .ldc 1, .ldc 1, .ldc 1, .invokevirtual 67, .ifCond .eq 70, .aload 0, .getfield 599, .ireturn, .aload 0, .ldc 49, .ldc 50, .ldc 46, .ldc 51, .ldc 1, .ldc 1, .ldc 1, .ldc 1, .invokevirtual 67, .ifCond .eq 84, .aload 0, .getfield 600, .ireturn, .aload 0, .invokevirtual 65, .ldc 1, .ireturn]
def pr_M_atom : List Instr := [.ldc 1, .istore 1, .aload 0, .ldc 33, .invokevirtual 68, .ifCond .eq 20, .aload 0, .invokevirtual 69, .ifCond .eq 80, .aload 0, .invokevirtual 71, .ineg, .istore 1, .aload 0, .dup, .getfield 607, .ldc 2, .isub, .putfield 607, .goto 80, .aload 0, .ldc 22, .invokevirtual 68, .ifCond .eq 48, .aload 0, .invokevirtual 69, .ifCond .eq 80, .aload 0, .invokevirtual 76, .istore 1, .aload 0, .ldc 30, .invokevirtual 68, .ifCond .ne 36, .aload 0, .invokevirtual 65, .aload 0, .dup, .getfield 607, .ldc 2, .isub, .putfield 607, .aload 0, .getfield 608, .ifCond .ne 80, .aload 0, .invokevirtual 64, .goto 80, .aload 0, .getfield 608, .ifCond .ne 62, .aload 0, .getfield 604, .ldc 3, .if_icmp .ne 62, .aload 0, .getfield 606, .l2i, .istore 1, .aload 0, .invokevirtual 64, .goto 80, .aload 0, .getfield 608, .ifCond .ne 78, .aload 0, .getfield 604, .ldc 2, .if_icmp .ne 78, .aload 0, .invokevirtual 70, .istore 1, .aload 0, .getfield 608, .ifCond .ne 80, .aload 0, .invokevirtual 64, .goto 80, .aload 0, .invokevirtual 65, .iload 1, .ireturn]
def pr_M_term : List Instr := [.aload 0, .invokevirtual 71, .istore 1, .aload 0, .ldc 34, .invokevirtual 68, .ifCond .eq 15, .aload 0, .invokevirtual 64, .iload 1, .aload 0, .invokevirtual 71, .imul, .istore 1, .goto 3, .iload 1, .ireturn]
def pr_M_added : List Instr := [.aload 0, .invokevirtual 72, .istore 1, .aload 0, .ldc 32, .invokevirtual 68, .ifCond .ne 11, .aload 0, .ldc 33, .invokevirtual 68, .ifCond .eq 36, .aload 0, .getfield 606, .ldc2_w 19, .lcmp, .ifCond .ne 18, .ldc 2, .goto 19, .ldc 1, .istore 2, .aload 0, .invokevirtual 64, .aload 0, .invokevirtual 72, .istore 3, .iload 2, .ifCond .eq 31, .iload 1, .iload 3, .iadd, .goto 34, .iload 1, .iload 3, .isub, .istore 1, .goto 3, .iload 1, .ireturn]
def pr_M_not : List Instr := [.aload 0, .ldc 46, .ldc 42, .ldc 45, .ldc 1, .ldc 1, .ldc 1, .ldc 1, .ldc 1, .invokevirtual 67, .ifCond .eq 31, .aload 0, .invokevirtual 69, .ifCond .ne 16, .ldc 1, .ireturn, .aload 0, .invokevirtual 74, .istore 1, .aload 0, .dup, .getfield 607, .ldc 2, .isub, .putfield 607, .iload 1, .ifCond .ne 29, .ldc 2, .goto 30, .ldc 1, .ireturn, .aload 0, .invokevirtual 73, .istore 1, .aload 0, .ldc 35, .invokevirtual 68, .ifCond .ne 44, .aload 0, .ldc 36, .invokevirtual 68, .ifCond .ne 44, .iload 1, .ireturn, .aload 0, .getfield 606, .ldc2_w 20, .lcmp, .ifCond .ne 51, .ldc 2, .goto 52, .ldc 1, .istore 2, .aload 0, .invokevirtual 64, .aload 0, .invokevirtual 73, .istore 3, .iload 2, .ifCond .eq 64, .iload 1, .iload 3, .if_icmp .ge 69, .goto 67, .iload 1, .iload 3, .if_icmp .ne 69, .ldc 2, .goto 70, .ldc 1, .ireturn]
def pr_M_both : List Instr := [.aload 0, .invokevirtual 74, .istore 1, .aload 0, .ldc 50, .ldc 46, .ldc 40, .ldc 1, .ldc 1, .ldc 1, .ldc 1, .ldc 1, .invokevirtual 67, .ifCond .eq 28, .aload 0, .invokevirtual 64, .aload 0, .invokevirtual 74, .istore 2, .iload 1, .ifCond .eq 25, .iload 2, .ifCond .eq 25, .ldc 2, .goto 26, .ldc 1, .istore 1, .goto 3, .iload 1, .ireturn]
def pr_M_either : List Instr := [.aload 0, .invokevirtual 75, .istore 1, .aload 0, .ldc 42, .ldc 43, .ldc 1, .ldc 1, .ldc 1, .ldc 1, .ldc 1, .ldc 1, .invokevirtual 67, .ifCond .eq 28, .aload 0, .invokevirtual 64, .aload 0, .invokevirtual 75, .istore 2, .iload 1, .ifCond .ne 23, .iload 2, .ifCond .eq 25, .ldc 2, .goto 26, .ldc 1, .istore 1, .goto 3, .iload 1, .ireturn]
def pr_M_part : List Instr := [.iload 1, .ifCond .ne 4, .aload 0, .invokevirtual 65, .aload 0, .getfield 608, .ifCond .ne 9, .aload 0, .invokevirtual 64, .aload 0, .getfield 608, .ifCond .eq 14, .ldc 1, .goto 16, .aload 0, .invokevirtual 76, .istore 2, .aload 0, .ldc 31, .invokevirtual 68, .ifCond .ne 23, .aload 0, .invokevirtual 65, .aload 0, .getfield 608, .ifCond .ne 28, .aload 0, .invokevirtual 64, .iload 2, .ireturn]
def pr_M_read : List Instr := [.aload 0, .ldc 28, .iload 1, .imul, .putfield 601, .aload 0, .aload 0, .getfield 578, .iload 1, .iaload, .putfield 602, .aload 0, .ldc 1, .putfield 603, .aload 0, .ldc 1, .putfield 607, .aload 0, .ldc 1, .putfield 608, .aload 0, .invokevirtual 64, .aload 0, .aload 0, .ldc 50, .ldc 40, .ldc 40, .ldc 38, .ldc 1, .ldc 1, .ldc 1, .ldc 1, .invokevirtual 67, .invokevirtual 77, .istore 3, .aload 0, .getfield 608, .ifCond .eq 40, .ldc 1, .goto 52, .aload 0, .aload 0, .ldc 52, .ldc 42, .ldc 43, .ldc 45, .ldc 41, .ldc 1, .ldc 1, .ldc 1, .invokevirtual 67, .invokevirtual 77, .istore 4, .aload 0, .getfield 608, .ifCond .eq 58, .ldc 1, .goto 70, .aload 0, .aload 0, .ldc 49, .ldc 50, .ldc 51, .ldc 1, .ldc 1, .ldc 1, .ldc 1, .ldc 1, .invokevirtual 67, .invokevirtual 77, .istore 5, .aload 0, .getfield 608, .ifCond .ne 79, .aload 0, .getfield 604, .ifCond .eq 79, .aload 0, .invokevirtual 65, .iload 2, .ifCond .ne 83, .iload 3, .goto 89, .iload 2, .ldc 2, .if_icmp .ne 88, .iload 4, .goto 89, .iload 5, .ireturn]
def pr_M_text : List Instr := [.aload 0, .getfield 579, .ldc 13, .if_icmp .ne 6, .ldc 16, .ireturn, .ldc 1, .istore 1, .iload 1, .aload 0, .getfield 582, .if_icmp .ge 27, .aload 0, .getfield 577, .ldc 28, .aload 0, .getfield 579, .imul, .iload 1, .iadd, .aload 0, .getfield 581, .iload 1, .iaload, .iastore, .iinc 1 2, .goto 8, .aload 0, .getfield 578, .aload 0, .getfield 579, .aload 0, .getfield 582, .iastore, .aload 0, .ldc 1, .putfield 582, .aload 0, .aload 0, .getfield 579, .ldc 1, .invokevirtual 78, .istore 1, .aload 0, .getfield 608, .ifCond .eq 51, .ldc 17, .aload 0, .getfield 609, .isub, .ireturn, .aload 0, .dup, .getfield 579, .ldc 2, .iadd, .putfield 579, .aload 0, .getfield 579, .ldc 2, .isub, .ireturn]
def pr_M_force : List Instr := [.iload 1, .i2l, .ldc2_w 1, .aload 0, .getfield 579, .ldc 2, .isub, .i2l, .invokestatic 45, .ifCond .ne 12, .ldc 12, .ireturn, .aload 0, .getfield 580, .istore 2, .aload 0, .iload 1, .putfield 580, .iload 2, .ireturn]
def pr_M_adds : List Instr := [.aload 0, .iload 1, .putfield 595, .aload 0, .iload 2, .putfield 596, .aload 0, .iload 3, .putfield 597, .aload 0, .ldc 1, .putfield 598, .aload 0, .ldc 1, .putfield 599, .aload 0, .ldc 1, .putfield 600, .aload 0, .ldc 1, .invokevirtual 83, .ldc 1, .ldc 53, .invokestatic 46, .ireturn]
def pr_M_says : List Instr := [.aload 0, .ldc 1, .putfield 595, .aload 0, .aload 0, .getfield 588, .iload 2, .iaload, .putfield 596, .aload 0, .ldc 1, .putfield 597, .aload 0, .aload 0, .getfield 585, .iload 3, .iaload, .invokestatic 53, .putfield 598, .aload 0, .aload 0, .getfield 589, .iload 2, .iaload, .putfield 599, .aload 0, .aload 0, .getfield 590, .putfield 600, .aload 0, .iload 1, .invokevirtual 83, .ireturn]
def pr_M_keptRead : List Instr := [.aload 0, .getfield 580, .i2l, .ldc2_w 5, .lmul, .iload 1, .i2l, .ladd, .lstore 2, .lload 2, .ldc2_w 21, .lmul, .aload 0, .getfield 595, .i2l, .ladd, .lstore 2, .lload 2, .ldc2_w 22, .lmul, .aload 0, .getfield 596, .i2l, .ladd, .lstore 2, .lload 2, .ldc2_w 23, .lmul, .aload 0, .getfield 597, .i2l, .ladd, .lstore 2, .lload 2, .ldc2_w 24, .lmul, .aload 0, .getfield 598, .i2l, .ladd, .lstore 2, .lload 2, .ldc2_w 25, .lmul, .aload 0, .getfield 599, .i2l, .ladd, .lstore 2, .lload 2, .ldc2_w 23, .lmul, .aload 0, .getfield 600, .i2l, .ladd, .ldc2_w 9, .ladd, .lstore 2, .lload 2, .ldc2_w 26, .lmul, .ldc 54, .lushr, .l2i, .istore 4, .aload 0, .getfield 610, .iload 4, .laload, .lload 2, .lcmp, .ifCond .eq 87, .aload 0, .getfield 611, .iload 4, .aload 0, .aload 0, .getfield 580, .iload 1, .invokevirtual 78, .iastore, .aload 0, .getfield 610, .iload 4, .lload 2, .lastore, .aload 0, .getfield 611, .iload 4, .iaload, .ireturn]
def pr_M_takes : List Instr := [.ldc 1, .istore 1, .iload 1, .ldc 7, .if_icmp .ge 15, .aload 0, .getfield 612, .iload 1, .aload 0, .getfield 583, .iload 1, .iaload, .iastore, .iinc 1 2, .goto 2, .return_]
def pr_M_writes : List Instr := [.ldc 2, .istore 3, .ldc 2, .istore 4, .iload 4, .aload 0, .getfield 585, .iload 1, .iaload, .invokestatic 53, .if_icmp .ge 17, .iload 3, .ldc 27, .imul, .istore 3, .iinc 4 2, .goto 4, .ldc 1, .istore 4, .iload 3, .istore 5, .iload 5, .ifCond .le 76, .aload 0, .getfield 585, .iload 1, .iaload, .iload 5, .idiv, .ldc 27, .irem, .ldc 2, .isub, .istore 6, .iload 4, .aload 0, .aload 0, .getfield 612, .iload 6, .iaload, .iload 2, .invokevirtual 60, .aload 0, .aload 0, .getfield 612, .iload 6, .iaload, .iload 2, .iload 6, .invokevirtual 81, .iadd, .iadd, .istore 4, .aload 0, .getfield 612, .iload 6, .aload 0, .getfield 612, .iload 6, .iaload, .ldc 8, .if_icmp .ge 69, .aload 0, .getfield 612, .iload 6, .iaload, .ldc 2, .iadd, .goto 70, .ldc 8, .iastore, .iload 5, .ldc 27, .idiv, .istore 5, .goto 21, .iload 4, .ireturn]
def pr_M_costOf : List Instr := [.ldc 1, .istore 3, .iload 3, .ldc 7, .if_icmp .ge 15, .aload 0, .getfield 613, .iload 3, .aload 0, .getfield 612, .iload 3, .iaload, .iastore, .iinc 3 2, .goto 2, .aload 0, .iload 1, .iload 2, .invokevirtual 85, .istore 3, .ldc 1, .istore 4, .iload 4, .ldc 7, .if_icmp .ge 35, .aload 0, .getfield 612, .iload 4, .aload 0, .getfield 613, .iload 4, .iaload, .iastore, .iinc 4 2, .goto 22, .iload 3, .ireturn]
def pr_M_ages : List Instr := [.ldc 1, .istore 1, .iload 1, .ldc 7, .if_icmp .ge 17, .aload 0, .getfield 612, .iload 1, .aload 0, .aload 0, .getfield 612, .iload 1, .iaload, .invokevirtual 61, .iastore, .iinc 1 2, .goto 2, .return_]
def pr_M_rowSum : List Instr := [.ldc 1, .istore 1, .ldc 1, .istore 2, .iload 2, .ldc 7, .if_icmp .ge 16, .iload 1, .aload 0, .getfield 612, .iload 2, .iaload, .iadd, .istore 1, .iinc 2 2, .goto 4, .iload 1, .ireturn]
def pr_M_keeps : List Instr := [.ldc 1, .istore 1, .iload 1, .ldc 7, .if_icmp .ge 15, .aload 0, .getfield 583, .iload 1, .aload 0, .getfield 612, .iload 1, .iaload, .iastore, .iinc 1 2, .goto 2, .return_]
def pr_M_costs : List Instr := [.aload 0, .iload 1, .invokevirtual 48, .ifCond .eq 10, .iload 2, .i2l, .ldc2_w 1, .ldc2_w 6, .invokestatic 45, .ifCond .ne 12, .ldc 12, .ireturn, .aload 0, .invokevirtual 84, .aload 0, .iload 1, .iload 2, .invokevirtual 85, .ireturn]
def pr_M_write : List Instr := [.aload 0, .iload 1, .invokevirtual 48, .ifCond .eq 10, .iload 2, .i2l, .ldc2_w 1, .ldc2_w 6, .invokestatic 45, .ifCond .ne 12, .ldc 12, .ireturn, .aload 0, .invokevirtual 84, .aload 0, .iload 1, .iload 2, .invokevirtual 85, .istore 3, .aload 0, .invokevirtual 89, .iload 3, .ireturn]
def pr_M_pass : List Instr := [.iload 1, .i2l, .ldc2_w 1, .ldc2_w 27, .invokestatic 45, .ifCond .ne 8, .ldc 12, .ireturn, .aload 0, .invokevirtual 84, .ldc 1, .istore 2, .iload 2, .iload 1, .if_icmp .ge 19, .aload 0, .invokevirtual 87, .iinc 2 2, .goto 12, .aload 0, .invokevirtual 89, .aload 0, .invokevirtual 88, .ireturn]
def pr_M_cheapest : List Instr := [.iload 1, .i2l, .ldc2_w 1, .ldc2_w 5, .invokestatic 45, .ifCond .eq 18, .iload 2, .i2l, .ldc2_w 1, .ldc2_w 6, .invokestatic 45, .ifCond .eq 18, .iload 3, .i2l, .ldc2_w 1, .ldc2_w 9, .invokestatic 45, .ifCond .ne 20, .ldc 12, .ireturn, .aload 0, .invokevirtual 84, .ldc 0, .istore 4, .ldc 1, .istore 5, .ldc 1, .istore 6, .iload 6, .aload 0, .getfield 586, .if_icmp .ge 55, .aload 0, .getfield 584, .iload 6, .iaload, .iload 1, .if_icmp .ne 53, .aload 0, .iload 6, .iload 2, .invokevirtual 86, .istore 7, .iload 4, .ldc 0, .if_icmp .eq 49, .iload 7, .iload 5, .if_icmp .ge 53, .iload 6, .istore 4, .iload 7, .istore 5, .iinc 6 2, .goto 28, .iload 4, .ldc 0, .if_icmp .eq 60, .iload 3, .ifCond .ne 62, .iload 4, .goto 63, .iload 5, .ireturn]
def pr_M_turnOf : List Instr := [.aload 0, .getfield 614, .iload 1, .ldc 0, .iastore, .aload 0, .getfield 615, .iload 1, .ldc 1, .iastore, .ldc 1, .istore 2, .iload 2, .aload 0, .getfield 586, .if_icmp .ge 85, .aload 0, .getfield 584, .iload 2, .iaload, .aload 0, .getfield 587, .iload 1, .iaload, .if_icmp .ne 83, .aload 0, .iload 2, .aload 0, .getfield 588, .iload 1, .iaload, .invokevirtual 86, .istore 3, .iload 1, .aload 0, .getfield 616, .if_icmp .ne 49, .iload 3, .aload 0, .getfield 617, .if_icmp .ne 49, .aload 0, .dup, .getfield 618, .ldc 2, .iload 2, .ishl, .ior, .putfield 618, .iload 3, .aload 0, .getfield 589, .iload 1, .iaload, .if_icmp .gt 83, .aload 0, .getfield 614, .iload 1, .iaload, .ldc 0, .if_icmp .eq 67, .iload 3, .aload 0, .getfield 615, .iload 1, .iaload, .if_icmp .ge 83, .aload 0, .ldc 3, .iload 1, .iload 2, .invokevirtual 82, .ifCond .eq 83, .aload 0, .getfield 614, .iload 1, .iload 2, .iastore, .aload 0, .getfield 615, .iload 1, .iload 3, .iastore, .iinc 2 2, .goto 12, .aload 0, .getfield 614, .iload 1, .iaload, .ldc 0, .if_icmp .eq 102, .aload 0, .aload 0, .getfield 614, .iload 1, .iaload, .aload 0, .getfield 588, .iload 1, .iaload, .invokevirtual 85, .pop, .return_]
def pr_M_passesDay : List Instr := [.ldc 1, .istore 1, .iload 1, .ldc 18, .if_icmp .ge 26, .ldc 1, .istore 2, .iload 2, .aload 0, .getfield 590, .if_icmp .ge 22, .aload 0, .getfield 588, .iload 2, .iaload, .iload 1, .if_icmp .ne 20, .aload 0, .iload 2, .invokevirtual 94, .iinc 2 2, .goto 7, .aload 0, .invokevirtual 87, .iinc 1 2, .goto 2, .return_]
def pr_M_dayNow : List Instr := [.aload 0, .invokevirtual 84, .aload 0, .invokevirtual 95, .return_]
def pr_M_goodOf : List Instr := [.aload 0, .getfield 614, .iload 1, .iaload, .ldc 0, .if_icmp .ne 8, .ldc 1, .goto 24, .aload 0, .ldc 2, .iload 1, .aload 0, .getfield 614, .iload 1, .iaload, .invokevirtual 82, .ldc 1, .ldc 8, .invokestatic 46, .aload 0, .getfield 615, .iload 1, .iaload, .isub, .ireturn]
def pr_M_allGood : List Instr := [.ldc 1, .istore 1, .ldc 1, .istore 2, .iload 2, .aload 0, .getfield 590, .if_icmp .ge 16, .iload 1, .aload 0, .iload 2, .invokevirtual 97, .iadd, .istore 1, .iinc 2 2, .goto 4, .iload 1, .ireturn]
def pr_M_saying : List Instr := [.ldc 1, .istore 1, .ldc 1, .istore 2, .iload 2, .aload 0, .getfield 590, .if_icmp .ge 22, .iload 1, .aload 0, .getfield 614, .iload 2, .iaload, .ldc 0, .if_icmp .ne 17, .ldc 1, .goto 18, .ldc 2, .iadd, .istore 1, .iinc 2 2, .goto 4, .iload 1, .ireturn]
def pr_M_day : List Instr := [.aload 0, .iload 1, .invokevirtual 49, .ifCond .eq 10, .iload 2, .i2l, .ldc2_w 1, .ldc2_w 28, .invokestatic 45, .ifCond .ne 12, .ldc 19, .ireturn, .aload 0, .invokevirtual 96, .iload 2, .ifCond .ne 21, .aload 0, .getfield 615, .iload 1, .iaload, .goto 32, .iload 2, .ldc 2, .if_icmp .ne 29, .aload 0, .getfield 614, .iload 1, .iaload, .goto 32, .aload 0, .iload 1, .invokevirtual 97, .ireturn]
def pr_M_all : List Instr := [.iload 1, .i2l, .ldc2_w 1, .ldc2_w 5, .invokestatic 45, .ifCond .ne 8, .ldc 19, .ireturn, .aload 0, .invokevirtual 96, .iload 1, .ldc 3, .if_icmp .ge 21, .iload 1, .ifCond .ne 18, .aload 0, .invokevirtual 98, .goto 20, .aload 0, .invokevirtual 99, .ireturn, .iload 1, .ldc 4, .if_icmp .ne 43, .ldc 1, .istore 2, .ldc 1, .istore 3, .iload 3, .aload 0, .getfield 590, .if_icmp .ge 41, .iload 2, .aload 0, .getfield 615, .iload 3, .iaload, .iadd, .istore 2, .iinc 3 2, .goto 28, .iload 2, .ireturn, .aload 0, .getfield 612, .ldc 1, .iaload, .istore 2, .aload 0, .getfield 612, .ldc 1, .iaload, .istore 3, .ldc 2, .istore 4, .iload 4, .ldc 7, .if_icmp .ge 86, .aload 0, .getfield 612, .iload 4, .iaload, .iload 2, .if_icmp .le 69, .aload 0, .getfield 612, .iload 4, .iaload, .goto 70, .iload 2, .istore 2, .aload 0, .getfield 612, .iload 4, .iaload, .iload 3, .if_icmp .ge 82, .aload 0, .getfield 612, .iload 4, .iaload, .goto 83, .iload 3, .istore 3, .iinc 4 2, .goto 55, .iload 2, .iload 3, .isub, .ireturn]
def pr_M_seeks : List Instr := [.aload 0, .getfield 588, .iload 1, .iaload, .istore 2, .ldc 1, .istore 3, .iload 3, .ldc 18, .if_icmp .ge 35, .aload 0, .getfield 588, .iload 1, .iload 3, .iastore, .aload 0, .invokevirtual 96, .aload 0, .iload 1, .invokevirtual 97, .istore 4, .iload 3, .ifCond .eq 27, .iload 4, .aload 0, .getfield 620, .if_icmp .le 33, .aload 0, .iload 3, .putfield 619, .aload 0, .iload 4, .putfield 620, .iinc 3 2, .goto 7, .aload 0, .getfield 588, .iload 1, .iload 2, .iastore, .return_]
def pr_M_when : List Instr := [.aload 0, .iload 1, .invokevirtual 49, .ifCond .eq 10, .iload 2, .i2l, .ldc2_w 1, .ldc2_w 9, .invokestatic 45, .ifCond .ne 12, .ldc 19, .ireturn, .aload 0, .iload 1, .invokevirtual 102, .iload 2, .ifCond .ne 20, .aload 0, .getfield 619, .goto 22, .aload 0, .getfield 620, .ireturn]
def pr_M_choose : List Instr := [.aload 0, .iload 1, .invokevirtual 49, .ifCond .ne 6, .ldc 19, .ireturn, .aload 0, .iload 1, .invokevirtual 102, .aload 0, .getfield 588, .iload 1, .aload 0, .getfield 619, .iastore, .aload 0, .getfield 620, .ireturn]
def pr_M_rest : List Instr := [.ldc 1, .istore 1, .iload 1, .aload 0, .getfield 590, .if_icmp .ge 23, .aload 0, .invokevirtual 96, .aload 0, .iload 1, .invokevirtual 97, .istore 2, .aload 0, .iload 1, .invokevirtual 102, .aload 0, .getfield 620, .iload 2, .if_icmp .le 21, .ldc 1, .ireturn, .iinc 1 2, .goto 2, .ldc 2, .ireturn]
def pr_M_orders : List Instr := [.iload 1, .iload 2, .if_icmp .ne 23, .aload 0, .invokevirtual 96, .aload 0, .invokevirtual 98, .istore 5, .aload 0, .getfield 623, .ldc 0, .if_icmp .eq 16, .iload 5, .aload 0, .getfield 622, .if_icmp .le 22, .aload 0, .iload 5, .putfield 622, .aload 0, .iload 4, .putfield 623, .return_, .ldc 1, .istore 5, .iload 5, .iload 2, .if_icmp .ge 60, .iload 3, .iload 5, .ishr, .ldc 2, .iand, .ifCond .ne 58, .aload 0, .getfield 588, .iload 1, .aload 0, .getfield 621, .iload 5, .iaload, .iastore, .aload 0, .iload 1, .ldc 2, .iadd, .iload 2, .iload 3, .ldc 2, .iload 5, .ishl, .ior, .ldc 27, .iload 4, .imul, .iload 5, .iadd, .invokevirtual 106, .iinc 5 2, .goto 25, .aload 0, .getfield 588, .iload 1, .aload 0, .getfield 621, .iload 1, .iaload, .iastore, .return_]
def pr_M_turns : List Instr := [.iload 1, .i2l, .ldc2_w 1, .ldc2_w 9, .invokestatic 45, .ifCond .ne 8, .ldc 19, .ireturn, .ldc 1, .istore 2, .iload 2, .ldc 6, .if_icmp .ge 23, .aload 0, .getfield 621, .iload 2, .aload 0, .getfield 588, .iload 2, .iaload, .iastore, .iinc 2 2, .goto 10, .aload 0, .ldc 0, .putfield 623, .aload 0, .ldc 1, .putfield 622, .aload 0, .ldc 1, .aload 0, .getfield 590, .ldc 5, .if_icmp .ge 38, .aload 0, .getfield 590, .goto 39, .ldc 5, .ldc 1, .ldc 1, .invokevirtual 106, .iload 1, .ifCond .ne 47, .aload 0, .getfield 622, .goto 49, .aload 0, .getfield 623, .ireturn]
def pr_M_burned : List Instr := [.aload 0, .invokevirtual 96, .aload 0, .invokevirtual 98, .istore 3, .aload 0, .invokevirtual 84, .aload 0, .getfield 612, .iload 1, .aload 0, .getfield 612, .iload 1, .iaload, .iload 2, .iadd, .ldc 8, .if_icmp .ge 25, .aload 0, .getfield 612, .iload 1, .iaload, .iload 2, .iadd, .goto 26, .ldc 8, .iastore, .aload 0, .invokevirtual 95, .iload 3, .aload 0, .invokevirtual 98, .isub, .ireturn]
def pr_M_burn : List Instr := [.iload 1, .i2l, .ldc2_w 1, .ldc2_w 2, .invokestatic 45, .ifCond .eq 17, .iload 2, .i2l, .ldc2_w 9, .ldc2_w 29, .invokestatic 45, .ifCond .eq 17, .aload 0, .iload 1, .iload 2, .invokevirtual 108, .goto 18, .ldc 19, .ireturn]
def pr_M_worst : List Instr := [.iload 1, .i2l, .ldc2_w 9, .ldc2_w 29, .invokestatic 45, .ifCond .eq 12, .iload 2, .i2l, .ldc2_w 1, .ldc2_w 9, .invokestatic 45, .ifCond .ne 14, .ldc 19, .ireturn, .ldc 1, .istore 3, .ldc 1, .istore 4, .ldc 1, .istore 5, .iload 5, .ldc 7, .if_icmp .ge 39, .aload 0, .iload 5, .iload 1, .invokevirtual 108, .istore 6, .iload 5, .ifCond .eq 33, .iload 6, .iload 4, .if_icmp .le 37, .iload 5, .istore 3, .iload 6, .istore 4, .iinc 5 2, .goto 20, .iload 2, .ifCond .ne 43, .iload 3, .goto 44, .iload 4, .ireturn]
def pr_M_best : List Instr := [.iload 1, .i2l, .ldc2_w 1, .ldc2_w 28, .invokestatic 45, .ifCond .ne 8, .ldc 19, .ireturn, .aload 0, .getfield 594, .istore 2, .ldc 0, .istore 3, .ldc 1, .istore 4, .ldc 1, .istore 5, .aload 0, .ldc 1, .putfield 594, .aload 0, .getfield 594, .aload 0, .getfield 593, .if_icmp .ge 59, .aload 0, .invokevirtual 96, .aload 0, .invokevirtual 99, .istore 6, .aload 0, .invokevirtual 98, .istore 7, .iload 3, .ldc 0, .if_icmp .eq 45, .iload 6, .iload 4, .if_icmp .gt 45, .iload 6, .iload 4, .if_icmp .ne 52, .iload 7, .iload 5, .if_icmp .le 52, .aload 0, .getfield 594, .istore 3, .iload 6, .istore 4, .iload 7, .istore 5, .aload 0, .dup, .getfield 594, .ldc 2, .iadd, .putfield 594, .goto 20, .aload 0, .iload 2, .putfield 594, .iload 1, .ifCond .ne 66, .iload 3, .goto 72, .iload 1, .ldc 2, .if_icmp .ne 71, .iload 4, .goto 72, .iload 5, .ireturn]
def pr_M_paidBad : List Instr := [.iload 1, .invokestatic 123, .ifCond .ne 5, .ldc 12, .ireturn, .aload 0, .getfield 632, .iload 1, .baload, .ifCond .ne 12, .ldc 24, .ireturn, .aload 0, .getfield 634, .iload 1, .iaload, .aload 0, .getfield 590, .if_icmp .ne 21, .ldc 1, .goto 22, .ldc 12, .ireturn]
def pr_M_unlike : List Instr := [.aload 0, .invokevirtual 96, .ldc 1, .istore 2, .iload 2, .aload 0, .getfield 590, .if_icmp .ge 33, .aload 0, .getfield 614, .iload 2, .iaload, .ldc 0, .if_icmp .ne 16, .ldc 0, .goto 20, .aload 0, .getfield 615, .iload 2, .iaload, .aload 0, .getfield 635, .ldc 22, .iload 1, .imul, .iload 2, .iadd, .iaload, .if_icmp .eq 31, .iload 2, .ireturn, .iinc 2 2, .goto 4, .ldc 0, .ireturn]
def pr_M_judge : List Instr := [.aload 0, .iload 1, .invokevirtual 112, .istore 2, .iload 2, .ifCond .eq 8, .iload 2, .goto 11, .aload 0, .iload 1, .invokevirtual 113, .ireturn]
def pr_M_fits : List Instr := [.aload 0, .iload 1, .invokevirtual 49, .ifCond .eq 10, .iload 2, .i2l, .ldc2_w 1, .ldc2_w 7, .invokestatic 45, .ifCond .ne 12, .ldc 12, .ireturn, .aload 0, .iload 1, .putfield 616, .aload 0, .iload 2, .putfield 617, .aload 0, .ldc 1, .putfield 618, .aload 0, .invokevirtual 96, .aload 0, .ldc 0, .putfield 616, .aload 0, .getfield 618, .ireturn]
def pr_M_whose : List Instr := [.aload 0, .iload 1, .invokevirtual 112, .istore 2, .iload 2, .ifCond .eq 8, .iload 2, .ireturn, .aload 0, .getfield 594, .istore 3, .ldc 1, .istore 4, .aload 0, .ldc 1, .putfield 594, .aload 0, .getfield 594, .aload 0, .getfield 593, .if_icmp .ge 42, .iload 4, .aload 0, .iload 1, .invokevirtual 113, .ldc 0, .if_icmp .ne 29, .ldc 2, .goto 30, .ldc 1, .aload 0, .getfield 594, .ishl, .ior, .istore 4, .aload 0, .dup, .getfield 594, .ldc 2, .iadd, .putfield 594, .goto 16, .aload 0, .iload 3, .putfield 594, .iload 4, .ireturn]
def pr_M_draws : List Instr := [.iload 1, .istore 2, .ldc 1, .istore 3, .iload 3, .ldc 7, .if_icmp .ge 24, .iload 2, .ldc 55, .imul, .ldc 56, .iadd, .istore 2, .aload 0, .getfield 612, .iload 3, .iload 2, .ldc 27, .iushr, .ldc 57, .irem, .iastore, .iinc 3 2, .goto 4, .aload 0, .invokevirtual 95, .return_]
def pr_M_drawn : List Instr := [.aload 0, .iload 1, .invokevirtual 117, .aload 0, .invokevirtual 98, .ireturn]
def pr_M_chance : List Instr := [.iload 2, .i2l, .ldc2_w 9, .ldc2_w 29, .invokestatic 45, .ifCond .eq 12, .iload 3, .i2l, .ldc2_w 1, .ldc2_w 9, .invokestatic 45, .ifCond .ne 14, .ldc2_w 0, .lreturn, .ldc2_w 1, .lstore 4, .ldc 1, .istore 6, .iload 6, .iload 2, .if_icmp .ge 39, .aload 0, .iload 1, .iload 6, .iadd, .invokevirtual 117, .lload 4, .aload 0, .invokevirtual 99, .aload 0, .getfield 590, .if_icmp .ne 34, .ldc2_w 9, .goto 35, .ldc2_w 1, .ladd, .lstore 4, .iinc 6 2, .goto 18, .lload 4, .lstore 6, .iload 2, .i2l, .lstore 8, .lload 8, .ldc2_w 1, .lcmp, .ifCond .eq 57, .lload 6, .lload 8, .lrem, .lstore 10, .lload 8, .lstore 6, .lload 10, .lstore 8, .goto 44, .iload 3, .ifCond .ne 63, .lload 4, .lload 6, .ldiv, .goto 67, .iload 2, .i2l, .lload 6, .ldiv, .lreturn]
def pr_M_image : List Instr := [.ldc 1, .istore 1, .iload 1, .ldc 7, .if_icmp .ge 15, .aload 0, .getfield 624, .iload 1, .aload 0, .getfield 583, .iload 1, .iaload, .iastore, .iinc 1 2, .goto 2, .ldc 1, .istore 1, .iload 1, .ldc 6, .if_icmp .ge 50, .aload 0, .getfield 625, .iload 1, .aload 0, .getfield 587, .iload 1, .iaload, .iastore, .aload 0, .getfield 625, .ldc 6, .iload 1, .iadd, .aload 0, .getfield 588, .iload 1, .iaload, .iastore, .aload 0, .getfield 625, .ldc 27, .iload 1, .iadd, .aload 0, .getfield 589, .iload 1, .iaload, .iastore, .iinc 1 2, .goto 17, .ldc 1, .istore 1, .iload 1, .ldc 13, .if_icmp .ge 65, .aload 0, .getfield 626, .iload 1, .aload 0, .getfield 592, .iload 1, .iaload, .iastore, .iinc 1 2, .goto 52, .aload 0, .aload 0, .getfield 590, .putfield 627, .aload 0, .aload 0, .getfield 586, .putfield 628, .aload 0, .aload 0, .getfield 593, .putfield 629, .aload 0, .aload 0, .getfield 594, .putfield 630, .aload 0, .aload 0, .getfield 580, .putfield 631, .aload 0, .getfield 590, .ireturn]
def pr_M_back : List Instr := [.aload 0, .getfield 627, .ldc 0, .if_icmp .ne 6, .ldc 21, .ireturn, .ldc 1, .istore 1, .iload 1, .ldc 7, .if_icmp .ge 21, .aload 0, .getfield 583, .iload 1, .aload 0, .getfield 624, .iload 1, .iaload, .iastore, .iinc 1 2, .goto 8, .ldc 1, .istore 1, .iload 1, .ldc 6, .if_icmp .ge 56, .aload 0, .getfield 587, .iload 1, .aload 0, .getfield 625, .iload 1, .iaload, .iastore, .aload 0, .getfield 588, .iload 1, .aload 0, .getfield 625, .ldc 6, .iload 1, .iadd, .iaload, .iastore, .aload 0, .getfield 589, .iload 1, .aload 0, .getfield 625, .ldc 27, .iload 1, .iadd, .iaload, .iastore, .iinc 1 2, .goto 23, .ldc 1, .istore 1, .iload 1, .ldc 13, .if_icmp .ge 71, .aload 0, .getfield 592, .iload 1, .aload 0, .getfield 626, .iload 1, .iaload, .iastore, .iinc 1 2, .goto 58, .aload 0, .aload 0, .getfield 627, .putfield 590, .aload 0, .aload 0, .getfield 628, .putfield 586, .aload 0, .aload 0, .getfield 629, .putfield 593, .aload 0, .aload 0, .getfield 630, .putfield 594, .aload 0, .aload 0, .getfield 631, .putfield 580, .aload 0, .getfield 590, .ireturn]
def pr_M_count : List Instr := [.iload 1, .i2l, .ldc2_w 1, .ldc2_w 2, .invokestatic 45, .ifCond .ne 8, .ldc 12, .ireturn, .iload 1, .ldc 5, .if_icmp .ge 31, .iload 1, .ifCond .ne 16, .aload 0, .getfield 586, .goto 30, .iload 1, .ldc 2, .if_icmp .ne 22, .aload 0, .getfield 590, .goto 30, .iload 1, .ldc 3, .if_icmp .ne 28, .aload 0, .getfield 593, .goto 30, .aload 0, .getfield 594, .ireturn, .iload 1, .ldc 14, .if_icmp .ge 49, .iload 1, .ldc 5, .if_icmp .ne 40, .aload 0, .getfield 579, .goto 48, .iload 1, .ldc 6, .if_icmp .ne 46, .aload 0, .getfield 582, .goto 48, .aload 0, .getfield 580, .ireturn, .aload 0, .invokevirtual 84, .aload 0, .invokevirtual 88, .ireturn]
def pr_M_isSheet : List Instr := [.iload 0, .i2l, .ldc2_w 1, .ldc2_w 5, .invokestatic 45, .ireturn]
def pr_M_sheet : List Instr := [.iload 1, .invokestatic 123, .ifCond .eq 14, .iload 2, .i2l, .ldc2_w 30, .ldc2_w 28, .invokestatic 45, .ifCond .eq 14, .iload 2, .ifCond .lt 16, .iload 3, .ldc 22, .if_icmp .le 16, .ldc 12, .ireturn, .iload 2, .ifCond .lt 22, .iload 3, .ifCond .ge 22, .ldc 23, .ireturn, .aload 0, .getfield 632, .iload 1, .iload 2, .ifCond .lt 29, .ldc 2, .goto 30, .ldc 1, .bastore, .aload 0, .getfield 633, .iload 1, .iload 2, .iastore, .aload 0, .getfield 634, .iload 1, .iload 3, .iastore, .ldc 1, .istore 4, .iload 4, .iload 3, .if_icmp .ge 59, .iload 2, .ifCond .lt 59, .aload 0, .getfield 635, .ldc 22, .iload 1, .imul, .iload 4, .iadd, .ldc 1, .iastore, .iinc 4 2, .goto 43, .ldc 2, .ireturn]
def pr_M_cell : List Instr := [.iload 1, .invokestatic 123, .ifCond .ne 5, .ldc 12, .ireturn, .aload 0, .getfield 632, .iload 1, .baload, .ifCond .ne 12, .ldc 24, .ireturn, .iload 2, .i2l, .ldc2_w 1, .aload 0, .getfield 634, .iload 1, .iaload, .ldc 2, .isub, .i2l, .invokestatic 45, .ifCond .ne 26, .ldc 25, .ireturn, .aload 0, .getfield 635, .ldc 22, .iload 1, .imul, .iload 2, .iadd, .aload 0, .getfield 633, .iload 1, .iaload, .ifCond .ne 41, .iload 3, .i2b, .goto 51, .aload 0, .getfield 633, .iload 1, .iaload, .ldc 2, .if_icmp .ne 50, .iload 3, .i2s, .goto 51, .iload 3, .iastore, .ldc 2, .ireturn]
def pr_M_copy : List Instr := [.iload 1, .invokestatic 123, .ifCond .eq 6, .iload 3, .invokestatic 123, .ifCond .ne 8, .ldc 12, .ireturn, .aload 0, .getfield 632, .iload 1, .baload, .ifCond .eq 18, .aload 0, .getfield 632, .iload 3, .baload, .ifCond .ne 20, .ldc 24, .ireturn, .aload 0, .getfield 633, .iload 1, .iaload, .aload 0, .getfield 633, .iload 3, .iaload, .if_icmp .eq 31, .ldc 26, .ireturn, .iload 5, .ifCond .lt 53, .iload 2, .ifCond .lt 53, .iload 4, .ifCond .lt 53, .iload 2, .aload 0, .getfield 634, .iload 1, .iaload, .iload 5, .isub, .if_icmp .gt 53, .iload 4, .aload 0, .getfield 634, .iload 3, .iaload, .iload 5, .isub, .if_icmp .le 55, .ldc 25, .ireturn, .iload 1, .iload 3, .if_icmp .ne 63, .iload 2, .iload 4, .if_icmp .ge 63, .ldc 2, .goto 64, .ldc 1, .istore 6, .ldc 1, .istore 7, .iload 7, .iload 5, .if_icmp .ge 102, .iload 6, .ifCond .eq 78, .iload 5, .ldc 2, .isub, .iload 7, .isub, .goto 79, .iload 7, .istore 8, .aload 0, .getfield 635, .ldc 22, .iload 3, .imul, .iload 4, .iadd, .iload 8, .iadd, .aload 0, .getfield 635, .ldc 22, .iload 1, .imul, .iload 2, .iadd, .iload 8, .iadd, .iaload, .iastore, .iinc 7 2, .goto 67, .iload 5, .ireturn]
def pr_M_writers : List Instr := [.iload 1, .invokestatic 123, .ifCond .eq 15, .iload 2, .i2l, .ldc2_w 1, .ldc2_w 28, .invokestatic 45, .ifCond .eq 15, .iload 4, .i2l, .ldc2_w 1, .ldc2_w 12, .invokestatic 45, .ifCond .ne 17, .ldc 12, .ireturn, .aload 0, .getfield 632, .iload 1, .baload, .ifCond .eq 30, .aload 0, .getfield 633, .iload 1, .iaload, .iload 2, .if_icmp .eq 30, .ldc 26, .ireturn, .aload 0, .getfield 632, .iload 1, .baload, .ifCond .ne 37, .ldc 24, .ireturn, .ldc 1, .istore 5, .ldc 1, .istore 6, .iload 6, .iload 4, .if_icmp .ge 97, .iload 3, .ifCond .lt 58, .iload 3, .aload 0, .getfield 634, .iload 1, .iaload, .ldc 4, .iload 6, .imul, .isub, .ldc 4, .isub, .if_icmp .le 60, .ldc 25, .ireturn, .ldc 22, .iload 1, .imul, .iload 3, .iadd, .ldc 4, .iload 6, .imul, .iadd, .istore 7, .iload 5, .aload 0, .aload 0, .getfield 635, .iload 7, .iaload, .aload 0, .getfield 635, .iload 7, .ldc 2, .iadd, .iaload, .aload 0, .getfield 635, .iload 7, .ldc 3, .iadd, .iaload, .invokevirtual 56, .ifCond .lt 92, .ldc 2, .goto 93, .ldc 1, .iadd, .istore 5, .iinc 6 2, .goto 41, .iload 5, .ireturn]
def pr_M_over : List Instr := [.iload 0, .ifCond .ne 4, .ldc 0, .goto 18, .iload 0, .ldc 5, .if_icmp .ne 9, .ldc 3, .goto 18, .iload 0, .ldc 4, .if_icmp .eq 15, .iload 0, .ldc 6, .if_icmp .ne 17, .ldc 2, .goto 18, .ldc 1, .ireturn]
def pr_M_taken : List Instr := [.iload 2, .i2l, .ldc2_w 1, .ldc2_w 12, .invokestatic 45, .ifCond .ne 8, .ldc 12, .ireturn, .aload 0, .iload 1, .invokevirtual 50, .ifCond .ne 14, .ldc 24, .ireturn, .aload 0, .getfield 591, .iload 1, .iaload, .istore 3, .iload 3, .ldc 0, .if_icmp .eq 29, .iload 3, .iload 2, .if_icmp .eq 29, .iload 3, .invokestatic 128, .istore 3, .goto 19, .iload 3, .iload 2, .if_icmp .ne 37, .aload 0, .getfield 592, .iload 1, .iaload, .goto 38, .ldc 26, .ireturn]
def pr_Day_dawn : List Instr := [.aload 0, .getfield 0, .ldc 1, .aload 0, .getfield 5, .ldc 1, .ldc 7, .invokedynamic 0, .aload 0, .getfield 2, .getfield 449, .ldc 1, .aload 0, .getfield 6, .ldc 1, .ldc 6, .invokedynamic 0, .aload 0, .aload 0, .getfield 3, .getfield 131, .putfield 7, .return_]
def pr_Day_draw : List Instr := [.iload 1, .istore 2, .ldc 1, .istore 3, .iload 3, .ldc 7, .if_icmp .ge 24, .iload 2, .ldc 55, .imul, .ldc 56, .iadd, .istore 2, .aload 0, .getfield 5, .iload 3, .iload 2, .ldc 27, .iushr, .ldc 57, .irem, .iastore, .iinc 3 2, .goto 4, .return_]
def pr_Day_live : List Instr := [.aload 0, .ldc 0, .invokevirtual 133, .return_]
def pr_Day_liveTo : List Instr := [.ldc 1, .istore 2, .iload 2, .ldc 18, .if_icmp .ge 37, .ldc 1, .istore 3, .iload 3, .aload 0, .getfield 2, .getfield 451, .if_icmp .ge 28, .aload 0, .getfield 6, .iload 3, .iaload, .iload 2, .if_icmp .eq 19, .goto 26, .iload 3, .iload 1, .if_icmp .ne 23, .return_, .aload 0, .iload 3, .invokevirtual 134, .iinc 3 2, .goto 7, .aload 0, .getfield 3, .aload 0, .getfield 7, .aload 0, .getfield 5, .invokevirtual 151, .iinc 2 2, .goto 2, .return_]
def pr_Day_takeTurn : List Instr := [.aload 0, .getfield 6, .iload 1, .iaload, .istore 2, .aload 0, .getfield 2, .getfield 450, .iload 1, .iaload, .istore 3, .ldc 0, .istore 4, .iload 3, .ldc 2, .iadd, .istore 5, .ldc 1, .istore 6, .iload 6, .aload 0, .getfield 1, .getfield 387, .if_icmp .ge 64, .aload 0, .getfield 1, .getfield 384, .iload 6, .iaload, .aload 0, .getfield 2, .getfield 448, .iload 1, .iaload, .if_icmp .eq 36, .goto 62, .aload 0, .iload 6, .iload 2, .invokevirtual 135, .istore 7, .iload 7, .iload 5, .if_icmp .ge 62, .aload 0, .getfield 4, .iload 2, .aload 0, .getfield 1, .getfield 385, .iload 6, .iaload, .iload 3, .aload 0, .getfield 2, .getfield 451, .invokevirtual 179, .ifCond .eq 62, .iload 6, .istore 4, .iload 7, .istore 5, .iinc 6 2, .goto 19, .aload 0, .getfield 8, .iload 1, .iload 4, .iastore, .aload 0, .getfield 9, .iload 1, .ldc 1, .iastore, .aload 0, .getfield 10, .iload 1, .ldc 1, .iastore, .iload 4, .ldc 0, .if_icmp .ne 83, .return_, .aload 0, .getfield 9, .iload 1, .iload 5, .iastore, .aload 0, .getfield 10, .iload 1, .aload 0, .getfield 4, .iload 2, .aload 0, .getfield 1, .getfield 385, .iload 4, .iaload, .iload 3, .aload 0, .getfield 2, .getfield 451, .invokevirtual 178, .iload 5, .isub, .iastore, .aload 0, .getfield 1, .iload 4, .aload 0, .getfield 5, .invokevirtual 186, .return_]
def pr_Day_costOf : List Instr := [.ldc 1, .istore 3, .ldc 1, .istore 4, .iload 4, .aload 0, .getfield 1, .getfield 385, .iload 1, .iaload, .if_icmp .ge 44, .aload 0, .getfield 1, .iload 1, .iload 4, .aload 0, .getfield 5, .invokevirtual 185, .istore 5, .iload 3, .aload 0, .getfield 3, .aload 0, .getfield 7, .iload 5, .iload 2, .invokevirtual 149, .aload 0, .getfield 4, .iload 5, .iload 2, .aload 0, .getfield 1, .getfield 386, .iload 1, .aaload, .iload 4, .iaload, .invokevirtual 177, .iadd, .iadd, .istore 3, .iinc 4 2, .goto 4, .iload 3, .ireturn]
def pr_Day_tryHours : List Instr := [.ldc 1, .istore 2, .iload 2, .ldc 18, .if_icmp .ge 28, .aload 0, .invokevirtual 130, .aload 0, .getfield 6, .iload 1, .iload 2, .iastore, .aload 0, .iload 1, .invokevirtual 133, .aload 0, .iload 1, .invokevirtual 134, .aload 0, .getfield 11, .iload 2, .aload 0, .getfield 10, .iload 1, .iaload, .iastore, .iinc 2 2, .goto 2, .return_]
def pr_Day_goodIfBurned : List Instr := [.aload 0, .invokevirtual 130, .aload 0, .getfield 5, .iload 1, .aload 0, .getfield 5, .iload 1, .iaload, .iload 2, .iadd, .ldc 8, .invokedynamic 2, .iastore, .aload 0, .ldc 0, .invokevirtual 133, .aload 0, .invokevirtual 138, .ireturn]
def pr_Day_allGood : List Instr := [.ldc 1, .istore 1, .ldc 1, .istore 2, .iload 2, .aload 0, .getfield 2, .getfield 451, .if_icmp .ge 18, .iload 1, .aload 0, .getfield 10, .iload 2, .iaload, .iadd, .istore 1, .iinc 2 2, .goto 4, .iload 1, .ireturn]
def pr_Day_allPaid : List Instr := [.ldc 1, .istore 1, .ldc 1, .istore 2, .iload 2, .aload 0, .getfield 2, .getfield 451, .if_icmp .ge 18, .iload 1, .aload 0, .getfield 9, .iload 2, .iaload, .iadd, .istore 1, .iinc 2 2, .goto 4, .iload 1, .ireturn]
def pr_Day_howManySaid : List Instr := [.ldc 1, .istore 1, .ldc 1, .istore 2, .iload 2, .aload 0, .getfield 2, .getfield 451, .if_icmp .ge 18, .aload 0, .getfield 8, .iload 2, .iaload, .ldc 0, .if_icmp .eq 16, .iinc 1 2, .iinc 2 2, .goto 4, .iload 1, .ireturn]
def pr_Day_spread : List Instr := [.aload 0, .getfield 5, .ldc 1, .iaload, .istore 1, .aload 0, .getfield 5, .ldc 1, .iaload, .istore 2, .aload 0, .getfield 5, .astore 3, .aload 3, .arraylength, .istore 4, .ldc 1, .istore 5, .iload 5, .iload 4, .if_icmp .ge 35, .aload 3, .iload 5, .iaload, .istore 6, .iload 1, .iload 6, .invokedynamic 1, .istore 1, .iload 2, .iload 6, .invokedynamic 2, .istore 2, .iinc 5 2, .goto 18, .iload 1, .iload 2, .isub, .ireturn]
def pr_Day_firstUnlike : List Instr := [.ldc 1, .istore 2, .iload 2, .aload 0, .getfield 2, .getfield 451, .if_icmp .ge 29, .aload 0, .getfield 8, .iload 2, .iaload, .ldc 0, .if_icmp .ne 15, .ldc 0, .goto 19, .aload 0, .getfield 9, .iload 2, .iaload, .istore 3, .aload 1, .iload 2, .iaload, .iload 3, .if_icmp .eq 27, .iload 2, .ireturn, .iinc 2 2, .goto 2, .ldc 0, .ireturn]
def pr_Image_keepWriters : List Instr := [.aload 1, .getfield 448, .ldc 1, .aload 0, .getfield 68, .ldc 1, .ldc 6, .invokedynamic 0, .aload 1, .getfield 449, .ldc 1, .aload 0, .getfield 69, .ldc 1, .ldc 6, .invokedynamic 0, .aload 1, .getfield 450, .ldc 1, .aload 0, .getfield 70, .ldc 1, .ldc 6, .invokedynamic 0, .aload 0, .aload 1, .getfield 451, .putfield 71, .return_]
def pr_Image_restoreWriters : List Instr := [.aload 0, .getfield 68, .ldc 1, .aload 1, .getfield 448, .ldc 1, .ldc 6, .invokedynamic 0, .aload 0, .getfield 69, .ldc 1, .aload 1, .getfield 449, .ldc 1, .ldc 6, .invokedynamic 0, .aload 0, .getfield 70, .ldc 1, .aload 1, .getfield 450, .ldc 1, .ldc 6, .invokedynamic 0, .aload 1, .aload 0, .getfield 71, .putfield 451, .return_]
def pr_Image_keepLaws : List Instr := [.aload 1, .getfield 129, .ldc 1, .aload 0, .getfield 72, .ldc 1, .ldc 13, .invokedynamic 0, .aload 0, .aload 1, .getfield 130, .putfield 73, .aload 0, .aload 1, .getfield 131, .putfield 74, .return_]
def pr_Image_restoreLaws : List Instr := [.aload 0, .getfield 72, .ldc 1, .aload 1, .getfield 129, .ldc 1, .ldc 13, .invokedynamic 0, .aload 1, .aload 0, .getfield 73, .putfield 130, .aload 1, .aload 0, .getfield 74, .putfield 131, .return_]
def pr_Laws_add : List Instr := [.aload 0, .getfield 130, .ldc 13, .if_icmp .lt 6, .ldc 16, .ireturn, .aload 0, .getfield 128, .aload 0, .getfield 130, .iload 1, .iastore, .aload 0, .getfield 129, .aload 0, .getfield 130, .iload 2, .iastore, .aload 0, .dup, .getfield 130, .dup_x1, .ldc 2, .iadd, .putfield 130, .ireturn]
def pr_Laws_isUnder : List Instr := [.aload 0, .getfield 128, .iload 1, .iaload, .istore 3, .ldc 1, .istore 4, .iload 4, .ldc 13, .if_icmp .ge 24, .iload 3, .ldc 0, .if_icmp .eq 24, .iload 3, .iload 2, .if_icmp .ne 18, .ldc 2, .ireturn, .getstatic 0, .iload 3, .iaload, .istore 3, .iinc 4 2, .goto 7, .ldc 1, .ireturn]
def pr_Laws_price : List Instr := [.aload 0, .getfield 129, .iload 1, .iaload, .istore 4, .aload 0, .getfield 128, .iload 1, .iaload, .lookupswitch 49 #[(2, 10), (3, 14), (4, 20), (5, 28), (6, 39)], .iload 4, .iload 2, .invokestatic 150, .ireturn, .iload 2, .iload 4, .iadd, .ldc 3, .idiv, .ireturn, .iload 4, .iload 2, .iload 2, .ldc 4, .irem, .isub, .invokestatic 150, .ireturn, .iload 3, .ldc 13, .if_icmp .ge 33, .ldc 1, .goto 38, .iload 2, .iload 4, .iadd, .ldc 3, .idiv, .ireturn, .iload 4, .iload 2, .invokestatic 150, .iload 2, .ifCond .ne 46, .ldc 6, .goto 47, .ldc 1, .iadd, .ireturn, .iload 2, .iload 4, .iadd, .ireturn]
def pr_Laws_steep : List Instr := [.iload 1, .iload 0, .iadd, .iload 1, .iload 0, .ldc 2, .iadd, .imul, .iadd, .ireturn]
def pr_Laws_age : List Instr := [.aload 0, .getfield 128, .iload 1, .iaload, .ifCond .eq 11, .aload 0, .getfield 128, .iload 1, .iaload, .ldc 2, .if_icmp .ne 12, .return_, .ldc 1, .istore 3, .iload 3, .aload 2, .arraylength, .if_icmp .ge 31, .aload 2, .iload 3, .aload 0, .iload 1, .aload 2, .iload 3, .iaload, .invokevirtual 152, .ldc 1, .invokedynamic 1, .iastore, .iinc 3 2, .goto 14, .return_]
def pr_Laws_aged : List Instr := [.aload 0, .getfield 128, .iload 1, .iaload, .lookupswitch 26 #[(3, 5), (4, 12), (5, 5), (6, 16)], .iload 2, .aload 0, .getfield 129, .iload 1, .iaload, .isub, .ireturn, .iload 2, .ldc 2, .isub, .ireturn, .iload 2, .aload 0, .getfield 129, .iload 1, .iaload, .if_icmp .ge 24, .ldc 1, .goto 25, .iload 2, .ireturn, .iload 2, .ireturn]
def pr_Reader_append : List Instr := [.aload 0, .getfield 193, .ldc 28, .if_icmp .lt 6, .ldc 1, .ireturn, .aload 0, .getfield 192, .aload 0, .dup, .getfield 193, .dup_x1, .ldc 2, .iadd, .putfield 193, .iload 1, .iastore, .ldc 2, .ireturn]
def pr_Reader_load : List Instr := [.ldc 1, .istore 2, .iload 2, .aload 1, .invokevirtual 188, .if_icmp .ge 14, .aload 0, .aload 1, .iload 2, .invokevirtual 191, .invokevirtual 153, .pop, .iinc 2 2, .goto 2, .return_]
def pr_Reader_read : List Instr := [.aload 0, .ldc 1, .putfield 196, .aload 0, .ldc 0, .putfield 200, .aload 0, .ldc 1, .putfield 201, .aload 0, .invokevirtual 166, .ldc 1, .istore 1, .iload 1, .ldc 4, .if_icmp .ge 35, .aload 0, .ldc 58, .iload 1, .iadd, .invokevirtual 157, .aload 0, .ldc 1, .invokevirtual 159, .aload 0, .ldc 31, .invokevirtual 157, .aload 0, .getfield 195, .iload 1, .aload 0, .getfield 201, .iastore, .iinc 1 2, .goto 13, .aload 0, .ldc 1, .invokevirtual 157, .aload 0, .ldc 1, .putfield 193, .aload 0, .getfield 200, .ireturn]
def pr_Reader_refuse : List Instr := [.aload 0, .getfield 200, .ldc 0, .if_icmp .ne 8, .aload 0, .aload 0, .getfield 198, .putfield 200, .aload 0, .ldc 2, .putfield 197, .return_]
def pr_Reader_expect : List Instr := [.aload 0, .getfield 197, .iload 1, .if_icmp .ne 7, .aload 0, .invokevirtual 166, .goto 9, .aload 0, .invokevirtual 156, .return_]
def pr_Reader_emit : List Instr := [.aload 0, .getfield 201, .ldc 28, .if_icmp .ge 15, .aload 0, .getfield 194, .aload 0, .dup, .getfield 201, .dup_x1, .ldc 2, .iadd, .putfield 201, .iload 1, .iastore, .return_]
def pr_Reader_readE : List Instr := [.aload 0, .iload 1, .invokevirtual 160, .ldc 1, .istore 2, .iload 2, .ldc 28, .if_icmp .ge 22, .aload 0, .getfield 197, .ldc 59, .if_icmp .ne 22, .aload 0, .invokevirtual 166, .aload 0, .iload 1, .invokevirtual 160, .aload 0, .ldc 60, .invokevirtual 158, .iinc 2 2, .goto 5, .return_]
def pr_Reader_readAnd : List Instr := [.aload 0, .iload 1, .invokevirtual 161, .ldc 1, .istore 2, .iload 2, .ldc 28, .if_icmp .ge 22, .aload 0, .getfield 197, .ldc 61, .if_icmp .ne 22, .aload 0, .invokevirtual 166, .aload 0, .iload 1, .invokevirtual 161, .aload 0, .ldc 62, .invokevirtual 158, .iinc 2 2, .goto 5, .return_]
def pr_Reader_readNot : List Instr := [.aload 0, .getfield 197, .ldc 63, .if_icmp .eq 8, .aload 0, .iload 1, .invokevirtual 162, .goto 24, .iload 1, .ldc 6, .if_icmp .ge 22, .aload 0, .invokevirtual 166, .aload 0, .iload 1, .ldc 2, .iadd, .invokevirtual 161, .aload 0, .ldc 64, .invokevirtual 158, .goto 24, .aload 0, .invokevirtual 156, .return_]
def pr_Reader_readCompared : List Instr := [.aload 0, .iload 1, .invokevirtual 163, .aload 0, .getfield 197, .ldc 35, .if_icmp .eq 11, .aload 0, .getfield 197, .ldc 36, .if_icmp .ne 23, .aload 0, .getfield 197, .istore 2, .aload 0, .invokevirtual 166, .aload 0, .iload 1, .invokevirtual 163, .aload 0, .iload 2, .ineg, .invokevirtual 158, .return_]
def pr_Reader_readSum : List Instr := [.aload 0, .iload 1, .invokevirtual 164, .ldc 1, .istore 2, .iload 2, .ldc 28, .if_icmp .ge 30, .aload 0, .getfield 197, .ldc 32, .if_icmp .eq 16, .aload 0, .getfield 197, .ldc 33, .if_icmp .ne 30, .aload 0, .getfield 197, .istore 3, .aload 0, .invokevirtual 166, .aload 0, .iload 1, .invokevirtual 164, .aload 0, .iload 3, .ineg, .invokevirtual 158, .iinc 2 2, .goto 5, .return_]
def pr_Reader_readTerm : List Instr := [.aload 0, .iload 1, .invokevirtual 165, .ldc 1, .istore 2, .iload 2, .ldc 28, .if_icmp .ge 22, .aload 0, .getfield 197, .ldc 34, .if_icmp .ne 22, .aload 0, .invokevirtual 166, .aload 0, .iload 1, .invokevirtual 165, .aload 0, .ldc 65, .invokevirtual 158, .iinc 2 2, .goto 5, .return_]
def pr_Reader_readOne : List Instr := [.aload 0, .getfield 197, .ldc 3, .if_icmp .ne 11, .aload 0, .aload 0, .getfield 199, .invokevirtual 158, .aload 0, .invokevirtual 166, .goto 62, .aload 0, .getfield 197, .ldc 4, .if_icmp .ne 24, .aload 0, .ldc 0, .aload 0, .getfield 199, .isub, .invokevirtual 158, .aload 0, .invokevirtual 166, .goto 62, .aload 0, .getfield 197, .ldc 33, .if_icmp .ne 42, .iload 1, .ldc 6, .if_icmp .ge 42, .aload 0, .invokevirtual 166, .aload 0, .iload 1, .ldc 2, .iadd, .invokevirtual 165, .aload 0, .ldc 66, .invokevirtual 158, .goto 62, .aload 0, .getfield 197, .ldc 22, .if_icmp .ne 60, .iload 1, .ldc 6, .if_icmp .ge 60, .aload 0, .invokevirtual 166, .aload 0, .iload 1, .ldc 2, .iadd, .invokevirtual 159, .aload 0, .ldc 30, .invokevirtual 157, .goto 62, .aload 0, .invokevirtual 156, .return_]
def pr_Reader_next : List Instr := [.aload 0, .getfield 196, .aload 0, .getfield 193, .if_icmp .ge 19, .aload 0, .getfield 192, .aload 0, .getfield 196, .iaload, .invokestatic 170, .ifCond .eq 19, .aload 0, .dup, .getfield 196, .ldc 2, .iadd, .putfield 196, .goto 0, .aload 0, .aload 0, .getfield 196, .putfield 198, .aload 0, .getfield 196, .aload 0, .getfield 193, .if_icmp .lt 32, .aload 0, .ldc 1, .putfield 197, .goto 76, .aload 0, .getfield 192, .aload 0, .getfield 196, .iaload, .invokestatic 171, .ifCond .eq 42, .aload 0, .invokevirtual 167, .goto 76, .aload 0, .getfield 192, .aload 0, .getfield 196, .iaload, .invokestatic 172, .ifCond .eq 52, .aload 0, .invokevirtual 168, .goto 76, .aload 0, .ldc_w 70, .aload 0, .getfield 192, .aload 0, .getfield 196, .iaload, .i2c, .invokevirtual 193, .ifCond .lt 68, .aload 0, .getfield 192, .aload 0, .getfield 196, .iaload, .goto 69, .ldc 2, .putfield 197, .aload 0, .dup, .getfield 196, .ldc 2, .iadd, .putfield 196, .return_]
def pr_Reader_nextWord : List Instr := [.aload 0, .getfield 196, .aload 0, .getfield 193, .if_icmp .ge 19, .aload 0, .getfield 192, .aload 0, .getfield 196, .iaload, .invokestatic 171, .ifCond .eq 19, .aload 0, .dup, .getfield 196, .ldc 2, .iadd, .putfield 196, .goto 0, .aload 0, .invokevirtual 169, .istore 1, .iload 1, .ldc 0, .if_icmp .ne 29, .aload 0, .ldc 2, .putfield 197, .goto 46, .iload 1, .ldc 13, .if_icmp .ge 38, .aload 0, .ldc 58, .iload 1, .iadd, .putfield 197, .goto 46, .aload 0, .ldc 4, .putfield 197, .aload 0, .iload 1, .ldc 13, .isub, .putfield 199, .return_]
def pr_Reader_nextNumber : List Instr := [.aload 0, .ldc 1, .putfield 199, .aload 0, .getfield 196, .aload 0, .getfield 193, .if_icmp .ge 36, .aload 0, .getfield 192, .aload 0, .getfield 196, .iaload, .invokestatic 172, .ifCond .eq 36, .aload 0, .aload 0, .getfield 199, .ldc 27, .imul, .aload 0, .getfield 192, .aload 0, .getfield 196, .iaload, .iadd, .ldc 67, .isub, .putfield 199, .aload 0, .dup, .getfield 196, .ldc 2, .iadd, .putfield 196, .goto 3, .aload 0, .aload 0, .getfield 196, .aload 0, .getfield 198, .isub, .ldc 5, .if_icmp .gt 46, .ldc 3, .goto 47, .ldc 2, .putfield 197, .return_]
def pr_Reader_knownWord : List Instr := [.ldc 1, .istore 1, .aload 0, .getfield 198, .istore 2, .ldc 2, .istore 3, .ldc 1, .istore 4, .iload 4, .ldc_w 68, .invokevirtual 188, .if_icmp .ge 53, .ldc_w 68, .iload 4, .invokevirtual 191, .ldc 29, .if_icmp .ne 33, .iload 3, .ifCond .eq 26, .iload 2, .aload 0, .getfield 196, .if_icmp .ne 26, .iload 1, .ireturn, .iinc 1 2, .aload 0, .getfield 198, .istore 2, .ldc 2, .istore 3, .goto 51, .iload 3, .ifCond .eq 49, .iload 2, .aload 0, .getfield 196, .if_icmp .ge 49, .aload 0, .getfield 192, .iload 2, .iaload, .ldc_w 68, .iload 4, .invokevirtual 191, .if_icmp .ne 49, .iinc 2 2, .goto 51, .ldc 1, .istore 3, .iinc 4 2, .goto 9, .ldc 0, .ireturn]
def pr_Reader_isBlank : List Instr := [.iload 0, .ldc 29, .if_icmp .eq 6, .iload 0, .ldc 27, .if_icmp .ne 8, .ldc 2, .goto 9, .ldc 1, .ireturn]
def pr_Reader_isLetter : List Instr := [.iload 0, .ldc 50, .if_icmp .lt 8, .iload 0, .ldc 68, .if_icmp .gt 8, .ldc 2, .goto 9, .ldc 1, .ireturn]
def pr_Reader_isDigit : List Instr := [.iload 0, .ldc 67, .if_icmp .lt 8, .iload 0, .ldc 69, .if_icmp .gt 8, .ldc 2, .goto 9, .ldc 1, .ireturn]
def pr_Sheets_lay : List Instr := [.aload 0, .getfield 256, .iload 1, .iload 2, .iastore, .aload 0, .getfield 257, .iload 1, .iload 3, .iastore, .ldc 1, .istore 4, .iload 4, .ldc 22, .if_icmp .ge 24, .aload 0, .getfield 258, .iload 1, .aaload, .iload 4, .ldc 1, .iastore, .iinc 4 2, .goto 12, .return_]
def pr_Sheets_put : List Instr := [.aload 0, .getfield 256, .iload 1, .iaload, .ifCond .ne 14, .aload 0, .getfield 258, .iload 1, .aaload, .iload 2, .iload 3, .i2b, .iastore, .goto 36, .aload 0, .getfield 256, .iload 1, .iaload, .ldc 2, .if_icmp .ne 29, .aload 0, .getfield 258, .iload 1, .aaload, .iload 2, .iload 3, .i2s, .iastore, .goto 36, .aload 0, .getfield 258, .iload 1, .aaload, .iload 2, .iload 3, .iastore, .return_]
def pr_Sheets_hasRoom : List Instr := [.iload 2, .ifCond .lt 20, .iload 3, .ifCond .lt 20, .iload 3, .aload 0, .getfield 257, .iload 1, .iaload, .if_icmp .gt 20, .iload 2, .aload 0, .getfield 257, .iload 1, .iaload, .iload 3, .isub, .if_icmp .gt 20, .ldc 2, .goto 21, .ldc 1, .ireturn]
def pr_Texts_add : List Instr := [.aload 0, .getfield 324, .ldc 13, .if_icmp .lt 6, .ldc 16, .ireturn, .aload 1, .ldc 1, .aload 0, .getfield 320, .aload 0, .getfield 324, .aaload, .ldc 1, .ldc 28, .invokedynamic 0, .aload 2, .ldc 1, .aload 0, .getfield 321, .aload 0, .getfield 324, .aaload, .ldc 1, .ldc 4, .invokedynamic 0, .aload 0, .dup, .getfield 324, .dup_x1, .ldc 2, .iadd, .putfield 324, .ireturn]
def pr_Texts_adds : List Instr := [.aload 0, .iload 1, .iload 2, .iload 3, .ldc 1, .ldc 1, .ldc 1, .invokevirtual 180, .aload 0, .ldc 1, .invokevirtual 182, .ldc 53, .invokestatic 181, .ireturn]
def pr_Texts_worth : List Instr := [.aload 0, .ldc 1, .iload 1, .ldc 1, .iload 2, .iload 3, .iload 4, .invokevirtual 180, .aload 0, .ldc 2, .invokevirtual 182, .ldc 8, .invokestatic 181, .ireturn]
def pr_Texts_may : List Instr := [.aload 0, .ldc 1, .iload 1, .ldc 1, .iload 2, .iload 3, .iload 4, .invokevirtual 180, .aload 0, .ldc 3, .invokevirtual 182, .ifCond .eq 14, .ldc 2, .goto 15, .ldc 1, .ireturn]
def pr_Texts_tell : List Instr := [.aload 0, .getfield 322, .ldc 1, .iload 1, .iastore, .aload 0, .getfield 322, .ldc 2, .iload 2, .iastore, .aload 0, .getfield 322, .ldc 3, .iload 3, .iastore, .aload 0, .getfield 322, .ldc 4, .iload 4, .iastore, .aload 0, .getfield 322, .ldc 5, .iload 5, .iastore, .aload 0, .getfield 322, .ldc 6, .iload 6, .iastore, .return_]
def pr_Texts_bounded : List Instr := [.iload 0, .ifCond .ge 4, .ldc 1, .ireturn, .iload 0, .iload 1, .if_icmp .le 9, .iload 1, .goto 10, .iload 0, .ireturn]
def pr_Texts_valued : List Instr := [.aload 0, .getfield 320, .aload 0, .getfield 325, .aaload, .astore 2, .aload 0, .getfield 321, .aload 0, .getfield 325, .aaload, .iload 1, .iaload, .istore 3, .ldc 0, .istore 4, .iload 1, .ifCond .ne 20, .ldc 1, .goto 29, .aload 0, .getfield 321, .aload 0, .getfield 325, .aaload, .iload 1, .ldc 2, .isub, .iaload, .istore 5, .iload 5, .iload 3, .if_icmp .ge 184, .aload 2, .iload 5, .iaload, .istore 6, .iload 6, .ldc 70, .if_icmp .lt 61, .iload 4, .ldc 71, .if_icmp .lt 45, .ldc 1, .ireturn, .iinc 4 2, .aload 0, .getfield 323, .iload 4, .iload 6, .ifCond .lt 53, .iload 6, .goto 59, .aload 0, .getfield 322, .ldc 0, .iload 6, .isub, .iaload, .iastore, .goto 182, .iload 6, .ldc 66, .if_icmp .eq 67, .iload 6, .ldc 64, .if_icmp .ne 69, .ldc 2, .goto 70, .ldc 1, .istore 7, .iload 4, .iload 7, .ifCond .eq 76, .ldc 1, .goto 77, .ldc 2, .if_icmp .ge 80, .ldc 1, .ireturn, .aload 0, .getfield 323, .iload 4, .iaload, .istore 8, .iload 7, .ifCond .ne 88, .iinc 4 0, .aload 0, .getfield 323, .iload 4, .iaload, .istore 9, .iload 6, .ineg, .lookupswitch 176 #[(34, 112), (32, 96), (33, 104), (35, 120), (36, 131), (59, 154), (61, 142), (63, 166)], .aload 0, .getfield 323, .iload 4, .iload 9, .iload 8, .iadd, .iastore, .goto 182, .aload 0, .getfield 323, .iload 4, .iload 9, .iload 8, .isub, .iastore, .goto 182, .aload 0, .getfield 323, .iload 4, .iload 9, .iload 8, .imul, .iastore, .goto 182, .aload 0, .getfield 323, .iload 4, .iload 9, .iload 8, .if_icmp .ge 128, .ldc 2, .goto 129, .ldc 1, .iastore, .goto 182, .aload 0, .getfield 323, .iload 4, .iload 9, .iload 8, .if_icmp .ne 139, .ldc 2, .goto 140, .ldc 1, .iastore, .goto 182, .aload 0, .getfield 323, .iload 4, .iload 9, .ifCond .eq 151, .iload 8, .ifCond .eq 151, .ldc 2, .goto 152, .ldc 1, .iastore, .goto 182, .aload 0, .getfield 323, .iload 4, .iload 9, .ifCond .ne 161, .iload 8, .ifCond .eq 163, .ldc 2, .goto 164, .ldc 1, .iastore, .goto 182, .aload 0, .getfield 323, .iload 4, .iload 8, .ifCond .ne 173, .ldc 2, .goto 174, .ldc 1, .iastore, .goto 182, .aload 0, .getfield 323, .iload 4, .iload 8, .ineg, .iastore, .iinc 5 2, .goto 30, .aload 0, .getfield 323, .ldc 1, .iaload, .ireturn]
def pr_Words_lengthOf : List Instr := [.iload 0, .ldc 2, .if_icmp .lt 6, .iload 0, .ldc 72, .if_icmp .le 8, .ldc 1, .ireturn, .iload 0, .istore 1, .ldc 1, .istore 2, .ldc 1, .istore 3, .iload 3, .ldc 13, .if_icmp .ge 36, .iload 1, .ifCond .le 36, .iload 1, .ldc 27, .irem, .ldc 2, .isub, .ldc 14, .invokestatic 35, .ifCond .ne 29, .ldc 1, .ireturn, .iload 1, .ldc 27, .idiv, .istore 1, .iinc 2 2, .iinc 3 2, .goto 14, .iload 2, .ireturn]
def pr_Words_add : List Instr := [.aload 0, .getfield 387, .ldc 27, .if_icmp .lt 6, .ldc 16, .ireturn, .iload 2, .istore 3, .aload 0, .getfield 384, .aload 0, .getfield 387, .iload 1, .iastore, .aload 0, .getfield 385, .aload 0, .getfield 387, .iload 2, .invokestatic 183, .iastore, .aload 0, .getfield 385, .aload 0, .getfield 387, .iaload, .ldc 2, .isub, .istore 4, .iload 4, .ifCond .lt 49, .aload 0, .getfield 386, .aload 0, .getfield 387, .aaload, .iload 4, .iload 3, .ldc 27, .irem, .ldc 2, .isub, .iastore, .iload 3, .ldc 27, .idiv, .istore 3, .iinc 4 0, .goto 29, .aload 0, .dup, .getfield 387, .dup_x1, .ldc 2, .iadd, .putfield 387, .ireturn]
def pr_Words_usedAhead : List Instr := [.aload 0, .getfield 386, .iload 1, .aaload, .iload 2, .iaload, .istore 4, .aload 3, .iload 4, .iaload, .istore 5, .ldc 1, .istore 6, .iload 6, .iload 2, .if_icmp .ge 27, .aload 0, .getfield 386, .iload 1, .aaload, .iload 6, .iaload, .iload 4, .if_icmp .ne 25, .iinc 5 2, .iinc 6 2, .goto 13, .iload 5, .ldc 8, .invokedynamic 2, .ireturn]
def pr_Words_spend : List Instr := [.ldc 1, .istore 3, .iload 3, .aload 0, .getfield 385, .iload 1, .iaload, .if_icmp .ge 27, .aload 0, .getfield 386, .iload 1, .aaload, .iload 3, .iaload, .istore 4, .aload 2, .iload 4, .aload 2, .iload 4, .iaload, .ldc 2, .iadd, .ldc 8, .invokedynamic 2, .iastore, .iinc 3 2, .goto 2, .return_]
def pr_Writers_add : List Instr := [.iload 1, .ldc 4, .invokestatic 35, .ifCond .eq 12, .iload 2, .ldc 9, .invokestatic 35, .ifCond .eq 12, .iload 3, .ldc 10, .invokestatic 35, .ifCond .ne 14, .ldc 12, .ireturn, .aload 0, .getfield 451, .ldc 6, .if_icmp .lt 20, .ldc 16, .ireturn, .aload 0, .getfield 448, .aload 0, .getfield 451, .iload 1, .iastore, .aload 0, .getfield 449, .aload 0, .getfield 451, .iload 2, .iastore, .aload 0, .getfield 450, .aload 0, .getfield 451, .iload 3, .iastore, .aload 0, .dup, .getfield 451, .dup_x1, .ldc 2, .iadd, .putfield 451, .ireturn]
def pr_Str_length : List Instr := [.aload 0, .getfield 640, .arraylength, .aload 0, .invokevirtual 189, .ishr, .ireturn]
def pr_Str_coder : List Instr := [.getstatic 1, .ifCond .eq 5, .aload 0, .getfield 641, .goto 6, .ldc 2, .ireturn]
def pr_Str_isLatin1 : List Instr := [.getstatic 1, .ifCond .eq 7, .aload 0, .getfield 641, .ifCond .ne 7, .ldc 2, .goto 8, .ldc 1, .ireturn]
def pr_Str_charAt : List Instr := [.aload 0, .invokevirtual 190, .ifCond .eq 8, .aload 0, .getfield 640, .iload 1, .invokestatic 195, .ireturn, .aload 0, .getfield 640, .iload 1, .nop, .ireturn]
def pr_Str_checkIndex : List Instr := [.iload 0, .iload 1, .getstatic 2, .invokestatic 199, .pop, .return_]
def pr_Str_indexOf : List Instr := [.aload 0, .iload 1, .ldc 1, .invokevirtual 194, .ireturn]
def pr_Str_indexOf2 : List Instr := [.aload 0, .invokevirtual 190, .ifCond .eq 11, .aload 0, .getfield 640, .iload 1, .iload 2, .aload 0, .invokevirtual 188, .invokestatic 197, .goto 18, .aload 0, .getfield 640, .iload 1, .iload 2, .aload 0, .invokevirtual 188, .nop, .ireturn]
def pr_Lat_charAt : List Instr := [.iload 1, .aload 0, .arraylength, .invokestatic 192, .aload 0, .iload 1, .baload, .ldc 15, .iand, .i2c, .ireturn]
def pr_Lat_canEncode : List Instr := [.iload 0, .ifCond .lt 7, .iload 0, .ldc 15, .if_icmp .gt 7, .ldc 2, .goto 8, .ldc 1, .ireturn]
def pr_Lat_indexOf : List Instr := [.iload 1, .invokestatic 196, .ifCond .ne 5, .ldc 0, .ireturn, .iload 2, .ldc 1, .invokedynamic 1, .istore 2, .iload 3, .aload 0, .arraylength, .invokedynamic 2, .istore 3, .iload 2, .iload 3, .if_icmp .lt 19, .ldc 0, .ireturn, .aload 0, .iload 1, .iload 2, .iload 3, .invokestatic 198, .ireturn]
def pr_Lat_indexOfChar : List Instr := [.iload 1, .i2b, .istore 4, .iload 2, .istore 5, .iload 5, .iload 3, .if_icmp .ge 17, .aload 0, .iload 5, .baload, .iload 4, .if_icmp .ne 15, .iload 5, .ireturn, .iinc 5 2, .goto 5, .ldc 0, .ireturn]
def pr_Prec_checkIndex : List Instr := [.iload 0, .ifCond .lt 5, .iload 0, .iload 1, .if_icmp .lt 10, .aload 2, .iload 0, .iload 1, .nop, .nop, .iload 0, .ireturn]
def progL : List (List Instr) := [pr_X_set, pr_X_told, pr_X_word, pr_X_writer, pr_X_law, pr_X_rule, pr_X_feed, pr_X_text, pr_X_force, pr_X_costs, pr_X_write, pr_X_pass, pr_X_cheapest, pr_X_day, pr_X_all, pr_X_when, pr_X_choose, pr_X_rest, pr_X_turns, pr_X_burn, pr_X_worst, pr_X_best, pr_X_judge, pr_X_fits, pr_X_whose, pr_X_drawn, pr_X_chance, pr_X_image, pr_X_back, pr_X_count, pr_X_sheet, pr_X_cell, pr_X_copy, pr_X_writers, pr_X_taken, pr_X_within, pr_X_put, pr_X_item, pr_X_sum, pr_X_firstMost, pr_X_whoseHour, pr_X_isTurn, pr_X_digits, pr_X_commonDivisor, pr_X_refusalToJudge, pr_M_in, pr_M_within, pr_M_spell, pr_M_isWordNumber, pr_M_isWriter, pr_M_isLaw, pr_M_isOf, pr_M_set, pr_M_sizeOf, pr_M_told, pr_M_word, pr_M_writer, pr_M_law, pr_M_rule, pr_M_steep, pr_M_costBy, pr_M_agedBy, pr_M_feed, pr_M_byteAt, pr_M_next, pr_M_fail, pr_M_isLetter, pr_M_isWord, pr_M_isSign, pr_M_opens, pr_M_name, pr_M_atom, pr_M_term, pr_M_added, pr_M_not, pr_M_both, pr_M_either, pr_M_part, pr_M_read, pr_M_text, pr_M_force, pr_M_adds, pr_M_says, pr_M_keptRead, pr_M_takes, pr_M_writes, pr_M_costOf, pr_M_ages, pr_M_rowSum, pr_M_keeps, pr_M_costs, pr_M_write, pr_M_pass, pr_M_cheapest, pr_M_turnOf, pr_M_passesDay, pr_M_dayNow, pr_M_goodOf, pr_M_allGood, pr_M_saying, pr_M_day, pr_M_all, pr_M_seeks, pr_M_when, pr_M_choose, pr_M_rest, pr_M_orders, pr_M_turns, pr_M_burned, pr_M_burn, pr_M_worst, pr_M_best, pr_M_paidBad, pr_M_unlike, pr_M_judge, pr_M_fits, pr_M_whose, pr_M_draws, pr_M_drawn, pr_M_chance, pr_M_image, pr_M_back, pr_M_count, pr_M_isSheet, pr_M_sheet, pr_M_cell, pr_M_copy, pr_M_writers, pr_M_over, pr_M_taken, pr_Day_dawn, pr_Day_draw, pr_Day_live, pr_Day_liveTo, pr_Day_takeTurn, pr_Day_costOf, pr_Day_tryHours, pr_Day_goodIfBurned, pr_Day_allGood, pr_Day_allPaid, pr_Day_howManySaid, pr_Day_spread, pr_Day_firstUnlike, pr_Image_keepWriters, pr_Image_restoreWriters, pr_Image_keepLaws, pr_Image_restoreLaws, pr_Laws_add, pr_Laws_isUnder, pr_Laws_price, pr_Laws_steep, pr_Laws_age, pr_Laws_aged, pr_Reader_append, pr_Reader_load, pr_Reader_read, pr_Reader_refuse, pr_Reader_expect, pr_Reader_emit, pr_Reader_readE, pr_Reader_readAnd, pr_Reader_readNot, pr_Reader_readCompared, pr_Reader_readSum, pr_Reader_readTerm, pr_Reader_readOne, pr_Reader_next, pr_Reader_nextWord, pr_Reader_nextNumber, pr_Reader_knownWord, pr_Reader_isBlank, pr_Reader_isLetter, pr_Reader_isDigit, pr_Sheets_lay, pr_Sheets_put, pr_Sheets_hasRoom, pr_Texts_add, pr_Texts_adds, pr_Texts_worth, pr_Texts_may, pr_Texts_tell, pr_Texts_bounded, pr_Texts_valued, pr_Words_lengthOf, pr_Words_add, pr_Words_usedAhead, pr_Words_spend, pr_Writers_add, pr_Str_length, pr_Str_coder, pr_Str_isLatin1, pr_Str_charAt, pr_Str_checkIndex, pr_Str_indexOf, pr_Str_indexOf2, pr_Lat_charAt, pr_Lat_canEncode, pr_Lat_indexOf, pr_Lat_indexOfChar, pr_Prec_checkIndex]
def cK (n : Nat) : Int32 := nth 0 cKl n
def cL (n : Nat) : Int64 := nth 0 cLl n
def sK (n : Nat) : Value := nth .null sKl n
def prog (y : Nat) : List Instr := nth [] progL y
/-! ===== THE ABSTRACT MACHINE: methods over a memory of int cells (and long ones); a reference is the number of a cell ===== -/
abbrev Mem : Type := (Nat → Nat → Int32) × (Nat → Nat → Int64)
def wI (μ : Mem) (k : Nat) (g : Nat → Int32) : Mem := (fun a => if a = k then g else μ.1 a, μ.2)
def wL (μ : Mem) (k : Nat) (g : Nat → Int64) : Mem := (μ.1, fun a => if a = k then g else μ.2 a)
abbrev PP : Type := Nat → List Value → List Value → Mem → Prop
abbrev QQ : Type := Value → Mem → Prop
abbrev KK : Type := Nat → List Value → Mem → QQ → Prop
/-- a local that holds nothing -/
abbrev un : Value := .retAddr 0
def pI (st : List Value) (f : Int32 → List Value → Prop) : Prop := match st with
  | .int a :: r => f a r
  | _ => False
def pII (st : List Value) (f : Int32 → Int32 → List Value → Prop) : Prop := match st with
  | .int b :: .int a :: r => f a b r
  | _ => False
def pL (st : List Value) (f : Int64 → List Value → Prop) : Prop := match st with
  | .long a :: r => f a r
  | _ => False
def pLL (st : List Value) (f : Int64 → Int64 → List Value → Prop) : Prop := match st with
  | .long b :: .long a :: r => f a b r
  | _ => False
def pLI (st : List Value) (f : Int64 → Int32 → List Value → Prop) : Prop := match st with
  | .int b :: .long a :: r => f a b r
  | _ => False
def pR (st : List Value) (f : Nat → List Value → Prop) : Prop := match st with
  | .ref k :: r => f k r
  | _ => False
/-- array, index -/
def pRI (st : List Value) (f : Nat → Int32 → List Value → Prop) : Prop := match st with
  | .int i :: .ref k :: r => f k i r
  | _ => False
def pRII (st : List Value) (f : Nat → Int32 → Int32 → List Value → Prop) : Prop := match st with
  | .int v :: .int i :: .ref k :: r => f k i v r
  | _ => False
def pRIL (st : List Value) (f : Nat → Int32 → Int64 → List Value → Prop) : Prop := match st with
  | .long v :: .int i :: .ref k :: r => f k i v r
  | _ => False
def pIR' (st : List Value) (f : Nat → Int32 → List Value → Prop) : Prop := match st with
  | .int v :: .ref k :: r => f k v r
  | _ => False
def pLR' (st : List Value) (f : Nat → Int64 → List Value → Prop) : Prop := match st with
  | .long v :: .ref k :: r => f k v r
  | _ => False
def csum : List Value → Nat
  | [] => 0
  | v :: r => v.category + csum r
def isL : Value → Bool
  | .long _ => true
  | .double _ => true
  | _ => false
/-- the store at n spoils no long that begins at n - 1 -/
def okst (lv : List Value) : Nat → Bool
  | 0 => true
  | n + 1 => !isL (nth un lv n)
def cnd (c : Jvm.ClassFile.Cond) (a b : Int32) (A B : Prop) : Prop := match c with
  | .eq => (a = b → A) ∧ (¬ a = b → B)
  | .ne => (¬ a = b → A) ∧ (a = b → B)
  | .lt => (a < b → A) ∧ (¬ a < b → B)
  | .ge => (b ≤ a → A) ∧ (¬ b ≤ a → B)
  | .gt => (b < a → A) ∧ (¬ b < a → B)
  | .le => (a ≤ b → A) ∧ (¬ a ≤ b → B)
def swc (x : Int32) : List (Int × Int) → (Nat → Prop) → Nat → Prop
  | [], P, d => P d
  | (v, t) :: l, P, d => (x = cK v.toNat → P t.toNat) ∧ (¬ x = cK v.toNat → swc x l P d)
def ent : List Value → List Value
  | [] => []
  | .long v :: r => .long v :: un :: ent r
  | .double v :: r => .double v :: un :: ent r
  | v :: r => v :: ent r
def pad : Nat → List Value → List Value
  | 0, _ => []
  | n + 1, [] => un :: pad n []
  | n + 1, v :: r => v :: pad n r
def lay (sd k : Nat) : Nat × Nat × Nat := nth (9, 0, 0) (match sd with | 0 => layX | _ => layM) k
def ilen (sd k : Nat) : Nat := match lay sd k with
  | (1, n, _) => n
  | _ => 0
def wlen (sd k : Nat) : Nat := match lay sd k with
  | (1, n, 0) => n
  | _ => 0
def llen (sd k : Nat) : Nat := match lay sd k with
  | (2, n, _) => n
  | _ => 0
def zlen (sd k : Nat) : Nat := match lay sd k with
  | (3, n, _) => n
  | _ => 0
def blen (sd k : Nat) : Nat := match lay sd k with
  | (4, n, _) => n
  | _ => 0
def alen (sd k : Nat) : Nat := match lay sd k with
  | (5, n, _) => n
  | _ => 0
def achild (sd k : Nat) : Nat := match lay sd k with
  | (5, _, c) => c
  | _ => 0
/-- of a field: its sort (0 int, 1 boolean, 2 long, 3 a cell, 4 byte), the cell -/
def fld (sd k j : Nat) : Nat × Nat := nth (9, 0) (nth [] (match sd with | 0 => fldX | _ => fldM) k) j
def clsIs (sd k c : Nat) : Bool := match lay sd k with
  | (0, c', _) => Nat.beq c' c
  | _ => false
/-- of a method: its side, the class, words of locals, how many values it takes, its answer's type, 1 where it is static -/
def inf (y : Nat) : Nat × Nat × Nat × Nat × Option FieldType × Nat := nth (9, 0, 0, 0, none, 0) infL y
def ret1 (t : Option FieldType) (r : Value) (f : List Value → Prop) : Prop := match t with
  | none => f []
  | some .long => ∃ x : Int64, r = .long x ∧ f [.long x]
  | some _ => ∃ x : Int32, r = .int x ∧ f [.int x]
def call (K : KK) (sd y' : Nat) (vst : Bool) (i : Nat) (lv st : List Value) (μ : Mem) (P : PP) : Prop := match inf y' with
  | (sd', c, mx, n, t, s) => match (Nat.beq sd sd' && Nat.ble n st.length && Nat.ble (csum (st.drop n)) 8 && Nat.ble (csum (st.take n)) mx && (match vst with | true => Nat.beq s 1 | false => Nat.beq s 0 && (match nth un st (n - 1) with | .ref k => clsIs sd k c | _ => false))) with
    | true => K y' (st.take n).reverse μ (fun r μ' => ret1 t r (fun l => P (i + 1) lv (l ++ st.drop n) μ'))
    | false => False
def narOk (t : FieldType) (v : Int32) (A : Prop) : Prop := match t with
  | .int => A
  | _ => narrow t (.int v) = .int v ∧ A
def copy5 (sd i : Nat) (lv st : List Value) (μ : Mem) (P : PP) : Prop := match st with
  | .int n :: .int dp :: .ref b :: .int sp :: .ref a :: r => match Nat.ble (csum r) 8 with
    | false => False
    | true => (¬ sp < 0 ∧ ¬ dp < 0 ∧ ¬ n < 0 ∧ sp.toNatClampNeg + n.toNatClampNeg ≤ wlen sd a ∧ dp.toNatClampNeg + n.toNatClampNeg ≤ wlen sd b ∧ 0 < wlen sd a ∧ 0 < wlen sd b) ∧ ∀ μ' : Mem, μ' = wI μ b (va_cpy (μ.1 a) (μ.1 b) sp.toNatClampNeg dp.toNatClampNeg n.toNatClampNeg) → P (i + 1) lv r μ'
  | _ => False
def prim (sd n i : Nat) (lv st : List Value) (μ : Mem) (P : PP) : Prop := match n with
  | 0 => copy5 sd i lv st μ P
  | 1 => pII st (fun a b r => match Nat.ble (csum r) 8 with
    | false => False
    | true => P (i + 1) lv (.int (if a < b then b else a) :: r) μ)
  | 2 => pII st (fun a b r => match Nat.ble (csum r) 8 with
    | false => False
    | true => P (i + 1) lv (.int (if b < a then b else a) :: r) μ)
  | _ => False
def stp (sd : Nat) (rt : Option FieldType) (K : KK) (Q : QQ) (ins : Instr) (i : Nat) (lv st : List Value) (μ : Mem) (P : PP) : Prop := match ins with
  | .ldc n => P (i + 1) lv (.int (cK n) :: st) μ
  | .ldc2_w n => P (i + 1) lv (.long (cL n) :: st) μ
  | .ldc_w n => P (i + 1) lv (.ref n :: st) μ
  | .getstatic n => P (i + 1) lv (sK n :: st) μ
  | .iload n => match nth un lv n with
    | .int x => P (i + 1) lv (.int x :: st) μ
    | _ => False
  | .lload n => match nth un lv n with
    | .long x => P (i + 1) lv (.long x :: st) μ
    | _ => False
  | .aload n => match nth un lv n with
    | .ref x => P (i + 1) lv (.ref x :: st) μ
    | _ => False
  | .istore n => pI st (fun x r => match (okst lv n && Nat.blt n lv.length) with
    | true => P (i + 1) (lv.set n (.int x)) r μ
    | false => False)
  | .astore n => pR st (fun x r => match (okst lv n && Nat.blt n lv.length) with
    | true => P (i + 1) (lv.set n (.ref x)) r μ
    | false => False)
  | .lstore n => pL st (fun x r => match (okst lv n && Nat.blt (n + 1) lv.length) with
    | true => P (i + 1) ((lv.set n (.long x)).set (n + 1) un) r μ
    | false => False)
  | .iinc n c => match nth un lv n with
    | .int x => match (okst lv n && Nat.blt n lv.length) with
      | true => P (i + 1) (lv.set n (.int (x + cK c.toNat))) st μ
      | false => False
    | _ => False
  | .iadd => pII st (fun a b r => P (i + 1) lv (.int (a + b) :: r) μ)
  | .isub => pII st (fun a b r => P (i + 1) lv (.int (a - b) :: r) μ)
  | .imul => pII st (fun a b r => P (i + 1) lv (.int (a * b) :: r) μ)
  | .idiv => pII st (fun a b r => ¬ b = 0 ∧ P (i + 1) lv (.int (a / b) :: r) μ)
  | .irem => pII st (fun a b r => ¬ b = 0 ∧ P (i + 1) lv (.int (a - a / b * b) :: r) μ)
  | .ineg => pI st (fun a r => P (i + 1) lv (.int (-a) :: r) μ)
  | .iand => pII st (fun a b r => P (i + 1) lv (.int (a &&& b) :: r) μ)
  | .ior => pII st (fun a b r => P (i + 1) lv (.int (a ||| b) :: r) μ)
  | .ishl => pII st (fun a b r => P (i + 1) lv (.int (a <<< (b &&& 31)) :: r) μ)
  | .ishr => pII st (fun a b r => P (i + 1) lv (.int (a >>> (b &&& 31)) :: r) μ)
  | .iushr => pII st (fun a b r => P (i + 1) lv (.int (a.toUInt32 >>> (b.toUInt32 &&& Int32.toUInt32 31)).toInt32 :: r) μ)
  | .i2l => pI st (fun a r => P (i + 1) lv (.long a.toInt64 :: r) μ)
  | .l2i => pL st (fun a r => P (i + 1) lv (.int a.toInt32 :: r) μ)
  | .i2b => pI st (fun a r => P (i + 1) lv (.int a.toInt8.toInt32 :: r) μ)
  | .i2s => pI st (fun a r => P (i + 1) lv (.int a.toInt16.toInt32 :: r) μ)
  | .i2c => pI st (fun a r => P (i + 1) lv (.int (a.toUInt32 % 65536).toInt32 :: r) μ)
  | .ladd => pLL st (fun a b r => P (i + 1) lv (.long (a + b) :: r) μ)
  | .lsub => pLL st (fun a b r => P (i + 1) lv (.long (a - b) :: r) μ)
  | .lmul => pLL st (fun a b r => P (i + 1) lv (.long (a * b) :: r) μ)
  | .ldiv => pLL st (fun a b r => ¬ b = 0 ∧ P (i + 1) lv (.long (a / b) :: r) μ)
  | .lrem => pLL st (fun a b r => ¬ b = 0 ∧ P (i + 1) lv (.long (a - a / b * b) :: r) μ)
  | .lushr => pLI st (fun a b r => P (i + 1) lv (.long (a.toUInt64 >>> (b.toInt64.toUInt64 &&& Int64.toUInt64 63)).toInt64 :: r) μ)
  | .lcmp => pLL st (fun a b r => P (i + 1) lv (.int (lg_cmp a b) :: r) μ)
  | .dup => match st with
    | v :: r => match Nat.beq v.category 1 with
      | true => P (i + 1) lv (v :: v :: r) μ
      | false => False
    | _ => False
  | .dup_x1 => match st with
    | v :: w :: r => match (Nat.beq v.category 1 && Nat.beq w.category 1) with
      | true => P (i + 1) lv (v :: w :: v :: r) μ
      | false => False
    | _ => False
  | .pop => match st with
    | v :: r => match Nat.beq v.category 1 with
      | true => P (i + 1) lv r μ
      | false => False
    | _ => False
  | .ifCond c t => pI st (fun a r => cnd c a 0 (P t.toNat lv r μ) (P (i + 1) lv r μ))
  | .if_icmp c t => pII st (fun a b r => cnd c a b (P t.toNat lv r μ) (P (i + 1) lv r μ))
  | .goto t => P t.toNat lv st μ
  | .lookupswitch d ps => pI st (fun a r => swc a ps.toList (fun t => P t lv r μ) d.toNat)
  | .arraylength => pR st (fun k r => match lay sd k with
    | (0, _, _) => False
    | (9, _, _) => False
    | (_, n, _) => P (i + 1) lv (.int (Int32.ofNat n) :: r) μ)
  | .iaload => pRI st (fun k j r => vp_in j (ilen sd k) ∧ P (i + 1) lv (.int (μ.1 k j.toNatClampNeg) :: r) μ)
  | .iastore => pRII st (fun k j v r => vp_in j (wlen sd k) ∧ ∀ μ' : Mem, μ' = wI μ k (upd (μ.1 k) j.toNatClampNeg v) → P (i + 1) lv r μ')
  | .baload => pRI st (fun k j r => vp_in j (zlen sd k + blen sd k) ∧ P (i + 1) lv (.int (μ.1 k j.toNatClampNeg) :: r) μ)
  | .bastore => pRII st (fun k j v r => vp_in j (zlen sd k) ∧ ∀ μ' : Mem, μ' = wI μ k (upd (μ.1 k) j.toNatClampNeg (vp_nar .boolean v)) → P (i + 1) lv r μ')
  | .laload => pRI st (fun k j r => vp_in j (llen sd k) ∧ P (i + 1) lv (.long (μ.2 k j.toNatClampNeg) :: r) μ)
  | .lastore => pRIL st (fun k j v r => vp_in j (llen sd k) ∧ ∀ μ' : Mem, μ' = wL μ k (vp_updL (μ.2 k) j.toNatClampNeg v) → P (i + 1) lv r μ')
  | .aaload => pRI st (fun k j r => vp_in j (alen sd k) ∧ P (i + 1) lv (.ref (achild sd k + j.toNatClampNeg) :: r) μ)
  | .getfield n => pR st (fun k r => match clsIs sd k (n / 64) with
    | true => (match fld sd k (n % 64) with
      | (3, c) => P (i + 1) lv (.ref c :: r) μ
      | (2, _) => P (i + 1) lv (.long (μ.2 k (n % 64)) :: r) μ
      | (9, _) => False
      | _ => P (i + 1) lv (.int (μ.1 k (n % 64)) :: r) μ)
    | false => False)
  | .putfield n => match st with
    | .int v :: .ref k :: r => (match clsIs sd k (n / 64) with
      | true => (match fld sd k (n % 64) with
        | (0, _) => ∀ μ' : Mem, μ' = wI μ k (upd (μ.1 k) (n % 64) v) → P (i + 1) lv r μ'
        | (1, _) => narrow .boolean (.int v) = .int v ∧ ∀ μ' : Mem, μ' = wI μ k (upd (μ.1 k) (n % 64) v) → P (i + 1) lv r μ'
        | _ => False)
      | false => False)
    | .long v :: .ref k :: r => (match clsIs sd k (n / 64) with
      | true => (match fld sd k (n % 64) with
        | (2, _) => ∀ μ' : Mem, μ' = wL μ k (vp_updL (μ.2 k) (n % 64) v) → P (i + 1) lv r μ'
        | _ => False)
      | false => False)
    | _ => False
  | .invokestatic y => call K sd y true i lv st μ P
  | .invokevirtual y => call K sd y false i lv st μ P
  | .invokedynamic n => prim sd n i lv st μ P
  | .ireturn => match st, rt with
    | [.int v], some t => narOk t v (Q (.int v) μ)
    | _, _ => False
  | .lreturn => match st, rt with
    | [.long v], some .long => Q (.long v) μ
    | _, _ => False
  | .return_ => match st, rt with
    | [], none => Q .null μ
    | _, _ => False
  | _ => False
/-- the least that is closed under steps -/
def AA (K : KK) (y : Nat) (Q : QQ) (i : Nat) (lv st : List Value) (μ : Mem) : Prop :=
  ∀ P : PP, (∀ i lv st μ, stp (inf y).1 (inf y).2.2.2.2.1 K Q (nth .nop (prog y) i) i lv st μ P → P i lv st μ) → P i lv st μ
def Call : Nat → KK
  | 0 => fun _ _ _ _ => False
  | d + 1 => fun y args μ Q => AA (Call d) y Q 0 (pad (inf y).2.2.1 (ent args)) [] μ
def KMono (K : KK) : Prop := ∀ (y : Nat) (args : List Value) (μ : Mem) (Q Q' : QQ), (∀ r μ', Q r μ' → Q' r μ') → K y args μ Q → K y args μ Q'
theorem cnd_mono {c : Jvm.ClassFile.Cond} {a b : Int32} {A B A' B' : Prop} (hA : A → A') (hB : B → B') (h : cnd c a b A B) : cnd c a b A' B' := by
  cases c <;> exact ⟨fun x => by first | exact hA (h.1 x) | exact hB (h.1 x), fun x => by first | exact hB (h.2 x) | exact hA (h.2 x)⟩
theorem swc_mono {x : Int32} {P P' : Nat → Prop} (hP : ∀ t, P t → P' t) : ∀ (l : List (Int × Int)) (d : Nat), swc x l P d → swc x l P' d
  | [], d, h => hP d h
  | (v, t) :: l, d, h => ⟨fun e => hP _ (h.1 e), fun e => swc_mono hP l d (h.2 e)⟩
theorem ret1_mono {t : Option FieldType} {r : Value} {f g : List Value → Prop} (hf : ∀ l, f l → g l) (h : ret1 t r f) : ret1 t r g := by
  cases t with
  | none => exact hf _ h
  | some t =>
    cases t <;> (obtain ⟨x, e, h⟩ := h; exact ⟨x, e, hf _ h⟩)
theorem call_mono {K : KK} (hK : KMono K) {sd y' : Nat} {vst : Bool} {i : Nat} {lv st : List Value} {μ : Mem} {P P' : PP} (hP : ∀ i lv st μ, P i lv st μ → P' i lv st μ) (h : call K sd y' vst i lv st μ P) : call K sd y' vst i lv st μ P' := by
  unfold call at h ⊢
  split at h
  rename_i q1
  split at h
  · exact hK _ _ _ _ _ (fun r μ' hr => ret1_mono (fun l hl => hP _ _ _ _ hl) hr) h
  · exact h
theorem narOk_mono {t : FieldType} {v : Int32} {A B : Prop} (hAB : A → B) (h : narOk t v A) : narOk t v B := by
  unfold narOk at h ⊢
  cases t <;> first | exact hAB h | exact ⟨h.1, hAB h.2⟩
theorem pI_mono {st : List Value} {f g : Int32 → List Value → Prop} (hf : ∀ a r, f a r → g a r) (h : pI st f) : pI st g := by
  unfold pI at h ⊢; split at h <;> first | exact hf _ _ h | exact h.elim
theorem pII_mono {st : List Value} {f g : Int32 → Int32 → List Value → Prop} (hf : ∀ a b r, f a b r → g a b r) (h : pII st f) : pII st g := by
  unfold pII at h ⊢; split at h <;> first | exact hf _ _ _ h | exact h.elim
theorem pL_mono {st : List Value} {f g : Int64 → List Value → Prop} (hf : ∀ a r, f a r → g a r) (h : pL st f) : pL st g := by
  unfold pL at h ⊢; split at h <;> first | exact hf _ _ h | exact h.elim
theorem pLL_mono {st : List Value} {f g : Int64 → Int64 → List Value → Prop} (hf : ∀ a b r, f a b r → g a b r) (h : pLL st f) : pLL st g := by
  unfold pLL at h ⊢; split at h <;> first | exact hf _ _ _ h | exact h.elim
theorem pLI_mono {st : List Value} {f g : Int64 → Int32 → List Value → Prop} (hf : ∀ a b r, f a b r → g a b r) (h : pLI st f) : pLI st g := by
  unfold pLI at h ⊢; split at h <;> first | exact hf _ _ _ h | exact h.elim
theorem pR_mono {st : List Value} {f g : Nat → List Value → Prop} (hf : ∀ a r, f a r → g a r) (h : pR st f) : pR st g := by
  unfold pR at h ⊢; split at h <;> first | exact hf _ _ h | exact h.elim
theorem pRI_mono {st : List Value} {f g : Nat → Int32 → List Value → Prop} (hf : ∀ a b r, f a b r → g a b r) (h : pRI st f) : pRI st g := by
  unfold pRI at h ⊢; split at h <;> first | exact hf _ _ _ h | exact h.elim
theorem pRII_mono {st : List Value} {f g : Nat → Int32 → Int32 → List Value → Prop} (hf : ∀ a b c r, f a b c r → g a b c r) (h : pRII st f) : pRII st g := by
  unfold pRII at h ⊢; split at h <;> first | exact hf _ _ _ _ h | exact h.elim
theorem pRIL_mono {st : List Value} {f g : Nat → Int32 → Int64 → List Value → Prop} (hf : ∀ a b c r, f a b c r → g a b c r) (h : pRIL st f) : pRIL st g := by
  unfold pRIL at h ⊢; split at h <;> first | exact hf _ _ _ _ h | exact h.elim
theorem prim_mono {sd n i : Nat} {lv st : List Value} {μ : Mem} {P P' : PP} (hP : ∀ i lv st μ, P i lv st μ → P' i lv st μ) (h : prim sd n i lv st μ P) : prim sd n i lv st μ P' := by
  match n, h with
  | 0, h =>
    show copy5 sd i lv st μ P'
    have h : copy5 sd i lv st μ P := h
    unfold copy5 at h ⊢
    split at h <;> first | exact h.elim | (split at h <;> first | exact h.elim | exact ⟨h.1, fun m e => hP _ _ _ _ (h.2 m e)⟩)
  | 1, h => exact pII_mono (fun _ _ _ h => by split at h <;> first | exact h.elim | exact hP _ _ _ _ h) h
  | 2, h => exact pII_mono (fun _ _ _ h => by split at h <;> first | exact h.elim | exact hP _ _ _ _ h) h
  | n + 3, h => exact h.elim
set_option maxHeartbeats 4000000 in
theorem stp_mono {sd : Nat} {rt : Option FieldType} {K : KK} (hK : KMono K) {Q Q' : QQ} (hQ : ∀ r μ, Q r μ → Q' r μ) {P P' : PP} (hP : ∀ i lv st μ, P i lv st μ → P' i lv st μ) {ins : Instr} {i : Nat} {lv st : List Value} {μ : Mem} (h : stp sd rt K Q ins i lv st μ P) : stp sd rt K Q' ins i lv st μ P' := by
  unfold stp at h ⊢
  cases ins
  case ldc => exact hP _ _ _ _ h
  case ldc2_w => exact hP _ _ _ _ h
  case ldc_w => exact hP _ _ _ _ h
  case getstatic => exact hP _ _ _ _ h
  case iload => dsimp only at h ⊢; split at h <;> first | exact hP _ _ _ _ h | exact h.elim
  case lload => dsimp only at h ⊢; split at h <;> first | exact hP _ _ _ _ h | exact h.elim
  case aload => dsimp only at h ⊢; split at h <;> first | exact hP _ _ _ _ h | exact h.elim
  case istore => exact pI_mono (fun _ _ h => by split at h <;> first | exact hP _ _ _ _ h | exact h.elim) h
  case astore => exact pR_mono (fun _ _ h => by split at h <;> first | exact hP _ _ _ _ h | exact h.elim) h
  case lstore => exact pL_mono (fun _ _ h => by split at h <;> first | exact hP _ _ _ _ h | exact h.elim) h
  case iinc => dsimp only at h ⊢; split at h <;> first | exact h.elim | (split at h <;> first | exact hP _ _ _ _ h | exact h.elim)
  case iadd => exact pII_mono (fun _ _ _ h => hP _ _ _ _ h) h
  case isub => exact pII_mono (fun _ _ _ h => hP _ _ _ _ h) h
  case imul => exact pII_mono (fun _ _ _ h => hP _ _ _ _ h) h
  case idiv => exact pII_mono (fun _ _ _ h => ⟨h.1, hP _ _ _ _ h.2⟩) h
  case irem => exact pII_mono (fun _ _ _ h => ⟨h.1, hP _ _ _ _ h.2⟩) h
  case ineg => exact pI_mono (fun _ _ h => hP _ _ _ _ h) h
  case iand => exact pII_mono (fun _ _ _ h => hP _ _ _ _ h) h
  case ior => exact pII_mono (fun _ _ _ h => hP _ _ _ _ h) h
  case ishl => exact pII_mono (fun _ _ _ h => hP _ _ _ _ h) h
  case ishr => exact pII_mono (fun _ _ _ h => hP _ _ _ _ h) h
  case iushr => exact pII_mono (fun _ _ _ h => hP _ _ _ _ h) h
  case i2l => exact pI_mono (fun _ _ h => hP _ _ _ _ h) h
  case l2i => exact pL_mono (fun _ _ h => hP _ _ _ _ h) h
  case i2b => exact pI_mono (fun _ _ h => hP _ _ _ _ h) h
  case i2s => exact pI_mono (fun _ _ h => hP _ _ _ _ h) h
  case i2c => exact pI_mono (fun _ _ h => hP _ _ _ _ h) h
  case ladd => exact pLL_mono (fun _ _ _ h => hP _ _ _ _ h) h
  case lsub => exact pLL_mono (fun _ _ _ h => hP _ _ _ _ h) h
  case lmul => exact pLL_mono (fun _ _ _ h => hP _ _ _ _ h) h
  case ldiv => exact pLL_mono (fun _ _ _ h => ⟨h.1, hP _ _ _ _ h.2⟩) h
  case lrem => exact pLL_mono (fun _ _ _ h => ⟨h.1, hP _ _ _ _ h.2⟩) h
  case lushr => exact pLI_mono (fun _ _ _ h => hP _ _ _ _ h) h
  case lcmp => exact pLL_mono (fun _ _ _ h => hP _ _ _ _ h) h
  case dup => dsimp only at h ⊢; split at h <;> first | exact h.elim | (split at h <;> first | exact hP _ _ _ _ h | exact h.elim)
  case dup_x1 => dsimp only at h ⊢; split at h <;> first | exact h.elim | (split at h <;> first | exact hP _ _ _ _ h | exact h.elim)
  case pop => dsimp only at h ⊢; split at h <;> first | exact h.elim | (split at h <;> first | exact hP _ _ _ _ h | exact h.elim)
  case ifCond => exact pI_mono (fun _ _ h => cnd_mono (hP _ _ _ _) (hP _ _ _ _) h) h
  case if_icmp => exact pII_mono (fun _ _ _ h => cnd_mono (hP _ _ _ _) (hP _ _ _ _) h) h
  case goto => exact hP _ _ _ _ h
  case lookupswitch => exact pI_mono (fun _ _ h => swc_mono (fun t => hP _ _ _ _) _ _ h) h
  case arraylength => exact pR_mono (fun _ _ h => by split at h <;> first | exact h.elim | exact hP _ _ _ _ h) h
  case iaload => exact pRI_mono (fun _ _ _ h => ⟨h.1, hP _ _ _ _ h.2⟩) h
  case baload => exact pRI_mono (fun _ _ _ h => ⟨h.1, hP _ _ _ _ h.2⟩) h
  case laload => exact pRI_mono (fun _ _ _ h => ⟨h.1, hP _ _ _ _ h.2⟩) h
  case aaload => exact pRI_mono (fun _ _ _ h => ⟨h.1, hP _ _ _ _ h.2⟩) h
  case iastore => exact pRII_mono (fun _ _ _ _ h => ⟨h.1, fun m e => hP _ _ _ _ (h.2 m e)⟩) h
  case bastore => exact pRII_mono (fun _ _ _ _ h => ⟨h.1, fun m e => hP _ _ _ _ (h.2 m e)⟩) h
  case lastore => exact pRIL_mono (fun _ _ _ _ h => ⟨h.1, fun m e => hP _ _ _ _ (h.2 m e)⟩) h
  case getfield => exact pR_mono (fun _ _ h => by split at h <;> first | exact h.elim | (split at h <;> first | exact h.elim | exact hP _ _ _ _ h)) h
  case putfield =>
    dsimp only at h ⊢
    split at h
    · split at h
      · split at h
        · exact fun m e => hP _ _ _ _ (h m e)
        · exact ⟨h.1, fun m e => hP _ _ _ _ (h.2 m e)⟩
        · exact h.elim
      · exact h.elim
    · split at h
      · split at h
        · exact fun m e => hP _ _ _ _ (h m e)
        · exact h.elim
      · exact h.elim
    · exact h.elim
  case invokestatic => exact call_mono hK hP h
  case invokevirtual => exact call_mono hK hP h
  case invokedynamic => exact prim_mono hP h
  case ireturn => dsimp only at h ⊢; split at h <;> first | exact h.elim | exact narOk_mono (hQ _ _) h
  case lreturn => dsimp only at h ⊢; split at h <;> first | exact h.elim | exact hQ _ _ h
  case return_ => dsimp only at h ⊢; split at h <;> first | exact h.elim | exact hQ _ _ h
  all_goals exact h.elim
theorem AA_mono {K : KK} (hK : KMono K) {y : Nat} {Q Q' : QQ} (hQ : ∀ r μ, Q r μ → Q' r μ) {i : Nat} {lv st : List Value} {μ : Mem} (h : AA K y Q i lv st μ) : AA K y Q' i lv st μ := by
  intro P hP
  exact h P (fun i lv st μ hs => hP i lv st μ (stp_mono hK hQ (fun _ _ _ _ x => x) hs))
theorem Call_mono : ∀ d : Nat, KMono (Call d)
  | 0 => fun _ _ _ _ _ _ h => h
  | d + 1 => fun _ _ _ _ _ hQ h => AA_mono (Call_mono d) hQ h
theorem AA_step {K : KK} (hK : KMono K) {y : Nat} {Q : QQ} {i : Nat} {lv st : List Value} {μ : Mem} (h : stp (inf y).1 (inf y).2.2.2.2.1 K Q (nth .nop (prog y) i) i lv st μ (AA K y Q)) : AA K y Q i lv st μ := by
  intro P hP
  exact hP i lv st μ (stp_mono hK (fun _ _ x => x) (fun _ _ _ _ x => x P hP) h)
def memb (i : Nat) : List Nat → Bool
  | [] => false
  | a :: l => match Nat.beq a i with
    | true => true
    | false => memb i l
/-- a stretch of steps, up to the places where it stops -/
def go (sd : Nat) (rt : Option FieldType) (K : KK) (y : Nat) (Q : QQ) (code : List Instr) (stops : List Nat) : Nat → PP
  | 0 => AA K y Q
  | n + 1 => fun i lv st μ => stp sd rt K Q (nth .nop code i) i lv st μ (fun i' lv' st' μ' => match memb i' stops with
    | true => AA K y Q i' lv' st' μ'
    | false => go sd rt K y Q code stops n i' lv' st' μ')
theorem go_in' {y : Nat} {K : KK} (hK : KMono K) {Q : QQ} {code : List Instr} {stops : List Nat} {sd a b c f : Nat} {rt : Option FieldType} (hc : prog y = code) (hi : inf y = (sd, a, b, c, rt, f)) : ∀ (n i : Nat) (lv st : List Value) (μ : Mem), go sd rt K y Q code stops n i lv st μ → AA K y Q i lv st μ
  | 0, _, _, _, _, h => h
  | n + 1, i, lv, st, μ, h => by
    refine AA_step hK ?_
    rw [hc, hi]
    have h : stp sd rt K Q (nth .nop code i) i lv st μ (fun i' lv' st' μ' => match memb i' stops with
      | true => AA K y Q i' lv' st' μ'
      | false => go sd rt K y Q code stops n i' lv' st' μ') := h
    refine stp_mono hK (fun _ _ x => x) (fun i' lv' st' μ' x => ?_) h
    split at x
    · exact x
    · exact go_in' hK hc hi n i' lv' st' μ' x
theorem go_in {d y : Nat} {Q : QQ} {i : Nat} {lv st : List Value} {μ : Mem} (n : Nat) {code : List Instr} {stops : List Nat} {sd a b c f : Nat} {rt : Option FieldType} (hc : prog y = code) (hi : inf y = (sd, a, b, c, rt, f)) (h : go sd rt (Call d) y Q code stops n i lv st μ) : AA (Call d) y Q i lv st μ := go_in' (Call_mono d) hc hi n i lv st μ h
end
section
-- ===== PART A: goes FIRST, ahead of the names: the tables' words, and 'selects' of the private methods out of them =====
/-- a private method of a class that the tables say can be made, by its rows of tables_1 -/
def lw_okq (q : MethodName × Nat) : Prop := (q.1.cls ≠ "java/lang/invoke/MethodHandle" ∧ q.1.cls ≠ "java/lang/invoke/VarHandle") ∧ Cond.instantiable q.1.cls q.2 ∈ tables_1 ∧ Cond.privateMethod q.1 ∈ tables_1 ∧ Cond.instanceMethod q.1 ∈ tables_1
theorem lw_p0 : lw_okq (⟨"DearerByUse$Reader", "next", "()V"⟩, 10) := ⟨⟨by decide +kernel, by decide +kernel⟩, List.mem_of_getElem? (i := 113) (by decide +kernel), List.mem_of_getElem? (i := 356) (by decide +kernel), List.mem_of_getElem? (i := 357) (by decide +kernel)⟩
theorem lw_p1 : lw_okq (⟨"DearerByUse$Reader", "nextWord", "()V"⟩, 10) := ⟨⟨by decide +kernel, by decide +kernel⟩, List.mem_of_getElem? (i := 113) (by decide +kernel), List.mem_of_getElem? (i := 366) (by decide +kernel), List.mem_of_getElem? (i := 367) (by decide +kernel)⟩
theorem lw_p2 : lw_okq (⟨"DearerByUse$Reader", "knownWord", "()I"⟩, 10) := ⟨⟨by decide +kernel, by decide +kernel⟩, List.mem_of_getElem? (i := 113) (by decide +kernel), List.mem_of_getElem? (i := 370) (by decide +kernel), List.mem_of_getElem? (i := 371) (by decide +kernel)⟩
theorem lw_p3 : lw_okq (⟨"DearerByUse$Reader", "nextNumber", "()V"⟩, 10) := ⟨⟨by decide +kernel, by decide +kernel⟩, List.mem_of_getElem? (i := 113) (by decide +kernel), List.mem_of_getElem? (i := 378) (by decide +kernel), List.mem_of_getElem? (i := 379) (by decide +kernel)⟩
theorem lw_p4 : lw_okq (⟨"DearerByUse$Reader", "expect", "(I)V"⟩, 10) := ⟨⟨by decide +kernel, by decide +kernel⟩, List.mem_of_getElem? (i := 113) (by decide +kernel), List.mem_of_getElem? (i := 442) (by decide +kernel), List.mem_of_getElem? (i := 443) (by decide +kernel)⟩
theorem lw_p5 : lw_okq (⟨"DearerByUse$Reader", "refuse", "()V"⟩, 10) := ⟨⟨by decide +kernel, by decide +kernel⟩, List.mem_of_getElem? (i := 113) (by decide +kernel), List.mem_of_getElem? (i := 446) (by decide +kernel), List.mem_of_getElem? (i := 447) (by decide +kernel)⟩
theorem lw_p6 : lw_okq (⟨"DearerByUse$Reader", "readE", "(I)V"⟩, 10) := ⟨⟨by decide +kernel, by decide +kernel⟩, List.mem_of_getElem? (i := 113) (by decide +kernel), List.mem_of_getElem? (i := 450) (by decide +kernel), List.mem_of_getElem? (i := 451) (by decide +kernel)⟩
theorem lw_p7 : lw_okq (⟨"DearerByUse$Reader", "readAnd", "(I)V"⟩, 10) := ⟨⟨by decide +kernel, by decide +kernel⟩, List.mem_of_getElem? (i := 113) (by decide +kernel), List.mem_of_getElem? (i := 454) (by decide +kernel), List.mem_of_getElem? (i := 455) (by decide +kernel)⟩
theorem lw_p8 : lw_okq (⟨"DearerByUse$Reader", "readNot", "(I)V"⟩, 10) := ⟨⟨by decide +kernel, by decide +kernel⟩, List.mem_of_getElem? (i := 113) (by decide +kernel), List.mem_of_getElem? (i := 458) (by decide +kernel), List.mem_of_getElem? (i := 459) (by decide +kernel)⟩
theorem lw_p9 : lw_okq (⟨"DearerByUse$Reader", "readCompared", "(I)V"⟩, 10) := ⟨⟨by decide +kernel, by decide +kernel⟩, List.mem_of_getElem? (i := 113) (by decide +kernel), List.mem_of_getElem? (i := 462) (by decide +kernel), List.mem_of_getElem? (i := 463) (by decide +kernel)⟩
theorem lw_p10 : lw_okq (⟨"DearerByUse$Reader", "readSum", "(I)V"⟩, 10) := ⟨⟨by decide +kernel, by decide +kernel⟩, List.mem_of_getElem? (i := 113) (by decide +kernel), List.mem_of_getElem? (i := 466) (by decide +kernel), List.mem_of_getElem? (i := 467) (by decide +kernel)⟩
theorem lw_p11 : lw_okq (⟨"DearerByUse$Reader", "readTerm", "(I)V"⟩, 10) := ⟨⟨by decide +kernel, by decide +kernel⟩, List.mem_of_getElem? (i := 113) (by decide +kernel), List.mem_of_getElem? (i := 470) (by decide +kernel), List.mem_of_getElem? (i := 471) (by decide +kernel)⟩
theorem lw_p12 : lw_okq (⟨"DearerByUse$Reader", "readOne", "(I)V"⟩, 10) := ⟨⟨by decide +kernel, by decide +kernel⟩, List.mem_of_getElem? (i := 113) (by decide +kernel), List.mem_of_getElem? (i := 474) (by decide +kernel), List.mem_of_getElem? (i := 475) (by decide +kernel)⟩
theorem lw_p13 : lw_okq (⟨"DearerByUse$Reader", "emit", "(I)V"⟩, 10) := ⟨⟨by decide +kernel, by decide +kernel⟩, List.mem_of_getElem? (i := 113) (by decide +kernel), List.mem_of_getElem? (i := 478) (by decide +kernel), List.mem_of_getElem? (i := 479) (by decide +kernel)⟩
theorem lw_p14 : lw_okq (⟨"DearerByUse$Texts", "tell", "(IIIIII)V"⟩, 6) := ⟨⟨by decide +kernel, by decide +kernel⟩, List.mem_of_getElem? (i := 153) (by decide +kernel), List.mem_of_getElem? (i := 608) (by decide +kernel), List.mem_of_getElem? (i := 609) (by decide +kernel)⟩
theorem lw_p15 : lw_okq (⟨"DearerByUse$Texts", "valued", "(I)I"⟩, 6) := ⟨⟨by decide +kernel, by decide +kernel⟩, List.mem_of_getElem? (i := 153) (by decide +kernel), List.mem_of_getElem? (i := 612) (by decide +kernel), List.mem_of_getElem? (i := 613) (by decide +kernel)⟩
def lw_privs_1 : List (MethodName × Nat) := [(⟨"DearerByUse$Reader", "next", "()V"⟩, 10), (⟨"DearerByUse$Reader", "nextWord", "()V"⟩, 10), (⟨"DearerByUse$Reader", "knownWord", "()I"⟩, 10), (⟨"DearerByUse$Reader", "nextNumber", "()V"⟩, 10), (⟨"DearerByUse$Reader", "expect", "(I)V"⟩, 10), (⟨"DearerByUse$Reader", "refuse", "()V"⟩, 10), (⟨"DearerByUse$Reader", "readE", "(I)V"⟩, 10), (⟨"DearerByUse$Reader", "readAnd", "(I)V"⟩, 10), (⟨"DearerByUse$Reader", "readNot", "(I)V"⟩, 10), (⟨"DearerByUse$Reader", "readCompared", "(I)V"⟩, 10), (⟨"DearerByUse$Reader", "readSum", "(I)V"⟩, 10), (⟨"DearerByUse$Reader", "readTerm", "(I)V"⟩, 10), (⟨"DearerByUse$Reader", "readOne", "(I)V"⟩, 10), (⟨"DearerByUse$Reader", "emit", "(I)V"⟩, 10), (⟨"DearerByUse$Texts", "tell", "(IIIIII)V"⟩, 6), (⟨"DearerByUse$Texts", "valued", "(I)I"⟩, 6)]
theorem lw_r1 : ∀ q ∈ lw_privs_1, lw_okq q := List.forall_mem_cons.mpr ⟨lw_p0, List.forall_mem_cons.mpr ⟨lw_p1, List.forall_mem_cons.mpr ⟨lw_p2, List.forall_mem_cons.mpr ⟨lw_p3, List.forall_mem_cons.mpr ⟨lw_p4, List.forall_mem_cons.mpr ⟨lw_p5, List.forall_mem_cons.mpr ⟨lw_p6, List.forall_mem_cons.mpr ⟨lw_p7, List.forall_mem_cons.mpr ⟨lw_p8, List.forall_mem_cons.mpr ⟨lw_p9, List.forall_mem_cons.mpr ⟨lw_p10, List.forall_mem_cons.mpr ⟨lw_p11, List.forall_mem_cons.mpr ⟨lw_p12, List.forall_mem_cons.mpr ⟨lw_p13, List.forall_mem_cons.mpr ⟨lw_p14, List.forall_mem_cons.mpr ⟨lw_p15, fun _ h => absurd h List.not_mem_nil⟩⟩⟩⟩⟩⟩⟩⟩⟩⟩⟩⟩⟩⟩⟩⟩
theorem lw_p16 : lw_okq (⟨"DearerByUse$Laws", "aged", "(II)I"⟩, 4) := ⟨⟨by decide +kernel, by decide +kernel⟩, List.mem_of_getElem? (i := 87) (by decide +kernel), List.mem_of_getElem? (i := 635) (by decide +kernel), List.mem_of_getElem? (i := 636) (by decide +kernel)⟩
theorem lw_p17 : lw_okq (⟨"DearerByUse$Day", "takeTurn", "(I)V"⟩, 12) := ⟨⟨by decide +kernel, by decide +kernel⟩, List.mem_of_getElem? (i := 181) (by decide +kernel), List.mem_of_getElem? (i := 660) (by decide +kernel), List.mem_of_getElem? (i := 661) (by decide +kernel)⟩
theorem lw_p18 : lw_okq (⟨"DearerByUse", "refusalToJudge", "(I)I"⟩, 9) := ⟨⟨by decide +kernel, by decide +kernel⟩, List.mem_of_getElem? (i := 19) (by decide +kernel), List.mem_of_getElem? (i := 752) (by decide +kernel), List.mem_of_getElem? (i := 753) (by decide +kernel)⟩
theorem lw_p19 : lw_okq (⟨"DearerByUseModel", "spell", "(IIIIIIIII)V"⟩, 60) := ⟨⟨by decide +kernel, by decide +kernel⟩, List.mem_of_getElem? (i := 854) (by decide +kernel), List.mem_of_getElem? (i := 860) (by decide +kernel), List.mem_of_getElem? (i := 861) (by decide +kernel)⟩
theorem lw_p20 : lw_okq (⟨"DearerByUseModel", "isOf", "(II)Z"⟩, 60) := ⟨⟨by decide +kernel, by decide +kernel⟩, List.mem_of_getElem? (i := 854) (by decide +kernel), List.mem_of_getElem? (i := 1054) (by decide +kernel), List.mem_of_getElem? (i := 1055) (by decide +kernel)⟩
theorem lw_p21 : lw_okq (⟨"DearerByUseModel", "isWriter", "(I)Z"⟩, 60) := ⟨⟨by decide +kernel, by decide +kernel⟩, List.mem_of_getElem? (i := 854) (by decide +kernel), List.mem_of_getElem? (i := 1059) (by decide +kernel), List.mem_of_getElem? (i := 1060) (by decide +kernel)⟩
theorem lw_p22 : lw_okq (⟨"DearerByUseModel", "isLaw", "(I)Z"⟩, 60) := ⟨⟨by decide +kernel, by decide +kernel⟩, List.mem_of_getElem? (i := 854) (by decide +kernel), List.mem_of_getElem? (i := 1063) (by decide +kernel), List.mem_of_getElem? (i := 1064) (by decide +kernel)⟩
theorem lw_p23 : lw_okq (⟨"DearerByUseModel", "isWordNumber", "(I)Z"⟩, 60) := ⟨⟨by decide +kernel, by decide +kernel⟩, List.mem_of_getElem? (i := 854) (by decide +kernel), List.mem_of_getElem? (i := 1067) (by decide +kernel), List.mem_of_getElem? (i := 1068) (by decide +kernel)⟩
theorem lw_p24 : lw_okq (⟨"DearerByUseModel", "read", "(II)I"⟩, 60) := ⟨⟨by decide +kernel, by decide +kernel⟩, List.mem_of_getElem? (i := 854) (by decide +kernel), List.mem_of_getElem? (i := 1112) (by decide +kernel), List.mem_of_getElem? (i := 1113) (by decide +kernel)⟩
theorem lw_p25 : lw_okq (⟨"DearerByUseModel", "next", "()V"⟩, 60) := ⟨⟨by decide +kernel, by decide +kernel⟩, List.mem_of_getElem? (i := 854) (by decide +kernel), List.mem_of_getElem? (i := 1116) (by decide +kernel), List.mem_of_getElem? (i := 1117) (by decide +kernel)⟩
theorem lw_p26 : lw_okq (⟨"DearerByUseModel", "byteAt", "(I)I"⟩, 60) := ⟨⟨by decide +kernel, by decide +kernel⟩, List.mem_of_getElem? (i := 854) (by decide +kernel), List.mem_of_getElem? (i := 1120) (by decide +kernel), List.mem_of_getElem? (i := 1121) (by decide +kernel)⟩
theorem lw_p27 : lw_okq (⟨"DearerByUseModel", "isWord", "(IIIIIIII)Z"⟩, 60) := ⟨⟨by decide +kernel, by decide +kernel⟩, List.mem_of_getElem? (i := 854) (by decide +kernel), List.mem_of_getElem? (i := 1129) (by decide +kernel), List.mem_of_getElem? (i := 1130) (by decide +kernel)⟩
theorem lw_p28 : lw_okq (⟨"DearerByUseModel", "isLetter", "(II)Z"⟩, 60) := ⟨⟨by decide +kernel, by decide +kernel⟩, List.mem_of_getElem? (i := 854) (by decide +kernel), List.mem_of_getElem? (i := 1133) (by decide +kernel), List.mem_of_getElem? (i := 1134) (by decide +kernel)⟩
theorem lw_p29 : lw_okq (⟨"DearerByUseModel", "part", "(Z)I"⟩, 60) := ⟨⟨by decide +kernel, by decide +kernel⟩, List.mem_of_getElem? (i := 854) (by decide +kernel), List.mem_of_getElem? (i := 1137) (by decide +kernel), List.mem_of_getElem? (i := 1138) (by decide +kernel)⟩
theorem lw_p30 : lw_okq (⟨"DearerByUseModel", "fail", "()V"⟩, 60) := ⟨⟨by decide +kernel, by decide +kernel⟩, List.mem_of_getElem? (i := 854) (by decide +kernel), List.mem_of_getElem? (i := 1141) (by decide +kernel), List.mem_of_getElem? (i := 1142) (by decide +kernel)⟩
theorem lw_p31 : lw_okq (⟨"DearerByUseModel", "either", "()I"⟩, 60) := ⟨⟨by decide +kernel, by decide +kernel⟩, List.mem_of_getElem? (i := 854) (by decide +kernel), List.mem_of_getElem? (i := 1145) (by decide +kernel), List.mem_of_getElem? (i := 1146) (by decide +kernel)⟩
def lw_privs_2 : List (MethodName × Nat) := [(⟨"DearerByUse$Laws", "aged", "(II)I"⟩, 4), (⟨"DearerByUse$Day", "takeTurn", "(I)V"⟩, 12), (⟨"DearerByUse", "refusalToJudge", "(I)I"⟩, 9), (⟨"DearerByUseModel", "spell", "(IIIIIIIII)V"⟩, 60), (⟨"DearerByUseModel", "isOf", "(II)Z"⟩, 60), (⟨"DearerByUseModel", "isWriter", "(I)Z"⟩, 60), (⟨"DearerByUseModel", "isLaw", "(I)Z"⟩, 60), (⟨"DearerByUseModel", "isWordNumber", "(I)Z"⟩, 60), (⟨"DearerByUseModel", "read", "(II)I"⟩, 60), (⟨"DearerByUseModel", "next", "()V"⟩, 60), (⟨"DearerByUseModel", "byteAt", "(I)I"⟩, 60), (⟨"DearerByUseModel", "isWord", "(IIIIIIII)Z"⟩, 60), (⟨"DearerByUseModel", "isLetter", "(II)Z"⟩, 60), (⟨"DearerByUseModel", "part", "(Z)I"⟩, 60), (⟨"DearerByUseModel", "fail", "()V"⟩, 60), (⟨"DearerByUseModel", "either", "()I"⟩, 60)]
theorem lw_r2 : ∀ q ∈ lw_privs_2, lw_okq q := List.forall_mem_cons.mpr ⟨lw_p16, List.forall_mem_cons.mpr ⟨lw_p17, List.forall_mem_cons.mpr ⟨lw_p18, List.forall_mem_cons.mpr ⟨lw_p19, List.forall_mem_cons.mpr ⟨lw_p20, List.forall_mem_cons.mpr ⟨lw_p21, List.forall_mem_cons.mpr ⟨lw_p22, List.forall_mem_cons.mpr ⟨lw_p23, List.forall_mem_cons.mpr ⟨lw_p24, List.forall_mem_cons.mpr ⟨lw_p25, List.forall_mem_cons.mpr ⟨lw_p26, List.forall_mem_cons.mpr ⟨lw_p27, List.forall_mem_cons.mpr ⟨lw_p28, List.forall_mem_cons.mpr ⟨lw_p29, List.forall_mem_cons.mpr ⟨lw_p30, List.forall_mem_cons.mpr ⟨lw_p31, fun _ h => absurd h List.not_mem_nil⟩⟩⟩⟩⟩⟩⟩⟩⟩⟩⟩⟩⟩⟩⟩⟩
theorem lw_p32 : lw_okq (⟨"DearerByUseModel", "both", "()I"⟩, 60) := ⟨⟨by decide +kernel, by decide +kernel⟩, List.mem_of_getElem? (i := 854) (by decide +kernel), List.mem_of_getElem? (i := 1149) (by decide +kernel), List.mem_of_getElem? (i := 1150) (by decide +kernel)⟩
theorem lw_p33 : lw_okq (⟨"DearerByUseModel", "not", "()I"⟩, 60) := ⟨⟨by decide +kernel, by decide +kernel⟩, List.mem_of_getElem? (i := 854) (by decide +kernel), List.mem_of_getElem? (i := 1153) (by decide +kernel), List.mem_of_getElem? (i := 1154) (by decide +kernel)⟩
theorem lw_p34 : lw_okq (⟨"DearerByUseModel", "opens", "()Z"⟩, 60) := ⟨⟨by decide +kernel, by decide +kernel⟩, List.mem_of_getElem? (i := 854) (by decide +kernel), List.mem_of_getElem? (i := 1157) (by decide +kernel), List.mem_of_getElem? (i := 1158) (by decide +kernel)⟩
theorem lw_p35 : lw_okq (⟨"DearerByUseModel", "added", "()I"⟩, 60) := ⟨⟨by decide +kernel, by decide +kernel⟩, List.mem_of_getElem? (i := 854) (by decide +kernel), List.mem_of_getElem? (i := 1161) (by decide +kernel), List.mem_of_getElem? (i := 1162) (by decide +kernel)⟩
theorem lw_p36 : lw_okq (⟨"DearerByUseModel", "term", "()I"⟩, 60) := ⟨⟨by decide +kernel, by decide +kernel⟩, List.mem_of_getElem? (i := 854) (by decide +kernel), List.mem_of_getElem? (i := 1165) (by decide +kernel), List.mem_of_getElem? (i := 1166) (by decide +kernel)⟩
theorem lw_p37 : lw_okq (⟨"DearerByUseModel", "atom", "()I"⟩, 60) := ⟨⟨by decide +kernel, by decide +kernel⟩, List.mem_of_getElem? (i := 854) (by decide +kernel), List.mem_of_getElem? (i := 1169) (by decide +kernel), List.mem_of_getElem? (i := 1170) (by decide +kernel)⟩
theorem lw_p38 : lw_okq (⟨"DearerByUseModel", "isSign", "(I)Z"⟩, 60) := ⟨⟨by decide +kernel, by decide +kernel⟩, List.mem_of_getElem? (i := 854) (by decide +kernel), List.mem_of_getElem? (i := 1173) (by decide +kernel), List.mem_of_getElem? (i := 1174) (by decide +kernel)⟩
theorem lw_p39 : lw_okq (⟨"DearerByUseModel", "name", "()I"⟩, 60) := ⟨⟨by decide +kernel, by decide +kernel⟩, List.mem_of_getElem? (i := 854) (by decide +kernel), List.mem_of_getElem? (i := 1177) (by decide +kernel), List.mem_of_getElem? (i := 1178) (by decide +kernel)⟩
theorem lw_p40 : lw_okq (⟨"DearerByUseModel", "takes", "()V"⟩, 60) := ⟨⟨by decide +kernel, by decide +kernel⟩, List.mem_of_getElem? (i := 854) (by decide +kernel), List.mem_of_getElem? (i := 1191) (by decide +kernel), List.mem_of_getElem? (i := 1192) (by decide +kernel)⟩
theorem lw_p41 : lw_okq (⟨"DearerByUseModel", "writes", "(II)I"⟩, 60) := ⟨⟨by decide +kernel, by decide +kernel⟩, List.mem_of_getElem? (i := 854) (by decide +kernel), List.mem_of_getElem? (i := 1195) (by decide +kernel), List.mem_of_getElem? (i := 1196) (by decide +kernel)⟩
theorem lw_p42 : lw_okq (⟨"DearerByUseModel", "costBy", "(II)I"⟩, 60) := ⟨⟨by decide +kernel, by decide +kernel⟩, List.mem_of_getElem? (i := 854) (by decide +kernel), List.mem_of_getElem? (i := 1199) (by decide +kernel), List.mem_of_getElem? (i := 1200) (by decide +kernel)⟩
theorem lw_p43 : lw_okq (⟨"DearerByUseModel", "adds", "(III)I"⟩, 60) := ⟨⟨by decide +kernel, by decide +kernel⟩, List.mem_of_getElem? (i := 854) (by decide +kernel), List.mem_of_getElem? (i := 1206) (by decide +kernel), List.mem_of_getElem? (i := 1207) (by decide +kernel)⟩
theorem lw_p44 : lw_okq (⟨"DearerByUseModel", "keptRead", "(I)I"⟩, 60) := ⟨⟨by decide +kernel, by decide +kernel⟩, List.mem_of_getElem? (i := 854) (by decide +kernel), List.mem_of_getElem? (i := 1210) (by decide +kernel), List.mem_of_getElem? (i := 1211) (by decide +kernel)⟩
theorem lw_p45 : lw_okq (⟨"DearerByUseModel", "keeps", "()V"⟩, 60) := ⟨⟨by decide +kernel, by decide +kernel⟩, List.mem_of_getElem? (i := 854) (by decide +kernel), List.mem_of_getElem? (i := 1227) (by decide +kernel), List.mem_of_getElem? (i := 1228) (by decide +kernel)⟩
theorem lw_p46 : lw_okq (⟨"DearerByUseModel", "ages", "()V"⟩, 60) := ⟨⟨by decide +kernel, by decide +kernel⟩, List.mem_of_getElem? (i := 854) (by decide +kernel), List.mem_of_getElem? (i := 1236) (by decide +kernel), List.mem_of_getElem? (i := 1237) (by decide +kernel)⟩
theorem lw_p47 : lw_okq (⟨"DearerByUseModel", "agedBy", "(I)I"⟩, 60) := ⟨⟨by decide +kernel, by decide +kernel⟩, List.mem_of_getElem? (i := 854) (by decide +kernel), List.mem_of_getElem? (i := 1240) (by decide +kernel), List.mem_of_getElem? (i := 1241) (by decide +kernel)⟩
def lw_privs_3 : List (MethodName × Nat) := [(⟨"DearerByUseModel", "both", "()I"⟩, 60), (⟨"DearerByUseModel", "not", "()I"⟩, 60), (⟨"DearerByUseModel", "opens", "()Z"⟩, 60), (⟨"DearerByUseModel", "added", "()I"⟩, 60), (⟨"DearerByUseModel", "term", "()I"⟩, 60), (⟨"DearerByUseModel", "atom", "()I"⟩, 60), (⟨"DearerByUseModel", "isSign", "(I)Z"⟩, 60), (⟨"DearerByUseModel", "name", "()I"⟩, 60), (⟨"DearerByUseModel", "takes", "()V"⟩, 60), (⟨"DearerByUseModel", "writes", "(II)I"⟩, 60), (⟨"DearerByUseModel", "costBy", "(II)I"⟩, 60), (⟨"DearerByUseModel", "adds", "(III)I"⟩, 60), (⟨"DearerByUseModel", "keptRead", "(I)I"⟩, 60), (⟨"DearerByUseModel", "keeps", "()V"⟩, 60), (⟨"DearerByUseModel", "ages", "()V"⟩, 60), (⟨"DearerByUseModel", "agedBy", "(I)I"⟩, 60)]
theorem lw_r3 : ∀ q ∈ lw_privs_3, lw_okq q := List.forall_mem_cons.mpr ⟨lw_p32, List.forall_mem_cons.mpr ⟨lw_p33, List.forall_mem_cons.mpr ⟨lw_p34, List.forall_mem_cons.mpr ⟨lw_p35, List.forall_mem_cons.mpr ⟨lw_p36, List.forall_mem_cons.mpr ⟨lw_p37, List.forall_mem_cons.mpr ⟨lw_p38, List.forall_mem_cons.mpr ⟨lw_p39, List.forall_mem_cons.mpr ⟨lw_p40, List.forall_mem_cons.mpr ⟨lw_p41, List.forall_mem_cons.mpr ⟨lw_p42, List.forall_mem_cons.mpr ⟨lw_p43, List.forall_mem_cons.mpr ⟨lw_p44, List.forall_mem_cons.mpr ⟨lw_p45, List.forall_mem_cons.mpr ⟨lw_p46, List.forall_mem_cons.mpr ⟨lw_p47, fun _ h => absurd h List.not_mem_nil⟩⟩⟩⟩⟩⟩⟩⟩⟩⟩⟩⟩⟩⟩⟩⟩
theorem lw_p48 : lw_okq (⟨"DearerByUseModel", "rowSum", "()I"⟩, 60) := ⟨⟨by decide +kernel, by decide +kernel⟩, List.mem_of_getElem? (i := 854) (by decide +kernel), List.mem_of_getElem? (i := 1244) (by decide +kernel), List.mem_of_getElem? (i := 1245) (by decide +kernel)⟩
theorem lw_p49 : lw_okq (⟨"DearerByUseModel", "costOf", "(II)I"⟩, 60) := ⟨⟨by decide +kernel, by decide +kernel⟩, List.mem_of_getElem? (i := 854) (by decide +kernel), List.mem_of_getElem? (i := 1252) (by decide +kernel), List.mem_of_getElem? (i := 1253) (by decide +kernel)⟩
theorem lw_p50 : lw_okq (⟨"DearerByUseModel", "dayNow", "()V"⟩, 60) := ⟨⟨by decide +kernel, by decide +kernel⟩, List.mem_of_getElem? (i := 854) (by decide +kernel), List.mem_of_getElem? (i := 1262) (by decide +kernel), List.mem_of_getElem? (i := 1263) (by decide +kernel)⟩
theorem lw_p51 : lw_okq (⟨"DearerByUseModel", "passesDay", "()V"⟩, 60) := ⟨⟨by decide +kernel, by decide +kernel⟩, List.mem_of_getElem? (i := 854) (by decide +kernel), List.mem_of_getElem? (i := 1266) (by decide +kernel), List.mem_of_getElem? (i := 1267) (by decide +kernel)⟩
theorem lw_p52 : lw_okq (⟨"DearerByUseModel", "turnOf", "(I)V"⟩, 60) := ⟨⟨by decide +kernel, by decide +kernel⟩, List.mem_of_getElem? (i := 854) (by decide +kernel), List.mem_of_getElem? (i := 1270) (by decide +kernel), List.mem_of_getElem? (i := 1271) (by decide +kernel)⟩
theorem lw_p53 : lw_okq (⟨"DearerByUseModel", "says", "(III)I"⟩, 60) := ⟨⟨by decide +kernel, by decide +kernel⟩, List.mem_of_getElem? (i := 854) (by decide +kernel), List.mem_of_getElem? (i := 1274) (by decide +kernel), List.mem_of_getElem? (i := 1275) (by decide +kernel)⟩
theorem lw_p54 : lw_okq (⟨"DearerByUseModel", "goodOf", "(I)I"⟩, 60) := ⟨⟨by decide +kernel, by decide +kernel⟩, List.mem_of_getElem? (i := 854) (by decide +kernel), List.mem_of_getElem? (i := 1278) (by decide +kernel), List.mem_of_getElem? (i := 1279) (by decide +kernel)⟩
theorem lw_p55 : lw_okq (⟨"DearerByUseModel", "allGood", "()I"⟩, 60) := ⟨⟨by decide +kernel, by decide +kernel⟩, List.mem_of_getElem? (i := 854) (by decide +kernel), List.mem_of_getElem? (i := 1286) (by decide +kernel), List.mem_of_getElem? (i := 1287) (by decide +kernel)⟩
theorem lw_p56 : lw_okq (⟨"DearerByUseModel", "saying", "()I"⟩, 60) := ⟨⟨by decide +kernel, by decide +kernel⟩, List.mem_of_getElem? (i := 854) (by decide +kernel), List.mem_of_getElem? (i := 1290) (by decide +kernel), List.mem_of_getElem? (i := 1291) (by decide +kernel)⟩
theorem lw_p57 : lw_okq (⟨"DearerByUseModel", "seeks", "(I)V"⟩, 60) := ⟨⟨by decide +kernel, by decide +kernel⟩, List.mem_of_getElem? (i := 854) (by decide +kernel), List.mem_of_getElem? (i := 1298) (by decide +kernel), List.mem_of_getElem? (i := 1299) (by decide +kernel)⟩
theorem lw_p58 : lw_okq (⟨"DearerByUseModel", "orders", "(IIII)V"⟩, 60) := ⟨⟨by decide +kernel, by decide +kernel⟩, List.mem_of_getElem? (i := 854) (by decide +kernel), List.mem_of_getElem? (i := 1314) (by decide +kernel), List.mem_of_getElem? (i := 1315) (by decide +kernel)⟩
theorem lw_p59 : lw_okq (⟨"DearerByUseModel", "burned", "(II)I"⟩, 60) := ⟨⟨by decide +kernel, by decide +kernel⟩, List.mem_of_getElem? (i := 854) (by decide +kernel), List.mem_of_getElem? (i := 1323) (by decide +kernel), List.mem_of_getElem? (i := 1324) (by decide +kernel)⟩
theorem lw_p60 : lw_okq (⟨"DearerByUseModel", "paidBad", "(I)I"⟩, 60) := ⟨⟨by decide +kernel, by decide +kernel⟩, List.mem_of_getElem? (i := 854) (by decide +kernel), List.mem_of_getElem? (i := 1339) (by decide +kernel), List.mem_of_getElem? (i := 1340) (by decide +kernel)⟩
theorem lw_p61 : lw_okq (⟨"DearerByUseModel", "unlike", "(I)I"⟩, 60) := ⟨⟨by decide +kernel, by decide +kernel⟩, List.mem_of_getElem? (i := 854) (by decide +kernel), List.mem_of_getElem? (i := 1346) (by decide +kernel), List.mem_of_getElem? (i := 1347) (by decide +kernel)⟩
theorem lw_p62 : lw_okq (⟨"DearerByUseModel", "draws", "(I)V"⟩, 60) := ⟨⟨by decide +kernel, by decide +kernel⟩, List.mem_of_getElem? (i := 854) (by decide +kernel), List.mem_of_getElem? (i := 1362) (by decide +kernel), List.mem_of_getElem? (i := 1363) (by decide +kernel)⟩
def lw_privs_4 : List (MethodName × Nat) := [(⟨"DearerByUseModel", "rowSum", "()I"⟩, 60), (⟨"DearerByUseModel", "costOf", "(II)I"⟩, 60), (⟨"DearerByUseModel", "dayNow", "()V"⟩, 60), (⟨"DearerByUseModel", "passesDay", "()V"⟩, 60), (⟨"DearerByUseModel", "turnOf", "(I)V"⟩, 60), (⟨"DearerByUseModel", "says", "(III)I"⟩, 60), (⟨"DearerByUseModel", "goodOf", "(I)I"⟩, 60), (⟨"DearerByUseModel", "allGood", "()I"⟩, 60), (⟨"DearerByUseModel", "saying", "()I"⟩, 60), (⟨"DearerByUseModel", "seeks", "(I)V"⟩, 60), (⟨"DearerByUseModel", "orders", "(IIII)V"⟩, 60), (⟨"DearerByUseModel", "burned", "(II)I"⟩, 60), (⟨"DearerByUseModel", "paidBad", "(I)I"⟩, 60), (⟨"DearerByUseModel", "unlike", "(I)I"⟩, 60), (⟨"DearerByUseModel", "draws", "(I)V"⟩, 60)]
theorem lw_r4 : ∀ q ∈ lw_privs_4, lw_okq q := List.forall_mem_cons.mpr ⟨lw_p48, List.forall_mem_cons.mpr ⟨lw_p49, List.forall_mem_cons.mpr ⟨lw_p50, List.forall_mem_cons.mpr ⟨lw_p51, List.forall_mem_cons.mpr ⟨lw_p52, List.forall_mem_cons.mpr ⟨lw_p53, List.forall_mem_cons.mpr ⟨lw_p54, List.forall_mem_cons.mpr ⟨lw_p55, List.forall_mem_cons.mpr ⟨lw_p56, List.forall_mem_cons.mpr ⟨lw_p57, List.forall_mem_cons.mpr ⟨lw_p58, List.forall_mem_cons.mpr ⟨lw_p59, List.forall_mem_cons.mpr ⟨lw_p60, List.forall_mem_cons.mpr ⟨lw_p61, List.forall_mem_cons.mpr ⟨lw_p62, fun _ h => absurd h List.not_mem_nil⟩⟩⟩⟩⟩⟩⟩⟩⟩⟩⟩⟩⟩⟩⟩
def lw_privs : List (MethodName × Nat) := lw_privs_1 ++ (lw_privs_2 ++ (lw_privs_3 ++ (lw_privs_4)))
def lw_tbl : List Cond := k2_sels lw_privs ++ tables_1
theorem lw_privs_ok : ∀ q ∈ lw_privs, lw_okq q := by
  show ∀ q ∈ lw_privs_1 ++ (lw_privs_2 ++ (lw_privs_3 ++ (lw_privs_4))), lw_okq q
  exact List.forall_mem_append.mpr ⟨lw_r1, List.forall_mem_append.mpr ⟨lw_r2, List.forall_mem_append.mpr ⟨lw_r3, lw_r4⟩⟩⟩
end
section
def RX0 : String := "DearerByUse$Day"
def TX0 : u_T := fun k => match k with
  | 0 => ("DearerByUse$Day", "now", "[I", true)
  | 1 => ("DearerByUse$Day", "words", "LDearerByUse$Words;", true)
  | 2 => ("DearerByUse$Day", "wanting", "LDearerByUse$Writers;", true)
  | 3 => ("DearerByUse$Day", "laws", "LDearerByUse$Laws;", true)
  | 4 => ("DearerByUse$Day", "texts", "LDearerByUse$Texts;", true)
  | 5 => ("DearerByUse$Day", "used", "[I", true)
  | 6 => ("DearerByUse$Day", "hours", "[I", true)
  | 7 => ("DearerByUse$Day", "law", "I", false)
  | 8 => ("DearerByUse$Day", "said", "[I", true)
  | 9 => ("DearerByUse$Day", "paid", "[I", true)
  | 10 => ("DearerByUse$Day", "good", "[I", true)
  | _ => ("DearerByUse$Day", "goodBy", "[I", true)
def tyX0 : Nat → FieldType := fun k => match k with
  | 0 => .array .int
  | 1 => .object "DearerByUse$Words"
  | 2 => .object "DearerByUse$Writers"
  | 3 => .object "DearerByUse$Laws"
  | 4 => .object "DearerByUse$Texts"
  | 5 => .array .int
  | 6 => .array .int
  | 7 => .int
  | 8 => .array .int
  | 9 => .array .int
  | 10 => .array .int
  | _ => .array .int
theorem nmX0 : ∀ a, a < 12 → ∀ b, b < 12 → a ≠ b → (TX0 a).2.1 ≠ (TX0 b).2.1 := by decide +kernel
theorem tyX0_ok : ∀ k, k < 12 → parseFieldDescriptor (TX0 k).2.2.1 = some (tyX0 k) := by decide +kernel
def RX1 : String := "DearerByUse$Image"
def TX1 : u_T := fun k => match k with
  | 0 => ("DearerByUse$Image", "there", "Z", false)
  | 1 => ("DearerByUse$Image", "used", "[I", true)
  | 2 => ("DearerByUse$Image", "words", "I", false)
  | 3 => ("DearerByUse$Image", "text", "I", false)
  | 4 => ("DearerByUse$Image", "things", "[I", true)
  | 5 => ("DearerByUse$Image", "hours", "[I", true)
  | 6 => ("DearerByUse$Image", "purses", "[I", true)
  | 7 => ("DearerByUse$Image", "wanting", "I", false)
  | 8 => ("DearerByUse$Image", "numbers", "[I", true)
  | 9 => ("DearerByUse$Image", "laws", "I", false)
  | _ => ("DearerByUse$Image", "law", "I", false)
def tyX1 : Nat → FieldType := fun k => match k with
  | 0 => .boolean
  | 1 => .array .int
  | 2 => .int
  | 3 => .int
  | 4 => .array .int
  | 5 => .array .int
  | 6 => .array .int
  | 7 => .int
  | 8 => .array .int
  | 9 => .int
  | _ => .int
theorem nmX1 : ∀ a, a < 11 → ∀ b, b < 11 → a ≠ b → (TX1 a).2.1 ≠ (TX1 b).2.1 := by decide +kernel
theorem tyX1_ok : ∀ k, k < 11 → parseFieldDescriptor (TX1 k).2.2.1 = some (tyX1 k) := by decide +kernel
def RX2 : String := "DearerByUse$Laws"
def TX2 : u_T := fun k => match k with
  | 0 => ("DearerByUse$Laws", "kinds", "[I", true)
  | 1 => ("DearerByUse$Laws", "numbers", "[I", true)
  | 2 => ("DearerByUse$Laws", "size", "I", false)
  | _ => ("DearerByUse$Laws", "ruling", "I", false)
def tyX2 : Nat → FieldType := fun k => match k with
  | 0 => .array .int
  | 1 => .array .int
  | 2 => .int
  | _ => .int
theorem nmX2 : ∀ a, a < 4 → ∀ b, b < 4 → a ≠ b → (TX2 a).2.1 ≠ (TX2 b).2.1 := by decide +kernel
theorem tyX2_ok : ∀ k, k < 4 → parseFieldDescriptor (TX2 k).2.2.1 = some (tyX2 k) := by decide +kernel
def RX3 : String := "DearerByUse$Reader"
def TX3 : u_T := fun k => match k with
  | 0 => ("DearerByUse$Reader", "tape", "[I", true)
  | 1 => ("DearerByUse$Reader", "size", "I", false)
  | 2 => ("DearerByUse$Reader", "code", "[I", true)
  | 3 => ("DearerByUse$Reader", "ends", "[I", true)
  | 4 => ("DearerByUse$Reader", "place", "I", false)
  | 5 => ("DearerByUse$Reader", "token", "I", false)
  | 6 => ("DearerByUse$Reader", "start", "I", false)
  | 7 => ("DearerByUse$Reader", "value", "I", false)
  | 8 => ("DearerByUse$Reader", "fault", "I", false)
  | _ => ("DearerByUse$Reader", "written", "I", false)
def tyX3 : Nat → FieldType := fun k => match k with
  | 0 => .array .int
  | 1 => .int
  | 2 => .array .int
  | 3 => .array .int
  | 4 => .int
  | 5 => .int
  | 6 => .int
  | 7 => .int
  | 8 => .int
  | _ => .int
theorem nmX3 : ∀ a, a < 10 → ∀ b, b < 10 → a ≠ b → (TX3 a).2.1 ≠ (TX3 b).2.1 := by decide +kernel
theorem tyX3_ok : ∀ k, k < 10 → parseFieldDescriptor (TX3 k).2.2.1 = some (tyX3 k) := by decide +kernel
def RX4 : String := "DearerByUse$Sheets"
def TX4 : u_T := fun k => match k with
  | 0 => ("DearerByUse$Sheets", "sorts", "[I", true)
  | 1 => ("DearerByUse$Sheets", "sizes", "[I", true)
  | _ => ("DearerByUse$Sheets", "rows", "[[I", true)
def tyX4 : Nat → FieldType := fun k => match k with
  | 0 => .array .int
  | 1 => .array .int
  | _ => .array (.array .int)
theorem nmX4 : ∀ a, a < 3 → ∀ b, b < 3 → a ≠ b → (TX4 a).2.1 ≠ (TX4 b).2.1 := by decide +kernel
theorem tyX4_ok : ∀ k, k < 3 → parseFieldDescriptor (TX4 k).2.2.1 = some (tyX4 k) := by decide +kernel
def RX5 : String := "DearerByUse$Texts"
def TX5 : u_T := fun k => match k with
  | 0 => ("DearerByUse$Texts", "codes", "[[I", true)
  | 1 => ("DearerByUse$Texts", "ends", "[[I", true)
  | 2 => ("DearerByUse$Texts", "names", "[I", true)
  | 3 => ("DearerByUse$Texts", "stack", "[I", true)
  | 4 => ("DearerByUse$Texts", "size", "I", false)
  | _ => ("DearerByUse$Texts", "ruling", "I", false)
def tyX5 : Nat → FieldType := fun k => match k with
  | 0 => .array (.array .int)
  | 1 => .array (.array .int)
  | 2 => .array .int
  | 3 => .array .int
  | 4 => .int
  | _ => .int
theorem nmX5 : ∀ a, a < 6 → ∀ b, b < 6 → a ≠ b → (TX5 a).2.1 ≠ (TX5 b).2.1 := by decide +kernel
theorem tyX5_ok : ∀ k, k < 6 → parseFieldDescriptor (TX5 k).2.2.1 = some (tyX5 k) := by decide +kernel
def RX6 : String := "DearerByUse$Words"
def TX6 : u_T := fun k => match k with
  | 0 => ("DearerByUse$Words", "things", "[I", true)
  | 1 => ("DearerByUse$Words", "lengths", "[I", true)
  | 2 => ("DearerByUse$Words", "letters", "[[I", true)
  | _ => ("DearerByUse$Words", "size", "I", false)
def tyX6 : Nat → FieldType := fun k => match k with
  | 0 => .array .int
  | 1 => .array .int
  | 2 => .array (.array .int)
  | _ => .int
theorem nmX6 : ∀ a, a < 4 → ∀ b, b < 4 → a ≠ b → (TX6 a).2.1 ≠ (TX6 b).2.1 := by decide +kernel
theorem tyX6_ok : ∀ k, k < 4 → parseFieldDescriptor (TX6 k).2.2.1 = some (tyX6 k) := by decide +kernel
def RX7 : String := "DearerByUse$Writers"
def TX7 : u_T := fun k => match k with
  | 0 => ("DearerByUse$Writers", "things", "[I", true)
  | 1 => ("DearerByUse$Writers", "hours", "[I", true)
  | 2 => ("DearerByUse$Writers", "purses", "[I", true)
  | _ => ("DearerByUse$Writers", "size", "I", false)
def tyX7 : Nat → FieldType := fun k => match k with
  | 0 => .array .int
  | 1 => .array .int
  | 2 => .array .int
  | _ => .int
theorem nmX7 : ∀ a, a < 4 → ∀ b, b < 4 → a ≠ b → (TX7 a).2.1 ≠ (TX7 b).2.1 := by decide +kernel
theorem tyX7_ok : ∀ k, k < 4 → parseFieldDescriptor (TX7 k).2.2.1 = some (tyX7 k) := by decide +kernel
def RX8 : String := "DearerByUse"
def TX8 : u_T := fun k => match k with
  | 0 => ("DearerByUse", "used", "[I", true)
  | 1 => ("DearerByUse", "words", "LDearerByUse$Words;", true)
  | 2 => ("DearerByUse", "wanting", "LDearerByUse$Writers;", true)
  | 3 => ("DearerByUse", "laws", "LDearerByUse$Laws;", true)
  | 4 => ("DearerByUse", "reader", "LDearerByUse$Reader;", true)
  | 5 => ("DearerByUse", "texts", "LDearerByUse$Texts;", true)
  | 6 => ("DearerByUse", "thought", "LDearerByUse$Day;", true)
  | 7 => ("DearerByUse", "kept", "LDearerByUse$Image;", true)
  | _ => ("DearerByUse", "sheets", "LDearerByUse$Sheets;", true)
def tyX8 : Nat → FieldType := fun k => match k with
  | 0 => .array .int
  | 1 => .object "DearerByUse$Words"
  | 2 => .object "DearerByUse$Writers"
  | 3 => .object "DearerByUse$Laws"
  | 4 => .object "DearerByUse$Reader"
  | 5 => .object "DearerByUse$Texts"
  | 6 => .object "DearerByUse$Day"
  | 7 => .object "DearerByUse$Image"
  | _ => .object "DearerByUse$Sheets"
theorem nmX8 : ∀ a, a < 9 → ∀ b, b < 9 → a ≠ b → (TX8 a).2.1 ≠ (TX8 b).2.1 := by decide +kernel
theorem tyX8_ok : ∀ k, k < 9 → parseFieldDescriptor (TX8 k).2.2.1 = some (tyX8 k) := by decide +kernel
def RX9 : String := "DearerByUseModel"
def TX9 : u_T := fun k => match k with
  | 0 => ("DearerByUseModel", "thrown", "I", false)
  | 1 => ("DearerByUseModel", "texts", "[I", true)
  | 2 => ("DearerByUseModel", "textSize", "[I", true)
  | 3 => ("DearerByUseModel", "textCount", "I", false)
  | 4 => ("DearerByUseModel", "rule", "I", false)
  | 5 => ("DearerByUseModel", "tape", "[I", true)
  | 6 => ("DearerByUseModel", "taped", "I", false)
  | 7 => ("DearerByUseModel", "used", "[I", true)
  | 8 => ("DearerByUseModel", "wordThing", "[I", true)
  | 9 => ("DearerByUseModel", "wordLetters", "[I", true)
  | 10 => ("DearerByUseModel", "words", "I", false)
  | 11 => ("DearerByUseModel", "wants", "[I", true)
  | 12 => ("DearerByUseModel", "hours", "[I", true)
  | 13 => ("DearerByUseModel", "purses", "[I", true)
  | 14 => ("DearerByUseModel", "writerCount", "I", false)
  | 15 => ("DearerByUseModel", "kinds", "[I", true)
  | 16 => ("DearerByUseModel", "numbers", "[I", true)
  | 17 => ("DearerByUseModel", "laws", "I", false)
  | 18 => ("DearerByUseModel", "theLaw", "I", false)
  | 19 => ("DearerByUseModel", "ofUsed", "I", false)
  | 20 => ("DearerByUseModel", "ofHour", "I", false)
  | 21 => ("DearerByUseModel", "ofLetter", "I", false)
  | 22 => ("DearerByUseModel", "ofLength", "I", false)
  | 23 => ("DearerByUseModel", "ofPurse", "I", false)
  | 24 => ("DearerByUseModel", "ofMany", "I", false)
  | 25 => ("DearerByUseModel", "from", "I", false)
  | 26 => ("DearerByUseModel", "size", "I", false)
  | 27 => ("DearerByUseModel", "here", "I", false)
  | 28 => ("DearerByUseModel", "token", "I", false)
  | 29 => ("DearerByUseModel", "tokenAt", "I", false)
  | 30 => ("DearerByUseModel", "tokenWorth", "J", false)
  | 31 => ("DearerByUseModel", "open", "I", false)
  | 32 => ("DearerByUseModel", "bad", "Z", false)
  | 33 => ("DearerByUseModel", "fault", "I", false)
  | 34 => ("DearerByUseModel", "keptOf", "[J", true)
  | 35 => ("DearerByUseModel", "keptWas", "[I", true)
  | 36 => ("DearerByUseModel", "row", "[I", true)
  | 37 => ("DearerByUseModel", "aside", "[I", true)
  | 38 => ("DearerByUseModel", "said", "[I", true)
  | 39 => ("DearerByUseModel", "paid", "[I", true)
  | 40 => ("DearerByUseModel", "asked", "I", false)
  | 41 => ("DearerByUseModel", "askedSum", "I", false)
  | 42 => ("DearerByUseModel", "askedFits", "I", false)
  | 43 => ("DearerByUseModel", "bestHour", "I", false)
  | 44 => ("DearerByUseModel", "bestGood", "I", false)
  | 45 => ("DearerByUseModel", "hoursWas", "[I", true)
  | 46 => ("DearerByUseModel", "turnsMost", "I", false)
  | 47 => ("DearerByUseModel", "turnsDigits", "I", false)
  | 48 => ("DearerByUseModel", "usedKept", "[I", true)
  | 49 => ("DearerByUseModel", "writersKept", "[I", true)
  | 50 => ("DearerByUseModel", "numbersKept", "[I", true)
  | 51 => ("DearerByUseModel", "writersMany", "I", false)
  | 52 => ("DearerByUseModel", "wordsKept", "I", false)
  | 53 => ("DearerByUseModel", "lawsKept", "I", false)
  | 54 => ("DearerByUseModel", "theLawKept", "I", false)
  | 55 => ("DearerByUseModel", "ruleKept", "I", false)
  | 56 => ("DearerByUseModel", "isThere", "[Z", true)
  | 57 => ("DearerByUseModel", "sorts", "[I", true)
  | 58 => ("DearerByUseModel", "sheetSize", "[I", true)
  | _ => ("DearerByUseModel", "items", "[I", true)
def tyX9 : Nat → FieldType := fun k => match k with
  | 0 => .int
  | 1 => .array .int
  | 2 => .array .int
  | 3 => .int
  | 4 => .int
  | 5 => .array .int
  | 6 => .int
  | 7 => .array .int
  | 8 => .array .int
  | 9 => .array .int
  | 10 => .int
  | 11 => .array .int
  | 12 => .array .int
  | 13 => .array .int
  | 14 => .int
  | 15 => .array .int
  | 16 => .array .int
  | 17 => .int
  | 18 => .int
  | 19 => .int
  | 20 => .int
  | 21 => .int
  | 22 => .int
  | 23 => .int
  | 24 => .int
  | 25 => .int
  | 26 => .int
  | 27 => .int
  | 28 => .int
  | 29 => .int
  | 30 => .long
  | 31 => .int
  | 32 => .boolean
  | 33 => .int
  | 34 => .array .long
  | 35 => .array .int
  | 36 => .array .int
  | 37 => .array .int
  | 38 => .array .int
  | 39 => .array .int
  | 40 => .int
  | 41 => .int
  | 42 => .int
  | 43 => .int
  | 44 => .int
  | 45 => .array .int
  | 46 => .int
  | 47 => .int
  | 48 => .array .int
  | 49 => .array .int
  | 50 => .array .int
  | 51 => .int
  | 52 => .int
  | 53 => .int
  | 54 => .int
  | 55 => .int
  | 56 => .array .boolean
  | 57 => .array .int
  | 58 => .array .int
  | _ => .array .int
theorem nmX9 : ∀ a, a < 60 → ∀ b, b < 60 → a ≠ b → (TX9 a).2.1 ≠ (TX9 b).2.1 := by decide +kernel
theorem tyX9_ok : ∀ k, k < 60 → parseFieldDescriptor (TX9 k).2.2.1 = some (tyX9 k) := by decide +kernel
abbrev vwCl : List vw_C := [(RX0, TX0, 12), (RX1, TX1, 11), (RX2, TX2, 4), (RX3, TX3, 10), (RX4, TX4, 3), (RX5, TX5, 6), (RX6, TX6, 4), (RX7, TX7, 4), (RX8, TX8, 9), (RX9, TX9, 60)]
end
section
def cnmL : List String := ["DearerByUse$Day", "DearerByUse$Image", "DearerByUse$Laws", "DearerByUse$Reader", "DearerByUse$Sheets", "DearerByUse$Texts", "DearerByUse$Words", "DearerByUse$Writers", "DearerByUse", "DearerByUseModel", "java/lang/String", "java/lang/StringLatin1", "jdk/internal/util/Preconditions", "java/lang/Math"]
def mnmL : List MethodName := [⟨"DearerByUse", "set", "(III)I"⟩, ⟨"DearerByUse", "told", "(II)I"⟩, ⟨"DearerByUse", "word", "(II)I"⟩, ⟨"DearerByUse", "writer", "(III)I"⟩, ⟨"DearerByUse", "law", "(II)I"⟩, ⟨"DearerByUse", "rule", "(I)I"⟩, ⟨"DearerByUse", "feed", "(I)I"⟩, ⟨"DearerByUse", "text", "()I"⟩, ⟨"DearerByUse", "force", "(I)I"⟩, ⟨"DearerByUse", "costs", "(II)I"⟩, ⟨"DearerByUse", "write", "(II)I"⟩, ⟨"DearerByUse", "pass", "(I)I"⟩, ⟨"DearerByUse", "cheapest", "(III)I"⟩, ⟨"DearerByUse", "day", "(II)I"⟩, ⟨"DearerByUse", "all", "(I)I"⟩, ⟨"DearerByUse", "when", "(II)I"⟩, ⟨"DearerByUse", "choose", "(I)I"⟩, ⟨"DearerByUse", "rest", "()I"⟩, ⟨"DearerByUse", "turns", "(I)I"⟩, ⟨"DearerByUse", "burn", "(II)I"⟩, ⟨"DearerByUse", "worst", "(II)I"⟩, ⟨"DearerByUse", "best", "(I)I"⟩, ⟨"DearerByUse", "judge", "(I)I"⟩, ⟨"DearerByUse", "fits", "(II)I"⟩, ⟨"DearerByUse", "whose", "(I)I"⟩, ⟨"DearerByUse", "drawn", "(I)I"⟩, ⟨"DearerByUse", "chance", "(III)J"⟩, ⟨"DearerByUse", "image", "()I"⟩, ⟨"DearerByUse", "back", "()I"⟩, ⟨"DearerByUse", "count", "(I)I"⟩, ⟨"DearerByUse", "sheet", "(III)I"⟩, ⟨"DearerByUse", "cell", "(III)I"⟩, ⟨"DearerByUse", "copy", "(IIIII)I"⟩, ⟨"DearerByUse", "writers", "(IIII)I"⟩, ⟨"DearerByUse", "taken", "(II)I"⟩, ⟨"DearerByUse", "within", "(II)Z"⟩, ⟨"DearerByUse", "put", "([IIIII)I"⟩, ⟨"DearerByUse", "item", "([III)I"⟩, ⟨"DearerByUse", "sum", "([I)I"⟩, ⟨"DearerByUse", "firstMost", "([I)I"⟩, ⟨"DearerByUse", "whoseHour", "(III)I"⟩, ⟨"DearerByUse", "isTurn", "(II)Z"⟩, ⟨"DearerByUse", "digits", "(II)I"⟩, ⟨"DearerByUse", "commonDivisor", "(II)I"⟩, ⟨"DearerByUse", "refusalToJudge", "(I)I"⟩, ⟨"DearerByUseModel", "in", "(JJJ)Z"⟩, ⟨"DearerByUseModel", "within", "(III)I"⟩, ⟨"DearerByUseModel", "spell", "(IIIIIIIII)V"⟩, ⟨"DearerByUseModel", "isWordNumber", "(I)Z"⟩, ⟨"DearerByUseModel", "isWriter", "(I)Z"⟩, ⟨"DearerByUseModel", "isLaw", "(I)Z"⟩, ⟨"DearerByUseModel", "isOf", "(II)Z"⟩, ⟨"DearerByUseModel", "set", "(III)I"⟩, ⟨"DearerByUseModel", "sizeOf", "(I)I"⟩, ⟨"DearerByUseModel", "told", "(II)I"⟩, ⟨"DearerByUseModel", "word", "(II)I"⟩, ⟨"DearerByUseModel", "writer", "(III)I"⟩, ⟨"DearerByUseModel", "law", "(II)I"⟩, ⟨"DearerByUseModel", "rule", "(I)I"⟩, ⟨"DearerByUseModel", "steep", "(II)I"⟩, ⟨"DearerByUseModel", "costBy", "(II)I"⟩, ⟨"DearerByUseModel", "agedBy", "(I)I"⟩, ⟨"DearerByUseModel", "feed", "(I)I"⟩, ⟨"DearerByUseModel", "byteAt", "(I)I"⟩, ⟨"DearerByUseModel", "next", "()V"⟩, ⟨"DearerByUseModel", "fail", "()V"⟩, ⟨"DearerByUseModel", "isLetter", "(II)Z"⟩, ⟨"DearerByUseModel", "isWord", "(IIIIIIII)Z"⟩, ⟨"DearerByUseModel", "isSign", "(I)Z"⟩, ⟨"DearerByUseModel", "opens", "()Z"⟩, ⟨"DearerByUseModel", "name", "()I"⟩, ⟨"DearerByUseModel", "atom", "()I"⟩, ⟨"DearerByUseModel", "term", "()I"⟩, ⟨"DearerByUseModel", "added", "()I"⟩, ⟨"DearerByUseModel", "not", "()I"⟩, ⟨"DearerByUseModel", "both", "()I"⟩, ⟨"DearerByUseModel", "either", "()I"⟩, ⟨"DearerByUseModel", "part", "(Z)I"⟩, ⟨"DearerByUseModel", "read", "(II)I"⟩, ⟨"DearerByUseModel", "text", "()I"⟩, ⟨"DearerByUseModel", "force", "(I)I"⟩, ⟨"DearerByUseModel", "adds", "(III)I"⟩, ⟨"DearerByUseModel", "says", "(III)I"⟩, ⟨"DearerByUseModel", "keptRead", "(I)I"⟩, ⟨"DearerByUseModel", "takes", "()V"⟩, ⟨"DearerByUseModel", "writes", "(II)I"⟩, ⟨"DearerByUseModel", "costOf", "(II)I"⟩, ⟨"DearerByUseModel", "ages", "()V"⟩, ⟨"DearerByUseModel", "rowSum", "()I"⟩, ⟨"DearerByUseModel", "keeps", "()V"⟩, ⟨"DearerByUseModel", "costs", "(II)I"⟩, ⟨"DearerByUseModel", "write", "(II)I"⟩, ⟨"DearerByUseModel", "pass", "(I)I"⟩, ⟨"DearerByUseModel", "cheapest", "(III)I"⟩, ⟨"DearerByUseModel", "turnOf", "(I)V"⟩, ⟨"DearerByUseModel", "passesDay", "()V"⟩, ⟨"DearerByUseModel", "dayNow", "()V"⟩, ⟨"DearerByUseModel", "goodOf", "(I)I"⟩, ⟨"DearerByUseModel", "allGood", "()I"⟩, ⟨"DearerByUseModel", "saying", "()I"⟩, ⟨"DearerByUseModel", "day", "(II)I"⟩, ⟨"DearerByUseModel", "all", "(I)I"⟩, ⟨"DearerByUseModel", "seeks", "(I)V"⟩, ⟨"DearerByUseModel", "when", "(II)I"⟩, ⟨"DearerByUseModel", "choose", "(I)I"⟩, ⟨"DearerByUseModel", "rest", "()I"⟩, ⟨"DearerByUseModel", "orders", "(IIII)V"⟩, ⟨"DearerByUseModel", "turns", "(I)I"⟩, ⟨"DearerByUseModel", "burned", "(II)I"⟩, ⟨"DearerByUseModel", "burn", "(II)I"⟩, ⟨"DearerByUseModel", "worst", "(II)I"⟩, ⟨"DearerByUseModel", "best", "(I)I"⟩, ⟨"DearerByUseModel", "paidBad", "(I)I"⟩, ⟨"DearerByUseModel", "unlike", "(I)I"⟩, ⟨"DearerByUseModel", "judge", "(I)I"⟩, ⟨"DearerByUseModel", "fits", "(II)I"⟩, ⟨"DearerByUseModel", "whose", "(I)I"⟩, ⟨"DearerByUseModel", "draws", "(I)V"⟩, ⟨"DearerByUseModel", "drawn", "(I)I"⟩, ⟨"DearerByUseModel", "chance", "(III)J"⟩, ⟨"DearerByUseModel", "image", "()I"⟩, ⟨"DearerByUseModel", "back", "()I"⟩, ⟨"DearerByUseModel", "count", "(I)I"⟩, ⟨"DearerByUseModel", "isSheet", "(I)Z"⟩, ⟨"DearerByUseModel", "sheet", "(III)I"⟩, ⟨"DearerByUseModel", "cell", "(III)I"⟩, ⟨"DearerByUseModel", "copy", "(IIIII)I"⟩, ⟨"DearerByUseModel", "writers", "(IIII)I"⟩, ⟨"DearerByUseModel", "over", "(I)I"⟩, ⟨"DearerByUseModel", "taken", "(II)I"⟩, ⟨"DearerByUse$Day", "dawn", "()V"⟩, ⟨"DearerByUse$Day", "draw", "(I)V"⟩, ⟨"DearerByUse$Day", "live", "()V"⟩, ⟨"DearerByUse$Day", "liveTo", "(I)V"⟩, ⟨"DearerByUse$Day", "takeTurn", "(I)V"⟩, ⟨"DearerByUse$Day", "costOf", "(II)I"⟩, ⟨"DearerByUse$Day", "tryHours", "(I)V"⟩, ⟨"DearerByUse$Day", "goodIfBurned", "(II)I"⟩, ⟨"DearerByUse$Day", "allGood", "()I"⟩, ⟨"DearerByUse$Day", "allPaid", "()I"⟩, ⟨"DearerByUse$Day", "howManySaid", "()I"⟩, ⟨"DearerByUse$Day", "spread", "()I"⟩, ⟨"DearerByUse$Day", "firstUnlike", "([I)I"⟩, ⟨"DearerByUse$Image", "keepWriters", "(LDearerByUse$Writers;)V"⟩, ⟨"DearerByUse$Image", "restoreWriters", "(LDearerByUse$Writers;)V"⟩, ⟨"DearerByUse$Image", "keepLaws", "(LDearerByUse$Laws;)V"⟩, ⟨"DearerByUse$Image", "restoreLaws", "(LDearerByUse$Laws;)V"⟩, ⟨"DearerByUse$Laws", "add", "(II)I"⟩, ⟨"DearerByUse$Laws", "isUnder", "(II)Z"⟩, ⟨"DearerByUse$Laws", "price", "(III)I"⟩, ⟨"DearerByUse$Laws", "steep", "(II)I"⟩, ⟨"DearerByUse$Laws", "age", "(I[I)V"⟩, ⟨"DearerByUse$Laws", "aged", "(II)I"⟩, ⟨"DearerByUse$Reader", "append", "(I)Z"⟩, ⟨"DearerByUse$Reader", "load", "(Ljava/lang/String;)V"⟩, ⟨"DearerByUse$Reader", "read", "()I"⟩, ⟨"DearerByUse$Reader", "refuse", "()V"⟩, ⟨"DearerByUse$Reader", "expect", "(I)V"⟩, ⟨"DearerByUse$Reader", "emit", "(I)V"⟩, ⟨"DearerByUse$Reader", "readE", "(I)V"⟩, ⟨"DearerByUse$Reader", "readAnd", "(I)V"⟩, ⟨"DearerByUse$Reader", "readNot", "(I)V"⟩, ⟨"DearerByUse$Reader", "readCompared", "(I)V"⟩, ⟨"DearerByUse$Reader", "readSum", "(I)V"⟩, ⟨"DearerByUse$Reader", "readTerm", "(I)V"⟩, ⟨"DearerByUse$Reader", "readOne", "(I)V"⟩, ⟨"DearerByUse$Reader", "next", "()V"⟩, ⟨"DearerByUse$Reader", "nextWord", "()V"⟩, ⟨"DearerByUse$Reader", "nextNumber", "()V"⟩, ⟨"DearerByUse$Reader", "knownWord", "()I"⟩, ⟨"DearerByUse$Reader", "isBlank", "(I)Z"⟩, ⟨"DearerByUse$Reader", "isLetter", "(I)Z"⟩, ⟨"DearerByUse$Reader", "isDigit", "(I)Z"⟩, ⟨"DearerByUse$Sheets", "lay", "(III)V"⟩, ⟨"DearerByUse$Sheets", "put", "(III)V"⟩, ⟨"DearerByUse$Sheets", "hasRoom", "(III)Z"⟩, ⟨"DearerByUse$Texts", "add", "([I[I)I"⟩, ⟨"DearerByUse$Texts", "adds", "(III)I"⟩, ⟨"DearerByUse$Texts", "worth", "(IIII)I"⟩, ⟨"DearerByUse$Texts", "may", "(IIII)Z"⟩, ⟨"DearerByUse$Texts", "tell", "(IIIIII)V"⟩, ⟨"DearerByUse$Texts", "bounded", "(II)I"⟩, ⟨"DearerByUse$Texts", "valued", "(I)I"⟩, ⟨"DearerByUse$Words", "lengthOf", "(I)I"⟩, ⟨"DearerByUse$Words", "add", "(II)I"⟩, ⟨"DearerByUse$Words", "usedAhead", "(II[I)I"⟩, ⟨"DearerByUse$Words", "spend", "(I[I)V"⟩, ⟨"DearerByUse$Writers", "add", "(III)I"⟩, ⟨"java/lang/String", "length", "()I"⟩, ⟨"java/lang/String", "coder", "()B"⟩, ⟨"java/lang/String", "isLatin1", "()Z"⟩, ⟨"java/lang/String", "charAt", "(I)C"⟩, ⟨"java/lang/String", "checkIndex", "(II)V"⟩, ⟨"java/lang/String", "indexOf", "(I)I"⟩, ⟨"java/lang/String", "indexOf", "(II)I"⟩, ⟨"java/lang/StringLatin1", "charAt", "([BI)C"⟩, ⟨"java/lang/StringLatin1", "canEncode", "(I)Z"⟩, ⟨"java/lang/StringLatin1", "indexOf", "([BIII)I"⟩, ⟨"java/lang/StringLatin1", "indexOfChar", "([BIII)I"⟩, ⟨"jdk/internal/util/Preconditions", "checkIndex", "(IILjava/util/function/BiFunction;)I"⟩]
def pc_X_set : List Nat := [0, 1, 36, 37, 40, 42, 43, 44, 47, 50, 51, 52, 55, 58, 59, 62, 65, 66, 67, 68, 71, 72, 73, 76, 79, 80, 83, 86, 87, 88, 90, 93, 94, 95, 98, 101, 102, 105, 108, 109, 110, 113, 116, 117, 118, 121, 124, 125, 128, 131, 132, 133, 135, 138, 139, 141, 142]
def pc_X_told : List Nat := [0, 1, 48, 49, 52, 54, 55, 58, 59, 60, 63, 66, 67, 70, 73, 74, 77, 78, 79, 82, 85, 86, 89, 92, 93, 96, 97, 98, 101, 104, 105, 108, 111, 112, 115, 116, 117, 120, 123, 124, 127, 130, 131, 134, 135, 136, 139, 142, 143, 146, 149, 150, 153, 154, 155, 158, 161, 162, 165, 168, 169, 172, 173, 174, 177, 180, 181, 184, 187, 188, 191, 192, 194, 195]
def pc_X_word : List Nat := [0, 1, 2, 5, 8, 9, 12, 15, 17, 18, 19, 22, 23, 24, 27, 28]
def pc_X_writer : List Nat := [0, 1, 4, 5, 6, 7, 10, 11]
def pc_X_law : List Nat := [0, 1, 2, 5, 8, 9, 11, 14, 17, 19, 20, 21, 24, 25, 26, 29, 30]
def pc_X_rule : List Nat := [0, 1, 2, 5, 8, 9, 10, 13, 16, 18, 19, 20, 23, 26, 27, 28, 31, 32, 35, 36, 37]
def pc_X_feed : List Nat := [0, 1, 4, 7, 10, 12, 13, 14, 17, 18, 21, 24, 25, 28, 31, 34, 36, 37]
def pc_X_text : List Nat := [0, 1, 4, 7, 9, 12, 14, 15, 16, 19, 22, 23, 24, 25, 28, 30, 31, 32, 33, 34, 37, 38, 41, 44, 45, 48, 51, 54, 55]
def pc_X_force : List Nat := [0, 1, 2, 5, 8, 9, 10, 13, 16, 18, 19, 20, 23, 26, 27, 28, 31, 32, 35, 36, 37]
def pc_X_costs : List Nat := [0, 1, 2, 5, 8, 9, 10, 13, 16, 17, 19, 22, 25, 27, 28, 29, 32, 35, 36, 39, 40, 41, 44, 45]
def pc_X_write : List Nat := [0, 1, 2, 5, 8, 9, 10, 13, 16, 17, 19, 22, 25, 27, 28, 29, 32, 35, 36, 39, 40, 41, 44, 45, 46, 49, 50, 51, 54, 57, 58, 59]
def pc_X_pass : List Nat := [0, 1, 3, 6, 9, 11, 12, 13, 14, 15, 16, 19, 20, 23, 24, 27, 30, 31, 34, 37, 40, 43, 44, 47, 50, 51]
def pc_X_cheapest : List Nat := [0, 1, 2, 5, 8, 9, 11, 14, 17, 18, 19, 22, 25, 27, 28, 29, 31, 32, 34, 35, 38, 41, 42, 44, 46, 47, 50, 53, 56, 57, 60, 63, 65, 66, 67, 70, 73, 74, 77, 79, 80, 83, 85, 87, 88, 91, 93, 95, 98, 100, 102, 104, 106, 109, 112, 113, 116, 118, 121, 123, 124]
def pc_X_day : List Nat := [0, 1, 2, 5, 8, 9, 10, 13, 16, 17, 18, 21, 24, 26, 27, 28, 31, 34, 35, 38, 41, 42, 45, 46, 49, 52, 53, 54, 55, 56, 57, 60, 61, 64, 67, 68, 69, 72, 73, 76, 79, 80, 81, 82]
def pc_X_all : List Nat := [0, 1, 2, 5, 8, 10, 11, 12, 15, 18, 19, 22, 25, 26, 52, 53, 56, 59, 60, 61, 64, 67, 68, 69, 72, 75, 76, 77, 80, 83, 84]
def pc_X_when : List Nat := [0, 1, 2, 5, 8, 9, 10, 13, 16, 17, 18, 21, 24, 26, 27, 28, 31, 32, 35, 36, 39, 42, 45, 46, 47, 50, 51, 54, 55, 58, 61, 62, 63, 64]
def pc_X_choose : List Nat := [0, 1, 2, 5, 8, 9, 10, 13, 16, 18, 19, 20, 23, 24, 27, 28, 31, 34, 37, 38, 39, 42, 45, 46, 47, 48, 49, 52, 55, 56, 57, 58]
def pc_X_rest : List Nat := [0, 1, 2, 3, 4, 7, 10, 13, 14, 17, 18, 21, 22, 25, 28, 29, 32, 35, 38, 39, 40, 41, 42, 45, 48, 49, 52, 55, 56, 57, 58, 61, 62, 63, 66, 69, 70, 71]
def pc_X_turns : List Nat := [0, 1, 2, 5, 8, 10, 11, 12, 15, 18, 19, 22, 23, 24, 25, 26, 28, 29, 30, 31, 32, 33, 35, 36, 38, 40, 42, 45, 47, 48, 51, 54, 57, 58, 61, 64, 65, 67, 69, 70, 73, 74, 77, 80, 82, 83, 86, 89, 91, 93, 94, 97, 98, 99, 102, 105, 106, 109, 112, 113, 116, 119, 121, 122, 123, 126, 128, 130, 133, 135, 136, 138, 140, 143, 146, 147, 150, 152, 155, 156, 157, 160, 161]
def pc_X_burn : List Nat := [0, 1, 3, 6, 9, 10, 11, 12, 14, 17, 20, 22, 23, 24, 27, 28, 29, 32, 33, 36, 37, 38, 41, 42, 43]
def pc_X_worst : List Nat := [0, 1, 2, 3, 5, 8, 11, 12, 13, 16, 19, 21, 22, 23, 26, 27, 28, 31, 32, 33, 35, 36, 37, 40, 41, 42, 45, 46, 48, 49, 51, 53, 55, 58, 59, 60, 63, 65, 66, 69, 70, 72, 74, 76, 79, 81, 83, 85, 87, 90, 93, 94, 97, 99, 102, 104, 105]
def pc_X_best : List Nat := [0, 1, 2, 5, 8, 10, 11, 12, 13, 14, 15, 16, 18, 19, 21, 23, 24, 27, 30, 33, 34, 37, 40, 41, 44, 46, 49, 50, 53, 56, 57, 60, 63, 65, 66, 69, 72, 74, 75, 76, 79, 81, 82, 85, 87, 88, 91, 93, 95, 98, 100, 101, 103, 104, 106, 108, 111, 114, 115, 118, 119, 120, 121, 122, 125, 126, 129, 131, 132]
def pc_X_judge : List Nat := [0, 1, 2, 5, 6, 7, 10, 11, 12, 13, 16, 19, 20, 23, 26, 27, 30, 31, 34, 37, 38, 39, 42, 43]
def pc_X_fits : List Nat := [0, 1, 2, 5, 8, 9, 10, 13, 16, 17, 20, 23, 26, 28, 29, 30, 33, 36, 37, 40, 41, 44, 45, 46, 47, 49, 51, 52, 55, 58, 61, 62, 65, 68, 70, 71, 72, 75, 78, 79, 80, 83, 86, 87, 90, 92, 93, 96, 99, 100, 101, 104, 105, 108, 109, 110, 112, 113, 114, 115, 118, 121, 122, 123]
def pc_X_whose : List Nat := [0, 1, 2, 5, 6, 7, 10, 11, 12, 13, 14, 15, 17, 19, 20, 23, 26, 29, 30, 33, 36, 37, 40, 42, 45, 46, 49, 52, 53, 56, 57, 60, 63, 64, 65, 68, 69, 72, 73, 74, 76, 77, 78, 79, 82, 85, 86, 87]
def pc_X_drawn : List Nat := [0, 1, 4, 7, 8, 11, 12, 15, 16, 19, 22, 23, 26, 29, 30]
def pc_X_chance : List Nat := [0, 1, 2, 3, 5, 8, 11, 12, 13, 16, 19, 22, 23, 24, 26, 27, 29, 31, 32, 35, 36, 39, 42, 43, 46, 47, 49, 50, 53, 54, 57, 60, 61, 64, 67, 68, 71, 74, 77, 80, 83, 86, 88, 89, 92, 94, 95, 98, 100, 102, 103, 104, 107, 108, 110, 111, 112, 113]
def pc_X_image : List Nat := [0, 1, 4, 5, 6, 9, 12, 13, 15, 18, 19, 22, 23, 26, 29, 30, 33, 34, 37, 40, 41, 44, 45, 48, 51, 54, 55, 58, 59, 62, 65, 68, 69, 72, 73, 76, 77, 80, 83, 84]
def pc_X_back : List Nat := [0, 1, 4, 7, 10, 12, 13, 14, 17, 20, 21, 22, 25, 26, 28, 31, 32, 35, 36, 39, 42, 43, 46, 47, 50, 53, 54, 57, 58, 61, 64, 67, 68, 71, 72, 75, 78, 81, 82, 85, 88, 89]
def pc_X_count : List Nat := [0, 1, 48, 49, 52, 55, 56, 57, 60, 63, 64, 65, 68, 71, 72, 73, 76, 79, 80, 81, 84, 87, 88, 89, 92, 95, 96, 97, 100, 103, 104, 105, 108, 111, 112, 114, 115]
def pc_X_sheet : List Nat := [0, 1, 2, 5, 8, 9, 10, 11, 12, 15, 18, 20, 21, 22, 23, 26, 27, 30, 33, 34, 35, 36, 37, 38, 39, 41, 44, 46, 47, 48, 51, 53, 54, 55, 58, 59, 60, 61, 64, 65, 66]
def pc_X_cell : List Nat := [0, 1, 2, 5, 8, 10, 11, 12, 15, 18, 19, 20, 21, 24, 26, 27, 28, 29, 32, 35, 36, 37, 38, 39, 42, 45, 47, 48, 49, 52, 53, 54, 55, 58, 59, 60]
def pc_X_copy : List Nat := [0, 1, 2, 5, 8, 9, 10, 13, 16, 18, 19, 20, 23, 26, 27, 28, 29, 32, 33, 36, 39, 40, 41, 42, 45, 47, 48, 49, 52, 55, 56, 57, 58, 61, 64, 65, 66, 69, 71, 72, 73, 76, 77, 78, 80, 83, 86, 87, 90, 91, 93, 95, 98, 101, 103, 104, 105, 108, 111, 112, 113, 114, 115, 118, 121, 122, 123, 125, 127, 130, 132, 133]
def pc_X_writers : List Nat := [0, 1, 2, 5, 8, 9, 10, 13, 16, 18, 19, 22, 25, 27, 28, 29, 32, 35, 36, 37, 38, 41, 43, 44, 45, 48, 51, 52, 53, 54, 57, 59, 60, 61, 64, 67, 68, 69, 71, 72, 74, 75, 77, 78, 80, 82, 84, 87, 88, 91, 92, 94, 95, 98, 101, 103, 104, 105, 108, 110, 112, 113, 115, 117, 118, 119, 120, 122, 124, 125, 126, 127, 130, 133, 136, 139, 142, 145, 147, 148]
def pc_X_taken : List Nat := [0, 1, 2, 5, 8, 10, 11, 12, 13, 16, 19, 20, 21, 24, 27, 29, 30, 31, 34, 35, 36, 39, 42, 43, 46, 49, 50, 51, 54, 56, 57]
def pc_X_within : List Nat := [0, 1, 4, 5, 6, 9, 10, 13, 14, 15]
def pc_X_put : List Nat := [0, 1, 2, 3, 4, 7, 10, 11, 13, 16, 19, 21, 22, 23, 24, 25, 27, 28, 29, 30, 31, 33, 34]
def pc_X_item : List Nat := [0, 1, 2, 3, 4, 7, 10, 11, 12, 13, 16, 18, 19]
def pc_X_sum : List Nat := [0, 1, 2, 3, 4, 5, 6, 7, 8, 10, 12, 13, 16, 17, 19, 20, 22, 23, 25, 26, 27, 30, 33, 34, 35]
def pc_X_firstMost : List Nat := [0, 1, 2, 3, 4, 5, 6, 7, 10, 11, 12, 13, 14, 15, 16, 19, 20, 21, 24, 27, 28, 29]
def pc_X_whoseHour : List Nat := [0, 1, 2, 3, 4, 5, 6, 7, 8, 9, 10, 11, 12]
def pc_X_isTurn : List Nat := [0, 1, 2, 3, 4, 5, 6, 9, 10, 11, 12, 13, 14, 17, 18, 19, 20, 23, 26, 27, 28, 29, 30, 31, 32, 35, 36, 39, 40, 41]
def pc_X_digits : List Nat := [0, 1, 2, 3, 4, 5, 6, 9, 10, 12, 13, 14, 15, 16, 19, 20, 21, 24, 27, 28, 29]
def pc_X_commonDivisor : List Nat := [0, 1, 2, 3, 4, 7, 8, 9, 10, 13, 14, 15, 16, 19, 20, 21, 24, 27, 28, 29]
def pc_X_refusalToJudge : List Nat := [0, 1, 2, 5, 8, 10, 11, 12, 15, 18, 19, 20, 21, 24, 26, 27, 28, 31, 34, 35, 36, 37, 40, 43, 46, 47, 50, 52, 53]
def pc_M_in : List Nat := [0, 1, 2, 3, 6, 7, 9, 10, 13, 14, 17, 18, 19]
def pc_M_within : List Nat := [0, 1, 2, 5, 6, 9, 10, 11, 14, 15, 18, 19, 20]
def pc_M_spell : List Nat := [0, 1, 4, 5, 6, 7, 8, 11, 12, 13, 14, 15, 16, 17, 20, 21, 22, 23, 25, 26, 27, 30, 31, 32, 33, 35, 36, 37, 40, 41, 42, 43, 45, 46, 47, 50, 51, 52, 53, 55, 56, 57, 60, 61, 63, 64, 66, 67, 68, 71, 72, 74, 75, 77, 78, 79]
def pc_M_isWordNumber : List Nat := [0, 1, 2, 3, 4, 7, 8, 9, 10, 13, 14]
def pc_M_isWriter : List Nat := [0, 1, 2, 3, 4, 7, 8, 9, 10, 13, 14]
def pc_M_isLaw : List Nat := [0, 1, 2, 3, 4, 7, 8, 9, 10, 13, 14]
def pc_M_isOf : List Nat := [0, 1, 4, 5, 6, 7, 10, 13, 16, 17, 18, 21, 22, 23, 26, 29, 30, 32, 35, 36, 37, 40, 43, 44, 45, 48, 49]
def pc_M_set : List Nat := [0, 1, 2, 3, 6, 9, 12, 13, 14, 15, 18, 21, 22, 23, 24, 25, 28, 31, 34, 35, 36, 39, 42, 45, 46, 47, 50, 53, 56, 57, 58, 61, 64, 67, 70, 73, 76, 78, 79, 80, 81, 82, 85, 87, 88, 91, 92, 95, 96, 97, 98, 101, 102, 103, 106, 107, 110, 111, 112, 113, 116, 117, 118, 121, 122, 125, 126, 127, 128, 131, 132, 133, 136, 137, 140, 141, 142, 143, 146, 147, 150, 151, 152, 153, 155, 156]
def pc_M_sizeOf : List Nat := [0, 1, 2, 3, 4, 5, 8, 11, 12, 14, 15, 16, 19, 20, 21]
def pc_M_told : List Nat := [0, 1, 2, 3, 6, 9, 12, 13, 14, 15, 18, 21, 23, 24, 25, 26, 29, 30, 33, 34, 37, 38, 39, 42, 43, 44, 47, 48, 51, 52, 53, 56, 57, 58, 61, 62, 65, 66, 67, 70, 71, 74, 75, 76, 77, 78, 80, 83, 84, 85, 88, 89, 92, 93, 94, 97, 98, 101, 102, 103, 104, 105, 107, 110, 111, 114, 115, 116, 119, 120, 123, 124, 125, 128, 129]
def pc_M_word : List Nat := [0, 1, 2, 3, 6, 9, 12, 13, 14, 15, 18, 21, 24, 26, 27, 28, 29, 30, 33, 34, 36, 37, 38, 39, 42, 45, 48, 50, 51, 52, 54, 55, 56, 59, 60, 63, 65, 68, 70, 71, 72, 75, 76, 79, 80, 81, 82, 85, 86, 89, 90, 91, 92, 93, 96, 97, 98, 101, 102, 105, 106, 107, 108]
def pc_M_writer : List Nat := [0, 1, 2, 3, 6, 9, 12, 13, 14, 15, 18, 21, 24, 25, 26, 27, 30, 33, 36, 38, 39, 40, 43, 44, 47, 49, 50, 51, 54, 55, 58, 59, 60, 61, 64, 65, 68, 69, 70, 71, 74, 75, 78, 79, 80, 81, 82, 85, 86, 87, 90, 91, 94, 95, 96, 97]
def pc_M_law : List Nat := [0, 1, 2, 3, 6, 9, 12, 13, 14, 15, 18, 21, 24, 26, 27, 28, 31, 33, 36, 38, 39, 40, 43, 44, 47, 48, 49, 50, 53, 54, 57, 58, 59, 60, 61, 64, 65, 66, 69, 70, 73, 74, 75, 76]
def pc_M_rule : List Nat := [0, 1, 2, 5, 8, 10, 11, 12, 15, 16, 17, 18, 21, 22, 23]
def pc_M_steep : List Nat := [0, 1, 2, 3, 4, 5, 6, 7, 8, 9, 10]
def pc_M_costBy : List Nat := [0, 1, 4, 5, 8, 9, 10, 11, 14, 15, 18, 19, 21, 22, 25, 26, 28, 29, 30, 31, 32, 35, 36, 37, 40, 41, 42, 45, 46, 48, 51, 52, 55, 56, 58, 59, 60, 61, 62, 63, 64, 67, 68, 69, 70, 71, 72, 74, 77, 80, 81, 83, 86, 87, 88, 91, 92, 95, 96, 99, 100, 101, 102]
def pc_M_agedBy : List Nat := [0, 1, 4, 5, 8, 9, 10, 11, 14, 15, 18, 19, 20, 21, 22, 25, 26, 27, 30, 31, 32, 33, 36, 37, 38, 41, 42, 43, 44, 47, 48, 49, 52, 53, 54, 57, 58, 61, 62, 64, 66, 69, 70, 73, 75, 76]
def pc_M_feed : List Nat := [0, 1, 2, 3, 6, 9, 12, 14, 15, 16, 19, 22, 25, 27, 28, 29, 32, 33, 36, 37, 38, 39, 40, 43, 44, 45, 48, 49, 52, 53]
def pc_M_byteAt : List Nat := [0, 1, 2, 5, 8, 9, 12, 13, 16, 17, 18, 19, 22, 23, 24]
def pc_M_next : List Nat := [0, 1, 2, 5, 8, 10, 13, 14, 15, 18, 21, 23, 26, 27, 28, 31, 32, 33, 36, 39, 40, 41, 44, 47, 48, 49, 52, 55, 56, 57, 58, 61, 62, 65, 66, 67, 70, 71, 72, 75, 78, 81, 82, 83, 86, 89, 92, 95, 96, 97, 100, 101, 102, 105, 108, 109, 112, 115, 118, 121, 122, 123, 126, 127, 128, 131, 134, 135, 136, 139, 142, 145, 148, 149, 150, 153, 154, 155, 158, 159, 160, 161, 162, 165, 168, 169, 172, 175, 178, 181, 182, 183, 184, 187, 190, 191, 194, 195, 196, 197, 200, 203, 204, 205, 208, 209, 212, 213, 216, 219, 222, 223, 224, 227, 228, 229, 232, 235, 236, 237, 238, 241, 242, 245, 246, 249, 252, 253, 255, 258, 259, 261, 264, 265, 267, 270, 271, 273, 276, 277, 279, 282, 283, 285, 288, 289, 291, 294, 295, 297, 300, 301, 302, 305, 306, 307, 308, 311, 312, 313, 316, 317, 318, 321, 322]
def pc_M_fail : List Nat := [0, 1, 4, 7, 8, 9, 12, 13, 14, 17, 20, 21]
def pc_M_isLetter : List Nat := [0, 1, 4, 5, 6, 7, 10, 13, 14, 15, 18, 19, 20, 23, 24, 27, 28, 31, 32, 35, 36, 39, 40, 43, 44, 45]
def pc_M_isWord : List Nat := [0, 1, 4, 7, 8, 11, 12, 15, 16, 19, 20, 23, 25, 26, 29, 30, 31, 32, 35, 38, 39, 40, 41, 44, 47, 48, 49, 50, 53, 56, 57, 58, 60, 63, 66, 67, 68, 70, 73, 76, 77, 78, 80, 83, 86, 87, 89, 91, 94, 97, 98, 100, 102, 105, 108, 109, 112, 113, 114]
def pc_M_isSign : List Nat := [0, 1, 4, 7, 8, 11, 12, 15, 16, 19, 20, 21, 22, 25, 26, 29, 30, 31]
def pc_M_opens : List Nat := [0, 1, 4, 5, 8, 9, 12, 13, 14, 15, 16, 19, 20, 21, 24, 25, 28, 29, 30]
def pc_M_name : List Nat := [0, 1, 3, 5, 7, 9, 10, 11, 12, 13, 16, 19, 20, 23, 24, 25, 27, 29, 31, 33, 34, 35, 36, 37, 40, 43, 44, 47, 48, 49, 51, 53, 55, 57, 59, 61, 62, 63, 66, 69, 70, 73, 74, 75, 77, 79, 81, 83, 85, 87, 88, 89, 92, 95, 96, 99, 100, 101, 103, 105, 107, 109, 111, 112, 113, 114, 117, 120, 121, 124, 125, 126, 128, 130, 132, 134, 135, 136, 137, 138, 141, 144, 145, 148, 149, 150, 153, 154, 155]
def pc_M_atom : List Nat := [0, 1, 2, 3, 5, 8, 11, 12, 15, 18, 19, 22, 23, 24, 25, 26, 29, 30, 31, 34, 37, 38, 40, 43, 46, 47, 50, 53, 54, 57, 58, 59, 61, 64, 67, 68, 71, 72, 73, 76, 77, 78, 81, 82, 85, 88, 89, 92, 95, 96, 99, 102, 103, 106, 107, 110, 111, 114, 115, 116, 117, 120, 123, 124, 127, 130, 131, 134, 135, 138, 139, 142, 143, 144, 147, 150, 151, 154, 157, 158, 161, 162, 163]
def pc_M_term : List Nat := [0, 1, 4, 5, 6, 8, 11, 14, 15, 18, 19, 20, 23, 24, 25, 28, 29, 30]
def pc_M_added : List Nat := [0, 1, 4, 5, 6, 8, 11, 14, 15, 17, 20, 23, 24, 27, 30, 31, 34, 35, 38, 39, 40, 41, 44, 45, 48, 49, 50, 53, 54, 55, 56, 59, 60, 61, 62, 63, 66, 67, 68]
def pc_M_not : List Nat := [0, 1, 3, 5, 7, 8, 9, 10, 11, 12, 15, 18, 19, 22, 25, 26, 27, 28, 31, 32, 33, 34, 37, 38, 39, 42, 43, 46, 47, 50, 51, 52, 53, 56, 57, 58, 60, 63, 66, 67, 69, 72, 75, 76, 77, 78, 81, 84, 85, 88, 89, 92, 93, 94, 95, 98, 99, 102, 103, 104, 107, 108, 109, 112, 115, 116, 117, 120, 121, 124, 125, 126]
def pc_M_both : List Nat := [0, 1, 4, 5, 6, 8, 10, 12, 13, 14, 15, 16, 17, 20, 23, 24, 27, 28, 31, 32, 33, 36, 37, 40, 41, 44, 45, 46, 49, 50, 51]
def pc_M_either : List Nat := [0, 1, 4, 5, 6, 8, 10, 11, 12, 13, 14, 15, 16, 19, 22, 23, 26, 27, 30, 31, 32, 35, 36, 39, 40, 43, 44, 45, 48, 49, 50]
def pc_M_part : List Nat := [0, 1, 4, 5, 8, 9, 12, 15, 16, 19, 20, 23, 26, 27, 30, 31, 34, 35, 36, 38, 41, 44, 45, 48, 49, 52, 55, 56, 59, 60, 61]
def pc_M_read : List Nat := [0, 1, 4, 5, 6, 9, 10, 11, 14, 15, 16, 19, 20, 21, 24, 25, 26, 29, 30, 31, 34, 35, 38, 39, 40, 42, 44, 46, 48, 49, 50, 51, 52, 55, 58, 59, 60, 63, 66, 67, 70, 71, 72, 74, 76, 78, 80, 82, 83, 84, 85, 88, 91, 93, 94, 97, 100, 101, 104, 105, 106, 108, 110, 112, 113, 114, 115, 116, 117, 120, 123, 125, 126, 129, 132, 133, 136, 139, 140, 143, 144, 147, 148, 151, 152, 153, 156, 158, 161, 163, 164]
def pc_M_text : List Nat := [0, 1, 4, 6, 9, 11, 12, 13, 14, 15, 16, 19, 22, 23, 26, 29, 30, 33, 34, 35, 36, 37, 40, 41, 42, 43, 46, 49, 50, 53, 54, 57, 58, 61, 62, 63, 64, 67, 68, 69, 72, 73, 76, 77, 78, 81, 84, 86, 87, 90, 91, 92, 93, 94, 97, 98, 99, 102, 103, 106, 107, 108, 109]
def pc_M_force : List Nat := [0, 1, 2, 3, 4, 7, 8, 9, 10, 13, 16, 18, 19, 20, 23, 24, 25, 26, 29, 30, 31]
def pc_M_adds : List Nat := [0, 1, 2, 5, 6, 7, 10, 11, 12, 15, 16, 17, 20, 21, 22, 25, 26, 27, 30, 31, 32, 35, 36, 38, 41, 42]
def pc_M_says : List Nat := [0, 1, 2, 5, 6, 7, 10, 11, 12, 15, 16, 17, 20, 21, 22, 25, 26, 27, 30, 33, 34, 35, 38, 39, 40, 43, 44, 45, 48, 51, 52, 53, 56, 57]
def pc_M_keptRead : List Nat := [0, 1, 4, 5, 8, 9, 10, 11, 12, 13, 14, 17, 18, 19, 22, 23, 24, 25, 26, 29, 30, 31, 34, 35, 36, 37, 38, 41, 42, 43, 46, 47, 48, 49, 50, 53, 54, 55, 58, 59, 60, 61, 62, 65, 66, 67, 70, 71, 72, 73, 74, 77, 78, 79, 82, 83, 84, 85, 86, 87, 88, 91, 92, 94, 95, 96, 98, 99, 102, 104, 105, 106, 107, 110, 111, 114, 116, 117, 118, 121, 122, 125, 126, 127, 130, 132, 133, 134, 135, 138, 140, 141, 142]
def pc_M_takes : List Nat := [0, 1, 2, 3, 5, 8, 9, 12, 13, 14, 17, 18, 19, 20, 23, 26, 27]
def pc_M_writes : List Nat := [0, 1, 2, 3, 5, 7, 8, 11, 12, 13, 16, 19, 20, 22, 23, 24, 27, 30, 31, 33, 34, 36, 38, 41, 42, 45, 46, 47, 49, 50, 52, 53, 54, 55, 57, 59, 60, 61, 64, 66, 67, 68, 71, 72, 73, 76, 78, 79, 80, 82, 85, 86, 87, 89, 90, 93, 95, 96, 99, 101, 102, 105, 108, 109, 112, 114, 115, 116, 117, 120, 123, 124, 126, 128, 129, 131, 134, 136, 137]
def pc_M_costOf : List Nat := [0, 1, 2, 3, 5, 8, 9, 12, 13, 14, 17, 18, 19, 20, 23, 26, 27, 28, 29, 32, 33, 34, 36, 38, 40, 43, 44, 47, 49, 50, 53, 55, 56, 57, 60, 63, 64, 65]
def pc_M_ages : List Nat := [0, 1, 2, 3, 5, 8, 9, 12, 13, 14, 15, 18, 19, 20, 23, 24, 27, 30, 31]
def pc_M_rowSum : List Nat := [0, 1, 2, 3, 4, 5, 7, 10, 11, 12, 15, 16, 17, 18, 19, 22, 25, 26, 27]
def pc_M_keeps : List Nat := [0, 1, 2, 3, 5, 8, 9, 12, 13, 14, 17, 18, 19, 20, 23, 26, 27]
def pc_M_costs : List Nat := [0, 1, 2, 5, 8, 9, 10, 11, 14, 17, 20, 22, 23, 24, 27, 28, 29, 30, 33, 34]
def pc_M_write : List Nat := [0, 1, 2, 5, 8, 9, 10, 11, 14, 17, 20, 22, 23, 24, 27, 28, 29, 30, 33, 34, 35, 38, 39, 40]
def pc_M_pass : List Nat := [0, 1, 2, 3, 6, 9, 12, 14, 15, 16, 19, 20, 21, 22, 23, 26, 27, 30, 33, 36, 37, 40, 41, 44, 45]
def pc_M_cheapest : List Nat := [0, 1, 2, 3, 6, 9, 12, 13, 14, 15, 18, 21, 24, 25, 26, 27, 28, 31, 34, 36, 37, 38, 41, 42, 44, 45, 47, 48, 50, 52, 53, 56, 59, 60, 63, 65, 66, 67, 70, 71, 73, 74, 77, 79, 81, 82, 85, 87, 89, 92, 94, 96, 98, 100, 103, 106, 108, 109, 112, 113, 116, 118, 121, 123, 124]
def pc_M_turnOf : List Nat := [0, 1, 4, 5, 6, 7, 8, 11, 12, 13, 14, 15, 16, 17, 18, 21, 24, 25, 28, 29, 30, 31, 34, 35, 36, 39, 40, 41, 42, 45, 46, 47, 50, 51, 52, 53, 56, 59, 60, 61, 64, 67, 68, 69, 72, 73, 74, 75, 76, 79, 80, 81, 84, 85, 86, 89, 90, 93, 94, 95, 96, 99, 100, 101, 104, 105, 106, 109, 110, 111, 112, 113, 116, 119, 120, 123, 124, 125, 126, 127, 130, 131, 132, 133, 136, 139, 140, 143, 144, 145, 146, 149, 150, 151, 154, 155, 156, 157, 160, 161, 162, 165, 166, 167]
def pc_M_passesDay : List Nat := [0, 1, 2, 3, 5, 8, 9, 10, 11, 12, 15, 18, 19, 22, 23, 24, 25, 28, 29, 30, 33, 36, 39, 40, 43, 46, 49, 50]
def pc_M_dayNow : List Nat := [0, 1, 4, 5, 8, 9]
def pc_M_goodOf : List Nat := [0, 1, 4, 5, 6, 7, 10, 11, 14, 15, 16, 17, 18, 21, 22, 23, 26, 27, 30, 33, 34, 37, 38, 39, 40, 41]
def pc_M_allGood : List Nat := [0, 1, 2, 3, 4, 5, 6, 9, 12, 13, 14, 15, 18, 19, 20, 23, 26, 27, 28]
def pc_M_saying : List Nat := [0, 1, 2, 3, 4, 5, 6, 9, 12, 13, 14, 17, 18, 19, 20, 23, 24, 27, 28, 29, 30, 33, 36, 37, 38]
def pc_M_day : List Nat := [0, 1, 2, 5, 8, 9, 10, 11, 14, 17, 20, 23, 24, 25, 28, 29, 32, 33, 36, 37, 38, 41, 42, 43, 46, 47, 50, 51, 52, 55, 56, 57, 60, 61]
def pc_M_all : List Nat := [0, 1, 2, 3, 6, 9, 12, 15, 16, 17, 20, 21, 22, 25, 26, 29, 30, 33, 36, 37, 40, 41, 42, 43, 46, 47, 48, 49, 50, 51, 52, 55, 58, 59, 60, 63, 64, 65, 66, 67, 70, 73, 74, 75, 76, 79, 80, 81, 82, 83, 86, 87, 88, 89, 90, 92, 94, 96, 99, 100, 103, 105, 106, 107, 110, 111, 114, 116, 117, 120, 121, 122, 123, 126, 128, 129, 130, 133, 134, 137, 139, 140, 143, 144, 145, 148, 151, 152, 153, 154, 155]
def pc_M_seeks : List Nat := [0, 1, 4, 5, 6, 7, 8, 9, 10, 12, 15, 16, 19, 20, 21, 22, 23, 26, 27, 28, 31, 33, 34, 37, 39, 40, 43, 46, 47, 48, 51, 52, 54, 57, 60, 63, 64, 67, 68, 69, 70, 71]
def pc_M_when : List Nat := [0, 1, 2, 5, 8, 9, 10, 11, 12, 15, 18, 21, 22, 23, 24, 27, 28, 31, 32, 35, 38, 39, 42, 43]
def pc_M_choose : List Nat := [0, 1, 2, 5, 8, 11, 12, 13, 14, 17, 18, 21, 22, 23, 26, 27, 28, 31, 32]
def pc_M_rest : List Nat := [0, 1, 2, 3, 4, 7, 10, 11, 14, 15, 16, 19, 20, 21, 22, 25, 26, 29, 30, 33, 34, 35, 38, 41, 42, 43]
def pc_M_orders : List Nat := [0, 1, 2, 5, 6, 9, 10, 13, 15, 16, 19, 20, 23, 25, 26, 29, 32, 33, 35, 38, 39, 41, 44, 45, 46, 48, 50, 51, 54, 55, 57, 58, 59, 60, 63, 64, 67, 68, 69, 72, 74, 75, 76, 77, 78, 79, 80, 81, 82, 83, 85, 86, 87, 89, 91, 92, 94, 95, 98, 101, 104, 105, 108, 109, 110, 113, 114, 115, 116, 117]
def pc_M_turns : List Nat := [0, 1, 2, 3, 4, 7, 10, 13, 14, 15, 16, 17, 18, 21, 22, 25, 26, 27, 30, 31, 32, 33, 36, 39, 40, 41, 44, 45, 46, 49, 50, 51, 52, 55, 56, 59, 60, 63, 66, 67, 68, 69, 72, 73, 76, 77, 80, 83, 84, 87, 88]
def pc_M_burned : List Nat := [0, 1, 4, 5, 8, 9, 10, 13, 14, 17, 18, 19, 22, 23, 24, 25, 26, 29, 32, 33, 36, 37, 38, 39, 40, 43, 46, 47, 48, 51, 52, 53, 56, 57, 58]
def pc_M_burn : List Nat := [0, 1, 2, 3, 6, 9, 12, 13, 14, 15, 18, 21, 24, 25, 26, 27, 30, 33, 36, 37]
def pc_M_worst : List Nat := [0, 1, 2, 3, 6, 9, 12, 13, 14, 15, 16, 19, 22, 25, 26, 27, 28, 29, 31, 32, 34, 36, 38, 41, 42, 44, 45, 48, 50, 52, 55, 57, 59, 62, 64, 65, 67, 69, 72, 75, 76, 79, 80, 83, 85, 86]
def pc_M_best : List Nat := [0, 1, 2, 3, 6, 9, 12, 15, 16, 17, 20, 21, 22, 23, 24, 26, 27, 29, 30, 31, 34, 35, 38, 39, 42, 45, 46, 49, 50, 53, 55, 56, 59, 61, 62, 63, 66, 68, 70, 73, 75, 77, 80, 82, 84, 87, 88, 91, 92, 94, 96, 98, 100, 101, 102, 105, 106, 107, 110, 113, 114, 115, 118, 119, 122, 123, 126, 127, 128, 131, 133, 136, 138, 139]
def pc_M_paidBad : List Nat := [0, 1, 4, 7, 9, 10, 11, 14, 15, 16, 19, 21, 22, 23, 26, 27, 28, 29, 32, 35, 36, 39, 41, 42]
def pc_M_unlike : List Nat := [0, 1, 4, 5, 6, 7, 8, 11, 14, 15, 18, 19, 20, 21, 24, 25, 28, 29, 32, 33, 34, 35, 38, 40, 41, 42, 43, 44, 45, 48, 49, 50, 53, 56, 57, 58]
def pc_M_judge : List Nat := [0, 1, 2, 5, 6, 7, 10, 11, 14, 15, 16, 19, 20]
def pc_M_fits : List Nat := [0, 1, 2, 5, 8, 9, 10, 11, 14, 17, 20, 22, 23, 24, 25, 28, 29, 30, 33, 34, 35, 38, 39, 42, 43, 44, 47, 48, 51, 52]
def pc_M_whose : List Nat := [0, 1, 2, 5, 6, 7, 10, 11, 12, 13, 16, 17, 18, 20, 21, 22, 25, 26, 29, 30, 33, 36, 38, 39, 40, 43, 44, 47, 48, 51, 52, 53, 56, 57, 58, 60, 61, 62, 65, 66, 67, 70, 73, 74, 75, 78, 80, 81]
def pc_M_draws : List Nat := [0, 1, 2, 3, 4, 5, 7, 10, 11, 14, 15, 18, 19, 20, 21, 24, 25, 26, 28, 29, 31, 32, 33, 36, 39, 40, 43, 44]
def pc_M_drawn : List Nat := [0, 1, 2, 5, 6, 9, 10]
def pc_M_chance : List Nat := [0, 1, 2, 3, 6, 9, 12, 13, 14, 15, 16, 19, 22, 25, 26, 27, 29, 30, 32, 34, 35, 38, 39, 40, 42, 43, 46, 48, 49, 52, 53, 56, 59, 60, 63, 64, 65, 67, 70, 73, 75, 77, 78, 79, 81, 83, 84, 85, 88, 90, 92, 93, 95, 97, 99, 101, 103, 106, 107, 110, 112, 114, 115, 118, 119, 120, 122, 123, 124]
def pc_M_image : List Nat := [0, 1, 2, 3, 5, 8, 9, 12, 13, 14, 17, 18, 19, 20, 23, 26, 27, 28, 29, 30, 33, 34, 37, 38, 39, 42, 43, 44, 45, 46, 49, 50, 51, 52, 53, 56, 57, 58, 59, 60, 63, 65, 66, 67, 68, 71, 72, 73, 74, 77, 80, 81, 82, 83, 85, 88, 89, 92, 93, 94, 97, 98, 99, 100, 103, 106, 107, 108, 111, 114, 115, 116, 119, 122, 123, 124, 127, 130, 131, 132, 135, 138, 139, 140, 143, 146, 147, 150, 151]
def pc_M_back : List Nat := [0, 1, 4, 5, 8, 10, 11, 12, 13, 14, 16, 19, 20, 23, 24, 25, 28, 29, 30, 31, 34, 37, 38, 39, 40, 41, 44, 45, 48, 49, 50, 53, 54, 55, 56, 57, 60, 61, 62, 65, 66, 67, 68, 69, 70, 71, 74, 75, 76, 79, 81, 82, 83, 84, 85, 88, 91, 92, 93, 94, 96, 99, 100, 103, 104, 105, 108, 109, 110, 111, 114, 117, 118, 119, 122, 125, 126, 127, 130, 133, 134, 135, 138, 141, 142, 143, 146, 149, 150, 151, 154, 157, 158, 161, 162]
def pc_M_count : List Nat := [0, 1, 2, 3, 6, 9, 12, 14, 15, 16, 17, 20, 21, 24, 25, 28, 31, 32, 33, 36, 37, 40, 43, 44, 45, 48, 49, 52, 55, 56, 59, 60, 61, 63, 66, 67, 68, 71, 72, 75, 78, 79, 80, 83, 84, 87, 90, 91, 94, 95, 96, 99, 100, 103, 104]
def pc_M_isSheet : List Nat := [0, 1, 2, 3, 6, 9, 10]
def pc_M_sheet : List Nat := [0, 1, 4, 7, 8, 9, 12, 15, 18, 21, 22, 25, 26, 28, 31, 33, 34, 35, 38, 39, 42, 44, 45, 46, 49, 50, 51, 54, 55, 58, 59, 60, 61, 64, 65, 66, 67, 68, 71, 72, 73, 74, 75, 77, 79, 80, 83, 84, 87, 88, 91, 93, 94, 95, 97, 98, 99, 100, 103, 106, 107, 108]
def pc_M_cell : List Nat := [0, 1, 4, 7, 9, 10, 11, 14, 15, 16, 19, 21, 22, 23, 24, 25, 26, 29, 30, 31, 32, 33, 34, 37, 40, 42, 43, 44, 47, 49, 50, 51, 52, 53, 54, 57, 58, 59, 62, 63, 64, 67, 68, 71, 72, 73, 74, 77, 78, 79, 82, 83, 84, 85, 86]
def pc_M_copy : List Nat := [0, 1, 4, 7, 8, 11, 14, 16, 17, 18, 21, 22, 23, 26, 27, 30, 31, 32, 35, 37, 38, 39, 42, 43, 44, 45, 48, 49, 50, 53, 55, 56, 58, 61, 62, 65, 67, 70, 71, 72, 75, 76, 77, 79, 80, 83, 85, 86, 89, 90, 91, 93, 94, 97, 99, 100, 101, 102, 105, 106, 108, 111, 112, 115, 116, 118, 119, 121, 123, 125, 128, 130, 133, 135, 136, 137, 139, 140, 143, 145, 147, 148, 151, 153, 154, 155, 157, 158, 160, 161, 162, 165, 167, 168, 169, 170, 171, 173, 174, 175, 176, 179, 182, 184, 185]
def pc_M_writers : List Nat := [0, 1, 4, 7, 8, 9, 10, 13, 16, 19, 21, 22, 23, 26, 29, 32, 34, 35, 36, 39, 40, 41, 44, 45, 48, 49, 50, 51, 54, 56, 57, 58, 61, 62, 63, 66, 68, 69, 70, 72, 73, 75, 77, 79, 82, 83, 86, 87, 88, 91, 92, 93, 94, 96, 97, 98, 99, 100, 103, 105, 106, 108, 109, 110, 111, 112, 113, 115, 116, 117, 119, 121, 122, 123, 126, 128, 129, 130, 133, 135, 136, 137, 138, 139, 142, 144, 145, 146, 147, 150, 153, 154, 157, 158, 159, 161, 164, 167, 169, 170]
def pc_M_over : List Nat := [0, 1, 4, 5, 8, 9, 10, 13, 14, 17, 18, 19, 22, 23, 24, 27, 28, 31, 32, 33]
def pc_M_taken : List Nat := [0, 1, 2, 3, 6, 9, 12, 14, 15, 16, 17, 20, 23, 25, 26, 27, 30, 31, 32, 33, 34, 35, 38, 39, 40, 43, 44, 47, 48, 51, 52, 53, 56, 57, 60, 61, 62, 65, 67, 68]
def pc_Day_dawn : List Nat := [0, 1, 4, 5, 6, 9, 10, 12, 15, 16, 19, 22, 23, 24, 27, 28, 29, 32, 33, 34, 37, 40, 43, 44]
def pc_Day_draw : List Nat := [0, 1, 2, 3, 4, 5, 7, 10, 11, 13, 14, 17, 18, 19, 20, 23, 24, 25, 27, 28, 30, 31, 32, 35, 38, 39]
def pc_Day_live : List Nat := [0, 1, 2, 5, 6]
def pc_Day_liveTo : List Nat := [0, 1, 2, 3, 5, 8, 9, 10, 11, 12, 15, 18, 21, 22, 25, 26, 27, 28, 31, 34, 35, 36, 39, 40, 41, 42, 45, 48, 51, 52, 55, 56, 59, 60, 63, 66, 69, 72, 73]
def pc_Day_takeTurn : List Nat := [0, 1, 4, 5, 6, 7, 8, 11, 14, 15, 16, 17, 18, 20, 21, 22, 23, 25, 26, 28, 30, 31, 34, 37, 40, 41, 44, 47, 49, 50, 51, 54, 57, 58, 59, 62, 65, 66, 68, 69, 72, 74, 76, 78, 81, 82, 85, 86, 87, 90, 93, 95, 96, 97, 98, 101, 104, 107, 110, 112, 114, 116, 118, 121, 124, 125, 128, 129, 131, 132, 133, 136, 137, 138, 139, 140, 143, 144, 145, 146, 148, 149, 152, 153, 154, 157, 158, 160, 161, 162, 165, 166, 167, 170, 171, 172, 175, 178, 180, 181, 182, 183, 186, 189, 192, 194, 195, 196, 197, 200, 202, 203, 206, 209, 210]
def pc_Day_costOf : List Nat := [0, 1, 2, 3, 5, 7, 8, 11, 14, 15, 16, 19, 20, 23, 24, 26, 27, 30, 33, 35, 36, 37, 40, 41, 44, 46, 47, 50, 51, 54, 56, 57, 58, 61, 64, 65, 66, 68, 69, 72, 73, 74, 75, 78, 81, 82, 83]
def pc_Day_tryHours : List Nat := [0, 1, 2, 3, 5, 8, 9, 12, 13, 16, 17, 18, 19, 20, 21, 24, 25, 26, 29, 30, 33, 34, 35, 38, 39, 40, 41, 44, 47, 48]
def pc_Day_goodIfBurned : List Nat := [0, 1, 4, 5, 8, 9, 10, 13, 14, 15, 16, 17, 20, 23, 24, 25, 26, 29, 30, 33, 34]
def pc_Day_allGood : List Nat := [0, 1, 2, 3, 4, 5, 6, 9, 12, 15, 16, 17, 20, 21, 22, 23, 24, 27, 30, 31, 32]
def pc_Day_allPaid : List Nat := [0, 1, 2, 3, 4, 5, 6, 9, 12, 15, 16, 17, 20, 21, 22, 23, 24, 27, 30, 31, 32]
def pc_Day_howManySaid : List Nat := [0, 1, 2, 3, 4, 5, 6, 9, 12, 15, 16, 19, 20, 21, 22, 25, 28, 31, 34, 35, 36]
def pc_Day_spread : List Nat := [0, 1, 4, 5, 6, 7, 8, 11, 12, 13, 14, 15, 18, 19, 20, 21, 23, 24, 26, 28, 30, 33, 34, 36, 37, 39, 40, 42, 45, 46, 47, 49, 52, 53, 56, 59, 60, 61, 62, 63]
def pc_Day_firstUnlike : List Nat := [0, 1, 2, 3, 4, 7, 10, 13, 14, 17, 18, 19, 20, 23, 24, 27, 28, 31, 32, 33, 34, 35, 36, 37, 38, 41, 42, 43, 46, 49, 50, 51]
def pc_Image_keepWriters : List Nat := [0, 1, 4, 5, 6, 9, 10, 11, 14, 15, 18, 19, 20, 23, 24, 25, 28, 29, 32, 33, 34, 37, 38, 39, 42, 43, 44, 47, 50, 51]
def pc_Image_restoreWriters : List Nat := [0, 1, 4, 5, 6, 9, 10, 11, 14, 15, 18, 19, 20, 23, 24, 25, 28, 29, 32, 33, 34, 37, 38, 39, 42, 43, 44, 47, 50, 51]
def pc_Image_keepLaws : List Nat := [0, 1, 4, 5, 6, 9, 10, 12, 15, 16, 17, 20, 23, 24, 25, 28, 31, 32]
def pc_Image_restoreLaws : List Nat := [0, 1, 4, 5, 6, 9, 10, 12, 15, 16, 17, 20, 23, 24, 25, 28, 31, 32]
def pc_Laws_add : List Nat := [0, 1, 4, 6, 9, 11, 12, 13, 16, 17, 20, 21, 22, 23, 26, 27, 30, 31, 32, 33, 34, 37, 38, 39, 40, 43, 44]
def pc_Laws_isUnder : List Nat := [0, 1, 4, 5, 6, 7, 8, 10, 12, 14, 17, 18, 19, 22, 23, 24, 27, 28, 29, 32, 33, 34, 35, 38, 41, 42, 43]
def pc_Laws_price : List Nat := [0, 1, 4, 5, 6, 8, 9, 12, 13, 14, 48, 50, 51, 54, 55, 56, 58, 59, 60, 61, 62, 64, 65, 66, 67, 68, 69, 72, 73, 74, 76, 79, 80, 83, 84, 86, 87, 88, 89, 90, 92, 93, 96, 97, 100, 101, 104, 105, 106, 107, 108, 110, 111, 112]
def pc_Laws_steep : List Nat := [0, 1, 2, 3, 4, 5, 6, 7, 8, 9, 10]
def pc_Laws_age : List Nat := [0, 1, 4, 5, 6, 9, 10, 13, 14, 15, 16, 19, 20, 21, 22, 23, 24, 25, 28, 29, 30, 31, 32, 33, 34, 35, 38, 39, 42, 43, 46, 49, 50]
def pc_Laws_aged : List Nat := [0, 1, 4, 5, 6, 36, 37, 38, 41, 42, 43, 44, 45, 46, 47, 48, 49, 50, 51, 54, 55, 56, 59, 60, 63, 64, 65, 66, 67]
def pc_Reader_append : List Nat := [0, 1, 4, 7, 10, 11, 12, 13, 16, 17, 18, 21, 22, 23, 24, 27, 28, 29, 30, 31]
def pc_Reader_load : List Nat := [0, 1, 2, 3, 4, 7, 10, 11, 12, 13, 16, 19, 20, 23, 26, 27]
def pc_Reader_read : List Nat := [0, 1, 2, 5, 6, 7, 10, 11, 12, 15, 16, 19, 20, 21, 22, 23, 26, 27, 30, 31, 32, 35, 36, 37, 40, 41, 43, 46, 47, 50, 51, 52, 55, 56, 59, 62, 63, 64, 67, 68, 69, 72, 73, 76, 77]
def pc_Reader_refuse : List Nat := [0, 1, 4, 5, 8, 9, 10, 13, 16, 17, 18, 21, 22]
def pc_Reader_expect : List Nat := [0, 1, 4, 5, 8, 9, 12, 15, 16, 19, 20]
def pc_Reader_emit : List Nat := [0, 1, 4, 7, 10, 11, 14, 15, 16, 19, 20, 21, 22, 25, 26, 27, 28]
def pc_Reader_readE : List Nat := [0, 1, 2, 5, 6, 7, 8, 11, 14, 15, 18, 21, 24, 25, 28, 29, 30, 33, 34, 37, 40, 43, 46, 47]
def pc_Reader_readAnd : List Nat := [0, 1, 2, 5, 6, 7, 8, 11, 14, 15, 18, 21, 24, 25, 28, 29, 30, 33, 34, 37, 40, 43, 46, 47]
def pc_Reader_readNot : List Nat := [0, 1, 4, 7, 10, 11, 12, 15, 18, 19, 20, 23, 24, 27, 28, 29, 30, 31, 34, 35, 38, 41, 44, 45, 48, 49]
def pc_Reader_readCompared : List Nat := [0, 1, 2, 5, 6, 9, 11, 14, 15, 18, 20, 23, 24, 27, 28, 29, 32, 33, 34, 37, 38, 39, 40, 43, 44]
def pc_Reader_readSum : List Nat := [0, 1, 2, 5, 6, 7, 8, 11, 14, 15, 18, 20, 23, 24, 27, 29, 32, 33, 36, 37, 38, 41, 42, 43, 46, 47, 48, 49, 52, 55, 58, 59]
def pc_Reader_readTerm : List Nat := [0, 1, 2, 5, 6, 7, 8, 11, 14, 15, 18, 20, 23, 24, 27, 28, 29, 32, 33, 35, 38, 41, 44, 45]
def pc_Reader_readOne : List Nat := [0, 1, 4, 5, 8, 9, 10, 13, 16, 17, 20, 23, 24, 27, 28, 31, 32, 33, 34, 37, 38, 41, 42, 45, 48, 49, 52, 54, 57, 58, 59, 62, 63, 66, 67, 68, 69, 70, 73, 74, 77, 80, 83, 84, 87, 89, 92, 93, 94, 97, 98, 101, 102, 103, 104, 105, 108, 109, 111, 114, 117, 118, 121, 122]
def pc_Reader_next : List Nat := [0, 1, 4, 5, 8, 11, 12, 15, 16, 19, 20, 23, 26, 27, 28, 31, 32, 33, 36, 39, 40, 41, 44, 47, 48, 51, 52, 55, 58, 59, 60, 63, 66, 67, 70, 71, 74, 75, 78, 81, 82, 85, 88, 89, 92, 93, 96, 97, 100, 103, 104, 107, 110, 111, 113, 114, 117, 118, 121, 122, 123, 126, 129, 130, 133, 134, 137, 138, 141, 142, 145, 146, 147, 150, 151, 152, 155, 156]
def pc_Reader_nextWord : List Nat := [0, 1, 4, 5, 8, 11, 12, 15, 16, 19, 20, 23, 26, 27, 28, 31, 32, 33, 36, 39, 40, 43, 44, 45, 46, 49, 50, 51, 54, 57, 58, 60, 63, 64, 67, 68, 69, 72, 75, 76, 77, 80, 81, 82, 84, 85, 88, 89]
def pc_Reader_nextNumber : List Nat := [0, 1, 2, 5, 6, 9, 10, 13, 16, 17, 20, 21, 24, 25, 28, 31, 32, 33, 36, 38, 39, 40, 43, 44, 47, 48, 49, 51, 52, 55, 56, 57, 60, 61, 62, 65, 68, 69, 70, 73, 74, 77, 78, 79, 82, 83, 86, 87, 90, 91]
def pc_Reader_knownWord : List Nat := [0, 1, 2, 3, 6, 7, 8, 9, 10, 12, 14, 16, 19, 22, 24, 26, 29, 31, 34, 35, 38, 39, 40, 43, 46, 47, 48, 51, 52, 55, 56, 57, 58, 61, 62, 65, 66, 67, 70, 73, 74, 77, 78, 79, 81, 83, 86, 89, 92, 95, 96, 97, 100, 103, 104, 105]
def pc_Reader_isBlank : List Nat := [0, 1, 3, 6, 7, 9, 12, 13, 16, 17, 18]
def pc_Reader_isLetter : List Nat := [0, 1, 3, 6, 7, 9, 12, 13, 16, 17, 18]
def pc_Reader_isDigit : List Nat := [0, 1, 3, 6, 7, 9, 12, 13, 16, 17, 18]
def pc_Sheets_lay : List Nat := [0, 1, 4, 5, 6, 7, 8, 11, 12, 13, 14, 15, 17, 19, 21, 24, 25, 28, 29, 30, 32, 33, 34, 37, 40, 41]
def pc_Sheets_put : List Nat := [0, 1, 4, 5, 6, 9, 10, 13, 14, 15, 16, 17, 18, 19, 22, 23, 26, 27, 28, 29, 32, 33, 36, 37, 38, 39, 40, 41, 42, 45, 46, 49, 50, 51, 52, 53, 54, 55]
def pc_Sheets_hasRoom : List Nat := [0, 1, 4, 5, 8, 9, 10, 13, 14, 15, 18, 19, 20, 23, 24, 25, 26, 27, 30, 31, 34, 35, 36]
def pc_Texts_add : List Nat := [0, 1, 4, 6, 9, 11, 12, 13, 14, 15, 18, 19, 22, 23, 24, 27, 30, 31, 32, 33, 36, 37, 40, 41, 42, 43, 46, 47, 48, 51, 52, 53, 54, 57, 58]
def pc_Texts_adds : List Nat := [0, 1, 2, 3, 4, 5, 6, 7, 10, 11, 12, 15, 17, 20, 21]
def pc_Texts_worth : List Nat := [0, 1, 2, 3, 4, 5, 6, 8, 11, 12, 13, 16, 19, 22, 23]
def pc_Texts_may : List Nat := [0, 1, 2, 3, 4, 5, 6, 8, 11, 12, 13, 16, 19, 20, 23, 24, 25]
def pc_Texts_tell : List Nat := [0, 1, 4, 5, 6, 7, 8, 11, 12, 13, 14, 15, 18, 19, 20, 21, 22, 25, 26, 28, 29, 30, 33, 34, 36, 37, 38, 41, 42, 44, 45, 46]
def pc_Texts_bounded : List Nat := [0, 1, 4, 5, 6, 7, 8, 11, 12, 15, 16, 17]
def pc_Texts_valued : List Nat := [0, 1, 4, 5, 8, 9, 10, 11, 14, 15, 18, 19, 20, 21, 22, 23, 25, 26, 29, 30, 33, 34, 37, 38, 41, 42, 43, 44, 45, 46, 48, 50, 51, 54, 55, 57, 58, 60, 62, 64, 67, 69, 71, 74, 75, 76, 79, 80, 83, 85, 87, 90, 92, 95, 96, 99, 100, 102, 103, 104, 105, 108, 110, 113, 116, 118, 121, 124, 125, 128, 129, 131, 133, 135, 138, 139, 142, 143, 146, 147, 148, 149, 152, 154, 155, 157, 159, 162, 165, 166, 169, 171, 172, 174, 176, 177, 252, 253, 256, 258, 260, 262, 263, 264, 267, 268, 271, 273, 275, 277, 278, 279, 282, 283, 286, 288, 290, 292, 293, 294, 297, 298, 301, 303, 305, 307, 310, 311, 314, 315, 316, 319, 320, 323, 325, 327, 329, 332, 333, 336, 337, 338, 341, 342, 345, 347, 349, 352, 354, 357, 358, 361, 362, 363, 366, 367, 370, 372, 374, 377, 379, 382, 383, 386, 387, 388, 391, 392, 395, 397, 399, 402, 403, 406, 407, 408, 411, 412, 415, 417, 419, 420, 421, 424, 427, 428, 431, 432, 433, 434]
def pc_Words_lengthOf : List Nat := [0, 1, 2, 5, 6, 8, 11, 12, 13, 14, 15, 16, 17, 18, 19, 20, 22, 25, 26, 29, 30, 32, 33, 34, 35, 37, 40, 43, 44, 45, 46, 48, 49, 50, 53, 56, 59, 60, 61]
def pc_Words_add : List Nat := [0, 1, 4, 6, 9, 11, 12, 13, 14, 15, 18, 19, 22, 23, 24, 25, 28, 29, 32, 33, 36, 37, 38, 41, 42, 45, 46, 47, 48, 50, 52, 55, 56, 59, 60, 63, 64, 66, 67, 69, 70, 71, 72, 73, 74, 76, 77, 78, 81, 84, 85, 86, 89, 90, 91, 92, 95, 96]
def pc_Words_usedAhead : List Nat := [0, 1, 4, 5, 6, 7, 8, 10, 11, 13, 14, 16, 17, 19, 21, 22, 25, 26, 29, 30, 31, 33, 34, 36, 39, 42, 45, 48, 50, 53, 56, 57]
def pc_Words_spend : List Nat := [0, 1, 2, 3, 4, 7, 8, 9, 12, 13, 16, 17, 18, 19, 20, 22, 23, 25, 26, 28, 29, 30, 31, 34, 37, 38, 41, 44, 45]
def pc_Writers_add : List Nat := [0, 1, 2, 5, 8, 9, 11, 14, 17, 18, 21, 24, 27, 29, 30, 31, 34, 35, 38, 40, 41, 42, 45, 46, 49, 50, 51, 52, 55, 56, 59, 60, 61, 62, 65, 66, 69, 70, 71, 72, 73, 76, 77, 78, 79, 82, 83]
def pc_Str_length : List Nat := [0, 1, 4, 5, 6, 9, 10, 11]
def pc_Str_coder : List Nat := [0, 3, 6, 7, 10, 13, 14, 15]
def pc_Str_isLatin1 : List Nat := [0, 3, 6, 7, 10, 13, 14, 17, 18, 19]
def pc_Str_charAt : List Nat := [0, 1, 4, 7, 8, 11, 12, 15, 16, 17, 20, 21, 24, 25]
def pc_Str_checkIndex : List Nat := [0, 1, 2, 5, 8, 9, 10]
def pc_Str_indexOf : List Nat := [0, 1, 2, 3, 6, 7]
def pc_Str_indexOf2 : List Nat := [0, 1, 4, 7, 8, 11, 12, 13, 14, 17, 20, 23, 24, 27, 28, 29, 30, 33, 36, 37]
def pc_Lat_charAt : List Nat := [0, 1, 2, 3, 6, 7, 8, 9, 12, 13, 14, 15]
def pc_Lat_canEncode : List Nat := [0, 1, 4, 5, 8, 11, 12, 15, 16, 17]
def pc_Lat_indexOf : List Nat := [0, 1, 4, 7, 8, 9, 10, 11, 14, 15, 16, 17, 18, 21, 22, 23, 24, 27, 28, 29, 30, 31, 32, 33, 36, 37]
def pc_Lat_indexOfChar : List Nat := [0, 1, 2, 4, 5, 7, 9, 10, 13, 14, 16, 17, 19, 22, 24, 25, 28, 31, 32, 33]
def pc_Prec_checkIndex : List Nat := [0, 1, 4, 5, 6, 9, 10, 11, 12, 15, 16, 17, 18]
def pcsL : List (List Nat) := [pc_X_set, pc_X_told, pc_X_word, pc_X_writer, pc_X_law, pc_X_rule, pc_X_feed, pc_X_text, pc_X_force, pc_X_costs, pc_X_write, pc_X_pass, pc_X_cheapest, pc_X_day, pc_X_all, pc_X_when, pc_X_choose, pc_X_rest, pc_X_turns, pc_X_burn, pc_X_worst, pc_X_best, pc_X_judge, pc_X_fits, pc_X_whose, pc_X_drawn, pc_X_chance, pc_X_image, pc_X_back, pc_X_count, pc_X_sheet, pc_X_cell, pc_X_copy, pc_X_writers, pc_X_taken, pc_X_within, pc_X_put, pc_X_item, pc_X_sum, pc_X_firstMost, pc_X_whoseHour, pc_X_isTurn, pc_X_digits, pc_X_commonDivisor, pc_X_refusalToJudge, pc_M_in, pc_M_within, pc_M_spell, pc_M_isWordNumber, pc_M_isWriter, pc_M_isLaw, pc_M_isOf, pc_M_set, pc_M_sizeOf, pc_M_told, pc_M_word, pc_M_writer, pc_M_law, pc_M_rule, pc_M_steep, pc_M_costBy, pc_M_agedBy, pc_M_feed, pc_M_byteAt, pc_M_next, pc_M_fail, pc_M_isLetter, pc_M_isWord, pc_M_isSign, pc_M_opens, pc_M_name, pc_M_atom, pc_M_term, pc_M_added, pc_M_not, pc_M_both, pc_M_either, pc_M_part, pc_M_read, pc_M_text, pc_M_force, pc_M_adds, pc_M_says, pc_M_keptRead, pc_M_takes, pc_M_writes, pc_M_costOf, pc_M_ages, pc_M_rowSum, pc_M_keeps, pc_M_costs, pc_M_write, pc_M_pass, pc_M_cheapest, pc_M_turnOf, pc_M_passesDay, pc_M_dayNow, pc_M_goodOf, pc_M_allGood, pc_M_saying, pc_M_day, pc_M_all, pc_M_seeks, pc_M_when, pc_M_choose, pc_M_rest, pc_M_orders, pc_M_turns, pc_M_burned, pc_M_burn, pc_M_worst, pc_M_best, pc_M_paidBad, pc_M_unlike, pc_M_judge, pc_M_fits, pc_M_whose, pc_M_draws, pc_M_drawn, pc_M_chance, pc_M_image, pc_M_back, pc_M_count, pc_M_isSheet, pc_M_sheet, pc_M_cell, pc_M_copy, pc_M_writers, pc_M_over, pc_M_taken, pc_Day_dawn, pc_Day_draw, pc_Day_live, pc_Day_liveTo, pc_Day_takeTurn, pc_Day_costOf, pc_Day_tryHours, pc_Day_goodIfBurned, pc_Day_allGood, pc_Day_allPaid, pc_Day_howManySaid, pc_Day_spread, pc_Day_firstUnlike, pc_Image_keepWriters, pc_Image_restoreWriters, pc_Image_keepLaws, pc_Image_restoreLaws, pc_Laws_add, pc_Laws_isUnder, pc_Laws_price, pc_Laws_steep, pc_Laws_age, pc_Laws_aged, pc_Reader_append, pc_Reader_load, pc_Reader_read, pc_Reader_refuse, pc_Reader_expect, pc_Reader_emit, pc_Reader_readE, pc_Reader_readAnd, pc_Reader_readNot, pc_Reader_readCompared, pc_Reader_readSum, pc_Reader_readTerm, pc_Reader_readOne, pc_Reader_next, pc_Reader_nextWord, pc_Reader_nextNumber, pc_Reader_knownWord, pc_Reader_isBlank, pc_Reader_isLetter, pc_Reader_isDigit, pc_Sheets_lay, pc_Sheets_put, pc_Sheets_hasRoom, pc_Texts_add, pc_Texts_adds, pc_Texts_worth, pc_Texts_may, pc_Texts_tell, pc_Texts_bounded, pc_Texts_valued, pc_Words_lengthOf, pc_Words_add, pc_Words_usedAhead, pc_Words_spend, pc_Writers_add, pc_Str_length, pc_Str_coder, pc_Str_isLatin1, pc_Str_charAt, pc_Str_checkIndex, pc_Str_indexOf, pc_Str_indexOf2, pc_Lat_charAt, pc_Lat_canEncode, pc_Lat_indexOf, pc_Lat_indexOfChar, pc_Prec_checkIndex]
def fplL : List (Nat × Nat × Nat × Nat) := [(0, 120, 386, 104), (0, 15, 6, 255), (0, 18, 8, 259), (0, 21, 9, 261), (0, 24, 10, 263), (0, 27, 11, 265), (0, 30, 0, 249), (0, 33, 1, 250), (0, 37, 2, 251), (0, 41, 3, 252), (0, 45, 4, 253), (0, 55, 449, 130), (0, 58, 131, 163), (0, 64, 7, 257), (0, 72, 451, 139), (0, 82, 450, 135), (0, 85, 387, 107), (0, 88, 384, 99), (0, 9, 5, 254), (0, 91, 448, 127), (0, 96, 385, 102), (1, 15, 68, 303), (1, 18, 69, 304), (1, 21, 70, 305), (1, 24, 72, 307), (1, 27, 448, 125), (1, 36, 449, 129), (1, 37, 450, 133), (1, 38, 451, 137), (1, 42, 71, 306), (1, 45, 129, 159), (1, 48, 130, 162), (1, 49, 73, 308), (1, 52, 131, 164), (1, 55, 74, 309), (10, 15, 641, 1472), (10, 9, 640, 1471), (2, 15, 129, 157), (2, 18, 130, 160), (2, 9, 128, 155), (3, 15, 194, 184), (3, 18, 195, 186), (3, 21, 193, 182), (3, 39, 196, 188), (3, 42, 200, 192), (3, 45, 201, 193), (3, 58, 198, 190), (3, 61, 197, 189), (3, 88, 199, 191), (3, 9, 192, 181), (4, 15, 257, 342), (4, 20, 258, 344), (4, 9, 256, 340), (5, 11, 320, 222), (5, 18, 321, 223), (5, 21, 322, 224), (5, 25, 323, 225), (5, 28, 324, 226), (5, 50, 325, 228), (6, 15, 385, 100), (6, 20, 386, 103), (6, 28, 387, 105), (6, 9, 384, 97), (7, 15, 449, 128), (7, 18, 450, 132), (7, 25, 451, 136), (7, 9, 448, 124), (8, 101, 451, 138), (8, 105, 449, 131), (8, 108, 450, 134), (8, 111, 129, 158), (8, 114, 130, 161), (8, 119, 128, 156), (8, 122, 384, 98), (8, 123, 387, 106), (8, 124, 385, 101), (8, 139, 131, 165), (8, 146, 193, 183), (8, 147, 324, 227), (8, 148, 325, 229), (8, 16, 513, 552), (8, 170, 9, 262), (8, 173, 8, 260), (8, 176, 10, 264), (8, 195, 11, 266), (8, 209, 6, 256), (8, 219, 7, 258), (8, 225, 258, 345), (8, 23, 514, 553), (8, 243, 65, 300), (8, 258, 66, 301), (8, 260, 67, 302), (8, 263, 64, 298), (8, 273, 256, 341), (8, 280, 257, 343), (8, 30, 515, 554), (8, 37, 516, 555), (8, 44, 517, 556), (8, 53, 518, 557), (8, 60, 519, 558), (8, 67, 520, 559), (8, 85, 194, 185), (8, 88, 195, 187), (8, 9, 512, 551), (8, 98, 448, 126), (9, 104, 579, 928), (9, 107, 586, 935), (9, 114, 590, 939), (9, 13, 577, 926), (9, 159, 594, 943), (9, 167, 582, 931), (9, 17, 578, 927), (9, 170, 602, 951), (9, 173, 601, 950), (9, 176, 603, 952), (9, 182, 605, 954), (9, 185, 604, 953), (9, 196, 606, 955), (9, 20, 581, 930), (9, 202, 608, 957), (9, 206, 609, 958), (9, 212, 607, 956), (9, 225, 595, 944), (9, 228, 596, 945), (9, 23, 583, 932), (9, 231, 597, 946), (9, 234, 598, 947), (9, 237, 599, 948), (9, 240, 600, 949), (9, 26, 584, 933), (9, 283, 580, 929), (9, 29, 585, 934), (9, 32, 587, 936), (9, 334, 617, 966), (9, 337, 618, 967), (9, 35, 588, 937), (9, 365, 620, 969), (9, 368, 619, 968), (9, 374, 623, 972), (9, 377, 622, 971), (9, 38, 589, 938), (9, 404, 628, 977), (9, 407, 629, 978), (9, 41, 591, 940), (9, 410, 630, 979), (9, 413, 631, 980), (9, 44, 592, 941), (9, 47, 593, 942), (9, 50, 610, 959), (9, 54, 611, 960), (9, 57, 612, 961), (9, 60, 613, 962), (9, 63, 614, 963), (9, 66, 615, 964), (9, 69, 616, 965), (9, 72, 621, 970), (9, 75, 624, 973), (9, 78, 625, 974), (9, 81, 626, 975), (9, 84, 627, 976), (9, 87, 632, 981), (9, 91, 633, 982), (9, 94, 634, 983), (9, 97, 635, 984)]
def gplL : List (Nat × Nat × Nat × Nat) := [(10, 1053, 2, 386), (10, 38, 1, 370), (2, 22, 0, 914)]
def mplL : List (Nat × Nat × Nat × Nat) := [(0, 68, 133, 718), (0, 75, 134, 722), (0, 78, 151, 736), (0, 92, 135, 726), (0, 99, 179, 727), (0, 105, 178, 731), (0, 109, 186, 735), (0, 112, 185, 654), (0, 116, 149, 659), (0, 124, 177, 666), (0, 127, 130, 767), (0, 135, 138, 801), (2, 25, 150, 663), (2, 29, 152, 697), (3, 25, 188, 362), (3, 31, 191, 372), (3, 35, 153, 410), (3, 48, 166, 418), (3, 51, 157, 504), (3, 55, 159, 512), (3, 64, 156, 508), (3, 67, 160, 516), (3, 70, 158, 540), (3, 73, 161, 520), (3, 76, 162, 524), (3, 79, 163, 528), (3, 82, 164, 532), (3, 85, 165, 536), (3, 91, 170, 422), (3, 94, 171, 425), (3, 97, 167, 428), (3, 100, 172, 437), (3, 103, 168, 440), (3, 108, 193, 445), (3, 112, 169, 432), (5, 38, 180, 670), (5, 42, 182, 674), (5, 46, 181, 678), (6, 32, 183, 610), (8, 71, 147, 353), (8, 81, 155, 414), (8, 91, 176, 544), (8, 94, 36, 584), (8, 115, 37, 594), (8, 127, 35, 587), (8, 131, 183, 601), (8, 135, 184, 606), (8, 136, 187, 615), (8, 142, 153, 632), (8, 149, 130, 645), (8, 152, 135, 650), (8, 155, 186, 685), (8, 159, 151, 693), (8, 162, 38, 702), (8, 167, 132, 714), (8, 179, 138, 741), (8, 182, 140, 745), (8, 185, 141, 749), (8, 188, 139, 755), (8, 191, 136, 763), (8, 198, 39, 768), (8, 206, 41, 784), (8, 210, 40, 787), (8, 213, 42, 790), (8, 216, 137, 797), (8, 222, 44, 814), (8, 229, 142, 818), (8, 232, 133, 826), (8, 235, 131, 835), (8, 240, 43, 845), (8, 250, 143, 853), (8, 254, 145, 858), (8, 267, 144, 866), (8, 270, 146, 870), (8, 276, 173, 882), (8, 283, 174, 890), (8, 285, 175, 898), (8, 289, 148, 910), (9, 110, 45, 1113), (9, 119, 49, 1121), (9, 123, 50, 1125), (9, 126, 48, 1129), (9, 131, 51, 1116), (9, 145, 54, 1138), (9, 149, 53, 1142), (9, 162, 59, 1265), (9, 179, 63, 1182), (9, 209, 66, 1195), (9, 215, 65, 1203), (9, 218, 64, 1178), (9, 221, 67, 1191), (9, 243, 68, 1235), (9, 246, 69, 1219), (9, 250, 71, 1231), (9, 254, 76, 1207), (9, 257, 70, 1239), (9, 260, 72, 1227), (9, 265, 74, 1215), (9, 268, 73, 1223), (9, 273, 75, 1211), (9, 276, 77, 1199), (9, 280, 78, 1174), (9, 286, 83, 1272), (9, 289, 46, 1282), (9, 305, 60, 1261), (9, 308, 81, 1268), (9, 311, 85, 1257), (9, 314, 61, 1302), (9, 317, 84, 1253), (9, 320, 89, 1289), (9, 325, 87, 1298), (9, 328, 88, 1306), (9, 331, 86, 1314), (9, 340, 82, 1336), (9, 343, 94, 1332), (9, 347, 95, 1328), (9, 350, 97, 1340), (9, 356, 96, 1324), (9, 359, 98, 1348), (9, 362, 99, 1352), (9, 371, 102, 1360), (9, 380, 106, 1376), (9, 386, 108, 1385), (9, 389, 123, 1405), (9, 392, 112, 1401), (9, 395, 113, 1408), (9, 399, 117, 1424), (9, 418, 56, 1463), (9, 421, 128, 1468), (10, 335, 189, 366), (10, 492, 190, 376), (10, 495, 195, 380), (10, 505, 188, 453), (10, 633, 194, 449), (10, 637, 197, 454), (10, 1059, 199, 388), (11, 9, 192, 383), (11, 88, 196, 457), (11, 95, 198, 466)]
def aplL : List (Nat × Nat × Nat × Nat) := [(0, 49, 0, 649), (0, 130, 2, 754), (0, 139, 1, 753), (1, 30, 0, 857), (2, 32, 1, 701), (5, 32, 0, 548), (6, 36, 2, 658), (8, 201, 2, 783), (8, 244, 0, 852), (11, 38, 2, 463), (11, 92, 1, 460)]
def kplL : List (Nat × Nat × Nat × Nat) := [(0, 67, 55, 839), (6, 23, 72, 604), (8, 166, 19, 713), (9, 355, 19, 1323), (9, 398, 55, 1428)]
def lplL : List (Nat × Nat × Nat × Nat) := [(8, 238, 0, 844), (9, 117, 2, 1120), (9, 129, 3, 1112), (9, 135, 4, 1133), (9, 137, 5, 1134), (9, 139, 6, 1135), (9, 141, 7, 1136), (9, 143, 8, 1137), (9, 153, 10, 1150), (9, 155, 11, 1151), (9, 157, 12, 1160), (9, 165, 13, 1169), (9, 188, 14, 1186), (9, 190, 15, 1187), (9, 192, 16, 1188), (9, 194, 17, 1189), (9, 200, 18, 1190), (9, 263, 19, 1243), (9, 271, 20, 1244), (9, 293, 21, 1276), (9, 295, 22, 1277), (9, 297, 23, 1278), (9, 299, 24, 1279), (9, 301, 25, 1280), (9, 303, 26, 1281), (9, 323, 27, 1297), (9, 353, 28, 1322), (9, 384, 29, 1384), (9, 402, 0, 1433), (9, 416, 30, 1450)]
def nplL : List (Nat × Nat × Nat × Nat) := [(6, 24, 35, 605), (7, 21, 35, 619)]
def splL : List (Nat × Nat × Nat × Nat) := [(3, 106, 70, 0), (3, 115, 68, 0)]
def mpsL : List (Nat × Nat × Nat × Nat) := [(583, 581, 582, 64), (593, 591, 592, 64), (600, 598, 599, 64), (614, 612, 613, 64), (623, 621, 622, 64), (627, 625, 626, 64), (631, 629, 630, 64), (636, 634, 635, 64), (640, 638, 639, 64), (644, 642, 643, 64), (684, 682, 683, 64), (692, 690, 691, 64), (708, 706, 707, 64), (712, 710, 711, 64), (740, 738, 739, 64), (762, 760, 761, 64), (774, 772, 773, 64), (778, 776, 777, 64), (782, 780, 781, 64), (796, 794, 795, 64), (805, 803, 804, 64), (809, 807, 808, 64), (813, 811, 812, 64), (825, 823, 824, 64), (830, 828, 829, 64), (834, 832, 833, 64), (843, 841, 842, 64), (851, 849, 850, 64), (865, 863, 864, 64), (877, 875, 876, 64), (881, 879, 880, 64), (889, 887, 888, 64), (897, 895, 896, 64), (905, 903, 904, 64), (909, 907, 908, 64), (589, 588, 0, 64), (586, 585, 0, 64), (596, 595, 0, 64), (704, 703, 0, 64), (770, 769, 0, 64), (789, 788, 0, 64), (786, 785, 0, 64), (792, 791, 0, 64), (847, 846, 0, 64), (817, 816, 18, 64), (1115, 1114, 0, 80), (1284, 1283, 0, 80), (925, 924, 19, 80), (1132, 1131, 23, 80), (1124, 1123, 21, 80), (1128, 1127, 22, 80), (1119, 1118, 20, 80), (1111, 1109, 1110, 80), (1144, 1143, 0, 80), (1141, 1139, 1140, 80), (1149, 1147, 1148, 80), (1155, 1153, 1154, 80), (1159, 1157, 1158, 80), (1164, 1162, 1163, 80), (1267, 1266, 0, 80), (1264, 1263, 42, 80), (1305, 1304, 47, 80), (1168, 1166, 1167, 80), (1185, 1184, 26, 80), (1181, 1180, 25, 80), (1206, 1205, 30, 80), (1198, 1197, 28, 80), (1194, 1193, 27, 80), (1238, 1237, 38, 80), (1222, 1221, 34, 80), (1242, 1241, 39, 80), (1234, 1233, 37, 80), (1230, 1229, 36, 80), (1226, 1225, 35, 80), (1218, 1217, 33, 80), (1214, 1213, 32, 80), (1210, 1209, 31, 80), (1202, 1201, 29, 80), (1177, 1176, 24, 80), (1173, 1171, 1172, 80), (1248, 1246, 1247, 80), (1271, 1270, 43, 80), (1339, 1338, 53, 80), (1275, 1274, 44, 80), (1256, 1255, 40, 80), (1260, 1259, 41, 80), (1317, 1316, 49, 80), (1301, 1300, 46, 80), (1309, 1308, 48, 80), (1292, 1291, 45, 80), (1252, 1250, 1251, 80), (1288, 1286, 1287, 80), (1296, 1294, 1295, 80), (1313, 1311, 1312, 80), (1335, 1334, 52, 80), (1331, 1330, 51, 80), (1327, 1326, 50, 80), (1343, 1342, 54, 80), (1351, 1350, 55, 80), (1355, 1354, 56, 80), (1321, 1319, 1320, 80), (1347, 1345, 1346, 80), (1363, 1362, 57, 80), (1359, 1357, 1358, 80), (1367, 1365, 1366, 80), (1371, 1369, 1370, 80), (1379, 1378, 58, 80), (1375, 1373, 1374, 80), (1388, 1387, 59, 80), (1383, 1381, 1382, 80), (1392, 1390, 1391, 80), (1396, 1394, 1395, 80), (1404, 1403, 60, 80), (1411, 1410, 61, 80), (1400, 1398, 1399, 80), (1415, 1413, 1414, 80), (1419, 1417, 1418, 80), (1427, 1426, 62, 80), (1423, 1421, 1422, 80), (1432, 1430, 1431, 80), (1437, 1435, 1436, 80), (1441, 1439, 1440, 80), (1445, 1443, 1444, 80), (1407, 1406, 0, 80), (1449, 1447, 1448, 80), (1454, 1452, 1453, 80), (1458, 1456, 1457, 80), (1462, 1460, 1461, 80), (1470, 1469, 0, 80), (1467, 1465, 1466, 80), (648, 646, 647, 70), (838, 836, 837, 70), (717, 715, 716, 70), (721, 719, 720, 70), (725, 724, 17, 70), (653, 651, 652, 70), (766, 764, 765, 70), (800, 798, 799, 70), (744, 742, 743, 70), (758, 756, 757, 70), (748, 746, 747, 70), (752, 750, 751, 70), (821, 819, 820, 70), (856, 854, 855, 71), (869, 867, 868, 71), (861, 859, 860, 71), (873, 871, 872, 71), (356, 354, 355, 67), (913, 911, 912, 67), (662, 660, 661, 67), (665, 664, 0, 67), (696, 694, 695, 67), (700, 699, 16, 67), (413, 411, 412, 68), (361, 359, 360, 68), (417, 415, 416, 68), (511, 510, 5, 68), (507, 506, 4, 68), (543, 542, 13, 68), (515, 514, 6, 68), (519, 518, 7, 68), (523, 522, 8, 68), (527, 526, 9, 68), (531, 530, 10, 68), (535, 534, 11, 68), (539, 538, 12, 68), (421, 420, 0, 68), (431, 430, 1, 68), (443, 442, 3, 68), (435, 434, 2, 68), (424, 423, 0, 68), (427, 426, 0, 68), (439, 438, 0, 68), (885, 883, 884, 72), (893, 891, 892, 72), (901, 899, 900, 72), (547, 545, 546, 69), (669, 667, 668, 69), (734, 732, 733, 69), (730, 728, 729, 69), (673, 672, 14, 69), (680, 679, 0, 69), (677, 676, 15, 69), (603, 602, 0, 65), (609, 607, 608, 65), (657, 655, 656, 65), (688, 686, 687, 65), (618, 616, 617, 66), (365, 363, 364, 73), (369, 367, 368, 73), (379, 377, 378, 73), (375, 373, 374, 73), (385, 384, 0, 73), (448, 446, 447, 73), (452, 450, 451, 73), (382, 381, 0, 74), (459, 458, 0, 74), (456, 455, 0, 74), (468, 467, 0, 74), (390, 389, 0, 75)]
def mmP : List Nat := [462, 461, 465, 464, 77]
def acP : Nat × Nat × Nat := (550, 549, 79)
def fwsL : List (List Nat) := [[267, 269, 271, 273, 275, 277, 279, 281, 283, 285, 287, 289], [310, 312, 314, 316, 318, 320, 322, 324, 326, 328, 330], [166, 168, 170, 172], [194, 196, 198, 200, 202, 204, 206, 208, 210, 212], [346, 348, 350], [230, 232, 234, 236, 238, 240], [108, 110, 112, 114], [140, 142, 144, 146], [560, 562, 564, 566, 568, 570, 572, 574, 576], [985, 987, 989, 991, 993, 995, 997, 999, 1001, 1003, 1005, 1007, 1009, 1011, 1013, 1015, 1017, 1019, 1021, 1023, 1025, 1027, 1029, 1031, 1033, 1035, 1037, 1039, 1041, 1043, 1045, 1047, 1049, 1051, 1053, 1055, 1057, 1059, 1061, 1063, 1065, 1067, 1069, 1071, 1073, 1075, 1077, 1079, 1081, 1083, 1085, 1087, 1089, 1091, 1093, 1095, 1097, 1099, 1101, 1103]]
def cnm (k : Nat) : String := nth "" cnmL k
def mnm (y : Nat) : MethodName := nth ⟨"", "", ""⟩ mnmL y
def cod (y : Nat) : Cond := nth .tt lw_tbl (nth (0, 0, 0, 0) mpsL y).1
def bc (y : Nat) : ByteArray := match cod y with
  | .code _ b _ _ => b
  | _ => ⟨#[]⟩
def pcs (y i : Nat) : Nat := nth 0 (nth [] pcsL y) i
def strT : u_T := fun k => match k with
  | 0 => ("java/lang/String", "value", "[B", true)
  | _ => ("java/lang/String", "coder", "B", true)
def clT (c : Nat) : vw_C := nth ("java/lang/String", strT, 2) vwCl c
def fT (n : Nat) : String × String × String × Bool := (clT (n / 64)).2.1 (n % 64)
def gT : List Cond := lw_tbl.filter goodWord
def wsY (y : Nat) : List Cond := .code (mnm y) (bc y) (inf y).2.2.1 (inf y).2.2.2.2.1 :: gT
def inP (l : List (Nat × Nat × Nat × Nat)) (own idx n : Nat) : Bool := l.any (fun q => Nat.beq q.1 own && Nat.beq q.2.1 idx && Nat.beq q.2.2.1 n)
def okT (pcl : Nat → Nat) (pc : Int) : Int → List (Int × Int) → List Int → Bool
  | _, [], [] => true
  | v, (k, t) :: ps, o :: os => decide (cK k.toNat = Int32.ofInt v) && decide (pc + o = (pcl t.toNat : Int)) && okT pcl pc (v + 1) ps os
  | _, _, _ => false
def okL (pcl : Nat → Nat) (pc : Int) : List (Int × Int) → List (Int × Int) → Bool
  | [], [] => true
  | (k, t) :: ps, (v, o) :: os => decide (cK k.toNat = Int32.ofInt v) && decide ((Int32.ofInt v).toInt = v) && decide (pc + o = (pcl t.toNat : Int)) && okL pcl pc ps os
  | _, _ => false
def okI (own : Nat) (pcl : Nat → Nat) (pc : Nat) (ins raw : Instr) (len : Nat) : Bool := match ins with
  | .ldc n => (match raw with
    | .iconst k => Nat.beq len 1 && decide (Int32.ofInt k = cK n)
    | .bipush k => Nat.beq len 2 && decide ((Int8.ofInt k).toInt32 = cK n)
    | .sipush k => Nat.beq len 3 && decide ((Int16.ofInt k).toInt32 = cK n)
    | .ldc idx => Nat.beq len 2 && inP kplL own idx n
    | .ldc_w idx => Nat.beq len 3 && inP kplL own idx n
    | _ => false)
  | .ldc2_w n => (match raw with
    | .lconst f => Nat.beq len 1 && decide (Int64.ofNat (f : Nat) = cL n)
    | .ldc2_w idx => Nat.beq len 3 && inP lplL own idx n
    | _ => false)
  | .ldc_w n => (match raw with
    | .ldc idx => Nat.beq len 2 && inP splL own idx n
    | _ => false)
  | .getstatic n => (match raw with
    | .getstatic idx => Nat.beq len 3 && inP gplL own idx n
    | _ => false)
  | .iload n => (match raw with
    | .iload k => Nat.beq k n && Nat.beq len 2
    | .iload_n k => Nat.beq k.val n && Nat.beq len 1
    | _ => false)
  | .lload n => (match raw with
    | .lload k => Nat.beq k n && Nat.beq len 2
    | .lload_n k => Nat.beq k.val n && Nat.beq len 1
    | _ => false)
  | .aload n => (match raw with
    | .aload k => Nat.beq k n && Nat.beq len 2
    | .aload_n k => Nat.beq k.val n && Nat.beq len 1
    | _ => false)
  | .istore n => (match raw with
    | .istore k => Nat.beq k n && Nat.beq len 2
    | .istore_n k => Nat.beq k.val n && Nat.beq len 1
    | _ => false)
  | .lstore n => (match raw with
    | .lstore k => Nat.beq k n && Nat.beq len 2
    | .lstore_n k => Nat.beq k.val n && Nat.beq len 1
    | _ => false)
  | .astore n => (match raw with
    | .astore k => Nat.beq k n && Nat.beq len 2
    | .astore_n k => Nat.beq k.val n && Nat.beq len 1
    | _ => false)
  | .iinc n c => (match raw with
    | .iinc k v => Nat.beq k n && Nat.beq len 3 && decide (Int32.ofInt v = cK c.toNat)
    | _ => false)
  | .ifCond c t => (match raw with
    | .ifCond c' off => decide (c' = c) && Nat.beq len 3 && decide ((pc : Int) + off = (pcl t.toNat : Int))
    | _ => false)
  | .if_icmp c t => (match raw with
    | .if_icmp c' off => decide (c' = c) && Nat.beq len 3 && decide ((pc : Int) + off = (pcl t.toNat : Int))
    | _ => false)
  | .goto t => (match raw with
    | .goto off => Nat.beq len 3 && decide ((pc : Int) + off = (pcl t.toNat : Int))
    | _ => false)
  | .lookupswitch d ps => (match raw with
    | .tableswitch df lo hi offs => decide ((pc : Int) + df = (pcl d.toNat : Int)) && okT pcl pc lo ps.toList offs.toList && decide (hi = lo + (offs.toList.length : Int) - 1) && decide (-1000 < lo ∧ hi < 1000)
    | .lookupswitch df qs => decide ((pc : Int) + df = (pcl d.toNat : Int)) && okL pcl pc ps.toList qs.toList && (qs.toList.zip (qs.toList.drop 1)).all (fun (a, next) => a.1 < next.1)
    | _ => false)
  | .getfield n => (match raw with
    | .getfield idx => Nat.beq len 3 && inP fplL own idx n
    | _ => false)
  | .putfield n => (match raw with
    | .putfield idx => Nat.beq len 3 && inP fplL own idx n
    | _ => false)
  | .invokestatic y => (match raw with
    | .invokestatic idx => Nat.beq len 3 && (inP mplL own idx y || inP nplL own idx y)
    | _ => false)
  | .invokevirtual y => (match raw with
    | .invokevirtual idx => Nat.beq len 3 && inP mplL own idx y
    | _ => false)
  | .invokedynamic n => (match raw with
    | .invokestatic idx => Nat.beq len 3 && inP aplL own idx n
    | _ => false)
  | .nop => true
  | i => decide (raw = i) && Nat.beq len 1
def walk (own : Nat) (pcl : Nat → Nat) (b : ByteArray) : List Nat → List Instr → Bool
  | pc :: pc' :: ps, i :: is => (match decode b pc with
    | .ok (raw, len) => okI own pcl pc i raw len && Nat.beq pc' (pc + len) && walk own pcl b (pc' :: ps) is
    | .error _ => false)
  | [_], [] => true
  | _, _ => false
def chkY (y : Nat) : Bool := match cod y with
  | .code _ b _ _ => walk (inf y).2.1 (pcs y) b (nth [] pcsL y) (prog y)
  | _ => false
def wAt (p : Nat) (w : Cond) : Bool := decide (nth .tt lw_tbl p = w)
set_option maxRecDepth 100000 in
theorem fpl_ok : fplL.all (fun q => wAt q.2.2.2 (.fieldLink (cnm q.1) q.2.1 (fT q.2.2.1).1 (fT q.2.2.1).2.1 (fT q.2.2.1).2.2.1)) = true := by decide +kernel
theorem mpl_ok : mplL.all (fun q => wAt q.2.2.2 (.methodLink (cnm q.1) q.2.1 (mnm q.2.2.1))) = true := by decide +kernel
def prmN (n : Nat) : MethodName := match n with
  | 0 => arraycopyName
  | 1 => Lib.Math.max.name
  | _ => Lib.Math.min.name
theorem apl_ok : aplL.all (fun q => Nat.ble q.2.2.1 2 && wAt q.2.2.2 (.methodLink (cnm q.1) q.2.1 (prmN q.2.2.1))) = true := by decide +kernel
theorem mm_ok : (wAt (nth 0 mmP 0) (.code Lib.Math.max.name Lib.Math.max.code 2 (some .int)) && wAt (nth 0 mmP 1) (.static Lib.Math.max.name) && wAt (nth 0 mmP 2) (.code Lib.Math.min.name Lib.Math.min.code 2 (some .int)) && wAt (nth 0 mmP 3) (.static Lib.Math.min.name) && wAt (nth 0 mmP 4) (.initialized "java/lang/Math")) = true := by decide +kernel
theorem kpl_ok : kplL.all (fun q => wAt q.2.2.2 (.constant (cnm q.1) q.2.1 (cK q.2.2.1))) = true := by decide +kernel
theorem lpl_ok : lplL.all (fun q => wAt q.2.2.2 (.constantLong (cnm q.1) q.2.1 (cL q.2.2.1))) = true := by decide +kernel
theorem ac_ok : (wAt acP.1 (.native arraycopyName) && wAt acP.2.1 (.static arraycopyName) && wAt acP.2.2 (.initialized "java/lang/System")) = true := by decide +kernel
def mOk (y : Nat) : Bool := match nth (0, 0, 0, 0) mpsL y with
  | (a, b, c, e) => (match cod y with
    | .code x _ m r => decide (x = mnm y) && Nat.beq m (inf y).2.2.1 && decide (r = (inf y).2.2.2.2.1)
    | _ => false) && wAt e (.initialized (mnm y).cls) && decide ((mnm y).cls = cnm (inf y).2.1) && plainName (mnm y).cls && decide ((mnm y).cls ≠ "java/lang/invoke/MethodHandle" ∧ (mnm y).cls ≠ "java/lang/invoke/VarHandle") && Nat.ble (inf y).2.2.1 12 && (match (inf y).2.2.2.2.2 with
    | 1 => wAt b (.static (mnm y)) && decide ((parseMethodDescriptor (mnm y).desc).map (fun d => d.parameters.length) = some (inf y).2.2.2.1)
    | _ => wAt b (.instanceMethod (mnm y)) && wAt c (.selects (mnm y).cls (mnm y) (mnm y)) && Nat.ble 1 (inf y).2.2.2.1 && decide ((parseMethodDescriptor (mnm y).desc).map (fun d => d.parameters.length) = some ((inf y).2.2.2.1 - 1)))
def fwOk (c : Nat) : Bool := (List.range (clT c).2.2).all (fun j => wAt (nth 0 (nth [] fwsL c) j) (u_lay (clT c).1 (clT c).2.1 j))
theorem fwAll : (List.range 10).all fwOk = true := by decide +kernel
end
section
/-! ===== the abstract machine is the machine: worlds ===== -/
theorem nth_ge {α : Type} {d : α} : ∀ {l : List α} {n : Nat}, l.length ≤ n → nth d l n = d
  | [], _, _ => rfl
  | _ :: l, 0, h => absurd h (by simp)
  | _ :: l, n + 1, h => nth_ge (l := l) (n := n) (by simpa using h)
theorem nth_get {α : Type} {d : α} : ∀ {l : List α} {n : Nat} {v : α}, l[n]? = some v → nth d l n = v
  | [], n, v, h => by simp at h
  | a :: l, 0, v, h => by simpa [nth] using h
  | a :: l, n + 1, v, h => by
    rw [List.getElem?_cons_succ] at h
    exact nth_get (l := l) h
theorem get_nth {α : Type} {d : α} : ∀ {l : List α} {n : Nat}, n < l.length → l[n]? = some (nth d l n)
  | [], n, h => absurd h (by simp)
  | a :: l, 0, h => by simp [nth]
  | a :: l, n + 1, h => by
    rw [List.getElem?_cons_succ]
    exact get_nth (l := l) (by simpa using h)
theorem nth_ne {α : Type} {d : α} {l : List α} {n : Nat} (h : nth d l n ≠ d) : l[n]? = some (nth d l n) := by
  by_cases hn : n < l.length
  · exact get_nth hn
  · exact absurd (nth_ge (by omega)) h
def cv (ad : Nat → Nat) (fz : Value) : Value → Value
  | .ref k => .ref (ad k)
  | .retAddr _ => fz
  | .int v => .int v
  | .long v => .long v
  | .float v => .float v
  | .double v => .double v
  | .null => .null
theorem cv_cat {ad : Nat → Nat} {fz : Value} (hf : fz.category = 1) (v : Value) : (cv ad fz v).category = v.category := by
  cases v <;> first | rfl | exact hf
def fl (sd k : Nat) : List (Nat × Nat) := nth [] (match sd with | 0 => fldX | _ => fldM) k
def fv (ad : Nat → Nat) (f : Nat → Int32) (g : Nat → Int64) (j : Nat) (q : Nat × Nat) : Value := match q with
  | (3, c) => .ref (ad c)
  | (2, _) => .long (g j)
  | _ => .int (f j)
def fsE (ad : Nat → Nat) (f : Nat → Int32) (g : Nat → Int64) : Nat → List (Nat × Nat) → List Value
  | _, [] => []
  | j, q :: r => fv ad f g j q :: fsE ad f g (j + 1) r
theorem fsE_get {ad : Nat → Nat} {f : Nat → Int32} {g : Nat → Int64} : ∀ (l : List (Nat × Nat)) (j0 j : Nat), (fsE ad f g j0 l)[j]? = (l[j]?).map (fv ad f g (j0 + j))
  | [], j0, j => by simp [fsE]
  | q :: r, j0, 0 => by simp [fsE]
  | q :: r, j0, j + 1 => by
    simp only [fsE, List.getElem?_cons_succ]
    rw [fsE_get r (j0 + 1) j, show j0 + 1 + j = j0 + (j + 1) by omega]
theorem fsE_len {ad : Nat → Nat} {f : Nat → Int32} {g : Nat → Int64} : ∀ (l : List (Nat × Nat)) (j0 : Nat), (fsE ad f g j0 l).length = l.length
  | [], j0 => rfl
  | q :: r, j0 => by simp [fsE, fsE_len r (j0 + 1)]
def cellE (sd : Nat) (ad tc : Nat → Nat) (f : Nat → Int32) (g : Nat → Int64) (k : Nat) : va_E := match lay sd k with
  | (0, ci, _) => .inr (ci, fsE ad f g 0 (fl sd k))
  | (1, n, _) => .inl (tc 0, n, .inl f)
  | (2, n, _) => .inl (tc 1, n, .inr (.inl g))
  | (3, n, _) => .inl (tc 2, n, .inl f)
  | (4, n, _) => .inl (tc 3, n, .inl f)
  | (5, n, c) => .inl (tc 4, n, .inr (.inr (.inr (.inr (fun j => some (ad (c + j)))))))
  | _ => .inr (99, [])
def Nw (sd : Nat) : Nat := match sd with
  | 0 => 65
  | _ => 26
def wl (sd : Nat) (ad tc : Nat → Nat) (μ : Mem) : va_W := (List.range (Nw sd)).map (fun k => (ad k, cellE sd ad tc (μ.1 k) (μ.2 k) k))
theorem wl_get {sd : Nat} {ad tc : Nat → Nat} {μ : Mem} {k : Nat} (hk : k < Nw sd) : (wl sd ad tc μ)[k]? = some (ad k, cellE sd ad tc (μ.1 k) (μ.2 k) k) := by
  simp [wl, hk]
theorem wl_set {sd : Nat} {ad tc : Nat → Nat} {μ μ' : Mem} {k : Nat} (hk : k < Nw sd) (h1 : ∀ a, a ≠ k → μ'.1 a = μ.1 a) (h2 : ∀ a, a ≠ k → μ'.2 a = μ.2 a) : (wl sd ad tc μ).set k (ad k, cellE sd ad tc (μ'.1 k) (μ'.2 k) k) = wl sd ad tc μ' := by
  apply List.ext_getElem?
  intro j
  by_cases hj : j < Nw sd
  · rw [wl_get hj]
    by_cases e : j = k
    · subst e
      rw [List.getElem?_set_self (by simp [wl, hj])]
    · rw [List.getElem?_set_ne (Ne.symm e), wl_get hj, h1 j e, h2 j e]
  · rw [List.getElem?_eq_none (by simp [wl]; omega), List.getElem?_eq_none (by simp [wl]; omega)]
theorem wl_addr {sd : Nat} {ad tc : Nat → Nat} {μ : Mem} {A : Nat → Prop} {μ' : Mem} (h : va_D A (wl sd ad tc μ)) : va_D A (wl sd ad tc μ') := by
  have key : ∀ (k : Nat) (q : Nat × va_E), (wl sd ad tc μ')[k]? = some q → ∃ q0, (wl sd ad tc μ)[k]? = some q0 ∧ q0.1 = q.1 := by
    intro k q hq
    have hk : k < Nw sd := by
      have := (List.getElem?_eq_some_iff.mp hq).1
      simpa [wl] using this
    rw [wl_get hk] at hq
    cases hq
    exact ⟨_, wl_get hk, rfl⟩
  refine ⟨fun i j x y hi hj hxy => ?_, fun k q hk => ?_⟩
  · obtain ⟨x0, a1, a2⟩ := key i x hi
    obtain ⟨y0, b1, b2⟩ := key j y hj
    exact h.1 i j x0 y0 a1 b1 (a2.trans (hxy.trans b2.symm))
  · obtain ⟨q0, a1, a2⟩ := key k q hk
    rw [← a2]
    exact h.2 k q0 a1
theorem wl_A {sd : Nat} {ad tc : Nat → Nat} {μ μ' : Mem} {sz q : Nat} (h : va_A (wl sd ad tc μ) sz q) : va_A (wl sd ad tc μ') sz q := by
  rcases h with ⟨k, e, h⟩ | h
  · have hk : k < Nw sd := by
      have := (List.getElem?_eq_some_iff.mp h).1
      simpa [wl] using this
    rw [wl_get hk] at h
    cases h
    exact Or.inl ⟨k, _, wl_get hk⟩
  · exact Or.inr h
def tysA (tc : Nat → Nat) : List (ClassId × FieldType) := [(tc 0, .int), (tc 1, .long), (tc 2, .boolean), (tc 3, .byte), (tc 4, .array .int)]
/-! what is only read -/
def abv : Nat → Int32 := fun j => nth 0 [-1, 0, 0, 1, 2, 1] j
def sLen : List Nat := [36, 61, 8]
def sByt : List (List Int32) := [[97, 100, 100, 115, 32, 48, 32, 59, 32, 119, 111, 114, 116, 104, 32, 53, 48, 32, 45, 32, 108, 101, 110, 103, 116, 104, 32, 59, 32, 109, 97, 121, 32, 49, 32, 59], [97, 100, 100, 115, 32, 119, 111, 114, 116, 104, 32, 109, 97, 121, 32, 111, 114, 32, 97, 110, 100, 32, 110, 111, 116, 32, 117, 115, 101, 100, 32, 104, 111, 117, 114, 32, 108, 101, 116, 116, 101, 114, 32, 108, 101, 110, 103, 116, 104, 32, 112, 117, 114, 115, 101, 32, 109, 97, 110, 121, 32], [40, 41, 59, 43, 45, 42, 60, 61]]
def strS : List String := ["adds 0 ; worth 50 - length ; may 1 ;", "adds worth may or and not used hour letter length purse many ", "();+-*<="]
def yWithin : MethodName := ⟨"DearerByUse", "within", "(II)Z"⟩
def ROm (sd : Nat) (μ : Mem) : Prop := match sd with
  | 0 => (∀ j, j < 6 → μ.1 65 j = abv j) ∧ ∀ i, i < 3 → μ.1 (66 + 2 * i) 1 = 0 ∧ ∀ j, j < sLen.getD i 0 → μ.1 (67 + 2 * i) j = (sByt.getD i []).getD j 0
  | _ => True
def ROs (sd : Nat) (ad : Nat → Nat) (fz : Value) (A : Nat → Prop) (U : State) (H : Heap) : Prop := match sd with
  | 0 => va_Z "DearerByUse$Laws" "ABOVE" "[I" (.ref (ad 65)) A U H ∧ va_T .int (ad 65) 6 (fun j => .int (abv j)) A U H ∧ va_Z "java/lang/String" "COMPACT_STRINGS" "Z" (.int 1) A U H ∧ va_Z "jdk/internal/util/Preconditions" "SIOOBE_FORMATTER" "Ljava/util/function/BiFunction;" fz A U H ∧
    vk_S 3 sLen sByt (fun i => ad (66 + 2 * i)) (fun i => ad (67 + 2 * i)) A U H ∧ vk_R "DearerByUse" 75 (strS.getD 0 "") (ad 66) U ∧ vk_R "DearerByUse$Reader" 115 (strS.getD 1 "") (ad 68) U ∧ vk_R "DearerByUse$Reader" 106 (strS.getD 2 "") (ad 70) U ∧
    va_Nw (.methodLinkNest "DearerByUse$Words" 24 yWithin "DearerByUse") U ∧ va_Nw (.methodLinkNest "DearerByUse$Writers" 21 yWithin "DearerByUse") U
  | _ => True
theorem ROs.warm {sd : Nat} {ad : Nat → Nat} {fz : Value} {A : Nat → Prop} {s U : State} {H : Heap} (hW : s.WarmedH U.vm) (h : ROs sd ad fz A s H) : ROs sd ad fz A U H := by
  match sd, h with
  | 0, ⟨h1, h2, h3, h4, h5, h6, h7, h8, h9, h10⟩ => exact ⟨h1.moved hW.alike, h2.moved hW.alike, h3.moved hW.alike, h4.moved hW.alike, h5.moved hW.alike, h6.warm hW, h7.warm hW, h8.warm hW, h9.warmM hW, h10.warmM hW⟩
  | n + 1, h => exact h
theorem ROs.same {sd : Nat} {ad : Nat → Nat} {fz : Value} {A : Nat → Prop} {s U : State} {H : Heap} (hv : s.vm = U.vm) (h : ROs sd ad fz A s H) : ROs sd ad fz A U H := by
  have hal : s.vm.Alike U.vm := by rw [hv]; exact Vm.Alike.refl _
  match sd, h with
  | 0, ⟨h1, h2, h3, h4, h5, h6, h7, h8, h9, h10⟩ => exact ⟨h1.moved hal, h2.moved hal, h3.moved hal, h4.moved hal, h5.moved hal, h6.same hv.symm, h7.same hv.symm, h8.same hv.symm, h9.same rfl hv, h10.same rfl hv⟩
  | n + 1, h => exact h
theorem ROs.kept {sd : Nat} {ad : Nat → Nat} {fz : Value} {A : Nat → Prop} {U : State} {H H1 : Heap} (h : ROs sd ad fz A U H) (hq : ∀ a : Nat, a < H.size → ¬ A a → H1[a]? = H[a]?) : ROs sd ad fz A U H1 := by
  match sd, h with
  | 0, ⟨h1, h2, h3, h4, h5, h6, h7, h8, h9, h10⟩ => exact ⟨h1.kept hq, h2.kept hq, h3.kept hq, h4.kept hq, h5.kept hq, h6, h7, h8, h9, h10⟩
  | n + 1, h => exact h
theorem ROs.narrow {sd : Nat} {ad : Nat → Nat} {fz : Value} {A B : Nat → Prop} {U : State} {H : Heap} (h : ROs sd ad fz A U H) (hAB : ∀ q, B q → A q) : ROs sd ad fz B U H := by
  match sd, h with
  | 0, ⟨h1, h2, h3, h4, h5, h6, h7, h8, h9, h10⟩ => exact ⟨h1.narrow hAB, h2.narrow hAB, h3.narrow hAB, h4.narrow hAB, h5.narrow hAB, h6, h7, h8, h9, h10⟩
  | n + 1, h => exact h
/-! locals -/
def lvp (ad : Nat → Nat) (fz : Value) (lv : List Value) : List (Nat × Value) := (List.range lv.length).filterMap (fun i => match lv[i]? with
  | some v => if v = un then none else some (i, cv ad fz v)
  | none => none)
theorem lvp_mem {ad : Nat → Nat} {fz : Value} {lv : List Value} {q : Nat × Value} : q ∈ lvp ad fz lv ↔ ∃ v, lv[q.1]? = some v ∧ v ≠ un ∧ q.2 = cv ad fz v := by
  unfold lvp
  rw [List.mem_filterMap]
  constructor
  · rintro ⟨i, hi, h⟩
    split at h
    · rename_i v hv
      split at h
      · cases h
      · rename_i hu
        cases h
        exact ⟨v, hv, hu, rfl⟩
    · cases h
  · rintro ⟨v, h1, h2, h3⟩
    refine ⟨q.1, List.mem_range.mpr (List.getElem?_eq_some_iff.mp h1).1, ?_⟩
    rw [h1]
    simp only [h2, if_false]
    rw [← h3]
def lvR (ad : Nat → Nat) (fz : Value) (ls : Array Slot) (nL : Nat) (lv : List Value) : Prop := lv.length = nL ∧ lv_has ls nL (lvp ad fz lv)
theorem lvR.get {ad : Nat → Nat} {fz : Value} {ls : Array Slot} {nL : Nat} {lv : List Value} (h : lvR ad fz ls nL lv) {n : Nat} {v : Value} (hn : nth un lv n = v) (hu : v ≠ un) : ls[n]? = some (.val (cv ad fz v)) := by
  have h1 : lv[n]? = some v := by rw [← hn]; exact nth_ne (by rw [hn]; exact hu)
  exact h.2.2.2 (n, cv ad fz v) (lvp_mem.mpr ⟨v, h1, hu, rfl⟩)
theorem lvR.set1 {ad : Nat → Nat} {fz : Value} {ls : Array Slot} {nL : Nat} {lv : List Value} {n : Nat} {v : Value} (hl : lv.length = nL) (hfz : fz.category = 1) (hok : okst lv n = true) (h : lv_has ls nL ((n, cv ad fz v) :: (lvp ad fz lv).filter (fun q => !(q.1 == n) && !(q.1 + 1 == n && q.2.category == 2)))) : lvR ad fz ls nL (lv.set n v) := by
  refine ⟨by simpa using hl, h.1, h.2.1, fun q hq => ?_⟩
  obtain ⟨w, h1, h2, h3⟩ := lvp_mem.mp hq
  by_cases e : q.1 = n
  · have h4 : w = v := by
      rw [e, List.getElem?_set_self (by
        have := (List.getElem?_eq_some_iff.mp h1).1
        rw [List.length_set] at this
        omega)] at h1
      exact (Option.some.inj h1).symm
    subst h4
    have : q = (n, cv ad fz w) := by rw [← h3, ← e]
    rw [this]
    exact h.2.2 _ List.mem_cons_self
  · rw [List.getElem?_set_ne (Ne.symm e)] at h1
    refine h.2.2 q (List.mem_cons_of_mem _ (List.mem_filter.mpr ⟨lvp_mem.mpr ⟨w, h1, h2, h3⟩, ?_⟩))
    have e1 : (q.1 == n) = false := by simpa using e
    have e2 : (q.1 + 1 == n && q.2.category == 2) = false := by
      by_cases e3 : q.1 + 1 = n
      · subst e3
        have e4 : isL (nth un lv q.1) = false := by simpa [okst] using hok
        rw [nth_get h1] at e4
        have e5 : q.2.category = w.category := by rw [h3]; exact cv_cat hfz w
        rw [e5]
        cases w <;> first | (cases e4; done) | simp [Value.category]
      · simp [e3]
    rw [e1, e2]
    rfl
theorem lvR.set2 {ad : Nat → Nat} {fz : Value} {ls : Array Slot} {nL : Nat} {lv : List Value} {n : Nat} {v : Value} (hl : lv.length = nL) (hfz : fz.category = 1) (hok : okst lv n = true) (h : lv_has ls nL ((n, cv ad fz v) :: (lvp ad fz lv).filter (fun q => !(q.1 == n) && (!(q.1 == n + 1) && !(q.1 + 1 == n && q.2.category == 2))))) : lvR ad fz ls nL ((lv.set n v).set (n + 1) un) := by
  refine ⟨by simpa using hl, h.1, h.2.1, fun q hq => ?_⟩
  obtain ⟨w, h1, h2, h3⟩ := lvp_mem.mp hq
  by_cases e0 : q.1 = n + 1
  · have hlt := (List.getElem?_eq_some_iff.mp h1).1
    rw [e0, List.getElem?_set_self (by
      simp only [List.length_set] at hlt ⊢
      omega)] at h1
    exact absurd (Option.some.inj h1).symm h2
  rw [List.getElem?_set_ne (Ne.symm e0)] at h1
  by_cases e : q.1 = n
  · have h4 : w = v := by
      rw [e, List.getElem?_set_self (by
        have := (List.getElem?_eq_some_iff.mp h1).1
        rw [List.length_set] at this
        omega)] at h1
      exact (Option.some.inj h1).symm
    subst h4
    have : q = (n, cv ad fz w) := by rw [← h3, ← e]
    rw [this]
    exact h.2.2 _ List.mem_cons_self
  · rw [List.getElem?_set_ne (Ne.symm e)] at h1
    refine h.2.2 q (List.mem_cons_of_mem _ (List.mem_filter.mpr ⟨lvp_mem.mpr ⟨w, h1, h2, h3⟩, ?_⟩))
    have e1 : (q.1 == n) = false := by simpa using e
    have e1' : (q.1 == n + 1) = false := by simpa using e0
    have e2 : (q.1 + 1 == n && q.2.category == 2) = false := by
      by_cases e3 : q.1 + 1 = n
      · subst e3
        have e4 : isL (nth un lv q.1) = false := by simpa [okst] using hok
        rw [nth_get h1] at e4
        have e5 : q.2.category = w.category := by rw [h3]; exact cv_cat hfz w
        rw [e5]
        cases w <;> first | (cases e4; done) | simp [Value.category]
      · simp [e3]
    rw [e1, e1', e2]
    rfl
theorem csum_cv {ad : Nat → Nat} {fz : Value} (hfz : fz.category = 1) : ∀ st : List Value, ((st.map (cv ad fz)).map fun v => v.category).sum = csum st
  | [] => rfl
  | v :: r => by
    simp only [List.map_cons, List.sum_cons, csum, cv_cat hfz]
    rw [csum_cv hfz r]
/-! places of words -/
theorem nth_mem {α : Type} {d : α} {l : List α} {n : Nat} (h : n < l.length) : nth d l n ∈ l := List.mem_of_getElem? (get_nth h)
end
section
/-! ===== the abstract machine is the machine: one step ===== -/
theorem pI_inv {st : List Value} {f : Int32 → List Value → Prop} (h : pI st f) : ∃ a r, st = .int a :: r ∧ f a r := by
  unfold pI at h; split at h <;> first | exact ⟨_, _, rfl, h⟩ | exact h.elim
theorem pII_inv {st : List Value} {f : Int32 → Int32 → List Value → Prop} (h : pII st f) : ∃ a b r, st = .int b :: .int a :: r ∧ f a b r := by
  unfold pII at h; split at h <;> first | exact ⟨_, _, _, rfl, h⟩ | exact h.elim
theorem pL_inv {st : List Value} {f : Int64 → List Value → Prop} (h : pL st f) : ∃ a r, st = .long a :: r ∧ f a r := by
  unfold pL at h; split at h <;> first | exact ⟨_, _, rfl, h⟩ | exact h.elim
theorem pLL_inv {st : List Value} {f : Int64 → Int64 → List Value → Prop} (h : pLL st f) : ∃ a b r, st = .long b :: .long a :: r ∧ f a b r := by
  unfold pLL at h; split at h <;> first | exact ⟨_, _, _, rfl, h⟩ | exact h.elim
theorem pLI_inv {st : List Value} {f : Int64 → Int32 → List Value → Prop} (h : pLI st f) : ∃ a b r, st = .int b :: .long a :: r ∧ f a b r := by
  unfold pLI at h; split at h <;> first | exact ⟨_, _, _, rfl, h⟩ | exact h.elim
theorem pR_inv {st : List Value} {f : Nat → List Value → Prop} (h : pR st f) : ∃ a r, st = .ref a :: r ∧ f a r := by
  unfold pR at h; split at h <;> first | exact ⟨_, _, rfl, h⟩ | exact h.elim
theorem pRI_inv {st : List Value} {f : Nat → Int32 → List Value → Prop} (h : pRI st f) : ∃ a b r, st = .int b :: .ref a :: r ∧ f a b r := by
  unfold pRI at h; split at h <;> first | exact ⟨_, _, _, rfl, h⟩ | exact h.elim
theorem pRII_inv {st : List Value} {f : Nat → Int32 → Int32 → List Value → Prop} (h : pRII st f) : ∃ a b v r, st = .int v :: .int b :: .ref a :: r ∧ f a b v r := by
  unfold pRII at h; split at h <;> first | exact ⟨_, _, _, _, rfl, h⟩ | exact h.elim
theorem pRIL_inv {st : List Value} {f : Nat → Int32 → Int64 → List Value → Prop} (h : pRIL st f) : ∃ a b v r, st = .long v :: .int b :: .ref a :: r ∧ f a b v r := by
  unfold pRIL at h; split at h <;> first | exact ⟨_, _, _, _, rfl, h⟩ | exact h.elim
theorem walk_at {own : Nat} {pcl : Nat → Nat} {b : ByteArray} : ∀ {ps : List Nat} {is : List Instr} {i : Nat}, walk own pcl b ps is = true → i < is.length → ∃ raw len, decode b (nth 0 ps i) = .ok (raw, len) ∧ okI own pcl (nth 0 ps i) (nth .nop is i) raw len = true ∧ nth 0 ps (i + 1) = nth 0 ps i + len
  | [], is, i, h, hi => by simp [walk] at h
  | [_], [], i, h, hi => by simp at hi
  | [_], _ :: _, i, h, hi => by simp [walk] at h
  | pc :: pc' :: ps, [], i, h, hi => by simp at hi
  | pc :: pc' :: ps, a :: is, i, h, hi => by
    simp only [walk] at h
    split at h
    · rename_i raw len hd
      simp only [Bool.and_eq_true] at h
      obtain ⟨⟨h1, h2⟩, h3⟩ := h
      cases i with
      | zero => exact ⟨raw, len, hd, h1, Nat.eq_of_beq_eq_true h2⟩
      | succ i => exact walk_at (ps := pc' :: ps) (is := is) (i := i) h3 (by simpa using hi)
    · cases h
theorem at_i {y i : Nat} (hc : chkY y = true) (hn : nth .nop (prog y) i ≠ .nop) : ∃ raw len, decode (bc y) (pcs y i) = .ok (raw, len) ∧ okI (inf y).2.1 (pcs y) (pcs y i) (nth .nop (prog y) i) raw len = true ∧ pcs y (i + 1) = pcs y i + len := by
  have hi : i < (prog y).length := by
    by_cases h : i < (prog y).length
    · exact h
    · exact absurd (nth_ge (by omega)) hn
  unfold chkY at hc
  split at hc
  · rename_i b _ _ he
    have hb : bc y = b := by unfold bc; rw [he]
    rw [hb]
    exact walk_at hc hi
  · cases hc
theorem gT_of {w : Cond} {p : Nat} (h : wAt p w = true) (hg : goodWord w = true) (hne : w ≠ .tt) : w ∈ gT := by
  have h1 : nth .tt lw_tbl p = w := of_decide_eq_true h
  have h2 : lw_tbl[p]? = some w := by rw [← h1]; exact nth_ne (by rw [h1]; exact hne)
  exact List.mem_filter.mpr ⟨List.mem_of_getElem? h2, hg⟩
theorem inP_at {l : List (Nat × Nat × Nat × Nat)} {own idx n : Nat} {f : Nat × Nat × Nat × Nat → Bool} (h : inP l own idx n = true) (ha : l.all f = true) : ∃ p, f (own, idx, n, p) = true := by
  obtain ⟨q, hq, h1⟩ := List.any_eq_true.mp h
  simp only [Bool.and_eq_true] at h1
  obtain ⟨⟨a1, a2⟩, a3⟩ := h1
  have e1 := Nat.eq_of_beq_eq_true a1
  have e2 := Nat.eq_of_beq_eq_true a2
  have e3 := Nat.eq_of_beq_eq_true a3
  obtain ⟨x1, x2, x3, x4⟩ := q
  dsimp only at e1 e2 e3
  subst e1; subst e2; subst e3
  exact ⟨x4, List.all_eq_true.mp ha _ hq⟩
def rmD (d : Nat) : Room := { frames := d + 1, cells := 0, slots := 0, locals := (d + 1) * 64 }
def Cx (p : Program) (R : Room) (s : State) (m : MethodId) (args : Array Value) (meth : Method) (c : Code) (D : va_G) (ad tc : Nat → Nat) (fz : Value) (A : Nat → Prop) (sd y d : Nat) : Prop :=
  p.tables.exec = Jvm.exec ∧ c.code = bc y ∧ meth.sig.returnType = (inf y).2.2.2.2.1 ∧ c.maxLocals = (inf y).2.2.1 ∧ s.vm.findClass (cnm (inf y).2.1) = some m.cls ∧ (∀ w ∈ gT, w.before args s = true) ∧ meth.locks = false ∧ va_K D vwCl (tysA tc) s ∧ ROs sd ad fz A s s.heap ∧ fz.category = 1 ∧ (inf y).1 = sd ∧ chkY y = true ∧ (∀ q, s.heap.size ≤ q → A q) ∧ R = rmD (d + 1)
def WA (p : Program) (l : Launch) (e : Env) (R : Room) (s : State) (m : MethodId) (args : Array Value) (below : List Frame) (meth : Method) (c : Code) (D : va_G) (ad tc : Nat → Nat) (fz : Value) (A : Nat → Prop) (sd y : Nat) (Z : State → Prop) : PP := fun i lv st μ =>
  ∀ (H : Heap) (locs : List Loc) (ls : Array Slot), lvR ad fz ls (inf y).2.2.1 lv → va_P D vwCl (wl sd ad tc μ) H → va_D A (wl sd ad tc μ) → va_S A s.heap H locs → ROm sd μ → W p l e R s m args below meth c H locs 0 0 Z (F0 m (pcs y i) ls (st.map (cv ad fz)))
section STEP
variable {p : Program} {l : Launch} {e : Env} {R : Room} {s : State} {m : MethodId} {args : Array Value} {below : List Frame} {meth : Method} {c : Code} {D : va_G} {ad tc : Nat → Nat} {fz : Value} {A : Nat → Prop} {sd y d : Nat} {Z : State → Prop} {i : Nat} {lv st : List Value} {μ : Mem} {raw : Instr} {len : Nat}
theorem s_pii (C : Cx p R s m args meth c D ad tc fz A sd y d) {ins : Instr} (f : Int32 → Int32 → Int32) (hok : (decide (raw = ins) && Nat.beq len 1) = true) (hdec : decode (bc y) (pcs y i) = .ok (raw, len)) (hnx : pcs y (i + 1) = pcs y i + len)
    (hrow : ∀ (H : Heap) (locs : List Loc) (ls : Array Slot) (a b : Int32) (rest : List Value), decode (bc y) (pcs y i) = .ok (ins, 1) → W p l e R s m args below meth c H locs 0 0 Z (F0 m (pcs y i + 1) ls (.int (f a b) :: rest)) → W p l e R s m args below meth c H locs 0 0 Z (F0 m (pcs y i) ls (.int b :: .int a :: rest)))
    (h : pII st (fun a b r => WA p l e R s m args below meth c D ad tc fz A sd y Z (i + 1) lv (.int (f a b) :: r) μ)) : WA p l e R s m args below meth c D ad tc fz A sd y Z i lv st μ := by
  obtain ⟨a, b, r, rfl, h⟩ := pII_inv h
  simp only [Bool.and_eq_true] at hok
  have e1 : raw = ins := of_decide_eq_true hok.1
  have e2 : len = 1 := Nat.eq_of_beq_eq_true hok.2
  subst e1; subst e2
  intro H locs ls hl hP hD hS hro
  refine hrow H locs ls a b _ hdec ?_
  have h1 := h H locs ls hl hP hD hS hro
  rw [hnx] at h1
  exact h1
end STEP
end
section
/-! ===== one step, kind by kind ===== -/
def rvl (t : Option FieldType) (r : Value) : Option Value := match t with
  | none => none
  | some _ => some r
def QcA (D : va_G) (ad tc : Nat → Nat) (A : Nat → Prop) (sd : Nat) (t : Option FieldType) (Q : QQ) : Array Value → State → Outcome → State → Prop := fun _ st oc u => (∃ r μ', oc = .returned (rvl t r) ∧ Q r μ' ∧ ROm sd μ' ∧ va_P D vwCl (wl sd ad tc μ') u.heap) ∧ va_F A st u
def PcA (D : va_G) (ad tc : Nat → Nat) (fz : Value) (sd : Nat) (as : List Value) (μ : Mem) (sz : Nat) : Array Value → State → Prop := va_Pc (as.map (cv ad fz)) (fun U => U.heap.size = sz ∧ va_P D vwCl (wl sd ad tc μ) U.heap ∧ va_K D vwCl (tysA tc) U ∧ va_D (fun _ => True) (wl sd ad tc μ) ∧ ROs sd ad fz (va_A (wl sd ad tc μ) sz) U U.heap)
theorem PcA_blind {D : va_G} {ad tc : Nat → Nat} {fz : Value} {sd : Nat} {as : List Value} {μ : Mem} {sz : Nat} : FrameBlind (PcA D ad tc fz sd as μ sz) := fun a U g mk q => by
  obtain ⟨q0, q1, qP, qK, qD, qR⟩ := q
  exact ⟨q0, q1, qP, va_K.moved (u := U) (U := U.calling g mk a) (Vm.Alike.refl U.vm) qK, qD, ROs.same (U := U.calling g mk a) rfl qR⟩
/-- what a method's row says -/
theorem mOk_spec {y : Nat} (h : mOk y = true) : cod y = .code (mnm y) (bc y) (inf y).2.2.1 (inf y).2.2.2.2.1 ∧ Cond.initialized (mnm y).cls ∈ gT ∧ (mnm y).cls = cnm (inf y).2.1 ∧ plainName (mnm y).cls = true ∧ ((mnm y).cls ≠ "java/lang/invoke/MethodHandle" ∧ (mnm y).cls ≠ "java/lang/invoke/VarHandle") ∧ (inf y).2.2.1 ≤ 12 ∧
    ((inf y).2.2.2.2.2 = 1 → Cond.static (mnm y) ∈ gT ∧ (parseMethodDescriptor (mnm y).desc).map (fun d => d.parameters.length) = some (inf y).2.2.2.1) ∧
    (¬ (inf y).2.2.2.2.2 = 1 → Cond.instanceMethod (mnm y) ∈ gT ∧ Cond.selects (mnm y).cls (mnm y) (mnm y) ∈ gT ∧ 1 ≤ (inf y).2.2.2.1 ∧ (parseMethodDescriptor (mnm y).desc).map (fun d => d.parameters.length) = some ((inf y).2.2.2.1 - 1)) := by
  unfold mOk at h
  generalize nth (0, 0, 0, 0) mpsL y = q at h
  obtain ⟨a, b, c, e⟩ := q
  dsimp only at h
  simp only [Bool.and_eq_true] at h
  obtain ⟨⟨⟨⟨⟨⟨h1, h2⟩, h3⟩, h4⟩, h5⟩, h6⟩, h7⟩ := h
  have hcod : cod y = .code (mnm y) (bc y) (inf y).2.2.1 (inf y).2.2.2.2.1 := by
    have hb : bc y = match cod y with
      | .code _ b _ _ => b
      | _ => ⟨#[]⟩ := rfl
    generalize cod y = w at h1 hb ⊢
    cases w <;> first | (cases h1; done) | skip
    simp only [Bool.and_eq_true] at h1
    obtain ⟨⟨g1, g2⟩, g3⟩ := h1
    rw [hb, of_decide_eq_true g1, Nat.eq_of_beq_eq_true g2, of_decide_eq_true g3]
  refine ⟨hcod, gT_of h2 rfl (fun q => by cases q), of_decide_eq_true h3, h4, of_decide_eq_true h5, Nat.le_of_ble_eq_true h6, fun hs => ?_, fun hs => ?_⟩
  · rw [hs] at h7
    simp only [Bool.and_eq_true] at h7
    exact ⟨gT_of h7.1 rfl (fun q => by cases q), of_decide_eq_true h7.2⟩
  · split at h7
    · rename_i q
      exact absurd q hs
    · simp only [Bool.and_eq_true] at h7
      obtain ⟨⟨⟨g1, g2⟩, g3⟩, g4⟩ := h7
      exact ⟨gT_of g1 rfl (fun q => by cases q), gT_of g2 rfl (fun q => by cases q), Nat.le_of_ble_eq_true g3, of_decide_eq_true g4⟩
theorem code_in {y : Nat} (h : mOk y = true) : Cond.code (mnm y) (bc y) (inf y).2.2.1 (inf y).2.2.2.2.1 ∈ gT := by
  have h1 := (mOk_spec h).1
  refine List.mem_filter.mpr ⟨?_, rfl⟩
  rw [← h1]
  refine List.mem_of_getElem? (i := (nth (0, 0, 0, 0) mpsL y).1) (nth_ne ?_)
  rw [show nth .tt lw_tbl (nth (0, 0, 0, 0) mpsL y).1 = cod y from rfl, h1]
  exact fun q => by cases q
theorem good_gT {w : Cond} (h : w ∈ gT) : goodWord w = true := (List.mem_filter.mp h).2
theorem wsY_good {y : Nat} (h : mOk y = true) : GoodIn gT (wsY y) := by
  intro w hw
  rcases List.mem_cons.mp hw with e | e
  · rw [e]
    exact ⟨code_in h, good_of_word rfl⟩
  · exact ⟨e, good_of_word (good_gT e)⟩
section RUN
variable {p : Program} {l : Launch} {e : Env} {R : Room} {s : State} {m : MethodId} {args : Array Value} {below : List Frame} {meth : Method} {c : Code} {D : va_G} {ad tc : Nat → Nat} {fz : Value} {A A1 : Nat → Prop} {sd : Nat} {Z : State → Prop} {H : Heap} {locs : List Loc} {pc : Nat} {ls : Array Slot} {st0 rest : List Value} {free : Addr → Prop} {Q : QQ} {t : Option FieldType} {as : Array Value}
theorem runA (hr : va_Run p l e R s m args below meth c H locs 0 0 0 0 (F0 m pc ls st0) rest (QcA D ad tc A1 sd t Q as) free) (hS : va_S A s.heap H locs) (hA : ∀ q, q < H.size → A1 q → A q) (hf : ∀ q, free q → A q)
    (kk : ∀ (r : Value) (μ' : Mem) (H1 : Heap) (locs1 : List Loc), Q r μ' → ROm sd μ' → va_P D vwCl (wl sd ad tc μ') H1 → va_S A s.heap H1 locs1 → W p l e R s m args below meth c H1 locs1 0 0 Z (F0 m (pc + 3) ls ((rvl t r).toList ++ rest))) : W p l e R s m args below meth c H locs 0 0 Z (F0 m pc ls st0) := by
  intro T hT X
  obtain ⟨v, st₀, u, T', L, h0, X', hL, e1, e2, ⟨⟨r, μ', hv, hq, hro, hP⟩, hz, hk⟩, st⟩ := hr T hT X
  cases hv
  rw [h0] at hz hk
  obtain ⟨t2, a1, b1⟩ := kk r μ' T'.heap (locs ++ L) hq hro (by rw [e1]; exact hP)
    ⟨Nat.le_trans hS.1 (by rw [e1]; exact hz), fun q h1 h2 => by rw [e1, hk q (Nat.lt_of_lt_of_le h1 hS.1) (fun z => h2 (hA q (Nat.lt_of_lt_of_le h1 hS.1) z))]; exact hS.2.1 q h1 h2, fun q hq => by
      rcases List.mem_append.mp hq with h | h
      · exact hS.2.2 q h
      · exact hf _ (hL q h)⟩ T' rfl X'
  exact ⟨t2, st t2 a1, b1⟩
end RUN
theorem inf_lt {y : Nat} (h : (inf y).1 ≠ 9) : y < 200 := by
  by_cases hy : y < 200
  · exact hy
  · refine absurd ?_ h
    unfold inf
    rw [nth_ge (show infL.length ≤ y from Nat.le_trans (by decide +kernel) (Nat.le_of_not_lt hy))]
/-! layouts -/
theorem vin0 {j : Int32} (h : vp_in j 0) : False := h (Or.inr (Nat.zero_le _))
theorem ilen_inv {sd k : Nat} {j : Int32} (h : vp_in j (ilen sd k)) : ∃ n b, lay sd k = (1, n, b) ∧ ilen sd k = n := by
  unfold ilen at h ⊢
  split at h
  · rename_i n b e
    exact ⟨n, b, e, rfl⟩
  · exact (vin0 h).elim
theorem wlen_inv {sd k : Nat} {j : Int32} (h : vp_in j (wlen sd k)) : ∃ n, lay sd k = (1, n, 0) ∧ wlen sd k = n := by
  unfold wlen at h ⊢
  split at h
  · rename_i n e
    exact ⟨n, e, rfl⟩
  · exact (vin0 h).elim
theorem llen_inv {sd k : Nat} {j : Int32} (h : vp_in j (llen sd k)) : ∃ n b, lay sd k = (2, n, b) ∧ llen sd k = n := by
  unfold llen at h ⊢
  split at h
  · rename_i n b e
    exact ⟨n, b, e, rfl⟩
  · exact (vin0 h).elim
theorem zlen_inv {sd k : Nat} {j : Int32} (h : vp_in j (zlen sd k)) : ∃ n b, lay sd k = (3, n, b) ∧ zlen sd k = n := by
  unfold zlen at h ⊢
  split at h
  · rename_i n b e
    exact ⟨n, b, e, rfl⟩
  · exact (vin0 h).elim
theorem alen_inv {sd k : Nat} {j : Int32} (h : vp_in j (alen sd k)) : ∃ n c, lay sd k = (5, n, c) ∧ alen sd k = n ∧ achild sd k = c := by
  unfold alen at h
  split at h
  · rename_i n b e
    exact ⟨n, b, e, by unfold alen; rw [e]; rfl, by unfold achild; rw [e]; rfl⟩
  · exact (vin0 h).elim
theorem lay_pos {sd k t n b : Nat} (h : lay sd k = (t, n, b)) (ht : t ≠ 9) : k < Nw sd ∨ (sd = 0 ∧ (k = 65 ∨ k = 66 ∨ k = 67 ∨ k = 68 ∨ k = 69 ∨ k = 70 ∨ k = 71)) := by
  unfold lay at h
  match sd, h with
  | 0, h =>
    by_cases hk : k < 65
    · exact Or.inl hk
    · right
      refine ⟨rfl, ?_⟩
      by_cases h72 : k < 72
      · omega
      · have h : nth (9, 0, 0) layX k = (t, n, b) := h
        rw [nth_ge (show layX.length ≤ k from Nat.le_trans (by decide) (Nat.le_of_not_lt h72))] at h
        cases h
        exact absurd rfl ht
  | sd + 1, h =>
    by_cases hk : k < 26
    · exact Or.inl hk
    · have h : nth (9, 0, 0) layM k = (t, n, b) := h
      rw [nth_ge (show layM.length ≤ k from Nat.le_trans (by decide) (Nat.le_of_not_lt hk))] at h
      cases h
      exact absurd rfl ht
theorem lay_arr {sd k n b : Nat} (h : lay sd k = (1, n, b)) : k < Nw sd ∨ (sd = 0 ∧ k = 65 ∧ n = 6 ∧ b = 1) := by
  rcases lay_pos h (by decide) with h1 | ⟨h1, h2⟩
  · exact Or.inl h1
  · subst h1
    rcases h2 with rfl | rfl | rfl | rfl | rfl | rfl | rfl <;> first | (right; cases h; exact ⟨rfl, rfl, rfl, rfl⟩) | (cases h; done)
theorem lay_byte {sd k n b : Nat} (h : lay sd k = (4, n, b)) (hN : ¬ k < Nw sd) : sd = 0 ∧ ∃ i, i < 3 ∧ k = 67 + 2 * i ∧ n = sLen.getD i 0 := by
  rcases lay_pos h (by decide) with h1 | ⟨h1, h2⟩
  · exact absurd h1 hN
  · subst h1
    rcases h2 with rfl | rfl | rfl | rfl | rfl | rfl | rfl <;> first | (cases h; exact ⟨rfl, 0, by decide, rfl, rfl⟩) | (cases h; exact ⟨rfl, 1, by decide, rfl, rfl⟩) | (cases h; exact ⟨rfl, 2, by decide, rfl, rfl⟩) | (cases h; done)
theorem lay_Nw {sd k t n b : Nat} (h : lay sd k = (t, n, b)) (ht : t = 2 ∨ t = 3 ∨ t = 5) : k < Nw sd := by
  rcases lay_pos h (by omega) with h1 | ⟨h1, h2⟩
  · exact h1
  · subst h1
    rcases h2 with rfl | rfl | rfl | rfl | rfl | rfl | rfl <;> (cases h; omega)
theorem lay_obj {sd k n b : Nat} (h : lay sd k = (0, n, b)) : k < Nw sd ∨ (sd = 0 ∧ ∃ i, i < 3 ∧ k = 66 + 2 * i ∧ n = 10) := by
  rcases lay_pos h (by decide) with h1 | ⟨h1, h2⟩
  · exact Or.inl h1
  · subst h1
    rcases h2 with rfl | rfl | rfl | rfl | rfl | rfl | rfl <;> first | (cases h; exact Or.inr ⟨rfl, 0, by decide, rfl, rfl⟩) | (cases h; exact Or.inr ⟨rfl, 1, by decide, rfl, rfl⟩) | (cases h; exact Or.inr ⟨rfl, 2, by decide, rfl, rfl⟩) | (cases h; done)
theorem clsIs_inv {sd k c : Nat} (h : clsIs sd k c = true) : ∃ b, lay sd k = (0, c, b) := by
  unfold clsIs at h
  split at h
  · rename_i c' b e
    rw [Nat.eq_of_beq_eq_true h] at e
    exact ⟨b, e⟩
  · cases h
/-- objects: their class is one of ten, their fields are as many, and those that are written are no final ones -/
def objOk (sd k : Nat) : Bool := match lay sd k with
  | (0, c, _) => Nat.blt c 10 && Nat.beq (fl sd k).length (clT c).2.2 && (List.range (fl sd k).length).all (fun j => match nth (9, 0) (fl sd k) j with
    | (0, _) => !((clT c).2.1 j).2.2.2 && decide (parseFieldDescriptor ((clT c).2.1 j).2.2.1 = some .int)
    | (1, _) => !((clT c).2.1 j).2.2.2 && decide (parseFieldDescriptor ((clT c).2.1 j).2.2.1 = some .boolean)
    | (2, _) => !((clT c).2.1 j).2.2.2 && decide (parseFieldDescriptor ((clT c).2.1 j).2.2.1 = some .long)
    | _ => true)
  | _ => true
theorem objAll0 : (List.range 65).all (objOk 0) = true := by decide +kernel
theorem objAll1 : (List.range 26).all (objOk 1) = true := by decide +kernel
theorem lay_sd (sd k : Nat) : lay (sd + 1) k = lay 1 k := rfl
theorem fl_sd (sd k : Nat) : fl (sd + 1) k = fl 1 k := rfl
theorem objAll {sd k : Nat} (h : k < Nw sd) : objOk sd k = true := by
  match sd, h with
  | 0, h => exact List.all_eq_true.mp objAll0 k (List.mem_range.mpr h)
  | sd + 1, h =>
    have := List.all_eq_true.mp objAll1 k (List.mem_range.mpr h)
    unfold objOk at this ⊢
    rw [lay_sd, fl_sd]
    exact this
theorem obj_spec {sd k c b : Nat} (hk : k < Nw sd) (h : lay sd k = (0, c, b)) : c < 10 ∧ (fl sd k).length = (clT c).2.2 ∧ ∀ j q, (fl sd k)[j]? = some q → (q.1 = 0 → ((clT c).2.1 j).2.2.2 = false ∧ parseFieldDescriptor ((clT c).2.1 j).2.2.1 = some .int) ∧ (q.1 = 1 → ((clT c).2.1 j).2.2.2 = false ∧ parseFieldDescriptor ((clT c).2.1 j).2.2.1 = some .boolean) ∧ (q.1 = 2 → ((clT c).2.1 j).2.2.2 = false ∧ parseFieldDescriptor ((clT c).2.1 j).2.2.1 = some .long) := by
  have h1 := objAll hk
  unfold objOk at h1
  rw [h] at h1
  simp only [Bool.and_eq_true] at h1
  obtain ⟨⟨a1, a2⟩, a3⟩ := h1
  refine ⟨Nat.le_of_ble_eq_true a1, Nat.eq_of_beq_eq_true a2, fun j q hq => ?_⟩
  have h2 := List.all_eq_true.mp a3 j (List.mem_range.mpr (List.getElem?_eq_some_iff.mp hq).1)
  rw [nth_get hq] at h2
  obtain ⟨q1, q2⟩ := q
  refine ⟨fun e => ?_, fun e => ?_, fun e => ?_⟩ <;> (dsimp only at e; subst e; simp only [Bool.and_eq_true, Bool.not_eq_true'] at h2; exact ⟨h2.1, of_decide_eq_true h2.2⟩)
theorem cl_get {c : Nat} (h : c < 10) : vwCl[c]? = some (clT c) := get_nth (l := vwCl) h
theorem cl_in {c : Nat} (h : c < 10) : ∀ w ∈ u_ws (clT c).1 (clT c).2.1 (clT c).2.2, w ∈ gT := by
  intro w hw
  obtain ⟨j, hj, rfl⟩ := List.mem_map.mp hw
  have h1 := List.all_eq_true.mp fwAll c (List.mem_range.mpr h)
  have h2 := List.all_eq_true.mp h1 j hj
  refine gT_of h2 ?_ ?_
  · unfold u_lay
    split <;> rfl
  · unfold u_lay
    split <;> exact fun q => by cases q
theorem cl_ty {c : Nat} (h : c < 10) : ∃ ty0 : Nat → FieldType, (∀ k, k < (clT c).2.2 → parseFieldDescriptor ((clT c).2.1 k).2.2.1 = some (ty0 k)) ∧ ∀ a, a < (clT c).2.2 → ∀ b, b < (clT c).2.2 → a ≠ b → ((clT c).2.1 a).2.1 ≠ ((clT c).2.1 b).2.1 := by
  match c, h with
  | 0, _ => exact ⟨tyX0, tyX0_ok, nmX0⟩
  | 1, _ => exact ⟨tyX1, tyX1_ok, nmX1⟩
  | 2, _ => exact ⟨tyX2, tyX2_ok, nmX2⟩
  | 3, _ => exact ⟨tyX3, tyX3_ok, nmX3⟩
  | 4, _ => exact ⟨tyX4, tyX4_ok, nmX4⟩
  | 5, _ => exact ⟨tyX5, tyX5_ok, nmX5⟩
  | 6, _ => exact ⟨tyX6, tyX6_ok, nmX6⟩
  | 7, _ => exact ⟨tyX7, tyX7_ok, nmX7⟩
  | 8, _ => exact ⟨tyX8, tyX8_ok, nmX8⟩
  | 9, _ => exact ⟨tyX9, tyX9_ok, nmX9⟩
  | n + 10, h => exact absurd h (by omega)
end
section
/-! ===== one step ===== -/
section STEP2
variable {p : Program} {l : Launch} {e : Env} {R : Room} {s : State} {m : MethodId} {args : Array Value} {below : List Frame} {meth : Method} {c : Code} {D : va_G} {ad tc : Nat → Nat} {fz : Value} {A : Nat → Prop} {sd y d : Nat} {Z : State → Prop} {i : Nat} {lv st : List Value} {μ : Mem} {raw : Instr} {len : Nat}
theorem simple {ins : Instr} (hok : (decide (raw = ins) && Nat.beq len 1) = true) (hdec : decode (bc y) (pcs y i) = .ok (raw, len)) (hnx : pcs y (i + 1) = pcs y i + len) : decode (bc y) (pcs y i) = .ok (ins, 1) ∧ pcs y (i + 1) = pcs y i + 1 := by
  simp only [Bool.and_eq_true] at hok
  have e1 : raw = ins := of_decide_eq_true hok.1
  have e2 : len = 1 := Nat.eq_of_beq_eq_true hok.2
  subst e1; subst e2
  exact ⟨hdec, hnx⟩
theorem WA.at {k n : Nat} (h : WA p l e R s m args below meth c D ad tc fz A sd y Z k lv st μ) (hk : pcs y k = n) : ∀ (H : Heap) (locs : List Loc) (ls : Array Slot), lvR ad fz ls (inf y).2.2.1 lv → va_P D vwCl (wl sd ad tc μ) H → va_D A (wl sd ad tc μ) → va_S A s.heap H locs → ROm sd μ → W p l e R s m args below meth c H locs 0 0 Z (F0 m n ls (st.map (cv ad fz))) := by
  intro H locs ls h1 h2 h3 h4 h5
  have h6 := h H locs ls h1 h2 h3 h4 h5
  rw [hk] at h6
  exact h6
theorem ROm.w {k : Nat} {g : Nat → Int32} (h : ROm sd μ) (hk : k < Nw sd) : ROm sd (wI μ k g) := by
  match sd, h, hk with
  | 0, ⟨h1, h2⟩, hk =>
    have hk : k < 65 := hk
    refine ⟨fun j hj => ?_, fun i hi => ⟨?_, fun j hj => ?_⟩⟩
    · simp only [wI, show ¬ (65 = k) by omega, if_false]
      exact h1 j hj
    · simp only [wI, show ¬ (66 + 2 * i = k) by omega, if_false]
      exact (h2 i hi).1
    · simp only [wI, show ¬ (67 + 2 * i = k) by omega, if_false]
      exact (h2 i hi).2 j hj
  | n + 1, h, _ => exact h
theorem ROm.wl {k : Nat} {g : Nat → Int64} (h : ROm sd μ) : ROm sd (wL μ k g) := h
theorem setI {k : Nat} {g : Nat → Int32} (hk : k < Nw sd) {e0 : va_E} (he : cellE sd ad tc g (μ.2 k) k = e0) : (wl sd ad tc μ).set k (ad k, e0) = wl sd ad tc (wI μ k g) := by
  rw [← he]
  have := wl_set (ad := ad) (tc := tc) (μ := μ) (μ' := wI μ k g) hk (fun a h => by simp [wI, h]) (fun a _ => rfl)
  simpa [wI] using this
theorem setL {k : Nat} {g : Nat → Int64} (hk : k < Nw sd) {e0 : va_E} (he : cellE sd ad tc (μ.1 k) g k = e0) : (wl sd ad tc μ).set k (ad k, e0) = wl sd ad tc (wL μ k g) := by
  rw [← he]
  have := wl_set (ad := ad) (tc := tc) (μ := μ) (μ' := wL μ k g) hk (fun a _ => rfl) (fun a h => by simp [wL, h])
  simpa [wL] using this
theorem fsE_set {f : Nat → Int32} {g : Nat → Int64} {v : Int32} : ∀ (l : List (Nat × Nat)) (j0 j : Nat) (q : Nat × Nat), l[j]? = some q → q.1 ≠ 3 → q.1 ≠ 2 → (fsE ad f g j0 l).set j (.int v) = fsE ad (upd f (j0 + j) v) g j0 l := by
  intro l j0 j q hq h3 h2
  apply List.ext_getElem?
  intro x
  by_cases e : x = j
  · subst e
    rw [List.getElem?_set_self (by rw [fsE_len]; exact (List.getElem?_eq_some_iff.mp hq).1), fsE_get, hq]
    obtain ⟨q1, q2⟩ := q
    dsimp only at h3 h2
    simp only [Option.map_some]
    congr 1
    unfold fv
    split
    · rename_i e2; cases e2; exact absurd rfl h3
    · rename_i e2; cases e2; exact absurd rfl h2
    · simp [upd]
  · rw [List.getElem?_set_ne (Ne.symm e), fsE_get, fsE_get]
    congr 1
    funext q'
    unfold fv
    split <;> first | rfl | (simp [upd]; exact fun z => absurd z e)
theorem fsE_setL {f : Nat → Int32} {g : Nat → Int64} {v : Int64} : ∀ (l : List (Nat × Nat)) (j0 j : Nat) (q : Nat × Nat), l[j]? = some q → q.1 = 2 → (fsE ad f g j0 l).set j (.long v) = fsE ad f (vp_updL g (j0 + j) v) j0 l := by
  intro l j0 j q hq h2
  apply List.ext_getElem?
  intro x
  by_cases e : x = j
  · subst e
    rw [List.getElem?_set_self (by rw [fsE_len]; exact (List.getElem?_eq_some_iff.mp hq).1), fsE_get, hq]
    obtain ⟨q1, q2⟩ := q
    dsimp only at h2
    subst h2
    simp [fv, vp_updL]
  · rw [List.getElem?_set_ne (Ne.symm e), fsE_get, fsE_get]
    congr 1
    funext q'
    unfold fv
    split <;> first | rfl | (simp [vp_updL]; exact fun z => absurd z e)
/-- branches -/
theorem s_cnd (C : Cx p R s m args meth c D ad tc fz A sd y d) {cd : Jvm.ClassFile.Cond} {off : Int} {H : Heap} {locs : List Loc} {ls : Array Slot} {a b : Int32} {r : List Value} {tgt : Nat} (hdec : decode (bc y) (pcs y i) = .ok (.if_icmp cd off, 3)) (ht : ((pcs y i : Nat) : Int) + off = (tgt : Int)) {X Y : Prop}
    (hX : X → W p l e R s m args below meth c H locs 0 0 Z (F0 m tgt ls r)) (hY : Y → W p l e R s m args below meth c H locs 0 0 Z (F0 m (pcs y i + 3) ls r)) (h : cnd cd a b X Y) : W p l e R s m args below meth c H locs 0 0 Z (F0 m (pcs y i) ls (.int b :: .int a :: r)) := by
  obtain ⟨hx, hb, -⟩ := C
  cases cd
  · exact lv_icmp_eq hx hb hdec ht (fun q => hX (h.1 q)) (fun q => hY (h.2 q))
  · exact lv_icmp_ne hx hb hdec ht (fun q => hX (h.1 q)) (fun q => hY (h.2 q))
  · exact lv_icmp_lt hx hb hdec ht (fun q => hX (h.1 q)) (fun q => hY (h.2 q))
  · exact lv_icmp_ge hx hb hdec ht (fun q => hX (h.1 q)) (fun q => hY (h.2 q))
  · exact lv_icmp_gt hx hb hdec ht (fun q => hX (h.1 q)) (fun q => hY (h.2 q))
  · exact lv_icmp_le hx hb hdec ht (fun q => hX (h.1 q)) (fun q => hY (h.2 q))
theorem s_cnd0 (C : Cx p R s m args meth c D ad tc fz A sd y d) {cd : Jvm.ClassFile.Cond} {off : Int} {H : Heap} {locs : List Loc} {ls : Array Slot} {a : Int32} {r : List Value} {tgt : Nat} (hdec : decode (bc y) (pcs y i) = .ok (.ifCond cd off, 3)) (ht : ((pcs y i : Nat) : Int) + off = (tgt : Int)) {X Y : Prop}
    (hX : X → W p l e R s m args below meth c H locs 0 0 Z (F0 m tgt ls r)) (hY : Y → W p l e R s m args below meth c H locs 0 0 Z (F0 m (pcs y i + 3) ls r)) (h : cnd cd a 0 X Y) : W p l e R s m args below meth c H locs 0 0 Z (F0 m (pcs y i) ls (.int a :: r)) := by
  obtain ⟨hx, hb, -⟩ := C
  cases cd
  · exact lv_if_eq hx hb hdec ht (fun q => hX (h.1 q)) (fun q => hY (h.2 q))
  · exact lv_if_ne hx hb hdec ht (fun q => hX (h.1 q)) (fun q => hY (h.2 q))
  · exact lv_if_lt hx hb hdec ht (fun q => hX (h.1 q)) (fun q => hY (h.2 q))
  · exact lv_if_ge hx hb hdec ht (fun q => hX (h.1 q)) (fun q => hY (h.2 q))
  · exact lv_if_gt hx hb hdec ht (fun q => hX (h.1 q)) (fun q => hY (h.2 q))
  · exact lv_if_le hx hb hdec ht (fun q => hX (h.1 q)) (fun q => hY (h.2 q))
theorem swc_T {x : Int32} {P : Nat → Prop} {pcl : Nat → Nat} {pc : Int} : ∀ (ps : List (Int × Int)) (os : List Int) (v : Int) (d : Nat), okT pcl pc v ps os = true → -1000 < v → v + (os.length : Int) < 1001 → swc x ps P d →
    ((x.toInt < v ∨ v + (os.length : Int) - 1 < x.toInt) ∧ P d) ∨ (¬ x.toInt < v ∧ ¬ v + (os.length : Int) - 1 < x.toInt ∧ ∃ o t, os[(x.toInt - v).toNat]? = some o ∧ pc + o = (pcl t : Int) ∧ P t)
  | [], [], v, d, _, _, _, h => by
    left
    exact ⟨by simp; omega, h⟩
  | [], _ :: _, v, d, h, _, _, _ => by simp [okT] at h
  | _ :: _, [], v, d, h, _, _, _ => by simp [okT] at h
  | (k, t) :: ps, o :: os, v, d, hk, h1, h2, h => by
    simp only [okT, Bool.and_eq_true] at hk
    obtain ⟨⟨g1, g2⟩, g3⟩ := hk
    have g1 : cK k.toNat = Int32.ofInt v := of_decide_eq_true g1
    have g2 : pc + o = (pcl t.toNat : Int) := of_decide_eq_true g2
    have hl : ((o :: os).length : Int) = (os.length : Int) + 1 := by simp
    rw [hl] at h2 ⊢
    have hv : (Int32.ofInt v).toInt = v := Int32.toInt_ofInt_of_le (by simp; omega) (by simp; omega)
    by_cases e : x = cK k.toNat
    · right
      have e2 : x.toInt = v := by rw [e, g1, hv]
      refine ⟨by omega, by omega, o, t.toNat, ?_, g2, h.1 e⟩
      rw [e2]
      simp
    · have h3 := swc_T ps os (v + 1) d g3 (by omega) (by omega) (h.2 e)
      have e2 : x.toInt ≠ v := by
        intro q
        apply e
        rw [g1, ← q]
        exact (Int32.ofInt_toInt x).symm
      rcases h3 with ⟨h4, h5⟩ | ⟨h4, h5, o', t', h6, h7⟩
      · left
        exact ⟨by omega, h5⟩
      · right
        refine ⟨by omega, by omega, o', t', ?_, h7⟩
        have : (x.toInt - v).toNat = (x.toInt - (v + 1)).toNat + 1 := by omega
        rw [this, List.getElem?_cons_succ]
        exact h6
theorem swc_L {x : Int32} {P : Nat → Prop} {pcl : Nat → Nat} {pc : Int} : ∀ (ps os : List (Int × Int)) (d : Nat) (df : Int), okL pcl pc ps os = true → pc + df = (pcl d : Int) → swc x ps P d → ∃ t, pc + Op.lookupswitch.offset os df x.toInt = (pcl t : Int) ∧ P t
  | [], [], d, df, _, hd, h => ⟨d, hd, h⟩
  | [], _ :: _, d, df, h, _, _ => by simp [okL] at h
  | _ :: _, [], d, df, h, _, _ => by simp [okL] at h
  | (k, t) :: ps, (v, o) :: os, d, df, hk, hd, h => by
    simp only [okL, Bool.and_eq_true] at hk
    obtain ⟨⟨⟨g1, g0⟩, g2⟩, g3⟩ := hk
    have g1 : cK k.toNat = Int32.ofInt v := of_decide_eq_true g1
    have g0 : (Int32.ofInt v).toInt = v := of_decide_eq_true g0
    have g2 : pc + o = (pcl t.toNat : Int) := of_decide_eq_true g2
    rw [Op.lookupswitch.offset_cons]
    by_cases e : x = cK k.toNat
    · have e2 : v = x.toInt := by rw [e, g1, g0]
      rw [if_pos e2]
      exact ⟨t.toNat, g2, h.1 e⟩
    · have e2 : ¬ v = x.toInt := by
        intro q
        apply e
        rw [g1, q]
        exact (Int32.ofInt_toInt x).symm
      rw [if_neg e2]
      exact swc_L ps os d df g3 hd (h.2 e)
end STEP2
end
section
/-! ===== every step ===== -/
section STEP3
variable {p : Program} {l : Launch} {e : Env} {R : Room} {s : State} {m : MethodId} {args : Array Value} {below : List Frame} {meth : Method} {c : Code} {D : va_G} {ad tc : Nat → Nat} {fz : Value} {A : Nat → Prop} {sd y d : Nat} {Z : State → Prop} {i : Nat} {lv st : List Value} {μ : Mem} {raw : Instr} {len : Nat}
theorem s_ldc (C : Cx p R s m args meth c D ad tc fz A sd y d) {n : Nat} (hok : okI (inf y).2.1 (pcs y) (pcs y i) (.ldc n) raw len = true) (hdec : decode (bc y) (pcs y i) = .ok (raw, len)) (hnx : pcs y (i + 1) = pcs y i + len) (h : WA p l e R s m args below meth c D ad tc fz A sd y Z (i + 1) lv (.int (cK n) :: st) μ) : WA p l e R s m args below meth c D ad tc fz A sd y Z i lv st μ := by
  have h1 := h.at hnx
  obtain ⟨hx, hb, hr, hml, hown, hts, -⟩ := C
  intro H locs ls hl hP hD hS hro
  have h2 := h1 H locs ls hl hP hD hS hro
  unfold okI at hok
  cases raw <;> first | (cases hok; done) | skip
  case bipush k =>
    simp only [Bool.and_eq_true] at hok
    obtain ⟨q1, q2⟩ := hok
    cases Nat.eq_of_beq_eq_true q1
    exact lv_bipush hx hb hdec (of_decide_eq_true q2) h2
  case iconst k =>
    simp only [Bool.and_eq_true] at hok
    obtain ⟨q1, q2⟩ := hok
    cases Nat.eq_of_beq_eq_true q1
    exact lv_iconst hx hb hdec (of_decide_eq_true q2) h2
  case sipush k =>
    simp only [Bool.and_eq_true] at hok
    obtain ⟨q1, q2⟩ := hok
    cases Nat.eq_of_beq_eq_true q1
    exact lv_sipush hx hb hdec (of_decide_eq_true q2) h2
  case ldc idx =>
    simp only [Bool.and_eq_true] at hok
    obtain ⟨q1, q2⟩ := hok
    cases Nat.eq_of_beq_eq_true q1
    obtain ⟨pz, hz⟩ := inP_at q2 kpl_ok
    exact lv_ldc hx hb hown (hts _ (gT_of hz rfl (fun q => by cases q))) hdec h2
  case ldc_w idx =>
    simp only [Bool.and_eq_true] at hok
    obtain ⟨q1, q2⟩ := hok
    cases Nat.eq_of_beq_eq_true q1
    obtain ⟨pz, hz⟩ := inP_at q2 kpl_ok
    exact lv_ldcw hx hb hown (hts _ (gT_of hz rfl (fun q => by cases q))) hdec h2
theorem s_ldc2 (C : Cx p R s m args meth c D ad tc fz A sd y d) {n : Nat} (hok : okI (inf y).2.1 (pcs y) (pcs y i) (.ldc2_w n) raw len = true) (hdec : decode (bc y) (pcs y i) = .ok (raw, len)) (hnx : pcs y (i + 1) = pcs y i + len) (h : WA p l e R s m args below meth c D ad tc fz A sd y Z (i + 1) lv (.long (cL n) :: st) μ) : WA p l e R s m args below meth c D ad tc fz A sd y Z i lv st μ := by
  have h1 := h.at hnx
  obtain ⟨hx, hb, hr, hml, hown, hts, -⟩ := C
  intro H locs ls hl hP hD hS hro
  have h2 := h1 H locs ls hl hP hD hS hro
  unfold okI at hok
  cases raw <;> first | (cases hok; done) | skip
  case lconst f =>
    simp only [Bool.and_eq_true] at hok
    obtain ⟨q1, q2⟩ := hok
    cases Nat.eq_of_beq_eq_true q1
    exact lv_lconst hx hb hdec (of_decide_eq_true q2) h2
  case ldc2_w idx =>
    simp only [Bool.and_eq_true] at hok
    obtain ⟨q1, q2⟩ := hok
    cases Nat.eq_of_beq_eq_true q1
    obtain ⟨pz, hz⟩ := inP_at q2 lpl_ok
    exact lv_ldc2 hx hb hown (hts _ (gT_of hz rfl (fun q => by cases q))) hdec h2
theorem s_loads (C : Cx p R s m args meth c D ad tc fz A sd y d) {n : Nat} {v : Value} (hv : nth un lv n = v) (hdec : decode (bc y) (pcs y i) = .ok (raw, len)) (hnx : pcs y (i + 1) = pcs y i + len) (h : WA p l e R s m args below meth c D ad tc fz A sd y Z (i + 1) lv (v :: st) μ)
    (hw : (∃ x, v = .int x ∧ okI (inf y).2.1 (pcs y) (pcs y i) (.iload n) raw len = true) ∨ (∃ x, v = .long x ∧ okI (inf y).2.1 (pcs y) (pcs y i) (.lload n) raw len = true) ∨ (∃ x, v = .ref x ∧ okI (inf y).2.1 (pcs y) (pcs y i) (.aload n) raw len = true)) : WA p l e R s m args below meth c D ad tc fz A sd y Z i lv st μ := by
  have h1 := h.at hnx
  obtain ⟨hx, hb, hr, hml, hown, hts, -⟩ := C
  intro H locs ls hl hP hD hS hro
  have h2 := h1 H locs ls hl hP hD hS hro
  rcases hw with ⟨x, rfl, hok⟩ | ⟨x, rfl, hok⟩ | ⟨x, rfl, hok⟩
  · have hg := hl.get hv (fun q => by cases q)
    unfold okI at hok
    cases raw <;> first | (cases hok; done) | skip
    case iload k =>
      simp only [Bool.and_eq_true] at hok
      cases Nat.eq_of_beq_eq_true hok.1
      cases Nat.eq_of_beq_eq_true hok.2
      exact lv_iload hx hb hdec hg h2
    case iload_n k =>
      simp only [Bool.and_eq_true] at hok
      cases Nat.eq_of_beq_eq_true hok.2
      exact lv_iload_n hx hb hdec (Nat.eq_of_beq_eq_true hok.1) hg h2
  · have hg := hl.get hv (fun q => by cases q)
    unfold okI at hok
    cases raw <;> first | (cases hok; done) | skip
    case lload k =>
      simp only [Bool.and_eq_true] at hok
      cases Nat.eq_of_beq_eq_true hok.1
      cases Nat.eq_of_beq_eq_true hok.2
      exact lv_lload hx hb hdec hg h2
    case lload_n k =>
      simp only [Bool.and_eq_true] at hok
      cases Nat.eq_of_beq_eq_true hok.2
      exact lv_lload_n hx hb hdec (Nat.eq_of_beq_eq_true hok.1) hg h2
  · have hg := hl.get hv (fun q => by cases q)
    unfold okI at hok
    cases raw <;> first | (cases hok; done) | skip
    case aload k =>
      simp only [Bool.and_eq_true] at hok
      cases Nat.eq_of_beq_eq_true hok.1
      cases Nat.eq_of_beq_eq_true hok.2
      exact lv_aload hx hb hdec hg h2
    case aload_n k =>
      simp only [Bool.and_eq_true] at hok
      cases Nat.eq_of_beq_eq_true hok.2
      exact lv_aload_n hx hb hdec (Nat.eq_of_beq_eq_true hok.1) hg h2
theorem s_istore (C : Cx p R s m args meth c D ad tc fz A sd y d) {n : Nat} {x : Int32} (hok : okI (inf y).2.1 (pcs y) (pcs y i) (.istore n) raw len = true) (hdec : decode (bc y) (pcs y i) = .ok (raw, len)) (hnx : pcs y (i + 1) = pcs y i + len) (ho : (okst lv n && Nat.blt n lv.length) = true) (h : WA p l e R s m args below meth c D ad tc fz A sd y Z (i + 1) (lv.set n (.int x)) st μ) : WA p l e R s m args below meth c D ad tc fz A sd y Z i lv (.int x :: st) μ := by
  have h1 := h.at hnx
  obtain ⟨hx, hb, hr, hml, hown, hts, -, -, -, hfz, -⟩ := C
  simp only [Bool.and_eq_true] at ho
  obtain ⟨o1, o2⟩ := ho
  intro H locs ls hl hP hD hS hro
  have hn : n < (inf y).2.2.1 := by rw [← hl.1]; exact Nat.le_of_ble_eq_true o2
  have kk : ∀ ls' : Array Slot, lv_has ls' (inf y).2.2.1 ((n, .int x) :: (lvp ad fz lv).filter (fun q => !(q.1 == n) && !(q.1 + 1 == n && q.2.category == 2))) → W p l e R s m args below meth c H locs 0 0 Z (F0 m (pcs y i + len) ls' (st.map (cv ad fz))) := fun ls' hl' => h1 H locs ls' (lvR.set1 hl.1 hfz o1 hl') hP hD hS hro
  unfold okI at hok
  cases raw <;> first | (cases hok; done) | skip
  case istore k =>
    simp only [Bool.and_eq_true] at hok
    cases Nat.eq_of_beq_eq_true hok.1
    cases Nat.eq_of_beq_eq_true hok.2
    exact lv_istore hx hb hdec hl.2 hn rfl kk
  case istore_n k =>
    simp only [Bool.and_eq_true] at hok
    cases Nat.eq_of_beq_eq_true hok.2
    exact lv_istore_n hx hb hdec (Nat.eq_of_beq_eq_true hok.1) hl.2 hn rfl kk
theorem s_astore (C : Cx p R s m args meth c D ad tc fz A sd y d) {n : Nat} {x : Nat} (hok : okI (inf y).2.1 (pcs y) (pcs y i) (.astore n) raw len = true) (hdec : decode (bc y) (pcs y i) = .ok (raw, len)) (hnx : pcs y (i + 1) = pcs y i + len) (ho : (okst lv n && Nat.blt n lv.length) = true) (h : WA p l e R s m args below meth c D ad tc fz A sd y Z (i + 1) (lv.set n (.ref x)) st μ) : WA p l e R s m args below meth c D ad tc fz A sd y Z i lv (.ref x :: st) μ := by
  have h1 := h.at hnx
  obtain ⟨hx, hb, hr, hml, hown, hts, -, -, -, hfz, -⟩ := C
  simp only [Bool.and_eq_true] at ho
  obtain ⟨o1, o2⟩ := ho
  intro H locs ls hl hP hD hS hro
  have hn : n < (inf y).2.2.1 := by rw [← hl.1]; exact Nat.le_of_ble_eq_true o2
  have kk : ∀ ls' : Array Slot, lv_has ls' (inf y).2.2.1 ((n, .ref (ad x)) :: (lvp ad fz lv).filter (fun q => !(q.1 == n) && !(q.1 + 1 == n && q.2.category == 2))) → W p l e R s m args below meth c H locs 0 0 Z (F0 m (pcs y i + len) ls' (st.map (cv ad fz))) := fun ls' hl' => h1 H locs ls' (lvR.set1 (v := .ref x) hl.1 hfz o1 hl') hP hD hS hro
  unfold okI at hok
  cases raw <;> first | (cases hok; done) | skip
  case astore k =>
    simp only [Bool.and_eq_true] at hok
    cases Nat.eq_of_beq_eq_true hok.1
    cases Nat.eq_of_beq_eq_true hok.2
    exact lv_astore hx hb hdec hl.2 hn rfl kk
  case astore_n k =>
    simp only [Bool.and_eq_true] at hok
    cases Nat.eq_of_beq_eq_true hok.2
    exact lv_astore_n hx hb hdec (Nat.eq_of_beq_eq_true hok.1) hl.2 hn rfl kk
theorem s_lstore (C : Cx p R s m args meth c D ad tc fz A sd y d) {n : Nat} {x : Int64} (hok : okI (inf y).2.1 (pcs y) (pcs y i) (.lstore n) raw len = true) (hdec : decode (bc y) (pcs y i) = .ok (raw, len)) (hnx : pcs y (i + 1) = pcs y i + len) (ho : (okst lv n && Nat.blt (n + 1) lv.length) = true) (h : WA p l e R s m args below meth c D ad tc fz A sd y Z (i + 1) ((lv.set n (.long x)).set (n + 1) un) st μ) : WA p l e R s m args below meth c D ad tc fz A sd y Z i lv (.long x :: st) μ := by
  have h1 := h.at hnx
  obtain ⟨hx, hb, hr, hml, hown, hts, -, -, -, hfz, -⟩ := C
  simp only [Bool.and_eq_true] at ho
  obtain ⟨o1, o2⟩ := ho
  intro H locs ls hl hP hD hS hro
  have hn : n + 1 < (inf y).2.2.1 := by rw [← hl.1]; exact Nat.le_of_ble_eq_true o2
  have kk : ∀ ls' : Array Slot, lv_has ls' (inf y).2.2.1 ((n, .long x) :: (lvp ad fz lv).filter (fun q => !(q.1 == n) && (!(q.1 == n + 1) && !(q.1 + 1 == n && q.2.category == 2)))) → W p l e R s m args below meth c H locs 0 0 Z (F0 m (pcs y i + len) ls' (st.map (cv ad fz))) := fun ls' hl' => h1 H locs ls' (lvR.set2 (v := .long x) hl.1 hfz o1 hl') hP hD hS hro
  unfold okI at hok
  cases raw <;> first | (cases hok; done) | skip
  case lstore k =>
    simp only [Bool.and_eq_true] at hok
    cases Nat.eq_of_beq_eq_true hok.1
    cases Nat.eq_of_beq_eq_true hok.2
    exact lv_lstore hx hb hdec hl.2 hn rfl kk
  case lstore_n k =>
    simp only [Bool.and_eq_true] at hok
    cases Nat.eq_of_beq_eq_true hok.2
    exact lv_lstore_n hx hb hdec (Nat.eq_of_beq_eq_true hok.1) hl.2 hn rfl kk
theorem s_iinc (C : Cx p R s m args meth c D ad tc fz A sd y d) {n : Nat} {ci : Int} {x : Int32} (hok : okI (inf y).2.1 (pcs y) (pcs y i) (.iinc n ci) raw len = true) (hdec : decode (bc y) (pcs y i) = .ok (raw, len)) (hnx : pcs y (i + 1) = pcs y i + len) (hv : nth un lv n = .int x) (ho : (okst lv n && Nat.blt n lv.length) = true) (h : WA p l e R s m args below meth c D ad tc fz A sd y Z (i + 1) (lv.set n (.int (x + cK ci.toNat))) st μ) : WA p l e R s m args below meth c D ad tc fz A sd y Z i lv st μ := by
  have h1 := h.at hnx
  obtain ⟨hx, hb, hr, hml, hown, hts, -, -, -, hfz, -⟩ := C
  simp only [Bool.and_eq_true] at ho
  obtain ⟨o1, o2⟩ := ho
  intro H locs ls hl hP hD hS hro
  have hn : n < (inf y).2.2.1 := by rw [← hl.1]; exact Nat.le_of_ble_eq_true o2
  have hg : lv[n]? = some (.int x) := by rw [← hv]; exact nth_ne (by rw [hv]; exact fun q => by cases q)
  obtain ⟨k0, hk0⟩ := List.getElem?_of_mem (lvp_mem (ad := ad) (fz := fz) (q := (n, .int x)).mpr ⟨.int x, hg, (fun q => by cases q), rfl⟩)
  have kk : ∀ ls' : Array Slot, lv_has ls' (inf y).2.2.1 ((n, .int (x + cK ci.toNat)) :: (lvp ad fz lv).filter (fun q => !(q.1 == n) && !(q.1 + 1 == n && q.2.category == 2))) → W p l e R s m args below meth c H locs 0 0 Z (F0 m (pcs y i + len) ls' (st.map (cv ad fz))) := fun ls' hl' => h1 H locs ls' (lvR.set1 (v := .int (x + cK ci.toNat)) hl.1 hfz o1 hl') hP hD hS hro
  unfold okI at hok
  cases raw <;> first | (cases hok; done) | skip
  case iinc k v =>
    simp only [Bool.and_eq_true] at hok
    obtain ⟨⟨q1, q2⟩, q3⟩ := hok
    cases Nat.eq_of_beq_eq_true q1
    cases Nat.eq_of_beq_eq_true q2
    exact lv_iinc hx hb hdec hl.2 hk0 (by rw [of_decide_eq_true q3]) hn rfl kk
theorem s_switch (C : Cx p R s m args meth c D ad tc fz A sd y d) {dv : Int} {ps : Array (Int × Int)} {x : Int32} (hok : okI (inf y).2.1 (pcs y) (pcs y i) (.lookupswitch dv ps) raw len = true) (hdec : decode (bc y) (pcs y i) = .ok (raw, len)) (h : swc x ps.toList (fun t => WA p l e R s m args below meth c D ad tc fz A sd y Z t lv st μ) dv.toNat) : WA p l e R s m args below meth c D ad tc fz A sd y Z i lv (.int x :: st) μ := by
  obtain ⟨hx, hb, -⟩ := C
  intro H locs ls hl hP hD hS hro
  unfold okI at hok
  cases raw <;> first | (cases hok; done) | skip
  case lookupswitch df qs =>
    simp only [Bool.and_eq_true] at hok
    obtain ⟨⟨q1, q2⟩, q3⟩ := hok
    obtain ⟨t, h1, h2⟩ := swc_L _ _ _ _ q2 (of_decide_eq_true q1) h
    exact lv_lookup hx hb hdec q3 rfl h1 (h2 H locs ls hl hP hD hS hro)
  case tableswitch df lo hi offs =>
    simp only [Bool.and_eq_true] at hok
    obtain ⟨⟨⟨q1, q2⟩, q3⟩, q4⟩ := hok
    have q3 : hi = lo + (offs.toList.length : Int) - 1 := of_decide_eq_true q3
    have q4 : -1000 < lo ∧ hi < 1000 := of_decide_eq_true q4
    rcases swc_T _ _ _ _ q2 q4.1 (by omega) h with ⟨h1, h2⟩ | ⟨h1, h2, o, t, h3, h4, h5⟩
    · exact lv_tableOut hx hb hdec (by rw [q3]; exact h1) (of_decide_eq_true q1) (h2 H locs ls hl hP hD hS hro)
    · exact lv_tableIn hx hb hdec h1 (by rw [q3]; exact h2) (by rw [← Array.getElem?_toList]; exact h3) h4 (h5 H locs ls hl hP hD hS hro)
end STEP3
end
section
/-! ===== cells ===== -/
section STEP4
variable {p : Program} {l : Launch} {e : Env} {R : Room} {s : State} {m : MethodId} {args : Array Value} {below : List Frame} {meth : Method} {c : Code} {D : va_G} {ad tc : Nat → Nat} {fz : Value} {A : Nat → Prop} {sd y d : Nat} {Z : State → Prop} {i : Nat} {lv st : List Value} {μ : Mem} {raw : Instr} {len : Nat}
theorem cell_1 {k n b : Nat} {f : Nat → Int32} {g : Nat → Int64} (h : lay sd k = (1, n, b)) : cellE sd ad tc f g k = .inl (tc 0, n, .inl f) := by unfold cellE; rw [h]; rfl
theorem cell_2 {k n b : Nat} {f : Nat → Int32} {g : Nat → Int64} (h : lay sd k = (2, n, b)) : cellE sd ad tc f g k = .inl (tc 1, n, .inr (.inl g)) := by unfold cellE; rw [h]; rfl
theorem cell_3 {k n b : Nat} {f : Nat → Int32} {g : Nat → Int64} (h : lay sd k = (3, n, b)) : cellE sd ad tc f g k = .inl (tc 2, n, .inl f) := by unfold cellE; rw [h]; rfl
theorem cell_4 {k n b : Nat} {f : Nat → Int32} {g : Nat → Int64} (h : lay sd k = (4, n, b)) : cellE sd ad tc f g k = .inl (tc 3, n, .inl f) := by unfold cellE; rw [h]; rfl
theorem cell_5 {k n b : Nat} {f : Nat → Int32} {g : Nat → Int64} (h : lay sd k = (5, n, b)) : cellE sd ad tc f g k = .inl (tc 4, n, .inr (.inr (.inr (.inr (fun j => some (ad (b + j))))))) := by unfold cellE; rw [h]; rfl
theorem cell_0 {k n b : Nat} {f : Nat → Int32} {g : Nat → Int64} (h : lay sd k = (0, n, b)) : cellE sd ad tc f g k = .inr (n, fsE ad f g 0 (fl sd k)) := by unfold cellE; rw [h]; rfl
theorem fT_640 : fT 640 = ("java/lang/String", "value", "[B", true) := by decide +kernel
theorem fT_641 : fT 641 = ("java/lang/String", "coder", "B", true) := by decide +kernel
theorem vin_lt {j : Int32} {n : Nat} (h : vp_in j n) : j.toNatClampNeg < n := Nat.not_le.mp fun q => h (Or.inr q)
theorem s_iaload (C : Cx p R s m args meth c D ad tc fz A sd y d) {k : Nat} {j : Int32} (hdec : decode (bc y) (pcs y i) = .ok (.iaload, 1)) (hnx : pcs y (i + 1) = pcs y i + 1) (hj : vp_in j (ilen sd k)) (h : WA p l e R s m args below meth c D ad tc fz A sd y Z (i + 1) lv (.int (μ.1 k j.toNatClampNeg) :: st) μ) : WA p l e R s m args below meth c D ad tc fz A sd y Z i lv (.int j :: .ref k :: st) μ := by
  have h1 := h.at hnx
  obtain ⟨hx, hb, hr, hml, hown, hts, hlk, hK, hRO, hfz, -⟩ := C
  intro H locs ls hl hP hD hS hro
  have h2 := h1 H locs ls hl hP hD hS hro
  obtain ⟨n, b, hy, hn⟩ := ilen_inv hj
  rw [hn] at hj
  rcases lay_arr hy with hk | ⟨rfl, rfl, rfl, rfl⟩
  · exact va_iald hx hb hK hP k 0 (by rw [wl_get hk, cell_1 hy]) rfl hj hdec h2
  · obtain ⟨-, hT, -⟩ := hRO
    exact va_ti hx hb hT hS hj (by rw [← hro.1 _ (vin_lt hj)]; rfl) hdec h2
theorem s_iastore (C : Cx p R s m args meth c D ad tc fz A sd y d) {k : Nat} {j v : Int32} (hdec : decode (bc y) (pcs y i) = .ok (.iastore, 1)) (hnx : pcs y (i + 1) = pcs y i + 1) (hj : vp_in j (wlen sd k)) (h : ∀ μ' : Mem, μ' = wI μ k (upd (μ.1 k) j.toNatClampNeg v) → WA p l e R s m args below meth c D ad tc fz A sd y Z (i + 1) lv st μ') : WA p l e R s m args below meth c D ad tc fz A sd y Z i lv (.int v :: .int j :: .ref k :: st) μ := by
  have h1 := (h _ rfl).at hnx
  obtain ⟨hx, hb, hr, hml, hown, hts, hlk, hK, hRO, hfz, -⟩ := C
  intro H locs ls hl hP hD hS hro
  obtain ⟨n, hy, hn⟩ := wlen_inv hj
  rw [hn] at hj
  rcases lay_arr hy with hk | ⟨-, -, -, hb⟩
  · refine va_iast hx hb hK hP hD hS k 0 (by rw [wl_get hk, cell_1 hy]) rfl hj hdec (fun H1 locs1 hP1 hD1 hS1 => ?_)
    rw [setI hk (cell_1 hy)] at hP1 hD1
    exact h1 H1 locs1 ls hl hP1 hD1 hS1 (hro.w hk)
  · cases hb
theorem s_baload (C : Cx p R s m args meth c D ad tc fz A sd y d) {k : Nat} {j : Int32} (hdec : decode (bc y) (pcs y i) = .ok (.baload, 1)) (hnx : pcs y (i + 1) = pcs y i + 1) (hj : vp_in j (zlen sd k + blen sd k)) (h : WA p l e R s m args below meth c D ad tc fz A sd y Z (i + 1) lv (.int (μ.1 k j.toNatClampNeg) :: st) μ) : WA p l e R s m args below meth c D ad tc fz A sd y Z i lv (.int j :: .ref k :: st) μ := by
  have h1 := h.at hnx
  obtain ⟨hx, hb, hr, hml, hown, hts, hlk, hK, hRO, hfz, -⟩ := C
  intro H locs ls hl hP hD hS hro
  have h2 := h1 H locs ls hl hP hD hS hro
  have hz : (∃ n b, lay sd k = (3, n, b) ∧ zlen sd k + blen sd k = n) ∨ (∃ n b, lay sd k = (4, n, b) ∧ zlen sd k + blen sd k = n) := by
    generalize hy : lay sd k = q
    obtain ⟨t, n, b⟩ := q
    by_cases h3 : t = 3
    · subst h3
      left
      exact ⟨n, b, rfl, by simp [zlen, blen, hy]⟩
    · by_cases h4 : t = 4
      · subst h4
        right
        exact ⟨n, b, rfl, by simp [zlen, blen, hy]⟩
      · exfalso
        have e1 : zlen sd k = 0 := by
          unfold zlen
          rw [hy]
          split
          · rename_i q; cases q; exact absurd rfl h3
          · rfl
        have e2 : blen sd k = 0 := by
          unfold blen
          rw [hy]
          split
          · rename_i q; cases q; exact absurd rfl h4
          · rfl
        rw [e1, e2] at hj
        exact vin0 hj
  rcases hz with ⟨n, b, hy, hn⟩ | ⟨n, b, hy, hn⟩
  · rw [hn] at hj
    have hk := lay_Nw hy (by omega)
    exact va_zald hx hb hK hP k 2 (by rw [wl_get hk, cell_3 hy]) rfl hj hdec h2
  · rw [hn] at hj
    by_cases hk : k < Nw sd
    · exact va_bald hx hb hK hP k 3 (by rw [wl_get hk, cell_4 hy]) rfl hj hdec h2
    · obtain ⟨rfl, i0, hi0, rfl, rfl⟩ := lay_byte hy hk
      obtain ⟨-, -, -, -, hV, -⟩ := hRO
      exact va_tb hx hb (hV.1 i0 hi0).2.2.2 hS hj (by rw [← (hro.2 i0 hi0).2 _ (vin_lt hj)]; rfl) hdec h2
theorem s_bastore (C : Cx p R s m args meth c D ad tc fz A sd y d) {k : Nat} {j v : Int32} (hdec : decode (bc y) (pcs y i) = .ok (.bastore, 1)) (hnx : pcs y (i + 1) = pcs y i + 1) (hj : vp_in j (zlen sd k)) (h : ∀ μ' : Mem, μ' = wI μ k (upd (μ.1 k) j.toNatClampNeg (vp_nar .boolean v)) → WA p l e R s m args below meth c D ad tc fz A sd y Z (i + 1) lv st μ') : WA p l e R s m args below meth c D ad tc fz A sd y Z i lv (.int v :: .int j :: .ref k :: st) μ := by
  have h1 := (h _ rfl).at hnx
  obtain ⟨hx, hb, hr, hml, hown, hts, hlk, hK, hRO, hfz, -⟩ := C
  intro H locs ls hl hP hD hS hro
  obtain ⟨n, b, hy, hn⟩ := zlen_inv hj
  rw [hn] at hj
  have hk := lay_Nw hy (by omega)
  refine va_zast hx hb hK hP hD hS k 2 (by rw [wl_get hk, cell_3 hy]) rfl hj hdec (fun H1 locs1 hP1 hD1 hS1 => ?_)
  rw [setI hk (cell_3 hy)] at hP1 hD1
  exact h1 H1 locs1 ls hl hP1 hD1 hS1 (hro.w hk)
theorem s_laload (C : Cx p R s m args meth c D ad tc fz A sd y d) {k : Nat} {j : Int32} (hdec : decode (bc y) (pcs y i) = .ok (.laload, 1)) (hnx : pcs y (i + 1) = pcs y i + 1) (hj : vp_in j (llen sd k)) (h : WA p l e R s m args below meth c D ad tc fz A sd y Z (i + 1) lv (.long (μ.2 k j.toNatClampNeg) :: st) μ) : WA p l e R s m args below meth c D ad tc fz A sd y Z i lv (.int j :: .ref k :: st) μ := by
  have h1 := h.at hnx
  obtain ⟨hx, hb, hr, hml, hown, hts, hlk, hK, hRO, hfz, -⟩ := C
  intro H locs ls hl hP hD hS hro
  have h2 := h1 H locs ls hl hP hD hS hro
  obtain ⟨n, b, hy, hn⟩ := llen_inv hj
  rw [hn] at hj
  have hk := lay_Nw hy (by omega)
  exact va_lald hx hb hK hP k 1 (by rw [wl_get hk, cell_2 hy]) rfl hj hdec h2
theorem s_lastore (C : Cx p R s m args meth c D ad tc fz A sd y d) {k : Nat} {j : Int32} {v : Int64} (hdec : decode (bc y) (pcs y i) = .ok (.lastore, 1)) (hnx : pcs y (i + 1) = pcs y i + 1) (hj : vp_in j (llen sd k)) (h : ∀ μ' : Mem, μ' = wL μ k (vp_updL (μ.2 k) j.toNatClampNeg v) → WA p l e R s m args below meth c D ad tc fz A sd y Z (i + 1) lv st μ') : WA p l e R s m args below meth c D ad tc fz A sd y Z i lv (.long v :: .int j :: .ref k :: st) μ := by
  have h1 := (h _ rfl).at hnx
  obtain ⟨hx, hb, hr, hml, hown, hts, hlk, hK, hRO, hfz, -⟩ := C
  intro H locs ls hl hP hD hS hro
  obtain ⟨n, b, hy, hn⟩ := llen_inv hj
  rw [hn] at hj
  have hk := lay_Nw hy (by omega)
  refine va_last hx hb hK hP hD hS k 1 (by rw [wl_get hk, cell_2 hy]) rfl hj hdec (fun H1 locs1 hP1 hD1 hS1 => ?_)
  rw [setL hk (cell_2 hy)] at hP1 hD1
  exact h1 H1 locs1 ls hl hP1 hD1 hS1 hro.wl
theorem s_aaload (C : Cx p R s m args meth c D ad tc fz A sd y d) {k : Nat} {j : Int32} (hdec : decode (bc y) (pcs y i) = .ok (.aaload, 1)) (hnx : pcs y (i + 1) = pcs y i + 1) (hj : vp_in j (alen sd k)) (h : WA p l e R s m args below meth c D ad tc fz A sd y Z (i + 1) lv (.ref (achild sd k + j.toNatClampNeg) :: st) μ) : WA p l e R s m args below meth c D ad tc fz A sd y Z i lv (.int j :: .ref k :: st) μ := by
  have h1 := h.at hnx
  obtain ⟨hx, hb, hr, hml, hown, hts, hlk, hK, hRO, hfz, -⟩ := C
  intro H locs ls hl hP hD hS hro
  have h2 := h1 H locs ls hl hP hD hS hro
  obtain ⟨n, ch, hy, hn, hc⟩ := alen_inv hj
  rw [hn] at hj
  rw [hc] at h2
  have hk := lay_Nw hy (by omega)
  have ha : (wl sd ad tc μ)[k]? = some (ad k, .inl (tc 4, n, .inr (.inr (.inr (.inr (fun j => some (ad (ch + j)))))))) := by rw [wl_get hk, cell_5 hy]
  exact W.aald (v := .ref (ad (ch + j.toNatClampNeg))) (ty := .array .int) hx hb (hP k _ ha) ((hK.2 4 _ rfl).1 n (fun j => va_rf (some (ad (ch + j))))) rfl (fun q => by cases q) (by show ¬ (j < 0 ∨ (arrV _ _ _).slots.size ≤ _); rw [arrV_size]; exact hj) (by show (arrV _ _ _).slots[_]? = _; rw [arrV_read _ _ (vin_lt hj)]; rfl) rfl rfl hdec h2
theorem s_alen (C : Cx p R s m args meth c D ad tc fz A sd y d) {k t n b : Nat} (hdec : decode (bc y) (pcs y i) = .ok (.arraylength, 1)) (hnx : pcs y (i + 1) = pcs y i + 1) (hy : lay sd k = (t, n, b)) (h0 : t ≠ 0) (h9 : t ≠ 9) (ht5 : t ≤ 5) (h : WA p l e R s m args below meth c D ad tc fz A sd y Z (i + 1) lv (.int (Int32.ofNat n) :: st) μ) : WA p l e R s m args below meth c D ad tc fz A sd y Z i lv (.ref k :: st) μ := by
  have h1 := h.at hnx
  obtain ⟨hx, hb, hr, hml, hown, hts, hlk, hK, hRO, hfz, -⟩ := C
  intro H locs ls hl hP hD hS hro
  have h2 := h1 H locs ls hl hP hD hS hro
  rcases (show t = 1 ∨ t = 2 ∨ t = 3 ∨ t = 4 ∨ t = 5 by omega) with rfl | rfl | rfl | rfl | rfl
  · rcases lay_arr hy with hk | ⟨rfl, rfl, rfl, rfl⟩
    · exact va_alen (x := (n, .inl (μ.1 k))) hx hb hK hP k 0 (by rw [wl_get hk, cell_1 hy]) rfl rfl hdec h2
    · obtain ⟨-, hT, -⟩ := hRO
      exact va_tlen hx hb hT hS rfl hdec h2
  · have hk := lay_Nw hy (by omega)
    exact va_alen (x := (n, .inr (.inl (μ.2 k)))) hx hb hK hP k 1 (by rw [wl_get hk, cell_2 hy]) rfl rfl hdec h2
  · have hk := lay_Nw hy (by omega)
    exact va_alen (x := (n, .inl (μ.1 k))) hx hb hK hP k 2 (by rw [wl_get hk, cell_3 hy]) rfl rfl hdec h2
  · by_cases hk : k < Nw sd
    · exact va_alen (x := (n, .inl (μ.1 k))) hx hb hK hP k 3 (by rw [wl_get hk, cell_4 hy]) rfl rfl hdec h2
    · obtain ⟨rfl, i0, hi0, rfl, rfl⟩ := lay_byte hy hk
      obtain ⟨-, -, -, -, hV, -⟩ := hRO
      exact va_tlen hx hb (hV.1 i0 hi0).2.2.2 hS rfl hdec h2
  · have hk := lay_Nw hy (by omega)
    exact va_alen (x := (n, .inr (.inr (.inr (.inr (fun j => some (ad (b + j)))))))) hx hb hK hP k 4 (by rw [wl_get hk, cell_5 hy]) rfl rfl hdec h2
theorem s_get (C : Cx p R s m args meth c D ad tc fz A sd y d) {k n : Nat} {q : Nat × Nat} {v : Value} (hok : okI (inf y).2.1 (pcs y) (pcs y i) (.getfield n) raw len = true) (hdec : decode (bc y) (pcs y i) = .ok (raw, len)) (hnx : pcs y (i + 1) = pcs y i + len) (hc : clsIs sd k (n / 64) = true) (hq : fld sd k (n % 64) = q) (h9 : q.1 ≠ 9) (hv : cv ad fz v = fv ad (μ.1 k) (μ.2 k) (n % 64) q) (h : WA p l e R s m args below meth c D ad tc fz A sd y Z (i + 1) lv (v :: st) μ) : WA p l e R s m args below meth c D ad tc fz A sd y Z i lv (.ref k :: st) μ := by
  have h1 := h.at hnx
  obtain ⟨hx, hb, hr, hml, hown, hts, hlk, hK, hRO, hfz, -⟩ := C
  intro H locs ls hl hP hD hS hro
  have h2 := h1 H locs ls hl hP hD hS hro
  rw [List.map_cons, hv] at h2
  obtain ⟨b, hy⟩ := clsIs_inv hc
  have hfl : (fl sd k)[n % 64]? = some q := by
    have : nth (9, 0) (fl sd k) (n % 64) = q := hq
    rw [← this]
    exact nth_ne (fun z => h9 (by rw [← this, z]))
  unfold okI at hok
  cases raw <;> first | (cases hok; done) | skip
  case getfield idx =>
    simp only [Bool.and_eq_true] at hok
    cases Nat.eq_of_beq_eq_true hok.1
    obtain ⟨pz, hz⟩ := inP_at hok.2 fpl_ok
    dsimp only at hz
    have hlink := hts _ (gT_of hz rfl (fun q => by cases q))
    rcases lay_obj hy with hk | ⟨rfl, i0, hi0, rfl, h10⟩
    · obtain ⟨hc10, hlen, -⟩ := obj_spec hk hy
      refine va_get (v := fv ad (μ.1 k) (μ.2 k) (n % 64) q) (C := (clT (n / 64)).1) (T := (clT (n / 64)).2.1) (N := (clT (n / 64)).2.2) hx hb hts (cl_in hc10) hown hK hP k (by rw [wl_get hk, cell_0 hy]) (cl_get hc10) (n % 64) (by rw [← hlen]; exact (List.getElem?_eq_some_iff.mp hfl).1) hlink (fun _ h9 => h9) ?_ hdec h2
      rw [fsE_get, hfl, Nat.zero_add]
      rfl
    · obtain ⟨-, -, -, -, hV, -⟩ := hRO
      have hn : n = 640 ∨ n = 641 := by
        have h3 := (List.getElem?_eq_some_iff.mp hfl).1
        have h4 : (fl 0 (66 + 2 * i0)).length = 2 := by
          rcases (show i0 = 0 ∨ i0 = 1 ∨ i0 = 2 by omega) with rfl | rfl | rfl <;> rfl
        omega
      rcases hn with rfl | rfl
      · have hqe : q = (3, 67 + 2 * i0) := by
          rw [← hq]
          rcases (show i0 = 0 ∨ i0 = 1 ∨ i0 = 2 by omega) with rfl | rfl | rfl <;> rfl
        subst hqe
        have hlink : (Cond.fieldLink (cnm (inf y).2.1) idx (fT 640).1 (fT 640).2.1 (fT 640).2.2.1).before args s = true := hlink
        rw [fT_640] at hlink
        exact vk_getf hx hb (hV.1 i0 hi0).2.2.1 hS hown hlink (fun _ h9 => h9) hdec h2
      · have hqe : q = (4, 0) := by
          rw [← hq]
          rcases (show i0 = 0 ∨ i0 = 1 ∨ i0 = 2 by omega) with rfl | rfl | rfl <;> rfl
        subst hqe
        have h2 : W p l e R s m args below meth c H locs 0 0 Z (F0 m (pcs y i + 3) ls (.int (μ.1 (66 + 2 * i0) 1) :: st.map (cv ad fz))) := h2
        rw [(hro.2 i0 hi0).1] at h2
        have hlink : (Cond.fieldLink (cnm (inf y).2.1) idx (fT 641).1 (fT 641).2.1 (fT 641).2.2.1).before args s = true := hlink
        rw [fT_641] at hlink
        exact vk_getf hx hb (hV.1 i0 hi0).2.1 hS hown hlink (fun _ h9 => h9) hdec h2
theorem s_put (C : Cx p R s m args meth c D ad tc fz A sd y d) {k n : Nat} {q : Nat × Nat} {v : Int32} (hok : okI (inf y).2.1 (pcs y) (pcs y i) (.putfield n) raw len = true) (hdec : decode (bc y) (pcs y i) = .ok (raw, len)) (hnx : pcs y (i + 1) = pcs y i + len) (hc : clsIs sd k (n / 64) = true) (hq : fld sd k (n % 64) = q) (h01 : q.1 = 0 ∨ (q.1 = 1 ∧ narrow .boolean (.int v) = .int v)) (h : ∀ μ' : Mem, μ' = wI μ k (upd (μ.1 k) (n % 64) v) → WA p l e R s m args below meth c D ad tc fz A sd y Z (i + 1) lv st μ') : WA p l e R s m args below meth c D ad tc fz A sd y Z i lv (.int v :: .ref k :: st) μ := by
  have h1 := (h _ rfl).at hnx
  obtain ⟨hx, hb, hr, hml, hown, hts, hlk, hK, hRO, hfz, -⟩ := C
  intro H locs ls hl hP hD hS hro
  obtain ⟨b, hy⟩ := clsIs_inv hc
  have hfl : (fl sd k)[n % 64]? = some q := by
    have : nth (9, 0) (fl sd k) (n % 64) = q := hq
    rw [← this]
    exact nth_ne (fun z => by rw [← this, z] at h01; rcases h01 with h | h <;> cases h <;> contradiction)
  unfold okI at hok
  cases raw <;> first | (cases hok; done) | skip
  case putfield idx =>
    simp only [Bool.and_eq_true] at hok
    cases Nat.eq_of_beq_eq_true hok.1
    obtain ⟨pz, hz⟩ := inP_at hok.2 fpl_ok
    dsimp only at hz
    have hlink := hts _ (gT_of hz rfl (fun q => by cases q))
    rcases lay_obj hy with hk | ⟨rfl, i0, hi0, rfl, h10⟩
    · obtain ⟨hc10, hlen, hsp⟩ := obj_spec hk hy
      obtain ⟨ty0, hty, hnm⟩ := cl_ty hc10
      have hlt := (List.getElem?_eq_some_iff.mp hfl).1
      have hw : ∀ (H1 : Heap) (locs1 : List Loc), va_P D vwCl ((wl sd ad tc μ).set k (ad k, .inr (n / 64, (fsE ad (μ.1 k) (μ.2 k) 0 (fl sd k)).set (n % 64) (.int v)))) H1 → va_D A ((wl sd ad tc μ).set k (ad k, .inr (n / 64, (fsE ad (μ.1 k) (μ.2 k) 0 (fl sd k)).set (n % 64) (.int v)))) → va_S A s.heap H1 locs1 → W p l e R s m args below meth c H1 locs1 0 0 Z (F0 m (pcs y i + 3) ls (st.map (cv ad fz))) := by
        intro H1 locs1 hP1 hD1 hS1
        have e1 : (fsE ad (μ.1 k) (μ.2 k) 0 (fl sd k)).set (n % 64) (.int v) = fsE ad (upd (μ.1 k) (n % 64) v) (μ.2 k) 0 (fl sd k) := by
          have := fsE_set (ad := ad) (f := μ.1 k) (g := μ.2 k) (v := v) (fl sd k) 0 (n % 64) q hfl (by rcases h01 with h | h <;> omega) (by rcases h01 with h | h <;> omega)
          rw [Nat.zero_add] at this
          exact this
        rw [e1, setI hk (cell_0 hy)] at hP1 hD1
        exact h1 H1 locs1 ls hl hP1 hD1 hS1 (hro.w hk)
      rcases h01 with h0 | ⟨h0, hb1⟩
      · obtain ⟨f1, f2⟩ := (hsp _ q hfl).1 h0
        exact va_put (v := .int v) (C := (clT (n / 64)).1) (T := (clT (n / 64)).2.1) (N := (clT (n / 64)).2.2) hx hb hts (cl_in hc10) ty0 hty hnm hown hK hP hD hS k (by rw [wl_get hk, cell_0 hy]) (cl_get hc10) (n % 64) (by rw [← hlen]; exact hlt) hlink (fun _ h9 => h9) f1 f2 rfl rfl (by rw [fsE_len]; exact hlt) hdec hw
      · obtain ⟨f1, f2⟩ := (hsp _ q hfl).2.1 h0
        exact va_put (v := .int v) (C := (clT (n / 64)).1) (T := (clT (n / 64)).2.1) (N := (clT (n / 64)).2.2) hx hb hts (cl_in hc10) ty0 hty hnm hown hK hP hD hS k (by rw [wl_get hk, cell_0 hy]) (cl_get hc10) (n % 64) (by rw [← hlen]; exact hlt) hlink (fun _ h9 => h9) f1 f2 hb1 (by rw [← hb1]; exact fits_narrow_boolean v) (by rw [fsE_len]; exact hlt) hdec hw
    · exfalso
      have hn : n = 640 ∨ n = 641 := by
        have h3 := (List.getElem?_eq_some_iff.mp hfl).1
        have h4 : (fl 0 (66 + 2 * i0)).length = 2 := by
          rcases (show i0 = 0 ∨ i0 = 1 ∨ i0 = 2 by omega) with rfl | rfl | rfl <;> rfl
        omega
      have hqe : q.1 = 3 ∨ q.1 = 4 := by
        rw [← hq]
        rcases hn with rfl | rfl <;> rcases (show i0 = 0 ∨ i0 = 1 ∨ i0 = 2 by omega) with rfl | rfl | rfl <;> first | (left; rfl) | (right; rfl)
      omega
theorem s_putL (C : Cx p R s m args meth c D ad tc fz A sd y d) {k n : Nat} {q : Nat × Nat} {v : Int64} (hok : okI (inf y).2.1 (pcs y) (pcs y i) (.putfield n) raw len = true) (hdec : decode (bc y) (pcs y i) = .ok (raw, len)) (hnx : pcs y (i + 1) = pcs y i + len) (hc : clsIs sd k (n / 64) = true) (hq : fld sd k (n % 64) = q) (h2q : q.1 = 2) (h : ∀ μ' : Mem, μ' = wL μ k (vp_updL (μ.2 k) (n % 64) v) → WA p l e R s m args below meth c D ad tc fz A sd y Z (i + 1) lv st μ') : WA p l e R s m args below meth c D ad tc fz A sd y Z i lv (.long v :: .ref k :: st) μ := by
  have h1 := (h _ rfl).at hnx
  obtain ⟨hx, hb, hr, hml, hown, hts, hlk, hK, hRO, hfz, -⟩ := C
  intro H locs ls hl hP hD hS hro
  obtain ⟨b, hy⟩ := clsIs_inv hc
  have hfl : (fl sd k)[n % 64]? = some q := by
    have : nth (9, 0) (fl sd k) (n % 64) = q := hq
    rw [← this]
    exact nth_ne (fun z => by rw [← this, z] at h2q; cases h2q)
  unfold okI at hok
  cases raw <;> first | (cases hok; done) | skip
  case putfield idx =>
    simp only [Bool.and_eq_true] at hok
    cases Nat.eq_of_beq_eq_true hok.1
    obtain ⟨pz, hz⟩ := inP_at hok.2 fpl_ok
    dsimp only at hz
    have hlink := hts _ (gT_of hz rfl (fun q => by cases q))
    rcases lay_obj hy with hk | ⟨rfl, i0, hi0, rfl, h10⟩
    · obtain ⟨hc10, hlen, hsp⟩ := obj_spec hk hy
      obtain ⟨ty0, hty, hnm⟩ := cl_ty hc10
      have hlt := (List.getElem?_eq_some_iff.mp hfl).1
      obtain ⟨f1, f2⟩ := (hsp _ q hfl).2.2 h2q
      refine va_put (v := .long v) (C := (clT (n / 64)).1) (T := (clT (n / 64)).2.1) (N := (clT (n / 64)).2.2) hx hb hts (cl_in hc10) ty0 hty hnm hown hK hP hD hS k (by rw [wl_get hk, cell_0 hy]) (cl_get hc10) (n % 64) (by rw [← hlen]; exact hlt) hlink (fun _ h9 => h9) f1 f2 rfl rfl (by rw [fsE_len]; exact hlt) hdec (fun H1 locs1 hP1 hD1 hS1 => ?_)
      have e1 : (fsE ad (μ.1 k) (μ.2 k) 0 (fl sd k)).set (n % 64) (.long v) = fsE ad (μ.1 k) (vp_updL (μ.2 k) (n % 64) v) 0 (fl sd k) := by
        have := fsE_setL (ad := ad) (f := μ.1 k) (g := μ.2 k) (v := v) (fl sd k) 0 (n % 64) q hfl h2q
        rw [Nat.zero_add] at this
        exact this
      rw [e1, setL hk (cell_0 hy)] at hP1 hD1
      exact h1 H1 locs1 ls hl hP1 hD1 hS1 hro.wl
    · exfalso
      have hn : n = 640 ∨ n = 641 := by
        have h3 := (List.getElem?_eq_some_iff.mp hfl).1
        have h4 : (fl 0 (66 + 2 * i0)).length = 2 := by
          rcases (show i0 = 0 ∨ i0 = 1 ∨ i0 = 2 by omega) with rfl | rfl | rfl <;> rfl
        omega
      have hqe : q.1 = 3 ∨ q.1 = 4 := by
        rw [← hq]
        rcases hn with rfl | rfl <;> rcases (show i0 = 0 ∨ i0 = 1 ∨ i0 = 2 by omega) with rfl | rfl | rfl <;> first | (left; rfl) | (right; rfl)
      omega
end STEP4
end
section
/-! ===== statics, strings, primitives, calls ===== -/
theorem spl_all : splL.all (fun q => decide ((q.1, q.2.1, q.2.2.1) = (8, 75, 66) ∨ (q.1, q.2.1, q.2.2.1) = (3, 115, 68) ∨ (q.1, q.2.1, q.2.2.1) = (3, 106, 70))) = true := by decide +kernel
def statT (n : Nat) : String × String × String := match n with
  | 0 => ("DearerByUse$Laws", "ABOVE", "[I")
  | 1 => ("java/lang/String", "COMPACT_STRINGS", "Z")
  | _ => ("jdk/internal/util/Preconditions", "SIOOBE_FORMATTER", "Ljava/util/function/BiFunction;")
theorem gpl_ok : gplL.all (fun q => Nat.ble q.2.2.1 2 && wAt q.2.2.2 (.fieldLink (cnm q.1) q.2.1 (statT q.2.2.1).1 (statT q.2.2.1).2.1 (statT q.2.2.1).2.2)) = true := by decide +kernel
theorem npl_all : nplL.all (fun q => decide (mnm q.2.2.1 = yWithin) && (decide ((q.1, q.2.1) = (6, 24)) || decide ((q.1, q.2.1) = (7, 21)))) = true := by decide +kernel
theorem sides : infL.all (fun q => decide (q.1 = 0 ∨ q.1 = 1)) = true := by decide +kernel
/-- statics and strings belong to side 0 -/
theorem own0 : infL.all (fun q => decide (q.1 = 0 ∨ q.2.1 = 9)) = true := by decide +kernel
theorem spl_own : (splL ++ gplL ++ nplL).all (fun q => decide (q.1 ≠ 9)) = true := by decide +kernel
theorem side0 {y sd : Nat} (h : (inf y).1 = sd) (h9 : sd ≠ 9) (ho : (inf y).2.1 ≠ 9) : sd = 0 := by
  have hy : y < 200 := inf_lt (by rw [h]; exact h9)
  have h1 : inf y ∈ infL := nth_mem (Nat.lt_of_lt_of_le hy (by decide +kernel))
  have h2 := of_decide_eq_true (List.all_eq_true.mp own0 _ h1)
  rcases h2 with h2 | h2
  · rw [← h, h2]
  · exact absurd h2 ho
section STEP5
variable {p : Program} {l : Launch} {e : Env} {R : Room} {s : State} {m : MethodId} {args : Array Value} {below : List Frame} {meth : Method} {c : Code} {D : va_G} {ad tc : Nat → Nat} {fz : Value} {A : Nat → Prop} {sd y d : Nat} {Z : State → Prop} {i : Nat} {lv st : List Value} {μ : Mem} {raw : Instr} {len : Nat}
theorem inP_own {l : List (Nat × Nat × Nat × Nat)} {own idx n : Nat} (h : inP l own idx n = true) : ∃ p, (own, idx, n, p) ∈ l := by
  obtain ⟨q, hq, h1⟩ := List.any_eq_true.mp h
  simp only [Bool.and_eq_true] at h1
  obtain ⟨⟨a1, a2⟩, a3⟩ := h1
  have e1 := Nat.eq_of_beq_eq_true a1
  have e2 := Nat.eq_of_beq_eq_true a2
  have e3 := Nat.eq_of_beq_eq_true a3
  obtain ⟨x1, x2, x3, x4⟩ := q
  dsimp only at e1 e2 e3
  subst e1; subst e2; subst e3
  exact ⟨x4, hq⟩
theorem s_ldcs (C : Cx p R s m args meth c D ad tc fz A sd y d) (h9 : sd ≠ 9) {n : Nat} (hok : okI (inf y).2.1 (pcs y) (pcs y i) (.ldc_w n) raw len = true) (hdec : decode (bc y) (pcs y i) = .ok (raw, len)) (hnx : pcs y (i + 1) = pcs y i + len) (h : WA p l e R s m args below meth c D ad tc fz A sd y Z (i + 1) lv (.ref n :: st) μ) : WA p l e R s m args below meth c D ad tc fz A sd y Z i lv st μ := by
  have h1 := h.at hnx
  obtain ⟨hx, hb, hr, hml, hown, hts, hlk, hK, hRO, hfz, hsd, -⟩ := C
  intro H locs ls hl hP hD hS hro
  have h2 := h1 H locs ls hl hP hD hS hro
  unfold okI at hok
  cases raw <;> first | (cases hok; done) | skip
  case ldc idx =>
    simp only [Bool.and_eq_true] at hok
    cases Nat.eq_of_beq_eq_true hok.1
    obtain ⟨pz, hz⟩ := inP_own hok.2
    have ho : (inf y).2.1 ≠ 9 := of_decide_eq_true (List.all_eq_true.mp spl_own _ (List.mem_append_left _ (List.mem_append_left _ hz)))
    have hs0 := side0 hsd h9 ho
    clear hsd h9
    subst hs0
    obtain ⟨-, -, -, -, -, hR0, hR1, hR2, -⟩ := hRO
    rcases of_decide_eq_true (List.all_eq_true.mp spl_all _ hz) with q | q | q
    · simp only [Prod.mk.injEq] at q
      obtain ⟨q1, rfl, rfl⟩ := q
      rw [q1] at hown
      exact va_ldcS hx hb hown hR0 hdec h2
    · simp only [Prod.mk.injEq] at q
      obtain ⟨q1, rfl, rfl⟩ := q
      rw [q1] at hown
      exact va_ldcS hx hb hown hR1 hdec h2
    · simp only [Prod.mk.injEq] at q
      obtain ⟨q1, rfl, rfl⟩ := q
      rw [q1] at hown
      exact va_ldcS hx hb hown hR2 hdec h2
theorem s_static (C : Cx p R s m args meth c D ad tc fz A sd y d) (h9 : sd ≠ 9) {n : Nat} (hok : okI (inf y).2.1 (pcs y) (pcs y i) (.getstatic n) raw len = true) (hdec : decode (bc y) (pcs y i) = .ok (raw, len)) (hnx : pcs y (i + 1) = pcs y i + len) (h : WA p l e R s m args below meth c D ad tc fz A sd y Z (i + 1) lv (sK n :: st) μ) : WA p l e R s m args below meth c D ad tc fz A sd y Z i lv st μ := by
  have h1 := h.at hnx
  obtain ⟨hx, hb, hr, hml, hown, hts, hlk, hK, hRO, hfz, hsd, -⟩ := C
  intro H locs ls hl hP hD hS hro
  have h2 := h1 H locs ls hl hP hD hS hro
  unfold okI at hok
  cases raw <;> first | (cases hok; done) | skip
  case getstatic idx =>
    simp only [Bool.and_eq_true] at hok
    cases Nat.eq_of_beq_eq_true hok.1
    obtain ⟨pz, hz⟩ := inP_own hok.2
    have ho : (inf y).2.1 ≠ 9 := of_decide_eq_true (List.all_eq_true.mp spl_own _ (List.mem_append_left _ (List.mem_append_right _ hz)))
    have hs0 := side0 hsd h9 ho
    clear hsd h9
    subst hs0
    have hw := List.all_eq_true.mp gpl_ok _ hz
    dsimp only at hw
    simp only [Bool.and_eq_true] at hw
    obtain ⟨w1, w2⟩ := hw
    have hlink := hts _ (gT_of w2 rfl (fun q => by cases q))
    have hn2 := Nat.le_of_ble_eq_true w1
    obtain ⟨hZ0, -, hZ1, hZ2, -⟩ := hRO
    rcases (show n = 0 ∨ n = 1 ∨ n = 2 by omega) with rfl | rfl | rfl
    · exact va_gets hx hb hZ0 hS hown hlink (fun _ h9 => h9) hdec h2
    · exact va_gets hx hb hZ1 hS hown hlink (fun _ h9 => h9) hdec h2
    · exact va_gets hx hb hZ2 hS hown hlink (fun _ h9 => h9) hdec h2
theorem copy5_inv {P : PP} (h : copy5 sd i lv st μ P) : ∃ n dp b sp a r, st = .int n :: .int dp :: .ref b :: .int sp :: .ref a :: r ∧ Nat.ble (csum r) 8 = true ∧ (¬ sp < 0 ∧ ¬ dp < 0 ∧ ¬ n < 0 ∧ sp.toNatClampNeg + n.toNatClampNeg ≤ wlen sd a ∧ dp.toNatClampNeg + n.toNatClampNeg ≤ wlen sd b ∧ 0 < wlen sd a ∧ 0 < wlen sd b) ∧ ∀ μ' : Mem, μ' = wI μ b (va_cpy (μ.1 a) (μ.1 b) sp.toNatClampNeg dp.toNatClampNeg n.toNatClampNeg) → P (i + 1) lv r μ' := by
  unfold copy5 at h
  split at h
  · split at h
    · exact h.elim
    · rename_i hcs
      exact ⟨_, _, _, _, _, _, rfl, hcs, h.1, h.2⟩
  · exact h.elim
theorem wlen_pos {k : Nat} (h : 0 < wlen sd k) : ∃ n, lay sd k = (1, n, 0) ∧ wlen sd k = n := by
  unfold wlen at h ⊢
  split at h
  · rename_i n e
    exact ⟨n, e, rfl⟩
  · omega
theorem wAt_in {w : Cond} {p : Nat} (h : wAt p w = true) (hg : goodWord w = true) (hne : w ≠ .tt) : w ∈ gT := gT_of h hg hne
theorem s_prim (C : Cx p R s m args meth c D ad tc fz A sd y d) {n : Nat} (hok : okI (inf y).2.1 (pcs y) (pcs y i) (.invokedynamic n) raw len = true) (hdec : decode (bc y) (pcs y i) = .ok (raw, len)) (hnx : pcs y (i + 1) = pcs y i + len) (h : prim sd n i lv st μ (WA p l e R s m args below meth c D ad tc fz A sd y Z)) : WA p l e R s m args below meth c D ad tc fz A sd y Z i lv st μ := by
  obtain ⟨hx, hb, hr, hml, hown, hts, hlk, hK, hRO, hfz, hsd, -, -, hR⟩ := C
  intro H locs ls hl hP hD hS hro
  have hls : c.maxLocals = ls.size := by rw [hml]; exact hl.2.1.symm
  unfold okI at hok
  cases raw <;> first | (cases hok; done) | skip
  case invokestatic idx =>
    simp only [Bool.and_eq_true] at hok
    cases Nat.eq_of_beq_eq_true hok.1
    obtain ⟨pz, hz⟩ := inP_own hok.2
    have hw := List.all_eq_true.mp apl_ok _ hz
    dsimp only at hw
    simp only [Bool.and_eq_true] at hw
    obtain ⟨w1, w2⟩ := hw
    have hlink := hts _ (gT_of w2 rfl (fun q => by cases q))
    have hn2 := Nat.le_of_ble_eq_true w1
    have hfr : 1 ≤ R.frames := by rw [hR]; show 1 ≤ d + 1 + 1; omega
    have hlo : 64 ≤ R.locals := by rw [hR]; show 64 ≤ (d + 1 + 1) * 64; omega
    have hmm := mm_ok
    simp only [Bool.and_eq_true] at hmm
    obtain ⟨⟨⟨⟨m1, m2⟩, m3⟩, m4⟩, m5⟩ := hmm
    rcases (show n = 0 ∨ n = 1 ∨ n = 2 by omega) with rfl | rfl | rfl
    · have h : copy5 sd i lv st μ (WA p l e R s m args below meth c D ad tc fz A sd y Z) := h
      obtain ⟨n, dp, b, sp, a, r, rfl, hcs, ⟨a1, a2, a3, a4, a5, a6, a7⟩, h⟩ := copy5_inv h
      have h1 := (h _ rfl).at hnx
      have hac := ac_ok
      simp only [Bool.and_eq_true] at hac
      obtain ⟨⟨c1, c2⟩, c3⟩ := hac
      have hcr : ((r.map (cv ad fz)).map fun v => v.category).sum ≤ 8 := by rw [csum_cv hfz]; exact Nat.le_of_ble_eq_true hcs
      obtain ⟨na, hya, hna⟩ := wlen_pos a6
      obtain ⟨nb, hyb, hnb⟩ := wlen_pos a7
      rw [hna] at a4
      rw [hnb] at a5
      have hka : a < Nw sd := by
        rcases lay_arr hya with hk | ⟨-, -, -, hb⟩
        · exact hk
        · cases hb
      have hkb : b < Nw sd := by
        rcases lay_arr hyb with hk | ⟨-, -, -, hb⟩
        · exact hk
        · cases hb
      refine va_copyi (ty := .int) hx hb hls hown hlink (hts _ (gT_of c1 rfl (fun q => by cases q))) (hts _ (gT_of c2 rfl (fun q => by cases q))) (hts _ (gT_of c3 rfl (fun q => by cases q))) hK hP hD hS a b 0 0 (by rw [wl_get hka, cell_1 hya]) (by rw [wl_get hkb, cell_1 hyb]) rfl rfl rfl a1 a2 a3 a4 a5 (fun _ _ => rfl) hfr (by rw [show nativeFrameWords "java/lang/System" "arraycopy" 5 = 7 from rfl]; omega) hdec (fun H1 locs1 hP1 hD1 hS1 => ?_)
      rw [setI hkb (cell_1 hyb)] at hP1 hD1
      exact h1 H1 locs1 ls hl hP1 hD1 hS1 (hro.w hkb)
    · obtain ⟨a, b, r, rfl, h'⟩ := pII_inv (show pII st _ from h)
      split at h'
      · exact h'.elim
      · rename_i hcs
        have h1 := h'.at hnx H locs ls hl hP hD hS hro
        have hcr : ((r.map (cv ad fz)).map fun v => v.category).sum ≤ 8 := by rw [csum_cv hfz]; exact Nat.le_of_ble_eq_true hcs
        exact va_mmax hx hb hls hown hlink (hts _ (gT_of m2 rfl (fun q => by cases q))) (hts _ (gT_of m5 rfl (fun q => by cases q))) (hts _ (gT_of m1 rfl (fun q => by cases q))) hfr (by omega) (Nat.zero_le _) (Nat.zero_le _) hdec h1
    · obtain ⟨a, b, r, rfl, h'⟩ := pII_inv (show pII st _ from h)
      split at h'
      · exact h'.elim
      · rename_i hcs
        have h1 := h'.at hnx H locs ls hl hP hD hS hro
        have hcr : ((r.map (cv ad fz)).map fun v => v.category).sum ≤ 8 := by rw [csum_cv hfz]; exact Nat.le_of_ble_eq_true hcs
        exact va_mmin hx hb hls hown hlink (hts _ (gT_of m4 rfl (fun q => by cases q))) (hts _ (gT_of m5 rfl (fun q => by cases q))) (hts _ (gT_of m3 rfl (fun q => by cases q))) hfr (by omega) (Nat.zero_le _) (Nat.zero_le _) hdec h1
end STEP5
end
section
/-! ===== calls, and the whole ===== -/
theorem call_inv {K : KK} {sd y' : Nat} {vst : Bool} {i : Nat} {lv st : List Value} {μ : Mem} {P : PP} (h : call K sd y' vst i lv st μ P) : (inf y').1 = sd ∧ (inf y').2.2.2.1 ≤ st.length ∧ csum (st.drop (inf y').2.2.2.1) ≤ 8 ∧ csum (st.take (inf y').2.2.2.1) ≤ (inf y').2.2.1 ∧ (vst = true → (inf y').2.2.2.2.2 = 1) ∧ (vst = false → (inf y').2.2.2.2.2 = 0 ∧ ∃ k, nth un st ((inf y').2.2.2.1 - 1) = .ref k ∧ clsIs sd k (inf y').2.1 = true) ∧ K y' (st.take (inf y').2.2.2.1).reverse μ (fun r μ' => ret1 (inf y').2.2.2.2.1 r (fun l => P (i + 1) lv (l ++ st.drop (inf y').2.2.2.1) μ')) := by
  unfold call at h
  generalize inf y' = q at h
  obtain ⟨sd', c, mx, n, t, s⟩ := q
  dsimp only at h
  split at h
  · rename_i hb
    simp only [Bool.and_eq_true] at hb
    obtain ⟨⟨⟨⟨b1, b2⟩, b3⟩, b4⟩, b5⟩ := hb
    refine ⟨(Nat.eq_of_beq_eq_true b1).symm, Nat.le_of_ble_eq_true b2, Nat.le_of_ble_eq_true b3, Nat.le_of_ble_eq_true b4, fun e => ?_, fun e => ?_, h⟩
    · subst e
      exact Nat.eq_of_beq_eq_true b5
    · subst e
      simp only [Bool.and_eq_true] at b5
      refine ⟨Nat.eq_of_beq_eq_true b5.1, ?_⟩
      have b6 := b5.2
      split at b6
      · rename_i k hk
        exact ⟨k, hk, b6⟩
      · cases b6
  · exact h.elim
theorem csum_append : ∀ (a b : List Value), csum (a ++ b) = csum a + csum b
  | [], b => by simp [csum]
  | v :: a, b => by simp only [List.cons_append, csum, csum_append a b]; omega
theorem csum_reverse : ∀ a : List Value, csum a.reverse = csum a
  | [] => rfl
  | v :: a => by simp only [List.reverse_cons, csum_append, csum_reverse a, csum]; omega
def IH (l : Launch) (D : va_G) (ad tc : Nat → Nat) (fz : Value) (sd d : Nat) : Prop := ∀ (y' : Nat) (as : List Value) (μ : Mem) (Q : QQ) (sz : Nat), y' < 200 → (inf y').1 = sd → csum as ≤ (inf y').2.2.1 → ROm sd μ → Call d y' as μ Q → Met l (mnm y') (wsY y') (rmD d) (PcA D ad tc fz sd as μ sz) (QcA D ad tc (va_A (wl sd ad tc μ) sz) sd (inf y').2.2.2.2.1 Q) 0 0 (va_A (wl sd ad tc μ) sz)
section STEP6
variable {p : Program} {l : Launch} {e : Env} {R : Room} {s : State} {m : MethodId} {args : Array Value} {below : List Frame} {meth : Method} {c : Code} {D : va_G} {ad tc : Nat → Nat} {fz : Value} {A : Nat → Prop} {sd y d : Nat} {Z : State → Prop} {i : Nat} {lv st : List Value} {μ : Mem} {raw : Instr} {len : Nat}
theorem wl_sub (hD : va_D A (wl sd ad tc μ)) {H : Heap} {locs : List Loc} (hS : va_S A s.heap H locs) (hA : ∀ q, s.heap.size ≤ q → A q) : ∀ q, va_A (wl sd ad tc μ) H.size q → A q := by
  intro q h
  rcases h with ⟨k, e, h⟩ | h
  · exact hD.2 k _ h
  · exact hA q (Nat.le_trans hS.1 h)
theorem s_call (C : Cx p R s m args meth c D ad tc fz A sd y d) (h9 : sd ≠ 9) (hmo : ∀ y, y < 200 → mOk y = true) (ih : IH l D ad tc fz sd d) {y' : Nat} {vst : Bool} (hok : okI (inf y).2.1 (pcs y) (pcs y i) (match vst with | true => .invokestatic y' | false => .invokevirtual y') raw len = true) (hdec : decode (bc y) (pcs y i) = .ok (raw, len)) (hnx : pcs y (i + 1) = pcs y i + len) (h : call (Call d) sd y' vst i lv st μ (WA p l e R s m args below meth c D ad tc fz A sd y Z)) : WA p l e R s m args below meth c D ad tc fz A sd y Z i lv st μ := by
  obtain ⟨hx, hb, hr, hml, hown, hts, hlk, hK, hRO, hfz, hsd, hck, hA, hR⟩ := C
  obtain ⟨g1, g2, g3, g4, g5, g6, hcall⟩ := call_inv h
  have hy' : y' < 200 := inf_lt (by rw [g1]; exact h9)
  have hm := hmo y' hy'
  obtain ⟨-, hini, hcls, -, hmh, hmx, hst1, hin1⟩ := mOk_spec hm
  intro H locs ls hl hP hD hS hro
  have hA1 := wl_sub hD hS hA
  have hM := ih y' _ μ _ H.size hy' g1 (by rw [csum_reverse]; exact g4) hro hcall
  have hfix : CallFix p m c (bc y) (inf y).2.2.1 s args gT (cnm (inf y).2.1) := ⟨hx, hb, hml, hown, hts⟩
  have hroom : (rmD d).frames + 1 ≤ R.frames ∧ 8 + ((inf y').2.2.1 + 11) + (rmD d).locals ≤ R.locals := by
    rw [hR]
    refine ⟨Nat.le_refl _, ?_⟩
    show 8 + ((inf y').2.2.1 + 11) + (d + 1) * 64 ≤ (d + 1 + 1) * 64
    omega
  have hsum : ((((st.drop (inf y').2.2.2.1).map (cv ad fz))).map fun v => v.category).sum ≤ 8 := by rw [csum_cv hfz]; exact g3
  have hPc : ∀ U : State, U.heap = H → s.WarmedH U.vm → PcA D ad tc fz sd (st.take (inf y').2.2.2.1).reverse μ H.size (((st.take (inf y').2.2.2.1).reverse).map (cv ad fz)).toArray U := by
    intro U hU hW
    refine ⟨rfl, by rw [hU], by rw [hU]; exact hP, va_K.moved hW.alike hK, hD.weaken (fun _ _ _ _ => trivial), ?_⟩
    rw [hU]
    exact ((hRO.kept hS.2.1).narrow hA1).warm hW
  have kk : ∀ (r : Value) (μ' : Mem) (H1 : Heap) (locs1 : List Loc), (ret1 (inf y').2.2.2.2.1 r (fun l_1 => WA p l e R s m args below meth c D ad tc fz A sd y Z (i + 1) lv (l_1 ++ st.drop (inf y').2.2.2.1) μ')) → ROm sd μ' → va_P D vwCl (wl sd ad tc μ') H1 → va_S A s.heap H1 locs1 → W p l e R s m args below meth c H1 locs1 0 0 Z (F0 m (pcs y i + len) ls ((rvl (inf y').2.2.2.2.1 r).toList ++ (st.drop (inf y').2.2.2.1).map (cv ad fz))) := by
    intro r μ' H1 locs1 hq hro' hP1 hS1
    have hD1 : va_D A (wl sd ad tc μ') := wl_addr hD
    generalize (inf y').2.2.2.2.1 = t at hq ⊢
    cases t with
    | none => exact WA.at hq hnx H1 locs1 ls hl hP1 hD1 hS1 hro'
    | some t =>
      cases t <;> (obtain ⟨x, ex, hq⟩ := hq; subst ex; exact WA.at hq hnx H1 locs1 ls hl hP1 hD1 hS1 hro')
  cases vst with
  | true =>
    obtain ⟨hs, hn⟩ := hst1 (g5 rfl)
    have hstk : st.map (cv ad fz) = (((st.take (inf y').2.2.2.1).reverse).map (cv ad fz)).reverse ++ (st.drop (inf y').2.2.2.1).map (cv ad fz) := by
      rw [← List.map_reverse, List.reverse_reverse, ← List.map_append, List.take_append_drop]
    unfold okI at hok
    dsimp only at hok
    cases raw <;> first | (cases hok; done) | skip
    case invokestatic idx =>
      simp only [Bool.and_eq_true, Bool.or_eq_true] at hok
      obtain ⟨o1, o2⟩ := hok
      cases Nat.eq_of_beq_eq_true o1
      rcases o2 with o2 | o2
      · obtain ⟨pz, hz⟩ := inP_at o2 mpl_ok
        dsimp only at hz
        have hlink := hts _ (gT_of hz rfl (fun q => by cases q))
        have hcw := callB_of (R := R) (n := (inf y').2.2.2.1) (rm := rmD d) (mc := 0) (ms := 0) hts (wsY_good hm) rfl rfl rfl (hts _ hini) hlink ⟨hmh.1, hmh.2, hn⟩ hroom
        exact runA (va_runS (rest := (st.drop (inf y').2.2.2.1).map (cv ad fz)) hfix hM ⟨hcw, hts _ hs⟩ ⟨PcA_blind, hPc⟩ rfl (by simp [List.length_take, Nat.min_eq_left g2]) hl.2.1 hstk (lv_room hsum) hdec ⟨Nat.zero_le _, Nat.zero_le _⟩) hS (fun q _ h => hA1 q h) hA1 kk
      · obtain ⟨pz, hz⟩ := inP_own o2
        have ho : (inf y).2.1 ≠ 9 := of_decide_eq_true (List.all_eq_true.mp spl_own _ (List.mem_append_right _ hz))
        have hs0 := side0 hsd h9 ho
        have hw := List.all_eq_true.mp npl_all _ hz
        dsimp only at hw
        simp only [Bool.and_eq_true, Bool.or_eq_true] at hw
        obtain ⟨w1, w2⟩ := hw
        have w1 : mnm y' = yWithin := of_decide_eq_true w1
        have hnw : va_Nw (.methodLinkNest (cnm (inf y).2.1) idx (mnm y') "DearerByUse") s := by
          have hRO0 : ROs 0 ad fz A s s.heap := by rw [← hs0]; exact hRO
          obtain ⟨-, -, -, -, -, -, -, -, hN1, hN2⟩ := hRO0
          rw [w1]
          rcases w2 with w2 | w2
          · have w2 := of_decide_eq_true w2
            simp only [Prod.mk.injEq] at w2
            rw [w2.1, w2.2]
            exact hN1
          · have w2 := of_decide_eq_true w2
            simp only [Prod.mk.injEq] at w2
            rw [w2.1, w2.2]
            exact hN2
        have hcw := va_cnB (R := R) (n := (inf y').2.2.2.1) (rm := rmD d) (mc := 0) (ms := 0) hts (wsY_good hm) rfl rfl rfl hnw (hts _ hini) ⟨hmh.1, hmh.2, hn⟩ hroom
        exact runA (va_runSN (rest := (st.drop (inf y').2.2.2.1).map (cv ad fz)) hfix hM ⟨hcw, hts _ hs, trivial⟩ ⟨PcA_blind, hPc⟩ rfl (by simp [List.length_take, Nat.min_eq_left g2]) hl.2.1 hstk (lv_room hsum) hdec ⟨Nat.zero_le _, Nat.zero_le _⟩) hS (fun q _ h => hA1 q h) hA1 kk
  | false =>
    obtain ⟨f1, k, f2, f3⟩ := g6 rfl
    obtain ⟨hi1, hi2, hi3, hn⟩ := hin1 (by omega)
    have hk0 : st[(inf y').2.2.2.1 - 1]? = some (.ref k) := by rw [← f2]; exact nth_ne (by rw [f2]; exact fun q => by cases q)
    have htk : st.take (inf y').2.2.2.1 = st.take ((inf y').2.2.2.1 - 1) ++ [.ref k] := by
      have : (inf y').2.2.2.1 = ((inf y').2.2.2.1 - 1) + 1 := by omega
      rw [this, List.take_succ, ← this, hk0]
      simp
    have hrev : ((st.take (inf y').2.2.2.1).reverse).map (cv ad fz) = .ref (ad k) :: ((st.take ((inf y').2.2.2.1 - 1)).reverse).map (cv ad fz) := by
      rw [htk]
      simp [cv]
    have hstk : st.map (cv ad fz) = (((st.take ((inf y').2.2.2.1 - 1)).reverse).map (cv ad fz)).reverse ++ .ref (ad k) :: (st.drop (inf y').2.2.2.1).map (cv ad fz) := by
      rw [← List.map_reverse, List.reverse_reverse]
      have h1 : st = st.take ((inf y').2.2.2.1 - 1) ++ (.ref k :: st.drop (inf y').2.2.2.1) := by
        have h2 := List.take_append_drop (inf y').2.2.2.1 st
        rw [htk] at h2
        simpa using h2.symm
      have h3 := congrArg (List.map (cv ad fz)) h1
      rw [List.map_append] at h3
      exact h3
    obtain ⟨b, hyk⟩ := clsIs_inv f3
    have hrecv : ∃ cell : Cell, H[ad k]? = some cell ∧ cell.vm.isStatics = false ∧ s.vm.findClass (mnm y').cls = some cell.cls := by
      rcases lay_obj hyk with hk | ⟨hs0, i0, hi0, hk, h10⟩
      · obtain ⟨hc10, hlen, -⟩ := obj_spec hk hyk
        have := va_recv hK hP (cl_get hc10) (show (wl sd ad tc μ)[k]? = _ by rw [wl_get hk, cell_0 hyk])
        have e1 : (clT (inf y').2.1).1 = (mnm y').cls := by
          rw [hcls]
          generalize (inf y').2.1 = cc at hc10
          match cc, hc10 with
          | 0, _ => rfl
          | 1, _ => rfl
          | 2, _ => rfl
          | 3, _ => rfl
          | 4, _ => rfl
          | 5, _ => rfl
          | 6, _ => rfl
          | 7, _ => rfl
          | 8, _ => rfl
          | 9, _ => rfl
          | n + 10, h => exact absurd h (by omega)
        rw [e1] at this
        exact this
      · have hRO0 : ROs 0 ad fz A s s.heap := by rw [← hs0]; exact hRO
        obtain ⟨-, -, -, -, hV, -⟩ := hRO0
        have := vk_recv hV hi0 hS
        rw [hcls, h10, hk]
        exact this
    unfold okI at hok
    dsimp only at hok
    cases raw <;> first | (cases hok; done) | skip
    case invokevirtual idx =>
      simp only [Bool.and_eq_true] at hok
      obtain ⟨o1, o2⟩ := hok
      cases Nat.eq_of_beq_eq_true o1
      obtain ⟨pz, hz⟩ := inP_at o2 mpl_ok
      dsimp only at hz
      have hlink := hts _ (gT_of hz rfl (fun q => by cases q))
      have hcw := callB_of (R := R) (n := (inf y').2.2.2.1 - 1) (rm := rmD d) (mc := 0) (ms := 0) hts (wsY_good hm) rfl rfl rfl (hts _ hini) hlink ⟨hmh.1, hmh.2, hn⟩ hroom
      rw [hrev] at hPc
      exact runA (va_runV (C := (mnm y').cls) (b := ad k) (As := ((st.take ((inf y').2.2.2.1 - 1)).reverse).map (cv ad fz)) (rest := (st.drop (inf y').2.2.2.1).map (cv ad fz)) hfix hM ⟨hcw, hts _ hi1, hts _ hi2⟩ ⟨PcA_blind, hrecv, hPc⟩ rfl (by simp [List.length_take]; omega) hl.2.1 hstk (lv_room hsum) hdec ⟨Nat.zero_le _, Nat.zero_le _⟩) hS (fun q _ h => hA1 q h) hA1 kk
end STEP6
end
section
/-! ===== the abstract machine is the machine ===== -/
theorem lay_tag {sd k t n b : Nat} (h : lay sd k = (t, n, b)) (h9 : t ≠ 9) : t ≤ 5 := by
  have key : ∀ (L : List (Nat × Nat × Nat)), L.all (fun q => Nat.ble q.1 5) = true → nth (9, 0, 0) L k = (t, n, b) → t ≤ 5 := by
    intro L hL hn
    by_cases hk : k < L.length
    · have := List.all_eq_true.mp hL _ (nth_mem (d := (9, 0, 0)) hk)
      rw [hn] at this
      exact Nat.le_of_ble_eq_true this
    · rw [nth_ge (by omega)] at hn
      cases hn
      exact absurd rfl h9
  unfold lay at h
  match sd, h with
  | 0, h => exact key layX (by decide +kernel) h
  | sd + 1, h => exact key layM (by decide +kernel) h
section STEP7
variable {p : Program} {l : Launch} {e : Env} {R : Room} {s : State} {m : MethodId} {args : Array Value} {below : List Frame} {meth : Method} {c : Code} {D : va_G} {ad tc : Nat → Nat} {fz : Value} {A : Nat → Prop} {sd y d : Nat} {i : Nat} {lv st : List Value} {μ : Mem} {raw : Instr} {len : Nat} {Q : QQ}
abbrev ZA (below : List Frame) (D : va_G) (ad tc : Nat → Nat) (A : Nat → Prop) (sd : Nat) (t : Option FieldType) (Q : QQ) (args : Array Value) (s : State) : State → Prop := MQ below (QcA D ad tc A sd t Q) args s 0 0 A
theorem s_ret (C : Cx p R s m args meth c D ad tc fz A sd y d) {H : Heap} {locs : List Loc} (hP : va_P D vwCl (wl sd ad tc μ) H) (hS : va_S A s.heap H locs) (hro : ROm sd μ) {r : Value} (hq : Q r μ) {t0 : Option FieldType} : ∀ t : State, t.heap = H → s.WarmedH t.vm → QcA D ad tc A sd t0 Q args s (.returned (rvl t0 r)) t := fun t ht _ => ⟨⟨r, μ, rfl, hq, hro, by rw [ht]; exact hP⟩, hS.F ht⟩
set_option maxHeartbeats 4000000 in
theorem step_ok (C : Cx p R s m args meth c D ad tc fz A sd y d) (h9 : sd ≠ 9) (hmo : ∀ y, y < 200 → mOk y = true) (ih : IH l D ad tc fz sd d)
    (h : stp (inf y).1 (inf y).2.2.2.2.1 (Call d) Q (nth .nop (prog y) i) i lv st μ (WA p l e R s m args below meth c D ad tc fz A sd y (ZA below D ad tc A sd (inf y).2.2.2.2.1 Q args s))) : WA p l e R s m args below meth c D ad tc fz A sd y (ZA below D ad tc A sd (inf y).2.2.2.2.1 Q args s) i lv st μ := by
  have hsd : (inf y).1 = sd := C.2.2.2.2.2.2.2.2.2.2.1
  have hck : chkY y = true := C.2.2.2.2.2.2.2.2.2.2.2.1
  rw [hsd] at h
  by_cases hnop : nth .nop (prog y) i = .nop
  · rw [hnop] at h
    exact h.elim
  obtain ⟨raw, len, hdec, hok, hnx⟩ := at_i hck hnop
  generalize nth .nop (prog y) i = ins at h hok
  have hx := C.1
  have hb := C.2.1
  have hr := C.2.2.1
  have hlk := C.2.2.2.2.2.2.1
  unfold stp at h
  cases ins
  case ldc n => exact s_ldc C hok hdec hnx h
  case ldc2_w n => exact s_ldc2 C hok hdec hnx h
  case ldc_w n => exact s_ldcs C h9 hok hdec hnx h
  case getstatic n => exact s_static C h9 hok hdec hnx h
  case iload n =>
    dsimp only at h
    split at h
    · rename_i x hv
      exact s_loads C hv hdec hnx h (Or.inl ⟨x, rfl, hok⟩)
    · exact h.elim
  case lload n =>
    dsimp only at h
    split at h
    · rename_i x hv
      exact s_loads C hv hdec hnx h (Or.inr (Or.inl ⟨x, rfl, hok⟩))
    · exact h.elim
  case aload n =>
    dsimp only at h
    split at h
    · rename_i x hv
      exact s_loads C hv hdec hnx h (Or.inr (Or.inr ⟨x, rfl, hok⟩))
    · exact h.elim
  case istore n =>
    obtain ⟨x, r, rfl, h2⟩ := pI_inv h
    split at h2
    · rename_i ho
      exact s_istore C hok hdec hnx ho h2
    · exact h2.elim
  case astore n =>
    obtain ⟨x, r, rfl, h2⟩ := pR_inv h
    split at h2
    · rename_i ho
      exact s_astore C hok hdec hnx ho h2
    · exact h2.elim
  case lstore n =>
    obtain ⟨x, r, rfl, h2⟩ := pL_inv h
    split at h2
    · rename_i ho
      exact s_lstore C hok hdec hnx ho h2
    · exact h2.elim
  case iinc n ci =>
    dsimp only at h
    split at h
    · rename_i x hv
      split at h
      · rename_i ho
        exact s_iinc C hok hdec hnx hv ho h
      · exact h.elim
    · exact h.elim
  case iadd =>
    obtain ⟨a, b, r, rfl, h2⟩ := pII_inv h
    obtain ⟨hd, hn⟩ := simple hok hdec hnx
    exact fun H locs ls hl hP hD hS hro => lv_iadd hx hb hd (h2.at hn H locs ls hl hP hD hS hro)
  case isub =>
    obtain ⟨a, b, r, rfl, h2⟩ := pII_inv h
    obtain ⟨hd, hn⟩ := simple hok hdec hnx
    exact fun H locs ls hl hP hD hS hro => lv_isub hx hb hd (h2.at hn H locs ls hl hP hD hS hro)
  case imul =>
    obtain ⟨a, b, r, rfl, h2⟩ := pII_inv h
    obtain ⟨hd, hn⟩ := simple hok hdec hnx
    exact fun H locs ls hl hP hD hS hro => lv_imul hx hb hd (h2.at hn H locs ls hl hP hD hS hro)
  case idiv =>
    obtain ⟨a, b, r, rfl, h0, h2⟩ := pII_inv h
    obtain ⟨hd, hn⟩ := simple hok hdec hnx
    exact fun H locs ls hl hP hD hS hro => lv_idiv hx hb hd h0 (WA.at h2 hn H locs ls hl hP hD hS hro)
  case irem =>
    obtain ⟨a, b, r, rfl, h0, h2⟩ := pII_inv h
    obtain ⟨hd, hn⟩ := simple hok hdec hnx
    exact fun H locs ls hl hP hD hS hro => lv_irem hx hb hd h0 (WA.at h2 hn H locs ls hl hP hD hS hro)
  case ineg =>
    obtain ⟨a, r, rfl, h2⟩ := pI_inv h
    obtain ⟨hd, hn⟩ := simple hok hdec hnx
    exact fun H locs ls hl hP hD hS hro => lv_ineg hx hb hd (h2.at hn H locs ls hl hP hD hS hro)
  case iand =>
    obtain ⟨a, b, r, rfl, h2⟩ := pII_inv h
    obtain ⟨hd, hn⟩ := simple hok hdec hnx
    exact fun H locs ls hl hP hD hS hro => lv_iand hx hb hd (h2.at hn H locs ls hl hP hD hS hro)
  case ior =>
    obtain ⟨a, b, r, rfl, h2⟩ := pII_inv h
    obtain ⟨hd, hn⟩ := simple hok hdec hnx
    exact fun H locs ls hl hP hD hS hro => lv_ior hx hb hd (h2.at hn H locs ls hl hP hD hS hro)
  case ishl =>
    obtain ⟨a, b, r, rfl, h2⟩ := pII_inv h
    obtain ⟨hd, hn⟩ := simple hok hdec hnx
    exact fun H locs ls hl hP hD hS hro => lv_ishl hx hb hd (h2.at hn H locs ls hl hP hD hS hro)
  case ishr =>
    obtain ⟨a, b, r, rfl, h2⟩ := pII_inv h
    obtain ⟨hd, hn⟩ := simple hok hdec hnx
    exact fun H locs ls hl hP hD hS hro => lv_ishr hx hb hd (h2.at hn H locs ls hl hP hD hS hro)
  case iushr =>
    obtain ⟨a, b, r, rfl, h2⟩ := pII_inv h
    obtain ⟨hd, hn⟩ := simple hok hdec hnx
    exact fun H locs ls hl hP hD hS hro => lv_iushr hx hb hd rfl (h2.at hn H locs ls hl hP hD hS hro)
  case i2l =>
    obtain ⟨a, r, rfl, h2⟩ := pI_inv h
    obtain ⟨hd, hn⟩ := simple hok hdec hnx
    exact fun H locs ls hl hP hD hS hro => lv_i2l hx hb hd rfl (h2.at hn H locs ls hl hP hD hS hro)
  case l2i =>
    obtain ⟨a, r, rfl, h2⟩ := pL_inv h
    obtain ⟨hd, hn⟩ := simple hok hdec hnx
    exact fun H locs ls hl hP hD hS hro => lv_l2i hx hb hd rfl (h2.at hn H locs ls hl hP hD hS hro)
  case i2b =>
    obtain ⟨a, r, rfl, h2⟩ := pI_inv h
    obtain ⟨hd, hn⟩ := simple hok hdec hnx
    exact fun H locs ls hl hP hD hS hro => lv_i2b hx hb hd rfl (h2.at hn H locs ls hl hP hD hS hro)
  case i2s =>
    obtain ⟨a, r, rfl, h2⟩ := pI_inv h
    obtain ⟨hd, hn⟩ := simple hok hdec hnx
    exact fun H locs ls hl hP hD hS hro => lv_i2s hx hb hd rfl (h2.at hn H locs ls hl hP hD hS hro)
  case i2c =>
    obtain ⟨a, r, rfl, h2⟩ := pI_inv h
    obtain ⟨hd, hn⟩ := simple hok hdec hnx
    exact fun H locs ls hl hP hD hS hro => lv_i2c hx hb hd rfl (h2.at hn H locs ls hl hP hD hS hro)
  case ladd =>
    obtain ⟨a, b, r, rfl, h2⟩ := pLL_inv h
    obtain ⟨hd, hn⟩ := simple hok hdec hnx
    exact fun H locs ls hl hP hD hS hro => lv_ladd hx hb hd (h2.at hn H locs ls hl hP hD hS hro)
  case lsub =>
    obtain ⟨a, b, r, rfl, h2⟩ := pLL_inv h
    obtain ⟨hd, hn⟩ := simple hok hdec hnx
    exact fun H locs ls hl hP hD hS hro => lv_lsub hx hb hd (h2.at hn H locs ls hl hP hD hS hro)
  case lmul =>
    obtain ⟨a, b, r, rfl, h2⟩ := pLL_inv h
    obtain ⟨hd, hn⟩ := simple hok hdec hnx
    exact fun H locs ls hl hP hD hS hro => lv_lmul hx hb hd (h2.at hn H locs ls hl hP hD hS hro)
  case ldiv =>
    obtain ⟨a, b, r, rfl, h0, h2⟩ := pLL_inv h
    obtain ⟨hd, hn⟩ := simple hok hdec hnx
    exact fun H locs ls hl hP hD hS hro => lv_ldiv hx hb hd h0 (WA.at h2 hn H locs ls hl hP hD hS hro)
  case lrem =>
    obtain ⟨a, b, r, rfl, h0, h2⟩ := pLL_inv h
    obtain ⟨hd, hn⟩ := simple hok hdec hnx
    exact fun H locs ls hl hP hD hS hro => lv_lrem hx hb hd h0 (WA.at h2 hn H locs ls hl hP hD hS hro)
  case lushr =>
    obtain ⟨a, b, r, rfl, h2⟩ := pLI_inv h
    obtain ⟨hd, hn⟩ := simple hok hdec hnx
    exact fun H locs ls hl hP hD hS hro => lv_lushr hx hb hd rfl (h2.at hn H locs ls hl hP hD hS hro)
  case lcmp =>
    obtain ⟨a, b, r, rfl, h2⟩ := pLL_inv h
    obtain ⟨hd, hn⟩ := simple hok hdec hnx
    exact fun H locs ls hl hP hD hS hro => W.lcmp hx hb hd (h2.at hn H locs ls hl hP hD hS hro)
  case dup =>
    obtain ⟨hd, hn⟩ := simple hok hdec hnx
    dsimp only at h
    split at h
    · split at h
      · rename_i hc
        exact fun H locs ls hl hP hD hS hro => lv_dup hx hb hd (by rw [cv_cat C.2.2.2.2.2.2.2.2.2.1]; exact Nat.eq_of_beq_eq_true hc) (WA.at h hn H locs ls hl hP hD hS hro)
      · exact h.elim
    · exact h.elim
  case dup_x1 =>
    obtain ⟨hd, hn⟩ := simple hok hdec hnx
    dsimp only at h
    split at h
    · split at h
      · rename_i hc
        simp only [Bool.and_eq_true] at hc
        exact fun H locs ls hl hP hD hS hro => lv_dup_x1 hx hb hd (by rw [cv_cat C.2.2.2.2.2.2.2.2.2.1]; exact Nat.eq_of_beq_eq_true hc.1) (by rw [cv_cat C.2.2.2.2.2.2.2.2.2.1]; exact Nat.eq_of_beq_eq_true hc.2) (WA.at h hn H locs ls hl hP hD hS hro)
      · exact h.elim
    · exact h.elim
  case pop =>
    obtain ⟨hd, hn⟩ := simple hok hdec hnx
    dsimp only at h
    split at h
    · split at h
      · rename_i hc
        exact fun H locs ls hl hP hD hS hro => lv_pop hx hb hd (by rw [cv_cat C.2.2.2.2.2.2.2.2.2.1]; exact Nat.eq_of_beq_eq_true hc) (WA.at h hn H locs ls hl hP hD hS hro)
      · exact h.elim
    · exact h.elim
  case ifCond cd t =>
    obtain ⟨a, r, rfl, h2⟩ := pI_inv h
    unfold okI at hok
    cases raw <;> first | (cases hok; done) | skip
    case ifCond cd' off =>
      simp only [Bool.and_eq_true] at hok
      obtain ⟨⟨q1, q2⟩, q3⟩ := hok
      cases of_decide_eq_true q1
      cases Nat.eq_of_beq_eq_true q2
      exact fun H locs ls hl hP hD hS hro => s_cnd0 C hdec (of_decide_eq_true q3) (fun z => z H locs ls hl hP hD hS hro) (fun z => WA.at z hnx H locs ls hl hP hD hS hro) h2
  case if_icmp cd t =>
    obtain ⟨a, b, r, rfl, h2⟩ := pII_inv h
    unfold okI at hok
    cases raw <;> first | (cases hok; done) | skip
    case if_icmp cd' off =>
      simp only [Bool.and_eq_true] at hok
      obtain ⟨⟨q1, q2⟩, q3⟩ := hok
      cases of_decide_eq_true q1
      cases Nat.eq_of_beq_eq_true q2
      exact fun H locs ls hl hP hD hS hro => s_cnd C hdec (of_decide_eq_true q3) (fun z => z H locs ls hl hP hD hS hro) (fun z => WA.at z hnx H locs ls hl hP hD hS hro) h2
  case goto t =>
    unfold okI at hok
    cases raw <;> first | (cases hok; done) | skip
    case goto off =>
      simp only [Bool.and_eq_true] at hok
      cases Nat.eq_of_beq_eq_true hok.1
      exact fun H locs ls hl hP hD hS hro => lv_goto hx hb hdec (of_decide_eq_true hok.2) (h H locs ls hl hP hD hS hro)
  case lookupswitch dv ps =>
    obtain ⟨a, r, rfl, h2⟩ := pI_inv h
    exact s_switch C hok hdec h2
  case arraylength =>
    obtain ⟨k, r, rfl, h2⟩ := pR_inv h
    obtain ⟨hd, hn⟩ := simple hok hdec hnx
    split at h2
    · exact h2.elim
    · exact h2.elim
    · rename_i t n b e1 e2 hy
      have ht5 : t ≤ 5 := lay_tag hy (by
        intro z
        subst z
        exact e2 rfl)
      exact s_alen C hd hn hy (by intro z; subst z; exact e1 rfl) (by intro z; subst z; exact e2 rfl) ht5 h2
  case iaload =>
    obtain ⟨k, j, r, rfl, hj, h2⟩ := pRI_inv h
    obtain ⟨hd, hn⟩ := simple hok hdec hnx
    exact s_iaload C hd hn hj h2
  case baload =>
    obtain ⟨k, j, r, rfl, hj, h2⟩ := pRI_inv h
    obtain ⟨hd, hn⟩ := simple hok hdec hnx
    exact s_baload C hd hn hj h2
  case laload =>
    obtain ⟨k, j, r, rfl, hj, h2⟩ := pRI_inv h
    obtain ⟨hd, hn⟩ := simple hok hdec hnx
    exact s_laload C hd hn hj h2
  case aaload =>
    obtain ⟨k, j, r, rfl, hj, h2⟩ := pRI_inv h
    obtain ⟨hd, hn⟩ := simple hok hdec hnx
    exact s_aaload C hd hn hj h2
  case iastore =>
    obtain ⟨k, j, v, r, rfl, hj, h2⟩ := pRII_inv h
    obtain ⟨hd, hn⟩ := simple hok hdec hnx
    exact s_iastore C hd hn hj h2
  case bastore =>
    obtain ⟨k, j, v, r, rfl, hj, h2⟩ := pRII_inv h
    obtain ⟨hd, hn⟩ := simple hok hdec hnx
    exact s_bastore C hd hn hj h2
  case lastore =>
    obtain ⟨k, j, v, r, rfl, hj, h2⟩ := pRIL_inv h
    obtain ⟨hd, hn⟩ := simple hok hdec hnx
    exact s_lastore C hd hn hj h2
  case getfield n =>
    obtain ⟨k, r, rfl, h2⟩ := pR_inv h
    split at h2
    · rename_i hc
      split at h2
      · rename_i ch hq
        exact s_get (v := .ref ch) C hok hdec hnx hc hq (fun z => by cases z) rfl h2
      · rename_i ch hq
        exact s_get (v := .long (μ.2 k (n % 64))) C hok hdec hnx hc hq (fun z => by cases z) rfl h2
      · exact h2.elim
      · rename_i e3 e2 e9
        generalize hq : fld sd k (n % 64) = q at e3 e2 e9
        obtain ⟨q1, q2⟩ := q
        refine s_get (v := .int (μ.1 k (n % 64))) C hok hdec hnx hc hq (fun z => ?_) ?_ h2
        · dsimp only at z
          subst z
          exact e9 _ rfl
        · unfold fv
          split
          · rename_i z; cases z; exact absurd rfl (e3 _)
          · rename_i z; cases z; exact absurd rfl (e2 _)
          · rfl
    · exact h2.elim
  case putfield n =>
    dsimp only at h
    split at h
    · split at h
      · rename_i hc
        split at h
        · rename_i hq
          exact s_put C hok hdec hnx hc hq (Or.inl rfl) h
        · rename_i hq
          exact s_put C hok hdec hnx hc hq (Or.inr ⟨rfl, h.1⟩) h.2
        · exact h.elim
      · exact h.elim
    · split at h
      · rename_i hc
        split at h
        · rename_i hq
          exact s_putL C hok hdec hnx hc hq rfl h
        · exact h.elim
      · exact h.elim
    · exact h.elim
  case invokestatic y' => exact s_call (vst := true) C h9 hmo ih hok hdec hnx h
  case invokevirtual y' => exact s_call (vst := false) C h9 hmo ih hok hdec hnx h
  case invokedynamic n => exact s_prim C hok hdec hnx h
  case ireturn =>
    obtain ⟨hd, hn⟩ := simple hok hdec hnx
    dsimp only at h
    generalize ht : (inf y).2.2.2.2.1 = t0 at h hr
    split at h
    · rename_i v t
      intro H locs ls hl hP hD hS hro
      by_cases hti : t = .int
      · subst hti
        exact W.iret hx hb hr (s_ret C hP hS hro h) hS.2.2 hd hlk
      · have h2 : narrow t (.int v) = .int v ∧ Q (.int v) μ := by
          unfold narOk at h
          cases t <;> first | exact absurd rfl hti | exact h
        exact W.zret hx hb hr h2.1 (s_ret C hP hS hro h2.2) hS.2.2 hd hlk
    · exact h.elim
  case lreturn =>
    obtain ⟨hd, hn⟩ := simple hok hdec hnx
    dsimp only at h
    generalize ht : (inf y).2.2.2.2.1 = t0 at h hr
    split at h
    · intro H locs ls hl hP hD hS hro
      exact W.lret hx hb hr (s_ret C hP hS hro h) hS.2.2 hd hlk
    · exact h.elim
  case return_ =>
    obtain ⟨hd, hn⟩ := simple hok hdec hnx
    dsimp only at h
    generalize ht : (inf y).2.2.2.2.1 = t0 at h hr
    split at h
    · intro H locs ls hl hP hD hS hro
      exact W.vret hx hb hr (s_ret C hP hS hro h) hS.2.2 hd hlk
    · exact h.elim
  all_goals exact h.elim
end STEP7
theorem pad_mem {ad : Nat → Nat} {fz : Value} (hfz : fz.category = 1) : ∀ (as : List Value) (n j base : Nat) (v : Value), (pad n (ent as))[j]? = some v → v ≠ un → (base + j, cv ad fz v) ∈ lv_args base (as.map (cv ad fz)) := by
  have hnil : ∀ (n j : Nat) (v : Value), (pad n [])[j]? = some v → v = un := by
    intro n
    induction n with
    | zero => intro j v h; simp [pad] at h
    | succ n ih =>
      intro j v h
      cases j with
      | zero => simpa [pad] using h.symm
      | succ j =>
        simp only [pad, List.getElem?_cons_succ] at h
        exact ih j v h
  have hun : ∀ (r : List Value) (n j : Nat) (v : Value), (pad n (un :: r))[j]? = some v → v ≠ un → ∃ j' n', j = j' + 1 ∧ n = n' + 1 ∧ (pad n' r)[j']? = some v := by
    intro r n j v h hv
    cases n with
    | zero => simp [pad] at h
    | succ n =>
      cases j with
      | zero =>
        simp [pad] at h
        exact absurd h.symm hv
      | succ j =>
        simp only [pad, List.getElem?_cons_succ] at h
        exact ⟨j, n, rfl, rfl, h⟩
  intro as
  induction as with
  | nil => intro n j base v h hv; exact absurd (hnil n j v h) hv
  | cons a r ih =>
    intro n j base v h hv
    cases n with
    | zero => simp [ent, pad] at h
    | succ n =>
      have h1 : ∀ w : Value, w.category = 1 → ent (w :: r) = w :: ent r → (pad (n + 1) (ent (w :: r)))[j]? = some v → (base + j, cv ad fz v) ∈ lv_args base ((w :: r).map (cv ad fz)) := by
        intro w hw he h
        rw [he] at h
        cases j with
        | zero =>
          simp [pad] at h
          subst h
          exact List.mem_cons_self
        | succ j =>
          simp only [pad, List.getElem?_cons_succ] at h
          have h3 := ih n j (base + 1) v h hv
          refine List.mem_cons_of_mem _ ?_
          rw [if_neg (by rw [cv_cat hfz, hw]; decide), show base + (j + 1) = base + 1 + j by omega]
          exact h3
      have h2 : ∀ w : Value, w.category = 2 → ent (w :: r) = w :: un :: ent r → (pad (n + 1) (ent (w :: r)))[j]? = some v → (base + j, cv ad fz v) ∈ lv_args base ((w :: r).map (cv ad fz)) := by
        intro w hw he h
        rw [he] at h
        cases j with
        | zero =>
          simp [pad] at h
          subst h
          exact List.mem_cons_self
        | succ j =>
          simp only [pad, List.getElem?_cons_succ] at h
          obtain ⟨j', n', rfl, rfl, h⟩ := hun _ _ _ _ h hv
          have h3 := ih n' j' (base + 2) v h hv
          refine List.mem_cons_of_mem _ ?_
          rw [if_pos (by rw [cv_cat hfz, hw]), show base + (j' + 1 + 1) = base + 2 + j' by omega]
          exact h3
      cases a with
      | int x => exact h1 _ rfl rfl h
      | long x => exact h2 _ rfl rfl h
      | float x => exact h1 _ rfl rfl h
      | double x => exact h2 _ rfl rfl h
      | null => exact h1 _ rfl rfl h
      | ref x => exact h1 _ rfl rfl h
      | retAddr x => exact h1 _ rfl rfl h
theorem pad_len : ∀ (n : Nat) (l : List Value), (pad n l).length = n
  | 0, _ => rfl
  | n + 1, [] => by simp [pad, pad_len n []]
  | n + 1, v :: r => by simp [pad, pad_len n r]
theorem lg_len {ad : Nat → Nat} {fz : Value} (hfz : fz.category = 1) : ∀ as : List Value, (lg_sl (as.map (cv ad fz))).length = csum as
  | [] => rfl
  | v :: r => by
    have h := lg_len (ad := ad) hfz r
    simp only [lg_sl, List.map_cons, List.flatMap_cons, List.length_append] at h ⊢
    rw [h]
    simp only [csum, cv_cat hfz]
    rcases lv_cat v with q | q <;> rw [q] <;> simp
theorem pcs_all : pcsL.all (fun q => Nat.beq (nth 0 q 0) 0) = true := by decide +kernel
theorem pcs0 {y : Nat} (hy : y < 200) : pcs y 0 = 0 := Nat.eq_of_beq_eq_true (List.all_eq_true.mp pcs_all _ (nth_mem (d := []) (Nat.lt_of_lt_of_le hy (by decide +kernel))))
theorem sound {l : Launch} {D : va_G} {ad tc : Nat → Nat} {fz : Value} {sd : Nat} (h9 : sd ≠ 9) (hfz : fz.category = 1) (hck : ∀ y, y < 200 → chkY y = true) (hmo : ∀ y, y < 200 → mOk y = true) : ∀ d : Nat, IH l D ad tc fz sd d
  | 0 => fun _ _ _ _ _ _ _ _ _ h => h.elim
  | d + 1 => by
    intro y as μ Q sz hy hsd hcs hro hcall
    have ih := sound (l := l) (D := D) (ad := ad) (tc := tc) h9 hfz hck hmo d
    obtain ⟨-, -, hcls, hpl, -⟩ := mOk_spec (hmo y hy)
    refine Met.ofW (cc := bc y) (maxL := (inf y).2.2.1) (ret := (inf y).2.2.2.2.1) hpl rfl ?_
    intro p e s m args below meth c s₁ B hml hv
    obtain ⟨rfl, hsz, hP, hK, hD0, hRO⟩ := hv
    subst hsz
    have hts := atoms_spec (ws := wsY y) B.pre
    have hown : s.vm.findClass (cnm (inf y).2.1) = some m.cls := by rw [← hcls]; exact findClass_of_methodNamed B.named
    have hD : va_D (va_A (wl sd ad tc μ) s.heap.size) (wl sd ad tc μ) := hD0.self
    have C : Cx p (rmD (d + 1)) s m (as.map (cv ad fz)).toArray meth c D ad tc fz (va_A (wl sd ad tc μ) s.heap.size) sd y d := ⟨B.exec, B.bytes, B.returns, hml, hown, fun w hw => hts w (List.mem_cons_of_mem _ hw), B.notSynchronized, hK, hRO, hfz, hsd, hck y hy, fun q h => Or.inr h, rfl⟩
    have hW := hcall _ (fun i lv st μ h => step_ok (l := l) (e := e) (below := below) C h9 hmo ih h)
    have hl := lv_entry (as.map (cv ad fz)) (n := (inf y).2.2.1) (by rw [lg_len hfz]; exact hcs)
    rw [lg_entry_eq]
    have h0 : pcs y 0 = 0 := pcs0 hy
    have h1 := hW s.heap [] _ ⟨pad_len _ _, hl.1, hl.2.1, fun q hq => by
      obtain ⟨v, h1, h2, h3⟩ := lvp_mem.mp hq
      have h4 := pad_mem (ad := ad) hfz as _ _ 0 v h1 h2
      rw [Nat.zero_add, ← h3] at h4
      exact hl.2.2 q h4⟩ hP hD va_S.rf hro
    rw [h0] at h1
    exact h1
end
