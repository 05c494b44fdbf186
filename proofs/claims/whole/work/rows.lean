section
def nth {α : Type} (d : α) : List α → Nat → α
  | [], _ => d
  | a :: _, 0 => a
  | _ :: l, n + 1 => nth d l n
/-! ===== tables of the abstract machine, by program out of the listing ===== -/
def cKl : List Int32 := [(-1), 0, 1, 2, 3, 4, 5, 8, 999, 23, 9999, 9, (-2), 6, 7, 255, (-4), (-100), 24, (-100000), 19, (-3), 40, (-14), (-11), (-12), (-13), 10, 160, 32, 41, 59, 43, 45, 42, 60, 61, 117, 115, 101, 100, 104, 111, 114, 108, 116, 110, 103, 112, 109, 97, 121, 119, 99, 54, 1103515245, 12345, 20, 256, 259, (-259), 260, (-260), 261, (-261), (-42), (-262), 48, 122, 57, (-6), 30, 888888]
def cLl : List Int64 := [(-4611686018427387904), 0, 7, 4, 999, 3, 23, 9999, 9, 1, 888888, 8, 5, 255, 97, 122, 48, 57, 10, 43, 60, 1000, 32, 16, 64, 1048576, 7046029254386353131, 24, 2, 20, (-1)]
def layX : List (Nat × Nat × Nat) := [(0, 8, 0), (1, 8, 0), (0, 6, 0), (1, 10, 0), (1, 10, 0), (5, 10, 6), (1, 6, 0), (1, 6, 0), (1, 6, 0), (1, 6, 0), (1, 6, 0), (1, 6, 0), (1, 6, 0), (1, 6, 0), (1, 6, 0), (1, 6, 0), (0, 7, 0), (1, 5, 0), (1, 5, 0), (1, 5, 0), (0, 2, 0), (1, 6, 0), (1, 6, 0), (0, 3, 0), (1, 160, 0), (1, 160, 0), (1, 3, 0), (0, 5, 0), (5, 6, 29), (1, 160, 0), (1, 160, 0), (1, 160, 0), (1, 160, 0), (1, 160, 0), (1, 160, 0), (5, 6, 36), (1, 3, 0), (1, 3, 0), (1, 3, 0), (1, 3, 0), (1, 3, 0), (1, 3, 0), (1, 6, 0), (1, 31, 0), (0, 0, 0), (1, 8, 0), (1, 5, 0), (1, 5, 0), (1, 5, 0), (1, 5, 0), (1, 24, 0), (0, 1, 0), (1, 8, 0), (1, 5, 0), (1, 5, 0), (1, 5, 0), (1, 6, 0), (0, 4, 0), (1, 4, 0), (1, 4, 0), (5, 4, 61), (1, 40, 0), (1, 40, 0), (1, 40, 0), (1, 40, 0), (1, 6, 1), (0, 10, 0), (4, 36, 0), (0, 10, 0), (4, 61, 0), (0, 10, 0), (4, 8, 0)]
def layM : List (Nat × Nat × Nat) := [(0, 9, 0), (1, 960, 0), (1, 6, 0), (1, 160, 0), (1, 8, 0), (1, 10, 0), (1, 10, 0), (1, 5, 0), (1, 5, 0), (1, 5, 0), (1, 6, 0), (1, 6, 0), (2, 1024, 0), (1, 1024, 0), (1, 8, 0), (1, 8, 0), (1, 5, 0), (1, 5, 0), (1, 5, 0), (1, 8, 0), (1, 15, 0), (1, 6, 0), (3, 4, 0), (1, 4, 0), (1, 4, 0), (1, 160, 0)]
def fldX : List (List (Nat × Nat)) := [[(3, 1), (3, 2), (3, 16), (3, 20), (3, 23), (3, 27), (3, 44), (3, 51), (3, 57)], [], [(3, 3), (3, 4), (3, 5), (0, 0)], [], [], [], [], [], [], [], [], [], [], [], [], [], [(3, 17), (3, 18), (3, 19), (0, 0)], [], [], [], [(3, 21), (3, 22), (0, 0), (0, 0)], [], [], [(3, 24), (0, 0), (3, 25), (3, 26), (0, 0), (0, 0), (0, 0), (0, 0), (0, 0), (0, 0)], [], [], [], [(3, 28), (3, 35), (3, 42), (3, 43), (0, 0), (0, 0)], [], [], [], [], [], [], [], [], [], [], [], [], [], [], [], [], [(3, 1), (3, 2), (3, 16), (3, 20), (3, 27), (3, 45), (3, 46), (0, 0), (3, 47), (3, 48), (3, 49), (3, 50)], [], [], [], [], [], [], [(1, 0), (3, 52), (0, 0), (0, 0), (3, 53), (3, 54), (3, 55), (0, 0), (3, 56), (0, 0), (0, 0)], [], [], [], [], [], [(3, 58), (3, 59), (3, 60)], [], [], [], [], [], [], [], [], [(3, 67), (4, 0)], [], [(3, 69), (4, 0)], [], [(3, 71), (4, 0)], []]
def fldM : List (List (Nat × Nat)) := [[(0, 0), (3, 1), (3, 2), (0, 0), (0, 0), (3, 3), (0, 0), (3, 4), (3, 5), (3, 6), (0, 0), (3, 7), (3, 8), (3, 9), (0, 0), (3, 10), (3, 11), (0, 0), (0, 0), (0, 0), (0, 0), (0, 0), (0, 0), (0, 0), (0, 0), (0, 0), (0, 0), (0, 0), (0, 0), (0, 0), (2, 0), (0, 0), (1, 0), (0, 0), (3, 12), (3, 13), (3, 14), (3, 15), (3, 16), (3, 17), (0, 0), (0, 0), (0, 0), (0, 0), (0, 0), (3, 18), (0, 0), (0, 0), (3, 19), (3, 20), (3, 21), (0, 0), (0, 0), (0, 0), (0, 0), (0, 0), (3, 22), (3, 23), (3, 24), (3, 25)], [], [], [], [], [], [], [], [], [], [], [], [], [], [], [], [], [], [], [], [], [], [], [], [], []]
def sKl : List Value := [.ref 65, .int 1, .retAddr 7]
def infL : List (Nat × Nat × Nat × Nat × Option FieldType × Nat) := [(0, 8, 4, 4, some .int, 0), (0, 8, 3, 3, some .int, 0), (0, 8, 3, 3, some .int, 0), (0, 8, 4, 4, some .int, 0), (0, 8, 3, 3, some .int, 0), (0, 8, 3, 2, some .int, 0), (0, 8, 2, 2, some .int, 0), (0, 8, 2, 1, some .int, 0), (0, 8, 3, 2, some .int, 0), (0, 8, 3, 3, some .int, 0), (0, 8, 4, 3, some .int, 0), (0, 8, 3, 2, some .int, 0), (0, 8, 8, 4, some .int, 0), (0, 8, 3, 3, some .int, 0), (0, 8, 2, 2, some .int, 0), (0, 8, 4, 3, some .int, 0), (0, 8, 3, 2, some .int, 0), (0, 8, 3, 1, some .int, 0), (0, 8, 8, 2, some .int, 0), (0, 8, 3, 3, some .int, 0), (0, 8, 8, 3, some .int, 0), (0, 8, 8, 2, some .int, 0), (0, 8, 3, 2, some .int, 0), (0, 8, 5, 3, some .int, 0), (0, 8, 5, 2, some .int, 0), (0, 8, 2, 2, some .int, 0), (0, 8, 6, 4, some .long, 0), (0, 8, 1, 1, some .int, 0), (0, 8, 1, 1, some .int, 0), (0, 8, 2, 2, some .int, 0), (0, 8, 4, 4, some .int, 0), (0, 8, 4, 4, some .int, 0), (0, 8, 6, 6, some .int, 0), (0, 8, 9, 5, some .int, 0), (0, 8, 3, 3, some .int, 0), (0, 8, 2, 2, some .boolean, 1), (0, 8, 6, 5, some .int, 1), (0, 8, 3, 3, some .int, 1), (0, 8, 6, 1, some .int, 1), (0, 8, 3, 1, some .int, 1), (0, 8, 3, 3, some .int, 1), (0, 8, 4, 2, some .boolean, 1), (0, 8, 4, 2, some .int, 1), (0, 8, 3, 2, some .int, 1), (0, 8, 2, 2, some .int, 0), (1, 9, 6, 3, some .boolean, 1), (1, 9, 3, 3, some .int, 1), (1, 9, 10, 10, none, 0), (1, 9, 2, 2, some .boolean, 0), (1, 9, 2, 2, some .boolean, 0), (1, 9, 2, 2, some .boolean, 0), (1, 9, 3, 3, some .boolean, 0), (1, 9, 5, 4, some .int, 0), (1, 9, 3, 1, some .int, 1), (1, 9, 3, 3, some .int, 0), (1, 9, 4, 3, some .int, 0), (1, 9, 4, 4, some .int, 0), (1, 9, 3, 3, some .int, 0), (1, 9, 3, 2, some .int, 0), (1, 9, 2, 2, some .int, 1), (1, 9, 5, 3, some .int, 0), (1, 9, 5, 2, some .int, 0), (1, 9, 2, 2, some .int, 0), (1, 9, 2, 2, some .int, 0), (1, 9, 3, 1, none, 0), (1, 9, 1, 1, none, 0), (1, 9, 3, 3, some .boolean, 0), (1, 9, 9, 9, some .boolean, 0), (1, 9, 2, 2, some .boolean, 0), (1, 9, 1, 1, some .boolean, 0), (1, 9, 1, 1, some .int, 0), (1, 9, 2, 1, some .int, 0), (1, 9, 2, 1, some .int, 0), (1, 9, 4, 1, some .int, 0), (1, 9, 4, 1, some .int, 0), (1, 9, 3, 1, some .int, 0), (1, 9, 3, 1, some .int, 0), (1, 9, 3, 2, some .int, 0), (1, 9, 6, 3, some .int, 0), (1, 9, 2, 1, some .int, 0), (1, 9, 3, 2, some .int, 0), (1, 9, 4, 4, some .int, 0), (1, 9, 4, 4, some .int, 0), (1, 9, 5, 2, some .int, 0), (1, 9, 2, 1, none, 0), (1, 9, 7, 3, some .int, 0), (1, 9, 5, 3, some .int, 0), (1, 9, 2, 1, none, 0), (1, 9, 3, 1, some .int, 0), (1, 9, 2, 1, none, 0), (1, 9, 3, 3, some .int, 0), (1, 9, 4, 3, some .int, 0), (1, 9, 3, 2, some .int, 0), (1, 9, 8, 4, some .int, 0), (1, 9, 4, 2, none, 0), (1, 9, 3, 1, none, 0), (1, 9, 1, 1, none, 0), (1, 9, 2, 2, some .int, 0), (1, 9, 3, 1, some .int, 0), (1, 9, 3, 1, some .int, 0), (1, 9, 3, 3, some .int, 0), (1, 9, 5, 2, some .int, 0), (1, 9, 5, 2, none, 0), (1, 9, 3, 3, some .int, 0), (1, 9, 2, 2, some .int, 0), (1, 9, 3, 1, some .int, 0), (1, 9, 6, 5, none, 0), (1, 9, 3, 2, some .int, 0), (1, 9, 4, 3, some .int, 0), (1, 9, 3, 3, some .int, 0), (1, 9, 7, 3, some .int, 0), (1, 9, 8, 2, some .int, 0), (1, 9, 2, 2, some .int, 0), (1, 9, 3, 2, some .int, 0), (1, 9, 3, 2, some .int, 0), (1, 9, 3, 3, some .int, 0), (1, 9, 5, 2, some .int, 0), (1, 9, 4, 2, none, 0), (1, 9, 2, 2, some .int, 0), (1, 9, 12, 4, some .long, 0), (1, 9, 2, 1, some .int, 0), (1, 9, 2, 1, some .int, 0), (1, 9, 2, 2, some .int, 0), (1, 9, 1, 1, some .boolean, 1), (1, 9, 5, 4, some .int, 0), (1, 9, 4, 4, some .int, 0), (1, 9, 9, 6, some .int, 0), (1, 9, 8, 5, some .int, 0), (1, 9, 1, 1, some .int, 1), (1, 9, 4, 3, some .int, 0), (0, 0, 1, 1, none, 0), (0, 0, 4, 2, none, 0), (0, 0, 1, 1, none, 0), (0, 0, 4, 2, none, 0), (0, 0, 8, 2, none, 0), (0, 0, 6, 3, some .int, 0), (0, 0, 3, 2, none, 0), (0, 0, 3, 3, some .int, 0), (0, 0, 3, 1, some .int, 0), (0, 0, 3, 1, some .int, 0), (0, 0, 3, 1, some .int, 0), (0, 0, 7, 1, some .int, 0), (0, 0, 4, 2, some .int, 0), (0, 1, 2, 2, none, 0), (0, 1, 2, 2, none, 0), (0, 1, 2, 2, none, 0), (0, 1, 2, 2, none, 0), (0, 2, 3, 3, some .int, 0), (0, 2, 5, 3, some .boolean, 0), (0, 2, 5, 4, some .int, 0), (0, 2, 2, 2, some .int, 1), (0, 2, 4, 3, none, 0), (0, 2, 3, 3, some .int, 0), (0, 3, 2, 2, some .boolean, 0), (0, 3, 3, 2, none, 0), (0, 3, 2, 1, some .int, 0), (0, 3, 1, 1, none, 0), (0, 3, 2, 2, none, 0), (0, 3, 2, 2, none, 0), (0, 3, 3, 2, none, 0), (0, 3, 3, 2, none, 0), (0, 3, 2, 2, none, 0), (0, 3, 3, 2, none, 0), (0, 3, 4, 2, none, 0), (0, 3, 3, 2, none, 0), (0, 3, 2, 2, none, 0), (0, 3, 1, 1, none, 0), (0, 3, 2, 1, none, 0), (0, 3, 1, 1, none, 0), (0, 3, 5, 1, some .int, 0), (0, 3, 1, 1, some .boolean, 1), (0, 3, 1, 1, some .boolean, 1), (0, 3, 1, 1, some .boolean, 1), (0, 4, 5, 4, none, 0), (0, 4, 4, 4, none, 0), (0, 4, 4, 4, some .boolean, 0), (0, 5, 3, 3, some .int, 0), (0, 5, 4, 4, some .int, 0), (0, 5, 5, 5, some .int, 0), (0, 5, 5, 5, some .boolean, 0), (0, 5, 7, 7, none, 0), (0, 5, 2, 2, some .int, 1), (0, 5, 10, 2, some .int, 0), (0, 6, 4, 1, some .int, 1), (0, 6, 5, 3, some .int, 0), (0, 6, 7, 4, some .int, 0), (0, 6, 5, 3, none, 0), (0, 7, 4, 4, some .int, 0), (0, 10, 1, 1, some .int, 0), (0, 10, 1, 1, some .byte, 0), (0, 10, 1, 1, some .boolean, 0), (0, 10, 2, 2, some .char, 0), (0, 10, 2, 2, none, 1), (0, 10, 2, 2, some .int, 0), (0, 10, 3, 3, some .int, 0), (0, 11, 2, 2, some .char, 1), (0, 11, 1, 1, some .boolean, 1), (0, 11, 4, 4, some .int, 1), (0, 11, 6, 4, some .int, 1), (0, 12, 3, 3, some .int, 1)]
def pr_X_set : List Instr := [.iload 1, .lookupswitch 54 #[(1, 2), (2, 10), (3, 21), (4, 32), (5, 43)], .aload 0, .getfield 512, .ldc 7, .iload 2, .iload 3, .ldc 8, .invokestatic 36, .ireturn, .aload 0, .getfield 514, .getfield 448, .aload 0, .getfield 514, .getfield 451, .iload 2, .iload 3, .ldc 4, .invokestatic 36, .ireturn, .aload 0, .getfield 514, .getfield 449, .aload 0, .getfield 514, .getfield 451, .iload 2, .iload 3, .ldc 9, .invokestatic 36, .ireturn, .aload 0, .getfield 514, .getfield 450, .aload 0, .getfield 514, .getfield 451, .iload 2, .iload 3, .ldc 10, .invokestatic 36, .ireturn, .aload 0, .getfield 515, .getfield 129, .aload 0, .getfield 515, .getfield 130, .iload 2, .iload 3, .ldc 11, .invokestatic 36, .ireturn, .ldc 12, .ireturn]
def pr_X_told : List Instr := [.iload 2, .lookupswitch 71 #[(1, 2), (2, 8), (3, 17), (4, 26), (5, 35), (6, 44), (13, 53), (14, 62)], .aload 0, .getfield 512, .ldc 7, .iload 1, .invokestatic 37, .ireturn, .aload 0, .getfield 514, .getfield 448, .aload 0, .getfield 514, .getfield 451, .iload 1, .invokestatic 37, .ireturn, .aload 0, .getfield 514, .getfield 449, .aload 0, .getfield 514, .getfield 451, .iload 1, .invokestatic 37, .ireturn, .aload 0, .getfield 514, .getfield 450, .aload 0, .getfield 514, .getfield 451, .iload 1, .invokestatic 37, .ireturn, .aload 0, .getfield 515, .getfield 129, .aload 0, .getfield 515, .getfield 130, .iload 1, .invokestatic 37, .ireturn, .aload 0, .getfield 515, .getfield 128, .aload 0, .getfield 515, .getfield 130, .iload 1, .invokestatic 37, .ireturn, .aload 0, .getfield 513, .getfield 384, .aload 0, .getfield 513, .getfield 387, .iload 1, .invokestatic 37, .ireturn, .aload 0, .getfield 513, .getfield 385, .aload 0, .getfield 513, .getfield 387, .iload 1, .invokestatic 37, .ireturn, .ldc 12, .ireturn]
def pr_X_word : List Instr := [.iload 1, .ldc 4, .invokestatic 35, .ifCond .eq 7, .iload 2, .invokestatic 183, .ifCond .ne 9, .ldc 12, .ireturn, .aload 0, .getfield 513, .iload 1, .iload 2, .invokevirtual 184, .ireturn]
def pr_X_writer : List Instr := [.aload 0, .getfield 514, .iload 1, .iload 2, .iload 3, .invokevirtual 187, .ireturn]
def pr_X_law : List Instr := [.iload 1, .ldc 6, .invokestatic 35, .ifCond .eq 8, .iload 2, .ldc 11, .invokestatic 35, .ifCond .ne 10, .ldc 12, .ireturn, .aload 0, .getfield 515, .iload 1, .iload 2, .invokevirtual 147, .ireturn]
def pr_X_rule : List Instr := [.iload 1, .aload 0, .getfield 515, .getfield 130, .ldc 2, .isub, .invokestatic 35, .ifCond .ne 10, .ldc 12, .ireturn, .aload 0, .getfield 515, .getfield 131, .istore 2, .aload 0, .getfield 515, .iload 1, .putfield 131, .iload 2, .ireturn]
def pr_X_feed : List Instr := [.iload 1, .ldc 15, .invokestatic 35, .ifCond .ne 6, .ldc 12, .ireturn, .aload 0, .getfield 516, .iload 1, .invokevirtual 153, .ifCond .eq 15, .aload 0, .getfield 516, .getfield 193, .goto 16, .ldc 16, .ireturn]
def pr_X_text : List Instr := [.aload 0, .getfield 517, .getfield 324, .ldc 13, .if_icmp .lt 7, .ldc 16, .ireturn, .aload 0, .getfield 516, .invokevirtual 155, .istore 1, .iload 1, .ldc 0, .if_icmp .eq 18, .ldc 17, .iload 1, .isub, .ireturn, .aload 0, .getfield 517, .aload 0, .getfield 516, .getfield 194, .aload 0, .getfield 516, .getfield 195, .invokevirtual 176, .ireturn]
def pr_X_force : List Instr := [.iload 1, .aload 0, .getfield 517, .getfield 324, .ldc 2, .isub, .invokestatic 35, .ifCond .ne 10, .ldc 12, .ireturn, .aload 0, .getfield 517, .getfield 325, .istore 2, .aload 0, .getfield 517, .iload 1, .putfield 325, .iload 2, .ireturn]
def pr_X_costs : List Instr := [.iload 1, .aload 0, .getfield 513, .getfield 387, .ldc 2, .isub, .invokestatic 35, .ifCond .eq 12, .iload 2, .ldc 9, .invokestatic 35, .ifCond .ne 14, .ldc 12, .ireturn, .aload 0, .getfield 518, .invokevirtual 130, .aload 0, .getfield 518, .iload 1, .iload 2, .invokevirtual 135, .ireturn]
def pr_X_write : List Instr := [.iload 1, .aload 0, .getfield 513, .getfield 387, .ldc 2, .isub, .invokestatic 35, .ifCond .eq 12, .iload 2, .ldc 9, .invokestatic 35, .ifCond .ne 14, .ldc 12, .ireturn, .aload 0, .getfield 518, .invokevirtual 130, .aload 0, .getfield 518, .iload 1, .iload 2, .invokevirtual 135, .istore 3, .aload 0, .getfield 513, .iload 1, .aload 0, .getfield 512, .invokevirtual 186, .iload 3, .ireturn]
def pr_X_pass : List Instr := [.iload 1, .ldc 18, .invokestatic 35, .ifCond .ne 6, .ldc 12, .ireturn, .ldc 1, .istore 2, .iload 2, .iload 1, .if_icmp .ge 21, .aload 0, .getfield 515, .aload 0, .getfield 515, .getfield 131, .aload 0, .getfield 512, .invokevirtual 151, .iinc 2 2, .goto 8, .aload 0, .getfield 512, .invokestatic 38, .ireturn]
def pr_X_cheapest : List Instr := [.iload 1, .ldc 4, .invokestatic 35, .ifCond .eq 12, .iload 2, .ldc 9, .invokestatic 35, .ifCond .eq 12, .iload 3, .ldc 2, .invokestatic 35, .ifCond .ne 14, .ldc 12, .ireturn, .ldc 0, .istore 4, .ldc 0, .istore 5, .aload 0, .getfield 518, .invokevirtual 130, .ldc 1, .istore 6, .iload 6, .aload 0, .getfield 513, .getfield 387, .if_icmp .ge 54, .aload 0, .getfield 513, .getfield 384, .iload 6, .iaload, .iload 1, .if_icmp .eq 36, .goto 52, .aload 0, .getfield 518, .iload 6, .iload 2, .invokevirtual 135, .istore 7, .iload 4, .ldc 0, .if_icmp .eq 48, .iload 7, .iload 5, .if_icmp .ge 52, .iload 6, .istore 4, .iload 7, .istore 5, .iinc 6 2, .goto 23, .iload 3, .ifCond .ne 58, .iload 4, .goto 59, .iload 5, .ireturn]
def pr_X_day : List Instr := [.iload 1, .aload 0, .getfield 514, .getfield 451, .ldc 2, .isub, .invokestatic 35, .ifCond .eq 12, .iload 2, .ldc 3, .invokestatic 35, .ifCond .ne 14, .ldc 19, .ireturn, .aload 0, .getfield 518, .invokevirtual 130, .aload 0, .getfield 518, .invokevirtual 132, .iload 2, .ifCond .ne 28, .aload 0, .getfield 518, .getfield 9, .iload 1, .iaload, .ireturn, .iload 2, .ldc 2, .if_icmp .ne 37, .aload 0, .getfield 518, .getfield 8, .iload 1, .iaload, .goto 42, .aload 0, .getfield 518, .getfield 10, .iload 1, .iaload, .ireturn]
def pr_X_all : List Instr := [.iload 1, .ldc 4, .invokestatic 35, .ifCond .ne 6, .ldc 19, .ireturn, .aload 0, .getfield 518, .invokevirtual 130, .aload 0, .getfield 518, .invokevirtual 132, .iload 1, .lookupswitch 26 #[(1, 14), (2, 18), (3, 22)], .aload 0, .getfield 518, .invokevirtual 138, .ireturn, .aload 0, .getfield 518, .invokevirtual 140, .ireturn, .aload 0, .getfield 518, .invokevirtual 141, .ireturn, .aload 0, .getfield 518, .invokevirtual 139, .ireturn]
def pr_X_when : List Instr := [.iload 1, .aload 0, .getfield 514, .getfield 451, .ldc 2, .isub, .invokestatic 35, .ifCond .eq 12, .iload 2, .ldc 2, .invokestatic 35, .ifCond .ne 14, .ldc 19, .ireturn, .aload 0, .getfield 518, .iload 1, .invokevirtual 136, .aload 0, .getfield 518, .getfield 11, .invokestatic 39, .istore 3, .iload 2, .ifCond .ne 27, .iload 3, .goto 32, .aload 0, .getfield 518, .getfield 11, .iload 3, .iaload, .ireturn]
def pr_X_choose : List Instr := [.iload 1, .aload 0, .getfield 514, .getfield 451, .ldc 2, .isub, .invokestatic 35, .ifCond .ne 10, .ldc 19, .ireturn, .aload 0, .getfield 518, .iload 1, .invokevirtual 136, .aload 0, .getfield 518, .getfield 11, .invokestatic 39, .istore 2, .aload 0, .getfield 514, .getfield 449, .iload 1, .iload 2, .iastore, .aload 0, .getfield 518, .getfield 11, .iload 2, .iaload, .ireturn]
def pr_X_rest : List Instr := [.ldc 1, .istore 1, .iload 1, .aload 0, .getfield 514, .getfield 451, .if_icmp .ge 35, .aload 0, .getfield 518, .iload 1, .invokevirtual 136, .aload 0, .getfield 518, .getfield 11, .aload 0, .getfield 518, .getfield 11, .invokestatic 39, .iaload, .istore 2, .iload 2, .aload 0, .getfield 518, .getfield 11, .aload 0, .getfield 514, .getfield 449, .iload 1, .iaload, .iaload, .if_icmp .le 33, .ldc 1, .ireturn, .iinc 1 2, .goto 2, .ldc 2, .ireturn]
def pr_X_turns : List Instr := [.iload 1, .ldc 2, .invokestatic 35, .ifCond .ne 6, .ldc 19, .ireturn, .aload 0, .getfield 514, .getfield 451, .ldc 5, .invokedynamic 2, .istore 2, .ldc 0, .istore 3, .ldc 1, .istore 4, .ldc 2, .ldc 3, .iload 2, .imul, .ishl, .istore 5, .ldc 1, .istore 6, .iload 6, .iload 5, .if_icmp .ge 74, .iload 6, .iload 2, .invokestatic 41, .ifCond .ne 32, .goto 72, .aload 0, .getfield 518, .invokevirtual 130, .ldc 1, .istore 7, .iload 7, .iload 2, .if_icmp .ge 55, .aload 0, .getfield 518, .getfield 6, .iload 7, .aload 0, .getfield 514, .getfield 449, .iload 6, .iload 7, .iload 2, .invokestatic 40, .iaload, .iastore, .iinc 7 2, .goto 37, .aload 0, .getfield 518, .invokevirtual 132, .aload 0, .getfield 518, .invokevirtual 138, .istore 7, .iload 3, .ldc 0, .if_icmp .eq 68, .iload 7, .iload 4, .if_icmp .le 72, .iload 6, .istore 3, .iload 7, .istore 4, .iinc 6 2, .goto 24, .iload 1, .ifCond .ne 78, .iload 4, .goto 81, .iload 3, .iload 2, .invokestatic 42, .ireturn]
def pr_X_burn : List Instr := [.iload 1, .ldc 14, .invokestatic 35, .ifCond .eq 10, .iload 2, .ldc 2, .isub, .ldc 20, .invokestatic 35, .ifCond .ne 12, .ldc 19, .ireturn, .aload 0, .getfield 518, .iload 1, .ldc 1, .invokevirtual 137, .aload 0, .getfield 518, .iload 1, .iload 2, .invokevirtual 137, .isub, .ireturn]
def pr_X_worst : List Instr := [.iload 1, .ldc 2, .isub, .ldc 20, .invokestatic 35, .ifCond .eq 10, .iload 2, .ldc 2, .invokestatic 35, .ifCond .ne 12, .ldc 19, .ireturn, .aload 0, .getfield 518, .ldc 1, .ldc 1, .invokevirtual 137, .istore 3, .ldc 1, .istore 4, .iload 3, .aload 0, .getfield 518, .ldc 1, .iload 1, .invokevirtual 137, .isub, .istore 5, .ldc 2, .istore 6, .iload 6, .ldc 7, .if_icmp .ge 50, .iload 3, .aload 0, .getfield 518, .iload 6, .iload 1, .invokevirtual 137, .isub, .istore 7, .iload 7, .iload 5, .if_icmp .le 48, .iload 6, .istore 4, .iload 7, .istore 5, .iinc 6 2, .goto 30, .iload 2, .ifCond .ne 54, .iload 4, .goto 55, .iload 5, .ireturn]
def pr_X_best : List Instr := [.iload 1, .ldc 3, .invokestatic 35, .ifCond .ne 6, .ldc 19, .ireturn, .ldc 0, .istore 2, .ldc 1, .istore 3, .ldc 1, .istore 4, .ldc 1, .istore 5, .iload 5, .aload 0, .getfield 515, .getfield 130, .if_icmp .ge 57, .aload 0, .getfield 518, .invokevirtual 130, .aload 0, .getfield 518, .iload 5, .putfield 7, .aload 0, .getfield 518, .invokevirtual 132, .aload 0, .getfield 518, .invokevirtual 140, .istore 6, .aload 0, .getfield 518, .invokevirtual 138, .istore 7, .iload 2, .ldc 0, .if_icmp .eq 49, .iload 6, .iload 3, .if_icmp .gt 49, .iload 6, .iload 3, .if_icmp .ne 55, .iload 7, .iload 4, .if_icmp .le 55, .iload 5, .istore 2, .iload 6, .istore 3, .iload 7, .istore 4, .iinc 5 2, .goto 14, .iload 1, .ifCond .ne 61, .iload 2, .ireturn, .iload 1, .ldc 2, .if_icmp .ne 66, .iload 3, .goto 67, .iload 4, .ireturn]
def pr_X_judge : List Instr := [.aload 0, .iload 1, .invokevirtual 44, .istore 2, .iload 2, .ifCond .eq 8, .iload 2, .ireturn, .aload 0, .getfield 518, .invokevirtual 130, .aload 0, .getfield 518, .invokevirtual 132, .aload 0, .getfield 518, .aload 0, .getfield 520, .getfield 258, .iload 1, .aaload, .invokevirtual 142, .ireturn]
def pr_X_fits : List Instr := [.iload 1, .aload 0, .getfield 514, .getfield 451, .ldc 2, .isub, .invokestatic 35, .ifCond .eq 12, .iload 2, .ldc 10, .invokestatic 35, .ifCond .ne 14, .ldc 12, .ireturn, .aload 0, .getfield 518, .invokevirtual 130, .aload 0, .getfield 518, .iload 1, .invokevirtual 133, .ldc 1, .istore 3, .ldc 1, .istore 4, .iload 4, .aload 0, .getfield 513, .getfield 387, .if_icmp .ge 61, .aload 0, .getfield 513, .getfield 384, .iload 4, .iaload, .aload 0, .getfield 514, .getfield 448, .iload 1, .iaload, .if_icmp .eq 42, .goto 59, .aload 0, .getfield 518, .iload 4, .aload 0, .getfield 514, .getfield 449, .iload 1, .iaload, .invokevirtual 135, .iload 2, .if_icmp .ne 59, .iload 3, .ldc 2, .iload 4, .ishl, .ior, .istore 3, .iinc 4 2, .goto 25, .iload 3, .ireturn]
def pr_X_whose : List Instr := [.aload 0, .iload 1, .invokevirtual 44, .istore 2, .iload 2, .ifCond .eq 8, .iload 2, .ireturn, .ldc 1, .istore 3, .ldc 1, .istore 4, .iload 4, .aload 0, .getfield 515, .getfield 130, .if_icmp .ge 45, .aload 0, .getfield 518, .invokevirtual 130, .aload 0, .getfield 518, .iload 4, .putfield 7, .aload 0, .getfield 518, .invokevirtual 132, .aload 0, .getfield 518, .aload 0, .getfield 520, .getfield 258, .iload 1, .aaload, .invokevirtual 142, .ldc 0, .if_icmp .ne 43, .iload 3, .ldc 2, .iload 4, .ishl, .ior, .istore 3, .iinc 4 2, .goto 12, .iload 3, .ireturn]
def pr_X_drawn : List Instr := [.aload 0, .getfield 518, .invokevirtual 130, .aload 0, .getfield 518, .iload 1, .invokevirtual 131, .aload 0, .getfield 518, .invokevirtual 132, .aload 0, .getfield 518, .invokevirtual 138, .ireturn]
def pr_X_chance : List Instr := [.iload 2, .ldc 2, .isub, .ldc 20, .invokestatic 35, .ifCond .eq 10, .iload 3, .ldc 2, .invokestatic 35, .ifCond .ne 12, .ldc2_w 0, .lreturn, .ldc 1, .istore 4, .ldc 1, .istore 5, .iload 5, .iload 2, .if_icmp .ge 41, .aload 0, .getfield 518, .invokevirtual 130, .aload 0, .getfield 518, .iload 1, .iload 5, .iadd, .invokevirtual 131, .aload 0, .getfield 518, .invokevirtual 132, .aload 0, .getfield 518, .invokevirtual 140, .aload 0, .getfield 514, .getfield 451, .if_icmp .ne 39, .iinc 4 2, .iinc 5 2, .goto 16, .iload 4, .iload 2, .invokestatic 43, .istore 5, .iload 3, .ifCond .ne 52, .iload 4, .iload 5, .idiv, .i2l, .goto 56, .iload 2, .iload 5, .idiv, .i2l, .lreturn]
def pr_X_image : List Instr := [.aload 0, .getfield 512, .ldc 1, .aload 0, .getfield 519, .getfield 65, .ldc 1, .ldc 7, .invokedynamic 0, .aload 0, .getfield 519, .aload 0, .getfield 514, .invokevirtual 143, .aload 0, .getfield 519, .aload 0, .getfield 515, .invokevirtual 145, .aload 0, .getfield 519, .aload 0, .getfield 513, .getfield 387, .putfield 66, .aload 0, .getfield 519, .aload 0, .getfield 517, .getfield 325, .putfield 67, .aload 0, .getfield 519, .ldc 2, .putfield 64, .aload 0, .getfield 514, .getfield 451, .ireturn]
def pr_X_back : List Instr := [.aload 0, .getfield 519, .getfield 64, .ifCond .ne 6, .ldc 21, .ireturn, .aload 0, .getfield 519, .getfield 65, .ldc 1, .aload 0, .getfield 512, .ldc 1, .ldc 7, .invokedynamic 0, .aload 0, .getfield 519, .aload 0, .getfield 514, .invokevirtual 144, .aload 0, .getfield 519, .aload 0, .getfield 515, .invokevirtual 146, .aload 0, .getfield 513, .aload 0, .getfield 519, .getfield 66, .putfield 387, .aload 0, .getfield 517, .aload 0, .getfield 519, .getfield 67, .putfield 325, .aload 0, .getfield 514, .getfield 451, .ireturn]
def pr_X_count : List Instr := [.iload 1, .lookupswitch 34 #[(1, 2), (2, 6), (3, 10), (4, 14), (5, 18), (6, 22), (13, 26), (14, 30)], .aload 0, .getfield 513, .getfield 387, .ireturn, .aload 0, .getfield 514, .getfield 451, .ireturn, .aload 0, .getfield 515, .getfield 130, .ireturn, .aload 0, .getfield 515, .getfield 131, .ireturn, .aload 0, .getfield 517, .getfield 324, .ireturn, .aload 0, .getfield 516, .getfield 193, .ireturn, .aload 0, .getfield 517, .getfield 325, .ireturn, .aload 0, .getfield 512, .invokestatic 38, .ireturn, .ldc 12, .ireturn]
def pr_X_sheet : List Instr := [.iload 1, .ldc 4, .invokestatic 35, .ifCond .eq 10, .iload 2, .ldc 0, .isub, .ldc 4, .invokestatic 35, .ifCond .ne 12, .ldc 12, .ireturn, .iload 2, .ldc 0, .if_icmp .ne 23, .aload 0, .getfield 520, .getfield 256, .iload 1, .ldc 0, .iastore, .ldc 2, .ireturn, .iload 3, .ldc 22, .if_icmp .le 28, .ldc 12, .ireturn, .iload 3, .ifCond .ge 32, .ldc 23, .ireturn, .aload 0, .getfield 520, .iload 1, .iload 2, .iload 3, .invokevirtual 173, .ldc 2, .ireturn]
def pr_X_cell : List Instr := [.iload 1, .ldc 4, .invokestatic 35, .ifCond .ne 6, .ldc 12, .ireturn, .aload 0, .getfield 520, .getfield 256, .iload 1, .iaload, .ldc 0, .if_icmp .ne 15, .ldc 24, .ireturn, .iload 2, .aload 0, .getfield 520, .getfield 257, .iload 1, .iaload, .ldc 2, .isub, .invokestatic 35, .ifCond .ne 27, .ldc 25, .ireturn, .aload 0, .getfield 520, .iload 1, .iload 2, .iload 3, .invokevirtual 174, .ldc 2, .ireturn]
def pr_X_copy : List Instr := [.iload 1, .ldc 4, .invokestatic 35, .ifCond .eq 8, .iload 3, .ldc 4, .invokestatic 35, .ifCond .ne 10, .ldc 12, .ireturn, .aload 0, .getfield 520, .getfield 256, .iload 1, .iaload, .ldc 0, .if_icmp .eq 24, .aload 0, .getfield 520, .getfield 256, .iload 3, .iaload, .ldc 0, .if_icmp .ne 26, .ldc 24, .ireturn, .aload 0, .getfield 520, .getfield 256, .iload 1, .iaload, .aload 0, .getfield 520, .getfield 256, .iload 3, .iaload, .if_icmp .eq 39, .ldc 26, .ireturn, .aload 0, .getfield 520, .iload 1, .iload 2, .iload 5, .invokevirtual 175, .ifCond .eq 53, .aload 0, .getfield 520, .iload 3, .iload 4, .iload 5, .invokevirtual 175, .ifCond .ne 55, .ldc 25, .ireturn, .aload 0, .getfield 520, .getfield 258, .iload 1, .aaload, .iload 2, .aload 0, .getfield 520, .getfield 258, .iload 3, .aaload, .iload 4, .iload 5, .invokedynamic 0, .iload 5, .ireturn]
def pr_X_writers : List Instr := [.iload 1, .ldc 4, .invokestatic 35, .ifCond .eq 12, .iload 2, .ldc 3, .invokestatic 35, .ifCond .eq 12, .iload 4, .ldc 6, .invokestatic 35, .ifCond .ne 14, .ldc 12, .ireturn, .aload 0, .getfield 520, .getfield 256, .iload 1, .iaload, .ldc 0, .if_icmp .ne 23, .ldc 24, .ireturn, .aload 0, .getfield 520, .getfield 256, .iload 1, .iaload, .iload 2, .if_icmp .eq 32, .ldc 26, .ireturn, .aload 0, .getfield 520, .getfield 258, .iload 1, .aaload, .astore 5, .iload 3, .istore 6, .ldc 1, .istore 7, .ldc 1, .istore 8, .iload 8, .iload 4, .if_icmp .ge 77, .aload 0, .getfield 520, .iload 1, .iload 6, .ldc 4, .invokevirtual 175, .ifCond .ne 56, .ldc 25, .ireturn, .aload 0, .getfield 514, .aload 5, .iload 6, .iaload, .aload 5, .iload 6, .ldc 2, .iadd, .iaload, .aload 5, .iload 6, .ldc 3, .iadd, .iaload, .invokevirtual 187, .ifCond .lt 74, .iinc 7 2, .iinc 6 4, .iinc 8 2, .goto 44, .iload 7, .ireturn]
def pr_X_taken : List Instr := [.iload 2, .ldc 6, .invokestatic 35, .ifCond .ne 6, .ldc 12, .ireturn, .iload 1, .aload 0, .getfield 515, .getfield 130, .ldc 2, .isub, .invokestatic 35, .ifCond .ne 16, .ldc 24, .ireturn, .aload 0, .getfield 515, .iload 1, .iload 2, .invokevirtual 148, .ifCond .eq 28, .aload 0, .getfield 515, .getfield 129, .iload 1, .iaload, .goto 29, .ldc 26, .ireturn]
def pr_X_within : List Instr := [.iload 0, .ifCond .lt 7, .iload 0, .iload 1, .if_icmp .gt 7, .ldc 2, .goto 8, .ldc 1, .ireturn]
def pr_X_put : List Instr := [.iload 2, .iload 1, .ldc 2, .isub, .invokestatic 35, .ifCond .eq 10, .iload 3, .iload 4, .invokestatic 35, .ifCond .ne 12, .ldc 12, .ireturn, .aload 0, .iload 2, .iaload, .istore 5, .aload 0, .iload 2, .iload 3, .iastore, .iload 5, .ireturn]
def pr_X_item : List Instr := [.iload 2, .iload 1, .ldc 2, .isub, .invokestatic 35, .ifCond .eq 10, .aload 0, .iload 2, .iaload, .goto 11, .ldc 12, .ireturn]
def pr_X_sum : List Instr := [.ldc 1, .istore 1, .aload 0, .astore 2, .aload 2, .arraylength, .istore 3, .ldc 1, .istore 4, .iload 4, .iload 3, .if_icmp .ge 22, .aload 2, .iload 4, .iaload, .istore 5, .iload 1, .iload 5, .iadd, .istore 1, .iinc 4 2, .goto 9, .iload 1, .ireturn]
def pr_X_firstMost : List Instr := [.ldc 1, .istore 1, .ldc 2, .istore 2, .iload 2, .aload 0, .arraylength, .if_icmp .ge 19, .aload 0, .iload 2, .iaload, .aload 0, .iload 1, .iaload, .if_icmp .le 17, .iload 2, .istore 1, .iinc 2 2, .goto 4, .iload 1, .ireturn]
def pr_X_whoseHour : List Instr := [.iload 0, .ldc 3, .iload 2, .ldc 2, .isub, .iload 1, .isub, .imul, .ishr, .ldc 4, .iand, .ireturn]
def pr_X_isTurn : List Instr := [.ldc 1, .istore 2, .ldc 1, .istore 3, .iload 3, .iload 1, .if_icmp .ge 18, .iload 2, .ldc 2, .iload 0, .iload 3, .iload 1, .invokestatic 40, .ishl, .ior, .istore 2, .iinc 3 2, .goto 4, .iload 2, .ldc 2, .iload 1, .ishl, .ldc 2, .isub, .if_icmp .ne 27, .ldc 2, .goto 28, .ldc 1, .ireturn]
def pr_X_digits : List Instr := [.ldc 1, .istore 2, .ldc 1, .istore 3, .iload 3, .iload 1, .if_icmp .ge 18, .iload 2, .ldc 27, .imul, .iload 0, .iload 3, .iload 1, .invokestatic 40, .iadd, .istore 2, .iinc 3 2, .goto 4, .iload 2, .ireturn]
def pr_X_commonDivisor : List Instr := [.iload 1, .istore 2, .iload 2, .ldc 2, .if_icmp .le 17, .iload 0, .iload 2, .irem, .ifCond .ne 15, .iload 1, .iload 2, .irem, .ifCond .ne 15, .iload 2, .ireturn, .iinc 2 0, .goto 2, .ldc 2, .ireturn]
def pr_X_refusalToJudge : List Instr := [.iload 1, .ldc 4, .invokestatic 35, .ifCond .ne 6, .ldc 12, .ireturn, .aload 0, .getfield 520, .getfield 256, .iload 1, .iaload, .ldc 0, .if_icmp .ne 15, .ldc 24, .ireturn, .aload 0, .getfield 520, .getfield 257, .iload 1, .iaload, .aload 0, .getfield 514, .getfield 451, .if_icmp .ne 26, .ldc 1, .goto 27, .ldc 12, .ireturn]
def pr_M_in : List Instr := [.lload 0, .lload 2, .lcmp, .ifCond .lt 10, .lload 0, .lload 4, .lcmp, .ifCond .gt 10, .ldc 2, .goto 11, .ldc 1, .ireturn]
def pr_M_within : List Instr := [.iload 0, .iload 1, .if_icmp .ge 5, .iload 1, .goto 11, .iload 0, .iload 2, .if_icmp .le 10, .iload 2, .goto 11, .iload 0, .ireturn]
def pr_M_spell : List Instr := [.aload 0, .getfield 577, .iload 1, .iload 2, .iastore, .aload 0, .getfield 577, .iload 1, .ldc 2, .iadd, .iload 3, .iastore, .aload 0, .getfield 577, .iload 1, .ldc 3, .iadd, .iload 4, .iastore, .aload 0, .getfield 577, .iload 1, .ldc 4, .iadd, .iload 5, .iastore, .aload 0, .getfield 577, .iload 1, .ldc 5, .iadd, .iload 6, .iastore, .aload 0, .getfield 577, .iload 1, .ldc 6, .iadd, .iload 7, .iastore, .aload 0, .getfield 577, .iload 1, .ldc 13, .iadd, .iload 8, .iastore, .aload 0, .getfield 577, .iload 1, .ldc 14, .iadd, .iload 9, .iastore, .return_]
def pr_M_isWordNumber : List Instr := [.iload 1, .i2l, .ldc2_w 1, .aload 0, .getfield 586, .ldc 2, .isub, .i2l, .invokestatic 45, .ireturn]
def pr_M_isWriter : List Instr := [.iload 1, .i2l, .ldc2_w 1, .aload 0, .getfield 590, .ldc 2, .isub, .i2l, .invokestatic 45, .ireturn]
def pr_M_isLaw : List Instr := [.iload 1, .i2l, .ldc2_w 1, .aload 0, .getfield 593, .ldc 2, .isub, .i2l, .invokestatic 45, .ireturn]
def pr_M_isOf : List Instr := [.iload 1, .ifCond .ne 8, .iload 2, .i2l, .ldc2_w 1, .ldc2_w 2, .invokestatic 45, .goto 25, .iload 1, .ldc 5, .if_icmp .ge 15, .aload 0, .iload 2, .invokevirtual 49, .goto 25, .iload 1, .ldc 13, .if_icmp .ge 22, .aload 0, .iload 2, .invokevirtual 50, .goto 25, .aload 0, .iload 2, .invokevirtual 48, .ireturn]
def pr_M_set : List Instr := [.iload 1, .i2l, .ldc2_w 1, .ldc2_w 3, .invokestatic 45, .ifCond .eq 36, .aload 0, .iload 1, .iload 2, .invokevirtual 51, .ifCond .eq 36, .iload 3, .i2l, .ldc2_w 1, .iload 1, .ifCond .ne 18, .ldc2_w 4, .goto 34, .iload 1, .ldc 2, .if_icmp .ne 23, .ldc2_w 5, .goto 34, .iload 1, .ldc 3, .if_icmp .ne 28, .ldc2_w 6, .goto 34, .iload 1, .ldc 4, .if_icmp .ne 33, .ldc2_w 7, .goto 34, .ldc2_w 8, .invokestatic 45, .ifCond .ne 38, .ldc 12, .ireturn, .aload 0, .iload 2, .iload 1, .invokevirtual 54, .istore 4, .iload 1, .ifCond .ne 51, .aload 0, .getfield 583, .iload 2, .iload 3, .iastore, .goto 83, .iload 1, .ldc 2, .if_icmp .ne 60, .aload 0, .getfield 587, .iload 2, .iload 3, .iastore, .goto 83, .iload 1, .ldc 3, .if_icmp .ne 69, .aload 0, .getfield 588, .iload 2, .iload 3, .iastore, .goto 83, .iload 1, .ldc 4, .if_icmp .ne 78, .aload 0, .getfield 589, .iload 2, .iload 3, .iastore, .goto 83, .aload 0, .getfield 592, .iload 2, .iload 3, .iastore, .iload 4, .ireturn]
def pr_M_sizeOf : List Instr := [.ldc 1, .istore 1, .iload 0, .istore 2, .iload 2, .ifCond .le 12, .iinc 1 2, .iload 2, .ldc 27, .idiv, .istore 2, .goto 4, .iload 1, .ireturn]
def pr_M_told : List Instr := [.iload 2, .i2l, .ldc2_w 1, .ldc2_w 2, .invokestatic 45, .ifCond .eq 11, .aload 0, .iload 2, .iload 1, .invokevirtual 51, .ifCond .ne 13, .ldc 12, .ireturn, .iload 2, .ldc 5, .if_icmp .ge 44, .iload 2, .ifCond .ne 23, .aload 0, .getfield 583, .iload 1, .iaload, .goto 43, .iload 2, .ldc 2, .if_icmp .ne 31, .aload 0, .getfield 587, .iload 1, .iaload, .goto 43, .iload 2, .ldc 3, .if_icmp .ne 39, .aload 0, .getfield 588, .iload 1, .iaload, .goto 43, .aload 0, .getfield 589, .iload 1, .iaload, .ireturn, .iload 2, .ldc 13, .if_icmp .ge 60, .iload 2, .ldc 5, .if_icmp .ne 55, .aload 0, .getfield 592, .iload 1, .iaload, .goto 59, .aload 0, .getfield 591, .iload 1, .iaload, .ireturn, .iload 2, .ldc 13, .if_icmp .ne 68, .aload 0, .getfield 584, .iload 1, .iaload, .goto 73, .aload 0, .getfield 585, .iload 1, .iaload, .invokestatic 53, .ireturn]
def pr_M_word : List Instr := [.iload 1, .i2l, .ldc2_w 1, .ldc2_w 5, .invokestatic 45, .ifCond .eq 12, .iload 2, .i2l, .ldc2_w 9, .ldc2_w 10, .invokestatic 45, .ifCond .ne 14, .ldc 12, .ireturn, .iload 2, .istore 3, .iload 3, .ifCond .le 33, .iload 3, .ldc 27, .irem, .i2l, .ldc2_w 9, .ldc2_w 11, .invokestatic 45, .ifCond .ne 28, .ldc 12, .ireturn, .iload 3, .ldc 27, .idiv, .istore 3, .goto 16, .aload 0, .getfield 586, .ldc 27, .if_icmp .ne 39, .ldc 16, .ireturn, .aload 0, .getfield 584, .aload 0, .getfield 586, .iload 1, .iastore, .aload 0, .getfield 585, .aload 0, .getfield 586, .iload 2, .iastore, .aload 0, .dup, .getfield 586, .ldc 2, .iadd, .putfield 586, .aload 0, .getfield 586, .ldc 2, .isub, .ireturn]
def pr_M_writer : List Instr := [.iload 1, .i2l, .ldc2_w 1, .ldc2_w 5, .invokestatic 45, .ifCond .eq 18, .iload 2, .i2l, .ldc2_w 1, .ldc2_w 6, .invokestatic 45, .ifCond .eq 18, .iload 3, .i2l, .ldc2_w 1, .ldc2_w 7, .invokestatic 45, .ifCond .ne 20, .ldc 12, .ireturn, .aload 0, .getfield 590, .ldc 6, .if_icmp .ne 26, .ldc 16, .ireturn, .aload 0, .getfield 587, .aload 0, .getfield 590, .iload 1, .iastore, .aload 0, .getfield 588, .aload 0, .getfield 590, .iload 2, .iastore, .aload 0, .getfield 589, .aload 0, .getfield 590, .iload 3, .iastore, .aload 0, .dup, .getfield 590, .ldc 2, .iadd, .putfield 590, .aload 0, .getfield 590, .ldc 2, .isub, .ireturn]
def pr_M_law : List Instr := [.iload 1, .i2l, .ldc2_w 1, .ldc2_w 12, .invokestatic 45, .ifCond .eq 12, .iload 2, .i2l, .ldc2_w 1, .ldc2_w 8, .invokestatic 45, .ifCond .ne 14, .ldc 12, .ireturn, .aload 0, .getfield 593, .ldc 13, .if_icmp .ne 20, .ldc 16, .ireturn, .aload 0, .getfield 591, .aload 0, .getfield 593, .iload 1, .iastore, .aload 0, .getfield 592, .aload 0, .getfield 593, .iload 2, .iastore, .aload 0, .dup, .getfield 593, .ldc 2, .iadd, .putfield 593, .aload 0, .getfield 593, .ldc 2, .isub, .ireturn]
def pr_M_rule : List Instr := [.aload 0, .iload 1, .invokevirtual 50, .ifCond .ne 6, .ldc 12, .ireturn, .aload 0, .getfield 594, .istore 2, .aload 0, .iload 1, .putfield 594, .iload 2, .ireturn]
def pr_M_steep : List Instr := [.iload 0, .iload 1, .iadd, .iload 0, .iload 1, .ldc 2, .iadd, .imul, .iadd, .ireturn]
def pr_M_costBy : List Instr := [.aload 0, .getfield 591, .aload 0, .getfield 594, .iaload, .istore 3, .aload 0, .getfield 592, .aload 0, .getfield 594, .iaload, .istore 4, .iload 3, .ifCond .ne 18, .iload 1, .iload 4, .iadd, .ireturn, .iload 3, .ldc 3, .if_icmp .eq 24, .iload 3, .ldc 5, .if_icmp .ne 38, .iload 3, .ldc 5, .if_icmp .ne 32, .iload 2, .ldc 13, .if_icmp .ge 32, .ldc 1, .goto 37, .iload 1, .iload 4, .iadd, .ldc 3, .idiv, .ireturn, .iload 3, .ldc 4, .if_icmp .ne 49, .iload 1, .iload 1, .ldc 4, .irem, .isub, .iload 4, .invokestatic 59, .goto 61, .iload 1, .iload 4, .invokestatic 59, .iload 3, .ldc 6, .if_icmp .ne 59, .iload 1, .ifCond .ne 59, .ldc 6, .goto 60, .ldc 1, .iadd, .ireturn]
def pr_M_agedBy : List Instr := [.aload 0, .getfield 591, .aload 0, .getfield 594, .iaload, .istore 2, .aload 0, .getfield 592, .aload 0, .getfield 594, .iaload, .istore 3, .iload 2, .ldc 3, .if_icmp .eq 18, .iload 2, .ldc 5, .if_icmp .ne 22, .iload 1, .iload 3, .isub, .goto 38, .iload 2, .ldc 4, .if_icmp .ne 29, .iload 1, .ldc 2, .isub, .goto 38, .iload 2, .ldc 6, .if_icmp .ne 37, .iload 1, .iload 3, .if_icmp .ge 37, .ldc 1, .goto 38, .iload 1, .istore 4, .iload 4, .ifCond .ge 43, .ldc 1, .goto 44, .iload 4, .ireturn]
def pr_M_feed : List Instr := [.iload 1, .i2l, .ldc2_w 1, .ldc2_w 13, .invokestatic 45, .ifCond .ne 8, .ldc 12, .ireturn, .aload 0, .getfield 582, .ldc 28, .if_icmp .ne 14, .ldc 16, .ireturn, .aload 0, .getfield 581, .aload 0, .getfield 582, .iload 1, .iastore, .aload 0, .dup, .getfield 582, .ldc 2, .iadd, .putfield 582, .aload 0, .getfield 582, .ireturn]
def pr_M_byteAt : List Instr := [.iload 1, .aload 0, .getfield 602, .if_icmp .ge 12, .aload 0, .getfield 577, .aload 0, .getfield 601, .iload 1, .iadd, .iaload, .goto 13, .ldc 0, .ireturn]
def pr_M_next : List Instr := [.aload 0, .aload 0, .getfield 603, .invokevirtual 63, .ldc 29, .if_icmp .eq 12, .aload 0, .aload 0, .getfield 603, .invokevirtual 63, .ldc 27, .if_icmp .ne 19, .aload 0, .dup, .getfield 603, .ldc 2, .iadd, .putfield 603, .goto 0, .aload 0, .aload 0, .getfield 603, .putfield 605, .aload 0, .aload 0, .getfield 603, .invokevirtual 63, .istore 1, .aload 0, .ldc 5, .putfield 604, .iload 1, .ifCond .ge 41, .aload 0, .ldc 1, .putfield 604, .aload 0, .aload 0, .getfield 602, .putfield 605, .goto 163, .iload 1, .i2l, .ldc2_w 14, .ldc2_w 15, .invokestatic 45, .ifCond .eq 66, .aload 0, .ldc 2, .putfield 604, .aload 0, .aload 0, .getfield 603, .invokevirtual 63, .i2l, .ldc2_w 14, .ldc2_w 15, .invokestatic 45, .ifCond .eq 163, .aload 0, .dup, .getfield 603, .ldc 2, .iadd, .putfield 603, .goto 50, .iload 1, .i2l, .ldc2_w 16, .ldc2_w 17, .invokestatic 45, .ifCond .eq 126, .aload 0, .ldc 3, .putfield 604, .aload 0, .ldc2_w 1, .putfield 606, .ldc 1, .istore 2, .aload 0, .aload 0, .getfield 603, .invokevirtual 63, .i2l, .ldc2_w 16, .ldc2_w 17, .invokestatic 45, .ifCond .eq 117, .aload 0, .iload 2, .ldc 5, .if_icmp .ge 106, .ldc2_w 18, .aload 0, .getfield 606, .lmul, .aload 0, .aload 0, .getfield 603, .invokevirtual 63, .i2l, .ladd, .ldc2_w 16, .lsub, .goto 108, .aload 0, .getfield 606, .putfield 606, .iinc 2 2, .aload 0, .dup, .getfield 603, .ldc 2, .iadd, .putfield 603, .goto 80, .aload 0, .iload 2, .ldc 5, .if_icmp .le 123, .ldc 5, .goto 124, .ldc 3, .putfield 604, .goto 163, .iload 1, .ldc 22, .if_icmp .eq 150, .iload 1, .ldc 30, .if_icmp .eq 150, .iload 1, .ldc 31, .if_icmp .eq 150, .iload 1, .ldc 32, .if_icmp .eq 150, .iload 1, .ldc 33, .if_icmp .eq 150, .iload 1, .ldc 34, .if_icmp .eq 150, .iload 1, .ldc 35, .if_icmp .eq 150, .iload 1, .ldc 36, .if_icmp .ne 163, .aload 0, .ldc 4, .putfield 604, .aload 0, .iload 1, .i2l, .putfield 606, .aload 0, .dup, .getfield 603, .ldc 2, .iadd, .putfield 603, .return_]
def pr_M_fail : List Instr := [.aload 0, .getfield 608, .ifCond .ne 10, .aload 0, .ldc 2, .putfield 608, .aload 0, .aload 0, .getfield 605, .putfield 609, .return_]
def pr_M_isLetter : List Instr := [.aload 0, .getfield 605, .iload 1, .iadd, .aload 0, .getfield 603, .if_icmp .ge 19, .aload 0, .aload 0, .getfield 605, .iload 1, .iadd, .invokevirtual 63, .iload 2, .if_icmp .ne 17, .ldc 2, .goto 24, .ldc 1, .goto 24, .iload 2, .ifCond .ne 23, .ldc 2, .goto 24, .ldc 1, .ireturn]
def pr_M_isWord : List Instr := [.aload 0, .getfield 608, .ifCond .ne 56, .aload 0, .getfield 604, .ldc 2, .if_icmp .ne 56, .aload 0, .getfield 603, .aload 0, .getfield 605, .ldc 7, .iadd, .if_icmp .gt 56, .aload 0, .ldc 1, .iload 1, .invokevirtual 66, .ifCond .eq 56, .aload 0, .ldc 2, .iload 2, .invokevirtual 66, .ifCond .eq 56, .aload 0, .ldc 3, .iload 3, .invokevirtual 66, .ifCond .eq 56, .aload 0, .ldc 4, .iload 4, .invokevirtual 66, .ifCond .eq 56, .aload 0, .ldc 5, .iload 5, .invokevirtual 66, .ifCond .eq 56, .aload 0, .ldc 6, .iload 6, .invokevirtual 66, .ifCond .eq 56, .aload 0, .ldc 13, .iload 7, .invokevirtual 66, .ifCond .eq 56, .aload 0, .ldc 14, .iload 8, .invokevirtual 66, .ifCond .eq 56, .ldc 2, .goto 57, .ldc 1, .ireturn]
def pr_M_isSign : List Instr := [.aload 0, .getfield 608, .ifCond .ne 15, .aload 0, .getfield 604, .ldc 4, .if_icmp .ne 15, .aload 0, .getfield 606, .iload 1, .i2l, .lcmp, .ifCond .ne 15, .ldc 2, .goto 16, .ldc 1, .ireturn]
def pr_M_opens : List Instr := [.aload 0, .getfield 607, .ldc 6, .if_icmp .ne 8, .aload 0, .invokevirtual 65, .ldc 1, .ireturn, .aload 0, .dup, .getfield 607, .ldc 2, .iadd, .putfield 607, .aload 0, .invokevirtual 64, .ldc 2, .ireturn]
def pr_M_name : List Instr := [.aload 0, .ldc 37, .ldc 38, .ldc 39, .ldc 40, .ldc 1, .ldc 1, .ldc 1, .ldc 1, .invokevirtual 67, .ifCond .eq 14, .aload 0, .getfield 595, .ireturn, .aload 0, .ldc 41, .ldc 42, .ldc 37, .ldc 43, .ldc 1, .ldc 1, .ldc 1, .ldc 1, .invokevirtual 67, .ifCond .eq 28, .aload 0, .getfield 596, .ireturn, .aload 0, .ldc 44, .ldc 39, .ldc 45, .ldc 45, .ldc 39, .ldc 43, .ldc 1, .ldc 1, .invokevirtual 67, .ifCond .eq 42, .aload 0, .getfield 597, .ireturn, .aload 0, .ldc 44, .ldc 39, .ldc 46, .ldc 47, .ldc 45, .ldc 41, .ldc 1, .ldc 1, .invokevirtual 67, .ifCond .eq 56, .aload 0, .getfield 598, .ireturn, .aload 0, .ldc 48, .ldc 37, .ldc 43, .ldc 38, .ldc 39, .ldc 1, .ldc 1, .ldc 1, .invokevirtual 67, .ifCond .eq 70, .aload 0, .getfield 599, .ireturn, .aload 0, .ldc 49, .ldc 50, .ldc 46, .ldc 51, .ldc 1, .ldc 1, .ldc 1, .ldc 1, .invokevirtual 67, .ifCond .eq 84, .aload 0, .getfield 600, .ireturn, .aload 0, .invokevirtual 65, .ldc 1, .ireturn]
def pr_M_atom : List Instr := [.ldc 1, .istore 1, .aload 0, .ldc 33, .invokevirtual 68, .ifCond .eq 20, .aload 0, .invokevirtual 69, .ifCond .eq 80, .aload 0, .invokevirtual 71, .ineg, .istore 1, .aload 0, .dup, .getfield 607, .ldc 2, .isub, .putfield 607, .goto 80, .aload 0, .ldc 22, .invokevirtual 68, .ifCond .eq 48, .aload 0, .invokevirtual 69, .ifCond .eq 80, .aload 0, .invokevirtual 76, .istore 1, .aload 0, .ldc 30, .invokevirtual 68, .ifCond .ne 36, .aload 0, .invokevirtual 65, .aload 0, .dup, .getfield 607, .ldc 2, .isub, .putfield 607, .aload 0, .getfield 608, .ifCond .ne 80, .aload 0, .invokevirtual 64, .goto 80, .aload 0, .getfield 608, .ifCond .ne 62, .aload 0, .getfield 604, .ldc 3, .if_icmp .ne 62, .aload 0, .getfield 606, .l2i, .istore 1, .aload 0, .invokevirtual 64, .goto 80, .aload 0, .getfield 608, .ifCond .ne 78, .aload 0, .getfield 604, .ldc 2, .if_icmp .ne 78, .aload 0, .invokevirtual 70, .istore 1, .aload 0, .getfield 608, .ifCond .ne 80, .aload 0, .invokevirtual 64, .goto 80, .aload 0, .invokevirtual 65, .iload 1, .ireturn]
def pr_M_term : List Instr := [.aload 0, .invokevirtual 71, .istore 1, .aload 0, .ldc 34, .invokevirtual 68, .ifCond .eq 15, .aload 0, .invokevirtual 64, .iload 1, .aload 0, .invokevirtual 71, .imul, .istore 1, .goto 3, .iload 1, .ireturn]
def pr_M_added : List Instr := [.aload 0, .invokevirtual 72, .istore 1, .aload 0, .ldc 32, .invokevirtual 68, .ifCond .ne 11, .aload 0, .ldc 33, .invokevirtual 68, .ifCond .eq 36, .aload 0, .getfield 606, .ldc2_w 19, .lcmp, .ifCond .ne 18, .ldc 2, .goto 19, .ldc 1, .istore 2, .aload 0, .invokevirtual 64, .aload 0, .invokevirtual 72, .istore 3, .iload 2, .ifCond .eq 31, .iload 1, .iload 3, .iadd, .goto 34, .iload 1, .iload 3, .isub, .istore 1, .goto 3, .iload 1, .ireturn]
def pr_M_not : List Instr := [.aload 0, .ldc 46, .ldc 42, .ldc 45, .ldc 1, .ldc 1, .ldc 1, .ldc 1, .ldc 1, .invokevirtual 67, .ifCond .eq 31, .aload 0, .invokevirtual 69, .ifCond .ne 16, .ldc 1, .ireturn, .aload 0, .invokevirtual 74, .istore 1, .aload 0, .dup, .getfield 607, .ldc 2, .isub, .putfield 607, .iload 1, .ifCond .ne 29, .ldc 2, .goto 30, .ldc 1, .ireturn, .aload 0, .invokevirtual 73, .istore 1, .aload 0, .ldc 35, .invokevirtual 68, .ifCond .ne 44, .aload 0, .ldc 36, .invokevirtual 68, .ifCond .ne 44, .iload 1, .ireturn, .aload 0, .getfield 606, .ldc2_w 20, .lcmp, .ifCond .ne 51, .ldc 2, .goto 52, .ldc 1, .istore 2, .aload 0, .invokevirtual 64, .aload 0, .invokevirtual 73, .istore 3, .iload 2, .ifCond .eq 64, .iload 1, .iload 3, .if_icmp .ge 69, .goto 67, .iload 1, .iload 3, .if_icmp .ne 69, .ldc 2, .goto 70, .ldc 1, .ireturn]
def pr_M_both : List Instr := [.aload 0, .invokevirtual 74, .istore 1, .aload 0, .ldc 50, .ldc 46, .ldc 40, .ldc 1, .ldc 1, .ldc 1, .ldc 1, .ldc 1, .invokevirtual 67, .ifCond .eq 28, .aload 0, .invokevirtual 64, .aload 0, .invokevirtual 74, .istore 2, .iload 1, .ifCond .eq 25, .iload 2, .ifCond .eq 25, .ldc 2, .goto 26, .ldc 1, .istore 1, .goto 3, .iload 1, .ireturn]
def pr_M_either : List Instr := [.aload 0, .invokevirtual 75, .istore 1, .aload 0, .ldc 42, .ldc 43, .ldc 1, .ldc 1, .ldc 1, .ldc 1, .ldc 1, .ldc 1, .invokevirtual 67, .ifCond .eq 28, .aload 0, .invokevirtual 64, .aload 0, .invokevirtual 75, .istore 2, .iload 1, .ifCond .ne 23, .iload 2, .ifCond .eq 25, .ldc 2, .goto 26, .ldc 1, .istore 1, .goto 3, .iload 1, .ireturn]
def pr_M_part : List Instr := [.iload 1, .ifCond .ne 4, .aload 0, .invokevirtual 65, .aload 0, .getfield 608, .ifCond .ne 9, .aload 0, .invokevirtual 64, .aload 0, .getfield 608, .ifCond .eq 14, .ldc 1, .goto 16, .aload 0, .invokevirtual 76, .istore 2, .aload 0, .ldc 31, .invokevirtual 68, .ifCond .ne 23, .aload 0, .invokevirtual 65, .aload 0, .getfield 608, .ifCond .ne 28, .aload 0, .invokevirtual 64, .iload 2, .ireturn]
def pr_M_read : List Instr := [.aload 0, .ldc 28, .iload 1, .imul, .putfield 601, .aload 0, .aload 0, .getfield 578, .iload 1, .iaload, .putfield 602, .aload 0, .ldc 1, .putfield 603, .aload 0, .ldc 1, .putfield 607, .aload 0, .ldc 1, .putfield 608, .aload 0, .invokevirtual 64, .aload 0, .aload 0, .ldc 50, .ldc 40, .ldc 40, .ldc 38, .ldc 1, .ldc 1, .ldc 1, .ldc 1, .invokevirtual 67, .invokevirtual 77, .istore 3, .aload 0, .getfield 608, .ifCond .eq 40, .ldc 1, .goto 52, .aload 0, .aload 0, .ldc 52, .ldc 42, .ldc 43, .ldc 45, .ldc 41, .ldc 1, .ldc 1, .ldc 1, .invokevirtual 67, .invokevirtual 77, .istore 4, .aload 0, .getfield 608, .ifCond .eq 58, .ldc 1, .goto 70, .aload 0, .aload 0, .ldc 49, .ldc 50, .ldc 51, .ldc 1, .ldc 1, .ldc 1, .ldc 1, .ldc 1, .invokevirtual 67, .invokevirtual 77, .istore 5, .aload 0, .getfield 608, .ifCond .ne 79, .aload 0, .getfield 604, .ifCond .eq 79, .aload 0, .invokevirtual 65, .iload 2, .ifCond .ne 83, .iload 3, .goto 89, .iload 2, .ldc 2, .if_icmp .ne 88, .iload 4, .goto 89, .iload 5, .ireturn]
def pr_M_text : List Instr := [.aload 0, .getfield 579, .ldc 13, .if_icmp .ne 6, .ldc 16, .ireturn, .ldc 1, .istore 1, .iload 1, .aload 0, .getfield 582, .if_icmp .ge 27, .aload 0, .getfield 577, .ldc 28, .aload 0, .getfield 579, .imul, .iload 1, .iadd, .aload 0, .getfield 581, .iload 1, .iaload, .iastore, .iinc 1 2, .goto 8, .aload 0, .getfield 578, .aload 0, .getfield 579, .aload 0, .getfield 582, .iastore, .aload 0, .ldc 1, .putfield 582, .aload 0, .aload 0, .getfield 579, .ldc 1, .invokevirtual 78, .istore 1, .aload 0, .getfield 608, .ifCond .eq 51, .ldc 17, .aload 0, .getfield 609, .isub, .ireturn, .aload 0, .dup, .getfield 579, .ldc 2, .iadd, .putfield 579, .aload 0, .getfield 579, .ldc 2, .isub, .ireturn]
def pr_M_force : List Instr := [.iload 1, .i2l, .ldc2_w 1, .aload 0, .getfield 579, .ldc 2, .isub, .i2l, .invokestatic 45, .ifCond .ne 12, .ldc 12, .ireturn, .aload 0, .getfield 580, .istore 2, .aload 0, .iload 1, .putfield 580, .iload 2, .ireturn]
def pr_M_adds : List Instr := [.aload 0, .iload 1, .putfield 595, .aload 0, .iload 2, .putfield 596, .aload 0, .iload 3, .putfield 597, .aload 0, .ldc 1, .putfield 598, .aload 0, .ldc 1, .putfield 599, .aload 0, .ldc 1, .putfield 600, .aload 0, .ldc 1, .invokevirtual 83, .ldc 1, .ldc 53, .invokestatic 46, .ireturn]
def pr_M_says : List Instr := [.aload 0, .ldc 1, .putfield 595, .aload 0, .aload 0, .getfield 588, .iload 2, .iaload, .putfield 596, .aload 0, .ldc 1, .putfield 597, .aload 0, .aload 0, .getfield 585, .iload 3, .iaload, .invokestatic 53, .putfield 598, .aload 0, .aload 0, .getfield 589, .iload 2, .iaload, .putfield 599, .aload 0, .aload 0, .getfield 590, .putfield 600, .aload 0, .iload 1, .invokevirtual 83, .ireturn]
def pr_M_keptRead : List Instr := [.aload 0, .getfield 580, .i2l, .ldc2_w 5, .lmul, .iload 1, .i2l, .ladd, .lstore 2, .lload 2, .ldc2_w 21, .lmul, .aload 0, .getfield 595, .i2l, .ladd, .lstore 2, .lload 2, .ldc2_w 22, .lmul, .aload 0, .getfield 596, .i2l, .ladd, .lstore 2, .lload 2, .ldc2_w 23, .lmul, .aload 0, .getfield 597, .i2l, .ladd, .lstore 2, .lload 2, .ldc2_w 24, .lmul, .aload 0, .getfield 598, .i2l, .ladd, .lstore 2, .lload 2, .ldc2_w 25, .lmul, .aload 0, .getfield 599, .i2l, .ladd, .lstore 2, .lload 2, .ldc2_w 23, .lmul, .aload 0, .getfield 600, .i2l, .ladd, .ldc2_w 9, .ladd, .lstore 2, .lload 2, .ldc2_w 26, .lmul, .ldc 54, .lushr, .l2i, .istore 4, .aload 0, .getfield 610, .iload 4, .laload, .lload 2, .lcmp, .ifCond .eq 87, .aload 0, .getfield 611, .iload 4, .aload 0, .aload 0, .getfield 580, .iload 1, .invokevirtual 78, .iastore, .aload 0, .getfield 610, .iload 4, .lload 2, .lastore, .aload 0, .getfield 611, .iload 4, .iaload, .ireturn]
def pr_M_takes : List Instr := [.ldc 1, .istore 1, .iload 1, .ldc 7, .if_icmp .ge 15, .aload 0, .getfield 612, .iload 1, .aload 0, .getfield 583, .iload 1, .iaload, .iastore, .iinc 1 2, .goto 2, .return_]
def pr_M_writes : List Instr := [.ldc 2, .istore 3, .ldc 2, .istore 4, .iload 4, .aload 0, .getfield 585, .iload 1, .iaload, .invokestatic 53, .if_icmp .ge 17, .iload 3, .ldc 27, .imul, .istore 3, .iinc 4 2, .goto 4, .ldc 1, .istore 4, .iload 3, .istore 5, .iload 5, .ifCond .le 76, .aload 0, .getfield 585, .iload 1, .iaload, .iload 5, .idiv, .ldc 27, .irem, .ldc 2, .isub, .istore 6, .iload 4, .aload 0, .aload 0, .getfield 612, .iload 6, .iaload, .iload 2, .invokevirtual 60, .aload 0, .aload 0, .getfield 612, .iload 6, .iaload, .iload 2, .iload 6, .invokevirtual 81, .iadd, .iadd, .istore 4, .aload 0, .getfield 612, .iload 6, .aload 0, .getfield 612, .iload 6, .iaload, .ldc 8, .if_icmp .ge 69, .aload 0, .getfield 612, .iload 6, .iaload, .ldc 2, .iadd, .goto 70, .ldc 8, .iastore, .iload 5, .ldc 27, .idiv, .istore 5, .goto 21, .iload 4, .ireturn]
def pr_M_costOf : List Instr := [.ldc 1, .istore 3, .iload 3, .ldc 7, .if_icmp .ge 15, .aload 0, .getfield 613, .iload 3, .aload 0, .getfield 612, .iload 3, .iaload, .iastore, .iinc 3 2, .goto 2, .aload 0, .iload 1, .iload 2, .invokevirtual 85, .istore 3, .ldc 1, .istore 4, .iload 4, .ldc 7, .if_icmp .ge 35, .aload 0, .getfield 612, .iload 4, .aload 0, .getfield 613, .iload 4, .iaload, .iastore, .iinc 4 2, .goto 22, .iload 3, .ireturn]
def pr_M_ages : List Instr := [.ldc 1, .istore 1, .iload 1, .ldc 7, .if_icmp .ge 17, .aload 0, .getfield 612, .iload 1, .aload 0, .aload 0, .getfield 612, .iload 1, .iaload, .invokevirtual 61, .iastore, .iinc 1 2, .goto 2, .return_]
def pr_M_rowSum : List Instr := [.ldc 1, .istore 1, .ldc 1, .istore 2, .iload 2, .ldc 7, .if_icmp .ge 16, .iload 1, .aload 0, .getfield 612, .iload 2, .iaload, .iadd, .istore 1, .iinc 2 2, .goto 4, .iload 1, .ireturn]
def pr_M_keeps : List Instr := [.ldc 1, .istore 1, .iload 1, .ldc 7, .if_icmp .ge 15, .aload 0, .getfield 583, .iload 1, .aload 0, .getfield 612, .iload 1, .iaload, .iastore, .iinc 1 2, .goto 2, .return_]
def pr_M_costs : List Instr := [.aload 0, .iload 1, .invokevirtual 48, .ifCond .eq 10, .iload 2, .i2l, .ldc2_w 1, .ldc2_w 6, .invokestatic 45, .ifCond .ne 12, .ldc 12, .ireturn, .aload 0, .invokevirtual 84, .aload 0, .iload 1, .iload 2, .invokevirtual 85, .ireturn]
def pr_M_write : List Instr := [.aload 0, .iload 1, .invokevirtual 48, .ifCond .eq 10, .iload 2, .i2l, .ldc2_w 1, .ldc2_w 6, .invokestatic 45, .ifCond .ne 12, .ldc 12, .ireturn, .aload 0, .invokevirtual 84, .aload 0, .iload 1, .iload 2, .invokevirtual 85, .istore 3, .aload 0, .invokevirtual 89, .iload 3, .ireturn]
def pr_M_pass : List Instr := [.iload 1, .i2l, .ldc2_w 1, .ldc2_w 27, .invokestatic 45, .ifCond .ne 8, .ldc 12, .ireturn, .aload 0, .invokevirtual 84, .ldc 1, .istore 2, .iload 2, .iload 1, .if_icmp .ge 19, .aload 0, .invokevirtual 87, .iinc 2 2, .goto 12, .aload 0, .invokevirtual 89, .aload 0, .invokevirtual 88, .ireturn]
def pr_M_cheapest : List Instr := [.iload 1, .i2l, .ldc2_w 1, .ldc2_w 5, .invokestatic 45, .ifCond .eq 18, .iload 2, .i2l, .ldc2_w 1, .ldc2_w 6, .invokestatic 45, .ifCond .eq 18, .iload 3, .i2l, .ldc2_w 1, .ldc2_w 9, .invokestatic 45, .ifCond .ne 20, .ldc 12, .ireturn, .aload 0, .invokevirtual 84, .ldc 0, .istore 4, .ldc 1, .istore 5, .ldc 1, .istore 6, .iload 6, .aload 0, .getfield 586, .if_icmp .ge 55, .aload 0, .getfield 584, .iload 6, .iaload, .iload 1, .if_icmp .ne 53, .aload 0, .iload 6, .iload 2, .invokevirtual 86, .istore 7, .iload 4, .ldc 0, .if_icmp .eq 49, .iload 7, .iload 5, .if_icmp .ge 53, .iload 6, .istore 4, .iload 7, .istore 5, .iinc 6 2, .goto 28, .iload 4, .ldc 0, .if_icmp .eq 60, .iload 3, .ifCond .ne 62, .iload 4, .goto 63, .iload 5, .ireturn]
def pr_M_turnOf : List Instr := [.aload 0, .getfield 614, .iload 1, .ldc 0, .iastore, .aload 0, .getfield 615, .iload 1, .ldc 1, .iastore, .ldc 1, .istore 2, .iload 2, .aload 0, .getfield 586, .if_icmp .ge 85, .aload 0, .getfield 584, .iload 2, .iaload, .aload 0, .getfield 587, .iload 1, .iaload, .if_icmp .ne 83, .aload 0, .iload 2, .aload 0, .getfield 588, .iload 1, .iaload, .invokevirtual 86, .istore 3, .iload 1, .aload 0, .getfield 616, .if_icmp .ne 49, .iload 3, .aload 0, .getfield 617, .if_icmp .ne 49, .aload 0, .dup, .getfield 618, .ldc 2, .iload 2, .ishl, .ior, .putfield 618, .iload 3, .aload 0, .getfield 589, .iload 1, .iaload, .if_icmp .gt 83, .aload 0, .getfield 614, .iload 1, .iaload, .ldc 0, .if_icmp .eq 67, .iload 3, .aload 0, .getfield 615, .iload 1, .iaload, .if_icmp .ge 83, .aload 0, .ldc 3, .iload 1, .iload 2, .invokevirtual 82, .ifCond .eq 83, .aload 0, .getfield 614, .iload 1, .iload 2, .iastore, .aload 0, .getfield 615, .iload 1, .iload 3, .iastore, .iinc 2 2, .goto 12, .aload 0, .getfield 614, .iload 1, .iaload, .ldc 0, .if_icmp .eq 102, .aload 0, .aload 0, .getfield 614, .iload 1, .iaload, .aload 0, .getfield 588, .iload 1, .iaload, .invokevirtual 85, .pop, .return_]
def pr_M_passesDay : List Instr := [.ldc 1, .istore 1, .iload 1, .ldc 18, .if_icmp .ge 26, .ldc 1, .istore 2, .iload 2, .aload 0, .getfield 590, .if_icmp .ge 22, .aload 0, .getfield 588, .iload 2, .iaload, .iload 1, .if_icmp .ne 20, .aload 0, .iload 2, .invokevirtual 94, .iinc 2 2, .goto 7, .aload 0, .invokevirtual 87, .iinc 1 2, .goto 2, .return_]
def pr_M_dayNow : List Instr := [.aload 0, .invokevirtual 84, .aload 0, .invokevirtual 95, .return_]
def pr_M_goodOf : List Instr := [.aload 0, .getfield 614, .iload 1, .iaload, .ldc 0, .if_icmp .ne 8, .ldc 1, .goto 24, .aload 0, .ldc 2, .iload 1, .aload 0, .getfield 614, .iload 1, .iaload, .invokevirtual 82, .ldc 1, .ldc 8, .invokestatic 46, .aload 0, .getfield 615, .iload 1, .iaload, .isub, .ireturn]
def pr_M_allGood : List Instr := [.ldc 1, .istore 1, .ldc 1, .istore 2, .iload 2, .aload 0, .getfield 590, .if_icmp .ge 16, .iload 1, .aload 0, .iload 2, .invokevirtual 97, .iadd, .istore 1, .iinc 2 2, .goto 4, .iload 1, .ireturn]
def pr_M_saying : List Instr := [.ldc 1, .istore 1, .ldc 1, .istore 2, .iload 2, .aload 0, .getfield 590, .if_icmp .ge 22, .iload 1, .aload 0, .getfield 614, .iload 2, .iaload, .ldc 0, .if_icmp .ne 17, .ldc 1, .goto 18, .ldc 2, .iadd, .istore 1, .iinc 2 2, .goto 4, .iload 1, .ireturn]
def pr_M_day : List Instr := [.aload 0, .iload 1, .invokevirtual 49, .ifCond .eq 10, .iload 2, .i2l, .ldc2_w 1, .ldc2_w 28, .invokestatic 45, .ifCond .ne 12, .ldc 19, .ireturn, .aload 0, .invokevirtual 96, .iload 2, .ifCond .ne 21, .aload 0, .getfield 615, .iload 1, .iaload, .goto 32, .iload 2, .ldc 2, .if_icmp .ne 29, .aload 0, .getfield 614, .iload 1, .iaload, .goto 32, .aload 0, .iload 1, .invokevirtual 97, .ireturn]
def pr_M_all : List Instr := [.iload 1, .i2l, .ldc2_w 1, .ldc2_w 5, .invokestatic 45, .ifCond .ne 8, .ldc 19, .ireturn, .aload 0, .invokevirtual 96, .iload 1, .ldc 3, .if_icmp .ge 21, .iload 1, .ifCond .ne 18, .aload 0, .invokevirtual 98, .goto 20, .aload 0, .invokevirtual 99, .ireturn, .iload 1, .ldc 4, .if_icmp .ne 43, .ldc 1, .istore 2, .ldc 1, .istore 3, .iload 3, .aload 0, .getfield 590, .if_icmp .ge 41, .iload 2, .aload 0, .getfield 615, .iload 3, .iaload, .iadd, .istore 2, .iinc 3 2, .goto 28, .iload 2, .ireturn, .aload 0, .getfield 612, .ldc 1, .iaload, .istore 2, .aload 0, .getfield 612, .ldc 1, .iaload, .istore 3, .ldc 2, .istore 4, .iload 4, .ldc 7, .if_icmp .ge 86, .aload 0, .getfield 612, .iload 4, .iaload, .iload 2, .if_icmp .le 69, .aload 0, .getfield 612, .iload 4, .iaload, .goto 70, .iload 2, .istore 2, .aload 0, .getfield 612, .iload 4, .iaload, .iload 3, .if_icmp .ge 82, .aload 0, .getfield 612, .iload 4, .iaload, .goto 83, .iload 3, .istore 3, .iinc 4 2, .goto 55, .iload 2, .iload 3, .isub, .ireturn]
def pr_M_seeks : List Instr := [.aload 0, .getfield 588, .iload 1, .iaload, .istore 2, .ldc 1, .istore 3, .iload 3, .ldc 18, .if_icmp .ge 35, .aload 0, .getfield 588, .iload 1, .iload 3, .iastore, .aload 0, .invokevirtual 96, .aload 0, .iload 1, .invokevirtual 97, .istore 4, .iload 3, .ifCond .eq 27, .iload 4, .aload 0, .getfield 620, .if_icmp .le 33, .aload 0, .iload 3, .putfield 619, .aload 0, .iload 4, .putfield 620, .iinc 3 2, .goto 7, .aload 0, .getfield 588, .iload 1, .iload 2, .iastore, .return_]
def pr_M_when : List Instr := [.aload 0, .iload 1, .invokevirtual 49, .ifCond .eq 10, .iload 2, .i2l, .ldc2_w 1, .ldc2_w 9, .invokestatic 45, .ifCond .ne 12, .ldc 19, .ireturn, .aload 0, .iload 1, .invokevirtual 102, .iload 2, .ifCond .ne 20, .aload 0, .getfield 619, .goto 22, .aload 0, .getfield 620, .ireturn]
def pr_M_choose : List Instr := [.aload 0, .iload 1, .invokevirtual 49, .ifCond .ne 6, .ldc 19, .ireturn, .aload 0, .iload 1, .invokevirtual 102, .aload 0, .getfield 588, .iload 1, .aload 0, .getfield 619, .iastore, .aload 0, .getfield 620, .ireturn]
def pr_M_rest : List Instr := [.ldc 1, .istore 1, .iload 1, .aload 0, .getfield 590, .if_icmp .ge 23, .aload 0, .invokevirtual 96, .aload 0, .iload 1, .invokevirtual 97, .istore 2, .aload 0, .iload 1, .invokevirtual 102, .aload 0, .getfield 620, .iload 2, .if_icmp .le 21, .ldc 1, .ireturn, .iinc 1 2, .goto 2, .ldc 2, .ireturn]
def pr_M_orders : List Instr := [.iload 1, .iload 2, .if_icmp .ne 23, .aload 0, .invokevirtual 96, .aload 0, .invokevirtual 98, .istore 5, .aload 0, .getfield 623, .ldc 0, .if_icmp .eq 16, .iload 5, .aload 0, .getfield 622, .if_icmp .le 22, .aload 0, .iload 5, .putfield 622, .aload 0, .iload 4, .putfield 623, .return_, .ldc 1, .istore 5, .iload 5, .iload 2, .if_icmp .ge 60, .iload 3, .iload 5, .ishr, .ldc 2, .iand, .ifCond .ne 58, .aload 0, .getfield 588, .iload 1, .aload 0, .getfield 621, .iload 5, .iaload, .iastore, .aload 0, .iload 1, .ldc 2, .iadd, .iload 2, .iload 3, .ldc 2, .iload 5, .ishl, .ior, .ldc 27, .iload 4, .imul, .iload 5, .iadd, .invokevirtual 106, .iinc 5 2, .goto 25, .aload 0, .getfield 588, .iload 1, .aload 0, .getfield 621, .iload 1, .iaload, .iastore, .return_]
def pr_M_turns : List Instr := [.iload 1, .i2l, .ldc2_w 1, .ldc2_w 9, .invokestatic 45, .ifCond .ne 8, .ldc 19, .ireturn, .ldc 1, .istore 2, .iload 2, .ldc 6, .if_icmp .ge 23, .aload 0, .getfield 621, .iload 2, .aload 0, .getfield 588, .iload 2, .iaload, .iastore, .iinc 2 2, .goto 10, .aload 0, .ldc 0, .putfield 623, .aload 0, .ldc 1, .putfield 622, .aload 0, .ldc 1, .aload 0, .getfield 590, .ldc 5, .if_icmp .ge 38, .aload 0, .getfield 590, .goto 39, .ldc 5, .ldc 1, .ldc 1, .invokevirtual 106, .iload 1, .ifCond .ne 47, .aload 0, .getfield 622, .goto 49, .aload 0, .getfield 623, .ireturn]
def pr_M_burned : List Instr := [.aload 0, .invokevirtual 96, .aload 0, .invokevirtual 98, .istore 3, .aload 0, .invokevirtual 84, .aload 0, .getfield 612, .iload 1, .aload 0, .getfield 612, .iload 1, .iaload, .iload 2, .iadd, .ldc 8, .if_icmp .ge 25, .aload 0, .getfield 612, .iload 1, .iaload, .iload 2, .iadd, .goto 26, .ldc 8, .iastore, .aload 0, .invokevirtual 95, .iload 3, .aload 0, .invokevirtual 98, .isub, .ireturn]
def pr_M_burn : List Instr := [.iload 1, .i2l, .ldc2_w 1, .ldc2_w 2, .invokestatic 45, .ifCond .eq 17, .iload 2, .i2l, .ldc2_w 9, .ldc2_w 29, .invokestatic 45, .ifCond .eq 17, .aload 0, .iload 1, .iload 2, .invokevirtual 108, .goto 18, .ldc 19, .ireturn]
def pr_M_worst : List Instr := [.iload 1, .i2l, .ldc2_w 9, .ldc2_w 29, .invokestatic 45, .ifCond .eq 12, .iload 2, .i2l, .ldc2_w 1, .ldc2_w 9, .invokestatic 45, .ifCond .ne 14, .ldc 19, .ireturn, .ldc 1, .istore 3, .ldc 1, .istore 4, .ldc 1, .istore 5, .iload 5, .ldc 7, .if_icmp .ge 39, .aload 0, .iload 5, .iload 1, .invokevirtual 108, .istore 6, .iload 5, .ifCond .eq 33, .iload 6, .iload 4, .if_icmp .le 37, .iload 5, .istore 3, .iload 6, .istore 4, .iinc 5 2, .goto 20, .iload 2, .ifCond .ne 43, .iload 3, .goto 44, .iload 4, .ireturn]
def pr_M_best : List Instr := [.iload 1, .i2l, .ldc2_w 1, .ldc2_w 28, .invokestatic 45, .ifCond .ne 8, .ldc 19, .ireturn, .aload 0, .getfield 594, .istore 2, .ldc 0, .istore 3, .ldc 1, .istore 4, .ldc 1, .istore 5, .aload 0, .ldc 1, .putfield 594, .aload 0, .getfield 594, .aload 0, .getfield 593, .if_icmp .ge 59, .aload 0, .invokevirtual 96, .aload 0, .invokevirtual 99, .istore 6, .aload 0, .invokevirtual 98, .istore 7, .iload 3, .ldc 0, .if_icmp .eq 45, .iload 6, .iload 4, .if_icmp .gt 45, .iload 6, .iload 4, .if_icmp .ne 52, .iload 7, .iload 5, .if_icmp .le 52, .aload 0, .getfield 594, .istore 3, .iload 6, .istore 4, .iload 7, .istore 5, .aload 0, .dup, .getfield 594, .ldc 2, .iadd, .putfield 594, .goto 20, .aload 0, .iload 2, .putfield 594, .iload 1, .ifCond .ne 66, .iload 3, .goto 72, .iload 1, .ldc 2, .if_icmp .ne 71, .iload 4, .goto 72, .iload 5, .ireturn]
def pr_M_paidBad : List Instr := [.iload 1, .invokestatic 123, .ifCond .ne 5, .ldc 12, .ireturn, .aload 0, .getfield 632, .iload 1, .baload, .ifCond .ne 12, .ldc 24, .ireturn, .aload 0, .getfield 634, .iload 1, .iaload, .aload 0, .getfield 590, .if_icmp .ne 21, .ldc 1, .goto 22, .ldc 12, .ireturn]
def pr_M_unlike : List Instr := [.aload 0, .invokevirtual 96, .ldc 1, .istore 2, .iload 2, .aload 0, .getfield 590, .if_icmp .ge 33, .aload 0, .getfield 614, .iload 2, .iaload, .ldc 0, .if_icmp .ne 16, .ldc 0, .goto 20, .aload 0, .getfield 615, .iload 2, .iaload, .aload 0, .getfield 635, .ldc 22, .iload 1, .imul, .iload 2, .iadd, .iaload, .if_icmp .eq 31, .iload 2, .ireturn, .iinc 2 2, .goto 4, .ldc 0, .ireturn]
def pr_M_judge : List Instr := [.aload 0, .iload 1, .invokevirtual 112, .istore 2, .iload 2, .ifCond .eq 8, .iload 2, .goto 11, .aload 0, .iload 1, .invokevirtual 113, .ireturn]
def pr_M_fits : List Instr := [.aload 0, .iload 1, .invokevirtual 49, .ifCond .eq 10, .iload 2, .i2l, .ldc2_w 1, .ldc2_w 7, .invokestatic 45, .ifCond .ne 12, .ldc 12, .ireturn, .aload 0, .iload 1, .putfield 616, .aload 0, .iload 2, .putfield 617, .aload 0, .ldc 1, .putfield 618, .aload 0, .invokevirtual 96, .aload 0, .ldc 0, .putfield 616, .aload 0, .getfield 618, .ireturn]
def pr_M_whose : List Instr := [.aload 0, .iload 1, .invokevirtual 112, .istore 2, .iload 2, .ifCond .eq 8, .iload 2, .ireturn, .aload 0, .getfield 594, .istore 3, .ldc 1, .istore 4, .aload 0, .ldc 1, .putfield 594, .aload 0, .getfield 594, .aload 0, .getfield 593, .if_icmp .ge 42, .iload 4, .aload 0, .iload 1, .invokevirtual 113, .ldc 0, .if_icmp .ne 29, .ldc 2, .goto 30, .ldc 1, .aload 0, .getfield 594, .ishl, .ior, .istore 4, .aload 0, .dup, .getfield 594, .ldc 2, .iadd, .putfield 594, .goto 16, .aload 0, .iload 3, .putfield 594, .iload 4, .ireturn]
def pr_M_draws : List Instr := [.iload 1, .istore 2, .ldc 1, .istore 3, .iload 3, .ldc 7, .if_icmp .ge 24, .iload 2, .ldc 55, .imul, .ldc 56, .iadd, .istore 2, .aload 0, .getfield 612, .iload 3, .iload 2, .ldc 27, .iushr, .ldc 57, .irem, .iastore, .iinc 3 2, .goto 4, .aload 0, .invokevirtual 95, .return_]
def pr_M_drawn : List Instr := [.aload 0, .iload 1, .invokevirtual 117, .aload 0, .invokevirtual 98, .ireturn]
def pr_M_chance : List Instr := [.iload 2, .i2l, .ldc2_w 9, .ldc2_w 29, .invokestatic 45, .ifCond .eq 12, .iload 3, .i2l, .ldc2_w 1, .ldc2_w 9, .invokestatic 45, .ifCond .ne 14, .ldc2_w 0, .lreturn, .ldc2_w 1, .lstore 4, .ldc 1, .istore 6, .iload 6, .iload 2, .if_icmp .ge 39, .aload 0, .iload 1, .iload 6, .iadd, .invokevirtual 117, .lload 4, .aload 0, .invokevirtual 99, .aload 0, .getfield 590, .if_icmp .ne 34, .ldc2_w 9, .goto 35, .ldc2_w 1, .ladd, .lstore 4, .iinc 6 2, .goto 18, .lload 4, .lstore 6, .iload 2, .i2l, .lstore 8, .lload 8, .ldc2_w 1, .lcmp, .ifCond .eq 57, .lload 6, .lload 8, .lrem, .lstore 10, .lload 8, .lstore 6, .lload 10, .lstore 8, .goto 44, .iload 3, .ifCond .ne 63, .lload 4, .lload 6, .ldiv, .goto 67, .iload 2, .i2l, .lload 6, .ldiv, .lreturn]
def pr_M_image : List Instr := [.ldc 1, .istore 1, .iload 1, .ldc 7, .if_icmp .ge 15, .aload 0, .getfield 624, .iload 1, .aload 0, .getfield 583, .iload 1, .iaload, .iastore, .iinc 1 2, .goto 2, .ldc 1, .istore 1, .iload 1, .ldc 6, .if_icmp .ge 50, .aload 0, .getfield 625, .iload 1, .aload 0, .getfield 587, .iload 1, .iaload, .iastore, .aload 0, .getfield 625, .ldc 6, .iload 1, .iadd, .aload 0, .getfield 588, .iload 1, .iaload, .iastore, .aload 0, .getfield 625, .ldc 27, .iload 1, .iadd, .aload 0, .getfield 589, .iload 1, .iaload, .iastore, .iinc 1 2, .goto 17, .ldc 1, .istore 1, .iload 1, .ldc 13, .if_icmp .ge 65, .aload 0, .getfield 626, .iload 1, .aload 0, .getfield 592, .iload 1, .iaload, .iastore, .iinc 1 2, .goto 52, .aload 0, .aload 0, .getfield 590, .putfield 627, .aload 0, .aload 0, .getfield 586, .putfield 628, .aload 0, .aload 0, .getfield 593, .putfield 629, .aload 0, .aload 0, .getfield 594, .putfield 630, .aload 0, .aload 0, .getfield 580, .putfield 631, .aload 0, .getfield 590, .ireturn]
def pr_M_back : List Instr := [.aload 0, .getfield 627, .ldc 0, .if_icmp .ne 6, .ldc 21, .ireturn, .ldc 1, .istore 1, .iload 1, .ldc 7, .if_icmp .ge 21, .aload 0, .getfield 583, .iload 1, .aload 0, .getfield 624, .iload 1, .iaload, .iastore, .iinc 1 2, .goto 8, .ldc 1, .istore 1, .iload 1, .ldc 6, .if_icmp .ge 56, .aload 0, .getfield 587, .iload 1, .aload 0, .getfield 625, .iload 1, .iaload, .iastore, .aload 0, .getfield 588, .iload 1, .aload 0, .getfield 625, .ldc 6, .iload 1, .iadd, .iaload, .iastore, .aload 0, .getfield 589, .iload 1, .aload 0, .getfield 625, .ldc 27, .iload 1, .iadd, .iaload, .iastore, .iinc 1 2, .goto 23, .ldc 1, .istore 1, .iload 1, .ldc 13, .if_icmp .ge 71, .aload 0, .getfield 592, .iload 1, .aload 0, .getfield 626, .iload 1, .iaload, .iastore, .iinc 1 2, .goto 58, .aload 0, .aload 0, .getfield 627, .putfield 590, .aload 0, .aload 0, .getfield 628, .putfield 586, .aload 0, .aload 0, .getfield 629, .putfield 593, .aload 0, .aload 0, .getfield 630, .putfield 594, .aload 0, .aload 0, .getfield 631, .putfield 580, .aload 0, .getfield 590, .ireturn]
def pr_M_count : List Instr := [.iload 1, .i2l, .ldc2_w 1, .ldc2_w 2, .invokestatic 45, .ifCond .ne 8, .ldc 12, .ireturn, .iload 1, .ldc 5, .if_icmp .ge 31, .iload 1, .ifCond .ne 16, .aload 0, .getfield 586, .goto 30, .iload 1, .ldc 2, .if_icmp .ne 22, .aload 0, .getfield 590, .goto 30, .iload 1, .ldc 3, .if_icmp .ne 28, .aload 0, .getfield 593, .goto 30, .aload 0, .getfield 594, .ireturn, .iload 1, .ldc 14, .if_icmp .ge 49, .iload 1, .ldc 5, .if_icmp .ne 40, .aload 0, .getfield 579, .goto 48, .iload 1, .ldc 6, .if_icmp .ne 46, .aload 0, .getfield 582, .goto 48, .aload 0, .getfield 580, .ireturn, .aload 0, .invokevirtual 84, .aload 0, .invokevirtual 88, .ireturn]
def pr_M_isSheet : List Instr := [.iload 0, .i2l, .ldc2_w 1, .ldc2_w 5, .invokestatic 45, .ireturn]
def pr_M_sheet : List Instr := [.iload 1, .invokestatic 123, .ifCond .eq 14, .iload 2, .i2l, .ldc2_w 30, .ldc2_w 28, .invokestatic 45, .ifCond .eq 14, .iload 2, .ifCond .lt 16, .iload 3, .ldc 22, .if_icmp .le 16, .ldc 12, .ireturn, .iload 2, .ifCond .lt 22, .iload 3, .ifCond .ge 22, .ldc 23, .ireturn, .aload 0, .getfield 632, .iload 1, .iload 2, .ifCond .lt 29, .ldc 2, .goto 30, .ldc 1, .bastore, .aload 0, .getfield 633, .iload 1, .iload 2, .iastore, .aload 0, .getfield 634, .iload 1, .iload 3, .iastore, .ldc 1, .istore 4, .iload 4, .iload 3, .if_icmp .ge 59, .iload 2, .ifCond .lt 59, .aload 0, .getfield 635, .ldc 22, .iload 1, .imul, .iload 4, .iadd, .ldc 1, .iastore, .iinc 4 2, .goto 43, .ldc 2, .ireturn]
def pr_M_cell : List Instr := [.iload 1, .invokestatic 123, .ifCond .ne 5, .ldc 12, .ireturn, .aload 0, .getfield 632, .iload 1, .baload, .ifCond .ne 12, .ldc 24, .ireturn, .iload 2, .i2l, .ldc2_w 1, .aload 0, .getfield 634, .iload 1, .iaload, .ldc 2, .isub, .i2l, .invokestatic 45, .ifCond .ne 26, .ldc 25, .ireturn, .aload 0, .getfield 635, .ldc 22, .iload 1, .imul, .iload 2, .iadd, .aload 0, .getfield 633, .iload 1, .iaload, .ifCond .ne 41, .iload 3, .i2b, .goto 51, .aload 0, .getfield 633, .iload 1, .iaload, .ldc 2, .if_icmp .ne 50, .iload 3, .i2s, .goto 51, .iload 3, .iastore, .ldc 2, .ireturn]
def pr_M_copy : List Instr := [.iload 1, .invokestatic 123, .ifCond .eq 6, .iload 3, .invokestatic 123, .ifCond .ne 8, .ldc 12, .ireturn, .aload 0, .getfield 632, .iload 1, .baload, .ifCond .eq 18, .aload 0, .getfield 632, .iload 3, .baload, .ifCond .ne 20, .ldc 24, .ireturn, .aload 0, .getfield 633, .iload 1, .iaload, .aload 0, .getfield 633, .iload 3, .iaload, .if_icmp .eq 31, .ldc 26, .ireturn, .iload 5, .ifCond .lt 53, .iload 2, .ifCond .lt 53, .iload 4, .ifCond .lt 53, .iload 2, .aload 0, .getfield 634, .iload 1, .iaload, .iload 5, .isub, .if_icmp .gt 53, .iload 4, .aload 0, .getfield 634, .iload 3, .iaload, .iload 5, .isub, .if_icmp .le 55, .ldc 25, .ireturn, .iload 1, .iload 3, .if_icmp .ne 63, .iload 2, .iload 4, .if_icmp .ge 63, .ldc 2, .goto 64, .ldc 1, .istore 6, .ldc 1, .istore 7, .iload 7, .iload 5, .if_icmp .ge 102, .iload 6, .ifCond .eq 78, .iload 5, .ldc 2, .isub, .iload 7, .isub, .goto 79, .iload 7, .istore 8, .aload 0, .getfield 635, .ldc 22, .iload 3, .imul, .iload 4, .iadd, .iload 8, .iadd, .aload 0, .getfield 635, .ldc 22, .iload 1, .imul, .iload 2, .iadd, .iload 8, .iadd, .iaload, .iastore, .iinc 7 2, .goto 67, .iload 5, .ireturn]
def pr_M_writers : List Instr := [.iload 1, .invokestatic 123, .ifCond .eq 15, .iload 2, .i2l, .ldc2_w 1, .ldc2_w 28, .invokestatic 45, .ifCond .eq 15, .iload 4, .i2l, .ldc2_w 1, .ldc2_w 12, .invokestatic 45, .ifCond .ne 17, .ldc 12, .ireturn, .aload 0, .getfield 632, .iload 1, .baload, .ifCond .eq 30, .aload 0, .getfield 633, .iload 1, .iaload, .iload 2, .if_icmp .eq 30, .ldc 26, .ireturn, .aload 0, .getfield 632, .iload 1, .baload, .ifCond .ne 37, .ldc 24, .ireturn, .ldc 1, .istore 5, .ldc 1, .istore 6, .iload 6, .iload 4, .if_icmp .ge 97, .iload 3, .ifCond .lt 58, .iload 3, .aload 0, .getfield 634, .iload 1, .iaload, .ldc 4, .iload 6, .imul, .isub, .ldc 4, .isub, .if_icmp .le 60, .ldc 25, .ireturn, .ldc 22, .iload 1, .imul, .iload 3, .iadd, .ldc 4, .iload 6, .imul, .iadd, .istore 7, .iload 5, .aload 0, .aload 0, .getfield 635, .iload 7, .iaload, .aload 0, .getfield 635, .iload 7, .ldc 2, .iadd, .iaload, .aload 0, .getfield 635, .iload 7, .ldc 3, .iadd, .iaload, .invokevirtual 56, .ifCond .lt 92, .ldc 2, .goto 93, .ldc 1, .iadd, .istore 5, .iinc 6 2, .goto 41, .iload 5, .ireturn]
def pr_M_over : List Instr := [.iload 0, .ifCond .ne 4, .ldc 0, .goto 18, .iload 0, .ldc 5, .if_icmp .ne 9, .ldc 3, .goto 18, .iload 0, .ldc 4, .if_icmp .eq 15, .iload 0, .ldc 6, .if_icmp .ne 17, .ldc 2, .goto 18, .ldc 1, .ireturn]
def pr_M_taken : List Instr := [.iload 2, .i2l, .ldc2_w 1, .ldc2_w 12, .invokestatic 45, .ifCond .ne 8, .ldc 12, .ireturn, .aload 0, .iload 1, .invokevirtual 50, .ifCond .ne 14, .ldc 24, .ireturn, .aload 0, .getfield 591, .iload 1, .iaload, .istore 3, .iload 3, .ldc 0, .if_icmp .eq 29, .iload 3, .iload 2, .if_icmp .eq 29, .iload 3, .invokestatic 128, .istore 3, .goto 19, .iload 3, .iload 2, .if_icmp .ne 37, .aload 0, .getfield 592, .iload 1, .iaload, .goto 38, .ldc 26, .ireturn]
def pr_Day_dawn : List Instr := [.aload 0, .getfield 0, .ldc 1, .aload 0, .getfield 5, .ldc 1, .ldc 7, .invokedynamic 0, .aload 0, .getfield 2, .getfield 449, .ldc 1, .aload 0, .getfield 6, .ldc 1, .ldc 6, .invokedynamic 0, .aload 0, .aload 0, .getfield 3, .getfield 131, .putfield 7, .return_]
def pr_Day_draw : List Instr := [.iload 1, .istore 2, .ldc 1, .istore 3, .iload 3, .ldc 7, .if_icmp .ge 24, .iload 2, .ldc 55, .imul, .ldc 56, .iadd, .istore 2, .aload 0, .getfield 5, .iload 3, .iload 2, .ldc 27, .iushr, .ldc 57, .irem, .iastore, .iinc 3 2, .goto 4, .return_]
def pr_Day_live : List Instr := [.aload 0, .ldc 0, .invokevirtual 133, .return_]
def pr_Day_liveTo : List Instr := [.ldc 1, .istore 2, .iload 2, .ldc 18, .if_icmp .ge 37, .ldc 1, .istore 3, .iload 3, .aload 0, .getfield 2, .getfield 451, .if_icmp .ge 28, .aload 0, .getfield 6, .iload 3, .iaload, .iload 2, .if_icmp .eq 19, .goto 26, .iload 3, .iload 1, .if_icmp .ne 23, .return_, .aload 0, .iload 3, .invokevirtual 134, .iinc 3 2, .goto 7, .aload 0, .getfield 3, .aload 0, .getfield 7, .aload 0, .getfield 5, .invokevirtual 151, .iinc 2 2, .goto 2, .return_]
def pr_Day_takeTurn : List Instr := [.aload 0, .getfield 6, .iload 1, .iaload, .istore 2, .aload 0, .getfield 2, .getfield 450, .iload 1, .iaload, .istore 3, .ldc 0, .istore 4, .iload 3, .ldc 2, .iadd, .istore 5, .ldc 1, .istore 6, .iload 6, .aload 0, .getfield 1, .getfield 387, .if_icmp .ge 64, .aload 0, .getfield 1, .getfield 384, .iload 6, .iaload, .aload 0, .getfield 2, .getfield 448, .iload 1, .iaload, .if_icmp .eq 36, .goto 62, .aload 0, .iload 6, .iload 2, .invokevirtual 135, .istore 7, .iload 7, .iload 5, .if_icmp .ge 62, .aload 0, .getfield 4, .iload 2, .aload 0, .getfield 1, .getfield 385, .iload 6, .iaload, .iload 3, .aload 0, .getfield 2, .getfield 451, .invokevirtual 179, .ifCond .eq 62, .iload 6, .istore 4, .iload 7, .istore 5, .iinc 6 2, .goto 19, .aload 0, .getfield 8, .iload 1, .iload 4, .iastore, .aload 0, .getfield 9, .iload 1, .ldc 1, .iastore, .aload 0, .getfield 10, .iload 1, .ldc 1, .iastore, .iload 4, .ldc 0, .if_icmp .ne 83, .return_, .aload 0, .getfield 9, .iload 1, .iload 5, .iastore, .aload 0, .getfield 10, .iload 1, .aload 0, .getfield 4, .iload 2, .aload 0, .getfield 1, .getfield 385, .iload 4, .iaload, .iload 3, .aload 0, .getfield 2, .getfield 451, .invokevirtual 178, .iload 5, .isub, .iastore, .aload 0, .getfield 1, .iload 4, .aload 0, .getfield 5, .invokevirtual 186, .return_]
def pr_Day_costOf : List Instr := [.ldc 1, .istore 3, .ldc 1, .istore 4, .iload 4, .aload 0, .getfield 1, .getfield 385, .iload 1, .iaload, .if_icmp .ge 44, .aload 0, .getfield 1, .iload 1, .iload 4, .aload 0, .getfield 5, .invokevirtual 185, .istore 5, .iload 3, .aload 0, .getfield 3, .aload 0, .getfield 7, .iload 5, .iload 2, .invokevirtual 149, .aload 0, .getfield 4, .iload 5, .iload 2, .aload 0, .getfield 1, .getfield 386, .iload 1, .aaload, .iload 4, .iaload, .invokevirtual 177, .iadd, .iadd, .istore 3, .iinc 4 2, .goto 4, .iload 3, .ireturn]
def pr_Day_tryHours : List Instr := [.ldc 1, .istore 2, .iload 2, .ldc 18, .if_icmp .ge 28, .aload 0, .invokevirtual 130, .aload 0, .getfield 6, .iload 1, .iload 2, .iastore, .aload 0, .iload 1, .invokevirtual 133, .aload 0, .iload 1, .invokevirtual 134, .aload 0, .getfield 11, .iload 2, .aload 0, .getfield 10, .iload 1, .iaload, .iastore, .iinc 2 2, .goto 2, .return_]
def pr_Day_goodIfBurned : List Instr := [.aload 0, .invokevirtual 130, .aload 0, .getfield 5, .iload 1, .aload 0, .getfield 5, .iload 1, .iaload, .iload 2, .iadd, .ldc 8, .invokedynamic 2, .iastore, .aload 0, .ldc 0, .invokevirtual 133, .aload 0, .invokevirtual 138, .ireturn]
def pr_Day_allGood : List Instr := [.ldc 1, .istore 1, .ldc 1, .istore 2, .iload 2, .aload 0, .getfield 2, .getfield 451, .if_icmp .ge 18, .iload 1, .aload 0, .getfield 10, .iload 2, .iaload, .iadd, .istore 1, .iinc 2 2, .goto 4, .iload 1, .ireturn]
def pr_Day_allPaid : List Instr := [.ldc 1, .istore 1, .ldc 1, .istore 2, .iload 2, .aload 0, .getfield 2, .getfield 451, .if_icmp .ge 18, .iload 1, .aload 0, .getfield 9, .iload 2, .iaload, .iadd, .istore 1, .iinc 2 2, .goto 4, .iload 1, .ireturn]
def pr_Day_howManySaid : List Instr := [.ldc 1, .istore 1, .ldc 1, .istore 2, .iload 2, .aload 0, .getfield 2, .getfield 451, .if_icmp .ge 18, .aload 0, .getfield 8, .iload 2, .iaload, .ldc 0, .if_icmp .eq 16, .iinc 1 2, .iinc 2 2, .goto 4, .iload 1, .ireturn]
def pr_Day_spread : List Instr := [.aload 0, .getfield 5, .ldc 1, .iaload, .istore 1, .aload 0, .getfield 5, .ldc 1, .iaload, .istore 2, .aload 0, .getfield 5, .astore 3, .aload 3, .arraylength, .istore 4, .ldc 1, .istore 5, .iload 5, .iload 4, .if_icmp .ge 35, .aload 3, .iload 5, .iaload, .istore 6, .iload 1, .iload 6, .invokedynamic 1, .istore 1, .iload 2, .iload 6, .invokedynamic 2, .istore 2, .iinc 5 2, .goto 18, .iload 1, .iload 2, .isub, .ireturn]
def pr_Day_firstUnlike : List Instr := [.ldc 1, .istore 2, .iload 2, .aload 0, .getfield 2, .getfield 451, .if_icmp .ge 29, .aload 0, .getfield 8, .iload 2, .iaload, .ldc 0, .if_icmp .ne 15, .ldc 0, .goto 19, .aload 0, .getfield 9, .iload 2, .iaload, .istore 3, .aload 1, .iload 2, .iaload, .iload 3, .if_icmp .eq 27, .iload 2, .ireturn, .iinc 2 2, .goto 2, .ldc 0, .ireturn]
def pr_Image_keepWriters : List Instr := [.aload 1, .getfield 448, .ldc 1, .aload 0, .getfield 68, .ldc 1, .ldc 6, .invokedynamic 0, .aload 1, .getfield 449, .ldc 1, .aload 0, .getfield 69, .ldc 1, .ldc 6, .invokedynamic 0, .aload 1, .getfield 450, .ldc 1, .aload 0, .getfield 70, .ldc 1, .ldc 6, .invokedynamic 0, .aload 0, .aload 1, .getfield 451, .putfield 71, .return_]
def pr_Image_restoreWriters : List Instr := [.aload 0, .getfield 68, .ldc 1, .aload 1, .getfield 448, .ldc 1, .ldc 6, .invokedynamic 0, .aload 0, .getfield 69, .ldc 1, .aload 1, .getfield 449, .ldc 1, .ldc 6, .invokedynamic 0, .aload 0, .getfield 70, .ldc 1, .aload 1, .getfield 450, .ldc 1, .ldc 6, .invokedynamic 0, .aload 1, .aload 0, .getfield 71, .putfield 451, .return_]
def pr_Image_keepLaws : List Instr := [.aload 1, .getfield 129, .ldc 1, .aload 0, .getfield 72, .ldc 1, .ldc 13, .invokedynamic 0, .aload 0, .aload 1, .getfield 130, .putfield 73, .aload 0, .aload 1, .getfield 131, .putfield 74, .return_]
def pr_Image_restoreLaws : List Instr := [.aload 0, .getfield 72, .ldc 1, .aload 1, .getfield 129, .ldc 1, .ldc 13, .invokedynamic 0, .aload 1, .aload 0, .getfield 73, .putfield 130, .aload 1, .aload 0, .getfield 74, .putfield 131, .return_]
def pr_Laws_add : List Instr := [.aload 0, .getfield 130, .ldc 13, .if_icmp .lt 6, .ldc 16, .ireturn, .aload 0, .getfield 128, .aload 0, .getfield 130, .iload 1, .iastore, .aload 0, .getfield 129, .aload 0, .getfield 130, .iload 2, .iastore, .aload 0, .dup, .getfield 130, .dup_x1, .ldc 2, .iadd, .putfield 130, .ireturn]
def pr_Laws_isUnder : List Instr := [.aload 0, .getfield 128, .iload 1, .iaload, .istore 3, .ldc 1, .istore 4, .iload 4, .ldc 13, .if_icmp .ge 24, .iload 3, .ldc 0, .if_icmp .eq 24, .iload 3, .iload 2, .if_icmp .ne 18, .ldc 2, .ireturn, .getstatic 0, .iload 3, .iaload, .istore 3, .iinc 4 2, .goto 7, .ldc 1, .ireturn]
def pr_Laws_price : List Instr := [.aload 0, .getfield 129, .iload 1, .iaload, .istore 4, .aload 0, .getfield 128, .iload 1, .iaload, .lookupswitch 49 #[(2, 10), (3, 14), (4, 20), (5, 28), (6, 39)], .iload 4, .iload 2, .invokestatic 150, .ireturn, .iload 2, .iload 4, .iadd, .ldc 3, .idiv, .ireturn, .iload 4, .iload 2, .iload 2, .ldc 4, .irem, .isub, .invokestatic 150, .ireturn, .iload 3, .ldc 13, .if_icmp .ge 33, .ldc 1, .goto 38, .iload 2, .iload 4, .iadd, .ldc 3, .idiv, .ireturn, .iload 4, .iload 2, .invokestatic 150, .iload 2, .ifCond .ne 46, .ldc 6, .goto 47, .ldc 1, .iadd, .ireturn, .iload 2, .iload 4, .iadd, .ireturn]
def pr_Laws_steep : List Instr := [.iload 1, .iload 0, .iadd, .iload 1, .iload 0, .ldc 2, .iadd, .imul, .iadd, .ireturn]
def pr_Laws_age : List Instr := [.aload 0, .getfield 128, .iload 1, .iaload, .ifCond .eq 11, .aload 0, .getfield 128, .iload 1, .iaload, .ldc 2, .if_icmp .ne 12, .return_, .ldc 1, .istore 3, .iload 3, .aload 2, .arraylength, .if_icmp .ge 31, .aload 2, .iload 3, .aload 0, .iload 1, .aload 2, .iload 3, .iaload, .invokevirtual 152, .ldc 1, .invokedynamic 1, .iastore, .iinc 3 2, .goto 14, .return_]
def pr_Laws_aged : List Instr := [.aload 0, .getfield 128, .iload 1, .iaload, .lookupswitch 26 #[(3, 5), (4, 12), (5, 5), (6, 16)], .iload 2, .aload 0, .getfield 129, .iload 1, .iaload, .isub, .ireturn, .iload 2, .ldc 2, .isub, .ireturn, .iload 2, .aload 0, .getfield 129, .iload 1, .iaload, .if_icmp .ge 24, .ldc 1, .goto 25, .iload 2, .ireturn, .iload 2, .ireturn]
def pr_Reader_append : List Instr := [.aload 0, .getfield 193, .ldc 28, .if_icmp .lt 6, .ldc 1, .ireturn, .aload 0, .getfield 192, .aload 0, .dup, .getfield 193, .dup_x1, .ldc 2, .iadd, .putfield 193, .iload 1, .iastore, .ldc 2, .ireturn]
def pr_Reader_load : List Instr := [.ldc 1, .istore 2, .iload 2, .aload 1, .invokevirtual 188, .if_icmp .ge 14, .aload 0, .aload 1, .iload 2, .invokevirtual 191, .invokevirtual 153, .pop, .iinc 2 2, .goto 2, .return_]
def pr_Reader_read : List Instr := [.aload 0, .ldc 1, .putfield 196, .aload 0, .ldc 0, .putfield 200, .aload 0, .ldc 1, .putfield 201, .aload 0, .invokevirtual 166, .ldc 1, .istore 1, .iload 1, .ldc 4, .if_icmp .ge 35, .aload 0, .ldc 58, .iload 1, .iadd, .invokevirtual 157, .aload 0, .ldc 1, .invokevirtual 159, .aload 0, .ldc 31, .invokevirtual 157, .aload 0, .getfield 195, .iload 1, .aload 0, .getfield 201, .iastore, .iinc 1 2, .goto 13, .aload 0, .ldc 1, .invokevirtual 157, .aload 0, .ldc 1, .putfield 193, .aload 0, .getfield 200, .ireturn]
def pr_Reader_refuse : List Instr := [.aload 0, .getfield 200, .ldc 0, .if_icmp .ne 8, .aload 0, .aload 0, .getfield 198, .putfield 200, .aload 0, .ldc 2, .putfield 197, .return_]
def pr_Reader_expect : List Instr := [.aload 0, .getfield 197, .iload 1, .if_icmp .ne 7, .aload 0, .invokevirtual 166, .goto 9, .aload 0, .invokevirtual 156, .return_]
def pr_Reader_emit : List Instr := [.aload 0, .getfield 201, .ldc 28, .if_icmp .ge 15, .aload 0, .getfield 194, .aload 0, .dup, .getfield 201, .dup_x1, .ldc 2, .iadd, .putfield 201, .iload 1, .iastore, .return_]
def pr_Reader_readE : List Instr := [.aload 0, .iload 1, .invokevirtual 160, .ldc 1, .istore 2, .iload 2, .ldc 28, .if_icmp .ge 22, .aload 0, .getfield 197, .ldc 59, .if_icmp .ne 22, .aload 0, .invokevirtual 166, .aload 0, .iload 1, .invokevirtual 160, .aload 0, .ldc 60, .invokevirtual 158, .iinc 2 2, .goto 5, .return_]
def pr_Reader_readAnd : List Instr := [.aload 0, .iload 1, .invokevirtual 161, .ldc 1, .istore 2, .iload 2, .ldc 28, .if_icmp .ge 22, .aload 0, .getfield 197, .ldc 61, .if_icmp .ne 22, .aload 0, .invokevirtual 166, .aload 0, .iload 1, .invokevirtual 161, .aload 0, .ldc 62, .invokevirtual 158, .iinc 2 2, .goto 5, .return_]
def pr_Reader_readNot : List Instr := [.aload 0, .getfield 197, .ldc 63, .if_icmp .eq 8, .aload 0, .iload 1, .invokevirtual 162, .goto 24, .iload 1, .ldc 6, .if_icmp .ge 22, .aload 0, .invokevirtual 166, .aload 0, .iload 1, .ldc 2, .iadd, .invokevirtual 161, .aload 0, .ldc 64, .invokevirtual 158, .goto 24, .aload 0, .invokevirtual 156, .return_]
def pr_Reader_readCompared : List Instr := [.aload 0, .iload 1, .invokevirtual 163, .aload 0, .getfield 197, .ldc 35, .if_icmp .eq 11, .aload 0, .getfield 197, .ldc 36, .if_icmp .ne 23, .aload 0, .getfield 197, .istore 2, .aload 0, .invokevirtual 166, .aload 0, .iload 1, .invokevirtual 163, .aload 0, .iload 2, .ineg, .invokevirtual 158, .return_]
def pr_Reader_readSum : List Instr := [.aload 0, .iload 1, .invokevirtual 164, .ldc 1, .istore 2, .iload 2, .ldc 28, .if_icmp .ge 30, .aload 0, .getfield 197, .ldc 32, .if_icmp .eq 16, .aload 0, .getfield 197, .ldc 33, .if_icmp .ne 30, .aload 0, .getfield 197, .istore 3, .aload 0, .invokevirtual 166, .aload 0, .iload 1, .invokevirtual 164, .aload 0, .iload 3, .ineg, .invokevirtual 158, .iinc 2 2, .goto 5, .return_]
def pr_Reader_readTerm : List Instr := [.aload 0, .iload 1, .invokevirtual 165, .ldc 1, .istore 2, .iload 2, .ldc 28, .if_icmp .ge 22, .aload 0, .getfield 197, .ldc 34, .if_icmp .ne 22, .aload 0, .invokevirtual 166, .aload 0, .iload 1, .invokevirtual 165, .aload 0, .ldc 65, .invokevirtual 158, .iinc 2 2, .goto 5, .return_]
def pr_Reader_readOne : List Instr := [.aload 0, .getfield 197, .ldc 3, .if_icmp .ne 11, .aload 0, .aload 0, .getfield 199, .invokevirtual 158, .aload 0, .invokevirtual 166, .goto 62, .aload 0, .getfield 197, .ldc 4, .if_icmp .ne 24, .aload 0, .ldc 0, .aload 0, .getfield 199, .isub, .invokevirtual 158, .aload 0, .invokevirtual 166, .goto 62, .aload 0, .getfield 197, .ldc 33, .if_icmp .ne 42, .iload 1, .ldc 6, .if_icmp .ge 42, .aload 0, .invokevirtual 166, .aload 0, .iload 1, .ldc 2, .iadd, .invokevirtual 165, .aload 0, .ldc 66, .invokevirtual 158, .goto 62, .aload 0, .getfield 197, .ldc 22, .if_icmp .ne 60, .iload 1, .ldc 6, .if_icmp .ge 60, .aload 0, .invokevirtual 166, .aload 0, .iload 1, .ldc 2, .iadd, .invokevirtual 159, .aload 0, .ldc 30, .invokevirtual 157, .goto 62, .aload 0, .invokevirtual 156, .return_]
def pr_Reader_next : List Instr := [.aload 0, .getfield 196, .aload 0, .getfield 193, .if_icmp .ge 19, .aload 0, .getfield 192, .aload 0, .getfield 196, .iaload, .invokestatic 170, .ifCond .eq 19, .aload 0, .dup, .getfield 196, .ldc 2, .iadd, .putfield 196, .goto 0, .aload 0, .aload 0, .getfield 196, .putfield 198, .aload 0, .getfield 196, .aload 0, .getfield 193, .if_icmp .lt 32, .aload 0, .ldc 1, .putfield 197, .goto 76, .aload 0, .getfield 192, .aload 0, .getfield 196, .iaload, .invokestatic 171, .ifCond .eq 42, .aload 0, .invokevirtual 167, .goto 76, .aload 0, .getfield 192, .aload 0, .getfield 196, .iaload, .invokestatic 172, .ifCond .eq 52, .aload 0, .invokevirtual 168, .goto 76, .aload 0, .ldc_w 70, .aload 0, .getfield 192, .aload 0, .getfield 196, .iaload, .i2c, .invokevirtual 193, .ifCond .lt 68, .aload 0, .getfield 192, .aload 0, .getfield 196, .iaload, .goto 69, .ldc 2, .putfield 197, .aload 0, .dup, .getfield 196, .ldc 2, .iadd, .putfield 196, .return_]
def pr_Reader_nextWord : List Instr := [.aload 0, .getfield 196, .aload 0, .getfield 193, .if_icmp .ge 19, .aload 0, .getfield 192, .aload 0, .getfield 196, .iaload, .invokestatic 171, .ifCond .eq 19, .aload 0, .dup, .getfield 196, .ldc 2, .iadd, .putfield 196, .goto 0, .aload 0, .invokevirtual 169, .istore 1, .iload 1, .ldc 0, .if_icmp .ne 29, .aload 0, .ldc 2, .putfield 197, .goto 46, .iload 1, .ldc 13, .if_icmp .ge 38, .aload 0, .ldc 58, .iload 1, .iadd, .putfield 197, .goto 46, .aload 0, .ldc 4, .putfield 197, .aload 0, .iload 1, .ldc 13, .isub, .putfield 199, .return_]
def pr_Reader_nextNumber : List Instr := [.aload 0, .ldc 1, .putfield 199, .aload 0, .getfield 196, .aload 0, .getfield 193, .if_icmp .ge 36, .aload 0, .getfield 192, .aload 0, .getfield 196, .iaload, .invokestatic 172, .ifCond .eq 36, .aload 0, .aload 0, .getfield 199, .ldc 27, .imul, .aload 0, .getfield 192, .aload 0, .getfield 196, .iaload, .iadd, .ldc 67, .isub, .putfield 199, .aload 0, .dup, .getfield 196, .ldc 2, .iadd, .putfield 196, .goto 3, .aload 0, .aload 0, .getfield 196, .aload 0, .getfield 198, .isub, .ldc 5, .if_icmp .gt 46, .ldc 3, .goto 47, .ldc 2, .putfield 197, .return_]
def pr_Reader_knownWord : List Instr := [.ldc 1, .istore 1, .aload 0, .getfield 198, .istore 2, .ldc 2, .istore 3, .ldc 1, .istore 4, .iload 4, .ldc_w 68, .invokevirtual 188, .if_icmp .ge 53, .ldc_w 68, .iload 4, .invokevirtual 191, .ldc 29, .if_icmp .ne 33, .iload 3, .ifCond .eq 26, .iload 2, .aload 0, .getfield 196, .if_icmp .ne 26, .iload 1, .ireturn, .iinc 1 2, .aload 0, .getfield 198, .istore 2, .ldc 2, .istore 3, .goto 51, .iload 3, .ifCond .eq 49, .iload 2, .aload 0, .getfield 196, .if_icmp .ge 49, .aload 0, .getfield 192, .iload 2, .iaload, .ldc_w 68, .iload 4, .invokevirtual 191, .if_icmp .ne 49, .iinc 2 2, .goto 51, .ldc 1, .istore 3, .iinc 4 2, .goto 9, .ldc 0, .ireturn]
def pr_Reader_isBlank : List Instr := [.iload 0, .ldc 29, .if_icmp .eq 6, .iload 0, .ldc 27, .if_icmp .ne 8, .ldc 2, .goto 9, .ldc 1, .ireturn]
def pr_Reader_isLetter : List Instr := [.iload 0, .ldc 50, .if_icmp .lt 8, .iload 0, .ldc 68, .if_icmp .gt 8, .ldc 2, .goto 9, .ldc 1, .ireturn]
def pr_Reader_isDigit : List Instr := [.iload 0, .ldc 67, .if_icmp .lt 8, .iload 0, .ldc 69, .if_icmp .gt 8, .ldc 2, .goto 9, .ldc 1, .ireturn]
def pr_Sheets_lay : List Instr := [.aload 0, .getfield 256, .iload 1, .iload 2, .iastore, .aload 0, .getfield 257, .iload 1, .iload 3, .iastore, .ldc 1, .istore 4, .iload 4, .ldc 22, .if_icmp .ge 24, .aload 0, .getfield 258, .iload 1, .aaload, .iload 4, .ldc 1, .iastore, .iinc 4 2, .goto 12, .return_]
def pr_Sheets_put : List Instr := [.aload 0, .getfield 256, .iload 1, .iaload, .ifCond .ne 14, .aload 0, .getfield 258, .iload 1, .aaload, .iload 2, .iload 3, .i2b, .iastore, .goto 36, .aload 0, .getfield 256, .iload 1, .iaload, .ldc 2, .if_icmp .ne 29, .aload 0, .getfield 258, .iload 1, .aaload, .iload 2, .iload 3, .i2s, .iastore, .goto 36, .aload 0, .getfield 258, .iload 1, .aaload, .iload 2, .iload 3, .iastore, .return_]
def pr_Sheets_hasRoom : List Instr := [.iload 2, .ifCond .lt 20, .iload 3, .ifCond .lt 20, .iload 3, .aload 0, .getfield 257, .iload 1, .iaload, .if_icmp .gt 20, .iload 2, .aload 0, .getfield 257, .iload 1, .iaload, .iload 3, .isub, .if_icmp .gt 20, .ldc 2, .goto 21, .ldc 1, .ireturn]
def pr_Texts_add : List Instr := [.aload 0, .getfield 324, .ldc 13, .if_icmp .lt 6, .ldc 16, .ireturn, .aload 1, .ldc 1, .aload 0, .getfield 320, .aload 0, .getfield 324, .aaload, .ldc 1, .ldc 28, .invokedynamic 0, .aload 2, .ldc 1, .aload 0, .getfield 321, .aload 0, .getfield 324, .aaload, .ldc 1, .ldc 4, .invokedynamic 0, .aload 0, .dup, .getfield 324, .dup_x1, .ldc 2, .iadd, .putfield 324, .ireturn]
def pr_Texts_adds : List Instr := [.aload 0, .iload 1, .iload 2, .iload 3, .ldc 1, .ldc 1, .ldc 1, .invokevirtual 180, .aload 0, .ldc 1, .invokevirtual 182, .ldc 53, .invokestatic 181, .ireturn]
def pr_Texts_worth : List Instr := [.aload 0, .ldc 1, .iload 1, .ldc 1, .iload 2, .iload 3, .iload 4, .invokevirtual 180, .aload 0, .ldc 2, .invokevirtual 182, .ldc 8, .invokestatic 181, .ireturn]
def pr_Texts_may : List Instr := [.aload 0, .ldc 1, .iload 1, .ldc 1, .iload 2, .iload 3, .iload 4, .invokevirtual 180, .aload 0, .ldc 3, .invokevirtual 182, .ifCond .eq 14, .ldc 2, .goto 15, .ldc 1, .ireturn]
def pr_Texts_tell : List Instr := [.aload 0, .getfield 322, .ldc 1, .iload 1, .iastore, .aload 0, .getfield 322, .ldc 2, .iload 2, .iastore, .aload 0, .getfield 322, .ldc 3, .iload 3, .iastore, .aload 0, .getfield 322, .ldc 4, .iload 4, .iastore, .aload 0, .getfield 322, .ldc 5, .iload 5, .iastore, .aload 0, .getfield 322, .ldc 6, .iload 6, .iastore, .return_]
def pr_Texts_bounded : List Instr := [.iload 0, .ifCond .ge 4, .ldc 1, .ireturn, .iload 0, .iload 1, .if_icmp .le 9, .iload 1, .goto 10, .iload 0, .ireturn]
def pr_Texts_valued : List Instr := [.aload 0, .getfield 320, .aload 0, .getfield 325, .aaload, .astore 2, .aload 0, .getfield 321, .aload 0, .getfield 325, .aaload, .iload 1, .iaload, .istore 3, .ldc 0, .istore 4, .iload 1, .ifCond .ne 20, .ldc 1, .goto 29, .aload 0, .getfield 321, .aload 0, .getfield 325, .aaload, .iload 1, .ldc 2, .isub, .iaload, .istore 5, .iload 5, .iload 3, .if_icmp .ge 184, .aload 2, .iload 5, .iaload, .istore 6, .iload 6, .ldc 70, .if_icmp .lt 61, .iload 4, .ldc 71, .if_icmp .lt 45, .ldc 1, .ireturn, .iinc 4 2, .aload 0, .getfield 323, .iload 4, .iload 6, .ifCond .lt 53, .iload 6, .goto 59, .aload 0, .getfield 322, .ldc 0, .iload 6, .isub, .iaload, .iastore, .goto 182, .iload 6, .ldc 66, .if_icmp .eq 67, .iload 6, .ldc 64, .if_icmp .ne 69, .ldc 2, .goto 70, .ldc 1, .istore 7, .iload 4, .iload 7, .ifCond .eq 76, .ldc 1, .goto 77, .ldc 2, .if_icmp .ge 80, .ldc 1, .ireturn, .aload 0, .getfield 323, .iload 4, .iaload, .istore 8, .iload 7, .ifCond .ne 88, .iinc 4 0, .aload 0, .getfield 323, .iload 4, .iaload, .istore 9, .iload 6, .ineg, .lookupswitch 176 #[(34, 112), (32, 96), (33, 104), (35, 120), (36, 131), (59, 154), (61, 142), (63, 166)], .aload 0, .getfield 323, .iload 4, .iload 9, .iload 8, .iadd, .iastore, .goto 182, .aload 0, .getfield 323, .iload 4, .iload 9, .iload 8, .isub, .iastore, .goto 182, .aload 0, .getfield 323, .iload 4, .iload 9, .iload 8, .imul, .iastore, .goto 182, .aload 0, .getfield 323, .iload 4, .iload 9, .iload 8, .if_icmp .ge 128, .ldc 2, .goto 129, .ldc 1, .iastore, .goto 182, .aload 0, .getfield 323, .iload 4, .iload 9, .iload 8, .if_icmp .ne 139, .ldc 2, .goto 140, .ldc 1, .iastore, .goto 182, .aload 0, .getfield 323, .iload 4, .iload 9, .ifCond .eq 151, .iload 8, .ifCond .eq 151, .ldc 2, .goto 152, .ldc 1, .iastore, .goto 182, .aload 0, .getfield 323, .iload 4, .iload 9, .ifCond .ne 161, .iload 8, .ifCond .eq 163, .ldc 2, .goto 164, .ldc 1, .iastore, .goto 182, .aload 0, .getfield 323, .iload 4, .iload 8, .ifCond .ne 173, .ldc 2, .goto 174, .ldc 1, .iastore, .goto 182, .aload 0, .getfield 323, .iload 4, .iload 8, .ineg, .iastore, .iinc 5 2, .goto 30, .aload 0, .getfield 323, .ldc 1, .iaload, .ireturn]
def pr_Words_lengthOf : List Instr := [.iload 0, .ldc 2, .if_icmp .lt 6, .iload 0, .ldc 72, .if_icmp .le 8, .ldc 1, .ireturn, .iload 0, .istore 1, .ldc 1, .istore 2, .ldc 1, .istore 3, .iload 3, .ldc 13, .if_icmp .ge 36, .iload 1, .ifCond .le 36, .iload 1, .ldc 27, .irem, .ldc 2, .isub, .ldc 14, .invokestatic 35, .ifCond .ne 29, .ldc 1, .ireturn, .iload 1, .ldc 27, .idiv, .istore 1, .iinc 2 2, .iinc 3 2, .goto 14, .iload 2, .ireturn]
def pr_Words_add : List Instr := [.aload 0, .getfield 387, .ldc 27, .if_icmp .lt 6, .ldc 16, .ireturn, .iload 2, .istore 3, .aload 0, .getfield 384, .aload 0, .getfield 387, .iload 1, .iastore, .aload 0, .getfield 385, .aload 0, .getfield 387, .iload 2, .invokestatic 183, .iastore, .aload 0, .getfield 385, .aload 0, .getfield 387, .iaload, .ldc 2, .isub, .istore 4, .iload 4, .ifCond .lt 49, .aload 0, .getfield 386, .aload 0, .getfield 387, .aaload, .iload 4, .iload 3, .ldc 27, .irem, .ldc 2, .isub, .iastore, .iload 3, .ldc 27, .idiv, .istore 3, .iinc 4 0, .goto 29, .aload 0, .dup, .getfield 387, .dup_x1, .ldc 2, .iadd, .putfield 387, .ireturn]
def pr_Words_usedAhead : List Instr := [.aload 0, .getfield 386, .iload 1, .aaload, .iload 2, .iaload, .istore 4, .aload 3, .iload 4, .iaload, .istore 5, .ldc 1, .istore 6, .iload 6, .iload 2, .if_icmp .ge 27, .aload 0, .getfield 386, .iload 1, .aaload, .iload 6, .iaload, .iload 4, .if_icmp .ne 25, .iinc 5 2, .iinc 6 2, .goto 13, .iload 5, .ldc 8, .invokedynamic 2, .ireturn]
def pr_Words_spend : List Instr := [.ldc 1, .istore 3, .iload 3, .aload 0, .getfield 385, .iload 1, .iaload, .if_icmp .ge 27, .aload 0, .getfield 386, .iload 1, .aaload, .iload 3, .iaload, .istore 4, .aload 2, .iload 4, .aload 2, .iload 4, .iaload, .ldc 2, .iadd, .ldc 8, .invokedynamic 2, .iastore, .iinc 3 2, .goto 2, .return_]
def pr_Writers_add : List Instr := [.iload 1, .ldc 4, .invokestatic 35, .ifCond .eq 12, .iload 2, .ldc 9, .invokestatic 35, .ifCond .eq 12, .iload 3, .ldc 10, .invokestatic 35, .ifCond .ne 14, .ldc 12, .ireturn, .aload 0, .getfield 451, .ldc 6, .if_icmp .lt 20, .ldc 16, .ireturn, .aload 0, .getfield 448, .aload 0, .getfield 451, .iload 1, .iastore, .aload 0, .getfield 449, .aload 0, .getfield 451, .iload 2, .iastore, .aload 0, .getfield 450, .aload 0, .getfield 451, .iload 3, .iastore, .aload 0, .dup, .getfield 451, .dup_x1, .ldc 2, .iadd, .putfield 451, .ireturn]
def pr_Str_length : List Instr := [.aload 0, .getfield 640, .arraylength, .aload 0, .invokevirtual 189, .ishr, .ireturn]
def pr_Str_coder : List Instr := [.getstatic 1, .ifCond .eq 5, .aload 0, .getfield 641, .goto 6, .ldc 2, .ireturn]
def pr_Str_isLatin1 : List Instr := [.getstatic 1, .ifCond .eq 7, .aload 0, .getfield 641, .ifCond .ne 7, .ldc 2, .goto 8, .ldc 1, .ireturn]
def pr_Str_charAt : List Instr := [.aload 0, .invokevirtual 190, .ifCond .eq 8, .aload 0, .getfield 640, .iload 1, .invokestatic 195, .ireturn, .aload 0, .getfield 640, .iload 1, .nop, .ireturn]
def pr_Str_checkIndex : List Instr := [.iload 0, .iload 1, .getstatic 2, .invokestatic 199, .pop, .return_]
def pr_Str_indexOf : List Instr := [.aload 0, .iload 1, .ldc 1, .invokevirtual 194, .ireturn]
def pr_Str_indexOf2 : List Instr := [.aload 0, .invokevirtual 190, .ifCond .eq 11, .aload 0, .getfield 640, .iload 1, .iload 2, .aload 0, .invokevirtual 188, .invokestatic 197, .goto 18, .aload 0, .getfield 640, .iload 1, .iload 2, .aload 0, .invokevirtual 188, .nop, .ireturn]
def pr_Lat_charAt : List Instr := [.iload 1, .aload 0, .arraylength, .invokestatic 192, .aload 0, .iload 1, .baload, .ldc 15, .iand, .i2c, .ireturn]
def pr_Lat_canEncode : List Instr := [.iload 0, .ifCond .lt 7, .iload 0, .ldc 15, .if_icmp .gt 7, .ldc 2, .goto 8, .ldc 1, .ireturn]
def pr_Lat_indexOf : List Instr := [.iload 1, .invokestatic 196, .ifCond .ne 5, .ldc 0, .ireturn, .iload 2, .ldc 1, .invokedynamic 1, .istore 2, .iload 3, .aload 0, .arraylength, .invokedynamic 2, .istore 3, .iload 2, .iload 3, .if_icmp .lt 19, .ldc 0, .ireturn, .aload 0, .iload 1, .iload 2, .iload 3, .invokestatic 198, .ireturn]
def pr_Lat_indexOfChar : List Instr := [.iload 1, .i2b, .istore 4, .iload 2, .istore 5, .iload 5, .iload 3, .if_icmp .ge 17, .aload 0, .iload 5, .baload, .iload 4, .if_icmp .ne 15, .iload 5, .ireturn, .iinc 5 2, .goto 5, .ldc 0, .ireturn]
def pr_Prec_checkIndex : List Instr := [.iload 0, .ifCond .lt 5, .iload 0, .iload 1, .if_icmp .lt 10, .aload 2, .iload 0, .iload 1, .nop, .nop, .iload 0, .ireturn]
abbrev y_X_set : Nat := 0
abbrev y_X_told : Nat := 1
abbrev y_X_word : Nat := 2
abbrev y_X_writer : Nat := 3
abbrev y_X_law : Nat := 4
abbrev y_X_rule : Nat := 5
abbrev y_X_feed : Nat := 6
abbrev y_X_text : Nat := 7
abbrev y_X_force : Nat := 8
abbrev y_X_costs : Nat := 9
abbrev y_X_write : Nat := 10
abbrev y_X_pass : Nat := 11
abbrev y_X_cheapest : Nat := 12
abbrev y_X_day : Nat := 13
abbrev y_X_all : Nat := 14
abbrev y_X_when : Nat := 15
abbrev y_X_choose : Nat := 16
abbrev y_X_rest : Nat := 17
abbrev y_X_turns : Nat := 18
abbrev y_X_burn : Nat := 19
abbrev y_X_worst : Nat := 20
abbrev y_X_best : Nat := 21
abbrev y_X_judge : Nat := 22
abbrev y_X_fits : Nat := 23
abbrev y_X_whose : Nat := 24
abbrev y_X_drawn : Nat := 25
abbrev y_X_chance : Nat := 26
abbrev y_X_image : Nat := 27
abbrev y_X_back : Nat := 28
abbrev y_X_count : Nat := 29
abbrev y_X_sheet : Nat := 30
abbrev y_X_cell : Nat := 31
abbrev y_X_copy : Nat := 32
abbrev y_X_writers : Nat := 33
abbrev y_X_taken : Nat := 34
abbrev y_X_within : Nat := 35
abbrev y_X_put : Nat := 36
abbrev y_X_item : Nat := 37
abbrev y_X_sum : Nat := 38
abbrev y_X_firstMost : Nat := 39
abbrev y_X_whoseHour : Nat := 40
abbrev y_X_isTurn : Nat := 41
abbrev y_X_digits : Nat := 42
abbrev y_X_commonDivisor : Nat := 43
abbrev y_X_refusalToJudge : Nat := 44
abbrev y_M_in : Nat := 45
abbrev y_M_within : Nat := 46
abbrev y_M_spell : Nat := 47
abbrev y_M_isWordNumber : Nat := 48
abbrev y_M_isWriter : Nat := 49
abbrev y_M_isLaw : Nat := 50
abbrev y_M_isOf : Nat := 51
abbrev y_M_set : Nat := 52
abbrev y_M_sizeOf : Nat := 53
abbrev y_M_told : Nat := 54
abbrev y_M_word : Nat := 55
abbrev y_M_writer : Nat := 56
abbrev y_M_law : Nat := 57
abbrev y_M_rule : Nat := 58
abbrev y_M_steep : Nat := 59
abbrev y_M_costBy : Nat := 60
abbrev y_M_agedBy : Nat := 61
abbrev y_M_feed : Nat := 62
abbrev y_M_byteAt : Nat := 63
abbrev y_M_next : Nat := 64
abbrev y_M_fail : Nat := 65
abbrev y_M_isLetter : Nat := 66
abbrev y_M_isWord : Nat := 67
abbrev y_M_isSign : Nat := 68
abbrev y_M_opens : Nat := 69
abbrev y_M_name : Nat := 70
abbrev y_M_atom : Nat := 71
abbrev y_M_term : Nat := 72
abbrev y_M_added : Nat := 73
abbrev y_M_not : Nat := 74
abbrev y_M_both : Nat := 75
abbrev y_M_either : Nat := 76
abbrev y_M_part : Nat := 77
abbrev y_M_read : Nat := 78
abbrev y_M_text : Nat := 79
abbrev y_M_force : Nat := 80
abbrev y_M_adds : Nat := 81
abbrev y_M_says : Nat := 82
abbrev y_M_keptRead : Nat := 83
abbrev y_M_takes : Nat := 84
abbrev y_M_writes : Nat := 85
abbrev y_M_costOf : Nat := 86
abbrev y_M_ages : Nat := 87
abbrev y_M_rowSum : Nat := 88
abbrev y_M_keeps : Nat := 89
abbrev y_M_costs : Nat := 90
abbrev y_M_write : Nat := 91
abbrev y_M_pass : Nat := 92
abbrev y_M_cheapest : Nat := 93
abbrev y_M_turnOf : Nat := 94
abbrev y_M_passesDay : Nat := 95
abbrev y_M_dayNow : Nat := 96
abbrev y_M_goodOf : Nat := 97
abbrev y_M_allGood : Nat := 98
abbrev y_M_saying : Nat := 99
abbrev y_M_day : Nat := 100
abbrev y_M_all : Nat := 101
abbrev y_M_seeks : Nat := 102
abbrev y_M_when : Nat := 103
abbrev y_M_choose : Nat := 104
abbrev y_M_rest : Nat := 105
abbrev y_M_orders : Nat := 106
abbrev y_M_turns : Nat := 107
abbrev y_M_burned : Nat := 108
abbrev y_M_burn : Nat := 109
abbrev y_M_worst : Nat := 110
abbrev y_M_best : Nat := 111
abbrev y_M_paidBad : Nat := 112
abbrev y_M_unlike : Nat := 113
abbrev y_M_judge : Nat := 114
abbrev y_M_fits : Nat := 115
abbrev y_M_whose : Nat := 116
abbrev y_M_draws : Nat := 117
abbrev y_M_drawn : Nat := 118
abbrev y_M_chance : Nat := 119
abbrev y_M_image : Nat := 120
abbrev y_M_back : Nat := 121
abbrev y_M_count : Nat := 122
abbrev y_M_isSheet : Nat := 123
abbrev y_M_sheet : Nat := 124
abbrev y_M_cell : Nat := 125
abbrev y_M_copy : Nat := 126
abbrev y_M_writers : Nat := 127
abbrev y_M_over : Nat := 128
abbrev y_M_taken : Nat := 129
abbrev y_Day_dawn : Nat := 130
abbrev y_Day_draw : Nat := 131
abbrev y_Day_live : Nat := 132
abbrev y_Day_liveTo : Nat := 133
abbrev y_Day_takeTurn : Nat := 134
abbrev y_Day_costOf : Nat := 135
abbrev y_Day_tryHours : Nat := 136
abbrev y_Day_goodIfBurned : Nat := 137
abbrev y_Day_allGood : Nat := 138
abbrev y_Day_allPaid : Nat := 139
abbrev y_Day_howManySaid : Nat := 140
abbrev y_Day_spread : Nat := 141
abbrev y_Day_firstUnlike : Nat := 142
abbrev y_Image_keepWriters : Nat := 143
abbrev y_Image_restoreWriters : Nat := 144
abbrev y_Image_keepLaws : Nat := 145
abbrev y_Image_restoreLaws : Nat := 146
abbrev y_Laws_add : Nat := 147
abbrev y_Laws_isUnder : Nat := 148
abbrev y_Laws_price : Nat := 149
abbrev y_Laws_steep : Nat := 150
abbrev y_Laws_age : Nat := 151
abbrev y_Laws_aged : Nat := 152
abbrev y_Reader_append : Nat := 153
abbrev y_Reader_load : Nat := 154
abbrev y_Reader_read : Nat := 155
abbrev y_Reader_refuse : Nat := 156
abbrev y_Reader_expect : Nat := 157
abbrev y_Reader_emit : Nat := 158
abbrev y_Reader_readE : Nat := 159
abbrev y_Reader_readAnd : Nat := 160
abbrev y_Reader_readNot : Nat := 161
abbrev y_Reader_readCompared : Nat := 162
abbrev y_Reader_readSum : Nat := 163
abbrev y_Reader_readTerm : Nat := 164
abbrev y_Reader_readOne : Nat := 165
abbrev y_Reader_next : Nat := 166
abbrev y_Reader_nextWord : Nat := 167
abbrev y_Reader_nextNumber : Nat := 168
abbrev y_Reader_knownWord : Nat := 169
abbrev y_Reader_isBlank : Nat := 170
abbrev y_Reader_isLetter : Nat := 171
abbrev y_Reader_isDigit : Nat := 172
abbrev y_Sheets_lay : Nat := 173
abbrev y_Sheets_put : Nat := 174
abbrev y_Sheets_hasRoom : Nat := 175
abbrev y_Texts_add : Nat := 176
abbrev y_Texts_adds : Nat := 177
abbrev y_Texts_worth : Nat := 178
abbrev y_Texts_may : Nat := 179
abbrev y_Texts_tell : Nat := 180
abbrev y_Texts_bounded : Nat := 181
abbrev y_Texts_valued : Nat := 182
abbrev y_Words_lengthOf : Nat := 183
abbrev y_Words_add : Nat := 184
abbrev y_Words_usedAhead : Nat := 185
abbrev y_Words_spend : Nat := 186
abbrev y_Writers_add : Nat := 187
abbrev y_Str_length : Nat := 188
abbrev y_Str_coder : Nat := 189
abbrev y_Str_isLatin1 : Nat := 190
abbrev y_Str_charAt : Nat := 191
abbrev y_Str_checkIndex : Nat := 192
abbrev y_Str_indexOf : Nat := 193
abbrev y_Str_indexOf2 : Nat := 194
abbrev y_Lat_charAt : Nat := 195
abbrev y_Lat_canEncode : Nat := 196
abbrev y_Lat_indexOf : Nat := 197
abbrev y_Lat_indexOfChar : Nat := 198
abbrev y_Prec_checkIndex : Nat := 199
def progL : List (List Instr) := [pr_X_set, pr_X_told, pr_X_word, pr_X_writer, pr_X_law, pr_X_rule, pr_X_feed, pr_X_text, pr_X_force, pr_X_costs, pr_X_write, pr_X_pass, pr_X_cheapest, pr_X_day, pr_X_all, pr_X_when, pr_X_choose, pr_X_rest, pr_X_turns, pr_X_burn, pr_X_worst, pr_X_best, pr_X_judge, pr_X_fits, pr_X_whose, pr_X_drawn, pr_X_chance, pr_X_image, pr_X_back, pr_X_count, pr_X_sheet, pr_X_cell, pr_X_copy, pr_X_writers, pr_X_taken, pr_X_within, pr_X_put, pr_X_item, pr_X_sum, pr_X_firstMost, pr_X_whoseHour, pr_X_isTurn, pr_X_digits, pr_X_commonDivisor, pr_X_refusalToJudge, pr_M_in, pr_M_within, pr_M_spell, pr_M_isWordNumber, pr_M_isWriter, pr_M_isLaw, pr_M_isOf, pr_M_set, pr_M_sizeOf, pr_M_told, pr_M_word, pr_M_writer, pr_M_law, pr_M_rule, pr_M_steep, pr_M_costBy, pr_M_agedBy, pr_M_feed, pr_M_byteAt, pr_M_next, pr_M_fail, pr_M_isLetter, pr_M_isWord, pr_M_isSign, pr_M_opens, pr_M_name, pr_M_atom, pr_M_term, pr_M_added, pr_M_not, pr_M_both, pr_M_either, pr_M_part, pr_M_read, pr_M_text, pr_M_force, pr_M_adds, pr_M_says, pr_M_keptRead, pr_M_takes, pr_M_writes, pr_M_costOf, pr_M_ages, pr_M_rowSum, pr_M_keeps, pr_M_costs, pr_M_write, pr_M_pass, pr_M_cheapest, pr_M_turnOf, pr_M_passesDay, pr_M_dayNow, pr_M_goodOf, pr_M_allGood, pr_M_saying, pr_M_day, pr_M_all, pr_M_seeks, pr_M_when, pr_M_choose, pr_M_rest, pr_M_orders, pr_M_turns, pr_M_burned, pr_M_burn, pr_M_worst, pr_M_best, pr_M_paidBad, pr_M_unlike, pr_M_judge, pr_M_fits, pr_M_whose, pr_M_draws, pr_M_drawn, pr_M_chance, pr_M_image, pr_M_back, pr_M_count, pr_M_isSheet, pr_M_sheet, pr_M_cell, pr_M_copy, pr_M_writers, pr_M_over, pr_M_taken, pr_Day_dawn, pr_Day_draw, pr_Day_live, pr_Day_liveTo, pr_Day_takeTurn, pr_Day_costOf, pr_Day_tryHours, pr_Day_goodIfBurned, pr_Day_allGood, pr_Day_allPaid, pr_Day_howManySaid, pr_Day_spread, pr_Day_firstUnlike, pr_Image_keepWriters, pr_Image_restoreWriters, pr_Image_keepLaws, pr_Image_restoreLaws, pr_Laws_add, pr_Laws_isUnder, pr_Laws_price, pr_Laws_steep, pr_Laws_age, pr_Laws_aged, pr_Reader_append, pr_Reader_load, pr_Reader_read, pr_Reader_refuse, pr_Reader_expect, pr_Reader_emit, pr_Reader_readE, pr_Reader_readAnd, pr_Reader_readNot, pr_Reader_readCompared, pr_Reader_readSum, pr_Reader_readTerm, pr_Reader_readOne, pr_Reader_next, pr_Reader_nextWord, pr_Reader_nextNumber, pr_Reader_knownWord, pr_Reader_isBlank, pr_Reader_isLetter, pr_Reader_isDigit, pr_Sheets_lay, pr_Sheets_put, pr_Sheets_hasRoom, pr_Texts_add, pr_Texts_adds, pr_Texts_worth, pr_Texts_may, pr_Texts_tell, pr_Texts_bounded, pr_Texts_valued, pr_Words_lengthOf, pr_Words_add, pr_Words_usedAhead, pr_Words_spend, pr_Writers_add, pr_Str_length, pr_Str_coder, pr_Str_isLatin1, pr_Str_charAt, pr_Str_checkIndex, pr_Str_indexOf, pr_Str_indexOf2, pr_Lat_charAt, pr_Lat_canEncode, pr_Lat_indexOf, pr_Lat_indexOfChar, pr_Prec_checkIndex]
def cK (n : Nat) : Int32 := nth 0 cKl n
def cL (n : Nat) : Int64 := nth 0 cLl n
def sK (n : Nat) : Value := nth .null sKl n
def prog (y : Nat) : List Instr := nth [] progL y
/-! ===== THE ABSTRACT MACHINE: methods over a memory of int cells (and long ones); a reference is the number of a cell ===== -/
abbrev Mem : Type := (Nat → Nat → Int32) × (Nat → Nat → Int64)
def wI (μ : Mem) (k : Nat) (g : Nat → Int32) : Mem := (fun a => if a = k then g else μ.1 a, μ.2)
def wL (μ : Mem) (k : Nat) (g : Nat → Int64) : Mem := (μ.1, fun a => if a = k then g else μ.2 a)
abbrev PP : Type := Nat → List Value → List Value → Mem → Prop
abbrev QQ : Type := Value → Mem → Prop
abbrev KK : Type := Nat → List Value → Mem → QQ → Prop
/-- a local that holds nothing -/
abbrev un : Value := .retAddr 0
def pI (st : List Value) (f : Int32 → List Value → Prop) : Prop := match st with
  | .int a :: r => f a r
  | _ => False
def pII (st : List Value) (f : Int32 → Int32 → List Value → Prop) : Prop := match st with
  | .int b :: .int a :: r => f a b r
  | _ => False
def pL (st : List Value) (f : Int64 → List Value → Prop) : Prop := match st with
  | .long a :: r => f a r
  | _ => False
def pLL (st : List Value) (f : Int64 → Int64 → List Value → Prop) : Prop := match st with
  | .long b :: .long a :: r => f a b r
  | _ => False
def pLI (st : List Value) (f : Int64 → Int32 → List Value → Prop) : Prop := match st with
  | .int b :: .long a :: r => f a b r
  | _ => False
def pR (st : List Value) (f : Nat → List Value → Prop) : Prop := match st with
  | .ref k :: r => f k r
  | _ => False
/-- array, index -/
def pRI (st : List Value) (f : Nat → Int32 → List Value → Prop) : Prop := match st with
  | .int i :: .ref k :: r => f k i r
  | _ => False
def pRII (st : List Value) (f : Nat → Int32 → Int32 → List Value → Prop) : Prop := match st with
  | .int v :: .int i :: .ref k :: r => f k i v r
  | _ => False
def pRIL (st : List Value) (f : Nat → Int32 → Int64 → List Value → Prop) : Prop := match st with
  | .long v :: .int i :: .ref k :: r => f k i v r
  | _ => False
def pIR' (st : List Value) (f : Nat → Int32 → List Value → Prop) : Prop := match st with
  | .int v :: .ref k :: r => f k v r
  | _ => False
def pLR' (st : List Value) (f : Nat → Int64 → List Value → Prop) : Prop := match st with
  | .long v :: .ref k :: r => f k v r
  | _ => False
def csum : List Value → Nat
  | [] => 0
  | v :: r => v.category + csum r
def isL : Value → Bool
  | .long _ => true
  | .double _ => true
  | _ => false
/-- the store at n spoils no long that begins at n - 1 -/
def okst (lv : List Value) : Nat → Bool
  | 0 => true
  | n + 1 => !isL (nth un lv n)
def cnd (c : Jvm.ClassFile.Cond) (a b : Int32) (A B : Prop) : Prop := match c with
  | .eq => (a = b → A) ∧ (¬ a = b → B)
  | .ne => (¬ a = b → A) ∧ (a = b → B)
  | .lt => (a < b → A) ∧ (¬ a < b → B)
  | .ge => (b ≤ a → A) ∧ (¬ b ≤ a → B)
  | .gt => (b < a → A) ∧ (¬ b < a → B)
  | .le => (a ≤ b → A) ∧ (¬ a ≤ b → B)
def swc (x : Int32) : List (Int × Int) → (Nat → Prop) → Nat → Prop
  | [], P, d => P d
  | (v, t) :: l, P, d => (x = cK v.toNat → P t.toNat) ∧ (¬ x = cK v.toNat → swc x l P d)
def ent : List Value → List Value
  | [] => []
  | .long v :: r => .long v :: un :: ent r
  | .double v :: r => .double v :: un :: ent r
  | v :: r => v :: ent r
def pad : Nat → List Value → List Value
  | 0, _ => []
  | n + 1, [] => un :: pad n []
  | n + 1, v :: r => v :: pad n r
def lay (sd k : Nat) : Nat × Nat × Nat := nth (9, 0, 0) (match sd with | 0 => layX | _ => layM) k
def ilen (sd k : Nat) : Nat := match lay sd k with
  | (1, n, _) => n
  | _ => 0
def wlen (sd k : Nat) : Nat := match lay sd k with
  | (1, n, 0) => n
  | _ => 0
def llen (sd k : Nat) : Nat := match lay sd k with
  | (2, n, _) => n
  | _ => 0
def zlen (sd k : Nat) : Nat := match lay sd k with
  | (3, n, _) => n
  | _ => 0
def blen (sd k : Nat) : Nat := match lay sd k with
  | (4, n, _) => n
  | _ => 0
def alen (sd k : Nat) : Nat := match lay sd k with
  | (5, n, _) => n
  | _ => 0
def achild (sd k : Nat) : Nat := match lay sd k with
  | (5, _, c) => c
  | _ => 0
/-- of a field: its sort (0 int, 1 boolean, 2 long, 3 a cell, 4 byte), the cell -/
def fld (sd k j : Nat) : Nat × Nat := nth (9, 0) (nth [] (match sd with | 0 => fldX | _ => fldM) k) j
def clsIs (sd k c : Nat) : Bool := match lay sd k with
  | (0, c', _) => Nat.beq c' c
  | _ => false
/-- of a method: its side, the class, words of locals, how many values it takes, its answer's type, 1 where it is static -/
def inf (y : Nat) : Nat × Nat × Nat × Nat × Option FieldType × Nat := nth (9, 0, 0, 0, none, 0) infL y
def ret1 (t : Option FieldType) (r : Value) (f : List Value → Prop) : Prop := match t with
  | none => f []
  | some .long => ∃ x : Int64, r = .long x ∧ f [.long x]
  | some _ => ∃ x : Int32, r = .int x ∧ f [.int x]
def call (K : KK) (sd y' : Nat) (vst : Bool) (i : Nat) (lv st : List Value) (μ : Mem) (P : PP) : Prop := match inf y' with
  | (sd', c, mx, n, t, s) => match (Nat.beq sd sd' && Nat.ble n st.length && Nat.ble (csum (st.drop n)) 8 && Nat.ble (csum (st.take n)) mx && (match vst with | true => Nat.beq s 1 | false => Nat.beq s 0 && (match nth un st (n - 1) with | .ref k => clsIs sd k c | _ => false))) with
    | true => K y' (st.take n).reverse μ (fun r μ' => ret1 t r (fun l => P (i + 1) lv (l ++ st.drop n) μ'))
    | false => False
def narOk (t : FieldType) (v : Int32) (A : Prop) : Prop := match t with
  | .int => A
  | _ => narrow t (.int v) = .int v ∧ A
def copy5 (sd i : Nat) (lv st : List Value) (μ : Mem) (P : PP) : Prop := match st with
  | .int n :: .int dp :: .ref b :: .int sp :: .ref a :: r => match Nat.ble (csum r) 8 with
    | false => False
    | true => (¬ sp < 0 ∧ ¬ dp < 0 ∧ ¬ n < 0 ∧ sp.toNatClampNeg + n.toNatClampNeg ≤ wlen sd a ∧ dp.toNatClampNeg + n.toNatClampNeg ≤ wlen sd b ∧ 0 < wlen sd a ∧ 0 < wlen sd b) ∧ ∀ μ' : Mem, μ' = wI μ b (va_cpy (μ.1 a) (μ.1 b) sp.toNatClampNeg dp.toNatClampNeg n.toNatClampNeg) → P (i + 1) lv r μ'
  | _ => False
def prim (sd n i : Nat) (lv st : List Value) (μ : Mem) (P : PP) : Prop := match n with
  | 0 => copy5 sd i lv st μ P
  | 1 => pII st (fun a b r => match Nat.ble (csum r) 8 with
    | false => False
    | true => P (i + 1) lv (.int (if a < b then b else a) :: r) μ)
  | 2 => pII st (fun a b r => match Nat.ble (csum r) 8 with
    | false => False
    | true => P (i + 1) lv (.int (if b < a then b else a) :: r) μ)
  | _ => False
def stp (sd : Nat) (rt : Option FieldType) (K : KK) (Q : QQ) (ins : Instr) (i : Nat) (lv st : List Value) (μ : Mem) (P : PP) : Prop := match ins with
  | .ldc n => P (i + 1) lv (.int (cK n) :: st) μ
  | .ldc2_w n => P (i + 1) lv (.long (cL n) :: st) μ
  | .ldc_w n => P (i + 1) lv (.ref n :: st) μ
  | .getstatic n => P (i + 1) lv (sK n :: st) μ
  | .iload n => match nth un lv n with
    | .int x => P (i + 1) lv (.int x :: st) μ
    | _ => False
  | .lload n => match nth un lv n with
    | .long x => P (i + 1) lv (.long x :: st) μ
    | _ => False
  | .aload n => match nth un lv n with
    | .ref x => P (i + 1) lv (.ref x :: st) μ
    | _ => False
  | .istore n => pI st (fun x r => match (okst lv n && Nat.blt n lv.length) with
    | true => P (i + 1) (lv.set n (.int x)) r μ
    | false => False)
  | .astore n => pR st (fun x r => match (okst lv n && Nat.blt n lv.length) with
    | true => P (i + 1) (lv.set n (.ref x)) r μ
    | false => False)
  | .lstore n => pL st (fun x r => match (okst lv n && Nat.blt (n + 1) lv.length) with
    | true => P (i + 1) ((lv.set n (.long x)).set (n + 1) un) r μ
    | false => False)
  | .iinc n c => match nth un lv n with
    | .int x => match (okst lv n && Nat.blt n lv.length) with
      | true => P (i + 1) (lv.set n (.int (x + cK c.toNat))) st μ
      | false => False
    | _ => False
  | .iadd => pII st (fun a b r => P (i + 1) lv (.int (a + b) :: r) μ)
  | .isub => pII st (fun a b r => P (i + 1) lv (.int (a - b) :: r) μ)
  | .imul => pII st (fun a b r => P (i + 1) lv (.int (a * b) :: r) μ)
  | .idiv => pII st (fun a b r => ¬ b = 0 ∧ P (i + 1) lv (.int (a / b) :: r) μ)
  | .irem => pII st (fun a b r => ¬ b = 0 ∧ P (i + 1) lv (.int (a - a / b * b) :: r) μ)
  | .ineg => pI st (fun a r => P (i + 1) lv (.int (-a) :: r) μ)
  | .iand => pII st (fun a b r => P (i + 1) lv (.int (a &&& b) :: r) μ)
  | .ior => pII st (fun a b r => P (i + 1) lv (.int (a ||| b) :: r) μ)
  | .ishl => pII st (fun a b r => P (i + 1) lv (.int (a <<< (b &&& 31)) :: r) μ)
  | .ishr => pII st (fun a b r => P (i + 1) lv (.int (a >>> (b &&& 31)) :: r) μ)
  | .iushr => pII st (fun a b r => P (i + 1) lv (.int (a.toUInt32 >>> (b.toUInt32 &&& Int32.toUInt32 31)).toInt32 :: r) μ)
  | .i2l => pI st (fun a r => P (i + 1) lv (.long a.toInt64 :: r) μ)
  | .l2i => pL st (fun a r => P (i + 1) lv (.int a.toInt32 :: r) μ)
  | .i2b => pI st (fun a r => P (i + 1) lv (.int a.toInt8.toInt32 :: r) μ)
  | .i2s => pI st (fun a r => P (i + 1) lv (.int a.toInt16.toInt32 :: r) μ)
  | .i2c => pI st (fun a r => P (i + 1) lv (.int (a.toUInt32 % 65536).toInt32 :: r) μ)
  | .ladd => pLL st (fun a b r => P (i + 1) lv (.long (a + b) :: r) μ)
  | .lsub => pLL st (fun a b r => P (i + 1) lv (.long (a - b) :: r) μ)
  | .lmul => pLL st (fun a b r => P (i + 1) lv (.long (a * b) :: r) μ)
  | .ldiv => pLL st (fun a b r => ¬ b = 0 ∧ P (i + 1) lv (.long (a / b) :: r) μ)
  | .lrem => pLL st (fun a b r => ¬ b = 0 ∧ P (i + 1) lv (.long (a - a / b * b) :: r) μ)
  | .lushr => pLI st (fun a b r => P (i + 1) lv (.long (a.toUInt64 >>> (b.toInt64.toUInt64 &&& Int64.toUInt64 63)).toInt64 :: r) μ)
  | .lcmp => pLL st (fun a b r => P (i + 1) lv (.int (lg_cmp a b) :: r) μ)
  | .dup => match st with
    | v :: r => match Nat.beq v.category 1 with
      | true => P (i + 1) lv (v :: v :: r) μ
      | false => False
    | _ => False
  | .dup_x1 => match st with
    | v :: w :: r => match (Nat.beq v.category 1 && Nat.beq w.category 1) with
      | true => P (i + 1) lv (v :: w :: v :: r) μ
      | false => False
    | _ => False
  | .pop => match st with
    | v :: r => match Nat.beq v.category 1 with
      | true => P (i + 1) lv r μ
      | false => False
    | _ => False
  | .ifCond c t => pI st (fun a r => cnd c a 0 (P t.toNat lv r μ) (P (i + 1) lv r μ))
  | .if_icmp c t => pII st (fun a b r => cnd c a b (P t.toNat lv r μ) (P (i + 1) lv r μ))
  | .goto t => P t.toNat lv st μ
  | .lookupswitch d ps => pI st (fun a r => swc a ps.toList (fun t => P t lv r μ) d.toNat)
  | .arraylength => pR st (fun k r => match lay sd k with
    | (0, _, _) => False
    | (9, _, _) => False
    | (_, n, _) => P (i + 1) lv (.int (Int32.ofNat n) :: r) μ)
  | .iaload => pRI st (fun k j r => vp_in j (ilen sd k) ∧ P (i + 1) lv (.int (μ.1 k j.toNatClampNeg) :: r) μ)
  | .iastore => pRII st (fun k j v r => vp_in j (wlen sd k) ∧ ∀ μ' : Mem, μ' = wI μ k (upd (μ.1 k) j.toNatClampNeg v) → P (i + 1) lv r μ')
  | .baload => pRI st (fun k j r => vp_in j (zlen sd k + blen sd k) ∧ P (i + 1) lv (.int (μ.1 k j.toNatClampNeg) :: r) μ)
  | .bastore => pRII st (fun k j v r => vp_in j (zlen sd k) ∧ ∀ μ' : Mem, μ' = wI μ k (upd (μ.1 k) j.toNatClampNeg (vp_nar .boolean v)) → P (i + 1) lv r μ')
  | .laload => pRI st (fun k j r => vp_in j (llen sd k) ∧ P (i + 1) lv (.long (μ.2 k j.toNatClampNeg) :: r) μ)
  | .lastore => pRIL st (fun k j v r => vp_in j (llen sd k) ∧ ∀ μ' : Mem, μ' = wL μ k (vp_updL (μ.2 k) j.toNatClampNeg v) → P (i + 1) lv r μ')
  | .aaload => pRI st (fun k j r => vp_in j (alen sd k) ∧ P (i + 1) lv (.ref (achild sd k + j.toNatClampNeg) :: r) μ)
  | .getfield n => pR st (fun k r => match clsIs sd k (n / 64) with
    | true => (match fld sd k (n % 64) with
      | (3, c) => P (i + 1) lv (.ref c :: r) μ
      | (2, _) => P (i + 1) lv (.long (μ.2 k (n % 64)) :: r) μ
      | (9, _) => False
      | _ => P (i + 1) lv (.int (μ.1 k (n % 64)) :: r) μ)
    | false => False)
  | .putfield n => match st with
    | .int v :: .ref k :: r => (match clsIs sd k (n / 64) with
      | true => (match fld sd k (n % 64) with
        | (0, _) => ∀ μ' : Mem, μ' = wI μ k (upd (μ.1 k) (n % 64) v) → P (i + 1) lv r μ'
        | (1, _) => narrow .boolean (.int v) = .int v ∧ ∀ μ' : Mem, μ' = wI μ k (upd (μ.1 k) (n % 64) v) → P (i + 1) lv r μ'
        | _ => False)
      | false => False)
    | .long v :: .ref k :: r => (match clsIs sd k (n / 64) with
      | true => (match fld sd k (n % 64) with
        | (2, _) => ∀ μ' : Mem, μ' = wL μ k (vp_updL (μ.2 k) (n % 64) v) → P (i + 1) lv r μ'
        | _ => False)
      | false => False)
    | _ => False
  | .invokestatic y => call K sd y true i lv st μ P
  | .invokevirtual y => call K sd y false i lv st μ P
  | .invokedynamic n => prim sd n i lv st μ P
  | .ireturn => match st, rt with
    | [.int v], some t => narOk t v (Q (.int v) μ)
    | _, _ => False
  | .lreturn => match st, rt with
    | [.long v], some .long => Q (.long v) μ
    | _, _ => False
  | .return_ => match st, rt with
    | [], none => Q .null μ
    | _, _ => False
  | _ => False
/-- the least that is closed under steps -/
def AA (K : KK) (y : Nat) (Q : QQ) (i : Nat) (lv st : List Value) (μ : Mem) : Prop :=
  ∀ P : PP, (∀ i lv st μ, stp (inf y).1 (inf y).2.2.2.2.1 K Q (nth .nop (prog y) i) i lv st μ P → P i lv st μ) → P i lv st μ
def Call : Nat → KK
  | 0 => fun _ _ _ _ => False
  | d + 1 => fun y args μ Q => AA (Call d) y Q 0 (pad (inf y).2.2.1 (ent args)) [] μ
def KMono (K : KK) : Prop := ∀ (y : Nat) (args : List Value) (μ : Mem) (Q Q' : QQ), (∀ r μ', Q r μ' → Q' r μ') → K y args μ Q → K y args μ Q'
theorem cnd_mono {c : Jvm.ClassFile.Cond} {a b : Int32} {A B A' B' : Prop} (hA : A → A') (hB : B → B') (h : cnd c a b A B) : cnd c a b A' B' := by
  cases c <;> exact ⟨fun x => by first | exact hA (h.1 x) | exact hB (h.1 x), fun x => by first | exact hB (h.2 x) | exact hA (h.2 x)⟩
theorem swc_mono {x : Int32} {P P' : Nat → Prop} (hP : ∀ t, P t → P' t) : ∀ (l : List (Int × Int)) (d : Nat), swc x l P d → swc x l P' d
  | [], d, h => hP d h
  | (v, t) :: l, d, h => ⟨fun e => hP _ (h.1 e), fun e => swc_mono hP l d (h.2 e)⟩
theorem ret1_mono {t : Option FieldType} {r : Value} {f g : List Value → Prop} (hf : ∀ l, f l → g l) (h : ret1 t r f) : ret1 t r g := by
  cases t with
  | none => exact hf _ h
  | some t =>
    cases t <;> (obtain ⟨x, e, h⟩ := h; exact ⟨x, e, hf _ h⟩)
theorem call_mono {K : KK} (hK : KMono K) {sd y' : Nat} {vst : Bool} {i : Nat} {lv st : List Value} {μ : Mem} {P P' : PP} (hP : ∀ i lv st μ, P i lv st μ → P' i lv st μ) (h : call K sd y' vst i lv st μ P) : call K sd y' vst i lv st μ P' := by
  unfold call at h ⊢
  split at h
  rename_i q1
  split at h
  · exact hK _ _ _ _ _ (fun r μ' hr => ret1_mono (fun l hl => hP _ _ _ _ hl) hr) h
  · exact h
theorem narOk_mono {t : FieldType} {v : Int32} {A B : Prop} (hAB : A → B) (h : narOk t v A) : narOk t v B := by
  unfold narOk at h ⊢
  cases t <;> first | exact hAB h | exact ⟨h.1, hAB h.2⟩
theorem pI_mono {st : List Value} {f g : Int32 → List Value → Prop} (hf : ∀ a r, f a r → g a r) (h : pI st f) : pI st g := by
  unfold pI at h ⊢; split at h <;> first | exact hf _ _ h | exact h.elim
theorem pII_mono {st : List Value} {f g : Int32 → Int32 → List Value → Prop} (hf : ∀ a b r, f a b r → g a b r) (h : pII st f) : pII st g := by
  unfold pII at h ⊢; split at h <;> first | exact hf _ _ _ h | exact h.elim
theorem pL_mono {st : List Value} {f g : Int64 → List Value → Prop} (hf : ∀ a r, f a r → g a r) (h : pL st f) : pL st g := by
  unfold pL at h ⊢; split at h <;> first | exact hf _ _ h | exact h.elim
theorem pLL_mono {st : List Value} {f g : Int64 → Int64 → List Value → Prop} (hf : ∀ a b r, f a b r → g a b r) (h : pLL st f) : pLL st g := by
  unfold pLL at h ⊢; split at h <;> first | exact hf _ _ _ h | exact h.elim
theorem pLI_mono {st : List Value} {f g : Int64 → Int32 → List Value → Prop} (hf : ∀ a b r, f a b r → g a b r) (h : pLI st f) : pLI st g := by
  unfold pLI at h ⊢; split at h <;> first | exact hf _ _ _ h | exact h.elim
theorem pR_mono {st : List Value} {f g : Nat → List Value → Prop} (hf : ∀ a r, f a r → g a r) (h : pR st f) : pR st g := by
  unfold pR at h ⊢; split at h <;> first | exact hf _ _ h | exact h.elim
theorem pRI_mono {st : List Value} {f g : Nat → Int32 → List Value → Prop} (hf : ∀ a b r, f a b r → g a b r) (h : pRI st f) : pRI st g := by
  unfold pRI at h ⊢; split at h <;> first | exact hf _ _ _ h | exact h.elim
theorem pRII_mono {st : List Value} {f g : Nat → Int32 → Int32 → List Value → Prop} (hf : ∀ a b c r, f a b c r → g a b c r) (h : pRII st f) : pRII st g := by
  unfold pRII at h ⊢; split at h <;> first | exact hf _ _ _ _ h | exact h.elim
theorem pRIL_mono {st : List Value} {f g : Nat → Int32 → Int64 → List Value → Prop} (hf : ∀ a b c r, f a b c r → g a b c r) (h : pRIL st f) : pRIL st g := by
  unfold pRIL at h ⊢; split at h <;> first | exact hf _ _ _ _ h | exact h.elim
theorem prim_mono {sd n i : Nat} {lv st : List Value} {μ : Mem} {P P' : PP} (hP : ∀ i lv st μ, P i lv st μ → P' i lv st μ) (h : prim sd n i lv st μ P) : prim sd n i lv st μ P' := by
  match n, h with
  | 0, h =>
    show copy5 sd i lv st μ P'
    have h : copy5 sd i lv st μ P := h
    unfold copy5 at h ⊢
    split at h <;> first | exact h.elim | (split at h <;> first | exact h.elim | exact ⟨h.1, fun m e => hP _ _ _ _ (h.2 m e)⟩)
  | 1, h => exact pII_mono (fun _ _ _ h => by split at h <;> first | exact h.elim | exact hP _ _ _ _ h) h
  | 2, h => exact pII_mono (fun _ _ _ h => by split at h <;> first | exact h.elim | exact hP _ _ _ _ h) h
  | n + 3, h => exact h.elim
set_option maxHeartbeats 4000000 in
theorem stp_mono {sd : Nat} {rt : Option FieldType} {K : KK} (hK : KMono K) {Q Q' : QQ} (hQ : ∀ r μ, Q r μ → Q' r μ) {P P' : PP} (hP : ∀ i lv st μ, P i lv st μ → P' i lv st μ) {ins : Instr} {i : Nat} {lv st : List Value} {μ : Mem} (h : stp sd rt K Q ins i lv st μ P) : stp sd rt K Q' ins i lv st μ P' := by
  unfold stp at h ⊢
  cases ins
  case ldc => exact hP _ _ _ _ h
  case ldc2_w => exact hP _ _ _ _ h
  case ldc_w => exact hP _ _ _ _ h
  case getstatic => exact hP _ _ _ _ h
  case iload => dsimp only at h ⊢; split at h <;> first | exact hP _ _ _ _ h | exact h.elim
  case lload => dsimp only at h ⊢; split at h <;> first | exact hP _ _ _ _ h | exact h.elim
  case aload => dsimp only at h ⊢; split at h <;> first | exact hP _ _ _ _ h | exact h.elim
  case istore => exact pI_mono (fun _ _ h => by split at h <;> first | exact hP _ _ _ _ h | exact h.elim) h
  case astore => exact pR_mono (fun _ _ h => by split at h <;> first | exact hP _ _ _ _ h | exact h.elim) h
  case lstore => exact pL_mono (fun _ _ h => by split at h <;> first | exact hP _ _ _ _ h | exact h.elim) h
  case iinc => dsimp only at h ⊢; split at h <;> first | exact h.elim | (split at h <;> first | exact hP _ _ _ _ h | exact h.elim)
  case iadd => exact pII_mono (fun _ _ _ h => hP _ _ _ _ h) h
  case isub => exact pII_mono (fun _ _ _ h => hP _ _ _ _ h) h
  case imul => exact pII_mono (fun _ _ _ h => hP _ _ _ _ h) h
  case idiv => exact pII_mono (fun _ _ _ h => ⟨h.1, hP _ _ _ _ h.2⟩) h
  case irem => exact pII_mono (fun _ _ _ h => ⟨h.1, hP _ _ _ _ h.2⟩) h
  case ineg => exact pI_mono (fun _ _ h => hP _ _ _ _ h) h
  case iand => exact pII_mono (fun _ _ _ h => hP _ _ _ _ h) h
  case ior => exact pII_mono (fun _ _ _ h => hP _ _ _ _ h) h
  case ishl => exact pII_mono (fun _ _ _ h => hP _ _ _ _ h) h
  case ishr => exact pII_mono (fun _ _ _ h => hP _ _ _ _ h) h
  case iushr => exact pII_mono (fun _ _ _ h => hP _ _ _ _ h) h
  case i2l => exact pI_mono (fun _ _ h => hP _ _ _ _ h) h
  case l2i => exact pL_mono (fun _ _ h => hP _ _ _ _ h) h
  case i2b => exact pI_mono (fun _ _ h => hP _ _ _ _ h) h
  case i2s => exact pI_mono (fun _ _ h => hP _ _ _ _ h) h
  case i2c => exact pI_mono (fun _ _ h => hP _ _ _ _ h) h
  case ladd => exact pLL_mono (fun _ _ _ h => hP _ _ _ _ h) h
  case lsub => exact pLL_mono (fun _ _ _ h => hP _ _ _ _ h) h
  case lmul => exact pLL_mono (fun _ _ _ h => hP _ _ _ _ h) h
  case ldiv => exact pLL_mono (fun _ _ _ h => ⟨h.1, hP _ _ _ _ h.2⟩) h
  case lrem => exact pLL_mono (fun _ _ _ h => ⟨h.1, hP _ _ _ _ h.2⟩) h
  case lushr => exact pLI_mono (fun _ _ _ h => hP _ _ _ _ h) h
  case lcmp => exact pLL_mono (fun _ _ _ h => hP _ _ _ _ h) h
  case dup => dsimp only at h ⊢; split at h <;> first | exact h.elim | (split at h <;> first | exact hP _ _ _ _ h | exact h.elim)
  case dup_x1 => dsimp only at h ⊢; split at h <;> first | exact h.elim | (split at h <;> first | exact hP _ _ _ _ h | exact h.elim)
  case pop => dsimp only at h ⊢; split at h <;> first | exact h.elim | (split at h <;> first | exact hP _ _ _ _ h | exact h.elim)
  case ifCond => exact pI_mono (fun _ _ h => cnd_mono (hP _ _ _ _) (hP _ _ _ _) h) h
  case if_icmp => exact pII_mono (fun _ _ _ h => cnd_mono (hP _ _ _ _) (hP _ _ _ _) h) h
  case goto => exact hP _ _ _ _ h
  case lookupswitch => exact pI_mono (fun _ _ h => swc_mono (fun t => hP _ _ _ _) _ _ h) h
  case arraylength => exact pR_mono (fun _ _ h => by split at h <;> first | exact h.elim | exact hP _ _ _ _ h) h
  case iaload => exact pRI_mono (fun _ _ _ h => ⟨h.1, hP _ _ _ _ h.2⟩) h
  case baload => exact pRI_mono (fun _ _ _ h => ⟨h.1, hP _ _ _ _ h.2⟩) h
  case laload => exact pRI_mono (fun _ _ _ h => ⟨h.1, hP _ _ _ _ h.2⟩) h
  case aaload => exact pRI_mono (fun _ _ _ h => ⟨h.1, hP _ _ _ _ h.2⟩) h
  case iastore => exact pRII_mono (fun _ _ _ _ h => ⟨h.1, fun m e => hP _ _ _ _ (h.2 m e)⟩) h
  case bastore => exact pRII_mono (fun _ _ _ _ h => ⟨h.1, fun m e => hP _ _ _ _ (h.2 m e)⟩) h
  case lastore => exact pRIL_mono (fun _ _ _ _ h => ⟨h.1, fun m e => hP _ _ _ _ (h.2 m e)⟩) h
  case getfield => exact pR_mono (fun _ _ h => by split at h <;> first | exact h.elim | (split at h <;> first | exact h.elim | exact hP _ _ _ _ h)) h
  case putfield =>
    dsimp only at h ⊢
    split at h
    · split at h
      · split at h
        · exact fun m e => hP _ _ _ _ (h m e)
        · exact ⟨h.1, fun m e => hP _ _ _ _ (h.2 m e)⟩
        · exact h.elim
      · exact h.elim
    · split at h
      · split at h
        · exact fun m e => hP _ _ _ _ (h m e)
        · exact h.elim
      · exact h.elim
    · exact h.elim
  case invokestatic => exact call_mono hK hP h
  case invokevirtual => exact call_mono hK hP h
  case invokedynamic => exact prim_mono hP h
  case ireturn => dsimp only at h ⊢; split at h <;> first | exact h.elim | exact narOk_mono (hQ _ _) h
  case lreturn => dsimp only at h ⊢; split at h <;> first | exact h.elim | exact hQ _ _ h
  case return_ => dsimp only at h ⊢; split at h <;> first | exact h.elim | exact hQ _ _ h
  all_goals exact h.elim
theorem AA_mono {K : KK} (hK : KMono K) {y : Nat} {Q Q' : QQ} (hQ : ∀ r μ, Q r μ → Q' r μ) {i : Nat} {lv st : List Value} {μ : Mem} (h : AA K y Q i lv st μ) : AA K y Q' i lv st μ := by
  intro P hP
  exact h P (fun i lv st μ hs => hP i lv st μ (stp_mono hK hQ (fun _ _ _ _ x => x) hs))
theorem Call_mono : ∀ d : Nat, KMono (Call d)
  | 0 => fun _ _ _ _ _ _ h => h
  | d + 1 => fun _ _ _ _ _ hQ h => AA_mono (Call_mono d) hQ h
theorem AA_step {K : KK} (hK : KMono K) {y : Nat} {Q : QQ} {i : Nat} {lv st : List Value} {μ : Mem} (h : stp (inf y).1 (inf y).2.2.2.2.1 K Q (nth .nop (prog y) i) i lv st μ (AA K y Q)) : AA K y Q i lv st μ := by
  intro P hP
  exact hP i lv st μ (stp_mono hK (fun _ _ x => x) (fun _ _ _ _ x => x P hP) h)
def memb (i : Nat) : List Nat → Bool
  | [] => false
  | a :: l => match Nat.beq a i with
    | true => true
    | false => memb i l
/-- a stretch of steps, up to the places where it stops -/
def go (sd : Nat) (rt : Option FieldType) (K : KK) (y : Nat) (Q : QQ) (code : List Instr) (stops : List Nat) : Nat → PP
  | 0 => AA K y Q
  | n + 1 => fun i lv st μ => stp sd rt K Q (nth .nop code i) i lv st μ (fun i' lv' st' μ' => match memb i' stops with
    | true => AA K y Q i' lv' st' μ'
    | false => go sd rt K y Q code stops n i' lv' st' μ')
theorem go_in' {y : Nat} {K : KK} (hK : KMono K) {Q : QQ} {code : List Instr} {stops : List Nat} {sd a b c f : Nat} {rt : Option FieldType} (hc : prog y = code) (hi : inf y = (sd, a, b, c, rt, f)) : ∀ (n i : Nat) (lv st : List Value) (μ : Mem), go sd rt K y Q code stops n i lv st μ → AA K y Q i lv st μ
  | 0, _, _, _, _, h => h
  | n + 1, i, lv, st, μ, h => by
    refine AA_step hK ?_
    rw [hc, hi]
    have h : stp sd rt K Q (nth .nop code i) i lv st μ (fun i' lv' st' μ' => match memb i' stops with
      | true => AA K y Q i' lv' st' μ'
      | false => go sd rt K y Q code stops n i' lv' st' μ') := h
    refine stp_mono hK (fun _ _ x => x) (fun i' lv' st' μ' x => ?_) h
    split at x
    · exact x
    · exact go_in' hK hc hi n i' lv' st' μ' x
theorem go_in {d y : Nat} {Q : QQ} {i : Nat} {lv st : List Value} {μ : Mem} (n : Nat) {code : List Instr} {stops : List Nat} {sd a b c f : Nat} {rt : Option FieldType} (hc : prog y = code) (hi : inf y = (sd, a, b, c, rt, f)) (h : go sd rt (Call d) y Q code stops n i lv st μ) : AA (Call d) y Q i lv st μ := go_in' (Call_mono d) hc hi n i lv st μ h
end
section
set_option maxRecDepth 20000 in
theorem b_M_in_0 {d : Nat} {Q : QQ} {μ : Mem} {a : Int64} {b : Int64} {c : Int64} (hNF : ((lg_cmp a b) < 0 → (narrow .boolean (.int 0) = .int 0 ∧ Q (.int 0) μ)) ∧
(¬ (lg_cmp a b) < 0 → (((0 : Int32) < (lg_cmp a c) → (narrow .boolean (.int 0) = .int 0 ∧ Q (.int 0) μ)) ∧
(¬ (0 : Int32) < (lg_cmp a c) → (narrow .boolean (.int 1) = .int 1 ∧ Q (.int 1) μ))))) : AA (Call d) y_M_in Q 0 [.long a, un, .long b, un, .long c, un] [] μ := go_in 11 (code := pr_M_in) (stops := []) rfl rfl hNF
set_option maxRecDepth 20000 in
theorem b_M_within_0 {d : Nat} {Q : QQ} {μ : Mem} {a : Int32} {b : Int32} {c : Int32} (hNF : (b ≤ a → ((a ≤ c → (Q (.int a) μ)) ∧
(¬ a ≤ c → (Q (.int c) μ)))) ∧
(¬ b ≤ a → (Q (.int b) μ))) : AA (Call d) y_M_within Q 0 [.int a, .int b, .int c] [] μ := go_in 9 (code := pr_M_within) (stops := []) rfl rfl hNF
set_option maxRecDepth 20000 in
theorem b_M_spell_0 {d : Nat} {Q : QQ} {μ : Mem} {a : Int32} {b : Int32} {c : Int32} {e : Int32} {f : Int32} {g : Int32} {u : Int32} {v : Int32} {w : Int32} (hNF : vp_in a 960 ∧ ∀ μ1 : Mem, μ1 = wI μ 1 (upd (μ.1 1) a.toNatClampNeg b) → (vp_in (a + 1) 960 ∧ ∀ μ2 : Mem, μ2 = wI μ1 1 (upd (μ1.1 1) (Int32.toNatClampNeg (a + 1)) c) → (vp_in (a + 2) 960 ∧ ∀ μ3 : Mem, μ3 = wI μ2 1 (upd (μ2.1 1) (Int32.toNatClampNeg (a + 2)) e) → (vp_in (a + 3) 960 ∧ ∀ μ4 : Mem, μ4 = wI μ3 1 (upd (μ3.1 1) (Int32.toNatClampNeg (a + 3)) f) → (vp_in (a + 4) 960 ∧ ∀ μ5 : Mem, μ5 = wI μ4 1 (upd (μ4.1 1) (Int32.toNatClampNeg (a + 4)) g) → (vp_in (a + 5) 960 ∧ ∀ μ6 : Mem, μ6 = wI μ5 1 (upd (μ5.1 1) (Int32.toNatClampNeg (a + 5)) u) → (vp_in (a + 6) 960 ∧ ∀ μ7 : Mem, μ7 = wI μ6 1 (upd (μ6.1 1) (Int32.toNatClampNeg (a + 6)) v) → (vp_in (a + 7) 960 ∧ ∀ μ8 : Mem, μ8 = wI μ7 1 (upd (μ7.1 1) (Int32.toNatClampNeg (a + 7)) w) → (Q .null μ8))))))))) : AA (Call d) y_M_spell Q 0 [.ref 0, .int a, .int b, .int c, .int e, .int f, .int g, .int u, .int v, .int w] [] μ := go_in 55 (code := pr_M_spell) (stops := []) rfl rfl hNF
set_option maxRecDepth 20000 in
theorem b_M_isWordNumber_0 {d : Nat} {Q : QQ} {μ : Mem} {a : Int32} (hNF : Call d y_M_in [.long (Int32.toInt64 a), .long 0, .long (Int32.toInt64 ((μ.1 0 10) - 1))] μ (fun ρ μ1 => ∃ r2 : Int32, ρ = .int r2 ∧ (narrow .boolean (.int r2) = .int r2 ∧ Q (.int r2) μ1))) : AA (Call d) y_M_isWordNumber Q 0 [.ref 0, .int a] [] μ := go_in 10 (code := pr_M_isWordNumber) (stops := []) rfl rfl hNF
set_option maxRecDepth 20000 in
theorem b_M_isWriter_0 {d : Nat} {Q : QQ} {μ : Mem} {a : Int32} (hNF : Call d y_M_in [.long (Int32.toInt64 a), .long 0, .long (Int32.toInt64 ((μ.1 0 14) - 1))] μ (fun ρ μ1 => ∃ r2 : Int32, ρ = .int r2 ∧ (narrow .boolean (.int r2) = .int r2 ∧ Q (.int r2) μ1))) : AA (Call d) y_M_isWriter Q 0 [.ref 0, .int a] [] μ := go_in 10 (code := pr_M_isWriter) (stops := []) rfl rfl hNF
set_option maxRecDepth 20000 in
theorem b_M_isLaw_0 {d : Nat} {Q : QQ} {μ : Mem} {a : Int32} (hNF : Call d y_M_in [.long (Int32.toInt64 a), .long 0, .long (Int32.toInt64 ((μ.1 0 17) - 1))] μ (fun ρ μ1 => ∃ r2 : Int32, ρ = .int r2 ∧ (narrow .boolean (.int r2) = .int r2 ∧ Q (.int r2) μ1))) : AA (Call d) y_M_isLaw Q 0 [.ref 0, .int a] [] μ := go_in 10 (code := pr_M_isLaw) (stops := []) rfl rfl hNF
set_option maxRecDepth 20000 in
theorem b_M_isOf_0 {d : Nat} {Q : QQ} {μ : Mem} {a : Int32} {b : Int32} (hNF : (¬ a = 0 → (((4 : Int32) ≤ a → (((6 : Int32) ≤ a → (Call d y_M_isWordNumber [.ref 0, .int b] μ (fun ρ μ1 => ∃ r2 : Int32, ρ = .int r2 ∧ (narrow .boolean (.int r2) = .int r2 ∧ Q (.int r2) μ1)))) ∧
(¬ (6 : Int32) ≤ a → (Call d y_M_isLaw [.ref 0, .int b] μ (fun ρ μ3 => ∃ r4 : Int32, ρ = .int r4 ∧ (narrow .boolean (.int r4) = .int r4 ∧ Q (.int r4) μ3)))))) ∧
(¬ (4 : Int32) ≤ a → (Call d y_M_isWriter [.ref 0, .int b] μ (fun ρ μ5 => ∃ r6 : Int32, ρ = .int r6 ∧ (narrow .boolean (.int r6) = .int r6 ∧ Q (.int r6) μ5)))))) ∧
(a = 0 → (Call d y_M_in [.long (Int32.toInt64 b), .long 0, .long 7] μ (fun ρ μ7 => ∃ r8 : Int32, ρ = .int r8 ∧ (narrow .boolean (.int r8) = .int r8 ∧ Q (.int r8) μ7))))) : AA (Call d) y_M_isOf Q 0 [.ref 0, .int a, .int b] [] μ := go_in 13 (code := pr_M_isOf) (stops := []) rfl rfl hNF
set_option maxRecDepth 20000 in
theorem b_M_set_0 {d : Nat} {Q : QQ} {μ : Mem} {a : Int32} {b : Int32} {c : Int32} (hNF : Call d y_M_in [.long (Int32.toInt64 a), .long 0, .long 4] μ (fun ρ μ1 => ∃ r2 : Int32, ρ = .int r2 ∧ ((r2 = 0 → (Q (.int (-2)) μ1)) ∧
(¬ r2 = 0 → (Call d y_M_isOf [.ref 0, .int a, .int b] μ1 (fun ρ μ3 => ∃ r4 : Int32, ρ = .int r4 ∧ ((r4 = 0 → (Q (.int (-2)) μ3)) ∧
(¬ r4 = 0 → ((¬ a = 0 → ((¬ a = 1 → ((¬ a = 2 → ((¬ a = 3 → (Call d y_M_in [.long (Int32.toInt64 c), .long 0, .long 9] μ3 (fun ρ μ5 => ∃ r6 : Int32, ρ = .int r6 ∧ ((¬ r6 = 0 → (Call d y_M_told [.ref 0, .int b, .int a] μ5 (fun ρ μ7 => ∃ r8 : Int32, ρ = .int r8 ∧ ((¬ a = 0 → ((¬ a = 1 → ((¬ a = 2 → ((¬ a = 3 → (vp_in b 6 ∧ ∀ μ9 : Mem, μ9 = wI μ7 11 (upd (μ7.1 11) b.toNatClampNeg c) → (Q (.int r8) μ9))) ∧
(a = 3 → (vp_in b 5 ∧ ∀ μ10 : Mem, μ10 = wI μ7 9 (upd (μ7.1 9) b.toNatClampNeg c) → (Q (.int r8) μ10))))) ∧
(a = 2 → (vp_in b 5 ∧ ∀ μ11 : Mem, μ11 = wI μ7 8 (upd (μ7.1 8) b.toNatClampNeg c) → (Q (.int r8) μ11))))) ∧
(a = 1 → (vp_in b 5 ∧ ∀ μ12 : Mem, μ12 = wI μ7 7 (upd (μ7.1 7) b.toNatClampNeg c) → (Q (.int r8) μ12))))) ∧
(a = 0 → (vp_in b 8 ∧ ∀ μ13 : Mem, μ13 = wI μ7 4 (upd (μ7.1 4) b.toNatClampNeg c) → (Q (.int r8) μ13))))))) ∧
(r6 = 0 → (Q (.int (-2)) μ5)))))) ∧
(a = 3 → (Call d y_M_in [.long (Int32.toInt64 c), .long 0, .long 9999] μ3 (fun ρ μ14 => ∃ r15 : Int32, ρ = .int r15 ∧ ((¬ r15 = 0 → (Call d y_M_told [.ref 0, .int b, .int a] μ14 (fun ρ μ16 => ∃ r17 : Int32, ρ = .int r17 ∧ ((¬ a = 0 → ((¬ a = 1 → ((¬ a = 2 → ((¬ a = 3 → (vp_in b 6 ∧ ∀ μ18 : Mem, μ18 = wI μ16 11 (upd (μ16.1 11) b.toNatClampNeg c) → (Q (.int r17) μ18))) ∧
(a = 3 → (vp_in b 5 ∧ ∀ μ19 : Mem, μ19 = wI μ16 9 (upd (μ16.1 9) b.toNatClampNeg c) → (Q (.int r17) μ19))))) ∧
(a = 2 → (vp_in b 5 ∧ ∀ μ20 : Mem, μ20 = wI μ16 8 (upd (μ16.1 8) b.toNatClampNeg c) → (Q (.int r17) μ20))))) ∧
(a = 1 → (vp_in b 5 ∧ ∀ μ21 : Mem, μ21 = wI μ16 7 (upd (μ16.1 7) b.toNatClampNeg c) → (Q (.int r17) μ21))))) ∧
(a = 0 → (vp_in b 8 ∧ ∀ μ22 : Mem, μ22 = wI μ16 4 (upd (μ16.1 4) b.toNatClampNeg c) → (Q (.int r17) μ22))))))) ∧
(r15 = 0 → (Q (.int (-2)) μ14)))))))) ∧
(a = 2 → (Call d y_M_in [.long (Int32.toInt64 c), .long 0, .long 23] μ3 (fun ρ μ23 => ∃ r24 : Int32, ρ = .int r24 ∧ ((¬ r24 = 0 → (Call d y_M_told [.ref 0, .int b, .int a] μ23 (fun ρ μ25 => ∃ r26 : Int32, ρ = .int r26 ∧ ((¬ a = 0 → ((¬ a = 1 → ((¬ a = 2 → ((¬ a = 3 → (vp_in b 6 ∧ ∀ μ27 : Mem, μ27 = wI μ25 11 (upd (μ25.1 11) b.toNatClampNeg c) → (Q (.int r26) μ27))) ∧
(a = 3 → (vp_in b 5 ∧ ∀ μ28 : Mem, μ28 = wI μ25 9 (upd (μ25.1 9) b.toNatClampNeg c) → (Q (.int r26) μ28))))) ∧
(a = 2 → (vp_in b 5 ∧ ∀ μ29 : Mem, μ29 = wI μ25 8 (upd (μ25.1 8) b.toNatClampNeg c) → (Q (.int r26) μ29))))) ∧
(a = 1 → (vp_in b 5 ∧ ∀ μ30 : Mem, μ30 = wI μ25 7 (upd (μ25.1 7) b.toNatClampNeg c) → (Q (.int r26) μ30))))) ∧
(a = 0 → (vp_in b 8 ∧ ∀ μ31 : Mem, μ31 = wI μ25 4 (upd (μ25.1 4) b.toNatClampNeg c) → (Q (.int r26) μ31))))))) ∧
(r24 = 0 → (Q (.int (-2)) μ23)))))))) ∧
(a = 1 → (Call d y_M_in [.long (Int32.toInt64 c), .long 0, .long 3] μ3 (fun ρ μ32 => ∃ r33 : Int32, ρ = .int r33 ∧ ((¬ r33 = 0 → (Call d y_M_told [.ref 0, .int b, .int a] μ32 (fun ρ μ34 => ∃ r35 : Int32, ρ = .int r35 ∧ ((¬ a = 0 → ((¬ a = 1 → ((¬ a = 2 → ((¬ a = 3 → (vp_in b 6 ∧ ∀ μ36 : Mem, μ36 = wI μ34 11 (upd (μ34.1 11) b.toNatClampNeg c) → (Q (.int r35) μ36))) ∧
(a = 3 → (vp_in b 5 ∧ ∀ μ37 : Mem, μ37 = wI μ34 9 (upd (μ34.1 9) b.toNatClampNeg c) → (Q (.int r35) μ37))))) ∧
(a = 2 → (vp_in b 5 ∧ ∀ μ38 : Mem, μ38 = wI μ34 8 (upd (μ34.1 8) b.toNatClampNeg c) → (Q (.int r35) μ38))))) ∧
(a = 1 → (vp_in b 5 ∧ ∀ μ39 : Mem, μ39 = wI μ34 7 (upd (μ34.1 7) b.toNatClampNeg c) → (Q (.int r35) μ39))))) ∧
(a = 0 → (vp_in b 8 ∧ ∀ μ40 : Mem, μ40 = wI μ34 4 (upd (μ34.1 4) b.toNatClampNeg c) → (Q (.int r35) μ40))))))) ∧
(r33 = 0 → (Q (.int (-2)) μ32)))))))) ∧
(a = 0 → (Call d y_M_in [.long (Int32.toInt64 c), .long 0, .long 999] μ3 (fun ρ μ41 => ∃ r42 : Int32, ρ = .int r42 ∧ ((¬ r42 = 0 → (Call d y_M_told [.ref 0, .int b, .int a] μ41 (fun ρ μ43 => ∃ r44 : Int32, ρ = .int r44 ∧ ((¬ a = 0 → ((¬ a = 1 → ((¬ a = 2 → ((¬ a = 3 → (vp_in b 6 ∧ ∀ μ45 : Mem, μ45 = wI μ43 11 (upd (μ43.1 11) b.toNatClampNeg c) → (Q (.int r44) μ45))) ∧
(a = 3 → (vp_in b 5 ∧ ∀ μ46 : Mem, μ46 = wI μ43 9 (upd (μ43.1 9) b.toNatClampNeg c) → (Q (.int r44) μ46))))) ∧
(a = 2 → (vp_in b 5 ∧ ∀ μ47 : Mem, μ47 = wI μ43 8 (upd (μ43.1 8) b.toNatClampNeg c) → (Q (.int r44) μ47))))) ∧
(a = 1 → (vp_in b 5 ∧ ∀ μ48 : Mem, μ48 = wI μ43 7 (upd (μ43.1 7) b.toNatClampNeg c) → (Q (.int r44) μ48))))) ∧
(a = 0 → (vp_in b 8 ∧ ∀ μ49 : Mem, μ49 = wI μ43 4 (upd (μ43.1 4) b.toNatClampNeg c) → (Q (.int r44) μ49))))))) ∧
(r42 = 0 → (Q (.int (-2)) μ41))))))))))))))) : AA (Call d) y_M_set Q 0 [.ref 0, .int a, .int b, .int c, un] [] μ := go_in 53 (code := pr_M_set) (stops := []) rfl rfl hNF
set_option maxRecDepth 20000 in
theorem b_M_sizeOf_0 {d : Nat} {Q : QQ} {μ : Mem} {a : Int32} (hNF : AA (Call d) y_M_sizeOf Q 4 [.int a, .int 0, .int a] [] μ) : AA (Call d) y_M_sizeOf Q 0 [.int a, un, un] [] μ := go_in 5 (code := pr_M_sizeOf) (stops := [4]) rfl rfl hNF
set_option maxRecDepth 20000 in
theorem b_M_sizeOf_4 {d : Nat} {Q : QQ} {μ : Mem} {l0 : Int32} {l1 : Int32} {l2 : Int32} (hNF : (l2 ≤ 0 → (Q (.int l1) μ)) ∧
(¬ l2 ≤ 0 → (¬ (10 : Int32) = 0 ∧ (AA (Call d) y_M_sizeOf Q 4 [.int l0, .int (l1 + 1), .int (l2 / 10)] [] μ)))) : AA (Call d) y_M_sizeOf Q 4 [.int l0, .int l1, .int l2] [] μ := go_in 9 (code := pr_M_sizeOf) (stops := [4]) rfl rfl hNF
set_option maxRecDepth 20000 in
theorem b_M_told_0 {d : Nat} {Q : QQ} {μ : Mem} {a : Int32} {b : Int32} (hNF : Call d y_M_in [.long (Int32.toInt64 b), .long 0, .long 7] μ (fun ρ μ1 => ∃ r2 : Int32, ρ = .int r2 ∧ ((r2 = 0 → (Q (.int (-2)) μ1)) ∧
(¬ r2 = 0 → (Call d y_M_isOf [.ref 0, .int b, .int a] μ1 (fun ρ μ3 => ∃ r4 : Int32, ρ = .int r4 ∧ ((¬ r4 = 0 → (((4 : Int32) ≤ b → (((6 : Int32) ≤ b → ((¬ b = 6 → (vp_in a 10 ∧ (Call d y_M_sizeOf [.int (μ3.1 6 a.toNatClampNeg)] μ3 (fun ρ μ5 => ∃ r6 : Int32, ρ = .int r6 ∧ (Q (.int r6) μ5))))) ∧
(b = 6 → (vp_in a 10 ∧ (Q (.int (μ3.1 5 a.toNatClampNeg)) μ3))))) ∧
(¬ (6 : Int32) ≤ b → ((¬ b = 4 → (vp_in a 6 ∧ (Q (.int (μ3.1 10 a.toNatClampNeg)) μ3))) ∧
(b = 4 → (vp_in a 6 ∧ (Q (.int (μ3.1 11 a.toNatClampNeg)) μ3))))))) ∧
(¬ (4 : Int32) ≤ b → ((¬ b = 0 → ((¬ b = 1 → ((¬ b = 2 → (vp_in a 5 ∧ (Q (.int (μ3.1 9 a.toNatClampNeg)) μ3))) ∧
(b = 2 → (vp_in a 5 ∧ (Q (.int (μ3.1 8 a.toNatClampNeg)) μ3))))) ∧
(b = 1 → (vp_in a 5 ∧ (Q (.int (μ3.1 7 a.toNatClampNeg)) μ3))))) ∧
(b = 0 → (vp_in a 8 ∧ (Q (.int (μ3.1 4 a.toNatClampNeg)) μ3))))))) ∧
(r4 = 0 → (Q (.int (-2)) μ3))))))))) : AA (Call d) y_M_told Q 0 [.ref 0, .int a, .int b] [] μ := go_in 28 (code := pr_M_told) (stops := []) rfl rfl hNF
set_option maxRecDepth 20000 in
theorem b_M_word_0 {d : Nat} {Q : QQ} {μ : Mem} {a : Int32} {b : Int32} (hNF : Call d y_M_in [.long (Int32.toInt64 a), .long 0, .long 3] μ (fun ρ μ1 => ∃ r2 : Int32, ρ = .int r2 ∧ ((r2 = 0 → (Q (.int (-2)) μ1)) ∧
(¬ r2 = 0 → (Call d y_M_in [.long (Int32.toInt64 b), .long 1, .long 888888] μ1 (fun ρ μ3 => ∃ r4 : Int32, ρ = .int r4 ∧ ((¬ r4 = 0 → (AA (Call d) y_M_word Q 16 [.ref 0, .int a, .int b, .int b] [] μ3)) ∧
(r4 = 0 → (Q (.int (-2)) μ3))))))))) : AA (Call d) y_M_word Q 0 [.ref 0, .int a, .int b, un] [] μ := go_in 15 (code := pr_M_word) (stops := [16]) rfl rfl hNF
set_option maxRecDepth 20000 in
theorem b_M_word_16 {d : Nat} {Q : QQ} {μ : Mem} {l1 : Int32} {l2 : Int32} {l3 : Int32} (hNF : (l3 ≤ 0 → ((¬ (μ.1 0 10) = 10 → (vp_in (μ.1 0 10) 10 ∧ ∀ μ1 : Mem, μ1 = wI μ 5 (upd (μ.1 5) (Int32.toNatClampNeg (μ.1 0 10)) l1) → (vp_in (μ1.1 0 10) 10 ∧ ∀ μ2 : Mem, μ2 = wI μ1 6 (upd (μ1.1 6) (Int32.toNatClampNeg (μ1.1 0 10)) l2) → (∀ μ3 : Mem, μ3 = wI μ2 0 (upd (μ2.1 0) 10 ((μ2.1 0 10) + 1)) → (Q (.int ((μ3.1 0 10) - 1)) μ3))))) ∧
((μ.1 0 10) = 10 → (Q (.int (-4)) μ)))) ∧
(¬ l3 ≤ 0 → (¬ (10 : Int32) = 0 ∧ (Call d y_M_in [.long (Int32.toInt64 (l3 - l3 / 10 * 10)), .long 1, .long 8] μ (fun ρ μ4 => ∃ r5 : Int32, ρ = .int r5 ∧ ((¬ r5 = 0 → (¬ (10 : Int32) = 0 ∧ (AA (Call d) y_M_word Q 16 [.ref 0, .int l1, .int l2, .int (l3 / 10)] [] μ4))) ∧
(r5 = 0 → (Q (.int (-2)) μ4)))))))) : AA (Call d) y_M_word Q 16 [.ref 0, .int l1, .int l2, .int l3] [] μ := go_in 29 (code := pr_M_word) (stops := [16]) rfl rfl hNF
set_option maxRecDepth 20000 in
theorem b_M_writer_0 {d : Nat} {Q : QQ} {μ : Mem} {a : Int32} {b : Int32} {c : Int32} (hNF : Call d y_M_in [.long (Int32.toInt64 a), .long 0, .long 3] μ (fun ρ μ1 => ∃ r2 : Int32, ρ = .int r2 ∧ ((r2 = 0 → (Q (.int (-2)) μ1)) ∧
(¬ r2 = 0 → (Call d y_M_in [.long (Int32.toInt64 b), .long 0, .long 23] μ1 (fun ρ μ3 => ∃ r4 : Int32, ρ = .int r4 ∧ ((r4 = 0 → (Q (.int (-2)) μ3)) ∧
(¬ r4 = 0 → (Call d y_M_in [.long (Int32.toInt64 c), .long 0, .long 9999] μ3 (fun ρ μ5 => ∃ r6 : Int32, ρ = .int r6 ∧ ((¬ r6 = 0 → ((¬ (μ5.1 0 14) = 5 → (vp_in (μ5.1 0 14) 5 ∧ ∀ μ7 : Mem, μ7 = wI μ5 7 (upd (μ5.1 7) (Int32.toNatClampNeg (μ5.1 0 14)) a) → (vp_in (μ7.1 0 14) 5 ∧ ∀ μ8 : Mem, μ8 = wI μ7 8 (upd (μ7.1 8) (Int32.toNatClampNeg (μ7.1 0 14)) b) → (vp_in (μ8.1 0 14) 5 ∧ ∀ μ9 : Mem, μ9 = wI μ8 9 (upd (μ8.1 9) (Int32.toNatClampNeg (μ8.1 0 14)) c) → (∀ μ10 : Mem, μ10 = wI μ9 0 (upd (μ9.1 0) 14 ((μ9.1 0 14) + 1)) → (Q (.int ((μ10.1 0 14) - 1)) μ10)))))) ∧
((μ5.1 0 14) = 5 → (Q (.int (-4)) μ5)))) ∧
(r6 = 0 → (Q (.int (-2)) μ5))))))))))))) : AA (Call d) y_M_writer Q 0 [.ref 0, .int a, .int b, .int c] [] μ := go_in 51 (code := pr_M_writer) (stops := []) rfl rfl hNF
set_option maxRecDepth 20000 in
theorem b_M_law_0 {d : Nat} {Q : QQ} {μ : Mem} {a : Int32} {b : Int32} (hNF : Call d y_M_in [.long (Int32.toInt64 a), .long 0, .long 5] μ (fun ρ μ1 => ∃ r2 : Int32, ρ = .int r2 ∧ ((r2 = 0 → (Q (.int (-2)) μ1)) ∧
(¬ r2 = 0 → (Call d y_M_in [.long (Int32.toInt64 b), .long 0, .long 9] μ1 (fun ρ μ3 => ∃ r4 : Int32, ρ = .int r4 ∧ ((¬ r4 = 0 → ((¬ (μ3.1 0 17) = 6 → (vp_in (μ3.1 0 17) 6 ∧ ∀ μ5 : Mem, μ5 = wI μ3 10 (upd (μ3.1 10) (Int32.toNatClampNeg (μ3.1 0 17)) a) → (vp_in (μ5.1 0 17) 6 ∧ ∀ μ6 : Mem, μ6 = wI μ5 11 (upd (μ5.1 11) (Int32.toNatClampNeg (μ5.1 0 17)) b) → (∀ μ7 : Mem, μ7 = wI μ6 0 (upd (μ6.1 0) 17 ((μ6.1 0 17) + 1)) → (Q (.int ((μ7.1 0 17) - 1)) μ7))))) ∧
((μ3.1 0 17) = 6 → (Q (.int (-4)) μ3)))) ∧
(r4 = 0 → (Q (.int (-2)) μ3))))))))) : AA (Call d) y_M_law Q 0 [.ref 0, .int a, .int b] [] μ := go_in 39 (code := pr_M_law) (stops := []) rfl rfl hNF
set_option maxRecDepth 20000 in
theorem b_M_rule_0 {d : Nat} {Q : QQ} {μ : Mem} {a : Int32} (hNF : Call d y_M_isLaw [.ref 0, .int a] μ (fun ρ μ1 => ∃ r2 : Int32, ρ = .int r2 ∧ ((¬ r2 = 0 → (∀ μ3 : Mem, μ3 = wI μ1 0 (upd (μ1.1 0) 18 a) → (Q (.int (μ1.1 0 18)) μ3))) ∧
(r2 = 0 → (Q (.int (-2)) μ1))))) : AA (Call d) y_M_rule Q 0 [.ref 0, .int a, un] [] μ := go_in 12 (code := pr_M_rule) (stops := []) rfl rfl hNF
set_option maxRecDepth 20000 in
theorem b_M_steep_0 {d : Nat} {Q : QQ} {μ : Mem} {a : Int32} {b : Int32} (hNF : Q (.int ((a + b) + (a * (b + 1)))) μ) : AA (Call d) y_M_steep Q 0 [.int a, .int b] [] μ := go_in 10 (code := pr_M_steep) (stops := []) rfl rfl hNF
set_option maxRecDepth 20000 in
theorem b_M_costBy_0 {d : Nat} {Q : QQ} {μ : Mem} {a : Int32} {b : Int32} (hNF : vp_in (μ.1 0 18) 6 ∧ (vp_in (μ.1 0 18) 6 ∧ ((¬ (μ.1 10 (Int32.toNatClampNeg (μ.1 0 18))) = 0 → (((μ.1 10 (Int32.toNatClampNeg (μ.1 0 18))) = 2 → ((¬ (μ.1 10 (Int32.toNatClampNeg (μ.1 0 18))) = 4 → (¬ (2 : Int32) = 0 ∧ (Q (.int ((a + (μ.1 11 (Int32.toNatClampNeg (μ.1 0 18)))) / 2)) μ))) ∧
((μ.1 10 (Int32.toNatClampNeg (μ.1 0 18))) = 4 → (((6 : Int32) ≤ b → (¬ (2 : Int32) = 0 ∧ (Q (.int ((a + (μ.1 11 (Int32.toNatClampNeg (μ.1 0 18)))) / 2)) μ))) ∧
(¬ (6 : Int32) ≤ b → (Q (.int 0) μ)))))) ∧
(¬ (μ.1 10 (Int32.toNatClampNeg (μ.1 0 18))) = 2 → ((¬ (μ.1 10 (Int32.toNatClampNeg (μ.1 0 18))) = 4 → ((¬ (μ.1 10 (Int32.toNatClampNeg (μ.1 0 18))) = 3 → (Call d y_M_steep [.int a, .int (μ.1 11 (Int32.toNatClampNeg (μ.1 0 18)))] μ (fun ρ μ1 => ∃ r2 : Int32, ρ = .int r2 ∧ ((¬ (μ.1 10 (Int32.toNatClampNeg (μ.1 0 18))) = 5 → (Q (.int (r2 + 0)) μ1)) ∧
((μ.1 10 (Int32.toNatClampNeg (μ.1 0 18))) = 5 → ((¬ a = 0 → (Q (.int (r2 + 0)) μ1)) ∧
(a = 0 → (Q (.int (r2 + 5)) μ1)))))))) ∧
((μ.1 10 (Int32.toNatClampNeg (μ.1 0 18))) = 3 → (¬ (3 : Int32) = 0 ∧ (Call d y_M_steep [.int (a - (a - a / 3 * 3)), .int (μ.1 11 (Int32.toNatClampNeg (μ.1 0 18)))] μ (fun ρ μ3 => ∃ r4 : Int32, ρ = .int r4 ∧ (Q (.int r4) μ3))))))) ∧
((μ.1 10 (Int32.toNatClampNeg (μ.1 0 18))) = 4 → ((¬ (μ.1 10 (Int32.toNatClampNeg (μ.1 0 18))) = 4 → (¬ (2 : Int32) = 0 ∧ (Q (.int ((a + (μ.1 11 (Int32.toNatClampNeg (μ.1 0 18)))) / 2)) μ))) ∧
((μ.1 10 (Int32.toNatClampNeg (μ.1 0 18))) = 4 → (((6 : Int32) ≤ b → (¬ (2 : Int32) = 0 ∧ (Q (.int ((a + (μ.1 11 (Int32.toNatClampNeg (μ.1 0 18)))) / 2)) μ))) ∧
(¬ (6 : Int32) ≤ b → (Q (.int 0) μ)))))))))) ∧
((μ.1 10 (Int32.toNatClampNeg (μ.1 0 18))) = 0 → (Q (.int (a + (μ.1 11 (Int32.toNatClampNeg (μ.1 0 18))))) μ))))) : AA (Call d) y_M_costBy Q 0 [.ref 0, .int a, .int b, un, un] [] μ := go_in 35 (code := pr_M_costBy) (stops := []) rfl rfl hNF
set_option maxRecDepth 20000 in
theorem b_M_agedBy_0 {d : Nat} {Q : QQ} {μ : Mem} {a : Int32} (hNF : vp_in (μ.1 0 18) 6 ∧ (vp_in (μ.1 0 18) 6 ∧ (((μ.1 10 (Int32.toNatClampNeg (μ.1 0 18))) = 2 → (((0 : Int32) ≤ (a - (μ.1 11 (Int32.toNatClampNeg (μ.1 0 18)))) → (Q (.int (a - (μ.1 11 (Int32.toNatClampNeg (μ.1 0 18))))) μ)) ∧
(¬ (0 : Int32) ≤ (a - (μ.1 11 (Int32.toNatClampNeg (μ.1 0 18)))) → (Q (.int 0) μ)))) ∧
(¬ (μ.1 10 (Int32.toNatClampNeg (μ.1 0 18))) = 2 → ((¬ (μ.1 10 (Int32.toNatClampNeg (μ.1 0 18))) = 4 → ((¬ (μ.1 10 (Int32.toNatClampNeg (μ.1 0 18))) = 3 → ((¬ (μ.1 10 (Int32.toNatClampNeg (μ.1 0 18))) = 5 → (((0 : Int32) ≤ a → (Q (.int a) μ)) ∧
(¬ (0 : Int32) ≤ a → (Q (.int 0) μ)))) ∧
((μ.1 10 (Int32.toNatClampNeg (μ.1 0 18))) = 5 → (((μ.1 11 (Int32.toNatClampNeg (μ.1 0 18))) ≤ a → (((0 : Int32) ≤ a → (Q (.int a) μ)) ∧
(¬ (0 : Int32) ≤ a → (Q (.int 0) μ)))) ∧
(¬ (μ.1 11 (Int32.toNatClampNeg (μ.1 0 18))) ≤ a → (((0 : Int32) ≤ (0 : Int32) → (Q (.int 0) μ)) ∧
(¬ (0 : Int32) ≤ (0 : Int32) → (Q (.int 0) μ)))))))) ∧
((μ.1 10 (Int32.toNatClampNeg (μ.1 0 18))) = 3 → (((0 : Int32) ≤ (a - 1) → (Q (.int (a - 1)) μ)) ∧
(¬ (0 : Int32) ≤ (a - 1) → (Q (.int 0) μ)))))) ∧
((μ.1 10 (Int32.toNatClampNeg (μ.1 0 18))) = 4 → (((0 : Int32) ≤ (a - (μ.1 11 (Int32.toNatClampNeg (μ.1 0 18)))) → (Q (.int (a - (μ.1 11 (Int32.toNatClampNeg (μ.1 0 18))))) μ)) ∧
(¬ (0 : Int32) ≤ (a - (μ.1 11 (Int32.toNatClampNeg (μ.1 0 18)))) → (Q (.int 0) μ))))))))) : AA (Call d) y_M_agedBy Q 0 [.ref 0, .int a, un, un, un] [] μ := go_in 35 (code := pr_M_agedBy) (stops := []) rfl rfl hNF
set_option maxRecDepth 20000 in
theorem b_M_feed_0 {d : Nat} {Q : QQ} {μ : Mem} {a : Int32} (hNF : Call d y_M_in [.long (Int32.toInt64 a), .long 0, .long 255] μ (fun ρ μ1 => ∃ r2 : Int32, ρ = .int r2 ∧ ((¬ r2 = 0 → ((¬ (μ1.1 0 6) = 160 → (vp_in (μ1.1 0 6) 160 ∧ ∀ μ3 : Mem, μ3 = wI μ1 3 (upd (μ1.1 3) (Int32.toNatClampNeg (μ1.1 0 6)) a) → (∀ μ4 : Mem, μ4 = wI μ3 0 (upd (μ3.1 0) 6 ((μ3.1 0 6) + 1)) → (Q (.int (μ4.1 0 6)) μ4)))) ∧
((μ1.1 0 6) = 160 → (Q (.int (-4)) μ1)))) ∧
(r2 = 0 → (Q (.int (-2)) μ1))))) : AA (Call d) y_M_feed Q 0 [.ref 0, .int a] [] μ := go_in 25 (code := pr_M_feed) (stops := []) rfl rfl hNF
set_option maxRecDepth 20000 in
theorem b_M_byteAt_0 {d : Nat} {Q : QQ} {μ : Mem} {a : Int32} (hNF : ((μ.1 0 26) ≤ a → (Q (.int (-1)) μ)) ∧
(¬ (μ.1 0 26) ≤ a → (vp_in ((μ.1 0 25) + a) 960 ∧ (Q (.int (μ.1 1 (Int32.toNatClampNeg ((μ.1 0 25) + a)))) μ)))) : AA (Call d) y_M_byteAt Q 0 [.ref 0, .int a] [] μ := go_in 13 (code := pr_M_byteAt) (stops := []) rfl rfl hNF
set_option maxRecDepth 20000 in
theorem b_M_next_0 {d : Nat} {Q : QQ} {μ : Mem} (hNF : Call d y_M_byteAt [.ref 0, .int (μ.1 0 27)] μ (fun ρ μ1 => ∃ r2 : Int32, ρ = .int r2 ∧ ((r2 = 32 → (∀ μ3 : Mem, μ3 = wI μ1 0 (upd (μ1.1 0) 27 ((μ1.1 0 27) + 1)) → (AA (Call d) y_M_next Q 0 [.ref 0, un, un] [] μ3))) ∧
(¬ r2 = 32 → (Call d y_M_byteAt [.ref 0, .int (μ1.1 0 27)] μ1 (fun ρ μ4 => ∃ r5 : Int32, ρ = .int r5 ∧ ((¬ r5 = 10 → (∀ μ6 : Mem, μ6 = wI μ4 0 (upd (μ4.1 0) 29 (μ4.1 0 27)) → (Call d y_M_byteAt [.ref 0, .int (μ6.1 0 27)] μ6 (fun ρ μ7 => ∃ r8 : Int32, ρ = .int r8 ∧ (∀ μ9 : Mem, μ9 = wI μ7 0 (upd (μ7.1 0) 28 4) → (((0 : Int32) ≤ r8 → (Call d y_M_in [.long (Int32.toInt64 r8), .long 97, .long 122] μ9 (fun ρ μ10 => ∃ r11 : Int32, ρ = .int r11 ∧ ((r11 = 0 → (Call d y_M_in [.long (Int32.toInt64 r8), .long 48, .long 57] μ10 (fun ρ μ12 => ∃ r13 : Int32, ρ = .int r13 ∧ ((r13 = 0 → ((r8 = 40 → (∀ μ14 : Mem, μ14 = wI μ12 0 (upd (μ12.1 0) 28 3) → (∀ μ15 : Mem, μ15 = wL μ14 0 (vp_updL (μ14.2 0) 30 (Int32.toInt64 r8)) → (∀ μ16 : Mem, μ16 = wI μ15 0 (upd (μ15.1 0) 27 ((μ15.1 0 27) + 1)) → (Q .null μ16))))) ∧
(¬ r8 = 40 → ((r8 = 41 → (∀ μ17 : Mem, μ17 = wI μ12 0 (upd (μ12.1 0) 28 3) → (∀ μ18 : Mem, μ18 = wL μ17 0 (vp_updL (μ17.2 0) 30 (Int32.toInt64 r8)) → (∀ μ19 : Mem, μ19 = wI μ18 0 (upd (μ18.1 0) 27 ((μ18.1 0 27) + 1)) → (Q .null μ19))))) ∧
(¬ r8 = 41 → ((r8 = 59 → (∀ μ20 : Mem, μ20 = wI μ12 0 (upd (μ12.1 0) 28 3) → (∀ μ21 : Mem, μ21 = wL μ20 0 (vp_updL (μ20.2 0) 30 (Int32.toInt64 r8)) → (∀ μ22 : Mem, μ22 = wI μ21 0 (upd (μ21.1 0) 27 ((μ21.1 0 27) + 1)) → (Q .null μ22))))) ∧
(¬ r8 = 59 → ((r8 = 43 → (∀ μ23 : Mem, μ23 = wI μ12 0 (upd (μ12.1 0) 28 3) → (∀ μ24 : Mem, μ24 = wL μ23 0 (vp_updL (μ23.2 0) 30 (Int32.toInt64 r8)) → (∀ μ25 : Mem, μ25 = wI μ24 0 (upd (μ24.1 0) 27 ((μ24.1 0 27) + 1)) → (Q .null μ25))))) ∧
(¬ r8 = 43 → ((r8 = 45 → (∀ μ26 : Mem, μ26 = wI μ12 0 (upd (μ12.1 0) 28 3) → (∀ μ27 : Mem, μ27 = wL μ26 0 (vp_updL (μ26.2 0) 30 (Int32.toInt64 r8)) → (∀ μ28 : Mem, μ28 = wI μ27 0 (upd (μ27.1 0) 27 ((μ27.1 0 27) + 1)) → (Q .null μ28))))) ∧
(¬ r8 = 45 → ((r8 = 42 → (∀ μ29 : Mem, μ29 = wI μ12 0 (upd (μ12.1 0) 28 3) → (∀ μ30 : Mem, μ30 = wL μ29 0 (vp_updL (μ29.2 0) 30 (Int32.toInt64 r8)) → (∀ μ31 : Mem, μ31 = wI μ30 0 (upd (μ30.1 0) 27 ((μ30.1 0 27) + 1)) → (Q .null μ31))))) ∧
(¬ r8 = 42 → ((r8 = 60 → (∀ μ32 : Mem, μ32 = wI μ12 0 (upd (μ12.1 0) 28 3) → (∀ μ33 : Mem, μ33 = wL μ32 0 (vp_updL (μ32.2 0) 30 (Int32.toInt64 r8)) → (∀ μ34 : Mem, μ34 = wI μ33 0 (upd (μ33.1 0) 27 ((μ33.1 0 27) + 1)) → (Q .null μ34))))) ∧
(¬ r8 = 60 → ((¬ r8 = 61 → (Q .null μ12)) ∧
(r8 = 61 → (∀ μ35 : Mem, μ35 = wI μ12 0 (upd (μ12.1 0) 28 3) → (∀ μ36 : Mem, μ36 = wL μ35 0 (vp_updL (μ35.2 0) 30 (Int32.toInt64 r8)) → (∀ μ37 : Mem, μ37 = wI μ36 0 (upd (μ36.1 0) 27 ((μ36.1 0 27) + 1)) → (Q .null μ37))))))))))))))))))))) ∧
(¬ r13 = 0 → (∀ μ38 : Mem, μ38 = wI μ12 0 (upd (μ12.1 0) 28 2) → (∀ μ39 : Mem, μ39 = wL μ38 0 (vp_updL (μ38.2 0) 30 0) → (AA (Call d) y_M_next Q 80 [.ref 0, .int r8, .int 0] [] μ39)))))))) ∧
(¬ r11 = 0 → (∀ μ40 : Mem, μ40 = wI μ10 0 (upd (μ10.1 0) 28 1) → (AA (Call d) y_M_next Q 50 [.ref 0, .int r8, un] [] μ40))))))) ∧
(¬ (0 : Int32) ≤ r8 → (∀ μ41 : Mem, μ41 = wI μ9 0 (upd (μ9.1 0) 28 0) → (∀ μ42 : Mem, μ42 = wI μ41 0 (upd (μ41.1 0) 29 (μ41.1 0 26)) → (Q .null μ42)))))))))) ∧
(r5 = 10 → (∀ μ43 : Mem, μ43 = wI μ4 0 (upd (μ4.1 0) 27 ((μ4.1 0 27) + 1)) → (AA (Call d) y_M_next Q 0 [.ref 0, un, un] [] μ43)))))))))) : AA (Call d) y_M_next Q 0 [.ref 0, un, un] [] μ := go_in 76 (code := pr_M_next) (stops := [0, 50, 80]) rfl rfl hNF
set_option maxRecDepth 20000 in
theorem b_M_next_50 {d : Nat} {Q : QQ} {μ : Mem} {l1 : Int32} (hNF : Call d y_M_byteAt [.ref 0, .int (μ.1 0 27)] μ (fun ρ μ1 => ∃ r2 : Int32, ρ = .int r2 ∧ (Call d y_M_in [.long (Int32.toInt64 r2), .long 97, .long 122] μ1 (fun ρ μ3 => ∃ r4 : Int32, ρ = .int r4 ∧ ((r4 = 0 → (Q .null μ3)) ∧
(¬ r4 = 0 → (∀ μ5 : Mem, μ5 = wI μ3 0 (upd (μ3.1 0) 27 ((μ3.1 0 27) + 1)) → (AA (Call d) y_M_next Q 50 [.ref 0, .int l1, un] [] μ5)))))))) : AA (Call d) y_M_next Q 50 [.ref 0, .int l1, un] [] μ := go_in 17 (code := pr_M_next) (stops := [0, 50, 80]) rfl rfl hNF
set_option maxRecDepth 20000 in
theorem b_M_next_80 {d : Nat} {Q : QQ} {μ : Mem} {l1 : Int32} {l2 : Int32} (hNF : Call d y_M_byteAt [.ref 0, .int (μ.1 0 27)] μ (fun ρ μ1 => ∃ r2 : Int32, ρ = .int r2 ∧ (Call d y_M_in [.long (Int32.toInt64 r2), .long 48, .long 57] μ1 (fun ρ μ3 => ∃ r4 : Int32, ρ = .int r4 ∧ ((r4 = 0 → ((l2 ≤ 4 → (∀ μ5 : Mem, μ5 = wI μ3 0 (upd (μ3.1 0) 28 2) → (Q .null μ5))) ∧
(¬ l2 ≤ 4 → (∀ μ6 : Mem, μ6 = wI μ3 0 (upd (μ3.1 0) 28 4) → (Q .null μ6))))) ∧
(¬ r4 = 0 → (((4 : Int32) ≤ l2 → (∀ μ7 : Mem, μ7 = wL μ3 0 (vp_updL (μ3.2 0) 30 (μ3.2 0 30)) → (∀ μ8 : Mem, μ8 = wI μ7 0 (upd (μ7.1 0) 27 ((μ7.1 0 27) + 1)) → (AA (Call d) y_M_next Q 80 [.ref 0, .int l1, .int (l2 + 1)] [] μ8)))) ∧
(¬ (4 : Int32) ≤ l2 → (Call d y_M_byteAt [.ref 0, .int (μ3.1 0 27)] μ3 (fun ρ μ9 => ∃ r10 : Int32, ρ = .int r10 ∧ (∀ μ11 : Mem, μ11 = wL μ9 0 (vp_updL (μ9.2 0) 30 (((10 * (μ3.2 0 30)) + (Int32.toInt64 r10)) - 48)) → (∀ μ12 : Mem, μ12 = wI μ11 0 (upd (μ11.1 0) 27 ((μ11.1 0 27) + 1)) → (AA (Call d) y_M_next Q 80 [.ref 0, .int l1, .int (l2 + 1)] [] μ12))))))))))))) : AA (Call d) y_M_next Q 80 [.ref 0, .int l1, .int l2] [] μ := go_in 36 (code := pr_M_next) (stops := [0, 50, 80]) rfl rfl hNF
set_option maxRecDepth 20000 in
theorem b_M_fail_0 {d : Nat} {Q : QQ} {μ : Mem} (hNF : (¬ (μ.1 0 32) = 0 → (Q .null μ)) ∧
((μ.1 0 32) = 0 → (narrow .boolean (.int 1) = .int 1 ∧ ∀ μ1 : Mem, μ1 = wI μ 0 (upd (μ.1 0) 32 1) → (∀ μ2 : Mem, μ2 = wI μ1 0 (upd (μ1.1 0) 33 (μ1.1 0 29)) → (Q .null μ2))))) : AA (Call d) y_M_fail Q 0 [.ref 0] [] μ := go_in 11 (code := pr_M_fail) (stops := []) rfl rfl hNF
set_option maxRecDepth 20000 in
theorem b_M_isLetter_0 {d : Nat} {Q : QQ} {μ : Mem} {a : Int32} {b : Int32} (hNF : ((μ.1 0 27) ≤ ((μ.1 0 29) + a) → ((¬ b = 0 → (narrow .boolean (.int 0) = .int 0 ∧ Q (.int 0) μ)) ∧
(b = 0 → (narrow .boolean (.int 1) = .int 1 ∧ Q (.int 1) μ)))) ∧
(¬ (μ.1 0 27) ≤ ((μ.1 0 29) + a) → (Call d y_M_byteAt [.ref 0, .int ((μ.1 0 29) + a)] μ (fun ρ μ1 => ∃ r2 : Int32, ρ = .int r2 ∧ ((¬ r2 = b → (narrow .boolean (.int 0) = .int 0 ∧ Q (.int 0) μ1)) ∧
(r2 = b → (narrow .boolean (.int 1) = .int 1 ∧ Q (.int 1) μ1))))))) : AA (Call d) y_M_isLetter Q 0 [.ref 0, .int a, .int b] [] μ := go_in 18 (code := pr_M_isLetter) (stops := []) rfl rfl hNF
set_option maxRecDepth 20000 in
theorem b_M_isWord_0 {d : Nat} {Q : QQ} {μ : Mem} {a : Int32} {b : Int32} {c : Int32} {e : Int32} {f : Int32} {g : Int32} {u : Int32} {v : Int32} (hNF : (¬ (μ.1 0 32) = 0 → (narrow .boolean (.int 0) = .int 0 ∧ Q (.int 0) μ)) ∧
((μ.1 0 32) = 0 → ((¬ (μ.1 0 28) = 1 → (narrow .boolean (.int 0) = .int 0 ∧ Q (.int 0) μ)) ∧
((μ.1 0 28) = 1 → ((((μ.1 0 29) + 8) < (μ.1 0 27) → (narrow .boolean (.int 0) = .int 0 ∧ Q (.int 0) μ)) ∧
(¬ ((μ.1 0 29) + 8) < (μ.1 0 27) → (Call d y_M_isLetter [.ref 0, .int 0, .int a] μ (fun ρ μ1 => ∃ r2 : Int32, ρ = .int r2 ∧ ((r2 = 0 → (narrow .boolean (.int 0) = .int 0 ∧ Q (.int 0) μ1)) ∧
(¬ r2 = 0 → (Call d y_M_isLetter [.ref 0, .int 1, .int b] μ1 (fun ρ μ3 => ∃ r4 : Int32, ρ = .int r4 ∧ ((r4 = 0 → (narrow .boolean (.int 0) = .int 0 ∧ Q (.int 0) μ3)) ∧
(¬ r4 = 0 → (Call d y_M_isLetter [.ref 0, .int 2, .int c] μ3 (fun ρ μ5 => ∃ r6 : Int32, ρ = .int r6 ∧ ((r6 = 0 → (narrow .boolean (.int 0) = .int 0 ∧ Q (.int 0) μ5)) ∧
(¬ r6 = 0 → (Call d y_M_isLetter [.ref 0, .int 3, .int e] μ5 (fun ρ μ7 => ∃ r8 : Int32, ρ = .int r8 ∧ ((r8 = 0 → (narrow .boolean (.int 0) = .int 0 ∧ Q (.int 0) μ7)) ∧
(¬ r8 = 0 → (Call d y_M_isLetter [.ref 0, .int 4, .int f] μ7 (fun ρ μ9 => ∃ r10 : Int32, ρ = .int r10 ∧ ((r10 = 0 → (narrow .boolean (.int 0) = .int 0 ∧ Q (.int 0) μ9)) ∧
(¬ r10 = 0 → (Call d y_M_isLetter [.ref 0, .int 5, .int g] μ9 (fun ρ μ11 => ∃ r12 : Int32, ρ = .int r12 ∧ ((r12 = 0 → (narrow .boolean (.int 0) = .int 0 ∧ Q (.int 0) μ11)) ∧
(¬ r12 = 0 → (Call d y_M_isLetter [.ref 0, .int 6, .int u] μ11 (fun ρ μ13 => ∃ r14 : Int32, ρ = .int r14 ∧ ((r14 = 0 → (narrow .boolean (.int 0) = .int 0 ∧ Q (.int 0) μ13)) ∧
(¬ r14 = 0 → (Call d y_M_isLetter [.ref 0, .int 7, .int v] μ13 (fun ρ μ15 => ∃ r16 : Int32, ρ = .int r16 ∧ ((r16 = 0 → (narrow .boolean (.int 0) = .int 0 ∧ Q (.int 0) μ15)) ∧
(¬ r16 = 0 → (narrow .boolean (.int 1) = .int 1 ∧ Q (.int 1) μ15))))))))))))))))))))))))))))))))))))))) : AA (Call d) y_M_isWord Q 0 [.ref 0, .int a, .int b, .int c, .int e, .int f, .int g, .int u, .int v] [] μ := go_in 57 (code := pr_M_isWord) (stops := []) rfl rfl hNF
set_option maxRecDepth 20000 in
theorem b_M_isSign_0 {d : Nat} {Q : QQ} {μ : Mem} {a : Int32} (hNF : (¬ (μ.1 0 32) = 0 → (narrow .boolean (.int 0) = .int 0 ∧ Q (.int 0) μ)) ∧
((μ.1 0 32) = 0 → ((¬ (μ.1 0 28) = 3 → (narrow .boolean (.int 0) = .int 0 ∧ Q (.int 0) μ)) ∧
((μ.1 0 28) = 3 → ((¬ (lg_cmp (μ.2 0 30) (Int32.toInt64 a)) = 0 → (narrow .boolean (.int 0) = .int 0 ∧ Q (.int 0) μ)) ∧
((lg_cmp (μ.2 0 30) (Int32.toInt64 a)) = 0 → (narrow .boolean (.int 1) = .int 1 ∧ Q (.int 1) μ))))))) : AA (Call d) y_M_isSign Q 0 [.ref 0, .int a] [] μ := go_in 16 (code := pr_M_isSign) (stops := []) rfl rfl hNF
set_option maxRecDepth 20000 in
theorem b_M_opens_0 {d : Nat} {Q : QQ} {μ : Mem} (hNF : (¬ (μ.1 0 31) = 5 → (∀ μ1 : Mem, μ1 = wI μ 0 (upd (μ.1 0) 31 ((μ.1 0 31) + 1)) → (Call d y_M_next [.ref 0] μ1 (fun _ μ2 => (narrow .boolean (.int 1) = .int 1 ∧ Q (.int 1) μ2))))) ∧
((μ.1 0 31) = 5 → (Call d y_M_fail [.ref 0] μ (fun _ μ3 => (narrow .boolean (.int 0) = .int 0 ∧ Q (.int 0) μ3))))) : AA (Call d) y_M_opens Q 0 [.ref 0] [] μ := go_in 14 (code := pr_M_opens) (stops := []) rfl rfl hNF
set_option maxRecDepth 20000 in
theorem b_M_name_0 {d : Nat} {Q : QQ} {μ : Mem} (hNF : Call d y_M_isWord [.ref 0, .int 117, .int 115, .int 101, .int 100, .int 0, .int 0, .int 0, .int 0] μ (fun ρ μ1 => ∃ r2 : Int32, ρ = .int r2 ∧ ((r2 = 0 → (Call d y_M_isWord [.ref 0, .int 104, .int 111, .int 117, .int 114, .int 0, .int 0, .int 0, .int 0] μ1 (fun ρ μ3 => ∃ r4 : Int32, ρ = .int r4 ∧ ((r4 = 0 → (Call d y_M_isWord [.ref 0, .int 108, .int 101, .int 116, .int 116, .int 101, .int 114, .int 0, .int 0] μ3 (fun ρ μ5 => ∃ r6 : Int32, ρ = .int r6 ∧ ((r6 = 0 → (Call d y_M_isWord [.ref 0, .int 108, .int 101, .int 110, .int 103, .int 116, .int 104, .int 0, .int 0] μ5 (fun ρ μ7 => ∃ r8 : Int32, ρ = .int r8 ∧ ((r8 = 0 → (Call d y_M_isWord [.ref 0, .int 112, .int 117, .int 114, .int 115, .int 101, .int 0, .int 0, .int 0] μ7 (fun ρ μ9 => ∃ r10 : Int32, ρ = .int r10 ∧ ((r10 = 0 → (Call d y_M_isWord [.ref 0, .int 109, .int 97, .int 110, .int 121, .int 0, .int 0, .int 0, .int 0] μ9 (fun ρ μ11 => ∃ r12 : Int32, ρ = .int r12 ∧ ((r12 = 0 → (Call d y_M_fail [.ref 0] μ11 (fun _ μ13 => (Q (.int 0) μ13)))) ∧
(¬ r12 = 0 → (Q (.int (μ11.1 0 24)) μ11)))))) ∧
(¬ r10 = 0 → (Q (.int (μ9.1 0 23)) μ9)))))) ∧
(¬ r8 = 0 → (Q (.int (μ7.1 0 22)) μ7)))))) ∧
(¬ r6 = 0 → (Q (.int (μ5.1 0 21)) μ5)))))) ∧
(¬ r4 = 0 → (Q (.int (μ3.1 0 20)) μ3)))))) ∧
(¬ r2 = 0 → (Q (.int (μ1.1 0 19)) μ1))))) : AA (Call d) y_M_name Q 0 [.ref 0] [] μ := go_in 70 (code := pr_M_name) (stops := []) rfl rfl hNF
set_option maxRecDepth 20000 in
theorem b_M_atom_0 {d : Nat} {Q : QQ} {μ : Mem} (hNF : Call d y_M_isSign [.ref 0, .int 45] μ (fun ρ μ1 => ∃ r2 : Int32, ρ = .int r2 ∧ ((r2 = 0 → (Call d y_M_isSign [.ref 0, .int 40] μ1 (fun ρ μ3 => ∃ r4 : Int32, ρ = .int r4 ∧ ((r4 = 0 → ((¬ (μ3.1 0 32) = 0 → ((¬ (μ3.1 0 32) = 0 → (Call d y_M_fail [.ref 0] μ3 (fun _ μ5 => (Q (.int 0) μ5)))) ∧
((μ3.1 0 32) = 0 → ((¬ (μ3.1 0 28) = 1 → (Call d y_M_fail [.ref 0] μ3 (fun _ μ6 => (Q (.int 0) μ6)))) ∧
((μ3.1 0 28) = 1 → (Call d y_M_name [.ref 0] μ3 (fun ρ μ7 => ∃ r8 : Int32, ρ = .int r8 ∧ ((¬ (μ7.1 0 32) = 0 → (Q (.int r8) μ7)) ∧
((μ7.1 0 32) = 0 → (Call d y_M_next [.ref 0] μ7 (fun _ μ9 => (Q (.int r8) μ9)))))))))))) ∧
((μ3.1 0 32) = 0 → ((¬ (μ3.1 0 28) = 2 → ((¬ (μ3.1 0 32) = 0 → (Call d y_M_fail [.ref 0] μ3 (fun _ μ10 => (Q (.int 0) μ10)))) ∧
((μ3.1 0 32) = 0 → ((¬ (μ3.1 0 28) = 1 → (Call d y_M_fail [.ref 0] μ3 (fun _ μ11 => (Q (.int 0) μ11)))) ∧
((μ3.1 0 28) = 1 → (Call d y_M_name [.ref 0] μ3 (fun ρ μ12 => ∃ r13 : Int32, ρ = .int r13 ∧ ((¬ (μ12.1 0 32) = 0 → (Q (.int r13) μ12)) ∧
((μ12.1 0 32) = 0 → (Call d y_M_next [.ref 0] μ12 (fun _ μ14 => (Q (.int r13) μ14)))))))))))) ∧
((μ3.1 0 28) = 2 → (Call d y_M_next [.ref 0] μ3 (fun _ μ15 => (Q (.int (Int64.toInt32 (μ3.2 0 30))) μ15)))))))) ∧
(¬ r4 = 0 → (Call d y_M_opens [.ref 0] μ3 (fun ρ μ16 => ∃ r17 : Int32, ρ = .int r17 ∧ ((r17 = 0 → (Q (.int 0) μ16)) ∧
(¬ r17 = 0 → (Call d y_M_either [.ref 0] μ16 (fun ρ μ18 => ∃ r19 : Int32, ρ = .int r19 ∧ (Call d y_M_isSign [.ref 0, .int 41] μ18 (fun ρ μ20 => ∃ r21 : Int32, ρ = .int r21 ∧ ((¬ r21 = 0 → (∀ μ22 : Mem, μ22 = wI μ20 0 (upd (μ20.1 0) 31 ((μ20.1 0 31) - 1)) → ((¬ (μ22.1 0 32) = 0 → (Q (.int r19) μ22)) ∧
((μ22.1 0 32) = 0 → (Call d y_M_next [.ref 0] μ22 (fun _ μ23 => (Q (.int r19) μ23))))))) ∧
(r21 = 0 → (Call d y_M_fail [.ref 0] μ20 (fun _ μ24 => (∀ μ25 : Mem, μ25 = wI μ24 0 (upd (μ24.1 0) 31 ((μ24.1 0 31) - 1)) → ((¬ (μ25.1 0 32) = 0 → (Q (.int r19) μ25)) ∧
((μ25.1 0 32) = 0 → (Call d y_M_next [.ref 0] μ25 (fun _ μ26 => (Q (.int r19) μ26))))))))))))))))))))))) ∧
(¬ r2 = 0 → (Call d y_M_opens [.ref 0] μ1 (fun ρ μ27 => ∃ r28 : Int32, ρ = .int r28 ∧ ((r28 = 0 → (Q (.int 0) μ27)) ∧
(¬ r28 = 0 → (Call d y_M_atom [.ref 0] μ27 (fun ρ μ29 => ∃ r30 : Int32, ρ = .int r30 ∧ (∀ μ31 : Mem, μ31 = wI μ29 0 (upd (μ29.1 0) 31 ((μ29.1 0 31) - 1)) → (Q (.int (-r30)) μ31)))))))))))) : AA (Call d) y_M_atom Q 0 [.ref 0, un] [] μ := go_in 36 (code := pr_M_atom) (stops := []) rfl rfl hNF
set_option maxRecDepth 20000 in
theorem b_M_term_0 {d : Nat} {Q : QQ} {μ : Mem} (hNF : Call d y_M_atom [.ref 0] μ (fun ρ μ1 => ∃ r2 : Int32, ρ = .int r2 ∧ (AA (Call d) y_M_term Q 3 [.ref 0, .int r2] [] μ1))) : AA (Call d) y_M_term Q 0 [.ref 0, un] [] μ := go_in 4 (code := pr_M_term) (stops := [3]) rfl rfl hNF
set_option maxRecDepth 20000 in
theorem b_M_term_3 {d : Nat} {Q : QQ} {μ : Mem} {l1 : Int32} (hNF : Call d y_M_isSign [.ref 0, .int 42] μ (fun ρ μ1 => ∃ r2 : Int32, ρ = .int r2 ∧ ((r2 = 0 → (Q (.int l1) μ1)) ∧
(¬ r2 = 0 → (Call d y_M_next [.ref 0] μ1 (fun _ μ3 => (Call d y_M_atom [.ref 0] μ3 (fun ρ μ4 => ∃ r5 : Int32, ρ = .int r5 ∧ (AA (Call d) y_M_term Q 3 [.ref 0, .int (l1 * r5)] [] μ4))))))))) : AA (Call d) y_M_term Q 3 [.ref 0, .int l1] [] μ := go_in 13 (code := pr_M_term) (stops := [3]) rfl rfl hNF
set_option maxRecDepth 20000 in
theorem b_M_added_0 {d : Nat} {Q : QQ} {μ : Mem} (hNF : Call d y_M_term [.ref 0] μ (fun ρ μ1 => ∃ r2 : Int32, ρ = .int r2 ∧ (AA (Call d) y_M_added Q 3 [.ref 0, .int r2, un, un] [] μ1))) : AA (Call d) y_M_added Q 0 [.ref 0, un, un, un] [] μ := go_in 4 (code := pr_M_added) (stops := [3]) rfl rfl hNF
set_option maxRecDepth 20000 in
theorem b_M_added_3 {d : Nat} {Q : QQ} {μ : Mem} {l1 : Int32} (hNF : Call d y_M_isSign [.ref 0, .int 43] μ (fun ρ μ1 => ∃ r2 : Int32, ρ = .int r2 ∧ ((¬ r2 = 0 → ((¬ (lg_cmp (μ1.2 0 30) 43) = 0 → (Call d y_M_next [.ref 0] μ1 (fun _ μ3 => (Call d y_M_term [.ref 0] μ3 (fun ρ μ4 => ∃ r5 : Int32, ρ = .int r5 ∧ (((0 : Int32) = 0 → (AA (Call d) y_M_added Q 3 [.ref 0, .int (l1 - r5), .int 0, .int r5] [] μ4)) ∧
(¬ (0 : Int32) = 0 → (AA (Call d) y_M_added Q 3 [.ref 0, .int (l1 + r5), .int 0, .int r5] [] μ4)))))))) ∧
((lg_cmp (μ1.2 0 30) 43) = 0 → (Call d y_M_next [.ref 0] μ1 (fun _ μ6 => (Call d y_M_term [.ref 0] μ6 (fun ρ μ7 => ∃ r8 : Int32, ρ = .int r8 ∧ (((1 : Int32) = 0 → (AA (Call d) y_M_added Q 3 [.ref 0, .int (l1 - r8), .int 1, .int r8] [] μ7)) ∧
(¬ (1 : Int32) = 0 → (AA (Call d) y_M_added Q 3 [.ref 0, .int (l1 + r8), .int 1, .int r8] [] μ7)))))))))) ∧
(r2 = 0 → (Call d y_M_isSign [.ref 0, .int 45] μ1 (fun ρ μ9 => ∃ r10 : Int32, ρ = .int r10 ∧ ((r10 = 0 → (Q (.int l1) μ9)) ∧
(¬ r10 = 0 → ((¬ (lg_cmp (μ9.2 0 30) 43) = 0 → (Call d y_M_next [.ref 0] μ9 (fun _ μ11 => (Call d y_M_term [.ref 0] μ11 (fun ρ μ12 => ∃ r13 : Int32, ρ = .int r13 ∧ (((0 : Int32) = 0 → (AA (Call d) y_M_added Q 3 [.ref 0, .int (l1 - r13), .int 0, .int r13] [] μ12)) ∧
(¬ (0 : Int32) = 0 → (AA (Call d) y_M_added Q 3 [.ref 0, .int (l1 + r13), .int 0, .int r13] [] μ12)))))))) ∧
((lg_cmp (μ9.2 0 30) 43) = 0 → (Call d y_M_next [.ref 0] μ9 (fun _ μ14 => (Call d y_M_term [.ref 0] μ14 (fun ρ μ15 => ∃ r16 : Int32, ρ = .int r16 ∧ (((1 : Int32) = 0 → (AA (Call d) y_M_added Q 3 [.ref 0, .int (l1 - r16), .int 1, .int r16] [] μ15)) ∧
(¬ (1 : Int32) = 0 → (AA (Call d) y_M_added Q 3 [.ref 0, .int (l1 + r16), .int 1, .int r16] [] μ15))))))))))))))))) : AA (Call d) y_M_added Q 3 [.ref 0, .int l1, un, un] [] μ := go_in 30 (code := pr_M_added) (stops := [3]) rfl rfl hNF
set_option maxRecDepth 20000 in
theorem b_M_not_0 {d : Nat} {Q : QQ} {μ : Mem} (hNF : Call d y_M_isWord [.ref 0, .int 110, .int 111, .int 116, .int 0, .int 0, .int 0, .int 0, .int 0] μ (fun ρ μ1 => ∃ r2 : Int32, ρ = .int r2 ∧ ((r2 = 0 → (Call d y_M_added [.ref 0] μ1 (fun ρ μ3 => ∃ r4 : Int32, ρ = .int r4 ∧ (Call d y_M_isSign [.ref 0, .int 60] μ3 (fun ρ μ5 => ∃ r6 : Int32, ρ = .int r6 ∧ ((¬ r6 = 0 → ((¬ (lg_cmp (μ5.2 0 30) 60) = 0 → (Call d y_M_next [.ref 0] μ5 (fun _ μ7 => (Call d y_M_added [.ref 0] μ7 (fun ρ μ8 => ∃ r9 : Int32, ρ = .int r9 ∧ (((0 : Int32) = 0 → ((¬ r4 = r9 → (Q (.int 0) μ8)) ∧
(r4 = r9 → (Q (.int 1) μ8)))) ∧
(¬ (0 : Int32) = 0 → ((r9 ≤ r4 → (Q (.int 0) μ8)) ∧
(¬ r9 ≤ r4 → (Q (.int 1) μ8)))))))))) ∧
((lg_cmp (μ5.2 0 30) 60) = 0 → (Call d y_M_next [.ref 0] μ5 (fun _ μ10 => (Call d y_M_added [.ref 0] μ10 (fun ρ μ11 => ∃ r12 : Int32, ρ = .int r12 ∧ (((1 : Int32) = 0 → ((¬ r4 = r12 → (Q (.int 0) μ11)) ∧
(r4 = r12 → (Q (.int 1) μ11)))) ∧
(¬ (1 : Int32) = 0 → ((r12 ≤ r4 → (Q (.int 0) μ11)) ∧
(¬ r12 ≤ r4 → (Q (.int 1) μ11)))))))))))) ∧
(r6 = 0 → (Call d y_M_isSign [.ref 0, .int 61] μ5 (fun ρ μ13 => ∃ r14 : Int32, ρ = .int r14 ∧ ((¬ r14 = 0 → ((¬ (lg_cmp (μ13.2 0 30) 60) = 0 → (Call d y_M_next [.ref 0] μ13 (fun _ μ15 => (Call d y_M_added [.ref 0] μ15 (fun ρ μ16 => ∃ r17 : Int32, ρ = .int r17 ∧ (((0 : Int32) = 0 → ((¬ r4 = r17 → (Q (.int 0) μ16)) ∧
(r4 = r17 → (Q (.int 1) μ16)))) ∧
(¬ (0 : Int32) = 0 → ((r17 ≤ r4 → (Q (.int 0) μ16)) ∧
(¬ r17 ≤ r4 → (Q (.int 1) μ16)))))))))) ∧
((lg_cmp (μ13.2 0 30) 60) = 0 → (Call d y_M_next [.ref 0] μ13 (fun _ μ18 => (Call d y_M_added [.ref 0] μ18 (fun ρ μ19 => ∃ r20 : Int32, ρ = .int r20 ∧ (((1 : Int32) = 0 → ((¬ r4 = r20 → (Q (.int 0) μ19)) ∧
(r4 = r20 → (Q (.int 1) μ19)))) ∧
(¬ (1 : Int32) = 0 → ((r20 ≤ r4 → (Q (.int 0) μ19)) ∧
(¬ r20 ≤ r4 → (Q (.int 1) μ19)))))))))))) ∧
(r14 = 0 → (Q (.int r4) μ13)))))))))))) ∧
(¬ r2 = 0 → (Call d y_M_opens [.ref 0] μ1 (fun ρ μ21 => ∃ r22 : Int32, ρ = .int r22 ∧ ((¬ r22 = 0 → (Call d y_M_not [.ref 0] μ21 (fun ρ μ23 => ∃ r24 : Int32, ρ = .int r24 ∧ (∀ μ25 : Mem, μ25 = wI μ23 0 (upd (μ23.1 0) 31 ((μ23.1 0 31) - 1)) → ((¬ r24 = 0 → (Q (.int 0) μ25)) ∧
(r24 = 0 → (Q (.int 1) μ25))))))) ∧
(r22 = 0 → (Q (.int 0) μ21))))))))) : AA (Call d) y_M_not Q 0 [.ref 0, un, un, un] [] μ := go_in 44 (code := pr_M_not) (stops := []) rfl rfl hNF
set_option maxRecDepth 20000 in
theorem b_M_both_0 {d : Nat} {Q : QQ} {μ : Mem} (hNF : Call d y_M_not [.ref 0] μ (fun ρ μ1 => ∃ r2 : Int32, ρ = .int r2 ∧ (AA (Call d) y_M_both Q 3 [.ref 0, .int r2, un] [] μ1))) : AA (Call d) y_M_both Q 0 [.ref 0, un, un] [] μ := go_in 4 (code := pr_M_both) (stops := [3]) rfl rfl hNF
set_option maxRecDepth 20000 in
theorem b_M_both_3 {d : Nat} {Q : QQ} {μ : Mem} {l1 : Int32} (hNF : Call d y_M_isWord [.ref 0, .int 97, .int 110, .int 100, .int 0, .int 0, .int 0, .int 0, .int 0] μ (fun ρ μ1 => ∃ r2 : Int32, ρ = .int r2 ∧ ((r2 = 0 → (Q (.int l1) μ1)) ∧
(¬ r2 = 0 → (Call d y_M_next [.ref 0] μ1 (fun _ μ3 => (Call d y_M_not [.ref 0] μ3 (fun ρ μ4 => ∃ r5 : Int32, ρ = .int r5 ∧ ((l1 = 0 → (AA (Call d) y_M_both Q 3 [.ref 0, .int 0, .int r5] [] μ4)) ∧
(¬ l1 = 0 → ((r5 = 0 → (AA (Call d) y_M_both Q 3 [.ref 0, .int 0, .int r5] [] μ4)) ∧
(¬ r5 = 0 → (AA (Call d) y_M_both Q 3 [.ref 0, .int 1, .int r5] [] μ4))))))))))))) : AA (Call d) y_M_both Q 3 [.ref 0, .int l1, un] [] μ := go_in 25 (code := pr_M_both) (stops := [3]) rfl rfl hNF
set_option maxRecDepth 20000 in
theorem b_M_either_0 {d : Nat} {Q : QQ} {μ : Mem} (hNF : Call d y_M_both [.ref 0] μ (fun ρ μ1 => ∃ r2 : Int32, ρ = .int r2 ∧ (AA (Call d) y_M_either Q 3 [.ref 0, .int r2, un] [] μ1))) : AA (Call d) y_M_either Q 0 [.ref 0, un, un] [] μ := go_in 4 (code := pr_M_either) (stops := [3]) rfl rfl hNF
set_option maxRecDepth 20000 in
theorem b_M_either_3 {d : Nat} {Q : QQ} {μ : Mem} {l1 : Int32} (hNF : Call d y_M_isWord [.ref 0, .int 111, .int 114, .int 0, .int 0, .int 0, .int 0, .int 0, .int 0] μ (fun ρ μ1 => ∃ r2 : Int32, ρ = .int r2 ∧ ((r2 = 0 → (Q (.int l1) μ1)) ∧
(¬ r2 = 0 → (Call d y_M_next [.ref 0] μ1 (fun _ μ3 => (Call d y_M_both [.ref 0] μ3 (fun ρ μ4 => ∃ r5 : Int32, ρ = .int r5 ∧ ((¬ l1 = 0 → (AA (Call d) y_M_either Q 3 [.ref 0, .int 1, .int r5] [] μ4)) ∧
(l1 = 0 → ((r5 = 0 → (AA (Call d) y_M_either Q 3 [.ref 0, .int 0, .int r5] [] μ4)) ∧
(¬ r5 = 0 → (AA (Call d) y_M_either Q 3 [.ref 0, .int 1, .int r5] [] μ4))))))))))))) : AA (Call d) y_M_either Q 3 [.ref 0, .int l1, un] [] μ := go_in 25 (code := pr_M_either) (stops := [3]) rfl rfl hNF
set_option maxRecDepth 20000 in
theorem b_M_part_0 {d : Nat} {Q : QQ} {μ : Mem} {a : Int32} (hNF : (¬ a = 0 → ((¬ (μ.1 0 32) = 0 → (((μ.1 0 32) = 0 → (Call d y_M_either [.ref 0] μ (fun ρ μ1 => ∃ r2 : Int32, ρ = .int r2 ∧ (Call d y_M_isSign [.ref 0, .int 59] μ1 (fun ρ μ3 => ∃ r4 : Int32, ρ = .int r4 ∧ ((¬ r4 = 0 → ((¬ (μ3.1 0 32) = 0 → (Q (.int r2) μ3)) ∧
((μ3.1 0 32) = 0 → (Call d y_M_next [.ref 0] μ3 (fun _ μ5 => (Q (.int r2) μ5)))))) ∧
(r4 = 0 → (Call d y_M_fail [.ref 0] μ3 (fun _ μ6 => ((¬ (μ6.1 0 32) = 0 → (Q (.int r2) μ6)) ∧
((μ6.1 0 32) = 0 → (Call d y_M_next [.ref 0] μ6 (fun _ μ7 => (Q (.int r2) μ7)))))))))))))) ∧
(¬ (μ.1 0 32) = 0 → (Call d y_M_isSign [.ref 0, .int 59] μ (fun ρ μ8 => ∃ r9 : Int32, ρ = .int r9 ∧ ((¬ r9 = 0 → ((¬ (μ8.1 0 32) = 0 → (Q (.int 0) μ8)) ∧
((μ8.1 0 32) = 0 → (Call d y_M_next [.ref 0] μ8 (fun _ μ10 => (Q (.int 0) μ10)))))) ∧
(r9 = 0 → (Call d y_M_fail [.ref 0] μ8 (fun _ μ11 => ((¬ (μ11.1 0 32) = 0 → (Q (.int 0) μ11)) ∧
((μ11.1 0 32) = 0 → (Call d y_M_next [.ref 0] μ11 (fun _ μ12 => (Q (.int 0) μ12)))))))))))))) ∧
((μ.1 0 32) = 0 → (Call d y_M_next [.ref 0] μ (fun _ μ13 => (((μ13.1 0 32) = 0 → (Call d y_M_either [.ref 0] μ13 (fun ρ μ14 => ∃ r15 : Int32, ρ = .int r15 ∧ (Call d y_M_isSign [.ref 0, .int 59] μ14 (fun ρ μ16 => ∃ r17 : Int32, ρ = .int r17 ∧ ((¬ r17 = 0 → ((¬ (μ16.1 0 32) = 0 → (Q (.int r15) μ16)) ∧
((μ16.1 0 32) = 0 → (Call d y_M_next [.ref 0] μ16 (fun _ μ18 => (Q (.int r15) μ18)))))) ∧
(r17 = 0 → (Call d y_M_fail [.ref 0] μ16 (fun _ μ19 => ((¬ (μ19.1 0 32) = 0 → (Q (.int r15) μ19)) ∧
((μ19.1 0 32) = 0 → (Call d y_M_next [.ref 0] μ19 (fun _ μ20 => (Q (.int r15) μ20)))))))))))))) ∧
(¬ (μ13.1 0 32) = 0 → (Call d y_M_isSign [.ref 0, .int 59] μ13 (fun ρ μ21 => ∃ r22 : Int32, ρ = .int r22 ∧ ((¬ r22 = 0 → ((¬ (μ21.1 0 32) = 0 → (Q (.int 0) μ21)) ∧
((μ21.1 0 32) = 0 → (Call d y_M_next [.ref 0] μ21 (fun _ μ23 => (Q (.int 0) μ23)))))) ∧
(r22 = 0 → (Call d y_M_fail [.ref 0] μ21 (fun _ μ24 => ((¬ (μ24.1 0 32) = 0 → (Q (.int 0) μ24)) ∧
((μ24.1 0 32) = 0 → (Call d y_M_next [.ref 0] μ24 (fun _ μ25 => (Q (.int 0) μ25)))))))))))))))))) ∧
(a = 0 → (Call d y_M_fail [.ref 0] μ (fun _ μ26 => ((¬ (μ26.1 0 32) = 0 → (((μ26.1 0 32) = 0 → (Call d y_M_either [.ref 0] μ26 (fun ρ μ27 => ∃ r28 : Int32, ρ = .int r28 ∧ (Call d y_M_isSign [.ref 0, .int 59] μ27 (fun ρ μ29 => ∃ r30 : Int32, ρ = .int r30 ∧ ((¬ r30 = 0 → ((¬ (μ29.1 0 32) = 0 → (Q (.int r28) μ29)) ∧
((μ29.1 0 32) = 0 → (Call d y_M_next [.ref 0] μ29 (fun _ μ31 => (Q (.int r28) μ31)))))) ∧
(r30 = 0 → (Call d y_M_fail [.ref 0] μ29 (fun _ μ32 => ((¬ (μ32.1 0 32) = 0 → (Q (.int r28) μ32)) ∧
((μ32.1 0 32) = 0 → (Call d y_M_next [.ref 0] μ32 (fun _ μ33 => (Q (.int r28) μ33)))))))))))))) ∧
(¬ (μ26.1 0 32) = 0 → (Call d y_M_isSign [.ref 0, .int 59] μ26 (fun ρ μ34 => ∃ r35 : Int32, ρ = .int r35 ∧ ((¬ r35 = 0 → ((¬ (μ34.1 0 32) = 0 → (Q (.int 0) μ34)) ∧
((μ34.1 0 32) = 0 → (Call d y_M_next [.ref 0] μ34 (fun _ μ36 => (Q (.int 0) μ36)))))) ∧
(r35 = 0 → (Call d y_M_fail [.ref 0] μ34 (fun _ μ37 => ((¬ (μ37.1 0 32) = 0 → (Q (.int 0) μ37)) ∧
((μ37.1 0 32) = 0 → (Call d y_M_next [.ref 0] μ37 (fun _ μ38 => (Q (.int 0) μ38)))))))))))))) ∧
((μ26.1 0 32) = 0 → (Call d y_M_next [.ref 0] μ26 (fun _ μ39 => (((μ39.1 0 32) = 0 → (Call d y_M_either [.ref 0] μ39 (fun ρ μ40 => ∃ r41 : Int32, ρ = .int r41 ∧ (Call d y_M_isSign [.ref 0, .int 59] μ40 (fun ρ μ42 => ∃ r43 : Int32, ρ = .int r43 ∧ ((¬ r43 = 0 → ((¬ (μ42.1 0 32) = 0 → (Q (.int r41) μ42)) ∧
((μ42.1 0 32) = 0 → (Call d y_M_next [.ref 0] μ42 (fun _ μ44 => (Q (.int r41) μ44)))))) ∧
(r43 = 0 → (Call d y_M_fail [.ref 0] μ42 (fun _ μ45 => ((¬ (μ45.1 0 32) = 0 → (Q (.int r41) μ45)) ∧
((μ45.1 0 32) = 0 → (Call d y_M_next [.ref 0] μ45 (fun _ μ46 => (Q (.int r41) μ46)))))))))))))) ∧
(¬ (μ39.1 0 32) = 0 → (Call d y_M_isSign [.ref 0, .int 59] μ39 (fun ρ μ47 => ∃ r48 : Int32, ρ = .int r48 ∧ ((¬ r48 = 0 → ((¬ (μ47.1 0 32) = 0 → (Q (.int 0) μ47)) ∧
((μ47.1 0 32) = 0 → (Call d y_M_next [.ref 0] μ47 (fun _ μ49 => (Q (.int 0) μ49)))))) ∧
(r48 = 0 → (Call d y_M_fail [.ref 0] μ47 (fun _ μ50 => ((¬ (μ50.1 0 32) = 0 → (Q (.int 0) μ50)) ∧
((μ50.1 0 32) = 0 → (Call d y_M_next [.ref 0] μ50 (fun _ μ51 => (Q (.int 0) μ51))))))))))))))))))))) : AA (Call d) y_M_part Q 0 [.ref 0, .int a, un] [] μ := go_in 28 (code := pr_M_part) (stops := []) rfl rfl hNF
set_option maxRecDepth 20000 in
theorem b_M_read_0 {d : Nat} {Q : QQ} {μ : Mem} {a : Int32} {b : Int32} (hNF : ∀ μ1 : Mem, μ1 = wI μ 0 (upd (μ.1 0) 25 (160 * a)) → (vp_in a 6 ∧ ∀ μ2 : Mem, μ2 = wI μ1 0 (upd (μ1.1 0) 26 (μ1.1 2 a.toNatClampNeg)) → (∀ μ3 : Mem, μ3 = wI μ2 0 (upd (μ2.1 0) 27 0) → (∀ μ4 : Mem, μ4 = wI μ3 0 (upd (μ3.1 0) 31 0) → (narrow .boolean (.int 0) = .int 0 ∧ ∀ μ5 : Mem, μ5 = wI μ4 0 (upd (μ4.1 0) 32 0) → (Call d y_M_next [.ref 0] μ5 (fun _ μ6 => (Call d y_M_isWord [.ref 0, .int 97, .int 100, .int 100, .int 115, .int 0, .int 0, .int 0, .int 0] μ6 (fun ρ μ7 => ∃ r8 : Int32, ρ = .int r8 ∧ (Call d y_M_part [.ref 0, .int r8] μ7 (fun ρ μ9 => ∃ r10 : Int32, ρ = .int r10 ∧ (((μ9.1 0 32) = 0 → (Call d y_M_isWord [.ref 0, .int 119, .int 111, .int 114, .int 116, .int 104, .int 0, .int 0, .int 0] μ9 (fun ρ μ11 => ∃ r12 : Int32, ρ = .int r12 ∧ (Call d y_M_part [.ref 0, .int r12] μ11 (fun ρ μ13 => ∃ r14 : Int32, ρ = .int r14 ∧ (((μ13.1 0 32) = 0 → (Call d y_M_isWord [.ref 0, .int 109, .int 97, .int 121, .int 0, .int 0, .int 0, .int 0, .int 0] μ13 (fun ρ μ15 => ∃ r16 : Int32, ρ = .int r16 ∧ (Call d y_M_part [.ref 0, .int r16] μ15 (fun ρ μ17 => ∃ r18 : Int32, ρ = .int r18 ∧ ((¬ (μ17.1 0 32) = 0 → ((¬ b = 0 → ((¬ b = 1 → (Q (.int r18) μ17)) ∧
(b = 1 → (Q (.int r14) μ17)))) ∧
(b = 0 → (Q (.int r10) μ17)))) ∧
((μ17.1 0 32) = 0 → (((μ17.1 0 28) = 0 → ((¬ b = 0 → ((¬ b = 1 → (Q (.int r18) μ17)) ∧
(b = 1 → (Q (.int r14) μ17)))) ∧
(b = 0 → (Q (.int r10) μ17)))) ∧
(¬ (μ17.1 0 28) = 0 → (Call d y_M_fail [.ref 0] μ17 (fun _ μ19 => ((¬ b = 0 → ((¬ b = 1 → (Q (.int r18) μ19)) ∧
(b = 1 → (Q (.int r14) μ19)))) ∧
(b = 0 → (Q (.int r10) μ19)))))))))))))) ∧
(¬ (μ13.1 0 32) = 0 → ((¬ (μ13.1 0 32) = 0 → ((¬ b = 0 → ((¬ b = 1 → (Q (.int 0) μ13)) ∧
(b = 1 → (Q (.int r14) μ13)))) ∧
(b = 0 → (Q (.int r10) μ13)))) ∧
((μ13.1 0 32) = 0 → (((μ13.1 0 28) = 0 → ((¬ b = 0 → ((¬ b = 1 → (Q (.int 0) μ13)) ∧
(b = 1 → (Q (.int r14) μ13)))) ∧
(b = 0 → (Q (.int r10) μ13)))) ∧
(¬ (μ13.1 0 28) = 0 → (Call d y_M_fail [.ref 0] μ13 (fun _ μ20 => ((¬ b = 0 → ((¬ b = 1 → (Q (.int 0) μ20)) ∧
(b = 1 → (Q (.int r14) μ20)))) ∧
(b = 0 → (Q (.int r10) μ20)))))))))))))))) ∧
(¬ (μ9.1 0 32) = 0 → (((μ9.1 0 32) = 0 → (Call d y_M_isWord [.ref 0, .int 109, .int 97, .int 121, .int 0, .int 0, .int 0, .int 0, .int 0] μ9 (fun ρ μ21 => ∃ r22 : Int32, ρ = .int r22 ∧ (Call d y_M_part [.ref 0, .int r22] μ21 (fun ρ μ23 => ∃ r24 : Int32, ρ = .int r24 ∧ ((¬ (μ23.1 0 32) = 0 → ((¬ b = 0 → ((¬ b = 1 → (Q (.int r24) μ23)) ∧
(b = 1 → (Q (.int 0) μ23)))) ∧
(b = 0 → (Q (.int r10) μ23)))) ∧
((μ23.1 0 32) = 0 → (((μ23.1 0 28) = 0 → ((¬ b = 0 → ((¬ b = 1 → (Q (.int r24) μ23)) ∧
(b = 1 → (Q (.int 0) μ23)))) ∧
(b = 0 → (Q (.int r10) μ23)))) ∧
(¬ (μ23.1 0 28) = 0 → (Call d y_M_fail [.ref 0] μ23 (fun _ μ25 => ((¬ b = 0 → ((¬ b = 1 → (Q (.int r24) μ25)) ∧
(b = 1 → (Q (.int 0) μ25)))) ∧
(b = 0 → (Q (.int r10) μ25)))))))))))))) ∧
(¬ (μ9.1 0 32) = 0 → ((¬ (μ9.1 0 32) = 0 → ((¬ b = 0 → ((¬ b = 1 → (Q (.int 0) μ9)) ∧
(b = 1 → (Q (.int 0) μ9)))) ∧
(b = 0 → (Q (.int r10) μ9)))) ∧
((μ9.1 0 32) = 0 → (((μ9.1 0 28) = 0 → ((¬ b = 0 → ((¬ b = 1 → (Q (.int 0) μ9)) ∧
(b = 1 → (Q (.int 0) μ9)))) ∧
(b = 0 → (Q (.int r10) μ9)))) ∧
(¬ (μ9.1 0 28) = 0 → (Call d y_M_fail [.ref 0] μ9 (fun _ μ26 => ((¬ b = 0 → ((¬ b = 1 → (Q (.int 0) μ26)) ∧
(b = 1 → (Q (.int 0) μ26)))) ∧
(b = 0 → (Q (.int r10) μ26)))))))))))))))))))))))) : AA (Call d) y_M_read Q 0 [.ref 0, .int a, .int b, un, un, un] [] μ := go_in 83 (code := pr_M_read) (stops := []) rfl rfl hNF
set_option maxRecDepth 20000 in
theorem b_M_text_0 {d : Nat} {Q : QQ} {μ : Mem} (hNF : (¬ (μ.1 0 3) = 6 → (AA (Call d) y_M_text Q 8 [.ref 0, .int 0] [] μ)) ∧
((μ.1 0 3) = 6 → (Q (.int (-4)) μ))) : AA (Call d) y_M_text Q 0 [.ref 0, un] [] μ := go_in 7 (code := pr_M_text) (stops := [8]) rfl rfl hNF
set_option maxRecDepth 20000 in
theorem b_M_text_8 {d : Nat} {Q : QQ} {μ : Mem} {l1 : Int32} (hNF : ((μ.1 0 6) ≤ l1 → (vp_in (μ.1 0 3) 6 ∧ ∀ μ1 : Mem, μ1 = wI μ 2 (upd (μ.1 2) (Int32.toNatClampNeg (μ.1 0 3)) (μ.1 0 6)) → (∀ μ2 : Mem, μ2 = wI μ1 0 (upd (μ1.1 0) 6 0) → (Call d y_M_read [.ref 0, .int (μ2.1 0 3), .int 0] μ2 (fun ρ μ3 => ∃ r4 : Int32, ρ = .int r4 ∧ (((μ3.1 0 32) = 0 → (∀ μ5 : Mem, μ5 = wI μ3 0 (upd (μ3.1 0) 3 ((μ3.1 0 3) + 1)) → (Q (.int ((μ5.1 0 3) - 1)) μ5))) ∧
(¬ (μ3.1 0 32) = 0 → (Q (.int ((-100) - (μ3.1 0 33))) μ3)))))))) ∧
(¬ (μ.1 0 6) ≤ l1 → (vp_in l1 160 ∧ (vp_in ((160 * (μ.1 0 3)) + l1) 960 ∧ ∀ μ6 : Mem, μ6 = wI μ 1 (upd (μ.1 1) (Int32.toNatClampNeg ((160 * (μ.1 0 3)) + l1)) (μ.1 3 l1.toNatClampNeg)) → (AA (Call d) y_M_text Q 8 [.ref 0, .int (l1 + 1)] [] μ6))))) : AA (Call d) y_M_text Q 8 [.ref 0, .int l1] [] μ := go_in 34 (code := pr_M_text) (stops := [8]) rfl rfl hNF
set_option maxRecDepth 20000 in
theorem b_M_force_0 {d : Nat} {Q : QQ} {μ : Mem} {a : Int32} (hNF : Call d y_M_in [.long (Int32.toInt64 a), .long 0, .long (Int32.toInt64 ((μ.1 0 3) - 1))] μ (fun ρ μ1 => ∃ r2 : Int32, ρ = .int r2 ∧ ((¬ r2 = 0 → (∀ μ3 : Mem, μ3 = wI μ1 0 (upd (μ1.1 0) 4 a) → (Q (.int (μ1.1 0 4)) μ3))) ∧
(r2 = 0 → (Q (.int (-2)) μ1))))) : AA (Call d) y_M_force Q 0 [.ref 0, .int a, un] [] μ := go_in 18 (code := pr_M_force) (stops := []) rfl rfl hNF
set_option maxRecDepth 20000 in
theorem b_M_adds_0 {d : Nat} {Q : QQ} {μ : Mem} {a : Int32} {b : Int32} {c : Int32} (hNF : ∀ μ1 : Mem, μ1 = wI μ 0 (upd (μ.1 0) 19 a) → (∀ μ2 : Mem, μ2 = wI μ1 0 (upd (μ1.1 0) 20 b) → (∀ μ3 : Mem, μ3 = wI μ2 0 (upd (μ2.1 0) 21 c) → (∀ μ4 : Mem, μ4 = wI μ3 0 (upd (μ3.1 0) 22 0) → (∀ μ5 : Mem, μ5 = wI μ4 0 (upd (μ4.1 0) 23 0) → (∀ μ6 : Mem, μ6 = wI μ5 0 (upd (μ5.1 0) 24 0) → (Call d y_M_keptRead [.ref 0, .int 0] μ6 (fun ρ μ7 => ∃ r8 : Int32, ρ = .int r8 ∧ (Call d y_M_within [.int r8, .int 0, .int 99] μ7 (fun ρ μ9 => ∃ r10 : Int32, ρ = .int r10 ∧ (Q (.int r10) μ9))))))))))) : AA (Call d) y_M_adds Q 0 [.ref 0, .int a, .int b, .int c] [] μ := go_in 25 (code := pr_M_adds) (stops := []) rfl rfl hNF
set_option maxRecDepth 20000 in
theorem b_M_says_0 {d : Nat} {Q : QQ} {μ : Mem} {a : Int32} {b : Int32} {c : Int32} (hNF : ∀ μ1 : Mem, μ1 = wI μ 0 (upd (μ.1 0) 19 0) → (vp_in b 5 ∧ ∀ μ2 : Mem, μ2 = wI μ1 0 (upd (μ1.1 0) 20 (μ1.1 8 b.toNatClampNeg)) → (∀ μ3 : Mem, μ3 = wI μ2 0 (upd (μ2.1 0) 21 0) → (vp_in c 10 ∧ (Call d y_M_sizeOf [.int (μ3.1 6 c.toNatClampNeg)] μ3 (fun ρ μ4 => ∃ r5 : Int32, ρ = .int r5 ∧ (∀ μ6 : Mem, μ6 = wI μ4 0 (upd (μ4.1 0) 22 r5) → (vp_in b 5 ∧ ∀ μ7 : Mem, μ7 = wI μ6 0 (upd (μ6.1 0) 23 (μ6.1 9 b.toNatClampNeg)) → (∀ μ8 : Mem, μ8 = wI μ7 0 (upd (μ7.1 0) 24 (μ7.1 0 14)) → (Call d y_M_keptRead [.ref 0, .int a] μ8 (fun ρ μ9 => ∃ r10 : Int32, ρ = .int r10 ∧ (Q (.int r10) μ9)))))))))))) : AA (Call d) y_M_says Q 0 [.ref 0, .int a, .int b, .int c] [] μ := go_in 33 (code := pr_M_says) (stops := []) rfl rfl hNF
set_option maxRecDepth 20000 in
theorem b_M_keptRead_0 {d : Nat} {Q : QQ} {μ : Mem} {a : Int32} (hNF : AA (Call d) y_M_keptRead Q 9 [.ref 0, .int a, .long (((Int32.toInt64 (μ.1 0 4)) * 3) + (Int32.toInt64 a)), un, un] [] μ) : AA (Call d) y_M_keptRead Q 0 [.ref 0, .int a, un, un, un] [] μ := go_in 10 (code := pr_M_keptRead) (stops := [9, 17, 25, 33, 41, 49, 59, 66]) rfl rfl hNF
set_option maxRecDepth 20000 in
theorem b_M_keptRead_9 {d : Nat} {Q : QQ} {μ : Mem} {l1 : Int32} {l2 : Int64} (hNF : AA (Call d) y_M_keptRead Q 17 [.ref 0, .int l1, .long ((l2 * 1000) + (Int32.toInt64 (μ.1 0 19))), un, un] [] μ) : AA (Call d) y_M_keptRead Q 9 [.ref 0, .int l1, .long l2, un, un] [] μ := go_in 9 (code := pr_M_keptRead) (stops := [9, 17, 25, 33, 41, 49, 59, 66]) rfl rfl hNF
set_option maxRecDepth 20000 in
theorem b_M_keptRead_17 {d : Nat} {Q : QQ} {μ : Mem} {l1 : Int32} {l2 : Int64} (hNF : AA (Call d) y_M_keptRead Q 25 [.ref 0, .int l1, .long ((l2 * 32) + (Int32.toInt64 (μ.1 0 20))), un, un] [] μ) : AA (Call d) y_M_keptRead Q 17 [.ref 0, .int l1, .long l2, un, un] [] μ := go_in 9 (code := pr_M_keptRead) (stops := [9, 17, 25, 33, 41, 49, 59, 66]) rfl rfl hNF
set_option maxRecDepth 20000 in
theorem b_M_keptRead_25 {d : Nat} {Q : QQ} {μ : Mem} {l1 : Int32} {l2 : Int64} (hNF : AA (Call d) y_M_keptRead Q 33 [.ref 0, .int l1, .long ((l2 * 16) + (Int32.toInt64 (μ.1 0 21))), un, un] [] μ) : AA (Call d) y_M_keptRead Q 25 [.ref 0, .int l1, .long l2, un, un] [] μ := go_in 9 (code := pr_M_keptRead) (stops := [9, 17, 25, 33, 41, 49, 59, 66]) rfl rfl hNF
set_option maxRecDepth 20000 in
theorem b_M_keptRead_33 {d : Nat} {Q : QQ} {μ : Mem} {l1 : Int32} {l2 : Int64} (hNF : AA (Call d) y_M_keptRead Q 41 [.ref 0, .int l1, .long ((l2 * 64) + (Int32.toInt64 (μ.1 0 22))), un, un] [] μ) : AA (Call d) y_M_keptRead Q 33 [.ref 0, .int l1, .long l2, un, un] [] μ := go_in 9 (code := pr_M_keptRead) (stops := [9, 17, 25, 33, 41, 49, 59, 66]) rfl rfl hNF
set_option maxRecDepth 20000 in
theorem b_M_keptRead_41 {d : Nat} {Q : QQ} {μ : Mem} {l1 : Int32} {l2 : Int64} (hNF : AA (Call d) y_M_keptRead Q 49 [.ref 0, .int l1, .long ((l2 * 1048576) + (Int32.toInt64 (μ.1 0 23))), un, un] [] μ) : AA (Call d) y_M_keptRead Q 41 [.ref 0, .int l1, .long l2, un, un] [] μ := go_in 9 (code := pr_M_keptRead) (stops := [9, 17, 25, 33, 41, 49, 59, 66]) rfl rfl hNF
set_option maxRecDepth 20000 in
theorem b_M_keptRead_49 {d : Nat} {Q : QQ} {μ : Mem} {l1 : Int32} {l2 : Int64} (hNF : AA (Call d) y_M_keptRead Q 59 [.ref 0, .int l1, .long (((l2 * 16) + (Int32.toInt64 (μ.1 0 24))) + 1), un, un] [] μ) : AA (Call d) y_M_keptRead Q 49 [.ref 0, .int l1, .long l2, un, un] [] μ := go_in 11 (code := pr_M_keptRead) (stops := [9, 17, 25, 33, 41, 49, 59, 66]) rfl rfl hNF
set_option maxRecDepth 20000 in
theorem b_M_keptRead_59 {d : Nat} {Q : QQ} {μ : Mem} {l1 : Int32} {l2 : Int64} (hNF : AA (Call d) y_M_keptRead Q 66 [.ref 0, .int l1, .long l2, un, .int (Int64.toInt32 ((Int64.toUInt64 (l2 * 7046029254386353131) >>> ((Int32.toInt64 54).toUInt64 &&& Int64.toUInt64 63)).toInt64))] [] μ) : AA (Call d) y_M_keptRead Q 59 [.ref 0, .int l1, .long l2, un, un] [] μ := go_in 8 (code := pr_M_keptRead) (stops := [9, 17, 25, 33, 41, 49, 59, 66]) rfl rfl hNF
set_option maxRecDepth 20000 in
theorem b_M_keptRead_66 {d : Nat} {Q : QQ} {μ : Mem} {l1 : Int32} {l2 : Int64} {l4 : Int32} (hNF : vp_in l4 1024 ∧ (((lg_cmp (μ.2 12 l4.toNatClampNeg) l2) = 0 → (vp_in l4 1024 ∧ (Q (.int (μ.1 13 l4.toNatClampNeg)) μ))) ∧
(¬ (lg_cmp (μ.2 12 l4.toNatClampNeg) l2) = 0 → (Call d y_M_read [.ref 0, .int (μ.1 0 4), .int l1] μ (fun ρ μ1 => ∃ r2 : Int32, ρ = .int r2 ∧ (vp_in l4 1024 ∧ ∀ μ3 : Mem, μ3 = wI μ1 13 (upd (μ1.1 13) l4.toNatClampNeg r2) → (vp_in l4 1024 ∧ ∀ μ4 : Mem, μ4 = wL μ3 12 (vp_updL (μ3.2 12) l4.toNatClampNeg l2) → (vp_in l4 1024 ∧ (Q (.int (μ4.1 13 l4.toNatClampNeg)) μ4))))))))) : AA (Call d) y_M_keptRead Q 66 [.ref 0, .int l1, .long l2, un, .int l4] [] μ := go_in 26 (code := pr_M_keptRead) (stops := [9, 17, 25, 33, 41, 49, 59, 66]) rfl rfl hNF
set_option maxRecDepth 20000 in
theorem b_M_takes_0 {d : Nat} {Q : QQ} {μ : Mem} (hNF : AA (Call d) y_M_takes Q 2 [.ref 0, .int 0] [] μ) : AA (Call d) y_M_takes Q 0 [.ref 0, un] [] μ := go_in 3 (code := pr_M_takes) (stops := [2]) rfl rfl hNF
set_option maxRecDepth 20000 in
theorem b_M_takes_2 {d : Nat} {Q : QQ} {μ : Mem} {l1 : Int32} (hNF : ((8 : Int32) ≤ l1 → (Q .null μ)) ∧
(¬ (8 : Int32) ≤ l1 → (vp_in l1 8 ∧ (vp_in l1 8 ∧ ∀ μ1 : Mem, μ1 = wI μ 14 (upd (μ.1 14) l1.toNatClampNeg (μ.1 4 l1.toNatClampNeg)) → (AA (Call d) y_M_takes Q 2 [.ref 0, .int (l1 + 1)] [] μ1))))) : AA (Call d) y_M_takes Q 2 [.ref 0, .int l1] [] μ := go_in 14 (code := pr_M_takes) (stops := [2]) rfl rfl hNF
set_option maxRecDepth 20000 in
theorem b_M_writes_0 {d : Nat} {Q : QQ} {μ : Mem} {a : Int32} {b : Int32} (hNF : AA (Call d) y_M_writes Q 4 [.ref 0, .int a, .int b, .int 1, .int 1, un, un] [] μ) : AA (Call d) y_M_writes Q 0 [.ref 0, .int a, .int b, un, un, un, un] [] μ := go_in 5 (code := pr_M_writes) (stops := [4, 21]) rfl rfl hNF
set_option maxRecDepth 20000 in
theorem b_M_writes_4 {d : Nat} {Q : QQ} {μ : Mem} {l1 : Int32} {l2 : Int32} {l3 : Int32} {l4 : Int32} (hNF : vp_in l1 10 ∧ (Call d y_M_sizeOf [.int (μ.1 6 l1.toNatClampNeg)] μ (fun ρ μ1 => ∃ r2 : Int32, ρ = .int r2 ∧ ((r2 ≤ l4 → (AA (Call d) y_M_writes Q 21 [.ref 0, .int l1, .int l2, .int l3, .int 0, .int l3, un] [] μ1)) ∧
(¬ r2 ≤ l4 → (AA (Call d) y_M_writes Q 4 [.ref 0, .int l1, .int l2, .int (l3 * 10), .int (l4 + 1), un, un] [] μ1)))))) : AA (Call d) y_M_writes Q 4 [.ref 0, .int l1, .int l2, .int l3, .int l4, un, un] [] μ := go_in 14 (code := pr_M_writes) (stops := [4, 21]) rfl rfl hNF
set_option maxRecDepth 20000 in
theorem b_M_writes_21 {d : Nat} {Q : QQ} {μ : Mem} {l1 : Int32} {l2 : Int32} {l3 : Int32} {l4 : Int32} {l5 : Int32} (hNF : (l5 ≤ 0 → (Q (.int l4) μ)) ∧
(¬ l5 ≤ 0 → (vp_in l1 10 ∧ (¬ l5 = 0 ∧ (¬ (10 : Int32) = 0 ∧ (vp_in ((((μ.1 6 l1.toNatClampNeg) / l5) - ((μ.1 6 l1.toNatClampNeg) / l5) / 10 * 10) - 1) 8 ∧ (Call d y_M_costBy [.ref 0, .int (μ.1 14 (Int32.toNatClampNeg ((((μ.1 6 l1.toNatClampNeg) / l5) - ((μ.1 6 l1.toNatClampNeg) / l5) / 10 * 10) - 1))), .int l2] μ (fun ρ μ1 => ∃ r2 : Int32, ρ = .int r2 ∧ (vp_in ((((μ.1 6 l1.toNatClampNeg) / l5) - ((μ.1 6 l1.toNatClampNeg) / l5) / 10 * 10) - 1) 8 ∧ (Call d y_M_adds [.ref 0, .int (μ1.1 14 (Int32.toNatClampNeg ((((μ.1 6 l1.toNatClampNeg) / l5) - ((μ.1 6 l1.toNatClampNeg) / l5) / 10 * 10) - 1))), .int l2, .int ((((μ.1 6 l1.toNatClampNeg) / l5) - ((μ.1 6 l1.toNatClampNeg) / l5) / 10 * 10) - 1)] μ1 (fun ρ μ3 => ∃ r4 : Int32, ρ = .int r4 ∧ (vp_in ((((μ.1 6 l1.toNatClampNeg) / l5) - ((μ.1 6 l1.toNatClampNeg) / l5) / 10 * 10) - 1) 8 ∧ (((999 : Int32) ≤ (μ3.1 14 (Int32.toNatClampNeg ((((μ.1 6 l1.toNatClampNeg) / l5) - ((μ.1 6 l1.toNatClampNeg) / l5) / 10 * 10) - 1))) → (vp_in ((((μ.1 6 l1.toNatClampNeg) / l5) - ((μ.1 6 l1.toNatClampNeg) / l5) / 10 * 10) - 1) 8 ∧ ∀ μ5 : Mem, μ5 = wI μ3 14 (upd (μ3.1 14) (Int32.toNatClampNeg ((((μ.1 6 l1.toNatClampNeg) / l5) - ((μ.1 6 l1.toNatClampNeg) / l5) / 10 * 10) - 1)) 999) → (¬ (10 : Int32) = 0 ∧ (AA (Call d) y_M_writes Q 21 [.ref 0, .int l1, .int l2, .int l3, .int (l4 + (r2 + r4)), .int (l5 / 10), .int ((((μ.1 6 l1.toNatClampNeg) / l5) - ((μ.1 6 l1.toNatClampNeg) / l5) / 10 * 10) - 1)] [] μ5)))) ∧
(¬ (999 : Int32) ≤ (μ3.1 14 (Int32.toNatClampNeg ((((μ.1 6 l1.toNatClampNeg) / l5) - ((μ.1 6 l1.toNatClampNeg) / l5) / 10 * 10) - 1))) → (vp_in ((((μ.1 6 l1.toNatClampNeg) / l5) - ((μ.1 6 l1.toNatClampNeg) / l5) / 10 * 10) - 1) 8 ∧ (vp_in ((((μ.1 6 l1.toNatClampNeg) / l5) - ((μ.1 6 l1.toNatClampNeg) / l5) / 10 * 10) - 1) 8 ∧ ∀ μ6 : Mem, μ6 = wI μ3 14 (upd (μ3.1 14) (Int32.toNatClampNeg ((((μ.1 6 l1.toNatClampNeg) / l5) - ((μ.1 6 l1.toNatClampNeg) / l5) / 10 * 10) - 1)) ((μ3.1 14 (Int32.toNatClampNeg ((((μ.1 6 l1.toNatClampNeg) / l5) - ((μ.1 6 l1.toNatClampNeg) / l5) / 10 * 10) - 1))) + 1)) → (¬ (10 : Int32) = 0 ∧ (AA (Call d) y_M_writes Q 21 [.ref 0, .int l1, .int l2, .int l3, .int (l4 + (r2 + r4)), .int (l5 / 10), .int ((((μ.1 6 l1.toNatClampNeg) / l5) - ((μ.1 6 l1.toNatClampNeg) / l5) / 10 * 10) - 1)] [] μ6)))))))))))))))))) : AA (Call d) y_M_writes Q 21 [.ref 0, .int l1, .int l2, .int l3, .int l4, .int l5, un] [] μ := go_in 55 (code := pr_M_writes) (stops := [4, 21]) rfl rfl hNF
set_option maxRecDepth 20000 in
theorem b_M_costOf_0 {d : Nat} {Q : QQ} {μ : Mem} {a : Int32} {b : Int32} (hNF : AA (Call d) y_M_costOf Q 2 [.ref 0, .int a, .int b, .int 0, un] [] μ) : AA (Call d) y_M_costOf Q 0 [.ref 0, .int a, .int b, un, un] [] μ := go_in 3 (code := pr_M_costOf) (stops := [2, 22]) rfl rfl hNF
set_option maxRecDepth 20000 in
theorem b_M_costOf_2 {d : Nat} {Q : QQ} {μ : Mem} {l1 : Int32} {l2 : Int32} {l3 : Int32} (hNF : ((8 : Int32) ≤ l3 → (Call d y_M_writes [.ref 0, .int l1, .int l2] μ (fun ρ μ1 => ∃ r2 : Int32, ρ = .int r2 ∧ (AA (Call d) y_M_costOf Q 22 [.ref 0, .int l1, .int l2, .int r2, .int 0] [] μ1)))) ∧
(¬ (8 : Int32) ≤ l3 → (vp_in l3 8 ∧ (vp_in l3 8 ∧ ∀ μ3 : Mem, μ3 = wI μ 15 (upd (μ.1 15) l3.toNatClampNeg (μ.1 14 l3.toNatClampNeg)) → (AA (Call d) y_M_costOf Q 2 [.ref 0, .int l1, .int l2, .int (l3 + 1), un] [] μ3))))) : AA (Call d) y_M_costOf Q 2 [.ref 0, .int l1, .int l2, .int l3, un] [] μ := go_in 14 (code := pr_M_costOf) (stops := [2, 22]) rfl rfl hNF
set_option maxRecDepth 20000 in
theorem b_M_costOf_22 {d : Nat} {Q : QQ} {μ : Mem} {l1 : Int32} {l2 : Int32} {l3 : Int32} {l4 : Int32} (hNF : ((8 : Int32) ≤ l4 → (Q (.int l3) μ)) ∧
(¬ (8 : Int32) ≤ l4 → (vp_in l4 8 ∧ (vp_in l4 8 ∧ ∀ μ1 : Mem, μ1 = wI μ 14 (upd (μ.1 14) l4.toNatClampNeg (μ.1 15 l4.toNatClampNeg)) → (AA (Call d) y_M_costOf Q 22 [.ref 0, .int l1, .int l2, .int l3, .int (l4 + 1)] [] μ1))))) : AA (Call d) y_M_costOf Q 22 [.ref 0, .int l1, .int l2, .int l3, .int l4] [] μ := go_in 14 (code := pr_M_costOf) (stops := [2, 22]) rfl rfl hNF
set_option maxRecDepth 20000 in
theorem b_M_ages_0 {d : Nat} {Q : QQ} {μ : Mem} (hNF : AA (Call d) y_M_ages Q 2 [.ref 0, .int 0] [] μ) : AA (Call d) y_M_ages Q 0 [.ref 0, un] [] μ := go_in 3 (code := pr_M_ages) (stops := [2]) rfl rfl hNF
set_option maxRecDepth 20000 in
theorem b_M_ages_2 {d : Nat} {Q : QQ} {μ : Mem} {l1 : Int32} (hNF : ((8 : Int32) ≤ l1 → (Q .null μ)) ∧
(¬ (8 : Int32) ≤ l1 → (vp_in l1 8 ∧ (Call d y_M_agedBy [.ref 0, .int (μ.1 14 l1.toNatClampNeg)] μ (fun ρ μ1 => ∃ r2 : Int32, ρ = .int r2 ∧ (vp_in l1 8 ∧ ∀ μ3 : Mem, μ3 = wI μ1 14 (upd (μ1.1 14) l1.toNatClampNeg r2) → (AA (Call d) y_M_ages Q 2 [.ref 0, .int (l1 + 1)] [] μ3))))))) : AA (Call d) y_M_ages Q 2 [.ref 0, .int l1] [] μ := go_in 16 (code := pr_M_ages) (stops := [2]) rfl rfl hNF
set_option maxRecDepth 20000 in
theorem b_M_rowSum_0 {d : Nat} {Q : QQ} {μ : Mem} (hNF : AA (Call d) y_M_rowSum Q 4 [.ref 0, .int 0, .int 0] [] μ) : AA (Call d) y_M_rowSum Q 0 [.ref 0, un, un] [] μ := go_in 5 (code := pr_M_rowSum) (stops := [4]) rfl rfl hNF
set_option maxRecDepth 20000 in
theorem b_M_rowSum_4 {d : Nat} {Q : QQ} {μ : Mem} {l1 : Int32} {l2 : Int32} (hNF : ((8 : Int32) ≤ l2 → (Q (.int l1) μ)) ∧
(¬ (8 : Int32) ≤ l2 → (vp_in l2 8 ∧ (AA (Call d) y_M_rowSum Q 4 [.ref 0, .int (l1 + (μ.1 14 l2.toNatClampNeg)), .int (l2 + 1)] [] μ)))) : AA (Call d) y_M_rowSum Q 4 [.ref 0, .int l1, .int l2] [] μ := go_in 13 (code := pr_M_rowSum) (stops := [4]) rfl rfl hNF
set_option maxRecDepth 20000 in
theorem b_M_keeps_0 {d : Nat} {Q : QQ} {μ : Mem} (hNF : AA (Call d) y_M_keeps Q 2 [.ref 0, .int 0] [] μ) : AA (Call d) y_M_keeps Q 0 [.ref 0, un] [] μ := go_in 3 (code := pr_M_keeps) (stops := [2]) rfl rfl hNF
set_option maxRecDepth 20000 in
theorem b_M_keeps_2 {d : Nat} {Q : QQ} {μ : Mem} {l1 : Int32} (hNF : ((8 : Int32) ≤ l1 → (Q .null μ)) ∧
(¬ (8 : Int32) ≤ l1 → (vp_in l1 8 ∧ (vp_in l1 8 ∧ ∀ μ1 : Mem, μ1 = wI μ 4 (upd (μ.1 4) l1.toNatClampNeg (μ.1 14 l1.toNatClampNeg)) → (AA (Call d) y_M_keeps Q 2 [.ref 0, .int (l1 + 1)] [] μ1))))) : AA (Call d) y_M_keeps Q 2 [.ref 0, .int l1] [] μ := go_in 14 (code := pr_M_keeps) (stops := [2]) rfl rfl hNF
set_option maxRecDepth 20000 in
theorem b_M_costs_0 {d : Nat} {Q : QQ} {μ : Mem} {a : Int32} {b : Int32} (hNF : Call d y_M_isWordNumber [.ref 0, .int a] μ (fun ρ μ1 => ∃ r2 : Int32, ρ = .int r2 ∧ ((r2 = 0 → (Q (.int (-2)) μ1)) ∧
(¬ r2 = 0 → (Call d y_M_in [.long (Int32.toInt64 b), .long 0, .long 23] μ1 (fun ρ μ3 => ∃ r4 : Int32, ρ = .int r4 ∧ ((¬ r4 = 0 → (Call d y_M_takes [.ref 0] μ3 (fun _ μ5 => (Call d y_M_writes [.ref 0, .int a, .int b] μ5 (fun ρ μ6 => ∃ r7 : Int32, ρ = .int r7 ∧ (Q (.int r7) μ6)))))) ∧
(r4 = 0 → (Q (.int (-2)) μ3))))))))) : AA (Call d) y_M_costs Q 0 [.ref 0, .int a, .int b] [] μ := go_in 17 (code := pr_M_costs) (stops := []) rfl rfl hNF
set_option maxRecDepth 20000 in
theorem b_M_write_0 {d : Nat} {Q : QQ} {μ : Mem} {a : Int32} {b : Int32} (hNF : Call d y_M_isWordNumber [.ref 0, .int a] μ (fun ρ μ1 => ∃ r2 : Int32, ρ = .int r2 ∧ ((r2 = 0 → (Q (.int (-2)) μ1)) ∧
(¬ r2 = 0 → (Call d y_M_in [.long (Int32.toInt64 b), .long 0, .long 23] μ1 (fun ρ μ3 => ∃ r4 : Int32, ρ = .int r4 ∧ ((¬ r4 = 0 → (Call d y_M_takes [.ref 0] μ3 (fun _ μ5 => (Call d y_M_writes [.ref 0, .int a, .int b] μ5 (fun ρ μ6 => ∃ r7 : Int32, ρ = .int r7 ∧ (Call d y_M_keeps [.ref 0] μ6 (fun _ μ8 => (Q (.int r7) μ8)))))))) ∧
(r4 = 0 → (Q (.int (-2)) μ3))))))))) : AA (Call d) y_M_write Q 0 [.ref 0, .int a, .int b, un] [] μ := go_in 21 (code := pr_M_write) (stops := []) rfl rfl hNF
set_option maxRecDepth 20000 in
theorem b_M_pass_0 {d : Nat} {Q : QQ} {μ : Mem} {a : Int32} (hNF : Call d y_M_in [.long (Int32.toInt64 a), .long 0, .long 24] μ (fun ρ μ1 => ∃ r2 : Int32, ρ = .int r2 ∧ ((¬ r2 = 0 → (Call d y_M_takes [.ref 0] μ1 (fun _ μ3 => (AA (Call d) y_M_pass Q 12 [.ref 0, .int a, .int 0] [] μ3)))) ∧
(r2 = 0 → (Q (.int (-2)) μ1))))) : AA (Call d) y_M_pass Q 0 [.ref 0, .int a, un] [] μ := go_in 11 (code := pr_M_pass) (stops := [12]) rfl rfl hNF
set_option maxRecDepth 20000 in
theorem b_M_pass_12 {d : Nat} {Q : QQ} {μ : Mem} {l1 : Int32} {l2 : Int32} (hNF : (l1 ≤ l2 → (Call d y_M_keeps [.ref 0] μ (fun _ μ1 => (Call d y_M_rowSum [.ref 0] μ1 (fun ρ μ2 => ∃ r3 : Int32, ρ = .int r3 ∧ (Q (.int r3) μ2)))))) ∧
(¬ l1 ≤ l2 → (Call d y_M_ages [.ref 0] μ (fun _ μ4 => (AA (Call d) y_M_pass Q 12 [.ref 0, .int l1, .int (l2 + 1)] [] μ4))))) : AA (Call d) y_M_pass Q 12 [.ref 0, .int l1, .int l2] [] μ := go_in 8 (code := pr_M_pass) (stops := [12]) rfl rfl hNF
set_option maxRecDepth 20000 in
theorem b_M_cheapest_0 {d : Nat} {Q : QQ} {μ : Mem} {a : Int32} {b : Int32} {c : Int32} (hNF : Call d y_M_in [.long (Int32.toInt64 a), .long 0, .long 3] μ (fun ρ μ1 => ∃ r2 : Int32, ρ = .int r2 ∧ ((r2 = 0 → (Q (.int (-2)) μ1)) ∧
(¬ r2 = 0 → (Call d y_M_in [.long (Int32.toInt64 b), .long 0, .long 23] μ1 (fun ρ μ3 => ∃ r4 : Int32, ρ = .int r4 ∧ ((r4 = 0 → (Q (.int (-2)) μ3)) ∧
(¬ r4 = 0 → (Call d y_M_in [.long (Int32.toInt64 c), .long 0, .long 1] μ3 (fun ρ μ5 => ∃ r6 : Int32, ρ = .int r6 ∧ ((¬ r6 = 0 → (Call d y_M_takes [.ref 0] μ5 (fun _ μ7 => (AA (Call d) y_M_cheapest Q 28 [.ref 0, .int a, .int b, .int c, .int (-1), .int 0, .int 0, un] [] μ7)))) ∧
(r6 = 0 → (Q (.int (-2)) μ5))))))))))))) : AA (Call d) y_M_cheapest Q 0 [.ref 0, .int a, .int b, .int c, un, un, un, un] [] μ := go_in 27 (code := pr_M_cheapest) (stops := [28]) rfl rfl hNF
set_option maxRecDepth 20000 in
theorem b_M_cheapest_28 {d : Nat} {Q : QQ} {μ : Mem} {l1 : Int32} {l2 : Int32} {l3 : Int32} {l4 : Int32} {l5 : Int32} {l6 : Int32} (hNF : ((μ.1 0 10) ≤ l6 → ((l4 = (-1) → (Q (.int l4) μ)) ∧
(¬ l4 = (-1) → ((¬ l3 = 0 → (Q (.int l5) μ)) ∧
(l3 = 0 → (Q (.int l4) μ)))))) ∧
(¬ (μ.1 0 10) ≤ l6 → (vp_in l6 10 ∧ ((¬ (μ.1 5 l6.toNatClampNeg) = l1 → (AA (Call d) y_M_cheapest Q 28 [.ref 0, .int l1, .int l2, .int l3, .int l4, .int l5, .int (l6 + 1), un] [] μ)) ∧
((μ.1 5 l6.toNatClampNeg) = l1 → (Call d y_M_costOf [.ref 0, .int l6, .int l2] μ (fun ρ μ1 => ∃ r2 : Int32, ρ = .int r2 ∧ ((l4 = (-1) → (AA (Call d) y_M_cheapest Q 28 [.ref 0, .int l1, .int l2, .int l3, .int l6, .int r2, .int (l6 + 1), .int r2] [] μ1)) ∧
(¬ l4 = (-1) → ((l5 ≤ r2 → (AA (Call d) y_M_cheapest Q 28 [.ref 0, .int l1, .int l2, .int l3, .int l4, .int l5, .int (l6 + 1), .int r2] [] μ1)) ∧
(¬ l5 ≤ r2 → (AA (Call d) y_M_cheapest Q 28 [.ref 0, .int l1, .int l2, .int l3, .int l6, .int r2, .int (l6 + 1), .int r2] [] μ1)))))))))))) : AA (Call d) y_M_cheapest Q 28 [.ref 0, .int l1, .int l2, .int l3, .int l4, .int l5, .int l6, un] [] μ := go_in 28 (code := pr_M_cheapest) (stops := [28]) rfl rfl hNF
set_option maxRecDepth 20000 in
theorem b_M_turnOf_0 {d : Nat} {Q : QQ} {μ : Mem} {a : Int32} (hNF : vp_in a 5 ∧ ∀ μ1 : Mem, μ1 = wI μ 16 (upd (μ.1 16) a.toNatClampNeg (-1)) → (vp_in a 5 ∧ ∀ μ2 : Mem, μ2 = wI μ1 17 (upd (μ1.1 17) a.toNatClampNeg 0) → (AA (Call d) y_M_turnOf Q 12 [.ref 0, .int a, .int 0, un] [] μ2))) : AA (Call d) y_M_turnOf Q 0 [.ref 0, .int a, un, un] [] μ := go_in 13 (code := pr_M_turnOf) (stops := [12]) rfl rfl hNF
set_option maxRecDepth 20000 in
theorem b_M_turnOf_12 {d : Nat} {Q : QQ} {μ : Mem} {l1 : Int32} {l2 : Int32} (hNF : ((μ.1 0 10) ≤ l2 → (vp_in l1 5 ∧ (((μ.1 16 l1.toNatClampNeg) = (-1) → (Q .null μ)) ∧
(¬ (μ.1 16 l1.toNatClampNeg) = (-1) → (vp_in l1 5 ∧ (vp_in l1 5 ∧ (Call d y_M_writes [.ref 0, .int (μ.1 16 l1.toNatClampNeg), .int (μ.1 8 l1.toNatClampNeg)] μ (fun ρ μ1 => ∃ r2 : Int32, ρ = .int r2 ∧ (Q .null μ1))))))))) ∧
(¬ (μ.1 0 10) ≤ l2 → (vp_in l2 10 ∧ (vp_in l1 5 ∧ ((¬ (μ.1 5 l2.toNatClampNeg) = (μ.1 7 l1.toNatClampNeg) → (AA (Call d) y_M_turnOf Q 12 [.ref 0, .int l1, .int (l2 + 1), un] [] μ)) ∧
((μ.1 5 l2.toNatClampNeg) = (μ.1 7 l1.toNatClampNeg) → (vp_in l1 5 ∧ (Call d y_M_costOf [.ref 0, .int l2, .int (μ.1 8 l1.toNatClampNeg)] μ (fun ρ μ3 => ∃ r4 : Int32, ρ = .int r4 ∧ ((¬ l1 = (μ3.1 0 40) → (vp_in l1 5 ∧ (((μ3.1 9 l1.toNatClampNeg) < r4 → (AA (Call d) y_M_turnOf Q 12 [.ref 0, .int l1, .int (l2 + 1), .int r4] [] μ3)) ∧
(¬ (μ3.1 9 l1.toNatClampNeg) < r4 → (vp_in l1 5 ∧ (((μ3.1 16 l1.toNatClampNeg) = (-1) → (Call d y_M_says [.ref 0, .int 2, .int l1, .int l2] μ3 (fun ρ μ5 => ∃ r6 : Int32, ρ = .int r6 ∧ ((r6 = 0 → (AA (Call d) y_M_turnOf Q 12 [.ref 0, .int l1, .int (l2 + 1), .int r4] [] μ5)) ∧
(¬ r6 = 0 → (vp_in l1 5 ∧ ∀ μ7 : Mem, μ7 = wI μ5 16 (upd (μ5.1 16) l1.toNatClampNeg l2) → (vp_in l1 5 ∧ ∀ μ8 : Mem, μ8 = wI μ7 17 (upd (μ7.1 17) l1.toNatClampNeg r4) → (AA (Call d) y_M_turnOf Q 12 [.ref 0, .int l1, .int (l2 + 1), .int r4] [] μ8)))))))) ∧
(¬ (μ3.1 16 l1.toNatClampNeg) = (-1) → (vp_in l1 5 ∧ (((μ3.1 17 l1.toNatClampNeg) ≤ r4 → (AA (Call d) y_M_turnOf Q 12 [.ref 0, .int l1, .int (l2 + 1), .int r4] [] μ3)) ∧
(¬ (μ3.1 17 l1.toNatClampNeg) ≤ r4 → (Call d y_M_says [.ref 0, .int 2, .int l1, .int l2] μ3 (fun ρ μ9 => ∃ r10 : Int32, ρ = .int r10 ∧ ((r10 = 0 → (AA (Call d) y_M_turnOf Q 12 [.ref 0, .int l1, .int (l2 + 1), .int r4] [] μ9)) ∧
(¬ r10 = 0 → (vp_in l1 5 ∧ ∀ μ11 : Mem, μ11 = wI μ9 16 (upd (μ9.1 16) l1.toNatClampNeg l2) → (vp_in l1 5 ∧ ∀ μ12 : Mem, μ12 = wI μ11 17 (upd (μ11.1 17) l1.toNatClampNeg r4) → (AA (Call d) y_M_turnOf Q 12 [.ref 0, .int l1, .int (l2 + 1), .int r4] [] μ12))))))))))))))))) ∧
(l1 = (μ3.1 0 40) → ((¬ r4 = (μ3.1 0 41) → (vp_in l1 5 ∧ (((μ3.1 9 l1.toNatClampNeg) < r4 → (AA (Call d) y_M_turnOf Q 12 [.ref 0, .int l1, .int (l2 + 1), .int r4] [] μ3)) ∧
(¬ (μ3.1 9 l1.toNatClampNeg) < r4 → (vp_in l1 5 ∧ (((μ3.1 16 l1.toNatClampNeg) = (-1) → (Call d y_M_says [.ref 0, .int 2, .int l1, .int l2] μ3 (fun ρ μ13 => ∃ r14 : Int32, ρ = .int r14 ∧ ((r14 = 0 → (AA (Call d) y_M_turnOf Q 12 [.ref 0, .int l1, .int (l2 + 1), .int r4] [] μ13)) ∧
(¬ r14 = 0 → (vp_in l1 5 ∧ ∀ μ15 : Mem, μ15 = wI μ13 16 (upd (μ13.1 16) l1.toNatClampNeg l2) → (vp_in l1 5 ∧ ∀ μ16 : Mem, μ16 = wI μ15 17 (upd (μ15.1 17) l1.toNatClampNeg r4) → (AA (Call d) y_M_turnOf Q 12 [.ref 0, .int l1, .int (l2 + 1), .int r4] [] μ16)))))))) ∧
(¬ (μ3.1 16 l1.toNatClampNeg) = (-1) → (vp_in l1 5 ∧ (((μ3.1 17 l1.toNatClampNeg) ≤ r4 → (AA (Call d) y_M_turnOf Q 12 [.ref 0, .int l1, .int (l2 + 1), .int r4] [] μ3)) ∧
(¬ (μ3.1 17 l1.toNatClampNeg) ≤ r4 → (Call d y_M_says [.ref 0, .int 2, .int l1, .int l2] μ3 (fun ρ μ17 => ∃ r18 : Int32, ρ = .int r18 ∧ ((r18 = 0 → (AA (Call d) y_M_turnOf Q 12 [.ref 0, .int l1, .int (l2 + 1), .int r4] [] μ17)) ∧
(¬ r18 = 0 → (vp_in l1 5 ∧ ∀ μ19 : Mem, μ19 = wI μ17 16 (upd (μ17.1 16) l1.toNatClampNeg l2) → (vp_in l1 5 ∧ ∀ μ20 : Mem, μ20 = wI μ19 17 (upd (μ19.1 17) l1.toNatClampNeg r4) → (AA (Call d) y_M_turnOf Q 12 [.ref 0, .int l1, .int (l2 + 1), .int r4] [] μ20))))))))))))))))) ∧
(r4 = (μ3.1 0 41) → (∀ μ21 : Mem, μ21 = wI μ3 0 (upd (μ3.1 0) 42 ((μ3.1 0 42) ||| (1 <<< (l2 &&& 31)))) → (vp_in l1 5 ∧ (((μ21.1 9 l1.toNatClampNeg) < r4 → (AA (Call d) y_M_turnOf Q 12 [.ref 0, .int l1, .int (l2 + 1), .int r4] [] μ21)) ∧
(¬ (μ21.1 9 l1.toNatClampNeg) < r4 → (vp_in l1 5 ∧ (((μ21.1 16 l1.toNatClampNeg) = (-1) → (Call d y_M_says [.ref 0, .int 2, .int l1, .int l2] μ21 (fun ρ μ22 => ∃ r23 : Int32, ρ = .int r23 ∧ ((r23 = 0 → (AA (Call d) y_M_turnOf Q 12 [.ref 0, .int l1, .int (l2 + 1), .int r4] [] μ22)) ∧
(¬ r23 = 0 → (vp_in l1 5 ∧ ∀ μ24 : Mem, μ24 = wI μ22 16 (upd (μ22.1 16) l1.toNatClampNeg l2) → (vp_in l1 5 ∧ ∀ μ25 : Mem, μ25 = wI μ24 17 (upd (μ24.1 17) l1.toNatClampNeg r4) → (AA (Call d) y_M_turnOf Q 12 [.ref 0, .int l1, .int (l2 + 1), .int r4] [] μ25)))))))) ∧
(¬ (μ21.1 16 l1.toNatClampNeg) = (-1) → (vp_in l1 5 ∧ (((μ21.1 17 l1.toNatClampNeg) ≤ r4 → (AA (Call d) y_M_turnOf Q 12 [.ref 0, .int l1, .int (l2 + 1), .int r4] [] μ21)) ∧
(¬ (μ21.1 17 l1.toNatClampNeg) ≤ r4 → (Call d y_M_says [.ref 0, .int 2, .int l1, .int l2] μ21 (fun ρ μ26 => ∃ r27 : Int32, ρ = .int r27 ∧ ((r27 = 0 → (AA (Call d) y_M_turnOf Q 12 [.ref 0, .int l1, .int (l2 + 1), .int r4] [] μ26)) ∧
(¬ r27 = 0 → (vp_in l1 5 ∧ ∀ μ28 : Mem, μ28 = wI μ26 16 (upd (μ26.1 16) l1.toNatClampNeg l2) → (vp_in l1 5 ∧ ∀ μ29 : Mem, μ29 = wI μ28 17 (upd (μ28.1 17) l1.toNatClampNeg r4) → (AA (Call d) y_M_turnOf Q 12 [.ref 0, .int l1, .int (l2 + 1), .int r4] [] μ29)))))))))))))))))))))))))))))) : AA (Call d) y_M_turnOf Q 12 [.ref 0, .int l1, .int l2, un] [] μ := go_in 74 (code := pr_M_turnOf) (stops := [12]) rfl rfl hNF
set_option maxRecDepth 20000 in
theorem b_M_passesDay_0 {d : Nat} {Q : QQ} {μ : Mem} (hNF : AA (Call d) y_M_passesDay Q 2 [.ref 0, .int 0, un] [] μ) : AA (Call d) y_M_passesDay Q 0 [.ref 0, un, un] [] μ := go_in 3 (code := pr_M_passesDay) (stops := [2, 7]) rfl rfl hNF
set_option maxRecDepth 20000 in
theorem b_M_passesDay_2 {d : Nat} {Q : QQ} {μ : Mem} {l1 : Int32} (hNF : ((24 : Int32) ≤ l1 → (Q .null μ)) ∧
(¬ (24 : Int32) ≤ l1 → (AA (Call d) y_M_passesDay Q 7 [.ref 0, .int l1, .int 0] [] μ))) : AA (Call d) y_M_passesDay Q 2 [.ref 0, .int l1, un] [] μ := go_in 6 (code := pr_M_passesDay) (stops := [2, 7]) rfl rfl hNF
set_option maxRecDepth 20000 in
theorem b_M_passesDay_7 {d : Nat} {Q : QQ} {μ : Mem} {l1 : Int32} {l2 : Int32} (hNF : ((μ.1 0 14) ≤ l2 → (Call d y_M_ages [.ref 0] μ (fun _ μ1 => (AA (Call d) y_M_passesDay Q 2 [.ref 0, .int (l1 + 1), .int l2] [] μ1)))) ∧
(¬ (μ.1 0 14) ≤ l2 → (vp_in l2 5 ∧ ((¬ (μ.1 8 l2.toNatClampNeg) = l1 → (AA (Call d) y_M_passesDay Q 7 [.ref 0, .int l1, .int (l2 + 1)] [] μ)) ∧
((μ.1 8 l2.toNatClampNeg) = l1 → (Call d y_M_turnOf [.ref 0, .int l2] μ (fun _ μ2 => (AA (Call d) y_M_passesDay Q 7 [.ref 0, .int l1, .int (l2 + 1)] [] μ2)))))))) : AA (Call d) y_M_passesDay Q 7 [.ref 0, .int l1, .int l2] [] μ := go_in 16 (code := pr_M_passesDay) (stops := [2, 7]) rfl rfl hNF
set_option maxRecDepth 20000 in
theorem b_M_dayNow_0 {d : Nat} {Q : QQ} {μ : Mem} (hNF : Call d y_M_takes [.ref 0] μ (fun _ μ1 => (Call d y_M_passesDay [.ref 0] μ1 (fun _ μ2 => (Q .null μ2))))) : AA (Call d) y_M_dayNow Q 0 [.ref 0] [] μ := go_in 5 (code := pr_M_dayNow) (stops := []) rfl rfl hNF
set_option maxRecDepth 20000 in
theorem b_M_goodOf_0 {d : Nat} {Q : QQ} {μ : Mem} {a : Int32} (hNF : vp_in a 5 ∧ ((¬ (μ.1 16 a.toNatClampNeg) = (-1) → (vp_in a 5 ∧ (Call d y_M_says [.ref 0, .int 1, .int a, .int (μ.1 16 a.toNatClampNeg)] μ (fun ρ μ1 => ∃ r2 : Int32, ρ = .int r2 ∧ (Call d y_M_within [.int r2, .int 0, .int 999] μ1 (fun ρ μ3 => ∃ r4 : Int32, ρ = .int r4 ∧ (vp_in a 5 ∧ (Q (.int (r4 - (μ3.1 17 a.toNatClampNeg))) μ3)))))))) ∧
((μ.1 16 a.toNatClampNeg) = (-1) → (Q (.int 0) μ)))) : AA (Call d) y_M_goodOf Q 0 [.ref 0, .int a] [] μ := go_in 23 (code := pr_M_goodOf) (stops := []) rfl rfl hNF
set_option maxRecDepth 20000 in
theorem b_M_allGood_0 {d : Nat} {Q : QQ} {μ : Mem} (hNF : AA (Call d) y_M_allGood Q 4 [.ref 0, .int 0, .int 0] [] μ) : AA (Call d) y_M_allGood Q 0 [.ref 0, un, un] [] μ := go_in 5 (code := pr_M_allGood) (stops := [4]) rfl rfl hNF
set_option maxRecDepth 20000 in
theorem b_M_allGood_4 {d : Nat} {Q : QQ} {μ : Mem} {l1 : Int32} {l2 : Int32} (hNF : ((μ.1 0 14) ≤ l2 → (Q (.int l1) μ)) ∧
(¬ (μ.1 0 14) ≤ l2 → (Call d y_M_goodOf [.ref 0, .int l2] μ (fun ρ μ1 => ∃ r2 : Int32, ρ = .int r2 ∧ (AA (Call d) y_M_allGood Q 4 [.ref 0, .int (l1 + r2), .int (l2 + 1)] [] μ1))))) : AA (Call d) y_M_allGood Q 4 [.ref 0, .int l1, .int l2] [] μ := go_in 13 (code := pr_M_allGood) (stops := [4]) rfl rfl hNF
set_option maxRecDepth 20000 in
theorem b_M_saying_0 {d : Nat} {Q : QQ} {μ : Mem} (hNF : AA (Call d) y_M_saying Q 4 [.ref 0, .int 0, .int 0] [] μ) : AA (Call d) y_M_saying Q 0 [.ref 0, un, un] [] μ := go_in 5 (code := pr_M_saying) (stops := [4]) rfl rfl hNF
set_option maxRecDepth 20000 in
theorem b_M_saying_4 {d : Nat} {Q : QQ} {μ : Mem} {l1 : Int32} {l2 : Int32} (hNF : ((μ.1 0 14) ≤ l2 → (Q (.int l1) μ)) ∧
(¬ (μ.1 0 14) ≤ l2 → (vp_in l2 5 ∧ ((¬ (μ.1 16 l2.toNatClampNeg) = (-1) → (AA (Call d) y_M_saying Q 4 [.ref 0, .int (l1 + 1), .int (l2 + 1)] [] μ)) ∧
((μ.1 16 l2.toNatClampNeg) = (-1) → (AA (Call d) y_M_saying Q 4 [.ref 0, .int (l1 + 0), .int (l2 + 1)] [] μ)))))) : AA (Call d) y_M_saying Q 4 [.ref 0, .int l1, .int l2] [] μ := go_in 18 (code := pr_M_saying) (stops := [4]) rfl rfl hNF
set_option maxRecDepth 20000 in
theorem b_M_day_0 {d : Nat} {Q : QQ} {μ : Mem} {a : Int32} {b : Int32} (hNF : Call d y_M_isWriter [.ref 0, .int a] μ (fun ρ μ1 => ∃ r2 : Int32, ρ = .int r2 ∧ ((r2 = 0 → (Q (.int (-100000)) μ1)) ∧
(¬ r2 = 0 → (Call d y_M_in [.long (Int32.toInt64 b), .long 0, .long 2] μ1 (fun ρ μ3 => ∃ r4 : Int32, ρ = .int r4 ∧ ((¬ r4 = 0 → (Call d y_M_dayNow [.ref 0] μ3 (fun _ μ5 => ((¬ b = 0 → ((¬ b = 1 → (Call d y_M_goodOf [.ref 0, .int a] μ5 (fun ρ μ6 => ∃ r7 : Int32, ρ = .int r7 ∧ (Q (.int r7) μ6)))) ∧
(b = 1 → (vp_in a 5 ∧ (Q (.int (μ5.1 16 a.toNatClampNeg)) μ5))))) ∧
(b = 0 → (vp_in a 5 ∧ (Q (.int (μ5.1 17 a.toNatClampNeg)) μ5))))))) ∧
(r4 = 0 → (Q (.int (-100000)) μ3))))))))) : AA (Call d) y_M_day Q 0 [.ref 0, .int a, .int b] [] μ := go_in 23 (code := pr_M_day) (stops := []) rfl rfl hNF
set_option maxRecDepth 20000 in
theorem b_M_all_0 {d : Nat} {Q : QQ} {μ : Mem} {a : Int32} (hNF : Call d y_M_in [.long (Int32.toInt64 a), .long 0, .long 3] μ (fun ρ μ1 => ∃ r2 : Int32, ρ = .int r2 ∧ ((¬ r2 = 0 → (Call d y_M_dayNow [.ref 0] μ1 (fun _ μ3 => (((2 : Int32) ≤ a → ((¬ a = 3 → (vp_in 0 8 ∧ (vp_in 0 8 ∧ (AA (Call d) y_M_all Q 55 [.ref 0, .int a, .int (μ3.1 14 (Int32.toNatClampNeg 0)), .int (μ3.1 14 (Int32.toNatClampNeg 0)), .int 1] [] μ3)))) ∧
(a = 3 → (AA (Call d) y_M_all Q 28 [.ref 0, .int a, .int 0, .int 0, un] [] μ3)))) ∧
(¬ (2 : Int32) ≤ a → ((¬ a = 0 → (Call d y_M_saying [.ref 0] μ3 (fun ρ μ4 => ∃ r5 : Int32, ρ = .int r5 ∧ (Q (.int r5) μ4)))) ∧
(a = 0 → (Call d y_M_allGood [.ref 0] μ3 (fun ρ μ6 => ∃ r7 : Int32, ρ = .int r7 ∧ (Q (.int r7) μ6)))))))))) ∧
(r2 = 0 → (Q (.int (-100000)) μ1))))) : AA (Call d) y_M_all Q 0 [.ref 0, .int a, un, un, un] [] μ := go_in 27 (code := pr_M_all) (stops := [28, 55]) rfl rfl hNF
set_option maxRecDepth 20000 in
theorem b_M_all_28 {d : Nat} {Q : QQ} {μ : Mem} {l1 : Int32} {l2 : Int32} {l3 : Int32} (hNF : ((μ.1 0 14) ≤ l3 → (Q (.int l2) μ)) ∧
(¬ (μ.1 0 14) ≤ l3 → (vp_in l3 5 ∧ (AA (Call d) y_M_all Q 28 [.ref 0, .int l1, .int (l2 + (μ.1 17 l3.toNatClampNeg)), .int (l3 + 1), un] [] μ)))) : AA (Call d) y_M_all Q 28 [.ref 0, .int l1, .int l2, .int l3, un] [] μ := go_in 14 (code := pr_M_all) (stops := [28, 55]) rfl rfl hNF
set_option maxRecDepth 20000 in
theorem b_M_all_55 {d : Nat} {Q : QQ} {μ : Mem} {l1 : Int32} {l2 : Int32} {l3 : Int32} {l4 : Int32} (hNF : ((8 : Int32) ≤ l4 → (Q (.int (l2 - l3)) μ)) ∧
(¬ (8 : Int32) ≤ l4 → (vp_in l4 8 ∧ (((μ.1 14 l4.toNatClampNeg) ≤ l2 → (vp_in l4 8 ∧ ((l3 ≤ (μ.1 14 l4.toNatClampNeg) → (AA (Call d) y_M_all Q 55 [.ref 0, .int l1, .int l2, .int l3, .int (l4 + 1)] [] μ)) ∧
(¬ l3 ≤ (μ.1 14 l4.toNatClampNeg) → (vp_in l4 8 ∧ (AA (Call d) y_M_all Q 55 [.ref 0, .int l1, .int l2, .int (μ.1 14 l4.toNatClampNeg), .int (l4 + 1)] [] μ)))))) ∧
(¬ (μ.1 14 l4.toNatClampNeg) ≤ l2 → (vp_in l4 8 ∧ (vp_in l4 8 ∧ ((l3 ≤ (μ.1 14 l4.toNatClampNeg) → (AA (Call d) y_M_all Q 55 [.ref 0, .int l1, .int (μ.1 14 l4.toNatClampNeg), .int l3, .int (l4 + 1)] [] μ)) ∧
(¬ l3 ≤ (μ.1 14 l4.toNatClampNeg) → (vp_in l4 8 ∧ (AA (Call d) y_M_all Q 55 [.ref 0, .int l1, .int (μ.1 14 l4.toNatClampNeg), .int (μ.1 14 l4.toNatClampNeg), .int (l4 + 1)] [] μ))))))))))) : AA (Call d) y_M_all Q 55 [.ref 0, .int l1, .int l2, .int l3, .int l4] [] μ := go_in 30 (code := pr_M_all) (stops := [28, 55]) rfl rfl hNF
set_option maxRecDepth 20000 in
theorem b_M_seeks_0 {d : Nat} {Q : QQ} {μ : Mem} {a : Int32} (hNF : vp_in a 5 ∧ (AA (Call d) y_M_seeks Q 7 [.ref 0, .int a, .int (μ.1 8 a.toNatClampNeg), .int 0, un] [] μ)) : AA (Call d) y_M_seeks Q 0 [.ref 0, .int a, un, un, un] [] μ := go_in 8 (code := pr_M_seeks) (stops := [7]) rfl rfl hNF
set_option maxRecDepth 20000 in
theorem b_M_seeks_7 {d : Nat} {Q : QQ} {μ : Mem} {l1 : Int32} {l2 : Int32} {l3 : Int32} (hNF : ((24 : Int32) ≤ l3 → (vp_in l1 5 ∧ ∀ μ1 : Mem, μ1 = wI μ 8 (upd (μ.1 8) l1.toNatClampNeg l2) → (Q .null μ1))) ∧
(¬ (24 : Int32) ≤ l3 → (vp_in l1 5 ∧ ∀ μ2 : Mem, μ2 = wI μ 8 (upd (μ.1 8) l1.toNatClampNeg l3) → (Call d y_M_dayNow [.ref 0] μ2 (fun _ μ3 => (Call d y_M_goodOf [.ref 0, .int l1] μ3 (fun ρ μ4 => ∃ r5 : Int32, ρ = .int r5 ∧ ((l3 = 0 → (∀ μ6 : Mem, μ6 = wI μ4 0 (upd (μ4.1 0) 43 l3) → (∀ μ7 : Mem, μ7 = wI μ6 0 (upd (μ6.1 0) 44 r5) → (AA (Call d) y_M_seeks Q 7 [.ref 0, .int l1, .int l2, .int (l3 + 1), .int r5] [] μ7)))) ∧
(¬ l3 = 0 → ((r5 ≤ (μ4.1 0 44) → (AA (Call d) y_M_seeks Q 7 [.ref 0, .int l1, .int l2, .int (l3 + 1), .int r5] [] μ4)) ∧
(¬ r5 ≤ (μ4.1 0 44) → (∀ μ8 : Mem, μ8 = wI μ4 0 (upd (μ4.1 0) 43 l3) → (∀ μ9 : Mem, μ9 = wI μ8 0 (upd (μ8.1 0) 44 r5) → (AA (Call d) y_M_seeks Q 7 [.ref 0, .int l1, .int l2, .int (l3 + 1), .int r5] [] μ9)))))))))))))) : AA (Call d) y_M_seeks Q 7 [.ref 0, .int l1, .int l2, .int l3, un] [] μ := go_in 29 (code := pr_M_seeks) (stops := [7]) rfl rfl hNF
set_option maxRecDepth 20000 in
theorem b_M_when_0 {d : Nat} {Q : QQ} {μ : Mem} {a : Int32} {b : Int32} (hNF : Call d y_M_isWriter [.ref 0, .int a] μ (fun ρ μ1 => ∃ r2 : Int32, ρ = .int r2 ∧ ((r2 = 0 → (Q (.int (-100000)) μ1)) ∧
(¬ r2 = 0 → (Call d y_M_in [.long (Int32.toInt64 b), .long 0, .long 1] μ1 (fun ρ μ3 => ∃ r4 : Int32, ρ = .int r4 ∧ ((¬ r4 = 0 → (Call d y_M_seeks [.ref 0, .int a] μ3 (fun _ μ5 => ((¬ b = 0 → (Q (.int (μ5.1 0 44)) μ5)) ∧
(b = 0 → (Q (.int (μ5.1 0 43)) μ5)))))) ∧
(r4 = 0 → (Q (.int (-100000)) μ3))))))))) : AA (Call d) y_M_when Q 0 [.ref 0, .int a, .int b] [] μ := go_in 19 (code := pr_M_when) (stops := []) rfl rfl hNF
set_option maxRecDepth 20000 in
theorem b_M_choose_0 {d : Nat} {Q : QQ} {μ : Mem} {a : Int32} (hNF : Call d y_M_isWriter [.ref 0, .int a] μ (fun ρ μ1 => ∃ r2 : Int32, ρ = .int r2 ∧ ((¬ r2 = 0 → (Call d y_M_seeks [.ref 0, .int a] μ1 (fun _ μ3 => (vp_in a 5 ∧ ∀ μ4 : Mem, μ4 = wI μ3 8 (upd (μ3.1 8) a.toNatClampNeg (μ3.1 0 43)) → (Q (.int (μ4.1 0 44)) μ4))))) ∧
(r2 = 0 → (Q (.int (-100000)) μ1))))) : AA (Call d) y_M_choose Q 0 [.ref 0, .int a] [] μ := go_in 16 (code := pr_M_choose) (stops := []) rfl rfl hNF
set_option maxRecDepth 20000 in
theorem b_M_rest_0 {d : Nat} {Q : QQ} {μ : Mem} (hNF : AA (Call d) y_M_rest Q 2 [.ref 0, .int 0, un] [] μ) : AA (Call d) y_M_rest Q 0 [.ref 0, un, un] [] μ := go_in 3 (code := pr_M_rest) (stops := [2]) rfl rfl hNF
set_option maxRecDepth 20000 in
theorem b_M_rest_2 {d : Nat} {Q : QQ} {μ : Mem} {l1 : Int32} (hNF : ((μ.1 0 14) ≤ l1 → (Q (.int 1) μ)) ∧
(¬ (μ.1 0 14) ≤ l1 → (Call d y_M_dayNow [.ref 0] μ (fun _ μ1 => (Call d y_M_goodOf [.ref 0, .int l1] μ1 (fun ρ μ2 => ∃ r3 : Int32, ρ = .int r3 ∧ (Call d y_M_seeks [.ref 0, .int l1] μ2 (fun _ μ4 => (((μ4.1 0 44) ≤ r3 → (AA (Call d) y_M_rest Q 2 [.ref 0, .int (l1 + 1), .int r3] [] μ4)) ∧
(¬ (μ4.1 0 44) ≤ r3 → (Q (.int 0) μ4))))))))))) : AA (Call d) y_M_rest Q 2 [.ref 0, .int l1, un] [] μ := go_in 20 (code := pr_M_rest) (stops := [2]) rfl rfl hNF
set_option maxRecDepth 20000 in
theorem b_M_orders_0 {d : Nat} {Q : QQ} {μ : Mem} {a : Int32} {b : Int32} {c : Int32} {e : Int32} (hNF : (¬ a = b → (AA (Call d) y_M_orders Q 25 [.ref 0, .int a, .int b, .int c, .int e, .int 0] [] μ)) ∧
(a = b → (Call d y_M_dayNow [.ref 0] μ (fun _ μ1 => (Call d y_M_allGood [.ref 0] μ1 (fun ρ μ2 => ∃ r3 : Int32, ρ = .int r3 ∧ (((μ2.1 0 47) = (-1) → (∀ μ4 : Mem, μ4 = wI μ2 0 (upd (μ2.1 0) 46 r3) → (∀ μ5 : Mem, μ5 = wI μ4 0 (upd (μ4.1 0) 47 e) → (Q .null μ5)))) ∧
(¬ (μ2.1 0 47) = (-1) → ((r3 ≤ (μ2.1 0 46) → (Q .null μ2)) ∧
(¬ r3 ≤ (μ2.1 0 46) → (∀ μ6 : Mem, μ6 = wI μ2 0 (upd (μ2.1 0) 46 r3) → (∀ μ7 : Mem, μ7 = wI μ6 0 (upd (μ6.1 0) 47 e) → (Q .null μ7))))))))))))) : AA (Call d) y_M_orders Q 0 [.ref 0, .int a, .int b, .int c, .int e, un] [] μ := go_in 23 (code := pr_M_orders) (stops := [25]) rfl rfl hNF
set_option maxRecDepth 20000 in
theorem b_M_orders_25 {d : Nat} {Q : QQ} {μ : Mem} {l1 : Int32} {l2 : Int32} {l3 : Int32} {l4 : Int32} {l5 : Int32} (hNF : (l2 ≤ l5 → (vp_in l1 5 ∧ (vp_in l1 5 ∧ ∀ μ1 : Mem, μ1 = wI μ 8 (upd (μ.1 8) l1.toNatClampNeg (μ.1 18 l1.toNatClampNeg)) → (Q .null μ1)))) ∧
(¬ l2 ≤ l5 → ((¬ ((l3 >>> (l5 &&& 31)) &&& 1) = 0 → (AA (Call d) y_M_orders Q 25 [.ref 0, .int l1, .int l2, .int l3, .int l4, .int (l5 + 1)] [] μ)) ∧
(((l3 >>> (l5 &&& 31)) &&& 1) = 0 → (vp_in l5 5 ∧ (vp_in l1 5 ∧ ∀ μ2 : Mem, μ2 = wI μ 8 (upd (μ.1 8) l1.toNatClampNeg (μ.1 18 l5.toNatClampNeg)) → (Call d y_M_orders [.ref 0, .int (l1 + 1), .int l2, .int (l3 ||| (1 <<< (l5 &&& 31))), .int ((10 * l4) + l5)] μ2 (fun _ μ3 => (AA (Call d) y_M_orders Q 25 [.ref 0, .int l1, .int l2, .int l3, .int l4, .int (l5 + 1)] [] μ3))))))))) : AA (Call d) y_M_orders Q 25 [.ref 0, .int l1, .int l2, .int l3, .int l4, .int l5] [] μ := go_in 36 (code := pr_M_orders) (stops := [25]) rfl rfl hNF
set_option maxRecDepth 20000 in
theorem b_M_turns_0 {d : Nat} {Q : QQ} {μ : Mem} {a : Int32} (hNF : Call d y_M_in [.long (Int32.toInt64 a), .long 0, .long 1] μ (fun ρ μ1 => ∃ r2 : Int32, ρ = .int r2 ∧ ((¬ r2 = 0 → (AA (Call d) y_M_turns Q 10 [.ref 0, .int a, .int 0] [] μ1)) ∧
(r2 = 0 → (Q (.int (-100000)) μ1))))) : AA (Call d) y_M_turns Q 0 [.ref 0, .int a, un] [] μ := go_in 9 (code := pr_M_turns) (stops := [10]) rfl rfl hNF
set_option maxRecDepth 20000 in
theorem b_M_turns_10 {d : Nat} {Q : QQ} {μ : Mem} {l1 : Int32} {l2 : Int32} (hNF : ((5 : Int32) ≤ l2 → (∀ μ1 : Mem, μ1 = wI μ 0 (upd (μ.1 0) 47 (-1)) → (∀ μ2 : Mem, μ2 = wI μ1 0 (upd (μ1.1 0) 46 0) → (((4 : Int32) ≤ (μ2.1 0 14) → (Call d y_M_orders [.ref 0, .int 0, .int 4, .int 0, .int 0] μ2 (fun _ μ3 => ((¬ l1 = 0 → (Q (.int (μ3.1 0 47)) μ3)) ∧
(l1 = 0 → (Q (.int (μ3.1 0 46)) μ3)))))) ∧
(¬ (4 : Int32) ≤ (μ2.1 0 14) → (Call d y_M_orders [.ref 0, .int 0, .int (μ2.1 0 14), .int 0, .int 0] μ2 (fun _ μ4 => ((¬ l1 = 0 → (Q (.int (μ4.1 0 47)) μ4)) ∧
(l1 = 0 → (Q (.int (μ4.1 0 46)) μ4)))))))))) ∧
(¬ (5 : Int32) ≤ l2 → (vp_in l2 5 ∧ (vp_in l2 5 ∧ ∀ μ5 : Mem, μ5 = wI μ 18 (upd (μ.1 18) l2.toNatClampNeg (μ.1 8 l2.toNatClampNeg)) → (AA (Call d) y_M_turns Q 10 [.ref 0, .int l1, .int (l2 + 1)] [] μ5))))) : AA (Call d) y_M_turns Q 10 [.ref 0, .int l1, .int l2] [] μ := go_in 27 (code := pr_M_turns) (stops := [10]) rfl rfl hNF
set_option maxRecDepth 20000 in
theorem b_M_burned_0 {d : Nat} {Q : QQ} {μ : Mem} {a : Int32} {b : Int32} (hNF : Call d y_M_dayNow [.ref 0] μ (fun _ μ1 => (Call d y_M_allGood [.ref 0] μ1 (fun ρ μ2 => ∃ r3 : Int32, ρ = .int r3 ∧ (Call d y_M_takes [.ref 0] μ2 (fun _ μ4 => (vp_in a 8 ∧ (((999 : Int32) ≤ ((μ4.1 14 a.toNatClampNeg) + b) → (vp_in a 8 ∧ ∀ μ5 : Mem, μ5 = wI μ4 14 (upd (μ4.1 14) a.toNatClampNeg 999) → (Call d y_M_passesDay [.ref 0] μ5 (fun _ μ6 => (Call d y_M_allGood [.ref 0] μ6 (fun ρ μ7 => ∃ r8 : Int32, ρ = .int r8 ∧ (Q (.int (r3 - r8)) μ7))))))) ∧
(¬ (999 : Int32) ≤ ((μ4.1 14 a.toNatClampNeg) + b) → (vp_in a 8 ∧ (vp_in a 8 ∧ ∀ μ9 : Mem, μ9 = wI μ4 14 (upd (μ4.1 14) a.toNatClampNeg ((μ4.1 14 a.toNatClampNeg) + b)) → (Call d y_M_passesDay [.ref 0] μ9 (fun _ μ10 => (Call d y_M_allGood [.ref 0] μ10 (fun ρ μ11 => ∃ r12 : Int32, ρ = .int r12 ∧ (Q (.int (r3 - r12)) μ11)))))))))))))))) : AA (Call d) y_M_burned Q 0 [.ref 0, .int a, .int b, un] [] μ := go_in 33 (code := pr_M_burned) (stops := []) rfl rfl hNF
set_option maxRecDepth 20000 in
theorem b_M_burn_0 {d : Nat} {Q : QQ} {μ : Mem} {a : Int32} {b : Int32} (hNF : Call d y_M_in [.long (Int32.toInt64 a), .long 0, .long 7] μ (fun ρ μ1 => ∃ r2 : Int32, ρ = .int r2 ∧ ((r2 = 0 → (Q (.int (-100000)) μ1)) ∧
(¬ r2 = 0 → (Call d y_M_in [.long (Int32.toInt64 b), .long 1, .long 20] μ1 (fun ρ μ3 => ∃ r4 : Int32, ρ = .int r4 ∧ ((r4 = 0 → (Q (.int (-100000)) μ3)) ∧
(¬ r4 = 0 → (Call d y_M_burned [.ref 0, .int a, .int b] μ3 (fun ρ μ5 => ∃ r6 : Int32, ρ = .int r6 ∧ (Q (.int r6) μ5))))))))))) : AA (Call d) y_M_burn Q 0 [.ref 0, .int a, .int b] [] μ := go_in 18 (code := pr_M_burn) (stops := []) rfl rfl hNF
set_option maxRecDepth 20000 in
theorem b_M_worst_0 {d : Nat} {Q : QQ} {μ : Mem} {a : Int32} {b : Int32} (hNF : Call d y_M_in [.long (Int32.toInt64 a), .long 1, .long 20] μ (fun ρ μ1 => ∃ r2 : Int32, ρ = .int r2 ∧ ((r2 = 0 → (Q (.int (-100000)) μ1)) ∧
(¬ r2 = 0 → (Call d y_M_in [.long (Int32.toInt64 b), .long 0, .long 1] μ1 (fun ρ μ3 => ∃ r4 : Int32, ρ = .int r4 ∧ ((¬ r4 = 0 → (AA (Call d) y_M_worst Q 20 [.ref 0, .int a, .int b, .int 0, .int 0, .int 0, un] [] μ3)) ∧
(r4 = 0 → (Q (.int (-100000)) μ3))))))))) : AA (Call d) y_M_worst Q 0 [.ref 0, .int a, .int b, un, un, un, un] [] μ := go_in 19 (code := pr_M_worst) (stops := [20]) rfl rfl hNF
set_option maxRecDepth 20000 in
theorem b_M_worst_20 {d : Nat} {Q : QQ} {μ : Mem} {l1 : Int32} {l2 : Int32} {l3 : Int32} {l4 : Int32} {l5 : Int32} (hNF : ((8 : Int32) ≤ l5 → ((¬ l2 = 0 → (Q (.int l4) μ)) ∧
(l2 = 0 → (Q (.int l3) μ)))) ∧
(¬ (8 : Int32) ≤ l5 → (Call d y_M_burned [.ref 0, .int l5, .int l1] μ (fun ρ μ1 => ∃ r2 : Int32, ρ = .int r2 ∧ ((l5 = 0 → (AA (Call d) y_M_worst Q 20 [.ref 0, .int l1, .int l2, .int l5, .int r2, .int (l5 + 1), .int r2] [] μ1)) ∧
(¬ l5 = 0 → ((r2 ≤ l4 → (AA (Call d) y_M_worst Q 20 [.ref 0, .int l1, .int l2, .int l3, .int l4, .int (l5 + 1), .int r2] [] μ1)) ∧
(¬ r2 ≤ l4 → (AA (Call d) y_M_worst Q 20 [.ref 0, .int l1, .int l2, .int l5, .int r2, .int (l5 + 1), .int r2] [] μ1))))))))) : AA (Call d) y_M_worst Q 20 [.ref 0, .int l1, .int l2, .int l3, .int l4, .int l5, un] [] μ := go_in 20 (code := pr_M_worst) (stops := [20]) rfl rfl hNF
set_option maxRecDepth 20000 in
theorem b_M_best_0 {d : Nat} {Q : QQ} {μ : Mem} {a : Int32} (hNF : Call d y_M_in [.long (Int32.toInt64 a), .long 0, .long 2] μ (fun ρ μ1 => ∃ r2 : Int32, ρ = .int r2 ∧ ((¬ r2 = 0 → (∀ μ3 : Mem, μ3 = wI μ1 0 (upd (μ1.1 0) 18 0) → (AA (Call d) y_M_best Q 20 [.ref 0, .int a, .int (μ1.1 0 18), .int (-1), .int 0, .int 0, un, un] [] μ3))) ∧
(r2 = 0 → (Q (.int (-100000)) μ1))))) : AA (Call d) y_M_best Q 0 [.ref 0, .int a, un, un, un, un, un, un] [] μ := go_in 19 (code := pr_M_best) (stops := [20]) rfl rfl hNF
set_option maxRecDepth 20000 in
theorem b_M_best_20 {d : Nat} {Q : QQ} {μ : Mem} {l1 : Int32} {l2 : Int32} {l3 : Int32} {l4 : Int32} {l5 : Int32} (hNF : ((μ.1 0 17) ≤ (μ.1 0 18) → (∀ μ1 : Mem, μ1 = wI μ 0 (upd (μ.1 0) 18 l2) → ((¬ l1 = 0 → ((¬ l1 = 1 → (Q (.int l5) μ1)) ∧
(l1 = 1 → (Q (.int l4) μ1)))) ∧
(l1 = 0 → (Q (.int l3) μ1))))) ∧
(¬ (μ.1 0 17) ≤ (μ.1 0 18) → (Call d y_M_dayNow [.ref 0] μ (fun _ μ2 => (Call d y_M_saying [.ref 0] μ2 (fun ρ μ3 => ∃ r4 : Int32, ρ = .int r4 ∧ (Call d y_M_allGood [.ref 0] μ3 (fun ρ μ5 => ∃ r6 : Int32, ρ = .int r6 ∧ ((l3 = (-1) → (∀ μ7 : Mem, μ7 = wI μ5 0 (upd (μ5.1 0) 18 ((μ5.1 0 18) + 1)) → (AA (Call d) y_M_best Q 20 [.ref 0, .int l1, .int l2, .int (μ5.1 0 18), .int r4, .int r6, .int r4, .int r6] [] μ7))) ∧
(¬ l3 = (-1) → ((l4 < r4 → (∀ μ8 : Mem, μ8 = wI μ5 0 (upd (μ5.1 0) 18 ((μ5.1 0 18) + 1)) → (AA (Call d) y_M_best Q 20 [.ref 0, .int l1, .int l2, .int (μ5.1 0 18), .int r4, .int r6, .int r4, .int r6] [] μ8))) ∧
(¬ l4 < r4 → ((¬ r4 = l4 → (∀ μ9 : Mem, μ9 = wI μ5 0 (upd (μ5.1 0) 18 ((μ5.1 0 18) + 1)) → (AA (Call d) y_M_best Q 20 [.ref 0, .int l1, .int l2, .int l3, .int l4, .int l5, .int r4, .int r6] [] μ9))) ∧
(r4 = l4 → ((r6 ≤ l5 → (∀ μ10 : Mem, μ10 = wI μ5 0 (upd (μ5.1 0) 18 ((μ5.1 0 18) + 1)) → (AA (Call d) y_M_best Q 20 [.ref 0, .int l1, .int l2, .int l3, .int l4, .int l5, .int r4, .int r6] [] μ10))) ∧
(¬ r6 ≤ l5 → (∀ μ11 : Mem, μ11 = wI μ5 0 (upd (μ5.1 0) 18 ((μ5.1 0 18) + 1)) → (AA (Call d) y_M_best Q 20 [.ref 0, .int l1, .int l2, .int (μ5.1 0 18), .int r4, .int r6, .int r4, .int r6] [] μ11)))))))))))))))))) : AA (Call d) y_M_best Q 20 [.ref 0, .int l1, .int l2, .int l3, .int l4, .int l5, un, un] [] μ := go_in 40 (code := pr_M_best) (stops := [20]) rfl rfl hNF
set_option maxRecDepth 20000 in
theorem b_M_paidBad_0 {d : Nat} {Q : QQ} {μ : Mem} {a : Int32} (hNF : Call d y_M_isSheet [.int a] μ (fun ρ μ1 => ∃ r2 : Int32, ρ = .int r2 ∧ ((¬ r2 = 0 → (vp_in a 4 ∧ ((¬ (μ1.1 22 a.toNatClampNeg) = 0 → (vp_in a 4 ∧ ((¬ (μ1.1 24 a.toNatClampNeg) = (μ1.1 0 14) → (Q (.int (-2)) μ1)) ∧
((μ1.1 24 a.toNatClampNeg) = (μ1.1 0 14) → (Q (.int 0) μ1))))) ∧
((μ1.1 22 a.toNatClampNeg) = 0 → (Q (.int (-11)) μ1))))) ∧
(r2 = 0 → (Q (.int (-2)) μ1))))) : AA (Call d) y_M_paidBad Q 0 [.ref 0, .int a] [] μ := go_in 18 (code := pr_M_paidBad) (stops := []) rfl rfl hNF
set_option maxRecDepth 20000 in
theorem b_M_unlike_0 {d : Nat} {Q : QQ} {μ : Mem} {a : Int32} (hNF : Call d y_M_dayNow [.ref 0] μ (fun _ μ1 => (AA (Call d) y_M_unlike Q 4 [.ref 0, .int a, .int 0] [] μ1))) : AA (Call d) y_M_unlike Q 0 [.ref 0, .int a, un] [] μ := go_in 5 (code := pr_M_unlike) (stops := [4]) rfl rfl hNF
set_option maxRecDepth 20000 in
theorem b_M_unlike_4 {d : Nat} {Q : QQ} {μ : Mem} {l1 : Int32} {l2 : Int32} (hNF : ((μ.1 0 14) ≤ l2 → (Q (.int (-1)) μ)) ∧
(¬ (μ.1 0 14) ≤ l2 → (vp_in l2 5 ∧ ((¬ (μ.1 16 l2.toNatClampNeg) = (-1) → (vp_in l2 5 ∧ (vp_in ((40 * l1) + l2) 160 ∧ (((μ.1 17 l2.toNatClampNeg) = (μ.1 25 (Int32.toNatClampNeg ((40 * l1) + l2))) → (AA (Call d) y_M_unlike Q 4 [.ref 0, .int l1, .int (l2 + 1)] [] μ)) ∧
(¬ (μ.1 17 l2.toNatClampNeg) = (μ.1 25 (Int32.toNatClampNeg ((40 * l1) + l2))) → (Q (.int l2) μ)))))) ∧
((μ.1 16 l2.toNatClampNeg) = (-1) → (vp_in ((40 * l1) + l2) 160 ∧ (((-1 : Int32) = (μ.1 25 (Int32.toNatClampNeg ((40 * l1) + l2))) → (AA (Call d) y_M_unlike Q 4 [.ref 0, .int l1, .int (l2 + 1)] [] μ)) ∧
(¬ (-1 : Int32) = (μ.1 25 (Int32.toNatClampNeg ((40 * l1) + l2))) → (Q (.int l2) μ))))))))) : AA (Call d) y_M_unlike Q 4 [.ref 0, .int l1, .int l2] [] μ := go_in 26 (code := pr_M_unlike) (stops := [4]) rfl rfl hNF
set_option maxRecDepth 20000 in
theorem b_M_judge_0 {d : Nat} {Q : QQ} {μ : Mem} {a : Int32} (hNF : Call d y_M_paidBad [.ref 0, .int a] μ (fun ρ μ1 => ∃ r2 : Int32, ρ = .int r2 ∧ ((r2 = 0 → (Call d y_M_unlike [.ref 0, .int a] μ1 (fun ρ μ3 => ∃ r4 : Int32, ρ = .int r4 ∧ (Q (.int r4) μ3)))) ∧
(¬ r2 = 0 → (Q (.int r2) μ1))))) : AA (Call d) y_M_judge Q 0 [.ref 0, .int a, un] [] μ := go_in 10 (code := pr_M_judge) (stops := []) rfl rfl hNF
set_option maxRecDepth 20000 in
theorem b_M_fits_0 {d : Nat} {Q : QQ} {μ : Mem} {a : Int32} {b : Int32} (hNF : Call d y_M_isWriter [.ref 0, .int a] μ (fun ρ μ1 => ∃ r2 : Int32, ρ = .int r2 ∧ ((r2 = 0 → (Q (.int (-2)) μ1)) ∧
(¬ r2 = 0 → (Call d y_M_in [.long (Int32.toInt64 b), .long 0, .long 9999] μ1 (fun ρ μ3 => ∃ r4 : Int32, ρ = .int r4 ∧ ((¬ r4 = 0 → (∀ μ5 : Mem, μ5 = wI μ3 0 (upd (μ3.1 0) 40 a) → (∀ μ6 : Mem, μ6 = wI μ5 0 (upd (μ5.1 0) 41 b) → (∀ μ7 : Mem, μ7 = wI μ6 0 (upd (μ6.1 0) 42 0) → (Call d y_M_dayNow [.ref 0] μ7 (fun _ μ8 => (∀ μ9 : Mem, μ9 = wI μ8 0 (upd (μ8.1 0) 40 (-1)) → (Q (.int (μ9.1 0 42)) μ9)))))))) ∧
(r4 = 0 → (Q (.int (-2)) μ3))))))))) : AA (Call d) y_M_fits Q 0 [.ref 0, .int a, .int b] [] μ := go_in 27 (code := pr_M_fits) (stops := []) rfl rfl hNF
set_option maxRecDepth 20000 in
theorem b_M_whose_0 {d : Nat} {Q : QQ} {μ : Mem} {a : Int32} (hNF : Call d y_M_paidBad [.ref 0, .int a] μ (fun ρ μ1 => ∃ r2 : Int32, ρ = .int r2 ∧ ((r2 = 0 → (∀ μ3 : Mem, μ3 = wI μ1 0 (upd (μ1.1 0) 18 0) → (AA (Call d) y_M_whose Q 16 [.ref 0, .int a, .int r2, .int (μ1.1 0 18), .int 0] [] μ3))) ∧
(¬ r2 = 0 → (Q (.int r2) μ1))))) : AA (Call d) y_M_whose Q 0 [.ref 0, .int a, un, un, un] [] μ := go_in 15 (code := pr_M_whose) (stops := [16]) rfl rfl hNF
set_option maxRecDepth 20000 in
theorem b_M_whose_16 {d : Nat} {Q : QQ} {μ : Mem} {l1 : Int32} {l2 : Int32} {l3 : Int32} {l4 : Int32} (hNF : ((μ.1 0 17) ≤ (μ.1 0 18) → (∀ μ1 : Mem, μ1 = wI μ 0 (upd (μ.1 0) 18 l3) → (Q (.int l4) μ1))) ∧
(¬ (μ.1 0 17) ≤ (μ.1 0 18) → (Call d y_M_unlike [.ref 0, .int l1] μ (fun ρ μ2 => ∃ r3 : Int32, ρ = .int r3 ∧ ((¬ r3 = (-1) → (∀ μ4 : Mem, μ4 = wI μ2 0 (upd (μ2.1 0) 18 ((μ2.1 0 18) + 1)) → (AA (Call d) y_M_whose Q 16 [.ref 0, .int l1, .int l2, .int l3, .int (l4 ||| (0 <<< ((μ2.1 0 18) &&& 31)))] [] μ4))) ∧
(r3 = (-1) → (∀ μ5 : Mem, μ5 = wI μ2 0 (upd (μ2.1 0) 18 ((μ2.1 0 18) + 1)) → (AA (Call d) y_M_whose Q 16 [.ref 0, .int l1, .int l2, .int l3, .int (l4 ||| (1 <<< ((μ2.1 0 18) &&& 31)))] [] μ5)))))))) : AA (Call d) y_M_whose Q 16 [.ref 0, .int l1, .int l2, .int l3, .int l4] [] μ := go_in 26 (code := pr_M_whose) (stops := [16]) rfl rfl hNF
set_option maxRecDepth 20000 in
theorem b_M_draws_0 {d : Nat} {Q : QQ} {μ : Mem} {a : Int32} (hNF : AA (Call d) y_M_draws Q 4 [.ref 0, .int a, .int a, .int 0] [] μ) : AA (Call d) y_M_draws Q 0 [.ref 0, .int a, un, un] [] μ := go_in 5 (code := pr_M_draws) (stops := [4]) rfl rfl hNF
set_option maxRecDepth 20000 in
theorem b_M_draws_4 {d : Nat} {Q : QQ} {μ : Mem} {l1 : Int32} {l2 : Int32} {l3 : Int32} (hNF : ((8 : Int32) ≤ l3 → (Call d y_M_passesDay [.ref 0] μ (fun _ μ1 => (Q .null μ1)))) ∧
(¬ (8 : Int32) ≤ l3 → (¬ (20 : Int32) = 0 ∧ (vp_in l3 8 ∧ ∀ μ2 : Mem, μ2 = wI μ 14 (upd (μ.1 14) l3.toNatClampNeg (((Int32.toUInt32 ((l2 * 1103515245) + 12345) >>> (Int32.toUInt32 10 &&& Int32.toUInt32 31)).toInt32) - ((Int32.toUInt32 ((l2 * 1103515245) + 12345) >>> (Int32.toUInt32 10 &&& Int32.toUInt32 31)).toInt32) / 20 * 20)) → (AA (Call d) y_M_draws Q 4 [.ref 0, .int l1, .int ((l2 * 1103515245) + 12345), .int (l3 + 1)] [] μ2))))) : AA (Call d) y_M_draws Q 4 [.ref 0, .int l1, .int l2, .int l3] [] μ := go_in 21 (code := pr_M_draws) (stops := [4]) rfl rfl hNF
set_option maxRecDepth 20000 in
theorem b_M_drawn_0 {d : Nat} {Q : QQ} {μ : Mem} {a : Int32} (hNF : Call d y_M_draws [.ref 0, .int a] μ (fun _ μ1 => (Call d y_M_allGood [.ref 0] μ1 (fun ρ μ2 => ∃ r3 : Int32, ρ = .int r3 ∧ (Q (.int r3) μ2))))) : AA (Call d) y_M_drawn Q 0 [.ref 0, .int a] [] μ := go_in 6 (code := pr_M_drawn) (stops := []) rfl rfl hNF
set_option maxRecDepth 20000 in
theorem b_M_chance_0 {d : Nat} {Q : QQ} {μ : Mem} {a : Int32} {b : Int32} {c : Int32} (hNF : Call d y_M_in [.long (Int32.toInt64 b), .long 1, .long 20] μ (fun ρ μ1 => ∃ r2 : Int32, ρ = .int r2 ∧ ((r2 = 0 → (Q (.long (-4611686018427387904)) μ1)) ∧
(¬ r2 = 0 → (Call d y_M_in [.long (Int32.toInt64 c), .long 0, .long 1] μ1 (fun ρ μ3 => ∃ r4 : Int32, ρ = .int r4 ∧ ((¬ r4 = 0 → (AA (Call d) y_M_chance Q 18 [.ref 0, .int a, .int b, .int c, .long 0, un, .int 0, un, un, un, un, un] [] μ3)) ∧
(r4 = 0 → (Q (.long (-4611686018427387904)) μ3))))))))) : AA (Call d) y_M_chance Q 0 [.ref 0, .int a, .int b, .int c, un, un, un, un, un, un, un, un] [] μ := go_in 17 (code := pr_M_chance) (stops := [18, 44]) rfl rfl hNF
set_option maxRecDepth 20000 in
theorem b_M_chance_18 {d : Nat} {Q : QQ} {μ : Mem} {l1 : Int32} {l2 : Int32} {l3 : Int32} {l4 : Int64} {l6 : Int32} (hNF : (l2 ≤ l6 → (AA (Call d) y_M_chance Q 44 [.ref 0, .int l1, .int l2, .int l3, .long l4, un, .long l4, un, .long (Int32.toInt64 l2), un, un, un] [] μ)) ∧
(¬ l2 ≤ l6 → (Call d y_M_draws [.ref 0, .int (l1 + l6)] μ (fun _ μ1 => (Call d y_M_saying [.ref 0] μ1 (fun ρ μ2 => ∃ r3 : Int32, ρ = .int r3 ∧ ((¬ r3 = (μ2.1 0 14) → (AA (Call d) y_M_chance Q 18 [.ref 0, .int l1, .int l2, .int l3, .long (l4 + 0), un, .int (l6 + 1), un, un, un, un, un] [] μ2)) ∧
(r3 = (μ2.1 0 14) → (AA (Call d) y_M_chance Q 18 [.ref 0, .int l1, .int l2, .int l3, .long (l4 + 1), un, .int (l6 + 1), un, un, un, un, un] [] μ2))))))))) : AA (Call d) y_M_chance Q 18 [.ref 0, .int l1, .int l2, .int l3, .long l4, un, .int l6, un, un, un, un, un] [] μ := go_in 21 (code := pr_M_chance) (stops := [18, 44]) rfl rfl hNF
set_option maxRecDepth 20000 in
theorem b_M_chance_44 {d : Nat} {Q : QQ} {μ : Mem} {l1 : Int32} {l2 : Int32} {l3 : Int32} {l4 : Int64} {l6 : Int64} {l8 : Int64} (hNF : ((lg_cmp l8 0) = 0 → ((¬ l3 = 0 → (¬ l6 = 0 ∧ (Q (.long ((Int32.toInt64 l2) / l6)) μ))) ∧
(l3 = 0 → (¬ l6 = 0 ∧ (Q (.long (l4 / l6)) μ))))) ∧
(¬ (lg_cmp l8 0) = 0 → (¬ l8 = 0 ∧ (AA (Call d) y_M_chance Q 44 [.ref 0, .int l1, .int l2, .int l3, .long l4, un, .long l8, un, .long (l6 - l6 / l8 * l8), un, .long (l6 - l6 / l8 * l8), un] [] μ)))) : AA (Call d) y_M_chance Q 44 [.ref 0, .int l1, .int l2, .int l3, .long l4, un, .long l6, un, .long l8, un, un, un] [] μ := go_in 14 (code := pr_M_chance) (stops := [18, 44]) rfl rfl hNF
set_option maxRecDepth 20000 in
theorem b_M_image_0 {d : Nat} {Q : QQ} {μ : Mem} (hNF : AA (Call d) y_M_image Q 2 [.ref 0, .int 0] [] μ) : AA (Call d) y_M_image Q 0 [.ref 0, un] [] μ := go_in 3 (code := pr_M_image) (stops := [2, 17, 52]) rfl rfl hNF
set_option maxRecDepth 20000 in
theorem b_M_image_2 {d : Nat} {Q : QQ} {μ : Mem} {l1 : Int32} (hNF : ((8 : Int32) ≤ l1 → (AA (Call d) y_M_image Q 17 [.ref 0, .int 0] [] μ)) ∧
(¬ (8 : Int32) ≤ l1 → (vp_in l1 8 ∧ (vp_in l1 8 ∧ ∀ μ1 : Mem, μ1 = wI μ 19 (upd (μ.1 19) l1.toNatClampNeg (μ.1 4 l1.toNatClampNeg)) → (AA (Call d) y_M_image Q 2 [.ref 0, .int (l1 + 1)] [] μ1))))) : AA (Call d) y_M_image Q 2 [.ref 0, .int l1] [] μ := go_in 14 (code := pr_M_image) (stops := [2, 17, 52]) rfl rfl hNF
set_option maxRecDepth 20000 in
theorem b_M_image_17 {d : Nat} {Q : QQ} {μ : Mem} {l1 : Int32} (hNF : ((5 : Int32) ≤ l1 → (AA (Call d) y_M_image Q 52 [.ref 0, .int 0] [] μ)) ∧
(¬ (5 : Int32) ≤ l1 → (vp_in l1 5 ∧ (vp_in l1 15 ∧ ∀ μ1 : Mem, μ1 = wI μ 20 (upd (μ.1 20) l1.toNatClampNeg (μ.1 7 l1.toNatClampNeg)) → (vp_in l1 5 ∧ (vp_in (5 + l1) 15 ∧ ∀ μ2 : Mem, μ2 = wI μ1 20 (upd (μ1.1 20) (Int32.toNatClampNeg (5 + l1)) (μ1.1 8 l1.toNatClampNeg)) → (vp_in l1 5 ∧ (vp_in (10 + l1) 15 ∧ ∀ μ3 : Mem, μ3 = wI μ2 20 (upd (μ2.1 20) (Int32.toNatClampNeg (10 + l1)) (μ2.1 9 l1.toNatClampNeg)) → (AA (Call d) y_M_image Q 17 [.ref 0, .int (l1 + 1)] [] μ3))))))))) : AA (Call d) y_M_image Q 17 [.ref 0, .int l1] [] μ := go_in 34 (code := pr_M_image) (stops := [2, 17, 52]) rfl rfl hNF
set_option maxRecDepth 20000 in
theorem b_M_image_52 {d : Nat} {Q : QQ} {μ : Mem} {l1 : Int32} (hNF : ((6 : Int32) ≤ l1 → (∀ μ1 : Mem, μ1 = wI μ 0 (upd (μ.1 0) 51 (μ.1 0 14)) → (∀ μ2 : Mem, μ2 = wI μ1 0 (upd (μ1.1 0) 52 (μ1.1 0 10)) → (∀ μ3 : Mem, μ3 = wI μ2 0 (upd (μ2.1 0) 53 (μ2.1 0 17)) → (∀ μ4 : Mem, μ4 = wI μ3 0 (upd (μ3.1 0) 54 (μ3.1 0 18)) → (∀ μ5 : Mem, μ5 = wI μ4 0 (upd (μ4.1 0) 55 (μ4.1 0 4)) → (Q (.int (μ5.1 0 14)) μ5))))))) ∧
(¬ (6 : Int32) ≤ l1 → (vp_in l1 6 ∧ (vp_in l1 6 ∧ ∀ μ6 : Mem, μ6 = wI μ 21 (upd (μ.1 21) l1.toNatClampNeg (μ.1 11 l1.toNatClampNeg)) → (AA (Call d) y_M_image Q 52 [.ref 0, .int (l1 + 1)] [] μ6))))) : AA (Call d) y_M_image Q 52 [.ref 0, .int l1] [] μ := go_in 26 (code := pr_M_image) (stops := [2, 17, 52]) rfl rfl hNF
set_option maxRecDepth 20000 in
theorem b_M_back_0 {d : Nat} {Q : QQ} {μ : Mem} (hNF : (¬ (μ.1 0 51) = (-1) → (AA (Call d) y_M_back Q 8 [.ref 0, .int 0] [] μ)) ∧
((μ.1 0 51) = (-1) → (Q (.int (-3)) μ))) : AA (Call d) y_M_back Q 0 [.ref 0, un] [] μ := go_in 7 (code := pr_M_back) (stops := [8, 23, 58]) rfl rfl hNF
set_option maxRecDepth 20000 in
theorem b_M_back_8 {d : Nat} {Q : QQ} {μ : Mem} {l1 : Int32} (hNF : ((8 : Int32) ≤ l1 → (AA (Call d) y_M_back Q 23 [.ref 0, .int 0] [] μ)) ∧
(¬ (8 : Int32) ≤ l1 → (vp_in l1 8 ∧ (vp_in l1 8 ∧ ∀ μ1 : Mem, μ1 = wI μ 4 (upd (μ.1 4) l1.toNatClampNeg (μ.1 19 l1.toNatClampNeg)) → (AA (Call d) y_M_back Q 8 [.ref 0, .int (l1 + 1)] [] μ1))))) : AA (Call d) y_M_back Q 8 [.ref 0, .int l1] [] μ := go_in 14 (code := pr_M_back) (stops := [8, 23, 58]) rfl rfl hNF
set_option maxRecDepth 20000 in
theorem b_M_back_23 {d : Nat} {Q : QQ} {μ : Mem} {l1 : Int32} (hNF : ((5 : Int32) ≤ l1 → (AA (Call d) y_M_back Q 58 [.ref 0, .int 0] [] μ)) ∧
(¬ (5 : Int32) ≤ l1 → (vp_in l1 15 ∧ (vp_in l1 5 ∧ ∀ μ1 : Mem, μ1 = wI μ 7 (upd (μ.1 7) l1.toNatClampNeg (μ.1 20 l1.toNatClampNeg)) → (vp_in (5 + l1) 15 ∧ (vp_in l1 5 ∧ ∀ μ2 : Mem, μ2 = wI μ1 8 (upd (μ1.1 8) l1.toNatClampNeg (μ1.1 20 (Int32.toNatClampNeg (5 + l1)))) → (vp_in (10 + l1) 15 ∧ (vp_in l1 5 ∧ ∀ μ3 : Mem, μ3 = wI μ2 9 (upd (μ2.1 9) l1.toNatClampNeg (μ2.1 20 (Int32.toNatClampNeg (10 + l1)))) → (AA (Call d) y_M_back Q 23 [.ref 0, .int (l1 + 1)] [] μ3))))))))) : AA (Call d) y_M_back Q 23 [.ref 0, .int l1] [] μ := go_in 34 (code := pr_M_back) (stops := [8, 23, 58]) rfl rfl hNF
set_option maxRecDepth 20000 in
theorem b_M_back_58 {d : Nat} {Q : QQ} {μ : Mem} {l1 : Int32} (hNF : ((6 : Int32) ≤ l1 → (∀ μ1 : Mem, μ1 = wI μ 0 (upd (μ.1 0) 14 (μ.1 0 51)) → (∀ μ2 : Mem, μ2 = wI μ1 0 (upd (μ1.1 0) 10 (μ1.1 0 52)) → (∀ μ3 : Mem, μ3 = wI μ2 0 (upd (μ2.1 0) 17 (μ2.1 0 53)) → (∀ μ4 : Mem, μ4 = wI μ3 0 (upd (μ3.1 0) 18 (μ3.1 0 54)) → (∀ μ5 : Mem, μ5 = wI μ4 0 (upd (μ4.1 0) 4 (μ4.1 0 55)) → (Q (.int (μ5.1 0 14)) μ5))))))) ∧
(¬ (6 : Int32) ≤ l1 → (vp_in l1 6 ∧ (vp_in l1 6 ∧ ∀ μ6 : Mem, μ6 = wI μ 11 (upd (μ.1 11) l1.toNatClampNeg (μ.1 21 l1.toNatClampNeg)) → (AA (Call d) y_M_back Q 58 [.ref 0, .int (l1 + 1)] [] μ6))))) : AA (Call d) y_M_back Q 58 [.ref 0, .int l1] [] μ := go_in 26 (code := pr_M_back) (stops := [8, 23, 58]) rfl rfl hNF
set_option maxRecDepth 20000 in
theorem b_M_count_0 {d : Nat} {Q : QQ} {μ : Mem} {a : Int32} (hNF : Call d y_M_in [.long (Int32.toInt64 a), .long 0, .long 7] μ (fun ρ μ1 => ∃ r2 : Int32, ρ = .int r2 ∧ ((¬ r2 = 0 → (((4 : Int32) ≤ a → (((7 : Int32) ≤ a → (Call d y_M_takes [.ref 0] μ1 (fun _ μ3 => (Call d y_M_rowSum [.ref 0] μ3 (fun ρ μ4 => ∃ r5 : Int32, ρ = .int r5 ∧ (Q (.int r5) μ4)))))) ∧
(¬ (7 : Int32) ≤ a → ((¬ a = 4 → ((¬ a = 5 → (Q (.int (μ1.1 0 4)) μ1)) ∧
(a = 5 → (Q (.int (μ1.1 0 6)) μ1)))) ∧
(a = 4 → (Q (.int (μ1.1 0 3)) μ1)))))) ∧
(¬ (4 : Int32) ≤ a → ((¬ a = 0 → ((¬ a = 1 → ((¬ a = 2 → (Q (.int (μ1.1 0 18)) μ1)) ∧
(a = 2 → (Q (.int (μ1.1 0 17)) μ1)))) ∧
(a = 1 → (Q (.int (μ1.1 0 14)) μ1)))) ∧
(a = 0 → (Q (.int (μ1.1 0 10)) μ1)))))) ∧
(r2 = 0 → (Q (.int (-2)) μ1))))) : AA (Call d) y_M_count Q 0 [.ref 0, .int a] [] μ := go_in 22 (code := pr_M_count) (stops := []) rfl rfl hNF
set_option maxRecDepth 20000 in
theorem b_M_isSheet_0 {d : Nat} {Q : QQ} {μ : Mem} {a : Int32} (hNF : Call d y_M_in [.long (Int32.toInt64 a), .long 0, .long 3] μ (fun ρ μ1 => ∃ r2 : Int32, ρ = .int r2 ∧ (narrow .boolean (.int r2) = .int r2 ∧ Q (.int r2) μ1))) : AA (Call d) y_M_isSheet Q 0 [.int a] [] μ := go_in 6 (code := pr_M_isSheet) (stops := []) rfl rfl hNF
set_option maxRecDepth 20000 in
theorem b_M_sheet_0 {d : Nat} {Q : QQ} {μ : Mem} {a : Int32} {b : Int32} {c : Int32} (hNF : Call d y_M_isSheet [.int a] μ (fun ρ μ1 => ∃ r2 : Int32, ρ = .int r2 ∧ ((r2 = 0 → (Q (.int (-2)) μ1)) ∧
(¬ r2 = 0 → (Call d y_M_in [.long (Int32.toInt64 b), .long (-1), .long 2] μ1 (fun ρ μ3 => ∃ r4 : Int32, ρ = .int r4 ∧ ((r4 = 0 → (Q (.int (-2)) μ3)) ∧
(¬ r4 = 0 → ((b < 0 → ((b < 0 → ((b < 0 → (vp_in a 4 ∧ ∀ μ5 : Mem, μ5 = wI μ3 22 (upd (μ3.1 22) a.toNatClampNeg (vp_nar .boolean 0)) → (vp_in a 4 ∧ ∀ μ6 : Mem, μ6 = wI μ5 23 (upd (μ5.1 23) a.toNatClampNeg b) → (vp_in a 4 ∧ ∀ μ7 : Mem, μ7 = wI μ6 24 (upd (μ6.1 24) a.toNatClampNeg c) → (AA (Call d) y_M_sheet Q 43 [.ref 0, .int a, .int b, .int c, .int 0] [] μ7))))) ∧
(¬ b < 0 → (vp_in a 4 ∧ ∀ μ8 : Mem, μ8 = wI μ3 22 (upd (μ3.1 22) a.toNatClampNeg (vp_nar .boolean 1)) → (vp_in a 4 ∧ ∀ μ9 : Mem, μ9 = wI μ8 23 (upd (μ8.1 23) a.toNatClampNeg b) → (vp_in a 4 ∧ ∀ μ10 : Mem, μ10 = wI μ9 24 (upd (μ9.1 24) a.toNatClampNeg c) → (AA (Call d) y_M_sheet Q 43 [.ref 0, .int a, .int b, .int c, .int 0] [] μ10))))))) ∧
(¬ b < 0 → (((0 : Int32) ≤ c → ((b < 0 → (vp_in a 4 ∧ ∀ μ11 : Mem, μ11 = wI μ3 22 (upd (μ3.1 22) a.toNatClampNeg (vp_nar .boolean 0)) → (vp_in a 4 ∧ ∀ μ12 : Mem, μ12 = wI μ11 23 (upd (μ11.1 23) a.toNatClampNeg b) → (vp_in a 4 ∧ ∀ μ13 : Mem, μ13 = wI μ12 24 (upd (μ12.1 24) a.toNatClampNeg c) → (AA (Call d) y_M_sheet Q 43 [.ref 0, .int a, .int b, .int c, .int 0] [] μ13))))) ∧
(¬ b < 0 → (vp_in a 4 ∧ ∀ μ14 : Mem, μ14 = wI μ3 22 (upd (μ3.1 22) a.toNatClampNeg (vp_nar .boolean 1)) → (vp_in a 4 ∧ ∀ μ15 : Mem, μ15 = wI μ14 23 (upd (μ14.1 23) a.toNatClampNeg b) → (vp_in a 4 ∧ ∀ μ16 : Mem, μ16 = wI μ15 24 (upd (μ15.1 24) a.toNatClampNeg c) → (AA (Call d) y_M_sheet Q 43 [.ref 0, .int a, .int b, .int c, .int 0] [] μ16))))))) ∧
(¬ (0 : Int32) ≤ c → (Q (.int (-14)) μ3)))))) ∧
(¬ b < 0 → ((c ≤ 40 → ((b < 0 → ((b < 0 → (vp_in a 4 ∧ ∀ μ17 : Mem, μ17 = wI μ3 22 (upd (μ3.1 22) a.toNatClampNeg (vp_nar .boolean 0)) → (vp_in a 4 ∧ ∀ μ18 : Mem, μ18 = wI μ17 23 (upd (μ17.1 23) a.toNatClampNeg b) → (vp_in a 4 ∧ ∀ μ19 : Mem, μ19 = wI μ18 24 (upd (μ18.1 24) a.toNatClampNeg c) → (AA (Call d) y_M_sheet Q 43 [.ref 0, .int a, .int b, .int c, .int 0] [] μ19))))) ∧
(¬ b < 0 → (vp_in a 4 ∧ ∀ μ20 : Mem, μ20 = wI μ3 22 (upd (μ3.1 22) a.toNatClampNeg (vp_nar .boolean 1)) → (vp_in a 4 ∧ ∀ μ21 : Mem, μ21 = wI μ20 23 (upd (μ20.1 23) a.toNatClampNeg b) → (vp_in a 4 ∧ ∀ μ22 : Mem, μ22 = wI μ21 24 (upd (μ21.1 24) a.toNatClampNeg c) → (AA (Call d) y_M_sheet Q 43 [.ref 0, .int a, .int b, .int c, .int 0] [] μ22))))))) ∧
(¬ b < 0 → (((0 : Int32) ≤ c → ((b < 0 → (vp_in a 4 ∧ ∀ μ23 : Mem, μ23 = wI μ3 22 (upd (μ3.1 22) a.toNatClampNeg (vp_nar .boolean 0)) → (vp_in a 4 ∧ ∀ μ24 : Mem, μ24 = wI μ23 23 (upd (μ23.1 23) a.toNatClampNeg b) → (vp_in a 4 ∧ ∀ μ25 : Mem, μ25 = wI μ24 24 (upd (μ24.1 24) a.toNatClampNeg c) → (AA (Call d) y_M_sheet Q 43 [.ref 0, .int a, .int b, .int c, .int 0] [] μ25))))) ∧
(¬ b < 0 → (vp_in a 4 ∧ ∀ μ26 : Mem, μ26 = wI μ3 22 (upd (μ3.1 22) a.toNatClampNeg (vp_nar .boolean 1)) → (vp_in a 4 ∧ ∀ μ27 : Mem, μ27 = wI μ26 23 (upd (μ26.1 23) a.toNatClampNeg b) → (vp_in a 4 ∧ ∀ μ28 : Mem, μ28 = wI μ27 24 (upd (μ27.1 24) a.toNatClampNeg c) → (AA (Call d) y_M_sheet Q 43 [.ref 0, .int a, .int b, .int c, .int 0] [] μ28))))))) ∧
(¬ (0 : Int32) ≤ c → (Q (.int (-14)) μ3)))))) ∧
(¬ c ≤ 40 → (Q (.int (-2)) μ3))))))))))))) : AA (Call d) y_M_sheet Q 0 [.ref 0, .int a, .int b, .int c, un] [] μ := go_in 39 (code := pr_M_sheet) (stops := [43]) rfl rfl hNF
set_option maxRecDepth 20000 in
theorem b_M_sheet_43 {d : Nat} {Q : QQ} {μ : Mem} {l1 : Int32} {l2 : Int32} {l3 : Int32} {l4 : Int32} (hNF : (l3 ≤ l4 → (Q (.int 1) μ)) ∧
(¬ l3 ≤ l4 → ((l2 < 0 → (Q (.int 1) μ)) ∧
(¬ l2 < 0 → (vp_in ((40 * l1) + l4) 160 ∧ ∀ μ1 : Mem, μ1 = wI μ 25 (upd (μ.1 25) (Int32.toNatClampNeg ((40 * l1) + l4)) 0) → (AA (Call d) y_M_sheet Q 43 [.ref 0, .int l1, .int l2, .int l3, .int (l4 + 1)] [] μ1)))))) : AA (Call d) y_M_sheet Q 43 [.ref 0, .int l1, .int l2, .int l3, .int l4] [] μ := go_in 17 (code := pr_M_sheet) (stops := [43]) rfl rfl hNF
set_option maxRecDepth 20000 in
theorem b_M_cell_0 {d : Nat} {Q : QQ} {μ : Mem} {a : Int32} {b : Int32} {c : Int32} (hNF : Call d y_M_isSheet [.int a] μ (fun ρ μ1 => ∃ r2 : Int32, ρ = .int r2 ∧ ((¬ r2 = 0 → (vp_in a 4 ∧ ((¬ (μ1.1 22 a.toNatClampNeg) = 0 → (vp_in a 4 ∧ (Call d y_M_in [.long (Int32.toInt64 b), .long 0, .long (Int32.toInt64 ((μ1.1 24 a.toNatClampNeg) - 1))] μ1 (fun ρ μ3 => ∃ r4 : Int32, ρ = .int r4 ∧ ((¬ r4 = 0 → (vp_in a 4 ∧ ((¬ (μ3.1 23 a.toNatClampNeg) = 0 → (vp_in a 4 ∧ ((¬ (μ3.1 23 a.toNatClampNeg) = 1 → (vp_in ((40 * a) + b) 160 ∧ ∀ μ5 : Mem, μ5 = wI μ3 25 (upd (μ3.1 25) (Int32.toNatClampNeg ((40 * a) + b)) c) → (Q (.int 1) μ5))) ∧
((μ3.1 23 a.toNatClampNeg) = 1 → (vp_in ((40 * a) + b) 160 ∧ ∀ μ6 : Mem, μ6 = wI μ3 25 (upd (μ3.1 25) (Int32.toNatClampNeg ((40 * a) + b)) ((Int32.toInt16 c).toInt32)) → (Q (.int 1) μ6)))))) ∧
((μ3.1 23 a.toNatClampNeg) = 0 → (vp_in ((40 * a) + b) 160 ∧ ∀ μ7 : Mem, μ7 = wI μ3 25 (upd (μ3.1 25) (Int32.toNatClampNeg ((40 * a) + b)) ((Int32.toInt8 c).toInt32)) → (Q (.int 1) μ7)))))) ∧
(r4 = 0 → (Q (.int (-12)) μ3))))))) ∧
((μ1.1 22 a.toNatClampNeg) = 0 → (Q (.int (-11)) μ1))))) ∧
(r2 = 0 → (Q (.int (-2)) μ1))))) : AA (Call d) y_M_cell Q 0 [.ref 0, .int a, .int b, .int c] [] μ := go_in 44 (code := pr_M_cell) (stops := []) rfl rfl hNF
set_option maxRecDepth 20000 in
theorem b_M_copy_0 {d : Nat} {Q : QQ} {μ : Mem} {a : Int32} {b : Int32} {c : Int32} {e : Int32} {f : Int32} (hNF : Call d y_M_isSheet [.int a] μ (fun ρ μ1 => ∃ r2 : Int32, ρ = .int r2 ∧ ((r2 = 0 → (Q (.int (-2)) μ1)) ∧
(¬ r2 = 0 → (Call d y_M_isSheet [.int c] μ1 (fun ρ μ3 => ∃ r4 : Int32, ρ = .int r4 ∧ ((¬ r4 = 0 → (vp_in a 4 ∧ (((μ3.1 22 a.toNatClampNeg) = 0 → (Q (.int (-11)) μ3)) ∧
(¬ (μ3.1 22 a.toNatClampNeg) = 0 → (vp_in c 4 ∧ ((¬ (μ3.1 22 c.toNatClampNeg) = 0 → (vp_in a 4 ∧ (vp_in c 4 ∧ (((μ3.1 23 a.toNatClampNeg) = (μ3.1 23 c.toNatClampNeg) → ((f < 0 → (Q (.int (-12)) μ3)) ∧
(¬ f < 0 → ((b < 0 → (Q (.int (-12)) μ3)) ∧
(¬ b < 0 → ((e < 0 → (Q (.int (-12)) μ3)) ∧
(¬ e < 0 → (vp_in a 4 ∧ ((((μ3.1 24 a.toNatClampNeg) - f) < b → (Q (.int (-12)) μ3)) ∧
(¬ ((μ3.1 24 a.toNatClampNeg) - f) < b → (vp_in c 4 ∧ ((e ≤ ((μ3.1 24 c.toNatClampNeg) - f) → ((¬ a = c → (AA (Call d) y_M_copy Q 67 [.ref 0, .int a, .int b, .int c, .int e, .int f, .int 0, .int 0, un] [] μ3)) ∧
(a = c → ((e ≤ b → (AA (Call d) y_M_copy Q 67 [.ref 0, .int a, .int b, .int c, .int e, .int f, .int 0, .int 0, un] [] μ3)) ∧
(¬ e ≤ b → (AA (Call d) y_M_copy Q 67 [.ref 0, .int a, .int b, .int c, .int e, .int f, .int 1, .int 0, un] [] μ3)))))) ∧
(¬ e ≤ ((μ3.1 24 c.toNatClampNeg) - f) → (Q (.int (-12)) μ3)))))))))))))) ∧
(¬ (μ3.1 23 a.toNatClampNeg) = (μ3.1 23 c.toNatClampNeg) → (Q (.int (-13)) μ3)))))) ∧
((μ3.1 22 c.toNatClampNeg) = 0 → (Q (.int (-11)) μ3)))))))) ∧
(r4 = 0 → (Q (.int (-2)) μ3))))))))) : AA (Call d) y_M_copy Q 0 [.ref 0, .int a, .int b, .int c, .int e, .int f, un, un, un] [] μ := go_in 59 (code := pr_M_copy) (stops := [67]) rfl rfl hNF
set_option maxRecDepth 20000 in
theorem b_M_copy_67 {d : Nat} {Q : QQ} {μ : Mem} {l1 : Int32} {l2 : Int32} {l3 : Int32} {l4 : Int32} {l5 : Int32} {l6 : Int32} {l7 : Int32} (hNF : (l5 ≤ l7 → (Q (.int l5) μ)) ∧
(¬ l5 ≤ l7 → ((l6 = 0 → (vp_in (((40 * l1) + l2) + l7) 160 ∧ (vp_in (((40 * l3) + l4) + l7) 160 ∧ ∀ μ1 : Mem, μ1 = wI μ 25 (upd (μ.1 25) (Int32.toNatClampNeg (((40 * l3) + l4) + l7)) (μ.1 25 (Int32.toNatClampNeg (((40 * l1) + l2) + l7)))) → (AA (Call d) y_M_copy Q 67 [.ref 0, .int l1, .int l2, .int l3, .int l4, .int l5, .int l6, .int (l7 + 1), .int l7] [] μ1)))) ∧
(¬ l6 = 0 → (vp_in (((40 * l1) + l2) + ((l5 - 1) - l7)) 160 ∧ (vp_in (((40 * l3) + l4) + ((l5 - 1) - l7)) 160 ∧ ∀ μ2 : Mem, μ2 = wI μ 25 (upd (μ.1 25) (Int32.toNatClampNeg (((40 * l3) + l4) + ((l5 - 1) - l7))) (μ.1 25 (Int32.toNatClampNeg (((40 * l1) + l2) + ((l5 - 1) - l7))))) → (AA (Call d) y_M_copy Q 67 [.ref 0, .int l1, .int l2, .int l3, .int l4, .int l5, .int l6, .int (l7 + 1), .int ((l5 - 1) - l7)] [] μ2))))))) : AA (Call d) y_M_copy Q 67 [.ref 0, .int l1, .int l2, .int l3, .int l4, .int l5, .int l6, .int l7, un] [] μ := go_in 35 (code := pr_M_copy) (stops := [67]) rfl rfl hNF
set_option maxRecDepth 20000 in
theorem b_M_writers_0 {d : Nat} {Q : QQ} {μ : Mem} {a : Int32} {b : Int32} {c : Int32} {e : Int32} (hNF : Call d y_M_isSheet [.int a] μ (fun ρ μ1 => ∃ r2 : Int32, ρ = .int r2 ∧ ((r2 = 0 → (Q (.int (-2)) μ1)) ∧
(¬ r2 = 0 → (Call d y_M_in [.long (Int32.toInt64 b), .long 0, .long 2] μ1 (fun ρ μ3 => ∃ r4 : Int32, ρ = .int r4 ∧ ((r4 = 0 → (Q (.int (-2)) μ3)) ∧
(¬ r4 = 0 → (Call d y_M_in [.long (Int32.toInt64 e), .long 0, .long 5] μ3 (fun ρ μ5 => ∃ r6 : Int32, ρ = .int r6 ∧ ((¬ r6 = 0 → (vp_in a 4 ∧ (((μ5.1 22 a.toNatClampNeg) = 0 → (vp_in a 4 ∧ ((¬ (μ5.1 22 a.toNatClampNeg) = 0 → (AA (Call d) y_M_writers Q 41 [.ref 0, .int a, .int b, .int c, .int e, .int 0, .int 0, un] [] μ5)) ∧
((μ5.1 22 a.toNatClampNeg) = 0 → (Q (.int (-11)) μ5))))) ∧
(¬ (μ5.1 22 a.toNatClampNeg) = 0 → (vp_in a 4 ∧ (((μ5.1 23 a.toNatClampNeg) = b → (vp_in a 4 ∧ ((¬ (μ5.1 22 a.toNatClampNeg) = 0 → (AA (Call d) y_M_writers Q 41 [.ref 0, .int a, .int b, .int c, .int e, .int 0, .int 0, un] [] μ5)) ∧
((μ5.1 22 a.toNatClampNeg) = 0 → (Q (.int (-11)) μ5))))) ∧
(¬ (μ5.1 23 a.toNatClampNeg) = b → (Q (.int (-13)) μ5)))))))) ∧
(r6 = 0 → (Q (.int (-2)) μ5))))))))))))) : AA (Call d) y_M_writers Q 0 [.ref 0, .int a, .int b, .int c, .int e, un, un, un] [] μ := go_in 36 (code := pr_M_writers) (stops := [41]) rfl rfl hNF
set_option maxRecDepth 20000 in
theorem b_M_writers_41 {d : Nat} {Q : QQ} {μ : Mem} {l1 : Int32} {l2 : Int32} {l3 : Int32} {l4 : Int32} {l5 : Int32} {l6 : Int32} (hNF : (l4 ≤ l6 → (Q (.int l5) μ)) ∧
(¬ l4 ≤ l6 → ((l3 < 0 → (Q (.int (-12)) μ)) ∧
(¬ l3 < 0 → (vp_in l1 4 ∧ ((l3 ≤ (((μ.1 24 l1.toNatClampNeg) - (3 * l6)) - 3) → (vp_in (((40 * l1) + l3) + (3 * l6)) 160 ∧ (vp_in ((((40 * l1) + l3) + (3 * l6)) + 1) 160 ∧ (vp_in ((((40 * l1) + l3) + (3 * l6)) + 2) 160 ∧ (Call d y_M_writer [.ref 0, .int (μ.1 25 (Int32.toNatClampNeg (((40 * l1) + l3) + (3 * l6)))), .int (μ.1 25 (Int32.toNatClampNeg ((((40 * l1) + l3) + (3 * l6)) + 1))), .int (μ.1 25 (Int32.toNatClampNeg ((((40 * l1) + l3) + (3 * l6)) + 2)))] μ (fun ρ μ1 => ∃ r2 : Int32, ρ = .int r2 ∧ ((r2 < 0 → (AA (Call d) y_M_writers Q 41 [.ref 0, .int l1, .int l2, .int l3, .int l4, .int (l5 + 0), .int (l6 + 1), .int (((40 * l1) + l3) + (3 * l6))] [] μ1)) ∧
(¬ r2 < 0 → (AA (Call d) y_M_writers Q 41 [.ref 0, .int l1, .int l2, .int l3, .int l4, .int (l5 + 1), .int (l6 + 1), .int (((40 * l1) + l3) + (3 * l6))] [] μ1))))))))) ∧
(¬ l3 ≤ (((μ.1 24 l1.toNatClampNeg) - (3 * l6)) - 3) → (Q (.int (-12)) μ)))))))) : AA (Call d) y_M_writers Q 41 [.ref 0, .int l1, .int l2, .int l3, .int l4, .int l5, .int l6, un] [] μ := go_in 54 (code := pr_M_writers) (stops := [41]) rfl rfl hNF
set_option maxRecDepth 20000 in
theorem b_M_over_0 {d : Nat} {Q : QQ} {μ : Mem} {a : Int32} (hNF : (¬ a = 0 → ((¬ a = 4 → ((a = 3 → (Q (.int 1) μ)) ∧
(¬ a = 3 → ((¬ a = 5 → (Q (.int 0) μ)) ∧
(a = 5 → (Q (.int 1) μ)))))) ∧
(a = 4 → (Q (.int 2) μ)))) ∧
(a = 0 → (Q (.int (-1)) μ))) : AA (Call d) y_M_over Q 0 [.int a] [] μ := go_in 14 (code := pr_M_over) (stops := []) rfl rfl hNF
set_option maxRecDepth 20000 in
theorem b_M_taken_0 {d : Nat} {Q : QQ} {μ : Mem} {a : Int32} {b : Int32} (hNF : Call d y_M_in [.long (Int32.toInt64 b), .long 0, .long 5] μ (fun ρ μ1 => ∃ r2 : Int32, ρ = .int r2 ∧ ((¬ r2 = 0 → (Call d y_M_isLaw [.ref 0, .int a] μ1 (fun ρ μ3 => ∃ r4 : Int32, ρ = .int r4 ∧ ((¬ r4 = 0 → (vp_in a 6 ∧ (AA (Call d) y_M_taken Q 19 [.ref 0, .int a, .int b, .int (μ3.1 10 a.toNatClampNeg)] [] μ3))) ∧
(r4 = 0 → (Q (.int (-11)) μ3)))))) ∧
(r2 = 0 → (Q (.int (-2)) μ1))))) : AA (Call d) y_M_taken Q 0 [.ref 0, .int a, .int b, un] [] μ := go_in 16 (code := pr_M_taken) (stops := [19]) rfl rfl hNF
set_option maxRecDepth 20000 in
theorem b_M_taken_19 {d : Nat} {Q : QQ} {μ : Mem} {l1 : Int32} {l2 : Int32} {l3 : Int32} (hNF : (l3 = (-1) → ((¬ l3 = l2 → (Q (.int (-13)) μ)) ∧
(l3 = l2 → (vp_in l1 6 ∧ (Q (.int (μ.1 11 l1.toNatClampNeg)) μ))))) ∧
(¬ l3 = (-1) → ((l3 = l2 → ((¬ l3 = l2 → (Q (.int (-13)) μ)) ∧
(l3 = l2 → (vp_in l1 6 ∧ (Q (.int (μ.1 11 l1.toNatClampNeg)) μ))))) ∧
(¬ l3 = l2 → (Call d y_M_over [.int l3] μ (fun ρ μ1 => ∃ r2 : Int32, ρ = .int r2 ∧ (AA (Call d) y_M_taken Q 19 [.ref 0, .int l1, .int l2, .int r2] [] μ1))))))) : AA (Call d) y_M_taken Q 19 [.ref 0, .int l1, .int l2, .int l3] [] μ := go_in 15 (code := pr_M_taken) (stops := [19]) rfl rfl hNF
end
section
set_option maxRecDepth 20000 in
theorem b_X_set_0 {d : Nat} {Q : QQ} {μ : Mem} {a : Int32} {b : Int32} {c : Int32} (hNF : (a = 0 → (Call d y_X_put [.ref 1, .int 8, .int b, .int c, .int 999] μ (fun ρ μ1 => ∃ r2 : Int32, ρ = .int r2 ∧ (Q (.int r2) μ1)))) ∧
(¬ a = 0 → ((a = 1 → (Call d y_X_put [.ref 17, .int (μ.1 16 3), .int b, .int c, .int 3] μ (fun ρ μ3 => ∃ r4 : Int32, ρ = .int r4 ∧ (Q (.int r4) μ3)))) ∧
(¬ a = 1 → ((a = 2 → (Call d y_X_put [.ref 18, .int (μ.1 16 3), .int b, .int c, .int 23] μ (fun ρ μ5 => ∃ r6 : Int32, ρ = .int r6 ∧ (Q (.int r6) μ5)))) ∧
(¬ a = 2 → ((a = 3 → (Call d y_X_put [.ref 19, .int (μ.1 16 3), .int b, .int c, .int 9999] μ (fun ρ μ7 => ∃ r8 : Int32, ρ = .int r8 ∧ (Q (.int r8) μ7)))) ∧
(¬ a = 3 → ((a = 4 → (Call d y_X_put [.ref 22, .int (μ.1 20 2), .int b, .int c, .int 9] μ (fun ρ μ9 => ∃ r10 : Int32, ρ = .int r10 ∧ (Q (.int r10) μ9)))) ∧
(¬ a = 4 → (Q (.int (-2)) μ))))))))))) : AA (Call d) y_X_set Q 0 [.ref 0, .int a, .int b, .int c] [] μ := go_in 13 (code := pr_X_set) (stops := []) rfl rfl hNF
set_option maxRecDepth 20000 in
theorem b_X_told_0 {d : Nat} {Q : QQ} {μ : Mem} {a : Int32} {b : Int32} (hNF : (b = 0 → (Call d y_X_item [.ref 1, .int 8, .int a] μ (fun ρ μ1 => ∃ r2 : Int32, ρ = .int r2 ∧ (Q (.int r2) μ1)))) ∧
(¬ b = 0 → ((b = 1 → (Call d y_X_item [.ref 17, .int (μ.1 16 3), .int a] μ (fun ρ μ3 => ∃ r4 : Int32, ρ = .int r4 ∧ (Q (.int r4) μ3)))) ∧
(¬ b = 1 → ((b = 2 → (Call d y_X_item [.ref 18, .int (μ.1 16 3), .int a] μ (fun ρ μ5 => ∃ r6 : Int32, ρ = .int r6 ∧ (Q (.int r6) μ5)))) ∧
(¬ b = 2 → ((b = 3 → (Call d y_X_item [.ref 19, .int (μ.1 16 3), .int a] μ (fun ρ μ7 => ∃ r8 : Int32, ρ = .int r8 ∧ (Q (.int r8) μ7)))) ∧
(¬ b = 3 → ((b = 4 → (Call d y_X_item [.ref 22, .int (μ.1 20 2), .int a] μ (fun ρ μ9 => ∃ r10 : Int32, ρ = .int r10 ∧ (Q (.int r10) μ9)))) ∧
(¬ b = 4 → ((b = 5 → (Call d y_X_item [.ref 21, .int (μ.1 20 2), .int a] μ (fun ρ μ11 => ∃ r12 : Int32, ρ = .int r12 ∧ (Q (.int r12) μ11)))) ∧
(¬ b = 5 → ((b = 6 → (Call d y_X_item [.ref 3, .int (μ.1 2 3), .int a] μ (fun ρ μ13 => ∃ r14 : Int32, ρ = .int r14 ∧ (Q (.int r14) μ13)))) ∧
(¬ b = 6 → ((b = 7 → (Call d y_X_item [.ref 4, .int (μ.1 2 3), .int a] μ (fun ρ μ15 => ∃ r16 : Int32, ρ = .int r16 ∧ (Q (.int r16) μ15)))) ∧
(¬ b = 7 → (Q (.int (-2)) μ))))))))))))))))) : AA (Call d) y_X_told Q 0 [.ref 0, .int a, .int b] [] μ := go_in 11 (code := pr_X_told) (stops := []) rfl rfl hNF
set_option maxRecDepth 20000 in
theorem b_X_word_0 {d : Nat} {Q : QQ} {μ : Mem} {a : Int32} {b : Int32} (hNF : Call d y_X_within [.int a, .int 3] μ (fun ρ μ1 => ∃ r2 : Int32, ρ = .int r2 ∧ ((r2 = 0 → (Q (.int (-2)) μ1)) ∧
(¬ r2 = 0 → (Call d y_Words_lengthOf [.int b] μ1 (fun ρ μ3 => ∃ r4 : Int32, ρ = .int r4 ∧ ((¬ r4 = 0 → (Call d y_Words_add [.ref 2, .int a, .int b] μ3 (fun ρ μ5 => ∃ r6 : Int32, ρ = .int r6 ∧ (Q (.int r6) μ5)))) ∧
(r4 = 0 → (Q (.int (-2)) μ3))))))))) : AA (Call d) y_X_word Q 0 [.ref 0, .int a, .int b] [] μ := go_in 13 (code := pr_X_word) (stops := []) rfl rfl hNF
set_option maxRecDepth 20000 in
theorem b_X_writer_0 {d : Nat} {Q : QQ} {μ : Mem} {a : Int32} {b : Int32} {c : Int32} (hNF : Call d y_Writers_add [.ref 16, .int a, .int b, .int c] μ (fun ρ μ1 => ∃ r2 : Int32, ρ = .int r2 ∧ (Q (.int r2) μ1))) : AA (Call d) y_X_writer Q 0 [.ref 0, .int a, .int b, .int c] [] μ := go_in 7 (code := pr_X_writer) (stops := []) rfl rfl hNF
set_option maxRecDepth 20000 in
theorem b_X_law_0 {d : Nat} {Q : QQ} {μ : Mem} {a : Int32} {b : Int32} (hNF : Call d y_X_within [.int a, .int 5] μ (fun ρ μ1 => ∃ r2 : Int32, ρ = .int r2 ∧ ((r2 = 0 → (Q (.int (-2)) μ1)) ∧
(¬ r2 = 0 → (Call d y_X_within [.int b, .int 9] μ1 (fun ρ μ3 => ∃ r4 : Int32, ρ = .int r4 ∧ ((¬ r4 = 0 → (Call d y_Laws_add [.ref 20, .int a, .int b] μ3 (fun ρ μ5 => ∃ r6 : Int32, ρ = .int r6 ∧ (Q (.int r6) μ5)))) ∧
(r4 = 0 → (Q (.int (-2)) μ3))))))))) : AA (Call d) y_X_law Q 0 [.ref 0, .int a, .int b] [] μ := go_in 14 (code := pr_X_law) (stops := []) rfl rfl hNF
set_option maxRecDepth 20000 in
theorem b_X_rule_0 {d : Nat} {Q : QQ} {μ : Mem} {a : Int32} (hNF : Call d y_X_within [.int a, .int ((μ.1 20 2) - 1)] μ (fun ρ μ1 => ∃ r2 : Int32, ρ = .int r2 ∧ ((¬ r2 = 0 → (∀ μ3 : Mem, μ3 = wI μ1 20 (upd (μ1.1 20) 3 a) → (Q (.int (μ1.1 20 3)) μ3))) ∧
(r2 = 0 → (Q (.int (-2)) μ1))))) : AA (Call d) y_X_rule Q 0 [.ref 0, .int a, un] [] μ := go_in 18 (code := pr_X_rule) (stops := []) rfl rfl hNF
set_option maxRecDepth 20000 in
theorem b_X_feed_0 {d : Nat} {Q : QQ} {μ : Mem} {a : Int32} (hNF : Call d y_X_within [.int a, .int 255] μ (fun ρ μ1 => ∃ r2 : Int32, ρ = .int r2 ∧ ((¬ r2 = 0 → (Call d y_Reader_append [.ref 23, .int a] μ1 (fun ρ μ3 => ∃ r4 : Int32, ρ = .int r4 ∧ ((r4 = 0 → (Q (.int (-4)) μ3)) ∧
(¬ r4 = 0 → (Q (.int (μ3.1 23 1)) μ3)))))) ∧
(r2 = 0 → (Q (.int (-2)) μ1))))) : AA (Call d) y_X_feed Q 0 [.ref 0, .int a] [] μ := go_in 14 (code := pr_X_feed) (stops := []) rfl rfl hNF
set_option maxRecDepth 20000 in
theorem b_X_text_0 {d : Nat} {Q : QQ} {μ : Mem} (hNF : ((μ.1 27 4) < 6 → (Call d y_Reader_read [.ref 23] μ (fun ρ μ1 => ∃ r2 : Int32, ρ = .int r2 ∧ ((r2 = (-1) → (Call d y_Texts_add [.ref 27, .ref 25, .ref 26] μ1 (fun ρ μ3 => ∃ r4 : Int32, ρ = .int r4 ∧ (Q (.int r4) μ3)))) ∧
(¬ r2 = (-1) → (Q (.int ((-100) - r2)) μ1)))))) ∧
(¬ (μ.1 27 4) < 6 → (Q (.int (-4)) μ))) : AA (Call d) y_X_text Q 0 [.ref 0, un] [] μ := go_in 22 (code := pr_X_text) (stops := []) rfl rfl hNF
set_option maxRecDepth 20000 in
theorem b_X_force_0 {d : Nat} {Q : QQ} {μ : Mem} {a : Int32} (hNF : Call d y_X_within [.int a, .int ((μ.1 27 4) - 1)] μ (fun ρ μ1 => ∃ r2 : Int32, ρ = .int r2 ∧ ((¬ r2 = 0 → (∀ μ3 : Mem, μ3 = wI μ1 27 (upd (μ1.1 27) 5 a) → (Q (.int (μ1.1 27 5)) μ3))) ∧
(r2 = 0 → (Q (.int (-2)) μ1))))) : AA (Call d) y_X_force Q 0 [.ref 0, .int a, un] [] μ := go_in 18 (code := pr_X_force) (stops := []) rfl rfl hNF
set_option maxRecDepth 20000 in
theorem b_X_costs_0 {d : Nat} {Q : QQ} {μ : Mem} {a : Int32} {b : Int32} (hNF : Call d y_X_within [.int a, .int ((μ.1 2 3) - 1)] μ (fun ρ μ1 => ∃ r2 : Int32, ρ = .int r2 ∧ ((r2 = 0 → (Q (.int (-2)) μ1)) ∧
(¬ r2 = 0 → (Call d y_X_within [.int b, .int 23] μ1 (fun ρ μ3 => ∃ r4 : Int32, ρ = .int r4 ∧ ((¬ r4 = 0 → (Call d y_Day_dawn [.ref 44] μ3 (fun _ μ5 => (Call d y_Day_costOf [.ref 44, .int a, .int b] μ5 (fun ρ μ6 => ∃ r7 : Int32, ρ = .int r7 ∧ (Q (.int r7) μ6)))))) ∧
(r4 = 0 → (Q (.int (-2)) μ3))))))))) : AA (Call d) y_X_costs Q 0 [.ref 0, .int a, .int b] [] μ := go_in 21 (code := pr_X_costs) (stops := []) rfl rfl hNF
set_option maxRecDepth 20000 in
theorem b_X_write_0 {d : Nat} {Q : QQ} {μ : Mem} {a : Int32} {b : Int32} (hNF : Call d y_X_within [.int a, .int ((μ.1 2 3) - 1)] μ (fun ρ μ1 => ∃ r2 : Int32, ρ = .int r2 ∧ ((r2 = 0 → (Q (.int (-2)) μ1)) ∧
(¬ r2 = 0 → (Call d y_X_within [.int b, .int 23] μ1 (fun ρ μ3 => ∃ r4 : Int32, ρ = .int r4 ∧ ((¬ r4 = 0 → (Call d y_Day_dawn [.ref 44] μ3 (fun _ μ5 => (Call d y_Day_costOf [.ref 44, .int a, .int b] μ5 (fun ρ μ6 => ∃ r7 : Int32, ρ = .int r7 ∧ (Call d y_Words_spend [.ref 2, .int a, .ref 1] μ6 (fun _ μ8 => (Q (.int r7) μ8)))))))) ∧
(r4 = 0 → (Q (.int (-2)) μ3))))))))) : AA (Call d) y_X_write Q 0 [.ref 0, .int a, .int b, un] [] μ := go_in 29 (code := pr_X_write) (stops := []) rfl rfl hNF
set_option maxRecDepth 20000 in
theorem b_X_pass_0 {d : Nat} {Q : QQ} {μ : Mem} {a : Int32} (hNF : Call d y_X_within [.int a, .int 24] μ (fun ρ μ1 => ∃ r2 : Int32, ρ = .int r2 ∧ ((¬ r2 = 0 → (AA (Call d) y_X_pass Q 8 [.ref 0, .int a, .int 0] [] μ1)) ∧
(r2 = 0 → (Q (.int (-2)) μ1))))) : AA (Call d) y_X_pass Q 0 [.ref 0, .int a, un] [] μ := go_in 7 (code := pr_X_pass) (stops := [8]) rfl rfl hNF
set_option maxRecDepth 20000 in
theorem b_X_pass_8 {d : Nat} {Q : QQ} {μ : Mem} {l1 : Int32} {l2 : Int32} (hNF : (l1 ≤ l2 → (Call d y_X_sum [.ref 1] μ (fun ρ μ1 => ∃ r2 : Int32, ρ = .int r2 ∧ (Q (.int r2) μ1)))) ∧
(¬ l1 ≤ l2 → (Call d y_Laws_age [.ref 20, .int (μ.1 20 3), .ref 1] μ (fun _ μ3 => (AA (Call d) y_X_pass Q 8 [.ref 0, .int l1, .int (l2 + 1)] [] μ3))))) : AA (Call d) y_X_pass Q 8 [.ref 0, .int l1, .int l2] [] μ := go_in 14 (code := pr_X_pass) (stops := [8]) rfl rfl hNF
set_option maxRecDepth 20000 in
theorem b_X_cheapest_0 {d : Nat} {Q : QQ} {μ : Mem} {a : Int32} {b : Int32} {c : Int32} (hNF : Call d y_X_within [.int a, .int 3] μ (fun ρ μ1 => ∃ r2 : Int32, ρ = .int r2 ∧ ((r2 = 0 → (Q (.int (-2)) μ1)) ∧
(¬ r2 = 0 → (Call d y_X_within [.int b, .int 23] μ1 (fun ρ μ3 => ∃ r4 : Int32, ρ = .int r4 ∧ ((r4 = 0 → (Q (.int (-2)) μ3)) ∧
(¬ r4 = 0 → (Call d y_X_within [.int c, .int 1] μ3 (fun ρ μ5 => ∃ r6 : Int32, ρ = .int r6 ∧ ((¬ r6 = 0 → (Call d y_Day_dawn [.ref 44] μ5 (fun _ μ7 => (AA (Call d) y_X_cheapest Q 23 [.ref 0, .int a, .int b, .int c, .int (-1), .int (-1), .int 0, un] [] μ7)))) ∧
(r6 = 0 → (Q (.int (-2)) μ5))))))))))))) : AA (Call d) y_X_cheapest Q 0 [.ref 0, .int a, .int b, .int c, un, un, un, un] [] μ := go_in 22 (code := pr_X_cheapest) (stops := [23]) rfl rfl hNF
set_option maxRecDepth 20000 in
theorem b_X_cheapest_23 {d : Nat} {Q : QQ} {μ : Mem} {l1 : Int32} {l2 : Int32} {l3 : Int32} {l4 : Int32} {l5 : Int32} {l6 : Int32} (hNF : ((μ.1 2 3) ≤ l6 → ((¬ l3 = 0 → (Q (.int l5) μ)) ∧
(l3 = 0 → (Q (.int l4) μ)))) ∧
(¬ (μ.1 2 3) ≤ l6 → (vp_in l6 10 ∧ (((μ.1 3 l6.toNatClampNeg) = l1 → (Call d y_Day_costOf [.ref 44, .int l6, .int l2] μ (fun ρ μ1 => ∃ r2 : Int32, ρ = .int r2 ∧ ((l4 = (-1) → (AA (Call d) y_X_cheapest Q 23 [.ref 0, .int l1, .int l2, .int l3, .int l6, .int r2, .int (l6 + 1), .int r2] [] μ1)) ∧
(¬ l4 = (-1) → ((l5 ≤ r2 → (AA (Call d) y_X_cheapest Q 23 [.ref 0, .int l1, .int l2, .int l3, .int l4, .int l5, .int (l6 + 1), .int r2] [] μ1)) ∧
(¬ l5 ≤ r2 → (AA (Call d) y_X_cheapest Q 23 [.ref 0, .int l1, .int l2, .int l3, .int l6, .int r2, .int (l6 + 1), .int r2] [] μ1)))))))) ∧
(¬ (μ.1 3 l6.toNatClampNeg) = l1 → (AA (Call d) y_X_cheapest Q 23 [.ref 0, .int l1, .int l2, .int l3, .int l4, .int l5, .int (l6 + 1), un] [] μ)))))) : AA (Call d) y_X_cheapest Q 23 [.ref 0, .int l1, .int l2, .int l3, .int l4, .int l5, .int l6, un] [] μ := go_in 31 (code := pr_X_cheapest) (stops := [23]) rfl rfl hNF
set_option maxRecDepth 20000 in
theorem b_X_day_0 {d : Nat} {Q : QQ} {μ : Mem} {a : Int32} {b : Int32} (hNF : Call d y_X_within [.int a, .int ((μ.1 16 3) - 1)] μ (fun ρ μ1 => ∃ r2 : Int32, ρ = .int r2 ∧ ((r2 = 0 → (Q (.int (-100000)) μ1)) ∧
(¬ r2 = 0 → (Call d y_X_within [.int b, .int 2] μ1 (fun ρ μ3 => ∃ r4 : Int32, ρ = .int r4 ∧ ((¬ r4 = 0 → (Call d y_Day_dawn [.ref 44] μ3 (fun _ μ5 => (Call d y_Day_live [.ref 44] μ5 (fun _ μ6 => ((¬ b = 0 → ((¬ b = 1 → (vp_in a 5 ∧ (Q (.int (μ6.1 49 a.toNatClampNeg)) μ6))) ∧
(b = 1 → (vp_in a 5 ∧ (Q (.int (μ6.1 47 a.toNatClampNeg)) μ6))))) ∧
(b = 0 → (vp_in a 5 ∧ (Q (.int (μ6.1 48 a.toNatClampNeg)) μ6))))))))) ∧
(r4 = 0 → (Q (.int (-100000)) μ3))))))))) : AA (Call d) y_X_day Q 0 [.ref 0, .int a, .int b] [] μ := go_in 30 (code := pr_X_day) (stops := []) rfl rfl hNF
set_option maxRecDepth 20000 in
theorem b_X_all_0 {d : Nat} {Q : QQ} {μ : Mem} {a : Int32} (hNF : Call d y_X_within [.int a, .int 3] μ (fun ρ μ1 => ∃ r2 : Int32, ρ = .int r2 ∧ ((¬ r2 = 0 → (Call d y_Day_dawn [.ref 44] μ1 (fun _ μ3 => (Call d y_Day_live [.ref 44] μ3 (fun _ μ4 => ((a = 0 → (Call d y_Day_allGood [.ref 44] μ4 (fun ρ μ5 => ∃ r6 : Int32, ρ = .int r6 ∧ (Q (.int r6) μ5)))) ∧
(¬ a = 0 → ((a = 1 → (Call d y_Day_howManySaid [.ref 44] μ4 (fun ρ μ7 => ∃ r8 : Int32, ρ = .int r8 ∧ (Q (.int r8) μ7)))) ∧
(¬ a = 1 → ((a = 2 → (Call d y_Day_spread [.ref 44] μ4 (fun ρ μ9 => ∃ r10 : Int32, ρ = .int r10 ∧ (Q (.int r10) μ9)))) ∧
(¬ a = 2 → (Call d y_Day_allPaid [.ref 44] μ4 (fun ρ μ11 => ∃ r12 : Int32, ρ = .int r12 ∧ (Q (.int r12) μ11)))))))))))))) ∧
(r2 = 0 → (Q (.int (-100000)) μ1))))) : AA (Call d) y_X_all Q 0 [.ref 0, .int a] [] μ := go_in 16 (code := pr_X_all) (stops := []) rfl rfl hNF
set_option maxRecDepth 20000 in
theorem b_X_when_0 {d : Nat} {Q : QQ} {μ : Mem} {a : Int32} {b : Int32} (hNF : Call d y_X_within [.int a, .int ((μ.1 16 3) - 1)] μ (fun ρ μ1 => ∃ r2 : Int32, ρ = .int r2 ∧ ((r2 = 0 → (Q (.int (-100000)) μ1)) ∧
(¬ r2 = 0 → (Call d y_X_within [.int b, .int 1] μ1 (fun ρ μ3 => ∃ r4 : Int32, ρ = .int r4 ∧ ((¬ r4 = 0 → (Call d y_Day_tryHours [.ref 44, .int a] μ3 (fun _ μ5 => (Call d y_X_firstMost [.ref 50] μ5 (fun ρ μ6 => ∃ r7 : Int32, ρ = .int r7 ∧ ((¬ b = 0 → (vp_in r7 24 ∧ (Q (.int (μ6.1 50 r7.toNatClampNeg)) μ6))) ∧
(b = 0 → (Q (.int r7) μ6)))))))) ∧
(r4 = 0 → (Q (.int (-100000)) μ3))))))))) : AA (Call d) y_X_when Q 0 [.ref 0, .int a, .int b, un] [] μ := go_in 29 (code := pr_X_when) (stops := []) rfl rfl hNF
set_option maxRecDepth 20000 in
theorem b_X_choose_0 {d : Nat} {Q : QQ} {μ : Mem} {a : Int32} (hNF : Call d y_X_within [.int a, .int ((μ.1 16 3) - 1)] μ (fun ρ μ1 => ∃ r2 : Int32, ρ = .int r2 ∧ ((¬ r2 = 0 → (Call d y_Day_tryHours [.ref 44, .int a] μ1 (fun _ μ3 => (Call d y_X_firstMost [.ref 50] μ3 (fun ρ μ4 => ∃ r5 : Int32, ρ = .int r5 ∧ (vp_in a 5 ∧ ∀ μ6 : Mem, μ6 = wI μ4 18 (upd (μ4.1 18) a.toNatClampNeg r5) → (vp_in r5 24 ∧ (Q (.int (μ6.1 50 r5.toNatClampNeg)) μ6)))))))) ∧
(r2 = 0 → (Q (.int (-100000)) μ1))))) : AA (Call d) y_X_choose Q 0 [.ref 0, .int a, un] [] μ := go_in 29 (code := pr_X_choose) (stops := []) rfl rfl hNF
set_option maxRecDepth 20000 in
theorem b_X_rest_0 {d : Nat} {Q : QQ} {μ : Mem} (hNF : AA (Call d) y_X_rest Q 2 [.ref 0, .int 0, un] [] μ) : AA (Call d) y_X_rest Q 0 [.ref 0, un, un] [] μ := go_in 3 (code := pr_X_rest) (stops := [2]) rfl rfl hNF
set_option maxRecDepth 20000 in
theorem b_X_rest_2 {d : Nat} {Q : QQ} {μ : Mem} {l1 : Int32} (hNF : ((μ.1 16 3) ≤ l1 → (Q (.int 1) μ)) ∧
(¬ (μ.1 16 3) ≤ l1 → (Call d y_Day_tryHours [.ref 44, .int l1] μ (fun _ μ1 => (Call d y_X_firstMost [.ref 50] μ1 (fun ρ μ2 => ∃ r3 : Int32, ρ = .int r3 ∧ (vp_in r3 24 ∧ (vp_in l1 5 ∧ (vp_in (μ2.1 18 l1.toNatClampNeg) 24 ∧ (((μ2.1 50 r3.toNatClampNeg) ≤ (μ2.1 50 (Int32.toNatClampNeg (μ2.1 18 l1.toNatClampNeg))) → (AA (Call d) y_X_rest Q 2 [.ref 0, .int (l1 + 1), .int (μ2.1 50 r3.toNatClampNeg)] [] μ2)) ∧
(¬ (μ2.1 50 r3.toNatClampNeg) ≤ (μ2.1 50 (Int32.toNatClampNeg (μ2.1 18 l1.toNatClampNeg))) → (Q (.int 0) μ2)))))))))))) : AA (Call d) y_X_rest Q 2 [.ref 0, .int l1, un] [] μ := go_in 32 (code := pr_X_rest) (stops := [2]) rfl rfl hNF
set_option maxRecDepth 20000 in
theorem b_X_turns_0 {d : Nat} {Q : QQ} {μ : Mem} {a : Int32} (hNF : Call d y_X_within [.int a, .int 1] μ (fun ρ μ1 => ∃ r2 : Int32, ρ = .int r2 ∧ ((¬ r2 = 0 → (AA (Call d) y_X_turns Q 24 [.ref 0, .int a, .int (if 4 < μ1.1 16 3 then 4 else μ1.1 16 3), .int (-1), .int 0, .int (1 <<< ((2 * (if 4 < μ1.1 16 3 then 4 else μ1.1 16 3)) &&& 31)), .int 0, un] [] μ1)) ∧
(r2 = 0 → (Q (.int (-100000)) μ1))))) : AA (Call d) y_X_turns Q 0 [.ref 0, .int a, un, un, un, un, un, un] [] μ := go_in 23 (code := pr_X_turns) (stops := [24, 37]) rfl rfl hNF
set_option maxRecDepth 20000 in
theorem b_X_turns_24 {d : Nat} {Q : QQ} {μ : Mem} {l1 : Int32} {l2 : Int32} {l3 : Int32} {l4 : Int32} {l5 : Int32} {l6 : Int32} (hNF : (l5 ≤ l6 → ((¬ l1 = 0 → (Call d y_X_digits [.int l3, .int l2] μ (fun ρ μ1 => ∃ r2 : Int32, ρ = .int r2 ∧ (Q (.int r2) μ1)))) ∧
(l1 = 0 → (Q (.int l4) μ)))) ∧
(¬ l5 ≤ l6 → (Call d y_X_isTurn [.int l6, .int l2] μ (fun ρ μ3 => ∃ r4 : Int32, ρ = .int r4 ∧ ((¬ r4 = 0 → (Call d y_Day_dawn [.ref 44] μ3 (fun _ μ5 => (AA (Call d) y_X_turns Q 37 [.ref 0, .int l1, .int l2, .int l3, .int l4, .int l5, .int l6, .int 0] [] μ5)))) ∧
(r4 = 0 → (AA (Call d) y_X_turns Q 24 [.ref 0, .int l1, .int l2, .int l3, .int l4, .int l5, .int (l6 + 1), un] [] μ3))))))) : AA (Call d) y_X_turns Q 24 [.ref 0, .int l1, .int l2, .int l3, .int l4, .int l5, .int l6, un] [] μ := go_in 13 (code := pr_X_turns) (stops := [24, 37]) rfl rfl hNF
set_option maxRecDepth 20000 in
theorem b_X_turns_37 {d : Nat} {Q : QQ} {μ : Mem} {l1 : Int32} {l2 : Int32} {l3 : Int32} {l4 : Int32} {l5 : Int32} {l6 : Int32} {l7 : Int32} (hNF : (l2 ≤ l7 → (Call d y_Day_live [.ref 44] μ (fun _ μ1 => (Call d y_Day_allGood [.ref 44] μ1 (fun ρ μ2 => ∃ r3 : Int32, ρ = .int r3 ∧ ((l3 = (-1) → (AA (Call d) y_X_turns Q 24 [.ref 0, .int l1, .int l2, .int l6, .int r3, .int l5, .int (l6 + 1), .int r3] [] μ2)) ∧
(¬ l3 = (-1) → ((r3 ≤ l4 → (AA (Call d) y_X_turns Q 24 [.ref 0, .int l1, .int l2, .int l3, .int l4, .int l5, .int (l6 + 1), .int r3] [] μ2)) ∧
(¬ r3 ≤ l4 → (AA (Call d) y_X_turns Q 24 [.ref 0, .int l1, .int l2, .int l6, .int r3, .int l5, .int (l6 + 1), .int r3] [] μ2)))))))))) ∧
(¬ l2 ≤ l7 → (Call d y_X_whoseHour [.int l6, .int l7, .int l2] μ (fun ρ μ4 => ∃ r5 : Int32, ρ = .int r5 ∧ (vp_in r5 5 ∧ (vp_in l7 5 ∧ ∀ μ6 : Mem, μ6 = wI μ4 46 (upd (μ4.1 46) l7.toNatClampNeg (μ4.1 18 r5.toNatClampNeg)) → (AA (Call d) y_X_turns Q 37 [.ref 0, .int l1, .int l2, .int l3, .int l4, .int l5, .int l6, .int (l7 + 1)] [] μ6))))))) : AA (Call d) y_X_turns Q 37 [.ref 0, .int l1, .int l2, .int l3, .int l4, .int l5, .int l6, .int l7] [] μ := go_in 23 (code := pr_X_turns) (stops := [24, 37]) rfl rfl hNF
set_option maxRecDepth 20000 in
theorem b_X_burn_0 {d : Nat} {Q : QQ} {μ : Mem} {a : Int32} {b : Int32} (hNF : Call d y_X_within [.int a, .int 7] μ (fun ρ μ1 => ∃ r2 : Int32, ρ = .int r2 ∧ ((r2 = 0 → (Q (.int (-100000)) μ1)) ∧
(¬ r2 = 0 → (Call d y_X_within [.int (b - 1), .int 19] μ1 (fun ρ μ3 => ∃ r4 : Int32, ρ = .int r4 ∧ ((¬ r4 = 0 → (Call d y_Day_goodIfBurned [.ref 44, .int a, .int 0] μ3 (fun ρ μ5 => ∃ r6 : Int32, ρ = .int r6 ∧ (Call d y_Day_goodIfBurned [.ref 44, .int a, .int b] μ5 (fun ρ μ7 => ∃ r8 : Int32, ρ = .int r8 ∧ (Q (.int (r6 - r8)) μ7)))))) ∧
(r4 = 0 → (Q (.int (-100000)) μ3))))))))) : AA (Call d) y_X_burn Q 0 [.ref 0, .int a, .int b] [] μ := go_in 22 (code := pr_X_burn) (stops := []) rfl rfl hNF
set_option maxRecDepth 20000 in
theorem b_X_worst_0 {d : Nat} {Q : QQ} {μ : Mem} {a : Int32} {b : Int32} (hNF : Call d y_X_within [.int (a - 1), .int 19] μ (fun ρ μ1 => ∃ r2 : Int32, ρ = .int r2 ∧ ((r2 = 0 → (Q (.int (-100000)) μ1)) ∧
(¬ r2 = 0 → (Call d y_X_within [.int b, .int 1] μ1 (fun ρ μ3 => ∃ r4 : Int32, ρ = .int r4 ∧ ((¬ r4 = 0 → (Call d y_Day_goodIfBurned [.ref 44, .int 0, .int 0] μ3 (fun ρ μ5 => ∃ r6 : Int32, ρ = .int r6 ∧ (Call d y_Day_goodIfBurned [.ref 44, .int 0, .int a] μ5 (fun ρ μ7 => ∃ r8 : Int32, ρ = .int r8 ∧ (AA (Call d) y_X_worst Q 30 [.ref 0, .int a, .int b, .int r6, .int 0, .int (r6 - r8), .int 1, un] [] μ7)))))) ∧
(r4 = 0 → (Q (.int (-100000)) μ3))))))))) : AA (Call d) y_X_worst Q 0 [.ref 0, .int a, .int b, un, un, un, un, un] [] μ := go_in 29 (code := pr_X_worst) (stops := [30]) rfl rfl hNF
set_option maxRecDepth 20000 in
theorem b_X_worst_30 {d : Nat} {Q : QQ} {μ : Mem} {l1 : Int32} {l2 : Int32} {l3 : Int32} {l4 : Int32} {l5 : Int32} {l6 : Int32} (hNF : ((8 : Int32) ≤ l6 → ((¬ l2 = 0 → (Q (.int l5) μ)) ∧
(l2 = 0 → (Q (.int l4) μ)))) ∧
(¬ (8 : Int32) ≤ l6 → (Call d y_Day_goodIfBurned [.ref 44, .int l6, .int l1] μ (fun ρ μ1 => ∃ r2 : Int32, ρ = .int r2 ∧ (((l3 - r2) ≤ l5 → (AA (Call d) y_X_worst Q 30 [.ref 0, .int l1, .int l2, .int l3, .int l4, .int l5, .int (l6 + 1), .int (l3 - r2)] [] μ1)) ∧
(¬ (l3 - r2) ≤ l5 → (AA (Call d) y_X_worst Q 30 [.ref 0, .int l1, .int l2, .int l3, .int l6, .int (l3 - r2), .int (l6 + 1), .int (l3 - r2)] [] μ1))))))) : AA (Call d) y_X_worst Q 30 [.ref 0, .int l1, .int l2, .int l3, .int l4, .int l5, .int l6, un] [] μ := go_in 21 (code := pr_X_worst) (stops := [30]) rfl rfl hNF
set_option maxRecDepth 20000 in
theorem b_X_best_0 {d : Nat} {Q : QQ} {μ : Mem} {a : Int32} (hNF : Call d y_X_within [.int a, .int 2] μ (fun ρ μ1 => ∃ r2 : Int32, ρ = .int r2 ∧ ((¬ r2 = 0 → (AA (Call d) y_X_best Q 14 [.ref 0, .int a, .int (-1), .int 0, .int 0, .int 0, un, un] [] μ1)) ∧
(r2 = 0 → (Q (.int (-100000)) μ1))))) : AA (Call d) y_X_best Q 0 [.ref 0, .int a, un, un, un, un, un, un] [] μ := go_in 13 (code := pr_X_best) (stops := [14]) rfl rfl hNF
set_option maxRecDepth 20000 in
theorem b_X_best_14 {d : Nat} {Q : QQ} {μ : Mem} {l1 : Int32} {l2 : Int32} {l3 : Int32} {l4 : Int32} {l5 : Int32} (hNF : ((μ.1 20 2) ≤ l5 → ((¬ l1 = 0 → ((¬ l1 = 1 → (Q (.int l4) μ)) ∧
(l1 = 1 → (Q (.int l3) μ)))) ∧
(l1 = 0 → (Q (.int l2) μ)))) ∧
(¬ (μ.1 20 2) ≤ l5 → (Call d y_Day_dawn [.ref 44] μ (fun _ μ1 => (∀ μ2 : Mem, μ2 = wI μ1 44 (upd (μ1.1 44) 7 l5) → (Call d y_Day_live [.ref 44] μ2 (fun _ μ3 => (Call d y_Day_howManySaid [.ref 44] μ3 (fun ρ μ4 => ∃ r5 : Int32, ρ = .int r5 ∧ (Call d y_Day_allGood [.ref 44] μ4 (fun ρ μ6 => ∃ r7 : Int32, ρ = .int r7 ∧ ((l2 = (-1) → (AA (Call d) y_X_best Q 14 [.ref 0, .int l1, .int l5, .int r5, .int r7, .int (l5 + 1), .int r5, .int r7] [] μ6)) ∧
(¬ l2 = (-1) → ((l3 < r5 → (AA (Call d) y_X_best Q 14 [.ref 0, .int l1, .int l5, .int r5, .int r7, .int (l5 + 1), .int r5, .int r7] [] μ6)) ∧
(¬ l3 < r5 → ((¬ r5 = l3 → (AA (Call d) y_X_best Q 14 [.ref 0, .int l1, .int l2, .int l3, .int l4, .int (l5 + 1), .int r5, .int r7] [] μ6)) ∧
(r5 = l3 → ((r7 ≤ l4 → (AA (Call d) y_X_best Q 14 [.ref 0, .int l1, .int l2, .int l3, .int l4, .int (l5 + 1), .int r5, .int r7] [] μ6)) ∧
(¬ r7 ≤ l4 → (AA (Call d) y_X_best Q 14 [.ref 0, .int l1, .int l5, .int r5, .int r7, .int (l5 + 1), .int r5, .int r7] [] μ6)))))))))))))))))))) : AA (Call d) y_X_best Q 14 [.ref 0, .int l1, .int l2, .int l3, .int l4, .int l5, un, un] [] μ := go_in 44 (code := pr_X_best) (stops := [14]) rfl rfl hNF
set_option maxRecDepth 20000 in
theorem b_X_judge_0 {d : Nat} {Q : QQ} {μ : Mem} {a : Int32} (hNF : Call d y_X_refusalToJudge [.ref 0, .int a] μ (fun ρ μ1 => ∃ r2 : Int32, ρ = .int r2 ∧ ((r2 = 0 → (Call d y_Day_dawn [.ref 44] μ1 (fun _ μ3 => (Call d y_Day_live [.ref 44] μ3 (fun _ μ4 => (vp_in a 4 ∧ (Call d y_Day_firstUnlike [.ref 44, .ref (61 + a.toNatClampNeg)] μ4 (fun ρ μ5 => ∃ r6 : Int32, ρ = .int r6 ∧ (Q (.int r6) μ5))))))))) ∧
(¬ r2 = 0 → (Q (.int r2) μ1))))) : AA (Call d) y_X_judge Q 0 [.ref 0, .int a, un] [] μ := go_in 21 (code := pr_X_judge) (stops := []) rfl rfl hNF
set_option maxRecDepth 20000 in
theorem b_X_fits_0 {d : Nat} {Q : QQ} {μ : Mem} {a : Int32} {b : Int32} (hNF : Call d y_X_within [.int a, .int ((μ.1 16 3) - 1)] μ (fun ρ μ1 => ∃ r2 : Int32, ρ = .int r2 ∧ ((r2 = 0 → (Q (.int (-2)) μ1)) ∧
(¬ r2 = 0 → (Call d y_X_within [.int b, .int 9999] μ1 (fun ρ μ3 => ∃ r4 : Int32, ρ = .int r4 ∧ ((¬ r4 = 0 → (Call d y_Day_dawn [.ref 44] μ3 (fun _ μ5 => (Call d y_Day_liveTo [.ref 44, .int a] μ5 (fun _ μ6 => (AA (Call d) y_X_fits Q 25 [.ref 0, .int a, .int b, .int 0, .int 0] [] μ6)))))) ∧
(r4 = 0 → (Q (.int (-2)) μ3))))))))) : AA (Call d) y_X_fits Q 0 [.ref 0, .int a, .int b, un, un] [] μ := go_in 24 (code := pr_X_fits) (stops := [25]) rfl rfl hNF
set_option maxRecDepth 20000 in
theorem b_X_fits_25 {d : Nat} {Q : QQ} {μ : Mem} {l1 : Int32} {l2 : Int32} {l3 : Int32} {l4 : Int32} (hNF : ((μ.1 2 3) ≤ l4 → (Q (.int l3) μ)) ∧
(¬ (μ.1 2 3) ≤ l4 → (vp_in l4 10 ∧ (vp_in l1 5 ∧ (((μ.1 3 l4.toNatClampNeg) = (μ.1 17 l1.toNatClampNeg) → (vp_in l1 5 ∧ (Call d y_Day_costOf [.ref 44, .int l4, .int (μ.1 18 l1.toNatClampNeg)] μ (fun ρ μ1 => ∃ r2 : Int32, ρ = .int r2 ∧ ((¬ r2 = l2 → (AA (Call d) y_X_fits Q 25 [.ref 0, .int l1, .int l2, .int l3, .int (l4 + 1)] [] μ1)) ∧
(r2 = l2 → (AA (Call d) y_X_fits Q 25 [.ref 0, .int l1, .int l2, .int (l3 ||| (1 <<< (l4 &&& 31))), .int (l4 + 1)] [] μ1))))))) ∧
(¬ (μ.1 3 l4.toNatClampNeg) = (μ.1 17 l1.toNatClampNeg) → (AA (Call d) y_X_fits Q 25 [.ref 0, .int l1, .int l2, .int l3, .int (l4 + 1)] [] μ))))))) : AA (Call d) y_X_fits Q 25 [.ref 0, .int l1, .int l2, .int l3, .int l4] [] μ := go_in 36 (code := pr_X_fits) (stops := [25]) rfl rfl hNF
set_option maxRecDepth 20000 in
theorem b_X_whose_0 {d : Nat} {Q : QQ} {μ : Mem} {a : Int32} (hNF : Call d y_X_refusalToJudge [.ref 0, .int a] μ (fun ρ μ1 => ∃ r2 : Int32, ρ = .int r2 ∧ ((r2 = 0 → (AA (Call d) y_X_whose Q 12 [.ref 0, .int a, .int r2, .int 0, .int 0] [] μ1)) ∧
(¬ r2 = 0 → (Q (.int r2) μ1))))) : AA (Call d) y_X_whose Q 0 [.ref 0, .int a, un, un, un] [] μ := go_in 11 (code := pr_X_whose) (stops := [12]) rfl rfl hNF
set_option maxRecDepth 20000 in
theorem b_X_whose_12 {d : Nat} {Q : QQ} {μ : Mem} {l1 : Int32} {l2 : Int32} {l3 : Int32} {l4 : Int32} (hNF : ((μ.1 20 2) ≤ l4 → (Q (.int l3) μ)) ∧
(¬ (μ.1 20 2) ≤ l4 → (Call d y_Day_dawn [.ref 44] μ (fun _ μ1 => (∀ μ2 : Mem, μ2 = wI μ1 44 (upd (μ1.1 44) 7 l4) → (Call d y_Day_live [.ref 44] μ2 (fun _ μ3 => (vp_in l1 4 ∧ (Call d y_Day_firstUnlike [.ref 44, .ref (61 + l1.toNatClampNeg)] μ3 (fun ρ μ4 => ∃ r5 : Int32, ρ = .int r5 ∧ ((¬ r5 = (-1) → (AA (Call d) y_X_whose Q 12 [.ref 0, .int l1, .int l2, .int l3, .int (l4 + 1)] [] μ4)) ∧
(r5 = (-1) → (AA (Call d) y_X_whose Q 12 [.ref 0, .int l1, .int l2, .int (l3 ||| (1 <<< (l4 &&& 31))), .int (l4 + 1)] [] μ4))))))))))))) : AA (Call d) y_X_whose Q 12 [.ref 0, .int l1, .int l2, .int l3, .int l4] [] μ := go_in 34 (code := pr_X_whose) (stops := [12]) rfl rfl hNF
set_option maxRecDepth 20000 in
theorem b_X_drawn_0 {d : Nat} {Q : QQ} {μ : Mem} {a : Int32} (hNF : Call d y_Day_dawn [.ref 44] μ (fun _ μ1 => (Call d y_Day_draw [.ref 44, .int a] μ1 (fun _ μ2 => (Call d y_Day_live [.ref 44] μ2 (fun _ μ3 => (Call d y_Day_allGood [.ref 44] μ3 (fun ρ μ4 => ∃ r5 : Int32, ρ = .int r5 ∧ (Q (.int r5) μ4))))))))) : AA (Call d) y_X_drawn Q 0 [.ref 0, .int a] [] μ := go_in 14 (code := pr_X_drawn) (stops := []) rfl rfl hNF
set_option maxRecDepth 20000 in
theorem b_X_chance_0 {d : Nat} {Q : QQ} {μ : Mem} {a : Int32} {b : Int32} {c : Int32} (hNF : Call d y_X_within [.int (b - 1), .int 19] μ (fun ρ μ1 => ∃ r2 : Int32, ρ = .int r2 ∧ ((r2 = 0 → (Q (.long (-4611686018427387904)) μ1)) ∧
(¬ r2 = 0 → (Call d y_X_within [.int c, .int 1] μ1 (fun ρ μ3 => ∃ r4 : Int32, ρ = .int r4 ∧ ((¬ r4 = 0 → (AA (Call d) y_X_chance Q 16 [.ref 0, .int a, .int b, .int c, .int 0, .int 0] [] μ3)) ∧
(r4 = 0 → (Q (.long (-4611686018427387904)) μ3))))))))) : AA (Call d) y_X_chance Q 0 [.ref 0, .int a, .int b, .int c, un, un] [] μ := go_in 15 (code := pr_X_chance) (stops := [16]) rfl rfl hNF
set_option maxRecDepth 20000 in
theorem b_X_chance_16 {d : Nat} {Q : QQ} {μ : Mem} {l1 : Int32} {l2 : Int32} {l3 : Int32} {l4 : Int32} {l5 : Int32} (hNF : (l2 ≤ l5 → (Call d y_X_commonDivisor [.int l4, .int l2] μ (fun ρ μ1 => ∃ r2 : Int32, ρ = .int r2 ∧ ((¬ l3 = 0 → (¬ r2 = 0 ∧ (Q (.long (Int32.toInt64 (l2 / r2))) μ1))) ∧
(l3 = 0 → (¬ r2 = 0 ∧ (Q (.long (Int32.toInt64 (l4 / r2))) μ1))))))) ∧
(¬ l2 ≤ l5 → (Call d y_Day_dawn [.ref 44] μ (fun _ μ3 => (Call d y_Day_draw [.ref 44, .int (l1 + l5)] μ3 (fun _ μ4 => (Call d y_Day_live [.ref 44] μ4 (fun _ μ5 => (Call d y_Day_howManySaid [.ref 44] μ5 (fun ρ μ6 => ∃ r7 : Int32, ρ = .int r7 ∧ ((¬ r7 = (μ6.1 16 3) → (AA (Call d) y_X_chance Q 16 [.ref 0, .int l1, .int l2, .int l3, .int l4, .int (l5 + 1)] [] μ6)) ∧
(r7 = (μ6.1 16 3) → (AA (Call d) y_X_chance Q 16 [.ref 0, .int l1, .int l2, .int l3, .int (l4 + 1), .int (l5 + 1)] [] μ6))))))))))))) : AA (Call d) y_X_chance Q 16 [.ref 0, .int l1, .int l2, .int l3, .int l4, .int l5] [] μ := go_in 26 (code := pr_X_chance) (stops := [16]) rfl rfl hNF
set_option maxRecDepth 20000 in
theorem b_X_image_0 {d : Nat} {Q : QQ} {μ : Mem} (hNF : (¬ (0 : Int32) < 0 ∧ ¬ (0 : Int32) < 0 ∧ ¬ (8 : Int32) < 0 ∧ (Int32.toNatClampNeg 0) + (Int32.toNatClampNeg 8) ≤ 8 ∧ (Int32.toNatClampNeg 0) + (Int32.toNatClampNeg 8) ≤ 8 ∧ 0 < 8 ∧ 0 < 8) ∧ ∀ μ1 : Mem, μ1 = wI μ 52 (va_cpy (μ.1 1) (μ.1 52) (Int32.toNatClampNeg 0) (Int32.toNatClampNeg 0) (Int32.toNatClampNeg 8)) → (Call d y_Image_keepWriters [.ref 51, .ref 16] μ1 (fun _ μ2 => (Call d y_Image_keepLaws [.ref 51, .ref 20] μ2 (fun _ μ3 => (∀ μ4 : Mem, μ4 = wI μ3 51 (upd (μ3.1 51) 2 (μ3.1 2 3)) → (∀ μ5 : Mem, μ5 = wI μ4 51 (upd (μ4.1 51) 3 (μ4.1 27 5)) → (narrow .boolean (.int 1) = .int 1 ∧ ∀ μ6 : Mem, μ6 = wI μ5 51 (upd (μ5.1 51) 0 1) → (Q (.int (μ6.1 16 3)) μ6))))))))) : AA (Call d) y_X_image Q 0 [.ref 0] [] μ := go_in 39 (code := pr_X_image) (stops := []) rfl rfl hNF
set_option maxRecDepth 20000 in
theorem b_X_back_0 {d : Nat} {Q : QQ} {μ : Mem} (hNF : (¬ (μ.1 51 0) = 0 → ((¬ (0 : Int32) < 0 ∧ ¬ (0 : Int32) < 0 ∧ ¬ (8 : Int32) < 0 ∧ (Int32.toNatClampNeg 0) + (Int32.toNatClampNeg 8) ≤ 8 ∧ (Int32.toNatClampNeg 0) + (Int32.toNatClampNeg 8) ≤ 8 ∧ 0 < 8 ∧ 0 < 8) ∧ ∀ μ1 : Mem, μ1 = wI μ 1 (va_cpy (μ.1 52) (μ.1 1) (Int32.toNatClampNeg 0) (Int32.toNatClampNeg 0) (Int32.toNatClampNeg 8)) → (Call d y_Image_restoreWriters [.ref 51, .ref 16] μ1 (fun _ μ2 => (Call d y_Image_restoreLaws [.ref 51, .ref 20] μ2 (fun _ μ3 => (∀ μ4 : Mem, μ4 = wI μ3 2 (upd (μ3.1 2) 3 (μ3.1 51 2)) → (∀ μ5 : Mem, μ5 = wI μ4 27 (upd (μ4.1 27) 5 (μ4.1 51 3)) → (Q (.int (μ5.1 16 3)) μ5))))))))) ∧
((μ.1 51 0) = 0 → (Q (.int (-3)) μ))) : AA (Call d) y_X_back Q 0 [.ref 0] [] μ := go_in 39 (code := pr_X_back) (stops := []) rfl rfl hNF
set_option maxRecDepth 20000 in
theorem b_X_count_0 {d : Nat} {Q : QQ} {μ : Mem} {a : Int32} (hNF : (a = 0 → (Q (.int (μ.1 2 3)) μ)) ∧
(¬ a = 0 → ((a = 1 → (Q (.int (μ.1 16 3)) μ)) ∧
(¬ a = 1 → ((a = 2 → (Q (.int (μ.1 20 2)) μ)) ∧
(¬ a = 2 → ((a = 3 → (Q (.int (μ.1 20 3)) μ)) ∧
(¬ a = 3 → ((a = 4 → (Q (.int (μ.1 27 4)) μ)) ∧
(¬ a = 4 → ((a = 5 → (Q (.int (μ.1 23 1)) μ)) ∧
(¬ a = 5 → ((a = 6 → (Q (.int (μ.1 27 5)) μ)) ∧
(¬ a = 6 → ((a = 7 → (Call d y_X_sum [.ref 1] μ (fun ρ μ1 => ∃ r2 : Int32, ρ = .int r2 ∧ (Q (.int r2) μ1)))) ∧
(¬ a = 7 → (Q (.int (-2)) μ))))))))))))))))) : AA (Call d) y_X_count Q 0 [.ref 0, .int a] [] μ := go_in 6 (code := pr_X_count) (stops := []) rfl rfl hNF
set_option maxRecDepth 20000 in
theorem b_X_sheet_0 {d : Nat} {Q : QQ} {μ : Mem} {a : Int32} {b : Int32} {c : Int32} (hNF : Call d y_X_within [.int a, .int 3] μ (fun ρ μ1 => ∃ r2 : Int32, ρ = .int r2 ∧ ((r2 = 0 → (Q (.int (-2)) μ1)) ∧
(¬ r2 = 0 → (Call d y_X_within [.int (b - (-1)), .int 3] μ1 (fun ρ μ3 => ∃ r4 : Int32, ρ = .int r4 ∧ ((¬ r4 = 0 → ((¬ b = (-1) → ((c ≤ 40 → (((0 : Int32) ≤ c → (Call d y_Sheets_lay [.ref 57, .int a, .int b, .int c] μ3 (fun _ μ5 => (Q (.int 1) μ5)))) ∧
(¬ (0 : Int32) ≤ c → (Q (.int (-14)) μ3)))) ∧
(¬ c ≤ 40 → (Q (.int (-2)) μ3)))) ∧
(b = (-1) → (vp_in a 4 ∧ ∀ μ6 : Mem, μ6 = wI μ3 58 (upd (μ3.1 58) a.toNatClampNeg (-1)) → (Q (.int 1) μ6))))) ∧
(r4 = 0 → (Q (.int (-2)) μ3))))))))) : AA (Call d) y_X_sheet Q 0 [.ref 0, .int a, .int b, .int c] [] μ := go_in 26 (code := pr_X_sheet) (stops := []) rfl rfl hNF
set_option maxRecDepth 20000 in
theorem b_X_cell_0 {d : Nat} {Q : QQ} {μ : Mem} {a : Int32} {b : Int32} {c : Int32} (hNF : Call d y_X_within [.int a, .int 3] μ (fun ρ μ1 => ∃ r2 : Int32, ρ = .int r2 ∧ ((¬ r2 = 0 → (vp_in a 4 ∧ ((¬ (μ1.1 58 a.toNatClampNeg) = (-1) → (vp_in a 4 ∧ (Call d y_X_within [.int b, .int ((μ1.1 59 a.toNatClampNeg) - 1)] μ1 (fun ρ μ3 => ∃ r4 : Int32, ρ = .int r4 ∧ ((¬ r4 = 0 → (Call d y_Sheets_put [.ref 57, .int a, .int b, .int c] μ3 (fun _ μ5 => (Q (.int 1) μ5)))) ∧
(r4 = 0 → (Q (.int (-12)) μ3))))))) ∧
((μ1.1 58 a.toNatClampNeg) = (-1) → (Q (.int (-11)) μ1))))) ∧
(r2 = 0 → (Q (.int (-2)) μ1))))) : AA (Call d) y_X_cell Q 0 [.ref 0, .int a, .int b, .int c] [] μ := go_in 29 (code := pr_X_cell) (stops := []) rfl rfl hNF
set_option maxRecDepth 20000 in
theorem b_X_copy_0 {d : Nat} {Q : QQ} {μ : Mem} {a : Int32} {b : Int32} {c : Int32} {e : Int32} {f : Int32} (hNF : Call d y_X_within [.int a, .int 3] μ (fun ρ μ1 => ∃ r2 : Int32, ρ = .int r2 ∧ ((r2 = 0 → (Q (.int (-2)) μ1)) ∧
(¬ r2 = 0 → (Call d y_X_within [.int c, .int 3] μ1 (fun ρ μ3 => ∃ r4 : Int32, ρ = .int r4 ∧ ((¬ r4 = 0 → (vp_in a 4 ∧ (((μ3.1 58 a.toNatClampNeg) = (-1) → (Q (.int (-11)) μ3)) ∧
(¬ (μ3.1 58 a.toNatClampNeg) = (-1) → (vp_in c 4 ∧ ((¬ (μ3.1 58 c.toNatClampNeg) = (-1) → (vp_in a 4 ∧ (vp_in c 4 ∧ (((μ3.1 58 a.toNatClampNeg) = (μ3.1 58 c.toNatClampNeg) → (Call d y_Sheets_hasRoom [.ref 57, .int a, .int b, .int f] μ3 (fun ρ μ5 => ∃ r6 : Int32, ρ = .int r6 ∧ ((r6 = 0 → (Q (.int (-12)) μ5)) ∧
(¬ r6 = 0 → (Call d y_Sheets_hasRoom [.ref 57, .int c, .int e, .int f] μ5 (fun ρ μ7 => ∃ r8 : Int32, ρ = .int r8 ∧ ((¬ r8 = 0 → (vp_in a 4 ∧ (vp_in c 4 ∧ ((¬ b < 0 ∧ ¬ e < 0 ∧ ¬ f < 0 ∧ (Int32.toNatClampNeg b) + (Int32.toNatClampNeg f) ≤ (wlen 0 (61 + a.toNatClampNeg)) ∧ (Int32.toNatClampNeg e) + (Int32.toNatClampNeg f) ≤ (wlen 0 (61 + c.toNatClampNeg)) ∧ 0 < (wlen 0 (61 + a.toNatClampNeg)) ∧ 0 < (wlen 0 (61 + c.toNatClampNeg))) ∧ ∀ μ9 : Mem, μ9 = wI μ7 (61 + c.toNatClampNeg) (va_cpy (μ7.1 (61 + a.toNatClampNeg)) (μ7.1 (61 + c.toNatClampNeg)) (Int32.toNatClampNeg b) (Int32.toNatClampNeg e) (Int32.toNatClampNeg f)) → (Q (.int f) μ9))))) ∧
(r8 = 0 → (Q (.int (-12)) μ7)))))))))) ∧
(¬ (μ3.1 58 a.toNatClampNeg) = (μ3.1 58 c.toNatClampNeg) → (Q (.int (-13)) μ3)))))) ∧
((μ3.1 58 c.toNatClampNeg) = (-1) → (Q (.int (-11)) μ3)))))))) ∧
(r4 = 0 → (Q (.int (-2)) μ3))))))))) : AA (Call d) y_X_copy Q 0 [.ref 0, .int a, .int b, .int c, .int e, .int f] [] μ := go_in 63 (code := pr_X_copy) (stops := []) rfl rfl hNF
set_option maxRecDepth 20000 in
theorem b_X_writers_0 {d : Nat} {Q : QQ} {μ : Mem} {a : Int32} {b : Int32} {c : Int32} {e : Int32} (hNF : Call d y_X_within [.int a, .int 3] μ (fun ρ μ1 => ∃ r2 : Int32, ρ = .int r2 ∧ ((r2 = 0 → (Q (.int (-2)) μ1)) ∧
(¬ r2 = 0 → (Call d y_X_within [.int b, .int 2] μ1 (fun ρ μ3 => ∃ r4 : Int32, ρ = .int r4 ∧ ((r4 = 0 → (Q (.int (-2)) μ3)) ∧
(¬ r4 = 0 → (Call d y_X_within [.int e, .int 5] μ3 (fun ρ μ5 => ∃ r6 : Int32, ρ = .int r6 ∧ ((¬ r6 = 0 → (vp_in a 4 ∧ ((¬ (μ5.1 58 a.toNatClampNeg) = (-1) → (vp_in a 4 ∧ (((μ5.1 58 a.toNatClampNeg) = b → (vp_in a 4 ∧ (AA (Call d) y_X_writers Q 44 [.ref 0, .int a, .int b, .int c, .int e, .ref (61 + a.toNatClampNeg), .int c, .int 0, .int 0] [] μ5))) ∧
(¬ (μ5.1 58 a.toNatClampNeg) = b → (Q (.int (-13)) μ5))))) ∧
((μ5.1 58 a.toNatClampNeg) = (-1) → (Q (.int (-11)) μ5))))) ∧
(r6 = 0 → (Q (.int (-2)) μ5))))))))))))) : AA (Call d) y_X_writers Q 0 [.ref 0, .int a, .int b, .int c, .int e, un, un, un, un] [] μ := go_in 39 (code := pr_X_writers) (stops := [44]) rfl rfl hNF
set_option maxRecDepth 20000 in
theorem b_X_writers_44 {d : Nat} {Q : QQ} {μ : Mem} {l1 : Int32} {l2 : Int32} {l3 : Int32} {l4 : Int32} {l5 : Nat} {l6 : Int32} {l7 : Int32} {l8 : Int32} (hNF : (l4 ≤ l8 → (Q (.int l7) μ)) ∧
(¬ l4 ≤ l8 → (Call d y_Sheets_hasRoom [.ref 57, .int l1, .int l6, .int 3] μ (fun ρ μ1 => ∃ r2 : Int32, ρ = .int r2 ∧ ((¬ r2 = 0 → (vp_in l6 (ilen 0 l5) ∧ (vp_in (l6 + 1) (ilen 0 l5) ∧ (vp_in (l6 + 2) (ilen 0 l5) ∧ (Call d y_Writers_add [.ref 16, .int (μ1.1 l5 l6.toNatClampNeg), .int (μ1.1 l5 (Int32.toNatClampNeg (l6 + 1))), .int (μ1.1 l5 (Int32.toNatClampNeg (l6 + 2)))] μ1 (fun ρ μ3 => ∃ r4 : Int32, ρ = .int r4 ∧ ((r4 < 0 → (AA (Call d) y_X_writers Q 44 [.ref 0, .int l1, .int l2, .int l3, .int l4, .ref l5, .int (l6 + 3), .int l7, .int (l8 + 1)] [] μ3)) ∧
(¬ r4 < 0 → (AA (Call d) y_X_writers Q 44 [.ref 0, .int l1, .int l2, .int l3, .int l4, .ref l5, .int (l6 + 3), .int (l7 + 1), .int (l8 + 1)] [] μ3))))))))) ∧
(r2 = 0 → (Q (.int (-12)) μ1))))))) : AA (Call d) y_X_writers Q 44 [.ref 0, .int l1, .int l2, .int l3, .int l4, .ref l5, .int l6, .int l7, .int l8] [] μ := go_in 32 (code := pr_X_writers) (stops := [44]) rfl rfl hNF
set_option maxRecDepth 20000 in
theorem b_X_taken_0 {d : Nat} {Q : QQ} {μ : Mem} {a : Int32} {b : Int32} (hNF : Call d y_X_within [.int b, .int 5] μ (fun ρ μ1 => ∃ r2 : Int32, ρ = .int r2 ∧ ((¬ r2 = 0 → (Call d y_X_within [.int a, .int ((μ1.1 20 2) - 1)] μ1 (fun ρ μ3 => ∃ r4 : Int32, ρ = .int r4 ∧ ((¬ r4 = 0 → (Call d y_Laws_isUnder [.ref 20, .int a, .int b] μ3 (fun ρ μ5 => ∃ r6 : Int32, ρ = .int r6 ∧ ((r6 = 0 → (Q (.int (-13)) μ5)) ∧
(¬ r6 = 0 → (vp_in a 6 ∧ (Q (.int (μ5.1 22 a.toNatClampNeg)) μ5))))))) ∧
(r4 = 0 → (Q (.int (-11)) μ3)))))) ∧
(r2 = 0 → (Q (.int (-2)) μ1))))) : AA (Call d) y_X_taken Q 0 [.ref 0, .int a, .int b] [] μ := go_in 25 (code := pr_X_taken) (stops := []) rfl rfl hNF
set_option maxRecDepth 20000 in
theorem b_X_within_0 {d : Nat} {Q : QQ} {μ : Mem} {a : Int32} {b : Int32} (hNF : (a < 0 → (narrow .boolean (.int 0) = .int 0 ∧ Q (.int 0) μ)) ∧
(¬ a < 0 → ((b < a → (narrow .boolean (.int 0) = .int 0 ∧ Q (.int 0) μ)) ∧
(¬ b < a → (narrow .boolean (.int 1) = .int 1 ∧ Q (.int 1) μ))))) : AA (Call d) y_X_within Q 0 [.int a, .int b] [] μ := go_in 8 (code := pr_X_within) (stops := []) rfl rfl hNF
set_option maxRecDepth 20000 in
theorem b_X_put_0 {d : Nat} {Q : QQ} {μ : Mem} {a : Nat} {b : Int32} {c : Int32} {e : Int32} {f : Int32} (hNF : Call d y_X_within [.int c, .int (b - 1)] μ (fun ρ μ1 => ∃ r2 : Int32, ρ = .int r2 ∧ ((r2 = 0 → (Q (.int (-2)) μ1)) ∧
(¬ r2 = 0 → (Call d y_X_within [.int e, .int f] μ1 (fun ρ μ3 => ∃ r4 : Int32, ρ = .int r4 ∧ ((¬ r4 = 0 → (vp_in c (ilen 0 a) ∧ (vp_in c (wlen 0 a) ∧ ∀ μ5 : Mem, μ5 = wI μ3 a (upd (μ3.1 a) c.toNatClampNeg e) → (Q (.int (μ3.1 a c.toNatClampNeg)) μ5)))) ∧
(r4 = 0 → (Q (.int (-2)) μ3))))))))) : AA (Call d) y_X_put Q 0 [.ref a, .int b, .int c, .int e, .int f, un] [] μ := go_in 20 (code := pr_X_put) (stops := []) rfl rfl hNF
set_option maxRecDepth 20000 in
theorem b_X_item_0 {d : Nat} {Q : QQ} {μ : Mem} {a : Nat} {b : Int32} {c : Int32} (hNF : Call d y_X_within [.int c, .int (b - 1)] μ (fun ρ μ1 => ∃ r2 : Int32, ρ = .int r2 ∧ ((r2 = 0 → (Q (.int (-2)) μ1)) ∧
(¬ r2 = 0 → (vp_in c (ilen 0 a) ∧ (Q (.int (μ1.1 a c.toNatClampNeg)) μ1)))))) : AA (Call d) y_X_item Q 0 [.ref a, .int b, .int c] [] μ := go_in 11 (code := pr_X_item) (stops := []) rfl rfl hNF
set_option maxRecDepth 20000 in
theorem b_X_sum_0 {d : Nat} {Q : QQ} {μ : Mem} (hNF : AA (Call d) y_X_sum Q 9 [.ref 1, .int 0, .ref 1, .int (Int32.ofNat 8), .int 0, un] [] μ) : AA (Call d) y_X_sum Q 0 [.ref 1, un, un, un, un, un] [] μ := go_in 10 (code := pr_X_sum) (stops := [9]) rfl rfl hNF
set_option maxRecDepth 20000 in
theorem b_X_sum_9 {d : Nat} {Q : QQ} {μ : Mem} {l1 : Int32} {l3 : Int32} {l4 : Int32} (hNF : (l3 ≤ l4 → (Q (.int l1) μ)) ∧
(¬ l3 ≤ l4 → (vp_in l4 8 ∧ (AA (Call d) y_X_sum Q 9 [.ref 1, .int (l1 + (μ.1 1 l4.toNatClampNeg)), .ref 1, .int l3, .int (l4 + 1), .int (μ.1 1 l4.toNatClampNeg)] [] μ)))) : AA (Call d) y_X_sum Q 9 [.ref 1, .int l1, .ref 1, .int l3, .int l4, un] [] μ := go_in 14 (code := pr_X_sum) (stops := [9]) rfl rfl hNF
set_option maxRecDepth 20000 in
theorem b_X_firstMost_0 {d : Nat} {Q : QQ} {μ : Mem} (hNF : AA (Call d) y_X_firstMost Q 4 [.ref 50, .int 0, .int 1] [] μ) : AA (Call d) y_X_firstMost Q 0 [.ref 50, un, un] [] μ := go_in 5 (code := pr_X_firstMost) (stops := [4]) rfl rfl hNF
set_option maxRecDepth 20000 in
theorem b_X_firstMost_4 {d : Nat} {Q : QQ} {μ : Mem} {l1 : Int32} {l2 : Int32} (hNF : ((Int32.ofNat 24) ≤ l2 → (Q (.int l1) μ)) ∧
(¬ (Int32.ofNat 24) ≤ l2 → (vp_in l2 24 ∧ (vp_in l1 24 ∧ (((μ.1 50 l2.toNatClampNeg) ≤ (μ.1 50 l1.toNatClampNeg) → (AA (Call d) y_X_firstMost Q 4 [.ref 50, .int l1, .int (l2 + 1)] [] μ)) ∧
(¬ (μ.1 50 l2.toNatClampNeg) ≤ (μ.1 50 l1.toNatClampNeg) → (AA (Call d) y_X_firstMost Q 4 [.ref 50, .int l2, .int (l2 + 1)] [] μ))))))) : AA (Call d) y_X_firstMost Q 4 [.ref 50, .int l1, .int l2] [] μ := go_in 16 (code := pr_X_firstMost) (stops := [4]) rfl rfl hNF
set_option maxRecDepth 20000 in
theorem b_X_whoseHour_0 {d : Nat} {Q : QQ} {μ : Mem} {a : Int32} {b : Int32} {c : Int32} (hNF : Q (.int ((a >>> ((2 * ((c - 1) - b)) &&& 31)) &&& 3)) μ) : AA (Call d) y_X_whoseHour Q 0 [.int a, .int b, .int c] [] μ := go_in 12 (code := pr_X_whoseHour) (stops := []) rfl rfl hNF
set_option maxRecDepth 20000 in
theorem b_X_isTurn_0 {d : Nat} {Q : QQ} {μ : Mem} {a : Int32} {b : Int32} (hNF : AA (Call d) y_X_isTurn Q 4 [.int a, .int b, .int 0, .int 0] [] μ) : AA (Call d) y_X_isTurn Q 0 [.int a, .int b, un, un] [] μ := go_in 5 (code := pr_X_isTurn) (stops := [4]) rfl rfl hNF
set_option maxRecDepth 20000 in
theorem b_X_isTurn_4 {d : Nat} {Q : QQ} {μ : Mem} {l0 : Int32} {l1 : Int32} {l2 : Int32} {l3 : Int32} (hNF : (l1 ≤ l3 → ((¬ l2 = ((1 <<< (l1 &&& 31)) - 1) → (narrow .boolean (.int 0) = .int 0 ∧ Q (.int 0) μ)) ∧
(l2 = ((1 <<< (l1 &&& 31)) - 1) → (narrow .boolean (.int 1) = .int 1 ∧ Q (.int 1) μ)))) ∧
(¬ l1 ≤ l3 → (Call d y_X_whoseHour [.int l0, .int l3, .int l1] μ (fun ρ μ1 => ∃ r2 : Int32, ρ = .int r2 ∧ (AA (Call d) y_X_isTurn Q 4 [.int l0, .int l1, .int (l2 ||| (1 <<< (r2 &&& 31))), .int (l3 + 1)] [] μ1))))) : AA (Call d) y_X_isTurn Q 4 [.int l0, .int l1, .int l2, .int l3] [] μ := go_in 15 (code := pr_X_isTurn) (stops := [4]) rfl rfl hNF
set_option maxRecDepth 20000 in
theorem b_X_digits_0 {d : Nat} {Q : QQ} {μ : Mem} {a : Int32} {b : Int32} (hNF : AA (Call d) y_X_digits Q 4 [.int a, .int b, .int 0, .int 0] [] μ) : AA (Call d) y_X_digits Q 0 [.int a, .int b, un, un] [] μ := go_in 5 (code := pr_X_digits) (stops := [4]) rfl rfl hNF
set_option maxRecDepth 20000 in
theorem b_X_digits_4 {d : Nat} {Q : QQ} {μ : Mem} {l0 : Int32} {l1 : Int32} {l2 : Int32} {l3 : Int32} (hNF : (l1 ≤ l3 → (Q (.int l2) μ)) ∧
(¬ l1 ≤ l3 → (Call d y_X_whoseHour [.int l0, .int l3, .int l1] μ (fun ρ μ1 => ∃ r2 : Int32, ρ = .int r2 ∧ (AA (Call d) y_X_digits Q 4 [.int l0, .int l1, .int ((l2 * 10) + r2), .int (l3 + 1)] [] μ1))))) : AA (Call d) y_X_digits Q 4 [.int l0, .int l1, .int l2, .int l3] [] μ := go_in 15 (code := pr_X_digits) (stops := [4]) rfl rfl hNF
set_option maxRecDepth 20000 in
theorem b_X_commonDivisor_0 {d : Nat} {Q : QQ} {μ : Mem} {a : Int32} {b : Int32} (hNF : AA (Call d) y_X_commonDivisor Q 2 [.int a, .int b, .int b] [] μ) : AA (Call d) y_X_commonDivisor Q 0 [.int a, .int b, un] [] μ := go_in 3 (code := pr_X_commonDivisor) (stops := [2]) rfl rfl hNF
set_option maxRecDepth 20000 in
theorem b_X_commonDivisor_2 {d : Nat} {Q : QQ} {μ : Mem} {l0 : Int32} {l1 : Int32} {l2 : Int32} (hNF : (l2 ≤ 1 → (Q (.int 1) μ)) ∧
(¬ l2 ≤ 1 → (¬ l2 = 0 ∧ ((¬ (l0 - l0 / l2 * l2) = 0 → (AA (Call d) y_X_commonDivisor Q 2 [.int l0, .int l1, .int (l2 + (-1))] [] μ)) ∧
((l0 - l0 / l2 * l2) = 0 → (¬ l2 = 0 ∧ ((¬ (l1 - l1 / l2 * l2) = 0 → (AA (Call d) y_X_commonDivisor Q 2 [.int l0, .int l1, .int (l2 + (-1))] [] μ)) ∧
((l1 - l1 / l2 * l2) = 0 → (Q (.int l2) μ))))))))) : AA (Call d) y_X_commonDivisor Q 2 [.int l0, .int l1, .int l2] [] μ := go_in 14 (code := pr_X_commonDivisor) (stops := [2]) rfl rfl hNF
set_option maxRecDepth 20000 in
theorem b_X_refusalToJudge_0 {d : Nat} {Q : QQ} {μ : Mem} {a : Int32} (hNF : Call d y_X_within [.int a, .int 3] μ (fun ρ μ1 => ∃ r2 : Int32, ρ = .int r2 ∧ ((¬ r2 = 0 → (vp_in a 4 ∧ ((¬ (μ1.1 58 a.toNatClampNeg) = (-1) → (vp_in a 4 ∧ ((¬ (μ1.1 59 a.toNatClampNeg) = (μ1.1 16 3) → (Q (.int (-2)) μ1)) ∧
((μ1.1 59 a.toNatClampNeg) = (μ1.1 16 3) → (Q (.int 0) μ1))))) ∧
((μ1.1 58 a.toNatClampNeg) = (-1) → (Q (.int (-11)) μ1))))) ∧
(r2 = 0 → (Q (.int (-2)) μ1))))) : AA (Call d) y_X_refusalToJudge Q 0 [.ref 0, .int a] [] μ := go_in 23 (code := pr_X_refusalToJudge) (stops := []) rfl rfl hNF
set_option maxRecDepth 20000 in
theorem b_Day_dawn_0 {d : Nat} {Q : QQ} {μ : Mem} (hNF : (¬ (0 : Int32) < 0 ∧ ¬ (0 : Int32) < 0 ∧ ¬ (8 : Int32) < 0 ∧ (Int32.toNatClampNeg 0) + (Int32.toNatClampNeg 8) ≤ 8 ∧ (Int32.toNatClampNeg 0) + (Int32.toNatClampNeg 8) ≤ 8 ∧ 0 < 8 ∧ 0 < 8) ∧ ∀ μ1 : Mem, μ1 = wI μ 45 (va_cpy (μ.1 1) (μ.1 45) (Int32.toNatClampNeg 0) (Int32.toNatClampNeg 0) (Int32.toNatClampNeg 8)) → ((¬ (0 : Int32) < 0 ∧ ¬ (0 : Int32) < 0 ∧ ¬ (5 : Int32) < 0 ∧ (Int32.toNatClampNeg 0) + (Int32.toNatClampNeg 5) ≤ 5 ∧ (Int32.toNatClampNeg 0) + (Int32.toNatClampNeg 5) ≤ 5 ∧ 0 < 5 ∧ 0 < 5) ∧ ∀ μ2 : Mem, μ2 = wI μ1 46 (va_cpy (μ1.1 18) (μ1.1 46) (Int32.toNatClampNeg 0) (Int32.toNatClampNeg 0) (Int32.toNatClampNeg 5)) → (∀ μ3 : Mem, μ3 = wI μ2 44 (upd (μ2.1 44) 7 (μ2.1 20 3)) → (Q .null μ3)))) : AA (Call d) y_Day_dawn Q 0 [.ref 44] [] μ := go_in 23 (code := pr_Day_dawn) (stops := []) rfl rfl hNF
set_option maxRecDepth 20000 in
theorem b_Day_draw_0 {d : Nat} {Q : QQ} {μ : Mem} {a : Int32} (hNF : AA (Call d) y_Day_draw Q 4 [.ref 44, .int a, .int a, .int 0] [] μ) : AA (Call d) y_Day_draw Q 0 [.ref 44, .int a, un, un] [] μ := go_in 5 (code := pr_Day_draw) (stops := [4]) rfl rfl hNF
set_option maxRecDepth 20000 in
theorem b_Day_draw_4 {d : Nat} {Q : QQ} {μ : Mem} {l1 : Int32} {l2 : Int32} {l3 : Int32} (hNF : ((8 : Int32) ≤ l3 → (Q .null μ)) ∧
(¬ (8 : Int32) ≤ l3 → (¬ (20 : Int32) = 0 ∧ (vp_in l3 8 ∧ ∀ μ1 : Mem, μ1 = wI μ 45 (upd (μ.1 45) l3.toNatClampNeg (((Int32.toUInt32 ((l2 * 1103515245) + 12345) >>> (Int32.toUInt32 10 &&& Int32.toUInt32 31)).toInt32) - ((Int32.toUInt32 ((l2 * 1103515245) + 12345) >>> (Int32.toUInt32 10 &&& Int32.toUInt32 31)).toInt32) / 20 * 20)) → (AA (Call d) y_Day_draw Q 4 [.ref 44, .int l1, .int ((l2 * 1103515245) + 12345), .int (l3 + 1)] [] μ1))))) : AA (Call d) y_Day_draw Q 4 [.ref 44, .int l1, .int l2, .int l3] [] μ := go_in 21 (code := pr_Day_draw) (stops := [4]) rfl rfl hNF
set_option maxRecDepth 20000 in
theorem b_Day_live_0 {d : Nat} {Q : QQ} {μ : Mem} (hNF : Call d y_Day_liveTo [.ref 44, .int (-1)] μ (fun _ μ1 => (Q .null μ1))) : AA (Call d) y_Day_live Q 0 [.ref 44] [] μ := go_in 4 (code := pr_Day_live) (stops := []) rfl rfl hNF
set_option maxRecDepth 20000 in
theorem b_Day_liveTo_0 {d : Nat} {Q : QQ} {μ : Mem} {a : Int32} (hNF : AA (Call d) y_Day_liveTo Q 2 [.ref 44, .int a, .int 0, un] [] μ) : AA (Call d) y_Day_liveTo Q 0 [.ref 44, .int a, un, un] [] μ := go_in 3 (code := pr_Day_liveTo) (stops := [2, 7]) rfl rfl hNF
set_option maxRecDepth 20000 in
theorem b_Day_liveTo_2 {d : Nat} {Q : QQ} {μ : Mem} {l1 : Int32} {l2 : Int32} (hNF : ((24 : Int32) ≤ l2 → (Q .null μ)) ∧
(¬ (24 : Int32) ≤ l2 → (AA (Call d) y_Day_liveTo Q 7 [.ref 44, .int l1, .int l2, .int 0] [] μ))) : AA (Call d) y_Day_liveTo Q 2 [.ref 44, .int l1, .int l2, un] [] μ := go_in 6 (code := pr_Day_liveTo) (stops := [2, 7]) rfl rfl hNF
set_option maxRecDepth 20000 in
theorem b_Day_liveTo_7 {d : Nat} {Q : QQ} {μ : Mem} {l1 : Int32} {l2 : Int32} {l3 : Int32} (hNF : ((μ.1 16 3) ≤ l3 → (Call d y_Laws_age [.ref 20, .int (μ.1 44 7), .ref 45] μ (fun _ μ1 => (AA (Call d) y_Day_liveTo Q 2 [.ref 44, .int l1, .int (l2 + 1), .int l3] [] μ1)))) ∧
(¬ (μ.1 16 3) ≤ l3 → (vp_in l3 5 ∧ (((μ.1 46 l3.toNatClampNeg) = l2 → ((¬ l3 = l1 → (Call d y_Day_takeTurn [.ref 44, .int l3] μ (fun _ μ2 => (AA (Call d) y_Day_liveTo Q 7 [.ref 44, .int l1, .int l2, .int (l3 + 1)] [] μ2)))) ∧
(l3 = l1 → (Q .null μ)))) ∧
(¬ (μ.1 46 l3.toNatClampNeg) = l2 → (AA (Call d) y_Day_liveTo Q 7 [.ref 44, .int l1, .int l2, .int (l3 + 1)] [] μ)))))) : AA (Call d) y_Day_liveTo Q 7 [.ref 44, .int l1, .int l2, .int l3] [] μ := go_in 20 (code := pr_Day_liveTo) (stops := [2, 7]) rfl rfl hNF
set_option maxRecDepth 20000 in
theorem b_Day_takeTurn_0 {d : Nat} {Q : QQ} {μ : Mem} {a : Int32} (hNF : vp_in a 5 ∧ (vp_in a 5 ∧ (AA (Call d) y_Day_takeTurn Q 19 [.ref 44, .int a, .int (μ.1 46 a.toNatClampNeg), .int (μ.1 19 a.toNatClampNeg), .int (-1), .int ((μ.1 19 a.toNatClampNeg) + 1), .int 0, un] [] μ))) : AA (Call d) y_Day_takeTurn Q 0 [.ref 44, .int a, un, un, un, un, un, un] [] μ := go_in 20 (code := pr_Day_takeTurn) (stops := [19]) rfl rfl hNF
set_option maxRecDepth 20000 in
theorem b_Day_takeTurn_19 {d : Nat} {Q : QQ} {μ : Mem} {l1 : Int32} {l2 : Int32} {l3 : Int32} {l4 : Int32} {l5 : Int32} {l6 : Int32} (hNF : ((μ.1 2 3) ≤ l6 → (vp_in l1 5 ∧ ∀ μ1 : Mem, μ1 = wI μ 47 (upd (μ.1 47) l1.toNatClampNeg l4) → (vp_in l1 5 ∧ ∀ μ2 : Mem, μ2 = wI μ1 48 (upd (μ1.1 48) l1.toNatClampNeg 0) → (vp_in l1 5 ∧ ∀ μ3 : Mem, μ3 = wI μ2 49 (upd (μ2.1 49) l1.toNatClampNeg 0) → ((¬ l4 = (-1) → (vp_in l1 5 ∧ ∀ μ4 : Mem, μ4 = wI μ3 48 (upd (μ3.1 48) l1.toNatClampNeg l5) → (vp_in l4 10 ∧ (Call d y_Texts_worth [.ref 27, .int l2, .int (μ4.1 4 l4.toNatClampNeg), .int l3, .int (μ4.1 16 3)] μ4 (fun ρ μ5 => ∃ r6 : Int32, ρ = .int r6 ∧ (vp_in l1 5 ∧ ∀ μ7 : Mem, μ7 = wI μ5 49 (upd (μ5.1 49) l1.toNatClampNeg (r6 - l5)) → (Call d y_Words_spend [.ref 2, .int l4, .ref 45] μ7 (fun _ μ8 => (Q .null μ8))))))))) ∧
(l4 = (-1) → (Q .null μ3))))))) ∧
(¬ (μ.1 2 3) ≤ l6 → (vp_in l6 10 ∧ (vp_in l1 5 ∧ (((μ.1 3 l6.toNatClampNeg) = (μ.1 17 l1.toNatClampNeg) → (Call d y_Day_costOf [.ref 44, .int l6, .int l2] μ (fun ρ μ9 => ∃ r10 : Int32, ρ = .int r10 ∧ ((l5 ≤ r10 → (AA (Call d) y_Day_takeTurn Q 19 [.ref 44, .int l1, .int l2, .int l3, .int l4, .int l5, .int (l6 + 1), .int r10] [] μ9)) ∧
(¬ l5 ≤ r10 → (vp_in l6 10 ∧ (Call d y_Texts_may [.ref 27, .int l2, .int (μ9.1 4 l6.toNatClampNeg), .int l3, .int (μ9.1 16 3)] μ9 (fun ρ μ11 => ∃ r12 : Int32, ρ = .int r12 ∧ ((r12 = 0 → (AA (Call d) y_Day_takeTurn Q 19 [.ref 44, .int l1, .int l2, .int l3, .int l4, .int l5, .int (l6 + 1), .int r10] [] μ11)) ∧
(¬ r12 = 0 → (AA (Call d) y_Day_takeTurn Q 19 [.ref 44, .int l1, .int l2, .int l3, .int l6, .int r10, .int (l6 + 1), .int r10] [] μ11))))))))))) ∧
(¬ (μ.1 3 l6.toNatClampNeg) = (μ.1 17 l1.toNatClampNeg) → (AA (Call d) y_Day_takeTurn Q 19 [.ref 44, .int l1, .int l2, .int l3, .int l4, .int l5, .int (l6 + 1), un] [] μ))))))) : AA (Call d) y_Day_takeTurn Q 19 [.ref 44, .int l1, .int l2, .int l3, .int l4, .int l5, .int l6, un] [] μ := go_in 54 (code := pr_Day_takeTurn) (stops := [19]) rfl rfl hNF
set_option maxRecDepth 20000 in
theorem b_Day_costOf_0 {d : Nat} {Q : QQ} {μ : Mem} {a : Int32} {b : Int32} (hNF : AA (Call d) y_Day_costOf Q 4 [.ref 44, .int a, .int b, .int 0, .int 0, un] [] μ) : AA (Call d) y_Day_costOf Q 0 [.ref 44, .int a, .int b, un, un, un] [] μ := go_in 5 (code := pr_Day_costOf) (stops := [4]) rfl rfl hNF
set_option maxRecDepth 20000 in
theorem b_Day_costOf_4 {d : Nat} {Q : QQ} {μ : Mem} {l1 : Int32} {l2 : Int32} {l3 : Int32} {l4 : Int32} (hNF : vp_in l1 10 ∧ (((μ.1 4 l1.toNatClampNeg) ≤ l4 → (Q (.int l3) μ)) ∧
(¬ (μ.1 4 l1.toNatClampNeg) ≤ l4 → (Call d y_Words_usedAhead [.ref 2, .int l1, .int l4, .ref 45] μ (fun ρ μ1 => ∃ r2 : Int32, ρ = .int r2 ∧ (Call d y_Laws_price [.ref 20, .int (μ1.1 44 7), .int r2, .int l2] μ1 (fun ρ μ3 => ∃ r4 : Int32, ρ = .int r4 ∧ (vp_in l1 10 ∧ (vp_in l4 (ilen 0 (6 + l1.toNatClampNeg)) ∧ (Call d y_Texts_adds [.ref 27, .int r2, .int l2, .int (μ3.1 (6 + l1.toNatClampNeg) l4.toNatClampNeg)] μ3 (fun ρ μ5 => ∃ r6 : Int32, ρ = .int r6 ∧ (AA (Call d) y_Day_costOf Q 4 [.ref 44, .int l1, .int l2, .int (l3 + (r4 + r6)), .int (l4 + 1), .int r2] [] μ5)))))))))))) : AA (Call d) y_Day_costOf Q 4 [.ref 44, .int l1, .int l2, .int l3, .int l4, un] [] μ := go_in 41 (code := pr_Day_costOf) (stops := [4]) rfl rfl hNF
set_option maxRecDepth 20000 in
theorem b_Day_tryHours_0 {d : Nat} {Q : QQ} {μ : Mem} {a : Int32} (hNF : AA (Call d) y_Day_tryHours Q 2 [.ref 44, .int a, .int 0] [] μ) : AA (Call d) y_Day_tryHours Q 0 [.ref 44, .int a, un] [] μ := go_in 3 (code := pr_Day_tryHours) (stops := [2]) rfl rfl hNF
set_option maxRecDepth 20000 in
theorem b_Day_tryHours_2 {d : Nat} {Q : QQ} {μ : Mem} {l1 : Int32} {l2 : Int32} (hNF : ((24 : Int32) ≤ l2 → (Q .null μ)) ∧
(¬ (24 : Int32) ≤ l2 → (Call d y_Day_dawn [.ref 44] μ (fun _ μ1 => (vp_in l1 5 ∧ ∀ μ2 : Mem, μ2 = wI μ1 46 (upd (μ1.1 46) l1.toNatClampNeg l2) → (Call d y_Day_liveTo [.ref 44, .int l1] μ2 (fun _ μ3 => (Call d y_Day_takeTurn [.ref 44, .int l1] μ3 (fun _ μ4 => (vp_in l1 5 ∧ (vp_in l2 24 ∧ ∀ μ5 : Mem, μ5 = wI μ4 50 (upd (μ4.1 50) l2.toNatClampNeg (μ4.1 49 l1.toNatClampNeg)) → (AA (Call d) y_Day_tryHours Q 2 [.ref 44, .int l1, .int (l2 + 1)] [] μ5)))))))))))) : AA (Call d) y_Day_tryHours Q 2 [.ref 44, .int l1, .int l2] [] μ := go_in 27 (code := pr_Day_tryHours) (stops := [2]) rfl rfl hNF
set_option maxRecDepth 20000 in
theorem b_Day_goodIfBurned_0 {d : Nat} {Q : QQ} {μ : Mem} {a : Int32} {b : Int32} (hNF : Call d y_Day_dawn [.ref 44] μ (fun _ μ1 => (vp_in a 8 ∧ (vp_in a 8 ∧ ∀ μ2 : Mem, μ2 = wI μ1 45 (upd (μ1.1 45) a.toNatClampNeg (if 999 < (μ1.1 45 a.toNatClampNeg) + b then 999 else (μ1.1 45 a.toNatClampNeg) + b)) → (Call d y_Day_liveTo [.ref 44, .int (-1)] μ2 (fun _ μ3 => (Call d y_Day_allGood [.ref 44] μ3 (fun ρ μ4 => ∃ r5 : Int32, ρ = .int r5 ∧ (Q (.int r5) μ4))))))))) : AA (Call d) y_Day_goodIfBurned Q 0 [.ref 44, .int a, .int b] [] μ := go_in 20 (code := pr_Day_goodIfBurned) (stops := []) rfl rfl hNF
set_option maxRecDepth 20000 in
theorem b_Day_allGood_0 {d : Nat} {Q : QQ} {μ : Mem} (hNF : AA (Call d) y_Day_allGood Q 4 [.ref 44, .int 0, .int 0] [] μ) : AA (Call d) y_Day_allGood Q 0 [.ref 44, un, un] [] μ := go_in 5 (code := pr_Day_allGood) (stops := [4]) rfl rfl hNF
set_option maxRecDepth 20000 in
theorem b_Day_allGood_4 {d : Nat} {Q : QQ} {μ : Mem} {l1 : Int32} {l2 : Int32} (hNF : ((μ.1 16 3) ≤ l2 → (Q (.int l1) μ)) ∧
(¬ (μ.1 16 3) ≤ l2 → (vp_in l2 5 ∧ (AA (Call d) y_Day_allGood Q 4 [.ref 44, .int (l1 + (μ.1 49 l2.toNatClampNeg)), .int (l2 + 1)] [] μ)))) : AA (Call d) y_Day_allGood Q 4 [.ref 44, .int l1, .int l2] [] μ := go_in 15 (code := pr_Day_allGood) (stops := [4]) rfl rfl hNF
set_option maxRecDepth 20000 in
theorem b_Day_allPaid_0 {d : Nat} {Q : QQ} {μ : Mem} (hNF : AA (Call d) y_Day_allPaid Q 4 [.ref 44, .int 0, .int 0] [] μ) : AA (Call d) y_Day_allPaid Q 0 [.ref 44, un, un] [] μ := go_in 5 (code := pr_Day_allPaid) (stops := [4]) rfl rfl hNF
set_option maxRecDepth 20000 in
theorem b_Day_allPaid_4 {d : Nat} {Q : QQ} {μ : Mem} {l1 : Int32} {l2 : Int32} (hNF : ((μ.1 16 3) ≤ l2 → (Q (.int l1) μ)) ∧
(¬ (μ.1 16 3) ≤ l2 → (vp_in l2 5 ∧ (AA (Call d) y_Day_allPaid Q 4 [.ref 44, .int (l1 + (μ.1 48 l2.toNatClampNeg)), .int (l2 + 1)] [] μ)))) : AA (Call d) y_Day_allPaid Q 4 [.ref 44, .int l1, .int l2] [] μ := go_in 15 (code := pr_Day_allPaid) (stops := [4]) rfl rfl hNF
set_option maxRecDepth 20000 in
theorem b_Day_howManySaid_0 {d : Nat} {Q : QQ} {μ : Mem} (hNF : AA (Call d) y_Day_howManySaid Q 4 [.ref 44, .int 0, .int 0] [] μ) : AA (Call d) y_Day_howManySaid Q 0 [.ref 44, un, un] [] μ := go_in 5 (code := pr_Day_howManySaid) (stops := [4]) rfl rfl hNF
set_option maxRecDepth 20000 in
theorem b_Day_howManySaid_4 {d : Nat} {Q : QQ} {μ : Mem} {l1 : Int32} {l2 : Int32} (hNF : ((μ.1 16 3) ≤ l2 → (Q (.int l1) μ)) ∧
(¬ (μ.1 16 3) ≤ l2 → (vp_in l2 5 ∧ (((μ.1 47 l2.toNatClampNeg) = (-1) → (AA (Call d) y_Day_howManySaid Q 4 [.ref 44, .int l1, .int (l2 + 1)] [] μ)) ∧
(¬ (μ.1 47 l2.toNatClampNeg) = (-1) → (AA (Call d) y_Day_howManySaid Q 4 [.ref 44, .int (l1 + 1), .int (l2 + 1)] [] μ)))))) : AA (Call d) y_Day_howManySaid Q 4 [.ref 44, .int l1, .int l2] [] μ := go_in 15 (code := pr_Day_howManySaid) (stops := [4]) rfl rfl hNF
set_option maxRecDepth 20000 in
theorem b_Day_spread_0 {d : Nat} {Q : QQ} {μ : Mem} (hNF : vp_in 0 8 ∧ (vp_in 0 8 ∧ (AA (Call d) y_Day_spread Q 18 [.ref 44, .int (μ.1 45 (Int32.toNatClampNeg 0)), .int (μ.1 45 (Int32.toNatClampNeg 0)), .ref 45, .int (Int32.ofNat 8), .int 0, un] [] μ))) : AA (Call d) y_Day_spread Q 0 [.ref 44, un, un, un, un, un, un] [] μ := go_in 19 (code := pr_Day_spread) (stops := [18]) rfl rfl hNF
set_option maxRecDepth 20000 in
theorem b_Day_spread_18 {d : Nat} {Q : QQ} {μ : Mem} {l1 : Int32} {l2 : Int32} {l4 : Int32} {l5 : Int32} (hNF : (l4 ≤ l5 → (Q (.int (l1 - l2)) μ)) ∧
(¬ l4 ≤ l5 → (vp_in l5 8 ∧ (AA (Call d) y_Day_spread Q 18 [.ref 44, .int (if l1 < μ.1 45 l5.toNatClampNeg then μ.1 45 l5.toNatClampNeg else l1), .int (if μ.1 45 l5.toNatClampNeg < l2 then μ.1 45 l5.toNatClampNeg else l2), .ref 45, .int l4, .int (l5 + 1), .int (μ.1 45 l5.toNatClampNeg)] [] μ)))) : AA (Call d) y_Day_spread Q 18 [.ref 44, .int l1, .int l2, .ref 45, .int l4, .int l5, un] [] μ := go_in 18 (code := pr_Day_spread) (stops := [18]) rfl rfl hNF
set_option maxRecDepth 20000 in
theorem b_Day_firstUnlike_0 {d : Nat} {Q : QQ} {μ : Mem} {a : Nat} (hNF : AA (Call d) y_Day_firstUnlike Q 2 [.ref 44, .ref a, .int 0, un] [] μ) : AA (Call d) y_Day_firstUnlike Q 0 [.ref 44, .ref a, un, un] [] μ := go_in 3 (code := pr_Day_firstUnlike) (stops := [2]) rfl rfl hNF
set_option maxRecDepth 20000 in
theorem b_Day_firstUnlike_2 {d : Nat} {Q : QQ} {μ : Mem} {a : Nat} {l2 : Int32} (hNF : ((μ.1 16 3) ≤ l2 → (Q (.int (-1)) μ)) ∧
(¬ (μ.1 16 3) ≤ l2 → (vp_in l2 5 ∧ ((¬ (μ.1 47 l2.toNatClampNeg) = (-1) → (vp_in l2 5 ∧ (vp_in l2 (ilen 0 a) ∧ (((μ.1 a l2.toNatClampNeg) = (μ.1 48 l2.toNatClampNeg) → (AA (Call d) y_Day_firstUnlike Q 2 [.ref 44, .ref a, .int (l2 + 1), .int (μ.1 48 l2.toNatClampNeg)] [] μ)) ∧
(¬ (μ.1 a l2.toNatClampNeg) = (μ.1 48 l2.toNatClampNeg) → (Q (.int l2) μ)))))) ∧
((μ.1 47 l2.toNatClampNeg) = (-1) → (vp_in l2 (ilen 0 a) ∧ (((μ.1 a l2.toNatClampNeg) = (-1) → (AA (Call d) y_Day_firstUnlike Q 2 [.ref 44, .ref a, .int (l2 + 1), .int (-1)] [] μ)) ∧
(¬ (μ.1 a l2.toNatClampNeg) = (-1) → (Q (.int l2) μ))))))))) : AA (Call d) y_Day_firstUnlike Q 2 [.ref 44, .ref a, .int l2, un] [] μ := go_in 24 (code := pr_Day_firstUnlike) (stops := [2]) rfl rfl hNF
set_option maxRecDepth 20000 in
theorem b_Image_keepWriters_0 {d : Nat} {Q : QQ} {μ : Mem} (hNF : (¬ (0 : Int32) < 0 ∧ ¬ (0 : Int32) < 0 ∧ ¬ (5 : Int32) < 0 ∧ (Int32.toNatClampNeg 0) + (Int32.toNatClampNeg 5) ≤ 5 ∧ (Int32.toNatClampNeg 0) + (Int32.toNatClampNeg 5) ≤ 5 ∧ 0 < 5 ∧ 0 < 5) ∧ ∀ μ1 : Mem, μ1 = wI μ 53 (va_cpy (μ.1 17) (μ.1 53) (Int32.toNatClampNeg 0) (Int32.toNatClampNeg 0) (Int32.toNatClampNeg 5)) → ((¬ (0 : Int32) < 0 ∧ ¬ (0 : Int32) < 0 ∧ ¬ (5 : Int32) < 0 ∧ (Int32.toNatClampNeg 0) + (Int32.toNatClampNeg 5) ≤ 5 ∧ (Int32.toNatClampNeg 0) + (Int32.toNatClampNeg 5) ≤ 5 ∧ 0 < 5 ∧ 0 < 5) ∧ ∀ μ2 : Mem, μ2 = wI μ1 54 (va_cpy (μ1.1 18) (μ1.1 54) (Int32.toNatClampNeg 0) (Int32.toNatClampNeg 0) (Int32.toNatClampNeg 5)) → ((¬ (0 : Int32) < 0 ∧ ¬ (0 : Int32) < 0 ∧ ¬ (5 : Int32) < 0 ∧ (Int32.toNatClampNeg 0) + (Int32.toNatClampNeg 5) ≤ 5 ∧ (Int32.toNatClampNeg 0) + (Int32.toNatClampNeg 5) ≤ 5 ∧ 0 < 5 ∧ 0 < 5) ∧ ∀ μ3 : Mem, μ3 = wI μ2 55 (va_cpy (μ2.1 19) (μ2.1 55) (Int32.toNatClampNeg 0) (Int32.toNatClampNeg 0) (Int32.toNatClampNeg 5)) → (∀ μ4 : Mem, μ4 = wI μ3 51 (upd (μ3.1 51) 7 (μ3.1 16 3)) → (Q .null μ4))))) : AA (Call d) y_Image_keepWriters Q 0 [.ref 51, .ref 16] [] μ := go_in 29 (code := pr_Image_keepWriters) (stops := []) rfl rfl hNF
set_option maxRecDepth 20000 in
theorem b_Image_restoreWriters_0 {d : Nat} {Q : QQ} {μ : Mem} (hNF : (¬ (0 : Int32) < 0 ∧ ¬ (0 : Int32) < 0 ∧ ¬ (5 : Int32) < 0 ∧ (Int32.toNatClampNeg 0) + (Int32.toNatClampNeg 5) ≤ 5 ∧ (Int32.toNatClampNeg 0) + (Int32.toNatClampNeg 5) ≤ 5 ∧ 0 < 5 ∧ 0 < 5) ∧ ∀ μ1 : Mem, μ1 = wI μ 17 (va_cpy (μ.1 53) (μ.1 17) (Int32.toNatClampNeg 0) (Int32.toNatClampNeg 0) (Int32.toNatClampNeg 5)) → ((¬ (0 : Int32) < 0 ∧ ¬ (0 : Int32) < 0 ∧ ¬ (5 : Int32) < 0 ∧ (Int32.toNatClampNeg 0) + (Int32.toNatClampNeg 5) ≤ 5 ∧ (Int32.toNatClampNeg 0) + (Int32.toNatClampNeg 5) ≤ 5 ∧ 0 < 5 ∧ 0 < 5) ∧ ∀ μ2 : Mem, μ2 = wI μ1 18 (va_cpy (μ1.1 54) (μ1.1 18) (Int32.toNatClampNeg 0) (Int32.toNatClampNeg 0) (Int32.toNatClampNeg 5)) → ((¬ (0 : Int32) < 0 ∧ ¬ (0 : Int32) < 0 ∧ ¬ (5 : Int32) < 0 ∧ (Int32.toNatClampNeg 0) + (Int32.toNatClampNeg 5) ≤ 5 ∧ (Int32.toNatClampNeg 0) + (Int32.toNatClampNeg 5) ≤ 5 ∧ 0 < 5 ∧ 0 < 5) ∧ ∀ μ3 : Mem, μ3 = wI μ2 19 (va_cpy (μ2.1 55) (μ2.1 19) (Int32.toNatClampNeg 0) (Int32.toNatClampNeg 0) (Int32.toNatClampNeg 5)) → (∀ μ4 : Mem, μ4 = wI μ3 16 (upd (μ3.1 16) 3 (μ3.1 51 7)) → (Q .null μ4))))) : AA (Call d) y_Image_restoreWriters Q 0 [.ref 51, .ref 16] [] μ := go_in 29 (code := pr_Image_restoreWriters) (stops := []) rfl rfl hNF
set_option maxRecDepth 20000 in
theorem b_Image_keepLaws_0 {d : Nat} {Q : QQ} {μ : Mem} (hNF : (¬ (0 : Int32) < 0 ∧ ¬ (0 : Int32) < 0 ∧ ¬ (6 : Int32) < 0 ∧ (Int32.toNatClampNeg 0) + (Int32.toNatClampNeg 6) ≤ 6 ∧ (Int32.toNatClampNeg 0) + (Int32.toNatClampNeg 6) ≤ 6 ∧ 0 < 6 ∧ 0 < 6) ∧ ∀ μ1 : Mem, μ1 = wI μ 56 (va_cpy (μ.1 22) (μ.1 56) (Int32.toNatClampNeg 0) (Int32.toNatClampNeg 0) (Int32.toNatClampNeg 6)) → (∀ μ2 : Mem, μ2 = wI μ1 51 (upd (μ1.1 51) 9 (μ1.1 20 2)) → (∀ μ3 : Mem, μ3 = wI μ2 51 (upd (μ2.1 51) 10 (μ2.1 20 3)) → (Q .null μ3)))) : AA (Call d) y_Image_keepLaws Q 0 [.ref 51, .ref 20] [] μ := go_in 17 (code := pr_Image_keepLaws) (stops := []) rfl rfl hNF
set_option maxRecDepth 20000 in
theorem b_Image_restoreLaws_0 {d : Nat} {Q : QQ} {μ : Mem} (hNF : (¬ (0 : Int32) < 0 ∧ ¬ (0 : Int32) < 0 ∧ ¬ (6 : Int32) < 0 ∧ (Int32.toNatClampNeg 0) + (Int32.toNatClampNeg 6) ≤ 6 ∧ (Int32.toNatClampNeg 0) + (Int32.toNatClampNeg 6) ≤ 6 ∧ 0 < 6 ∧ 0 < 6) ∧ ∀ μ1 : Mem, μ1 = wI μ 22 (va_cpy (μ.1 56) (μ.1 22) (Int32.toNatClampNeg 0) (Int32.toNatClampNeg 0) (Int32.toNatClampNeg 6)) → (∀ μ2 : Mem, μ2 = wI μ1 20 (upd (μ1.1 20) 2 (μ1.1 51 9)) → (∀ μ3 : Mem, μ3 = wI μ2 20 (upd (μ2.1 20) 3 (μ2.1 51 10)) → (Q .null μ3)))) : AA (Call d) y_Image_restoreLaws Q 0 [.ref 51, .ref 20] [] μ := go_in 17 (code := pr_Image_restoreLaws) (stops := []) rfl rfl hNF
set_option maxRecDepth 20000 in
theorem b_Laws_add_0 {d : Nat} {Q : QQ} {μ : Mem} {a : Int32} {b : Int32} (hNF : ((μ.1 20 2) < 6 → (vp_in (μ.1 20 2) 6 ∧ ∀ μ1 : Mem, μ1 = wI μ 21 (upd (μ.1 21) (Int32.toNatClampNeg (μ.1 20 2)) a) → (vp_in (μ1.1 20 2) 6 ∧ ∀ μ2 : Mem, μ2 = wI μ1 22 (upd (μ1.1 22) (Int32.toNatClampNeg (μ1.1 20 2)) b) → (∀ μ3 : Mem, μ3 = wI μ2 20 (upd (μ2.1 20) 2 ((μ2.1 20 2) + 1)) → (Q (.int (μ2.1 20 2)) μ3))))) ∧
(¬ (μ.1 20 2) < 6 → (Q (.int (-4)) μ))) : AA (Call d) y_Laws_add Q 0 [.ref 20, .int a, .int b] [] μ := go_in 24 (code := pr_Laws_add) (stops := []) rfl rfl hNF
set_option maxRecDepth 20000 in
theorem b_Laws_isUnder_0 {d : Nat} {Q : QQ} {μ : Mem} {a : Int32} {b : Int32} (hNF : vp_in a 6 ∧ (AA (Call d) y_Laws_isUnder Q 7 [.ref 20, .int a, .int b, .int (μ.1 21 a.toNatClampNeg), .int 0] [] μ)) : AA (Call d) y_Laws_isUnder Q 0 [.ref 20, .int a, .int b, un, un] [] μ := go_in 8 (code := pr_Laws_isUnder) (stops := [7]) rfl rfl hNF
set_option maxRecDepth 20000 in
theorem b_Laws_isUnder_7 {d : Nat} {Q : QQ} {μ : Mem} {l1 : Int32} {l2 : Int32} {l3 : Int32} {l4 : Int32} (hNF : ((6 : Int32) ≤ l4 → (narrow .boolean (.int 0) = .int 0 ∧ Q (.int 0) μ)) ∧
(¬ (6 : Int32) ≤ l4 → ((l3 = (-1) → (narrow .boolean (.int 0) = .int 0 ∧ Q (.int 0) μ)) ∧
(¬ l3 = (-1) → ((¬ l3 = l2 → (vp_in l3 6 ∧ (AA (Call d) y_Laws_isUnder Q 7 [.ref 20, .int l1, .int l2, .int (μ.1 65 l3.toNatClampNeg), .int (l4 + 1)] [] μ))) ∧
(l3 = l2 → (narrow .boolean (.int 1) = .int 1 ∧ Q (.int 1) μ))))))) : AA (Call d) y_Laws_isUnder Q 7 [.ref 20, .int l1, .int l2, .int l3, .int l4] [] μ := go_in 16 (code := pr_Laws_isUnder) (stops := [7]) rfl rfl hNF
set_option maxRecDepth 20000 in
theorem b_Laws_price_0 {d : Nat} {Q : QQ} {μ : Mem} {a : Int32} {b : Int32} {c : Int32} (hNF : vp_in a 6 ∧ (vp_in a 6 ∧ (((μ.1 21 a.toNatClampNeg) = 1 → (Call d y_Laws_steep [.int (μ.1 22 a.toNatClampNeg), .int b] μ (fun ρ μ1 => ∃ r2 : Int32, ρ = .int r2 ∧ (Q (.int r2) μ1)))) ∧
(¬ (μ.1 21 a.toNatClampNeg) = 1 → (((μ.1 21 a.toNatClampNeg) = 2 → (¬ (2 : Int32) = 0 ∧ (Q (.int ((b + (μ.1 22 a.toNatClampNeg)) / 2)) μ))) ∧
(¬ (μ.1 21 a.toNatClampNeg) = 2 → (((μ.1 21 a.toNatClampNeg) = 3 → (¬ (3 : Int32) = 0 ∧ (Call d y_Laws_steep [.int (μ.1 22 a.toNatClampNeg), .int (b - (b - b / 3 * 3))] μ (fun ρ μ3 => ∃ r4 : Int32, ρ = .int r4 ∧ (Q (.int r4) μ3))))) ∧
(¬ (μ.1 21 a.toNatClampNeg) = 3 → (((μ.1 21 a.toNatClampNeg) = 4 → (((6 : Int32) ≤ c → (¬ (2 : Int32) = 0 ∧ (Q (.int ((b + (μ.1 22 a.toNatClampNeg)) / 2)) μ))) ∧
(¬ (6 : Int32) ≤ c → (Q (.int 0) μ)))) ∧
(¬ (μ.1 21 a.toNatClampNeg) = 4 → (((μ.1 21 a.toNatClampNeg) = 5 → (Call d y_Laws_steep [.int (μ.1 22 a.toNatClampNeg), .int b] μ (fun ρ μ5 => ∃ r6 : Int32, ρ = .int r6 ∧ ((¬ b = 0 → (Q (.int (r6 + 0)) μ5)) ∧
(b = 0 → (Q (.int (r6 + 5)) μ5)))))) ∧
(¬ (μ.1 21 a.toNatClampNeg) = 5 → (Q (.int (b + (μ.1 22 a.toNatClampNeg))) μ))))))))))))) : AA (Call d) y_Laws_price Q 0 [.ref 20, .int a, .int b, .int c, un] [] μ := go_in 19 (code := pr_Laws_price) (stops := []) rfl rfl hNF
set_option maxRecDepth 20000 in
theorem b_Laws_steep_0 {d : Nat} {Q : QQ} {μ : Mem} {a : Int32} {b : Int32} (hNF : Q (.int ((b + a) + (b * (a + 1)))) μ) : AA (Call d) y_Laws_steep Q 0 [.int a, .int b] [] μ := go_in 10 (code := pr_Laws_steep) (stops := []) rfl rfl hNF
set_option maxRecDepth 20000 in
theorem b_Laws_age_u_0 {d : Nat} {Q : QQ} {μ : Mem} {a : Int32} (hNF : vp_in a 6 ∧ (((μ.1 21 a.toNatClampNeg) = 0 → (Q .null μ)) ∧
(¬ (μ.1 21 a.toNatClampNeg) = 0 → (vp_in a 6 ∧ ((¬ (μ.1 21 a.toNatClampNeg) = 1 → (AA (Call d) y_Laws_age Q 14 [.ref 20, .int a, .ref 1, .int 0] [] μ)) ∧
((μ.1 21 a.toNatClampNeg) = 1 → (Q .null μ))))))) : AA (Call d) y_Laws_age Q 0 [.ref 20, .int a, .ref 1, un] [] μ := go_in 14 (code := pr_Laws_age) (stops := [14]) rfl rfl hNF
set_option maxRecDepth 20000 in
theorem b_Laws_age_u_14 {d : Nat} {Q : QQ} {μ : Mem} {l1 : Int32} {l3 : Int32} (hNF : ((Int32.ofNat 8) ≤ l3 → (Q .null μ)) ∧
(¬ (Int32.ofNat 8) ≤ l3 → (vp_in l3 8 ∧ (Call d y_Laws_aged [.ref 20, .int l1, .int (μ.1 1 l3.toNatClampNeg)] μ (fun ρ μ1 => ∃ r2 : Int32, ρ = .int r2 ∧ (vp_in l3 8 ∧ ∀ μ3 : Mem, μ3 = wI μ1 1 (upd (μ1.1 1) l3.toNatClampNeg (if r2 < 0 then 0 else r2)) → (AA (Call d) y_Laws_age Q 14 [.ref 20, .int l1, .ref 1, .int (l3 + 1)] [] μ3))))))) : AA (Call d) y_Laws_age Q 14 [.ref 20, .int l1, .ref 1, .int l3] [] μ := go_in 18 (code := pr_Laws_age) (stops := [14]) rfl rfl hNF
set_option maxRecDepth 20000 in
theorem b_Laws_age_d_0 {d : Nat} {Q : QQ} {μ : Mem} {a : Int32} (hNF : vp_in a 6 ∧ (((μ.1 21 a.toNatClampNeg) = 0 → (Q .null μ)) ∧
(¬ (μ.1 21 a.toNatClampNeg) = 0 → (vp_in a 6 ∧ ((¬ (μ.1 21 a.toNatClampNeg) = 1 → (AA (Call d) y_Laws_age Q 14 [.ref 20, .int a, .ref 45, .int 0] [] μ)) ∧
((μ.1 21 a.toNatClampNeg) = 1 → (Q .null μ))))))) : AA (Call d) y_Laws_age Q 0 [.ref 20, .int a, .ref 45, un] [] μ := go_in 14 (code := pr_Laws_age) (stops := [14]) rfl rfl hNF
set_option maxRecDepth 20000 in
theorem b_Laws_age_d_14 {d : Nat} {Q : QQ} {μ : Mem} {l1 : Int32} {l3 : Int32} (hNF : ((Int32.ofNat 8) ≤ l3 → (Q .null μ)) ∧
(¬ (Int32.ofNat 8) ≤ l3 → (vp_in l3 8 ∧ (Call d y_Laws_aged [.ref 20, .int l1, .int (μ.1 45 l3.toNatClampNeg)] μ (fun ρ μ1 => ∃ r2 : Int32, ρ = .int r2 ∧ (vp_in l3 8 ∧ ∀ μ3 : Mem, μ3 = wI μ1 45 (upd (μ1.1 45) l3.toNatClampNeg (if r2 < 0 then 0 else r2)) → (AA (Call d) y_Laws_age Q 14 [.ref 20, .int l1, .ref 45, .int (l3 + 1)] [] μ3))))))) : AA (Call d) y_Laws_age Q 14 [.ref 20, .int l1, .ref 45, .int l3] [] μ := go_in 18 (code := pr_Laws_age) (stops := [14]) rfl rfl hNF
set_option maxRecDepth 20000 in
theorem b_Laws_aged_0 {d : Nat} {Q : QQ} {μ : Mem} {a : Int32} {b : Int32} (hNF : vp_in a 6 ∧ (((μ.1 21 a.toNatClampNeg) = 2 → (vp_in a 6 ∧ (Q (.int (b - (μ.1 22 a.toNatClampNeg))) μ))) ∧
(¬ (μ.1 21 a.toNatClampNeg) = 2 → (((μ.1 21 a.toNatClampNeg) = 3 → (Q (.int (b - 1)) μ)) ∧
(¬ (μ.1 21 a.toNatClampNeg) = 3 → (((μ.1 21 a.toNatClampNeg) = 4 → (vp_in a 6 ∧ (Q (.int (b - (μ.1 22 a.toNatClampNeg))) μ))) ∧
(¬ (μ.1 21 a.toNatClampNeg) = 4 → (((μ.1 21 a.toNatClampNeg) = 5 → (vp_in a 6 ∧ (((μ.1 22 a.toNatClampNeg) ≤ b → (Q (.int b) μ)) ∧
(¬ (μ.1 22 a.toNatClampNeg) ≤ b → (Q (.int 0) μ))))) ∧
(¬ (μ.1 21 a.toNatClampNeg) = 5 → (Q (.int b) μ)))))))))) : AA (Call d) y_Laws_aged Q 0 [.ref 20, .int a, .int b] [] μ := go_in 14 (code := pr_Laws_aged) (stops := []) rfl rfl hNF
set_option maxRecDepth 20000 in
theorem b_Reader_append_0 {d : Nat} {Q : QQ} {μ : Mem} {a : Int32} (hNF : ((μ.1 23 1) < 160 → (∀ μ1 : Mem, μ1 = wI μ 23 (upd (μ.1 23) 1 ((μ.1 23 1) + 1)) → (vp_in (μ.1 23 1) 160 ∧ ∀ μ2 : Mem, μ2 = wI μ1 24 (upd (μ1.1 24) (Int32.toNatClampNeg (μ.1 23 1)) a) → (narrow .boolean (.int 1) = .int 1 ∧ Q (.int 1) μ2)))) ∧
(¬ (μ.1 23 1) < 160 → (narrow .boolean (.int 0) = .int 0 ∧ Q (.int 0) μ))) : AA (Call d) y_Reader_append Q 0 [.ref 23, .int a] [] μ := go_in 17 (code := pr_Reader_append) (stops := []) rfl rfl hNF
set_option maxRecDepth 20000 in
theorem b_Reader_load_0 {d : Nat} {Q : QQ} {μ : Mem} (hNF : AA (Call d) y_Reader_load Q 2 [.ref 23, .ref 66, .int 0] [] μ) : AA (Call d) y_Reader_load Q 0 [.ref 23, .ref 66, un] [] μ := go_in 3 (code := pr_Reader_load) (stops := [2]) rfl rfl hNF
set_option maxRecDepth 20000 in
theorem b_Reader_load_2 {d : Nat} {Q : QQ} {μ : Mem} {l2 : Int32} (hNF : Call d y_Str_length [.ref 66] μ (fun ρ μ1 => ∃ r2 : Int32, ρ = .int r2 ∧ ((r2 ≤ l2 → (Q .null μ1)) ∧
(¬ r2 ≤ l2 → (Call d y_Str_charAt [.ref 66, .int l2] μ1 (fun ρ μ3 => ∃ r4 : Int32, ρ = .int r4 ∧ (Call d y_Reader_append [.ref 23, .int r4] μ3 (fun ρ μ5 => ∃ r6 : Int32, ρ = .int r6 ∧ (AA (Call d) y_Reader_load Q 2 [.ref 23, .ref 66, .int (l2 + 1)] [] μ5))))))))) : AA (Call d) y_Reader_load Q 2 [.ref 23, .ref 66, .int l2] [] μ := go_in 13 (code := pr_Reader_load) (stops := [2]) rfl rfl hNF
set_option maxRecDepth 20000 in
theorem b_Reader_read_0 {d : Nat} {Q : QQ} {μ : Mem} (hNF : ∀ μ1 : Mem, μ1 = wI μ 23 (upd (μ.1 23) 4 0) → (∀ μ2 : Mem, μ2 = wI μ1 23 (upd (μ1.1 23) 8 (-1)) → (∀ μ3 : Mem, μ3 = wI μ2 23 (upd (μ2.1 23) 9 0) → (Call d y_Reader_next [.ref 23] μ3 (fun _ μ4 => (AA (Call d) y_Reader_read Q 13 [.ref 23, .int 0] [] μ4)))))) : AA (Call d) y_Reader_read Q 0 [.ref 23, un] [] μ := go_in 14 (code := pr_Reader_read) (stops := [13]) rfl rfl hNF
set_option maxRecDepth 20000 in
theorem b_Reader_read_13 {d : Nat} {Q : QQ} {μ : Mem} {l1 : Int32} (hNF : ((3 : Int32) ≤ l1 → (Call d y_Reader_expect [.ref 23, .int 0] μ (fun _ μ1 => (∀ μ2 : Mem, μ2 = wI μ1 23 (upd (μ1.1 23) 1 0) → (Q (.int (μ2.1 23 8)) μ2))))) ∧
(¬ (3 : Int32) ≤ l1 → (Call d y_Reader_expect [.ref 23, .int (256 + l1)] μ (fun _ μ3 => (Call d y_Reader_readE [.ref 23, .int 0] μ3 (fun _ μ4 => (Call d y_Reader_expect [.ref 23, .int 59] μ4 (fun _ μ5 => (vp_in l1 3 ∧ ∀ μ6 : Mem, μ6 = wI μ5 26 (upd (μ5.1 26) l1.toNatClampNeg (μ5.1 23 9)) → (AA (Call d) y_Reader_read Q 13 [.ref 23, .int (l1 + 1)] [] μ6)))))))))) : AA (Call d) y_Reader_read Q 13 [.ref 23, .int l1] [] μ := go_in 23 (code := pr_Reader_read) (stops := [13]) rfl rfl hNF
set_option maxRecDepth 20000 in
theorem b_Reader_refuse_0 {d : Nat} {Q : QQ} {μ : Mem} (hNF : (¬ (μ.1 23 8) = (-1) → (∀ μ1 : Mem, μ1 = wI μ 23 (upd (μ.1 23) 5 1) → (Q .null μ1))) ∧
((μ.1 23 8) = (-1) → (∀ μ2 : Mem, μ2 = wI μ 23 (upd (μ.1 23) 8 (μ.1 23 6)) → (∀ μ3 : Mem, μ3 = wI μ2 23 (upd (μ2.1 23) 5 1) → (Q .null μ3))))) : AA (Call d) y_Reader_refuse Q 0 [.ref 23] [] μ := go_in 12 (code := pr_Reader_refuse) (stops := []) rfl rfl hNF
set_option maxRecDepth 20000 in
theorem b_Reader_expect_0 {d : Nat} {Q : QQ} {μ : Mem} {a : Int32} (hNF : (¬ (μ.1 23 5) = a → (Call d y_Reader_refuse [.ref 23] μ (fun _ μ1 => (Q .null μ1)))) ∧
((μ.1 23 5) = a → (Call d y_Reader_next [.ref 23] μ (fun _ μ2 => (Q .null μ2))))) : AA (Call d) y_Reader_expect Q 0 [.ref 23, .int a] [] μ := go_in 8 (code := pr_Reader_expect) (stops := []) rfl rfl hNF
set_option maxRecDepth 20000 in
theorem b_Reader_emit_0 {d : Nat} {Q : QQ} {μ : Mem} {a : Int32} (hNF : ((160 : Int32) ≤ (μ.1 23 9) → (Q .null μ)) ∧
(¬ (160 : Int32) ≤ (μ.1 23 9) → (∀ μ1 : Mem, μ1 = wI μ 23 (upd (μ.1 23) 9 ((μ.1 23 9) + 1)) → (vp_in (μ.1 23 9) 160 ∧ ∀ μ2 : Mem, μ2 = wI μ1 25 (upd (μ1.1 25) (Int32.toNatClampNeg (μ.1 23 9)) a) → (Q .null μ2))))) : AA (Call d) y_Reader_emit Q 0 [.ref 23, .int a] [] μ := go_in 16 (code := pr_Reader_emit) (stops := []) rfl rfl hNF
set_option maxRecDepth 20000 in
theorem b_Reader_readE_0 {d : Nat} {Q : QQ} {μ : Mem} {a : Int32} (hNF : Call d y_Reader_readAnd [.ref 23, .int a] μ (fun _ μ1 => (AA (Call d) y_Reader_readE Q 5 [.ref 23, .int a, .int 0] [] μ1))) : AA (Call d) y_Reader_readE Q 0 [.ref 23, .int a, un] [] μ := go_in 6 (code := pr_Reader_readE) (stops := [5]) rfl rfl hNF
set_option maxRecDepth 20000 in
theorem b_Reader_readE_5 {d : Nat} {Q : QQ} {μ : Mem} {l1 : Int32} {l2 : Int32} (hNF : ((160 : Int32) ≤ l2 → (Q .null μ)) ∧
(¬ (160 : Int32) ≤ l2 → ((¬ (μ.1 23 5) = 259 → (Q .null μ)) ∧
((μ.1 23 5) = 259 → (Call d y_Reader_next [.ref 23] μ (fun _ μ1 => (Call d y_Reader_readAnd [.ref 23, .int l1] μ1 (fun _ μ2 => (Call d y_Reader_emit [.ref 23, .int (-259)] μ2 (fun _ μ3 => (AA (Call d) y_Reader_readE Q 5 [.ref 23, .int l1, .int (l2 + 1)] [] μ3))))))))))) : AA (Call d) y_Reader_readE Q 5 [.ref 23, .int l1, .int l2] [] μ := go_in 18 (code := pr_Reader_readE) (stops := [5]) rfl rfl hNF
set_option maxRecDepth 20000 in
theorem b_Reader_readAnd_0 {d : Nat} {Q : QQ} {μ : Mem} {a : Int32} (hNF : Call d y_Reader_readNot [.ref 23, .int a] μ (fun _ μ1 => (AA (Call d) y_Reader_readAnd Q 5 [.ref 23, .int a, .int 0] [] μ1))) : AA (Call d) y_Reader_readAnd Q 0 [.ref 23, .int a, un] [] μ := go_in 6 (code := pr_Reader_readAnd) (stops := [5]) rfl rfl hNF
set_option maxRecDepth 20000 in
theorem b_Reader_readAnd_5 {d : Nat} {Q : QQ} {μ : Mem} {l1 : Int32} {l2 : Int32} (hNF : ((160 : Int32) ≤ l2 → (Q .null μ)) ∧
(¬ (160 : Int32) ≤ l2 → ((¬ (μ.1 23 5) = 260 → (Q .null μ)) ∧
((μ.1 23 5) = 260 → (Call d y_Reader_next [.ref 23] μ (fun _ μ1 => (Call d y_Reader_readNot [.ref 23, .int l1] μ1 (fun _ μ2 => (Call d y_Reader_emit [.ref 23, .int (-260)] μ2 (fun _ μ3 => (AA (Call d) y_Reader_readAnd Q 5 [.ref 23, .int l1, .int (l2 + 1)] [] μ3))))))))))) : AA (Call d) y_Reader_readAnd Q 5 [.ref 23, .int l1, .int l2] [] μ := go_in 18 (code := pr_Reader_readAnd) (stops := [5]) rfl rfl hNF
set_option maxRecDepth 20000 in
theorem b_Reader_readNot_0 {d : Nat} {Q : QQ} {μ : Mem} {a : Int32} (hNF : ((μ.1 23 5) = 261 → (((5 : Int32) ≤ a → (Call d y_Reader_refuse [.ref 23] μ (fun _ μ1 => (Q .null μ1)))) ∧
(¬ (5 : Int32) ≤ a → (Call d y_Reader_next [.ref 23] μ (fun _ μ2 => (Call d y_Reader_readNot [.ref 23, .int (a + 1)] μ2 (fun _ μ3 => (Call d y_Reader_emit [.ref 23, .int (-261)] μ3 (fun _ μ4 => (Q .null μ4)))))))))) ∧
(¬ (μ.1 23 5) = 261 → (Call d y_Reader_readCompared [.ref 23, .int a] μ (fun _ μ5 => (Q .null μ5))))) : AA (Call d) y_Reader_readNot Q 0 [.ref 23, .int a] [] μ := go_in 19 (code := pr_Reader_readNot) (stops := []) rfl rfl hNF
set_option maxRecDepth 20000 in
theorem b_Reader_readCompared_0 {d : Nat} {Q : QQ} {μ : Mem} {a : Int32} (hNF : Call d y_Reader_readSum [.ref 23, .int a] μ (fun _ μ1 => (((μ1.1 23 5) = 60 → (Call d y_Reader_next [.ref 23] μ1 (fun _ μ2 => (Call d y_Reader_readSum [.ref 23, .int a] μ2 (fun _ μ3 => (Call d y_Reader_emit [.ref 23, .int (-(μ1.1 23 5))] μ3 (fun _ μ4 => (Q .null μ4)))))))) ∧
(¬ (μ1.1 23 5) = 60 → ((¬ (μ1.1 23 5) = 61 → (Q .null μ1)) ∧
((μ1.1 23 5) = 61 → (Call d y_Reader_next [.ref 23] μ1 (fun _ μ5 => (Call d y_Reader_readSum [.ref 23, .int a] μ5 (fun _ μ6 => (Call d y_Reader_emit [.ref 23, .int (-(μ1.1 23 5))] μ6 (fun _ μ7 => (Q .null μ7))))))))))))) : AA (Call d) y_Reader_readCompared Q 0 [.ref 23, .int a, un] [] μ := go_in 24 (code := pr_Reader_readCompared) (stops := []) rfl rfl hNF
set_option maxRecDepth 20000 in
theorem b_Reader_readSum_0 {d : Nat} {Q : QQ} {μ : Mem} {a : Int32} (hNF : Call d y_Reader_readTerm [.ref 23, .int a] μ (fun _ μ1 => (AA (Call d) y_Reader_readSum Q 5 [.ref 23, .int a, .int 0, un] [] μ1))) : AA (Call d) y_Reader_readSum Q 0 [.ref 23, .int a, un, un] [] μ := go_in 6 (code := pr_Reader_readSum) (stops := [5]) rfl rfl hNF
set_option maxRecDepth 20000 in
theorem b_Reader_readSum_5 {d : Nat} {Q : QQ} {μ : Mem} {l1 : Int32} {l2 : Int32} (hNF : ((160 : Int32) ≤ l2 → (Q .null μ)) ∧
(¬ (160 : Int32) ≤ l2 → (((μ.1 23 5) = 43 → (Call d y_Reader_next [.ref 23] μ (fun _ μ1 => (Call d y_Reader_readTerm [.ref 23, .int l1] μ1 (fun _ μ2 => (Call d y_Reader_emit [.ref 23, .int (-(μ.1 23 5))] μ2 (fun _ μ3 => (AA (Call d) y_Reader_readSum Q 5 [.ref 23, .int l1, .int (l2 + 1), .int (μ.1 23 5)] [] μ3)))))))) ∧
(¬ (μ.1 23 5) = 43 → ((¬ (μ.1 23 5) = 45 → (Q .null μ)) ∧
((μ.1 23 5) = 45 → (Call d y_Reader_next [.ref 23] μ (fun _ μ4 => (Call d y_Reader_readTerm [.ref 23, .int l1] μ4 (fun _ μ5 => (Call d y_Reader_emit [.ref 23, .int (-(μ.1 23 5))] μ5 (fun _ μ6 => (AA (Call d) y_Reader_readSum Q 5 [.ref 23, .int l1, .int (l2 + 1), .int (μ.1 23 5)] [] μ6))))))))))))) : AA (Call d) y_Reader_readSum Q 5 [.ref 23, .int l1, .int l2, un] [] μ := go_in 26 (code := pr_Reader_readSum) (stops := [5]) rfl rfl hNF
set_option maxRecDepth 20000 in
theorem b_Reader_readTerm_0 {d : Nat} {Q : QQ} {μ : Mem} {a : Int32} (hNF : Call d y_Reader_readOne [.ref 23, .int a] μ (fun _ μ1 => (AA (Call d) y_Reader_readTerm Q 5 [.ref 23, .int a, .int 0] [] μ1))) : AA (Call d) y_Reader_readTerm Q 0 [.ref 23, .int a, un] [] μ := go_in 6 (code := pr_Reader_readTerm) (stops := [5]) rfl rfl hNF
set_option maxRecDepth 20000 in
theorem b_Reader_readTerm_5 {d : Nat} {Q : QQ} {μ : Mem} {l1 : Int32} {l2 : Int32} (hNF : ((160 : Int32) ≤ l2 → (Q .null μ)) ∧
(¬ (160 : Int32) ≤ l2 → ((¬ (μ.1 23 5) = 42 → (Q .null μ)) ∧
((μ.1 23 5) = 42 → (Call d y_Reader_next [.ref 23] μ (fun _ μ1 => (Call d y_Reader_readOne [.ref 23, .int l1] μ1 (fun _ μ2 => (Call d y_Reader_emit [.ref 23, .int (-42)] μ2 (fun _ μ3 => (AA (Call d) y_Reader_readTerm Q 5 [.ref 23, .int l1, .int (l2 + 1)] [] μ3))))))))))) : AA (Call d) y_Reader_readTerm Q 5 [.ref 23, .int l1, .int l2] [] μ := go_in 18 (code := pr_Reader_readTerm) (stops := [5]) rfl rfl hNF
set_option maxRecDepth 20000 in
theorem b_Reader_readOne_0 {d : Nat} {Q : QQ} {μ : Mem} {a : Int32} (hNF : (¬ (μ.1 23 5) = 2 → ((¬ (μ.1 23 5) = 3 → ((¬ (μ.1 23 5) = 45 → ((¬ (μ.1 23 5) = 40 → (Call d y_Reader_refuse [.ref 23] μ (fun _ μ1 => (Q .null μ1)))) ∧
((μ.1 23 5) = 40 → (((5 : Int32) ≤ a → (Call d y_Reader_refuse [.ref 23] μ (fun _ μ2 => (Q .null μ2)))) ∧
(¬ (5 : Int32) ≤ a → (Call d y_Reader_next [.ref 23] μ (fun _ μ3 => (Call d y_Reader_readE [.ref 23, .int (a + 1)] μ3 (fun _ μ4 => (Call d y_Reader_expect [.ref 23, .int 41] μ4 (fun _ μ5 => (Q .null μ5)))))))))))) ∧
((μ.1 23 5) = 45 → (((5 : Int32) ≤ a → ((¬ (μ.1 23 5) = 40 → (Call d y_Reader_refuse [.ref 23] μ (fun _ μ6 => (Q .null μ6)))) ∧
((μ.1 23 5) = 40 → (((5 : Int32) ≤ a → (Call d y_Reader_refuse [.ref 23] μ (fun _ μ7 => (Q .null μ7)))) ∧
(¬ (5 : Int32) ≤ a → (Call d y_Reader_next [.ref 23] μ (fun _ μ8 => (Call d y_Reader_readE [.ref 23, .int (a + 1)] μ8 (fun _ μ9 => (Call d y_Reader_expect [.ref 23, .int 41] μ9 (fun _ μ10 => (Q .null μ10)))))))))))) ∧
(¬ (5 : Int32) ≤ a → (Call d y_Reader_next [.ref 23] μ (fun _ μ11 => (Call d y_Reader_readOne [.ref 23, .int (a + 1)] μ11 (fun _ μ12 => (Call d y_Reader_emit [.ref 23, .int (-262)] μ12 (fun _ μ13 => (Q .null μ13)))))))))))) ∧
((μ.1 23 5) = 3 → (Call d y_Reader_emit [.ref 23, .int ((-1) - (μ.1 23 7))] μ (fun _ μ14 => (Call d y_Reader_next [.ref 23] μ14 (fun _ μ15 => (Q .null μ15)))))))) ∧
((μ.1 23 5) = 2 → (Call d y_Reader_emit [.ref 23, .int (μ.1 23 7)] μ (fun _ μ16 => (Call d y_Reader_next [.ref 23] μ16 (fun _ μ17 => (Q .null μ17))))))) : AA (Call d) y_Reader_readOne Q 0 [.ref 23, .int a] [] μ := go_in 34 (code := pr_Reader_readOne) (stops := []) rfl rfl hNF
set_option maxRecDepth 20000 in
theorem b_Reader_next_0 {d : Nat} {Q : QQ} {μ : Mem} (hNF : ((μ.1 23 1) ≤ (μ.1 23 4) → (∀ μ1 : Mem, μ1 = wI μ 23 (upd (μ.1 23) 6 (μ.1 23 4)) → (((μ1.1 23 4) < (μ1.1 23 1) → (vp_in (μ1.1 23 4) 160 ∧ (Call d y_Reader_isLetter [.int (μ1.1 24 (Int32.toNatClampNeg (μ1.1 23 4)))] μ1 (fun ρ μ2 => ∃ r3 : Int32, ρ = .int r3 ∧ ((r3 = 0 → (vp_in (μ2.1 23 4) 160 ∧ (Call d y_Reader_isDigit [.int (μ2.1 24 (Int32.toNatClampNeg (μ2.1 23 4)))] μ2 (fun ρ μ4 => ∃ r5 : Int32, ρ = .int r5 ∧ ((r5 = 0 → (vp_in (μ4.1 23 4) 160 ∧ (Call d y_Str_indexOf [.ref 70, .int (((Int32.toUInt32 (μ4.1 24 (Int32.toNatClampNeg (μ4.1 23 4)))) % 65536).toInt32)] μ4 (fun ρ μ6 => ∃ r7 : Int32, ρ = .int r7 ∧ ((r7 < 0 → (∀ μ8 : Mem, μ8 = wI μ6 23 (upd (μ6.1 23) 5 1) → (∀ μ9 : Mem, μ9 = wI μ8 23 (upd (μ8.1 23) 4 ((μ8.1 23 4) + 1)) → (Q .null μ9)))) ∧
(¬ r7 < 0 → (vp_in (μ6.1 23 4) 160 ∧ ∀ μ10 : Mem, μ10 = wI μ6 23 (upd (μ6.1 23) 5 (μ6.1 24 (Int32.toNatClampNeg (μ6.1 23 4)))) → (∀ μ11 : Mem, μ11 = wI μ10 23 (upd (μ10.1 23) 4 ((μ10.1 23 4) + 1)) → (Q .null μ11))))))))) ∧
(¬ r5 = 0 → (Call d y_Reader_nextNumber [.ref 23] μ4 (fun _ μ12 => (Q .null μ12))))))))) ∧
(¬ r3 = 0 → (Call d y_Reader_nextWord [.ref 23] μ2 (fun _ μ13 => (Q .null μ13))))))))) ∧
(¬ (μ1.1 23 4) < (μ1.1 23 1) → (∀ μ14 : Mem, μ14 = wI μ1 23 (upd (μ1.1 23) 5 0) → (Q .null μ14)))))) ∧
(¬ (μ.1 23 1) ≤ (μ.1 23 4) → (vp_in (μ.1 23 4) 160 ∧ (Call d y_Reader_isBlank [.int (μ.1 24 (Int32.toNatClampNeg (μ.1 23 4)))] μ (fun ρ μ15 => ∃ r16 : Int32, ρ = .int r16 ∧ ((r16 = 0 → (∀ μ17 : Mem, μ17 = wI μ15 23 (upd (μ15.1 23) 6 (μ15.1 23 4)) → (((μ17.1 23 4) < (μ17.1 23 1) → (vp_in (μ17.1 23 4) 160 ∧ (Call d y_Reader_isLetter [.int (μ17.1 24 (Int32.toNatClampNeg (μ17.1 23 4)))] μ17 (fun ρ μ18 => ∃ r19 : Int32, ρ = .int r19 ∧ ((r19 = 0 → (vp_in (μ18.1 23 4) 160 ∧ (Call d y_Reader_isDigit [.int (μ18.1 24 (Int32.toNatClampNeg (μ18.1 23 4)))] μ18 (fun ρ μ20 => ∃ r21 : Int32, ρ = .int r21 ∧ ((r21 = 0 → (vp_in (μ20.1 23 4) 160 ∧ (Call d y_Str_indexOf [.ref 70, .int (((Int32.toUInt32 (μ20.1 24 (Int32.toNatClampNeg (μ20.1 23 4)))) % 65536).toInt32)] μ20 (fun ρ μ22 => ∃ r23 : Int32, ρ = .int r23 ∧ ((r23 < 0 → (∀ μ24 : Mem, μ24 = wI μ22 23 (upd (μ22.1 23) 5 1) → (∀ μ25 : Mem, μ25 = wI μ24 23 (upd (μ24.1 23) 4 ((μ24.1 23 4) + 1)) → (Q .null μ25)))) ∧
(¬ r23 < 0 → (vp_in (μ22.1 23 4) 160 ∧ ∀ μ26 : Mem, μ26 = wI μ22 23 (upd (μ22.1 23) 5 (μ22.1 24 (Int32.toNatClampNeg (μ22.1 23 4)))) → (∀ μ27 : Mem, μ27 = wI μ26 23 (upd (μ26.1 23) 4 ((μ26.1 23 4) + 1)) → (Q .null μ27))))))))) ∧
(¬ r21 = 0 → (Call d y_Reader_nextNumber [.ref 23] μ20 (fun _ μ28 => (Q .null μ28))))))))) ∧
(¬ r19 = 0 → (Call d y_Reader_nextWord [.ref 23] μ18 (fun _ μ29 => (Q .null μ29))))))))) ∧
(¬ (μ17.1 23 4) < (μ17.1 23 1) → (∀ μ30 : Mem, μ30 = wI μ17 23 (upd (μ17.1 23) 5 0) → (Q .null μ30)))))) ∧
(¬ r16 = 0 → (∀ μ31 : Mem, μ31 = wI μ15 23 (upd (μ15.1 23) 4 ((μ15.1 23 4) + 1)) → (AA (Call d) y_Reader_next Q 0 [.ref 23] [] μ31))))))))) : AA (Call d) y_Reader_next Q 0 [.ref 23] [] μ := go_in 59 (code := pr_Reader_next) (stops := [0]) rfl rfl hNF
set_option maxRecDepth 20000 in
theorem b_Reader_nextWord_0 {d : Nat} {Q : QQ} {μ : Mem} (hNF : ((μ.1 23 1) ≤ (μ.1 23 4) → (Call d y_Reader_knownWord [.ref 23] μ (fun ρ μ1 => ∃ r2 : Int32, ρ = .int r2 ∧ ((¬ r2 = (-1) → (((6 : Int32) ≤ r2 → (∀ μ3 : Mem, μ3 = wI μ1 23 (upd (μ1.1 23) 5 3) → (∀ μ4 : Mem, μ4 = wI μ3 23 (upd (μ3.1 23) 7 (r2 - 6)) → (Q .null μ4)))) ∧
(¬ (6 : Int32) ≤ r2 → (∀ μ5 : Mem, μ5 = wI μ1 23 (upd (μ1.1 23) 5 (256 + r2)) → (Q .null μ5))))) ∧
(r2 = (-1) → (∀ μ6 : Mem, μ6 = wI μ1 23 (upd (μ1.1 23) 5 1) → (Q .null μ6))))))) ∧
(¬ (μ.1 23 1) ≤ (μ.1 23 4) → (vp_in (μ.1 23 4) 160 ∧ (Call d y_Reader_isLetter [.int (μ.1 24 (Int32.toNatClampNeg (μ.1 23 4)))] μ (fun ρ μ7 => ∃ r8 : Int32, ρ = .int r8 ∧ ((r8 = 0 → (Call d y_Reader_knownWord [.ref 23] μ7 (fun ρ μ9 => ∃ r10 : Int32, ρ = .int r10 ∧ ((¬ r10 = (-1) → (((6 : Int32) ≤ r10 → (∀ μ11 : Mem, μ11 = wI μ9 23 (upd (μ9.1 23) 5 3) → (∀ μ12 : Mem, μ12 = wI μ11 23 (upd (μ11.1 23) 7 (r10 - 6)) → (Q .null μ12)))) ∧
(¬ (6 : Int32) ≤ r10 → (∀ μ13 : Mem, μ13 = wI μ9 23 (upd (μ9.1 23) 5 (256 + r10)) → (Q .null μ13))))) ∧
(r10 = (-1) → (∀ μ14 : Mem, μ14 = wI μ9 23 (upd (μ9.1 23) 5 1) → (Q .null μ14))))))) ∧
(¬ r8 = 0 → (∀ μ15 : Mem, μ15 = wI μ7 23 (upd (μ7.1 23) 4 ((μ7.1 23 4) + 1)) → (AA (Call d) y_Reader_nextWord Q 0 [.ref 23, un] [] μ15))))))))) : AA (Call d) y_Reader_nextWord Q 0 [.ref 23, un] [] μ := go_in 30 (code := pr_Reader_nextWord) (stops := [0]) rfl rfl hNF
set_option maxRecDepth 20000 in
theorem b_Reader_nextNumber_0 {d : Nat} {Q : QQ} {μ : Mem} (hNF : ∀ μ1 : Mem, μ1 = wI μ 23 (upd (μ.1 23) 7 0) → (AA (Call d) y_Reader_nextNumber Q 3 [.ref 23] [] μ1)) : AA (Call d) y_Reader_nextNumber Q 0 [.ref 23] [] μ := go_in 4 (code := pr_Reader_nextNumber) (stops := [3]) rfl rfl hNF
set_option maxRecDepth 20000 in
theorem b_Reader_nextNumber_3 {d : Nat} {Q : QQ} {μ : Mem} (hNF : ((μ.1 23 1) ≤ (μ.1 23 4) → (((4 : Int32) < ((μ.1 23 4) - (μ.1 23 6)) → (∀ μ1 : Mem, μ1 = wI μ 23 (upd (μ.1 23) 5 1) → (Q .null μ1))) ∧
(¬ (4 : Int32) < ((μ.1 23 4) - (μ.1 23 6)) → (∀ μ2 : Mem, μ2 = wI μ 23 (upd (μ.1 23) 5 2) → (Q .null μ2))))) ∧
(¬ (μ.1 23 1) ≤ (μ.1 23 4) → (vp_in (μ.1 23 4) 160 ∧ (Call d y_Reader_isDigit [.int (μ.1 24 (Int32.toNatClampNeg (μ.1 23 4)))] μ (fun ρ μ3 => ∃ r4 : Int32, ρ = .int r4 ∧ ((r4 = 0 → (((4 : Int32) < ((μ3.1 23 4) - (μ3.1 23 6)) → (∀ μ5 : Mem, μ5 = wI μ3 23 (upd (μ3.1 23) 5 1) → (Q .null μ5))) ∧
(¬ (4 : Int32) < ((μ3.1 23 4) - (μ3.1 23 6)) → (∀ μ6 : Mem, μ6 = wI μ3 23 (upd (μ3.1 23) 5 2) → (Q .null μ6))))) ∧
(¬ r4 = 0 → (vp_in (μ3.1 23 4) 160 ∧ ∀ μ7 : Mem, μ7 = wI μ3 23 (upd (μ3.1 23) 7 ((((μ3.1 23 7) * 10) + (μ3.1 24 (Int32.toNatClampNeg (μ3.1 23 4)))) - 48)) → (∀ μ8 : Mem, μ8 = wI μ7 23 (upd (μ7.1 23) 4 ((μ7.1 23 4) + 1)) → (AA (Call d) y_Reader_nextNumber Q 3 [.ref 23] [] μ8)))))))))) : AA (Call d) y_Reader_nextNumber Q 3 [.ref 23] [] μ := go_in 34 (code := pr_Reader_nextNumber) (stops := [3]) rfl rfl hNF
set_option maxRecDepth 20000 in
theorem b_Reader_knownWord_0 {d : Nat} {Q : QQ} {μ : Mem} (hNF : AA (Call d) y_Reader_knownWord Q 9 [.ref 23, .int 0, .int (μ.1 23 6), .int 1, .int 0] [] μ) : AA (Call d) y_Reader_knownWord Q 0 [.ref 23, un, un, un, un] [] μ := go_in 10 (code := pr_Reader_knownWord) (stops := [9]) rfl rfl hNF
set_option maxRecDepth 20000 in
theorem b_Reader_knownWord_9 {d : Nat} {Q : QQ} {μ : Mem} {l1 : Int32} {l2 : Int32} {l3 : Int32} {l4 : Int32} (hNF : Call d y_Str_length [.ref 68] μ (fun ρ μ1 => ∃ r2 : Int32, ρ = .int r2 ∧ ((r2 ≤ l4 → (Q (.int (-1)) μ1)) ∧
(¬ r2 ≤ l4 → (Call d y_Str_charAt [.ref 68, .int l4] μ1 (fun ρ μ3 => ∃ r4 : Int32, ρ = .int r4 ∧ ((¬ r4 = 32 → ((l3 = 0 → (AA (Call d) y_Reader_knownWord Q 9 [.ref 23, .int l1, .int l2, .int 0, .int (l4 + 1)] [] μ3)) ∧
(¬ l3 = 0 → (((μ3.1 23 4) ≤ l2 → (AA (Call d) y_Reader_knownWord Q 9 [.ref 23, .int l1, .int l2, .int 0, .int (l4 + 1)] [] μ3)) ∧
(¬ (μ3.1 23 4) ≤ l2 → (vp_in l2 160 ∧ (Call d y_Str_charAt [.ref 68, .int l4] μ3 (fun ρ μ5 => ∃ r6 : Int32, ρ = .int r6 ∧ ((¬ (μ3.1 24 l2.toNatClampNeg) = r6 → (AA (Call d) y_Reader_knownWord Q 9 [.ref 23, .int l1, .int l2, .int 0, .int (l4 + 1)] [] μ5)) ∧
((μ3.1 24 l2.toNatClampNeg) = r6 → (AA (Call d) y_Reader_knownWord Q 9 [.ref 23, .int l1, .int (l2 + 1), .int l3, .int (l4 + 1)] [] μ5))))))))))) ∧
(r4 = 32 → ((l3 = 0 → (AA (Call d) y_Reader_knownWord Q 9 [.ref 23, .int (l1 + 1), .int (μ3.1 23 6), .int 1, .int (l4 + 1)] [] μ3)) ∧
(¬ l3 = 0 → ((¬ l2 = (μ3.1 23 4) → (AA (Call d) y_Reader_knownWord Q 9 [.ref 23, .int (l1 + 1), .int (μ3.1 23 6), .int 1, .int (l4 + 1)] [] μ3)) ∧
(l2 = (μ3.1 23 4) → (Q (.int l1) μ3))))))))))))) : AA (Call d) y_Reader_knownWord Q 9 [.ref 23, .int l1, .int l2, .int l3, .int l4] [] μ := go_in 28 (code := pr_Reader_knownWord) (stops := [9]) rfl rfl hNF
set_option maxRecDepth 20000 in
theorem b_Reader_isBlank_0 {d : Nat} {Q : QQ} {μ : Mem} {a : Int32} (hNF : (a = 32 → (narrow .boolean (.int 1) = .int 1 ∧ Q (.int 1) μ)) ∧
(¬ a = 32 → ((¬ a = 10 → (narrow .boolean (.int 0) = .int 0 ∧ Q (.int 0) μ)) ∧
(a = 10 → (narrow .boolean (.int 1) = .int 1 ∧ Q (.int 1) μ))))) : AA (Call d) y_Reader_isBlank Q 0 [.int a] [] μ := go_in 9 (code := pr_Reader_isBlank) (stops := []) rfl rfl hNF
set_option maxRecDepth 20000 in
theorem b_Reader_isLetter_0 {d : Nat} {Q : QQ} {μ : Mem} {a : Int32} (hNF : (a < 97 → (narrow .boolean (.int 0) = .int 0 ∧ Q (.int 0) μ)) ∧
(¬ a < 97 → (((122 : Int32) < a → (narrow .boolean (.int 0) = .int 0 ∧ Q (.int 0) μ)) ∧
(¬ (122 : Int32) < a → (narrow .boolean (.int 1) = .int 1 ∧ Q (.int 1) μ))))) : AA (Call d) y_Reader_isLetter Q 0 [.int a] [] μ := go_in 9 (code := pr_Reader_isLetter) (stops := []) rfl rfl hNF
set_option maxRecDepth 20000 in
theorem b_Reader_isDigit_0 {d : Nat} {Q : QQ} {μ : Mem} {a : Int32} (hNF : (a < 48 → (narrow .boolean (.int 0) = .int 0 ∧ Q (.int 0) μ)) ∧
(¬ a < 48 → (((57 : Int32) < a → (narrow .boolean (.int 0) = .int 0 ∧ Q (.int 0) μ)) ∧
(¬ (57 : Int32) < a → (narrow .boolean (.int 1) = .int 1 ∧ Q (.int 1) μ))))) : AA (Call d) y_Reader_isDigit Q 0 [.int a] [] μ := go_in 9 (code := pr_Reader_isDigit) (stops := []) rfl rfl hNF
set_option maxRecDepth 20000 in
theorem b_Sheets_lay_0 {d : Nat} {Q : QQ} {μ : Mem} {a : Int32} {b : Int32} {c : Int32} (hNF : vp_in a 4 ∧ ∀ μ1 : Mem, μ1 = wI μ 58 (upd (μ.1 58) a.toNatClampNeg b) → (vp_in a 4 ∧ ∀ μ2 : Mem, μ2 = wI μ1 59 (upd (μ1.1 59) a.toNatClampNeg c) → (AA (Call d) y_Sheets_lay Q 12 [.ref 57, .int a, .int b, .int c, .int 0] [] μ2))) : AA (Call d) y_Sheets_lay Q 0 [.ref 57, .int a, .int b, .int c, un] [] μ := go_in 13 (code := pr_Sheets_lay) (stops := [12]) rfl rfl hNF
set_option maxRecDepth 20000 in
theorem b_Sheets_lay_12 {d : Nat} {Q : QQ} {μ : Mem} {l1 : Int32} {l2 : Int32} {l3 : Int32} {l4 : Int32} (hNF : ((40 : Int32) ≤ l4 → (Q .null μ)) ∧
(¬ (40 : Int32) ≤ l4 → (vp_in l1 4 ∧ (vp_in l4 (wlen 0 (61 + l1.toNatClampNeg)) ∧ ∀ μ1 : Mem, μ1 = wI μ (61 + l1.toNatClampNeg) (upd (μ.1 (61 + l1.toNatClampNeg)) l4.toNatClampNeg 0) → (AA (Call d) y_Sheets_lay Q 12 [.ref 57, .int l1, .int l2, .int l3, .int (l4 + 1)] [] μ1))))) : AA (Call d) y_Sheets_lay Q 12 [.ref 57, .int l1, .int l2, .int l3, .int l4] [] μ := go_in 13 (code := pr_Sheets_lay) (stops := [12]) rfl rfl hNF
set_option maxRecDepth 20000 in
theorem b_Sheets_put_0 {d : Nat} {Q : QQ} {μ : Mem} {a : Int32} {b : Int32} {c : Int32} (hNF : vp_in a 4 ∧ ((¬ (μ.1 58 a.toNatClampNeg) = 0 → (vp_in a 4 ∧ ((¬ (μ.1 58 a.toNatClampNeg) = 1 → (vp_in a 4 ∧ (vp_in b (wlen 0 (61 + a.toNatClampNeg)) ∧ ∀ μ1 : Mem, μ1 = wI μ (61 + a.toNatClampNeg) (upd (μ.1 (61 + a.toNatClampNeg)) b.toNatClampNeg c) → (Q .null μ1)))) ∧
((μ.1 58 a.toNatClampNeg) = 1 → (vp_in a 4 ∧ (vp_in b (wlen 0 (61 + a.toNatClampNeg)) ∧ ∀ μ2 : Mem, μ2 = wI μ (61 + a.toNatClampNeg) (upd (μ.1 (61 + a.toNatClampNeg)) b.toNatClampNeg ((Int32.toInt16 c).toInt32)) → (Q .null μ2))))))) ∧
((μ.1 58 a.toNatClampNeg) = 0 → (vp_in a 4 ∧ (vp_in b (wlen 0 (61 + a.toNatClampNeg)) ∧ ∀ μ3 : Mem, μ3 = wI μ (61 + a.toNatClampNeg) (upd (μ.1 (61 + a.toNatClampNeg)) b.toNatClampNeg ((Int32.toInt8 c).toInt32)) → (Q .null μ3)))))) : AA (Call d) y_Sheets_put Q 0 [.ref 57, .int a, .int b, .int c] [] μ := go_in 21 (code := pr_Sheets_put) (stops := []) rfl rfl hNF
set_option maxRecDepth 20000 in
theorem b_Sheets_hasRoom_0 {d : Nat} {Q : QQ} {μ : Mem} {a : Int32} {b : Int32} {c : Int32} (hNF : (b < 0 → (narrow .boolean (.int 0) = .int 0 ∧ Q (.int 0) μ)) ∧
(¬ b < 0 → ((c < 0 → (narrow .boolean (.int 0) = .int 0 ∧ Q (.int 0) μ)) ∧
(¬ c < 0 → (vp_in a 4 ∧ (((μ.1 59 a.toNatClampNeg) < c → (narrow .boolean (.int 0) = .int 0 ∧ Q (.int 0) μ)) ∧
(¬ (μ.1 59 a.toNatClampNeg) < c → (vp_in a 4 ∧ ((((μ.1 59 a.toNatClampNeg) - c) < b → (narrow .boolean (.int 0) = .int 0 ∧ Q (.int 0) μ)) ∧
(¬ ((μ.1 59 a.toNatClampNeg) - c) < b → (narrow .boolean (.int 1) = .int 1 ∧ Q (.int 1) μ))))))))))) : AA (Call d) y_Sheets_hasRoom Q 0 [.ref 57, .int a, .int b, .int c] [] μ := go_in 21 (code := pr_Sheets_hasRoom) (stops := []) rfl rfl hNF
set_option maxRecDepth 20000 in
theorem b_Texts_add_0 {d : Nat} {Q : QQ} {μ : Mem} (hNF : ((μ.1 27 4) < 6 → (vp_in (μ.1 27 4) 6 ∧ ((¬ (0 : Int32) < 0 ∧ ¬ (0 : Int32) < 0 ∧ ¬ (160 : Int32) < 0 ∧ (Int32.toNatClampNeg 0) + (Int32.toNatClampNeg 160) ≤ 160 ∧ (Int32.toNatClampNeg 0) + (Int32.toNatClampNeg 160) ≤ (wlen 0 (29 + (Int32.toNatClampNeg (μ.1 27 4)))) ∧ 0 < 160 ∧ 0 < (wlen 0 (29 + (Int32.toNatClampNeg (μ.1 27 4))))) ∧ ∀ μ1 : Mem, μ1 = wI μ (29 + (Int32.toNatClampNeg (μ.1 27 4))) (va_cpy (μ.1 25) (μ.1 (29 + (Int32.toNatClampNeg (μ.1 27 4)))) (Int32.toNatClampNeg 0) (Int32.toNatClampNeg 0) (Int32.toNatClampNeg 160)) → (vp_in (μ1.1 27 4) 6 ∧ ((¬ (0 : Int32) < 0 ∧ ¬ (0 : Int32) < 0 ∧ ¬ (3 : Int32) < 0 ∧ (Int32.toNatClampNeg 0) + (Int32.toNatClampNeg 3) ≤ 3 ∧ (Int32.toNatClampNeg 0) + (Int32.toNatClampNeg 3) ≤ (wlen 0 (36 + (Int32.toNatClampNeg (μ1.1 27 4)))) ∧ 0 < 3 ∧ 0 < (wlen 0 (36 + (Int32.toNatClampNeg (μ1.1 27 4))))) ∧ ∀ μ2 : Mem, μ2 = wI μ1 (36 + (Int32.toNatClampNeg (μ1.1 27 4))) (va_cpy (μ1.1 26) (μ1.1 (36 + (Int32.toNatClampNeg (μ1.1 27 4)))) (Int32.toNatClampNeg 0) (Int32.toNatClampNeg 0) (Int32.toNatClampNeg 3)) → (∀ μ3 : Mem, μ3 = wI μ2 27 (upd (μ2.1 27) 4 ((μ2.1 27 4) + 1)) → (Q (.int (μ2.1 27 4)) μ3))))))) ∧
(¬ (μ.1 27 4) < 6 → (Q (.int (-4)) μ))) : AA (Call d) y_Texts_add Q 0 [.ref 27, .ref 25, .ref 26] [] μ := go_in 32 (code := pr_Texts_add) (stops := []) rfl rfl hNF
set_option maxRecDepth 20000 in
theorem b_Texts_adds_0 {d : Nat} {Q : QQ} {μ : Mem} {a : Int32} {b : Int32} {c : Int32} (hNF : Call d y_Texts_tell [.ref 27, .int a, .int b, .int c, .int 0, .int 0, .int 0] μ (fun _ μ1 => (Call d y_Texts_valued [.ref 27, .int 0] μ1 (fun ρ μ2 => ∃ r3 : Int32, ρ = .int r3 ∧ (Call d y_Texts_bounded [.int r3, .int 99] μ2 (fun ρ μ4 => ∃ r5 : Int32, ρ = .int r5 ∧ (Q (.int r5) μ4))))))) : AA (Call d) y_Texts_adds Q 0 [.ref 27, .int a, .int b, .int c] [] μ := go_in 14 (code := pr_Texts_adds) (stops := []) rfl rfl hNF
set_option maxRecDepth 20000 in
theorem b_Texts_worth_0 {d : Nat} {Q : QQ} {μ : Mem} {a : Int32} {b : Int32} {c : Int32} {e : Int32} (hNF : Call d y_Texts_tell [.ref 27, .int 0, .int a, .int 0, .int b, .int c, .int e] μ (fun _ μ1 => (Call d y_Texts_valued [.ref 27, .int 1] μ1 (fun ρ μ2 => ∃ r3 : Int32, ρ = .int r3 ∧ (Call d y_Texts_bounded [.int r3, .int 999] μ2 (fun ρ μ4 => ∃ r5 : Int32, ρ = .int r5 ∧ (Q (.int r5) μ4))))))) : AA (Call d) y_Texts_worth Q 0 [.ref 27, .int a, .int b, .int c, .int e] [] μ := go_in 14 (code := pr_Texts_worth) (stops := []) rfl rfl hNF
set_option maxRecDepth 20000 in
theorem b_Texts_may_0 {d : Nat} {Q : QQ} {μ : Mem} {a : Int32} {b : Int32} {c : Int32} {e : Int32} (hNF : Call d y_Texts_tell [.ref 27, .int 0, .int a, .int 0, .int b, .int c, .int e] μ (fun _ μ1 => (Call d y_Texts_valued [.ref 27, .int 2] μ1 (fun ρ μ2 => ∃ r3 : Int32, ρ = .int r3 ∧ ((r3 = 0 → (narrow .boolean (.int 0) = .int 0 ∧ Q (.int 0) μ2)) ∧
(¬ r3 = 0 → (narrow .boolean (.int 1) = .int 1 ∧ Q (.int 1) μ2))))))) : AA (Call d) y_Texts_may Q 0 [.ref 27, .int a, .int b, .int c, .int e] [] μ := go_in 15 (code := pr_Texts_may) (stops := []) rfl rfl hNF
set_option maxRecDepth 20000 in
theorem b_Texts_tell_0 {d : Nat} {Q : QQ} {μ : Mem} {a : Int32} {b : Int32} {c : Int32} {e : Int32} {f : Int32} {g : Int32} (hNF : vp_in 0 6 ∧ ∀ μ1 : Mem, μ1 = wI μ 42 (upd (μ.1 42) (Int32.toNatClampNeg 0) a) → (vp_in 1 6 ∧ ∀ μ2 : Mem, μ2 = wI μ1 42 (upd (μ1.1 42) (Int32.toNatClampNeg 1) b) → (vp_in 2 6 ∧ ∀ μ3 : Mem, μ3 = wI μ2 42 (upd (μ2.1 42) (Int32.toNatClampNeg 2) c) → (vp_in 3 6 ∧ ∀ μ4 : Mem, μ4 = wI μ3 42 (upd (μ3.1 42) (Int32.toNatClampNeg 3) e) → (vp_in 4 6 ∧ ∀ μ5 : Mem, μ5 = wI μ4 42 (upd (μ4.1 42) (Int32.toNatClampNeg 4) f) → (vp_in 5 6 ∧ ∀ μ6 : Mem, μ6 = wI μ5 42 (upd (μ5.1 42) (Int32.toNatClampNeg 5) g) → (Q .null μ6))))))) : AA (Call d) y_Texts_tell Q 0 [.ref 27, .int a, .int b, .int c, .int e, .int f, .int g] [] μ := go_in 31 (code := pr_Texts_tell) (stops := []) rfl rfl hNF
set_option maxRecDepth 20000 in
theorem b_Texts_bounded_0 {d : Nat} {Q : QQ} {μ : Mem} {a : Int32} {b : Int32} (hNF : ((0 : Int32) ≤ a → ((a ≤ b → (Q (.int a) μ)) ∧
(¬ a ≤ b → (Q (.int b) μ)))) ∧
(¬ (0 : Int32) ≤ a → (Q (.int 0) μ))) : AA (Call d) y_Texts_bounded Q 0 [.int a, .int b] [] μ := go_in 8 (code := pr_Texts_bounded) (stops := []) rfl rfl hNF
set_option maxRecDepth 20000 in
theorem b_Texts_valued_0 {d : Nat} {Q : QQ} {μ : Mem} {a : Int32} (hNF : vp_in (μ.1 27 5) 6 ∧ (vp_in (μ.1 27 5) 6 ∧ (vp_in a (ilen 0 (36 + (Int32.toNatClampNeg (μ.1 27 5)))) ∧ ((¬ a = 0 → (vp_in (μ.1 27 5) 6 ∧ (vp_in (a - 1) (ilen 0 (36 + (Int32.toNatClampNeg (μ.1 27 5)))) ∧ (AA (Call d) y_Texts_valued Q 30 [.ref 27, .int a, .ref (29 + (Int32.toNatClampNeg (μ.1 27 5))), .int (μ.1 (36 + (Int32.toNatClampNeg (μ.1 27 5))) a.toNatClampNeg), .int (-1), .int (μ.1 (36 + (Int32.toNatClampNeg (μ.1 27 5))) (Int32.toNatClampNeg (a - 1))), un, un, un, un] [] μ)))) ∧
(a = 0 → (AA (Call d) y_Texts_valued Q 30 [.ref 27, .int a, .ref (29 + (Int32.toNatClampNeg (μ.1 27 5))), .int (μ.1 (36 + (Int32.toNatClampNeg (μ.1 27 5))) a.toNatClampNeg), .int (-1), .int 0, un, un, un, un] [] μ)))))) : AA (Call d) y_Texts_valued Q 0 [.ref 27, .int a, un, un, un, un, un, un, un, un] [] μ := go_in 29 (code := pr_Texts_valued) (stops := [30, 71, 93, 182]) rfl rfl hNF
set_option maxRecDepth 20000 in
theorem b_Texts_valued_30 {d : Nat} {Q : QQ} {μ : Mem} {l1 : Int32} {l2 : Nat} {l3 : Int32} {l4 : Int32} {l5 : Int32} (hNF : (l3 ≤ l5 → (vp_in 0 31 ∧ (Q (.int (μ.1 43 (Int32.toNatClampNeg 0))) μ))) ∧
(¬ l3 ≤ l5 → (vp_in l5 (ilen 0 l2) ∧ (((μ.1 l2 l5.toNatClampNeg) < (-6) → (((μ.1 l2 l5.toNatClampNeg) = (-262) → (AA (Call d) y_Texts_valued Q 71 [.ref 27, .int l1, .ref l2, .int l3, .int l4, .int l5, .int (μ.1 l2 l5.toNatClampNeg), .int 1, un, un] [] μ)) ∧
(¬ (μ.1 l2 l5.toNatClampNeg) = (-262) → ((¬ (μ.1 l2 l5.toNatClampNeg) = (-261) → (AA (Call d) y_Texts_valued Q 71 [.ref 27, .int l1, .ref l2, .int l3, .int l4, .int l5, .int (μ.1 l2 l5.toNatClampNeg), .int 0, un, un] [] μ)) ∧
((μ.1 l2 l5.toNatClampNeg) = (-261) → (AA (Call d) y_Texts_valued Q 71 [.ref 27, .int l1, .ref l2, .int l3, .int l4, .int l5, .int (μ.1 l2 l5.toNatClampNeg), .int 1, un, un] [] μ)))))) ∧
(¬ (μ.1 l2 l5.toNatClampNeg) < (-6) → ((l4 < 30 → (((μ.1 l2 l5.toNatClampNeg) < 0 → (vp_in ((-1) - (μ.1 l2 l5.toNatClampNeg)) 6 ∧ (vp_in (l4 + 1) 31 ∧ ∀ μ1 : Mem, μ1 = wI μ 43 (upd (μ.1 43) (Int32.toNatClampNeg (l4 + 1)) (μ.1 42 (Int32.toNatClampNeg ((-1) - (μ.1 l2 l5.toNatClampNeg))))) → (AA (Call d) y_Texts_valued Q 182 [.ref 27, .int l1, .ref l2, .int l3, .int (l4 + 1), .int l5, .int (μ.1 l2 l5.toNatClampNeg), un, un, un] [] μ1)))) ∧
(¬ (μ.1 l2 l5.toNatClampNeg) < 0 → (vp_in (l4 + 1) 31 ∧ ∀ μ2 : Mem, μ2 = wI μ 43 (upd (μ.1 43) (Int32.toNatClampNeg (l4 + 1)) (μ.1 l2 l5.toNatClampNeg)) → (AA (Call d) y_Texts_valued Q 182 [.ref 27, .int l1, .ref l2, .int l3, .int (l4 + 1), .int l5, .int (μ.1 l2 l5.toNatClampNeg), un, un, un] [] μ2))))) ∧
(¬ l4 < 30 → (Q (.int 0) μ)))))))) : AA (Call d) y_Texts_valued Q 30 [.ref 27, .int l1, .ref l2, .int l3, .int l4, .int l5, un, un, un, un] [] μ := go_in 28 (code := pr_Texts_valued) (stops := [30, 71, 93, 182]) rfl rfl hNF
set_option maxRecDepth 20000 in
theorem b_Texts_valued_71 {d : Nat} {Q : QQ} {μ : Mem} {l1 : Int32} {l2 : Nat} {l3 : Int32} {l4 : Int32} {l5 : Int32} {l6 : Int32} {l7 : Int32} (hNF : (l7 = 0 → (((1 : Int32) ≤ l4 → (vp_in l4 31 ∧ ((¬ l7 = 0 → (vp_in l4 31 ∧ (AA (Call d) y_Texts_valued Q 93 [.ref 27, .int l1, .ref l2, .int l3, .int l4, .int l5, .int l6, .int l7, .int (μ.1 43 l4.toNatClampNeg), .int (μ.1 43 l4.toNatClampNeg)] [] μ))) ∧
(l7 = 0 → (vp_in (l4 + (-1)) 31 ∧ (AA (Call d) y_Texts_valued Q 93 [.ref 27, .int l1, .ref l2, .int l3, .int (l4 + (-1)), .int l5, .int l6, .int l7, .int (μ.1 43 l4.toNatClampNeg), .int (μ.1 43 (Int32.toNatClampNeg (l4 + (-1))))] [] μ)))))) ∧
(¬ (1 : Int32) ≤ l4 → (Q (.int 0) μ)))) ∧
(¬ l7 = 0 → (((0 : Int32) ≤ l4 → (vp_in l4 31 ∧ ((¬ l7 = 0 → (vp_in l4 31 ∧ (AA (Call d) y_Texts_valued Q 93 [.ref 27, .int l1, .ref l2, .int l3, .int l4, .int l5, .int l6, .int l7, .int (μ.1 43 l4.toNatClampNeg), .int (μ.1 43 l4.toNatClampNeg)] [] μ))) ∧
(l7 = 0 → (vp_in (l4 + (-1)) 31 ∧ (AA (Call d) y_Texts_valued Q 93 [.ref 27, .int l1, .ref l2, .int l3, .int (l4 + (-1)), .int l5, .int l6, .int l7, .int (μ.1 43 l4.toNatClampNeg), .int (μ.1 43 (Int32.toNatClampNeg (l4 + (-1))))] [] μ)))))) ∧
(¬ (0 : Int32) ≤ l4 → (Q (.int 0) μ))))) : AA (Call d) y_Texts_valued Q 71 [.ref 27, .int l1, .ref l2, .int l3, .int l4, .int l5, .int l6, .int l7, un, un] [] μ := go_in 20 (code := pr_Texts_valued) (stops := [30, 71, 93, 182]) rfl rfl hNF
set_option maxRecDepth 20000 in
theorem b_Texts_valued_93 {d : Nat} {Q : QQ} {μ : Mem} {l1 : Int32} {l2 : Nat} {l3 : Int32} {l4 : Int32} {l5 : Int32} {l6 : Int32} {l7 : Int32} {l8 : Int32} {l9 : Int32} (hNF : ((-l6) = 42 → (vp_in l4 31 ∧ ∀ μ1 : Mem, μ1 = wI μ 43 (upd (μ.1 43) l4.toNatClampNeg (l9 * l8)) → (AA (Call d) y_Texts_valued Q 182 [.ref 27, .int l1, .ref l2, .int l3, .int l4, .int l5, .int l6, .int l7, .int l8, .int l9] [] μ1))) ∧
(¬ (-l6) = 42 → (((-l6) = 43 → (vp_in l4 31 ∧ ∀ μ2 : Mem, μ2 = wI μ 43 (upd (μ.1 43) l4.toNatClampNeg (l9 + l8)) → (AA (Call d) y_Texts_valued Q 182 [.ref 27, .int l1, .ref l2, .int l3, .int l4, .int l5, .int l6, .int l7, .int l8, .int l9] [] μ2))) ∧
(¬ (-l6) = 43 → (((-l6) = 45 → (vp_in l4 31 ∧ ∀ μ3 : Mem, μ3 = wI μ 43 (upd (μ.1 43) l4.toNatClampNeg (l9 - l8)) → (AA (Call d) y_Texts_valued Q 182 [.ref 27, .int l1, .ref l2, .int l3, .int l4, .int l5, .int l6, .int l7, .int l8, .int l9] [] μ3))) ∧
(¬ (-l6) = 45 → (((-l6) = 60 → ((l8 ≤ l9 → (vp_in l4 31 ∧ ∀ μ4 : Mem, μ4 = wI μ 43 (upd (μ.1 43) l4.toNatClampNeg 0) → (AA (Call d) y_Texts_valued Q 182 [.ref 27, .int l1, .ref l2, .int l3, .int l4, .int l5, .int l6, .int l7, .int l8, .int l9] [] μ4))) ∧
(¬ l8 ≤ l9 → (vp_in l4 31 ∧ ∀ μ5 : Mem, μ5 = wI μ 43 (upd (μ.1 43) l4.toNatClampNeg 1) → (AA (Call d) y_Texts_valued Q 182 [.ref 27, .int l1, .ref l2, .int l3, .int l4, .int l5, .int l6, .int l7, .int l8, .int l9] [] μ5))))) ∧
(¬ (-l6) = 60 → (((-l6) = 61 → ((¬ l9 = l8 → (vp_in l4 31 ∧ ∀ μ6 : Mem, μ6 = wI μ 43 (upd (μ.1 43) l4.toNatClampNeg 0) → (AA (Call d) y_Texts_valued Q 182 [.ref 27, .int l1, .ref l2, .int l3, .int l4, .int l5, .int l6, .int l7, .int l8, .int l9] [] μ6))) ∧
(l9 = l8 → (vp_in l4 31 ∧ ∀ μ7 : Mem, μ7 = wI μ 43 (upd (μ.1 43) l4.toNatClampNeg 1) → (AA (Call d) y_Texts_valued Q 182 [.ref 27, .int l1, .ref l2, .int l3, .int l4, .int l5, .int l6, .int l7, .int l8, .int l9] [] μ7))))) ∧
(¬ (-l6) = 61 → (((-l6) = 259 → ((¬ l9 = 0 → (vp_in l4 31 ∧ ∀ μ8 : Mem, μ8 = wI μ 43 (upd (μ.1 43) l4.toNatClampNeg 1) → (AA (Call d) y_Texts_valued Q 182 [.ref 27, .int l1, .ref l2, .int l3, .int l4, .int l5, .int l6, .int l7, .int l8, .int l9] [] μ8))) ∧
(l9 = 0 → ((l8 = 0 → (vp_in l4 31 ∧ ∀ μ9 : Mem, μ9 = wI μ 43 (upd (μ.1 43) l4.toNatClampNeg 0) → (AA (Call d) y_Texts_valued Q 182 [.ref 27, .int l1, .ref l2, .int l3, .int l4, .int l5, .int l6, .int l7, .int l8, .int l9] [] μ9))) ∧
(¬ l8 = 0 → (vp_in l4 31 ∧ ∀ μ10 : Mem, μ10 = wI μ 43 (upd (μ.1 43) l4.toNatClampNeg 1) → (AA (Call d) y_Texts_valued Q 182 [.ref 27, .int l1, .ref l2, .int l3, .int l4, .int l5, .int l6, .int l7, .int l8, .int l9] [] μ10))))))) ∧
(¬ (-l6) = 259 → (((-l6) = 260 → ((l9 = 0 → (vp_in l4 31 ∧ ∀ μ11 : Mem, μ11 = wI μ 43 (upd (μ.1 43) l4.toNatClampNeg 0) → (AA (Call d) y_Texts_valued Q 182 [.ref 27, .int l1, .ref l2, .int l3, .int l4, .int l5, .int l6, .int l7, .int l8, .int l9] [] μ11))) ∧
(¬ l9 = 0 → ((l8 = 0 → (vp_in l4 31 ∧ ∀ μ12 : Mem, μ12 = wI μ 43 (upd (μ.1 43) l4.toNatClampNeg 0) → (AA (Call d) y_Texts_valued Q 182 [.ref 27, .int l1, .ref l2, .int l3, .int l4, .int l5, .int l6, .int l7, .int l8, .int l9] [] μ12))) ∧
(¬ l8 = 0 → (vp_in l4 31 ∧ ∀ μ13 : Mem, μ13 = wI μ 43 (upd (μ.1 43) l4.toNatClampNeg 1) → (AA (Call d) y_Texts_valued Q 182 [.ref 27, .int l1, .ref l2, .int l3, .int l4, .int l5, .int l6, .int l7, .int l8, .int l9] [] μ13))))))) ∧
(¬ (-l6) = 260 → (((-l6) = 261 → ((¬ l8 = 0 → (vp_in l4 31 ∧ ∀ μ14 : Mem, μ14 = wI μ 43 (upd (μ.1 43) l4.toNatClampNeg 0) → (AA (Call d) y_Texts_valued Q 182 [.ref 27, .int l1, .ref l2, .int l3, .int l4, .int l5, .int l6, .int l7, .int l8, .int l9] [] μ14))) ∧
(l8 = 0 → (vp_in l4 31 ∧ ∀ μ15 : Mem, μ15 = wI μ 43 (upd (μ.1 43) l4.toNatClampNeg 1) → (AA (Call d) y_Texts_valued Q 182 [.ref 27, .int l1, .ref l2, .int l3, .int l4, .int l5, .int l6, .int l7, .int l8, .int l9] [] μ15))))) ∧
(¬ (-l6) = 261 → (vp_in l4 31 ∧ ∀ μ16 : Mem, μ16 = wI μ 43 (upd (μ.1 43) l4.toNatClampNeg (-l8)) → (AA (Call d) y_Texts_valued Q 182 [.ref 27, .int l1, .ref l2, .int l3, .int l4, .int l5, .int l6, .int l7, .int l8, .int l9] [] μ16)))))))))))))))))) : AA (Call d) y_Texts_valued Q 93 [.ref 27, .int l1, .ref l2, .int l3, .int l4, .int l5, .int l6, .int l7, .int l8, .int l9] [] μ := go_in 15 (code := pr_Texts_valued) (stops := [30, 71, 93, 182]) rfl rfl hNF
set_option maxRecDepth 20000 in
theorem b_Texts_valued_182 {d : Nat} {Q : QQ} {μ : Mem} {l1 : Int32} {l2 : Nat} {l3 : Int32} {l4 : Int32} {l5 : Int32} {l6 : Int32} (hNF : AA (Call d) y_Texts_valued Q 30 [.ref 27, .int l1, .ref l2, .int l3, .int l4, .int (l5 + 1), .int l6, un, un, un] [] μ) : AA (Call d) y_Texts_valued Q 182 [.ref 27, .int l1, .ref l2, .int l3, .int l4, .int l5, .int l6, un, un, un] [] μ := go_in 3 (code := pr_Texts_valued) (stops := [30, 71, 93, 182]) rfl rfl hNF
set_option maxRecDepth 20000 in
theorem b_Words_lengthOf_0 {d : Nat} {Q : QQ} {μ : Mem} {a : Int32} (hNF : (a < 1 → (Q (.int 0) μ)) ∧
(¬ a < 1 → ((a ≤ 888888 → (AA (Call d) y_Words_lengthOf Q 14 [.int a, .int a, .int 0, .int 0] [] μ)) ∧
(¬ a ≤ 888888 → (Q (.int 0) μ))))) : AA (Call d) y_Words_lengthOf Q 0 [.int a, un, un, un] [] μ := go_in 13 (code := pr_Words_lengthOf) (stops := [14]) rfl rfl hNF
set_option maxRecDepth 20000 in
theorem b_Words_lengthOf_14 {d : Nat} {Q : QQ} {μ : Mem} {l0 : Int32} {l1 : Int32} {l2 : Int32} {l3 : Int32} (hNF : ((6 : Int32) ≤ l3 → (Q (.int l2) μ)) ∧
(¬ (6 : Int32) ≤ l3 → ((l1 ≤ 0 → (Q (.int l2) μ)) ∧
(¬ l1 ≤ 0 → (¬ (10 : Int32) = 0 ∧ (Call d y_X_within [.int ((l1 - l1 / 10 * 10) - 1), .int 7] μ (fun ρ μ1 => ∃ r2 : Int32, ρ = .int r2 ∧ ((¬ r2 = 0 → (¬ (10 : Int32) = 0 ∧ (AA (Call d) y_Words_lengthOf Q 14 [.int l0, .int (l1 / 10), .int (l2 + 1), .int (l3 + 1)] [] μ1))) ∧
(r2 = 0 → (Q (.int 0) μ1)))))))))) : AA (Call d) y_Words_lengthOf Q 14 [.int l0, .int l1, .int l2, .int l3] [] μ := go_in 21 (code := pr_Words_lengthOf) (stops := [14]) rfl rfl hNF
set_option maxRecDepth 20000 in
theorem b_Words_add_0 {d : Nat} {Q : QQ} {μ : Mem} {a : Int32} {b : Int32} (hNF : ((μ.1 2 3) < 10 → (vp_in (μ.1 2 3) 10 ∧ ∀ μ1 : Mem, μ1 = wI μ 3 (upd (μ.1 3) (Int32.toNatClampNeg (μ.1 2 3)) a) → (Call d y_Words_lengthOf [.int b] μ1 (fun ρ μ2 => ∃ r3 : Int32, ρ = .int r3 ∧ (vp_in (μ1.1 2 3) 10 ∧ ∀ μ4 : Mem, μ4 = wI μ2 4 (upd (μ2.1 4) (Int32.toNatClampNeg (μ1.1 2 3)) r3) → (vp_in (μ4.1 2 3) 10 ∧ (AA (Call d) y_Words_add Q 29 [.ref 2, .int a, .int b, .int b, .int ((μ4.1 4 (Int32.toNatClampNeg (μ4.1 2 3))) - 1)] [] μ4))))))) ∧
(¬ (μ.1 2 3) < 10 → (Q (.int (-4)) μ))) : AA (Call d) y_Words_add Q 0 [.ref 2, .int a, .int b, un, un] [] μ := go_in 28 (code := pr_Words_add) (stops := [29]) rfl rfl hNF
set_option maxRecDepth 20000 in
theorem b_Words_add_29 {d : Nat} {Q : QQ} {μ : Mem} {l1 : Int32} {l2 : Int32} {l3 : Int32} {l4 : Int32} (hNF : (l4 < 0 → (∀ μ1 : Mem, μ1 = wI μ 2 (upd (μ.1 2) 3 ((μ.1 2 3) + 1)) → (Q (.int (μ.1 2 3)) μ1))) ∧
(¬ l4 < 0 → (vp_in (μ.1 2 3) 10 ∧ (¬ (10 : Int32) = 0 ∧ (vp_in l4 (wlen 0 (6 + (Int32.toNatClampNeg (μ.1 2 3)))) ∧ ∀ μ2 : Mem, μ2 = wI μ (6 + (Int32.toNatClampNeg (μ.1 2 3))) (upd (μ.1 (6 + (Int32.toNatClampNeg (μ.1 2 3)))) l4.toNatClampNeg ((l3 - l3 / 10 * 10) - 1)) → (¬ (10 : Int32) = 0 ∧ (AA (Call d) y_Words_add Q 29 [.ref 2, .int l1, .int l2, .int (l3 / 10), .int (l4 + (-1))] [] μ2))))))) : AA (Call d) y_Words_add Q 29 [.ref 2, .int l1, .int l2, .int l3, .int l4] [] μ := go_in 21 (code := pr_Words_add) (stops := [29]) rfl rfl hNF
set_option maxRecDepth 20000 in
theorem b_Words_usedAhead_0 {d : Nat} {Q : QQ} {μ : Mem} {a : Int32} {b : Int32} (hNF : vp_in a 10 ∧ (vp_in b (ilen 0 (6 + a.toNatClampNeg)) ∧ (vp_in (μ.1 (6 + a.toNatClampNeg) b.toNatClampNeg) 8 ∧ (AA (Call d) y_Words_usedAhead Q 13 [.ref 2, .int a, .int b, .ref 45, .int (μ.1 (6 + a.toNatClampNeg) b.toNatClampNeg), .int (μ.1 45 (Int32.toNatClampNeg (μ.1 (6 + a.toNatClampNeg) b.toNatClampNeg))), .int 0] [] μ)))) : AA (Call d) y_Words_usedAhead Q 0 [.ref 2, .int a, .int b, .ref 45, un, un, un] [] μ := go_in 14 (code := pr_Words_usedAhead) (stops := [13]) rfl rfl hNF
set_option maxRecDepth 20000 in
theorem b_Words_usedAhead_13 {d : Nat} {Q : QQ} {μ : Mem} {l1 : Int32} {l2 : Int32} {l4 : Int32} {l5 : Int32} {l6 : Int32} (hNF : (l2 ≤ l6 → (Q (.int (if 999 < l5 then 999 else l5)) μ)) ∧
(¬ l2 ≤ l6 → (vp_in l1 10 ∧ (vp_in l6 (ilen 0 (6 + l1.toNatClampNeg)) ∧ ((¬ (μ.1 (6 + l1.toNatClampNeg) l6.toNatClampNeg) = l4 → (AA (Call d) y_Words_usedAhead Q 13 [.ref 2, .int l1, .int l2, .ref 45, .int l4, .int l5, .int (l6 + 1)] [] μ)) ∧
((μ.1 (6 + l1.toNatClampNeg) l6.toNatClampNeg) = l4 → (AA (Call d) y_Words_usedAhead Q 13 [.ref 2, .int l1, .int l2, .ref 45, .int l4, .int (l5 + 1), .int (l6 + 1)] [] μ))))))) : AA (Call d) y_Words_usedAhead Q 13 [.ref 2, .int l1, .int l2, .ref 45, .int l4, .int l5, .int l6] [] μ := go_in 15 (code := pr_Words_usedAhead) (stops := [13]) rfl rfl hNF
set_option maxRecDepth 20000 in
theorem b_Words_spend_u_0 {d : Nat} {Q : QQ} {μ : Mem} {a : Int32} (hNF : AA (Call d) y_Words_spend Q 2 [.ref 2, .int a, .ref 1, .int 0, un] [] μ) : AA (Call d) y_Words_spend Q 0 [.ref 2, .int a, .ref 1, un, un] [] μ := go_in 3 (code := pr_Words_spend) (stops := [2]) rfl rfl hNF
set_option maxRecDepth 20000 in
theorem b_Words_spend_u_2 {d : Nat} {Q : QQ} {μ : Mem} {l1 : Int32} {l3 : Int32} (hNF : vp_in l1 10 ∧ (((μ.1 4 l1.toNatClampNeg) ≤ l3 → (Q .null μ)) ∧
(¬ (μ.1 4 l1.toNatClampNeg) ≤ l3 → (vp_in l1 10 ∧ (vp_in l3 (ilen 0 (6 + l1.toNatClampNeg)) ∧ (vp_in (μ.1 (6 + l1.toNatClampNeg) l3.toNatClampNeg) 8 ∧ (vp_in (μ.1 (6 + l1.toNatClampNeg) l3.toNatClampNeg) 8 ∧ ∀ μ1 : Mem, μ1 = wI μ 1 (upd (μ.1 1) (Int32.toNatClampNeg (μ.1 (6 + l1.toNatClampNeg) l3.toNatClampNeg)) (if 999 < (μ.1 1 (Int32.toNatClampNeg (μ.1 (6 + l1.toNatClampNeg) l3.toNatClampNeg))) + 1 then 999 else (μ.1 1 (Int32.toNatClampNeg (μ.1 (6 + l1.toNatClampNeg) l3.toNatClampNeg))) + 1)) → (AA (Call d) y_Words_spend Q 2 [.ref 2, .int l1, .ref 1, .int (l3 + 1), .int (μ.1 (6 + l1.toNatClampNeg) l3.toNatClampNeg)] [] μ1)))))))) : AA (Call d) y_Words_spend Q 2 [.ref 2, .int l1, .ref 1, .int l3, un] [] μ := go_in 26 (code := pr_Words_spend) (stops := [2]) rfl rfl hNF
set_option maxRecDepth 20000 in
theorem b_Words_spend_d_0 {d : Nat} {Q : QQ} {μ : Mem} {a : Int32} (hNF : AA (Call d) y_Words_spend Q 2 [.ref 2, .int a, .ref 45, .int 0, un] [] μ) : AA (Call d) y_Words_spend Q 0 [.ref 2, .int a, .ref 45, un, un] [] μ := go_in 3 (code := pr_Words_spend) (stops := [2]) rfl rfl hNF
set_option maxRecDepth 20000 in
theorem b_Words_spend_d_2 {d : Nat} {Q : QQ} {μ : Mem} {l1 : Int32} {l3 : Int32} (hNF : vp_in l1 10 ∧ (((μ.1 4 l1.toNatClampNeg) ≤ l3 → (Q .null μ)) ∧
(¬ (μ.1 4 l1.toNatClampNeg) ≤ l3 → (vp_in l1 10 ∧ (vp_in l3 (ilen 0 (6 + l1.toNatClampNeg)) ∧ (vp_in (μ.1 (6 + l1.toNatClampNeg) l3.toNatClampNeg) 8 ∧ (vp_in (μ.1 (6 + l1.toNatClampNeg) l3.toNatClampNeg) 8 ∧ ∀ μ1 : Mem, μ1 = wI μ 45 (upd (μ.1 45) (Int32.toNatClampNeg (μ.1 (6 + l1.toNatClampNeg) l3.toNatClampNeg)) (if 999 < (μ.1 45 (Int32.toNatClampNeg (μ.1 (6 + l1.toNatClampNeg) l3.toNatClampNeg))) + 1 then 999 else (μ.1 45 (Int32.toNatClampNeg (μ.1 (6 + l1.toNatClampNeg) l3.toNatClampNeg))) + 1)) → (AA (Call d) y_Words_spend Q 2 [.ref 2, .int l1, .ref 45, .int (l3 + 1), .int (μ.1 (6 + l1.toNatClampNeg) l3.toNatClampNeg)] [] μ1)))))))) : AA (Call d) y_Words_spend Q 2 [.ref 2, .int l1, .ref 45, .int l3, un] [] μ := go_in 26 (code := pr_Words_spend) (stops := [2]) rfl rfl hNF
set_option maxRecDepth 20000 in
theorem b_Writers_add_0 {d : Nat} {Q : QQ} {μ : Mem} {a : Int32} {b : Int32} {c : Int32} (hNF : Call d y_X_within [.int a, .int 3] μ (fun ρ μ1 => ∃ r2 : Int32, ρ = .int r2 ∧ ((r2 = 0 → (Q (.int (-2)) μ1)) ∧
(¬ r2 = 0 → (Call d y_X_within [.int b, .int 23] μ1 (fun ρ μ3 => ∃ r4 : Int32, ρ = .int r4 ∧ ((r4 = 0 → (Q (.int (-2)) μ3)) ∧
(¬ r4 = 0 → (Call d y_X_within [.int c, .int 9999] μ3 (fun ρ μ5 => ∃ r6 : Int32, ρ = .int r6 ∧ ((¬ r6 = 0 → (((μ5.1 16 3) < 5 → (vp_in (μ5.1 16 3) 5 ∧ ∀ μ7 : Mem, μ7 = wI μ5 17 (upd (μ5.1 17) (Int32.toNatClampNeg (μ5.1 16 3)) a) → (vp_in (μ7.1 16 3) 5 ∧ ∀ μ8 : Mem, μ8 = wI μ7 18 (upd (μ7.1 18) (Int32.toNatClampNeg (μ7.1 16 3)) b) → (vp_in (μ8.1 16 3) 5 ∧ ∀ μ9 : Mem, μ9 = wI μ8 19 (upd (μ8.1 19) (Int32.toNatClampNeg (μ8.1 16 3)) c) → (∀ μ10 : Mem, μ10 = wI μ9 16 (upd (μ9.1 16) 3 ((μ9.1 16 3) + 1)) → (Q (.int (μ9.1 16 3)) μ10)))))) ∧
(¬ (μ5.1 16 3) < 5 → (Q (.int (-4)) μ5)))) ∧
(r6 = 0 → (Q (.int (-2)) μ5))))))))))))) : AA (Call d) y_Writers_add Q 0 [.ref 16, .int a, .int b, .int c] [] μ := go_in 42 (code := pr_Writers_add) (stops := []) rfl rfl hNF
set_option maxRecDepth 20000 in
theorem b_Str_length_0_0 {d : Nat} {Q : QQ} {μ : Mem} (hNF : Call d y_Str_coder [.ref 66] μ (fun ρ μ1 => ∃ r2 : Int32, ρ = .int r2 ∧ (Q (.int ((Int32.ofNat 36) >>> (r2 &&& 31))) μ1))) : AA (Call d) y_Str_length Q 0 [.ref 66] [] μ := go_in 7 (code := pr_Str_length) (stops := []) rfl rfl hNF
set_option maxRecDepth 20000 in
theorem b_Str_length_1_0 {d : Nat} {Q : QQ} {μ : Mem} (hNF : Call d y_Str_coder [.ref 68] μ (fun ρ μ1 => ∃ r2 : Int32, ρ = .int r2 ∧ (Q (.int ((Int32.ofNat 61) >>> (r2 &&& 31))) μ1))) : AA (Call d) y_Str_length Q 0 [.ref 68] [] μ := go_in 7 (code := pr_Str_length) (stops := []) rfl rfl hNF
set_option maxRecDepth 20000 in
theorem b_Str_length_2_0 {d : Nat} {Q : QQ} {μ : Mem} (hNF : Call d y_Str_coder [.ref 70] μ (fun ρ μ1 => ∃ r2 : Int32, ρ = .int r2 ∧ (Q (.int ((Int32.ofNat 8) >>> (r2 &&& 31))) μ1))) : AA (Call d) y_Str_length Q 0 [.ref 70] [] μ := go_in 7 (code := pr_Str_length) (stops := []) rfl rfl hNF
set_option maxRecDepth 20000 in
theorem b_Str_coder_0_0 {d : Nat} {Q : QQ} {μ : Mem} (hNF : ((1 : Int32) = 0 → (narrow .byte (.int 1) = .int 1 ∧ Q (.int 1) μ)) ∧
(¬ (1 : Int32) = 0 → (narrow .byte (.int (μ.1 66 1)) = .int (μ.1 66 1) ∧ Q (.int (μ.1 66 1)) μ))) : AA (Call d) y_Str_coder Q 0 [.ref 66] [] μ := go_in 6 (code := pr_Str_coder) (stops := []) rfl rfl hNF
set_option maxRecDepth 20000 in
theorem b_Str_coder_1_0 {d : Nat} {Q : QQ} {μ : Mem} (hNF : ((1 : Int32) = 0 → (narrow .byte (.int 1) = .int 1 ∧ Q (.int 1) μ)) ∧
(¬ (1 : Int32) = 0 → (narrow .byte (.int (μ.1 68 1)) = .int (μ.1 68 1) ∧ Q (.int (μ.1 68 1)) μ))) : AA (Call d) y_Str_coder Q 0 [.ref 68] [] μ := go_in 6 (code := pr_Str_coder) (stops := []) rfl rfl hNF
set_option maxRecDepth 20000 in
theorem b_Str_coder_2_0 {d : Nat} {Q : QQ} {μ : Mem} (hNF : ((1 : Int32) = 0 → (narrow .byte (.int 1) = .int 1 ∧ Q (.int 1) μ)) ∧
(¬ (1 : Int32) = 0 → (narrow .byte (.int (μ.1 70 1)) = .int (μ.1 70 1) ∧ Q (.int (μ.1 70 1)) μ))) : AA (Call d) y_Str_coder Q 0 [.ref 70] [] μ := go_in 6 (code := pr_Str_coder) (stops := []) rfl rfl hNF
set_option maxRecDepth 20000 in
theorem b_Str_isLatin1_0_0 {d : Nat} {Q : QQ} {μ : Mem} (hNF : ((1 : Int32) = 0 → (narrow .boolean (.int 0) = .int 0 ∧ Q (.int 0) μ)) ∧
(¬ (1 : Int32) = 0 → ((¬ (μ.1 66 1) = 0 → (narrow .boolean (.int 0) = .int 0 ∧ Q (.int 0) μ)) ∧
((μ.1 66 1) = 0 → (narrow .boolean (.int 1) = .int 1 ∧ Q (.int 1) μ))))) : AA (Call d) y_Str_isLatin1 Q 0 [.ref 66] [] μ := go_in 8 (code := pr_Str_isLatin1) (stops := []) rfl rfl hNF
set_option maxRecDepth 20000 in
theorem b_Str_isLatin1_1_0 {d : Nat} {Q : QQ} {μ : Mem} (hNF : ((1 : Int32) = 0 → (narrow .boolean (.int 0) = .int 0 ∧ Q (.int 0) μ)) ∧
(¬ (1 : Int32) = 0 → ((¬ (μ.1 68 1) = 0 → (narrow .boolean (.int 0) = .int 0 ∧ Q (.int 0) μ)) ∧
((μ.1 68 1) = 0 → (narrow .boolean (.int 1) = .int 1 ∧ Q (.int 1) μ))))) : AA (Call d) y_Str_isLatin1 Q 0 [.ref 68] [] μ := go_in 8 (code := pr_Str_isLatin1) (stops := []) rfl rfl hNF
set_option maxRecDepth 20000 in
theorem b_Str_isLatin1_2_0 {d : Nat} {Q : QQ} {μ : Mem} (hNF : ((1 : Int32) = 0 → (narrow .boolean (.int 0) = .int 0 ∧ Q (.int 0) μ)) ∧
(¬ (1 : Int32) = 0 → ((¬ (μ.1 70 1) = 0 → (narrow .boolean (.int 0) = .int 0 ∧ Q (.int 0) μ)) ∧
((μ.1 70 1) = 0 → (narrow .boolean (.int 1) = .int 1 ∧ Q (.int 1) μ))))) : AA (Call d) y_Str_isLatin1 Q 0 [.ref 70] [] μ := go_in 8 (code := pr_Str_isLatin1) (stops := []) rfl rfl hNF
set_option maxRecDepth 20000 in
theorem b_Str_charAt_0_0 {d : Nat} {Q : QQ} {μ : Mem} {a : Int32} (hNF : Call d y_Str_isLatin1 [.ref 66] μ (fun ρ μ1 => ∃ r2 : Int32, ρ = .int r2 ∧ ((r2 = 0 → (False)) ∧
(¬ r2 = 0 → (Call d y_Lat_charAt [.ref 67, .int a] μ1 (fun ρ μ3 => ∃ r4 : Int32, ρ = .int r4 ∧ (narrow .char (.int r4) = .int r4 ∧ Q (.int r4) μ3))))))) : AA (Call d) y_Str_charAt Q 0 [.ref 66, .int a] [] μ := go_in 8 (code := pr_Str_charAt) (stops := []) rfl rfl hNF
set_option maxRecDepth 20000 in
theorem b_Str_charAt_1_0 {d : Nat} {Q : QQ} {μ : Mem} {a : Int32} (hNF : Call d y_Str_isLatin1 [.ref 68] μ (fun ρ μ1 => ∃ r2 : Int32, ρ = .int r2 ∧ ((r2 = 0 → (False)) ∧
(¬ r2 = 0 → (Call d y_Lat_charAt [.ref 69, .int a] μ1 (fun ρ μ3 => ∃ r4 : Int32, ρ = .int r4 ∧ (narrow .char (.int r4) = .int r4 ∧ Q (.int r4) μ3))))))) : AA (Call d) y_Str_charAt Q 0 [.ref 68, .int a] [] μ := go_in 8 (code := pr_Str_charAt) (stops := []) rfl rfl hNF
set_option maxRecDepth 20000 in
theorem b_Str_charAt_2_0 {d : Nat} {Q : QQ} {μ : Mem} {a : Int32} (hNF : Call d y_Str_isLatin1 [.ref 70] μ (fun ρ μ1 => ∃ r2 : Int32, ρ = .int r2 ∧ ((r2 = 0 → (False)) ∧
(¬ r2 = 0 → (Call d y_Lat_charAt [.ref 71, .int a] μ1 (fun ρ μ3 => ∃ r4 : Int32, ρ = .int r4 ∧ (narrow .char (.int r4) = .int r4 ∧ Q (.int r4) μ3))))))) : AA (Call d) y_Str_charAt Q 0 [.ref 70, .int a] [] μ := go_in 8 (code := pr_Str_charAt) (stops := []) rfl rfl hNF
set_option maxRecDepth 20000 in
theorem b_Str_checkIndex_0 {d : Nat} {Q : QQ} {μ : Mem} {a : Int32} {b : Int32} (hNF : Call d y_Prec_checkIndex [.int a, .int b, .retAddr 7] μ (fun ρ μ1 => ∃ r2 : Int32, ρ = .int r2 ∧ (Q .null μ1))) : AA (Call d) y_Str_checkIndex Q 0 [.int a, .int b] [] μ := go_in 6 (code := pr_Str_checkIndex) (stops := []) rfl rfl hNF
set_option maxRecDepth 20000 in
theorem b_Str_indexOf_2_0 {d : Nat} {Q : QQ} {μ : Mem} {a : Int32} (hNF : Call d y_Str_indexOf2 [.ref 70, .int a, .int 0] μ (fun ρ μ1 => ∃ r2 : Int32, ρ = .int r2 ∧ (Q (.int r2) μ1))) : AA (Call d) y_Str_indexOf Q 0 [.ref 70, .int a] [] μ := go_in 5 (code := pr_Str_indexOf) (stops := []) rfl rfl hNF
set_option maxRecDepth 20000 in
theorem b_Str_indexOf2_2_0 {d : Nat} {Q : QQ} {μ : Mem} {a : Int32} {b : Int32} (hNF : Call d y_Str_isLatin1 [.ref 70] μ (fun ρ μ1 => ∃ r2 : Int32, ρ = .int r2 ∧ ((r2 = 0 → (Call d y_Str_length [.ref 70] μ1 (fun ρ μ3 => ∃ r4 : Int32, ρ = .int r4 ∧ (False)))) ∧
(¬ r2 = 0 → (Call d y_Str_length [.ref 70] μ1 (fun ρ μ5 => ∃ r6 : Int32, ρ = .int r6 ∧ (Call d y_Lat_indexOf [.ref 71, .int a, .int b, .int r6] μ5 (fun ρ μ7 => ∃ r8 : Int32, ρ = .int r8 ∧ (Q (.int r8) μ7))))))))) : AA (Call d) y_Str_indexOf2 Q 0 [.ref 70, .int a, .int b] [] μ := go_in 12 (code := pr_Str_indexOf2) (stops := []) rfl rfl hNF
set_option maxRecDepth 20000 in
theorem b_Lat_charAt_0_0 {d : Nat} {Q : QQ} {μ : Mem} {b : Int32} (hNF : Call d y_Str_checkIndex [.int b, .int (Int32.ofNat 36)] μ (fun _ μ1 => (vp_in b 36 ∧ (narrow .char (.int (((Int32.toUInt32 ((μ1.1 67 b.toNatClampNeg) &&& 255)) % 65536).toInt32)) = .int (((Int32.toUInt32 ((μ1.1 67 b.toNatClampNeg) &&& 255)) % 65536).toInt32) ∧ Q (.int (((Int32.toUInt32 ((μ1.1 67 b.toNatClampNeg) &&& 255)) % 65536).toInt32)) μ1)))) : AA (Call d) y_Lat_charAt Q 0 [.ref 67, .int b] [] μ := go_in 11 (code := pr_Lat_charAt) (stops := []) rfl rfl hNF
set_option maxRecDepth 20000 in
theorem b_Lat_charAt_1_0 {d : Nat} {Q : QQ} {μ : Mem} {b : Int32} (hNF : Call d y_Str_checkIndex [.int b, .int (Int32.ofNat 61)] μ (fun _ μ1 => (vp_in b 61 ∧ (narrow .char (.int (((Int32.toUInt32 ((μ1.1 69 b.toNatClampNeg) &&& 255)) % 65536).toInt32)) = .int (((Int32.toUInt32 ((μ1.1 69 b.toNatClampNeg) &&& 255)) % 65536).toInt32) ∧ Q (.int (((Int32.toUInt32 ((μ1.1 69 b.toNatClampNeg) &&& 255)) % 65536).toInt32)) μ1)))) : AA (Call d) y_Lat_charAt Q 0 [.ref 69, .int b] [] μ := go_in 11 (code := pr_Lat_charAt) (stops := []) rfl rfl hNF
set_option maxRecDepth 20000 in
theorem b_Lat_charAt_2_0 {d : Nat} {Q : QQ} {μ : Mem} {b : Int32} (hNF : Call d y_Str_checkIndex [.int b, .int (Int32.ofNat 8)] μ (fun _ μ1 => (vp_in b 8 ∧ (narrow .char (.int (((Int32.toUInt32 ((μ1.1 71 b.toNatClampNeg) &&& 255)) % 65536).toInt32)) = .int (((Int32.toUInt32 ((μ1.1 71 b.toNatClampNeg) &&& 255)) % 65536).toInt32) ∧ Q (.int (((Int32.toUInt32 ((μ1.1 71 b.toNatClampNeg) &&& 255)) % 65536).toInt32)) μ1)))) : AA (Call d) y_Lat_charAt Q 0 [.ref 71, .int b] [] μ := go_in 11 (code := pr_Lat_charAt) (stops := []) rfl rfl hNF
set_option maxRecDepth 20000 in
theorem b_Lat_canEncode_0 {d : Nat} {Q : QQ} {μ : Mem} {a : Int32} (hNF : (a < 0 → (narrow .boolean (.int 0) = .int 0 ∧ Q (.int 0) μ)) ∧
(¬ a < 0 → (((255 : Int32) < a → (narrow .boolean (.int 0) = .int 0 ∧ Q (.int 0) μ)) ∧
(¬ (255 : Int32) < a → (narrow .boolean (.int 1) = .int 1 ∧ Q (.int 1) μ))))) : AA (Call d) y_Lat_canEncode Q 0 [.int a] [] μ := go_in 8 (code := pr_Lat_canEncode) (stops := []) rfl rfl hNF
set_option maxRecDepth 20000 in
theorem b_Lat_indexOf_2_0 {d : Nat} {Q : QQ} {μ : Mem} {b : Int32} {c : Int32} {e : Int32} (hNF : Call d y_Lat_canEncode [.int b] μ (fun ρ μ1 => ∃ r2 : Int32, ρ = .int r2 ∧ ((¬ r2 = 0 → (((if c < 0 then 0 else c) < (if Int32.ofNat 8 < e then Int32.ofNat 8 else e) → (Call d y_Lat_indexOfChar [.ref 71, .int b, .int (if c < 0 then 0 else c), .int (if Int32.ofNat 8 < e then Int32.ofNat 8 else e)] μ1 (fun ρ μ3 => ∃ r4 : Int32, ρ = .int r4 ∧ (Q (.int r4) μ3)))) ∧
(¬ (if c < 0 then 0 else c) < (if Int32.ofNat 8 < e then Int32.ofNat 8 else e) → (Q (.int (-1)) μ1)))) ∧
(r2 = 0 → (Q (.int (-1)) μ1))))) : AA (Call d) y_Lat_indexOf Q 0 [.ref 71, .int b, .int c, .int e] [] μ := go_in 21 (code := pr_Lat_indexOf) (stops := []) rfl rfl hNF
set_option maxRecDepth 20000 in
theorem b_Lat_indexOfChar_2_0 {d : Nat} {Q : QQ} {μ : Mem} {b : Int32} {c : Int32} {e : Int32} (hNF : AA (Call d) y_Lat_indexOfChar Q 5 [.ref 71, .int b, .int c, .int e, .int ((Int32.toInt8 b).toInt32), .int c] [] μ) : AA (Call d) y_Lat_indexOfChar Q 0 [.ref 71, .int b, .int c, .int e, un, un] [] μ := go_in 6 (code := pr_Lat_indexOfChar) (stops := [5]) rfl rfl hNF
set_option maxRecDepth 20000 in
theorem b_Lat_indexOfChar_2_5 {d : Nat} {Q : QQ} {μ : Mem} {l1 : Int32} {l2 : Int32} {l3 : Int32} {l4 : Int32} {l5 : Int32} (hNF : (l3 ≤ l5 → (Q (.int (-1)) μ)) ∧
(¬ l3 ≤ l5 → (vp_in l5 8 ∧ ((¬ (μ.1 71 l5.toNatClampNeg) = l4 → (AA (Call d) y_Lat_indexOfChar Q 5 [.ref 71, .int l1, .int l2, .int l3, .int l4, .int (l5 + 1)] [] μ)) ∧
((μ.1 71 l5.toNatClampNeg) = l4 → (Q (.int l5) μ)))))) : AA (Call d) y_Lat_indexOfChar Q 5 [.ref 71, .int l1, .int l2, .int l3, .int l4, .int l5] [] μ := go_in 11 (code := pr_Lat_indexOfChar) (stops := [5]) rfl rfl hNF
set_option maxRecDepth 20000 in
theorem b_Prec_checkIndex_0 {d : Nat} {Q : QQ} {μ : Mem} {a : Int32} {b : Int32} (hNF : (a < 0 → (False)) ∧
(¬ a < 0 → ((a < b → (Q (.int a) μ)) ∧
(¬ a < b → (False))))) : AA (Call d) y_Prec_checkIndex Q 0 [.int a, .int b, .retAddr 7] [] μ := go_in 7 (code := pr_Prec_checkIndex) (stops := []) rfl rfl hNF
end
section
/-! ===== base rows ===== -/
def Only (ks : List Nat) (μ μ' : Mem) : Prop := ∀ k, k ∉ ks → μ'.1 k = μ.1 k ∧ μ'.2 k = μ.2 k
theorem Only.rf {ks : List Nat} {μ : Mem} : Only ks μ μ := fun _ _ => ⟨rfl, rfl⟩
theorem Only.trans {ks : List Nat} {a b c : Mem} (h1 : Only ks a b) (h2 : Only ks b c) : Only ks a c := fun k hk => ⟨(h2 k hk).1.trans (h1 k hk).1, (h2 k hk).2.trans (h1 k hk).2⟩
theorem Only.mono {ks ks' : List Nat} {a b : Mem} (h : Only ks a b) (hs : ∀ k ∈ ks, k ∈ ks') : Only ks' a b := fun k hk => h k (fun z => hk (hs k z))
theorem Only.i {ks : List Nat} {a b : Mem} (h : Only ks a b) (k : Nat) (hk : k ∉ ks := by decide) : b.1 k = a.1 k := (h k hk).1
theorem Only.l {ks : List Nat} {a b : Mem} (h : Only ks a b) (k : Nat) (hk : k ∉ ks := by decide) : b.2 k = a.2 k := (h k hk).2
theorem wI_s {μ : Mem} {k : Nat} {g : Nat → Int32} : (wI μ k g).1 k = g := by simp [wI]
theorem wI_n {μ : Mem} {k a : Nat} {g : Nat → Int32} (h : a ≠ k) : (wI μ k g).1 a = μ.1 a := by simp [wI, h]
theorem wI_2 {μ : Mem} {k : Nat} {g : Nat → Int32} : (wI μ k g).2 = μ.2 := rfl
theorem wL_1 {μ : Mem} {k : Nat} {g : Nat → Int64} : (wL μ k g).1 = μ.1 := rfl
theorem wL_s {μ : Mem} {k : Nat} {g : Nat → Int64} : (wL μ k g).2 k = g := by simp [wL]
theorem wL_n {μ : Mem} {k a : Nat} {g : Nat → Int64} (h : a ≠ k) : (wL μ k g).2 a = μ.2 a := by simp [wL, h]
theorem Only.w {μ : Mem} {k : Nat} {g : Nat → Int32} {ks : List Nat} (h : k ∈ ks := by decide) : Only ks μ (wI μ k g) := fun a ha => ⟨wI_n (fun z => ha (z ▸ h)), rfl⟩
theorem Only.wl {μ : Mem} {k : Nat} {g : Nat → Int64} {ks : List Nat} (h : k ∈ ks := by decide) : Only ks μ (wL μ k g) := fun a ha => ⟨rfl, wL_n (fun z => ha (z ▸ h))⟩
theorem upd_s {f : Nat → Int32} {k : Nat} {x : Int32} : upd f k x k = x := by simp [upd]
theorem upd_n {f : Nat → Int32} {k j : Nat} {x : Int32} (h : j ≠ k) : upd f k x j = f j := by simp [upd, h]
/-! ===== a local that holds nothing may hold anything ===== -/
def lvle : List Value → List Value → Prop
  | [], [] => True
  | a :: r, b :: r' => (a = b ∨ (a = un ∧ isL b = false)) ∧ lvle r r'
  | _, _ => False
theorem lvle_rf : ∀ l : List Value, lvle l l
  | [] => trivial
  | _ :: r => ⟨Or.inl rfl, lvle_rf r⟩
theorem lvle_len : ∀ {l l' : List Value}, lvle l l' → l.length = l'.length
  | [], [], _ => rfl
  | _ :: _, _ :: _, h => by simp [lvle_len h.2]
  | [], _ :: _, h => h.elim
  | _ :: _, [], h => h.elim
theorem lvle_nth : ∀ {l l' : List Value} (n : Nat), lvle l l' → nth un l n = nth un l' n ∨ (nth un l n = un ∧ isL (nth un l' n) = false)
  | [], [], _, _ => Or.inl rfl
  | _ :: _, _ :: _, 0, h => h.1
  | _ :: _, _ :: _, n + 1, h => lvle_nth n h.2
  | [], _ :: _, _, h => h.elim
  | _ :: _, [], _, h => h.elim
theorem lvle_set : ∀ {l l' : List Value} (n : Nat) (v : Value), lvle l l' → lvle (l.set n v) (l'.set n v)
  | [], [], _, _, _ => trivial
  | _ :: _, _ :: _, 0, _, h => ⟨Or.inl rfl, h.2⟩
  | _ :: _, _ :: _, n + 1, v, h => ⟨h.1, lvle_set n v h.2⟩
  | [], _ :: _, _, _, h => h.elim
  | _ :: _, [], _, _, h => h.elim
theorem lvle_get {l l' : List Value} {n : Nat} {v : Value} (h : lvle l l') (hv : nth un l n = v) (hu : v ≠ un) : nth un l' n = v := by
  rcases lvle_nth n h with q | q
  · rw [← q]; exact hv
  · exact absurd (hv.symm.trans q.1) hu
theorem lvle_ok {l l' : List Value} {n : Nat} (h : lvle l l') (ho : okst l n = true) : okst l' n = true := by
  cases n with
  | zero => rfl
  | succ n =>
    simp only [okst] at ho ⊢
    rcases lvle_nth n h with q | q
    · rw [← q]; exact ho
    · rw [q.2]; rfl
theorem call_lv {K : KK} (hK : KMono K) {sd y' : Nat} {vst : Bool} {i : Nat} {lv lv' st : List Value} {μ : Mem} {P P' : PP} (h1 : ∀ i st μ, P i lv st μ → P' i lv' st μ) (h : call K sd y' vst i lv st μ P) : call K sd y' vst i lv' st μ P' := by
  unfold call at h ⊢
  split at h
  split at h
  · exact hK _ _ _ _ _ (fun r μ' hr => ret1_mono (fun l hl => h1 _ _ _ hl) hr) h
  · exact h
set_option maxHeartbeats 4000000 in
theorem stp_lv {sd : Nat} {rt : Option FieldType} {K : KK} (hK : KMono K) {Q : QQ} {P P' : PP} {ins : Instr} {i : Nat} {lv lv' st : List Value} {μ : Mem} (hl : lvle lv lv') (hP : ∀ i l l' st μ, lvle l l' → P i l st μ → P' i l' st μ) (h : stp sd rt K Q ins i lv st μ P) : stp sd rt K Q ins i lv' st μ P' := by
  have h1 : ∀ i st μ, P i lv st μ → P' i lv' st μ := fun i st μ => hP i lv lv' st μ hl
  unfold stp at h ⊢
  cases ins
  case ldc => exact h1 _ _ _ h
  case ldc2_w => exact h1 _ _ _ h
  case ldc_w => exact h1 _ _ _ h
  case getstatic => exact h1 _ _ _ h
  case iload =>
    dsimp only at h ⊢
    split at h
    · rename_i x hv
      rw [lvle_get hl hv (fun z => by cases z)]
      exact h1 _ _ _ h
    · exact h.elim
  case lload =>
    dsimp only at h ⊢
    split at h
    · rename_i x hv
      rw [lvle_get hl hv (fun z => by cases z)]
      exact h1 _ _ _ h
    · exact h.elim
  case aload =>
    dsimp only at h ⊢
    split at h
    · rename_i x hv
      rw [lvle_get hl hv (fun z => by cases z)]
      exact h1 _ _ _ h
    · exact h.elim
  case istore =>
    refine pI_mono (fun _ _ h => ?_) h
    split at h
    · rename_i ho
      simp only [Bool.and_eq_true] at ho
      rw [lvle_ok hl ho.1, ← lvle_len hl, ho.2]
      exact hP _ _ _ _ _ (lvle_set _ _ hl) h
    · exact h.elim
  case astore =>
    refine pR_mono (fun _ _ h => ?_) h
    split at h
    · rename_i ho
      simp only [Bool.and_eq_true] at ho
      rw [lvle_ok hl ho.1, ← lvle_len hl, ho.2]
      exact hP _ _ _ _ _ (lvle_set _ _ hl) h
    · exact h.elim
  case lstore =>
    refine pL_mono (fun _ _ h => ?_) h
    split at h
    · rename_i ho
      simp only [Bool.and_eq_true] at ho
      rw [lvle_ok hl ho.1, ← lvle_len hl, ho.2]
      exact hP _ _ _ _ _ (lvle_set _ _ (lvle_set _ _ hl)) h
    · exact h.elim
  case iinc =>
    dsimp only at h ⊢
    split at h
    · rename_i x hv
      rw [lvle_get hl hv (fun z => by cases z)]
      dsimp only
      split at h
      · rename_i ho
        simp only [Bool.and_eq_true] at ho
        rw [lvle_ok hl ho.1, ← lvle_len hl, ho.2]
        exact hP _ _ _ _ _ (lvle_set _ _ hl) h
      · exact h.elim
    · exact h.elim
  case iadd => exact pII_mono (fun _ _ _ h => h1 _ _ _ h) h
  case isub => exact pII_mono (fun _ _ _ h => h1 _ _ _ h) h
  case imul => exact pII_mono (fun _ _ _ h => h1 _ _ _ h) h
  case idiv => exact pII_mono (fun _ _ _ h => ⟨h.1, h1 _ _ _ h.2⟩) h
  case irem => exact pII_mono (fun _ _ _ h => ⟨h.1, h1 _ _ _ h.2⟩) h
  case ineg => exact pI_mono (fun _ _ h => h1 _ _ _ h) h
  case iand => exact pII_mono (fun _ _ _ h => h1 _ _ _ h) h
  case ior => exact pII_mono (fun _ _ _ h => h1 _ _ _ h) h
  case ishl => exact pII_mono (fun _ _ _ h => h1 _ _ _ h) h
  case ishr => exact pII_mono (fun _ _ _ h => h1 _ _ _ h) h
  case iushr => exact pII_mono (fun _ _ _ h => h1 _ _ _ h) h
  case i2l => exact pI_mono (fun _ _ h => h1 _ _ _ h) h
  case l2i => exact pL_mono (fun _ _ h => h1 _ _ _ h) h
  case i2b => exact pI_mono (fun _ _ h => h1 _ _ _ h) h
  case i2s => exact pI_mono (fun _ _ h => h1 _ _ _ h) h
  case i2c => exact pI_mono (fun _ _ h => h1 _ _ _ h) h
  case ladd => exact pLL_mono (fun _ _ _ h => h1 _ _ _ h) h
  case lsub => exact pLL_mono (fun _ _ _ h => h1 _ _ _ h) h
  case lmul => exact pLL_mono (fun _ _ _ h => h1 _ _ _ h) h
  case ldiv => exact pLL_mono (fun _ _ _ h => ⟨h.1, h1 _ _ _ h.2⟩) h
  case lrem => exact pLL_mono (fun _ _ _ h => ⟨h.1, h1 _ _ _ h.2⟩) h
  case lushr => exact pLI_mono (fun _ _ _ h => h1 _ _ _ h) h
  case lcmp => exact pLL_mono (fun _ _ _ h => h1 _ _ _ h) h
  case dup => dsimp only at h ⊢; split at h <;> first | exact h.elim | (split at h <;> first | exact h1 _ _ _ h | exact h.elim)
  case dup_x1 => dsimp only at h ⊢; split at h <;> first | exact h.elim | (split at h <;> first | exact h1 _ _ _ h | exact h.elim)
  case pop => dsimp only at h ⊢; split at h <;> first | exact h.elim | (split at h <;> first | exact h1 _ _ _ h | exact h.elim)
  case ifCond => exact pI_mono (fun _ _ h => cnd_mono (h1 _ _ _) (h1 _ _ _) h) h
  case if_icmp => exact pII_mono (fun _ _ _ h => cnd_mono (h1 _ _ _) (h1 _ _ _) h) h
  case goto => exact h1 _ _ _ h
  case lookupswitch => exact pI_mono (fun _ _ h => swc_mono (fun t => h1 _ _ _) _ _ h) h
  case arraylength => exact pR_mono (fun _ _ h => by split at h <;> first | exact h.elim | exact h1 _ _ _ h) h
  case iaload => exact pRI_mono (fun _ _ _ h => ⟨h.1, h1 _ _ _ h.2⟩) h
  case baload => exact pRI_mono (fun _ _ _ h => ⟨h.1, h1 _ _ _ h.2⟩) h
  case laload => exact pRI_mono (fun _ _ _ h => ⟨h.1, h1 _ _ _ h.2⟩) h
  case aaload => exact pRI_mono (fun _ _ _ h => ⟨h.1, h1 _ _ _ h.2⟩) h
  case iastore => exact pRII_mono (fun _ _ _ _ h => ⟨h.1, fun m e => h1 _ _ _ (h.2 m e)⟩) h
  case bastore => exact pRII_mono (fun _ _ _ _ h => ⟨h.1, fun m e => h1 _ _ _ (h.2 m e)⟩) h
  case lastore => exact pRIL_mono (fun _ _ _ _ h => ⟨h.1, fun m e => h1 _ _ _ (h.2 m e)⟩) h
  case getfield => exact pR_mono (fun _ _ h => by split at h <;> first | exact h.elim | (split at h <;> first | exact h.elim | exact h1 _ _ _ h)) h
  case putfield =>
    dsimp only at h ⊢
    split at h
    · split at h
      · split at h
        · exact fun m e => h1 _ _ _ (h m e)
        · exact ⟨h.1, fun m e => h1 _ _ _ (h.2 m e)⟩
        · exact h.elim
      · exact h.elim
    · split at h
      · split at h
        · exact fun m e => h1 _ _ _ (h m e)
        · exact h.elim
      · exact h.elim
    · exact h.elim
  case invokestatic y => exact call_lv hK h1 h
  case invokevirtual y => exact call_lv hK h1 h
  case invokedynamic n =>
    match n, h with
    | 0, h =>
      show copy5 sd i lv' st μ P'
      have h : copy5 sd i lv st μ P := h
      unfold copy5 at h ⊢
      split at h <;> first | exact h.elim | (split at h <;> first | exact h.elim | exact ⟨h.1, fun m e => h1 _ _ _ (h.2 m e)⟩)
    | 1, h => exact pII_mono (fun _ _ _ h => by split at h <;> first | exact h.elim | exact h1 _ _ _ h) h
    | 2, h => exact pII_mono (fun _ _ _ h => by split at h <;> first | exact h.elim | exact h1 _ _ _ h) h
    | n + 3, h => exact h.elim
  case ireturn => exact h
  case lreturn => exact h
  case return_ => exact h
  all_goals exact h.elim
theorem AA_weak {d y : Nat} {Q : QQ} {i : Nat} {lv lv' st : List Value} {μ : Mem} (hl : lvle lv lv') (h : AA (Call d) y Q i lv st μ) : AA (Call d) y Q i lv' st μ :=
  h (fun i l st μ => ∀ l', lvle l l' → AA (Call d) y Q i l' st μ) (fun i l st μ hs l' hl => AA_step (Call_mono d) (stp_lv (Call_mono d) hl (fun _ _ _ _ _ hl h => h _ hl) hs)) lv' hl
def b2p (P : Prop) [Decidable P] : Int32 := if P then 1 else 0
theorem b_nz {P : Prop} [Decidable P] {A B : Prop} (ha : P → A) (hb : ¬ P → B) : (¬ b2p P = 0 → A) ∧ (b2p P = 0 → B) := by
  unfold b2p
  by_cases h : P
  · rw [if_pos h]
    exact ⟨fun _ => ha h, fun q => absurd q (by decide)⟩
  · rw [if_neg h]
    exact ⟨fun q => absurd rfl q, fun _ => hb h⟩
theorem b_z {P : Prop} [Decidable P] {A B : Prop} (hb : ¬ P → B) (ha : P → A) : (b2p P = 0 → B) ∧ (¬ b2p P = 0 → A) := ⟨(b_nz ha hb).2, (b_nz ha hb).1⟩
theorem b_nar {P : Prop} [Decidable P] : narrow .boolean (.int (b2p P)) = .int (b2p P) := by
  unfold b2p
  split <;> rfl
theorem b_1 {P : Prop} [Decidable P] (h : P) : b2p P = 1 := if_pos h
theorem b_0 {P : Prop} [Decidable P] (h : ¬ P) : b2p P = 0 := if_neg h
theorem lI (x : Int32) : x.toInt64.toInt = x.toInt := by simp
/-- numbers in range -/
theorem vin_of {x : Int32} {n : Nat} (h0 : 0 ≤ x.toInt) (h1 : x.toInt < n) : vp_in x n := vp_in_iff.mpr ⟨h0, h1⟩
theorem toNatC {x : Int32} : x.toNatClampNeg = x.toInt.toNat := rfl
theorem le32 {a b : Int32} : a ≤ b ↔ a.toInt ≤ b.toInt := Int32.le_iff_toInt_le
theorem lt32 {a b : Int32} : a < b ↔ a.toInt < b.toInt := Int32.lt_iff_toInt_lt
theorem eq32 {a b : Int32} : a = b ↔ a.toInt = b.toInt := Int32.toInt_inj.symm
theorem sub32 {a b : Int32} (h : -2147483648 ≤ a.toInt - b.toInt) (h2 : a.toInt - b.toInt < 2147483648) : (a - b).toInt = a.toInt - b.toInt := by
  rw [Int32.toInt_sub]
  exact Int.bmod_eq_of_le (by omega) (by omega)
theorem add32 {a b : Int32} (h : -2147483648 ≤ a.toInt + b.toInt) (h2 : a.toInt + b.toInt < 2147483648) : (a + b).toInt = a.toInt + b.toInt := by
  rw [Int32.toInt_add]
  exact Int.bmod_eq_of_le (by omega) (by omega)
theorem mul32 {a b : Int32} (h : -2147483648 ≤ a.toInt * b.toInt) (h2 : a.toInt * b.toInt < 2147483648) : (a * b).toInt = a.toInt * b.toInt := by
  rw [Int32.toInt_mul]
  exact Int.bmod_eq_of_le (by omega) (by omega)
theorem b_congr {P P' : Prop} [Decidable P] [Decidable P'] (h : P ↔ P') : b2p P = b2p P' := by
  unfold b2p
  by_cases q : P
  · rw [if_pos q, if_pos (h.mp q)]
  · rw [if_neg q, if_neg (fun z => q (h.mpr z))]
theorem bQ {P P' : Prop} [Decidable P] [Decidable P'] {Q : QQ} {μ : Mem} (hQ : Q (.int (b2p P)) μ) (h : P ↔ P') : Q (.int (b2p P')) μ := by rw [← b_congr h]; exact hQ
theorem bQ1 {P : Prop} [Decidable P] {Q : QQ} {μ : Mem} (hQ : Q (.int (b2p P)) μ) (h : P) : Q (.int 1) μ := by rw [b_1 h] at hQ; exact hQ
theorem bQ0 {P : Prop} [Decidable P] {Q : QQ} {μ : Mem} (hQ : Q (.int (b2p P)) μ) (h : ¬ P) : Q (.int 0) μ := by rw [b_0 h] at hQ; exact hQ
theorem lcmp_lt {a b : Int64} : lg_cmp a b < 0 ↔ a.toInt < b.toInt := by
  unfold lg_cmp
  by_cases h1 : a > b
  · have h2 : b.toInt < a.toInt := Int64.lt_iff_toInt_lt.mp h1
    rw [if_pos h1]
    exact ⟨fun h => absurd h (by decide), fun h => by omega⟩
  · rw [if_neg h1]
    have h2 : ¬ b.toInt < a.toInt := fun z => h1 (Int64.lt_iff_toInt_lt.mpr z)
    by_cases h3 : a = b
    · subst h3
      rw [if_pos rfl]
      exact ⟨fun h => absurd h (by decide), fun h => by omega⟩
    · rw [if_neg h3]
      have h4 : ¬ a.toInt = b.toInt := fun z => h3 (Int64.toInt_inj.mp z)
      exact ⟨fun _ => by omega, fun _ => by decide⟩
theorem lcmp_gt {a b : Int64} : 0 < lg_cmp a b ↔ b.toInt < a.toInt := by
  unfold lg_cmp
  by_cases h1 : a > b
  · have h2 : b.toInt < a.toInt := Int64.lt_iff_toInt_lt.mp h1
    rw [if_pos h1]
    exact ⟨fun _ => h2, fun _ => by decide⟩
  · rw [if_neg h1]
    have h2 : ¬ b.toInt < a.toInt := fun z => h1 (Int64.lt_iff_toInt_lt.mpr z)
    refine ⟨fun h => ?_, fun h => absurd h h2⟩
    by_cases h3 : a = b
    · rw [if_pos h3] at h
      exact absurd h (by decide)
    · rw [if_neg h3] at h
      exact absurd h (by decide)
def rng (v : Int32) (lo hi : Int) : Prop := lo ≤ v.toInt ∧ v.toInt ≤ hi
def clampF (v lo hi : Int32) : Int32 := if lo.toInt ≤ v.toInt then (if v.toInt ≤ hi.toInt then v else hi) else lo
theorem loopN {σ : Type} {G P : Nat → σ → Prop} {N : Nat} (hx : ∀ s, P N s → G N s) (hs : ∀ i s, i < N → P i s → (∀ s', P (i + 1) s' → G (i + 1) s') → G i s) : ∀ i s, i ≤ N → P i s → G i s := by
  intro i s hi
  obtain ⟨n, hn⟩ : ∃ n, i + n = N := ⟨N - i, by omega⟩
  induction n generalizing i s with
  | zero =>
    have : i = N := by omega
    subst this
    exact hx s
  | succ n ih => exact fun h => hs i s (by omega) h (fun s' h' => ih (i + 1) s' (by omega) (by omega) h')
theorem nI_i {n : Nat} (h : n < 2147483648) : (nI n).toInt = n := nI_toInt h
theorem nI_v {n : Nat} {N : Nat} (h : n < N) (hN : N < 2147483648) : vp_in (nI n) N := vp_in_nI h hN
theorem nI_c {n : Nat} (h : n < 2147483648) : (nI n).toNatClampNeg = n := nI_clamp h
theorem nI_ex {x : Int32} (h : 0 ≤ x.toInt) : ∃ n : Nat, n < 2147483648 ∧ x = nI n ∧ x.toInt = n := by
  refine ⟨x.toInt.toNat, ?_, ?_, by omega⟩
  · have := Int32.toInt_lt x
    omega
  · apply Int32.toInt_inj.mp
    rw [nI_toInt]
    · omega
    · have := Int32.toInt_lt x
      omega
theorem div32 {a : Int32} {k : Nat} (h : 0 ≤ a.toInt) (hk : 0 < k) (hk2 : k < 2147483648) : (a / nI k).toInt = a.toInt / k := by
  obtain ⟨n, h1, h2, h3⟩ := nI_ex h
  rw [h3, h2, pk_div h1 hk hk2, nI_toInt (Nat.lt_of_le_of_lt (Nat.div_le_self _ _) h1)]
  omega
/-! ===== small methods of the reference ===== -/
theorem M_in_ok {d : Nat} {Q : QQ} {μ : Mem} {a b c : Int64} {A B C : Int} (ha : a.toInt = A) (hb : b.toInt = B) (hc : c.toInt = C) (hQ : Q (.int (b2p (B ≤ A ∧ A ≤ C))) μ) : Call (d + 1) y_M_in [.long a, .long b, .long c] μ Q := by
  refine b_M_in_0 ?_
  subst ha; subst hb; subst hc
  refine ⟨fun h1 => ⟨rfl, ?_⟩, fun h1 => ⟨fun h2 => ⟨rfl, ?_⟩, fun h2 => ⟨rfl, ?_⟩⟩⟩
  · rw [lcmp_lt] at h1; exact bQ0 hQ (by omega)
  · rw [lcmp_gt] at h2; exact bQ0 hQ (by omega)
  · rw [lcmp_lt] at h1; rw [lcmp_gt] at h2; exact bQ1 hQ (by omega)
theorem M_within_ok {d : Nat} {Q : QQ} {μ : Mem} {a b c : Int32} (hQ : Q (.int (clampF a b c)) μ) : Call (d + 1) y_M_within [.int a, .int b, .int c] μ Q := by
  refine b_M_within_0 ?_
  refine ⟨fun c1 => ?_, fun c1 => ?_⟩
  · have c1 : (b).toInt ≤ (a).toInt := le32.mp c1
    refine ⟨fun c2 => ?_, fun c2 => ?_⟩
    · have c2 : (a).toInt ≤ (c).toInt := le32.mp c2
      (unfold clampF at hQ; repeat' split at hQ) <;> first | exact hQ | omega
    · have c2 : ¬ (a).toInt ≤ (c).toInt := fun z => c2 (le32.mpr z)
      (unfold clampF at hQ; repeat' split at hQ) <;> first | exact hQ | omega
  · have c1 : ¬ (b).toInt ≤ (a).toInt := fun z => c1 (le32.mpr z)
    (unfold clampF at hQ; repeat' split at hQ) <;> first | exact hQ | omega
theorem M_isWordNumber_ok {d : Nat} {Q : QQ} {μ : Mem} {a : Int32} (h : rng (μ.1 0 10) 0 10) (hQ : Q (.int (b2p (0 ≤ a.toInt ∧ a.toInt < (μ.1 0 10).toInt))) μ) : Call (d + 2) y_M_isWordNumber [.ref 0, .int a] μ Q := by
  have h1 : ((μ.1 0 10) - 1).toInt = (μ.1 0 10).toInt - 1 := sub32 (by have := h.1; show _ ≤ _ - 1; omega) (by have := h.2; show _ - 1 < _; omega)
  refine b_M_isWordNumber_0 ?_
  refine M_in_ok (A := (a).toInt) (B := (0 : Int)) (C := (((μ.1 0 10) - 1)).toInt) (lI _) rfl (lI _) ⟨_, rfl, ?_⟩
  refine ⟨by exact b_nar, ?_⟩
  exact bQ hQ (by rw [h1]; omega)
theorem M_isWriter_ok {d : Nat} {Q : QQ} {μ : Mem} {a : Int32} (h : rng (μ.1 0 14) 0 5) (hQ : Q (.int (b2p (0 ≤ a.toInt ∧ a.toInt < (μ.1 0 14).toInt))) μ) : Call (d + 2) y_M_isWriter [.ref 0, .int a] μ Q := by
  have h1 : ((μ.1 0 14) - 1).toInt = (μ.1 0 14).toInt - 1 := sub32 (by have := h.1; show _ ≤ _ - 1; omega) (by have := h.2; show _ - 1 < _; omega)
  refine b_M_isWriter_0 ?_
  refine M_in_ok (A := (a).toInt) (B := (0 : Int)) (C := (((μ.1 0 14) - 1)).toInt) (lI _) rfl (lI _) ⟨_, rfl, ?_⟩
  refine ⟨by exact b_nar, ?_⟩
  exact bQ hQ (by rw [h1]; omega)
theorem M_isLaw_ok {d : Nat} {Q : QQ} {μ : Mem} {a : Int32} (h : rng (μ.1 0 17) 1 6) (hQ : Q (.int (b2p (0 ≤ a.toInt ∧ a.toInt < (μ.1 0 17).toInt))) μ) : Call (d + 2) y_M_isLaw [.ref 0, .int a] μ Q := by
  have h1 : ((μ.1 0 17) - 1).toInt = (μ.1 0 17).toInt - 1 := sub32 (by have := h.1; show _ ≤ _ - 1; omega) (by have := h.2; show _ - 1 < _; omega)
  refine b_M_isLaw_0 ?_
  refine M_in_ok (A := (a).toInt) (B := (0 : Int)) (C := (((μ.1 0 17) - 1)).toInt) (lI _) rfl (lI _) ⟨_, rfl, ?_⟩
  refine ⟨by exact b_nar, ?_⟩
  exact bQ hQ (by rw [h1]; omega)
theorem X_within_ok {d : Nat} {Q : QQ} {μ : Mem} {a b : Int32} {A B : Int} (ha : a.toInt = A) (hb : b.toInt = B) (hQ : Q (.int (b2p (0 ≤ A ∧ A ≤ B))) μ) : Call (d + 1) y_X_within [.int a, .int b] μ Q := by
  subst ha; subst hb
  refine b_X_within_0 ?_
  refine ⟨fun c1 => ?_, fun c1 => ?_⟩
  · have c1 : (a).toInt < (0 : Int) := lt32.mp c1
    refine ⟨by rfl, ?_⟩
    first | exact bQ0 hQ (by omega) | exact bQ1 hQ (by omega)
  · have c1 : ¬ (a).toInt < (0 : Int) := fun z => c1 (lt32.mpr z)
    refine ⟨fun c2 => ?_, fun c2 => ?_⟩
    · have c2 : (b).toInt < (a).toInt := lt32.mp c2
      refine ⟨by rfl, ?_⟩
      first | exact bQ0 hQ (by omega) | exact bQ1 hQ (by omega)
    · have c2 : ¬ (b).toInt < (a).toInt := fun z => c2 (lt32.mpr z)
      refine ⟨by rfl, ?_⟩
      first | exact bQ0 hQ (by omega) | exact bQ1 hQ (by omega)
theorem vin_lt {j : Int32} {n : Nat} (h : vp_in j n) : j.toNatClampNeg < n := Nat.not_le.mp fun q => h (Or.inr q)
theorem Qi {Q : QQ} {a b : Int32} {μ : Mem} (hq : Q (.int b) μ) (h : a = b) : Q (.int a) μ := h ▸ hq
end
section
/-! ===== the reference: prices, ages, rows ===== -/
def steepF (u n : Int32) : Int32 := u + n + u * (n + 1)
def priceF (k n u h : Int32) : Int32 := if k.toInt = 0 then u + n else if k.toInt = 2 then (u + n) / 2 else if k.toInt = 4 then (if 6 ≤ h.toInt then (u + n) / 2 else 0) else if k.toInt = 3 then steepF (u - (u - u / 3 * 3)) n else if k.toInt = 5 ∧ u.toInt = 0 then steepF u n + 5 else steepF u n
def ageF (k n u : Int32) : Int32 := if k.toInt = 2 ∨ k.toInt = 4 then (if 0 ≤ (u - n).toInt then u - n else 0) else if k.toInt = 3 then (if 0 ≤ (u - 1).toInt then u - 1 else 0) else if k.toInt = 5 ∧ ¬ n.toInt ≤ u.toInt then 0 else (if 0 ≤ u.toInt then u else 0)
theorem M_steep_ok {d : Nat} {Q : QQ} {μ : Mem} {a b : Int32} (hQ : Q (.int (steepF a b)) μ) : Call (d + 1) y_M_steep [.int a, .int b] μ Q := by
  refine b_M_steep_0 ?_
  exact hQ
/-- kind and number of THE LAW -/
def mK (μ : Mem) : Int32 := μ.1 10 (μ.1 0 18).toNatClampNeg
def mN (μ : Mem) : Int32 := μ.1 11 (μ.1 0 18).toNatClampNeg
theorem M_costBy_ok {d : Nat} {Q : QQ} {μ : Mem} {a b : Int32} (hl : vp_in (μ.1 0 18) 6) (hQ : Q (.int (priceF (mK μ) (mN μ) a b)) μ) : Call (d + 2) y_M_costBy [.ref 0, .int a, .int b] μ Q := by
  refine b_M_costBy_0 ?_
  refine ⟨by exact hl, ?_⟩
  refine ⟨by exact hl, ?_⟩
  refine ⟨fun c1 => ?_, fun c1 => ?_⟩
  · have c1 : ¬ ((μ.1 10 (Int32.toNatClampNeg (μ.1 0 18)))).toInt = (0 : Int) := fun z => c1 (eq32.mpr z)
    refine ⟨fun c2 => ?_, fun c2 => ?_⟩
    · have c2 : ((μ.1 10 (Int32.toNatClampNeg (μ.1 0 18)))).toInt = (2 : Int) := eq32.mp c2
      refine ⟨fun c3 => ?_, fun c3 => ?_⟩
      · have c3 : ¬ ((μ.1 10 (Int32.toNatClampNeg (μ.1 0 18)))).toInt = (4 : Int) := fun z => c3 (eq32.mpr z)
        refine ⟨by decide, ?_⟩
        (unfold priceF mK mN at hQ; repeat' split at hQ) <;> first | exact hQ | omega | (rw [Int32.add_zero]; exact hQ)
      · have c3 : ((μ.1 10 (Int32.toNatClampNeg (μ.1 0 18)))).toInt = (4 : Int) := eq32.mp c3
        refine ⟨fun c4 => ?_, fun c4 => ?_⟩
        · have c4 : (6 : Int) ≤ (b).toInt := le32.mp c4
          refine ⟨by decide, ?_⟩
          (unfold priceF mK mN at hQ; repeat' split at hQ) <;> first | exact hQ | omega | (rw [Int32.add_zero]; exact hQ)
        · have c4 : ¬ (6 : Int) ≤ (b).toInt := fun z => c4 (le32.mpr z)
          (unfold priceF mK mN at hQ; repeat' split at hQ) <;> first | exact hQ | omega | (rw [Int32.add_zero]; exact hQ)
    · have c2 : ¬ ((μ.1 10 (Int32.toNatClampNeg (μ.1 0 18)))).toInt = (2 : Int) := fun z => c2 (eq32.mpr z)
      refine ⟨fun c5 => ?_, fun c5 => ?_⟩
      · have c5 : ¬ ((μ.1 10 (Int32.toNatClampNeg (μ.1 0 18)))).toInt = (4 : Int) := fun z => c5 (eq32.mpr z)
        refine ⟨fun c6 => ?_, fun c6 => ?_⟩
        · have c6 : ¬ ((μ.1 10 (Int32.toNatClampNeg (μ.1 0 18)))).toInt = (3 : Int) := fun z => c6 (eq32.mpr z)
          refine M_steep_ok ⟨_, rfl, ?_⟩
          refine ⟨fun c7 => ?_, fun c7 => ?_⟩
          · have c7 : ¬ ((μ.1 10 (Int32.toNatClampNeg (μ.1 0 18)))).toInt = (5 : Int) := fun z => c7 (eq32.mpr z)
            (unfold priceF mK mN at hQ; repeat' split at hQ) <;> first | exact hQ | omega | (rw [Int32.add_zero]; exact hQ)
          · have c7 : ((μ.1 10 (Int32.toNatClampNeg (μ.1 0 18)))).toInt = (5 : Int) := eq32.mp c7
            refine ⟨fun c8 => ?_, fun c8 => ?_⟩
            · have c8 : ¬ (a).toInt = (0 : Int) := fun z => c8 (eq32.mpr z)
              (unfold priceF mK mN at hQ; repeat' split at hQ) <;> first | exact hQ | omega | (rw [Int32.add_zero]; exact hQ)
            · have c8 : (a).toInt = (0 : Int) := eq32.mp c8
              (unfold priceF mK mN at hQ; repeat' split at hQ) <;> first | exact hQ | omega | (rw [Int32.add_zero]; exact hQ)
        · have c6 : ((μ.1 10 (Int32.toNatClampNeg (μ.1 0 18)))).toInt = (3 : Int) := eq32.mp c6
          refine ⟨by decide, ?_⟩
          refine M_steep_ok ⟨_, rfl, ?_⟩
          (unfold priceF mK mN at hQ; repeat' split at hQ) <;> first | exact hQ | omega | (rw [Int32.add_zero]; exact hQ)
      · have c5 : ((μ.1 10 (Int32.toNatClampNeg (μ.1 0 18)))).toInt = (4 : Int) := eq32.mp c5
        refine ⟨fun c9 => ?_, fun c9 => ?_⟩
        · have c9 : ¬ ((μ.1 10 (Int32.toNatClampNeg (μ.1 0 18)))).toInt = (4 : Int) := fun z => c9 (eq32.mpr z)
          refine ⟨by decide, ?_⟩
          (unfold priceF mK mN at hQ; repeat' split at hQ) <;> first | exact hQ | omega | (rw [Int32.add_zero]; exact hQ)
        · have c9 : ((μ.1 10 (Int32.toNatClampNeg (μ.1 0 18)))).toInt = (4 : Int) := eq32.mp c9
          refine ⟨fun c10 => ?_, fun c10 => ?_⟩
          · have c10 : (6 : Int) ≤ (b).toInt := le32.mp c10
            refine ⟨by decide, ?_⟩
            (unfold priceF mK mN at hQ; repeat' split at hQ) <;> first | exact hQ | omega | (rw [Int32.add_zero]; exact hQ)
          · have c10 : ¬ (6 : Int) ≤ (b).toInt := fun z => c10 (le32.mpr z)
            (unfold priceF mK mN at hQ; repeat' split at hQ) <;> first | exact hQ | omega | (rw [Int32.add_zero]; exact hQ)
  · have c1 : ((μ.1 10 (Int32.toNatClampNeg (μ.1 0 18)))).toInt = (0 : Int) := eq32.mp c1
    (unfold priceF mK mN at hQ; repeat' split at hQ) <;> first | exact hQ | omega | (rw [Int32.add_zero]; exact hQ)
theorem M_agedBy_ok {d : Nat} {Q : QQ} {μ : Mem} {a : Int32} (hl : vp_in (μ.1 0 18) 6) (hQ : Q (.int (ageF (mK μ) (mN μ) a)) μ) : Call (d + 2) y_M_agedBy [.ref 0, .int a] μ Q := by
  refine b_M_agedBy_0 ?_
  refine ⟨by exact hl, ?_⟩
  refine ⟨by exact hl, ?_⟩
  refine ⟨fun c1 => ?_, fun c1 => ?_⟩
  · have c1 : ((μ.1 10 (Int32.toNatClampNeg (μ.1 0 18)))).toInt = (2 : Int) := eq32.mp c1
    refine ⟨fun c2 => ?_, fun c2 => ?_⟩
    · have c2 : (0 : Int) ≤ ((a - (μ.1 11 (Int32.toNatClampNeg (μ.1 0 18))))).toInt := le32.mp c2
      (unfold ageF mK mN at hQ; repeat' split at hQ) <;> first | exact hQ | omega
    · have c2 : ¬ (0 : Int) ≤ ((a - (μ.1 11 (Int32.toNatClampNeg (μ.1 0 18))))).toInt := fun z => c2 (le32.mpr z)
      (unfold ageF mK mN at hQ; repeat' split at hQ) <;> first | exact hQ | omega
  · have c1 : ¬ ((μ.1 10 (Int32.toNatClampNeg (μ.1 0 18)))).toInt = (2 : Int) := fun z => c1 (eq32.mpr z)
    refine ⟨fun c3 => ?_, fun c3 => ?_⟩
    · have c3 : ¬ ((μ.1 10 (Int32.toNatClampNeg (μ.1 0 18)))).toInt = (4 : Int) := fun z => c3 (eq32.mpr z)
      refine ⟨fun c4 => ?_, fun c4 => ?_⟩
      · have c4 : ¬ ((μ.1 10 (Int32.toNatClampNeg (μ.1 0 18)))).toInt = (3 : Int) := fun z => c4 (eq32.mpr z)
        refine ⟨fun c5 => ?_, fun c5 => ?_⟩
        · have c5 : ¬ ((μ.1 10 (Int32.toNatClampNeg (μ.1 0 18)))).toInt = (5 : Int) := fun z => c5 (eq32.mpr z)
          refine ⟨fun c6 => ?_, fun c6 => ?_⟩
          · have c6 : (0 : Int) ≤ (a).toInt := le32.mp c6
            (unfold ageF mK mN at hQ; repeat' split at hQ) <;> first | exact hQ | omega
          · have c6 : ¬ (0 : Int) ≤ (a).toInt := fun z => c6 (le32.mpr z)
            (unfold ageF mK mN at hQ; repeat' split at hQ) <;> first | exact hQ | omega
        · have c5 : ((μ.1 10 (Int32.toNatClampNeg (μ.1 0 18)))).toInt = (5 : Int) := eq32.mp c5
          refine ⟨fun c7 => ?_, fun c7 => ?_⟩
          · have c7 : ((μ.1 11 (Int32.toNatClampNeg (μ.1 0 18)))).toInt ≤ (a).toInt := le32.mp c7
            refine ⟨fun c8 => ?_, fun c8 => ?_⟩
            · have c8 : (0 : Int) ≤ (a).toInt := le32.mp c8
              (unfold ageF mK mN at hQ; repeat' split at hQ) <;> first | exact hQ | omega
            · have c8 : ¬ (0 : Int) ≤ (a).toInt := fun z => c8 (le32.mpr z)
              (unfold ageF mK mN at hQ; repeat' split at hQ) <;> first | exact hQ | omega
          · have c7 : ¬ ((μ.1 11 (Int32.toNatClampNeg (μ.1 0 18)))).toInt ≤ (a).toInt := fun z => c7 (le32.mpr z)
            refine ⟨fun c9 => ?_, fun c9 => ?_⟩
            · have c9 : (0 : Int) ≤ (0 : Int) := le32.mp c9
              (unfold ageF mK mN at hQ; repeat' split at hQ) <;> first | exact hQ | omega
            · have c9 : ¬ (0 : Int) ≤ (0 : Int) := fun z => c9 (le32.mpr z)
              (unfold ageF mK mN at hQ; repeat' split at hQ) <;> first | exact hQ | omega
      · have c4 : ((μ.1 10 (Int32.toNatClampNeg (μ.1 0 18)))).toInt = (3 : Int) := eq32.mp c4
        refine ⟨fun c10 => ?_, fun c10 => ?_⟩
        · have c10 : (0 : Int) ≤ ((a - 1)).toInt := le32.mp c10
          (unfold ageF mK mN at hQ; repeat' split at hQ) <;> first | exact hQ | omega
        · have c10 : ¬ (0 : Int) ≤ ((a - 1)).toInt := fun z => c10 (le32.mpr z)
          (unfold ageF mK mN at hQ; repeat' split at hQ) <;> first | exact hQ | omega
    · have c3 : ((μ.1 10 (Int32.toNatClampNeg (μ.1 0 18)))).toInt = (4 : Int) := eq32.mp c3
      refine ⟨fun c11 => ?_, fun c11 => ?_⟩
      · have c11 : (0 : Int) ≤ ((a - (μ.1 11 (Int32.toNatClampNeg (μ.1 0 18))))).toInt := le32.mp c11
        (unfold ageF mK mN at hQ; repeat' split at hQ) <;> first | exact hQ | omega
      · have c11 : ¬ (0 : Int) ≤ ((a - (μ.1 11 (Int32.toNatClampNeg (μ.1 0 18))))).toInt := fun z => c11 (le32.mpr z)
        (unfold ageF mK mN at hQ; repeat' split at hQ) <;> first | exact hQ | omega
theorem M_takes_ok {d : Nat} {Q : QQ} {μ : Mem} (hQ : ∀ μ', Only [14] μ μ' → (∀ j, j < 8 → μ'.1 14 j = μ.1 4 j) → Q .null μ') : Call (d + 1) y_M_takes [.ref 0] μ Q := by
  refine b_M_takes_0 ?_
  refine loopN (G := fun i s => AA (Call d) y_M_takes Q 2 [.ref 0, .int (nI i)] [] s) (P := fun i s => Only [14] μ s ∧ ∀ j, j < i → s.1 14 j = μ.1 4 j) (N := 8) ?_ ?_ 0 μ (by omega) ⟨Only.rf, fun j hj => absurd hj (by omega)⟩
  · intro s ⟨h1, h2⟩
    exact b_M_takes_2 ⟨fun _ => hQ s h1 h2, fun c => absurd (by decide) c⟩
  · intro i s hi ⟨h1, h2⟩ ih
    have e := nI_i (n := i) (by omega)
    refine b_M_takes_2 ⟨fun c => absurd (le32.mp c) (by rw [e]; show ¬ (8 : Int) ≤ _; omega), fun _ => ⟨nI_v hi (by omega), nI_v hi (by omega), fun μ1 e1 => ?_⟩⟩
    rw [nI_1]
    subst e1
    refine ih _ ⟨h1.trans Only.w, fun j hj => ?_⟩
    rw [wI_s, nI_c (by omega), h1.i 4]
    by_cases q : j = i
    · rw [q, upd_s]
    · rw [upd_n q]
      exact h2 j (by omega)
theorem M_keeps_ok {d : Nat} {Q : QQ} {μ : Mem} (hQ : ∀ μ', Only [4] μ μ' → (∀ j, j < 8 → μ'.1 4 j = μ.1 14 j) → Q .null μ') : Call (d + 1) y_M_keeps [.ref 0] μ Q := by
  refine b_M_keeps_0 ?_
  refine loopN (G := fun i s => AA (Call d) y_M_keeps Q 2 [.ref 0, .int (nI i)] [] s) (P := fun i s => Only [4] μ s ∧ ∀ j, j < i → s.1 4 j = μ.1 14 j) (N := 8) ?_ ?_ 0 μ (by omega) ⟨Only.rf, fun j hj => absurd hj (by omega)⟩
  · intro s ⟨h1, h2⟩
    exact b_M_keeps_2 ⟨fun _ => hQ s h1 h2, fun c => absurd (by decide) c⟩
  · intro i s hi ⟨h1, h2⟩ ih
    have e := nI_i (n := i) (by omega)
    refine b_M_keeps_2 ⟨fun c => absurd (le32.mp c) (by rw [e]; show ¬ (8 : Int) ≤ _; omega), fun _ => ⟨nI_v hi (by omega), nI_v hi (by omega), fun μ1 e1 => ?_⟩⟩
    rw [nI_1]
    subst e1
    refine ih _ ⟨h1.trans Only.w, fun j hj => ?_⟩
    rw [wI_s, nI_c (by omega), h1.i 14]
    by_cases q : j = i
    · rw [q, upd_s]
    · rw [upd_n q]
      exact h2 j (by omega)
def sum8 (f : Nat → Int32) : Nat → Int32
  | 0 => 0
  | n + 1 => sum8 f n + f n
theorem M_rowSum_ok {d : Nat} {Q : QQ} {μ : Mem} (hQ : Q (.int (sum8 (μ.1 14) 8)) μ) : Call (d + 1) y_M_rowSum [.ref 0] μ Q := by
  refine b_M_rowSum_0 ?_
  refine loopN (G := fun i s => AA (Call d) y_M_rowSum Q 4 [.ref 0, .int s, .int (nI i)] [] μ) (P := fun i s => s = sum8 (μ.1 14) i) (N := 8) ?_ ?_ 0 0 (by omega) rfl
  · intro s h
    subst h
    exact b_M_rowSum_4 ⟨fun _ => hQ, fun c => absurd (by decide) c⟩
  · intro i s hi h ih
    have e := nI_i (n := i) (by omega)
    refine b_M_rowSum_4 ⟨fun c => absurd (le32.mp c) (by rw [e]; show ¬ (8 : Int) ≤ _; omega), fun _ => ⟨nI_v hi (by omega), ?_⟩⟩
    rw [nI_1, nI_c (by omega)]
    exact ih _ (by rw [h]; rfl)
theorem M_ages_ok {d : Nat} {Q : QQ} {μ : Mem} (hl : vp_in (μ.1 0 18) 6) (hQ : ∀ μ', Only [14] μ μ' → (∀ j, j < 8 → μ'.1 14 j = ageF (mK μ) (mN μ) (μ.1 14 j)) → Q .null μ') : Call (d + 3) y_M_ages [.ref 0] μ Q := by
  refine b_M_ages_0 ?_
  refine loopN (G := fun i s => AA (Call (d + 2)) y_M_ages Q 2 [.ref 0, .int (nI i)] [] s) (P := fun i s => Only [14] μ s ∧ (∀ j, j < i → s.1 14 j = ageF (mK μ) (mN μ) (μ.1 14 j)) ∧ ∀ j, i ≤ j → s.1 14 j = μ.1 14 j) (N := 8) ?_ ?_ 0 μ (by omega) ⟨Only.rf, fun j hj => absurd hj (by omega), fun _ _ => rfl⟩
  · intro s ⟨h1, h2, _⟩
    exact b_M_ages_2 ⟨fun _ => hQ s h1 h2, fun c => absurd (by decide) c⟩
  · intro i s hi ⟨h1, h2, h3⟩ ih
    have e := nI_i (n := i) (by omega)
    refine b_M_ages_2 ⟨fun c => absurd (le32.mp c) (by rw [e]; show ¬ (8 : Int) ≤ _; omega), fun _ => ⟨nI_v hi (by omega), ?_⟩⟩
    refine M_agedBy_ok (by rw [h1.i 0]; exact hl) ⟨_, rfl, nI_v hi (by omega), fun μ1 e1 => ?_⟩
    have eK : mK s = mK μ := by unfold mK; rw [h1.i 0, h1.i 10]
    have eN : mN s = mN μ := by unfold mN; rw [h1.i 0, h1.i 11]
    rw [nI_1]
    subst e1
    refine ih _ ⟨h1.trans Only.w, fun j hj => ?_, fun j hj => ?_⟩
    · rw [wI_s, nI_c (by omega)]
      by_cases q : j = i
      · rw [q, upd_s, eK, eN, h3 i (by omega)]
      · rw [upd_n q]
        exact h2 j (by omega)
    · rw [wI_s, nI_c (by omega), upd_n (by omega)]
      exact h3 j (by omega)
end
section
/-! ===== the reference: plain calls ===== -/
def digs (n : Nat) : List Nat := if h : n = 0 then [] else digs (n / 10) ++ [n % 10]
termination_by n
decreasing_by omega
theorem digs_0 : digs 0 = [] := by rw [digs]; simp
theorem digs_s {n : Nat} (h : n ≠ 0) : digs n = digs (n / 10) ++ [n % 10] := by rw [digs]; simp [h]
theorem digs_len_s {n : Nat} (h : n ≠ 0) : (digs n).length = (digs (n / 10)).length + 1 := by rw [digs_s h]; simp
theorem digs_le : ∀ (k n : Nat), n < 10 ^ k → (digs n).length ≤ k
  | 0, n, h => by
    have : n = 0 := by simpa using h
    subst this
    rw [digs_0]; simp
  | k + 1, n, h => by
    by_cases h0 : n = 0
    · subst h0; rw [digs_0]; simp
    · rw [digs_len_s h0]
      have := digs_le k (n / 10) (by rw [Nat.pow_succ] at h; omega)
      omega
def sizeF (v : Int32) : Int32 := nI (digs v.toInt.toNat).length
theorem nI_div10 {n : Nat} (h : n < 2147483648) : nI n / 10 = nI (n / 10) := by
  have := pk_div (a := n) (d := 10) h (by omega) (by omega)
  exact this
theorem nI_mod10 {n : Nat} (h : n < 2147483648) : nI n - nI n / 10 * 10 = nI (n % 10) := by
  have := pk_rem (a := n) (d := 10) h (by omega) (by omega)
  exact this
theorem M_sizeOf_ok {d : Nat} {Q : QQ} {μ : Mem} {a : Int32} (h0 : 0 ≤ a.toInt) (hQ : Q (.int (sizeF a)) μ) : Call (d + 1) y_M_sizeOf [.int a] μ Q := by
  refine b_M_sizeOf_0 ?_
  obtain ⟨n0, hn0, rfl, e0⟩ := nI_ex h0
  have key : ∀ (n : Nat) (c : Nat), n < 2147483648 → c + (digs n).length = (digs n0).length → AA (Call d) y_M_sizeOf Q 4 [.int (nI n0), .int (nI c), .int (nI n)] [] μ := by
    intro n
    induction n using Nat.strongRecOn with
    | _ n ih =>
      intro c hn hc
      have e := nI_i (n := n) hn
      refine b_M_sizeOf_4 ⟨fun q => ?_, fun q => ⟨by decide, ?_⟩⟩
      · have q : (nI n).toInt ≤ 0 := le32.mp q
        have : n = 0 := by omega
        subst this
        rw [digs_0] at hc
        unfold sizeF at hQ
        rw [e0] at hQ
        have : c = (digs n0).length := by simpa using hc
        rw [this]
        exact hQ
      · have q : ¬ (nI n).toInt ≤ 0 := fun z => q (le32.mpr z)
        rw [nI_1, nI_div10 hn]
        refine ih (n / 10) (by omega) (c + 1) (by omega) ?_
        rw [digs_len_s (n := n) (by omega)] at hc
        omega
  exact key n0 0 hn0 (by omega)
def lenF (μ : Mem) (w : Int) : Int := if w = 0 then 8 else if w < 4 then (μ.1 0 14).toInt else if w < 6 then (μ.1 0 17).toInt else (μ.1 0 10).toInt
/-- numbers of words, writers, laws, texts, the tape -/
def cntM (μ : Mem) : Prop := rng (μ.1 0 10) 0 10 ∧ rng (μ.1 0 14) 0 5 ∧ rng (μ.1 0 17) 1 6 ∧ rng (μ.1 0 3) 1 6 ∧ rng (μ.1 0 6) 0 160 ∧ (0 ≤ (μ.1 0 18).toInt ∧ (μ.1 0 18).toInt < (μ.1 0 17).toInt) ∧ (0 ≤ (μ.1 0 4).toInt ∧ (μ.1 0 4).toInt < (μ.1 0 3).toInt)
theorem M_isOf_ok {d : Nat} {Q : QQ} {μ : Mem} {a b : Int32} (h : cntM μ) (hQ : Q (.int (b2p (0 ≤ b.toInt ∧ b.toInt < lenF μ a.toInt))) μ) : Call (d + 3) y_M_isOf [.ref 0, .int a, .int b] μ Q := by
  obtain ⟨h1, h2, h3, -⟩ := h
  refine b_M_isOf_0 ?_
  refine ⟨fun c1 => ?_, fun c1 => ?_⟩
  · have c1 : ¬ (a).toInt = (0 : Int) := fun z => c1 (eq32.mpr z)
    refine ⟨fun c2 => ?_, fun c2 => ?_⟩
    · have c2 : (4 : Int) ≤ (a).toInt := le32.mp c2
      refine ⟨fun c3 => ?_, fun c3 => ?_⟩
      · have c3 : (6 : Int) ≤ (a).toInt := le32.mp c3
        refine M_isWordNumber_ok h1 ⟨_, rfl, ?_⟩
        refine ⟨by exact b_nar, ?_⟩
        refine bQ hQ ?_
        unfold lenF
        repeat' split
        all_goals omega
      · have c3 : ¬ (6 : Int) ≤ (a).toInt := fun z => c3 (le32.mpr z)
        refine M_isLaw_ok h3 ⟨_, rfl, ?_⟩
        refine ⟨by exact b_nar, ?_⟩
        refine bQ hQ ?_
        unfold lenF
        repeat' split
        all_goals omega
    · have c2 : ¬ (4 : Int) ≤ (a).toInt := fun z => c2 (le32.mpr z)
      refine M_isWriter_ok h2 ⟨_, rfl, ?_⟩
      refine ⟨by exact b_nar, ?_⟩
      refine bQ hQ ?_
      unfold lenF
      repeat' split
      all_goals omega
  · have c1 : (a).toInt = (0 : Int) := eq32.mp c1
    refine M_in_ok (A := (b).toInt) (B := (0 : Int)) (C := (7 : Int)) (lI _) rfl rfl ⟨_, rfl, ?_⟩
    refine ⟨by exact b_nar, ?_⟩
    refine bQ hQ ?_
    unfold lenF
    repeat' split
    all_goals omega
def toldF (μ : Mem) (f w : Int32) : Int32 := if 0 ≤ w.toInt ∧ w.toInt ≤ 7 ∧ 0 ≤ f.toInt ∧ f.toInt < lenF μ w.toInt then (if w.toInt = 0 then μ.1 4 f.toNatClampNeg else if w.toInt = 1 then μ.1 7 f.toNatClampNeg else if w.toInt = 2 then μ.1 8 f.toNatClampNeg else if w.toInt = 3 then μ.1 9 f.toNatClampNeg else if w.toInt = 4 then μ.1 11 f.toNatClampNeg else if w.toInt = 5 then μ.1 10 f.toNatClampNeg else if w.toInt = 6 then μ.1 5 f.toNatClampNeg else sizeF (μ.1 6 f.toNatClampNeg)) else -2
theorem M_told_ok {d : Nat} {Q : QQ} {μ : Mem} {a b : Int32} (h : cntM μ) (hw : ∀ j, j < 10 → 0 ≤ (μ.1 6 j).toInt) (hQ : Q (.int (toldF μ a b)) μ) : Call (d + 4) y_M_told [.ref 0, .int a, .int b] μ Q := by
  have hc := h
  obtain ⟨⟨h1, h1'⟩, ⟨h2, h2'⟩, ⟨h3, h3'⟩, -⟩ := h
  refine b_M_told_0 ?_
  refine M_in_ok (A := (b).toInt) (B := (0 : Int)) (C := (7 : Int)) (lI _) rfl rfl ⟨_, rfl, ?_⟩
  refine b_z (fun c1 => ?_) (fun c1 => ?_)
  · (unfold toldF at hQ; repeat' split at hQ) <;> first | exact hQ | omega
  · refine M_isOf_ok hc ⟨_, rfl, ?_⟩
    refine b_nz (fun c2 => ?_) (fun c2 => ?_)
    · refine ⟨fun c3 => ?_, fun c3 => ?_⟩
      · have c3 : (4 : Int) ≤ (b).toInt := le32.mp c3
        refine ⟨fun c4 => ?_, fun c4 => ?_⟩
        · have c4 : (6 : Int) ≤ (b).toInt := le32.mp c4
          refine ⟨fun c5 => ?_, fun c5 => ?_⟩
          · have c5 : ¬ (b).toInt = (6 : Int) := fun z => c5 (eq32.mpr z)
            refine ⟨by refine vin_of (by omega) ?_; unfold lenF at *; (repeat' split at *) <;> omega, ?_⟩
            refine M_sizeOf_ok (hw _ (vin_lt (vin_of (by omega) (by unfold lenF at *; (repeat' split at *) <;> omega)))) ⟨_, rfl, ?_⟩
            (unfold toldF at hQ; repeat' split at hQ) <;> first | exact hQ | omega
          · have c5 : (b).toInt = (6 : Int) := eq32.mp c5
            refine ⟨by refine vin_of (by omega) ?_; unfold lenF at *; (repeat' split at *) <;> omega, ?_⟩
            (unfold toldF at hQ; repeat' split at hQ) <;> first | exact hQ | omega
        · have c4 : ¬ (6 : Int) ≤ (b).toInt := fun z => c4 (le32.mpr z)
          refine ⟨fun c6 => ?_, fun c6 => ?_⟩
          · have c6 : ¬ (b).toInt = (4 : Int) := fun z => c6 (eq32.mpr z)
            refine ⟨by refine vin_of (by omega) ?_; unfold lenF at *; (repeat' split at *) <;> omega, ?_⟩
            (unfold toldF at hQ; repeat' split at hQ) <;> first | exact hQ | omega
          · have c6 : (b).toInt = (4 : Int) := eq32.mp c6
            refine ⟨by refine vin_of (by omega) ?_; unfold lenF at *; (repeat' split at *) <;> omega, ?_⟩
            (unfold toldF at hQ; repeat' split at hQ) <;> first | exact hQ | omega
      · have c3 : ¬ (4 : Int) ≤ (b).toInt := fun z => c3 (le32.mpr z)
        refine ⟨fun c7 => ?_, fun c7 => ?_⟩
        · have c7 : ¬ (b).toInt = (0 : Int) := fun z => c7 (eq32.mpr z)
          refine ⟨fun c8 => ?_, fun c8 => ?_⟩
          · have c8 : ¬ (b).toInt = (1 : Int) := fun z => c8 (eq32.mpr z)
            refine ⟨fun c9 => ?_, fun c9 => ?_⟩
            · have c9 : ¬ (b).toInt = (2 : Int) := fun z => c9 (eq32.mpr z)
              refine ⟨by refine vin_of (by omega) ?_; unfold lenF at *; (repeat' split at *) <;> omega, ?_⟩
              (unfold toldF at hQ; repeat' split at hQ) <;> first | exact hQ | omega
            · have c9 : (b).toInt = (2 : Int) := eq32.mp c9
              refine ⟨by refine vin_of (by omega) ?_; unfold lenF at *; (repeat' split at *) <;> omega, ?_⟩
              (unfold toldF at hQ; repeat' split at hQ) <;> first | exact hQ | omega
          · have c8 : (b).toInt = (1 : Int) := eq32.mp c8
            refine ⟨by refine vin_of (by omega) ?_; unfold lenF at *; (repeat' split at *) <;> omega, ?_⟩
            (unfold toldF at hQ; repeat' split at hQ) <;> first | exact hQ | omega
        · have c7 : (b).toInt = (0 : Int) := eq32.mp c7
          refine ⟨by refine vin_of (by omega) ?_; unfold lenF at *; (repeat' split at *) <;> omega, ?_⟩
          (unfold toldF at hQ; repeat' split at hQ) <;> first | exact hQ | omega
    · (unfold toldF at hQ; repeat' split at hQ) <;> first | exact hQ | omega
end
section
/-! ===== the reference: calls that change it ===== -/
def maxF (w : Int) : Int := if w = 0 then 999 else if w = 1 then 3 else if w = 2 then 23 else if w = 3 then 9999 else 9
def cellF (w : Int) : Nat := if w = 0 then 4 else if w = 1 then 7 else if w = 2 then 8 else if w = 3 then 9 else 11
def okSet (n : Int) (w f v : Int32) : Prop := 0 ≤ w.toInt ∧ w.toInt ≤ 4 ∧ 0 ≤ f.toInt ∧ f.toInt < n ∧ 0 ≤ v.toInt ∧ v.toInt ≤ maxF w.toInt
theorem M_set_ok {d : Nat} {Q : QQ} {μ : Mem} {a b c : Int32} (h : cntM μ) (hw : ∀ j, j < 10 → 0 ≤ (μ.1 6 j).toInt) (hb : ¬ okSet (lenF μ a.toInt) a b c → Q (.int (-2)) μ) (hg : okSet (lenF μ a.toInt) a b c → ∀ μ', μ' = wI μ (cellF a.toInt) (upd (μ.1 (cellF a.toInt)) b.toNatClampNeg c) → Q (.int (μ.1 (cellF a.toInt) b.toNatClampNeg)) μ') : Call (d + 5) y_M_set [.ref 0, .int a, .int b, .int c] μ Q := by
  have hc := h
  obtain ⟨⟨h1, h1'⟩, ⟨h2, h2'⟩, ⟨h3, h3'⟩, -⟩ := h
  refine b_M_set_0 ?_
  refine M_in_ok (A := (a).toInt) (B := (0 : Int)) (C := (4 : Int)) (lI _) rfl rfl ⟨_, rfl, ?_⟩
  refine b_z (fun c1 => ?_) (fun c1 => ?_)
  · first
      | exact hb (by unfold okSet maxF; (repeat' split) <;> omega)
      | (have g := hg (by unfold okSet maxF; (repeat' split) <;> omega) _ rfl
         unfold toldF
         unfold cellF at g
         simp_all
         done)
      | (have g := hg (by unfold okSet maxF; (repeat' split) <;> omega) _ rfl
         have q4 : a.toInt = 4 := by omega
         unfold toldF
         unfold cellF at g
         simp_all
         done)
  · refine M_isOf_ok hc ⟨_, rfl, ?_⟩
    refine b_z (fun c2 => ?_) (fun c2 => ?_)
    · first
        | exact hb (by unfold okSet maxF; (repeat' split) <;> omega)
        | (have g := hg (by unfold okSet maxF; (repeat' split) <;> omega) _ rfl
           unfold toldF
           unfold cellF at g
           simp_all
           done)
        | (have g := hg (by unfold okSet maxF; (repeat' split) <;> omega) _ rfl
           have q4 : a.toInt = 4 := by omega
           unfold toldF
           unfold cellF at g
           simp_all
           done)
    · refine ⟨fun c3 => ?_, fun c3 => ?_⟩
      · have c3 : ¬ (a).toInt = (0 : Int) := fun z => c3 (eq32.mpr z)
        refine ⟨fun c4 => ?_, fun c4 => ?_⟩
        · have c4 : ¬ (a).toInt = (1 : Int) := fun z => c4 (eq32.mpr z)
          refine ⟨fun c5 => ?_, fun c5 => ?_⟩
          · have c5 : ¬ (a).toInt = (2 : Int) := fun z => c5 (eq32.mpr z)
            refine ⟨fun c6 => ?_, fun c6 => ?_⟩
            · have c6 : ¬ (a).toInt = (3 : Int) := fun z => c6 (eq32.mpr z)
              refine M_in_ok (A := (c).toInt) (B := (0 : Int)) (C := (9 : Int)) (lI _) rfl rfl ⟨_, rfl, ?_⟩
              refine b_nz (fun c7 => ?_) (fun c7 => ?_)
              · refine M_told_ok hc hw ⟨_, rfl, ?_⟩
                refine ⟨fun c8 => ?_, fun c8 => ?_⟩
                · have c8 : ¬ (a).toInt = (0 : Int) := fun z => c8 (eq32.mpr z)
                  refine ⟨fun c9 => ?_, fun c9 => ?_⟩
                  · have c9 : ¬ (a).toInt = (1 : Int) := fun z => c9 (eq32.mpr z)
                    refine ⟨fun c10 => ?_, fun c10 => ?_⟩
                    · have c10 : ¬ (a).toInt = (2 : Int) := fun z => c10 (eq32.mpr z)
                      refine ⟨fun c11 => ?_, fun c11 => ?_⟩
                      · have c11 : ¬ (a).toInt = (3 : Int) := fun z => c11 (eq32.mpr z)
                        refine ⟨by refine vin_of (by omega) ?_; unfold lenF at *; (repeat' split at *) <;> omega, ?_⟩
                        intro μ9 eμ9
                        first
                          | exact hb (by unfold okSet maxF; (repeat' split) <;> omega)
                          | (have g := hg (by unfold okSet maxF; (repeat' split) <;> omega) _ rfl
                             unfold toldF
                             unfold cellF at g
                             simp_all
                             done)
                          | (have g := hg (by unfold okSet maxF; (repeat' split) <;> omega) _ rfl
                             have q4 : a.toInt = 4 := by omega
                             unfold toldF
                             unfold cellF at g
                             simp_all
                             done)
                      · have c11 : (a).toInt = (3 : Int) := eq32.mp c11
                        refine ⟨by refine vin_of (by omega) ?_; unfold lenF at *; (repeat' split at *) <;> omega, ?_⟩
                        intro μ10 eμ10
                        first
                          | exact hb (by unfold okSet maxF; (repeat' split) <;> omega)
                          | (have g := hg (by unfold okSet maxF; (repeat' split) <;> omega) _ rfl
                             unfold toldF
                             unfold cellF at g
                             simp_all
                             done)
                          | (have g := hg (by unfold okSet maxF; (repeat' split) <;> omega) _ rfl
                             have q4 : a.toInt = 4 := by omega
                             unfold toldF
                             unfold cellF at g
                             simp_all
                             done)
                    · have c10 : (a).toInt = (2 : Int) := eq32.mp c10
                      refine ⟨by refine vin_of (by omega) ?_; unfold lenF at *; (repeat' split at *) <;> omega, ?_⟩
                      intro μ11 eμ11
                      first
                        | exact hb (by unfold okSet maxF; (repeat' split) <;> omega)
                        | (have g := hg (by unfold okSet maxF; (repeat' split) <;> omega) _ rfl
                           unfold toldF
                           unfold cellF at g
                           simp_all
                           done)
                        | (have g := hg (by unfold okSet maxF; (repeat' split) <;> omega) _ rfl
                           have q4 : a.toInt = 4 := by omega
                           unfold toldF
                           unfold cellF at g
                           simp_all
                           done)
                  · have c9 : (a).toInt = (1 : Int) := eq32.mp c9
                    refine ⟨by refine vin_of (by omega) ?_; unfold lenF at *; (repeat' split at *) <;> omega, ?_⟩
                    intro μ12 eμ12
                    first
                      | exact hb (by unfold okSet maxF; (repeat' split) <;> omega)
                      | (have g := hg (by unfold okSet maxF; (repeat' split) <;> omega) _ rfl
                         unfold toldF
                         unfold cellF at g
                         simp_all
                         done)
                      | (have g := hg (by unfold okSet maxF; (repeat' split) <;> omega) _ rfl
                         have q4 : a.toInt = 4 := by omega
                         unfold toldF
                         unfold cellF at g
                         simp_all
                         done)
                · have c8 : (a).toInt = (0 : Int) := eq32.mp c8
                  refine ⟨by refine vin_of (by omega) ?_; unfold lenF at *; (repeat' split at *) <;> omega, ?_⟩
                  intro μ13 eμ13
                  first
                    | exact hb (by unfold okSet maxF; (repeat' split) <;> omega)
                    | (have g := hg (by unfold okSet maxF; (repeat' split) <;> omega) _ rfl
                       unfold toldF
                       unfold cellF at g
                       simp_all
                       done)
                    | (have g := hg (by unfold okSet maxF; (repeat' split) <;> omega) _ rfl
                       have q4 : a.toInt = 4 := by omega
                       unfold toldF
                       unfold cellF at g
                       simp_all
                       done)
              · first
                  | exact hb (by unfold okSet maxF; (repeat' split) <;> omega)
                  | (have g := hg (by unfold okSet maxF; (repeat' split) <;> omega) _ rfl
                     unfold toldF
                     unfold cellF at g
                     simp_all
                     done)
                  | (have g := hg (by unfold okSet maxF; (repeat' split) <;> omega) _ rfl
                     have q4 : a.toInt = 4 := by omega
                     unfold toldF
                     unfold cellF at g
                     simp_all
                     done)
            · have c6 : (a).toInt = (3 : Int) := eq32.mp c6
              refine M_in_ok (A := (c).toInt) (B := (0 : Int)) (C := (9999 : Int)) (lI _) rfl rfl ⟨_, rfl, ?_⟩
              refine b_nz (fun c12 => ?_) (fun c12 => ?_)
              · refine M_told_ok hc hw ⟨_, rfl, ?_⟩
                refine ⟨fun c13 => ?_, fun c13 => ?_⟩
                · have c13 : ¬ (a).toInt = (0 : Int) := fun z => c13 (eq32.mpr z)
                  refine ⟨fun c14 => ?_, fun c14 => ?_⟩
                  · have c14 : ¬ (a).toInt = (1 : Int) := fun z => c14 (eq32.mpr z)
                    refine ⟨fun c15 => ?_, fun c15 => ?_⟩
                    · have c15 : ¬ (a).toInt = (2 : Int) := fun z => c15 (eq32.mpr z)
                      refine ⟨fun c16 => ?_, fun c16 => ?_⟩
                      · have c16 : ¬ (a).toInt = (3 : Int) := fun z => c16 (eq32.mpr z)
                        refine ⟨by refine vin_of (by omega) ?_; unfold lenF at *; (repeat' split at *) <;> omega, ?_⟩
                        intro μ18 eμ18
                        first
                          | exact hb (by unfold okSet maxF; (repeat' split) <;> omega)
                          | (have g := hg (by unfold okSet maxF; (repeat' split) <;> omega) _ rfl
                             unfold toldF
                             unfold cellF at g
                             simp_all
                             done)
                          | (have g := hg (by unfold okSet maxF; (repeat' split) <;> omega) _ rfl
                             have q4 : a.toInt = 4 := by omega
                             unfold toldF
                             unfold cellF at g
                             simp_all
                             done)
                      · have c16 : (a).toInt = (3 : Int) := eq32.mp c16
                        refine ⟨by refine vin_of (by omega) ?_; unfold lenF at *; (repeat' split at *) <;> omega, ?_⟩
                        intro μ19 eμ19
                        first
                          | exact hb (by unfold okSet maxF; (repeat' split) <;> omega)
                          | (have g := hg (by unfold okSet maxF; (repeat' split) <;> omega) _ rfl
                             unfold toldF
                             unfold cellF at g
                             simp_all
                             done)
                          | (have g := hg (by unfold okSet maxF; (repeat' split) <;> omega) _ rfl
                             have q4 : a.toInt = 4 := by omega
                             unfold toldF
                             unfold cellF at g
                             simp_all
                             done)
                    · have c15 : (a).toInt = (2 : Int) := eq32.mp c15
                      refine ⟨by refine vin_of (by omega) ?_; unfold lenF at *; (repeat' split at *) <;> omega, ?_⟩
                      intro μ20 eμ20
                      first
                        | exact hb (by unfold okSet maxF; (repeat' split) <;> omega)
                        | (have g := hg (by unfold okSet maxF; (repeat' split) <;> omega) _ rfl
                           unfold toldF
                           unfold cellF at g
                           simp_all
                           done)
                        | (have g := hg (by unfold okSet maxF; (repeat' split) <;> omega) _ rfl
                           have q4 : a.toInt = 4 := by omega
                           unfold toldF
                           unfold cellF at g
                           simp_all
                           done)
                  · have c14 : (a).toInt = (1 : Int) := eq32.mp c14
                    refine ⟨by refine vin_of (by omega) ?_; unfold lenF at *; (repeat' split at *) <;> omega, ?_⟩
                    intro μ21 eμ21
                    first
                      | exact hb (by unfold okSet maxF; (repeat' split) <;> omega)
                      | (have g := hg (by unfold okSet maxF; (repeat' split) <;> omega) _ rfl
                         unfold toldF
                         unfold cellF at g
                         simp_all
                         done)
                      | (have g := hg (by unfold okSet maxF; (repeat' split) <;> omega) _ rfl
                         have q4 : a.toInt = 4 := by omega
                         unfold toldF
                         unfold cellF at g
                         simp_all
                         done)
                · have c13 : (a).toInt = (0 : Int) := eq32.mp c13
                  refine ⟨by refine vin_of (by omega) ?_; unfold lenF at *; (repeat' split at *) <;> omega, ?_⟩
                  intro μ22 eμ22
                  first
                    | exact hb (by unfold okSet maxF; (repeat' split) <;> omega)
                    | (have g := hg (by unfold okSet maxF; (repeat' split) <;> omega) _ rfl
                       unfold toldF
                       unfold cellF at g
                       simp_all
                       done)
                    | (have g := hg (by unfold okSet maxF; (repeat' split) <;> omega) _ rfl
                       have q4 : a.toInt = 4 := by omega
                       unfold toldF
                       unfold cellF at g
                       simp_all
                       done)
              · first
                  | exact hb (by unfold okSet maxF; (repeat' split) <;> omega)
                  | (have g := hg (by unfold okSet maxF; (repeat' split) <;> omega) _ rfl
                     unfold toldF
                     unfold cellF at g
                     simp_all
                     done)
                  | (have g := hg (by unfold okSet maxF; (repeat' split) <;> omega) _ rfl
                     have q4 : a.toInt = 4 := by omega
                     unfold toldF
                     unfold cellF at g
                     simp_all
                     done)
          · have c5 : (a).toInt = (2 : Int) := eq32.mp c5
            refine M_in_ok (A := (c).toInt) (B := (0 : Int)) (C := (23 : Int)) (lI _) rfl rfl ⟨_, rfl, ?_⟩
            refine b_nz (fun c17 => ?_) (fun c17 => ?_)
            · refine M_told_ok hc hw ⟨_, rfl, ?_⟩
              refine ⟨fun c18 => ?_, fun c18 => ?_⟩
              · have c18 : ¬ (a).toInt = (0 : Int) := fun z => c18 (eq32.mpr z)
                refine ⟨fun c19 => ?_, fun c19 => ?_⟩
                · have c19 : ¬ (a).toInt = (1 : Int) := fun z => c19 (eq32.mpr z)
                  refine ⟨fun c20 => ?_, fun c20 => ?_⟩
                  · have c20 : ¬ (a).toInt = (2 : Int) := fun z => c20 (eq32.mpr z)
                    refine ⟨fun c21 => ?_, fun c21 => ?_⟩
                    · have c21 : ¬ (a).toInt = (3 : Int) := fun z => c21 (eq32.mpr z)
                      refine ⟨by refine vin_of (by omega) ?_; unfold lenF at *; (repeat' split at *) <;> omega, ?_⟩
                      intro μ27 eμ27
                      first
                        | exact hb (by unfold okSet maxF; (repeat' split) <;> omega)
                        | (have g := hg (by unfold okSet maxF; (repeat' split) <;> omega) _ rfl
                           unfold toldF
                           unfold cellF at g
                           simp_all
                           done)
                        | (have g := hg (by unfold okSet maxF; (repeat' split) <;> omega) _ rfl
                           have q4 : a.toInt = 4 := by omega
                           unfold toldF
                           unfold cellF at g
                           simp_all
                           done)
                    · have c21 : (a).toInt = (3 : Int) := eq32.mp c21
                      refine ⟨by refine vin_of (by omega) ?_; unfold lenF at *; (repeat' split at *) <;> omega, ?_⟩
                      intro μ28 eμ28
                      first
                        | exact hb (by unfold okSet maxF; (repeat' split) <;> omega)
                        | (have g := hg (by unfold okSet maxF; (repeat' split) <;> omega) _ rfl
                           unfold toldF
                           unfold cellF at g
                           simp_all
                           done)
                        | (have g := hg (by unfold okSet maxF; (repeat' split) <;> omega) _ rfl
                           have q4 : a.toInt = 4 := by omega
                           unfold toldF
                           unfold cellF at g
                           simp_all
                           done)
                  · have c20 : (a).toInt = (2 : Int) := eq32.mp c20
                    refine ⟨by refine vin_of (by omega) ?_; unfold lenF at *; (repeat' split at *) <;> omega, ?_⟩
                    intro μ29 eμ29
                    first
                      | exact hb (by unfold okSet maxF; (repeat' split) <;> omega)
                      | (have g := hg (by unfold okSet maxF; (repeat' split) <;> omega) _ rfl
                         unfold toldF
                         unfold cellF at g
                         simp_all
                         done)
                      | (have g := hg (by unfold okSet maxF; (repeat' split) <;> omega) _ rfl
                         have q4 : a.toInt = 4 := by omega
                         unfold toldF
                         unfold cellF at g
                         simp_all
                         done)
                · have c19 : (a).toInt = (1 : Int) := eq32.mp c19
                  refine ⟨by refine vin_of (by omega) ?_; unfold lenF at *; (repeat' split at *) <;> omega, ?_⟩
                  intro μ30 eμ30
                  first
                    | exact hb (by unfold okSet maxF; (repeat' split) <;> omega)
                    | (have g := hg (by unfold okSet maxF; (repeat' split) <;> omega) _ rfl
                       unfold toldF
                       unfold cellF at g
                       simp_all
                       done)
                    | (have g := hg (by unfold okSet maxF; (repeat' split) <;> omega) _ rfl
                       have q4 : a.toInt = 4 := by omega
                       unfold toldF
                       unfold cellF at g
                       simp_all
                       done)
              · have c18 : (a).toInt = (0 : Int) := eq32.mp c18
                refine ⟨by refine vin_of (by omega) ?_; unfold lenF at *; (repeat' split at *) <;> omega, ?_⟩
                intro μ31 eμ31
                first
                  | exact hb (by unfold okSet maxF; (repeat' split) <;> omega)
                  | (have g := hg (by unfold okSet maxF; (repeat' split) <;> omega) _ rfl
                     unfold toldF
                     unfold cellF at g
                     simp_all
                     done)
                  | (have g := hg (by unfold okSet maxF; (repeat' split) <;> omega) _ rfl
                     have q4 : a.toInt = 4 := by omega
                     unfold toldF
                     unfold cellF at g
                     simp_all
                     done)
            · first
                | exact hb (by unfold okSet maxF; (repeat' split) <;> omega)
                | (have g := hg (by unfold okSet maxF; (repeat' split) <;> omega) _ rfl
                   unfold toldF
                   unfold cellF at g
                   simp_all
                   done)
                | (have g := hg (by unfold okSet maxF; (repeat' split) <;> omega) _ rfl
                   have q4 : a.toInt = 4 := by omega
                   unfold toldF
                   unfold cellF at g
                   simp_all
                   done)
        · have c4 : (a).toInt = (1 : Int) := eq32.mp c4
          refine M_in_ok (A := (c).toInt) (B := (0 : Int)) (C := (3 : Int)) (lI _) rfl rfl ⟨_, rfl, ?_⟩
          refine b_nz (fun c22 => ?_) (fun c22 => ?_)
          · refine M_told_ok hc hw ⟨_, rfl, ?_⟩
            refine ⟨fun c23 => ?_, fun c23 => ?_⟩
            · have c23 : ¬ (a).toInt = (0 : Int) := fun z => c23 (eq32.mpr z)
              refine ⟨fun c24 => ?_, fun c24 => ?_⟩
              · have c24 : ¬ (a).toInt = (1 : Int) := fun z => c24 (eq32.mpr z)
                refine ⟨fun c25 => ?_, fun c25 => ?_⟩
                · have c25 : ¬ (a).toInt = (2 : Int) := fun z => c25 (eq32.mpr z)
                  refine ⟨fun c26 => ?_, fun c26 => ?_⟩
                  · have c26 : ¬ (a).toInt = (3 : Int) := fun z => c26 (eq32.mpr z)
                    refine ⟨by refine vin_of (by omega) ?_; unfold lenF at *; (repeat' split at *) <;> omega, ?_⟩
                    intro μ36 eμ36
                    first
                      | exact hb (by unfold okSet maxF; (repeat' split) <;> omega)
                      | (have g := hg (by unfold okSet maxF; (repeat' split) <;> omega) _ rfl
                         unfold toldF
                         unfold cellF at g
                         simp_all
                         done)
                      | (have g := hg (by unfold okSet maxF; (repeat' split) <;> omega) _ rfl
                         have q4 : a.toInt = 4 := by omega
                         unfold toldF
                         unfold cellF at g
                         simp_all
                         done)
                  · have c26 : (a).toInt = (3 : Int) := eq32.mp c26
                    refine ⟨by refine vin_of (by omega) ?_; unfold lenF at *; (repeat' split at *) <;> omega, ?_⟩
                    intro μ37 eμ37
                    first
                      | exact hb (by unfold okSet maxF; (repeat' split) <;> omega)
                      | (have g := hg (by unfold okSet maxF; (repeat' split) <;> omega) _ rfl
                         unfold toldF
                         unfold cellF at g
                         simp_all
                         done)
                      | (have g := hg (by unfold okSet maxF; (repeat' split) <;> omega) _ rfl
                         have q4 : a.toInt = 4 := by omega
                         unfold toldF
                         unfold cellF at g
                         simp_all
                         done)
                · have c25 : (a).toInt = (2 : Int) := eq32.mp c25
                  refine ⟨by refine vin_of (by omega) ?_; unfold lenF at *; (repeat' split at *) <;> omega, ?_⟩
                  intro μ38 eμ38
                  first
                    | exact hb (by unfold okSet maxF; (repeat' split) <;> omega)
                    | (have g := hg (by unfold okSet maxF; (repeat' split) <;> omega) _ rfl
                       unfold toldF
                       unfold cellF at g
                       simp_all
                       done)
                    | (have g := hg (by unfold okSet maxF; (repeat' split) <;> omega) _ rfl
                       have q4 : a.toInt = 4 := by omega
                       unfold toldF
                       unfold cellF at g
                       simp_all
                       done)
              · have c24 : (a).toInt = (1 : Int) := eq32.mp c24
                refine ⟨by refine vin_of (by omega) ?_; unfold lenF at *; (repeat' split at *) <;> omega, ?_⟩
                intro μ39 eμ39
                first
                  | exact hb (by unfold okSet maxF; (repeat' split) <;> omega)
                  | (have g := hg (by unfold okSet maxF; (repeat' split) <;> omega) _ rfl
                     unfold toldF
                     unfold cellF at g
                     simp_all
                     done)
                  | (have g := hg (by unfold okSet maxF; (repeat' split) <;> omega) _ rfl
                     have q4 : a.toInt = 4 := by omega
                     unfold toldF
                     unfold cellF at g
                     simp_all
                     done)
            · have c23 : (a).toInt = (0 : Int) := eq32.mp c23
              refine ⟨by refine vin_of (by omega) ?_; unfold lenF at *; (repeat' split at *) <;> omega, ?_⟩
              intro μ40 eμ40
              first
                | exact hb (by unfold okSet maxF; (repeat' split) <;> omega)
                | (have g := hg (by unfold okSet maxF; (repeat' split) <;> omega) _ rfl
                   unfold toldF
                   unfold cellF at g
                   simp_all
                   done)
                | (have g := hg (by unfold okSet maxF; (repeat' split) <;> omega) _ rfl
                   have q4 : a.toInt = 4 := by omega
                   unfold toldF
                   unfold cellF at g
                   simp_all
                   done)
          · first
              | exact hb (by unfold okSet maxF; (repeat' split) <;> omega)
              | (have g := hg (by unfold okSet maxF; (repeat' split) <;> omega) _ rfl
                 unfold toldF
                 unfold cellF at g
                 simp_all
                 done)
              | (have g := hg (by unfold okSet maxF; (repeat' split) <;> omega) _ rfl
                 have q4 : a.toInt = 4 := by omega
                 unfold toldF
                 unfold cellF at g
                 simp_all
                 done)
      · have c3 : (a).toInt = (0 : Int) := eq32.mp c3
        refine M_in_ok (A := (c).toInt) (B := (0 : Int)) (C := (999 : Int)) (lI _) rfl rfl ⟨_, rfl, ?_⟩
        refine b_nz (fun c27 => ?_) (fun c27 => ?_)
        · refine M_told_ok hc hw ⟨_, rfl, ?_⟩
          refine ⟨fun c28 => ?_, fun c28 => ?_⟩
          · have c28 : ¬ (a).toInt = (0 : Int) := fun z => c28 (eq32.mpr z)
            refine ⟨fun c29 => ?_, fun c29 => ?_⟩
            · have c29 : ¬ (a).toInt = (1 : Int) := fun z => c29 (eq32.mpr z)
              refine ⟨fun c30 => ?_, fun c30 => ?_⟩
              · have c30 : ¬ (a).toInt = (2 : Int) := fun z => c30 (eq32.mpr z)
                refine ⟨fun c31 => ?_, fun c31 => ?_⟩
                · have c31 : ¬ (a).toInt = (3 : Int) := fun z => c31 (eq32.mpr z)
                  refine ⟨by refine vin_of (by omega) ?_; unfold lenF at *; (repeat' split at *) <;> omega, ?_⟩
                  intro μ45 eμ45
                  first
                    | exact hb (by unfold okSet maxF; (repeat' split) <;> omega)
                    | (have g := hg (by unfold okSet maxF; (repeat' split) <;> omega) _ rfl
                       unfold toldF
                       unfold cellF at g
                       simp_all
                       done)
                    | (have g := hg (by unfold okSet maxF; (repeat' split) <;> omega) _ rfl
                       have q4 : a.toInt = 4 := by omega
                       unfold toldF
                       unfold cellF at g
                       simp_all
                       done)
                · have c31 : (a).toInt = (3 : Int) := eq32.mp c31
                  refine ⟨by refine vin_of (by omega) ?_; unfold lenF at *; (repeat' split at *) <;> omega, ?_⟩
                  intro μ46 eμ46
                  first
                    | exact hb (by unfold okSet maxF; (repeat' split) <;> omega)
                    | (have g := hg (by unfold okSet maxF; (repeat' split) <;> omega) _ rfl
                       unfold toldF
                       unfold cellF at g
                       simp_all
                       done)
                    | (have g := hg (by unfold okSet maxF; (repeat' split) <;> omega) _ rfl
                       have q4 : a.toInt = 4 := by omega
                       unfold toldF
                       unfold cellF at g
                       simp_all
                       done)
              · have c30 : (a).toInt = (2 : Int) := eq32.mp c30
                refine ⟨by refine vin_of (by omega) ?_; unfold lenF at *; (repeat' split at *) <;> omega, ?_⟩
                intro μ47 eμ47
                first
                  | exact hb (by unfold okSet maxF; (repeat' split) <;> omega)
                  | (have g := hg (by unfold okSet maxF; (repeat' split) <;> omega) _ rfl
                     unfold toldF
                     unfold cellF at g
                     simp_all
                     done)
                  | (have g := hg (by unfold okSet maxF; (repeat' split) <;> omega) _ rfl
                     have q4 : a.toInt = 4 := by omega
                     unfold toldF
                     unfold cellF at g
                     simp_all
                     done)
            · have c29 : (a).toInt = (1 : Int) := eq32.mp c29
              refine ⟨by refine vin_of (by omega) ?_; unfold lenF at *; (repeat' split at *) <;> omega, ?_⟩
              intro μ48 eμ48
              first
                | exact hb (by unfold okSet maxF; (repeat' split) <;> omega)
                | (have g := hg (by unfold okSet maxF; (repeat' split) <;> omega) _ rfl
                   unfold toldF
                   unfold cellF at g
                   simp_all
                   done)
                | (have g := hg (by unfold okSet maxF; (repeat' split) <;> omega) _ rfl
                   have q4 : a.toInt = 4 := by omega
                   unfold toldF
                   unfold cellF at g
                   simp_all
                   done)
          · have c28 : (a).toInt = (0 : Int) := eq32.mp c28
            refine ⟨by refine vin_of (by omega) ?_; unfold lenF at *; (repeat' split at *) <;> omega, ?_⟩
            intro μ49 eμ49
            first
              | exact hb (by unfold okSet maxF; (repeat' split) <;> omega)
              | (have g := hg (by unfold okSet maxF; (repeat' split) <;> omega) _ rfl
                 unfold toldF
                 unfold cellF at g
                 simp_all
                 done)
              | (have g := hg (by unfold okSet maxF; (repeat' split) <;> omega) _ rfl
                 have q4 : a.toInt = 4 := by omega
                 unfold toldF
                 unfold cellF at g
                 simp_all
                 done)
        · first
            | exact hb (by unfold okSet maxF; (repeat' split) <;> omega)
            | (have g := hg (by unfold okSet maxF; (repeat' split) <;> omega) _ rfl
               unfold toldF
               unfold cellF at g
               simp_all
               done)
            | (have g := hg (by unfold okSet maxF; (repeat' split) <;> omega) _ rfl
               have q4 : a.toInt = 4 := by omega
               unfold toldF
               unfold cellF at g
               simp_all
               done)
def okWr (a b c : Int32) : Prop := 0 ≤ a.toInt ∧ a.toInt ≤ 3 ∧ 0 ≤ b.toInt ∧ b.toInt ≤ 23 ∧ 0 ≤ c.toInt ∧ c.toInt ≤ 9999
theorem M_writer_ok {d : Nat} {Q : QQ} {μ : Mem} {a b c : Int32} (h : rng (μ.1 0 14) 0 5) (hb : ¬ okWr a b c → Q (.int (-2)) μ) (hf : okWr a b c → (μ.1 0 14).toInt = 5 → Q (.int (-4)) μ)
    (hg : okWr a b c → (μ.1 0 14).toInt < 5 → ∀ μ', Only [0, 7, 8, 9] μ μ' → μ'.1 7 = upd (μ.1 7) (μ.1 0 14).toNatClampNeg a → μ'.1 8 = upd (μ.1 8) (μ.1 0 14).toNatClampNeg b → μ'.1 9 = upd (μ.1 9) (μ.1 0 14).toNatClampNeg c → μ'.1 0 = upd (μ.1 0) 14 (μ.1 0 14 + 1) → Q (.int (μ.1 0 14)) μ') : Call (d + 2) y_M_writer [.ref 0, .int a, .int b, .int c] μ Q := by
  obtain ⟨h1, h2⟩ := h
  have hi : (μ.1 0 14).toInt < 5 → vp_in (μ.1 0 14) 5 := fun z => vin_of h1 z
  refine b_M_writer_0 ?_
  refine M_in_ok (A := (a).toInt) (B := (0 : Int)) (C := (3 : Int)) (lI _) rfl rfl ⟨_, rfl, ?_⟩
  refine b_z (fun c1 => ?_) (fun c1 => ?_)
  · first
      | exact hb (by unfold okWr; omega)
      | exact hf (by unfold okWr; omega) (by omega)
      | (refine Qi (hg (by unfold okWr; omega) (by omega) _ ?_ ?_ ?_ ?_ ?_) ?_ <;> subst_vars
         all_goals first | (intro k hk; simp at hk; simp [wI, hk]; done) | simp [wI, upd])
  · refine M_in_ok (A := (b).toInt) (B := (0 : Int)) (C := (23 : Int)) (lI _) rfl rfl ⟨_, rfl, ?_⟩
    refine b_z (fun c2 => ?_) (fun c2 => ?_)
    · first
        | exact hb (by unfold okWr; omega)
        | exact hf (by unfold okWr; omega) (by omega)
        | (refine Qi (hg (by unfold okWr; omega) (by omega) _ ?_ ?_ ?_ ?_ ?_) ?_ <;> subst_vars
           all_goals first | (intro k hk; simp at hk; simp [wI, hk]; done) | simp [wI, upd])
    · refine M_in_ok (A := (c).toInt) (B := (0 : Int)) (C := (9999 : Int)) (lI _) rfl rfl ⟨_, rfl, ?_⟩
      refine b_nz (fun c3 => ?_) (fun c3 => ?_)
      · refine ⟨fun c4 => ?_, fun c4 => ?_⟩
        · have c4 : ¬ ((μ.1 0 14)).toInt = (5 : Int) := fun z => c4 (eq32.mpr z)
          refine ⟨by first | exact hi (by omega) | (subst_vars; simp [wI]; exact hi (by omega)), ?_⟩
          intro μ7 eμ7
          refine ⟨by first | exact hi (by omega) | (subst_vars; simp [wI]; exact hi (by omega)), ?_⟩
          intro μ8 eμ8
          refine ⟨by first | exact hi (by omega) | (subst_vars; simp [wI]; exact hi (by omega)), ?_⟩
          intro μ9 eμ9
          intro μ10 eμ10
          first
            | exact hb (by unfold okWr; omega)
            | exact hf (by unfold okWr; omega) (by omega)
            | (refine Qi (hg (by unfold okWr; omega) (by omega) _ ?_ ?_ ?_ ?_ ?_) ?_ <;> subst_vars
               all_goals first | (intro k hk; simp at hk; simp [wI, hk]; done) | simp [wI, upd])
        · have c4 : ((μ.1 0 14)).toInt = (5 : Int) := eq32.mp c4
          first
            | exact hb (by unfold okWr; omega)
            | exact hf (by unfold okWr; omega) (by omega)
            | (refine Qi (hg (by unfold okWr; omega) (by omega) _ ?_ ?_ ?_ ?_ ?_) ?_ <;> subst_vars
               all_goals first | (intro k hk; simp at hk; simp [wI, hk]; done) | simp [wI, upd])
      · first
          | exact hb (by unfold okWr; omega)
          | exact hf (by unfold okWr; omega) (by omega)
          | (refine Qi (hg (by unfold okWr; omega) (by omega) _ ?_ ?_ ?_ ?_ ?_) ?_ <;> subst_vars
             all_goals first | (intro k hk; simp at hk; simp [wI, hk]; done) | simp [wI, upd])
def okLw (a b : Int32) : Prop := 0 ≤ a.toInt ∧ a.toInt ≤ 5 ∧ 0 ≤ b.toInt ∧ b.toInt ≤ 9
theorem M_law_ok {d : Nat} {Q : QQ} {μ : Mem} {a b : Int32} (h : rng (μ.1 0 17) 1 6) (hb : ¬ okLw a b → Q (.int (-2)) μ) (hf : okLw a b → (μ.1 0 17).toInt = 6 → Q (.int (-4)) μ)
    (hg : okLw a b → (μ.1 0 17).toInt < 6 → ∀ μ', Only [0, 10, 11] μ μ' → μ'.1 10 = upd (μ.1 10) (μ.1 0 17).toNatClampNeg a → μ'.1 11 = upd (μ.1 11) (μ.1 0 17).toNatClampNeg b → μ'.1 0 = upd (μ.1 0) 17 (μ.1 0 17 + 1) → Q (.int (μ.1 0 17)) μ') : Call (d + 2) y_M_law [.ref 0, .int a, .int b] μ Q := by
  obtain ⟨h1, h2⟩ := h
  have hi : (μ.1 0 17).toInt < 6 → vp_in (μ.1 0 17) 6 := fun z => vin_of (by omega) z
  refine b_M_law_0 ?_
  refine M_in_ok (A := (a).toInt) (B := (0 : Int)) (C := (5 : Int)) (lI _) rfl rfl ⟨_, rfl, ?_⟩
  refine b_z (fun c1 => ?_) (fun c1 => ?_)
  · first
      | exact hb (by unfold okLw; omega)
      | exact hf (by unfold okLw; omega) (by omega)
      | (refine Qi (hg (by unfold okLw; omega) (by omega) _ ?_ ?_ ?_ ?_) ?_ <;> subst_vars
         all_goals first | (intro k hk; simp at hk; simp [wI, hk]; done) | simp [wI, upd])
  · refine M_in_ok (A := (b).toInt) (B := (0 : Int)) (C := (9 : Int)) (lI _) rfl rfl ⟨_, rfl, ?_⟩
    refine b_nz (fun c2 => ?_) (fun c2 => ?_)
    · refine ⟨fun c3 => ?_, fun c3 => ?_⟩
      · have c3 : ¬ ((μ.1 0 17)).toInt = (6 : Int) := fun z => c3 (eq32.mpr z)
        refine ⟨by first | exact hi (by omega) | (subst_vars; simp [wI]; exact hi (by omega)), ?_⟩
        intro μ5 eμ5
        refine ⟨by first | exact hi (by omega) | (subst_vars; simp [wI]; exact hi (by omega)), ?_⟩
        intro μ6 eμ6
        intro μ7 eμ7
        first
          | exact hb (by unfold okLw; omega)
          | exact hf (by unfold okLw; omega) (by omega)
          | (refine Qi (hg (by unfold okLw; omega) (by omega) _ ?_ ?_ ?_ ?_) ?_ <;> subst_vars
             all_goals first | (intro k hk; simp at hk; simp [wI, hk]; done) | simp [wI, upd])
      · have c3 : ((μ.1 0 17)).toInt = (6 : Int) := eq32.mp c3
        first
          | exact hb (by unfold okLw; omega)
          | exact hf (by unfold okLw; omega) (by omega)
          | (refine Qi (hg (by unfold okLw; omega) (by omega) _ ?_ ?_ ?_ ?_) ?_ <;> subst_vars
             all_goals first | (intro k hk; simp at hk; simp [wI, hk]; done) | simp [wI, upd])
    · first
        | exact hb (by unfold okLw; omega)
        | exact hf (by unfold okLw; omega) (by omega)
        | (refine Qi (hg (by unfold okLw; omega) (by omega) _ ?_ ?_ ?_ ?_) ?_ <;> subst_vars
           all_goals first | (intro k hk; simp at hk; simp [wI, hk]; done) | simp [wI, upd])
theorem M_rule_ok {d : Nat} {Q : QQ} {μ : Mem} {a : Int32} (h : cntM μ) (hb : ¬ (0 ≤ a.toInt ∧ a.toInt < (μ.1 0 17).toInt) → Q (.int (-2)) μ) (hg : 0 ≤ a.toInt ∧ a.toInt < (μ.1 0 17).toInt → ∀ μ', Only [0] μ μ' → μ'.1 0 = upd (μ.1 0) 18 a → Q (.int (μ.1 0 18)) μ') : Call (d + 3) y_M_rule [.ref 0, .int a] μ Q := by
  obtain ⟨h1, h2, h3, -⟩ := h
  refine b_M_rule_0 ?_
  refine M_isLaw_ok h3 ⟨_, rfl, ?_⟩
  refine b_nz (fun c1 => ?_) (fun c1 => ?_)
  · intro μ3 eμ3
    first
      | exact hb (by omega)
      | (refine hg (by omega) _ ?_ ?_ <;> subst_vars
         all_goals first | (intro k hk; simp at hk; simp [wI, hk]; done) | simp [wI, upd])
  · first
      | exact hb (by omega)
      | (refine hg (by omega) _ ?_ ?_ <;> subst_vars
         all_goals first | (intro k hk; simp at hk; simp [wI, hk]; done) | simp [wI, upd])
theorem M_feed_ok {d : Nat} {Q : QQ} {μ : Mem} {a : Int32} (h : rng (μ.1 0 6) 0 160) (hb : ¬ (0 ≤ a.toInt ∧ a.toInt ≤ 255) → Q (.int (-2)) μ) (hf : 0 ≤ a.toInt ∧ a.toInt ≤ 255 → (μ.1 0 6).toInt = 160 → Q (.int (-4)) μ)
    (hg : 0 ≤ a.toInt ∧ a.toInt ≤ 255 → (μ.1 0 6).toInt < 160 → ∀ μ', Only [0, 3] μ μ' → μ'.1 3 = upd (μ.1 3) (μ.1 0 6).toNatClampNeg a → μ'.1 0 = upd (μ.1 0) 6 (μ.1 0 6 + 1) → Q (.int (μ.1 0 6 + 1)) μ') : Call (d + 2) y_M_feed [.ref 0, .int a] μ Q := by
  obtain ⟨h1, h2⟩ := h
  have hi : (μ.1 0 6).toInt < 160 → vp_in (μ.1 0 6) 160 := fun z => vin_of (by omega) z
  refine b_M_feed_0 ?_
  refine M_in_ok (A := (a).toInt) (B := (0 : Int)) (C := (255 : Int)) (lI _) rfl rfl ⟨_, rfl, ?_⟩
  refine b_nz (fun c1 => ?_) (fun c1 => ?_)
  · refine ⟨fun c2 => ?_, fun c2 => ?_⟩
    · have c2 : ¬ ((μ.1 0 6)).toInt = (160 : Int) := fun z => c2 (eq32.mpr z)
      refine ⟨by first | exact hi (by omega) | (subst_vars; simp [wI]; exact hi (by omega)), ?_⟩
      intro μ3 eμ3
      intro μ4 eμ4
      first
        | exact hb (by omega)
        | exact hf (by omega) (by omega)
        | (refine Qi (hg (by omega) (by omega) _ ?_ ?_ ?_) ?_ <;> subst_vars
           all_goals first | (intro k hk; simp at hk; simp [wI, hk]; done) | simp [wI, upd])
    · have c2 : ((μ.1 0 6)).toInt = (160 : Int) := eq32.mp c2
      first
        | exact hb (by omega)
        | exact hf (by omega) (by omega)
        | (refine Qi (hg (by omega) (by omega) _ ?_ ?_ ?_) ?_ <;> subst_vars
           all_goals first | (intro k hk; simp at hk; simp [wI, hk]; done) | simp [wI, upd])
  · first
      | exact hb (by omega)
      | exact hf (by omega) (by omega)
      | (refine Qi (hg (by omega) (by omega) _ ?_ ?_ ?_) ?_ <;> subst_vars
         all_goals first | (intro k hk; simp at hk; simp [wI, hk]; done) | simp [wI, upd])
theorem M_force_ok {d : Nat} {Q : QQ} {μ : Mem} {a : Int32} (h : rng (μ.1 0 3) 1 6) (hb : ¬ (0 ≤ a.toInt ∧ a.toInt < (μ.1 0 3).toInt) → Q (.int (-2)) μ) (hg : 0 ≤ a.toInt ∧ a.toInt < (μ.1 0 3).toInt → ∀ μ', Only [0] μ μ' → μ'.1 0 = upd (μ.1 0) 4 a → Q (.int (μ.1 0 4)) μ') : Call (d + 2) y_M_force [.ref 0, .int a] μ Q := by
  obtain ⟨h1, h2⟩ := h
  have e1 : ((μ.1 0 3) - 1).toInt = (μ.1 0 3).toInt - 1 := sub32 (by show _ ≤ _ - 1; omega) (by show _ - 1 < _; omega)
  refine b_M_force_0 ?_
  refine M_in_ok (A := (a).toInt) (B := (0 : Int)) (C := (((μ.1 0 3) - 1)).toInt) (lI _) rfl (lI _) ⟨_, rfl, ?_⟩
  refine b_nz (fun c1 => ?_) (fun c1 => ?_)
  · intro μ3 eμ3
    first
      | exact hb (by omega)
      | (refine hg (by omega) _ ?_ ?_ <;> subst_vars
         all_goals first | (intro k hk; simp at hk; simp [wI, hk]; done) | simp [wI, upd])
  · first
      | exact hb (by omega)
      | (refine hg (by omega) _ ?_ ?_ <;> subst_vars
         all_goals first | (intro k hk; simp at hk; simp [wI, hk]; done) | simp [wI, upd])
end
section
/-! ===== the reference: words, sheets, laws taken ===== -/
def okD (n : Nat) : Prop := ∀ x ∈ digs n, 1 ≤ x ∧ x ≤ 8
def okWd (a b : Int32) : Prop := 0 ≤ a.toInt ∧ a.toInt ≤ 3 ∧ 1 ≤ b.toInt ∧ b.toInt ≤ 888888 ∧ okD b.toInt.toNat
theorem okD_0 : okD 0 := by intro x hx; rw [digs_0] at hx; cases hx
theorem okD_s {n : Nat} (h : n ≠ 0) : okD n ↔ (1 ≤ n % 10 ∧ n % 10 ≤ 8) ∧ okD (n / 10) := by
  unfold okD
  rw [digs_s h]
  constructor
  · intro q
    exact ⟨q (n % 10) (by simp), fun x hx => q x (by simp [hx])⟩
  · intro q x hx
    rcases List.mem_append.mp hx with hx | hx
    · exact q.2 x hx
    · have : x = n % 10 := by simpa using hx
      rw [this]
      exact q.1
theorem M_word_ok {d : Nat} {Q : QQ} {μ : Mem} {a b : Int32} (h : rng (μ.1 0 10) 0 10) (hb : ¬ okWd a b → Q (.int (-2)) μ) (hf : okWd a b → (μ.1 0 10).toInt = 10 → Q (.int (-4)) μ)
    (hg : okWd a b → (μ.1 0 10).toInt < 10 → ∀ μ', Only [0, 5, 6] μ μ' → μ'.1 5 = upd (μ.1 5) (μ.1 0 10).toNatClampNeg a → μ'.1 6 = upd (μ.1 6) (μ.1 0 10).toNatClampNeg b → μ'.1 0 = upd (μ.1 0) 10 (μ.1 0 10 + 1) → Q (.int (μ.1 0 10)) μ') : Call (d + 2) y_M_word [.ref 0, .int a, .int b] μ Q := by
  obtain ⟨h1, h2⟩ := h
  have hi : (μ.1 0 10).toInt < 10 → vp_in (μ.1 0 10) 10 := fun z => vin_of (by omega) z
  have key : 0 ≤ a.toInt ∧ a.toInt ≤ 3 → 1 ≤ b.toInt ∧ b.toInt ≤ 888888 → ∀ (n : Nat), n < 2147483648 → (okD n ↔ okD b.toInt.toNat) → AA (Call (d + 1)) y_M_word Q 16 [.ref 0, .int a, .int b, .int (nI n)] [] μ := by
    intro ha hbb n
    induction n using Nat.strongRecOn with
    | _ n ih =>
      intro hn hd
      have e := nI_i (n := n) hn
      refine b_M_word_16 ?_
      refine ⟨fun c1 => ?_, fun c1 => ?_⟩
      · have c1 : ((nI n)).toInt ≤ (0 : Int) := le32.mp c1
        refine ⟨fun c2 => ?_, fun c2 => ?_⟩
        · have c2 : ¬ ((μ.1 0 10)).toInt = (10 : Int) := fun z => c2 (eq32.mpr z)
          refine ⟨by first | exact hi (by omega) | (subst_vars; simp [wI]; exact hi (by omega)), ?_⟩
          intro μ1 eμ1
          refine ⟨by first | exact hi (by omega) | (subst_vars; simp [wI]; exact hi (by omega)), ?_⟩
          intro μ2 eμ2
          intro μ3 eμ3
          first
            | (have hok : okWd a b := ⟨ha.1, ha.2, hbb.1, hbb.2, hd.mp (by rw [show n = 0 by omega]; exact okD_0)⟩
               first
               | exact hf hok (by omega)
               | (refine Qi (hg hok (by omega) _ ?_ ?_ ?_ ?_) ?_ <;> subst_vars
                  all_goals first | (intro k hk; simp at hk; simp [wI, hk]; done) | simp [wI, upd]))
            | (rw [nI_mod10 hn, nI_i (by omega)] at c3
               exact hb (fun z => c3 (by have := ((okD_s (n := n) (by omega)).mp (hd.mpr z.2.2.2.2)).1; omega)))
        · have c2 : ((μ.1 0 10)).toInt = (10 : Int) := eq32.mp c2
          first
            | (have hok : okWd a b := ⟨ha.1, ha.2, hbb.1, hbb.2, hd.mp (by rw [show n = 0 by omega]; exact okD_0)⟩
               first
               | exact hf hok (by omega)
               | (refine Qi (hg hok (by omega) _ ?_ ?_ ?_ ?_) ?_ <;> subst_vars
                  all_goals first | (intro k hk; simp at hk; simp [wI, hk]; done) | simp [wI, upd]))
            | (rw [nI_mod10 hn, nI_i (by omega)] at c3
               exact hb (fun z => c3 (by have := ((okD_s (n := n) (by omega)).mp (hd.mpr z.2.2.2.2)).1; omega)))
      · have c1 : ¬ ((nI n)).toInt ≤ (0 : Int) := fun z => c1 (le32.mpr z)
        refine ⟨by decide, ?_⟩
        refine M_in_ok (A := (((nI n) - (nI n) / 10 * 10)).toInt) (B := (1 : Int)) (C := (8 : Int)) (lI _) rfl rfl ⟨_, rfl, ?_⟩
        refine b_nz (fun c3 => ?_) (fun c3 => ?_)
        · refine ⟨by decide, ?_⟩
          rw [nI_mod10 hn, nI_i (by omega)] at c3
          rw [nI_div10 hn]
          exact ih (n / 10) (by omega) (by omega) (by rw [← hd, okD_s (n := n) (by omega)]; exact ⟨fun z => ⟨by omega, z⟩, fun z => z.2⟩)
        · first
            | (have hok : okWd a b := ⟨ha.1, ha.2, hbb.1, hbb.2, hd.mp (by rw [show n = 0 by omega]; exact okD_0)⟩
               first
               | exact hf hok (by omega)
               | (refine Qi (hg hok (by omega) _ ?_ ?_ ?_ ?_) ?_ <;> subst_vars
                  all_goals first | (intro k hk; simp at hk; simp [wI, hk]; done) | simp [wI, upd]))
            | (rw [nI_mod10 hn, nI_i (by omega)] at c3
               exact hb (fun z => c3 (by have := ((okD_s (n := n) (by omega)).mp (hd.mpr z.2.2.2.2)).1; omega)))
  refine b_M_word_0 ?_
  refine M_in_ok (A := (a).toInt) (B := (0 : Int)) (C := (3 : Int)) (lI _) rfl rfl ⟨_, rfl, ?_⟩
  refine b_z (fun c1 => ?_) (fun c1 => ?_)
  · exact hb (by unfold okWd; omega)
  · refine M_in_ok (A := (b).toInt) (B := (1 : Int)) (C := (888888 : Int)) (lI _) rfl rfl ⟨_, rfl, ?_⟩
    refine b_nz (fun c2 => ?_) (fun c2 => ?_)
    · obtain ⟨n, hn, e1, e2⟩ := nI_ex (x := b) (by omega)
      have k := key c1 c2 n hn (by rw [e2]; simp)
      rw [← e1] at k
      exact k
    · exact hb (by unfold okWd; omega)
theorem M_count_ok {d : Nat} {Q : QQ} {μ : Mem} {a : Int32} (hb : ¬ (0 ≤ a.toInt ∧ a.toInt ≤ 7) → Q (.int (-2)) μ) (h7 : a.toInt = 7 → ∀ μ', Only [14] μ μ' → Q (.int (sum8 (μ.1 4) 8)) μ')
    (hg : 0 ≤ a.toInt ∧ a.toInt ≤ 6 → Q (.int (if a.toInt = 0 then μ.1 0 10 else if a.toInt = 1 then μ.1 0 14 else if a.toInt = 2 then μ.1 0 17 else if a.toInt = 3 then μ.1 0 18 else if a.toInt = 4 then μ.1 0 3 else if a.toInt = 5 then μ.1 0 6 else μ.1 0 4)) μ) : Call (d + 2) y_M_count [.ref 0, .int a] μ Q := by
  have hs : ∀ μ' : Mem, (∀ j, j < 8 → μ'.1 14 j = μ.1 4 j) → sum8 (μ'.1 14) 8 = sum8 (μ.1 4) 8 := by
    intro μ' h
    simp only [sum8, h 0 (by omega), h 1 (by omega), h 2 (by omega), h 3 (by omega), h 4 (by omega), h 5 (by omega), h 6 (by omega), h 7 (by omega)]
  refine b_M_count_0 ?_
  refine M_in_ok (A := (a).toInt) (B := (0 : Int)) (C := (7 : Int)) (lI _) rfl rfl ⟨_, rfl, ?_⟩
  refine b_nz (fun c1 => ?_) (fun c1 => ?_)
  · refine ⟨fun c2 => ?_, fun c2 => ?_⟩
    · have c2 : (4 : Int) ≤ (a).toInt := le32.mp c2
      refine ⟨fun c3 => ?_, fun c3 => ?_⟩
      · have c3 : (7 : Int) ≤ (a).toInt := le32.mp c3
        refine M_takes_ok (fun μ3 o1 o2 => ?_); refine id ?_
        refine M_rowSum_ok ⟨_, rfl, ?_⟩
        first
          | exact hb (by omega)
          | exact Qi (h7 (by omega) _ o1) (hs _ o2)
          | ((have g := hg (by omega)); (repeat' split at g) <;> first | exact g | omega)
      · have c3 : ¬ (7 : Int) ≤ (a).toInt := fun z => c3 (le32.mpr z)
        refine ⟨fun c4 => ?_, fun c4 => ?_⟩
        · have c4 : ¬ (a).toInt = (4 : Int) := fun z => c4 (eq32.mpr z)
          refine ⟨fun c5 => ?_, fun c5 => ?_⟩
          · have c5 : ¬ (a).toInt = (5 : Int) := fun z => c5 (eq32.mpr z)
            first
              | exact hb (by omega)
              | exact Qi (h7 (by omega) _ o1) (hs _ o2)
              | ((have g := hg (by omega)); (repeat' split at g) <;> first | exact g | omega)
          · have c5 : (a).toInt = (5 : Int) := eq32.mp c5
            first
              | exact hb (by omega)
              | exact Qi (h7 (by omega) _ o1) (hs _ o2)
              | ((have g := hg (by omega)); (repeat' split at g) <;> first | exact g | omega)
        · have c4 : (a).toInt = (4 : Int) := eq32.mp c4
          first
            | exact hb (by omega)
            | exact Qi (h7 (by omega) _ o1) (hs _ o2)
            | ((have g := hg (by omega)); (repeat' split at g) <;> first | exact g | omega)
    · have c2 : ¬ (4 : Int) ≤ (a).toInt := fun z => c2 (le32.mpr z)
      refine ⟨fun c6 => ?_, fun c6 => ?_⟩
      · have c6 : ¬ (a).toInt = (0 : Int) := fun z => c6 (eq32.mpr z)
        refine ⟨fun c7 => ?_, fun c7 => ?_⟩
        · have c7 : ¬ (a).toInt = (1 : Int) := fun z => c7 (eq32.mpr z)
          refine ⟨fun c8 => ?_, fun c8 => ?_⟩
          · have c8 : ¬ (a).toInt = (2 : Int) := fun z => c8 (eq32.mpr z)
            first
              | exact hb (by omega)
              | exact Qi (h7 (by omega) _ o1) (hs _ o2)
              | ((have g := hg (by omega)); (repeat' split at g) <;> first | exact g | omega)
          · have c8 : (a).toInt = (2 : Int) := eq32.mp c8
            first
              | exact hb (by omega)
              | exact Qi (h7 (by omega) _ o1) (hs _ o2)
              | ((have g := hg (by omega)); (repeat' split at g) <;> first | exact g | omega)
        · have c7 : (a).toInt = (1 : Int) := eq32.mp c7
          first
            | exact hb (by omega)
            | exact Qi (h7 (by omega) _ o1) (hs _ o2)
            | ((have g := hg (by omega)); (repeat' split at g) <;> first | exact g | omega)
      · have c6 : (a).toInt = (0 : Int) := eq32.mp c6
        first
          | exact hb (by omega)
          | exact Qi (h7 (by omega) _ o1) (hs _ o2)
          | ((have g := hg (by omega)); (repeat' split at g) <;> first | exact g | omega)
  · first
      | exact hb (by omega)
      | exact Qi (h7 (by omega) _ o1) (hs _ o2)
      | ((have g := hg (by omega)); (repeat' split at g) <;> first | exact g | omega)
theorem M_isSheet_ok {d : Nat} {Q : QQ} {μ : Mem} {a : Int32} (hQ : Q (.int (b2p (0 ≤ a.toInt ∧ a.toInt ≤ 3))) μ) : Call (d + 2) y_M_isSheet [.int a] μ Q := by
  refine b_M_isSheet_0 ?_
  refine M_in_ok (A := (a).toInt) (B := (0 : Int)) (C := (3 : Int)) (lI _) rfl rfl ⟨_, rfl, ?_⟩
  refine ⟨by exact b_nar, ?_⟩
  exact bQ hQ (by omega)
theorem M_over_ok {d : Nat} {Q : QQ} {μ : Mem} {a : Int32} (hQ : Q (.int (if a.toInt = 0 then -1 else if a.toInt = 4 then 2 else if a.toInt = 3 ∨ a.toInt = 5 then 1 else 0)) μ) : Call (d + 1) y_M_over [.int a] μ Q := by
  refine b_M_over_0 ?_
  refine ⟨fun c1 => ?_, fun c1 => ?_⟩
  · have c1 : ¬ (a).toInt = (0 : Int) := fun z => c1 (eq32.mpr z)
    refine ⟨fun c2 => ?_, fun c2 => ?_⟩
    · have c2 : ¬ (a).toInt = (4 : Int) := fun z => c2 (eq32.mpr z)
      refine ⟨fun c3 => ?_, fun c3 => ?_⟩
      · have c3 : (a).toInt = (3 : Int) := eq32.mp c3
        (repeat' split at hQ) <;> first | exact hQ | omega
      · have c3 : ¬ (a).toInt = (3 : Int) := fun z => c3 (eq32.mpr z)
        refine ⟨fun c4 => ?_, fun c4 => ?_⟩
        · have c4 : ¬ (a).toInt = (5 : Int) := fun z => c4 (eq32.mpr z)
          (repeat' split at hQ) <;> first | exact hQ | omega
        · have c4 : (a).toInt = (5 : Int) := eq32.mp c4
          (repeat' split at hQ) <;> first | exact hQ | omega
    · have c2 : (a).toInt = (4 : Int) := eq32.mp c2
      (repeat' split at hQ) <;> first | exact hQ | omega
  · have c1 : (a).toInt = (0 : Int) := eq32.mp c1
    (repeat' split at hQ) <;> first | exact hQ | omega
/-- is kind k the kind x, or above it -/
def underF (x k : Int) : Bool := x == k || (x == 1 && k == 0) || (x == 2 && k == 0) || (x == 3 && (k == 1 || k == 0)) || (x == 4 && (k == 2 || k == 0)) || (x == 5 && (k == 1 || k == 0))
theorem M_taken_ok {d : Nat} {Q : QQ} {μ : Mem} {a b : Int32} (h : cntM μ) (hk : ∀ j, j < 6 → rng (μ.1 10 j) 0 5) (hb : ¬ (0 ≤ b.toInt ∧ b.toInt ≤ 5) → Q (.int (-2)) μ) (hn : 0 ≤ b.toInt ∧ b.toInt ≤ 5 → ¬ (0 ≤ a.toInt ∧ a.toInt < (μ.1 0 17).toInt) → Q (.int (-11)) μ)
    (hg : 0 ≤ b.toInt ∧ b.toInt ≤ 5 → 0 ≤ a.toInt ∧ a.toInt < (μ.1 0 17).toInt → Q (.int (if underF (μ.1 10 a.toNatClampNeg).toInt b.toInt = true then μ.1 11 a.toNatClampNeg else -13)) μ) : Call (d + 3) y_M_taken [.ref 0, .int a, .int b] μ Q := by
  obtain ⟨h1, h2, h3, -⟩ := h
  have h3' := h3
  obtain ⟨h4, h5⟩ := h3'
  have key : ∀ (f : Nat) (x : Int32), 0 ≤ b.toInt ∧ b.toInt ≤ 5 → 0 ≤ a.toInt ∧ a.toInt < (μ.1 0 17).toInt → -1 ≤ x.toInt → x.toInt ≤ 5 → (x.toInt = -1 → 0 ≤ f) → (x.toInt = 0 → 1 ≤ f) → (x.toInt = 1 ∨ x.toInt = 2 → 2 ≤ f) → (3 ≤ x.toInt → 3 ≤ f) → Q (.int (if underF x.toInt b.toInt = true then μ.1 11 a.toNatClampNeg else -13)) μ → AA (Call (d + 2)) y_M_taken Q 19 [.ref 0, .int a, .int b, .int x] [] μ := by
    intro f
    induction f with
    | zero =>
      intro x hb2 ha2 q1 q2 q3 q4 q5 q6 hQ
      have hx : x = -1 := eq32.mpr (by show x.toInt = -1; omega)
      subst hx
      refine b_M_taken_19 ⟨fun _ => ⟨fun _ => ?_, fun c => absurd (eq32.mp c) (by show ¬ (-1 : Int) = _; omega)⟩, fun c => absurd rfl c⟩
      have e : underF (-1) b.toInt = false := by
        unfold underF
        simp
        omega
      rw [show ((-1 : Int32)).toInt = -1 from rfl, e] at hQ
      exact hQ
    | succ f ih =>
      intro x hb2 ha2 q1 q2 q3 q4 q5 q6 hQ
      refine b_M_taken_19 ?_
      refine ⟨fun c1 => ?_, fun c1 => ?_⟩
      · have c1 : (x).toInt = (-1 : Int) := eq32.mp c1
        refine ⟨fun c2 => ?_, fun c2 => ?_⟩
        · have c2 : ¬ (x).toInt = (b).toInt := fun z => c2 (eq32.mpr z)
          first
            | omega
            | (refine Qi hQ ?_
               rw [show underF x.toInt b.toInt = true by unfold underF; simp; omega]; rfl)
            | (refine Qi hQ ?_
               rw [show underF x.toInt b.toInt = false by unfold underF; simp; omega]; rfl)
        · have c2 : (x).toInt = (b).toInt := eq32.mp c2
          refine ⟨by exact vin_of (by omega) (by omega), ?_⟩
          first
            | omega
            | (refine Qi hQ ?_
               rw [show underF x.toInt b.toInt = true by unfold underF; simp; omega]; rfl)
            | (refine Qi hQ ?_
               rw [show underF x.toInt b.toInt = false by unfold underF; simp; omega]; rfl)
      · have c1 : ¬ (x).toInt = (-1 : Int) := fun z => c1 (eq32.mpr z)
        refine ⟨fun c3 => ?_, fun c3 => ?_⟩
        · have c3 : (x).toInt = (b).toInt := eq32.mp c3
          refine ⟨fun c4 => ?_, fun c4 => ?_⟩
          · have c4 : ¬ (x).toInt = (b).toInt := fun z => c4 (eq32.mpr z)
            first
              | omega
              | (refine Qi hQ ?_
                 rw [show underF x.toInt b.toInt = true by unfold underF; simp; omega]; rfl)
              | (refine Qi hQ ?_
                 rw [show underF x.toInt b.toInt = false by unfold underF; simp; omega]; rfl)
          · have c4 : (x).toInt = (b).toInt := eq32.mp c4
            refine ⟨by exact vin_of (by omega) (by omega), ?_⟩
            first
              | omega
              | (refine Qi hQ ?_
                 rw [show underF x.toInt b.toInt = true by unfold underF; simp; omega]; rfl)
              | (refine Qi hQ ?_
                 rw [show underF x.toInt b.toInt = false by unfold underF; simp; omega]; rfl)
        · have c3 : ¬ (x).toInt = (b).toInt := fun z => c3 (eq32.mpr z)
          refine M_over_ok ⟨_, rfl, ?_⟩
          have hne : ¬ x.toInt = b.toInt := by assumption
          have hn1 : ¬ x.toInt = -1 := by assumption
          rcases (show x.toInt = 0 ∨ x.toInt = 1 ∨ x.toInt = 2 ∨ x.toInt = 3 ∨ x.toInt = 4 ∨ x.toInt = 5 by omega) with q | q | q | q | q | q <;> (rw [q] at hQ hne ⊢; refine ih _ hb2 ha2 (by decide) (by decide) (by intro; omega) (by simp <;> omega) (by simp <;> omega) (by simp <;> omega) (Qi hQ ?_); congr 1; simp [underF]; try omega)
  refine b_M_taken_0 ?_
  refine M_in_ok (A := (b).toInt) (B := (0 : Int)) (C := (5 : Int)) (lI _) rfl rfl ⟨_, rfl, ?_⟩
  refine b_nz (fun c1 => ?_) (fun c1 => ?_)
  · refine M_isLaw_ok h3 ⟨_, rfl, ?_⟩
    refine b_nz (fun c2 => ?_) (fun c2 => ?_)
    · refine ⟨by exact vin_of (by omega) (by omega), ?_⟩
      have hr := hk a.toNatClampNeg (vin_lt (vin_of (by omega) (by omega)))
      obtain ⟨r1, r2⟩ := hr
      exact key 3 _ (by omega) (by omega) (by omega) r2 (by omega) (by omega) (by omega) (by omega) (hg (by omega) (by omega))
    · first
        | exact hb (by omega)
        | exact hn (by omega) (by omega)
  · first
      | exact hb (by omega)
      | exact hn (by omega) (by omega)
end
section
/-! ===== the reference: sheets ===== -/
theorem n40 (s i : Nat) : (40 : Int32) * nI s + nI i = nI (40 * s + i) := by
  show nI 40 * nI s + nI i = _
  rw [pk_mul, nI_add]
def okSh (a b c : Int32) : Prop := 0 ≤ a.toInt ∧ a.toInt ≤ 3 ∧ -1 ≤ b.toInt ∧ b.toInt ≤ 2 ∧ (0 ≤ b.toInt → c.toInt ≤ 40)
theorem M_sheet_ok {d : Nat} {Q : QQ} {μ : Mem} {a b c : Int32} (hb : ¬ okSh a b c → Q (.int (-2)) μ) (hn : okSh a b c → 0 ≤ b.toInt → c.toInt < 0 → Q (.int (-14)) μ)
    (hm : okSh a b c → b.toInt = -1 → ∀ μ', Only [22, 23, 24] μ μ' → μ'.1 22 = upd (μ.1 22) a.toNatClampNeg 0 → μ'.1 23 = upd (μ.1 23) a.toNatClampNeg b → μ'.1 24 = upd (μ.1 24) a.toNatClampNeg c → Q (.int 1) μ')
    (hg : okSh a b c → 0 ≤ b.toInt → 0 ≤ c.toInt → ∀ μ', Only [22, 23, 24, 25] μ μ' → μ'.1 22 = upd (μ.1 22) a.toNatClampNeg 1 → μ'.1 23 = upd (μ.1 23) a.toNatClampNeg b → μ'.1 24 = upd (μ.1 24) a.toNatClampNeg c → (∀ i, i < c.toNatClampNeg → μ'.1 25 (40 * a.toNatClampNeg + i) = 0) → (∀ j, j < 40 * a.toNatClampNeg ∨ 40 * a.toNatClampNeg + 40 ≤ j → μ'.1 25 j = μ.1 25 j) → Q (.int 1) μ') : Call (d + 3) y_M_sheet [.ref 0, .int a, .int b, .int c] μ Q := by
  have key : okSh a b c → 0 ≤ b.toInt → 0 ≤ c.toInt → ∀ ν : Mem, Only [22, 23, 24] μ ν → ν.1 22 = upd (μ.1 22) a.toNatClampNeg 1 → ν.1 23 = upd (μ.1 23) a.toNatClampNeg b → ν.1 24 = upd (μ.1 24) a.toNatClampNeg c → AA (Call (d + 2)) y_M_sheet Q 43 [.ref 0, .int a, .int b, .int c, .int 0] [] ν := by
    intro hok hb0 hc0 ν o1 o2 o3 o4
    obtain ⟨k1, k2, k3, k4, k5⟩ := hok
    obtain ⟨s, hs, es, es2⟩ := nI_ex (x := a) k1
    obtain ⟨n, hn2, en, en2⟩ := nI_ex (x := c) hc0
    have hcs : a.toNatClampNeg = s := by rw [es]; exact nI_c hs
    have hcn : c.toNatClampNeg = n := by rw [en]; exact nI_c hn2
    rw [hcs] at o2 o3 o4
    have hn40 : n ≤ 40 := by have := k5 hb0; omega
    refine loopN (G := fun i t => AA (Call (d + 2)) y_M_sheet Q 43 [.ref 0, .int a, .int b, .int c, .int (nI i)] [] t) (P := fun i t => Only [25] ν t ∧ (∀ j, j < i → t.1 25 (40 * s + j) = 0) ∧ ∀ j, j < 40 * s ∨ 40 * s + 40 ≤ j → t.1 25 j = ν.1 25 j) (N := n) ?_ ?_ 0 ν (by omega) ⟨Only.rf, fun j hj => absurd hj (by omega), fun _ _ => rfl⟩
    · intro t ⟨q1, q2, q3⟩
      refine b_M_sheet_43 ⟨fun _ => ?_, fun z => absurd (le32.mpr (by rw [en2, nI_i hn2]; omega)) z⟩
      refine hg ⟨k1, k2, k3, k4, k5⟩ hb0 hc0 t ?_ ?_ ?_ ?_ ?_ ?_
      · exact (o1.mono (by simp)).trans (q1.mono (by simp))
      · rw [q1.i 22, o2, hcs]
      · rw [q1.i 23, o3, hcs]
      · rw [q1.i 24, o4, hcs]
      · rw [hcn, hcs]; exact q2
      · rw [hcs]
        intro j hj
        rw [q3 j hj, o1.i 25]
    · intro i t hi ⟨q1, q2, q3⟩ ih
      have ei := nI_i (n := i) (by omega)
      refine b_M_sheet_43 ⟨fun z => absurd (le32.mp z) (by rw [en2, ei]; omega), fun _ => ⟨fun z => absurd (lt32.mp z) (by show ¬ _ < (0 : Int); omega), fun _ => ?_⟩⟩
      rw [es, n40]
      refine ⟨nI_v (by omega) (by omega), fun μ1 e1 => ?_⟩
      rw [nI_c (by omega)] at e1
      rw [nI_1, ← es]
      refine ih _ ⟨q1.trans (by rw [e1]; exact Only.w), fun j hj => ?_, fun j hj => ?_⟩
      · rw [e1, wI_s]
        by_cases hji : j = i
        · rw [hji, upd_s]
        · rw [upd_n (by omega)]
          exact q2 j (by omega)
      · rw [e1, wI_s, upd_n (by omega)]
        exact q3 j hj
  have hz0 : vp_nar .boolean 0 = 0 := rfl
  have hz1 : vp_nar .boolean 1 = 1 := rfl
  have gone : okSh a b c → b.toInt = -1 → ∀ ν : Mem, Only [22, 23, 24] μ ν → ν.1 22 = upd (μ.1 22) a.toNatClampNeg 0 → ν.1 23 = upd (μ.1 23) a.toNatClampNeg b → ν.1 24 = upd (μ.1 24) a.toNatClampNeg c → AA (Call (d + 2)) y_M_sheet Q 43 [.ref 0, .int a, .int b, .int c, .int 0] [] ν := by
    intro hok hb1 ν o1 o2 o3 o4
    refine b_M_sheet_43 ⟨fun _ => hm hok hb1 ν o1 o2 o3 o4, fun _ => ⟨fun _ => hm hok hb1 ν o1 o2 o3 o4, fun z => absurd (lt32.mpr (by show _ < (0 : Int); omega)) z⟩⟩
  refine b_M_sheet_0 ?_
  refine M_isSheet_ok ⟨_, rfl, ?_⟩
  refine b_z (fun c1 => ?_) (fun c1 => ?_)
  · first
      | omega
      | exact hb (by unfold okSh; omega)
      | exact hn (by unfold okSh; omega) (by omega) (by omega)
  · refine M_in_ok (A := (b).toInt) (B := (-1 : Int)) (C := (2 : Int)) (lI _) rfl rfl ⟨_, rfl, ?_⟩
    refine b_z (fun c2 => ?_) (fun c2 => ?_)
    · first
        | omega
        | exact hb (by unfold okSh; omega)
        | exact hn (by unfold okSh; omega) (by omega) (by omega)
    · refine ⟨fun c3 => ?_, fun c3 => ?_⟩
      · have c3 : (b).toInt < (0 : Int) := lt32.mp c3
        refine ⟨fun c4 => ?_, fun c4 => ?_⟩
        · have c4 : (b).toInt < (0 : Int) := lt32.mp c4
          refine ⟨fun c5 => ?_, fun c5 => ?_⟩
          · have c5 : (b).toInt < (0 : Int) := lt32.mp c5
            refine ⟨by exact vin_of (by omega) (by omega), ?_⟩
            intro μ5 eμ5
            refine ⟨by exact vin_of (by omega) (by omega), ?_⟩
            intro μ6 eμ6
            refine ⟨by exact vin_of (by omega) (by omega), ?_⟩
            intro μ7 eμ7
            first
              | omega
              | (refine gone (by unfold okSh; omega) (by omega) _ ?_ ?_ ?_ ?_ <;> subst_vars
                 all_goals first | (intro k hk; simp at hk; simp [wI, hk]; done) | simp [wI, hz0])
              | (refine key (by unfold okSh; omega) (by omega) (by omega) _ ?_ ?_ ?_ ?_ <;> subst_vars
                 all_goals first | (intro k hk; simp at hk; simp [wI, hk]; done) | simp [wI, hz1])
          · have c5 : ¬ (b).toInt < (0 : Int) := fun z => c5 (lt32.mpr z)
            refine ⟨by exact vin_of (by omega) (by omega), ?_⟩
            intro μ8 eμ8
            refine ⟨by exact vin_of (by omega) (by omega), ?_⟩
            intro μ9 eμ9
            refine ⟨by exact vin_of (by omega) (by omega), ?_⟩
            intro μ10 eμ10
            first
              | omega
              | (refine gone (by unfold okSh; omega) (by omega) _ ?_ ?_ ?_ ?_ <;> subst_vars
                 all_goals first | (intro k hk; simp at hk; simp [wI, hk]; done) | simp [wI, hz0])
              | (refine key (by unfold okSh; omega) (by omega) (by omega) _ ?_ ?_ ?_ ?_ <;> subst_vars
                 all_goals first | (intro k hk; simp at hk; simp [wI, hk]; done) | simp [wI, hz1])
        · have c4 : ¬ (b).toInt < (0 : Int) := fun z => c4 (lt32.mpr z)
          refine ⟨fun c6 => ?_, fun c6 => ?_⟩
          · have c6 : (0 : Int) ≤ (c).toInt := le32.mp c6
            refine ⟨fun c7 => ?_, fun c7 => ?_⟩
            · have c7 : (b).toInt < (0 : Int) := lt32.mp c7
              refine ⟨by exact vin_of (by omega) (by omega), ?_⟩
              intro μ11 eμ11
              refine ⟨by exact vin_of (by omega) (by omega), ?_⟩
              intro μ12 eμ12
              refine ⟨by exact vin_of (by omega) (by omega), ?_⟩
              intro μ13 eμ13
              first
                | omega
                | (refine gone (by unfold okSh; omega) (by omega) _ ?_ ?_ ?_ ?_ <;> subst_vars
                   all_goals first | (intro k hk; simp at hk; simp [wI, hk]; done) | simp [wI, hz0])
                | (refine key (by unfold okSh; omega) (by omega) (by omega) _ ?_ ?_ ?_ ?_ <;> subst_vars
                   all_goals first | (intro k hk; simp at hk; simp [wI, hk]; done) | simp [wI, hz1])
            · have c7 : ¬ (b).toInt < (0 : Int) := fun z => c7 (lt32.mpr z)
              refine ⟨by exact vin_of (by omega) (by omega), ?_⟩
              intro μ14 eμ14
              refine ⟨by exact vin_of (by omega) (by omega), ?_⟩
              intro μ15 eμ15
              refine ⟨by exact vin_of (by omega) (by omega), ?_⟩
              intro μ16 eμ16
              first
                | omega
                | (refine gone (by unfold okSh; omega) (by omega) _ ?_ ?_ ?_ ?_ <;> subst_vars
                   all_goals first | (intro k hk; simp at hk; simp [wI, hk]; done) | simp [wI, hz0])
                | (refine key (by unfold okSh; omega) (by omega) (by omega) _ ?_ ?_ ?_ ?_ <;> subst_vars
                   all_goals first | (intro k hk; simp at hk; simp [wI, hk]; done) | simp [wI, hz1])
          · have c6 : ¬ (0 : Int) ≤ (c).toInt := fun z => c6 (le32.mpr z)
            first
              | omega
              | exact hb (by unfold okSh; omega)
              | exact hn (by unfold okSh; omega) (by omega) (by omega)
      · have c3 : ¬ (b).toInt < (0 : Int) := fun z => c3 (lt32.mpr z)
        refine ⟨fun c8 => ?_, fun c8 => ?_⟩
        · have c8 : (c).toInt ≤ (40 : Int) := le32.mp c8
          refine ⟨fun c9 => ?_, fun c9 => ?_⟩
          · have c9 : (b).toInt < (0 : Int) := lt32.mp c9
            refine ⟨fun c10 => ?_, fun c10 => ?_⟩
            · have c10 : (b).toInt < (0 : Int) := lt32.mp c10
              refine ⟨by exact vin_of (by omega) (by omega), ?_⟩
              intro μ17 eμ17
              refine ⟨by exact vin_of (by omega) (by omega), ?_⟩
              intro μ18 eμ18
              refine ⟨by exact vin_of (by omega) (by omega), ?_⟩
              intro μ19 eμ19
              first
                | omega
                | (refine gone (by unfold okSh; omega) (by omega) _ ?_ ?_ ?_ ?_ <;> subst_vars
                   all_goals first | (intro k hk; simp at hk; simp [wI, hk]; done) | simp [wI, hz0])
                | (refine key (by unfold okSh; omega) (by omega) (by omega) _ ?_ ?_ ?_ ?_ <;> subst_vars
                   all_goals first | (intro k hk; simp at hk; simp [wI, hk]; done) | simp [wI, hz1])
            · have c10 : ¬ (b).toInt < (0 : Int) := fun z => c10 (lt32.mpr z)
              refine ⟨by exact vin_of (by omega) (by omega), ?_⟩
              intro μ20 eμ20
              refine ⟨by exact vin_of (by omega) (by omega), ?_⟩
              intro μ21 eμ21
              refine ⟨by exact vin_of (by omega) (by omega), ?_⟩
              intro μ22 eμ22
              first
                | omega
                | (refine gone (by unfold okSh; omega) (by omega) _ ?_ ?_ ?_ ?_ <;> subst_vars
                   all_goals first | (intro k hk; simp at hk; simp [wI, hk]; done) | simp [wI, hz0])
                | (refine key (by unfold okSh; omega) (by omega) (by omega) _ ?_ ?_ ?_ ?_ <;> subst_vars
                   all_goals first | (intro k hk; simp at hk; simp [wI, hk]; done) | simp [wI, hz1])
          · have c9 : ¬ (b).toInt < (0 : Int) := fun z => c9 (lt32.mpr z)
            refine ⟨fun c11 => ?_, fun c11 => ?_⟩
            · have c11 : (0 : Int) ≤ (c).toInt := le32.mp c11
              refine ⟨fun c12 => ?_, fun c12 => ?_⟩
              · have c12 : (b).toInt < (0 : Int) := lt32.mp c12
                refine ⟨by exact vin_of (by omega) (by omega), ?_⟩
                intro μ23 eμ23
                refine ⟨by exact vin_of (by omega) (by omega), ?_⟩
                intro μ24 eμ24
                refine ⟨by exact vin_of (by omega) (by omega), ?_⟩
                intro μ25 eμ25
                first
                  | omega
                  | (refine gone (by unfold okSh; omega) (by omega) _ ?_ ?_ ?_ ?_ <;> subst_vars
                     all_goals first | (intro k hk; simp at hk; simp [wI, hk]; done) | simp [wI, hz0])
                  | (refine key (by unfold okSh; omega) (by omega) (by omega) _ ?_ ?_ ?_ ?_ <;> subst_vars
                     all_goals first | (intro k hk; simp at hk; simp [wI, hk]; done) | simp [wI, hz1])
              · have c12 : ¬ (b).toInt < (0 : Int) := fun z => c12 (lt32.mpr z)
                refine ⟨by exact vin_of (by omega) (by omega), ?_⟩
                intro μ26 eμ26
                refine ⟨by exact vin_of (by omega) (by omega), ?_⟩
                intro μ27 eμ27
                refine ⟨by exact vin_of (by omega) (by omega), ?_⟩
                intro μ28 eμ28
                first
                  | omega
                  | (refine gone (by unfold okSh; omega) (by omega) _ ?_ ?_ ?_ ?_ <;> subst_vars
                     all_goals first | (intro k hk; simp at hk; simp [wI, hk]; done) | simp [wI, hz0])
                  | (refine key (by unfold okSh; omega) (by omega) (by omega) _ ?_ ?_ ?_ ?_ <;> subst_vars
                     all_goals first | (intro k hk; simp at hk; simp [wI, hk]; done) | simp [wI, hz1])
            · have c11 : ¬ (0 : Int) ≤ (c).toInt := fun z => c11 (le32.mpr z)
              first
                | omega
                | exact hb (by unfold okSh; omega)
                | exact hn (by unfold okSh; omega) (by omega) (by omega)
        · have c8 : ¬ (c).toInt ≤ (40 : Int) := fun z => c8 (le32.mpr z)
          first
            | omega
            | exact hb (by unfold okSh; omega)
            | exact hn (by unfold okSh; omega) (by omega) (by omega)
/-- what a sheet of a sort keeps of a number -/
def keepF (sort v : Int32) : Int32 := if sort.toInt = 0 then (Int32.toInt8 v).toInt32 else if sort.toInt = 1 then (Int32.toInt16 v).toInt32 else v
theorem M_cell_ok {d : Nat} {Q : QQ} {μ : Mem} {a b c : Int32} (hsz : 0 ≤ a.toInt → a.toInt ≤ 3 → ¬ (μ.1 22 a.toNatClampNeg).toInt = 0 → rng (μ.1 24 a.toNatClampNeg) 0 40) (hb : ¬ (0 ≤ a.toInt ∧ a.toInt ≤ 3) → Q (.int (-2)) μ) (hm : 0 ≤ a.toInt ∧ a.toInt ≤ 3 → (μ.1 22 a.toNatClampNeg).toInt = 0 → Q (.int (-11)) μ)
    (ho : 0 ≤ a.toInt ∧ a.toInt ≤ 3 → ¬ (μ.1 22 a.toNatClampNeg).toInt = 0 → ¬ (0 ≤ b.toInt ∧ b.toInt < (μ.1 24 a.toNatClampNeg).toInt) → Q (.int (-12)) μ)
    (hg : 0 ≤ a.toInt ∧ a.toInt ≤ 3 → ¬ (μ.1 22 a.toNatClampNeg).toInt = 0 → 0 ≤ b.toInt ∧ b.toInt < (μ.1 24 a.toNatClampNeg).toInt → ∀ μ', μ' = wI μ 25 (upd (μ.1 25) (40 * a.toNatClampNeg + b.toNatClampNeg) (keepF (μ.1 23 a.toNatClampNeg) c)) → Q (.int 1) μ') : Call (d + 3) y_M_cell [.ref 0, .int a, .int b, .int c] μ Q := by
  have e1 : 0 ≤ a.toInt → a.toInt ≤ 3 → ¬ (μ.1 22 a.toNatClampNeg).toInt = 0 → ((μ.1 24 a.toNatClampNeg) - 1).toInt = (μ.1 24 a.toNatClampNeg).toInt - 1 := by
    intro q1 q2 q3
    have := hsz q1 q2 q3
    exact sub32 (by have := this.1; show _ ≤ _ - 1; omega) (by have := this.2; show _ - 1 < _; omega)
  have e2 : 0 ≤ a.toInt → a.toInt ≤ 3 → ¬ (μ.1 22 a.toNatClampNeg).toInt = 0 → 0 ≤ b.toInt ∧ b.toInt < (μ.1 24 a.toNatClampNeg).toInt → vp_in (40 * a + b) 160 ∧ (40 * a + b).toNatClampNeg = 40 * a.toNatClampNeg + b.toNatClampNeg := by
    intro q1 q2 q3 q4
    have := (hsz q1 q2 q3).2
    obtain ⟨s, hs, es, es2⟩ := nI_ex (x := a) q1
    obtain ⟨n, hn2, en, en2⟩ := nI_ex (x := b) q4.1
    have hc1 : a.toNatClampNeg = s := by rw [es]; exact nI_c hs
    have hc2 : b.toNatClampNeg = n := by rw [en]; exact nI_c hn2
    rw [hc1, hc2, es, en, n40]
    exact ⟨nI_v (by omega) (by omega), nI_c (by omega)⟩
  refine b_M_cell_0 ?_
  refine M_isSheet_ok ⟨_, rfl, ?_⟩
  refine b_nz (fun c1 => ?_) (fun c1 => ?_)
  · refine ⟨by first | exact vin_of (by omega) (by omega) | exact (e2 (by omega) (by omega) (by assumption) (by rw [e1 (by omega) (by omega) (by assumption)] at *; omega)).1, ?_⟩
    refine ⟨fun c2 => ?_, fun c2 => ?_⟩
    · have c2 : ¬ ((μ.1 22 a.toNatClampNeg)).toInt = (0 : Int) := fun z => c2 (eq32.mpr z)
      refine ⟨by first | exact vin_of (by omega) (by omega) | exact (e2 (by omega) (by omega) (by assumption) (by rw [e1 (by omega) (by omega) (by assumption)] at *; omega)).1, ?_⟩
      refine M_in_ok (A := (b).toInt) (B := (0 : Int)) (C := (((μ.1 24 a.toNatClampNeg) - 1)).toInt) (lI _) rfl (lI _) ⟨_, rfl, ?_⟩
      refine b_nz (fun c3 => ?_) (fun c3 => ?_)
      · refine ⟨by first | exact vin_of (by omega) (by omega) | exact (e2 (by omega) (by omega) (by assumption) (by rw [e1 (by omega) (by omega) (by assumption)] at *; omega)).1, ?_⟩
        refine ⟨fun c4 => ?_, fun c4 => ?_⟩
        · have c4 : ¬ ((μ.1 23 a.toNatClampNeg)).toInt = (0 : Int) := fun z => c4 (eq32.mpr z)
          refine ⟨by first | exact vin_of (by omega) (by omega) | exact (e2 (by omega) (by omega) (by assumption) (by rw [e1 (by omega) (by omega) (by assumption)] at *; omega)).1, ?_⟩
          refine ⟨fun c5 => ?_, fun c5 => ?_⟩
          · have c5 : ¬ ((μ.1 23 a.toNatClampNeg)).toInt = (1 : Int) := fun z => c5 (eq32.mpr z)
            refine ⟨by first | exact vin_of (by omega) (by omega) | exact (e2 (by omega) (by omega) (by assumption) (by rw [e1 (by omega) (by omega) (by assumption)] at *; omega)).1, ?_⟩
            intro μ5 eμ5
            first
              | exact hb (by omega)
              | exact hm (by omega) (by assumption)
              | exact ho (by omega) (by assumption) (by rw [e1 (by omega) (by omega) (by assumption)] at *; omega)
              | (have hbb : 0 ≤ b.toInt ∧ b.toInt < (μ.1 24 a.toNatClampNeg).toInt := by rw [e1 (by omega) (by omega) (by assumption)] at *; omega
                 refine hg (by omega) (by assumption) hbb _ ?_
                 subst_vars
                 rw [(e2 (by omega) (by omega) (by assumption) hbb).2]
                 unfold keepF
                 simp [*])
          · have c5 : ((μ.1 23 a.toNatClampNeg)).toInt = (1 : Int) := eq32.mp c5
            refine ⟨by first | exact vin_of (by omega) (by omega) | exact (e2 (by omega) (by omega) (by assumption) (by rw [e1 (by omega) (by omega) (by assumption)] at *; omega)).1, ?_⟩
            intro μ6 eμ6
            first
              | exact hb (by omega)
              | exact hm (by omega) (by assumption)
              | exact ho (by omega) (by assumption) (by rw [e1 (by omega) (by omega) (by assumption)] at *; omega)
              | (have hbb : 0 ≤ b.toInt ∧ b.toInt < (μ.1 24 a.toNatClampNeg).toInt := by rw [e1 (by omega) (by omega) (by assumption)] at *; omega
                 refine hg (by omega) (by assumption) hbb _ ?_
                 subst_vars
                 rw [(e2 (by omega) (by omega) (by assumption) hbb).2]
                 unfold keepF
                 simp [*])
        · have c4 : ((μ.1 23 a.toNatClampNeg)).toInt = (0 : Int) := eq32.mp c4
          refine ⟨by first | exact vin_of (by omega) (by omega) | exact (e2 (by omega) (by omega) (by assumption) (by rw [e1 (by omega) (by omega) (by assumption)] at *; omega)).1, ?_⟩
          intro μ7 eμ7
          first
            | exact hb (by omega)
            | exact hm (by omega) (by assumption)
            | exact ho (by omega) (by assumption) (by rw [e1 (by omega) (by omega) (by assumption)] at *; omega)
            | (have hbb : 0 ≤ b.toInt ∧ b.toInt < (μ.1 24 a.toNatClampNeg).toInt := by rw [e1 (by omega) (by omega) (by assumption)] at *; omega
               refine hg (by omega) (by assumption) hbb _ ?_
               subst_vars
               rw [(e2 (by omega) (by omega) (by assumption) hbb).2]
               unfold keepF
               simp [*])
      · first
          | exact hb (by omega)
          | exact hm (by omega) (by assumption)
          | exact ho (by omega) (by assumption) (by rw [e1 (by omega) (by omega) (by assumption)] at *; omega)
          | (have hbb : 0 ≤ b.toInt ∧ b.toInt < (μ.1 24 a.toNatClampNeg).toInt := by rw [e1 (by omega) (by omega) (by assumption)] at *; omega
             refine hg (by omega) (by assumption) hbb _ ?_
             subst_vars
             rw [(e2 (by omega) (by omega) (by assumption) hbb).2]
             unfold keepF
             simp [*])
    · have c2 : ((μ.1 22 a.toNatClampNeg)).toInt = (0 : Int) := eq32.mp c2
      first
        | exact hb (by omega)
        | exact hm (by omega) (by assumption)
        | exact ho (by omega) (by assumption) (by rw [e1 (by omega) (by omega) (by assumption)] at *; omega)
        | (have hbb : 0 ≤ b.toInt ∧ b.toInt < (μ.1 24 a.toNatClampNeg).toInt := by rw [e1 (by omega) (by omega) (by assumption)] at *; omega
           refine hg (by omega) (by assumption) hbb _ ?_
           subst_vars
           rw [(e2 (by omega) (by omega) (by assumption) hbb).2]
           unfold keepF
           simp [*])
  · first
      | exact hb (by omega)
      | exact hm (by omega) (by assumption)
      | exact ho (by omega) (by assumption) (by rw [e1 (by omega) (by omega) (by assumption)] at *; omega)
      | (have hbb : 0 ≤ b.toInt ∧ b.toInt < (μ.1 24 a.toNatClampNeg).toInt := by rw [e1 (by omega) (by omega) (by assumption)] at *; omega
         refine hg (by omega) (by assumption) hbb _ ?_
         subst_vars
         rw [(e2 (by omega) (by omega) (by assumption) hbb).2]
         unfold keepF
         simp [*])
end
section
/-! ===== the reference: copies, writers by a sheet ===== -/
/-- sheets: their sizes -/
def shM (μ : Mem) : Prop := ∀ s, s < 4 → ¬ (μ.1 22 s).toInt = 0 → rng (μ.1 24 s) 0 40
theorem n40' (s i k : Nat) : (40 : Int32) * nI s + nI i + nI k = nI (40 * s + i + k) := by rw [n40, nI_add]
def okCp (μ : Mem) (a b c e f : Int32) : Prop := 0 ≤ f.toInt ∧ 0 ≤ b.toInt ∧ 0 ≤ e.toInt ∧ b.toInt ≤ (μ.1 24 a.toNatClampNeg).toInt - f.toInt ∧ e.toInt ≤ (μ.1 24 c.toNatClampNeg).toInt - f.toInt
theorem M_copy_ok {d : Nat} {Q : QQ} {μ : Mem} {a b c e f : Int32} (hsh : shM μ) (hb : ¬ (0 ≤ a.toInt ∧ a.toInt ≤ 3 ∧ 0 ≤ c.toInt ∧ c.toInt ≤ 3) → Q (.int (-2)) μ) (hm : 0 ≤ a.toInt ∧ a.toInt ≤ 3 ∧ 0 ≤ c.toInt ∧ c.toInt ≤ 3 → (μ.1 22 a.toNatClampNeg).toInt = 0 ∨ (μ.1 22 c.toNatClampNeg).toInt = 0 → Q (.int (-11)) μ)
    (hu : 0 ≤ a.toInt ∧ a.toInt ≤ 3 ∧ 0 ≤ c.toInt ∧ c.toInt ≤ 3 → ¬ (μ.1 22 a.toNatClampNeg).toInt = 0 → ¬ (μ.1 22 c.toNatClampNeg).toInt = 0 → ¬ (μ.1 23 a.toNatClampNeg).toInt = (μ.1 23 c.toNatClampNeg).toInt → Q (.int (-13)) μ)
    (ho : 0 ≤ a.toInt ∧ a.toInt ≤ 3 ∧ 0 ≤ c.toInt ∧ c.toInt ≤ 3 → ¬ (μ.1 22 a.toNatClampNeg).toInt = 0 → ¬ (μ.1 22 c.toNatClampNeg).toInt = 0 → (μ.1 23 a.toNatClampNeg).toInt = (μ.1 23 c.toNatClampNeg).toInt → ¬ okCp μ a b c e f → Q (.int (-12)) μ)
    (hg : 0 ≤ a.toInt ∧ a.toInt ≤ 3 ∧ 0 ≤ c.toInt ∧ c.toInt ≤ 3 → ¬ (μ.1 22 a.toNatClampNeg).toInt = 0 → ¬ (μ.1 22 c.toNatClampNeg).toInt = 0 → (μ.1 23 a.toNatClampNeg).toInt = (μ.1 23 c.toNatClampNeg).toInt → okCp μ a b c e f → ∀ μ', Only [25] μ μ' → (∀ j, μ'.1 25 j = va_cpy (μ.1 25) (μ.1 25) (40 * a.toNatClampNeg + b.toNatClampNeg) (40 * c.toNatClampNeg + e.toNatClampNeg) f.toNatClampNeg j) → Q (.int f) μ') : Call (d + 3) y_M_copy [.ref 0, .int a, .int b, .int c, .int e, .int f] μ Q := by
  have key : 0 ≤ a.toInt ∧ a.toInt ≤ 3 ∧ 0 ≤ c.toInt ∧ c.toInt ≤ 3 → ¬ (μ.1 22 a.toNatClampNeg).toInt = 0 → ¬ (μ.1 22 c.toNatClampNeg).toInt = 0 → (μ.1 23 a.toNatClampNeg).toInt = (μ.1 23 c.toNatClampNeg).toInt → okCp μ a b c e f → ∀ up : Int32, (up.toInt = 0 → ¬ (a.toInt = c.toInt ∧ b.toInt < e.toInt)) → (¬ up.toInt = 0 → a.toInt = c.toInt ∧ b.toInt < e.toInt) → AA (Call (d + 2)) y_M_copy Q 67 [.ref 0, .int a, .int b, .int c, .int e, .int f, .int up, .int 0, un] [] μ := by
    intro h1 h2 h3 h4 h5 up hu0 hu1
    obtain ⟨sa, hsa, ea, ea2⟩ := nI_ex (x := a) h1.1
    obtain ⟨sc, hsc, ec, ec2⟩ := nI_ex (x := c) h1.2.2.1
    obtain ⟨p1, p2, p3, p4, p5⟩ := h5
    obtain ⟨nb, hnb, eb, eb2⟩ := nI_ex (x := b) p2
    obtain ⟨ne, hne, ee, ee2⟩ := nI_ex (x := e) p3
    obtain ⟨n, hn, ef, ef2⟩ := nI_ex (x := f) p1
    have ca : a.toNatClampNeg = sa := by rw [ea]; exact nI_c hsa
    have cc : c.toNatClampNeg = sc := by rw [ec]; exact nI_c hsc
    have cb : b.toNatClampNeg = nb := by rw [eb]; exact nI_c hnb
    have ce : e.toNatClampNeg = ne := by rw [ee]; exact nI_c hne
    have cf : f.toNatClampNeg = n := by rw [ef]; exact nI_c hn
    have s1 := hsh sa (by omega) (by rw [← ca]; exact h2)
    have s2 := hsh sc (by omega) (by rw [← cc]; exact h3)
    rw [ca] at p4
    rw [cc] at p5
    have b1 : nb + n ≤ 40 := by have := s1.2; omega
    have b2 : ne + n ≤ 40 := by have := s2.2; omega
    have fin : ∀ t : Mem, Only [25] μ t → (∀ j, t.1 25 j = va_cpy (μ.1 25) (μ.1 25) (40 * sa + nb) (40 * sc + ne) n j) → Q (.int f) t := by
      intro t q1 q2
      refine hg h1 h2 h3 h4 ⟨p1, p2, p3, by rw [ca]; exact p4, by rw [cc]; exact p5⟩ t q1 ?_
      rw [ca, cb, cc, ce, cf]
      exact q2
    by_cases hup : up.toInt = 0
    · have hno := hu0 hup
      refine loopN (G := fun i t => AA (Call (d + 2)) y_M_copy Q 67 [.ref 0, .int a, .int b, .int c, .int e, .int f, .int up, .int (nI i), un] [] t) (P := fun i t => Only [25] μ t ∧ ∀ j, t.1 25 j = va_cpy (μ.1 25) (μ.1 25) (40 * sa + nb) (40 * sc + ne) i j) (N := n) ?_ ?_ 0 μ (by omega) ⟨Only.rf, fun j => by unfold va_cpy; rw [if_neg (by omega)]⟩
      · intro t ⟨q1, q2⟩
        exact b_M_copy_67 ⟨fun _ => fin t q1 q2, fun z => absurd (le32.mpr (by rw [ef2, nI_i hn]; omega)) z⟩
      · intro i t hi ⟨q1, q2⟩ ih
        have ei := nI_i (n := i) (by omega)
        refine b_M_copy_67 ⟨fun z => absurd (le32.mp z) (by rw [ef2, ei]; omega), fun _ => ⟨fun _ => ?_, fun z => absurd (eq32.mpr (by rw [hup]; rfl)) z⟩⟩
        rw [ea, eb, ec, ee, n40', n40']
        refine ⟨nI_v (by omega) (by omega), nI_v (by omega) (by omega), fun μ1 e1 => ?_⟩
        rw [nI_c (by omega), nI_c (by omega)] at e1
        rw [nI_1, ← ea, ← eb, ← ec, ← ee]
        refine AA_weak (lv := [.ref 0, .int a, .int b, .int c, .int e, .int f, .int up, .int (nI (i + 1)), un]) ⟨Or.inl rfl, Or.inl rfl, Or.inl rfl, Or.inl rfl, Or.inl rfl, Or.inl rfl, Or.inl rfl, Or.inl rfl, Or.inr ⟨rfl, rfl⟩, trivial⟩ ?_
        refine ih _ ⟨q1.trans (by rw [e1]; exact Only.w), fun j => ?_⟩
        rw [e1, wI_s]
        have hsrc : t.1 25 (40 * sa + nb + i) = μ.1 25 (40 * sa + nb + i) := by
          rw [q2]
          unfold va_cpy
          rw [if_neg]
          intro z
          apply hno
          have : sa = sc := by omega
          exact ⟨by omega, by omega⟩
        by_cases hj : j = 40 * sc + ne + i
        · rw [hj, upd_s, hsrc]
          unfold va_cpy
          rw [if_pos (by omega)]
          exact congrArg (μ.1 25) (by omega)
        · rw [upd_n hj, q2]
          unfold va_cpy
          by_cases hj2 : 40 * sc + ne ≤ j ∧ j < 40 * sc + ne + i
          · rw [if_pos hj2, if_pos (by omega)]
          · rw [if_neg hj2, if_neg (by omega)]
    · have hyes := hu1 hup
      have hse : sa = sc := by omega
      subst hse
      refine loopN (G := fun i t => AA (Call (d + 2)) y_M_copy Q 67 [.ref 0, .int a, .int b, .int c, .int e, .int f, .int up, .int (nI i), un] [] t) (P := fun i t => Only [25] μ t ∧ ∀ j, t.1 25 j = va_cpy (μ.1 25) (μ.1 25) (40 * sa + nb + (n - i)) (40 * sa + ne + (n - i)) i j) (N := n) ?_ ?_ 0 μ (by omega) ⟨Only.rf, fun j => by unfold va_cpy; rw [if_neg (by omega)]⟩
      · intro t ⟨q1, q2⟩
        refine b_M_copy_67 ⟨fun _ => fin t q1 (fun j => by rw [q2, Nat.sub_self]; rfl), fun z => absurd (le32.mpr (by rw [ef2, nI_i hn]; omega)) z⟩
      · intro i t hi ⟨q1, q2⟩ ih
        have ei := nI_i (n := i) (by omega)
        have esub : f - 1 - nI i = nI (n - 1 - i) := by
          rw [ef, show (nI n - 1 : Int32) = nI (n - 1) from by
            obtain ⟨n', rfl⟩ : ∃ n', n = n' + 1 := ⟨n - 1, by omega⟩
            exact nI_pred n']
          exact pk_sub (by omega)
        refine b_M_copy_67 ⟨fun z => absurd (le32.mp z) (by rw [ef2, ei]; omega), fun _ => ⟨fun z => absurd (eq32.mp z) hup, fun _ => ?_⟩⟩
        rw [esub, ea, eb, ec, ee, n40', n40']
        refine ⟨nI_v (by omega) (by omega), nI_v (by omega) (by omega), fun μ1 e1 => ?_⟩
        rw [nI_c (by omega), nI_c (by omega)] at e1
        rw [nI_1]
        rw [show (nI sa : Int32) = a from ea.symm, show (nI nb : Int32) = b from eb.symm, show (nI ne : Int32) = e from ee.symm]
        refine AA_weak (lv := [.ref 0, .int a, .int b, .int a, .int e, .int f, .int up, .int (nI (i + 1)), un]) ⟨Or.inl rfl, Or.inl rfl, Or.inl rfl, Or.inl rfl, Or.inl rfl, Or.inl rfl, Or.inl rfl, Or.inl rfl, Or.inr ⟨rfl, rfl⟩, trivial⟩ ?_
        have eac : c = a := by rw [ec, ea]
        have g := ih μ1 ⟨q1.trans (by rw [e1]; exact Only.w), fun j => ?_⟩
        · rw [eac] at g
          exact g
        · rw [e1, wI_s]
          have hsrc : t.1 25 (40 * sa + nb + (n - 1 - i)) = μ.1 25 (40 * sa + nb + (n - 1 - i)) := by
            rw [q2]
            unfold va_cpy
            rw [if_neg (by omega)]
          by_cases hj : j = 40 * sa + ne + (n - 1 - i)
          · rw [hj, upd_s, hsrc]
            unfold va_cpy
            rw [if_pos (by omega)]
            exact congrArg (μ.1 25) (by omega)
          · rw [upd_n hj, q2]
            unfold va_cpy
            by_cases hj2 : 40 * sa + ne + (n - i) ≤ j ∧ j < 40 * sa + ne + (n - i) + i
            · rw [if_pos hj2, if_pos (by omega)]
              exact congrArg (μ.1 25) (by omega)
            · rw [if_neg hj2, if_neg (by omega)]
  have sz : ∀ v : Int32, 0 ≤ v.toInt → v.toInt ≤ 3 → ¬ (μ.1 22 v.toNatClampNeg).toInt = 0 → 0 ≤ f.toInt → ((μ.1 24 v.toNatClampNeg) - f).toInt = (μ.1 24 v.toNatClampNeg).toInt - f.toInt := by
    intro v q1 q2 q3 q4
    have r := hsh v.toNatClampNeg (vin_lt (vin_of q1 (by omega))) q3
    have := Int32.toInt_lt f
    exact sub32 (by have := r.1; omega) (by have := r.2; omega)
  refine b_M_copy_0 ?_
  refine M_isSheet_ok ⟨_, rfl, ?_⟩
  refine b_z (fun c1 => ?_) (fun c1 => ?_)
  · first
      | exact hb (by omega)
      | exact hm (by omega) (by omega)
      | exact hu (by omega) (by assumption) (by assumption) (by assumption)
      | exact ho (by omega) (by assumption) (by assumption) (by assumption) (by unfold okCp; omega)
      | (have z1 := sz a (by omega) (by omega) (by assumption) (by omega)
         exact ho (by omega) (by assumption) (by assumption) (by assumption) (by unfold okCp; omega))
      | (have z2 := sz c (by omega) (by omega) (by assumption) (by omega)
         exact ho (by omega) (by assumption) (by assumption) (by assumption) (by unfold okCp; omega))
  · refine M_isSheet_ok ⟨_, rfl, ?_⟩
    refine b_nz (fun c2 => ?_) (fun c2 => ?_)
    · refine ⟨by exact vin_of (by omega) (by omega), ?_⟩
      refine ⟨fun c3 => ?_, fun c3 => ?_⟩
      · have c3 : ((μ.1 22 a.toNatClampNeg)).toInt = (0 : Int) := eq32.mp c3
        first
          | exact hb (by omega)
          | exact hm (by omega) (by omega)
          | exact hu (by omega) (by assumption) (by assumption) (by assumption)
          | exact ho (by omega) (by assumption) (by assumption) (by assumption) (by unfold okCp; omega)
          | (have z1 := sz a (by omega) (by omega) (by assumption) (by omega)
             exact ho (by omega) (by assumption) (by assumption) (by assumption) (by unfold okCp; omega))
          | (have z2 := sz c (by omega) (by omega) (by assumption) (by omega)
             exact ho (by omega) (by assumption) (by assumption) (by assumption) (by unfold okCp; omega))
      · have c3 : ¬ ((μ.1 22 a.toNatClampNeg)).toInt = (0 : Int) := fun z => c3 (eq32.mpr z)
        refine ⟨by exact vin_of (by omega) (by omega), ?_⟩
        refine ⟨fun c4 => ?_, fun c4 => ?_⟩
        · have c4 : ¬ ((μ.1 22 c.toNatClampNeg)).toInt = (0 : Int) := fun z => c4 (eq32.mpr z)
          refine ⟨by exact vin_of (by omega) (by omega), ?_⟩
          refine ⟨by exact vin_of (by omega) (by omega), ?_⟩
          refine ⟨fun c5 => ?_, fun c5 => ?_⟩
          · have c5 : ((μ.1 23 a.toNatClampNeg)).toInt = ((μ.1 23 c.toNatClampNeg)).toInt := eq32.mp c5
            refine ⟨fun c6 => ?_, fun c6 => ?_⟩
            · have c6 : (f).toInt < (0 : Int) := lt32.mp c6
              first
                | exact hb (by omega)
                | exact hm (by omega) (by omega)
                | exact hu (by omega) (by assumption) (by assumption) (by assumption)
                | exact ho (by omega) (by assumption) (by assumption) (by assumption) (by unfold okCp; omega)
                | (have z1 := sz a (by omega) (by omega) (by assumption) (by omega)
                   exact ho (by omega) (by assumption) (by assumption) (by assumption) (by unfold okCp; omega))
                | (have z2 := sz c (by omega) (by omega) (by assumption) (by omega)
                   exact ho (by omega) (by assumption) (by assumption) (by assumption) (by unfold okCp; omega))
            · have c6 : ¬ (f).toInt < (0 : Int) := fun z => c6 (lt32.mpr z)
              refine ⟨fun c7 => ?_, fun c7 => ?_⟩
              · have c7 : (b).toInt < (0 : Int) := lt32.mp c7
                first
                  | exact hb (by omega)
                  | exact hm (by omega) (by omega)
                  | exact hu (by omega) (by assumption) (by assumption) (by assumption)
                  | exact ho (by omega) (by assumption) (by assumption) (by assumption) (by unfold okCp; omega)
                  | (have z1 := sz a (by omega) (by omega) (by assumption) (by omega)
                     exact ho (by omega) (by assumption) (by assumption) (by assumption) (by unfold okCp; omega))
                  | (have z2 := sz c (by omega) (by omega) (by assumption) (by omega)
                     exact ho (by omega) (by assumption) (by assumption) (by assumption) (by unfold okCp; omega))
              · have c7 : ¬ (b).toInt < (0 : Int) := fun z => c7 (lt32.mpr z)
                refine ⟨fun c8 => ?_, fun c8 => ?_⟩
                · have c8 : (e).toInt < (0 : Int) := lt32.mp c8
                  first
                    | exact hb (by omega)
                    | exact hm (by omega) (by omega)
                    | exact hu (by omega) (by assumption) (by assumption) (by assumption)
                    | exact ho (by omega) (by assumption) (by assumption) (by assumption) (by unfold okCp; omega)
                    | (have z1 := sz a (by omega) (by omega) (by assumption) (by omega)
                       exact ho (by omega) (by assumption) (by assumption) (by assumption) (by unfold okCp; omega))
                    | (have z2 := sz c (by omega) (by omega) (by assumption) (by omega)
                       exact ho (by omega) (by assumption) (by assumption) (by assumption) (by unfold okCp; omega))
                · have c8 : ¬ (e).toInt < (0 : Int) := fun z => c8 (lt32.mpr z)
                  refine ⟨by exact vin_of (by omega) (by omega), ?_⟩
                  refine ⟨fun c9 => ?_, fun c9 => ?_⟩
                  · have c9 : (((μ.1 24 a.toNatClampNeg) - f)).toInt < (b).toInt := lt32.mp c9
                    first
                      | exact hb (by omega)
                      | exact hm (by omega) (by omega)
                      | exact hu (by omega) (by assumption) (by assumption) (by assumption)
                      | exact ho (by omega) (by assumption) (by assumption) (by assumption) (by unfold okCp; omega)
                      | (have z1 := sz a (by omega) (by omega) (by assumption) (by omega)
                         exact ho (by omega) (by assumption) (by assumption) (by assumption) (by unfold okCp; omega))
                      | (have z2 := sz c (by omega) (by omega) (by assumption) (by omega)
                         exact ho (by omega) (by assumption) (by assumption) (by assumption) (by unfold okCp; omega))
                  · have c9 : ¬ (((μ.1 24 a.toNatClampNeg) - f)).toInt < (b).toInt := fun z => c9 (lt32.mpr z)
                    refine ⟨by exact vin_of (by omega) (by omega), ?_⟩
                    refine ⟨fun c10 => ?_, fun c10 => ?_⟩
                    · have c10 : (e).toInt ≤ (((μ.1 24 c.toNatClampNeg) - f)).toInt := le32.mp c10
                      refine ⟨fun c11 => ?_, fun c11 => ?_⟩
                      · have c11 : ¬ (a).toInt = (c).toInt := fun z => c11 (eq32.mpr z)
                        have zz0 : (0 : Int32).toInt = 0 := rfl
                        have zz1 : (1 : Int32).toInt = 1 := rfl
                        have z1 := sz a (by omega) (by omega) (by assumption) (by omega)
                        have z2 := sz c (by omega) (by omega) (by assumption) (by omega)
                        exact key (by omega) (by assumption) (by assumption) (by assumption) ⟨by omega, by omega, by omega, by omega, by omega⟩ _ (by omega) (by omega)
                      · have c11 : (a).toInt = (c).toInt := eq32.mp c11
                        refine ⟨fun c12 => ?_, fun c12 => ?_⟩
                        · have c12 : (e).toInt ≤ (b).toInt := le32.mp c12
                          have zz0 : (0 : Int32).toInt = 0 := rfl
                          have zz1 : (1 : Int32).toInt = 1 := rfl
                          have z1 := sz a (by omega) (by omega) (by assumption) (by omega)
                          have z2 := sz c (by omega) (by omega) (by assumption) (by omega)
                          exact key (by omega) (by assumption) (by assumption) (by assumption) ⟨by omega, by omega, by omega, by omega, by omega⟩ _ (by omega) (by omega)
                        · have c12 : ¬ (e).toInt ≤ (b).toInt := fun z => c12 (le32.mpr z)
                          have zz0 : (0 : Int32).toInt = 0 := rfl
                          have zz1 : (1 : Int32).toInt = 1 := rfl
                          have z1 := sz a (by omega) (by omega) (by assumption) (by omega)
                          have z2 := sz c (by omega) (by omega) (by assumption) (by omega)
                          exact key (by omega) (by assumption) (by assumption) (by assumption) ⟨by omega, by omega, by omega, by omega, by omega⟩ _ (by omega) (by omega)
                    · have c10 : ¬ (e).toInt ≤ (((μ.1 24 c.toNatClampNeg) - f)).toInt := fun z => c10 (le32.mpr z)
                      first
                        | exact hb (by omega)
                        | exact hm (by omega) (by omega)
                        | exact hu (by omega) (by assumption) (by assumption) (by assumption)
                        | exact ho (by omega) (by assumption) (by assumption) (by assumption) (by unfold okCp; omega)
                        | (have z1 := sz a (by omega) (by omega) (by assumption) (by omega)
                           exact ho (by omega) (by assumption) (by assumption) (by assumption) (by unfold okCp; omega))
                        | (have z2 := sz c (by omega) (by omega) (by assumption) (by omega)
                           exact ho (by omega) (by assumption) (by assumption) (by assumption) (by unfold okCp; omega))
          · have c5 : ¬ ((μ.1 23 a.toNatClampNeg)).toInt = ((μ.1 23 c.toNatClampNeg)).toInt := fun z => c5 (eq32.mpr z)
            first
              | exact hb (by omega)
              | exact hm (by omega) (by omega)
              | exact hu (by omega) (by assumption) (by assumption) (by assumption)
              | exact ho (by omega) (by assumption) (by assumption) (by assumption) (by unfold okCp; omega)
              | (have z1 := sz a (by omega) (by omega) (by assumption) (by omega)
                 exact ho (by omega) (by assumption) (by assumption) (by assumption) (by unfold okCp; omega))
              | (have z2 := sz c (by omega) (by omega) (by assumption) (by omega)
                 exact ho (by omega) (by assumption) (by assumption) (by assumption) (by unfold okCp; omega))
        · have c4 : ((μ.1 22 c.toNatClampNeg)).toInt = (0 : Int) := eq32.mp c4
          first
            | exact hb (by omega)
            | exact hm (by omega) (by omega)
            | exact hu (by omega) (by assumption) (by assumption) (by assumption)
            | exact ho (by omega) (by assumption) (by assumption) (by assumption) (by unfold okCp; omega)
            | (have z1 := sz a (by omega) (by omega) (by assumption) (by omega)
               exact ho (by omega) (by assumption) (by assumption) (by assumption) (by unfold okCp; omega))
            | (have z2 := sz c (by omega) (by omega) (by assumption) (by omega)
               exact ho (by omega) (by assumption) (by assumption) (by assumption) (by unfold okCp; omega))
    · first
        | exact hb (by omega)
        | exact hm (by omega) (by omega)
        | exact hu (by omega) (by assumption) (by assumption) (by assumption)
        | exact ho (by omega) (by assumption) (by assumption) (by assumption) (by unfold okCp; omega)
        | (have z1 := sz a (by omega) (by omega) (by assumption) (by omega)
           exact ho (by omega) (by assumption) (by assumption) (by assumption) (by unfold okCp; omega))
        | (have z2 := sz c (by omega) (by omega) (by assumption) (by omega)
           exact ho (by omega) (by assumption) (by assumption) (by assumption) (by unfold okCp; omega))
/-- one row of three after the other -/
theorem M_writers_ok {d : Nat} {Q : QQ} {μ : Mem} {a b c e : Int32} (hsh : shM μ) (J : Nat → Int32 → Mem → Prop) (hcnt : ∀ k v t, J k v t → rng (t.1 0 14) 0 5 ∧ t.1 22 = μ.1 22 ∧ t.1 23 = μ.1 23 ∧ t.1 24 = μ.1 24 ∧ t.1 25 = μ.1 25)
    (hJ0 : J 0 0 μ) (hb : ¬ (0 ≤ a.toInt ∧ a.toInt ≤ 3 ∧ 0 ≤ b.toInt ∧ b.toInt ≤ 2 ∧ 0 ≤ e.toInt ∧ e.toInt ≤ 5) → Q (.int (-2)) μ)
    (hm : 0 ≤ a.toInt ∧ a.toInt ≤ 3 ∧ 0 ≤ b.toInt ∧ b.toInt ≤ 2 ∧ 0 ≤ e.toInt ∧ e.toInt ≤ 5 → (μ.1 22 a.toNatClampNeg).toInt = 0 → Q (.int (-11)) μ)
    (hu : 0 ≤ a.toInt ∧ a.toInt ≤ 3 ∧ 0 ≤ b.toInt ∧ b.toInt ≤ 2 ∧ 0 ≤ e.toInt ∧ e.toInt ≤ 5 → ¬ (μ.1 22 a.toNatClampNeg).toInt = 0 → ¬ (μ.1 23 a.toNatClampNeg).toInt = b.toInt → Q (.int (-13)) μ)
    (hx : 0 ≤ a.toInt ∧ a.toInt ≤ 3 ∧ 0 ≤ b.toInt ∧ b.toInt ≤ 2 ∧ 0 ≤ e.toInt ∧ e.toInt ≤ 5 → ¬ (μ.1 22 a.toNatClampNeg).toInt = 0 → (μ.1 23 a.toNatClampNeg).toInt = b.toInt → ∀ v t, J e.toNatClampNeg v t → Q (.int v) t)
    (ho : 0 ≤ a.toInt ∧ a.toInt ≤ 3 ∧ 0 ≤ b.toInt ∧ b.toInt ≤ 2 ∧ 0 ≤ e.toInt ∧ e.toInt ≤ 5 → ¬ (μ.1 22 a.toNatClampNeg).toInt = 0 → (μ.1 23 a.toNatClampNeg).toInt = b.toInt → ∀ k v t, k < e.toNatClampNeg → J k v t → ¬ (0 ≤ c.toInt ∧ c.toInt + 3 * k + 3 ≤ (μ.1 24 a.toNatClampNeg).toInt) → Q (.int (-12)) t)
    (hs : 0 ≤ a.toInt ∧ a.toInt ≤ 3 ∧ 0 ≤ b.toInt ∧ b.toInt ≤ 2 ∧ 0 ≤ e.toInt ∧ e.toInt ≤ 5 → ¬ (μ.1 22 a.toNatClampNeg).toInt = 0 → (μ.1 23 a.toNatClampNeg).toInt = b.toInt → ∀ k v t, k < e.toNatClampNeg → J k v t → 0 ≤ c.toInt ∧ c.toInt + 3 * k + 3 ≤ (μ.1 24 a.toNatClampNeg).toInt →
      (let p := 40 * a.toNatClampNeg + c.toNatClampNeg + 3 * k
       (¬ (okWr (μ.1 25 p) (μ.1 25 (p + 1)) (μ.1 25 (p + 2)) ∧ (t.1 0 14).toInt < 5) → J (k + 1) v t) ∧
       (okWr (μ.1 25 p) (μ.1 25 (p + 1)) (μ.1 25 (p + 2)) → (t.1 0 14).toInt < 5 → ∀ t', Only [0, 7, 8, 9] t t' → t'.1 7 = upd (t.1 7) (t.1 0 14).toNatClampNeg (μ.1 25 p) → t'.1 8 = upd (t.1 8) (t.1 0 14).toNatClampNeg (μ.1 25 (p + 1)) → t'.1 9 = upd (t.1 9) (t.1 0 14).toNatClampNeg (μ.1 25 (p + 2)) → t'.1 0 = upd (t.1 0) 14 (t.1 0 14 + 1) → J (k + 1) (v + 1) t'))) : Call (d + 3) y_M_writers [.ref 0, .int a, .int b, .int c, .int e] μ Q := by
  have key : 0 ≤ a.toInt ∧ a.toInt ≤ 3 ∧ 0 ≤ b.toInt ∧ b.toInt ≤ 2 ∧ 0 ≤ e.toInt ∧ e.toInt ≤ 5 → ¬ (μ.1 22 a.toNatClampNeg).toInt = 0 → (μ.1 23 a.toNatClampNeg).toInt = b.toInt → AA (Call (d + 2)) y_M_writers Q 41 [.ref 0, .int a, .int b, .int c, .int e, .int 0, .int 0, un] [] μ := by
    intro h1 h2 h3
    obtain ⟨sa, hsa, ea, ea2⟩ := nI_ex (x := a) h1.1
    obtain ⟨n, hn, en, en2⟩ := nI_ex (x := e) h1.2.2.2.2.1
    have ca : a.toNatClampNeg = sa := by rw [ea]; exact nI_c hsa
    have cn : e.toNatClampNeg = n := by rw [en]; exact nI_c hn
    have s1 := hsh sa (by omega) (by rw [← ca]; exact h2)
    obtain ⟨s2, s3⟩ := s1
    have g := loopN (G := fun i t => AA (Call (d + 2)) y_M_writers Q 41 [.ref 0, .int a, .int b, .int c, .int e, .int t.1, .int (nI i), un] [] t.2) (P := fun i t => J i t.1 t.2) (N := n) ?_ ?_ 0 ((0 : Int32), μ) (by omega) hJ0
    · exact g
    · intro t q1
      exact b_M_writers_41 ⟨fun _ => hx h1 h2 h3 _ _ (by rw [cn]; exact q1), fun z => absurd (le32.mpr (by rw [en2, nI_i hn]; omega)) z⟩
    · intro i ⟨v, t⟩ hi q1 ih
      dsimp only at q1 ih ⊢
      obtain ⟨j1, j2, j3, j4, j5⟩ := hcnt _ _ _ q1
      have ei := nI_i (n := i) (by omega)
      have e3 : (3 : Int32) * nI i = nI (3 * i) := pk_mul 3 i
      have e4 : (t.1 24 a.toNatClampNeg - (3 * nI i) - 3).toInt = (μ.1 24 sa).toInt - 3 * i - 3 := by
        rw [j4, ca, e3]
        have k1 : (μ.1 24 sa - nI (3 * i)).toInt = (μ.1 24 sa).toInt - 3 * i := by
          rw [sub32 (by rw [nI_i (by omega)]; omega) (by rw [nI_i (by omega)]; omega), nI_i (by omega)]
          omega
        rw [sub32 (by rw [k1]; show _ ≤ _ - (3 : Int); omega) (by rw [k1]; show _ - (3 : Int) < _; omega), k1]
        rfl
      have bad : ¬ (0 ≤ c.toInt ∧ c.toInt + 3 * i + 3 ≤ (μ.1 24 sa).toInt) → Q (.int (-12)) t := fun z => ho h1 h2 h3 i v t (by rw [cn]; exact hi) q1 (by rw [ca]; exact z)
      refine b_M_writers_41 ⟨fun z => absurd (le32.mp z) (by rw [en2, ei]; omega), fun _ => ⟨fun z => bad (by have z : c.toInt < 0 := lt32.mp z; omega), fun z0 => ⟨vin_of (by omega) (by omega), fun z => ?_, fun z => bad (fun w => z (le32.mpr (by rw [e4]; omega)))⟩⟩⟩
      have z0 : ¬ c.toInt < 0 := fun w => z0 (lt32.mpr w)
      have z : c.toInt ≤ (μ.1 24 sa).toInt - 3 * i - 3 := by rw [← e4]; exact le32.mp z
      obtain ⟨nc, hnc, ec, ec2⟩ := nI_ex (x := c) (by omega)
      have cc : c.toNatClampNeg = nc := by rw [ec]; exact nI_c hnc
      have ep : (40 : Int32) * a + c + 3 * nI i = nI (40 * sa + nc + 3 * i) := by rw [e3, ea, ec, n40']
      have ep1 : nI (40 * sa + nc + 3 * i) + 1 = nI (40 * sa + nc + 3 * i + 1) := nI_1 _
      have ep2 : nI (40 * sa + nc + 3 * i) + 2 = nI (40 * sa + nc + 3 * i + 2) := nI_add _ 2
      rw [ep, ep1, ep2, nI_c (by omega), nI_c (by omega), nI_c (by omega), j5]
      refine ⟨nI_v (by omega) (by omega), nI_v (by omega) (by omega), nI_v (by omega) (by omega), ?_⟩
      have hh := hs h1 h2 h3 i v t (by rw [cn]; exact hi) q1 (by rw [ca]; omega)
      dsimp only at hh
      rw [ca, cc] at hh
      obtain ⟨hh1, hh2⟩ := hh
      have nxt : ∀ v' t', J (i + 1) v' t' → AA (Call (d + 2)) y_M_writers Q 41 [.ref 0, .int a, .int b, .int c, .int e, .int v', .int (nI i + 1), .int (nI (40 * sa + nc + 3 * i))] [] t' := by
        intro v' t' hj
        rw [nI_1]
        exact AA_weak (lv := [.ref 0, .int a, .int b, .int c, .int e, .int v', .int (nI (i + 1)), un]) ⟨Or.inl rfl, Or.inl rfl, Or.inl rfl, Or.inl rfl, Or.inl rfl, Or.inl rfl, Or.inl rfl, Or.inr ⟨rfl, rfl⟩, trivial⟩ (ih (v', t') hj)
      refine M_writer_ok j1 (fun w => ⟨_, rfl, fun _ => ?_, fun y => absurd (by decide) y⟩) (fun w w2 => ⟨_, rfl, fun _ => ?_, fun y => absurd (by decide) y⟩) (fun w w2 t' o1 o2 o3 o4 o5 => ⟨_, rfl, fun y => absurd (lt32.mp y) (by have := j1.1; show ¬ _ < (0 : Int); omega), fun _ => ?_⟩)
      · rw [Int32.add_zero]
        exact nxt _ _ (hh1 (fun y => w y.1))
      · rw [Int32.add_zero]
        exact nxt _ _ (hh1 (fun y => by omega))
      · exact nxt _ _ (hh2 w w2 t' o1 o2 o3 o4 o5)
  refine b_M_writers_0 ?_
  refine M_isSheet_ok ⟨_, rfl, ?_⟩
  refine b_z (fun c1 => ?_) (fun c1 => ?_)
  · first
      | exact hb (by omega)
      | exact hm (by omega) (by assumption)
      | exact hu (by omega) (by assumption) (by assumption)
      | (exfalso; contradiction)
  · refine M_in_ok (A := (b).toInt) (B := (0 : Int)) (C := (2 : Int)) (lI _) rfl rfl ⟨_, rfl, ?_⟩
    refine b_z (fun c2 => ?_) (fun c2 => ?_)
    · first
        | exact hb (by omega)
        | exact hm (by omega) (by assumption)
        | exact hu (by omega) (by assumption) (by assumption)
        | (exfalso; contradiction)
    · refine M_in_ok (A := (e).toInt) (B := (0 : Int)) (C := (5 : Int)) (lI _) rfl rfl ⟨_, rfl, ?_⟩
      refine b_nz (fun c3 => ?_) (fun c3 => ?_)
      · refine ⟨by exact vin_of (by omega) (by omega), ?_⟩
        refine ⟨fun c4 => ?_, fun c4 => ?_⟩
        · have c4 : ((μ.1 22 a.toNatClampNeg)).toInt = (0 : Int) := eq32.mp c4
          refine ⟨by exact vin_of (by omega) (by omega), ?_⟩
          refine ⟨fun c5 => ?_, fun c5 => ?_⟩
          · have c5 : ¬ ((μ.1 22 a.toNatClampNeg)).toInt = (0 : Int) := fun z => c5 (eq32.mpr z)
            first | (exfalso; contradiction) | exact key (by omega) (by assumption) (by assumption)
          · have c5 : ((μ.1 22 a.toNatClampNeg)).toInt = (0 : Int) := eq32.mp c5
            first
              | exact hb (by omega)
              | exact hm (by omega) (by assumption)
              | exact hu (by omega) (by assumption) (by assumption)
              | (exfalso; contradiction)
        · have c4 : ¬ ((μ.1 22 a.toNatClampNeg)).toInt = (0 : Int) := fun z => c4 (eq32.mpr z)
          refine ⟨by exact vin_of (by omega) (by omega), ?_⟩
          refine ⟨fun c6 => ?_, fun c6 => ?_⟩
          · have c6 : ((μ.1 23 a.toNatClampNeg)).toInt = (b).toInt := eq32.mp c6
            refine ⟨by exact vin_of (by omega) (by omega), ?_⟩
            refine ⟨fun c7 => ?_, fun c7 => ?_⟩
            · have c7 : ¬ ((μ.1 22 a.toNatClampNeg)).toInt = (0 : Int) := fun z => c7 (eq32.mpr z)
              first | (exfalso; contradiction) | exact key (by omega) (by assumption) (by assumption)
            · have c7 : ((μ.1 22 a.toNatClampNeg)).toInt = (0 : Int) := eq32.mp c7
              first
                | exact hb (by omega)
                | exact hm (by omega) (by assumption)
                | exact hu (by omega) (by assumption) (by assumption)
                | (exfalso; contradiction)
          · have c6 : ¬ ((μ.1 23 a.toNatClampNeg)).toInt = (b).toInt := fun z => c6 (eq32.mpr z)
            first
              | exact hb (by omega)
              | exact hm (by omega) (by assumption)
              | exact hu (by omega) (by assumption) (by assumption)
              | (exfalso; contradiction)
      · first
          | exact hb (by omega)
          | exact hm (by omega) (by assumption)
          | exact hu (by omega) (by assumption) (by assumption)
          | (exfalso; contradiction)
end
section
/-! ===== the reference: the image ===== -/
theorem n5 (k i : Nat) : nI k + nI i = nI (k + i) := nI_add k i
def imgM (μ μ' : Mem) : Prop := (∀ j, j < 8 → μ'.1 19 j = μ.1 4 j) ∧ (∀ j, j < 5 → μ'.1 20 j = μ.1 7 j ∧ μ'.1 20 (5 + j) = μ.1 8 j ∧ μ'.1 20 (10 + j) = μ.1 9 j) ∧ (∀ j, j < 6 → μ'.1 21 j = μ.1 11 j) ∧ μ'.1 0 = upd (upd (upd (upd (upd (μ.1 0) 51 (μ.1 0 14)) 52 (μ.1 0 10)) 53 (μ.1 0 17)) 54 (μ.1 0 18)) 55 (μ.1 0 4)
theorem M_image_ok {d : Nat} {Q : QQ} {μ : Mem} (hQ : ∀ μ', Only [0, 19, 20, 21] μ μ' → imgM μ μ' → Q (.int (μ.1 0 14)) μ') : Call (d + 1) y_M_image [.ref 0] μ Q := by
  refine b_M_image_0 ?_
  refine loopN (G := fun i t => AA (Call d) y_M_image Q 2 [.ref 0, .int (nI i)] [] t) (P := fun i t => Only [19] μ t ∧ ∀ j, j < i → t.1 19 j = μ.1 4 j) (N := 8) ?_ ?_ 0 μ (by omega) ⟨Only.rf, fun j hj => absurd hj (by omega)⟩
  · intro μ1 ⟨a1, a2⟩
    refine b_M_image_2 ⟨fun _ => ?_, fun z => absurd (by decide) z⟩
    refine loopN (G := fun i t => AA (Call d) y_M_image Q 17 [.ref 0, .int (nI i)] [] t) (P := fun i t => Only [20] μ1 t ∧ ∀ j, j < i → t.1 20 j = μ1.1 7 j ∧ t.1 20 (5 + j) = μ1.1 8 j ∧ t.1 20 (10 + j) = μ1.1 9 j) (N := 5) ?_ ?_ 0 μ1 (by omega) ⟨Only.rf, fun j hj => absurd hj (by omega)⟩
    · intro μ2 ⟨b1, b2⟩
      refine b_M_image_17 ⟨fun _ => ?_, fun z => absurd (by decide) z⟩
      refine loopN (G := fun i t => AA (Call d) y_M_image Q 52 [.ref 0, .int (nI i)] [] t) (P := fun i t => Only [21] μ2 t ∧ ∀ j, j < i → t.1 21 j = μ2.1 11 j) (N := 6) ?_ ?_ 0 μ2 (by omega) ⟨Only.rf, fun j hj => absurd hj (by omega)⟩
      · intro μ3 ⟨c1, c2⟩
        refine b_M_image_52 ⟨fun _ => ?_, fun z => absurd (by decide) z⟩
        intro μ4 e4 μ5 e5 μ6 e6 μ7 e7 μ8 e8
        have o : Only [19, 20, 21] μ μ3 := ((a1.mono (by simp)).trans (b1.mono (by simp))).trans (c1.mono (by simp))
        have o0 : μ3.1 0 = μ.1 0 := o.i 0
        have h8 : μ8 = wI μ3 0 (upd (upd (upd (upd (upd (μ.1 0) 51 (μ.1 0 14)) 52 (μ.1 0 10)) 53 (μ.1 0 17)) 54 (μ.1 0 18)) 55 (μ.1 0 4)) := by
          subst_vars
          rw [o0]
          unfold wI
          congr 1
          funext z
          by_cases hz : z = 0
          · simp [hz, upd]
          · simp [hz]
        refine Qi (hQ μ8 ?_ ?_) ?_
        · rw [h8]
          exact (o.mono (by simp)).trans Only.w
        · rw [h8]
          refine ⟨fun j hj => ?_, fun j hj => ?_, fun j hj => ?_, ?_⟩
          · rw [wI_n (by decide), c1.i 19, b1.i 19, a2 j hj]
          · rw [wI_n (by decide), c1.i 20]
            have := b2 j hj
            rw [a1.i 7, a1.i 8, a1.i 9] at this
            exact this
          · rw [wI_n (by decide), c2 j hj, b1.i 11, a1.i 11]
          · rw [wI_s]
        · rw [h8, wI_s]
          simp [upd]
      · intro i t hi ⟨q1, q2⟩ ih
        have e := nI_i (n := i) (by omega)
        refine b_M_image_52 ⟨fun z => absurd (le32.mp z) (by rw [e]; show ¬ (6 : Int) ≤ _; omega), fun _ => ⟨nI_v hi (by omega), nI_v hi (by omega), fun ν e1 => ?_⟩⟩
        rw [nI_1]
        refine ih _ ⟨q1.trans (by rw [e1]; exact Only.w), fun j hj => ?_⟩
        rw [e1, wI_s, nI_c (by omega), q1.i 11]
        by_cases q : j = i
        · rw [q, upd_s]
        · rw [upd_n q]; exact q2 j (by omega)
    · intro i t hi ⟨q1, q2⟩ ih
      have e := nI_i (n := i) (by omega)
      refine b_M_image_17 ⟨fun z => absurd (le32.mp z) (by rw [e]; show ¬ (5 : Int) ≤ _; omega), fun _ => ?_⟩
      have e5 : (5 : Int32) + nI i = nI (5 + i) := nI_add 5 i
      have e10 : (10 : Int32) + nI i = nI (10 + i) := nI_add 10 i
      rw [e5, e10, nI_c (by omega), nI_c (by omega), nI_c (by omega), nI_1]
      refine ⟨nI_v hi (by omega), nI_v (by omega) (by omega), fun ν1 e1 => ⟨nI_v hi (by omega), nI_v (by omega) (by omega), fun ν2 e2 => ⟨nI_v hi (by omega), nI_v (by omega) (by omega), fun ν3 e3 => ?_⟩⟩⟩
      refine ih _ ⟨q1.trans (by subst_vars; intro k hk; simp at hk; simp [wI, hk]), fun j hj => ?_⟩
      have x7 : t.1 7 = μ1.1 7 := q1.i 7
      have x8 : t.1 8 = μ1.1 8 := q1.i 8
      have x9 : t.1 9 = μ1.1 9 := q1.i 9
      have hv : ∀ z, ν3.1 20 z = upd (upd (upd (t.1 20) i (μ1.1 7 i)) (5 + i) (μ1.1 8 i)) (10 + i) (μ1.1 9 i) z := by
        intro z
        subst_vars
        simp [wI, x7, x8, x9]
      rw [hv, hv, hv]
      by_cases q : j = i
      · subst q
        refine ⟨?_, ?_, ?_⟩
        · rw [upd_n (by omega), upd_n (by omega), upd_s]
        · rw [upd_n (by omega), upd_s]
        · rw [upd_s]
      · have := q2 j (by omega)
        refine ⟨?_, ?_, ?_⟩
        · rw [upd_n (by omega), upd_n (by omega), upd_n (by omega)]; exact this.1
        · rw [upd_n (by omega), upd_n (by omega), upd_n (by omega)]; exact this.2.1
        · rw [upd_n (by omega), upd_n (by omega), upd_n (by omega)]; exact this.2.2
  · intro i t hi ⟨q1, q2⟩ ih
    have e := nI_i (n := i) (by omega)
    refine b_M_image_2 ⟨fun z => absurd (le32.mp z) (by rw [e]; show ¬ (8 : Int) ≤ _; omega), fun _ => ⟨nI_v hi (by omega), nI_v hi (by omega), fun ν e1 => ?_⟩⟩
    rw [nI_1]
    refine ih _ ⟨q1.trans (by rw [e1]; exact Only.w), fun j hj => ?_⟩
    rw [e1, wI_s, nI_c (by omega), q1.i 4]
    by_cases q : j = i
    · rw [q, upd_s]
    · rw [upd_n q]; exact q2 j (by omega)
theorem M_back_ok {d : Nat} {Q : QQ} {μ : Mem} (hn : (μ.1 0 51).toInt = -1 → Q (.int (-3)) μ) (hQ : ¬ (μ.1 0 51).toInt = -1 → ∀ μ', Only [0, 4, 7, 8, 9, 11] μ μ' → (∀ j, j < 8 → μ'.1 4 j = μ.1 19 j) → (∀ j, j < 5 → μ'.1 7 j = μ.1 20 j ∧ μ'.1 8 j = μ.1 20 (5 + j) ∧ μ'.1 9 j = μ.1 20 (10 + j)) → (∀ j, j < 6 → μ'.1 11 j = μ.1 21 j) → μ'.1 0 = upd (upd (upd (upd (upd (μ.1 0) 14 (μ.1 0 51)) 10 (μ.1 0 52)) 17 (μ.1 0 53)) 18 (μ.1 0 54)) 4 (μ.1 0 55) → Q (.int (μ.1 0 51)) μ') : Call (d + 1) y_M_back [.ref 0] μ Q := by
  refine b_M_back_0 ⟨fun c0 => ?_, fun c0 => hn (eq32.mp c0)⟩
  have c0 : ¬ (μ.1 0 51).toInt = -1 := fun z => c0 (eq32.mpr z)
  refine loopN (G := fun i t => AA (Call d) y_M_back Q 8 [.ref 0, .int (nI i)] [] t) (P := fun i t => Only [4] μ t ∧ ∀ j, j < i → t.1 4 j = μ.1 19 j) (N := 8) ?_ ?_ 0 μ (by omega) ⟨Only.rf, fun j hj => absurd hj (by omega)⟩
  · intro μ1 ⟨a1, a2⟩
    refine b_M_back_8 ⟨fun _ => ?_, fun z => absurd (by decide) z⟩
    refine loopN (G := fun i t => AA (Call d) y_M_back Q 23 [.ref 0, .int (nI i)] [] t) (P := fun i t => Only [7, 8, 9] μ1 t ∧ ∀ j, j < i → t.1 7 j = μ1.1 20 j ∧ t.1 8 j = μ1.1 20 (5 + j) ∧ t.1 9 j = μ1.1 20 (10 + j)) (N := 5) ?_ ?_ 0 μ1 (by omega) ⟨Only.rf, fun j hj => absurd hj (by omega)⟩
    · intro μ2 ⟨b1, b2⟩
      refine b_M_back_23 ⟨fun _ => ?_, fun z => absurd (by decide) z⟩
      refine loopN (G := fun i t => AA (Call d) y_M_back Q 58 [.ref 0, .int (nI i)] [] t) (P := fun i t => Only [11] μ2 t ∧ ∀ j, j < i → t.1 11 j = μ2.1 21 j) (N := 6) ?_ ?_ 0 μ2 (by omega) ⟨Only.rf, fun j hj => absurd hj (by omega)⟩
      · intro μ3 ⟨c1, c2⟩
        refine b_M_back_58 ⟨fun _ => ?_, fun z => absurd (by decide) z⟩
        intro μ4 e4 μ5 e5 μ6 e6 μ7 e7 μ8 e8
        have o : Only [4, 7, 8, 9, 11] μ μ3 := ((a1.mono (by simp)).trans (b1.mono (by simp))).trans (c1.mono (by simp))
        have o0 : μ3.1 0 = μ.1 0 := o.i 0
        have h8 : μ8 = wI μ3 0 (upd (upd (upd (upd (upd (μ.1 0) 14 (μ.1 0 51)) 10 (μ.1 0 52)) 17 (μ.1 0 53)) 18 (μ.1 0 54)) 4 (μ.1 0 55)) := by
          subst_vars
          rw [o0]
          unfold wI
          congr 1
          funext z
          by_cases hz : z = 0
          · simp [hz, upd]
          · simp [hz]
        refine Qi (hQ c0 μ8 ?_ ?_ ?_ ?_ ?_) ?_
        · rw [h8]
          exact (o.mono (by simp)).trans Only.w
        · intro j hj
          rw [h8, wI_n (by decide), c1.i 4, b1.i 4, a2 j hj]
        · intro j hj
          rw [h8, wI_n (by decide), wI_n (by decide), wI_n (by decide), c1.i 7, c1.i 8, c1.i 9]
          have := b2 j hj
          rw [a1.i 20] at this
          exact this
        · intro j hj
          rw [h8, wI_n (by decide), c2 j hj, b1.i 21, a1.i 21]
        · rw [h8, wI_s]
        · rw [h8, wI_s]
          simp [upd]
      · intro i t hi ⟨q1, q2⟩ ih
        have e := nI_i (n := i) (by omega)
        refine b_M_back_58 ⟨fun z => absurd (le32.mp z) (by rw [e]; show ¬ (6 : Int) ≤ _; omega), fun _ => ⟨nI_v hi (by omega), nI_v hi (by omega), fun ν e1 => ?_⟩⟩
        rw [nI_1]
        refine ih _ ⟨q1.trans (by rw [e1]; exact Only.w), fun j hj => ?_⟩
        rw [e1, wI_s, nI_c (by omega), q1.i 21]
        by_cases q : j = i
        · rw [q, upd_s]
        · rw [upd_n q]; exact q2 j (by omega)
    · intro i t hi ⟨q1, q2⟩ ih
      have e := nI_i (n := i) (by omega)
      refine b_M_back_23 ⟨fun z => absurd (le32.mp z) (by rw [e]; show ¬ (5 : Int) ≤ _; omega), fun _ => ?_⟩
      have e5 : (5 : Int32) + nI i = nI (5 + i) := nI_add 5 i
      have e10 : (10 : Int32) + nI i = nI (10 + i) := nI_add 10 i
      rw [e5, e10, nI_c (by omega), nI_c (by omega), nI_c (by omega), nI_1]
      refine ⟨nI_v (by omega) (by omega), nI_v hi (by omega), fun ν1 e1 => ⟨nI_v (by omega) (by omega), nI_v hi (by omega), fun ν2 e2 => ⟨nI_v (by omega) (by omega), nI_v hi (by omega), fun ν3 e3 => ?_⟩⟩⟩
      refine ih _ ⟨q1.trans (by subst_vars; intro k hk; simp at hk; simp [wI, hk]), fun j hj => ?_⟩
      have x20 : t.1 20 = μ1.1 20 := q1.i 20
      have h7 : ν3.1 7 = upd (t.1 7) i (μ1.1 20 i) := by subst_vars; simp [wI, x20]
      have h8 : ν3.1 8 = upd (t.1 8) i (μ1.1 20 (5 + i)) := by subst_vars; simp [wI, x20]
      have h9 : ν3.1 9 = upd (t.1 9) i (μ1.1 20 (10 + i)) := by subst_vars; simp [wI, x20]
      rw [h7, h8, h9]
      by_cases q : j = i
      · subst q
        exact ⟨upd_s, upd_s, upd_s⟩
      · have := q2 j (by omega)
        rw [upd_n q, upd_n q, upd_n q]
        exact this
  · intro i t hi ⟨q1, q2⟩ ih
    have e := nI_i (n := i) (by omega)
    refine b_M_back_8 ⟨fun z => absurd (le32.mp z) (by rw [e]; show ¬ (8 : Int) ≤ _; omega), fun _ => ⟨nI_v hi (by omega), nI_v hi (by omega), fun ν e1 => ?_⟩⟩
    rw [nI_1]
    refine ih _ ⟨q1.trans (by rw [e1]; exact Only.w), fun j hj => ?_⟩
    rw [e1, wI_s, nI_c (by omega), q1.i 19]
    by_cases q : j = i
    · rw [q, upd_s]
    · rw [upd_n q]; exact q2 j (by omega)
end
section
/-! ===== the class: plain calls ===== -/
def cntX (μ : Mem) : Prop := rng (μ.1 2 3) 0 10 ∧ rng (μ.1 16 3) 0 5 ∧ rng (μ.1 20 2) 1 6 ∧ rng (μ.1 27 4) 1 6 ∧ rng (μ.1 23 1) 0 160 ∧ (0 ≤ (μ.1 20 3).toInt ∧ (μ.1 20 3).toInt < (μ.1 20 2).toInt) ∧ (0 ≤ (μ.1 27 5).toInt ∧ (μ.1 27 5).toInt < (μ.1 27 4).toInt)
theorem m1 {v : Int32} (h : 0 ≤ v.toInt) : (v - 1).toInt = v.toInt - 1 := sub32 (by show _ ≤ _ - 1; omega) (by show _ - 1 < _; have := Int32.toInt_lt v; omega)
theorem X_item_ok {d : Nat} {Q : QQ} {μ : Mem} {k : Nat} {b c : Int32} (h : 0 ≤ b.toInt ∧ b.toInt ≤ ilen 0 k) (hQ : Q (.int (if 0 ≤ c.toInt ∧ c.toInt < b.toInt then μ.1 k c.toNatClampNeg else -2)) μ) : Call (d + 2) y_X_item [.ref k, .int b, .int c] μ Q := by
  have e := m1 h.1
  refine b_X_item_0 ?_
  refine X_within_ok (A := (c).toInt) (B := (b - 1).toInt) rfl rfl ⟨_, rfl, ?_⟩
  refine b_z (fun c1 => ?_) (fun c1 => ?_)
  · (repeat' split at hQ) <;> first | exact hQ | omega
  · refine ⟨by exact vin_of (by omega) (by omega), ?_⟩
    (repeat' split at hQ) <;> first | exact hQ | omega
theorem X_put_ok {d : Nat} {Q : QQ} {μ : Mem} {k : Nat} {b c e f : Int32} (h : 0 ≤ b.toInt ∧ b.toInt ≤ ilen 0 k ∧ ilen 0 k = wlen 0 k) (hb : ¬ (0 ≤ c.toInt ∧ c.toInt < b.toInt ∧ 0 ≤ e.toInt ∧ e.toInt ≤ f.toInt) → Q (.int (-2)) μ) (hg : 0 ≤ c.toInt ∧ c.toInt < b.toInt ∧ 0 ≤ e.toInt ∧ e.toInt ≤ f.toInt → ∀ μ', μ' = wI μ k (upd (μ.1 k) c.toNatClampNeg e) → Q (.int (μ.1 k c.toNatClampNeg)) μ') : Call (d + 2) y_X_put [.ref k, .int b, .int c, .int e, .int f] μ Q := by
  have em := m1 h.1
  refine b_X_put_0 ?_
  refine X_within_ok (A := (c).toInt) (B := (b - 1).toInt) rfl rfl ⟨_, rfl, ?_⟩
  refine b_z (fun c1 => ?_) (fun c1 => ?_)
  · first | exact hb (by omega) | exact hg (by omega) _ (by assumption)
  · refine X_within_ok (A := (e).toInt) (B := (f).toInt) rfl rfl ⟨_, rfl, ?_⟩
    refine b_nz (fun c2 => ?_) (fun c2 => ?_)
    · refine ⟨by first | exact vin_of (by omega) (by omega), ?_⟩
      refine ⟨by first | exact vin_of (by omega) (by omega), ?_⟩
      intro μ5 eμ5
      first | exact hb (by omega) | exact hg (by omega) _ (by assumption)
    · first | exact hb (by omega) | exact hg (by omega) _ (by assumption)
theorem X_told_ok {d : Nat} {Q : QQ} {μ : Mem} {a b : Int32} (h : cntX μ) (hb : ¬ (0 ≤ b.toInt ∧ b.toInt ≤ 7) → Q (.int (-2)) μ)
    (hg : 0 ≤ b.toInt ∧ b.toInt ≤ 7 → Q (.int (if 0 ≤ a.toInt ∧ a.toInt < (if b.toInt = 0 then 8 else if b.toInt < 4 then (μ.1 16 3).toInt else if b.toInt < 6 then (μ.1 20 2).toInt else (μ.1 2 3).toInt) then μ.1 (if b.toInt = 0 then 1 else if b.toInt = 1 then 17 else if b.toInt = 2 then 18 else if b.toInt = 3 then 19 else if b.toInt = 4 then 22 else if b.toInt = 5 then 21 else if b.toInt = 6 then 3 else 4) a.toNatClampNeg else -2)) μ) : Call (d + 3) y_X_told [.ref 0, .int a, .int b] μ Q := by
  obtain ⟨⟨h1, h1'⟩, ⟨h2, h2'⟩, ⟨h3, h3'⟩, -⟩ := h
  have l1 : ilen 0 1 = 8 ∧ ilen 0 17 = 5 ∧ ilen 0 18 = 5 ∧ ilen 0 19 = 5 ∧ ilen 0 22 = 6 ∧ ilen 0 21 = 6 ∧ ilen 0 3 = 10 ∧ ilen 0 4 = 10 := ⟨rfl, rfl, rfl, rfl, rfl, rfl, rfl, rfl⟩
  obtain ⟨l1, l2, l3, l4, l5, l6, l7, l8⟩ := l1
  have e8 : (8 : Int32).toInt = 8 := rfl
  refine b_X_told_0 ?_
  refine ⟨fun c1 => ?_, fun c1 => ?_⟩
  · have c1 : (b).toInt = (0 : Int) := eq32.mp c1
    refine X_item_ok ⟨by omega, by omega⟩ ⟨_, rfl, ?_⟩
    first
      | exact hb (by omega)
      | (have g := hg (by omega)
         simp_all
         done)
  · have c1 : ¬ (b).toInt = (0 : Int) := fun z => c1 (eq32.mpr z)
    refine ⟨fun c2 => ?_, fun c2 => ?_⟩
    · have c2 : (b).toInt = (1 : Int) := eq32.mp c2
      refine X_item_ok ⟨by omega, by omega⟩ ⟨_, rfl, ?_⟩
      first
        | exact hb (by omega)
        | (have g := hg (by omega)
           simp_all
           done)
    · have c2 : ¬ (b).toInt = (1 : Int) := fun z => c2 (eq32.mpr z)
      refine ⟨fun c3 => ?_, fun c3 => ?_⟩
      · have c3 : (b).toInt = (2 : Int) := eq32.mp c3
        refine X_item_ok ⟨by omega, by omega⟩ ⟨_, rfl, ?_⟩
        first
          | exact hb (by omega)
          | (have g := hg (by omega)
             simp_all
             done)
      · have c3 : ¬ (b).toInt = (2 : Int) := fun z => c3 (eq32.mpr z)
        refine ⟨fun c4 => ?_, fun c4 => ?_⟩
        · have c4 : (b).toInt = (3 : Int) := eq32.mp c4
          refine X_item_ok ⟨by omega, by omega⟩ ⟨_, rfl, ?_⟩
          first
            | exact hb (by omega)
            | (have g := hg (by omega)
               simp_all
               done)
        · have c4 : ¬ (b).toInt = (3 : Int) := fun z => c4 (eq32.mpr z)
          refine ⟨fun c5 => ?_, fun c5 => ?_⟩
          · have c5 : (b).toInt = (4 : Int) := eq32.mp c5
            refine X_item_ok ⟨by omega, by omega⟩ ⟨_, rfl, ?_⟩
            first
              | exact hb (by omega)
              | (have g := hg (by omega)
                 simp_all
                 done)
          · have c5 : ¬ (b).toInt = (4 : Int) := fun z => c5 (eq32.mpr z)
            refine ⟨fun c6 => ?_, fun c6 => ?_⟩
            · have c6 : (b).toInt = (5 : Int) := eq32.mp c6
              refine X_item_ok ⟨by omega, by omega⟩ ⟨_, rfl, ?_⟩
              first
                | exact hb (by omega)
                | (have g := hg (by omega)
                   simp_all
                   done)
            · have c6 : ¬ (b).toInt = (5 : Int) := fun z => c6 (eq32.mpr z)
              refine ⟨fun c7 => ?_, fun c7 => ?_⟩
              · have c7 : (b).toInt = (6 : Int) := eq32.mp c7
                refine X_item_ok ⟨by omega, by omega⟩ ⟨_, rfl, ?_⟩
                first
                  | exact hb (by omega)
                  | (have g := hg (by omega)
                     simp_all
                     done)
              · have c7 : ¬ (b).toInt = (6 : Int) := fun z => c7 (eq32.mpr z)
                refine ⟨fun c8 => ?_, fun c8 => ?_⟩
                · have c8 : (b).toInt = (7 : Int) := eq32.mp c8
                  refine X_item_ok ⟨by omega, by omega⟩ ⟨_, rfl, ?_⟩
                  first
                    | exact hb (by omega)
                    | (have g := hg (by omega)
                       simp_all
                       done)
                · have c8 : ¬ (b).toInt = (7 : Int) := fun z => c8 (eq32.mpr z)
                  first
                    | exact hb (by omega)
                    | (have g := hg (by omega)
                       simp_all
                       done)
theorem Laws_add_ok {d : Nat} {Q : QQ} {μ : Mem} {a b : Int32} (h : 0 ≤ (μ.1 20 2).toInt) (hf : 6 ≤ (μ.1 20 2).toInt → Q (.int (-4)) μ)
    (hg : (μ.1 20 2).toInt < 6 → ∀ μ', Only [20, 21, 22] μ μ' → μ'.1 21 = upd (μ.1 21) (μ.1 20 2).toNatClampNeg a → μ'.1 22 = upd (μ.1 22) (μ.1 20 2).toNatClampNeg b → μ'.1 20 = upd (μ.1 20) 2 (μ.1 20 2 + 1) → Q (.int (μ.1 20 2)) μ') : Call (d + 1) y_Laws_add [.ref 20, .int a, .int b] μ Q := by
  have hi : (μ.1 20 2).toInt < 6 → vp_in (μ.1 20 2) 6 := fun z => vin_of h z
  refine b_Laws_add_0 ?_
  refine ⟨fun c1 => ?_, fun c1 => ?_⟩
  · have c1 : ((μ.1 20 2)).toInt < (6 : Int) := lt32.mp c1
    refine ⟨by first | exact hi (by omega) | (subst_vars; simp [wI]; exact hi (by omega)), ?_⟩
    intro μ1 eμ1
    refine ⟨by first | exact hi (by omega) | (subst_vars; simp [wI]; exact hi (by omega)), ?_⟩
    intro μ2 eμ2
    intro μ3 eμ3
    first
      | exact hf (by omega)
      | (refine Qi (hg (by omega) _ ?_ ?_ ?_ ?_) ?_ <;> subst_vars
         all_goals first | (intro k hk; simp at hk; simp [wI, hk]; done) | simp [wI, upd])
  · have c1 : ¬ ((μ.1 20 2)).toInt < (6 : Int) := fun z => c1 (lt32.mpr z)
    first
      | exact hf (by omega)
      | (refine Qi (hg (by omega) _ ?_ ?_ ?_ ?_) ?_ <;> subst_vars
         all_goals first | (intro k hk; simp at hk; simp [wI, hk]; done) | simp [wI, upd])
theorem X_law_ok {d : Nat} {Q : QQ} {μ : Mem} {a b : Int32} (h : rng (μ.1 20 2) 1 6) (hb : ¬ okLw a b → Q (.int (-2)) μ) (hf : okLw a b → (μ.1 20 2).toInt = 6 → Q (.int (-4)) μ)
    (hg : okLw a b → (μ.1 20 2).toInt < 6 → ∀ μ', Only [20, 21, 22] μ μ' → μ'.1 21 = upd (μ.1 21) (μ.1 20 2).toNatClampNeg a → μ'.1 22 = upd (μ.1 22) (μ.1 20 2).toNatClampNeg b → μ'.1 20 = upd (μ.1 20) 2 (μ.1 20 2 + 1) → Q (.int (μ.1 20 2)) μ') : Call (d + 2) y_X_law [.ref 0, .int a, .int b] μ Q := by
  obtain ⟨h1, h2⟩ := h
  refine b_X_law_0 ?_
  refine X_within_ok (A := (a).toInt) (B := (5 : Int)) rfl rfl ⟨_, rfl, ?_⟩
  refine b_z (fun c1 => ?_) (fun c1 => ?_)
  · first | exact hb (by unfold okLw; omega) | skip
  · refine X_within_ok (A := (b).toInt) (B := (9 : Int)) rfl rfl ⟨_, rfl, ?_⟩
    refine b_nz (fun c2 => ?_) (fun c2 => ?_)
    · refine Laws_add_ok (by omega) (fun z => ⟨_, rfl, hf (by unfold okLw; omega) (by omega)⟩) (fun z μ' o1 o2 o3 o4 => ⟨_, rfl, hg (by unfold okLw; omega) z μ' o1 o2 o3 o4⟩) -- ⟨_, rfl, ?_⟩
      first | exact hb (by unfold okLw; omega) | skip
    · first | exact hb (by unfold okLw; omega) | skip
theorem Writers_add_ok {d : Nat} {Q : QQ} {μ : Mem} {a b c : Int32} (h : rng (μ.1 16 3) 0 5) (hb : ¬ okWr a b c → Q (.int (-2)) μ) (hf : okWr a b c → (μ.1 16 3).toInt = 5 → Q (.int (-4)) μ)
    (hg : okWr a b c → (μ.1 16 3).toInt < 5 → ∀ μ', Only [16, 17, 18, 19] μ μ' → μ'.1 17 = upd (μ.1 17) (μ.1 16 3).toNatClampNeg a → μ'.1 18 = upd (μ.1 18) (μ.1 16 3).toNatClampNeg b → μ'.1 19 = upd (μ.1 19) (μ.1 16 3).toNatClampNeg c → μ'.1 16 = upd (μ.1 16) 3 (μ.1 16 3 + 1) → Q (.int (μ.1 16 3)) μ') : Call (d + 2) y_Writers_add [.ref 16, .int a, .int b, .int c] μ Q := by
  obtain ⟨h1, h2⟩ := h
  have hi : (μ.1 16 3).toInt < 5 → vp_in (μ.1 16 3) 5 := fun z => vin_of h1 z
  refine b_Writers_add_0 ?_
  refine X_within_ok (A := (a).toInt) (B := (3 : Int)) rfl rfl ⟨_, rfl, ?_⟩
  refine b_z (fun c1 => ?_) (fun c1 => ?_)
  · first
      | exact hb (by unfold okWr; omega)
      | exact hf (by unfold okWr; omega) (by omega)
      | (refine Qi (hg (by unfold okWr; omega) (by omega) _ ?_ ?_ ?_ ?_ ?_) ?_ <;> subst_vars
         all_goals first | (intro k hk; simp at hk; simp [wI, hk]; done) | simp [wI, upd])
  · refine X_within_ok (A := (b).toInt) (B := (23 : Int)) rfl rfl ⟨_, rfl, ?_⟩
    refine b_z (fun c2 => ?_) (fun c2 => ?_)
    · first
        | exact hb (by unfold okWr; omega)
        | exact hf (by unfold okWr; omega) (by omega)
        | (refine Qi (hg (by unfold okWr; omega) (by omega) _ ?_ ?_ ?_ ?_ ?_) ?_ <;> subst_vars
           all_goals first | (intro k hk; simp at hk; simp [wI, hk]; done) | simp [wI, upd])
    · refine X_within_ok (A := (c).toInt) (B := (9999 : Int)) rfl rfl ⟨_, rfl, ?_⟩
      refine b_nz (fun c3 => ?_) (fun c3 => ?_)
      · refine ⟨fun c4 => ?_, fun c4 => ?_⟩
        · have c4 : ((μ.1 16 3)).toInt < (5 : Int) := lt32.mp c4
          refine ⟨by first | exact hi (by omega) | (subst_vars; simp [wI]; exact hi (by omega)), ?_⟩
          intro μ7 eμ7
          refine ⟨by first | exact hi (by omega) | (subst_vars; simp [wI]; exact hi (by omega)), ?_⟩
          intro μ8 eμ8
          refine ⟨by first | exact hi (by omega) | (subst_vars; simp [wI]; exact hi (by omega)), ?_⟩
          intro μ9 eμ9
          intro μ10 eμ10
          first
            | exact hb (by unfold okWr; omega)
            | exact hf (by unfold okWr; omega) (by omega)
            | (refine Qi (hg (by unfold okWr; omega) (by omega) _ ?_ ?_ ?_ ?_ ?_) ?_ <;> subst_vars
               all_goals first | (intro k hk; simp at hk; simp [wI, hk]; done) | simp [wI, upd])
        · have c4 : ¬ ((μ.1 16 3)).toInt < (5 : Int) := fun z => c4 (lt32.mpr z)
          first
            | exact hb (by unfold okWr; omega)
            | exact hf (by unfold okWr; omega) (by omega)
            | (refine Qi (hg (by unfold okWr; omega) (by omega) _ ?_ ?_ ?_ ?_ ?_) ?_ <;> subst_vars
               all_goals first | (intro k hk; simp at hk; simp [wI, hk]; done) | simp [wI, upd])
      · first
          | exact hb (by unfold okWr; omega)
          | exact hf (by unfold okWr; omega) (by omega)
          | (refine Qi (hg (by unfold okWr; omega) (by omega) _ ?_ ?_ ?_ ?_ ?_) ?_ <;> subst_vars
             all_goals first | (intro k hk; simp at hk; simp [wI, hk]; done) | simp [wI, upd])
theorem X_writer_ok {d : Nat} {Q : QQ} {μ : Mem} {a b c : Int32} (h : rng (μ.1 16 3) 0 5) (hb : ¬ okWr a b c → Q (.int (-2)) μ) (hf : okWr a b c → (μ.1 16 3).toInt = 5 → Q (.int (-4)) μ)
    (hg : okWr a b c → (μ.1 16 3).toInt < 5 → ∀ μ', Only [16, 17, 18, 19] μ μ' → μ'.1 17 = upd (μ.1 17) (μ.1 16 3).toNatClampNeg a → μ'.1 18 = upd (μ.1 18) (μ.1 16 3).toNatClampNeg b → μ'.1 19 = upd (μ.1 19) (μ.1 16 3).toNatClampNeg c → μ'.1 16 = upd (μ.1 16) 3 (μ.1 16 3 + 1) → Q (.int (μ.1 16 3)) μ') : Call (d + 3) y_X_writer [.ref 0, .int a, .int b, .int c] μ Q := by
  refine b_X_writer_0 ?_
  exact Writers_add_ok h (fun z => ⟨_, rfl, hb z⟩) (fun z z2 => ⟨_, rfl, hf z z2⟩) (fun z z2 μ' o1 o2 o3 o4 o5 => ⟨_, rfl, hg z z2 μ' o1 o2 o3 o4 o5⟩)
theorem X_rule_ok {d : Nat} {Q : QQ} {μ : Mem} {a : Int32} (h : rng (μ.1 20 2) 1 6) (hb : ¬ (0 ≤ a.toInt ∧ a.toInt < (μ.1 20 2).toInt) → Q (.int (-2)) μ) (hg : 0 ≤ a.toInt ∧ a.toInt < (μ.1 20 2).toInt → ∀ μ', Only [20] μ μ' → μ'.1 20 = upd (μ.1 20) 3 a → Q (.int (μ.1 20 3)) μ') : Call (d + 2) y_X_rule [.ref 0, .int a] μ Q := by
  obtain ⟨h1, h2⟩ := h
  have e := m1 (v := μ.1 20 2) (by omega)
  refine b_X_rule_0 ?_
  refine X_within_ok (A := (a).toInt) (B := ((μ.1 20 2) - 1).toInt) rfl rfl ⟨_, rfl, ?_⟩
  refine b_nz (fun c1 => ?_) (fun c1 => ?_)
  · intro μ3 eμ3
    first
      | exact hb (by omega)
      | (refine hg (by omega) _ ?_ ?_ <;> subst_vars
         all_goals first | (intro k hk; simp at hk; simp [wI, hk]; done) | simp [wI, upd])
  · first
      | exact hb (by omega)
      | (refine hg (by omega) _ ?_ ?_ <;> subst_vars
         all_goals first | (intro k hk; simp at hk; simp [wI, hk]; done) | simp [wI, upd])
theorem X_force_ok {d : Nat} {Q : QQ} {μ : Mem} {a : Int32} (h : rng (μ.1 27 4) 1 6) (hb : ¬ (0 ≤ a.toInt ∧ a.toInt < (μ.1 27 4).toInt) → Q (.int (-2)) μ) (hg : 0 ≤ a.toInt ∧ a.toInt < (μ.1 27 4).toInt → ∀ μ', Only [27] μ μ' → μ'.1 27 = upd (μ.1 27) 5 a → Q (.int (μ.1 27 5)) μ') : Call (d + 2) y_X_force [.ref 0, .int a] μ Q := by
  obtain ⟨h1, h2⟩ := h
  have e := m1 (v := μ.1 27 4) (by omega)
  refine b_X_force_0 ?_
  refine X_within_ok (A := (a).toInt) (B := ((μ.1 27 4) - 1).toInt) rfl rfl ⟨_, rfl, ?_⟩
  refine b_nz (fun c1 => ?_) (fun c1 => ?_)
  · intro μ3 eμ3
    first
      | exact hb (by omega)
      | (refine hg (by omega) _ ?_ ?_ <;> subst_vars
         all_goals first | (intro k hk; simp at hk; simp [wI, hk]; done) | simp [wI, upd])
  · first
      | exact hb (by omega)
      | (refine hg (by omega) _ ?_ ?_ <;> subst_vars
         all_goals first | (intro k hk; simp at hk; simp [wI, hk]; done) | simp [wI, upd])
theorem X_sum_ok {d : Nat} {Q : QQ} {μ : Mem} (hQ : Q (.int (sum8 (μ.1 1) 8)) μ) : Call (d + 1) y_X_sum [.ref 1] μ Q := by
  refine b_X_sum_0 ?_
  refine loopN (G := fun i s => AA (Call d) y_X_sum Q 9 [.ref 1, .int s, .ref 1, .int (Int32.ofNat 8), .int (nI i), un] [] μ) (P := fun i s => s = sum8 (μ.1 1) i) (N := 8) ?_ ?_ 0 0 (by omega) rfl
  · intro s h
    subst h
    exact b_X_sum_9 ⟨fun _ => hQ, fun c => absurd (by decide) c⟩
  · intro i s hi h ih
    have e := nI_i (n := i) (by omega)
    refine b_X_sum_9 ⟨fun c => absurd (le32.mp c) (by rw [e]; show ¬ (8 : Int) ≤ _; omega), fun _ => ⟨nI_v hi (by omega), ?_⟩⟩
    rw [nI_1, nI_c (by omega)]
    refine AA_weak (lv := [.ref 1, .int (s + μ.1 1 i), .ref 1, .int (Int32.ofNat 8), .int (nI (i + 1)), un]) ⟨Or.inl rfl, Or.inl rfl, Or.inl rfl, Or.inl rfl, Or.inl rfl, Or.inr ⟨rfl, rfl⟩, trivial⟩ (ih _ (by rw [h]; rfl))
theorem X_count_ok {d : Nat} {Q : QQ} {μ : Mem} {a : Int32} (hb : ¬ (0 ≤ a.toInt ∧ a.toInt ≤ 7) → Q (.int (-2)) μ) (h7 : a.toInt = 7 → Q (.int (sum8 (μ.1 1) 8)) μ)
    (hg : 0 ≤ a.toInt ∧ a.toInt ≤ 6 → Q (.int (if a.toInt = 0 then μ.1 2 3 else if a.toInt = 1 then μ.1 16 3 else if a.toInt = 2 then μ.1 20 2 else if a.toInt = 3 then μ.1 20 3 else if a.toInt = 4 then μ.1 27 4 else if a.toInt = 5 then μ.1 23 1 else μ.1 27 5)) μ) : Call (d + 2) y_X_count [.ref 0, .int a] μ Q := by
  refine b_X_count_0 ?_
  refine ⟨fun c1 => ?_, fun c1 => ?_⟩
  · have c1 : (a).toInt = (0 : Int) := eq32.mp c1
    first
      | exact hb (by omega)
      | exact h7 (by omega)
      | ((have g := hg (by omega)); (repeat' split at g) <;> first | exact g | omega)
  · have c1 : ¬ (a).toInt = (0 : Int) := fun z => c1 (eq32.mpr z)
    refine ⟨fun c2 => ?_, fun c2 => ?_⟩
    · have c2 : (a).toInt = (1 : Int) := eq32.mp c2
      first
        | exact hb (by omega)
        | exact h7 (by omega)
        | ((have g := hg (by omega)); (repeat' split at g) <;> first | exact g | omega)
    · have c2 : ¬ (a).toInt = (1 : Int) := fun z => c2 (eq32.mpr z)
      refine ⟨fun c3 => ?_, fun c3 => ?_⟩
      · have c3 : (a).toInt = (2 : Int) := eq32.mp c3
        first
          | exact hb (by omega)
          | exact h7 (by omega)
          | ((have g := hg (by omega)); (repeat' split at g) <;> first | exact g | omega)
      · have c3 : ¬ (a).toInt = (2 : Int) := fun z => c3 (eq32.mpr z)
        refine ⟨fun c4 => ?_, fun c4 => ?_⟩
        · have c4 : (a).toInt = (3 : Int) := eq32.mp c4
          first
            | exact hb (by omega)
            | exact h7 (by omega)
            | ((have g := hg (by omega)); (repeat' split at g) <;> first | exact g | omega)
        · have c4 : ¬ (a).toInt = (3 : Int) := fun z => c4 (eq32.mpr z)
          refine ⟨fun c5 => ?_, fun c5 => ?_⟩
          · have c5 : (a).toInt = (4 : Int) := eq32.mp c5
            first
              | exact hb (by omega)
              | exact h7 (by omega)
              | ((have g := hg (by omega)); (repeat' split at g) <;> first | exact g | omega)
          · have c5 : ¬ (a).toInt = (4 : Int) := fun z => c5 (eq32.mpr z)
            refine ⟨fun c6 => ?_, fun c6 => ?_⟩
            · have c6 : (a).toInt = (5 : Int) := eq32.mp c6
              first
                | exact hb (by omega)
                | exact h7 (by omega)
                | ((have g := hg (by omega)); (repeat' split at g) <;> first | exact g | omega)
            · have c6 : ¬ (a).toInt = (5 : Int) := fun z => c6 (eq32.mpr z)
              refine ⟨fun c7 => ?_, fun c7 => ?_⟩
              · have c7 : (a).toInt = (6 : Int) := eq32.mp c7
                first
                  | exact hb (by omega)
                  | exact h7 (by omega)
                  | ((have g := hg (by omega)); (repeat' split at g) <;> first | exact g | omega)
              · have c7 : ¬ (a).toInt = (6 : Int) := fun z => c7 (eq32.mpr z)
                refine ⟨fun c8 => ?_, fun c8 => ?_⟩
                · have c8 : (a).toInt = (7 : Int) := eq32.mp c8
                  refine X_sum_ok ⟨_, rfl, ?_⟩
                  first
                    | exact hb (by omega)
                    | exact h7 (by omega)
                    | ((have g := hg (by omega)); (repeat' split at g) <;> first | exact g | omega)
                · have c8 : ¬ (a).toInt = (7 : Int) := fun z => c8 (eq32.mpr z)
                  first
                    | exact hb (by omega)
                    | exact h7 (by omega)
                    | ((have g := hg (by omega)); (repeat' split at g) <;> first | exact g | omega)
theorem X_feed_ok {d : Nat} {Q : QQ} {μ : Mem} {a : Int32} (h : rng (μ.1 23 1) 0 160) (hb : ¬ (0 ≤ a.toInt ∧ a.toInt ≤ 255) → Q (.int (-2)) μ) (hf : 0 ≤ a.toInt ∧ a.toInt ≤ 255 → (μ.1 23 1).toInt = 160 → Q (.int (-4)) μ)
    (hg : 0 ≤ a.toInt ∧ a.toInt ≤ 255 → (μ.1 23 1).toInt < 160 → ∀ μ', Only [23, 24] μ μ' → μ'.1 24 = upd (μ.1 24) (μ.1 23 1).toNatClampNeg a → μ'.1 23 = upd (μ.1 23) 1 (μ.1 23 1 + 1) → Q (.int (μ.1 23 1 + 1)) μ') : Call (d + 2) y_X_feed [.ref 0, .int a] μ Q := by
  obtain ⟨h1, h2⟩ := h
  have hi : (μ.1 23 1).toInt < 160 → vp_in (μ.1 23 1) 160 := fun z => vin_of (by omega) z
  refine b_X_feed_0 ?_
  refine X_within_ok (A := a.toInt) (B := 255) rfl rfl ⟨_, rfl, b_nz (fun c1 => ?_) (fun c1 => hb c1)⟩
  refine b_Reader_append_0 ⟨fun c2 => ?_, fun c2 => ⟨rfl, _, rfl, ⟨fun _ => hf c1 ?_, fun q => absurd rfl q⟩⟩⟩
  · have c2 : (μ.1 23 1).toInt < 160 := lt32.mp c2
    intro μ1 e1
    refine ⟨hi c2, fun μ2 e2 => ⟨rfl, _, rfl, ⟨fun q => absurd q (by decide), fun _ => ?_⟩⟩⟩
    refine Qi (hg c1 c2 _ ?_ ?_ ?_) ?_ <;> subst_vars
    all_goals first | (intro k hk; simp at hk; simp [wI, hk]; done) | simp [wI, upd]
  · have c2 : ¬ (μ.1 23 1).toInt < 160 := fun z => c2 (lt32.mpr z)
    omega
end
section
/-! ===== the class: words ===== -/
noncomputable def lenW (b : Int32) : Int32 := @ite _ (1 ≤ b.toInt ∧ b.toInt ≤ 888888 ∧ okD b.toInt.toNat) (Classical.propDecidable _) (sizeF b) 0
theorem Words_lengthOf_ok {d : Nat} {Q : QQ} {μ : Mem} {a : Int32} (hQ : Q (.int (lenW a)) μ) : Call (d + 2) y_Words_lengthOf [.int a] μ Q := by
  have key : ∀ (k i n : Nat), i + k = 6 → n < 10 ^ k → (okD n → Q (.int (nI (i + (digs n).length))) μ) → (¬ okD n → Q (.int 0) μ) → AA (Call (d + 1)) y_Words_lengthOf Q 14 [.int a, .int (nI n), .int (nI i), .int (nI i)] [] μ := by
    intro k
    induction k with
    | zero =>
      intro i n hi hn q1 q2
      have hn0 : n = 0 := by simpa using hn
      have hi6 : i = 6 := by omega
      subst hn0; subst hi6
      refine b_Words_lengthOf_14 ⟨fun _ => ?_, fun c => absurd (by decide) c⟩
      have := q1 okD_0
      rw [digs_0] at this
      exact this
    | succ k ih =>
      intro i n hi hn q1 q2
      have hnb : n < 2147483648 := Nat.lt_of_lt_of_le hn (Nat.le_trans (Nat.pow_le_pow_right (by omega) (show k + 1 ≤ 6 by omega)) (by decide))
      have e1 := nI_i (n := n) hnb
      have e2 := nI_i (n := i) (by omega)
      have hm : (nI (n % 10) - 1).toInt = (n % 10 : Nat) - 1 := by
        rw [m1 (by rw [nI_i (by omega)]; omega), nI_i (by omega)]
      have e3 := nI_mod10 hnb
      refine b_Words_lengthOf_14 ?_
      refine ⟨fun c1 => ?_, fun c1 => ?_⟩
      · have c1 : (6 : Int) ≤ ((nI i)).toInt := le32.mp c1
        first
          | omega
          | (have hn0 : n = 0 := by omega
             subst hn0
             have g := q1 okD_0
             rw [digs_0] at g
             exact g)
          | (rw [e3, hm] at c3
             have hn0 : n ≠ 0 := by omega
             exact q2 (fun w => c3 (by have := ((okD_s hn0).mp w).1; omega)))
      · have c1 : ¬ (6 : Int) ≤ ((nI i)).toInt := fun z => c1 (le32.mpr z)
        refine ⟨fun c2 => ?_, fun c2 => ?_⟩
        · have c2 : ((nI n)).toInt ≤ (0 : Int) := le32.mp c2
          first
            | omega
            | (have hn0 : n = 0 := by omega
               subst hn0
               have g := q1 okD_0
               rw [digs_0] at g
               exact g)
            | (rw [e3, hm] at c3
               have hn0 : n ≠ 0 := by omega
               exact q2 (fun w => c3 (by have := ((okD_s hn0).mp w).1; omega)))
        · have c2 : ¬ ((nI n)).toInt ≤ (0 : Int) := fun z => c2 (le32.mpr z)
          refine ⟨by decide, ?_⟩
          refine X_within_ok (A := (((nI n) - (nI n) / 10 * 10) - 1).toInt) (B := (7 : Int)) rfl rfl ⟨_, rfl, ?_⟩
          refine b_nz (fun c3 => ?_) (fun c3 => ?_)
          · refine ⟨by decide, ?_⟩
            rw [e3, hm] at c3
            have hn0 : n ≠ 0 := by omega
            rw [nI_1, nI_div10 hnb]
            refine ih (i + 1) (n / 10) (by omega) (by rw [Nat.pow_succ] at hn; omega) (fun z => ?_) (fun z => q2 (fun w => z ((okD_s hn0).mp w).2))
            have g := q1 ((okD_s hn0).mpr ⟨by omega, z⟩)
            rw [digs_len_s hn0] at g
            rw [show i + 1 + (digs (n / 10)).length = i + ((digs (n / 10)).length + 1) by omega]
            exact g
          · first
              | omega
              | (have hn0 : n = 0 := by omega
                 subst hn0
                 have g := q1 okD_0
                 rw [digs_0] at g
                 exact g)
              | (rw [e3, hm] at c3
                 have hn0 : n ≠ 0 := by omega
                 exact q2 (fun w => c3 (by have := ((okD_s hn0).mp w).1; omega)))
  unfold lenW at hQ
  refine b_Words_lengthOf_0 ?_
  refine ⟨fun c1 => ?_, fun c1 => ?_⟩
  · have c1 : (a).toInt < (1 : Int) := lt32.mp c1
    rw [if_neg (by omega)] at hQ
    exact hQ
  · have c1 : ¬ (a).toInt < (1 : Int) := fun z => c1 (lt32.mpr z)
    refine ⟨fun c2 => ?_, fun c2 => ?_⟩
    · have c2 : (a).toInt ≤ (888888 : Int) := le32.mp c2
      obtain ⟨n, hn, e1, e2⟩ := nI_ex (x := a) (by omega)
      have k6 := key 6 0 n (by omega) (by omega) (fun z => ?_) (fun z => ?_)
      · rw [← e1] at k6
        exact k6
      · rw [if_pos ⟨by omega, by omega, by rw [e2]; exact z⟩] at hQ
        unfold sizeF at hQ
        rw [e2] at hQ
        rw [Nat.zero_add]
        exact hQ
      · rw [if_neg (fun w => z (by have := w.2.2; rw [e2] at this; exact this))] at hQ
        exact hQ
    · have c2 : ¬ (a).toInt ≤ (888888 : Int) := fun z => c2 (le32.mpr z)
      rw [if_neg (by omega)] at hQ
      exact hQ
theorem wlen_row {n : Nat} (h : n < 10) : wlen 0 (6 + n) = 6 := by
  rcases (show n = 0 ∨ n = 1 ∨ n = 2 ∨ n = 3 ∨ n = 4 ∨ n = 5 ∨ n = 6 ∨ n = 7 ∨ n = 8 ∨ n = 9 by omega) with rfl | rfl | rfl | rfl | rfl | rfl | rfl | rfl | rfl | rfl <;> rfl
theorem ilen_row {n : Nat} (h : n < 10) : ilen 0 (6 + n) = 6 := by
  rcases (show n = 0 ∨ n = 1 ∨ n = 2 ∨ n = 3 ∨ n = 4 ∨ n = 5 ∨ n = 6 ∨ n = 7 ∨ n = 8 ∨ n = 9 by omega) with rfl | rfl | rfl | rfl | rfl | rfl | rfl | rfl | rfl | rfl <;> rfl
/-- the letters that digits tell, in a row -/
def rowIs (f : Nat → Int32) (v : Int32) : Prop := ∀ j, j < (digs v.toInt.toNat).length → f j = nI ((digs v.toInt.toNat).getD j 0 - 1)
theorem Words_add_ok {d : Nat} {Q : QQ} {μ : Mem} {a b : Int32} (h : rng (μ.1 2 3) 0 10) (hb : 1 ≤ b.toInt ∧ b.toInt ≤ 888888 ∧ okD b.toInt.toNat) (hf : (μ.1 2 3).toInt = 10 → Q (.int (-4)) μ)
    (hg : (μ.1 2 3).toInt < 10 → ∀ μ', Only [2, 3, 4, 6 + (μ.1 2 3).toNatClampNeg] μ μ' → μ'.1 3 = upd (μ.1 3) (μ.1 2 3).toNatClampNeg a → μ'.1 4 = upd (μ.1 4) (μ.1 2 3).toNatClampNeg (sizeF b) → rowIs (μ'.1 (6 + (μ.1 2 3).toNatClampNeg)) b → μ'.1 2 = upd (μ.1 2) 3 (μ.1 2 3 + 1) → Q (.int (μ.1 2 3)) μ') : Call (d + 3) y_Words_add [.ref 2, .int a, .int b] μ Q := by
  obtain ⟨h1, h2⟩ := h
  obtain ⟨n, hn, en, en2⟩ := nI_ex (x := b) (by omega)
  have hlen : (digs n).length ≤ 6 := digs_le 6 n (by omega)
  have hlw : lenW b = sizeF b := by unfold lenW; rw [if_pos hb]
  have hsz : sizeF b = nI (digs n).length := by unfold sizeF; rw [en2]; rfl
  have key : (μ.1 2 3).toInt < 10 → ∀ (k m : Nat) (ν : Mem), k ≤ (digs n).length → digs m = (digs n).take k → m < 2147483648 → Only [3, 4, 6 + (μ.1 2 3).toNatClampNeg] μ ν → ν.1 3 = upd (μ.1 3) (μ.1 2 3).toNatClampNeg a → ν.1 4 = upd (μ.1 4) (μ.1 2 3).toNatClampNeg (sizeF b) → (∀ j, k ≤ j → j < (digs n).length → ν.1 (6 + (μ.1 2 3).toNatClampNeg) j = nI ((digs n).getD j 0 - 1)) → AA (Call (d + 2)) y_Words_add Q 29 [.ref 2, .int a, .int b, .int (nI m), .int (nI k - 1)] [] ν := by
    intro hlt k
    obtain ⟨q, hq, eq1, eq2⟩ := nI_ex (x := μ.1 2 3) h1
    have hc : (μ.1 2 3).toNatClampNeg = q := by rw [eq1]; exact nI_c hq
    rw [hc]
    have hq10 : q < 10 := by omega
    induction k with
    | zero =>
      intro m ν hk hm hmb o1 o2 o3 o4
      have e0 : nI 0 - 1 = -1 := by decide
      rw [e0]
      refine b_Words_add_29 ⟨fun _ => ?_, fun z => absurd (by decide) z⟩
      intro μ1 e1
      have o23 : ν.1 2 = μ.1 2 := o1.i 2 (by simp; omega)
      refine Qi (hg hlt _ ?_ ?_ ?_ ?_ ?_) (by rw [o23])
      · rw [hc]
        exact (o1.mono (by intro z hz; simp at hz ⊢; omega)).trans (by rw [e1]; exact Only.w (by simp))
      · rw [e1, wI_n (by decide), o2, hc]
      · rw [e1, wI_n (by decide), o3, hc]
      · rw [hc, e1, wI_n (by omega)]
        intro j hj
        rw [en2] at hj ⊢
        exact o4 j (by omega) hj
      · rw [e1, wI_s, o23]
    | succ k ih =>
      intro m ν hk hm hmb o1 o2 o3 o4
      have hm0 : m ≠ 0 := by
        intro z
        rw [z, digs_0] at hm
        have := congrArg List.length hm
        simp at this
        omega
      have o23 : ν.1 2 = μ.1 2 := o1.i 2 (by simp; omega)
      have e0 : nI (k + 1) - 1 = nI k := nI_pred k
      have ek := nI_i (n := k) (by omega)
      rw [e0]
      have h4 : (digs (m / 10)).length = k := by
        have h5 := congrArg List.length hm
        rw [digs_s hm0] at h5
        simp at h5
        omega
      have hlast : m % 10 = (digs n).getD k 0 := by
        have h3 : (digs m).getD k 0 = ((digs n).take (k + 1)).getD k 0 := by rw [hm]
        rw [digs_s hm0] at h3
        rw [List.getD_eq_getElem?_getD, List.getElem?_append_right (by omega), h4] at h3
        simp at h3
        rw [h3, List.getD_eq_getElem?_getD]
      refine b_Words_add_29 ⟨fun z => absurd (lt32.mp z) (by rw [ek]; show ¬ _ < (0 : Int); omega), fun _ => ?_⟩
      rw [o23, hc]
      refine ⟨vin_of (by omega) (by omega), by decide, by rw [wlen_row hq10]; exact nI_v (by omega) (by omega), fun μ2 e2 => ⟨by decide, ?_⟩⟩
      rw [nI_mod10 hmb, nI_c (by omega)] at e2
      rw [nI_div10 hmb, show nI k + (-1) = nI k - 1 by rw [Int32.sub_eq_add_neg]]
      refine ih (m / 10) μ2 (by omega) ?_ (by omega) ?_ ?_ ?_ ?_
      · have h6 := hm
        rw [digs_s hm0] at h6
        have h7 := congrArg (List.take k) h6
        rw [List.take_left' h4, List.take_take, Nat.min_eq_left (by omega)] at h7
        exact h7
      · exact o1.trans (by rw [e2]; exact Only.w (by simp))
      · rw [e2, wI_n (by omega)]; exact o2
      · rw [e2, wI_n (by omega)]; exact o3
      · intro j hj1 hj2
        rw [e2, wI_s]
        by_cases hjk : j = k
        · rw [hjk, upd_s, ← hlast]
          have hd1 : 1 ≤ m % 10 := by
            have hmem : m % 10 ∈ digs n := by
              rw [hlast, List.getD_eq_getElem?_getD]
              have : k < (digs n).length := by omega
              simp [this]
            have hok := hb.2.2
            rw [en2] at hok
            exact (hok _ hmem).1
          obtain ⟨t, ht⟩ : ∃ t, m % 10 = t + 1 := ⟨m % 10 - 1, by omega⟩
          rw [ht]
          exact nI_pred t
        · rw [upd_n hjk]
          exact o4 j (by omega) hj2
  refine b_Words_add_0 ⟨fun c1 => ?_, fun c1 => hf ?_⟩
  · have c1 : (μ.1 2 3).toInt < 10 := lt32.mp c1
    refine ⟨vin_of h1 c1, fun μ1 e1 => ?_⟩
    have o1 : μ1.1 2 = μ.1 2 := by rw [e1, wI_n (by decide)]
    refine Words_lengthOf_ok ⟨_, rfl, by rw [o1]; exact vin_of h1 c1, fun μ4 e4 => ?_⟩
    have o2 : μ4.1 2 = μ.1 2 := by rw [e4, wI_n (by decide), o1]
    refine ⟨by rw [o2]; exact vin_of h1 c1, ?_⟩
    rw [hlw] at e4
    have o3 : μ4.1 4 (μ4.1 2 3).toNatClampNeg = nI (digs n).length := by rw [o2, e4, wI_s, o1, upd_s, hsz]
    rw [o3]
    have g := key c1 (digs n).length n μ4 (Nat.le_refl _) (by simp) hn ?_ ?_ ?_ (fun j q1 q2 => absurd q1 (by omega))
    · rw [← en] at g
      exact g
    · intro z hz
      simp at hz
      rw [e4, e1]
      simp [wI, hz]
    · rw [e4, wI_n (by decide), e1, wI_s]
    · rw [e4, wI_s, e1, wI_n (by decide), wI_n (by decide)]
  · have c1 : ¬ (μ.1 2 3).toInt < 10 := fun z => c1 (lt32.mpr z)
    omega
theorem sizeF_ne {b : Int32} (h : 1 ≤ b.toInt) : ¬ sizeF b = 0 := by
  unfold sizeF
  have h0 : b.toInt.toNat ≠ 0 := by omega
  rw [digs_len_s h0]
  obtain ⟨n, hn, en, en2⟩ := nI_ex (x := b) (by omega)
  have := digs_le 10 (b.toInt.toNat / 10) (by have := Int32.toInt_lt b; omega)
  intro z
  have z2 := congrArg Int32.toInt z
  rw [nI_i (by omega)] at z2
  have : (0 : Int32).toInt = 0 := rfl
  omega
theorem X_word_ok {d : Nat} {Q : QQ} {μ : Mem} {a b : Int32} (h : rng (μ.1 2 3) 0 10) (hb : ¬ okWd a b → Q (.int (-2)) μ) (hf : okWd a b → (μ.1 2 3).toInt = 10 → Q (.int (-4)) μ)
    (hg : okWd a b → (μ.1 2 3).toInt < 10 → ∀ μ', Only [2, 3, 4, 6 + (μ.1 2 3).toNatClampNeg] μ μ' → μ'.1 3 = upd (μ.1 3) (μ.1 2 3).toNatClampNeg a → μ'.1 4 = upd (μ.1 4) (μ.1 2 3).toNatClampNeg (sizeF b) → rowIs (μ'.1 (6 + (μ.1 2 3).toNatClampNeg)) b → μ'.1 2 = upd (μ.1 2) 3 (μ.1 2 3 + 1) → Q (.int (μ.1 2 3)) μ') : Call (d + 4) y_X_word [.ref 0, .int a, .int b] μ Q := by
  refine b_X_word_0 ?_
  refine X_within_ok (A := a.toInt) (B := 3) rfl rfl ⟨_, rfl, b_z (fun c1 => hb (fun z => c1 ⟨z.1, z.2.1⟩)) (fun c1 => ?_)⟩
  refine Words_lengthOf_ok ⟨_, rfl, fun c2 => ?_, fun c2 => hb (fun z => ?_)⟩
  · have hok : 1 ≤ b.toInt ∧ b.toInt ≤ 888888 ∧ okD b.toInt.toNat := by
      by_cases z : 1 ≤ b.toInt ∧ b.toInt ≤ 888888 ∧ okD b.toInt.toNat
      · exact z
      · exact absurd (by unfold lenW; rw [if_neg z]) c2
    have hw : okWd a b := ⟨c1.1, c1.2, hok⟩
    exact Words_add_ok h hok (fun z => ⟨_, rfl, hf hw z⟩) (fun z μ' o1 o2 o3 o4 o5 => ⟨_, rfl, hg hw z μ' o1 o2 o3 o4 o5⟩)
  · have : lenW b = sizeF b := by unfold lenW; rw [if_pos z.2.2]
    rw [this] at c2
    exact sizeF_ne z.2.2.1 c2
def cellX (w : Int) : Nat := if w = 0 then 1 else if w = 1 then 17 else if w = 2 then 18 else if w = 3 then 19 else 22
def lenX (μ : Mem) (w : Int) : Int := if w = 0 then 8 else if w < 4 then (μ.1 16 3).toInt else if w < 6 then (μ.1 20 2).toInt else (μ.1 2 3).toInt
theorem X_set_ok {d : Nat} {Q : QQ} {μ : Mem} {a b c : Int32} (h : cntX μ) (hb : ¬ okSet (lenX μ a.toInt) a b c → Q (.int (-2)) μ) (hg : okSet (lenX μ a.toInt) a b c → ∀ μ', μ' = wI μ (cellX a.toInt) (upd (μ.1 (cellX a.toInt)) b.toNatClampNeg c) → Q (.int (μ.1 (cellX a.toInt) b.toNatClampNeg)) μ') : Call (d + 3) y_X_set [.ref 0, .int a, .int b, .int c] μ Q := by
  obtain ⟨⟨h1, h1'⟩, ⟨h2, h2'⟩, ⟨h3, h3'⟩, -⟩ := h
  have l1 : ilen 0 1 = 8 ∧ ilen 0 17 = 5 ∧ ilen 0 18 = 5 ∧ ilen 0 19 = 5 ∧ ilen 0 22 = 6 := ⟨rfl, rfl, rfl, rfl, rfl⟩
  obtain ⟨l1, l2, l3, l4, l5⟩ := l1
  have e8 : (8 : Int32).toInt = 8 := rfl
  have fin : ∀ (k : Nat) (n : Int32) (mx : Int32), cellX a.toInt = k → lenX μ a.toInt = n.toInt → 0 ≤ a.toInt ∧ a.toInt ≤ 4 → maxF a.toInt = mx.toInt → (0 ≤ n.toInt ∧ n.toInt ≤ ilen 0 k ∧ ilen 0 k = wlen 0 k) → Call (d + 2) y_X_put [.ref k, .int n, .int b, .int c, .int mx] μ (fun ρ μ1 => ∃ r2 : Int32, ρ = .int r2 ∧ (Q (.int r2) μ1)) := by
    intro k n mx q1 q2 q3 q4 q5
    subst q1
    refine X_put_ok q5 (fun z => ⟨_, rfl, hb (fun w => z ?_)⟩) (fun z μ' e => ⟨_, rfl, hg ?_ μ' e⟩)
    · obtain ⟨w1, w2, w3, w4, w5, w6⟩ := w
      exact ⟨w3, by omega, w5, by omega⟩
    · exact ⟨q3.1, q3.2, z.1, by omega, z.2.2.1, by omega⟩
  refine b_X_set_0 ⟨fun c1 => ?_, fun c1 => ⟨fun c2 => ?_, fun c2 => ⟨fun c3 => ?_, fun c3 => ⟨fun c4 => ?_, fun c4 => ⟨fun c5 => ?_, fun c5 => ?_⟩⟩⟩⟩⟩
  · subst c1; exact fin 1 8 999 rfl rfl (by decide) rfl ⟨by decide, by decide, rfl⟩
  · subst c2; exact fin 17 (μ.1 16 3) 3 rfl rfl (by decide) rfl ⟨h2, by omega, rfl⟩
  · subst c3; exact fin 18 (μ.1 16 3) 23 rfl rfl (by decide) rfl ⟨h2, by omega, rfl⟩
  · subst c4; exact fin 19 (μ.1 16 3) 9999 rfl rfl (by decide) rfl ⟨h2, by omega, rfl⟩
  · subst c5; exact fin 22 (μ.1 20 2) 9 rfl rfl (by decide) rfl ⟨by omega, by omega, rfl⟩
  · refine hb (fun w => ?_)
    obtain ⟨w1, w2, -⟩ := w
    have k0 : ¬ a.toInt = 0 := fun z => c1 (eq32.mpr z)
    have k1 : ¬ a.toInt = 1 := fun z => c2 (eq32.mpr z)
    have k2 : ¬ a.toInt = 2 := fun z => c3 (eq32.mpr z)
    have k3 : ¬ a.toInt = 3 := fun z => c4 (eq32.mpr z)
    have k4 : ¬ a.toInt = 4 := fun z => c5 (eq32.mpr z)
    omega
/-- ABOVE as it stands -/
def abvM (μ : Mem) : Prop := μ.1 65 0 = -1 ∧ μ.1 65 1 = 0 ∧ μ.1 65 2 = 0 ∧ μ.1 65 3 = 1 ∧ μ.1 65 4 = 2 ∧ μ.1 65 5 = 1
theorem Laws_isUnder_ok {d : Nat} {Q : QQ} {μ : Mem} {a b : Int32} (ha : vp_in a 6) (hA : abvM μ) (hk : rng (μ.1 21 a.toNatClampNeg) 0 5) (hb : 0 ≤ b.toInt ∧ b.toInt ≤ 5) (hQ : Q (.int (b2p (underF (μ.1 21 a.toNatClampNeg).toInt b.toInt = true))) μ) : Call (d + 1) y_Laws_isUnder [.ref 20, .int a, .int b] μ Q := by
  obtain ⟨r1, r2⟩ := hk
  obtain ⟨A0, A1, A2, A3, A4, A5⟩ := hA
  have key : ∀ (f : Nat) (i : Nat) (x : Int32), i + f = 4 → -1 ≤ x.toInt → x.toInt ≤ 5 → (x.toInt = -1 → 1 ≤ f) → (x.toInt = 0 → 2 ≤ f) → (x.toInt = 1 ∨ x.toInt = 2 → 3 ≤ f) → (3 ≤ x.toInt → 4 ≤ f) → Q (.int (b2p (underF x.toInt b.toInt = true))) μ → AA (Call d) y_Laws_isUnder Q 7 [.ref 20, .int a, .int b, .int x, .int (nI i)] [] μ := by
    intro f
    induction f with
    | zero => intro i x q0 q1 q2 q3 q4 q5 q6; omega
    | succ f ih =>
      intro i x q0 q1 q2 q3 q4 q5 q6 hQ
      have ei := nI_i (n := i) (by omega)
      refine b_Laws_isUnder_7 ⟨fun z => absurd (le32.mp z) (by rw [ei]; show ¬ (6 : Int) ≤ _; omega), fun _ => ⟨fun c1 => ⟨rfl, ?_⟩, fun c1 => ⟨fun c2 => ?_, fun c2 => ⟨rfl, ?_⟩⟩⟩⟩
      · subst c1
        refine bQ0 hQ ?_
        show ¬ underF (-1) b.toInt = true
        unfold underF
        simp
        omega
      · have k1 : ¬ x.toInt = -1 := fun z => c1 (eq32.mpr z)
        have k2 : ¬ x.toInt = b.toInt := fun z => c2 (eq32.mpr z)
        refine ⟨vin_of (by omega) (by omega), ?_⟩
        rw [nI_1]
        obtain ⟨n, hn, en, en2⟩ := nI_ex (x := x) (by omega)
        rw [en, nI_c hn]
        rcases (show n = 0 ∨ n = 1 ∨ n = 2 ∨ n = 3 ∨ n = 4 ∨ n = 5 by omega) with q | q | q | q | q | q
        all_goals
          subst q
          simp only [A0, A1, A2, A3, A4, A5]
          refine ih (i + 1) _ (by omega) (by decide) (by decide) (by intro; omega) (by simp <;> omega) (by simp <;> omega) (by simp <;> omega) (bQ hQ ?_)
          rw [en2]
          rw [en2] at k2
          simp [underF]
          try omega
      · subst c2
        exact bQ1 hQ (by simp [underF])
  refine b_Laws_isUnder_0 ⟨ha, ?_⟩
  exact key 4 0 _ (by omega) (by omega) r2 (by omega) (by omega) (by omega) (by omega) hQ
theorem X_taken_ok {d : Nat} {Q : QQ} {μ : Mem} {a b : Int32} (h : cntX μ) (hA : abvM μ) (hk : ∀ j, j < 6 → rng (μ.1 21 j) 0 5) (hb : ¬ (0 ≤ b.toInt ∧ b.toInt ≤ 5) → Q (.int (-2)) μ) (hn : 0 ≤ b.toInt ∧ b.toInt ≤ 5 → ¬ (0 ≤ a.toInt ∧ a.toInt < (μ.1 20 2).toInt) → Q (.int (-11)) μ)
    (hg : 0 ≤ b.toInt ∧ b.toInt ≤ 5 → 0 ≤ a.toInt ∧ a.toInt < (μ.1 20 2).toInt → Q (.int (if underF (μ.1 21 a.toNatClampNeg).toInt b.toInt = true then μ.1 22 a.toNatClampNeg else -13)) μ) : Call (d + 2) y_X_taken [.ref 0, .int a, .int b] μ Q := by
  obtain ⟨h1, h2, ⟨h3, h4⟩, -⟩ := h
  have em := m1 (v := μ.1 20 2) (by omega)
  refine b_X_taken_0 ?_
  refine X_within_ok (A := b.toInt) (B := 5) rfl rfl ⟨_, rfl, b_nz (fun c1 => ?_) (fun c1 => hb c1)⟩
  refine X_within_ok (A := a.toInt) (B := (μ.1 20 2 - 1).toInt) rfl rfl ⟨_, rfl, b_nz (fun c2 => ?_) (fun c2 => hn c1 (by omega))⟩
  have hv : vp_in a 6 := vin_of (by omega) (by omega)
  refine Laws_isUnder_ok hv hA (hk _ (vin_lt hv)) c1 ⟨_, rfl, b_z (fun c3 => ?_) (fun c3 => ⟨hv, ?_⟩)⟩
  · have g := hg c1 (by omega)
    rw [if_neg c3] at g
    exact g
  · have g := hg c1 (by omega)
    rw [if_pos c3] at g
    exact g
end
section
/-! ===== the class: sheets ===== -/
theorem wlen_sh {n : Nat} (h : n < 4) : wlen 0 (61 + n) = 40 := by
  rcases (show n = 0 ∨ n = 1 ∨ n = 2 ∨ n = 3 by omega) with rfl | rfl | rfl | rfl <;> rfl
theorem ilen_sh {n : Nat} (h : n < 4) : ilen 0 (61 + n) = 40 := by
  rcases (show n = 0 ∨ n = 1 ∨ n = 2 ∨ n = 3 by omega) with rfl | rfl | rfl | rfl <;> rfl
theorem Sheets_lay_ok {d : Nat} {Q : QQ} {μ : Mem} {a b c : Int32} (ha : 0 ≤ a.toInt ∧ a.toInt ≤ 3) (hQ : ∀ μ', Only [58, 59, 61 + a.toNatClampNeg] μ μ' → μ'.1 58 = upd (μ.1 58) a.toNatClampNeg b → μ'.1 59 = upd (μ.1 59) a.toNatClampNeg c → (∀ j, j < 40 → μ'.1 (61 + a.toNatClampNeg) j = 0) → Q .null μ') : Call (d + 1) y_Sheets_lay [.ref 57, .int a, .int b, .int c] μ Q := by
  have hv : vp_in a 4 := vin_of ha.1 (by omega)
  have hlt := vin_lt hv
  refine b_Sheets_lay_0 ⟨hv, fun μ1 e1 => ⟨hv, fun μ2 e2 => ?_⟩⟩
  refine loopN (G := fun i t => AA (Call d) y_Sheets_lay Q 12 [.ref 57, .int a, .int b, .int c, .int (nI i)] [] t) (P := fun i t => Only [61 + a.toNatClampNeg] μ2 t ∧ ∀ j, j < i → t.1 (61 + a.toNatClampNeg) j = 0) (N := 40) ?_ ?_ 0 μ2 (by omega) ⟨Only.rf, fun j hj => absurd hj (by omega)⟩
  · intro t ⟨q1, q2⟩
    refine b_Sheets_lay_12 ⟨fun _ => hQ t ?_ ?_ ?_ q2, fun z => absurd (by decide) z⟩
    · intro k hk
      simp at hk
      have := q1 k (by simp; omega)
      rw [this.1, this.2, e2, e1]
      simp [wI, hk]
    · rw [q1.i 58 (by simp; omega), e2, wI_n (by decide), e1, wI_s]
    · rw [q1.i 59 (by simp; omega), e2, wI_s, e1, wI_n (by decide)]
  · intro i t hi ⟨q1, q2⟩ ih
    have ei := nI_i (n := i) (by omega)
    refine b_Sheets_lay_12 ⟨fun z => absurd (le32.mp z) (by rw [ei]; show ¬ (40 : Int) ≤ _; omega), fun _ => ⟨hv, by rw [wlen_sh hlt]; exact nI_v hi (by omega), fun μ3 e3 => ?_⟩⟩
    rw [nI_c (by omega)] at e3
    rw [nI_1]
    refine ih _ ⟨q1.trans (by rw [e3]; exact Only.w (by simp)), fun j hj => ?_⟩
    rw [e3, wI_s]
    by_cases hji : j = i
    · rw [hji, upd_s]
    · rw [upd_n hji]
      exact q2 j (by omega)
theorem X_sheet_ok {d : Nat} {Q : QQ} {μ : Mem} {a b c : Int32} (hb : ¬ okSh a b c → Q (.int (-2)) μ) (hn : okSh a b c → 0 ≤ b.toInt → c.toInt < 0 → Q (.int (-14)) μ)
    (hm : okSh a b c → b.toInt = -1 → ∀ μ', Only [58] μ μ' → μ'.1 58 = upd (μ.1 58) a.toNatClampNeg (-1) → Q (.int 1) μ')
    (hg : okSh a b c → 0 ≤ b.toInt → 0 ≤ c.toInt → ∀ μ', Only [58, 59, 61 + a.toNatClampNeg] μ μ' → μ'.1 58 = upd (μ.1 58) a.toNatClampNeg b → μ'.1 59 = upd (μ.1 59) a.toNatClampNeg c → (∀ j, j < 40 → μ'.1 (61 + a.toNatClampNeg) j = 0) → Q (.int 1) μ') : Call (d + 2) y_X_sheet [.ref 0, .int a, .int b, .int c] μ Q := by
  refine b_X_sheet_0 ?_
  refine X_within_ok (A := a.toInt) (B := 3) rfl rfl ⟨_, rfl, b_z (fun c1 => hb (fun z => c1 ⟨z.1, z.2.1⟩)) (fun c1 => ?_)⟩
  refine X_within_ok (A := (b - (-1)).toInt) (B := 3) rfl rfl ⟨_, rfl, b_nz (fun c2 => ?_) (fun c2 => hb (fun z => c2 ?_))⟩
  · have hbr : -1 ≤ b.toInt ∧ b.toInt ≤ 2 := by
      by_cases hbig : b.toInt = 2147483647
      · have : b = 2147483647 := eq32.mpr hbig
        subst this
        exact absurd c2.1 (by decide)
      · have e : (b - (-1)).toInt = b.toInt + 1 := by
          have := Int32.toInt_lt b
          have := Int32.le_toInt b
          rw [sub32 (by show _ ≤ _ - (-1 : Int); omega) (by show _ - (-1 : Int) < _; omega)]
          show _ - (-1 : Int) = _
          omega
        omega
    refine ⟨fun c3 => ⟨fun c4 => ⟨fun c5 => ?_, fun c5 => ?_⟩, fun c4 => ?_⟩, fun c3 => ⟨vin_of c1.1 (by omega), fun μ6 e6 => ?_⟩⟩
    · have c3 : ¬ b.toInt = -1 := fun z => c3 (eq32.mpr z)
      have c4 : c.toInt ≤ 40 := le32.mp c4
      have c5 : 0 ≤ c.toInt := le32.mp c5
      exact Sheets_lay_ok c1 (fun μ' o1 o2 o3 o4 => hg ⟨c1.1, c1.2, hbr.1, hbr.2, fun _ => c4⟩ (by omega) c5 μ' o1 o2 o3 o4)
    · have c3 : ¬ b.toInt = -1 := fun z => c3 (eq32.mpr z)
      have c4 : c.toInt ≤ 40 := le32.mp c4
      have c5 : ¬ 0 ≤ c.toInt := fun z => c5 (le32.mpr z)
      exact hn ⟨c1.1, c1.2, hbr.1, hbr.2, fun _ => c4⟩ (by omega) (by omega)
    · have c3 : ¬ b.toInt = -1 := fun z => c3 (eq32.mpr z)
      have c4 : ¬ c.toInt ≤ 40 := fun z => c4 (le32.mpr z)
      exact hb (fun z => c4 (z.2.2.2.2 (by omega)))
    · have c3 : b.toInt = -1 := eq32.mp c3
      exact hm ⟨c1.1, c1.2, hbr.1, hbr.2, fun z => by omega⟩ c3 μ6 (by rw [e6]; exact Only.w) (by rw [e6, wI_s])
  · obtain ⟨z1, z2, z3, z4, z5⟩ := z
    have e : (b - (-1)).toInt = b.toInt + 1 := by
      rw [sub32 (by show _ ≤ _ - (-1 : Int); omega) (by show _ - (-1 : Int) < _; omega)]
      show _ - (-1 : Int) = _
      omega
    omega
theorem X_cell_ok {d : Nat} {Q : QQ} {μ : Mem} {a b c : Int32} (hsz : 0 ≤ a.toInt → a.toInt ≤ 3 → ¬ (μ.1 58 a.toNatClampNeg).toInt = -1 → rng (μ.1 59 a.toNatClampNeg) 0 40) (hb : ¬ (0 ≤ a.toInt ∧ a.toInt ≤ 3) → Q (.int (-2)) μ) (hm : 0 ≤ a.toInt ∧ a.toInt ≤ 3 → (μ.1 58 a.toNatClampNeg).toInt = -1 → Q (.int (-11)) μ)
    (ho : 0 ≤ a.toInt ∧ a.toInt ≤ 3 → ¬ (μ.1 58 a.toNatClampNeg).toInt = -1 → ¬ (0 ≤ b.toInt ∧ b.toInt < (μ.1 59 a.toNatClampNeg).toInt) → Q (.int (-12)) μ)
    (hg : 0 ≤ a.toInt ∧ a.toInt ≤ 3 → ¬ (μ.1 58 a.toNatClampNeg).toInt = -1 → 0 ≤ b.toInt ∧ b.toInt < (μ.1 59 a.toNatClampNeg).toInt → ∀ μ', μ' = wI μ (61 + a.toNatClampNeg) (upd (μ.1 (61 + a.toNatClampNeg)) b.toNatClampNeg (keepF (μ.1 58 a.toNatClampNeg) c)) → Q (.int 1) μ') : Call (d + 2) y_X_cell [.ref 0, .int a, .int b, .int c] μ Q := by
  refine b_X_cell_0 ?_
  refine X_within_ok (A := a.toInt) (B := 3) rfl rfl ⟨_, rfl, b_nz (fun c1 => ?_) (fun c1 => hb c1)⟩
  have hv : vp_in a 4 := vin_of c1.1 (by omega)
  have hlt := vin_lt hv
  refine ⟨hv, fun c2 => ⟨hv, ?_⟩, fun c2 => hm c1 (eq32.mp c2)⟩
  have c2 : ¬ (μ.1 58 a.toNatClampNeg).toInt = -1 := fun z => c2 (eq32.mpr z)
  obtain ⟨s1, s2⟩ := hsz c1.1 c1.2 c2
  have em := m1 (v := μ.1 59 a.toNatClampNeg) s1
  refine X_within_ok (A := b.toInt) (B := (μ.1 59 a.toNatClampNeg - 1).toInt) rfl rfl ⟨_, rfl, b_nz (fun c3 => ?_) (fun c3 => ho c1 c2 (by omega))⟩
  have hvb : vp_in b (wlen 0 (61 + a.toNatClampNeg)) := by rw [wlen_sh hlt]; exact vin_of c3.1 (by omega)
  have g := hg c1 c2 (by omega)
  refine b_Sheets_put_0 ⟨hv, fun c4 => ⟨hv, fun c5 => ⟨hv, hvb, fun μ1 e1 => g μ1 ?_⟩, fun c5 => ⟨hv, hvb, fun μ1 e1 => g μ1 ?_⟩⟩, fun c4 => ⟨hv, hvb, fun μ1 e1 => g μ1 ?_⟩⟩
  · have c4 : ¬ (μ.1 58 a.toNatClampNeg).toInt = 0 := fun z => c4 (eq32.mpr z)
    have c5 : ¬ (μ.1 58 a.toNatClampNeg).toInt = 1 := fun z => c5 (eq32.mpr z)
    rw [e1]; unfold keepF; rw [if_neg c4, if_neg c5]
  · have c4 : ¬ (μ.1 58 a.toNatClampNeg).toInt = 0 := fun z => c4 (eq32.mpr z)
    have c5 : (μ.1 58 a.toNatClampNeg).toInt = 1 := eq32.mp c5
    rw [e1]; unfold keepF; rw [if_neg c4, if_pos c5]
  · have c4 : (μ.1 58 a.toNatClampNeg).toInt = 0 := eq32.mp c4
    rw [e1]; unfold keepF; rw [if_pos c4]
theorem Sheets_hasRoom_ok {d : Nat} {Q : QQ} {μ : Mem} {a b c : Int32} (ha : 0 ≤ a.toInt ∧ a.toInt ≤ 3) (hs : rng (μ.1 59 a.toNatClampNeg) 0 40) (hQ : Q (.int (b2p (0 ≤ b.toInt ∧ 0 ≤ c.toInt ∧ b.toInt ≤ (μ.1 59 a.toNatClampNeg).toInt - c.toInt))) μ) : Call (d + 1) y_Sheets_hasRoom [.ref 57, .int a, .int b, .int c] μ Q := by
  obtain ⟨s1, s2⟩ := hs
  have es : ¬ c.toInt < 0 → ((μ.1 59 a.toNatClampNeg) - c).toInt = (μ.1 59 a.toNatClampNeg).toInt - c.toInt := by
    intro z
    have := Int32.toInt_lt c
    exact sub32 (by omega) (by omega)
  refine b_Sheets_hasRoom_0 ?_
  refine ⟨fun c1 => ?_, fun c1 => ?_⟩
  · have c1 : (b).toInt < (0 : Int) := lt32.mp c1
    refine ⟨by rfl, ?_⟩
    first
      | exact bQ0 hQ (by omega)
      | exact bQ0 hQ (by rw [es (by assumption)] at *; omega)
      | exact bQ1 hQ (by rw [es (by assumption)] at *; omega)
  · have c1 : ¬ (b).toInt < (0 : Int) := fun z => c1 (lt32.mpr z)
    refine ⟨fun c2 => ?_, fun c2 => ?_⟩
    · have c2 : (c).toInt < (0 : Int) := lt32.mp c2
      refine ⟨by rfl, ?_⟩
      first
        | exact bQ0 hQ (by omega)
        | exact bQ0 hQ (by rw [es (by assumption)] at *; omega)
        | exact bQ1 hQ (by rw [es (by assumption)] at *; omega)
    · have c2 : ¬ (c).toInt < (0 : Int) := fun z => c2 (lt32.mpr z)
      refine ⟨by exact vin_of (by omega) (by omega), ?_⟩
      refine ⟨fun c3 => ?_, fun c3 => ?_⟩
      · have c3 : ((μ.1 59 a.toNatClampNeg)).toInt < (c).toInt := lt32.mp c3
        refine ⟨by rfl, ?_⟩
        first
          | exact bQ0 hQ (by omega)
          | exact bQ0 hQ (by rw [es (by assumption)] at *; omega)
          | exact bQ1 hQ (by rw [es (by assumption)] at *; omega)
      · have c3 : ¬ ((μ.1 59 a.toNatClampNeg)).toInt < (c).toInt := fun z => c3 (lt32.mpr z)
        refine ⟨by exact vin_of (by omega) (by omega), ?_⟩
        refine ⟨fun c4 => ?_, fun c4 => ?_⟩
        · have c4 : (((μ.1 59 a.toNatClampNeg) - c)).toInt < (b).toInt := lt32.mp c4
          refine ⟨by rfl, ?_⟩
          first
            | exact bQ0 hQ (by omega)
            | exact bQ0 hQ (by rw [es (by assumption)] at *; omega)
            | exact bQ1 hQ (by rw [es (by assumption)] at *; omega)
        · have c4 : ¬ (((μ.1 59 a.toNatClampNeg) - c)).toInt < (b).toInt := fun z => c4 (lt32.mpr z)
          refine ⟨by rfl, ?_⟩
          first
            | exact bQ0 hQ (by omega)
            | exact bQ0 hQ (by rw [es (by assumption)] at *; omega)
            | exact bQ1 hQ (by rw [es (by assumption)] at *; omega)
/-- sheets: their sizes -/
def shX (μ : Mem) : Prop := ∀ s, s < 4 → ¬ (μ.1 58 s).toInt = -1 → rng (μ.1 59 s) 0 40
def okCpX (μ : Mem) (a b c e f : Int32) : Prop := 0 ≤ f.toInt ∧ 0 ≤ b.toInt ∧ 0 ≤ e.toInt ∧ b.toInt ≤ (μ.1 59 a.toNatClampNeg).toInt - f.toInt ∧ e.toInt ≤ (μ.1 59 c.toNatClampNeg).toInt - f.toInt
theorem X_copy_ok {d : Nat} {Q : QQ} {μ : Mem} {a b c e f : Int32} (hsh : shX μ) (hb : ¬ (0 ≤ a.toInt ∧ a.toInt ≤ 3 ∧ 0 ≤ c.toInt ∧ c.toInt ≤ 3) → Q (.int (-2)) μ) (hm : 0 ≤ a.toInt ∧ a.toInt ≤ 3 ∧ 0 ≤ c.toInt ∧ c.toInt ≤ 3 → (μ.1 58 a.toNatClampNeg).toInt = -1 ∨ (μ.1 58 c.toNatClampNeg).toInt = -1 → Q (.int (-11)) μ)
    (hu : 0 ≤ a.toInt ∧ a.toInt ≤ 3 ∧ 0 ≤ c.toInt ∧ c.toInt ≤ 3 → ¬ (μ.1 58 a.toNatClampNeg).toInt = -1 → ¬ (μ.1 58 c.toNatClampNeg).toInt = -1 → ¬ (μ.1 58 a.toNatClampNeg).toInt = (μ.1 58 c.toNatClampNeg).toInt → Q (.int (-13)) μ)
    (ho : 0 ≤ a.toInt ∧ a.toInt ≤ 3 ∧ 0 ≤ c.toInt ∧ c.toInt ≤ 3 → ¬ (μ.1 58 a.toNatClampNeg).toInt = -1 → ¬ (μ.1 58 c.toNatClampNeg).toInt = -1 → (μ.1 58 a.toNatClampNeg).toInt = (μ.1 58 c.toNatClampNeg).toInt → ¬ okCpX μ a b c e f → Q (.int (-12)) μ)
    (hg : 0 ≤ a.toInt ∧ a.toInt ≤ 3 ∧ 0 ≤ c.toInt ∧ c.toInt ≤ 3 → ¬ (μ.1 58 a.toNatClampNeg).toInt = -1 → ¬ (μ.1 58 c.toNatClampNeg).toInt = -1 → (μ.1 58 a.toNatClampNeg).toInt = (μ.1 58 c.toNatClampNeg).toInt → okCpX μ a b c e f → ∀ μ', μ' = wI μ (61 + c.toNatClampNeg) (va_cpy (μ.1 (61 + a.toNatClampNeg)) (μ.1 (61 + c.toNatClampNeg)) b.toNatClampNeg e.toNatClampNeg f.toNatClampNeg) → Q (.int f) μ') : Call (d + 2) y_X_copy [.ref 0, .int a, .int b, .int c, .int e, .int f] μ Q := by
  have cl : ∀ v : Int32, 0 ≤ v.toInt → (v.toNatClampNeg : Int) = v.toInt := by
    intro v hv
    rw [toNatC]
    omega
  have sz : ∀ v : Int32, 0 ≤ v.toInt → v.toInt ≤ 3 → ¬ (μ.1 58 v.toNatClampNeg).toInt = -1 → rng (μ.1 59 v.toNatClampNeg) 0 40 := fun v q1 q2 q3 => hsh _ (vin_lt (vin_of q1 (by omega))) q3
  refine b_X_copy_0 ?_
  refine X_within_ok (A := a.toInt) (B := 3) rfl rfl ⟨_, rfl, b_z (fun c1 => hb (fun z => c1 ⟨z.1, z.2.1⟩)) (fun c1 => ?_)⟩
  refine X_within_ok (A := c.toInt) (B := 3) rfl rfl ⟨_, rfl, b_nz (fun c2 => ?_) (fun c2 => hb (fun z => c2 z.2.2))⟩
  have hva : vp_in a 4 := vin_of c1.1 (by omega)
  have hvc : vp_in c 4 := vin_of c2.1 (by omega)
  have hA : 0 ≤ a.toInt ∧ a.toInt ≤ 3 ∧ 0 ≤ c.toInt ∧ c.toInt ≤ 3 := ⟨c1.1, c1.2, c2⟩
  refine ⟨hva, fun c3 => hm hA (Or.inl (eq32.mp c3)), fun c3 => ⟨hvc, fun c4 => ⟨hva, hvc, fun c5 => ?_, fun c5 => ?_⟩, fun c4 => hm hA (Or.inr (eq32.mp c4))⟩⟩
  · have c3 : ¬ (μ.1 58 a.toNatClampNeg).toInt = -1 := fun z => c3 (eq32.mpr z)
    have c4 : ¬ (μ.1 58 c.toNatClampNeg).toInt = -1 := fun z => c4 (eq32.mpr z)
    have c5 := eq32.mp c5
    have ha40 := sz a c1.1 c1.2 c3
    have hc40 := sz c c2.1 c2.2 c4
    refine Sheets_hasRoom_ok c1 ha40 ⟨_, rfl, b_z (fun c6 => ho hA c3 c4 c5 (fun z => c6 ⟨z.2.1, z.1, z.2.2.2.1⟩)) (fun c6 => ?_)⟩
    refine Sheets_hasRoom_ok c2 hc40 ⟨_, rfl, b_nz (fun c7 => ?_) (fun c7 => ho hA c3 c4 c5 (fun z => c7 ⟨z.2.2.1, z.1, z.2.2.2.2⟩))⟩
    have k1 := cl b c6.1
    have k2 := cl e c7.1
    have k3 := cl f c6.2.1
    have g1 := ha40.2
    have g2 := hc40.2
    refine ⟨hva, hvc, ⟨fun z => absurd (lt32.mp z) (by show ¬ _ < (0 : Int); omega), fun z => absurd (lt32.mp z) (by show ¬ _ < (0 : Int); omega), fun z => absurd (lt32.mp z) (by show ¬ _ < (0 : Int); omega), ?_, ?_, ?_, ?_⟩, fun μ9 e9 => hg hA c3 c4 c5 ⟨c6.2.1, c6.1, c7.1, c6.2.2, c7.2.2⟩ μ9 e9⟩
    · rw [wlen_sh (vin_lt hva)]; omega
    · rw [wlen_sh (vin_lt hvc)]; omega
    · rw [wlen_sh (vin_lt hva)]; omega
    · rw [wlen_sh (vin_lt hvc)]; omega
  · have c3 : ¬ (μ.1 58 a.toNatClampNeg).toInt = -1 := fun z => c3 (eq32.mpr z)
    have c4 : ¬ (μ.1 58 c.toNatClampNeg).toInt = -1 := fun z => c4 (eq32.mpr z)
    exact hu hA c3 c4 (fun z => c5 (eq32.mpr z))
end
section
/-! ===== the class: writers by a sheet, the image ===== -/
theorem X_writers_ok {d : Nat} {Q : QQ} {μ : Mem} {a b c e : Int32} (hsh : shX μ) (J : Nat → Int32 → Mem → Prop) (hcnt : ∀ k v t, J k v t → rng (t.1 16 3) 0 5 ∧ t.1 58 = μ.1 58 ∧ t.1 59 = μ.1 59 ∧ ∀ s, s < 4 → t.1 (61 + s) = μ.1 (61 + s))
    (hJ0 : J 0 0 μ) (hb : ¬ (0 ≤ a.toInt ∧ a.toInt ≤ 3 ∧ 0 ≤ b.toInt ∧ b.toInt ≤ 2 ∧ 0 ≤ e.toInt ∧ e.toInt ≤ 5) → Q (.int (-2)) μ)
    (hm : 0 ≤ a.toInt ∧ a.toInt ≤ 3 ∧ 0 ≤ b.toInt ∧ b.toInt ≤ 2 ∧ 0 ≤ e.toInt ∧ e.toInt ≤ 5 → (μ.1 58 a.toNatClampNeg).toInt = -1 → Q (.int (-11)) μ)
    (hu : 0 ≤ a.toInt ∧ a.toInt ≤ 3 ∧ 0 ≤ b.toInt ∧ b.toInt ≤ 2 ∧ 0 ≤ e.toInt ∧ e.toInt ≤ 5 → ¬ (μ.1 58 a.toNatClampNeg).toInt = -1 → ¬ (μ.1 58 a.toNatClampNeg).toInt = b.toInt → Q (.int (-13)) μ)
    (hx : 0 ≤ a.toInt ∧ a.toInt ≤ 3 ∧ 0 ≤ b.toInt ∧ b.toInt ≤ 2 ∧ 0 ≤ e.toInt ∧ e.toInt ≤ 5 → ¬ (μ.1 58 a.toNatClampNeg).toInt = -1 → (μ.1 58 a.toNatClampNeg).toInt = b.toInt → ∀ v t, J e.toNatClampNeg v t → Q (.int v) t)
    (ho : 0 ≤ a.toInt ∧ a.toInt ≤ 3 ∧ 0 ≤ b.toInt ∧ b.toInt ≤ 2 ∧ 0 ≤ e.toInt ∧ e.toInt ≤ 5 → ¬ (μ.1 58 a.toNatClampNeg).toInt = -1 → (μ.1 58 a.toNatClampNeg).toInt = b.toInt → ∀ k v t, k < e.toNatClampNeg → J k v t → ¬ (0 ≤ c.toInt ∧ c.toInt + 3 * k + 3 ≤ (μ.1 59 a.toNatClampNeg).toInt) → Q (.int (-12)) t)
    (hs : 0 ≤ a.toInt ∧ a.toInt ≤ 3 ∧ 0 ≤ b.toInt ∧ b.toInt ≤ 2 ∧ 0 ≤ e.toInt ∧ e.toInt ≤ 5 → ¬ (μ.1 58 a.toNatClampNeg).toInt = -1 → (μ.1 58 a.toNatClampNeg).toInt = b.toInt → ∀ k v t, k < e.toNatClampNeg → J k v t → 0 ≤ c.toInt ∧ c.toInt + 3 * k + 3 ≤ (μ.1 59 a.toNatClampNeg).toInt →
      (let f := μ.1 (61 + a.toNatClampNeg)
       let p := c.toNatClampNeg + 3 * k
       (¬ (okWr (f p) (f (p + 1)) (f (p + 2)) ∧ (t.1 16 3).toInt < 5) → J (k + 1) v t) ∧
       (okWr (f p) (f (p + 1)) (f (p + 2)) → (t.1 16 3).toInt < 5 → ∀ t', Only [16, 17, 18, 19] t t' → t'.1 17 = upd (t.1 17) (t.1 16 3).toNatClampNeg (f p) → t'.1 18 = upd (t.1 18) (t.1 16 3).toNatClampNeg (f (p + 1)) → t'.1 19 = upd (t.1 19) (t.1 16 3).toNatClampNeg (f (p + 2)) → t'.1 16 = upd (t.1 16) 3 (t.1 16 3 + 1) → J (k + 1) (v + 1) t'))) : Call (d + 3) y_X_writers [.ref 0, .int a, .int b, .int c, .int e] μ Q := by
  have key : 0 ≤ a.toInt ∧ a.toInt ≤ 3 ∧ 0 ≤ b.toInt ∧ b.toInt ≤ 2 ∧ 0 ≤ e.toInt ∧ e.toInt ≤ 5 → ¬ (μ.1 58 a.toNatClampNeg).toInt = -1 → (μ.1 58 a.toNatClampNeg).toInt = b.toInt → AA (Call (d + 2)) y_X_writers Q 44 [.ref 0, .int a, .int b, .int c, .int e, .ref (61 + a.toNatClampNeg), .int c, .int 0, .int 0] [] μ := by
    intro h1 h2 h3
    have hva : vp_in a 4 := vin_of h1.1 (by omega)
    have hlt := vin_lt hva
    obtain ⟨n, hn, en, en2⟩ := nI_ex (x := e) h1.2.2.2.2.1
    have cn : e.toNatClampNeg = n := by rw [en]; exact nI_c hn
    obtain ⟨s2, s3⟩ := hsh a.toNatClampNeg hlt h2
    have g := loopN (G := fun i t => AA (Call (d + 2)) y_X_writers Q 44 [.ref 0, .int a, .int b, .int c, .int e, .ref (61 + a.toNatClampNeg), .int t.1, .int t.2.1, .int (nI i)] [] t.2.2) (P := fun i t => J i t.2.1 t.2.2 ∧ (i = 0 → t.1 = c) ∧ (0 < i → 0 ≤ c.toInt ∧ c.toInt ≤ 40 ∧ t.1.toInt = c.toInt + 3 * i)) (N := n) ?_ ?_ 0 (c, (0 : Int32), μ) (by omega) ⟨hJ0, fun _ => rfl, fun z => absurd z (by omega)⟩
    · exact g
    · intro t ⟨q1, _⟩
      exact b_X_writers_44 ⟨fun _ => hx h1 h2 h3 _ _ (by rw [cn]; exact q1), fun z => absurd (le32.mpr (by rw [en2, nI_i hn]; omega)) z⟩
    · intro i ⟨w, v, t⟩ hi ⟨q1, q2, q3⟩ ih
      dsimp only at q1 q2 q3 ih ⊢
      obtain ⟨j1, j2, j3, j4⟩ := hcnt _ _ _ q1
      have ei := nI_i (n := i) (by omega)
      have hwc : (0 ≤ w.toInt ∧ w.toInt ≤ (μ.1 59 a.toNatClampNeg).toInt - 3) ↔ (0 ≤ c.toInt ∧ c.toInt + 3 * i + 3 ≤ (μ.1 59 a.toNatClampNeg).toInt) := by
        by_cases hi0 : i = 0
        · have := q2 hi0
          rw [this, hi0]
          omega
        · obtain ⟨k1, k2, k3⟩ := q3 (by omega)
          omega
      refine b_X_writers_44 ⟨fun z => absurd (le32.mp z) (by rw [en2, ei]; omega), fun _ => ?_⟩
      refine Sheets_hasRoom_ok ⟨h1.1, h1.2.1⟩ (by rw [j3]; exact ⟨s2, s3⟩) ⟨_, rfl, b_nz (fun c6 => ?_) (fun c6 => ho h1 h2 h3 i v t (by rw [cn]; exact hi) q1 (fun z => c6 ?_))⟩
      · have c6' : 0 ≤ w.toInt ∧ w.toInt ≤ (μ.1 59 a.toNatClampNeg).toInt - 3 := by
          rw [j3] at c6
          exact ⟨c6.1, c6.2.2⟩
        have hcc := hwc.mp c6'
        obtain ⟨nc, hnc, ec, ec2⟩ := nI_ex (x := c) hcc.1
        have cc : c.toNatClampNeg = nc := by rw [ec]; exact nI_c hnc
        have ew : w = nI (nc + 3 * i) := by
          apply Int32.toInt_inj.mp
          rw [nI_i (by omega)]
          by_cases hi0 : i = 0
          · rw [q2 hi0, ec2, hi0]; omega
          · rw [(q3 (by omega)).2.2, ec2]; omega
        have ep1 : nI (nc + 3 * i) + 1 = nI (nc + 3 * i + 1) := nI_1 _
        have ep2 : nI (nc + 3 * i) + 2 = nI (nc + 3 * i + 2) := nI_add _ 2
        have ep3 : nI (nc + 3 * i) + 3 = nI (nc + 3 * i + 3) := nI_add _ 3
        rw [ew, ep1, ep2, ep3, nI_c (by omega), nI_c (by omega), nI_c (by omega), j4 _ hlt, ilen_sh hlt]
        refine ⟨nI_v (by omega) (by omega), nI_v (by omega) (by omega), nI_v (by omega) (by omega), ?_⟩
        have hh := hs h1 h2 h3 i v t (by rw [cn]; exact hi) q1 hcc
        dsimp only at hh
        rw [cc] at hh
        obtain ⟨hh1, hh2⟩ := hh
        have nxt : ∀ v' t', J (i + 1) v' t' → AA (Call (d + 2)) y_X_writers Q 44 [.ref 0, .int a, .int b, .int c, .int e, .ref (61 + a.toNatClampNeg), .int (nI (nc + 3 * i + 3)), .int v', .int (nI i + 1)] [] t' := by
          intro v' t' hj
          rw [nI_1]
          exact ih (nI (nc + 3 * i + 3), v', t') ⟨hj, fun z => absurd z (by omega), fun _ => ⟨hcc.1, by omega, by rw [nI_i (by omega)]; omega⟩⟩
        refine Writers_add_ok j1 (fun y => ⟨_, rfl, fun _ => ?_, fun z => absurd (by decide) z⟩) (fun y y2 => ⟨_, rfl, fun _ => ?_, fun z => absurd (by decide) z⟩) (fun y y2 t' o1 o2 o3 o4 o5 => ⟨_, rfl, fun z => absurd (lt32.mp z) (by have := j1.1; show ¬ _ < (0 : Int); omega), fun _ => ?_⟩)
        · exact nxt _ _ (hh1 (fun z => y z.1))
        · exact nxt _ _ (hh1 (fun z => by omega))
        · exact nxt _ _ (hh2 y y2 t' o1 o2 o3 o4 o5)
      · rw [j3]
        have := hwc.mpr z
        exact ⟨this.1, by decide, this.2⟩
  refine b_X_writers_0 ?_
  refine X_within_ok (A := a.toInt) (B := 3) rfl rfl ⟨_, rfl, b_z (fun c1 => hb (fun z => c1 ⟨z.1, z.2.1⟩)) (fun c1 => ?_)⟩
  refine X_within_ok (A := b.toInt) (B := 2) rfl rfl ⟨_, rfl, b_z (fun c2 => hb (fun z => c2 ⟨z.2.2.1, z.2.2.2.1⟩)) (fun c2 => ?_)⟩
  refine X_within_ok (A := e.toInt) (B := 5) rfl rfl ⟨_, rfl, b_nz (fun c3 => ?_) (fun c3 => hb (fun z => c3 z.2.2.2.2))⟩
  have hv : vp_in a 4 := vin_of c1.1 (by omega)
  have hA : 0 ≤ a.toInt ∧ a.toInt ≤ 3 ∧ 0 ≤ b.toInt ∧ b.toInt ≤ 2 ∧ 0 ≤ e.toInt ∧ e.toInt ≤ 5 := ⟨c1.1, c1.2, c2.1, c2.2, c3.1, c3.2⟩
  exact ⟨hv, fun c4 => ⟨hv, fun c5 => ⟨hv, key hA (fun z => c4 (eq32.mpr z)) (eq32.mp c5)⟩, fun c5 => hu hA (fun z => c4 (eq32.mpr z)) (fun z => c5 (eq32.mpr z))⟩, fun c4 => hm hA (eq32.mp c4)⟩
theorem cp0 {f g : Nat → Int32} {n j : Nat} (h : j < n) : va_cpy f g 0 0 n j = f j := by
  unfold va_cpy
  rw [if_pos (by omega)]
  simp
/-- what an image holds -/
def imgX (μ μ' : Mem) : Prop := (∀ j, j < 8 → μ'.1 52 j = μ.1 1 j) ∧ (∀ j, j < 5 → μ'.1 53 j = μ.1 17 j ∧ μ'.1 54 j = μ.1 18 j ∧ μ'.1 55 j = μ.1 19 j) ∧ (∀ j, j < 6 → μ'.1 56 j = μ.1 22 j) ∧ μ'.1 51 0 = 1 ∧ μ'.1 51 2 = μ.1 2 3 ∧ μ'.1 51 3 = μ.1 27 5 ∧ μ'.1 51 7 = μ.1 16 3 ∧ μ'.1 51 9 = μ.1 20 2 ∧ μ'.1 51 10 = μ.1 20 3
theorem X_image_ok {d : Nat} {Q : QQ} {μ : Mem} (hQ : ∀ μ', Only [51, 52, 53, 54, 55, 56] μ μ' → imgX μ μ' → Q (.int (μ.1 16 3)) μ') : Call (d + 2) y_X_image [.ref 0] μ Q := by
  refine b_X_image_0 ⟨by decide, fun μ1 e1 => ?_⟩
  refine b_Image_keepWriters_0 ⟨by decide, fun μ2 e2 => ⟨by decide, fun μ3 e3 => ⟨by decide, fun μ4 e4 μ5 e5 => ?_⟩⟩⟩
  refine b_Image_keepLaws_0 ⟨by decide, fun μ6 e6 μ7 e7 μ8 e8 => ?_⟩
  intro μ9 e9 μ10 e10
  refine ⟨rfl, fun μ11 e11 => ?_⟩
  refine Qi (hQ μ11 ?_ ?_) ?_ <;> subst_vars
  · intro k hk
    simp at hk
    simp [wI, hk]
  · refine ⟨fun j hj => ?_, fun j hj => ⟨?_, ?_, ?_⟩, fun j hj => ?_, ?_, ?_, ?_, ?_, ?_, ?_⟩
    all_goals first | (simp [wI]; exact cp0 hj) | simp [wI, upd]
  · simp [wI]
theorem X_back_ok {d : Nat} {Q : QQ} {μ : Mem} (hn : (μ.1 51 0).toInt = 0 → Q (.int (-3)) μ) (hQ : ¬ (μ.1 51 0).toInt = 0 → ∀ μ', Only [1, 2, 16, 17, 18, 19, 20, 22, 27] μ μ' → (∀ j, j < 8 → μ'.1 1 j = μ.1 52 j) → (∀ j, j < 5 → μ'.1 17 j = μ.1 53 j ∧ μ'.1 18 j = μ.1 54 j ∧ μ'.1 19 j = μ.1 55 j) → (∀ j, j < 6 → μ'.1 22 j = μ.1 56 j) → μ'.1 2 = upd (μ.1 2) 3 (μ.1 51 2) → μ'.1 27 = upd (μ.1 27) 5 (μ.1 51 3) → μ'.1 16 = upd (μ.1 16) 3 (μ.1 51 7) → μ'.1 20 = upd (upd (μ.1 20) 2 (μ.1 51 9)) 3 (μ.1 51 10) → Q (.int (μ.1 51 7)) μ') : Call (d + 2) y_X_back [.ref 0] μ Q := by
  refine b_X_back_0 ⟨fun c1 => ⟨by decide, fun μ1 e1 => ?_⟩, fun c1 => hn (eq32.mp c1)⟩
  have c1 : ¬ (μ.1 51 0).toInt = 0 := fun z => c1 (eq32.mpr z)
  refine b_Image_restoreWriters_0 ⟨by decide, fun μ2 e2 => ⟨by decide, fun μ3 e3 => ⟨by decide, fun μ4 e4 μ5 e5 => ?_⟩⟩⟩
  refine b_Image_restoreLaws_0 ⟨by decide, fun μ6 e6 μ7 e7 μ8 e8 => ?_⟩
  intro μ9 e9 μ10 e10
  refine Qi (hQ c1 μ10 ?_ ?_ ?_ ?_ ?_ ?_ ?_ ?_) ?_ <;> subst_vars
  · intro k hk
    simp at hk
    simp [wI, hk]
  · intro j hj
    simp [wI]
    exact cp0 hj
  · intro j hj
    refine ⟨?_, ?_, ?_⟩ <;> (simp [wI]; exact cp0 hj)
  · intro j hj
    simp [wI]
    exact cp0 hj
  all_goals simp [wI, upd]
end
section
/-! ===== texts: their codes, run ===== -/
def unC (c b : Int32) : Int32 := if -c = 261 then (if b = 0 then 1 else 0) else -b
def biC (c a b : Int32) : Int32 := if -c = 42 then a * b else if -c = 43 then a + b else if -c = 45 then a - b else if -c = 60 then (if b ≤ a then 0 else 1) else if -c = 61 then (if a = b then 1 else 0) else if -c = 259 then (if a = 0 then (if b = 0 then 0 else 1) else 1) else if -c = 260 then (if a = 0 then 0 else (if b = 0 then 0 else 1)) else -b
def stC (env : Nat → Int32) (c : Int32) (f : Nat → Int32) (t : Nat) : Option ((Nat → Int32) × Nat) :=
  if c < -6 then (if c = -262 ∨ c = -261 then (if 1 ≤ t then some (upd f (t - 1) (unC c (f (t - 1))), t) else none)
    else (if 2 ≤ t then some (upd f (t - 2) (biC c (f (t - 2)) (f (t - 1))), t - 1) else none))
  else (if t < 31 then some (upd f t (if c < 0 then env (-1 - c).toNatClampNeg else c), t + 1) else none)
def runC (env : Nat → Int32) : List Int32 → (Nat → Int32) → Nat → Option ((Nat → Int32) × Nat)
  | [], f, t => some (f, t)
  | c :: r, f, t => match stC env c f t with
    | some s => runC env r s.1 s.2
    | none => none
theorem runC_app {env : Nat → Int32} : ∀ {a b : List Int32} {f : Nat → Int32} {t : Nat} {s : (Nat → Int32) × Nat}, runC env a f t = some s → runC env (a ++ b) f t = runC env b s.1 s.2
  | [], b, f, t, s, h => by
    simp only [runC] at h
    cases h
    rfl
  | c :: r, b, f, t, s, h => by
    simp only [runC, List.cons_append] at h ⊢
    cases q : stC env c f t with
    | none => rw [q] at h; cases h
    | some s1 =>
      rw [q] at h
      exact runC_app h
/-- a code that leaves one value on what is there, with so much room -/
def semC (env : Nat → Int32) (c : List Int32) (v : Int32) (k : Nat) : Prop := ∀ f t, t + k ≤ 31 → ∃ f', runC env c f t = some (f', t + 1) ∧ f' t = v ∧ ∀ j, j < t → f' j = f j
theorem semC.mono {env : Nat → Int32} {c : List Int32} {v : Int32} {k k' : Nat} (h : semC env c v k) (hk : k ≤ k') : semC env c v k' := fun f t q => h f t (by omega)
theorem semC.one {env : Nat → Int32} {c : Int32} (h : ¬ c < -6) : semC env [c] (if c < 0 then env (-1 - c).toNatClampNeg else c) 1 := fun f t q => ⟨_, by simp only [runC, stC]; rw [if_neg h, if_pos (by omega)], upd_s, fun j hj => upd_n (by omega)⟩
theorem semC.un {env : Nat → Int32} {a : List Int32} {v c : Int32} {k : Nat} (h : semC env a v k) (hc : c = -262 ∨ c = -261) : semC env (a ++ [c]) (unC c v) k := by
  intro f t q
  obtain ⟨f', h1, h2, h3⟩ := h f t q
  have h6 : c < -6 := by rcases hc with rfl | rfl <;> decide
  refine ⟨_, by rw [runC_app h1]; simp only [runC, stC]; rw [if_pos h6, if_pos hc, if_pos (by omega)], ?_, fun j hj => ?_⟩
  · show upd f' (t + 1 - 1) _ t = _
    rw [show t + 1 - 1 = t by omega, upd_s, h2]
  · show upd f' (t + 1 - 1) _ j = _
    rw [upd_n (by omega), h3 j hj]
theorem semC.bi {env : Nat → Int32} {a b : List Int32} {v w c : Int32} {k : Nat} (h : semC env a v (k + 1)) (hb : semC env b w k) (h6 : c < -6) (hc : ¬ (c = -262 ∨ c = -261)) : semC env (a ++ b ++ [c]) (biC c v w) (k + 1) := by
  intro f t q
  obtain ⟨f1, h1, h2, h3⟩ := h f t q
  obtain ⟨f2, g1, g2, g3⟩ := hb f1 (t + 1) (by omega)
  refine ⟨_, by rw [List.append_assoc, runC_app h1, runC_app g1]; simp only [runC, stC]; rw [if_pos h6, if_neg hc, if_pos (by omega)]; rfl, ?_, fun j hj => ?_⟩
  · show upd f2 (t + 1 + 1 - 2) _ t = _
    rw [show t + 1 + 1 - 2 = t by omega, upd_s, show t + 1 + 1 - 1 = t + 1 by omega, g2, g3 t (by omega), h2]
  · show upd f2 (t + 1 + 1 - 2) _ j = _
    rw [upd_n (by omega), g3 j (by omega), h3 j hj]
def envF (u h l n p m : Int32) : Nat → Int32 := fun j => if j = 0 then u else if j = 1 then h else if j = 2 then l else if j = 3 then n else if j = 4 then p else m
def evF (c : List Int32) (env : Nat → Int32) : Int32 := match runC env c (fun _ => 0) 0 with
  | some s => s.1 0
  | none => 0
/-- a code of a text's part -/
def okC (c : List Int32) : Prop := ∀ env, semC env c (evF c env) 31
theorem okC_of {c : List Int32} (h : ∀ env, ∃ v, semC env c v 31) : okC c := by
  intro env
  obtain ⟨v, hv⟩ := h env
  obtain ⟨f', h1, h2, h3⟩ := hv (fun _ => 0) 0 (by omega)
  have : evF c env = v := by unfold evF; rw [h1]; exact h2
  rw [this]
  exact hv
theorem evF_of {c : List Int32} {env : Nat → Int32} {v : Int32} (hv : semC env c v 31) : evF c env = v := by
  obtain ⟨f', h1, h2, h3⟩ := hv (fun _ => 0) 0 (by omega)
  unfold evF; rw [h1]; exact h2
theorem name_ix {c : Int32} (h : ¬ c < -6) (h0 : c < 0) : vp_in (-1 - c) 6 := by
  have h1 : ¬ c.toInt < -6 := fun z => h (lt32.mpr z)
  have h2 : c.toInt < 0 := lt32.mp h0
  have e : (-1 - c).toInt = -1 - c.toInt := sub32 (by show _ ≤ (-1 : Int) - _; omega) (by show (-1 : Int) - _ < _; omega)
  exact vin_of (by omega) (by omega)
theorem stC_env {e1 e2 : Nat → Int32} {c : Int32} {f : Nat → Int32} {t : Nat} (h : ∀ j, j < 6 → e1 j = e2 j) : stC e1 c f t = stC e2 c f t := by
  unfold stC
  by_cases h6 : c < -6
  · rw [if_pos h6, if_pos h6]
  · rw [if_neg h6, if_neg h6]
    by_cases h0 : c < 0
    · rw [if_pos h0, if_pos h0, h _ (vin_lt (name_ix h6 h0))]
    · rw [if_neg h0, if_neg h0]
theorem runC_env {e1 e2 : Nat → Int32} (h : ∀ j, j < 6 → e1 j = e2 j) : ∀ (c : List Int32) (f : Nat → Int32) (t : Nat), runC e1 c f t = runC e2 c f t
  | [], _, _ => rfl
  | c :: r, f, t => by
    simp only [runC]
    rw [stC_env h]
    cases stC e2 c f t with
    | none => rfl
    | some s => exact runC_env h r _ _
theorem evF_env {e1 e2 : Nat → Int32} {c : List Int32} (h : ∀ j, j < 6 → e1 j = e2 j) : evF c e1 = evF c e2 := by
  unfold evF
  rw [runC_env h]
theorem top_i {t : Nat} (h : t < 2147483648) : (nI t - 1).toInt = t - 1 := by
  rw [m1 (by rw [nI_i h]; omega), nI_i h]
theorem top_p (t : Nat) : nI t - 1 + 1 = nI t := Int32.sub_add_cancel _ _
theorem top_m {t : Nat} : nI (t + 1) - 1 + -1 = nI t - 1 := by rw [nI_pred, Int32.sub_eq_add_neg]
theorem top_c {t : Nat} (h : t < 2147483648) : (nI t - 1).toNatClampNeg = t - 1 := by
  show (nI t - 1).toInt.toNat = _
  rw [top_i h]
  omega
/-- the place of a part's code in a row -/
def codeAt (f : Nat → Int32) (i : Nat) (c : List Int32) : Prop := ∀ j, j < c.length → f (i + j) = c.getD j 0
theorem Texts_valued_ok {d : Nat} {Q : QQ} {μ : Mem} {t p i0 : Nat} {c : List Int32} (ht : t < 6) (hp : p < 3) (hr : μ.1 27 5 = nI t) (hc : codeAt (μ.1 (29 + t)) i0 c) (hi : i0 + c.length ≤ 160) (h0 : p = 0 → i0 = 0) (h1 : p ≠ 0 → μ.1 (36 + t) (p - 1) = nI i0) (h2 : μ.1 (36 + t) p = nI (i0 + c.length)) (hok : okC c) (hQ : ∀ μ', Only [43] μ μ' → Q (.int (evF c (μ.1 42))) μ') : Call (d + 1) y_Texts_valued [.ref 27, .int (nI p)] μ Q := by
  have hl : ilen 0 (36 + t) = 3 := by
    rcases (show t = 0 ∨ t = 1 ∨ t = 2 ∨ t = 3 ∨ t = 4 ∨ t = 5 by omega) with rfl | rfl | rfl | rfl | rfl | rfl <;> rfl
  have hl2 : ilen 0 (29 + t) = 160 := by
    rcases (show t = 0 ∨ t = 1 ∨ t = 2 ∨ t = 3 ∨ t = 4 ∨ t = 5 by omega) with rfl | rfl | rfl | rfl | rfl | rfl <;> rfl
  have key : ∀ (r : List Int32) (i k : Nat) (ν : Mem) (s : (Nat → Int32) × Nat), i + r.length = i0 + c.length → (∀ j, j < r.length → μ.1 (29 + t) (i + j) = r.getD j 0) → k ≤ 31 → Only [43] μ ν → runC (μ.1 42) r (ν.1 43) k = some s → (∀ ν', Only [43] μ ν' → ν'.1 43 = s.1 → Q (.int (s.1 0)) ν') → AA (Call d) y_Texts_valued Q 30 [.ref 27, .int (nI p), .ref (29 + t), .int (nI (i0 + c.length)), .int (nI k - 1), .int (nI i), un, un, un, un] [] ν := by
    intro r
    induction r with
    | nil =>
      intro i k ν s q1 q2 q3 o q4 hQ
      have q1 : i = i0 + c.length := by simpa using q1
      simp only [runC] at q4
      cases q4
      refine b_Texts_valued_30 ⟨fun _ => ⟨vin_of (by decide) (by decide), hQ ν o rfl⟩, fun z => absurd (by rw [q1]; exact Int32.le_refl _) z⟩
    | cons c1 r ih =>
      intro i k ν s q1 q2 q3 o q4 hQ
      have q1' : i + 1 + r.length = i0 + c.length := by simp at q1; omega
      have ei := nI_i (n := i) (by omega)
      have ee := nI_i (n := i0 + c.length) (by omega)
      have hci : ν.1 (29 + t) i = c1 := by
        rw [o.i (29 + t) (by simp; omega)]
        have := q2 0 (by simp)
        simpa using this
      have tk := top_i (t := k) (by omega)
      have nxt : ∀ (k' : Nat) (ν' : Mem), k' ≤ 31 → Only [43] ν ν' → runC (μ.1 42) r (ν'.1 43) k' = some s → ∀ a b e : Value, isL a = false → isL b = false → isL e = false → ∀ a0 : Value, isL a0 = false → AA (Call d) y_Texts_valued Q 30 [.ref 27, .int (nI p), .ref (29 + t), .int (nI (i0 + c.length)), .int (nI k' - 1), .int (nI i + 1), a0, a, b, e] [] ν' := by
        intro k' ν' w1 w2 w3 a b e la lb le a0 l0
        rw [nI_1]
        refine AA_weak (lv := [.ref 27, .int (nI p), .ref (29 + t), .int (nI (i0 + c.length)), .int (nI k' - 1), .int (nI (i + 1)), un, un, un, un]) ⟨Or.inl rfl, Or.inl rfl, Or.inl rfl, Or.inl rfl, Or.inl rfl, Or.inl rfl, Or.inr ⟨rfl, l0⟩, Or.inr ⟨rfl, la⟩, Or.inr ⟨rfl, lb⟩, Or.inr ⟨rfl, le⟩, trivial⟩ ?_
        refine ih (i + 1) k' ν' s q1' (fun j hj => ?_) w1 (o.trans w2) w3 hQ
        have := q2 (j + 1) (by simp; omega)
        rw [show i + 1 + j = i + (j + 1) by omega]
        simpa using this
      have nxt182 : ∀ (k' : Nat) (ν' : Mem), k' ≤ 31 → Only [43] ν ν' → runC (μ.1 42) r (ν'.1 43) k' = some s → ∀ (a b e : Value) (x : Int32), isL a = false → isL b = false → isL e = false → AA (Call d) y_Texts_valued Q 182 [.ref 27, .int (nI p), .ref (29 + t), .int (nI (i0 + c.length)), .int (nI k' - 1), .int (nI i), .int x, a, b, e] [] ν' := by
        intro k' ν' w1 w2 w3 a b e x la lb le
        refine AA_weak (lv := [.ref 27, .int (nI p), .ref (29 + t), .int (nI (i0 + c.length)), .int (nI k' - 1), .int (nI i), .int x, un, un, un]) ⟨Or.inl rfl, Or.inl rfl, Or.inl rfl, Or.inl rfl, Or.inl rfl, Or.inl rfl, Or.inl rfl, Or.inr ⟨rfl, la⟩, Or.inr ⟨rfl, lb⟩, Or.inr ⟨rfl, le⟩, trivial⟩ ?_
        exact b_Texts_valued_182 (nxt k' ν' w1 w2 w3 un un un rfl rfl rfl (.int x) rfl)
      simp only [runC] at q4
      -- the ways of one step
      have push : ∀ (v : Int32), ¬ c1 < -6 → k < 31 → (if c1 < 0 then μ.1 42 (-1 - c1).toNatClampNeg else c1) = v → (vp_in (nI k - 1 + 1) 31 ∧ ∀ μ1 : Mem, μ1 = wI ν 43 (upd (ν.1 43) (Int32.toNatClampNeg (nI k - 1 + 1)) v) → AA (Call d) y_Texts_valued Q 182 [.ref 27, .int (nI p), .ref (29 + t), .int (nI (i0 + c.length)), .int (nI k - 1 + 1), .int (nI i), .int c1, un, un, un] [] μ1) := by
        intro v g6 gk gv
        rw [top_p, nI_c (by omega)]
        refine ⟨nI_v gk (by omega), fun μ1 e1 => ?_⟩
        have ek : nI k = nI (k + 1) - 1 := (nI_pred k).symm
        rw [ek]
        refine nxt182 (k + 1) μ1 (by omega) (by rw [e1]; exact Only.w) ?_ un un un c1 rfl rfl rfl
        unfold stC at q4
        rw [if_neg g6, if_pos gk, gv] at q4
        rw [e1, wI_s]
        exact q4
      have one : ∀ (b : Int32) (l7 : Int32), c1 < -6 → (c1 = -262 ∨ c1 = -261) → 1 ≤ k → b = ν.1 43 (k - 1) → AA (Call d) y_Texts_valued Q 93 [.ref 27, .int (nI p), .ref (29 + t), .int (nI (i0 + c.length)), .int (nI k - 1), .int (nI i), .int c1, .int l7, .int b, .int b] [] ν := by
        intro b l7 g6 g1 gk gb
        unfold stC at q4
        rw [if_pos g6, if_pos g1, if_pos gk, ← gb] at q4
        dsimp only at q4
        have hv : vp_in (nI k - 1) 31 := vin_of (by omega) (by omega)
        have fin : ∀ (v : Int32) (μ1 : Mem), unC c1 b = v → μ1 = wI ν 43 (upd (ν.1 43) (Int32.toNatClampNeg (nI k - 1)) v) → AA (Call d) y_Texts_valued Q 182 [.ref 27, .int (nI p), .ref (29 + t), .int (nI (i0 + c.length)), .int (nI k - 1), .int (nI i), .int c1, .int l7, .int b, .int b] [] μ1 := by
          intro v μ1 gv e1
          rw [top_c (by omega)] at e1
          refine nxt182 k μ1 q3 (by rw [e1]; exact Only.w) ?_ (.int l7) (.int b) (.int b) c1 rfl rfl rfl
          rw [e1, wI_s, ← gv]
          exact q4
        refine b_Texts_valued_93 ?_
        rcases g1 with g1 | g1
        · subst g1
          refine ⟨fun z => absurd z (by decide), fun _ => ⟨fun z => absurd z (by decide), fun _ => ⟨fun z => absurd z (by decide), fun _ => ⟨fun z => absurd z (by decide), fun _ => ⟨fun z => absurd z (by decide), fun _ => ⟨fun z => absurd z (by decide), fun _ => ⟨fun z => absurd z (by decide), fun _ => ⟨fun z => absurd z (by decide), fun _ => ⟨hv, fun μ1 e1 => fin _ μ1 rfl e1⟩⟩⟩⟩⟩⟩⟩⟩⟩
        · subst g1
          refine ⟨fun z => absurd z (by decide), fun _ => ⟨fun z => absurd z (by decide), fun _ => ⟨fun z => absurd z (by decide), fun _ => ⟨fun z => absurd z (by decide), fun _ => ⟨fun z => absurd z (by decide), fun _ => ⟨fun z => absurd z (by decide), fun _ => ⟨fun z => absurd z (by decide), fun _ => ⟨fun _ => ⟨fun z => ⟨hv, fun μ1 e1 => fin _ μ1 ?_ e1⟩, fun z => ⟨hv, fun μ1 e1 => fin _ μ1 ?_ e1⟩⟩, fun z => absurd rfl z⟩⟩⟩⟩⟩⟩⟩⟩
          · unfold unC; rw [if_pos (by decide), if_neg z]
          · unfold unC; rw [if_pos (by decide), if_pos z]
      have two : ∀ (a b : Int32) (l7 : Int32), c1 < -6 → ¬ (c1 = -262 ∨ c1 = -261) → 2 ≤ k → b = ν.1 43 (k - 1) → a = ν.1 43 (k - 2) → AA (Call d) y_Texts_valued Q 93 [.ref 27, .int (nI p), .ref (29 + t), .int (nI (i0 + c.length)), .int (nI (k - 1) - 1), .int (nI i), .int c1, .int l7, .int b, .int a] [] ν := by
        intro a b l7 g6 g1 gk gb ga
        unfold stC at q4
        rw [if_pos g6, if_neg g1, if_pos gk, ← gb, ← ga] at q4
        dsimp only at q4
        have tk1 := top_i (t := k - 1) (by omega)
        have hv : vp_in (nI (k - 1) - 1) 31 := vin_of (by omega) (by omega)
        have fin : ∀ (v : Int32) (μ1 : Mem), biC c1 a b = v → μ1 = wI ν 43 (upd (ν.1 43) (Int32.toNatClampNeg (nI (k - 1) - 1)) v) → AA (Call d) y_Texts_valued Q 182 [.ref 27, .int (nI p), .ref (29 + t), .int (nI (i0 + c.length)), .int (nI (k - 1) - 1), .int (nI i), .int c1, .int l7, .int b, .int a] [] μ1 := by
          intro v μ1 gv e1
          rw [top_c (by omega), show k - 1 - 1 = k - 2 by omega] at e1
          refine nxt182 (k - 1) μ1 (by omega) (by rw [e1]; exact Only.w) ?_ (.int l7) (.int b) (.int a) c1 rfl rfl rfl
          rw [e1, wI_s, ← gv]
          exact q4
        have n261 : ¬ -c1 = 261 := fun z => g1 (Or.inr (by rw [← Int32.neg_neg (a := c1), z]))
        refine b_Texts_valued_93 ?_
        unfold biC at fin
        refine ⟨fun z1 => ⟨hv, fun μ1 e1 => fin _ μ1 (by rw [if_pos z1]) e1⟩, fun z1 => ⟨fun z2 => ⟨hv, fun μ1 e1 => fin _ μ1 (by rw [if_neg z1, if_pos z2]) e1⟩, fun z2 => ⟨fun z3 => ⟨hv, fun μ1 e1 => fin _ μ1 (by rw [if_neg z1, if_neg z2, if_pos z3]) e1⟩, fun z3 => ⟨fun z4 => ⟨fun y => ⟨hv, fun μ1 e1 => fin _ μ1 (by rw [if_neg z1, if_neg z2, if_neg z3, if_pos z4, if_pos y]) e1⟩, fun y => ⟨hv, fun μ1 e1 => fin _ μ1 (by rw [if_neg z1, if_neg z2, if_neg z3, if_pos z4, if_neg y]) e1⟩⟩, fun z4 => ⟨fun z5 => ⟨fun y => ⟨hv, fun μ1 e1 => fin _ μ1 (by rw [if_neg z1, if_neg z2, if_neg z3, if_neg z4, if_pos z5, if_neg y]) e1⟩, fun y => ⟨hv, fun μ1 e1 => fin _ μ1 (by rw [if_neg z1, if_neg z2, if_neg z3, if_neg z4, if_pos z5, if_pos y]) e1⟩⟩, fun z5 => ⟨fun z6 => ⟨fun y => ⟨hv, fun μ1 e1 => fin _ μ1 (by rw [if_neg z1, if_neg z2, if_neg z3, if_neg z4, if_neg z5, if_pos z6, if_neg y]) e1⟩, fun y => ⟨fun y2 => ⟨hv, fun μ1 e1 => fin _ μ1 (by rw [if_neg z1, if_neg z2, if_neg z3, if_neg z4, if_neg z5, if_pos z6, if_pos y, if_pos y2]) e1⟩, fun y2 => ⟨hv, fun μ1 e1 => fin _ μ1 (by rw [if_neg z1, if_neg z2, if_neg z3, if_neg z4, if_neg z5, if_pos z6, if_pos y, if_neg y2]) e1⟩⟩⟩, fun z6 => ⟨fun z7 => ⟨fun y => ⟨hv, fun μ1 e1 => fin _ μ1 (by rw [if_neg z1, if_neg z2, if_neg z3, if_neg z4, if_neg z5, if_neg z6, if_pos z7, if_pos y]) e1⟩, fun y => ⟨fun y2 => ⟨hv, fun μ1 e1 => fin _ μ1 (by rw [if_neg z1, if_neg z2, if_neg z3, if_neg z4, if_neg z5, if_neg z6, if_pos z7, if_neg y, if_pos y2]) e1⟩, fun y2 => ⟨hv, fun μ1 e1 => fin _ μ1 (by rw [if_neg z1, if_neg z2, if_neg z3, if_neg z4, if_neg z5, if_neg z6, if_pos z7, if_neg y, if_neg y2]) e1⟩⟩⟩, fun z7 => ⟨fun z8 => absurd z8 n261, fun z8 => ⟨hv, fun μ1 e1 => fin _ μ1 (by rw [if_neg z1, if_neg z2, if_neg z3, if_neg z4, if_neg z5, if_neg z6, if_neg z7]) e1⟩⟩⟩⟩⟩⟩⟩⟩⟩
      refine b_Texts_valued_30 ⟨fun z => absurd (le32.mp z) (by rw [ei, ee]; omega), fun _ => ⟨by rw [hl2]; exact nI_v (by omega) (by omega), ?_⟩⟩
      rw [nI_c (by omega), hci]
      refine ⟨fun g6 => ?_, fun g6 => ⟨fun gk => ?_, fun gk => ?_⟩⟩
      · -- one that joins
        have w1 : (c1 = -262 ∨ c1 = -261) → AA (Call d) y_Texts_valued Q 71 [.ref 27, .int (nI p), .ref (29 + t), .int (nI (i0 + c.length)), .int (nI k - 1), .int (nI i), .int c1, .int 1, un, un] [] ν := by
          intro g1
          have gk : 1 ≤ k := by
            unfold stC at q4
            rw [if_pos g6, if_pos g1] at q4
            by_cases gk : 1 ≤ k
            · exact gk
            · rw [if_neg gk] at q4; cases q4
          have hv : vp_in (nI k - 1) 31 := vin_of (by omega) (by omega)
          refine b_Texts_valued_71 ⟨fun z => absurd z (by decide), fun _ => ⟨fun _ => ⟨hv, fun _ => ⟨hv, ?_⟩, fun z => absurd z (by decide)⟩, fun z => absurd (le32.mpr (by rw [tk]; show (0 : Int) ≤ _; omega)) z⟩⟩
          exact one _ 1 g6 g1 gk (by rw [top_c (by omega)])
        refine ⟨fun z => w1 (Or.inl z), fun z1 => ⟨fun z2 => ?_, fun z => w1 (Or.inr z)⟩⟩
        have g1 : ¬ (c1 = -262 ∨ c1 = -261) := fun w => w.elim z1 z2
        have gk : 2 ≤ k := by
          unfold stC at q4
          rw [if_pos g6, if_neg g1] at q4
          by_cases gk : 2 ≤ k
          · exact gk
          · rw [if_neg gk] at q4; cases q4
        obtain ⟨k2, rfl⟩ : ∃ k2, k = k2 + 1 := ⟨k - 1, by omega⟩
        have hv : vp_in (nI (k2 + 1) - 1) 31 := vin_of (by omega) (by omega)
        have tk2 := top_i (t := k2) (by omega)
        refine b_Texts_valued_71 ⟨fun _ => ⟨fun _ => ⟨hv, fun z => absurd rfl z, fun _ => ?_⟩, fun z => absurd (le32.mpr (by rw [tk]; show (1 : Int) ≤ _; omega)) z⟩, fun z => absurd rfl z⟩
        rw [top_m]
        refine ⟨vin_of (by omega) (by omega), ?_⟩
        refine two _ _ 0 g6 g1 gk (by rw [top_c (by omega)]) (by rw [top_c (by omega)]; exact congrArg _ (by omega))
      · have gk : k < 31 := by have := lt32.mp gk; rw [tk] at this; have h30 : (30 : Int32).toInt = 30 := rfl; omega
        refine ⟨fun g0 => ⟨name_ix g6 g0, ?_⟩, fun g0 => push _ g6 gk (if_neg g0)⟩
        rw [o.i 42]
        exact push _ g6 gk (if_pos g0)
      · exfalso
        have gk : ¬ k < 31 := fun z => gk (lt32.mpr (by rw [tk]; show _ < (30 : Int); omega))
        unfold stC at q4
        rw [if_neg g6, if_neg gk] at q4
        cases q4
  obtain ⟨f', s1, s2, s3⟩ := hok (μ.1 42) (μ.1 43) 0 (by omega)
  have ct : (nI t).toNatClampNeg = t := nI_c (by omega)
  have cp : (nI p).toNatClampNeg = p := nI_c (by omega)
  have hp3 := nI_v (n := p) hp (by omega)
  have hv6 := nI_v (n := t) ht (by omega)
  have fin : AA (Call d) y_Texts_valued Q 30 [.ref 27, .int (nI p), .ref (29 + t), .int (nI (i0 + c.length)), .int (-1), .int (nI i0), un, un, un, un] [] μ := by
    have g := key c i0 0 μ (f', 0 + 1) rfl (fun j hj => hc j hj) (by omega) Only.rf s1 (fun ν' o1 o2 => Qi (hQ ν' o1) s2)
    rw [show nI 0 - 1 = -1 by decide] at g
    exact g
  refine b_Texts_valued_0 ?_
  rw [hr, ct, hl, cp, h2]
  refine ⟨hv6, hv6, hp3, fun z => ⟨hv6, ?_⟩, fun z => ?_⟩
  · have hp0 : p ≠ 0 := fun w => z (by rw [w]; rfl)
    obtain ⟨p', rfl⟩ : ∃ p', p = p' + 1 := ⟨p - 1, by omega⟩
    rw [nI_pred, nI_c (by omega)]
    have h1 := h1 hp0
    rw [show p' + 1 - 1 = p' by omega] at h1
    rw [h1]
    exact ⟨nI_v (by omega) (by omega), fin⟩
  · have hp0 : p = 0 := by
      have z2 := congrArg Int32.toInt z
      rw [nI_i (by omega)] at z2
      have : (0 : Int32).toInt = 0 := rfl
      omega
    rw [h0 hp0] at fin ⊢
    exact fin
end
section
/-! ===== texts: the class tells names and asks; the reference keeps what it read ===== -/
theorem Texts_bounded_ok {d : Nat} {Q : QQ} {μ : Mem} {a b : Int32} (hQ : Q (.int (clampF a 0 b)) μ) : Call (d + 1) y_Texts_bounded [.int a, .int b] μ Q := by
  have z0 : (0 : Int32).toInt = 0 := rfl
  refine b_Texts_bounded_0 ?_
  refine ⟨fun c1 => ?_, fun c1 => ?_⟩
  · have c1 : (0 : Int) ≤ (a).toInt := le32.mp c1
    refine ⟨fun c2 => ?_, fun c2 => ?_⟩
    · have c2 : (a).toInt ≤ (b).toInt := le32.mp c2
      (unfold clampF at hQ; repeat' split at hQ) <;> first | exact hQ | omega
    · have c2 : ¬ (a).toInt ≤ (b).toInt := fun z => c2 (le32.mpr z)
      (unfold clampF at hQ; repeat' split at hQ) <;> first | exact hQ | omega
  · have c1 : ¬ (0 : Int) ≤ (a).toInt := fun z => c1 (le32.mpr z)
    (unfold clampF at hQ; repeat' split at hQ) <;> first | exact hQ | omega
/-- THE RULE's code lies where it should -/
def TxX (tx : Nat → Nat → List Int32) (μ : Mem) : Prop := ∀ t : Nat, (t : Int) < (μ.1 27 4).toInt → ∀ p, p < 3 → okC (tx t p) ∧ ∃ i0, codeAt (μ.1 (29 + t)) i0 (tx t p) ∧ i0 + (tx t p).length ≤ 160 ∧ (p = 0 → i0 = 0) ∧ (p ≠ 0 → μ.1 (36 + t) (p - 1) = nI i0) ∧ μ.1 (36 + t) p = nI (i0 + (tx t p).length)
theorem Texts_tell_ok {d : Nat} {Q : QQ} {μ : Mem} {a b c e f g : Int32} (hQ : ∀ μ', Only [42] μ μ' → (∀ j, j < 6 → μ'.1 42 j = envF a b c e f g j) → Q .null μ') : Call (d + 1) y_Texts_tell [.ref 27, .int a, .int b, .int c, .int e, .int f, .int g] μ Q := by
  refine b_Texts_tell_0 ⟨vin_of (by decide) (by decide), fun μ1 e1 => ⟨vin_of (by decide) (by decide), fun μ2 e2 => ⟨vin_of (by decide) (by decide), fun μ3 e3 => ⟨vin_of (by decide) (by decide), fun μ4 e4 => ⟨vin_of (by decide) (by decide), fun μ5 e5 => ⟨vin_of (by decide) (by decide), fun μ6 e6 => hQ μ6 ?_ ?_⟩⟩⟩⟩⟩⟩
  · rw [e6, e5, e4, e3, e2, e1]
    exact (((((Only.w).trans Only.w).trans Only.w).trans Only.w).trans Only.w).trans Only.w
  · intro j hj
    have c0 : (0 : Int32).toNatClampNeg = 0 := rfl
    have c1 : (1 : Int32).toNatClampNeg = 1 := rfl
    have c2 : (2 : Int32).toNatClampNeg = 2 := rfl
    have c3 : (3 : Int32).toNatClampNeg = 3 := rfl
    have c4 : (4 : Int32).toNatClampNeg = 4 := rfl
    have c5 : (5 : Int32).toNatClampNeg = 5 := rfl
    rw [e6, wI_s, e5, wI_s, e4, wI_s, e3, wI_s, e2, wI_s, e1, wI_s, c0, c1, c2, c3, c4, c5]
    rcases (show j = 0 ∨ j = 1 ∨ j = 2 ∨ j = 3 ∨ j = 4 ∨ j = 5 by omega) with rfl | rfl | rfl | rfl | rfl | rfl <;> rfl
theorem Texts_valued_tx {d : Nat} {Q : QQ} {μ : Mem} {tx : Nat → Nat → List Int32} {t p : Nat} {e : Nat → Int32} (ht : t < 6) (hp : p < 3) (hr : μ.1 27 5 = nI t) (htn : (t : Int) < (μ.1 27 4).toInt) (hT : TxX tx μ) (he : ∀ j, j < 6 → μ.1 42 j = e j) (hQ : ∀ μ', Only [43] μ μ' → Q (.int (evF (tx t p) e)) μ') : Call (d + 1) y_Texts_valued [.ref 27, .int (nI p)] μ Q := by
  obtain ⟨h1, i0, h2, h3, h4, h5, h6⟩ := hT t htn p hp
  exact Texts_valued_ok ht hp hr h2 h3 h4 h5 h6 h1 (fun μ' o => Qi (hQ μ' o) (evF_env he))
theorem TxX.cong {tx : Nat → Nat → List Int32} {μ μ' : Mem} (h4 : μ'.1 27 4 = μ.1 27 4) (hc : ∀ k, 29 ≤ k → k < 42 → μ'.1 k = μ.1 k) (ht : (μ.1 27 4).toInt ≤ 6) (h : TxX tx μ) : TxX tx μ' := by
  intro t q
  rw [h4] at q
  rw [hc (29 + t) (by omega) (by omega), hc (36 + t) (by omega) (by omega)]
  exact h t q
theorem TxX.only {tx : Nat → Nat → List Int32} {μ μ' : Mem} {ks : List Nat} (o : Only ks μ μ') (hc : ∀ k, 27 ≤ k → k < 42 → k ∉ ks) (ht : (μ.1 27 4).toInt ≤ 6) (h : TxX tx μ) : TxX tx μ' := h.cong (by rw [o.i 27 (hc 27 (by omega) (by omega))]) (fun k h1 h2 => o.i k (hc k (by omega) h2)) ht
/-- THE RULE's number in the class -/
def rulX (t : Nat) (μ : Mem) : Prop := t < 6 ∧ μ.1 27 5 = nI t ∧ (t : Int) < (μ.1 27 4).toInt ∧ (μ.1 27 4).toInt ≤ 6
theorem rulX.only {t : Nat} {μ μ' : Mem} {ks : List Nat} (o : Only ks μ μ') (hc : 27 ∉ ks) (h : rulX t μ) : rulX t μ' := by
  unfold rulX
  rw [o.i 27 hc]
  exact h
theorem n42 : ∀ k, 27 ≤ k → k < 42 → k ∉ [42] := by intro k h1 h2; simp; omega
theorem n4243 : ∀ k, 27 ≤ k → k < 42 → k ∉ [42, 43] := by intro k h1 h2; simp; omega
theorem Texts_adds_ok {d : Nat} {Q : QQ} {μ : Mem} {tx : Nat → Nat → List Int32} {t : Nat} {a b c : Int32} (hr : rulX t μ) (hT : TxX tx μ) (hQ : ∀ μ', Only [42, 43] μ μ' → Q (.int (clampF (evF (tx t 0) (envF a b c 0 0 0)) 0 99)) μ') : Call (d + 2) y_Texts_adds [.ref 27, .int a, .int b, .int c] μ Q := by
  refine b_Texts_adds_0 (Texts_tell_ok (fun μ1 o1 o2 => ?_))
  have r1 := hr.only o1 (by decide)
  exact Texts_valued_tx (p := 0) r1.1 (by omega) r1.2.1 r1.2.2.1 (hT.only o1 n42 hr.2.2.2) o2 (fun μ2 o3 => ⟨_, rfl, Texts_bounded_ok ⟨_, rfl, hQ μ2 ((o1.mono (by simp)).trans (o3.mono (by simp)))⟩⟩)
theorem Texts_worth_ok {d : Nat} {Q : QQ} {μ : Mem} {tx : Nat → Nat → List Int32} {t : Nat} {a b c e : Int32} (hr : rulX t μ) (hT : TxX tx μ) (hQ : ∀ μ', Only [42, 43] μ μ' → Q (.int (clampF (evF (tx t 1) (envF 0 a 0 b c e)) 0 999)) μ') : Call (d + 2) y_Texts_worth [.ref 27, .int a, .int b, .int c, .int e] μ Q := by
  refine b_Texts_worth_0 (Texts_tell_ok (fun μ1 o1 o2 => ?_))
  have r1 := hr.only o1 (by decide)
  exact Texts_valued_tx (p := 1) r1.1 (by omega) r1.2.1 r1.2.2.1 (hT.only o1 n42 hr.2.2.2) o2 (fun μ2 o3 => ⟨_, rfl, Texts_bounded_ok ⟨_, rfl, hQ μ2 ((o1.mono (by simp)).trans (o3.mono (by simp)))⟩⟩)
theorem Texts_may_ok {d : Nat} {Q : QQ} {μ : Mem} {tx : Nat → Nat → List Int32} {t : Nat} {a b c e : Int32} (hr : rulX t μ) (hT : TxX tx μ) (hQ : ∀ μ', Only [42, 43] μ μ' → Q (.int (b2p (¬ evF (tx t 2) (envF 0 a 0 b c e) = 0))) μ') : Call (d + 2) y_Texts_may [.ref 27, .int a, .int b, .int c, .int e] μ Q := by
  refine b_Texts_may_0 (Texts_tell_ok (fun μ1 o1 o2 => ?_))
  have r1 := hr.only o1 (by decide)
  refine Texts_valued_tx (p := 2) r1.1 (by omega) r1.2.1 r1.2.2.1 (hT.only o1 n42 hr.2.2.2) o2 (fun μ2 o3 => ⟨_, rfl, ?_⟩)
  have g := hQ μ2 ((o1.mono (by simp)).trans (o3.mono (by simp)))
  exact ⟨fun z => ⟨rfl, bQ0 g (fun w => w z)⟩, fun z => ⟨rfl, bQ1 g z⟩⟩
/-! ===== the reference ===== -/
/-- what reading and keeping touch, and other rows -/
def frA (ks : List Nat) (μ μ' : Mem) : Prop := Only (0 :: 12 :: 13 :: ks) μ μ' ∧ ∀ k, k < 19 ∨ 33 < k → μ'.1 0 k = μ.1 0 k
theorem frA.rf {ks : List Nat} {μ : Mem} : frA ks μ μ := ⟨Only.rf, fun _ _ => rfl⟩
theorem frA.trans {ks : List Nat} {a b c : Mem} (h1 : frA ks a b) (h2 : frA ks b c) : frA ks a c := ⟨h1.1.trans h2.1, fun k hk => (h2.2 k hk).trans (h1.2 k hk)⟩
theorem frA.mono {ks ks' : List Nat} {a b : Mem} (h : frA ks a b) (hs : ∀ k ∈ ks, k ∈ ks') : frA ks' a b := ⟨h.1.mono (by intro k hk; simp at hk ⊢; exact hk.imp id (Or.imp id (Or.imp id (hs k)))), h.2⟩
theorem frA.w {ks : List Nat} {μ : Mem} {k : Nat} {g : Nat → Int32} (h : k ∈ ks := by decide) (h0 : k ≠ 0 := by decide) : frA ks μ (wI μ k g) := ⟨Only.w (by simp [h]), fun j _ => by rw [wI_n (Ne.symm h0)]⟩
theorem frA.f {ks : List Nat} {μ : Mem} {k : Nat} {x : Int32} (h : 19 ≤ k ∧ k ≤ 33 := by decide) : frA ks μ (wI μ 0 (upd (μ.1 0) k x)) := ⟨Only.w (by simp), fun j hj => by rw [wI_s, upd_n (by omega)]⟩
theorem frA.i {ks : List Nat} {a b : Mem} (h : frA ks a b) (k : Nat) (hk : k ∉ 0 :: 12 :: 13 :: ks := by decide) : b.1 k = a.1 k := h.1.i k hk
/-- a read text: what its parts say -/
def RdM (b : Nat → Int32) (n : Int32) (c : Nat → List Int32) : Prop := ∀ (d t w : Nat) (Q : QQ) (ν : Mem), t < 6 → w < 3 → (∀ i, i < 160 → ν.1 1 (160 * t + i) = b i) → ν.1 2 t = n → (∀ ν', Only [0] ν ν' → (∀ k, k < 25 ∨ 33 < k → ν'.1 0 k = ν.1 0 k) → Q (.int (evF (c w) (envF (ν.1 0 19) (ν.1 0 20) (ν.1 0 21) (ν.1 0 22) (ν.1 0 23) (ν.1 0 24)))) ν') → Call (d + 60) y_M_read [.ref 0, .int (nI t), .int (nI w)] ν Q
def mz (a k b : Nat) : Nat := a * k + b
theorem mz_inj {a a' b b' k : Nat} (h1 : b < k) (h2 : b' < k) (e : mz a k b = mz a' k b') : a = a' ∧ b = b' := by
  unfold mz at e
  have d1 : (a * k + b) / k = a := by rw [Nat.mul_comm, Nat.mul_add_div (by omega), Nat.div_eq_of_lt h1]; rfl
  have d2 : (a' * k + b') / k = a' := by rw [Nat.mul_comm, Nat.mul_add_div (by omega), Nat.div_eq_of_lt h2]; rfl
  rw [e, d2] at d1
  subst d1
  exact ⟨rfl, by omega⟩
theorem mz_lt {a k b n : Nat} (ha : a < n) (hb : b < k) : mz a k b < n * k := by
  unfold mz
  have : (a + 1) * k ≤ n * k := Nat.mul_le_mul_right k ha
  rw [Nat.succ_mul] at this
  omega
def keyN (t w u h l n p m : Nat) : Nat := mz (mz (mz (mz (mz (mz (mz t 3 w) 1000 u) 32 h) 16 l) 64 n) 1048576 p) 16 m + 1
theorem keyN_inj {t w u h l n p m t' w' u' h' l' n' p' m' : Nat} (w1 : w < 3) (u1 : u < 1000) (h1 : h < 32) (l1 : l < 16) (n1 : n < 64) (p1 : p < 1048576) (m1 : m < 16) (w2 : w' < 3) (u2 : u' < 1000) (h2 : h' < 32) (l2 : l' < 16) (n2 : n' < 64) (p2 : p' < 1048576) (m2 : m' < 16) (e : keyN t w u h l n p m = keyN t' w' u' h' l' n' p' m') : t = t' ∧ w = w' ∧ u = u' ∧ h = h' ∧ l = l' ∧ n = n' ∧ p = p' ∧ m = m' := by
  unfold keyN at e
  obtain ⟨e, q6⟩ := mz_inj m1 m2 (Nat.succ.inj e)
  obtain ⟨e, q5⟩ := mz_inj p1 p2 e
  obtain ⟨e, q4⟩ := mz_inj n1 n2 e
  obtain ⟨e, q3⟩ := mz_inj l1 l2 e
  obtain ⟨e, q2⟩ := mz_inj h1 h2 e
  obtain ⟨e, q1⟩ := mz_inj u1 u2 e
  obtain ⟨e, q0⟩ := mz_inj w1 w2 e
  exact ⟨e, q0, q1, q2, q3, q4, q5, q6⟩
def cacheM (tx : Nat → Nat → List Int32) (cn : Int32) (ko : Nat → Int64) (kw : Nat → Int32) : Prop := ∀ j, j < 1024 → ko j = 0 ∨ ∃ t w u h l n p m : Nat, (t : Int) < cn.toInt ∧ w < 3 ∧ u < 1000 ∧ h < 32 ∧ l < 16 ∧ n < 64 ∧ p < 1048576 ∧ m < 16 ∧ (ko j).toInt = (keyN t w u h l n p m : Int) ∧ kw j = evF (tx t w) (envF (nI u) (nI h) (nI l) (nI n) (nI p) (nI m))
def TxM (tx : Nat → Nat → List Int32) (μ : Mem) : Prop := (∀ t : Nat, (t : Int) < (μ.1 0 3).toInt → RdM (fun i => μ.1 1 (160 * t + i)) (μ.1 2 t) (tx t)) ∧ cacheM tx (μ.1 0 3) (μ.2 12) (μ.1 13)
theorem TxM.cong {tx : Nat → Nat → List Int32} {μ μ' : Mem} (h0 : μ'.1 0 3 = μ.1 0 3) (h1 : μ'.1 1 = μ.1 1) (h2 : μ'.1 2 = μ.1 2) (h3 : μ'.1 13 = μ.1 13) (h4 : μ'.2 12 = μ.2 12) (h : TxM tx μ) : TxM tx μ' := by
  unfold TxM
  rw [h0, h1, h2, h3, h4]
  exact h
theorem ma64 {a : Int64} {k : Int64} {x : Int32} {A K X : Int} (ha : a.toInt = A) (hk : k.toInt = K) (hx : x.toInt = X) (h0 : 0 ≤ A) (h1 : 0 ≤ X) (h2 : 0 ≤ A * K) (h3 : A * K + X < 9223372036854775808) : (a * k + x.toInt64).toInt = A * K + X := by
  have m : (a * k).toInt = A * K := by
    rw [Int64.toInt_mul, ha, hk]
    exact Int.bmod_eq_of_le (by omega) (by omega)
  rw [Int64.toInt_add, m, lI, hx]
  exact Int.bmod_eq_of_le (by omega) (by omega)
theorem place_ok (y : Int64) : vp_in (Int64.toInt32 ((Int64.toUInt64 y >>> ((Int32.toInt64 54).toUInt64 &&& Int64.toUInt64 63)).toInt64)) 1024 := by
  have e : ((Int32.toInt64 54).toUInt64 &&& Int64.toUInt64 63) = 54 := by decide
  rw [e]
  have h1 : (Int64.toUInt64 y >>> 54).toNat < 1024 := by
    rw [UInt64.toNat_shiftRight]
    have h2 : (54 : UInt64).toNat % 64 = 54 := rfl
    rw [h2, Nat.shiftRight_eq_div_pow]
    have h3 := UInt64.toNat_lt (Int64.toUInt64 y)
    omega
  generalize (Int64.toUInt64 y >>> 54) = z at h1
  have e1 : z.toInt64.toInt = z.toNat := by
    have : z.toInt64.toInt = z.toBitVec.toInt := rfl
    rw [this, BitVec.toInt_eq_toNat_cond]
    have : z.toBitVec.toNat = z.toNat := rfl
    rw [this, if_pos (by omega)]
  have e2 : z.toInt64.toInt32.toInt = z.toNat := by
    rw [Int64.toInt_toInt32, e1]
    exact Int.bmod_eq_of_le (by omega) (by omega)
  exact vin_of (by omega) (by omega)
/-- the names are told -/
def nmM (μ : Mem) (u h l n p m : Nat) : Prop := u < 1000 ∧ h < 32 ∧ l < 16 ∧ n < 64 ∧ p < 1048576 ∧ m < 16 ∧ μ.1 0 19 = nI u ∧ μ.1 0 20 = nI h ∧ μ.1 0 21 = nI l ∧ μ.1 0 22 = nI n ∧ μ.1 0 23 = nI p ∧ μ.1 0 24 = nI m
def rulM (t : Nat) (μ : Mem) : Prop := t < 6 ∧ μ.1 0 4 = nI t ∧ (t : Int) < (μ.1 0 3).toInt
theorem vp_updL_s {f : Nat → Int64} {k : Nat} {x : Int64} : vp_updL f k x k = x := by simp [vp_updL]
theorem vp_updL_n {f : Nat → Int64} {k j : Nat} {x : Int64} (h : j ≠ k) : vp_updL f k x j = f j := by simp [vp_updL, h]
theorem M_keptRead_ok {d : Nat} {Q : QQ} {μ : Mem} {tx : Nat → Nat → List Int32} {t w u h l n p m : Nat} (hr : rulM t μ) (hw : w < 3) (hn : nmM μ u h l n p m) (hT : TxM tx μ) (hQ : ∀ μ', frA [] μ μ' → TxM tx μ' → Q (.int (evF (tx t w) (envF (nI u) (nI h) (nI l) (nI n) (nI p) (nI m)))) μ') : Call (d + 61) y_M_keptRead [.ref 0, .int (nI w)] μ Q := by
  obtain ⟨r1, r2, r3⟩ := hr
  obtain ⟨u1, h1, l1, n1, p1, m1, e19, e20, e21, e22, e23, e24⟩ := hn
  have key : ∀ (k : Int64) (x : Int32), k.toInt = (keyN t w u h l n p m : Int) → vp_in x 1024 → AA (Call (d + 60)) y_M_keptRead Q 66 [.ref 0, .int (nI w), .long k, un, .int x] [] μ := by
    intro k x hk hx
    have hlt := vin_lt hx
    refine b_M_keptRead_66 ⟨hx, fun z => ⟨hx, ?_⟩, fun z => ?_⟩
    · have hke : μ.2 12 x.toNatClampNeg = k := by
        apply Int64.toInt_inj.mp
        have q1 : ¬ (μ.2 12 x.toNatClampNeg).toInt < k.toInt := fun y => by
          have := lcmp_lt.mpr y
          rw [z] at this
          exact absurd this (by decide)
        have q2 : ¬ k.toInt < (μ.2 12 x.toNatClampNeg).toInt := fun y => by
          have := lcmp_gt.mpr y
          rw [z] at this
          exact absurd this (by decide)
        omega
      refine Qi (hQ μ frA.rf hT) ?_
      rcases hT.2 _ hlt with q | ⟨t', w', u', h', l', n', p', m', a1, a2, a3, a4, a5, a6, a7, a8, a9, a10⟩
      · rw [hke] at q
        rw [q] at hk
        have : (0 : Int64).toInt = 0 := rfl
        unfold keyN at hk
        omega
      · rw [hke, hk] at a9
        have a9 : keyN t w u h l n p m = keyN t' w' u' h' l' n' p' m' := by omega
        obtain ⟨rfl, rfl, rfl, rfl, rfl, rfl, rfl, rfl⟩ := keyN_inj hw u1 h1 l1 n1 p1 m1 a2 a3 a4 a5 a6 a7 a8 a9
        exact a10
    · rw [r2]
      refine hT.1 t r3 d t w _ μ r1 hw (fun i _ => rfl) rfl (fun ν' o1 o2 => ⟨_, rfl, hx, fun μ3 e3 => ⟨hx, fun μ4 e4 => ⟨hx, ?_⟩⟩⟩)
      rw [e19, e20, e21, e22, e23, e24] at e3
      have f13 : μ4.1 13 = upd (μ.1 13) x.toNatClampNeg (evF (tx t w) (envF (nI u) (nI h) (nI l) (nI n) (nI p) (nI m))) := by rw [e4, wL_1, e3, wI_s, o1.i 13]
      have f12 : μ4.2 12 = vp_updL (μ.2 12) x.toNatClampNeg k := by rw [e4, wL_s, e3, wI_2, o1.l 12]
      have f0 : μ4.1 0 = ν'.1 0 := by rw [e4, wL_1, e3, wI_n (by decide)]
      have fo : ∀ a, a ≠ 0 → a ≠ 12 → a ≠ 13 → μ4.1 a = μ.1 a ∧ μ4.2 a = μ.2 a := by
        intro a q0 q12 q13
        rw [e4, wL_1, wL_n q12, e3, wI_n q13, wI_2]
        exact o1 a (by simp [q0])
      refine Qi (hQ μ4 ⟨fun a ha => ?_, fun a ha => ?_⟩ ⟨?_, ?_⟩) (by rw [f13, upd_s])
      · simp at ha
        exact fo a ha.1 ha.2.1 ha.2.2
      · rw [f0]
        exact o2 a (by omega)
      · rw [f0, o2 3 (by omega), (fo 1 (by decide) (by decide) (by decide)).1, (fo 2 (by decide) (by decide) (by decide)).1]
        exact hT.1
      · rw [f0, o2 3 (by omega), f12, f13]
        intro j hj
        by_cases q : j = x.toNatClampNeg
        · rw [q, vp_updL_s, upd_s]
          exact Or.inr ⟨t, w, u, h, l, n, p, m, r3, hw, u1, h1, l1, n1, p1, m1, hk, rfl⟩
        · rw [vp_updL_n q, upd_n q]
          exact hT.2 j hj
  have b0 := nI_i (n := t) (by omega)
  have b1 := nI_i (n := w) (by omega)
  have b2 := nI_i (n := u) (by omega)
  have b3 := nI_i (n := h) (by omega)
  have b4 := nI_i (n := l) (by omega)
  have b5 := nI_i (n := n) (by omega)
  have b6 := nI_i (n := p) (by omega)
  have b7 := nI_i (n := m) (by omega)
  refine b_M_keptRead_0 (b_M_keptRead_9 (b_M_keptRead_17 (b_M_keptRead_25 (b_M_keptRead_33 (b_M_keptRead_41 (b_M_keptRead_49 (b_M_keptRead_59 (key _ _ ?_ (place_ok _)))))))))
  rw [r2, e19, e20, e21, e22, e23, e24]
  have go : ∀ {A : Int64} {N K X B : Nat} {k : Int64} {x : Int32}, A.toInt = (N : Int) → k.toInt = (K : Int) → x.toInt = (X : Int) → N < B → X < K → B * K < 9223372036854775808 → (A * k + x.toInt64).toInt = (mz N K X : Int) ∧ mz N K X < B * K := by
    intro A N K X B k x hA hk hx hN hX hB
    have hlt := mz_lt (n := B) hN hX
    have h1 : (N : Int) * (K : Int) = ((N * K : Nat) : Int) := by simp
    have hm : mz N K X = N * K + X := rfl
    refine ⟨?_, hlt⟩
    rw [ma64 hA hk hx (by omega) (by omega) (by omega) (by omega)]
    omega
  have k0 := go (A := (nI t).toInt64) (N := t) (K := 3) (k := 3) (B := 6) (by rw [lI, b0]) rfl b1 r1 hw (by decide)
  generalize ((nI t).toInt64 * 3 + (nI w).toInt64) = A0 at k0 ⊢
  have k1 := go (K := 1000) (k := 1000) k0.1 rfl b2 k0.2 u1 (by decide)
  generalize (A0 * 1000 + (nI u).toInt64) = A1 at k1 ⊢
  have k2 := go (K := 32) (k := 32) k1.1 rfl b3 k1.2 h1 (by decide)
  generalize (A1 * 32 + (nI h).toInt64) = A2 at k2 ⊢
  have k3 := go (K := 16) (k := 16) k2.1 rfl b4 k2.2 l1 (by decide)
  generalize (A2 * 16 + (nI l).toInt64) = A3 at k3 ⊢
  have k4 := go (K := 64) (k := 64) k3.1 rfl b5 k3.2 n1 (by decide)
  generalize (A3 * 64 + (nI n).toInt64) = A4 at k4 ⊢
  have k5 := go (K := 1048576) (k := 1048576) k4.1 rfl b6 k4.2 p1 (by decide)
  generalize (A4 * 1048576 + (nI p).toInt64) = A5 at k5 ⊢
  have k6 := go (K := 16) (k := 16) k5.1 rfl b7 k5.2 m1 (by decide)
  generalize (A5 * 16 + (nI m).toInt64) = A6 at k6 ⊢
  obtain ⟨k6, g6⟩ := k6
  have g7 : 6 * 3 * 1000 * 32 * 16 * 64 * 1048576 * 16 < 9223372036854775800 := by decide
  unfold keyN
  generalize mz (mz (mz (mz (mz (mz (mz t 3 w) 1000 u) 32 h) 16 l) 64 n) 1048576 p) 16 m = N6 at k6 g6 ⊢
  have g8 : N6 < 9223372036854775800 := Nat.lt_trans g6 g7
  rw [Int64.toInt_add, k6, show (1 : Int64).toInt = 1 from rfl]
  rw [Int.bmod_eq_of_le (by omega) (by omega)]
  omega
end
section
/-! ===== a day: what is computed ===== -/
abbrev DE : Type := (Nat × (Nat → Int32) × (Nat → Int32)) × (Nat × (Nat → Int32) × (Nat → Int32) × (Nat → Int32)) × (Int32 × Int32) × (Nat → List Int32)
def nwE (e : DE) : Nat := e.1.1
def thE (e : DE) (w : Nat) : Int32 := e.1.2.1 w
def lsE (e : DE) (w : Nat) : Int32 := e.1.2.2 w
def npE (e : DE) : Nat := e.2.1.1
def waE (e : DE) (p : Nat) : Int32 := e.2.1.2.1 p
def hoE (e : DE) (p : Nat) : Int32 := e.2.1.2.2.1 p
def puE (e : DE) (p : Nat) : Int32 := e.2.1.2.2.2 p
def kE (e : DE) : Int32 := e.2.2.1.1
def nE (e : DE) : Int32 := e.2.2.1.2
def cE (e : DE) : Nat → List Int32 := e.2.2.2
def letsF (v : Int32) : List Nat := (digs v.toInt.toNat).map (· - 1)
def bmp (u : Int32) : Int32 := if 999 ≤ u.toInt then 999 else u + 1
def gF (e : DE) (h u : Int32) (l : Nat) : Int32 := priceF (kE e) (nE e) u h + clampF (evF (cE e 0) (envF u h (nI l) 0 0 0)) 0 99
def spF : List Nat → (Nat → Int32) → (Nat → Int32)
  | [], r => r
  | l :: L, r => spF L (upd r l (bmp (r l)))
def csF (g : Int32 → Nat → Int32) : List Nat → (Nat → Int32) → Int32 → Int32
  | [], _, a => a
  | l :: L, r, a => csF g L (upd r l (bmp (r l))) (a + g (r l) l)
def coF (e : DE) (r : Nat → Int32) (w : Nat) (h : Int32) : Int32 := csF (gF e h) (letsF (lsE e w)) r 0
def rowOk (r : Nat → Int32) : Prop := ∀ j, j < 8 → rng (r j) 0 999
def rowM (k : Nat) (r : Nat → Int32) (μ : Mem) : Prop := ∀ j, j < 8 → μ.1 k j = r j
theorem bmp_ok {u : Int32} (h : rng u 0 999) : rng (bmp u) 0 999 := by
  unfold bmp
  by_cases q : 999 ≤ u.toInt
  · rw [if_pos q]; exact ⟨by decide, by decide⟩
  · rw [if_neg q]
    have e : (u + 1).toInt = u.toInt + 1 := add32 (by have := h.1; show _ ≤ _ + (1 : Int); omega) (by have := h.2; show _ + (1 : Int) < _; omega)
    have := h.1
    exact ⟨by omega, by omega⟩
theorem rowOk.up {r : Nat → Int32} {l : Nat} {x : Int32} (h : rowOk r) (hx : rng x 0 999) : rowOk (upd r l x) := by
  intro j hj
  by_cases q : j = l
  · rw [q, upd_s]; exact hx
  · rw [upd_n q]; exact h j hj
theorem rowM.up {k : Nat} {r : Nat → Int32} {μ : Mem} {l : Nat} {x : Int32} (h : rowM k r μ) : rowM k (upd r l x) (wI μ k (upd (μ.1 k) l x)) := by
  intro j hj
  rw [wI_s]
  by_cases q : j = l
  · rw [q, upd_s, upd_s]
  · rw [upd_n q, upd_n q]; exact h j hj
theorem spF_ok : ∀ {L : List Nat} {r : Nat → Int32}, rowOk r → (∀ l ∈ L, l < 8) → rowOk (spF L r)
  | [], _, h, _ => h
  | l :: L, r, h, hL => spF_ok (L := L) (h.up (bmp_ok (h l (hL l (by simp))))) (fun l' h' => hL l' (by simp [h']))
theorem spF_app : ∀ {A B : List Nat} {r : Nat → Int32}, spF (A ++ B) r = spF B (spF A r)
  | [], _, _ => rfl
  | _ :: A, B, _ => spF_app (A := A) (B := B)
theorem csF_app {g : Int32 → Nat → Int32} : ∀ {A B : List Nat} {r : Nat → Int32} {a : Int32}, csF g (A ++ B) r a = csF g B (spF A r) (csF g A r a)
  | [], _, _, _ => rfl
  | _ :: A, B, _, _ => csF_app (A := A) (B := B)
/-- digits from the place k - 1 down -/
def lowd (n : Nat) : Nat → List Nat
  | 0 => []
  | k + 1 => (n / 10 ^ k % 10) :: lowd n k
theorem lowd_s (n : Nat) : ∀ k, lowd n (k + 1) = lowd (n / 10) k ++ [n % 10]
  | 0 => by simp [lowd]
  | k + 1 => by
    have h := lowd_s n k
    show (n / 10 ^ (k + 1) % 10) :: lowd n (k + 1) = _
    rw [h]
    show _ = (n / 10 / 10 ^ k % 10) :: lowd (n / 10) k ++ [n % 10]
    rw [Nat.div_div_eq_div_mul, Nat.pow_succ, Nat.mul_comm 10 (10 ^ k)]
    rfl
theorem digs_lowd (n : Nat) : digs n = lowd n (digs n).length := by
  induction n using Nat.strongRecOn with
  | _ n ih =>
    by_cases h : n = 0
    · subst h; rw [digs_0]; rfl
    · rw [digs_len_s h, lowd_s, ← ih (n / 10) (by omega), ← digs_s h]
/-! ===== the reference: adds, says ===== -/
theorem M_adds_ok {d : Nat} {Q : QQ} {μ : Mem} {tx : Nat → Nat → List Int32} {t u h l : Nat} (hr : rulM t μ) (hT : TxM tx μ) (hu : u < 1000) (hh : h < 32) (hl : l < 16) (hQ : ∀ μ', frA [] μ μ' → TxM tx μ' → Q (.int (clampF (evF (tx t 0) (envF (nI u) (nI h) (nI l) 0 0 0)) 0 99)) μ') : Call (d + 62) y_M_adds [.ref 0, .int (nI u), .int (nI h), .int (nI l)] μ Q := by
  refine b_M_adds_0 ?_
  intro μ1 e1 μ2 e2 μ3 e3 μ4 e4 μ5 e5 μ6 e6
  have f1 : frA [] μ μ6 := by
    rw [e6, e5, e4, e3, e2, e1]
    exact (((((frA.f).trans frA.f).trans frA.f).trans frA.f).trans frA.f).trans frA.f
  have o6 : ∀ k, k ≠ 0 → μ6.1 k = μ.1 k ∧ μ6.2 k = μ.2 k := by
    intro k hk
    rw [e6, e5, e4, e3, e2, e1]
    simp [wI, hk]
  have hT6 : TxM tx μ6 := hT.cong (f1.2 3 (by omega)) (o6 1 (by decide)).1 (o6 2 (by decide)).1 (o6 13 (by decide)).1 (o6 12 (by decide)).2
  have hr6 : rulM t μ6 := by
    unfold rulM
    rw [f1.2 4 (by omega), f1.2 3 (by omega)]
    exact hr
  have hn6 : nmM μ6 u h l 0 0 0 := by
    refine ⟨hu, hh, hl, by omega, by omega, by omega, ?_, ?_, ?_, ?_, ?_, ?_⟩
    all_goals
      rw [e6, e5, e4, e3, e2, e1]
      simp [wI, upd]
      try rfl
  exact M_keptRead_ok (w := 0) hr6 (by omega) hn6 hT6 (fun μ7 o t7 => ⟨_, rfl, M_within_ok ⟨_, rfl, hQ μ7 (f1.trans o) t7⟩⟩)
theorem M_says_ok {d : Nat} {Q : QQ} {μ : Mem} {tx : Nat → Nat → List Int32} {t a p w h z pu np : Nat} {v : Int32} (hr : rulM t μ) (hT : TxM tx μ) (ha : a < 3) (hp : p < 5) (hw : w < 10) (hv : μ.1 6 w = v) (hv0 : 0 ≤ v.toInt) (hz : sizeF v = nI z) (hz6 : z < 64) (hh : h < 32) (hh2 : μ.1 8 p = nI h) (hu : pu < 1048576) (hu2 : μ.1 9 p = nI pu) (hm : np < 16) (hm2 : μ.1 0 14 = nI np)
    (hQ : ∀ μ', frA [] μ μ' → TxM tx μ' → Q (.int (evF (tx t a) (envF 0 (nI h) 0 (sizeF v) (nI pu) (nI np)))) μ') : Call (d + 62) y_M_says [.ref 0, .int (nI a), .int (nI p), .int (nI w)] μ Q := by
  have cp : (nI p).toNatClampNeg = p := nI_c (by omega)
  have cw : (nI w).toNatClampNeg = w := nI_c (by omega)
  refine b_M_says_0 ?_
  rw [cp, cw]
  intro μ1 e1
  refine ⟨nI_v hp (by omega), fun μ2 e2 μ3 e3 => ⟨nI_v hw (by omega), ?_⟩⟩
  have o3 : ∀ k, k ≠ 0 → μ3.1 k = μ.1 k ∧ μ3.2 k = μ.2 k := by
    intro k hk
    rw [e3, e2, e1]
    simp [wI, hk]
  have o1 : μ1.1 8 = μ.1 8 := by rw [e1, wI_n (by decide)]
  rw [(o3 6 (by decide)).1, hv]
  refine M_sizeOf_ok hv0 ⟨_, rfl, fun μ6 e6 => ⟨nI_v hp (by omega), fun μ7 e7 μ8 e8 => ?_⟩⟩
  have f3 : frA [] μ μ3 := by
    rw [e3, e2, e1]
    exact ((frA.f).trans frA.f).trans frA.f
  have f8 : frA [] μ μ8 := by
    refine f3.trans ?_
    rw [e8, e7, e6]
    exact ((frA.f).trans frA.f).trans frA.f
  have o8 : ∀ k, k ≠ 0 → μ8.1 k = μ.1 k ∧ μ8.2 k = μ.2 k := by
    intro k hk
    rw [← (o3 k hk).1, ← (o3 k hk).2, e8, e7, e6]
    simp [wI, hk]
  have hT8 : TxM tx μ8 := hT.cong (f8.2 3 (by omega)) (o8 1 (by decide)).1 (o8 2 (by decide)).1 (o8 13 (by decide)).1 (o8 12 (by decide)).2
  have hr8 : rulM t μ8 := by
    unfold rulM
    rw [f8.2 4 (by omega), f8.2 3 (by omega)]
    exact hr
  have k9 : μ6.1 9 = μ.1 9 := by rw [e6, wI_n (by decide)]; exact (o3 9 (by decide)).1
  have k14 : μ7.1 0 14 = nI np := by
    rw [e7, wI_s, upd_n (by decide), e6, wI_s, upd_n (by decide), f3.2 14 (by omega), hm2]
  have hn8 : nmM μ8 0 h 0 z pu np := by
    refine ⟨by omega, hh, by omega, hz6, hu, hm, ?_, ?_, ?_, ?_, ?_, ?_⟩
    · rw [e8, wI_s, upd_n (by decide), e7, wI_s, upd_n (by decide), e6, wI_s, upd_n (by decide), e3, wI_s, upd_n (by decide), e2, wI_s, upd_n (by decide), e1, wI_s, upd_s]; rfl
    · rw [e8, wI_s, upd_n (by decide), e7, wI_s, upd_n (by decide), e6, wI_s, upd_n (by decide), e3, wI_s, upd_n (by decide), e2, wI_s, upd_s, o1, hh2]
    · rw [e8, wI_s, upd_n (by decide), e7, wI_s, upd_n (by decide), e6, wI_s, upd_n (by decide), e3, wI_s, upd_s]; rfl
    · rw [e8, wI_s, upd_n (by decide), e7, wI_s, upd_n (by decide), e6, wI_s, upd_s, hz]
    · rw [e8, wI_s, upd_n (by decide), e7, wI_s, upd_s, k9, hu2]
    · rw [e8, wI_s, upd_s, k14]
  exact M_keptRead_ok (w := a) hr8 ha hn8 hT8 (fun μ9 o t9 => ⟨_, rfl, Qi (hQ μ9 (f8.trans o) t9) (by rw [hz]; rfl)⟩)
/-- the reference's memory holds a day's data -/
def isM (e : DE) (tx : Nat → Nat → List Int32) (t : Nat) (μ : Mem) : Prop := μ.1 0 10 = nI (nwE e) ∧ (∀ w, w < nwE e → μ.1 5 w = thE e w ∧ μ.1 6 w = lsE e w) ∧ μ.1 0 14 = nI (npE e) ∧ (∀ p, p < npE e → μ.1 7 p = waE e p ∧ μ.1 8 p = hoE e p ∧ μ.1 9 p = puE e p) ∧ vp_in (μ.1 0 18) 6 ∧ mK μ = kE e ∧ mN μ = nE e ∧ rulM t μ ∧ TxM tx μ ∧ cE e = tx t
def wfE (e : DE) : Prop := nwE e ≤ 10 ∧ (∀ w, w < nwE e → 1 ≤ (lsE e w).toInt ∧ (lsE e w).toInt ≤ 888888 ∧ okD (lsE e w).toInt.toNat) ∧ npE e ≤ 5 ∧ (∀ p, p < npE e → rng (hoE e p) 0 23 ∧ rng (puE e p) 0 9999) ∧ rng (kE e) 0 5 ∧ rng (nE e) 0 9
theorem isM.cg {e : DE} {tx : Nat → Nat → List Int32} {t : Nat} {μ μ' : Mem} (h : isM e tx t μ) (hf : ∀ k, k < 19 → μ'.1 0 k = μ.1 0 k) (hc : ∀ k, 5 ≤ k → k < 12 → μ'.1 k = μ.1 k) (hT : TxM tx μ') : isM e tx t μ' := by
  obtain ⟨h1, h2, h3, h4, h5, h6, h7, h8, h9, h10⟩ := h
  unfold isM mK mN rulM
  rw [hf 10 (by omega), hf 14 (by omega), hf 18 (by omega), hf 3 (by omega), hf 4 (by omega), hc 5 (by omega) (by omega), hc 6 (by omega) (by omega), hc 7 (by omega) (by omega), hc 8 (by omega) (by omega), hc 9 (by omega) (by omega), hc 10 (by omega) (by omega), hc 11 (by omega) (by omega)]
  exact ⟨h1, h2, h3, h4, h5, h6, h7, h8, hT, h10⟩
theorem isM.fr {e : DE} {tx : Nat → Nat → List Int32} {t : Nat} {μ μ' : Mem} {ks : List Nat} (h : isM e tx t μ) (f : frA ks μ μ') (hk : ∀ k ∈ ks, 14 ≤ k) (hT : TxM tx μ') : isM e tx t μ' := h.cg (fun k q => f.2 k (Or.inl q)) (fun k q1 q2 => f.1.i k (by simp; exact ⟨by omega, by omega, by omega, fun z => absurd (hk k z) (by omega)⟩)) hT
theorem TxM.fr {tx : Nat → Nat → List Int32} {μ μ' : Mem} {ks : List Nat} (h : TxM tx μ) (o : Only ks μ μ') (hk : ∀ k ∈ ks, 14 ≤ k) : TxM tx μ' := by
  have n : ∀ k, k < 14 → k ∉ ks := fun k q z => absurd (hk k z) (by omega)
  exact h.cong (by rw [o.i 0 (n 0 (by omega))]) (o.i 1 (n 1 (by omega))) (o.i 2 (n 2 (by omega))) (o.i 13 (n 13 (by omega))) (o.l 12 (n 12 (by omega)))
theorem lets_lt {v : Int32} (h : okD v.toInt.toNat) : ∀ l ∈ letsF v, l < 8 := by
  intro l hl
  unfold letsF at hl
  obtain ⟨x, hx, rfl⟩ := List.mem_map.mp hl
  have := h x hx
  omega
theorem M_writes_ok {d : Nat} {Q : QQ} {μ : Mem} {e : DE} {tx : Nat → Nat → List Int32} {t w : Nat} {h : Int32} {r : Nat → Int32} (hi : isM e tx t μ) (hwf : wfE e) (hw : w < nwE e) (hh : rng h 0 23) (hrow : rowM 14 r μ) (hok : rowOk r) (hQ : ∀ μ', frA [14] μ μ' → TxM tx μ' → rowM 14 (spF (letsF (lsE e w)) r) μ' → Q (.int (coF e r w h)) μ') : Call (d + 63) y_M_writes [.ref 0, .int (nI w), .int h] μ Q := by
  obtain ⟨w1, w2, w3, w4, w5, w6⟩ := hwf
  obtain ⟨v1, v2, v3⟩ := w2 w hw
  have hv6 : μ.1 6 w = lsE e w := (hi.2.1 w hw).2
  obtain ⟨n, hn, en, en2⟩ := nI_ex (x := lsE e w) (by omega)
  obtain ⟨hn', hhn, ehn, ehn2⟩ := nI_ex (x := h) hh.1
  have hh23 : hn' ≤ 23 := by have := hh.2; omega
  have hn6 : n ≤ 888888 := by omega
  have hn1 : n ≠ 0 := by omega
  have hlen : (digs n).length ≤ 6 := digs_le 6 n (by omega)
  have hlen1 : 1 ≤ (digs n).length := by rw [digs_len_s hn1]; omega
  have hsz : sizeF (lsE e w) = nI (digs n).length := by unfold sizeF; rw [en2]; rfl
  have hokn : okD n := by rw [en2] at v3; exact v3
  have hL : letsF (lsE e w) = (lowd n (digs n).length).map (· - 1) := by
    unfold letsF
    rw [en2, ← digs_lowd]; rfl
  have cw : (nI w).toNatClampNeg = w := nI_c (by omega)
  have hdig : ∀ k, k < (digs n).length → 1 ≤ n / 10 ^ k % 10 ∧ n / 10 ^ k % 10 ≤ 8 := by
    intro k hk
    refine hokn _ ?_
    rw [digs_lowd]
    generalize (digs n).length = N at hk
    induction N with
    | zero => omega
    | succ N ih =>
      show _ ∈ (n / 10 ^ N % 10) :: lowd n N
      by_cases q : k = N
      · subst q; simp
      · exact List.mem_cons_of_mem _ (ih (by omega))
  have key : ∀ (k : Nat) (c l3 : Int32) (r1 : Nat → Int32) (ν : Mem), k ≤ (digs n).length → frA [14] μ ν → TxM tx ν → rowM 14 r1 ν → rowOk r1 → (∀ ν', frA [14] μ ν' → TxM tx ν' → rowM 14 (spF ((lowd n k).map (· - 1)) r1) ν' → Q (.int (csF (gF e h) ((lowd n k).map (· - 1)) r1 c)) ν') → AA (Call (d + 62)) y_M_writes Q 21 [.ref 0, .int (nI w), .int h, .int l3, .int c, .int (nI (10 ^ k / 10)), un] [] ν := by
    intro k
    induction k with
    | zero =>
      intro c l3 r1 ν _ f1 t1 rm ro hQ
      exact b_M_writes_21 ⟨fun _ => hQ ν f1 t1 rm, fun z => absurd (by decide) z⟩
    | succ k ih =>
      intro c l3 r1 ν hk f1 t1 rm ro hQ
      have hp : 10 ^ (k + 1) / 10 = 10 ^ k := by rw [Nat.pow_succ, Nat.mul_div_cancel _ (by omega)]
      have hpk : 10 ^ k ≤ 100000 := Nat.pow_le_pow_right (n := 10) (by omega) (show k ≤ 5 by omega)
      have hpk1 : 1 ≤ 10 ^ k := Nat.pow_le_pow_right (n := 10) (by omega) (show 0 ≤ k by omega)
      obtain ⟨q1, q2⟩ := hdig k (by omega)
      have ei := nI_i (n := 10 ^ k) (by omega)
      have isν : isM e tx t ν := hi.fr f1 (by simp) t1
      have e6 : ν.1 6 w = nI n := by rw [f1.1.i 6 (by simp), hv6, en]
      obtain ⟨m, hm⟩ : ∃ m, n / 10 ^ k % 10 = m + 1 := ⟨n / 10 ^ k % 10 - 1, by omega⟩
      have hdl : n / 10 ^ k < 2147483648 := Nat.lt_of_le_of_lt (Nat.div_le_self _ _) hn
      have el : (nI n / nI (10 ^ k) - nI n / nI (10 ^ k) / 10 * 10) - 1 = nI m := by
        rw [pk_div hn hpk1 (by omega), nI_mod10 hdl, hm, nI_pred]
      have hm8 : m < 8 := by omega
      have cm : (nI m).toNatClampNeg = m := nI_c (by omega)
      have vm : vp_in (nI m) 8 := nI_v hm8 (by omega)
      obtain ⟨u, hu, eu, eu2⟩ := nI_ex (x := r1 m) (ro m hm8).1
      have hu9 : u ≤ 999 := by have := (ro m hm8).2; omega
      have hlow : (lowd n (k + 1)).map (· - 1) = m :: (lowd n k).map (· - 1) := by
        show ((n / 10 ^ k % 10) :: lowd n k).map (· - 1) = _
        rw [List.map_cons, hm]; rfl
      rw [hlow] at hQ
      rw [hp]
      refine b_M_writes_21 ⟨fun z => absurd (le32.mp z) (by rw [ei]; show ¬ _ ≤ (0 : Int); omega), fun _ => ?_⟩
      rw [cw, e6, el, cm]
      refine ⟨nI_v (by omega) (by omega), fun z => absurd (congrArg Int32.toInt z) (by rw [ei]; show ¬ _ = (0 : Int); omega), by decide, vm, ?_⟩
      refine M_costBy_ok (by exact isν.2.2.2.2.1) ⟨_, rfl, vm, ?_⟩
      rw [rm m hm8, eu, ehn]
      refine M_adds_ok (by exact isν.2.2.2.2.2.2.2.1) t1 (by omega) (by omega) (by omega) (fun ν2 f2 t2 => ⟨_, rfl, vm, ?_⟩)
      have eK : mK ν = kE e := isν.2.2.2.2.2.1
      have eN : mN ν = nE e := isν.2.2.2.2.2.2.1
      have eC : tx t = cE e := isν.2.2.2.2.2.2.2.2.2.symm
      rw [eK, eN, eC]
      have rm2 : rowM 14 r1 ν2 := by intro j hj; rw [f2.i 14]; exact rm j hj
      have hdiv : nI (10 ^ k) / 10 = nI (10 ^ k / 10) := nI_div10 (by omega)
      have nxt : ∀ (x : Int32) (μ5 : Mem), bmp (r1 m) = x → μ5 = wI ν2 14 (upd (ν2.1 14) m x) → AA (Call (d + 62)) y_M_writes Q 21 [.ref 0, .int (nI w), .int (nI hn'), .int l3, .int (c + (priceF (kE e) (nE e) (nI u) (nI hn') + clampF (evF (cE e 0) (envF (nI u) (nI hn') (nI m) 0 0 0)) 0 99)), .int (nI (10 ^ k / 10)), .int (nI m)] [] μ5 := by
        intro x μ5 hx e5
        refine AA_weak (lv := [.ref 0, .int (nI w), .int (nI hn'), .int l3, .int (c + (priceF (kE e) (nE e) (nI u) (nI hn') + clampF (evF (cE e 0) (envF (nI u) (nI hn') (nI m) 0 0 0)) 0 99)), .int (nI (10 ^ k / 10)), un]) ⟨Or.inl rfl, Or.inl rfl, Or.inl rfl, Or.inl rfl, Or.inl rfl, Or.inl rfl, Or.inr ⟨rfl, rfl⟩, trivial⟩ ?_
        have g := ih (c + gF e h (r1 m) m) l3 (upd r1 m (bmp (r1 m))) μ5 (by omega) ((f1.trans (f2.mono (by simp))).trans (by rw [e5]; exact frA.w)) (t2.fr (ks := [14]) (by rw [e5]; exact Only.w) (by simp)) (by rw [e5, hx]; exact rm2.up) (ro.up (bmp_ok (ro m hm8))) hQ
        rw [show gF e h (r1 m) m = (priceF (kE e) (nE e) (nI u) (nI hn') + clampF (evF (cE e 0) (envF (nI u) (nI hn') (nI m) 0 0 0)) 0 99) by rw [eu, ehn]; rfl] at g
        rw [← ehn]
        rw [← ehn] at g
        exact g
      rw [rm2 m hm8, hdiv]
      have e9 : (999 : Int32).toInt = 999 := rfl
      refine ⟨fun z => ⟨vm, fun μ5 e5 => ⟨by decide, nxt _ μ5 ?_ e5⟩⟩, fun z => ⟨vm, vm, fun μ5 e5 => ⟨by decide, nxt _ μ5 ?_ e5⟩⟩⟩
      · unfold bmp; rw [if_pos (by have := le32.mp z; omega)]
      · unfold bmp; rw [if_neg (by intro y; exact z (le32.mpr (by omega)))]
  have pre : ∀ (j k : Nat), 1 ≤ k → k + j = (digs n).length → AA (Call (d + 62)) y_M_writes Q 4 [.ref 0, .int (nI w), .int h, .int (nI (10 ^ (k - 1))), .int (nI k), un, un] [] μ := by
    intro j
    induction j with
    | zero =>
      intro k hk hkj
      refine b_M_writes_4 ⟨by exact nI_v (by omega) (by omega), ?_⟩
      rw [cw, hv6]
      refine M_sizeOf_ok (by omega) ⟨_, rfl, fun _ => ?_, fun z => absurd (by rw [hsz, show k = (digs n).length by omega]; exact Int32.le_refl _) z⟩
      have g := key (digs n).length 0 (nI (10 ^ (k - 1))) r μ (Nat.le_refl _) frA.rf hi.2.2.2.2.2.2.2.2.1 hrow hok (fun ν' f1 t1 rm => by
        have q := hQ ν' f1 t1 (by rw [hL]; exact rm)
        unfold coF at q
        rw [hL] at q
        exact q)
      have e1 : 10 ^ (digs n).length / 10 = 10 ^ (k - 1) := by
        have : (digs n).length = k - 1 + 1 := by omega
        rw [this, Nat.pow_succ, Nat.mul_div_cancel _ (by omega)]
      rw [e1] at g
      exact g
    | succ j ih =>
      intro k hk hkj
      refine b_M_writes_4 ⟨by exact nI_v (by omega) (by omega), ?_⟩
      rw [cw, hv6]
      refine M_sizeOf_ok (by omega) ⟨_, rfl, fun z => absurd (le32.mp z) (by rw [hsz, nI_i (by omega), nI_i (by omega)]; omega), fun _ => ?_⟩
      rw [nI_1]
      have e1 : nI (10 ^ (k - 1)) * 10 = nI (10 ^ (k + 1 - 1)) := by
        have := pk_mul (10 ^ (k - 1)) 10
        rw [show k + 1 - 1 = k - 1 + 1 by omega, Nat.pow_succ]
        exact this
      rw [e1]
      exact ih (k + 1) (by omega) (by omega)
  exact b_M_writes_0 (pre ((digs n).length - 1) 1 (Nat.le_refl _) (by omega))
end
section
/-! ===== a day in the reference ===== -/
theorem M_costOf_ok {d : Nat} {Q : QQ} {μ : Mem} {e : DE} {tx : Nat → Nat → List Int32} {t w : Nat} {h : Int32} {r : Nat → Int32} (hi : isM e tx t μ) (hwf : wfE e) (hw : w < nwE e) (hh : rng h 0 23) (hrow : rowM 14 r μ) (hok : rowOk r) (hQ : ∀ μ', frA [14, 15] μ μ' → TxM tx μ' → rowM 14 r μ' → Q (.int (coF e r w h)) μ') : Call (d + 64) y_M_costOf [.ref 0, .int (nI w), .int h] μ Q := by
  refine b_M_costOf_0 ?_
  refine loopN (G := fun i s => AA (Call (d + 63)) y_M_costOf Q 2 [.ref 0, .int (nI w), .int h, .int (nI i), un] [] s) (P := fun i s => Only [15] μ s ∧ ∀ j, j < i → s.1 15 j = r j) (N := 8) ?_ ?_ 0 μ (by omega) ⟨Only.rf, fun j hj => absurd hj (by omega)⟩
  · intro s ⟨h1, h2⟩
    refine b_M_costOf_2 ⟨fun _ => ?_, fun c => absurd (by decide) c⟩
    have f1 : frA [14, 15] μ s := ⟨h1.mono (by simp), fun k _ => by rw [h1.i 0]⟩
    have t1 : TxM tx s := (hi.2.2.2.2.2.2.2.2.1).fr h1 (by simp)
    have rm : rowM 14 r s := fun j hj => by rw [h1.i 14]; exact hrow j hj
    refine M_writes_ok (hi.fr f1 (by simp) t1) hwf hw hh rm hok (fun s2 f2 t2 rm2 => ⟨_, rfl, ?_⟩)
    have h15 : ∀ j, j < 8 → s2.1 15 j = r j := fun j hj => by rw [f2.i 15]; exact h2 j hj
    refine loopN (G := fun i s => AA (Call (d + 63)) y_M_costOf Q 22 [.ref 0, .int (nI w), .int h, .int (coF e r w h), .int (nI i)] [] s) (P := fun i s => Only [14] s2 s ∧ ∀ j, j < i → s.1 14 j = r j) (N := 8) ?_ ?_ 0 s2 (by omega) ⟨Only.rf, fun j hj => absurd hj (by omega)⟩
    · intro s3 ⟨h3, h4⟩
      refine b_M_costOf_22 ⟨fun _ => hQ s3 ?_ (t2.fr h3 (by simp)) h4, fun c => absurd (by decide) c⟩
      exact (f1.trans (f2.mono (by simp))).trans ⟨h3.mono (by simp), fun k _ => by rw [h3.i 0]⟩
    · intro i s3 hi ⟨h3, h4⟩ ih
      have e8 := nI_i (n := i) (by omega)
      refine b_M_costOf_22 ⟨fun c => absurd (le32.mp c) (by rw [e8]; show ¬ (8 : Int) ≤ _; omega), fun _ => ⟨nI_v hi (by omega), nI_v hi (by omega), fun μ1 e1 => ?_⟩⟩
      rw [nI_1]
      rw [nI_c (by omega), h3.i 15, h15 i hi] at e1
      subst e1
      refine ih _ ⟨h3.trans Only.w, fun j hj => ?_⟩
      rw [wI_s]
      by_cases q : j = i
      · rw [q, upd_s]
      · rw [upd_n q]
        exact h4 j (by omega)
  · intro i s hi ⟨h1, h2⟩ ih
    have e8 := nI_i (n := i) (by omega)
    refine b_M_costOf_2 ⟨fun c => absurd (le32.mp c) (by rw [e8]; show ¬ (8 : Int) ≤ _; omega), fun _ => ⟨nI_v hi (by omega), nI_v hi (by omega), fun μ1 e1 => ?_⟩⟩
    rw [nI_1]
    rw [nI_c (by omega), h1.i 14, hrow i hi] at e1
    subst e1
    refine ih _ ⟨h1.trans Only.w, fun j hj => ?_⟩
    rw [wI_s]
    by_cases q : j = i
    · rw [q, upd_s]
    · rw [upd_n q]
      exact h2 j (by omega)
def mayF (e : DE) (p w : Nat) : Prop := ¬ evF (cE e 2) (envF 0 (hoE e p) 0 (sizeF (lsE e w)) (puE e p) (nI (npE e))) = 0
noncomputable def pickF (e : DE) (r : Nat → Int32) (p : Nat) : Nat → Int32 × Int32
  | 0 => (-1, 0)
  | w + 1 => @ite _ (thE e w = waE e p ∧ coF e r w (hoE e p) ≤ puE e p ∧ ((pickF e r p w).1 = -1 ∨ ¬ (pickF e r p w).2 ≤ coF e r w (hoE e p)) ∧ mayF e p w) (Classical.propDecidable _) (nI w, coF e r w (hoE e p)) (pickF e r p w)
noncomputable def bitF (e : DE) (r : Nat → Int32) (p : Nat) (sum b0 : Int32) : Nat → Int32
  | 0 => b0
  | w + 1 => @ite _ (thE e w = waE e p ∧ coF e r w (hoE e p) = sum) (Classical.propDecidable _) (bitF e r p sum b0 w ||| (1 <<< (nI w &&& 31))) (bitF e r p sum b0 w)
theorem pick_y {e : DE} {r : Nat → Int32} {p w : Nat} (h1 : thE e w = waE e p) (h2 : coF e r w (hoE e p) ≤ puE e p) (h3 : (pickF e r p w).1 = -1 ∨ ¬ (pickF e r p w).2 ≤ coF e r w (hoE e p)) (h4 : mayF e p w) : pickF e r p (w + 1) = (nI w, coF e r w (hoE e p)) := if_pos ⟨h1, h2, h3, h4⟩
theorem pick_n {e : DE} {r : Nat → Int32} {p w : Nat} (h : ¬ (thE e w = waE e p ∧ coF e r w (hoE e p) ≤ puE e p ∧ ((pickF e r p w).1 = -1 ∨ ¬ (pickF e r p w).2 ≤ coF e r w (hoE e p)) ∧ mayF e p w)) : pickF e r p (w + 1) = pickF e r p w := if_neg h
theorem bit_y {e : DE} {r : Nat → Int32} {p w : Nat} {s b : Int32} (h1 : thE e w = waE e p) (h2 : coF e r w (hoE e p) = s) : bitF e r p s b (w + 1) = bitF e r p s b w ||| (1 <<< (nI w &&& 31)) := if_pos ⟨h1, h2⟩
theorem bit_n {e : DE} {r : Nat → Int32} {p w : Nat} {s b : Int32} (h : ¬ (thE e w = waE e p ∧ coF e r w (hoE e p) = s)) : bitF e r p s b (w + 1) = bitF e r p s b w := if_neg h
theorem pick_lt {e : DE} {r : Nat → Int32} {p : Nat} : ∀ n, (pickF e r p n).1 = -1 ∧ (pickF e r p n).2 = 0 ∨ ∃ w, w < n ∧ (pickF e r p n).1 = nI w ∧ (pickF e r p n).2 = coF e r w (hoE e p) ∧ (pickF e r p n).2 ≤ puE e p
  | 0 => Or.inl ⟨rfl, rfl⟩
  | n + 1 => by
    by_cases h : thE e n = waE e p ∧ coF e r n (hoE e p) ≤ puE e p ∧ ((pickF e r p n).1 = -1 ∨ ¬ (pickF e r p n).2 ≤ coF e r n (hoE e p)) ∧ mayF e p n
    · rw [pick_y h.1 h.2.1 h.2.2.1 h.2.2.2]
      exact Or.inr ⟨n, by omega, rfl, rfl, h.2.1⟩
    · rw [pick_n h]
      rcases pick_lt (e := e) (r := r) (p := p) n with q | ⟨w, q1, q2⟩
      · exact Or.inl q
      · exact Or.inr ⟨w, by omega, q2⟩
theorem nI_ne {w : Nat} (h : w < 2147483648) : ¬ nI w = -1 := by
  intro z
  have z2 := congrArg Int32.toInt z
  rw [nI_i h] at z2
  have : (-1 : Int32).toInt = -1 := rfl
  omega
/-- as frA, but for what is asked of a turn -/
def frT (ks : List Nat) (μ μ' : Mem) : Prop := Only (0 :: 12 :: 13 :: ks) μ μ' ∧ ∀ k, k < 19 ∨ 33 < k ∧ k ≠ 42 → μ'.1 0 k = μ.1 0 k
theorem frA.t {ks : List Nat} {a b : Mem} (h : frA ks a b) : frT ks a b := ⟨h.1, fun k hk => h.2 k (by omega)⟩
theorem frT.rf {ks : List Nat} {μ : Mem} : frT ks μ μ := ⟨Only.rf, fun _ _ => rfl⟩
theorem frT.trans {ks : List Nat} {a b c : Mem} (h1 : frT ks a b) (h2 : frT ks b c) : frT ks a c := ⟨h1.1.trans h2.1, fun k hk => (h2.2 k hk).trans (h1.2 k hk)⟩
theorem frT.i {ks : List Nat} {a b : Mem} (h : frT ks a b) (k : Nat) (hk : k ∉ 0 :: 12 :: 13 :: ks := by decide) : b.1 k = a.1 k := h.1.i k hk
theorem isM.ft {e : DE} {tx : Nat → Nat → List Int32} {t : Nat} {μ μ' : Mem} {ks : List Nat} (h : isM e tx t μ) (f : frT ks μ μ') (hk : ∀ k ∈ ks, 14 ≤ k) (hT : TxM tx μ') : isM e tx t μ' := h.cg (fun k q => f.2 k (Or.inl q)) (fun k q1 q2 => f.1.i k (by simp; exact ⟨by omega, by omega, by omega, fun z => absurd (hk k z) (by omega)⟩)) hT
theorem M_says_e {d : Nat} {Q : QQ} {μ : Mem} {e : DE} {tx : Nat → Nat → List Int32} {t a p w : Nat} (hi : isM e tx t μ) (hwf : wfE e) (ha : a < 3) (hp : p < npE e) (hw : w < nwE e) (hQ : ∀ μ', frA [] μ μ' → TxM tx μ' → Q (.int (evF (cE e a) (envF 0 (hoE e p) 0 (sizeF (lsE e w)) (puE e p) (nI (npE e))))) μ') : Call (d + 62) y_M_says [.ref 0, .int (nI a), .int (nI p), .int (nI w)] μ Q := by
  obtain ⟨w1, w2, w3, w4, w5, w6⟩ := hwf
  obtain ⟨v1, v2, v3⟩ := w2 w hw
  obtain ⟨⟨a1, a2⟩, a3, a4⟩ := w4 p hp
  obtain ⟨h1, h2, h3, h4, h5, h6, h7, h8, h9, h10⟩ := hi
  obtain ⟨nh, b1, b2, b3⟩ := nI_ex (x := hoE e p) a1
  obtain ⟨nu, c1, c2, c3⟩ := nI_ex (x := puE e p) a3
  have hl : (digs (lsE e w).toInt.toNat).length ≤ 6 := digs_le 6 _ (by omega)
  refine M_says_ok (z := (digs (lsE e w).toInt.toNat).length) (h := nh) (pu := nu) h8 h9 ha (by omega) (by omega) (h2 w hw).2 (by omega) rfl (by omega) (by omega) (by rw [(h4 p hp).2.1, b2]) (by omega) (by rw [(h4 p hp).2.2, c2]) (by omega) h3 (fun μ' f1 t1 => Qi (hQ μ' f1 t1) ?_)
  rw [h10, ← b2, ← c2]
theorem M_turnOf_ok {d : Nat} {Q : QQ} {μ : Mem} {e : DE} {tx : Nat → Nat → List Int32} {t p : Nat} {r : Nat → Int32} (hi : isM e tx t μ) (hwf : wfE e) (hp : p < npE e) (hrow : rowM 14 r μ) (hok : rowOk r) (hQ : ∀ μ', frT [14, 15, 16, 17] μ μ' → TxM tx μ' → rowM 14 (if (pickF e r p (nwE e)).1 = -1 then r else spF (letsF (lsE e (pickF e r p (nwE e)).1.toNatClampNeg)) r) μ' → μ'.1 16 p = (pickF e r p (nwE e)).1 → μ'.1 17 p = (pickF e r p (nwE e)).2 → (∀ j, j ≠ p → μ'.1 16 j = μ.1 16 j ∧ μ'.1 17 j = μ.1 17 j) → (nI p = μ.1 0 40 → μ'.1 0 42 = bitF e r p (μ.1 0 41) (μ.1 0 42) (nwE e)) → (¬ nI p = μ.1 0 40 → μ'.1 0 42 = μ.1 0 42) → Q .null μ') : Call (d + 65) y_M_turnOf [.ref 0, .int (nI p)] μ Q := by
  have hwf' := hwf
  obtain ⟨w1, w2, w3, w4, w5, w6⟩ := hwf'
  obtain ⟨⟨a1, a2⟩, a3, a4⟩ := w4 p hp
  have cp : (nI p).toNatClampNeg = p := nI_c (by omega)
  have vp : vp_in (nI p) 5 := nI_v (by omega) (by omega)
  refine b_M_turnOf_0 ⟨vp, fun μ1 e1 => ⟨vp, fun μ2 e2 => ?_⟩⟩
  rw [cp] at e1 e2
  refine loopN (G := fun w s => AA (Call (d + 64)) y_M_turnOf Q 12 [.ref 0, .int (nI p), .int (nI w), un] [] s) (P := fun w s => frT [14, 15, 16, 17] μ s ∧ TxM tx s ∧ rowM 14 r s ∧ s.1 16 p = (pickF e r p w).1 ∧ s.1 17 p = (pickF e r p w).2 ∧ (∀ j, j ≠ p → s.1 16 j = μ.1 16 j ∧ s.1 17 j = μ.1 17 j) ∧ (nI p = μ.1 0 40 → s.1 0 42 = bitF e r p (μ.1 0 41) (μ.1 0 42) w) ∧ (¬ nI p = μ.1 0 40 → s.1 0 42 = μ.1 0 42)) (N := nwE e) ?_ ?_ 0 μ2 (by omega) ?_
  · intro s ⟨f1, t1, rm, s16, s17, so, sb, sn⟩
    have is1 := hi.ft f1 (by simp) t1
    refine b_M_turnOf_12 ⟨fun _ => ⟨vp, ?_⟩, fun z => absurd (by rw [is1.1]; exact Int32.le_refl _) z⟩
    rw [cp, s16]
    rcases pick_lt (e := e) (r := r) (p := p) (nwE e) with ⟨q, _⟩ | ⟨w, q1, q2, q3⟩
    · refine ⟨fun _ => hQ s f1 t1 ?_ s16 s17 so sb sn, fun z => absurd q z⟩
      rw [if_pos q]; exact rm
    · have hne : ¬ (pickF e r p (nwE e)).1 = -1 := by rw [q2]; exact nI_ne (by omega)
      refine ⟨fun z => absurd z hne, fun _ => ⟨vp, vp, ?_⟩⟩
      rw [q2, (is1.2.2.2.1 p hp).2.1]
      refine M_writes_ok is1 hwf q1 ⟨a1, a2⟩ rm hok (fun s2 f2 t2 rm2 => ⟨_, rfl, hQ s2 ?_ t2 ?_ ?_ ?_ ?_ ?_ ?_⟩)
      · exact f1.trans (f2.mono (by simp)).t
      · rw [if_neg hne, q2, nI_c (by omega)]; exact rm2
      · rw [f2.i 16]; exact s16
      · rw [f2.i 17]; exact s17
      · rw [f2.i 16, f2.i 17]; exact so
      · rw [f2.2 42 (by omega)]; exact sb
      · rw [f2.2 42 (by omega)]; exact sn
  · intro w s hw ⟨f1, t1, rm, s16, s17, so, sb, sn⟩ ih
    have is1 := hi.ft f1 (by simp) t1
    have cw : (nI w).toNatClampNeg = w := nI_c (by omega)
    have ew := nI_i (n := w) (by omega)
    refine b_M_turnOf_12 ⟨fun z => absurd (le32.mp z) (by rw [is1.1, nI_i (by omega), ew]; omega), fun _ => ⟨nI_v (by omega) (by omega), vp, ?_⟩⟩
    rw [cp, cw, nI_1, (is1.2.1 w hw).1, (is1.2.2.2.1 p hp).1, (is1.2.2.2.1 p hp).2.1]
    refine ⟨fun z => ih s ⟨f1, t1, rm, ?_, ?_, so, ?_, sn⟩, fun z => ⟨vp, ?_⟩⟩
    · rw [pick_n (fun y => z y.1)]; exact s16
    · rw [pick_n (fun y => z y.1)]; exact s17
    · rw [bit_n (fun y => z y.1)]; exact sb
    refine M_costOf_ok is1 hwf hw ⟨a1, a2⟩ rm hok (fun s3 f3 t3 rm3 => ⟨_, rfl, ?_⟩)
    have nxt : ∀ s' : Mem, frT [14, 15, 16, 17] μ s' → TxM tx s' → rowM 14 r s' → s'.1 16 p = (pickF e r p (w + 1)).1 → s'.1 17 p = (pickF e r p (w + 1)).2 → (∀ j, j ≠ p → s'.1 16 j = μ.1 16 j ∧ s'.1 17 j = μ.1 17 j) → (nI p = μ.1 0 40 → s'.1 0 42 = bitF e r p (μ.1 0 41) (μ.1 0 42) (w + 1)) → (¬ nI p = μ.1 0 40 → s'.1 0 42 = μ.1 0 42) → AA (Call (d + 64)) y_M_turnOf Q 12 [.ref 0, .int (nI p), .int (nI (w + 1)), .int (coF e r w (hoE e p))] [] s' := by
      intro s' g1 g2 g3 g4 g5 g6 g7 g8
      refine AA_weak (lv := [.ref 0, .int (nI p), .int (nI (w + 1)), un]) ⟨Or.inl rfl, Or.inl rfl, Or.inl rfl, Or.inr ⟨rfl, rfl⟩, trivial⟩ (ih s' ⟨g1, g2, g3, g4, g5, g6, g7, g8⟩)
    have tail : ∀ s3 : Mem, frT [14, 15, 16, 17] μ s3 → TxM tx s3 → rowM 14 r s3 → s3.1 16 p = (pickF e r p w).1 → s3.1 17 p = (pickF e r p w).2 → (∀ j, j ≠ p → s3.1 16 j = μ.1 16 j ∧ s3.1 17 j = μ.1 17 j) → (nI p = μ.1 0 40 → s3.1 0 42 = bitF e r p (μ.1 0 41) (μ.1 0 42) (w + 1)) → (¬ nI p = μ.1 0 40 → s3.1 0 42 = μ.1 0 42) →
        (vp_in (nI p) 5 ∧ ((s3.1 9 p < coF e r w (hoE e p) → AA (Call (d + 64)) y_M_turnOf Q 12 [.ref 0, .int (nI p), .int (nI (w + 1)), .int (coF e r w (hoE e p))] [] s3) ∧
        (¬ s3.1 9 p < coF e r w (hoE e p) → (vp_in (nI p) 5 ∧ ((s3.1 16 p = (-1) → Call (d + 64) y_M_says [.ref 0, .int 2, .int (nI p), .int (nI w)] s3 (fun ρ μ5 => ∃ r6 : Int32, ρ = .int r6 ∧ ((r6 = 0 → AA (Call (d + 64)) y_M_turnOf Q 12 [.ref 0, .int (nI p), .int (nI (w + 1)), .int (coF e r w (hoE e p))] [] μ5) ∧
          (¬ r6 = 0 → (vp_in (nI p) 5 ∧ ∀ μ7 : Mem, μ7 = wI μ5 16 (upd (μ5.1 16) p (nI w)) → (vp_in (nI p) 5 ∧ ∀ μ8 : Mem, μ8 = wI μ7 17 (upd (μ7.1 17) p (coF e r w (hoE e p))) → AA (Call (d + 64)) y_M_turnOf Q 12 [.ref 0, .int (nI p), .int (nI (w + 1)), .int (coF e r w (hoE e p))] [] μ8)))))) ∧
        (¬ s3.1 16 p = (-1) → (vp_in (nI p) 5 ∧ ((s3.1 17 p ≤ coF e r w (hoE e p) → AA (Call (d + 64)) y_M_turnOf Q 12 [.ref 0, .int (nI p), .int (nI (w + 1)), .int (coF e r w (hoE e p))] [] s3) ∧
        (¬ s3.1 17 p ≤ coF e r w (hoE e p) → Call (d + 64) y_M_says [.ref 0, .int 2, .int (nI p), .int (nI w)] s3 (fun ρ μ5 => ∃ r6 : Int32, ρ = .int r6 ∧ ((r6 = 0 → AA (Call (d + 64)) y_M_turnOf Q 12 [.ref 0, .int (nI p), .int (nI (w + 1)), .int (coF e r w (hoE e p))] [] μ5) ∧
          (¬ r6 = 0 → (vp_in (nI p) 5 ∧ ∀ μ7 : Mem, μ7 = wI μ5 16 (upd (μ5.1 16) p (nI w)) → (vp_in (nI p) 5 ∧ ∀ μ8 : Mem, μ8 = wI μ7 17 (upd (μ7.1 17) p (coF e r w (hoE e p))) → AA (Call (d + 64)) y_M_turnOf Q 12 [.ref 0, .int (nI p), .int (nI (w + 1)), .int (coF e r w (hoE e p))] [] μ8)))))))))))))) := by
      intro s3 g1 g2 g3 g4 g5 g6 g7 g8
      have is3 := hi.ft g1 (by simp) g2
      have skip : (¬ (thE e w = waE e p ∧ coF e r w (hoE e p) ≤ puE e p ∧ ((pickF e r p w).1 = -1 ∨ ¬ (pickF e r p w).2 ≤ coF e r w (hoE e p)) ∧ mayF e p w)) → ∀ s4, frA [14, 15] s3 s4 → TxM tx s4 → rowM 14 r s4 → AA (Call (d + 64)) y_M_turnOf Q 12 [.ref 0, .int (nI p), .int (nI (w + 1)), .int (coF e r w (hoE e p))] [] s4 := by
        intro hno s4 f4 t4 r4
        refine nxt s4 (g1.trans (f4.mono (by simp)).t) t4 r4 ?_ ?_ ?_ ?_ ?_
        · rw [pick_n hno, f4.i 16]; exact g4
        · rw [pick_n hno, f4.i 17]; exact g5
        · rw [f4.i 16, f4.i 17]; exact g6
        · rw [f4.2 42 (by omega)]; exact g7
        · rw [f4.2 42 (by omega)]; exact g8
      have ask : coF e r w (hoE e p) ≤ puE e p → ((pickF e r p w).1 = -1 ∨ ¬ (pickF e r p w).2 ≤ coF e r w (hoE e p)) → Call (d + 64) y_M_says [.ref 0, .int 2, .int (nI p), .int (nI w)] s3 (fun ρ μ5 => ∃ r6 : Int32, ρ = .int r6 ∧ ((r6 = 0 → AA (Call (d + 64)) y_M_turnOf Q 12 [.ref 0, .int (nI p), .int (nI (w + 1)), .int (coF e r w (hoE e p))] [] μ5) ∧
          (¬ r6 = 0 → (vp_in (nI p) 5 ∧ ∀ μ7 : Mem, μ7 = wI μ5 16 (upd (μ5.1 16) p (nI w)) → (vp_in (nI p) 5 ∧ ∀ μ8 : Mem, μ8 = wI μ7 17 (upd (μ7.1 17) p (coF e r w (hoE e p))) → AA (Call (d + 64)) y_M_turnOf Q 12 [.ref 0, .int (nI p), .int (nI (w + 1)), .int (coF e r w (hoE e p))] [] μ8))))) := by
        intro y1 y2
        refine M_says_e (a := 2) is3 hwf (by omega) hp hw (fun s4 f4 t4 => ⟨_, rfl, fun z4 => ?_, fun z4 => ⟨vp, fun μ7 e7 => ⟨vp, fun μ8 e8 => ?_⟩⟩⟩)
        · exact skip (fun y => y.2.2.2 z4) s4 (f4.mono (by simp)) t4 (fun j hj => by rw [f4.i 14]; exact g3 j hj)
        · have fw : frA [14, 15, 16, 17] s4 μ8 := by rw [e8, e7]; exact (frA.w).trans frA.w
          refine nxt μ8 ((g1.trans (f4.mono (by simp)).t).trans fw.t) (t4.fr (ks := [16, 17]) (by rw [e8, e7]; exact (Only.w).trans Only.w) (by simp)) (fun j hj => ?_) ?_ ?_ ?_ ?_ ?_
          · rw [e8, wI_n (by decide), e7, wI_n (by decide), f4.i 14]; exact g3 j hj
          · rw [pick_y z y1 y2 z4, e8, wI_n (by decide), e7, wI_s, upd_s]
          · rw [pick_y z y1 y2 z4, e8, wI_s, upd_s]
          · intro j hj
            rw [e8, wI_s, upd_n hj, wI_n (by decide), e7, wI_s, upd_n hj, wI_n (by decide), f4.i 16, f4.i 17]
            exact g6 j hj
          · rw [fw.2 42 (by omega), f4.2 42 (by omega)]; exact g7
          · rw [fw.2 42 (by omega), f4.2 42 (by omega)]; exact g8
      rw [(is3.2.2.2.1 p hp).2.2, g4, g5]
      refine ⟨vp, fun y => skip (fun x => ?_) s3 frA.rf g2 g3, fun y => ⟨vp, fun y2 => ask ?_ (Or.inl y2), fun y2 => ⟨vp, fun y3 => skip (fun x => ?_) s3 frA.rf g2 g3, fun y3 => ask ?_ (Or.inr y3)⟩⟩⟩
      · have x1 := le32.mp x.2.1
        have x2 := lt32.mp y
        omega
      · exact le32.mpr (Int.not_lt.mp (fun q => y (lt32.mpr q)))
      · rcases x.2.2.1 with x1 | x1
        · exact y2 x1
        · exact x1 y3
      · exact le32.mpr (Int.not_lt.mp (fun q => y (lt32.mpr q)))
    have f13 : frT [14, 15, 16, 17] μ s3 := f1.trans (f3.mono (by simp)).t
    have k40 : s3.1 0 40 = μ.1 0 40 := f13.2 40 (by omega)
    have k41 : s3.1 0 41 = μ.1 0 41 := f13.2 41 (by omega)
    have k42 : s3.1 0 42 = s.1 0 42 := f3.2 42 (by omega)
    have b16 : s3.1 16 p = (pickF e r p w).1 := by rw [f3.i 16]; exact s16
    have b17 : s3.1 17 p = (pickF e r p w).2 := by rw [f3.i 17]; exact s17
    have bo : ∀ j, j ≠ p → s3.1 16 j = μ.1 16 j ∧ s3.1 17 j = μ.1 17 j := by rw [f3.i 16, f3.i 17]; exact so
    rw [k40, k41]
    refine ⟨fun z1 => ?_, fun z1 => ⟨fun z2 => ?_, fun z2 μ21 e21 => ?_⟩⟩
    · exact tail s3 f13 t3 rm3 b16 b17 bo (fun y => absurd y z1) (fun _ => by rw [k42]; exact sn z1)
    · exact tail s3 f13 t3 rm3 b16 b17 bo (fun y => by rw [k42, bit_n (fun x => z2 x.2)]; exact sb y) (fun y => absurd z1 y)
    · have fw : frT [14, 15, 16, 17] s3 μ21 := ⟨by rw [e21]; exact Only.w (by simp), fun k hk => by rw [e21, wI_s, upd_n (by omega)]⟩
      have o21 : ∀ k, k ≠ 0 → μ21.1 k = s3.1 k ∧ μ21.2 k = s3.2 k := by intro k hk; rw [e21]; exact ⟨wI_n hk, rfl⟩
      refine tail μ21 (f13.trans fw) (t3.cong (fw.2 3 (by omega)) (o21 1 (by decide)).1 (o21 2 (by decide)).1 (o21 13 (by decide)).1 (o21 12 (by decide)).2) (fun j hj => by rw [(o21 14 (by decide)).1]; exact rm3 j hj) (by rw [(o21 16 (by decide)).1]; exact b16) (by rw [(o21 17 (by decide)).1]; exact b17) (by rw [(o21 16 (by decide)).1, (o21 17 (by decide)).1]; exact bo) (fun y => ?_) (fun y => absurd z1 y)
      rw [bit_y z z2, e21, wI_s, upd_s, k42, sb y]
  · have fw : frA [14, 15, 16, 17] μ μ2 := by rw [e2, e1]; exact (frA.w).trans frA.w
    refine ⟨fw.t, (hi.2.2.2.2.2.2.2.2.1).fr (ks := [16, 17]) (by rw [e2, e1]; exact (Only.w).trans Only.w) (by simp), fun j hj => ?_, ?_, ?_, ?_, ?_, ?_⟩
    · rw [e2, wI_n (by decide), e1, wI_n (by decide)]; exact hrow j hj
    · rw [e2, wI_n (by decide), e1, wI_s, upd_s]; rfl
    · rw [e2, wI_s, upd_s]; rfl
    · intro j hj
      rw [e2, wI_s, upd_n hj, wI_n (by decide), e1, wI_s, upd_n hj, wI_n (by decide)]
      exact ⟨rfl, rfl⟩
    · intro _; rw [fw.2 42 (by omega)]; rfl
    · intro _; rw [fw.2 42 (by omega)]
end
section
/-! ===== a day in the reference: its hours ===== -/
abbrev DS : Type := (Nat → Int32) × (Nat → Int32) × (Nat → Int32)
noncomputable def turnF (e : DE) (p : Nat) (s : DS) : DS := (if (pickF e s.1 p (nwE e)).1 = -1 then s.1 else spF (letsF (lsE e (pickF e s.1 p (nwE e)).1.toNatClampNeg)) s.1, upd s.2.1 p (pickF e s.1 p (nwE e)).1, upd s.2.2 p (pickF e s.1 p (nwE e)).2)
noncomputable def hourF (e : DE) (h : Nat) : Nat → DS → DS
  | 0, s => s
  | p + 1, s => if hoE e p = nI h then turnF e p (hourF e h p s) else hourF e h p s
def ageR (e : DE) (r : Nat → Int32) : Nat → Int32 := fun j => ageF (kE e) (nE e) (r j)
noncomputable def dayF (e : DE) : Nat → DS → DS
  | 0, s => s
  | h + 1, s => (ageR e (hourF e h (npE e) (dayF e h s)).1, (hourF e h (npE e) (dayF e h s)).2)
def ds0 (r : Nat → Int32) : DS := (r, fun _ => -1, fun _ => 0)
/-- the row as a writer's turn comes -/
noncomputable def rowAt (e : DE) (r : Nat → Int32) (p : Nat) : Nat → Int32 := (hourF e (hoE e p).toInt.toNat p (dayF e (hoE e p).toInt.toNat (ds0 r))).1
theorem ageF_ok {k n u : Int32} (hn : rng n 0 9) (hu : rng u 0 999) : rng (ageF k n u) 0 999 := by
  obtain ⟨n1, n2⟩ := hn
  obtain ⟨u1, u2⟩ := hu
  have e1 : (u - n).toInt = u.toInt - n.toInt := sub32 (by omega) (by omega)
  have e2 : (u - 1).toInt = u.toInt - 1 := m1 u1
  have z0 : (0 : Int32).toInt = 0 := rfl
  unfold ageF rng
  (repeat' split) <;> omega
theorem ageR_ok {e : DE} {r : Nat → Int32} (hwf : wfE e) (h : rowOk r) : rowOk (ageR e r) := fun j hj => ageF_ok hwf.2.2.2.2.2 (h j hj)
theorem turnF_ok {e : DE} {p : Nat} {s : DS} (hwf : wfE e) (h : rowOk s.1) : rowOk (turnF e p s).1 := by
  unfold turnF
  show rowOk (if _ then _ else _)
  split
  · exact h
  · rename_i q
    rcases pick_lt (e := e) (r := s.1) (p := p) (nwE e) with ⟨q1, _⟩ | ⟨w, q1, q2, q3⟩
    · exact absurd q1 q
    · have h10 := hwf.1
      rw [q2, nI_c (by omega)]
      exact spF_ok h (lets_lt (hwf.2.1 w q1).2.2)
theorem hourF_ok {e : DE} {h : Nat} {s : DS} (hwf : wfE e) (hs : rowOk s.1) : ∀ p, rowOk (hourF e h p s).1
  | 0 => hs
  | p + 1 => by
    unfold hourF
    split
    · exact turnF_ok hwf (hourF_ok hwf hs p)
    · exact hourF_ok hwf hs p
theorem dayF_ok {e : DE} {s : DS} (hwf : wfE e) (hs : rowOk s.1) : ∀ h, rowOk (dayF e h s).1
  | 0 => hs
  | h + 1 => ageR_ok hwf (hourF_ok hwf (dayF_ok hwf hs h) _)
/-- has a writer's turn come before hour h and writer i -/
def past (e : DE) (h i p : Nat) : Prop := (hoE e p).toInt < h ∨ (hoE e p).toInt = h ∧ p < i
/-- the reference's memory within a day -/
def dayM (e : DE) (tx : Nat → Nat → List Int32) (r : Nat → Int32) (μ : Mem) (h i : Nat) (s : DS) (ν : Mem) : Prop := frT [14, 15, 16, 17] μ ν ∧ TxM tx ν ∧ rowM 14 s.1 ν ∧ (∀ p, p < npE e → past e h i p → ν.1 16 p = s.2.1 p ∧ ν.1 17 p = s.2.2 p) ∧ (∀ q, q < npE e → μ.1 0 40 = nI q → (past e h i q → ν.1 0 42 = bitF e (rowAt e r q) q (μ.1 0 41) (μ.1 0 42) (nwE e)) ∧ (¬ past e h i q → ν.1 0 42 = μ.1 0 42))
theorem M_passesDay_ok {d : Nat} {Q : QQ} {μ : Mem} {e : DE} {tx : Nat → Nat → List Int32} {t : Nat} {r : Nat → Int32} (hi : isM e tx t μ) (hwf : wfE e) (hrow : rowM 14 r μ) (hok : rowOk r) (hQ : ∀ μ', frT [14, 15, 16, 17] μ μ' → TxM tx μ' → rowM 14 (dayF e 24 (ds0 r)).1 μ' → (∀ p, p < npE e → μ'.1 16 p = (dayF e 24 (ds0 r)).2.1 p ∧ μ'.1 17 p = (dayF e 24 (ds0 r)).2.2 p) → (∀ q, q < npE e → μ.1 0 40 = nI q → μ'.1 0 42 = bitF e (rowAt e r q) q (μ.1 0 41) (μ.1 0 42) (nwE e)) → Q .null μ') : Call (d + 66) y_M_passesDay [.ref 0] μ Q := by
  have hwf' := hwf
  obtain ⟨w1, w2, w3, w4, w5, w6⟩ := hwf'
  refine b_M_passesDay_0 ?_
  have rok : ∀ h, rowOk (dayF e h (ds0 r)).1 := fun h => dayF_ok hwf hok h
  refine loopN (G := fun h s => AA (Call (d + 65)) y_M_passesDay Q 2 [.ref 0, .int (nI h), un] [] s) (P := fun h s => dayM e tx r μ h 0 (dayF e h (ds0 r)) s) (N := 24) ?_ ?_ 0 μ (by omega) ?_
  · intro s ⟨f1, t1, rm, sp, sb⟩
    have past24 : ∀ p, p < npE e → past e 24 0 p := fun p hp => Or.inl (by have := (w4 p hp).1.2; omega)
    exact b_M_passesDay_2 ⟨fun _ => hQ s f1 t1 rm (fun p hp => sp p hp (past24 p hp)) (fun q hq hq2 => (sb q hq hq2).1 (past24 q hq)), fun c => absurd (by decide) c⟩
  · intro h s hh hP ih
    have eh := nI_i (n := h) (by omega)
    refine b_M_passesDay_2 ⟨fun c => absurd (le32.mp c) (by rw [eh]; show ¬ (24 : Int) ≤ _; omega), fun _ => ?_⟩
    refine loopN (G := fun p s => AA (Call (d + 65)) y_M_passesDay Q 7 [.ref 0, .int (nI h), .int (nI p)] [] s) (P := fun p s => dayM e tx r μ h p (hourF e h p (dayF e h (ds0 r))) s) (N := npE e) ?_ ?_ 0 s (by omega) hP
    · intro s ⟨f1, t1, rm, sp, sb⟩
      have is1 := hi.ft f1 (by simp) t1
      refine b_M_passesDay_7 ⟨fun _ => ?_, fun z => absurd (by rw [is1.2.2.1]; exact Int32.le_refl _) z⟩
      refine M_ages_ok (by exact is1.2.2.2.2.1) (fun s2 o2 a2 => ?_)
      rw [nI_1]
      refine AA_weak (lv := [.ref 0, .int (nI (h + 1)), un]) ⟨Or.inl rfl, Or.inl rfl, Or.inr ⟨rfl, rfl⟩, trivial⟩ ?_
      have pst : ∀ p, p < npE e → (past e (h + 1) 0 p ↔ past e h (npE e) p) := by
        intro p hp
        unfold past
        constructor
        · intro z; omega
        · intro z; omega
      have fo : frT [14, 15, 16, 17] s s2 := ⟨o2.mono (by simp), fun k _ => by rw [o2.i 0]⟩
      refine ih s2 ⟨f1.trans fo, t1.fr o2 (by simp), ?_, ?_, ?_⟩
      · intro j hj
        rw [a2 j hj, is1.2.2.2.2.2.1, is1.2.2.2.2.2.2.1, rm j hj]
        rfl
      · intro p hp hpa
        rw [o2.i 16, o2.i 17]
        exact sp p hp ((pst p hp).mp hpa)
      · intro q hq hq2
        rw [o2.i 0]
        obtain ⟨g1, g2⟩ := sb q hq hq2
        exact ⟨fun z => g1 ((pst q hq).mp z), fun z => g2 (fun y => z ((pst q hq).mpr y))⟩
    · intro p s hp ⟨f1, t1, rm, sp, sb⟩ ih2
      have is1 := hi.ft f1 (by simp) t1
      have cp : (nI p).toNatClampNeg = p := nI_c (by omega)
      refine b_M_passesDay_7 ⟨fun z => absurd (le32.mp z) (by rw [is1.2.2.1, nI_i (by omega), nI_i (by omega)]; omega), fun _ => ⟨nI_v (by omega) (by omega), ?_⟩⟩
      rw [cp, nI_1, (is1.2.2.2.1 p hp).2.1]
      refine ⟨fun z => ih2 s ⟨f1, t1, ?_, ?_, ?_⟩, fun z => ?_⟩
      · unfold hourF; rw [if_neg z]; exact rm
      · intro p' hp' hpa
        unfold hourF
        rw [if_neg z]
        refine sp p' hp' ?_
        rcases hpa with y | ⟨y1, y2⟩
        · exact Or.inl y
        · refine Or.inr ⟨y1, ?_⟩
          by_cases yy : p' = p
          · exact absurd (Int32.toInt_inj.mp (by rw [← yy, eh]; exact y1)) z
          · omega
      · intro q hq hq2
        obtain ⟨g1, g2⟩ := sb q hq hq2
        have key : past e h (p + 1) q ↔ past e h p q := by
          unfold past
          constructor
          · rintro (y | ⟨y1, y2⟩)
            · exact Or.inl y
            · refine Or.inr ⟨y1, ?_⟩
              by_cases yy : q = p
              · exact absurd (Int32.toInt_inj.mp (by rw [← yy, eh]; exact y1)) z
              · omega
          · rintro (y | ⟨y1, y2⟩)
            · exact Or.inl y
            · exact Or.inr ⟨y1, by omega⟩
        exact ⟨fun z => g1 (key.mp z), fun z => g2 (fun y => z (key.mpr y))⟩
      · have hz : (hoE e p).toInt = h := by rw [z, eh]
        have hrA : rowAt e r p = (hourF e h p (dayF e h (ds0 r))).1 := by
          unfold rowAt
          rw [hz]; rfl
        refine M_turnOf_ok is1 hwf hp rm (hourF_ok hwf (rok h) p) (fun s2 f2 t2 rm2 g16 g17 go gb gn => ih2 s2 ⟨f1.trans f2, t2, ?_, ?_, ?_⟩)
        · unfold hourF; rw [if_pos z]; exact rm2
        · intro p' hp' hpa
          unfold hourF
          rw [if_pos z]
          show _ = upd _ _ _ _ ∧ _ = upd _ _ _ _
          by_cases yy : p' = p
          · rw [yy, upd_s, upd_s]; exact ⟨g16, g17⟩
          · rw [upd_n yy, upd_n yy, (go p' yy).1, (go p' yy).2]
            refine sp p' hp' ?_
            rcases hpa with y | ⟨y1, y2⟩
            · exact Or.inl y
            · exact Or.inr ⟨y1, by omega⟩
        · intro q hq hq2
          have k40 : s.1 0 40 = μ.1 0 40 := f1.2 40 (by omega)
          have k41 : s.1 0 41 = μ.1 0 41 := f1.2 41 (by omega)
          obtain ⟨g1, g2⟩ := sb q hq hq2
          rw [k40, k41] at gb
          rw [k40] at gn
          by_cases yy : q = p
          · subst yy
            refine ⟨fun _ => ?_, fun y => absurd (Or.inr ⟨hz, by omega⟩) y⟩
            rw [gb hq2.symm, g2 (fun y => by rcases y with y | y <;> omega), hrA]
          · have hne : ¬ nI p = μ.1 0 40 := by
              rw [hq2]
              intro y
              have := congrArg Int32.toInt y
              rw [nI_i (by omega), nI_i (by omega)] at this
              omega
            rw [gn hne]
            have key : past e h (p + 1) q ↔ past e h p q := by
              unfold past
              constructor
              · rintro (y | ⟨y1, y2⟩)
                · exact Or.inl y
                · exact Or.inr ⟨y1, by omega⟩
              · rintro (y | ⟨y1, y2⟩)
                · exact Or.inl y
                · exact Or.inr ⟨y1, by omega⟩
            exact ⟨fun z => g1 (key.mp z), fun z => g2 (fun y => z (key.mpr y))⟩
  · have np0 : ∀ p, p < npE e → ¬ past e 0 0 p := by
      intro p hp z
      have := (w4 p hp).1.1
      rcases z with z | z <;> omega
    exact ⟨frT.rf, hi.2.2.2.2.2.2.2.2.1, hrow, fun p hp z => absurd z (np0 p hp), fun q hq _ => ⟨fun z => absurd z (np0 q hq), fun _ => rfl⟩⟩
theorem M_dayNow_ok {d : Nat} {Q : QQ} {μ : Mem} {e : DE} {tx : Nat → Nat → List Int32} {t : Nat} {r : Nat → Int32} (hi : isM e tx t μ) (hwf : wfE e) (hrow : rowM 4 r μ) (hok : rowOk r) (hQ : ∀ μ', frT [14, 15, 16, 17] μ μ' → TxM tx μ' → rowM 14 (dayF e 24 (ds0 r)).1 μ' → (∀ p, p < npE e → μ'.1 16 p = (dayF e 24 (ds0 r)).2.1 p ∧ μ'.1 17 p = (dayF e 24 (ds0 r)).2.2 p) → (∀ q, q < npE e → μ.1 0 40 = nI q → μ'.1 0 42 = bitF e (rowAt e r q) q (μ.1 0 41) (μ.1 0 42) (nwE e)) → Q .null μ') : Call (d + 67) y_M_dayNow [.ref 0] μ Q := by
  refine b_M_dayNow_0 (M_takes_ok (fun s o1 o2 => ?_))
  have t1 : TxM tx s := (hi.2.2.2.2.2.2.2.2.1).fr o1 (by simp)
  have f1 : frT [14, 15, 16, 17] μ s := ⟨o1.mono (by simp), fun k _ => by rw [o1.i 0]⟩
  refine M_passesDay_ok (hi.ft f1 (by simp) t1) hwf (r := r) (fun j hj => by rw [o2 j hj]; exact hrow j hj) hok (fun s2 f2 t2 rm sp sb => hQ s2 (f1.trans f2) t2 rm sp ?_)
  rw [o1.i 0] at sb
  exact sb
/-! ===== what a day gave ===== -/
def goodF (e : DE) (s : DS) (p : Nat) : Int32 := if s.2.1 p = -1 then 0 else clampF (evF (cE e 1) (envF 0 (hoE e p) 0 (sizeF (lsE e (s.2.1 p).toNatClampNeg)) (puE e p) (nI (npE e)))) 0 999 - s.2.2 p
def sayF (s : DS) : Nat → Int32
  | 0 => 0
  | p + 1 => sayF s p + (if s.2.1 p = -1 then 0 else 1)
/-- what is said is a word -/
def saidOk (e : DE) (s : DS) : Prop := ∀ p, s.2.1 p = -1 ∨ ∃ w, w < nwE e ∧ s.2.1 p = nI w
theorem turnF_said {e : DE} {p : Nat} {s : DS} (h : saidOk e s) : saidOk e (turnF e p s) := by
  intro q
  show upd s.2.1 p _ q = -1 ∨ ∃ w, w < nwE e ∧ upd s.2.1 p _ q = nI w
  by_cases z : q = p
  · rw [z, upd_s]
    rcases pick_lt (e := e) (r := s.1) (p := p) (nwE e) with ⟨q1, _⟩ | ⟨w, q1, q2, q3⟩
    · exact Or.inl q1
    · exact Or.inr ⟨w, q1, q2⟩
  · rw [upd_n z]
    exact h q
theorem hourF_said {e : DE} {h : Nat} {s : DS} (hs : saidOk e s) : ∀ p, saidOk e (hourF e h p s)
  | 0 => hs
  | p + 1 => by
    unfold hourF
    split
    · exact turnF_said (hourF_said hs p)
    · exact hourF_said hs p
theorem dayF_said {e : DE} {r : Nat → Int32} : ∀ h, saidOk e (dayF e h (ds0 r))
  | 0 => fun _ => Or.inl rfl
  | h + 1 => hourF_said (dayF_said h) _
theorem M_goodOf_ok {d : Nat} {Q : QQ} {μ : Mem} {e : DE} {tx : Nat → Nat → List Int32} {t p : Nat} {s : DS} (hi : isM e tx t μ) (hwf : wfE e) (hp : p < npE e) (hs : saidOk e s) (h16 : μ.1 16 p = s.2.1 p) (h17 : μ.1 17 p = s.2.2 p) (hQ : ∀ μ', frA [] μ μ' → TxM tx μ' → Q (.int (goodF e s p)) μ') : Call (d + 63) y_M_goodOf [.ref 0, .int (nI p)] μ Q := by
  have h5 := hwf.2.2.1
  have h10 := hwf.1
  have cp : (nI p).toNatClampNeg = p := nI_c (by omega)
  have vp : vp_in (nI p) 5 := nI_v (by omega) (by omega)
  refine b_M_goodOf_0 ⟨vp, ?_⟩
  rw [cp, h16]
  refine ⟨fun z => ⟨vp, ?_⟩, fun z => ?_⟩
  · rcases hs p with q | ⟨w, q1, q2⟩
    · exact absurd q z
    · rw [q2]
      refine M_says_e (a := 1) hi hwf (by omega) hp q1 (fun s1 f1 t1 => ⟨_, rfl, M_within_ok ⟨_, rfl, vp, ?_⟩⟩)
      rw [f1.i 17, h17]
      refine Qi (hQ s1 f1 t1) ?_
      unfold goodF
      rw [if_neg z, q2, nI_c (by omega)]
  · refine Qi (hQ μ frA.rf hi.2.2.2.2.2.2.2.2.1) ?_
    unfold goodF
    rw [if_pos z]
theorem M_allGood_ok {d : Nat} {Q : QQ} {μ : Mem} {e : DE} {tx : Nat → Nat → List Int32} {t : Nat} {s : DS} (hi : isM e tx t μ) (hwf : wfE e) (hs : saidOk e s) (hsp : ∀ p, p < npE e → μ.1 16 p = s.2.1 p ∧ μ.1 17 p = s.2.2 p) (hQ : ∀ μ', frA [] μ μ' → TxM tx μ' → Q (.int (sum8 (goodF e s) (npE e))) μ') : Call (d + 64) y_M_allGood [.ref 0] μ Q := by
  have h5 := hwf.2.2.1
  refine b_M_allGood_0 ?_
  refine loopN (G := fun i t => AA (Call (d + 63)) y_M_allGood Q 4 [.ref 0, .int t.1, .int (nI i)] [] t.2) (P := fun i t => t.1 = sum8 (goodF e s) i ∧ frA [] μ t.2 ∧ TxM tx t.2) (N := npE e) ?_ ?_ 0 ((0 : Int32), μ) (by omega) ⟨rfl, frA.rf, hi.2.2.2.2.2.2.2.2.1⟩
  · intro ⟨v, ν⟩ ⟨h1, h2, h3⟩
    dsimp only at h1 h2 h3 ⊢
    rw [h1]
    exact b_M_allGood_4 ⟨fun _ => hQ ν h2 h3, fun z => absurd (by rw [h2.2 14 (by omega), hi.2.2.1]; exact Int32.le_refl _) z⟩
  · intro i ⟨v, ν⟩ hi2 ⟨h1, h2, h3⟩ ih
    dsimp only at h1 h2 h3 ih ⊢
    refine b_M_allGood_4 ⟨fun z => absurd (le32.mp z) (by rw [h2.2 14 (by omega), hi.2.2.1, nI_i (by omega), nI_i (by omega)]; omega), fun _ => ?_⟩
    rw [nI_1]
    refine M_goodOf_ok (s := s) (hi.fr h2 (by simp) h3) hwf hi2 hs (by rw [h2.i 16]; exact (hsp i hi2).1) (by rw [h2.i 17]; exact (hsp i hi2).2) (fun ν2 f2 t2 => ⟨_, rfl, ih (_, ν2) ⟨?_, h2.trans f2, t2⟩⟩)
    show v + _ = sum8 _ i + _
    rw [h1]
theorem M_saying_ok {d : Nat} {Q : QQ} {μ : Mem} {n : Nat} {s : DS} (hn : n ≤ 5) (h14 : μ.1 0 14 = nI n) (hsp : ∀ p, p < n → μ.1 16 p = s.2.1 p) (hQ : Q (.int (sayF s n)) μ) : Call (d + 1) y_M_saying [.ref 0] μ Q := by
  refine b_M_saying_0 ?_
  refine loopN (G := fun i t => AA (Call d) y_M_saying Q 4 [.ref 0, .int t, .int (nI i)] [] μ) (P := fun i t => t = sayF s i) (N := n) ?_ ?_ 0 (0 : Int32) (by omega) rfl
  · intro v h1
    rw [h1]
    exact b_M_saying_4 ⟨fun _ => hQ, fun z => absurd (by rw [h14]; exact Int32.le_refl _) z⟩
  · intro i v hi2 h1 ih
    refine b_M_saying_4 ⟨fun z => absurd (le32.mp z) (by rw [h14, nI_i (by omega), nI_i (by omega)]; omega), fun _ => ⟨nI_v (by omega) (by omega), ?_⟩⟩
    rw [nI_1, nI_c (by omega), hsp i hi2]
    refine ⟨fun z => ih _ ?_, fun z => ih _ ?_⟩
    · show _ = sayF s i + _
      rw [h1, if_neg z]
    · show _ = sayF s i + _
      rw [h1, if_pos z]
end
section
/-! ===== a day in the class ===== -/
theorem Laws_steep_ok {d : Nat} {Q : QQ} {μ : Mem} {a b : Int32} (hQ : Q (.int (steepF b a)) μ) : Call (d + 1) y_Laws_steep [.int a, .int b] μ Q := b_Laws_steep_0 hQ
theorem Laws_price_ok {d : Nat} {Q : QQ} {μ : Mem} {a b c : Int32} (ha : vp_in a 6) (hk : rng (μ.1 21 a.toNatClampNeg) 0 5) (hQ : Q (.int (priceF (μ.1 21 a.toNatClampNeg) (μ.1 22 a.toNatClampNeg) b c)) μ) : Call (d + 2) y_Laws_price [.ref 20, .int a, .int b, .int c] μ Q := by
  obtain ⟨k1, k2⟩ := hk
  refine b_Laws_price_0 ?_
  refine ⟨by exact ha, ?_⟩
  refine ⟨by exact ha, ?_⟩
  refine ⟨fun c1 => ?_, fun c1 => ?_⟩
  · have c1 : ((μ.1 21 a.toNatClampNeg)).toInt = (1 : Int) := eq32.mp c1
    refine Laws_steep_ok ⟨_, rfl, ?_⟩
    (unfold priceF at hQ; repeat' split at hQ) <;> first | exact hQ | omega | (rw [Int32.add_zero]; exact hQ)
  · have c1 : ¬ ((μ.1 21 a.toNatClampNeg)).toInt = (1 : Int) := fun z => c1 (eq32.mpr z)
    refine ⟨fun c2 => ?_, fun c2 => ?_⟩
    · have c2 : ((μ.1 21 a.toNatClampNeg)).toInt = (2 : Int) := eq32.mp c2
      refine ⟨by decide, ?_⟩
      (unfold priceF at hQ; repeat' split at hQ) <;> first | exact hQ | omega | (rw [Int32.add_zero]; exact hQ)
    · have c2 : ¬ ((μ.1 21 a.toNatClampNeg)).toInt = (2 : Int) := fun z => c2 (eq32.mpr z)
      refine ⟨fun c3 => ?_, fun c3 => ?_⟩
      · have c3 : ((μ.1 21 a.toNatClampNeg)).toInt = (3 : Int) := eq32.mp c3
        refine ⟨by decide, ?_⟩
        refine Laws_steep_ok ⟨_, rfl, ?_⟩
        (unfold priceF at hQ; repeat' split at hQ) <;> first | exact hQ | omega | (rw [Int32.add_zero]; exact hQ)
      · have c3 : ¬ ((μ.1 21 a.toNatClampNeg)).toInt = (3 : Int) := fun z => c3 (eq32.mpr z)
        refine ⟨fun c4 => ?_, fun c4 => ?_⟩
        · have c4 : ((μ.1 21 a.toNatClampNeg)).toInt = (4 : Int) := eq32.mp c4
          refine ⟨fun c5 => ?_, fun c5 => ?_⟩
          · have c5 : (6 : Int) ≤ (c).toInt := le32.mp c5
            refine ⟨by decide, ?_⟩
            (unfold priceF at hQ; repeat' split at hQ) <;> first | exact hQ | omega | (rw [Int32.add_zero]; exact hQ)
          · have c5 : ¬ (6 : Int) ≤ (c).toInt := fun z => c5 (le32.mpr z)
            (unfold priceF at hQ; repeat' split at hQ) <;> first | exact hQ | omega | (rw [Int32.add_zero]; exact hQ)
        · have c4 : ¬ ((μ.1 21 a.toNatClampNeg)).toInt = (4 : Int) := fun z => c4 (eq32.mpr z)
          refine ⟨fun c6 => ?_, fun c6 => ?_⟩
          · have c6 : ((μ.1 21 a.toNatClampNeg)).toInt = (5 : Int) := eq32.mp c6
            refine Laws_steep_ok ⟨_, rfl, ?_⟩
            refine ⟨fun c7 => ?_, fun c7 => ?_⟩
            · have c7 : ¬ (b).toInt = (0 : Int) := fun z => c7 (eq32.mpr z)
              (unfold priceF at hQ; repeat' split at hQ) <;> first | exact hQ | omega | (rw [Int32.add_zero]; exact hQ)
            · have c7 : (b).toInt = (0 : Int) := eq32.mp c7
              (unfold priceF at hQ; repeat' split at hQ) <;> first | exact hQ | omega | (rw [Int32.add_zero]; exact hQ)
          · have c6 : ¬ ((μ.1 21 a.toNatClampNeg)).toInt = (5 : Int) := fun z => c6 (eq32.mpr z)
            (unfold priceF at hQ; repeat' split at hQ) <;> first | exact hQ | omega | (rw [Int32.add_zero]; exact hQ)
def mx0 (v : Int32) : Int32 := if v < 0 then 0 else v
theorem mx0_age {k n u : Int32} (hk : rng k 0 5) (hu : 0 ≤ u.toInt) : mx0 (if k.toInt = 2 ∨ k.toInt = 4 then u - n else if k.toInt = 3 then u - 1 else if k.toInt = 5 ∧ ¬ n.toInt ≤ u.toInt then 0 else u) = ageF k n u := by
  have z0 : (0 : Int32).toInt = 0 := rfl
  have key : ∀ v : Int32, mx0 v = if 0 ≤ v.toInt then v else 0 := by
    intro v
    unfold mx0
    by_cases h : v < 0
    · rw [if_pos h, if_neg (by have := lt32.mp h; omega)]
    · rw [if_neg h, if_pos (by have := Int.not_lt.mp (fun q => h (lt32.mpr q)); omega)]
  rw [key]
  unfold ageF
  (repeat' split) <;> first | rfl | omega
theorem Laws_aged_ok {d : Nat} {Q : QQ} {μ : Mem} {a b : Int32} (ha : vp_in a 6) (hQ : Q (.int (if (μ.1 21 a.toNatClampNeg).toInt = 2 ∨ (μ.1 21 a.toNatClampNeg).toInt = 4 then b - μ.1 22 a.toNatClampNeg else if (μ.1 21 a.toNatClampNeg).toInt = 3 then b - 1 else if (μ.1 21 a.toNatClampNeg).toInt = 5 ∧ ¬ (μ.1 22 a.toNatClampNeg).toInt ≤ b.toInt then 0 else b)) μ) : Call (d + 1) y_Laws_aged [.ref 20, .int a, .int b] μ Q := by
  refine b_Laws_aged_0 ?_
  refine ⟨by exact ha, ?_⟩
  refine ⟨fun c1 => ?_, fun c1 => ?_⟩
  · have c1 : ((μ.1 21 a.toNatClampNeg)).toInt = (2 : Int) := eq32.mp c1
    refine ⟨by exact ha, ?_⟩
    (repeat' split at hQ) <;> first | exact hQ | omega
  · have c1 : ¬ ((μ.1 21 a.toNatClampNeg)).toInt = (2 : Int) := fun z => c1 (eq32.mpr z)
    refine ⟨fun c2 => ?_, fun c2 => ?_⟩
    · have c2 : ((μ.1 21 a.toNatClampNeg)).toInt = (3 : Int) := eq32.mp c2
      (repeat' split at hQ) <;> first | exact hQ | omega
    · have c2 : ¬ ((μ.1 21 a.toNatClampNeg)).toInt = (3 : Int) := fun z => c2 (eq32.mpr z)
      refine ⟨fun c3 => ?_, fun c3 => ?_⟩
      · have c3 : ((μ.1 21 a.toNatClampNeg)).toInt = (4 : Int) := eq32.mp c3
        refine ⟨by exact ha, ?_⟩
        (repeat' split at hQ) <;> first | exact hQ | omega
      · have c3 : ¬ ((μ.1 21 a.toNatClampNeg)).toInt = (4 : Int) := fun z => c3 (eq32.mpr z)
        refine ⟨fun c4 => ?_, fun c4 => ?_⟩
        · have c4 : ((μ.1 21 a.toNatClampNeg)).toInt = (5 : Int) := eq32.mp c4
          refine ⟨by exact ha, ?_⟩
          refine ⟨fun c5 => ?_, fun c5 => ?_⟩
          · have c5 : ((μ.1 22 a.toNatClampNeg)).toInt ≤ (b).toInt := le32.mp c5
            (repeat' split at hQ) <;> first | exact hQ | omega
          · have c5 : ¬ ((μ.1 22 a.toNatClampNeg)).toInt ≤ (b).toInt := fun z => c5 (le32.mpr z)
            (repeat' split at hQ) <;> first | exact hQ | omega
        · have c4 : ¬ ((μ.1 21 a.toNatClampNeg)).toInt = (5 : Int) := fun z => c4 (eq32.mpr z)
          (repeat' split at hQ) <;> first | exact hQ | omega
theorem Laws_age_d {d : Nat} {Q : QQ} {μ : Mem} {a : Int32} {r : Nat → Int32} (ha : vp_in a 6) (hk : rng (μ.1 21 a.toNatClampNeg) 0 5) (hrow : rowM 45 r μ) (hok : rowOk r) (hQ : ∀ μ', Only [45] μ μ' → rowM 45 (fun j => ageF (μ.1 21 a.toNatClampNeg) (μ.1 22 a.toNatClampNeg) (r j)) μ' → Q .null μ') : Call (d + 2) y_Laws_age [.ref 20, .int a, .ref 45] μ Q := by
  have stay : (μ.1 21 a.toNatClampNeg).toInt = 0 ∨ (μ.1 21 a.toNatClampNeg).toInt = 1 → Q .null μ := by
    intro h
    refine hQ μ Only.rf (fun j hj => ?_)
    rw [hrow j hj]
    have := (hok j hj).1
    show r j = ageF _ _ (r j)
    unfold ageF
    (repeat' split) <;> first | rfl | omega
  have e1 : (1 : Int32).toInt = 1 := rfl
  have e0 : (0 : Int32).toInt = 0 := rfl
  refine b_Laws_age_d_0 ⟨ha, fun c1 => stay (Or.inl (by rw [c1]; rfl)), fun c1 => ⟨ha, fun c2 => ?_, fun c2 => stay (Or.inr (by rw [c2]; rfl))⟩⟩
  refine loopN (G := fun i s => AA (Call (d + 1)) y_Laws_age Q 14 [.ref 20, .int a, .ref 45, .int (nI i)] [] s) (P := fun i s => Only [45] μ s ∧ (∀ j, j < i → s.1 45 j = ageF (μ.1 21 a.toNatClampNeg) (μ.1 22 a.toNatClampNeg) (r j)) ∧ ∀ j, i ≤ j → j < 8 → s.1 45 j = r j) (N := 8) ?_ ?_ 0 μ (by omega) ⟨Only.rf, fun j hj => absurd hj (by omega), fun j _ hj => hrow j hj⟩
  · intro s ⟨h1, h2, _⟩
    exact b_Laws_age_d_14 ⟨fun _ => hQ s h1 h2, fun c => absurd (by decide) c⟩
  · intro i s hi ⟨h1, h2, h3⟩ ih
    have e := nI_i (n := i) (by omega)
    refine b_Laws_age_d_14 ⟨fun c => absurd (le32.mp c) (by rw [e]; show ¬ (8 : Int) ≤ _; omega), fun _ => ⟨nI_v hi (by omega), ?_⟩⟩
    refine Laws_aged_ok ha ⟨_, rfl, nI_v hi (by omega), fun μ1 e1 => ?_⟩
    rw [nI_1]
    rw [nI_c (by omega), h1.i 21, h1.i 22, h3 i (by omega) hi] at e1
    have hx := mx0_age (k := μ.1 21 a.toNatClampNeg) (n := μ.1 22 a.toNatClampNeg) (u := r i) hk (hok i hi).1
    unfold mx0 at hx
    rw [hx] at e1
    subst e1
    refine ih _ ⟨h1.trans Only.w, fun j hj => ?_, fun j hj hj8 => ?_⟩
    · rw [wI_s]
      by_cases q : j = i
      · rw [q, upd_s]
      · rw [upd_n q]
        exact h2 j (by omega)
    · rw [wI_s, upd_n (by omega)]
      exact h3 j (by omega) hj8
theorem Laws_age_u {d : Nat} {Q : QQ} {μ : Mem} {a : Int32} {r : Nat → Int32} (ha : vp_in a 6) (hk : rng (μ.1 21 a.toNatClampNeg) 0 5) (hrow : rowM 1 r μ) (hok : rowOk r) (hQ : ∀ μ', Only [1] μ μ' → rowM 1 (fun j => ageF (μ.1 21 a.toNatClampNeg) (μ.1 22 a.toNatClampNeg) (r j)) μ' → Q .null μ') : Call (d + 2) y_Laws_age [.ref 20, .int a, .ref 1] μ Q := by
  have stay : (μ.1 21 a.toNatClampNeg).toInt = 0 ∨ (μ.1 21 a.toNatClampNeg).toInt = 1 → Q .null μ := by
    intro h
    refine hQ μ Only.rf (fun j hj => ?_)
    rw [hrow j hj]
    have := (hok j hj).1
    show r j = ageF _ _ (r j)
    unfold ageF
    (repeat' split) <;> first | rfl | omega
  refine b_Laws_age_u_0 ⟨ha, fun c1 => stay (Or.inl (by rw [c1]; rfl)), fun c1 => ⟨ha, fun c2 => ?_, fun c2 => stay (Or.inr (by rw [c2]; rfl))⟩⟩
  refine loopN (G := fun i s => AA (Call (d + 1)) y_Laws_age Q 14 [.ref 20, .int a, .ref 1, .int (nI i)] [] s) (P := fun i s => Only [1] μ s ∧ (∀ j, j < i → s.1 1 j = ageF (μ.1 21 a.toNatClampNeg) (μ.1 22 a.toNatClampNeg) (r j)) ∧ ∀ j, i ≤ j → j < 8 → s.1 1 j = r j) (N := 8) ?_ ?_ 0 μ (by omega) ⟨Only.rf, fun j hj => absurd hj (by omega), fun j _ hj => hrow j hj⟩
  · intro s ⟨h1, h2, _⟩
    exact b_Laws_age_u_14 ⟨fun _ => hQ s h1 h2, fun c => absurd (by decide) c⟩
  · intro i s hi ⟨h1, h2, h3⟩ ih
    have e := nI_i (n := i) (by omega)
    refine b_Laws_age_u_14 ⟨fun c => absurd (le32.mp c) (by rw [e]; show ¬ (8 : Int) ≤ _; omega), fun _ => ⟨nI_v hi (by omega), ?_⟩⟩
    refine Laws_aged_ok ha ⟨_, rfl, nI_v hi (by omega), fun μ1 e1 => ?_⟩
    rw [nI_1]
    rw [nI_c (by omega), h1.i 21, h1.i 22, h3 i (by omega) hi] at e1
    have hx := mx0_age (k := μ.1 21 a.toNatClampNeg) (n := μ.1 22 a.toNatClampNeg) (u := r i) hk (hok i hi).1
    unfold mx0 at hx
    rw [hx] at e1
    subst e1
    refine ih _ ⟨h1.trans Only.w, fun j hj => ?_, fun j hj hj8 => ?_⟩
    · rw [wI_s]
      by_cases q : j = i
      · rw [q, upd_s]
      · rw [upd_n q]
        exact h2 j (by omega)
    · rw [wI_s, upd_n (by omega)]
      exact h3 j (by omega) hj8
/-! ===== letters of a word, used ahead ===== -/
def cntL (l : Nat) : List Nat → Nat
  | [] => 0
  | a :: L => (if a = l then 1 else 0) + cntL l L
theorem cntL_app {l : Nat} : ∀ {A B : List Nat}, cntL l (A ++ B) = cntL l A + cntL l B
  | [], _ => by simp [cntL]
  | a :: A, B => by simp only [cntL, List.cons_append, cntL_app (A := A) (B := B)]; omega
theorem bmp_i {u : Int32} (h : rng u 0 999) : (bmp u).toInt = min (u.toInt + 1) 999 := by
  unfold bmp
  obtain ⟨h1, h2⟩ := h
  have e9 : (999 : Int32).toInt = 999 := rfl
  by_cases q : 999 ≤ u.toInt
  · rw [if_pos q]; omega
  · rw [if_neg q]
    have e : (u + 1).toInt = u.toInt + 1 := add32 (by show _ ≤ _ + (1 : Int); omega) (by show _ + (1 : Int) < _; omega)
    omega
theorem spF_cnt {l : Nat} : ∀ {L : List Nat} {r : Nat → Int32}, (∀ a, a = l ∨ a ∈ L → rng (r a) 0 999) → (spF L r l).toInt = min ((r l).toInt + cntL l L) 999
  | [], r, h => by
    have := h l (Or.inl rfl)
    obtain ⟨h1, h2⟩ := this
    simp only [spF, cntL]
    omega
  | a :: L, r, h => by
    have ha := h a (Or.inr (by simp))
    simp only [spF, cntL]
    rw [spF_cnt (L := L) (r := upd r a (bmp (r a))) ?_]
    · by_cases q : a = l
      · subst q
        rw [upd_s, bmp_i ha, if_pos rfl]
        omega
      · rw [upd_n (Ne.symm q), if_neg q]
        omega
    · intro b hb
      by_cases q : b = a
      · rw [q, upd_s]; exact bmp_ok ha
      · rw [upd_n q]
        rcases hb with hb | hb
        · exact h b (Or.inl hb)
        · exact h b (Or.inr (by simp [hb]))
/-- the class's memory holds a day's data -/
def isX (e : DE) (tx : Nat → Nat → List Int32) (t : Nat) (μ : Mem) : Prop := μ.1 2 3 = nI (nwE e) ∧ (∀ w, w < nwE e → μ.1 3 w = thE e w ∧ μ.1 4 w = sizeF (lsE e w) ∧ rowIs (μ.1 (6 + w)) (lsE e w)) ∧ μ.1 16 3 = nI (npE e) ∧ (∀ p, p < npE e → μ.1 17 p = waE e p ∧ μ.1 46 p = hoE e p ∧ μ.1 19 p = puE e p) ∧ vp_in (μ.1 44 7) 6 ∧ μ.1 21 (μ.1 44 7).toNatClampNeg = kE e ∧ μ.1 22 (μ.1 44 7).toNatClampNeg = nE e ∧ rulX t μ ∧ TxX tx μ ∧ cE e = tx t
theorem isX.fr {e : DE} {tx : Nat → Nat → List Int32} {t : Nat} {μ μ' : Mem} {ks : List Nat} (h : isX e tx t μ) (hw : nwE e ≤ 10) (o : Only ks μ μ') (hk : ∀ k ∈ ks, 42 ≤ k ∧ k ≠ 44 ∧ k ≠ 46) : isX e tx t μ' := by
  obtain ⟨h1, h2, h3, h4, h5, h6, h7, h8, h9, h10⟩ := h
  have n : ∀ k, k < 42 → μ'.1 k = μ.1 k := fun k q => o.i k (fun z => absurd (hk k z).1 (by omega))
  have n44 : μ'.1 44 = μ.1 44 := o.i 44 (fun z => absurd rfl (hk 44 z).2.1)
  have n46 : μ'.1 46 = μ.1 46 := o.i 46 (fun z => absurd rfl (hk 46 z).2.2)
  unfold isX
  rw [n 2 (by omega), n 16 (by omega), n44, n46, n 21 (by omega), n 22 (by omega), n 3 (by omega), n 4 (by omega), n 17 (by omega), n 19 (by omega)]
  refine ⟨h1, fun w q => ?_, h3, h4, h5, h6, h7, h8.only o (fun z => absurd (hk 27 z).1 (by omega)), h9.only o (fun k q1 q2 z => absurd (hk k z).1 (by omega)) h8.2.2.2, h10⟩
  rw [n (6 + w) (by omega)]
  exact h2 w q
theorem lets_len {v : Int32} : (letsF v).length = (digs v.toInt.toNat).length := by unfold letsF; simp
theorem row_let {f : Nat → Int32} {v : Int32} (h : rowIs f v) {j : Nat} (hj : j < (letsF v).length) : f j = nI ((letsF v).getD j 0) := by
  rw [lets_len] at hj
  rw [h j hj]
  unfold letsF
  simp only [List.getD_eq_getElem?_getD, List.getElem?_map]
  rw [List.getElem?_eq_getElem hj]
  rfl
theorem getD_mem {L : List Nat} {j : Nat} (h : j < L.length) : L.getD j 0 ∈ L := by
  rw [List.getD_eq_getElem?_getD, List.getElem?_eq_getElem h]
  exact List.getElem_mem h
theorem take_s {L : List Nat} {j : Nat} (h : j < L.length) : L.take (j + 1) = L.take j ++ [L.getD j 0] := by
  rw [List.take_succ_eq_append_getElem h, List.getD_eq_getElem?_getD, List.getElem?_eq_getElem h]
  rfl
theorem Words_usedAhead_ok {d : Nat} {Q : QQ} {μ : Mem} {w i : Nat} {v : Int32} {r : Nat → Int32} (hw : w < 10) (hv : okD v.toInt.toNat) (h6 : (letsF v).length ≤ 6) (hrw : rowIs (μ.1 (6 + w)) v) (hi : i < (letsF v).length) (hrow : rowM 45 r μ) (hok : rowOk r) (hQ : Q (.int (spF ((letsF v).take i) r ((letsF v).getD i 0))) μ) : Call (d + 1) y_Words_usedAhead [.ref 2, .int (nI w), .int (nI i), .ref 45] μ Q := by
  have cw : (nI w).toNatClampNeg = w := nI_c (by omega)
  have ci : (nI i).toNatClampNeg = i := nI_c (by omega)
  have hlt := lets_lt hv
  have hl8 : (letsF v).getD i 0 < 8 := hlt _ (getD_mem hi)
  have hrl := row_let hrw hi
  have cl : (nI ((letsF v).getD i 0)).toNatClampNeg = (letsF v).getD i 0 := nI_c (by omega)
  obtain ⟨o1, o2⟩ := hok _ hl8
  have e9 : (999 : Int32).toInt = 999 := rfl
  have fin : ∀ x : Int32, x.toInt = (r ((letsF v).getD i 0)).toInt + cntL ((letsF v).getD i 0) ((letsF v).take i) → (if 999 < x then 999 else x) = spF ((letsF v).take i) r ((letsF v).getD i 0) := by
    intro x hx
    apply Int32.toInt_inj.mp
    rw [spF_cnt]
    · by_cases q : (999 : Int32) < x
      · rw [if_pos q]
        have := lt32.mp q
        omega
      · rw [if_neg q]
        have := Int.not_lt.mp (fun z => q (lt32.mpr z))
        omega
    · intro a ha
      rcases ha with ha | ha
      · rw [ha]; exact ⟨o1, o2⟩
      · exact hok a (hlt a (List.mem_of_mem_take ha))
  refine b_Words_usedAhead_0 ?_
  rw [cw, ci, hrl, cl, ilen_row hw]
  refine ⟨nI_v hw (by omega), nI_v (by omega) (by omega), nI_v hl8 (by omega), ?_⟩
  rw [hrow _ hl8]
  refine loopN (G := fun j s => AA (Call d) y_Words_usedAhead Q 13 [.ref 2, .int (nI w), .int (nI i), .ref 45, .int (nI ((letsF v).getD i 0)), .int s, .int (nI j)] [] μ) (P := fun j s => s.toInt = (r ((letsF v).getD i 0)).toInt + cntL ((letsF v).getD i 0) ((letsF v).take j) ∧ s.toInt ≤ 999 + j) (N := i) ?_ ?_ 0 (r ((letsF v).getD i 0)) (by omega) ⟨by simp [cntL], by omega⟩
  · intro s ⟨h1, h2⟩
    exact b_Words_usedAhead_13 ⟨fun _ => Qi hQ (fin s h1), fun z => absurd (Int32.le_refl _) z⟩
  · intro j s hj ⟨h1, h2⟩ ih
    have cj : (nI j).toNatClampNeg = j := nI_c (by omega)
    refine b_Words_usedAhead_13 ⟨fun z => absurd (le32.mp z) (by rw [nI_i (by omega), nI_i (by omega)]; omega), fun _ => ?_⟩
    rw [cw, cj, ilen_row hw, row_let hrw (show j < (letsF v).length by omega), nI_1]
    refine ⟨nI_v hw (by omega), nI_v (by omega) (by omega), fun z => ih s ⟨?_, by omega⟩, fun z => ih (s + 1) ?_⟩
    · rw [take_s (by omega), cntL_app, h1]
      simp only [cntL]
      rw [if_neg (fun y => z (by rw [y]))]
      omega
    · have es : (s + 1).toInt = s.toInt + 1 := add32 (by show _ ≤ _ + (1 : Int); omega) (by show _ + (1 : Int) < _; omega)
      have hj8 : (letsF v).getD j 0 < 8 := hlt _ (getD_mem (by omega))
      have ez : (letsF v).getD j 0 = (letsF v).getD i 0 := by
        have := congrArg Int32.toInt z
        rw [nI_i (by omega), nI_i (by omega)] at this
        omega
      refine ⟨?_, by omega⟩
      rw [take_s (by omega), cntL_app, es, h1]
      simp only [cntL]
      rw [if_pos ez]
      omega
theorem bmp_min {u : Int32} (h : rng u 0 999) : (if 999 < u + 1 then 999 else u + 1) = bmp u := by
  apply Int32.toInt_inj.mp
  rw [bmp_i h]
  obtain ⟨h1, h2⟩ := h
  have e9 : (999 : Int32).toInt = 999 := rfl
  have e : (u + 1).toInt = u.toInt + 1 := add32 (by show _ ≤ _ + (1 : Int); omega) (by show _ + (1 : Int) < _; omega)
  by_cases q : (999 : Int32) < u + 1
  · rw [if_pos q]
    have := lt32.mp q
    omega
  · rw [if_neg q]
    have := Int.not_lt.mp (fun z => q (lt32.mpr z))
    omega
theorem spF_s {L : List Nat} {j : Nat} {r : Nat → Int32} (h : j < L.length) : spF (L.take (j + 1)) r = upd (spF (L.take j) r) (L.getD j 0) (bmp (spF (L.take j) r (L.getD j 0))) := by rw [take_s h, spF_app]; rfl
theorem Words_spend_d {d : Nat} {Q : QQ} {μ : Mem} {w : Nat} {v : Int32} {r : Nat → Int32} (hw : w < 10) (hv : okD v.toInt.toNat) (h6 : (letsF v).length ≤ 6) (h4 : μ.1 4 w = sizeF v) (hrw : rowIs (μ.1 (6 + w)) v) (hrow : rowM 45 r μ) (hok : rowOk r) (hQ : ∀ μ', Only [45] μ μ' → rowM 45 (spF (letsF v) r) μ' → Q .null μ') : Call (d + 1) y_Words_spend [.ref 2, .int (nI w), .ref 45] μ Q := by
  have cw : (nI w).toNatClampNeg = w := nI_c (by omega)
  have hlt := lets_lt hv
  have hsz : sizeF v = nI (letsF v).length := by rw [lets_len]; rfl
  refine b_Words_spend_d_0 ?_
  refine loopN (G := fun j s => AA (Call d) y_Words_spend Q 2 [.ref 2, .int (nI w), .ref 45, .int (nI j), un] [] s) (P := fun j s => Only [45] μ s ∧ rowM 45 (spF ((letsF v).take j) r) s) (N := (letsF v).length) ?_ ?_ 0 μ (by omega) ⟨Only.rf, hrow⟩
  · intro s ⟨h1, h2⟩
    rw [List.take_length] at h2
    refine b_Words_spend_d_2 ⟨nI_v hw (by omega), fun _ => hQ s h1 h2, fun z => absurd (by rw [cw, h1.i 4, h4, hsz]; exact Int32.le_refl _) z⟩
  · intro j s hj ⟨h1, h2⟩ ih
    have cj : (nI j).toNatClampNeg = j := nI_c (by omega)
    have hl8 : (letsF v).getD j 0 < 8 := hlt _ (getD_mem hj)
    have cl : (nI ((letsF v).getD j 0)).toNatClampNeg = (letsF v).getD j 0 := nI_c (by omega)
    have n6 : s.1 (6 + w) = μ.1 (6 + w) := h1.i (6 + w) (by simp; omega)
    have rk : rowOk (spF ((letsF v).take j) r) := spF_ok hok (fun l hl => hlt l (List.mem_of_mem_take hl))
    refine b_Words_spend_d_2 ?_
    rw [cw, cj, n6, row_let hrw hj, cl, h1.i 4, h4, hsz, ilen_row hw, nI_1, h2 _ hl8, bmp_min (rk _ hl8)]
    refine ⟨nI_v hw (by omega), fun z => absurd (le32.mp z) (by rw [nI_i (by omega), nI_i (by omega)]; omega), fun _ => ⟨nI_v hw (by omega), nI_v (by omega) (by omega), nI_v hl8 (by omega), nI_v hl8 (by omega), fun μ1 e1 => ?_⟩⟩
    refine AA_weak (lv := [.ref 2, .int (nI w), .ref 45, .int (nI (j + 1)), un]) ⟨Or.inl rfl, Or.inl rfl, Or.inl rfl, Or.inl rfl, Or.inr ⟨rfl, rfl⟩, trivial⟩ (ih μ1 ⟨h1.trans (by rw [e1]; exact Only.w), ?_⟩)
    rw [spF_s hj, e1]
    exact h2.up
theorem Words_spend_u {d : Nat} {Q : QQ} {μ : Mem} {w : Nat} {v : Int32} {r : Nat → Int32} (hw : w < 10) (hv : okD v.toInt.toNat) (h6 : (letsF v).length ≤ 6) (h4 : μ.1 4 w = sizeF v) (hrw : rowIs (μ.1 (6 + w)) v) (hrow : rowM 1 r μ) (hok : rowOk r) (hQ : ∀ μ', Only [1] μ μ' → rowM 1 (spF (letsF v) r) μ' → Q .null μ') : Call (d + 1) y_Words_spend [.ref 2, .int (nI w), .ref 1] μ Q := by
  have cw : (nI w).toNatClampNeg = w := nI_c (by omega)
  have hlt := lets_lt hv
  have hsz : sizeF v = nI (letsF v).length := by rw [lets_len]; rfl
  refine b_Words_spend_u_0 ?_
  refine loopN (G := fun j s => AA (Call d) y_Words_spend Q 2 [.ref 2, .int (nI w), .ref 1, .int (nI j), un] [] s) (P := fun j s => Only [1] μ s ∧ rowM 1 (spF ((letsF v).take j) r) s) (N := (letsF v).length) ?_ ?_ 0 μ (by omega) ⟨Only.rf, hrow⟩
  · intro s ⟨h1, h2⟩
    rw [List.take_length] at h2
    refine b_Words_spend_u_2 ⟨nI_v hw (by omega), fun _ => hQ s h1 h2, fun z => absurd (by rw [cw, h1.i 4, h4, hsz]; exact Int32.le_refl _) z⟩
  · intro j s hj ⟨h1, h2⟩ ih
    have cj : (nI j).toNatClampNeg = j := nI_c (by omega)
    have hl8 : (letsF v).getD j 0 < 8 := hlt _ (getD_mem hj)
    have cl : (nI ((letsF v).getD j 0)).toNatClampNeg = (letsF v).getD j 0 := nI_c (by omega)
    have n6 : s.1 (6 + w) = μ.1 (6 + w) := h1.i (6 + w) (by simp; omega)
    have rk : rowOk (spF ((letsF v).take j) r) := spF_ok hok (fun l hl => hlt l (List.mem_of_mem_take hl))
    refine b_Words_spend_u_2 ?_
    rw [cw, cj, n6, row_let hrw hj, cl, h1.i 4, h4, hsz, ilen_row hw, nI_1, h2 _ hl8, bmp_min (rk _ hl8)]
    refine ⟨nI_v hw (by omega), fun z => absurd (le32.mp z) (by rw [nI_i (by omega), nI_i (by omega)]; omega), fun _ => ⟨nI_v hw (by omega), nI_v (by omega) (by omega), nI_v hl8 (by omega), nI_v hl8 (by omega), fun μ1 e1 => ?_⟩⟩
    refine AA_weak (lv := [.ref 2, .int (nI w), .ref 1, .int (nI (j + 1)), un]) ⟨Or.inl rfl, Or.inl rfl, Or.inl rfl, Or.inl rfl, Or.inr ⟨rfl, rfl⟩, trivial⟩ (ih μ1 ⟨h1.trans (by rw [e1]; exact Only.w), ?_⟩)
    rw [spF_s hj, e1]
    exact h2.up
theorem Day_costOf_ok {d : Nat} {Q : QQ} {μ : Mem} {e : DE} {tx : Nat → Nat → List Int32} {t w : Nat} {h : Int32} {r : Nat → Int32} (hi : isX e tx t μ) (hwf : wfE e) (hw : w < nwE e) (hrow : rowM 45 r μ) (hok : rowOk r) (hQ : ∀ μ', Only [42, 43] μ μ' → Q (.int (coF e r w h)) μ') : Call (d + 3) y_Day_costOf [.ref 44, .int (nI w), .int h] μ Q := by
  obtain ⟨w1, w2, w3, w4, w5, w6⟩ := hwf
  obtain ⟨v1, v2, v3⟩ := w2 w hw
  have h6 : (letsF (lsE e w)).length ≤ 6 := by rw [lets_len]; exact digs_le 6 _ (by omega)
  have hsz : sizeF (lsE e w) = nI (letsF (lsE e w)).length := by rw [lets_len]; rfl
  have cw : (nI w).toNatClampNeg = w := nI_c (by omega)
  refine b_Day_costOf_0 ?_
  refine loopN (G := fun j s => AA (Call (d + 2)) y_Day_costOf Q 4 [.ref 44, .int (nI w), .int h, .int s.1, .int (nI j), un] [] s.2) (P := fun j s => s.1 = csF (gF e h) ((letsF (lsE e w)).take j) r 0 ∧ Only [42, 43] μ s.2) (N := (letsF (lsE e w)).length) ?_ ?_ 0 ((0 : Int32), μ) (by omega) ⟨rfl, Only.rf⟩
  · intro ⟨v, s⟩ ⟨h1, h2⟩
    dsimp only at h1 h2 ⊢
    rw [List.take_length] at h1
    rw [h1]
    exact b_Day_costOf_4 ⟨nI_v (by omega) (by omega), fun _ => hQ s h2, fun z => absurd (by rw [cw, h2.i 4, (hi.2.1 w hw).2.1, hsz]; exact Int32.le_refl _) z⟩
  · intro j ⟨v, s⟩ hj ⟨h1, h2⟩ ih
    dsimp only at h1 h2 ih ⊢
    have is1 := hi.fr (by omega) h2 (by simp)
    have cj : (nI j).toNatClampNeg = j := nI_c (by omega)
    refine b_Day_costOf_4 ⟨nI_v (by omega) (by omega), fun z => absurd (le32.mp z) (by rw [cw, (is1.2.1 w hw).2.1, hsz, nI_i (by omega), nI_i (by omega)]; omega), fun _ => ?_⟩
    refine Words_usedAhead_ok (by omega) v3 h6 (is1.2.1 w hw).2.2 hj (r := r) (fun j hj => by rw [h2.i 45]; exact hrow j hj) hok ⟨_, rfl, ?_⟩
    refine Laws_price_ok (by exact is1.2.2.2.2.1) (by rw [is1.2.2.2.2.2.1]; exact w5) ⟨_, rfl, nI_v (by omega) (by omega), ?_⟩
    rw [cw, cj, ilen_row (by omega), is1.2.2.2.2.2.1, is1.2.2.2.2.2.2.1, row_let (is1.2.1 w hw).2.2 hj, nI_1]
    refine ⟨nI_v (by omega) (by omega), Texts_adds_ok (by exact is1.2.2.2.2.2.2.2.1) is1.2.2.2.2.2.2.2.2.1 (fun s2 o2 => ⟨_, rfl, ?_⟩)⟩
    refine AA_weak (lv := [.ref 44, .int (nI w), .int h, .int _, .int (nI (j + 1)), un]) ⟨Or.inl rfl, Or.inl rfl, Or.inl rfl, Or.inl rfl, Or.inl rfl, Or.inr ⟨rfl, rfl⟩, trivial⟩ (ih (_, s2) ⟨?_, h2.trans o2⟩)
    show _ = _
    rw [take_s hj, csF_app, ← h1, ← is1.2.2.2.2.2.2.2.2.2]
    rfl
end
section
/-! ===== a day in the class: turns and hours ===== -/
theorem goodF_cg {e : DE} {s s' : DS} {p : Nat} (h1 : s'.2.1 p = s.2.1 p) (h2 : s'.2.2 p = s.2.2 p) : goodF e s' p = goodF e s p := by
  unfold goodF
  rw [h1, h2]
theorem Day_takeTurn_ok {d : Nat} {Q : QQ} {μ : Mem} {e : DE} {tx : Nat → Nat → List Int32} {t p : Nat} {s : DS} (hi : isX e tx t μ) (hwf : wfE e) (hp : p < npE e) (hrow : rowM 45 s.1 μ) (hok : rowOk s.1) (hQ : ∀ μ', Only [42, 43, 45, 47, 48, 49] μ μ' → rowM 45 (turnF e p s).1 μ' → μ'.1 47 p = (turnF e p s).2.1 p → μ'.1 48 p = (turnF e p s).2.2 p → μ'.1 49 p = goodF e (turnF e p s) p → (∀ j, j ≠ p → μ'.1 47 j = μ.1 47 j ∧ μ'.1 48 j = μ.1 48 j ∧ μ'.1 49 j = μ.1 49 j) → Q .null μ') : Call (d + 4) y_Day_takeTurn [.ref 44, .int (nI p)] μ Q := by
  have hwf' := hwf
  obtain ⟨w1, w2, w3, w4, w5, w6⟩ := hwf'
  obtain ⟨⟨a1, a2⟩, a3, a4⟩ := w4 p hp
  have cp : (nI p).toNatClampNeg = p := nI_c (by omega)
  have vp : vp_in (nI p) 5 := nI_v (by omega) (by omega)
  have e1p : (puE e p + 1).toInt = (puE e p).toInt + 1 := add32 (by show _ ≤ _ + (1 : Int); omega) (by show _ + (1 : Int) < _; omega)
  refine b_Day_takeTurn_0 ⟨vp, vp, ?_⟩
  rw [cp, (hi.2.2.2.1 p hp).2.1, (hi.2.2.2.1 p hp).2.2]
  refine loopN (G := fun w ν => AA (Call (d + 3)) y_Day_takeTurn Q 19 [.ref 44, .int (nI p), .int (hoE e p), .int (puE e p), .int (pickF e s.1 p w).1, .int (if (pickF e s.1 p w).1 = -1 then puE e p + 1 else (pickF e s.1 p w).2), .int (nI w), un] [] ν) (P := fun w ν => Only [42, 43] μ ν) (N := nwE e) ?_ ?_ 0 μ (by omega) Only.rf
  · intro ν o
    have is1 := hi.fr w1 o (by simp)
    refine b_Day_takeTurn_19 ⟨fun _ => ⟨vp, fun μ1 e1 => ⟨vp, fun μ2 e2 => ⟨vp, fun μ3 e3 => ⟨fun z => ⟨vp, fun μ4 e4 => ?_⟩, fun z => ?_⟩⟩⟩⟩, fun z => absurd (by rw [is1.1]; exact Int32.le_refl _) z⟩
    · rw [cp] at e1 e2 e3 e4
      rcases pick_lt (e := e) (r := s.1) (p := p) (nwE e) with ⟨q1, _⟩ | ⟨w, q1, q2, q3, q4⟩
      · exact absurd q1 z
      · rw [if_neg z] at e4 ⊢
        have o4 : Only [47, 48, 49] ν μ4 := by
          rw [e4, e3, e2, e1]
          exact (((Only.w).trans Only.w).trans Only.w).trans Only.w
        have is4 := is1.fr w1 o4 (by simp)
        have cw : (nI w).toNatClampNeg = w := nI_c (by omega)
        rw [q2, cw, (is4.2.1 w q1).2.1, is4.2.2.1]
        refine ⟨nI_v (by omega) (by omega), Texts_worth_ok (by exact is4.2.2.2.2.2.2.2.1) is4.2.2.2.2.2.2.2.2.1 (fun μ5 o5 => ⟨_, rfl, vp, fun μ7 e7 => ?_⟩)⟩
        rw [cp] at e7
        have o7 : Only [42, 43, 47, 48, 49] μ4 μ7 := by rw [e7]; exact (o5.mono (by simp)).trans Only.w
        have is7 := is4.fr w1 o7 (by simp)
        have r7 : rowM 45 s.1 μ7 := fun j hj => by rw [o7.i 45, o4.i 45, o.i 45]; exact hrow j hj
        have h6 : (letsF (lsE e w)).length ≤ 6 := by rw [lets_len]; exact digs_le 6 _ (by have := (w2 w q1).1; have := (w2 w q1).2.1; omega)
        refine Words_spend_d (by omega) (w2 w q1).2.2 h6 (is7.2.1 w q1).2.1 (is7.2.1 w q1).2.2 r7 hok (fun μ8 o8 r8 => ?_)
        have h47 : μ8.1 47 p = (pickF e s.1 p (nwE e)).1 := by
          rw [o8.i 47, e7, wI_n (by decide), o5.i 47, e4, wI_n (by decide), e3, wI_n (by decide), e2, wI_n (by decide), e1, wI_s, upd_s]
        have h48 : μ8.1 48 p = (pickF e s.1 p (nwE e)).2 := by
          rw [o8.i 48, e7, wI_n (by decide), o5.i 48, e4, wI_s, upd_s]
        refine hQ μ8 ?_ ?_ ?_ ?_ ?_ ?_
        · exact (((o.mono (by simp)).trans (o4.mono (by simp))).trans (o7.mono (by simp))).trans (o8.mono (by simp))
        · unfold turnF
          show rowM 45 (if _ then _ else _) _
          rw [if_neg z, q2, cw]
          exact r8
        · rw [h47]
          unfold turnF
          exact upd_s.symm
        · rw [h48]
          unfold turnF
          exact upd_s.symm
        · have g1 : (turnF e p s).2.1 p = nI w := by unfold turnF; exact upd_s.trans q2
          have g2 : (turnF e p s).2.2 p = (pickF e s.1 p (nwE e)).2 := by unfold turnF; exact upd_s
          unfold goodF
          rw [g1, g2, if_neg (nI_ne (by omega)), cw, o8.i 49, e7, wI_s, upd_s, is4.2.2.2.2.2.2.2.2.2]
        · intro j hj
          rw [o8.i 47, o8.i 48, o8.i 49, e7, wI_n (by decide), wI_n (by decide), wI_s, upd_n hj, o5.i 47, o5.i 48, o5.i 49, e4, wI_n (by decide), wI_s, upd_n hj, wI_n (by decide), e3, wI_n (by decide), wI_n (by decide), wI_s, upd_n hj, e2, wI_n (by decide), wI_s, upd_n hj, wI_n (by decide), e1, wI_s, upd_n hj, wI_n (by decide), wI_n (by decide), o.i 47, o.i 48, o.i 49]
          exact ⟨rfl, rfl, rfl⟩
    · rw [cp] at e1 e2 e3
      rcases pick_lt (e := e) (r := s.1) (p := p) (nwE e) with ⟨q1, q2⟩ | ⟨w, q1, q2, q3, q4⟩
      · have o3 : Only [47, 48, 49] ν μ3 := by
          rw [e3, e2, e1]
          exact ((Only.w).trans Only.w).trans Only.w
        refine hQ μ3 ?_ ?_ ?_ ?_ ?_ ?_
        · exact (o.mono (by simp)).trans (o3.mono (by simp))
        · unfold turnF
          show rowM 45 (if _ then _ else _) _
          rw [if_pos z]
          exact fun j hj => by rw [o3.i 45, o.i 45]; exact hrow j hj
        · unfold turnF
          show _ = upd _ _ _ _
          rw [upd_s, e3, wI_n (by decide), e2, wI_n (by decide), e1, wI_s, upd_s]
        · unfold turnF
          show _ = upd _ _ _ _
          rw [upd_s, e3, wI_n (by decide), e2, wI_s, upd_s, q2]
        · have g1 : (turnF e p s).2.1 p = -1 := by unfold turnF; exact upd_s.trans q1
          unfold goodF
          rw [g1, if_pos rfl, e3, wI_s, upd_s]
        · intro j hj
          rw [e3, wI_n (by decide), wI_n (by decide), wI_s, upd_n hj, e2, wI_n (by decide), wI_s, upd_n hj, wI_n (by decide), e1, wI_s, upd_n hj, wI_n (by decide), wI_n (by decide), o.i 47, o.i 48, o.i 49]
          exact ⟨rfl, rfl, rfl⟩
      · exact absurd z (by rw [q2]; exact nI_ne (by omega))
  · intro w ν hw o ih
    have is1 := hi.fr w1 o (by simp)
    have cw : (nI w).toNatClampNeg = w := nI_c (by omega)
    refine b_Day_takeTurn_19 ⟨fun z => absurd (le32.mp z) (by rw [is1.1, nI_i (by omega), nI_i (by omega)]; omega), fun _ => ?_⟩
    rw [cw, cp, (is1.2.1 w hw).1, (is1.2.2.2.1 p hp).1, nI_1]
    refine ⟨nI_v (by omega) (by omega), vp, fun z => ?_, fun z => ?_⟩
    · refine Day_costOf_ok is1 hwf hw (r := s.1) (fun j hj => by rw [o.i 45]; exact hrow j hj) hok (fun ν2 o2 => ⟨_, rfl, ?_⟩)
      have is2 := is1.fr w1 o2 (by simp)
      have skip : (¬ (thE e w = waE e p ∧ coF e s.1 w (hoE e p) ≤ puE e p ∧ ((pickF e s.1 p w).1 = -1 ∨ ¬ (pickF e s.1 p w).2 ≤ coF e s.1 w (hoE e p)) ∧ mayF e p w)) → ∀ ν3, Only [42, 43] μ ν3 → AA (Call (d + 3)) y_Day_takeTurn Q 19 [.ref 44, .int (nI p), .int (hoE e p), .int (puE e p), .int (pickF e s.1 p w).1, .int (if (pickF e s.1 p w).1 = -1 then puE e p + 1 else (pickF e s.1 p w).2), .int (nI (w + 1)), .int (coF e s.1 w (hoE e p))] [] ν3 := by
        intro hno ν3 o3
        have g := ih ν3 o3
        rw [pick_n hno] at g
        refine AA_weak ?_ g; exact ⟨Or.inl rfl, Or.inl rfl, Or.inl rfl, Or.inl rfl, Or.inl rfl, Or.inl rfl, Or.inl rfl, Or.inr ⟨rfl, rfl⟩, trivial⟩
      refine ⟨fun y => skip (fun x => ?_) ν2 (o.trans o2), fun y => ⟨nI_v (by omega) (by omega), ?_⟩⟩
      · have y := le32.mp y
        have x1 := le32.mp x.2.1
        rcases pick_lt (e := e) (r := s.1) (p := p) w with ⟨q1, _⟩ | ⟨w', q1, q2, q3, q4⟩
        · rw [if_pos q1, e1p] at y
          omega
        · rw [if_neg (by rw [q2]; exact nI_ne (by omega))] at y
          rcases x.2.2.1 with x2 | x2
          · exact absurd x2 (by rw [q2]; exact nI_ne (by omega))
          · exact x2 (le32.mpr y)
      · have y := Int.not_le.mp (fun q => y (le32.mpr q))
        have c1 : coF e s.1 w (hoE e p) ≤ puE e p ∧ ((pickF e s.1 p w).1 = -1 ∨ ¬ (pickF e s.1 p w).2 ≤ coF e s.1 w (hoE e p)) := by
          rcases pick_lt (e := e) (r := s.1) (p := p) w with ⟨q1, _⟩ | ⟨w', q1, q2, q3, q4⟩
          · rw [if_pos q1, e1p] at y
            exact ⟨le32.mpr (by omega), Or.inl q1⟩
          · rw [if_neg (by rw [q2]; exact nI_ne (by omega))] at y
            have q4 := le32.mp q4
            exact ⟨le32.mpr (by omega), Or.inr (fun q => absurd (le32.mp q) (by omega))⟩
        rw [(is2.2.1 w hw).2.1, is2.2.2.1]
        refine Texts_may_ok (by exact is2.2.2.2.2.2.2.2.1) is2.2.2.2.2.2.2.2.2.1 (fun ν3 o3 => ⟨_, rfl, b_z (fun c => ?_) (fun c => ?_)⟩)
        · refine skip (fun x => c ?_) ν3 ((o.trans o2).trans o3)
          have := x.2.2.2
          unfold mayF at this
          rw [is2.2.2.2.2.2.2.2.2.2] at this
          exact this
        · have hm : mayF e p w := by
            unfold mayF
            rw [is2.2.2.2.2.2.2.2.2.2]
            exact c
          have g := ih ν3 ((o.trans o2).trans o3)
          rw [pick_y z c1.1 c1.2 hm, if_neg (nI_ne (w := w) (by omega))] at g
          refine AA_weak ?_ g; exact ⟨Or.inl rfl, Or.inl rfl, Or.inl rfl, Or.inl rfl, Or.inl rfl, Or.inl rfl, Or.inl rfl, Or.inr ⟨rfl, rfl⟩, trivial⟩
    · have g := ih ν o
      rw [pick_n (fun x => z x.1)] at g
      exact g
/-- the class's memory within a day -/
def dayX (e : DE) (μ : Mem) (h i : Nat) (s : DS) (ν : Mem) : Prop := Only [42, 43, 45, 47, 48, 49] μ ν ∧ rowM 45 s.1 ν ∧ ∀ p, p < npE e → past e h i p → ν.1 47 p = s.2.1 p ∧ ν.1 48 p = s.2.2 p ∧ ν.1 49 p = goodF e s p
theorem past_n {e : DE} {h p p' : Nat} (hz : ¬ hoE e p = nI h) (eh : (nI h).toInt = h) (hpa : past e h (p + 1) p') : past e h p p' := by
  rcases hpa with y | ⟨y1, y2⟩
  · exact Or.inl y
  · refine Or.inr ⟨y1, ?_⟩
    by_cases yy : p' = p
    · exact absurd (Int32.toInt_inj.mp (by rw [← yy, eh]; exact y1)) hz
    · omega
theorem Day_liveTo_ok {d : Nat} {Q : QQ} {μ : Mem} {e : DE} {tx : Nat → Nat → List Int32} {t : Nat} {r : Nat → Int32} {A : Int32} (hi : isX e tx t μ) (hwf : wfE e) (hrow : rowM 45 r μ) (hok : rowOk r) (hx : (∀ q, q < npE e → ¬ A = nI q) → ∀ μ', dayX e μ 24 0 (dayF e 24 (ds0 r)) μ' → Q .null μ') (hq : ∀ q, q < npE e → A = nI q → ∀ μ', dayX e μ (hoE e q).toInt.toNat q (hourF e (hoE e q).toInt.toNat q (dayF e (hoE e q).toInt.toNat (ds0 r))) μ' → Q .null μ') : Call (d + 5) y_Day_liveTo [.ref 44, .int A] μ Q := by
  have hwf' := hwf
  obtain ⟨w1, w2, w3, w4, w5, w6⟩ := hwf'
  have rok : ∀ h, rowOk (dayF e h (ds0 r)).1 := fun h => dayF_ok hwf hok h
  refine b_Day_liveTo_0 ?_
  refine loopN (G := fun h ν => AA (Call (d + 4)) y_Day_liveTo Q 2 [.ref 44, .int A, .int (nI h), un] [] ν) (P := fun h ν => dayX e μ h 0 (dayF e h (ds0 r)) ν ∧ ∀ q, q < npE e → A = nI q → ¬ past e h 0 q) (N := 24) ?_ ?_ 0 μ (by omega) ?_
  · intro ν ⟨h1, h2⟩
    refine b_Day_liveTo_2 ⟨fun _ => hx (fun q hq hA => h2 q hq hA (Or.inl ?_)) ν h1, fun c => absurd (by decide) c⟩
    have := (w4 q hq).1.2
    omega
  · intro h ν hh hP ih
    have eh := nI_i (n := h) (by omega)
    refine b_Day_liveTo_2 ⟨fun c => absurd (le32.mp c) (by rw [eh]; show ¬ (24 : Int) ≤ _; omega), fun _ => ?_⟩
    refine loopN (G := fun p ν => AA (Call (d + 4)) y_Day_liveTo Q 7 [.ref 44, .int A, .int (nI h), .int (nI p)] [] ν) (P := fun p ν => dayX e μ h p (hourF e h p (dayF e h (ds0 r))) ν ∧ ∀ q, q < npE e → A = nI q → ¬ past e h p q) (N := npE e) ?_ ?_ 0 ν (by omega) hP
    · intro ν ⟨⟨o1, rm, sp⟩, hA⟩
      have is1 := hi.fr w1 o1 (by simp)
      refine b_Day_liveTo_7 ⟨fun _ => ?_, fun z => absurd (by rw [is1.2.2.1]; exact Int32.le_refl _) z⟩
      refine Laws_age_d (by exact is1.2.2.2.2.1) (by rw [is1.2.2.2.2.2.1]; exact w5) rm (hourF_ok hwf (rok h) _) (fun ν2 o2 a2 => ?_)
      rw [nI_1]
      rw [is1.2.2.2.2.2.1, is1.2.2.2.2.2.2.1] at a2
      refine AA_weak (lv := [.ref 44, .int A, .int (nI (h + 1)), un]) ⟨Or.inl rfl, Or.inl rfl, Or.inl rfl, Or.inr ⟨rfl, rfl⟩, trivial⟩ (ih ν2 ⟨⟨o1.trans (o2.mono (by simp)), a2, fun p hp hpa => ?_⟩, fun q hq2 hA2 z => hA q hq2 hA2 ?_⟩)
      · rw [o2.i 47, o2.i 48, o2.i 49]
        have g := sp p hp (by unfold past at hpa ⊢; omega)
        rw [goodF_cg (s := hourF e h (npE e) (dayF e h (ds0 r)))]
        · exact g
        · rfl
        · rfl
      · unfold past at z ⊢; omega
    · intro p ν hp ⟨⟨o1, rm, sp⟩, hA⟩ ih2
      have is1 := hi.fr w1 o1 (by simp)
      have cp : (nI p).toNatClampNeg = p := nI_c (by omega)
      refine b_Day_liveTo_7 ⟨fun z => absurd (le32.mp z) (by rw [is1.2.2.1, nI_i (by omega), nI_i (by omega)]; omega), fun _ => ⟨nI_v (by omega) (by omega), ?_⟩⟩
      rw [cp, nI_1, (is1.2.2.2.1 p hp).2.1]
      refine ⟨fun z => ⟨fun y => ?_, fun y => ?_⟩, fun z => ih2 ν ⟨⟨o1, ?_, fun p' hp' hpa => ?_⟩, fun q hq2 hA2 y => hA q hq2 hA2 (past_n z eh y)⟩⟩
      · have hz : (hoE e p).toInt = h := by rw [z, eh]
        refine Day_takeTurn_ok is1 hwf hp rm (hourF_ok hwf (rok h) p) (fun ν2 o2 r2 g1 g2 g3 go => ih2 ν2 ⟨⟨o1.trans o2, ?_, fun p' hp' hpa => ?_⟩, fun q hq2 hA2 x => hA q hq2 hA2 ?_⟩)
        · unfold hourF; rw [if_pos z]; exact r2
        · unfold hourF
          rw [if_pos z]
          by_cases yy : p' = p
          · rw [yy]; exact ⟨g1, g2, g3⟩
          · obtain ⟨k1, k2, k3⟩ := go p' yy
            obtain ⟨m1, m2, m3⟩ := sp p' hp' (by unfold past at hpa ⊢; omega)
            rw [k1, k2, k3, m1, m2, m3]
            have u1 : (turnF e p (hourF e h p (dayF e h (ds0 r)))).2.1 p' = (hourF e h p (dayF e h (ds0 r))).2.1 p' := by unfold turnF; exact upd_n yy
            have u2 : (turnF e p (hourF e h p (dayF e h (ds0 r)))).2.2 p' = (hourF e h p (dayF e h (ds0 r))).2.2 p' := by unfold turnF; exact upd_n yy
            exact ⟨u1.symm, u2.symm, (goodF_cg u1 u2).symm⟩
        · have hne : q ≠ p := fun x => y (by rw [hA2, x])
          unfold past at x ⊢
          omega
      · have hz : (hoE e p).toInt = h := by rw [z, eh]
        refine hq p hp y.symm ν ?_
        rw [hz]
        exact ⟨o1, rm, sp⟩
      · unfold hourF; rw [if_neg z]; exact rm
      · unfold hourF
        rw [if_neg z]
        exact sp p' hp' (past_n z eh hpa)
  · have np0 : ∀ p, p < npE e → ¬ past e 0 0 p := by
      intro p hp z
      have := (w4 p hp).1.1
      rcases z with z | z <;> omega
    exact ⟨⟨Only.rf, hrow, fun p hp z => absurd z (np0 p hp)⟩, fun q hq _ => np0 q hq⟩
theorem past24 {e : DE} (hwf : wfE e) {p : Nat} (hp : p < npE e) : past e 24 0 p := Or.inl (by have := (hwf.2.2.2.1 p hp).1.2; omega)
theorem Day_live_ok {d : Nat} {Q : QQ} {μ : Mem} {e : DE} {tx : Nat → Nat → List Int32} {t : Nat} {r : Nat → Int32} (hi : isX e tx t μ) (hwf : wfE e) (hrow : rowM 45 r μ) (hok : rowOk r) (hQ : ∀ μ', dayX e μ 24 0 (dayF e 24 (ds0 r)) μ' → Q .null μ') : Call (d + 6) y_Day_live [.ref 44] μ Q := by
  have h5 := hwf.2.2.1
  exact b_Day_live_0 (Day_liveTo_ok hi hwf hrow hok (fun _ μ' h => hQ μ' h) (fun q hq z => absurd z.symm (nI_ne (by omega))))
/-! ===== dawn, and what a day gave ===== -/
theorem Day_dawn_ok {d : Nat} {Q : QQ} {μ : Mem} (hQ : ∀ μ', Only [44, 45, 46] μ μ' → (∀ j, j < 8 → μ'.1 45 j = μ.1 1 j) → (∀ j, j < 5 → μ'.1 46 j = μ.1 18 j) → μ'.1 44 = upd (μ.1 44) 7 (μ.1 20 3) → Q .null μ') : Call (d + 1) y_Day_dawn [.ref 44] μ Q := by
  refine b_Day_dawn_0 ⟨by decide, fun μ1 e1 => ⟨by decide, fun μ2 e2 μ3 e3 => hQ μ3 ?_ ?_ ?_ ?_⟩⟩
  · rw [e3, e2, e1]
    exact ((Only.w).trans Only.w).trans Only.w
  · intro j hj
    rw [e3, wI_n (by decide), e2, wI_n (by decide), e1, wI_s]
    unfold va_cpy
    rw [if_pos (by show 0 ≤ j ∧ j < 0 + 8; omega)]
    exact congrArg _ (by show 0 + (j - 0) = j; omega)
  · intro j hj
    rw [e3, wI_n (by decide), e2, wI_s, e1, wI_n (by decide)]
    unfold va_cpy
    rw [if_pos (by show 0 ≤ j ∧ j < 0 + 5; omega)]
    exact congrArg _ (by show 0 + (j - 0) = j; omega)
  · rw [e3, wI_s, e2, wI_n (by decide), e1, wI_n (by decide), wI_n (by decide), wI_n (by decide)]
theorem Day_allGood_ok {d : Nat} {Q : QQ} {μ : Mem} {n : Nat} {f : Nat → Int32} (hn : n ≤ 5) (h16 : μ.1 16 3 = nI n) (hf : ∀ p, p < n → μ.1 49 p = f p) (hQ : Q (.int (sum8 f n)) μ) : Call (d + 1) y_Day_allGood [.ref 44] μ Q := by
  refine b_Day_allGood_0 ?_
  refine loopN (G := fun i t => AA (Call d) y_Day_allGood Q 4 [.ref 44, .int t, .int (nI i)] [] μ) (P := fun i t => t = sum8 f i) (N := n) ?_ ?_ 0 (0 : Int32) (by omega) rfl
  · intro v h1
    rw [h1]
    exact b_Day_allGood_4 ⟨fun _ => hQ, fun z => absurd (by rw [h16]; exact Int32.le_refl _) z⟩
  · intro i v hi2 h1 ih
    refine b_Day_allGood_4 ⟨fun z => absurd (le32.mp z) (by rw [h16, nI_i (by omega), nI_i (by omega)]; omega), fun _ => ⟨nI_v (by omega) (by omega), ?_⟩⟩
    rw [nI_1, nI_c (by omega), hf i hi2]
    exact ih _ (by rw [h1]; rfl)
theorem Day_allPaid_ok {d : Nat} {Q : QQ} {μ : Mem} {n : Nat} {f : Nat → Int32} (hn : n ≤ 5) (h16 : μ.1 16 3 = nI n) (hf : ∀ p, p < n → μ.1 48 p = f p) (hQ : Q (.int (sum8 f n)) μ) : Call (d + 1) y_Day_allPaid [.ref 44] μ Q := by
  refine b_Day_allPaid_0 ?_
  refine loopN (G := fun i t => AA (Call d) y_Day_allPaid Q 4 [.ref 44, .int t, .int (nI i)] [] μ) (P := fun i t => t = sum8 f i) (N := n) ?_ ?_ 0 (0 : Int32) (by omega) rfl
  · intro v h1
    rw [h1]
    exact b_Day_allPaid_4 ⟨fun _ => hQ, fun z => absurd (by rw [h16]; exact Int32.le_refl _) z⟩
  · intro i v hi2 h1 ih
    refine b_Day_allPaid_4 ⟨fun z => absurd (le32.mp z) (by rw [h16, nI_i (by omega), nI_i (by omega)]; omega), fun _ => ⟨nI_v (by omega) (by omega), ?_⟩⟩
    rw [nI_1, nI_c (by omega), hf i hi2]
    exact ih _ (by rw [h1]; rfl)
theorem Day_howManySaid_ok {d : Nat} {Q : QQ} {μ : Mem} {n : Nat} {s : DS} (hn : n ≤ 5) (h16 : μ.1 16 3 = nI n) (hf : ∀ p, p < n → μ.1 47 p = s.2.1 p) (hQ : Q (.int (sayF s n)) μ) : Call (d + 1) y_Day_howManySaid [.ref 44] μ Q := by
  refine b_Day_howManySaid_0 ?_
  refine loopN (G := fun i t => AA (Call d) y_Day_howManySaid Q 4 [.ref 44, .int t, .int (nI i)] [] μ) (P := fun i t => t = sayF s i) (N := n) ?_ ?_ 0 (0 : Int32) (by omega) rfl
  · intro v h1
    rw [h1]
    exact b_Day_howManySaid_4 ⟨fun _ => hQ, fun z => absurd (by rw [h16]; exact Int32.le_refl _) z⟩
  · intro i v hi2 h1 ih
    refine b_Day_howManySaid_4 ⟨fun z => absurd (le32.mp z) (by rw [h16, nI_i (by omega), nI_i (by omega)]; omega), fun _ => ⟨nI_v (by omega) (by omega), ?_⟩⟩
    rw [nI_1, nI_c (by omega), hf i hi2]
    refine ⟨fun z => ih _ ?_, fun z => ih _ ?_⟩
    all_goals
      show _ = sayF s i + _
      first
        | rw [if_pos z, Int32.add_zero, h1]
        | rw [if_neg z, h1]
end
section
/-! ===== the reference: calls that think of days ===== -/
def frG (μ μ' : Mem) : Prop := Only [0, 12, 13, 14, 15, 16, 17, 18] μ μ' ∧ ∀ k, k < 19 ∨ 33 < k ∧ k ≤ 40 ∨ 47 < k → μ'.1 0 k = μ.1 0 k
theorem frG.rf {μ : Mem} : frG μ μ := ⟨Only.rf, fun _ _ => rfl⟩
theorem frG.trans {a b c : Mem} (h1 : frG a b) (h2 : frG b c) : frG a c := ⟨h1.1.trans h2.1, fun k hk => (h2.2 k hk).trans (h1.2 k hk)⟩
theorem frT.g {ks : List Nat} {a b : Mem} (h : frT ks a b) (hk : ∀ k ∈ ks, 14 ≤ k ∧ k ≤ 18 := by simp) : frG a b := ⟨h.1.mono (by intro k q; simp at q ⊢; rcases q with q | q | q | q <;> first | omega | (have := hk k q; omega)), fun k q => h.2 k (by omega)⟩
theorem frA.g {ks : List Nat} {a b : Mem} (h : frA ks a b) (hk : ∀ k ∈ ks, 14 ≤ k ∧ k ≤ 18 := by simp) : frG a b := h.t.g hk
theorem Only.g {ks : List Nat} {a b : Mem} (h : Only ks a b) (hk : ∀ k ∈ ks, 14 ≤ k ∧ k ≤ 18 := by simp) : frG a b := ⟨h.mono (by intro k q; have := hk k q; simp; omega), fun k _ => by rw [h.i 0 (fun z => absurd (hk 0 z) (by omega))]⟩
theorem frG.i {a b : Mem} (h : frG a b) (k : Nat) (hk : k ∉ [0, 12, 13, 14, 15, 16, 17, 18] := by decide) : b.1 k = a.1 k := h.1.i k hk
theorem isM.g {e : DE} {tx : Nat → Nat → List Int32} {t : Nat} {μ μ' : Mem} (h : isM e tx t μ) (f : frG μ μ') (hT : TxM tx μ') : isM e tx t μ' := h.cg (fun k q => f.2 k (Or.inl q)) (fun k q1 q2 => f.1.i k (by simp; omega)) hT
theorem isM.tx {e : DE} {tx : Nat → Nat → List Int32} {t : Nat} {μ : Mem} (h : isM e tx t μ) : TxM tx μ := h.2.2.2.2.2.2.2.2.1
/-- a day's end -/
noncomputable def dE (e : DE) (r : Nat → Int32) : DS := dayF e 24 (ds0 r)
noncomputable def gdA (e : DE) (r : Nat → Int32) : Int32 := sum8 (goodF e (dE e r)) (npE e)
theorem nw_r {e : DE} {tx : Nat → Nat → List Int32} {t : Nat} {μ : Mem} (h : isM e tx t μ) (hwf : wfE e) : rng (μ.1 0 10) 0 10 ∧ (μ.1 0 10).toInt = nwE e := by
  have := hwf.1
  rw [h.1]
  unfold rng
  rw [nI_i (by omega)]
  omega
theorem np_r {e : DE} {tx : Nat → Nat → List Int32} {t : Nat} {μ : Mem} (h : isM e tx t μ) (hwf : wfE e) : rng (μ.1 0 14) 0 5 ∧ (μ.1 0 14).toInt = npE e := by
  have := hwf.2.2.1
  rw [h.2.2.1]
  unfold rng
  rw [nI_i (by omega)]
  omega
theorem M_costs_ok {d : Nat} {Q : QQ} {μ : Mem} {e : DE} {tx : Nat → Nat → List Int32} {t : Nat} {a b : Int32} {r : Nat → Int32} (hi : isM e tx t μ) (hwf : wfE e) (hrow : rowM 4 r μ) (hok : rowOk r) (hb : ¬ (0 ≤ a.toInt ∧ a.toInt < nwE e ∧ 0 ≤ b.toInt ∧ b.toInt ≤ 23) → Q (.int (-2)) μ) (hg : 0 ≤ a.toInt ∧ a.toInt < nwE e ∧ 0 ≤ b.toInt ∧ b.toInt ≤ 23 → ∀ μ', frG μ μ' → TxM tx μ' → Q (.int (coF e r a.toNatClampNeg b)) μ') : Call (d + 64) y_M_costs [.ref 0, .int a, .int b] μ Q := by
  obtain ⟨n1, n2⟩ := nw_r hi hwf
  refine b_M_costs_0 (M_isWordNumber_ok n1 ⟨_, rfl, b_z (fun c1 => hb (by omega)) (fun c1 => ?_)⟩)
  refine M_in_ok (A := b.toInt) (B := 0) (C := 23) (lI _) rfl rfl ⟨_, rfl, b_nz (fun c2 => ?_) (fun c2 => hb (by omega))⟩
  obtain ⟨w, hw, rfl, ew⟩ := nI_ex (x := a) c1.1
  refine M_takes_ok (fun s o1 o2 => ?_)
  have t1 : TxM tx s := hi.tx.fr o1 (by simp)
  refine M_writes_ok (hi.g o1.g t1) hwf (by omega) c2 (r := r) (fun j hj => by rw [o2 j hj]; exact hrow j hj) hok (fun s2 f2 t2 _ => ⟨_, rfl, ?_⟩)
  have g := hg (by omega) s2 (Only.g o1 |>.trans f2.g) t2
  rw [nI_c hw] at g
  exact g
theorem M_write_ok {d : Nat} {Q : QQ} {μ : Mem} {e : DE} {tx : Nat → Nat → List Int32} {t : Nat} {a b : Int32} {r : Nat → Int32} (hi : isM e tx t μ) (hwf : wfE e) (hrow : rowM 4 r μ) (hok : rowOk r) (hb : ¬ (0 ≤ a.toInt ∧ a.toInt < nwE e ∧ 0 ≤ b.toInt ∧ b.toInt ≤ 23) → Q (.int (-2)) μ) (hg : 0 ≤ a.toInt ∧ a.toInt < nwE e ∧ 0 ≤ b.toInt ∧ b.toInt ≤ 23 → ∀ μ1 μ', frG μ μ1 → TxM tx μ1 → Only [4] μ1 μ' → rowM 4 (spF (letsF (lsE e a.toNatClampNeg)) r) μ' → Q (.int (coF e r a.toNatClampNeg b)) μ') : Call (d + 64) y_M_write [.ref 0, .int a, .int b] μ Q := by
  obtain ⟨n1, n2⟩ := nw_r hi hwf
  refine b_M_write_0 (M_isWordNumber_ok n1 ⟨_, rfl, b_z (fun c1 => hb (by omega)) (fun c1 => ?_)⟩)
  refine M_in_ok (A := b.toInt) (B := 0) (C := 23) (lI _) rfl rfl ⟨_, rfl, b_nz (fun c2 => ?_) (fun c2 => hb (by omega))⟩
  obtain ⟨w, hw, rfl, ew⟩ := nI_ex (x := a) c1.1
  refine M_takes_ok (fun s o1 o2 => ?_)
  have t1 : TxM tx s := hi.tx.fr o1 (by simp)
  refine M_writes_ok (hi.g o1.g t1) hwf (by omega) c2 (r := r) (fun j hj => by rw [o2 j hj]; exact hrow j hj) hok (fun s2 f2 t2 r2 => ⟨_, rfl, M_keeps_ok (fun s3 o3 o4 => ?_)⟩)
  have g := hg (by omega) s2 s3 (o1.g.trans f2.g) t2 o3
  rw [nI_c hw] at g
  exact g (fun j hj => by rw [o4 j hj]; exact r2 j hj)
def agesF (e : DE) : Nat → (Nat → Int32) → (Nat → Int32)
  | 0, r => r
  | n + 1, r => ageR e (agesF e n r)
theorem agesF_ok {e : DE} (hwf : wfE e) {r : Nat → Int32} (h : rowOk r) : ∀ n, rowOk (agesF e n r)
  | 0 => h
  | n + 1 => ageR_ok hwf (agesF_ok hwf h n)
theorem sum8_cg {f g : Nat → Int32} {n : Nat} (h : ∀ j, j < n → f j = g j) : sum8 f n = sum8 g n := by
  induction n with
  | zero => rfl
  | succ n ih => simp only [sum8]; rw [ih (fun j hj => h j (by omega)), h n (by omega)]
theorem M_pass_ok {d : Nat} {Q : QQ} {μ : Mem} {e : DE} {tx : Nat → Nat → List Int32} {t : Nat} {a : Int32} {r : Nat → Int32} (hi : isM e tx t μ) (hrow : rowM 4 r μ) (hb : ¬ (0 ≤ a.toInt ∧ a.toInt ≤ 24) → Q (.int (-2)) μ) (hg : 0 ≤ a.toInt ∧ a.toInt ≤ 24 → ∀ μ1 μ', Only [14] μ μ1 → Only [4] μ1 μ' → rowM 4 (agesF e a.toNatClampNeg r) μ' → Q (.int (sum8 (agesF e a.toNatClampNeg r) 8)) μ') : Call (d + 4) y_M_pass [.ref 0, .int a] μ Q := by
  refine b_M_pass_0 (M_in_ok (A := a.toInt) (B := 0) (C := 24) (lI _) rfl rfl ⟨_, rfl, b_nz (fun c => ?_) (fun c => hb c)⟩)
  obtain ⟨n, hn, rfl, en⟩ := nI_ex (x := a) c.1
  have g := hg c
  rw [nI_c hn] at g
  refine M_takes_ok (fun s o1 o2 => ?_)
  refine loopN (G := fun i s => AA (Call (d + 3)) y_M_pass Q 12 [.ref 0, .int (nI n), .int (nI i)] [] s) (P := fun i s => Only [14] μ s ∧ rowM 14 (agesF e i r) s) (N := n) ?_ ?_ 0 s (by omega) ⟨o1, fun j hj => by rw [o2 j hj]; exact hrow j hj⟩
  · intro s ⟨h1, h2⟩
    refine b_M_pass_12 ⟨fun _ => M_keeps_ok (fun s2 o3 o4 => M_rowSum_ok ⟨_, rfl, ?_⟩), fun z => absurd (Int32.le_refl _) z⟩
    refine Qi (g s s2 h1 o3 (fun j hj => by rw [o4 j hj]; exact h2 j hj)) (sum8_cg (fun j hj => ?_))
    rw [o3.i 14]
    exact h2 j hj
  · intro i s hin ⟨h1, h2⟩ ih
    have is1 : isM e tx t s := hi.g h1.g (hi.tx.fr h1 (by simp))
    refine b_M_pass_12 ⟨fun z => absurd (le32.mp z) (by rw [nI_i hn, nI_i (by omega)]; omega), fun _ => M_ages_ok (by exact is1.2.2.2.2.1) (fun s2 o3 o4 => ?_)⟩
    rw [nI_1]
    refine ih s2 ⟨h1.trans o3, fun j hj => ?_⟩
    rw [o4 j hj, is1.2.2.2.2.2.1, is1.2.2.2.2.2.2.1, h2 j hj]
    rfl
noncomputable def cheapF (e : DE) (r : Nat → Int32) (th h : Int32) : Nat → Int32 × Int32
  | 0 => (-1, 0)
  | w + 1 => @ite _ (thE e w = th ∧ ((cheapF e r th h w).1 = -1 ∨ ¬ (cheapF e r th h w).2 ≤ coF e r w h)) (Classical.propDecidable _) (nI w, coF e r w h) (cheapF e r th h w)
theorem cheap_y {e : DE} {r : Nat → Int32} {th h : Int32} {w : Nat} (h1 : thE e w = th) (h2 : (cheapF e r th h w).1 = -1 ∨ ¬ (cheapF e r th h w).2 ≤ coF e r w h) : cheapF e r th h (w + 1) = (nI w, coF e r w h) := if_pos ⟨h1, h2⟩
theorem cheap_n {e : DE} {r : Nat → Int32} {th h : Int32} {w : Nat} (h1 : ¬ (thE e w = th ∧ ((cheapF e r th h w).1 = -1 ∨ ¬ (cheapF e r th h w).2 ≤ coF e r w h))) : cheapF e r th h (w + 1) = cheapF e r th h w := if_neg h1
theorem M_cheapest_ok {d : Nat} {Q : QQ} {μ : Mem} {e : DE} {tx : Nat → Nat → List Int32} {t : Nat} {a b c : Int32} {r : Nat → Int32} (hi : isM e tx t μ) (hwf : wfE e) (hrow : rowM 4 r μ) (hok : rowOk r) (hb : ¬ (0 ≤ a.toInt ∧ a.toInt ≤ 3 ∧ 0 ≤ b.toInt ∧ b.toInt ≤ 23 ∧ 0 ≤ c.toInt ∧ c.toInt ≤ 1) → Q (.int (-2)) μ) (hg : 0 ≤ a.toInt ∧ a.toInt ≤ 3 ∧ 0 ≤ b.toInt ∧ b.toInt ≤ 23 ∧ 0 ≤ c.toInt ∧ c.toInt ≤ 1 → ∀ μ', frG μ μ' → TxM tx μ' → Q (.int (if (cheapF e r a b (nwE e)).1 = -1 then -1 else if c = 0 then (cheapF e r a b (nwE e)).1 else (cheapF e r a b (nwE e)).2)) μ') : Call (d + 65) y_M_cheapest [.ref 0, .int a, .int b, .int c] μ Q := by
  have h10 := hwf.1
  refine b_M_cheapest_0 (M_in_ok (A := a.toInt) (B := 0) (C := 3) (lI _) rfl rfl ⟨_, rfl, b_z (fun c1 => hb (by omega)) (fun c1 => ?_)⟩)
  refine M_in_ok (A := b.toInt) (B := 0) (C := 23) (lI _) rfl rfl ⟨_, rfl, b_z (fun c2 => hb (by omega)) (fun c2 => ?_)⟩
  refine M_in_ok (A := c.toInt) (B := 0) (C := 1) (lI _) rfl rfl ⟨_, rfl, b_nz (fun c3 => ?_) (fun c3 => hb (by omega))⟩
  have g := hg (by omega)
  refine M_takes_ok (fun s o1 o2 => ?_)
  refine loopN (G := fun w s => AA (Call (d + 64)) y_M_cheapest Q 28 [.ref 0, .int a, .int b, .int c, .int (cheapF e r a b w).1, .int (cheapF e r a b w).2, .int (nI w), un] [] s) (P := fun w s => frG μ s ∧ TxM tx s ∧ rowM 14 r s) (N := nwE e) ?_ ?_ 0 s (by omega) ⟨o1.g, hi.tx.fr o1 (by simp), fun j hj => by rw [o2 j hj]; exact hrow j hj⟩
  · intro s ⟨f1, t1, rm⟩
    have is1 := hi.g f1 t1
    have g := g s f1 t1
    refine b_M_cheapest_28 ⟨fun _ => ⟨fun z => ?_, fun z => ⟨fun z2 => ?_, fun z2 => ?_⟩⟩, fun z => absurd (by rw [is1.1]; exact Int32.le_refl _) z⟩
    · rw [if_pos z] at g; rw [z]; exact g
    · rw [if_neg z, if_neg z2] at g; exact g
    · rw [if_neg z, if_pos z2] at g; exact g
  · intro w s hw ⟨f1, t1, rm⟩ ih
    have is1 := hi.g f1 t1
    have cw : (nI w).toNatClampNeg = w := nI_c (by omega)
    refine b_M_cheapest_28 ⟨fun z => absurd (le32.mp z) (by rw [is1.1, nI_i (by omega), nI_i (by omega)]; omega), fun _ => ?_⟩
    rw [cw, (is1.2.1 w hw).1, nI_1]
    refine ⟨nI_v (by omega) (by omega), fun z => ?_, fun z => ?_⟩
    · have g := ih s ⟨f1, t1, rm⟩
      rw [cheap_n (fun x => z x.1)] at g
      exact g
    · refine M_costOf_ok is1 hwf hw c2 rm hok (fun s2 f2 t2 rm2 => ⟨_, rfl, ?_⟩)
      have g := ih s2 ⟨f1.trans f2.g, t2, rm2⟩
      refine ⟨fun z2 => ?_, fun z2 => ⟨fun z3 => ?_, fun z3 => ?_⟩⟩
      · rw [cheap_y z (Or.inl z2)] at g
        refine AA_weak ?_ g
        exact ⟨Or.inl rfl, Or.inl rfl, Or.inl rfl, Or.inl rfl, Or.inl rfl, Or.inl rfl, Or.inl rfl, Or.inr ⟨rfl, rfl⟩, trivial⟩
      · rw [cheap_n (fun x => x.2.elim z2 (fun y => y z3))] at g
        refine AA_weak ?_ g
        exact ⟨Or.inl rfl, Or.inl rfl, Or.inl rfl, Or.inl rfl, Or.inl rfl, Or.inl rfl, Or.inl rfl, Or.inr ⟨rfl, rfl⟩, trivial⟩
      · rw [cheap_y z (Or.inr z3)] at g
        refine AA_weak ?_ g
        exact ⟨Or.inl rfl, Or.inl rfl, Or.inl rfl, Or.inl rfl, Or.inl rfl, Or.inl rfl, Or.inl rfl, Or.inr ⟨rfl, rfl⟩, trivial⟩
theorem M_day_ok {d : Nat} {Q : QQ} {μ : Mem} {e : DE} {tx : Nat → Nat → List Int32} {t : Nat} {a b : Int32} {r : Nat → Int32} (hi : isM e tx t μ) (hwf : wfE e) (hrow : rowM 4 r μ) (hok : rowOk r) (hb : ¬ (0 ≤ a.toInt ∧ a.toInt < npE e ∧ 0 ≤ b.toInt ∧ b.toInt ≤ 2) → Q (.int (-100000)) μ) (hg : 0 ≤ a.toInt ∧ a.toInt < npE e ∧ 0 ≤ b.toInt ∧ b.toInt ≤ 2 → ∀ μ', frG μ μ' → TxM tx μ' → Q (.int (if b = 0 then (dE e r).2.2 a.toNatClampNeg else if b = 1 then (dE e r).2.1 a.toNatClampNeg else goodF e (dE e r) a.toNatClampNeg)) μ') : Call (d + 68) y_M_day [.ref 0, .int a, .int b] μ Q := by
  have h5 := hwf.2.2.1
  obtain ⟨n1, n2⟩ := np_r hi hwf
  refine b_M_day_0 (M_isWriter_ok n1 ⟨_, rfl, b_z (fun c1 => hb (by omega)) (fun c1 => ?_)⟩)
  refine M_in_ok (A := b.toInt) (B := 0) (C := 2) (lI _) rfl rfl ⟨_, rfl, b_nz (fun c2 => ?_) (fun c2 => hb (by omega))⟩
  have g := hg (by omega)
  obtain ⟨p, hp, rfl, ep⟩ := nI_ex (x := a) c1.1
  rw [nI_c hp] at g
  have hpn : p < npE e := by omega
  have vp : vp_in (nI p) 5 := nI_v (by omega) (by omega)
  refine M_dayNow_ok hi hwf hrow hok (fun s f1 t1 rm sp _ => ?_)
  have g := g s f1.g t1
  rw [nI_c hp]
  refine ⟨fun z => ⟨fun z2 => ?_, fun z2 => ⟨vp, ?_⟩⟩, fun z => ⟨vp, ?_⟩⟩
  · refine M_goodOf_ok (s := dE e r) (hi.g f1.g t1) hwf hpn (dayF_said 24) (sp p hpn).1 (sp p hpn).2 (fun s2 f2 t2 => ⟨_, rfl, ?_⟩)
    have g := hg (by omega) s2 (f1.g.trans f2.g) t2
    rw [if_neg z, if_neg z2, nI_c hp] at g
    exact g
  · rw [if_neg z, if_pos z2] at g
    rw [(sp p hpn).1]
    exact g
  · rw [if_pos z] at g
    rw [(sp p hpn).2]
    exact g
def mxF (r : Nat → Int32) : Nat → Int32
  | 0 => r 0
  | n + 1 => if r n ≤ mxF r n then mxF r n else r n
def mnF (r : Nat → Int32) : Nat → Int32
  | 0 => r 0
  | n + 1 => if mnF r n ≤ r n then mnF r n else r n
theorem M_all_ok {d : Nat} {Q : QQ} {μ : Mem} {e : DE} {tx : Nat → Nat → List Int32} {t : Nat} {a : Int32} {r : Nat → Int32} (hi : isM e tx t μ) (hwf : wfE e) (hrow : rowM 4 r μ) (hok : rowOk r) (hb : ¬ (0 ≤ a.toInt ∧ a.toInt ≤ 3) → Q (.int (-100000)) μ) (hg : 0 ≤ a.toInt ∧ a.toInt ≤ 3 → ∀ μ', frG μ μ' → TxM tx μ' → Q (.int (if a.toInt = 0 then gdA e r else if a.toInt = 1 then sayF (dE e r) (npE e) else if a.toInt = 2 then mxF (dE e r).1 8 - mnF (dE e r).1 8 else sum8 (dE e r).2.2 (npE e))) μ') : Call (d + 68) y_M_all [.ref 0, .int a] μ Q := by
  have h5 := hwf.2.2.1
  refine b_M_all_0 (M_in_ok (A := a.toInt) (B := 0) (C := 3) (lI _) rfl rfl ⟨_, rfl, b_nz (fun c1 => ?_) (fun c1 => hb c1)⟩)
  refine M_dayNow_ok hi hwf hrow hok (fun s f1 t1 rm sp _ => ?_)
  have is1 := hi.g f1.g t1
  have e2 : (2 : Int32).toInt = 2 := rfl
  have e3 : (3 : Int32).toInt = 3 := rfl
  have e0 : (0 : Int32).toInt = 0 := rfl
  refine ⟨fun z => ⟨fun z2 => ⟨vin_of (by decide) (by decide), vin_of (by decide) (by decide), ?_⟩, fun z2 => ?_⟩, fun z => ⟨fun z2 => ?_, fun z2 => ?_⟩⟩
  · have z := le32.mp z
    have z2 : ¬ a.toInt = 3 := fun q => z2 (eq32.mpr q)
    have g := hg c1 s f1.g t1
    rw [if_neg (by omega), if_neg (by omega), if_pos (by omega)] at g
    have e0' : s.1 14 (Int32.toNatClampNeg 0) = (dE e r).1 0 := rm 0 (by omega)
    rw [e0']
    have q := loopN (G := fun i v => AA (Call (d + 67)) y_M_all Q 55 [.ref 0, .int a, .int (mxF (dE e r).1 i), .int (mnF (dE e r).1 i), .int (nI i)] [] s) (P := fun i (v : Unit) => True) (N := 8) ?_ ?_ 1 () (by omega) trivial
    · have q1 : mxF (dE e r).1 1 = (dE e r).1 0 := by show (if _ then _ else _) = _; split <;> rfl
      have q2 : mnF (dE e r).1 1 = (dE e r).1 0 := by show (if _ then _ else _) = _; split <;> rfl
      rw [q1, q2] at q
      exact q
    · intro v _
      exact b_M_all_55 ⟨fun _ => g, fun c => absurd (by decide) c⟩
    · intro i v hi8 _ ih
      have ih := ih () trivial
      refine b_M_all_55 ⟨fun c => absurd (le32.mp c) (by rw [nI_i (by omega)]; show ¬ (8 : Int) ≤ _; omega), fun _ => ⟨nI_v hi8 (by omega), ?_⟩⟩
      rw [nI_c (by omega), nI_1, rm i hi8]
      have vi : vp_in (nI i) 8 := nI_v hi8 (by omega)
      simp only [mxF, mnF] at ih
      refine ⟨fun y => ⟨vi, fun y2 => ?_, fun y2 => ⟨vi, ?_⟩⟩, fun y => ⟨vi, vi, fun y2 => ?_, fun y2 => ⟨vi, ?_⟩⟩⟩
      · rw [if_pos (show (dE e r).1 i ≤ mxF (dE e r).1 i from y), if_pos (show mnF (dE e r).1 i ≤ (dE e r).1 i from y2)] at ih; exact ih
      · rw [if_pos (show (dE e r).1 i ≤ mxF (dE e r).1 i from y), if_neg (show ¬ mnF (dE e r).1 i ≤ (dE e r).1 i from y2)] at ih; exact ih
      · rw [if_neg (show ¬ (dE e r).1 i ≤ mxF (dE e r).1 i from y), if_pos (show mnF (dE e r).1 i ≤ (dE e r).1 i from y2)] at ih; exact ih
      · rw [if_neg (show ¬ (dE e r).1 i ≤ mxF (dE e r).1 i from y), if_neg (show ¬ mnF (dE e r).1 i ≤ (dE e r).1 i from y2)] at ih; exact ih
  · have z2 : a.toInt = 3 := by rw [z2]; rfl
    have g := hg c1 s f1.g t1
    rw [if_neg (by omega), if_neg (by omega), if_neg (by omega)] at g
    refine loopN (G := fun i v => AA (Call (d + 67)) y_M_all Q 28 [.ref 0, .int a, .int v, .int (nI i), un] [] s) (P := fun i v => v = sum8 (dE e r).2.2 i) (N := npE e) ?_ ?_ 0 0 (by omega) rfl
    · intro v hv
      rw [hv]
      exact b_M_all_28 ⟨fun _ => g, fun z => absurd (by rw [is1.2.2.1]; exact Int32.le_refl _) z⟩
    · intro i v hin hv ih
      refine b_M_all_28 ⟨fun z => absurd (le32.mp z) (by rw [is1.2.2.1, nI_i (by omega), nI_i (by omega)]; omega), fun _ => ⟨nI_v (by omega) (by omega), ?_⟩⟩
      rw [nI_c (by omega), nI_1, (sp i hin).2]
      exact ih _ (by rw [hv]; rfl)
  · have z : ¬ 2 ≤ a.toInt := fun q => z (le32.mpr q)
    have z2 : ¬ a.toInt = 0 := fun q => z2 (eq32.mpr q)
    have g := hg c1 s f1.g t1
    rw [if_neg (by omega), if_pos (by omega)] at g
    exact M_saying_ok h5 is1.2.2.1 (fun p hp => (sp p hp).1) ⟨_, rfl, g⟩
  · have z2 : a.toInt = 0 := by rw [z2]; rfl
    refine M_allGood_ok (s := dE e r) is1 hwf (dayF_said 24) sp (fun s2 f2 t2 => ⟨_, rfl, ?_⟩)
    have g := hg c1 s2 (f1.g.trans f2.g) t2
    rw [if_pos z2] at g
    exact g
end
section
/-! ===== the reference: hours sought, letters burned ===== -/
def setH (e : DE) (f : Nat → Int32) : DE := (e.1, (e.2.1.1, e.2.1.2.1, f, e.2.1.2.2.2), e.2.2)
def setL (e : DE) (k n : Int32) : DE := (e.1, e.2.1, (k, n), e.2.2.2)
theorem setH_id {e : DE} : setH e (hoE e) = e := rfl
theorem wf_setH {e : DE} {f : Nat → Int32} (h : wfE e) (hf : ∀ p, p < npE e → rng (f p) 0 23) : wfE (setH e f) := ⟨h.1, h.2.1, h.2.2.1, fun p hp => ⟨hf p hp, (h.2.2.2.1 p hp).2⟩, h.2.2.2.2⟩
theorem wf_setL {e : DE} {k n : Int32} (h : wfE e) (hk : rng k 0 5) (hn : rng n 0 9) : wfE (setL e k n) := ⟨h.1, h.2.1, h.2.2.1, h.2.2.2.1, hk, hn⟩
theorem upd_id {f : Nat → Int32} {p : Nat} : upd f p (f p) = f := by
  funext j
  by_cases h : j = p
  · rw [h, upd_s]
  · rw [upd_n h]
/-- as isM, hours apart -/
theorem isM.sh {e : DE} {tx : Nat → Nat → List Int32} {t : Nat} {μ μ' : Mem} {f : Nat → Int32} (h : isM e tx t μ) (hf : ∀ k, k < 19 → μ'.1 0 k = μ.1 0 k) (hc : ∀ k, 5 ≤ k → k < 12 → k ≠ 8 → μ'.1 k = μ.1 k) (h8 : ∀ p, p < npE e → μ'.1 8 p = f p) (hT : TxM tx μ') : isM (setH e f) tx t μ' := by
  obtain ⟨h1, h2, h3, h4, h5, h6, h7, h8', h9, h10⟩ := h
  unfold isM mK mN rulM
  rw [hf 10 (by omega), hf 14 (by omega), hf 18 (by omega), hf 3 (by omega), hf 4 (by omega), hc 5 (by omega) (by omega) (by omega), hc 6 (by omega) (by omega) (by omega), hc 7 (by omega) (by omega) (by omega), hc 9 (by omega) (by omega) (by omega), hc 10 (by omega) (by omega) (by omega), hc 11 (by omega) (by omega) (by omega)]
  exact ⟨h1, h2, h3, fun p hp => ⟨(h4 p hp).1, h8 p hp, (h4 p hp).2.2⟩, h5, h6, h7, h8', hT, h10⟩
def fmF (g : Nat → Int32) : Nat → Nat
  | 0 => 0
  | n + 1 => if g n ≤ g (fmF g n) then fmF g n else n
theorem fmF_lt {g : Nat → Int32} : ∀ n, fmF g n < n ∨ n = 0
  | 0 => Or.inr rfl
  | n + 1 => by
    unfold fmF
    split
    · rcases fmF_lt (g := g) n with q | q
      · exact Or.inl (by omega)
      · subst q; exact Or.inl (by show 0 < 1; omega)
    · exact Or.inl (by omega)
/-- what a writer's good would be, written at an hour -/
noncomputable def ghF (e : DE) (r : Nat → Int32) (p h : Nat) : Int32 := goodF (setH e (upd (hoE e) p (nI h))) (dE (setH e (upd (hoE e) p (nI h))) r) p
theorem M_seeks_ok {d : Nat} {Q : QQ} {μ : Mem} {e : DE} {tx : Nat → Nat → List Int32} {t p : Nat} {r : Nat → Int32} (hi : isM e tx t μ) (hwf : wfE e) (hp : p < npE e) (hrow : rowM 4 r μ) (hok : rowOk r) (hQ : ∀ μ', frG μ μ' → TxM tx μ' → μ'.1 0 43 = nI (fmF (ghF e r p) 24) → μ'.1 0 44 = ghF e r p (fmF (ghF e r p) 24) → Q .null μ') : Call (d + 68) y_M_seeks [.ref 0, .int (nI p)] μ Q := by
  have h5 := hwf.2.2.1
  have cp : (nI p).toNatClampNeg = p := nI_c (by omega)
  have vp : vp_in (nI p) 5 := nI_v (by omega) (by omega)
  refine b_M_seeks_0 ⟨vp, ?_⟩
  rw [cp]
  refine loopN (G := fun h s => AA (Call (d + 67)) y_M_seeks Q 7 [.ref 0, .int (nI p), .int (μ.1 8 p), .int (nI h), un] [] s) (P := fun h s => Only [0, 8, 12, 13, 14, 15, 16, 17, 18] μ s ∧ (∀ k, k < 19 ∨ 33 < k ∧ k ≤ 40 ∨ 47 < k → s.1 0 k = μ.1 0 k) ∧ (s.2 8 = μ.2 8 ∧ ∀ j, j ≠ p → s.1 8 j = μ.1 8 j) ∧ TxM tx s ∧ (0 < h → s.1 0 43 = nI (fmF (ghF e r p) h) ∧ s.1 0 44 = ghF e r p (fmF (ghF e r p) h))) (N := 24) ?_ ?_ 0 μ (by omega) ⟨Only.rf, fun _ _ => rfl, ⟨rfl, fun _ _ => rfl⟩, hi.tx, fun z => absurd z (by omega)⟩
  · intro s ⟨o, f, ⟨hl8, h8⟩, t1, hb⟩
    refine b_M_seeks_7 ⟨fun _ => ⟨vp, fun μ1 e1 => ?_⟩, fun c => absurd (by decide) c⟩
    rw [cp] at e1
    have k0 : μ1.1 0 = s.1 0 := by rw [e1, wI_n (by decide)]
    refine hQ μ1 ⟨fun k hk => ?_, fun k hk => ?_⟩ ?_ ?_ ?_
    · rw [e1]
      by_cases q : k = 8
      · subst q
        refine ⟨?_, by rw [wI_2]; exact hl8⟩
        rw [wI_s]
        funext j
        by_cases y : j = p
        · rw [y, upd_s]
        · rw [upd_n y]; exact h8 j y
      · rw [wI_n q, wI_2]
        exact o k (by simp at hk ⊢; omega)
    · rw [k0]; exact f k hk
    · exact t1.cong (by rw [k0]) (by rw [e1, wI_n (by decide)]) (by rw [e1, wI_n (by decide)]) (by rw [e1, wI_n (by decide)]) (by rw [e1, wI_2])
    · rw [k0]; exact (hb (by omega)).1
    · rw [k0]; exact (hb (by omega)).2
  · intro h s hh ⟨o, f, ⟨hl8, h8⟩, t1, hb⟩ ih
    have eh := nI_i (n := h) (by omega)
    refine b_M_seeks_7 ⟨fun c => absurd (le32.mp c) (by rw [eh]; show ¬ (24 : Int) ≤ _; omega), fun _ => ⟨vp, fun μ2 e2 => ?_⟩⟩
    rw [cp] at e2
    rw [nI_1]
    have k0 : μ2.1 0 = s.1 0 := by rw [e2, wI_n (by decide)]
    have t2 : TxM tx μ2 := t1.cong (by rw [k0]) (by rw [e2, wI_n (by decide)]) (by rw [e2, wI_n (by decide)]) (by rw [e2, wI_n (by decide)]) (by rw [e2, wI_2])
    have h82 : ∀ q, q < npE e → μ2.1 8 q = upd (hoE e) p (nI h) q := by
      intro q hq
      rw [e2, wI_s]
      by_cases y : q = p
      · rw [y, upd_s, upd_s]
      · rw [upd_n y, upd_n y, h8 q y]
        exact (hi.2.2.2.1 q hq).2.1
    have is2 : isM (setH e (upd (hoE e) p (nI h))) tx t μ2 := hi.sh (fun k hk => by rw [k0]; exact f k (by omega)) (fun k q1 q2 q3 => by rw [e2, wI_n q3]; exact o.i k (by simp; omega)) h82 t2
    have wf2 : wfE (setH e (upd (hoE e) p (nI h))) := wf_setH hwf (fun q hq => by
      by_cases y : q = p
      · rw [y, upd_s]; exact ⟨by omega, by omega⟩
      · rw [upd_n y]; exact (hwf.2.2.2.1 q hq).1)
    refine M_dayNow_ok is2 wf2 (r := r) (fun j hj => by rw [e2, wI_n (by decide), o.i 4]; exact hrow j hj) hok (fun μ3 f3 t3 rm3 sp3 _ => ?_)
    refine M_goodOf_ok (s := dE (setH e (upd (hoE e) p (nI h))) r) (is2.g f3.g t3) wf2 hp (dayF_said 24) (sp3 p hp).1 (sp3 p hp).2 (fun μ4 f4 t4 => ⟨_, rfl, ?_⟩)
    have f24 : frG μ2 μ4 := f3.g.trans f4.g
    have o4 : Only [0, 8, 12, 13, 14, 15, 16, 17, 18] μ μ4 := (o.trans (by rw [e2]; exact Only.w)).trans (f24.1.mono (by intro k hk; simp at hk ⊢; omega))
    have g4 : ∀ k, k < 19 ∨ 33 < k ∧ k ≤ 40 ∨ 47 < k → μ4.1 0 k = μ.1 0 k := fun k hk => by rw [f24.2 k hk, k0]; exact f k hk
    have h84 : ∀ j, j ≠ p → μ4.1 8 j = μ.1 8 j := fun j hj => by rw [f24.i 8, e2, wI_s, upd_n hj]; exact h8 j hj
    have hl84 : μ4.2 8 = μ.2 8 := by rw [f24.1.l 8, e2, wI_2]; exact hl8
    have k44 : μ4.1 0 44 = s.1 0 44 := by rw [f4.2 44 (by omega), f3.2 44 (by omega), k0]
    have k43 : μ4.1 0 43 = s.1 0 43 := by rw [f4.2 43 (by omega), f3.2 43 (by omega), k0]
    have wr : ∀ μ6 μ7 : Mem, fmF (ghF e r p) (h + 1) = h → μ6 = wI μ4 0 (upd (μ4.1 0) 43 (nI h)) → μ7 = wI μ6 0 (upd (μ6.1 0) 44 (ghF e r p h)) → AA (Call (d + 67)) y_M_seeks Q 7 [.ref 0, .int (nI p), .int (μ.1 8 p), .int (nI (h + 1)), .int (ghF e r p h)] [] μ7 := by
      intro μ6 μ7 hf e6 e7
      refine AA_weak (lv := [.ref 0, .int (nI p), .int (μ.1 8 p), .int (nI (h + 1)), un]) ⟨Or.inl rfl, Or.inl rfl, Or.inl rfl, Or.inl rfl, Or.inr ⟨rfl, rfl⟩, trivial⟩ (ih μ7 ⟨?_, ?_, ?_, ?_, ?_⟩)
      · exact o4.trans (by rw [e7, e6]; exact (Only.w).trans Only.w)
      · intro k hk
        rw [e7, wI_s, upd_n (by omega), e6, wI_s, upd_n (by omega)]
        exact g4 k hk
      · refine ⟨by rw [e7, wI_2, e6, wI_2]; exact hl84, fun j hj => ?_⟩
        rw [e7, wI_n (by decide), e6, wI_n (by decide)]
        exact h84 j hj
      · refine t4.cong ?_ ?_ ?_ ?_ ?_
        · rw [e7, wI_s, upd_n (by omega), e6, wI_s, upd_n (by omega)]
        · rw [e7, wI_n (by decide), e6, wI_n (by decide)]
        · rw [e7, wI_n (by decide), e6, wI_n (by decide)]
        · rw [e7, wI_n (by decide), e6, wI_n (by decide)]
        · rw [e7, wI_2, e6, wI_2]
      · intro _
        rw [hf]
        refine ⟨?_, ?_⟩
        · rw [e7, wI_s, upd_n (by omega), e6, wI_s, upd_s]
        · rw [e7, wI_s, upd_s]
    show (nI h = 0 → _) ∧ _
    refine ⟨fun z μ6 e6 μ7 e7 => wr μ6 μ7 ?_ e6 e7, fun z => ⟨fun z2 => ?_, fun z2 μ6 e6 μ7 e7 => wr μ6 μ7 ?_ e6 e7⟩⟩
    · have : h = 0 := by
        have q := congrArg Int32.toInt z
        rw [eh] at q
        have : (0 : Int32).toInt = 0 := rfl
        omega
      subst this
      show (if _ then _ else _) = 0
      split <;> rfl
    · have h0 : 0 < h := by
        by_cases q : h = 0
        · exact absurd (by rw [q]; rfl) z
        · omega
      obtain ⟨b1, b2⟩ := hb h0
      have z2 : ghF e r p h ≤ ghF e r p (fmF (ghF e r p) h) := by rw [← b2, ← k44]; exact z2
      have hf : fmF (ghF e r p) (h + 1) = fmF (ghF e r p) h := if_pos z2
      refine AA_weak (lv := [.ref 0, .int (nI p), .int (μ.1 8 p), .int (nI (h + 1)), un]) ⟨Or.inl rfl, Or.inl rfl, Or.inl rfl, Or.inl rfl, Or.inr ⟨rfl, rfl⟩, trivial⟩ (ih μ4 ⟨o4, g4, ⟨hl84, h84⟩, t4, fun _ => ?_⟩)
      rw [hf, k43, k44]
      exact ⟨b1, b2⟩
    · have h0 : 0 < h := by
        by_cases q : h = 0
        · exact absurd (by rw [q]; rfl) z
        · omega
      obtain ⟨b1, b2⟩ := hb h0
      have z2 : ¬ ghF e r p h ≤ ghF e r p (fmF (ghF e r p) h) := by rw [← b2, ← k44]; exact z2
      exact if_neg z2
theorem M_when_ok {d : Nat} {Q : QQ} {μ : Mem} {e : DE} {tx : Nat → Nat → List Int32} {t : Nat} {a b : Int32} {r : Nat → Int32} (hi : isM e tx t μ) (hwf : wfE e) (hrow : rowM 4 r μ) (hok : rowOk r) (hb : ¬ (0 ≤ a.toInt ∧ a.toInt < npE e ∧ 0 ≤ b.toInt ∧ b.toInt ≤ 1) → Q (.int (-100000)) μ) (hg : 0 ≤ a.toInt ∧ a.toInt < npE e ∧ 0 ≤ b.toInt ∧ b.toInt ≤ 1 → ∀ μ', frG μ μ' → TxM tx μ' → Q (.int (if b = 0 then nI (fmF (ghF e r a.toNatClampNeg) 24) else ghF e r a.toNatClampNeg (fmF (ghF e r a.toNatClampNeg) 24))) μ') : Call (d + 69) y_M_when [.ref 0, .int a, .int b] μ Q := by
  obtain ⟨n1, n2⟩ := np_r hi hwf
  refine b_M_when_0 (M_isWriter_ok n1 ⟨_, rfl, b_z (fun c1 => hb (by omega)) (fun c1 => ?_)⟩)
  refine M_in_ok (A := b.toInt) (B := 0) (C := 1) (lI _) rfl rfl ⟨_, rfl, b_nz (fun c2 => ?_) (fun c2 => hb (by omega))⟩
  have g := hg (by omega)
  obtain ⟨p, hp, rfl, ep⟩ := nI_ex (x := a) c1.1
  rw [nI_c hp] at g
  refine M_seeks_ok hi hwf (by omega) hrow hok (fun μ1 f1 t1 k43 k44 => ?_)
  have g := g μ1 f1 t1
  rw [k43, k44]
  refine ⟨fun z => ?_, fun z => ?_⟩
  · rw [if_neg z] at g; exact g
  · rw [if_pos z] at g; exact g
theorem M_choose_ok {d : Nat} {Q : QQ} {μ : Mem} {e : DE} {tx : Nat → Nat → List Int32} {t : Nat} {a : Int32} {r : Nat → Int32} (hi : isM e tx t μ) (hwf : wfE e) (hrow : rowM 4 r μ) (hok : rowOk r) (hb : ¬ (0 ≤ a.toInt ∧ a.toInt < npE e) → Q (.int (-100000)) μ) (hg : 0 ≤ a.toInt ∧ a.toInt < npE e → ∀ μ1 μ', frG μ μ1 → TxM tx μ1 → μ' = wI μ1 8 (upd (μ1.1 8) a.toNatClampNeg (nI (fmF (ghF e r a.toNatClampNeg) 24))) → Q (.int (ghF e r a.toNatClampNeg (fmF (ghF e r a.toNatClampNeg) 24))) μ') : Call (d + 69) y_M_choose [.ref 0, .int a] μ Q := by
  have h5 := hwf.2.2.1
  obtain ⟨n1, n2⟩ := np_r hi hwf
  refine b_M_choose_0 (M_isWriter_ok n1 ⟨_, rfl, b_nz (fun c1 => ?_) (fun c1 => hb (by omega))⟩)
  have g := hg (by omega)
  obtain ⟨p, hp, rfl, ep⟩ := nI_ex (x := a) c1.1
  rw [nI_c hp] at g
  refine M_seeks_ok hi hwf (by omega) hrow hok (fun μ1 f1 t1 k43 k44 => ⟨nI_v (by omega) (by omega), fun μ4 e4 => ?_⟩)
  rw [k43, nI_c hp] at e4
  refine Qi (g μ1 μ4 f1 t1 e4) ?_
  rw [e4, wI_n (by decide), k44]
def restF (e : DE) (r : Nat → Int32) (n : Nat) : Prop := ∀ p, p < n → ghF e r p (fmF (ghF e r p) 24) ≤ goodF e (dE e r) p
theorem M_rest_ok {d : Nat} {Q : QQ} {μ : Mem} {e : DE} {tx : Nat → Nat → List Int32} {t : Nat} {r : Nat → Int32} (hi : isM e tx t μ) (hwf : wfE e) (hrow : rowM 4 r μ) (hok : rowOk r) (hy : restF e r (npE e) → ∀ μ', frG μ μ' → TxM tx μ' → Q (.int 1) μ') (hn : ¬ restF e r (npE e) → ∀ μ', frG μ μ' → TxM tx μ' → Q (.int 0) μ') : Call (d + 69) y_M_rest [.ref 0] μ Q := by
  have h5 := hwf.2.2.1
  refine b_M_rest_0 ?_
  refine loopN (G := fun p s => AA (Call (d + 68)) y_M_rest Q 2 [.ref 0, .int (nI p), un] [] s) (P := fun p s => frG μ s ∧ TxM tx s ∧ restF e r p) (N := npE e) ?_ ?_ 0 μ (by omega) ⟨frG.rf, hi.tx, fun p hp => absurd hp (by omega)⟩
  · intro s ⟨f1, t1, hr⟩
    exact b_M_rest_2 ⟨fun _ => hy hr s f1 t1, fun z => absurd (by rw [(hi.g f1 t1).2.2.1]; exact Int32.le_refl _) z⟩
  · intro p s hp ⟨f1, t1, hr⟩ ih
    have is1 := hi.g f1 t1
    have r1 : rowM 4 r s := fun j hj => by rw [f1.i 4]; exact hrow j hj
    refine b_M_rest_2 ⟨fun z => absurd (le32.mp z) (by rw [is1.2.2.1, nI_i (by omega), nI_i (by omega)]; omega), fun _ => ?_⟩
    rw [nI_1]
    refine M_dayNow_ok is1 hwf r1 hok (fun s2 f2 t2 rm2 sp2 _ => ?_)
    refine M_goodOf_ok (s := dE e r) (is1.g f2.g t2) hwf hp (dayF_said 24) (sp2 p hp).1 (sp2 p hp).2 (fun s3 f3 t3 => ⟨_, rfl, ?_⟩)
    have f23 : frG s s3 := f2.g.trans f3.g
    refine M_seeks_ok (is1.g f23 t3) hwf hp (fun j hj => by rw [f23.i 4]; exact r1 j hj) hok (fun s4 f4 t4 k43 k44 => ?_)
    rw [k44]
    refine ⟨fun z => ?_, fun z => hn (fun y => z (y p hp)) s4 ((f1.trans f23).trans f4) t4⟩
    refine AA_weak (lv := [.ref 0, .int (nI (p + 1)), un]) ⟨Or.inl rfl, Or.inl rfl, Or.inr ⟨rfl, rfl⟩, trivial⟩ (ih s4 ⟨(f1.trans f23).trans f4, t4, fun q hq => ?_⟩)
    by_cases y : q = p
    · rw [y]; exact z
    · exact hr q (by omega)
def brn (u n : Int32) : Int32 := if 999 ≤ (u + n).toInt then 999 else u + n
noncomputable def burnF (e : DE) (r : Nat → Int32) (n : Int32) (l : Nat) : Int32 := gdA e r - gdA e (upd r l (brn (r l) n))
theorem brn_ok {u n : Int32} (hu : rng u 0 999) (hn : rng n 0 20) : rng (brn u n) 0 999 := by
  obtain ⟨u1, u2⟩ := hu
  obtain ⟨n1, n2⟩ := hn
  have e : (u + n).toInt = u.toInt + n.toInt := add32 (by omega) (by omega)
  unfold brn rng
  split
  · exact ⟨by decide, by decide⟩
  · omega
theorem M_burned_ok {d : Nat} {Q : QQ} {μ : Mem} {e : DE} {tx : Nat → Nat → List Int32} {t l : Nat} {n : Int32} {r : Nat → Int32} (hi : isM e tx t μ) (hwf : wfE e) (hl : l < 8) (hn : rng n 1 20) (hrow : rowM 4 r μ) (hok : rowOk r) (hQ : ∀ μ', frG μ μ' → TxM tx μ' → Q (.int (burnF e r n l)) μ') : Call (d + 68) y_M_burned [.ref 0, .int (nI l), .int n] μ Q := by
  have vl : vp_in (nI l) 8 := nI_v hl (by omega)
  have cl : (nI l).toNatClampNeg = l := nI_c (by omega)
  refine b_M_burned_0 (M_dayNow_ok hi hwf hrow hok (fun s1 f1 t1 rm1 sp1 _ => ?_))
  refine M_allGood_ok (s := dE e r) (hi.g f1.g t1) hwf (dayF_said 24) sp1 (fun s2 f2 t2 => ⟨_, rfl, M_takes_ok (fun s3 o3 o3' => ⟨vl, ?_⟩)⟩)
  have t3 : TxM tx s3 := t2.fr o3 (by simp)
  have f13 : frG μ s3 := (f1.g.trans f2.g).trans o3.g
  have rm3 : rowM 14 r s3 := fun j hj => by rw [o3' j hj, f2.i 4, f1.i 4]; exact hrow j hj
  rw [cl, rm3 l hl]
  have fin : ∀ s5 : Mem, s5 = wI s3 14 (upd (s3.1 14) l (brn (r l) n)) → Call (d + 67) y_M_passesDay [.ref 0] s5 (fun _ μ6 => Call (d + 67) y_M_allGood [.ref 0] μ6 (fun ρ μ7 => ∃ r8 : Int32, ρ = .int r8 ∧ Q (.int (sum8 (goodF e (dE e r)) (npE e) - r8)) μ7)) := by
    intro s5 e5
    have o5 : Only [14] s3 s5 := by rw [e5]; exact Only.w
    have t5 := t3.fr o5 (by simp)
    have is5 := hi.g (f13.trans o5.g) t5
    refine M_passesDay_ok is5 hwf (r := upd r l (brn (r l) n)) (by rw [e5]; exact rm3.up) (hok.up (brn_ok (hok l hl) ⟨by have := hn.1; omega, hn.2⟩)) (fun s6 f6 t6 rm6 sp6 _ => ?_)
    refine M_allGood_ok (s := dE e (upd r l (brn (r l) n))) (is5.g f6.g t6) hwf (dayF_said 24) sp6 (fun s7 f7 t7 => ⟨_, rfl, ?_⟩)
    exact hQ s7 (((f13.trans o5.g).trans f6.g).trans f7.g) t7
  have e9 : (999 : Int32).toInt = 999 := rfl
  refine ⟨fun z => ⟨vl, fun s5 e5 => fin s5 ?_⟩, fun z => ⟨vl, vl, fun s5 e5 => fin s5 ?_⟩⟩
  · rw [e5]; unfold brn; rw [if_pos (by have := le32.mp z; omega)]
  · rw [e5]; unfold brn; rw [if_neg (fun y => z (le32.mpr (by omega)))]
theorem M_burn_ok {d : Nat} {Q : QQ} {μ : Mem} {e : DE} {tx : Nat → Nat → List Int32} {t : Nat} {a b : Int32} {r : Nat → Int32} (hi : isM e tx t μ) (hwf : wfE e) (hrow : rowM 4 r μ) (hok : rowOk r) (hb : ¬ (0 ≤ a.toInt ∧ a.toInt ≤ 7 ∧ 1 ≤ b.toInt ∧ b.toInt ≤ 20) → Q (.int (-100000)) μ) (hg : 0 ≤ a.toInt ∧ a.toInt ≤ 7 ∧ 1 ≤ b.toInt ∧ b.toInt ≤ 20 → ∀ μ', frG μ μ' → TxM tx μ' → Q (.int (burnF e r b a.toNatClampNeg)) μ') : Call (d + 69) y_M_burn [.ref 0, .int a, .int b] μ Q := by
  refine b_M_burn_0 (M_in_ok (A := a.toInt) (B := 0) (C := 7) (lI _) rfl rfl ⟨_, rfl, b_z (fun c1 => hb (by omega)) (fun c1 => ?_)⟩)
  refine M_in_ok (A := b.toInt) (B := 1) (C := 20) (lI _) rfl rfl ⟨_, rfl, b_z (fun c2 => hb (by omega)) (fun c2 => ?_)⟩
  have g := hg (by omega)
  obtain ⟨l, hl, rfl, el⟩ := nI_ex (x := a) c1.1
  rw [nI_c hl] at g
  exact M_burned_ok hi hwf (by omega) c2 hrow hok (fun μ1 f1 t1 => ⟨_, rfl, g μ1 f1 t1⟩)
theorem M_worst_ok {d : Nat} {Q : QQ} {μ : Mem} {e : DE} {tx : Nat → Nat → List Int32} {t : Nat} {a b : Int32} {r : Nat → Int32} (hi : isM e tx t μ) (hwf : wfE e) (hrow : rowM 4 r μ) (hok : rowOk r) (hb : ¬ (1 ≤ a.toInt ∧ a.toInt ≤ 20 ∧ 0 ≤ b.toInt ∧ b.toInt ≤ 1) → Q (.int (-100000)) μ) (hg : 1 ≤ a.toInt ∧ a.toInt ≤ 20 ∧ 0 ≤ b.toInt ∧ b.toInt ≤ 1 → ∀ μ', frG μ μ' → TxM tx μ' → Q (.int (if b = 0 then nI (fmF (burnF e r a) 8) else burnF e r a (fmF (burnF e r a) 8))) μ') : Call (d + 69) y_M_worst [.ref 0, .int a, .int b] μ Q := by
  refine b_M_worst_0 (M_in_ok (A := a.toInt) (B := 1) (C := 20) (lI _) rfl rfl ⟨_, rfl, b_z (fun c1 => hb (by omega)) (fun c1 => ?_)⟩)
  refine M_in_ok (A := b.toInt) (B := 0) (C := 1) (lI _) rfl rfl ⟨_, rfl, b_nz (fun c2 => ?_) (fun c2 => hb (by omega))⟩
  have g := hg (by omega)
  refine loopN (G := fun l s => AA (Call (d + 68)) y_M_worst Q 20 [.ref 0, .int a, .int b, .int s.1, .int s.2.1, .int (nI l), un] [] s.2.2) (P := fun l s => frG μ s.2.2 ∧ TxM tx s.2.2 ∧ (0 < l → s.1 = nI (fmF (burnF e r a) l) ∧ s.2.1 = burnF e r a (fmF (burnF e r a) l))) (N := 8) ?_ ?_ 0 ((0 : Int32), (0 : Int32), μ) (by omega) ⟨frG.rf, hi.tx, fun z => absurd z (by omega)⟩
  · intro ⟨v, w, s⟩ ⟨f1, t1, hv⟩
    dsimp only at f1 t1 hv ⊢
    have g := g s f1 t1
    obtain ⟨rfl, rfl⟩ := hv (by omega)
    refine b_M_worst_20 ⟨fun _ => ⟨fun z => ?_, fun z => ?_⟩, fun c => absurd (by decide) c⟩
    · rw [if_neg z] at g; exact g
    · rw [if_pos z] at g; exact g
  · intro l ⟨v, w, s⟩ hl ⟨f1, t1, hv⟩ ih
    dsimp only at f1 t1 hv ih ⊢
    have el := nI_i (n := l) (by omega)
    refine b_M_worst_20 ⟨fun c => absurd (le32.mp c) (by rw [el]; show ¬ (8 : Int) ≤ _; omega), fun _ => ?_⟩
    rw [nI_1]
    refine M_burned_ok (hi.g f1 t1) hwf hl c1 (r := r) (fun j hj => by rw [f1.i 4]; exact hrow j hj) hok (fun s2 f2 t2 => ⟨_, rfl, ?_⟩)
    have nxt : ∀ v w : Int32, v = nI (fmF (burnF e r a) (l + 1)) → w = burnF e r a (fmF (burnF e r a) (l + 1)) → AA (Call (d + 68)) y_M_worst Q 20 [.ref 0, .int a, .int b, .int v, .int w, .int (nI (l + 1)), .int (burnF e r a l)] [] s2 := by
      intro v w hv hw
      refine AA_weak (lv := [.ref 0, .int a, .int b, .int v, .int w, .int (nI (l + 1)), un]) ⟨Or.inl rfl, Or.inl rfl, Or.inl rfl, Or.inl rfl, Or.inl rfl, Or.inl rfl, Or.inr ⟨rfl, rfl⟩, trivial⟩ (ih (v, w, s2) ⟨f1.trans f2, t2, fun _ => ⟨hv, hw⟩⟩)
    have l0 : ¬ nI l = 0 → 0 < l := fun z => by
      by_cases q : l = 0
      · exact absurd (by rw [q]; rfl) z
      · omega
    refine ⟨fun z => ?_, fun z => ⟨fun z2 => ?_, fun z2 => ?_⟩⟩
    · have : l = 0 := by
        have q := congrArg Int32.toInt z
        rw [el] at q
        have : (0 : Int32).toInt = 0 := rfl
        omega
      subst this
      have hf : fmF (burnF e r a) (0 + 1) = 0 := by show (if _ then _ else _) = 0; split <;> rfl
      exact nxt _ _ (by rw [hf]) (by rw [hf])
    · obtain ⟨b1, b2⟩ := hv (l0 z)
      rw [b2] at z2
      have hf : fmF (burnF e r a) (l + 1) = fmF (burnF e r a) l := if_pos z2
      exact nxt _ _ (by rw [hf]; exact b1) (by rw [hf]; exact b2)
    · obtain ⟨b1, b2⟩ := hv (l0 z)
      rw [b2] at z2
      have hf : fmF (burnF e r a) (l + 1) = l := if_neg z2
      exact nxt _ _ (by rw [hf]) (by rw [hf])
end
section
/-! ===== the reference: which law; what was said; days drawn ===== -/
/-- as isM, THE LAW apart -/
theorem isM.sl {e : DE} {tx : Nat → Nat → List Int32} {t i : Nat} {μ μ' : Mem} (h : isM e tx t μ) (hf : ∀ k, k < 18 → μ'.1 0 k = μ.1 0 k) (hc : ∀ k, 5 ≤ k → k < 12 → μ'.1 k = μ.1 k) (h18 : μ'.1 0 18 = nI i) (hi : i < 6) (hT : TxM tx μ') : isM (setL e (μ.1 10 i) (μ.1 11 i)) tx t μ' := by
  obtain ⟨h1, h2, h3, h4, h5, h6, h7, h8, h9, h10⟩ := h
  unfold isM mK mN rulM
  rw [hf 10 (by omega), hf 14 (by omega), h18, hf 3 (by omega), hf 4 (by omega), hc 5 (by omega) (by omega), hc 6 (by omega) (by omega), hc 7 (by omega) (by omega), hc 8 (by omega) (by omega), hc 9 (by omega) (by omega), hc 10 (by omega) (by omega), hc 11 (by omega) (by omega), nI_c (by omega)]
  exact ⟨h1, h2, h3, h4, nI_v hi (by omega), rfl, rfl, h8, hT, h10⟩
noncomputable def bestF (e : DE) (r kf nf : Nat → Int32) : Nat → Int32 × Int32 × Int32
  | 0 => (-1, 0, 0)
  | i + 1 => @ite _ ((bestF e r kf nf i).1 = -1 ∨ (bestF e r kf nf i).2.1 < sayF (dE (setL e (kf i) (nf i)) r) (npE e) ∨ sayF (dE (setL e (kf i) (nf i)) r) (npE e) = (bestF e r kf nf i).2.1 ∧ ¬ gdA (setL e (kf i) (nf i)) r ≤ (bestF e r kf nf i).2.2) (Classical.propDecidable _) (nI i, sayF (dE (setL e (kf i) (nf i)) r) (npE e), gdA (setL e (kf i) (nf i)) r) (bestF e r kf nf i)
theorem best_y {e : DE} {r kf nf : Nat → Int32} {i : Nat} (h : (bestF e r kf nf i).1 = -1 ∨ (bestF e r kf nf i).2.1 < sayF (dE (setL e (kf i) (nf i)) r) (npE e) ∨ sayF (dE (setL e (kf i) (nf i)) r) (npE e) = (bestF e r kf nf i).2.1 ∧ ¬ gdA (setL e (kf i) (nf i)) r ≤ (bestF e r kf nf i).2.2) : bestF e r kf nf (i + 1) = (nI i, sayF (dE (setL e (kf i) (nf i)) r) (npE e), gdA (setL e (kf i) (nf i)) r) := if_pos h
theorem best_n {e : DE} {r kf nf : Nat → Int32} {i : Nat} (h : ¬ ((bestF e r kf nf i).1 = -1 ∨ (bestF e r kf nf i).2.1 < sayF (dE (setL e (kf i) (nf i)) r) (npE e) ∨ sayF (dE (setL e (kf i) (nf i)) r) (npE e) = (bestF e r kf nf i).2.1 ∧ ¬ gdA (setL e (kf i) (nf i)) r ≤ (bestF e r kf nf i).2.2)) : bestF e r kf nf (i + 1) = bestF e r kf nf i := if_neg h
/-- the laws, all of them -/
def lawM (n : Nat) (μ : Mem) : Prop := n ≤ 6 ∧ μ.1 0 17 = nI n ∧ ∀ i, i < 6 → rng (μ.1 10 i) 0 5 ∧ rng (μ.1 11 i) 0 9
/-- while THE LAW is set aside -/
def frL (μ s : Mem) : Prop := Only [0, 12, 13, 14, 15, 16, 17, 18] μ s ∧ ∀ k, k < 18 ∨ 33 < k ∧ k ≤ 40 ∨ 47 < k → s.1 0 k = μ.1 0 k
theorem frG.l {a b : Mem} (h : frG a b) : frL a b := ⟨h.1, fun k hk => h.2 k (by omega)⟩
theorem frL.trans {a b c : Mem} (h1 : frL a b) (h2 : frL b c) : frL a c := ⟨h1.1.trans h2.1, fun k hk => (h2.2 k hk).trans (h1.2 k hk)⟩
theorem frL.w {μ : Mem} {x : Int32} : frL μ (wI μ 0 (upd (μ.1 0) 18 x)) := ⟨Only.w, fun k hk => by rw [wI_s, upd_n (by omega)]⟩
theorem TxM.w0 {tx : Nat → Nat → List Int32} {μ μ' : Mem} {k : Nat} {x : Int32} (h : TxM tx μ) (e : μ' = wI μ 0 (upd (μ.1 0) k x)) (hk : k ≠ 3 := by decide) : TxM tx μ' := h.cong (by rw [e, wI_s, upd_n (Ne.symm hk)]) (by rw [e, wI_n (by decide)]) (by rw [e, wI_n (by decide)]) (by rw [e, wI_n (by decide)]) (by rw [e, wI_2])
theorem back18 {μ s s' : Mem} (h : frL μ s) (e : s' = wI s 0 (upd (s.1 0) 18 (μ.1 0 18))) : frG μ s' := ⟨h.1.trans (by rw [e]; exact Only.w), fun k hk => by
  rw [e, wI_s]
  by_cases q : k = 18
  · rw [q, upd_s]
  · rw [upd_n q]; exact h.2 k (by omega)⟩
theorem M_best_ok {d : Nat} {Q : QQ} {μ : Mem} {e : DE} {tx : Nat → Nat → List Int32} {t n : Nat} {a : Int32} {r : Nat → Int32} (hi : isM e tx t μ) (hwf : wfE e) (hL : lawM n μ) (hrow : rowM 4 r μ) (hok : rowOk r) (hb : ¬ (0 ≤ a.toInt ∧ a.toInt ≤ 2) → Q (.int (-100000)) μ) (hg : 0 ≤ a.toInt ∧ a.toInt ≤ 2 → ∀ μ', frG μ μ' → TxM tx μ' → Q (.int (if a = 0 then (bestF e r (μ.1 10) (μ.1 11) n).1 else if a = 1 then (bestF e r (μ.1 10) (μ.1 11) n).2.1 else (bestF e r (μ.1 10) (μ.1 11) n).2.2)) μ') : Call (d + 68) y_M_best [.ref 0, .int a] μ Q := by
  have h5 := hwf.2.2.1
  obtain ⟨L1, L2, L3⟩ := hL
  refine b_M_best_0 (M_in_ok (A := a.toInt) (B := 0) (C := 2) (lI _) rfl rfl ⟨_, rfl, b_nz (fun c1 μ3 e3 => ?_) (fun c1 => hb c1)⟩)
  have g := hg c1
  refine loopN (G := fun i s => AA (Call (d + 67)) y_M_best Q 20 [.ref 0, .int a, .int (μ.1 0 18), .int (bestF e r (μ.1 10) (μ.1 11) i).1, .int (bestF e r (μ.1 10) (μ.1 11) i).2.1, .int (bestF e r (μ.1 10) (μ.1 11) i).2.2, un, un] [] s) (P := fun i s => frL μ s ∧ TxM tx s ∧ s.1 0 18 = nI i) (N := n) ?_ ?_ 0 μ3 (by omega) ⟨by rw [e3]; exact frL.w, hi.tx.w0 e3, by rw [e3, wI_s, upd_s]; rfl⟩
  · intro s ⟨f1, t1, k18⟩
    refine b_M_best_20 ⟨fun _ μ1 e1 => ?_, fun z => absurd (by rw [f1.2 17 (by omega), L2, k18]; exact Int32.le_refl _) z⟩
    have g := g μ1 (back18 f1 e1) (t1.w0 e1)
    refine ⟨fun z => ⟨fun z2 => ?_, fun z2 => ?_⟩, fun z => ?_⟩
    · rw [if_neg z, if_neg z2] at g; exact g
    · rw [if_neg z, if_pos z2] at g; exact g
    · rw [if_pos z] at g; exact g
  · intro i s hin ⟨f1, t1, k18⟩ ih
    refine b_M_best_20 ⟨fun z => absurd (le32.mp z) (by rw [f1.2 17 (by omega), L2, k18, nI_i (by omega), nI_i (by omega)]; omega), fun _ => ?_⟩
    have is1 : isM (setL e (μ.1 10 i) (μ.1 11 i)) tx t s := hi.sl (fun k hk => f1.2 k (by omega)) (fun k q1 q2 => f1.1.i k (by simp; omega)) k18 (by omega) t1
    have wf1 : wfE (setL e (μ.1 10 i) (μ.1 11 i)) := wf_setL hwf (L3 i (by omega)).1 (L3 i (by omega)).2
    refine M_dayNow_ok is1 wf1 (r := r) (fun j hj => by rw [f1.1.i 4]; exact hrow j hj) hok (fun s2 f2 t2 rm2 sp2 _ => ?_)
    refine M_saying_ok (s := dE (setL e (μ.1 10 i) (μ.1 11 i)) r) h5 (is1.g f2.g t2).2.2.1 (fun p hp => (sp2 p hp).1) ⟨_, rfl, ?_⟩
    refine M_allGood_ok (s := dE (setL e (μ.1 10 i) (μ.1 11 i)) r) (is1.g f2.g t2) wf1 (dayF_said 24) sp2 (fun s3 f3 t3 => ⟨_, rfl, ?_⟩)
    have f13 : frL μ s3 := f1.trans (f2.g.trans f3.g).l
    have k18' : s3.1 0 18 = nI i := by rw [f3.2 18 (by omega), f2.2 18 (by omega)]; exact k18
    have nxt : ∀ s7 : Mem, s7 = wI s3 0 (upd (s3.1 0) 18 (s3.1 0 18 + 1)) → ∀ x y : Int32, AA (Call (d + 67)) y_M_best Q 20 [.ref 0, .int a, .int (μ.1 0 18), .int (bestF e r (μ.1 10) (μ.1 11) (i + 1)).1, .int (bestF e r (μ.1 10) (μ.1 11) (i + 1)).2.1, .int (bestF e r (μ.1 10) (μ.1 11) (i + 1)).2.2, .int x, .int y] [] s7 := by
      intro s7 e7 x y
      have g := ih s7 ⟨f13.trans (by rw [e7]; exact frL.w), t3.w0 e7, by rw [e7, wI_s, upd_s, k18', nI_1]⟩
      refine AA_weak ?_ g
      exact ⟨Or.inl rfl, Or.inl rfl, Or.inl rfl, Or.inl rfl, Or.inl rfl, Or.inl rfl, Or.inr ⟨rfl, rfl⟩, Or.inr ⟨rfl, rfl⟩, trivial⟩
    rw [k18'] at nxt ⊢
    refine ⟨fun z s7 e7 => ?_, fun z => ⟨fun z2 s7 e7 => ?_, fun z2 => ⟨fun z3 s7 e7 => ?_, fun z3 => ⟨fun z4 s7 e7 => ?_, fun z4 s7 e7 => ?_⟩⟩⟩⟩
    · have g := nxt s7 e7
      rw [best_y (Or.inl z)] at g
      exact g _ _
    · have g := nxt s7 e7
      rw [best_y (Or.inr (Or.inl z2))] at g
      exact g _ _
    · have g := nxt s7 e7
      rw [best_n (fun y => y.elim z (fun y => y.elim z2 (fun y => z3 y.1)))] at g
      exact g _ _
    · have g := nxt s7 e7
      rw [best_n (fun y => y.elim z (fun y => y.elim z2 (fun y => y.2 z4)))] at g
      exact g _ _
    · have g := nxt s7 e7
      rw [best_y (Or.inr (Or.inr ⟨z3, z4⟩))] at g
      exact g _ _
def dueF (s : DS) (p : Nat) : Int32 := if s.2.1 p = -1 then -1 else s.2.2 p
def unlG (s : DS) (f : Nat → Int32) : Nat → Nat → Int32
  | 0, _ => -1
  | k + 1, i => if dueF s i = f i then unlG s f k (i + 1) else nI i
theorem M_unlike_ok {d : Nat} {Q : QQ} {μ : Mem} {e : DE} {tx : Nat → Nat → List Int32} {t a : Nat} {r : Nat → Int32} (hi : isM e tx t μ) (hwf : wfE e) (ha : a < 4) (hrow : rowM 4 r μ) (hok : rowOk r) (hQ : ∀ μ', frG μ μ' → TxM tx μ' → Q (.int (unlG (dE e r) (fun p => μ.1 25 (40 * a + p)) (npE e) 0)) μ') : Call (d + 68) y_M_unlike [.ref 0, .int (nI a)] μ Q := by
  have h5 := hwf.2.2.1
  refine b_M_unlike_0 (M_dayNow_ok hi hwf hrow hok (fun s f1 t1 rm1 sp1 _ => ?_))
  have g := hQ s f1.g t1
  have is1 := hi.g f1.g t1
  refine loopN (G := fun i (v : Unit) => AA (Call (d + 67)) y_M_unlike Q 4 [.ref 0, .int (nI a), .int (nI i)] [] s) (P := fun i v => unlG (dE e r) (fun p => μ.1 25 (40 * a + p)) (npE e - i) i = unlG (dE e r) (fun p => μ.1 25 (40 * a + p)) (npE e) 0) (N := npE e) ?_ ?_ 0 () (by omega) rfl
  · intro v h1
    rw [Nat.sub_self] at h1
    exact b_M_unlike_4 ⟨fun _ => Qi g h1, fun z => absurd (by rw [is1.2.2.1]; exact Int32.le_refl _) z⟩
  · intro i v hin h1 ih
    obtain ⟨k, hk⟩ : ∃ k, npE e - i = k + 1 := ⟨npE e - i - 1, by omega⟩
    rw [hk] at h1
    simp only [unlG] at h1
    have vi : vp_in (nI i) 5 := nI_v (by omega) (by omega)
    refine b_M_unlike_4 ⟨fun z => absurd (le32.mp z) (by rw [is1.2.2.1, nI_i (by omega), nI_i (by omega)]; omega), fun _ => ⟨vi, ?_⟩⟩
    have e40 : (40 : Int32) * nI a + nI i = nI (40 * a + i) := n40 a i
    rw [e40, nI_c (by omega), nI_c (by omega), nI_1, f1.i 25, (sp1 i hin).1, (sp1 i hin).2]
    have v40 : vp_in (nI (40 * a + i)) 160 := nI_v (by omega) (by omega)
    have go : dueF (dE e r) i = μ.1 25 (40 * a + i) → AA (Call (d + 67)) y_M_unlike Q 4 [.ref 0, .int (nI a), .int (nI (i + 1))] [] s := by
      intro z
      rw [if_pos z] at h1
      refine ih () ?_
      rw [show npE e - (i + 1) = k by omega]
      exact h1
    have st : ¬ dueF (dE e r) i = μ.1 25 (40 * a + i) → Q (.int (nI i)) s := by
      intro z
      rw [if_neg z] at h1
      exact Qi g h1
    unfold dueF at go st
    refine ⟨fun z => ?_, fun z => ?_⟩
    · have z' : ¬ (dE e r).2.1 i = -1 := z
      rw [if_neg z'] at go st
      exact ⟨vi, v40, fun y => go y, fun y => st y⟩
    · have z' : (dE e r).2.1 i = -1 := z
      rw [if_pos z'] at go st
      exact ⟨v40, fun y => go y, fun y => st y⟩
theorem M_paidBad_ok {d : Nat} {Q : QQ} {μ : Mem} {a : Int32} (hQ : Q (.int (if 0 ≤ a.toInt ∧ a.toInt ≤ 3 then (if μ.1 22 a.toNatClampNeg = 0 then -11 else if μ.1 24 a.toNatClampNeg = μ.1 0 14 then 0 else -2) else -2)) μ) : Call (d + 3) y_M_paidBad [.ref 0, .int a] μ Q := by
  refine b_M_paidBad_0 (M_isSheet_ok ⟨_, rfl, b_nz (fun c1 => ⟨vin_of c1.1 (by omega), fun c2 => ⟨vin_of c1.1 (by omega), fun c3 => ?_, fun c3 => ?_⟩, fun c2 => ?_⟩) (fun c1 => ?_)⟩)
  · rw [if_pos c1, if_neg c2, if_neg c3] at hQ; exact hQ
  · rw [if_pos c1, if_neg c2, if_pos c3] at hQ; exact hQ
  · rw [if_pos c1, if_pos c2] at hQ; exact hQ
  · rw [if_neg c1] at hQ; exact hQ
/-- why a sheet can't be judged -/
def pbM (μ : Mem) (a : Int32) : Int32 := if 0 ≤ a.toInt ∧ a.toInt ≤ 3 then (if μ.1 22 a.toNatClampNeg = 0 then -11 else if μ.1 24 a.toNatClampNeg = μ.1 0 14 then 0 else -2) else -2
theorem pbM_0 {μ : Mem} {a : Int32} (h : pbM μ a = 0) : 0 ≤ a.toInt ∧ a.toInt ≤ 3 := by
  unfold pbM at h
  by_cases q : 0 ≤ a.toInt ∧ a.toInt ≤ 3
  · exact q
  · rw [if_neg q] at h
    exact absurd h (by decide)
theorem M_judge_ok {d : Nat} {Q : QQ} {μ : Mem} {e : DE} {tx : Nat → Nat → List Int32} {t : Nat} {a : Int32} {r : Nat → Int32} (hi : isM e tx t μ) (hwf : wfE e) (hrow : rowM 4 r μ) (hok : rowOk r) (hb : ¬ pbM μ a = 0 → Q (.int (pbM μ a)) μ) (hg : pbM μ a = 0 → ∀ μ', frG μ μ' → TxM tx μ' → Q (.int (unlG (dE e r) (fun p => μ.1 25 (40 * a.toNatClampNeg + p)) (npE e) 0)) μ') : Call (d + 69) y_M_judge [.ref 0, .int a] μ Q := by
  refine b_M_judge_0 (M_paidBad_ok ⟨_, rfl, fun z => ?_, fun z => hb z⟩)
  have z : pbM μ a = 0 := z
  have g := hg z
  obtain ⟨q1, q2⟩ := pbM_0 z
  obtain ⟨s, hs, rfl, es⟩ := nI_ex (x := a) q1
  rw [nI_c hs] at g
  exact M_unlike_ok hi hwf (by omega) hrow hok (fun μ1 f1 t1 => ⟨_, rfl, g μ1 f1 t1⟩)
theorem M_fits_ok {d : Nat} {Q : QQ} {μ : Mem} {e : DE} {tx : Nat → Nat → List Int32} {t : Nat} {a b : Int32} {r : Nat → Int32} (hi : isM e tx t μ) (hwf : wfE e) (h40 : μ.1 0 40 = -1) (hrow : rowM 4 r μ) (hok : rowOk r) (hb : ¬ (0 ≤ a.toInt ∧ a.toInt < npE e ∧ 0 ≤ b.toInt ∧ b.toInt ≤ 9999) → Q (.int (-2)) μ) (hg : 0 ≤ a.toInt ∧ a.toInt < npE e ∧ 0 ≤ b.toInt ∧ b.toInt ≤ 9999 → ∀ μ', frG μ μ' → TxM tx μ' → Q (.int (bitF e (rowAt e r a.toNatClampNeg) a.toNatClampNeg b 0 (nwE e))) μ') : Call (d + 68) y_M_fits [.ref 0, .int a, .int b] μ Q := by
  have h5 := hwf.2.2.1
  obtain ⟨n1, n2⟩ := np_r hi hwf
  refine b_M_fits_0 (M_isWriter_ok n1 ⟨_, rfl, b_z (fun c1 => hb (by omega)) (fun c1 => ?_)⟩)
  refine M_in_ok (A := b.toInt) (B := 0) (C := 9999) (lI _) rfl rfl ⟨_, rfl, b_nz (fun c2 μ5 e5 μ6 e6 μ7 e7 => ?_) (fun c2 => hb (by omega))⟩
  have g := hg (by omega)
  obtain ⟨p, hp, rfl, ep⟩ := nI_ex (x := a) c1.1
  rw [nI_c hp] at g
  have o7 : Only [0] μ μ7 := by rw [e7, e6, e5]; exact ((Only.w).trans Only.w).trans Only.w
  have k7 : ∀ k, k < 40 ∨ 42 < k → μ7.1 0 k = μ.1 0 k := by
    intro k hk
    rw [e7, wI_s, upd_n (by omega), e6, wI_s, upd_n (by omega), e5, wI_s, upd_n (by omega)]
  have t7 : TxM tx μ7 := ((hi.tx.w0 e5).w0 e6).w0 e7
  have is7 : isM e tx t μ7 := hi.cg (fun k hk => k7 k (by omega)) (fun k q1 q2 => o7.i k (by simp; omega)) t7
  refine M_dayNow_ok is7 hwf (r := r) (fun j hj => by rw [o7.i 4]; exact hrow j hj) hok (fun s f1 t1 rm1 sp1 sb1 μ9 e9 => ?_)
  have k40 : μ7.1 0 40 = nI p := by rw [e7, wI_s, upd_n (by omega), e6, wI_s, upd_n (by omega), e5, wI_s, upd_s]
  have k41 : μ7.1 0 41 = b := by rw [e7, wI_s, upd_n (by omega), e6, wI_s, upd_s]
  have k42 : μ7.1 0 42 = 0 := by rw [e7, wI_s, upd_s]
  have hb := sb1 p (by omega) k40
  rw [k41, k42] at hb
  refine Qi (g μ9 ⟨?_, fun k hk => ?_⟩ (t1.w0 e9)) (by rw [e9, wI_s, upd_n (by decide), hb])
  · exact ((o7.mono (by simp)).trans f1.g.1).trans (by rw [e9]; exact Only.w)
  · rw [e9, wI_s]
    by_cases q : k = 40
    · rw [q, upd_s, h40]
    · rw [upd_n q, f1.2 k (by omega)]
      exact k7 k (by omega)
noncomputable def whoF (e : DE) (r kf nf f : Nat → Int32) : Nat → Int32
  | 0 => 0
  | i + 1 => whoF e r kf nf f i ||| ((if unlG (dE (setL e (kf i) (nf i)) r) f (npE e) 0 = -1 then 1 else 0) <<< (nI i &&& 31))
theorem M_whose_ok {d : Nat} {Q : QQ} {μ : Mem} {e : DE} {tx : Nat → Nat → List Int32} {t n : Nat} {a : Int32} {r : Nat → Int32} (hi : isM e tx t μ) (hwf : wfE e) (hL : lawM n μ) (hrow : rowM 4 r μ) (hok : rowOk r) (hb : ¬ pbM μ a = 0 → Q (.int (pbM μ a)) μ) (hg : pbM μ a = 0 → ∀ μ', frG μ μ' → TxM tx μ' → Q (.int (whoF e r (μ.1 10) (μ.1 11) (fun p => μ.1 25 (40 * a.toNatClampNeg + p)) n)) μ') : Call (d + 69) y_M_whose [.ref 0, .int a] μ Q := by
  obtain ⟨L1, L2, L3⟩ := hL
  refine b_M_whose_0 (M_paidBad_ok ⟨_, rfl, fun z μ3 e3 => ?_, fun z => hb z⟩)
  have z : pbM μ a = 0 := z
  have g := hg z
  obtain ⟨q1, q2⟩ := pbM_0 z
  obtain ⟨s, hs, rfl, es⟩ := nI_ex (x := a) q1
  rw [nI_c hs] at g
  refine loopN (G := fun i u => AA (Call (d + 68)) y_M_whose Q 16 [.ref 0, .int (nI s), .int _, .int (μ.1 0 18), .int (whoF e r (μ.1 10) (μ.1 11) (fun p => μ.1 25 (40 * s + p)) i)] [] u) (P := fun i u => frL μ u ∧ TxM tx u ∧ u.1 0 18 = nI i) (N := n) ?_ ?_ 0 μ3 (by omega) ⟨by rw [e3]; exact frL.w, hi.tx.w0 e3, by rw [e3, wI_s, upd_s]; rfl⟩
  · intro u ⟨f1, t1, k18⟩
    exact b_M_whose_16 ⟨fun _ μ1 e1 => g μ1 (back18 f1 e1) (t1.w0 e1), fun z => absurd (by rw [f1.2 17 (by omega), L2, k18]; exact Int32.le_refl _) z⟩
  · intro i u hin ⟨f1, t1, k18⟩ ih
    refine b_M_whose_16 ⟨fun z => absurd (le32.mp z) (by rw [f1.2 17 (by omega), L2, k18, nI_i (by omega), nI_i (by omega)]; omega), fun _ => ?_⟩
    have is1 : isM (setL e (μ.1 10 i) (μ.1 11 i)) tx t u := hi.sl (fun k hk => f1.2 k (by omega)) (fun k q1 q2 => f1.1.i k (by simp; omega)) k18 (by omega) t1
    have wf1 : wfE (setL e (μ.1 10 i) (μ.1 11 i)) := wf_setL hwf (L3 i (by omega)).1 (L3 i (by omega)).2
    refine M_unlike_ok is1 wf1 (by omega) (r := r) (fun j hj => by rw [f1.1.i 4]; exact hrow j hj) hok (fun s2 f2 t2 => ⟨_, rfl, ?_⟩)
    have k18' : s2.1 0 18 = nI i := by rw [f2.2 18 (by omega)]; exact k18
    rw [k18', nI_1, f1.1.i 25]
    have nxt : ∀ s7 : Mem, s7 = wI s2 0 (upd (s2.1 0) 18 (nI (i + 1))) → AA (Call (d + 68)) y_M_whose Q 16 [.ref 0, .int (nI s), .int _, .int (μ.1 0 18), .int (whoF e r (μ.1 10) (μ.1 11) (fun p => μ.1 25 (40 * s + p)) (i + 1))] [] s7 := fun s7 e7 => ih s7 ⟨(f1.trans f2.l).trans (by rw [e7]; exact frL.w), t2.w0 e7, by rw [e7, wI_s, upd_s]⟩
    simp only [whoF] at nxt
    refine ⟨fun z s7 e7 => ?_, fun z s7 e7 => ?_⟩
    · have g := nxt s7 e7
      rw [if_neg (show ¬ unlG (dE (setL e (μ.1 10 i) (μ.1 11 i)) r) (fun p => μ.1 25 (40 * s + p)) (npE e) 0 = -1 from z)] at g
      exact g
    · have g := nxt s7 e7
      rw [if_pos (show unlG (dE (setL e (μ.1 10 i) (μ.1 11 i)) r) (fun p => μ.1 25 (40 * s + p)) (npE e) 0 = -1 from z)] at g
      exact g
def zF (s : Int32) : Nat → Int32
  | 0 => s
  | n + 1 => zF s n * 1103515245 + 12345
def shF (z : Int32) : Int32 := (Int32.toUInt32 z >>> (Int32.toUInt32 10 &&& Int32.toUInt32 31)).toInt32
def drwF (s : Int32) (l : Nat) : Int32 := shF (zF s (l + 1)) - shF (zF s (l + 1)) / 20 * 20
theorem shF_0 (z : Int32) : 0 ≤ (shF z).toInt := by
  unfold shF
  have e : (Int32.toUInt32 10 &&& Int32.toUInt32 31) = 10 := by decide
  rw [e]
  have h1 : (Int32.toUInt32 z >>> 10).toNat < 4194304 := by
    rw [UInt32.toNat_shiftRight]
    have h2 : (10 : UInt32).toNat % 32 = 10 := rfl
    rw [h2, Nat.shiftRight_eq_div_pow]
    have h3 := UInt32.toNat_lt (Int32.toUInt32 z)
    omega
  generalize (Int32.toUInt32 z >>> 10) = u at h1
  have : u.toInt32.toInt = u.toBitVec.toInt := rfl
  rw [this, BitVec.toInt_eq_toNat_cond]
  have : u.toBitVec.toNat = u.toNat := rfl
  rw [this, if_pos (by omega)]
  omega
theorem drwF_ok (s : Int32) : rowOk (drwF s) := by
  intro j hj
  unfold drwF
  obtain ⟨n, hn, en, en2⟩ := nI_ex (shF_0 (zF s (j + 1)))
  rw [en]
  have := pk_rem (a := n) (d := 20) hn (by omega) (by omega)
  have e2 : nI n - nI n / 20 * 20 = nI (n % 20) := this
  rw [e2]
  unfold rng
  rw [nI_i (by omega)]
  omega
theorem M_draws_ok {d : Nat} {Q : QQ} {μ : Mem} {e : DE} {tx : Nat → Nat → List Int32} {t : Nat} {a : Int32} (hi : isM e tx t μ) (hwf : wfE e) (hQ : ∀ μ', frG μ μ' → TxM tx μ' → (∀ p, p < npE e → μ'.1 16 p = (dE e (drwF a)).2.1 p ∧ μ'.1 17 p = (dE e (drwF a)).2.2 p) → Q .null μ') : Call (d + 67) y_M_draws [.ref 0, .int a] μ Q := by
  refine b_M_draws_0 ?_
  refine loopN (G := fun l s => AA (Call (d + 66)) y_M_draws Q 4 [.ref 0, .int a, .int (zF a l), .int (nI l)] [] s) (P := fun l s => Only [14] μ s ∧ ∀ j, j < l → s.1 14 j = drwF a j) (N := 8) ?_ ?_ 0 μ (by omega) ⟨Only.rf, fun j hj => absurd hj (by omega)⟩
  · intro s ⟨h1, h2⟩
    refine b_M_draws_4 ⟨fun _ => ?_, fun c => absurd (by decide) c⟩
    have t1 : TxM tx s := hi.tx.fr h1 (by simp)
    exact M_passesDay_ok (hi.g h1.g t1) hwf h2 (drwF_ok a) (fun s2 f2 t2 rm2 sp2 _ => hQ s2 (h1.g.trans f2.g) t2 sp2)
  · intro l s hl ⟨h1, h2⟩ ih
    refine b_M_draws_4 ⟨fun c => absurd (le32.mp c) (by rw [nI_i (by omega)]; show ¬ (8 : Int) ≤ _; omega), fun _ => ⟨by decide, nI_v hl (by omega), fun μ2 e2 => ?_⟩⟩
    rw [nI_1]
    rw [nI_c (by omega)] at e2
    refine ih μ2 ⟨h1.trans (by rw [e2]; exact Only.w), fun j hj => ?_⟩
    rw [e2, wI_s]
    by_cases q : j = l
    · rw [q, upd_s]; rfl
    · rw [upd_n q]; exact h2 j (by omega)
theorem M_drawn_ok {d : Nat} {Q : QQ} {μ : Mem} {e : DE} {tx : Nat → Nat → List Int32} {t : Nat} {a : Int32} (hi : isM e tx t μ) (hwf : wfE e) (hQ : ∀ μ', frG μ μ' → TxM tx μ' → Q (.int (gdA e (drwF a))) μ') : Call (d + 68) y_M_drawn [.ref 0, .int a] μ Q :=
  b_M_drawn_0 (M_draws_ok hi hwf (fun s f1 t1 sp1 => M_allGood_ok (s := dE e (drwF a)) (hi.g f1 t1) hwf (dayF_said 24) sp1 (fun s2 f2 t2 => ⟨_, rfl, hQ s2 (f1.trans f2.g) t2⟩)))
noncomputable def chcF (e : DE) (a : Int32) : Nat → Nat
  | 0 => 0
  | k + 1 => chcF e a k + (if sayF (dE e (drwF (a + nI k))) (npE e) = nI (npE e) then 1 else 0)
theorem chcF_le {e : DE} {a : Int32} : ∀ n, chcF e a n ≤ n
  | 0 => Nat.le_refl _
  | n + 1 => by
    have := chcF_le (e := e) (a := a) n
    unfold chcF
    split <;> omega
def nL (n : Nat) : Int64 := (nI n).toInt64
theorem nL_i {n : Nat} (h : n < 2147483648) : (nL n).toInt = n := by unfold nL; rw [lI, nI_i h]
theorem nL_1 {n : Nat} (h : n < 2147483647) : nL n + 1 = nL (n + 1) := by
  apply Int64.toInt_inj.mp
  rw [Int64.toInt_add, nL_i (by omega), nL_i (by omega), show (1 : Int64).toInt = 1 from rfl]
  rw [Int.bmod_eq_of_le (by omega) (by omega)]
  omega
theorem nL_div {a b : Nat} (ha : a < 2147483648) (hb : b < 2147483648) : nL a / nL b = nL (a / b) := by
  apply Int64.toInt_inj.mp
  have h1 : a / b ≤ a := Nat.div_le_self _ _
  rw [Int64.toInt_div, nL_i ha, nL_i hb, nL_i (by omega), Int.tdiv_eq_ediv_of_nonneg (by omega)]
  rw [show (a : Int) / (b : Int) = ((a / b : Nat) : Int) by simp]
  generalize a / b = k at h1
  exact Int.bmod_eq_of_le (by omega) (by omega)
theorem nL_rem {a b : Nat} (ha : a < 2147483648) (hb : b < 2147483648) : nL a - nL a / nL b * nL b = nL (a % b) := by
  rw [nL_div ha hb]
  apply Int64.toInt_inj.mp
  have h1 : a / b ≤ a := Nat.div_le_self _ _
  have h2 : a % b ≤ a := Nat.mod_le _ _
  have h3 := Nat.div_add_mod a b
  have h4 : b * (a / b) ≤ a := by omega
  have h5 : ((a / b : Nat) : Int) * (b : Int) = ((b * (a / b) : Nat) : Int) := by rw [Nat.mul_comm]; simp
  have m : (nL (a / b) * nL b).toInt = ((b * (a / b) : Nat) : Int) := by
    rw [Int64.toInt_mul, nL_i (by omega), nL_i hb, h5]
    exact Int.bmod_eq_of_le (by omega) (by omega)
  rw [Int64.toInt_sub, m, nL_i ha, nL_i (by omega)]
  rw [Int.bmod_eq_of_le (by omega) (by omega)]
  omega
theorem nL_0 {n : Nat} (h : n < 2147483648) : nL n = 0 ↔ n = 0 := by
  constructor
  · intro z
    have := congrArg Int64.toInt z
    rw [nL_i h] at this
    have e : (0 : Int64).toInt = 0 := rfl
    omega
  · intro z
    subst z
    rfl
theorem lcmp_0 {a : Int64} : lg_cmp a 0 = 0 ↔ a = 0 := by
  constructor
  · intro z
    apply Int64.toInt_inj.mp
    have e : (0 : Int64).toInt = 0 := rfl
    have q1 : ¬ a.toInt < (0 : Int64).toInt := fun y => by
      have := lcmp_lt.mpr y
      rw [z] at this
      exact absurd this (by decide)
    have q2 : ¬ (0 : Int64).toInt < a.toInt := fun y => by
      have := lcmp_gt.mpr y
      rw [z] at this
      exact absurd this (by decide)
    omega
  · intro z
    subst z
    rfl
set_option maxRecDepth 20000 in
theorem b_M_chance_44L {d : Nat} {Q : QQ} {μ : Mem} {l1 : Int32} {l2 : Int32} {l3 : Int32} {l4 : Int64} {l6 : Int64} {l8 : Int64} {l10 : Int64} (hNF : ((lg_cmp l8 0) = 0 → ((¬ l3 = 0 → (¬ l6 = 0 ∧ (Q (.long ((Int32.toInt64 l2) / l6)) μ))) ∧
(l3 = 0 → (¬ l6 = 0 ∧ (Q (.long (l4 / l6)) μ))))) ∧
(¬ (lg_cmp l8 0) = 0 → (¬ l8 = 0 ∧ (AA (Call d) y_M_chance Q 44 [.ref 0, .int l1, .int l2, .int l3, .long l4, un, .long l8, un, .long (l6 - l6 / l8 * l8), un, .long (l6 - l6 / l8 * l8), un] [] μ)))) : AA (Call d) y_M_chance Q 44 [.ref 0, .int l1, .int l2, .int l3, .long l4, un, .long l6, un, .long l8, un, .long l10, un] [] μ := go_in 14 (code := pr_M_chance) (stops := [18, 44]) rfl rfl hNF
theorem M_chance_ok {d : Nat} {Q : QQ} {μ : Mem} {e : DE} {tx : Nat → Nat → List Int32} {t : Nat} {a b c : Int32} (hi : isM e tx t μ) (hwf : wfE e) (hb : ¬ (1 ≤ b.toInt ∧ b.toInt ≤ 20 ∧ 0 ≤ c.toInt ∧ c.toInt ≤ 1) → Q (.long (-4611686018427387904)) μ) (hg : 1 ≤ b.toInt ∧ b.toInt ≤ 20 ∧ 0 ≤ c.toInt ∧ c.toInt ≤ 1 → ∀ μ', frG μ μ' → TxM tx μ' → Q (.long (if c = 0 then nL (chcF e a b.toNatClampNeg / Nat.gcd (chcF e a b.toNatClampNeg) b.toNatClampNeg) else nL (b.toNatClampNeg / Nat.gcd (chcF e a b.toNatClampNeg) b.toNatClampNeg))) μ') : Call (d + 68) y_M_chance [.ref 0, .int a, .int b, .int c] μ Q := by
  have h5 := hwf.2.2.1
  refine b_M_chance_0 (M_in_ok (A := b.toInt) (B := 1) (C := 20) (lI _) rfl rfl ⟨_, rfl, b_z (fun c1 => hb (by omega)) (fun c1 => ?_)⟩)
  refine M_in_ok (A := c.toInt) (B := 0) (C := 1) (lI _) rfl rfl ⟨_, rfl, b_nz (fun c2 => ?_) (fun c2 => hb (by omega))⟩
  have g := hg (by omega)
  obtain ⟨n, hn, rfl, en⟩ := nI_ex (x := b) (by omega)
  rw [nI_c hn] at g
  have gcdL : ∀ (s : Mem), frG μ s → TxM tx s → ∀ (q p : Nat), q ≤ 20 → p ≤ 20 → (q ≠ 0 ∨ p ≠ 0) → Nat.gcd p q = Nat.gcd (chcF e a n) n → AA (Call (d + 67)) y_M_chance Q 44 [.ref 0, .int a, .int (nI n), .int c, .long (nL (chcF e a n)), un, .long (nL p), un, .long (nL q), un, un, un] [] s ∧ ∀ x : Int64, AA (Call (d + 67)) y_M_chance Q 44 [.ref 0, .int a, .int (nI n), .int c, .long (nL (chcF e a n)), un, .long (nL p), un, .long (nL q), un, .long x, un] [] s := by
    intro s f1 t1 q
    induction q using Nat.strongRecOn with
    | _ q ih =>
      intro p hq hp hne hgc
      have g := g s f1 t1
      have cle := chcF_le (e := e) (a := a) n
      have e1 : (Int32.toInt64 (nI n)) = nL n := rfl
      have nf : (lg_cmp (nL q) 0 = 0 → ((¬ c = 0 → (¬ nL p = 0 ∧ Q (.long (Int32.toInt64 (nI n) / nL p)) s)) ∧ (c = 0 → (¬ nL p = 0 ∧ Q (.long (nL (chcF e a n) / nL p)) s)))) ∧ (¬ lg_cmp (nL q) 0 = 0 → (¬ nL q = 0 ∧ AA (Call (d + 67)) y_M_chance Q 44 [.ref 0, .int a, .int (nI n), .int c, .long (nL (chcF e a n)), un, .long (nL q), un, .long (nL p - nL p / nL q * nL q), un, .long (nL p - nL p / nL q * nL q), un] [] s)) := by
        refine ⟨fun z => ?_, fun z => ?_⟩
        · have z := (nL_0 (n := q) (by omega)).mp (lcmp_0.mp z)
          subst z
          rw [Nat.gcd_zero_right] at hgc
          have hpn : ¬ nL p = 0 := fun y => by
            have := (nL_0 (n := p) (by omega)).mp y
            omega
          rw [e1, nL_div (by omega) (by omega), nL_div (by omega) (by omega)]
          rw [← hgc] at g
          refine ⟨fun z => ⟨hpn, ?_⟩, fun z => ⟨hpn, ?_⟩⟩
          · rw [if_neg z] at g; exact g
          · rw [if_pos z] at g; exact g
        · have z : ¬ q = 0 := fun y => z (lcmp_0.mpr ((nL_0 (n := q) (by omega)).mpr y))
          rw [nL_rem (by omega) (by omega)]
          refine ⟨fun y => z ((nL_0 (n := q) (by omega)).mp y), ?_⟩
          refine (ih (p % q) (Nat.mod_lt _ (by omega)) q (by have := Nat.mod_lt p (show q > 0 by omega); omega) hq (Or.inr z) ?_).2 _
          rw [← hgc, Nat.gcd_comm q (p % q), ← Nat.gcd_rec q p, Nat.gcd_comm]
      exact ⟨b_M_chance_44 nf, fun x => b_M_chance_44L nf⟩
  refine loopN (G := fun k s => AA (Call (d + 67)) y_M_chance Q 18 [.ref 0, .int a, .int (nI n), .int c, .long (nL (chcF e a k)), un, .int (nI k), un, un, un, un, un] [] s) (P := fun k s => frG μ s ∧ TxM tx s) (N := n) ?_ ?_ 0 μ (by omega) ⟨frG.rf, hi.tx⟩
  · intro s ⟨f1, t1⟩
    refine b_M_chance_18 ⟨fun _ => ?_, fun z => absurd (Int32.le_refl _) z⟩
    exact (gcdL s f1 t1 n (chcF e a n) (by omega) (by have := chcF_le (e := e) (a := a) n; omega) (Or.inl (by omega)) rfl).1
  · intro k s hk ⟨f1, t1⟩ ih
    refine b_M_chance_18 ⟨fun z => absurd (le32.mp z) (by rw [nI_i (by omega), nI_i (by omega)]; omega), fun _ => ?_⟩
    rw [nI_1]
    have is1 := hi.g f1 t1
    refine M_draws_ok is1 hwf (fun s2 f2 t2 sp2 => ?_)
    have is2 := is1.g f2 t2
    refine M_saying_ok (s := dE e (drwF (a + nI k))) h5 is2.2.2.1 (fun p hp => (sp2 p hp).1) ⟨_, rfl, ?_⟩
    rw [is2.2.2.1]
    have g := ih s2 ⟨f1.trans f2, t2⟩
    have cle := chcF_le (e := e) (a := a) k
    simp only [chcF] at g
    refine ⟨fun z => ?_, fun z => ?_⟩
    · rw [if_neg z] at g
      rw [Int64.add_zero]
      exact g
    · rw [if_pos z, ← nL_1 (by omega)] at g
      exact g
end
