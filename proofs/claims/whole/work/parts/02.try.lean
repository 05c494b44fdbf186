theorem b_M_in_0 (d : Nat) (Q : QQ) (μ : Mem) (a : Int64) (b : Int64) (c : Int64) (h : ((lg_cmp a b) < 0 → (narrow .boolean (.int 0) = .int 0 ∧ Q (.int 0) μ)) ∧
(¬ (lg_cmp a b) < 0 → (((0 : Int32) < (lg_cmp a c) → (narrow .boolean (.int 0) = .int 0 ∧ Q (.int 0) μ)) ∧
(¬ (0 : Int32) < (lg_cmp a c) → (narrow .boolean (.int 1) = .int 1 ∧ Q (.int 1) μ))))) : AA (Call d) 45 Q 0 [.long a, un, .long b, un, .long c, un] [] μ := go_in 11 (code := pr_M_in) (stops := []) rfl rfl h

theorem b_M_isOf_0 (d : Nat) (Q : QQ) (μ : Mem) (a : Int32) (b : Int32) (h : (¬ a = 0 → (((4 : Int32) ≤ a → (((6 : Int32) ≤ a → (Call d 48 [.ref 0, .int b] μ (fun ρ μ1 => ∃ r2 : Int32, ρ = .int r2 ∧ (narrow .boolean (.int r2) = .int r2 ∧ Q (.int r2) μ1)))) ∧
(¬ (6 : Int32) ≤ a → (Call d 50 [.ref 0, .int b] μ (fun ρ μ3 => ∃ r4 : Int32, ρ = .int r4 ∧ (narrow .boolean (.int r4) = .int r4 ∧ Q (.int r4) μ3)))))) ∧
(¬ (4 : Int32) ≤ a → (Call d 49 [.ref 0, .int b] μ (fun ρ μ5 => ∃ r6 : Int32, ρ = .int r6 ∧ (narrow .boolean (.int r6) = .int r6 ∧ Q (.int r6) μ5)))))) ∧
(a = 0 → (Call d 45 [.long (Int32.toInt64 b), .long 0, .long 7] μ (fun ρ μ7 => ∃ r8 : Int32, ρ = .int r8 ∧ (narrow .boolean (.int r8) = .int r8 ∧ Q (.int r8) μ7))))) : AA (Call d) 51 Q 0 [.ref 0, .int a, .int b] [] μ := go_in 13 (code := pr_M_isOf) (stops := []) rfl rfl h

theorem b_X_rule_0 (d : Nat) (Q : QQ) (μ : Mem) (a : Int32) (h : Call d 35 [.int a, .int ((μ.1 20 2) - 1)] μ (fun ρ μ1 => ∃ r2 : Int32, ρ = .int r2 ∧ ((¬ r2 = 0 → (∀ μ3 : Mem, μ3 = wI μ1 20 (upd (μ1.1 20) 3 a) → (Q (.int (μ1.1 20 3)) μ3))) ∧
(r2 = 0 → (Q (.int (-2)) μ1))))) : AA (Call d) 5 Q 0 [.ref 0, .int a, un] [] μ := go_in 18 (code := pr_X_rule) (stops := []) rfl rfl h

theorem b_M_takes_0 (d : Nat) (Q : QQ) (μ : Mem) (h : AA (Call d) 84 Q 2 [.ref 0, .int 0] [] μ) : AA (Call d) 84 Q 0 [.ref 0, un] [] μ := go_in 3 (code := pr_M_takes) (stops := [2]) rfl rfl h

theorem b_M_told_0 (d : Nat) (Q : QQ) (μ : Mem) (a : Int32) (b : Int32) (h : Call d 45 [.long (Int32.toInt64 b), .long 0, .long 7] μ (fun ρ μ1 => ∃ r2 : Int32, ρ = .int r2 ∧ ((r2 = 0 → (Q (.int (-2)) μ1)) ∧
(¬ r2 = 0 → (Call d 51 [.ref 0, .int b, .int a] μ1 (fun ρ μ3 => ∃ r4 : Int32, ρ = .int r4 ∧ ((¬ r4 = 0 → (((4 : Int32) ≤ b → (((6 : Int32) ≤ b → ((¬ b = 6 → (vp_in a 10 ∧ (Call d 53 [.int (μ3.1 6 a.toNatClampNeg)] μ3 (fun ρ μ5 => ∃ r6 : Int32, ρ = .int r6 ∧ (Q (.int r6) μ5))))) ∧
(b = 6 → (vp_in a 10 ∧ (Q (.int (μ3.1 5 a.toNatClampNeg)) μ3))))) ∧
(¬ (6 : Int32) ≤ b → ((¬ b = 4 → (vp_in a 6 ∧ (Q (.int (μ3.1 10 a.toNatClampNeg)) μ3))) ∧
(b = 4 → (vp_in a 6 ∧ (Q (.int (μ3.1 11 a.toNatClampNeg)) μ3))))))) ∧
(¬ (4 : Int32) ≤ b → ((¬ b = 0 → ((¬ b = 1 → ((¬ b = 2 → (vp_in a 5 ∧ (Q (.int (μ3.1 9 a.toNatClampNeg)) μ3))) ∧
(b = 2 → (vp_in a 5 ∧ (Q (.int (μ3.1 8 a.toNatClampNeg)) μ3))))) ∧
(b = 1 → (vp_in a 5 ∧ (Q (.int (μ3.1 7 a.toNatClampNeg)) μ3))))) ∧
(b = 0 → (vp_in a 8 ∧ (Q (.int (μ3.1 4 a.toNatClampNeg)) μ3))))))) ∧
(r4 = 0 → (Q (.int (-2)) μ3))))))))) : AA (Call d) 54 Q 0 [.ref 0, .int a, .int b] [] μ := go_in 28 (code := pr_M_told) (stops := []) rfl rfl h

theorem b_M_set_0 (d : Nat) (Q : QQ) (μ : Mem) (a : Int32) (b : Int32) (c : Int32) (h : Call d 45 [.long (Int32.toInt64 a), .long 0, .long 4] μ (fun ρ μ1 => ∃ r2 : Int32, ρ = .int r2 ∧ ((r2 = 0 → (Q (.int (-2)) μ1)) ∧
(¬ r2 = 0 → (Call d 51 [.ref 0, .int a, .int b] μ1 (fun ρ μ3 => ∃ r4 : Int32, ρ = .int r4 ∧ ((r4 = 0 → (Q (.int (-2)) μ3)) ∧
(¬ r4 = 0 → ((¬ a = 0 → ((¬ a = 1 → ((¬ a = 2 → ((¬ a = 3 → (Call d 45 [.long (Int32.toInt64 c), .long 0, .long 9] μ3 (fun ρ μ5 => ∃ r6 : Int32, ρ = .int r6 ∧ ((¬ r6 = 0 → (Call d 54 [.ref 0, .int b, .int a] μ5 (fun ρ μ7 => ∃ r8 : Int32, ρ = .int r8 ∧ ((¬ a = 0 → ((¬ a = 1 → ((¬ a = 2 → ((¬ a = 3 → (vp_in b 6 ∧ ∀ μ9 : Mem, μ9 = wI μ7 11 (upd (μ7.1 11) b.toNatClampNeg c) → (Q (.int r8) μ9))) ∧
(a = 3 → (vp_in b 5 ∧ ∀ μ10 : Mem, μ10 = wI μ7 9 (upd (μ7.1 9) b.toNatClampNeg c) → (Q (.int r8) μ10))))) ∧
(a = 2 → (vp_in b 5 ∧ ∀ μ11 : Mem, μ11 = wI μ7 8 (upd (μ7.1 8) b.toNatClampNeg c) → (Q (.int r8) μ11))))) ∧
(a = 1 → (vp_in b 5 ∧ ∀ μ12 : Mem, μ12 = wI μ7 7 (upd (μ7.1 7) b.toNatClampNeg c) → (Q (.int r8) μ12))))) ∧
(a = 0 → (vp_in b 8 ∧ ∀ μ13 : Mem, μ13 = wI μ7 4 (upd (μ7.1 4) b.toNatClampNeg c) → (Q (.int r8) μ13))))))) ∧
(r6 = 0 → (Q (.int (-2)) μ5)))))) ∧
(a = 3 → (Call d 45 [.long (Int32.toInt64 c), .long 0, .long 9999] μ3 (fun ρ μ14 => ∃ r15 : Int32, ρ = .int r15 ∧ ((¬ r15 = 0 → (Call d 54 [.ref 0, .int b, .int a] μ14 (fun ρ μ16 => ∃ r17 : Int32, ρ = .int r17 ∧ ((¬ a = 0 → ((¬ a = 1 → ((¬ a = 2 → ((¬ a = 3 → (vp_in b 6 ∧ ∀ μ18 : Mem, μ18 = wI μ16 11 (upd (μ16.1 11) b.toNatClampNeg c) → (Q (.int r17) μ18))) ∧
(a = 3 → (vp_in b 5 ∧ ∀ μ19 : Mem, μ19 = wI μ16 9 (upd (μ16.1 9) b.toNatClampNeg c) → (Q (.int r17) μ19))))) ∧
(a = 2 → (vp_in b 5 ∧ ∀ μ20 : Mem, μ20 = wI μ16 8 (upd (μ16.1 8) b.toNatClampNeg c) → (Q (.int r17) μ20))))) ∧
(a = 1 → (vp_in b 5 ∧ ∀ μ21 : Mem, μ21 = wI μ16 7 (upd (μ16.1 7) b.toNatClampNeg c) → (Q (.int r17) μ21))))) ∧
(a = 0 → (vp_in b 8 ∧ ∀ μ22 : Mem, μ22 = wI μ16 4 (upd (μ16.1 4) b.toNatClampNeg c) → (Q (.int r17) μ22))))))) ∧
(r15 = 0 → (Q (.int (-2)) μ14)))))))) ∧
(a = 2 → (Call d 45 [.long (Int32.toInt64 c), .long 0, .long 23] μ3 (fun ρ μ23 => ∃ r24 : Int32, ρ = .int r24 ∧ ((¬ r24 = 0 → (Call d 54 [.ref 0, .int b, .int a] μ23 (fun ρ μ25 => ∃ r26 : Int32, ρ = .int r26 ∧ ((¬ a = 0 → ((¬ a = 1 → ((¬ a = 2 → ((¬ a = 3 → (vp_in b 6 ∧ ∀ μ27 : Mem, μ27 = wI μ25 11 (upd (μ25.1 11) b.toNatClampNeg c) → (Q (.int r26) μ27))) ∧
(a = 3 → (vp_in b 5 ∧ ∀ μ28 : Mem, μ28 = wI μ25 9 (upd (μ25.1 9) b.toNatClampNeg c) → (Q (.int r26) μ28))))) ∧
(a = 2 → (vp_in b 5 ∧ ∀ μ29 : Mem, μ29 = wI μ25 8 (upd (μ25.1 8) b.toNatClampNeg c) → (Q (.int r26) μ29))))) ∧
(a = 1 → (vp_in b 5 ∧ ∀ μ30 : Mem, μ30 = wI μ25 7 (upd (μ25.1 7) b.toNatClampNeg c) → (Q (.int r26) μ30))))) ∧
(a = 0 → (vp_in b 8 ∧ ∀ μ31 : Mem, μ31 = wI μ25 4 (upd (μ25.1 4) b.toNatClampNeg c) → (Q (.int r26) μ31))))))) ∧
(r24 = 0 → (Q (.int (-2)) μ23)))))))) ∧
(a = 1 → (Call d 45 [.long (Int32.toInt64 c), .long 0, .long 3] μ3 (fun ρ μ32 => ∃ r33 : Int32, ρ = .int r33 ∧ ((¬ r33 = 0 → (Call d 54 [.ref 0, .int b, .int a] μ32 (fun ρ μ34 => ∃ r35 : Int32, ρ = .int r35 ∧ ((¬ a = 0 → ((¬ a = 1 → ((¬ a = 2 → ((¬ a = 3 → (vp_in b 6 ∧ ∀ μ36 : Mem, μ36 = wI μ34 11 (upd (μ34.1 11) b.toNatClampNeg c) → (Q (.int r35) μ36))) ∧
(a = 3 → (vp_in b 5 ∧ ∀ μ37 : Mem, μ37 = wI μ34 9 (upd (μ34.1 9) b.toNatClampNeg c) → (Q (.int r35) μ37))))) ∧
(a = 2 → (vp_in b 5 ∧ ∀ μ38 : Mem, μ38 = wI μ34 8 (upd (μ34.1 8) b.toNatClampNeg c) → (Q (.int r35) μ38))))) ∧
(a = 1 → (vp_in b 5 ∧ ∀ μ39 : Mem, μ39 = wI μ34 7 (upd (μ34.1 7) b.toNatClampNeg c) → (Q (.int r35) μ39))))) ∧
(a = 0 → (vp_in b 8 ∧ ∀ μ40 : Mem, μ40 = wI μ34 4 (upd (μ34.1 4) b.toNatClampNeg c) → (Q (.int r35) μ40))))))) ∧
(r33 = 0 → (Q (.int (-2)) μ32)))))))) ∧
(a = 0 → (Call d 45 [.long (Int32.toInt64 c), .long 0, .long 999] μ3 (fun ρ μ41 => ∃ r42 : Int32, ρ = .int r42 ∧ ((¬ r42 = 0 → (Call d 54 [.ref 0, .int b, .int a] μ41 (fun ρ μ43 => ∃ r44 : Int32, ρ = .int r44 ∧ ((¬ a = 0 → ((¬ a = 1 → ((¬ a = 2 → ((¬ a = 3 → (vp_in b 6 ∧ ∀ μ45 : Mem, μ45 = wI μ43 11 (upd (μ43.1 11) b.toNatClampNeg c) → (Q (.int r44) μ45))) ∧
(a = 3 → (vp_in b 5 ∧ ∀ μ46 : Mem, μ46 = wI μ43 9 (upd (μ43.1 9) b.toNatClampNeg c) → (Q (.int r44) μ46))))) ∧
(a = 2 → (vp_in b 5 ∧ ∀ μ47 : Mem, μ47 = wI μ43 8 (upd (μ43.1 8) b.toNatClampNeg c) → (Q (.int r44) μ47))))) ∧
(a = 1 → (vp_in b 5 ∧ ∀ μ48 : Mem, μ48 = wI μ43 7 (upd (μ43.1 7) b.toNatClampNeg c) → (Q (.int r44) μ48))))) ∧
(a = 0 → (vp_in b 8 ∧ ∀ μ49 : Mem, μ49 = wI μ43 4 (upd (μ43.1 4) b.toNatClampNeg c) → (Q (.int r44) μ49))))))) ∧
(r42 = 0 → (Q (.int (-2)) μ41))))))))))))))) : AA (Call d) 52 Q 0 [.ref 0, .int a, .int b, .int c, un] [] μ := go_in 53 (code := pr_M_set) (stops := []) rfl rfl h

theorem b_X_set_0 (d : Nat) (Q : QQ) (μ : Mem) (a : Int32) (b : Int32) (c : Int32) (h : (a = 0 → (Call d 36 [.ref 1, .int 8, .int b, .int c, .int 999] μ (fun ρ μ1 => ∃ r2 : Int32, ρ = .int r2 ∧ (Q (.int r2) μ1)))) ∧
(¬ a = 0 → ((a = 1 → (Call d 36 [.ref 17, .int (μ.1 16 3), .int b, .int c, .int 3] μ (fun ρ μ3 => ∃ r4 : Int32, ρ = .int r4 ∧ (Q (.int r4) μ3)))) ∧
(¬ a = 1 → ((a = 2 → (Call d 36 [.ref 18, .int (μ.1 16 3), .int b, .int c, .int 23] μ (fun ρ μ5 => ∃ r6 : Int32, ρ = .int r6 ∧ (Q (.int r6) μ5)))) ∧
(¬ a = 2 → ((a = 3 → (Call d 36 [.ref 19, .int (μ.1 16 3), .int b, .int c, .int 9999] μ (fun ρ μ7 => ∃ r8 : Int32, ρ = .int r8 ∧ (Q (.int r8) μ7)))) ∧
(¬ a = 3 → ((a = 4 → (Call d 36 [.ref 22, .int (μ.1 20 2), .int b, .int c, .int 9] μ (fun ρ μ9 => ∃ r10 : Int32, ρ = .int r10 ∧ (Q (.int r10) μ9)))) ∧
(¬ a = 4 → (Q (.int (-2)) μ))))))))))) : AA (Call d) 0 Q 0 [.ref 0, .int a, .int b, .int c] [] μ := go_in 13 (code := pr_X_set) (stops := []) rfl rfl h

