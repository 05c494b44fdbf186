set_option maxRecDepth 20000 in
theorem b_M_in_0 {d : Nat} {Q : QQ} {μ : Mem} {a : Int64} {b : Int64} {c : Int64} (hNF : ((lg_cmp a b) < 0 → (narrow .boolean (.int 0) = .int 0 ∧ Q (.int 0) μ)) ∧
(¬ (lg_cmp a b) < 0 → (((0 : Int32) < (lg_cmp a c) → (narrow .boolean (.int 0) = .int 0 ∧ Q (.int 0) μ)) ∧
(¬ (0 : Int32) < (lg_cmp a c) → (narrow .boolean (.int 1) = .int 1 ∧ Q (.int 1) μ))))) : AA (Call d) y_M_in Q 0 [.long a, un, .long b, un, .long c, un] [] μ := go_in 11 (code := pr_M_in) (stops := []) rfl rfl hNF
set_option maxRecDepth 20000 in
theorem b_M_within_0 {d : Nat} {Q : QQ} {μ : Mem} {a : Int32} {b : Int32} {c : Int32} (hNF : (b ≤ a → ((a ≤ c → (Q (.int a) μ)) ∧
(¬ a ≤ c → (Q (.int c) μ)))) ∧
(¬ b ≤ a → (Q (.int b) μ))) : AA (Call d) y_M_within Q 0 [.int a, .int b, .int c] [] μ := go_in 9 (code := pr_M_within) (stops := []) rfl rfl hNF
set_option maxRecDepth 20000 in
theorem b_M_spell_0 {d : Nat} {Q : QQ} {μ : Mem} {a : Int32} {b : Int32} {c : Int32} {e : Int32} {f : Int32} {g : Int32} {u : Int32} {v : Int32} {w : Int32} (hNF : vp_in a 960 ∧ ∀ μ1 : Mem, μ1 = wI μ 1 (upd (μ.1 1) a.toNatClampNeg b) → (vp_in (a + 1) 960 ∧ ∀ μ2 : Mem, μ2 = wI μ1 1 (upd (μ1.1 1) (Int32.toNatClampNeg (a + 1)) c) → (vp_in (a + 2) 960 ∧ ∀ μ3 : Mem, μ3 = wI μ2 1 (upd (μ2.1 1) (Int32.toNatClampNeg (a + 2)) e) → (vp_in (a + 3) 960 ∧ ∀ μ4 : Mem, μ4 = wI μ3 1 (upd (μ3.1 1) (Int32.toNatClampNeg (a + 3)) f) → (vp_in (a + 4) 960 ∧ ∀ μ5 : Mem, μ5 = wI μ4 1 (upd (μ4.1 1) (Int32.toNatClampNeg (a + 4)) g) → (vp_in (a + 5) 960 ∧ ∀ μ6 : Mem, μ6 = wI μ5 1 (upd (μ5.1 1) (Int32.toNatClampNeg (a + 5)) u) → (vp_in (a + 6) 960 ∧ ∀ μ7 : Mem, μ7 = wI μ6 1 (upd (μ6.1 1) (Int32.toNatClampNeg (a + 6)) v) → (vp_in (a + 7) 960 ∧ ∀ μ8 : Mem, μ8 = wI μ7 1 (upd (μ7.1 1) (Int32.toNatClampNeg (a + 7)) w) → (Q .null μ8))))))))) : AA (Call d) y_M_spell Q 0 [.ref 0, .int a, .int b, .int c, .int e, .int f, .int g, .int u, .int v, .int w] [] μ := go_in 55 (code := pr_M_spell) (stops := []) rfl rfl hNF
set_option maxRecDepth 20000 in
theorem b_M_isWordNumber_0 {d : Nat} {Q : QQ} {μ : Mem} {a : Int32} (hNF : Call d y_M_in [.long (Int32.toInt64 a), .long 0, .long (Int32.toInt64 ((μ.1 0 10) - 1))] μ (fun ρ μ1 => ∃ r2 : Int32, ρ = .int r2 ∧ (narrow .boolean (.int r2) = .int r2 ∧ Q (.int r2) μ1))) : AA (Call d) y_M_isWordNumber Q 0 [.ref 0, .int a] [] μ := go_in 10 (code := pr_M_isWordNumber) (stops := []) rfl rfl hNF
set_option maxRecDepth 20000 in
theorem b_M_isWriter_0 {d : Nat} {Q : QQ} {μ : Mem} {a : Int32} (hNF : Call d y_M_in [.long (Int32.toInt64 a), .long 0, .long (Int32.toInt64 ((μ.1 0 14) - 1))] μ (fun ρ μ1 => ∃ r2 : Int32, ρ = .int r2 ∧ (narrow .boolean (.int r2) = .int r2 ∧ Q (.int r2) μ1))) : AA (Call d) y_M_isWriter Q 0 [.ref 0, .int a] [] μ := go_in 10 (code := pr_M_isWriter) (stops := []) rfl rfl hNF
set_option maxRecDepth 20000 in
theorem b_M_isLaw_0 {d : Nat} {Q : QQ} {μ : Mem} {a : Int32} (hNF : Call d y_M_in [.long (Int32.toInt64 a), .long 0, .long (Int32.toInt64 ((μ.1 0 17) - 1))] μ (fun ρ μ1 => ∃ r2 : Int32, ρ = .int r2 ∧ (narrow .boolean (.int r2) = .int r2 ∧ Q (.int r2) μ1))) : AA (Call d) y_M_isLaw Q 0 [.ref 0, .int a] [] μ := go_in 10 (code := pr_M_isLaw) (stops := []) rfl rfl hNF
set_option maxRecDepth 20000 in
theorem b_M_isOf_0 {d : Nat} {Q : QQ} {μ : Mem} {a : Int32} {b : Int32} (hNF : (¬ a = 0 → (((4 : Int32) ≤ a → (((6 : Int32) ≤ a → (Call d y_M_isWordNumber [.ref 0, .int b] μ (fun ρ μ1 => ∃ r2 : Int32, ρ = .int r2 ∧ (narrow .boolean (.int r2) = .int r2 ∧ Q (.int r2) μ1)))) ∧
(¬ (6 : Int32) ≤ a → (Call d y_M_isLaw [.ref 0, .int b] μ (fun ρ μ3 => ∃ r4 : Int32, ρ = .int r4 ∧ (narrow .boolean (.int r4) = .int r4 ∧ Q (.int r4) μ3)))))) ∧
(¬ (4 : Int32) ≤ a → (Call d y_M_isWriter [.ref 0, .int b] μ (fun ρ μ5 => ∃ r6 : Int32, ρ = .int r6 ∧ (narrow .boolean (.int r6) = .int r6 ∧ Q (.int r6) μ5)))))) ∧
(a = 0 → (Call d y_M_in [.long (Int32.toInt64 b), .long 0, .long 7] μ (fun ρ μ7 => ∃ r8 : Int32, ρ = .int r8 ∧ (narrow .boolean (.int r8) = .int r8 ∧ Q (.int r8) μ7))))) : AA (Call d) y_M_isOf Q 0 [.ref 0, .int a, .int b] [] μ := go_in 13 (code := pr_M_isOf) (stops := []) rfl rfl hNF
set_option maxRecDepth 20000 in
theorem b_M_set_0 {d : Nat} {Q : QQ} {μ : Mem} {a : Int32} {b : Int32} {c : Int32} (hNF : Call d y_M_in [.long (Int32.toInt64 a), .long 0, .long 4] μ (fun ρ μ1 => ∃ r2 : Int32, ρ = .int r2 ∧ ((r2 = 0 → (Q (.int (-2)) μ1)) ∧
(¬ r2 = 0 → (Call d y_M_isOf [.ref 0, .int a, .int b] μ1 (fun ρ μ3 => ∃ r4 : Int32, ρ = .int r4 ∧ ((r4 = 0 → (Q (.int (-2)) μ3)) ∧
(¬ r4 = 0 → ((¬ a = 0 → ((¬ a = 1 → ((¬ a = 2 → ((¬ a = 3 → (Call d y_M_in [.long (Int32.toInt64 c), .long 0, .long 9] μ3 (fun ρ μ5 => ∃ r6 : Int32, ρ = .int r6 ∧ ((¬ r6 = 0 → (Call d y_M_told [.ref 0, .int b, .int a] μ5 (fun ρ μ7 => ∃ r8 : Int32, ρ = .int r8 ∧ ((¬ a = 0 → ((¬ a = 1 → ((¬ a = 2 → ((¬ a = 3 → (vp_in b 6 ∧ ∀ μ9 : Mem, μ9 = wI μ7 11 (upd (μ7.1 11) b.toNatClampNeg c) → (Q (.int r8) μ9))) ∧
(a = 3 → (vp_in b 5 ∧ ∀ μ10 : Mem, μ10 = wI μ7 9 (upd (μ7.1 9) b.toNatClampNeg c) → (Q (.int r8) μ10))))) ∧
(a = 2 → (vp_in b 5 ∧ ∀ μ11 : Mem, μ11 = wI μ7 8 (upd (μ7.1 8) b.toNatClampNeg c) → (Q (.int r8) μ11))))) ∧
(a = 1 → (vp_in b 5 ∧ ∀ μ12 : Mem, μ12 = wI μ7 7 (upd (μ7.1 7) b.toNatClampNeg c) → (Q (.int r8) μ12))))) ∧
(a = 0 → (vp_in b 8 ∧ ∀ μ13 : Mem, μ13 = wI μ7 4 (upd (μ7.1 4) b.toNatClampNeg c) → (Q (.int r8) μ13))))))) ∧
(r6 = 0 → (Q (.int (-2)) μ5)))))) ∧
(a = 3 → (Call d y_M_in [.long (Int32.toInt64 c), .long 0, .long 9999] μ3 (fun ρ μ14 => ∃ r15 : Int32, ρ = .int r15 ∧ ((¬ r15 = 0 → (Call d y_M_told [.ref 0, .int b, .int a] μ14 (fun ρ μ16 => ∃ r17 : Int32, ρ = .int r17 ∧ ((¬ a = 0 → ((¬ a = 1 → ((¬ a = 2 → ((¬ a = 3 → (vp_in b 6 ∧ ∀ μ18 : Mem, μ18 = wI μ16 11 (upd (μ16.1 11) b.toNatClampNeg c) → (Q (.int r17) μ18))) ∧
(a = 3 → (vp_in b 5 ∧ ∀ μ19 : Mem, μ19 = wI μ16 9 (upd (μ16.1 9) b.toNatClampNeg c) → (Q (.int r17) μ19))))) ∧
(a = 2 → (vp_in b 5 ∧ ∀ μ20 : Mem, μ20 = wI μ16 8 (upd (μ16.1 8) b.toNatClampNeg c) → (Q (.int r17) μ20))))) ∧
(a = 1 → (vp_in b 5 ∧ ∀ μ21 : Mem, μ21 = wI μ16 7 (upd (μ16.1 7) b.toNatClampNeg c) → (Q (.int r17) μ21))))) ∧
(a = 0 → (vp_in b 8 ∧ ∀ μ22 : Mem, μ22 = wI μ16 4 (upd (μ16.1 4) b.toNatClampNeg c) → (Q (.int r17) μ22))))))) ∧
(r15 = 0 → (Q (.int (-2)) μ14)))))))) ∧
(a = 2 → (Call d y_M_in [.long (Int32.toInt64 c), .long 0, .long 23] μ3 (fun ρ μ23 => ∃ r24 : Int32, ρ = .int r24 ∧ ((¬ r24 = 0 → (Call d y_M_told [.ref 0, .int b, .int a] μ23 (fun ρ μ25 => ∃ r26 : Int32, ρ = .int r26 ∧ ((¬ a = 0 → ((¬ a = 1 → ((¬ a = 2 → ((¬ a = 3 → (vp_in b 6 ∧ ∀ μ27 : Mem, μ27 = wI μ25 11 (upd (μ25.1 11) b.toNatClampNeg c) → (Q (.int r26) μ27))) ∧
(a = 3 → (vp_in b 5 ∧ ∀ μ28 : Mem, μ28 = wI μ25 9 (upd (μ25.1 9) b.toNatClampNeg c) → (Q (.int r26) μ28))))) ∧
(a = 2 → (vp_in b 5 ∧ ∀ μ29 : Mem, μ29 = wI μ25 8 (upd (μ25.1 8) b.toNatClampNeg c) → (Q (.int r26) μ29))))) ∧
(a = 1 → (vp_in b 5 ∧ ∀ μ30 : Mem, μ30 = wI μ25 7 (upd (μ25.1 7) b.toNatClampNeg c) → (Q (.int r26) μ30))))) ∧
(a = 0 → (vp_in b 8 ∧ ∀ μ31 : Mem, μ31 = wI μ25 4 (upd (μ25.1 4) b.toNatClampNeg c) → (Q (.int r26) μ31))))))) ∧
(r24 = 0 → (Q (.int (-2)) μ23)))))))) ∧
(a = 1 → (Call d y_M_in [.long (Int32.toInt64 c), .long 0, .long 3] μ3 (fun ρ μ32 => ∃ r33 : Int32, ρ = .int r33 ∧ ((¬ r33 = 0 → (Call d y_M_told [.ref 0, .int b, .int a] μ32 (fun ρ μ34 => ∃ r35 : Int32, ρ = .int r35 ∧ ((¬ a = 0 → ((¬ a = 1 → ((¬ a = 2 → ((¬ a = 3 → (vp_in b 6 ∧ ∀ μ36 : Mem, μ36 = wI μ34 11 (upd (μ34.1 11) b.toNatClampNeg c) → (Q (.int r35) μ36))) ∧
(a = 3 → (vp_in b 5 ∧ ∀ μ37 : Mem, μ37 = wI μ34 9 (upd (μ34.1 9) b.toNatClampNeg c) → (Q (.int r35) μ37))))) ∧
(a = 2 → (vp_in b 5 ∧ ∀ μ38 : Mem, μ38 = wI μ34 8 (upd (μ34.1 8) b.toNatClampNeg c) → (Q (.int r35) μ38))))) ∧
(a = 1 → (vp_in b 5 ∧ ∀ μ39 : Mem, μ39 = wI μ34 7 (upd (μ34.1 7) b.toNatClampNeg c) → (Q (.int r35) μ39))))) ∧
(a = 0 → (vp_in b 8 ∧ ∀ μ40 : Mem, μ40 = wI μ34 4 (upd (μ34.1 4) b.toNatClampNeg c) → (Q (.int r35) μ40))))))) ∧
(r33 = 0 → (Q (.int (-2)) μ32)))))))) ∧
(a = 0 → (Call d y_M_in [.long (Int32.toInt64 c), .long 0, .long 999] μ3 (fun ρ μ41 => ∃ r42 : Int32, ρ = .int r42 ∧ ((¬ r42 = 0 → (Call d y_M_told [.ref 0, .int b, .int a] μ41 (fun ρ μ43 => ∃ r44 : Int32, ρ = .int r44 ∧ ((¬ a = 0 → ((¬ a = 1 → ((¬ a = 2 → ((¬ a = 3 → (vp_in b 6 ∧ ∀ μ45 : Mem, μ45 = wI μ43 11 (upd (μ43.1 11) b.toNatClampNeg c) → (Q (.int r44) μ45))) ∧
(a = 3 → (vp_in b 5 ∧ ∀ μ46 : Mem, μ46 = wI μ43 9 (upd (μ43.1 9) b.toNatClampNeg c) → (Q (.int r44) μ46))))) ∧
(a = 2 → (vp_in b 5 ∧ ∀ μ47 : Mem, μ47 = wI μ43 8 (upd (μ43.1 8) b.toNatClampNeg c) → (Q (.int r44) μ47))))) ∧
(a = 1 → (vp_in b 5 ∧ ∀ μ48 : Mem, μ48 = wI μ43 7 (upd (μ43.1 7) b.toNatClampNeg c) → (Q (.int r44) μ48))))) ∧
(a = 0 → (vp_in b 8 ∧ ∀ μ49 : Mem, μ49 = wI μ43 4 (upd (μ43.1 4) b.toNatClampNeg c) → (Q (.int r44) μ49))))))) ∧
(r42 = 0 → (Q (.int (-2)) μ41))))))))))))))) : AA (Call d) y_M_set Q 0 [.ref 0, .int a, .int b, .int c, un] [] μ := go_in 53 (code := pr_M_set) (stops := []) rfl rfl hNF
set_option maxRecDepth 20000 in
theorem b_M_sizeOf_0 {d : Nat} {Q : QQ} {μ : Mem} {a : Int32} (hNF : AA (Call d) y_M_sizeOf Q 4 [.int a, .int 0, .int a] [] μ) : AA (Call d) y_M_sizeOf Q 0 [.int a, un, un] [] μ := go_in 5 (code := pr_M_sizeOf) (stops := [4]) rfl rfl hNF
set_option maxRecDepth 20000 in
theorem b_M_sizeOf_4 {d : Nat} {Q : QQ} {μ : Mem} {l0 : Int32} {l1 : Int32} {l2 : Int32} (hNF : (l2 ≤ 0 → (Q (.int l1) μ)) ∧
(¬ l2 ≤ 0 → (¬ (10 : Int32) = 0 ∧ (AA (Call d) y_M_sizeOf Q 4 [.int l0, .int (l1 + 1), .int (l2 / 10)] [] μ)))) : AA (Call d) y_M_sizeOf Q 4 [.int l0, .int l1, .int l2] [] μ := go_in 9 (code := pr_M_sizeOf) (stops := [4]) rfl rfl hNF
set_option maxRecDepth 20000 in
theorem b_M_told_0 {d : Nat} {Q : QQ} {μ : Mem} {a : Int32} {b : Int32} (hNF : Call d y_M_in [.long (Int32.toInt64 b), .long 0, .long 7] μ (fun ρ μ1 => ∃ r2 : Int32, ρ = .int r2 ∧ ((r2 = 0 → (Q (.int (-2)) μ1)) ∧
(¬ r2 = 0 → (Call d y_M_isOf [.ref 0, .int b, .int a] μ1 (fun ρ μ3 => ∃ r4 : Int32, ρ = .int r4 ∧ ((¬ r4 = 0 → (((4 : Int32) ≤ b → (((6 : Int32) ≤ b → ((¬ b = 6 → (vp_in a 10 ∧ (Call d y_M_sizeOf [.int (μ3.1 6 a.toNatClampNeg)] μ3 (fun ρ μ5 => ∃ r6 : Int32, ρ = .int r6 ∧ (Q (.int r6) μ5))))) ∧
(b = 6 → (vp_in a 10 ∧ (Q (.int (μ3.1 5 a.toNatClampNeg)) μ3))))) ∧
(¬ (6 : Int32) ≤ b → ((¬ b = 4 → (vp_in a 6 ∧ (Q (.int (μ3.1 10 a.toNatClampNeg)) μ3))) ∧
(b = 4 → (vp_in a 6 ∧ (Q (.int (μ3.1 11 a.toNatClampNeg)) μ3))))))) ∧
(¬ (4 : Int32) ≤ b → ((¬ b = 0 → ((¬ b = 1 → ((¬ b = 2 → (vp_in a 5 ∧ (Q (.int (μ3.1 9 a.toNatClampNeg)) μ3))) ∧
(b = 2 → (vp_in a 5 ∧ (Q (.int (μ3.1 8 a.toNatClampNeg)) μ3))))) ∧
(b = 1 → (vp_in a 5 ∧ (Q (.int (μ3.1 7 a.toNatClampNeg)) μ3))))) ∧
(b = 0 → (vp_in a 8 ∧ (Q (.int (μ3.1 4 a.toNatClampNeg)) μ3))))))) ∧
(r4 = 0 → (Q (.int (-2)) μ3))))))))) : AA (Call d) y_M_told Q 0 [.ref 0, .int a, .int b] [] μ := go_in 28 (code := pr_M_told) (stops := []) rfl rfl hNF
set_option maxRecDepth 20000 in
theorem b_M_word_0 {d : Nat} {Q : QQ} {μ : Mem} {a : Int32} {b : Int32} (hNF : Call d y_M_in [.long (Int32.toInt64 a), .long 0, .long 3] μ (fun ρ μ1 => ∃ r2 : Int32, ρ = .int r2 ∧ ((r2 = 0 → (Q (.int (-2)) μ1)) ∧
(¬ r2 = 0 → (Call d y_M_in [.long (Int32.toInt64 b), .long 1, .long 888888] μ1 (fun ρ μ3 => ∃ r4 : Int32, ρ = .int r4 ∧ ((¬ r4 = 0 → (AA (Call d) y_M_word Q 16 [.ref 0, .int a, .int b, .int b] [] μ3)) ∧
(r4 = 0 → (Q (.int (-2)) μ3))))))))) : AA (Call d) y_M_word Q 0 [.ref 0, .int a, .int b, un] [] μ := go_in 15 (code := pr_M_word) (stops := [16]) rfl rfl hNF
set_option maxRecDepth 20000 in
theorem b_M_word_16 {d : Nat} {Q : QQ} {μ : Mem} {l1 : Int32} {l2 : Int32} {l3 : Int32} (hNF : (l3 ≤ 0 → ((¬ (μ.1 0 10) = 10 → (vp_in (μ.1 0 10) 10 ∧ ∀ μ1 : Mem, μ1 = wI μ 5 (upd (μ.1 5) (Int32.toNatClampNeg (μ.1 0 10)) l1) → (vp_in (μ1.1 0 10) 10 ∧ ∀ μ2 : Mem, μ2 = wI μ1 6 (upd (μ1.1 6) (Int32.toNatClampNeg (μ1.1 0 10)) l2) → (∀ μ3 : Mem, μ3 = wI μ2 0 (upd (μ2.1 0) 10 ((μ2.1 0 10) + 1)) → (Q (.int ((μ3.1 0 10) - 1)) μ3))))) ∧
((μ.1 0 10) = 10 → (Q (.int (-4)) μ)))) ∧
(¬ l3 ≤ 0 → (¬ (10 : Int32) = 0 ∧ (Call d y_M_in [.long (Int32.toInt64 (l3 - l3 / 10 * 10)), .long 1, .long 8] μ (fun ρ μ4 => ∃ r5 : Int32, ρ = .int r5 ∧ ((¬ r5 = 0 → (¬ (10 : Int32) = 0 ∧ (AA (Call d) y_M_word Q 16 [.ref 0, .int l1, .int l2, .int (l3 / 10)] [] μ4))) ∧
(r5 = 0 → (Q (.int (-2)) μ4)))))))) : AA (Call d) y_M_word Q 16 [.ref 0, .int l1, .int l2, .int l3] [] μ := go_in 29 (code := pr_M_word) (stops := [16]) rfl rfl hNF
set_option maxRecDepth 20000 in
theorem b_M_writer_0 {d : Nat} {Q : QQ} {μ : Mem} {a : Int32} {b : Int32} {c : Int32} (hNF : Call d y_M_in [.long (Int32.toInt64 a), .long 0, .long 3] μ (fun ρ μ1 => ∃ r2 : Int32, ρ = .int r2 ∧ ((r2 = 0 → (Q (.int (-2)) μ1)) ∧
(¬ r2 = 0 → (Call d y_M_in [.long (Int32.toInt64 b), .long 0, .long 23] μ1 (fun ρ μ3 => ∃ r4 : Int32, ρ = .int r4 ∧ ((r4 = 0 → (Q (.int (-2)) μ3)) ∧
(¬ r4 = 0 → (Call d y_M_in [.long (Int32.toInt64 c), .long 0, .long 9999] μ3 (fun ρ μ5 => ∃ r6 : Int32, ρ = .int r6 ∧ ((¬ r6 = 0 → ((¬ (μ5.1 0 14) = 5 → (vp_in (μ5.1 0 14) 5 ∧ ∀ μ7 : Mem, μ7 = wI μ5 7 (upd (μ5.1 7) (Int32.toNatClampNeg (μ5.1 0 14)) a) → (vp_in (μ7.1 0 14) 5 ∧ ∀ μ8 : Mem, μ8 = wI μ7 8 (upd (μ7.1 8) (Int32.toNatClampNeg (μ7.1 0 14)) b) → (vp_in (μ8.1 0 14) 5 ∧ ∀ μ9 : Mem, μ9 = wI μ8 9 (upd (μ8.1 9) (Int32.toNatClampNeg (μ8.1 0 14)) c) → (∀ μ10 : Mem, μ10 = wI μ9 0 (upd (μ9.1 0) 14 ((μ9.1 0 14) + 1)) → (Q (.int ((μ10.1 0 14) - 1)) μ10)))))) ∧
((μ5.1 0 14) = 5 → (Q (.int (-4)) μ5)))) ∧
(r6 = 0 → (Q (.int (-2)) μ5))))))))))))) : AA (Call d) y_M_writer Q 0 [.ref 0, .int a, .int b, .int c] [] μ := go_in 51 (code := pr_M_writer) (stops := []) rfl rfl hNF
set_option maxRecDepth 20000 in
theorem b_M_law_0 {d : Nat} {Q : QQ} {μ : Mem} {a : Int32} {b : Int32} (hNF : Call d y_M_in [.long (Int32.toInt64 a), .long 0, .long 5] μ (fun ρ μ1 => ∃ r2 : Int32, ρ = .int r2 ∧ ((r2 = 0 → (Q (.int (-2)) μ1)) ∧
(¬ r2 = 0 → (Call d y_M_in [.long (Int32.toInt64 b), .long 0, .long 9] μ1 (fun ρ μ3 => ∃ r4 : Int32, ρ = .int r4 ∧ ((¬ r4 = 0 → ((¬ (μ3.1 0 17) = 6 → (vp_in (μ3.1 0 17) 6 ∧ ∀ μ5 : Mem, μ5 = wI μ3 10 (upd (μ3.1 10) (Int32.toNatClampNeg (μ3.1 0 17)) a) → (vp_in (μ5.1 0 17) 6 ∧ ∀ μ6 : Mem, μ6 = wI μ5 11 (upd (μ5.1 11) (Int32.toNatClampNeg (μ5.1 0 17)) b) → (∀ μ7 : Mem, μ7 = wI μ6 0 (upd (μ6.1 0) 17 ((μ6.1 0 17) + 1)) → (Q (.int ((μ7.1 0 17) - 1)) μ7))))) ∧
((μ3.1 0 17) = 6 → (Q (.int (-4)) μ3)))) ∧
(r4 = 0 → (Q (.int (-2)) μ3))))))))) : AA (Call d) y_M_law Q 0 [.ref 0, .int a, .int b] [] μ := go_in 39 (code := pr_M_law) (stops := []) rfl rfl hNF
set_option maxRecDepth 20000 in
theorem b_M_rule_0 {d : Nat} {Q : QQ} {μ : Mem} {a : Int32} (hNF : Call d y_M_isLaw [.ref 0, .int a] μ (fun ρ μ1 => ∃ r2 : Int32, ρ = .int r2 ∧ ((¬ r2 = 0 → (∀ μ3 : Mem, μ3 = wI μ1 0 (upd (μ1.1 0) 18 a) → (Q (.int (μ1.1 0 18)) μ3))) ∧
(r2 = 0 → (Q (.int (-2)) μ1))))) : AA (Call d) y_M_rule Q 0 [.ref 0, .int a, un] [] μ := go_in 12 (code := pr_M_rule) (stops := []) rfl rfl hNF
set_option maxRecDepth 20000 in
theorem b_M_steep_0 {d : Nat} {Q : QQ} {μ : Mem} {a : Int32} {b : Int32} (hNF : Q (.int ((a + b) + (a * (b + 1)))) μ) : AA (Call d) y_M_steep Q 0 [.int a, .int b] [] μ := go_in 10 (code := pr_M_steep) (stops := []) rfl rfl hNF
set_option maxRecDepth 20000 in
theorem b_M_costBy_0 {d : Nat} {Q : QQ} {μ : Mem} {a : Int32} {b : Int32} (hNF : vp_in (μ.1 0 18) 6 ∧ (vp_in (μ.1 0 18) 6 ∧ ((¬ (μ.1 10 (Int32.toNatClampNeg (μ.1 0 18))) = 0 → (((μ.1 10 (Int32.toNatClampNeg (μ.1 0 18))) = 2 → ((¬ (μ.1 10 (Int32.toNatClampNeg (μ.1 0 18))) = 4 → (¬ (2 : Int32) = 0 ∧ (Q (.int ((a + (μ.1 11 (Int32.toNatClampNeg (μ.1 0 18)))) / 2)) μ))) ∧
((μ.1 10 (Int32.toNatClampNeg (μ.1 0 18))) = 4 → (((6 : Int32) ≤ b → (¬ (2 : Int32) = 0 ∧ (Q (.int ((a + (μ.1 11 (Int32.toNatClampNeg (μ.1 0 18)))) / 2)) μ))) ∧
(¬ (6 : Int32) ≤ b → (Q (.int 0) μ)))))) ∧
(¬ (μ.1 10 (Int32.toNatClampNeg (μ.1 0 18))) = 2 → ((¬ (μ.1 10 (Int32.toNatClampNeg (μ.1 0 18))) = 4 → ((¬ (μ.1 10 (Int32.toNatClampNeg (μ.1 0 18))) = 3 → (Call d y_M_steep [.int a, .int (μ.1 11 (Int32.toNatClampNeg (μ.1 0 18)))] μ (fun ρ μ1 => ∃ r2 : Int32, ρ = .int r2 ∧ ((¬ (μ.1 10 (Int32.toNatClampNeg (μ.1 0 18))) = 5 → (Q (.int (r2 + 0)) μ1)) ∧
((μ.1 10 (Int32.toNatClampNeg (μ.1 0 18))) = 5 → ((¬ a = 0 → (Q (.int (r2 + 0)) μ1)) ∧
(a = 0 → (Q (.int (r2 + 5)) μ1)))))))) ∧
((μ.1 10 (Int32.toNatClampNeg (μ.1 0 18))) = 3 → (¬ (3 : Int32) = 0 ∧ (Call d y_M_steep [.int (a - (a - a / 3 * 3)), .int (μ.1 11 (Int32.toNatClampNeg (μ.1 0 18)))] μ (fun ρ μ3 => ∃ r4 : Int32, ρ = .int r4 ∧ (Q (.int r4) μ3))))))) ∧
((μ.1 10 (Int32.toNatClampNeg (μ.1 0 18))) = 4 → ((¬ (μ.1 10 (Int32.toNatClampNeg (μ.1 0 18))) = 4 → (¬ (2 : Int32) = 0 ∧ (Q (.int ((a + (μ.1 11 (Int32.toNatClampNeg (μ.1 0 18)))) / 2)) μ))) ∧
((μ.1 10 (Int32.toNatClampNeg (μ.1 0 18))) = 4 → (((6 : Int32) ≤ b → (¬ (2 : Int32) = 0 ∧ (Q (.int ((a + (μ.1 11 (Int32.toNatClampNeg (μ.1 0 18)))) / 2)) μ))) ∧
(¬ (6 : Int32) ≤ b → (Q (.int 0) μ)))))))))) ∧
((μ.1 10 (Int32.toNatClampNeg (μ.1 0 18))) = 0 → (Q (.int (a + (μ.1 11 (Int32.toNatClampNeg (μ.1 0 18))))) μ))))) : AA (Call d) y_M_costBy Q 0 [.ref 0, .int a, .int b, un, un] [] μ := go_in 35 (code := pr_M_costBy) (stops := []) rfl rfl hNF
set_option maxRecDepth 20000 in
theorem b_M_agedBy_0 {d : Nat} {Q : QQ} {μ : Mem} {a : Int32} (hNF : vp_in (μ.1 0 18) 6 ∧ (vp_in (μ.1 0 18) 6 ∧ (((μ.1 10 (Int32.toNatClampNeg (μ.1 0 18))) = 2 → (((0 : Int32) ≤ (a - (μ.1 11 (Int32.toNatClampNeg (μ.1 0 18)))) → (Q (.int (a - (μ.1 11 (Int32.toNatClampNeg (μ.1 0 18))))) μ)) ∧
(¬ (0 : Int32) ≤ (a - (μ.1 11 (Int32.toNatClampNeg (μ.1 0 18)))) → (Q (.int 0) μ)))) ∧
(¬ (μ.1 10 (Int32.toNatClampNeg (μ.1 0 18))) = 2 → ((¬ (μ.1 10 (Int32.toNatClampNeg (μ.1 0 18))) = 4 → ((¬ (μ.1 10 (Int32.toNatClampNeg (μ.1 0 18))) = 3 → ((¬ (μ.1 10 (Int32.toNatClampNeg (μ.1 0 18))) = 5 → (((0 : Int32) ≤ a → (Q (.int a) μ)) ∧
(¬ (0 : Int32) ≤ a → (Q (.int 0) μ)))) ∧
((μ.1 10 (Int32.toNatClampNeg (μ.1 0 18))) = 5 → (((μ.1 11 (Int32.toNatClampNeg (μ.1 0 18))) ≤ a → (((0 : Int32) ≤ a → (Q (.int a) μ)) ∧
(¬ (0 : Int32) ≤ a → (Q (.int 0) μ)))) ∧
(¬ (μ.1 11 (Int32.toNatClampNeg (μ.1 0 18))) ≤ a → (((0 : Int32) ≤ (0 : Int32) → (Q (.int 0) μ)) ∧
(¬ (0 : Int32) ≤ (0 : Int32) → (Q (.int 0) μ)))))))) ∧
((μ.1 10 (Int32.toNatClampNeg (μ.1 0 18))) = 3 → (((0 : Int32) ≤ (a - 1) → (Q (.int (a - 1)) μ)) ∧
(¬ (0 : Int32) ≤ (a - 1) → (Q (.int 0) μ)))))) ∧
((μ.1 10 (Int32.toNatClampNeg (μ.1 0 18))) = 4 → (((0 : Int32) ≤ (a - (μ.1 11 (Int32.toNatClampNeg (μ.1 0 18)))) → (Q (.int (a - (μ.1 11 (Int32.toNatClampNeg (μ.1 0 18))))) μ)) ∧
(¬ (0 : Int32) ≤ (a - (μ.1 11 (Int32.toNatClampNeg (μ.1 0 18)))) → (Q (.int 0) μ))))))))) : AA (Call d) y_M_agedBy Q 0 [.ref 0, .int a, un, un, un] [] μ := go_in 35 (code := pr_M_agedBy) (stops := []) rfl rfl hNF
set_option maxRecDepth 20000 in
theorem b_M_feed_0 {d : Nat} {Q : QQ} {μ : Mem} {a : Int32} (hNF : Call d y_M_in [.long (Int32.toInt64 a), .long 0, .long 255] μ (fun ρ μ1 => ∃ r2 : Int32, ρ = .int r2 ∧ ((¬ r2 = 0 → ((¬ (μ1.1 0 6) = 160 → (vp_in (μ1.1 0 6) 160 ∧ ∀ μ3 : Mem, μ3 = wI μ1 3 (upd (μ1.1 3) (Int32.toNatClampNeg (μ1.1 0 6)) a) → (∀ μ4 : Mem, μ4 = wI μ3 0 (upd (μ3.1 0) 6 ((μ3.1 0 6) + 1)) → (Q (.int (μ4.1 0 6)) μ4)))) ∧
((μ1.1 0 6) = 160 → (Q (.int (-4)) μ1)))) ∧
(r2 = 0 → (Q (.int (-2)) μ1))))) : AA (Call d) y_M_feed Q 0 [.ref 0, .int a] [] μ := go_in 25 (code := pr_M_feed) (stops := []) rfl rfl hNF
set_option maxRecDepth 20000 in
theorem b_M_byteAt_0 {d : Nat} {Q : QQ} {μ : Mem} {a : Int32} (hNF : ((μ.1 0 26) ≤ a → (Q (.int (-1)) μ)) ∧
(¬ (μ.1 0 26) ≤ a → (vp_in ((μ.1 0 25) + a) 960 ∧ (Q (.int (μ.1 1 (Int32.toNatClampNeg ((μ.1 0 25) + a)))) μ)))) : AA (Call d) y_M_byteAt Q 0 [.ref 0, .int a] [] μ := go_in 13 (code := pr_M_byteAt) (stops := []) rfl rfl hNF
set_option maxRecDepth 20000 in
theorem b_M_next_0 {d : Nat} {Q : QQ} {μ : Mem} (hNF : Call d y_M_byteAt [.ref 0, .int (μ.1 0 27)] μ (fun ρ μ1 => ∃ r2 : Int32, ρ = .int r2 ∧ ((r2 = 32 → (∀ μ3 : Mem, μ3 = wI μ1 0 (upd (μ1.1 0) 27 ((μ1.1 0 27) + 1)) → (AA (Call d) y_M_next Q 0 [.ref 0, un, un] [] μ3))) ∧
(¬ r2 = 32 → (Call d y_M_byteAt [.ref 0, .int (μ1.1 0 27)] μ1 (fun ρ μ4 => ∃ r5 : Int32, ρ = .int r5 ∧ ((¬ r5 = 10 → (∀ μ6 : Mem, μ6 = wI μ4 0 (upd (μ4.1 0) 29 (μ4.1 0 27)) → (Call d y_M_byteAt [.ref 0, .int (μ6.1 0 27)] μ6 (fun ρ μ7 => ∃ r8 : Int32, ρ = .int r8 ∧ (∀ μ9 : Mem, μ9 = wI μ7 0 (upd (μ7.1 0) 28 4) → (((0 : Int32) ≤ r8 → (Call d y_M_in [.long (Int32.toInt64 r8), .long 97, .long 122] μ9 (fun ρ μ10 => ∃ r11 : Int32, ρ = .int r11 ∧ ((r11 = 0 → (Call d y_M_in [.long (Int32.toInt64 r8), .long 48, .long 57] μ10 (fun ρ μ12 => ∃ r13 : Int32, ρ = .int r13 ∧ ((r13 = 0 → ((r8 = 40 → (∀ μ14 : Mem, μ14 = wI μ12 0 (upd (μ12.1 0) 28 3) → (∀ μ15 : Mem, μ15 = wL μ14 0 (vp_updL (μ14.2 0) 30 (Int32.toInt64 r8)) → (∀ μ16 : Mem, μ16 = wI μ15 0 (upd (μ15.1 0) 27 ((μ15.1 0 27) + 1)) → (Q .null μ16))))) ∧
(¬ r8 = 40 → ((r8 = 41 → (∀ μ17 : Mem, μ17 = wI μ12 0 (upd (μ12.1 0) 28 3) → (∀ μ18 : Mem, μ18 = wL μ17 0 (vp_updL (μ17.2 0) 30 (Int32.toInt64 r8)) → (∀ μ19 : Mem, μ19 = wI μ18 0 (upd (μ18.1 0) 27 ((μ18.1 0 27) + 1)) → (Q .null μ19))))) ∧
(¬ r8 = 41 → ((r8 = 59 → (∀ μ20 : Mem, μ20 = wI μ12 0 (upd (μ12.1 0) 28 3) → (∀ μ21 : Mem, μ21 = wL μ20 0 (vp_updL (μ20.2 0) 30 (Int32.toInt64 r8)) → (∀ μ22 : Mem, μ22 = wI μ21 0 (upd (μ21.1 0) 27 ((μ21.1 0 27) + 1)) → (Q .null μ22))))) ∧
(¬ r8 = 59 → ((r8 = 43 → (∀ μ23 : Mem, μ23 = wI μ12 0 (upd (μ12.1 0) 28 3) → (∀ μ24 : Mem, μ24 = wL μ23 0 (vp_updL (μ23.2 0) 30 (Int32.toInt64 r8)) → (∀ μ25 : Mem, μ25 = wI μ24 0 (upd (μ24.1 0) 27 ((μ24.1 0 27) + 1)) → (Q .null μ25))))) ∧
(¬ r8 = 43 → ((r8 = 45 → (∀ μ26 : Mem, μ26 = wI μ12 0 (upd (μ12.1 0) 28 3) → (∀ μ27 : Mem, μ27 = wL μ26 0 (vp_updL (μ26.2 0) 30 (Int32.toInt64 r8)) → (∀ μ28 : Mem, μ28 = wI μ27 0 (upd (μ27.1 0) 27 ((μ27.1 0 27) + 1)) → (Q .null μ28))))) ∧
(¬ r8 = 45 → ((r8 = 42 → (∀ μ29 : Mem, μ29 = wI μ12 0 (upd (μ12.1 0) 28 3) → (∀ μ30 : Mem, μ30 = wL μ29 0 (vp_updL (μ29.2 0) 30 (Int32.toInt64 r8)) → (∀ μ31 : Mem, μ31 = wI μ30 0 (upd (μ30.1 0) 27 ((μ30.1 0 27) + 1)) → (Q .null μ31))))) ∧
(¬ r8 = 42 → ((r8 = 60 → (∀ μ32 : Mem, μ32 = wI μ12 0 (upd (μ12.1 0) 28 3) → (∀ μ33 : Mem, μ33 = wL μ32 0 (vp_updL (μ32.2 0) 30 (Int32.toInt64 r8)) → (∀ μ34 : Mem, μ34 = wI μ33 0 (upd (μ33.1 0) 27 ((μ33.1 0 27) + 1)) → (Q .null μ34))))) ∧
(¬ r8 = 60 → ((¬ r8 = 61 → (Q .null μ12)) ∧
(r8 = 61 → (∀ μ35 : Mem, μ35 = wI μ12 0 (upd (μ12.1 0) 28 3) → (∀ μ36 : Mem, μ36 = wL μ35 0 (vp_updL (μ35.2 0) 30 (Int32.toInt64 r8)) → (∀ μ37 : Mem, μ37 = wI μ36 0 (upd (μ36.1 0) 27 ((μ36.1 0 27) + 1)) → (Q .null μ37))))))))))))))))))))) ∧
(¬ r13 = 0 → (∀ μ38 : Mem, μ38 = wI μ12 0 (upd (μ12.1 0) 28 2) → (∀ μ39 : Mem, μ39 = wL μ38 0 (vp_updL (μ38.2 0) 30 0) → (AA (Call d) y_M_next Q 80 [.ref 0, .int r8, .int 0] [] μ39)))))))) ∧
(¬ r11 = 0 → (∀ μ40 : Mem, μ40 = wI μ10 0 (upd (μ10.1 0) 28 1) → (AA (Call d) y_M_next Q 50 [.ref 0, .int r8, un] [] μ40))))))) ∧
(¬ (0 : Int32) ≤ r8 → (∀ μ41 : Mem, μ41 = wI μ9 0 (upd (μ9.1 0) 28 0) → (∀ μ42 : Mem, μ42 = wI μ41 0 (upd (μ41.1 0) 29 (μ41.1 0 26)) → (Q .null μ42)))))))))) ∧
(r5 = 10 → (∀ μ43 : Mem, μ43 = wI μ4 0 (upd (μ4.1 0) 27 ((μ4.1 0 27) + 1)) → (AA (Call d) y_M_next Q 0 [.ref 0, un, un] [] μ43)))))))))) : AA (Call d) y_M_next Q 0 [.ref 0, un, un] [] μ := go_in 76 (code := pr_M_next) (stops := [0, 50, 80]) rfl rfl hNF
set_option maxRecDepth 20000 in
theorem b_M_next_50 {d : Nat} {Q : QQ} {μ : Mem} {l1 : Int32} (hNF : Call d y_M_byteAt [.ref 0, .int (μ.1 0 27)] μ (fun ρ μ1 => ∃ r2 : Int32, ρ = .int r2 ∧ (Call d y_M_in [.long (Int32.toInt64 r2), .long 97, .long 122] μ1 (fun ρ μ3 => ∃ r4 : Int32, ρ = .int r4 ∧ ((r4 = 0 → (Q .null μ3)) ∧
(¬ r4 = 0 → (∀ μ5 : Mem, μ5 = wI μ3 0 (upd (μ3.1 0) 27 ((μ3.1 0 27) + 1)) → (AA (Call d) y_M_next Q 50 [.ref 0, .int l1, un] [] μ5)))))))) : AA (Call d) y_M_next Q 50 [.ref 0, .int l1, un] [] μ := go_in 17 (code := pr_M_next) (stops := [0, 50, 80]) rfl rfl hNF
set_option maxRecDepth 20000 in
theorem b_M_next_80 {d : Nat} {Q : QQ} {μ : Mem} {l1 : Int32} {l2 : Int32} (hNF : Call d y_M_byteAt [.ref 0, .int (μ.1 0 27)] μ (fun ρ μ1 => ∃ r2 : Int32, ρ = .int r2 ∧ (Call d y_M_in [.long (Int32.toInt64 r2), .long 48, .long 57] μ1 (fun ρ μ3 => ∃ r4 : Int32, ρ = .int r4 ∧ ((r4 = 0 → ((l2 ≤ 4 → (∀ μ5 : Mem, μ5 = wI μ3 0 (upd (μ3.1 0) 28 2) → (Q .null μ5))) ∧
(¬ l2 ≤ 4 → (∀ μ6 : Mem, μ6 = wI μ3 0 (upd (μ3.1 0) 28 4) → (Q .null μ6))))) ∧
(¬ r4 = 0 → (((4 : Int32) ≤ l2 → (∀ μ7 : Mem, μ7 = wL μ3 0 (vp_updL (μ3.2 0) 30 (μ3.2 0 30)) → (∀ μ8 : Mem, μ8 = wI μ7 0 (upd (μ7.1 0) 27 ((μ7.1 0 27) + 1)) → (AA (Call d) y_M_next Q 80 [.ref 0, .int l1, .int (l2 + 1)] [] μ8)))) ∧
(¬ (4 : Int32) ≤ l2 → (Call d y_M_byteAt [.ref 0, .int (μ3.1 0 27)] μ3 (fun ρ μ9 => ∃ r10 : Int32, ρ = .int r10 ∧ (∀ μ11 : Mem, μ11 = wL μ9 0 (vp_updL (μ9.2 0) 30 (((10 * (μ3.2 0 30)) + (Int32.toInt64 r10)) - 48)) → (∀ μ12 : Mem, μ12 = wI μ11 0 (upd (μ11.1 0) 27 ((μ11.1 0 27) + 1)) → (AA (Call d) y_M_next Q 80 [.ref 0, .int l1, .int (l2 + 1)] [] μ12))))))))))))) : AA (Call d) y_M_next Q 80 [.ref 0, .int l1, .int l2] [] μ := go_in 36 (code := pr_M_next) (stops := [0, 50, 80]) rfl rfl hNF
set_option maxRecDepth 20000 in
theorem b_M_fail_0 {d : Nat} {Q : QQ} {μ : Mem} (hNF : (¬ (μ.1 0 32) = 0 → (Q .null μ)) ∧
((μ.1 0 32) = 0 → (narrow .boolean (.int 1) = .int 1 ∧ ∀ μ1 : Mem, μ1 = wI μ 0 (upd (μ.1 0) 32 1) → (∀ μ2 : Mem, μ2 = wI μ1 0 (upd (μ1.1 0) 33 (μ1.1 0 29)) → (Q .null μ2))))) : AA (Call d) y_M_fail Q 0 [.ref 0] [] μ := go_in 11 (code := pr_M_fail) (stops := []) rfl rfl hNF
set_option maxRecDepth 20000 in
theorem b_M_isLetter_0 {d : Nat} {Q : QQ} {μ : Mem} {a : Int32} {b : Int32} (hNF : ((μ.1 0 27) ≤ ((μ.1 0 29) + a) → ((¬ b = 0 → (narrow .boolean (.int 0) = .int 0 ∧ Q (.int 0) μ)) ∧
(b = 0 → (narrow .boolean (.int 1) = .int 1 ∧ Q (.int 1) μ)))) ∧
(¬ (μ.1 0 27) ≤ ((μ.1 0 29) + a) → (Call d y_M_byteAt [.ref 0, .int ((μ.1 0 29) + a)] μ (fun ρ μ1 => ∃ r2 : Int32, ρ = .int r2 ∧ ((¬ r2 = b → (narrow .boolean (.int 0) = .int 0 ∧ Q (.int 0) μ1)) ∧
(r2 = b → (narrow .boolean (.int 1) = .int 1 ∧ Q (.int 1) μ1))))))) : AA (Call d) y_M_isLetter Q 0 [.ref 0, .int a, .int b] [] μ := go_in 18 (code := pr_M_isLetter) (stops := []) rfl rfl hNF
set_option maxRecDepth 20000 in
theorem b_M_isWord_0 {d : Nat} {Q : QQ} {μ : Mem} {a : Int32} {b : Int32} {c : Int32} {e : Int32} {f : Int32} {g : Int32} {u : Int32} {v : Int32} (hNF : (¬ (μ.1 0 32) = 0 → (narrow .boolean (.int 0) = .int 0 ∧ Q (.int 0) μ)) ∧
((μ.1 0 32) = 0 → ((¬ (μ.1 0 28) = 1 → (narrow .boolean (.int 0) = .int 0 ∧ Q (.int 0) μ)) ∧
((μ.1 0 28) = 1 → ((((μ.1 0 29) + 8) < (μ.1 0 27) → (narrow .boolean (.int 0) = .int 0 ∧ Q (.int 0) μ)) ∧
(¬ ((μ.1 0 29) + 8) < (μ.1 0 27) → (Call d y_M_isLetter [.ref 0, .int 0, .int a] μ (fun ρ μ1 => ∃ r2 : Int32, ρ = .int r2 ∧ ((r2 = 0 → (narrow .boolean (.int 0) = .int 0 ∧ Q (.int 0) μ1)) ∧
(¬ r2 = 0 → (Call d y_M_isLetter [.ref 0, .int 1, .int b] μ1 (fun ρ μ3 => ∃ r4 : Int32, ρ = .int r4 ∧ ((r4 = 0 → (narrow .boolean (.int 0) = .int 0 ∧ Q (.int 0) μ3)) ∧
(¬ r4 = 0 → (Call d y_M_isLetter [.ref 0, .int 2, .int c] μ3 (fun ρ μ5 => ∃ r6 : Int32, ρ = .int r6 ∧ ((r6 = 0 → (narrow .boolean (.int 0) = .int 0 ∧ Q (.int 0) μ5)) ∧
(¬ r6 = 0 → (Call d y_M_isLetter [.ref 0, .int 3, .int e] μ5 (fun ρ μ7 => ∃ r8 : Int32, ρ = .int r8 ∧ ((r8 = 0 → (narrow .boolean (.int 0) = .int 0 ∧ Q (.int 0) μ7)) ∧
(¬ r8 = 0 → (Call d y_M_isLetter [.ref 0, .int 4, .int f] μ7 (fun ρ μ9 => ∃ r10 : Int32, ρ = .int r10 ∧ ((r10 = 0 → (narrow .boolean (.int 0) = .int 0 ∧ Q (.int 0) μ9)) ∧
(¬ r10 = 0 → (Call d y_M_isLetter [.ref 0, .int 5, .int g] μ9 (fun ρ μ11 => ∃ r12 : Int32, ρ = .int r12 ∧ ((r12 = 0 → (narrow .boolean (.int 0) = .int 0 ∧ Q (.int 0) μ11)) ∧
(¬ r12 = 0 → (Call d y_M_isLetter [.ref 0, .int 6, .int u] μ11 (fun ρ μ13 => ∃ r14 : Int32, ρ = .int r14 ∧ ((r14 = 0 → (narrow .boolean (.int 0) = .int 0 ∧ Q (.int 0) μ13)) ∧
(¬ r14 = 0 → (Call d y_M_isLetter [.ref 0, .int 7, .int v] μ13 (fun ρ μ15 => ∃ r16 : Int32, ρ = .int r16 ∧ ((r16 = 0 → (narrow .boolean (.int 0) = .int 0 ∧ Q (.int 0) μ15)) ∧
(¬ r16 = 0 → (narrow .boolean (.int 1) = .int 1 ∧ Q (.int 1) μ15))))))))))))))))))))))))))))))))))))))) : AA (Call d) y_M_isWord Q 0 [.ref 0, .int a, .int b, .int c, .int e, .int f, .int g, .int u, .int v] [] μ := go_in 57 (code := pr_M_isWord) (stops := []) rfl rfl hNF
set_option maxRecDepth 20000 in
theorem b_M_isSign_0 {d : Nat} {Q : QQ} {μ : Mem} {a : Int32} (hNF : (¬ (μ.1 0 32) = 0 → (narrow .boolean (.int 0) = .int 0 ∧ Q (.int 0) μ)) ∧
((μ.1 0 32) = 0 → ((¬ (μ.1 0 28) = 3 → (narrow .boolean (.int 0) = .int 0 ∧ Q (.int 0) μ)) ∧
((μ.1 0 28) = 3 → ((¬ (lg_cmp (μ.2 0 30) (Int32.toInt64 a)) = 0 → (narrow .boolean (.int 0) = .int 0 ∧ Q (.int 0) μ)) ∧
((lg_cmp (μ.2 0 30) (Int32.toInt64 a)) = 0 → (narrow .boolean (.int 1) = .int 1 ∧ Q (.int 1) μ))))))) : AA (Call d) y_M_isSign Q 0 [.ref 0, .int a] [] μ := go_in 16 (code := pr_M_isSign) (stops := []) rfl rfl hNF
set_option maxRecDepth 20000 in
theorem b_M_opens_0 {d : Nat} {Q : QQ} {μ : Mem} (hNF : (¬ (μ.1 0 31) = 5 → (∀ μ1 : Mem, μ1 = wI μ 0 (upd (μ.1 0) 31 ((μ.1 0 31) + 1)) → (Call d y_M_next [.ref 0] μ1 (fun _ μ2 => (narrow .boolean (.int 1) = .int 1 ∧ Q (.int 1) μ2))))) ∧
((μ.1 0 31) = 5 → (Call d y_M_fail [.ref 0] μ (fun _ μ3 => (narrow .boolean (.int 0) = .int 0 ∧ Q (.int 0) μ3))))) : AA (Call d) y_M_opens Q 0 [.ref 0] [] μ := go_in 14 (code := pr_M_opens) (stops := []) rfl rfl hNF
set_option maxRecDepth 20000 in
theorem b_M_name_0 {d : Nat} {Q : QQ} {μ : Mem} (hNF : Call d y_M_isWord [.ref 0, .int 117, .int 115, .int 101, .int 100, .int 0, .int 0, .int 0, .int 0] μ (fun ρ μ1 => ∃ r2 : Int32, ρ = .int r2 ∧ ((r2 = 0 → (Call d y_M_isWord [.ref 0, .int 104, .int 111, .int 117, .int 114, .int 0, .int 0, .int 0, .int 0] μ1 (fun ρ μ3 => ∃ r4 : Int32, ρ = .int r4 ∧ ((r4 = 0 → (Call d y_M_isWord [.ref 0, .int 108, .int 101, .int 116, .int 116, .int 101, .int 114, .int 0, .int 0] μ3 (fun ρ μ5 => ∃ r6 : Int32, ρ = .int r6 ∧ ((r6 = 0 → (Call d y_M_isWord [.ref 0, .int 108, .int 101, .int 110, .int 103, .int 116, .int 104, .int 0, .int 0] μ5 (fun ρ μ7 => ∃ r8 : Int32, ρ = .int r8 ∧ ((r8 = 0 → (Call d y_M_isWord [.ref 0, .int 112, .int 117, .int 114, .int 115, .int 101, .int 0, .int 0, .int 0] μ7 (fun ρ μ9 => ∃ r10 : Int32, ρ = .int r10 ∧ ((r10 = 0 → (Call d y_M_isWord [.ref 0, .int 109, .int 97, .int 110, .int 121, .int 0, .int 0, .int 0, .int 0] μ9 (fun ρ μ11 => ∃ r12 : Int32, ρ = .int r12 ∧ ((r12 = 0 → (Call d y_M_fail [.ref 0] μ11 (fun _ μ13 => (Q (.int 0) μ13)))) ∧
(¬ r12 = 0 → (Q (.int (μ11.1 0 24)) μ11)))))) ∧
(¬ r10 = 0 → (Q (.int (μ9.1 0 23)) μ9)))))) ∧
(¬ r8 = 0 → (Q (.int (μ7.1 0 22)) μ7)))))) ∧
(¬ r6 = 0 → (Q (.int (μ5.1 0 21)) μ5)))))) ∧
(¬ r4 = 0 → (Q (.int (μ3.1 0 20)) μ3)))))) ∧
(¬ r2 = 0 → (Q (.int (μ1.1 0 19)) μ1))))) : AA (Call d) y_M_name Q 0 [.ref 0] [] μ := go_in 70 (code := pr_M_name) (stops := []) rfl rfl hNF
set_option maxRecDepth 20000 in
theorem b_M_atom_0 {d : Nat} {Q : QQ} {μ : Mem} (hNF : Call d y_M_isSign [.ref 0, .int 45] μ (fun ρ μ1 => ∃ r2 : Int32, ρ = .int r2 ∧ ((r2 = 0 → (Call d y_M_isSign [.ref 0, .int 40] μ1 (fun ρ μ3 => ∃ r4 : Int32, ρ = .int r4 ∧ ((r4 = 0 → ((¬ (μ3.1 0 32) = 0 → ((¬ (μ3.1 0 32) = 0 → (Call d y_M_fail [.ref 0] μ3 (fun _ μ5 => (Q (.int 0) μ5)))) ∧
((μ3.1 0 32) = 0 → ((¬ (μ3.1 0 28) = 1 → (Call d y_M_fail [.ref 0] μ3 (fun _ μ6 => (Q (.int 0) μ6)))) ∧
((μ3.1 0 28) = 1 → (Call d y_M_name [.ref 0] μ3 (fun ρ μ7 => ∃ r8 : Int32, ρ = .int r8 ∧ ((¬ (μ7.1 0 32) = 0 → (Q (.int r8) μ7)) ∧
((μ7.1 0 32) = 0 → (Call d y_M_next [.ref 0] μ7 (fun _ μ9 => (Q (.int r8) μ9)))))))))))) ∧
((μ3.1 0 32) = 0 → ((¬ (μ3.1 0 28) = 2 → ((¬ (μ3.1 0 32) = 0 → (Call d y_M_fail [.ref 0] μ3 (fun _ μ10 => (Q (.int 0) μ10)))) ∧
((μ3.1 0 32) = 0 → ((¬ (μ3.1 0 28) = 1 → (Call d y_M_fail [.ref 0] μ3 (fun _ μ11 => (Q (.int 0) μ11)))) ∧
((μ3.1 0 28) = 1 → (Call d y_M_name [.ref 0] μ3 (fun ρ μ12 => ∃ r13 : Int32, ρ = .int r13 ∧ ((¬ (μ12.1 0 32) = 0 → (Q (.int r13) μ12)) ∧
((μ12.1 0 32) = 0 → (Call d y_M_next [.ref 0] μ12 (fun _ μ14 => (Q (.int r13) μ14)))))))))))) ∧
((μ3.1 0 28) = 2 → (Call d y_M_next [.ref 0] μ3 (fun _ μ15 => (Q (.int (Int64.toInt32 (μ3.2 0 30))) μ15)))))))) ∧
(¬ r4 = 0 → (Call d y_M_opens [.ref 0] μ3 (fun ρ μ16 => ∃ r17 : Int32, ρ = .int r17 ∧ ((r17 = 0 → (Q (.int 0) μ16)) ∧
(¬ r17 = 0 → (Call d y_M_either [.ref 0] μ16 (fun ρ μ18 => ∃ r19 : Int32, ρ = .int r19 ∧ (Call d y_M_isSign [.ref 0, .int 41] μ18 (fun ρ μ20 => ∃ r21 : Int32, ρ = .int r21 ∧ ((¬ r21 = 0 → (∀ μ22 : Mem, μ22 = wI μ20 0 (upd (μ20.1 0) 31 ((μ20.1 0 31) - 1)) → ((¬ (μ22.1 0 32) = 0 → (Q (.int r19) μ22)) ∧
((μ22.1 0 32) = 0 → (Call d y_M_next [.ref 0] μ22 (fun _ μ23 => (Q (.int r19) μ23))))))) ∧
(r21 = 0 → (Call d y_M_fail [.ref 0] μ20 (fun _ μ24 => (∀ μ25 : Mem, μ25 = wI μ24 0 (upd (μ24.1 0) 31 ((μ24.1 0 31) - 1)) → ((¬ (μ25.1 0 32) = 0 → (Q (.int r19) μ25)) ∧
((μ25.1 0 32) = 0 → (Call d y_M_next [.ref 0] μ25 (fun _ μ26 => (Q (.int r19) μ26))))))))))))))))))))))) ∧
(¬ r2 = 0 → (Call d y_M_opens [.ref 0] μ1 (fun ρ μ27 => ∃ r28 : Int32, ρ = .int r28 ∧ ((r28 = 0 → (Q (.int 0) μ27)) ∧
(¬ r28 = 0 → (Call d y_M_atom [.ref 0] μ27 (fun ρ μ29 => ∃ r30 : Int32, ρ = .int r30 ∧ (∀ μ31 : Mem, μ31 = wI μ29 0 (upd (μ29.1 0) 31 ((μ29.1 0 31) - 1)) → (Q (.int (-r30)) μ31)))))))))))) : AA (Call d) y_M_atom Q 0 [.ref 0, un] [] μ := go_in 36 (code := pr_M_atom) (stops := []) rfl rfl hNF
set_option maxRecDepth 20000 in
theorem b_M_term_0 {d : Nat} {Q : QQ} {μ : Mem} (hNF : Call d y_M_atom [.ref 0] μ (fun ρ μ1 => ∃ r2 : Int32, ρ = .int r2 ∧ (AA (Call d) y_M_term Q 3 [.ref 0, .int r2] [] μ1))) : AA (Call d) y_M_term Q 0 [.ref 0, un] [] μ := go_in 4 (code := pr_M_term) (stops := [3]) rfl rfl hNF
set_option maxRecDepth 20000 in
theorem b_M_term_3 {d : Nat} {Q : QQ} {μ : Mem} {l1 : Int32} (hNF : Call d y_M_isSign [.ref 0, .int 42] μ (fun ρ μ1 => ∃ r2 : Int32, ρ = .int r2 ∧ ((r2 = 0 → (Q (.int l1) μ1)) ∧
(¬ r2 = 0 → (Call d y_M_next [.ref 0] μ1 (fun _ μ3 => (Call d y_M_atom [.ref 0] μ3 (fun ρ μ4 => ∃ r5 : Int32, ρ = .int r5 ∧ (AA (Call d) y_M_term Q 3 [.ref 0, .int (l1 * r5)] [] μ4))))))))) : AA (Call d) y_M_term Q 3 [.ref 0, .int l1] [] μ := go_in 13 (code := pr_M_term) (stops := [3]) rfl rfl hNF
set_option maxRecDepth 20000 in
theorem b_M_added_0 {d : Nat} {Q : QQ} {μ : Mem} (hNF : Call d y_M_term [.ref 0] μ (fun ρ μ1 => ∃ r2 : Int32, ρ = .int r2 ∧ (AA (Call d) y_M_added Q 3 [.ref 0, .int r2, un, un] [] μ1))) : AA (Call d) y_M_added Q 0 [.ref 0, un, un, un] [] μ := go_in 4 (code := pr_M_added) (stops := [3]) rfl rfl hNF
set_option maxRecDepth 20000 in
theorem b_M_added_3 {d : Nat} {Q : QQ} {μ : Mem} {l1 : Int32} (hNF : Call d y_M_isSign [.ref 0, .int 43] μ (fun ρ μ1 => ∃ r2 : Int32, ρ = .int r2 ∧ ((¬ r2 = 0 → ((¬ (lg_cmp (μ1.2 0 30) 43) = 0 → (Call d y_M_next [.ref 0] μ1 (fun _ μ3 => (Call d y_M_term [.ref 0] μ3 (fun ρ μ4 => ∃ r5 : Int32, ρ = .int r5 ∧ (((0 : Int32) = 0 → (AA (Call d) y_M_added Q 3 [.ref 0, .int (l1 - r5), .int 0, .int r5] [] μ4)) ∧
(¬ (0 : Int32) = 0 → (AA (Call d) y_M_added Q 3 [.ref 0, .int (l1 + r5), .int 0, .int r5] [] μ4)))))))) ∧
((lg_cmp (μ1.2 0 30) 43) = 0 → (Call d y_M_next [.ref 0] μ1 (fun _ μ6 => (Call d y_M_term [.ref 0] μ6 (fun ρ μ7 => ∃ r8 : Int32, ρ = .int r8 ∧ (((1 : Int32) = 0 → (AA (Call d) y_M_added Q 3 [.ref 0, .int (l1 - r8), .int 1, .int r8] [] μ7)) ∧
(¬ (1 : Int32) = 0 → (AA (Call d) y_M_added Q 3 [.ref 0, .int (l1 + r8), .int 1, .int r8] [] μ7)))))))))) ∧
(r2 = 0 → (Call d y_M_isSign [.ref 0, .int 45] μ1 (fun ρ μ9 => ∃ r10 : Int32, ρ = .int r10 ∧ ((r10 = 0 → (Q (.int l1) μ9)) ∧
(¬ r10 = 0 → ((¬ (lg_cmp (μ9.2 0 30) 43) = 0 → (Call d y_M_next [.ref 0] μ9 (fun _ μ11 => (Call d y_M_term [.ref 0] μ11 (fun ρ μ12 => ∃ r13 : Int32, ρ = .int r13 ∧ (((0 : Int32) = 0 → (AA (Call d) y_M_added Q 3 [.ref 0, .int (l1 - r13), .int 0, .int r13] [] μ12)) ∧
(¬ (0 : Int32) = 0 → (AA (Call d) y_M_added Q 3 [.ref 0, .int (l1 + r13), .int 0, .int r13] [] μ12)))))))) ∧
((lg_cmp (μ9.2 0 30) 43) = 0 → (Call d y_M_next [.ref 0] μ9 (fun _ μ14 => (Call d y_M_term [.ref 0] μ14 (fun ρ μ15 => ∃ r16 : Int32, ρ = .int r16 ∧ (((1 : Int32) = 0 → (AA (Call d) y_M_added Q 3 [.ref 0, .int (l1 - r16), .int 1, .int r16] [] μ15)) ∧
(¬ (1 : Int32) = 0 → (AA (Call d) y_M_added Q 3 [.ref 0, .int (l1 + r16), .int 1, .int r16] [] μ15))))))))))))))))) : AA (Call d) y_M_added Q 3 [.ref 0, .int l1, un, un] [] μ := go_in 30 (code := pr_M_added) (stops := [3]) rfl rfl hNF
set_option maxRecDepth 20000 in
theorem b_M_not_0 {d : Nat} {Q : QQ} {μ : Mem} (hNF : Call d y_M_isWord [.ref 0, .int 110, .int 111, .int 116, .int 0, .int 0, .int 0, .int 0, .int 0] μ (fun ρ μ1 => ∃ r2 : Int32, ρ = .int r2 ∧ ((r2 = 0 → (Call d y_M_added [.ref 0] μ1 (fun ρ μ3 => ∃ r4 : Int32, ρ = .int r4 ∧ (Call d y_M_isSign [.ref 0, .int 60] μ3 (fun ρ μ5 => ∃ r6 : Int32, ρ = .int r6 ∧ ((¬ r6 = 0 → ((¬ (lg_cmp (μ5.2 0 30) 60) = 0 → (Call d y_M_next [.ref 0] μ5 (fun _ μ7 => (Call d y_M_added [.ref 0] μ7 (fun ρ μ8 => ∃ r9 : Int32, ρ = .int r9 ∧ (((0 : Int32) = 0 → ((¬ r4 = r9 → (Q (.int 0) μ8)) ∧
(r4 = r9 → (Q (.int 1) μ8)))) ∧
(¬ (0 : Int32) = 0 → ((r9 ≤ r4 → (Q (.int 0) μ8)) ∧
(¬ r9 ≤ r4 → (Q (.int 1) μ8)))))))))) ∧
((lg_cmp (μ5.2 0 30) 60) = 0 → (Call d y_M_next [.ref 0] μ5 (fun _ μ10 => (Call d y_M_added [.ref 0] μ10 (fun ρ μ11 => ∃ r12 : Int32, ρ = .int r12 ∧ (((1 : Int32) = 0 → ((¬ r4 = r12 → (Q (.int 0) μ11)) ∧
(r4 = r12 → (Q (.int 1) μ11)))) ∧
(¬ (1 : Int32) = 0 → ((r12 ≤ r4 → (Q (.int 0) μ11)) ∧
(¬ r12 ≤ r4 → (Q (.int 1) μ11)))))))))))) ∧
(r6 = 0 → (Call d y_M_isSign [.ref 0, .int 61] μ5 (fun ρ μ13 => ∃ r14 : Int32, ρ = .int r14 ∧ ((¬ r14 = 0 → ((¬ (lg_cmp (μ13.2 0 30) 60) = 0 → (Call d y_M_next [.ref 0] μ13 (fun _ μ15 => (Call d y_M_added [.ref 0] μ15 (fun ρ μ16 => ∃ r17 : Int32, ρ = .int r17 ∧ (((0 : Int32) = 0 → ((¬ r4 = r17 → (Q (.int 0) μ16)) ∧
(r4 = r17 → (Q (.int 1) μ16)))) ∧
(¬ (0 : Int32) = 0 → ((r17 ≤ r4 → (Q (.int 0) μ16)) ∧
(¬ r17 ≤ r4 → (Q (.int 1) μ16)))))))))) ∧
((lg_cmp (μ13.2 0 30) 60) = 0 → (Call d y_M_next [.ref 0] μ13 (fun _ μ18 => (Call d y_M_added [.ref 0] μ18 (fun ρ μ19 => ∃ r20 : Int32, ρ = .int r20 ∧ (((1 : Int32) = 0 → ((¬ r4 = r20 → (Q (.int 0) μ19)) ∧
(r4 = r20 → (Q (.int 1) μ19)))) ∧
(¬ (1 : Int32) = 0 → ((r20 ≤ r4 → (Q (.int 0) μ19)) ∧
(¬ r20 ≤ r4 → (Q (.int 1) μ19)))))))))))) ∧
(r14 = 0 → (Q (.int r4) μ13)))))))))))) ∧
(¬ r2 = 0 → (Call d y_M_opens [.ref 0] μ1 (fun ρ μ21 => ∃ r22 : Int32, ρ = .int r22 ∧ ((¬ r22 = 0 → (Call d y_M_not [.ref 0] μ21 (fun ρ μ23 => ∃ r24 : Int32, ρ = .int r24 ∧ (∀ μ25 : Mem, μ25 = wI μ23 0 (upd (μ23.1 0) 31 ((μ23.1 0 31) - 1)) → ((¬ r24 = 0 → (Q (.int 0) μ25)) ∧
(r24 = 0 → (Q (.int 1) μ25))))))) ∧
(r22 = 0 → (Q (.int 0) μ21))))))))) : AA (Call d) y_M_not Q 0 [.ref 0, un, un, un] [] μ := go_in 44 (code := pr_M_not) (stops := []) rfl rfl hNF
set_option maxRecDepth 20000 in
theorem b_M_both_0 {d : Nat} {Q : QQ} {μ : Mem} (hNF : Call d y_M_not [.ref 0] μ (fun ρ μ1 => ∃ r2 : Int32, ρ = .int r2 ∧ (AA (Call d) y_M_both Q 3 [.ref 0, .int r2, un] [] μ1))) : AA (Call d) y_M_both Q 0 [.ref 0, un, un] [] μ := go_in 4 (code := pr_M_both) (stops := [3]) rfl rfl hNF
set_option maxRecDepth 20000 in
theorem b_M_both_3 {d : Nat} {Q : QQ} {μ : Mem} {l1 : Int32} (hNF : Call d y_M_isWord [.ref 0, .int 97, .int 110, .int 100, .int 0, .int 0, .int 0, .int 0, .int 0] μ (fun ρ μ1 => ∃ r2 : Int32, ρ = .int r2 ∧ ((r2 = 0 → (Q (.int l1) μ1)) ∧
(¬ r2 = 0 → (Call d y_M_next [.ref 0] μ1 (fun _ μ3 => (Call d y_M_not [.ref 0] μ3 (fun ρ μ4 => ∃ r5 : Int32, ρ = .int r5 ∧ ((l1 = 0 → (AA (Call d) y_M_both Q 3 [.ref 0, .int 0, .int r5] [] μ4)) ∧
(¬ l1 = 0 → ((r5 = 0 → (AA (Call d) y_M_both Q 3 [.ref 0, .int 0, .int r5] [] μ4)) ∧
(¬ r5 = 0 → (AA (Call d) y_M_both Q 3 [.ref 0, .int 1, .int r5] [] μ4))))))))))))) : AA (Call d) y_M_both Q 3 [.ref 0, .int l1, un] [] μ := go_in 25 (code := pr_M_both) (stops := [3]) rfl rfl hNF
set_option maxRecDepth 20000 in
theorem b_M_either_0 {d : Nat} {Q : QQ} {μ : Mem} (hNF : Call d y_M_both [.ref 0] μ (fun ρ μ1 => ∃ r2 : Int32, ρ = .int r2 ∧ (AA (Call d) y_M_either Q 3 [.ref 0, .int r2, un] [] μ1))) : AA (Call d) y_M_either Q 0 [.ref 0, un, un] [] μ := go_in 4 (code := pr_M_either) (stops := [3]) rfl rfl hNF
set_option maxRecDepth 20000 in
theorem b_M_either_3 {d : Nat} {Q : QQ} {μ : Mem} {l1 : Int32} (hNF : Call d y_M_isWord [.ref 0, .int 111, .int 114, .int 0, .int 0, .int 0, .int 0, .int 0, .int 0] μ (fun ρ μ1 => ∃ r2 : Int32, ρ = .int r2 ∧ ((r2 = 0 → (Q (.int l1) μ1)) ∧
(¬ r2 = 0 → (Call d y_M_next [.ref 0] μ1 (fun _ μ3 => (Call d y_M_both [.ref 0] μ3 (fun ρ μ4 => ∃ r5 : Int32, ρ = .int r5 ∧ ((¬ l1 = 0 → (AA (Call d) y_M_either Q 3 [.ref 0, .int 1, .int r5] [] μ4)) ∧
(l1 = 0 → ((r5 = 0 → (AA (Call d) y_M_either Q 3 [.ref 0, .int 0, .int r5] [] μ4)) ∧
(¬ r5 = 0 → (AA (Call d) y_M_either Q 3 [.ref 0, .int 1, .int r5] [] μ4))))))))))))) : AA (Call d) y_M_either Q 3 [.ref 0, .int l1, un] [] μ := go_in 25 (code := pr_M_either) (stops := [3]) rfl rfl hNF
set_option maxRecDepth 20000 in
theorem b_M_part_0 {d : Nat} {Q : QQ} {μ : Mem} {a : Int32} (hNF : (¬ a = 0 → ((¬ (μ.1 0 32) = 0 → (((μ.1 0 32) = 0 → (Call d y_M_either [.ref 0] μ (fun ρ μ1 => ∃ r2 : Int32, ρ = .int r2 ∧ (Call d y_M_isSign [.ref 0, .int 59] μ1 (fun ρ μ3 => ∃ r4 : Int32, ρ = .int r4 ∧ ((¬ r4 = 0 → ((¬ (μ3.1 0 32) = 0 → (Q (.int r2) μ3)) ∧
((μ3.1 0 32) = 0 → (Call d y_M_next [.ref 0] μ3 (fun _ μ5 => (Q (.int r2) μ5)))))) ∧
(r4 = 0 → (Call d y_M_fail [.ref 0] μ3 (fun _ μ6 => ((¬ (μ6.1 0 32) = 0 → (Q (.int r2) μ6)) ∧
((μ6.1 0 32) = 0 → (Call d y_M_next [.ref 0] μ6 (fun _ μ7 => (Q (.int r2) μ7)))))))))))))) ∧
(¬ (μ.1 0 32) = 0 → (Call d y_M_isSign [.ref 0, .int 59] μ (fun ρ μ8 => ∃ r9 : Int32, ρ = .int r9 ∧ ((¬ r9 = 0 → ((¬ (μ8.1 0 32) = 0 → (Q (.int 0) μ8)) ∧
((μ8.1 0 32) = 0 → (Call d y_M_next [.ref 0] μ8 (fun _ μ10 => (Q (.int 0) μ10)))))) ∧
(r9 = 0 → (Call d y_M_fail [.ref 0] μ8 (fun _ μ11 => ((¬ (μ11.1 0 32) = 0 → (Q (.int 0) μ11)) ∧
((μ11.1 0 32) = 0 → (Call d y_M_next [.ref 0] μ11 (fun _ μ12 => (Q (.int 0) μ12)))))))))))))) ∧
((μ.1 0 32) = 0 → (Call d y_M_next [.ref 0] μ (fun _ μ13 => (((μ13.1 0 32) = 0 → (Call d y_M_either [.ref 0] μ13 (fun ρ μ14 => ∃ r15 : Int32, ρ = .int r15 ∧ (Call d y_M_isSign [.ref 0, .int 59] μ14 (fun ρ μ16 => ∃ r17 : Int32, ρ = .int r17 ∧ ((¬ r17 = 0 → ((¬ (μ16.1 0 32) = 0 → (Q (.int r15) μ16)) ∧
((μ16.1 0 32) = 0 → (Call d y_M_next [.ref 0] μ16 (fun _ μ18 => (Q (.int r15) μ18)))))) ∧
(r17 = 0 → (Call d y_M_fail [.ref 0] μ16 (fun _ μ19 => ((¬ (μ19.1 0 32) = 0 → (Q (.int r15) μ19)) ∧
((μ19.1 0 32) = 0 → (Call d y_M_next [.ref 0] μ19 (fun _ μ20 => (Q (.int r15) μ20)))))))))))))) ∧
(¬ (μ13.1 0 32) = 0 → (Call d y_M_isSign [.ref 0, .int 59] μ13 (fun ρ μ21 => ∃ r22 : Int32, ρ = .int r22 ∧ ((¬ r22 = 0 → ((¬ (μ21.1 0 32) = 0 → (Q (.int 0) μ21)) ∧
((μ21.1 0 32) = 0 → (Call d y_M_next [.ref 0] μ21 (fun _ μ23 => (Q (.int 0) μ23)))))) ∧
(r22 = 0 → (Call d y_M_fail [.ref 0] μ21 (fun _ μ24 => ((¬ (μ24.1 0 32) = 0 → (Q (.int 0) μ24)) ∧
((μ24.1 0 32) = 0 → (Call d y_M_next [.ref 0] μ24 (fun _ μ25 => (Q (.int 0) μ25)))))))))))))))))) ∧
(a = 0 → (Call d y_M_fail [.ref 0] μ (fun _ μ26 => ((¬ (μ26.1 0 32) = 0 → (((μ26.1 0 32) = 0 → (Call d y_M_either [.ref 0] μ26 (fun ρ μ27 => ∃ r28 : Int32, ρ = .int r28 ∧ (Call d y_M_isSign [.ref 0, .int 59] μ27 (fun ρ μ29 => ∃ r30 : Int32, ρ = .int r30 ∧ ((¬ r30 = 0 → ((¬ (μ29.1 0 32) = 0 → (Q (.int r28) μ29)) ∧
((μ29.1 0 32) = 0 → (Call d y_M_next [.ref 0] μ29 (fun _ μ31 => (Q (.int r28) μ31)))))) ∧
(r30 = 0 → (Call d y_M_fail [.ref 0] μ29 (fun _ μ32 => ((¬ (μ32.1 0 32) = 0 → (Q (.int r28) μ32)) ∧
((μ32.1 0 32) = 0 → (Call d y_M_next [.ref 0] μ32 (fun _ μ33 => (Q (.int r28) μ33)))))))))))))) ∧
(¬ (μ26.1 0 32) = 0 → (Call d y_M_isSign [.ref 0, .int 59] μ26 (fun ρ μ34 => ∃ r35 : Int32, ρ = .int r35 ∧ ((¬ r35 = 0 → ((¬ (μ34.1 0 32) = 0 → (Q (.int 0) μ34)) ∧
((μ34.1 0 32) = 0 → (Call d y_M_next [.ref 0] μ34 (fun _ μ36 => (Q (.int 0) μ36)))))) ∧
(r35 = 0 → (Call d y_M_fail [.ref 0] μ34 (fun _ μ37 => ((¬ (μ37.1 0 32) = 0 → (Q (.int 0) μ37)) ∧
((μ37.1 0 32) = 0 → (Call d y_M_next [.ref 0] μ37 (fun _ μ38 => (Q (.int 0) μ38)))))))))))))) ∧
((μ26.1 0 32) = 0 → (Call d y_M_next [.ref 0] μ26 (fun _ μ39 => (((μ39.1 0 32) = 0 → (Call d y_M_either [.ref 0] μ39 (fun ρ μ40 => ∃ r41 : Int32, ρ = .int r41 ∧ (Call d y_M_isSign [.ref 0, .int 59] μ40 (fun ρ μ42 => ∃ r43 : Int32, ρ = .int r43 ∧ ((¬ r43 = 0 → ((¬ (μ42.1 0 32) = 0 → (Q (.int r41) μ42)) ∧
((μ42.1 0 32) = 0 → (Call d y_M_next [.ref 0] μ42 (fun _ μ44 => (Q (.int r41) μ44)))))) ∧
(r43 = 0 → (Call d y_M_fail [.ref 0] μ42 (fun _ μ45 => ((¬ (μ45.1 0 32) = 0 → (Q (.int r41) μ45)) ∧
((μ45.1 0 32) = 0 → (Call d y_M_next [.ref 0] μ45 (fun _ μ46 => (Q (.int r41) μ46)))))))))))))) ∧
(¬ (μ39.1 0 32) = 0 → (Call d y_M_isSign [.ref 0, .int 59] μ39 (fun ρ μ47 => ∃ r48 : Int32, ρ = .int r48 ∧ ((¬ r48 = 0 → ((¬ (μ47.1 0 32) = 0 → (Q (.int 0) μ47)) ∧
((μ47.1 0 32) = 0 → (Call d y_M_next [.ref 0] μ47 (fun _ μ49 => (Q (.int 0) μ49)))))) ∧
(r48 = 0 → (Call d y_M_fail [.ref 0] μ47 (fun _ μ50 => ((¬ (μ50.1 0 32) = 0 → (Q (.int 0) μ50)) ∧
((μ50.1 0 32) = 0 → (Call d y_M_next [.ref 0] μ50 (fun _ μ51 => (Q (.int 0) μ51))))))))))))))))))))) : AA (Call d) y_M_part Q 0 [.ref 0, .int a, un] [] μ := go_in 28 (code := pr_M_part) (stops := []) rfl rfl hNF
set_option maxRecDepth 20000 in
theorem b_M_read_0 {d : Nat} {Q : QQ} {μ : Mem} {a : Int32} {b : Int32} (hNF : ∀ μ1 : Mem, μ1 = wI μ 0 (upd (μ.1 0) 25 (160 * a)) → (vp_in a 6 ∧ ∀ μ2 : Mem, μ2 = wI μ1 0 (upd (μ1.1 0) 26 (μ1.1 2 a.toNatClampNeg)) → (∀ μ3 : Mem, μ3 = wI μ2 0 (upd (μ2.1 0) 27 0) → (∀ μ4 : Mem, μ4 = wI μ3 0 (upd (μ3.1 0) 31 0) → (narrow .boolean (.int 0) = .int 0 ∧ ∀ μ5 : Mem, μ5 = wI μ4 0 (upd (μ4.1 0) 32 0) → (Call d y_M_next [.ref 0] μ5 (fun _ μ6 => (Call d y_M_isWord [.ref 0, .int 97, .int 100, .int 100, .int 115, .int 0, .int 0, .int 0, .int 0] μ6 (fun ρ μ7 => ∃ r8 : Int32, ρ = .int r8 ∧ (Call d y_M_part [.ref 0, .int r8] μ7 (fun ρ μ9 => ∃ r10 : Int32, ρ = .int r10 ∧ (((μ9.1 0 32) = 0 → (Call d y_M_isWord [.ref 0, .int 119, .int 111, .int 114, .int 116, .int 104, .int 0, .int 0, .int 0] μ9 (fun ρ μ11 => ∃ r12 : Int32, ρ = .int r12 ∧ (Call d y_M_part [.ref 0, .int r12] μ11 (fun ρ μ13 => ∃ r14 : Int32, ρ = .int r14 ∧ (((μ13.1 0 32) = 0 → (Call d y_M_isWord [.ref 0, .int 109, .int 97, .int 121, .int 0, .int 0, .int 0, .int 0, .int 0] μ13 (fun ρ μ15 => ∃ r16 : Int32, ρ = .int r16 ∧ (Call d y_M_part [.ref 0, .int r16] μ15 (fun ρ μ17 => ∃ r18 : Int32, ρ = .int r18 ∧ ((¬ (μ17.1 0 32) = 0 → ((¬ b = 0 → ((¬ b = 1 → (Q (.int r18) μ17)) ∧
(b = 1 → (Q (.int r14) μ17)))) ∧
(b = 0 → (Q (.int r10) μ17)))) ∧
((μ17.1 0 32) = 0 → (((μ17.1 0 28) = 0 → ((¬ b = 0 → ((¬ b = 1 → (Q (.int r18) μ17)) ∧
(b = 1 → (Q (.int r14) μ17)))) ∧
(b = 0 → (Q (.int r10) μ17)))) ∧
(¬ (μ17.1 0 28) = 0 → (Call d y_M_fail [.ref 0] μ17 (fun _ μ19 => ((¬ b = 0 → ((¬ b = 1 → (Q (.int r18) μ19)) ∧
(b = 1 → (Q (.int r14) μ19)))) ∧
(b = 0 → (Q (.int r10) μ19)))))))))))))) ∧
(¬ (μ13.1 0 32) = 0 → ((¬ (μ13.1 0 32) = 0 → ((¬ b = 0 → ((¬ b = 1 → (Q (.int 0) μ13)) ∧
(b = 1 → (Q (.int r14) μ13)))) ∧
(b = 0 → (Q (.int r10) μ13)))) ∧
((μ13.1 0 32) = 0 → (((μ13.1 0 28) = 0 → ((¬ b = 0 → ((¬ b = 1 → (Q (.int 0) μ13)) ∧
(b = 1 → (Q (.int r14) μ13)))) ∧
(b = 0 → (Q (.int r10) μ13)))) ∧
(¬ (μ13.1 0 28) = 0 → (Call d y_M_fail [.ref 0] μ13 (fun _ μ20 => ((¬ b = 0 → ((¬ b = 1 → (Q (.int 0) μ20)) ∧
(b = 1 → (Q (.int r14) μ20)))) ∧
(b = 0 → (Q (.int r10) μ20)))))))))))))))) ∧
(¬ (μ9.1 0 32) = 0 → (((μ9.1 0 32) = 0 → (Call d y_M_isWord [.ref 0, .int 109, .int 97, .int 121, .int 0, .int 0, .int 0, .int 0, .int 0] μ9 (fun ρ μ21 => ∃ r22 : Int32, ρ = .int r22 ∧ (Call d y_M_part [.ref 0, .int r22] μ21 (fun ρ μ23 => ∃ r24 : Int32, ρ = .int r24 ∧ ((¬ (μ23.1 0 32) = 0 → ((¬ b = 0 → ((¬ b = 1 → (Q (.int r24) μ23)) ∧
(b = 1 → (Q (.int 0) μ23)))) ∧
(b = 0 → (Q (.int r10) μ23)))) ∧
((μ23.1 0 32) = 0 → (((μ23.1 0 28) = 0 → ((¬ b = 0 → ((¬ b = 1 → (Q (.int r24) μ23)) ∧
(b = 1 → (Q (.int 0) μ23)))) ∧
(b = 0 → (Q (.int r10) μ23)))) ∧
(¬ (μ23.1 0 28) = 0 → (Call d y_M_fail [.ref 0] μ23 (fun _ μ25 => ((¬ b = 0 → ((¬ b = 1 → (Q (.int r24) μ25)) ∧
(b = 1 → (Q (.int 0) μ25)))) ∧
(b = 0 → (Q (.int r10) μ25)))))))))))))) ∧
(¬ (μ9.1 0 32) = 0 → ((¬ (μ9.1 0 32) = 0 → ((¬ b = 0 → ((¬ b = 1 → (Q (.int 0) μ9)) ∧
(b = 1 → (Q (.int 0) μ9)))) ∧
(b = 0 → (Q (.int r10) μ9)))) ∧
((μ9.1 0 32) = 0 → (((μ9.1 0 28) = 0 → ((¬ b = 0 → ((¬ b = 1 → (Q (.int 0) μ9)) ∧
(b = 1 → (Q (.int 0) μ9)))) ∧
(b = 0 → (Q (.int r10) μ9)))) ∧
(¬ (μ9.1 0 28) = 0 → (Call d y_M_fail [.ref 0] μ9 (fun _ μ26 => ((¬ b = 0 → ((¬ b = 1 → (Q (.int 0) μ26)) ∧
(b = 1 → (Q (.int 0) μ26)))) ∧
(b = 0 → (Q (.int r10) μ26)))))))))))))))))))))))) : AA (Call d) y_M_read Q 0 [.ref 0, .int a, .int b, un, un, un] [] μ := go_in 83 (code := pr_M_read) (stops := []) rfl rfl hNF
set_option maxRecDepth 20000 in
theorem b_M_text_0 {d : Nat} {Q : QQ} {μ : Mem} (hNF : (¬ (μ.1 0 3) = 6 → (AA (Call d) y_M_text Q 8 [.ref 0, .int 0] [] μ)) ∧
((μ.1 0 3) = 6 → (Q (.int (-4)) μ))) : AA (Call d) y_M_text Q 0 [.ref 0, un] [] μ := go_in 7 (code := pr_M_text) (stops := [8]) rfl rfl hNF
set_option maxRecDepth 20000 in
theorem b_M_text_8 {d : Nat} {Q : QQ} {μ : Mem} {l1 : Int32} (hNF : ((μ.1 0 6) ≤ l1 → (vp_in (μ.1 0 3) 6 ∧ ∀ μ1 : Mem, μ1 = wI μ 2 (upd (μ.1 2) (Int32.toNatClampNeg (μ.1 0 3)) (μ.1 0 6)) → (∀ μ2 : Mem, μ2 = wI μ1 0 (upd (μ1.1 0) 6 0) → (Call d y_M_read [.ref 0, .int (μ2.1 0 3), .int 0] μ2 (fun ρ μ3 => ∃ r4 : Int32, ρ = .int r4 ∧ (((μ3.1 0 32) = 0 → (∀ μ5 : Mem, μ5 = wI μ3 0 (upd (μ3.1 0) 3 ((μ3.1 0 3) + 1)) → (Q (.int ((μ5.1 0 3) - 1)) μ5))) ∧
(¬ (μ3.1 0 32) = 0 → (Q (.int ((-100) - (μ3.1 0 33))) μ3)))))))) ∧
(¬ (μ.1 0 6) ≤ l1 → (vp_in l1 160 ∧ (vp_in ((160 * (μ.1 0 3)) + l1) 960 ∧ ∀ μ6 : Mem, μ6 = wI μ 1 (upd (μ.1 1) (Int32.toNatClampNeg ((160 * (μ.1 0 3)) + l1)) (μ.1 3 l1.toNatClampNeg)) → (AA (Call d) y_M_text Q 8 [.ref 0, .int (l1 + 1)] [] μ6))))) : AA (Call d) y_M_text Q 8 [.ref 0, .int l1] [] μ := go_in 34 (code := pr_M_text) (stops := [8]) rfl rfl hNF
set_option maxRecDepth 20000 in
theorem b_M_force_0 {d : Nat} {Q : QQ} {μ : Mem} {a : Int32} (hNF : Call d y_M_in [.long (Int32.toInt64 a), .long 0, .long (Int32.toInt64 ((μ.1 0 3) - 1))] μ (fun ρ μ1 => ∃ r2 : Int32, ρ = .int r2 ∧ ((¬ r2 = 0 → (∀ μ3 : Mem, μ3 = wI μ1 0 (upd (μ1.1 0) 4 a) → (Q (.int (μ1.1 0 4)) μ3))) ∧
(r2 = 0 → (Q (.int (-2)) μ1))))) : AA (Call d) y_M_force Q 0 [.ref 0, .int a, un] [] μ := go_in 18 (code := pr_M_force) (stops := []) rfl rfl hNF
set_option maxRecDepth 20000 in
theorem b_M_adds_0 {d : Nat} {Q : QQ} {μ : Mem} {a : Int32} {b : Int32} {c : Int32} (hNF : ∀ μ1 : Mem, μ1 = wI μ 0 (upd (μ.1 0) 19 a) → (∀ μ2 : Mem, μ2 = wI μ1 0 (upd (μ1.1 0) 20 b) → (∀ μ3 : Mem, μ3 = wI μ2 0 (upd (μ2.1 0) 21 c) → (∀ μ4 : Mem, μ4 = wI μ3 0 (upd (μ3.1 0) 22 0) → (∀ μ5 : Mem, μ5 = wI μ4 0 (upd (μ4.1 0) 23 0) → (∀ μ6 : Mem, μ6 = wI μ5 0 (upd (μ5.1 0) 24 0) → (Call d y_M_keptRead [.ref 0, .int 0] μ6 (fun ρ μ7 => ∃ r8 : Int32, ρ = .int r8 ∧ (Call d y_M_within [.int r8, .int 0, .int 99] μ7 (fun ρ μ9 => ∃ r10 : Int32, ρ = .int r10 ∧ (Q (.int r10) μ9))))))))))) : AA (Call d) y_M_adds Q 0 [.ref 0, .int a, .int b, .int c] [] μ := go_in 25 (code := pr_M_adds) (stops := []) rfl rfl hNF
set_option maxRecDepth 20000 in
theorem b_M_says_0 {d : Nat} {Q : QQ} {μ : Mem} {a : Int32} {b : Int32} {c : Int32} (hNF : ∀ μ1 : Mem, μ1 = wI μ 0 (upd (μ.1 0) 19 0) → (vp_in b 5 ∧ ∀ μ2 : Mem, μ2 = wI μ1 0 (upd (μ1.1 0) 20 (μ1.1 8 b.toNatClampNeg)) → (∀ μ3 : Mem, μ3 = wI μ2 0 (upd (μ2.1 0) 21 0) → (vp_in c 10 ∧ (Call d y_M_sizeOf [.int (μ3.1 6 c.toNatClampNeg)] μ3 (fun ρ μ4 => ∃ r5 : Int32, ρ = .int r5 ∧ (∀ μ6 : Mem, μ6 = wI μ4 0 (upd (μ4.1 0) 22 r5) → (vp_in b 5 ∧ ∀ μ7 : Mem, μ7 = wI μ6 0 (upd (μ6.1 0) 23 (μ6.1 9 b.toNatClampNeg)) → (∀ μ8 : Mem, μ8 = wI μ7 0 (upd (μ7.1 0) 24 (μ7.1 0 14)) → (Call d y_M_keptRead [.ref 0, .int a] μ8 (fun ρ μ9 => ∃ r10 : Int32, ρ = .int r10 ∧ (Q (.int r10) μ9)))))))))))) : AA (Call d) y_M_says Q 0 [.ref 0, .int a, .int b, .int c] [] μ := go_in 33 (code := pr_M_says) (stops := []) rfl rfl hNF
set_option maxRecDepth 20000 in
theorem b_M_keptRead_0 {d : Nat} {Q : QQ} {μ : Mem} {a : Int32} (hNF : AA (Call d) y_M_keptRead Q 9 [.ref 0, .int a, .long (((Int32.toInt64 (μ.1 0 4)) * 3) + (Int32.toInt64 a)), un, un] [] μ) : AA (Call d) y_M_keptRead Q 0 [.ref 0, .int a, un, un, un] [] μ := go_in 10 (code := pr_M_keptRead) (stops := [9, 17, 25, 33, 41, 49, 59, 66]) rfl rfl hNF
set_option maxRecDepth 20000 in
theorem b_M_keptRead_9 {d : Nat} {Q : QQ} {μ : Mem} {l1 : Int32} {l2 : Int64} (hNF : AA (Call d) y_M_keptRead Q 17 [.ref 0, .int l1, .long ((l2 * 1000) + (Int32.toInt64 (μ.1 0 19))), un, un] [] μ) : AA (Call d) y_M_keptRead Q 9 [.ref 0, .int l1, .long l2, un, un] [] μ := go_in 9 (code := pr_M_keptRead) (stops := [9, 17, 25, 33, 41, 49, 59, 66]) rfl rfl hNF
set_option maxRecDepth 20000 in
theorem b_M_keptRead_17 {d : Nat} {Q : QQ} {μ : Mem} {l1 : Int32} {l2 : Int64} (hNF : AA (Call d) y_M_keptRead Q 25 [.ref 0, .int l1, .long ((l2 * 32) + (Int32.toInt64 (μ.1 0 20))), un, un] [] μ) : AA (Call d) y_M_keptRead Q 17 [.ref 0, .int l1, .long l2, un, un] [] μ := go_in 9 (code := pr_M_keptRead) (stops := [9, 17, 25, 33, 41, 49, 59, 66]) rfl rfl hNF
set_option maxRecDepth 20000 in
theorem b_M_keptRead_25 {d : Nat} {Q : QQ} {μ : Mem} {l1 : Int32} {l2 : Int64} (hNF : AA (Call d) y_M_keptRead Q 33 [.ref 0, .int l1, .long ((l2 * 16) + (Int32.toInt64 (μ.1 0 21))), un, un] [] μ) : AA (Call d) y_M_keptRead Q 25 [.ref 0, .int l1, .long l2, un, un] [] μ := go_in 9 (code := pr_M_keptRead) (stops := [9, 17, 25, 33, 41, 49, 59, 66]) rfl rfl hNF
set_option maxRecDepth 20000 in
theorem b_M_keptRead_33 {d : Nat} {Q : QQ} {μ : Mem} {l1 : Int32} {l2 : Int64} (hNF : AA (Call d) y_M_keptRead Q 41 [.ref 0, .int l1, .long ((l2 * 64) + (Int32.toInt64 (μ.1 0 22))), un, un] [] μ) : AA (Call d) y_M_keptRead Q 33 [.ref 0, .int l1, .long l2, un, un] [] μ := go_in 9 (code := pr_M_keptRead) (stops := [9, 17, 25, 33, 41, 49, 59, 66]) rfl rfl hNF
set_option maxRecDepth 20000 in
theorem b_M_keptRead_41 {d : Nat} {Q : QQ} {μ : Mem} {l1 : Int32} {l2 : Int64} (hNF : AA (Call d) y_M_keptRead Q 49 [.ref 0, .int l1, .long ((l2 * 1048576) + (Int32.toInt64 (μ.1 0 23))), un, un] [] μ) : AA (Call d) y_M_keptRead Q 41 [.ref 0, .int l1, .long l2, un, un] [] μ := go_in 9 (code := pr_M_keptRead) (stops := [9, 17, 25, 33, 41, 49, 59, 66]) rfl rfl hNF
set_option maxRecDepth 20000 in
theorem b_M_keptRead_49 {d : Nat} {Q : QQ} {μ : Mem} {l1 : Int32} {l2 : Int64} (hNF : AA (Call d) y_M_keptRead Q 59 [.ref 0, .int l1, .long (((l2 * 16) + (Int32.toInt64 (μ.1 0 24))) + 1), un, un] [] μ) : AA (Call d) y_M_keptRead Q 49 [.ref 0, .int l1, .long l2, un, un] [] μ := go_in 11 (code := pr_M_keptRead) (stops := [9, 17, 25, 33, 41, 49, 59, 66]) rfl rfl hNF
set_option maxRecDepth 20000 in
theorem b_M_keptRead_59 {d : Nat} {Q : QQ} {μ : Mem} {l1 : Int32} {l2 : Int64} (hNF : AA (Call d) y_M_keptRead Q 66 [.ref 0, .int l1, .long l2, un, .int (Int64.toInt32 ((Int64.toUInt64 (l2 * 7046029254386353131) >>> ((Int32.toInt64 54).toUInt64 &&& Int64.toUInt64 63)).toInt64))] [] μ) : AA (Call d) y_M_keptRead Q 59 [.ref 0, .int l1, .long l2, un, un] [] μ := go_in 8 (code := pr_M_keptRead) (stops := [9, 17, 25, 33, 41, 49, 59, 66]) rfl rfl hNF
set_option maxRecDepth 20000 in
theorem b_M_keptRead_66 {d : Nat} {Q : QQ} {μ : Mem} {l1 : Int32} {l2 : Int64} {l4 : Int32} (hNF : vp_in l4 1024 ∧ (((lg_cmp (μ.2 12 l4.toNatClampNeg) l2) = 0 → (vp_in l4 1024 ∧ (Q (.int (μ.1 13 l4.toNatClampNeg)) μ))) ∧
(¬ (lg_cmp (μ.2 12 l4.toNatClampNeg) l2) = 0 → (Call d y_M_read [.ref 0, .int (μ.1 0 4), .int l1] μ (fun ρ μ1 => ∃ r2 : Int32, ρ = .int r2 ∧ (vp_in l4 1024 ∧ ∀ μ3 : Mem, μ3 = wI μ1 13 (upd (μ1.1 13) l4.toNatClampNeg r2) → (vp_in l4 1024 ∧ ∀ μ4 : Mem, μ4 = wL μ3 12 (vp_updL (μ3.2 12) l4.toNatClampNeg l2) → (vp_in l4 1024 ∧ (Q (.int (μ4.1 13 l4.toNatClampNeg)) μ4))))))))) : AA (Call d) y_M_keptRead Q 66 [.ref 0, .int l1, .long l2, un, .int l4] [] μ := go_in 26 (code := pr_M_keptRead) (stops := [9, 17, 25, 33, 41, 49, 59, 66]) rfl rfl hNF
set_option maxRecDepth 20000 in
theorem b_M_takes_0 {d : Nat} {Q : QQ} {μ : Mem} (hNF : AA (Call d) y_M_takes Q 2 [.ref 0, .int 0] [] μ) : AA (Call d) y_M_takes Q 0 [.ref 0, un] [] μ := go_in 3 (code := pr_M_takes) (stops := [2]) rfl rfl hNF
set_option maxRecDepth 20000 in
theorem b_M_takes_2 {d : Nat} {Q : QQ} {μ : Mem} {l1 : Int32} (hNF : ((8 : Int32) ≤ l1 → (Q .null μ)) ∧
(¬ (8 : Int32) ≤ l1 → (vp_in l1 8 ∧ (vp_in l1 8 ∧ ∀ μ1 : Mem, μ1 = wI μ 14 (upd (μ.1 14) l1.toNatClampNeg (μ.1 4 l1.toNatClampNeg)) → (AA (Call d) y_M_takes Q 2 [.ref 0, .int (l1 + 1)] [] μ1))))) : AA (Call d) y_M_takes Q 2 [.ref 0, .int l1] [] μ := go_in 14 (code := pr_M_takes) (stops := [2]) rfl rfl hNF
set_option maxRecDepth 20000 in
theorem b_M_writes_0 {d : Nat} {Q : QQ} {μ : Mem} {a : Int32} {b : Int32} (hNF : AA (Call d) y_M_writes Q 4 [.ref 0, .int a, .int b, .int 1, .int 1, un, un] [] μ) : AA (Call d) y_M_writes Q 0 [.ref 0, .int a, .int b, un, un, un, un] [] μ := go_in 5 (code := pr_M_writes) (stops := [4, 21]) rfl rfl hNF
set_option maxRecDepth 20000 in
theorem b_M_writes_4 {d : Nat} {Q : QQ} {μ : Mem} {l1 : Int32} {l2 : Int32} {l3 : Int32} {l4 : Int32} (hNF : vp_in l1 10 ∧ (Call d y_M_sizeOf [.int (μ.1 6 l1.toNatClampNeg)] μ (fun ρ μ1 => ∃ r2 : Int32, ρ = .int r2 ∧ ((r2 ≤ l4 → (AA (Call d) y_M_writes Q 21 [.ref 0, .int l1, .int l2, .int l3, .int 0, .int l3, un] [] μ1)) ∧
(¬ r2 ≤ l4 → (AA (Call d) y_M_writes Q 4 [.ref 0, .int l1, .int l2, .int (l3 * 10), .int (l4 + 1), un, un] [] μ1)))))) : AA (Call d) y_M_writes Q 4 [.ref 0, .int l1, .int l2, .int l3, .int l4, un, un] [] μ := go_in 14 (code := pr_M_writes) (stops := [4, 21]) rfl rfl hNF
set_option maxRecDepth 20000 in
theorem b_M_writes_21 {d : Nat} {Q : QQ} {μ : Mem} {l1 : Int32} {l2 : Int32} {l3 : Int32} {l4 : Int32} {l5 : Int32} (hNF : (l5 ≤ 0 → (Q (.int l4) μ)) ∧
(¬ l5 ≤ 0 → (vp_in l1 10 ∧ (¬ l5 = 0 ∧ (¬ (10 : Int32) = 0 ∧ (vp_in ((((μ.1 6 l1.toNatClampNeg) / l5) - ((μ.1 6 l1.toNatClampNeg) / l5) / 10 * 10) - 1) 8 ∧ (Call d y_M_costBy [.ref 0, .int (μ.1 14 (Int32.toNatClampNeg ((((μ.1 6 l1.toNatClampNeg) / l5) - ((μ.1 6 l1.toNatClampNeg) / l5) / 10 * 10) - 1))), .int l2] μ (fun ρ μ1 => ∃ r2 : Int32, ρ = .int r2 ∧ (vp_in ((((μ.1 6 l1.toNatClampNeg) / l5) - ((μ.1 6 l1.toNatClampNeg) / l5) / 10 * 10) - 1) 8 ∧ (Call d y_M_adds [.ref 0, .int (μ1.1 14 (Int32.toNatClampNeg ((((μ.1 6 l1.toNatClampNeg) / l5) - ((μ.1 6 l1.toNatClampNeg) / l5) / 10 * 10) - 1))), .int l2, .int ((((μ.1 6 l1.toNatClampNeg) / l5) - ((μ.1 6 l1.toNatClampNeg) / l5) / 10 * 10) - 1)] μ1 (fun ρ μ3 => ∃ r4 : Int32, ρ = .int r4 ∧ (vp_in ((((μ.1 6 l1.toNatClampNeg) / l5) - ((μ.1 6 l1.toNatClampNeg) / l5) / 10 * 10) - 1) 8 ∧ (((999 : Int32) ≤ (μ3.1 14 (Int32.toNatClampNeg ((((μ.1 6 l1.toNatClampNeg) / l5) - ((μ.1 6 l1.toNatClampNeg) / l5) / 10 * 10) - 1))) → (vp_in ((((μ.1 6 l1.toNatClampNeg) / l5) - ((μ.1 6 l1.toNatClampNeg) / l5) / 10 * 10) - 1) 8 ∧ ∀ μ5 : Mem, μ5 = wI μ3 14 (upd (μ3.1 14) (Int32.toNatClampNeg ((((μ.1 6 l1.toNatClampNeg) / l5) - ((μ.1 6 l1.toNatClampNeg) / l5) / 10 * 10) - 1)) 999) → (¬ (10 : Int32) = 0 ∧ (AA (Call d) y_M_writes Q 21 [.ref 0, .int l1, .int l2, .int l3, .int (l4 + (r2 + r4)), .int (l5 / 10), .int ((((μ.1 6 l1.toNatClampNeg) / l5) - ((μ.1 6 l1.toNatClampNeg) / l5) / 10 * 10) - 1)] [] μ5)))) ∧
(¬ (999 : Int32) ≤ (μ3.1 14 (Int32.toNatClampNeg ((((μ.1 6 l1.toNatClampNeg) / l5) - ((μ.1 6 l1.toNatClampNeg) / l5) / 10 * 10) - 1))) → (vp_in ((((μ.1 6 l1.toNatClampNeg) / l5) - ((μ.1 6 l1.toNatClampNeg) / l5) / 10 * 10) - 1) 8 ∧ (vp_in ((((μ.1 6 l1.toNatClampNeg) / l5) - ((μ.1 6 l1.toNatClampNeg) / l5) / 10 * 10) - 1) 8 ∧ ∀ μ6 : Mem, μ6 = wI μ3 14 (upd (μ3.1 14) (Int32.toNatClampNeg ((((μ.1 6 l1.toNatClampNeg) / l5) - ((μ.1 6 l1.toNatClampNeg) / l5) / 10 * 10) - 1)) ((μ3.1 14 (Int32.toNatClampNeg ((((μ.1 6 l1.toNatClampNeg) / l5) - ((μ.1 6 l1.toNatClampNeg) / l5) / 10 * 10) - 1))) + 1)) → (¬ (10 : Int32) = 0 ∧ (AA (Call d) y_M_writes Q 21 [.ref 0, .int l1, .int l2, .int l3, .int (l4 + (r2 + r4)), .int (l5 / 10), .int ((((μ.1 6 l1.toNatClampNeg) / l5) - ((μ.1 6 l1.toNatClampNeg) / l5) / 10 * 10) - 1)] [] μ6)))))))))))))))))) : AA (Call d) y_M_writes Q 21 [.ref 0, .int l1, .int l2, .int l3, .int l4, .int l5, un] [] μ := go_in 55 (code := pr_M_writes) (stops := [4, 21]) rfl rfl hNF
set_option maxRecDepth 20000 in
theorem b_M_costOf_0 {d : Nat} {Q : QQ} {μ : Mem} {a : Int32} {b : Int32} (hNF : AA (Call d) y_M_costOf Q 2 [.ref 0, .int a, .int b, .int 0, un] [] μ) : AA (Call d) y_M_costOf Q 0 [.ref 0, .int a, .int b, un, un] [] μ := go_in 3 (code := pr_M_costOf) (stops := [2, 22]) rfl rfl hNF
set_option maxRecDepth 20000 in
theorem b_M_costOf_2 {d : Nat} {Q : QQ} {μ : Mem} {l1 : Int32} {l2 : Int32} {l3 : Int32} (hNF : ((8 : Int32) ≤ l3 → (Call d y_M_writes [.ref 0, .int l1, .int l2] μ (fun ρ μ1 => ∃ r2 : Int32, ρ = .int r2 ∧ (AA (Call d) y_M_costOf Q 22 [.ref 0, .int l1, .int l2, .int r2, .int 0] [] μ1)))) ∧
(¬ (8 : Int32) ≤ l3 → (vp_in l3 8 ∧ (vp_in l3 8 ∧ ∀ μ3 : Mem, μ3 = wI μ 15 (upd (μ.1 15) l3.toNatClampNeg (μ.1 14 l3.toNatClampNeg)) → (AA (Call d) y_M_costOf Q 2 [.ref 0, .int l1, .int l2, .int (l3 + 1), un] [] μ3))))) : AA (Call d) y_M_costOf Q 2 [.ref 0, .int l1, .int l2, .int l3, un] [] μ := go_in 14 (code := pr_M_costOf) (stops := [2, 22]) rfl rfl hNF
set_option maxRecDepth 20000 in
theorem b_M_costOf_22 {d : Nat} {Q : QQ} {μ : Mem} {l1 : Int32} {l2 : Int32} {l3 : Int32} {l4 : Int32} (hNF : ((8 : Int32) ≤ l4 → (Q (.int l3) μ)) ∧
(¬ (8 : Int32) ≤ l4 → (vp_in l4 8 ∧ (vp_in l4 8 ∧ ∀ μ1 : Mem, μ1 = wI μ 14 (upd (μ.1 14) l4.toNatClampNeg (μ.1 15 l4.toNatClampNeg)) → (AA (Call d) y_M_costOf Q 22 [.ref 0, .int l1, .int l2, .int l3, .int (l4 + 1)] [] μ1))))) : AA (Call d) y_M_costOf Q 22 [.ref 0, .int l1, .int l2, .int l3, .int l4] [] μ := go_in 14 (code := pr_M_costOf) (stops := [2, 22]) rfl rfl hNF
set_option maxRecDepth 20000 in
theorem b_M_ages_0 {d : Nat} {Q : QQ} {μ : Mem} (hNF : AA (Call d) y_M_ages Q 2 [.ref 0, .int 0] [] μ) : AA (Call d) y_M_ages Q 0 [.ref 0, un] [] μ := go_in 3 (code := pr_M_ages) (stops := [2]) rfl rfl hNF
set_option maxRecDepth 20000 in
theorem b_M_ages_2 {d : Nat} {Q : QQ} {μ : Mem} {l1 : Int32} (hNF : ((8 : Int32) ≤ l1 → (Q .null μ)) ∧
(¬ (8 : Int32) ≤ l1 → (vp_in l1 8 ∧ (Call d y_M_agedBy [.ref 0, .int (μ.1 14 l1.toNatClampNeg)] μ (fun ρ μ1 => ∃ r2 : Int32, ρ = .int r2 ∧ (vp_in l1 8 ∧ ∀ μ3 : Mem, μ3 = wI μ1 14 (upd (μ1.1 14) l1.toNatClampNeg r2) → (AA (Call d) y_M_ages Q 2 [.ref 0, .int (l1 + 1)] [] μ3))))))) : AA (Call d) y_M_ages Q 2 [.ref 0, .int l1] [] μ := go_in 16 (code := pr_M_ages) (stops := [2]) rfl rfl hNF
set_option maxRecDepth 20000 in
theorem b_M_rowSum_0 {d : Nat} {Q : QQ} {μ : Mem} (hNF : AA (Call d) y_M_rowSum Q 4 [.ref 0, .int 0, .int 0] [] μ) : AA (Call d) y_M_rowSum Q 0 [.ref 0, un, un] [] μ := go_in 5 (code := pr_M_rowSum) (stops := [4]) rfl rfl hNF
set_option maxRecDepth 20000 in
theorem b_M_rowSum_4 {d : Nat} {Q : QQ} {μ : Mem} {l1 : Int32} {l2 : Int32} (hNF : ((8 : Int32) ≤ l2 → (Q (.int l1) μ)) ∧
(¬ (8 : Int32) ≤ l2 → (vp_in l2 8 ∧ (AA (Call d) y_M_rowSum Q 4 [.ref 0, .int (l1 + (μ.1 14 l2.toNatClampNeg)), .int (l2 + 1)] [] μ)))) : AA (Call d) y_M_rowSum Q 4 [.ref 0, .int l1, .int l2] [] μ := go_in 13 (code := pr_M_rowSum) (stops := [4]) rfl rfl hNF
set_option maxRecDepth 20000 in
theorem b_M_keeps_0 {d : Nat} {Q : QQ} {μ : Mem} (hNF : AA (Call d) y_M_keeps Q 2 [.ref 0, .int 0] [] μ) : AA (Call d) y_M_keeps Q 0 [.ref 0, un] [] μ := go_in 3 (code := pr_M_keeps) (stops := [2]) rfl rfl hNF
set_option maxRecDepth 20000 in
theorem b_M_keeps_2 {d : Nat} {Q : QQ} {μ : Mem} {l1 : Int32} (hNF : ((8 : Int32) ≤ l1 → (Q .null μ)) ∧
(¬ (8 : Int32) ≤ l1 → (vp_in l1 8 ∧ (vp_in l1 8 ∧ ∀ μ1 : Mem, μ1 = wI μ 4 (upd (μ.1 4) l1.toNatClampNeg (μ.1 14 l1.toNatClampNeg)) → (AA (Call d) y_M_keeps Q 2 [.ref 0, .int (l1 + 1)] [] μ1))))) : AA (Call d) y_M_keeps Q 2 [.ref 0, .int l1] [] μ := go_in 14 (code := pr_M_keeps) (stops := [2]) rfl rfl hNF
set_option maxRecDepth 20000 in
theorem b_M_costs_0 {d : Nat} {Q : QQ} {μ : Mem} {a : Int32} {b : Int32} (hNF : Call d y_M_isWordNumber [.ref 0, .int a] μ (fun ρ μ1 => ∃ r2 : Int32, ρ = .int r2 ∧ ((r2 = 0 → (Q (.int (-2)) μ1)) ∧
(¬ r2 = 0 → (Call d y_M_in [.long (Int32.toInt64 b), .long 0, .long 23] μ1 (fun ρ μ3 => ∃ r4 : Int32, ρ = .int r4 ∧ ((¬ r4 = 0 → (Call d y_M_takes [.ref 0] μ3 (fun _ μ5 => (Call d y_M_writes [.ref 0, .int a, .int b] μ5 (fun ρ μ6 => ∃ r7 : Int32, ρ = .int r7 ∧ (Q (.int r7) μ6)))))) ∧
(r4 = 0 → (Q (.int (-2)) μ3))))))))) : AA (Call d) y_M_costs Q 0 [.ref 0, .int a, .int b] [] μ := go_in 17 (code := pr_M_costs) (stops := []) rfl rfl hNF
set_option maxRecDepth 20000 in
theorem b_M_write_0 {d : Nat} {Q : QQ} {μ : Mem} {a : Int32} {b : Int32} (hNF : Call d y_M_isWordNumber [.ref 0, .int a] μ (fun ρ μ1 => ∃ r2 : Int32, ρ = .int r2 ∧ ((r2 = 0 → (Q (.int (-2)) μ1)) ∧
(¬ r2 = 0 → (Call d y_M_in [.long (Int32.toInt64 b), .long 0, .long 23] μ1 (fun ρ μ3 => ∃ r4 : Int32, ρ = .int r4 ∧ ((¬ r4 = 0 → (Call d y_M_takes [.ref 0] μ3 (fun _ μ5 => (Call d y_M_writes [.ref 0, .int a, .int b] μ5 (fun ρ μ6 => ∃ r7 : Int32, ρ = .int r7 ∧ (Call d y_M_keeps [.ref 0] μ6 (fun _ μ8 => (Q (.int r7) μ8)))))))) ∧
(r4 = 0 → (Q (.int (-2)) μ3))))))))) : AA (Call d) y_M_write Q 0 [.ref 0, .int a, .int b, un] [] μ := go_in 21 (code := pr_M_write) (stops := []) rfl rfl hNF
set_option maxRecDepth 20000 in
theorem b_M_pass_0 {d : Nat} {Q : QQ} {μ : Mem} {a : Int32} (hNF : Call d y_M_in [.long (Int32.toInt64 a), .long 0, .long 24] μ (fun ρ μ1 => ∃ r2 : Int32, ρ = .int r2 ∧ ((¬ r2 = 0 → (Call d y_M_takes [.ref 0] μ1 (fun _ μ3 => (AA (Call d) y_M_pass Q 12 [.ref 0, .int a, .int 0] [] μ3)))) ∧
(r2 = 0 → (Q (.int (-2)) μ1))))) : AA (Call d) y_M_pass Q 0 [.ref 0, .int a, un] [] μ := go_in 11 (code := pr_M_pass) (stops := [12]) rfl rfl hNF
set_option maxRecDepth 20000 in
theorem b_M_pass_12 {d : Nat} {Q : QQ} {μ : Mem} {l1 : Int32} {l2 : Int32} (hNF : (l1 ≤ l2 → (Call d y_M_keeps [.ref 0] μ (fun _ μ1 => (Call d y_M_rowSum [.ref 0] μ1 (fun ρ μ2 => ∃ r3 : Int32, ρ = .int r3 ∧ (Q (.int r3) μ2)))))) ∧
(¬ l1 ≤ l2 → (Call d y_M_ages [.ref 0] μ (fun _ μ4 => (AA (Call d) y_M_pass Q 12 [.ref 0, .int l1, .int (l2 + 1)] [] μ4))))) : AA (Call d) y_M_pass Q 12 [.ref 0, .int l1, .int l2] [] μ := go_in 8 (code := pr_M_pass) (stops := [12]) rfl rfl hNF
set_option maxRecDepth 20000 in
theorem b_M_cheapest_0 {d : Nat} {Q : QQ} {μ : Mem} {a : Int32} {b : Int32} {c : Int32} (hNF : Call d y_M_in [.long (Int32.toInt64 a), .long 0, .long 3] μ (fun ρ μ1 => ∃ r2 : Int32, ρ = .int r2 ∧ ((r2 = 0 → (Q (.int (-2)) μ1)) ∧
(¬ r2 = 0 → (Call d y_M_in [.long (Int32.toInt64 b), .long 0, .long 23] μ1 (fun ρ μ3 => ∃ r4 : Int32, ρ = .int r4 ∧ ((r4 = 0 → (Q (.int (-2)) μ3)) ∧
(¬ r4 = 0 → (Call d y_M_in [.long (Int32.toInt64 c), .long 0, .long 1] μ3 (fun ρ μ5 => ∃ r6 : Int32, ρ = .int r6 ∧ ((¬ r6 = 0 → (Call d y_M_takes [.ref 0] μ5 (fun _ μ7 => (AA (Call d) y_M_cheapest Q 28 [.ref 0, .int a, .int b, .int c, .int (-1), .int 0, .int 0, un] [] μ7)))) ∧
(r6 = 0 → (Q (.int (-2)) μ5))))))))))))) : AA (Call d) y_M_cheapest Q 0 [.ref 0, .int a, .int b, .int c, un, un, un, un] [] μ := go_in 27 (code := pr_M_cheapest) (stops := [28]) rfl rfl hNF
set_option maxRecDepth 20000 in
theorem b_M_cheapest_28 {d : Nat} {Q : QQ} {μ : Mem} {l1 : Int32} {l2 : Int32} {l3 : Int32} {l4 : Int32} {l5 : Int32} {l6 : Int32} (hNF : ((μ.1 0 10) ≤ l6 → ((l4 = (-1) → (Q (.int l4) μ)) ∧
(¬ l4 = (-1) → ((¬ l3 = 0 → (Q (.int l5) μ)) ∧
(l3 = 0 → (Q (.int l4) μ)))))) ∧
(¬ (μ.1 0 10) ≤ l6 → (vp_in l6 10 ∧ ((¬ (μ.1 5 l6.toNatClampNeg) = l1 → (AA (Call d) y_M_cheapest Q 28 [.ref 0, .int l1, .int l2, .int l3, .int l4, .int l5, .int (l6 + 1), un] [] μ)) ∧
((μ.1 5 l6.toNatClampNeg) = l1 → (Call d y_M_costOf [.ref 0, .int l6, .int l2] μ (fun ρ μ1 => ∃ r2 : Int32, ρ = .int r2 ∧ ((l4 = (-1) → (AA (Call d) y_M_cheapest Q 28 [.ref 0, .int l1, .int l2, .int l3, .int l6, .int r2, .int (l6 + 1), .int r2] [] μ1)) ∧
(¬ l4 = (-1) → ((l5 ≤ r2 → (AA (Call d) y_M_cheapest Q 28 [.ref 0, .int l1, .int l2, .int l3, .int l4, .int l5, .int (l6 + 1), .int r2] [] μ1)) ∧
(¬ l5 ≤ r2 → (AA (Call d) y_M_cheapest Q 28 [.ref 0, .int l1, .int l2, .int l3, .int l6, .int r2, .int (l6 + 1), .int r2] [] μ1)))))))))))) : AA (Call d) y_M_cheapest Q 28 [.ref 0, .int l1, .int l2, .int l3, .int l4, .int l5, .int l6, un] [] μ := go_in 28 (code := pr_M_cheapest) (stops := [28]) rfl rfl hNF
set_option maxRecDepth 20000 in
theorem b_M_turnOf_0 {d : Nat} {Q : QQ} {μ : Mem} {a : Int32} (hNF : vp_in a 5 ∧ ∀ μ1 : Mem, μ1 = wI μ 16 (upd (μ.1 16) a.toNatClampNeg (-1)) → (vp_in a 5 ∧ ∀ μ2 : Mem, μ2 = wI μ1 17 (upd (μ1.1 17) a.toNatClampNeg 0) → (AA (Call d) y_M_turnOf Q 12 [.ref 0, .int a, .int 0, un] [] μ2))) : AA (Call d) y_M_turnOf Q 0 [.ref 0, .int a, un, un] [] μ := go_in 13 (code := pr_M_turnOf) (stops := [12]) rfl rfl hNF
set_option maxRecDepth 20000 in
theorem b_M_turnOf_12 {d : Nat} {Q : QQ} {μ : Mem} {l1 : Int32} {l2 : Int32} (hNF : ((μ.1 0 10) ≤ l2 → (vp_in l1 5 ∧ (((μ.1 16 l1.toNatClampNeg) = (-1) → (Q .null μ)) ∧
(¬ (μ.1 16 l1.toNatClampNeg) = (-1) → (vp_in l1 5 ∧ (vp_in l1 5 ∧ (Call d y_M_writes [.ref 0, .int (μ.1 16 l1.toNatClampNeg), .int (μ.1 8 l1.toNatClampNeg)] μ (fun ρ μ1 => ∃ r2 : Int32, ρ = .int r2 ∧ (Q .null μ1))))))))) ∧
(¬ (μ.1 0 10) ≤ l2 → (vp_in l2 10 ∧ (vp_in l1 5 ∧ ((¬ (μ.1 5 l2.toNatClampNeg) = (μ.1 7 l1.toNatClampNeg) → (AA (Call d) y_M_turnOf Q 12 [.ref 0, .int l1, .int (l2 + 1), un] [] μ)) ∧
((μ.1 5 l2.toNatClampNeg) = (μ.1 7 l1.toNatClampNeg) → (vp_in l1 5 ∧ (Call d y_M_costOf [.ref 0, .int l2, .int (μ.1 8 l1.toNatClampNeg)] μ (fun ρ μ3 => ∃ r4 : Int32, ρ = .int r4 ∧ ((¬ l1 = (μ3.1 0 40) → (vp_in l1 5 ∧ (((μ3.1 9 l1.toNatClampNeg) < r4 → (AA (Call d) y_M_turnOf Q 12 [.ref 0, .int l1, .int (l2 + 1), .int r4] [] μ3)) ∧
(¬ (μ3.1 9 l1.toNatClampNeg) < r4 → (vp_in l1 5 ∧ (((μ3.1 16 l1.toNatClampNeg) = (-1) → (Call d y_M_says [.ref 0, .int 2, .int l1, .int l2] μ3 (fun ρ μ5 => ∃ r6 : Int32, ρ = .int r6 ∧ ((r6 = 0 → (AA (Call d) y_M_turnOf Q 12 [.ref 0, .int l1, .int (l2 + 1), .int r4] [] μ5)) ∧
(¬ r6 = 0 → (vp_in l1 5 ∧ ∀ μ7 : Mem, μ7 = wI μ5 16 (upd (μ5.1 16) l1.toNatClampNeg l2) → (vp_in l1 5 ∧ ∀ μ8 : Mem, μ8 = wI μ7 17 (upd (μ7.1 17) l1.toNatClampNeg r4) → (AA (Call d) y_M_turnOf Q 12 [.ref 0, .int l1, .int (l2 + 1), .int r4] [] μ8)))))))) ∧
(¬ (μ3.1 16 l1.toNatClampNeg) = (-1) → (vp_in l1 5 ∧ (((μ3.1 17 l1.toNatClampNeg) ≤ r4 → (AA (Call d) y_M_turnOf Q 12 [.ref 0, .int l1, .int (l2 + 1), .int r4] [] μ3)) ∧
(¬ (μ3.1 17 l1.toNatClampNeg) ≤ r4 → (Call d y_M_says [.ref 0, .int 2, .int l1, .int l2] μ3 (fun ρ μ9 => ∃ r10 : Int32, ρ = .int r10 ∧ ((r10 = 0 → (AA (Call d) y_M_turnOf Q 12 [.ref 0, .int l1, .int (l2 + 1), .int r4] [] μ9)) ∧
(¬ r10 = 0 → (vp_in l1 5 ∧ ∀ μ11 : Mem, μ11 = wI μ9 16 (upd (μ9.1 16) l1.toNatClampNeg l2) → (vp_in l1 5 ∧ ∀ μ12 : Mem, μ12 = wI μ11 17 (upd (μ11.1 17) l1.toNatClampNeg r4) → (AA (Call d) y_M_turnOf Q 12 [.ref 0, .int l1, .int (l2 + 1), .int r4] [] μ12))))))))))))))))) ∧
(l1 = (μ3.1 0 40) → ((¬ r4 = (μ3.1 0 41) → (vp_in l1 5 ∧ (((μ3.1 9 l1.toNatClampNeg) < r4 → (AA (Call d) y_M_turnOf Q 12 [.ref 0, .int l1, .int (l2 + 1), .int r4] [] μ3)) ∧
(¬ (μ3.1 9 l1.toNatClampNeg) < r4 → (vp_in l1 5 ∧ (((μ3.1 16 l1.toNatClampNeg) = (-1) → (Call d y_M_says [.ref 0, .int 2, .int l1, .int l2] μ3 (fun ρ μ13 => ∃ r14 : Int32, ρ = .int r14 ∧ ((r14 = 0 → (AA (Call d) y_M_turnOf Q 12 [.ref 0, .int l1, .int (l2 + 1), .int r4] [] μ13)) ∧
(¬ r14 = 0 → (vp_in l1 5 ∧ ∀ μ15 : Mem, μ15 = wI μ13 16 (upd (μ13.1 16) l1.toNatClampNeg l2) → (vp_in l1 5 ∧ ∀ μ16 : Mem, μ16 = wI μ15 17 (upd (μ15.1 17) l1.toNatClampNeg r4) → (AA (Call d) y_M_turnOf Q 12 [.ref 0, .int l1, .int (l2 + 1), .int r4] [] μ16)))))))) ∧
(¬ (μ3.1 16 l1.toNatClampNeg) = (-1) → (vp_in l1 5 ∧ (((μ3.1 17 l1.toNatClampNeg) ≤ r4 → (AA (Call d) y_M_turnOf Q 12 [.ref 0, .int l1, .int (l2 + 1), .int r4] [] μ3)) ∧
(¬ (μ3.1 17 l1.toNatClampNeg) ≤ r4 → (Call d y_M_says [.ref 0, .int 2, .int l1, .int l2] μ3 (fun ρ μ17 => ∃ r18 : Int32, ρ = .int r18 ∧ ((r18 = 0 → (AA (Call d) y_M_turnOf Q 12 [.ref 0, .int l1, .int (l2 + 1), .int r4] [] μ17)) ∧
(¬ r18 = 0 → (vp_in l1 5 ∧ ∀ μ19 : Mem, μ19 = wI μ17 16 (upd (μ17.1 16) l1.toNatClampNeg l2) → (vp_in l1 5 ∧ ∀ μ20 : Mem, μ20 = wI μ19 17 (upd (μ19.1 17) l1.toNatClampNeg r4) → (AA (Call d) y_M_turnOf Q 12 [.ref 0, .int l1, .int (l2 + 1), .int r4] [] μ20))))))))))))))))) ∧
(r4 = (μ3.1 0 41) → (∀ μ21 : Mem, μ21 = wI μ3 0 (upd (μ3.1 0) 42 ((μ3.1 0 42) ||| (1 <<< (l2 &&& 31)))) → (vp_in l1 5 ∧ (((μ21.1 9 l1.toNatClampNeg) < r4 → (AA (Call d) y_M_turnOf Q 12 [.ref 0, .int l1, .int (l2 + 1), .int r4] [] μ21)) ∧
(¬ (μ21.1 9 l1.toNatClampNeg) < r4 → (vp_in l1 5 ∧ (((μ21.1 16 l1.toNatClampNeg) = (-1) → (Call d y_M_says [.ref 0, .int 2, .int l1, .int l2] μ21 (fun ρ μ22 => ∃ r23 : Int32, ρ = .int r23 ∧ ((r23 = 0 → (AA (Call d) y_M_turnOf Q 12 [.ref 0, .int l1, .int (l2 + 1), .int r4] [] μ22)) ∧
(¬ r23 = 0 → (vp_in l1 5 ∧ ∀ μ24 : Mem, μ24 = wI μ22 16 (upd (μ22.1 16) l1.toNatClampNeg l2) → (vp_in l1 5 ∧ ∀ μ25 : Mem, μ25 = wI μ24 17 (upd (μ24.1 17) l1.toNatClampNeg r4) → (AA (Call d) y_M_turnOf Q 12 [.ref 0, .int l1, .int (l2 + 1), .int r4] [] μ25)))))))) ∧
(¬ (μ21.1 16 l1.toNatClampNeg) = (-1) → (vp_in l1 5 ∧ (((μ21.1 17 l1.toNatClampNeg) ≤ r4 → (AA (Call d) y_M_turnOf Q 12 [.ref 0, .int l1, .int (l2 + 1), .int r4] [] μ21)) ∧
(¬ (μ21.1 17 l1.toNatClampNeg) ≤ r4 → (Call d y_M_says [.ref 0, .int 2, .int l1, .int l2] μ21 (fun ρ μ26 => ∃ r27 : Int32, ρ = .int r27 ∧ ((r27 = 0 → (AA (Call d) y_M_turnOf Q 12 [.ref 0, .int l1, .int (l2 + 1), .int r4] [] μ26)) ∧
(¬ r27 = 0 → (vp_in l1 5 ∧ ∀ μ28 : Mem, μ28 = wI μ26 16 (upd (μ26.1 16) l1.toNatClampNeg l2) → (vp_in l1 5 ∧ ∀ μ29 : Mem, μ29 = wI μ28 17 (upd (μ28.1 17) l1.toNatClampNeg r4) → (AA (Call d) y_M_turnOf Q 12 [.ref 0, .int l1, .int (l2 + 1), .int r4] [] μ29)))))))))))))))))))))))))))))) : AA (Call d) y_M_turnOf Q 12 [.ref 0, .int l1, .int l2, un] [] μ := go_in 74 (code := pr_M_turnOf) (stops := [12]) rfl rfl hNF
set_option maxRecDepth 20000 in
theorem b_M_passesDay_0 {d : Nat} {Q : QQ} {μ : Mem} (hNF : AA (Call d) y_M_passesDay Q 2 [.ref 0, .int 0, un] [] μ) : AA (Call d) y_M_passesDay Q 0 [.ref 0, un, un] [] μ := go_in 3 (code := pr_M_passesDay) (stops := [2, 7]) rfl rfl hNF
set_option maxRecDepth 20000 in
theorem b_M_passesDay_2 {d : Nat} {Q : QQ} {μ : Mem} {l1 : Int32} (hNF : ((24 : Int32) ≤ l1 → (Q .null μ)) ∧
(¬ (24 : Int32) ≤ l1 → (AA (Call d) y_M_passesDay Q 7 [.ref 0, .int l1, .int 0] [] μ))) : AA (Call d) y_M_passesDay Q 2 [.ref 0, .int l1, un] [] μ := go_in 6 (code := pr_M_passesDay) (stops := [2, 7]) rfl rfl hNF
set_option maxRecDepth 20000 in
theorem b_M_passesDay_7 {d : Nat} {Q : QQ} {μ : Mem} {l1 : Int32} {l2 : Int32} (hNF : ((μ.1 0 14) ≤ l2 → (Call d y_M_ages [.ref 0] μ (fun _ μ1 => (AA (Call d) y_M_passesDay Q 2 [.ref 0, .int (l1 + 1), .int l2] [] μ1)))) ∧
(¬ (μ.1 0 14) ≤ l2 → (vp_in l2 5 ∧ ((¬ (μ.1 8 l2.toNatClampNeg) = l1 → (AA (Call d) y_M_passesDay Q 7 [.ref 0, .int l1, .int (l2 + 1)] [] μ)) ∧
((μ.1 8 l2.toNatClampNeg) = l1 → (Call d y_M_turnOf [.ref 0, .int l2] μ (fun _ μ2 => (AA (Call d) y_M_passesDay Q 7 [.ref 0, .int l1, .int (l2 + 1)] [] μ2)))))))) : AA (Call d) y_M_passesDay Q 7 [.ref 0, .int l1, .int l2] [] μ := go_in 16 (code := pr_M_passesDay) (stops := [2, 7]) rfl rfl hNF
set_option maxRecDepth 20000 in
theorem b_M_dayNow_0 {d : Nat} {Q : QQ} {μ : Mem} (hNF : Call d y_M_takes [.ref 0] μ (fun _ μ1 => (Call d y_M_passesDay [.ref 0] μ1 (fun _ μ2 => (Q .null μ2))))) : AA (Call d) y_M_dayNow Q 0 [.ref 0] [] μ := go_in 5 (code := pr_M_dayNow) (stops := []) rfl rfl hNF
set_option maxRecDepth 20000 in
theorem b_M_goodOf_0 {d : Nat} {Q : QQ} {μ : Mem} {a : Int32} (hNF : vp_in a 5 ∧ ((¬ (μ.1 16 a.toNatClampNeg) = (-1) → (vp_in a 5 ∧ (Call d y_M_says [.ref 0, .int 1, .int a, .int (μ.1 16 a.toNatClampNeg)] μ (fun ρ μ1 => ∃ r2 : Int32, ρ = .int r2 ∧ (Call d y_M_within [.int r2, .int 0, .int 999] μ1 (fun ρ μ3 => ∃ r4 : Int32, ρ = .int r4 ∧ (vp_in a 5 ∧ (Q (.int (r4 - (μ3.1 17 a.toNatClampNeg))) μ3)))))))) ∧
((μ.1 16 a.toNatClampNeg) = (-1) → (Q (.int 0) μ)))) : AA (Call d) y_M_goodOf Q 0 [.ref 0, .int a] [] μ := go_in 23 (code := pr_M_goodOf) (stops := []) rfl rfl hNF
set_option maxRecDepth 20000 in
theorem b_M_allGood_0 {d : Nat} {Q : QQ} {μ : Mem} (hNF : AA (Call d) y_M_allGood Q 4 [.ref 0, .int 0, .int 0] [] μ) : AA (Call d) y_M_allGood Q 0 [.ref 0, un, un] [] μ := go_in 5 (code := pr_M_allGood) (stops := [4]) rfl rfl hNF
set_option maxRecDepth 20000 in
theorem b_M_allGood_4 {d : Nat} {Q : QQ} {μ : Mem} {l1 : Int32} {l2 : Int32} (hNF : ((μ.1 0 14) ≤ l2 → (Q (.int l1) μ)) ∧
(¬ (μ.1 0 14) ≤ l2 → (Call d y_M_goodOf [.ref 0, .int l2] μ (fun ρ μ1 => ∃ r2 : Int32, ρ = .int r2 ∧ (AA (Call d) y_M_allGood Q 4 [.ref 0, .int (l1 + r2), .int (l2 + 1)] [] μ1))))) : AA (Call d) y_M_allGood Q 4 [.ref 0, .int l1, .int l2] [] μ := go_in 13 (code := pr_M_allGood) (stops := [4]) rfl rfl hNF
set_option maxRecDepth 20000 in
theorem b_M_saying_0 {d : Nat} {Q : QQ} {μ : Mem} (hNF : AA (Call d) y_M_saying Q 4 [.ref 0, .int 0, .int 0] [] μ) : AA (Call d) y_M_saying Q 0 [.ref 0, un, un] [] μ := go_in 5 (code := pr_M_saying) (stops := [4]) rfl rfl hNF
set_option maxRecDepth 20000 in
theorem b_M_saying_4 {d : Nat} {Q : QQ} {μ : Mem} {l1 : Int32} {l2 : Int32} (hNF : ((μ.1 0 14) ≤ l2 → (Q (.int l1) μ)) ∧
(¬ (μ.1 0 14) ≤ l2 → (vp_in l2 5 ∧ ((¬ (μ.1 16 l2.toNatClampNeg) = (-1) → (AA (Call d) y_M_saying Q 4 [.ref 0, .int (l1 + 1), .int (l2 + 1)] [] μ)) ∧
((μ.1 16 l2.toNatClampNeg) = (-1) → (AA (Call d) y_M_saying Q 4 [.ref 0, .int (l1 + 0), .int (l2 + 1)] [] μ)))))) : AA (Call d) y_M_saying Q 4 [.ref 0, .int l1, .int l2] [] μ := go_in 18 (code := pr_M_saying) (stops := [4]) rfl rfl hNF
set_option maxRecDepth 20000 in
theorem b_M_day_0 {d : Nat} {Q : QQ} {μ : Mem} {a : Int32} {b : Int32} (hNF : Call d y_M_isWriter [.ref 0, .int a] μ (fun ρ μ1 => ∃ r2 : Int32, ρ = .int r2 ∧ ((r2 = 0 → (Q (.int (-100000)) μ1)) ∧
(¬ r2 = 0 → (Call d y_M_in [.long (Int32.toInt64 b), .long 0, .long 2] μ1 (fun ρ μ3 => ∃ r4 : Int32, ρ = .int r4 ∧ ((¬ r4 = 0 → (Call d y_M_dayNow [.ref 0] μ3 (fun _ μ5 => ((¬ b = 0 → ((¬ b = 1 → (Call d y_M_goodOf [.ref 0, .int a] μ5 (fun ρ μ6 => ∃ r7 : Int32, ρ = .int r7 ∧ (Q (.int r7) μ6)))) ∧
(b = 1 → (vp_in a 5 ∧ (Q (.int (μ5.1 16 a.toNatClampNeg)) μ5))))) ∧
(b = 0 → (vp_in a 5 ∧ (Q (.int (μ5.1 17 a.toNatClampNeg)) μ5))))))) ∧
(r4 = 0 → (Q (.int (-100000)) μ3))))))))) : AA (Call d) y_M_day Q 0 [.ref 0, .int a, .int b] [] μ := go_in 23 (code := pr_M_day) (stops := []) rfl rfl hNF
set_option maxRecDepth 20000 in
theorem b_M_all_0 {d : Nat} {Q : QQ} {μ : Mem} {a : Int32} (hNF : Call d y_M_in [.long (Int32.toInt64 a), .long 0, .long 3] μ (fun ρ μ1 => ∃ r2 : Int32, ρ = .int r2 ∧ ((¬ r2 = 0 → (Call d y_M_dayNow [.ref 0] μ1 (fun _ μ3 => (((2 : Int32) ≤ a → ((¬ a = 3 → (vp_in 0 8 ∧ (vp_in 0 8 ∧ (AA (Call d) y_M_all Q 55 [.ref 0, .int a, .int (μ3.1 14 (Int32.toNatClampNeg 0)), .int (μ3.1 14 (Int32.toNatClampNeg 0)), .int 1] [] μ3)))) ∧
(a = 3 → (AA (Call d) y_M_all Q 28 [.ref 0, .int a, .int 0, .int 0, un] [] μ3)))) ∧
(¬ (2 : Int32) ≤ a → ((¬ a = 0 → (Call d y_M_saying [.ref 0] μ3 (fun ρ μ4 => ∃ r5 : Int32, ρ = .int r5 ∧ (Q (.int r5) μ4)))) ∧
(a = 0 → (Call d y_M_allGood [.ref 0] μ3 (fun ρ μ6 => ∃ r7 : Int32, ρ = .int r7 ∧ (Q (.int r7) μ6)))))))))) ∧
(r2 = 0 → (Q (.int (-100000)) μ1))))) : AA (Call d) y_M_all Q 0 [.ref 0, .int a, un, un, un] [] μ := go_in 27 (code := pr_M_all) (stops := [28, 55]) rfl rfl hNF
set_option maxRecDepth 20000 in
theorem b_M_all_28 {d : Nat} {Q : QQ} {μ : Mem} {l1 : Int32} {l2 : Int32} {l3 : Int32} (hNF : ((μ.1 0 14) ≤ l3 → (Q (.int l2) μ)) ∧
(¬ (μ.1 0 14) ≤ l3 → (vp_in l3 5 ∧ (AA (Call d) y_M_all Q 28 [.ref 0, .int l1, .int (l2 + (μ.1 17 l3.toNatClampNeg)), .int (l3 + 1), un] [] μ)))) : AA (Call d) y_M_all Q 28 [.ref 0, .int l1, .int l2, .int l3, un] [] μ := go_in 14 (code := pr_M_all) (stops := [28, 55]) rfl rfl hNF
set_option maxRecDepth 20000 in
theorem b_M_all_55 {d : Nat} {Q : QQ} {μ : Mem} {l1 : Int32} {l2 : Int32} {l3 : Int32} {l4 : Int32} (hNF : ((8 : Int32) ≤ l4 → (Q (.int (l2 - l3)) μ)) ∧
(¬ (8 : Int32) ≤ l4 → (vp_in l4 8 ∧ (((μ.1 14 l4.toNatClampNeg) ≤ l2 → (vp_in l4 8 ∧ ((l3 ≤ (μ.1 14 l4.toNatClampNeg) → (AA (Call d) y_M_all Q 55 [.ref 0, .int l1, .int l2, .int l3, .int (l4 + 1)] [] μ)) ∧
(¬ l3 ≤ (μ.1 14 l4.toNatClampNeg) → (vp_in l4 8 ∧ (AA (Call d) y_M_all Q 55 [.ref 0, .int l1, .int l2, .int (μ.1 14 l4.toNatClampNeg), .int (l4 + 1)] [] μ)))))) ∧
(¬ (μ.1 14 l4.toNatClampNeg) ≤ l2 → (vp_in l4 8 ∧ (vp_in l4 8 ∧ ((l3 ≤ (μ.1 14 l4.toNatClampNeg) → (AA (Call d) y_M_all Q 55 [.ref 0, .int l1, .int (μ.1 14 l4.toNatClampNeg), .int l3, .int (l4 + 1)] [] μ)) ∧
(¬ l3 ≤ (μ.1 14 l4.toNatClampNeg) → (vp_in l4 8 ∧ (AA (Call d) y_M_all Q 55 [.ref 0, .int l1, .int (μ.1 14 l4.toNatClampNeg), .int (μ.1 14 l4.toNatClampNeg), .int (l4 + 1)] [] μ))))))))))) : AA (Call d) y_M_all Q 55 [.ref 0, .int l1, .int l2, .int l3, .int l4] [] μ := go_in 30 (code := pr_M_all) (stops := [28, 55]) rfl rfl hNF
set_option maxRecDepth 20000 in
theorem b_M_seeks_0 {d : Nat} {Q : QQ} {μ : Mem} {a : Int32} (hNF : vp_in a 5 ∧ (AA (Call d) y_M_seeks Q 7 [.ref 0, .int a, .int (μ.1 8 a.toNatClampNeg), .int 0, un] [] μ)) : AA (Call d) y_M_seeks Q 0 [.ref 0, .int a, un, un, un] [] μ := go_in 8 (code := pr_M_seeks) (stops := [7]) rfl rfl hNF
set_option maxRecDepth 20000 in
theorem b_M_seeks_7 {d : Nat} {Q : QQ} {μ : Mem} {l1 : Int32} {l2 : Int32} {l3 : Int32} (hNF : ((24 : Int32) ≤ l3 → (vp_in l1 5 ∧ ∀ μ1 : Mem, μ1 = wI μ 8 (upd (μ.1 8) l1.toNatClampNeg l2) → (Q .null μ1))) ∧
(¬ (24 : Int32) ≤ l3 → (vp_in l1 5 ∧ ∀ μ2 : Mem, μ2 = wI μ 8 (upd (μ.1 8) l1.toNatClampNeg l3) → (Call d y_M_dayNow [.ref 0] μ2 (fun _ μ3 => (Call d y_M_goodOf [.ref 0, .int l1] μ3 (fun ρ μ4 => ∃ r5 : Int32, ρ = .int r5 ∧ ((l3 = 0 → (∀ μ6 : Mem, μ6 = wI μ4 0 (upd (μ4.1 0) 43 l3) → (∀ μ7 : Mem, μ7 = wI μ6 0 (upd (μ6.1 0) 44 r5) → (AA (Call d) y_M_seeks Q 7 [.ref 0, .int l1, .int l2, .int (l3 + 1), .int r5] [] μ7)))) ∧
(¬ l3 = 0 → ((r5 ≤ (μ4.1 0 44) → (AA (Call d) y_M_seeks Q 7 [.ref 0, .int l1, .int l2, .int (l3 + 1), .int r5] [] μ4)) ∧
(¬ r5 ≤ (μ4.1 0 44) → (∀ μ8 : Mem, μ8 = wI μ4 0 (upd (μ4.1 0) 43 l3) → (∀ μ9 : Mem, μ9 = wI μ8 0 (upd (μ8.1 0) 44 r5) → (AA (Call d) y_M_seeks Q 7 [.ref 0, .int l1, .int l2, .int (l3 + 1), .int r5] [] μ9)))))))))))))) : AA (Call d) y_M_seeks Q 7 [.ref 0, .int l1, .int l2, .int l3, un] [] μ := go_in 29 (code := pr_M_seeks) (stops := [7]) rfl rfl hNF
set_option maxRecDepth 20000 in
theorem b_M_when_0 {d : Nat} {Q : QQ} {μ : Mem} {a : Int32} {b : Int32} (hNF : Call d y_M_isWriter [.ref 0, .int a] μ (fun ρ μ1 => ∃ r2 : Int32, ρ = .int r2 ∧ ((r2 = 0 → (Q (.int (-100000)) μ1)) ∧
(¬ r2 = 0 → (Call d y_M_in [.long (Int32.toInt64 b), .long 0, .long 1] μ1 (fun ρ μ3 => ∃ r4 : Int32, ρ = .int r4 ∧ ((¬ r4 = 0 → (Call d y_M_seeks [.ref 0, .int a] μ3 (fun _ μ5 => ((¬ b = 0 → (Q (.int (μ5.1 0 44)) μ5)) ∧
(b = 0 → (Q (.int (μ5.1 0 43)) μ5)))))) ∧
(r4 = 0 → (Q (.int (-100000)) μ3))))))))) : AA (Call d) y_M_when Q 0 [.ref 0, .int a, .int b] [] μ := go_in 19 (code := pr_M_when) (stops := []) rfl rfl hNF
set_option maxRecDepth 20000 in
theorem b_M_choose_0 {d : Nat} {Q : QQ} {μ : Mem} {a : Int32} (hNF : Call d y_M_isWriter [.ref 0, .int a] μ (fun ρ μ1 => ∃ r2 : Int32, ρ = .int r2 ∧ ((¬ r2 = 0 → (Call d y_M_seeks [.ref 0, .int a] μ1 (fun _ μ3 => (vp_in a 5 ∧ ∀ μ4 : Mem, μ4 = wI μ3 8 (upd (μ3.1 8) a.toNatClampNeg (μ3.1 0 43)) → (Q (.int (μ4.1 0 44)) μ4))))) ∧
(r2 = 0 → (Q (.int (-100000)) μ1))))) : AA (Call d) y_M_choose Q 0 [.ref 0, .int a] [] μ := go_in 16 (code := pr_M_choose) (stops := []) rfl rfl hNF
set_option maxRecDepth 20000 in
theorem b_M_rest_0 {d : Nat} {Q : QQ} {μ : Mem} (hNF : AA (Call d) y_M_rest Q 2 [.ref 0, .int 0, un] [] μ) : AA (Call d) y_M_rest Q 0 [.ref 0, un, un] [] μ := go_in 3 (code := pr_M_rest) (stops := [2]) rfl rfl hNF
set_option maxRecDepth 20000 in
theorem b_M_rest_2 {d : Nat} {Q : QQ} {μ : Mem} {l1 : Int32} (hNF : ((μ.1 0 14) ≤ l1 → (Q (.int 1) μ)) ∧
(¬ (μ.1 0 14) ≤ l1 → (Call d y_M_dayNow [.ref 0] μ (fun _ μ1 => (Call d y_M_goodOf [.ref 0, .int l1] μ1 (fun ρ μ2 => ∃ r3 : Int32, ρ = .int r3 ∧ (Call d y_M_seeks [.ref 0, .int l1] μ2 (fun _ μ4 => (((μ4.1 0 44) ≤ r3 → (AA (Call d) y_M_rest Q 2 [.ref 0, .int (l1 + 1), .int r3] [] μ4)) ∧
(¬ (μ4.1 0 44) ≤ r3 → (Q (.int 0) μ4))))))))))) : AA (Call d) y_M_rest Q 2 [.ref 0, .int l1, un] [] μ := go_in 20 (code := pr_M_rest) (stops := [2]) rfl rfl hNF
set_option maxRecDepth 20000 in
theorem b_M_orders_0 {d : Nat} {Q : QQ} {μ : Mem} {a : Int32} {b : Int32} {c : Int32} {e : Int32} (hNF : (¬ a = b → (AA (Call d) y_M_orders Q 25 [.ref 0, .int a, .int b, .int c, .int e, .int 0] [] μ)) ∧
(a = b → (Call d y_M_dayNow [.ref 0] μ (fun _ μ1 => (Call d y_M_allGood [.ref 0] μ1 (fun ρ μ2 => ∃ r3 : Int32, ρ = .int r3 ∧ (((μ2.1 0 47) = (-1) → (∀ μ4 : Mem, μ4 = wI μ2 0 (upd (μ2.1 0) 46 r3) → (∀ μ5 : Mem, μ5 = wI μ4 0 (upd (μ4.1 0) 47 e) → (Q .null μ5)))) ∧
(¬ (μ2.1 0 47) = (-1) → ((r3 ≤ (μ2.1 0 46) → (Q .null μ2)) ∧
(¬ r3 ≤ (μ2.1 0 46) → (∀ μ6 : Mem, μ6 = wI μ2 0 (upd (μ2.1 0) 46 r3) → (∀ μ7 : Mem, μ7 = wI μ6 0 (upd (μ6.1 0) 47 e) → (Q .null μ7))))))))))))) : AA (Call d) y_M_orders Q 0 [.ref 0, .int a, .int b, .int c, .int e, un] [] μ := go_in 23 (code := pr_M_orders) (stops := [25]) rfl rfl hNF
set_option maxRecDepth 20000 in
theorem b_M_orders_25 {d : Nat} {Q : QQ} {μ : Mem} {l1 : Int32} {l2 : Int32} {l3 : Int32} {l4 : Int32} {l5 : Int32} (hNF : (l2 ≤ l5 → (vp_in l1 5 ∧ (vp_in l1 5 ∧ ∀ μ1 : Mem, μ1 = wI μ 8 (upd (μ.1 8) l1.toNatClampNeg (μ.1 18 l1.toNatClampNeg)) → (Q .null μ1)))) ∧
(¬ l2 ≤ l5 → ((¬ ((l3 >>> (l5 &&& 31)) &&& 1) = 0 → (AA (Call d) y_M_orders Q 25 [.ref 0, .int l1, .int l2, .int l3, .int l4, .int (l5 + 1)] [] μ)) ∧
(((l3 >>> (l5 &&& 31)) &&& 1) = 0 → (vp_in l5 5 ∧ (vp_in l1 5 ∧ ∀ μ2 : Mem, μ2 = wI μ 8 (upd (μ.1 8) l1.toNatClampNeg (μ.1 18 l5.toNatClampNeg)) → (Call d y_M_orders [.ref 0, .int (l1 + 1), .int l2, .int (l3 ||| (1 <<< (l5 &&& 31))), .int ((10 * l4) + l5)] μ2 (fun _ μ3 => (AA (Call d) y_M_orders Q 25 [.ref 0, .int l1, .int l2, .int l3, .int l4, .int (l5 + 1)] [] μ3))))))))) : AA (Call d) y_M_orders Q 25 [.ref 0, .int l1, .int l2, .int l3, .int l4, .int l5] [] μ := go_in 36 (code := pr_M_orders) (stops := [25]) rfl rfl hNF
set_option maxRecDepth 20000 in
theorem b_M_turns_0 {d : Nat} {Q : QQ} {μ : Mem} {a : Int32} (hNF : Call d y_M_in [.long (Int32.toInt64 a), .long 0, .long 1] μ (fun ρ μ1 => ∃ r2 : Int32, ρ = .int r2 ∧ ((¬ r2 = 0 → (AA (Call d) y_M_turns Q 10 [.ref 0, .int a, .int 0] [] μ1)) ∧
(r2 = 0 → (Q (.int (-100000)) μ1))))) : AA (Call d) y_M_turns Q 0 [.ref 0, .int a, un] [] μ := go_in 9 (code := pr_M_turns) (stops := [10]) rfl rfl hNF
set_option maxRecDepth 20000 in
theorem b_M_turns_10 {d : Nat} {Q : QQ} {μ : Mem} {l1 : Int32} {l2 : Int32} (hNF : ((5 : Int32) ≤ l2 → (∀ μ1 : Mem, μ1 = wI μ 0 (upd (μ.1 0) 47 (-1)) → (∀ μ2 : Mem, μ2 = wI μ1 0 (upd (μ1.1 0) 46 0) → (((4 : Int32) ≤ (μ2.1 0 14) → (Call d y_M_orders [.ref 0, .int 0, .int 4, .int 0, .int 0] μ2 (fun _ μ3 => ((¬ l1 = 0 → (Q (.int (μ3.1 0 47)) μ3)) ∧
(l1 = 0 → (Q (.int (μ3.1 0 46)) μ3)))))) ∧
(¬ (4 : Int32) ≤ (μ2.1 0 14) → (Call d y_M_orders [.ref 0, .int 0, .int (μ2.1 0 14), .int 0, .int 0] μ2 (fun _ μ4 => ((¬ l1 = 0 → (Q (.int (μ4.1 0 47)) μ4)) ∧
(l1 = 0 → (Q (.int (μ4.1 0 46)) μ4)))))))))) ∧
(¬ (5 : Int32) ≤ l2 → (vp_in l2 5 ∧ (vp_in l2 5 ∧ ∀ μ5 : Mem, μ5 = wI μ 18 (upd (μ.1 18) l2.toNatClampNeg (μ.1 8 l2.toNatClampNeg)) → (AA (Call d) y_M_turns Q 10 [.ref 0, .int l1, .int (l2 + 1)] [] μ5))))) : AA (Call d) y_M_turns Q 10 [.ref 0, .int l1, .int l2] [] μ := go_in 27 (code := pr_M_turns) (stops := [10]) rfl rfl hNF
set_option maxRecDepth 20000 in
theorem b_M_burned_0 {d : Nat} {Q : QQ} {μ : Mem} {a : Int32} {b : Int32} (hNF : Call d y_M_dayNow [.ref 0] μ (fun _ μ1 => (Call d y_M_allGood [.ref 0] μ1 (fun ρ μ2 => ∃ r3 : Int32, ρ = .int r3 ∧ (Call d y_M_takes [.ref 0] μ2 (fun _ μ4 => (vp_in a 8 ∧ (((999 : Int32) ≤ ((μ4.1 14 a.toNatClampNeg) + b) → (vp_in a 8 ∧ ∀ μ5 : Mem, μ5 = wI μ4 14 (upd (μ4.1 14) a.toNatClampNeg 999) → (Call d y_M_passesDay [.ref 0] μ5 (fun _ μ6 => (Call d y_M_allGood [.ref 0] μ6 (fun ρ μ7 => ∃ r8 : Int32, ρ = .int r8 ∧ (Q (.int (r3 - r8)) μ7))))))) ∧
(¬ (999 : Int32) ≤ ((μ4.1 14 a.toNatClampNeg) + b) → (vp_in a 8 ∧ (vp_in a 8 ∧ ∀ μ9 : Mem, μ9 = wI μ4 14 (upd (μ4.1 14) a.toNatClampNeg ((μ4.1 14 a.toNatClampNeg) + b)) → (Call d y_M_passesDay [.ref 0] μ9 (fun _ μ10 => (Call d y_M_allGood [.ref 0] μ10 (fun ρ μ11 => ∃ r12 : Int32, ρ = .int r12 ∧ (Q (.int (r3 - r12)) μ11)))))))))))))))) : AA (Call d) y_M_burned Q 0 [.ref 0, .int a, .int b, un] [] μ := go_in 33 (code := pr_M_burned) (stops := []) rfl rfl hNF
set_option maxRecDepth 20000 in
theorem b_M_burn_0 {d : Nat} {Q : QQ} {μ : Mem} {a : Int32} {b : Int32} (hNF : Call d y_M_in [.long (Int32.toInt64 a), .long 0, .long 7] μ (fun ρ μ1 => ∃ r2 : Int32, ρ = .int r2 ∧ ((r2 = 0 → (Q (.int (-100000)) μ1)) ∧
(¬ r2 = 0 → (Call d y_M_in [.long (Int32.toInt64 b), .long 1, .long 20] μ1 (fun ρ μ3 => ∃ r4 : Int32, ρ = .int r4 ∧ ((r4 = 0 → (Q (.int (-100000)) μ3)) ∧
(¬ r4 = 0 → (Call d y_M_burned [.ref 0, .int a, .int b] μ3 (fun ρ μ5 => ∃ r6 : Int32, ρ = .int r6 ∧ (Q (.int r6) μ5))))))))))) : AA (Call d) y_M_burn Q 0 [.ref 0, .int a, .int b] [] μ := go_in 18 (code := pr_M_burn) (stops := []) rfl rfl hNF
set_option maxRecDepth 20000 in
theorem b_M_worst_0 {d : Nat} {Q : QQ} {μ : Mem} {a : Int32} {b : Int32} (hNF : Call d y_M_in [.long (Int32.toInt64 a), .long 1, .long 20] μ (fun ρ μ1 => ∃ r2 : Int32, ρ = .int r2 ∧ ((r2 = 0 → (Q (.int (-100000)) μ1)) ∧
(¬ r2 = 0 → (Call d y_M_in [.long (Int32.toInt64 b), .long 0, .long 1] μ1 (fun ρ μ3 => ∃ r4 : Int32, ρ = .int r4 ∧ ((¬ r4 = 0 → (AA (Call d) y_M_worst Q 20 [.ref 0, .int a, .int b, .int 0, .int 0, .int 0, un] [] μ3)) ∧
(r4 = 0 → (Q (.int (-100000)) μ3))))))))) : AA (Call d) y_M_worst Q 0 [.ref 0, .int a, .int b, un, un, un, un] [] μ := go_in 19 (code := pr_M_worst) (stops := [20]) rfl rfl hNF
set_option maxRecDepth 20000 in
theorem b_M_worst_20 {d : Nat} {Q : QQ} {μ : Mem} {l1 : Int32} {l2 : Int32} {l3 : Int32} {l4 : Int32} {l5 : Int32} (hNF : ((8 : Int32) ≤ l5 → ((¬ l2 = 0 → (Q (.int l4) μ)) ∧
(l2 = 0 → (Q (.int l3) μ)))) ∧
(¬ (8 : Int32) ≤ l5 → (Call d y_M_burned [.ref 0, .int l5, .int l1] μ (fun ρ μ1 => ∃ r2 : Int32, ρ = .int r2 ∧ ((l5 = 0 → (AA (Call d) y_M_worst Q 20 [.ref 0, .int l1, .int l2, .int l5, .int r2, .int (l5 + 1), .int r2] [] μ1)) ∧
(¬ l5 = 0 → ((r2 ≤ l4 → (AA (Call d) y_M_worst Q 20 [.ref 0, .int l1, .int l2, .int l3, .int l4, .int (l5 + 1), .int r2] [] μ1)) ∧
(¬ r2 ≤ l4 → (AA (Call d) y_M_worst Q 20 [.ref 0, .int l1, .int l2, .int l5, .int r2, .int (l5 + 1), .int r2] [] μ1))))))))) : AA (Call d) y_M_worst Q 20 [.ref 0, .int l1, .int l2, .int l3, .int l4, .int l5, un] [] μ := go_in 20 (code := pr_M_worst) (stops := [20]) rfl rfl hNF
set_option maxRecDepth 20000 in
theorem b_M_best_0 {d : Nat} {Q : QQ} {μ : Mem} {a : Int32} (hNF : Call d y_M_in [.long (Int32.toInt64 a), .long 0, .long 2] μ (fun ρ μ1 => ∃ r2 : Int32, ρ = .int r2 ∧ ((¬ r2 = 0 → (∀ μ3 : Mem, μ3 = wI μ1 0 (upd (μ1.1 0) 18 0) → (AA (Call d) y_M_best Q 20 [.ref 0, .int a, .int (μ1.1 0 18), .int (-1), .int 0, .int 0, un, un] [] μ3))) ∧
(r2 = 0 → (Q (.int (-100000)) μ1))))) : AA (Call d) y_M_best Q 0 [.ref 0, .int a, un, un, un, un, un, un] [] μ := go_in 19 (code := pr_M_best) (stops := [20]) rfl rfl hNF
set_option maxRecDepth 20000 in
theorem b_M_best_20 {d : Nat} {Q : QQ} {μ : Mem} {l1 : Int32} {l2 : Int32} {l3 : Int32} {l4 : Int32} {l5 : Int32} (hNF : ((μ.1 0 17) ≤ (μ.1 0 18) → (∀ μ1 : Mem, μ1 = wI μ 0 (upd (μ.1 0) 18 l2) → ((¬ l1 = 0 → ((¬ l1 = 1 → (Q (.int l5) μ1)) ∧
(l1 = 1 → (Q (.int l4) μ1)))) ∧
(l1 = 0 → (Q (.int l3) μ1))))) ∧
(¬ (μ.1 0 17) ≤ (μ.1 0 18) → (Call d y_M_dayNow [.ref 0] μ (fun _ μ2 => (Call d y_M_saying [.ref 0] μ2 (fun ρ μ3 => ∃ r4 : Int32, ρ = .int r4 ∧ (Call d y_M_allGood [.ref 0] μ3 (fun ρ μ5 => ∃ r6 : Int32, ρ = .int r6 ∧ ((l3 = (-1) → (∀ μ7 : Mem, μ7 = wI μ5 0 (upd (μ5.1 0) 18 ((μ5.1 0 18) + 1)) → (AA (Call d) y_M_best Q 20 [.ref 0, .int l1, .int l2, .int (μ5.1 0 18), .int r4, .int r6, .int r4, .int r6] [] μ7))) ∧
(¬ l3 = (-1) → ((l4 < r4 → (∀ μ8 : Mem, μ8 = wI μ5 0 (upd (μ5.1 0) 18 ((μ5.1 0 18) + 1)) → (AA (Call d) y_M_best Q 20 [.ref 0, .int l1, .int l2, .int (μ5.1 0 18), .int r4, .int r6, .int r4, .int r6] [] μ8))) ∧
(¬ l4 < r4 → ((¬ r4 = l4 → (∀ μ9 : Mem, μ9 = wI μ5 0 (upd (μ5.1 0) 18 ((μ5.1 0 18) + 1)) → (AA (Call d) y_M_best Q 20 [.ref 0, .int l1, .int l2, .int l3, .int l4, .int l5, .int r4, .int r6] [] μ9))) ∧
(r4 = l4 → ((r6 ≤ l5 → (∀ μ10 : Mem, μ10 = wI μ5 0 (upd (μ5.1 0) 18 ((μ5.1 0 18) + 1)) → (AA (Call d) y_M_best Q 20 [.ref 0, .int l1, .int l2, .int l3, .int l4, .int l5, .int r4, .int r6] [] μ10))) ∧
(¬ r6 ≤ l5 → (∀ μ11 : Mem, μ11 = wI μ5 0 (upd (μ5.1 0) 18 ((μ5.1 0 18) + 1)) → (AA (Call d) y_M_best Q 20 [.ref 0, .int l1, .int l2, .int (μ5.1 0 18), .int r4, .int r6, .int r4, .int r6] [] μ11)))))))))))))))))) : AA (Call d) y_M_best Q 20 [.ref 0, .int l1, .int l2, .int l3, .int l4, .int l5, un, un] [] μ := go_in 40 (code := pr_M_best) (stops := [20]) rfl rfl hNF
set_option maxRecDepth 20000 in
theorem b_M_paidBad_0 {d : Nat} {Q : QQ} {μ : Mem} {a : Int32} (hNF : Call d y_M_isSheet [.int a] μ (fun ρ μ1 => ∃ r2 : Int32, ρ = .int r2 ∧ ((¬ r2 = 0 → (vp_in a 4 ∧ ((¬ (μ1.1 22 a.toNatClampNeg) = 0 → (vp_in a 4 ∧ ((¬ (μ1.1 24 a.toNatClampNeg) = (μ1.1 0 14) → (Q (.int (-2)) μ1)) ∧
((μ1.1 24 a.toNatClampNeg) = (μ1.1 0 14) → (Q (.int 0) μ1))))) ∧
((μ1.1 22 a.toNatClampNeg) = 0 → (Q (.int (-11)) μ1))))) ∧
(r2 = 0 → (Q (.int (-2)) μ1))))) : AA (Call d) y_M_paidBad Q 0 [.ref 0, .int a] [] μ := go_in 18 (code := pr_M_paidBad) (stops := []) rfl rfl hNF
set_option maxRecDepth 20000 in
theorem b_M_unlike_0 {d : Nat} {Q : QQ} {μ : Mem} {a : Int32} (hNF : Call d y_M_dayNow [.ref 0] μ (fun _ μ1 => (AA (Call d) y_M_unlike Q 4 [.ref 0, .int a, .int 0] [] μ1))) : AA (Call d) y_M_unlike Q 0 [.ref 0, .int a, un] [] μ := go_in 5 (code := pr_M_unlike) (stops := [4]) rfl rfl hNF
set_option maxRecDepth 20000 in
theorem b_M_unlike_4 {d : Nat} {Q : QQ} {μ : Mem} {l1 : Int32} {l2 : Int32} (hNF : ((μ.1 0 14) ≤ l2 → (Q (.int (-1)) μ)) ∧
(¬ (μ.1 0 14) ≤ l2 → (vp_in l2 5 ∧ ((¬ (μ.1 16 l2.toNatClampNeg) = (-1) → (vp_in l2 5 ∧ (vp_in ((40 * l1) + l2) 160 ∧ (((μ.1 17 l2.toNatClampNeg) = (μ.1 25 (Int32.toNatClampNeg ((40 * l1) + l2))) → (AA (Call d) y_M_unlike Q 4 [.ref 0, .int l1, .int (l2 + 1)] [] μ)) ∧
(¬ (μ.1 17 l2.toNatClampNeg) = (μ.1 25 (Int32.toNatClampNeg ((40 * l1) + l2))) → (Q (.int l2) μ)))))) ∧
((μ.1 16 l2.toNatClampNeg) = (-1) → (vp_in ((40 * l1) + l2) 160 ∧ (((-1 : Int32) = (μ.1 25 (Int32.toNatClampNeg ((40 * l1) + l2))) → (AA (Call d) y_M_unlike Q 4 [.ref 0, .int l1, .int (l2 + 1)] [] μ)) ∧
(¬ (-1 : Int32) = (μ.1 25 (Int32.toNatClampNeg ((40 * l1) + l2))) → (Q (.int l2) μ))))))))) : AA (Call d) y_M_unlike Q 4 [.ref 0, .int l1, .int l2] [] μ := go_in 26 (code := pr_M_unlike) (stops := [4]) rfl rfl hNF
set_option maxRecDepth 20000 in
theorem b_M_judge_0 {d : Nat} {Q : QQ} {μ : Mem} {a : Int32} (hNF : Call d y_M_paidBad [.ref 0, .int a] μ (fun ρ μ1 => ∃ r2 : Int32, ρ = .int r2 ∧ ((r2 = 0 → (Call d y_M_unlike [.ref 0, .int a] μ1 (fun ρ μ3 => ∃ r4 : Int32, ρ = .int r4 ∧ (Q (.int r4) μ3)))) ∧
(¬ r2 = 0 → (Q (.int r2) μ1))))) : AA (Call d) y_M_judge Q 0 [.ref 0, .int a, un] [] μ := go_in 10 (code := pr_M_judge) (stops := []) rfl rfl hNF
set_option maxRecDepth 20000 in
theorem b_M_fits_0 {d : Nat} {Q : QQ} {μ : Mem} {a : Int32} {b : Int32} (hNF : Call d y_M_isWriter [.ref 0, .int a] μ (fun ρ μ1 => ∃ r2 : Int32, ρ = .int r2 ∧ ((r2 = 0 → (Q (.int (-2)) μ1)) ∧
(¬ r2 = 0 → (Call d y_M_in [.long (Int32.toInt64 b), .long 0, .long 9999] μ1 (fun ρ μ3 => ∃ r4 : Int32, ρ = .int r4 ∧ ((¬ r4 = 0 → (∀ μ5 : Mem, μ5 = wI μ3 0 (upd (μ3.1 0) 40 a) → (∀ μ6 : Mem, μ6 = wI μ5 0 (upd (μ5.1 0) 41 b) → (∀ μ7 : Mem, μ7 = wI μ6 0 (upd (μ6.1 0) 42 0) → (Call d y_M_dayNow [.ref 0] μ7 (fun _ μ8 => (∀ μ9 : Mem, μ9 = wI μ8 0 (upd (μ8.1 0) 40 (-1)) → (Q (.int (μ9.1 0 42)) μ9)))))))) ∧
(r4 = 0 → (Q (.int (-2)) μ3))))))))) : AA (Call d) y_M_fits Q 0 [.ref 0, .int a, .int b] [] μ := go_in 27 (code := pr_M_fits) (stops := []) rfl rfl hNF
set_option maxRecDepth 20000 in
theorem b_M_whose_0 {d : Nat} {Q : QQ} {μ : Mem} {a : Int32} (hNF : Call d y_M_paidBad [.ref 0, .int a] μ (fun ρ μ1 => ∃ r2 : Int32, ρ = .int r2 ∧ ((r2 = 0 → (∀ μ3 : Mem, μ3 = wI μ1 0 (upd (μ1.1 0) 18 0) → (AA (Call d) y_M_whose Q 16 [.ref 0, .int a, .int r2, .int (μ1.1 0 18), .int 0] [] μ3))) ∧
(¬ r2 = 0 → (Q (.int r2) μ1))))) : AA (Call d) y_M_whose Q 0 [.ref 0, .int a, un, un, un] [] μ := go_in 15 (code := pr_M_whose) (stops := [16]) rfl rfl hNF
set_option maxRecDepth 20000 in
theorem b_M_whose_16 {d : Nat} {Q : QQ} {μ : Mem} {l1 : Int32} {l2 : Int32} {l3 : Int32} {l4 : Int32} (hNF : ((μ.1 0 17) ≤ (μ.1 0 18) → (∀ μ1 : Mem, μ1 = wI μ 0 (upd (μ.1 0) 18 l3) → (Q (.int l4) μ1))) ∧
(¬ (μ.1 0 17) ≤ (μ.1 0 18) → (Call d y_M_unlike [.ref 0, .int l1] μ (fun ρ μ2 => ∃ r3 : Int32, ρ = .int r3 ∧ ((¬ r3 = (-1) → (∀ μ4 : Mem, μ4 = wI μ2 0 (upd (μ2.1 0) 18 ((μ2.1 0 18) + 1)) → (AA (Call d) y_M_whose Q 16 [.ref 0, .int l1, .int l2, .int l3, .int (l4 ||| (0 <<< ((μ2.1 0 18) &&& 31)))] [] μ4))) ∧
(r3 = (-1) → (∀ μ5 : Mem, μ5 = wI μ2 0 (upd (μ2.1 0) 18 ((μ2.1 0 18) + 1)) → (AA (Call d) y_M_whose Q 16 [.ref 0, .int l1, .int l2, .int l3, .int (l4 ||| (1 <<< ((μ2.1 0 18) &&& 31)))] [] μ5)))))))) : AA (Call d) y_M_whose Q 16 [.ref 0, .int l1, .int l2, .int l3, .int l4] [] μ := go_in 26 (code := pr_M_whose) (stops := [16]) rfl rfl hNF
set_option maxRecDepth 20000 in
theorem b_M_draws_0 {d : Nat} {Q : QQ} {μ : Mem} {a : Int32} (hNF : AA (Call d) y_M_draws Q 4 [.ref 0, .int a, .int a, .int 0] [] μ) : AA (Call d) y_M_draws Q 0 [.ref 0, .int a, un, un] [] μ := go_in 5 (code := pr_M_draws) (stops := [4]) rfl rfl hNF
set_option maxRecDepth 20000 in
theorem b_M_draws_4 {d : Nat} {Q : QQ} {μ : Mem} {l1 : Int32} {l2 : Int32} {l3 : Int32} (hNF : ((8 : Int32) ≤ l3 → (Call d y_M_passesDay [.ref 0] μ (fun _ μ1 => (Q .null μ1)))) ∧
(¬ (8 : Int32) ≤ l3 → (¬ (20 : Int32) = 0 ∧ (vp_in l3 8 ∧ ∀ μ2 : Mem, μ2 = wI μ 14 (upd (μ.1 14) l3.toNatClampNeg (((Int32.toUInt32 ((l2 * 1103515245) + 12345) >>> (Int32.toUInt32 10 &&& Int32.toUInt32 31)).toInt32) - ((Int32.toUInt32 ((l2 * 1103515245) + 12345) >>> (Int32.toUInt32 10 &&& Int32.toUInt32 31)).toInt32) / 20 * 20)) → (AA (Call d) y_M_draws Q 4 [.ref 0, .int l1, .int ((l2 * 1103515245) + 12345), .int (l3 + 1)] [] μ2))))) : AA (Call d) y_M_draws Q 4 [.ref 0, .int l1, .int l2, .int l3] [] μ := go_in 21 (code := pr_M_draws) (stops := [4]) rfl rfl hNF
set_option maxRecDepth 20000 in
theorem b_M_drawn_0 {d : Nat} {Q : QQ} {μ : Mem} {a : Int32} (hNF : Call d y_M_draws [.ref 0, .int a] μ (fun _ μ1 => (Call d y_M_allGood [.ref 0] μ1 (fun ρ μ2 => ∃ r3 : Int32, ρ = .int r3 ∧ (Q (.int r3) μ2))))) : AA (Call d) y_M_drawn Q 0 [.ref 0, .int a] [] μ := go_in 6 (code := pr_M_drawn) (stops := []) rfl rfl hNF
set_option maxRecDepth 20000 in
theorem b_M_chance_0 {d : Nat} {Q : QQ} {μ : Mem} {a : Int32} {b : Int32} {c : Int32} (hNF : Call d y_M_in [.long (Int32.toInt64 b), .long 1, .long 20] μ (fun ρ μ1 => ∃ r2 : Int32, ρ = .int r2 ∧ ((r2 = 0 → (Q (.long (-4611686018427387904)) μ1)) ∧
(¬ r2 = 0 → (Call d y_M_in [.long (Int32.toInt64 c), .long 0, .long 1] μ1 (fun ρ μ3 => ∃ r4 : Int32, ρ = .int r4 ∧ ((¬ r4 = 0 → (AA (Call d) y_M_chance Q 18 [.ref 0, .int a, .int b, .int c, .long 0, un, .int 0, un, un, un, un, un] [] μ3)) ∧
(r4 = 0 → (Q (.long (-4611686018427387904)) μ3))))))))) : AA (Call d) y_M_chance Q 0 [.ref 0, .int a, .int b, .int c, un, un, un, un, un, un, un, un] [] μ := go_in 17 (code := pr_M_chance) (stops := [18, 44]) rfl rfl hNF
set_option maxRecDepth 20000 in
theorem b_M_chance_18 {d : Nat} {Q : QQ} {μ : Mem} {l1 : Int32} {l2 : Int32} {l3 : Int32} {l4 : Int64} {l6 : Int32} (hNF : (l2 ≤ l6 → (AA (Call d) y_M_chance Q 44 [.ref 0, .int l1, .int l2, .int l3, .long l4, un, .long l4, un, .long (Int32.toInt64 l2), un, un, un] [] μ)) ∧
(¬ l2 ≤ l6 → (Call d y_M_draws [.ref 0, .int (l1 + l6)] μ (fun _ μ1 => (Call d y_M_saying [.ref 0] μ1 (fun ρ μ2 => ∃ r3 : Int32, ρ = .int r3 ∧ ((¬ r3 = (μ2.1 0 14) → (AA (Call d) y_M_chance Q 18 [.ref 0, .int l1, .int l2, .int l3, .long (l4 + 0), un, .int (l6 + 1), un, un, un, un, un] [] μ2)) ∧
(r3 = (μ2.1 0 14) → (AA (Call d) y_M_chance Q 18 [.ref 0, .int l1, .int l2, .int l3, .long (l4 + 1), un, .int (l6 + 1), un, un, un, un, un] [] μ2))))))))) : AA (Call d) y_M_chance Q 18 [.ref 0, .int l1, .int l2, .int l3, .long l4, un, .int l6, un, un, un, un, un] [] μ := go_in 21 (code := pr_M_chance) (stops := [18, 44]) rfl rfl hNF
set_option maxRecDepth 20000 in
theorem b_M_chance_44 {d : Nat} {Q : QQ} {μ : Mem} {l1 : Int32} {l2 : Int32} {l3 : Int32} {l4 : Int64} {l6 : Int64} {l8 : Int64} (hNF : ((lg_cmp l8 0) = 0 → ((¬ l3 = 0 → (¬ l6 = 0 ∧ (Q (.long ((Int32.toInt64 l2) / l6)) μ))) ∧
(l3 = 0 → (¬ l6 = 0 ∧ (Q (.long (l4 / l6)) μ))))) ∧
(¬ (lg_cmp l8 0) = 0 → (¬ l8 = 0 ∧ (AA (Call d) y_M_chance Q 44 [.ref 0, .int l1, .int l2, .int l3, .long l4, un, .long l8, un, .long (l6 - l6 / l8 * l8), un, .long (l6 - l6 / l8 * l8), un] [] μ)))) : AA (Call d) y_M_chance Q 44 [.ref 0, .int l1, .int l2, .int l3, .long l4, un, .long l6, un, .long l8, un, un, un] [] μ := go_in 14 (code := pr_M_chance) (stops := [18, 44]) rfl rfl hNF
set_option maxRecDepth 20000 in
theorem b_M_image_0 {d : Nat} {Q : QQ} {μ : Mem} (hNF : AA (Call d) y_M_image Q 2 [.ref 0, .int 0] [] μ) : AA (Call d) y_M_image Q 0 [.ref 0, un] [] μ := go_in 3 (code := pr_M_image) (stops := [2, 17, 52]) rfl rfl hNF
set_option maxRecDepth 20000 in
theorem b_M_image_2 {d : Nat} {Q : QQ} {μ : Mem} {l1 : Int32} (hNF : ((8 : Int32) ≤ l1 → (AA (Call d) y_M_image Q 17 [.ref 0, .int 0] [] μ)) ∧
(¬ (8 : Int32) ≤ l1 → (vp_in l1 8 ∧ (vp_in l1 8 ∧ ∀ μ1 : Mem, μ1 = wI μ 19 (upd (μ.1 19) l1.toNatClampNeg (μ.1 4 l1.toNatClampNeg)) → (AA (Call d) y_M_image Q 2 [.ref 0, .int (l1 + 1)] [] μ1))))) : AA (Call d) y_M_image Q 2 [.ref 0, .int l1] [] μ := go_in 14 (code := pr_M_image) (stops := [2, 17, 52]) rfl rfl hNF
set_option maxRecDepth 20000 in
theorem b_M_image_17 {d : Nat} {Q : QQ} {μ : Mem} {l1 : Int32} (hNF : ((5 : Int32) ≤ l1 → (AA (Call d) y_M_image Q 52 [.ref 0, .int 0] [] μ)) ∧
(¬ (5 : Int32) ≤ l1 → (vp_in l1 5 ∧ (vp_in l1 15 ∧ ∀ μ1 : Mem, μ1 = wI μ 20 (upd (μ.1 20) l1.toNatClampNeg (μ.1 7 l1.toNatClampNeg)) → (vp_in l1 5 ∧ (vp_in (5 + l1) 15 ∧ ∀ μ2 : Mem, μ2 = wI μ1 20 (upd (μ1.1 20) (Int32.toNatClampNeg (5 + l1)) (μ1.1 8 l1.toNatClampNeg)) → (vp_in l1 5 ∧ (vp_in (10 + l1) 15 ∧ ∀ μ3 : Mem, μ3 = wI μ2 20 (upd (μ2.1 20) (Int32.toNatClampNeg (10 + l1)) (μ2.1 9 l1.toNatClampNeg)) → (AA (Call d) y_M_image Q 17 [.ref 0, .int (l1 + 1)] [] μ3))))))))) : AA (Call d) y_M_image Q 17 [.ref 0, .int l1] [] μ := go_in 34 (code := pr_M_image) (stops := [2, 17, 52]) rfl rfl hNF
set_option maxRecDepth 20000 in
theorem b_M_image_52 {d : Nat} {Q : QQ} {μ : Mem} {l1 : Int32} (hNF : ((6 : Int32) ≤ l1 → (∀ μ1 : Mem, μ1 = wI μ 0 (upd (μ.1 0) 51 (μ.1 0 14)) → (∀ μ2 : Mem, μ2 = wI μ1 0 (upd (μ1.1 0) 52 (μ1.1 0 10)) → (∀ μ3 : Mem, μ3 = wI μ2 0 (upd (μ2.1 0) 53 (μ2.1 0 17)) → (∀ μ4 : Mem, μ4 = wI μ3 0 (upd (μ3.1 0) 54 (μ3.1 0 18)) → (∀ μ5 : Mem, μ5 = wI μ4 0 (upd (μ4.1 0) 55 (μ4.1 0 4)) → (Q (.int (μ5.1 0 14)) μ5))))))) ∧
(¬ (6 : Int32) ≤ l1 → (vp_in l1 6 ∧ (vp_in l1 6 ∧ ∀ μ6 : Mem, μ6 = wI μ 21 (upd (μ.1 21) l1.toNatClampNeg (μ.1 11 l1.toNatClampNeg)) → (AA (Call d) y_M_image Q 52 [.ref 0, .int (l1 + 1)] [] μ6))))) : AA (Call d) y_M_image Q 52 [.ref 0, .int l1] [] μ := go_in 26 (code := pr_M_image) (stops := [2, 17, 52]) rfl rfl hNF
set_option maxRecDepth 20000 in
theorem b_M_back_0 {d : Nat} {Q : QQ} {μ : Mem} (hNF : (¬ (μ.1 0 51) = (-1) → (AA (Call d) y_M_back Q 8 [.ref 0, .int 0] [] μ)) ∧
((μ.1 0 51) = (-1) → (Q (.int (-3)) μ))) : AA (Call d) y_M_back Q 0 [.ref 0, un] [] μ := go_in 7 (code := pr_M_back) (stops := [8, 23, 58]) rfl rfl hNF
set_option maxRecDepth 20000 in
theorem b_M_back_8 {d : Nat} {Q : QQ} {μ : Mem} {l1 : Int32} (hNF : ((8 : Int32) ≤ l1 → (AA (Call d) y_M_back Q 23 [.ref 0, .int 0] [] μ)) ∧
(¬ (8 : Int32) ≤ l1 → (vp_in l1 8 ∧ (vp_in l1 8 ∧ ∀ μ1 : Mem, μ1 = wI μ 4 (upd (μ.1 4) l1.toNatClampNeg (μ.1 19 l1.toNatClampNeg)) → (AA (Call d) y_M_back Q 8 [.ref 0, .int (l1 + 1)] [] μ1))))) : AA (Call d) y_M_back Q 8 [.ref 0, .int l1] [] μ := go_in 14 (code := pr_M_back) (stops := [8, 23, 58]) rfl rfl hNF
set_option maxRecDepth 20000 in
theorem b_M_back_23 {d : Nat} {Q : QQ} {μ : Mem} {l1 : Int32} (hNF : ((5 : Int32) ≤ l1 → (AA (Call d) y_M_back Q 58 [.ref 0, .int 0] [] μ)) ∧
(¬ (5 : Int32) ≤ l1 → (vp_in l1 15 ∧ (vp_in l1 5 ∧ ∀ μ1 : Mem, μ1 = wI μ 7 (upd (μ.1 7) l1.toNatClampNeg (μ.1 20 l1.toNatClampNeg)) → (vp_in (5 + l1) 15 ∧ (vp_in l1 5 ∧ ∀ μ2 : Mem, μ2 = wI μ1 8 (upd (μ1.1 8) l1.toNatClampNeg (μ1.1 20 (Int32.toNatClampNeg (5 + l1)))) → (vp_in (10 + l1) 15 ∧ (vp_in l1 5 ∧ ∀ μ3 : Mem, μ3 = wI μ2 9 (upd (μ2.1 9) l1.toNatClampNeg (μ2.1 20 (Int32.toNatClampNeg (10 + l1)))) → (AA (Call d) y_M_back Q 23 [.ref 0, .int (l1 + 1)] [] μ3))))))))) : AA (Call d) y_M_back Q 23 [.ref 0, .int l1] [] μ := go_in 34 (code := pr_M_back) (stops := [8, 23, 58]) rfl rfl hNF
set_option maxRecDepth 20000 in
theorem b_M_back_58 {d : Nat} {Q : QQ} {μ : Mem} {l1 : Int32} (hNF : ((6 : Int32) ≤ l1 → (∀ μ1 : Mem, μ1 = wI μ 0 (upd (μ.1 0) 14 (μ.1 0 51)) → (∀ μ2 : Mem, μ2 = wI μ1 0 (upd (μ1.1 0) 10 (μ1.1 0 52)) → (∀ μ3 : Mem, μ3 = wI μ2 0 (upd (μ2.1 0) 17 (μ2.1 0 53)) → (∀ μ4 : Mem, μ4 = wI μ3 0 (upd (μ3.1 0) 18 (μ3.1 0 54)) → (∀ μ5 : Mem, μ5 = wI μ4 0 (upd (μ4.1 0) 4 (μ4.1 0 55)) → (Q (.int (μ5.1 0 14)) μ5))))))) ∧
(¬ (6 : Int32) ≤ l1 → (vp_in l1 6 ∧ (vp_in l1 6 ∧ ∀ μ6 : Mem, μ6 = wI μ 11 (upd (μ.1 11) l1.toNatClampNeg (μ.1 21 l1.toNatClampNeg)) → (AA (Call d) y_M_back Q 58 [.ref 0, .int (l1 + 1)] [] μ6))))) : AA (Call d) y_M_back Q 58 [.ref 0, .int l1] [] μ := go_in 26 (code := pr_M_back) (stops := [8, 23, 58]) rfl rfl hNF
set_option maxRecDepth 20000 in
theorem b_M_count_0 {d : Nat} {Q : QQ} {μ : Mem} {a : Int32} (hNF : Call d y_M_in [.long (Int32.toInt64 a), .long 0, .long 7] μ (fun ρ μ1 => ∃ r2 : Int32, ρ = .int r2 ∧ ((¬ r2 = 0 → (((4 : Int32) ≤ a → (((7 : Int32) ≤ a → (Call d y_M_takes [.ref 0] μ1 (fun _ μ3 => (Call d y_M_rowSum [.ref 0] μ3 (fun ρ μ4 => ∃ r5 : Int32, ρ = .int r5 ∧ (Q (.int r5) μ4)))))) ∧
(¬ (7 : Int32) ≤ a → ((¬ a = 4 → ((¬ a = 5 → (Q (.int (μ1.1 0 4)) μ1)) ∧
(a = 5 → (Q (.int (μ1.1 0 6)) μ1)))) ∧
(a = 4 → (Q (.int (μ1.1 0 3)) μ1)))))) ∧
(¬ (4 : Int32) ≤ a → ((¬ a = 0 → ((¬ a = 1 → ((¬ a = 2 → (Q (.int (μ1.1 0 18)) μ1)) ∧
(a = 2 → (Q (.int (μ1.1 0 17)) μ1)))) ∧
(a = 1 → (Q (.int (μ1.1 0 14)) μ1)))) ∧
(a = 0 → (Q (.int (μ1.1 0 10)) μ1)))))) ∧
(r2 = 0 → (Q (.int (-2)) μ1))))) : AA (Call d) y_M_count Q 0 [.ref 0, .int a] [] μ := go_in 22 (code := pr_M_count) (stops := []) rfl rfl hNF
set_option maxRecDepth 20000 in
theorem b_M_isSheet_0 {d : Nat} {Q : QQ} {μ : Mem} {a : Int32} (hNF : Call d y_M_in [.long (Int32.toInt64 a), .long 0, .long 3] μ (fun ρ μ1 => ∃ r2 : Int32, ρ = .int r2 ∧ (narrow .boolean (.int r2) = .int r2 ∧ Q (.int r2) μ1))) : AA (Call d) y_M_isSheet Q 0 [.int a] [] μ := go_in 6 (code := pr_M_isSheet) (stops := []) rfl rfl hNF
set_option maxRecDepth 20000 in
theorem b_M_sheet_0 {d : Nat} {Q : QQ} {μ : Mem} {a : Int32} {b : Int32} {c : Int32} (hNF : Call d y_M_isSheet [.int a] μ (fun ρ μ1 => ∃ r2 : Int32, ρ = .int r2 ∧ ((r2 = 0 → (Q (.int (-2)) μ1)) ∧
(¬ r2 = 0 → (Call d y_M_in [.long (Int32.toInt64 b), .long (-1), .long 2] μ1 (fun ρ μ3 => ∃ r4 : Int32, ρ = .int r4 ∧ ((r4 = 0 → (Q (.int (-2)) μ3)) ∧
(¬ r4 = 0 → ((b < 0 → ((b < 0 → ((b < 0 → (vp_in a 4 ∧ ∀ μ5 : Mem, μ5 = wI μ3 22 (upd (μ3.1 22) a.toNatClampNeg (vp_nar .boolean 0)) → (vp_in a 4 ∧ ∀ μ6 : Mem, μ6 = wI μ5 23 (upd (μ5.1 23) a.toNatClampNeg b) → (vp_in a 4 ∧ ∀ μ7 : Mem, μ7 = wI μ6 24 (upd (μ6.1 24) a.toNatClampNeg c) → (AA (Call d) y_M_sheet Q 43 [.ref 0, .int a, .int b, .int c, .int 0] [] μ7))))) ∧
(¬ b < 0 → (vp_in a 4 ∧ ∀ μ8 : Mem, μ8 = wI μ3 22 (upd (μ3.1 22) a.toNatClampNeg (vp_nar .boolean 1)) → (vp_in a 4 ∧ ∀ μ9 : Mem, μ9 = wI μ8 23 (upd (μ8.1 23) a.toNatClampNeg b) → (vp_in a 4 ∧ ∀ μ10 : Mem, μ10 = wI μ9 24 (upd (μ9.1 24) a.toNatClampNeg c) → (AA (Call d) y_M_sheet Q 43 [.ref 0, .int a, .int b, .int c, .int 0] [] μ10))))))) ∧
(¬ b < 0 → (((0 : Int32) ≤ c → ((b < 0 → (vp_in a 4 ∧ ∀ μ11 : Mem, μ11 = wI μ3 22 (upd (μ3.1 22) a.toNatClampNeg (vp_nar .boolean 0)) → (vp_in a 4 ∧ ∀ μ12 : Mem, μ12 = wI μ11 23 (upd (μ11.1 23) a.toNatClampNeg b) → (vp_in a 4 ∧ ∀ μ13 : Mem, μ13 = wI μ12 24 (upd (μ12.1 24) a.toNatClampNeg c) → (AA (Call d) y_M_sheet Q 43 [.ref 0, .int a, .int b, .int c, .int 0] [] μ13))))) ∧
(¬ b < 0 → (vp_in a 4 ∧ ∀ μ14 : Mem, μ14 = wI μ3 22 (upd (μ3.1 22) a.toNatClampNeg (vp_nar .boolean 1)) → (vp_in a 4 ∧ ∀ μ15 : Mem, μ15 = wI μ14 23 (upd (μ14.1 23) a.toNatClampNeg b) → (vp_in a 4 ∧ ∀ μ16 : Mem, μ16 = wI μ15 24 (upd (μ15.1 24) a.toNatClampNeg c) → (AA (Call d) y_M_sheet Q 43 [.ref 0, .int a, .int b, .int c, .int 0] [] μ16))))))) ∧
(¬ (0 : Int32) ≤ c → (Q (.int (-14)) μ3)))))) ∧
(¬ b < 0 → ((c ≤ 40 → ((b < 0 → ((b < 0 → (vp_in a 4 ∧ ∀ μ17 : Mem, μ17 = wI μ3 22 (upd (μ3.1 22) a.toNatClampNeg (vp_nar .boolean 0)) → (vp_in a 4 ∧ ∀ μ18 : Mem, μ18 = wI μ17 23 (upd (μ17.1 23) a.toNatClampNeg b) → (vp_in a 4 ∧ ∀ μ19 : Mem, μ19 = wI μ18 24 (upd (μ18.1 24) a.toNatClampNeg c) → (AA (Call d) y_M_sheet Q 43 [.ref 0, .int a, .int b, .int c, .int 0] [] μ19))))) ∧
(¬ b < 0 → (vp_in a 4 ∧ ∀ μ20 : Mem, μ20 = wI μ3 22 (upd (μ3.1 22) a.toNatClampNeg (vp_nar .boolean 1)) → (vp_in a 4 ∧ ∀ μ21 : Mem, μ21 = wI μ20 23 (upd (μ20.1 23) a.toNatClampNeg b) → (vp_in a 4 ∧ ∀ μ22 : Mem, μ22 = wI μ21 24 (upd (μ21.1 24) a.toNatClampNeg c) → (AA (Call d) y_M_sheet Q 43 [.ref 0, .int a, .int b, .int c, .int 0] [] μ22))))))) ∧
(¬ b < 0 → (((0 : Int32) ≤ c → ((b < 0 → (vp_in a 4 ∧ ∀ μ23 : Mem, μ23 = wI μ3 22 (upd (μ3.1 22) a.toNatClampNeg (vp_nar .boolean 0)) → (vp_in a 4 ∧ ∀ μ24 : Mem, μ24 = wI μ23 23 (upd (μ23.1 23) a.toNatClampNeg b) → (vp_in a 4 ∧ ∀ μ25 : Mem, μ25 = wI μ24 24 (upd (μ24.1 24) a.toNatClampNeg c) → (AA (Call d) y_M_sheet Q 43 [.ref 0, .int a, .int b, .int c, .int 0] [] μ25))))) ∧
(¬ b < 0 → (vp_in a 4 ∧ ∀ μ26 : Mem, μ26 = wI μ3 22 (upd (μ3.1 22) a.toNatClampNeg (vp_nar .boolean 1)) → (vp_in a 4 ∧ ∀ μ27 : Mem, μ27 = wI μ26 23 (upd (μ26.1 23) a.toNatClampNeg b) → (vp_in a 4 ∧ ∀ μ28 : Mem, μ28 = wI μ27 24 (upd (μ27.1 24) a.toNatClampNeg c) → (AA (Call d) y_M_sheet Q 43 [.ref 0, .int a, .int b, .int c, .int 0] [] μ28))))))) ∧
(¬ (0 : Int32) ≤ c → (Q (.int (-14)) μ3)))))) ∧
(¬ c ≤ 40 → (Q (.int (-2)) μ3))))))))))))) : AA (Call d) y_M_sheet Q 0 [.ref 0, .int a, .int b, .int c, un] [] μ := go_in 39 (code := pr_M_sheet) (stops := [43]) rfl rfl hNF
set_option maxRecDepth 20000 in
theorem b_M_sheet_43 {d : Nat} {Q : QQ} {μ : Mem} {l1 : Int32} {l2 : Int32} {l3 : Int32} {l4 : Int32} (hNF : (l3 ≤ l4 → (Q (.int 1) μ)) ∧
(¬ l3 ≤ l4 → ((l2 < 0 → (Q (.int 1) μ)) ∧
(¬ l2 < 0 → (vp_in ((40 * l1) + l4) 160 ∧ ∀ μ1 : Mem, μ1 = wI μ 25 (upd (μ.1 25) (Int32.toNatClampNeg ((40 * l1) + l4)) 0) → (AA (Call d) y_M_sheet Q 43 [.ref 0, .int l1, .int l2, .int l3, .int (l4 + 1)] [] μ1)))))) : AA (Call d) y_M_sheet Q 43 [.ref 0, .int l1, .int l2, .int l3, .int l4] [] μ := go_in 17 (code := pr_M_sheet) (stops := [43]) rfl rfl hNF
set_option maxRecDepth 20000 in
theorem b_M_cell_0 {d : Nat} {Q : QQ} {μ : Mem} {a : Int32} {b : Int32} {c : Int32} (hNF : Call d y_M_isSheet [.int a] μ (fun ρ μ1 => ∃ r2 : Int32, ρ = .int r2 ∧ ((¬ r2 = 0 → (vp_in a 4 ∧ ((¬ (μ1.1 22 a.toNatClampNeg) = 0 → (vp_in a 4 ∧ (Call d y_M_in [.long (Int32.toInt64 b), .long 0, .long (Int32.toInt64 ((μ1.1 24 a.toNatClampNeg) - 1))] μ1 (fun ρ μ3 => ∃ r4 : Int32, ρ = .int r4 ∧ ((¬ r4 = 0 → (vp_in a 4 ∧ ((¬ (μ3.1 23 a.toNatClampNeg) = 0 → (vp_in a 4 ∧ ((¬ (μ3.1 23 a.toNatClampNeg) = 1 → (vp_in ((40 * a) + b) 160 ∧ ∀ μ5 : Mem, μ5 = wI μ3 25 (upd (μ3.1 25) (Int32.toNatClampNeg ((40 * a) + b)) c) → (Q (.int 1) μ5))) ∧
((μ3.1 23 a.toNatClampNeg) = 1 → (vp_in ((40 * a) + b) 160 ∧ ∀ μ6 : Mem, μ6 = wI μ3 25 (upd (μ3.1 25) (Int32.toNatClampNeg ((40 * a) + b)) ((Int32.toInt16 c).toInt32)) → (Q (.int 1) μ6)))))) ∧
((μ3.1 23 a.toNatClampNeg) = 0 → (vp_in ((40 * a) + b) 160 ∧ ∀ μ7 : Mem, μ7 = wI μ3 25 (upd (μ3.1 25) (Int32.toNatClampNeg ((40 * a) + b)) ((Int32.toInt8 c).toInt32)) → (Q (.int 1) μ7)))))) ∧
(r4 = 0 → (Q (.int (-12)) μ3))))))) ∧
((μ1.1 22 a.toNatClampNeg) = 0 → (Q (.int (-11)) μ1))))) ∧
(r2 = 0 → (Q (.int (-2)) μ1))))) : AA (Call d) y_M_cell Q 0 [.ref 0, .int a, .int b, .int c] [] μ := go_in 44 (code := pr_M_cell) (stops := []) rfl rfl hNF
set_option maxRecDepth 20000 in
theorem b_M_copy_0 {d : Nat} {Q : QQ} {μ : Mem} {a : Int32} {b : Int32} {c : Int32} {e : Int32} {f : Int32} (hNF : Call d y_M_isSheet [.int a] μ (fun ρ μ1 => ∃ r2 : Int32, ρ = .int r2 ∧ ((r2 = 0 → (Q (.int (-2)) μ1)) ∧
(¬ r2 = 0 → (Call d y_M_isSheet [.int c] μ1 (fun ρ μ3 => ∃ r4 : Int32, ρ = .int r4 ∧ ((¬ r4 = 0 → (vp_in a 4 ∧ (((μ3.1 22 a.toNatClampNeg) = 0 → (Q (.int (-11)) μ3)) ∧
(¬ (μ3.1 22 a.toNatClampNeg) = 0 → (vp_in c 4 ∧ ((¬ (μ3.1 22 c.toNatClampNeg) = 0 → (vp_in a 4 ∧ (vp_in c 4 ∧ (((μ3.1 23 a.toNatClampNeg) = (μ3.1 23 c.toNatClampNeg) → ((f < 0 → (Q (.int (-12)) μ3)) ∧
(¬ f < 0 → ((b < 0 → (Q (.int (-12)) μ3)) ∧
(¬ b < 0 → ((e < 0 → (Q (.int (-12)) μ3)) ∧
(¬ e < 0 → (vp_in a 4 ∧ ((((μ3.1 24 a.toNatClampNeg) - f) < b → (Q (.int (-12)) μ3)) ∧
(¬ ((μ3.1 24 a.toNatClampNeg) - f) < b → (vp_in c 4 ∧ ((e ≤ ((μ3.1 24 c.toNatClampNeg) - f) → ((¬ a = c → (AA (Call d) y_M_copy Q 67 [.ref 0, .int a, .int b, .int c, .int e, .int f, .int 0, .int 0, un] [] μ3)) ∧
(a = c → ((e ≤ b → (AA (Call d) y_M_copy Q 67 [.ref 0, .int a, .int b, .int c, .int e, .int f, .int 0, .int 0, un] [] μ3)) ∧
(¬ e ≤ b → (AA (Call d) y_M_copy Q 67 [.ref 0, .int a, .int b, .int c, .int e, .int f, .int 1, .int 0, un] [] μ3)))))) ∧
(¬ e ≤ ((μ3.1 24 c.toNatClampNeg) - f) → (Q (.int (-12)) μ3)))))))))))))) ∧
(¬ (μ3.1 23 a.toNatClampNeg) = (μ3.1 23 c.toNatClampNeg) → (Q (.int (-13)) μ3)))))) ∧
((μ3.1 22 c.toNatClampNeg) = 0 → (Q (.int (-11)) μ3)))))))) ∧
(r4 = 0 → (Q (.int (-2)) μ3))))))))) : AA (Call d) y_M_copy Q 0 [.ref 0, .int a, .int b, .int c, .int e, .int f, un, un, un] [] μ := go_in 59 (code := pr_M_copy) (stops := [67]) rfl rfl hNF
set_option maxRecDepth 20000 in
theorem b_M_copy_67 {d : Nat} {Q : QQ} {μ : Mem} {l1 : Int32} {l2 : Int32} {l3 : Int32} {l4 : Int32} {l5 : Int32} {l6 : Int32} {l7 : Int32} (hNF : (l5 ≤ l7 → (Q (.int l5) μ)) ∧
(¬ l5 ≤ l7 → ((l6 = 0 → (vp_in (((40 * l1) + l2) + l7) 160 ∧ (vp_in (((40 * l3) + l4) + l7) 160 ∧ ∀ μ1 : Mem, μ1 = wI μ 25 (upd (μ.1 25) (Int32.toNatClampNeg (((40 * l3) + l4) + l7)) (μ.1 25 (Int32.toNatClampNeg (((40 * l1) + l2) + l7)))) → (AA (Call d) y_M_copy Q 67 [.ref 0, .int l1, .int l2, .int l3, .int l4, .int l5, .int l6, .int (l7 + 1), .int l7] [] μ1)))) ∧
(¬ l6 = 0 → (vp_in (((40 * l1) + l2) + ((l5 - 1) - l7)) 160 ∧ (vp_in (((40 * l3) + l4) + ((l5 - 1) - l7)) 160 ∧ ∀ μ2 : Mem, μ2 = wI μ 25 (upd (μ.1 25) (Int32.toNatClampNeg (((40 * l3) + l4) + ((l5 - 1) - l7))) (μ.1 25 (Int32.toNatClampNeg (((40 * l1) + l2) + ((l5 - 1) - l7))))) → (AA (Call d) y_M_copy Q 67 [.ref 0, .int l1, .int l2, .int l3, .int l4, .int l5, .int l6, .int (l7 + 1), .int ((l5 - 1) - l7)] [] μ2))))))) : AA (Call d) y_M_copy Q 67 [.ref 0, .int l1, .int l2, .int l3, .int l4, .int l5, .int l6, .int l7, un] [] μ := go_in 35 (code := pr_M_copy) (stops := [67]) rfl rfl hNF
set_option maxRecDepth 20000 in
theorem b_M_writers_0 {d : Nat} {Q : QQ} {μ : Mem} {a : Int32} {b : Int32} {c : Int32} {e : Int32} (hNF : Call d y_M_isSheet [.int a] μ (fun ρ μ1 => ∃ r2 : Int32, ρ = .int r2 ∧ ((r2 = 0 → (Q (.int (-2)) μ1)) ∧
(¬ r2 = 0 → (Call d y_M_in [.long (Int32.toInt64 b), .long 0, .long 2] μ1 (fun ρ μ3 => ∃ r4 : Int32, ρ = .int r4 ∧ ((r4 = 0 → (Q (.int (-2)) μ3)) ∧
(¬ r4 = 0 → (Call d y_M_in [.long (Int32.toInt64 e), .long 0, .long 5] μ3 (fun ρ μ5 => ∃ r6 : Int32, ρ = .int r6 ∧ ((¬ r6 = 0 → (vp_in a 4 ∧ (((μ5.1 22 a.toNatClampNeg) = 0 → (vp_in a 4 ∧ ((¬ (μ5.1 22 a.toNatClampNeg) = 0 → (AA (Call d) y_M_writers Q 41 [.ref 0, .int a, .int b, .int c, .int e, .int 0, .int 0, un] [] μ5)) ∧
((μ5.1 22 a.toNatClampNeg) = 0 → (Q (.int (-11)) μ5))))) ∧
(¬ (μ5.1 22 a.toNatClampNeg) = 0 → (vp_in a 4 ∧ (((μ5.1 23 a.toNatClampNeg) = b → (vp_in a 4 ∧ ((¬ (μ5.1 22 a.toNatClampNeg) = 0 → (AA (Call d) y_M_writers Q 41 [.ref 0, .int a, .int b, .int c, .int e, .int 0, .int 0, un] [] μ5)) ∧
((μ5.1 22 a.toNatClampNeg) = 0 → (Q (.int (-11)) μ5))))) ∧
(¬ (μ5.1 23 a.toNatClampNeg) = b → (Q (.int (-13)) μ5)))))))) ∧
(r6 = 0 → (Q (.int (-2)) μ5))))))))))))) : AA (Call d) y_M_writers Q 0 [.ref 0, .int a, .int b, .int c, .int e, un, un, un] [] μ := go_in 36 (code := pr_M_writers) (stops := [41]) rfl rfl hNF
set_option maxRecDepth 20000 in
theorem b_M_writers_41 {d : Nat} {Q : QQ} {μ : Mem} {l1 : Int32} {l2 : Int32} {l3 : Int32} {l4 : Int32} {l5 : Int32} {l6 : Int32} (hNF : (l4 ≤ l6 → (Q (.int l5) μ)) ∧
(¬ l4 ≤ l6 → ((l3 < 0 → (Q (.int (-12)) μ)) ∧
(¬ l3 < 0 → (vp_in l1 4 ∧ ((l3 ≤ (((μ.1 24 l1.toNatClampNeg) - (3 * l6)) - 3) → (vp_in (((40 * l1) + l3) + (3 * l6)) 160 ∧ (vp_in ((((40 * l1) + l3) + (3 * l6)) + 1) 160 ∧ (vp_in ((((40 * l1) + l3) + (3 * l6)) + 2) 160 ∧ (Call d y_M_writer [.ref 0, .int (μ.1 25 (Int32.toNatClampNeg (((40 * l1) + l3) + (3 * l6)))), .int (μ.1 25 (Int32.toNatClampNeg ((((40 * l1) + l3) + (3 * l6)) + 1))), .int (μ.1 25 (Int32.toNatClampNeg ((((40 * l1) + l3) + (3 * l6)) + 2)))] μ (fun ρ μ1 => ∃ r2 : Int32, ρ = .int r2 ∧ ((r2 < 0 → (AA (Call d) y_M_writers Q 41 [.ref 0, .int l1, .int l2, .int l3, .int l4, .int (l5 + 0), .int (l6 + 1), .int (((40 * l1) + l3) + (3 * l6))] [] μ1)) ∧
(¬ r2 < 0 → (AA (Call d) y_M_writers Q 41 [.ref 0, .int l1, .int l2, .int l3, .int l4, .int (l5 + 1), .int (l6 + 1), .int (((40 * l1) + l3) + (3 * l6))] [] μ1))))))))) ∧
(¬ l3 ≤ (((μ.1 24 l1.toNatClampNeg) - (3 * l6)) - 3) → (Q (.int (-12)) μ)))))))) : AA (Call d) y_M_writers Q 41 [.ref 0, .int l1, .int l2, .int l3, .int l4, .int l5, .int l6, un] [] μ := go_in 54 (code := pr_M_writers) (stops := [41]) rfl rfl hNF
set_option maxRecDepth 20000 in
theorem b_M_over_0 {d : Nat} {Q : QQ} {μ : Mem} {a : Int32} (hNF : (¬ a = 0 → ((¬ a = 4 → ((a = 3 → (Q (.int 1) μ)) ∧
(¬ a = 3 → ((¬ a = 5 → (Q (.int 0) μ)) ∧
(a = 5 → (Q (.int 1) μ)))))) ∧
(a = 4 → (Q (.int 2) μ)))) ∧
(a = 0 → (Q (.int (-1)) μ))) : AA (Call d) y_M_over Q 0 [.int a] [] μ := go_in 14 (code := pr_M_over) (stops := []) rfl rfl hNF
set_option maxRecDepth 20000 in
theorem b_M_taken_0 {d : Nat} {Q : QQ} {μ : Mem} {a : Int32} {b : Int32} (hNF : Call d y_M_in [.long (Int32.toInt64 b), .long 0, .long 5] μ (fun ρ μ1 => ∃ r2 : Int32, ρ = .int r2 ∧ ((¬ r2 = 0 → (Call d y_M_isLaw [.ref 0, .int a] μ1 (fun ρ μ3 => ∃ r4 : Int32, ρ = .int r4 ∧ ((¬ r4 = 0 → (vp_in a 6 ∧ (AA (Call d) y_M_taken Q 19 [.ref 0, .int a, .int b, .int (μ3.1 10 a.toNatClampNeg)] [] μ3))) ∧
(r4 = 0 → (Q (.int (-11)) μ3)))))) ∧
(r2 = 0 → (Q (.int (-2)) μ1))))) : AA (Call d) y_M_taken Q 0 [.ref 0, .int a, .int b, un] [] μ := go_in 16 (code := pr_M_taken) (stops := [19]) rfl rfl hNF
set_option maxRecDepth 20000 in
theorem b_M_taken_19 {d : Nat} {Q : QQ} {μ : Mem} {l1 : Int32} {l2 : Int32} {l3 : Int32} (hNF : (l3 = (-1) → ((¬ l3 = l2 → (Q (.int (-13)) μ)) ∧
(l3 = l2 → (vp_in l1 6 ∧ (Q (.int (μ.1 11 l1.toNatClampNeg)) μ))))) ∧
(¬ l3 = (-1) → ((l3 = l2 → ((¬ l3 = l2 → (Q (.int (-13)) μ)) ∧
(l3 = l2 → (vp_in l1 6 ∧ (Q (.int (μ.1 11 l1.toNatClampNeg)) μ))))) ∧
(¬ l3 = l2 → (Call d y_M_over [.int l3] μ (fun ρ μ1 => ∃ r2 : Int32, ρ = .int r2 ∧ (AA (Call d) y_M_taken Q 19 [.ref 0, .int l1, .int l2, .int r2] [] μ1))))))) : AA (Call d) y_M_taken Q 19 [.ref 0, .int l1, .int l2, .int l3] [] μ := go_in 15 (code := pr_M_taken) (stops := [19]) rfl rfl hNF
