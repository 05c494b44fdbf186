set_option maxRecDepth 20000 in
theorem b_X_set_0 {d : Nat} {Q : QQ} {μ : Mem} {a : Int32} {b : Int32} {c : Int32} (hNF : (a = 0 → (Call d y_X_put [.ref 1, .int 8, .int b, .int c, .int 999] μ (fun ρ μ1 => ∃ r2 : Int32, ρ = .int r2 ∧ (Q (.int r2) μ1)))) ∧
(¬ a = 0 → ((a = 1 → (Call d y_X_put [.ref 17, .int (μ.1 16 3), .int b, .int c, .int 3] μ (fun ρ μ3 => ∃ r4 : Int32, ρ = .int r4 ∧ (Q (.int r4) μ3)))) ∧
(¬ a = 1 → ((a = 2 → (Call d y_X_put [.ref 18, .int (μ.1 16 3), .int b, .int c, .int 23] μ (fun ρ μ5 => ∃ r6 : Int32, ρ = .int r6 ∧ (Q (.int r6) μ5)))) ∧
(¬ a = 2 → ((a = 3 → (Call d y_X_put [.ref 19, .int (μ.1 16 3), .int b, .int c, .int 9999] μ (fun ρ μ7 => ∃ r8 : Int32, ρ = .int r8 ∧ (Q (.int r8) μ7)))) ∧
(¬ a = 3 → ((a = 4 → (Call d y_X_put [.ref 22, .int (μ.1 20 2), .int b, .int c, .int 9] μ (fun ρ μ9 => ∃ r10 : Int32, ρ = .int r10 ∧ (Q (.int r10) μ9)))) ∧
(¬ a = 4 → (Q (.int (-2)) μ))))))))))) : AA (Call d) y_X_set Q 0 [.ref 0, .int a, .int b, .int c] [] μ := go_in 13 (code := pr_X_set) (stops := []) rfl rfl hNF
set_option maxRecDepth 20000 in
theorem b_X_told_0 {d : Nat} {Q : QQ} {μ : Mem} {a : Int32} {b : Int32} (hNF : (b = 0 → (Call d y_X_item [.ref 1, .int 8, .int a] μ (fun ρ μ1 => ∃ r2 : Int32, ρ = .int r2 ∧ (Q (.int r2) μ1)))) ∧
(¬ b = 0 → ((b = 1 → (Call d y_X_item [.ref 17, .int (μ.1 16 3), .int a] μ (fun ρ μ3 => ∃ r4 : Int32, ρ = .int r4 ∧ (Q (.int r4) μ3)))) ∧
(¬ b = 1 → ((b = 2 → (Call d y_X_item [.ref 18, .int (μ.1 16 3), .int a] μ (fun ρ μ5 => ∃ r6 : Int32, ρ = .int r6 ∧ (Q (.int r6) μ5)))) ∧
(¬ b = 2 → ((b = 3 → (Call d y_X_item [.ref 19, .int (μ.1 16 3), .int a] μ (fun ρ μ7 => ∃ r8 : Int32, ρ = .int r8 ∧ (Q (.int r8) μ7)))) ∧
(¬ b = 3 → ((b = 4 → (Call d y_X_item [.ref 22, .int (μ.1 20 2), .int a] μ (fun ρ μ9 => ∃ r10 : Int32, ρ = .int r10 ∧ (Q (.int r10) μ9)))) ∧
(¬ b = 4 → ((b = 5 → (Call d y_X_item [.ref 21, .int (μ.1 20 2), .int a] μ (fun ρ μ11 => ∃ r12 : Int32, ρ = .int r12 ∧ (Q (.int r12) μ11)))) ∧
(¬ b = 5 → ((b = 6 → (Call d y_X_item [.ref 3, .int (μ.1 2 3), .int a] μ (fun ρ μ13 => ∃ r14 : Int32, ρ = .int r14 ∧ (Q (.int r14) μ13)))) ∧
(¬ b = 6 → ((b = 7 → (Call d y_X_item [.ref 4, .int (μ.1 2 3), .int a] μ (fun ρ μ15 => ∃ r16 : Int32, ρ = .int r16 ∧ (Q (.int r16) μ15)))) ∧
(¬ b = 7 → (Q (.int (-2)) μ))))))))))))))))) : AA (Call d) y_X_told Q 0 [.ref 0, .int a, .int b] [] μ := go_in 11 (code := pr_X_told) (stops := []) rfl rfl hNF
set_option maxRecDepth 20000 in
theorem b_X_word_0 {d : Nat} {Q : QQ} {μ : Mem} {a : Int32} {b : Int32} (hNF : Call d y_X_within [.int a, .int 3] μ (fun ρ μ1 => ∃ r2 : Int32, ρ = .int r2 ∧ ((r2 = 0 → (Q (.int (-2)) μ1)) ∧
(¬ r2 = 0 → (Call d y_Words_lengthOf [.int b] μ1 (fun ρ μ3 => ∃ r4 : Int32, ρ = .int r4 ∧ ((¬ r4 = 0 → (Call d y_Words_add [.ref 2, .int a, .int b] μ3 (fun ρ μ5 => ∃ r6 : Int32, ρ = .int r6 ∧ (Q (.int r6) μ5)))) ∧
(r4 = 0 → (Q (.int (-2)) μ3))))))))) : AA (Call d) y_X_word Q 0 [.ref 0, .int a, .int b] [] μ := go_in 13 (code := pr_X_word) (stops := []) rfl rfl hNF
set_option maxRecDepth 20000 in
theorem b_X_writer_0 {d : Nat} {Q : QQ} {μ : Mem} {a : Int32} {b : Int32} {c : Int32} (hNF : Call d y_Writers_add [.ref 16, .int a, .int b, .int c] μ (fun ρ μ1 => ∃ r2 : Int32, ρ = .int r2 ∧ (Q (.int r2) μ1))) : AA (Call d) y_X_writer Q 0 [.ref 0, .int a, .int b, .int c] [] μ := go_in 7 (code := pr_X_writer) (stops := []) rfl rfl hNF
set_option maxRecDepth 20000 in
theorem b_X_law_0 {d : Nat} {Q : QQ} {μ : Mem} {a : Int32} {b : Int32} (hNF : Call d y_X_within [.int a, .int 5] μ (fun ρ μ1 => ∃ r2 : Int32, ρ = .int r2 ∧ ((r2 = 0 → (Q (.int (-2)) μ1)) ∧
(¬ r2 = 0 → (Call d y_X_within [.int b, .int 9] μ1 (fun ρ μ3 => ∃ r4 : Int32, ρ = .int r4 ∧ ((¬ r4 = 0 → (Call d y_Laws_add [.ref 20, .int a, .int b] μ3 (fun ρ μ5 => ∃ r6 : Int32, ρ = .int r6 ∧ (Q (.int r6) μ5)))) ∧
(r4 = 0 → (Q (.int (-2)) μ3))))))))) : AA (Call d) y_X_law Q 0 [.ref 0, .int a, .int b] [] μ := go_in 14 (code := pr_X_law) (stops := []) rfl rfl hNF
set_option maxRecDepth 20000 in
theorem b_X_rule_0 {d : Nat} {Q : QQ} {μ : Mem} {a : Int32} (hNF : Call d y_X_within [.int a, .int ((μ.1 20 2) - 1)] μ (fun ρ μ1 => ∃ r2 : Int32, ρ = .int r2 ∧ ((¬ r2 = 0 → (∀ μ3 : Mem, μ3 = wI μ1 20 (upd (μ1.1 20) 3 a) → (Q (.int (μ1.1 20 3)) μ3))) ∧
(r2 = 0 → (Q (.int (-2)) μ1))))) : AA (Call d) y_X_rule Q 0 [.ref 0, .int a, un] [] μ := go_in 18 (code := pr_X_rule) (stops := []) rfl rfl hNF
set_option maxRecDepth 20000 in
theorem b_X_feed_0 {d : Nat} {Q : QQ} {μ : Mem} {a : Int32} (hNF : Call d y_X_within [.int a, .int 255] μ (fun ρ μ1 => ∃ r2 : Int32, ρ = .int r2 ∧ ((¬ r2 = 0 → (Call d y_Reader_append [.ref 23, .int a] μ1 (fun ρ μ3 => ∃ r4 : Int32, ρ = .int r4 ∧ ((r4 = 0 → (Q (.int (-4)) μ3)) ∧
(¬ r4 = 0 → (Q (.int (μ3.1 23 1)) μ3)))))) ∧
(r2 = 0 → (Q (.int (-2)) μ1))))) : AA (Call d) y_X_feed Q 0 [.ref 0, .int a] [] μ := go_in 14 (code := pr_X_feed) (stops := []) rfl rfl hNF
set_option maxRecDepth 20000 in
theorem b_X_text_0 {d : Nat} {Q : QQ} {μ : Mem} (hNF : ((μ.1 27 4) < 6 → (Call d y_Reader_read [.ref 23] μ (fun ρ μ1 => ∃ r2 : Int32, ρ = .int r2 ∧ ((r2 = (-1) → (Call d y_Texts_add [.ref 27, .ref 25, .ref 26] μ1 (fun ρ μ3 => ∃ r4 : Int32, ρ = .int r4 ∧ (Q (.int r4) μ3)))) ∧
(¬ r2 = (-1) → (Q (.int ((-100) - r2)) μ1)))))) ∧
(¬ (μ.1 27 4) < 6 → (Q (.int (-4)) μ))) : AA (Call d) y_X_text Q 0 [.ref 0, un] [] μ := go_in 22 (code := pr_X_text) (stops := []) rfl rfl hNF
set_option maxRecDepth 20000 in
theorem b_X_force_0 {d : Nat} {Q : QQ} {μ : Mem} {a : Int32} (hNF : Call d y_X_within [.int a, .int ((μ.1 27 4) - 1)] μ (fun ρ μ1 => ∃ r2 : Int32, ρ = .int r2 ∧ ((¬ r2 = 0 → (∀ μ3 : Mem, μ3 = wI μ1 27 (upd (μ1.1 27) 5 a) → (Q (.int (μ1.1 27 5)) μ3))) ∧
(r2 = 0 → (Q (.int (-2)) μ1))))) : AA (Call d) y_X_force Q 0 [.ref 0, .int a, un] [] μ := go_in 18 (code := pr_X_force) (stops := []) rfl rfl hNF
set_option maxRecDepth 20000 in
theorem b_X_costs_0 {d : Nat} {Q : QQ} {μ : Mem} {a : Int32} {b : Int32} (hNF : Call d y_X_within [.int a, .int ((μ.1 2 3) - 1)] μ (fun ρ μ1 => ∃ r2 : Int32, ρ = .int r2 ∧ ((r2 = 0 → (Q (.int (-2)) μ1)) ∧
(¬ r2 = 0 → (Call d y_X_within [.int b, .int 23] μ1 (fun ρ μ3 => ∃ r4 : Int32, ρ = .int r4 ∧ ((¬ r4 = 0 → (Call d y_Day_dawn [.ref 44] μ3 (fun _ μ5 => (Call d y_Day_costOf [.ref 44, .int a, .int b] μ5 (fun ρ μ6 => ∃ r7 : Int32, ρ = .int r7 ∧ (Q (.int r7) μ6)))))) ∧
(r4 = 0 → (Q (.int (-2)) μ3))))))))) : AA (Call d) y_X_costs Q 0 [.ref 0, .int a, .int b] [] μ := go_in 21 (code := pr_X_costs) (stops := []) rfl rfl hNF
set_option maxRecDepth 20000 in
theorem b_X_write_0 {d : Nat} {Q : QQ} {μ : Mem} {a : Int32} {b : Int32} (hNF : Call d y_X_within [.int a, .int ((μ.1 2 3) - 1)] μ (fun ρ μ1 => ∃ r2 : Int32, ρ = .int r2 ∧ ((r2 = 0 → (Q (.int (-2)) μ1)) ∧
(¬ r2 = 0 → (Call d y_X_within [.int b, .int 23] μ1 (fun ρ μ3 => ∃ r4 : Int32, ρ = .int r4 ∧ ((¬ r4 = 0 → (Call d y_Day_dawn [.ref 44] μ3 (fun _ μ5 => (Call d y_Day_costOf [.ref 44, .int a, .int b] μ5 (fun ρ μ6 => ∃ r7 : Int32, ρ = .int r7 ∧ (Call d y_Words_spend [.ref 2, .int a, .ref 1] μ6 (fun _ μ8 => (Q (.int r7) μ8)))))))) ∧
(r4 = 0 → (Q (.int (-2)) μ3))))))))) : AA (Call d) y_X_write Q 0 [.ref 0, .int a, .int b, un] [] μ := go_in 29 (code := pr_X_write) (stops := []) rfl rfl hNF
set_option maxRecDepth 20000 in
theorem b_X_pass_0 {d : Nat} {Q : QQ} {μ : Mem} {a : Int32} (hNF : Call d y_X_within [.int a, .int 24] μ (fun ρ μ1 => ∃ r2 : Int32, ρ = .int r2 ∧ ((¬ r2 = 0 → (AA (Call d) y_X_pass Q 8 [.ref 0, .int a, .int 0] [] μ1)) ∧
(r2 = 0 → (Q (.int (-2)) μ1))))) : AA (Call d) y_X_pass Q 0 [.ref 0, .int a, un] [] μ := go_in 7 (code := pr_X_pass) (stops := [8]) rfl rfl hNF
set_option maxRecDepth 20000 in
theorem b_X_pass_8 {d : Nat} {Q : QQ} {μ : Mem} {l1 : Int32} {l2 : Int32} (hNF : (l1 ≤ l2 → (Call d y_X_sum [.ref 1] μ (fun ρ μ1 => ∃ r2 : Int32, ρ = .int r2 ∧ (Q (.int r2) μ1)))) ∧
(¬ l1 ≤ l2 → (Call d y_Laws_age [.ref 20, .int (μ.1 20 3), .ref 1] μ (fun _ μ3 => (AA (Call d) y_X_pass Q 8 [.ref 0, .int l1, .int (l2 + 1)] [] μ3))))) : AA (Call d) y_X_pass Q 8 [.ref 0, .int l1, .int l2] [] μ := go_in 14 (code := pr_X_pass) (stops := [8]) rfl rfl hNF
set_option maxRecDepth 20000 in
theorem b_X_cheapest_0 {d : Nat} {Q : QQ} {μ : Mem} {a : Int32} {b : Int32} {c : Int32} (hNF : Call d y_X_within [.int a, .int 3] μ (fun ρ μ1 => ∃ r2 : Int32, ρ = .int r2 ∧ ((r2 = 0 → (Q (.int (-2)) μ1)) ∧
(¬ r2 = 0 → (Call d y_X_within [.int b, .int 23] μ1 (fun ρ μ3 => ∃ r4 : Int32, ρ = .int r4 ∧ ((r4 = 0 → (Q (.int (-2)) μ3)) ∧
(¬ r4 = 0 → (Call d y_X_within [.int c, .int 1] μ3 (fun ρ μ5 => ∃ r6 : Int32, ρ = .int r6 ∧ ((¬ r6 = 0 → (Call d y_Day_dawn [.ref 44] μ5 (fun _ μ7 => (AA (Call d) y_X_cheapest Q 23 [.ref 0, .int a, .int b, .int c, .int (-1), .int (-1), .int 0, un] [] μ7)))) ∧
(r6 = 0 → (Q (.int (-2)) μ5))))))))))))) : AA (Call d) y_X_cheapest Q 0 [.ref 0, .int a, .int b, .int c, un, un, un, un] [] μ := go_in 22 (code := pr_X_cheapest) (stops := [23]) rfl rfl hNF
set_option maxRecDepth 20000 in
theorem b_X_cheapest_23 {d : Nat} {Q : QQ} {μ : Mem} {l1 : Int32} {l2 : Int32} {l3 : Int32} {l4 : Int32} {l5 : Int32} {l6 : Int32} (hNF : ((μ.1 2 3) ≤ l6 → ((¬ l3 = 0 → (Q (.int l5) μ)) ∧
(l3 = 0 → (Q (.int l4) μ)))) ∧
(¬ (μ.1 2 3) ≤ l6 → (vp_in l6 10 ∧ (((μ.1 3 l6.toNatClampNeg) = l1 → (Call d y_Day_costOf [.ref 44, .int l6, .int l2] μ (fun ρ μ1 => ∃ r2 : Int32, ρ = .int r2 ∧ ((l4 = (-1) → (AA (Call d) y_X_cheapest Q 23 [.ref 0, .int l1, .int l2, .int l3, .int l6, .int r2, .int (l6 + 1), .int r2] [] μ1)) ∧
(¬ l4 = (-1) → ((l5 ≤ r2 → (AA (Call d) y_X_cheapest Q 23 [.ref 0, .int l1, .int l2, .int l3, .int l4, .int l5, .int (l6 + 1), .int r2] [] μ1)) ∧
(¬ l5 ≤ r2 → (AA (Call d) y_X_cheapest Q 23 [.ref 0, .int l1, .int l2, .int l3, .int l6, .int r2, .int (l6 + 1), .int r2] [] μ1)))))))) ∧
(¬ (μ.1 3 l6.toNatClampNeg) = l1 → (AA (Call d) y_X_cheapest Q 23 [.ref 0, .int l1, .int l2, .int l3, .int l4, .int l5, .int (l6 + 1), un] [] μ)))))) : AA (Call d) y_X_cheapest Q 23 [.ref 0, .int l1, .int l2, .int l3, .int l4, .int l5, .int l6, un] [] μ := go_in 31 (code := pr_X_cheapest) (stops := [23]) rfl rfl hNF
set_option maxRecDepth 20000 in
theorem b_X_day_0 {d : Nat} {Q : QQ} {μ : Mem} {a : Int32} {b : Int32} (hNF : Call d y_X_within [.int a, .int ((μ.1 16 3) - 1)] μ (fun ρ μ1 => ∃ r2 : Int32, ρ = .int r2 ∧ ((r2 = 0 → (Q (.int (-100000)) μ1)) ∧
(¬ r2 = 0 → (Call d y_X_within [.int b, .int 2] μ1 (fun ρ μ3 => ∃ r4 : Int32, ρ = .int r4 ∧ ((¬ r4 = 0 → (Call d y_Day_dawn [.ref 44] μ3 (fun _ μ5 => (Call d y_Day_live [.ref 44] μ5 (fun _ μ6 => ((¬ b = 0 → ((¬ b = 1 → (vp_in a 5 ∧ (Q (.int (μ6.1 49 a.toNatClampNeg)) μ6))) ∧
(b = 1 → (vp_in a 5 ∧ (Q (.int (μ6.1 47 a.toNatClampNeg)) μ6))))) ∧
(b = 0 → (vp_in a 5 ∧ (Q (.int (μ6.1 48 a.toNatClampNeg)) μ6))))))))) ∧
(r4 = 0 → (Q (.int (-100000)) μ3))))))))) : AA (Call d) y_X_day Q 0 [.ref 0, .int a, .int b] [] μ := go_in 30 (code := pr_X_day) (stops := []) rfl rfl hNF
set_option maxRecDepth 20000 in
theorem b_X_all_0 {d : Nat} {Q : QQ} {μ : Mem} {a : Int32} (hNF : Call d y_X_within [.int a, .int 3] μ (fun ρ μ1 => ∃ r2 : Int32, ρ = .int r2 ∧ ((¬ r2 = 0 → (Call d y_Day_dawn [.ref 44] μ1 (fun _ μ3 => (Call d y_Day_live [.ref 44] μ3 (fun _ μ4 => ((a = 0 → (Call d y_Day_allGood [.ref 44] μ4 (fun ρ μ5 => ∃ r6 : Int32, ρ = .int r6 ∧ (Q (.int r6) μ5)))) ∧
(¬ a = 0 → ((a = 1 → (Call d y_Day_howManySaid [.ref 44] μ4 (fun ρ μ7 => ∃ r8 : Int32, ρ = .int r8 ∧ (Q (.int r8) μ7)))) ∧
(¬ a = 1 → ((a = 2 → (Call d y_Day_spread [.ref 44] μ4 (fun ρ μ9 => ∃ r10 : Int32, ρ = .int r10 ∧ (Q (.int r10) μ9)))) ∧
(¬ a = 2 → (Call d y_Day_allPaid [.ref 44] μ4 (fun ρ μ11 => ∃ r12 : Int32, ρ = .int r12 ∧ (Q (.int r12) μ11)))))))))))))) ∧
(r2 = 0 → (Q (.int (-100000)) μ1))))) : AA (Call d) y_X_all Q 0 [.ref 0, .int a] [] μ := go_in 16 (code := pr_X_all) (stops := []) rfl rfl hNF
set_option maxRecDepth 20000 in
theorem b_X_when_0 {d : Nat} {Q : QQ} {μ : Mem} {a : Int32} {b : Int32} (hNF : Call d y_X_within [.int a, .int ((μ.1 16 3) - 1)] μ (fun ρ μ1 => ∃ r2 : Int32, ρ = .int r2 ∧ ((r2 = 0 → (Q (.int (-100000)) μ1)) ∧
(¬ r2 = 0 → (Call d y_X_within [.int b, .int 1] μ1 (fun ρ μ3 => ∃ r4 : Int32, ρ = .int r4 ∧ ((¬ r4 = 0 → (Call d y_Day_tryHours [.ref 44, .int a] μ3 (fun _ μ5 => (Call d y_X_firstMost [.ref 50] μ5 (fun ρ μ6 => ∃ r7 : Int32, ρ = .int r7 ∧ ((¬ b = 0 → (vp_in r7 24 ∧ (Q (.int (μ6.1 50 r7.toNatClampNeg)) μ6))) ∧
(b = 0 → (Q (.int r7) μ6)))))))) ∧
(r4 = 0 → (Q (.int (-100000)) μ3))))))))) : AA (Call d) y_X_when Q 0 [.ref 0, .int a, .int b, un] [] μ := go_in 29 (code := pr_X_when) (stops := []) rfl rfl hNF
set_option maxRecDepth 20000 in
theorem b_X_choose_0 {d : Nat} {Q : QQ} {μ : Mem} {a : Int32} (hNF : Call d y_X_within [.int a, .int ((μ.1 16 3) - 1)] μ (fun ρ μ1 => ∃ r2 : Int32, ρ = .int r2 ∧ ((¬ r2 = 0 → (Call d y_Day_tryHours [.ref 44, .int a] μ1 (fun _ μ3 => (Call d y_X_firstMost [.ref 50] μ3 (fun ρ μ4 => ∃ r5 : Int32, ρ = .int r5 ∧ (vp_in a 5 ∧ ∀ μ6 : Mem, μ6 = wI μ4 18 (upd (μ4.1 18) a.toNatClampNeg r5) → (vp_in r5 24 ∧ (Q (.int (μ6.1 50 r5.toNatClampNeg)) μ6)))))))) ∧
(r2 = 0 → (Q (.int (-100000)) μ1))))) : AA (Call d) y_X_choose Q 0 [.ref 0, .int a, un] [] μ := go_in 29 (code := pr_X_choose) (stops := []) rfl rfl hNF
set_option maxRecDepth 20000 in
theorem b_X_rest_0 {d : Nat} {Q : QQ} {μ : Mem} (hNF : AA (Call d) y_X_rest Q 2 [.ref 0, .int 0, un] [] μ) : AA (Call d) y_X_rest Q 0 [.ref 0, un, un] [] μ := go_in 3 (code := pr_X_rest) (stops := [2]) rfl rfl hNF
set_option maxRecDepth 20000 in
theorem b_X_rest_2 {d : Nat} {Q : QQ} {μ : Mem} {l1 : Int32} (hNF : ((μ.1 16 3) ≤ l1 → (Q (.int 1) μ)) ∧
(¬ (μ.1 16 3) ≤ l1 → (Call d y_Day_tryHours [.ref 44, .int l1] μ (fun _ μ1 => (Call d y_X_firstMost [.ref 50] μ1 (fun ρ μ2 => ∃ r3 : Int32, ρ = .int r3 ∧ (vp_in r3 24 ∧ (vp_in l1 5 ∧ (vp_in (μ2.1 18 l1.toNatClampNeg) 24 ∧ (((μ2.1 50 r3.toNatClampNeg) ≤ (μ2.1 50 (Int32.toNatClampNeg (μ2.1 18 l1.toNatClampNeg))) → (AA (Call d) y_X_rest Q 2 [.ref 0, .int (l1 + 1), .int (μ2.1 50 r3.toNatClampNeg)] [] μ2)) ∧
(¬ (μ2.1 50 r3.toNatClampNeg) ≤ (μ2.1 50 (Int32.toNatClampNeg (μ2.1 18 l1.toNatClampNeg))) → (Q (.int 0) μ2)))))))))))) : AA (Call d) y_X_rest Q 2 [.ref 0, .int l1, un] [] μ := go_in 32 (code := pr_X_rest) (stops := [2]) rfl rfl hNF
set_option maxRecDepth 20000 in
theorem b_X_turns_0 {d : Nat} {Q : QQ} {μ : Mem} {a : Int32} (hNF : Call d y_X_within [.int a, .int 1] μ (fun ρ μ1 => ∃ r2 : Int32, ρ = .int r2 ∧ ((¬ r2 = 0 → (AA (Call d) y_X_turns Q 24 [.ref 0, .int a, .int (if 4 < μ1.1 16 3 then 4 else μ1.1 16 3), .int (-1), .int 0, .int (1 <<< ((2 * (if 4 < μ1.1 16 3 then 4 else μ1.1 16 3)) &&& 31)), .int 0, un] [] μ1)) ∧
(r2 = 0 → (Q (.int (-100000)) μ1))))) : AA (Call d) y_X_turns Q 0 [.ref 0, .int a, un, un, un, un, un, un] [] μ := go_in 23 (code := pr_X_turns) (stops := [24, 37]) rfl rfl hNF
set_option maxRecDepth 20000 in
theorem b_X_turns_24 {d : Nat} {Q : QQ} {μ : Mem} {l1 : Int32} {l2 : Int32} {l3 : Int32} {l4 : Int32} {l5 : Int32} {l6 : Int32} (hNF : (l5 ≤ l6 → ((¬ l1 = 0 → (Call d y_X_digits [.int l3, .int l2] μ (fun ρ μ1 => ∃ r2 : Int32, ρ = .int r2 ∧ (Q (.int r2) μ1)))) ∧
(l1 = 0 → (Q (.int l4) μ)))) ∧
(¬ l5 ≤ l6 → (Call d y_X_isTurn [.int l6, .int l2] μ (fun ρ μ3 => ∃ r4 : Int32, ρ = .int r4 ∧ ((¬ r4 = 0 → (Call d y_Day_dawn [.ref 44] μ3 (fun _ μ5 => (AA (Call d) y_X_turns Q 37 [.ref 0, .int l1, .int l2, .int l3, .int l4, .int l5, .int l6, .int 0] [] μ5)))) ∧
(r4 = 0 → (AA (Call d) y_X_turns Q 24 [.ref 0, .int l1, .int l2, .int l3, .int l4, .int l5, .int (l6 + 1), un] [] μ3))))))) : AA (Call d) y_X_turns Q 24 [.ref 0, .int l1, .int l2, .int l3, .int l4, .int l5, .int l6, un] [] μ := go_in 13 (code := pr_X_turns) (stops := [24, 37]) rfl rfl hNF
set_option maxRecDepth 20000 in
theorem b_X_turns_37 {d : Nat} {Q : QQ} {μ : Mem} {l1 : Int32} {l2 : Int32} {l3 : Int32} {l4 : Int32} {l5 : Int32} {l6 : Int32} {l7 : Int32} (hNF : (l2 ≤ l7 → (Call d y_Day_live [.ref 44] μ (fun _ μ1 => (Call d y_Day_allGood [.ref 44] μ1 (fun ρ μ2 => ∃ r3 : Int32, ρ = .int r3 ∧ ((l3 = (-1) → (AA (Call d) y_X_turns Q 24 [.ref 0, .int l1, .int l2, .int l6, .int r3, .int l5, .int (l6 + 1), .int r3] [] μ2)) ∧
(¬ l3 = (-1) → ((r3 ≤ l4 → (AA (Call d) y_X_turns Q 24 [.ref 0, .int l1, .int l2, .int l3, .int l4, .int l5, .int (l6 + 1), .int r3] [] μ2)) ∧
(¬ r3 ≤ l4 → (AA (Call d) y_X_turns Q 24 [.ref 0, .int l1, .int l2, .int l6, .int r3, .int l5, .int (l6 + 1), .int r3] [] μ2)))))))))) ∧
(¬ l2 ≤ l7 → (Call d y_X_whoseHour [.int l6, .int l7, .int l2] μ (fun ρ μ4 => ∃ r5 : Int32, ρ = .int r5 ∧ (vp_in r5 5 ∧ (vp_in l7 5 ∧ ∀ μ6 : Mem, μ6 = wI μ4 46 (upd (μ4.1 46) l7.toNatClampNeg (μ4.1 18 r5.toNatClampNeg)) → (AA (Call d) y_X_turns Q 37 [.ref 0, .int l1, .int l2, .int l3, .int l4, .int l5, .int l6, .int (l7 + 1)] [] μ6))))))) : AA (Call d) y_X_turns Q 37 [.ref 0, .int l1, .int l2, .int l3, .int l4, .int l5, .int l6, .int l7] [] μ := go_in 23 (code := pr_X_turns) (stops := [24, 37]) rfl rfl hNF
set_option maxRecDepth 20000 in
theorem b_X_burn_0 {d : Nat} {Q : QQ} {μ : Mem} {a : Int32} {b : Int32} (hNF : Call d y_X_within [.int a, .int 7] μ (fun ρ μ1 => ∃ r2 : Int32, ρ = .int r2 ∧ ((r2 = 0 → (Q (.int (-100000)) μ1)) ∧
(¬ r2 = 0 → (Call d y_X_within [.int (b - 1), .int 19] μ1 (fun ρ μ3 => ∃ r4 : Int32, ρ = .int r4 ∧ ((¬ r4 = 0 → (Call d y_Day_goodIfBurned [.ref 44, .int a, .int 0] μ3 (fun ρ μ5 => ∃ r6 : Int32, ρ = .int r6 ∧ (Call d y_Day_goodIfBurned [.ref 44, .int a, .int b] μ5 (fun ρ μ7 => ∃ r8 : Int32, ρ = .int r8 ∧ (Q (.int (r6 - r8)) μ7)))))) ∧
(r4 = 0 → (Q (.int (-100000)) μ3))))))))) : AA (Call d) y_X_burn Q 0 [.ref 0, .int a, .int b] [] μ := go_in 22 (code := pr_X_burn) (stops := []) rfl rfl hNF
set_option maxRecDepth 20000 in
theorem b_X_worst_0 {d : Nat} {Q : QQ} {μ : Mem} {a : Int32} {b : Int32} (hNF : Call d y_X_within [.int (a - 1), .int 19] μ (fun ρ μ1 => ∃ r2 : Int32, ρ = .int r2 ∧ ((r2 = 0 → (Q (.int (-100000)) μ1)) ∧
(¬ r2 = 0 → (Call d y_X_within [.int b, .int 1] μ1 (fun ρ μ3 => ∃ r4 : Int32, ρ = .int r4 ∧ ((¬ r4 = 0 → (Call d y_Day_goodIfBurned [.ref 44, .int 0, .int 0] μ3 (fun ρ μ5 => ∃ r6 : Int32, ρ = .int r6 ∧ (Call d y_Day_goodIfBurned [.ref 44, .int 0, .int a] μ5 (fun ρ μ7 => ∃ r8 : Int32, ρ = .int r8 ∧ (AA (Call d) y_X_worst Q 30 [.ref 0, .int a, .int b, .int r6, .int 0, .int (r6 - r8), .int 1, un] [] μ7)))))) ∧
(r4 = 0 → (Q (.int (-100000)) μ3))))))))) : AA (Call d) y_X_worst Q 0 [.ref 0, .int a, .int b, un, un, un, un, un] [] μ := go_in 29 (code := pr_X_worst) (stops := [30]) rfl rfl hNF
set_option maxRecDepth 20000 in
theorem b_X_worst_30 {d : Nat} {Q : QQ} {μ : Mem} {l1 : Int32} {l2 : Int32} {l3 : Int32} {l4 : Int32} {l5 : Int32} {l6 : Int32} (hNF : ((8 : Int32) ≤ l6 → ((¬ l2 = 0 → (Q (.int l5) μ)) ∧
(l2 = 0 → (Q (.int l4) μ)))) ∧
(¬ (8 : Int32) ≤ l6 → (Call d y_Day_goodIfBurned [.ref 44, .int l6, .int l1] μ (fun ρ μ1 => ∃ r2 : Int32, ρ = .int r2 ∧ (((l3 - r2) ≤ l5 → (AA (Call d) y_X_worst Q 30 [.ref 0, .int l1, .int l2, .int l3, .int l4, .int l5, .int (l6 + 1), .int (l3 - r2)] [] μ1)) ∧
(¬ (l3 - r2) ≤ l5 → (AA (Call d) y_X_worst Q 30 [.ref 0, .int l1, .int l2, .int l3, .int l6, .int (l3 - r2), .int (l6 + 1), .int (l3 - r2)] [] μ1))))))) : AA (Call d) y_X_worst Q 30 [.ref 0, .int l1, .int l2, .int l3, .int l4, .int l5, .int l6, un] [] μ := go_in 21 (code := pr_X_worst) (stops := [30]) rfl rfl hNF
set_option maxRecDepth 20000 in
theorem b_X_best_0 {d : Nat} {Q : QQ} {μ : Mem} {a : Int32} (hNF : Call d y_X_within [.int a, .int 2] μ (fun ρ μ1 => ∃ r2 : Int32, ρ = .int r2 ∧ ((¬ r2 = 0 → (AA (Call d) y_X_best Q 14 [.ref 0, .int a, .int (-1), .int 0, .int 0, .int 0, un, un] [] μ1)) ∧
(r2 = 0 → (Q (.int (-100000)) μ1))))) : AA (Call d) y_X_best Q 0 [.ref 0, .int a, un, un, un, un, un, un] [] μ := go_in 13 (code := pr_X_best) (stops := [14]) rfl rfl hNF
set_option maxRecDepth 20000 in
theorem b_X_best_14 {d : Nat} {Q : QQ} {μ : Mem} {l1 : Int32} {l2 : Int32} {l3 : Int32} {l4 : Int32} {l5 : Int32} (hNF : ((μ.1 20 2) ≤ l5 → ((¬ l1 = 0 → ((¬ l1 = 1 → (Q (.int l4) μ)) ∧
(l1 = 1 → (Q (.int l3) μ)))) ∧
(l1 = 0 → (Q (.int l2) μ)))) ∧
(¬ (μ.1 20 2) ≤ l5 → (Call d y_Day_dawn [.ref 44] μ (fun _ μ1 => (∀ μ2 : Mem, μ2 = wI μ1 44 (upd (μ1.1 44) 7 l5) → (Call d y_Day_live [.ref 44] μ2 (fun _ μ3 => (Call d y_Day_howManySaid [.ref 44] μ3 (fun ρ μ4 => ∃ r5 : Int32, ρ = .int r5 ∧ (Call d y_Day_allGood [.ref 44] μ4 (fun ρ μ6 => ∃ r7 : Int32, ρ = .int r7 ∧ ((l2 = (-1) → (AA (Call d) y_X_best Q 14 [.ref 0, .int l1, .int l5, .int r5, .int r7, .int (l5 + 1), .int r5, .int r7] [] μ6)) ∧
(¬ l2 = (-1) → ((l3 < r5 → (AA (Call d) y_X_best Q 14 [.ref 0, .int l1, .int l5, .int r5, .int r7, .int (l5 + 1), .int r5, .int r7] [] μ6)) ∧
(¬ l3 < r5 → ((¬ r5 = l3 → (AA (Call d) y_X_best Q 14 [.ref 0, .int l1, .int l2, .int l3, .int l4, .int (l5 + 1), .int r5, .int r7] [] μ6)) ∧
(r5 = l3 → ((r7 ≤ l4 → (AA (Call d) y_X_best Q 14 [.ref 0, .int l1, .int l2, .int l3, .int l4, .int (l5 + 1), .int r5, .int r7] [] μ6)) ∧
(¬ r7 ≤ l4 → (AA (Call d) y_X_best Q 14 [.ref 0, .int l1, .int l5, .int r5, .int r7, .int (l5 + 1), .int r5, .int r7] [] μ6)))))))))))))))))))) : AA (Call d) y_X_best Q 14 [.ref 0, .int l1, .int l2, .int l3, .int l4, .int l5, un, un] [] μ := go_in 44 (code := pr_X_best) (stops := [14]) rfl rfl hNF
set_option maxRecDepth 20000 in
theorem b_X_judge_0 {d : Nat} {Q : QQ} {μ : Mem} {a : Int32} (hNF : Call d y_X_refusalToJudge [.ref 0, .int a] μ (fun ρ μ1 => ∃ r2 : Int32, ρ = .int r2 ∧ ((r2 = 0 → (Call d y_Day_dawn [.ref 44] μ1 (fun _ μ3 => (Call d y_Day_live [.ref 44] μ3 (fun _ μ4 => (vp_in a 4 ∧ (Call d y_Day_firstUnlike [.ref 44, .ref (61 + a.toNatClampNeg)] μ4 (fun ρ μ5 => ∃ r6 : Int32, ρ = .int r6 ∧ (Q (.int r6) μ5))))))))) ∧
(¬ r2 = 0 → (Q (.int r2) μ1))))) : AA (Call d) y_X_judge Q 0 [.ref 0, .int a, un] [] μ := go_in 21 (code := pr_X_judge) (stops := []) rfl rfl hNF
set_option maxRecDepth 20000 in
theorem b_X_fits_0 {d : Nat} {Q : QQ} {μ : Mem} {a : Int32} {b : Int32} (hNF : Call d y_X_within [.int a, .int ((μ.1 16 3) - 1)] μ (fun ρ μ1 => ∃ r2 : Int32, ρ = .int r2 ∧ ((r2 = 0 → (Q (.int (-2)) μ1)) ∧
(¬ r2 = 0 → (Call d y_X_within [.int b, .int 9999] μ1 (fun ρ μ3 => ∃ r4 : Int32, ρ = .int r4 ∧ ((¬ r4 = 0 → (Call d y_Day_dawn [.ref 44] μ3 (fun _ μ5 => (Call d y_Day_liveTo [.ref 44, .int a] μ5 (fun _ μ6 => (AA (Call d) y_X_fits Q 25 [.ref 0, .int a, .int b, .int 0, .int 0] [] μ6)))))) ∧
(r4 = 0 → (Q (.int (-2)) μ3))))))))) : AA (Call d) y_X_fits Q 0 [.ref 0, .int a, .int b, un, un] [] μ := go_in 24 (code := pr_X_fits) (stops := [25]) rfl rfl hNF
set_option maxRecDepth 20000 in
theorem b_X_fits_25 {d : Nat} {Q : QQ} {μ : Mem} {l1 : Int32} {l2 : Int32} {l3 : Int32} {l4 : Int32} (hNF : ((μ.1 2 3) ≤ l4 → (Q (.int l3) μ)) ∧
(¬ (μ.1 2 3) ≤ l4 → (vp_in l4 10 ∧ (vp_in l1 5 ∧ (((μ.1 3 l4.toNatClampNeg) = (μ.1 17 l1.toNatClampNeg) → (vp_in l1 5 ∧ (Call d y_Day_costOf [.ref 44, .int l4, .int (μ.1 18 l1.toNatClampNeg)] μ (fun ρ μ1 => ∃ r2 : Int32, ρ = .int r2 ∧ ((¬ r2 = l2 → (AA (Call d) y_X_fits Q 25 [.ref 0, .int l1, .int l2, .int l3, .int (l4 + 1)] [] μ1)) ∧
(r2 = l2 → (AA (Call d) y_X_fits Q 25 [.ref 0, .int l1, .int l2, .int (l3 ||| (1 <<< (l4 &&& 31))), .int (l4 + 1)] [] μ1))))))) ∧
(¬ (μ.1 3 l4.toNatClampNeg) = (μ.1 17 l1.toNatClampNeg) → (AA (Call d) y_X_fits Q 25 [.ref 0, .int l1, .int l2, .int l3, .int (l4 + 1)] [] μ))))))) : AA (Call d) y_X_fits Q 25 [.ref 0, .int l1, .int l2, .int l3, .int l4] [] μ := go_in 36 (code := pr_X_fits) (stops := [25]) rfl rfl hNF
set_option maxRecDepth 20000 in
theorem b_X_whose_0 {d : Nat} {Q : QQ} {μ : Mem} {a : Int32} (hNF : Call d y_X_refusalToJudge [.ref 0, .int a] μ (fun ρ μ1 => ∃ r2 : Int32, ρ = .int r2 ∧ ((r2 = 0 → (AA (Call d) y_X_whose Q 12 [.ref 0, .int a, .int r2, .int 0, .int 0] [] μ1)) ∧
(¬ r2 = 0 → (Q (.int r2) μ1))))) : AA (Call d) y_X_whose Q 0 [.ref 0, .int a, un, un, un] [] μ := go_in 11 (code := pr_X_whose) (stops := [12]) rfl rfl hNF
set_option maxRecDepth 20000 in
theorem b_X_whose_12 {d : Nat} {Q : QQ} {μ : Mem} {l1 : Int32} {l2 : Int32} {l3 : Int32} {l4 : Int32} (hNF : ((μ.1 20 2) ≤ l4 → (Q (.int l3) μ)) ∧
(¬ (μ.1 20 2) ≤ l4 → (Call d y_Day_dawn [.ref 44] μ (fun _ μ1 => (∀ μ2 : Mem, μ2 = wI μ1 44 (upd (μ1.1 44) 7 l4) → (Call d y_Day_live [.ref 44] μ2 (fun _ μ3 => (vp_in l1 4 ∧ (Call d y_Day_firstUnlike [.ref 44, .ref (61 + l1.toNatClampNeg)] μ3 (fun ρ μ4 => ∃ r5 : Int32, ρ = .int r5 ∧ ((¬ r5 = (-1) → (AA (Call d) y_X_whose Q 12 [.ref 0, .int l1, .int l2, .int l3, .int (l4 + 1)] [] μ4)) ∧
(r5 = (-1) → (AA (Call d) y_X_whose Q 12 [.ref 0, .int l1, .int l2, .int (l3 ||| (1 <<< (l4 &&& 31))), .int (l4 + 1)] [] μ4))))))))))))) : AA (Call d) y_X_whose Q 12 [.ref 0, .int l1, .int l2, .int l3, .int l4] [] μ := go_in 34 (code := pr_X_whose) (stops := [12]) rfl rfl hNF
set_option maxRecDepth 20000 in
theorem b_X_drawn_0 {d : Nat} {Q : QQ} {μ : Mem} {a : Int32} (hNF : Call d y_Day_dawn [.ref 44] μ (fun _ μ1 => (Call d y_Day_draw [.ref 44, .int a] μ1 (fun _ μ2 => (Call d y_Day_live [.ref 44] μ2 (fun _ μ3 => (Call d y_Day_allGood [.ref 44] μ3 (fun ρ μ4 => ∃ r5 : Int32, ρ = .int r5 ∧ (Q (.int r5) μ4))))))))) : AA (Call d) y_X_drawn Q 0 [.ref 0, .int a] [] μ := go_in 14 (code := pr_X_drawn) (stops := []) rfl rfl hNF
set_option maxRecDepth 20000 in
theorem b_X_chance_0 {d : Nat} {Q : QQ} {μ : Mem} {a : Int32} {b : Int32} {c : Int32} (hNF : Call d y_X_within [.int (b - 1), .int 19] μ (fun ρ μ1 => ∃ r2 : Int32, ρ = .int r2 ∧ ((r2 = 0 → (Q (.long (-4611686018427387904)) μ1)) ∧
(¬ r2 = 0 → (Call d y_X_within [.int c, .int 1] μ1 (fun ρ μ3 => ∃ r4 : Int32, ρ = .int r4 ∧ ((¬ r4 = 0 → (AA (Call d) y_X_chance Q 16 [.ref 0, .int a, .int b, .int c, .int 0, .int 0] [] μ3)) ∧
(r4 = 0 → (Q (.long (-4611686018427387904)) μ3))))))))) : AA (Call d) y_X_chance Q 0 [.ref 0, .int a, .int b, .int c, un, un] [] μ := go_in 15 (code := pr_X_chance) (stops := [16]) rfl rfl hNF
set_option maxRecDepth 20000 in
theorem b_X_chance_16 {d : Nat} {Q : QQ} {μ : Mem} {l1 : Int32} {l2 : Int32} {l3 : Int32} {l4 : Int32} {l5 : Int32} (hNF : (l2 ≤ l5 → (Call d y_X_commonDivisor [.int l4, .int l2] μ (fun ρ μ1 => ∃ r2 : Int32, ρ = .int r2 ∧ ((¬ l3 = 0 → (¬ r2 = 0 ∧ (Q (.long (Int32.toInt64 (l2 / r2))) μ1))) ∧
(l3 = 0 → (¬ r2 = 0 ∧ (Q (.long (Int32.toInt64 (l4 / r2))) μ1))))))) ∧
(¬ l2 ≤ l5 → (Call d y_Day_dawn [.ref 44] μ (fun _ μ3 => (Call d y_Day_draw [.ref 44, .int (l1 + l5)] μ3 (fun _ μ4 => (Call d y_Day_live [.ref 44] μ4 (fun _ μ5 => (Call d y_Day_howManySaid [.ref 44] μ5 (fun ρ μ6 => ∃ r7 : Int32, ρ = .int r7 ∧ ((¬ r7 = (μ6.1 16 3) → (AA (Call d) y_X_chance Q 16 [.ref 0, .int l1, .int l2, .int l3, .int l4, .int (l5 + 1)] [] μ6)) ∧
(r7 = (μ6.1 16 3) → (AA (Call d) y_X_chance Q 16 [.ref 0, .int l1, .int l2, .int l3, .int (l4 + 1), .int (l5 + 1)] [] μ6))))))))))))) : AA (Call d) y_X_chance Q 16 [.ref 0, .int l1, .int l2, .int l3, .int l4, .int l5] [] μ := go_in 26 (code := pr_X_chance) (stops := [16]) rfl rfl hNF
set_option maxRecDepth 20000 in
theorem b_X_image_0 {d : Nat} {Q : QQ} {μ : Mem} (hNF : (¬ (0 : Int32) < 0 ∧ ¬ (0 : Int32) < 0 ∧ ¬ (8 : Int32) < 0 ∧ (Int32.toNatClampNeg 0) + (Int32.toNatClampNeg 8) ≤ 8 ∧ (Int32.toNatClampNeg 0) + (Int32.toNatClampNeg 8) ≤ 8 ∧ 0 < 8 ∧ 0 < 8) ∧ ∀ μ1 : Mem, μ1 = wI μ 52 (va_cpy (μ.1 1) (μ.1 52) (Int32.toNatClampNeg 0) (Int32.toNatClampNeg 0) (Int32.toNatClampNeg 8)) → (Call d y_Image_keepWriters [.ref 51, .ref 16] μ1 (fun _ μ2 => (Call d y_Image_keepLaws [.ref 51, .ref 20] μ2 (fun _ μ3 => (∀ μ4 : Mem, μ4 = wI μ3 51 (upd (μ3.1 51) 2 (μ3.1 2 3)) → (∀ μ5 : Mem, μ5 = wI μ4 51 (upd (μ4.1 51) 3 (μ4.1 27 5)) → (narrow .boolean (.int 1) = .int 1 ∧ ∀ μ6 : Mem, μ6 = wI μ5 51 (upd (μ5.1 51) 0 1) → (Q (.int (μ6.1 16 3)) μ6))))))))) : AA (Call d) y_X_image Q 0 [.ref 0] [] μ := go_in 39 (code := pr_X_image) (stops := []) rfl rfl hNF
set_option maxRecDepth 20000 in
theorem b_X_back_0 {d : Nat} {Q : QQ} {μ : Mem} (hNF : (¬ (μ.1 51 0) = 0 → ((¬ (0 : Int32) < 0 ∧ ¬ (0 : Int32) < 0 ∧ ¬ (8 : Int32) < 0 ∧ (Int32.toNatClampNeg 0) + (Int32.toNatClampNeg 8) ≤ 8 ∧ (Int32.toNatClampNeg 0) + (Int32.toNatClampNeg 8) ≤ 8 ∧ 0 < 8 ∧ 0 < 8) ∧ ∀ μ1 : Mem, μ1 = wI μ 1 (va_cpy (μ.1 52) (μ.1 1) (Int32.toNatClampNeg 0) (Int32.toNatClampNeg 0) (Int32.toNatClampNeg 8)) → (Call d y_Image_restoreWriters [.ref 51, .ref 16] μ1 (fun _ μ2 => (Call d y_Image_restoreLaws [.ref 51, .ref 20] μ2 (fun _ μ3 => (∀ μ4 : Mem, μ4 = wI μ3 2 (upd (μ3.1 2) 3 (μ3.1 51 2)) → (∀ μ5 : Mem, μ5 = wI μ4 27 (upd (μ4.1 27) 5 (μ4.1 51 3)) → (Q (.int (μ5.1 16 3)) μ5))))))))) ∧
((μ.1 51 0) = 0 → (Q (.int (-3)) μ))) : AA (Call d) y_X_back Q 0 [.ref 0] [] μ := go_in 39 (code := pr_X_back) (stops := []) rfl rfl hNF
set_option maxRecDepth 20000 in
theorem b_X_count_0 {d : Nat} {Q : QQ} {μ : Mem} {a : Int32} (hNF : (a = 0 → (Q (.int (μ.1 2 3)) μ)) ∧
(¬ a = 0 → ((a = 1 → (Q (.int (μ.1 16 3)) μ)) ∧
(¬ a = 1 → ((a = 2 → (Q (.int (μ.1 20 2)) μ)) ∧
(¬ a = 2 → ((a = 3 → (Q (.int (μ.1 20 3)) μ)) ∧
(¬ a = 3 → ((a = 4 → (Q (.int (μ.1 27 4)) μ)) ∧
(¬ a = 4 → ((a = 5 → (Q (.int (μ.1 23 1)) μ)) ∧
(¬ a = 5 → ((a = 6 → (Q (.int (μ.1 27 5)) μ)) ∧
(¬ a = 6 → ((a = 7 → (Call d y_X_sum [.ref 1] μ (fun ρ μ1 => ∃ r2 : Int32, ρ = .int r2 ∧ (Q (.int r2) μ1)))) ∧
(¬ a = 7 → (Q (.int (-2)) μ))))))))))))))))) : AA (Call d) y_X_count Q 0 [.ref 0, .int a] [] μ := go_in 6 (code := pr_X_count) (stops := []) rfl rfl hNF
set_option maxRecDepth 20000 in
theorem b_X_sheet_0 {d : Nat} {Q : QQ} {μ : Mem} {a : Int32} {b : Int32} {c : Int32} (hNF : Call d y_X_within [.int a, .int 3] μ (fun ρ μ1 => ∃ r2 : Int32, ρ = .int r2 ∧ ((r2 = 0 → (Q (.int (-2)) μ1)) ∧
(¬ r2 = 0 → (Call d y_X_within [.int (b - (-1)), .int 3] μ1 (fun ρ μ3 => ∃ r4 : Int32, ρ = .int r4 ∧ ((¬ r4 = 0 → ((¬ b = (-1) → ((c ≤ 40 → (((0 : Int32) ≤ c → (Call d y_Sheets_lay [.ref 57, .int a, .int b, .int c] μ3 (fun _ μ5 => (Q (.int 1) μ5)))) ∧
(¬ (0 : Int32) ≤ c → (Q (.int (-14)) μ3)))) ∧
(¬ c ≤ 40 → (Q (.int (-2)) μ3)))) ∧
(b = (-1) → (vp_in a 4 ∧ ∀ μ6 : Mem, μ6 = wI μ3 58 (upd (μ3.1 58) a.toNatClampNeg (-1)) → (Q (.int 1) μ6))))) ∧
(r4 = 0 → (Q (.int (-2)) μ3))))))))) : AA (Call d) y_X_sheet Q 0 [.ref 0, .int a, .int b, .int c] [] μ := go_in 26 (code := pr_X_sheet) (stops := []) rfl rfl hNF
set_option maxRecDepth 20000 in
theorem b_X_cell_0 {d : Nat} {Q : QQ} {μ : Mem} {a : Int32} {b : Int32} {c : Int32} (hNF : Call d y_X_within [.int a, .int 3] μ (fun ρ μ1 => ∃ r2 : Int32, ρ = .int r2 ∧ ((¬ r2 = 0 → (vp_in a 4 ∧ ((¬ (μ1.1 58 a.toNatClampNeg) = (-1) → (vp_in a 4 ∧ (Call d y_X_within [.int b, .int ((μ1.1 59 a.toNatClampNeg) - 1)] μ1 (fun ρ μ3 => ∃ r4 : Int32, ρ = .int r4 ∧ ((¬ r4 = 0 → (Call d y_Sheets_put [.ref 57, .int a, .int b, .int c] μ3 (fun _ μ5 => (Q (.int 1) μ5)))) ∧
(r4 = 0 → (Q (.int (-12)) μ3))))))) ∧
((μ1.1 58 a.toNatClampNeg) = (-1) → (Q (.int (-11)) μ1))))) ∧
(r2 = 0 → (Q (.int (-2)) μ1))))) : AA (Call d) y_X_cell Q 0 [.ref 0, .int a, .int b, .int c] [] μ := go_in 29 (code := pr_X_cell) (stops := []) rfl rfl hNF
set_option maxRecDepth 20000 in
theorem b_X_copy_0 {d : Nat} {Q : QQ} {μ : Mem} {a : Int32} {b : Int32} {c : Int32} {e : Int32} {f : Int32} (hNF : Call d y_X_within [.int a, .int 3] μ (fun ρ μ1 => ∃ r2 : Int32, ρ = .int r2 ∧ ((r2 = 0 → (Q (.int (-2)) μ1)) ∧
(¬ r2 = 0 → (Call d y_X_within [.int c, .int 3] μ1 (fun ρ μ3 => ∃ r4 : Int32, ρ = .int r4 ∧ ((¬ r4 = 0 → (vp_in a 4 ∧ (((μ3.1 58 a.toNatClampNeg) = (-1) → (Q (.int (-11)) μ3)) ∧
(¬ (μ3.1 58 a.toNatClampNeg) = (-1) → (vp_in c 4 ∧ ((¬ (μ3.1 58 c.toNatClampNeg) = (-1) → (vp_in a 4 ∧ (vp_in c 4 ∧ (((μ3.1 58 a.toNatClampNeg) = (μ3.1 58 c.toNatClampNeg) → (Call d y_Sheets_hasRoom [.ref 57, .int a, .int b, .int f] μ3 (fun ρ μ5 => ∃ r6 : Int32, ρ = .int r6 ∧ ((r6 = 0 → (Q (.int (-12)) μ5)) ∧
(¬ r6 = 0 → (Call d y_Sheets_hasRoom [.ref 57, .int c, .int e, .int f] μ5 (fun ρ μ7 => ∃ r8 : Int32, ρ = .int r8 ∧ ((¬ r8 = 0 → (vp_in a 4 ∧ (vp_in c 4 ∧ ((¬ b < 0 ∧ ¬ e < 0 ∧ ¬ f < 0 ∧ (Int32.toNatClampNeg b) + (Int32.toNatClampNeg f) ≤ (wlen 0 (61 + a.toNatClampNeg)) ∧ (Int32.toNatClampNeg e) + (Int32.toNatClampNeg f) ≤ (wlen 0 (61 + c.toNatClampNeg)) ∧ 0 < (wlen 0 (61 + a.toNatClampNeg)) ∧ 0 < (wlen 0 (61 + c.toNatClampNeg))) ∧ ∀ μ9 : Mem, μ9 = wI μ7 (61 + c.toNatClampNeg) (va_cpy (μ7.1 (61 + a.toNatClampNeg)) (μ7.1 (61 + c.toNatClampNeg)) (Int32.toNatClampNeg b) (Int32.toNatClampNeg e) (Int32.toNatClampNeg f)) → (Q (.int f) μ9))))) ∧
(r8 = 0 → (Q (.int (-12)) μ7)))))))))) ∧
(¬ (μ3.1 58 a.toNatClampNeg) = (μ3.1 58 c.toNatClampNeg) → (Q (.int (-13)) μ3)))))) ∧
((μ3.1 58 c.toNatClampNeg) = (-1) → (Q (.int (-11)) μ3)))))))) ∧
(r4 = 0 → (Q (.int (-2)) μ3))))))))) : AA (Call d) y_X_copy Q 0 [.ref 0, .int a, .int b, .int c, .int e, .int f] [] μ := go_in 63 (code := pr_X_copy) (stops := []) rfl rfl hNF
set_option maxRecDepth 20000 in
theorem b_X_writers_0 {d : Nat} {Q : QQ} {μ : Mem} {a : Int32} {b : Int32} {c : Int32} {e : Int32} (hNF : Call d y_X_within [.int a, .int 3] μ (fun ρ μ1 => ∃ r2 : Int32, ρ = .int r2 ∧ ((r2 = 0 → (Q (.int (-2)) μ1)) ∧
(¬ r2 = 0 → (Call d y_X_within [.int b, .int 2] μ1 (fun ρ μ3 => ∃ r4 : Int32, ρ = .int r4 ∧ ((r4 = 0 → (Q (.int (-2)) μ3)) ∧
(¬ r4 = 0 → (Call d y_X_within [.int e, .int 5] μ3 (fun ρ μ5 => ∃ r6 : Int32, ρ = .int r6 ∧ ((¬ r6 = 0 → (vp_in a 4 ∧ ((¬ (μ5.1 58 a.toNatClampNeg) = (-1) → (vp_in a 4 ∧ (((μ5.1 58 a.toNatClampNeg) = b → (vp_in a 4 ∧ (AA (Call d) y_X_writers Q 44 [.ref 0, .int a, .int b, .int c, .int e, .ref (61 + a.toNatClampNeg), .int c, .int 0, .int 0] [] μ5))) ∧
(¬ (μ5.1 58 a.toNatClampNeg) = b → (Q (.int (-13)) μ5))))) ∧
((μ5.1 58 a.toNatClampNeg) = (-1) → (Q (.int (-11)) μ5))))) ∧
(r6 = 0 → (Q (.int (-2)) μ5))))))))))))) : AA (Call d) y_X_writers Q 0 [.ref 0, .int a, .int b, .int c, .int e, un, un, un, un] [] μ := go_in 39 (code := pr_X_writers) (stops := [44]) rfl rfl hNF
set_option maxRecDepth 20000 in
theorem b_X_writers_44 {d : Nat} {Q : QQ} {μ : Mem} {l1 : Int32} {l2 : Int32} {l3 : Int32} {l4 : Int32} {l5 : Nat} {l6 : Int32} {l7 : Int32} {l8 : Int32} (hNF : (l4 ≤ l8 → (Q (.int l7) μ)) ∧
(¬ l4 ≤ l8 → (Call d y_Sheets_hasRoom [.ref 57, .int l1, .int l6, .int 3] μ (fun ρ μ1 => ∃ r2 : Int32, ρ = .int r2 ∧ ((¬ r2 = 0 → (vp_in l6 (ilen 0 l5) ∧ (vp_in (l6 + 1) (ilen 0 l5) ∧ (vp_in (l6 + 2) (ilen 0 l5) ∧ (Call d y_Writers_add [.ref 16, .int (μ1.1 l5 l6.toNatClampNeg), .int (μ1.1 l5 (Int32.toNatClampNeg (l6 + 1))), .int (μ1.1 l5 (Int32.toNatClampNeg (l6 + 2)))] μ1 (fun ρ μ3 => ∃ r4 : Int32, ρ = .int r4 ∧ ((r4 < 0 → (AA (Call d) y_X_writers Q 44 [.ref 0, .int l1, .int l2, .int l3, .int l4, .ref l5, .int (l6 + 3), .int l7, .int (l8 + 1)] [] μ3)) ∧
(¬ r4 < 0 → (AA (Call d) y_X_writers Q 44 [.ref 0, .int l1, .int l2, .int l3, .int l4, .ref l5, .int (l6 + 3), .int (l7 + 1), .int (l8 + 1)] [] μ3))))))))) ∧
(r2 = 0 → (Q (.int (-12)) μ1))))))) : AA (Call d) y_X_writers Q 44 [.ref 0, .int l1, .int l2, .int l3, .int l4, .ref l5, .int l6, .int l7, .int l8] [] μ := go_in 32 (code := pr_X_writers) (stops := [44]) rfl rfl hNF
set_option maxRecDepth 20000 in
theorem b_X_taken_0 {d : Nat} {Q : QQ} {μ : Mem} {a : Int32} {b : Int32} (hNF : Call d y_X_within [.int b, .int 5] μ (fun ρ μ1 => ∃ r2 : Int32, ρ = .int r2 ∧ ((¬ r2 = 0 → (Call d y_X_within [.int a, .int ((μ1.1 20 2) - 1)] μ1 (fun ρ μ3 => ∃ r4 : Int32, ρ = .int r4 ∧ ((¬ r4 = 0 → (Call d y_Laws_isUnder [.ref 20, .int a, .int b] μ3 (fun ρ μ5 => ∃ r6 : Int32, ρ = .int r6 ∧ ((r6 = 0 → (Q (.int (-13)) μ5)) ∧
(¬ r6 = 0 → (vp_in a 6 ∧ (Q (.int (μ5.1 22 a.toNatClampNeg)) μ5))))))) ∧
(r4 = 0 → (Q (.int (-11)) μ3)))))) ∧
(r2 = 0 → (Q (.int (-2)) μ1))))) : AA (Call d) y_X_taken Q 0 [.ref 0, .int a, .int b] [] μ := go_in 25 (code := pr_X_taken) (stops := []) rfl rfl hNF
set_option maxRecDepth 20000 in
theorem b_X_within_0 {d : Nat} {Q : QQ} {μ : Mem} {a : Int32} {b : Int32} (hNF : (a < 0 → (narrow .boolean (.int 0) = .int 0 ∧ Q (.int 0) μ)) ∧
(¬ a < 0 → ((b < a → (narrow .boolean (.int 0) = .int 0 ∧ Q (.int 0) μ)) ∧
(¬ b < a → (narrow .boolean (.int 1) = .int 1 ∧ Q (.int 1) μ))))) : AA (Call d) y_X_within Q 0 [.int a, .int b] [] μ := go_in 8 (code := pr_X_within) (stops := []) rfl rfl hNF
set_option maxRecDepth 20000 in
theorem b_X_put_0 {d : Nat} {Q : QQ} {μ : Mem} {a : Nat} {b : Int32} {c : Int32} {e : Int32} {f : Int32} (hNF : Call d y_X_within [.int c, .int (b - 1)] μ (fun ρ μ1 => ∃ r2 : Int32, ρ = .int r2 ∧ ((r2 = 0 → (Q (.int (-2)) μ1)) ∧
(¬ r2 = 0 → (Call d y_X_within [.int e, .int f] μ1 (fun ρ μ3 => ∃ r4 : Int32, ρ = .int r4 ∧ ((¬ r4 = 0 → (vp_in c (ilen 0 a) ∧ (vp_in c (wlen 0 a) ∧ ∀ μ5 : Mem, μ5 = wI μ3 a (upd (μ3.1 a) c.toNatClampNeg e) → (Q (.int (μ3.1 a c.toNatClampNeg)) μ5)))) ∧
(r4 = 0 → (Q (.int (-2)) μ3))))))))) : AA (Call d) y_X_put Q 0 [.ref a, .int b, .int c, .int e, .int f, un] [] μ := go_in 20 (code := pr_X_put) (stops := []) rfl rfl hNF
set_option maxRecDepth 20000 in
theorem b_X_item_0 {d : Nat} {Q : QQ} {μ : Mem} {a : Nat} {b : Int32} {c : Int32} (hNF : Call d y_X_within [.int c, .int (b - 1)] μ (fun ρ μ1 => ∃ r2 : Int32, ρ = .int r2 ∧ ((r2 = 0 → (Q (.int (-2)) μ1)) ∧
(¬ r2 = 0 → (vp_in c (ilen 0 a) ∧ (Q (.int (μ1.1 a c.toNatClampNeg)) μ1)))))) : AA (Call d) y_X_item Q 0 [.ref a, .int b, .int c] [] μ := go_in 11 (code := pr_X_item) (stops := []) rfl rfl hNF
set_option maxRecDepth 20000 in
theorem b_X_sum_0 {d : Nat} {Q : QQ} {μ : Mem} (hNF : AA (Call d) y_X_sum Q 9 [.ref 1, .int 0, .ref 1, .int (Int32.ofNat 8), .int 0, un] [] μ) : AA (Call d) y_X_sum Q 0 [.ref 1, un, un, un, un, un] [] μ := go_in 10 (code := pr_X_sum) (stops := [9]) rfl rfl hNF
set_option maxRecDepth 20000 in
theorem b_X_sum_9 {d : Nat} {Q : QQ} {μ : Mem} {l1 : Int32} {l3 : Int32} {l4 : Int32} (hNF : (l3 ≤ l4 → (Q (.int l1) μ)) ∧
(¬ l3 ≤ l4 → (vp_in l4 8 ∧ (AA (Call d) y_X_sum Q 9 [.ref 1, .int (l1 + (μ.1 1 l4.toNatClampNeg)), .ref 1, .int l3, .int (l4 + 1), .int (μ.1 1 l4.toNatClampNeg)] [] μ)))) : AA (Call d) y_X_sum Q 9 [.ref 1, .int l1, .ref 1, .int l3, .int l4, un] [] μ := go_in 14 (code := pr_X_sum) (stops := [9]) rfl rfl hNF
set_option maxRecDepth 20000 in
theorem b_X_firstMost_0 {d : Nat} {Q : QQ} {μ : Mem} (hNF : AA (Call d) y_X_firstMost Q 4 [.ref 50, .int 0, .int 1] [] μ) : AA (Call d) y_X_firstMost Q 0 [.ref 50, un, un] [] μ := go_in 5 (code := pr_X_firstMost) (stops := [4]) rfl rfl hNF
set_option maxRecDepth 20000 in
theorem b_X_firstMost_4 {d : Nat} {Q : QQ} {μ : Mem} {l1 : Int32} {l2 : Int32} (hNF : ((Int32.ofNat 24) ≤ l2 → (Q (.int l1) μ)) ∧
(¬ (Int32.ofNat 24) ≤ l2 → (vp_in l2 24 ∧ (vp_in l1 24 ∧ (((μ.1 50 l2.toNatClampNeg) ≤ (μ.1 50 l1.toNatClampNeg) → (AA (Call d) y_X_firstMost Q 4 [.ref 50, .int l1, .int (l2 + 1)] [] μ)) ∧
(¬ (μ.1 50 l2.toNatClampNeg) ≤ (μ.1 50 l1.toNatClampNeg) → (AA (Call d) y_X_firstMost Q 4 [.ref 50, .int l2, .int (l2 + 1)] [] μ))))))) : AA (Call d) y_X_firstMost Q 4 [.ref 50, .int l1, .int l2] [] μ := go_in 16 (code := pr_X_firstMost) (stops := [4]) rfl rfl hNF
set_option maxRecDepth 20000 in
theorem b_X_whoseHour_0 {d : Nat} {Q : QQ} {μ : Mem} {a : Int32} {b : Int32} {c : Int32} (hNF : Q (.int ((a >>> ((2 * ((c - 1) - b)) &&& 31)) &&& 3)) μ) : AA (Call d) y_X_whoseHour Q 0 [.int a, .int b, .int c] [] μ := go_in 12 (code := pr_X_whoseHour) (stops := []) rfl rfl hNF
set_option maxRecDepth 20000 in
theorem b_X_isTurn_0 {d : Nat} {Q : QQ} {μ : Mem} {a : Int32} {b : Int32} (hNF : AA (Call d) y_X_isTurn Q 4 [.int a, .int b, .int 0, .int 0] [] μ) : AA (Call d) y_X_isTurn Q 0 [.int a, .int b, un, un] [] μ := go_in 5 (code := pr_X_isTurn) (stops := [4]) rfl rfl hNF
set_option maxRecDepth 20000 in
theorem b_X_isTurn_4 {d : Nat} {Q : QQ} {μ : Mem} {l0 : Int32} {l1 : Int32} {l2 : Int32} {l3 : Int32} (hNF : (l1 ≤ l3 → ((¬ l2 = ((1 <<< (l1 &&& 31)) - 1) → (narrow .boolean (.int 0) = .int 0 ∧ Q (.int 0) μ)) ∧
(l2 = ((1 <<< (l1 &&& 31)) - 1) → (narrow .boolean (.int 1) = .int 1 ∧ Q (.int 1) μ)))) ∧
(¬ l1 ≤ l3 → (Call d y_X_whoseHour [.int l0, .int l3, .int l1] μ (fun ρ μ1 => ∃ r2 : Int32, ρ = .int r2 ∧ (AA (Call d) y_X_isTurn Q 4 [.int l0, .int l1, .int (l2 ||| (1 <<< (r2 &&& 31))), .int (l3 + 1)] [] μ1))))) : AA (Call d) y_X_isTurn Q 4 [.int l0, .int l1, .int l2, .int l3] [] μ := go_in 15 (code := pr_X_isTurn) (stops := [4]) rfl rfl hNF
set_option maxRecDepth 20000 in
theorem b_X_digits_0 {d : Nat} {Q : QQ} {μ : Mem} {a : Int32} {b : Int32} (hNF : AA (Call d) y_X_digits Q 4 [.int a, .int b, .int 0, .int 0] [] μ) : AA (Call d) y_X_digits Q 0 [.int a, .int b, un, un] [] μ := go_in 5 (code := pr_X_digits) (stops := [4]) rfl rfl hNF
set_option maxRecDepth 20000 in
theorem b_X_digits_4 {d : Nat} {Q : QQ} {μ : Mem} {l0 : Int32} {l1 : Int32} {l2 : Int32} {l3 : Int32} (hNF : (l1 ≤ l3 → (Q (.int l2) μ)) ∧
(¬ l1 ≤ l3 → (Call d y_X_whoseHour [.int l0, .int l3, .int l1] μ (fun ρ μ1 => ∃ r2 : Int32, ρ = .int r2 ∧ (AA (Call d) y_X_digits Q 4 [.int l0, .int l1, .int ((l2 * 10) + r2), .int (l3 + 1)] [] μ1))))) : AA (Call d) y_X_digits Q 4 [.int l0, .int l1, .int l2, .int l3] [] μ := go_in 15 (code := pr_X_digits) (stops := [4]) rfl rfl hNF
set_option maxRecDepth 20000 in
theorem b_X_commonDivisor_0 {d : Nat} {Q : QQ} {μ : Mem} {a : Int32} {b : Int32} (hNF : AA (Call d) y_X_commonDivisor Q 2 [.int a, .int b, .int b] [] μ) : AA (Call d) y_X_commonDivisor Q 0 [.int a, .int b, un] [] μ := go_in 3 (code := pr_X_commonDivisor) (stops := [2]) rfl rfl hNF
set_option maxRecDepth 20000 in
theorem b_X_commonDivisor_2 {d : Nat} {Q : QQ} {μ : Mem} {l0 : Int32} {l1 : Int32} {l2 : Int32} (hNF : (l2 ≤ 1 → (Q (.int 1) μ)) ∧
(¬ l2 ≤ 1 → (¬ l2 = 0 ∧ ((¬ (l0 - l0 / l2 * l2) = 0 → (AA (Call d) y_X_commonDivisor Q 2 [.int l0, .int l1, .int (l2 + (-1))] [] μ)) ∧
((l0 - l0 / l2 * l2) = 0 → (¬ l2 = 0 ∧ ((¬ (l1 - l1 / l2 * l2) = 0 → (AA (Call d) y_X_commonDivisor Q 2 [.int l0, .int l1, .int (l2 + (-1))] [] μ)) ∧
((l1 - l1 / l2 * l2) = 0 → (Q (.int l2) μ))))))))) : AA (Call d) y_X_commonDivisor Q 2 [.int l0, .int l1, .int l2] [] μ := go_in 14 (code := pr_X_commonDivisor) (stops := [2]) rfl rfl hNF
set_option maxRecDepth 20000 in
theorem b_X_refusalToJudge_0 {d : Nat} {Q : QQ} {μ : Mem} {a : Int32} (hNF : Call d y_X_within [.int a, .int 3] μ (fun ρ μ1 => ∃ r2 : Int32, ρ = .int r2 ∧ ((¬ r2 = 0 → (vp_in a 4 ∧ ((¬ (μ1.1 58 a.toNatClampNeg) = (-1) → (vp_in a 4 ∧ ((¬ (μ1.1 59 a.toNatClampNeg) = (μ1.1 16 3) → (Q (.int (-2)) μ1)) ∧
((μ1.1 59 a.toNatClampNeg) = (μ1.1 16 3) → (Q (.int 0) μ1))))) ∧
((μ1.1 58 a.toNatClampNeg) = (-1) → (Q (.int (-11)) μ1))))) ∧
(r2 = 0 → (Q (.int (-2)) μ1))))) : AA (Call d) y_X_refusalToJudge Q 0 [.ref 0, .int a] [] μ := go_in 23 (code := pr_X_refusalToJudge) (stops := []) rfl rfl hNF
set_option maxRecDepth 20000 in
theorem b_Day_dawn_0 {d : Nat} {Q : QQ} {μ : Mem} (hNF : (¬ (0 : Int32) < 0 ∧ ¬ (0 : Int32) < 0 ∧ ¬ (8 : Int32) < 0 ∧ (Int32.toNatClampNeg 0) + (Int32.toNatClampNeg 8) ≤ 8 ∧ (Int32.toNatClampNeg 0) + (Int32.toNatClampNeg 8) ≤ 8 ∧ 0 < 8 ∧ 0 < 8) ∧ ∀ μ1 : Mem, μ1 = wI μ 45 (va_cpy (μ.1 1) (μ.1 45) (Int32.toNatClampNeg 0) (Int32.toNatClampNeg 0) (Int32.toNatClampNeg 8)) → ((¬ (0 : Int32) < 0 ∧ ¬ (0 : Int32) < 0 ∧ ¬ (5 : Int32) < 0 ∧ (Int32.toNatClampNeg 0) + (Int32.toNatClampNeg 5) ≤ 5 ∧ (Int32.toNatClampNeg 0) + (Int32.toNatClampNeg 5) ≤ 5 ∧ 0 < 5 ∧ 0 < 5) ∧ ∀ μ2 : Mem, μ2 = wI μ1 46 (va_cpy (μ1.1 18) (μ1.1 46) (Int32.toNatClampNeg 0) (Int32.toNatClampNeg 0) (Int32.toNatClampNeg 5)) → (∀ μ3 : Mem, μ3 = wI μ2 44 (upd (μ2.1 44) 7 (μ2.1 20 3)) → (Q .null μ3)))) : AA (Call d) y_Day_dawn Q 0 [.ref 44] [] μ := go_in 23 (code := pr_Day_dawn) (stops := []) rfl rfl hNF
set_option maxRecDepth 20000 in
theorem b_Day_draw_0 {d : Nat} {Q : QQ} {μ : Mem} {a : Int32} (hNF : AA (Call d) y_Day_draw Q 4 [.ref 44, .int a, .int a, .int 0] [] μ) : AA (Call d) y_Day_draw Q 0 [.ref 44, .int a, un, un] [] μ := go_in 5 (code := pr_Day_draw) (stops := [4]) rfl rfl hNF
set_option maxRecDepth 20000 in
theorem b_Day_draw_4 {d : Nat} {Q : QQ} {μ : Mem} {l1 : Int32} {l2 : Int32} {l3 : Int32} (hNF : ((8 : Int32) ≤ l3 → (Q .null μ)) ∧
(¬ (8 : Int32) ≤ l3 → (¬ (20 : Int32) = 0 ∧ (vp_in l3 8 ∧ ∀ μ1 : Mem, μ1 = wI μ 45 (upd (μ.1 45) l3.toNatClampNeg (((Int32.toUInt32 ((l2 * 1103515245) + 12345) >>> (Int32.toUInt32 10 &&& Int32.toUInt32 31)).toInt32) - ((Int32.toUInt32 ((l2 * 1103515245) + 12345) >>> (Int32.toUInt32 10 &&& Int32.toUInt32 31)).toInt32) / 20 * 20)) → (AA (Call d) y_Day_draw Q 4 [.ref 44, .int l1, .int ((l2 * 1103515245) + 12345), .int (l3 + 1)] [] μ1))))) : AA (Call d) y_Day_draw Q 4 [.ref 44, .int l1, .int l2, .int l3] [] μ := go_in 21 (code := pr_Day_draw) (stops := [4]) rfl rfl hNF
set_option maxRecDepth 20000 in
theorem b_Day_live_0 {d : Nat} {Q : QQ} {μ : Mem} (hNF : Call d y_Day_liveTo [.ref 44, .int (-1)] μ (fun _ μ1 => (Q .null μ1))) : AA (Call d) y_Day_live Q 0 [.ref 44] [] μ := go_in 4 (code := pr_Day_live) (stops := []) rfl rfl hNF
set_option maxRecDepth 20000 in
theorem b_Day_liveTo_0 {d : Nat} {Q : QQ} {μ : Mem} {a : Int32} (hNF : AA (Call d) y_Day_liveTo Q 2 [.ref 44, .int a, .int 0, un] [] μ) : AA (Call d) y_Day_liveTo Q 0 [.ref 44, .int a, un, un] [] μ := go_in 3 (code := pr_Day_liveTo) (stops := [2, 7]) rfl rfl hNF
set_option maxRecDepth 20000 in
theorem b_Day_liveTo_2 {d : Nat} {Q : QQ} {μ : Mem} {l1 : Int32} {l2 : Int32} (hNF : ((24 : Int32) ≤ l2 → (Q .null μ)) ∧
(¬ (24 : Int32) ≤ l2 → (AA (Call d) y_Day_liveTo Q 7 [.ref 44, .int l1, .int l2, .int 0] [] μ))) : AA (Call d) y_Day_liveTo Q 2 [.ref 44, .int l1, .int l2, un] [] μ := go_in 6 (code := pr_Day_liveTo) (stops := [2, 7]) rfl rfl hNF
set_option maxRecDepth 20000 in
theorem b_Day_liveTo_7 {d : Nat} {Q : QQ} {μ : Mem} {l1 : Int32} {l2 : Int32} {l3 : Int32} (hNF : ((μ.1 16 3) ≤ l3 → (Call d y_Laws_age [.ref 20, .int (μ.1 44 7), .ref 45] μ (fun _ μ1 => (AA (Call d) y_Day_liveTo Q 2 [.ref 44, .int l1, .int (l2 + 1), .int l3] [] μ1)))) ∧
(¬ (μ.1 16 3) ≤ l3 → (vp_in l3 5 ∧ (((μ.1 46 l3.toNatClampNeg) = l2 → ((¬ l3 = l1 → (Call d y_Day_takeTurn [.ref 44, .int l3] μ (fun _ μ2 => (AA (Call d) y_Day_liveTo Q 7 [.ref 44, .int l1, .int l2, .int (l3 + 1)] [] μ2)))) ∧
(l3 = l1 → (Q .null μ)))) ∧
(¬ (μ.1 46 l3.toNatClampNeg) = l2 → (AA (Call d) y_Day_liveTo Q 7 [.ref 44, .int l1, .int l2, .int (l3 + 1)] [] μ)))))) : AA (Call d) y_Day_liveTo Q 7 [.ref 44, .int l1, .int l2, .int l3] [] μ := go_in 20 (code := pr_Day_liveTo) (stops := [2, 7]) rfl rfl hNF
set_option maxRecDepth 20000 in
theorem b_Day_takeTurn_0 {d : Nat} {Q : QQ} {μ : Mem} {a : Int32} (hNF : vp_in a 5 ∧ (vp_in a 5 ∧ (AA (Call d) y_Day_takeTurn Q 19 [.ref 44, .int a, .int (μ.1 46 a.toNatClampNeg), .int (μ.1 19 a.toNatClampNeg), .int (-1), .int ((μ.1 19 a.toNatClampNeg) + 1), .int 0, un] [] μ))) : AA (Call d) y_Day_takeTurn Q 0 [.ref 44, .int a, un, un, un, un, un, un] [] μ := go_in 20 (code := pr_Day_takeTurn) (stops := [19]) rfl rfl hNF
set_option maxRecDepth 20000 in
theorem b_Day_takeTurn_19 {d : Nat} {Q : QQ} {μ : Mem} {l1 : Int32} {l2 : Int32} {l3 : Int32} {l4 : Int32} {l5 : Int32} {l6 : Int32} (hNF : ((μ.1 2 3) ≤ l6 → (vp_in l1 5 ∧ ∀ μ1 : Mem, μ1 = wI μ 47 (upd (μ.1 47) l1.toNatClampNeg l4) → (vp_in l1 5 ∧ ∀ μ2 : Mem, μ2 = wI μ1 48 (upd (μ1.1 48) l1.toNatClampNeg 0) → (vp_in l1 5 ∧ ∀ μ3 : Mem, μ3 = wI μ2 49 (upd (μ2.1 49) l1.toNatClampNeg 0) → ((¬ l4 = (-1) → (vp_in l1 5 ∧ ∀ μ4 : Mem, μ4 = wI μ3 48 (upd (μ3.1 48) l1.toNatClampNeg l5) → (vp_in l4 10 ∧ (Call d y_Texts_worth [.ref 27, .int l2, .int (μ4.1 4 l4.toNatClampNeg), .int l3, .int (μ4.1 16 3)] μ4 (fun ρ μ5 => ∃ r6 : Int32, ρ = .int r6 ∧ (vp_in l1 5 ∧ ∀ μ7 : Mem, μ7 = wI μ5 49 (upd (μ5.1 49) l1.toNatClampNeg (r6 - l5)) → (Call d y_Words_spend [.ref 2, .int l4, .ref 45] μ7 (fun _ μ8 => (Q .null μ8))))))))) ∧
(l4 = (-1) → (Q .null μ3))))))) ∧
(¬ (μ.1 2 3) ≤ l6 → (vp_in l6 10 ∧ (vp_in l1 5 ∧ (((μ.1 3 l6.toNatClampNeg) = (μ.1 17 l1.toNatClampNeg) → (Call d y_Day_costOf [.ref 44, .int l6, .int l2] μ (fun ρ μ9 => ∃ r10 : Int32, ρ = .int r10 ∧ ((l5 ≤ r10 → (AA (Call d) y_Day_takeTurn Q 19 [.ref 44, .int l1, .int l2, .int l3, .int l4, .int l5, .int (l6 + 1), .int r10] [] μ9)) ∧
(¬ l5 ≤ r10 → (vp_in l6 10 ∧ (Call d y_Texts_may [.ref 27, .int l2, .int (μ9.1 4 l6.toNatClampNeg), .int l3, .int (μ9.1 16 3)] μ9 (fun ρ μ11 => ∃ r12 : Int32, ρ = .int r12 ∧ ((r12 = 0 → (AA (Call d) y_Day_takeTurn Q 19 [.ref 44, .int l1, .int l2, .int l3, .int l4, .int l5, .int (l6 + 1), .int r10] [] μ11)) ∧
(¬ r12 = 0 → (AA (Call d) y_Day_takeTurn Q 19 [.ref 44, .int l1, .int l2, .int l3, .int l6, .int r10, .int (l6 + 1), .int r10] [] μ11))))))))))) ∧
(¬ (μ.1 3 l6.toNatClampNeg) = (μ.1 17 l1.toNatClampNeg) → (AA (Call d) y_Day_takeTurn Q 19 [.ref 44, .int l1, .int l2, .int l3, .int l4, .int l5, .int (l6 + 1), un] [] μ))))))) : AA (Call d) y_Day_takeTurn Q 19 [.ref 44, .int l1, .int l2, .int l3, .int l4, .int l5, .int l6, un] [] μ := go_in 54 (code := pr_Day_takeTurn) (stops := [19]) rfl rfl hNF
set_option maxRecDepth 20000 in
theorem b_Day_costOf_0 {d : Nat} {Q : QQ} {μ : Mem} {a : Int32} {b : Int32} (hNF : AA (Call d) y_Day_costOf Q 4 [.ref 44, .int a, .int b, .int 0, .int 0, un] [] μ) : AA (Call d) y_Day_costOf Q 0 [.ref 44, .int a, .int b, un, un, un] [] μ := go_in 5 (code := pr_Day_costOf) (stops := [4]) rfl rfl hNF
set_option maxRecDepth 20000 in
theorem b_Day_costOf_4 {d : Nat} {Q : QQ} {μ : Mem} {l1 : Int32} {l2 : Int32} {l3 : Int32} {l4 : Int32} (hNF : vp_in l1 10 ∧ (((μ.1 4 l1.toNatClampNeg) ≤ l4 → (Q (.int l3) μ)) ∧
(¬ (μ.1 4 l1.toNatClampNeg) ≤ l4 → (Call d y_Words_usedAhead [.ref 2, .int l1, .int l4, .ref 45] μ (fun ρ μ1 => ∃ r2 : Int32, ρ = .int r2 ∧ (Call d y_Laws_price [.ref 20, .int (μ1.1 44 7), .int r2, .int l2] μ1 (fun ρ μ3 => ∃ r4 : Int32, ρ = .int r4 ∧ (vp_in l1 10 ∧ (vp_in l4 (ilen 0 (6 + l1.toNatClampNeg)) ∧ (Call d y_Texts_adds [.ref 27, .int r2, .int l2, .int (μ3.1 (6 + l1.toNatClampNeg) l4.toNatClampNeg)] μ3 (fun ρ μ5 => ∃ r6 : Int32, ρ = .int r6 ∧ (AA (Call d) y_Day_costOf Q 4 [.ref 44, .int l1, .int l2, .int (l3 + (r4 + r6)), .int (l4 + 1), .int r2] [] μ5)))))))))))) : AA (Call d) y_Day_costOf Q 4 [.ref 44, .int l1, .int l2, .int l3, .int l4, un] [] μ := go_in 41 (code := pr_Day_costOf) (stops := [4]) rfl rfl hNF
set_option maxRecDepth 20000 in
theorem b_Day_tryHours_0 {d : Nat} {Q : QQ} {μ : Mem} {a : Int32} (hNF : AA (Call d) y_Day_tryHours Q 2 [.ref 44, .int a, .int 0] [] μ) : AA (Call d) y_Day_tryHours Q 0 [.ref 44, .int a, un] [] μ := go_in 3 (code := pr_Day_tryHours) (stops := [2]) rfl rfl hNF
set_option maxRecDepth 20000 in
theorem b_Day_tryHours_2 {d : Nat} {Q : QQ} {μ : Mem} {l1 : Int32} {l2 : Int32} (hNF : ((24 : Int32) ≤ l2 → (Q .null μ)) ∧
(¬ (24 : Int32) ≤ l2 → (Call d y_Day_dawn [.ref 44] μ (fun _ μ1 => (vp_in l1 5 ∧ ∀ μ2 : Mem, μ2 = wI μ1 46 (upd (μ1.1 46) l1.toNatClampNeg l2) → (Call d y_Day_liveTo [.ref 44, .int l1] μ2 (fun _ μ3 => (Call d y_Day_takeTurn [.ref 44, .int l1] μ3 (fun _ μ4 => (vp_in l1 5 ∧ (vp_in l2 24 ∧ ∀ μ5 : Mem, μ5 = wI μ4 50 (upd (μ4.1 50) l2.toNatClampNeg (μ4.1 49 l1.toNatClampNeg)) → (AA (Call d) y_Day_tryHours Q 2 [.ref 44, .int l1, .int (l2 + 1)] [] μ5)))))))))))) : AA (Call d) y_Day_tryHours Q 2 [.ref 44, .int l1, .int l2] [] μ := go_in 27 (code := pr_Day_tryHours) (stops := [2]) rfl rfl hNF
set_option maxRecDepth 20000 in
theorem b_Day_goodIfBurned_0 {d : Nat} {Q : QQ} {μ : Mem} {a : Int32} {b : Int32} (hNF : Call d y_Day_dawn [.ref 44] μ (fun _ μ1 => (vp_in a 8 ∧ (vp_in a 8 ∧ ∀ μ2 : Mem, μ2 = wI μ1 45 (upd (μ1.1 45) a.toNatClampNeg (if 999 < (μ1.1 45 a.toNatClampNeg) + b then 999 else (μ1.1 45 a.toNatClampNeg) + b)) → (Call d y_Day_liveTo [.ref 44, .int (-1)] μ2 (fun _ μ3 => (Call d y_Day_allGood [.ref 44] μ3 (fun ρ μ4 => ∃ r5 : Int32, ρ = .int r5 ∧ (Q (.int r5) μ4))))))))) : AA (Call d) y_Day_goodIfBurned Q 0 [.ref 44, .int a, .int b] [] μ := go_in 20 (code := pr_Day_goodIfBurned) (stops := []) rfl rfl hNF
set_option maxRecDepth 20000 in
theorem b_Day_allGood_0 {d : Nat} {Q : QQ} {μ : Mem} (hNF : AA (Call d) y_Day_allGood Q 4 [.ref 44, .int 0, .int 0] [] μ) : AA (Call d) y_Day_allGood Q 0 [.ref 44, un, un] [] μ := go_in 5 (code := pr_Day_allGood) (stops := [4]) rfl rfl hNF
set_option maxRecDepth 20000 in
theorem b_Day_allGood_4 {d : Nat} {Q : QQ} {μ : Mem} {l1 : Int32} {l2 : Int32} (hNF : ((μ.1 16 3) ≤ l2 → (Q (.int l1) μ)) ∧
(¬ (μ.1 16 3) ≤ l2 → (vp_in l2 5 ∧ (AA (Call d) y_Day_allGood Q 4 [.ref 44, .int (l1 + (μ.1 49 l2.toNatClampNeg)), .int (l2 + 1)] [] μ)))) : AA (Call d) y_Day_allGood Q 4 [.ref 44, .int l1, .int l2] [] μ := go_in 15 (code := pr_Day_allGood) (stops := [4]) rfl rfl hNF
set_option maxRecDepth 20000 in
theorem b_Day_allPaid_0 {d : Nat} {Q : QQ} {μ : Mem} (hNF : AA (Call d) y_Day_allPaid Q 4 [.ref 44, .int 0, .int 0] [] μ) : AA (Call d) y_Day_allPaid Q 0 [.ref 44, un, un] [] μ := go_in 5 (code := pr_Day_allPaid) (stops := [4]) rfl rfl hNF
set_option maxRecDepth 20000 in
theorem b_Day_allPaid_4 {d : Nat} {Q : QQ} {μ : Mem} {l1 : Int32} {l2 : Int32} (hNF : ((μ.1 16 3) ≤ l2 → (Q (.int l1) μ)) ∧
(¬ (μ.1 16 3) ≤ l2 → (vp_in l2 5 ∧ (AA (Call d) y_Day_allPaid Q 4 [.ref 44, .int (l1 + (μ.1 48 l2.toNatClampNeg)), .int (l2 + 1)] [] μ)))) : AA (Call d) y_Day_allPaid Q 4 [.ref 44, .int l1, .int l2] [] μ := go_in 15 (code := pr_Day_allPaid) (stops := [4]) rfl rfl hNF
set_option maxRecDepth 20000 in
theorem b_Day_howManySaid_0 {d : Nat} {Q : QQ} {μ : Mem} (hNF : AA (Call d) y_Day_howManySaid Q 4 [.ref 44, .int 0, .int 0] [] μ) : AA (Call d) y_Day_howManySaid Q 0 [.ref 44, un, un] [] μ := go_in 5 (code := pr_Day_howManySaid) (stops := [4]) rfl rfl hNF
set_option maxRecDepth 20000 in
theorem b_Day_howManySaid_4 {d : Nat} {Q : QQ} {μ : Mem} {l1 : Int32} {l2 : Int32} (hNF : ((μ.1 16 3) ≤ l2 → (Q (.int l1) μ)) ∧
(¬ (μ.1 16 3) ≤ l2 → (vp_in l2 5 ∧ (((μ.1 47 l2.toNatClampNeg) = (-1) → (AA (Call d) y_Day_howManySaid Q 4 [.ref 44, .int l1, .int (l2 + 1)] [] μ)) ∧
(¬ (μ.1 47 l2.toNatClampNeg) = (-1) → (AA (Call d) y_Day_howManySaid Q 4 [.ref 44, .int (l1 + 1), .int (l2 + 1)] [] μ)))))) : AA (Call d) y_Day_howManySaid Q 4 [.ref 44, .int l1, .int l2] [] μ := go_in 15 (code := pr_Day_howManySaid) (stops := [4]) rfl rfl hNF
set_option maxRecDepth 20000 in
theorem b_Day_spread_0 {d : Nat} {Q : QQ} {μ : Mem} (hNF : vp_in 0 8 ∧ (vp_in 0 8 ∧ (AA (Call d) y_Day_spread Q 18 [.ref 44, .int (μ.1 45 (Int32.toNatClampNeg 0)), .int (μ.1 45 (Int32.toNatClampNeg 0)), .ref 45, .int (Int32.ofNat 8), .int 0, un] [] μ))) : AA (Call d) y_Day_spread Q 0 [.ref 44, un, un, un, un, un, un] [] μ := go_in 19 (code := pr_Day_spread) (stops := [18]) rfl rfl hNF
set_option maxRecDepth 20000 in
theorem b_Day_spread_18 {d : Nat} {Q : QQ} {μ : Mem} {l1 : Int32} {l2 : Int32} {l4 : Int32} {l5 : Int32} (hNF : (l4 ≤ l5 → (Q (.int (l1 - l2)) μ)) ∧
(¬ l4 ≤ l5 → (vp_in l5 8 ∧ (AA (Call d) y_Day_spread Q 18 [.ref 44, .int (if l1 < μ.1 45 l5.toNatClampNeg then μ.1 45 l5.toNatClampNeg else l1), .int (if μ.1 45 l5.toNatClampNeg < l2 then μ.1 45 l5.toNatClampNeg else l2), .ref 45, .int l4, .int (l5 + 1), .int (μ.1 45 l5.toNatClampNeg)] [] μ)))) : AA (Call d) y_Day_spread Q 18 [.ref 44, .int l1, .int l2, .ref 45, .int l4, .int l5, un] [] μ := go_in 18 (code := pr_Day_spread) (stops := [18]) rfl rfl hNF
set_option maxRecDepth 20000 in
theorem b_Day_firstUnlike_0 {d : Nat} {Q : QQ} {μ : Mem} {a : Nat} (hNF : AA (Call d) y_Day_firstUnlike Q 2 [.ref 44, .ref a, .int 0, un] [] μ) : AA (Call d) y_Day_firstUnlike Q 0 [.ref 44, .ref a, un, un] [] μ := go_in 3 (code := pr_Day_firstUnlike) (stops := [2]) rfl rfl hNF
set_option maxRecDepth 20000 in
theorem b_Day_firstUnlike_2 {d : Nat} {Q : QQ} {μ : Mem} {a : Nat} {l2 : Int32} (hNF : ((μ.1 16 3) ≤ l2 → (Q (.int (-1)) μ)) ∧
(¬ (μ.1 16 3) ≤ l2 → (vp_in l2 5 ∧ ((¬ (μ.1 47 l2.toNatClampNeg) = (-1) → (vp_in l2 5 ∧ (vp_in l2 (ilen 0 a) ∧ (((μ.1 a l2.toNatClampNeg) = (μ.1 48 l2.toNatClampNeg) → (AA (Call d) y_Day_firstUnlike Q 2 [.ref 44, .ref a, .int (l2 + 1), .int (μ.1 48 l2.toNatClampNeg)] [] μ)) ∧
(¬ (μ.1 a l2.toNatClampNeg) = (μ.1 48 l2.toNatClampNeg) → (Q (.int l2) μ)))))) ∧
((μ.1 47 l2.toNatClampNeg) = (-1) → (vp_in l2 (ilen 0 a) ∧ (((μ.1 a l2.toNatClampNeg) = (-1) → (AA (Call d) y_Day_firstUnlike Q 2 [.ref 44, .ref a, .int (l2 + 1), .int (-1)] [] μ)) ∧
(¬ (μ.1 a l2.toNatClampNeg) = (-1) → (Q (.int l2) μ))))))))) : AA (Call d) y_Day_firstUnlike Q 2 [.ref 44, .ref a, .int l2, un] [] μ := go_in 24 (code := pr_Day_firstUnlike) (stops := [2]) rfl rfl hNF
set_option maxRecDepth 20000 in
theorem b_Image_keepWriters_0 {d : Nat} {Q : QQ} {μ : Mem} (hNF : (¬ (0 : Int32) < 0 ∧ ¬ (0 : Int32) < 0 ∧ ¬ (5 : Int32) < 0 ∧ (Int32.toNatClampNeg 0) + (Int32.toNatClampNeg 5) ≤ 5 ∧ (Int32.toNatClampNeg 0) + (Int32.toNatClampNeg 5) ≤ 5 ∧ 0 < 5 ∧ 0 < 5) ∧ ∀ μ1 : Mem, μ1 = wI μ 53 (va_cpy (μ.1 17) (μ.1 53) (Int32.toNatClampNeg 0) (Int32.toNatClampNeg 0) (Int32.toNatClampNeg 5)) → ((¬ (0 : Int32) < 0 ∧ ¬ (0 : Int32) < 0 ∧ ¬ (5 : Int32) < 0 ∧ (Int32.toNatClampNeg 0) + (Int32.toNatClampNeg 5) ≤ 5 ∧ (Int32.toNatClampNeg 0) + (Int32.toNatClampNeg 5) ≤ 5 ∧ 0 < 5 ∧ 0 < 5) ∧ ∀ μ2 : Mem, μ2 = wI μ1 54 (va_cpy (μ1.1 18) (μ1.1 54) (Int32.toNatClampNeg 0) (Int32.toNatClampNeg 0) (Int32.toNatClampNeg 5)) → ((¬ (0 : Int32) < 0 ∧ ¬ (0 : Int32) < 0 ∧ ¬ (5 : Int32) < 0 ∧ (Int32.toNatClampNeg 0) + (Int32.toNatClampNeg 5) ≤ 5 ∧ (Int32.toNatClampNeg 0) + (Int32.toNatClampNeg 5) ≤ 5 ∧ 0 < 5 ∧ 0 < 5) ∧ ∀ μ3 : Mem, μ3 = wI μ2 55 (va_cpy (μ2.1 19) (μ2.1 55) (Int32.toNatClampNeg 0) (Int32.toNatClampNeg 0) (Int32.toNatClampNeg 5)) → (∀ μ4 : Mem, μ4 = wI μ3 51 (upd (μ3.1 51) 7 (μ3.1 16 3)) → (Q .null μ4))))) : AA (Call d) y_Image_keepWriters Q 0 [.ref 51, .ref 16] [] μ := go_in 29 (code := pr_Image_keepWriters) (stops := []) rfl rfl hNF
set_option maxRecDepth 20000 in
theorem b_Image_restoreWriters_0 {d : Nat} {Q : QQ} {μ : Mem} (hNF : (¬ (0 : Int32) < 0 ∧ ¬ (0 : Int32) < 0 ∧ ¬ (5 : Int32) < 0 ∧ (Int32.toNatClampNeg 0) + (Int32.toNatClampNeg 5) ≤ 5 ∧ (Int32.toNatClampNeg 0) + (Int32.toNatClampNeg 5) ≤ 5 ∧ 0 < 5 ∧ 0 < 5) ∧ ∀ μ1 : Mem, μ1 = wI μ 17 (va_cpy (μ.1 53) (μ.1 17) (Int32.toNatClampNeg 0) (Int32.toNatClampNeg 0) (Int32.toNatClampNeg 5)) → ((¬ (0 : Int32) < 0 ∧ ¬ (0 : Int32) < 0 ∧ ¬ (5 : Int32) < 0 ∧ (Int32.toNatClampNeg 0) + (Int32.toNatClampNeg 5) ≤ 5 ∧ (Int32.toNatClampNeg 0) + (Int32.toNatClampNeg 5) ≤ 5 ∧ 0 < 5 ∧ 0 < 5) ∧ ∀ μ2 : Mem, μ2 = wI μ1 18 (va_cpy (μ1.1 54) (μ1.1 18) (Int32.toNatClampNeg 0) (Int32.toNatClampNeg 0) (Int32.toNatClampNeg 5)) → ((¬ (0 : Int32) < 0 ∧ ¬ (0 : Int32) < 0 ∧ ¬ (5 : Int32) < 0 ∧ (Int32.toNatClampNeg 0) + (Int32.toNatClampNeg 5) ≤ 5 ∧ (Int32.toNatClampNeg 0) + (Int32.toNatClampNeg 5) ≤ 5 ∧ 0 < 5 ∧ 0 < 5) ∧ ∀ μ3 : Mem, μ3 = wI μ2 19 (va_cpy (μ2.1 55) (μ2.1 19) (Int32.toNatClampNeg 0) (Int32.toNatClampNeg 0) (Int32.toNatClampNeg 5)) → (∀ μ4 : Mem, μ4 = wI μ3 16 (upd (μ3.1 16) 3 (μ3.1 51 7)) → (Q .null μ4))))) : AA (Call d) y_Image_restoreWriters Q 0 [.ref 51, .ref 16] [] μ := go_in 29 (code := pr_Image_restoreWriters) (stops := []) rfl rfl hNF
set_option maxRecDepth 20000 in
theorem b_Image_keepLaws_0 {d : Nat} {Q : QQ} {μ : Mem} (hNF : (¬ (0 : Int32) < 0 ∧ ¬ (0 : Int32) < 0 ∧ ¬ (6 : Int32) < 0 ∧ (Int32.toNatClampNeg 0) + (Int32.toNatClampNeg 6) ≤ 6 ∧ (Int32.toNatClampNeg 0) + (Int32.toNatClampNeg 6) ≤ 6 ∧ 0 < 6 ∧ 0 < 6) ∧ ∀ μ1 : Mem, μ1 = wI μ 56 (va_cpy (μ.1 22) (μ.1 56) (Int32.toNatClampNeg 0) (Int32.toNatClampNeg 0) (Int32.toNatClampNeg 6)) → (∀ μ2 : Mem, μ2 = wI μ1 51 (upd (μ1.1 51) 9 (μ1.1 20 2)) → (∀ μ3 : Mem, μ3 = wI μ2 51 (upd (μ2.1 51) 10 (μ2.1 20 3)) → (Q .null μ3)))) : AA (Call d) y_Image_keepLaws Q 0 [.ref 51, .ref 20] [] μ := go_in 17 (code := pr_Image_keepLaws) (stops := []) rfl rfl hNF
set_option maxRecDepth 20000 in
theorem b_Image_restoreLaws_0 {d : Nat} {Q : QQ} {μ : Mem} (hNF : (¬ (0 : Int32) < 0 ∧ ¬ (0 : Int32) < 0 ∧ ¬ (6 : Int32) < 0 ∧ (Int32.toNatClampNeg 0) + (Int32.toNatClampNeg 6) ≤ 6 ∧ (Int32.toNatClampNeg 0) + (Int32.toNatClampNeg 6) ≤ 6 ∧ 0 < 6 ∧ 0 < 6) ∧ ∀ μ1 : Mem, μ1 = wI μ 22 (va_cpy (μ.1 56) (μ.1 22) (Int32.toNatClampNeg 0) (Int32.toNatClampNeg 0) (Int32.toNatClampNeg 6)) → (∀ μ2 : Mem, μ2 = wI μ1 20 (upd (μ1.1 20) 2 (μ1.1 51 9)) → (∀ μ3 : Mem, μ3 = wI μ2 20 (upd (μ2.1 20) 3 (μ2.1 51 10)) → (Q .null μ3)))) : AA (Call d) y_Image_restoreLaws Q 0 [.ref 51, .ref 20] [] μ := go_in 17 (code := pr_Image_restoreLaws) (stops := []) rfl rfl hNF
set_option maxRecDepth 20000 in
theorem b_Laws_add_0 {d : Nat} {Q : QQ} {μ : Mem} {a : Int32} {b : Int32} (hNF : ((μ.1 20 2) < 6 → (vp_in (μ.1 20 2) 6 ∧ ∀ μ1 : Mem, μ1 = wI μ 21 (upd (μ.1 21) (Int32.toNatClampNeg (μ.1 20 2)) a) → (vp_in (μ1.1 20 2) 6 ∧ ∀ μ2 : Mem, μ2 = wI μ1 22 (upd (μ1.1 22) (Int32.toNatClampNeg (μ1.1 20 2)) b) → (∀ μ3 : Mem, μ3 = wI μ2 20 (upd (μ2.1 20) 2 ((μ2.1 20 2) + 1)) → (Q (.int (μ2.1 20 2)) μ3))))) ∧
(¬ (μ.1 20 2) < 6 → (Q (.int (-4)) μ))) : AA (Call d) y_Laws_add Q 0 [.ref 20, .int a, .int b] [] μ := go_in 24 (code := pr_Laws_add) (stops := []) rfl rfl hNF
set_option maxRecDepth 20000 in
theorem b_Laws_isUnder_0 {d : Nat} {Q : QQ} {μ : Mem} {a : Int32} {b : Int32} (hNF : vp_in a 6 ∧ (AA (Call d) y_Laws_isUnder Q 7 [.ref 20, .int a, .int b, .int (μ.1 21 a.toNatClampNeg), .int 0] [] μ)) : AA (Call d) y_Laws_isUnder Q 0 [.ref 20, .int a, .int b, un, un] [] μ := go_in 8 (code := pr_Laws_isUnder) (stops := [7]) rfl rfl hNF
set_option maxRecDepth 20000 in
theorem b_Laws_isUnder_7 {d : Nat} {Q : QQ} {μ : Mem} {l1 : Int32} {l2 : Int32} {l3 : Int32} {l4 : Int32} (hNF : ((6 : Int32) ≤ l4 → (narrow .boolean (.int 0) = .int 0 ∧ Q (.int 0) μ)) ∧
(¬ (6 : Int32) ≤ l4 → ((l3 = (-1) → (narrow .boolean (.int 0) = .int 0 ∧ Q (.int 0) μ)) ∧
(¬ l3 = (-1) → ((¬ l3 = l2 → (vp_in l3 6 ∧ (AA (Call d) y_Laws_isUnder Q 7 [.ref 20, .int l1, .int l2, .int (μ.1 65 l3.toNatClampNeg), .int (l4 + 1)] [] μ))) ∧
(l3 = l2 → (narrow .boolean (.int 1) = .int 1 ∧ Q (.int 1) μ))))))) : AA (Call d) y_Laws_isUnder Q 7 [.ref 20, .int l1, .int l2, .int l3, .int l4] [] μ := go_in 16 (code := pr_Laws_isUnder) (stops := [7]) rfl rfl hNF
set_option maxRecDepth 20000 in
theorem b_Laws_price_0 {d : Nat} {Q : QQ} {μ : Mem} {a : Int32} {b : Int32} {c : Int32} (hNF : vp_in a 6 ∧ (vp_in a 6 ∧ (((μ.1 21 a.toNatClampNeg) = 1 → (Call d y_Laws_steep [.int (μ.1 22 a.toNatClampNeg), .int b] μ (fun ρ μ1 => ∃ r2 : Int32, ρ = .int r2 ∧ (Q (.int r2) μ1)))) ∧
(¬ (μ.1 21 a.toNatClampNeg) = 1 → (((μ.1 21 a.toNatClampNeg) = 2 → (¬ (2 : Int32) = 0 ∧ (Q (.int ((b + (μ.1 22 a.toNatClampNeg)) / 2)) μ))) ∧
(¬ (μ.1 21 a.toNatClampNeg) = 2 → (((μ.1 21 a.toNatClampNeg) = 3 → (¬ (3 : Int32) = 0 ∧ (Call d y_Laws_steep [.int (μ.1 22 a.toNatClampNeg), .int (b - (b - b / 3 * 3))] μ (fun ρ μ3 => ∃ r4 : Int32, ρ = .int r4 ∧ (Q (.int r4) μ3))))) ∧
(¬ (μ.1 21 a.toNatClampNeg) = 3 → (((μ.1 21 a.toNatClampNeg) = 4 → (((6 : Int32) ≤ c → (¬ (2 : Int32) = 0 ∧ (Q (.int ((b + (μ.1 22 a.toNatClampNeg)) / 2)) μ))) ∧
(¬ (6 : Int32) ≤ c → (Q (.int 0) μ)))) ∧
(¬ (μ.1 21 a.toNatClampNeg) = 4 → (((μ.1 21 a.toNatClampNeg) = 5 → (Call d y_Laws_steep [.int (μ.1 22 a.toNatClampNeg), .int b] μ (fun ρ μ5 => ∃ r6 : Int32, ρ = .int r6 ∧ ((¬ b = 0 → (Q (.int (r6 + 0)) μ5)) ∧
(b = 0 → (Q (.int (r6 + 5)) μ5)))))) ∧
(¬ (μ.1 21 a.toNatClampNeg) = 5 → (Q (.int (b + (μ.1 22 a.toNatClampNeg))) μ))))))))))))) : AA (Call d) y_Laws_price Q 0 [.ref 20, .int a, .int b, .int c, un] [] μ := go_in 19 (code := pr_Laws_price) (stops := []) rfl rfl hNF
set_option maxRecDepth 20000 in
theorem b_Laws_steep_0 {d : Nat} {Q : QQ} {μ : Mem} {a : Int32} {b : Int32} (hNF : Q (.int ((b + a) + (b * (a + 1)))) μ) : AA (Call d) y_Laws_steep Q 0 [.int a, .int b] [] μ := go_in 10 (code := pr_Laws_steep) (stops := []) rfl rfl hNF
set_option maxRecDepth 20000 in
theorem b_Laws_age_u_0 {d : Nat} {Q : QQ} {μ : Mem} {a : Int32} (hNF : vp_in a 6 ∧ (((μ.1 21 a.toNatClampNeg) = 0 → (Q .null μ)) ∧
(¬ (μ.1 21 a.toNatClampNeg) = 0 → (vp_in a 6 ∧ ((¬ (μ.1 21 a.toNatClampNeg) = 1 → (AA (Call d) y_Laws_age Q 14 [.ref 20, .int a, .ref 1, .int 0] [] μ)) ∧
((μ.1 21 a.toNatClampNeg) = 1 → (Q .null μ))))))) : AA (Call d) y_Laws_age Q 0 [.ref 20, .int a, .ref 1, un] [] μ := go_in 14 (code := pr_Laws_age) (stops := [14]) rfl rfl hNF
set_option maxRecDepth 20000 in
theorem b_Laws_age_u_14 {d : Nat} {Q : QQ} {μ : Mem} {l1 : Int32} {l3 : Int32} (hNF : ((Int32.ofNat 8) ≤ l3 → (Q .null μ)) ∧
(¬ (Int32.ofNat 8) ≤ l3 → (vp_in l3 8 ∧ (Call d y_Laws_aged [.ref 20, .int l1, .int (μ.1 1 l3.toNatClampNeg)] μ (fun ρ μ1 => ∃ r2 : Int32, ρ = .int r2 ∧ (vp_in l3 8 ∧ ∀ μ3 : Mem, μ3 = wI μ1 1 (upd (μ1.1 1) l3.toNatClampNeg (if r2 < 0 then 0 else r2)) → (AA (Call d) y_Laws_age Q 14 [.ref 20, .int l1, .ref 1, .int (l3 + 1)] [] μ3))))))) : AA (Call d) y_Laws_age Q 14 [.ref 20, .int l1, .ref 1, .int l3] [] μ := go_in 18 (code := pr_Laws_age) (stops := [14]) rfl rfl hNF
set_option maxRecDepth 20000 in
theorem b_Laws_age_d_0 {d : Nat} {Q : QQ} {μ : Mem} {a : Int32} (hNF : vp_in a 6 ∧ (((μ.1 21 a.toNatClampNeg) = 0 → (Q .null μ)) ∧
(¬ (μ.1 21 a.toNatClampNeg) = 0 → (vp_in a 6 ∧ ((¬ (μ.1 21 a.toNatClampNeg) = 1 → (AA (Call d) y_Laws_age Q 14 [.ref 20, .int a, .ref 45, .int 0] [] μ)) ∧
((μ.1 21 a.toNatClampNeg) = 1 → (Q .null μ))))))) : AA (Call d) y_Laws_age Q 0 [.ref 20, .int a, .ref 45, un] [] μ := go_in 14 (code := pr_Laws_age) (stops := [14]) rfl rfl hNF
set_option maxRecDepth 20000 in
theorem b_Laws_age_d_14 {d : Nat} {Q : QQ} {μ : Mem} {l1 : Int32} {l3 : Int32} (hNF : ((Int32.ofNat 8) ≤ l3 → (Q .null μ)) ∧
(¬ (Int32.ofNat 8) ≤ l3 → (vp_in l3 8 ∧ (Call d y_Laws_aged [.ref 20, .int l1, .int (μ.1 45 l3.toNatClampNeg)] μ (fun ρ μ1 => ∃ r2 : Int32, ρ = .int r2 ∧ (vp_in l3 8 ∧ ∀ μ3 : Mem, μ3 = wI μ1 45 (upd (μ1.1 45) l3.toNatClampNeg (if r2 < 0 then 0 else r2)) → (AA (Call d) y_Laws_age Q 14 [.ref 20, .int l1, .ref 45, .int (l3 + 1)] [] μ3))))))) : AA (Call d) y_Laws_age Q 14 [.ref 20, .int l1, .ref 45, .int l3] [] μ := go_in 18 (code := pr_Laws_age) (stops := [14]) rfl rfl hNF
set_option maxRecDepth 20000 in
theorem b_Laws_aged_0 {d : Nat} {Q : QQ} {μ : Mem} {a : Int32} {b : Int32} (hNF : vp_in a 6 ∧ (((μ.1 21 a.toNatClampNeg) = 2 → (vp_in a 6 ∧ (Q (.int (b - (μ.1 22 a.toNatClampNeg))) μ))) ∧
(¬ (μ.1 21 a.toNatClampNeg) = 2 → (((μ.1 21 a.toNatClampNeg) = 3 → (Q (.int (b - 1)) μ)) ∧
(¬ (μ.1 21 a.toNatClampNeg) = 3 → (((μ.1 21 a.toNatClampNeg) = 4 → (vp_in a 6 ∧ (Q (.int (b - (μ.1 22 a.toNatClampNeg))) μ))) ∧
(¬ (μ.1 21 a.toNatClampNeg) = 4 → (((μ.1 21 a.toNatClampNeg) = 5 → (vp_in a 6 ∧ (((μ.1 22 a.toNatClampNeg) ≤ b → (Q (.int b) μ)) ∧
(¬ (μ.1 22 a.toNatClampNeg) ≤ b → (Q (.int 0) μ))))) ∧
(¬ (μ.1 21 a.toNatClampNeg) = 5 → (Q (.int b) μ)))))))))) : AA (Call d) y_Laws_aged Q 0 [.ref 20, .int a, .int b] [] μ := go_in 14 (code := pr_Laws_aged) (stops := []) rfl rfl hNF
set_option maxRecDepth 20000 in
theorem b_Reader_append_0 {d : Nat} {Q : QQ} {μ : Mem} {a : Int32} (hNF : ((μ.1 23 1) < 160 → (∀ μ1 : Mem, μ1 = wI μ 23 (upd (μ.1 23) 1 ((μ.1 23 1) + 1)) → (vp_in (μ.1 23 1) 160 ∧ ∀ μ2 : Mem, μ2 = wI μ1 24 (upd (μ1.1 24) (Int32.toNatClampNeg (μ.1 23 1)) a) → (narrow .boolean (.int 1) = .int 1 ∧ Q (.int 1) μ2)))) ∧
(¬ (μ.1 23 1) < 160 → (narrow .boolean (.int 0) = .int 0 ∧ Q (.int 0) μ))) : AA (Call d) y_Reader_append Q 0 [.ref 23, .int a] [] μ := go_in 17 (code := pr_Reader_append) (stops := []) rfl rfl hNF
set_option maxRecDepth 20000 in
theorem b_Reader_load_0 {d : Nat} {Q : QQ} {μ : Mem} (hNF : AA (Call d) y_Reader_load Q 2 [.ref 23, .ref 66, .int 0] [] μ) : AA (Call d) y_Reader_load Q 0 [.ref 23, .ref 66, un] [] μ := go_in 3 (code := pr_Reader_load) (stops := [2]) rfl rfl hNF
set_option maxRecDepth 20000 in
theorem b_Reader_load_2 {d : Nat} {Q : QQ} {μ : Mem} {l2 : Int32} (hNF : Call d y_Str_length [.ref 66] μ (fun ρ μ1 => ∃ r2 : Int32, ρ = .int r2 ∧ ((r2 ≤ l2 → (Q .null μ1)) ∧
(¬ r2 ≤ l2 → (Call d y_Str_charAt [.ref 66, .int l2] μ1 (fun ρ μ3 => ∃ r4 : Int32, ρ = .int r4 ∧ (Call d y_Reader_append [.ref 23, .int r4] μ3 (fun ρ μ5 => ∃ r6 : Int32, ρ = .int r6 ∧ (AA (Call d) y_Reader_load Q 2 [.ref 23, .ref 66, .int (l2 + 1)] [] μ5))))))))) : AA (Call d) y_Reader_load Q 2 [.ref 23, .ref 66, .int l2] [] μ := go_in 13 (code := pr_Reader_load) (stops := [2]) rfl rfl hNF
set_option maxRecDepth 20000 in
theorem b_Reader_read_0 {d : Nat} {Q : QQ} {μ : Mem} (hNF : ∀ μ1 : Mem, μ1 = wI μ 23 (upd (μ.1 23) 4 0) → (∀ μ2 : Mem, μ2 = wI μ1 23 (upd (μ1.1 23) 8 (-1)) → (∀ μ3 : Mem, μ3 = wI μ2 23 (upd (μ2.1 23) 9 0) → (Call d y_Reader_next [.ref 23] μ3 (fun _ μ4 => (AA (Call d) y_Reader_read Q 13 [.ref 23, .int 0] [] μ4)))))) : AA (Call d) y_Reader_read Q 0 [.ref 23, un] [] μ := go_in 14 (code := pr_Reader_read) (stops := [13]) rfl rfl hNF
set_option maxRecDepth 20000 in
theorem b_Reader_read_13 {d : Nat} {Q : QQ} {μ : Mem} {l1 : Int32} (hNF : ((3 : Int32) ≤ l1 → (Call d y_Reader_expect [.ref 23, .int 0] μ (fun _ μ1 => (∀ μ2 : Mem, μ2 = wI μ1 23 (upd (μ1.1 23) 1 0) → (Q (.int (μ2.1 23 8)) μ2))))) ∧
(¬ (3 : Int32) ≤ l1 → (Call d y_Reader_expect [.ref 23, .int (256 + l1)] μ (fun _ μ3 => (Call d y_Reader_readE [.ref 23, .int 0] μ3 (fun _ μ4 => (Call d y_Reader_expect [.ref 23, .int 59] μ4 (fun _ μ5 => (vp_in l1 3 ∧ ∀ μ6 : Mem, μ6 = wI μ5 26 (upd (μ5.1 26) l1.toNatClampNeg (μ5.1 23 9)) → (AA (Call d) y_Reader_read Q 13 [.ref 23, .int (l1 + 1)] [] μ6)))))))))) : AA (Call d) y_Reader_read Q 13 [.ref 23, .int l1] [] μ := go_in 23 (code := pr_Reader_read) (stops := [13]) rfl rfl hNF
set_option maxRecDepth 20000 in
theorem b_Reader_refuse_0 {d : Nat} {Q : QQ} {μ : Mem} (hNF : (¬ (μ.1 23 8) = (-1) → (∀ μ1 : Mem, μ1 = wI μ 23 (upd (μ.1 23) 5 1) → (Q .null μ1))) ∧
((μ.1 23 8) = (-1) → (∀ μ2 : Mem, μ2 = wI μ 23 (upd (μ.1 23) 8 (μ.1 23 6)) → (∀ μ3 : Mem, μ3 = wI μ2 23 (upd (μ2.1 23) 5 1) → (Q .null μ3))))) : AA (Call d) y_Reader_refuse Q 0 [.ref 23] [] μ := go_in 12 (code := pr_Reader_refuse) (stops := []) rfl rfl hNF
set_option maxRecDepth 20000 in
theorem b_Reader_expect_0 {d : Nat} {Q : QQ} {μ : Mem} {a : Int32} (hNF : (¬ (μ.1 23 5) = a → (Call d y_Reader_refuse [.ref 23] μ (fun _ μ1 => (Q .null μ1)))) ∧
((μ.1 23 5) = a → (Call d y_Reader_next [.ref 23] μ (fun _ μ2 => (Q .null μ2))))) : AA (Call d) y_Reader_expect Q 0 [.ref 23, .int a] [] μ := go_in 8 (code := pr_Reader_expect) (stops := []) rfl rfl hNF
set_option maxRecDepth 20000 in
theorem b_Reader_emit_0 {d : Nat} {Q : QQ} {μ : Mem} {a : Int32} (hNF : ((160 : Int32) ≤ (μ.1 23 9) → (Q .null μ)) ∧
(¬ (160 : Int32) ≤ (μ.1 23 9) → (∀ μ1 : Mem, μ1 = wI μ 23 (upd (μ.1 23) 9 ((μ.1 23 9) + 1)) → (vp_in (μ.1 23 9) 160 ∧ ∀ μ2 : Mem, μ2 = wI μ1 25 (upd (μ1.1 25) (Int32.toNatClampNeg (μ.1 23 9)) a) → (Q .null μ2))))) : AA (Call d) y_Reader_emit Q 0 [.ref 23, .int a] [] μ := go_in 16 (code := pr_Reader_emit) (stops := []) rfl rfl hNF
set_option maxRecDepth 20000 in
theorem b_Reader_readE_0 {d : Nat} {Q : QQ} {μ : Mem} {a : Int32} (hNF : Call d y_Reader_readAnd [.ref 23, .int a] μ (fun _ μ1 => (AA (Call d) y_Reader_readE Q 5 [.ref 23, .int a, .int 0] [] μ1))) : AA (Call d) y_Reader_readE Q 0 [.ref 23, .int a, un] [] μ := go_in 6 (code := pr_Reader_readE) (stops := [5]) rfl rfl hNF
set_option maxRecDepth 20000 in
theorem b_Reader_readE_5 {d : Nat} {Q : QQ} {μ : Mem} {l1 : Int32} {l2 : Int32} (hNF : ((160 : Int32) ≤ l2 → (Q .null μ)) ∧
(¬ (160 : Int32) ≤ l2 → ((¬ (μ.1 23 5) = 259 → (Q .null μ)) ∧
((μ.1 23 5) = 259 → (Call d y_Reader_next [.ref 23] μ (fun _ μ1 => (Call d y_Reader_readAnd [.ref 23, .int l1] μ1 (fun _ μ2 => (Call d y_Reader_emit [.ref 23, .int (-259)] μ2 (fun _ μ3 => (AA (Call d) y_Reader_readE Q 5 [.ref 23, .int l1, .int (l2 + 1)] [] μ3))))))))))) : AA (Call d) y_Reader_readE Q 5 [.ref 23, .int l1, .int l2] [] μ := go_in 18 (code := pr_Reader_readE) (stops := [5]) rfl rfl hNF
set_option maxRecDepth 20000 in
theorem b_Reader_readAnd_0 {d : Nat} {Q : QQ} {μ : Mem} {a : Int32} (hNF : Call d y_Reader_readNot [.ref 23, .int a] μ (fun _ μ1 => (AA (Call d) y_Reader_readAnd Q 5 [.ref 23, .int a, .int 0] [] μ1))) : AA (Call d) y_Reader_readAnd Q 0 [.ref 23, .int a, un] [] μ := go_in 6 (code := pr_Reader_readAnd) (stops := [5]) rfl rfl hNF
set_option maxRecDepth 20000 in
theorem b_Reader_readAnd_5 {d : Nat} {Q : QQ} {μ : Mem} {l1 : Int32} {l2 : Int32} (hNF : ((160 : Int32) ≤ l2 → (Q .null μ)) ∧
(¬ (160 : Int32) ≤ l2 → ((¬ (μ.1 23 5) = 260 → (Q .null μ)) ∧
((μ.1 23 5) = 260 → (Call d y_Reader_next [.ref 23] μ (fun _ μ1 => (Call d y_Reader_readNot [.ref 23, .int l1] μ1 (fun _ μ2 => (Call d y_Reader_emit [.ref 23, .int (-260)] μ2 (fun _ μ3 => (AA (Call d) y_Reader_readAnd Q 5 [.ref 23, .int l1, .int (l2 + 1)] [] μ3))))))))))) : AA (Call d) y_Reader_readAnd Q 5 [.ref 23, .int l1, .int l2] [] μ := go_in 18 (code := pr_Reader_readAnd) (stops := [5]) rfl rfl hNF
set_option maxRecDepth 20000 in
theorem b_Reader_readNot_0 {d : Nat} {Q : QQ} {μ : Mem} {a : Int32} (hNF : ((μ.1 23 5) = 261 → (((5 : Int32) ≤ a → (Call d y_Reader_refuse [.ref 23] μ (fun _ μ1 => (Q .null μ1)))) ∧
(¬ (5 : Int32) ≤ a → (Call d y_Reader_next [.ref 23] μ (fun _ μ2 => (Call d y_Reader_readNot [.ref 23, .int (a + 1)] μ2 (fun _ μ3 => (Call d y_Reader_emit [.ref 23, .int (-261)] μ3 (fun _ μ4 => (Q .null μ4)))))))))) ∧
(¬ (μ.1 23 5) = 261 → (Call d y_Reader_readCompared [.ref 23, .int a] μ (fun _ μ5 => (Q .null μ5))))) : AA (Call d) y_Reader_readNot Q 0 [.ref 23, .int a] [] μ := go_in 19 (code := pr_Reader_readNot) (stops := []) rfl rfl hNF
set_option maxRecDepth 20000 in
theorem b_Reader_readCompared_0 {d : Nat} {Q : QQ} {μ : Mem} {a : Int32} (hNF : Call d y_Reader_readSum [.ref 23, .int a] μ (fun _ μ1 => (((μ1.1 23 5) = 60 → (Call d y_Reader_next [.ref 23] μ1 (fun _ μ2 => (Call d y_Reader_readSum [.ref 23, .int a] μ2 (fun _ μ3 => (Call d y_Reader_emit [.ref 23, .int (-(μ1.1 23 5))] μ3 (fun _ μ4 => (Q .null μ4)))))))) ∧
(¬ (μ1.1 23 5) = 60 → ((¬ (μ1.1 23 5) = 61 → (Q .null μ1)) ∧
((μ1.1 23 5) = 61 → (Call d y_Reader_next [.ref 23] μ1 (fun _ μ5 => (Call d y_Reader_readSum [.ref 23, .int a] μ5 (fun _ μ6 => (Call d y_Reader_emit [.ref 23, .int (-(μ1.1 23 5))] μ6 (fun _ μ7 => (Q .null μ7))))))))))))) : AA (Call d) y_Reader_readCompared Q 0 [.ref 23, .int a, un] [] μ := go_in 24 (code := pr_Reader_readCompared) (stops := []) rfl rfl hNF
set_option maxRecDepth 20000 in
theorem b_Reader_readSum_0 {d : Nat} {Q : QQ} {μ : Mem} {a : Int32} (hNF : Call d y_Reader_readTerm [.ref 23, .int a] μ (fun _ μ1 => (AA (Call d) y_Reader_readSum Q 5 [.ref 23, .int a, .int 0, un] [] μ1))) : AA (Call d) y_Reader_readSum Q 0 [.ref 23, .int a, un, un] [] μ := go_in 6 (code := pr_Reader_readSum) (stops := [5]) rfl rfl hNF
set_option maxRecDepth 20000 in
theorem b_Reader_readSum_5 {d : Nat} {Q : QQ} {μ : Mem} {l1 : Int32} {l2 : Int32} (hNF : ((160 : Int32) ≤ l2 → (Q .null μ)) ∧
(¬ (160 : Int32) ≤ l2 → (((μ.1 23 5) = 43 → (Call d y_Reader_next [.ref 23] μ (fun _ μ1 => (Call d y_Reader_readTerm [.ref 23, .int l1] μ1 (fun _ μ2 => (Call d y_Reader_emit [.ref 23, .int (-(μ.1 23 5))] μ2 (fun _ μ3 => (AA (Call d) y_Reader_readSum Q 5 [.ref 23, .int l1, .int (l2 + 1), .int (μ.1 23 5)] [] μ3)))))))) ∧
(¬ (μ.1 23 5) = 43 → ((¬ (μ.1 23 5) = 45 → (Q .null μ)) ∧
((μ.1 23 5) = 45 → (Call d y_Reader_next [.ref 23] μ (fun _ μ4 => (Call d y_Reader_readTerm [.ref 23, .int l1] μ4 (fun _ μ5 => (Call d y_Reader_emit [.ref 23, .int (-(μ.1 23 5))] μ5 (fun _ μ6 => (AA (Call d) y_Reader_readSum Q 5 [.ref 23, .int l1, .int (l2 + 1), .int (μ.1 23 5)] [] μ6))))))))))))) : AA (Call d) y_Reader_readSum Q 5 [.ref 23, .int l1, .int l2, un] [] μ := go_in 26 (code := pr_Reader_readSum) (stops := [5]) rfl rfl hNF
set_option maxRecDepth 20000 in
theorem b_Reader_readTerm_0 {d : Nat} {Q : QQ} {μ : Mem} {a : Int32} (hNF : Call d y_Reader_readOne [.ref 23, .int a] μ (fun _ μ1 => (AA (Call d) y_Reader_readTerm Q 5 [.ref 23, .int a, .int 0] [] μ1))) : AA (Call d) y_Reader_readTerm Q 0 [.ref 23, .int a, un] [] μ := go_in 6 (code := pr_Reader_readTerm) (stops := [5]) rfl rfl hNF
set_option maxRecDepth 20000 in
theorem b_Reader_readTerm_5 {d : Nat} {Q : QQ} {μ : Mem} {l1 : Int32} {l2 : Int32} (hNF : ((160 : Int32) ≤ l2 → (Q .null μ)) ∧
(¬ (160 : Int32) ≤ l2 → ((¬ (μ.1 23 5) = 42 → (Q .null μ)) ∧
((μ.1 23 5) = 42 → (Call d y_Reader_next [.ref 23] μ (fun _ μ1 => (Call d y_Reader_readOne [.ref 23, .int l1] μ1 (fun _ μ2 => (Call d y_Reader_emit [.ref 23, .int (-42)] μ2 (fun _ μ3 => (AA (Call d) y_Reader_readTerm Q 5 [.ref 23, .int l1, .int (l2 + 1)] [] μ3))))))))))) : AA (Call d) y_Reader_readTerm Q 5 [.ref 23, .int l1, .int l2] [] μ := go_in 18 (code := pr_Reader_readTerm) (stops := [5]) rfl rfl hNF
set_option maxRecDepth 20000 in
theorem b_Reader_readOne_0 {d : Nat} {Q : QQ} {μ : Mem} {a : Int32} (hNF : (¬ (μ.1 23 5) = 2 → ((¬ (μ.1 23 5) = 3 → ((¬ (μ.1 23 5) = 45 → ((¬ (μ.1 23 5) = 40 → (Call d y_Reader_refuse [.ref 23] μ (fun _ μ1 => (Q .null μ1)))) ∧
((μ.1 23 5) = 40 → (((5 : Int32) ≤ a → (Call d y_Reader_refuse [.ref 23] μ (fun _ μ2 => (Q .null μ2)))) ∧
(¬ (5 : Int32) ≤ a → (Call d y_Reader_next [.ref 23] μ (fun _ μ3 => (Call d y_Reader_readE [.ref 23, .int (a + 1)] μ3 (fun _ μ4 => (Call d y_Reader_expect [.ref 23, .int 41] μ4 (fun _ μ5 => (Q .null μ5)))))))))))) ∧
((μ.1 23 5) = 45 → (((5 : Int32) ≤ a → ((¬ (μ.1 23 5) = 40 → (Call d y_Reader_refuse [.ref 23] μ (fun _ μ6 => (Q .null μ6)))) ∧
((μ.1 23 5) = 40 → (((5 : Int32) ≤ a → (Call d y_Reader_refuse [.ref 23] μ (fun _ μ7 => (Q .null μ7)))) ∧
(¬ (5 : Int32) ≤ a → (Call d y_Reader_next [.ref 23] μ (fun _ μ8 => (Call d y_Reader_readE [.ref 23, .int (a + 1)] μ8 (fun _ μ9 => (Call d y_Reader_expect [.ref 23, .int 41] μ9 (fun _ μ10 => (Q .null μ10)))))))))))) ∧
(¬ (5 : Int32) ≤ a → (Call d y_Reader_next [.ref 23] μ (fun _ μ11 => (Call d y_Reader_readOne [.ref 23, .int (a + 1)] μ11 (fun _ μ12 => (Call d y_Reader_emit [.ref 23, .int (-262)] μ12 (fun _ μ13 => (Q .null μ13)))))))))))) ∧
((μ.1 23 5) = 3 → (Call d y_Reader_emit [.ref 23, .int ((-1) - (μ.1 23 7))] μ (fun _ μ14 => (Call d y_Reader_next [.ref 23] μ14 (fun _ μ15 => (Q .null μ15)))))))) ∧
((μ.1 23 5) = 2 → (Call d y_Reader_emit [.ref 23, .int (μ.1 23 7)] μ (fun _ μ16 => (Call d y_Reader_next [.ref 23] μ16 (fun _ μ17 => (Q .null μ17))))))) : AA (Call d) y_Reader_readOne Q 0 [.ref 23, .int a] [] μ := go_in 34 (code := pr_Reader_readOne) (stops := []) rfl rfl hNF
set_option maxRecDepth 20000 in
theorem b_Reader_next_0 {d : Nat} {Q : QQ} {μ : Mem} (hNF : ((μ.1 23 1) ≤ (μ.1 23 4) → (∀ μ1 : Mem, μ1 = wI μ 23 (upd (μ.1 23) 6 (μ.1 23 4)) → (((μ1.1 23 4) < (μ1.1 23 1) → (vp_in (μ1.1 23 4) 160 ∧ (Call d y_Reader_isLetter [.int (μ1.1 24 (Int32.toNatClampNeg (μ1.1 23 4)))] μ1 (fun ρ μ2 => ∃ r3 : Int32, ρ = .int r3 ∧ ((r3 = 0 → (vp_in (μ2.1 23 4) 160 ∧ (Call d y_Reader_isDigit [.int (μ2.1 24 (Int32.toNatClampNeg (μ2.1 23 4)))] μ2 (fun ρ μ4 => ∃ r5 : Int32, ρ = .int r5 ∧ ((r5 = 0 → (vp_in (μ4.1 23 4) 160 ∧ (Call d y_Str_indexOf [.ref 70, .int (((Int32.toUInt32 (μ4.1 24 (Int32.toNatClampNeg (μ4.1 23 4)))) % 65536).toInt32)] μ4 (fun ρ μ6 => ∃ r7 : Int32, ρ = .int r7 ∧ ((r7 < 0 → (∀ μ8 : Mem, μ8 = wI μ6 23 (upd (μ6.1 23) 5 1) → (∀ μ9 : Mem, μ9 = wI μ8 23 (upd (μ8.1 23) 4 ((μ8.1 23 4) + 1)) → (Q .null μ9)))) ∧
(¬ r7 < 0 → (vp_in (μ6.1 23 4) 160 ∧ ∀ μ10 : Mem, μ10 = wI μ6 23 (upd (μ6.1 23) 5 (μ6.1 24 (Int32.toNatClampNeg (μ6.1 23 4)))) → (∀ μ11 : Mem, μ11 = wI μ10 23 (upd (μ10.1 23) 4 ((μ10.1 23 4) + 1)) → (Q .null μ11))))))))) ∧
(¬ r5 = 0 → (Call d y_Reader_nextNumber [.ref 23] μ4 (fun _ μ12 => (Q .null μ12))))))))) ∧
(¬ r3 = 0 → (Call d y_Reader_nextWord [.ref 23] μ2 (fun _ μ13 => (Q .null μ13))))))))) ∧
(¬ (μ1.1 23 4) < (μ1.1 23 1) → (∀ μ14 : Mem, μ14 = wI μ1 23 (upd (μ1.1 23) 5 0) → (Q .null μ14)))))) ∧
(¬ (μ.1 23 1) ≤ (μ.1 23 4) → (vp_in (μ.1 23 4) 160 ∧ (Call d y_Reader_isBlank [.int (μ.1 24 (Int32.toNatClampNeg (μ.1 23 4)))] μ (fun ρ μ15 => ∃ r16 : Int32, ρ = .int r16 ∧ ((r16 = 0 → (∀ μ17 : Mem, μ17 = wI μ15 23 (upd (μ15.1 23) 6 (μ15.1 23 4)) → (((μ17.1 23 4) < (μ17.1 23 1) → (vp_in (μ17.1 23 4) 160 ∧ (Call d y_Reader_isLetter [.int (μ17.1 24 (Int32.toNatClampNeg (μ17.1 23 4)))] μ17 (fun ρ μ18 => ∃ r19 : Int32, ρ = .int r19 ∧ ((r19 = 0 → (vp_in (μ18.1 23 4) 160 ∧ (Call d y_Reader_isDigit [.int (μ18.1 24 (Int32.toNatClampNeg (μ18.1 23 4)))] μ18 (fun ρ μ20 => ∃ r21 : Int32, ρ = .int r21 ∧ ((r21 = 0 → (vp_in (μ20.1 23 4) 160 ∧ (Call d y_Str_indexOf [.ref 70, .int (((Int32.toUInt32 (μ20.1 24 (Int32.toNatClampNeg (μ20.1 23 4)))) % 65536).toInt32)] μ20 (fun ρ μ22 => ∃ r23 : Int32, ρ = .int r23 ∧ ((r23 < 0 → (∀ μ24 : Mem, μ24 = wI μ22 23 (upd (μ22.1 23) 5 1) → (∀ μ25 : Mem, μ25 = wI μ24 23 (upd (μ24.1 23) 4 ((μ24.1 23 4) + 1)) → (Q .null μ25)))) ∧
(¬ r23 < 0 → (vp_in (μ22.1 23 4) 160 ∧ ∀ μ26 : Mem, μ26 = wI μ22 23 (upd (μ22.1 23) 5 (μ22.1 24 (Int32.toNatClampNeg (μ22.1 23 4)))) → (∀ μ27 : Mem, μ27 = wI μ26 23 (upd (μ26.1 23) 4 ((μ26.1 23 4) + 1)) → (Q .null μ27))))))))) ∧
(¬ r21 = 0 → (Call d y_Reader_nextNumber [.ref 23] μ20 (fun _ μ28 => (Q .null μ28))))))))) ∧
(¬ r19 = 0 → (Call d y_Reader_nextWord [.ref 23] μ18 (fun _ μ29 => (Q .null μ29))))))))) ∧
(¬ (μ17.1 23 4) < (μ17.1 23 1) → (∀ μ30 : Mem, μ30 = wI μ17 23 (upd (μ17.1 23) 5 0) → (Q .null μ30)))))) ∧
(¬ r16 = 0 → (∀ μ31 : Mem, μ31 = wI μ15 23 (upd (μ15.1 23) 4 ((μ15.1 23 4) + 1)) → (AA (Call d) y_Reader_next Q 0 [.ref 23] [] μ31))))))))) : AA (Call d) y_Reader_next Q 0 [.ref 23] [] μ := go_in 59 (code := pr_Reader_next) (stops := [0]) rfl rfl hNF
set_option maxRecDepth 20000 in
theorem b_Reader_nextWord_0 {d : Nat} {Q : QQ} {μ : Mem} (hNF : ((μ.1 23 1) ≤ (μ.1 23 4) → (Call d y_Reader_knownWord [.ref 23] μ (fun ρ μ1 => ∃ r2 : Int32, ρ = .int r2 ∧ ((¬ r2 = (-1) → (((6 : Int32) ≤ r2 → (∀ μ3 : Mem, μ3 = wI μ1 23 (upd (μ1.1 23) 5 3) → (∀ μ4 : Mem, μ4 = wI μ3 23 (upd (μ3.1 23) 7 (r2 - 6)) → (Q .null μ4)))) ∧
(¬ (6 : Int32) ≤ r2 → (∀ μ5 : Mem, μ5 = wI μ1 23 (upd (μ1.1 23) 5 (256 + r2)) → (Q .null μ5))))) ∧
(r2 = (-1) → (∀ μ6 : Mem, μ6 = wI μ1 23 (upd (μ1.1 23) 5 1) → (Q .null μ6))))))) ∧
(¬ (μ.1 23 1) ≤ (μ.1 23 4) → (vp_in (μ.1 23 4) 160 ∧ (Call d y_Reader_isLetter [.int (μ.1 24 (Int32.toNatClampNeg (μ.1 23 4)))] μ (fun ρ μ7 => ∃ r8 : Int32, ρ = .int r8 ∧ ((r8 = 0 → (Call d y_Reader_knownWord [.ref 23] μ7 (fun ρ μ9 => ∃ r10 : Int32, ρ = .int r10 ∧ ((¬ r10 = (-1) → (((6 : Int32) ≤ r10 → (∀ μ11 : Mem, μ11 = wI μ9 23 (upd (μ9.1 23) 5 3) → (∀ μ12 : Mem, μ12 = wI μ11 23 (upd (μ11.1 23) 7 (r10 - 6)) → (Q .null μ12)))) ∧
(¬ (6 : Int32) ≤ r10 → (∀ μ13 : Mem, μ13 = wI μ9 23 (upd (μ9.1 23) 5 (256 + r10)) → (Q .null μ13))))) ∧
(r10 = (-1) → (∀ μ14 : Mem, μ14 = wI μ9 23 (upd (μ9.1 23) 5 1) → (Q .null μ14))))))) ∧
(¬ r8 = 0 → (∀ μ15 : Mem, μ15 = wI μ7 23 (upd (μ7.1 23) 4 ((μ7.1 23 4) + 1)) → (AA (Call d) y_Reader_nextWord Q 0 [.ref 23, un] [] μ15))))))))) : AA (Call d) y_Reader_nextWord Q 0 [.ref 23, un] [] μ := go_in 30 (code := pr_Reader_nextWord) (stops := [0]) rfl rfl hNF
set_option maxRecDepth 20000 in
theorem b_Reader_nextNumber_0 {d : Nat} {Q : QQ} {μ : Mem} (hNF : ∀ μ1 : Mem, μ1 = wI μ 23 (upd (μ.1 23) 7 0) → (AA (Call d) y_Reader_nextNumber Q 3 [.ref 23] [] μ1)) : AA (Call d) y_Reader_nextNumber Q 0 [.ref 23] [] μ := go_in 4 (code := pr_Reader_nextNumber) (stops := [3]) rfl rfl hNF
set_option maxRecDepth 20000 in
theorem b_Reader_nextNumber_3 {d : Nat} {Q : QQ} {μ : Mem} (hNF : ((μ.1 23 1) ≤ (μ.1 23 4) → (((4 : Int32) < ((μ.1 23 4) - (μ.1 23 6)) → (∀ μ1 : Mem, μ1 = wI μ 23 (upd (μ.1 23) 5 1) → (Q .null μ1))) ∧
(¬ (4 : Int32) < ((μ.1 23 4) - (μ.1 23 6)) → (∀ μ2 : Mem, μ2 = wI μ 23 (upd (μ.1 23) 5 2) → (Q .null μ2))))) ∧
(¬ (μ.1 23 1) ≤ (μ.1 23 4) → (vp_in (μ.1 23 4) 160 ∧ (Call d y_Reader_isDigit [.int (μ.1 24 (Int32.toNatClampNeg (μ.1 23 4)))] μ (fun ρ μ3 => ∃ r4 : Int32, ρ = .int r4 ∧ ((r4 = 0 → (((4 : Int32) < ((μ3.1 23 4) - (μ3.1 23 6)) → (∀ μ5 : Mem, μ5 = wI μ3 23 (upd (μ3.1 23) 5 1) → (Q .null μ5))) ∧
(¬ (4 : Int32) < ((μ3.1 23 4) - (μ3.1 23 6)) → (∀ μ6 : Mem, μ6 = wI μ3 23 (upd (μ3.1 23) 5 2) → (Q .null μ6))))) ∧
(¬ r4 = 0 → (vp_in (μ3.1 23 4) 160 ∧ ∀ μ7 : Mem, μ7 = wI μ3 23 (upd (μ3.1 23) 7 ((((μ3.1 23 7) * 10) + (μ3.1 24 (Int32.toNatClampNeg (μ3.1 23 4)))) - 48)) → (∀ μ8 : Mem, μ8 = wI μ7 23 (upd (μ7.1 23) 4 ((μ7.1 23 4) + 1)) → (AA (Call d) y_Reader_nextNumber Q 3 [.ref 23] [] μ8)))))))))) : AA (Call d) y_Reader_nextNumber Q 3 [.ref 23] [] μ := go_in 34 (code := pr_Reader_nextNumber) (stops := [3]) rfl rfl hNF
set_option maxRecDepth 20000 in
theorem b_Reader_knownWord_0 {d : Nat} {Q : QQ} {μ : Mem} (hNF : AA (Call d) y_Reader_knownWord Q 9 [.ref 23, .int 0, .int (μ.1 23 6), .int 1, .int 0] [] μ) : AA (Call d) y_Reader_knownWord Q 0 [.ref 23, un, un, un, un] [] μ := go_in 10 (code := pr_Reader_knownWord) (stops := [9]) rfl rfl hNF
set_option maxRecDepth 20000 in
theorem b_Reader_knownWord_9 {d : Nat} {Q : QQ} {μ : Mem} {l1 : Int32} {l2 : Int32} {l3 : Int32} {l4 : Int32} (hNF : Call d y_Str_length [.ref 68] μ (fun ρ μ1 => ∃ r2 : Int32, ρ = .int r2 ∧ ((r2 ≤ l4 → (Q (.int (-1)) μ1)) ∧
(¬ r2 ≤ l4 → (Call d y_Str_charAt [.ref 68, .int l4] μ1 (fun ρ μ3 => ∃ r4 : Int32, ρ = .int r4 ∧ ((¬ r4 = 32 → ((l3 = 0 → (AA (Call d) y_Reader_knownWord Q 9 [.ref 23, .int l1, .int l2, .int 0, .int (l4 + 1)] [] μ3)) ∧
(¬ l3 = 0 → (((μ3.1 23 4) ≤ l2 → (AA (Call d) y_Reader_knownWord Q 9 [.ref 23, .int l1, .int l2, .int 0, .int (l4 + 1)] [] μ3)) ∧
(¬ (μ3.1 23 4) ≤ l2 → (vp_in l2 160 ∧ (Call d y_Str_charAt [.ref 68, .int l4] μ3 (fun ρ μ5 => ∃ r6 : Int32, ρ = .int r6 ∧ ((¬ (μ3.1 24 l2.toNatClampNeg) = r6 → (AA (Call d) y_Reader_knownWord Q 9 [.ref 23, .int l1, .int l2, .int 0, .int (l4 + 1)] [] μ5)) ∧
((μ3.1 24 l2.toNatClampNeg) = r6 → (AA (Call d) y_Reader_knownWord Q 9 [.ref 23, .int l1, .int (l2 + 1), .int l3, .int (l4 + 1)] [] μ5))))))))))) ∧
(r4 = 32 → ((l3 = 0 → (AA (Call d) y_Reader_knownWord Q 9 [.ref 23, .int (l1 + 1), .int (μ3.1 23 6), .int 1, .int (l4 + 1)] [] μ3)) ∧
(¬ l3 = 0 → ((¬ l2 = (μ3.1 23 4) → (AA (Call d) y_Reader_knownWord Q 9 [.ref 23, .int (l1 + 1), .int (μ3.1 23 6), .int 1, .int (l4 + 1)] [] μ3)) ∧
(l2 = (μ3.1 23 4) → (Q (.int l1) μ3))))))))))))) : AA (Call d) y_Reader_knownWord Q 9 [.ref 23, .int l1, .int l2, .int l3, .int l4] [] μ := go_in 28 (code := pr_Reader_knownWord) (stops := [9]) rfl rfl hNF
set_option maxRecDepth 20000 in
theorem b_Reader_isBlank_0 {d : Nat} {Q : QQ} {μ : Mem} {a : Int32} (hNF : (a = 32 → (narrow .boolean (.int 1) = .int 1 ∧ Q (.int 1) μ)) ∧
(¬ a = 32 → ((¬ a = 10 → (narrow .boolean (.int 0) = .int 0 ∧ Q (.int 0) μ)) ∧
(a = 10 → (narrow .boolean (.int 1) = .int 1 ∧ Q (.int 1) μ))))) : AA (Call d) y_Reader_isBlank Q 0 [.int a] [] μ := go_in 9 (code := pr_Reader_isBlank) (stops := []) rfl rfl hNF
set_option maxRecDepth 20000 in
theorem b_Reader_isLetter_0 {d : Nat} {Q : QQ} {μ : Mem} {a : Int32} (hNF : (a < 97 → (narrow .boolean (.int 0) = .int 0 ∧ Q (.int 0) μ)) ∧
(¬ a < 97 → (((122 : Int32) < a → (narrow .boolean (.int 0) = .int 0 ∧ Q (.int 0) μ)) ∧
(¬ (122 : Int32) < a → (narrow .boolean (.int 1) = .int 1 ∧ Q (.int 1) μ))))) : AA (Call d) y_Reader_isLetter Q 0 [.int a] [] μ := go_in 9 (code := pr_Reader_isLetter) (stops := []) rfl rfl hNF
set_option maxRecDepth 20000 in
theorem b_Reader_isDigit_0 {d : Nat} {Q : QQ} {μ : Mem} {a : Int32} (hNF : (a < 48 → (narrow .boolean (.int 0) = .int 0 ∧ Q (.int 0) μ)) ∧
(¬ a < 48 → (((57 : Int32) < a → (narrow .boolean (.int 0) = .int 0 ∧ Q (.int 0) μ)) ∧
(¬ (57 : Int32) < a → (narrow .boolean (.int 1) = .int 1 ∧ Q (.int 1) μ))))) : AA (Call d) y_Reader_isDigit Q 0 [.int a] [] μ := go_in 9 (code := pr_Reader_isDigit) (stops := []) rfl rfl hNF
set_option maxRecDepth 20000 in
theorem b_Sheets_lay_0 {d : Nat} {Q : QQ} {μ : Mem} {a : Int32} {b : Int32} {c : Int32} (hNF : vp_in a 4 ∧ ∀ μ1 : Mem, μ1 = wI μ 58 (upd (μ.1 58) a.toNatClampNeg b) → (vp_in a 4 ∧ ∀ μ2 : Mem, μ2 = wI μ1 59 (upd (μ1.1 59) a.toNatClampNeg c) → (AA (Call d) y_Sheets_lay Q 12 [.ref 57, .int a, .int b, .int c, .int 0] [] μ2))) : AA (Call d) y_Sheets_lay Q 0 [.ref 57, .int a, .int b, .int c, un] [] μ := go_in 13 (code := pr_Sheets_lay) (stops := [12]) rfl rfl hNF
set_option maxRecDepth 20000 in
theorem b_Sheets_lay_12 {d : Nat} {Q : QQ} {μ : Mem} {l1 : Int32} {l2 : Int32} {l3 : Int32} {l4 : Int32} (hNF : ((40 : Int32) ≤ l4 → (Q .null μ)) ∧
(¬ (40 : Int32) ≤ l4 → (vp_in l1 4 ∧ (vp_in l4 (wlen 0 (61 + l1.toNatClampNeg)) ∧ ∀ μ1 : Mem, μ1 = wI μ (61 + l1.toNatClampNeg) (upd (μ.1 (61 + l1.toNatClampNeg)) l4.toNatClampNeg 0) → (AA (Call d) y_Sheets_lay Q 12 [.ref 57, .int l1, .int l2, .int l3, .int (l4 + 1)] [] μ1))))) : AA (Call d) y_Sheets_lay Q 12 [.ref 57, .int l1, .int l2, .int l3, .int l4] [] μ := go_in 13 (code := pr_Sheets_lay) (stops := [12]) rfl rfl hNF
set_option maxRecDepth 20000 in
theorem b_Sheets_put_0 {d : Nat} {Q : QQ} {μ : Mem} {a : Int32} {b : Int32} {c : Int32} (hNF : vp_in a 4 ∧ ((¬ (μ.1 58 a.toNatClampNeg) = 0 → (vp_in a 4 ∧ ((¬ (μ.1 58 a.toNatClampNeg) = 1 → (vp_in a 4 ∧ (vp_in b (wlen 0 (61 + a.toNatClampNeg)) ∧ ∀ μ1 : Mem, μ1 = wI μ (61 + a.toNatClampNeg) (upd (μ.1 (61 + a.toNatClampNeg)) b.toNatClampNeg c) → (Q .null μ1)))) ∧
((μ.1 58 a.toNatClampNeg) = 1 → (vp_in a 4 ∧ (vp_in b (wlen 0 (61 + a.toNatClampNeg)) ∧ ∀ μ2 : Mem, μ2 = wI μ (61 + a.toNatClampNeg) (upd (μ.1 (61 + a.toNatClampNeg)) b.toNatClampNeg ((Int32.toInt16 c).toInt32)) → (Q .null μ2))))))) ∧
((μ.1 58 a.toNatClampNeg) = 0 → (vp_in a 4 ∧ (vp_in b (wlen 0 (61 + a.toNatClampNeg)) ∧ ∀ μ3 : Mem, μ3 = wI μ (61 + a.toNatClampNeg) (upd (μ.1 (61 + a.toNatClampNeg)) b.toNatClampNeg ((Int32.toInt8 c).toInt32)) → (Q .null μ3)))))) : AA (Call d) y_Sheets_put Q 0 [.ref 57, .int a, .int b, .int c] [] μ := go_in 21 (code := pr_Sheets_put) (stops := []) rfl rfl hNF
set_option maxRecDepth 20000 in
theorem b_Sheets_hasRoom_0 {d : Nat} {Q : QQ} {μ : Mem} {a : Int32} {b : Int32} {c : Int32} (hNF : (b < 0 → (narrow .boolean (.int 0) = .int 0 ∧ Q (.int 0) μ)) ∧
(¬ b < 0 → ((c < 0 → (narrow .boolean (.int 0) = .int 0 ∧ Q (.int 0) μ)) ∧
(¬ c < 0 → (vp_in a 4 ∧ (((μ.1 59 a.toNatClampNeg) < c → (narrow .boolean (.int 0) = .int 0 ∧ Q (.int 0) μ)) ∧
(¬ (μ.1 59 a.toNatClampNeg) < c → (vp_in a 4 ∧ ((((μ.1 59 a.toNatClampNeg) - c) < b → (narrow .boolean (.int 0) = .int 0 ∧ Q (.int 0) μ)) ∧
(¬ ((μ.1 59 a.toNatClampNeg) - c) < b → (narrow .boolean (.int 1) = .int 1 ∧ Q (.int 1) μ))))))))))) : AA (Call d) y_Sheets_hasRoom Q 0 [.ref 57, .int a, .int b, .int c] [] μ := go_in 21 (code := pr_Sheets_hasRoom) (stops := []) rfl rfl hNF
set_option maxRecDepth 20000 in
theorem b_Texts_add_0 {d : Nat} {Q : QQ} {μ : Mem} (hNF : ((μ.1 27 4) < 6 → (vp_in (μ.1 27 4) 6 ∧ ((¬ (0 : Int32) < 0 ∧ ¬ (0 : Int32) < 0 ∧ ¬ (160 : Int32) < 0 ∧ (Int32.toNatClampNeg 0) + (Int32.toNatClampNeg 160) ≤ 160 ∧ (Int32.toNatClampNeg 0) + (Int32.toNatClampNeg 160) ≤ (wlen 0 (29 + (Int32.toNatClampNeg (μ.1 27 4)))) ∧ 0 < 160 ∧ 0 < (wlen 0 (29 + (Int32.toNatClampNeg (μ.1 27 4))))) ∧ ∀ μ1 : Mem, μ1 = wI μ (29 + (Int32.toNatClampNeg (μ.1 27 4))) (va_cpy (μ.1 25) (μ.1 (29 + (Int32.toNatClampNeg (μ.1 27 4)))) (Int32.toNatClampNeg 0) (Int32.toNatClampNeg 0) (Int32.toNatClampNeg 160)) → (vp_in (μ1.1 27 4) 6 ∧ ((¬ (0 : Int32) < 0 ∧ ¬ (0 : Int32) < 0 ∧ ¬ (3 : Int32) < 0 ∧ (Int32.toNatClampNeg 0) + (Int32.toNatClampNeg 3) ≤ 3 ∧ (Int32.toNatClampNeg 0) + (Int32.toNatClampNeg 3) ≤ (wlen 0 (36 + (Int32.toNatClampNeg (μ1.1 27 4)))) ∧ 0 < 3 ∧ 0 < (wlen 0 (36 + (Int32.toNatClampNeg (μ1.1 27 4))))) ∧ ∀ μ2 : Mem, μ2 = wI μ1 (36 + (Int32.toNatClampNeg (μ1.1 27 4))) (va_cpy (μ1.1 26) (μ1.1 (36 + (Int32.toNatClampNeg (μ1.1 27 4)))) (Int32.toNatClampNeg 0) (Int32.toNatClampNeg 0) (Int32.toNatClampNeg 3)) → (∀ μ3 : Mem, μ3 = wI μ2 27 (upd (μ2.1 27) 4 ((μ2.1 27 4) + 1)) → (Q (.int (μ2.1 27 4)) μ3))))))) ∧
(¬ (μ.1 27 4) < 6 → (Q (.int (-4)) μ))) : AA (Call d) y_Texts_add Q 0 [.ref 27, .ref 25, .ref 26] [] μ := go_in 32 (code := pr_Texts_add) (stops := []) rfl rfl hNF
set_option maxRecDepth 20000 in
theorem b_Texts_adds_0 {d : Nat} {Q : QQ} {μ : Mem} {a : Int32} {b : Int32} {c : Int32} (hNF : Call d y_Texts_tell [.ref 27, .int a, .int b, .int c, .int 0, .int 0, .int 0] μ (fun _ μ1 => (Call d y_Texts_valued [.ref 27, .int 0] μ1 (fun ρ μ2 => ∃ r3 : Int32, ρ = .int r3 ∧ (Call d y_Texts_bounded [.int r3, .int 99] μ2 (fun ρ μ4 => ∃ r5 : Int32, ρ = .int r5 ∧ (Q (.int r5) μ4))))))) : AA (Call d) y_Texts_adds Q 0 [.ref 27, .int a, .int b, .int c] [] μ := go_in 14 (code := pr_Texts_adds) (stops := []) rfl rfl hNF
set_option maxRecDepth 20000 in
theorem b_Texts_worth_0 {d : Nat} {Q : QQ} {μ : Mem} {a : Int32} {b : Int32} {c : Int32} {e : Int32} (hNF : Call d y_Texts_tell [.ref 27, .int 0, .int a, .int 0, .int b, .int c, .int e] μ (fun _ μ1 => (Call d y_Texts_valued [.ref 27, .int 1] μ1 (fun ρ μ2 => ∃ r3 : Int32, ρ = .int r3 ∧ (Call d y_Texts_bounded [.int r3, .int 999] μ2 (fun ρ μ4 => ∃ r5 : Int32, ρ = .int r5 ∧ (Q (.int r5) μ4))))))) : AA (Call d) y_Texts_worth Q 0 [.ref 27, .int a, .int b, .int c, .int e] [] μ := go_in 14 (code := pr_Texts_worth) (stops := []) rfl rfl hNF
set_option maxRecDepth 20000 in
theorem b_Texts_may_0 {d : Nat} {Q : QQ} {μ : Mem} {a : Int32} {b : Int32} {c : Int32} {e : Int32} (hNF : Call d y_Texts_tell [.ref 27, .int 0, .int a, .int 0, .int b, .int c, .int e] μ (fun _ μ1 => (Call d y_Texts_valued [.ref 27, .int 2] μ1 (fun ρ μ2 => ∃ r3 : Int32, ρ = .int r3 ∧ ((r3 = 0 → (narrow .boolean (.int 0) = .int 0 ∧ Q (.int 0) μ2)) ∧
(¬ r3 = 0 → (narrow .boolean (.int 1) = .int 1 ∧ Q (.int 1) μ2))))))) : AA (Call d) y_Texts_may Q 0 [.ref 27, .int a, .int b, .int c, .int e] [] μ := go_in 15 (code := pr_Texts_may) (stops := []) rfl rfl hNF
set_option maxRecDepth 20000 in
theorem b_Texts_tell_0 {d : Nat} {Q : QQ} {μ : Mem} {a : Int32} {b : Int32} {c : Int32} {e : Int32} {f : Int32} {g : Int32} (hNF : vp_in 0 6 ∧ ∀ μ1 : Mem, μ1 = wI μ 42 (upd (μ.1 42) (Int32.toNatClampNeg 0) a) → (vp_in 1 6 ∧ ∀ μ2 : Mem, μ2 = wI μ1 42 (upd (μ1.1 42) (Int32.toNatClampNeg 1) b) → (vp_in 2 6 ∧ ∀ μ3 : Mem, μ3 = wI μ2 42 (upd (μ2.1 42) (Int32.toNatClampNeg 2) c) → (vp_in 3 6 ∧ ∀ μ4 : Mem, μ4 = wI μ3 42 (upd (μ3.1 42) (Int32.toNatClampNeg 3) e) → (vp_in 4 6 ∧ ∀ μ5 : Mem, μ5 = wI μ4 42 (upd (μ4.1 42) (Int32.toNatClampNeg 4) f) → (vp_in 5 6 ∧ ∀ μ6 : Mem, μ6 = wI μ5 42 (upd (μ5.1 42) (Int32.toNatClampNeg 5) g) → (Q .null μ6))))))) : AA (Call d) y_Texts_tell Q 0 [.ref 27, .int a, .int b, .int c, .int e, .int f, .int g] [] μ := go_in 31 (code := pr_Texts_tell) (stops := []) rfl rfl hNF
set_option maxRecDepth 20000 in
theorem b_Texts_bounded_0 {d : Nat} {Q : QQ} {μ : Mem} {a : Int32} {b : Int32} (hNF : ((0 : Int32) ≤ a → ((a ≤ b → (Q (.int a) μ)) ∧
(¬ a ≤ b → (Q (.int b) μ)))) ∧
(¬ (0 : Int32) ≤ a → (Q (.int 0) μ))) : AA (Call d) y_Texts_bounded Q 0 [.int a, .int b] [] μ := go_in 8 (code := pr_Texts_bounded) (stops := []) rfl rfl hNF
set_option maxRecDepth 20000 in
theorem b_Texts_valued_0 {d : Nat} {Q : QQ} {μ : Mem} {a : Int32} (hNF : vp_in (μ.1 27 5) 6 ∧ (vp_in (μ.1 27 5) 6 ∧ (vp_in a (ilen 0 (36 + (Int32.toNatClampNeg (μ.1 27 5)))) ∧ ((¬ a = 0 → (vp_in (μ.1 27 5) 6 ∧ (vp_in (a - 1) (ilen 0 (36 + (Int32.toNatClampNeg (μ.1 27 5)))) ∧ (AA (Call d) y_Texts_valued Q 30 [.ref 27, .int a, .ref (29 + (Int32.toNatClampNeg (μ.1 27 5))), .int (μ.1 (36 + (Int32.toNatClampNeg (μ.1 27 5))) a.toNatClampNeg), .int (-1), .int (μ.1 (36 + (Int32.toNatClampNeg (μ.1 27 5))) (Int32.toNatClampNeg (a - 1))), un, un, un, un] [] μ)))) ∧
(a = 0 → (AA (Call d) y_Texts_valued Q 30 [.ref 27, .int a, .ref (29 + (Int32.toNatClampNeg (μ.1 27 5))), .int (μ.1 (36 + (Int32.toNatClampNeg (μ.1 27 5))) a.toNatClampNeg), .int (-1), .int 0, un, un, un, un] [] μ)))))) : AA (Call d) y_Texts_valued Q 0 [.ref 27, .int a, un, un, un, un, un, un, un, un] [] μ := go_in 29 (code := pr_Texts_valued) (stops := [30, 71, 93, 182]) rfl rfl hNF
set_option maxRecDepth 20000 in
theorem b_Texts_valued_30 {d : Nat} {Q : QQ} {μ : Mem} {l1 : Int32} {l2 : Nat} {l3 : Int32} {l4 : Int32} {l5 : Int32} (hNF : (l3 ≤ l5 → (vp_in 0 31 ∧ (Q (.int (μ.1 43 (Int32.toNatClampNeg 0))) μ))) ∧
(¬ l3 ≤ l5 → (vp_in l5 (ilen 0 l2) ∧ (((μ.1 l2 l5.toNatClampNeg) < (-6) → (((μ.1 l2 l5.toNatClampNeg) = (-262) → (AA (Call d) y_Texts_valued Q 71 [.ref 27, .int l1, .ref l2, .int l3, .int l4, .int l5, .int (μ.1 l2 l5.toNatClampNeg), .int 1, un, un] [] μ)) ∧
(¬ (μ.1 l2 l5.toNatClampNeg) = (-262) → ((¬ (μ.1 l2 l5.toNatClampNeg) = (-261) → (AA (Call d) y_Texts_valued Q 71 [.ref 27, .int l1, .ref l2, .int l3, .int l4, .int l5, .int (μ.1 l2 l5.toNatClampNeg), .int 0, un, un] [] μ)) ∧
((μ.1 l2 l5.toNatClampNeg) = (-261) → (AA (Call d) y_Texts_valued Q 71 [.ref 27, .int l1, .ref l2, .int l3, .int l4, .int l5, .int (μ.1 l2 l5.toNatClampNeg), .int 1, un, un] [] μ)))))) ∧
(¬ (μ.1 l2 l5.toNatClampNeg) < (-6) → ((l4 < 30 → (((μ.1 l2 l5.toNatClampNeg) < 0 → (vp_in ((-1) - (μ.1 l2 l5.toNatClampNeg)) 6 ∧ (vp_in (l4 + 1) 31 ∧ ∀ μ1 : Mem, μ1 = wI μ 43 (upd (μ.1 43) (Int32.toNatClampNeg (l4 + 1)) (μ.1 42 (Int32.toNatClampNeg ((-1) - (μ.1 l2 l5.toNatClampNeg))))) → (AA (Call d) y_Texts_valued Q 182 [.ref 27, .int l1, .ref l2, .int l3, .int (l4 + 1), .int l5, .int (μ.1 l2 l5.toNatClampNeg), un, un, un] [] μ1)))) ∧
(¬ (μ.1 l2 l5.toNatClampNeg) < 0 → (vp_in (l4 + 1) 31 ∧ ∀ μ2 : Mem, μ2 = wI μ 43 (upd (μ.1 43) (Int32.toNatClampNeg (l4 + 1)) (μ.1 l2 l5.toNatClampNeg)) → (AA (Call d) y_Texts_valued Q 182 [.ref 27, .int l1, .ref l2, .int l3, .int (l4 + 1), .int l5, .int (μ.1 l2 l5.toNatClampNeg), un, un, un] [] μ2))))) ∧
(¬ l4 < 30 → (Q (.int 0) μ)))))))) : AA (Call d) y_Texts_valued Q 30 [.ref 27, .int l1, .ref l2, .int l3, .int l4, .int l5, un, un, un, un] [] μ := go_in 28 (code := pr_Texts_valued) (stops := [30, 71, 93, 182]) rfl rfl hNF
set_option maxRecDepth 20000 in
theorem b_Texts_valued_71 {d : Nat} {Q : QQ} {μ : Mem} {l1 : Int32} {l2 : Nat} {l3 : Int32} {l4 : Int32} {l5 : Int32} {l6 : Int32} {l7 : Int32} (hNF : (l7 = 0 → (((1 : Int32) ≤ l4 → (vp_in l4 31 ∧ ((¬ l7 = 0 → (vp_in l4 31 ∧ (AA (Call d) y_Texts_valued Q 93 [.ref 27, .int l1, .ref l2, .int l3, .int l4, .int l5, .int l6, .int l7, .int (μ.1 43 l4.toNatClampNeg), .int (μ.1 43 l4.toNatClampNeg)] [] μ))) ∧
(l7 = 0 → (vp_in (l4 + (-1)) 31 ∧ (AA (Call d) y_Texts_valued Q 93 [.ref 27, .int l1, .ref l2, .int l3, .int (l4 + (-1)), .int l5, .int l6, .int l7, .int (μ.1 43 l4.toNatClampNeg), .int (μ.1 43 (Int32.toNatClampNeg (l4 + (-1))))] [] μ)))))) ∧
(¬ (1 : Int32) ≤ l4 → (Q (.int 0) μ)))) ∧
(¬ l7 = 0 → (((0 : Int32) ≤ l4 → (vp_in l4 31 ∧ ((¬ l7 = 0 → (vp_in l4 31 ∧ (AA (Call d) y_Texts_valued Q 93 [.ref 27, .int l1, .ref l2, .int l3, .int l4, .int l5, .int l6, .int l7, .int (μ.1 43 l4.toNatClampNeg), .int (μ.1 43 l4.toNatClampNeg)] [] μ))) ∧
(l7 = 0 → (vp_in (l4 + (-1)) 31 ∧ (AA (Call d) y_Texts_valued Q 93 [.ref 27, .int l1, .ref l2, .int l3, .int (l4 + (-1)), .int l5, .int l6, .int l7, .int (μ.1 43 l4.toNatClampNeg), .int (μ.1 43 (Int32.toNatClampNeg (l4 + (-1))))] [] μ)))))) ∧
(¬ (0 : Int32) ≤ l4 → (Q (.int 0) μ))))) : AA (Call d) y_Texts_valued Q 71 [.ref 27, .int l1, .ref l2, .int l3, .int l4, .int l5, .int l6, .int l7, un, un] [] μ := go_in 20 (code := pr_Texts_valued) (stops := [30, 71, 93, 182]) rfl rfl hNF
set_option maxRecDepth 20000 in
theorem b_Texts_valued_93 {d : Nat} {Q : QQ} {μ : Mem} {l1 : Int32} {l2 : Nat} {l3 : Int32} {l4 : Int32} {l5 : Int32} {l6 : Int32} {l7 : Int32} {l8 : Int32} {l9 : Int32} (hNF : ((-l6) = 42 → (vp_in l4 31 ∧ ∀ μ1 : Mem, μ1 = wI μ 43 (upd (μ.1 43) l4.toNatClampNeg (l9 * l8)) → (AA (Call d) y_Texts_valued Q 182 [.ref 27, .int l1, .ref l2, .int l3, .int l4, .int l5, .int l6, .int l7, .int l8, .int l9] [] μ1))) ∧
(¬ (-l6) = 42 → (((-l6) = 43 → (vp_in l4 31 ∧ ∀ μ2 : Mem, μ2 = wI μ 43 (upd (μ.1 43) l4.toNatClampNeg (l9 + l8)) → (AA (Call d) y_Texts_valued Q 182 [.ref 27, .int l1, .ref l2, .int l3, .int l4, .int l5, .int l6, .int l7, .int l8, .int l9] [] μ2))) ∧
(¬ (-l6) = 43 → (((-l6) = 45 → (vp_in l4 31 ∧ ∀ μ3 : Mem, μ3 = wI μ 43 (upd (μ.1 43) l4.toNatClampNeg (l9 - l8)) → (AA (Call d) y_Texts_valued Q 182 [.ref 27, .int l1, .ref l2, .int l3, .int l4, .int l5, .int l6, .int l7, .int l8, .int l9] [] μ3))) ∧
(¬ (-l6) = 45 → (((-l6) = 60 → ((l8 ≤ l9 → (vp_in l4 31 ∧ ∀ μ4 : Mem, μ4 = wI μ 43 (upd (μ.1 43) l4.toNatClampNeg 0) → (AA (Call d) y_Texts_valued Q 182 [.ref 27, .int l1, .ref l2, .int l3, .int l4, .int l5, .int l6, .int l7, .int l8, .int l9] [] μ4))) ∧
(¬ l8 ≤ l9 → (vp_in l4 31 ∧ ∀ μ5 : Mem, μ5 = wI μ 43 (upd (μ.1 43) l4.toNatClampNeg 1) → (AA (Call d) y_Texts_valued Q 182 [.ref 27, .int l1, .ref l2, .int l3, .int l4, .int l5, .int l6, .int l7, .int l8, .int l9] [] μ5))))) ∧
(¬ (-l6) = 60 → (((-l6) = 61 → ((¬ l9 = l8 → (vp_in l4 31 ∧ ∀ μ6 : Mem, μ6 = wI μ 43 (upd (μ.1 43) l4.toNatClampNeg 0) → (AA (Call d) y_Texts_valued Q 182 [.ref 27, .int l1, .ref l2, .int l3, .int l4, .int l5, .int l6, .int l7, .int l8, .int l9] [] μ6))) ∧
(l9 = l8 → (vp_in l4 31 ∧ ∀ μ7 : Mem, μ7 = wI μ 43 (upd (μ.1 43) l4.toNatClampNeg 1) → (AA (Call d) y_Texts_valued Q 182 [.ref 27, .int l1, .ref l2, .int l3, .int l4, .int l5, .int l6, .int l7, .int l8, .int l9] [] μ7))))) ∧
(¬ (-l6) = 61 → (((-l6) = 259 → ((¬ l9 = 0 → (vp_in l4 31 ∧ ∀ μ8 : Mem, μ8 = wI μ 43 (upd (μ.1 43) l4.toNatClampNeg 1) → (AA (Call d) y_Texts_valued Q 182 [.ref 27, .int l1, .ref l2, .int l3, .int l4, .int l5, .int l6, .int l7, .int l8, .int l9] [] μ8))) ∧
(l9 = 0 → ((l8 = 0 → (vp_in l4 31 ∧ ∀ μ9 : Mem, μ9 = wI μ 43 (upd (μ.1 43) l4.toNatClampNeg 0) → (AA (Call d) y_Texts_valued Q 182 [.ref 27, .int l1, .ref l2, .int l3, .int l4, .int l5, .int l6, .int l7, .int l8, .int l9] [] μ9))) ∧
(¬ l8 = 0 → (vp_in l4 31 ∧ ∀ μ10 : Mem, μ10 = wI μ 43 (upd (μ.1 43) l4.toNatClampNeg 1) → (AA (Call d) y_Texts_valued Q 182 [.ref 27, .int l1, .ref l2, .int l3, .int l4, .int l5, .int l6, .int l7, .int l8, .int l9] [] μ10))))))) ∧
(¬ (-l6) = 259 → (((-l6) = 260 → ((l9 = 0 → (vp_in l4 31 ∧ ∀ μ11 : Mem, μ11 = wI μ 43 (upd (μ.1 43) l4.toNatClampNeg 0) → (AA (Call d) y_Texts_valued Q 182 [.ref 27, .int l1, .ref l2, .int l3, .int l4, .int l5, .int l6, .int l7, .int l8, .int l9] [] μ11))) ∧
(¬ l9 = 0 → ((l8 = 0 → (vp_in l4 31 ∧ ∀ μ12 : Mem, μ12 = wI μ 43 (upd (μ.1 43) l4.toNatClampNeg 0) → (AA (Call d) y_Texts_valued Q 182 [.ref 27, .int l1, .ref l2, .int l3, .int l4, .int l5, .int l6, .int l7, .int l8, .int l9] [] μ12))) ∧
(¬ l8 = 0 → (vp_in l4 31 ∧ ∀ μ13 : Mem, μ13 = wI μ 43 (upd (μ.1 43) l4.toNatClampNeg 1) → (AA (Call d) y_Texts_valued Q 182 [.ref 27, .int l1, .ref l2, .int l3, .int l4, .int l5, .int l6, .int l7, .int l8, .int l9] [] μ13))))))) ∧
(¬ (-l6) = 260 → (((-l6) = 261 → ((¬ l8 = 0 → (vp_in l4 31 ∧ ∀ μ14 : Mem, μ14 = wI μ 43 (upd (μ.1 43) l4.toNatClampNeg 0) → (AA (Call d) y_Texts_valued Q 182 [.ref 27, .int l1, .ref l2, .int l3, .int l4, .int l5, .int l6, .int l7, .int l8, .int l9] [] μ14))) ∧
(l8 = 0 → (vp_in l4 31 ∧ ∀ μ15 : Mem, μ15 = wI μ 43 (upd (μ.1 43) l4.toNatClampNeg 1) → (AA (Call d) y_Texts_valued Q 182 [.ref 27, .int l1, .ref l2, .int l3, .int l4, .int l5, .int l6, .int l7, .int l8, .int l9] [] μ15))))) ∧
(¬ (-l6) = 261 → (vp_in l4 31 ∧ ∀ μ16 : Mem, μ16 = wI μ 43 (upd (μ.1 43) l4.toNatClampNeg (-l8)) → (AA (Call d) y_Texts_valued Q 182 [.ref 27, .int l1, .ref l2, .int l3, .int l4, .int l5, .int l6, .int l7, .int l8, .int l9] [] μ16)))))))))))))))))) : AA (Call d) y_Texts_valued Q 93 [.ref 27, .int l1, .ref l2, .int l3, .int l4, .int l5, .int l6, .int l7, .int l8, .int l9] [] μ := go_in 15 (code := pr_Texts_valued) (stops := [30, 71, 93, 182]) rfl rfl hNF
set_option maxRecDepth 20000 in
theorem b_Texts_valued_182 {d : Nat} {Q : QQ} {μ : Mem} {l1 : Int32} {l2 : Nat} {l3 : Int32} {l4 : Int32} {l5 : Int32} {l6 : Int32} (hNF : AA (Call d) y_Texts_valued Q 30 [.ref 27, .int l1, .ref l2, .int l3, .int l4, .int (l5 + 1), .int l6, un, un, un] [] μ) : AA (Call d) y_Texts_valued Q 182 [.ref 27, .int l1, .ref l2, .int l3, .int l4, .int l5, .int l6, un, un, un] [] μ := go_in 3 (code := pr_Texts_valued) (stops := [30, 71, 93, 182]) rfl rfl hNF
set_option maxRecDepth 20000 in
theorem b_Words_lengthOf_0 {d : Nat} {Q : QQ} {μ : Mem} {a : Int32} (hNF : (a < 1 → (Q (.int 0) μ)) ∧
(¬ a < 1 → ((a ≤ 888888 → (AA (Call d) y_Words_lengthOf Q 14 [.int a, .int a, .int 0, .int 0] [] μ)) ∧
(¬ a ≤ 888888 → (Q (.int 0) μ))))) : AA (Call d) y_Words_lengthOf Q 0 [.int a, un, un, un] [] μ := go_in 13 (code := pr_Words_lengthOf) (stops := [14]) rfl rfl hNF
set_option maxRecDepth 20000 in
theorem b_Words_lengthOf_14 {d : Nat} {Q : QQ} {μ : Mem} {l0 : Int32} {l1 : Int32} {l2 : Int32} {l3 : Int32} (hNF : ((6 : Int32) ≤ l3 → (Q (.int l2) μ)) ∧
(¬ (6 : Int32) ≤ l3 → ((l1 ≤ 0 → (Q (.int l2) μ)) ∧
(¬ l1 ≤ 0 → (¬ (10 : Int32) = 0 ∧ (Call d y_X_within [.int ((l1 - l1 / 10 * 10) - 1), .int 7] μ (fun ρ μ1 => ∃ r2 : Int32, ρ = .int r2 ∧ ((¬ r2 = 0 → (¬ (10 : Int32) = 0 ∧ (AA (Call d) y_Words_lengthOf Q 14 [.int l0, .int (l1 / 10), .int (l2 + 1), .int (l3 + 1)] [] μ1))) ∧
(r2 = 0 → (Q (.int 0) μ1)))))))))) : AA (Call d) y_Words_lengthOf Q 14 [.int l0, .int l1, .int l2, .int l3] [] μ := go_in 21 (code := pr_Words_lengthOf) (stops := [14]) rfl rfl hNF
set_option maxRecDepth 20000 in
theorem b_Words_add_0 {d : Nat} {Q : QQ} {μ : Mem} {a : Int32} {b : Int32} (hNF : ((μ.1 2 3) < 10 → (vp_in (μ.1 2 3) 10 ∧ ∀ μ1 : Mem, μ1 = wI μ 3 (upd (μ.1 3) (Int32.toNatClampNeg (μ.1 2 3)) a) → (Call d y_Words_lengthOf [.int b] μ1 (fun ρ μ2 => ∃ r3 : Int32, ρ = .int r3 ∧ (vp_in (μ1.1 2 3) 10 ∧ ∀ μ4 : Mem, μ4 = wI μ2 4 (upd (μ2.1 4) (Int32.toNatClampNeg (μ1.1 2 3)) r3) → (vp_in (μ4.1 2 3) 10 ∧ (AA (Call d) y_Words_add Q 29 [.ref 2, .int a, .int b, .int b, .int ((μ4.1 4 (Int32.toNatClampNeg (μ4.1 2 3))) - 1)] [] μ4))))))) ∧
(¬ (μ.1 2 3) < 10 → (Q (.int (-4)) μ))) : AA (Call d) y_Words_add Q 0 [.ref 2, .int a, .int b, un, un] [] μ := go_in 28 (code := pr_Words_add) (stops := [29]) rfl rfl hNF
set_option maxRecDepth 20000 in
theorem b_Words_add_29 {d : Nat} {Q : QQ} {μ : Mem} {l1 : Int32} {l2 : Int32} {l3 : Int32} {l4 : Int32} (hNF : (l4 < 0 → (∀ μ1 : Mem, μ1 = wI μ 2 (upd (μ.1 2) 3 ((μ.1 2 3) + 1)) → (Q (.int (μ.1 2 3)) μ1))) ∧
(¬ l4 < 0 → (vp_in (μ.1 2 3) 10 ∧ (¬ (10 : Int32) = 0 ∧ (vp_in l4 (wlen 0 (6 + (Int32.toNatClampNeg (μ.1 2 3)))) ∧ ∀ μ2 : Mem, μ2 = wI μ (6 + (Int32.toNatClampNeg (μ.1 2 3))) (upd (μ.1 (6 + (Int32.toNatClampNeg (μ.1 2 3)))) l4.toNatClampNeg ((l3 - l3 / 10 * 10) - 1)) → (¬ (10 : Int32) = 0 ∧ (AA (Call d) y_Words_add Q 29 [.ref 2, .int l1, .int l2, .int (l3 / 10), .int (l4 + (-1))] [] μ2))))))) : AA (Call d) y_Words_add Q 29 [.ref 2, .int l1, .int l2, .int l3, .int l4] [] μ := go_in 21 (code := pr_Words_add) (stops := [29]) rfl rfl hNF
set_option maxRecDepth 20000 in
theorem b_Words_usedAhead_0 {d : Nat} {Q : QQ} {μ : Mem} {a : Int32} {b : Int32} (hNF : vp_in a 10 ∧ (vp_in b (ilen 0 (6 + a.toNatClampNeg)) ∧ (vp_in (μ.1 (6 + a.toNatClampNeg) b.toNatClampNeg) 8 ∧ (AA (Call d) y_Words_usedAhead Q 13 [.ref 2, .int a, .int b, .ref 45, .int (μ.1 (6 + a.toNatClampNeg) b.toNatClampNeg), .int (μ.1 45 (Int32.toNatClampNeg (μ.1 (6 + a.toNatClampNeg) b.toNatClampNeg))), .int 0] [] μ)))) : AA (Call d) y_Words_usedAhead Q 0 [.ref 2, .int a, .int b, .ref 45, un, un, un] [] μ := go_in 14 (code := pr_Words_usedAhead) (stops := [13]) rfl rfl hNF
set_option maxRecDepth 20000 in
theorem b_Words_usedAhead_13 {d : Nat} {Q : QQ} {μ : Mem} {l1 : Int32} {l2 : Int32} {l4 : Int32} {l5 : Int32} {l6 : Int32} (hNF : (l2 ≤ l6 → (Q (.int (if 999 < l5 then 999 else l5)) μ)) ∧
(¬ l2 ≤ l6 → (vp_in l1 10 ∧ (vp_in l6 (ilen 0 (6 + l1.toNatClampNeg)) ∧ ((¬ (μ.1 (6 + l1.toNatClampNeg) l6.toNatClampNeg) = l4 → (AA (Call d) y_Words_usedAhead Q 13 [.ref 2, .int l1, .int l2, .ref 45, .int l4, .int l5, .int (l6 + 1)] [] μ)) ∧
((μ.1 (6 + l1.toNatClampNeg) l6.toNatClampNeg) = l4 → (AA (Call d) y_Words_usedAhead Q 13 [.ref 2, .int l1, .int l2, .ref 45, .int l4, .int (l5 + 1), .int (l6 + 1)] [] μ))))))) : AA (Call d) y_Words_usedAhead Q 13 [.ref 2, .int l1, .int l2, .ref 45, .int l4, .int l5, .int l6] [] μ := go_in 15 (code := pr_Words_usedAhead) (stops := [13]) rfl rfl hNF
set_option maxRecDepth 20000 in
theorem b_Words_spend_u_0 {d : Nat} {Q : QQ} {μ : Mem} {a : Int32} (hNF : AA (Call d) y_Words_spend Q 2 [.ref 2, .int a, .ref 1, .int 0, un] [] μ) : AA (Call d) y_Words_spend Q 0 [.ref 2, .int a, .ref 1, un, un] [] μ := go_in 3 (code := pr_Words_spend) (stops := [2]) rfl rfl hNF
set_option maxRecDepth 20000 in
theorem b_Words_spend_u_2 {d : Nat} {Q : QQ} {μ : Mem} {l1 : Int32} {l3 : Int32} (hNF : vp_in l1 10 ∧ (((μ.1 4 l1.toNatClampNeg) ≤ l3 → (Q .null μ)) ∧
(¬ (μ.1 4 l1.toNatClampNeg) ≤ l3 → (vp_in l1 10 ∧ (vp_in l3 (ilen 0 (6 + l1.toNatClampNeg)) ∧ (vp_in (μ.1 (6 + l1.toNatClampNeg) l3.toNatClampNeg) 8 ∧ (vp_in (μ.1 (6 + l1.toNatClampNeg) l3.toNatClampNeg) 8 ∧ ∀ μ1 : Mem, μ1 = wI μ 1 (upd (μ.1 1) (Int32.toNatClampNeg (μ.1 (6 + l1.toNatClampNeg) l3.toNatClampNeg)) (if 999 < (μ.1 1 (Int32.toNatClampNeg (μ.1 (6 + l1.toNatClampNeg) l3.toNatClampNeg))) + 1 then 999 else (μ.1 1 (Int32.toNatClampNeg (μ.1 (6 + l1.toNatClampNeg) l3.toNatClampNeg))) + 1)) → (AA (Call d) y_Words_spend Q 2 [.ref 2, .int l1, .ref 1, .int (l3 + 1), .int (μ.1 (6 + l1.toNatClampNeg) l3.toNatClampNeg)] [] μ1)))))))) : AA (Call d) y_Words_spend Q 2 [.ref 2, .int l1, .ref 1, .int l3, un] [] μ := go_in 26 (code := pr_Words_spend) (stops := [2]) rfl rfl hNF
set_option maxRecDepth 20000 in
theorem b_Words_spend_d_0 {d : Nat} {Q : QQ} {μ : Mem} {a : Int32} (hNF : AA (Call d) y_Words_spend Q 2 [.ref 2, .int a, .ref 45, .int 0, un] [] μ) : AA (Call d) y_Words_spend Q 0 [.ref 2, .int a, .ref 45, un, un] [] μ := go_in 3 (code := pr_Words_spend) (stops := [2]) rfl rfl hNF
set_option maxRecDepth 20000 in
theorem b_Words_spend_d_2 {d : Nat} {Q : QQ} {μ : Mem} {l1 : Int32} {l3 : Int32} (hNF : vp_in l1 10 ∧ (((μ.1 4 l1.toNatClampNeg) ≤ l3 → (Q .null μ)) ∧
(¬ (μ.1 4 l1.toNatClampNeg) ≤ l3 → (vp_in l1 10 ∧ (vp_in l3 (ilen 0 (6 + l1.toNatClampNeg)) ∧ (vp_in (μ.1 (6 + l1.toNatClampNeg) l3.toNatClampNeg) 8 ∧ (vp_in (μ.1 (6 + l1.toNatClampNeg) l3.toNatClampNeg) 8 ∧ ∀ μ1 : Mem, μ1 = wI μ 45 (upd (μ.1 45) (Int32.toNatClampNeg (μ.1 (6 + l1.toNatClampNeg) l3.toNatClampNeg)) (if 999 < (μ.1 45 (Int32.toNatClampNeg (μ.1 (6 + l1.toNatClampNeg) l3.toNatClampNeg))) + 1 then 999 else (μ.1 45 (Int32.toNatClampNeg (μ.1 (6 + l1.toNatClampNeg) l3.toNatClampNeg))) + 1)) → (AA (Call d) y_Words_spend Q 2 [.ref 2, .int l1, .ref 45, .int (l3 + 1), .int (μ.1 (6 + l1.toNatClampNeg) l3.toNatClampNeg)] [] μ1)))))))) : AA (Call d) y_Words_spend Q 2 [.ref 2, .int l1, .ref 45, .int l3, un] [] μ := go_in 26 (code := pr_Words_spend) (stops := [2]) rfl rfl hNF
set_option maxRecDepth 20000 in
theorem b_Writers_add_0 {d : Nat} {Q : QQ} {μ : Mem} {a : Int32} {b : Int32} {c : Int32} (hNF : Call d y_X_within [.int a, .int 3] μ (fun ρ μ1 => ∃ r2 : Int32, ρ = .int r2 ∧ ((r2 = 0 → (Q (.int (-2)) μ1)) ∧
(¬ r2 = 0 → (Call d y_X_within [.int b, .int 23] μ1 (fun ρ μ3 => ∃ r4 : Int32, ρ = .int r4 ∧ ((r4 = 0 → (Q (.int (-2)) μ3)) ∧
(¬ r4 = 0 → (Call d y_X_within [.int c, .int 9999] μ3 (fun ρ μ5 => ∃ r6 : Int32, ρ = .int r6 ∧ ((¬ r6 = 0 → (((μ5.1 16 3) < 5 → (vp_in (μ5.1 16 3) 5 ∧ ∀ μ7 : Mem, μ7 = wI μ5 17 (upd (μ5.1 17) (Int32.toNatClampNeg (μ5.1 16 3)) a) → (vp_in (μ7.1 16 3) 5 ∧ ∀ μ8 : Mem, μ8 = wI μ7 18 (upd (μ7.1 18) (Int32.toNatClampNeg (μ7.1 16 3)) b) → (vp_in (μ8.1 16 3) 5 ∧ ∀ μ9 : Mem, μ9 = wI μ8 19 (upd (μ8.1 19) (Int32.toNatClampNeg (μ8.1 16 3)) c) → (∀ μ10 : Mem, μ10 = wI μ9 16 (upd (μ9.1 16) 3 ((μ9.1 16 3) + 1)) → (Q (.int (μ9.1 16 3)) μ10)))))) ∧
(¬ (μ5.1 16 3) < 5 → (Q (.int (-4)) μ5)))) ∧
(r6 = 0 → (Q (.int (-2)) μ5))))))))))))) : AA (Call d) y_Writers_add Q 0 [.ref 16, .int a, .int b, .int c] [] μ := go_in 42 (code := pr_Writers_add) (stops := []) rfl rfl hNF
set_option maxRecDepth 20000 in
theorem b_Str_length_0_0 {d : Nat} {Q : QQ} {μ : Mem} (hNF : Call d y_Str_coder [.ref 66] μ (fun ρ μ1 => ∃ r2 : Int32, ρ = .int r2 ∧ (Q (.int ((Int32.ofNat 36) >>> (r2 &&& 31))) μ1))) : AA (Call d) y_Str_length Q 0 [.ref 66] [] μ := go_in 7 (code := pr_Str_length) (stops := []) rfl rfl hNF
set_option maxRecDepth 20000 in
theorem b_Str_length_1_0 {d : Nat} {Q : QQ} {μ : Mem} (hNF : Call d y_Str_coder [.ref 68] μ (fun ρ μ1 => ∃ r2 : Int32, ρ = .int r2 ∧ (Q (.int ((Int32.ofNat 61) >>> (r2 &&& 31))) μ1))) : AA (Call d) y_Str_length Q 0 [.ref 68] [] μ := go_in 7 (code := pr_Str_length) (stops := []) rfl rfl hNF
set_option maxRecDepth 20000 in
theorem b_Str_length_2_0 {d : Nat} {Q : QQ} {μ : Mem} (hNF : Call d y_Str_coder [.ref 70] μ (fun ρ μ1 => ∃ r2 : Int32, ρ = .int r2 ∧ (Q (.int ((Int32.ofNat 8) >>> (r2 &&& 31))) μ1))) : AA (Call d) y_Str_length Q 0 [.ref 70] [] μ := go_in 7 (code := pr_Str_length) (stops := []) rfl rfl hNF
set_option maxRecDepth 20000 in
theorem b_Str_coder_0_0 {d : Nat} {Q : QQ} {μ : Mem} (hNF : ((1 : Int32) = 0 → (narrow .byte (.int 1) = .int 1 ∧ Q (.int 1) μ)) ∧
(¬ (1 : Int32) = 0 → (narrow .byte (.int (μ.1 66 1)) = .int (μ.1 66 1) ∧ Q (.int (μ.1 66 1)) μ))) : AA (Call d) y_Str_coder Q 0 [.ref 66] [] μ := go_in 6 (code := pr_Str_coder) (stops := []) rfl rfl hNF
set_option maxRecDepth 20000 in
theorem b_Str_coder_1_0 {d : Nat} {Q : QQ} {μ : Mem} (hNF : ((1 : Int32) = 0 → (narrow .byte (.int 1) = .int 1 ∧ Q (.int 1) μ)) ∧
(¬ (1 : Int32) = 0 → (narrow .byte (.int (μ.1 68 1)) = .int (μ.1 68 1) ∧ Q (.int (μ.1 68 1)) μ))) : AA (Call d) y_Str_coder Q 0 [.ref 68] [] μ := go_in 6 (code := pr_Str_coder) (stops := []) rfl rfl hNF
set_option maxRecDepth 20000 in
theorem b_Str_coder_2_0 {d : Nat} {Q : QQ} {μ : Mem} (hNF : ((1 : Int32) = 0 → (narrow .byte (.int 1) = .int 1 ∧ Q (.int 1) μ)) ∧
(¬ (1 : Int32) = 0 → (narrow .byte (.int (μ.1 70 1)) = .int (μ.1 70 1) ∧ Q (.int (μ.1 70 1)) μ))) : AA (Call d) y_Str_coder Q 0 [.ref 70] [] μ := go_in 6 (code := pr_Str_coder) (stops := []) rfl rfl hNF
set_option maxRecDepth 20000 in
theorem b_Str_isLatin1_0_0 {d : Nat} {Q : QQ} {μ : Mem} (hNF : ((1 : Int32) = 0 → (narrow .boolean (.int 0) = .int 0 ∧ Q (.int 0) μ)) ∧
(¬ (1 : Int32) = 0 → ((¬ (μ.1 66 1) = 0 → (narrow .boolean (.int 0) = .int 0 ∧ Q (.int 0) μ)) ∧
((μ.1 66 1) = 0 → (narrow .boolean (.int 1) = .int 1 ∧ Q (.int 1) μ))))) : AA (Call d) y_Str_isLatin1 Q 0 [.ref 66] [] μ := go_in 8 (code := pr_Str_isLatin1) (stops := []) rfl rfl hNF
set_option maxRecDepth 20000 in
theorem b_Str_isLatin1_1_0 {d : Nat} {Q : QQ} {μ : Mem} (hNF : ((1 : Int32) = 0 → (narrow .boolean (.int 0) = .int 0 ∧ Q (.int 0) μ)) ∧
(¬ (1 : Int32) = 0 → ((¬ (μ.1 68 1) = 0 → (narrow .boolean (.int 0) = .int 0 ∧ Q (.int 0) μ)) ∧
((μ.1 68 1) = 0 → (narrow .boolean (.int 1) = .int 1 ∧ Q (.int 1) μ))))) : AA (Call d) y_Str_isLatin1 Q 0 [.ref 68] [] μ := go_in 8 (code := pr_Str_isLatin1) (stops := []) rfl rfl hNF
set_option maxRecDepth 20000 in
theorem b_Str_isLatin1_2_0 {d : Nat} {Q : QQ} {μ : Mem} (hNF : ((1 : Int32) = 0 → (narrow .boolean (.int 0) = .int 0 ∧ Q (.int 0) μ)) ∧
(¬ (1 : Int32) = 0 → ((¬ (μ.1 70 1) = 0 → (narrow .boolean (.int 0) = .int 0 ∧ Q (.int 0) μ)) ∧
((μ.1 70 1) = 0 → (narrow .boolean (.int 1) = .int 1 ∧ Q (.int 1) μ))))) : AA (Call d) y_Str_isLatin1 Q 0 [.ref 70] [] μ := go_in 8 (code := pr_Str_isLatin1) (stops := []) rfl rfl hNF
set_option maxRecDepth 20000 in
theorem b_Str_charAt_0_0 {d : Nat} {Q : QQ} {μ : Mem} {a : Int32} (hNF : Call d y_Str_isLatin1 [.ref 66] μ (fun ρ μ1 => ∃ r2 : Int32, ρ = .int r2 ∧ ((r2 = 0 → (False)) ∧
(¬ r2 = 0 → (Call d y_Lat_charAt [.ref 67, .int a] μ1 (fun ρ μ3 => ∃ r4 : Int32, ρ = .int r4 ∧ (narrow .char (.int r4) = .int r4 ∧ Q (.int r4) μ3))))))) : AA (Call d) y_Str_charAt Q 0 [.ref 66, .int a] [] μ := go_in 8 (code := pr_Str_charAt) (stops := []) rfl rfl hNF
set_option maxRecDepth 20000 in
theorem b_Str_charAt_1_0 {d : Nat} {Q : QQ} {μ : Mem} {a : Int32} (hNF : Call d y_Str_isLatin1 [.ref 68] μ (fun ρ μ1 => ∃ r2 : Int32, ρ = .int r2 ∧ ((r2 = 0 → (False)) ∧
(¬ r2 = 0 → (Call d y_Lat_charAt [.ref 69, .int a] μ1 (fun ρ μ3 => ∃ r4 : Int32, ρ = .int r4 ∧ (narrow .char (.int r4) = .int r4 ∧ Q (.int r4) μ3))))))) : AA (Call d) y_Str_charAt Q 0 [.ref 68, .int a] [] μ := go_in 8 (code := pr_Str_charAt) (stops := []) rfl rfl hNF
set_option maxRecDepth 20000 in
theorem b_Str_charAt_2_0 {d : Nat} {Q : QQ} {μ : Mem} {a : Int32} (hNF : Call d y_Str_isLatin1 [.ref 70] μ (fun ρ μ1 => ∃ r2 : Int32, ρ = .int r2 ∧ ((r2 = 0 → (False)) ∧
(¬ r2 = 0 → (Call d y_Lat_charAt [.ref 71, .int a] μ1 (fun ρ μ3 => ∃ r4 : Int32, ρ = .int r4 ∧ (narrow .char (.int r4) = .int r4 ∧ Q (.int r4) μ3))))))) : AA (Call d) y_Str_charAt Q 0 [.ref 70, .int a] [] μ := go_in 8 (code := pr_Str_charAt) (stops := []) rfl rfl hNF
set_option maxRecDepth 20000 in
theorem b_Str_checkIndex_0 {d : Nat} {Q : QQ} {μ : Mem} {a : Int32} {b : Int32} (hNF : Call d y_Prec_checkIndex [.int a, .int b, .retAddr 7] μ (fun ρ μ1 => ∃ r2 : Int32, ρ = .int r2 ∧ (Q .null μ1))) : AA (Call d) y_Str_checkIndex Q 0 [.int a, .int b] [] μ := go_in 6 (code := pr_Str_checkIndex) (stops := []) rfl rfl hNF
set_option maxRecDepth 20000 in
theorem b_Str_indexOf_2_0 {d : Nat} {Q : QQ} {μ : Mem} {a : Int32} (hNF : Call d y_Str_indexOf2 [.ref 70, .int a, .int 0] μ (fun ρ μ1 => ∃ r2 : Int32, ρ = .int r2 ∧ (Q (.int r2) μ1))) : AA (Call d) y_Str_indexOf Q 0 [.ref 70, .int a] [] μ := go_in 5 (code := pr_Str_indexOf) (stops := []) rfl rfl hNF
set_option maxRecDepth 20000 in
theorem b_Str_indexOf2_2_0 {d : Nat} {Q : QQ} {μ : Mem} {a : Int32} {b : Int32} (hNF : Call d y_Str_isLatin1 [.ref 70] μ (fun ρ μ1 => ∃ r2 : Int32, ρ = .int r2 ∧ ((r2 = 0 → (Call d y_Str_length [.ref 70] μ1 (fun ρ μ3 => ∃ r4 : Int32, ρ = .int r4 ∧ (False)))) ∧
(¬ r2 = 0 → (Call d y_Str_length [.ref 70] μ1 (fun ρ μ5 => ∃ r6 : Int32, ρ = .int r6 ∧ (Call d y_Lat_indexOf [.ref 71, .int a, .int b, .int r6] μ5 (fun ρ μ7 => ∃ r8 : Int32, ρ = .int r8 ∧ (Q (.int r8) μ7))))))))) : AA (Call d) y_Str_indexOf2 Q 0 [.ref 70, .int a, .int b] [] μ := go_in 12 (code := pr_Str_indexOf2) (stops := []) rfl rfl hNF
set_option maxRecDepth 20000 in
theorem b_Lat_charAt_0_0 {d : Nat} {Q : QQ} {μ : Mem} {b : Int32} (hNF : Call d y_Str_checkIndex [.int b, .int (Int32.ofNat 36)] μ (fun _ μ1 => (vp_in b 36 ∧ (narrow .char (.int (((Int32.toUInt32 ((μ1.1 67 b.toNatClampNeg) &&& 255)) % 65536).toInt32)) = .int (((Int32.toUInt32 ((μ1.1 67 b.toNatClampNeg) &&& 255)) % 65536).toInt32) ∧ Q (.int (((Int32.toUInt32 ((μ1.1 67 b.toNatClampNeg) &&& 255)) % 65536).toInt32)) μ1)))) : AA (Call d) y_Lat_charAt Q 0 [.ref 67, .int b] [] μ := go_in 11 (code := pr_Lat_charAt) (stops := []) rfl rfl hNF
set_option maxRecDepth 20000 in
theorem b_Lat_charAt_1_0 {d : Nat} {Q : QQ} {μ : Mem} {b : Int32} (hNF : Call d y_Str_checkIndex [.int b, .int (Int32.ofNat 61)] μ (fun _ μ1 => (vp_in b 61 ∧ (narrow .char (.int (((Int32.toUInt32 ((μ1.1 69 b.toNatClampNeg) &&& 255)) % 65536).toInt32)) = .int (((Int32.toUInt32 ((μ1.1 69 b.toNatClampNeg) &&& 255)) % 65536).toInt32) ∧ Q (.int (((Int32.toUInt32 ((μ1.1 69 b.toNatClampNeg) &&& 255)) % 65536).toInt32)) μ1)))) : AA (Call d) y_Lat_charAt Q 0 [.ref 69, .int b] [] μ := go_in 11 (code := pr_Lat_charAt) (stops := []) rfl rfl hNF
set_option maxRecDepth 20000 in
theorem b_Lat_charAt_2_0 {d : Nat} {Q : QQ} {μ : Mem} {b : Int32} (hNF : Call d y_Str_checkIndex [.int b, .int (Int32.ofNat 8)] μ (fun _ μ1 => (vp_in b 8 ∧ (narrow .char (.int (((Int32.toUInt32 ((μ1.1 71 b.toNatClampNeg) &&& 255)) % 65536).toInt32)) = .int (((Int32.toUInt32 ((μ1.1 71 b.toNatClampNeg) &&& 255)) % 65536).toInt32) ∧ Q (.int (((Int32.toUInt32 ((μ1.1 71 b.toNatClampNeg) &&& 255)) % 65536).toInt32)) μ1)))) : AA (Call d) y_Lat_charAt Q 0 [.ref 71, .int b] [] μ := go_in 11 (code := pr_Lat_charAt) (stops := []) rfl rfl hNF
set_option maxRecDepth 20000 in
theorem b_Lat_canEncode_0 {d : Nat} {Q : QQ} {μ : Mem} {a : Int32} (hNF : (a < 0 → (narrow .boolean (.int 0) = .int 0 ∧ Q (.int 0) μ)) ∧
(¬ a < 0 → (((255 : Int32) < a → (narrow .boolean (.int 0) = .int 0 ∧ Q (.int 0) μ)) ∧
(¬ (255 : Int32) < a → (narrow .boolean (.int 1) = .int 1 ∧ Q (.int 1) μ))))) : AA (Call d) y_Lat_canEncode Q 0 [.int a] [] μ := go_in 8 (code := pr_Lat_canEncode) (stops := []) rfl rfl hNF
set_option maxRecDepth 20000 in
theorem b_Lat_indexOf_2_0 {d : Nat} {Q : QQ} {μ : Mem} {b : Int32} {c : Int32} {e : Int32} (hNF : Call d y_Lat_canEncode [.int b] μ (fun ρ μ1 => ∃ r2 : Int32, ρ = .int r2 ∧ ((¬ r2 = 0 → (((if c < 0 then 0 else c) < (if Int32.ofNat 8 < e then Int32.ofNat 8 else e) → (Call d y_Lat_indexOfChar [.ref 71, .int b, .int (if c < 0 then 0 else c), .int (if Int32.ofNat 8 < e then Int32.ofNat 8 else e)] μ1 (fun ρ μ3 => ∃ r4 : Int32, ρ = .int r4 ∧ (Q (.int r4) μ3)))) ∧
(¬ (if c < 0 then 0 else c) < (if Int32.ofNat 8 < e then Int32.ofNat 8 else e) → (Q (.int (-1)) μ1)))) ∧
(r2 = 0 → (Q (.int (-1)) μ1))))) : AA (Call d) y_Lat_indexOf Q 0 [.ref 71, .int b, .int c, .int e] [] μ := go_in 21 (code := pr_Lat_indexOf) (stops := []) rfl rfl hNF
set_option maxRecDepth 20000 in
theorem b_Lat_indexOfChar_2_0 {d : Nat} {Q : QQ} {μ : Mem} {b : Int32} {c : Int32} {e : Int32} (hNF : AA (Call d) y_Lat_indexOfChar Q 5 [.ref 71, .int b, .int c, .int e, .int ((Int32.toInt8 b).toInt32), .int c] [] μ) : AA (Call d) y_Lat_indexOfChar Q 0 [.ref 71, .int b, .int c, .int e, un, un] [] μ := go_in 6 (code := pr_Lat_indexOfChar) (stops := [5]) rfl rfl hNF
set_option maxRecDepth 20000 in
theorem b_Lat_indexOfChar_2_5 {d : Nat} {Q : QQ} {μ : Mem} {l1 : Int32} {l2 : Int32} {l3 : Int32} {l4 : Int32} {l5 : Int32} (hNF : (l3 ≤ l5 → (Q (.int (-1)) μ)) ∧
(¬ l3 ≤ l5 → (vp_in l5 8 ∧ ((¬ (μ.1 71 l5.toNatClampNeg) = l4 → (AA (Call d) y_Lat_indexOfChar Q 5 [.ref 71, .int l1, .int l2, .int l3, .int l4, .int (l5 + 1)] [] μ)) ∧
((μ.1 71 l5.toNatClampNeg) = l4 → (Q (.int l5) μ)))))) : AA (Call d) y_Lat_indexOfChar Q 5 [.ref 71, .int l1, .int l2, .int l3, .int l4, .int l5] [] μ := go_in 11 (code := pr_Lat_indexOfChar) (stops := [5]) rfl rfl hNF
set_option maxRecDepth 20000 in
theorem b_Prec_checkIndex_0 {d : Nat} {Q : QQ} {μ : Mem} {a : Int32} {b : Int32} (hNF : (a < 0 → (False)) ∧
(¬ a < 0 → ((a < b → (Q (.int a) μ)) ∧
(¬ a < b → (False))))) : AA (Call d) y_Prec_checkIndex Q 0 [.int a, .int b, .retAddr 7] [] μ := go_in 7 (code := pr_Prec_checkIndex) (stops := []) rfl rfl hNF
