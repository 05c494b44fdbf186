/-! ===== both at their start ===== -/
def txtL : List Int32 := [97, 100, 100, 115, 32, 48, 32, 59, 32, 119, 111, 114, 116, 104, 32, 53, 48, 32, 45, 32, 108, 101, 110, 103, 116, 104, 32, 59, 32, 109, 97, 121, 32, 49, 32, 59, 32, 32, 32, 32]
def txtB : Nat → Int32 := fun i => txtL.getD i 0
def rowT (n : Nat) : Prop := lexF txtB n 0 = (256, 0, 0, 4) ∧ lexF txtB n 4 = (2, 0, 5, 6) ∧ lexF txtB n 6 = (59, 0, 7, 8) ∧ lexF txtB n 8 = (257, 0, 9, 14) ∧ lexF txtB n 14 = (2, 50, 15, 17) ∧ lexF txtB n 17 = (45, 0, 18, 19) ∧ lexF txtB n 19 = (3, 3, 20, 26) ∧ lexF txtB n 26 = (59, 0, 27, 28) ∧ lexF txtB n 28 = (258, 0, 29, 32) ∧ lexF txtB n 32 = (2, 1, 33, 34) ∧ lexF txtB n 34 = (59, 0, 35, 36) ∧ lexF txtB n 36 = (0, 0, n, n)
theorem rowT36 : rowT 36 := ⟨by decide +kernel, by decide +kernel, by decide +kernel, by decide +kernel, by decide +kernel, by decide +kernel, by decide +kernel, by decide +kernel, by decide +kernel, by decide +kernel, by decide +kernel, by decide +kernel⟩
theorem rowT40 : rowT 40 := ⟨by decide +kernel, by decide +kernel, by decide +kernel, by decide +kernel, by decide +kernel, by decide +kernel, by decide +kernel, by decide +kernel, by decide +kernel, by decide +kernel, by decide +kernel, by decide +kernel⟩
theorem txtR : ∀ i, i < 40 → rng (txtB i) 0 255 := by unfold rng; decide +kernel
def c1L : List Int32 := [50] ++ [(-1) - nI 3] ++ [-45]
theorem g_of {B : Nat → Int32} {n h : Nat} {τ : TK} (hh : h ≤ n) (e : lexF B n h = τ) : gTk n τ := by rw [← e]; exact (lex_g hh).1
theorem firstJ {n : Nat} (h36 : 36 ≤ n) (h40 : n ≤ 40) (hT : rowT n) : okK [0] 31 ∧ okK c1L 31 ∧ okK [1] 31 ∧ (∀ (d t w : Nat) (μ : Mem) (Q : QQ), t < 6 → w < 3 → (∀ i, i < n → μ.1 1 (160 * t + i) = txtB i) → μ.1 2 t = nI n → (∀ μ', frP μ μ' → μ'.1 0 32 = 0 → Q (.int (evF (if w = 0 then [0] else if w = 1 then c1L else [1]) (envM μ))) μ') → Call (d + 43) y_M_read [.ref 0, .int (nI t), .int (nI w)] μ Q) ∧ (∀ (d : Nat) (μ : Mem) (Q : QQ), byX txtB n μ → (∀ μ', Only [23, 25, 26] μ μ' → (∀ k, k < 4 ∨ 9 < k → k ≠ 1 → μ'.1 23 k = μ.1 23 k) → μ'.1 23 1 = 0 → (∀ j, j < ([0] ++ c1L ++ [1]).length → μ'.1 25 j = ([0] ++ c1L ++ [1]).getD j 0) → μ'.1 26 0 = nI 1 → μ'.1 26 1 = nI 4 → μ'.1 26 2 = nI 5 → Q (.int (-1)) μ') → Call (d + 51) y_Reader_read [.ref 23] μ Q) := by
  obtain ⟨t0, t1, t2, t3, t4, t5, t6, t7, t8, t9, t10, t11⟩ := hT
  have hr : ∀ i, i < n → rng (txtB i) 0 255 := fun i hi => txtR i (by omega)
  have hn : n ≤ 160 := by omega
  have a1 := atomN (o := 0) hr hn (by omega) (g_of (B := txtB) (by omega) t1) rfl
  have a4 := atomN (o := 0) hr hn (by omega) (g_of (B := txtB) (by omega) t4) rfl
  have a6 := atomM (o := 0) (k := 3) hr hn (by omega) (g_of (B := txtB) (by omega) t6) rfl (by omega) rfl
  have a9 := atomN (o := 0) hr hn (by omega) (g_of (B := txtB) (by omega) t9) rfl
  dsimp only at a1 a4 a6 a9
  rw [t2] at a1
  rw [t5] at a4
  rw [t7] at a6
  rw [t10] at a9
  have g0 := g_of (B := txtB) (n := n) (by omega) t0
  have g1 := g_of (B := txtB) (n := n) (by omega) t1
  have g2 := g_of (B := txtB) (n := n) (by omega) t2
  have g3 := g_of (B := txtB) (n := n) (by omega) t3
  have g4 := g_of (B := txtB) (n := n) (by omega) t4
  have g5 := g_of (B := txtB) (n := n) (by omega) t5
  have g7 := g_of (B := txtB) (n := n) (by omega) t7
  have g8 := g_of (B := txtB) (n := n) (by omega) t8
  have g9 := g_of (B := txtB) (n := n) (by omega) t9
  have g10 := g_of (B := txtB) (n := n) (by omega) t10
  have g11 := g_of (B := txtB) (n := n) h36 t11
  have e0 := eitherN g1 g2 (by decide) (by decide) (by decide) (by decide) (by decide) (addedN (by decide) (by decide) (termN (by decide) a1))
  have s1 := addedS (τ := (2, 50, 15, 17)) (τ1 := (45, 0, 18, 19)) (τ3 := (59, 0, 27, 28)) (c1 := [50]) (c2 := [(-1) - nI 3]) hr hn (by omega) g5 (by decide) rfl g7 (by show (lexF txtB n 19).2.2.1 + 1 ≤ 27; rw [t6]; decide) (by decide) (by decide) (termN (by decide) a4) (by
    show _ ∧ MOk _ _ _ _ (lexF txtB n 19) _ _ _ ∧ XOk _ _ _ _ (lexF txtB n 19) _ _ _
    rw [t6]
    exact termN (by decide) a6)
  have e1 := eitherN g4 g7 (by decide) (by decide) (by decide) (by decide) (by decide) s1
  have e2 := eitherN g9 g10 (by decide) (by decide) (by decide) (by decide) (by decide) (addedN (by decide) (by decide) (termN (by decide) a9))
  have p0 := partN (k := 0) (τ := (256, 0, 0, 4)) (τ3 := (59, 0, 7, 8)) (c1 := [0]) hr hn (by omega) g0 (by decide) g2 (by show (lexF txtB n 4).2.2.1 + 1 ≤ 7; rw [t1]; decide) rfl (by
    show _ ∧ MOk _ _ _ _ (lexF txtB n 4) _ _ _ ∧ XOk _ _ _ _ (lexF txtB n 4) _ _ _
    rw [t1]
    exact e0)
  have p1 := partN (k := 1) (τ := (257, 0, 9, 14)) (τ3 := (59, 0, 27, 28)) (c1 := c1L) hr hn (by omega) g3 (by decide) g7 (by show (lexF txtB n 14).2.2.1 + 3 ≤ 27; rw [t4]; decide) rfl (by
    show _ ∧ MOk _ _ _ _ (lexF txtB n 14) _ _ _ ∧ XOk _ _ _ _ (lexF txtB n 14) _ _ _
    rw [t4]
    exact e1)
  have p2 := partN (k := 2) (τ := (258, 0, 29, 32)) (τ3 := (59, 0, 35, 36)) (c1 := [1]) hr hn (by omega) g8 (by decide) g10 (by show (lexF txtB n 32).2.2.1 + 1 ≤ 35; rw [t9]; decide) rfl (by
    show _ ∧ MOk _ _ _ _ (lexF txtB n 32) _ _ _ ∧ XOk _ _ _ _ (lexF txtB n 32) _ _ _
    rw [t9]
    exact e2)
  dsimp only at p0 p1 p2
  rw [t3] at p0
  rw [t8] at p1
  rw [t11] at p2
  obtain ⟨k0, _, _, m0, x0⟩ := p0
  obtain ⟨k1, _, _, m1, x1⟩ := p1
  obtain ⟨k2, _, _, m2, x2⟩ := p2
  have rd := readG (τ0 := (256, 0, 0, 4)) (τ1 := (257, 0, 9, 14)) (τ2 := (258, 0, 29, 32)) (τ3 := (0, 0, n, n)) (c0 := [0]) (c1 := c1L) (c2 := [1]) hr hn t0 g3 g8 g11 (by decide) (by decide) (by show 29 + 1 ≤ n; omega) m0 x0 m1 x1 m2 x2 rfl
  exact ⟨k0, k1, k2, rd.1, rd.2⟩
def tx0 : Nat → Nat → List Int32 := txS (fun _ _ => []) 0 [0] c1L [1]
/-! the reference's first memory -/
def mem0 : Mem := (fun k => if k = 0 then (fun j => if j = 17 then 1 else if j = 40 then -1 else if j = 51 then -1 else 0) else fun _ => 0, fun _ _ => 0)
def spl (μ : Mem) (i : Nat) : Mem := wI μ 1 (fun j => if 8 * i ≤ j ∧ j < 8 * i + 8 then txtB j else μ.1 1 j)
theorem wI_cg {μ : Mem} {k : Nat} {f g : Nat → Int32} (h : ∀ j, f j = g j) : wI μ k f = wI μ k g := by rw [show f = g from funext h]
theorem wI_wI {μ : Mem} {k : Nat} {f g : Nat → Int32} : wI (wI μ k f) k g = wI μ k g := by
  unfold wI
  refine Prod.ext (funext fun a => ?_) rfl
  by_cases h : a = k
  · simp [h]
  · simp [h]
theorem M_spell_ok {d i : Nat} {Q : QQ} {μ : Mem} {b c e f g u v w : Int32} (hi : i < 5) (e0 : txtB (8 * i) = b) (e1 : txtB (8 * i + 1) = c) (e2 : txtB (8 * i + 2) = e) (e3 : txtB (8 * i + 3) = f) (e4 : txtB (8 * i + 4) = g) (e5 : txtB (8 * i + 5) = u) (e6 : txtB (8 * i + 6) = v) (e7 : txtB (8 * i + 7) = w) (hQ : Q .null (spl μ i)) : Call (d + 1) y_M_spell [.ref 0, .int (nI (8 * i)), .int b, .int c, .int e, .int f, .int g, .int u, .int v, .int w] μ Q := by
  refine b_M_spell_0 ?_
  have a1 : nI (8 * i) + 1 = nI (8 * i + 1) := nI_add _ 1
  have a2 : nI (8 * i) + 2 = nI (8 * i + 2) := nI_add _ 2
  have a3 : nI (8 * i) + 3 = nI (8 * i + 3) := nI_add _ 3
  have a4 : nI (8 * i) + 4 = nI (8 * i + 4) := nI_add _ 4
  have a5 : nI (8 * i) + 5 = nI (8 * i + 5) := nI_add _ 5
  have a6 : nI (8 * i) + 6 = nI (8 * i + 6) := nI_add _ 6
  have a7 : nI (8 * i) + 7 = nI (8 * i + 7) := nI_add _ 7
  rw [a1, a2, a3, a4, a5, a6, a7, nI_c (by omega), nI_c (by omega), nI_c (by omega), nI_c (by omega), nI_c (by omega), nI_c (by omega), nI_c (by omega), nI_c (by omega)]
  refine ⟨nI_v (by omega) (by omega), fun μ1 h1 => ⟨nI_v (by omega) (by omega), fun μ2 h2 => ⟨nI_v (by omega) (by omega), fun μ3 h3 => ⟨nI_v (by omega) (by omega), fun μ4 h4 => ⟨nI_v (by omega) (by omega), fun μ5 h5 => ⟨nI_v (by omega) (by omega), fun μ6 h6 => ⟨nI_v (by omega) (by omega), fun μ7 h7 => ⟨nI_v (by omega) (by omega), fun μ8 h8 => ?_⟩⟩⟩⟩⟩⟩⟩⟩
  have e8 : μ8 = spl μ i := by
    rw [h8, h7, h6, h5, h4, h3, h2, h1, wI_wI, wI_wI, wI_wI, wI_wI, wI_wI, wI_wI, wI_wI]
    unfold spl
    refine wI_cg (fun j => ?_)
    rw [wI_s, wI_s, wI_s, wI_s, wI_s, wI_s, wI_s]
    by_cases y : 8 * i ≤ j ∧ j < 8 * i + 8
    · rw [if_pos y]
      rcases (show j = 8 * i ∨ j = 8 * i + 1 ∨ j = 8 * i + 2 ∨ j = 8 * i + 3 ∨ j = 8 * i + 4 ∨ j = 8 * i + 5 ∨ j = 8 * i + 6 ∨ j = 8 * i + 7 by omega) with q | q | q | q | q | q | q | q <;> subst q
      · rw [upd_n (by omega), upd_n (by omega), upd_n (by omega), upd_n (by omega), upd_n (by omega), upd_n (by omega), upd_n (by omega), upd_s, e0]
      · rw [upd_n (by omega), upd_n (by omega), upd_n (by omega), upd_n (by omega), upd_n (by omega), upd_n (by omega), upd_s, e1]
      · rw [upd_n (by omega), upd_n (by omega), upd_n (by omega), upd_n (by omega), upd_n (by omega), upd_s, e2]
      · rw [upd_n (by omega), upd_n (by omega), upd_n (by omega), upd_n (by omega), upd_s, e3]
      · rw [upd_n (by omega), upd_n (by omega), upd_n (by omega), upd_s, e4]
      · rw [upd_n (by omega), upd_n (by omega), upd_s, e5]
      · rw [upd_n (by omega), upd_s, e6]
      · rw [upd_s, e7]
    · rw [if_neg y, upd_n (by omega), upd_n (by omega), upd_n (by omega), upd_n (by omega), upd_n (by omega), upd_n (by omega), upd_n (by omega), upd_n (by omega)]
  rw [e8]
  exact hQ
/-- the reference as its constructor leaves it -/
def memI (μ : Mem) : Mem := wI (wI (wI μ 2 (upd (μ.1 2) 0 40)) 0 (upd (μ.1 0) 3 1)) 11 (upd (μ.1 11) 0 1)
def memM : Mem := memI (spl (spl (spl (spl (spl mem0 0) 1) 2) 3) 4)
theorem memM_0 (k : Nat) : memM.1 0 k = if k = 3 then 1 else if k = 17 then 1 else if k = 40 then -1 else if k = 51 then -1 else 0 := by
  unfold memM memI spl mem0
  by_cases h : k = 3
  · subst h; simp [wI, upd]
  · simp [wI, upd, h]
theorem memM_k {k : Nat} (h0 : k ≠ 0) (h1 : k ≠ 1) (h2 : k ≠ 2) (h11 : k ≠ 11) : memM.1 k = fun _ => 0 := by
  unfold memM memI spl mem0
  simp [wI, h0, h1, h2, h11]
theorem memM_1 {j : Nat} (h : j < 40) : memM.1 1 j = txtB j := by
  unfold memM memI spl mem0
  simp [wI]
  (repeat' split) <;> first | rfl | omega
theorem memM_2 : memM.1 2 0 = 40 := by unfold memM memI spl mem0; simp [wI, upd]
theorem memM_11 (j : Nat) : memM.1 11 j = if j = 0 then 1 else 0 := by unfold memM memI spl mem0; simp [wI, upd]
theorem memM_l : memM.2 = fun _ _ => 0 := rfl
