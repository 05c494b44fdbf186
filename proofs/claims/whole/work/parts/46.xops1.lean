/-! ===== the class: calls that think of days ===== -/
def isX0 (e : DE) (tx : Nat → Nat → List Int32) (t : Nat) (μ : Mem) : Prop := μ.1 2 3 = nI (nwE e) ∧ (∀ w, w < nwE e → μ.1 3 w = thE e w ∧ μ.1 4 w = sizeF (lsE e w) ∧ rowIs (μ.1 (6 + w)) (lsE e w)) ∧ μ.1 16 3 = nI (npE e) ∧ (∀ p, p < npE e → μ.1 17 p = waE e p ∧ μ.1 18 p = hoE e p ∧ μ.1 19 p = puE e p) ∧ vp_in (μ.1 20 3) 6 ∧ μ.1 21 (μ.1 20 3).toNatClampNeg = kE e ∧ μ.1 22 (μ.1 20 3).toNatClampNeg = nE e ∧ rulX t μ ∧ TxX tx μ ∧ cE e = tx t
/-- a thought touches no more -/
abbrev tX : List Nat := [42, 43, 44, 45, 46, 47, 48, 49, 50]
theorem isX0.fr {e : DE} {tx : Nat → Nat → List Int32} {t : Nat} {μ μ' : Mem} {ks : List Nat} (h : isX0 e tx t μ) (hw : nwE e ≤ 10) (o : Only ks μ μ') (hk : ∀ k ∈ ks, 42 ≤ k := by simp) : isX0 e tx t μ' := by
  obtain ⟨h1, h2, h3, h4, h5, h6, h7, h8, h9, h10⟩ := h
  have n : ∀ k, k < 42 → μ'.1 k = μ.1 k := fun k q => o.i k (fun z => absurd (hk k z) (by omega))
  unfold isX0
  rw [n 2 (by omega), n 16 (by omega), n 20 (by omega), n 18 (by omega), n 21 (by omega), n 22 (by omega), n 3 (by omega), n 4 (by omega), n 17 (by omega), n 19 (by omega)]
  refine ⟨h1, fun w q => ?_, h3, h4, h5, h6, h7, h8.only o (fun z => absurd (hk 27 z) (by omega)), h9.only o (fun k q1 q2 z => absurd (hk k z) (by omega)) h8.2.2.2, h10⟩
  rw [n (6 + w) (by omega)]
  exact h2 w q
theorem isX0.dawn {e : DE} {tx : Nat → Nat → List Int32} {t : Nat} {μ μ' : Mem} (h : isX0 e tx t μ) (hwf : wfE e) (o : Only [44, 45, 46] μ μ') (h46 : ∀ j, j < 5 → μ'.1 46 j = μ.1 18 j) (h44 : μ'.1 44 = upd (μ.1 44) 7 (μ.1 20 3)) : isX e tx t μ' := by
  have h' := h.fr hwf.1 o
  have h5 := hwf.2.2.1
  obtain ⟨h1, h2, h3, h4, h5', h6, h7, h8, h9, h10⟩ := h'
  have n20 : μ'.1 20 = μ.1 20 := o.i 20
  have n18 : μ'.1 18 = μ.1 18 := o.i 18
  unfold isX
  rw [h44, upd_s, ← n20]
  refine ⟨h1, h2, h3, fun p hp => ⟨(h4 p hp).1, ?_, (h4 p hp).2.2⟩, h5', h6, h7, h8, h9, h10⟩
  rw [h46 p (by omega), ← n18]
  exact (h4 p hp).2.1
/-- as isX, hours apart -/
theorem isX.sh {e : DE} {tx : Nat → Nat → List Int32} {t : Nat} {μ μ' : Mem} {f : Nat → Int32} (h : isX e tx t μ) (hw : nwE e ≤ 10) (o : Only [46] μ μ') (h46 : ∀ p, p < npE e → μ'.1 46 p = f p) : isX (setH e f) tx t μ' := by
  obtain ⟨h1, h2, h3, h4, h5, h6, h7, h8, h9, h10⟩ := h
  have n : ∀ k, k ≠ 46 → μ'.1 k = μ.1 k := fun k q => o.i k (by simp; exact q)
  unfold isX
  rw [n 2 (by omega), n 16 (by omega), n 44 (by omega), n 21 (by omega), n 22 (by omega), n 3 (by omega), n 4 (by omega), n 17 (by omega), n 19 (by omega)]
  refine ⟨h1, fun w q => ?_, h3, fun p hp => ⟨(h4 p hp).1, h46 p hp, (h4 p hp).2.2⟩, h5, h6, h7, h8.only o (by decide), h9.only o (fun k q1 q2 => by simp; omega) h8.2.2.2, h10⟩
  have q : w < nwE e := q
  rw [n (6 + w) (by omega)]
  exact h2 w q
/-- as isX, THE LAW apart -/
theorem isX.sl {e : DE} {tx : Nat → Nat → List Int32} {t i : Nat} {μ μ' : Mem} (h : isX e tx t μ) (hw : nwE e ≤ 10) (o : Only [44] μ μ') (h44 : μ'.1 44 7 = nI i) (hi : i < 6) : isX (setLw e (μ.1 21 i) (μ.1 22 i)) tx t μ' := by
  obtain ⟨h1, h2, h3, h4, h5, h6, h7, h8, h9, h10⟩ := h
  have n : ∀ k, k ≠ 44 → μ'.1 k = μ.1 k := fun k q => o.i k (by simp; exact q)
  unfold isX
  rw [n 2 (by omega), n 16 (by omega), h44, n 46 (by omega), n 21 (by omega), n 22 (by omega), n 3 (by omega), n 4 (by omega), n 17 (by omega), n 19 (by omega), nI_c (by omega)]
  refine ⟨h1, fun w q => ?_, h3, h4, nI_v hi (by omega), rfl, rfl, h8.only o (by decide), h9.only o (fun k q1 q2 => by simp; omega) h8.2.2.2, h10⟩
  have q : w < nwE e := q
  rw [n (6 + w) (by omega)]
  exact h2 w q
theorem Dawn_ok {d : Nat} {Q : QQ} {μ : Mem} {e : DE} {tx : Nat → Nat → List Int32} {t : Nat} {r : Nat → Int32} (hi : isX0 e tx t μ) (hwf : wfE e) (hrow : rowM 1 r μ) (hQ : ∀ μ', Only tX μ μ' → isX e tx t μ' → rowM 45 r μ' → (∀ j, j < 5 → μ'.1 46 j = μ.1 18 j) → Q .null μ') : Call (d + 1) y_Day_dawn [.ref 44] μ Q :=
  Day_dawn_ok (fun μ' o h45 h46 h44 => hQ μ' (o.mono (by simp)) (hi.dawn hwf o h46 h44) (fun j hj => by rw [h45 j hj]; exact hrow j hj) h46)
theorem sub1_i {n : Nat} (h : n < 2147483647) : (nI n - 1).toInt = (n : Int) - 1 := by
  rw [sub32 (by rw [nI_i (by omega)]; show _ ≤ _ - (1 : Int); omega) (by rw [nI_i (by omega)]; show _ - (1 : Int) < _; omega), nI_i (by omega)]
  rfl
theorem X_costs_ok {d : Nat} {Q : QQ} {μ : Mem} {e : DE} {tx : Nat → Nat → List Int32} {t : Nat} {a b : Int32} {r : Nat → Int32} (hi : isX0 e tx t μ) (hwf : wfE e) (hrow : rowM 1 r μ) (hok : rowOk r) (hb : ¬ (0 ≤ a.toInt ∧ a.toInt < nwE e ∧ 0 ≤ b.toInt ∧ b.toInt ≤ 23) → Q (.int (-2)) μ) (hg : 0 ≤ a.toInt ∧ a.toInt < nwE e ∧ 0 ≤ b.toInt ∧ b.toInt ≤ 23 → ∀ μ', Only tX μ μ' → Q (.int (coF e r a.toNatClampNeg b)) μ') : Call (d + 4) y_X_costs [.ref 0, .int a, .int b] μ Q := by
  have h10 := hwf.1
  refine b_X_costs_0 ?_
  rw [hi.1]
  refine X_within_ok (A := a.toInt) rfl (sub1_i (by omega)) ⟨_, rfl, b_z (fun c1 => hb (by omega)) (fun c1 => X_within_ok (A := b.toInt) (B := 23) rfl rfl ⟨_, rfl, b_nz (fun c2 => ?_) (fun c2 => hb (by omega))⟩)⟩
  have g := hg (by omega)
  obtain ⟨w, hw, rfl, ew⟩ := nI_ex (x := a) c1.1
  rw [nI_c hw] at g
  exact Dawn_ok hi hwf hrow (fun μ1 o1 i1 r1 _ => Day_costOf_ok i1 hwf (by omega) r1 hok (fun μ2 o2 => ⟨_, rfl, g μ2 (o1.trans (o2.mono (by simp)))⟩))
theorem X_write_ok {d : Nat} {Q : QQ} {μ : Mem} {e : DE} {tx : Nat → Nat → List Int32} {t : Nat} {a b : Int32} {r : Nat → Int32} (hi : isX0 e tx t μ) (hwf : wfE e) (hrow : rowM 1 r μ) (hok : rowOk r) (hb : ¬ (0 ≤ a.toInt ∧ a.toInt < nwE e ∧ 0 ≤ b.toInt ∧ b.toInt ≤ 23) → Q (.int (-2)) μ) (hg : 0 ≤ a.toInt ∧ a.toInt < nwE e ∧ 0 ≤ b.toInt ∧ b.toInt ≤ 23 → ∀ μ1 μ', Only tX μ μ1 → Only [1] μ1 μ' → rowM 1 (spF (letsF (lsE e a.toNatClampNeg)) r) μ' → Q (.int (coF e r a.toNatClampNeg b)) μ') : Call (d + 4) y_X_write [.ref 0, .int a, .int b] μ Q := by
  have h10 := hwf.1
  refine b_X_write_0 ?_
  rw [hi.1]
  refine X_within_ok (A := a.toInt) rfl (sub1_i (by omega)) ⟨_, rfl, b_z (fun c1 => hb (by omega)) (fun c1 => X_within_ok (A := b.toInt) (B := 23) rfl rfl ⟨_, rfl, b_nz (fun c2 => ?_) (fun c2 => hb (by omega))⟩)⟩
  have g := hg (by omega)
  obtain ⟨w, hw, rfl, ew⟩ := nI_ex (x := a) c1.1
  rw [nI_c hw] at g
  have hwn : w < nwE e := by omega
  refine Dawn_ok hi hwf hrow (fun μ1 o1 i1 r1 _ => Day_costOf_ok i1 hwf hwn r1 hok (fun μ2 o2 => ⟨_, rfl, ?_⟩))
  have o12 : Only tX μ μ2 := o1.trans (o2.mono (by simp))
  have i2 := hi.fr h10 o12
  have ww := hwf.2.1 w hwn
  have h6 : (letsF (lsE e w)).length ≤ 6 := by rw [lets_len]; exact digs_le 6 _ (by have := ww.1; have := ww.2.1; omega)
  refine Words_spend_u (by omega) ww.2.2 h6 (i2.2.1 w hwn).2.1 (i2.2.1 w hwn).2.2 (r := r) (fun j hj => by rw [o12.i 1]; exact hrow j hj) hok (fun μ3 o3 r3 => g μ2 μ3 o12 o3 r3)
theorem X_pass_ok {d : Nat} {Q : QQ} {μ : Mem} {e : DE} {tx : Nat → Nat → List Int32} {t : Nat} {a : Int32} {r : Nat → Int32} (hi : isX0 e tx t μ) (hwf : wfE e) (hrow : rowM 1 r μ) (hok : rowOk r) (hb : ¬ (0 ≤ a.toInt ∧ a.toInt ≤ 24) → Q (.int (-2)) μ) (hg : 0 ≤ a.toInt ∧ a.toInt ≤ 24 → ∀ μ', Only [1] μ μ' → rowM 1 (agesF e a.toNatClampNeg r) μ' → Q (.int (sum8 (agesF e a.toNatClampNeg r) 8)) μ') : Call (d + 3) y_X_pass [.ref 0, .int a] μ Q := by
  refine b_X_pass_0 (X_within_ok (A := a.toInt) (B := 24) rfl rfl ⟨_, rfl, b_nz (fun c => ?_) (fun c => hb c)⟩)
  obtain ⟨n, hn, rfl, en⟩ := nI_ex (x := a) c.1
  have g := hg c
  rw [nI_c hn] at g
  refine loopN (G := fun i s => AA (Call (d + 2)) y_X_pass Q 8 [.ref 0, .int (nI n), .int (nI i)] [] s) (P := fun i s => Only [1] μ s ∧ rowM 1 (agesF e i r) s) (N := n) ?_ ?_ 0 μ (by omega) ⟨Only.rf, hrow⟩
  · intro s ⟨h1, h2⟩
    refine b_X_pass_8 ⟨fun _ => X_sum_ok ⟨_, rfl, ?_⟩, fun z => absurd (Int32.le_refl _) z⟩
    exact Qi (g s h1 h2) (sum8_cg h2)
  · intro i s hin ⟨h1, h2⟩ ih
    have k20 : s.1 20 3 = μ.1 20 3 := by rw [h1.i 20]
    have k21 : s.1 21 = μ.1 21 := h1.i 21
    have k22 : s.1 22 = μ.1 22 := h1.i 22
    refine b_X_pass_8 ⟨fun z => absurd (le32.mp z) (by rw [nI_i hn, nI_i (by omega)]; omega), fun _ => ?_⟩
    rw [k20]
    refine Laws_age_u hi.2.2.2.2.1 (by rw [k21, hi.2.2.2.2.2.1]; exact hwf.2.2.2.2.1) h2 (agesF_ok hwf hok i) (fun s2 o3 r3 => ?_)
    rw [nI_1]
    refine ih s2 ⟨h1.trans o3, fun j hj => ?_⟩
    rw [r3 j hj, k21, k22, hi.2.2.2.2.2.1, hi.2.2.2.2.2.2.1]
    rfl
theorem X_cheapest_ok {d : Nat} {Q : QQ} {μ : Mem} {e : DE} {tx : Nat → Nat → List Int32} {t : Nat} {a b c : Int32} {r : Nat → Int32} (hi : isX0 e tx t μ) (hwf : wfE e) (hrow : rowM 1 r μ) (hok : rowOk r) (hb : ¬ (0 ≤ a.toInt ∧ a.toInt ≤ 3 ∧ 0 ≤ b.toInt ∧ b.toInt ≤ 23 ∧ 0 ≤ c.toInt ∧ c.toInt ≤ 1) → Q (.int (-2)) μ) (hg : 0 ≤ a.toInt ∧ a.toInt ≤ 3 ∧ 0 ≤ b.toInt ∧ b.toInt ≤ 23 ∧ 0 ≤ c.toInt ∧ c.toInt ≤ 1 → ∀ μ', Only tX μ μ' → Q (.int (if (cheapF e r a b (nwE e)).1 = -1 then -1 else if c = 0 then (cheapF e r a b (nwE e)).1 else (cheapF e r a b (nwE e)).2)) μ') : Call (d + 4) y_X_cheapest [.ref 0, .int a, .int b, .int c] μ Q := by
  have h10 := hwf.1
  refine b_X_cheapest_0 (X_within_ok (A := a.toInt) (B := 3) rfl rfl ⟨_, rfl, b_z (fun c1 => hb (by omega)) (fun c1 => X_within_ok (A := b.toInt) (B := 23) rfl rfl ⟨_, rfl, b_z (fun c2 => hb (by omega)) (fun c2 => X_within_ok (A := c.toInt) (B := 1) rfl rfl ⟨_, rfl, b_nz (fun c3 => ?_) (fun c3 => hb (by omega))⟩)⟩)⟩)
  have g := hg (by omega)
  refine Dawn_ok hi hwf hrow (fun μ1 o1 i1 r1 _ => ?_)
  refine loopN (G := fun w (x : Int32 × Mem) => AA (Call (d + 3)) y_X_cheapest Q 23 [.ref 0, .int a, .int b, .int c, .int (cheapF e r a b w).1, .int x.1, .int (nI w), un] [] x.2) (P := fun w x => Only tX μ x.2 ∧ Only [42, 43] μ1 x.2 ∧ ((cheapF e r a b w).1 = -1 ∧ x.1 = -1 ∨ ¬ (cheapF e r a b w).1 = -1 ∧ x.1 = (cheapF e r a b w).2)) (N := nwE e) ?_ ?_ 0 (-1, μ1) (by omega) ⟨o1, Only.rf, Or.inl ⟨rfl, rfl⟩⟩
  · intro ⟨x, s⟩ ⟨f1, f2, f3⟩
    refine b_X_cheapest_23 ⟨fun _ => ?_, fun z => absurd (by rw [f1.i 2, hi.1]; exact Int32.le_refl _) z⟩
    have g := g s f1
    rcases f3 with ⟨q1, q2⟩ | ⟨q1, q2⟩
    · rw [if_pos q1] at g
      have q2 : x = -1 := q2
      rw [q2, q1]
      exact ⟨fun _ => g, fun _ => g⟩
    · rw [if_neg q1] at g
      have q2 : x = (cheapF e r a b (nwE e)).2 := q2
      rw [q2]
      refine ⟨fun z => ?_, fun z => ?_⟩
      · rw [if_neg z] at g; exact g
      · rw [if_pos z] at g; exact g
  · intro w ⟨x, s⟩ hw ⟨f1, f2, f3⟩ ih
    have is1 : isX e tx t s := i1.fr h10 f2 (by simp)
    have rs1 : rowM 45 r s := fun j hj => by show s.1 45 j = _; rw [f2.i 45]; exact r1 j hj
    refine b_X_cheapest_23 ⟨fun z => absurd (le32.mp z) (by rw [f1.i 2, hi.1, nI_i (by omega), nI_i (by omega)]; omega), fun _ => ⟨nI_v (by omega) (by omega), ?_⟩⟩
    rw [nI_c (by omega), (is1.2.1 w hw).1, nI_1]
    refine ⟨fun z => Day_costOf_ok is1 hwf hw rs1 hok (fun s2 o2 => ⟨_, rfl, ?_⟩), fun z => ?_⟩
    · have nxt : ∀ x' : Int32, ((cheapF e r a b (w + 1)).1 = -1 ∧ x' = -1 ∨ ¬ (cheapF e r a b (w + 1)).1 = -1 ∧ x' = (cheapF e r a b (w + 1)).2) → ∀ y : Int32, AA (Call (d + 3)) y_X_cheapest Q 23 [.ref 0, .int a, .int b, .int c, .int (cheapF e r a b (w + 1)).1, .int x', .int (nI (w + 1)), .int y] [] s2 := by
        intro x' h' y
        have g := ih (x', s2) ⟨f1.trans (o2.mono (by simp)), f2.trans o2, h'⟩
        refine AA_weak ?_ g
        exact ⟨Or.inl rfl, Or.inl rfl, Or.inl rfl, Or.inl rfl, Or.inl rfl, Or.inl rfl, Or.inl rfl, Or.inr ⟨rfl, rfl⟩, trivial⟩
      have wn : ¬ nI w = -1 := nI_ne (by omega)
      refine ⟨fun z2 => ?_, fun z2 => ⟨fun z3 => ?_, fun z3 => ?_⟩⟩
      · have g := nxt (coF e r w b)
        rw [cheap_y z (Or.inl z2)] at g
        exact g (Or.inr ⟨wn, rfl⟩) _
      · have q := f3.resolve_left (fun y => z2 y.1)
        have q2 : x = (cheapF e r a b w).2 := q.2
        have g := nxt x
        rw [cheap_n (fun y => y.2.elim z2 (fun y => y (by rw [← q2]; exact z3)))] at g
        exact g (Or.inr q) _
      · have q := f3.resolve_left (fun y => z2 y.1)
        have q2 : x = (cheapF e r a b w).2 := q.2
        have g := nxt (coF e r w b)
        rw [cheap_y z (Or.inr (by rw [← q2]; exact z3))] at g
        exact g (Or.inr ⟨wn, rfl⟩) _
    · have g := ih (x, s) ⟨f1, f2, by rw [cheap_n (fun y => z y.1)]; exact f3⟩
      rw [cheap_n (fun y => z y.1)] at g
      exact g
theorem DayX_ok {d : Nat} {Q : QQ} {μ : Mem} {e : DE} {tx : Nat → Nat → List Int32} {t : Nat} {r : Nat → Int32} (hi : isX e tx t μ) (hwf : wfE e) (hrow : rowM 45 r μ) (hok : rowOk r) (hQ : ∀ μ', Only [42, 43, 45, 47, 48, 49] μ μ' → rowM 45 (dE e r).1 μ' → (∀ p, p < npE e → μ'.1 47 p = (dE e r).2.1 p ∧ μ'.1 48 p = (dE e r).2.2 p ∧ μ'.1 49 p = goodF e (dE e r) p) → Q .null μ') : Call (d + 6) y_Day_live [.ref 44] μ Q :=
  Day_live_ok hi hwf hrow hok (fun μ' h => hQ μ' h.1 h.2.1 (fun p hp => h.2.2 p hp (past24 hwf hp)))
theorem X_day_ok {d : Nat} {Q : QQ} {μ : Mem} {e : DE} {tx : Nat → Nat → List Int32} {t : Nat} {a b : Int32} {r : Nat → Int32} (hi : isX0 e tx t μ) (hwf : wfE e) (hrow : rowM 1 r μ) (hok : rowOk r) (hb : ¬ (0 ≤ a.toInt ∧ a.toInt < npE e ∧ 0 ≤ b.toInt ∧ b.toInt ≤ 2) → Q (.int (-100000)) μ) (hg : 0 ≤ a.toInt ∧ a.toInt < npE e ∧ 0 ≤ b.toInt ∧ b.toInt ≤ 2 → ∀ μ', Only tX μ μ' → Q (.int (if b = 0 then (dE e r).2.2 a.toNatClampNeg else if b = 1 then (dE e r).2.1 a.toNatClampNeg else goodF e (dE e r) a.toNatClampNeg)) μ') : Call (d + 7) y_X_day [.ref 0, .int a, .int b] μ Q := by
  have h5 := hwf.2.2.1
  refine b_X_day_0 ?_
  rw [hi.2.2.1]
  refine X_within_ok (A := a.toInt) rfl (sub1_i (by omega)) ⟨_, rfl, b_z (fun c1 => hb (by omega)) (fun c1 => X_within_ok (A := b.toInt) (B := 2) rfl rfl ⟨_, rfl, b_nz (fun c2 => ?_) (fun c2 => hb (by omega))⟩)⟩
  have g := hg (by omega)
  obtain ⟨p, hp, rfl, ep⟩ := nI_ex (x := a) c1.1
  rw [nI_c hp] at g ⊢
  have vp : vp_in (nI p) 5 := nI_v (by omega) (by omega)
  refine Dawn_ok hi hwf hrow (fun μ1 o1 i1 r1 _ => DayX_ok i1 hwf r1 hok (fun μ2 o2 r2 sp2 => ?_))
  have g := g μ2 (o1.trans (o2.mono (by simp)))
  obtain ⟨q1, q2, q3⟩ := sp2 p (by omega)
  rw [q1, q2, q3]
  refine ⟨fun z => ⟨fun z2 => ⟨vp, ?_⟩, fun z2 => ⟨vp, ?_⟩⟩, fun z => ⟨vp, ?_⟩⟩
  · rw [if_neg z, if_neg z2] at g; exact g
  · rw [if_neg z, if_pos z2] at g; exact g
  · rw [if_pos z] at g; exact g
theorem Day_spread_ok {d : Nat} {Q : QQ} {μ : Mem} {r : Nat → Int32} (hrow : rowM 45 r μ) (hQ : Q (.int (mxF r 8 - mnF r 8)) μ) : Call (d + 1) y_Day_spread [.ref 44] μ Q := by
  refine b_Day_spread_0 ⟨nI_v (n := 0) (by omega) (by omega), nI_v (n := 0) (by omega) (by omega), ?_⟩
  have e0 : μ.1 45 (Int32.toNatClampNeg 0) = r 0 := hrow 0 (by omega)
  rw [e0]
  refine loopN (G := fun i (v : Unit) => AA (Call d) y_Day_spread Q 18 [.ref 44, .int (mxF r i), .int (mnF r i), .ref 45, .int (Int32.ofNat 8), .int (nI i), un] [] μ) (P := fun i v => True) (N := 8) ?_ ?_ 0 () (by omega) trivial
  · intro v _
    exact b_Day_spread_18 ⟨fun _ => hQ, fun z => absurd (by decide) z⟩
  · intro i v hi _ ih
    refine b_Day_spread_18 ⟨fun z => absurd (le32.mp z) (by rw [nI_i (by omega)]; show ¬ (8 : Int) ≤ _; omega), fun _ => ⟨nI_v hi (by omega), ?_⟩⟩
    rw [nI_c (by omega), nI_1, hrow i hi]
    have g := ih () trivial
    simp only [mxF, mnF] at g
    have e1 : (if mxF r i < r i then r i else mxF r i) = (if r i ≤ mxF r i then mxF r i else r i) := by
      by_cases q : r i ≤ mxF r i
      · rw [if_pos q, if_neg (Int32.not_lt.mpr q)]
      · rw [if_neg q, if_pos (Int32.not_le.mp q)]
    have e2 : (if r i < mnF r i then r i else mnF r i) = (if mnF r i ≤ r i then mnF r i else r i) := by
      by_cases q : mnF r i ≤ r i
      · rw [if_pos q, if_neg (Int32.not_lt.mpr q)]
      · rw [if_neg q, if_pos (Int32.not_le.mp q)]
    rw [e1, e2]
    refine AA_weak ?_ g
    exact ⟨Or.inl rfl, Or.inl rfl, Or.inl rfl, Or.inl rfl, Or.inl rfl, Or.inl rfl, Or.inr ⟨rfl, rfl⟩, trivial⟩
theorem X_all_ok {d : Nat} {Q : QQ} {μ : Mem} {e : DE} {tx : Nat → Nat → List Int32} {t : Nat} {a : Int32} {r : Nat → Int32} (hi : isX0 e tx t μ) (hwf : wfE e) (hrow : rowM 1 r μ) (hok : rowOk r) (hb : ¬ (0 ≤ a.toInt ∧ a.toInt ≤ 3) → Q (.int (-100000)) μ) (hg : 0 ≤ a.toInt ∧ a.toInt ≤ 3 → ∀ μ', Only tX μ μ' → Q (.int (if a.toInt = 0 then gdA e r else if a.toInt = 1 then sayF (dE e r) (npE e) else if a.toInt = 2 then mxF (dE e r).1 8 - mnF (dE e r).1 8 else sum8 (dE e r).2.2 (npE e))) μ') : Call (d + 7) y_X_all [.ref 0, .int a] μ Q := by
  have h5 := hwf.2.2.1
  refine b_X_all_0 (X_within_ok (A := a.toInt) (B := 3) rfl rfl ⟨_, rfl, b_nz (fun c1 => ?_) (fun c1 => hb c1)⟩)
  have g := hg c1
  refine Dawn_ok hi hwf hrow (fun μ1 o1 i1 r1 _ => DayX_ok i1 hwf r1 hok (fun μ2 o2 r2 sp2 => ?_))
  have o12 : Only tX μ μ2 := o1.trans (o2.mono (by simp))
  have g := g μ2 o12
  have h16 : μ2.1 16 3 = nI (npE e) := by rw [o12.i 16]; exact hi.2.2.1
  have f0 : a = 0 ↔ a.toInt = 0 := eq32
  have f1 : a = 1 ↔ a.toInt = 1 := eq32
  have f2 : a = 2 ↔ a.toInt = 2 := eq32
  refine ⟨fun z => ?_, fun z => ⟨fun z2 => ?_, fun z2 => ⟨fun z3 => ?_, fun z3 => ?_⟩⟩⟩
  · rw [if_pos (f0.mp z)] at g
    exact Day_allGood_ok h5 h16 (fun p hp => (sp2 p hp).2.2) ⟨_, rfl, g⟩
  · rw [if_neg (fun y => z (f0.mpr y)), if_pos (f1.mp z2)] at g
    exact Day_howManySaid_ok h5 h16 (fun p hp => (sp2 p hp).1) ⟨_, rfl, g⟩
  · rw [if_neg (fun y => z (f0.mpr y)), if_neg (fun y => z2 (f1.mpr y)), if_pos (f2.mp z3)] at g
    exact Day_spread_ok r2 ⟨_, rfl, g⟩
  · rw [if_neg (fun y => z (f0.mpr y)), if_neg (fun y => z2 (f1.mpr y)), if_neg (fun y => z3 (f2.mpr y))] at g
    exact Day_allPaid_ok h5 h16 (fun p hp => (sp2 p hp).2.1) ⟨_, rfl, g⟩
