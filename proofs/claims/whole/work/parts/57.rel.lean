/-! ===== the relation between the class's memory and the reference's ===== -/
def okW (v : Int32) : Prop := 1 ≤ v.toInt ∧ v.toInt ≤ 888888 ∧ okD v.toInt.toNat
def RU (x m : Mem) : Prop := ∀ j, j < 8 → x.1 1 j = m.1 4 j ∧ rng (m.1 4 j) 0 999
def RW (x m : Mem) : Prop := x.1 2 3 = m.1 0 10 ∧ rng (m.1 0 10) 0 10 ∧ (∀ w, w < 10 → x.1 3 w = m.1 5 w ∧ x.1 4 w = sizeF (m.1 6 w) ∧ rowIs (x.1 (6 + w)) (m.1 6 w) ∧ 0 ≤ (m.1 6 w).toInt) ∧ ∀ w : Nat, (w : Int) < (m.1 0 10).toInt → okW (m.1 6 w)
def RP (x m : Mem) : Prop := x.1 16 3 = m.1 0 14 ∧ rng (m.1 0 14) 0 5 ∧ ∀ p, p < 5 → x.1 17 p = m.1 7 p ∧ x.1 18 p = m.1 8 p ∧ x.1 19 p = m.1 9 p ∧ rng (m.1 8 p) 0 23 ∧ rng (m.1 9 p) 0 9999
def RL (x m : Mem) : Prop := x.1 20 2 = m.1 0 17 ∧ rng (m.1 0 17) 1 6 ∧ x.1 20 3 = m.1 0 18 ∧ (0 ≤ (m.1 0 18).toInt ∧ (m.1 0 18).toInt < (m.1 0 17).toInt) ∧ ∀ i, i < 6 → x.1 21 i = m.1 10 i ∧ x.1 22 i = m.1 11 i ∧ rng (m.1 10 i) 0 5 ∧ rng (m.1 11 i) 0 9
def RT (tx : Nat → Nat → List Int32) (x m : Mem) : Prop := x.1 27 4 = m.1 0 3 ∧ rng (m.1 0 3) 1 6 ∧ x.1 27 5 = m.1 0 4 ∧ (0 ≤ (m.1 0 4).toInt ∧ (m.1 0 4).toInt < (m.1 0 3).toInt) ∧ TxX tx x ∧ TxM tx m
def RF (x m : Mem) : Prop := x.1 23 1 = m.1 0 6 ∧ rng (m.1 0 6) 0 160 ∧ ∀ i : Nat, (i : Int) < (m.1 0 6).toInt → x.1 24 i = m.1 3 i ∧ rng (m.1 3 i) 0 255
def RI (x m : Mem) : Prop := (x.1 51 0 = 0 ∧ m.1 0 51 = -1) ∨ (x.1 51 0 = 1 ∧ x.1 51 7 = m.1 0 51 ∧ rng (m.1 0 51) 0 5 ∧ x.1 51 2 = m.1 0 52 ∧ rng (m.1 0 52) 0 10 ∧ (∀ w : Nat, (w : Int) < (m.1 0 52).toInt → okW (m.1 6 w)) ∧ x.1 51 9 = m.1 0 53 ∧ rng (m.1 0 53) 1 6 ∧ x.1 51 10 = m.1 0 54 ∧ (0 ≤ (m.1 0 54).toInt ∧ (m.1 0 54).toInt < (m.1 0 53).toInt) ∧ x.1 51 3 = m.1 0 55 ∧ (0 ≤ (m.1 0 55).toInt ∧ (m.1 0 55).toInt < (m.1 0 3).toInt) ∧ (∀ j, j < 8 → x.1 52 j = m.1 19 j ∧ rng (m.1 19 j) 0 999) ∧ (∀ j, j < 5 → x.1 53 j = m.1 20 j ∧ x.1 54 j = m.1 20 (5 + j) ∧ x.1 55 j = m.1 20 (10 + j) ∧ rng (m.1 20 (5 + j)) 0 23 ∧ rng (m.1 20 (10 + j)) 0 9999) ∧ ∀ j, j < 6 → x.1 56 j = m.1 21 j ∧ rng (m.1 21 j) 0 9)
def RS (x m : Mem) : Prop := ∀ s, s < 4 → (x.1 58 s = -1 ∧ (m.1 22 s).toInt = 0) ∨ (¬ (m.1 22 s).toInt = 0 ∧ x.1 58 s = m.1 23 s ∧ rng (m.1 23 s) 0 2 ∧ x.1 59 s = m.1 24 s ∧ rng (m.1 24 s) 0 40 ∧ ∀ i : Nat, (i : Int) < (m.1 24 s).toInt → x.1 (61 + s) i = m.1 25 (40 * s + i))
def RC (x m : Mem) : Prop := m.1 0 40 = -1 ∧ strX x ∧ abvM x
def R (tx : Nat → Nat → List Int32) (x m : Mem) : Prop := RU x m ∧ RW x m ∧ RP x m ∧ RL x m ∧ RT tx x m ∧ RF x m ∧ RI x m ∧ RS x m ∧ RC x m
theorem RU.cg {x x' m m' : Mem} (h : RU x m) (h1 : x'.1 1 = x.1 1) (h2 : m'.1 4 = m.1 4) : RU x' m' := by unfold RU; rw [h1, h2]; exact h
theorem RW.cg {x x' m m' : Mem} (h : RW x m) (h1 : ∀ k, 2 ≤ k → k < 16 → x'.1 k = x.1 k) (h2 : m'.1 0 10 = m.1 0 10) (h3 : m'.1 5 = m.1 5) (h4 : m'.1 6 = m.1 6) : RW x' m' := by
  unfold RW
  rw [h1 2 (by omega) (by omega), h1 3 (by omega) (by omega), h1 4 (by omega) (by omega), h2, h3, h4]
  refine ⟨h.1, h.2.1, fun w hw => ?_, h.2.2.2⟩
  rw [h1 (6 + w) (by omega) (by omega)]
  exact h.2.2.1 w hw
theorem RP.cg {x x' m m' : Mem} (h : RP x m) (h1 : x'.1 16 = x.1 16) (h2 : x'.1 17 = x.1 17) (h3 : x'.1 18 = x.1 18) (h4 : x'.1 19 = x.1 19) (h5 : m'.1 0 14 = m.1 0 14) (h6 : m'.1 7 = m.1 7) (h7 : m'.1 8 = m.1 8) (h8 : m'.1 9 = m.1 9) : RP x' m' := by unfold RP; rw [h1, h2, h3, h4, h5, h6, h7, h8]; exact h
theorem RL.cg {x x' m m' : Mem} (h : RL x m) (h1 : x'.1 20 = x.1 20) (h2 : x'.1 21 = x.1 21) (h3 : x'.1 22 = x.1 22) (h4 : m'.1 0 17 = m.1 0 17) (h5 : m'.1 0 18 = m.1 0 18) (h6 : m'.1 10 = m.1 10) (h7 : m'.1 11 = m.1 11) : RL x' m' := by unfold RL; rw [h1, h2, h3, h4, h5, h6, h7]; exact h
theorem RT.cg {tx : Nat → Nat → List Int32} {x x' m m' : Mem} (h : RT tx x m) (h1 : ∀ k, 27 ≤ k → k < 42 → x'.1 k = x.1 k) (h2 : m'.1 0 3 = m.1 0 3) (h3 : m'.1 0 4 = m.1 0 4) (h4 : TxM tx m') : RT tx x' m' := by
  obtain ⟨q1, q2, q3, q4, q5, q6⟩ := h
  unfold RT
  rw [h1 27 (by omega) (by omega), h2, h3]
  exact ⟨q1, q2, q3, q4, q5.cong (by rw [h1 27 (by omega) (by omega)]) (fun k a b => h1 k (by omega) b) (by rw [q1]; exact q2.2), h4⟩
theorem RF.cg {x x' m m' : Mem} (h : RF x m) (h1 : x'.1 23 1 = x.1 23 1) (h2 : x'.1 24 = x.1 24) (h3 : m'.1 0 6 = m.1 0 6) (h4 : m'.1 3 = m.1 3) : RF x' m' := by unfold RF; rw [h1, h2, h3, h4]; exact h
theorem RI.cg {x x' m m' : Mem} (h : RI x m) (h1 : ∀ k, 51 ≤ k → k < 57 → x'.1 k = x.1 k) (h2 : ∀ k, 51 ≤ k → k ≤ 55 → m'.1 0 k = m.1 0 k) (h3 : m'.1 0 3 = m.1 0 3) (h4 : m'.1 6 = m.1 6) (h5 : m'.1 19 = m.1 19) (h6 : m'.1 20 = m.1 20) (h7 : m'.1 21 = m.1 21) : RI x' m' := by
  unfold RI
  rw [h1 51 (by omega) (by omega), h1 52 (by omega) (by omega), h1 53 (by omega) (by omega), h1 54 (by omega) (by omega), h1 55 (by omega) (by omega), h1 56 (by omega) (by omega), h2 51 (by omega) (by omega), h2 52 (by omega) (by omega), h2 53 (by omega) (by omega), h2 54 (by omega) (by omega), h2 55 (by omega) (by omega), h3, h4, h5, h6, h7]
  exact h
theorem RS.cg {x x' m m' : Mem} (h : RS x m) (h1 : ∀ k, 58 ≤ k → k < 65 → x'.1 k = x.1 k) (h2 : ∀ k, 22 ≤ k → k < 26 → m'.1 k = m.1 k) : RS x' m' := by
  unfold RS
  rw [h1 58 (by omega) (by omega), h1 59 (by omega) (by omega), h2 22 (by omega) (by omega), h2 23 (by omega) (by omega), h2 24 (by omega) (by omega), h2 25 (by omega) (by omega)]
  intro s hs
  rw [h1 (61 + s) (by omega) (by omega)]
  exact h s hs
theorem RC.cg {x x' m m' : Mem} (h : RC x m) (h1 : ∀ k, 65 ≤ k → x'.1 k = x.1 k) (h2 : m'.1 0 40 = m.1 0 40) : RC x' m' := by
  unfold RC abvM strX
  rw [h1 65 (by omega), h1 68 (by omega), h1 69 (by omega), h1 70 (by omega), h1 71 (by omega), h2]
  exact h
/-- after thoughts -/
theorem R.think {tx : Nat → Nat → List Int32} {x x' m m' : Mem} (h : R tx x m) (ox : Only tX x x') (f : frG m m') (hT : TxM tx m') : R tx x' m' := by
  obtain ⟨hU, hW, hP, hL, hRT, hF, hI, hS, hC⟩ := h
  have om := f.1
  have xk : ∀ k, k < 42 ∨ 50 < k → x'.1 k = x.1 k := fun k hk => ox.i k (by simp; omega)
  have mk : ∀ k, k ≠ 0 → k < 12 ∨ 18 < k → m'.1 k = m.1 k := fun k h0 hk => om.i k (by simp; omega)
  have os : ∀ k, k < 19 ∨ 33 < k ∧ k ≤ 40 ∨ 47 < k → m'.1 0 k = m.1 0 k := f.2
  exact ⟨hU.cg (xk 1 (by omega)) (mk 4 (by omega) (by omega)), hW.cg (fun k a b => xk k (by omega)) (os 10 (by omega)) (mk 5 (by omega) (by omega)) (mk 6 (by omega) (by omega)), hP.cg (xk 16 (by omega)) (xk 17 (by omega)) (xk 18 (by omega)) (xk 19 (by omega)) (os 14 (by omega)) (mk 7 (by omega) (by omega)) (mk 8 (by omega) (by omega)) (mk 9 (by omega) (by omega)), hL.cg (xk 20 (by omega)) (xk 21 (by omega)) (xk 22 (by omega)) (os 17 (by omega)) (os 18 (by omega)) (mk 10 (by omega) (by omega)) (mk 11 (by omega) (by omega)), hRT.cg (fun k a b => xk k (by omega)) (os 3 (by omega)) (os 4 (by omega)) hT, hF.cg (by rw [xk 23 (by omega)]) (xk 24 (by omega)) (os 6 (by omega)) (mk 3 (by omega) (by omega)), hI.cg (fun k a b => xk k (by omega)) (fun k a b => os k (by omega)) (os 3 (by omega)) (mk 6 (by omega) (by omega)) (mk 19 (by omega) (by omega)) (mk 20 (by omega) (by omega)) (mk 21 (by omega) (by omega)), hS.cg (fun k a b => xk k (by omega)) (fun k a b => mk k (by omega) (by omega)), hC.cg (fun k a => xk k (by omega)) (os 40 (by omega))⟩
def eOf (m : Mem) (tx : Nat → Nat → List Int32) : DE := (((m.1 0 10).toInt.toNat, m.1 5, m.1 6), ((m.1 0 14).toInt.toNat, m.1 7, m.1 8, m.1 9), (m.1 10 (m.1 0 18).toNatClampNeg, m.1 11 (m.1 0 18).toNatClampNeg), tx (m.1 0 4).toInt.toNat)
theorem nI_re {v : Int32} (h : 0 ≤ v.toInt) : v = nI v.toInt.toNat := by
  obtain ⟨n, h1, h2, h3⟩ := nI_ex h
  rw [h3]
  exact h2
theorem R.day {tx : Nat → Nat → List Int32} {x m : Mem} (h : R tx x m) : isM (eOf m tx) tx (m.1 0 4).toInt.toNat m ∧ isX0 (eOf m tx) tx (m.1 0 4).toInt.toNat x ∧ wfE (eOf m tx) ∧ rowM 4 (m.1 4) m ∧ rowM 1 (m.1 4) x ∧ rowOk (m.1 4) := by
  obtain ⟨hU, ⟨w1, w2, w3, w4⟩, ⟨p1, p2, p3⟩, ⟨l1, l2, l3, l4, l5⟩, ⟨t1, t2, t3, t4, t5, t6⟩, hF, hI, hS, hC⟩ := h
  have nw : nwE (eOf m tx) = (m.1 0 10).toInt.toNat := rfl
  have np : npE (eOf m tx) = (m.1 0 14).toInt.toNat := rfl
  obtain ⟨w21, w22⟩ := w2
  obtain ⟨p21, p22⟩ := p2
  obtain ⟨l21, l22⟩ := l2
  obtain ⟨l41, l42⟩ := l4
  obtain ⟨t21, t22⟩ := t2
  obtain ⟨t41, t42⟩ := t4
  have vl : vp_in (m.1 0 18) 6 := vin_of l41 (by omega)
  have lt6 := vin_lt vl
  refine ⟨⟨nI_re w21, fun w _ => ⟨rfl, rfl⟩, nI_re p21, fun p _ => ⟨rfl, rfl, rfl⟩, vl, rfl, rfl, ⟨by omega, nI_re t41, by omega⟩, t6, rfl⟩, ⟨by rw [w1]; exact nI_re w21, fun w hw => ?_, by rw [p1]; exact nI_re p21, fun p hp => ?_, by rw [l3]; exact vl, by rw [l3, (l5 _ lt6).1]; rfl, by rw [l3, (l5 _ lt6).2.1]; rfl, ⟨by omega, by rw [t3]; exact nI_re t41, by rw [t1]; omega, by rw [t1]; exact t22⟩, t5, rfl⟩, ⟨by omega, fun w hw => w4 w (by omega), by omega, fun p hp => ⟨(p3 p (by omega)).2.2.2.1, (p3 p (by omega)).2.2.2.2⟩, (l5 _ lt6).2.2.1, (l5 _ lt6).2.2.2⟩, fun j _ => rfl, fun j hj => (hU j hj).1, fun j hj => (hU j hj).2⟩
  · have := w3 w (by omega)
    exact ⟨this.1, this.2.1, this.2.2.1⟩
  · have := p3 p (by omega)
    exact ⟨this.1, this.2.1, this.2.2.1⟩
theorem R.laws {tx : Nat → Nat → List Int32} {x m : Mem} (h : R tx x m) : lawM (m.1 0 17).toInt.toNat m ∧ lawX (m.1 0 17).toInt.toNat x ∧ (m.1 0 17).toInt.toNat ≤ 6 ∧ ∀ i, i < 6 → x.1 21 i = m.1 10 i ∧ x.1 22 i = m.1 11 i := by
  obtain ⟨l1, ⟨l21, l22⟩, l3, l4, l5⟩ := h.2.2.2.1
  refine ⟨⟨by omega, nI_re (by omega), fun i hi => (l5 i hi).2.2⟩, ⟨by omega, by rw [l1]; exact nI_re (by omega), fun i hi => ?_⟩, by omega, fun i hi => ⟨(l5 i hi).1, (l5 i hi).2.1⟩⟩
  rw [(l5 i hi).1, (l5 i hi).2.1]
  exact (l5 i hi).2.2
theorem R.cnt {tx : Nat → Nat → List Int32} {x m : Mem} (h : R tx x m) : cntM m ∧ cntX x := by
  obtain ⟨hU, ⟨w1, w2, w3, w4⟩, ⟨p1, p2, p3⟩, ⟨l1, l2, l3, l4, l5⟩, ⟨t1, t2, t3, t4, t5, t6⟩, ⟨f1, f2, f3⟩, hI, hS, hC⟩ := h
  refine ⟨⟨w2, p2, l2, t2, f2, l4, t4⟩, ?_⟩
  unfold cntX
  rw [w1, p1, l1, t1, f1, l3, t3]
  exact ⟨w2, p2, l2, t2, f2, l4, t4⟩
/-- what a call of both must come to -/
def Both (tx : Nat → Nat → List Int32) (d yM : Nat) (as : List Value) (m : Mem) : QQ := fun ρ x' => Call d yM as m (fun ρ' m' => ρ' = ρ ∧ ∃ tx', R tx' x' m')
def OpR (yX yM : Nat) (as : List Value) : Prop := ∀ (tx : Nat → Nat → List Int32) (x m : Mem) (d : Nat), R tx x m → Call (d + 80) yX (.ref 0 :: as) x (Both tx (d + 80) yM (.ref 0 :: as) m)
