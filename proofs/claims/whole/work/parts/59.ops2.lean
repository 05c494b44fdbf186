/-! ===== plain calls of both ===== -/
theorem R.lens {tx : Nat → Nat → List Int32} {x m : Mem} (h : R tx x m) (w : Int) : lenX x w = lenF m w := by
  unfold lenX lenF
  rw [h.2.2.1.1, h.2.2.2.1.1, h.2.1.1]
theorem R.w6 {tx : Nat → Nat → List Int32} {x m : Mem} (h : R tx x m) : ∀ j, j < 10 → 0 ≤ (m.1 6 j).toInt := fun j hj => (h.2.1.2.2.1 j hj).2.2.2
theorem op_told {a b : Int32} : OpR y_X_told y_M_told [.int a, .int b] := by
  intro tx x m d h
  obtain ⟨cM, cX⟩ := h.cnt
  have M : ∀ v : Int32, toldF m a b = v → Both tx (d + 80) y_M_told [.ref 0, .int a, .int b] m (.int v) x := fun v e => M_told_ok (d := d + 76) cM h.w6 ⟨by rw [e], tx, h⟩
  obtain ⟨hU, ⟨w1, w2, w3, w4⟩, ⟨p1, p2, p3⟩, ⟨l1, l2, l3, l4, l5⟩, _⟩ := h
  obtain ⟨c1, c2, c3, _⟩ := cM
  obtain ⟨c11, c12⟩ := c1
  obtain ⟨c21, c22⟩ := c2
  obtain ⟨c31, c32⟩ := c3
  refine X_told_ok (d := d + 77) cX (fun c => M _ ?_) (fun c => M _ ?_)
  · unfold toldF
    rw [if_neg (fun z => c ⟨z.1, z.2.1⟩)]
  · rw [p1, l1, w1]
    unfold toldF lenF
    have tc : 0 ≤ a.toInt → ∀ n : Nat, a.toInt < n → a.toNatClampNeg < n := fun h0 n hn => vin_lt (vin_of h0 hn)
    rcases (show b.toInt = 0 ∨ b.toInt = 1 ∨ b.toInt = 2 ∨ b.toInt = 3 ∨ b.toInt = 4 ∨ b.toInt = 5 ∨ b.toInt = 6 ∨ b.toInt = 7 by omega) with q | q | q | q | q | q | q | q <;> rw [q] <;> simp only [reduceIte, Int.reduceLT, Int.reduceEq, Int.reduceLE, true_and, show ((0 : Int) ≤ 0) = True from eq_true (by decide)]
    · by_cases y : 0 ≤ a.toInt ∧ a.toInt < 8
      · rw [if_pos y, if_pos y, (hU _ (tc y.1 8 y.2)).1]
      · rw [if_neg y, if_neg y]
    · by_cases y : 0 ≤ a.toInt ∧ a.toInt < (m.1 0 14).toInt
      · rw [if_pos y, if_pos y, (p3 _ (tc y.1 5 (by omega))).1]
      · rw [if_neg y, if_neg y]
    · by_cases y : 0 ≤ a.toInt ∧ a.toInt < (m.1 0 14).toInt
      · rw [if_pos y, if_pos y, (p3 _ (tc y.1 5 (by omega))).2.1]
      · rw [if_neg y, if_neg y]
    · by_cases y : 0 ≤ a.toInt ∧ a.toInt < (m.1 0 14).toInt
      · rw [if_pos y, if_pos y, (p3 _ (tc y.1 5 (by omega))).2.2.1]
      · rw [if_neg y, if_neg y]
    · by_cases y : 0 ≤ a.toInt ∧ a.toInt < (m.1 0 17).toInt
      · rw [if_pos y, if_pos y, (l5 _ (tc y.1 6 (by omega))).2.1]
      · rw [if_neg y, if_neg y]
    · by_cases y : 0 ≤ a.toInt ∧ a.toInt < (m.1 0 17).toInt
      · rw [if_pos y, if_pos y, (l5 _ (tc y.1 6 (by omega))).1]
      · rw [if_neg y, if_neg y]
    · by_cases y : 0 ≤ a.toInt ∧ a.toInt < (m.1 0 10).toInt
      · rw [if_pos y, if_pos y, (w3 _ (tc y.1 10 (by omega))).1]
      · rw [if_neg y, if_neg y]
    · by_cases y : 0 ≤ a.toInt ∧ a.toInt < (m.1 0 10).toInt
      · rw [if_pos y, if_pos y, (w3 _ (tc y.1 10 (by omega))).2.1]
      · rw [if_neg y, if_neg y]
/-- writers' rows and their number -/
theorem R.wr {tx : Nat → Nat → List Int32} {x x' m m' : Mem} (h : R tx x m) (ox : Only [16, 17, 18, 19] x x') (om : Only [0, 7, 8, 9] m m') (os : ∀ k, k ≠ 14 → m'.1 0 k = m.1 0 k) (hp : RP x' m') : R tx x' m' := by
  obtain ⟨hU, hW, hP, hL, hRT, hF, hI, hS, hC⟩ := h
  have xk : ∀ k, k < 16 ∨ 19 < k → x'.1 k = x.1 k := fun k hk => ox.i k (by simp; omega)
  have mk : ∀ k, k ≠ 0 → k < 7 ∨ 9 < k → m'.1 k = m.1 k := fun k h0 hk => om.i k (by simp; omega)
  exact ⟨hU.cg (xk 1 (by omega)) (mk 4 (by omega) (by omega)), hW.cg (fun k a b => xk k (by omega)) (os 10 (by omega)) (mk 5 (by omega) (by omega)) (mk 6 (by omega) (by omega)), hp, hL.cg (xk 20 (by omega)) (xk 21 (by omega)) (xk 22 (by omega)) (os 17 (by omega)) (os 18 (by omega)) (mk 10 (by omega) (by omega)) (mk 11 (by omega) (by omega)), hRT.cg (fun k a b => xk k (by omega)) (os 3 (by omega)) (os 4 (by omega)) (hRT.2.2.2.2.2.cong (os 3 (by omega)) (mk 1 (by omega) (by omega)) (mk 2 (by omega) (by omega)) (mk 13 (by omega) (by omega)) (om.l 12)), hF.cg (by rw [xk 23 (by omega)]) (xk 24 (by omega)) (os 6 (by omega)) (mk 3 (by omega) (by omega)), hI.cg (fun k a b => xk k (by omega)) (fun k a b => os k (by omega)) (os 3 (by omega)) (mk 6 (by omega) (by omega)) (mk 19 (by omega) (by omega)) (mk 20 (by omega) (by omega)) (mk 21 (by omega) (by omega)), hS.cg (fun k a b => xk k (by omega)) (fun k a b => mk k (by omega) (by omega)), hC.cg (fun k a => xk k (by omega)) (os 40 (by omega))⟩
/-- laws' rows, their number, THE LAW -/
theorem R.lw {tx : Nat → Nat → List Int32} {x x' m m' : Mem} (h : R tx x m) (ox : Only [20, 21, 22] x x') (om : Only [0, 10, 11] m m') (os : ∀ k, k ≠ 17 → k ≠ 18 → m'.1 0 k = m.1 0 k) (hl : RL x' m') : R tx x' m' := by
  obtain ⟨hU, hW, hP, hL, hRT, hF, hI, hS, hC⟩ := h
  have xk : ∀ k, k < 20 ∨ 22 < k → x'.1 k = x.1 k := fun k hk => ox.i k (by simp; omega)
  have mk : ∀ k, k ≠ 0 → k < 10 ∨ 11 < k → m'.1 k = m.1 k := fun k h0 hk => om.i k (by simp; omega)
  exact ⟨hU.cg (xk 1 (by omega)) (mk 4 (by omega) (by omega)), hW.cg (fun k a b => xk k (by omega)) (os 10 (by omega) (by omega)) (mk 5 (by omega) (by omega)) (mk 6 (by omega) (by omega)), hP.cg (xk 16 (by omega)) (xk 17 (by omega)) (xk 18 (by omega)) (xk 19 (by omega)) (os 14 (by omega) (by omega)) (mk 7 (by omega) (by omega)) (mk 8 (by omega) (by omega)) (mk 9 (by omega) (by omega)), hl, hRT.cg (fun k a b => xk k (by omega)) (os 3 (by omega) (by omega)) (os 4 (by omega) (by omega)) (hRT.2.2.2.2.2.cong (os 3 (by omega) (by omega)) (mk 1 (by omega) (by omega)) (mk 2 (by omega) (by omega)) (mk 13 (by omega) (by omega)) (om.l 12)), hF.cg (by rw [xk 23 (by omega)]) (xk 24 (by omega)) (os 6 (by omega) (by omega)) (mk 3 (by omega) (by omega)), hI.cg (fun k a b => xk k (by omega)) (fun k a b => os k (by omega) (by omega)) (os 3 (by omega) (by omega)) (mk 6 (by omega) (by omega)) (mk 19 (by omega) (by omega)) (mk 20 (by omega) (by omega)) (mk 21 (by omega) (by omega)), hS.cg (fun k a b => xk k (by omega)) (fun k a b => mk k (by omega) (by omega)), hC.cg (fun k a => xk k (by omega)) (os 40 (by omega) (by omega))⟩
theorem op_set {a b c : Int32} : OpR y_X_set y_M_set [.int a, .int b, .int c] := by
  intro tx x m d h
  obtain ⟨cM, cX⟩ := h.cnt
  have ln := h.lens a.toInt
  have h0 := h
  obtain ⟨hU, hW, ⟨p1, p2, p3⟩, ⟨l1, l2, l3, l4, l5⟩, _⟩ := h0
  obtain ⟨p21, p22⟩ := p2
  obtain ⟨l21, l22⟩ := l2
  refine X_set_ok (d := d + 77) cX (fun q => ?_) (fun q x' ex => ?_)
  · rw [ln] at q
    exact M_set_ok (d := d + 75) cM h.w6 (fun _ => ⟨rfl, tx, h⟩) (fun q' => absurd q' q)
  · rw [ln] at q
    refine M_set_ok (d := d + 75) cM h.w6 (fun q' => absurd q q') (fun _ m' em => ?_)
    obtain ⟨q1, q2, q3, q4, q5, q6⟩ := q
    have tc : ∀ n : Nat, b.toInt < n → b.toNatClampNeg < n := fun n hn => vin_lt (vin_of q3 hn)
    unfold lenF at q4
    unfold maxF at q6
    rcases (show a.toInt = 0 ∨ a.toInt = 1 ∨ a.toInt = 2 ∨ a.toInt = 3 ∨ a.toInt = 4 by omega) with q | q | q | q | q
    · have k1 : cellX a.toInt = 1 := by rw [q]; rfl
      have k2 : cellF a.toInt = 4 := by rw [q]; rfl
      rw [k1] at ex ⊢
      rw [k2] at em ⊢
      rw [if_pos q] at q4 q6
      have lt := tc 8 (by omega)
      refine ⟨by rw [(hU _ lt).1], tx, h.used (r := upd (m.1 4) b.toNatClampNeg c) (.we ex) (.we em) (fun j hj => ?_) (fun j hj => by rw [em, wI_s]) (fun j hj => ?_)⟩
      · rw [ex, wI_s]
        by_cases y : j = b.toNatClampNeg
        · rw [y, upd_s, upd_s]
        · rw [upd_n y, upd_n y]; exact (hU j hj).1
      · by_cases y : j = b.toNatClampNeg
        · rw [y, upd_s]; exact ⟨q5, q6⟩
        · rw [upd_n y]; exact (hU j hj).2
    · have k1 : cellX a.toInt = 17 := by rw [q]; rfl
      have k2 : cellF a.toInt = 7 := by rw [q]; rfl
      rw [k1] at ex ⊢
      rw [k2] at em ⊢
      rw [if_neg (by omega), if_pos (by omega)] at q4
      have lt := tc 5 (by omega)
      have xk : ∀ k, k ≠ 17 → x'.1 k = x.1 k := fun k hk => by rw [ex, wI_n hk]
      have mk : ∀ k, k ≠ 7 → m'.1 k = m.1 k := fun k hk => by rw [em, wI_n hk]
      refine ⟨by rw [(p3 _ lt).1], tx, h.wr (.we ex) (.we em) (fun k _ => by rw [mk 0 (by decide)]) ⟨by rw [xk 16 (by decide), mk 0 (by decide)]; exact p1, by rw [mk 0 (by decide)]; exact ⟨p21, p22⟩, fun j hj => ?_⟩⟩
      obtain ⟨r1, r2, r3, r4, r5⟩ := p3 j hj
      rw [xk 18 (by decide), xk 19 (by decide), mk 8 (by decide), mk 9 (by decide), ex, em, wI_s, wI_s]
      refine ⟨?_, r2, r3, r4, r5⟩
      by_cases y : j = b.toNatClampNeg
      · rw [y, upd_s, upd_s]
      · rw [upd_n y, upd_n y]; exact r1
    · have k1 : cellX a.toInt = 18 := by rw [q]; rfl
      have k2 : cellF a.toInt = 8 := by rw [q]; rfl
      rw [k1] at ex ⊢
      rw [k2] at em ⊢
      rw [if_neg (by omega), if_pos (by omega)] at q4
      rw [if_neg (by omega), if_neg (by omega), if_pos (by omega)] at q6
      have lt := tc 5 (by omega)
      exact ⟨by rw [(p3 _ lt).2.1], tx, h.hour ⟨q5, q6⟩ ex em⟩
    · have k1 : cellX a.toInt = 19 := by rw [q]; rfl
      have k2 : cellF a.toInt = 9 := by rw [q]; rfl
      rw [k1] at ex ⊢
      rw [k2] at em ⊢
      rw [if_neg (by omega), if_pos (by omega)] at q4
      rw [if_neg (by omega), if_neg (by omega), if_neg (by omega), if_pos (by omega)] at q6
      have lt := tc 5 (by omega)
      have xk : ∀ k, k ≠ 19 → x'.1 k = x.1 k := fun k hk => by rw [ex, wI_n hk]
      have mk : ∀ k, k ≠ 9 → m'.1 k = m.1 k := fun k hk => by rw [em, wI_n hk]
      refine ⟨by rw [(p3 _ lt).2.2.1], tx, h.wr (.we ex) (.we em) (fun k _ => by rw [mk 0 (by decide)]) ⟨by rw [xk 16 (by decide), mk 0 (by decide)]; exact p1, by rw [mk 0 (by decide)]; exact ⟨p21, p22⟩, fun j hj => ?_⟩⟩
      obtain ⟨r1, r2, r3, r4, r5⟩ := p3 j hj
      rw [xk 18 (by decide), xk 17 (by decide), mk 8 (by decide), mk 7 (by decide), ex, em, wI_s, wI_s]
      by_cases y : j = b.toNatClampNeg
      · rw [y, upd_s, upd_s]
        rw [y] at r1 r2 r4
        exact ⟨r1, r2, rfl, r4, ⟨q5, q6⟩⟩
      · rw [upd_n y, upd_n y]; exact ⟨r1, r2, r3, r4, r5⟩
    · have k1 : cellX a.toInt = 22 := by rw [q]; rfl
      have k2 : cellF a.toInt = 11 := by rw [q]; rfl
      rw [k1] at ex ⊢
      rw [k2] at em ⊢
      rw [if_neg (by omega), if_neg (by omega), if_pos (by omega)] at q4
      rw [if_neg (by omega), if_neg (by omega), if_neg (by omega), if_neg (by omega)] at q6
      have lt := tc 6 (by omega)
      have xk : ∀ k, k ≠ 22 → x'.1 k = x.1 k := fun k hk => by rw [ex, wI_n hk]
      have mk : ∀ k, k ≠ 11 → m'.1 k = m.1 k := fun k hk => by rw [em, wI_n hk]
      refine ⟨by rw [(l5 _ lt).2.1], tx, h.lw (.we ex) (.we em) (fun k _ _ => by rw [mk 0 (by decide)]) ⟨by rw [xk 20 (by decide), mk 0 (by decide)]; exact l1, by rw [mk 0 (by decide)]; exact ⟨l21, l22⟩, by rw [xk 20 (by decide), mk 0 (by decide)]; exact l3, by rw [mk 0 (by decide)]; exact l4, fun j hj => ?_⟩⟩
      obtain ⟨r1, r2, r3, r4⟩ := l5 j hj
      rw [xk 21 (by decide), mk 10 (by decide), ex, em, wI_s, wI_s]
      by_cases y : j = b.toNatClampNeg
      · rw [y, upd_s, upd_s]
        rw [y] at r1 r3
        exact ⟨r1, rfl, r3, ⟨q5, q6⟩⟩
      · rw [upd_n y, upd_n y]; exact ⟨r1, r2, r3, r4⟩
theorem p1i {v : Int32} {k : Int} (h0 : 0 ≤ v.toInt) (h : v.toInt < k) (hk : k < 1000) : (v + 1).toInt = v.toInt + 1 := add32 (by show _ ≤ _ + (1 : Int); omega) (by show _ + (1 : Int) < _; omega)
theorem RP.add {x x' m m' : Mem} {a b c : Int32} (h : RP x m) (hok : okWr a b c) (hlt : (m.1 0 14).toInt < 5) (x17 : x'.1 17 = upd (x.1 17) (m.1 0 14).toNatClampNeg a) (x18 : x'.1 18 = upd (x.1 18) (m.1 0 14).toNatClampNeg b) (x19 : x'.1 19 = upd (x.1 19) (m.1 0 14).toNatClampNeg c) (x16 : x'.1 16 3 = m.1 0 14 + 1) (m7 : m'.1 7 = upd (m.1 7) (m.1 0 14).toNatClampNeg a) (m8 : m'.1 8 = upd (m.1 8) (m.1 0 14).toNatClampNeg b) (m9 : m'.1 9 = upd (m.1 9) (m.1 0 14).toNatClampNeg c) (m0 : m'.1 0 14 = m.1 0 14 + 1) : RP x' m' := by
  obtain ⟨p1, ⟨p21, p22⟩, p3⟩ := h
  have e := p1i p21 hlt (by omega)
  refine ⟨by rw [x16, m0], by rw [m0]; unfold rng; omega, fun j hj => ?_⟩
  obtain ⟨r1, r2, r3, r4, r5⟩ := p3 j hj
  rw [x17, x18, x19, m7, m8, m9]
  by_cases y : j = (m.1 0 14).toNatClampNeg
  · rw [y, upd_s, upd_s, upd_s, upd_s, upd_s, upd_s]
    exact ⟨rfl, rfl, rfl, ⟨hok.2.2.1, hok.2.2.2.1⟩, ⟨hok.2.2.2.2.1, hok.2.2.2.2.2⟩⟩
  · rw [upd_n y, upd_n y, upd_n y, upd_n y, upd_n y, upd_n y]
    exact ⟨r1, r2, r3, r4, r5⟩
theorem op_writer {a b c : Int32} : OpR y_X_writer y_M_writer [.int a, .int b, .int c] := by
  intro tx x m d h
  have hP := h.2.2.1
  obtain ⟨p1, p2, p3⟩ := hP
  refine X_writer_ok (d := d + 77) (by rw [p1]; exact p2) (fun q => ?_) (fun q q2 => ?_) (fun q q2 x' ox x17 x18 x19 x16 => ?_)
  · exact M_writer_ok (d := d + 78) p2 (fun _ => ⟨rfl, tx, h⟩) (fun q' => absurd q' q) (fun q' => absurd q' q)
  · rw [p1] at q2
    exact M_writer_ok (d := d + 78) p2 (fun q' => absurd q q') (fun _ _ => ⟨rfl, tx, h⟩) (fun _ q3 => absurd q2 (by omega))
  · rw [p1] at q2 x17 x18 x19 x16 ⊢
    refine M_writer_ok (d := d + 78) p2 (fun q' => absurd q q') (fun _ q3 => absurd q3 (by omega)) (fun _ _ m' om m7 m8 m9 m0 => ⟨rfl, tx, h.wr ox om (fun k hk => by rw [m0, upd_n hk]) (h.2.2.1.add q q2 x17 x18 x19 (by rw [x16, upd_s]) m7 m8 m9 (by rw [m0, upd_s]))⟩)
theorem op_law {a b : Int32} : OpR y_X_law y_M_law [.int a, .int b] := by
  intro tx x m d h
  obtain ⟨l1, l2, l3, l4, l5⟩ := h.2.2.2.1
  have l2' := l2
  obtain ⟨l21, l22⟩ := l2'
  refine X_law_ok (d := d + 78) (by rw [l1]; exact l2) (fun q => ?_) (fun q q2 => ?_) (fun q q2 x' ox x21 x22 x20 => ?_)
  · exact M_law_ok (d := d + 78) l2 (fun _ => ⟨rfl, tx, h⟩) (fun q' => absurd q' q) (fun q' => absurd q' q)
  · rw [l1] at q2
    exact M_law_ok (d := d + 78) l2 (fun q' => absurd q q') (fun _ _ => ⟨rfl, tx, h⟩) (fun _ q3 => absurd q2 (by omega))
  · rw [l1] at q2 x21 x22 x20 ⊢
    have e := p1i (show 0 ≤ (m.1 0 17).toInt by omega) q2 (by omega)
    refine M_law_ok (d := d + 78) l2 (fun q' => absurd q q') (fun _ q3 => absurd q3 (by omega)) (fun _ _ m' om m10 m11 m0 => ⟨rfl, tx, h.lw ox om (fun k hk _ => by rw [m0, upd_n hk]) ⟨by rw [x20, m0, upd_s, upd_s], by rw [m0, upd_s]; unfold rng; omega, by rw [x20, m0, upd_n (by decide), upd_n (by decide)]; exact l3, by rw [m0, upd_n (by decide), upd_s]; omega, fun j hj => ?_⟩⟩)
    obtain ⟨r1, r2, r3, r4⟩ := l5 j hj
    rw [x21, x22, m10, m11]
    by_cases y : j = (m.1 0 17).toNatClampNeg
    · rw [y, upd_s, upd_s, upd_s, upd_s]
      exact ⟨rfl, rfl, ⟨q.1, q.2.1⟩, ⟨q.2.2.1, q.2.2.2⟩⟩
    · rw [upd_n y, upd_n y, upd_n y, upd_n y]
      exact ⟨r1, r2, r3, r4⟩
theorem op_rule {a : Int32} : OpR y_X_rule y_M_rule [.int a] := by
  intro tx x m d h
  obtain ⟨cM, cX⟩ := h.cnt
  obtain ⟨l1, l2, l3, l4, l5⟩ := h.2.2.2.1
  refine X_rule_ok (d := d + 78) (by rw [l1]; exact l2) (fun q => ?_) (fun q x' ox x20 => ?_)
  · rw [l1] at q
    exact M_rule_ok (d := d + 77) cM (fun _ => ⟨rfl, tx, h⟩) (fun q' => absurd q' q)
  · rw [l1] at q
    rw [l3]
    refine M_rule_ok (d := d + 77) cM (fun q' => absurd q q') (fun _ m' om m0 => ⟨rfl, tx, h.lw (ox.mono (by simp)) (om.mono (by simp)) (fun k _ hk => by rw [m0, upd_n hk]) ⟨by rw [x20, m0, upd_n (by decide), upd_n (by decide)]; exact l1, by rw [m0, upd_n (by decide)]; exact l2, by rw [x20, m0, upd_s, upd_s], by rw [m0, upd_s, upd_n (by decide)]; exact q, fun j hj => ?_⟩⟩)
    rw [ox.i 21, ox.i 22, om.i 10, om.i 11]
    exact l5 j hj
theorem op_force {a : Int32} : OpR y_X_force y_M_force [.int a] := by
  intro tx x m d h
  obtain ⟨hU, hW, hP, hL, ⟨t1, t2, t3, t4, t5, t6⟩, hF, hI, hS, hC⟩ := h
  have h : R tx x m := ⟨hU, hW, hP, hL, ⟨t1, t2, t3, t4, t5, t6⟩, hF, hI, hS, hC⟩
  refine X_force_ok (d := d + 78) (by rw [t1]; exact t2) (fun q => ?_) (fun q x' ox x27 => ?_)
  · rw [t1] at q
    exact M_force_ok (d := d + 78) t2 (fun _ => ⟨rfl, tx, h⟩) (fun q' => absurd q' q)
  · rw [t1] at q
    rw [t3]
    refine M_force_ok (d := d + 78) t2 (fun q' => absurd q q') (fun _ m' om m0 => ⟨rfl, tx, ?_⟩)
    have xk : ∀ k, k ≠ 27 → x'.1 k = x.1 k := fun k hk => ox.i k (by simp; exact hk)
    have mk : ∀ k, k ≠ 0 → m'.1 k = m.1 k := fun k hk => om.i k (by simp; exact hk)
    have os : ∀ k, k ≠ 4 → m'.1 0 k = m.1 0 k := fun k hk => by rw [m0, upd_n hk]
    have x274 : x'.1 27 4 = x.1 27 4 := by rw [x27, upd_n (by decide)]
    exact ⟨hU.cg (xk 1 (by omega)) (mk 4 (by omega)), hW.cg (fun k a b => xk k (by omega)) (os 10 (by omega)) (mk 5 (by omega)) (mk 6 (by omega)), hP.cg (xk 16 (by omega)) (xk 17 (by omega)) (xk 18 (by omega)) (xk 19 (by omega)) (os 14 (by omega)) (mk 7 (by omega)) (mk 8 (by omega)) (mk 9 (by omega)), hL.cg (xk 20 (by omega)) (xk 21 (by omega)) (xk 22 (by omega)) (os 17 (by omega)) (os 18 (by omega)) (mk 10 (by omega)) (mk 11 (by omega)), ⟨by rw [x274, os 3 (by omega)]; exact t1, by rw [os 3 (by omega)]; exact t2, by rw [x27, m0, upd_s, upd_s], by rw [m0, upd_s, upd_n (by decide)]; exact q, t5.cong x274 (fun k a b => xk k (by omega)) (by rw [t1]; exact t2.2), t6.cong (os 3 (by omega)) (mk 1 (by omega)) (mk 2 (by omega)) (mk 13 (by omega)) (om.l 12)⟩, hF.cg (by rw [xk 23 (by omega)]) (xk 24 (by omega)) (os 6 (by omega)) (mk 3 (by omega)), hI.cg (fun k a b => xk k (by omega)) (fun k a b => os k (by omega)) (os 3 (by omega)) (mk 6 (by omega)) (mk 19 (by omega)) (mk 20 (by omega)) (mk 21 (by omega)), hS.cg (fun k a b => xk k (by omega)) (fun k a b => mk k (by omega)), hC.cg (fun k a => xk k (by omega)) (os 40 (by omega))⟩
theorem op_feed {a : Int32} : OpR y_X_feed y_M_feed [.int a] := by
  intro tx x m d h
  obtain ⟨hU, hW, hP, hL, hRT, ⟨f1, f2, f3⟩, hI, hS, hC⟩ := h
  have h : R tx x m := ⟨hU, hW, hP, hL, hRT, ⟨f1, f2, f3⟩, hI, hS, hC⟩
  have f2' := f2
  obtain ⟨f21, f22⟩ := f2'
  refine X_feed_ok (d := d + 78) (by rw [f1]; exact f2) (fun q => ?_) (fun q q2 => ?_) (fun q q2 x' ox x24 x23 => ?_)
  · exact M_feed_ok (d := d + 78) f2 (fun _ => ⟨rfl, tx, h⟩) (fun q' => absurd q' q) (fun q' => absurd q' q)
  · rw [f1] at q2
    exact M_feed_ok (d := d + 78) f2 (fun q' => absurd q q') (fun _ _ => ⟨rfl, tx, h⟩) (fun _ q3 => absurd q2 (by omega))
  · rw [f1] at q2 x24 x23 ⊢
    have e := p1i f21 q2 (by omega)
    refine M_feed_ok (d := d + 78) f2 (fun q' => absurd q q') (fun _ q3 => absurd q3 (by omega)) (fun _ _ m' om m3 m0 => ⟨rfl, tx, ?_⟩)
    have xk : ∀ k, k ≠ 23 → k ≠ 24 → x'.1 k = x.1 k := fun k h1 h2 => ox.i k (by simp; exact ⟨h1, h2⟩)
    have mk : ∀ k, k ≠ 0 → k ≠ 3 → m'.1 k = m.1 k := fun k h1 h2 => om.i k (by simp; exact ⟨h1, h2⟩)
    have os : ∀ k, k ≠ 6 → m'.1 0 k = m.1 0 k := fun k hk => by rw [m0, upd_n hk]
    refine ⟨hU.cg (xk 1 (by omega) (by omega)) (mk 4 (by omega) (by omega)), hW.cg (fun k a b => xk k (by omega) (by omega)) (os 10 (by omega)) (mk 5 (by omega) (by omega)) (mk 6 (by omega) (by omega)), hP.cg (xk 16 (by omega) (by omega)) (xk 17 (by omega) (by omega)) (xk 18 (by omega) (by omega)) (xk 19 (by omega) (by omega)) (os 14 (by omega)) (mk 7 (by omega) (by omega)) (mk 8 (by omega) (by omega)) (mk 9 (by omega) (by omega)), hL.cg (xk 20 (by omega) (by omega)) (xk 21 (by omega) (by omega)) (xk 22 (by omega) (by omega)) (os 17 (by omega)) (os 18 (by omega)) (mk 10 (by omega) (by omega)) (mk 11 (by omega) (by omega)), hRT.cg (fun k a b => xk k (by omega) (by omega)) (os 3 (by omega)) (os 4 (by omega)) (hRT.2.2.2.2.2.cong (os 3 (by omega)) (mk 1 (by omega) (by omega)) (mk 2 (by omega) (by omega)) (mk 13 (by omega) (by omega)) (om.l 12)), ⟨by rw [x23, m0, upd_s, upd_s], by rw [m0, upd_s]; unfold rng; omega, fun i hi => ?_⟩, hI.cg (fun k a b => xk k (by omega) (by omega)) (fun k a b => os k (by omega)) (os 3 (by omega)) (mk 6 (by omega) (by omega)) (mk 19 (by omega) (by omega)) (mk 20 (by omega) (by omega)) (mk 21 (by omega) (by omega)), hS.cg (fun k a b => xk k (by omega) (by omega)) (fun k a b => mk k (by omega) (by omega)), hC.cg (fun k a => xk k (by omega) (by omega)) (os 40 (by omega))⟩
    rw [m0, upd_s, e] at hi
    rw [x24, m3]
    have ec : ((m.1 0 6).toNatClampNeg : Int) = (m.1 0 6).toInt := by unfold Int32.toNatClampNeg; omega
    by_cases y : i = (m.1 0 6).toNatClampNeg
    · rw [y, upd_s, upd_s]; exact ⟨rfl, q⟩
    · rw [upd_n y, upd_n y]; exact f3 i (by omega)
theorem op_count {a : Int32} : OpR y_X_count y_M_count [.int a] := by
  intro tx x m d h
  have h0 := h
  obtain ⟨hU, ⟨w1, _⟩, ⟨p1, _⟩, ⟨l1, _, l3, _⟩, ⟨t1, _, t3, _⟩, ⟨f1, _⟩, _⟩ := h0
  refine X_count_ok (d := d + 78) (fun q => ?_) (fun q => ?_) (fun q => ?_)
  · exact M_count_ok (d := d + 78) (fun _ => ⟨rfl, tx, h⟩) (fun q' => absurd q' (by omega)) (fun q' => absurd q' (by omega))
  · refine M_count_ok (d := d + 78) (fun q' => absurd q (by omega)) (fun _ m' om => ⟨?_, tx, h.think Only.rf om.g (h.day.1.tx.fr om (by simp))⟩) (fun q' => absurd q (by omega))
    rw [sum8_cg (fun j hj => (hU j hj).1)]
  · refine M_count_ok (d := d + 78) (fun q' => absurd q (by omega)) (fun q' => absurd q (by omega)) (fun _ => ⟨?_, tx, h⟩)
    rw [w1, p1, l1, l3, t1, f1, t3]
theorem op_taken {a b : Int32} : OpR y_X_taken y_M_taken [.int a, .int b] := by
  intro tx x m d h
  obtain ⟨cM, cX⟩ := h.cnt
  have hA := h.2.2.2.2.2.2.2.2.2.2
  obtain ⟨l1, l2, l3, l4, l5⟩ := h.2.2.2.1
  refine X_taken_ok (d := d + 78) cX hA (fun j hj => by rw [(l5 j hj).1]; exact (l5 j hj).2.2.1) (fun q => ?_) (fun q q2 => ?_) (fun q q2 => ?_)
  · exact M_taken_ok (d := d + 77) cM (fun j hj => (l5 j hj).2.2.1) (fun _ => ⟨rfl, tx, h⟩) (fun q' => absurd q' q) (fun q' => absurd q' q)
  · rw [l1] at q2
    exact M_taken_ok (d := d + 77) cM (fun j hj => (l5 j hj).2.2.1) (fun q' => absurd q q') (fun _ _ => ⟨rfl, tx, h⟩) (fun _ q' => absurd q' q2)
  · rw [l1] at q2
    have lt := vin_lt (vin_of (n := 6) q2.1 (by have := l2.2; omega))
    rw [(l5 _ lt).1, (l5 _ lt).2.1]
    exact M_taken_ok (d := d + 77) cM (fun j hj => (l5 j hj).2.2.1) (fun q' => absurd q q') (fun _ q' => absurd q2 q') (fun _ _ => ⟨rfl, tx, h⟩)
