/-! ===== words, images, sheets ===== -/
theorem op_word {a b : Int32} : OpR y_X_word y_M_word [.int a, .int b] := by
  intro tx x m d h
  obtain ⟨hU, ⟨w1, w2, w3, w4⟩, hP, hL, hRT, hF, hI, hS, hC⟩ := h
  have h : R tx x m := ⟨hU, ⟨w1, w2, w3, w4⟩, hP, hL, hRT, hF, hI, hS, hC⟩
  have w2' := w2
  obtain ⟨w21, w22⟩ := w2'
  refine X_word_ok (d := d + 76) (by rw [w1]; exact w2) (fun q => ?_) (fun q q2 => ?_) (fun q q2 x' ox x3 x4 xr x2 => ?_)
  · exact M_word_ok (d := d + 78) w2 (fun _ => ⟨rfl, tx, h⟩) (fun q' => absurd q' q) (fun q' => absurd q' q)
  · rw [w1] at q2
    exact M_word_ok (d := d + 78) w2 (fun q' => absurd q q') (fun _ _ => ⟨rfl, tx, h⟩) (fun _ q3 => absurd q2 (by omega))
  · rw [w1] at q2 ox x3 x4 xr x2 ⊢
    have e := p1i w21 q2 (by omega)
    obtain ⟨k, hk, ek, ek2⟩ := nI_ex (x := m.1 0 10) w21
    have ck : (m.1 0 10).toNatClampNeg = k := by rw [ek]; exact nI_c hk
    rw [ck] at ox x3 x4 xr
    refine M_word_ok (d := d + 78) w2 (fun q' => absurd q q') (fun _ q3 => absurd q3 (by omega)) (fun _ _ m' om m5 m6 m0 => ⟨rfl, tx, ?_⟩)
    rw [ck] at m5 m6
    have k10 : k < 10 := by omega
    have xk : ∀ j, j < 2 ∨ 15 < j → x'.1 j = x.1 j := fun j hj => ox.i j (by simp; omega)
    have mk : ∀ j, j ≠ 0 → j ≠ 5 → j ≠ 6 → m'.1 j = m.1 j := fun j h1 h2 h3 => om.i j (by simp; exact ⟨h1, h2, h3⟩)
    have os : ∀ j, j ≠ 10 → m'.1 0 j = m.1 0 j := fun j hj => by rw [m0, upd_n hj]
    have okb : okW b := ⟨q.2.2.1, q.2.2.2.1, q.2.2.2.2⟩
    have ok6 : ∀ w, (w ≠ k → okW (m.1 6 w)) → okW (m'.1 6 w) := fun w hw => by
      rw [m6]
      by_cases y : w = k
      · rw [y, upd_s]; exact okb
      · rw [upd_n y]; exact hw y
    refine ⟨hU.cg (xk 1 (by omega)) (mk 4 (by omega) (by omega) (by omega)), ⟨by rw [x2, m0, upd_s, upd_s], by rw [m0, upd_s]; unfold rng; omega, fun w hw => ?_, fun w hw => ok6 w (fun y => w4 w ?_)⟩, hP.cg (xk 16 (by omega)) (xk 17 (by omega)) (xk 18 (by omega)) (xk 19 (by omega)) (os 14 (by omega)) (mk 7 (by omega) (by omega) (by omega)) (mk 8 (by omega) (by omega) (by omega)) (mk 9 (by omega) (by omega) (by omega)), hL.cg (xk 20 (by omega)) (xk 21 (by omega)) (xk 22 (by omega)) (os 17 (by omega)) (os 18 (by omega)) (mk 10 (by omega) (by omega) (by omega)) (mk 11 (by omega) (by omega) (by omega)), hRT.cg (fun k a b => xk k (by omega)) (os 3 (by omega)) (os 4 (by omega)) (hRT.2.2.2.2.2.cong (os 3 (by omega)) (mk 1 (by omega) (by omega) (by omega)) (mk 2 (by omega) (by omega) (by omega)) (mk 13 (by omega) (by omega) (by omega)) (om.l 12)), hF.cg (by rw [xk 23 (by omega)]) (xk 24 (by omega)) (os 6 (by omega)) (mk 3 (by omega) (by omega) (by omega)), ?_, hS.cg (fun k a b => xk k (by omega)) (fun k a b => mk k (by omega) (by omega) (by omega)), hC.cg (fun k a => xk k (by omega)) (os 40 (by omega))⟩
    · rw [x3, x4, m5, m6]
      by_cases y : w = k
      · rw [y, upd_s, upd_s, upd_s, upd_s]
        exact ⟨rfl, rfl, xr, by have := okb.1; omega⟩
      · rw [upd_n y, upd_n y, upd_n y, upd_n y, ox.i (6 + w) (by simp; omega)]
        exact w3 w hw
    · rw [m0, upd_s, e] at hw
      omega
    · rcases hI with ⟨i1, i2⟩ | ⟨i1, i2, i3, i4, i5, i6, i7, i8, i9, i10, i11, i12, i13, i14, i15⟩
      · exact Or.inl ⟨by rw [xk 51 (by omega)]; exact i1, by rw [os 51 (by omega)]; exact i2⟩
      · refine Or.inr ?_
        rw [xk 51 (by omega), xk 52 (by omega), xk 53 (by omega), xk 54 (by omega), xk 55 (by omega), xk 56 (by omega), os 51 (by omega), os 52 (by omega), os 53 (by omega), os 54 (by omega), os 55 (by omega), os 3 (by omega), mk 19 (by omega) (by omega) (by omega), mk 20 (by omega) (by omega) (by omega), mk 21 (by omega) (by omega) (by omega)]
        exact ⟨i1, i2, i3, i4, i5, fun w hw => ok6 w (fun _ => i6 w hw), i7, i8, i9, i10, i11, i12, i13, i14, i15⟩
theorem op_image : OpR y_X_image y_M_image [] := by
  intro tx x m d h
  obtain ⟨hU, ⟨w1, w2, w3, w4⟩, ⟨p1, p2, p3⟩, ⟨l1, l2, l3, l4, l5⟩, ⟨t1, t2, t3, t4, t5, t6⟩, hF, hI, hS, hC⟩ := h
  refine X_image_ok (d := d + 78) (fun x' ox ix => ?_)
  rw [p1]
  refine M_image_ok (d := d + 79) (fun m' om im => ⟨rfl, tx, ?_⟩)
  obtain ⟨a1, a2, a3, a4, a5, a6, a7, a8, a9⟩ := ix
  obtain ⟨b1, b2, b3, b4⟩ := im
  have xk : ∀ k, k < 51 ∨ 56 < k → x'.1 k = x.1 k := fun k hk => ox.i k (by simp; omega)
  have mk : ∀ k, k ≠ 0 → k < 19 ∨ 21 < k → m'.1 k = m.1 k := fun k h0 hk => om.i k (by simp; omega)
  have os : ∀ k, k < 51 ∨ 55 < k → m'.1 0 k = m.1 0 k := fun k hk => by rw [b4, upd_n (by omega), upd_n (by omega), upd_n (by omega), upd_n (by omega), upd_n (by omega)]
  have o51 : m'.1 0 51 = m.1 0 14 := by rw [b4, upd_n (by decide), upd_n (by decide), upd_n (by decide), upd_n (by decide), upd_s]
  have o52 : m'.1 0 52 = m.1 0 10 := by rw [b4, upd_n (by decide), upd_n (by decide), upd_n (by decide), upd_s]
  have o53 : m'.1 0 53 = m.1 0 17 := by rw [b4, upd_n (by decide), upd_n (by decide), upd_s]
  have o54 : m'.1 0 54 = m.1 0 18 := by rw [b4, upd_n (by decide), upd_s]
  have o55 : m'.1 0 55 = m.1 0 4 := by rw [b4, upd_s]
  have hT' : RT tx x m := ⟨t1, t2, t3, t4, t5, t6⟩
  refine ⟨RU.cg (x := x) (m := m) hU (xk 1 (by omega)) (mk 4 (by omega) (by omega)), RW.cg (x := x) (m := m) ⟨w1, w2, w3, w4⟩ (fun k a b => xk k (by omega)) (os 10 (by omega)) (mk 5 (by omega) (by omega)) (mk 6 (by omega) (by omega)), RP.cg (x := x) (m := m) ⟨p1, p2, p3⟩ (xk 16 (by omega)) (xk 17 (by omega)) (xk 18 (by omega)) (xk 19 (by omega)) (os 14 (by omega)) (mk 7 (by omega) (by omega)) (mk 8 (by omega) (by omega)) (mk 9 (by omega) (by omega)), RL.cg (x := x) (m := m) ⟨l1, l2, l3, l4, l5⟩ (xk 20 (by omega)) (xk 21 (by omega)) (xk 22 (by omega)) (os 17 (by omega)) (os 18 (by omega)) (mk 10 (by omega) (by omega)) (mk 11 (by omega) (by omega)), hT'.cg (fun k a b => xk k (by omega)) (os 3 (by omega)) (os 4 (by omega)) (t6.cong (os 3 (by omega)) (mk 1 (by omega) (by omega)) (mk 2 (by omega) (by omega)) (mk 13 (by omega) (by omega)) (om.l 12)), hF.cg (by rw [xk 23 (by omega)]) (xk 24 (by omega)) (os 6 (by omega)) (mk 3 (by omega) (by omega)), Or.inr ?_, hS.cg (fun k a b => xk k (by omega)) (fun k a b => mk k (by omega) (by omega)), hC.cg (fun k a => xk k (by omega)) (os 40 (by omega))⟩
  rw [o51, o52, o53, o54, o55, os 3 (by omega), a4, a5, a6, a7, a8, a9, mk 6 (by omega) (by omega)]
  refine ⟨rfl, p1, p2, w1, w2, w4, l1, l2, l3, l4, t3, t4, fun j hj => ?_, fun j hj => ?_, fun j hj => ?_⟩
  · rw [a1 j hj, b1 j hj]; exact hU j hj
  · rw [(a2 j hj).1, (a2 j hj).2.1, (a2 j hj).2.2, (b2 j hj).1, (b2 j hj).2.1, (b2 j hj).2.2]
    exact p3 j hj
  · rw [a3 j hj, b3 j hj]
    exact ⟨(l5 j hj).2.1, (l5 j hj).2.2.2⟩
theorem op_back : OpR y_X_back y_M_back [] := by
  intro tx x m d h
  obtain ⟨hU, ⟨w1, w2, w3, w4⟩, ⟨p1, p2, p3⟩, ⟨l1, l2, l3, l4, l5⟩, ⟨t1, t2, t3, t4, t5, t6⟩, hF, hI, hS, hC⟩ := h
  have h : R tx x m := ⟨hU, ⟨w1, w2, w3, w4⟩, ⟨p1, p2, p3⟩, ⟨l1, l2, l3, l4, l5⟩, ⟨t1, t2, t3, t4, t5, t6⟩, hF, hI, hS, hC⟩
  rcases hI with ⟨i1, i2⟩ | ⟨i1, i2, i3, i4, i5, i6, i7, i8, i9, i10, i11, i12, i13, i14, i15⟩
  · exact X_back_ok (d := d + 78) (fun _ => M_back_ok (d := d + 79) (fun _ => ⟨rfl, tx, h⟩) (fun q => absurd (by rw [i2]; rfl) q)) (fun q => absurd (by rw [i1]; rfl) q)
  · have hI : RI x m := Or.inr ⟨i1, i2, i3, i4, i5, i6, i7, i8, i9, i10, i11, i12, i13, i14, i15⟩
    refine X_back_ok (d := d + 78) (fun q => absurd q (by rw [i1]; decide)) (fun _ x' ox a1 a2 a3 x2 x27 x16 x20 => ?_)
    rw [i2] at x16 ⊢
    refine M_back_ok (d := d + 79) (fun q => absurd q (by have := i3.1; omega)) (fun _ m' om b1 b2 b3 b4 => ⟨rfl, tx, ?_⟩)
    have xk : ∀ k, k ≠ 1 → k ≠ 2 → (k < 16 ∨ 20 < k) → k ≠ 22 → k ≠ 27 → x'.1 k = x.1 k := fun k h1 h2 h3 h4 h5 => ox.i k (by simp; omega)
    have mk : ∀ k, k ≠ 0 → k ≠ 4 → (k < 7 ∨ 9 < k) → k ≠ 11 → m'.1 k = m.1 k := fun k h1 h2 h3 h4 => om.i k (by simp; omega)
    have os : ∀ k, k ≠ 14 → k ≠ 10 → k ≠ 17 → k ≠ 18 → k ≠ 4 → m'.1 0 k = m.1 0 k := fun k h1 h2 h3 h4 h5 => by rw [b4, upd_n h5, upd_n h4, upd_n h3, upd_n h2, upd_n h1]
    have o14 : m'.1 0 14 = m.1 0 51 := by rw [b4, upd_n (by decide), upd_n (by decide), upd_n (by decide), upd_n (by decide), upd_s]
    have o10 : m'.1 0 10 = m.1 0 52 := by rw [b4, upd_n (by decide), upd_n (by decide), upd_n (by decide), upd_s]
    have o17 : m'.1 0 17 = m.1 0 53 := by rw [b4, upd_n (by decide), upd_n (by decide), upd_s]
    have o18 : m'.1 0 18 = m.1 0 54 := by rw [b4, upd_n (by decide), upd_s]
    have o4 : m'.1 0 4 = m.1 0 55 := by rw [b4, upd_s]
    have o3 : m'.1 0 3 = m.1 0 3 := os 3 (by omega) (by omega) (by omega) (by omega) (by omega)
    have x274 : x'.1 27 4 = x.1 27 4 := by rw [x27, upd_n (by decide)]
    refine ⟨fun j hj => ?_, ⟨by rw [x2, upd_s, o10]; exact i4, by rw [o10]; exact i5, fun w hw => ?_, ?_⟩, ⟨by rw [x16, upd_s, o14], by rw [o14]; exact i3, fun p hp => ?_⟩, ⟨by rw [x20, upd_n (by decide), upd_s, o17]; exact i7, by rw [o17]; exact i8, by rw [x20, upd_s, o18]; exact i9, by rw [o17, o18]; exact i10, fun i hi => ?_⟩, ⟨by rw [x274, o3]; exact t1, by rw [o3]; exact t2, by rw [x27, upd_s, o4]; exact i11, by rw [o4, o3]; exact i12, t5.cong x274 (fun k a b => xk k (by omega) (by omega) (by omega) (by omega) (by omega)) (by rw [t1]; exact t2.2), t6.cong o3 (mk 1 (by omega) (by omega) (by omega) (by omega)) (mk 2 (by omega) (by omega) (by omega) (by omega)) (mk 13 (by omega) (by omega) (by omega) (by omega)) (om.l 12)⟩, hF.cg (by rw [xk 23 (by omega) (by omega) (by omega) (by omega) (by omega)]) (xk 24 (by omega) (by omega) (by omega) (by omega) (by omega)) (os 6 (by omega) (by omega) (by omega) (by omega) (by omega)) (mk 3 (by omega) (by omega) (by omega) (by omega)), hI.cg (fun k a b => xk k (by omega) (by omega) (by omega) (by omega) (by omega)) (fun k a b => os k (by omega) (by omega) (by omega) (by omega) (by omega)) o3 (mk 6 (by omega) (by omega) (by omega) (by omega)) (mk 19 (by omega) (by omega) (by omega) (by omega)) (mk 20 (by omega) (by omega) (by omega) (by omega)) (mk 21 (by omega) (by omega) (by omega) (by omega)), hS.cg (fun k a b => xk k (by omega) (by omega) (by omega) (by omega) (by omega)) (fun k a b => mk k (by omega) (by omega) (by omega) (by omega)), hC.cg (fun k a => xk k (by omega) (by omega) (by omega) (by omega) (by omega)) (os 40 (by omega) (by omega) (by omega) (by omega) (by omega))⟩
    · rw [a1 j hj, b1 j hj]; exact i13 j hj
    · rw [xk 3 (by omega) (by omega) (by omega) (by omega) (by omega), xk 4 (by omega) (by omega) (by omega) (by omega) (by omega), xk (6 + w) (by omega) (by omega) (by omega) (by omega) (by omega), mk 5 (by omega) (by omega) (by omega) (by omega), mk 6 (by omega) (by omega) (by omega) (by omega)]
      exact w3 w hw
    · rw [o10, mk 6 (by omega) (by omega) (by omega) (by omega)]
      exact i6
    · rw [(a2 p hp).1, (a2 p hp).2.1, (a2 p hp).2.2, (b2 p hp).1, (b2 p hp).2.1, (b2 p hp).2.2]
      exact i14 p hp
    · rw [xk 21 (by omega) (by omega) (by omega) (by omega) (by omega), mk 10 (by omega) (by omega) (by omega) (by omega), a3 i hi, b3 i hi]
      exact ⟨(l5 i hi).1, (i15 i hi).1, (l5 i hi).2.2.1, (i15 i hi).2⟩
/-- sheets alone -/
theorem R.sh {tx : Nat → Nat → List Int32} {x x' m m' : Mem} (h : R tx x m) (xk : ∀ k, k < 58 ∨ 64 < k → x'.1 k = x.1 k) (mk : ∀ k, k < 22 → m'.1 k = m.1 k) (ml : m'.2 12 = m.2 12) (hs : RS x' m') : R tx x' m' := by
  obtain ⟨hU, hW, hP, hL, hRT, hF, hI, hS, hC⟩ := h
  have os : ∀ k, m'.1 0 k = m.1 0 k := fun k => by rw [mk 0 (by omega)]
  exact ⟨hU.cg (xk 1 (by omega)) (mk 4 (by omega)), hW.cg (fun k a b => xk k (by omega)) (os 10) (mk 5 (by omega)) (mk 6 (by omega)), hP.cg (xk 16 (by omega)) (xk 17 (by omega)) (xk 18 (by omega)) (xk 19 (by omega)) (os 14) (mk 7 (by omega)) (mk 8 (by omega)) (mk 9 (by omega)), hL.cg (xk 20 (by omega)) (xk 21 (by omega)) (xk 22 (by omega)) (os 17) (os 18) (mk 10 (by omega)) (mk 11 (by omega)), hRT.cg (fun k a b => xk k (by omega)) (os 3) (os 4) (hRT.2.2.2.2.2.cong (os 3) (mk 1 (by omega)) (mk 2 (by omega)) (mk 13 (by omega)) ml), hF.cg (by rw [xk 23 (by omega)]) (xk 24 (by omega)) (os 6) (mk 3 (by omega)), hI.cg (fun k a b => xk k (by omega)) (fun k a b => os k) (os 3) (mk 6 (by omega)) (mk 19 (by omega)) (mk 20 (by omega)) (mk 21 (by omega)), hs, hC.cg (fun k a => xk k (by omega)) (os 40)⟩
theorem R.shs {tx : Nat → Nat → List Int32} {x m : Mem} (h : R tx x m) : shM m ∧ shX x ∧ ∀ s, s < 4 → ((x.1 58 s).toInt = -1 ↔ (m.1 22 s).toInt = 0) ∧ (¬ (m.1 22 s).toInt = 0 → x.1 58 s = m.1 23 s ∧ x.1 59 s = m.1 24 s ∧ rng (m.1 23 s) 0 2 ∧ rng (m.1 24 s) 0 40 ∧ ∀ i : Nat, (i : Int) < (m.1 24 s).toInt → x.1 (61 + s) i = m.1 25 (40 * s + i)) := by
  have hS := h.2.2.2.2.2.2.2.1
  have key : ∀ s, s < 4 → ((x.1 58 s).toInt = -1 ↔ (m.1 22 s).toInt = 0) ∧ (¬ (m.1 22 s).toInt = 0 → x.1 58 s = m.1 23 s ∧ x.1 59 s = m.1 24 s ∧ rng (m.1 23 s) 0 2 ∧ rng (m.1 24 s) 0 40 ∧ ∀ i : Nat, (i : Int) < (m.1 24 s).toInt → x.1 (61 + s) i = m.1 25 (40 * s + i)) := by
    intro s hs
    rcases hS s hs with ⟨s1, s2⟩ | ⟨s1, s2, s3, s4, s5, s6⟩
    · exact ⟨⟨fun _ => s2, fun _ => by rw [s1]; rfl⟩, fun z => absurd s2 z⟩
    · refine ⟨⟨fun z => ?_, fun z => absurd z s1⟩, fun _ => ⟨s2, s4, s3, s5, s6⟩⟩
      rw [s2] at z
      have := s3.1
      omega
  refine ⟨fun s hs z => ((key s hs).2 z).2.2.2.1, fun s hs z => ?_, key⟩
  have z' : ¬ (m.1 22 s).toInt = 0 := fun y => z ((key s hs).1.mpr y)
  rw [((key s hs).2 z').2.1]
  exact ((key s hs).2 z').2.2.2.1
