theorem txS_k {tx : Nat → Nat → List Int32} {k : Nat} {c0 c1 c2 : List Int32} {w : Nat} : txS tx k c0 c1 c2 k w = if w = 0 then c0 else if w = 1 then c1 else c2 := if_pos rfl
theorem op_text : OpR y_X_text y_M_text [] := by
  intro tx x m d h
  obtain ⟨hU, hW, hP, hL, ⟨t1, t2, t3, t4, t5, t6⟩, ⟨f1, f2, f3⟩, hI, hS, hC⟩ := h
  have h : R tx x m := ⟨hU, hW, hP, hL, ⟨t1, t2, t3, t4, t5, t6⟩, ⟨f1, f2, f3⟩, hI, hS, hC⟩
  obtain ⟨k, hk, ek, ek2⟩ := nI_ex (x := m.1 0 3) (by have := t2.1; omega)
  obtain ⟨n, hn, en, en2⟩ := nI_ex (x := m.1 0 6) f2.1
  have t22 := t2.2
  have f22 := f2.2
  have x274 : x.1 27 4 = nI k := by rw [t1]; exact ek
  by_cases h6 : k = 6
  · refine b_X_text_0 ⟨fun z => absurd (lt32.mp z) (by rw [x274, h6]; decide), fun _ => ?_⟩
    refine b_M_text_0 ⟨fun z => absurd (by rw [ek, h6]; rfl) z, fun _ => ⟨rfl, tx, h⟩⟩
  have k6 : k < 6 := by omega
  have n160 : n ≤ 160 := by omega
  have hr : ∀ i, i < n → rng (m.1 3 i) 0 255 := fun i hi => (f3 i (by omega)).2
  have bx : byX (m.1 3) n x := ⟨n160, by rw [f1]; exact en, fun i hi => (f3 i (by omega)).1, hC.2.1⟩
  have xgo : ∀ {Q : QQ}, Call (d + 79) y_Reader_read [.ref 23] x (fun ρ μ1 => ∃ r2 : Int32, ρ = .int r2 ∧ ((r2 = (-1) → (Call (d + 79) y_Texts_add [.ref 27, .ref 25, .ref 26] μ1 (fun ρ μ3 => ∃ r4 : Int32, ρ = .int r4 ∧ (Q (.int r4) μ3)))) ∧ (¬ r2 = (-1) → (Q (.int ((-100) - r2)) μ1)))) → Call (d + 80) y_X_text [.ref 0] x Q := fun g => b_X_text_0 ⟨fun _ => g, fun z => absurd (lt32.mpr (by rw [x274, nI_i (by omega)]; show _ < (6 : Int); omega)) z⟩
  rcases readJ hr n160 with ⟨c0, c1, c2, o0, o1, o2, hl, mr, xr⟩ | ⟨f, hf, mr, xr⟩
  · refine xgo (xr (d + 28) x _ bx (fun x1 ox1 s1 z1 hcode he0 he1 he2 => ⟨_, rfl, fun _ => ?_, fun z => absurd rfl z⟩))
    have x1274 : x1.1 27 4 = nI k := by rw [ox1.i 27]; exact x274
    refine Texts_add_ok x1274 k6 (fun x2 ox2 hc he h27 => ⟨_, rfl, ?_⟩)
    refine M_text_go (d := d + 79) ek k6 en n160 (fun m2 g1 g2 g3 g4 g5 g6 g7 => ?_)
    refine mr (d + 36) k 0 m2 _ k6 (by omega) g5 (by rw [g7, upd_s]) (fun m3 fr b3 => ⟨_, rfl, fun _ m5 e5 => ?_, fun z => absurd b3 z⟩)
    have m33 : m3.1 0 3 = nI k := by rw [fr.2 3 (by omega), g3 3 (by omega)]; exact ek
    rw [m33, nI_1] at e5
    have m5k : ∀ a, a ≠ 0 → m5.1 a = m2.1 a := fun a ha => by rw [e5, wI_n ha, fr.1.i a (by simp; exact ha)]
    have m53 : m5.1 0 3 = nI (k + 1) := by rw [e5, wI_s, upd_s]
    have os : ∀ j, j ≠ 3 → j ≠ 6 → j < 25 ∨ 33 < j → m5.1 0 j = m.1 0 j := fun j h1 h2 h3 => by rw [e5, wI_s, upd_n h1, fr.2 j h3, g3 j h2]
    have m56 : m5.1 0 6 = 0 := by rw [e5, wI_s, upd_n (by decide), fr.2 6 (by omega)]; exact g4
    have mk : ∀ a, a ≠ 0 → a ≠ 1 → a ≠ 2 → m5.1 a = m.1 a := fun a h0 h1 h2 => by rw [m5k a h0, g1 a h0 h1 h2]
    have xk : ∀ a, a ≠ 23 → a ≠ 25 → a ≠ 26 → a ≠ 27 → (a < 29 ∨ 41 < a) → x2.1 a = x.1 a := fun a h1 h2 h3 h4 h5 => by rw [ox2.i a (by simp; omega), ox1.i a (by simp; omega)]
    have s23 : x2.1 23 = x1.1 23 := ox2.i 23 (by simp; omega)
    have fin : (.int (m5.1 0 3 - 1) : Value) = .int (nI k) := by rw [m53, nI_pred]
    refine ⟨fin, txS tx k c0 c1 c2, hU.cg (xk 1 (by omega) (by omega) (by omega) (by omega) (by omega)) (mk 4 (by omega) (by omega) (by omega)), hW.cg (fun a q1 q2 => xk a (by omega) (by omega) (by omega) (by omega) (by omega)) (os 10 (by omega) (by omega) (by omega)) (mk 5 (by omega) (by omega) (by omega)) (mk 6 (by omega) (by omega) (by omega)), hP.cg (xk 16 (by omega) (by omega) (by omega) (by omega) (by omega)) (xk 17 (by omega) (by omega) (by omega) (by omega) (by omega)) (xk 18 (by omega) (by omega) (by omega) (by omega) (by omega)) (xk 19 (by omega) (by omega) (by omega) (by omega) (by omega)) (os 14 (by omega) (by omega) (by omega)) (mk 7 (by omega) (by omega) (by omega)) (mk 8 (by omega) (by omega) (by omega)) (mk 9 (by omega) (by omega) (by omega)), hL.cg (xk 20 (by omega) (by omega) (by omega) (by omega) (by omega)) (xk 21 (by omega) (by omega) (by omega) (by omega) (by omega)) (xk 22 (by omega) (by omega) (by omega) (by omega) (by omega)) (os 17 (by omega) (by omega) (by omega)) (os 18 (by omega) (by omega) (by omega)) (mk 10 (by omega) (by omega) (by omega)) (mk 11 (by omega) (by omega) (by omega)), ⟨by rw [h27, upd_s, m53], by rw [m53]; unfold rng; rw [nI_i (by omega)]; omega, by rw [h27, upd_n (by decide), ox1.i 27, os 4 (by omega) (by omega) (by omega)]; exact t3, by rw [os 4 (by omega) (by omega) (by omega), m53, nI_i (by omega)]; have := t4; omega, ?_, ?_⟩, ⟨by rw [s23, m56]; exact z1, by rw [m56]; exact ⟨by decide, by decide⟩, fun i hi => ?_⟩, ?_, hS.cg (fun a q1 q2 => xk a (by omega) (by omega) (by omega) (by omega) (by omega)) (fun a q1 q2 => mk a (by omega) (by omega) (by omega)), hC.cg (fun a q1 => xk a (by omega) (by omega) (by omega) (by omega) (by omega)) (os 40 (by omega) (by omega) (by omega))⟩
    · refine t5.add (k := k) x274 k6 (by rw [h27, upd_s]) (fun t ht => ⟨?_, ?_⟩) o0 o1 o2 hl (fun j hj => ?_) (by rw [he 0 (by omega)]; exact he0) (by rw [he 1 (by omega)]; exact he1) (by rw [he 2 (by omega)]; exact he2)
      · rw [ox2.i (29 + t) (by simp; omega), ox1.i (29 + t) (by simp; omega)]
      · rw [ox2.i (36 + t) (by simp; omega), ox1.i (36 + t) (by simp; omega)]
      · have hj2 : j < 160 := by simp at hj; omega
        rw [hc j hj2]
        exact hcode j hj
    · refine t6.add (k := k) ek k6 m53 (fun t i ht hi => ?_) (fun t ht => ?_) (mk 13 (by omega) (by omega) (by omega)) (by rw [e5, wI_2, fr.1.l 12, g2]) ?_
      · rw [m5k 1 (by omega)]; exact g6 _ (by omega)
      · rw [m5k 2 (by omega), g7, upd_n (by omega)]
      · intro d' t' w Q' ν ht hw hB hnn hQ'
        rw [m5k 2 (by omega), g7, upd_s] at hnn
        rw [show d' + 60 = (d' + 17) + 43 by omega]
        refine mr (d' + 17) t' w ν Q' ht hw (fun i hi => ?_) hnn (fun ν' fr' _ => ?_)
        · rw [hB i (by omega), m5k 1 (by omega)]; exact g5 i hi
        · have g := hQ' ν' fr'.1 fr'.2
          rw [txS_k] at g
          exact g
    · rw [m56] at hi
      have : (0 : Int32).toInt = 0 := rfl
      omega
    · rcases hI with ⟨i1, i2⟩ | ⟨i1, i2, i3, i4, i5, i6, i7, i8, i9, i10, i11, i12, i13, i14, i15⟩
      · exact Or.inl ⟨by rw [xk 51 (by omega) (by omega) (by omega) (by omega) (by omega)]; exact i1, by rw [os 51 (by omega) (by omega) (by omega)]; exact i2⟩
      · refine Or.inr ?_
        rw [xk 51 (by omega) (by omega) (by omega) (by omega) (by omega), xk 52 (by omega) (by omega) (by omega) (by omega) (by omega), xk 53 (by omega) (by omega) (by omega) (by omega) (by omega), xk 54 (by omega) (by omega) (by omega) (by omega) (by omega), xk 55 (by omega) (by omega) (by omega) (by omega) (by omega), xk 56 (by omega) (by omega) (by omega) (by omega) (by omega), os 51 (by omega) (by omega) (by omega), os 52 (by omega) (by omega) (by omega), os 53 (by omega) (by omega) (by omega), os 54 (by omega) (by omega) (by omega), os 55 (by omega) (by omega) (by omega), mk 6 (by omega) (by omega) (by omega), mk 19 (by omega) (by omega) (by omega), mk 20 (by omega) (by omega) (by omega), mk 21 (by omega) (by omega) (by omega), m53, nI_i (by omega)]
        exact ⟨i1, i2, i3, i4, i5, i6, i7, i8, i9, i10, i11, ⟨i12.1, by have := i12.2; omega⟩, i13, i14, i15⟩
  · refine xgo (xr (d + 28) x _ bx (fun x1 ox1 s1 z1 => ⟨_, rfl, fun z => absurd z (nI_ne (by omega)), fun _ => ?_⟩))
    refine M_text_go (d := d + 79) ek k6 en n160 (fun m2 g1 g2 g3 g4 g5 g6 g7 => ?_)
    refine mr (d + 36) k 0 m2 _ k6 (by omega) g5 (by rw [g7, upd_s]) (fun v m3 b3 => ⟨_, rfl, fun z => absurd (b3.2.1.symm.trans z) (by decide), fun _ => ?_⟩)
    have fr := b3.1
    have m5k : ∀ a, a ≠ 0 → m3.1 a = m2.1 a := fun a ha => fr.1.i a (by simp; exact ha)
    have os : ∀ j, j ≠ 6 → j < 25 ∨ 33 < j → m3.1 0 j = m.1 0 j := fun j h2 h3 => by rw [fr.2 j h3, g3 j h2]
    have m56 : m3.1 0 6 = 0 := by rw [fr.2 6 (by omega)]; exact g4
    have mk : ∀ a, a ≠ 0 → a ≠ 1 → a ≠ 2 → m3.1 a = m.1 a := fun a h0 h1 h2 => by rw [m5k a h0, g1 a h0 h1 h2]
    have xk : ∀ a, a ≠ 23 → a ≠ 25 → a ≠ 26 → x1.1 a = x.1 a := fun a h1 h2 h3 => ox1.i a (by simp; omega)
    refine ⟨by rw [b3.2.2], tx, hU.cg (xk 1 (by omega) (by omega) (by omega)) (mk 4 (by omega) (by omega) (by omega)), hW.cg (fun a q1 q2 => xk a (by omega) (by omega) (by omega)) (os 10 (by omega) (by omega)) (mk 5 (by omega) (by omega) (by omega)) (mk 6 (by omega) (by omega) (by omega)), hP.cg (xk 16 (by omega) (by omega) (by omega)) (xk 17 (by omega) (by omega) (by omega)) (xk 18 (by omega) (by omega) (by omega)) (xk 19 (by omega) (by omega) (by omega)) (os 14 (by omega) (by omega)) (mk 7 (by omega) (by omega) (by omega)) (mk 8 (by omega) (by omega) (by omega)) (mk 9 (by omega) (by omega) (by omega)), hL.cg (xk 20 (by omega) (by omega) (by omega)) (xk 21 (by omega) (by omega) (by omega)) (xk 22 (by omega) (by omega) (by omega)) (os 17 (by omega) (by omega)) (os 18 (by omega) (by omega)) (mk 10 (by omega) (by omega) (by omega)) (mk 11 (by omega) (by omega) (by omega)), RT.cg (tx := tx) (x := x) (m := m) ⟨t1, t2, t3, t4, t5, t6⟩ (fun a q1 q2 => xk a (by omega) (by omega) (by omega)) (os 3 (by omega) (by omega)) (os 4 (by omega) (by omega)) (t6.blk (k := k) ek (by omega) (by rw [os 3 (by omega) (by omega)]; exact ek) (fun t i ht hi => by rw [m5k 1 (by omega)]; exact g6 _ (by omega)) (fun t ht => by rw [m5k 2 (by omega), g7, upd_n (by omega)]) (mk 13 (by omega) (by omega) (by omega)) (by rw [fr.1.l 12, g2])), ⟨by rw [m56]; exact z1, by rw [m56]; exact ⟨by decide, by decide⟩, fun i hi => ?_⟩, hI.cg (fun a q1 q2 => xk a (by omega) (by omega) (by omega)) (fun a q1 q2 => os a (by omega) (by omega)) (os 3 (by omega) (by omega)) (mk 6 (by omega) (by omega) (by omega)) (mk 19 (by omega) (by omega) (by omega)) (mk 20 (by omega) (by omega) (by omega)) (mk 21 (by omega) (by omega) (by omega)), hS.cg (fun a q1 q2 => xk a (by omega) (by omega) (by omega)) (fun a q1 q2 => mk a (by omega) (by omega) (by omega)), hC.cg (fun a q1 => xk a (by omega) (by omega) (by omega)) (os 40 (by omega) (by omega))⟩
    rw [m56] at hi
    have : (0 : Int32).toInt = 0 := rfl
    omega
