/-! ===== the reference: the image ===== -/
theorem n5 (k i : Nat) : nI k + nI i = nI (k + i) := nI_add k i
def imgM (μ μ' : Mem) : Prop := (∀ j, j < 8 → μ'.1 19 j = μ.1 4 j) ∧ (∀ j, j < 5 → μ'.1 20 j = μ.1 7 j ∧ μ'.1 20 (5 + j) = μ.1 8 j ∧ μ'.1 20 (10 + j) = μ.1 9 j) ∧ (∀ j, j < 6 → μ'.1 21 j = μ.1 11 j) ∧ μ'.1 0 = upd (upd (upd (upd (upd (μ.1 0) 51 (μ.1 0 14)) 52 (μ.1 0 10)) 53 (μ.1 0 17)) 54 (μ.1 0 18)) 55 (μ.1 0 4)
theorem M_image_ok {d : Nat} {Q : QQ} {μ : Mem} (hQ : ∀ μ', Only [0, 19, 20, 21] μ μ' → imgM μ μ' → Q (.int (μ.1 0 14)) μ') : Call (d + 1) y_M_image [.ref 0] μ Q := by
  refine b_M_image_0 ?_
  refine loopN (G := fun i t => AA (Call d) y_M_image Q 2 [.ref 0, .int (nI i)] [] t) (P := fun i t => Only [19] μ t ∧ ∀ j, j < i → t.1 19 j = μ.1 4 j) (N := 8) ?_ ?_ 0 μ (by omega) ⟨Only.rf, fun j hj => absurd hj (by omega)⟩
  · intro μ1 ⟨a1, a2⟩
    refine b_M_image_2 ⟨fun _ => ?_, fun z => absurd (by decide) z⟩
    refine loopN (G := fun i t => AA (Call d) y_M_image Q 17 [.ref 0, .int (nI i)] [] t) (P := fun i t => Only [20] μ1 t ∧ ∀ j, j < i → t.1 20 j = μ1.1 7 j ∧ t.1 20 (5 + j) = μ1.1 8 j ∧ t.1 20 (10 + j) = μ1.1 9 j) (N := 5) ?_ ?_ 0 μ1 (by omega) ⟨Only.rf, fun j hj => absurd hj (by omega)⟩
    · intro μ2 ⟨b1, b2⟩
      refine b_M_image_17 ⟨fun _ => ?_, fun z => absurd (by decide) z⟩
      refine loopN (G := fun i t => AA (Call d) y_M_image Q 52 [.ref 0, .int (nI i)] [] t) (P := fun i t => Only [21] μ2 t ∧ ∀ j, j < i → t.1 21 j = μ2.1 11 j) (N := 6) ?_ ?_ 0 μ2 (by omega) ⟨Only.rf, fun j hj => absurd hj (by omega)⟩
      · intro μ3 ⟨c1, c2⟩
        refine b_M_image_52 ⟨fun _ => ?_, fun z => absurd (by decide) z⟩
        intro μ4 e4 μ5 e5 μ6 e6 μ7 e7 μ8 e8
        have o : Only [19, 20, 21] μ μ3 := ((a1.mono (by simp)).trans (b1.mono (by simp))).trans (c1.mono (by simp))
        have o0 : μ3.1 0 = μ.1 0 := o.i 0
        have h8 : μ8 = wI μ3 0 (upd (upd (upd (upd (upd (μ.1 0) 51 (μ.1 0 14)) 52 (μ.1 0 10)) 53 (μ.1 0 17)) 54 (μ.1 0 18)) 55 (μ.1 0 4)) := by
          subst_vars
          rw [o0]
          unfold wI
          congr 1
          funext z
          by_cases hz : z = 0
          · simp [hz, upd]
          · simp [hz]
        refine Qi (hQ μ8 ?_ ?_) ?_
        · rw [h8]
          exact (o.mono (by simp)).trans Only.w
        · rw [h8]
          refine ⟨fun j hj => ?_, fun j hj => ?_, fun j hj => ?_, ?_⟩
          · rw [wI_n (by decide), c1.i 19, b1.i 19, a2 j hj]
          · rw [wI_n (by decide), c1.i 20]
            have := b2 j hj
            rw [a1.i 7, a1.i 8, a1.i 9] at this
            exact this
          · rw [wI_n (by decide), c2 j hj, b1.i 11, a1.i 11]
          · rw [wI_s]
        · rw [h8, wI_s]
          simp [upd]
      · intro i t hi ⟨q1, q2⟩ ih
        have e := nI_i (n := i) (by omega)
        refine b_M_image_52 ⟨fun z => absurd (le32.mp z) (by rw [e]; show ¬ (6 : Int) ≤ _; omega), fun _ => ⟨nI_v hi (by omega), nI_v hi (by omega), fun ν e1 => ?_⟩⟩
        rw [nI_1]
        refine ih _ ⟨q1.trans (by rw [e1]; exact Only.w), fun j hj => ?_⟩
        rw [e1, wI_s, nI_c (by omega), q1.i 11]
        by_cases q : j = i
        · rw [q, upd_s]
        · rw [upd_n q]; exact q2 j (by omega)
    · intro i t hi ⟨q1, q2⟩ ih
      have e := nI_i (n := i) (by omega)
      refine b_M_image_17 ⟨fun z => absurd (le32.mp z) (by rw [e]; show ¬ (5 : Int) ≤ _; omega), fun _ => ?_⟩
      have e5 : (5 : Int32) + nI i = nI (5 + i) := nI_add 5 i
      have e10 : (10 : Int32) + nI i = nI (10 + i) := nI_add 10 i
      rw [e5, e10, nI_c (by omega), nI_c (by omega), nI_c (by omega), nI_1]
      refine ⟨nI_v hi (by omega), nI_v (by omega) (by omega), fun ν1 e1 => ⟨nI_v hi (by omega), nI_v (by omega) (by omega), fun ν2 e2 => ⟨nI_v hi (by omega), nI_v (by omega) (by omega), fun ν3 e3 => ?_⟩⟩⟩
      refine ih _ ⟨q1.trans (by subst_vars; intro k hk; simp at hk; simp [wI, hk]), fun j hj => ?_⟩
      have x7 : t.1 7 = μ1.1 7 := q1.i 7
      have x8 : t.1 8 = μ1.1 8 := q1.i 8
      have x9 : t.1 9 = μ1.1 9 := q1.i 9
      have hv : ∀ z, ν3.1 20 z = upd (upd (upd (t.1 20) i (μ1.1 7 i)) (5 + i) (μ1.1 8 i)) (10 + i) (μ1.1 9 i) z := by
        intro z
        subst_vars
        simp [wI, x7, x8, x9]
      rw [hv, hv, hv]
      by_cases q : j = i
      · subst q
        refine ⟨?_, ?_, ?_⟩
        · rw [upd_n (by omega), upd_n (by omega), upd_s]
        · rw [upd_n (by omega), upd_s]
        · rw [upd_s]
      · have := q2 j (by omega)
        refine ⟨?_, ?_, ?_⟩
        · rw [upd_n (by omega), upd_n (by omega), upd_n (by omega)]; exact this.1
        · rw [upd_n (by omega), upd_n (by omega), upd_n (by omega)]; exact this.2.1
        · rw [upd_n (by omega), upd_n (by omega), upd_n (by omega)]; exact this.2.2
  · intro i t hi ⟨q1, q2⟩ ih
    have e := nI_i (n := i) (by omega)
    refine b_M_image_2 ⟨fun z => absurd (le32.mp z) (by rw [e]; show ¬ (8 : Int) ≤ _; omega), fun _ => ⟨nI_v hi (by omega), nI_v hi (by omega), fun ν e1 => ?_⟩⟩
    rw [nI_1]
    refine ih _ ⟨q1.trans (by rw [e1]; exact Only.w), fun j hj => ?_⟩
    rw [e1, wI_s, nI_c (by omega), q1.i 4]
    by_cases q : j = i
    · rw [q, upd_s]
    · rw [upd_n q]; exact q2 j (by omega)
theorem M_back_ok {d : Nat} {Q : QQ} {μ : Mem} (hn : (μ.1 0 51).toInt = -1 → Q (.int (-3)) μ) (hQ : ¬ (μ.1 0 51).toInt = -1 → ∀ μ', Only [0, 4, 7, 8, 9, 11] μ μ' → (∀ j, j < 8 → μ'.1 4 j = μ.1 19 j) → (∀ j, j < 5 → μ'.1 7 j = μ.1 20 j ∧ μ'.1 8 j = μ.1 20 (5 + j) ∧ μ'.1 9 j = μ.1 20 (10 + j)) → (∀ j, j < 6 → μ'.1 11 j = μ.1 21 j) → μ'.1 0 = upd (upd (upd (upd (upd (μ.1 0) 14 (μ.1 0 51)) 10 (μ.1 0 52)) 17 (μ.1 0 53)) 18 (μ.1 0 54)) 4 (μ.1 0 55) → Q (.int (μ.1 0 51)) μ') : Call (d + 1) y_M_back [.ref 0] μ Q := by
  refine b_M_back_0 ⟨fun c0 => ?_, fun c0 => hn (eq32.mp c0)⟩
  have c0 : ¬ (μ.1 0 51).toInt = -1 := fun z => c0 (eq32.mpr z)
  refine loopN (G := fun i t => AA (Call d) y_M_back Q 8 [.ref 0, .int (nI i)] [] t) (P := fun i t => Only [4] μ t ∧ ∀ j, j < i → t.1 4 j = μ.1 19 j) (N := 8) ?_ ?_ 0 μ (by omega) ⟨Only.rf, fun j hj => absurd hj (by omega)⟩
  · intro μ1 ⟨a1, a2⟩
    refine b_M_back_8 ⟨fun _ => ?_, fun z => absurd (by decide) z⟩
    refine loopN (G := fun i t => AA (Call d) y_M_back Q 23 [.ref 0, .int (nI i)] [] t) (P := fun i t => Only [7, 8, 9] μ1 t ∧ ∀ j, j < i → t.1 7 j = μ1.1 20 j ∧ t.1 8 j = μ1.1 20 (5 + j) ∧ t.1 9 j = μ1.1 20 (10 + j)) (N := 5) ?_ ?_ 0 μ1 (by omega) ⟨Only.rf, fun j hj => absurd hj (by omega)⟩
    · intro μ2 ⟨b1, b2⟩
      refine b_M_back_23 ⟨fun _ => ?_, fun z => absurd (by decide) z⟩
      refine loopN (G := fun i t => AA (Call d) y_M_back Q 58 [.ref 0, .int (nI i)] [] t) (P := fun i t => Only [11] μ2 t ∧ ∀ j, j < i → t.1 11 j = μ2.1 21 j) (N := 6) ?_ ?_ 0 μ2 (by omega) ⟨Only.rf, fun j hj => absurd hj (by omega)⟩
      · intro μ3 ⟨c1, c2⟩
        refine b_M_back_58 ⟨fun _ => ?_, fun z => absurd (by decide) z⟩
        intro μ4 e4 μ5 e5 μ6 e6 μ7 e7 μ8 e8
        have o : Only [4, 7, 8, 9, 11] μ μ3 := ((a1.mono (by simp)).trans (b1.mono (by simp))).trans (c1.mono (by simp))
        have o0 : μ3.1 0 = μ.1 0 := o.i 0
        have h8 : μ8 = wI μ3 0 (upd (upd (upd (upd (upd (μ.1 0) 14 (μ.1 0 51)) 10 (μ.1 0 52)) 17 (μ.1 0 53)) 18 (μ.1 0 54)) 4 (μ.1 0 55)) := by
          subst_vars
          rw [o0]
          unfold wI
          congr 1
          funext z
          by_cases hz : z = 0
          · simp [hz, upd]
          · simp [hz]
        refine Qi (hQ c0 μ8 ?_ ?_ ?_ ?_ ?_) ?_
        · rw [h8]
          exact (o.mono (by simp)).trans Only.w
        · intro j hj
          rw [h8, wI_n (by decide), c1.i 4, b1.i 4, a2 j hj]
        · intro j hj
          rw [h8, wI_n (by decide), wI_n (by decide), wI_n (by decide), c1.i 7, c1.i 8, c1.i 9]
          have := b2 j hj
          rw [a1.i 20] at this
          exact this
        · intro j hj
          rw [h8, wI_n (by decide), c2 j hj, b1.i 21, a1.i 21]
        · rw [h8, wI_s]
        · rw [h8, wI_s]
          simp [upd]
      · intro i t hi ⟨q1, q2⟩ ih
        have e := nI_i (n := i) (by omega)
        refine b_M_back_58 ⟨fun z => absurd (le32.mp z) (by rw [e]; show ¬ (6 : Int) ≤ _; omega), fun _ => ⟨nI_v hi (by omega), nI_v hi (by omega), fun ν e1 => ?_⟩⟩
        rw [nI_1]
        refine ih _ ⟨q1.trans (by rw [e1]; exact Only.w), fun j hj => ?_⟩
        rw [e1, wI_s, nI_c (by omega), q1.i 21]
        by_cases q : j = i
        · rw [q, upd_s]
        · rw [upd_n q]; exact q2 j (by omega)
    · intro i t hi ⟨q1, q2⟩ ih
      have e := nI_i (n := i) (by omega)
      refine b_M_back_23 ⟨fun z => absurd (le32.mp z) (by rw [e]; show ¬ (5 : Int) ≤ _; omega), fun _ => ?_⟩
      have e5 : (5 : Int32) + nI i = nI (5 + i) := nI_add 5 i
      have e10 : (10 : Int32) + nI i = nI (10 + i) := nI_add 10 i
      rw [e5, e10, nI_c (by omega), nI_c (by omega), nI_c (by omega), nI_1]
      refine ⟨nI_v (by omega) (by omega), nI_v hi (by omega), fun ν1 e1 => ⟨nI_v (by omega) (by omega), nI_v hi (by omega), fun ν2 e2 => ⟨nI_v (by omega) (by omega), nI_v hi (by omega), fun ν3 e3 => ?_⟩⟩⟩
      refine ih _ ⟨q1.trans (by subst_vars; intro k hk; simp at hk; simp [wI, hk]), fun j hj => ?_⟩
      have x20 : t.1 20 = μ1.1 20 := q1.i 20
      have h7 : ν3.1 7 = upd (t.1 7) i (μ1.1 20 i) := by subst_vars; simp [wI, x20]
      have h8 : ν3.1 8 = upd (t.1 8) i (μ1.1 20 (5 + i)) := by subst_vars; simp [wI, x20]
      have h9 : ν3.1 9 = upd (t.1 9) i (μ1.1 20 (10 + i)) := by subst_vars; simp [wI, x20]
      rw [h7, h8, h9]
      by_cases q : j = i
      · subst q
        exact ⟨upd_s, upd_s, upd_s⟩
      · have := q2 j (by omega)
        rw [upd_n q, upd_n q, upd_n q]
        exact this
  · intro i t hi ⟨q1, q2⟩ ih
    have e := nI_i (n := i) (by omega)
    refine b_M_back_8 ⟨fun z => absurd (le32.mp z) (by rw [e]; show ¬ (8 : Int) ≤ _; omega), fun _ => ⟨nI_v hi (by omega), nI_v hi (by omega), fun ν e1 => ?_⟩⟩
    rw [nI_1]
    refine ih _ ⟨q1.trans (by rw [e1]; exact Only.w), fun j hj => ?_⟩
    rw [e1, wI_s, nI_c (by omega), q1.i 19]
    by_cases q : j = i
    · rw [q, upd_s]
    · rw [upd_n q]; exact q2 j (by omega)
