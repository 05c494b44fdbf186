/-! ===== the reference: copies, writers by a sheet ===== -/
/-- sheets: their sizes -/
def shM (μ : Mem) : Prop := ∀ s, s < 4 → ¬ (μ.1 22 s).toInt = 0 → rng (μ.1 24 s) 0 40
theorem n40' (s i k : Nat) : (40 : Int32) * nI s + nI i + nI k = nI (40 * s + i + k) := by rw [n40, nI_add]
def okCp (μ : Mem) (a b c e f : Int32) : Prop := 0 ≤ f.toInt ∧ 0 ≤ b.toInt ∧ 0 ≤ e.toInt ∧ b.toInt ≤ (μ.1 24 a.toNatClampNeg).toInt - f.toInt ∧ e.toInt ≤ (μ.1 24 c.toNatClampNeg).toInt - f.toInt
theorem M_copy_ok {d : Nat} {Q : QQ} {μ : Mem} {a b c e f : Int32} (hsh : shM μ) (hb : ¬ (0 ≤ a.toInt ∧ a.toInt ≤ 3 ∧ 0 ≤ c.toInt ∧ c.toInt ≤ 3) → Q (.int (-2)) μ) (hm : 0 ≤ a.toInt ∧ a.toInt ≤ 3 ∧ 0 ≤ c.toInt ∧ c.toInt ≤ 3 → (μ.1 22 a.toNatClampNeg).toInt = 0 ∨ (μ.1 22 c.toNatClampNeg).toInt = 0 → Q (.int (-11)) μ)
    (hu : 0 ≤ a.toInt ∧ a.toInt ≤ 3 ∧ 0 ≤ c.toInt ∧ c.toInt ≤ 3 → ¬ (μ.1 22 a.toNatClampNeg).toInt = 0 → ¬ (μ.1 22 c.toNatClampNeg).toInt = 0 → ¬ (μ.1 23 a.toNatClampNeg).toInt = (μ.1 23 c.toNatClampNeg).toInt → Q (.int (-13)) μ)
    (ho : 0 ≤ a.toInt ∧ a.toInt ≤ 3 ∧ 0 ≤ c.toInt ∧ c.toInt ≤ 3 → ¬ (μ.1 22 a.toNatClampNeg).toInt = 0 → ¬ (μ.1 22 c.toNatClampNeg).toInt = 0 → (μ.1 23 a.toNatClampNeg).toInt = (μ.1 23 c.toNatClampNeg).toInt → ¬ okCp μ a b c e f → Q (.int (-12)) μ)
    (hg : 0 ≤ a.toInt ∧ a.toInt ≤ 3 ∧ 0 ≤ c.toInt ∧ c.toInt ≤ 3 → ¬ (μ.1 22 a.toNatClampNeg).toInt = 0 → ¬ (μ.1 22 c.toNatClampNeg).toInt = 0 → (μ.1 23 a.toNatClampNeg).toInt = (μ.1 23 c.toNatClampNeg).toInt → okCp μ a b c e f → ∀ μ', Only [25] μ μ' → (∀ j, μ'.1 25 j = va_cpy (μ.1 25) (μ.1 25) (40 * a.toNatClampNeg + b.toNatClampNeg) (40 * c.toNatClampNeg + e.toNatClampNeg) f.toNatClampNeg j) → Q (.int f) μ') : Call (d + 3) y_M_copy [.ref 0, .int a, .int b, .int c, .int e, .int f] μ Q := by
  have key : 0 ≤ a.toInt ∧ a.toInt ≤ 3 ∧ 0 ≤ c.toInt ∧ c.toInt ≤ 3 → ¬ (μ.1 22 a.toNatClampNeg).toInt = 0 → ¬ (μ.1 22 c.toNatClampNeg).toInt = 0 → (μ.1 23 a.toNatClampNeg).toInt = (μ.1 23 c.toNatClampNeg).toInt → okCp μ a b c e f → ∀ up : Int32, (up.toInt = 0 → ¬ (a.toInt = c.toInt ∧ b.toInt < e.toInt)) → (¬ up.toInt = 0 → a.toInt = c.toInt ∧ b.toInt < e.toInt) → AA (Call (d + 2)) y_M_copy Q 67 [.ref 0, .int a, .int b, .int c, .int e, .int f, .int up, .int 0, un] [] μ := by
    intro h1 h2 h3 h4 h5 up hu0 hu1
    obtain ⟨sa, hsa, ea, ea2⟩ := nI_ex (x := a) h1.1
    obtain ⟨sc, hsc, ec, ec2⟩ := nI_ex (x := c) h1.2.2.1
    obtain ⟨p1, p2, p3, p4, p5⟩ := h5
    obtain ⟨nb, hnb, eb, eb2⟩ := nI_ex (x := b) p2
    obtain ⟨ne, hne, ee, ee2⟩ := nI_ex (x := e) p3
    obtain ⟨n, hn, ef, ef2⟩ := nI_ex (x := f) p1
    have ca : a.toNatClampNeg = sa := by rw [ea]; exact nI_c hsa
    have cc : c.toNatClampNeg = sc := by rw [ec]; exact nI_c hsc
    have cb : b.toNatClampNeg = nb := by rw [eb]; exact nI_c hnb
    have ce : e.toNatClampNeg = ne := by rw [ee]; exact nI_c hne
    have cf : f.toNatClampNeg = n := by rw [ef]; exact nI_c hn
    have s1 := hsh sa (by omega) (by rw [← ca]; exact h2)
    have s2 := hsh sc (by omega) (by rw [← cc]; exact h3)
    rw [ca] at p4
    rw [cc] at p5
    have b1 : nb + n ≤ 40 := by have := s1.2; omega
    have b2 : ne + n ≤ 40 := by have := s2.2; omega
    have fin : ∀ t : Mem, Only [25] μ t → (∀ j, t.1 25 j = va_cpy (μ.1 25) (μ.1 25) (40 * sa + nb) (40 * sc + ne) n j) → Q (.int f) t := by
      intro t q1 q2
      refine hg h1 h2 h3 h4 ⟨p1, p2, p3, by rw [ca]; exact p4, by rw [cc]; exact p5⟩ t q1 ?_
      rw [ca, cb, cc, ce, cf]
      exact q2
    by_cases hup : up.toInt = 0
    · have hno := hu0 hup
      refine loopN (G := fun i t => AA (Call (d + 2)) y_M_copy Q 67 [.ref 0, .int a, .int b, .int c, .int e, .int f, .int up, .int (nI i), un] [] t) (P := fun i t => Only [25] μ t ∧ ∀ j, t.1 25 j = va_cpy (μ.1 25) (μ.1 25) (40 * sa + nb) (40 * sc + ne) i j) (N := n) ?_ ?_ 0 μ (by omega) ⟨Only.rf, fun j => by unfold va_cpy; rw [if_neg (by omega)]⟩
      · intro t ⟨q1, q2⟩
        exact b_M_copy_67 ⟨fun _ => fin t q1 q2, fun z => absurd (le32.mpr (by rw [ef2, nI_i hn]; omega)) z⟩
      · intro i t hi ⟨q1, q2⟩ ih
        have ei := nI_i (n := i) (by omega)
        refine b_M_copy_67 ⟨fun z => absurd (le32.mp z) (by rw [ef2, ei]; omega), fun _ => ⟨fun _ => ?_, fun z => absurd (eq32.mpr (by rw [hup]; rfl)) z⟩⟩
        rw [ea, eb, ec, ee, n40', n40']
        refine ⟨nI_v (by omega) (by omega), nI_v (by omega) (by omega), fun μ1 e1 => ?_⟩
        rw [nI_c (by omega), nI_c (by omega)] at e1
        rw [nI_1, ← ea, ← eb, ← ec, ← ee]
        refine AA_weak (lv := [.ref 0, .int a, .int b, .int c, .int e, .int f, .int up, .int (nI (i + 1)), un]) ⟨Or.inl rfl, Or.inl rfl, Or.inl rfl, Or.inl rfl, Or.inl rfl, Or.inl rfl, Or.inl rfl, Or.inl rfl, Or.inr ⟨rfl, rfl⟩, trivial⟩ ?_
        refine ih _ ⟨q1.trans (by rw [e1]; exact Only.w), fun j => ?_⟩
        rw [e1, wI_s]
        have hsrc : t.1 25 (40 * sa + nb + i) = μ.1 25 (40 * sa + nb + i) := by
          rw [q2]
          unfold va_cpy
          rw [if_neg]
          intro z
          apply hno
          have : sa = sc := by omega
          exact ⟨by omega, by omega⟩
        by_cases hj : j = 40 * sc + ne + i
        · rw [hj, upd_s, hsrc]
          unfold va_cpy
          rw [if_pos (by omega)]
          exact congrArg (μ.1 25) (by omega)
        · rw [upd_n hj, q2]
          unfold va_cpy
          by_cases hj2 : 40 * sc + ne ≤ j ∧ j < 40 * sc + ne + i
          · rw [if_pos hj2, if_pos (by omega)]
          · rw [if_neg hj2, if_neg (by omega)]
    · have hyes := hu1 hup
      have hse : sa = sc := by omega
      subst hse
      refine loopN (G := fun i t => AA (Call (d + 2)) y_M_copy Q 67 [.ref 0, .int a, .int b, .int c, .int e, .int f, .int up, .int (nI i), un] [] t) (P := fun i t => Only [25] μ t ∧ ∀ j, t.1 25 j = va_cpy (μ.1 25) (μ.1 25) (40 * sa + nb + (n - i)) (40 * sa + ne + (n - i)) i j) (N := n) ?_ ?_ 0 μ (by omega) ⟨Only.rf, fun j => by unfold va_cpy; rw [if_neg (by omega)]⟩
      · intro t ⟨q1, q2⟩
        refine b_M_copy_67 ⟨fun _ => fin t q1 (fun j => by rw [q2, Nat.sub_self]; rfl), fun z => absurd (le32.mpr (by rw [ef2, nI_i hn]; omega)) z⟩
      · intro i t hi ⟨q1, q2⟩ ih
        have ei := nI_i (n := i) (by omega)
        have esub : f - 1 - nI i = nI (n - 1 - i) := by
          rw [ef, show (nI n - 1 : Int32) = nI (n - 1) from by
            obtain ⟨n', rfl⟩ : ∃ n', n = n' + 1 := ⟨n - 1, by omega⟩
            exact nI_pred n']
          exact pk_sub (by omega)
        refine b_M_copy_67 ⟨fun z => absurd (le32.mp z) (by rw [ef2, ei]; omega), fun _ => ⟨fun z => absurd (eq32.mp z) hup, fun _ => ?_⟩⟩
        rw [esub, ea, eb, ec, ee, n40', n40']
        refine ⟨nI_v (by omega) (by omega), nI_v (by omega) (by omega), fun μ1 e1 => ?_⟩
        rw [nI_c (by omega), nI_c (by omega)] at e1
        rw [nI_1]
        rw [show (nI sa : Int32) = a from ea.symm, show (nI nb : Int32) = b from eb.symm, show (nI ne : Int32) = e from ee.symm]
        refine AA_weak (lv := [.ref 0, .int a, .int b, .int a, .int e, .int f, .int up, .int (nI (i + 1)), un]) ⟨Or.inl rfl, Or.inl rfl, Or.inl rfl, Or.inl rfl, Or.inl rfl, Or.inl rfl, Or.inl rfl, Or.inl rfl, Or.inr ⟨rfl, rfl⟩, trivial⟩ ?_
        have eac : c = a := by rw [ec, ea]
        have g := ih μ1 ⟨q1.trans (by rw [e1]; exact Only.w), fun j => ?_⟩
        · rw [eac] at g
          exact g
        · rw [e1, wI_s]
          have hsrc : t.1 25 (40 * sa + nb + (n - 1 - i)) = μ.1 25 (40 * sa + nb + (n - 1 - i)) := by
            rw [q2]
            unfold va_cpy
            rw [if_neg (by omega)]
          by_cases hj : j = 40 * sa + ne + (n - 1 - i)
          · rw [hj, upd_s, hsrc]
            unfold va_cpy
            rw [if_pos (by omega)]
            exact congrArg (μ.1 25) (by omega)
          · rw [upd_n hj, q2]
            unfold va_cpy
            by_cases hj2 : 40 * sa + ne + (n - i) ≤ j ∧ j < 40 * sa + ne + (n - i) + i
            · rw [if_pos hj2, if_pos (by omega)]
              exact congrArg (μ.1 25) (by omega)
            · rw [if_neg hj2, if_neg (by omega)]
  have sz : ∀ v : Int32, 0 ≤ v.toInt → v.toInt ≤ 3 → ¬ (μ.1 22 v.toNatClampNeg).toInt = 0 → 0 ≤ f.toInt → ((μ.1 24 v.toNatClampNeg) - f).toInt = (μ.1 24 v.toNatClampNeg).toInt - f.toInt := by
    intro v q1 q2 q3 q4
    have r := hsh v.toNatClampNeg (vin_lt (vin_of q1 (by omega))) q3
    have := Int32.toInt_lt f
    exact sub32 (by have := r.1; omega) (by have := r.2; omega)
  refine b_M_copy_0 ?_
  refine M_isSheet_ok ⟨_, rfl, ?_⟩
  refine b_z (fun c1 => ?_) (fun c1 => ?_)
  · first
      | exact hb (by omega)
      | exact hm (by omega) (by omega)
      | exact hu (by omega) (by assumption) (by assumption) (by assumption)
      | exact ho (by omega) (by assumption) (by assumption) (by assumption) (by unfold okCp; omega)
      | (have z1 := sz a (by omega) (by omega) (by assumption) (by omega)
         exact ho (by omega) (by assumption) (by assumption) (by assumption) (by unfold okCp; omega))
      | (have z2 := sz c (by omega) (by omega) (by assumption) (by omega)
         exact ho (by omega) (by assumption) (by assumption) (by assumption) (by unfold okCp; omega))
  · refine M_isSheet_ok ⟨_, rfl, ?_⟩
    refine b_nz (fun c2 => ?_) (fun c2 => ?_)
    · refine ⟨by exact vin_of (by omega) (by omega), ?_⟩
      refine ⟨fun c3 => ?_, fun c3 => ?_⟩
      · have c3 : ((μ.1 22 a.toNatClampNeg)).toInt = (0 : Int) := eq32.mp c3
        first
          | exact hb (by omega)
          | exact hm (by omega) (by omega)
          | exact hu (by omega) (by assumption) (by assumption) (by assumption)
          | exact ho (by omega) (by assumption) (by assumption) (by assumption) (by unfold okCp; omega)
          | (have z1 := sz a (by omega) (by omega) (by assumption) (by omega)
             exact ho (by omega) (by assumption) (by assumption) (by assumption) (by unfold okCp; omega))
          | (have z2 := sz c (by omega) (by omega) (by assumption) (by omega)
             exact ho (by omega) (by assumption) (by assumption) (by assumption) (by unfold okCp; omega))
      · have c3 : ¬ ((μ.1 22 a.toNatClampNeg)).toInt = (0 : Int) := fun z => c3 (eq32.mpr z)
        refine ⟨by exact vin_of (by omega) (by omega), ?_⟩
        refine ⟨fun c4 => ?_, fun c4 => ?_⟩
        · have c4 : ¬ ((μ.1 22 c.toNatClampNeg)).toInt = (0 : Int) := fun z => c4 (eq32.mpr z)
          refine ⟨by exact vin_of (by omega) (by omega), ?_⟩
          refine ⟨by exact vin_of (by omega) (by omega), ?_⟩
          refine ⟨fun c5 => ?_, fun c5 => ?_⟩
          · have c5 : ((μ.1 23 a.toNatClampNeg)).toInt = ((μ.1 23 c.toNatClampNeg)).toInt := eq32.mp c5
            refine ⟨fun c6 => ?_, fun c6 => ?_⟩
            · have c6 : (f).toInt < (0 : Int) := lt32.mp c6
              first
                | exact hb (by omega)
                | exact hm (by omega) (by omega)
                | exact hu (by omega) (by assumption) (by assumption) (by assumption)
                | exact ho (by omega) (by assumption) (by assumption) (by assumption) (by unfold okCp; omega)
                | (have z1 := sz a (by omega) (by omega) (by assumption) (by omega)
                   exact ho (by omega) (by assumption) (by assumption) (by assumption) (by unfold okCp; omega))
                | (have z2 := sz c (by omega) (by omega) (by assumption) (by omega)
                   exact ho (by omega) (by assumption) (by assumption) (by assumption) (by unfold okCp; omega))
            · have c6 : ¬ (f).toInt < (0 : Int) := fun z => c6 (lt32.mpr z)
              refine ⟨fun c7 => ?_, fun c7 => ?_⟩
              · have c7 : (b).toInt < (0 : Int) := lt32.mp c7
                first
                  | exact hb (by omega)
                  | exact hm (by omega) (by omega)
                  | exact hu (by omega) (by assumption) (by assumption) (by assumption)
                  | exact ho (by omega) (by assumption) (by assumption) (by assumption) (by unfold okCp; omega)
                  | (have z1 := sz a (by omega) (by omega) (by assumption) (by omega)
                     exact ho (by omega) (by assumption) (by assumption) (by assumption) (by unfold okCp; omega))
                  | (have z2 := sz c (by omega) (by omega) (by assumption) (by omega)
                     exact ho (by omega) (by assumption) (by assumption) (by assumption) (by unfold okCp; omega))
              · have c7 : ¬ (b).toInt < (0 : Int) := fun z => c7 (lt32.mpr z)
                refine ⟨fun c8 => ?_, fun c8 => ?_⟩
                · have c8 : (e).toInt < (0 : Int) := lt32.mp c8
                  first
                    | exact hb (by omega)
                    | exact hm (by omega) (by omega)
                    | exact hu (by omega) (by assumption) (by assumption) (by assumption)
                    | exact ho (by omega) (by assumption) (by assumption) (by assumption) (by unfold okCp; omega)
                    | (have z1 := sz a (by omega) (by omega) (by assumption) (by omega)
                       exact ho (by omega) (by assumption) (by assumption) (by assumption) (by unfold okCp; omega))
                    | (have z2 := sz c (by omega) (by omega) (by assumption) (by omega)
                       exact ho (by omega) (by assumption) (by assumption) (by assumption) (by unfold okCp; omega))
                · have c8 : ¬ (e).toInt < (0 : Int) := fun z => c8 (lt32.mpr z)
                  refine ⟨by exact vin_of (by omega) (by omega), ?_⟩
                  refine ⟨fun c9 => ?_, fun c9 => ?_⟩
                  · have c9 : (((μ.1 24 a.toNatClampNeg) - f)).toInt < (b).toInt := lt32.mp c9
                    first
                      | exact hb (by omega)
                      | exact hm (by omega) (by omega)
                      | exact hu (by omega) (by assumption) (by assumption) (by assumption)
                      | exact ho (by omega) (by assumption) (by assumption) (by assumption) (by unfold okCp; omega)
                      | (have z1 := sz a (by omega) (by omega) (by assumption) (by omega)
                         exact ho (by omega) (by assumption) (by assumption) (by assumption) (by unfold okCp; omega))
                      | (have z2 := sz c (by omega) (by omega) (by assumption) (by omega)
                         exact ho (by omega) (by assumption) (by assumption) (by assumption) (by unfold okCp; omega))
                  · have c9 : ¬ (((μ.1 24 a.toNatClampNeg) - f)).toInt < (b).toInt := fun z => c9 (lt32.mpr z)
                    refine ⟨by exact vin_of (by omega) (by omega), ?_⟩
                    refine ⟨fun c10 => ?_, fun c10 => ?_⟩
                    · have c10 : (e).toInt ≤ (((μ.1 24 c.toNatClampNeg) - f)).toInt := le32.mp c10
                      refine ⟨fun c11 => ?_, fun c11 => ?_⟩
                      · have c11 : ¬ (a).toInt = (c).toInt := fun z => c11 (eq32.mpr z)
                        have zz0 : (0 : Int32).toInt = 0 := rfl
                        have zz1 : (1 : Int32).toInt = 1 := rfl
                        have z1 := sz a (by omega) (by omega) (by assumption) (by omega)
                        have z2 := sz c (by omega) (by omega) (by assumption) (by omega)
                        exact key (by omega) (by assumption) (by assumption) (by assumption) ⟨by omega, by omega, by omega, by omega, by omega⟩ _ (by omega) (by omega)
                      · have c11 : (a).toInt = (c).toInt := eq32.mp c11
                        refine ⟨fun c12 => ?_, fun c12 => ?_⟩
                        · have c12 : (e).toInt ≤ (b).toInt := le32.mp c12
                          have zz0 : (0 : Int32).toInt = 0 := rfl
                          have zz1 : (1 : Int32).toInt = 1 := rfl
                          have z1 := sz a (by omega) (by omega) (by assumption) (by omega)
                          have z2 := sz c (by omega) (by omega) (by assumption) (by omega)
                          exact key (by omega) (by assumption) (by assumption) (by assumption) ⟨by omega, by omega, by omega, by omega, by omega⟩ _ (by omega) (by omega)
                        · have c12 : ¬ (e).toInt ≤ (b).toInt := fun z => c12 (le32.mpr z)
                          have zz0 : (0 : Int32).toInt = 0 := rfl
                          have zz1 : (1 : Int32).toInt = 1 := rfl
                          have z1 := sz a (by omega) (by omega) (by assumption) (by omega)
                          have z2 := sz c (by omega) (by omega) (by assumption) (by omega)
                          exact key (by omega) (by assumption) (by assumption) (by assumption) ⟨by omega, by omega, by omega, by omega, by omega⟩ _ (by omega) (by omega)
                    · have c10 : ¬ (e).toInt ≤ (((μ.1 24 c.toNatClampNeg) - f)).toInt := fun z => c10 (le32.mpr z)
                      first
                        | exact hb (by omega)
                        | exact hm (by omega) (by omega)
                        | exact hu (by omega) (by assumption) (by assumption) (by assumption)
                        | exact ho (by omega) (by assumption) (by assumption) (by assumption) (by unfold okCp; omega)
                        | (have z1 := sz a (by omega) (by omega) (by assumption) (by omega)
                           exact ho (by omega) (by assumption) (by assumption) (by assumption) (by unfold okCp; omega))
                        | (have z2 := sz c (by omega) (by omega) (by assumption) (by omega)
                           exact ho (by omega) (by assumption) (by assumption) (by assumption) (by unfold okCp; omega))
          · have c5 : ¬ ((μ.1 23 a.toNatClampNeg)).toInt = ((μ.1 23 c.toNatClampNeg)).toInt := fun z => c5 (eq32.mpr z)
            first
              | exact hb (by omega)
              | exact hm (by omega) (by omega)
              | exact hu (by omega) (by assumption) (by assumption) (by assumption)
              | exact ho (by omega) (by assumption) (by assumption) (by assumption) (by unfold okCp; omega)
              | (have z1 := sz a (by omega) (by omega) (by assumption) (by omega)
                 exact ho (by omega) (by assumption) (by assumption) (by assumption) (by unfold okCp; omega))
              | (have z2 := sz c (by omega) (by omega) (by assumption) (by omega)
                 exact ho (by omega) (by assumption) (by assumption) (by assumption) (by unfold okCp; omega))
        · have c4 : ((μ.1 22 c.toNatClampNeg)).toInt = (0 : Int) := eq32.mp c4
          first
            | exact hb (by omega)
            | exact hm (by omega) (by omega)
            | exact hu (by omega) (by assumption) (by assumption) (by assumption)
            | exact ho (by omega) (by assumption) (by assumption) (by assumption) (by unfold okCp; omega)
            | (have z1 := sz a (by omega) (by omega) (by assumption) (by omega)
               exact ho (by omega) (by assumption) (by assumption) (by assumption) (by unfold okCp; omega))
            | (have z2 := sz c (by omega) (by omega) (by assumption) (by omega)
               exact ho (by omega) (by assumption) (by assumption) (by assumption) (by unfold okCp; omega))
    · first
        | exact hb (by omega)
        | exact hm (by omega) (by omega)
        | exact hu (by omega) (by assumption) (by assumption) (by assumption)
        | exact ho (by omega) (by assumption) (by assumption) (by assumption) (by unfold okCp; omega)
        | (have z1 := sz a (by omega) (by omega) (by assumption) (by omega)
           exact ho (by omega) (by assumption) (by assumption) (by assumption) (by unfold okCp; omega))
        | (have z2 := sz c (by omega) (by omega) (by assumption) (by omega)
           exact ho (by omega) (by assumption) (by assumption) (by assumption) (by unfold okCp; omega))
/-- one row of three after the other -/
theorem M_writers_ok {d : Nat} {Q : QQ} {μ : Mem} {a b c e : Int32} (hsh : shM μ) (J : Nat → Int32 → Mem → Prop) (hcnt : ∀ k v t, J k v t → rng (t.1 0 14) 0 5 ∧ t.1 22 = μ.1 22 ∧ t.1 23 = μ.1 23 ∧ t.1 24 = μ.1 24 ∧ t.1 25 = μ.1 25)
    (hJ0 : J 0 0 μ) (hb : ¬ (0 ≤ a.toInt ∧ a.toInt ≤ 3 ∧ 0 ≤ b.toInt ∧ b.toInt ≤ 2 ∧ 0 ≤ e.toInt ∧ e.toInt ≤ 5) → Q (.int (-2)) μ)
    (hm : 0 ≤ a.toInt ∧ a.toInt ≤ 3 ∧ 0 ≤ b.toInt ∧ b.toInt ≤ 2 ∧ 0 ≤ e.toInt ∧ e.toInt ≤ 5 → (μ.1 22 a.toNatClampNeg).toInt = 0 → Q (.int (-11)) μ)
    (hu : 0 ≤ a.toInt ∧ a.toInt ≤ 3 ∧ 0 ≤ b.toInt ∧ b.toInt ≤ 2 ∧ 0 ≤ e.toInt ∧ e.toInt ≤ 5 → ¬ (μ.1 22 a.toNatClampNeg).toInt = 0 → ¬ (μ.1 23 a.toNatClampNeg).toInt = b.toInt → Q (.int (-13)) μ)
    (hx : 0 ≤ a.toInt ∧ a.toInt ≤ 3 ∧ 0 ≤ b.toInt ∧ b.toInt ≤ 2 ∧ 0 ≤ e.toInt ∧ e.toInt ≤ 5 → ¬ (μ.1 22 a.toNatClampNeg).toInt = 0 → (μ.1 23 a.toNatClampNeg).toInt = b.toInt → ∀ v t, J e.toNatClampNeg v t → Q (.int v) t)
    (ho : 0 ≤ a.toInt ∧ a.toInt ≤ 3 ∧ 0 ≤ b.toInt ∧ b.toInt ≤ 2 ∧ 0 ≤ e.toInt ∧ e.toInt ≤ 5 → ¬ (μ.1 22 a.toNatClampNeg).toInt = 0 → (μ.1 23 a.toNatClampNeg).toInt = b.toInt → ∀ k v t, k < e.toNatClampNeg → J k v t → ¬ (0 ≤ c.toInt ∧ c.toInt + 3 * k + 3 ≤ (μ.1 24 a.toNatClampNeg).toInt) → Q (.int (-12)) t)
    (hs : 0 ≤ a.toInt ∧ a.toInt ≤ 3 ∧ 0 ≤ b.toInt ∧ b.toInt ≤ 2 ∧ 0 ≤ e.toInt ∧ e.toInt ≤ 5 → ¬ (μ.1 22 a.toNatClampNeg).toInt = 0 → (μ.1 23 a.toNatClampNeg).toInt = b.toInt → ∀ k v t, k < e.toNatClampNeg → J k v t → 0 ≤ c.toInt ∧ c.toInt + 3 * k + 3 ≤ (μ.1 24 a.toNatClampNeg).toInt →
      (let p := 40 * a.toNatClampNeg + c.toNatClampNeg + 3 * k
       (¬ (okWr (μ.1 25 p) (μ.1 25 (p + 1)) (μ.1 25 (p + 2)) ∧ (t.1 0 14).toInt < 5) → J (k + 1) v t) ∧
       (okWr (μ.1 25 p) (μ.1 25 (p + 1)) (μ.1 25 (p + 2)) → (t.1 0 14).toInt < 5 → ∀ t', Only [0, 7, 8, 9] t t' → t'.1 7 = upd (t.1 7) (t.1 0 14).toNatClampNeg (μ.1 25 p) → t'.1 8 = upd (t.1 8) (t.1 0 14).toNatClampNeg (μ.1 25 (p + 1)) → t'.1 9 = upd (t.1 9) (t.1 0 14).toNatClampNeg (μ.1 25 (p + 2)) → t'.1 0 = upd (t.1 0) 14 (t.1 0 14 + 1) → J (k + 1) (v + 1) t'))) : Call (d + 3) y_M_writers [.ref 0, .int a, .int b, .int c, .int e] μ Q := by
  have key : 0 ≤ a.toInt ∧ a.toInt ≤ 3 ∧ 0 ≤ b.toInt ∧ b.toInt ≤ 2 ∧ 0 ≤ e.toInt ∧ e.toInt ≤ 5 → ¬ (μ.1 22 a.toNatClampNeg).toInt = 0 → (μ.1 23 a.toNatClampNeg).toInt = b.toInt → AA (Call (d + 2)) y_M_writers Q 41 [.ref 0, .int a, .int b, .int c, .int e, .int 0, .int 0, un] [] μ := by
    intro h1 h2 h3
    obtain ⟨sa, hsa, ea, ea2⟩ := nI_ex (x := a) h1.1
    obtain ⟨n, hn, en, en2⟩ := nI_ex (x := e) h1.2.2.2.2.1
    have ca : a.toNatClampNeg = sa := by rw [ea]; exact nI_c hsa
    have cn : e.toNatClampNeg = n := by rw [en]; exact nI_c hn
    have s1 := hsh sa (by omega) (by rw [← ca]; exact h2)
    obtain ⟨s2, s3⟩ := s1
    have g := loopN (G := fun i t => AA (Call (d + 2)) y_M_writers Q 41 [.ref 0, .int a, .int b, .int c, .int e, .int t.1, .int (nI i), un] [] t.2) (P := fun i t => J i t.1 t.2) (N := n) ?_ ?_ 0 ((0 : Int32), μ) (by omega) hJ0
    · exact g
    · intro t q1
      exact b_M_writers_41 ⟨fun _ => hx h1 h2 h3 _ _ (by rw [cn]; exact q1), fun z => absurd (le32.mpr (by rw [en2, nI_i hn]; omega)) z⟩
    · intro i ⟨v, t⟩ hi q1 ih
      dsimp only at q1 ih ⊢
      obtain ⟨j1, j2, j3, j4, j5⟩ := hcnt _ _ _ q1
      have ei := nI_i (n := i) (by omega)
      have e3 : (3 : Int32) * nI i = nI (3 * i) := pk_mul 3 i
      have e4 : (t.1 24 a.toNatClampNeg - (3 * nI i) - 3).toInt = (μ.1 24 sa).toInt - 3 * i - 3 := by
        rw [j4, ca, e3]
        have k1 : (μ.1 24 sa - nI (3 * i)).toInt = (μ.1 24 sa).toInt - 3 * i := by
          rw [sub32 (by rw [nI_i (by omega)]; omega) (by rw [nI_i (by omega)]; omega), nI_i (by omega)]
          omega
        rw [sub32 (by rw [k1]; show _ ≤ _ - (3 : Int); omega) (by rw [k1]; show _ - (3 : Int) < _; omega), k1]
        rfl
      have bad : ¬ (0 ≤ c.toInt ∧ c.toInt + 3 * i + 3 ≤ (μ.1 24 sa).toInt) → Q (.int (-12)) t := fun z => ho h1 h2 h3 i v t (by rw [cn]; exact hi) q1 (by rw [ca]; exact z)
      refine b_M_writers_41 ⟨fun z => absurd (le32.mp z) (by rw [en2, ei]; omega), fun _ => ⟨fun z => bad (by have z : c.toInt < 0 := lt32.mp z; omega), fun z0 => ⟨vin_of (by omega) (by omega), fun z => ?_, fun z => bad (fun w => z (le32.mpr (by rw [e4]; omega)))⟩⟩⟩
      have z0 : ¬ c.toInt < 0 := fun w => z0 (lt32.mpr w)
      have z : c.toInt ≤ (μ.1 24 sa).toInt - 3 * i - 3 := by rw [← e4]; exact le32.mp z
      obtain ⟨nc, hnc, ec, ec2⟩ := nI_ex (x := c) (by omega)
      have cc : c.toNatClampNeg = nc := by rw [ec]; exact nI_c hnc
      have ep : (40 : Int32) * a + c + 3 * nI i = nI (40 * sa + nc + 3 * i) := by rw [e3, ea, ec, n40']
      have ep1 : nI (40 * sa + nc + 3 * i) + 1 = nI (40 * sa + nc + 3 * i + 1) := nI_1 _
      have ep2 : nI (40 * sa + nc + 3 * i) + 2 = nI (40 * sa + nc + 3 * i + 2) := nI_add _ 2
      rw [ep, ep1, ep2, nI_c (by omega), nI_c (by omega), nI_c (by omega), j5]
      refine ⟨nI_v (by omega) (by omega), nI_v (by omega) (by omega), nI_v (by omega) (by omega), ?_⟩
      have hh := hs h1 h2 h3 i v t (by rw [cn]; exact hi) q1 (by rw [ca]; omega)
      dsimp only at hh
      rw [ca, cc] at hh
      obtain ⟨hh1, hh2⟩ := hh
      have nxt : ∀ v' t', J (i + 1) v' t' → AA (Call (d + 2)) y_M_writers Q 41 [.ref 0, .int a, .int b, .int c, .int e, .int v', .int (nI i + 1), .int (nI (40 * sa + nc + 3 * i))] [] t' := by
        intro v' t' hj
        rw [nI_1]
        exact AA_weak (lv := [.ref 0, .int a, .int b, .int c, .int e, .int v', .int (nI (i + 1)), un]) ⟨Or.inl rfl, Or.inl rfl, Or.inl rfl, Or.inl rfl, Or.inl rfl, Or.inl rfl, Or.inl rfl, Or.inr ⟨rfl, rfl⟩, trivial⟩ (ih (v', t') hj)
      refine M_writer_ok j1 (fun w => ⟨_, rfl, fun _ => ?_, fun y => absurd (by decide) y⟩) (fun w w2 => ⟨_, rfl, fun _ => ?_, fun y => absurd (by decide) y⟩) (fun w w2 t' o1 o2 o3 o4 o5 => ⟨_, rfl, fun y => absurd (lt32.mp y) (by have := j1.1; show ¬ _ < (0 : Int); omega), fun _ => ?_⟩)
      · rw [Int32.add_zero]
        exact nxt _ _ (hh1 (fun y => w y.1))
      · rw [Int32.add_zero]
        exact nxt _ _ (hh1 (fun y => by omega))
      · exact nxt _ _ (hh2 w w2 t' o1 o2 o3 o4 o5)
  refine b_M_writers_0 ?_
  refine M_isSheet_ok ⟨_, rfl, ?_⟩
  refine b_z (fun c1 => ?_) (fun c1 => ?_)
  · first
      | exact hb (by omega)
      | exact hm (by omega) (by assumption)
      | exact hu (by omega) (by assumption) (by assumption)
      | (exfalso; contradiction)
  · refine M_in_ok (A := (b).toInt) (B := (0 : Int)) (C := (2 : Int)) (lI _) rfl rfl ⟨_, rfl, ?_⟩
    refine b_z (fun c2 => ?_) (fun c2 => ?_)
    · first
        | exact hb (by omega)
        | exact hm (by omega) (by assumption)
        | exact hu (by omega) (by assumption) (by assumption)
        | (exfalso; contradiction)
    · refine M_in_ok (A := (e).toInt) (B := (0 : Int)) (C := (5 : Int)) (lI _) rfl rfl ⟨_, rfl, ?_⟩
      refine b_nz (fun c3 => ?_) (fun c3 => ?_)
      · refine ⟨by exact vin_of (by omega) (by omega), ?_⟩
        refine ⟨fun c4 => ?_, fun c4 => ?_⟩
        · have c4 : ((μ.1 22 a.toNatClampNeg)).toInt = (0 : Int) := eq32.mp c4
          refine ⟨by exact vin_of (by omega) (by omega), ?_⟩
          refine ⟨fun c5 => ?_, fun c5 => ?_⟩
          · have c5 : ¬ ((μ.1 22 a.toNatClampNeg)).toInt = (0 : Int) := fun z => c5 (eq32.mpr z)
            first | (exfalso; contradiction) | exact key (by omega) (by assumption) (by assumption)
          · have c5 : ((μ.1 22 a.toNatClampNeg)).toInt = (0 : Int) := eq32.mp c5
            first
              | exact hb (by omega)
              | exact hm (by omega) (by assumption)
              | exact hu (by omega) (by assumption) (by assumption)
              | (exfalso; contradiction)
        · have c4 : ¬ ((μ.1 22 a.toNatClampNeg)).toInt = (0 : Int) := fun z => c4 (eq32.mpr z)
          refine ⟨by exact vin_of (by omega) (by omega), ?_⟩
          refine ⟨fun c6 => ?_, fun c6 => ?_⟩
          · have c6 : ((μ.1 23 a.toNatClampNeg)).toInt = (b).toInt := eq32.mp c6
            refine ⟨by exact vin_of (by omega) (by omega), ?_⟩
            refine ⟨fun c7 => ?_, fun c7 => ?_⟩
            · have c7 : ¬ ((μ.1 22 a.toNatClampNeg)).toInt = (0 : Int) := fun z => c7 (eq32.mpr z)
              first | (exfalso; contradiction) | exact key (by omega) (by assumption) (by assumption)
            · have c7 : ((μ.1 22 a.toNatClampNeg)).toInt = (0 : Int) := eq32.mp c7
              first
                | exact hb (by omega)
                | exact hm (by omega) (by assumption)
                | exact hu (by omega) (by assumption) (by assumption)
                | (exfalso; contradiction)
          · have c6 : ¬ ((μ.1 23 a.toNatClampNeg)).toInt = (b).toInt := fun z => c6 (eq32.mpr z)
            first
              | exact hb (by omega)
              | exact hm (by omega) (by assumption)
              | exact hu (by omega) (by assumption) (by assumption)
              | (exfalso; contradiction)
      · first
          | exact hb (by omega)
          | exact hm (by omega) (by assumption)
          | exact hu (by omega) (by assumption) (by assumption)
          | (exfalso; contradiction)
