/-! ===== the reference: prices, ages, rows ===== -/
def steepF (u n : Int32) : Int32 := u + n + u * (n + 1)
def priceF (k n u h : Int32) : Int32 := if k.toInt = 0 then u + n else if k.toInt = 2 then (u + n) / 2 else if k.toInt = 4 then (if 6 ≤ h.toInt then (u + n) / 2 else 0) else if k.toInt = 3 then steepF (u - (u - u / 3 * 3)) n else if k.toInt = 5 ∧ u.toInt = 0 then steepF u n + 5 else steepF u n
def ageF (k n u : Int32) : Int32 := if k.toInt = 2 ∨ k.toInt = 4 then (if 0 ≤ (u - n).toInt then u - n else 0) else if k.toInt = 3 then (if 0 ≤ (u - 1).toInt then u - 1 else 0) else if k.toInt = 5 ∧ ¬ n.toInt ≤ u.toInt then 0 else (if 0 ≤ u.toInt then u else 0)
theorem M_steep_ok {d : Nat} {Q : QQ} {μ : Mem} {a b : Int32} (hQ : Q (.int (steepF a b)) μ) : Call (d + 1) y_M_steep [.int a, .int b] μ Q := by
  refine b_M_steep_0 ?_
  exact hQ
/-- kind and number of THE LAW -/
def mK (μ : Mem) : Int32 := μ.1 10 (μ.1 0 18).toNatClampNeg
def mN (μ : Mem) : Int32 := μ.1 11 (μ.1 0 18).toNatClampNeg
theorem M_costBy_ok {d : Nat} {Q : QQ} {μ : Mem} {a b : Int32} (hl : vp_in (μ.1 0 18) 6) (hQ : Q (.int (priceF (mK μ) (mN μ) a b)) μ) : Call (d + 2) y_M_costBy [.ref 0, .int a, .int b] μ Q := by
  refine b_M_costBy_0 ?_
  refine ⟨by exact hl, ?_⟩
  refine ⟨by exact hl, ?_⟩
  refine ⟨fun c1 => ?_, fun c1 => ?_⟩
  · have c1 : ¬ ((μ.1 10 (Int32.toNatClampNeg (μ.1 0 18)))).toInt = (0 : Int) := fun z => c1 (eq32.mpr z)
    refine ⟨fun c2 => ?_, fun c2 => ?_⟩
    · have c2 : ((μ.1 10 (Int32.toNatClampNeg (μ.1 0 18)))).toInt = (2 : Int) := eq32.mp c2
      refine ⟨fun c3 => ?_, fun c3 => ?_⟩
      · have c3 : ¬ ((μ.1 10 (Int32.toNatClampNeg (μ.1 0 18)))).toInt = (4 : Int) := fun z => c3 (eq32.mpr z)
        refine ⟨by decide, ?_⟩
        (unfold priceF mK mN at hQ; repeat' split at hQ) <;> first | exact hQ | omega | (rw [Int32.add_zero]; exact hQ)
      · have c3 : ((μ.1 10 (Int32.toNatClampNeg (μ.1 0 18)))).toInt = (4 : Int) := eq32.mp c3
        refine ⟨fun c4 => ?_, fun c4 => ?_⟩
        · have c4 : (6 : Int) ≤ (b).toInt := le32.mp c4
          refine ⟨by decide, ?_⟩
          (unfold priceF mK mN at hQ; repeat' split at hQ) <;> first | exact hQ | omega | (rw [Int32.add_zero]; exact hQ)
        · have c4 : ¬ (6 : Int) ≤ (b).toInt := fun z => c4 (le32.mpr z)
          (unfold priceF mK mN at hQ; repeat' split at hQ) <;> first | exact hQ | omega | (rw [Int32.add_zero]; exact hQ)
    · have c2 : ¬ ((μ.1 10 (Int32.toNatClampNeg (μ.1 0 18)))).toInt = (2 : Int) := fun z => c2 (eq32.mpr z)
      refine ⟨fun c5 => ?_, fun c5 => ?_⟩
      · have c5 : ¬ ((μ.1 10 (Int32.toNatClampNeg (μ.1 0 18)))).toInt = (4 : Int) := fun z => c5 (eq32.mpr z)
        refine ⟨fun c6 => ?_, fun c6 => ?_⟩
        · have c6 : ¬ ((μ.1 10 (Int32.toNatClampNeg (μ.1 0 18)))).toInt = (3 : Int) := fun z => c6 (eq32.mpr z)
          refine M_steep_ok ⟨_, rfl, ?_⟩
          refine ⟨fun c7 => ?_, fun c7 => ?_⟩
          · have c7 : ¬ ((μ.1 10 (Int32.toNatClampNeg (μ.1 0 18)))).toInt = (5 : Int) := fun z => c7 (eq32.mpr z)
            (unfold priceF mK mN at hQ; repeat' split at hQ) <;> first | exact hQ | omega | (rw [Int32.add_zero]; exact hQ)
          · have c7 : ((μ.1 10 (Int32.toNatClampNeg (μ.1 0 18)))).toInt = (5 : Int) := eq32.mp c7
            refine ⟨fun c8 => ?_, fun c8 => ?_⟩
            · have c8 : ¬ (a).toInt = (0 : Int) := fun z => c8 (eq32.mpr z)
              (unfold priceF mK mN at hQ; repeat' split at hQ) <;> first | exact hQ | omega | (rw [Int32.add_zero]; exact hQ)
            · have c8 : (a).toInt = (0 : Int) := eq32.mp c8
              (unfold priceF mK mN at hQ; repeat' split at hQ) <;> first | exact hQ | omega | (rw [Int32.add_zero]; exact hQ)
        · have c6 : ((μ.1 10 (Int32.toNatClampNeg (μ.1 0 18)))).toInt = (3 : Int) := eq32.mp c6
          refine ⟨by decide, ?_⟩
          refine M_steep_ok ⟨_, rfl, ?_⟩
          (unfold priceF mK mN at hQ; repeat' split at hQ) <;> first | exact hQ | omega | (rw [Int32.add_zero]; exact hQ)
      · have c5 : ((μ.1 10 (Int32.toNatClampNeg (μ.1 0 18)))).toInt = (4 : Int) := eq32.mp c5
        refine ⟨fun c9 => ?_, fun c9 => ?_⟩
        · have c9 : ¬ ((μ.1 10 (Int32.toNatClampNeg (μ.1 0 18)))).toInt = (4 : Int) := fun z => c9 (eq32.mpr z)
          refine ⟨by decide, ?_⟩
          (unfold priceF mK mN at hQ; repeat' split at hQ) <;> first | exact hQ | omega | (rw [Int32.add_zero]; exact hQ)
        · have c9 : ((μ.1 10 (Int32.toNatClampNeg (μ.1 0 18)))).toInt = (4 : Int) := eq32.mp c9
          refine ⟨fun c10 => ?_, fun c10 => ?_⟩
          · have c10 : (6 : Int) ≤ (b).toInt := le32.mp c10
            refine ⟨by decide, ?_⟩
            (unfold priceF mK mN at hQ; repeat' split at hQ) <;> first | exact hQ | omega | (rw [Int32.add_zero]; exact hQ)
          · have c10 : ¬ (6 : Int) ≤ (b).toInt := fun z => c10 (le32.mpr z)
            (unfold priceF mK mN at hQ; repeat' split at hQ) <;> first | exact hQ | omega | (rw [Int32.add_zero]; exact hQ)
  · have c1 : ((μ.1 10 (Int32.toNatClampNeg (μ.1 0 18)))).toInt = (0 : Int) := eq32.mp c1
    (unfold priceF mK mN at hQ; repeat' split at hQ) <;> first | exact hQ | omega | (rw [Int32.add_zero]; exact hQ)
theorem M_agedBy_ok {d : Nat} {Q : QQ} {μ : Mem} {a : Int32} (hl : vp_in (μ.1 0 18) 6) (hQ : Q (.int (ageF (mK μ) (mN μ) a)) μ) : Call (d + 2) y_M_agedBy [.ref 0, .int a] μ Q := by
  refine b_M_agedBy_0 ?_
  refine ⟨by exact hl, ?_⟩
  refine ⟨by exact hl, ?_⟩
  refine ⟨fun c1 => ?_, fun c1 => ?_⟩
  · have c1 : ((μ.1 10 (Int32.toNatClampNeg (μ.1 0 18)))).toInt = (2 : Int) := eq32.mp c1
    refine ⟨fun c2 => ?_, fun c2 => ?_⟩
    · have c2 : (0 : Int) ≤ ((a - (μ.1 11 (Int32.toNatClampNeg (μ.1 0 18))))).toInt := le32.mp c2
      (unfold ageF mK mN at hQ; repeat' split at hQ) <;> first | exact hQ | omega
    · have c2 : ¬ (0 : Int) ≤ ((a - (μ.1 11 (Int32.toNatClampNeg (μ.1 0 18))))).toInt := fun z => c2 (le32.mpr z)
      (unfold ageF mK mN at hQ; repeat' split at hQ) <;> first | exact hQ | omega
  · have c1 : ¬ ((μ.1 10 (Int32.toNatClampNeg (μ.1 0 18)))).toInt = (2 : Int) := fun z => c1 (eq32.mpr z)
    refine ⟨fun c3 => ?_, fun c3 => ?_⟩
    · have c3 : ¬ ((μ.1 10 (Int32.toNatClampNeg (μ.1 0 18)))).toInt = (4 : Int) := fun z => c3 (eq32.mpr z)
      refine ⟨fun c4 => ?_, fun c4 => ?_⟩
      · have c4 : ¬ ((μ.1 10 (Int32.toNatClampNeg (μ.1 0 18)))).toInt = (3 : Int) := fun z => c4 (eq32.mpr z)
        refine ⟨fun c5 => ?_, fun c5 => ?_⟩
        · have c5 : ¬ ((μ.1 10 (Int32.toNatClampNeg (μ.1 0 18)))).toInt = (5 : Int) := fun z => c5 (eq32.mpr z)
          refine ⟨fun c6 => ?_, fun c6 => ?_⟩
          · have c6 : (0 : Int) ≤ (a).toInt := le32.mp c6
            (unfold ageF mK mN at hQ; repeat' split at hQ) <;> first | exact hQ | omega
          · have c6 : ¬ (0 : Int) ≤ (a).toInt := fun z => c6 (le32.mpr z)
            (unfold ageF mK mN at hQ; repeat' split at hQ) <;> first | exact hQ | omega
        · have c5 : ((μ.1 10 (Int32.toNatClampNeg (μ.1 0 18)))).toInt = (5 : Int) := eq32.mp c5
          refine ⟨fun c7 => ?_, fun c7 => ?_⟩
          · have c7 : ((μ.1 11 (Int32.toNatClampNeg (μ.1 0 18)))).toInt ≤ (a).toInt := le32.mp c7
            refine ⟨fun c8 => ?_, fun c8 => ?_⟩
            · have c8 : (0 : Int) ≤ (a).toInt := le32.mp c8
              (unfold ageF mK mN at hQ; repeat' split at hQ) <;> first | exact hQ | omega
            · have c8 : ¬ (0 : Int) ≤ (a).toInt := fun z => c8 (le32.mpr z)
              (unfold ageF mK mN at hQ; repeat' split at hQ) <;> first | exact hQ | omega
          · have c7 : ¬ ((μ.1 11 (Int32.toNatClampNeg (μ.1 0 18)))).toInt ≤ (a).toInt := fun z => c7 (le32.mpr z)
            refine ⟨fun c9 => ?_, fun c9 => ?_⟩
            · have c9 : (0 : Int) ≤ (0 : Int) := le32.mp c9
              (unfold ageF mK mN at hQ; repeat' split at hQ) <;> first | exact hQ | omega
            · have c9 : ¬ (0 : Int) ≤ (0 : Int) := fun z => c9 (le32.mpr z)
              (unfold ageF mK mN at hQ; repeat' split at hQ) <;> first | exact hQ | omega
      · have c4 : ((μ.1 10 (Int32.toNatClampNeg (μ.1 0 18)))).toInt = (3 : Int) := eq32.mp c4
        refine ⟨fun c10 => ?_, fun c10 => ?_⟩
        · have c10 : (0 : Int) ≤ ((a - 1)).toInt := le32.mp c10
          (unfold ageF mK mN at hQ; repeat' split at hQ) <;> first | exact hQ | omega
        · have c10 : ¬ (0 : Int) ≤ ((a - 1)).toInt := fun z => c10 (le32.mpr z)
          (unfold ageF mK mN at hQ; repeat' split at hQ) <;> first | exact hQ | omega
    · have c3 : ((μ.1 10 (Int32.toNatClampNeg (μ.1 0 18)))).toInt = (4 : Int) := eq32.mp c3
      refine ⟨fun c11 => ?_, fun c11 => ?_⟩
      · have c11 : (0 : Int) ≤ ((a - (μ.1 11 (Int32.toNatClampNeg (μ.1 0 18))))).toInt := le32.mp c11
        (unfold ageF mK mN at hQ; repeat' split at hQ) <;> first | exact hQ | omega
      · have c11 : ¬ (0 : Int) ≤ ((a - (μ.1 11 (Int32.toNatClampNeg (μ.1 0 18))))).toInt := fun z => c11 (le32.mpr z)
        (unfold ageF mK mN at hQ; repeat' split at hQ) <;> first | exact hQ | omega
theorem M_takes_ok {d : Nat} {Q : QQ} {μ : Mem} (hQ : ∀ μ', Only [14] μ μ' → (∀ j, j < 8 → μ'.1 14 j = μ.1 4 j) → Q .null μ') : Call (d + 1) y_M_takes [.ref 0] μ Q := by
  refine b_M_takes_0 ?_
  refine loopN (G := fun i s => AA (Call d) y_M_takes Q 2 [.ref 0, .int (nI i)] [] s) (P := fun i s => Only [14] μ s ∧ ∀ j, j < i → s.1 14 j = μ.1 4 j) (N := 8) ?_ ?_ 0 μ (by omega) ⟨Only.rf, fun j hj => absurd hj (by omega)⟩
  · intro s ⟨h1, h2⟩
    exact b_M_takes_2 ⟨fun _ => hQ s h1 h2, fun c => absurd (by decide) c⟩
  · intro i s hi ⟨h1, h2⟩ ih
    have e := nI_i (n := i) (by omega)
    refine b_M_takes_2 ⟨fun c => absurd (le32.mp c) (by rw [e]; show ¬ (8 : Int) ≤ _; omega), fun _ => ⟨nI_v hi (by omega), nI_v hi (by omega), fun μ1 e1 => ?_⟩⟩
    rw [nI_1]
    subst e1
    refine ih _ ⟨h1.trans Only.w, fun j hj => ?_⟩
    rw [wI_s, nI_c (by omega), h1.i 4]
    by_cases q : j = i
    · rw [q, upd_s]
    · rw [upd_n q]
      exact h2 j (by omega)
theorem M_keeps_ok {d : Nat} {Q : QQ} {μ : Mem} (hQ : ∀ μ', Only [4] μ μ' → (∀ j, j < 8 → μ'.1 4 j = μ.1 14 j) → Q .null μ') : Call (d + 1) y_M_keeps [.ref 0] μ Q := by
  refine b_M_keeps_0 ?_
  refine loopN (G := fun i s => AA (Call d) y_M_keeps Q 2 [.ref 0, .int (nI i)] [] s) (P := fun i s => Only [4] μ s ∧ ∀ j, j < i → s.1 4 j = μ.1 14 j) (N := 8) ?_ ?_ 0 μ (by omega) ⟨Only.rf, fun j hj => absurd hj (by omega)⟩
  · intro s ⟨h1, h2⟩
    exact b_M_keeps_2 ⟨fun _ => hQ s h1 h2, fun c => absurd (by decide) c⟩
  · intro i s hi ⟨h1, h2⟩ ih
    have e := nI_i (n := i) (by omega)
    refine b_M_keeps_2 ⟨fun c => absurd (le32.mp c) (by rw [e]; show ¬ (8 : Int) ≤ _; omega), fun _ => ⟨nI_v hi (by omega), nI_v hi (by omega), fun μ1 e1 => ?_⟩⟩
    rw [nI_1]
    subst e1
    refine ih _ ⟨h1.trans Only.w, fun j hj => ?_⟩
    rw [wI_s, nI_c (by omega), h1.i 14]
    by_cases q : j = i
    · rw [q, upd_s]
    · rw [upd_n q]
      exact h2 j (by omega)
def sum8 (f : Nat → Int32) : Nat → Int32
  | 0 => 0
  | n + 1 => sum8 f n + f n
theorem M_rowSum_ok {d : Nat} {Q : QQ} {μ : Mem} (hQ : Q (.int (sum8 (μ.1 14) 8)) μ) : Call (d + 1) y_M_rowSum [.ref 0] μ Q := by
  refine b_M_rowSum_0 ?_
  refine loopN (G := fun i s => AA (Call d) y_M_rowSum Q 4 [.ref 0, .int s, .int (nI i)] [] μ) (P := fun i s => s = sum8 (μ.1 14) i) (N := 8) ?_ ?_ 0 0 (by omega) rfl
  · intro s h
    subst h
    exact b_M_rowSum_4 ⟨fun _ => hQ, fun c => absurd (by decide) c⟩
  · intro i s hi h ih
    have e := nI_i (n := i) (by omega)
    refine b_M_rowSum_4 ⟨fun c => absurd (le32.mp c) (by rw [e]; show ¬ (8 : Int) ≤ _; omega), fun _ => ⟨nI_v hi (by omega), ?_⟩⟩
    rw [nI_1, nI_c (by omega)]
    exact ih _ (by rw [h]; rfl)
theorem M_ages_ok {d : Nat} {Q : QQ} {μ : Mem} (hl : vp_in (μ.1 0 18) 6) (hQ : ∀ μ', Only [14] μ μ' → (∀ j, j < 8 → μ'.1 14 j = ageF (mK μ) (mN μ) (μ.1 14 j)) → Q .null μ') : Call (d + 3) y_M_ages [.ref 0] μ Q := by
  refine b_M_ages_0 ?_
  refine loopN (G := fun i s => AA (Call (d + 2)) y_M_ages Q 2 [.ref 0, .int (nI i)] [] s) (P := fun i s => Only [14] μ s ∧ (∀ j, j < i → s.1 14 j = ageF (mK μ) (mN μ) (μ.1 14 j)) ∧ ∀ j, i ≤ j → s.1 14 j = μ.1 14 j) (N := 8) ?_ ?_ 0 μ (by omega) ⟨Only.rf, fun j hj => absurd hj (by omega), fun _ _ => rfl⟩
  · intro s ⟨h1, h2, _⟩
    exact b_M_ages_2 ⟨fun _ => hQ s h1 h2, fun c => absurd (by decide) c⟩
  · intro i s hi ⟨h1, h2, h3⟩ ih
    have e := nI_i (n := i) (by omega)
    refine b_M_ages_2 ⟨fun c => absurd (le32.mp c) (by rw [e]; show ¬ (8 : Int) ≤ _; omega), fun _ => ⟨nI_v hi (by omega), ?_⟩⟩
    refine M_agedBy_ok (by rw [h1.i 0]; exact hl) ⟨_, rfl, nI_v hi (by omega), fun μ1 e1 => ?_⟩
    have eK : mK s = mK μ := by unfold mK; rw [h1.i 0, h1.i 10]
    have eN : mN s = mN μ := by unfold mN; rw [h1.i 0, h1.i 11]
    rw [nI_1]
    subst e1
    refine ih _ ⟨h1.trans Only.w, fun j hj => ?_, fun j hj => ?_⟩
    · rw [wI_s, nI_c (by omega)]
      by_cases q : j = i
      · rw [q, upd_s, eK, eN, h3 i (by omega)]
      · rw [upd_n q]
        exact h2 j (by omega)
    · rw [wI_s, nI_c (by omega), upd_n (by omega)]
      exact h3 j (by omega)
