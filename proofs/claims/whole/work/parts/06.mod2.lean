/-! ===== the reference: plain calls ===== -/
def digs (n : Nat) : List Nat := if h : n = 0 then [] else digs (n / 10) ++ [n % 10]
termination_by n
decreasing_by omega
theorem digs_0 : digs 0 = [] := by rw [digs]; simp
theorem digs_s {n : Nat} (h : n ≠ 0) : digs n = digs (n / 10) ++ [n % 10] := by rw [digs]; simp [h]
theorem digs_len_s {n : Nat} (h : n ≠ 0) : (digs n).length = (digs (n / 10)).length + 1 := by rw [digs_s h]; simp
theorem digs_le : ∀ (k n : Nat), n < 10 ^ k → (digs n).length ≤ k
  | 0, n, h => by
    have : n = 0 := by simpa using h
    subst this
    rw [digs_0]; simp
  | k + 1, n, h => by
    by_cases h0 : n = 0
    · subst h0; rw [digs_0]; simp
    · rw [digs_len_s h0]
      have := digs_le k (n / 10) (by rw [Nat.pow_succ] at h; omega)
      omega
def sizeF (v : Int32) : Int32 := nI (digs v.toInt.toNat).length
theorem nI_div10 {n : Nat} (h : n < 2147483648) : nI n / 10 = nI (n / 10) := by
  have := pk_div (a := n) (d := 10) h (by omega) (by omega)
  exact this
theorem nI_mod10 {n : Nat} (h : n < 2147483648) : nI n - nI n / 10 * 10 = nI (n % 10) := by
  have := pk_rem (a := n) (d := 10) h (by omega) (by omega)
  exact this
theorem M_sizeOf_ok {d : Nat} {Q : QQ} {μ : Mem} {a : Int32} (h0 : 0 ≤ a.toInt) (hQ : Q (.int (sizeF a)) μ) : Call (d + 1) y_M_sizeOf [.int a] μ Q := by
  refine b_M_sizeOf_0 ?_
  obtain ⟨n0, hn0, rfl, e0⟩ := nI_ex h0
  have key : ∀ (n : Nat) (c : Nat), n < 2147483648 → c + (digs n).length = (digs n0).length → AA (Call d) y_M_sizeOf Q 4 [.int (nI n0), .int (nI c), .int (nI n)] [] μ := by
    intro n
    induction n using Nat.strongRecOn with
    | _ n ih =>
      intro c hn hc
      have e := nI_i (n := n) hn
      refine b_M_sizeOf_4 ⟨fun q => ?_, fun q => ⟨by decide, ?_⟩⟩
      · have q : (nI n).toInt ≤ 0 := le32.mp q
        have : n = 0 := by omega
        subst this
        rw [digs_0] at hc
        unfold sizeF at hQ
        rw [e0] at hQ
        have : c = (digs n0).length := by simpa using hc
        rw [this]
        exact hQ
      · have q : ¬ (nI n).toInt ≤ 0 := fun z => q (le32.mpr z)
        rw [nI_1, nI_div10 hn]
        refine ih (n / 10) (by omega) (c + 1) (by omega) ?_
        rw [digs_len_s (n := n) (by omega)] at hc
        omega
  exact key n0 0 hn0 (by omega)
def lenF (μ : Mem) (w : Int) : Int := if w = 0 then 8 else if w < 4 then (μ.1 0 14).toInt else if w < 6 then (μ.1 0 17).toInt else (μ.1 0 10).toInt
/-- numbers of words, writers, laws, texts, the tape -/
def cntM (μ : Mem) : Prop := rng (μ.1 0 10) 0 10 ∧ rng (μ.1 0 14) 0 5 ∧ rng (μ.1 0 17) 1 6 ∧ rng (μ.1 0 3) 1 6 ∧ rng (μ.1 0 6) 0 160 ∧ (0 ≤ (μ.1 0 18).toInt ∧ (μ.1 0 18).toInt < (μ.1 0 17).toInt) ∧ (0 ≤ (μ.1 0 4).toInt ∧ (μ.1 0 4).toInt < (μ.1 0 3).toInt)
theorem M_isOf_ok {d : Nat} {Q : QQ} {μ : Mem} {a b : Int32} (h : cntM μ) (hQ : Q (.int (b2p (0 ≤ b.toInt ∧ b.toInt < lenF μ a.toInt))) μ) : Call (d + 3) y_M_isOf [.ref 0, .int a, .int b] μ Q := by
  obtain ⟨h1, h2, h3, -⟩ := h
  refine b_M_isOf_0 ?_
  refine ⟨fun c1 => ?_, fun c1 => ?_⟩
  · have c1 : ¬ (a).toInt = (0 : Int) := fun z => c1 (eq32.mpr z)
    refine ⟨fun c2 => ?_, fun c2 => ?_⟩
    · have c2 : (4 : Int) ≤ (a).toInt := le32.mp c2
      refine ⟨fun c3 => ?_, fun c3 => ?_⟩
      · have c3 : (6 : Int) ≤ (a).toInt := le32.mp c3
        refine M_isWordNumber_ok h1 ⟨_, rfl, ?_⟩
        refine ⟨by exact b_nar, ?_⟩
        refine bQ hQ ?_
        unfold lenF
        repeat' split
        all_goals omega
      · have c3 : ¬ (6 : Int) ≤ (a).toInt := fun z => c3 (le32.mpr z)
        refine M_isLaw_ok h3 ⟨_, rfl, ?_⟩
        refine ⟨by exact b_nar, ?_⟩
        refine bQ hQ ?_
        unfold lenF
        repeat' split
        all_goals omega
    · have c2 : ¬ (4 : Int) ≤ (a).toInt := fun z => c2 (le32.mpr z)
      refine M_isWriter_ok h2 ⟨_, rfl, ?_⟩
      refine ⟨by exact b_nar, ?_⟩
      refine bQ hQ ?_
      unfold lenF
      repeat' split
      all_goals omega
  · have c1 : (a).toInt = (0 : Int) := eq32.mp c1
    refine M_in_ok (A := (b).toInt) (B := (0 : Int)) (C := (7 : Int)) (lI _) rfl rfl ⟨_, rfl, ?_⟩
    refine ⟨by exact b_nar, ?_⟩
    refine bQ hQ ?_
    unfold lenF
    repeat' split
    all_goals omega
def toldF (μ : Mem) (f w : Int32) : Int32 := if 0 ≤ w.toInt ∧ w.toInt ≤ 7 ∧ 0 ≤ f.toInt ∧ f.toInt < lenF μ w.toInt then (if w.toInt = 0 then μ.1 4 f.toNatClampNeg else if w.toInt = 1 then μ.1 7 f.toNatClampNeg else if w.toInt = 2 then μ.1 8 f.toNatClampNeg else if w.toInt = 3 then μ.1 9 f.toNatClampNeg else if w.toInt = 4 then μ.1 11 f.toNatClampNeg else if w.toInt = 5 then μ.1 10 f.toNatClampNeg else if w.toInt = 6 then μ.1 5 f.toNatClampNeg else sizeF (μ.1 6 f.toNatClampNeg)) else -2
theorem M_told_ok {d : Nat} {Q : QQ} {μ : Mem} {a b : Int32} (h : cntM μ) (hw : ∀ j, j < 10 → 0 ≤ (μ.1 6 j).toInt) (hQ : Q (.int (toldF μ a b)) μ) : Call (d + 4) y_M_told [.ref 0, .int a, .int b] μ Q := by
  have hc := h
  obtain ⟨⟨h1, h1'⟩, ⟨h2, h2'⟩, ⟨h3, h3'⟩, -⟩ := h
  refine b_M_told_0 ?_
  refine M_in_ok (A := (b).toInt) (B := (0 : Int)) (C := (7 : Int)) (lI _) rfl rfl ⟨_, rfl, ?_⟩
  refine b_z (fun c1 => ?_) (fun c1 => ?_)
  · (unfold toldF at hQ; repeat' split at hQ) <;> first | exact hQ | omega
  · refine M_isOf_ok hc ⟨_, rfl, ?_⟩
    refine b_nz (fun c2 => ?_) (fun c2 => ?_)
    · refine ⟨fun c3 => ?_, fun c3 => ?_⟩
      · have c3 : (4 : Int) ≤ (b).toInt := le32.mp c3
        refine ⟨fun c4 => ?_, fun c4 => ?_⟩
        · have c4 : (6 : Int) ≤ (b).toInt := le32.mp c4
          refine ⟨fun c5 => ?_, fun c5 => ?_⟩
          · have c5 : ¬ (b).toInt = (6 : Int) := fun z => c5 (eq32.mpr z)
            refine ⟨by refine vin_of (by omega) ?_; unfold lenF at *; (repeat' split at *) <;> omega, ?_⟩
            refine M_sizeOf_ok (hw _ (vin_lt (vin_of (by omega) (by unfold lenF at *; (repeat' split at *) <;> omega)))) ⟨_, rfl, ?_⟩
            (unfold toldF at hQ; repeat' split at hQ) <;> first | exact hQ | omega
          · have c5 : (b).toInt = (6 : Int) := eq32.mp c5
            refine ⟨by refine vin_of (by omega) ?_; unfold lenF at *; (repeat' split at *) <;> omega, ?_⟩
            (unfold toldF at hQ; repeat' split at hQ) <;> first | exact hQ | omega
        · have c4 : ¬ (6 : Int) ≤ (b).toInt := fun z => c4 (le32.mpr z)
          refine ⟨fun c6 => ?_, fun c6 => ?_⟩
          · have c6 : ¬ (b).toInt = (4 : Int) := fun z => c6 (eq32.mpr z)
            refine ⟨by refine vin_of (by omega) ?_; unfold lenF at *; (repeat' split at *) <;> omega, ?_⟩
            (unfold toldF at hQ; repeat' split at hQ) <;> first | exact hQ | omega
          · have c6 : (b).toInt = (4 : Int) := eq32.mp c6
            refine ⟨by refine vin_of (by omega) ?_; unfold lenF at *; (repeat' split at *) <;> omega, ?_⟩
            (unfold toldF at hQ; repeat' split at hQ) <;> first | exact hQ | omega
      · have c3 : ¬ (4 : Int) ≤ (b).toInt := fun z => c3 (le32.mpr z)
        refine ⟨fun c7 => ?_, fun c7 => ?_⟩
        · have c7 : ¬ (b).toInt = (0 : Int) := fun z => c7 (eq32.mpr z)
          refine ⟨fun c8 => ?_, fun c8 => ?_⟩
          · have c8 : ¬ (b).toInt = (1 : Int) := fun z => c8 (eq32.mpr z)
            refine ⟨fun c9 => ?_, fun c9 => ?_⟩
            · have c9 : ¬ (b).toInt = (2 : Int) := fun z => c9 (eq32.mpr z)
              refine ⟨by refine vin_of (by omega) ?_; unfold lenF at *; (repeat' split at *) <;> omega, ?_⟩
              (unfold toldF at hQ; repeat' split at hQ) <;> first | exact hQ | omega
            · have c9 : (b).toInt = (2 : Int) := eq32.mp c9
              refine ⟨by refine vin_of (by omega) ?_; unfold lenF at *; (repeat' split at *) <;> omega, ?_⟩
              (unfold toldF at hQ; repeat' split at hQ) <;> first | exact hQ | omega
          · have c8 : (b).toInt = (1 : Int) := eq32.mp c8
            refine ⟨by refine vin_of (by omega) ?_; unfold lenF at *; (repeat' split at *) <;> omega, ?_⟩
            (unfold toldF at hQ; repeat' split at hQ) <;> first | exact hQ | omega
        · have c7 : (b).toInt = (0 : Int) := eq32.mp c7
          refine ⟨by refine vin_of (by omega) ?_; unfold lenF at *; (repeat' split at *) <;> omega, ?_⟩
          (unfold toldF at hQ; repeat' split at hQ) <;> first | exact hQ | omega
    · (unfold toldF at hQ; repeat' split at hQ) <;> first | exact hQ | omega
