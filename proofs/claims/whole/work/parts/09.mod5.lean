/-! ===== the reference: sheets ===== -/
theorem n40 (s i : Nat) : (40 : Int32) * nI s + nI i = nI (40 * s + i) := by
  show nI 40 * nI s + nI i = _
  rw [pk_mul, nI_add]
def okSh (a b c : Int32) : Prop := 0 ≤ a.toInt ∧ a.toInt ≤ 3 ∧ -1 ≤ b.toInt ∧ b.toInt ≤ 2 ∧ (0 ≤ b.toInt → c.toInt ≤ 40)
theorem M_sheet_ok {d : Nat} {Q : QQ} {μ : Mem} {a b c : Int32} (hb : ¬ okSh a b c → Q (.int (-2)) μ) (hn : okSh a b c → 0 ≤ b.toInt → c.toInt < 0 → Q (.int (-14)) μ)
    (hm : okSh a b c → b.toInt = -1 → ∀ μ', Only [22, 23, 24] μ μ' → μ'.1 22 = upd (μ.1 22) a.toNatClampNeg 0 → μ'.1 23 = upd (μ.1 23) a.toNatClampNeg b → μ'.1 24 = upd (μ.1 24) a.toNatClampNeg c → Q (.int 1) μ')
    (hg : okSh a b c → 0 ≤ b.toInt → 0 ≤ c.toInt → ∀ μ', Only [22, 23, 24, 25] μ μ' → μ'.1 22 = upd (μ.1 22) a.toNatClampNeg 1 → μ'.1 23 = upd (μ.1 23) a.toNatClampNeg b → μ'.1 24 = upd (μ.1 24) a.toNatClampNeg c → (∀ i, i < c.toNatClampNeg → μ'.1 25 (40 * a.toNatClampNeg + i) = 0) → (∀ j, j < 40 * a.toNatClampNeg ∨ 40 * a.toNatClampNeg + 40 ≤ j → μ'.1 25 j = μ.1 25 j) → Q (.int 1) μ') : Call (d + 3) y_M_sheet [.ref 0, .int a, .int b, .int c] μ Q := by
  have key : okSh a b c → 0 ≤ b.toInt → 0 ≤ c.toInt → ∀ ν : Mem, Only [22, 23, 24] μ ν → ν.1 22 = upd (μ.1 22) a.toNatClampNeg 1 → ν.1 23 = upd (μ.1 23) a.toNatClampNeg b → ν.1 24 = upd (μ.1 24) a.toNatClampNeg c → AA (Call (d + 2)) y_M_sheet Q 43 [.ref 0, .int a, .int b, .int c, .int 0] [] ν := by
    intro hok hb0 hc0 ν o1 o2 o3 o4
    obtain ⟨k1, k2, k3, k4, k5⟩ := hok
    obtain ⟨s, hs, es, es2⟩ := nI_ex (x := a) k1
    obtain ⟨n, hn2, en, en2⟩ := nI_ex (x := c) hc0
    have hcs : a.toNatClampNeg = s := by rw [es]; exact nI_c hs
    have hcn : c.toNatClampNeg = n := by rw [en]; exact nI_c hn2
    rw [hcs] at o2 o3 o4
    have hn40 : n ≤ 40 := by have := k5 hb0; omega
    refine loopN (G := fun i t => AA (Call (d + 2)) y_M_sheet Q 43 [.ref 0, .int a, .int b, .int c, .int (nI i)] [] t) (P := fun i t => Only [25] ν t ∧ (∀ j, j < i → t.1 25 (40 * s + j) = 0) ∧ ∀ j, j < 40 * s ∨ 40 * s + 40 ≤ j → t.1 25 j = ν.1 25 j) (N := n) ?_ ?_ 0 ν (by omega) ⟨Only.rf, fun j hj => absurd hj (by omega), fun _ _ => rfl⟩
    · intro t ⟨q1, q2, q3⟩
      refine b_M_sheet_43 ⟨fun _ => ?_, fun z => absurd (le32.mpr (by rw [en2, nI_i hn2]; omega)) z⟩
      refine hg ⟨k1, k2, k3, k4, k5⟩ hb0 hc0 t ?_ ?_ ?_ ?_ ?_ ?_
      · exact (o1.mono (by simp)).trans (q1.mono (by simp))
      · rw [q1.i 22, o2, hcs]
      · rw [q1.i 23, o3, hcs]
      · rw [q1.i 24, o4, hcs]
      · rw [hcn, hcs]; exact q2
      · rw [hcs]
        intro j hj
        rw [q3 j hj, o1.i 25]
    · intro i t hi ⟨q1, q2, q3⟩ ih
      have ei := nI_i (n := i) (by omega)
      refine b_M_sheet_43 ⟨fun z => absurd (le32.mp z) (by rw [en2, ei]; omega), fun _ => ⟨fun z => absurd (lt32.mp z) (by show ¬ _ < (0 : Int); omega), fun _ => ?_⟩⟩
      rw [es, n40]
      refine ⟨nI_v (by omega) (by omega), fun μ1 e1 => ?_⟩
      rw [nI_c (by omega)] at e1
      rw [nI_1, ← es]
      refine ih _ ⟨q1.trans (by rw [e1]; exact Only.w), fun j hj => ?_, fun j hj => ?_⟩
      · rw [e1, wI_s]
        by_cases hji : j = i
        · rw [hji, upd_s]
        · rw [upd_n (by omega)]
          exact q2 j (by omega)
      · rw [e1, wI_s, upd_n (by omega)]
        exact q3 j hj
  have hz0 : vp_nar .boolean 0 = 0 := rfl
  have hz1 : vp_nar .boolean 1 = 1 := rfl
  have gone : okSh a b c → b.toInt = -1 → ∀ ν : Mem, Only [22, 23, 24] μ ν → ν.1 22 = upd (μ.1 22) a.toNatClampNeg 0 → ν.1 23 = upd (μ.1 23) a.toNatClampNeg b → ν.1 24 = upd (μ.1 24) a.toNatClampNeg c → AA (Call (d + 2)) y_M_sheet Q 43 [.ref 0, .int a, .int b, .int c, .int 0] [] ν := by
    intro hok hb1 ν o1 o2 o3 o4
    refine b_M_sheet_43 ⟨fun _ => hm hok hb1 ν o1 o2 o3 o4, fun _ => ⟨fun _ => hm hok hb1 ν o1 o2 o3 o4, fun z => absurd (lt32.mpr (by show _ < (0 : Int); omega)) z⟩⟩
  refine b_M_sheet_0 ?_
  refine M_isSheet_ok ⟨_, rfl, ?_⟩
  refine b_z (fun c1 => ?_) (fun c1 => ?_)
  · first
      | omega
      | exact hb (by unfold okSh; omega)
      | exact hn (by unfold okSh; omega) (by omega) (by omega)
  · refine M_in_ok (A := (b).toInt) (B := (-1 : Int)) (C := (2 : Int)) (lI _) rfl rfl ⟨_, rfl, ?_⟩
    refine b_z (fun c2 => ?_) (fun c2 => ?_)
    · first
        | omega
        | exact hb (by unfold okSh; omega)
        | exact hn (by unfold okSh; omega) (by omega) (by omega)
    · refine ⟨fun c3 => ?_, fun c3 => ?_⟩
      · have c3 : (b).toInt < (0 : Int) := lt32.mp c3
        refine ⟨fun c4 => ?_, fun c4 => ?_⟩
        · have c4 : (b).toInt < (0 : Int) := lt32.mp c4
          refine ⟨fun c5 => ?_, fun c5 => ?_⟩
          · have c5 : (b).toInt < (0 : Int) := lt32.mp c5
            refine ⟨by exact vin_of (by omega) (by omega), ?_⟩
            intro μ5 eμ5
            refine ⟨by exact vin_of (by omega) (by omega), ?_⟩
            intro μ6 eμ6
            refine ⟨by exact vin_of (by omega) (by omega), ?_⟩
            intro μ7 eμ7
            first
              | omega
              | (refine gone (by unfold okSh; omega) (by omega) _ ?_ ?_ ?_ ?_ <;> subst_vars
                 all_goals first | (intro k hk; simp at hk; simp [wI, hk]; done) | simp [wI, hz0])
              | (refine key (by unfold okSh; omega) (by omega) (by omega) _ ?_ ?_ ?_ ?_ <;> subst_vars
                 all_goals first | (intro k hk; simp at hk; simp [wI, hk]; done) | simp [wI, hz1])
          · have c5 : ¬ (b).toInt < (0 : Int) := fun z => c5 (lt32.mpr z)
            refine ⟨by exact vin_of (by omega) (by omega), ?_⟩
            intro μ8 eμ8
            refine ⟨by exact vin_of (by omega) (by omega), ?_⟩
            intro μ9 eμ9
            refine ⟨by exact vin_of (by omega) (by omega), ?_⟩
            intro μ10 eμ10
            first
              | omega
              | (refine gone (by unfold okSh; omega) (by omega) _ ?_ ?_ ?_ ?_ <;> subst_vars
                 all_goals first | (intro k hk; simp at hk; simp [wI, hk]; done) | simp [wI, hz0])
              | (refine key (by unfold okSh; omega) (by omega) (by omega) _ ?_ ?_ ?_ ?_ <;> subst_vars
                 all_goals first | (intro k hk; simp at hk; simp [wI, hk]; done) | simp [wI, hz1])
        · have c4 : ¬ (b).toInt < (0 : Int) := fun z => c4 (lt32.mpr z)
          refine ⟨fun c6 => ?_, fun c6 => ?_⟩
          · have c6 : (0 : Int) ≤ (c).toInt := le32.mp c6
            refine ⟨fun c7 => ?_, fun c7 => ?_⟩
            · have c7 : (b).toInt < (0 : Int) := lt32.mp c7
              refine ⟨by exact vin_of (by omega) (by omega), ?_⟩
              intro μ11 eμ11
              refine ⟨by exact vin_of (by omega) (by omega), ?_⟩
              intro μ12 eμ12
              refine ⟨by exact vin_of (by omega) (by omega), ?_⟩
              intro μ13 eμ13
              first
                | omega
                | (refine gone (by unfold okSh; omega) (by omega) _ ?_ ?_ ?_ ?_ <;> subst_vars
                   all_goals first | (intro k hk; simp at hk; simp [wI, hk]; done) | simp [wI, hz0])
                | (refine key (by unfold okSh; omega) (by omega) (by omega) _ ?_ ?_ ?_ ?_ <;> subst_vars
                   all_goals first | (intro k hk; simp at hk; simp [wI, hk]; done) | simp [wI, hz1])
            · have c7 : ¬ (b).toInt < (0 : Int) := fun z => c7 (lt32.mpr z)
              refine ⟨by exact vin_of (by omega) (by omega), ?_⟩
              intro μ14 eμ14
              refine ⟨by exact vin_of (by omega) (by omega), ?_⟩
              intro μ15 eμ15
              refine ⟨by exact vin_of (by omega) (by omega), ?_⟩
              intro μ16 eμ16
              first
                | omega
                | (refine gone (by unfold okSh; omega) (by omega) _ ?_ ?_ ?_ ?_ <;> subst_vars
                   all_goals first | (intro k hk; simp at hk; simp [wI, hk]; done) | simp [wI, hz0])
                | (refine key (by unfold okSh; omega) (by omega) (by omega) _ ?_ ?_ ?_ ?_ <;> subst_vars
                   all_goals first | (intro k hk; simp at hk; simp [wI, hk]; done) | simp [wI, hz1])
          · have c6 : ¬ (0 : Int) ≤ (c).toInt := fun z => c6 (le32.mpr z)
            first
              | omega
              | exact hb (by unfold okSh; omega)
              | exact hn (by unfold okSh; omega) (by omega) (by omega)
      · have c3 : ¬ (b).toInt < (0 : Int) := fun z => c3 (lt32.mpr z)
        refine ⟨fun c8 => ?_, fun c8 => ?_⟩
        · have c8 : (c).toInt ≤ (40 : Int) := le32.mp c8
          refine ⟨fun c9 => ?_, fun c9 => ?_⟩
          · have c9 : (b).toInt < (0 : Int) := lt32.mp c9
            refine ⟨fun c10 => ?_, fun c10 => ?_⟩
            · have c10 : (b).toInt < (0 : Int) := lt32.mp c10
              refine ⟨by exact vin_of (by omega) (by omega), ?_⟩
              intro μ17 eμ17
              refine ⟨by exact vin_of (by omega) (by omega), ?_⟩
              intro μ18 eμ18
              refine ⟨by exact vin_of (by omega) (by omega), ?_⟩
              intro μ19 eμ19
              first
                | omega
                | (refine gone (by unfold okSh; omega) (by omega) _ ?_ ?_ ?_ ?_ <;> subst_vars
                   all_goals first | (intro k hk; simp at hk; simp [wI, hk]; done) | simp [wI, hz0])
                | (refine key (by unfold okSh; omega) (by omega) (by omega) _ ?_ ?_ ?_ ?_ <;> subst_vars
                   all_goals first | (intro k hk; simp at hk; simp [wI, hk]; done) | simp [wI, hz1])
            · have c10 : ¬ (b).toInt < (0 : Int) := fun z => c10 (lt32.mpr z)
              refine ⟨by exact vin_of (by omega) (by omega), ?_⟩
              intro μ20 eμ20
              refine ⟨by exact vin_of (by omega) (by omega), ?_⟩
              intro μ21 eμ21
              refine ⟨by exact vin_of (by omega) (by omega), ?_⟩
              intro μ22 eμ22
              first
                | omega
                | (refine gone (by unfold okSh; omega) (by omega) _ ?_ ?_ ?_ ?_ <;> subst_vars
                   all_goals first | (intro k hk; simp at hk; simp [wI, hk]; done) | simp [wI, hz0])
                | (refine key (by unfold okSh; omega) (by omega) (by omega) _ ?_ ?_ ?_ ?_ <;> subst_vars
                   all_goals first | (intro k hk; simp at hk; simp [wI, hk]; done) | simp [wI, hz1])
          · have c9 : ¬ (b).toInt < (0 : Int) := fun z => c9 (lt32.mpr z)
            refine ⟨fun c11 => ?_, fun c11 => ?_⟩
            · have c11 : (0 : Int) ≤ (c).toInt := le32.mp c11
              refine ⟨fun c12 => ?_, fun c12 => ?_⟩
              · have c12 : (b).toInt < (0 : Int) := lt32.mp c12
                refine ⟨by exact vin_of (by omega) (by omega), ?_⟩
                intro μ23 eμ23
                refine ⟨by exact vin_of (by omega) (by omega), ?_⟩
                intro μ24 eμ24
                refine ⟨by exact vin_of (by omega) (by omega), ?_⟩
                intro μ25 eμ25
                first
                  | omega
                  | (refine gone (by unfold okSh; omega) (by omega) _ ?_ ?_ ?_ ?_ <;> subst_vars
                     all_goals first | (intro k hk; simp at hk; simp [wI, hk]; done) | simp [wI, hz0])
                  | (refine key (by unfold okSh; omega) (by omega) (by omega) _ ?_ ?_ ?_ ?_ <;> subst_vars
                     all_goals first | (intro k hk; simp at hk; simp [wI, hk]; done) | simp [wI, hz1])
              · have c12 : ¬ (b).toInt < (0 : Int) := fun z => c12 (lt32.mpr z)
                refine ⟨by exact vin_of (by omega) (by omega), ?_⟩
                intro μ26 eμ26
                refine ⟨by exact vin_of (by omega) (by omega), ?_⟩
                intro μ27 eμ27
                refine ⟨by exact vin_of (by omega) (by omega), ?_⟩
                intro μ28 eμ28
                first
                  | omega
                  | (refine gone (by unfold okSh; omega) (by omega) _ ?_ ?_ ?_ ?_ <;> subst_vars
                     all_goals first | (intro k hk; simp at hk; simp [wI, hk]; done) | simp [wI, hz0])
                  | (refine key (by unfold okSh; omega) (by omega) (by omega) _ ?_ ?_ ?_ ?_ <;> subst_vars
                     all_goals first | (intro k hk; simp at hk; simp [wI, hk]; done) | simp [wI, hz1])
            · have c11 : ¬ (0 : Int) ≤ (c).toInt := fun z => c11 (le32.mpr z)
              first
                | omega
                | exact hb (by unfold okSh; omega)
                | exact hn (by unfold okSh; omega) (by omega) (by omega)
        · have c8 : ¬ (c).toInt ≤ (40 : Int) := fun z => c8 (le32.mpr z)
          first
            | omega
            | exact hb (by unfold okSh; omega)
            | exact hn (by unfold okSh; omega) (by omega) (by omega)
/-- what a sheet of a sort keeps of a number -/
def keepF (sort v : Int32) : Int32 := if sort.toInt = 0 then (Int32.toInt8 v).toInt32 else if sort.toInt = 1 then (Int32.toInt16 v).toInt32 else v
theorem M_cell_ok {d : Nat} {Q : QQ} {μ : Mem} {a b c : Int32} (hsz : 0 ≤ a.toInt → a.toInt ≤ 3 → ¬ (μ.1 22 a.toNatClampNeg).toInt = 0 → rng (μ.1 24 a.toNatClampNeg) 0 40) (hb : ¬ (0 ≤ a.toInt ∧ a.toInt ≤ 3) → Q (.int (-2)) μ) (hm : 0 ≤ a.toInt ∧ a.toInt ≤ 3 → (μ.1 22 a.toNatClampNeg).toInt = 0 → Q (.int (-11)) μ)
    (ho : 0 ≤ a.toInt ∧ a.toInt ≤ 3 → ¬ (μ.1 22 a.toNatClampNeg).toInt = 0 → ¬ (0 ≤ b.toInt ∧ b.toInt < (μ.1 24 a.toNatClampNeg).toInt) → Q (.int (-12)) μ)
    (hg : 0 ≤ a.toInt ∧ a.toInt ≤ 3 → ¬ (μ.1 22 a.toNatClampNeg).toInt = 0 → 0 ≤ b.toInt ∧ b.toInt < (μ.1 24 a.toNatClampNeg).toInt → ∀ μ', μ' = wI μ 25 (upd (μ.1 25) (40 * a.toNatClampNeg + b.toNatClampNeg) (keepF (μ.1 23 a.toNatClampNeg) c)) → Q (.int 1) μ') : Call (d + 3) y_M_cell [.ref 0, .int a, .int b, .int c] μ Q := by
  have e1 : 0 ≤ a.toInt → a.toInt ≤ 3 → ¬ (μ.1 22 a.toNatClampNeg).toInt = 0 → ((μ.1 24 a.toNatClampNeg) - 1).toInt = (μ.1 24 a.toNatClampNeg).toInt - 1 := by
    intro q1 q2 q3
    have := hsz q1 q2 q3
    exact sub32 (by have := this.1; show _ ≤ _ - 1; omega) (by have := this.2; show _ - 1 < _; omega)
  have e2 : 0 ≤ a.toInt → a.toInt ≤ 3 → ¬ (μ.1 22 a.toNatClampNeg).toInt = 0 → 0 ≤ b.toInt ∧ b.toInt < (μ.1 24 a.toNatClampNeg).toInt → vp_in (40 * a + b) 160 ∧ (40 * a + b).toNatClampNeg = 40 * a.toNatClampNeg + b.toNatClampNeg := by
    intro q1 q2 q3 q4
    have := (hsz q1 q2 q3).2
    obtain ⟨s, hs, es, es2⟩ := nI_ex (x := a) q1
    obtain ⟨n, hn2, en, en2⟩ := nI_ex (x := b) q4.1
    have hc1 : a.toNatClampNeg = s := by rw [es]; exact nI_c hs
    have hc2 : b.toNatClampNeg = n := by rw [en]; exact nI_c hn2
    rw [hc1, hc2, es, en, n40]
    exact ⟨nI_v (by omega) (by omega), nI_c (by omega)⟩
  refine b_M_cell_0 ?_
  refine M_isSheet_ok ⟨_, rfl, ?_⟩
  refine b_nz (fun c1 => ?_) (fun c1 => ?_)
  · refine ⟨by first | exact vin_of (by omega) (by omega) | exact (e2 (by omega) (by omega) (by assumption) (by rw [e1 (by omega) (by omega) (by assumption)] at *; omega)).1, ?_⟩
    refine ⟨fun c2 => ?_, fun c2 => ?_⟩
    · have c2 : ¬ ((μ.1 22 a.toNatClampNeg)).toInt = (0 : Int) := fun z => c2 (eq32.mpr z)
      refine ⟨by first | exact vin_of (by omega) (by omega) | exact (e2 (by omega) (by omega) (by assumption) (by rw [e1 (by omega) (by omega) (by assumption)] at *; omega)).1, ?_⟩
      refine M_in_ok (A := (b).toInt) (B := (0 : Int)) (C := (((μ.1 24 a.toNatClampNeg) - 1)).toInt) (lI _) rfl (lI _) ⟨_, rfl, ?_⟩
      refine b_nz (fun c3 => ?_) (fun c3 => ?_)
      · refine ⟨by first | exact vin_of (by omega) (by omega) | exact (e2 (by omega) (by omega) (by assumption) (by rw [e1 (by omega) (by omega) (by assumption)] at *; omega)).1, ?_⟩
        refine ⟨fun c4 => ?_, fun c4 => ?_⟩
        · have c4 : ¬ ((μ.1 23 a.toNatClampNeg)).toInt = (0 : Int) := fun z => c4 (eq32.mpr z)
          refine ⟨by first | exact vin_of (by omega) (by omega) | exact (e2 (by omega) (by omega) (by assumption) (by rw [e1 (by omega) (by omega) (by assumption)] at *; omega)).1, ?_⟩
          refine ⟨fun c5 => ?_, fun c5 => ?_⟩
          · have c5 : ¬ ((μ.1 23 a.toNatClampNeg)).toInt = (1 : Int) := fun z => c5 (eq32.mpr z)
            refine ⟨by first | exact vin_of (by omega) (by omega) | exact (e2 (by omega) (by omega) (by assumption) (by rw [e1 (by omega) (by omega) (by assumption)] at *; omega)).1, ?_⟩
            intro μ5 eμ5
            first
              | exact hb (by omega)
              | exact hm (by omega) (by assumption)
              | exact ho (by omega) (by assumption) (by rw [e1 (by omega) (by omega) (by assumption)] at *; omega)
              | (have hbb : 0 ≤ b.toInt ∧ b.toInt < (μ.1 24 a.toNatClampNeg).toInt := by rw [e1 (by omega) (by omega) (by assumption)] at *; omega
                 refine hg (by omega) (by assumption) hbb _ ?_
                 subst_vars
                 rw [(e2 (by omega) (by omega) (by assumption) hbb).2]
                 unfold keepF
                 simp [*])
          · have c5 : ((μ.1 23 a.toNatClampNeg)).toInt = (1 : Int) := eq32.mp c5
            refine ⟨by first | exact vin_of (by omega) (by omega) | exact (e2 (by omega) (by omega) (by assumption) (by rw [e1 (by omega) (by omega) (by assumption)] at *; omega)).1, ?_⟩
            intro μ6 eμ6
            first
              | exact hb (by omega)
              | exact hm (by omega) (by assumption)
              | exact ho (by omega) (by assumption) (by rw [e1 (by omega) (by omega) (by assumption)] at *; omega)
              | (have hbb : 0 ≤ b.toInt ∧ b.toInt < (μ.1 24 a.toNatClampNeg).toInt := by rw [e1 (by omega) (by omega) (by assumption)] at *; omega
                 refine hg (by omega) (by assumption) hbb _ ?_
                 subst_vars
                 rw [(e2 (by omega) (by omega) (by assumption) hbb).2]
                 unfold keepF
                 simp [*])
        · have c4 : ((μ.1 23 a.toNatClampNeg)).toInt = (0 : Int) := eq32.mp c4
          refine ⟨by first | exact vin_of (by omega) (by omega) | exact (e2 (by omega) (by omega) (by assumption) (by rw [e1 (by omega) (by omega) (by assumption)] at *; omega)).1, ?_⟩
          intro μ7 eμ7
          first
            | exact hb (by omega)
            | exact hm (by omega) (by assumption)
            | exact ho (by omega) (by assumption) (by rw [e1 (by omega) (by omega) (by assumption)] at *; omega)
            | (have hbb : 0 ≤ b.toInt ∧ b.toInt < (μ.1 24 a.toNatClampNeg).toInt := by rw [e1 (by omega) (by omega) (by assumption)] at *; omega
               refine hg (by omega) (by assumption) hbb _ ?_
               subst_vars
               rw [(e2 (by omega) (by omega) (by assumption) hbb).2]
               unfold keepF
               simp [*])
      · first
          | exact hb (by omega)
          | exact hm (by omega) (by assumption)
          | exact ho (by omega) (by assumption) (by rw [e1 (by omega) (by omega) (by assumption)] at *; omega)
          | (have hbb : 0 ≤ b.toInt ∧ b.toInt < (μ.1 24 a.toNatClampNeg).toInt := by rw [e1 (by omega) (by omega) (by assumption)] at *; omega
             refine hg (by omega) (by assumption) hbb _ ?_
             subst_vars
             rw [(e2 (by omega) (by omega) (by assumption) hbb).2]
             unfold keepF
             simp [*])
    · have c2 : ((μ.1 22 a.toNatClampNeg)).toInt = (0 : Int) := eq32.mp c2
      first
        | exact hb (by omega)
        | exact hm (by omega) (by assumption)
        | exact ho (by omega) (by assumption) (by rw [e1 (by omega) (by omega) (by assumption)] at *; omega)
        | (have hbb : 0 ≤ b.toInt ∧ b.toInt < (μ.1 24 a.toNatClampNeg).toInt := by rw [e1 (by omega) (by omega) (by assumption)] at *; omega
           refine hg (by omega) (by assumption) hbb _ ?_
           subst_vars
           rw [(e2 (by omega) (by omega) (by assumption) hbb).2]
           unfold keepF
           simp [*])
  · first
      | exact hb (by omega)
      | exact hm (by omega) (by assumption)
      | exact ho (by omega) (by assumption) (by rw [e1 (by omega) (by omega) (by assumption)] at *; omega)
      | (have hbb : 0 ≤ b.toInt ∧ b.toInt < (μ.1 24 a.toNatClampNeg).toInt := by rw [e1 (by omega) (by omega) (by assumption)] at *; omega
         refine hg (by omega) (by assumption) hbb _ ?_
         subst_vars
         rw [(e2 (by omega) (by omega) (by assumption) hbb).2]
         unfold keepF
         simp [*])
