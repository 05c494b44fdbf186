/-! ===== the class: plain calls ===== -/
def cntX (μ : Mem) : Prop := rng (μ.1 2 3) 0 10 ∧ rng (μ.1 16 3) 0 5 ∧ rng (μ.1 20 2) 1 6 ∧ rng (μ.1 27 4) 1 6 ∧ rng (μ.1 23 1) 0 160 ∧ (0 ≤ (μ.1 20 3).toInt ∧ (μ.1 20 3).toInt < (μ.1 20 2).toInt) ∧ (0 ≤ (μ.1 27 5).toInt ∧ (μ.1 27 5).toInt < (μ.1 27 4).toInt)
theorem m1 {v : Int32} (h : 0 ≤ v.toInt) : (v - 1).toInt = v.toInt - 1 := sub32 (by show _ ≤ _ - 1; omega) (by show _ - 1 < _; have := Int32.toInt_lt v; omega)
theorem X_item_ok {d : Nat} {Q : QQ} {μ : Mem} {k : Nat} {b c : Int32} (h : 0 ≤ b.toInt ∧ b.toInt ≤ ilen 0 k) (hQ : Q (.int (if 0 ≤ c.toInt ∧ c.toInt < b.toInt then μ.1 k c.toNatClampNeg else -2)) μ) : Call (d + 2) y_X_item [.ref k, .int b, .int c] μ Q := by
  have e := m1 h.1
  refine b_X_item_0 ?_
  refine X_within_ok (A := (c).toInt) (B := (b - 1).toInt) rfl rfl ⟨_, rfl, ?_⟩
  refine b_z (fun c1 => ?_) (fun c1 => ?_)
  · (repeat' split at hQ) <;> first | exact hQ | omega
  · refine ⟨by exact vin_of (by omega) (by omega), ?_⟩
    (repeat' split at hQ) <;> first | exact hQ | omega
theorem X_put_ok {d : Nat} {Q : QQ} {μ : Mem} {k : Nat} {b c e f : Int32} (h : 0 ≤ b.toInt ∧ b.toInt ≤ ilen 0 k ∧ ilen 0 k = wlen 0 k) (hb : ¬ (0 ≤ c.toInt ∧ c.toInt < b.toInt ∧ 0 ≤ e.toInt ∧ e.toInt ≤ f.toInt) → Q (.int (-2)) μ) (hg : 0 ≤ c.toInt ∧ c.toInt < b.toInt ∧ 0 ≤ e.toInt ∧ e.toInt ≤ f.toInt → ∀ μ', μ' = wI μ k (upd (μ.1 k) c.toNatClampNeg e) → Q (.int (μ.1 k c.toNatClampNeg)) μ') : Call (d + 2) y_X_put [.ref k, .int b, .int c, .int e, .int f] μ Q := by
  have em := m1 h.1
  refine b_X_put_0 ?_
  refine X_within_ok (A := (c).toInt) (B := (b - 1).toInt) rfl rfl ⟨_, rfl, ?_⟩
  refine b_z (fun c1 => ?_) (fun c1 => ?_)
  · first | exact hb (by omega) | exact hg (by omega) _ (by assumption)
  · refine X_within_ok (A := (e).toInt) (B := (f).toInt) rfl rfl ⟨_, rfl, ?_⟩
    refine b_nz (fun c2 => ?_) (fun c2 => ?_)
    · refine ⟨by first | exact vin_of (by omega) (by omega), ?_⟩
      refine ⟨by first | exact vin_of (by omega) (by omega), ?_⟩
      intro μ5 eμ5
      first | exact hb (by omega) | exact hg (by omega) _ (by assumption)
    · first | exact hb (by omega) | exact hg (by omega) _ (by assumption)
theorem X_told_ok {d : Nat} {Q : QQ} {μ : Mem} {a b : Int32} (h : cntX μ) (hb : ¬ (0 ≤ b.toInt ∧ b.toInt ≤ 7) → Q (.int (-2)) μ)
    (hg : 0 ≤ b.toInt ∧ b.toInt ≤ 7 → Q (.int (if 0 ≤ a.toInt ∧ a.toInt < (if b.toInt = 0 then 8 else if b.toInt < 4 then (μ.1 16 3).toInt else if b.toInt < 6 then (μ.1 20 2).toInt else (μ.1 2 3).toInt) then μ.1 (if b.toInt = 0 then 1 else if b.toInt = 1 then 17 else if b.toInt = 2 then 18 else if b.toInt = 3 then 19 else if b.toInt = 4 then 22 else if b.toInt = 5 then 21 else if b.toInt = 6 then 3 else 4) a.toNatClampNeg else -2)) μ) : Call (d + 3) y_X_told [.ref 0, .int a, .int b] μ Q := by
  obtain ⟨⟨h1, h1'⟩, ⟨h2, h2'⟩, ⟨h3, h3'⟩, -⟩ := h
  have l1 : ilen 0 1 = 8 ∧ ilen 0 17 = 5 ∧ ilen 0 18 = 5 ∧ ilen 0 19 = 5 ∧ ilen 0 22 = 6 ∧ ilen 0 21 = 6 ∧ ilen 0 3 = 10 ∧ ilen 0 4 = 10 := ⟨rfl, rfl, rfl, rfl, rfl, rfl, rfl, rfl⟩
  obtain ⟨l1, l2, l3, l4, l5, l6, l7, l8⟩ := l1
  have e8 : (8 : Int32).toInt = 8 := rfl
  refine b_X_told_0 ?_
  refine ⟨fun c1 => ?_, fun c1 => ?_⟩
  · have c1 : (b).toInt = (0 : Int) := eq32.mp c1
    refine X_item_ok ⟨by omega, by omega⟩ ⟨_, rfl, ?_⟩
    first
      | exact hb (by omega)
      | (have g := hg (by omega)
         simp_all
         done)
  · have c1 : ¬ (b).toInt = (0 : Int) := fun z => c1 (eq32.mpr z)
    refine ⟨fun c2 => ?_, fun c2 => ?_⟩
    · have c2 : (b).toInt = (1 : Int) := eq32.mp c2
      refine X_item_ok ⟨by omega, by omega⟩ ⟨_, rfl, ?_⟩
      first
        | exact hb (by omega)
        | (have g := hg (by omega)
           simp_all
           done)
    · have c2 : ¬ (b).toInt = (1 : Int) := fun z => c2 (eq32.mpr z)
      refine ⟨fun c3 => ?_, fun c3 => ?_⟩
      · have c3 : (b).toInt = (2 : Int) := eq32.mp c3
        refine X_item_ok ⟨by omega, by omega⟩ ⟨_, rfl, ?_⟩
        first
          | exact hb (by omega)
          | (have g := hg (by omega)
             simp_all
             done)
      · have c3 : ¬ (b).toInt = (2 : Int) := fun z => c3 (eq32.mpr z)
        refine ⟨fun c4 => ?_, fun c4 => ?_⟩
        · have c4 : (b).toInt = (3 : Int) := eq32.mp c4
          refine X_item_ok ⟨by omega, by omega⟩ ⟨_, rfl, ?_⟩
          first
            | exact hb (by omega)
            | (have g := hg (by omega)
               simp_all
               done)
        · have c4 : ¬ (b).toInt = (3 : Int) := fun z => c4 (eq32.mpr z)
          refine ⟨fun c5 => ?_, fun c5 => ?_⟩
          · have c5 : (b).toInt = (4 : Int) := eq32.mp c5
            refine X_item_ok ⟨by omega, by omega⟩ ⟨_, rfl, ?_⟩
            first
              | exact hb (by omega)
              | (have g := hg (by omega)
                 simp_all
                 done)
          · have c5 : ¬ (b).toInt = (4 : Int) := fun z => c5 (eq32.mpr z)
            refine ⟨fun c6 => ?_, fun c6 => ?_⟩
            · have c6 : (b).toInt = (5 : Int) := eq32.mp c6
              refine X_item_ok ⟨by omega, by omega⟩ ⟨_, rfl, ?_⟩
              first
                | exact hb (by omega)
                | (have g := hg (by omega)
                   simp_all
                   done)
            · have c6 : ¬ (b).toInt = (5 : Int) := fun z => c6 (eq32.mpr z)
              refine ⟨fun c7 => ?_, fun c7 => ?_⟩
              · have c7 : (b).toInt = (6 : Int) := eq32.mp c7
                refine X_item_ok ⟨by omega, by omega⟩ ⟨_, rfl, ?_⟩
                first
                  | exact hb (by omega)
                  | (have g := hg (by omega)
                     simp_all
                     done)
              · have c7 : ¬ (b).toInt = (6 : Int) := fun z => c7 (eq32.mpr z)
                refine ⟨fun c8 => ?_, fun c8 => ?_⟩
                · have c8 : (b).toInt = (7 : Int) := eq32.mp c8
                  refine X_item_ok ⟨by omega, by omega⟩ ⟨_, rfl, ?_⟩
                  first
                    | exact hb (by omega)
                    | (have g := hg (by omega)
                       simp_all
                       done)
                · have c8 : ¬ (b).toInt = (7 : Int) := fun z => c8 (eq32.mpr z)
                  first
                    | exact hb (by omega)
                    | (have g := hg (by omega)
                       simp_all
                       done)
theorem Laws_add_ok {d : Nat} {Q : QQ} {μ : Mem} {a b : Int32} (h : 0 ≤ (μ.1 20 2).toInt) (hf : 6 ≤ (μ.1 20 2).toInt → Q (.int (-4)) μ)
    (hg : (μ.1 20 2).toInt < 6 → ∀ μ', Only [20, 21, 22] μ μ' → μ'.1 21 = upd (μ.1 21) (μ.1 20 2).toNatClampNeg a → μ'.1 22 = upd (μ.1 22) (μ.1 20 2).toNatClampNeg b → μ'.1 20 = upd (μ.1 20) 2 (μ.1 20 2 + 1) → Q (.int (μ.1 20 2)) μ') : Call (d + 1) y_Laws_add [.ref 20, .int a, .int b] μ Q := by
  have hi : (μ.1 20 2).toInt < 6 → vp_in (μ.1 20 2) 6 := fun z => vin_of h z
  refine b_Laws_add_0 ?_
  refine ⟨fun c1 => ?_, fun c1 => ?_⟩
  · have c1 : ((μ.1 20 2)).toInt < (6 : Int) := lt32.mp c1
    refine ⟨by first | exact hi (by omega) | (subst_vars; simp [wI]; exact hi (by omega)), ?_⟩
    intro μ1 eμ1
    refine ⟨by first | exact hi (by omega) | (subst_vars; simp [wI]; exact hi (by omega)), ?_⟩
    intro μ2 eμ2
    intro μ3 eμ3
    first
      | exact hf (by omega)
      | (refine Qi (hg (by omega) _ ?_ ?_ ?_ ?_) ?_ <;> subst_vars
         all_goals first | (intro k hk; simp at hk; simp [wI, hk]; done) | simp [wI, upd])
  · have c1 : ¬ ((μ.1 20 2)).toInt < (6 : Int) := fun z => c1 (lt32.mpr z)
    first
      | exact hf (by omega)
      | (refine Qi (hg (by omega) _ ?_ ?_ ?_ ?_) ?_ <;> subst_vars
         all_goals first | (intro k hk; simp at hk; simp [wI, hk]; done) | simp [wI, upd])
theorem X_law_ok {d : Nat} {Q : QQ} {μ : Mem} {a b : Int32} (h : rng (μ.1 20 2) 1 6) (hb : ¬ okLw a b → Q (.int (-2)) μ) (hf : okLw a b → (μ.1 20 2).toInt = 6 → Q (.int (-4)) μ)
    (hg : okLw a b → (μ.1 20 2).toInt < 6 → ∀ μ', Only [20, 21, 22] μ μ' → μ'.1 21 = upd (μ.1 21) (μ.1 20 2).toNatClampNeg a → μ'.1 22 = upd (μ.1 22) (μ.1 20 2).toNatClampNeg b → μ'.1 20 = upd (μ.1 20) 2 (μ.1 20 2 + 1) → Q (.int (μ.1 20 2)) μ') : Call (d + 2) y_X_law [.ref 0, .int a, .int b] μ Q := by
  obtain ⟨h1, h2⟩ := h
  refine b_X_law_0 ?_
  refine X_within_ok (A := (a).toInt) (B := (5 : Int)) rfl rfl ⟨_, rfl, ?_⟩
  refine b_z (fun c1 => ?_) (fun c1 => ?_)
  · first | exact hb (by unfold okLw; omega) | skip
  · refine X_within_ok (A := (b).toInt) (B := (9 : Int)) rfl rfl ⟨_, rfl, ?_⟩
    refine b_nz (fun c2 => ?_) (fun c2 => ?_)
    · refine Laws_add_ok (by omega) (fun z => ⟨_, rfl, hf (by unfold okLw; omega) (by omega)⟩) (fun z μ' o1 o2 o3 o4 => ⟨_, rfl, hg (by unfold okLw; omega) z μ' o1 o2 o3 o4⟩) -- ⟨_, rfl, ?_⟩
      first | exact hb (by unfold okLw; omega) | skip
    · first | exact hb (by unfold okLw; omega) | skip
theorem Writers_add_ok {d : Nat} {Q : QQ} {μ : Mem} {a b c : Int32} (h : rng (μ.1 16 3) 0 5) (hb : ¬ okWr a b c → Q (.int (-2)) μ) (hf : okWr a b c → (μ.1 16 3).toInt = 5 → Q (.int (-4)) μ)
    (hg : okWr a b c → (μ.1 16 3).toInt < 5 → ∀ μ', Only [16, 17, 18, 19] μ μ' → μ'.1 17 = upd (μ.1 17) (μ.1 16 3).toNatClampNeg a → μ'.1 18 = upd (μ.1 18) (μ.1 16 3).toNatClampNeg b → μ'.1 19 = upd (μ.1 19) (μ.1 16 3).toNatClampNeg c → μ'.1 16 = upd (μ.1 16) 3 (μ.1 16 3 + 1) → Q (.int (μ.1 16 3)) μ') : Call (d + 2) y_Writers_add [.ref 16, .int a, .int b, .int c] μ Q := by
  obtain ⟨h1, h2⟩ := h
  have hi : (μ.1 16 3).toInt < 5 → vp_in (μ.1 16 3) 5 := fun z => vin_of h1 z
  refine b_Writers_add_0 ?_
  refine X_within_ok (A := (a).toInt) (B := (3 : Int)) rfl rfl ⟨_, rfl, ?_⟩
  refine b_z (fun c1 => ?_) (fun c1 => ?_)
  · first
      | exact hb (by unfold okWr; omega)
      | exact hf (by unfold okWr; omega) (by omega)
      | (refine Qi (hg (by unfold okWr; omega) (by omega) _ ?_ ?_ ?_ ?_ ?_) ?_ <;> subst_vars
         all_goals first | (intro k hk; simp at hk; simp [wI, hk]; done) | simp [wI, upd])
  · refine X_within_ok (A := (b).toInt) (B := (23 : Int)) rfl rfl ⟨_, rfl, ?_⟩
    refine b_z (fun c2 => ?_) (fun c2 => ?_)
    · first
        | exact hb (by unfold okWr; omega)
        | exact hf (by unfold okWr; omega) (by omega)
        | (refine Qi (hg (by unfold okWr; omega) (by omega) _ ?_ ?_ ?_ ?_ ?_) ?_ <;> subst_vars
           all_goals first | (intro k hk; simp at hk; simp [wI, hk]; done) | simp [wI, upd])
    · refine X_within_ok (A := (c).toInt) (B := (9999 : Int)) rfl rfl ⟨_, rfl, ?_⟩
      refine b_nz (fun c3 => ?_) (fun c3 => ?_)
      · refine ⟨fun c4 => ?_, fun c4 => ?_⟩
        · have c4 : ((μ.1 16 3)).toInt < (5 : Int) := lt32.mp c4
          refine ⟨by first | exact hi (by omega) | (subst_vars; simp [wI]; exact hi (by omega)), ?_⟩
          intro μ7 eμ7
          refine ⟨by first | exact hi (by omega) | (subst_vars; simp [wI]; exact hi (by omega)), ?_⟩
          intro μ8 eμ8
          refine ⟨by first | exact hi (by omega) | (subst_vars; simp [wI]; exact hi (by omega)), ?_⟩
          intro μ9 eμ9
          intro μ10 eμ10
          first
            | exact hb (by unfold okWr; omega)
            | exact hf (by unfold okWr; omega) (by omega)
            | (refine Qi (hg (by unfold okWr; omega) (by omega) _ ?_ ?_ ?_ ?_ ?_) ?_ <;> subst_vars
               all_goals first | (intro k hk; simp at hk; simp [wI, hk]; done) | simp [wI, upd])
        · have c4 : ¬ ((μ.1 16 3)).toInt < (5 : Int) := fun z => c4 (lt32.mpr z)
          first
            | exact hb (by unfold okWr; omega)
            | exact hf (by unfold okWr; omega) (by omega)
            | (refine Qi (hg (by unfold okWr; omega) (by omega) _ ?_ ?_ ?_ ?_ ?_) ?_ <;> subst_vars
               all_goals first | (intro k hk; simp at hk; simp [wI, hk]; done) | simp [wI, upd])
      · first
          | exact hb (by unfold okWr; omega)
          | exact hf (by unfold okWr; omega) (by omega)
          | (refine Qi (hg (by unfold okWr; omega) (by omega) _ ?_ ?_ ?_ ?_ ?_) ?_ <;> subst_vars
             all_goals first | (intro k hk; simp at hk; simp [wI, hk]; done) | simp [wI, upd])
theorem X_writer_ok {d : Nat} {Q : QQ} {μ : Mem} {a b c : Int32} (h : rng (μ.1 16 3) 0 5) (hb : ¬ okWr a b c → Q (.int (-2)) μ) (hf : okWr a b c → (μ.1 16 3).toInt = 5 → Q (.int (-4)) μ)
    (hg : okWr a b c → (μ.1 16 3).toInt < 5 → ∀ μ', Only [16, 17, 18, 19] μ μ' → μ'.1 17 = upd (μ.1 17) (μ.1 16 3).toNatClampNeg a → μ'.1 18 = upd (μ.1 18) (μ.1 16 3).toNatClampNeg b → μ'.1 19 = upd (μ.1 19) (μ.1 16 3).toNatClampNeg c → μ'.1 16 = upd (μ.1 16) 3 (μ.1 16 3 + 1) → Q (.int (μ.1 16 3)) μ') : Call (d + 3) y_X_writer [.ref 0, .int a, .int b, .int c] μ Q := by
  refine b_X_writer_0 ?_
  exact Writers_add_ok h (fun z => ⟨_, rfl, hb z⟩) (fun z z2 => ⟨_, rfl, hf z z2⟩) (fun z z2 μ' o1 o2 o3 o4 o5 => ⟨_, rfl, hg z z2 μ' o1 o2 o3 o4 o5⟩)
theorem X_rule_ok {d : Nat} {Q : QQ} {μ : Mem} {a : Int32} (h : rng (μ.1 20 2) 1 6) (hb : ¬ (0 ≤ a.toInt ∧ a.toInt < (μ.1 20 2).toInt) → Q (.int (-2)) μ) (hg : 0 ≤ a.toInt ∧ a.toInt < (μ.1 20 2).toInt → ∀ μ', Only [20] μ μ' → μ'.1 20 = upd (μ.1 20) 3 a → Q (.int (μ.1 20 3)) μ') : Call (d + 2) y_X_rule [.ref 0, .int a] μ Q := by
  obtain ⟨h1, h2⟩ := h
  have e := m1 (v := μ.1 20 2) (by omega)
  refine b_X_rule_0 ?_
  refine X_within_ok (A := (a).toInt) (B := ((μ.1 20 2) - 1).toInt) rfl rfl ⟨_, rfl, ?_⟩
  refine b_nz (fun c1 => ?_) (fun c1 => ?_)
  · intro μ3 eμ3
    first
      | exact hb (by omega)
      | (refine hg (by omega) _ ?_ ?_ <;> subst_vars
         all_goals first | (intro k hk; simp at hk; simp [wI, hk]; done) | simp [wI, upd])
  · first
      | exact hb (by omega)
      | (refine hg (by omega) _ ?_ ?_ <;> subst_vars
         all_goals first | (intro k hk; simp at hk; simp [wI, hk]; done) | simp [wI, upd])
theorem X_force_ok {d : Nat} {Q : QQ} {μ : Mem} {a : Int32} (h : rng (μ.1 27 4) 1 6) (hb : ¬ (0 ≤ a.toInt ∧ a.toInt < (μ.1 27 4).toInt) → Q (.int (-2)) μ) (hg : 0 ≤ a.toInt ∧ a.toInt < (μ.1 27 4).toInt → ∀ μ', Only [27] μ μ' → μ'.1 27 = upd (μ.1 27) 5 a → Q (.int (μ.1 27 5)) μ') : Call (d + 2) y_X_force [.ref 0, .int a] μ Q := by
  obtain ⟨h1, h2⟩ := h
  have e := m1 (v := μ.1 27 4) (by omega)
  refine b_X_force_0 ?_
  refine X_within_ok (A := (a).toInt) (B := ((μ.1 27 4) - 1).toInt) rfl rfl ⟨_, rfl, ?_⟩
  refine b_nz (fun c1 => ?_) (fun c1 => ?_)
  · intro μ3 eμ3
    first
      | exact hb (by omega)
      | (refine hg (by omega) _ ?_ ?_ <;> subst_vars
         all_goals first | (intro k hk; simp at hk; simp [wI, hk]; done) | simp [wI, upd])
  · first
      | exact hb (by omega)
      | (refine hg (by omega) _ ?_ ?_ <;> subst_vars
         all_goals first | (intro k hk; simp at hk; simp [wI, hk]; done) | simp [wI, upd])
theorem X_sum_ok {d : Nat} {Q : QQ} {μ : Mem} (hQ : Q (.int (sum8 (μ.1 1) 8)) μ) : Call (d + 1) y_X_sum [.ref 1] μ Q := by
  refine b_X_sum_0 ?_
  refine loopN (G := fun i s => AA (Call d) y_X_sum Q 9 [.ref 1, .int s, .ref 1, .int (Int32.ofNat 8), .int (nI i), un] [] μ) (P := fun i s => s = sum8 (μ.1 1) i) (N := 8) ?_ ?_ 0 0 (by omega) rfl
  · intro s h
    subst h
    exact b_X_sum_9 ⟨fun _ => hQ, fun c => absurd (by decide) c⟩
  · intro i s hi h ih
    have e := nI_i (n := i) (by omega)
    refine b_X_sum_9 ⟨fun c => absurd (le32.mp c) (by rw [e]; show ¬ (8 : Int) ≤ _; omega), fun _ => ⟨nI_v hi (by omega), ?_⟩⟩
    rw [nI_1, nI_c (by omega)]
    refine AA_weak (lv := [.ref 1, .int (s + μ.1 1 i), .ref 1, .int (Int32.ofNat 8), .int (nI (i + 1)), un]) ⟨Or.inl rfl, Or.inl rfl, Or.inl rfl, Or.inl rfl, Or.inl rfl, Or.inr ⟨rfl, rfl⟩, trivial⟩ (ih _ (by rw [h]; rfl))
theorem X_count_ok {d : Nat} {Q : QQ} {μ : Mem} {a : Int32} (hb : ¬ (0 ≤ a.toInt ∧ a.toInt ≤ 7) → Q (.int (-2)) μ) (h7 : a.toInt = 7 → Q (.int (sum8 (μ.1 1) 8)) μ)
    (hg : 0 ≤ a.toInt ∧ a.toInt ≤ 6 → Q (.int (if a.toInt = 0 then μ.1 2 3 else if a.toInt = 1 then μ.1 16 3 else if a.toInt = 2 then μ.1 20 2 else if a.toInt = 3 then μ.1 20 3 else if a.toInt = 4 then μ.1 27 4 else if a.toInt = 5 then μ.1 23 1 else μ.1 27 5)) μ) : Call (d + 2) y_X_count [.ref 0, .int a] μ Q := by
  refine b_X_count_0 ?_
  refine ⟨fun c1 => ?_, fun c1 => ?_⟩
  · have c1 : (a).toInt = (0 : Int) := eq32.mp c1
    first
      | exact hb (by omega)
      | exact h7 (by omega)
      | ((have g := hg (by omega)); (repeat' split at g) <;> first | exact g | omega)
  · have c1 : ¬ (a).toInt = (0 : Int) := fun z => c1 (eq32.mpr z)
    refine ⟨fun c2 => ?_, fun c2 => ?_⟩
    · have c2 : (a).toInt = (1 : Int) := eq32.mp c2
      first
        | exact hb (by omega)
        | exact h7 (by omega)
        | ((have g := hg (by omega)); (repeat' split at g) <;> first | exact g | omega)
    · have c2 : ¬ (a).toInt = (1 : Int) := fun z => c2 (eq32.mpr z)
      refine ⟨fun c3 => ?_, fun c3 => ?_⟩
      · have c3 : (a).toInt = (2 : Int) := eq32.mp c3
        first
          | exact hb (by omega)
          | exact h7 (by omega)
          | ((have g := hg (by omega)); (repeat' split at g) <;> first | exact g | omega)
      · have c3 : ¬ (a).toInt = (2 : Int) := fun z => c3 (eq32.mpr z)
        refine ⟨fun c4 => ?_, fun c4 => ?_⟩
        · have c4 : (a).toInt = (3 : Int) := eq32.mp c4
          first
            | exact hb (by omega)
            | exact h7 (by omega)
            | ((have g := hg (by omega)); (repeat' split at g) <;> first | exact g | omega)
        · have c4 : ¬ (a).toInt = (3 : Int) := fun z => c4 (eq32.mpr z)
          refine ⟨fun c5 => ?_, fun c5 => ?_⟩
          · have c5 : (a).toInt = (4 : Int) := eq32.mp c5
            first
              | exact hb (by omega)
              | exact h7 (by omega)
              | ((have g := hg (by omega)); (repeat' split at g) <;> first | exact g | omega)
          · have c5 : ¬ (a).toInt = (4 : Int) := fun z => c5 (eq32.mpr z)
            refine ⟨fun c6 => ?_, fun c6 => ?_⟩
            · have c6 : (a).toInt = (5 : Int) := eq32.mp c6
              first
                | exact hb (by omega)
                | exact h7 (by omega)
                | ((have g := hg (by omega)); (repeat' split at g) <;> first | exact g | omega)
            · have c6 : ¬ (a).toInt = (5 : Int) := fun z => c6 (eq32.mpr z)
              refine ⟨fun c7 => ?_, fun c7 => ?_⟩
              · have c7 : (a).toInt = (6 : Int) := eq32.mp c7
                first
                  | exact hb (by omega)
                  | exact h7 (by omega)
                  | ((have g := hg (by omega)); (repeat' split at g) <;> first | exact g | omega)
              · have c7 : ¬ (a).toInt = (6 : Int) := fun z => c7 (eq32.mpr z)
                refine ⟨fun c8 => ?_, fun c8 => ?_⟩
                · have c8 : (a).toInt = (7 : Int) := eq32.mp c8
                  refine X_sum_ok ⟨_, rfl, ?_⟩
                  first
                    | exact hb (by omega)
                    | exact h7 (by omega)
                    | ((have g := hg (by omega)); (repeat' split at g) <;> first | exact g | omega)
                · have c8 : ¬ (a).toInt = (7 : Int) := fun z => c8 (eq32.mpr z)
                  first
                    | exact hb (by omega)
                    | exact h7 (by omega)
                    | ((have g := hg (by omega)); (repeat' split at g) <;> first | exact g | omega)
theorem X_feed_ok {d : Nat} {Q : QQ} {μ : Mem} {a : Int32} (h : rng (μ.1 23 1) 0 160) (hb : ¬ (0 ≤ a.toInt ∧ a.toInt ≤ 255) → Q (.int (-2)) μ) (hf : 0 ≤ a.toInt ∧ a.toInt ≤ 255 → (μ.1 23 1).toInt = 160 → Q (.int (-4)) μ)
    (hg : 0 ≤ a.toInt ∧ a.toInt ≤ 255 → (μ.1 23 1).toInt < 160 → ∀ μ', Only [23, 24] μ μ' → μ'.1 24 = upd (μ.1 24) (μ.1 23 1).toNatClampNeg a → μ'.1 23 = upd (μ.1 23) 1 (μ.1 23 1 + 1) → Q (.int (μ.1 23 1 + 1)) μ') : Call (d + 2) y_X_feed [.ref 0, .int a] μ Q := by
  obtain ⟨h1, h2⟩ := h
  have hi : (μ.1 23 1).toInt < 160 → vp_in (μ.1 23 1) 160 := fun z => vin_of (by omega) z
  refine b_X_feed_0 ?_
  refine X_within_ok (A := a.toInt) (B := 255) rfl rfl ⟨_, rfl, b_nz (fun c1 => ?_) (fun c1 => hb c1)⟩
  refine b_Reader_append_0 ⟨fun c2 => ?_, fun c2 => ⟨rfl, _, rfl, ⟨fun _ => hf c1 ?_, fun q => absurd rfl q⟩⟩⟩
  · have c2 : (μ.1 23 1).toInt < 160 := lt32.mp c2
    intro μ1 e1
    refine ⟨hi c2, fun μ2 e2 => ⟨rfl, _, rfl, ⟨fun q => absurd q (by decide), fun _ => ?_⟩⟩⟩
    refine Qi (hg c1 c2 _ ?_ ?_ ?_) ?_ <;> subst_vars
    all_goals first | (intro k hk; simp at hk; simp [wI, hk]; done) | simp [wI, upd]
  · have c2 : ¬ (μ.1 23 1).toInt < 160 := fun z => c2 (lt32.mpr z)
    omega
