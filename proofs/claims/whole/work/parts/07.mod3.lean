/-! ===== the reference: calls that change it ===== -/
def maxF (w : Int) : Int := if w = 0 then 999 else if w = 1 then 3 else if w = 2 then 23 else if w = 3 then 9999 else 9
def cellF (w : Int) : Nat := if w = 0 then 4 else if w = 1 then 7 else if w = 2 then 8 else if w = 3 then 9 else 11
def okSet (n : Int) (w f v : Int32) : Prop := 0 ≤ w.toInt ∧ w.toInt ≤ 4 ∧ 0 ≤ f.toInt ∧ f.toInt < n ∧ 0 ≤ v.toInt ∧ v.toInt ≤ maxF w.toInt
theorem M_set_ok {d : Nat} {Q : QQ} {μ : Mem} {a b c : Int32} (h : cntM μ) (hw : ∀ j, j < 10 → 0 ≤ (μ.1 6 j).toInt) (hb : ¬ okSet (lenF μ a.toInt) a b c → Q (.int (-2)) μ) (hg : okSet (lenF μ a.toInt) a b c → ∀ μ', μ' = wI μ (cellF a.toInt) (upd (μ.1 (cellF a.toInt)) b.toNatClampNeg c) → Q (.int (μ.1 (cellF a.toInt) b.toNatClampNeg)) μ') : Call (d + 5) y_M_set [.ref 0, .int a, .int b, .int c] μ Q := by
  have hc := h
  obtain ⟨⟨h1, h1'⟩, ⟨h2, h2'⟩, ⟨h3, h3'⟩, -⟩ := h
  refine b_M_set_0 ?_
  refine M_in_ok (A := (a).toInt) (B := (0 : Int)) (C := (4 : Int)) (lI _) rfl rfl ⟨_, rfl, ?_⟩
  refine b_z (fun c1 => ?_) (fun c1 => ?_)
  · first
      | exact hb (by unfold okSet maxF; (repeat' split) <;> omega)
      | (have g := hg (by unfold okSet maxF; (repeat' split) <;> omega) _ rfl
         unfold toldF
         unfold cellF at g
         simp_all
         done)
      | (have g := hg (by unfold okSet maxF; (repeat' split) <;> omega) _ rfl
         have q4 : a.toInt = 4 := by omega
         unfold toldF
         unfold cellF at g
         simp_all
         done)
  · refine M_isOf_ok hc ⟨_, rfl, ?_⟩
    refine b_z (fun c2 => ?_) (fun c2 => ?_)
    · first
        | exact hb (by unfold okSet maxF; (repeat' split) <;> omega)
        | (have g := hg (by unfold okSet maxF; (repeat' split) <;> omega) _ rfl
           unfold toldF
           unfold cellF at g
           simp_all
           done)
        | (have g := hg (by unfold okSet maxF; (repeat' split) <;> omega) _ rfl
           have q4 : a.toInt = 4 := by omega
           unfold toldF
           unfold cellF at g
           simp_all
           done)
    · refine ⟨fun c3 => ?_, fun c3 => ?_⟩
      · have c3 : ¬ (a).toInt = (0 : Int) := fun z => c3 (eq32.mpr z)
        refine ⟨fun c4 => ?_, fun c4 => ?_⟩
        · have c4 : ¬ (a).toInt = (1 : Int) := fun z => c4 (eq32.mpr z)
          refine ⟨fun c5 => ?_, fun c5 => ?_⟩
          · have c5 : ¬ (a).toInt = (2 : Int) := fun z => c5 (eq32.mpr z)
            refine ⟨fun c6 => ?_, fun c6 => ?_⟩
            · have c6 : ¬ (a).toInt = (3 : Int) := fun z => c6 (eq32.mpr z)
              refine M_in_ok (A := (c).toInt) (B := (0 : Int)) (C := (9 : Int)) (lI _) rfl rfl ⟨_, rfl, ?_⟩
              refine b_nz (fun c7 => ?_) (fun c7 => ?_)
              · refine M_told_ok hc hw ⟨_, rfl, ?_⟩
                refine ⟨fun c8 => ?_, fun c8 => ?_⟩
                · have c8 : ¬ (a).toInt = (0 : Int) := fun z => c8 (eq32.mpr z)
                  refine ⟨fun c9 => ?_, fun c9 => ?_⟩
                  · have c9 : ¬ (a).toInt = (1 : Int) := fun z => c9 (eq32.mpr z)
                    refine ⟨fun c10 => ?_, fun c10 => ?_⟩
                    · have c10 : ¬ (a).toInt = (2 : Int) := fun z => c10 (eq32.mpr z)
                      refine ⟨fun c11 => ?_, fun c11 => ?_⟩
                      · have c11 : ¬ (a).toInt = (3 : Int) := fun z => c11 (eq32.mpr z)
                        refine ⟨by refine vin_of (by omega) ?_; unfold lenF at *; (repeat' split at *) <;> omega, ?_⟩
                        intro μ9 eμ9
                        first
                          | exact hb (by unfold okSet maxF; (repeat' split) <;> omega)
                          | (have g := hg (by unfold okSet maxF; (repeat' split) <;> omega) _ rfl
                             unfold toldF
                             unfold cellF at g
                             simp_all
                             done)
                          | (have g := hg (by unfold okSet maxF; (repeat' split) <;> omega) _ rfl
                             have q4 : a.toInt = 4 := by omega
                             unfold toldF
                             unfold cellF at g
                             simp_all
                             done)
                      · have c11 : (a).toInt = (3 : Int) := eq32.mp c11
                        refine ⟨by refine vin_of (by omega) ?_; unfold lenF at *; (repeat' split at *) <;> omega, ?_⟩
                        intro μ10 eμ10
                        first
                          | exact hb (by unfold okSet maxF; (repeat' split) <;> omega)
                          | (have g := hg (by unfold okSet maxF; (repeat' split) <;> omega) _ rfl
                             unfold toldF
                             unfold cellF at g
                             simp_all
                             done)
                          | (have g := hg (by unfold okSet maxF; (repeat' split) <;> omega) _ rfl
                             have q4 : a.toInt = 4 := by omega
                             unfold toldF
                             unfold cellF at g
                             simp_all
                             done)
                    · have c10 : (a).toInt = (2 : Int) := eq32.mp c10
                      refine ⟨by refine vin_of (by omega) ?_; unfold lenF at *; (repeat' split at *) <;> omega, ?_⟩
                      intro μ11 eμ11
                      first
                        | exact hb (by unfold okSet maxF; (repeat' split) <;> omega)
                        | (have g := hg (by unfold okSet maxF; (repeat' split) <;> omega) _ rfl
                           unfold toldF
                           unfold cellF at g
                           simp_all
                           done)
                        | (have g := hg (by unfold okSet maxF; (repeat' split) <;> omega) _ rfl
                           have q4 : a.toInt = 4 := by omega
                           unfold toldF
                           unfold cellF at g
                           simp_all
                           done)
                  · have c9 : (a).toInt = (1 : Int) := eq32.mp c9
                    refine ⟨by refine vin_of (by omega) ?_; unfold lenF at *; (repeat' split at *) <;> omega, ?_⟩
                    intro μ12 eμ12
                    first
                      | exact hb (by unfold okSet maxF; (repeat' split) <;> omega)
                      | (have g := hg (by unfold okSet maxF; (repeat' split) <;> omega) _ rfl
                         unfold toldF
                         unfold cellF at g
                         simp_all
                         done)
                      | (have g := hg (by unfold okSet maxF; (repeat' split) <;> omega) _ rfl
                         have q4 : a.toInt = 4 := by omega
                         unfold toldF
                         unfold cellF at g
                         simp_all
                         done)
                · have c8 : (a).toInt = (0 : Int) := eq32.mp c8
                  refine ⟨by refine vin_of (by omega) ?_; unfold lenF at *; (repeat' split at *) <;> omega, ?_⟩
                  intro μ13 eμ13
                  first
                    | exact hb (by unfold okSet maxF; (repeat' split) <;> omega)
                    | (have g := hg (by unfold okSet maxF; (repeat' split) <;> omega) _ rfl
                       unfold toldF
                       unfold cellF at g
                       simp_all
                       done)
                    | (have g := hg (by unfold okSet maxF; (repeat' split) <;> omega) _ rfl
                       have q4 : a.toInt = 4 := by omega
                       unfold toldF
                       unfold cellF at g
                       simp_all
                       done)
              · first
                  | exact hb (by unfold okSet maxF; (repeat' split) <;> omega)
                  | (have g := hg (by unfold okSet maxF; (repeat' split) <;> omega) _ rfl
                     unfold toldF
                     unfold cellF at g
                     simp_all
                     done)
                  | (have g := hg (by unfold okSet maxF; (repeat' split) <;> omega) _ rfl
                     have q4 : a.toInt = 4 := by omega
                     unfold toldF
                     unfold cellF at g
                     simp_all
                     done)
            · have c6 : (a).toInt = (3 : Int) := eq32.mp c6
              refine M_in_ok (A := (c).toInt) (B := (0 : Int)) (C := (9999 : Int)) (lI _) rfl rfl ⟨_, rfl, ?_⟩
              refine b_nz (fun c12 => ?_) (fun c12 => ?_)
              · refine M_told_ok hc hw ⟨_, rfl, ?_⟩
                refine ⟨fun c13 => ?_, fun c13 => ?_⟩
                · have c13 : ¬ (a).toInt = (0 : Int) := fun z => c13 (eq32.mpr z)
                  refine ⟨fun c14 => ?_, fun c14 => ?_⟩
                  · have c14 : ¬ (a).toInt = (1 : Int) := fun z => c14 (eq32.mpr z)
                    refine ⟨fun c15 => ?_, fun c15 => ?_⟩
                    · have c15 : ¬ (a).toInt = (2 : Int) := fun z => c15 (eq32.mpr z)
                      refine ⟨fun c16 => ?_, fun c16 => ?_⟩
                      · have c16 : ¬ (a).toInt = (3 : Int) := fun z => c16 (eq32.mpr z)
                        refine ⟨by refine vin_of (by omega) ?_; unfold lenF at *; (repeat' split at *) <;> omega, ?_⟩
                        intro μ18 eμ18
                        first
                          | exact hb (by unfold okSet maxF; (repeat' split) <;> omega)
                          | (have g := hg (by unfold okSet maxF; (repeat' split) <;> omega) _ rfl
                             unfold toldF
                             unfold cellF at g
                             simp_all
                             done)
                          | (have g := hg (by unfold okSet maxF; (repeat' split) <;> omega) _ rfl
                             have q4 : a.toInt = 4 := by omega
                             unfold toldF
                             unfold cellF at g
                             simp_all
                             done)
                      · have c16 : (a).toInt = (3 : Int) := eq32.mp c16
                        refine ⟨by refine vin_of (by omega) ?_; unfold lenF at *; (repeat' split at *) <;> omega, ?_⟩
                        intro μ19 eμ19
                        first
                          | exact hb (by unfold okSet maxF; (repeat' split) <;> omega)
                          | (have g := hg (by unfold okSet maxF; (repeat' split) <;> omega) _ rfl
                             unfold toldF
                             unfold cellF at g
                             simp_all
                             done)
                          | (have g := hg (by unfold okSet maxF; (repeat' split) <;> omega) _ rfl
                             have q4 : a.toInt = 4 := by omega
                             unfold toldF
                             unfold cellF at g
                             simp_all
                             done)
                    · have c15 : (a).toInt = (2 : Int) := eq32.mp c15
                      refine ⟨by refine vin_of (by omega) ?_; unfold lenF at *; (repeat' split at *) <;> omega, ?_⟩
                      intro μ20 eμ20
                      first
                        | exact hb (by unfold okSet maxF; (repeat' split) <;> omega)
                        | (have g := hg (by unfold okSet maxF; (repeat' split) <;> omega) _ rfl
                           unfold toldF
                           unfold cellF at g
                           simp_all
                           done)
                        | (have g := hg (by unfold okSet maxF; (repeat' split) <;> omega) _ rfl
                           have q4 : a.toInt = 4 := by omega
                           unfold toldF
                           unfold cellF at g
                           simp_all
                           done)
                  · have c14 : (a).toInt = (1 : Int) := eq32.mp c14
                    refine ⟨by refine vin_of (by omega) ?_; unfold lenF at *; (repeat' split at *) <;> omega, ?_⟩
                    intro μ21 eμ21
                    first
                      | exact hb (by unfold okSet maxF; (repeat' split) <;> omega)
                      | (have g := hg (by unfold okSet maxF; (repeat' split) <;> omega) _ rfl
                         unfold toldF
                         unfold cellF at g
                         simp_all
                         done)
                      | (have g := hg (by unfold okSet maxF; (repeat' split) <;> omega) _ rfl
                         have q4 : a.toInt = 4 := by omega
                         unfold toldF
                         unfold cellF at g
                         simp_all
                         done)
                · have c13 : (a).toInt = (0 : Int) := eq32.mp c13
                  refine ⟨by refine vin_of (by omega) ?_; unfold lenF at *; (repeat' split at *) <;> omega, ?_⟩
                  intro μ22 eμ22
                  first
                    | exact hb (by unfold okSet maxF; (repeat' split) <;> omega)
                    | (have g := hg (by unfold okSet maxF; (repeat' split) <;> omega) _ rfl
                       unfold toldF
                       unfold cellF at g
                       simp_all
                       done)
                    | (have g := hg (by unfold okSet maxF; (repeat' split) <;> omega) _ rfl
                       have q4 : a.toInt = 4 := by omega
                       unfold toldF
                       unfold cellF at g
                       simp_all
                       done)
              · first
                  | exact hb (by unfold okSet maxF; (repeat' split) <;> omega)
                  | (have g := hg (by unfold okSet maxF; (repeat' split) <;> omega) _ rfl
                     unfold toldF
                     unfold cellF at g
                     simp_all
                     done)
                  | (have g := hg (by unfold okSet maxF; (repeat' split) <;> omega) _ rfl
                     have q4 : a.toInt = 4 := by omega
                     unfold toldF
                     unfold cellF at g
                     simp_all
                     done)
          · have c5 : (a).toInt = (2 : Int) := eq32.mp c5
            refine M_in_ok (A := (c).toInt) (B := (0 : Int)) (C := (23 : Int)) (lI _) rfl rfl ⟨_, rfl, ?_⟩
            refine b_nz (fun c17 => ?_) (fun c17 => ?_)
            · refine M_told_ok hc hw ⟨_, rfl, ?_⟩
              refine ⟨fun c18 => ?_, fun c18 => ?_⟩
              · have c18 : ¬ (a).toInt = (0 : Int) := fun z => c18 (eq32.mpr z)
                refine ⟨fun c19 => ?_, fun c19 => ?_⟩
                · have c19 : ¬ (a).toInt = (1 : Int) := fun z => c19 (eq32.mpr z)
                  refine ⟨fun c20 => ?_, fun c20 => ?_⟩
                  · have c20 : ¬ (a).toInt = (2 : Int) := fun z => c20 (eq32.mpr z)
                    refine ⟨fun c21 => ?_, fun c21 => ?_⟩
                    · have c21 : ¬ (a).toInt = (3 : Int) := fun z => c21 (eq32.mpr z)
                      refine ⟨by refine vin_of (by omega) ?_; unfold lenF at *; (repeat' split at *) <;> omega, ?_⟩
                      intro μ27 eμ27
                      first
                        | exact hb (by unfold okSet maxF; (repeat' split) <;> omega)
                        | (have g := hg (by unfold okSet maxF; (repeat' split) <;> omega) _ rfl
                           unfold toldF
                           unfold cellF at g
                           simp_all
                           done)
                        | (have g := hg (by unfold okSet maxF; (repeat' split) <;> omega) _ rfl
                           have q4 : a.toInt = 4 := by omega
                           unfold toldF
                           unfold cellF at g
                           simp_all
                           done)
                    · have c21 : (a).toInt = (3 : Int) := eq32.mp c21
                      refine ⟨by refine vin_of (by omega) ?_; unfold lenF at *; (repeat' split at *) <;> omega, ?_⟩
                      intro μ28 eμ28
                      first
                        | exact hb (by unfold okSet maxF; (repeat' split) <;> omega)
                        | (have g := hg (by unfold okSet maxF; (repeat' split) <;> omega) _ rfl
                           unfold toldF
                           unfold cellF at g
                           simp_all
                           done)
                        | (have g := hg (by unfold okSet maxF; (repeat' split) <;> omega) _ rfl
                           have q4 : a.toInt = 4 := by omega
                           unfold toldF
                           unfold cellF at g
                           simp_all
                           done)
                  · have c20 : (a).toInt = (2 : Int) := eq32.mp c20
                    refine ⟨by refine vin_of (by omega) ?_; unfold lenF at *; (repeat' split at *) <;> omega, ?_⟩
                    intro μ29 eμ29
                    first
                      | exact hb (by unfold okSet maxF; (repeat' split) <;> omega)
                      | (have g := hg (by unfold okSet maxF; (repeat' split) <;> omega) _ rfl
                         unfold toldF
                         unfold cellF at g
                         simp_all
                         done)
                      | (have g := hg (by unfold okSet maxF; (repeat' split) <;> omega) _ rfl
                         have q4 : a.toInt = 4 := by omega
                         unfold toldF
                         unfold cellF at g
                         simp_all
                         done)
                · have c19 : (a).toInt = (1 : Int) := eq32.mp c19
                  refine ⟨by refine vin_of (by omega) ?_; unfold lenF at *; (repeat' split at *) <;> omega, ?_⟩
                  intro μ30 eμ30
                  first
                    | exact hb (by unfold okSet maxF; (repeat' split) <;> omega)
                    | (have g := hg (by unfold okSet maxF; (repeat' split) <;> omega) _ rfl
                       unfold toldF
                       unfold cellF at g
                       simp_all
                       done)
                    | (have g := hg (by unfold okSet maxF; (repeat' split) <;> omega) _ rfl
                       have q4 : a.toInt = 4 := by omega
                       unfold toldF
                       unfold cellF at g
                       simp_all
                       done)
              · have c18 : (a).toInt = (0 : Int) := eq32.mp c18
                refine ⟨by refine vin_of (by omega) ?_; unfold lenF at *; (repeat' split at *) <;> omega, ?_⟩
                intro μ31 eμ31
                first
                  | exact hb (by unfold okSet maxF; (repeat' split) <;> omega)
                  | (have g := hg (by unfold okSet maxF; (repeat' split) <;> omega) _ rfl
                     unfold toldF
                     unfold cellF at g
                     simp_all
                     done)
                  | (have g := hg (by unfold okSet maxF; (repeat' split) <;> omega) _ rfl
                     have q4 : a.toInt = 4 := by omega
                     unfold toldF
                     unfold cellF at g
                     simp_all
                     done)
            · first
                | exact hb (by unfold okSet maxF; (repeat' split) <;> omega)
                | (have g := hg (by unfold okSet maxF; (repeat' split) <;> omega) _ rfl
                   unfold toldF
                   unfold cellF at g
                   simp_all
                   done)
                | (have g := hg (by unfold okSet maxF; (repeat' split) <;> omega) _ rfl
                   have q4 : a.toInt = 4 := by omega
                   unfold toldF
                   unfold cellF at g
                   simp_all
                   done)
        · have c4 : (a).toInt = (1 : Int) := eq32.mp c4
          refine M_in_ok (A := (c).toInt) (B := (0 : Int)) (C := (3 : Int)) (lI _) rfl rfl ⟨_, rfl, ?_⟩
          refine b_nz (fun c22 => ?_) (fun c22 => ?_)
          · refine M_told_ok hc hw ⟨_, rfl, ?_⟩
            refine ⟨fun c23 => ?_, fun c23 => ?_⟩
            · have c23 : ¬ (a).toInt = (0 : Int) := fun z => c23 (eq32.mpr z)
              refine ⟨fun c24 => ?_, fun c24 => ?_⟩
              · have c24 : ¬ (a).toInt = (1 : Int) := fun z => c24 (eq32.mpr z)
                refine ⟨fun c25 => ?_, fun c25 => ?_⟩
                · have c25 : ¬ (a).toInt = (2 : Int) := fun z => c25 (eq32.mpr z)
                  refine ⟨fun c26 => ?_, fun c26 => ?_⟩
                  · have c26 : ¬ (a).toInt = (3 : Int) := fun z => c26 (eq32.mpr z)
                    refine ⟨by refine vin_of (by omega) ?_; unfold lenF at *; (repeat' split at *) <;> omega, ?_⟩
                    intro μ36 eμ36
                    first
                      | exact hb (by unfold okSet maxF; (repeat' split) <;> omega)
                      | (have g := hg (by unfold okSet maxF; (repeat' split) <;> omega) _ rfl
                         unfold toldF
                         unfold cellF at g
                         simp_all
                         done)
                      | (have g := hg (by unfold okSet maxF; (repeat' split) <;> omega) _ rfl
                         have q4 : a.toInt = 4 := by omega
                         unfold toldF
                         unfold cellF at g
                         simp_all
                         done)
                  · have c26 : (a).toInt = (3 : Int) := eq32.mp c26
                    refine ⟨by refine vin_of (by omega) ?_; unfold lenF at *; (repeat' split at *) <;> omega, ?_⟩
                    intro μ37 eμ37
                    first
                      | exact hb (by unfold okSet maxF; (repeat' split) <;> omega)
                      | (have g := hg (by unfold okSet maxF; (repeat' split) <;> omega) _ rfl
                         unfold toldF
                         unfold cellF at g
                         simp_all
                         done)
                      | (have g := hg (by unfold okSet maxF; (repeat' split) <;> omega) _ rfl
                         have q4 : a.toInt = 4 := by omega
                         unfold toldF
                         unfold cellF at g
                         simp_all
                         done)
                · have c25 : (a).toInt = (2 : Int) := eq32.mp c25
                  refine ⟨by refine vin_of (by omega) ?_; unfold lenF at *; (repeat' split at *) <;> omega, ?_⟩
                  intro μ38 eμ38
                  first
                    | exact hb (by unfold okSet maxF; (repeat' split) <;> omega)
                    | (have g := hg (by unfold okSet maxF; (repeat' split) <;> omega) _ rfl
                       unfold toldF
                       unfold cellF at g
                       simp_all
                       done)
                    | (have g := hg (by unfold okSet maxF; (repeat' split) <;> omega) _ rfl
                       have q4 : a.toInt = 4 := by omega
                       unfold toldF
                       unfold cellF at g
                       simp_all
                       done)
              · have c24 : (a).toInt = (1 : Int) := eq32.mp c24
                refine ⟨by refine vin_of (by omega) ?_; unfold lenF at *; (repeat' split at *) <;> omega, ?_⟩
                intro μ39 eμ39
                first
                  | exact hb (by unfold okSet maxF; (repeat' split) <;> omega)
                  | (have g := hg (by unfold okSet maxF; (repeat' split) <;> omega) _ rfl
                     unfold toldF
                     unfold cellF at g
                     simp_all
                     done)
                  | (have g := hg (by unfold okSet maxF; (repeat' split) <;> omega) _ rfl
                     have q4 : a.toInt = 4 := by omega
                     unfold toldF
                     unfold cellF at g
                     simp_all
                     done)
            · have c23 : (a).toInt = (0 : Int) := eq32.mp c23
              refine ⟨by refine vin_of (by omega) ?_; unfold lenF at *; (repeat' split at *) <;> omega, ?_⟩
              intro μ40 eμ40
              first
                | exact hb (by unfold okSet maxF; (repeat' split) <;> omega)
                | (have g := hg (by unfold okSet maxF; (repeat' split) <;> omega) _ rfl
                   unfold toldF
                   unfold cellF at g
                   simp_all
                   done)
                | (have g := hg (by unfold okSet maxF; (repeat' split) <;> omega) _ rfl
                   have q4 : a.toInt = 4 := by omega
                   unfold toldF
                   unfold cellF at g
                   simp_all
                   done)
          · first
              | exact hb (by unfold okSet maxF; (repeat' split) <;> omega)
              | (have g := hg (by unfold okSet maxF; (repeat' split) <;> omega) _ rfl
                 unfold toldF
                 unfold cellF at g
                 simp_all
                 done)
              | (have g := hg (by unfold okSet maxF; (repeat' split) <;> omega) _ rfl
                 have q4 : a.toInt = 4 := by omega
                 unfold toldF
                 unfold cellF at g
                 simp_all
                 done)
      · have c3 : (a).toInt = (0 : Int) := eq32.mp c3
        refine M_in_ok (A := (c).toInt) (B := (0 : Int)) (C := (999 : Int)) (lI _) rfl rfl ⟨_, rfl, ?_⟩
        refine b_nz (fun c27 => ?_) (fun c27 => ?_)
        · refine M_told_ok hc hw ⟨_, rfl, ?_⟩
          refine ⟨fun c28 => ?_, fun c28 => ?_⟩
          · have c28 : ¬ (a).toInt = (0 : Int) := fun z => c28 (eq32.mpr z)
            refine ⟨fun c29 => ?_, fun c29 => ?_⟩
            · have c29 : ¬ (a).toInt = (1 : Int) := fun z => c29 (eq32.mpr z)
              refine ⟨fun c30 => ?_, fun c30 => ?_⟩
              · have c30 : ¬ (a).toInt = (2 : Int) := fun z => c30 (eq32.mpr z)
                refine ⟨fun c31 => ?_, fun c31 => ?_⟩
                · have c31 : ¬ (a).toInt = (3 : Int) := fun z => c31 (eq32.mpr z)
                  refine ⟨by refine vin_of (by omega) ?_; unfold lenF at *; (repeat' split at *) <;> omega, ?_⟩
                  intro μ45 eμ45
                  first
                    | exact hb (by unfold okSet maxF; (repeat' split) <;> omega)
                    | (have g := hg (by unfold okSet maxF; (repeat' split) <;> omega) _ rfl
                       unfold toldF
                       unfold cellF at g
                       simp_all
                       done)
                    | (have g := hg (by unfold okSet maxF; (repeat' split) <;> omega) _ rfl
                       have q4 : a.toInt = 4 := by omega
                       unfold toldF
                       unfold cellF at g
                       simp_all
                       done)
                · have c31 : (a).toInt = (3 : Int) := eq32.mp c31
                  refine ⟨by refine vin_of (by omega) ?_; unfold lenF at *; (repeat' split at *) <;> omega, ?_⟩
                  intro μ46 eμ46
                  first
                    | exact hb (by unfold okSet maxF; (repeat' split) <;> omega)
                    | (have g := hg (by unfold okSet maxF; (repeat' split) <;> omega) _ rfl
                       unfold toldF
                       unfold cellF at g
                       simp_all
                       done)
                    | (have g := hg (by unfold okSet maxF; (repeat' split) <;> omega) _ rfl
                       have q4 : a.toInt = 4 := by omega
                       unfold toldF
                       unfold cellF at g
                       simp_all
                       done)
              · have c30 : (a).toInt = (2 : Int) := eq32.mp c30
                refine ⟨by refine vin_of (by omega) ?_; unfold lenF at *; (repeat' split at *) <;> omega, ?_⟩
                intro μ47 eμ47
                first
                  | exact hb (by unfold okSet maxF; (repeat' split) <;> omega)
                  | (have g := hg (by unfold okSet maxF; (repeat' split) <;> omega) _ rfl
                     unfold toldF
                     unfold cellF at g
                     simp_all
                     done)
                  | (have g := hg (by unfold okSet maxF; (repeat' split) <;> omega) _ rfl
                     have q4 : a.toInt = 4 := by omega
                     unfold toldF
                     unfold cellF at g
                     simp_all
                     done)
            · have c29 : (a).toInt = (1 : Int) := eq32.mp c29
              refine ⟨by refine vin_of (by omega) ?_; unfold lenF at *; (repeat' split at *) <;> omega, ?_⟩
              intro μ48 eμ48
              first
                | exact hb (by unfold okSet maxF; (repeat' split) <;> omega)
                | (have g := hg (by unfold okSet maxF; (repeat' split) <;> omega) _ rfl
                   unfold toldF
                   unfold cellF at g
                   simp_all
                   done)
                | (have g := hg (by unfold okSet maxF; (repeat' split) <;> omega) _ rfl
                   have q4 : a.toInt = 4 := by omega
                   unfold toldF
                   unfold cellF at g
                   simp_all
                   done)
          · have c28 : (a).toInt = (0 : Int) := eq32.mp c28
            refine ⟨by refine vin_of (by omega) ?_; unfold lenF at *; (repeat' split at *) <;> omega, ?_⟩
            intro μ49 eμ49
            first
              | exact hb (by unfold okSet maxF; (repeat' split) <;> omega)
              | (have g := hg (by unfold okSet maxF; (repeat' split) <;> omega) _ rfl
                 unfold toldF
                 unfold cellF at g
                 simp_all
                 done)
              | (have g := hg (by unfold okSet maxF; (repeat' split) <;> omega) _ rfl
                 have q4 : a.toInt = 4 := by omega
                 unfold toldF
                 unfold cellF at g
                 simp_all
                 done)
        · first
            | exact hb (by unfold okSet maxF; (repeat' split) <;> omega)
            | (have g := hg (by unfold okSet maxF; (repeat' split) <;> omega) _ rfl
               unfold toldF
               unfold cellF at g
               simp_all
               done)
            | (have g := hg (by unfold okSet maxF; (repeat' split) <;> omega) _ rfl
               have q4 : a.toInt = 4 := by omega
               unfold toldF
               unfold cellF at g
               simp_all
               done)
def okWr (a b c : Int32) : Prop := 0 ≤ a.toInt ∧ a.toInt ≤ 3 ∧ 0 ≤ b.toInt ∧ b.toInt ≤ 23 ∧ 0 ≤ c.toInt ∧ c.toInt ≤ 9999
theorem M_writer_ok {d : Nat} {Q : QQ} {μ : Mem} {a b c : Int32} (h : rng (μ.1 0 14) 0 5) (hb : ¬ okWr a b c → Q (.int (-2)) μ) (hf : okWr a b c → (μ.1 0 14).toInt = 5 → Q (.int (-4)) μ)
    (hg : okWr a b c → (μ.1 0 14).toInt < 5 → ∀ μ', Only [0, 7, 8, 9] μ μ' → μ'.1 7 = upd (μ.1 7) (μ.1 0 14).toNatClampNeg a → μ'.1 8 = upd (μ.1 8) (μ.1 0 14).toNatClampNeg b → μ'.1 9 = upd (μ.1 9) (μ.1 0 14).toNatClampNeg c → μ'.1 0 = upd (μ.1 0) 14 (μ.1 0 14 + 1) → Q (.int (μ.1 0 14)) μ') : Call (d + 2) y_M_writer [.ref 0, .int a, .int b, .int c] μ Q := by
  obtain ⟨h1, h2⟩ := h
  have hi : (μ.1 0 14).toInt < 5 → vp_in (μ.1 0 14) 5 := fun z => vin_of h1 z
  refine b_M_writer_0 ?_
  refine M_in_ok (A := (a).toInt) (B := (0 : Int)) (C := (3 : Int)) (lI _) rfl rfl ⟨_, rfl, ?_⟩
  refine b_z (fun c1 => ?_) (fun c1 => ?_)
  · first
      | exact hb (by unfold okWr; omega)
      | exact hf (by unfold okWr; omega) (by omega)
      | (refine Qi (hg (by unfold okWr; omega) (by omega) _ ?_ ?_ ?_ ?_ ?_) ?_ <;> subst_vars
         all_goals first | (intro k hk; simp at hk; simp [wI, hk]; done) | simp [wI, upd])
  · refine M_in_ok (A := (b).toInt) (B := (0 : Int)) (C := (23 : Int)) (lI _) rfl rfl ⟨_, rfl, ?_⟩
    refine b_z (fun c2 => ?_) (fun c2 => ?_)
    · first
        | exact hb (by unfold okWr; omega)
        | exact hf (by unfold okWr; omega) (by omega)
        | (refine Qi (hg (by unfold okWr; omega) (by omega) _ ?_ ?_ ?_ ?_ ?_) ?_ <;> subst_vars
           all_goals first | (intro k hk; simp at hk; simp [wI, hk]; done) | simp [wI, upd])
    · refine M_in_ok (A := (c).toInt) (B := (0 : Int)) (C := (9999 : Int)) (lI _) rfl rfl ⟨_, rfl, ?_⟩
      refine b_nz (fun c3 => ?_) (fun c3 => ?_)
      · refine ⟨fun c4 => ?_, fun c4 => ?_⟩
        · have c4 : ¬ ((μ.1 0 14)).toInt = (5 : Int) := fun z => c4 (eq32.mpr z)
          refine ⟨by first | exact hi (by omega) | (subst_vars; simp [wI]; exact hi (by omega)), ?_⟩
          intro μ7 eμ7
          refine ⟨by first | exact hi (by omega) | (subst_vars; simp [wI]; exact hi (by omega)), ?_⟩
          intro μ8 eμ8
          refine ⟨by first | exact hi (by omega) | (subst_vars; simp [wI]; exact hi (by omega)), ?_⟩
          intro μ9 eμ9
          intro μ10 eμ10
          first
            | exact hb (by unfold okWr; omega)
            | exact hf (by unfold okWr; omega) (by omega)
            | (refine Qi (hg (by unfold okWr; omega) (by omega) _ ?_ ?_ ?_ ?_ ?_) ?_ <;> subst_vars
               all_goals first | (intro k hk; simp at hk; simp [wI, hk]; done) | simp [wI, upd])
        · have c4 : ((μ.1 0 14)).toInt = (5 : Int) := eq32.mp c4
          first
            | exact hb (by unfold okWr; omega)
            | exact hf (by unfold okWr; omega) (by omega)
            | (refine Qi (hg (by unfold okWr; omega) (by omega) _ ?_ ?_ ?_ ?_ ?_) ?_ <;> subst_vars
               all_goals first | (intro k hk; simp at hk; simp [wI, hk]; done) | simp [wI, upd])
      · first
          | exact hb (by unfold okWr; omega)
          | exact hf (by unfold okWr; omega) (by omega)
          | (refine Qi (hg (by unfold okWr; omega) (by omega) _ ?_ ?_ ?_ ?_ ?_) ?_ <;> subst_vars
             all_goals first | (intro k hk; simp at hk; simp [wI, hk]; done) | simp [wI, upd])
def okLw (a b : Int32) : Prop := 0 ≤ a.toInt ∧ a.toInt ≤ 5 ∧ 0 ≤ b.toInt ∧ b.toInt ≤ 9
theorem M_law_ok {d : Nat} {Q : QQ} {μ : Mem} {a b : Int32} (h : rng (μ.1 0 17) 1 6) (hb : ¬ okLw a b → Q (.int (-2)) μ) (hf : okLw a b → (μ.1 0 17).toInt = 6 → Q (.int (-4)) μ)
    (hg : okLw a b → (μ.1 0 17).toInt < 6 → ∀ μ', Only [0, 10, 11] μ μ' → μ'.1 10 = upd (μ.1 10) (μ.1 0 17).toNatClampNeg a → μ'.1 11 = upd (μ.1 11) (μ.1 0 17).toNatClampNeg b → μ'.1 0 = upd (μ.1 0) 17 (μ.1 0 17 + 1) → Q (.int (μ.1 0 17)) μ') : Call (d + 2) y_M_law [.ref 0, .int a, .int b] μ Q := by
  obtain ⟨h1, h2⟩ := h
  have hi : (μ.1 0 17).toInt < 6 → vp_in (μ.1 0 17) 6 := fun z => vin_of (by omega) z
  refine b_M_law_0 ?_
  refine M_in_ok (A := (a).toInt) (B := (0 : Int)) (C := (5 : Int)) (lI _) rfl rfl ⟨_, rfl, ?_⟩
  refine b_z (fun c1 => ?_) (fun c1 => ?_)
  · first
      | exact hb (by unfold okLw; omega)
      | exact hf (by unfold okLw; omega) (by omega)
      | (refine Qi (hg (by unfold okLw; omega) (by omega) _ ?_ ?_ ?_ ?_) ?_ <;> subst_vars
         all_goals first | (intro k hk; simp at hk; simp [wI, hk]; done) | simp [wI, upd])
  · refine M_in_ok (A := (b).toInt) (B := (0 : Int)) (C := (9 : Int)) (lI _) rfl rfl ⟨_, rfl, ?_⟩
    refine b_nz (fun c2 => ?_) (fun c2 => ?_)
    · refine ⟨fun c3 => ?_, fun c3 => ?_⟩
      · have c3 : ¬ ((μ.1 0 17)).toInt = (6 : Int) := fun z => c3 (eq32.mpr z)
        refine ⟨by first | exact hi (by omega) | (subst_vars; simp [wI]; exact hi (by omega)), ?_⟩
        intro μ5 eμ5
        refine ⟨by first | exact hi (by omega) | (subst_vars; simp [wI]; exact hi (by omega)), ?_⟩
        intro μ6 eμ6
        intro μ7 eμ7
        first
          | exact hb (by unfold okLw; omega)
          | exact hf (by unfold okLw; omega) (by omega)
          | (refine Qi (hg (by unfold okLw; omega) (by omega) _ ?_ ?_ ?_ ?_) ?_ <;> subst_vars
             all_goals first | (intro k hk; simp at hk; simp [wI, hk]; done) | simp [wI, upd])
      · have c3 : ((μ.1 0 17)).toInt = (6 : Int) := eq32.mp c3
        first
          | exact hb (by unfold okLw; omega)
          | exact hf (by unfold okLw; omega) (by omega)
          | (refine Qi (hg (by unfold okLw; omega) (by omega) _ ?_ ?_ ?_ ?_) ?_ <;> subst_vars
             all_goals first | (intro k hk; simp at hk; simp [wI, hk]; done) | simp [wI, upd])
    · first
        | exact hb (by unfold okLw; omega)
        | exact hf (by unfold okLw; omega) (by omega)
        | (refine Qi (hg (by unfold okLw; omega) (by omega) _ ?_ ?_ ?_ ?_) ?_ <;> subst_vars
           all_goals first | (intro k hk; simp at hk; simp [wI, hk]; done) | simp [wI, upd])
theorem M_rule_ok {d : Nat} {Q : QQ} {μ : Mem} {a : Int32} (h : cntM μ) (hb : ¬ (0 ≤ a.toInt ∧ a.toInt < (μ.1 0 17).toInt) → Q (.int (-2)) μ) (hg : 0 ≤ a.toInt ∧ a.toInt < (μ.1 0 17).toInt → ∀ μ', Only [0] μ μ' → μ'.1 0 = upd (μ.1 0) 18 a → Q (.int (μ.1 0 18)) μ') : Call (d + 3) y_M_rule [.ref 0, .int a] μ Q := by
  obtain ⟨h1, h2, h3, -⟩ := h
  refine b_M_rule_0 ?_
  refine M_isLaw_ok h3 ⟨_, rfl, ?_⟩
  refine b_nz (fun c1 => ?_) (fun c1 => ?_)
  · intro μ3 eμ3
    first
      | exact hb (by omega)
      | (refine hg (by omega) _ ?_ ?_ <;> subst_vars
         all_goals first | (intro k hk; simp at hk; simp [wI, hk]; done) | simp [wI, upd])
  · first
      | exact hb (by omega)
      | (refine hg (by omega) _ ?_ ?_ <;> subst_vars
         all_goals first | (intro k hk; simp at hk; simp [wI, hk]; done) | simp [wI, upd])
theorem M_feed_ok {d : Nat} {Q : QQ} {μ : Mem} {a : Int32} (h : rng (μ.1 0 6) 0 160) (hb : ¬ (0 ≤ a.toInt ∧ a.toInt ≤ 255) → Q (.int (-2)) μ) (hf : 0 ≤ a.toInt ∧ a.toInt ≤ 255 → (μ.1 0 6).toInt = 160 → Q (.int (-4)) μ)
    (hg : 0 ≤ a.toInt ∧ a.toInt ≤ 255 → (μ.1 0 6).toInt < 160 → ∀ μ', Only [0, 3] μ μ' → μ'.1 3 = upd (μ.1 3) (μ.1 0 6).toNatClampNeg a → μ'.1 0 = upd (μ.1 0) 6 (μ.1 0 6 + 1) → Q (.int (μ.1 0 6 + 1)) μ') : Call (d + 2) y_M_feed [.ref 0, .int a] μ Q := by
  obtain ⟨h1, h2⟩ := h
  have hi : (μ.1 0 6).toInt < 160 → vp_in (μ.1 0 6) 160 := fun z => vin_of (by omega) z
  refine b_M_feed_0 ?_
  refine M_in_ok (A := (a).toInt) (B := (0 : Int)) (C := (255 : Int)) (lI _) rfl rfl ⟨_, rfl, ?_⟩
  refine b_nz (fun c1 => ?_) (fun c1 => ?_)
  · refine ⟨fun c2 => ?_, fun c2 => ?_⟩
    · have c2 : ¬ ((μ.1 0 6)).toInt = (160 : Int) := fun z => c2 (eq32.mpr z)
      refine ⟨by first | exact hi (by omega) | (subst_vars; simp [wI]; exact hi (by omega)), ?_⟩
      intro μ3 eμ3
      intro μ4 eμ4
      first
        | exact hb (by omega)
        | exact hf (by omega) (by omega)
        | (refine Qi (hg (by omega) (by omega) _ ?_ ?_ ?_) ?_ <;> subst_vars
           all_goals first | (intro k hk; simp at hk; simp [wI, hk]; done) | simp [wI, upd])
    · have c2 : ((μ.1 0 6)).toInt = (160 : Int) := eq32.mp c2
      first
        | exact hb (by omega)
        | exact hf (by omega) (by omega)
        | (refine Qi (hg (by omega) (by omega) _ ?_ ?_ ?_) ?_ <;> subst_vars
           all_goals first | (intro k hk; simp at hk; simp [wI, hk]; done) | simp [wI, upd])
  · first
      | exact hb (by omega)
      | exact hf (by omega) (by omega)
      | (refine Qi (hg (by omega) (by omega) _ ?_ ?_ ?_) ?_ <;> subst_vars
         all_goals first | (intro k hk; simp at hk; simp [wI, hk]; done) | simp [wI, upd])
theorem M_force_ok {d : Nat} {Q : QQ} {μ : Mem} {a : Int32} (h : rng (μ.1 0 3) 1 6) (hb : ¬ (0 ≤ a.toInt ∧ a.toInt < (μ.1 0 3).toInt) → Q (.int (-2)) μ) (hg : 0 ≤ a.toInt ∧ a.toInt < (μ.1 0 3).toInt → ∀ μ', Only [0] μ μ' → μ'.1 0 = upd (μ.1 0) 4 a → Q (.int (μ.1 0 4)) μ') : Call (d + 2) y_M_force [.ref 0, .int a] μ Q := by
  obtain ⟨h1, h2⟩ := h
  have e1 : ((μ.1 0 3) - 1).toInt = (μ.1 0 3).toInt - 1 := sub32 (by show _ ≤ _ - 1; omega) (by show _ - 1 < _; omega)
  refine b_M_force_0 ?_
  refine M_in_ok (A := (a).toInt) (B := (0 : Int)) (C := (((μ.1 0 3) - 1)).toInt) (lI _) rfl (lI _) ⟨_, rfl, ?_⟩
  refine b_nz (fun c1 => ?_) (fun c1 => ?_)
  · intro μ3 eμ3
    first
      | exact hb (by omega)
      | (refine hg (by omega) _ ?_ ?_ <;> subst_vars
         all_goals first | (intro k hk; simp at hk; simp [wI, hk]; done) | simp [wI, upd])
  · first
      | exact hb (by omega)
      | (refine hg (by omega) _ ?_ ?_ <;> subst_vars
         all_goals first | (intro k hk; simp at hk; simp [wI, hk]; done) | simp [wI, upd])
