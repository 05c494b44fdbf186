/-! ===== the class: sheets ===== -/
theorem wlen_sh {n : Nat} (h : n < 4) : wlen 0 (61 + n) = 40 := by
  rcases (show n = 0 ∨ n = 1 ∨ n = 2 ∨ n = 3 by omega) with rfl | rfl | rfl | rfl <;> rfl
theorem ilen_sh {n : Nat} (h : n < 4) : ilen 0 (61 + n) = 40 := by
  rcases (show n = 0 ∨ n = 1 ∨ n = 2 ∨ n = 3 by omega) with rfl | rfl | rfl | rfl <;> rfl
theorem Sheets_lay_ok {d : Nat} {Q : QQ} {μ : Mem} {a b c : Int32} (ha : 0 ≤ a.toInt ∧ a.toInt ≤ 3) (hQ : ∀ μ', Only [58, 59, 61 + a.toNatClampNeg] μ μ' → μ'.1 58 = upd (μ.1 58) a.toNatClampNeg b → μ'.1 59 = upd (μ.1 59) a.toNatClampNeg c → (∀ j, j < 40 → μ'.1 (61 + a.toNatClampNeg) j = 0) → Q .null μ') : Call (d + 1) y_Sheets_lay [.ref 57, .int a, .int b, .int c] μ Q := by
  have hv : vp_in a 4 := vin_of ha.1 (by omega)
  have hlt := vin_lt hv
  refine b_Sheets_lay_0 ⟨hv, fun μ1 e1 => ⟨hv, fun μ2 e2 => ?_⟩⟩
  refine loopN (G := fun i t => AA (Call d) y_Sheets_lay Q 12 [.ref 57, .int a, .int b, .int c, .int (nI i)] [] t) (P := fun i t => Only [61 + a.toNatClampNeg] μ2 t ∧ ∀ j, j < i → t.1 (61 + a.toNatClampNeg) j = 0) (N := 40) ?_ ?_ 0 μ2 (by omega) ⟨Only.rf, fun j hj => absurd hj (by omega)⟩
  · intro t ⟨q1, q2⟩
    refine b_Sheets_lay_12 ⟨fun _ => hQ t ?_ ?_ ?_ q2, fun z => absurd (by decide) z⟩
    · intro k hk
      simp at hk
      have := q1 k (by simp; omega)
      rw [this.1, this.2, e2, e1]
      simp [wI, hk]
    · rw [q1.i 58 (by simp; omega), e2, wI_n (by decide), e1, wI_s]
    · rw [q1.i 59 (by simp; omega), e2, wI_s, e1, wI_n (by decide)]
  · intro i t hi ⟨q1, q2⟩ ih
    have ei := nI_i (n := i) (by omega)
    refine b_Sheets_lay_12 ⟨fun z => absurd (le32.mp z) (by rw [ei]; show ¬ (40 : Int) ≤ _; omega), fun _ => ⟨hv, by rw [wlen_sh hlt]; exact nI_v hi (by omega), fun μ3 e3 => ?_⟩⟩
    rw [nI_c (by omega)] at e3
    rw [nI_1]
    refine ih _ ⟨q1.trans (by rw [e3]; exact Only.w (by simp)), fun j hj => ?_⟩
    rw [e3, wI_s]
    by_cases hji : j = i
    · rw [hji, upd_s]
    · rw [upd_n hji]
      exact q2 j (by omega)
theorem X_sheet_ok {d : Nat} {Q : QQ} {μ : Mem} {a b c : Int32} (hb : ¬ okSh a b c → Q (.int (-2)) μ) (hn : okSh a b c → 0 ≤ b.toInt → c.toInt < 0 → Q (.int (-14)) μ)
    (hm : okSh a b c → b.toInt = -1 → ∀ μ', Only [58] μ μ' → μ'.1 58 = upd (μ.1 58) a.toNatClampNeg (-1) → Q (.int 1) μ')
    (hg : okSh a b c → 0 ≤ b.toInt → 0 ≤ c.toInt → ∀ μ', Only [58, 59, 61 + a.toNatClampNeg] μ μ' → μ'.1 58 = upd (μ.1 58) a.toNatClampNeg b → μ'.1 59 = upd (μ.1 59) a.toNatClampNeg c → (∀ j, j < 40 → μ'.1 (61 + a.toNatClampNeg) j = 0) → Q (.int 1) μ') : Call (d + 2) y_X_sheet [.ref 0, .int a, .int b, .int c] μ Q := by
  refine b_X_sheet_0 ?_
  refine X_within_ok (A := a.toInt) (B := 3) rfl rfl ⟨_, rfl, b_z (fun c1 => hb (fun z => c1 ⟨z.1, z.2.1⟩)) (fun c1 => ?_)⟩
  refine X_within_ok (A := (b - (-1)).toInt) (B := 3) rfl rfl ⟨_, rfl, b_nz (fun c2 => ?_) (fun c2 => hb (fun z => c2 ?_))⟩
  · have hbr : -1 ≤ b.toInt ∧ b.toInt ≤ 2 := by
      by_cases hbig : b.toInt = 2147483647
      · have : b = 2147483647 := eq32.mpr hbig
        subst this
        exact absurd c2.1 (by decide)
      · have e : (b - (-1)).toInt = b.toInt + 1 := by
          have := Int32.toInt_lt b
          have := Int32.le_toInt b
          rw [sub32 (by show _ ≤ _ - (-1 : Int); omega) (by show _ - (-1 : Int) < _; omega)]
          show _ - (-1 : Int) = _
          omega
        omega
    refine ⟨fun c3 => ⟨fun c4 => ⟨fun c5 => ?_, fun c5 => ?_⟩, fun c4 => ?_⟩, fun c3 => ⟨vin_of c1.1 (by omega), fun μ6 e6 => ?_⟩⟩
    · have c3 : ¬ b.toInt = -1 := fun z => c3 (eq32.mpr z)
      have c4 : c.toInt ≤ 40 := le32.mp c4
      have c5 : 0 ≤ c.toInt := le32.mp c5
      exact Sheets_lay_ok c1 (fun μ' o1 o2 o3 o4 => hg ⟨c1.1, c1.2, hbr.1, hbr.2, fun _ => c4⟩ (by omega) c5 μ' o1 o2 o3 o4)
    · have c3 : ¬ b.toInt = -1 := fun z => c3 (eq32.mpr z)
      have c4 : c.toInt ≤ 40 := le32.mp c4
      have c5 : ¬ 0 ≤ c.toInt := fun z => c5 (le32.mpr z)
      exact hn ⟨c1.1, c1.2, hbr.1, hbr.2, fun _ => c4⟩ (by omega) (by omega)
    · have c3 : ¬ b.toInt = -1 := fun z => c3 (eq32.mpr z)
      have c4 : ¬ c.toInt ≤ 40 := fun z => c4 (le32.mpr z)
      exact hb (fun z => c4 (z.2.2.2.2 (by omega)))
    · have c3 : b.toInt = -1 := eq32.mp c3
      exact hm ⟨c1.1, c1.2, hbr.1, hbr.2, fun z => by omega⟩ c3 μ6 (by rw [e6]; exact Only.w) (by rw [e6, wI_s])
  · obtain ⟨z1, z2, z3, z4, z5⟩ := z
    have e : (b - (-1)).toInt = b.toInt + 1 := by
      rw [sub32 (by show _ ≤ _ - (-1 : Int); omega) (by show _ - (-1 : Int) < _; omega)]
      show _ - (-1 : Int) = _
      omega
    omega
theorem X_cell_ok {d : Nat} {Q : QQ} {μ : Mem} {a b c : Int32} (hsz : 0 ≤ a.toInt → a.toInt ≤ 3 → ¬ (μ.1 58 a.toNatClampNeg).toInt = -1 → rng (μ.1 59 a.toNatClampNeg) 0 40) (hb : ¬ (0 ≤ a.toInt ∧ a.toInt ≤ 3) → Q (.int (-2)) μ) (hm : 0 ≤ a.toInt ∧ a.toInt ≤ 3 → (μ.1 58 a.toNatClampNeg).toInt = -1 → Q (.int (-11)) μ)
    (ho : 0 ≤ a.toInt ∧ a.toInt ≤ 3 → ¬ (μ.1 58 a.toNatClampNeg).toInt = -1 → ¬ (0 ≤ b.toInt ∧ b.toInt < (μ.1 59 a.toNatClampNeg).toInt) → Q (.int (-12)) μ)
    (hg : 0 ≤ a.toInt ∧ a.toInt ≤ 3 → ¬ (μ.1 58 a.toNatClampNeg).toInt = -1 → 0 ≤ b.toInt ∧ b.toInt < (μ.1 59 a.toNatClampNeg).toInt → ∀ μ', μ' = wI μ (61 + a.toNatClampNeg) (upd (μ.1 (61 + a.toNatClampNeg)) b.toNatClampNeg (keepF (μ.1 58 a.toNatClampNeg) c)) → Q (.int 1) μ') : Call (d + 2) y_X_cell [.ref 0, .int a, .int b, .int c] μ Q := by
  refine b_X_cell_0 ?_
  refine X_within_ok (A := a.toInt) (B := 3) rfl rfl ⟨_, rfl, b_nz (fun c1 => ?_) (fun c1 => hb c1)⟩
  have hv : vp_in a 4 := vin_of c1.1 (by omega)
  have hlt := vin_lt hv
  refine ⟨hv, fun c2 => ⟨hv, ?_⟩, fun c2 => hm c1 (eq32.mp c2)⟩
  have c2 : ¬ (μ.1 58 a.toNatClampNeg).toInt = -1 := fun z => c2 (eq32.mpr z)
  obtain ⟨s1, s2⟩ := hsz c1.1 c1.2 c2
  have em := m1 (v := μ.1 59 a.toNatClampNeg) s1
  refine X_within_ok (A := b.toInt) (B := (μ.1 59 a.toNatClampNeg - 1).toInt) rfl rfl ⟨_, rfl, b_nz (fun c3 => ?_) (fun c3 => ho c1 c2 (by omega))⟩
  have hvb : vp_in b (wlen 0 (61 + a.toNatClampNeg)) := by rw [wlen_sh hlt]; exact vin_of c3.1 (by omega)
  have g := hg c1 c2 (by omega)
  refine b_Sheets_put_0 ⟨hv, fun c4 => ⟨hv, fun c5 => ⟨hv, hvb, fun μ1 e1 => g μ1 ?_⟩, fun c5 => ⟨hv, hvb, fun μ1 e1 => g μ1 ?_⟩⟩, fun c4 => ⟨hv, hvb, fun μ1 e1 => g μ1 ?_⟩⟩
  · have c4 : ¬ (μ.1 58 a.toNatClampNeg).toInt = 0 := fun z => c4 (eq32.mpr z)
    have c5 : ¬ (μ.1 58 a.toNatClampNeg).toInt = 1 := fun z => c5 (eq32.mpr z)
    rw [e1]; unfold keepF; rw [if_neg c4, if_neg c5]
  · have c4 : ¬ (μ.1 58 a.toNatClampNeg).toInt = 0 := fun z => c4 (eq32.mpr z)
    have c5 : (μ.1 58 a.toNatClampNeg).toInt = 1 := eq32.mp c5
    rw [e1]; unfold keepF; rw [if_neg c4, if_pos c5]
  · have c4 : (μ.1 58 a.toNatClampNeg).toInt = 0 := eq32.mp c4
    rw [e1]; unfold keepF; rw [if_pos c4]
theorem Sheets_hasRoom_ok {d : Nat} {Q : QQ} {μ : Mem} {a b c : Int32} (ha : 0 ≤ a.toInt ∧ a.toInt ≤ 3) (hs : rng (μ.1 59 a.toNatClampNeg) 0 40) (hQ : Q (.int (b2p (0 ≤ b.toInt ∧ 0 ≤ c.toInt ∧ b.toInt ≤ (μ.1 59 a.toNatClampNeg).toInt - c.toInt))) μ) : Call (d + 1) y_Sheets_hasRoom [.ref 57, .int a, .int b, .int c] μ Q := by
  obtain ⟨s1, s2⟩ := hs
  have es : ¬ c.toInt < 0 → ((μ.1 59 a.toNatClampNeg) - c).toInt = (μ.1 59 a.toNatClampNeg).toInt - c.toInt := by
    intro z
    have := Int32.toInt_lt c
    exact sub32 (by omega) (by omega)
  refine b_Sheets_hasRoom_0 ?_
  refine ⟨fun c1 => ?_, fun c1 => ?_⟩
  · have c1 : (b).toInt < (0 : Int) := lt32.mp c1
    refine ⟨by rfl, ?_⟩
    first
      | exact bQ0 hQ (by omega)
      | exact bQ0 hQ (by rw [es (by assumption)] at *; omega)
      | exact bQ1 hQ (by rw [es (by assumption)] at *; omega)
  · have c1 : ¬ (b).toInt < (0 : Int) := fun z => c1 (lt32.mpr z)
    refine ⟨fun c2 => ?_, fun c2 => ?_⟩
    · have c2 : (c).toInt < (0 : Int) := lt32.mp c2
      refine ⟨by rfl, ?_⟩
      first
        | exact bQ0 hQ (by omega)
        | exact bQ0 hQ (by rw [es (by assumption)] at *; omega)
        | exact bQ1 hQ (by rw [es (by assumption)] at *; omega)
    · have c2 : ¬ (c).toInt < (0 : Int) := fun z => c2 (lt32.mpr z)
      refine ⟨by exact vin_of (by omega) (by omega), ?_⟩
      refine ⟨fun c3 => ?_, fun c3 => ?_⟩
      · have c3 : ((μ.1 59 a.toNatClampNeg)).toInt < (c).toInt := lt32.mp c3
        refine ⟨by rfl, ?_⟩
        first
          | exact bQ0 hQ (by omega)
          | exact bQ0 hQ (by rw [es (by assumption)] at *; omega)
          | exact bQ1 hQ (by rw [es (by assumption)] at *; omega)
      · have c3 : ¬ ((μ.1 59 a.toNatClampNeg)).toInt < (c).toInt := fun z => c3 (lt32.mpr z)
        refine ⟨by exact vin_of (by omega) (by omega), ?_⟩
        refine ⟨fun c4 => ?_, fun c4 => ?_⟩
        · have c4 : (((μ.1 59 a.toNatClampNeg) - c)).toInt < (b).toInt := lt32.mp c4
          refine ⟨by rfl, ?_⟩
          first
            | exact bQ0 hQ (by omega)
            | exact bQ0 hQ (by rw [es (by assumption)] at *; omega)
            | exact bQ1 hQ (by rw [es (by assumption)] at *; omega)
        · have c4 : ¬ (((μ.1 59 a.toNatClampNeg) - c)).toInt < (b).toInt := fun z => c4 (lt32.mpr z)
          refine ⟨by rfl, ?_⟩
          first
            | exact bQ0 hQ (by omega)
            | exact bQ0 hQ (by rw [es (by assumption)] at *; omega)
            | exact bQ1 hQ (by rw [es (by assumption)] at *; omega)
/-- sheets: their sizes -/
def shX (μ : Mem) : Prop := ∀ s, s < 4 → ¬ (μ.1 58 s).toInt = -1 → rng (μ.1 59 s) 0 40
def okCpX (μ : Mem) (a b c e f : Int32) : Prop := 0 ≤ f.toInt ∧ 0 ≤ b.toInt ∧ 0 ≤ e.toInt ∧ b.toInt ≤ (μ.1 59 a.toNatClampNeg).toInt - f.toInt ∧ e.toInt ≤ (μ.1 59 c.toNatClampNeg).toInt - f.toInt
theorem X_copy_ok {d : Nat} {Q : QQ} {μ : Mem} {a b c e f : Int32} (hsh : shX μ) (hb : ¬ (0 ≤ a.toInt ∧ a.toInt ≤ 3 ∧ 0 ≤ c.toInt ∧ c.toInt ≤ 3) → Q (.int (-2)) μ) (hm : 0 ≤ a.toInt ∧ a.toInt ≤ 3 ∧ 0 ≤ c.toInt ∧ c.toInt ≤ 3 → (μ.1 58 a.toNatClampNeg).toInt = -1 ∨ (μ.1 58 c.toNatClampNeg).toInt = -1 → Q (.int (-11)) μ)
    (hu : 0 ≤ a.toInt ∧ a.toInt ≤ 3 ∧ 0 ≤ c.toInt ∧ c.toInt ≤ 3 → ¬ (μ.1 58 a.toNatClampNeg).toInt = -1 → ¬ (μ.1 58 c.toNatClampNeg).toInt = -1 → ¬ (μ.1 58 a.toNatClampNeg).toInt = (μ.1 58 c.toNatClampNeg).toInt → Q (.int (-13)) μ)
    (ho : 0 ≤ a.toInt ∧ a.toInt ≤ 3 ∧ 0 ≤ c.toInt ∧ c.toInt ≤ 3 → ¬ (μ.1 58 a.toNatClampNeg).toInt = -1 → ¬ (μ.1 58 c.toNatClampNeg).toInt = -1 → (μ.1 58 a.toNatClampNeg).toInt = (μ.1 58 c.toNatClampNeg).toInt → ¬ okCpX μ a b c e f → Q (.int (-12)) μ)
    (hg : 0 ≤ a.toInt ∧ a.toInt ≤ 3 ∧ 0 ≤ c.toInt ∧ c.toInt ≤ 3 → ¬ (μ.1 58 a.toNatClampNeg).toInt = -1 → ¬ (μ.1 58 c.toNatClampNeg).toInt = -1 → (μ.1 58 a.toNatClampNeg).toInt = (μ.1 58 c.toNatClampNeg).toInt → okCpX μ a b c e f → ∀ μ', μ' = wI μ (61 + c.toNatClampNeg) (va_cpy (μ.1 (61 + a.toNatClampNeg)) (μ.1 (61 + c.toNatClampNeg)) b.toNatClampNeg e.toNatClampNeg f.toNatClampNeg) → Q (.int f) μ') : Call (d + 2) y_X_copy [.ref 0, .int a, .int b, .int c, .int e, .int f] μ Q := by
  have cl : ∀ v : Int32, 0 ≤ v.toInt → (v.toNatClampNeg : Int) = v.toInt := by
    intro v hv
    rw [toNatC]
    omega
  have sz : ∀ v : Int32, 0 ≤ v.toInt → v.toInt ≤ 3 → ¬ (μ.1 58 v.toNatClampNeg).toInt = -1 → rng (μ.1 59 v.toNatClampNeg) 0 40 := fun v q1 q2 q3 => hsh _ (vin_lt (vin_of q1 (by omega))) q3
  refine b_X_copy_0 ?_
  refine X_within_ok (A := a.toInt) (B := 3) rfl rfl ⟨_, rfl, b_z (fun c1 => hb (fun z => c1 ⟨z.1, z.2.1⟩)) (fun c1 => ?_)⟩
  refine X_within_ok (A := c.toInt) (B := 3) rfl rfl ⟨_, rfl, b_nz (fun c2 => ?_) (fun c2 => hb (fun z => c2 z.2.2))⟩
  have hva : vp_in a 4 := vin_of c1.1 (by omega)
  have hvc : vp_in c 4 := vin_of c2.1 (by omega)
  have hA : 0 ≤ a.toInt ∧ a.toInt ≤ 3 ∧ 0 ≤ c.toInt ∧ c.toInt ≤ 3 := ⟨c1.1, c1.2, c2⟩
  refine ⟨hva, fun c3 => hm hA (Or.inl (eq32.mp c3)), fun c3 => ⟨hvc, fun c4 => ⟨hva, hvc, fun c5 => ?_, fun c5 => ?_⟩, fun c4 => hm hA (Or.inr (eq32.mp c4))⟩⟩
  · have c3 : ¬ (μ.1 58 a.toNatClampNeg).toInt = -1 := fun z => c3 (eq32.mpr z)
    have c4 : ¬ (μ.1 58 c.toNatClampNeg).toInt = -1 := fun z => c4 (eq32.mpr z)
    have c5 := eq32.mp c5
    have ha40 := sz a c1.1 c1.2 c3
    have hc40 := sz c c2.1 c2.2 c4
    refine Sheets_hasRoom_ok c1 ha40 ⟨_, rfl, b_z (fun c6 => ho hA c3 c4 c5 (fun z => c6 ⟨z.2.1, z.1, z.2.2.2.1⟩)) (fun c6 => ?_)⟩
    refine Sheets_hasRoom_ok c2 hc40 ⟨_, rfl, b_nz (fun c7 => ?_) (fun c7 => ho hA c3 c4 c5 (fun z => c7 ⟨z.2.2.1, z.1, z.2.2.2.2⟩))⟩
    have k1 := cl b c6.1
    have k2 := cl e c7.1
    have k3 := cl f c6.2.1
    have g1 := ha40.2
    have g2 := hc40.2
    refine ⟨hva, hvc, ⟨fun z => absurd (lt32.mp z) (by show ¬ _ < (0 : Int); omega), fun z => absurd (lt32.mp z) (by show ¬ _ < (0 : Int); omega), fun z => absurd (lt32.mp z) (by show ¬ _ < (0 : Int); omega), ?_, ?_, ?_, ?_⟩, fun μ9 e9 => hg hA c3 c4 c5 ⟨c6.2.1, c6.1, c7.1, c6.2.2, c7.2.2⟩ μ9 e9⟩
    · rw [wlen_sh (vin_lt hva)]; omega
    · rw [wlen_sh (vin_lt hvc)]; omega
    · rw [wlen_sh (vin_lt hva)]; omega
    · rw [wlen_sh (vin_lt hvc)]; omega
  · have c3 : ¬ (μ.1 58 a.toNatClampNeg).toInt = -1 := fun z => c3 (eq32.mpr z)
    have c4 : ¬ (μ.1 58 c.toNatClampNeg).toInt = -1 := fun z => c4 (eq32.mpr z)
    exact hu hA c3 c4 (fun z => c5 (eq32.mpr z))
