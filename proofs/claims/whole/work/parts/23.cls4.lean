/-! ===== the class: writers by a sheet, the image ===== -/
theorem X_writers_ok {d : Nat} {Q : QQ} {μ : Mem} {a b c e : Int32} (hsh : shX μ) (J : Nat → Int32 → Mem → Prop) (hcnt : ∀ k v t, J k v t → rng (t.1 16 3) 0 5 ∧ t.1 58 = μ.1 58 ∧ t.1 59 = μ.1 59 ∧ ∀ s, s < 4 → t.1 (61 + s) = μ.1 (61 + s))
    (hJ0 : J 0 0 μ) (hb : ¬ (0 ≤ a.toInt ∧ a.toInt ≤ 3 ∧ 0 ≤ b.toInt ∧ b.toInt ≤ 2 ∧ 0 ≤ e.toInt ∧ e.toInt ≤ 5) → Q (.int (-2)) μ)
    (hm : 0 ≤ a.toInt ∧ a.toInt ≤ 3 ∧ 0 ≤ b.toInt ∧ b.toInt ≤ 2 ∧ 0 ≤ e.toInt ∧ e.toInt ≤ 5 → (μ.1 58 a.toNatClampNeg).toInt = -1 → Q (.int (-11)) μ)
    (hu : 0 ≤ a.toInt ∧ a.toInt ≤ 3 ∧ 0 ≤ b.toInt ∧ b.toInt ≤ 2 ∧ 0 ≤ e.toInt ∧ e.toInt ≤ 5 → ¬ (μ.1 58 a.toNatClampNeg).toInt = -1 → ¬ (μ.1 58 a.toNatClampNeg).toInt = b.toInt → Q (.int (-13)) μ)
    (hx : 0 ≤ a.toInt ∧ a.toInt ≤ 3 ∧ 0 ≤ b.toInt ∧ b.toInt ≤ 2 ∧ 0 ≤ e.toInt ∧ e.toInt ≤ 5 → ¬ (μ.1 58 a.toNatClampNeg).toInt = -1 → (μ.1 58 a.toNatClampNeg).toInt = b.toInt → ∀ v t, J e.toNatClampNeg v t → Q (.int v) t)
    (ho : 0 ≤ a.toInt ∧ a.toInt ≤ 3 ∧ 0 ≤ b.toInt ∧ b.toInt ≤ 2 ∧ 0 ≤ e.toInt ∧ e.toInt ≤ 5 → ¬ (μ.1 58 a.toNatClampNeg).toInt = -1 → (μ.1 58 a.toNatClampNeg).toInt = b.toInt → ∀ k v t, k < e.toNatClampNeg → J k v t → ¬ (0 ≤ c.toInt ∧ c.toInt + 3 * k + 3 ≤ (μ.1 59 a.toNatClampNeg).toInt) → Q (.int (-12)) t)
    (hs : 0 ≤ a.toInt ∧ a.toInt ≤ 3 ∧ 0 ≤ b.toInt ∧ b.toInt ≤ 2 ∧ 0 ≤ e.toInt ∧ e.toInt ≤ 5 → ¬ (μ.1 58 a.toNatClampNeg).toInt = -1 → (μ.1 58 a.toNatClampNeg).toInt = b.toInt → ∀ k v t, k < e.toNatClampNeg → J k v t → 0 ≤ c.toInt ∧ c.toInt + 3 * k + 3 ≤ (μ.1 59 a.toNatClampNeg).toInt →
      (let f := μ.1 (61 + a.toNatClampNeg)
       let p := c.toNatClampNeg + 3 * k
       (¬ (okWr (f p) (f (p + 1)) (f (p + 2)) ∧ (t.1 16 3).toInt < 5) → J (k + 1) v t) ∧
       (okWr (f p) (f (p + 1)) (f (p + 2)) → (t.1 16 3).toInt < 5 → ∀ t', Only [16, 17, 18, 19] t t' → t'.1 17 = upd (t.1 17) (t.1 16 3).toNatClampNeg (f p) → t'.1 18 = upd (t.1 18) (t.1 16 3).toNatClampNeg (f (p + 1)) → t'.1 19 = upd (t.1 19) (t.1 16 3).toNatClampNeg (f (p + 2)) → t'.1 16 = upd (t.1 16) 3 (t.1 16 3 + 1) → J (k + 1) (v + 1) t'))) : Call (d + 3) y_X_writers [.ref 0, .int a, .int b, .int c, .int e] μ Q := by
  have key : 0 ≤ a.toInt ∧ a.toInt ≤ 3 ∧ 0 ≤ b.toInt ∧ b.toInt ≤ 2 ∧ 0 ≤ e.toInt ∧ e.toInt ≤ 5 → ¬ (μ.1 58 a.toNatClampNeg).toInt = -1 → (μ.1 58 a.toNatClampNeg).toInt = b.toInt → AA (Call (d + 2)) y_X_writers Q 44 [.ref 0, .int a, .int b, .int c, .int e, .ref (61 + a.toNatClampNeg), .int c, .int 0, .int 0] [] μ := by
    intro h1 h2 h3
    have hva : vp_in a 4 := vin_of h1.1 (by omega)
    have hlt := vin_lt hva
    obtain ⟨n, hn, en, en2⟩ := nI_ex (x := e) h1.2.2.2.2.1
    have cn : e.toNatClampNeg = n := by rw [en]; exact nI_c hn
    obtain ⟨s2, s3⟩ := hsh a.toNatClampNeg hlt h2
    have g := loopN (G := fun i t => AA (Call (d + 2)) y_X_writers Q 44 [.ref 0, .int a, .int b, .int c, .int e, .ref (61 + a.toNatClampNeg), .int t.1, .int t.2.1, .int (nI i)] [] t.2.2) (P := fun i t => J i t.2.1 t.2.2 ∧ (i = 0 → t.1 = c) ∧ (0 < i → 0 ≤ c.toInt ∧ c.toInt ≤ 40 ∧ t.1.toInt = c.toInt + 3 * i)) (N := n) ?_ ?_ 0 (c, (0 : Int32), μ) (by omega) ⟨hJ0, fun _ => rfl, fun z => absurd z (by omega)⟩
    · exact g
    · intro t ⟨q1, _⟩
      exact b_X_writers_44 ⟨fun _ => hx h1 h2 h3 _ _ (by rw [cn]; exact q1), fun z => absurd (le32.mpr (by rw [en2, nI_i hn]; omega)) z⟩
    · intro i ⟨w, v, t⟩ hi ⟨q1, q2, q3⟩ ih
      dsimp only at q1 q2 q3 ih ⊢
      obtain ⟨j1, j2, j3, j4⟩ := hcnt _ _ _ q1
      have ei := nI_i (n := i) (by omega)
      have hwc : (0 ≤ w.toInt ∧ w.toInt ≤ (μ.1 59 a.toNatClampNeg).toInt - 3) ↔ (0 ≤ c.toInt ∧ c.toInt + 3 * i + 3 ≤ (μ.1 59 a.toNatClampNeg).toInt) := by
        by_cases hi0 : i = 0
        · have := q2 hi0
          rw [this, hi0]
          omega
        · obtain ⟨k1, k2, k3⟩ := q3 (by omega)
          omega
      refine b_X_writers_44 ⟨fun z => absurd (le32.mp z) (by rw [en2, ei]; omega), fun _ => ?_⟩
      refine Sheets_hasRoom_ok ⟨h1.1, h1.2.1⟩ (by rw [j3]; exact ⟨s2, s3⟩) ⟨_, rfl, b_nz (fun c6 => ?_) (fun c6 => ho h1 h2 h3 i v t (by rw [cn]; exact hi) q1 (fun z => c6 ?_))⟩
      · have c6' : 0 ≤ w.toInt ∧ w.toInt ≤ (μ.1 59 a.toNatClampNeg).toInt - 3 := by
          rw [j3] at c6
          exact ⟨c6.1, c6.2.2⟩
        have hcc := hwc.mp c6'
        obtain ⟨nc, hnc, ec, ec2⟩ := nI_ex (x := c) hcc.1
        have cc : c.toNatClampNeg = nc := by rw [ec]; exact nI_c hnc
        have ew : w = nI (nc + 3 * i) := by
          apply Int32.toInt_inj.mp
          rw [nI_i (by omega)]
          by_cases hi0 : i = 0
          · rw [q2 hi0, ec2, hi0]; omega
          · rw [(q3 (by omega)).2.2, ec2]; omega
        have ep1 : nI (nc + 3 * i) + 1 = nI (nc + 3 * i + 1) := nI_1 _
        have ep2 : nI (nc + 3 * i) + 2 = nI (nc + 3 * i + 2) := nI_add _ 2
        have ep3 : nI (nc + 3 * i) + 3 = nI (nc + 3 * i + 3) := nI_add _ 3
        rw [ew, ep1, ep2, ep3, nI_c (by omega), nI_c (by omega), nI_c (by omega), j4 _ hlt, ilen_sh hlt]
        refine ⟨nI_v (by omega) (by omega), nI_v (by omega) (by omega), nI_v (by omega) (by omega), ?_⟩
        have hh := hs h1 h2 h3 i v t (by rw [cn]; exact hi) q1 hcc
        dsimp only at hh
        rw [cc] at hh
        obtain ⟨hh1, hh2⟩ := hh
        have nxt : ∀ v' t', J (i + 1) v' t' → AA (Call (d + 2)) y_X_writers Q 44 [.ref 0, .int a, .int b, .int c, .int e, .ref (61 + a.toNatClampNeg), .int (nI (nc + 3 * i + 3)), .int v', .int (nI i + 1)] [] t' := by
          intro v' t' hj
          rw [nI_1]
          exact ih (nI (nc + 3 * i + 3), v', t') ⟨hj, fun z => absurd z (by omega), fun _ => ⟨hcc.1, by omega, by rw [nI_i (by omega)]; omega⟩⟩
        refine Writers_add_ok j1 (fun y => ⟨_, rfl, fun _ => ?_, fun z => absurd (by decide) z⟩) (fun y y2 => ⟨_, rfl, fun _ => ?_, fun z => absurd (by decide) z⟩) (fun y y2 t' o1 o2 o3 o4 o5 => ⟨_, rfl, fun z => absurd (lt32.mp z) (by have := j1.1; show ¬ _ < (0 : Int); omega), fun _ => ?_⟩)
        · exact nxt _ _ (hh1 (fun z => y z.1))
        · exact nxt _ _ (hh1 (fun z => by omega))
        · exact nxt _ _ (hh2 y y2 t' o1 o2 o3 o4 o5)
      · rw [j3]
        have := hwc.mpr z
        exact ⟨this.1, by decide, this.2⟩
  refine b_X_writers_0 ?_
  refine X_within_ok (A := a.toInt) (B := 3) rfl rfl ⟨_, rfl, b_z (fun c1 => hb (fun z => c1 ⟨z.1, z.2.1⟩)) (fun c1 => ?_)⟩
  refine X_within_ok (A := b.toInt) (B := 2) rfl rfl ⟨_, rfl, b_z (fun c2 => hb (fun z => c2 ⟨z.2.2.1, z.2.2.2.1⟩)) (fun c2 => ?_)⟩
  refine X_within_ok (A := e.toInt) (B := 5) rfl rfl ⟨_, rfl, b_nz (fun c3 => ?_) (fun c3 => hb (fun z => c3 z.2.2.2.2))⟩
  have hv : vp_in a 4 := vin_of c1.1 (by omega)
  have hA : 0 ≤ a.toInt ∧ a.toInt ≤ 3 ∧ 0 ≤ b.toInt ∧ b.toInt ≤ 2 ∧ 0 ≤ e.toInt ∧ e.toInt ≤ 5 := ⟨c1.1, c1.2, c2.1, c2.2, c3.1, c3.2⟩
  exact ⟨hv, fun c4 => ⟨hv, fun c5 => ⟨hv, key hA (fun z => c4 (eq32.mpr z)) (eq32.mp c5)⟩, fun c5 => hu hA (fun z => c4 (eq32.mpr z)) (fun z => c5 (eq32.mpr z))⟩, fun c4 => hm hA (eq32.mp c4)⟩
theorem cp0 {f g : Nat → Int32} {n j : Nat} (h : j < n) : va_cpy f g 0 0 n j = f j := by
  unfold va_cpy
  rw [if_pos (by omega)]
  simp
/-- what an image holds -/
def imgX (μ μ' : Mem) : Prop := (∀ j, j < 8 → μ'.1 52 j = μ.1 1 j) ∧ (∀ j, j < 5 → μ'.1 53 j = μ.1 17 j ∧ μ'.1 54 j = μ.1 18 j ∧ μ'.1 55 j = μ.1 19 j) ∧ (∀ j, j < 6 → μ'.1 56 j = μ.1 22 j) ∧ μ'.1 51 0 = 1 ∧ μ'.1 51 2 = μ.1 2 3 ∧ μ'.1 51 3 = μ.1 27 5 ∧ μ'.1 51 7 = μ.1 16 3 ∧ μ'.1 51 9 = μ.1 20 2 ∧ μ'.1 51 10 = μ.1 20 3
theorem X_image_ok {d : Nat} {Q : QQ} {μ : Mem} (hQ : ∀ μ', Only [51, 52, 53, 54, 55, 56] μ μ' → imgX μ μ' → Q (.int (μ.1 16 3)) μ') : Call (d + 2) y_X_image [.ref 0] μ Q := by
  refine b_X_image_0 ⟨by decide, fun μ1 e1 => ?_⟩
  refine b_Image_keepWriters_0 ⟨by decide, fun μ2 e2 => ⟨by decide, fun μ3 e3 => ⟨by decide, fun μ4 e4 μ5 e5 => ?_⟩⟩⟩
  refine b_Image_keepLaws_0 ⟨by decide, fun μ6 e6 μ7 e7 μ8 e8 => ?_⟩
  intro μ9 e9 μ10 e10
  refine ⟨rfl, fun μ11 e11 => ?_⟩
  refine Qi (hQ μ11 ?_ ?_) ?_ <;> subst_vars
  · intro k hk
    simp at hk
    simp [wI, hk]
  · refine ⟨fun j hj => ?_, fun j hj => ⟨?_, ?_, ?_⟩, fun j hj => ?_, ?_, ?_, ?_, ?_, ?_, ?_⟩
    all_goals first | (simp [wI]; exact cp0 hj) | simp [wI, upd]
  · simp [wI]
theorem X_back_ok {d : Nat} {Q : QQ} {μ : Mem} (hn : (μ.1 51 0).toInt = 0 → Q (.int (-3)) μ) (hQ : ¬ (μ.1 51 0).toInt = 0 → ∀ μ', Only [1, 2, 16, 17, 18, 19, 20, 22, 27] μ μ' → (∀ j, j < 8 → μ'.1 1 j = μ.1 52 j) → (∀ j, j < 5 → μ'.1 17 j = μ.1 53 j ∧ μ'.1 18 j = μ.1 54 j ∧ μ'.1 19 j = μ.1 55 j) → (∀ j, j < 6 → μ'.1 22 j = μ.1 56 j) → μ'.1 2 = upd (μ.1 2) 3 (μ.1 51 2) → μ'.1 27 = upd (μ.1 27) 5 (μ.1 51 3) → μ'.1 16 = upd (μ.1 16) 3 (μ.1 51 7) → μ'.1 20 = upd (upd (μ.1 20) 2 (μ.1 51 9)) 3 (μ.1 51 10) → Q (.int (μ.1 51 7)) μ') : Call (d + 2) y_X_back [.ref 0] μ Q := by
  refine b_X_back_0 ⟨fun c1 => ⟨by decide, fun μ1 e1 => ?_⟩, fun c1 => hn (eq32.mp c1)⟩
  have c1 : ¬ (μ.1 51 0).toInt = 0 := fun z => c1 (eq32.mpr z)
  refine b_Image_restoreWriters_0 ⟨by decide, fun μ2 e2 => ⟨by decide, fun μ3 e3 => ⟨by decide, fun μ4 e4 μ5 e5 => ?_⟩⟩⟩
  refine b_Image_restoreLaws_0 ⟨by decide, fun μ6 e6 μ7 e7 μ8 e8 => ?_⟩
  intro μ9 e9 μ10 e10
  refine Qi (hQ c1 μ10 ?_ ?_ ?_ ?_ ?_ ?_ ?_ ?_) ?_ <;> subst_vars
  · intro k hk
    simp at hk
    simp [wI, hk]
  · intro j hj
    simp [wI]
    exact cp0 hj
  · intro j hj
    refine ⟨?_, ?_, ?_⟩ <;> (simp [wI]; exact cp0 hj)
  · intro j hj
    simp [wI]
    exact cp0 hj
  all_goals simp [wI, upd]
