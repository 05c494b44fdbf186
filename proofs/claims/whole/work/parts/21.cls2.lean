/-! ===== the class: words ===== -/
noncomputable def lenW (b : Int32) : Int32 := @ite _ (1 ≤ b.toInt ∧ b.toInt ≤ 888888 ∧ okD b.toInt.toNat) (Classical.propDecidable _) (sizeF b) 0
theorem Words_lengthOf_ok {d : Nat} {Q : QQ} {μ : Mem} {a : Int32} (hQ : Q (.int (lenW a)) μ) : Call (d + 2) y_Words_lengthOf [.int a] μ Q := by
  have key : ∀ (k i n : Nat), i + k = 6 → n < 10 ^ k → (okD n → Q (.int (nI (i + (digs n).length))) μ) → (¬ okD n → Q (.int 0) μ) → AA (Call (d + 1)) y_Words_lengthOf Q 14 [.int a, .int (nI n), .int (nI i), .int (nI i)] [] μ := by
    intro k
    induction k with
    | zero =>
      intro i n hi hn q1 q2
      have hn0 : n = 0 := by simpa using hn
      have hi6 : i = 6 := by omega
      subst hn0; subst hi6
      refine b_Words_lengthOf_14 ⟨fun _ => ?_, fun c => absurd (by decide) c⟩
      have := q1 okD_0
      rw [digs_0] at this
      exact this
    | succ k ih =>
      intro i n hi hn q1 q2
      have hnb : n < 2147483648 := Nat.lt_of_lt_of_le hn (Nat.le_trans (Nat.pow_le_pow_right (by omega) (show k + 1 ≤ 6 by omega)) (by decide))
      have e1 := nI_i (n := n) hnb
      have e2 := nI_i (n := i) (by omega)
      have hm : (nI (n % 10) - 1).toInt = (n % 10 : Nat) - 1 := by
        rw [m1 (by rw [nI_i (by omega)]; omega), nI_i (by omega)]
      have e3 := nI_mod10 hnb
      refine b_Words_lengthOf_14 ?_
      refine ⟨fun c1 => ?_, fun c1 => ?_⟩
      · have c1 : (6 : Int) ≤ ((nI i)).toInt := le32.mp c1
        first
          | omega
          | (have hn0 : n = 0 := by omega
             subst hn0
             have g := q1 okD_0
             rw [digs_0] at g
             exact g)
          | (rw [e3, hm] at c3
             have hn0 : n ≠ 0 := by omega
             exact q2 (fun w => c3 (by have := ((okD_s hn0).mp w).1; omega)))
      · have c1 : ¬ (6 : Int) ≤ ((nI i)).toInt := fun z => c1 (le32.mpr z)
        refine ⟨fun c2 => ?_, fun c2 => ?_⟩
        · have c2 : ((nI n)).toInt ≤ (0 : Int) := le32.mp c2
          first
            | omega
            | (have hn0 : n = 0 := by omega
               subst hn0
               have g := q1 okD_0
               rw [digs_0] at g
               exact g)
            | (rw [e3, hm] at c3
               have hn0 : n ≠ 0 := by omega
               exact q2 (fun w => c3 (by have := ((okD_s hn0).mp w).1; omega)))
        · have c2 : ¬ ((nI n)).toInt ≤ (0 : Int) := fun z => c2 (le32.mpr z)
          refine ⟨by decide, ?_⟩
          refine X_within_ok (A := (((nI n) - (nI n) / 10 * 10) - 1).toInt) (B := (7 : Int)) rfl rfl ⟨_, rfl, ?_⟩
          refine b_nz (fun c3 => ?_) (fun c3 => ?_)
          · refine ⟨by decide, ?_⟩
            rw [e3, hm] at c3
            have hn0 : n ≠ 0 := by omega
            rw [nI_1, nI_div10 hnb]
            refine ih (i + 1) (n / 10) (by omega) (by rw [Nat.pow_succ] at hn; omega) (fun z => ?_) (fun z => q2 (fun w => z ((okD_s hn0).mp w).2))
            have g := q1 ((okD_s hn0).mpr ⟨by omega, z⟩)
            rw [digs_len_s hn0] at g
            rw [show i + 1 + (digs (n / 10)).length = i + ((digs (n / 10)).length + 1) by omega]
            exact g
          · first
              | omega
              | (have hn0 : n = 0 := by omega
                 subst hn0
                 have g := q1 okD_0
                 rw [digs_0] at g
                 exact g)
              | (rw [e3, hm] at c3
                 have hn0 : n ≠ 0 := by omega
                 exact q2 (fun w => c3 (by have := ((okD_s hn0).mp w).1; omega)))
  unfold lenW at hQ
  refine b_Words_lengthOf_0 ?_
  refine ⟨fun c1 => ?_, fun c1 => ?_⟩
  · have c1 : (a).toInt < (1 : Int) := lt32.mp c1
    rw [if_neg (by omega)] at hQ
    exact hQ
  · have c1 : ¬ (a).toInt < (1 : Int) := fun z => c1 (lt32.mpr z)
    refine ⟨fun c2 => ?_, fun c2 => ?_⟩
    · have c2 : (a).toInt ≤ (888888 : Int) := le32.mp c2
      obtain ⟨n, hn, e1, e2⟩ := nI_ex (x := a) (by omega)
      have k6 := key 6 0 n (by omega) (by omega) (fun z => ?_) (fun z => ?_)
      · rw [← e1] at k6
        exact k6
      · rw [if_pos ⟨by omega, by omega, by rw [e2]; exact z⟩] at hQ
        unfold sizeF at hQ
        rw [e2] at hQ
        rw [Nat.zero_add]
        exact hQ
      · rw [if_neg (fun w => z (by have := w.2.2; rw [e2] at this; exact this))] at hQ
        exact hQ
    · have c2 : ¬ (a).toInt ≤ (888888 : Int) := fun z => c2 (le32.mpr z)
      rw [if_neg (by omega)] at hQ
      exact hQ
theorem wlen_row {n : Nat} (h : n < 10) : wlen 0 (6 + n) = 6 := by
  rcases (show n = 0 ∨ n = 1 ∨ n = 2 ∨ n = 3 ∨ n = 4 ∨ n = 5 ∨ n = 6 ∨ n = 7 ∨ n = 8 ∨ n = 9 by omega) with rfl | rfl | rfl | rfl | rfl | rfl | rfl | rfl | rfl | rfl <;> rfl
theorem ilen_row {n : Nat} (h : n < 10) : ilen 0 (6 + n) = 6 := by
  rcases (show n = 0 ∨ n = 1 ∨ n = 2 ∨ n = 3 ∨ n = 4 ∨ n = 5 ∨ n = 6 ∨ n = 7 ∨ n = 8 ∨ n = 9 by omega) with rfl | rfl | rfl | rfl | rfl | rfl | rfl | rfl | rfl | rfl <;> rfl
/-- the letters that digits tell, in a row -/
def rowIs (f : Nat → Int32) (v : Int32) : Prop := ∀ j, j < (digs v.toInt.toNat).length → f j = nI ((digs v.toInt.toNat).getD j 0 - 1)
theorem Words_add_ok {d : Nat} {Q : QQ} {μ : Mem} {a b : Int32} (h : rng (μ.1 2 3) 0 10) (hb : 1 ≤ b.toInt ∧ b.toInt ≤ 888888 ∧ okD b.toInt.toNat) (hf : (μ.1 2 3).toInt = 10 → Q (.int (-4)) μ)
    (hg : (μ.1 2 3).toInt < 10 → ∀ μ', Only [2, 3, 4, 6 + (μ.1 2 3).toNatClampNeg] μ μ' → μ'.1 3 = upd (μ.1 3) (μ.1 2 3).toNatClampNeg a → μ'.1 4 = upd (μ.1 4) (μ.1 2 3).toNatClampNeg (sizeF b) → rowIs (μ'.1 (6 + (μ.1 2 3).toNatClampNeg)) b → μ'.1 2 = upd (μ.1 2) 3 (μ.1 2 3 + 1) → Q (.int (μ.1 2 3)) μ') : Call (d + 3) y_Words_add [.ref 2, .int a, .int b] μ Q := by
  obtain ⟨h1, h2⟩ := h
  obtain ⟨n, hn, en, en2⟩ := nI_ex (x := b) (by omega)
  have hlen : (digs n).length ≤ 6 := digs_le 6 n (by omega)
  have hlw : lenW b = sizeF b := by unfold lenW; rw [if_pos hb]
  have hsz : sizeF b = nI (digs n).length := by unfold sizeF; rw [en2]; rfl
  have key : (μ.1 2 3).toInt < 10 → ∀ (k m : Nat) (ν : Mem), k ≤ (digs n).length → digs m = (digs n).take k → m < 2147483648 → Only [3, 4, 6 + (μ.1 2 3).toNatClampNeg] μ ν → ν.1 3 = upd (μ.1 3) (μ.1 2 3).toNatClampNeg a → ν.1 4 = upd (μ.1 4) (μ.1 2 3).toNatClampNeg (sizeF b) → (∀ j, k ≤ j → j < (digs n).length → ν.1 (6 + (μ.1 2 3).toNatClampNeg) j = nI ((digs n).getD j 0 - 1)) → AA (Call (d + 2)) y_Words_add Q 29 [.ref 2, .int a, .int b, .int (nI m), .int (nI k - 1)] [] ν := by
    intro hlt k
    obtain ⟨q, hq, eq1, eq2⟩ := nI_ex (x := μ.1 2 3) h1
    have hc : (μ.1 2 3).toNatClampNeg = q := by rw [eq1]; exact nI_c hq
    rw [hc]
    have hq10 : q < 10 := by omega
    induction k with
    | zero =>
      intro m ν hk hm hmb o1 o2 o3 o4
      have e0 : nI 0 - 1 = -1 := by decide
      rw [e0]
      refine b_Words_add_29 ⟨fun _ => ?_, fun z => absurd (by decide) z⟩
      intro μ1 e1
      have o23 : ν.1 2 = μ.1 2 := o1.i 2 (by simp; omega)
      refine Qi (hg hlt _ ?_ ?_ ?_ ?_ ?_) (by rw [o23])
      · rw [hc]
        exact (o1.mono (by intro z hz; simp at hz ⊢; omega)).trans (by rw [e1]; exact Only.w (by simp))
      · rw [e1, wI_n (by decide), o2, hc]
      · rw [e1, wI_n (by decide), o3, hc]
      · rw [hc, e1, wI_n (by omega)]
        intro j hj
        rw [en2] at hj ⊢
        exact o4 j (by omega) hj
      · rw [e1, wI_s, o23]
    | succ k ih =>
      intro m ν hk hm hmb o1 o2 o3 o4
      have hm0 : m ≠ 0 := by
        intro z
        rw [z, digs_0] at hm
        have := congrArg List.length hm
        simp at this
        omega
      have o23 : ν.1 2 = μ.1 2 := o1.i 2 (by simp; omega)
      have e0 : nI (k + 1) - 1 = nI k := nI_pred k
      have ek := nI_i (n := k) (by omega)
      rw [e0]
      have h4 : (digs (m / 10)).length = k := by
        have h5 := congrArg List.length hm
        rw [digs_s hm0] at h5
        simp at h5
        omega
      have hlast : m % 10 = (digs n).getD k 0 := by
        have h3 : (digs m).getD k 0 = ((digs n).take (k + 1)).getD k 0 := by rw [hm]
        rw [digs_s hm0] at h3
        rw [List.getD_eq_getElem?_getD, List.getElem?_append_right (by omega), h4] at h3
        simp at h3
        rw [h3, List.getD_eq_getElem?_getD]
      refine b_Words_add_29 ⟨fun z => absurd (lt32.mp z) (by rw [ek]; show ¬ _ < (0 : Int); omega), fun _ => ?_⟩
      rw [o23, hc]
      refine ⟨vin_of (by omega) (by omega), by decide, by rw [wlen_row hq10]; exact nI_v (by omega) (by omega), fun μ2 e2 => ⟨by decide, ?_⟩⟩
      rw [nI_mod10 hmb, nI_c (by omega)] at e2
      rw [nI_div10 hmb, show nI k + (-1) = nI k - 1 by rw [Int32.sub_eq_add_neg]]
      refine ih (m / 10) μ2 (by omega) ?_ (by omega) ?_ ?_ ?_ ?_
      · have h6 := hm
        rw [digs_s hm0] at h6
        have h7 := congrArg (List.take k) h6
        rw [List.take_left' h4, List.take_take, Nat.min_eq_left (by omega)] at h7
        exact h7
      · exact o1.trans (by rw [e2]; exact Only.w (by simp))
      · rw [e2, wI_n (by omega)]; exact o2
      · rw [e2, wI_n (by omega)]; exact o3
      · intro j hj1 hj2
        rw [e2, wI_s]
        by_cases hjk : j = k
        · rw [hjk, upd_s, ← hlast]
          have hd1 : 1 ≤ m % 10 := by
            have hmem : m % 10 ∈ digs n := by
              rw [hlast, List.getD_eq_getElem?_getD]
              have : k < (digs n).length := by omega
              simp [this]
            have hok := hb.2.2
            rw [en2] at hok
            exact (hok _ hmem).1
          obtain ⟨t, ht⟩ : ∃ t, m % 10 = t + 1 := ⟨m % 10 - 1, by omega⟩
          rw [ht]
          exact nI_pred t
        · rw [upd_n hjk]
          exact o4 j (by omega) hj2
  refine b_Words_add_0 ⟨fun c1 => ?_, fun c1 => hf ?_⟩
  · have c1 : (μ.1 2 3).toInt < 10 := lt32.mp c1
    refine ⟨vin_of h1 c1, fun μ1 e1 => ?_⟩
    have o1 : μ1.1 2 = μ.1 2 := by rw [e1, wI_n (by decide)]
    refine Words_lengthOf_ok ⟨_, rfl, by rw [o1]; exact vin_of h1 c1, fun μ4 e4 => ?_⟩
    have o2 : μ4.1 2 = μ.1 2 := by rw [e4, wI_n (by decide), o1]
    refine ⟨by rw [o2]; exact vin_of h1 c1, ?_⟩
    rw [hlw] at e4
    have o3 : μ4.1 4 (μ4.1 2 3).toNatClampNeg = nI (digs n).length := by rw [o2, e4, wI_s, o1, upd_s, hsz]
    rw [o3]
    have g := key c1 (digs n).length n μ4 (Nat.le_refl _) (by simp) hn ?_ ?_ ?_ (fun j q1 q2 => absurd q1 (by omega))
    · rw [← en] at g
      exact g
    · intro z hz
      simp at hz
      rw [e4, e1]
      simp [wI, hz]
    · rw [e4, wI_n (by decide), e1, wI_s]
    · rw [e4, wI_s, e1, wI_n (by decide), wI_n (by decide)]
  · have c1 : ¬ (μ.1 2 3).toInt < 10 := fun z => c1 (lt32.mpr z)
    omega
theorem sizeF_ne {b : Int32} (h : 1 ≤ b.toInt) : ¬ sizeF b = 0 := by
  unfold sizeF
  have h0 : b.toInt.toNat ≠ 0 := by omega
  rw [digs_len_s h0]
  obtain ⟨n, hn, en, en2⟩ := nI_ex (x := b) (by omega)
  have := digs_le 10 (b.toInt.toNat / 10) (by have := Int32.toInt_lt b; omega)
  intro z
  have z2 := congrArg Int32.toInt z
  rw [nI_i (by omega)] at z2
  have : (0 : Int32).toInt = 0 := rfl
  omega
theorem X_word_ok {d : Nat} {Q : QQ} {μ : Mem} {a b : Int32} (h : rng (μ.1 2 3) 0 10) (hb : ¬ okWd a b → Q (.int (-2)) μ) (hf : okWd a b → (μ.1 2 3).toInt = 10 → Q (.int (-4)) μ)
    (hg : okWd a b → (μ.1 2 3).toInt < 10 → ∀ μ', Only [2, 3, 4, 6 + (μ.1 2 3).toNatClampNeg] μ μ' → μ'.1 3 = upd (μ.1 3) (μ.1 2 3).toNatClampNeg a → μ'.1 4 = upd (μ.1 4) (μ.1 2 3).toNatClampNeg (sizeF b) → rowIs (μ'.1 (6 + (μ.1 2 3).toNatClampNeg)) b → μ'.1 2 = upd (μ.1 2) 3 (μ.1 2 3 + 1) → Q (.int (μ.1 2 3)) μ') : Call (d + 4) y_X_word [.ref 0, .int a, .int b] μ Q := by
  refine b_X_word_0 ?_
  refine X_within_ok (A := a.toInt) (B := 3) rfl rfl ⟨_, rfl, b_z (fun c1 => hb (fun z => c1 ⟨z.1, z.2.1⟩)) (fun c1 => ?_)⟩
  refine Words_lengthOf_ok ⟨_, rfl, fun c2 => ?_, fun c2 => hb (fun z => ?_)⟩
  · have hok : 1 ≤ b.toInt ∧ b.toInt ≤ 888888 ∧ okD b.toInt.toNat := by
      by_cases z : 1 ≤ b.toInt ∧ b.toInt ≤ 888888 ∧ okD b.toInt.toNat
      · exact z
      · exact absurd (by unfold lenW; rw [if_neg z]) c2
    have hw : okWd a b := ⟨c1.1, c1.2, hok⟩
    exact Words_add_ok h hok (fun z => ⟨_, rfl, hf hw z⟩) (fun z μ' o1 o2 o3 o4 o5 => ⟨_, rfl, hg hw z μ' o1 o2 o3 o4 o5⟩)
  · have : lenW b = sizeF b := by unfold lenW; rw [if_pos z.2.2]
    rw [this] at c2
    exact sizeF_ne z.2.2.1 c2
def cellX (w : Int) : Nat := if w = 0 then 1 else if w = 1 then 17 else if w = 2 then 18 else if w = 3 then 19 else 22
def lenX (μ : Mem) (w : Int) : Int := if w = 0 then 8 else if w < 4 then (μ.1 16 3).toInt else if w < 6 then (μ.1 20 2).toInt else (μ.1 2 3).toInt
theorem X_set_ok {d : Nat} {Q : QQ} {μ : Mem} {a b c : Int32} (h : cntX μ) (hb : ¬ okSet (lenX μ a.toInt) a b c → Q (.int (-2)) μ) (hg : okSet (lenX μ a.toInt) a b c → ∀ μ', μ' = wI μ (cellX a.toInt) (upd (μ.1 (cellX a.toInt)) b.toNatClampNeg c) → Q (.int (μ.1 (cellX a.toInt) b.toNatClampNeg)) μ') : Call (d + 3) y_X_set [.ref 0, .int a, .int b, .int c] μ Q := by
  obtain ⟨⟨h1, h1'⟩, ⟨h2, h2'⟩, ⟨h3, h3'⟩, -⟩ := h
  have l1 : ilen 0 1 = 8 ∧ ilen 0 17 = 5 ∧ ilen 0 18 = 5 ∧ ilen 0 19 = 5 ∧ ilen 0 22 = 6 := ⟨rfl, rfl, rfl, rfl, rfl⟩
  obtain ⟨l1, l2, l3, l4, l5⟩ := l1
  have e8 : (8 : Int32).toInt = 8 := rfl
  have fin : ∀ (k : Nat) (n : Int32) (mx : Int32), cellX a.toInt = k → lenX μ a.toInt = n.toInt → 0 ≤ a.toInt ∧ a.toInt ≤ 4 → maxF a.toInt = mx.toInt → (0 ≤ n.toInt ∧ n.toInt ≤ ilen 0 k ∧ ilen 0 k = wlen 0 k) → Call (d + 2) y_X_put [.ref k, .int n, .int b, .int c, .int mx] μ (fun ρ μ1 => ∃ r2 : Int32, ρ = .int r2 ∧ (Q (.int r2) μ1)) := by
    intro k n mx q1 q2 q3 q4 q5
    subst q1
    refine X_put_ok q5 (fun z => ⟨_, rfl, hb (fun w => z ?_)⟩) (fun z μ' e => ⟨_, rfl, hg ?_ μ' e⟩)
    · obtain ⟨w1, w2, w3, w4, w5, w6⟩ := w
      exact ⟨w3, by omega, w5, by omega⟩
    · exact ⟨q3.1, q3.2, z.1, by omega, z.2.2.1, by omega⟩
  refine b_X_set_0 ⟨fun c1 => ?_, fun c1 => ⟨fun c2 => ?_, fun c2 => ⟨fun c3 => ?_, fun c3 => ⟨fun c4 => ?_, fun c4 => ⟨fun c5 => ?_, fun c5 => ?_⟩⟩⟩⟩⟩
  · subst c1; exact fin 1 8 999 rfl rfl (by decide) rfl ⟨by decide, by decide, rfl⟩
  · subst c2; exact fin 17 (μ.1 16 3) 3 rfl rfl (by decide) rfl ⟨h2, by omega, rfl⟩
  · subst c3; exact fin 18 (μ.1 16 3) 23 rfl rfl (by decide) rfl ⟨h2, by omega, rfl⟩
  · subst c4; exact fin 19 (μ.1 16 3) 9999 rfl rfl (by decide) rfl ⟨h2, by omega, rfl⟩
  · subst c5; exact fin 22 (μ.1 20 2) 9 rfl rfl (by decide) rfl ⟨by omega, by omega, rfl⟩
  · refine hb (fun w => ?_)
    obtain ⟨w1, w2, -⟩ := w
    have k0 : ¬ a.toInt = 0 := fun z => c1 (eq32.mpr z)
    have k1 : ¬ a.toInt = 1 := fun z => c2 (eq32.mpr z)
    have k2 : ¬ a.toInt = 2 := fun z => c3 (eq32.mpr z)
    have k3 : ¬ a.toInt = 3 := fun z => c4 (eq32.mpr z)
    have k4 : ¬ a.toInt = 4 := fun z => c5 (eq32.mpr z)
    omega
/-- ABOVE as it stands -/
def abvM (μ : Mem) : Prop := μ.1 65 0 = -1 ∧ μ.1 65 1 = 0 ∧ μ.1 65 2 = 0 ∧ μ.1 65 3 = 1 ∧ μ.1 65 4 = 2 ∧ μ.1 65 5 = 1
theorem Laws_isUnder_ok {d : Nat} {Q : QQ} {μ : Mem} {a b : Int32} (ha : vp_in a 6) (hA : abvM μ) (hk : rng (μ.1 21 a.toNatClampNeg) 0 5) (hb : 0 ≤ b.toInt ∧ b.toInt ≤ 5) (hQ : Q (.int (b2p (underF (μ.1 21 a.toNatClampNeg).toInt b.toInt = true))) μ) : Call (d + 1) y_Laws_isUnder [.ref 20, .int a, .int b] μ Q := by
  obtain ⟨r1, r2⟩ := hk
  obtain ⟨A0, A1, A2, A3, A4, A5⟩ := hA
  have key : ∀ (f : Nat) (i : Nat) (x : Int32), i + f = 4 → -1 ≤ x.toInt → x.toInt ≤ 5 → (x.toInt = -1 → 1 ≤ f) → (x.toInt = 0 → 2 ≤ f) → (x.toInt = 1 ∨ x.toInt = 2 → 3 ≤ f) → (3 ≤ x.toInt → 4 ≤ f) → Q (.int (b2p (underF x.toInt b.toInt = true))) μ → AA (Call d) y_Laws_isUnder Q 7 [.ref 20, .int a, .int b, .int x, .int (nI i)] [] μ := by
    intro f
    induction f with
    | zero => intro i x q0 q1 q2 q3 q4 q5 q6; omega
    | succ f ih =>
      intro i x q0 q1 q2 q3 q4 q5 q6 hQ
      have ei := nI_i (n := i) (by omega)
      refine b_Laws_isUnder_7 ⟨fun z => absurd (le32.mp z) (by rw [ei]; show ¬ (6 : Int) ≤ _; omega), fun _ => ⟨fun c1 => ⟨rfl, ?_⟩, fun c1 => ⟨fun c2 => ?_, fun c2 => ⟨rfl, ?_⟩⟩⟩⟩
      · subst c1
        refine bQ0 hQ ?_
        show ¬ underF (-1) b.toInt = true
        unfold underF
        simp
        omega
      · have k1 : ¬ x.toInt = -1 := fun z => c1 (eq32.mpr z)
        have k2 : ¬ x.toInt = b.toInt := fun z => c2 (eq32.mpr z)
        refine ⟨vin_of (by omega) (by omega), ?_⟩
        rw [nI_1]
        obtain ⟨n, hn, en, en2⟩ := nI_ex (x := x) (by omega)
        rw [en, nI_c hn]
        rcases (show n = 0 ∨ n = 1 ∨ n = 2 ∨ n = 3 ∨ n = 4 ∨ n = 5 by omega) with q | q | q | q | q | q
        all_goals
          subst q
          simp only [A0, A1, A2, A3, A4, A5]
          refine ih (i + 1) _ (by omega) (by decide) (by decide) (by intro; omega) (by simp <;> omega) (by simp <;> omega) (by simp <;> omega) (bQ hQ ?_)
          rw [en2]
          rw [en2] at k2
          simp [underF]
          try omega
      · subst c2
        exact bQ1 hQ (by simp [underF])
  refine b_Laws_isUnder_0 ⟨ha, ?_⟩
  exact key 4 0 _ (by omega) (by omega) r2 (by omega) (by omega) (by omega) (by omega) hQ
theorem X_taken_ok {d : Nat} {Q : QQ} {μ : Mem} {a b : Int32} (h : cntX μ) (hA : abvM μ) (hk : ∀ j, j < 6 → rng (μ.1 21 j) 0 5) (hb : ¬ (0 ≤ b.toInt ∧ b.toInt ≤ 5) → Q (.int (-2)) μ) (hn : 0 ≤ b.toInt ∧ b.toInt ≤ 5 → ¬ (0 ≤ a.toInt ∧ a.toInt < (μ.1 20 2).toInt) → Q (.int (-11)) μ)
    (hg : 0 ≤ b.toInt ∧ b.toInt ≤ 5 → 0 ≤ a.toInt ∧ a.toInt < (μ.1 20 2).toInt → Q (.int (if underF (μ.1 21 a.toNatClampNeg).toInt b.toInt = true then μ.1 22 a.toNatClampNeg else -13)) μ) : Call (d + 2) y_X_taken [.ref 0, .int a, .int b] μ Q := by
  obtain ⟨h1, h2, ⟨h3, h4⟩, -⟩ := h
  have em := m1 (v := μ.1 20 2) (by omega)
  refine b_X_taken_0 ?_
  refine X_within_ok (A := b.toInt) (B := 5) rfl rfl ⟨_, rfl, b_nz (fun c1 => ?_) (fun c1 => hb c1)⟩
  refine X_within_ok (A := a.toInt) (B := (μ.1 20 2 - 1).toInt) rfl rfl ⟨_, rfl, b_nz (fun c2 => ?_) (fun c2 => hn c1 (by omega))⟩
  have hv : vp_in a 6 := vin_of (by omega) (by omega)
  refine Laws_isUnder_ok hv hA (hk _ (vin_lt hv)) c1 ⟨_, rfl, b_z (fun c3 => ?_) (fun c3 => ⟨hv, ?_⟩)⟩
  · have g := hg c1 (by omega)
    rw [if_neg c3] at g
    exact g
  · have g := hg c1 (by omega)
    rw [if_pos c3] at g
    exact g
