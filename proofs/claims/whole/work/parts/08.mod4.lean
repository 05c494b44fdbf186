/-! ===== the reference: words, sheets, laws taken ===== -/
def okD (n : Nat) : Prop := ∀ x ∈ digs n, 1 ≤ x ∧ x ≤ 8
def okWd (a b : Int32) : Prop := 0 ≤ a.toInt ∧ a.toInt ≤ 3 ∧ 1 ≤ b.toInt ∧ b.toInt ≤ 888888 ∧ okD b.toInt.toNat
theorem okD_0 : okD 0 := by intro x hx; rw [digs_0] at hx; cases hx
theorem okD_s {n : Nat} (h : n ≠ 0) : okD n ↔ (1 ≤ n % 10 ∧ n % 10 ≤ 8) ∧ okD (n / 10) := by
  unfold okD
  rw [digs_s h]
  constructor
  · intro q
    exact ⟨q (n % 10) (by simp), fun x hx => q x (by simp [hx])⟩
  · intro q x hx
    rcases List.mem_append.mp hx with hx | hx
    · exact q.2 x hx
    · have : x = n % 10 := by simpa using hx
      rw [this]
      exact q.1
theorem M_word_ok {d : Nat} {Q : QQ} {μ : Mem} {a b : Int32} (h : rng (μ.1 0 10) 0 10) (hb : ¬ okWd a b → Q (.int (-2)) μ) (hf : okWd a b → (μ.1 0 10).toInt = 10 → Q (.int (-4)) μ)
    (hg : okWd a b → (μ.1 0 10).toInt < 10 → ∀ μ', Only [0, 5, 6] μ μ' → μ'.1 5 = upd (μ.1 5) (μ.1 0 10).toNatClampNeg a → μ'.1 6 = upd (μ.1 6) (μ.1 0 10).toNatClampNeg b → μ'.1 0 = upd (μ.1 0) 10 (μ.1 0 10 + 1) → Q (.int (μ.1 0 10)) μ') : Call (d + 2) y_M_word [.ref 0, .int a, .int b] μ Q := by
  obtain ⟨h1, h2⟩ := h
  have hi : (μ.1 0 10).toInt < 10 → vp_in (μ.1 0 10) 10 := fun z => vin_of (by omega) z
  have key : 0 ≤ a.toInt ∧ a.toInt ≤ 3 → 1 ≤ b.toInt ∧ b.toInt ≤ 888888 → ∀ (n : Nat), n < 2147483648 → (okD n ↔ okD b.toInt.toNat) → AA (Call (d + 1)) y_M_word Q 16 [.ref 0, .int a, .int b, .int (nI n)] [] μ := by
    intro ha hbb n
    induction n using Nat.strongRecOn with
    | _ n ih =>
      intro hn hd
      have e := nI_i (n := n) hn
      refine b_M_word_16 ?_
      refine ⟨fun c1 => ?_, fun c1 => ?_⟩
      · have c1 : ((nI n)).toInt ≤ (0 : Int) := le32.mp c1
        refine ⟨fun c2 => ?_, fun c2 => ?_⟩
        · have c2 : ¬ ((μ.1 0 10)).toInt = (10 : Int) := fun z => c2 (eq32.mpr z)
          refine ⟨by first | exact hi (by omega) | (subst_vars; simp [wI]; exact hi (by omega)), ?_⟩
          intro μ1 eμ1
          refine ⟨by first | exact hi (by omega) | (subst_vars; simp [wI]; exact hi (by omega)), ?_⟩
          intro μ2 eμ2
          intro μ3 eμ3
          first
            | (have hok : okWd a b := ⟨ha.1, ha.2, hbb.1, hbb.2, hd.mp (by rw [show n = 0 by omega]; exact okD_0)⟩
               first
               | exact hf hok (by omega)
               | (refine Qi (hg hok (by omega) _ ?_ ?_ ?_ ?_) ?_ <;> subst_vars
                  all_goals first | (intro k hk; simp at hk; simp [wI, hk]; done) | simp [wI, upd]))
            | (rw [nI_mod10 hn, nI_i (by omega)] at c3
               exact hb (fun z => c3 (by have := ((okD_s (n := n) (by omega)).mp (hd.mpr z.2.2.2.2)).1; omega)))
        · have c2 : ((μ.1 0 10)).toInt = (10 : Int) := eq32.mp c2
          first
            | (have hok : okWd a b := ⟨ha.1, ha.2, hbb.1, hbb.2, hd.mp (by rw [show n = 0 by omega]; exact okD_0)⟩
               first
               | exact hf hok (by omega)
               | (refine Qi (hg hok (by omega) _ ?_ ?_ ?_ ?_) ?_ <;> subst_vars
                  all_goals first | (intro k hk; simp at hk; simp [wI, hk]; done) | simp [wI, upd]))
            | (rw [nI_mod10 hn, nI_i (by omega)] at c3
               exact hb (fun z => c3 (by have := ((okD_s (n := n) (by omega)).mp (hd.mpr z.2.2.2.2)).1; omega)))
      · have c1 : ¬ ((nI n)).toInt ≤ (0 : Int) := fun z => c1 (le32.mpr z)
        refine ⟨by decide, ?_⟩
        refine M_in_ok (A := (((nI n) - (nI n) / 10 * 10)).toInt) (B := (1 : Int)) (C := (8 : Int)) (lI _) rfl rfl ⟨_, rfl, ?_⟩
        refine b_nz (fun c3 => ?_) (fun c3 => ?_)
        · refine ⟨by decide, ?_⟩
          rw [nI_mod10 hn, nI_i (by omega)] at c3
          rw [nI_div10 hn]
          exact ih (n / 10) (by omega) (by omega) (by rw [← hd, okD_s (n := n) (by omega)]; exact ⟨fun z => ⟨by omega, z⟩, fun z => z.2⟩)
        · first
            | (have hok : okWd a b := ⟨ha.1, ha.2, hbb.1, hbb.2, hd.mp (by rw [show n = 0 by omega]; exact okD_0)⟩
               first
               | exact hf hok (by omega)
               | (refine Qi (hg hok (by omega) _ ?_ ?_ ?_ ?_) ?_ <;> subst_vars
                  all_goals first | (intro k hk; simp at hk; simp [wI, hk]; done) | simp [wI, upd]))
            | (rw [nI_mod10 hn, nI_i (by omega)] at c3
               exact hb (fun z => c3 (by have := ((okD_s (n := n) (by omega)).mp (hd.mpr z.2.2.2.2)).1; omega)))
  refine b_M_word_0 ?_
  refine M_in_ok (A := (a).toInt) (B := (0 : Int)) (C := (3 : Int)) (lI _) rfl rfl ⟨_, rfl, ?_⟩
  refine b_z (fun c1 => ?_) (fun c1 => ?_)
  · exact hb (by unfold okWd; omega)
  · refine M_in_ok (A := (b).toInt) (B := (1 : Int)) (C := (888888 : Int)) (lI _) rfl rfl ⟨_, rfl, ?_⟩
    refine b_nz (fun c2 => ?_) (fun c2 => ?_)
    · obtain ⟨n, hn, e1, e2⟩ := nI_ex (x := b) (by omega)
      have k := key c1 c2 n hn (by rw [e2]; simp)
      rw [← e1] at k
      exact k
    · exact hb (by unfold okWd; omega)
theorem M_count_ok {d : Nat} {Q : QQ} {μ : Mem} {a : Int32} (hb : ¬ (0 ≤ a.toInt ∧ a.toInt ≤ 7) → Q (.int (-2)) μ) (h7 : a.toInt = 7 → ∀ μ', Only [14] μ μ' → Q (.int (sum8 (μ.1 4) 8)) μ')
    (hg : 0 ≤ a.toInt ∧ a.toInt ≤ 6 → Q (.int (if a.toInt = 0 then μ.1 0 10 else if a.toInt = 1 then μ.1 0 14 else if a.toInt = 2 then μ.1 0 17 else if a.toInt = 3 then μ.1 0 18 else if a.toInt = 4 then μ.1 0 3 else if a.toInt = 5 then μ.1 0 6 else μ.1 0 4)) μ) : Call (d + 2) y_M_count [.ref 0, .int a] μ Q := by
  have hs : ∀ μ' : Mem, (∀ j, j < 8 → μ'.1 14 j = μ.1 4 j) → sum8 (μ'.1 14) 8 = sum8 (μ.1 4) 8 := by
    intro μ' h
    simp only [sum8, h 0 (by omega), h 1 (by omega), h 2 (by omega), h 3 (by omega), h 4 (by omega), h 5 (by omega), h 6 (by omega), h 7 (by omega)]
  refine b_M_count_0 ?_
  refine M_in_ok (A := (a).toInt) (B := (0 : Int)) (C := (7 : Int)) (lI _) rfl rfl ⟨_, rfl, ?_⟩
  refine b_nz (fun c1 => ?_) (fun c1 => ?_)
  · refine ⟨fun c2 => ?_, fun c2 => ?_⟩
    · have c2 : (4 : Int) ≤ (a).toInt := le32.mp c2
      refine ⟨fun c3 => ?_, fun c3 => ?_⟩
      · have c3 : (7 : Int) ≤ (a).toInt := le32.mp c3
        refine M_takes_ok (fun μ3 o1 o2 => ?_); refine id ?_
        refine M_rowSum_ok ⟨_, rfl, ?_⟩
        first
          | exact hb (by omega)
          | exact Qi (h7 (by omega) _ o1) (hs _ o2)
          | ((have g := hg (by omega)); (repeat' split at g) <;> first | exact g | omega)
      · have c3 : ¬ (7 : Int) ≤ (a).toInt := fun z => c3 (le32.mpr z)
        refine ⟨fun c4 => ?_, fun c4 => ?_⟩
        · have c4 : ¬ (a).toInt = (4 : Int) := fun z => c4 (eq32.mpr z)
          refine ⟨fun c5 => ?_, fun c5 => ?_⟩
          · have c5 : ¬ (a).toInt = (5 : Int) := fun z => c5 (eq32.mpr z)
            first
              | exact hb (by omega)
              | exact Qi (h7 (by omega) _ o1) (hs _ o2)
              | ((have g := hg (by omega)); (repeat' split at g) <;> first | exact g | omega)
          · have c5 : (a).toInt = (5 : Int) := eq32.mp c5
            first
              | exact hb (by omega)
              | exact Qi (h7 (by omega) _ o1) (hs _ o2)
              | ((have g := hg (by omega)); (repeat' split at g) <;> first | exact g | omega)
        · have c4 : (a).toInt = (4 : Int) := eq32.mp c4
          first
            | exact hb (by omega)
            | exact Qi (h7 (by omega) _ o1) (hs _ o2)
            | ((have g := hg (by omega)); (repeat' split at g) <;> first | exact g | omega)
    · have c2 : ¬ (4 : Int) ≤ (a).toInt := fun z => c2 (le32.mpr z)
      refine ⟨fun c6 => ?_, fun c6 => ?_⟩
      · have c6 : ¬ (a).toInt = (0 : Int) := fun z => c6 (eq32.mpr z)
        refine ⟨fun c7 => ?_, fun c7 => ?_⟩
        · have c7 : ¬ (a).toInt = (1 : Int) := fun z => c7 (eq32.mpr z)
          refine ⟨fun c8 => ?_, fun c8 => ?_⟩
          · have c8 : ¬ (a).toInt = (2 : Int) := fun z => c8 (eq32.mpr z)
            first
              | exact hb (by omega)
              | exact Qi (h7 (by omega) _ o1) (hs _ o2)
              | ((have g := hg (by omega)); (repeat' split at g) <;> first | exact g | omega)
          · have c8 : (a).toInt = (2 : Int) := eq32.mp c8
            first
              | exact hb (by omega)
              | exact Qi (h7 (by omega) _ o1) (hs _ o2)
              | ((have g := hg (by omega)); (repeat' split at g) <;> first | exact g | omega)
        · have c7 : (a).toInt = (1 : Int) := eq32.mp c7
          first
            | exact hb (by omega)
            | exact Qi (h7 (by omega) _ o1) (hs _ o2)
            | ((have g := hg (by omega)); (repeat' split at g) <;> first | exact g | omega)
      · have c6 : (a).toInt = (0 : Int) := eq32.mp c6
        first
          | exact hb (by omega)
          | exact Qi (h7 (by omega) _ o1) (hs _ o2)
          | ((have g := hg (by omega)); (repeat' split at g) <;> first | exact g | omega)
  · first
      | exact hb (by omega)
      | exact Qi (h7 (by omega) _ o1) (hs _ o2)
      | ((have g := hg (by omega)); (repeat' split at g) <;> first | exact g | omega)
theorem M_isSheet_ok {d : Nat} {Q : QQ} {μ : Mem} {a : Int32} (hQ : Q (.int (b2p (0 ≤ a.toInt ∧ a.toInt ≤ 3))) μ) : Call (d + 2) y_M_isSheet [.int a] μ Q := by
  refine b_M_isSheet_0 ?_
  refine M_in_ok (A := (a).toInt) (B := (0 : Int)) (C := (3 : Int)) (lI _) rfl rfl ⟨_, rfl, ?_⟩
  refine ⟨by exact b_nar, ?_⟩
  exact bQ hQ (by omega)
theorem M_over_ok {d : Nat} {Q : QQ} {μ : Mem} {a : Int32} (hQ : Q (.int (if a.toInt = 0 then -1 else if a.toInt = 4 then 2 else if a.toInt = 3 ∨ a.toInt = 5 then 1 else 0)) μ) : Call (d + 1) y_M_over [.int a] μ Q := by
  refine b_M_over_0 ?_
  refine ⟨fun c1 => ?_, fun c1 => ?_⟩
  · have c1 : ¬ (a).toInt = (0 : Int) := fun z => c1 (eq32.mpr z)
    refine ⟨fun c2 => ?_, fun c2 => ?_⟩
    · have c2 : ¬ (a).toInt = (4 : Int) := fun z => c2 (eq32.mpr z)
      refine ⟨fun c3 => ?_, fun c3 => ?_⟩
      · have c3 : (a).toInt = (3 : Int) := eq32.mp c3
        (repeat' split at hQ) <;> first | exact hQ | omega
      · have c3 : ¬ (a).toInt = (3 : Int) := fun z => c3 (eq32.mpr z)
        refine ⟨fun c4 => ?_, fun c4 => ?_⟩
        · have c4 : ¬ (a).toInt = (5 : Int) := fun z => c4 (eq32.mpr z)
          (repeat' split at hQ) <;> first | exact hQ | omega
        · have c4 : (a).toInt = (5 : Int) := eq32.mp c4
          (repeat' split at hQ) <;> first | exact hQ | omega
    · have c2 : (a).toInt = (4 : Int) := eq32.mp c2
      (repeat' split at hQ) <;> first | exact hQ | omega
  · have c1 : (a).toInt = (0 : Int) := eq32.mp c1
    (repeat' split at hQ) <;> first | exact hQ | omega
/-- is kind k the kind x, or above it -/
def underF (x k : Int) : Bool := x == k || (x == 1 && k == 0) || (x == 2 && k == 0) || (x == 3 && (k == 1 || k == 0)) || (x == 4 && (k == 2 || k == 0)) || (x == 5 && (k == 1 || k == 0))
theorem M_taken_ok {d : Nat} {Q : QQ} {μ : Mem} {a b : Int32} (h : cntM μ) (hk : ∀ j, j < 6 → rng (μ.1 10 j) 0 5) (hb : ¬ (0 ≤ b.toInt ∧ b.toInt ≤ 5) → Q (.int (-2)) μ) (hn : 0 ≤ b.toInt ∧ b.toInt ≤ 5 → ¬ (0 ≤ a.toInt ∧ a.toInt < (μ.1 0 17).toInt) → Q (.int (-11)) μ)
    (hg : 0 ≤ b.toInt ∧ b.toInt ≤ 5 → 0 ≤ a.toInt ∧ a.toInt < (μ.1 0 17).toInt → Q (.int (if underF (μ.1 10 a.toNatClampNeg).toInt b.toInt = true then μ.1 11 a.toNatClampNeg else -13)) μ) : Call (d + 3) y_M_taken [.ref 0, .int a, .int b] μ Q := by
  obtain ⟨h1, h2, h3, -⟩ := h
  have h3' := h3
  obtain ⟨h4, h5⟩ := h3'
  have key : ∀ (f : Nat) (x : Int32), 0 ≤ b.toInt ∧ b.toInt ≤ 5 → 0 ≤ a.toInt ∧ a.toInt < (μ.1 0 17).toInt → -1 ≤ x.toInt → x.toInt ≤ 5 → (x.toInt = -1 → 0 ≤ f) → (x.toInt = 0 → 1 ≤ f) → (x.toInt = 1 ∨ x.toInt = 2 → 2 ≤ f) → (3 ≤ x.toInt → 3 ≤ f) → Q (.int (if underF x.toInt b.toInt = true then μ.1 11 a.toNatClampNeg else -13)) μ → AA (Call (d + 2)) y_M_taken Q 19 [.ref 0, .int a, .int b, .int x] [] μ := by
    intro f
    induction f with
    | zero =>
      intro x hb2 ha2 q1 q2 q3 q4 q5 q6 hQ
      have hx : x = -1 := eq32.mpr (by show x.toInt = -1; omega)
      subst hx
      refine b_M_taken_19 ⟨fun _ => ⟨fun _ => ?_, fun c => absurd (eq32.mp c) (by show ¬ (-1 : Int) = _; omega)⟩, fun c => absurd rfl c⟩
      have e : underF (-1) b.toInt = false := by
        unfold underF
        simp
        omega
      rw [show ((-1 : Int32)).toInt = -1 from rfl, e] at hQ
      exact hQ
    | succ f ih =>
      intro x hb2 ha2 q1 q2 q3 q4 q5 q6 hQ
      refine b_M_taken_19 ?_
      refine ⟨fun c1 => ?_, fun c1 => ?_⟩
      · have c1 : (x).toInt = (-1 : Int) := eq32.mp c1
        refine ⟨fun c2 => ?_, fun c2 => ?_⟩
        · have c2 : ¬ (x).toInt = (b).toInt := fun z => c2 (eq32.mpr z)
          first
            | omega
            | (refine Qi hQ ?_
               rw [show underF x.toInt b.toInt = true by unfold underF; simp; omega]; rfl)
            | (refine Qi hQ ?_
               rw [show underF x.toInt b.toInt = false by unfold underF; simp; omega]; rfl)
        · have c2 : (x).toInt = (b).toInt := eq32.mp c2
          refine ⟨by exact vin_of (by omega) (by omega), ?_⟩
          first
            | omega
            | (refine Qi hQ ?_
               rw [show underF x.toInt b.toInt = true by unfold underF; simp; omega]; rfl)
            | (refine Qi hQ ?_
               rw [show underF x.toInt b.toInt = false by unfold underF; simp; omega]; rfl)
      · have c1 : ¬ (x).toInt = (-1 : Int) := fun z => c1 (eq32.mpr z)
        refine ⟨fun c3 => ?_, fun c3 => ?_⟩
        · have c3 : (x).toInt = (b).toInt := eq32.mp c3
          refine ⟨fun c4 => ?_, fun c4 => ?_⟩
          · have c4 : ¬ (x).toInt = (b).toInt := fun z => c4 (eq32.mpr z)
            first
              | omega
              | (refine Qi hQ ?_
                 rw [show underF x.toInt b.toInt = true by unfold underF; simp; omega]; rfl)
              | (refine Qi hQ ?_
                 rw [show underF x.toInt b.toInt = false by unfold underF; simp; omega]; rfl)
          · have c4 : (x).toInt = (b).toInt := eq32.mp c4
            refine ⟨by exact vin_of (by omega) (by omega), ?_⟩
            first
              | omega
              | (refine Qi hQ ?_
                 rw [show underF x.toInt b.toInt = true by unfold underF; simp; omega]; rfl)
              | (refine Qi hQ ?_
                 rw [show underF x.toInt b.toInt = false by unfold underF; simp; omega]; rfl)
        · have c3 : ¬ (x).toInt = (b).toInt := fun z => c3 (eq32.mpr z)
          refine M_over_ok ⟨_, rfl, ?_⟩
          have hne : ¬ x.toInt = b.toInt := by assumption
          have hn1 : ¬ x.toInt = -1 := by assumption
          rcases (show x.toInt = 0 ∨ x.toInt = 1 ∨ x.toInt = 2 ∨ x.toInt = 3 ∨ x.toInt = 4 ∨ x.toInt = 5 by omega) with q | q | q | q | q | q <;> (rw [q] at hQ hne ⊢; refine ih _ hb2 ha2 (by decide) (by decide) (by intro; omega) (by simp <;> omega) (by simp <;> omega) (by simp <;> omega) (Qi hQ ?_); congr 1; simp [underF]; try omega)
  refine b_M_taken_0 ?_
  refine M_in_ok (A := (b).toInt) (B := (0 : Int)) (C := (5 : Int)) (lI _) rfl rfl ⟨_, rfl, ?_⟩
  refine b_nz (fun c1 => ?_) (fun c1 => ?_)
  · refine M_isLaw_ok h3 ⟨_, rfl, ?_⟩
    refine b_nz (fun c2 => ?_) (fun c2 => ?_)
    · refine ⟨by exact vin_of (by omega) (by omega), ?_⟩
      have hr := hk a.toNatClampNeg (vin_lt (vin_of (by omega) (by omega)))
      obtain ⟨r1, r2⟩ := hr
      exact key 3 _ (by omega) (by omega) (by omega) r2 (by omega) (by omega) (by omega) (by omega) (hg (by omega) (by omega))
    · first
        | exact hb (by omega)
        | exact hn (by omega) (by omega)
  · first
      | exact hb (by omega)
      | exact hn (by omega) (by omega)
