/-! ===== the class: laws, what was said, days drawn, turns ===== -/
def lawX (n : Nat) (μ : Mem) : Prop := n ≤ 6 ∧ μ.1 20 2 = nI n ∧ ∀ i, i < 6 → rng (μ.1 21 i) 0 5 ∧ rng (μ.1 22 i) 0 9
/-- a day by another law -/
theorem DayL_ok {d i : Nat} {Q : QQ} {μ : Mem} {e : DE} {tx : Nat → Nat → List Int32} {t n : Nat} {r : Nat → Int32} (hi : isX0 e tx t μ) (hwf : wfE e) (hL : lawX n μ) (hin : i < n) (hrow : rowM 1 r μ) (hok : rowOk r) (hQ : ∀ μ', Only tX μ μ' → (∀ p, p < npE e → μ'.1 47 p = (dE (setLw e (μ.1 21 i) (μ.1 22 i)) r).2.1 p ∧ μ'.1 48 p = (dE (setLw e (μ.1 21 i) (μ.1 22 i)) r).2.2 p ∧ μ'.1 49 p = goodF (setLw e (μ.1 21 i) (μ.1 22 i)) (dE (setLw e (μ.1 21 i) (μ.1 22 i)) r) p) → Q .null μ') : Call (d + 6) y_Day_dawn [.ref 44] μ (fun _ μ1 => ∀ μ2 : Mem, μ2 = wI μ1 44 (upd (μ1.1 44) 7 (nI i)) → Call (d + 6) y_Day_live [.ref 44] μ2 Q) := by
  obtain ⟨L1, L2, L3⟩ := hL
  refine Dawn_ok hi hwf hrow (fun s1 o1 i1 r1 _ s2 e2 => ?_)
  have i2 := i1.sl hwf.1 (.we e2) (by rw [e2, wI_s, upd_s]) (show i < 6 by omega)
  rw [o1.i 21, o1.i 22] at i2
  have wf2 : wfE (setLw e (μ.1 21 i) (μ.1 22 i)) := wf_setL hwf (L3 i (by omega)).1 (L3 i (by omega)).2
  exact DayX_ok i2 wf2 (r := r) (fun j hj => by rw [e2, wI_n (by decide)]; exact r1 j hj) hok (fun s3 o3 _ sp3 => hQ s3 ((o1.trans (.we e2)).trans (o3.mono (by simp))) sp3)
theorem X_best_ok {d : Nat} {Q : QQ} {μ : Mem} {e : DE} {tx : Nat → Nat → List Int32} {t n : Nat} {a : Int32} {r : Nat → Int32} (hi : isX0 e tx t μ) (hwf : wfE e) (hL : lawX n μ) (hrow : rowM 1 r μ) (hok : rowOk r) (hb : ¬ (0 ≤ a.toInt ∧ a.toInt ≤ 2) → Q (.int (-100000)) μ) (hg : 0 ≤ a.toInt ∧ a.toInt ≤ 2 → ∀ μ', Only tX μ μ' → Q (.int (if a = 0 then (bestF e r (μ.1 21) (μ.1 22) n).1 else if a = 1 then (bestF e r (μ.1 21) (μ.1 22) n).2.1 else (bestF e r (μ.1 21) (μ.1 22) n).2.2)) μ') : Call (d + 7) y_X_best [.ref 0, .int a] μ Q := by
  have h5 := hwf.2.2.1
  obtain ⟨L1, L2, L3⟩ := hL
  refine b_X_best_0 (X_within_ok (A := a.toInt) (B := 2) rfl rfl ⟨_, rfl, b_nz (fun c1 => ?_) (fun c1 => hb c1)⟩)
  have g := hg c1
  refine loopN (G := fun i s => AA (Call (d + 6)) y_X_best Q 14 [.ref 0, .int a, .int (bestF e r (μ.1 21) (μ.1 22) i).1, .int (bestF e r (μ.1 21) (μ.1 22) i).2.1, .int (bestF e r (μ.1 21) (μ.1 22) i).2.2, .int (nI i), un, un] [] s) (P := fun i s => Only tX μ s) (N := n) ?_ ?_ 0 μ (by omega) Only.rf
  · intro s o
    refine b_X_best_14 ⟨fun _ => ?_, fun z => absurd (by rw [o.i 20, L2]; exact Int32.le_refl _) z⟩
    have g := g s o
    refine ⟨fun z => ⟨fun z2 => ?_, fun z2 => ?_⟩, fun z => ?_⟩
    · rw [if_neg z, if_neg z2] at g; exact g
    · rw [if_neg z, if_pos z2] at g; exact g
    · rw [if_pos z] at g; exact g
  · intro i s hin o ih
    refine b_X_best_14 ⟨fun z => absurd (le32.mp z) (by rw [o.i 20, L2, nI_i (by omega), nI_i (by omega)]; omega), fun _ => ?_⟩
    have k21 : s.1 21 = μ.1 21 := o.i 21
    have k22 : s.1 22 = μ.1 22 := o.i 22
    refine DayL_ok (n := n) (hi.fr hwf.1 o) hwf ⟨L1, by rw [o.i 20]; exact L2, by rw [k21, k22]; exact L3⟩ hin (r := r) (fun j hj => by rw [o.i 1]; exact hrow j hj) hok (fun s3 o3 sp3 => ?_)
    rw [k21, k22] at sp3
    have o13 := o.trans o3
    have h16 : s3.1 16 3 = nI (npE e) := by rw [o13.i 16]; exact hi.2.2.1
    refine Day_howManySaid_ok h5 h16 (fun p hp => (sp3 p hp).1) ⟨_, rfl, ?_⟩
    refine Day_allGood_ok h5 h16 (fun p hp => (sp3 p hp).2.2) ⟨_, rfl, ?_⟩
    rw [nI_1]
    have nxt : ∀ x y : Int32, AA (Call (d + 6)) y_X_best Q 14 [.ref 0, .int a, .int (bestF e r (μ.1 21) (μ.1 22) (i + 1)).1, .int (bestF e r (μ.1 21) (μ.1 22) (i + 1)).2.1, .int (bestF e r (μ.1 21) (μ.1 22) (i + 1)).2.2, .int (nI (i + 1)), .int x, .int y] [] s3 := by
      intro x y
      refine AA_weak ?_ (ih s3 o13)
      exact ⟨Or.inl rfl, Or.inl rfl, Or.inl rfl, Or.inl rfl, Or.inl rfl, Or.inl rfl, Or.inr ⟨rfl, rfl⟩, Or.inr ⟨rfl, rfl⟩, trivial⟩
    refine ⟨fun z => ?_, fun z => ⟨fun z2 => ?_, fun z2 => ⟨fun z3 => ?_, fun z3 => ⟨fun z4 => ?_, fun z4 => ?_⟩⟩⟩⟩
    · have g := nxt
      rw [best_y (Or.inl z)] at g
      exact g _ _
    · have g := nxt
      rw [best_y (Or.inr (Or.inl z2))] at g
      exact g _ _
    · have g := nxt
      rw [best_n (fun y => y.elim z (fun y => y.elim z2 (fun y => z3 y.1)))] at g
      exact g _ _
    · have g := nxt
      rw [best_n (fun y => y.elim z (fun y => y.elim z2 (fun y => y.2 z4)))] at g
      exact g _ _
    · have g := nxt
      rw [best_y (Or.inr (Or.inr ⟨z3, z4⟩))] at g
      exact g _ _
/-- why a sheet can't be judged -/
def pbX (μ : Mem) (a : Int32) : Int32 := if 0 ≤ a.toInt ∧ a.toInt ≤ 3 then (if μ.1 58 a.toNatClampNeg = -1 then -11 else if μ.1 59 a.toNatClampNeg = μ.1 16 3 then 0 else -2) else -2
theorem pbX_0 {μ : Mem} {a : Int32} (h : pbX μ a = 0) : 0 ≤ a.toInt ∧ a.toInt ≤ 3 := by
  unfold pbX at h
  by_cases q : 0 ≤ a.toInt ∧ a.toInt ≤ 3
  · exact q
  · rw [if_neg q] at h
    exact absurd h (by decide)
theorem X_refusalToJudge_ok {d : Nat} {Q : QQ} {μ : Mem} {a : Int32} (hQ : Q (.int (pbX μ a)) μ) : Call (d + 2) y_X_refusalToJudge [.ref 0, .int a] μ Q := by
  unfold pbX at hQ
  refine b_X_refusalToJudge_0 (X_within_ok (A := a.toInt) (B := 3) rfl rfl ⟨_, rfl, b_nz (fun c1 => ⟨vin_of c1.1 (by omega), fun c2 => ⟨vin_of c1.1 (by omega), fun c3 => ?_, fun c3 => ?_⟩, fun c2 => ?_⟩) (fun c1 => ?_)⟩)
  · rw [if_pos c1, if_neg c2, if_neg c3] at hQ; exact hQ
  · rw [if_pos c1, if_neg c2, if_pos c3] at hQ; exact hQ
  · rw [if_pos c1, if_pos c2] at hQ; exact hQ
  · rw [if_neg c1] at hQ; exact hQ
theorem Day_firstUnlike_ok {d a : Nat} {Q : QQ} {μ : Mem} {n : Nat} {s : DS} {f : Nat → Int32} (hn : n ≤ 5) (ha : a < 4) (h16 : μ.1 16 3 = nI n) (hs : ∀ p, p < n → μ.1 47 p = s.2.1 p ∧ μ.1 48 p = s.2.2 p) (hf : ∀ p, p < n → μ.1 (61 + a) p = f p) (hQ : Q (.int (unlG s f n 0)) μ) : Call (d + 1) y_Day_firstUnlike [.ref 44, .ref (61 + a)] μ Q := by
  refine b_Day_firstUnlike_0 ?_
  have hl : 5 ≤ ilen 0 (61 + a) := by
    rcases Nat.lt_or_ge a 1 with q | q
    · rw [show a = 0 by omega]; decide
    rcases Nat.lt_or_ge a 2 with q | q
    · rw [show a = 1 by omega]; decide
    rcases Nat.lt_or_ge a 3 with q | q
    · rw [show a = 2 by omega]; decide
    · rw [show a = 3 by omega]; decide
  have hl2 : ilen 0 (61 + a) < 2147483648 := by
    rcases Nat.lt_or_ge a 1 with q | q
    · rw [show a = 0 by omega]; decide
    rcases Nat.lt_or_ge a 2 with q | q
    · rw [show a = 1 by omega]; decide
    rcases Nat.lt_or_ge a 3 with q | q
    · rw [show a = 2 by omega]; decide
    · rw [show a = 3 by omega]; decide
  refine loopN (G := fun i (v : Unit) => AA (Call d) y_Day_firstUnlike Q 2 [.ref 44, .ref (61 + a), .int (nI i), un] [] μ) (P := fun i v => unlG s f (n - i) i = unlG s f n 0) (N := n) ?_ ?_ 0 () (by omega) rfl
  · intro v h1
    rw [Nat.sub_self] at h1
    exact b_Day_firstUnlike_2 ⟨fun _ => Qi hQ h1, fun z => absurd (by rw [h16]; exact Int32.le_refl _) z⟩
  · intro i v hin h1 ih
    obtain ⟨k, hk⟩ : ∃ k, n - i = k + 1 := ⟨n - i - 1, by omega⟩
    rw [hk] at h1
    simp only [unlG] at h1
    have vi : vp_in (nI i) 5 := nI_v (by omega) (by omega)
    have vl : vp_in (nI i) (ilen 0 (61 + a)) := nI_v (by omega) hl2
    refine b_Day_firstUnlike_2 ⟨fun z => absurd (le32.mp z) (by rw [h16, nI_i (by omega), nI_i (by omega)]; omega), fun _ => ⟨vi, ?_⟩⟩
    rw [nI_c (by omega), nI_1, (hs i hin).1, (hs i hin).2, hf i hin]
    have go : f i = dueF s i → ∀ x : Int32, AA (Call d) y_Day_firstUnlike Q 2 [.ref 44, .ref (61 + a), .int (nI (i + 1)), .int x] [] μ := by
      intro z x
      rw [if_pos z.symm] at h1
      refine AA_weak ?_ (ih () (by rw [show n - (i + 1) = k by omega]; exact h1))
      exact ⟨Or.inl rfl, Or.inl rfl, Or.inl rfl, Or.inr ⟨rfl, rfl⟩, trivial⟩
    have st : ¬ f i = dueF s i → Q (.int (nI i)) μ := by
      intro z
      rw [if_neg (fun y => z y.symm)] at h1
      exact Qi hQ h1
    unfold dueF at go st
    refine ⟨fun z => ?_, fun z => ?_⟩
    · rw [if_neg z] at go st
      exact ⟨vi, vl, fun y => go y _, fun y => st y⟩
    · rw [if_pos z] at go st
      exact ⟨vl, fun y => go y _, fun y => st y⟩
theorem X_judge_ok {d : Nat} {Q : QQ} {μ : Mem} {e : DE} {tx : Nat → Nat → List Int32} {t : Nat} {a : Int32} {r : Nat → Int32} (hi : isX0 e tx t μ) (hwf : wfE e) (hrow : rowM 1 r μ) (hok : rowOk r) (hb : ¬ pbX μ a = 0 → Q (.int (pbX μ a)) μ) (hg : pbX μ a = 0 → ∀ μ', Only tX μ μ' → Q (.int (unlG (dE e r) (μ.1 (61 + a.toNatClampNeg)) (npE e) 0)) μ') : Call (d + 7) y_X_judge [.ref 0, .int a] μ Q := by
  have h5 := hwf.2.2.1
  refine b_X_judge_0 (X_refusalToJudge_ok ⟨_, rfl, fun z => ?_, fun z => hb z⟩)
  have g := hg z
  obtain ⟨q1, q2⟩ := pbX_0 z
  obtain ⟨s, hs, rfl, es⟩ := nI_ex (x := a) q1
  rw [nI_c hs] at g ⊢
  refine Dawn_ok hi hwf hrow (fun μ1 o1 i1 r1 _ => DayX_ok i1 hwf r1 hok (fun μ2 o2 r2 sp2 => ⟨nI_v (by omega) (by omega), ?_⟩))
  have o12 : Only tX μ μ2 := o1.trans (o2.mono (by simp))
  exact Day_firstUnlike_ok h5 (by omega) (by rw [o12.i 16]; exact hi.2.2.1) (fun p hp => ⟨(sp2 p hp).1, (sp2 p hp).2.1⟩) (fun p _ => by rw [o12.i (61 + s) (by simp; omega)]) ⟨_, rfl, g μ2 o12⟩
theorem X_whose_ok {d : Nat} {Q : QQ} {μ : Mem} {e : DE} {tx : Nat → Nat → List Int32} {t n : Nat} {a : Int32} {r : Nat → Int32} (hi : isX0 e tx t μ) (hwf : wfE e) (hL : lawX n μ) (hrow : rowM 1 r μ) (hok : rowOk r) (hb : ¬ pbX μ a = 0 → Q (.int (pbX μ a)) μ) (hg : pbX μ a = 0 → ∀ μ', Only tX μ μ' → Q (.int (whoF e r (μ.1 21) (μ.1 22) (μ.1 (61 + a.toNatClampNeg)) n)) μ') : Call (d + 7) y_X_whose [.ref 0, .int a] μ Q := by
  have h5 := hwf.2.2.1
  obtain ⟨L1, L2, L3⟩ := hL
  refine b_X_whose_0 (X_refusalToJudge_ok ⟨_, rfl, fun z => ?_, fun z => hb z⟩)
  have g := hg z
  obtain ⟨q1, q2⟩ := pbX_0 z
  obtain ⟨s, hs, rfl, es⟩ := nI_ex (x := a) q1
  rw [nI_c hs] at g
  refine loopN (G := fun i u => AA (Call (d + 6)) y_X_whose Q 12 [.ref 0, .int (nI s), .int _, .int (whoF e r (μ.1 21) (μ.1 22) (μ.1 (61 + s)) i), .int (nI i)] [] u) (P := fun i u => Only tX μ u) (N := n) ?_ ?_ 0 μ (by omega) Only.rf
  · intro u o
    exact b_X_whose_12 ⟨fun _ => g u o, fun z => absurd (by rw [o.i 20, L2]; exact Int32.le_refl _) z⟩
  · intro i u hin o ih
    refine b_X_whose_12 ⟨fun z => absurd (le32.mp z) (by rw [o.i 20, L2, nI_i (by omega), nI_i (by omega)]; omega), fun _ => ?_⟩
    have k21 : u.1 21 = μ.1 21 := o.i 21
    have k22 : u.1 22 = μ.1 22 := o.i 22
    refine DayL_ok (n := n) (hi.fr hwf.1 o) hwf ⟨L1, by rw [o.i 20]; exact L2, by rw [k21, k22]; exact L3⟩ hin (r := r) (fun j hj => by rw [o.i 1]; exact hrow j hj) hok (fun s3 o3 sp3 => ⟨nI_v (by omega) (by omega), ?_⟩)
    rw [k21, k22] at sp3
    have o13 := o.trans o3
    rw [nI_c hs, nI_1]
    refine Day_firstUnlike_ok (s := dE (setLw e (μ.1 21 i) (μ.1 22 i)) r) (f := μ.1 (61 + s)) h5 (by omega) (by rw [o13.i 16]; exact hi.2.2.1) (fun p hp => ⟨(sp3 p hp).1, (sp3 p hp).2.1⟩) (fun p _ => by rw [o13.i (61 + s) (by simp; omega)]) ⟨_, rfl, ?_⟩
    have nxt := ih s3 o13
    simp only [whoF] at nxt
    refine ⟨fun z => ?_, fun z => ?_⟩
    · rw [if_neg (show ¬ unlG (dE (setLw e (μ.1 21 i) (μ.1 22 i)) r) (μ.1 (61 + s)) (npE e) 0 = -1 from z)] at nxt
      have e0 : ∀ x k : Int32, x ||| ((0 : Int32) <<< (k &&& 31)) = x := by
        intro x k
        rw [show (0 : Int32) <<< (k &&& 31) = 0 from Int32.zero_shiftLeft, Int32.or_zero]
      rw [e0] at nxt
      exact nxt
    · rw [if_pos (show unlG (dE (setLw e (μ.1 21 i) (μ.1 22 i)) r) (μ.1 (61 + s)) (npE e) 0 = -1 from z)] at nxt
      exact nxt
theorem X_fits_ok {d : Nat} {Q : QQ} {μ : Mem} {e : DE} {tx : Nat → Nat → List Int32} {t : Nat} {a b : Int32} {r : Nat → Int32} (hi : isX0 e tx t μ) (hwf : wfE e) (hrow : rowM 1 r μ) (hok : rowOk r) (hb : ¬ (0 ≤ a.toInt ∧ a.toInt < npE e ∧ 0 ≤ b.toInt ∧ b.toInt ≤ 9999) → Q (.int (-2)) μ) (hg : 0 ≤ a.toInt ∧ a.toInt < npE e ∧ 0 ≤ b.toInt ∧ b.toInt ≤ 9999 → ∀ μ', Only tX μ μ' → Q (.int (bitF e (rowAt e r a.toNatClampNeg) a.toNatClampNeg b 0 (nwE e))) μ') : Call (d + 6) y_X_fits [.ref 0, .int a, .int b] μ Q := by
  have h5 := hwf.2.2.1
  have h10 := hwf.1
  refine b_X_fits_0 ?_
  rw [hi.2.2.1]
  refine X_within_ok (A := a.toInt) rfl (sub1_i (by omega)) ⟨_, rfl, b_z (fun c1 => hb (by omega)) (fun c1 => X_within_ok (A := b.toInt) (B := 9999) rfl rfl ⟨_, rfl, b_nz (fun c2 => ?_) (fun c2 => hb (by omega))⟩)⟩
  have g := hg (by omega)
  obtain ⟨p, hp, rfl, ep⟩ := nI_ex (x := a) c1.1
  have hpn : p < npE e := by omega
  rw [nI_c hp] at g
  refine Dawn_ok hi hwf hrow (fun μ1 o1 i1 r1 _ => Day_liveTo_ok i1 hwf r1 hok (fun z => absurd rfl (z p hpn)) (fun q hq zq s3 h3 => ?_))
  have zq := congrArg Int32.toInt zq
  rw [nI_i (by omega), nI_i (by omega)] at zq
  have zq : q = p := by omega
  subst zq
  obtain ⟨o3, r3, _⟩ := h3
  have o13 : Only tX μ s3 := o1.trans (o3.mono (by simp))
  have i3 := i1.fr h10 o3 (by simp)
  have vp : vp_in (nI q) 5 := nI_v (by omega) (by omega)
  have r3 : rowM 45 (rowAt e r q) s3 := r3
  have ok3 : rowOk (rowAt e r q) := hourF_ok hwf (dayF_ok hwf hok _) _
  refine loopN (G := fun w s => AA (Call (d + 5)) y_X_fits Q 25 [.ref 0, .int (nI q), .int b, .int (bitF e (rowAt e r q) q b 0 w), .int (nI w)] [] s) (P := fun w s => Only [42, 43] s3 s) (N := nwE e) ?_ ?_ 0 s3 (by omega) Only.rf
  · intro s o
    have oo : Only tX μ s := o13.trans (o.mono (by simp))
    exact b_X_fits_25 ⟨fun _ => g s oo, fun z => absurd (by rw [oo.i 2, hi.1]; exact Int32.le_refl _) z⟩
  · intro w s hw o ih
    have oo : Only tX μ s := o13.trans (o.mono (by simp))
    have is : isX e tx t s := i3.fr h10 o (by simp)
    have i0 : isX0 e tx t s := hi.fr h10 oo
    refine b_X_fits_25 ⟨fun z => absurd (le32.mp z) (by rw [oo.i 2, hi.1, nI_i (by omega), nI_i (by omega)]; omega), fun _ => ⟨nI_v (by omega) (by omega), vp, ?_⟩⟩
    rw [nI_c (by omega), nI_c (by omega), nI_1, (i0.2.1 w hw).1, (i0.2.2.2.1 q hpn).1, (i0.2.2.2.1 q hpn).2.1]
    refine ⟨fun z => ⟨vp, Day_costOf_ok is hwf hw (r := rowAt e r q) (fun j hj => by rw [o.i 45]; exact r3 j hj) ok3 (fun s5 o5 => ⟨_, rfl, ?_⟩)⟩, fun z => ?_⟩
    · have nxt := ih s5 (o.trans o5)
      refine ⟨fun z2 => ?_, fun z2 => ?_⟩
      · rw [bit_n (fun y => z2 y.2)] at nxt
        exact nxt
      · rw [bit_y z z2] at nxt
        exact nxt
    · have nxt := ih s o
      rw [bit_n (fun y => z y.1)] at nxt
      exact nxt
theorem Day_draw_ok {d : Nat} {Q : QQ} {μ : Mem} {a : Int32} (hQ : ∀ μ', Only [45] μ μ' → rowM 45 (drwF a) μ' → Q .null μ') : Call (d + 1) y_Day_draw [.ref 44, .int a] μ Q := by
  refine b_Day_draw_0 ?_
  refine loopN (G := fun l s => AA (Call d) y_Day_draw Q 4 [.ref 44, .int a, .int (zF a l), .int (nI l)] [] s) (P := fun l s => Only [45] μ s ∧ ∀ j, j < l → s.1 45 j = drwF a j) (N := 8) ?_ ?_ 0 μ (by omega) ⟨Only.rf, fun j hj => absurd hj (by omega)⟩
  · intro s ⟨h1, h2⟩
    exact b_Day_draw_4 ⟨fun _ => hQ s h1 h2, fun c => absurd (by decide) c⟩
  · intro l s hl ⟨h1, h2⟩ ih
    refine b_Day_draw_4 ⟨fun c => absurd (le32.mp c) (by rw [nI_i (by omega)]; show ¬ (8 : Int) ≤ _; omega), fun _ => ⟨by decide, nI_v hl (by omega), fun μ2 e2 => ?_⟩⟩
    rw [nI_1]
    rw [nI_c (by omega)] at e2
    refine ih μ2 ⟨h1.trans (.we e2), fun j hj => ?_⟩
    rw [e2, wI_s]
    by_cases q : j = l
    · rw [q, upd_s]; rfl
    · rw [upd_n q]; exact h2 j (by omega)
theorem X_drawn_ok {d : Nat} {Q : QQ} {μ : Mem} {e : DE} {tx : Nat → Nat → List Int32} {t : Nat} {a : Int32} {r : Nat → Int32} (hi : isX0 e tx t μ) (hwf : wfE e) (hrow : rowM 1 r μ) (hQ : ∀ μ', Only tX μ μ' → Q (.int (gdA e (drwF a))) μ') : Call (d + 7) y_X_drawn [.ref 0, .int a] μ Q := by
  have h5 := hwf.2.2.1
  refine b_X_drawn_0 (Dawn_ok hi hwf hrow (fun s1 o1 i1 _ _ => Day_draw_ok (fun s2 o2 r2 => DayX_ok (i1.fr hwf.1 o2 (by simp)) hwf r2 (drwF_ok a) (fun s3 o3 _ sp3 => ?_))))
  have o13 : Only tX μ s3 := (o1.trans (o2.mono (by simp))).trans (o3.mono (by simp))
  exact Day_allGood_ok h5 (by rw [o13.i 16]; exact hi.2.2.1) (fun p hp => (sp3 p hp).2.2) ⟨_, rfl, hQ s3 o13⟩
theorem X_commonDivisor_ok {d v n : Nat} {Q : QQ} {μ : Mem} (hv : v ≤ 20) (hn : 1 ≤ n) (hn2 : n ≤ 20) (hQ : Q (.int (nI (Nat.gcd v n))) μ) : Call (d + 1) y_X_commonDivisor [.int (nI v), .int (nI n)] μ Q := by
  refine b_X_commonDivisor_0 ?_
  have key : ∀ k, k ≤ 20 → Nat.gcd v n ≤ k → AA (Call d) y_X_commonDivisor Q 2 [.int (nI v), .int (nI n), .int (nI k)] [] μ := by
    intro k
    have gp : 0 < Nat.gcd v n := Nat.gcd_pos_of_pos_right v (by omega)
    induction k with
    | zero => intro _ h; omega
    | succ k ih =>
      intro hk hg
      refine b_X_commonDivisor_2 ⟨fun z => ?_, fun z => ?_⟩
      · have z := le32.mp z
        rw [nI_i (by omega)] at z
        have z : ((k + 1 : Nat) : Int) ≤ 1 := z
        have e : Nat.gcd v n = 1 := by omega
        rw [e] at hQ
        exact hQ
      · have hk0 : ¬ nI (k + 1) = 0 := fun y => by
          have := congrArg Int32.toInt y
          rw [nI_i (by omega)] at this
          have e : (0 : Int32).toInt = 0 := rfl
          omega
        have rem : ∀ a, a ≤ 20 → nI a - nI a / nI (k + 1) * nI (k + 1) = nI (a % (k + 1)) := fun a ha => pk_rem (a := a) (d := k + 1) (by omega) (by omega) (by omega)
        have r0 : ∀ a, a ≤ 20 → (nI (a % (k + 1)) = 0 ↔ k + 1 ∣ a) := fun a ha => by
          have hlt : a % (k + 1) ≤ a := Nat.mod_le _ _
          constructor
          · intro y
            have := congrArg Int32.toInt y
            rw [nI_i (by omega)] at this
            have e : (0 : Int32).toInt = 0 := rfl
            exact Nat.dvd_of_mod_eq_zero (by omega)
          · intro y
            rw [Nat.mod_eq_zero_of_dvd y]; rfl
        have ek : nI (k + 1) + (-1) = nI k := by
          apply Int32.toInt_inj.mp
          rw [add32 (by rw [nI_i (by omega)]; show _ ≤ _ + (-1 : Int); omega) (by rw [nI_i (by omega)]; show _ + (-1 : Int) < _; omega), nI_i (by omega), nI_i (by omega)]
          show _ + (-1 : Int) = _
          omega
        have dn : ¬ (k + 1 ∣ v ∧ k + 1 ∣ n) → AA (Call d) y_X_commonDivisor Q 2 [.int (nI v), .int (nI n), .int (nI k)] [] μ := fun y => ih (by omega) (by
          rcases Nat.lt_or_ge (Nat.gcd v n) (k + 1) with q | q
          · omega
          · exact absurd ⟨by rw [show k + 1 = Nat.gcd v n by omega]; exact Nat.gcd_dvd_left v n, by rw [show k + 1 = Nat.gcd v n by omega]; exact Nat.gcd_dvd_right v n⟩ y)
        rw [rem v hv, rem n hn2, ek]
        refine ⟨hk0, fun y => dn (fun q => y ((r0 v hv).mpr q.1)), fun y => ⟨hk0, fun y2 => dn (fun q => y2 ((r0 n hn2).mpr q.2)), fun y2 => ?_⟩⟩
        have := Nat.le_of_dvd gp (Nat.dvd_gcd ((r0 v hv).mp y) ((r0 n hn2).mp y2))
        rw [show k + 1 = Nat.gcd v n by omega]
        exact hQ
  exact key n hn2 (Nat.le_of_dvd (by omega) (Nat.gcd_dvd_right v n))
theorem X_chance_ok {d : Nat} {Q : QQ} {μ : Mem} {e : DE} {tx : Nat → Nat → List Int32} {t : Nat} {a b c : Int32} {r : Nat → Int32} (hi : isX0 e tx t μ) (hwf : wfE e) (hrow : rowM 1 r μ) (hb : ¬ (1 ≤ b.toInt ∧ b.toInt ≤ 20 ∧ 0 ≤ c.toInt ∧ c.toInt ≤ 1) → Q (.long (-4611686018427387904)) μ) (hg : 1 ≤ b.toInt ∧ b.toInt ≤ 20 ∧ 0 ≤ c.toInt ∧ c.toInt ≤ 1 → ∀ μ', Only tX μ μ' → Q (.long (if c = 0 then nL (chcF e a b.toNatClampNeg / Nat.gcd (chcF e a b.toNatClampNeg) b.toNatClampNeg) else nL (b.toNatClampNeg / Nat.gcd (chcF e a b.toNatClampNeg) b.toNatClampNeg))) μ') : Call (d + 7) y_X_chance [.ref 0, .int a, .int b, .int c] μ Q := by
  have h5 := hwf.2.2.1
  refine b_X_chance_0 (X_within_ok (A := (b - 1).toInt) (B := 19) rfl rfl ⟨_, rfl, b_z (fun c1 => hb (fun y => c1 (sub1_w.mpr ⟨y.1, y.2.1⟩))) (fun c1 => X_within_ok (A := c.toInt) (B := 1) rfl rfl ⟨_, rfl, b_nz (fun c2 => ?_) (fun c2 => hb (by omega))⟩)⟩)
  have c1 := sub1_w.mp c1
  have g := hg (by omega)
  obtain ⟨n, hn, rfl, en⟩ := nI_ex (x := b) (by omega)
  rw [nI_c hn] at g
  refine loopN (G := fun k s => AA (Call (d + 6)) y_X_chance Q 16 [.ref 0, .int a, .int (nI n), .int c, .int (nI (chcF e a k)), .int (nI k)] [] s) (P := fun k s => Only tX μ s) (N := n) ?_ ?_ 0 μ (by omega) Only.rf
  · intro s o
    refine b_X_chance_16 ⟨fun _ => ?_, fun z => absurd (Int32.le_refl _) z⟩
    have cle := chcF_le (e := e) (a := a) n
    refine X_commonDivisor_ok (by omega) (by omega) (by omega) ⟨_, rfl, ?_⟩
    have g := g s o
    have gp : 0 < Nat.gcd (chcF e a n) n := Nat.gcd_pos_of_pos_right _ (by omega)
    have gl : Nat.gcd (chcF e a n) n ≤ n := Nat.le_of_dvd (by omega) (Nat.gcd_dvd_right _ n)
    have g0 : ¬ nI (Nat.gcd (chcF e a n) n) = 0 := fun y => by
      have := congrArg Int32.toInt y
      rw [nI_i (by omega)] at this
      have e : (0 : Int32).toInt = 0 := rfl
      omega
    have dv : ∀ x, x ≤ 20 → Int32.toInt64 (nI x / nI (Nat.gcd (chcF e a n) n)) = nL (x / Nat.gcd (chcF e a n) n) := by
      intro x hx
      have : nI x / nI (Nat.gcd (chcF e a n) n) = nI (x / Nat.gcd (chcF e a n) n) := pk_div (by omega) (by omega) (by omega)
      rw [this]; rfl
    refine ⟨fun z => ⟨g0, ?_⟩, fun z => ⟨g0, ?_⟩⟩
    · rw [if_neg z] at g
      rw [dv n (by omega)]; exact g
    · rw [if_pos z] at g
      rw [dv _ (by omega)]; exact g
  · intro k s hk o ih
    refine b_X_chance_16 ⟨fun z => absurd (le32.mp z) (by rw [nI_i (by omega), nI_i (by omega)]; omega), fun _ => ?_⟩
    refine Dawn_ok (hi.fr hwf.1 o) hwf (r := r) (fun j hj => by rw [o.i 1]; exact hrow j hj) (fun s1 o1 i1 _ _ => Day_draw_ok (fun s2 o2 r2 => DayX_ok (i1.fr hwf.1 o2 (by simp)) hwf r2 (drwF_ok _) (fun s3 o3 _ sp3 => ?_)))
    have o13 : Only tX μ s3 := ((o.trans o1).trans (o2.mono (by simp))).trans (o3.mono (by simp))
    have h16 : s3.1 16 3 = nI (npE e) := by rw [o13.i 16]; exact hi.2.2.1
    refine Day_howManySaid_ok h5 h16 (fun p hp => (sp3 p hp).1) ⟨_, rfl, ?_⟩
    rw [h16, nI_1, nI_1]
    have g := ih s3 o13
    simp only [chcF] at g
    refine ⟨fun z => ?_, fun z => ?_⟩
    · rw [if_neg z] at g
      exact g
    · rw [if_pos z] at g
      exact g
