/-! ===== the reference: which law; what was said; days drawn ===== -/
/-- as isM, THE LAW apart -/
theorem isM.sl {e : DE} {tx : Nat → Nat → List Int32} {t i : Nat} {μ μ' : Mem} (h : isM e tx t μ) (hf : ∀ k, k < 18 → μ'.1 0 k = μ.1 0 k) (hc : ∀ k, 5 ≤ k → k < 12 → μ'.1 k = μ.1 k) (h18 : μ'.1 0 18 = nI i) (hi : i < 6) (hT : TxM tx μ') : isM (setLw e (μ.1 10 i) (μ.1 11 i)) tx t μ' := by
  obtain ⟨h1, h2, h3, h4, h5, h6, h7, h8, h9, h10⟩ := h
  unfold isM mK mN rulM
  rw [hf 10 (by omega), hf 14 (by omega), h18, hf 3 (by omega), hf 4 (by omega), hc 5 (by omega) (by omega), hc 6 (by omega) (by omega), hc 7 (by omega) (by omega), hc 8 (by omega) (by omega), hc 9 (by omega) (by omega), hc 10 (by omega) (by omega), hc 11 (by omega) (by omega), nI_c (by omega)]
  exact ⟨h1, h2, h3, h4, nI_v hi (by omega), rfl, rfl, h8, hT, h10⟩
noncomputable def bestF (e : DE) (r kf nf : Nat → Int32) : Nat → Int32 × Int32 × Int32
  | 0 => (-1, 0, 0)
  | i + 1 => @ite _ ((bestF e r kf nf i).1 = -1 ∨ (bestF e r kf nf i).2.1 < sayF (dE (setLw e (kf i) (nf i)) r) (npE e) ∨ sayF (dE (setLw e (kf i) (nf i)) r) (npE e) = (bestF e r kf nf i).2.1 ∧ ¬ gdA (setLw e (kf i) (nf i)) r ≤ (bestF e r kf nf i).2.2) (Classical.propDecidable _) (nI i, sayF (dE (setLw e (kf i) (nf i)) r) (npE e), gdA (setLw e (kf i) (nf i)) r) (bestF e r kf nf i)
theorem best_y {e : DE} {r kf nf : Nat → Int32} {i : Nat} (h : (bestF e r kf nf i).1 = -1 ∨ (bestF e r kf nf i).2.1 < sayF (dE (setLw e (kf i) (nf i)) r) (npE e) ∨ sayF (dE (setLw e (kf i) (nf i)) r) (npE e) = (bestF e r kf nf i).2.1 ∧ ¬ gdA (setLw e (kf i) (nf i)) r ≤ (bestF e r kf nf i).2.2) : bestF e r kf nf (i + 1) = (nI i, sayF (dE (setLw e (kf i) (nf i)) r) (npE e), gdA (setLw e (kf i) (nf i)) r) := if_pos h
theorem best_n {e : DE} {r kf nf : Nat → Int32} {i : Nat} (h : ¬ ((bestF e r kf nf i).1 = -1 ∨ (bestF e r kf nf i).2.1 < sayF (dE (setLw e (kf i) (nf i)) r) (npE e) ∨ sayF (dE (setLw e (kf i) (nf i)) r) (npE e) = (bestF e r kf nf i).2.1 ∧ ¬ gdA (setLw e (kf i) (nf i)) r ≤ (bestF e r kf nf i).2.2)) : bestF e r kf nf (i + 1) = bestF e r kf nf i := if_neg h
/-- the laws, all of them -/
def lawM (n : Nat) (μ : Mem) : Prop := n ≤ 6 ∧ μ.1 0 17 = nI n ∧ ∀ i, i < 6 → rng (μ.1 10 i) 0 5 ∧ rng (μ.1 11 i) 0 9
/-- while THE LAW is set aside -/
def frL (μ s : Mem) : Prop := Only [0, 12, 13, 14, 15, 16, 17, 18] μ s ∧ ∀ k, k < 18 ∨ 33 < k ∧ k ≤ 40 ∨ 47 < k → s.1 0 k = μ.1 0 k
theorem frG.l {a b : Mem} (h : frG a b) : frL a b := ⟨h.1, fun k hk => h.2 k (by omega)⟩
theorem frL.trans {a b c : Mem} (h1 : frL a b) (h2 : frL b c) : frL a c := ⟨h1.1.trans h2.1, fun k hk => (h2.2 k hk).trans (h1.2 k hk)⟩
theorem frL.w {μ : Mem} {x : Int32} : frL μ (wI μ 0 (upd (μ.1 0) 18 x)) := ⟨Only.w, fun k hk => by rw [wI_s, upd_n (by omega)]⟩
theorem TxM.w0 {tx : Nat → Nat → List Int32} {μ μ' : Mem} {k : Nat} {x : Int32} (h : TxM tx μ) (e : μ' = wI μ 0 (upd (μ.1 0) k x)) (hk : k ≠ 3 := by decide) : TxM tx μ' := h.cong (by rw [e, wI_s, upd_n (Ne.symm hk)]) (by rw [e, wI_n (by decide)]) (by rw [e, wI_n (by decide)]) (by rw [e, wI_n (by decide)]) (by rw [e, wI_2])
theorem back18 {μ s s' : Mem} (h : frL μ s) (e : s' = wI s 0 (upd (s.1 0) 18 (μ.1 0 18))) : frG μ s' := ⟨h.1.trans (by rw [e]; exact Only.w), fun k hk => by
  rw [e, wI_s]
  by_cases q : k = 18
  · rw [q, upd_s]
  · rw [upd_n q]; exact h.2 k (by omega)⟩
theorem M_best_ok {d : Nat} {Q : QQ} {μ : Mem} {e : DE} {tx : Nat → Nat → List Int32} {t n : Nat} {a : Int32} {r : Nat → Int32} (hi : isM e tx t μ) (hwf : wfE e) (hL : lawM n μ) (hrow : rowM 4 r μ) (hok : rowOk r) (hb : ¬ (0 ≤ a.toInt ∧ a.toInt ≤ 2) → Q (.int (-100000)) μ) (hg : 0 ≤ a.toInt ∧ a.toInt ≤ 2 → ∀ μ', frG μ μ' → TxM tx μ' → Q (.int (if a = 0 then (bestF e r (μ.1 10) (μ.1 11) n).1 else if a = 1 then (bestF e r (μ.1 10) (μ.1 11) n).2.1 else (bestF e r (μ.1 10) (μ.1 11) n).2.2)) μ') : Call (d + 68) y_M_best [.ref 0, .int a] μ Q := by
  have h5 := hwf.2.2.1
  obtain ⟨L1, L2, L3⟩ := hL
  refine b_M_best_0 (M_in_ok (A := a.toInt) (B := 0) (C := 2) (lI _) rfl rfl ⟨_, rfl, b_nz (fun c1 μ3 e3 => ?_) (fun c1 => hb c1)⟩)
  have g := hg c1
  refine loopN (G := fun i s => AA (Call (d + 67)) y_M_best Q 20 [.ref 0, .int a, .int (μ.1 0 18), .int (bestF e r (μ.1 10) (μ.1 11) i).1, .int (bestF e r (μ.1 10) (μ.1 11) i).2.1, .int (bestF e r (μ.1 10) (μ.1 11) i).2.2, un, un] [] s) (P := fun i s => frL μ s ∧ TxM tx s ∧ s.1 0 18 = nI i) (N := n) ?_ ?_ 0 μ3 (by omega) ⟨by rw [e3]; exact frL.w, hi.tx.w0 e3, by rw [e3, wI_s, upd_s]; rfl⟩
  · intro s ⟨f1, t1, k18⟩
    refine b_M_best_20 ⟨fun _ μ1 e1 => ?_, fun z => absurd (by rw [f1.2 17 (by omega), L2, k18]; exact Int32.le_refl _) z⟩
    have g := g μ1 (back18 f1 e1) (t1.w0 e1)
    refine ⟨fun z => ⟨fun z2 => ?_, fun z2 => ?_⟩, fun z => ?_⟩
    · rw [if_neg z, if_neg z2] at g; exact g
    · rw [if_neg z, if_pos z2] at g; exact g
    · rw [if_pos z] at g; exact g
  · intro i s hin ⟨f1, t1, k18⟩ ih
    refine b_M_best_20 ⟨fun z => absurd (le32.mp z) (by rw [f1.2 17 (by omega), L2, k18, nI_i (by omega), nI_i (by omega)]; omega), fun _ => ?_⟩
    have is1 : isM (setLw e (μ.1 10 i) (μ.1 11 i)) tx t s := hi.sl (fun k hk => f1.2 k (by omega)) (fun k q1 q2 => f1.1.i k (by simp; omega)) k18 (by omega) t1
    have wf1 : wfE (setLw e (μ.1 10 i) (μ.1 11 i)) := wf_setL hwf (L3 i (by omega)).1 (L3 i (by omega)).2
    refine M_dayNow_ok is1 wf1 (r := r) (fun j hj => by rw [f1.1.i 4]; exact hrow j hj) hok (fun s2 f2 t2 rm2 sp2 _ => ?_)
    refine M_saying_ok (s := dE (setLw e (μ.1 10 i) (μ.1 11 i)) r) h5 (is1.g f2.g t2).2.2.1 (fun p hp => (sp2 p hp).1) ⟨_, rfl, ?_⟩
    refine M_allGood_ok (s := dE (setLw e (μ.1 10 i) (μ.1 11 i)) r) (is1.g f2.g t2) wf1 (dayF_said 24) sp2 (fun s3 f3 t3 => ⟨_, rfl, ?_⟩)
    have f13 : frL μ s3 := f1.trans (f2.g.trans f3.g).l
    have k18' : s3.1 0 18 = nI i := by rw [f3.2 18 (by omega), f2.2 18 (by omega)]; exact k18
    have nxt : ∀ s7 : Mem, s7 = wI s3 0 (upd (s3.1 0) 18 (s3.1 0 18 + 1)) → ∀ x y : Int32, AA (Call (d + 67)) y_M_best Q 20 [.ref 0, .int a, .int (μ.1 0 18), .int (bestF e r (μ.1 10) (μ.1 11) (i + 1)).1, .int (bestF e r (μ.1 10) (μ.1 11) (i + 1)).2.1, .int (bestF e r (μ.1 10) (μ.1 11) (i + 1)).2.2, .int x, .int y] [] s7 := by
      intro s7 e7 x y
      have g := ih s7 ⟨f13.trans (by rw [e7]; exact frL.w), t3.w0 e7, by rw [e7, wI_s, upd_s, k18', nI_1]⟩
      refine AA_weak ?_ g
      exact ⟨Or.inl rfl, Or.inl rfl, Or.inl rfl, Or.inl rfl, Or.inl rfl, Or.inl rfl, Or.inr ⟨rfl, rfl⟩, Or.inr ⟨rfl, rfl⟩, trivial⟩
    rw [k18'] at nxt ⊢
    refine ⟨fun z s7 e7 => ?_, fun z => ⟨fun z2 s7 e7 => ?_, fun z2 => ⟨fun z3 s7 e7 => ?_, fun z3 => ⟨fun z4 s7 e7 => ?_, fun z4 s7 e7 => ?_⟩⟩⟩⟩
    · have g := nxt s7 e7
      rw [best_y (Or.inl z)] at g
      exact g _ _
    · have g := nxt s7 e7
      rw [best_y (Or.inr (Or.inl z2))] at g
      exact g _ _
    · have g := nxt s7 e7
      rw [best_n (fun y => y.elim z (fun y => y.elim z2 (fun y => z3 y.1)))] at g
      exact g _ _
    · have g := nxt s7 e7
      rw [best_n (fun y => y.elim z (fun y => y.elim z2 (fun y => y.2 z4)))] at g
      exact g _ _
    · have g := nxt s7 e7
      rw [best_y (Or.inr (Or.inr ⟨z3, z4⟩))] at g
      exact g _ _
def dueF (s : DS) (p : Nat) : Int32 := if s.2.1 p = -1 then -1 else s.2.2 p
def unlG (s : DS) (f : Nat → Int32) : Nat → Nat → Int32
  | 0, _ => -1
  | k + 1, i => if dueF s i = f i then unlG s f k (i + 1) else nI i
theorem M_unlike_ok {d : Nat} {Q : QQ} {μ : Mem} {e : DE} {tx : Nat → Nat → List Int32} {t a : Nat} {r : Nat → Int32} (hi : isM e tx t μ) (hwf : wfE e) (ha : a < 4) (hrow : rowM 4 r μ) (hok : rowOk r) (hQ : ∀ μ', frG μ μ' → TxM tx μ' → Q (.int (unlG (dE e r) (fun p => μ.1 25 (40 * a + p)) (npE e) 0)) μ') : Call (d + 68) y_M_unlike [.ref 0, .int (nI a)] μ Q := by
  have h5 := hwf.2.2.1
  refine b_M_unlike_0 (M_dayNow_ok hi hwf hrow hok (fun s f1 t1 rm1 sp1 _ => ?_))
  have g := hQ s f1.g t1
  have is1 := hi.g f1.g t1
  refine loopN (G := fun i (v : Unit) => AA (Call (d + 67)) y_M_unlike Q 4 [.ref 0, .int (nI a), .int (nI i)] [] s) (P := fun i v => unlG (dE e r) (fun p => μ.1 25 (40 * a + p)) (npE e - i) i = unlG (dE e r) (fun p => μ.1 25 (40 * a + p)) (npE e) 0) (N := npE e) ?_ ?_ 0 () (by omega) rfl
  · intro v h1
    rw [Nat.sub_self] at h1
    exact b_M_unlike_4 ⟨fun _ => Qi g h1, fun z => absurd (by rw [is1.2.2.1]; exact Int32.le_refl _) z⟩
  · intro i v hin h1 ih
    obtain ⟨k, hk⟩ : ∃ k, npE e - i = k + 1 := ⟨npE e - i - 1, by omega⟩
    rw [hk] at h1
    simp only [unlG] at h1
    have vi : vp_in (nI i) 5 := nI_v (by omega) (by omega)
    refine b_M_unlike_4 ⟨fun z => absurd (le32.mp z) (by rw [is1.2.2.1, nI_i (by omega), nI_i (by omega)]; omega), fun _ => ⟨vi, ?_⟩⟩
    have e40 : (40 : Int32) * nI a + nI i = nI (40 * a + i) := n40 a i
    rw [e40, nI_c (by omega), nI_c (by omega), nI_1, f1.i 25, (sp1 i hin).1, (sp1 i hin).2]
    have v40 : vp_in (nI (40 * a + i)) 160 := nI_v (by omega) (by omega)
    have go : dueF (dE e r) i = μ.1 25 (40 * a + i) → AA (Call (d + 67)) y_M_unlike Q 4 [.ref 0, .int (nI a), .int (nI (i + 1))] [] s := by
      intro z
      rw [if_pos z] at h1
      refine ih () ?_
      rw [show npE e - (i + 1) = k by omega]
      exact h1
    have st : ¬ dueF (dE e r) i = μ.1 25 (40 * a + i) → Q (.int (nI i)) s := by
      intro z
      rw [if_neg z] at h1
      exact Qi g h1
    unfold dueF at go st
    refine ⟨fun z => ?_, fun z => ?_⟩
    · have z' : ¬ (dE e r).2.1 i = -1 := z
      rw [if_neg z'] at go st
      exact ⟨vi, v40, fun y => go y, fun y => st y⟩
    · have z' : (dE e r).2.1 i = -1 := z
      rw [if_pos z'] at go st
      exact ⟨v40, fun y => go y, fun y => st y⟩
theorem M_paidBad_ok {d : Nat} {Q : QQ} {μ : Mem} {a : Int32} (hQ : Q (.int (if 0 ≤ a.toInt ∧ a.toInt ≤ 3 then (if μ.1 22 a.toNatClampNeg = 0 then -11 else if μ.1 24 a.toNatClampNeg = μ.1 0 14 then 0 else -2) else -2)) μ) : Call (d + 3) y_M_paidBad [.ref 0, .int a] μ Q := by
  refine b_M_paidBad_0 (M_isSheet_ok ⟨_, rfl, b_nz (fun c1 => ⟨vin_of c1.1 (by omega), fun c2 => ⟨vin_of c1.1 (by omega), fun c3 => ?_, fun c3 => ?_⟩, fun c2 => ?_⟩) (fun c1 => ?_)⟩)
  · rw [if_pos c1, if_neg c2, if_neg c3] at hQ; exact hQ
  · rw [if_pos c1, if_neg c2, if_pos c3] at hQ; exact hQ
  · rw [if_pos c1, if_pos c2] at hQ; exact hQ
  · rw [if_neg c1] at hQ; exact hQ
/-- why a sheet can't be judged -/
def pbM (μ : Mem) (a : Int32) : Int32 := if 0 ≤ a.toInt ∧ a.toInt ≤ 3 then (if μ.1 22 a.toNatClampNeg = 0 then -11 else if μ.1 24 a.toNatClampNeg = μ.1 0 14 then 0 else -2) else -2
theorem pbM_0 {μ : Mem} {a : Int32} (h : pbM μ a = 0) : 0 ≤ a.toInt ∧ a.toInt ≤ 3 := by
  unfold pbM at h
  by_cases q : 0 ≤ a.toInt ∧ a.toInt ≤ 3
  · exact q
  · rw [if_neg q] at h
    exact absurd h (by decide)
theorem M_judge_ok {d : Nat} {Q : QQ} {μ : Mem} {e : DE} {tx : Nat → Nat → List Int32} {t : Nat} {a : Int32} {r : Nat → Int32} (hi : isM e tx t μ) (hwf : wfE e) (hrow : rowM 4 r μ) (hok : rowOk r) (hb : ¬ pbM μ a = 0 → Q (.int (pbM μ a)) μ) (hg : pbM μ a = 0 → ∀ μ', frG μ μ' → TxM tx μ' → Q (.int (unlG (dE e r) (fun p => μ.1 25 (40 * a.toNatClampNeg + p)) (npE e) 0)) μ') : Call (d + 69) y_M_judge [.ref 0, .int a] μ Q := by
  refine b_M_judge_0 (M_paidBad_ok ⟨_, rfl, fun z => ?_, fun z => hb z⟩)
  have z : pbM μ a = 0 := z
  have g := hg z
  obtain ⟨q1, q2⟩ := pbM_0 z
  obtain ⟨s, hs, rfl, es⟩ := nI_ex (x := a) q1
  rw [nI_c hs] at g
  exact M_unlike_ok hi hwf (by omega) hrow hok (fun μ1 f1 t1 => ⟨_, rfl, g μ1 f1 t1⟩)
theorem M_fits_ok {d : Nat} {Q : QQ} {μ : Mem} {e : DE} {tx : Nat → Nat → List Int32} {t : Nat} {a b : Int32} {r : Nat → Int32} (hi : isM e tx t μ) (hwf : wfE e) (h40 : μ.1 0 40 = -1) (hrow : rowM 4 r μ) (hok : rowOk r) (hb : ¬ (0 ≤ a.toInt ∧ a.toInt < npE e ∧ 0 ≤ b.toInt ∧ b.toInt ≤ 9999) → Q (.int (-2)) μ) (hg : 0 ≤ a.toInt ∧ a.toInt < npE e ∧ 0 ≤ b.toInt ∧ b.toInt ≤ 9999 → ∀ μ', frG μ μ' → TxM tx μ' → Q (.int (bitF e (rowAt e r a.toNatClampNeg) a.toNatClampNeg b 0 (nwE e))) μ') : Call (d + 68) y_M_fits [.ref 0, .int a, .int b] μ Q := by
  have h5 := hwf.2.2.1
  obtain ⟨n1, n2⟩ := np_r hi hwf
  refine b_M_fits_0 (M_isWriter_ok n1 ⟨_, rfl, b_z (fun c1 => hb (by omega)) (fun c1 => ?_)⟩)
  refine M_in_ok (A := b.toInt) (B := 0) (C := 9999) (lI _) rfl rfl ⟨_, rfl, b_nz (fun c2 μ5 e5 μ6 e6 μ7 e7 => ?_) (fun c2 => hb (by omega))⟩
  have g := hg (by omega)
  obtain ⟨p, hp, rfl, ep⟩ := nI_ex (x := a) c1.1
  rw [nI_c hp] at g
  have o7 : Only [0] μ μ7 := by rw [e7, e6, e5]; exact ((Only.w).trans Only.w).trans Only.w
  have k7 : ∀ k, k < 40 ∨ 42 < k → μ7.1 0 k = μ.1 0 k := by
    intro k hk
    rw [e7, wI_s, upd_n (by omega), e6, wI_s, upd_n (by omega), e5, wI_s, upd_n (by omega)]
  have t7 : TxM tx μ7 := ((hi.tx.w0 e5).w0 e6).w0 e7
  have is7 : isM e tx t μ7 := hi.cg (fun k hk => k7 k (by omega)) (fun k q1 q2 => o7.i k (by simp; omega)) t7
  refine M_dayNow_ok is7 hwf (r := r) (fun j hj => by rw [o7.i 4]; exact hrow j hj) hok (fun s f1 t1 rm1 sp1 sb1 μ9 e9 => ?_)
  have k40 : μ7.1 0 40 = nI p := by rw [e7, wI_s, upd_n (by omega), e6, wI_s, upd_n (by omega), e5, wI_s, upd_s]
  have k41 : μ7.1 0 41 = b := by rw [e7, wI_s, upd_n (by omega), e6, wI_s, upd_s]
  have k42 : μ7.1 0 42 = 0 := by rw [e7, wI_s, upd_s]
  have hb := sb1 p (by omega) k40
  rw [k41, k42] at hb
  refine Qi (g μ9 ⟨?_, fun k hk => ?_⟩ (t1.w0 e9)) (by rw [e9, wI_s, upd_n (by decide), hb])
  · exact ((o7.mono (by simp)).trans f1.g.1).trans (by rw [e9]; exact Only.w)
  · rw [e9, wI_s]
    by_cases q : k = 40
    · rw [q, upd_s, h40]
    · rw [upd_n q, f1.2 k (by omega)]
      exact k7 k (by omega)
noncomputable def whoF (e : DE) (r kf nf f : Nat → Int32) : Nat → Int32
  | 0 => 0
  | i + 1 => whoF e r kf nf f i ||| ((if unlG (dE (setLw e (kf i) (nf i)) r) f (npE e) 0 = -1 then 1 else 0) <<< (nI i &&& 31))
theorem M_whose_ok {d : Nat} {Q : QQ} {μ : Mem} {e : DE} {tx : Nat → Nat → List Int32} {t n : Nat} {a : Int32} {r : Nat → Int32} (hi : isM e tx t μ) (hwf : wfE e) (hL : lawM n μ) (hrow : rowM 4 r μ) (hok : rowOk r) (hb : ¬ pbM μ a = 0 → Q (.int (pbM μ a)) μ) (hg : pbM μ a = 0 → ∀ μ', frG μ μ' → TxM tx μ' → Q (.int (whoF e r (μ.1 10) (μ.1 11) (fun p => μ.1 25 (40 * a.toNatClampNeg + p)) n)) μ') : Call (d + 69) y_M_whose [.ref 0, .int a] μ Q := by
  obtain ⟨L1, L2, L3⟩ := hL
  refine b_M_whose_0 (M_paidBad_ok ⟨_, rfl, fun z μ3 e3 => ?_, fun z => hb z⟩)
  have z : pbM μ a = 0 := z
  have g := hg z
  obtain ⟨q1, q2⟩ := pbM_0 z
  obtain ⟨s, hs, rfl, es⟩ := nI_ex (x := a) q1
  rw [nI_c hs] at g
  refine loopN (G := fun i u => AA (Call (d + 68)) y_M_whose Q 16 [.ref 0, .int (nI s), .int _, .int (μ.1 0 18), .int (whoF e r (μ.1 10) (μ.1 11) (fun p => μ.1 25 (40 * s + p)) i)] [] u) (P := fun i u => frL μ u ∧ TxM tx u ∧ u.1 0 18 = nI i) (N := n) ?_ ?_ 0 μ3 (by omega) ⟨by rw [e3]; exact frL.w, hi.tx.w0 e3, by rw [e3, wI_s, upd_s]; rfl⟩
  · intro u ⟨f1, t1, k18⟩
    exact b_M_whose_16 ⟨fun _ μ1 e1 => g μ1 (back18 f1 e1) (t1.w0 e1), fun z => absurd (by rw [f1.2 17 (by omega), L2, k18]; exact Int32.le_refl _) z⟩
  · intro i u hin ⟨f1, t1, k18⟩ ih
    refine b_M_whose_16 ⟨fun z => absurd (le32.mp z) (by rw [f1.2 17 (by omega), L2, k18, nI_i (by omega), nI_i (by omega)]; omega), fun _ => ?_⟩
    have is1 : isM (setLw e (μ.1 10 i) (μ.1 11 i)) tx t u := hi.sl (fun k hk => f1.2 k (by omega)) (fun k q1 q2 => f1.1.i k (by simp; omega)) k18 (by omega) t1
    have wf1 : wfE (setLw e (μ.1 10 i) (μ.1 11 i)) := wf_setL hwf (L3 i (by omega)).1 (L3 i (by omega)).2
    refine M_unlike_ok is1 wf1 (by omega) (r := r) (fun j hj => by rw [f1.1.i 4]; exact hrow j hj) hok (fun s2 f2 t2 => ⟨_, rfl, ?_⟩)
    have k18' : s2.1 0 18 = nI i := by rw [f2.2 18 (by omega)]; exact k18
    rw [k18', nI_1, f1.1.i 25]
    have nxt : ∀ s7 : Mem, s7 = wI s2 0 (upd (s2.1 0) 18 (nI (i + 1))) → AA (Call (d + 68)) y_M_whose Q 16 [.ref 0, .int (nI s), .int _, .int (μ.1 0 18), .int (whoF e r (μ.1 10) (μ.1 11) (fun p => μ.1 25 (40 * s + p)) (i + 1))] [] s7 := fun s7 e7 => ih s7 ⟨(f1.trans f2.l).trans (by rw [e7]; exact frL.w), t2.w0 e7, by rw [e7, wI_s, upd_s]⟩
    simp only [whoF] at nxt
    refine ⟨fun z s7 e7 => ?_, fun z s7 e7 => ?_⟩
    · have g := nxt s7 e7
      rw [if_neg (show ¬ unlG (dE (setLw e (μ.1 10 i) (μ.1 11 i)) r) (fun p => μ.1 25 (40 * s + p)) (npE e) 0 = -1 from z)] at g
      exact g
    · have g := nxt s7 e7
      rw [if_pos (show unlG (dE (setLw e (μ.1 10 i) (μ.1 11 i)) r) (fun p => μ.1 25 (40 * s + p)) (npE e) 0 = -1 from z)] at g
      exact g
def zF (s : Int32) : Nat → Int32
  | 0 => s
  | n + 1 => zF s n * 1103515245 + 12345
def shF (z : Int32) : Int32 := (Int32.toUInt32 z >>> (Int32.toUInt32 10 &&& Int32.toUInt32 31)).toInt32
def drwF (s : Int32) (l : Nat) : Int32 := shF (zF s (l + 1)) - shF (zF s (l + 1)) / 20 * 20
theorem shF_0 (z : Int32) : 0 ≤ (shF z).toInt := by
  unfold shF
  have e : (Int32.toUInt32 10 &&& Int32.toUInt32 31) = 10 := by decide
  rw [e]
  have h1 : (Int32.toUInt32 z >>> 10).toNat < 4194304 := by
    rw [UInt32.toNat_shiftRight]
    have h2 : (10 : UInt32).toNat % 32 = 10 := rfl
    rw [h2, Nat.shiftRight_eq_div_pow]
    have h3 := UInt32.toNat_lt (Int32.toUInt32 z)
    omega
  generalize (Int32.toUInt32 z >>> 10) = u at h1
  have : u.toInt32.toInt = u.toBitVec.toInt := rfl
  rw [this, BitVec.toInt_eq_toNat_cond]
  have : u.toBitVec.toNat = u.toNat := rfl
  rw [this, if_pos (by omega)]
  omega
theorem drwF_ok (s : Int32) : rowOk (drwF s) := by
  intro j hj
  unfold drwF
  obtain ⟨n, hn, en, en2⟩ := nI_ex (shF_0 (zF s (j + 1)))
  rw [en]
  have := pk_rem (a := n) (d := 20) hn (by omega) (by omega)
  have e2 : nI n - nI n / 20 * 20 = nI (n % 20) := this
  rw [e2]
  unfold rng
  rw [nI_i (by omega)]
  omega
theorem M_draws_ok {d : Nat} {Q : QQ} {μ : Mem} {e : DE} {tx : Nat → Nat → List Int32} {t : Nat} {a : Int32} (hi : isM e tx t μ) (hwf : wfE e) (hQ : ∀ μ', frG μ μ' → TxM tx μ' → (∀ p, p < npE e → μ'.1 16 p = (dE e (drwF a)).2.1 p ∧ μ'.1 17 p = (dE e (drwF a)).2.2 p) → Q .null μ') : Call (d + 67) y_M_draws [.ref 0, .int a] μ Q := by
  refine b_M_draws_0 ?_
  refine loopN (G := fun l s => AA (Call (d + 66)) y_M_draws Q 4 [.ref 0, .int a, .int (zF a l), .int (nI l)] [] s) (P := fun l s => Only [14] μ s ∧ ∀ j, j < l → s.1 14 j = drwF a j) (N := 8) ?_ ?_ 0 μ (by omega) ⟨Only.rf, fun j hj => absurd hj (by omega)⟩
  · intro s ⟨h1, h2⟩
    refine b_M_draws_4 ⟨fun _ => ?_, fun c => absurd (by decide) c⟩
    have t1 : TxM tx s := hi.tx.fr h1 (by simp)
    exact M_passesDay_ok (hi.g h1.g t1) hwf h2 (drwF_ok a) (fun s2 f2 t2 rm2 sp2 _ => hQ s2 (h1.g.trans f2.g) t2 sp2)
  · intro l s hl ⟨h1, h2⟩ ih
    refine b_M_draws_4 ⟨fun c => absurd (le32.mp c) (by rw [nI_i (by omega)]; show ¬ (8 : Int) ≤ _; omega), fun _ => ⟨by decide, nI_v hl (by omega), fun μ2 e2 => ?_⟩⟩
    rw [nI_1]
    rw [nI_c (by omega)] at e2
    refine ih μ2 ⟨h1.trans (by rw [e2]; exact Only.w), fun j hj => ?_⟩
    rw [e2, wI_s]
    by_cases q : j = l
    · rw [q, upd_s]; rfl
    · rw [upd_n q]; exact h2 j (by omega)
theorem M_drawn_ok {d : Nat} {Q : QQ} {μ : Mem} {e : DE} {tx : Nat → Nat → List Int32} {t : Nat} {a : Int32} (hi : isM e tx t μ) (hwf : wfE e) (hQ : ∀ μ', frG μ μ' → TxM tx μ' → Q (.int (gdA e (drwF a))) μ') : Call (d + 68) y_M_drawn [.ref 0, .int a] μ Q :=
  b_M_drawn_0 (M_draws_ok hi hwf (fun s f1 t1 sp1 => M_allGood_ok (s := dE e (drwF a)) (hi.g f1 t1) hwf (dayF_said 24) sp1 (fun s2 f2 t2 => ⟨_, rfl, hQ s2 (f1.trans f2.g) t2⟩)))
noncomputable def chcF (e : DE) (a : Int32) : Nat → Nat
  | 0 => 0
  | k + 1 => chcF e a k + (if sayF (dE e (drwF (a + nI k))) (npE e) = nI (npE e) then 1 else 0)
theorem chcF_le {e : DE} {a : Int32} : ∀ n, chcF e a n ≤ n
  | 0 => Nat.le_refl _
  | n + 1 => by
    have := chcF_le (e := e) (a := a) n
    unfold chcF
    split <;> omega
def nL (n : Nat) : Int64 := (nI n).toInt64
theorem nL_i {n : Nat} (h : n < 2147483648) : (nL n).toInt = n := by unfold nL; rw [lI, nI_i h]
theorem nL_1 {n : Nat} (h : n < 2147483647) : nL n + 1 = nL (n + 1) := by
  apply Int64.toInt_inj.mp
  rw [Int64.toInt_add, nL_i (by omega), nL_i (by omega), show (1 : Int64).toInt = 1 from rfl]
  rw [Int.bmod_eq_of_le (by omega) (by omega)]
  omega
theorem nL_div {a b : Nat} (ha : a < 2147483648) (hb : b < 2147483648) : nL a / nL b = nL (a / b) := by
  apply Int64.toInt_inj.mp
  have h1 : a / b ≤ a := Nat.div_le_self _ _
  rw [Int64.toInt_div, nL_i ha, nL_i hb, nL_i (by omega), Int.tdiv_eq_ediv_of_nonneg (by omega)]
  rw [show (a : Int) / (b : Int) = ((a / b : Nat) : Int) by simp]
  generalize a / b = k at h1
  exact Int.bmod_eq_of_le (by omega) (by omega)
theorem nL_rem {a b : Nat} (ha : a < 2147483648) (hb : b < 2147483648) : nL a - nL a / nL b * nL b = nL (a % b) := by
  rw [nL_div ha hb]
  apply Int64.toInt_inj.mp
  have h1 : a / b ≤ a := Nat.div_le_self _ _
  have h2 : a % b ≤ a := Nat.mod_le _ _
  have h3 := Nat.div_add_mod a b
  have h4 : b * (a / b) ≤ a := by omega
  have h5 : ((a / b : Nat) : Int) * (b : Int) = ((b * (a / b) : Nat) : Int) := by rw [Nat.mul_comm]; simp
  have m : (nL (a / b) * nL b).toInt = ((b * (a / b) : Nat) : Int) := by
    rw [Int64.toInt_mul, nL_i (by omega), nL_i hb, h5]
    exact Int.bmod_eq_of_le (by omega) (by omega)
  rw [Int64.toInt_sub, m, nL_i ha, nL_i (by omega)]
  rw [Int.bmod_eq_of_le (by omega) (by omega)]
  omega
theorem nL_0 {n : Nat} (h : n < 2147483648) : nL n = 0 ↔ n = 0 := by
  constructor
  · intro z
    have := congrArg Int64.toInt z
    rw [nL_i h] at this
    have e : (0 : Int64).toInt = 0 := rfl
    omega
  · intro z
    subst z
    rfl
theorem lcmp_0 {a : Int64} : lg_cmp a 0 = 0 ↔ a = 0 := by
  constructor
  · intro z
    apply Int64.toInt_inj.mp
    have e : (0 : Int64).toInt = 0 := rfl
    have q1 : ¬ a.toInt < (0 : Int64).toInt := fun y => by
      have := lcmp_lt.mpr y
      rw [z] at this
      exact absurd this (by decide)
    have q2 : ¬ (0 : Int64).toInt < a.toInt := fun y => by
      have := lcmp_gt.mpr y
      rw [z] at this
      exact absurd this (by decide)
    omega
  · intro z
    subst z
    rfl
set_option maxRecDepth 20000 in
theorem b_M_chance_44L {d : Nat} {Q : QQ} {μ : Mem} {l1 : Int32} {l2 : Int32} {l3 : Int32} {l4 : Int64} {l6 : Int64} {l8 : Int64} {l10 : Int64} (hNF : ((lg_cmp l8 0) = 0 → ((¬ l3 = 0 → (¬ l6 = 0 ∧ (Q (.long ((Int32.toInt64 l2) / l6)) μ))) ∧
(l3 = 0 → (¬ l6 = 0 ∧ (Q (.long (l4 / l6)) μ))))) ∧
(¬ (lg_cmp l8 0) = 0 → (¬ l8 = 0 ∧ (AA (Call d) y_M_chance Q 44 [.ref 0, .int l1, .int l2, .int l3, .long l4, un, .long l8, un, .long (l6 - l6 / l8 * l8), un, .long (l6 - l6 / l8 * l8), un] [] μ)))) : AA (Call d) y_M_chance Q 44 [.ref 0, .int l1, .int l2, .int l3, .long l4, un, .long l6, un, .long l8, un, .long l10, un] [] μ := go_in 14 (code := pr_M_chance) (stops := [18, 44]) rfl rfl hNF
theorem M_chance_ok {d : Nat} {Q : QQ} {μ : Mem} {e : DE} {tx : Nat → Nat → List Int32} {t : Nat} {a b c : Int32} (hi : isM e tx t μ) (hwf : wfE e) (hb : ¬ (1 ≤ b.toInt ∧ b.toInt ≤ 20 ∧ 0 ≤ c.toInt ∧ c.toInt ≤ 1) → Q (.long (-4611686018427387904)) μ) (hg : 1 ≤ b.toInt ∧ b.toInt ≤ 20 ∧ 0 ≤ c.toInt ∧ c.toInt ≤ 1 → ∀ μ', frG μ μ' → TxM tx μ' → Q (.long (if c = 0 then nL (chcF e a b.toNatClampNeg / Nat.gcd (chcF e a b.toNatClampNeg) b.toNatClampNeg) else nL (b.toNatClampNeg / Nat.gcd (chcF e a b.toNatClampNeg) b.toNatClampNeg))) μ') : Call (d + 68) y_M_chance [.ref 0, .int a, .int b, .int c] μ Q := by
  have h5 := hwf.2.2.1
  refine b_M_chance_0 (M_in_ok (A := b.toInt) (B := 1) (C := 20) (lI _) rfl rfl ⟨_, rfl, b_z (fun c1 => hb (by omega)) (fun c1 => ?_)⟩)
  refine M_in_ok (A := c.toInt) (B := 0) (C := 1) (lI _) rfl rfl ⟨_, rfl, b_nz (fun c2 => ?_) (fun c2 => hb (by omega))⟩
  have g := hg (by omega)
  obtain ⟨n, hn, rfl, en⟩ := nI_ex (x := b) (by omega)
  rw [nI_c hn] at g
  have gcdL : ∀ (s : Mem), frG μ s → TxM tx s → ∀ (q p : Nat), q ≤ 20 → p ≤ 20 → (q ≠ 0 ∨ p ≠ 0) → Nat.gcd p q = Nat.gcd (chcF e a n) n → AA (Call (d + 67)) y_M_chance Q 44 [.ref 0, .int a, .int (nI n), .int c, .long (nL (chcF e a n)), un, .long (nL p), un, .long (nL q), un, un, un] [] s ∧ ∀ x : Int64, AA (Call (d + 67)) y_M_chance Q 44 [.ref 0, .int a, .int (nI n), .int c, .long (nL (chcF e a n)), un, .long (nL p), un, .long (nL q), un, .long x, un] [] s := by
    intro s f1 t1 q
    induction q using Nat.strongRecOn with
    | _ q ih =>
      intro p hq hp hne hgc
      have g := g s f1 t1
      have cle := chcF_le (e := e) (a := a) n
      have e1 : (Int32.toInt64 (nI n)) = nL n := rfl
      have nf : (lg_cmp (nL q) 0 = 0 → ((¬ c = 0 → (¬ nL p = 0 ∧ Q (.long (Int32.toInt64 (nI n) / nL p)) s)) ∧ (c = 0 → (¬ nL p = 0 ∧ Q (.long (nL (chcF e a n) / nL p)) s)))) ∧ (¬ lg_cmp (nL q) 0 = 0 → (¬ nL q = 0 ∧ AA (Call (d + 67)) y_M_chance Q 44 [.ref 0, .int a, .int (nI n), .int c, .long (nL (chcF e a n)), un, .long (nL q), un, .long (nL p - nL p / nL q * nL q), un, .long (nL p - nL p / nL q * nL q), un] [] s)) := by
        refine ⟨fun z => ?_, fun z => ?_⟩
        · have z := (nL_0 (n := q) (by omega)).mp (lcmp_0.mp z)
          subst z
          rw [Nat.gcd_zero_right] at hgc
          have hpn : ¬ nL p = 0 := fun y => by
            have := (nL_0 (n := p) (by omega)).mp y
            omega
          rw [e1, nL_div (by omega) (by omega), nL_div (by omega) (by omega)]
          rw [← hgc] at g
          refine ⟨fun z => ⟨hpn, ?_⟩, fun z => ⟨hpn, ?_⟩⟩
          · rw [if_neg z] at g; exact g
          · rw [if_pos z] at g; exact g
        · have z : ¬ q = 0 := fun y => z (lcmp_0.mpr ((nL_0 (n := q) (by omega)).mpr y))
          rw [nL_rem (by omega) (by omega)]
          refine ⟨fun y => z ((nL_0 (n := q) (by omega)).mp y), ?_⟩
          refine (ih (p % q) (Nat.mod_lt _ (by omega)) q (by have := Nat.mod_lt p (show q > 0 by omega); omega) hq (Or.inr z) ?_).2 _
          rw [← hgc, Nat.gcd_comm q (p % q), ← Nat.gcd_rec q p, Nat.gcd_comm]
      exact ⟨b_M_chance_44 nf, fun x => b_M_chance_44L nf⟩
  refine loopN (G := fun k s => AA (Call (d + 67)) y_M_chance Q 18 [.ref 0, .int a, .int (nI n), .int c, .long (nL (chcF e a k)), un, .int (nI k), un, un, un, un, un] [] s) (P := fun k s => frG μ s ∧ TxM tx s) (N := n) ?_ ?_ 0 μ (by omega) ⟨frG.rf, hi.tx⟩
  · intro s ⟨f1, t1⟩
    refine b_M_chance_18 ⟨fun _ => ?_, fun z => absurd (Int32.le_refl _) z⟩
    exact (gcdL s f1 t1 n (chcF e a n) (by omega) (by have := chcF_le (e := e) (a := a) n; omega) (Or.inl (by omega)) rfl).1
  · intro k s hk ⟨f1, t1⟩ ih
    refine b_M_chance_18 ⟨fun z => absurd (le32.mp z) (by rw [nI_i (by omega), nI_i (by omega)]; omega), fun _ => ?_⟩
    rw [nI_1]
    have is1 := hi.g f1 t1
    refine M_draws_ok is1 hwf (fun s2 f2 t2 sp2 => ?_)
    have is2 := is1.g f2 t2
    refine M_saying_ok (s := dE e (drwF (a + nI k))) h5 is2.2.2.1 (fun p hp => (sp2 p hp).1) ⟨_, rfl, ?_⟩
    rw [is2.2.2.1]
    have g := ih s2 ⟨f1.trans f2, t2⟩
    have cle := chcF_le (e := e) (a := a) k
    simp only [chcF] at g
    refine ⟨fun z => ?_, fun z => ?_⟩
    · rw [if_neg z] at g
      rw [Int64.add_zero]
      exact g
    · rw [if_pos z, ← nL_1 (by omega)] at g
      exact g
