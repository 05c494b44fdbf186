/-! ===== the reference: hours sought, letters burned ===== -/
def setH (e : DE) (f : Nat → Int32) : DE := (e.1, (e.2.1.1, e.2.1.2.1, f, e.2.1.2.2.2), e.2.2)
def setLw (e : DE) (k n : Int32) : DE := (e.1, e.2.1, (k, n), e.2.2.2)
theorem setH_id {e : DE} : setH e (hoE e) = e := rfl
theorem wf_setH {e : DE} {f : Nat → Int32} (h : wfE e) (hf : ∀ p, p < npE e → rng (f p) 0 23) : wfE (setH e f) := ⟨h.1, h.2.1, h.2.2.1, fun p hp => ⟨hf p hp, (h.2.2.2.1 p hp).2⟩, h.2.2.2.2⟩
theorem wf_setL {e : DE} {k n : Int32} (h : wfE e) (hk : rng k 0 5) (hn : rng n 0 9) : wfE (setLw e k n) := ⟨h.1, h.2.1, h.2.2.1, h.2.2.2.1, hk, hn⟩
theorem upd_id {f : Nat → Int32} {p : Nat} : upd f p (f p) = f := by
  funext j
  by_cases h : j = p
  · rw [h, upd_s]
  · rw [upd_n h]
/-- as isM, hours apart -/
theorem isM.sh {e : DE} {tx : Nat → Nat → List Int32} {t : Nat} {μ μ' : Mem} {f : Nat → Int32} (h : isM e tx t μ) (hf : ∀ k, k < 19 → μ'.1 0 k = μ.1 0 k) (hc : ∀ k, 5 ≤ k → k < 12 → k ≠ 8 → μ'.1 k = μ.1 k) (h8 : ∀ p, p < npE e → μ'.1 8 p = f p) (hT : TxM tx μ') : isM (setH e f) tx t μ' := by
  obtain ⟨h1, h2, h3, h4, h5, h6, h7, h8', h9, h10⟩ := h
  unfold isM mK mN rulM
  rw [hf 10 (by omega), hf 14 (by omega), hf 18 (by omega), hf 3 (by omega), hf 4 (by omega), hc 5 (by omega) (by omega) (by omega), hc 6 (by omega) (by omega) (by omega), hc 7 (by omega) (by omega) (by omega), hc 9 (by omega) (by omega) (by omega), hc 10 (by omega) (by omega) (by omega), hc 11 (by omega) (by omega) (by omega)]
  exact ⟨h1, h2, h3, fun p hp => ⟨(h4 p hp).1, h8 p hp, (h4 p hp).2.2⟩, h5, h6, h7, h8', hT, h10⟩
def fmF (g : Nat → Int32) : Nat → Nat
  | 0 => 0
  | n + 1 => if g n ≤ g (fmF g n) then fmF g n else n
theorem fmF_lt {g : Nat → Int32} : ∀ n, fmF g n < n ∨ n = 0
  | 0 => Or.inr rfl
  | n + 1 => by
    unfold fmF
    split
    · rcases fmF_lt (g := g) n with q | q
      · exact Or.inl (by omega)
      · subst q; exact Or.inl (by show 0 < 1; omega)
    · exact Or.inl (by omega)
/-- what a writer's good would be, written at an hour -/
noncomputable def ghF (e : DE) (r : Nat → Int32) (p h : Nat) : Int32 := goodF (setH e (upd (hoE e) p (nI h))) (dE (setH e (upd (hoE e) p (nI h))) r) p
theorem M_seeks_ok {d : Nat} {Q : QQ} {μ : Mem} {e : DE} {tx : Nat → Nat → List Int32} {t p : Nat} {r : Nat → Int32} (hi : isM e tx t μ) (hwf : wfE e) (hp : p < npE e) (hrow : rowM 4 r μ) (hok : rowOk r) (hQ : ∀ μ', frG μ μ' → TxM tx μ' → μ'.1 0 43 = nI (fmF (ghF e r p) 24) → μ'.1 0 44 = ghF e r p (fmF (ghF e r p) 24) → Q .null μ') : Call (d + 68) y_M_seeks [.ref 0, .int (nI p)] μ Q := by
  have h5 := hwf.2.2.1
  have cp : (nI p).toNatClampNeg = p := nI_c (by omega)
  have vp : vp_in (nI p) 5 := nI_v (by omega) (by omega)
  refine b_M_seeks_0 ⟨vp, ?_⟩
  rw [cp]
  refine loopN (G := fun h s => AA (Call (d + 67)) y_M_seeks Q 7 [.ref 0, .int (nI p), .int (μ.1 8 p), .int (nI h), un] [] s) (P := fun h s => Only [0, 8, 12, 13, 14, 15, 16, 17, 18] μ s ∧ (∀ k, k < 19 ∨ 33 < k ∧ k ≤ 40 ∨ 47 < k → s.1 0 k = μ.1 0 k) ∧ (s.2 8 = μ.2 8 ∧ ∀ j, j ≠ p → s.1 8 j = μ.1 8 j) ∧ TxM tx s ∧ (0 < h → s.1 0 43 = nI (fmF (ghF e r p) h) ∧ s.1 0 44 = ghF e r p (fmF (ghF e r p) h))) (N := 24) ?_ ?_ 0 μ (by omega) ⟨Only.rf, fun _ _ => rfl, ⟨rfl, fun _ _ => rfl⟩, hi.tx, fun z => absurd z (by omega)⟩
  · intro s ⟨o, f, ⟨hl8, h8⟩, t1, hb⟩
    refine b_M_seeks_7 ⟨fun _ => ⟨vp, fun μ1 e1 => ?_⟩, fun c => absurd (by decide) c⟩
    rw [cp] at e1
    have k0 : μ1.1 0 = s.1 0 := by rw [e1, wI_n (by decide)]
    refine hQ μ1 ⟨fun k hk => ?_, fun k hk => ?_⟩ ?_ ?_ ?_
    · rw [e1]
      by_cases q : k = 8
      · subst q
        refine ⟨?_, by rw [wI_2]; exact hl8⟩
        rw [wI_s]
        funext j
        by_cases y : j = p
        · rw [y, upd_s]
        · rw [upd_n y]; exact h8 j y
      · rw [wI_n q, wI_2]
        exact o k (by simp at hk ⊢; omega)
    · rw [k0]; exact f k hk
    · exact t1.cong (by rw [k0]) (by rw [e1, wI_n (by decide)]) (by rw [e1, wI_n (by decide)]) (by rw [e1, wI_n (by decide)]) (by rw [e1, wI_2])
    · rw [k0]; exact (hb (by omega)).1
    · rw [k0]; exact (hb (by omega)).2
  · intro h s hh ⟨o, f, ⟨hl8, h8⟩, t1, hb⟩ ih
    have eh := nI_i (n := h) (by omega)
    refine b_M_seeks_7 ⟨fun c => absurd (le32.mp c) (by rw [eh]; show ¬ (24 : Int) ≤ _; omega), fun _ => ⟨vp, fun μ2 e2 => ?_⟩⟩
    rw [cp] at e2
    rw [nI_1]
    have k0 : μ2.1 0 = s.1 0 := by rw [e2, wI_n (by decide)]
    have t2 : TxM tx μ2 := t1.cong (by rw [k0]) (by rw [e2, wI_n (by decide)]) (by rw [e2, wI_n (by decide)]) (by rw [e2, wI_n (by decide)]) (by rw [e2, wI_2])
    have h82 : ∀ q, q < npE e → μ2.1 8 q = upd (hoE e) p (nI h) q := by
      intro q hq
      rw [e2, wI_s]
      by_cases y : q = p
      · rw [y, upd_s, upd_s]
      · rw [upd_n y, upd_n y, h8 q y]
        exact (hi.2.2.2.1 q hq).2.1
    have is2 : isM (setH e (upd (hoE e) p (nI h))) tx t μ2 := hi.sh (fun k hk => by rw [k0]; exact f k (by omega)) (fun k q1 q2 q3 => by rw [e2, wI_n q3]; exact o.i k (by simp; omega)) h82 t2
    have wf2 : wfE (setH e (upd (hoE e) p (nI h))) := wf_setH hwf (fun q hq => by
      by_cases y : q = p
      · rw [y, upd_s]; exact ⟨by omega, by omega⟩
      · rw [upd_n y]; exact (hwf.2.2.2.1 q hq).1)
    refine M_dayNow_ok is2 wf2 (r := r) (fun j hj => by rw [e2, wI_n (by decide), o.i 4]; exact hrow j hj) hok (fun μ3 f3 t3 rm3 sp3 _ => ?_)
    refine M_goodOf_ok (s := dE (setH e (upd (hoE e) p (nI h))) r) (is2.g f3.g t3) wf2 hp (dayF_said 24) (sp3 p hp).1 (sp3 p hp).2 (fun μ4 f4 t4 => ⟨_, rfl, ?_⟩)
    have f24 : frG μ2 μ4 := f3.g.trans f4.g
    have o4 : Only [0, 8, 12, 13, 14, 15, 16, 17, 18] μ μ4 := (o.trans (by rw [e2]; exact Only.w)).trans (f24.1.mono (by intro k hk; simp at hk ⊢; omega))
    have g4 : ∀ k, k < 19 ∨ 33 < k ∧ k ≤ 40 ∨ 47 < k → μ4.1 0 k = μ.1 0 k := fun k hk => by rw [f24.2 k hk, k0]; exact f k hk
    have h84 : ∀ j, j ≠ p → μ4.1 8 j = μ.1 8 j := fun j hj => by rw [f24.i 8, e2, wI_s, upd_n hj]; exact h8 j hj
    have hl84 : μ4.2 8 = μ.2 8 := by rw [f24.1.l 8, e2, wI_2]; exact hl8
    have k44 : μ4.1 0 44 = s.1 0 44 := by rw [f4.2 44 (by omega), f3.2 44 (by omega), k0]
    have k43 : μ4.1 0 43 = s.1 0 43 := by rw [f4.2 43 (by omega), f3.2 43 (by omega), k0]
    have wr : ∀ μ6 μ7 : Mem, fmF (ghF e r p) (h + 1) = h → μ6 = wI μ4 0 (upd (μ4.1 0) 43 (nI h)) → μ7 = wI μ6 0 (upd (μ6.1 0) 44 (ghF e r p h)) → AA (Call (d + 67)) y_M_seeks Q 7 [.ref 0, .int (nI p), .int (μ.1 8 p), .int (nI (h + 1)), .int (ghF e r p h)] [] μ7 := by
      intro μ6 μ7 hf e6 e7
      refine AA_weak (lv := [.ref 0, .int (nI p), .int (μ.1 8 p), .int (nI (h + 1)), un]) ⟨Or.inl rfl, Or.inl rfl, Or.inl rfl, Or.inl rfl, Or.inr ⟨rfl, rfl⟩, trivial⟩ (ih μ7 ⟨?_, ?_, ?_, ?_, ?_⟩)
      · exact o4.trans (by rw [e7, e6]; exact (Only.w).trans Only.w)
      · intro k hk
        rw [e7, wI_s, upd_n (by omega), e6, wI_s, upd_n (by omega)]
        exact g4 k hk
      · refine ⟨by rw [e7, wI_2, e6, wI_2]; exact hl84, fun j hj => ?_⟩
        rw [e7, wI_n (by decide), e6, wI_n (by decide)]
        exact h84 j hj
      · refine t4.cong ?_ ?_ ?_ ?_ ?_
        · rw [e7, wI_s, upd_n (by omega), e6, wI_s, upd_n (by omega)]
        · rw [e7, wI_n (by decide), e6, wI_n (by decide)]
        · rw [e7, wI_n (by decide), e6, wI_n (by decide)]
        · rw [e7, wI_n (by decide), e6, wI_n (by decide)]
        · rw [e7, wI_2, e6, wI_2]
      · intro _
        rw [hf]
        refine ⟨?_, ?_⟩
        · rw [e7, wI_s, upd_n (by omega), e6, wI_s, upd_s]
        · rw [e7, wI_s, upd_s]
    show (nI h = 0 → _) ∧ _
    refine ⟨fun z μ6 e6 μ7 e7 => wr μ6 μ7 ?_ e6 e7, fun z => ⟨fun z2 => ?_, fun z2 μ6 e6 μ7 e7 => wr μ6 μ7 ?_ e6 e7⟩⟩
    · have : h = 0 := by
        have q := congrArg Int32.toInt z
        rw [eh] at q
        have : (0 : Int32).toInt = 0 := rfl
        omega
      subst this
      show (if _ then _ else _) = 0
      split <;> rfl
    · have h0 : 0 < h := by
        by_cases q : h = 0
        · exact absurd (by rw [q]; rfl) z
        · omega
      obtain ⟨b1, b2⟩ := hb h0
      have z2 : ghF e r p h ≤ ghF e r p (fmF (ghF e r p) h) := by rw [← b2, ← k44]; exact z2
      have hf : fmF (ghF e r p) (h + 1) = fmF (ghF e r p) h := if_pos z2
      refine AA_weak (lv := [.ref 0, .int (nI p), .int (μ.1 8 p), .int (nI (h + 1)), un]) ⟨Or.inl rfl, Or.inl rfl, Or.inl rfl, Or.inl rfl, Or.inr ⟨rfl, rfl⟩, trivial⟩ (ih μ4 ⟨o4, g4, ⟨hl84, h84⟩, t4, fun _ => ?_⟩)
      rw [hf, k43, k44]
      exact ⟨b1, b2⟩
    · have h0 : 0 < h := by
        by_cases q : h = 0
        · exact absurd (by rw [q]; rfl) z
        · omega
      obtain ⟨b1, b2⟩ := hb h0
      have z2 : ¬ ghF e r p h ≤ ghF e r p (fmF (ghF e r p) h) := by rw [← b2, ← k44]; exact z2
      exact if_neg z2
theorem M_when_ok {d : Nat} {Q : QQ} {μ : Mem} {e : DE} {tx : Nat → Nat → List Int32} {t : Nat} {a b : Int32} {r : Nat → Int32} (hi : isM e tx t μ) (hwf : wfE e) (hrow : rowM 4 r μ) (hok : rowOk r) (hb : ¬ (0 ≤ a.toInt ∧ a.toInt < npE e ∧ 0 ≤ b.toInt ∧ b.toInt ≤ 1) → Q (.int (-100000)) μ) (hg : 0 ≤ a.toInt ∧ a.toInt < npE e ∧ 0 ≤ b.toInt ∧ b.toInt ≤ 1 → ∀ μ', frG μ μ' → TxM tx μ' → Q (.int (if b = 0 then nI (fmF (ghF e r a.toNatClampNeg) 24) else ghF e r a.toNatClampNeg (fmF (ghF e r a.toNatClampNeg) 24))) μ') : Call (d + 69) y_M_when [.ref 0, .int a, .int b] μ Q := by
  obtain ⟨n1, n2⟩ := np_r hi hwf
  refine b_M_when_0 (M_isWriter_ok n1 ⟨_, rfl, b_z (fun c1 => hb (by omega)) (fun c1 => ?_)⟩)
  refine M_in_ok (A := b.toInt) (B := 0) (C := 1) (lI _) rfl rfl ⟨_, rfl, b_nz (fun c2 => ?_) (fun c2 => hb (by omega))⟩
  have g := hg (by omega)
  obtain ⟨p, hp, rfl, ep⟩ := nI_ex (x := a) c1.1
  rw [nI_c hp] at g
  refine M_seeks_ok hi hwf (by omega) hrow hok (fun μ1 f1 t1 k43 k44 => ?_)
  have g := g μ1 f1 t1
  rw [k43, k44]
  refine ⟨fun z => ?_, fun z => ?_⟩
  · rw [if_neg z] at g; exact g
  · rw [if_pos z] at g; exact g
theorem M_choose_ok {d : Nat} {Q : QQ} {μ : Mem} {e : DE} {tx : Nat → Nat → List Int32} {t : Nat} {a : Int32} {r : Nat → Int32} (hi : isM e tx t μ) (hwf : wfE e) (hrow : rowM 4 r μ) (hok : rowOk r) (hb : ¬ (0 ≤ a.toInt ∧ a.toInt < npE e) → Q (.int (-100000)) μ) (hg : 0 ≤ a.toInt ∧ a.toInt < npE e → ∀ μ1 μ', frG μ μ1 → TxM tx μ1 → μ' = wI μ1 8 (upd (μ1.1 8) a.toNatClampNeg (nI (fmF (ghF e r a.toNatClampNeg) 24))) → Q (.int (ghF e r a.toNatClampNeg (fmF (ghF e r a.toNatClampNeg) 24))) μ') : Call (d + 69) y_M_choose [.ref 0, .int a] μ Q := by
  have h5 := hwf.2.2.1
  obtain ⟨n1, n2⟩ := np_r hi hwf
  refine b_M_choose_0 (M_isWriter_ok n1 ⟨_, rfl, b_nz (fun c1 => ?_) (fun c1 => hb (by omega))⟩)
  have g := hg (by omega)
  obtain ⟨p, hp, rfl, ep⟩ := nI_ex (x := a) c1.1
  rw [nI_c hp] at g
  refine M_seeks_ok hi hwf (by omega) hrow hok (fun μ1 f1 t1 k43 k44 => ⟨nI_v (by omega) (by omega), fun μ4 e4 => ?_⟩)
  rw [k43, nI_c hp] at e4
  refine Qi (g μ1 μ4 f1 t1 e4) ?_
  rw [e4, wI_n (by decide), k44]
def restF (e : DE) (r : Nat → Int32) (n : Nat) : Prop := ∀ p, p < n → ghF e r p (fmF (ghF e r p) 24) ≤ goodF e (dE e r) p
theorem M_rest_ok {d : Nat} {Q : QQ} {μ : Mem} {e : DE} {tx : Nat → Nat → List Int32} {t : Nat} {r : Nat → Int32} (hi : isM e tx t μ) (hwf : wfE e) (hrow : rowM 4 r μ) (hok : rowOk r) (hy : restF e r (npE e) → ∀ μ', frG μ μ' → TxM tx μ' → Q (.int 1) μ') (hn : ¬ restF e r (npE e) → ∀ μ', frG μ μ' → TxM tx μ' → Q (.int 0) μ') : Call (d + 69) y_M_rest [.ref 0] μ Q := by
  have h5 := hwf.2.2.1
  refine b_M_rest_0 ?_
  refine loopN (G := fun p s => AA (Call (d + 68)) y_M_rest Q 2 [.ref 0, .int (nI p), un] [] s) (P := fun p s => frG μ s ∧ TxM tx s ∧ restF e r p) (N := npE e) ?_ ?_ 0 μ (by omega) ⟨frG.rf, hi.tx, fun p hp => absurd hp (by omega)⟩
  · intro s ⟨f1, t1, hr⟩
    exact b_M_rest_2 ⟨fun _ => hy hr s f1 t1, fun z => absurd (by rw [(hi.g f1 t1).2.2.1]; exact Int32.le_refl _) z⟩
  · intro p s hp ⟨f1, t1, hr⟩ ih
    have is1 := hi.g f1 t1
    have r1 : rowM 4 r s := fun j hj => by rw [f1.i 4]; exact hrow j hj
    refine b_M_rest_2 ⟨fun z => absurd (le32.mp z) (by rw [is1.2.2.1, nI_i (by omega), nI_i (by omega)]; omega), fun _ => ?_⟩
    rw [nI_1]
    refine M_dayNow_ok is1 hwf r1 hok (fun s2 f2 t2 rm2 sp2 _ => ?_)
    refine M_goodOf_ok (s := dE e r) (is1.g f2.g t2) hwf hp (dayF_said 24) (sp2 p hp).1 (sp2 p hp).2 (fun s3 f3 t3 => ⟨_, rfl, ?_⟩)
    have f23 : frG s s3 := f2.g.trans f3.g
    refine M_seeks_ok (is1.g f23 t3) hwf hp (fun j hj => by rw [f23.i 4]; exact r1 j hj) hok (fun s4 f4 t4 k43 k44 => ?_)
    rw [k44]
    refine ⟨fun z => ?_, fun z => hn (fun y => z (y p hp)) s4 ((f1.trans f23).trans f4) t4⟩
    refine AA_weak (lv := [.ref 0, .int (nI (p + 1)), un]) ⟨Or.inl rfl, Or.inl rfl, Or.inr ⟨rfl, rfl⟩, trivial⟩ (ih s4 ⟨(f1.trans f23).trans f4, t4, fun q hq => ?_⟩)
    by_cases y : q = p
    · rw [y]; exact z
    · exact hr q (by omega)
def brn (u n : Int32) : Int32 := if 999 ≤ (u + n).toInt then 999 else u + n
noncomputable def burnF (e : DE) (r : Nat → Int32) (n : Int32) (l : Nat) : Int32 := gdA e r - gdA e (upd r l (brn (r l) n))
theorem brn_ok {u n : Int32} (hu : rng u 0 999) (hn : rng n 0 20) : rng (brn u n) 0 999 := by
  obtain ⟨u1, u2⟩ := hu
  obtain ⟨n1, n2⟩ := hn
  have e : (u + n).toInt = u.toInt + n.toInt := add32 (by omega) (by omega)
  unfold brn rng
  split
  · exact ⟨by decide, by decide⟩
  · omega
theorem M_burned_ok {d : Nat} {Q : QQ} {μ : Mem} {e : DE} {tx : Nat → Nat → List Int32} {t l : Nat} {n : Int32} {r : Nat → Int32} (hi : isM e tx t μ) (hwf : wfE e) (hl : l < 8) (hn : rng n 1 20) (hrow : rowM 4 r μ) (hok : rowOk r) (hQ : ∀ μ', frG μ μ' → TxM tx μ' → Q (.int (burnF e r n l)) μ') : Call (d + 68) y_M_burned [.ref 0, .int (nI l), .int n] μ Q := by
  have vl : vp_in (nI l) 8 := nI_v hl (by omega)
  have cl : (nI l).toNatClampNeg = l := nI_c (by omega)
  refine b_M_burned_0 (M_dayNow_ok hi hwf hrow hok (fun s1 f1 t1 rm1 sp1 _ => ?_))
  refine M_allGood_ok (s := dE e r) (hi.g f1.g t1) hwf (dayF_said 24) sp1 (fun s2 f2 t2 => ⟨_, rfl, M_takes_ok (fun s3 o3 o3' => ⟨vl, ?_⟩)⟩)
  have t3 : TxM tx s3 := t2.fr o3 (by simp)
  have f13 : frG μ s3 := (f1.g.trans f2.g).trans o3.g
  have rm3 : rowM 14 r s3 := fun j hj => by rw [o3' j hj, f2.i 4, f1.i 4]; exact hrow j hj
  rw [cl, rm3 l hl]
  have fin : ∀ s5 : Mem, s5 = wI s3 14 (upd (s3.1 14) l (brn (r l) n)) → Call (d + 67) y_M_passesDay [.ref 0] s5 (fun _ μ6 => Call (d + 67) y_M_allGood [.ref 0] μ6 (fun ρ μ7 => ∃ r8 : Int32, ρ = .int r8 ∧ Q (.int (sum8 (goodF e (dE e r)) (npE e) - r8)) μ7)) := by
    intro s5 e5
    have o5 : Only [14] s3 s5 := by rw [e5]; exact Only.w
    have t5 := t3.fr o5 (by simp)
    have is5 := hi.g (f13.trans o5.g) t5
    refine M_passesDay_ok is5 hwf (r := upd r l (brn (r l) n)) (by rw [e5]; exact rm3.up) (hok.up (brn_ok (hok l hl) ⟨by have := hn.1; omega, hn.2⟩)) (fun s6 f6 t6 rm6 sp6 _ => ?_)
    refine M_allGood_ok (s := dE e (upd r l (brn (r l) n))) (is5.g f6.g t6) hwf (dayF_said 24) sp6 (fun s7 f7 t7 => ⟨_, rfl, ?_⟩)
    exact hQ s7 (((f13.trans o5.g).trans f6.g).trans f7.g) t7
  have e9 : (999 : Int32).toInt = 999 := rfl
  refine ⟨fun z => ⟨vl, fun s5 e5 => fin s5 ?_⟩, fun z => ⟨vl, vl, fun s5 e5 => fin s5 ?_⟩⟩
  · rw [e5]; unfold brn; rw [if_pos (by have := le32.mp z; omega)]
  · rw [e5]; unfold brn; rw [if_neg (fun y => z (le32.mpr (by omega)))]
theorem M_burn_ok {d : Nat} {Q : QQ} {μ : Mem} {e : DE} {tx : Nat → Nat → List Int32} {t : Nat} {a b : Int32} {r : Nat → Int32} (hi : isM e tx t μ) (hwf : wfE e) (hrow : rowM 4 r μ) (hok : rowOk r) (hb : ¬ (0 ≤ a.toInt ∧ a.toInt ≤ 7 ∧ 1 ≤ b.toInt ∧ b.toInt ≤ 20) → Q (.int (-100000)) μ) (hg : 0 ≤ a.toInt ∧ a.toInt ≤ 7 ∧ 1 ≤ b.toInt ∧ b.toInt ≤ 20 → ∀ μ', frG μ μ' → TxM tx μ' → Q (.int (burnF e r b a.toNatClampNeg)) μ') : Call (d + 69) y_M_burn [.ref 0, .int a, .int b] μ Q := by
  refine b_M_burn_0 (M_in_ok (A := a.toInt) (B := 0) (C := 7) (lI _) rfl rfl ⟨_, rfl, b_z (fun c1 => hb (by omega)) (fun c1 => ?_)⟩)
  refine M_in_ok (A := b.toInt) (B := 1) (C := 20) (lI _) rfl rfl ⟨_, rfl, b_z (fun c2 => hb (by omega)) (fun c2 => ?_)⟩
  have g := hg (by omega)
  obtain ⟨l, hl, rfl, el⟩ := nI_ex (x := a) c1.1
  rw [nI_c hl] at g
  exact M_burned_ok hi hwf (by omega) c2 hrow hok (fun μ1 f1 t1 => ⟨_, rfl, g μ1 f1 t1⟩)
theorem M_worst_ok {d : Nat} {Q : QQ} {μ : Mem} {e : DE} {tx : Nat → Nat → List Int32} {t : Nat} {a b : Int32} {r : Nat → Int32} (hi : isM e tx t μ) (hwf : wfE e) (hrow : rowM 4 r μ) (hok : rowOk r) (hb : ¬ (1 ≤ a.toInt ∧ a.toInt ≤ 20 ∧ 0 ≤ b.toInt ∧ b.toInt ≤ 1) → Q (.int (-100000)) μ) (hg : 1 ≤ a.toInt ∧ a.toInt ≤ 20 ∧ 0 ≤ b.toInt ∧ b.toInt ≤ 1 → ∀ μ', frG μ μ' → TxM tx μ' → Q (.int (if b = 0 then nI (fmF (burnF e r a) 8) else burnF e r a (fmF (burnF e r a) 8))) μ') : Call (d + 69) y_M_worst [.ref 0, .int a, .int b] μ Q := by
  refine b_M_worst_0 (M_in_ok (A := a.toInt) (B := 1) (C := 20) (lI _) rfl rfl ⟨_, rfl, b_z (fun c1 => hb (by omega)) (fun c1 => ?_)⟩)
  refine M_in_ok (A := b.toInt) (B := 0) (C := 1) (lI _) rfl rfl ⟨_, rfl, b_nz (fun c2 => ?_) (fun c2 => hb (by omega))⟩
  have g := hg (by omega)
  refine loopN (G := fun l s => AA (Call (d + 68)) y_M_worst Q 20 [.ref 0, .int a, .int b, .int s.1, .int s.2.1, .int (nI l), un] [] s.2.2) (P := fun l s => frG μ s.2.2 ∧ TxM tx s.2.2 ∧ (0 < l → s.1 = nI (fmF (burnF e r a) l) ∧ s.2.1 = burnF e r a (fmF (burnF e r a) l))) (N := 8) ?_ ?_ 0 ((0 : Int32), (0 : Int32), μ) (by omega) ⟨frG.rf, hi.tx, fun z => absurd z (by omega)⟩
  · intro ⟨v, w, s⟩ ⟨f1, t1, hv⟩
    dsimp only at f1 t1 hv ⊢
    have g := g s f1 t1
    obtain ⟨rfl, rfl⟩ := hv (by omega)
    refine b_M_worst_20 ⟨fun _ => ⟨fun z => ?_, fun z => ?_⟩, fun c => absurd (by decide) c⟩
    · rw [if_neg z] at g; exact g
    · rw [if_pos z] at g; exact g
  · intro l ⟨v, w, s⟩ hl ⟨f1, t1, hv⟩ ih
    dsimp only at f1 t1 hv ih ⊢
    have el := nI_i (n := l) (by omega)
    refine b_M_worst_20 ⟨fun c => absurd (le32.mp c) (by rw [el]; show ¬ (8 : Int) ≤ _; omega), fun _ => ?_⟩
    rw [nI_1]
    refine M_burned_ok (hi.g f1 t1) hwf hl c1 (r := r) (fun j hj => by rw [f1.i 4]; exact hrow j hj) hok (fun s2 f2 t2 => ⟨_, rfl, ?_⟩)
    have nxt : ∀ v w : Int32, v = nI (fmF (burnF e r a) (l + 1)) → w = burnF e r a (fmF (burnF e r a) (l + 1)) → AA (Call (d + 68)) y_M_worst Q 20 [.ref 0, .int a, .int b, .int v, .int w, .int (nI (l + 1)), .int (burnF e r a l)] [] s2 := by
      intro v w hv hw
      refine AA_weak (lv := [.ref 0, .int a, .int b, .int v, .int w, .int (nI (l + 1)), un]) ⟨Or.inl rfl, Or.inl rfl, Or.inl rfl, Or.inl rfl, Or.inl rfl, Or.inl rfl, Or.inr ⟨rfl, rfl⟩, trivial⟩ (ih (v, w, s2) ⟨f1.trans f2, t2, fun _ => ⟨hv, hw⟩⟩)
    have l0 : ¬ nI l = 0 → 0 < l := fun z => by
      by_cases q : l = 0
      · exact absurd (by rw [q]; rfl) z
      · omega
    refine ⟨fun z => ?_, fun z => ⟨fun z2 => ?_, fun z2 => ?_⟩⟩
    · have : l = 0 := by
        have q := congrArg Int32.toInt z
        rw [el] at q
        have : (0 : Int32).toInt = 0 := rfl
        omega
      subst this
      have hf : fmF (burnF e r a) (0 + 1) = 0 := by show (if _ then _ else _) = 0; split <;> rfl
      exact nxt _ _ (by rw [hf]) (by rw [hf])
    · obtain ⟨b1, b2⟩ := hv (l0 z)
      rw [b2] at z2
      have hf : fmF (burnF e r a) (l + 1) = fmF (burnF e r a) l := if_pos z2
      exact nxt _ _ (by rw [hf]; exact b1) (by rw [hf]; exact b2)
    · obtain ⟨b1, b2⟩ := hv (l0 z)
      rw [b2] at z2
      have hf : fmF (burnF e r a) (l + 1) = l := if_neg z2
      exact nxt _ _ (by rw [hf]) (by rw [hf])
