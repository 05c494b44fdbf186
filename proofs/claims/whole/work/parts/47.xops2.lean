/-! ===== the class: hours sought, letters burned, laws, what was said, days drawn ===== -/
theorem ite_c {α : Type} {P P' : Prop} [Decidable P] [Decidable P'] {a b : α} (h : P ↔ P') : (if P then a else b) = (if P' then a else b) := by
  by_cases q : P
  · rw [if_pos q, if_pos (h.mp q)]
  · rw [if_neg q, if_neg (fun z => q (h.mpr z))]
theorem fmF_1 {g : Nat → Int32} : fmF g 1 = 0 := by
  unfold fmF
  split <;> rfl
theorem hourF_at {e : DE} {h p : Nat} {s : DS} : ∀ n, (hourF e h n s).2.1 p = (if hoE e p = nI h ∧ p < n then (turnF e p (hourF e h p s)).2.1 p else s.2.1 p) ∧ (hourF e h n s).2.2 p = (if hoE e p = nI h ∧ p < n then (turnF e p (hourF e h p s)).2.2 p else s.2.2 p)
  | 0 => by
    rw [if_neg (fun z => absurd z.2 (by omega)), if_neg (fun z => absurd z.2 (by omega))]
    exact ⟨rfl, rfl⟩
  | n + 1 => by
    have ih := hourF_at (e := e) (h := h) (p := p) (s := s) n
    by_cases hz : hoE e n = nI h
    · have e1 : hourF e h (n + 1) s = turnF e n (hourF e h n s) := if_pos hz
      rw [e1]
      by_cases q : p = n
      · subst q
        rw [if_pos ⟨hz, by omega⟩, if_pos ⟨hz, by omega⟩]
        exact ⟨rfl, rfl⟩
      · have t1 : (turnF e n (hourF e h n s)).2.1 p = (hourF e h n s).2.1 p := upd_n q
        have t2 : (turnF e n (hourF e h n s)).2.2 p = (hourF e h n s).2.2 p := upd_n q
        rw [t1, t2, ih.1, ih.2]
        have c : (hoE e p = nI h ∧ p < n + 1) ↔ (hoE e p = nI h ∧ p < n) := ⟨fun z => ⟨z.1, by omega⟩, fun z => ⟨z.1, by omega⟩⟩
        rw [ite_c c, ite_c c]
        exact ⟨rfl, rfl⟩
    · have e1 : hourF e h (n + 1) s = hourF e h n s := if_neg hz
      rw [e1, ih.1, ih.2]
      by_cases q : p = n
      · subst q
        rw [if_neg (fun z => hz z.1), if_neg (fun z => hz z.1), if_neg (fun z => hz z.1), if_neg (fun z => hz z.1)]
        exact ⟨rfl, rfl⟩
      · have c : (hoE e p = nI h ∧ p < n + 1) ↔ (hoE e p = nI h ∧ p < n) := ⟨fun z => ⟨z.1, by omega⟩, fun z => ⟨z.1, by omega⟩⟩
        rw [ite_c c, ite_c c]
        exact ⟨rfl, rfl⟩
theorem dayF_at {e : DE} {h0 p : Nat} {s : DS} (hp : p < npE e) (hh : hoE e p = nI h0) (h24 : h0 < 24) : ∀ H, H ≤ 24 → (dayF e H s).2.1 p = (if h0 < H then (turnF e p (hourF e h0 p (dayF e h0 s))).2.1 p else s.2.1 p) ∧ (dayF e H s).2.2 p = (if h0 < H then (turnF e p (hourF e h0 p (dayF e h0 s))).2.2 p else s.2.2 p)
  | 0, _ => by
    rw [if_neg (by omega), if_neg (by omega)]
    exact ⟨rfl, rfl⟩
  | H + 1, hH => by
    have ih := dayF_at (s := s) hp hh h24 H (by omega)
    have a := hourF_at (e := e) (h := H) (p := p) (s := dayF e H s) (npE e)
    show (hourF e H (npE e) (dayF e H s)).2.1 p = _ ∧ (hourF e H (npE e) (dayF e H s)).2.2 p = _
    rw [a.1, a.2]
    by_cases q : h0 = H
    · subst q
      have yy : h0 < h0 + 1 := Nat.lt_succ_self _
      have hhp : hoE e p = nI h0 ∧ p < npE e := ⟨hh, hp⟩
      rw [if_pos hhp, if_pos hhp, if_pos yy, if_pos yy]
      exact ⟨rfl, rfl⟩
    · have ne : ¬ (hoE e p = nI H ∧ p < npE e) := fun z => by
        have := congrArg Int32.toInt (hh.symm.trans z.1)
        rw [nI_i (by omega), nI_i (by omega)] at this
        omega
      rw [if_neg ne, if_neg ne, ih.1, ih.2]
      by_cases y : h0 < H
      · rw [if_pos y, if_pos y, if_pos (by omega), if_pos (by omega)]; exact ⟨rfl, rfl⟩
      · rw [if_neg y, if_neg y, if_neg (by omega), if_neg (by omega)]; exact ⟨rfl, rfl⟩
/-- a writer's own turn is what the day gives -/
theorem own_turn {e : DE} {r : Nat → Int32} {p : Nat} (hwf : wfE e) (hp : p < npE e) : (dE e r).2.1 p = (turnF e p (hourF e (hoE e p).toInt.toNat p (dayF e (hoE e p).toInt.toNat (ds0 r)))).2.1 p ∧ (dE e r).2.2 p = (turnF e p (hourF e (hoE e p).toInt.toNat p (dayF e (hoE e p).toInt.toNat (ds0 r)))).2.2 p := by
  have hr := (hwf.2.2.2.1 p hp).1
  obtain ⟨h0, q1, q2, q3⟩ := nI_ex (x := hoE e p) hr.1
  have hr2 := hr.2
  have a := dayF_at (s := ds0 r) hp q2 (by omega) 24 (by omega)
  rw [if_pos (by omega), if_pos (by omega)] at a
  rw [show (hoE e p).toInt.toNat = h0 by omega]
  exact a
theorem X_firstMost_ok {d : Nat} {Q : QQ} {μ : Mem} {g : Nat → Int32} (hg : ∀ h, h < 24 → μ.1 50 h = g h) (hQ : Q (.int (nI (fmF g 24))) μ) : Call (d + 1) y_X_firstMost [.ref 50] μ Q := by
  refine b_X_firstMost_0 ?_
  rw [show (0 : Int32) = nI (fmF g 1) by rw [fmF_1]; rfl]
  refine loopN (G := fun i (v : Unit) => AA (Call d) y_X_firstMost Q 4 [.ref 50, .int (nI (fmF g i)), .int (nI i)] [] μ) (P := fun i v => 1 ≤ i) (N := 24) ?_ ?_ 1 () (by omega) (by omega)
  · intro v _
    exact b_X_firstMost_4 ⟨fun _ => hQ, fun z => absurd (by decide) z⟩
  · intro i v hi h1 ih
    have fl := (fmF_lt (g := g) i).resolve_right (by omega)
    refine b_X_firstMost_4 ⟨fun z => absurd (le32.mp z) (by rw [nI_i (by omega)]; show ¬ (24 : Int) ≤ _; omega), fun _ => ⟨nI_v hi (by omega), nI_v (by omega) (by omega), ?_⟩⟩
    rw [nI_c (by omega), nI_c (by omega), nI_1, hg i hi, hg _ (by omega)]
    have g2 := ih () (by omega)
    simp only [fmF] at g2
    refine ⟨fun z => ?_, fun z => ?_⟩
    · rw [if_pos z] at g2; exact g2
    · rw [if_neg z] at g2; exact g2
theorem Day_tryHours_ok {d : Nat} {Q : QQ} {μ : Mem} {e : DE} {tx : Nat → Nat → List Int32} {t p : Nat} {r : Nat → Int32} (hi : isX0 e tx t μ) (hwf : wfE e) (hp : p < npE e) (hrow : rowM 1 r μ) (hok : rowOk r) (hQ : ∀ μ', Only tX μ μ' → (∀ h, h < 24 → μ'.1 50 h = ghF e r p h) → Q .null μ') : Call (d + 6) y_Day_tryHours [.ref 44, .int (nI p)] μ Q := by
  have h5 := hwf.2.2.1
  have vp : vp_in (nI p) 5 := nI_v (by omega) (by omega)
  refine b_Day_tryHours_0 ?_
  refine loopN (G := fun h s => AA (Call (d + 5)) y_Day_tryHours Q 2 [.ref 44, .int (nI p), .int (nI h)] [] s) (P := fun h s => Only tX μ s ∧ ∀ j, j < h → s.1 50 j = ghF e r p j) (N := 24) ?_ ?_ 0 μ (by omega) ⟨Only.rf, fun j hj => absurd hj (by omega)⟩
  · intro s ⟨o, h⟩
    exact b_Day_tryHours_2 ⟨fun _ => hQ s o h, fun z => absurd (by decide) z⟩
  · intro h s hh ⟨o, hs⟩ ih
    have eh := nI_i (n := h) (by omega)
    refine b_Day_tryHours_2 ⟨fun z => absurd (le32.mp z) (by rw [eh]; show ¬ (24 : Int) ≤ _; omega), fun _ => ?_⟩
    refine Day_dawn_ok (fun s1 o1 h45 h46 h44 => ⟨vp, fun s2 e2 => ?_⟩)
    rw [nI_c (by omega)] at e2
    have i1 : isX e tx t s1 := (hi.fr hwf.1 o).dawn hwf o1 h46 h44
    have oo : ∀ k, k ∉ tX → s1.1 k = μ.1 k := fun k hk => by rw [o1.i k (by simp at hk ⊢; omega), o.i k hk]
    have i2 : isX (setH e (upd (hoE e) p (nI h))) tx t s2 := i1.sh hwf.1 (.we e2) (fun j hj => by
      rw [e2, wI_s]
      by_cases q : j = p
      · rw [q, upd_s, upd_s]
      · rw [upd_n q, upd_n q]; exact (i1.2.2.2.1 j hj).2.1)
    have wf2 : wfE (setH e (upd (hoE e) p (nI h))) := wf_setH hwf (fun j hj => by
      by_cases q : j = p
      · rw [q, upd_s]; exact ⟨by omega, by omega⟩
      · rw [upd_n q]; exact (hwf.2.2.2.1 j hj).1)
    have r2 : rowM 45 r s2 := fun j hj => by
      rw [e2, wI_n (by decide), h45 j hj, o.i 1]; exact hrow j hj
    have hoh : hoE (setH e (upd (hoE e) p (nI h))) p = nI h := upd_s
    refine Day_liveTo_ok i2 wf2 r2 hok (fun z => absurd rfl (z p hp)) (fun q hq zq s3 h3 => ?_)
    have zq := congrArg Int32.toInt zq
    have hq : q < npE e := hq
    rw [nI_i (by omega), nI_i (by omega)] at zq
    have zq : q = p := by omega
    subst zq
    obtain ⟨o3, r3, _⟩ := h3
    have i3 := i2.fr hwf.1 o3 (by simp)
    refine Day_takeTurn_ok i3 wf2 hp r3 (hourF_ok wf2 (dayF_ok wf2 hok _) _) (fun s4 o4 r4 h47 h48 h49 _ => ⟨vp, nI_v hh (by omega), fun s5 e5 => ?_⟩)
    rw [nI_c (by omega), nI_c (by omega)] at e5
    rw [nI_1]
    have own := own_turn (r := r) wf2 hp
    have ge : s4.1 49 q = ghF e r q h := by
      rw [h49]
      unfold ghF
      exact (goodF_cg own.1 own.2).symm
    have o14 : Only tX s s4 := (((o1.mono (by simp)).trans (.we e2)).trans (o3.mono (by simp))).trans (o4.mono (by simp))
    refine ih s5 ⟨(o.trans o14).trans (.we e5), fun j hj => ?_⟩
    rw [e5, wI_s]
    by_cases y : j = h
    · rw [y, upd_s, ge]
    · rw [upd_n y, o4.i 50, o3.i 50, e2, wI_n (by decide), o1.i 50]
      exact hs j (by omega)
theorem X_when_ok {d : Nat} {Q : QQ} {μ : Mem} {e : DE} {tx : Nat → Nat → List Int32} {t : Nat} {a b : Int32} {r : Nat → Int32} (hi : isX0 e tx t μ) (hwf : wfE e) (hrow : rowM 1 r μ) (hok : rowOk r) (hb : ¬ (0 ≤ a.toInt ∧ a.toInt < npE e ∧ 0 ≤ b.toInt ∧ b.toInt ≤ 1) → Q (.int (-100000)) μ) (hg : 0 ≤ a.toInt ∧ a.toInt < npE e ∧ 0 ≤ b.toInt ∧ b.toInt ≤ 1 → ∀ μ', Only tX μ μ' → Q (.int (if b = 0 then nI (fmF (ghF e r a.toNatClampNeg) 24) else ghF e r a.toNatClampNeg (fmF (ghF e r a.toNatClampNeg) 24))) μ') : Call (d + 7) y_X_when [.ref 0, .int a, .int b] μ Q := by
  have h5 := hwf.2.2.1
  refine b_X_when_0 ?_
  rw [hi.2.2.1]
  refine X_within_ok (A := a.toInt) rfl (sub1_i (by omega)) ⟨_, rfl, b_z (fun c1 => hb (by omega)) (fun c1 => X_within_ok (A := b.toInt) (B := 1) rfl rfl ⟨_, rfl, b_nz (fun c2 => ?_) (fun c2 => hb (by omega))⟩)⟩
  have g := hg (by omega)
  obtain ⟨p, hp, rfl, ep⟩ := nI_ex (x := a) c1.1
  rw [nI_c hp] at g
  refine Day_tryHours_ok hi hwf (by omega) hrow hok (fun s o h => X_firstMost_ok h ⟨_, rfl, ?_⟩)
  have fl := (fmF_lt (g := ghF e r p) 24).resolve_right (by omega)
  rw [nI_c (by omega), h _ fl]
  have g := g s o
  refine ⟨fun z => ⟨nI_v fl (by omega), ?_⟩, fun z => ?_⟩
  · rw [if_neg z] at g; exact g
  · rw [if_pos z] at g; exact g
theorem X_choose_ok {d : Nat} {Q : QQ} {μ : Mem} {e : DE} {tx : Nat → Nat → List Int32} {t : Nat} {a : Int32} {r : Nat → Int32} (hi : isX0 e tx t μ) (hwf : wfE e) (hrow : rowM 1 r μ) (hok : rowOk r) (hb : ¬ (0 ≤ a.toInt ∧ a.toInt < npE e) → Q (.int (-100000)) μ) (hg : 0 ≤ a.toInt ∧ a.toInt < npE e → ∀ μ1 μ', Only tX μ μ1 → μ' = wI μ1 18 (upd (μ1.1 18) a.toNatClampNeg (nI (fmF (ghF e r a.toNatClampNeg) 24))) → Q (.int (ghF e r a.toNatClampNeg (fmF (ghF e r a.toNatClampNeg) 24))) μ') : Call (d + 7) y_X_choose [.ref 0, .int a] μ Q := by
  have h5 := hwf.2.2.1
  refine b_X_choose_0 ?_
  rw [hi.2.2.1]
  refine X_within_ok (A := a.toInt) rfl (sub1_i (by omega)) ⟨_, rfl, b_nz (fun c1 => ?_) (fun c1 => hb (by omega))⟩
  have g := hg (by omega)
  obtain ⟨p, hp, rfl, ep⟩ := nI_ex (x := a) c1.1
  rw [nI_c hp] at g ⊢
  refine Day_tryHours_ok hi hwf (by omega) hrow hok (fun s o h => X_firstMost_ok h ⟨_, rfl, nI_v (by omega) (by omega), fun s2 e2 => ?_⟩)
  have fl := (fmF_lt (g := ghF e r p) 24).resolve_right (by omega)
  rw [nI_c (by omega)]
  refine ⟨nI_v fl (by omega), ?_⟩
  rw [show s2.1 50 = s.1 50 by rw [e2, wI_n (by decide)], h _ fl]
  exact g s s2 o e2
theorem gh_own {e : DE} {r : Nat → Int32} {p : Nat} (hwf : wfE e) (hp : p < npE e) : ghF e r p (hoE e p).toNatClampNeg = goodF e (dE e r) p := by
  have hr := (hwf.2.2.2.1 p hp).1
  obtain ⟨h0, q1, q2, q3⟩ := nI_ex (x := hoE e p) hr.1
  unfold ghF
  rw [q2, nI_c q1, ← q2, upd_id, setH_id]
theorem X_rest_ok {d : Nat} {Q : QQ} {μ : Mem} {e : DE} {tx : Nat → Nat → List Int32} {t : Nat} {r : Nat → Int32} (hi : isX0 e tx t μ) (hwf : wfE e) (hrow : rowM 1 r μ) (hok : rowOk r) (hy : restF e r (npE e) → ∀ μ', Only tX μ μ' → Q (.int 1) μ') (hn : ¬ restF e r (npE e) → ∀ μ', Only tX μ μ' → Q (.int 0) μ') : Call (d + 7) y_X_rest [.ref 0] μ Q := by
  have h5 := hwf.2.2.1
  refine b_X_rest_0 ?_
  refine loopN (G := fun p s => AA (Call (d + 6)) y_X_rest Q 2 [.ref 0, .int (nI p), un] [] s) (P := fun p s => Only tX μ s ∧ restF e r p) (N := npE e) ?_ ?_ 0 μ (by omega) ⟨Only.rf, fun p hp => absurd hp (by omega)⟩
  · intro s ⟨o, h⟩
    exact b_X_rest_2 ⟨fun _ => hy h s o, fun z => absurd (by rw [o.i 16, hi.2.2.1]; exact Int32.le_refl _) z⟩
  · intro p s hp ⟨o, h⟩ ih
    refine b_X_rest_2 ⟨fun z => absurd (le32.mp z) (by rw [o.i 16, hi.2.2.1, nI_i (by omega), nI_i (by omega)]; omega), fun _ => ?_⟩
    rw [nI_c (by omega), nI_1]
    refine Day_tryHours_ok (hi.fr hwf.1 o) hwf hp (r := r) (fun j hj => by rw [o.i 1]; exact hrow j hj) hok (fun s2 o2 h2 => X_firstMost_ok h2 ⟨_, rfl, ?_⟩)
    have fl := (fmF_lt (g := ghF e r p) 24).resolve_right (by omega)
    have hr := (hwf.2.2.2.1 p hp).1
    have o12 := o.trans o2
    have e18 : s2.1 18 p = hoE e p := by rw [o12.i 18]; exact (hi.2.2.2.1 p hp).2.1
    rw [e18, nI_c (by omega), h2 _ fl, h2 _ (by have := hr.1; have := hr.2; unfold Int32.toNatClampNeg; omega), gh_own hwf hp]
    refine ⟨nI_v fl (by omega), nI_v (by omega) (by omega), vin_of hr.1 (by have := hr.2; omega), fun z => ?_, fun z => hn (fun y => z (y p hp)) s2 o12⟩
    refine AA_weak ?_ (ih s2 ⟨o12, fun q hq => ?_⟩)
    · exact ⟨Or.inl rfl, Or.inl rfl, Or.inr ⟨rfl, rfl⟩, trivial⟩
    · by_cases y : q = p
      · rw [y]; exact z
      · exact h q (by omega)
theorem brn_min {u n : Int32} : (if 999 < u + n then 999 else u + n) = brn u n := by
  unfold brn
  have e9 : (999 : Int32).toInt = 999 := rfl
  by_cases q : 999 ≤ (u + n).toInt
  · rw [if_pos q]
    by_cases y : (999 : Int32) < u + n
    · rw [if_pos y]
    · rw [if_neg y]
      have y := Int.not_lt.mp (fun z => y (lt32.mpr z))
      exact eq32.mpr (by omega)
  · rw [if_neg q, if_neg (fun y => by have := lt32.mp y; omega)]
theorem Day_goodIfBurned_ok {d : Nat} {Q : QQ} {μ : Mem} {e : DE} {tx : Nat → Nat → List Int32} {t l : Nat} {n : Int32} {r : Nat → Int32} (hi : isX0 e tx t μ) (hwf : wfE e) (hl : l < 8) (hn : rng n 0 20) (hrow : rowM 1 r μ) (hok : rowOk r) (hQ : ∀ μ', Only tX μ μ' → Q (.int (gdA e (upd r l (brn (r l) n)))) μ') : Call (d + 6) y_Day_goodIfBurned [.ref 44, .int (nI l), .int n] μ Q := by
  have h5 := hwf.2.2.1
  have vl : vp_in (nI l) 8 := nI_v hl (by omega)
  refine b_Day_goodIfBurned_0 (Dawn_ok hi hwf hrow (fun s1 o1 i1 r1 _ => ⟨vl, vl, fun s2 e2 => ?_⟩))
  rw [nI_c (by omega), brn_min, r1 l hl] at e2
  have i2 : isX e tx t s2 := i1.fr hwf.1 (Only.we (ks := [45]) e2) (by simp)
  have r2 : rowM 45 (upd r l (brn (r l) n)) s2 := by rw [e2]; exact r1.up
  have ok2 : rowOk (upd r l (brn (r l) n)) := hok.up (brn_ok (hok l hl) hn)
  refine Day_liveTo_ok i2 hwf r2 ok2 (fun _ s3 h3 => ?_) (fun q hq z => absurd z.symm (nI_ne (by omega)))
  obtain ⟨o3, r3, sp3⟩ := h3
  have o13 : Only tX μ s3 := (o1.trans (.we e2)).trans (o3.mono (by simp))
  exact Day_allGood_ok h5 (by rw [o13.i 16]; exact hi.2.2.1) (fun p hp => (sp3 p hp (past24 hwf hp)).2.2) ⟨_, rfl, hQ s3 o13⟩
theorem brn_0 {u : Int32} (h : rng u 0 999) : brn u 0 = u := by
  unfold brn
  rw [Int32.add_zero]
  by_cases q : 999 ≤ u.toInt
  · rw [if_pos q]
    have := h.2
    exact eq32.mpr (by show (999 : Int) = _; omega)
  · rw [if_neg q]
theorem sub1_r {b : Int32} (h : 0 ≤ (b - 1).toInt ∧ (b - 1).toInt ≤ 19) : 1 ≤ b.toInt ∧ b.toInt ≤ 20 := by
  have e : (b - 1).toInt = (b.toInt - 1).bmod (2 ^ 32) := Int32.toInt_sub b 1
  have h1 := Int32.le_toInt b
  have h2 := Int32.toInt_lt b
  rw [e] at h
  by_cases q : b.toInt = -2147483648
  · rw [q] at h
    exact absurd h (by decide)
  · rw [Int.bmod_eq_of_le (by omega) (by omega)] at h
    omega
theorem sub1_w {b : Int32} : (0 ≤ (b - 1).toInt ∧ (b - 1).toInt ≤ 19) ↔ (1 ≤ b.toInt ∧ b.toInt ≤ 20) :=
  ⟨sub1_r, fun h => by rw [sub32 (by show _ ≤ _ - (1 : Int); omega) (by show _ - (1 : Int) < _; omega)]; show 0 ≤ _ - (1 : Int) ∧ _ - (1 : Int) ≤ _; omega⟩
theorem X_burn_ok {d : Nat} {Q : QQ} {μ : Mem} {e : DE} {tx : Nat → Nat → List Int32} {t : Nat} {a b : Int32} {r : Nat → Int32} (hi : isX0 e tx t μ) (hwf : wfE e) (hrow : rowM 1 r μ) (hok : rowOk r) (hb : ¬ (0 ≤ a.toInt ∧ a.toInt ≤ 7 ∧ 1 ≤ b.toInt ∧ b.toInt ≤ 20) → Q (.int (-100000)) μ) (hg : 0 ≤ a.toInt ∧ a.toInt ≤ 7 ∧ 1 ≤ b.toInt ∧ b.toInt ≤ 20 → ∀ μ', Only tX μ μ' → Q (.int (burnF e r b a.toNatClampNeg)) μ') : Call (d + 7) y_X_burn [.ref 0, .int a, .int b] μ Q := by
  refine b_X_burn_0 (X_within_ok (A := a.toInt) (B := 7) rfl rfl ⟨_, rfl, b_z (fun c1 => hb (by omega)) (fun c1 => X_within_ok (A := (b - 1).toInt) (B := 19) rfl rfl ⟨_, rfl, b_nz (fun c2 => ?_) (fun c2 => hb (fun y => c2 (sub1_w.mpr y.2.2)))⟩)⟩)
  have c2 := sub1_w.mp c2
  have g := hg (by omega)
  obtain ⟨l, hl, rfl, el⟩ := nI_ex (x := a) c1.1
  rw [nI_c hl] at g
  refine Day_goodIfBurned_ok hi hwf (by omega) ⟨by decide, by decide⟩ hrow hok (fun s1 o1 => ⟨_, rfl, ?_⟩)
  refine Day_goodIfBurned_ok (hi.fr hwf.1 o1) hwf (by omega) ⟨by omega, by omega⟩ (r := r) (fun j hj => by rw [o1.i 1]; exact hrow j hj) hok (fun s2 o2 => ⟨_, rfl, ?_⟩)
  rw [brn_0 (hok l (by omega)), upd_id]
  exact g s2 (o1.trans o2)
theorem X_worst_ok {d : Nat} {Q : QQ} {μ : Mem} {e : DE} {tx : Nat → Nat → List Int32} {t : Nat} {a b : Int32} {r : Nat → Int32} (hi : isX0 e tx t μ) (hwf : wfE e) (hrow : rowM 1 r μ) (hok : rowOk r) (hb : ¬ (1 ≤ a.toInt ∧ a.toInt ≤ 20 ∧ 0 ≤ b.toInt ∧ b.toInt ≤ 1) → Q (.int (-100000)) μ) (hg : 1 ≤ a.toInt ∧ a.toInt ≤ 20 ∧ 0 ≤ b.toInt ∧ b.toInt ≤ 1 → ∀ μ', Only tX μ μ' → Q (.int (if b = 0 then nI (fmF (burnF e r a) 8) else burnF e r a (fmF (burnF e r a) 8))) μ') : Call (d + 7) y_X_worst [.ref 0, .int a, .int b] μ Q := by
  refine b_X_worst_0 (X_within_ok (A := (a - 1).toInt) (B := 19) rfl rfl ⟨_, rfl, b_z (fun c1 => hb (fun y => c1 (sub1_w.mpr ⟨y.1, y.2.1⟩))) (fun c1 => X_within_ok (A := b.toInt) (B := 1) rfl rfl ⟨_, rfl, b_nz (fun c2 => ?_) (fun c2 => hb (by omega))⟩)⟩)
  have c1 := sub1_w.mp c1
  have g := hg (by omega)
  have r0 : rng (r 0) 0 999 := hok 0 (by omega)
  refine Day_goodIfBurned_ok (l := 0) hi hwf (by omega) ⟨by decide, by decide⟩ hrow hok (fun s1 o1 => ⟨_, rfl, ?_⟩)
  refine Day_goodIfBurned_ok (l := 0) (hi.fr hwf.1 o1) hwf (by omega) ⟨by omega, by omega⟩ (r := r) (fun j hj => by rw [o1.i 1]; exact hrow j hj) hok (fun s2 o2 => ⟨_, rfl, ?_⟩)
  rw [brn_0 r0, upd_id]
  have e0 : (0 : Int32) = nI (fmF (burnF e r a) 1) := by rw [fmF_1]; rfl
  have e1 : gdA e r - gdA e (upd r 0 (brn (r 0) a)) = burnF e r a (fmF (burnF e r a) 1) := by rw [fmF_1]; rfl
  rw [e0, e1]
  refine loopN (G := fun i s => AA (Call (d + 6)) y_X_worst Q 30 [.ref 0, .int a, .int b, .int (gdA e r), .int (nI (fmF (burnF e r a) i)), .int (burnF e r a (fmF (burnF e r a) i)), .int (nI i), un] [] s) (P := fun i s => 1 ≤ i ∧ Only tX μ s) (N := 8) ?_ ?_ 1 s2 (by omega) ⟨by omega, o1.trans o2⟩
  · intro s ⟨_, o⟩
    refine b_X_worst_30 ⟨fun _ => ?_, fun z => absurd (by decide) z⟩
    have g := g s o
    refine ⟨fun z => ?_, fun z => ?_⟩
    · rw [if_neg z] at g; exact g
    · rw [if_pos z] at g; exact g
  · intro i s hin ⟨h1, o⟩ ih
    refine b_X_worst_30 ⟨fun z => absurd (le32.mp z) (by rw [nI_i (by omega)]; show ¬ (8 : Int) ≤ _; omega), fun _ => ?_⟩
    refine Day_goodIfBurned_ok (hi.fr hwf.1 o) hwf hin ⟨by omega, by omega⟩ (r := r) (fun j hj => by rw [o.i 1]; exact hrow j hj) hok (fun s3 o3 => ⟨_, rfl, ?_⟩)
    rw [nI_1]
    have nxt : ∀ y : Int32, AA (Call (d + 6)) y_X_worst Q 30 [.ref 0, .int a, .int b, .int (gdA e r), .int (nI (fmF (burnF e r a) (i + 1))), .int (burnF e r a (fmF (burnF e r a) (i + 1))), .int (nI (i + 1)), .int y] [] s3 := by
      intro y
      refine AA_weak ?_ (ih s3 ⟨by omega, o.trans o3⟩)
      exact ⟨Or.inl rfl, Or.inl rfl, Or.inl rfl, Or.inl rfl, Or.inl rfl, Or.inl rfl, Or.inl rfl, Or.inr ⟨rfl, rfl⟩, trivial⟩
    simp only [fmF] at nxt
    refine ⟨fun z => ?_, fun z => ?_⟩
    · rw [if_pos (show burnF e r a i ≤ burnF e r a (fmF (burnF e r a) i) from z)] at nxt
      exact nxt _
    · rw [if_neg (show ¬ burnF e r a i ≤ burnF e r a (fmF (burnF e r a) i) from z)] at nxt
      exact nxt _
