/-! ===== a day in the reference: its hours ===== -/
abbrev DS : Type := (Nat → Int32) × (Nat → Int32) × (Nat → Int32)
noncomputable def turnF (e : DE) (p : Nat) (s : DS) : DS := (if (pickF e s.1 p (nwE e)).1 = -1 then s.1 else spF (letsF (lsE e (pickF e s.1 p (nwE e)).1.toNatClampNeg)) s.1, upd s.2.1 p (pickF e s.1 p (nwE e)).1, upd s.2.2 p (pickF e s.1 p (nwE e)).2)
noncomputable def hourF (e : DE) (h : Nat) : Nat → DS → DS
  | 0, s => s
  | p + 1, s => if hoE e p = nI h then turnF e p (hourF e h p s) else hourF e h p s
def ageR (e : DE) (r : Nat → Int32) : Nat → Int32 := fun j => ageF (kE e) (nE e) (r j)
noncomputable def dayF (e : DE) : Nat → DS → DS
  | 0, s => s
  | h + 1, s => (ageR e (hourF e h (npE e) (dayF e h s)).1, (hourF e h (npE e) (dayF e h s)).2)
def ds0 (r : Nat → Int32) : DS := (r, fun _ => -1, fun _ => 0)
/-- the row as a writer's turn comes -/
noncomputable def rowAt (e : DE) (r : Nat → Int32) (p : Nat) : Nat → Int32 := (hourF e (hoE e p).toInt.toNat p (dayF e (hoE e p).toInt.toNat (ds0 r))).1
theorem ageF_ok {k n u : Int32} (hn : rng n 0 9) (hu : rng u 0 999) : rng (ageF k n u) 0 999 := by
  obtain ⟨n1, n2⟩ := hn
  obtain ⟨u1, u2⟩ := hu
  have e1 : (u - n).toInt = u.toInt - n.toInt := sub32 (by omega) (by omega)
  have e2 : (u - 1).toInt = u.toInt - 1 := m1 u1
  have z0 : (0 : Int32).toInt = 0 := rfl
  unfold ageF rng
  (repeat' split) <;> omega
theorem ageR_ok {e : DE} {r : Nat → Int32} (hwf : wfE e) (h : rowOk r) : rowOk (ageR e r) := fun j hj => ageF_ok hwf.2.2.2.2.2 (h j hj)
theorem turnF_ok {e : DE} {p : Nat} {s : DS} (hwf : wfE e) (h : rowOk s.1) : rowOk (turnF e p s).1 := by
  unfold turnF
  show rowOk (if _ then _ else _)
  split
  · exact h
  · rename_i q
    rcases pick_lt (e := e) (r := s.1) (p := p) (nwE e) with ⟨q1, _⟩ | ⟨w, q1, q2, q3⟩
    · exact absurd q1 q
    · have h10 := hwf.1
      rw [q2, nI_c (by omega)]
      exact spF_ok h (lets_lt (hwf.2.1 w q1).2.2)
theorem hourF_ok {e : DE} {h : Nat} {s : DS} (hwf : wfE e) (hs : rowOk s.1) : ∀ p, rowOk (hourF e h p s).1
  | 0 => hs
  | p + 1 => by
    unfold hourF
    split
    · exact turnF_ok hwf (hourF_ok hwf hs p)
    · exact hourF_ok hwf hs p
theorem dayF_ok {e : DE} {s : DS} (hwf : wfE e) (hs : rowOk s.1) : ∀ h, rowOk (dayF e h s).1
  | 0 => hs
  | h + 1 => ageR_ok hwf (hourF_ok hwf (dayF_ok hwf hs h) _)
/-- has a writer's turn come before hour h and writer i -/
def past (e : DE) (h i p : Nat) : Prop := (hoE e p).toInt < h ∨ (hoE e p).toInt = h ∧ p < i
/-- the reference's memory within a day -/
def dayM (e : DE) (tx : Nat → Nat → List Int32) (r : Nat → Int32) (μ : Mem) (h i : Nat) (s : DS) (ν : Mem) : Prop := frT [14, 15, 16, 17] μ ν ∧ TxM tx ν ∧ rowM 14 s.1 ν ∧ (∀ p, p < npE e → past e h i p → ν.1 16 p = s.2.1 p ∧ ν.1 17 p = s.2.2 p) ∧ (∀ q, q < npE e → μ.1 0 40 = nI q → (past e h i q → ν.1 0 42 = bitF e (rowAt e r q) q (μ.1 0 41) (μ.1 0 42) (nwE e)) ∧ (¬ past e h i q → ν.1 0 42 = μ.1 0 42))
theorem M_passesDay_ok {d : Nat} {Q : QQ} {μ : Mem} {e : DE} {tx : Nat → Nat → List Int32} {t : Nat} {r : Nat → Int32} (hi : isM e tx t μ) (hwf : wfE e) (hrow : rowM 14 r μ) (hok : rowOk r) (hQ : ∀ μ', frT [14, 15, 16, 17] μ μ' → TxM tx μ' → rowM 14 (dayF e 24 (ds0 r)).1 μ' → (∀ p, p < npE e → μ'.1 16 p = (dayF e 24 (ds0 r)).2.1 p ∧ μ'.1 17 p = (dayF e 24 (ds0 r)).2.2 p) → (∀ q, q < npE e → μ.1 0 40 = nI q → μ'.1 0 42 = bitF e (rowAt e r q) q (μ.1 0 41) (μ.1 0 42) (nwE e)) → Q .null μ') : Call (d + 66) y_M_passesDay [.ref 0] μ Q := by
  have hwf' := hwf
  obtain ⟨w1, w2, w3, w4, w5, w6⟩ := hwf'
  refine b_M_passesDay_0 ?_
  have rok : ∀ h, rowOk (dayF e h (ds0 r)).1 := fun h => dayF_ok hwf hok h
  refine loopN (G := fun h s => AA (Call (d + 65)) y_M_passesDay Q 2 [.ref 0, .int (nI h), un] [] s) (P := fun h s => dayM e tx r μ h 0 (dayF e h (ds0 r)) s) (N := 24) ?_ ?_ 0 μ (by omega) ?_
  · intro s ⟨f1, t1, rm, sp, sb⟩
    have past24 : ∀ p, p < npE e → past e 24 0 p := fun p hp => Or.inl (by have := (w4 p hp).1.2; omega)
    exact b_M_passesDay_2 ⟨fun _ => hQ s f1 t1 rm (fun p hp => sp p hp (past24 p hp)) (fun q hq hq2 => (sb q hq hq2).1 (past24 q hq)), fun c => absurd (by decide) c⟩
  · intro h s hh hP ih
    have eh := nI_i (n := h) (by omega)
    refine b_M_passesDay_2 ⟨fun c => absurd (le32.mp c) (by rw [eh]; show ¬ (24 : Int) ≤ _; omega), fun _ => ?_⟩
    refine loopN (G := fun p s => AA (Call (d + 65)) y_M_passesDay Q 7 [.ref 0, .int (nI h), .int (nI p)] [] s) (P := fun p s => dayM e tx r μ h p (hourF e h p (dayF e h (ds0 r))) s) (N := npE e) ?_ ?_ 0 s (by omega) hP
    · intro s ⟨f1, t1, rm, sp, sb⟩
      have is1 := hi.ft f1 (by simp) t1
      refine b_M_passesDay_7 ⟨fun _ => ?_, fun z => absurd (by rw [is1.2.2.1]; exact Int32.le_refl _) z⟩
      refine M_ages_ok (by exact is1.2.2.2.2.1) (fun s2 o2 a2 => ?_)
      rw [nI_1]
      refine AA_weak (lv := [.ref 0, .int (nI (h + 1)), un]) ⟨Or.inl rfl, Or.inl rfl, Or.inr ⟨rfl, rfl⟩, trivial⟩ ?_
      have pst : ∀ p, p < npE e → (past e (h + 1) 0 p ↔ past e h (npE e) p) := by
        intro p hp
        unfold past
        constructor
        · intro z; omega
        · intro z; omega
      have fo : frT [14, 15, 16, 17] s s2 := ⟨o2.mono (by simp), fun k _ => by rw [o2.i 0]⟩
      refine ih s2 ⟨f1.trans fo, t1.fr o2 (by simp), ?_, ?_, ?_⟩
      · intro j hj
        rw [a2 j hj, is1.2.2.2.2.2.1, is1.2.2.2.2.2.2.1, rm j hj]
        rfl
      · intro p hp hpa
        rw [o2.i 16, o2.i 17]
        exact sp p hp ((pst p hp).mp hpa)
      · intro q hq hq2
        rw [o2.i 0]
        obtain ⟨g1, g2⟩ := sb q hq hq2
        exact ⟨fun z => g1 ((pst q hq).mp z), fun z => g2 (fun y => z ((pst q hq).mpr y))⟩
    · intro p s hp ⟨f1, t1, rm, sp, sb⟩ ih2
      have is1 := hi.ft f1 (by simp) t1
      have cp : (nI p).toNatClampNeg = p := nI_c (by omega)
      refine b_M_passesDay_7 ⟨fun z => absurd (le32.mp z) (by rw [is1.2.2.1, nI_i (by omega), nI_i (by omega)]; omega), fun _ => ⟨nI_v (by omega) (by omega), ?_⟩⟩
      rw [cp, nI_1, (is1.2.2.2.1 p hp).2.1]
      refine ⟨fun z => ih2 s ⟨f1, t1, ?_, ?_, ?_⟩, fun z => ?_⟩
      · unfold hourF; rw [if_neg z]; exact rm
      · intro p' hp' hpa
        unfold hourF
        rw [if_neg z]
        refine sp p' hp' ?_
        rcases hpa with y | ⟨y1, y2⟩
        · exact Or.inl y
        · refine Or.inr ⟨y1, ?_⟩
          by_cases yy : p' = p
          · exact absurd (Int32.toInt_inj.mp (by rw [← yy, eh]; exact y1)) z
          · omega
      · intro q hq hq2
        obtain ⟨g1, g2⟩ := sb q hq hq2
        have key : past e h (p + 1) q ↔ past e h p q := by
          unfold past
          constructor
          · rintro (y | ⟨y1, y2⟩)
            · exact Or.inl y
            · refine Or.inr ⟨y1, ?_⟩
              by_cases yy : q = p
              · exact absurd (Int32.toInt_inj.mp (by rw [← yy, eh]; exact y1)) z
              · omega
          · rintro (y | ⟨y1, y2⟩)
            · exact Or.inl y
            · exact Or.inr ⟨y1, by omega⟩
        exact ⟨fun z => g1 (key.mp z), fun z => g2 (fun y => z (key.mpr y))⟩
      · have hz : (hoE e p).toInt = h := by rw [z, eh]
        have hrA : rowAt e r p = (hourF e h p (dayF e h (ds0 r))).1 := by
          unfold rowAt
          rw [hz]; rfl
        refine M_turnOf_ok is1 hwf hp rm (hourF_ok hwf (rok h) p) (fun s2 f2 t2 rm2 g16 g17 go gb gn => ih2 s2 ⟨f1.trans f2, t2, ?_, ?_, ?_⟩)
        · unfold hourF; rw [if_pos z]; exact rm2
        · intro p' hp' hpa
          unfold hourF
          rw [if_pos z]
          show _ = upd _ _ _ _ ∧ _ = upd _ _ _ _
          by_cases yy : p' = p
          · rw [yy, upd_s, upd_s]; exact ⟨g16, g17⟩
          · rw [upd_n yy, upd_n yy, (go p' yy).1, (go p' yy).2]
            refine sp p' hp' ?_
            rcases hpa with y | ⟨y1, y2⟩
            · exact Or.inl y
            · exact Or.inr ⟨y1, by omega⟩
        · intro q hq hq2
          have k40 : s.1 0 40 = μ.1 0 40 := f1.2 40 (by omega)
          have k41 : s.1 0 41 = μ.1 0 41 := f1.2 41 (by omega)
          obtain ⟨g1, g2⟩ := sb q hq hq2
          rw [k40, k41] at gb
          rw [k40] at gn
          by_cases yy : q = p
          · subst yy
            refine ⟨fun _ => ?_, fun y => absurd (Or.inr ⟨hz, by omega⟩) y⟩
            rw [gb hq2.symm, g2 (fun y => by rcases y with y | y <;> omega), hrA]
          · have hne : ¬ nI p = μ.1 0 40 := by
              rw [hq2]
              intro y
              have := congrArg Int32.toInt y
              rw [nI_i (by omega), nI_i (by omega)] at this
              omega
            rw [gn hne]
            have key : past e h (p + 1) q ↔ past e h p q := by
              unfold past
              constructor
              · rintro (y | ⟨y1, y2⟩)
                · exact Or.inl y
                · exact Or.inr ⟨y1, by omega⟩
              · rintro (y | ⟨y1, y2⟩)
                · exact Or.inl y
                · exact Or.inr ⟨y1, by omega⟩
            exact ⟨fun z => g1 (key.mp z), fun z => g2 (fun y => z (key.mpr y))⟩
  · have np0 : ∀ p, p < npE e → ¬ past e 0 0 p := by
      intro p hp z
      have := (w4 p hp).1.1
      rcases z with z | z <;> omega
    exact ⟨frT.rf, hi.2.2.2.2.2.2.2.2.1, hrow, fun p hp z => absurd z (np0 p hp), fun q hq _ => ⟨fun z => absurd z (np0 q hq), fun _ => rfl⟩⟩
theorem M_dayNow_ok {d : Nat} {Q : QQ} {μ : Mem} {e : DE} {tx : Nat → Nat → List Int32} {t : Nat} {r : Nat → Int32} (hi : isM e tx t μ) (hwf : wfE e) (hrow : rowM 4 r μ) (hok : rowOk r) (hQ : ∀ μ', frT [14, 15, 16, 17] μ μ' → TxM tx μ' → rowM 14 (dayF e 24 (ds0 r)).1 μ' → (∀ p, p < npE e → μ'.1 16 p = (dayF e 24 (ds0 r)).2.1 p ∧ μ'.1 17 p = (dayF e 24 (ds0 r)).2.2 p) → (∀ q, q < npE e → μ.1 0 40 = nI q → μ'.1 0 42 = bitF e (rowAt e r q) q (μ.1 0 41) (μ.1 0 42) (nwE e)) → Q .null μ') : Call (d + 67) y_M_dayNow [.ref 0] μ Q := by
  refine b_M_dayNow_0 (M_takes_ok (fun s o1 o2 => ?_))
  have t1 : TxM tx s := (hi.2.2.2.2.2.2.2.2.1).fr o1 (by simp)
  have f1 : frT [14, 15, 16, 17] μ s := ⟨o1.mono (by simp), fun k _ => by rw [o1.i 0]⟩
  refine M_passesDay_ok (hi.ft f1 (by simp) t1) hwf (r := r) (fun j hj => by rw [o2 j hj]; exact hrow j hj) hok (fun s2 f2 t2 rm sp sb => hQ s2 (f1.trans f2) t2 rm sp ?_)
  rw [o1.i 0] at sb
  exact sb
/-! ===== what a day gave ===== -/
def goodF (e : DE) (s : DS) (p : Nat) : Int32 := if s.2.1 p = -1 then 0 else clampF (evF (cE e 1) (envF 0 (hoE e p) 0 (sizeF (lsE e (s.2.1 p).toNatClampNeg)) (puE e p) (nI (npE e)))) 0 999 - s.2.2 p
def sayF (s : DS) : Nat → Int32
  | 0 => 0
  | p + 1 => sayF s p + (if s.2.1 p = -1 then 0 else 1)
/-- what is said is a word -/
def saidOk (e : DE) (s : DS) : Prop := ∀ p, s.2.1 p = -1 ∨ ∃ w, w < nwE e ∧ s.2.1 p = nI w
theorem turnF_said {e : DE} {p : Nat} {s : DS} (h : saidOk e s) : saidOk e (turnF e p s) := by
  intro q
  show upd s.2.1 p _ q = -1 ∨ ∃ w, w < nwE e ∧ upd s.2.1 p _ q = nI w
  by_cases z : q = p
  · rw [z, upd_s]
    rcases pick_lt (e := e) (r := s.1) (p := p) (nwE e) with ⟨q1, _⟩ | ⟨w, q1, q2, q3⟩
    · exact Or.inl q1
    · exact Or.inr ⟨w, q1, q2⟩
  · rw [upd_n z]
    exact h q
theorem hourF_said {e : DE} {h : Nat} {s : DS} (hs : saidOk e s) : ∀ p, saidOk e (hourF e h p s)
  | 0 => hs
  | p + 1 => by
    unfold hourF
    split
    · exact turnF_said (hourF_said hs p)
    · exact hourF_said hs p
theorem dayF_said {e : DE} {r : Nat → Int32} : ∀ h, saidOk e (dayF e h (ds0 r))
  | 0 => fun _ => Or.inl rfl
  | h + 1 => hourF_said (dayF_said h) _
theorem M_goodOf_ok {d : Nat} {Q : QQ} {μ : Mem} {e : DE} {tx : Nat → Nat → List Int32} {t p : Nat} {s : DS} (hi : isM e tx t μ) (hwf : wfE e) (hp : p < npE e) (hs : saidOk e s) (h16 : μ.1 16 p = s.2.1 p) (h17 : μ.1 17 p = s.2.2 p) (hQ : ∀ μ', frA [] μ μ' → TxM tx μ' → Q (.int (goodF e s p)) μ') : Call (d + 63) y_M_goodOf [.ref 0, .int (nI p)] μ Q := by
  have h5 := hwf.2.2.1
  have h10 := hwf.1
  have cp : (nI p).toNatClampNeg = p := nI_c (by omega)
  have vp : vp_in (nI p) 5 := nI_v (by omega) (by omega)
  refine b_M_goodOf_0 ⟨vp, ?_⟩
  rw [cp, h16]
  refine ⟨fun z => ⟨vp, ?_⟩, fun z => ?_⟩
  · rcases hs p with q | ⟨w, q1, q2⟩
    · exact absurd q z
    · rw [q2]
      refine M_says_e (a := 1) hi hwf (by omega) hp q1 (fun s1 f1 t1 => ⟨_, rfl, M_within_ok ⟨_, rfl, vp, ?_⟩⟩)
      rw [f1.i 17, h17]
      refine Qi (hQ s1 f1 t1) ?_
      unfold goodF
      rw [if_neg z, q2, nI_c (by omega)]
  · refine Qi (hQ μ frA.rf hi.2.2.2.2.2.2.2.2.1) ?_
    unfold goodF
    rw [if_pos z]
theorem M_allGood_ok {d : Nat} {Q : QQ} {μ : Mem} {e : DE} {tx : Nat → Nat → List Int32} {t : Nat} {s : DS} (hi : isM e tx t μ) (hwf : wfE e) (hs : saidOk e s) (hsp : ∀ p, p < npE e → μ.1 16 p = s.2.1 p ∧ μ.1 17 p = s.2.2 p) (hQ : ∀ μ', frA [] μ μ' → TxM tx μ' → Q (.int (sum8 (goodF e s) (npE e))) μ') : Call (d + 64) y_M_allGood [.ref 0] μ Q := by
  have h5 := hwf.2.2.1
  refine b_M_allGood_0 ?_
  refine loopN (G := fun i t => AA (Call (d + 63)) y_M_allGood Q 4 [.ref 0, .int t.1, .int (nI i)] [] t.2) (P := fun i t => t.1 = sum8 (goodF e s) i ∧ frA [] μ t.2 ∧ TxM tx t.2) (N := npE e) ?_ ?_ 0 ((0 : Int32), μ) (by omega) ⟨rfl, frA.rf, hi.2.2.2.2.2.2.2.2.1⟩
  · intro ⟨v, ν⟩ ⟨h1, h2, h3⟩
    dsimp only at h1 h2 h3 ⊢
    rw [h1]
    exact b_M_allGood_4 ⟨fun _ => hQ ν h2 h3, fun z => absurd (by rw [h2.2 14 (by omega), hi.2.2.1]; exact Int32.le_refl _) z⟩
  · intro i ⟨v, ν⟩ hi2 ⟨h1, h2, h3⟩ ih
    dsimp only at h1 h2 h3 ih ⊢
    refine b_M_allGood_4 ⟨fun z => absurd (le32.mp z) (by rw [h2.2 14 (by omega), hi.2.2.1, nI_i (by omega), nI_i (by omega)]; omega), fun _ => ?_⟩
    rw [nI_1]
    refine M_goodOf_ok (s := s) (hi.fr h2 (by simp) h3) hwf hi2 hs (by rw [h2.i 16]; exact (hsp i hi2).1) (by rw [h2.i 17]; exact (hsp i hi2).2) (fun ν2 f2 t2 => ⟨_, rfl, ih (_, ν2) ⟨?_, h2.trans f2, t2⟩⟩)
    show v + _ = sum8 _ i + _
    rw [h1]
theorem M_saying_ok {d : Nat} {Q : QQ} {μ : Mem} {n : Nat} {s : DS} (hn : n ≤ 5) (h14 : μ.1 0 14 = nI n) (hsp : ∀ p, p < n → μ.1 16 p = s.2.1 p) (hQ : Q (.int (sayF s n)) μ) : Call (d + 1) y_M_saying [.ref 0] μ Q := by
  refine b_M_saying_0 ?_
  refine loopN (G := fun i t => AA (Call d) y_M_saying Q 4 [.ref 0, .int t, .int (nI i)] [] μ) (P := fun i t => t = sayF s i) (N := n) ?_ ?_ 0 (0 : Int32) (by omega) rfl
  · intro v h1
    rw [h1]
    exact b_M_saying_4 ⟨fun _ => hQ, fun z => absurd (by rw [h14]; exact Int32.le_refl _) z⟩
  · intro i v hi2 h1 ih
    refine b_M_saying_4 ⟨fun z => absurd (le32.mp z) (by rw [h14, nI_i (by omega), nI_i (by omega)]; omega), fun _ => ⟨nI_v (by omega) (by omega), ?_⟩⟩
    rw [nI_1, nI_c (by omega), hsp i hi2]
    refine ⟨fun z => ih _ ?_, fun z => ih _ ?_⟩
    · show _ = sayF s i + _
      rw [h1, if_neg z]
    · show _ = sayF s i + _
      rw [h1, if_pos z]
