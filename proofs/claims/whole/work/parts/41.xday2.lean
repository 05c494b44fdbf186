/-! ===== a day in the class: turns and hours ===== -/
theorem goodF_cg {e : DE} {s s' : DS} {p : Nat} (h1 : s'.2.1 p = s.2.1 p) (h2 : s'.2.2 p = s.2.2 p) : goodF e s' p = goodF e s p := by
  unfold goodF
  rw [h1, h2]
theorem Day_takeTurn_ok {d : Nat} {Q : QQ} {μ : Mem} {e : DE} {tx : Nat → Nat → List Int32} {t p : Nat} {s : DS} (hi : isX e tx t μ) (hwf : wfE e) (hp : p < npE e) (hrow : rowM 45 s.1 μ) (hok : rowOk s.1) (hQ : ∀ μ', Only [42, 43, 45, 47, 48, 49] μ μ' → rowM 45 (turnF e p s).1 μ' → μ'.1 47 p = (turnF e p s).2.1 p → μ'.1 48 p = (turnF e p s).2.2 p → μ'.1 49 p = goodF e (turnF e p s) p → (∀ j, j ≠ p → μ'.1 47 j = μ.1 47 j ∧ μ'.1 48 j = μ.1 48 j ∧ μ'.1 49 j = μ.1 49 j) → Q .null μ') : Call (d + 4) y_Day_takeTurn [.ref 44, .int (nI p)] μ Q := by
  have hwf' := hwf
  obtain ⟨w1, w2, w3, w4, w5, w6⟩ := hwf'
  obtain ⟨⟨a1, a2⟩, a3, a4⟩ := w4 p hp
  have cp : (nI p).toNatClampNeg = p := nI_c (by omega)
  have vp : vp_in (nI p) 5 := nI_v (by omega) (by omega)
  have e1p : (puE e p + 1).toInt = (puE e p).toInt + 1 := add32 (by show _ ≤ _ + (1 : Int); omega) (by show _ + (1 : Int) < _; omega)
  refine b_Day_takeTurn_0 ⟨vp, vp, ?_⟩
  rw [cp, (hi.2.2.2.1 p hp).2.1, (hi.2.2.2.1 p hp).2.2]
  refine loopN (G := fun w ν => AA (Call (d + 3)) y_Day_takeTurn Q 19 [.ref 44, .int (nI p), .int (hoE e p), .int (puE e p), .int (pickF e s.1 p w).1, .int (if (pickF e s.1 p w).1 = -1 then puE e p + 1 else (pickF e s.1 p w).2), .int (nI w), un] [] ν) (P := fun w ν => Only [42, 43] μ ν) (N := nwE e) ?_ ?_ 0 μ (by omega) Only.rf
  · intro ν o
    have is1 := hi.fr w1 o (by simp)
    refine b_Day_takeTurn_19 ⟨fun _ => ⟨vp, fun μ1 e1 => ⟨vp, fun μ2 e2 => ⟨vp, fun μ3 e3 => ⟨fun z => ⟨vp, fun μ4 e4 => ?_⟩, fun z => ?_⟩⟩⟩⟩, fun z => absurd (by rw [is1.1]; exact Int32.le_refl _) z⟩
    · rw [cp] at e1 e2 e3 e4
      rcases pick_lt (e := e) (r := s.1) (p := p) (nwE e) with ⟨q1, _⟩ | ⟨w, q1, q2, q3, q4⟩
      · exact absurd q1 z
      · rw [if_neg z] at e4 ⊢
        have o4 : Only [47, 48, 49] ν μ4 := by
          rw [e4, e3, e2, e1]
          exact (((Only.w).trans Only.w).trans Only.w).trans Only.w
        have is4 := is1.fr w1 o4 (by simp)
        have cw : (nI w).toNatClampNeg = w := nI_c (by omega)
        rw [q2, cw, (is4.2.1 w q1).2.1, is4.2.2.1]
        refine ⟨nI_v (by omega) (by omega), Texts_worth_ok (by exact is4.2.2.2.2.2.2.2.1) is4.2.2.2.2.2.2.2.2.1 (fun μ5 o5 => ⟨_, rfl, vp, fun μ7 e7 => ?_⟩)⟩
        rw [cp] at e7
        have o7 : Only [42, 43, 47, 48, 49] μ4 μ7 := by rw [e7]; exact (o5.mono (by simp)).trans Only.w
        have is7 := is4.fr w1 o7 (by simp)
        have r7 : rowM 45 s.1 μ7 := fun j hj => by rw [o7.i 45, o4.i 45, o.i 45]; exact hrow j hj
        have h6 : (letsF (lsE e w)).length ≤ 6 := by rw [lets_len]; exact digs_le 6 _ (by have := (w2 w q1).1; have := (w2 w q1).2.1; omega)
        refine Words_spend_d (by omega) (w2 w q1).2.2 h6 (is7.2.1 w q1).2.1 (is7.2.1 w q1).2.2 r7 hok (fun μ8 o8 r8 => ?_)
        have h47 : μ8.1 47 p = (pickF e s.1 p (nwE e)).1 := by
          rw [o8.i 47, e7, wI_n (by decide), o5.i 47, e4, wI_n (by decide), e3, wI_n (by decide), e2, wI_n (by decide), e1, wI_s, upd_s]
        have h48 : μ8.1 48 p = (pickF e s.1 p (nwE e)).2 := by
          rw [o8.i 48, e7, wI_n (by decide), o5.i 48, e4, wI_s, upd_s]
        refine hQ μ8 ?_ ?_ ?_ ?_ ?_ ?_
        · exact (((o.mono (by simp)).trans (o4.mono (by simp))).trans (o7.mono (by simp))).trans (o8.mono (by simp))
        · unfold turnF
          show rowM 45 (if _ then _ else _) _
          rw [if_neg z, q2, cw]
          exact r8
        · rw [h47]
          unfold turnF
          exact upd_s.symm
        · rw [h48]
          unfold turnF
          exact upd_s.symm
        · have g1 : (turnF e p s).2.1 p = nI w := by unfold turnF; exact upd_s.trans q2
          have g2 : (turnF e p s).2.2 p = (pickF e s.1 p (nwE e)).2 := by unfold turnF; exact upd_s
          unfold goodF
          rw [g1, g2, if_neg (nI_ne (by omega)), cw, o8.i 49, e7, wI_s, upd_s, is4.2.2.2.2.2.2.2.2.2]
        · intro j hj
          rw [o8.i 47, o8.i 48, o8.i 49, e7, wI_n (by decide), wI_n (by decide), wI_s, upd_n hj, o5.i 47, o5.i 48, o5.i 49, e4, wI_n (by decide), wI_s, upd_n hj, wI_n (by decide), e3, wI_n (by decide), wI_n (by decide), wI_s, upd_n hj, e2, wI_n (by decide), wI_s, upd_n hj, wI_n (by decide), e1, wI_s, upd_n hj, wI_n (by decide), wI_n (by decide), o.i 47, o.i 48, o.i 49]
          exact ⟨rfl, rfl, rfl⟩
    · rw [cp] at e1 e2 e3
      rcases pick_lt (e := e) (r := s.1) (p := p) (nwE e) with ⟨q1, q2⟩ | ⟨w, q1, q2, q3, q4⟩
      · have o3 : Only [47, 48, 49] ν μ3 := by
          rw [e3, e2, e1]
          exact ((Only.w).trans Only.w).trans Only.w
        refine hQ μ3 ?_ ?_ ?_ ?_ ?_ ?_
        · exact (o.mono (by simp)).trans (o3.mono (by simp))
        · unfold turnF
          show rowM 45 (if _ then _ else _) _
          rw [if_pos z]
          exact fun j hj => by rw [o3.i 45, o.i 45]; exact hrow j hj
        · unfold turnF
          show _ = upd _ _ _ _
          rw [upd_s, e3, wI_n (by decide), e2, wI_n (by decide), e1, wI_s, upd_s]
        · unfold turnF
          show _ = upd _ _ _ _
          rw [upd_s, e3, wI_n (by decide), e2, wI_s, upd_s, q2]
        · have g1 : (turnF e p s).2.1 p = -1 := by unfold turnF; exact upd_s.trans q1
          unfold goodF
          rw [g1, if_pos rfl, e3, wI_s, upd_s]
        · intro j hj
          rw [e3, wI_n (by decide), wI_n (by decide), wI_s, upd_n hj, e2, wI_n (by decide), wI_s, upd_n hj, wI_n (by decide), e1, wI_s, upd_n hj, wI_n (by decide), wI_n (by decide), o.i 47, o.i 48, o.i 49]
          exact ⟨rfl, rfl, rfl⟩
      · exact absurd z (by rw [q2]; exact nI_ne (by omega))
  · intro w ν hw o ih
    have is1 := hi.fr w1 o (by simp)
    have cw : (nI w).toNatClampNeg = w := nI_c (by omega)
    refine b_Day_takeTurn_19 ⟨fun z => absurd (le32.mp z) (by rw [is1.1, nI_i (by omega), nI_i (by omega)]; omega), fun _ => ?_⟩
    rw [cw, cp, (is1.2.1 w hw).1, (is1.2.2.2.1 p hp).1, nI_1]
    refine ⟨nI_v (by omega) (by omega), vp, fun z => ?_, fun z => ?_⟩
    · refine Day_costOf_ok is1 hwf hw (r := s.1) (fun j hj => by rw [o.i 45]; exact hrow j hj) hok (fun ν2 o2 => ⟨_, rfl, ?_⟩)
      have is2 := is1.fr w1 o2 (by simp)
      have skip : (¬ (thE e w = waE e p ∧ coF e s.1 w (hoE e p) ≤ puE e p ∧ ((pickF e s.1 p w).1 = -1 ∨ ¬ (pickF e s.1 p w).2 ≤ coF e s.1 w (hoE e p)) ∧ mayF e p w)) → ∀ ν3, Only [42, 43] μ ν3 → AA (Call (d + 3)) y_Day_takeTurn Q 19 [.ref 44, .int (nI p), .int (hoE e p), .int (puE e p), .int (pickF e s.1 p w).1, .int (if (pickF e s.1 p w).1 = -1 then puE e p + 1 else (pickF e s.1 p w).2), .int (nI (w + 1)), .int (coF e s.1 w (hoE e p))] [] ν3 := by
        intro hno ν3 o3
        have g := ih ν3 o3
        rw [pick_n hno] at g
        refine AA_weak ?_ g; exact ⟨Or.inl rfl, Or.inl rfl, Or.inl rfl, Or.inl rfl, Or.inl rfl, Or.inl rfl, Or.inl rfl, Or.inr ⟨rfl, rfl⟩, trivial⟩
      refine ⟨fun y => skip (fun x => ?_) ν2 (o.trans o2), fun y => ⟨nI_v (by omega) (by omega), ?_⟩⟩
      · have y := le32.mp y
        have x1 := le32.mp x.2.1
        rcases pick_lt (e := e) (r := s.1) (p := p) w with ⟨q1, _⟩ | ⟨w', q1, q2, q3, q4⟩
        · rw [if_pos q1, e1p] at y
          omega
        · rw [if_neg (by rw [q2]; exact nI_ne (by omega))] at y
          rcases x.2.2.1 with x2 | x2
          · exact absurd x2 (by rw [q2]; exact nI_ne (by omega))
          · exact x2 (le32.mpr y)
      · have y := Int.not_le.mp (fun q => y (le32.mpr q))
        have c1 : coF e s.1 w (hoE e p) ≤ puE e p ∧ ((pickF e s.1 p w).1 = -1 ∨ ¬ (pickF e s.1 p w).2 ≤ coF e s.1 w (hoE e p)) := by
          rcases pick_lt (e := e) (r := s.1) (p := p) w with ⟨q1, _⟩ | ⟨w', q1, q2, q3, q4⟩
          · rw [if_pos q1, e1p] at y
            exact ⟨le32.mpr (by omega), Or.inl q1⟩
          · rw [if_neg (by rw [q2]; exact nI_ne (by omega))] at y
            have q4 := le32.mp q4
            exact ⟨le32.mpr (by omega), Or.inr (fun q => absurd (le32.mp q) (by omega))⟩
        rw [(is2.2.1 w hw).2.1, is2.2.2.1]
        refine Texts_may_ok (by exact is2.2.2.2.2.2.2.2.1) is2.2.2.2.2.2.2.2.2.1 (fun ν3 o3 => ⟨_, rfl, b_z (fun c => ?_) (fun c => ?_)⟩)
        · refine skip (fun x => c ?_) ν3 ((o.trans o2).trans o3)
          have := x.2.2.2
          unfold mayF at this
          rw [is2.2.2.2.2.2.2.2.2.2] at this
          exact this
        · have hm : mayF e p w := by
            unfold mayF
            rw [is2.2.2.2.2.2.2.2.2.2]
            exact c
          have g := ih ν3 ((o.trans o2).trans o3)
          rw [pick_y z c1.1 c1.2 hm, if_neg (nI_ne (w := w) (by omega))] at g
          refine AA_weak ?_ g; exact ⟨Or.inl rfl, Or.inl rfl, Or.inl rfl, Or.inl rfl, Or.inl rfl, Or.inl rfl, Or.inl rfl, Or.inr ⟨rfl, rfl⟩, trivial⟩
    · have g := ih ν o
      rw [pick_n (fun x => z x.1)] at g
      exact g
/-- the class's memory within a day -/
def dayX (e : DE) (μ : Mem) (h i : Nat) (s : DS) (ν : Mem) : Prop := Only [42, 43, 45, 47, 48, 49] μ ν ∧ rowM 45 s.1 ν ∧ ∀ p, p < npE e → past e h i p → ν.1 47 p = s.2.1 p ∧ ν.1 48 p = s.2.2 p ∧ ν.1 49 p = goodF e s p
theorem past_n {e : DE} {h p p' : Nat} (hz : ¬ hoE e p = nI h) (eh : (nI h).toInt = h) (hpa : past e h (p + 1) p') : past e h p p' := by
  rcases hpa with y | ⟨y1, y2⟩
  · exact Or.inl y
  · refine Or.inr ⟨y1, ?_⟩
    by_cases yy : p' = p
    · exact absurd (Int32.toInt_inj.mp (by rw [← yy, eh]; exact y1)) hz
    · omega
theorem Day_liveTo_ok {d : Nat} {Q : QQ} {μ : Mem} {e : DE} {tx : Nat → Nat → List Int32} {t : Nat} {r : Nat → Int32} {A : Int32} (hi : isX e tx t μ) (hwf : wfE e) (hrow : rowM 45 r μ) (hok : rowOk r) (hx : (∀ q, q < npE e → ¬ A = nI q) → ∀ μ', dayX e μ 24 0 (dayF e 24 (ds0 r)) μ' → Q .null μ') (hq : ∀ q, q < npE e → A = nI q → ∀ μ', dayX e μ (hoE e q).toInt.toNat q (hourF e (hoE e q).toInt.toNat q (dayF e (hoE e q).toInt.toNat (ds0 r))) μ' → Q .null μ') : Call (d + 5) y_Day_liveTo [.ref 44, .int A] μ Q := by
  have hwf' := hwf
  obtain ⟨w1, w2, w3, w4, w5, w6⟩ := hwf'
  have rok : ∀ h, rowOk (dayF e h (ds0 r)).1 := fun h => dayF_ok hwf hok h
  refine b_Day_liveTo_0 ?_
  refine loopN (G := fun h ν => AA (Call (d + 4)) y_Day_liveTo Q 2 [.ref 44, .int A, .int (nI h), un] [] ν) (P := fun h ν => dayX e μ h 0 (dayF e h (ds0 r)) ν ∧ ∀ q, q < npE e → A = nI q → ¬ past e h 0 q) (N := 24) ?_ ?_ 0 μ (by omega) ?_
  · intro ν ⟨h1, h2⟩
    refine b_Day_liveTo_2 ⟨fun _ => hx (fun q hq hA => h2 q hq hA (Or.inl ?_)) ν h1, fun c => absurd (by decide) c⟩
    have := (w4 q hq).1.2
    omega
  · intro h ν hh hP ih
    have eh := nI_i (n := h) (by omega)
    refine b_Day_liveTo_2 ⟨fun c => absurd (le32.mp c) (by rw [eh]; show ¬ (24 : Int) ≤ _; omega), fun _ => ?_⟩
    refine loopN (G := fun p ν => AA (Call (d + 4)) y_Day_liveTo Q 7 [.ref 44, .int A, .int (nI h), .int (nI p)] [] ν) (P := fun p ν => dayX e μ h p (hourF e h p (dayF e h (ds0 r))) ν ∧ ∀ q, q < npE e → A = nI q → ¬ past e h p q) (N := npE e) ?_ ?_ 0 ν (by omega) hP
    · intro ν ⟨⟨o1, rm, sp⟩, hA⟩
      have is1 := hi.fr w1 o1 (by simp)
      refine b_Day_liveTo_7 ⟨fun _ => ?_, fun z => absurd (by rw [is1.2.2.1]; exact Int32.le_refl _) z⟩
      refine Laws_age_d (by exact is1.2.2.2.2.1) (by rw [is1.2.2.2.2.2.1]; exact w5) rm (hourF_ok hwf (rok h) _) (fun ν2 o2 a2 => ?_)
      rw [nI_1]
      rw [is1.2.2.2.2.2.1, is1.2.2.2.2.2.2.1] at a2
      refine AA_weak (lv := [.ref 44, .int A, .int (nI (h + 1)), un]) ⟨Or.inl rfl, Or.inl rfl, Or.inl rfl, Or.inr ⟨rfl, rfl⟩, trivial⟩ (ih ν2 ⟨⟨o1.trans (o2.mono (by simp)), a2, fun p hp hpa => ?_⟩, fun q hq2 hA2 z => hA q hq2 hA2 ?_⟩)
      · rw [o2.i 47, o2.i 48, o2.i 49]
        have g := sp p hp (by unfold past at hpa ⊢; omega)
        rw [goodF_cg (s := hourF e h (npE e) (dayF e h (ds0 r)))]
        · exact g
        · rfl
        · rfl
      · unfold past at z ⊢; omega
    · intro p ν hp ⟨⟨o1, rm, sp⟩, hA⟩ ih2
      have is1 := hi.fr w1 o1 (by simp)
      have cp : (nI p).toNatClampNeg = p := nI_c (by omega)
      refine b_Day_liveTo_7 ⟨fun z => absurd (le32.mp z) (by rw [is1.2.2.1, nI_i (by omega), nI_i (by omega)]; omega), fun _ => ⟨nI_v (by omega) (by omega), ?_⟩⟩
      rw [cp, nI_1, (is1.2.2.2.1 p hp).2.1]
      refine ⟨fun z => ⟨fun y => ?_, fun y => ?_⟩, fun z => ih2 ν ⟨⟨o1, ?_, fun p' hp' hpa => ?_⟩, fun q hq2 hA2 y => hA q hq2 hA2 (past_n z eh y)⟩⟩
      · have hz : (hoE e p).toInt = h := by rw [z, eh]
        refine Day_takeTurn_ok is1 hwf hp rm (hourF_ok hwf (rok h) p) (fun ν2 o2 r2 g1 g2 g3 go => ih2 ν2 ⟨⟨o1.trans o2, ?_, fun p' hp' hpa => ?_⟩, fun q hq2 hA2 x => hA q hq2 hA2 ?_⟩)
        · unfold hourF; rw [if_pos z]; exact r2
        · unfold hourF
          rw [if_pos z]
          by_cases yy : p' = p
          · rw [yy]; exact ⟨g1, g2, g3⟩
          · obtain ⟨k1, k2, k3⟩ := go p' yy
            obtain ⟨m1, m2, m3⟩ := sp p' hp' (by unfold past at hpa ⊢; omega)
            rw [k1, k2, k3, m1, m2, m3]
            have u1 : (turnF e p (hourF e h p (dayF e h (ds0 r)))).2.1 p' = (hourF e h p (dayF e h (ds0 r))).2.1 p' := by unfold turnF; exact upd_n yy
            have u2 : (turnF e p (hourF e h p (dayF e h (ds0 r)))).2.2 p' = (hourF e h p (dayF e h (ds0 r))).2.2 p' := by unfold turnF; exact upd_n yy
            exact ⟨u1.symm, u2.symm, (goodF_cg u1 u2).symm⟩
        · have hne : q ≠ p := fun x => y (by rw [hA2, x])
          unfold past at x ⊢
          omega
      · have hz : (hoE e p).toInt = h := by rw [z, eh]
        refine hq p hp y.symm ν ?_
        rw [hz]
        exact ⟨o1, rm, sp⟩
      · unfold hourF; rw [if_neg z]; exact rm
      · unfold hourF
        rw [if_neg z]
        exact sp p' hp' (past_n z eh hpa)
  · have np0 : ∀ p, p < npE e → ¬ past e 0 0 p := by
      intro p hp z
      have := (w4 p hp).1.1
      rcases z with z | z <;> omega
    exact ⟨⟨Only.rf, hrow, fun p hp z => absurd z (np0 p hp)⟩, fun q hq _ => np0 q hq⟩
theorem past24 {e : DE} (hwf : wfE e) {p : Nat} (hp : p < npE e) : past e 24 0 p := Or.inl (by have := (hwf.2.2.2.1 p hp).1.2; omega)
theorem Day_live_ok {d : Nat} {Q : QQ} {μ : Mem} {e : DE} {tx : Nat → Nat → List Int32} {t : Nat} {r : Nat → Int32} (hi : isX e tx t μ) (hwf : wfE e) (hrow : rowM 45 r μ) (hok : rowOk r) (hQ : ∀ μ', dayX e μ 24 0 (dayF e 24 (ds0 r)) μ' → Q .null μ') : Call (d + 6) y_Day_live [.ref 44] μ Q := by
  have h5 := hwf.2.2.1
  exact b_Day_live_0 (Day_liveTo_ok hi hwf hrow hok (fun _ μ' h => hQ μ' h) (fun q hq z => absurd z.symm (nI_ne (by omega))))
/-! ===== dawn, and what a day gave ===== -/
theorem Day_dawn_ok {d : Nat} {Q : QQ} {μ : Mem} (hQ : ∀ μ', Only [44, 45, 46] μ μ' → (∀ j, j < 8 → μ'.1 45 j = μ.1 1 j) → (∀ j, j < 5 → μ'.1 46 j = μ.1 18 j) → μ'.1 44 = upd (μ.1 44) 7 (μ.1 20 3) → Q .null μ') : Call (d + 1) y_Day_dawn [.ref 44] μ Q := by
  refine b_Day_dawn_0 ⟨by decide, fun μ1 e1 => ⟨by decide, fun μ2 e2 μ3 e3 => hQ μ3 ?_ ?_ ?_ ?_⟩⟩
  · rw [e3, e2, e1]
    exact ((Only.w).trans Only.w).trans Only.w
  · intro j hj
    rw [e3, wI_n (by decide), e2, wI_n (by decide), e1, wI_s]
    unfold va_cpy
    rw [if_pos (by show 0 ≤ j ∧ j < 0 + 8; omega)]
    exact congrArg _ (by show 0 + (j - 0) = j; omega)
  · intro j hj
    rw [e3, wI_n (by decide), e2, wI_s, e1, wI_n (by decide)]
    unfold va_cpy
    rw [if_pos (by show 0 ≤ j ∧ j < 0 + 5; omega)]
    exact congrArg _ (by show 0 + (j - 0) = j; omega)
  · rw [e3, wI_s, e2, wI_n (by decide), e1, wI_n (by decide), wI_n (by decide), wI_n (by decide)]
theorem Day_allGood_ok {d : Nat} {Q : QQ} {μ : Mem} {n : Nat} {f : Nat → Int32} (hn : n ≤ 5) (h16 : μ.1 16 3 = nI n) (hf : ∀ p, p < n → μ.1 49 p = f p) (hQ : Q (.int (sum8 f n)) μ) : Call (d + 1) y_Day_allGood [.ref 44] μ Q := by
  refine b_Day_allGood_0 ?_
  refine loopN (G := fun i t => AA (Call d) y_Day_allGood Q 4 [.ref 44, .int t, .int (nI i)] [] μ) (P := fun i t => t = sum8 f i) (N := n) ?_ ?_ 0 (0 : Int32) (by omega) rfl
  · intro v h1
    rw [h1]
    exact b_Day_allGood_4 ⟨fun _ => hQ, fun z => absurd (by rw [h16]; exact Int32.le_refl _) z⟩
  · intro i v hi2 h1 ih
    refine b_Day_allGood_4 ⟨fun z => absurd (le32.mp z) (by rw [h16, nI_i (by omega), nI_i (by omega)]; omega), fun _ => ⟨nI_v (by omega) (by omega), ?_⟩⟩
    rw [nI_1, nI_c (by omega), hf i hi2]
    exact ih _ (by rw [h1]; rfl)
theorem Day_allPaid_ok {d : Nat} {Q : QQ} {μ : Mem} {n : Nat} {f : Nat → Int32} (hn : n ≤ 5) (h16 : μ.1 16 3 = nI n) (hf : ∀ p, p < n → μ.1 48 p = f p) (hQ : Q (.int (sum8 f n)) μ) : Call (d + 1) y_Day_allPaid [.ref 44] μ Q := by
  refine b_Day_allPaid_0 ?_
  refine loopN (G := fun i t => AA (Call d) y_Day_allPaid Q 4 [.ref 44, .int t, .int (nI i)] [] μ) (P := fun i t => t = sum8 f i) (N := n) ?_ ?_ 0 (0 : Int32) (by omega) rfl
  · intro v h1
    rw [h1]
    exact b_Day_allPaid_4 ⟨fun _ => hQ, fun z => absurd (by rw [h16]; exact Int32.le_refl _) z⟩
  · intro i v hi2 h1 ih
    refine b_Day_allPaid_4 ⟨fun z => absurd (le32.mp z) (by rw [h16, nI_i (by omega), nI_i (by omega)]; omega), fun _ => ⟨nI_v (by omega) (by omega), ?_⟩⟩
    rw [nI_1, nI_c (by omega), hf i hi2]
    exact ih _ (by rw [h1]; rfl)
theorem Day_howManySaid_ok {d : Nat} {Q : QQ} {μ : Mem} {n : Nat} {s : DS} (hn : n ≤ 5) (h16 : μ.1 16 3 = nI n) (hf : ∀ p, p < n → μ.1 47 p = s.2.1 p) (hQ : Q (.int (sayF s n)) μ) : Call (d + 1) y_Day_howManySaid [.ref 44] μ Q := by
  refine b_Day_howManySaid_0 ?_
  refine loopN (G := fun i t => AA (Call d) y_Day_howManySaid Q 4 [.ref 44, .int t, .int (nI i)] [] μ) (P := fun i t => t = sayF s i) (N := n) ?_ ?_ 0 (0 : Int32) (by omega) rfl
  · intro v h1
    rw [h1]
    exact b_Day_howManySaid_4 ⟨fun _ => hQ, fun z => absurd (by rw [h16]; exact Int32.le_refl _) z⟩
  · intro i v hi2 h1 ih
    refine b_Day_howManySaid_4 ⟨fun z => absurd (le32.mp z) (by rw [h16, nI_i (by omega), nI_i (by omega)]; omega), fun _ => ⟨nI_v (by omega) (by omega), ?_⟩⟩
    rw [nI_1, nI_c (by omega), hf i hi2]
    refine ⟨fun z => ih _ ?_, fun z => ih _ ?_⟩
    all_goals
      show _ = sayF s i + _
      first
        | rw [if_pos z, Int32.add_zero, h1]
        | rw [if_neg z, h1]
