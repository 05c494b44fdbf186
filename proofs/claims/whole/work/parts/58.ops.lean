/-! ===== both think alike ===== -/
theorem op_costs {a b : Int32} : OpR y_X_costs y_M_costs [.int a, .int b] := by
  intro tx x m d h
  obtain ⟨iM, iX, wf, rM, rX, ok⟩ := h.day
  refine X_costs_ok (d := d + 76) iX wf rX ok (fun c => ?_) (fun c x' ox => ?_)
  · exact M_costs_ok (d := d + 16) iM wf rM ok (fun _ => ⟨rfl, tx, h⟩) (fun c' => absurd c' c)
  · exact M_costs_ok (d := d + 16) iM wf rM ok (fun c' => absurd c c') (fun _ m' f t => ⟨rfl, tx, h.think ox f t⟩)
theorem op_cheapest {a b c : Int32} : OpR y_X_cheapest y_M_cheapest [.int a, .int b, .int c] := by
  intro tx x m d h
  obtain ⟨iM, iX, wf, rM, rX, ok⟩ := h.day
  refine X_cheapest_ok (d := d + 76) iX wf rX ok (fun c => ?_) (fun c x' ox => ?_)
  · exact M_cheapest_ok (d := d + 15) iM wf rM ok (fun _ => ⟨rfl, tx, h⟩) (fun c' => absurd c' c)
  · exact M_cheapest_ok (d := d + 15) iM wf rM ok (fun c' => absurd c c') (fun _ m' f t => ⟨rfl, tx, h.think ox f t⟩)
theorem op_day {a b : Int32} : OpR y_X_day y_M_day [.int a, .int b] := by
  intro tx x m d h
  obtain ⟨iM, iX, wf, rM, rX, ok⟩ := h.day
  refine X_day_ok (d := d + 73) iX wf rX ok (fun c => ?_) (fun c x' ox => ?_)
  · exact M_day_ok (d := d + 12) iM wf rM ok (fun _ => ⟨rfl, tx, h⟩) (fun c' => absurd c' c)
  · exact M_day_ok (d := d + 12) iM wf rM ok (fun c' => absurd c c') (fun _ m' f t => ⟨rfl, tx, h.think ox f t⟩)
theorem op_all {a : Int32} : OpR y_X_all y_M_all [.int a] := by
  intro tx x m d h
  obtain ⟨iM, iX, wf, rM, rX, ok⟩ := h.day
  refine X_all_ok (d := d + 73) iX wf rX ok (fun c => ?_) (fun c x' ox => ?_)
  · exact M_all_ok (d := d + 12) iM wf rM ok (fun _ => ⟨rfl, tx, h⟩) (fun c' => absurd c' c)
  · exact M_all_ok (d := d + 12) iM wf rM ok (fun c' => absurd c c') (fun _ m' f t => ⟨rfl, tx, h.think ox f t⟩)
theorem op_when {a b : Int32} : OpR y_X_when y_M_when [.int a, .int b] := by
  intro tx x m d h
  obtain ⟨iM, iX, wf, rM, rX, ok⟩ := h.day
  refine X_when_ok (d := d + 73) iX wf rX ok (fun c => ?_) (fun c x' ox => ?_)
  · exact M_when_ok (d := d + 11) iM wf rM ok (fun _ => ⟨rfl, tx, h⟩) (fun c' => absurd c' c)
  · exact M_when_ok (d := d + 11) iM wf rM ok (fun c' => absurd c c') (fun _ m' f t => ⟨rfl, tx, h.think ox f t⟩)
theorem op_burn {a b : Int32} : OpR y_X_burn y_M_burn [.int a, .int b] := by
  intro tx x m d h
  obtain ⟨iM, iX, wf, rM, rX, ok⟩ := h.day
  refine X_burn_ok (d := d + 73) iX wf rX ok (fun c => ?_) (fun c x' ox => ?_)
  · exact M_burn_ok (d := d + 11) iM wf rM ok (fun _ => ⟨rfl, tx, h⟩) (fun c' => absurd c' c)
  · exact M_burn_ok (d := d + 11) iM wf rM ok (fun c' => absurd c c') (fun _ m' f t => ⟨rfl, tx, h.think ox f t⟩)
theorem op_worst {a b : Int32} : OpR y_X_worst y_M_worst [.int a, .int b] := by
  intro tx x m d h
  obtain ⟨iM, iX, wf, rM, rX, ok⟩ := h.day
  refine X_worst_ok (d := d + 73) iX wf rX ok (fun c => ?_) (fun c x' ox => ?_)
  · exact M_worst_ok (d := d + 11) iM wf rM ok (fun _ => ⟨rfl, tx, h⟩) (fun c' => absurd c' c)
  · exact M_worst_ok (d := d + 11) iM wf rM ok (fun c' => absurd c c') (fun _ m' f t => ⟨rfl, tx, h.think ox f t⟩)
theorem op_rest : OpR y_X_rest y_M_rest [] := by
  intro tx x m d h
  obtain ⟨iM, iX, wf, rM, rX, ok⟩ := h.day
  refine X_rest_ok (d := d + 73) iX wf rX ok (fun c x' ox => ?_) (fun c x' ox => ?_)
  · exact M_rest_ok (d := d + 11) iM wf rM ok (fun _ m' f t => ⟨rfl, tx, h.think ox f t⟩) (fun c' => absurd c c')
  · exact M_rest_ok (d := d + 11) iM wf rM ok (fun c' => absurd c' c) (fun _ m' f t => ⟨rfl, tx, h.think ox f t⟩)
theorem op_turns {a : Int32} : OpR y_X_turns y_M_turns [.int a] := by
  intro tx x m d h
  obtain ⟨iM, iX, wf, rM, rX, ok⟩ := h.day
  refine X_turns_ok (d := d + 73) iX wf rX ok (fun c => ?_) (fun c x' ox => ?_)
  · exact M_turns_ok (d := d + 7) iM wf rM ok (fun _ => ⟨rfl, tx, h⟩) (fun c' => absurd c' c)
  · rw [ct_ord (Nat.min_le_right _ _)]
    exact M_turns_ok (d := d + 7) iM wf rM ok (fun c' => absurd c c') (fun _ m' f t => ⟨rfl, tx, h.think ox f t⟩)
theorem bestF_cg {e : DE} {r kf nf kf' nf' : Nat → Int32} : ∀ n, (∀ i, i < n → kf' i = kf i ∧ nf' i = nf i) → bestF e r kf' nf' n = bestF e r kf nf n
  | 0, _ => rfl
  | n + 1, h => by
    have ih := bestF_cg (e := e) (r := r) (kf := kf) (nf := nf) (kf' := kf') (nf' := nf') n (fun i hi => h i (by omega))
    unfold bestF
    rw [ih, (h n (by omega)).1, (h n (by omega)).2]
theorem op_best {a : Int32} : OpR y_X_best y_M_best [.int a] := by
  intro tx x m d h
  obtain ⟨iM, iX, wf, rM, rX, ok⟩ := h.day
  obtain ⟨lM, lX, l6, le⟩ := h.laws
  refine X_best_ok (d := d + 73) iX wf lX rX ok (fun c => ?_) (fun c x' ox => ?_)
  · exact M_best_ok (d := d + 12) iM wf lM rM ok (fun _ => ⟨rfl, tx, h⟩) (fun c' => absurd c' c)
  · rw [bestF_cg (kf := m.1 10) (nf := m.1 11) _ (fun i hi => le i (by omega))]
    exact M_best_ok (d := d + 12) iM wf lM rM ok (fun c' => absurd c c') (fun _ m' f t => ⟨rfl, tx, h.think ox f t⟩)
theorem unlG_cg {s : DS} {f f' : Nat → Int32} : ∀ k i, (∀ p, i ≤ p → p < i + k → f' p = f p) → unlG s f' k i = unlG s f k i
  | 0, _, _ => rfl
  | k + 1, i, h => by
    unfold unlG
    rw [h i (by omega) (by omega), unlG_cg k (i + 1) (fun p a b => h p (by omega) (by omega))]
theorem pb_eq {tx : Nat → Nat → List Int32} {x m : Mem} {a : Int32} (h : R tx x m) : pbX x a = pbM m a ∧ (pbM m a = 0 → ∀ p : Nat, (p : Int) < (m.1 0 14).toInt → x.1 (61 + a.toNatClampNeg) p = m.1 25 (40 * a.toNatClampNeg + p)) := by
  have hS := h.2.2.2.2.2.2.2.1
  have hP := h.2.2.1.1
  unfold pbX pbM
  by_cases q : 0 ≤ a.toInt ∧ a.toInt ≤ 3
  · rw [if_pos q, if_pos q, hP]
    have lt := vin_lt (vin_of (n := 4) q.1 (by omega))
    rcases hS _ lt with ⟨s1, s2⟩ | ⟨s1, s2, s3, s4, s5, s6⟩
    · rw [if_pos s1, if_pos (eq32.mpr s2)]
      exact ⟨rfl, fun z => absurd z (by decide)⟩
    · have n1 : ¬ m.1 23 a.toNatClampNeg = -1 := fun z => by
        have := s3.1
        rw [z] at this
        exact absurd this (by decide)
      rw [s2, if_neg n1, s4, if_neg (show ¬ m.1 22 a.toNatClampNeg = 0 from fun z => s1 (eq32.mp z))]
      refine ⟨rfl, fun z p hp => ?_⟩
      by_cases y : m.1 24 a.toNatClampNeg = m.1 0 14
      · exact s6 p (by rw [y]; exact hp)
      · rw [if_neg y] at z; exact absurd z (by decide)
  · rw [if_neg q, if_neg q]
    exact ⟨rfl, fun z => absurd z (by decide)⟩
theorem op_judge {a : Int32} : OpR y_X_judge y_M_judge [.int a] := by
  intro tx x m d h
  obtain ⟨iM, iX, wf, rM, rX, ok⟩ := h.day
  obtain ⟨pe, pf⟩ := pb_eq (a := a) h
  have h5 := wf.2.2.1
  have np14 : ∀ p : Nat, p < npE (eOf m tx) → (p : Int) < (m.1 0 14).toInt := fun p hp => by have : npE (eOf m tx) = (m.1 0 14).toInt.toNat := rfl; omega
  refine X_judge_ok (d := d + 73) iX wf rX ok (fun c => ?_) (fun c x' ox => ?_)
  · rw [pe] at c ⊢
    exact M_judge_ok (d := d + 11) iM wf rM ok (fun _ => ⟨rfl, tx, h⟩) (fun c' => absurd c' c)
  · rw [pe] at c
    rw [unlG_cg (f := fun p => m.1 25 (40 * a.toNatClampNeg + p)) _ _ (fun p _ hp => pf c p (np14 p (by omega)))]
    exact M_judge_ok (d := d + 11) iM wf rM ok (fun c' => absurd c c') (fun _ m' f t => ⟨rfl, tx, h.think ox f t⟩)
theorem whoF_cg {e : DE} {r kf nf kf' nf' f f' : Nat → Int32} (h5 : npE e ≤ 5) (hf : ∀ p, p < npE e → f' p = f p) : ∀ n, (∀ i, i < n → kf' i = kf i ∧ nf' i = nf i) → whoF e r kf' nf' f' n = whoF e r kf nf f n
  | 0, _ => rfl
  | n + 1, h => by
    have ih := whoF_cg (e := e) (r := r) (kf := kf) (nf := nf) (kf' := kf') (nf' := nf') h5 hf n (fun i hi => h i (by omega))
    unfold whoF
    rw [ih, (h n (by omega)).1, (h n (by omega)).2, unlG_cg (f := f) (f' := f') _ _ (fun p _ hp => hf p (by omega))]
theorem op_whose {a : Int32} : OpR y_X_whose y_M_whose [.int a] := by
  intro tx x m d h
  obtain ⟨iM, iX, wf, rM, rX, ok⟩ := h.day
  obtain ⟨lM, lX, l6, le⟩ := h.laws
  obtain ⟨pe, pf⟩ := pb_eq (a := a) h
  have h5 := wf.2.2.1
  have np14 : ∀ p : Nat, p < npE (eOf m tx) → (p : Int) < (m.1 0 14).toInt := fun p hp => by have : npE (eOf m tx) = (m.1 0 14).toInt.toNat := rfl; omega
  refine X_whose_ok (d := d + 73) iX wf lX rX ok (fun c => ?_) (fun c x' ox => ?_)
  · rw [pe] at c ⊢
    exact M_whose_ok (d := d + 11) iM wf lM rM ok (fun _ => ⟨rfl, tx, h⟩) (fun c' => absurd c' c)
  · rw [pe] at c
    rw [whoF_cg (kf := m.1 10) (nf := m.1 11) (f := fun p => m.1 25 (40 * a.toNatClampNeg + p)) h5 (fun p hp => pf c p (np14 p hp)) _ (fun i hi => le i (by omega))]
    exact M_whose_ok (d := d + 11) iM wf lM rM ok (fun c' => absurd c c') (fun _ m' f t => ⟨rfl, tx, h.think ox f t⟩)
theorem op_fits {a b : Int32} : OpR y_X_fits y_M_fits [.int a, .int b] := by
  intro tx x m d h
  obtain ⟨iM, iX, wf, rM, rX, ok⟩ := h.day
  have h40 := h.2.2.2.2.2.2.2.2.1
  refine X_fits_ok (d := d + 74) iX wf rX ok (fun c => ?_) (fun c x' ox => ?_)
  · exact M_fits_ok (d := d + 12) iM wf h40 rM ok (fun _ => ⟨rfl, tx, h⟩) (fun c' => absurd c' c)
  · exact M_fits_ok (d := d + 12) iM wf h40 rM ok (fun c' => absurd c c') (fun _ m' f t => ⟨rfl, tx, h.think ox f t⟩)
theorem op_drawn {a : Int32} : OpR y_X_drawn y_M_drawn [.int a] := by
  intro tx x m d h
  obtain ⟨iM, iX, wf, rM, rX, ok⟩ := h.day
  exact X_drawn_ok (d := d + 73) iX wf rX (fun x' ox => M_drawn_ok (d := d + 12) iM wf (fun m' f t => ⟨rfl, tx, h.think ox f t⟩))
theorem op_chance {a b c : Int32} : OpR y_X_chance y_M_chance [.int a, .int b, .int c] := by
  intro tx x m d h
  obtain ⟨iM, iX, wf, rM, rX, ok⟩ := h.day
  refine X_chance_ok (d := d + 73) iX wf rX (fun q => ?_) (fun q x' ox => ?_)
  · exact M_chance_ok (d := d + 12) iM wf (fun _ => ⟨rfl, tx, h⟩) (fun c' => absurd c' q)
  · exact M_chance_ok (d := d + 12) iM wf (fun c' => absurd q c') (fun _ m' f t => ⟨rfl, tx, h.think ox f t⟩)
/-! what a thought leaves, and then a change of how often letters were used -/
theorem R.used {tx : Nat → Nat → List Int32} {x x' m m' : Mem} {r : Nat → Int32} (h : R tx x m) (ox : Only [1] x x') (om : Only [4] m m') (hx : rowM 1 r x') (hm : rowM 4 r m') (hr : rowOk r) : R tx x' m' := by
  obtain ⟨hU, hW, hP, hL, hRT, hF, hI, hS, hC⟩ := h
  have xk : ∀ k, k ≠ 1 → x'.1 k = x.1 k := fun k hk => ox.i k (by simp; exact hk)
  have mk : ∀ k, k ≠ 4 → m'.1 k = m.1 k := fun k hk => om.i k (by simp; exact hk)
  have os : ∀ k, m'.1 0 k = m.1 0 k := fun k => by rw [mk 0 (by decide)]
  exact ⟨fun j hj => ⟨by rw [hx j hj, hm j hj], by rw [hm j hj]; exact hr j hj⟩, hW.cg (fun k a b => xk k (by omega)) (os 10) (mk 5 (by omega)) (mk 6 (by omega)), hP.cg (xk 16 (by omega)) (xk 17 (by omega)) (xk 18 (by omega)) (xk 19 (by omega)) (os 14) (mk 7 (by omega)) (mk 8 (by omega)) (mk 9 (by omega)), hL.cg (xk 20 (by omega)) (xk 21 (by omega)) (xk 22 (by omega)) (os 17) (os 18) (mk 10 (by omega)) (mk 11 (by omega)), hRT.cg (fun k a b => xk k (by omega)) (os 3) (os 4) (hRT.2.2.2.2.2.cong (os 3) (mk 1 (by omega)) (mk 2 (by omega)) (mk 13 (by omega)) (om.l 12)), hF.cg (by rw [xk 23 (by omega)]) (xk 24 (by omega)) (os 6) (mk 3 (by omega)), hI.cg (fun k a b => xk k (by omega)) (fun k a b => os k) (os 3) (mk 6 (by omega)) (mk 19 (by omega)) (mk 20 (by omega)) (mk 21 (by omega)), hS.cg (fun k a b => xk k (by omega)) (fun k a b => mk k (by omega)), hC.cg (fun k a => xk k (by omega)) (os 40)⟩
theorem op_write {a b : Int32} : OpR y_X_write y_M_write [.int a, .int b] := by
  intro tx x m d h
  obtain ⟨iM, iX, wf, rM, rX, ok⟩ := h.day
  refine X_write_ok (d := d + 76) iX wf rX ok (fun c => ?_) (fun c x1 x' ox ox1 rx => ?_)
  · exact M_write_ok (d := d + 16) iM wf rM ok (fun _ => ⟨rfl, tx, h⟩) (fun c' => absurd c' c)
  · refine M_write_ok (d := d + 16) iM wf rM ok (fun c' => absurd c c') (fun _ m1 m' f t om rm => ⟨rfl, tx, (h.think ox f t).used ox1 om rx rm (spF_ok ok (lets_lt (wf.2.1 _ ?_).2.2))⟩)
    obtain ⟨w, hw, ew, e2⟩ := nI_ex (x := a) c.1
    have := c.2.1
    rw [ew, nI_c hw]
    omega
theorem op_pass {a : Int32} : OpR y_X_pass y_M_pass [.int a] := by
  intro tx x m d h
  obtain ⟨iM, iX, wf, rM, rX, ok⟩ := h.day
  refine X_pass_ok (d := d + 77) iX wf rX ok (fun c => ?_) (fun c x' ox rx => ?_)
  · exact M_pass_ok (d := d + 76) iM rM (fun _ => ⟨rfl, tx, h⟩) (fun c' => absurd c' c)
  · exact M_pass_ok (d := d + 76) iM rM (fun c' => absurd c c') (fun _ m1 m' o1 om rm => ⟨rfl, tx, (h.think Only.rf o1.g (iM.tx.fr o1 (by simp))).used ox om rx rm (agesF_ok wf ok _)⟩)
/-- a writer's hour -/
theorem R.hour {tx : Nat → Nat → List Int32} {x x' m m' : Mem} {p : Nat} {v : Int32} (h : R tx x m) (hv : rng v 0 23) (ex : x' = wI x 18 (upd (x.1 18) p v)) (em : m' = wI m 8 (upd (m.1 8) p v)) : R tx x' m' := by
  obtain ⟨hU, hW, hP, hL, hRT, hF, hI, hS, hC⟩ := h
  have xk : ∀ k, k ≠ 18 → x'.1 k = x.1 k := fun k hk => by rw [ex, wI_n hk]
  have mk : ∀ k, k ≠ 8 → m'.1 k = m.1 k := fun k hk => by rw [em, wI_n hk]
  have os : ∀ k, m'.1 0 k = m.1 0 k := fun k => by rw [mk 0 (by decide)]
  refine ⟨hU.cg (xk 1 (by omega)) (mk 4 (by omega)), hW.cg (fun k a b => xk k (by omega)) (os 10) (mk 5 (by omega)) (mk 6 (by omega)), ⟨by rw [xk 16 (by omega), os 14]; exact hP.1, by rw [os 14]; exact hP.2.1, fun j hj => ?_⟩, hL.cg (xk 20 (by omega)) (xk 21 (by omega)) (xk 22 (by omega)) (os 17) (os 18) (mk 10 (by omega)) (mk 11 (by omega)), hRT.cg (fun k a b => xk k (by omega)) (os 3) (os 4) (hRT.2.2.2.2.2.cong (os 3) (mk 1 (by omega)) (mk 2 (by omega)) (mk 13 (by omega)) (by rw [em, wI_2])), hF.cg (by rw [xk 23 (by omega)]) (xk 24 (by omega)) (os 6) (mk 3 (by omega)), hI.cg (fun k a b => xk k (by omega)) (fun k a b => os k) (os 3) (mk 6 (by omega)) (mk 19 (by omega)) (mk 20 (by omega)) (mk 21 (by omega)), hS.cg (fun k a b => xk k (by omega)) (fun k a b => mk k (by omega)), hC.cg (fun k a => xk k (by omega)) (os 40)⟩
  obtain ⟨q1, q2, q3, q4, q5⟩ := hP.2.2 j hj
  rw [xk 17 (by omega), xk 19 (by omega), mk 7 (by omega), mk 9 (by omega), ex, em, wI_s, wI_s]
  by_cases y : j = p
  · rw [y, upd_s, upd_s]
    rw [y] at q1 q3 q5
    exact ⟨q1, rfl, q3, hv, q5⟩
  · rw [upd_n y, upd_n y]
    exact ⟨q1, q2, q3, q4, q5⟩
theorem op_choose {a : Int32} : OpR y_X_choose y_M_choose [.int a] := by
  intro tx x m d h
  obtain ⟨iM, iX, wf, rM, rX, ok⟩ := h.day
  refine X_choose_ok (d := d + 73) iX wf rX ok (fun c => ?_) (fun c x1 x' ox ex => ?_)
  · exact M_choose_ok (d := d + 11) iM wf rM ok (fun _ => ⟨rfl, tx, h⟩) (fun c' => absurd c' c)
  · refine M_choose_ok (d := d + 11) iM wf rM ok (fun c' => absurd c c') (fun _ m1 m' f t em => ⟨rfl, tx, (h.think ox f t).hour ?_ ex em⟩)
    have fl := (fmF_lt (g := ghF (eOf m tx) (m.1 4) a.toNatClampNeg) 24).resolve_right (by omega)
    unfold rng
    rw [nI_i (by omega)]
    omega
