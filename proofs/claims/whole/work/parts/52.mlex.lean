/-! ===== the reference: next token ===== -/
def byM (B : Nat → Int32) (t n : Nat) (μ : Mem) : Prop := t < 6 ∧ n ≤ 160 ∧ (∀ i, i < n → μ.1 1 (160 * t + i) = B i) ∧ μ.1 0 25 = nI (160 * t) ∧ μ.1 0 26 = nI n
def frR (μ μ' : Mem) : Prop := Only [0] μ μ' ∧ ∀ k, k < 27 ∨ 29 < k → μ'.1 0 k = μ.1 0 k
theorem frR.rf {μ : Mem} : frR μ μ := ⟨Only.rf, fun _ _ => rfl⟩
theorem frR.trans {a b c : Mem} (h1 : frR a b) (h2 : frR b c) : frR a c := ⟨h1.1.trans h2.1, fun k hk => (h2.2 k hk).trans (h1.2 k hk)⟩
theorem frR.w {μ μ' : Mem} {k : Nat} {x : Int32} (e : μ' = wI μ 0 (upd (μ.1 0) k x)) (h : 27 ≤ k ∧ k ≤ 29 := by decide) : frR μ μ' := ⟨.we e, fun j hj => by rw [e, wI_s, upd_n (by omega)]⟩
theorem frR.l {μ μ' : Mem} {g : Nat → Int64} (e : μ' = wL μ 0 g) : frR μ μ' := ⟨by rw [e]; exact Only.wl, fun j hj => by rw [e, wL_1]⟩
theorem byM.fr {B : Nat → Int32} {t n : Nat} {μ μ' : Mem} (h : byM B t n μ) (f : frR μ μ') : byM B t n μ' := ⟨h.1, h.2.1, fun i hi => by rw [f.1.i 1]; exact h.2.2.1 i hi, by rw [f.2 25 (by omega)]; exact h.2.2.2.1, by rw [f.2 26 (by omega)]; exact h.2.2.2.2⟩
def bF (B : Nat → Int32) (n i : Nat) : Int32 := if i < n then B i else -1
theorem M_byteAt_ok {d t n i : Nat} {Q : QQ} {μ : Mem} {B : Nat → Int32} (hb : byM B t n μ) (hi : i < 1000) (hQ : Q (.int (bF B n i)) μ) : Call (d + 1) y_M_byteAt [.ref 0, .int (nI i)] μ Q := by
  obtain ⟨h1, h2, h3, h4, h5⟩ := hb
  unfold bF at hQ
  refine b_M_byteAt_0 ?_
  rw [h4, h5, nI_add]
  refine ⟨fun z => ?_, fun z => ?_⟩
  · have z := le32.mp z
    rw [nI_i (by omega), nI_i (by omega)] at z
    rw [if_neg (by omega)] at hQ
    exact hQ
  · have z := Int.not_le.mp (fun y => z (le32.mpr y))
    rw [nI_i (by omega), nI_i (by omega)] at z
    rw [if_pos (by omega)] at hQ
    refine ⟨nI_v (by omega) (by omega), ?_⟩
    rw [nI_c (by omega), h3 i (by omega)]
    exact hQ
def tokM (B : Nat → Int32) (n : Nat) (τ : TK) (μ : Mem) : Prop := μ.1 0 29 = nI τ.2.2.1 ∧ ((τ.1 = 0 ∧ μ.1 0 28 = 0) ∨ (τ.1 = 1 ∧ μ.1 0 28 = 4) ∨ (τ.1 = 2 ∧ μ.1 0 28 = 2 ∧ μ.1 0 27 = nI τ.2.2.2 ∧ (μ.2 0 30).toInt32 = τ.2.1) ∨ (isSg τ.1 = true ∧ μ.1 0 28 = 3 ∧ μ.1 0 27 = nI τ.2.2.2 ∧ μ.2 0 30 = τ.1.toInt64) ∨ (τ.2.2.1 < τ.2.2.2 ∧ τ.2.2.2 ≤ n ∧ (∀ i, τ.2.2.1 ≤ i → i < τ.2.2.2 → isAl (B i) = true) ∧ μ.1 0 28 = 1 ∧ μ.1 0 27 = nI τ.2.2.2 ∧ (τ.1, τ.2.1) = wtok (knF (wrdL B τ.2.2.1 τ.2.2.2))))
theorem al_b {c : Int32} : isAl c = true ↔ 97 ≤ c.toInt ∧ c.toInt ≤ 122 := by unfold isAl; rw [decide_eq_true_iff]
theorem dg_b {c : Int32} : isDg c = true ↔ 48 ≤ c.toInt ∧ c.toInt ≤ 57 := by unfold isDg; rw [decide_eq_true_iff]
theorem bl_b {c : Int32} : isBl c = true ↔ c = 32 ∨ c = 10 := by unfold isBl; rw [decide_eq_true_iff]
theorem num_step {x : Int64} {v r : Int32} (h : x.toInt32 = v) : (10 * x + r.toInt64 - 48).toInt32 = v * 10 + r - 48 := by
  have e : (10 * x + r.toInt64 - 48).toInt32 = (10 : Int64).toInt32 * x.toInt32 + r.toInt64.toInt32 - (48 : Int64).toInt32 := by simp
  rw [e, h, Int32.toInt32_toInt64, show (10 : Int64).toInt32 = 10 from rfl, show (48 : Int64).toInt32 = 48 from rfl, Int32.mul_comm]
theorem M_next_ok {d t n h : Nat} {Q : QQ} {μ : Mem} {B : Nat → Int32} (hb : byM B t n μ) (hr : ∀ i, i < n → rng (B i) 0 255) (hh : h ≤ n) (h27 : μ.1 0 27 = nI h) (hQ : ∀ μ', frR μ μ' → tokM B n (lexF B n h) μ' → Q .null μ') : Call (d + 2) y_M_next [.ref 0] μ Q := by
  have hn := hb.2.1
  have word : ∀ s, s < n → ∀ k h ν, h + k = n → frR μ ν → s ≤ h → spanF isAl B k h = spanF isAl B (n - s) s → ν.1 0 27 = nI h → ν.1 0 29 = nI s → ν.1 0 28 = 1 → ∀ x : Int32, (∀ μ', frR μ μ' → μ'.1 0 27 = nI (spanF isAl B (n - s) s) → μ'.1 0 29 = nI s → μ'.1 0 28 = 1 → Q .null μ') → AA (Call (d + 1)) y_M_next Q 50 [.ref 0, .int x, un] [] ν := by
    intro s hs k
    induction k with
    | zero =>
      intro h ν e f hsh hsp v27 v29 v28 x hw
      refine b_M_next_50 ?_
      rw [v27]
      refine M_byteAt_ok (hb.fr f) (by omega) ⟨_, rfl, M_in_ok (A := (bF B n h).toInt) (B := 97) (C := 122) (lI _) rfl rfl ⟨_, rfl, b_z (fun _ => ?_) (fun c => ?_)⟩⟩
      · exact hw ν f (by rw [← hsp]; exact v27) v29 v28
      · unfold bF at c
        rw [if_neg (by omega)] at c
        exact absurd c.1 (by decide)
    | succ k ih =>
      intro h ν e f hsh hsp v27 v29 v28 x hw
      rw [span_s] at hsp
      refine b_M_next_50 ?_
      rw [v27]
      have eb : bF B n h = B h := if_pos (by omega)
      refine M_byteAt_ok (hb.fr f) (by omega) ⟨_, rfl, M_in_ok (A := (bF B n h).toInt) (B := 97) (C := 122) (lI _) rfl rfl ⟨_, rfl, b_z (fun c => ?_) (fun c μ5 e5 => ?_)⟩⟩
      · rw [eb] at c
        rw [if_neg (fun y => c (al_b.mp y))] at hsp
        exact hw ν f (by rw [← hsp]; exact v27) v29 v28
      · rw [eb] at c
        rw [if_pos (al_b.mpr c)] at hsp
        rw [v27, nI_1] at e5
        exact ih (h + 1) μ5 (by omega) (f.trans (.w e5)) (by omega) hsp (by rw [e5, wI_s, upd_s]) (by rw [e5, wI_s, upd_n (by decide)]; exact v29) (by rw [e5, wI_s, upd_n (by decide)]; exact v28) x hw
  have numb : ∀ s, s < n → ∀ k h ν, h + k = n → frR μ ν → s ≤ h → spanF isDg B k h = spanF isDg B (n - s) s → ν.1 0 27 = nI h → ν.1 0 29 = nI s → (ν.2 0 30).toInt32 = numF B s (min (h - s) 4) → ∀ x : Int32, (∀ μ', frR μ μ' → μ'.1 0 27 = nI (spanF isDg B (n - s) s) → μ'.1 0 29 = nI s → (if spanF isDg B (n - s) s - s ≤ 4 then μ'.1 0 28 = 2 ∧ (μ'.2 0 30).toInt32 = numF B s (spanF isDg B (n - s) s - s) else μ'.1 0 28 = 4) → Q .null μ') → AA (Call (d + 1)) y_M_next Q 80 [.ref 0, .int x, .int (nI (h - s))] [] ν := by
    intro s hs k
    have fin : ∀ h ν, s ≤ h → h ≤ n → frR μ ν → h = spanF isDg B (n - s) s → ν.1 0 27 = nI h → ν.1 0 29 = nI s → (ν.2 0 30).toInt32 = numF B s (min (h - s) 4) → (∀ μ', frR μ μ' → μ'.1 0 27 = nI (spanF isDg B (n - s) s) → μ'.1 0 29 = nI s → (if spanF isDg B (n - s) s - s ≤ 4 then μ'.1 0 28 = 2 ∧ (μ'.2 0 30).toInt32 = numF B s (spanF isDg B (n - s) s - s) else μ'.1 0 28 = 4) → Q .null μ') → ((nI (h - s) ≤ 4 → (∀ μ5 : Mem, μ5 = wI ν 0 (upd (ν.1 0) 28 2) → (Q .null μ5))) ∧ (¬ nI (h - s) ≤ 4 → (∀ μ6 : Mem, μ6 = wI ν 0 (upd (ν.1 0) 28 4) → (Q .null μ6)))) := by
      intro h ν h1 h2 f hsp v27 v29 v30 hw
      rw [← hsp] at hw
      refine ⟨fun z μ5 e5 => ?_, fun z μ6 e6 => ?_⟩
      · have z := le32.mp z
        rw [nI_i (by omega)] at z
        have z : ((h - s : Nat) : Int) ≤ 4 := z
        rw [show min (h - s) 4 = h - s by omega] at v30
        have hw := hw μ5 (f.trans (.w e5)) (by rw [e5, wI_s, upd_n (by decide)]; exact v27) (by rw [e5, wI_s, upd_n (by decide)]; exact v29)
        rw [if_pos (by omega)] at hw
        exact hw ⟨by rw [e5, wI_s, upd_s], by rw [e5, wI_2]; exact v30⟩
      · have z := Int.not_le.mp (fun y => z (le32.mpr y))
        rw [nI_i (by omega)] at z
        have z : (4 : Int) < ((h - s : Nat) : Int) := z
        have hw := hw μ6 (f.trans (.w e6)) (by rw [e6, wI_s, upd_n (by decide)]; exact v27) (by rw [e6, wI_s, upd_n (by decide)]; exact v29)
        rw [if_neg (by omega)] at hw
        exact hw (by rw [e6, wI_s, upd_s])
    induction k with
    | zero =>
      intro h ν e f hsh hsp v27 v29 v30 x hw
      refine b_M_next_80 ?_
      rw [v27]
      refine M_byteAt_ok (hb.fr f) (by omega) ⟨_, rfl, M_in_ok (A := (bF B n h).toInt) (B := 48) (C := 57) (lI _) rfl rfl ⟨_, rfl, b_z (fun _ => fin h ν hsh (by omega) f hsp v27 v29 v30 hw) (fun c => ?_)⟩⟩
      unfold bF at c
      rw [if_neg (by omega)] at c
      exact absurd c.1 (by decide)
    | succ k ih =>
      intro h ν e f hsh hsp v27 v29 v30 x hw
      rw [span_s] at hsp
      have eb : bF B n h = B h := if_pos (by omega)
      refine b_M_next_80 ?_
      rw [v27]
      refine M_byteAt_ok (hb.fr f) (by omega) ⟨_, rfl, M_in_ok (A := (bF B n h).toInt) (B := 48) (C := 57) (lI _) rfl rfl ⟨_, rfl, b_z (fun c => ?_) (fun c => ?_)⟩⟩
      · rw [eb] at c
        rw [if_neg (fun y => c (dg_b.mp y))] at hsp
        exact fin h ν hsh (by omega) f hsp v27 v29 v30 hw
      · rw [eb] at c
        rw [if_pos (dg_b.mpr c)] at hsp
        have e1 : nI (h - s) + 1 = nI (h + 1 - s) := by rw [nI_1, show h - s + 1 = h + 1 - s by omega]
        rw [e1]
        refine ⟨fun z μ7 e7 μ8 e8 => ?_, fun z => ?_⟩
        · have z := le32.mp z
          rw [nI_i (by omega)] at z
          have z : (4 : Int) ≤ ((h - s : Nat) : Int) := z
          have e71 : μ7.1 0 27 = nI h := by rw [e7, wL_1]; exact v27
          rw [e71, nI_1] at e8
          refine ih (h + 1) μ8 (by omega) ((f.trans (.l e7)).trans (.w e8)) (by omega) hsp (by rw [e8, wI_s, upd_s]) (by rw [e8, wI_s, upd_n (by decide), e7, wL_1]; exact v29) ?_ x hw
          rw [e8, wI_2, e7, wL_s, vp_updL_s, v30, show min (h + 1 - s) 4 = min (h - s) 4 by omega]
        · have z := Int.not_le.mp (fun y => z (le32.mpr y))
          rw [nI_i (by omega)] at z
          have z : ((h - s : Nat) : Int) < 4 := z
          rw [v27]
          refine M_byteAt_ok (hb.fr f) (by omega) ⟨_, rfl, fun μ11 e11 μ12 e12 => ?_⟩
          have e111 : μ11.1 0 27 = nI h := by rw [e11, wL_1]; exact v27
          rw [e111, nI_1] at e12
          refine ih (h + 1) μ12 (by omega) ((f.trans (.l e11)).trans (.w e12)) (by omega) hsp (by rw [e12, wI_s, upd_s]) (by rw [e12, wI_s, upd_n (by decide), e11, wL_1]; exact v29) ?_ x hw
          rw [e12, wI_2, e11, wL_s, vp_updL_s, num_step v30, eb, show min (h + 1 - s) 4 = min (h - s) 4 + 1 by omega]
          show _ = numF B s (min (h - s) 4) * 10 + B (s + min (h - s) 4) - 48
          rw [show s + min (h - s) 4 = h by omega]
  have key : ∀ k h ν, h + k = n → frR μ ν → ν.1 0 27 = nI h → (∀ μ', frR μ μ' → tokM B n (lexG B n k h) μ' → Q .null μ') → AA (Call (d + 1)) y_M_next Q 0 [.ref 0, un, un] [] ν := by
    intro k
    induction k with
    | zero =>
      intro h ν e f v27 hQ
      have eb : bF B n h = -1 := if_neg (by omega)
      refine b_M_next_0 ?_
      rw [v27]
      refine M_byteAt_ok (hb.fr f) (by omega) ⟨_, rfl, fun z => absurd (eb.symm.trans z) (by decide), fun _ => ?_⟩
      rw [v27]
      refine M_byteAt_ok (hb.fr f) (by omega) ⟨_, rfl, fun _ μ6 e6 => ?_, fun z => absurd (eb.symm.trans z) (by decide)⟩
      have w27 : μ6.1 0 27 = nI h := by rw [e6, wI_s, upd_n (by decide)]; exact v27
      have f6 : frR μ μ6 := f.trans (.w e6)
      rw [w27]
      refine M_byteAt_ok (hb.fr f6) (by omega) ⟨_, rfl, fun μ9 e9 => ⟨fun z => absurd (le32.mp z) (by rw [eb]; decide), fun _ μ41 e41 μ42 e42 => ?_⟩⟩
      have f42 : frR μ μ42 := ((f6.trans (.w e9)).trans (.w e41)).trans (.w e42)
      refine hQ μ42 f42 ⟨?_, Or.inl ⟨rfl, ?_⟩⟩
      · have : μ41.1 0 26 = nI n := (hb.fr ((f6.trans (.w e9)).trans (.w e41))).2.2.2.2
        rw [e42, wI_s, upd_s, this]
        show nI n = nI h
        rw [show h = n by omega]
      · rw [e42, wI_s, upd_n (by decide), e41, wI_s, upd_s]
    | succ k ih =>
      intro h ν e f v27 hQ
      have eb : bF B n h = B h := if_pos (by omega)
      have hB := hr h (by omega)
      unfold lexG at hQ
      have go : isBl (B h) = true → ∀ μ3 : Mem, μ3 = wI ν 0 (upd (ν.1 0) 27 (ν.1 0 27 + 1)) → AA (Call (d + 1)) y_M_next Q 0 [.ref 0, un, un] [] μ3 := by
        intro z μ3 e3
        rw [if_pos z] at hQ
        rw [v27, nI_1] at e3
        exact ih (h + 1) μ3 (by omega) (f.trans (.w e3)) (by rw [e3, wI_s, upd_s]) hQ
      refine b_M_next_0 ?_
      rw [v27]
      refine M_byteAt_ok (hb.fr f) (by omega) ⟨_, rfl, fun z => go (bl_b.mpr (Or.inl (eb.symm.trans z))), fun z1 => ?_⟩
      rw [v27]
      refine M_byteAt_ok (hb.fr f) (by omega) ⟨_, rfl, fun z2 μ6 e6 => ?_, fun z => go (bl_b.mpr (Or.inr (eb.symm.trans z)))⟩
      rw [eb] at z1 z2
      rw [if_neg (fun y => (bl_b.mp y).elim z1 z2)] at hQ
      have w27 : μ6.1 0 27 = nI h := by rw [e6, wI_s, upd_n (by decide)]; exact v27
      have w29 : μ6.1 0 29 = nI h := by rw [e6, wI_s, upd_s, v27]
      have f6 : frR μ μ6 := f.trans (.w e6)
      rw [w27]
      refine M_byteAt_ok (hb.fr f6) (by omega) ⟨_, rfl, fun μ9 e9 => ⟨fun _ => ?_, fun z => absurd (le32.mpr (by rw [eb]; exact hB.1)) z⟩⟩
      have f9 : frR μ μ9 := f6.trans (.w e9)
      have x27 : μ9.1 0 27 = nI h := by rw [e9, wI_s, upd_n (by decide)]; exact w27
      have x29 : μ9.1 0 29 = nI h := by rw [e9, wI_s, upd_n (by decide)]; exact w29
      have x28 : μ9.1 0 28 = 4 := by rw [e9, wI_s, upd_s]
      rw [eb]
      unfold tokA at hQ
      refine M_in_ok (A := (B h).toInt) (B := 97) (C := 122) (lI _) rfl rfl ⟨_, rfl, b_z (fun ca => ?_) (fun ca μ40 e40 => ?_)⟩
      · rw [if_neg (fun y => ca (al_b.mp y))] at hQ
        refine M_in_ok (A := (B h).toInt) (B := 48) (C := 57) (lI _) rfl rfl ⟨_, rfl, b_z (fun cd => ?_) (fun cd μ38 e38 μ39 e39 => ?_)⟩
        · rw [if_neg (fun y => cd (dg_b.mp y))] at hQ
          have put : isSg (B h) = true → ∀ μ14 : Mem, μ14 = wI μ9 0 (upd (μ9.1 0) 28 3) → ∀ μ15 : Mem, μ15 = wL μ14 0 (vp_updL (μ14.2 0) 30 (Int32.toInt64 (B h))) → ∀ μ16 : Mem, μ16 = wI μ15 0 (upd (μ15.1 0) 27 (μ15.1 0 27 + 1)) → Q .null μ16 := by
            intro zs μ14 e14 μ15 e15 μ16 e16
            rw [if_pos zs] at hQ
            have y27 : μ15.1 0 27 = nI h := by rw [e15, wL_1, e14, wI_s, upd_n (by decide)]; exact x27
            rw [y27, nI_1] at e16
            refine hQ μ16 (((f9.trans (.w e14)).trans (.l e15)).trans (.w e16)) ⟨?_, Or.inr (Or.inr (Or.inr (Or.inl ⟨zs, ?_, ?_, ?_⟩)))⟩
            · rw [e16, wI_s, upd_n (by decide), e15, wL_1, e14, wI_s, upd_n (by decide)]; exact x29
            · rw [e16, wI_s, upd_n (by decide), e15, wL_1, e14, wI_s, upd_s]
            · rw [e16, wI_s, upd_s]
            · rw [e16, wI_2, e15, wL_s, vp_updL_s]
          have sg : ∀ {P : Prop}, P → (P → B h = 40 ∨ B h = 41 ∨ B h = 59 ∨ B h = 43 ∨ B h = 45 ∨ B h = 42 ∨ B h = 60 ∨ B h = 61) → isSg (B h) = true := fun p q => by unfold isSg; rw [decide_eq_true_iff]; exact q p
          refine ⟨fun z => put (sg z (fun z => by simp [z])), fun a1 => ⟨fun z => put (sg z (fun z => by simp [z])), fun a2 => ⟨fun z => put (sg z (fun z => by simp [z])), fun a3 => ⟨fun z => put (sg z (fun z => by simp [z])), fun a4 => ⟨fun z => put (sg z (fun z => by simp [z])), fun a5 => ⟨fun z => put (sg z (fun z => by simp [z])), fun a6 => ⟨fun z => put (sg z (fun z => by simp [z])), fun a7 => ⟨fun a8 => ?_, fun z => put (sg z (fun z => by simp [z]))⟩⟩⟩⟩⟩⟩⟩⟩
          have ns : ¬ isSg (B h) = true := by
            unfold isSg
            rw [decide_eq_true_iff]
            intro y
            rcases y with y | y | y | y | y | y | y | y
            · exact a1 y
            · exact a2 y
            · exact a3 y
            · exact a4 y
            · exact a5 y
            · exact a6 y
            · exact a7 y
            · exact a8 y
          rw [if_neg ns] at hQ
          exact hQ μ9 f9 ⟨x29, Or.inr (Or.inl ⟨rfl, x28⟩)⟩
        · rw [if_pos (dg_b.mpr cd)] at hQ
          have f39 : frR μ μ39 := (f9.trans (.w e38)).trans (.l e39)
          have g := numb h (by omega) (n - h) h μ39 (by omega) f39 (by omega) rfl (by rw [e39, wL_1, e38, wI_s, upd_n (by decide)]; exact x27) (by rw [e39, wL_1, e38, wI_s, upd_n (by decide)]; exact x29) (by rw [e39, wL_s, vp_updL_s, Nat.sub_self]; rfl) (B h) (fun μ' f' y27 y29 y28 => ?_)
          · rw [Nat.sub_self] at g
            exact g
          · by_cases q : spanF isDg B (n - h) h - h ≤ 4
            · rw [if_pos q] at hQ y28
              exact hQ μ' f' ⟨y29, Or.inr (Or.inr (Or.inl ⟨rfl, y28.1, y27, y28.2⟩))⟩
            · rw [if_neg q] at hQ y28
              exact hQ μ' f' ⟨y29, Or.inr (Or.inl ⟨rfl, y28⟩)⟩
      · rw [if_pos (al_b.mpr ca)] at hQ
        have f40 : frR μ μ40 := f9.trans (.w e40)
        refine word h (by omega) (n - h) h μ40 (by omega) f40 (by omega) rfl (by rw [e40, wI_s, upd_n (by decide)]; exact x27) (by rw [e40, wI_s, upd_n (by decide)]; exact x29) (by rw [e40, wI_s, upd_s]) (B h) (fun μ' f' y27 y29 y28 => ?_)
        have sl := span_le (p := isAl) (B := B) (n - h) h
        have s1 : h < spanF isAl B (n - h) h := by
          rw [show n - h = k + 1 by omega, span_s, if_pos (al_b.mpr ca)]
          have := span_le (p := isAl) (B := B) k (h + 1)
          omega
        exact hQ μ' f' ⟨y29, Or.inr (Or.inr (Or.inr (Or.inr ⟨s1, by show spanF isAl B (n - h) h ≤ n; omega, fun i => span_in (n - h) h i, y28, y27, rfl⟩)))⟩
  exact key (n - h) h μ (by omega) frR.rf h27 hQ
