/-! ===== texts: their codes, run ===== -/
def unC (c b : Int32) : Int32 := if -c = 261 then (if b = 0 then 1 else 0) else -b
def biC (c a b : Int32) : Int32 := if -c = 42 then a * b else if -c = 43 then a + b else if -c = 45 then a - b else if -c = 60 then (if b ≤ a then 0 else 1) else if -c = 61 then (if a = b then 1 else 0) else if -c = 259 then (if a = 0 then (if b = 0 then 0 else 1) else 1) else if -c = 260 then (if a = 0 then 0 else (if b = 0 then 0 else 1)) else -b
def stC (env : Nat → Int32) (c : Int32) (f : Nat → Int32) (t : Nat) : Option ((Nat → Int32) × Nat) :=
  if c < -6 then (if c = -262 ∨ c = -261 then (if 1 ≤ t then some (upd f (t - 1) (unC c (f (t - 1))), t) else none)
    else (if 2 ≤ t then some (upd f (t - 2) (biC c (f (t - 2)) (f (t - 1))), t - 1) else none))
  else (if t < 31 then some (upd f t (if c < 0 then env (-1 - c).toNatClampNeg else c), t + 1) else none)
def runC (env : Nat → Int32) : List Int32 → (Nat → Int32) → Nat → Option ((Nat → Int32) × Nat)
  | [], f, t => some (f, t)
  | c :: r, f, t => match stC env c f t with
    | some s => runC env r s.1 s.2
    | none => none
theorem runC_app {env : Nat → Int32} : ∀ {a b : List Int32} {f : Nat → Int32} {t : Nat} {s : (Nat → Int32) × Nat}, runC env a f t = some s → runC env (a ++ b) f t = runC env b s.1 s.2
  | [], b, f, t, s, h => by
    simp only [runC] at h
    cases h
    rfl
  | c :: r, b, f, t, s, h => by
    simp only [runC, List.cons_append] at h ⊢
    cases q : stC env c f t with
    | none => rw [q] at h; cases h
    | some s1 =>
      rw [q] at h
      exact runC_app h
/-- a code that leaves one value on what is there, with so much room -/
def semC (env : Nat → Int32) (c : List Int32) (v : Int32) (k : Nat) : Prop := ∀ f t, t + k ≤ 31 → ∃ f', runC env c f t = some (f', t + 1) ∧ f' t = v ∧ ∀ j, j < t → f' j = f j
theorem semC.mono {env : Nat → Int32} {c : List Int32} {v : Int32} {k k' : Nat} (h : semC env c v k) (hk : k ≤ k') : semC env c v k' := fun f t q => h f t (by omega)
theorem semC.one {env : Nat → Int32} {c : Int32} (h : ¬ c < -6) : semC env [c] (if c < 0 then env (-1 - c).toNatClampNeg else c) 1 := fun f t q => ⟨_, by simp only [runC, stC]; rw [if_neg h, if_pos (by omega)], upd_s, fun j hj => upd_n (by omega)⟩
theorem semC.un {env : Nat → Int32} {a : List Int32} {v c : Int32} {k : Nat} (h : semC env a v k) (hc : c = -262 ∨ c = -261) : semC env (a ++ [c]) (unC c v) k := by
  intro f t q
  obtain ⟨f', h1, h2, h3⟩ := h f t q
  have h6 : c < -6 := by rcases hc with rfl | rfl <;> decide
  refine ⟨_, by rw [runC_app h1]; simp only [runC, stC]; rw [if_pos h6, if_pos hc, if_pos (by omega)], ?_, fun j hj => ?_⟩
  · show upd f' (t + 1 - 1) _ t = _
    rw [show t + 1 - 1 = t by omega, upd_s, h2]
  · show upd f' (t + 1 - 1) _ j = _
    rw [upd_n (by omega), h3 j hj]
theorem semC.bi {env : Nat → Int32} {a b : List Int32} {v w c : Int32} {k : Nat} (h : semC env a v (k + 1)) (hb : semC env b w k) (h6 : c < -6) (hc : ¬ (c = -262 ∨ c = -261)) : semC env (a ++ b ++ [c]) (biC c v w) (k + 1) := by
  intro f t q
  obtain ⟨f1, h1, h2, h3⟩ := h f t q
  obtain ⟨f2, g1, g2, g3⟩ := hb f1 (t + 1) (by omega)
  refine ⟨_, by rw [List.append_assoc, runC_app h1, runC_app g1]; simp only [runC, stC]; rw [if_pos h6, if_neg hc, if_pos (by omega)]; rfl, ?_, fun j hj => ?_⟩
  · show upd f2 (t + 1 + 1 - 2) _ t = _
    rw [show t + 1 + 1 - 2 = t by omega, upd_s, show t + 1 + 1 - 1 = t + 1 by omega, g2, g3 t (by omega), h2]
  · show upd f2 (t + 1 + 1 - 2) _ j = _
    rw [upd_n (by omega), g3 j (by omega), h3 j hj]
def envF (u h l n p m : Int32) : Nat → Int32 := fun j => if j = 0 then u else if j = 1 then h else if j = 2 then l else if j = 3 then n else if j = 4 then p else m
def evF (c : List Int32) (env : Nat → Int32) : Int32 := match runC env c (fun _ => 0) 0 with
  | some s => s.1 0
  | none => 0
/-- a code of a text's part -/
def okC (c : List Int32) : Prop := ∀ env, semC env c (evF c env) 31
theorem okC_of {c : List Int32} (h : ∀ env, ∃ v, semC env c v 31) : okC c := by
  intro env
  obtain ⟨v, hv⟩ := h env
  obtain ⟨f', h1, h2, h3⟩ := hv (fun _ => 0) 0 (by omega)
  have : evF c env = v := by unfold evF; rw [h1]; exact h2
  rw [this]
  exact hv
theorem evF_of {c : List Int32} {env : Nat → Int32} {v : Int32} (hv : semC env c v 31) : evF c env = v := by
  obtain ⟨f', h1, h2, h3⟩ := hv (fun _ => 0) 0 (by omega)
  unfold evF; rw [h1]; exact h2
theorem name_ix {c : Int32} (h : ¬ c < -6) (h0 : c < 0) : vp_in (-1 - c) 6 := by
  have h1 : ¬ c.toInt < -6 := fun z => h (lt32.mpr z)
  have h2 : c.toInt < 0 := lt32.mp h0
  have e : (-1 - c).toInt = -1 - c.toInt := sub32 (by show _ ≤ (-1 : Int) - _; omega) (by show (-1 : Int) - _ < _; omega)
  exact vin_of (by omega) (by omega)
theorem stC_env {e1 e2 : Nat → Int32} {c : Int32} {f : Nat → Int32} {t : Nat} (h : ∀ j, j < 6 → e1 j = e2 j) : stC e1 c f t = stC e2 c f t := by
  unfold stC
  by_cases h6 : c < -6
  · rw [if_pos h6, if_pos h6]
  · rw [if_neg h6, if_neg h6]
    by_cases h0 : c < 0
    · rw [if_pos h0, if_pos h0, h _ (vin_lt (name_ix h6 h0))]
    · rw [if_neg h0, if_neg h0]
theorem runC_env {e1 e2 : Nat → Int32} (h : ∀ j, j < 6 → e1 j = e2 j) : ∀ (c : List Int32) (f : Nat → Int32) (t : Nat), runC e1 c f t = runC e2 c f t
  | [], _, _ => rfl
  | c :: r, f, t => by
    simp only [runC]
    rw [stC_env h]
    cases stC e2 c f t with
    | none => rfl
    | some s => exact runC_env h r _ _
theorem evF_env {e1 e2 : Nat → Int32} {c : List Int32} (h : ∀ j, j < 6 → e1 j = e2 j) : evF c e1 = evF c e2 := by
  unfold evF
  rw [runC_env h]
theorem top_i {t : Nat} (h : t < 2147483648) : (nI t - 1).toInt = t - 1 := by
  rw [m1 (by rw [nI_i h]; omega), nI_i h]
theorem top_p (t : Nat) : nI t - 1 + 1 = nI t := Int32.sub_add_cancel _ _
theorem top_m {t : Nat} : nI (t + 1) - 1 + -1 = nI t - 1 := by rw [nI_pred, Int32.sub_eq_add_neg]
theorem top_c {t : Nat} (h : t < 2147483648) : (nI t - 1).toNatClampNeg = t - 1 := by
  show (nI t - 1).toInt.toNat = _
  rw [top_i h]
  omega
/-- the place of a part's code in a row -/
def codeAt (f : Nat → Int32) (i : Nat) (c : List Int32) : Prop := ∀ j, j < c.length → f (i + j) = c.getD j 0
theorem Texts_valued_ok {d : Nat} {Q : QQ} {μ : Mem} {t p i0 : Nat} {c : List Int32} (ht : t < 6) (hp : p < 3) (hr : μ.1 27 5 = nI t) (hc : codeAt (μ.1 (29 + t)) i0 c) (hi : i0 + c.length ≤ 160) (h0 : p = 0 → i0 = 0) (h1 : p ≠ 0 → μ.1 (36 + t) (p - 1) = nI i0) (h2 : μ.1 (36 + t) p = nI (i0 + c.length)) (hok : okC c) (hQ : ∀ μ', Only [43] μ μ' → Q (.int (evF c (μ.1 42))) μ') : Call (d + 1) y_Texts_valued [.ref 27, .int (nI p)] μ Q := by
  have hl : ilen 0 (36 + t) = 3 := by
    rcases (show t = 0 ∨ t = 1 ∨ t = 2 ∨ t = 3 ∨ t = 4 ∨ t = 5 by omega) with rfl | rfl | rfl | rfl | rfl | rfl <;> rfl
  have hl2 : ilen 0 (29 + t) = 160 := by
    rcases (show t = 0 ∨ t = 1 ∨ t = 2 ∨ t = 3 ∨ t = 4 ∨ t = 5 by omega) with rfl | rfl | rfl | rfl | rfl | rfl <;> rfl
  have key : ∀ (r : List Int32) (i k : Nat) (ν : Mem) (s : (Nat → Int32) × Nat), i + r.length = i0 + c.length → (∀ j, j < r.length → μ.1 (29 + t) (i + j) = r.getD j 0) → k ≤ 31 → Only [43] μ ν → runC (μ.1 42) r (ν.1 43) k = some s → (∀ ν', Only [43] μ ν' → ν'.1 43 = s.1 → Q (.int (s.1 0)) ν') → AA (Call d) y_Texts_valued Q 30 [.ref 27, .int (nI p), .ref (29 + t), .int (nI (i0 + c.length)), .int (nI k - 1), .int (nI i), un, un, un, un] [] ν := by
    intro r
    induction r with
    | nil =>
      intro i k ν s q1 q2 q3 o q4 hQ
      have q1 : i = i0 + c.length := by simpa using q1
      simp only [runC] at q4
      cases q4
      refine b_Texts_valued_30 ⟨fun _ => ⟨vin_of (by decide) (by decide), hQ ν o rfl⟩, fun z => absurd (by rw [q1]; exact Int32.le_refl _) z⟩
    | cons c1 r ih =>
      intro i k ν s q1 q2 q3 o q4 hQ
      have q1' : i + 1 + r.length = i0 + c.length := by simp at q1; omega
      have ei := nI_i (n := i) (by omega)
      have ee := nI_i (n := i0 + c.length) (by omega)
      have hci : ν.1 (29 + t) i = c1 := by
        rw [o.i (29 + t) (by simp; omega)]
        have := q2 0 (by simp)
        simpa using this
      have tk := top_i (t := k) (by omega)
      have nxt : ∀ (k' : Nat) (ν' : Mem), k' ≤ 31 → Only [43] ν ν' → runC (μ.1 42) r (ν'.1 43) k' = some s → ∀ a b e : Value, isL a = false → isL b = false → isL e = false → ∀ a0 : Value, isL a0 = false → AA (Call d) y_Texts_valued Q 30 [.ref 27, .int (nI p), .ref (29 + t), .int (nI (i0 + c.length)), .int (nI k' - 1), .int (nI i + 1), a0, a, b, e] [] ν' := by
        intro k' ν' w1 w2 w3 a b e la lb le a0 l0
        rw [nI_1]
        refine AA_weak (lv := [.ref 27, .int (nI p), .ref (29 + t), .int (nI (i0 + c.length)), .int (nI k' - 1), .int (nI (i + 1)), un, un, un, un]) ⟨Or.inl rfl, Or.inl rfl, Or.inl rfl, Or.inl rfl, Or.inl rfl, Or.inl rfl, Or.inr ⟨rfl, l0⟩, Or.inr ⟨rfl, la⟩, Or.inr ⟨rfl, lb⟩, Or.inr ⟨rfl, le⟩, trivial⟩ ?_
        refine ih (i + 1) k' ν' s q1' (fun j hj => ?_) w1 (o.trans w2) w3 hQ
        have := q2 (j + 1) (by simp; omega)
        rw [show i + 1 + j = i + (j + 1) by omega]
        simpa using this
      have nxt182 : ∀ (k' : Nat) (ν' : Mem), k' ≤ 31 → Only [43] ν ν' → runC (μ.1 42) r (ν'.1 43) k' = some s → ∀ (a b e : Value) (x : Int32), isL a = false → isL b = false → isL e = false → AA (Call d) y_Texts_valued Q 182 [.ref 27, .int (nI p), .ref (29 + t), .int (nI (i0 + c.length)), .int (nI k' - 1), .int (nI i), .int x, a, b, e] [] ν' := by
        intro k' ν' w1 w2 w3 a b e x la lb le
        refine AA_weak (lv := [.ref 27, .int (nI p), .ref (29 + t), .int (nI (i0 + c.length)), .int (nI k' - 1), .int (nI i), .int x, un, un, un]) ⟨Or.inl rfl, Or.inl rfl, Or.inl rfl, Or.inl rfl, Or.inl rfl, Or.inl rfl, Or.inl rfl, Or.inr ⟨rfl, la⟩, Or.inr ⟨rfl, lb⟩, Or.inr ⟨rfl, le⟩, trivial⟩ ?_
        exact b_Texts_valued_182 (nxt k' ν' w1 w2 w3 un un un rfl rfl rfl (.int x) rfl)
      simp only [runC] at q4
      -- the ways of one step
      have push : ∀ (v : Int32), ¬ c1 < -6 → k < 31 → (if c1 < 0 then μ.1 42 (-1 - c1).toNatClampNeg else c1) = v → (vp_in (nI k - 1 + 1) 31 ∧ ∀ μ1 : Mem, μ1 = wI ν 43 (upd (ν.1 43) (Int32.toNatClampNeg (nI k - 1 + 1)) v) → AA (Call d) y_Texts_valued Q 182 [.ref 27, .int (nI p), .ref (29 + t), .int (nI (i0 + c.length)), .int (nI k - 1 + 1), .int (nI i), .int c1, un, un, un] [] μ1) := by
        intro v g6 gk gv
        rw [top_p, nI_c (by omega)]
        refine ⟨nI_v gk (by omega), fun μ1 e1 => ?_⟩
        have ek : nI k = nI (k + 1) - 1 := (nI_pred k).symm
        rw [ek]
        refine nxt182 (k + 1) μ1 (by omega) (by rw [e1]; exact Only.w) ?_ un un un c1 rfl rfl rfl
        unfold stC at q4
        rw [if_neg g6, if_pos gk, gv] at q4
        rw [e1, wI_s]
        exact q4
      have one : ∀ (b : Int32) (l7 : Int32), c1 < -6 → (c1 = -262 ∨ c1 = -261) → 1 ≤ k → b = ν.1 43 (k - 1) → AA (Call d) y_Texts_valued Q 93 [.ref 27, .int (nI p), .ref (29 + t), .int (nI (i0 + c.length)), .int (nI k - 1), .int (nI i), .int c1, .int l7, .int b, .int b] [] ν := by
        intro b l7 g6 g1 gk gb
        unfold stC at q4
        rw [if_pos g6, if_pos g1, if_pos gk, ← gb] at q4
        dsimp only at q4
        have hv : vp_in (nI k - 1) 31 := vin_of (by omega) (by omega)
        have fin : ∀ (v : Int32) (μ1 : Mem), unC c1 b = v → μ1 = wI ν 43 (upd (ν.1 43) (Int32.toNatClampNeg (nI k - 1)) v) → AA (Call d) y_Texts_valued Q 182 [.ref 27, .int (nI p), .ref (29 + t), .int (nI (i0 + c.length)), .int (nI k - 1), .int (nI i), .int c1, .int l7, .int b, .int b] [] μ1 := by
          intro v μ1 gv e1
          rw [top_c (by omega)] at e1
          refine nxt182 k μ1 q3 (by rw [e1]; exact Only.w) ?_ (.int l7) (.int b) (.int b) c1 rfl rfl rfl
          rw [e1, wI_s, ← gv]
          exact q4
        refine b_Texts_valued_93 ?_
        rcases g1 with g1 | g1
        · subst g1
          refine ⟨fun z => absurd z (by decide), fun _ => ⟨fun z => absurd z (by decide), fun _ => ⟨fun z => absurd z (by decide), fun _ => ⟨fun z => absurd z (by decide), fun _ => ⟨fun z => absurd z (by decide), fun _ => ⟨fun z => absurd z (by decide), fun _ => ⟨fun z => absurd z (by decide), fun _ => ⟨fun z => absurd z (by decide), fun _ => ⟨hv, fun μ1 e1 => fin _ μ1 rfl e1⟩⟩⟩⟩⟩⟩⟩⟩⟩
        · subst g1
          refine ⟨fun z => absurd z (by decide), fun _ => ⟨fun z => absurd z (by decide), fun _ => ⟨fun z => absurd z (by decide), fun _ => ⟨fun z => absurd z (by decide), fun _ => ⟨fun z => absurd z (by decide), fun _ => ⟨fun z => absurd z (by decide), fun _ => ⟨fun z => absurd z (by decide), fun _ => ⟨fun _ => ⟨fun z => ⟨hv, fun μ1 e1 => fin _ μ1 ?_ e1⟩, fun z => ⟨hv, fun μ1 e1 => fin _ μ1 ?_ e1⟩⟩, fun z => absurd rfl z⟩⟩⟩⟩⟩⟩⟩⟩
          · unfold unC; rw [if_pos (by decide), if_neg z]
          · unfold unC; rw [if_pos (by decide), if_pos z]
      have two : ∀ (a b : Int32) (l7 : Int32), c1 < -6 → ¬ (c1 = -262 ∨ c1 = -261) → 2 ≤ k → b = ν.1 43 (k - 1) → a = ν.1 43 (k - 2) → AA (Call d) y_Texts_valued Q 93 [.ref 27, .int (nI p), .ref (29 + t), .int (nI (i0 + c.length)), .int (nI (k - 1) - 1), .int (nI i), .int c1, .int l7, .int b, .int a] [] ν := by
        intro a b l7 g6 g1 gk gb ga
        unfold stC at q4
        rw [if_pos g6, if_neg g1, if_pos gk, ← gb, ← ga] at q4
        dsimp only at q4
        have tk1 := top_i (t := k - 1) (by omega)
        have hv : vp_in (nI (k - 1) - 1) 31 := vin_of (by omega) (by omega)
        have fin : ∀ (v : Int32) (μ1 : Mem), biC c1 a b = v → μ1 = wI ν 43 (upd (ν.1 43) (Int32.toNatClampNeg (nI (k - 1) - 1)) v) → AA (Call d) y_Texts_valued Q 182 [.ref 27, .int (nI p), .ref (29 + t), .int (nI (i0 + c.length)), .int (nI (k - 1) - 1), .int (nI i), .int c1, .int l7, .int b, .int a] [] μ1 := by
          intro v μ1 gv e1
          rw [top_c (by omega), show k - 1 - 1 = k - 2 by omega] at e1
          refine nxt182 (k - 1) μ1 (by omega) (by rw [e1]; exact Only.w) ?_ (.int l7) (.int b) (.int a) c1 rfl rfl rfl
          rw [e1, wI_s, ← gv]
          exact q4
        have n261 : ¬ -c1 = 261 := fun z => g1 (Or.inr (by rw [← Int32.neg_neg (a := c1), z]))
        refine b_Texts_valued_93 ?_
        unfold biC at fin
        refine ⟨fun z1 => ⟨hv, fun μ1 e1 => fin _ μ1 (by rw [if_pos z1]) e1⟩, fun z1 => ⟨fun z2 => ⟨hv, fun μ1 e1 => fin _ μ1 (by rw [if_neg z1, if_pos z2]) e1⟩, fun z2 => ⟨fun z3 => ⟨hv, fun μ1 e1 => fin _ μ1 (by rw [if_neg z1, if_neg z2, if_pos z3]) e1⟩, fun z3 => ⟨fun z4 => ⟨fun y => ⟨hv, fun μ1 e1 => fin _ μ1 (by rw [if_neg z1, if_neg z2, if_neg z3, if_pos z4, if_pos y]) e1⟩, fun y => ⟨hv, fun μ1 e1 => fin _ μ1 (by rw [if_neg z1, if_neg z2, if_neg z3, if_pos z4, if_neg y]) e1⟩⟩, fun z4 => ⟨fun z5 => ⟨fun y => ⟨hv, fun μ1 e1 => fin _ μ1 (by rw [if_neg z1, if_neg z2, if_neg z3, if_neg z4, if_pos z5, if_neg y]) e1⟩, fun y => ⟨hv, fun μ1 e1 => fin _ μ1 (by rw [if_neg z1, if_neg z2, if_neg z3, if_neg z4, if_pos z5, if_pos y]) e1⟩⟩, fun z5 => ⟨fun z6 => ⟨fun y => ⟨hv, fun μ1 e1 => fin _ μ1 (by rw [if_neg z1, if_neg z2, if_neg z3, if_neg z4, if_neg z5, if_pos z6, if_neg y]) e1⟩, fun y => ⟨fun y2 => ⟨hv, fun μ1 e1 => fin _ μ1 (by rw [if_neg z1, if_neg z2, if_neg z3, if_neg z4, if_neg z5, if_pos z6, if_pos y, if_pos y2]) e1⟩, fun y2 => ⟨hv, fun μ1 e1 => fin _ μ1 (by rw [if_neg z1, if_neg z2, if_neg z3, if_neg z4, if_neg z5, if_pos z6, if_pos y, if_neg y2]) e1⟩⟩⟩, fun z6 => ⟨fun z7 => ⟨fun y => ⟨hv, fun μ1 e1 => fin _ μ1 (by rw [if_neg z1, if_neg z2, if_neg z3, if_neg z4, if_neg z5, if_neg z6, if_pos z7, if_pos y]) e1⟩, fun y => ⟨fun y2 => ⟨hv, fun μ1 e1 => fin _ μ1 (by rw [if_neg z1, if_neg z2, if_neg z3, if_neg z4, if_neg z5, if_neg z6, if_pos z7, if_neg y, if_pos y2]) e1⟩, fun y2 => ⟨hv, fun μ1 e1 => fin _ μ1 (by rw [if_neg z1, if_neg z2, if_neg z3, if_neg z4, if_neg z5, if_neg z6, if_pos z7, if_neg y, if_neg y2]) e1⟩⟩⟩, fun z7 => ⟨fun z8 => absurd z8 n261, fun z8 => ⟨hv, fun μ1 e1 => fin _ μ1 (by rw [if_neg z1, if_neg z2, if_neg z3, if_neg z4, if_neg z5, if_neg z6, if_neg z7]) e1⟩⟩⟩⟩⟩⟩⟩⟩⟩
      refine b_Texts_valued_30 ⟨fun z => absurd (le32.mp z) (by rw [ei, ee]; omega), fun _ => ⟨by rw [hl2]; exact nI_v (by omega) (by omega), ?_⟩⟩
      rw [nI_c (by omega), hci]
      refine ⟨fun g6 => ?_, fun g6 => ⟨fun gk => ?_, fun gk => ?_⟩⟩
      · -- one that joins
        have w1 : (c1 = -262 ∨ c1 = -261) → AA (Call d) y_Texts_valued Q 71 [.ref 27, .int (nI p), .ref (29 + t), .int (nI (i0 + c.length)), .int (nI k - 1), .int (nI i), .int c1, .int 1, un, un] [] ν := by
          intro g1
          have gk : 1 ≤ k := by
            unfold stC at q4
            rw [if_pos g6, if_pos g1] at q4
            by_cases gk : 1 ≤ k
            · exact gk
            · rw [if_neg gk] at q4; cases q4
          have hv : vp_in (nI k - 1) 31 := vin_of (by omega) (by omega)
          refine b_Texts_valued_71 ⟨fun z => absurd z (by decide), fun _ => ⟨fun _ => ⟨hv, fun _ => ⟨hv, ?_⟩, fun z => absurd z (by decide)⟩, fun z => absurd (le32.mpr (by rw [tk]; show (0 : Int) ≤ _; omega)) z⟩⟩
          exact one _ 1 g6 g1 gk (by rw [top_c (by omega)])
        refine ⟨fun z => w1 (Or.inl z), fun z1 => ⟨fun z2 => ?_, fun z => w1 (Or.inr z)⟩⟩
        have g1 : ¬ (c1 = -262 ∨ c1 = -261) := fun w => w.elim z1 z2
        have gk : 2 ≤ k := by
          unfold stC at q4
          rw [if_pos g6, if_neg g1] at q4
          by_cases gk : 2 ≤ k
          · exact gk
          · rw [if_neg gk] at q4; cases q4
        obtain ⟨k2, rfl⟩ : ∃ k2, k = k2 + 1 := ⟨k - 1, by omega⟩
        have hv : vp_in (nI (k2 + 1) - 1) 31 := vin_of (by omega) (by omega)
        have tk2 := top_i (t := k2) (by omega)
        refine b_Texts_valued_71 ⟨fun _ => ⟨fun _ => ⟨hv, fun z => absurd rfl z, fun _ => ?_⟩, fun z => absurd (le32.mpr (by rw [tk]; show (1 : Int) ≤ _; omega)) z⟩, fun z => absurd rfl z⟩
        rw [top_m]
        refine ⟨vin_of (by omega) (by omega), ?_⟩
        refine two _ _ 0 g6 g1 gk (by rw [top_c (by omega)]) (by rw [top_c (by omega)]; exact congrArg _ (by omega))
      · have gk : k < 31 := by have := lt32.mp gk; rw [tk] at this; have h30 : (30 : Int32).toInt = 30 := rfl; omega
        refine ⟨fun g0 => ⟨name_ix g6 g0, ?_⟩, fun g0 => push _ g6 gk (if_neg g0)⟩
        rw [o.i 42]
        exact push _ g6 gk (if_pos g0)
      · exfalso
        have gk : ¬ k < 31 := fun z => gk (lt32.mpr (by rw [tk]; show _ < (30 : Int); omega))
        unfold stC at q4
        rw [if_neg g6, if_neg gk] at q4
        cases q4
  obtain ⟨f', s1, s2, s3⟩ := hok (μ.1 42) (μ.1 43) 0 (by omega)
  have ct : (nI t).toNatClampNeg = t := nI_c (by omega)
  have cp : (nI p).toNatClampNeg = p := nI_c (by omega)
  have hp3 := nI_v (n := p) hp (by omega)
  have hv6 := nI_v (n := t) ht (by omega)
  have fin : AA (Call d) y_Texts_valued Q 30 [.ref 27, .int (nI p), .ref (29 + t), .int (nI (i0 + c.length)), .int (-1), .int (nI i0), un, un, un, un] [] μ := by
    have g := key c i0 0 μ (f', 0 + 1) rfl (fun j hj => hc j hj) (by omega) Only.rf s1 (fun ν' o1 o2 => Qi (hQ ν' o1) s2)
    rw [show nI 0 - 1 = -1 by decide] at g
    exact g
  refine b_Texts_valued_0 ?_
  rw [hr, ct, hl, cp, h2]
  refine ⟨hv6, hv6, hp3, fun z => ⟨hv6, ?_⟩, fun z => ?_⟩
  · have hp0 : p ≠ 0 := fun w => z (by rw [w]; rfl)
    obtain ⟨p', rfl⟩ : ∃ p', p = p' + 1 := ⟨p - 1, by omega⟩
    rw [nI_pred, nI_c (by omega)]
    have h1 := h1 hp0
    rw [show p' + 1 - 1 = p' by omega] at h1
    rw [h1]
    exact ⟨nI_v (by omega) (by omega), fin⟩
  · have hp0 : p = 0 := by
      have z2 := congrArg Int32.toInt z
      rw [nI_i (by omega)] at z2
      have : (0 : Int32).toInt = 0 := rfl
      omega
    rw [h0 hp0] at fin ⊢
    exact fin
