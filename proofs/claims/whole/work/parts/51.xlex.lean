/-! ===== the class: next token ===== -/
theorem wl_iff {B : Nat → Int32} {s q : Nat} {w : List Int32} : wrdL B s q = w ↔ q - s = w.length ∧ ∀ j, j < w.length → B (s + j) = w.getD j 0 := by
  unfold wrdL
  constructor
  · intro h
    subst h
    refine ⟨by simp, fun j hj => ?_⟩
    simp at hj
    rw [List.getD_eq_getElem?_getD, List.getElem?_map, List.getElem?_range hj]
    rfl
  · intro ⟨h1, h2⟩
    apply List.ext_getElem?
    intro j
    by_cases hj : j < w.length
    · rw [List.getElem?_map, List.getElem?_range (by omega), List.getElem?_eq_getElem hj]
      have := h2 j hj
      rw [List.getD_eq_getElem?_getD, List.getElem?_eq_getElem hj] at this
      show some (B (s + j)) = _
      rw [this]
      rfl
    · rw [List.getElem?_eq_none (by simp; omega), List.getElem?_eq_none (by omega)]
def kst (k : Nat) : Nat := [0, 5, 11, 15, 18, 22, 26, 31, 36, 43, 50, 56, 61].getD k 0
theorem kst_ok : ∀ k, k < 12 → kst k + (kw k).length + 1 = kst (k + 1) ∧ kst (k + 1) ≤ 61 ∧ knL.getD (kst k + (kw k).length) 0 = 32 ∧ ∀ j, j < (kw k).length → knL.getD (kst k + j) 0 = (kw k).getD j 0 ∧ ¬ (kw k).getD j 0 = 32 := by decide +kernel
theorem Reader_knownWord_ok {d s q : Nat} {Q : QQ} {μ : Mem} {B : Nat → Int32} (hs : strX μ) (hsq : s ≤ q) (hq : q ≤ 160) (h6 : μ.1 23 6 = nI s) (h4 : μ.1 23 4 = nI q) (hB : ∀ i, s ≤ i → i < q → μ.1 24 i = B i) (hQ : Q (.int (if knF (wrdL B s q) = 12 then -1 else nI (knF (wrdL B s q)))) μ) : Call (d + 5) y_Reader_knownWord [.ref 23] μ Q := by
  refine b_Reader_knownWord_0 ?_
  rw [h6]
  refine loopN (G := fun k (_ : Unit) => AA (Call (d + 4)) y_Reader_knownWord Q 9 [.ref 23, .int (nI k), .int (nI s), .int 1, .int (nI (kst k))] [] μ) (P := fun k _ => ∀ i, i < k → ¬ wrdL B s q = kw i) (N := 12) ?_ ?_ 0 () (by omega) (fun i hi => absurd hi (by omega))
  · intro _ h
    refine b_Reader_knownWord_9 (Str_len_1 hs ⟨_, rfl, fun _ => ?_, fun z => absurd (by decide) z⟩)
    rw [if_pos (kn_12 h)] at hQ
    exact hQ
  · intro k _ hk h ih
    obtain ⟨k1, k2, k3, k4⟩ := kst_ok k hk
    have hy : wrdL B s q = kw k → Q (.int (nI k)) μ := fun z => by
      have e : knF (wrdL B s q) = k := (kn_iff hk).mpr z
      rw [e, if_neg (by omega)] at hQ
      exact hQ
    have hno : ¬ wrdL B s q = kw k → AA (Call (d + 4)) y_Reader_knownWord Q 9 [.ref 23, .int (nI (k + 1)), .int (nI s), .int 1, .int (nI (kst (k + 1)))] [] μ := fun z => ih () (fun i hi => by
      by_cases y : i = k
      · rw [y]; exact z
      · exact h i (by omega))
    have Z : ∀ m o, o + m = (kw k).length → ¬ wrdL B s q = kw k → ∀ l2 : Int32, AA (Call (d + 4)) y_Reader_knownWord Q 9 [.ref 23, .int (nI k), .int l2, .int 0, .int (nI (kst k + o))] [] μ := by
      intro m
      induction m with
      | zero =>
        intro o ho hn l2
        have ho : o = (kw k).length := by omega
        rw [ho]
        refine b_Reader_knownWord_9 (Str_len_1 hs ⟨_, rfl, fun z => absurd (le32.mp z) (by rw [nI_i (by omega)]; show ¬ (61 : Int) ≤ _; omega), fun _ => Str_char_1 hs (by omega) ⟨_, rfl, fun z => absurd k3 z, fun _ => ⟨fun _ => ?_, fun z => absurd rfl z⟩⟩⟩)
        have g := hno hn
        rw [← k1] at g
        rw [h6, nI_1, nI_1]
        exact g
      | succ m ihm =>
        intro o ho hn l2
        obtain ⟨c1, c2⟩ := k4 o (by omega)
        refine b_Reader_knownWord_9 (Str_len_1 hs ⟨_, rfl, fun z => absurd (le32.mp z) (by rw [nI_i (by omega)]; show ¬ (61 : Int) ≤ _; omega), fun _ => Str_char_1 hs (by omega) ⟨_, rfl, fun _ => ⟨fun _ => ?_, fun z => absurd rfl z⟩, fun z => absurd (c1.symm.trans z) c2⟩⟩)
        rw [nI_1]
        exact ihm (o + 1) (by omega) hn l2
    have G : ∀ m o, o + m = (kw k).length → s + o ≤ q → (∀ j, j < o → B (s + j) = (kw k).getD j 0) → AA (Call (d + 4)) y_Reader_knownWord Q 9 [.ref 23, .int (nI k), .int (nI (s + o)), .int 1, .int (nI (kst k + o))] [] μ := by
      intro m
      induction m with
      | zero =>
        intro o ho h1 h2
        have ho : o = (kw k).length := by omega
        rw [ho] at h1 h2 ⊢
        refine b_Reader_knownWord_9 (Str_len_1 hs ⟨_, rfl, fun z => absurd (le32.mp z) (by rw [nI_i (by omega)]; show ¬ (61 : Int) ≤ _; omega), fun _ => Str_char_1 hs (by omega) ⟨_, rfl, fun z => absurd k3 z, fun _ => ⟨fun z => absurd z (by decide), fun _ => ⟨fun z => ?_, fun z => ?_⟩⟩⟩⟩)
        · have g := hno (fun y => z (by rw [h4, show s + (kw k).length = q by have := (wl_iff.mp y).1; omega]))
          rw [← k1] at g
          rw [h6, nI_1, nI_1]
          exact g
        · refine hy (wl_iff.mpr ⟨?_, h2⟩)
          rw [h4] at z
          have := congrArg Int32.toInt z
          rw [nI_i (by omega), nI_i (by omega)] at this
          omega
      | succ m ihm =>
        intro o ho h1 h2
        obtain ⟨c1, c2⟩ := k4 o (by omega)
        refine b_Reader_knownWord_9 (Str_len_1 hs ⟨_, rfl, fun z => absurd (le32.mp z) (by rw [nI_i (by omega)]; show ¬ (61 : Int) ≤ _; omega), fun _ => Str_char_1 hs (by omega) ⟨_, rfl, fun _ => ⟨fun z => absurd z (by decide), fun _ => ⟨fun z => ?_, fun z => ?_⟩⟩, fun z => absurd (c1.symm.trans z) c2⟩⟩)
        · rw [nI_1]
          rw [h4] at z
          have z := le32.mp z
          rw [nI_i (by omega), nI_i (by omega)] at z
          exact Z m (o + 1) (by omega) (fun y => by have := (wl_iff.mp y).1; omega) _
        · rw [h4] at z
          have z := Int.not_le.mp (fun y => z (le32.mpr y))
          rw [nI_i (by omega), nI_i (by omega)] at z
          refine ⟨nI_v (by omega) (by omega), Str_char_1 hs (by omega) ⟨_, rfl, ?_⟩⟩
          rw [nI_c (by omega), hB (s + o) (by omega) (by omega), c1, nI_1, nI_1]
          refine ⟨fun y => Z m (o + 1) (by omega) (fun w => y ((wl_iff.mp w).2 o (by omega))) _, fun y => ihm (o + 1) (by omega) (by omega) (fun j hj => ?_)⟩
          by_cases w : j = o
          · rw [w]; exact y
          · exact h2 j (by omega)
    exact G (kw k).length 0 (by omega) (by omega) (fun j hj => absurd hj (by omega))
theorem span_s {p : Int32 → Bool} {B : Nat → Int32} {k h : Nat} : spanF p B (k + 1) h = if p (B h) = true then spanF p B k (h + 1) else h := rfl
theorem n23 : ¬ ((1 : Int32) = 2 ∨ (1 : Int32) = 3) := by decide
/-- bytes on the class's tape -/
def byX (B : Nat → Int32) (n : Nat) (μ : Mem) : Prop := n ≤ 160 ∧ μ.1 23 1 = nI n ∧ (∀ i, i < n → μ.1 24 i = B i) ∧ strX μ
def frN (μ μ' : Mem) : Prop := Only [23] μ μ' ∧ ∀ k, k < 4 ∨ 7 < k → μ'.1 23 k = μ.1 23 k
theorem frN.rf {μ : Mem} : frN μ μ := ⟨Only.rf, fun _ _ => rfl⟩
theorem frN.trans {a b c : Mem} (h1 : frN a b) (h2 : frN b c) : frN a c := ⟨h1.1.trans h2.1, fun k hk => (h2.2 k hk).trans (h1.2 k hk)⟩
theorem frN.w {μ μ' : Mem} {k : Nat} {x : Int32} (e : μ' = wI μ 23 (upd (μ.1 23) k x)) (h : 4 ≤ k ∧ k ≤ 7 := by decide) : frN μ μ' := ⟨.we e, fun j hj => by rw [e, wI_s, upd_n (by omega)]⟩
theorem byX.fr {B : Nat → Int32} {n : Nat} {μ μ' : Mem} (h : byX B n μ) (f : frN μ μ') : byX B n μ' := ⟨h.1, by rw [f.2 1 (by omega)]; exact h.2.1, fun i hi => by rw [f.1.i 24]; exact h.2.2.1 i hi, h.2.2.2.fr f.1⟩
def tokX (τ : TK) (μ : Mem) : Prop := μ.1 23 5 = τ.1 ∧ μ.1 23 6 = nI τ.2.2.1 ∧ μ.1 23 4 = nI τ.2.2.2 ∧ (τ.1 = 2 ∨ τ.1 = 3 → μ.1 23 7 = τ.2.1)
theorem Reader_isLetter_ok {d : Nat} {Q : QQ} {μ : Mem} {a : Int32} (hQ : Q (.int (b2p (isAl a = true))) μ) : Call (d + 1) y_Reader_isLetter [.int a] μ Q := by
  have e : isAl a = true ↔ ¬ a < 97 ∧ ¬ (122 : Int32) < a := by
    unfold isAl
    rw [decide_eq_true_iff, lt32, lt32]
    show _ ↔ ¬ _ < (97 : Int) ∧ ¬ (122 : Int) < _
    omega
  refine b_Reader_isLetter_0 ⟨fun z => ⟨by decide, bQ0 hQ (fun y => (e.mp y).1 z)⟩, fun z => ⟨fun z2 => ⟨by decide, bQ0 hQ (fun y => (e.mp y).2 z2)⟩, fun z2 => ⟨by decide, bQ1 hQ (e.mpr ⟨z, z2⟩)⟩⟩⟩
theorem Reader_isDigit_ok {d : Nat} {Q : QQ} {μ : Mem} {a : Int32} (hQ : Q (.int (b2p (isDg a = true))) μ) : Call (d + 1) y_Reader_isDigit [.int a] μ Q := by
  have e : isDg a = true ↔ ¬ a < 48 ∧ ¬ (57 : Int32) < a := by
    unfold isDg
    rw [decide_eq_true_iff, lt32, lt32]
    show _ ↔ ¬ _ < (48 : Int) ∧ ¬ (57 : Int) < _
    omega
  refine b_Reader_isDigit_0 ⟨fun z => ⟨by decide, bQ0 hQ (fun y => (e.mp y).1 z)⟩, fun z => ⟨fun z2 => ⟨by decide, bQ0 hQ (fun y => (e.mp y).2 z2)⟩, fun z2 => ⟨by decide, bQ1 hQ (e.mpr ⟨z, z2⟩)⟩⟩⟩
theorem Reader_isBlank_ok {d : Nat} {Q : QQ} {μ : Mem} {a : Int32} (hQ : Q (.int (b2p (isBl a = true))) μ) : Call (d + 1) y_Reader_isBlank [.int a] μ Q := by
  have e : isBl a = true ↔ a = 32 ∨ a = 10 := by
    unfold isBl
    rw [decide_eq_true_iff]
  refine b_Reader_isBlank_0 ⟨fun z => ⟨by decide, bQ1 hQ (e.mpr (Or.inl z))⟩, fun z => ⟨fun z2 => ⟨by decide, bQ0 hQ (fun y => (e.mp y).elim z z2)⟩, fun z2 => ⟨by decide, bQ1 hQ (e.mpr (Or.inr z2))⟩⟩⟩
theorem Reader_nextWord_ok {d s n : Nat} {Q : QQ} {μ : Mem} {B : Nat → Int32} (hb : byX B n μ) (hs : s < n) (h6 : μ.1 23 6 = nI s) (h4 : μ.1 23 4 = nI s) (hQ : ∀ μ', frN μ μ' → tokX ((wtok (knF (wrdL B s (spanF isAl B (n - s) s)))).1, (wtok (knF (wrdL B s (spanF isAl B (n - s) s)))).2, s, spanF isAl B (n - s) s) μ' → Q .null μ') : Call (d + 6) y_Reader_nextWord [.ref 23] μ Q := by
  have hn := hb.1
  have fin : ∀ ν q, frN μ ν → s ≤ q → q ≤ n → q = spanF isAl B (n - s) s → ν.1 23 4 = nI q → ν.1 23 6 = nI s → Call (d + 5) y_Reader_knownWord [.ref 23] ν (fun ρ μ1 => ∃ r2 : Int32, ρ = .int r2 ∧ ((¬ r2 = (-1) → (((6 : Int32) ≤ r2 → (∀ μ3 : Mem, μ3 = wI μ1 23 (upd (μ1.1 23) 5 3) → (∀ μ4 : Mem, μ4 = wI μ3 23 (upd (μ3.1 23) 7 (r2 - 6)) → (Q .null μ4)))) ∧ (¬ (6 : Int32) ≤ r2 → (∀ μ5 : Mem, μ5 = wI μ1 23 (upd (μ1.1 23) 5 (256 + r2)) → (Q .null μ5))))) ∧ (r2 = (-1) → (∀ μ6 : Mem, μ6 = wI μ1 23 (upd (μ1.1 23) 5 1) → (Q .null μ6))))) := by
    intro ν q f q1 q2 q3 v4 v6
    have hbν := hb.fr f
    refine Reader_knownWord_ok (s := s) (q := q) (B := B) hbν.2.2.2 q1 (by omega) v6 v4 (fun i hi1 hi2 => hbν.2.2.1 i (by omega)) ⟨_, rfl, ?_⟩
    rw [← q3] at hQ
    have kle := (knH_ok (l := wrdL B s q) 12 0).1
    have kle : knF (wrdL B s q) ≤ 12 := by unfold knF; omega
    generalize knF (wrdL B s q) = k at hQ kle ⊢
    unfold wtok at hQ
    by_cases k12 : k = 12
    · rw [if_pos k12]
      rw [k12] at hQ
      refine ⟨fun z => absurd rfl z, fun _ μ6 e6 => hQ μ6 (f.trans (.w e6)) ⟨by rw [e6, wI_s, upd_s]; rfl, by rw [e6, wI_s, upd_n (by decide)]; exact v6, by rw [e6, wI_s, upd_n (by decide)]; exact v4, fun z => absurd z n23⟩⟩
    · rw [if_neg k12]
      refine ⟨fun _ => ⟨fun z μ3 e3 μ4 e4 => ?_, fun z μ5 e5 => ?_⟩, fun z => absurd z (nI_ne (by omega))⟩
      · have z := le32.mp z
        rw [nI_i (by omega)] at z
        have z : (6 : Int) ≤ k := z
        rw [if_neg (by omega), if_pos (by omega)] at hQ
        have e6 : nI k - 6 = nI (k - 6) := by
          have : nI k = nI (k - 6 + 6) := by rw [show k - 6 + 6 = k by omega]
          rw [this, ← nI_add (k - 6) 6, show nI (6 : Nat) = 6 from rfl, Int32.add_sub_cancel]
        refine hQ μ4 ((f.trans (.w e3)).trans (.w e4)) ⟨?_, ?_, ?_, fun _ => ?_⟩
        · rw [e4, wI_s, upd_n (by decide), e3, wI_s, upd_s]
        · rw [e4, wI_s, upd_n (by decide), e3, wI_s, upd_n (by decide)]; exact v6
        · rw [e4, wI_s, upd_n (by decide), e3, wI_s, upd_n (by decide)]; exact v4
        · rw [e4, wI_s, upd_s, e6]
      · have z := Int.not_le.mp (fun y => z (le32.mpr y))
        rw [nI_i (by omega)] at z
        have z : (k : Int) < 6 := z
        rw [if_pos (by omega)] at hQ
        refine hQ μ5 (f.trans (.w e5)) ⟨by rw [e5, wI_s, upd_s], by rw [e5, wI_s, upd_n (by decide)]; exact v6, by rw [e5, wI_s, upd_n (by decide)]; exact v4, fun y => ?_⟩
        have : ∀ k, k < 6 → ¬ ((256 + nI k : Int32) = 2 ∨ (256 + nI k : Int32) = 3) := by decide
        exact absurd y (this k (by omega))
  have key : ∀ k h ν, h + k = n → frN μ ν → s ≤ h → spanF isAl B k h = spanF isAl B (n - s) s → ν.1 23 4 = nI h → ν.1 23 6 = nI s → AA (Call (d + 5)) y_Reader_nextWord Q 0 [.ref 23, un] [] ν := by
    intro k
    induction k with
    | zero =>
      intro h ν e f hsh hsp v4 v6
      have v1 : ν.1 23 1 = nI n := (hb.fr f).2.1
      refine b_Reader_nextWord_0 ⟨fun _ => fin ν h f hsh (by omega) (by rw [← hsp]; rfl) v4 v6, fun z => absurd (by rw [v1, v4, show h = n by omega]; exact Int32.le_refl _) z⟩
    | succ k ih =>
      intro h ν e f hsh hsp v4 v6
      have v1 : ν.1 23 1 = nI n := (hb.fr f).2.1
      refine b_Reader_nextWord_0 ⟨fun z => absurd (le32.mp z) (by rw [v1, v4, nI_i (by omega), nI_i (by omega)]; omega), fun _ => ?_⟩
      rw [v4, nI_c (by omega), (hb.fr f).2.2.1 h (by omega)]
      refine ⟨nI_v (by omega) (by omega), Reader_isLetter_ok ⟨_, rfl, ?_⟩⟩
      rw [span_s] at hsp
      refine b_z (fun z => fin ν h f hsh (by omega) (by rw [← hsp, if_neg z]) v4 v6) (fun z μ15 e15 => ?_)
      rw [v4, nI_1] at e15
      rw [if_pos z] at hsp
      exact ih (h + 1) μ15 (by omega) (f.trans (.w e15)) (by omega) hsp (by rw [e15, wI_s, upd_s]) (by rw [e15, wI_s, upd_n (by decide)]; exact v6)
  exact key (n - s) s μ (by omega) frN.rf (by omega) rfl h4 h6
theorem Reader_nextNumber_ok {d s n : Nat} {Q : QQ} {μ : Mem} {B : Nat → Int32} (hb : byX B n μ) (hs : s < n) (h6 : μ.1 23 6 = nI s) (h4 : μ.1 23 4 = nI s) (hQ : ∀ μ', frN μ μ' → tokX (if spanF isDg B (n - s) s - s ≤ 4 then (2, numF B s (spanF isDg B (n - s) s - s), s, spanF isDg B (n - s) s) else (1, 0, s, spanF isDg B (n - s) s)) μ' → Q .null μ') : Call (d + 2) y_Reader_nextNumber [.ref 23] μ Q := by
  have hn := hb.1
  refine b_Reader_nextNumber_0 (fun μ1 e1 => ?_)
  have fin : ∀ ν q, frN μ ν → s ≤ q → q ≤ n → q = spanF isDg B (n - s) s → ν.1 23 4 = nI q → ν.1 23 6 = nI s → ν.1 23 7 = numF B s (q - s) → (((4 : Int32) < ((ν.1 23 4) - (ν.1 23 6)) → (∀ μ1 : Mem, μ1 = wI ν 23 (upd (ν.1 23) 5 1) → (Q .null μ1))) ∧ (¬ (4 : Int32) < ((ν.1 23 4) - (ν.1 23 6)) → (∀ μ2 : Mem, μ2 = wI ν 23 (upd (ν.1 23) 5 2) → (Q .null μ2)))) := by
    intro ν q f q1 q2 q3 v4 v6 v7
    rw [← q3] at hQ
    have e : (nI q - nI s).toInt = (q : Int) - s := by
      rw [sub32 (by rw [nI_i (by omega), nI_i (by omega)]; omega) (by rw [nI_i (by omega), nI_i (by omega)]; omega), nI_i (by omega), nI_i (by omega)]
    rw [v4, v6]
    refine ⟨fun z μ1 e1 => ?_, fun z μ1 e1 => ?_⟩
    · have z := lt32.mp z
      rw [e] at z
      have z : (4 : Int) < _ := z
      rw [if_neg (by omega)] at hQ
      exact hQ μ1 (f.trans (.w e1)) ⟨by rw [e1, wI_s, upd_s], by rw [e1, wI_s, upd_n (by decide)]; exact v6, by rw [e1, wI_s, upd_n (by decide)]; exact v4, fun y => absurd y n23⟩
    · have z := Int.not_lt.mp (fun y => z (lt32.mpr y))
      rw [e] at z
      have z : _ ≤ (4 : Int) := z
      rw [if_pos (by omega)] at hQ
      exact hQ μ1 (f.trans (.w e1)) ⟨by rw [e1, wI_s, upd_s], by rw [e1, wI_s, upd_n (by decide)]; exact v6, by rw [e1, wI_s, upd_n (by decide)]; exact v4, fun y => by rw [e1, wI_s, upd_n (by decide)]; exact v7⟩
  have key : ∀ k h ν, h + k = n → frN μ ν → s ≤ h → spanF isDg B k h = spanF isDg B (n - s) s → ν.1 23 4 = nI h → ν.1 23 6 = nI s → ν.1 23 7 = numF B s (h - s) → AA (Call (d + 1)) y_Reader_nextNumber Q 3 [.ref 23] [] ν := by
    intro k
    induction k with
    | zero =>
      intro h ν e f hsh hsp v4 v6 v7
      have v1 : ν.1 23 1 = nI n := (hb.fr f).2.1
      refine b_Reader_nextNumber_3 ⟨fun _ => fin ν h f hsh (by omega) (by rw [← hsp]; rfl) v4 v6 v7, fun z => absurd (by rw [v1, v4, show h = n by omega]; exact Int32.le_refl _) z⟩
    | succ k ih =>
      intro h ν e f hsh hsp v4 v6 v7
      have v1 : ν.1 23 1 = nI n := (hb.fr f).2.1
      have vh : vp_in (nI h) 160 := nI_v (by omega) (by omega)
      have fin' := fin ν h f hsh (by omega)
      refine b_Reader_nextNumber_3 ⟨fun z => absurd (le32.mp z) (by rw [v1, v4, nI_i (by omega), nI_i (by omega)]; omega), fun _ => ?_⟩
      have vB : ν.1 24 ((ν.1 23 4).toNatClampNeg) = B h := by rw [v4, nI_c (by omega)]; exact (hb.fr f).2.2.1 h (by omega)
      rw [vB]
      rw [span_s] at hsp
      refine ⟨by rw [v4]; exact vh, Reader_isDigit_ok ⟨_, rfl, b_z (fun z => fin' (by rw [← hsp, if_neg z]) v4 v6 v7) (fun z => ⟨by rw [v4]; exact vh, fun μ7 e7 μ8 e8 => ?_⟩)⟩⟩
      rw [v7, vB] at e7
      have e74 : μ7.1 23 4 = nI h := by rw [e7, wI_s, upd_n (by decide)]; exact v4
      rw [e74, nI_1] at e8
      rw [if_pos z] at hsp
      refine ih (h + 1) μ8 (by omega) ((f.trans (.w e7)).trans (.w e8)) (by omega) hsp (by rw [e8, wI_s, upd_s]) (by rw [e8, wI_s, upd_n (by decide), e7, wI_s, upd_n (by decide)]; exact v6) ?_
      rw [e8, wI_s, upd_n (by decide), e7, wI_s, upd_s, show h + 1 - s = (h - s) + 1 by omega]
      show _ = numF B s (h - s) * 10 + B (s + (h - s)) - 48
      rw [show s + (h - s) = h by omega]
  exact key (n - s) s μ1 (by omega) (.w e1) (by omega) rfl (by rw [e1, wI_s, upd_n (by decide)]; exact h4) (by rw [e1, wI_s, upd_n (by decide)]; exact h6) (by rw [e1, wI_s, upd_s, Nat.sub_self]; rfl)
theorem Reader_next_ok {d h n : Nat} {Q : QQ} {μ : Mem} {B : Nat → Int32} (hb : byX B n μ) (hr : ∀ i, i < n → rng (B i) 0 255) (hh : h ≤ n) (h4 : μ.1 23 4 = nI h) (hQ : ∀ μ', frN μ μ' → tokX (lexF B n h) μ' → Q .null μ') : Call (d + 7) y_Reader_next [.ref 23] μ Q := by
  have hn := hb.1
  have key : ∀ k h ν, h + k = n → frN μ ν → ν.1 23 4 = nI h → (∀ μ', frN μ μ' → tokX (lexG B n k h) μ' → Q .null μ') → AA (Call (d + 6)) y_Reader_next Q 0 [.ref 23] [] ν := by
    intro k
    induction k with
    | zero =>
      intro h ν e f v4 hQ
      have v1 : ν.1 23 1 = nI n := (hb.fr f).2.1
      have hhn : h = n := by omega
      refine b_Reader_next_0 ⟨fun _ μ1 e1 => ⟨fun z => ?_, fun _ μ14 e14 => ?_⟩, fun z => absurd (by rw [v1, v4, hhn]; exact Int32.le_refl _) z⟩
      · have z := lt32.mp z
        rw [e1, wI_s, upd_n (by decide), upd_n (by decide), v1, v4, hhn] at z
        omega
      · refine hQ μ14 ((f.trans (.w e1)).trans (.w e14)) ⟨by rw [e14, wI_s, upd_s]; rfl, ?_, ?_, fun y => absurd y (by simp [lexG])⟩
        · rw [e14, wI_s, upd_n (by decide), e1, wI_s, upd_s]; exact v4
        · rw [e14, wI_s, upd_n (by decide), e1, wI_s, upd_n (by decide)]; exact v4
    | succ k ih =>
      intro h ν e f v4 hQ
      have v1 : ν.1 23 1 = nI n := (hb.fr f).2.1
      have vh : vp_in (nI h) 160 := nI_v (by omega) (by omega)
      have hk : n - h = k + 1 := by omega
      refine b_Reader_next_0 ⟨fun z => absurd (le32.mp z) (by rw [v1, v4, nI_i (by omega), nI_i (by omega)]; omega), fun _ => ?_⟩
      have vB : ν.1 24 ((ν.1 23 4).toNatClampNeg) = B h := by rw [v4, nI_c (by omega)]; exact (hb.fr f).2.2.1 h (by omega)
      rw [vB]
      unfold lexG at hQ
      refine ⟨by rw [v4]; exact vh, Reader_isBlank_ok ⟨_, rfl, b_z (fun z μ17 e17 => ?_) (fun z μ31 e31 => ?_)⟩⟩
      · rw [if_neg z] at hQ
        have f17 : frN μ μ17 := f.trans (.w e17)
        have b17 := hb.fr f17
        have w4 : μ17.1 23 4 = nI h := by rw [e17, wI_s, upd_n (by decide)]; exact v4
        have w6 : μ17.1 23 6 = nI h := by rw [e17, wI_s, upd_s]; exact v4
        have w1 : μ17.1 23 1 = nI n := b17.2.1
        have wB : μ17.1 24 (Int32.toNatClampNeg (μ17.1 23 4)) = B h := by rw [w4, nI_c (by omega)]; exact b17.2.2.1 h (by omega)
        refine ⟨fun _ => ?_, fun z => absurd (lt32.mpr (by rw [w4, w1, nI_i (by omega), nI_i (by omega)]; omega)) z⟩
        rw [wB]
        unfold tokA at hQ
        refine ⟨by rw [w4]; exact vh, Reader_isLetter_ok ⟨_, rfl, b_z (fun zl => ⟨by rw [w4]; exact vh, Reader_isDigit_ok ⟨_, rfl, b_z (fun zd => ⟨by rw [w4]; exact vh, ?_⟩) (fun zd => ?_)⟩⟩) (fun zl => ?_)⟩⟩
        · rw [wB] at zd
          rw [if_neg zl, if_neg zd] at hQ
          rw [wB]
          obtain ⟨c, hc, ec, ec2⟩ := nI_ex (x := B h) (hr h (by omega)).1
          have hc2 := (hr h (by omega)).2
          rw [ec] at hQ wB ⊢
          rw [(sgC c (by omega)).1]
          refine Str_sign b17.2.2.2 (by omega) (fun y r hr0 => ⟨_, rfl, fun z => absurd z hr0, fun _ => ⟨by rw [w4]; exact vh, fun μ10 e10 μ11 e11 => ?_⟩⟩) (fun y => ⟨_, rfl, fun _ μ8 e8 μ9 e9 => ?_, fun z => absurd (by decide) z⟩)
          · rw [if_pos y] at hQ
            rw [wB] at e10
            have e104 : μ10.1 23 4 = nI h := by rw [e10, wI_s, upd_n (by decide)]; exact w4
            rw [e104, nI_1] at e11
            refine hQ μ11 ((f17.trans (.w e10)).trans (.w e11)) ⟨?_, ?_, ?_, fun q => ?_⟩
            · rw [e11, wI_s, upd_n (by decide), e10, wI_s, upd_s]
            · rw [e11, wI_s, upd_n (by decide), e10, wI_s, upd_n (by decide)]; exact w6
            · rw [e11, wI_s, upd_s]
            · have q : nI c = 2 ∨ nI c = 3 := q
              rcases q with q | q <;> (rw [q] at y; exact absurd y (by decide))
          · rw [if_neg y] at hQ
            have e84 : μ8.1 23 4 = nI h := by rw [e8, wI_s, upd_n (by decide)]; exact w4
            rw [e84, nI_1] at e9
            refine hQ μ9 ((f17.trans (.w e8)).trans (.w e9)) ⟨?_, ?_, ?_, fun q => absurd q n23⟩
            · rw [e9, wI_s, upd_n (by decide), e8, wI_s, upd_s]
            · rw [e9, wI_s, upd_n (by decide), e8, wI_s, upd_n (by decide)]; exact w6
            · rw [e9, wI_s, upd_s]
        · rw [wB] at zd
          rw [if_neg zl, if_pos zd] at hQ
          exact Reader_nextNumber_ok b17 (by omega) w6 w4 (fun μ' f' t' => hQ μ' (f17.trans f') t')
        · rw [if_pos zl] at hQ
          exact Reader_nextWord_ok b17 (by omega) w6 w4 (fun μ' f' t' => hQ μ' (f17.trans f') t')
      · rw [if_pos z] at hQ
        rw [v4, nI_1] at e31
        exact ih (h + 1) μ31 (by omega) (f.trans (.w e31)) (by rw [e31, wI_s, upd_s]) hQ
  exact key (n - h) h μ (by omega) frN.rf h4 hQ
