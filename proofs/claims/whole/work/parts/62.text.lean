/-! ===== text ===== -/
theorem Texts_add_ok {d k : Nat} {Q : QQ} {μ : Mem} (h4 : μ.1 27 4 = nI k) (hk : k < 6) (hQ : ∀ μ', Only [27, 29 + k, 36 + k] μ μ' → (∀ j, j < 160 → μ'.1 (29 + k) j = μ.1 25 j) → (∀ j, j < 3 → μ'.1 (36 + k) j = μ.1 26 j) → μ'.1 27 = upd (μ.1 27) 4 (nI (k + 1)) → Q (.int (nI k)) μ') : Call (d + 1) y_Texts_add [.ref 27, .ref 25, .ref 26] μ Q := by
  have v6 : vp_in (μ.1 27 4) 6 := by rw [h4]; exact nI_v hk (by omega)
  have ck : (μ.1 27 4).toNatClampNeg = k := by rw [h4]; exact nI_c (by omega)
  have w1 : wlen 0 (29 + k) = 160 := by rcases (show k = 0 ∨ k = 1 ∨ k = 2 ∨ k = 3 ∨ k = 4 ∨ k = 5 by omega) with q | q | q | q | q | q <;> subst q <;> decide
  have w2 : wlen 0 (36 + k) = 3 := by rcases (show k = 0 ∨ k = 1 ∨ k = 2 ∨ k = 3 ∨ k = 4 ∨ k = 5 by omega) with q | q | q | q | q | q <;> subst q <;> decide
  refine b_Texts_add_0 ⟨fun _ => ⟨v6, ?_⟩, fun z => absurd (lt32.mpr (by rw [h4, nI_i (by omega)]; show _ < (6 : Int); omega)) z⟩
  rw [ck, w1]
  refine ⟨by decide, fun μ1 e1 => ?_⟩
  have k1 : μ1.1 27 = μ.1 27 := by rw [e1, wI_n (by omega)]
  have k26 : μ1.1 26 = μ.1 26 := by rw [e1, wI_n (by omega)]
  rw [k1, ck, w2]
  refine ⟨v6, by decide, fun μ2 e2 μ3 e3 => ?_⟩
  have k2 : μ2.1 27 = μ.1 27 := by rw [e2, wI_n (by omega), k1]
  rw [k2, h4] at e3 ⊢
  rw [nI_1] at e3
  refine hQ μ3 ?_ (fun j hj => ?_) (fun j hj => ?_) ?_
  · intro a ha
    simp at ha
    rw [e3, wI_n (by omega), wI_2, e2, wI_n (by omega), wI_2, e1, wI_n (by omega), wI_2]
    exact ⟨rfl, rfl⟩
  · rw [e3, wI_n (by omega), e2, wI_n (by omega), e1, wI_s]
    exact cp0 hj
  · rw [e3, wI_n (by omega), e2, wI_s, k26]
    exact cp0 hj
  · rw [e3, wI_s]
theorem RdM.cg {b b' : Nat → Int32} {n : Int32} {c c' : Nat → List Int32} (h : RdM b n c) (hb : ∀ i, i < 160 → b' i = b i) (hc : ∀ w, w < 3 → c' w = c w) : RdM b' n c' := by
  intro d t w Q ν ht hw hB hn hQ
  refine h d t w Q ν ht hw (fun i hi => by rw [hB i hi, hb i hi]) hn (fun ν' o1 o2 => ?_)
  have := hQ ν' o1 o2
  rw [hc w hw] at this
  exact this
theorem getD_app1 {a b : List Int32} {j : Nat} (h : j < a.length) : (a ++ b).getD j 0 = a.getD j 0 := by
  rw [List.getD_eq_getElem?_getD, List.getElem?_append_left h, List.getD_eq_getElem?_getD]
theorem getD_app2 {a b : List Int32} {j : Nat} : (a ++ b).getD (a.length + j) 0 = b.getD j 0 := by
  rw [List.getD_eq_getElem?_getD, List.getElem?_append_right (by omega), show a.length + j - a.length = j by omega, List.getD_eq_getElem?_getD]
/-- one text more -/
def txS (tx : Nat → Nat → List Int32) (k : Nat) (c0 c1 c2 : List Int32) : Nat → Nat → List Int32 := fun t p => if t = k then (if p = 0 then c0 else if p = 1 then c1 else c2) else tx t p
theorem TxX.add {tx : Nat → Nat → List Int32} {x x' : Mem} {k : Nat} {c0 c1 c2 : List Int32} (h : TxX tx x) (h4 : x.1 27 4 = nI k) (hk : k < 6) (h4' : x'.1 27 4 = nI (k + 1)) (hx : ∀ t, t < k → x'.1 (29 + t) = x.1 (29 + t) ∧ x'.1 (36 + t) = x.1 (36 + t)) (k0 : okK c0 31) (k1 : okK c1 31) (k2 : okK c2 31) (hl : c0.length + c1.length + c2.length ≤ 160) (hc : ∀ j, j < (c0 ++ c1 ++ c2).length → x'.1 (29 + k) j = (c0 ++ c1 ++ c2).getD j 0) (e0 : x'.1 (36 + k) 0 = nI c0.length) (e1 : x'.1 (36 + k) 1 = nI (c0.length + c1.length)) (e2 : x'.1 (36 + k) 2 = nI (c0.length + c1.length + c2.length)) : TxX (txS tx k c0 c1 c2) x' := by
  intro t ht p hp
  rw [h4', nI_i (by omega)] at ht
  unfold txS
  by_cases q : t = k
  · rw [if_pos q]
    subst q
    have hc : ∀ j, j < c0.length + c1.length + c2.length → x'.1 (29 + t) j = (c0 ++ (c1 ++ c2)).getD j 0 := fun j hj => by rw [← List.append_assoc]; exact hc j (by simp; omega)
    rcases (show p = 0 ∨ p = 1 ∨ p = 2 by omega) with y | y | y <;> subst y
    · refine ⟨k0, 0, fun j hj => ?_, by simp; omega, fun _ => rfl, fun z => absurd rfl z, ?_⟩
      · have hj : j < c0.length := hj
        rw [Nat.zero_add, hc j (by omega), getD_app1 hj]
        rfl
      · rw [Nat.zero_add]; exact e0
    · refine ⟨k1, c0.length, fun j hj => ?_, by show c0.length + c1.length ≤ 160; omega, fun z => absurd z (by decide), fun _ => e0, e1⟩
      have hj : j < c1.length := hj
      rw [hc _ (by omega), getD_app2, getD_app1 hj]
      rfl
    · refine ⟨k2, c0.length + c1.length, fun j hj => ?_, by show c0.length + c1.length + c2.length ≤ 160; omega, fun z => absurd z (by decide), fun _ => e1, e2⟩
      have hj : j < c2.length := hj
      rw [hc _ (by omega), Nat.add_assoc, getD_app2, getD_app2]
      rfl
  · rw [if_neg q]
    have := h t (by rw [h4, nI_i (by omega)]; omega) p hp
    rw [(hx t (by omega)).1, (hx t (by omega)).2]
    exact this
theorem TxM.add {tx : Nat → Nat → List Int32} {m m' : Mem} {k : Nat} {c0 c1 c2 : List Int32} (h : TxM tx m) (h3 : m.1 0 3 = nI k) (hk : k < 6) (h3' : m'.1 0 3 = nI (k + 1)) (h1 : ∀ t i, t < k → i < 160 → m'.1 1 (160 * t + i) = m.1 1 (160 * t + i)) (h2 : ∀ t, t < k → m'.1 2 t = m.1 2 t) (h13 : m'.1 13 = m.1 13) (h12 : m'.2 12 = m.2 12) (hn : RdM (fun i => m'.1 1 (160 * k + i)) (m'.1 2 k) (txS tx k c0 c1 c2 k)) : TxM (txS tx k c0 c1 c2) m' := by
  obtain ⟨a, b⟩ := h
  have lo : ∀ t, t ≠ k → txS tx k c0 c1 c2 t = tx t := fun t ht => funext fun p => if_neg ht
  constructor
  · intro t ht
    rw [h3', nI_i (by omega)] at ht
    by_cases q : t = k
    · rw [q]; exact hn
    · have := a t (by rw [h3, nI_i (by omega)]; omega)
      rw [h2 t (by omega), lo t q]
      exact this.cg (fun i hi => h1 t i (by omega) hi) (fun _ _ => rfl)
  · rw [h3', h13, h12]
    intro j hj
    rcases b j hj with z | ⟨t, w, u, hh, l, n, p, mm, q1, q2, q3, q4, q5, q6, q7, q8, q9, q10⟩
    · exact Or.inl z
    · rw [h3, nI_i (by omega)] at q1
      refine Or.inr ⟨t, w, u, hh, l, n, p, mm, by rw [nI_i (by omega)]; omega, q2, q3, q4, q5, q6, q7, q8, q9, ?_⟩
      rw [lo t (by omega)]
      exact q10
theorem TxM.blk {tx : Nat → Nat → List Int32} {m m' : Mem} {k : Nat} (h : TxM tx m) (h3 : m.1 0 3 = nI k) (hk : k ≤ 6) (h3' : m'.1 0 3 = nI k) (h1 : ∀ t i, t < k → i < 160 → m'.1 1 (160 * t + i) = m.1 1 (160 * t + i)) (h2 : ∀ t, t < k → m'.1 2 t = m.1 2 t) (h13 : m'.1 13 = m.1 13) (h12 : m'.2 12 = m.2 12) : TxM tx m' := by
  obtain ⟨a, b⟩ := h
  constructor
  · intro t ht
    rw [h3', nI_i (by omega)] at ht
    have := a t (by rw [h3, nI_i (by omega)]; omega)
    rw [h2 t (by omega)]
    exact this.cg (fun i hi => h1 t i (by omega) hi) (fun _ _ => rfl)
  · rw [h3', h13, h12, ← h3]
    exact b
/-- the reference, up to its reading -/
theorem M_text_go {d k n : Nat} {Q : QQ} {m : Mem} (h3 : m.1 0 3 = nI k) (hk : k < 6) (h6 : m.1 0 6 = nI n) (hn : n ≤ 160) (hg : ∀ m2, (∀ a, a ≠ 0 → a ≠ 1 → a ≠ 2 → m2.1 a = m.1 a) → m2.2 12 = m.2 12 → (∀ j, j ≠ 6 → m2.1 0 j = m.1 0 j) → m2.1 0 6 = 0 → (∀ i, i < n → m2.1 1 (160 * k + i) = m.1 3 i) → (∀ j, j < 160 * k ∨ 160 * k + n ≤ j → m2.1 1 j = m.1 1 j) → m2.1 2 = upd (m.1 2) k (nI n) → Call d y_M_read [.ref 0, .int (nI k), .int 0] m2 (fun ρ μ3 => ∃ r4 : Int32, ρ = .int r4 ∧ (((μ3.1 0 32) = 0 → (∀ μ5 : Mem, μ5 = wI μ3 0 (upd (μ3.1 0) 3 ((μ3.1 0 3) + 1)) → (Q (.int ((μ5.1 0 3) - 1)) μ5))) ∧ (¬ (μ3.1 0 32) = 0 → (Q (.int ((-100) - (μ3.1 0 33))) μ3))))) : Call (d + 1) y_M_text [.ref 0] m Q := by
  refine b_M_text_0 ⟨fun _ => ?_, fun z => ?_⟩
  · refine loopN (G := fun i s => AA (Call d) y_M_text Q 8 [.ref 0, .int (nI i)] [] s) (P := fun i s => Only [1] m s ∧ (∀ j, j < i → s.1 1 (160 * k + j) = m.1 3 j) ∧ ∀ j, j < 160 * k ∨ 160 * k + n ≤ j → s.1 1 j = m.1 1 j) (N := n) ?_ ?_ 0 m (by omega) ⟨Only.rf, fun j hj => absurd hj (by omega), fun j _ => rfl⟩
    · intro s ⟨o, p1, p2⟩
      have s3 : s.1 0 3 = nI k := by rw [o.i 0]; exact h3
      have s6 : s.1 0 6 = nI n := by rw [o.i 0]; exact h6
      refine b_M_text_8 ⟨fun _ => ?_, fun z => absurd (by rw [s6]; exact Int32.le_refl _) z⟩
      rw [s3, s6, nI_c (by omega)]
      refine ⟨nI_v hk (by omega), fun m1 e1 m2 e2 => ?_⟩
      have m23 : m2.1 0 3 = nI k := by rw [e2, wI_s, upd_n (by decide), e1, wI_n (by decide)]; exact s3
      rw [m23]
      refine hg m2 (fun a h0 h1 h2 => ?_) ?_ (fun j hj => ?_) ?_ (fun i hi => ?_) (fun j hj => ?_) ?_
      · rw [e2, wI_n h0, e1, wI_n h2, o.i a (by simp; exact h1)]
      · rw [e2, wI_2, e1, wI_2]; exact o.l 12
      · rw [e2, wI_s, upd_n hj, e1, wI_n (by decide), o.i 0]
      · rw [e2, wI_s, upd_s]
      · rw [e2, wI_n (by decide), e1, wI_n (by decide)]; exact p1 i hi
      · rw [e2, wI_n (by decide), e1, wI_n (by decide)]; exact p2 j hj
      · rw [e2, wI_n (by decide), e1, wI_s, o.i 2]
    · intro i s hi ⟨o, p1, p2⟩ ih
      have s3 : s.1 0 3 = nI k := by rw [o.i 0]; exact h3
      have s6 : s.1 0 6 = nI n := by rw [o.i 0]; exact h6
      have e160 : (160 : Int32) * nI k + nI i = nI (160 * k + i) := by
        have : ∀ k, k < 6 → (160 : Int32) * nI k = nI (160 * k) := by decide
        rw [this k hk, nI_add]
      refine b_M_text_8 ⟨fun z => absurd (le32.mp z) (by rw [s6, nI_i (by omega), nI_i (by omega)]; omega), fun _ => ?_⟩
      rw [s3, e160, nI_c (by omega), nI_c (by omega), nI_1]
      refine ⟨nI_v (by omega) (by omega), nI_v (by omega) (by omega), fun μ6 e6 => ih μ6 ⟨o.trans (.we e6), fun j hj => ?_, fun j hj => ?_⟩⟩
      · rw [e6, wI_s]
        by_cases y : j = i
        · rw [y, upd_s, o.i 3]
        · rw [upd_n (by omega)]; exact p1 j (by omega)
      · rw [e6, wI_s, upd_n (by omega)]; exact p2 j hj
  · rw [h3] at z
    have := congrArg Int32.toInt z
    rw [nI_i (by omega)] at this
    have e : (6 : Int32).toInt = 6 := rfl
    omega
