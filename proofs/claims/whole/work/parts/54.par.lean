/-! ===== both read texts: side by side ===== -/
def okK (c : List Int32) (k : Nat) : Prop := ∀ env, semC env c (evF c env) k
theorem okK.mono {c : List Int32} {k k' : Nat} (h : okK c k) (hk : k ≤ k') : okK c k' := fun env => (h env).mono hk
theorem okK_of {c : List Int32} {k : Nat} {f : (Nat → Int32) → Int32} (h : ∀ env, semC env c (f env) k) (hk : k ≤ 31) : okK c k ∧ ∀ env, evF c env = f env := by
  have e : ∀ env, evF c env = f env := fun env => evF_of ((h env).mono hk)
  exact ⟨fun env => by rw [e env]; exact h env, e⟩
theorem okK.bi {a b : List Int32} {c : Int32} {k : Nat} (ha : okK a (k + 1)) (hb : okK b k) (hk : k + 1 ≤ 31) (h6 : c < -6) (hc : ¬ (c = -262 ∨ c = -261)) : okK (a ++ b ++ [c]) (k + 1) ∧ ∀ env, evF (a ++ b ++ [c]) env = biC c (evF a env) (evF b env) := okK_of (fun env => (ha env).bi (hb env) h6 hc) hk
theorem okK.un {a : List Int32} {c : Int32} {k : Nat} (ha : okK a k) (hk : k ≤ 31) (hc : c = -262 ∨ c = -261) : okK (a ++ [c]) k ∧ ∀ env, evF (a ++ [c]) env = unC c (evF a env) := okK_of (fun env => (ha env).un hc) hk
theorem biMul {a b : Int32} : biC (-42) a b = a * b := rfl
theorem biAdd {a b : Int32} : biC (-43) a b = a + b := rfl
theorem biSub {a b : Int32} : biC (-45) a b = a - b := rfl
theorem biLt {a b : Int32} : biC (-60) a b = if b ≤ a then 0 else 1 := rfl
theorem biEq {a b : Int32} : biC (-61) a b = if a = b then 1 else 0 := rfl
theorem biOr {a b : Int32} : biC (-259) a b = if a = 0 then (if b = 0 then 0 else 1) else 1 := rfl
theorem biAnd {a b : Int32} : biC (-260) a b = if a = 0 then 0 else (if b = 0 then 0 else 1) := rfl
theorem unNeg {a : Int32} : unC (-262) a = -a := rfl
theorem unNot {a : Int32} : unC (-261) a = if a = 0 then 1 else 0 := rfl
/-- a token that can be -/
def gTk (n : Nat) (τ : TK) : Prop := τ.2.2.1 ≤ n ∧ τ.2.2.2 ≤ n ∧ (¬ τ.1 = 0 → τ.2.2.1 < τ.2.2.2) ∧ (τ.1 = 2 → 0 ≤ τ.2.1.toInt) ∧ (τ.1 = 3 → ∃ k, k < 6 ∧ τ.2.1 = nI k)
theorem num_ok {B : Nat → Int32} {s : Nat} : ∀ k, k ≤ 4 → (∀ i, s ≤ i → i < s + k → isDg (B i) = true) → 0 ≤ (numF B s k).toInt ∧ (numF B s k).toInt < 10 ^ k
  | 0, _, _ => ⟨by show 0 ≤ (0 : Int32).toInt; decide, by show (0 : Int32).toInt < 10 ^ 0; decide⟩
  | k + 1, hk, h => by
    have ih := num_ok (B := B) (s := s) k (by omega) (fun i h1 h2 => h i h1 (by omega))
    have hd := dg_b.mp (h (s + k) (by omega) (by omega))
    have p4 : (10 : Int) ^ k ≤ 1000 := by
      rcases (show k = 0 ∨ k = 1 ∨ k = 2 ∨ k = 3 by omega) with q | q | q | q <;> subst q <;> decide
    have e10 : (10 : Int32).toInt = 10 := rfl
    have e48 : (48 : Int32).toInt = 48 := rfl
    show 0 ≤ (numF B s k * 10 + B (s + k) - 48).toInt ∧ (numF B s k * 10 + B (s + k) - 48).toInt < 10 ^ (k + 1)
    have m : (numF B s k * 10).toInt = (numF B s k).toInt * 10 := by rw [mul32 (by rw [e10]; omega) (by rw [e10]; omega), e10]
    have a : (numF B s k * 10 + B (s + k)).toInt = (numF B s k).toInt * 10 + (B (s + k)).toInt := by rw [add32 (by rw [m]; omega) (by rw [m]; omega), m]
    rw [sub32 (by rw [a, e48]; omega) (by rw [a, e48]; omega), a, e48, Int.pow_succ]
    omega
theorem wtok_2 {k : Nat} : ¬ (wtok k).1 = 2 := by
  unfold wtok
  by_cases h : k < 6
  · rw [if_pos h]
    have : ∀ k, k < 6 → ¬ (256 + nI k : Int32) = 2 := by decide
    exact this k h
  · rw [if_neg h]
    split
    · show ¬ (3 : Int32) = 2
      decide
    · show ¬ (1 : Int32) = 2
      decide
theorem wtok_3 {k : Nat} (h3 : (wtok k).1 = 3) : ∃ j, j < 6 ∧ (wtok k).2 = nI j := by
  unfold wtok at h3 ⊢
  by_cases h : k < 6
  · rw [if_pos h] at h3
    have : ∀ k, k < 6 → ¬ (256 + nI k : Int32) = 3 := by decide
    exact absurd h3 (this k h)
  · rw [if_neg h] at h3 ⊢
    by_cases q : k < 12
    · rw [if_pos q]
      exact ⟨k - 6, by omega, rfl⟩
    · rw [if_neg q] at h3
      exact absurd h3 (by show ¬ (1 : Int32) = 3; decide)
theorem tokA_g {B : Nat → Int32} {n h : Nat} (hh : h < n) : ((tokA B n h).1 = 2 → 0 ≤ (tokA B n h).2.1.toInt) ∧ ((tokA B n h).1 = 3 → ∃ k, k < 6 ∧ (tokA B n h).2.1 = nI k) := by
  unfold tokA
  by_cases a : isAl (B h) = true
  · rw [if_pos a]
    exact ⟨fun z => absurd z wtok_2, fun z => wtok_3 z⟩
  · rw [if_neg a]
    by_cases b : isDg (B h) = true
    · rw [if_pos b]
      have sl := span_le (p := isDg) (B := B) (n - h) h
      by_cases q : spanF isDg B (n - h) h - h ≤ 4
      · rw [if_pos q]
        exact ⟨fun _ => (num_ok _ q (fun i h1 h2 => span_in (n - h) h i h1 (by omega))).1, fun z => absurd z (by show ¬ (2 : Int32) = 3; decide)⟩
      · rw [if_neg q]
        exact ⟨fun z => absurd z (by show ¬ (1 : Int32) = 2; decide), fun z => absurd z (by show ¬ (1 : Int32) = 3; decide)⟩
    · rw [if_neg b]
      by_cases c : isSg (B h) = true
      · rw [if_pos c]
        refine ⟨fun z => ?_, fun z => ?_⟩
        · have z : B h = 2 := z
          rw [z] at c; exact absurd c (by decide)
        · have z : B h = 3 := z
          rw [z] at c; exact absurd c (by decide)
      · rw [if_neg c]
        exact ⟨fun z => absurd z (by show ¬ (1 : Int32) = 2; decide), fun z => absurd z (by show ¬ (1 : Int32) = 3; decide)⟩
theorem lexG_g {B : Nat → Int32} {n : Nat} : ∀ k h, h + k = n → ((lexG B n k h).1 = 2 → 0 ≤ (lexG B n k h).2.1.toInt) ∧ ((lexG B n k h).1 = 3 → ∃ j, j < 6 ∧ (lexG B n k h).2.1 = nI j)
  | 0, h, _ => ⟨fun z => absurd z (by show ¬ (0 : Int32) = 2; decide), fun z => absurd z (by show ¬ (0 : Int32) = 3; decide)⟩
  | k + 1, h, e => by
    unfold lexG
    split
    · exact lexG_g k (h + 1) (by omega)
    · exact tokA_g (by omega)
theorem lex_g {B : Nat → Int32} {n h : Nat} (hh : h ≤ n) : gTk n (lexF B n h) ∧ h ≤ (lexF B n h).2.2.1 := by
  have a := lex_ok (B := B) hh
  have b := lexG_g (B := B) (n := n) (n - h) h (by omega)
  exact ⟨⟨a.2.1, a.2.2.2.1, a.2.2.2.2.1, b⟩, a.1⟩
def MOk (y D : Nat) (B : Nat → Int32) (n : Nat) (τ : TK) (o : Nat) (τ' : TK) (c : List Int32) : Prop := ∀ (d t : Nat) (μ0 μ : Mem) (Q : QQ), okM B t n μ0 τ o μ → (∀ μ', okM B t n μ0 τ' o μ' → Q (.int (evF c (envM μ0))) μ') → Call (d + D) y [.ref 0] μ Q
def MBad (y D : Nat) (B : Nat → Int32) (n : Nat) (τ : TK) (o f : Nat) : Prop := ∀ (d t : Nat) (μ0 μ : Mem) (Q : QQ), okM B t n μ0 τ o μ → (∀ v μ', badM μ0 f μ' → Q (.int v) μ') → Call (d + D) y [.ref 0] μ Q
def XOk (y D : Nat) (B : Nat → Int32) (n : Nat) (τ : TK) (o : Nat) (τ' : TK) (c : List Int32) : Prop := ∀ (d : Nat) (μ0 μ : Mem) (C : List Int32) (Q : QQ), okX B n μ0 τ C μ → C.length ≤ τ.2.2.1 → (∀ μ', okX B n μ0 τ' (C ++ c) μ' → Q .null μ') → Call (d + D) y [.ref 23, .int (nI o)] μ Q
def XBad (y D : Nat) (B : Nat → Int32) (n : Nat) (τ : TK) (o f : Nat) : Prop := ∀ (d : Nat) (μ0 μ : Mem) (C : List Int32) (Q : QQ), okX B n μ0 τ C μ → C.length ≤ τ.2.2.1 → (∀ μ', badX μ0 f μ' → Q .null μ') → Call (d + D) y [.ref 23, .int (nI o)] μ Q
def JT (yM yX DM DX k : Nat) (B : Nat → Int32) (n o : Nat) (τ : TK) : Prop := (∃ τ' c, okK c k ∧ gTk n τ' ∧ τ.2.2.1 + c.length ≤ τ'.2.2.1 ∧ MOk yM DM B n τ o τ' c ∧ XOk yX DX B n τ o τ' c) ∨ ∃ f, f ≤ 160 ∧ MBad yM DM B n τ o f ∧ XBad yX DX B n τ o f
def dA (o : Nat) : Nat := 6 * (5 - o) + 6
def dO (o : Nat) : Nat := 7 * (5 - o) + 9
def kO (o : Nat) : Nat := 26 - 5 * o
abbrev JAt (B : Nat → Int32) (n o : Nat) (τ : TK) : Prop := JT y_M_atom y_Reader_readOne (dA o) (dO o) (kO o) B n o τ
abbrev JTe (B : Nat → Int32) (n o : Nat) (τ : TK) : Prop := JT y_M_term y_Reader_readTerm (dA o + 1) (dO o + 1) (kO o + 1) B n o τ
abbrev JAd (B : Nat → Int32) (n o : Nat) (τ : TK) : Prop := JT y_M_added y_Reader_readSum (dA o + 2) (dO o + 2) (kO o + 2) B n o τ
abbrev JNo (B : Nat → Int32) (n o : Nat) (τ : TK) : Prop := JT y_M_not y_Reader_readNot (dA o + 3) (dO o + 4) (kO o + 3) B n o τ
abbrev JBo (B : Nat → Int32) (n o : Nat) (τ : TK) : Prop := JT y_M_both y_Reader_readAnd (dA o + 4) (dO o + 5) (kO o + 4) B n o τ
abbrev JEi (B : Nat → Int32) (n o : Nat) (τ : TK) : Prop := JT y_M_either y_Reader_readE (dA o + 5) (dO o + 6) (kO o + 5) B n o τ
theorem sg_ne {τ : TK} {a : Int32} (h : τ.1 = a) (ha : isSg a = true) : ¬ τ.1 = 0 ∧ ¬ τ.1 = 1 := by
  rw [h]
  exact ⟨fun z => by rw [z] at ha; exact absurd ha (by decide), fun z => by rw [z] at ha; exact absurd ha (by decide)⟩
theorem as3 {C a b : List Int32} {c : Int32} : C ++ a ++ b ++ [c] = C ++ (a ++ b ++ [c]) := by simp
theorem termL {B : Nat → Int32} {n o S0 : Nat} (hr : ∀ i, i < n → rng (B i) 0 255) (hn : n ≤ 160) (ho : o ≤ 5) (JA : ∀ τ2, gTk n τ2 → S0 ≤ τ2.2.2.1 → JAt B n o τ2) : ∀ (m : Nat) (τ : TK) (c0 : List Int32), n - τ.2.2.1 < m → S0 ≤ τ.2.2.1 → gTk n τ → okK c0 (kO o + 1) →
    (∃ τ' c, okK c (kO o + 1) ∧ gTk n τ' ∧ τ.2.2.1 + c.length ≤ τ'.2.2.1 + c0.length ∧ (∀ (d t : Nat) (μ0 μ : Mem) (Q : QQ), okM B t n μ0 τ o μ → (∀ μ', okM B t n μ0 τ' o μ' → Q (.int (evF c (envM μ0))) μ') → AA (Call (d + (dA o + 0))) y_M_term Q 3 [.ref 0, .int (evF c0 (envM μ0))] [] μ) ∧ (∀ (d i : Nat) (μ0 μ : Mem) (C : List Int32) (Q : QQ), okX B n μ0 τ (C ++ c0) μ → C.length + c0.length ≤ τ.2.2.1 → i ≤ τ.2.2.1 → (∀ μ', okX B n μ0 τ' (C ++ c) μ' → Q .null μ') → AA (Call (d + (dO o + 0))) y_Reader_readTerm Q 5 [.ref 23, .int (nI o), .int (nI i)] [] μ)) ∨
    ∃ f, f ≤ 160 ∧ (∀ (d t : Nat) (μ0 μ : Mem) (Q : QQ), okM B t n μ0 τ o μ → (∀ v μ', badM μ0 f μ' → Q (.int v) μ') → AA (Call (d + (dA o + 0))) y_M_term Q 3 [.ref 0, .int (evF c0 (envM μ0))] [] μ) ∧ (∀ (d i : Nat) (μ0 μ : Mem) (C : List Int32) (Q : QQ), okX B n μ0 τ (C ++ c0) μ → C.length + c0.length ≤ τ.2.2.1 → i ≤ τ.2.2.1 → (∀ μ', badX μ0 f μ' → Q .null μ') → AA (Call (d + (dO o + 0))) y_Reader_readTerm Q 5 [.ref 23, .int (nI o), .int (nI i)] [] μ) := by
  intro m
  induction m with
  | zero => intro τ c0 h; exact absurd h (Nat.not_lt_zero _)
  | succ m ih =>
    intro τ c0 hm hS hg hc0
    have kb : kO o + 1 ≤ 31 := by unfold kO; omega
    by_cases h42 : τ.1 = 42
    · have hne : ¬ τ.1 = 0 ∧ ¬ τ.1 = 1 := by rw [h42]; decide
      have hSP := hg.2.2.1 hne.1
      obtain ⟨g2, l2⟩ := lex_g (B := B) hg.2.1
      have gP := hg.2.1
      have gS := hg.1
      have g21 := g2.1
      have op : ∀ c1, okK c1 (kO o + 0) → okK (c0 ++ c1 ++ [-42]) (kO o + 1) ∧ ∀ env, evF (c0 ++ c1 ++ [-42]) env = biC (-42) (evF c0 env) (evF c1 env) := fun c1 h1 => hc0.bi h1 kb (by decide) (by decide)
      rcases JA _ g2 (by omega) with ⟨τ3, c1, k1, g3, l3, m1, x1⟩ | ⟨f, hf, m1, x1⟩
      · obtain ⟨ok1, ev1⟩ := op c1 k1
        have g31 := g3.1
        have ln : (c0 ++ c1 ++ [-42]).length = c0.length + c1.length + 1 := by simp; omega
        rcases ih τ3 (c0 ++ c1 ++ [-42]) (by omega) (by omega) g3 ok1 with ⟨τ', c, k2, g4, l4, m2, x2⟩ | ⟨f, hf, m2, x2⟩
        · refine Or.inl ⟨τ', c, k2, g4, by omega, fun d t μ0 μ Q h hQ => ?_, fun d i μ0 μ C Q h hC hi hQ => ?_⟩
          · refine b_M_term_3 (M_isSign_ok h (by decide) ⟨_, rfl, b_z (fun z => absurd h42 z) (fun _ => M_nx_ok hr h hne.1 hne.2 hg.2.1 (fun μ3 h3 => ?_))⟩)
            have g := m2 d t μ0
            rw [ev1] at g
            exact m1 d t μ0 μ3 _ h3 (fun μ4 h4 => ⟨_, rfl, g μ4 Q h4 hQ⟩)
          · refine b_Reader_readTerm_5 ⟨fun z => absurd (le32.mp z) (by rw [nI_i (by omega)]; show ¬ (160 : Int) ≤ _; omega), fun _ => ⟨fun z => absurd (h.2.2.2.1.1.trans h42) z, fun _ => X_nx_ok hr h hg.2.1 (fun μ1 h1 => ?_)⟩⟩
            refine x1 d μ0 μ1 (C ++ c0) _ h1 (by simp; omega) (fun μ2 h2 => X_emit_ok h2 (by simp; omega) (fun μ3 h3 => ?_))
            rw [as3] at h3
            rw [nI_1]
            exact x2 d (i + 1) μ0 μ3 C Q h3 (by omega) (by omega) hQ
        · refine Or.inr ⟨f, hf, fun d t μ0 μ Q h hQ => ?_, fun d i μ0 μ C Q h hC hi hQ => ?_⟩
          · refine b_M_term_3 (M_isSign_ok h (by decide) ⟨_, rfl, b_z (fun z => absurd h42 z) (fun _ => M_nx_ok hr h hne.1 hne.2 hg.2.1 (fun μ3 h3 => ?_))⟩)
            have g := m2 d t μ0
            rw [ev1] at g
            exact m1 d t μ0 μ3 _ h3 (fun μ4 h4 => ⟨_, rfl, g μ4 Q h4 hQ⟩)
          · refine b_Reader_readTerm_5 ⟨fun z => absurd (le32.mp z) (by rw [nI_i (by omega)]; show ¬ (160 : Int) ≤ _; omega), fun _ => ⟨fun z => absurd (h.2.2.2.1.1.trans h42) z, fun _ => X_nx_ok hr h hg.2.1 (fun μ1 h1 => ?_)⟩⟩
            refine x1 d μ0 μ1 (C ++ c0) _ h1 (by simp; omega) (fun μ2 h2 => X_emit_ok h2 (by simp; omega) (fun μ3 h3 => ?_))
            rw [as3] at h3
            rw [nI_1]
            exact x2 d (i + 1) μ0 μ3 C Q h3 (by omega) (by omega) hQ
      · refine Or.inr ⟨f, hf, fun d t μ0 μ Q h hQ => ?_, fun d i μ0 μ C Q h hC hi hQ => ?_⟩
        · refine b_M_term_3 (M_isSign_ok h (by decide) ⟨_, rfl, b_z (fun z => absurd h42 z) (fun _ => M_nx_ok hr h hne.1 hne.2 hg.2.1 (fun μ3 h3 => ?_))⟩)
          exact m1 d t μ0 μ3 _ h3 (fun v μ4 h4 => ⟨_, rfl, b_M_term_3 (M_isSign_bad h4 ⟨_, rfl, fun _ => hQ _ _ h4, fun z => absurd rfl z⟩)⟩)
        · refine b_Reader_readTerm_5 ⟨fun z => absurd (le32.mp z) (by rw [nI_i (by omega)]; show ¬ (160 : Int) ≤ _; omega), fun _ => ⟨fun z => absurd (h.2.2.2.1.1.trans h42) z, fun _ => X_nx_ok hr h hg.2.1 (fun μ1 h1 => ?_)⟩⟩
          refine x1 d μ0 μ1 (C ++ c0) _ h1 (by simp; omega) (fun μ2 h2 => X_emit_bad h2 (fun μ3 h3 => ?_))
          exact b_Reader_readTerm_5 ⟨fun _ => hQ μ3 h3, fun _ => ⟨fun _ => hQ μ3 h3, fun z => absurd (h3.2.1.symm.trans z) (by decide)⟩⟩
    · skip
      refine Or.inl ⟨τ, c0, hc0, hg, Nat.le_refl _, fun d t μ0 μ Q h hQ => ?_, fun d i μ0 μ C Q h hC hi hQ => ?_⟩
      · exact b_M_term_3 (M_isSign_ok h (by decide) ⟨_, rfl, b_z (fun _ => hQ μ h) (fun z => absurd z h42)⟩)
      · exact b_Reader_readTerm_5 ⟨fun _ => hQ μ h, fun _ => ⟨fun _ => hQ μ h, fun z => absurd (h.2.2.2.1.1.symm.trans z) h42⟩⟩
theorem termJ {B : Nat → Int32} {n o : Nat} {τ : TK} (hr : ∀ i, i < n → rng (B i) 0 255) (hn : n ≤ 160) (ho : o ≤ 5) (hg : gTk n τ) (JA : ∀ τ2, gTk n τ2 → τ.2.2.1 ≤ τ2.2.2.1 → JAt B n o τ2) : JTe B n o τ := by
  have gS := hg.1
  rcases JA τ hg (Nat.le_refl _) with ⟨τ1, c1, k1, g1, l1, m1, x1⟩ | ⟨f, hf, m1, x1⟩
  · have g11 := g1.1
    rcases termL hr hn ho JA (n - τ1.2.2.1 + 1) τ1 c1 (by omega) (by omega) g1 (k1.mono (by omega)) with ⟨τ', c, k2, g4, l4, m2, x2⟩ | ⟨f, hf, m2, x2⟩
    · refine Or.inl ⟨τ', c, k2, g4, by omega, fun d t μ0 μ Q h hQ => ?_, fun d μ0 μ C Q h hC hQ => ?_⟩
      · exact b_M_term_0 (m1 d t μ0 μ _ h (fun μ1 h1 => ⟨_, rfl, m2 d t μ0 μ1 Q h1 hQ⟩))
      · exact b_Reader_readTerm_0 (x1 d μ0 μ C _ h hC (fun μ1 h1 => x2 d 0 μ0 μ1 C Q h1 (by omega) (by omega) hQ))
    · refine Or.inr ⟨f, hf, fun d t μ0 μ Q h hQ => ?_, fun d μ0 μ C Q h hC hQ => ?_⟩
      · exact b_M_term_0 (m1 d t μ0 μ _ h (fun μ1 h1 => ⟨_, rfl, m2 d t μ0 μ1 Q h1 hQ⟩))
      · exact b_Reader_readTerm_0 (x1 d μ0 μ C _ h hC (fun μ1 h1 => x2 d 0 μ0 μ1 C Q h1 (by omega) (by omega) hQ))
  · refine Or.inr ⟨f, hf, fun d t μ0 μ Q h hQ => ?_, fun d μ0 μ C Q h hC hQ => ?_⟩
    · exact b_M_term_0 (m1 d t μ0 μ _ h (fun v μ4 h4 => ⟨_, rfl, b_M_term_3 (M_isSign_bad h4 ⟨_, rfl, fun _ => hQ _ _ h4, fun z => absurd rfl z⟩)⟩))
    · exact b_Reader_readTerm_0 (x1 d μ0 μ C _ h hC (fun μ3 h3 => b_Reader_readTerm_5 ⟨fun _ => hQ μ3 h3, fun _ => ⟨fun _ => hQ μ3 h3, fun z => absurd (h3.2.1.symm.trans z) (by decide)⟩⟩))
theorem addedL {B : Nat → Int32} {n o S0 : Nat} (hr : ∀ i, i < n → rng (B i) 0 255) (hn : n ≤ 160) (ho : o ≤ 5) (JA : ∀ τ2, gTk n τ2 → S0 ≤ τ2.2.2.1 → JTe B n o τ2) : ∀ (m : Nat) (τ : TK) (c0 : List Int32), n - τ.2.2.1 < m → S0 ≤ τ.2.2.1 → gTk n τ → okK c0 (kO o + 2) →
    (∃ τ' c, okK c (kO o + 2) ∧ gTk n τ' ∧ τ.2.2.1 + c.length ≤ τ'.2.2.1 + c0.length ∧ (∀ (d t : Nat) (μ0 μ : Mem) (Q : QQ), okM B t n μ0 τ o μ → (∀ μ', okM B t n μ0 τ' o μ' → Q (.int (evF c (envM μ0))) μ') → AA (Call (d + (dA o + 1))) y_M_added Q 3 [.ref 0, .int (evF c0 (envM μ0)), un, un] [] μ) ∧ (∀ (d i : Nat) (μ0 μ : Mem) (C : List Int32) (Q : QQ), okX B n μ0 τ (C ++ c0) μ → C.length + c0.length ≤ τ.2.2.1 → i ≤ τ.2.2.1 → (∀ μ', okX B n μ0 τ' (C ++ c) μ' → Q .null μ') → AA (Call (d + (dO o + 1))) y_Reader_readSum Q 5 [.ref 23, .int (nI o), .int (nI i), un] [] μ)) ∨
    ∃ f, f ≤ 160 ∧ (∀ (d t : Nat) (μ0 μ : Mem) (Q : QQ), okM B t n μ0 τ o μ → (∀ v μ', badM μ0 f μ' → Q (.int v) μ') → AA (Call (d + (dA o + 1))) y_M_added Q 3 [.ref 0, .int (evF c0 (envM μ0)), un, un] [] μ) ∧ (∀ (d i : Nat) (μ0 μ : Mem) (C : List Int32) (Q : QQ), okX B n μ0 τ (C ++ c0) μ → C.length + c0.length ≤ τ.2.2.1 → i ≤ τ.2.2.1 → (∀ μ', badX μ0 f μ' → Q .null μ') → AA (Call (d + (dO o + 1))) y_Reader_readSum Q 5 [.ref 23, .int (nI o), .int (nI i), un] [] μ) := by
  intro m
  induction m with
  | zero => intro τ c0 h; exact absurd h (Nat.not_lt_zero _)
  | succ m ih =>
    intro τ c0 hm hS hg hc0
    have kb : kO o + 2 ≤ 31 := by unfold kO; omega
    by_cases h43 : τ.1 = 43
    · have hne : ¬ τ.1 = 0 ∧ ¬ τ.1 = 1 := by rw [h43]; decide
      have hSP := hg.2.2.1 hne.1
      obtain ⟨g2, l2⟩ := lex_g (B := B) hg.2.1
      have gP := hg.2.1
      have gS := hg.1
      have g21 := g2.1
      have op : ∀ c1, okK c1 (kO o + 1) → okK (c0 ++ c1 ++ [-43]) (kO o + 2) ∧ ∀ env, evF (c0 ++ c1 ++ [-43]) env = biC (-43) (evF c0 env) (evF c1 env) := fun c1 h1 => hc0.bi h1 kb (by decide) (by decide)
      rcases JA _ g2 (by omega) with ⟨τ3, c1, k1, g3, l3, m1, x1⟩ | ⟨f, hf, m1, x1⟩
      · obtain ⟨ok1, ev1⟩ := op c1 k1
        have g31 := g3.1
        have ln : (c0 ++ c1 ++ [-43]).length = c0.length + c1.length + 1 := by simp; omega
        rcases ih τ3 (c0 ++ c1 ++ [-43]) (by omega) (by omega) g3 ok1 with ⟨τ', c, k2, g4, l4, m2, x2⟩ | ⟨f, hf, m2, x2⟩
        · refine Or.inl ⟨τ', c, k2, g4, by omega, fun d t μ0 μ Q h hQ => ?_, fun d i μ0 μ C Q h hC hi hQ => ?_⟩
          · refine b_M_added_3 (M_isSign_ok h (by decide) ⟨_, rfl, b_nz (fun _ => ⟨fun z => absurd (lgz.mpr ((tok_sg h.2.2.2.2 (a := 43) (by decide)).mpr h43).2) z, fun _ => M_nx_ok hr h hne.1 hne.2 hg.2.1 (fun μ3 h3 => ?_)⟩) (fun z => absurd h43 z)⟩)
            have g := m2 d t μ0
            rw [ev1] at g
            refine m1 d t μ0 μ3 _ h3 (fun μ4 h4 => ⟨_, rfl, fun z => absurd z (by decide), fun _ => ?_⟩)
            exact AA_weak (by exact ⟨Or.inl rfl, Or.inl rfl, Or.inr ⟨rfl, rfl⟩, Or.inr ⟨rfl, rfl⟩, trivial⟩) (g μ4 Q h4 hQ)
          · refine b_Reader_readSum_5 ⟨fun z => absurd (le32.mp z) (by rw [nI_i (by omega)]; show ¬ (160 : Int) ≤ _; omega), fun _ => ⟨fun _ => ?_, fun z => absurd (h.2.2.2.1.1.trans h43) z⟩⟩
            rw [h.2.2.2.1.1, h43]
            refine X_nx_ok hr h hg.2.1 (fun μ1 h1 => ?_)
            refine x1 d μ0 μ1 (C ++ c0) _ h1 (by simp; omega) (fun μ2 h2 => X_emit_ok h2 (by simp; omega) (fun μ3 h3 => ?_))
            rw [as3] at h3
            rw [nI_1]
            exact AA_weak (by exact ⟨Or.inl rfl, Or.inl rfl, Or.inl rfl, Or.inr ⟨rfl, rfl⟩, trivial⟩) (x2 d (i + 1) μ0 μ3 C Q h3 (by omega) (by omega) hQ)
        · refine Or.inr ⟨f, hf, fun d t μ0 μ Q h hQ => ?_, fun d i μ0 μ C Q h hC hi hQ => ?_⟩
          · refine b_M_added_3 (M_isSign_ok h (by decide) ⟨_, rfl, b_nz (fun _ => ⟨fun z => absurd (lgz.mpr ((tok_sg h.2.2.2.2 (a := 43) (by decide)).mpr h43).2) z, fun _ => M_nx_ok hr h hne.1 hne.2 hg.2.1 (fun μ3 h3 => ?_)⟩) (fun z => absurd h43 z)⟩)
            have g := m2 d t μ0
            rw [ev1] at g
            refine m1 d t μ0 μ3 _ h3 (fun μ4 h4 => ⟨_, rfl, fun z => absurd z (by decide), fun _ => ?_⟩)
            exact AA_weak (by exact ⟨Or.inl rfl, Or.inl rfl, Or.inr ⟨rfl, rfl⟩, Or.inr ⟨rfl, rfl⟩, trivial⟩) (g μ4 Q h4 hQ)
          · refine b_Reader_readSum_5 ⟨fun z => absurd (le32.mp z) (by rw [nI_i (by omega)]; show ¬ (160 : Int) ≤ _; omega), fun _ => ⟨fun _ => ?_, fun z => absurd (h.2.2.2.1.1.trans h43) z⟩⟩
            rw [h.2.2.2.1.1, h43]
            refine X_nx_ok hr h hg.2.1 (fun μ1 h1 => ?_)
            refine x1 d μ0 μ1 (C ++ c0) _ h1 (by simp; omega) (fun μ2 h2 => X_emit_ok h2 (by simp; omega) (fun μ3 h3 => ?_))
            rw [as3] at h3
            rw [nI_1]
            exact AA_weak (by exact ⟨Or.inl rfl, Or.inl rfl, Or.inl rfl, Or.inr ⟨rfl, rfl⟩, trivial⟩) (x2 d (i + 1) μ0 μ3 C Q h3 (by omega) (by omega) hQ)
      · refine Or.inr ⟨f, hf, fun d t μ0 μ Q h hQ => ?_, fun d i μ0 μ C Q h hC hi hQ => ?_⟩
        · refine b_M_added_3 (M_isSign_ok h (by decide) ⟨_, rfl, b_nz (fun _ => ⟨fun z => absurd (lgz.mpr ((tok_sg h.2.2.2.2 (a := 43) (by decide)).mpr h43).2) z, fun _ => M_nx_ok hr h hne.1 hne.2 hg.2.1 (fun μ3 h3 => ?_)⟩) (fun z => absurd h43 z)⟩)
          exact m1 d t μ0 μ3 _ h3 (fun v μ4 h4 => ⟨_, rfl, fun z => absurd z (by decide), fun _ => AA_weak (by exact ⟨Or.inl rfl, Or.inl rfl, Or.inr ⟨rfl, rfl⟩, Or.inr ⟨rfl, rfl⟩, trivial⟩) (b_M_added_3 (M_isSign_bad h4 ⟨_, rfl, fun z => absurd rfl z, fun _ => M_isSign_bad h4 ⟨_, rfl, fun _ => hQ _ _ h4, fun z => absurd rfl z⟩⟩))⟩)
        · refine b_Reader_readSum_5 ⟨fun z => absurd (le32.mp z) (by rw [nI_i (by omega)]; show ¬ (160 : Int) ≤ _; omega), fun _ => ⟨fun _ => ?_, fun z => absurd (h.2.2.2.1.1.trans h43) z⟩⟩
          rw [h.2.2.2.1.1, h43]
          refine X_nx_ok hr h hg.2.1 (fun μ1 h1 => ?_)
          refine x1 d μ0 μ1 (C ++ c0) _ h1 (by simp; omega) (fun μ2 h2 => X_emit_bad h2 (fun μ3 h3 => ?_))
          exact AA_weak (by exact ⟨Or.inl rfl, Or.inl rfl, Or.inl rfl, Or.inr ⟨rfl, rfl⟩, trivial⟩) (b_Reader_readSum_5 ⟨fun _ => hQ μ3 h3, fun _ => ⟨fun z => absurd (h3.2.1.symm.trans z) (by decide), fun _ => ⟨fun _ => hQ μ3 h3, fun z => absurd (h3.2.1.symm.trans z) (by decide)⟩⟩⟩)
    · skip
      by_cases h45 : τ.1 = 45
      · have hne : ¬ τ.1 = 0 ∧ ¬ τ.1 = 1 := by rw [h45]; decide
        have hSP := hg.2.2.1 hne.1
        obtain ⟨g2, l2⟩ := lex_g (B := B) hg.2.1
        have gP := hg.2.1
        have gS := hg.1
        have g21 := g2.1
        have op : ∀ c1, okK c1 (kO o + 1) → okK (c0 ++ c1 ++ [-45]) (kO o + 2) ∧ ∀ env, evF (c0 ++ c1 ++ [-45]) env = biC (-45) (evF c0 env) (evF c1 env) := fun c1 h1 => hc0.bi h1 kb (by decide) (by decide)
        rcases JA _ g2 (by omega) with ⟨τ3, c1, k1, g3, l3, m1, x1⟩ | ⟨f, hf, m1, x1⟩
        · obtain ⟨ok1, ev1⟩ := op c1 k1
          have g31 := g3.1
          have ln : (c0 ++ c1 ++ [-45]).length = c0.length + c1.length + 1 := by simp; omega
          rcases ih τ3 (c0 ++ c1 ++ [-45]) (by omega) (by omega) g3 ok1 with ⟨τ', c, k2, g4, l4, m2, x2⟩ | ⟨f, hf, m2, x2⟩
          · refine Or.inl ⟨τ', c, k2, g4, by omega, fun d t μ0 μ Q h hQ => ?_, fun d i μ0 μ C Q h hC hi hQ => ?_⟩
            · refine b_M_added_3 (M_isSign_ok h (by decide) ⟨_, rfl, b_nz (fun z => absurd z h43) (fun _ => M_isSign_ok h (by decide) ⟨_, rfl, b_z (fun z => absurd h45 z) (fun _ => ⟨fun _ => M_nx_ok hr h hne.1 hne.2 hg.2.1 (fun μ3 h3 => ?_), fun z => ?_⟩)⟩)⟩)
              · have g := m2 d t μ0
                rw [ev1] at g
                refine m1 d t μ0 μ3 _ h3 (fun μ4 h4 => ⟨_, rfl, fun _ => ?_, fun z => absurd rfl z⟩)
                exact AA_weak (by exact ⟨Or.inl rfl, Or.inl rfl, Or.inr ⟨rfl, rfl⟩, Or.inr ⟨rfl, rfl⟩, trivial⟩) (g μ4 Q h4 hQ)
              · have e45 := ((tok_sg h.2.2.2.2 (a := 45) (by decide)).mpr h45).2
                rw [e45] at z
                exact absurd (lgz.mp z) (by decide)
            · refine b_Reader_readSum_5 ⟨fun z => absurd (le32.mp z) (by rw [nI_i (by omega)]; show ¬ (160 : Int) ≤ _; omega), fun _ => ⟨fun z => absurd (h.2.2.2.1.1.symm.trans z) h43, fun _ => ⟨fun z => absurd (h.2.2.2.1.1.trans h45) z, fun _ => ?_⟩⟩⟩
              rw [h.2.2.2.1.1, h45]
              refine X_nx_ok hr h hg.2.1 (fun μ1 h1 => ?_)
              refine x1 d μ0 μ1 (C ++ c0) _ h1 (by simp; omega) (fun μ2 h2 => X_emit_ok h2 (by simp; omega) (fun μ3 h3 => ?_))
              rw [as3] at h3
              rw [nI_1]
              exact AA_weak (by exact ⟨Or.inl rfl, Or.inl rfl, Or.inl rfl, Or.inr ⟨rfl, rfl⟩, trivial⟩) (x2 d (i + 1) μ0 μ3 C Q h3 (by omega) (by omega) hQ)
          · refine Or.inr ⟨f, hf, fun d t μ0 μ Q h hQ => ?_, fun d i μ0 μ C Q h hC hi hQ => ?_⟩
            · refine b_M_added_3 (M_isSign_ok h (by decide) ⟨_, rfl, b_nz (fun z => absurd z h43) (fun _ => M_isSign_ok h (by decide) ⟨_, rfl, b_z (fun z => absurd h45 z) (fun _ => ⟨fun _ => M_nx_ok hr h hne.1 hne.2 hg.2.1 (fun μ3 h3 => ?_), fun z => ?_⟩)⟩)⟩)
              · have g := m2 d t μ0
                rw [ev1] at g
                refine m1 d t μ0 μ3 _ h3 (fun μ4 h4 => ⟨_, rfl, fun _ => ?_, fun z => absurd rfl z⟩)
                exact AA_weak (by exact ⟨Or.inl rfl, Or.inl rfl, Or.inr ⟨rfl, rfl⟩, Or.inr ⟨rfl, rfl⟩, trivial⟩) (g μ4 Q h4 hQ)
              · have e45 := ((tok_sg h.2.2.2.2 (a := 45) (by decide)).mpr h45).2
                rw [e45] at z
                exact absurd (lgz.mp z) (by decide)
            · refine b_Reader_readSum_5 ⟨fun z => absurd (le32.mp z) (by rw [nI_i (by omega)]; show ¬ (160 : Int) ≤ _; omega), fun _ => ⟨fun z => absurd (h.2.2.2.1.1.symm.trans z) h43, fun _ => ⟨fun z => absurd (h.2.2.2.1.1.trans h45) z, fun _ => ?_⟩⟩⟩
              rw [h.2.2.2.1.1, h45]
              refine X_nx_ok hr h hg.2.1 (fun μ1 h1 => ?_)
              refine x1 d μ0 μ1 (C ++ c0) _ h1 (by simp; omega) (fun μ2 h2 => X_emit_ok h2 (by simp; omega) (fun μ3 h3 => ?_))
              rw [as3] at h3
              rw [nI_1]
              exact AA_weak (by exact ⟨Or.inl rfl, Or.inl rfl, Or.inl rfl, Or.inr ⟨rfl, rfl⟩, trivial⟩) (x2 d (i + 1) μ0 μ3 C Q h3 (by omega) (by omega) hQ)
        · refine Or.inr ⟨f, hf, fun d t μ0 μ Q h hQ => ?_, fun d i μ0 μ C Q h hC hi hQ => ?_⟩
          · refine b_M_added_3 (M_isSign_ok h (by decide) ⟨_, rfl, b_nz (fun z => absurd z h43) (fun _ => M_isSign_ok h (by decide) ⟨_, rfl, b_z (fun z => absurd h45 z) (fun _ => ⟨fun _ => M_nx_ok hr h hne.1 hne.2 hg.2.1 (fun μ3 h3 => ?_), fun z => ?_⟩)⟩)⟩)
            · exact m1 d t μ0 μ3 _ h3 (fun v μ4 h4 => ⟨_, rfl, fun _ => AA_weak (by exact ⟨Or.inl rfl, Or.inl rfl, Or.inr ⟨rfl, rfl⟩, Or.inr ⟨rfl, rfl⟩, trivial⟩) (b_M_added_3 (M_isSign_bad h4 ⟨_, rfl, fun z => absurd rfl z, fun _ => M_isSign_bad h4 ⟨_, rfl, fun _ => hQ _ _ h4, fun z => absurd rfl z⟩⟩)), fun z => absurd rfl z⟩)
            · have e45 := ((tok_sg h.2.2.2.2 (a := 45) (by decide)).mpr h45).2
              rw [e45] at z
              exact absurd (lgz.mp z) (by decide)
          · refine b_Reader_readSum_5 ⟨fun z => absurd (le32.mp z) (by rw [nI_i (by omega)]; show ¬ (160 : Int) ≤ _; omega), fun _ => ⟨fun z => absurd (h.2.2.2.1.1.symm.trans z) h43, fun _ => ⟨fun z => absurd (h.2.2.2.1.1.trans h45) z, fun _ => ?_⟩⟩⟩
            rw [h.2.2.2.1.1, h45]
            refine X_nx_ok hr h hg.2.1 (fun μ1 h1 => ?_)
            refine x1 d μ0 μ1 (C ++ c0) _ h1 (by simp; omega) (fun μ2 h2 => X_emit_bad h2 (fun μ3 h3 => ?_))
            exact AA_weak (by exact ⟨Or.inl rfl, Or.inl rfl, Or.inl rfl, Or.inr ⟨rfl, rfl⟩, trivial⟩) (b_Reader_readSum_5 ⟨fun _ => hQ μ3 h3, fun _ => ⟨fun z => absurd (h3.2.1.symm.trans z) (by decide), fun _ => ⟨fun _ => hQ μ3 h3, fun z => absurd (h3.2.1.symm.trans z) (by decide)⟩⟩⟩)
      · skip
        refine Or.inl ⟨τ, c0, hc0, hg, Nat.le_refl _, fun d t μ0 μ Q h hQ => ?_, fun d i μ0 μ C Q h hC hi hQ => ?_⟩
        · exact b_M_added_3 (M_isSign_ok h (by decide) ⟨_, rfl, b_nz (fun z => absurd z h43) (fun _ => M_isSign_ok h (by decide) ⟨_, rfl, b_z (fun _ => hQ μ h) (fun z => absurd z h45)⟩)⟩)
        · exact b_Reader_readSum_5 ⟨fun _ => hQ μ h, fun _ => ⟨fun z => absurd (h.2.2.2.1.1.symm.trans z) h43, fun _ => ⟨fun _ => hQ μ h, fun z => absurd (h.2.2.2.1.1.symm.trans z) h45⟩⟩⟩
theorem addedJ {B : Nat → Int32} {n o : Nat} {τ : TK} (hr : ∀ i, i < n → rng (B i) 0 255) (hn : n ≤ 160) (ho : o ≤ 5) (hg : gTk n τ) (JA : ∀ τ2, gTk n τ2 → τ.2.2.1 ≤ τ2.2.2.1 → JTe B n o τ2) : JAd B n o τ := by
  have gS := hg.1
  rcases JA τ hg (Nat.le_refl _) with ⟨τ1, c1, k1, g1, l1, m1, x1⟩ | ⟨f, hf, m1, x1⟩
  · have g11 := g1.1
    rcases addedL hr hn ho JA (n - τ1.2.2.1 + 1) τ1 c1 (by omega) (by omega) g1 (k1.mono (by omega)) with ⟨τ', c, k2, g4, l4, m2, x2⟩ | ⟨f, hf, m2, x2⟩
    · refine Or.inl ⟨τ', c, k2, g4, by omega, fun d t μ0 μ Q h hQ => ?_, fun d μ0 μ C Q h hC hQ => ?_⟩
      · exact b_M_added_0 (m1 d t μ0 μ _ h (fun μ1 h1 => ⟨_, rfl, m2 d t μ0 μ1 Q h1 hQ⟩))
      · exact b_Reader_readSum_0 (x1 d μ0 μ C _ h hC (fun μ1 h1 => x2 d 0 μ0 μ1 C Q h1 (by omega) (by omega) hQ))
    · refine Or.inr ⟨f, hf, fun d t μ0 μ Q h hQ => ?_, fun d μ0 μ C Q h hC hQ => ?_⟩
      · exact b_M_added_0 (m1 d t μ0 μ _ h (fun μ1 h1 => ⟨_, rfl, m2 d t μ0 μ1 Q h1 hQ⟩))
      · exact b_Reader_readSum_0 (x1 d μ0 μ C _ h hC (fun μ1 h1 => x2 d 0 μ0 μ1 C Q h1 (by omega) (by omega) hQ))
  · refine Or.inr ⟨f, hf, fun d t μ0 μ Q h hQ => ?_, fun d μ0 μ C Q h hC hQ => ?_⟩
    · exact b_M_added_0 (m1 d t μ0 μ _ h (fun v μ4 h4 => ⟨_, rfl, b_M_added_3 (M_isSign_bad h4 ⟨_, rfl, fun z => absurd rfl z, fun _ => M_isSign_bad h4 ⟨_, rfl, fun _ => hQ _ _ h4, fun z => absurd rfl z⟩⟩)⟩))
    · exact b_Reader_readSum_0 (x1 d μ0 μ C _ h hC (fun μ3 h3 => b_Reader_readSum_5 ⟨fun _ => hQ μ3 h3, fun _ => ⟨fun z => absurd (h3.2.1.symm.trans z) (by decide), fun _ => ⟨fun _ => hQ μ3 h3, fun z => absurd (h3.2.1.symm.trans z) (by decide)⟩⟩⟩))
theorem bothL {B : Nat → Int32} {n o S0 : Nat} (hr : ∀ i, i < n → rng (B i) 0 255) (hn : n ≤ 160) (ho : o ≤ 5) (JA : ∀ τ2, gTk n τ2 → S0 ≤ τ2.2.2.1 → JNo B n o τ2) : ∀ (m : Nat) (τ : TK) (c0 : List Int32), n - τ.2.2.1 < m → S0 ≤ τ.2.2.1 → gTk n τ → okK c0 (kO o + 4) →
    (∃ τ' c, okK c (kO o + 4) ∧ gTk n τ' ∧ τ.2.2.1 + c.length ≤ τ'.2.2.1 + c0.length ∧ (∀ (d t : Nat) (μ0 μ : Mem) (Q : QQ), okM B t n μ0 τ o μ → (∀ μ', okM B t n μ0 τ' o μ' → Q (.int (evF c (envM μ0))) μ') → AA (Call (d + (dA o + 3))) y_M_both Q 3 [.ref 0, .int (evF c0 (envM μ0)), un] [] μ) ∧ (∀ (d i : Nat) (μ0 μ : Mem) (C : List Int32) (Q : QQ), okX B n μ0 τ (C ++ c0) μ → C.length + c0.length ≤ τ.2.2.1 → i ≤ τ.2.2.1 → (∀ μ', okX B n μ0 τ' (C ++ c) μ' → Q .null μ') → AA (Call (d + (dO o + 4))) y_Reader_readAnd Q 5 [.ref 23, .int (nI o), .int (nI i)] [] μ)) ∨
    ∃ f, f ≤ 160 ∧ (∀ (d t : Nat) (μ0 μ : Mem) (Q : QQ), okM B t n μ0 τ o μ → (∀ v μ', badM μ0 f μ' → Q (.int v) μ') → AA (Call (d + (dA o + 3))) y_M_both Q 3 [.ref 0, .int (evF c0 (envM μ0)), un] [] μ) ∧ (∀ (d i : Nat) (μ0 μ : Mem) (C : List Int32) (Q : QQ), okX B n μ0 τ (C ++ c0) μ → C.length + c0.length ≤ τ.2.2.1 → i ≤ τ.2.2.1 → (∀ μ', badX μ0 f μ' → Q .null μ') → AA (Call (d + (dO o + 4))) y_Reader_readAnd Q 5 [.ref 23, .int (nI o), .int (nI i)] [] μ) := by
  intro m
  induction m with
  | zero => intro τ c0 h; exact absurd h (Nat.not_lt_zero _)
  | succ m ih =>
    intro τ c0 hm hS hg hc0
    have kb : kO o + 4 ≤ 31 := by unfold kO; omega
    by_cases h260 : τ.1 = 260
    · have hne : ¬ τ.1 = 0 ∧ ¬ τ.1 = 1 := by rw [h260]; decide
      have hSP := hg.2.2.1 hne.1
      obtain ⟨g2, l2⟩ := lex_g (B := B) hg.2.1
      have gP := hg.2.1
      have gS := hg.1
      have g21 := g2.1
      have op : ∀ c1, okK c1 (kO o + 3) → okK (c0 ++ c1 ++ [-260]) (kO o + 4) ∧ ∀ env, evF (c0 ++ c1 ++ [-260]) env = biC (-260) (evF c0 env) (evF c1 env) := fun c1 h1 => hc0.bi h1 kb (by decide) (by decide)
      rcases JA _ g2 (by omega) with ⟨τ3, c1, k1, g3, l3, m1, x1⟩ | ⟨f, hf, m1, x1⟩
      · obtain ⟨ok1, ev1⟩ := op c1 k1
        have g31 := g3.1
        have ln : (c0 ++ c1 ++ [-260]).length = c0.length + c1.length + 1 := by simp; omega
        rcases ih τ3 (c0 ++ c1 ++ [-260]) (by omega) (by omega) g3 ok1 with ⟨τ', c, k2, g4, l4, m2, x2⟩ | ⟨f, hf, m2, x2⟩
        · refine Or.inl ⟨τ', c, k2, g4, by omega, fun d t μ0 μ Q h hQ => ?_, fun d i μ0 μ C Q h hC hi hQ => ?_⟩
          · refine b_M_both_3 (M_key_ok h (k := 4) (by omega) hg.1 (by decide) ⟨_, rfl, b_z (fun z => absurd h260 z) (fun _ => M_nx_ok hr h hne.1 hne.2 hg.2.1 (fun μ3 h3 => ?_))⟩)
            have g := m2 d t μ0
            rw [ev1] at g
            refine m1 d t μ0 μ3 _ h3 (fun μ4 h4 => ⟨_, rfl, ?_⟩)
            have g := fun x : Int32 => AA_weak (lv' := [.ref 0, .int (biC (-260) (evF c0 (envM μ0)) (evF c1 (envM μ0))), .int x]) (by exact ⟨Or.inl rfl, Or.inl rfl, Or.inr ⟨rfl, rfl⟩, trivial⟩) (g μ4 Q h4 hQ)
            rw [biAnd] at g
            refine ⟨fun z => ?_, fun z => ⟨fun z2 => ?_, fun z2 => ?_⟩⟩
            · rw [if_pos z] at g; exact g _
            · rw [if_neg z, if_pos z2] at g; exact g _
            · rw [if_neg z, if_neg z2] at g; exact g _
          · refine b_Reader_readAnd_5 ⟨fun z => absurd (le32.mp z) (by rw [nI_i (by omega)]; show ¬ (160 : Int) ≤ _; omega), fun _ => ⟨fun z => absurd (h.2.2.2.1.1.trans h260) z, fun _ => X_nx_ok hr h hg.2.1 (fun μ1 h1 => ?_)⟩⟩
            refine x1 d μ0 μ1 (C ++ c0) _ h1 (by simp; omega) (fun μ2 h2 => X_emit_ok h2 (by simp; omega) (fun μ3 h3 => ?_))
            rw [as3] at h3
            rw [nI_1]
            exact x2 d (i + 1) μ0 μ3 C Q h3 (by omega) (by omega) hQ
        · refine Or.inr ⟨f, hf, fun d t μ0 μ Q h hQ => ?_, fun d i μ0 μ C Q h hC hi hQ => ?_⟩
          · refine b_M_both_3 (M_key_ok h (k := 4) (by omega) hg.1 (by decide) ⟨_, rfl, b_z (fun z => absurd h260 z) (fun _ => M_nx_ok hr h hne.1 hne.2 hg.2.1 (fun μ3 h3 => ?_))⟩)
            have g := m2 d t μ0
            rw [ev1] at g
            refine m1 d t μ0 μ3 _ h3 (fun μ4 h4 => ⟨_, rfl, ?_⟩)
            have g := fun x : Int32 => AA_weak (lv' := [.ref 0, .int (biC (-260) (evF c0 (envM μ0)) (evF c1 (envM μ0))), .int x]) (by exact ⟨Or.inl rfl, Or.inl rfl, Or.inr ⟨rfl, rfl⟩, trivial⟩) (g μ4 Q h4 hQ)
            rw [biAnd] at g
            refine ⟨fun z => ?_, fun z => ⟨fun z2 => ?_, fun z2 => ?_⟩⟩
            · rw [if_pos z] at g; exact g _
            · rw [if_neg z, if_pos z2] at g; exact g _
            · rw [if_neg z, if_neg z2] at g; exact g _
          · refine b_Reader_readAnd_5 ⟨fun z => absurd (le32.mp z) (by rw [nI_i (by omega)]; show ¬ (160 : Int) ≤ _; omega), fun _ => ⟨fun z => absurd (h.2.2.2.1.1.trans h260) z, fun _ => X_nx_ok hr h hg.2.1 (fun μ1 h1 => ?_)⟩⟩
            refine x1 d μ0 μ1 (C ++ c0) _ h1 (by simp; omega) (fun μ2 h2 => X_emit_ok h2 (by simp; omega) (fun μ3 h3 => ?_))
            rw [as3] at h3
            rw [nI_1]
            exact x2 d (i + 1) μ0 μ3 C Q h3 (by omega) (by omega) hQ
      · refine Or.inr ⟨f, hf, fun d t μ0 μ Q h hQ => ?_, fun d i μ0 μ C Q h hC hi hQ => ?_⟩
        · refine b_M_both_3 (M_key_ok h (k := 4) (by omega) hg.1 (by decide) ⟨_, rfl, b_z (fun z => absurd h260 z) (fun _ => M_nx_ok hr h hne.1 hne.2 hg.2.1 (fun μ3 h3 => ?_))⟩)
          exact m1 d t μ0 μ3 _ h3 (fun v μ4 h4 => ⟨_, rfl, fun _ => AA_weak (by exact ⟨Or.inl rfl, Or.inl rfl, Or.inr ⟨rfl, rfl⟩, trivial⟩) (b_M_both_3 (M_word_bad h4 ⟨_, rfl, fun _ => hQ _ _ h4, fun z => absurd rfl z⟩)), fun _ => ⟨fun _ => AA_weak (by exact ⟨Or.inl rfl, Or.inl rfl, Or.inr ⟨rfl, rfl⟩, trivial⟩) (b_M_both_3 (M_word_bad h4 ⟨_, rfl, fun _ => hQ _ _ h4, fun z => absurd rfl z⟩)), fun _ => AA_weak (by exact ⟨Or.inl rfl, Or.inl rfl, Or.inr ⟨rfl, rfl⟩, trivial⟩) (b_M_both_3 (M_word_bad h4 ⟨_, rfl, fun _ => hQ _ _ h4, fun z => absurd rfl z⟩))⟩⟩)
        · refine b_Reader_readAnd_5 ⟨fun z => absurd (le32.mp z) (by rw [nI_i (by omega)]; show ¬ (160 : Int) ≤ _; omega), fun _ => ⟨fun z => absurd (h.2.2.2.1.1.trans h260) z, fun _ => X_nx_ok hr h hg.2.1 (fun μ1 h1 => ?_)⟩⟩
          refine x1 d μ0 μ1 (C ++ c0) _ h1 (by simp; omega) (fun μ2 h2 => X_emit_bad h2 (fun μ3 h3 => ?_))
          exact b_Reader_readAnd_5 ⟨fun _ => hQ μ3 h3, fun _ => ⟨fun _ => hQ μ3 h3, fun z => absurd (h3.2.1.symm.trans z) (by decide)⟩⟩
    · skip
      refine Or.inl ⟨τ, c0, hc0, hg, Nat.le_refl _, fun d t μ0 μ Q h hQ => ?_, fun d i μ0 μ C Q h hC hi hQ => ?_⟩
      · exact b_M_both_3 (M_key_ok h (k := 4) (by omega) hg.1 (by decide) ⟨_, rfl, b_z (fun _ => hQ μ h) (fun z => absurd z h260)⟩)
      · exact b_Reader_readAnd_5 ⟨fun _ => hQ μ h, fun _ => ⟨fun _ => hQ μ h, fun z => absurd (h.2.2.2.1.1.symm.trans z) h260⟩⟩
theorem bothJ {B : Nat → Int32} {n o : Nat} {τ : TK} (hr : ∀ i, i < n → rng (B i) 0 255) (hn : n ≤ 160) (ho : o ≤ 5) (hg : gTk n τ) (JA : ∀ τ2, gTk n τ2 → τ.2.2.1 ≤ τ2.2.2.1 → JNo B n o τ2) : JBo B n o τ := by
  have gS := hg.1
  rcases JA τ hg (Nat.le_refl _) with ⟨τ1, c1, k1, g1, l1, m1, x1⟩ | ⟨f, hf, m1, x1⟩
  · have g11 := g1.1
    rcases bothL hr hn ho JA (n - τ1.2.2.1 + 1) τ1 c1 (by omega) (by omega) g1 (k1.mono (by omega)) with ⟨τ', c, k2, g4, l4, m2, x2⟩ | ⟨f, hf, m2, x2⟩
    · refine Or.inl ⟨τ', c, k2, g4, by omega, fun d t μ0 μ Q h hQ => ?_, fun d μ0 μ C Q h hC hQ => ?_⟩
      · exact b_M_both_0 (m1 d t μ0 μ _ h (fun μ1 h1 => ⟨_, rfl, m2 d t μ0 μ1 Q h1 hQ⟩))
      · exact b_Reader_readAnd_0 (x1 d μ0 μ C _ h hC (fun μ1 h1 => x2 d 0 μ0 μ1 C Q h1 (by omega) (by omega) hQ))
    · refine Or.inr ⟨f, hf, fun d t μ0 μ Q h hQ => ?_, fun d μ0 μ C Q h hC hQ => ?_⟩
      · exact b_M_both_0 (m1 d t μ0 μ _ h (fun μ1 h1 => ⟨_, rfl, m2 d t μ0 μ1 Q h1 hQ⟩))
      · exact b_Reader_readAnd_0 (x1 d μ0 μ C _ h hC (fun μ1 h1 => x2 d 0 μ0 μ1 C Q h1 (by omega) (by omega) hQ))
  · refine Or.inr ⟨f, hf, fun d t μ0 μ Q h hQ => ?_, fun d μ0 μ C Q h hC hQ => ?_⟩
    · exact b_M_both_0 (m1 d t μ0 μ _ h (fun v μ4 h4 => ⟨_, rfl, b_M_both_3 (M_word_bad h4 ⟨_, rfl, fun _ => hQ _ _ h4, fun z => absurd rfl z⟩)⟩))
    · exact b_Reader_readAnd_0 (x1 d μ0 μ C _ h hC (fun μ3 h3 => b_Reader_readAnd_5 ⟨fun _ => hQ μ3 h3, fun _ => ⟨fun _ => hQ μ3 h3, fun z => absurd (h3.2.1.symm.trans z) (by decide)⟩⟩))
theorem eitherL {B : Nat → Int32} {n o S0 : Nat} (hr : ∀ i, i < n → rng (B i) 0 255) (hn : n ≤ 160) (ho : o ≤ 5) (JA : ∀ τ2, gTk n τ2 → S0 ≤ τ2.2.2.1 → JBo B n o τ2) : ∀ (m : Nat) (τ : TK) (c0 : List Int32), n - τ.2.2.1 < m → S0 ≤ τ.2.2.1 → gTk n τ → okK c0 (kO o + 5) →
    (∃ τ' c, okK c (kO o + 5) ∧ gTk n τ' ∧ τ.2.2.1 + c.length ≤ τ'.2.2.1 + c0.length ∧ (∀ (d t : Nat) (μ0 μ : Mem) (Q : QQ), okM B t n μ0 τ o μ → (∀ μ', okM B t n μ0 τ' o μ' → Q (.int (evF c (envM μ0))) μ') → AA (Call (d + (dA o + 4))) y_M_either Q 3 [.ref 0, .int (evF c0 (envM μ0)), un] [] μ) ∧ (∀ (d i : Nat) (μ0 μ : Mem) (C : List Int32) (Q : QQ), okX B n μ0 τ (C ++ c0) μ → C.length + c0.length ≤ τ.2.2.1 → i ≤ τ.2.2.1 → (∀ μ', okX B n μ0 τ' (C ++ c) μ' → Q .null μ') → AA (Call (d + (dO o + 5))) y_Reader_readE Q 5 [.ref 23, .int (nI o), .int (nI i)] [] μ)) ∨
    ∃ f, f ≤ 160 ∧ (∀ (d t : Nat) (μ0 μ : Mem) (Q : QQ), okM B t n μ0 τ o μ → (∀ v μ', badM μ0 f μ' → Q (.int v) μ') → AA (Call (d + (dA o + 4))) y_M_either Q 3 [.ref 0, .int (evF c0 (envM μ0)), un] [] μ) ∧ (∀ (d i : Nat) (μ0 μ : Mem) (C : List Int32) (Q : QQ), okX B n μ0 τ (C ++ c0) μ → C.length + c0.length ≤ τ.2.2.1 → i ≤ τ.2.2.1 → (∀ μ', badX μ0 f μ' → Q .null μ') → AA (Call (d + (dO o + 5))) y_Reader_readE Q 5 [.ref 23, .int (nI o), .int (nI i)] [] μ) := by
  intro m
  induction m with
  | zero => intro τ c0 h; exact absurd h (Nat.not_lt_zero _)
  | succ m ih =>
    intro τ c0 hm hS hg hc0
    have kb : kO o + 5 ≤ 31 := by unfold kO; omega
    by_cases h259 : τ.1 = 259
    · have hne : ¬ τ.1 = 0 ∧ ¬ τ.1 = 1 := by rw [h259]; decide
      have hSP := hg.2.2.1 hne.1
      obtain ⟨g2, l2⟩ := lex_g (B := B) hg.2.1
      have gP := hg.2.1
      have gS := hg.1
      have g21 := g2.1
      have op : ∀ c1, okK c1 (kO o + 4) → okK (c0 ++ c1 ++ [-259]) (kO o + 5) ∧ ∀ env, evF (c0 ++ c1 ++ [-259]) env = biC (-259) (evF c0 env) (evF c1 env) := fun c1 h1 => hc0.bi h1 kb (by decide) (by decide)
      rcases JA _ g2 (by omega) with ⟨τ3, c1, k1, g3, l3, m1, x1⟩ | ⟨f, hf, m1, x1⟩
      · obtain ⟨ok1, ev1⟩ := op c1 k1
        have g31 := g3.1
        have ln : (c0 ++ c1 ++ [-259]).length = c0.length + c1.length + 1 := by simp; omega
        rcases ih τ3 (c0 ++ c1 ++ [-259]) (by omega) (by omega) g3 ok1 with ⟨τ', c, k2, g4, l4, m2, x2⟩ | ⟨f, hf, m2, x2⟩
        · refine Or.inl ⟨τ', c, k2, g4, by omega, fun d t μ0 μ Q h hQ => ?_, fun d i μ0 μ C Q h hC hi hQ => ?_⟩
          · refine b_M_either_3 (M_key_ok h (k := 3) (by omega) hg.1 (by decide) ⟨_, rfl, b_z (fun z => absurd h259 z) (fun _ => M_nx_ok hr h hne.1 hne.2 hg.2.1 (fun μ3 h3 => ?_))⟩)
            have g := m2 d t μ0
            rw [ev1] at g
            refine m1 d t μ0 μ3 _ h3 (fun μ4 h4 => ⟨_, rfl, ?_⟩)
            have g := fun x : Int32 => AA_weak (lv' := [.ref 0, .int (biC (-259) (evF c0 (envM μ0)) (evF c1 (envM μ0))), .int x]) (by exact ⟨Or.inl rfl, Or.inl rfl, Or.inr ⟨rfl, rfl⟩, trivial⟩) (g μ4 Q h4 hQ)
            rw [biOr] at g
            refine ⟨fun z => ?_, fun z => ⟨fun z2 => ?_, fun z2 => ?_⟩⟩
            · rw [if_neg z] at g; exact g _
            · rw [if_pos z, if_pos z2] at g; exact g _
            · rw [if_pos z, if_neg z2] at g; exact g _
          · refine b_Reader_readE_5 ⟨fun z => absurd (le32.mp z) (by rw [nI_i (by omega)]; show ¬ (160 : Int) ≤ _; omega), fun _ => ⟨fun z => absurd (h.2.2.2.1.1.trans h259) z, fun _ => X_nx_ok hr h hg.2.1 (fun μ1 h1 => ?_)⟩⟩
            refine x1 d μ0 μ1 (C ++ c0) _ h1 (by simp; omega) (fun μ2 h2 => X_emit_ok h2 (by simp; omega) (fun μ3 h3 => ?_))
            rw [as3] at h3
            rw [nI_1]
            exact x2 d (i + 1) μ0 μ3 C Q h3 (by omega) (by omega) hQ
        · refine Or.inr ⟨f, hf, fun d t μ0 μ Q h hQ => ?_, fun d i μ0 μ C Q h hC hi hQ => ?_⟩
          · refine b_M_either_3 (M_key_ok h (k := 3) (by omega) hg.1 (by decide) ⟨_, rfl, b_z (fun z => absurd h259 z) (fun _ => M_nx_ok hr h hne.1 hne.2 hg.2.1 (fun μ3 h3 => ?_))⟩)
            have g := m2 d t μ0
            rw [ev1] at g
            refine m1 d t μ0 μ3 _ h3 (fun μ4 h4 => ⟨_, rfl, ?_⟩)
            have g := fun x : Int32 => AA_weak (lv' := [.ref 0, .int (biC (-259) (evF c0 (envM μ0)) (evF c1 (envM μ0))), .int x]) (by exact ⟨Or.inl rfl, Or.inl rfl, Or.inr ⟨rfl, rfl⟩, trivial⟩) (g μ4 Q h4 hQ)
            rw [biOr] at g
            refine ⟨fun z => ?_, fun z => ⟨fun z2 => ?_, fun z2 => ?_⟩⟩
            · rw [if_neg z] at g; exact g _
            · rw [if_pos z, if_pos z2] at g; exact g _
            · rw [if_pos z, if_neg z2] at g; exact g _
          · refine b_Reader_readE_5 ⟨fun z => absurd (le32.mp z) (by rw [nI_i (by omega)]; show ¬ (160 : Int) ≤ _; omega), fun _ => ⟨fun z => absurd (h.2.2.2.1.1.trans h259) z, fun _ => X_nx_ok hr h hg.2.1 (fun μ1 h1 => ?_)⟩⟩
            refine x1 d μ0 μ1 (C ++ c0) _ h1 (by simp; omega) (fun μ2 h2 => X_emit_ok h2 (by simp; omega) (fun μ3 h3 => ?_))
            rw [as3] at h3
            rw [nI_1]
            exact x2 d (i + 1) μ0 μ3 C Q h3 (by omega) (by omega) hQ
      · refine Or.inr ⟨f, hf, fun d t μ0 μ Q h hQ => ?_, fun d i μ0 μ C Q h hC hi hQ => ?_⟩
        · refine b_M_either_3 (M_key_ok h (k := 3) (by omega) hg.1 (by decide) ⟨_, rfl, b_z (fun z => absurd h259 z) (fun _ => M_nx_ok hr h hne.1 hne.2 hg.2.1 (fun μ3 h3 => ?_))⟩)
          exact m1 d t μ0 μ3 _ h3 (fun v μ4 h4 => ⟨_, rfl, fun _ => AA_weak (by exact ⟨Or.inl rfl, Or.inl rfl, Or.inr ⟨rfl, rfl⟩, trivial⟩) (b_M_either_3 (M_word_bad h4 ⟨_, rfl, fun _ => hQ _ _ h4, fun z => absurd rfl z⟩)), fun _ => ⟨fun _ => AA_weak (by exact ⟨Or.inl rfl, Or.inl rfl, Or.inr ⟨rfl, rfl⟩, trivial⟩) (b_M_either_3 (M_word_bad h4 ⟨_, rfl, fun _ => hQ _ _ h4, fun z => absurd rfl z⟩)), fun _ => AA_weak (by exact ⟨Or.inl rfl, Or.inl rfl, Or.inr ⟨rfl, rfl⟩, trivial⟩) (b_M_either_3 (M_word_bad h4 ⟨_, rfl, fun _ => hQ _ _ h4, fun z => absurd rfl z⟩))⟩⟩)
        · refine b_Reader_readE_5 ⟨fun z => absurd (le32.mp z) (by rw [nI_i (by omega)]; show ¬ (160 : Int) ≤ _; omega), fun _ => ⟨fun z => absurd (h.2.2.2.1.1.trans h259) z, fun _ => X_nx_ok hr h hg.2.1 (fun μ1 h1 => ?_)⟩⟩
          refine x1 d μ0 μ1 (C ++ c0) _ h1 (by simp; omega) (fun μ2 h2 => X_emit_bad h2 (fun μ3 h3 => ?_))
          exact b_Reader_readE_5 ⟨fun _ => hQ μ3 h3, fun _ => ⟨fun _ => hQ μ3 h3, fun z => absurd (h3.2.1.symm.trans z) (by decide)⟩⟩
    · skip
      refine Or.inl ⟨τ, c0, hc0, hg, Nat.le_refl _, fun d t μ0 μ Q h hQ => ?_, fun d i μ0 μ C Q h hC hi hQ => ?_⟩
      · exact b_M_either_3 (M_key_ok h (k := 3) (by omega) hg.1 (by decide) ⟨_, rfl, b_z (fun _ => hQ μ h) (fun z => absurd z h259)⟩)
      · exact b_Reader_readE_5 ⟨fun _ => hQ μ h, fun _ => ⟨fun _ => hQ μ h, fun z => absurd (h.2.2.2.1.1.symm.trans z) h259⟩⟩
theorem eitherJ {B : Nat → Int32} {n o : Nat} {τ : TK} (hr : ∀ i, i < n → rng (B i) 0 255) (hn : n ≤ 160) (ho : o ≤ 5) (hg : gTk n τ) (JA : ∀ τ2, gTk n τ2 → τ.2.2.1 ≤ τ2.2.2.1 → JBo B n o τ2) : JEi B n o τ := by
  have gS := hg.1
  rcases JA τ hg (Nat.le_refl _) with ⟨τ1, c1, k1, g1, l1, m1, x1⟩ | ⟨f, hf, m1, x1⟩
  · have g11 := g1.1
    rcases eitherL hr hn ho JA (n - τ1.2.2.1 + 1) τ1 c1 (by omega) (by omega) g1 (k1.mono (by omega)) with ⟨τ', c, k2, g4, l4, m2, x2⟩ | ⟨f, hf, m2, x2⟩
    · refine Or.inl ⟨τ', c, k2, g4, by omega, fun d t μ0 μ Q h hQ => ?_, fun d μ0 μ C Q h hC hQ => ?_⟩
      · exact b_M_either_0 (m1 d t μ0 μ _ h (fun μ1 h1 => ⟨_, rfl, m2 d t μ0 μ1 Q h1 hQ⟩))
      · exact b_Reader_readE_0 (x1 d μ0 μ C _ h hC (fun μ1 h1 => x2 d 0 μ0 μ1 C Q h1 (by omega) (by omega) hQ))
    · refine Or.inr ⟨f, hf, fun d t μ0 μ Q h hQ => ?_, fun d μ0 μ C Q h hC hQ => ?_⟩
      · exact b_M_either_0 (m1 d t μ0 μ _ h (fun μ1 h1 => ⟨_, rfl, m2 d t μ0 μ1 Q h1 hQ⟩))
      · exact b_Reader_readE_0 (x1 d μ0 μ C _ h hC (fun μ1 h1 => x2 d 0 μ0 μ1 C Q h1 (by omega) (by omega) hQ))
  · refine Or.inr ⟨f, hf, fun d t μ0 μ Q h hQ => ?_, fun d μ0 μ C Q h hC hQ => ?_⟩
    · exact b_M_either_0 (m1 d t μ0 μ _ h (fun v μ4 h4 => ⟨_, rfl, b_M_either_3 (M_word_bad h4 ⟨_, rfl, fun _ => hQ _ _ h4, fun z => absurd rfl z⟩)⟩))
    · exact b_Reader_readE_0 (x1 d μ0 μ C _ h hC (fun μ3 h3 => b_Reader_readE_5 ⟨fun _ => hQ μ3 h3, fun _ => ⟨fun _ => hQ μ3 h3, fun z => absurd (h3.2.1.symm.trans z) (by decide)⟩⟩))
