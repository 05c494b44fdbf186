/-! ===== both read a whole text ===== -/
theorem xbOne {d f : Nat} {Q : QQ} {μ0 μ : Mem} {a : Int32} (hf : f < 1000) (h : badX μ0 f μ) (hQ : ∀ μ', badX μ0 f μ' → Q .null μ') : Call (d + 2) y_Reader_readOne [.ref 23, .int a] μ Q :=
  b_Reader_readOne_0 ⟨fun _ => ⟨fun _ => ⟨fun _ => ⟨fun _ => X_refuse_bad h hf hQ, fun z => absurd (h.2.1.symm.trans z) (by decide)⟩, fun z => absurd (h.2.1.symm.trans z) (by decide)⟩, fun z => absurd (h.2.1.symm.trans z) (by decide)⟩, fun z => absurd (h.2.1.symm.trans z) (by decide)⟩
theorem xbTerm {d f : Nat} {Q : QQ} {μ0 μ : Mem} {a : Int32} (hf : f < 1000) (h : badX μ0 f μ) (hQ : ∀ μ', badX μ0 f μ' → Q .null μ') : Call (d + 3) y_Reader_readTerm [.ref 23, .int a] μ Q :=
  b_Reader_readTerm_0 (xbOne hf h (fun μ1 h1 => b_Reader_readTerm_5 ⟨fun _ => hQ μ1 h1, fun _ => ⟨fun _ => hQ μ1 h1, fun z => absurd (h1.2.1.symm.trans z) (by decide)⟩⟩))
theorem xbSum {d f : Nat} {Q : QQ} {μ0 μ : Mem} {a : Int32} (hf : f < 1000) (h : badX μ0 f μ) (hQ : ∀ μ', badX μ0 f μ' → Q .null μ') : Call (d + 4) y_Reader_readSum [.ref 23, .int a] μ Q :=
  b_Reader_readSum_0 (xbTerm hf h (fun μ1 h1 => b_Reader_readSum_5 ⟨fun _ => hQ μ1 h1, fun _ => ⟨fun z => absurd (h1.2.1.symm.trans z) (by decide), fun _ => ⟨fun _ => hQ μ1 h1, fun z => absurd (h1.2.1.symm.trans z) (by decide)⟩⟩⟩))
theorem xbNot {d f : Nat} {Q : QQ} {μ0 μ : Mem} {a : Int32} (hf : f < 1000) (h : badX μ0 f μ) (hQ : ∀ μ', badX μ0 f μ' → Q .null μ') : Call (d + 6) y_Reader_readNot [.ref 23, .int a] μ Q :=
  b_Reader_readNot_0 ⟨fun z => absurd (h.2.1.symm.trans z) (by decide), fun _ => b_Reader_readCompared_0 (xbSum hf h (fun μ1 h1 => ⟨fun z => absurd (h1.2.1.symm.trans z) (by decide), fun _ => ⟨fun _ => hQ μ1 h1, fun z => absurd (h1.2.1.symm.trans z) (by decide)⟩⟩))⟩
theorem xbAnd {d f : Nat} {Q : QQ} {μ0 μ : Mem} {a : Int32} (hf : f < 1000) (h : badX μ0 f μ) (hQ : ∀ μ', badX μ0 f μ' → Q .null μ') : Call (d + 7) y_Reader_readAnd [.ref 23, .int a] μ Q :=
  b_Reader_readAnd_0 (xbNot hf h (fun μ1 h1 => b_Reader_readAnd_5 ⟨fun _ => hQ μ1 h1, fun _ => ⟨fun _ => hQ μ1 h1, fun z => absurd (h1.2.1.symm.trans z) (by decide)⟩⟩))
theorem xbE {d f : Nat} {Q : QQ} {μ0 μ : Mem} {a : Int32} (hf : f < 1000) (h : badX μ0 f μ) (hQ : ∀ μ', badX μ0 f μ' → Q .null μ') : Call (d + 8) y_Reader_readE [.ref 23, .int a] μ Q :=
  b_Reader_readE_0 (xbAnd hf h (fun μ1 h1 => b_Reader_readE_5 ⟨fun _ => hQ μ1 h1, fun _ => ⟨fun _ => hQ μ1 h1, fun z => absurd (h1.2.1.symm.trans z) (by decide)⟩⟩))
/-- a part is read -/
def JP (B : Nat → Int32) (n k : Nat) (τ : TK) : Prop := (∃ τ' c, okK c 31 ∧ gTk n τ' ∧ τ.2.2.1 + c.length ≤ τ'.2.2.1 ∧ (∀ (d t : Nat) (μ0 μ : Mem) (Q : QQ), okM B t n μ0 τ 0 μ → (∀ μ', okM B t n μ0 τ' 0 μ' → Q (.int (evF c (envM μ0))) μ') → Call (d + 42) y_M_part [.ref 0, .int (b2p (τ.1 = 256 + nI k))] μ Q) ∧ (∀ (d : Nat) (μ0 μ : Mem) (C : List Int32) (R : Mem → Prop), okX B n μ0 τ C μ → C.length ≤ τ.2.2.1 → (∀ μ', okX B n μ0 τ' (C ++ c) μ' → R μ') → Call (d + 50) y_Reader_expect [.ref 23, .int (256 + nI k)] μ (fun _ μ3 => Call (d + 50) y_Reader_readE [.ref 23, .int 0] μ3 (fun _ μ4 => Call (d + 50) y_Reader_expect [.ref 23, .int 59] μ4 (fun _ μ5 => R μ5))))) ∨
  ∃ f, f ≤ 160 ∧ (∀ (d t : Nat) (μ0 μ : Mem) (Q : QQ), okM B t n μ0 τ 0 μ → (∀ v μ', badM μ0 f μ' → Q (.int v) μ') → Call (d + 42) y_M_part [.ref 0, .int (b2p (τ.1 = 256 + nI k))] μ Q) ∧ (∀ (d : Nat) (μ0 μ : Mem) (C : List Int32) (R : Mem → Prop), okX B n μ0 τ C μ → C.length ≤ τ.2.2.1 → (∀ μ', badX μ0 f μ' → R μ') → Call (d + 50) y_Reader_expect [.ref 23, .int (256 + nI k)] μ (fun _ μ3 => Call (d + 50) y_Reader_readE [.ref 23, .int 0] μ3 (fun _ μ4 => Call (d + 50) y_Reader_expect [.ref 23, .int 59] μ4 (fun _ μ5 => R μ5))))
theorem partJ {B : Nat → Int32} {n k : Nat} {τ : TK} (hr : ∀ i, i < n → rng (B i) 0 255) (hn : n ≤ 160) (hk : k < 3) (hg : gTk n τ) : JP B n k τ := by
  obtain ⟨gS, gP, gSP, gN, gM⟩ := hg
  have ke : ∀ k, k < 3 → ¬ (256 + nI k : Int32) = 0 ∧ ¬ (256 + nI k : Int32) = 1 := by decide
  by_cases hT : τ.1 = 256 + nI k
  · have hne : ¬ τ.1 = 0 ∧ ¬ τ.1 = 1 := by rw [hT]; exact ke k hk
    have hSP := gSP hne.1
    obtain ⟨g2, l2⟩ := lex_g (B := B) gP
    have g21 := g2.1
    have mgo : ∀ {d t : Nat} {μ0 μ : Mem} {Q : QQ}, okM B t n μ0 τ 0 μ → (∀ μ1, okM B t n μ0 (lexF B n τ.2.2.2) 0 μ1 → Call (d + 41) y_M_either [.ref 0] μ1 (fun ρ μ14 => ∃ r15 : Int32, ρ = .int r15 ∧ (Call (d + 41) y_M_isSign [.ref 0, .int 59] μ14 (fun ρ μ16 => ∃ r17 : Int32, ρ = .int r17 ∧ ((¬ r17 = 0 → ((¬ (μ16.1 0 32) = 0 → (Q (.int r15) μ16)) ∧ ((μ16.1 0 32) = 0 → (Call (d + 41) y_M_next [.ref 0] μ16 (fun _ μ18 => (Q (.int r15) μ18)))))) ∧ (r17 = 0 → (Call (d + 41) y_M_fail [.ref 0] μ16 (fun _ μ19 => ((¬ (μ19.1 0 32) = 0 → (Q (.int r15) μ19)) ∧ ((μ19.1 0 32) = 0 → (Call (d + 41) y_M_next [.ref 0] μ19 (fun _ μ20 => (Q (.int r15) μ20))))))))))))) → Call (d + 42) y_M_part [.ref 0, .int (b2p (τ.1 = 256 + nI k))] μ Q := by
      intro d t μ0 μ Q h g
      rw [b_1 hT]
      exact b_M_part_0 ⟨fun _ => ⟨fun z => absurd h.2.2.1 z, fun _ => M_nx_ok hr h hne.1 hne.2 gP (fun μ1 h1 => ⟨fun _ => g μ1 h1, fun z => absurd h1.2.2.1 z⟩)⟩, fun z => absurd z (by decide)⟩
    rcases eiJ hr hn g2 with ⟨τ3, c1, k1, g3, l3, m1, x1⟩ | ⟨f, hf, m1, x1⟩
    · have g31 := g3.1
      by_cases h59 : τ3.1 = 59
      · have hne3 : ¬ τ3.1 = 0 ∧ ¬ τ3.1 = 1 := by rw [h59]; decide
        obtain ⟨g4, l4⟩ := lex_g (B := B) g3.2.1
        have hSP3 := g3.2.2.1 hne3.1
        refine Or.inl ⟨lexF B n τ3.2.2.2, c1, k1, g4, by omega, fun d t μ0 μ Q h hQ => mgo h (fun μ1 h1 => ?_), fun d μ0 μ C R h hC hR => ?_⟩
        · exact m1 d t μ0 μ1 _ h1 (fun μ2 h2 => ⟨_, rfl, M_isSign_ok h2 (by decide) ⟨_, rfl, b_nz (fun _ => ⟨fun z => absurd h2.2.2.1 z, fun _ => M_nx_ok hr h2 hne3.1 hne3.2 g3.2.1 (fun μ3 h3 => hQ μ3 h3)⟩) (fun z => absurd h59 z)⟩⟩)
        · exact X_expect_y hr h hT gP (fun μ1 h1 => x1 d μ0 μ1 C _ h1 (by omega) (fun μ2 h2 => X_expect_y hr h2 h59 g3.2.1 (fun μ3 h3 => hR μ3 h3)))
      · refine Or.inr ⟨τ3.2.2.1, by omega, fun d t μ0 μ Q h hQ => mgo h (fun μ1 h1 => ?_), fun d μ0 μ C R h hC hR => ?_⟩
        · exact m1 d t μ0 μ1 _ h1 (fun μ2 h2 => ⟨_, rfl, M_isSign_ok h2 (by decide) ⟨_, rfl, b_nz (fun z => absurd z h59) (fun _ => M_fail_ok h2 (fun μ3 h3 => ⟨fun _ => hQ _ μ3 h3, fun z => absurd (h3.2.1.symm.trans z) (by decide)⟩))⟩⟩)
        · exact X_expect_y hr h hT gP (fun μ1 h1 => x1 d μ0 μ1 C _ h1 (by omega) (fun μ2 h2 => X_expect_n h2 h59 (by simp; omega) (fun μ3 h3 => hR μ3 h3)))
    · refine Or.inr ⟨f, hf, fun d t μ0 μ Q h hQ => mgo h (fun μ1 h1 => ?_), fun d μ0 μ C R h hC hR => ?_⟩
      · exact m1 d t μ0 μ1 _ h1 (fun v μ2 h2 => ⟨_, rfl, M_isSign_bad h2 ⟨_, rfl, fun z => absurd rfl z, fun _ => M_fail_bad h2 ⟨fun _ => hQ _ μ2 h2, fun z => absurd (h2.2.1.symm.trans z) (by decide)⟩⟩⟩)
      · exact X_expect_y hr h hT gP (fun μ1 h1 => x1 d μ0 μ1 C _ h1 (by omega) (fun μ2 h2 => X_expect_bad h2 (by omega) (by decide) (fun μ3 h3 => hR μ3 h3)))
  · refine Or.inr ⟨τ.2.2.1, by omega, fun d t μ0 μ Q h hQ => ?_, fun d μ0 μ C R h hC hR => ?_⟩
    · rw [b_0 hT]
      exact b_M_part_0 ⟨fun z => absurd rfl z, fun _ => M_fail_ok h (fun μ1 h1 => ⟨fun _ => ⟨fun z => absurd (h1.2.1.symm.trans z) (by decide), fun _ => M_isSign_bad h1 ⟨_, rfl, fun z => absurd rfl z, fun _ => M_fail_bad h1 ⟨fun _ => hQ _ μ1 h1, fun z => absurd (h1.2.1.symm.trans z) (by decide)⟩⟩⟩, fun z => absurd (h1.2.1.symm.trans z) (by decide)⟩)⟩
    · exact X_expect_n h hT (by omega) (fun μ1 h1 => xbE (by omega) h1 (fun μ2 h2 => X_expect_bad h2 (by omega) (by decide) (fun μ3 h3 => hR μ3 h3)))
/-! the class, from a fault on -/
theorem badX.self {μ0 μ : Mem} {f : Nat} (h : badX μ0 f μ) : badX μ f μ := ⟨frS.rf, h.2⟩
theorem okX.self {B : Nat → Int32} {n : Nat} {μ0 μ : Mem} {τ : TK} {C : List Int32} (h : okX B n μ0 τ C μ) : okX B n μ τ C μ := ⟨frS.rf, h.2⟩
theorem okX.e26 {B : Nat → Int32} {n : Nat} {μ0 μ μ' : Mem} {τ : TK} {C : List Int32} {g : Nat → Int32} (h : okX B n μ0 τ C μ) (e : μ' = wI μ 26 g) : okX B n μ' τ C μ' := by
  have k : ∀ k, k ≠ 26 → μ'.1 k = μ.1 k := fun k hk => by rw [e, wI_n hk]
  obtain ⟨_, h2, h3, h4, h5, h6⟩ := h
  refine ⟨frS.rf, ⟨h2.1, by rw [k 23 (by decide)]; exact h2.2.1, fun i hi => by rw [k 24 (by decide)]; exact h2.2.2.1 i hi, h2.2.2.2.fr (Only.we (ks := [26]) e)⟩, by rw [k 23 (by decide)]; exact h3, ?_, by rw [k 23 (by decide)]; exact h5, fun j hj => by rw [k 25 (by decide)]; exact h6 j hj⟩
  unfold tokX
  rw [k 23 (by decide)]
  exact h4
theorem badX.e26 {μ0 μ μ' : Mem} {f : Nat} {g : Nat → Int32} (h : badX μ0 f μ) (e : μ' = wI μ 26 g) : badX μ' f μ' := by
  have k : μ'.1 23 = μ.1 23 := by rw [e, wI_n (by decide)]
  exact ⟨frS.rf, by rw [k]; exact h.2.1, by rw [k]; exact h.2.2.1, by rw [k]; exact h.2.2.2⟩
theorem X_read_bad {d f p : Nat} {Q : QQ} {μ μ0 : Mem} (hf : f < 1000) (hp : p ≤ 3) (h : badX μ f μ) (hQ : ∀ μ', Only [23, 25, 26] μ μ' → (∀ k, k < 4 ∨ 9 < k → k ≠ 1 → μ'.1 23 k = μ.1 23 k) → μ'.1 23 1 = 0 → Q (.int (nI f)) μ') : AA (Call (d + 8)) y_Reader_read Q 13 [.ref 23, .int (nI p)] [] μ := by
  refine loopN (G := fun p s => AA (Call (d + 8)) y_Reader_read Q 13 [.ref 23, .int (nI p)] [] s) (P := fun p s => Only [23, 25, 26] μ s ∧ (∀ k, k < 4 ∨ 9 < k → s.1 23 k = μ.1 23 k) ∧ badX s f s) (N := 3) ?_ ?_ p μ hp ⟨Only.rf, fun _ _ => rfl, h⟩
  · intro s ⟨o, f1, h1⟩
    refine b_Reader_read_13 ⟨fun _ => X_expect_bad h1 hf (by decide) (fun μ1 h2 μ2 e2 => ?_), fun z => absurd (by decide) z⟩
    refine Qi (hQ μ2 ((o.trans (h2.1.1.mono (by simp))).trans (.we e2)) (fun k hk hk1 => ?_) (by rw [e2, wI_s, upd_s])) ?_
    · rw [e2, wI_s, upd_n hk1, h2.1.2 k hk]; exact f1 k hk
    · rw [e2, wI_s, upd_n (by decide)]; exact h2.2.2.1
  · intro p s hp ⟨o, f1, h1⟩ ih
    have ne : ∀ p, p < 3 → ¬ (1 : Int32) = 256 + nI p := by decide
    refine b_Reader_read_13 ⟨fun z => absurd (le32.mp z) (by rw [nI_i (by omega)]; show ¬ (3 : Int) ≤ _; omega), fun _ => X_expect_bad h1 hf (ne p hp) (fun μ1 h2 => xbE hf h2 (fun μ2 h3 => X_expect_bad h3 hf (by decide) (fun μ3 h4 => ⟨nI_v hp (by omega), fun μ6 e6 => ?_⟩)))⟩
    rw [nI_1]
    refine ih μ6 ⟨(o.trans (h4.1.1.mono (by simp))).trans (.we e6), fun k hk => ?_, h4.e26 e6⟩
    rw [e6, wI_n (by decide), h4.1.2 k hk]; exact f1 k hk
/-- what reading a text comes to -/
def RJ (B : Nat → Int32) (n : Nat) : Prop := (∃ c0 c1 c2 : List Int32, okK c0 31 ∧ okK c1 31 ∧ okK c2 31 ∧ c0.length + c1.length + c2.length ≤ 160 ∧ (∀ (d t w : Nat) (μ : Mem) (Q : QQ), t < 6 → w < 3 → (∀ i, i < n → μ.1 1 (160 * t + i) = B i) → μ.1 2 t = nI n → (∀ μ', frP μ μ' → μ'.1 0 32 = 0 → Q (.int (evF (if w = 0 then c0 else if w = 1 then c1 else c2) (envM μ))) μ') → Call (d + 43) y_M_read [.ref 0, .int (nI t), .int (nI w)] μ Q) ∧ (∀ (d : Nat) (μ : Mem) (Q : QQ), byX B n μ → (∀ μ', Only [23, 25, 26] μ μ' → (∀ k, k < 4 ∨ 9 < k → k ≠ 1 → μ'.1 23 k = μ.1 23 k) → μ'.1 23 1 = 0 → (∀ j, j < (c0 ++ c1 ++ c2).length → μ'.1 25 j = (c0 ++ c1 ++ c2).getD j 0) → μ'.1 26 0 = nI c0.length → μ'.1 26 1 = nI (c0.length + c1.length) → μ'.1 26 2 = nI (c0.length + c1.length + c2.length) → Q (.int (-1)) μ') → Call (d + 51) y_Reader_read [.ref 23] μ Q)) ∨
  ∃ f, f ≤ 160 ∧ (∀ (d t w : Nat) (μ : Mem) (Q : QQ), t < 6 → w < 3 → (∀ i, i < n → μ.1 1 (160 * t + i) = B i) → μ.1 2 t = nI n → (∀ v μ', badM μ f μ' → Q (.int v) μ') → Call (d + 43) y_M_read [.ref 0, .int (nI t), .int (nI w)] μ Q) ∧ (∀ (d : Nat) (μ : Mem) (Q : QQ), byX B n μ → (∀ μ', Only [23, 25, 26] μ μ' → (∀ k, k < 4 ∨ 9 < k → k ≠ 1 → μ'.1 23 k = μ.1 23 k) → μ'.1 23 1 = 0 → Q (.int (nI f)) μ') → Call (d + 51) y_Reader_read [.ref 23] μ Q)
theorem M_read_1 {B : Nat → Int32} {n t : Nat} {μ μ1 μ2 μ3 μ4 μ5 : Mem} (hn : n ≤ 160) (ht : t < 6) (hB : ∀ i, i < n → μ.1 1 (160 * t + i) = B i) (hs : μ.1 2 t = nI n) (e1 : μ1 = wI μ 0 (upd (μ.1 0) 25 (160 * nI t))) (e2 : μ2 = wI μ1 0 (upd (μ1.1 0) 26 (μ1.1 2 (nI t).toNatClampNeg))) (e3 : μ3 = wI μ2 0 (upd (μ2.1 0) 27 0)) (e4 : μ4 = wI μ3 0 (upd (μ3.1 0) 31 0)) (e5 : μ5 = wI μ4 0 (upd (μ4.1 0) 32 0)) : frP μ μ5 ∧ byM B t n μ5 ∧ μ5.1 0 32 = 0 ∧ μ5.1 0 31 = nI 0 ∧ μ5.1 0 27 = nI 0 := by
  have f5 : frP μ μ5 := ((((frP.w e1).trans (.w e2)).trans (.w e3)).trans (.w e4)).trans (.w e5)
  have k : ∀ k, k ≠ 0 → μ5.1 k = μ.1 k := fun k hk => f5.1.i k (by simp; exact hk)
  have k1 : μ1.1 2 = μ.1 2 := by rw [e1, wI_n (by decide)]
  have e160 : (160 : Int32) * nI t = nI (160 * t) := by
    have : ∀ t, t < 6 → (160 : Int32) * nI t = nI (160 * t) := by decide
    exact this t ht
  rw [e160] at e1
  rw [k1, nI_c (by omega), hs] at e2
  refine ⟨f5, ⟨ht, hn, fun i hi => by rw [k 1 (by decide)]; exact hB i hi, ?_, ?_⟩, ?_, ?_, ?_⟩
  · rw [e5, wI_s, upd_n (by decide), e4, wI_s, upd_n (by decide), e3, wI_s, upd_n (by decide), e2, wI_s, upd_n (by decide), e1, wI_s, upd_s]
  · rw [e5, wI_s, upd_n (by decide), e4, wI_s, upd_n (by decide), e3, wI_s, upd_n (by decide), e2, wI_s, upd_s]
  · rw [e5, wI_s, upd_s]
  · rw [e5, wI_s, upd_n (by decide), e4, wI_s, upd_s]; rfl
  · rw [e5, wI_s, upd_n (by decide), e4, wI_s, upd_n (by decide), e3, wI_s, upd_s]; rfl
theorem X_read_1 {B : Nat → Int32} {n : Nat} {μ μ1 μ2 μ3 : Mem} (hb : byX B n μ) (e1 : μ1 = wI μ 23 (upd (μ.1 23) 4 0)) (e2 : μ2 = wI μ1 23 (upd (μ1.1 23) 8 (-1))) (e3 : μ3 = wI μ2 23 (upd (μ2.1 23) 9 0)) : frS μ μ3 ∧ byX B n μ3 ∧ μ3.1 23 8 = -1 ∧ μ3.1 23 9 = nI 0 ∧ μ3.1 23 4 = nI 0 := by
  have f3 : frS μ μ3 := ((frS.w e1).trans (.w e2)).trans (.w e3)
  refine ⟨f3, hb.s f3, ?_, ?_, ?_⟩
  · rw [e3, wI_s, upd_n (by decide), e2, wI_s, upd_s]
  · rw [e3, wI_s, upd_s]; rfl
  · rw [e3, wI_s, upd_n (by decide), e2, wI_s, upd_n (by decide), e1, wI_s, upd_s]; rfl
theorem readJ {B : Nat → Int32} {n : Nat} (hr : ∀ i, i < n → rng (B i) 0 255) (hn : n ≤ 160) : RJ B n := by
  obtain ⟨g0, l0⟩ := lex_g (B := B) (Nat.zero_le n)
  have w3 : ∀ w, w < 3 → w = 0 ∨ w = 1 ∨ w = 2 := by omega
  rcases partJ (k := 0) hr hn (by omega) g0 with ⟨τ1, c0, k0, g1, l1, m0, x0⟩ | ⟨f, hf, m0, x0⟩
  · have g11 := g1.1
    rcases partJ (k := 1) hr hn (by omega) g1 with ⟨τ2, c1, k1, g2, l2, m1, x1⟩ | ⟨f, hf, m1, x1⟩
    · have g21 := g2.1
      rcases partJ (k := 2) hr hn (by omega) g2 with ⟨τ3, c2, k2, g3, l3, m2, x2⟩ | ⟨f, hf, m2, x2⟩
      · have g31 := g3.1
        by_cases hE : τ3.1 = 0
        · refine Or.inl ⟨c0, c1, c2, k0, k1, k2, by omega, fun d t w μ Q ht hw hB hs hQ => ?_, fun d μ Q hb hQ => ?_⟩
          · refine b_M_read_0 (fun μ1 e1 => ⟨nI_v ht (by omega), fun μ2 e2 μ3 e3 μ4 e4 => ⟨by decide, fun μ5 e5 => ?_⟩⟩)
            obtain ⟨f5, b5, z5, o5, p5⟩ := M_read_1 hn ht hB hs e1 e2 e3 e4 e5
            refine M_next_ok b5 hr (Nat.zero_le _) p5 (fun μ6 f6 t6 => ?_)
            have h6 : okM B t n μ (lexF B n 0) 0 μ6 := ⟨f5.trans f6.p, b5.fr f6, by rw [f6.2 32 (by omega)]; exact z5, by rw [f6.2 31 (by omega)]; exact o5, t6⟩
            refine M_key_ok h6 (k := 0) (by omega) g0.1 (by decide) ⟨_, rfl, ?_⟩
            refine m0 d t μ μ6 _ h6 (fun μ9 h9 => ⟨_, rfl, fun _ => ?_, fun z => absurd h9.2.2.1 z⟩)
            refine M_key_ok h9 (k := 1) (by omega) g1.1 (by decide) ⟨_, rfl, m1 d t μ μ9 _ h9 (fun μ13 h13 => ⟨_, rfl, fun _ => ?_, fun z => absurd h13.2.2.1 z⟩)⟩
            refine M_key_ok h13 (k := 2) (by omega) g2.1 (by decide) ⟨_, rfl, m2 d t μ μ13 _ h13 (fun μ17 h17 => ⟨_, rfl, fun z => absurd h17.2.2.1 z, fun _ => ⟨fun _ => ?_, fun z => ?_⟩⟩)⟩
            · have g := hQ μ17 h17.1 h17.2.2.1
              rcases w3 w hw with q | q | q <;> subst q
              · exact ⟨fun z => absurd rfl z, fun _ => g⟩
              · exact ⟨fun _ => ⟨fun z => absurd rfl z, fun _ => g⟩, fun z => absurd z (by decide)⟩
              · exact ⟨fun _ => ⟨fun _ => g, fun z => absurd z (by decide)⟩, fun z => absurd z (by decide)⟩
            · rcases h17.2.2.2.2.2 with ⟨_, q⟩ | ⟨q, _⟩ | ⟨q, _⟩ | ⟨q, _⟩ | ⟨_, _, _, _, _, q⟩
              · exact absurd q z
              · exact absurd (hE.symm.trans q) (by decide)
              · exact absurd (hE.symm.trans q) (by decide)
              · rw [hE] at q; exact absurd q (by decide)
              · have q2 : τ3.1 = (wtok (knF (wrdL B τ3.2.2.1 τ3.2.2.2))).1 := congrArg Prod.fst q
                exact absurd (q2.symm.trans hE) wtok_0
          · refine b_Reader_read_0 (fun μ1 e1 μ2 e2 μ3 e3 => ?_)
            obtain ⟨f3, b3, z3, w3, p3⟩ := X_read_1 hb e1 e2 e3
            refine Reader_next_ok b3 hr (Nat.zero_le _) p3 (fun μ4 f4 t4 => ?_)
            have h4 : okX B n μ (lexF B n 0) [] μ4 := ⟨f3.trans f4.s, b3.fr f4, by rw [f4.2 8 (by omega)]; exact z3, t4, by rw [f4.2 9 (by omega)]; exact w3, fun j hj => absurd hj (Nat.not_lt_zero _)⟩
            have ne3 : ∀ p, p < 3 → ¬ (3 : Int32) ≤ nI p := by decide
            refine b_Reader_read_13 ⟨fun z => absurd z (by decide), fun _ => x0 d μ μ4 [] _ h4 (Nat.zero_le _) (fun μ5 h5 => ⟨nI_v (n := 0) (by omega) (by omega), fun μ6 e6 => ?_⟩)⟩
            rw [List.nil_append] at h5
            have h6 := h5.e26 e6
            refine b_Reader_read_13 ⟨fun z => absurd z (by decide), fun _ => x1 d μ6 μ6 c0 _ h6 (by omega) (fun μ7 h7 => ⟨nI_v (n := 1) (by omega) (by omega), fun μ8 e8 => ?_⟩)⟩
            have h8 := h7.e26 e8
            refine b_Reader_read_13 ⟨fun z => absurd z (by decide), fun _ => x2 d μ8 μ8 (c0 ++ c1) _ h8 (by simp; omega) (fun μ9 h9 => ⟨nI_v (n := 2) (by omega) (by omega), fun μ10 e10 => ?_⟩)⟩
            have h10 := h9.e26 e10
            refine b_Reader_read_13 ⟨fun _ => X_expect_y hr h10 hE g3.2.1 (fun μ11 h11 μ12 e12 => ?_), fun z => absurd (by decide) z⟩
            have k26 : μ12.1 26 = μ10.1 26 := by rw [e12, wI_n (by decide), h11.1.1.i 26]
            have c0' : (Int32.toNatClampNeg (0 : Int32)) = 0 := rfl
            have c1' : (Int32.toNatClampNeg ((0 : Int32) + 1)) = 1 := by decide
            have c2' : (Int32.toNatClampNeg ((0 : Int32) + 1 + 1)) = 2 := by decide
            have o26 : μ10.1 26 = upd (upd (upd (μ4.1 26) 0 (nI c0.length)) 1 (nI (c0.length + c1.length))) 2 (nI (c0.length + c1.length + c2.length)) := by
              have a1 : μ6.1 26 = upd (μ4.1 26) 0 (nI c0.length) := by rw [e6, wI_s, c0', h5.2.2.2.2.1, h5.1.1.i 26, ← h4.1.1.i 26]
              have a2 : μ8.1 26 = upd (μ6.1 26) 1 (nI (c0.length + c1.length)) := by rw [e8, wI_s, c1', h7.2.2.2.2.1, h7.1.1.i 26]; simp
              rw [e10, wI_s, c2', h9.2.2.2.2.1, h9.1.1.i 26, a2, a1, show (c0 ++ c1 ++ c2).length = c0.length + c1.length + c2.length by simp; omega]
            refine Qi (hQ μ12 ?_ (fun k hk hk1 => ?_) (by rw [e12, wI_s, upd_s]) (fun j hj => ?_) ?_ ?_ ?_) ?_
            · have q1 : Only [23, 25, 26] μ μ5 := h5.1.1.mono (by simp)
              have q2 : Only [23, 25, 26] μ6 μ7 := h7.1.1.mono (by simp)
              have q3 : Only [23, 25, 26] μ8 μ9 := h9.1.1.mono (by simp)
              have q4 : Only [23, 25, 26] μ10 μ11 := h11.1.1.mono (by simp)
              exact (((((((q1.trans (.we e6)).trans q2).trans (.we e8)).trans q3).trans (.we e10)).trans q4)).trans (.we e12)
            · rw [e12, wI_s, upd_n hk1, h11.1.2 k hk, e10, wI_n (by decide), h9.1.2 k hk, e8, wI_n (by decide), h7.1.2 k hk, e6, wI_n (by decide)]
              exact h5.1.2 k hk
            · rw [e12, wI_n (by decide)]; exact h11.2.2.2.2.2 j hj
            · rw [k26, o26, upd_n (by decide), upd_n (by decide), upd_s]
            · rw [k26, o26, upd_n (by decide), upd_s]
            · rw [k26, o26, upd_s]
            · rw [e12, wI_s, upd_n (by decide)]; exact h11.2.2.1
        · refine Or.inr ⟨τ3.2.2.1, by omega, fun d t w μ Q ht hw hB hs hQ => ?_, fun d μ Q hb hQ => ?_⟩
          · refine b_M_read_0 (fun μ1 e1 => ⟨nI_v ht (by omega), fun μ2 e2 μ3 e3 μ4 e4 => ⟨by decide, fun μ5 e5 => ?_⟩⟩)
            obtain ⟨f5, b5, z5, o5, p5⟩ := M_read_1 hn ht hB hs e1 e2 e3 e4 e5
            refine M_next_ok b5 hr (Nat.zero_le _) p5 (fun μ6 f6 t6 => ?_)
            have h6 : okM B t n μ (lexF B n 0) 0 μ6 := ⟨f5.trans f6.p, b5.fr f6, by rw [f6.2 32 (by omega)]; exact z5, by rw [f6.2 31 (by omega)]; exact o5, t6⟩
            refine M_key_ok h6 (k := 0) (by omega) g0.1 (by decide) ⟨_, rfl, ?_⟩
            refine m0 d t μ μ6 _ h6 (fun μ9 h9 => ⟨_, rfl, fun _ => ?_, fun z => absurd h9.2.2.1 z⟩)
            refine M_key_ok h9 (k := 1) (by omega) g1.1 (by decide) ⟨_, rfl, m1 d t μ μ9 _ h9 (fun μ13 h13 => ⟨_, rfl, fun _ => ?_, fun z => absurd h13.2.2.1 z⟩)⟩
            refine M_key_ok h13 (k := 2) (by omega) g2.1 (by decide) ⟨_, rfl, m2 d t μ μ13 _ h13 (fun μ17 h17 => ⟨_, rfl, fun z => absurd h17.2.2.1 z, fun _ => ⟨fun z => ?_, fun _ => M_fail_ok h17 (fun μ19 h19 => ?_)⟩⟩)⟩
            · rcases h17.2.2.2.2.2 with ⟨q, _⟩ | ⟨_, q⟩ | ⟨_, q, _⟩ | ⟨_, q, _⟩ | ⟨_, _, _, q, _⟩
              · exact absurd q hE
              · exact absurd (q.symm.trans z) (by decide)
              · exact absurd (q.symm.trans z) (by decide)
              · exact absurd (q.symm.trans z) (by decide)
              · exact absurd (q.symm.trans z) (by decide)
            · exact ⟨fun _ => ⟨fun _ => hQ _ _ h19, fun _ => hQ _ _ h19⟩, fun _ => hQ _ _ h19⟩
          · refine b_Reader_read_0 (fun μ1 e1 μ2 e2 μ3 e3 => ?_)
            obtain ⟨f3, b3, z3, w3, p3⟩ := X_read_1 hb e1 e2 e3
            refine Reader_next_ok b3 hr (Nat.zero_le _) p3 (fun μ4 f4 t4 => ?_)
            have h4 : okX B n μ (lexF B n 0) [] μ4 := ⟨f3.trans f4.s, b3.fr f4, by rw [f4.2 8 (by omega)]; exact z3, t4, by rw [f4.2 9 (by omega)]; exact w3, fun j hj => absurd hj (Nat.not_lt_zero _)⟩
            refine b_Reader_read_13 ⟨fun z => absurd z (by decide), fun _ => x0 d μ μ4 [] _ h4 (Nat.zero_le _) (fun μ5 h5 => ⟨nI_v (n := 0) (by omega) (by omega), fun μ6 e6 => ?_⟩)⟩
            rw [List.nil_append] at h5
            have h6 := h5.e26 e6
            refine b_Reader_read_13 ⟨fun z => absurd z (by decide), fun _ => x1 d μ6 μ6 c0 _ h6 (by omega) (fun μ7 h7 => ⟨nI_v (n := 1) (by omega) (by omega), fun μ8 e8 => ?_⟩)⟩
            have h8 := h7.e26 e8
            refine b_Reader_read_13 ⟨fun z => absurd z (by decide), fun _ => x2 d μ8 μ8 (c0 ++ c1) _ h8 (by simp; omega) (fun μ9 h9 => ⟨nI_v (n := 2) (by omega) (by omega), fun μ10 e10 => ?_⟩)⟩
            have h10 := h9.e26 e10
            refine b_Reader_read_13 ⟨fun _ => X_expect_n h10 hE (by simp; omega) (fun μ11 h11 μ12 e12 => ?_), fun z => absurd (by decide) z⟩
            refine Qi (hQ μ12 ?_ (fun k hk hk1 => ?_) (by rw [e12, wI_s, upd_s])) ?_
            · have q1 : Only [23, 25, 26] μ μ5 := h5.1.1.mono (by simp)
              have q2 : Only [23, 25, 26] μ6 μ7 := h7.1.1.mono (by simp)
              have q3 : Only [23, 25, 26] μ8 μ9 := h9.1.1.mono (by simp)
              have q4 : Only [23, 25, 26] μ10 μ11 := h11.1.1.mono (by simp)
              exact (((((((q1.trans (.we e6)).trans q2).trans (.we e8)).trans q3).trans (.we e10)).trans q4)).trans (.we e12)
            · rw [e12, wI_s, upd_n hk1, h11.1.2 k hk, e10, wI_n (by decide), h9.1.2 k hk, e8, wI_n (by decide), h7.1.2 k hk, e6, wI_n (by decide)]
              exact h5.1.2 k hk
            · rw [e12, wI_s, upd_n (by decide)]; exact h11.2.2.1
      · refine Or.inr ⟨f, hf, fun d t w μ Q ht hw hB hs hQ => ?_, fun d μ Q hb hQ => ?_⟩
        · refine b_M_read_0 (fun μ1 e1 => ⟨nI_v ht (by omega), fun μ2 e2 μ3 e3 μ4 e4 => ⟨by decide, fun μ5 e5 => ?_⟩⟩)
          obtain ⟨f5, b5, z5, o5, p5⟩ := M_read_1 hn ht hB hs e1 e2 e3 e4 e5
          refine M_next_ok b5 hr (Nat.zero_le _) p5 (fun μ6 f6 t6 => ?_)
          have h6 : okM B t n μ (lexF B n 0) 0 μ6 := ⟨f5.trans f6.p, b5.fr f6, by rw [f6.2 32 (by omega)]; exact z5, by rw [f6.2 31 (by omega)]; exact o5, t6⟩
          refine M_key_ok h6 (k := 0) (by omega) g0.1 (by decide) ⟨_, rfl, ?_⟩
          refine m0 d t μ μ6 _ h6 (fun μ9 h9 => ⟨_, rfl, fun _ => ?_, fun z => absurd h9.2.2.1 z⟩)
          refine M_key_ok h9 (k := 1) (by omega) g1.1 (by decide) ⟨_, rfl, m1 d t μ μ9 _ h9 (fun μ13 h13 => ⟨_, rfl, fun _ => ?_, fun z => absurd h13.2.2.1 z⟩)⟩
          exact M_key_ok h13 (k := 2) (by omega) g2.1 (by decide) ⟨_, rfl, m2 d t μ μ13 _ h13 (fun v μ17 h17 => ⟨_, rfl, fun _ => ⟨fun _ => ⟨fun _ => hQ _ _ h17, fun _ => hQ _ _ h17⟩, fun _ => hQ _ _ h17⟩, fun z => absurd (h17.2.1.symm.trans z) (by decide)⟩)⟩
        · refine b_Reader_read_0 (fun μ1 e1 μ2 e2 μ3 e3 => ?_)
          obtain ⟨f3, b3, z3, w3, p3⟩ := X_read_1 hb e1 e2 e3
          refine Reader_next_ok b3 hr (Nat.zero_le _) p3 (fun μ4 f4 t4 => ?_)
          have h4 : okX B n μ (lexF B n 0) [] μ4 := ⟨f3.trans f4.s, b3.fr f4, by rw [f4.2 8 (by omega)]; exact z3, t4, by rw [f4.2 9 (by omega)]; exact w3, fun j hj => absurd hj (Nat.not_lt_zero _)⟩
          refine b_Reader_read_13 ⟨fun z => absurd z (by decide), fun _ => x0 d μ μ4 [] _ h4 (Nat.zero_le _) (fun μ5 h5 => ⟨nI_v (n := 0) (by omega) (by omega), fun μ6 e6 => ?_⟩)⟩
          rw [List.nil_append] at h5
          have h6 := h5.e26 e6
          refine b_Reader_read_13 ⟨fun z => absurd z (by decide), fun _ => x1 d μ6 μ6 c0 _ h6 (by omega) (fun μ7 h7 => ⟨nI_v (n := 1) (by omega) (by omega), fun μ8 e8 => ?_⟩)⟩
          have h8 := h7.e26 e8
          refine b_Reader_read_13 ⟨fun z => absurd z (by decide), fun _ => x2 d μ8 μ8 (c0 ++ c1) _ h8 (by simp; omega) (fun μ9 h9 => ⟨nI_v (n := 2) (by omega) (by omega), fun μ10 e10 => ?_⟩)⟩
          refine X_read_bad (μ0 := μ) (d := d + 42) (p := 3) (f := f) (by omega) (by omega) (h9.e26 e10) (fun μ12 o12 f12 z12 => hQ μ12 ?_ (fun k hk hk1 => ?_) z12)
          · have q1 : Only [23, 25, 26] μ μ5 := h5.1.1.mono (by simp)
            have q2 : Only [23, 25, 26] μ6 μ7 := h7.1.1.mono (by simp)
            have q3 : Only [23, 25, 26] μ8 μ9 := h9.1.1.mono (by simp)
            exact ((((((q1.trans (.we e6)).trans q2).trans (.we e8)).trans q3).trans (.we e10)).trans o12)
          · rw [f12 k hk hk1, e10, wI_n (by decide), h9.1.2 k hk, e8, wI_n (by decide), h7.1.2 k hk, e6, wI_n (by decide)]
            exact h5.1.2 k hk
    · refine Or.inr ⟨f, hf, fun d t w μ Q ht hw hB hs hQ => ?_, fun d μ Q hb hQ => ?_⟩
      · refine b_M_read_0 (fun μ1 e1 => ⟨nI_v ht (by omega), fun μ2 e2 μ3 e3 μ4 e4 => ⟨by decide, fun μ5 e5 => ?_⟩⟩)
        obtain ⟨f5, b5, z5, o5, p5⟩ := M_read_1 hn ht hB hs e1 e2 e3 e4 e5
        refine M_next_ok b5 hr (Nat.zero_le _) p5 (fun μ6 f6 t6 => ?_)
        have h6 : okM B t n μ (lexF B n 0) 0 μ6 := ⟨f5.trans f6.p, b5.fr f6, by rw [f6.2 32 (by omega)]; exact z5, by rw [f6.2 31 (by omega)]; exact o5, t6⟩
        refine M_key_ok h6 (k := 0) (by omega) g0.1 (by decide) ⟨_, rfl, ?_⟩
        refine m0 d t μ μ6 _ h6 (fun μ9 h9 => ⟨_, rfl, fun _ => ?_, fun z => absurd h9.2.2.1 z⟩)
        refine M_key_ok h9 (k := 1) (by omega) g1.1 (by decide) ⟨_, rfl, m1 d t μ μ9 _ h9 (fun v μ13 h13 => ⟨_, rfl, fun z => absurd (h13.2.1.symm.trans z) (by decide), fun _ => ⟨fun _ => ⟨fun _ => ⟨fun _ => hQ _ _ h13, fun _ => hQ _ _ h13⟩, fun _ => hQ _ _ h13⟩, fun z => absurd (h13.2.1.symm.trans z) (by decide)⟩⟩)⟩
      · refine b_Reader_read_0 (fun μ1 e1 μ2 e2 μ3 e3 => ?_)
        obtain ⟨f3, b3, z3, w3, p3⟩ := X_read_1 hb e1 e2 e3
        refine Reader_next_ok b3 hr (Nat.zero_le _) p3 (fun μ4 f4 t4 => ?_)
        have h4 : okX B n μ (lexF B n 0) [] μ4 := ⟨f3.trans f4.s, b3.fr f4, by rw [f4.2 8 (by omega)]; exact z3, t4, by rw [f4.2 9 (by omega)]; exact w3, fun j hj => absurd hj (Nat.not_lt_zero _)⟩
        refine b_Reader_read_13 ⟨fun z => absurd z (by decide), fun _ => x0 d μ μ4 [] _ h4 (Nat.zero_le _) (fun μ5 h5 => ⟨nI_v (n := 0) (by omega) (by omega), fun μ6 e6 => ?_⟩)⟩
        rw [List.nil_append] at h5
        have h6 := h5.e26 e6
        refine b_Reader_read_13 ⟨fun z => absurd z (by decide), fun _ => x1 d μ6 μ6 c0 _ h6 (by omega) (fun μ7 h7 => ⟨nI_v (n := 1) (by omega) (by omega), fun μ8 e8 => ?_⟩)⟩
        refine X_read_bad (μ0 := μ) (d := d + 42) (p := 2) (f := f) (by omega) (by omega) (h7.e26 e8) (fun μ12 o12 f12 z12 => hQ μ12 ?_ (fun k hk hk1 => ?_) z12)
        · have q1 : Only [23, 25, 26] μ μ5 := h5.1.1.mono (by simp)
          have q2 : Only [23, 25, 26] μ6 μ7 := h7.1.1.mono (by simp)
          exact ((((q1.trans (.we e6)).trans q2).trans (.we e8)).trans o12)
        · rw [f12 k hk hk1, e8, wI_n (by decide), h7.1.2 k hk, e6, wI_n (by decide)]
          exact h5.1.2 k hk
  · refine Or.inr ⟨f, hf, fun d t w μ Q ht hw hB hs hQ => ?_, fun d μ Q hb hQ => ?_⟩
    · refine b_M_read_0 (fun μ1 e1 => ⟨nI_v ht (by omega), fun μ2 e2 μ3 e3 μ4 e4 => ⟨by decide, fun μ5 e5 => ?_⟩⟩)
      obtain ⟨f5, b5, z5, o5, p5⟩ := M_read_1 hn ht hB hs e1 e2 e3 e4 e5
      refine M_next_ok b5 hr (Nat.zero_le _) p5 (fun μ6 f6 t6 => ?_)
      have h6 : okM B t n μ (lexF B n 0) 0 μ6 := ⟨f5.trans f6.p, b5.fr f6, by rw [f6.2 32 (by omega)]; exact z5, by rw [f6.2 31 (by omega)]; exact o5, t6⟩
      refine M_key_ok h6 (k := 0) (by omega) g0.1 (by decide) ⟨_, rfl, ?_⟩
      exact m0 d t μ μ6 _ h6 (fun v μ9 h9 => ⟨_, rfl, fun z => absurd (h9.2.1.symm.trans z) (by decide), fun _ => ⟨fun z => absurd (h9.2.1.symm.trans z) (by decide), fun _ => ⟨fun _ => ⟨fun _ => ⟨fun _ => hQ _ _ h9, fun _ => hQ _ _ h9⟩, fun _ => hQ _ _ h9⟩, fun z => absurd (h9.2.1.symm.trans z) (by decide)⟩⟩⟩)
    · refine b_Reader_read_0 (fun μ1 e1 μ2 e2 μ3 e3 => ?_)
      obtain ⟨f3, b3, z3, w3, p3⟩ := X_read_1 hb e1 e2 e3
      refine Reader_next_ok b3 hr (Nat.zero_le _) p3 (fun μ4 f4 t4 => ?_)
      have h4 : okX B n μ (lexF B n 0) [] μ4 := ⟨f3.trans f4.s, b3.fr f4, by rw [f4.2 8 (by omega)]; exact z3, t4, by rw [f4.2 9 (by omega)]; exact w3, fun j hj => absurd hj (Nat.not_lt_zero _)⟩
      refine b_Reader_read_13 ⟨fun z => absurd z (by decide), fun _ => x0 d μ μ4 [] _ h4 (Nat.zero_le _) (fun μ5 h5 => ⟨nI_v (n := 0) (by omega) (by omega), fun μ6 e6 => ?_⟩)⟩
      refine X_read_bad (μ0 := μ) (d := d + 42) (p := 1) (f := f) (by omega) (by omega) (h5.e26 e6) (fun μ12 o12 f12 z12 => hQ μ12 ?_ (fun k hk hk1 => ?_) z12)
      · have q1 : Only [23, 25, 26] μ μ5 := h5.1.1.mono (by simp)
        exact (q1.trans (.we e6)).trans o12
      · rw [f12 k hk hk1, e6, wI_n (by decide)]
        exact h5.1.2 k hk
