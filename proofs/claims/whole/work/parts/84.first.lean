/-! ===== the first text, of both ===== -/
theorem atomN {B : Nat → Int32} {n o : Nat} {τ : TK} (hr : ∀ i, i < n → rng (B i) 0 255) (hn : n ≤ 160) (ho : o ≤ 5) (hg : gTk n τ) (h2 : τ.1 = 2) : okK [τ.2.1] (kO o) ∧ MOk y_M_atom (dA o) B n τ o (lexF B n τ.2.2.2) [τ.2.1] ∧ XOk y_Reader_readOne (dO o) B n τ o (lexF B n τ.2.2.2) [τ.2.1] := by
  obtain ⟨gS, gP, gSP, gN, gM⟩ := hg
  have kb : 1 ≤ kO o ∧ kO o ≤ 31 := by unfold kO; omega
  have h45 : ¬ τ.1 = 45 := by rw [h2]; decide
  have h40 : ¬ τ.1 = 40 := by rw [h2]; decide
  have hne : ¬ τ.1 = 0 ∧ ¬ τ.1 = 1 := by rw [h2]; decide
  have hSP := gSP hne.1
  have hV := gN h2
  have v0 : ¬ τ.2.1 < 0 := fun z => by have := lt32.mp z; have e : (0 : Int32).toInt = 0 := rfl; omega
  have v6 : ¬ τ.2.1 < -6 := fun z => by have := lt32.mp z; have e : (-6 : Int32).toInt = -6 := rfl; omega
  obtain ⟨ok1, e1⟩ := ev1 v6 kb.1 kb.2
  refine ⟨ok1, fun d t μ0 μ Q h hQ => ?_, fun d μ0 μ C Q h hC hQ => ?_⟩
  · have hb := h.2.2.1
    have tk := tok_2 h.2.2.2.2
    refine b_M_atom_0 (M_isSign_ok h (by decide) ⟨_, rfl, b_zs (fun z => absurd z h45) (fun _ => M_isSign_ok h (by decide) ⟨_, rfl, b_zs (fun z => absurd z h40) (fun _ => ⟨fun z => absurd hb z, fun _ => ⟨fun z => absurd (tk.1.mpr h2) z, fun _ => M_nx_ok hr h hne.1 hne.2 gP (fun μ1 h1 => ?_)⟩⟩)⟩)⟩ |> fun z => z)
    have g := hQ μ1 h1
    rw [e1, if_neg v0, ← tk.2.1 h2] at g
    exact g
  · have e5 := h.2.2.2.1.1
    have e7 := h.2.2.2.1.2.2.2 (Or.inl h2)
    rw [h2] at e5
    refine b_Reader_readOne_0 ⟨fun z => absurd e5 z, fun _ => ?_⟩
    rw [e7]
    exact X_emit_ok h (by omega) (fun μ1 h1 => X_nx_ok hr h1 gP (fun μ2 h2 => hQ μ2 h2))
theorem atomM {B : Nat → Int32} {n o : Nat} {τ : TK} (hr : ∀ i, i < n → rng (B i) 0 255) (hn : n ≤ 160) (ho : o ≤ 5) (hg : gTk n τ) (h3 : τ.1 = 3) {k : Nat} (hk : k < 6) (eV : τ.2.1 = nI k) : okK [(-1) - nI k] (kO o) ∧ MOk y_M_atom (dA o) B n τ o (lexF B n τ.2.2.2) [(-1) - nI k] ∧ XOk y_Reader_readOne (dO o) B n τ o (lexF B n τ.2.2.2) [(-1) - nI k] := by
  obtain ⟨gS, gP, gSP, gN, gM⟩ := hg
  have kb : 1 ≤ kO o ∧ kO o ≤ 31 := by unfold kO; omega
  have h45 : ¬ τ.1 = 45 := by rw [h3]; decide
  have h40 : ¬ τ.1 = 40 := by rw [h3]; decide
  have h2 : ¬ τ.1 = 2 := by rw [h3]; decide
  have hne : ¬ τ.1 = 0 ∧ ¬ τ.1 = 1 := by rw [h3]; decide
  have hSP := gSP hne.1
  have ck : ∀ k, k < 6 → ¬ ((-1 : Int32) - nI k) < -6 ∧ ((-1 : Int32) - nI k) < 0 ∧ ((-1 : Int32) - ((-1 : Int32) - nI k)).toNatClampNeg = k := by decide
  obtain ⟨c6, c0, cc⟩ := ck k hk
  obtain ⟨ok1, e1⟩ := ev1 c6 kb.1 kb.2
  refine ⟨ok1, fun d t μ0 μ Q h hQ => ?_, fun d μ0 μ C Q h hC hQ => ?_⟩
  · have hb := h.2.2.1
    have tk := tok_2 h.2.2.2.2
    have h28 := tk.2.2 h3
    have dd : d + dA o = (d + 6 * (5 - o)) + 6 := by unfold dA; omega
    rw [dd]
    refine b_M_atom_0 (M_isSign_ok h (by decide) ⟨_, rfl, b_zs (fun z => absurd z h45) (fun _ => M_isSign_ok h (by decide) ⟨_, rfl, b_zs (fun z => absurd z h40) (fun _ => ⟨fun z => absurd hb z, fun _ => ⟨fun _ => ⟨fun z => absurd hb z, fun _ => ⟨fun z => absurd h28 z, fun _ => M_name_ok h gS h28 (fun j hj z zj => ⟨_, rfl, fun z => absurd hb z, fun _ => M_nx_ok hr h hne.1 hne.2 gP (fun μ1 h1 => ?_)⟩) (fun z => absurd h3 z)⟩⟩, fun z => absurd (tk.1.mp z) h2⟩⟩)⟩)⟩)
    have ejk : j = k := by
      have := congrArg Int32.toInt (zj.symm.trans eV)
      rw [nI_i (by omega), nI_i (by omega)] at this
      omega
    have g := hQ μ1 h1
    rw [e1, if_pos c0, cc, ← ejk] at g
    exact g
  · have e5 := h.2.2.2.1.1
    have e7 := h.2.2.2.1.2.2.2 (Or.inr h3)
    rw [h3] at e5
    refine b_Reader_readOne_0 ⟨fun _ => ⟨fun z => absurd e5 z, fun _ => ?_⟩, fun z => absurd (e5.symm.trans z) (by decide)⟩
    rw [e7, eV]
    exact X_emit_ok h (by omega) (fun μ1 h1 => X_nx_ok hr h1 gP (fun μ2 h2 => hQ μ2 h2))
theorem termN {B : Nat → Int32} {n o : Nat} {τ τ' : TK} {c : List Int32} (h42 : ¬ τ'.1 = 42) (a : okK c (kO o) ∧ MOk y_M_atom (dA o) B n τ o τ' c ∧ XOk y_Reader_readOne (dO o) B n τ o τ' c) : okK c (kO o + 1) ∧ MOk y_M_term (dA o + 1) B n τ o τ' c ∧ XOk y_Reader_readTerm (dO o + 1) B n τ o τ' c := by
  obtain ⟨k1, m1, x1⟩ := a
  refine ⟨k1.mono (by omega), fun d t μ0 μ Q h hQ => ?_, fun d μ0 μ C Q h hC hQ => ?_⟩
  · exact b_M_term_0 (m1 d t μ0 μ _ h (fun μ1 h1 => ⟨_, rfl, b_M_term_3 (M_isSign_ok h1 (by decide) ⟨_, rfl, b_z (fun _ => hQ μ1 h1) (fun z => absurd z h42)⟩)⟩))
  · exact b_Reader_readTerm_0 (x1 d μ0 μ C _ h hC (fun μ1 h1 => b_Reader_readTerm_5 ⟨fun _ => hQ μ1 h1, fun _ => ⟨fun _ => hQ μ1 h1, fun z => absurd (h1.2.2.2.1.1.symm.trans z) h42⟩⟩))
theorem addedN {B : Nat → Int32} {n o : Nat} {τ τ' : TK} {c : List Int32} (h43 : ¬ τ'.1 = 43) (h45 : ¬ τ'.1 = 45) (a : okK c (kO o + 1) ∧ MOk y_M_term (dA o + 1) B n τ o τ' c ∧ XOk y_Reader_readTerm (dO o + 1) B n τ o τ' c) : okK c (kO o + 2) ∧ MOk y_M_added (dA o + 2) B n τ o τ' c ∧ XOk y_Reader_readSum (dO o + 2) B n τ o τ' c := by
  obtain ⟨k1, m1, x1⟩ := a
  refine ⟨k1.mono (by omega), fun d t μ0 μ Q h hQ => ?_, fun d μ0 μ C Q h hC hQ => ?_⟩
  · exact b_M_added_0 (m1 d t μ0 μ _ h (fun μ1 h1 => ⟨_, rfl, b_M_added_3 (M_isSign_ok h1 (by decide) ⟨_, rfl, b_nz (fun z => absurd z h43) (fun _ => M_isSign_ok h1 (by decide) ⟨_, rfl, b_z (fun _ => hQ μ1 h1) (fun z => absurd z h45)⟩)⟩)⟩))
  · exact b_Reader_readSum_0 (x1 d μ0 μ C _ h hC (fun μ1 h1 => b_Reader_readSum_5 ⟨fun _ => hQ μ1 h1, fun _ => ⟨fun z => absurd (h1.2.2.2.1.1.symm.trans z) h43, fun _ => ⟨fun _ => hQ μ1 h1, fun z => absurd (h1.2.2.2.1.1.symm.trans z) h45⟩⟩⟩))
theorem addedS {B : Nat → Int32} {n o : Nat} {τ τ1 τ3 : TK} {c1 c2 : List Int32} (hr : ∀ i, i < n → rng (B i) 0 255) (hn : n ≤ 160) (ho : o ≤ 5) (g1 : gTk n τ1) (l1 : τ.2.2.1 + c1.length ≤ τ1.2.2.1) (h1s : τ1.1 = 45) (g3 : gTk n τ3) (l3 : (lexF B n τ1.2.2.2).2.2.1 + c2.length ≤ τ3.2.2.1) (h43 : ¬ τ3.1 = 43) (h45 : ¬ τ3.1 = 45) (a : okK c1 (kO o + 1) ∧ MOk y_M_term (dA o + 1) B n τ o τ1 c1 ∧ XOk y_Reader_readTerm (dO o + 1) B n τ o τ1 c1) (a2 : okK c2 (kO o + 1) ∧ MOk y_M_term (dA o + 1) B n (lexF B n τ1.2.2.2) o τ3 c2 ∧ XOk y_Reader_readTerm (dO o + 1) B n (lexF B n τ1.2.2.2) o τ3 c2) : okK (c1 ++ c2 ++ [-45]) (kO o + 2) ∧ MOk y_M_added (dA o + 2) B n τ o τ3 (c1 ++ c2 ++ [-45]) ∧ XOk y_Reader_readSum (dO o + 2) B n τ o τ3 (c1 ++ c2 ++ [-45]) := by
  obtain ⟨k1, m1, x1⟩ := a
  obtain ⟨k2, m2, x2⟩ := a2
  have hne : ¬ τ1.1 = 0 ∧ ¬ τ1.1 = 1 := by rw [h1s]; decide
  have n43 : ¬ τ1.1 = 43 := by rw [h1s]; decide
  have hSP := g1.2.2.1 hne.1
  have gP := g1.2.1
  have g31 := g3.1
  obtain ⟨g2, l2⟩ := lex_g (B := B) gP
  have g21 := g2.1
  obtain ⟨ok1, ev1⟩ := okK.bi (k := kO o + 1) (c := -45) (k1.mono (by omega)) k2 (by unfold kO; omega) (by decide) (by decide)
  refine ⟨ok1, fun d t μ0 μ Q h hQ => ?_, fun d μ0 μ C Q h hC hQ => ?_⟩
  · refine b_M_added_0 (m1 d t μ0 μ _ h (fun μ1 h1 => ⟨_, rfl, ?_⟩))
    refine b_M_added_3 (M_isSign_ok h1 (by decide) ⟨_, rfl, b_nz (fun z => absurd z n43) (fun _ => M_isSign_ok h1 (by decide) ⟨_, rfl, b_z (fun z => absurd h1s z) (fun _ => ⟨fun _ => M_nx_ok hr h1 hne.1 hne.2 gP (fun μ3 h3 => ?_), fun z => ?_⟩)⟩)⟩)
    · refine m2 d t μ0 μ3 _ h3 (fun μ4 h4 => ⟨_, rfl, fun _ => ?_, fun z => absurd rfl z⟩)
      have g := hQ μ4 h4
      rw [ev1, biSub] at g
      refine AA_weak (by exact ⟨Or.inl rfl, Or.inl rfl, Or.inr ⟨rfl, rfl⟩, Or.inr ⟨rfl, rfl⟩, trivial⟩) (b_M_added_3 (M_isSign_ok h4 (by decide) ⟨_, rfl, b_nz (fun z => absurd z h43) (fun _ => M_isSign_ok h4 (by decide) ⟨_, rfl, b_z (fun _ => g) (fun z => absurd z h45)⟩)⟩))
    · have e45 := ((tok_sg h1.2.2.2.2 (a := 45) (by decide)).mpr h1s).2
      rw [e45] at z
      exact absurd (lgz.mp z) (by decide)
  · refine b_Reader_readSum_0 (x1 d μ0 μ C _ h hC (fun μ1 h1 => ?_))
    refine b_Reader_readSum_5 ⟨fun z => absurd z (by decide), fun _ => ⟨fun z => absurd (h1.2.2.2.1.1.symm.trans z) n43, fun _ => ⟨fun z => absurd (h1.2.2.2.1.1.trans h1s) z, fun _ => ?_⟩⟩⟩
    rw [h1.2.2.2.1.1, h1s]
    refine X_nx_ok hr h1 gP (fun μ2 h2 => x2 d μ0 μ2 (C ++ c1) _ h2 (by simp; omega) (fun μ3 h3 => X_emit_ok h3 (by simp; omega) (fun μ4 h4 => ?_)))
    rw [as3] at h4
    have g := hQ μ4 h4
    exact AA_weak (by exact ⟨Or.inl rfl, Or.inl rfl, Or.inl rfl, Or.inr ⟨rfl, rfl⟩, trivial⟩) (b_Reader_readSum_5 ⟨fun _ => g, fun _ => ⟨fun z => absurd (h4.2.2.2.1.1.symm.trans z) h43, fun _ => ⟨fun _ => g, fun z => absurd (h4.2.2.2.1.1.symm.trans z) h45⟩⟩⟩)
theorem eitherN {B : Nat → Int32} {n : Nat} {τ τ' : TK} {c : List Int32} (hg : gTk n τ) (hg' : gTk n τ') (h261 : ¬ τ.1 = 261) (h60 : ¬ τ'.1 = 60) (h61 : ¬ τ'.1 = 61) (h260 : ¬ τ'.1 = 260) (h259 : ¬ τ'.1 = 259) (a : okK c (kO 0 + 2) ∧ MOk y_M_added (dA 0 + 2) B n τ 0 τ' c ∧ XOk y_Reader_readSum (dO 0 + 2) B n τ 0 τ' c) : okK c (kO 0 + 5) ∧ MOk y_M_either (dA 0 + 5) B n τ 0 τ' c ∧ XOk y_Reader_readE (dO 0 + 6) B n τ 0 τ' c := by
  obtain ⟨k1, m1, x1⟩ := a
  have gS := hg.1
  have gS' := hg'.1
  refine ⟨k1.mono (by omega), fun d t μ0 μ Q h hQ => ?_, fun d μ0 μ C Q h hC hQ => ?_⟩
  · refine b_M_either_0 (b_M_both_0 (b_M_not_0 (M_key_ok h (k := 5) (by omega) gS (by decide) ⟨_, rfl, b_z (fun _ => m1 d t μ0 μ _ h (fun μ1 h1 => ⟨_, rfl, M_isSign_ok h1 (by decide) ⟨_, rfl, b_nz (fun z => absurd z h60) (fun _ => M_isSign_ok h1 (by decide) ⟨_, rfl, b_nz (fun z => absurd z h61) (fun _ => ⟨_, rfl, ?_⟩)⟩)⟩⟩)) (fun z => absurd z h261)⟩)))
    exact b_M_both_3 (M_key_ok h1 (k := 4) (by omega) gS' (by decide) ⟨_, rfl, b_z (fun _ => ⟨_, rfl, b_M_either_3 (M_key_ok h1 (k := 3) (by omega) gS' (by decide) ⟨_, rfl, b_z (fun _ => hQ μ1 h1) (fun z => absurd z h259)⟩)⟩) (fun z => absurd z h260)⟩)
  · refine b_Reader_readE_0 (b_Reader_readAnd_0 (b_Reader_readNot_0 ⟨fun z => absurd (h.2.2.2.1.1.symm.trans z) h261, fun _ => b_Reader_readCompared_0 (x1 d μ0 μ C _ h hC (fun μ1 h1 => ⟨fun z => absurd (h1.2.2.2.1.1.symm.trans z) h60, fun _ => ⟨fun _ => ?_, fun z => absurd (h1.2.2.2.1.1.symm.trans z) h61⟩⟩))⟩))
    exact b_Reader_readAnd_5 ⟨fun _ => b_Reader_readE_5 ⟨fun _ => hQ μ1 h1, fun _ => ⟨fun _ => hQ μ1 h1, fun z => absurd (h1.2.2.2.1.1.symm.trans z) h259⟩⟩, fun _ => ⟨fun _ => b_Reader_readE_5 ⟨fun _ => hQ μ1 h1, fun _ => ⟨fun _ => hQ μ1 h1, fun z => absurd (h1.2.2.2.1.1.symm.trans z) h259⟩⟩, fun z => absurd (h1.2.2.2.1.1.symm.trans z) h260⟩⟩
theorem partN {B : Nat → Int32} {n k : Nat} {τ τ3 : TK} {c1 : List Int32} (hr : ∀ i, i < n → rng (B i) 0 255) (hn : n ≤ 160) (hk : k < 3) (hg : gTk n τ) (hT : τ.1 = 256 + nI k) (g3 : gTk n τ3) (l3 : (lexF B n τ.2.2.2).2.2.1 + c1.length ≤ τ3.2.2.1) (h59 : τ3.1 = 59) (a : okK c1 (kO 0 + 5) ∧ MOk y_M_either (dA 0 + 5) B n (lexF B n τ.2.2.2) 0 τ3 c1 ∧ XOk y_Reader_readE (dO 0 + 6) B n (lexF B n τ.2.2.2) 0 τ3 c1) : okK c1 31 ∧ gTk n (lexF B n τ3.2.2.2) ∧ τ.2.2.1 + c1.length ≤ (lexF B n τ3.2.2.2).2.2.1 ∧ (∀ (d t : Nat) (μ0 μ : Mem) (Q : QQ), okM B t n μ0 τ 0 μ → (∀ μ', okM B t n μ0 (lexF B n τ3.2.2.2) 0 μ' → Q (.int (evF c1 (envM μ0))) μ') → Call (d + 42) y_M_part [.ref 0, .int (b2p (τ.1 = 256 + nI k))] μ Q) ∧ (∀ (d : Nat) (μ0 μ : Mem) (C : List Int32) (R : Mem → Prop), okX B n μ0 τ C μ → C.length ≤ τ.2.2.1 → (∀ μ', okX B n μ0 (lexF B n τ3.2.2.2) (C ++ c1) μ' → R μ') → Call (d + 50) y_Reader_expect [.ref 23, .int (256 + nI k)] μ (fun _ μ3 => Call (d + 50) y_Reader_readE [.ref 23, .int 0] μ3 (fun _ μ4 => Call (d + 50) y_Reader_expect [.ref 23, .int 59] μ4 (fun _ μ5 => R μ5)))) := by
  obtain ⟨k1, m1, x1⟩ := a
  obtain ⟨gS, gP, gSP, gN, gM⟩ := hg
  have ke : ∀ k, k < 3 → ¬ (256 + nI k : Int32) = 0 ∧ ¬ (256 + nI k : Int32) = 1 := by decide
  have hne : ¬ τ.1 = 0 ∧ ¬ τ.1 = 1 := by rw [hT]; exact ke k hk
  have hSP := gSP hne.1
  obtain ⟨g2, l2⟩ := lex_g (B := B) gP
  have g21 := g2.1
  have mgo : ∀ {d t : Nat} {μ0 μ : Mem} {Q : QQ}, okM B t n μ0 τ 0 μ → (∀ μ1, okM B t n μ0 (lexF B n τ.2.2.2) 0 μ1 → Call (d + 41) y_M_either [.ref 0] μ1 (fun ρ μ14 => ∃ r15 : Int32, ρ = .int r15 ∧ (Call (d + 41) y_M_isSign [.ref 0, .int 59] μ14 (fun ρ μ16 => ∃ r17 : Int32, ρ = .int r17 ∧ ((¬ r17 = 0 → ((¬ (μ16.1 0 32) = 0 → (Q (.int r15) μ16)) ∧ ((μ16.1 0 32) = 0 → (Call (d + 41) y_M_next [.ref 0] μ16 (fun _ μ18 => (Q (.int r15) μ18)))))) ∧ (r17 = 0 → (Call (d + 41) y_M_fail [.ref 0] μ16 (fun _ μ19 => ((¬ (μ19.1 0 32) = 0 → (Q (.int r15) μ19)) ∧ ((μ19.1 0 32) = 0 → (Call (d + 41) y_M_next [.ref 0] μ19 (fun _ μ20 => (Q (.int r15) μ20))))))))))))) → Call (d + 42) y_M_part [.ref 0, .int (b2p (τ.1 = 256 + nI k))] μ Q := by
    intro d t μ0 μ Q h g
    rw [b_1 hT]
    exact b_M_part_0 ⟨fun _ => ⟨fun z => absurd h.2.2.1 z, fun _ => M_nx_ok hr h hne.1 hne.2 gP (fun μ1 h1 => ⟨fun _ => g μ1 h1, fun z => absurd h1.2.2.1 z⟩)⟩, fun z => absurd z (by decide)⟩

  have g31 := g3.1
  have hne3 : ¬ τ3.1 = 0 ∧ ¬ τ3.1 = 1 := by rw [h59]; decide
  obtain ⟨g4, l4⟩ := lex_g (B := B) g3.2.1
  have hSP3 := g3.2.2.1 hne3.1
  refine ⟨k1, g4, by omega, fun d t μ0 μ Q h hQ => mgo h (fun μ1 h1 => ?_), fun d μ0 μ C R h hC hR => ?_⟩
  · exact m1 d t μ0 μ1 _ h1 (fun μ2 h2 => ⟨_, rfl, M_isSign_ok h2 (by decide) ⟨_, rfl, b_nz (fun _ => ⟨fun z => absurd h2.2.2.1 z, fun _ => M_nx_ok hr h2 hne3.1 hne3.2 g3.2.1 (fun μ3 h3 => hQ μ3 h3)⟩) (fun z => absurd h59 z)⟩⟩)
  · exact X_expect_y hr h hT gP (fun μ1 h1 => x1 d μ0 μ1 C _ h1 (by omega) (fun μ2 h2 => X_expect_y hr h2 h59 g3.2.1 (fun μ3 h3 => hR μ3 h3)))
theorem readG {B : Nat → Int32} {n : Nat} {τ0 τ1 τ2 τ3 : TK} {c0 c1 c2 : List Int32} (hr : ∀ i, i < n → rng (B i) 0 255) (hn : n ≤ 160) (e0 : lexF B n 0 = τ0) (g1 : gTk n τ1) (g2 : gTk n τ2) (g3 : gTk n τ3) (l1 : τ0.2.2.1 + c0.length ≤ τ1.2.2.1) (l2 : τ1.2.2.1 + c1.length ≤ τ2.2.2.1) (l3 : τ2.2.2.1 + c2.length ≤ τ3.2.2.1) (m0 : ∀ (d t : Nat) (μ0 μ : Mem) (Q : QQ), okM B t n μ0 τ0 0 μ → (∀ μ', okM B t n μ0 τ1 0 μ' → Q (.int (evF c0 (envM μ0))) μ') → Call (d + 42) y_M_part [.ref 0, .int (b2p (τ0.1 = 256 + nI 0))] μ Q) (x0 : ∀ (d : Nat) (μ0 μ : Mem) (C : List Int32) (R : Mem → Prop), okX B n μ0 τ0 C μ → C.length ≤ τ0.2.2.1 → (∀ μ', okX B n μ0 τ1 (C ++ c0) μ' → R μ') → Call (d + 50) y_Reader_expect [.ref 23, .int (256 + nI 0)] μ (fun _ μ3 => Call (d + 50) y_Reader_readE [.ref 23, .int 0] μ3 (fun _ μ4 => Call (d + 50) y_Reader_expect [.ref 23, .int 59] μ4 (fun _ μ5 => R μ5)))) (m1 : ∀ (d t : Nat) (μ0 μ : Mem) (Q : QQ), okM B t n μ0 τ1 0 μ → (∀ μ', okM B t n μ0 τ2 0 μ' → Q (.int (evF c1 (envM μ0))) μ') → Call (d + 42) y_M_part [.ref 0, .int (b2p (τ1.1 = 256 + nI 1))] μ Q) (x1 : ∀ (d : Nat) (μ0 μ : Mem) (C : List Int32) (R : Mem → Prop), okX B n μ0 τ1 C μ → C.length ≤ τ1.2.2.1 → (∀ μ', okX B n μ0 τ2 (C ++ c1) μ' → R μ') → Call (d + 50) y_Reader_expect [.ref 23, .int (256 + nI 1)] μ (fun _ μ3 => Call (d + 50) y_Reader_readE [.ref 23, .int 0] μ3 (fun _ μ4 => Call (d + 50) y_Reader_expect [.ref 23, .int 59] μ4 (fun _ μ5 => R μ5)))) (m2 : ∀ (d t : Nat) (μ0 μ : Mem) (Q : QQ), okM B t n μ0 τ2 0 μ → (∀ μ', okM B t n μ0 τ3 0 μ' → Q (.int (evF c2 (envM μ0))) μ') → Call (d + 42) y_M_part [.ref 0, .int (b2p (τ2.1 = 256 + nI 2))] μ Q) (x2 : ∀ (d : Nat) (μ0 μ : Mem) (C : List Int32) (R : Mem → Prop), okX B n μ0 τ2 C μ → C.length ≤ τ2.2.2.1 → (∀ μ', okX B n μ0 τ3 (C ++ c2) μ' → R μ') → Call (d + 50) y_Reader_expect [.ref 23, .int (256 + nI 2)] μ (fun _ μ3 => Call (d + 50) y_Reader_readE [.ref 23, .int 0] μ3 (fun _ μ4 => Call (d + 50) y_Reader_expect [.ref 23, .int 59] μ4 (fun _ μ5 => R μ5)))) (hE : τ3.1 = 0) : (∀ (d t w : Nat) (μ : Mem) (Q : QQ), t < 6 → w < 3 → (∀ i, i < n → μ.1 1 (160 * t + i) = B i) → μ.1 2 t = nI n → (∀ μ', frP μ μ' → μ'.1 0 32 = 0 → Q (.int (evF (if w = 0 then c0 else if w = 1 then c1 else c2) (envM μ))) μ') → Call (d + 43) y_M_read [.ref 0, .int (nI t), .int (nI w)] μ Q) ∧ (∀ (d : Nat) (μ : Mem) (Q : QQ), byX B n μ → (∀ μ', Only [23, 25, 26] μ μ' → (∀ k, k < 4 ∨ 9 < k → k ≠ 1 → μ'.1 23 k = μ.1 23 k) → μ'.1 23 1 = 0 → (∀ j, j < (c0 ++ c1 ++ c2).length → μ'.1 25 j = (c0 ++ c1 ++ c2).getD j 0) → μ'.1 26 0 = nI c0.length → μ'.1 26 1 = nI (c0.length + c1.length) → μ'.1 26 2 = nI (c0.length + c1.length + c2.length) → Q (.int (-1)) μ') → Call (d + 51) y_Reader_read [.ref 23] μ Q) := by
  subst e0
  obtain ⟨g0, l0⟩ := lex_g (B := B) (Nat.zero_le n)
  have w3 : ∀ w, w < 3 → w = 0 ∨ w = 1 ∨ w = 2 := by omega
  have g11 := g1.1
  have g21 := g2.1
  have g31 := g3.1
  refine ⟨fun d t w μ Q ht hw hB hs hQ => ?_, fun d μ Q hb hQ => ?_⟩
  · refine b_M_read_0 (fun μ1 e1 => ⟨nI_v ht (by omega), fun μ2 e2 μ3 e3 μ4 e4 => ⟨by decide, fun μ5 e5 => ?_⟩⟩)
    obtain ⟨f5, b5, z5, o5, p5⟩ := M_read_1 hn ht hB hs e1 e2 e3 e4 e5
    refine M_next_ok b5 hr (Nat.zero_le _) p5 (fun μ6 f6 t6 => ?_)
    have h6 : okM B t n μ (lexF B n 0) 0 μ6 := ⟨f5.trans f6.p, b5.fr f6, by rw [f6.2 32 (by omega)]; exact z5, by rw [f6.2 31 (by omega)]; exact o5, t6⟩
    refine M_key_ok h6 (k := 0) (by omega) g0.1 (by decide) ⟨_, rfl, ?_⟩
    refine m0 d t μ μ6 _ h6 (fun μ9 h9 => ⟨_, rfl, fun _ => ?_, fun z => absurd h9.2.2.1 z⟩)
    refine M_key_ok h9 (k := 1) (by omega) g1.1 (by decide) ⟨_, rfl, m1 d t μ μ9 _ h9 (fun μ13 h13 => ⟨_, rfl, fun _ => ?_, fun z => absurd h13.2.2.1 z⟩)⟩
    refine M_key_ok h13 (k := 2) (by omega) g2.1 (by decide) ⟨_, rfl, m2 d t μ μ13 _ h13 (fun μ17 h17 => ⟨_, rfl, fun z => absurd h17.2.2.1 z, fun _ => ⟨fun _ => ?_, fun z => ?_⟩⟩)⟩
    · have g := hQ μ17 h17.1 h17.2.2.1
      rcases w3 w hw with q | q | q <;> subst q
      · exact ⟨fun z => absurd rfl z, fun _ => g⟩
      · exact ⟨fun _ => ⟨fun z => absurd rfl z, fun _ => g⟩, fun z => absurd z (by decide)⟩
      · exact ⟨fun _ => ⟨fun _ => g, fun z => absurd z (by decide)⟩, fun z => absurd z (by decide)⟩
    · rcases h17.2.2.2.2.2 with ⟨_, q⟩ | ⟨q, _⟩ | ⟨q, _⟩ | ⟨q, _⟩ | ⟨_, _, _, _, _, q⟩
      · exact absurd q z
      · exact absurd (hE.symm.trans q) (by decide)
      · exact absurd (hE.symm.trans q) (by decide)
      · rw [hE] at q; exact absurd q (by decide)
      · have q2 : τ3.1 = (wtok (knF (wrdL B τ3.2.2.1 τ3.2.2.2))).1 := congrArg Prod.fst q
        exact absurd (q2.symm.trans hE) wtok_0
  · refine b_Reader_read_0 (fun μ1 e1 μ2 e2 μ3 e3 => ?_)
    obtain ⟨f3, b3, z3, w3, p3⟩ := X_read_1 hb e1 e2 e3
    refine Reader_next_ok b3 hr (Nat.zero_le _) p3 (fun μ4 f4 t4 => ?_)
    have h4 : okX B n μ (lexF B n 0) [] μ4 := ⟨f3.trans f4.s, b3.fr f4, by rw [f4.2 8 (by omega)]; exact z3, t4, by rw [f4.2 9 (by omega)]; exact w3, fun j hj => absurd hj (Nat.not_lt_zero _)⟩
    have ne3 : ∀ p, p < 3 → ¬ (3 : Int32) ≤ nI p := by decide
    refine b_Reader_read_13 ⟨fun z => absurd z (by decide), fun _ => x0 d μ μ4 [] _ h4 (Nat.zero_le _) (fun μ5 h5 => ⟨nI_v (n := 0) (by omega) (by omega), fun μ6 e6 => ?_⟩)⟩
    rw [List.nil_append] at h5
    have h6 := h5.e26 e6
    refine b_Reader_read_13 ⟨fun z => absurd z (by decide), fun _ => x1 d μ6 μ6 c0 _ h6 (by omega) (fun μ7 h7 => ⟨nI_v (n := 1) (by omega) (by omega), fun μ8 e8 => ?_⟩)⟩
    have h8 := h7.e26 e8
    refine b_Reader_read_13 ⟨fun z => absurd z (by decide), fun _ => x2 d μ8 μ8 (c0 ++ c1) _ h8 (by simp; omega) (fun μ9 h9 => ⟨nI_v (n := 2) (by omega) (by omega), fun μ10 e10 => ?_⟩)⟩
    have h10 := h9.e26 e10
    refine b_Reader_read_13 ⟨fun _ => X_expect_y hr h10 hE g3.2.1 (fun μ11 h11 μ12 e12 => ?_), fun z => absurd (by decide) z⟩
    have k26 : μ12.1 26 = μ10.1 26 := by rw [e12, wI_n (by decide), h11.1.1.i 26]
    have c0' : (Int32.toNatClampNeg (0 : Int32)) = 0 := rfl
    have c1' : (Int32.toNatClampNeg ((0 : Int32) + 1)) = 1 := by decide
    have c2' : (Int32.toNatClampNeg ((0 : Int32) + 1 + 1)) = 2 := by decide
    have o26 : μ10.1 26 = upd (upd (upd (μ4.1 26) 0 (nI c0.length)) 1 (nI (c0.length + c1.length))) 2 (nI (c0.length + c1.length + c2.length)) := by
      have a1 : μ6.1 26 = upd (μ4.1 26) 0 (nI c0.length) := by rw [e6, wI_s, c0', h5.2.2.2.2.1, h5.1.1.i 26, ← h4.1.1.i 26]
      have a2 : μ8.1 26 = upd (μ6.1 26) 1 (nI (c0.length + c1.length)) := by rw [e8, wI_s, c1', h7.2.2.2.2.1, h7.1.1.i 26]; simp
      rw [e10, wI_s, c2', h9.2.2.2.2.1, h9.1.1.i 26, a2, a1, show (c0 ++ c1 ++ c2).length = c0.length + c1.length + c2.length by simp; omega]
    refine Qi (hQ μ12 ?_ (fun k hk hk1 => ?_) (by rw [e12, wI_s, upd_s]) (fun j hj => ?_) ?_ ?_ ?_) ?_
    · have q1 : Only [23, 25, 26] μ μ5 := h5.1.1.mono (by simp)
      have q2 : Only [23, 25, 26] μ6 μ7 := h7.1.1.mono (by simp)
      have q3 : Only [23, 25, 26] μ8 μ9 := h9.1.1.mono (by simp)
      have q4 : Only [23, 25, 26] μ10 μ11 := h11.1.1.mono (by simp)
      exact (((((((q1.trans (.we e6)).trans q2).trans (.we e8)).trans q3).trans (.we e10)).trans q4)).trans (.we e12)
    · rw [e12, wI_s, upd_n hk1, h11.1.2 k hk, e10, wI_n (by decide), h9.1.2 k hk, e8, wI_n (by decide), h7.1.2 k hk, e6, wI_n (by decide)]
      exact h5.1.2 k hk
    · rw [e12, wI_n (by decide)]; exact h11.2.2.2.2.2 j hj
    · rw [k26, o26, upd_n (by decide), upd_n (by decide), upd_s]
    · rw [k26, o26, upd_n (by decide), upd_s]
    · rw [k26, o26, upd_s]
    · rw [e12, wI_s, upd_n (by decide)]; exact h11.2.2.1
