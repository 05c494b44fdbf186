/-! ===== both read: what is one, not ===== -/
theorem ev1 {c : Int32} (h : ¬ c < -6) {k : Nat} (hk : 1 ≤ k) (hk2 : k ≤ 31) : okK [c] k ∧ ∀ env, evF [c] env = (if c < 0 then env (-1 - c).toNatClampNeg else c) := okK_of (fun env => (semC.one h).mono hk) hk2
theorem tok_2 {B : Nat → Int32} {n : Nat} {τ : TK} {μ : Mem} (h : tokM B n τ μ) : (μ.1 0 28 = 2 ↔ τ.1 = 2) ∧ (τ.1 = 2 → (μ.2 0 30).toInt32 = τ.2.1) ∧ (τ.1 = 3 → μ.1 0 28 = 1) := by
  obtain ⟨_, h⟩ := h
  rcases h with ⟨h1, h2⟩ | ⟨h1, h2⟩ | ⟨h1, h2, _, h4⟩ | ⟨h1, h2, h3, h4⟩ | ⟨_, _, _, h2, _, h3⟩
  · rw [h1, h2]; exact ⟨⟨fun z => absurd z (by decide), fun z => absurd z (by decide)⟩, fun z => absurd z (by decide), fun z => absurd z (by decide)⟩
  · rw [h1, h2]; exact ⟨⟨fun z => absurd z (by decide), fun z => absurd z (by decide)⟩, fun z => absurd z (by decide), fun z => absurd z (by decide)⟩
  · rw [h1, h2]; exact ⟨⟨fun _ => rfl, fun _ => rfl⟩, fun _ => h4, fun z => absurd z (by decide)⟩
  · rw [h2]
    have n2 : ¬ τ.1 = 2 := fun z => by rw [z] at h1; exact absurd h1 (by decide)
    have n3 : ¬ τ.1 = 3 := fun z => by rw [z] at h1; exact absurd h1 (by decide)
    exact ⟨⟨fun z => absurd z (by decide), fun z => absurd z n2⟩, fun z => absurd z n2, fun z => absurd z n3⟩
  · rw [h2]
    have e : τ.1 = (wtok (knF (wrdL B τ.2.2.1 τ.2.2.2))).1 := congrArg Prod.fst h3
    exact ⟨⟨fun z => absurd z (by decide), fun z => absurd (e.symm.trans z) wtok_2⟩, fun z => absurd (e.symm.trans z) wtok_2, fun _ => rfl⟩
theorem b_zs {P : Prop} [Decidable P] {A B : Prop} (ha : P → A) (hb : ¬ P → B) : (b2p P = 0 → B) ∧ (¬ b2p P = 0 → A) := ⟨(b_nz ha hb).2, (b_nz ha hb).1⟩
theorem o5 {o : Nat} (ho : o < 5) : ¬ (5 : Int32) ≤ nI o := fun z => absurd (le32.mp z) (by rw [nI_i (by omega)]; show ¬ (5 : Int) ≤ _; omega)
theorem o_1 {o : Nat} (ho : o < 10) : nI (o + 1) - 1 = nI o := nI_pred _
theorem atomJ {B : Nat → Int32} {n o : Nat} {τ : TK} (hr : ∀ i, i < n → rng (B i) 0 255) (hn : n ≤ 160) (ho : o ≤ 5) (hg : gTk n τ) (JA : o < 5 → ∀ τ2, gTk n τ2 → τ.2.2.1 < τ2.2.2.1 → JAt B n (o + 1) τ2 ∧ JEi B n (o + 1) τ2) : JAt B n o τ := by
  obtain ⟨gS, gP, gSP, gN, gM⟩ := hg
  have kb : 1 ≤ kO o ∧ kO o ≤ 31 := by unfold kO; omega
  obtain ⟨g2, l2⟩ := lex_g (B := B) gP
  have g21 := g2.1
  by_cases h45 : τ.1 = 45
  · have hne : ¬ τ.1 = 0 ∧ ¬ τ.1 = 1 := by rw [h45]; decide
    have hSP := gSP hne.1
    by_cases ho5 : o < 5
    · have dd : dA o = dA (o + 1) + 6 := by unfold dA; omega
      have dd2 : dO o = dO (o + 1) + 7 := by unfold dO; omega
      have kk : kO (o + 1) ≤ kO o := by unfold kO; omega
      rcases (JA ho5 _ g2 (by omega)).1 with ⟨τ3, c1, k1, g3, l3, m1, x1⟩ | ⟨f, hf, m1, x1⟩
      · obtain ⟨ok1, ev1⟩ := (k1.mono kk).un kb.2 (c := -262) (Or.inl rfl)
        have g31 := g3.1
        refine Or.inl ⟨τ3, c1 ++ [-262], ok1, g3, by simp; omega, fun d t μ0 μ Q h hQ => ?_, fun d μ0 μ C Q h hC hQ => ?_⟩
        · rw [show d + dA o = (d + 5) + dA (o + 1) + 1 by omega]
          refine b_M_atom_0 (M_isSign_ok h (by decide) ⟨_, rfl, b_z (fun z => absurd h45 z) (fun _ => M_opens_y hr h ho5 hne.1 hne.2 gP (fun μ1 h1 => ⟨_, rfl, fun z => absurd z (by decide), fun _ => ?_⟩))⟩)
          refine m1 (d + 5) t μ0 μ1 _ h1 (fun μ2 h2 => ⟨_, rfl, fun μ3 e3 => ?_⟩)
          rw [h2.2.2.2.1, o_1 (by omega)] at e3
          have g := hQ μ3 (h2.op e3)
          rw [ev1, unNeg] at g
          exact g
        · rw [show d + dO o = (d + 6) + dO (o + 1) + 1 by omega]
          have e5 := h.2.2.2.1.1
          rw [h45] at e5
          refine b_Reader_readOne_0 ⟨fun _ => ⟨fun _ => ⟨fun z => absurd e5 z, fun _ => ⟨fun z => absurd z (o5 ho5), fun _ => X_nx_ok hr h gP (fun μ1 h1 => ?_)⟩⟩, fun z => absurd (e5.symm.trans z) (by decide)⟩, fun z => absurd (e5.symm.trans z) (by decide)⟩
          rw [nI_1]
          refine x1 (d + 6) μ0 μ1 C _ h1 (by omega) (fun μ2 h2 => X_emit_ok h2 (by simp; omega) (fun μ3 h3 => hQ μ3 ?_))
          rw [List.append_assoc] at h3
          exact h3
      · refine Or.inr ⟨f, hf, fun d t μ0 μ Q h hQ => ?_, fun d μ0 μ C Q h hC hQ => ?_⟩
        · rw [show d + dA o = (d + 5) + dA (o + 1) + 1 by omega]
          refine b_M_atom_0 (M_isSign_ok h (by decide) ⟨_, rfl, b_z (fun z => absurd h45 z) (fun _ => M_opens_y hr h ho5 hne.1 hne.2 gP (fun μ1 h1 => ⟨_, rfl, fun z => absurd z (by decide), fun _ => ?_⟩))⟩)
          exact m1 (d + 5) t μ0 μ1 _ h1 (fun v μ2 h2 => ⟨_, rfl, fun μ3 e3 => hQ _ μ3 (h2.op e3)⟩)
        · rw [show d + dO o = (d + 6) + dO (o + 1) + 1 by omega]
          have e5 := h.2.2.2.1.1
          rw [h45] at e5
          refine b_Reader_readOne_0 ⟨fun _ => ⟨fun _ => ⟨fun z => absurd e5 z, fun _ => ⟨fun z => absurd z (o5 ho5), fun _ => X_nx_ok hr h gP (fun μ1 h1 => ?_)⟩⟩, fun z => absurd (e5.symm.trans z) (by decide)⟩, fun z => absurd (e5.symm.trans z) (by decide)⟩
          rw [nI_1]
          exact x1 (d + 6) μ0 μ1 C _ h1 (by omega) (fun μ2 h2 => X_emit_bad h2 (fun μ3 h3 => hQ μ3 h3))
    · have ho5 : o = 5 := by omega
      subst ho5
      refine Or.inr ⟨τ.2.2.1, by omega, fun d t μ0 μ Q h hQ => ?_, fun d μ0 μ C Q h hC hQ => ?_⟩
      · exact b_M_atom_0 (M_isSign_ok h (by decide) ⟨_, rfl, b_z (fun z => absurd h45 z) (fun _ => M_opens_n h (fun μ1 h1 => ⟨_, rfl, fun _ => hQ _ μ1 h1, fun z => absurd rfl z⟩))⟩)
      · have e5 := h.2.2.2.1.1
        rw [h45] at e5
        refine b_Reader_readOne_0 ⟨fun _ => ⟨fun _ => ⟨fun z => absurd e5 z, fun _ => ⟨fun _ => ⟨fun _ => X_refuse_ok h (by omega) hQ, fun z => absurd (e5.symm.trans z) (by decide)⟩, fun z => absurd (by decide) z⟩⟩, fun z => absurd (e5.symm.trans z) (by decide)⟩, fun z => absurd (e5.symm.trans z) (by decide)⟩
  by_cases h40 : τ.1 = 40
  · have hne : ¬ τ.1 = 0 ∧ ¬ τ.1 = 1 := by rw [h40]; decide
    have hSP := gSP hne.1
    by_cases ho5 : o < 5
    · have dd : dA o = dA (o + 1) + 6 := by unfold dA; omega
      have dd2 : dO o = dO (o + 1) + 7 := by unfold dO; omega
      have kk : kO (o + 1) + 5 = kO o := by unfold kO; omega
      have mgo : ∀ (d t : Nat) (μ0 μ : Mem) (Q : QQ), okM B t n μ0 τ o μ → (∀ μ1, okM B t n μ0 (lexF B n τ.2.2.2) (o + 1) μ1 → Call (d + (dA (o + 1) + 5)) y_M_either [.ref 0] μ1 (fun ρ μ18 => ∃ r19 : Int32, ρ = .int r19 ∧ (Call (d + (dA (o + 1) + 5)) y_M_isSign [.ref 0, .int 41] μ18 (fun ρ μ20 => ∃ r21 : Int32, ρ = .int r21 ∧ ((¬ r21 = 0 → (∀ μ22 : Mem, μ22 = wI μ20 0 (upd (μ20.1 0) 31 ((μ20.1 0 31) - 1)) → ((¬ (μ22.1 0 32) = 0 → (Q (.int r19) μ22)) ∧ ((μ22.1 0 32) = 0 → (Call (d + (dA (o + 1) + 5)) y_M_next [.ref 0] μ22 (fun _ μ23 => (Q (.int r19) μ23))))))) ∧ (r21 = 0 → (Call (d + (dA (o + 1) + 5)) y_M_fail [.ref 0] μ20 (fun _ μ24 => (∀ μ25 : Mem, μ25 = wI μ24 0 (upd (μ24.1 0) 31 ((μ24.1 0 31) - 1)) → ((¬ (μ25.1 0 32) = 0 → (Q (.int r19) μ25)) ∧ ((μ25.1 0 32) = 0 → (Call (d + (dA (o + 1) + 5)) y_M_next [.ref 0] μ25 (fun _ μ26 => (Q (.int r19) μ26)))))))))))))) → Call (d + dA o) y_M_atom [.ref 0] μ Q := by
        intro d t μ0 μ Q h g
        rw [dd]
        exact b_M_atom_0 (M_isSign_ok h (by decide) ⟨_, rfl, b_zs (fun z => absurd (h40.symm.trans z) (by decide)) (fun _ => M_isSign_ok h (by decide) ⟨_, rfl, b_z (fun z => absurd h40 z) (fun _ => M_opens_y hr h ho5 hne.1 hne.2 gP (fun μ1 h1 => ⟨_, rfl, fun z => absurd z (by decide), fun _ => g μ1 h1⟩))⟩)⟩)
      have xgo : ∀ (d : Nat) (μ0 μ : Mem) (C : List Int32) (Q : QQ), okX B n μ0 τ C μ → (∀ μ1, okX B n μ0 (lexF B n τ.2.2.2) C μ1 → Call (d + (dO (o + 1) + 6)) y_Reader_readE [.ref 23, .int (nI (o + 1))] μ1 (fun _ μ4 => (Call (d + (dO (o + 1) + 6)) y_Reader_expect [.ref 23, .int 41] μ4 (fun _ μ5 => (Q .null μ5))))) → Call (d + dO o) y_Reader_readOne [.ref 23, .int (nI o)] μ Q := by
        intro d μ0 μ C Q h g
        rw [dd2]
        have e5 := h.2.2.2.1.1
        rw [h40] at e5
        refine b_Reader_readOne_0 ⟨fun _ => ⟨fun _ => ⟨fun _ => ⟨fun z => absurd e5 z, fun _ => ⟨fun z => absurd z (o5 ho5), fun _ => X_nx_ok hr h gP (fun μ1 h1 => ?_)⟩⟩, fun z => absurd (e5.symm.trans z) (by decide)⟩, fun z => absurd (e5.symm.trans z) (by decide)⟩, fun z => absurd (e5.symm.trans z) (by decide)⟩
        rw [nI_1]
        exact g μ1 h1
      rcases (JA ho5 _ g2 (by omega)).2 with ⟨τ3, c1, k1, g3, l3, m1, x1⟩ | ⟨f, hf, m1, x1⟩
      · rw [kk] at k1
        have g31 := g3.1
        by_cases h41 : τ3.1 = 41
        · have hne3 : ¬ τ3.1 = 0 ∧ ¬ τ3.1 = 1 := by rw [h41]; decide
          have hSP3 := g3.2.2.1 hne3.1
          obtain ⟨g4, l4⟩ := lex_g (B := B) g3.2.1
          refine Or.inl ⟨lexF B n τ3.2.2.2, c1, k1, g4, by omega, fun d t μ0 μ Q h hQ => mgo d t μ0 μ Q h (fun μ1 h1 => ?_), fun d μ0 μ C Q h hC hQ => xgo d μ0 μ C Q h (fun μ1 h1 => ?_)⟩
          · refine m1 d t μ0 μ1 _ h1 (fun μ2 h2 => ⟨_, rfl, M_isSign_ok h2 (by decide) ⟨_, rfl, b_nz (fun _ μ3 e3 => ?_) (fun z => absurd h41 z)⟩⟩)
            rw [h2.2.2.2.1, o_1 (by omega)] at e3
            have h3 := h2.op e3
            exact ⟨fun z => absurd h3.2.2.1 z, fun _ => M_nx_ok hr h3 hne3.1 hne3.2 g3.2.1 (fun μ4 h4 => hQ μ4 h4)⟩
          · exact x1 d μ0 μ1 C _ h1 (by omega) (fun μ2 h2 => X_expect_y hr h2 h41 g3.2.1 (fun μ3 h3 => hQ μ3 h3))
        · refine Or.inr ⟨τ3.2.2.1, by omega, fun d t μ0 μ Q h hQ => mgo d t μ0 μ Q h (fun μ1 h1 => ?_), fun d μ0 μ C Q h hC hQ => xgo d μ0 μ C Q h (fun μ1 h1 => ?_)⟩
          · refine m1 d t μ0 μ1 _ h1 (fun μ2 h2 => ⟨_, rfl, M_isSign_ok h2 (by decide) ⟨_, rfl, b_nz (fun z => absurd z h41) (fun _ => M_fail_ok h2 (fun μ3 h3 μ4 e4 => ?_))⟩⟩)
            have h4 := h3.op e4
            exact ⟨fun _ => hQ _ μ4 h4, fun z => absurd (h4.2.1.symm.trans z) (by decide)⟩
          · exact x1 d μ0 μ1 C _ h1 (by omega) (fun μ2 h2 => X_expect_n h2 h41 (by simp; omega) (fun μ3 h3 => hQ μ3 h3))
      · refine Or.inr ⟨f, hf, fun d t μ0 μ Q h hQ => mgo d t μ0 μ Q h (fun μ1 h1 => ?_), fun d μ0 μ C Q h hC hQ => xgo d μ0 μ C Q h (fun μ1 h1 => ?_)⟩
        · refine m1 d t μ0 μ1 _ h1 (fun v μ2 h2 => ⟨_, rfl, M_isSign_bad h2 ⟨_, rfl, fun z => absurd rfl z, fun _ => M_fail_bad h2 (fun μ4 e4 => ?_)⟩⟩)
          have h4 := h2.op e4
          exact ⟨fun _ => hQ _ μ4 h4, fun z => absurd (h4.2.1.symm.trans z) (by decide)⟩
        · exact x1 d μ0 μ1 C _ h1 (by omega) (fun μ2 h2 => X_expect_bad h2 (by omega) (by decide) (fun μ3 h3 => hQ μ3 h3))
    · have ho5 : o = 5 := by omega
      subst ho5
      refine Or.inr ⟨τ.2.2.1, by omega, fun d t μ0 μ Q h hQ => ?_, fun d μ0 μ C Q h hC hQ => ?_⟩
      · exact b_M_atom_0 (M_isSign_ok h (by decide) ⟨_, rfl, b_zs (fun z => absurd (h40.symm.trans z) (by decide)) (fun _ => M_isSign_ok h (by decide) ⟨_, rfl, b_z (fun z => absurd h40 z) (fun _ => M_opens_n h (fun μ1 h1 => ⟨_, rfl, fun _ => hQ _ μ1 h1, fun z => absurd rfl z⟩))⟩)⟩)
      · have e5 := h.2.2.2.1.1
        rw [h40] at e5
        refine b_Reader_readOne_0 ⟨fun _ => ⟨fun _ => ⟨fun _ => ⟨fun z => absurd e5 z, fun _ => ⟨fun _ => X_refuse_ok h (by omega) hQ, fun z => absurd (by decide) z⟩⟩, fun z => absurd (e5.symm.trans z) (by decide)⟩, fun z => absurd (e5.symm.trans z) (by decide)⟩, fun z => absurd (e5.symm.trans z) (by decide)⟩
  by_cases h2 : τ.1 = 2
  · have hne : ¬ τ.1 = 0 ∧ ¬ τ.1 = 1 := by rw [h2]; decide
    have hSP := gSP hne.1
    have hV := gN h2
    have v0 : ¬ τ.2.1 < 0 := fun z => by have := lt32.mp z; have e : (0 : Int32).toInt = 0 := rfl; omega
    have v6 : ¬ τ.2.1 < -6 := fun z => by have := lt32.mp z; have e : (-6 : Int32).toInt = -6 := rfl; omega
    obtain ⟨ok1, e1⟩ := ev1 v6 kb.1 kb.2
    refine Or.inl ⟨lexF B n τ.2.2.2, [τ.2.1], ok1, g2, by simp; omega, fun d t μ0 μ Q h hQ => ?_, fun d μ0 μ C Q h hC hQ => ?_⟩
    · have hb := h.2.2.1
      have tk := tok_2 h.2.2.2.2
      refine b_M_atom_0 (M_isSign_ok h (by decide) ⟨_, rfl, b_zs (fun z => absurd z h45) (fun _ => M_isSign_ok h (by decide) ⟨_, rfl, b_zs (fun z => absurd z h40) (fun _ => ⟨fun z => absurd hb z, fun _ => ⟨fun z => absurd (tk.1.mpr h2) z, fun _ => M_nx_ok hr h hne.1 hne.2 gP (fun μ1 h1 => ?_)⟩⟩)⟩)⟩ |> fun z => z)
      have g := hQ μ1 h1
      rw [e1, if_neg v0, ← tk.2.1 h2] at g
      exact g
    · have e5 := h.2.2.2.1.1
      have e7 := h.2.2.2.1.2.2.2 (Or.inl h2)
      rw [h2] at e5
      refine b_Reader_readOne_0 ⟨fun z => absurd e5 z, fun _ => ?_⟩
      rw [e7]
      exact X_emit_ok h (by omega) (fun μ1 h1 => X_nx_ok hr h1 gP (fun μ2 h2 => hQ μ2 h2))
  by_cases h3 : τ.1 = 3
  · have hne : ¬ τ.1 = 0 ∧ ¬ τ.1 = 1 := by rw [h3]; decide
    have hSP := gSP hne.1
    obtain ⟨k, hk, eV⟩ := gM h3
    have ck : ∀ k, k < 6 → ¬ ((-1 : Int32) - nI k) < -6 ∧ ((-1 : Int32) - nI k) < 0 ∧ ((-1 : Int32) - ((-1 : Int32) - nI k)).toNatClampNeg = k := by decide
    obtain ⟨c6, c0, cc⟩ := ck k hk
    obtain ⟨ok1, e1⟩ := ev1 c6 kb.1 kb.2
    refine Or.inl ⟨lexF B n τ.2.2.2, [(-1) - nI k], ok1, g2, by simp; omega, fun d t μ0 μ Q h hQ => ?_, fun d μ0 μ C Q h hC hQ => ?_⟩
    · have hb := h.2.2.1
      have tk := tok_2 h.2.2.2.2
      have h28 := tk.2.2 h3
      have dd : d + dA o = (d + 6 * (5 - o)) + 6 := by unfold dA; omega
      rw [dd]
      refine b_M_atom_0 (M_isSign_ok h (by decide) ⟨_, rfl, b_zs (fun z => absurd z h45) (fun _ => M_isSign_ok h (by decide) ⟨_, rfl, b_zs (fun z => absurd z h40) (fun _ => ⟨fun z => absurd hb z, fun _ => ⟨fun _ => ⟨fun z => absurd hb z, fun _ => ⟨fun z => absurd h28 z, fun _ => M_name_ok h gS h28 (fun j hj z zj => ⟨_, rfl, fun z => absurd hb z, fun _ => M_nx_ok hr h hne.1 hne.2 gP (fun μ1 h1 => ?_)⟩) (fun z => absurd h3 z)⟩⟩, fun z => absurd (tk.1.mp z) h2⟩⟩)⟩)⟩)
      have ejk : j = k := by
        have := congrArg Int32.toInt (zj.symm.trans eV)
        rw [nI_i (by omega), nI_i (by omega)] at this
        omega
      have g := hQ μ1 h1
      rw [e1, if_pos c0, cc, ← ejk] at g
      exact g
    · have e5 := h.2.2.2.1.1
      have e7 := h.2.2.2.1.2.2.2 (Or.inr h3)
      rw [h3] at e5
      refine b_Reader_readOne_0 ⟨fun _ => ⟨fun z => absurd e5 z, fun _ => ?_⟩, fun z => absurd (e5.symm.trans z) (by decide)⟩
      rw [e7, eV]
      exact X_emit_ok h (by omega) (fun μ1 h1 => X_nx_ok hr h1 gP (fun μ2 h2 => hQ μ2 h2))
  · refine Or.inr ⟨τ.2.2.1, by omega, fun d t μ0 μ Q h hQ => ?_, fun d μ0 μ C Q h hC hQ => ?_⟩
    · have hb := h.2.2.1
      have tk := tok_2 h.2.2.2.2
      have dd : d + dA o = (d + 6 * (5 - o)) + 6 := by unfold dA; omega
      rw [dd]
      refine b_M_atom_0 (M_isSign_ok h (by decide) ⟨_, rfl, b_zs (fun z => absurd z h45) (fun _ => M_isSign_ok h (by decide) ⟨_, rfl, b_zs (fun z => absurd z h40) (fun _ => ⟨fun z => absurd hb z, fun _ => ⟨fun _ => ⟨fun z => absurd hb z, fun _ => ⟨fun _ => M_fail_ok h (fun μ1 h1 => hQ _ μ1 h1), fun h28 => M_name_ok h gS h28 (fun j hj z zj => absurd z h3) (fun _ μ1 h1 => ⟨_, rfl, fun _ => hQ _ μ1 h1, fun z => absurd (h1.2.1.symm.trans z) (by decide)⟩)⟩⟩, fun z => absurd (tk.1.mp z) h2⟩⟩)⟩)⟩)
    · have e5 := h.2.2.2.1.1
      exact b_Reader_readOne_0 ⟨fun _ => ⟨fun _ => ⟨fun _ => ⟨fun _ => X_refuse_ok h (by omega) hQ, fun z => absurd (e5.symm.trans z) h40⟩, fun z => absurd (e5.symm.trans z) h45⟩, fun z => absurd (e5.symm.trans z) h3⟩, fun z => absurd (e5.symm.trans z) h2⟩
theorem notJ {B : Nat → Int32} {n o : Nat} {τ : TK} (hr : ∀ i, i < n → rng (B i) 0 255) (hn : n ≤ 160) (ho : o ≤ 5) (hg : gTk n τ) (JS : ∀ τ2, gTk n τ2 → τ.2.2.1 ≤ τ2.2.2.1 → JAd B n o τ2) (JN : o < 5 → ∀ τ2, gTk n τ2 → τ.2.2.1 < τ2.2.2.1 → JNo B n (o + 1) τ2) : JNo B n o τ := by
  have hg' := hg
  obtain ⟨gS, gP, gSP, gN, gM⟩ := hg'
  have kb : kO o + 3 ≤ 31 := by unfold kO; omega
  obtain ⟨g2, l2⟩ := lex_g (B := B) gP
  have g21 := g2.1
  by_cases hT : τ.1 = 261
  · have hne : ¬ τ.1 = 0 ∧ ¬ τ.1 = 1 := by rw [hT]; decide
    have hSP := gSP hne.1
    by_cases ho5 : o < 5
    · have dd : dA o = dA (o + 1) + 6 := by unfold dA; omega
      have dd2 : dO o = dO (o + 1) + 7 := by unfold dO; omega
      have kk : kO (o + 1) + 3 ≤ kO o + 3 := by unfold kO; omega
      rcases JN ho5 _ g2 (by omega) with ⟨τ3, c1, k1, g3, l3, m1, x1⟩ | ⟨f, hf, m1, x1⟩
      · obtain ⟨ok1, ev1⟩ := (k1.mono kk).un kb (c := -261) (Or.inr rfl)
        have g31 := g3.1
        refine Or.inl ⟨τ3, c1 ++ [-261], ok1, g3, by simp; omega, fun d t μ0 μ Q h hQ => ?_, fun d μ0 μ C Q h hC hQ => ?_⟩
        · rw [show d + (dA o + 3) = (d + 5) + (dA (o + 1) + 3) + 1 by omega]
          refine b_M_not_0 (M_key_ok h (k := 5) (by omega) gS (by decide) ⟨_, rfl, b_z (fun z => absurd hT z) (fun _ => M_opens_y hr h ho5 hne.1 hne.2 gP (fun μ1 h1 => ⟨_, rfl, fun _ => ?_, fun z => absurd z (by decide)⟩))⟩)
          refine m1 (d + 5) t μ0 μ1 _ h1 (fun μ2 h2 => ⟨_, rfl, fun μ3 e3 => ?_⟩)
          rw [h2.2.2.2.1, o_1 (by omega)] at e3
          have g := hQ μ3 (h2.op e3)
          rw [ev1, unNot] at g
          refine ⟨fun z => ?_, fun z => ?_⟩
          · rw [if_neg z] at g; exact g
          · rw [if_pos z] at g; exact g
        · rw [show d + (dO o + 4) = (d + 6) + (dO (o + 1) + 4) + 1 by omega]
          have e5 := h.2.2.2.1.1
          rw [hT] at e5
          refine b_Reader_readNot_0 ⟨fun _ => ⟨fun z => absurd z (o5 ho5), fun _ => X_nx_ok hr h gP (fun μ1 h1 => ?_)⟩, fun z => absurd e5 z⟩
          rw [nI_1]
          refine x1 (d + 6) μ0 μ1 C _ h1 (by omega) (fun μ2 h2 => X_emit_ok h2 (by simp; omega) (fun μ3 h3 => hQ μ3 ?_))
          rw [List.append_assoc] at h3
          exact h3
      · refine Or.inr ⟨f, hf, fun d t μ0 μ Q h hQ => ?_, fun d μ0 μ C Q h hC hQ => ?_⟩
        · rw [show d + (dA o + 3) = (d + 5) + (dA (o + 1) + 3) + 1 by omega]
          refine b_M_not_0 (M_key_ok h (k := 5) (by omega) gS (by decide) ⟨_, rfl, b_z (fun z => absurd hT z) (fun _ => M_opens_y hr h ho5 hne.1 hne.2 gP (fun μ1 h1 => ⟨_, rfl, fun _ => ?_, fun z => absurd z (by decide)⟩))⟩)
          exact m1 (d + 5) t μ0 μ1 _ h1 (fun v μ2 h2 => ⟨_, rfl, fun μ3 e3 => ⟨fun _ => hQ _ μ3 (h2.op e3), fun _ => hQ _ μ3 (h2.op e3)⟩⟩)
        · rw [show d + (dO o + 4) = (d + 6) + (dO (o + 1) + 4) + 1 by omega]
          have e5 := h.2.2.2.1.1
          rw [hT] at e5
          refine b_Reader_readNot_0 ⟨fun _ => ⟨fun z => absurd z (o5 ho5), fun _ => X_nx_ok hr h gP (fun μ1 h1 => ?_)⟩, fun z => absurd e5 z⟩
          rw [nI_1]
          exact x1 (d + 6) μ0 μ1 C _ h1 (by omega) (fun μ2 h2 => X_emit_bad h2 (fun μ3 h3 => hQ μ3 h3))
    · have ho5 : o = 5 := by omega
      subst ho5
      refine Or.inr ⟨τ.2.2.1, by omega, fun d t μ0 μ Q h hQ => ?_, fun d μ0 μ C Q h hC hQ => ?_⟩
      · exact b_M_not_0 (M_key_ok h (k := 5) (by omega) gS (by decide) ⟨_, rfl, b_z (fun z => absurd hT z) (fun _ => M_opens_n h (fun μ1 h1 => ⟨_, rfl, fun z => absurd rfl z, fun _ => hQ _ μ1 h1⟩))⟩)
      · have e5 := h.2.2.2.1.1
        rw [hT] at e5
        exact b_Reader_readNot_0 ⟨fun _ => ⟨fun _ => X_refuse_ok h (by omega) hQ, fun z => absurd (by decide) z⟩, fun z => absurd e5 z⟩
  · have mgo : ∀ {d t : Nat} {μ0 μ : Mem} {Q : QQ}, okM B t n μ0 τ o μ → Call (d + (dA o + 2)) y_M_added [.ref 0] μ (fun ρ μ3 => ∃ r4 : Int32, ρ = .int r4 ∧ (Call (d + (dA o + 2)) y_M_isSign [.ref 0, .int 60] μ3 (fun ρ μ5 => ∃ r6 : Int32, ρ = .int r6 ∧ ((¬ r6 = 0 → ((¬ (lg_cmp (μ5.2 0 30) 60) = 0 → (Call (d + (dA o + 2)) y_M_next [.ref 0] μ5 (fun _ μ7 => (Call (d + (dA o + 2)) y_M_added [.ref 0] μ7 (fun ρ μ8 => ∃ r9 : Int32, ρ = .int r9 ∧ (((0 : Int32) = 0 → ((¬ r4 = r9 → (Q (.int 0) μ8)) ∧ (r4 = r9 → (Q (.int 1) μ8)))) ∧ (¬ (0 : Int32) = 0 → ((r9 ≤ r4 → (Q (.int 0) μ8)) ∧ (¬ r9 ≤ r4 → (Q (.int 1) μ8)))))))))) ∧ ((lg_cmp (μ5.2 0 30) 60) = 0 → (Call (d + (dA o + 2)) y_M_next [.ref 0] μ5 (fun _ μ10 => (Call (d + (dA o + 2)) y_M_added [.ref 0] μ10 (fun ρ μ11 => ∃ r12 : Int32, ρ = .int r12 ∧ (((1 : Int32) = 0 → ((¬ r4 = r12 → (Q (.int 0) μ11)) ∧ (r4 = r12 → (Q (.int 1) μ11)))) ∧ (¬ (1 : Int32) = 0 → ((r12 ≤ r4 → (Q (.int 0) μ11)) ∧ (¬ r12 ≤ r4 → (Q (.int 1) μ11)))))))))))) ∧ (r6 = 0 → (Call (d + (dA o + 2)) y_M_isSign [.ref 0, .int 61] μ5 (fun ρ μ13 => ∃ r14 : Int32, ρ = .int r14 ∧ ((¬ r14 = 0 → ((¬ (lg_cmp (μ13.2 0 30) 60) = 0 → (Call (d + (dA o + 2)) y_M_next [.ref 0] μ13 (fun _ μ15 => (Call (d + (dA o + 2)) y_M_added [.ref 0] μ15 (fun ρ μ16 => ∃ r17 : Int32, ρ = .int r17 ∧ (((0 : Int32) = 0 → ((¬ r4 = r17 → (Q (.int 0) μ16)) ∧ (r4 = r17 → (Q (.int 1) μ16)))) ∧ (¬ (0 : Int32) = 0 → ((r17 ≤ r4 → (Q (.int 0) μ16)) ∧ (¬ r17 ≤ r4 → (Q (.int 1) μ16)))))))))) ∧ ((lg_cmp (μ13.2 0 30) 60) = 0 → (Call (d + (dA o + 2)) y_M_next [.ref 0] μ13 (fun _ μ18 => (Call (d + (dA o + 2)) y_M_added [.ref 0] μ18 (fun ρ μ19 => ∃ r20 : Int32, ρ = .int r20 ∧ (((1 : Int32) = 0 → ((¬ r4 = r20 → (Q (.int 0) μ19)) ∧ (r4 = r20 → (Q (.int 1) μ19)))) ∧ (¬ (1 : Int32) = 0 → ((r20 ≤ r4 → (Q (.int 0) μ19)) ∧ (¬ r20 ≤ r4 → (Q (.int 1) μ19)))))))))))) ∧ (r14 = 0 → (Q (.int r4) μ13)))))))))) → Call (d + (dA o + 3)) y_M_not [.ref 0] μ Q := fun h g => b_M_not_0 (M_key_ok h (k := 5) (by omega) gS (by decide) ⟨_, rfl, b_z (fun _ => g) (fun z => absurd z hT)⟩)
    have xgo : ∀ {d : Nat} {μ0 μ : Mem} {C : List Int32} {Q : QQ}, okX B n μ0 τ C μ → Call (d + (dO o + 2)) y_Reader_readSum [.ref 23, .int (nI o)] μ (fun _ μ1 => (((μ1.1 23 5) = 60 → (Call (d + (dO o + 2)) y_Reader_next [.ref 23] μ1 (fun _ μ2 => (Call (d + (dO o + 2)) y_Reader_readSum [.ref 23, .int (nI o)] μ2 (fun _ μ3 => (Call (d + (dO o + 2)) y_Reader_emit [.ref 23, .int (-(μ1.1 23 5))] μ3 (fun _ μ4 => (Q .null μ4)))))))) ∧ (¬ (μ1.1 23 5) = 60 → ((¬ (μ1.1 23 5) = 61 → (Q .null μ1)) ∧ ((μ1.1 23 5) = 61 → (Call (d + (dO o + 2)) y_Reader_next [.ref 23] μ1 (fun _ μ5 => (Call (d + (dO o + 2)) y_Reader_readSum [.ref 23, .int (nI o)] μ5 (fun _ μ6 => (Call (d + (dO o + 2)) y_Reader_emit [.ref 23, .int (-(μ1.1 23 5))] μ6 (fun _ μ7 => (Q .null μ7)))))))))))) → Call (d + (dO o + 4)) y_Reader_readNot [.ref 23, .int (nI o)] μ Q := fun h g => b_Reader_readNot_0 ⟨fun z => absurd (h.2.2.2.1.1.symm.trans z) hT, fun _ => b_Reader_readCompared_0 g⟩
    rcases JS τ hg (Nat.le_refl _) with ⟨τ1, c1, k1, g1, l1, m1, x1⟩ | ⟨f, hf, m1, x1⟩
    · have g11 := g1.1
      have g12 := g1.2.1
      obtain ⟨g2', l2'⟩ := lex_g (B := B) g12
      have g21' := g2'.1
      by_cases h60 : τ1.1 = 60
      · have hne : ¬ τ1.1 = 0 ∧ ¬ τ1.1 = 1 := by rw [h60]; decide
        have hSP := g1.2.2.1 hne.1
        rcases JS _ g2' (by omega) with ⟨τ3, c2, k2, g3, l3, m2, x2⟩ | ⟨f, hf, m2, x2⟩
        · obtain ⟨ok1, ev1⟩ := okK.bi (k := kO o + 2) (c := -60) (k1.mono (by omega)) k2 kb (by decide) (by decide)
          have g31 := g3.1
          refine Or.inl ⟨τ3, c1 ++ c2 ++ [-60], ok1, g3, by simp; omega, fun d t μ0 μ Q h hQ => mgo h ?_, fun d μ0 μ C Q h hC hQ => xgo h ?_⟩
          · refine m1 d t μ0 μ _ h (fun μ1 h1 => ⟨_, rfl, M_isSign_ok h1 (by decide) ⟨_, rfl, b_nz (fun _ => ⟨fun z => ?_, fun _ => M_nx_ok hr h1 hne.1 hne.2 g12 (fun μ2 h2 => m2 d t μ0 μ2 _ h2 (fun μ3 h3 => ⟨_, rfl, fun z => absurd z (by decide), fun _ => ?_⟩))⟩) (fun z => absurd h60 z)⟩⟩)
            · exact absurd (lgz.mpr ((tok_sg h1.2.2.2.2 (a := 60) (by decide)).mpr h60).2) z
            · have g := hQ μ3 h3
              rw [ev1, biLt] at g
              refine ⟨fun z => ?_, fun z => ?_⟩
              · rw [if_pos z] at g; exact g
              · rw [if_neg z] at g; exact g
          · refine x1 d μ0 μ C _ h hC (fun μ1 h1 => ⟨fun _ => X_nx_ok hr h1 g12 (fun μ2 h2 => ?_), fun z => absurd (h1.2.2.2.1.1.trans h60) z⟩)
            refine x2 d μ0 μ2 (C ++ c1) _ h2 (by simp; omega) (fun μ3 h3 => ?_)
            rw [h1.2.2.2.1.1, h60]
            refine X_emit_ok h3 (by simp; omega) (fun μ4 h4 => hQ μ4 ?_)
            rw [as3] at h4
            exact h4
        · refine Or.inr ⟨f, hf, fun d t μ0 μ Q h hQ => mgo h ?_, fun d μ0 μ C Q h hC hQ => xgo h ?_⟩
          · refine m1 d t μ0 μ _ h (fun μ1 h1 => ⟨_, rfl, M_isSign_ok h1 (by decide) ⟨_, rfl, b_nz (fun _ => ⟨fun z => ?_, fun _ => M_nx_ok hr h1 hne.1 hne.2 g12 (fun μ2 h2 => m2 d t μ0 μ2 _ h2 (fun v μ3 h3 => ⟨_, rfl, fun z => absurd z (by decide), fun _ => ⟨fun _ => hQ _ _ h3, fun _ => hQ _ _ h3⟩⟩))⟩) (fun z => absurd h60 z)⟩⟩)
            exact absurd (lgz.mpr ((tok_sg h1.2.2.2.2 (a := 60) (by decide)).mpr h60).2) z
          · refine x1 d μ0 μ C _ h hC (fun μ1 h1 => ⟨fun _ => X_nx_ok hr h1 g12 (fun μ2 h2 => ?_), fun z => absurd (h1.2.2.2.1.1.trans h60) z⟩)
            exact x2 d μ0 μ2 (C ++ c1) _ h2 (by simp; omega) (fun μ3 h3 => X_emit_bad h3 (fun μ4 h4 => hQ μ4 h4))
      by_cases h61 : τ1.1 = 61
      · have hne : ¬ τ1.1 = 0 ∧ ¬ τ1.1 = 1 := by rw [h61]; decide
        have hSP := g1.2.2.1 hne.1
        have no60 : ∀ {t : Nat} {μ0 μ1 : Mem}, okM B t n μ0 τ1 o μ1 → ¬ lg_cmp (μ1.2 0 30) 60 = 0 := by
          intro t μ0 μ1 h1 z
          have e := ((tok_sg h1.2.2.2.2 (a := 61) (by decide)).mpr h61).2
          rw [e] at z
          exact absurd (lgz.mp z) (by decide)
        rcases JS _ g2' (by omega) with ⟨τ3, c2, k2, g3, l3, m2, x2⟩ | ⟨f, hf, m2, x2⟩
        · obtain ⟨ok1, ev1⟩ := okK.bi (k := kO o + 2) (c := -61) (k1.mono (by omega)) k2 kb (by decide) (by decide)
          have g31 := g3.1
          refine Or.inl ⟨τ3, c1 ++ c2 ++ [-61], ok1, g3, by simp; omega, fun d t μ0 μ Q h hQ => mgo h ?_, fun d μ0 μ C Q h hC hQ => xgo h ?_⟩
          · refine m1 d t μ0 μ _ h (fun μ1 h1 => ⟨_, rfl, M_isSign_ok h1 (by decide) ⟨_, rfl, b_nz (fun z => absurd z h60) (fun _ => M_isSign_ok h1 (by decide) ⟨_, rfl, b_nz (fun _ => ⟨fun _ => M_nx_ok hr h1 hne.1 hne.2 g12 (fun μ2 h2 => m2 d t μ0 μ2 _ h2 (fun μ3 h3 => ⟨_, rfl, fun _ => ?_, fun z => absurd rfl z⟩)), fun z => absurd z (no60 h1)⟩) (fun z => absurd h61 z)⟩)⟩⟩)
            have g := hQ μ3 h3
            rw [ev1, biEq] at g
            refine ⟨fun z => ?_, fun z => ?_⟩
            · rw [if_neg z] at g; exact g
            · rw [if_pos z] at g; exact g
          · refine x1 d μ0 μ C _ h hC (fun μ1 h1 => ⟨fun z => absurd (h1.2.2.2.1.1.symm.trans z) h60, fun _ => ⟨fun z => absurd (h1.2.2.2.1.1.trans h61) z, fun _ => X_nx_ok hr h1 g12 (fun μ2 h2 => ?_)⟩⟩)
            refine x2 d μ0 μ2 (C ++ c1) _ h2 (by simp; omega) (fun μ3 h3 => ?_)
            rw [h1.2.2.2.1.1, h61]
            refine X_emit_ok h3 (by simp; omega) (fun μ4 h4 => hQ μ4 ?_)
            rw [as3] at h4
            exact h4
        · refine Or.inr ⟨f, hf, fun d t μ0 μ Q h hQ => mgo h ?_, fun d μ0 μ C Q h hC hQ => xgo h ?_⟩
          · exact m1 d t μ0 μ _ h (fun μ1 h1 => ⟨_, rfl, M_isSign_ok h1 (by decide) ⟨_, rfl, b_nz (fun z => absurd z h60) (fun _ => M_isSign_ok h1 (by decide) ⟨_, rfl, b_nz (fun _ => ⟨fun _ => M_nx_ok hr h1 hne.1 hne.2 g12 (fun μ2 h2 => m2 d t μ0 μ2 _ h2 (fun v μ3 h3 => ⟨_, rfl, fun _ => ⟨fun _ => hQ _ _ h3, fun _ => hQ _ _ h3⟩, fun z => absurd rfl z⟩)), fun z => absurd z (no60 h1)⟩) (fun z => absurd h61 z)⟩)⟩⟩)
          · refine x1 d μ0 μ C _ h hC (fun μ1 h1 => ⟨fun z => absurd (h1.2.2.2.1.1.symm.trans z) h60, fun _ => ⟨fun z => absurd (h1.2.2.2.1.1.trans h61) z, fun _ => X_nx_ok hr h1 g12 (fun μ2 h2 => ?_)⟩⟩)
            exact x2 d μ0 μ2 (C ++ c1) _ h2 (by simp; omega) (fun μ3 h3 => X_emit_bad h3 (fun μ4 h4 => hQ μ4 h4))
      · refine Or.inl ⟨τ1, c1, k1.mono (by omega), g1, l1, fun d t μ0 μ Q h hQ => mgo h ?_, fun d μ0 μ C Q h hC hQ => xgo h ?_⟩
        · exact m1 d t μ0 μ _ h (fun μ1 h1 => ⟨_, rfl, M_isSign_ok h1 (by decide) ⟨_, rfl, b_nz (fun z => absurd z h60) (fun _ => M_isSign_ok h1 (by decide) ⟨_, rfl, b_nz (fun z => absurd z h61) (fun _ => hQ μ1 h1)⟩)⟩⟩)
        · exact x1 d μ0 μ C _ h hC (fun μ1 h1 => ⟨fun z => absurd (h1.2.2.2.1.1.symm.trans z) h60, fun _ => ⟨fun _ => hQ μ1 h1, fun z => absurd (h1.2.2.2.1.1.symm.trans z) h61⟩⟩)
    · refine Or.inr ⟨f, hf, fun d t μ0 μ Q h hQ => mgo h ?_, fun d μ0 μ C Q h hC hQ => xgo h ?_⟩
      · exact m1 d t μ0 μ _ h (fun v μ1 h1 => ⟨_, rfl, M_isSign_bad h1 ⟨_, rfl, fun z => absurd rfl z, fun _ => M_isSign_bad h1 ⟨_, rfl, fun z => absurd rfl z, fun _ => hQ _ _ h1⟩⟩⟩)
      · exact x1 d μ0 μ C _ h hC (fun μ1 h1 => ⟨fun z => absurd (h1.2.1.symm.trans z) (by decide), fun _ => ⟨fun _ => hQ μ1 h1, fun z => absurd (h1.2.1.symm.trans z) (by decide)⟩⟩)
theorem parAll {B : Nat → Int32} {n : Nat} (hr : ∀ i, i < n → rng (B i) 0 255) (hn : n ≤ 160) : ∀ m τ, gTk n τ → n - τ.2.2.1 < m → ∀ o, o ≤ 5 → JAt B n o τ ∧ JNo B n o τ ∧ JEi B n o τ := by
  intro m
  induction m with
  | zero => intro τ _ h; exact absurd h (Nat.not_lt_zero _)
  | succ m ih =>
    have lt : ∀ τ τ2 : TK, gTk n τ → gTk n τ2 → n - τ.2.2.1 < m + 1 → τ.2.2.1 < τ2.2.2.1 → n - τ2.2.2.1 < m := fun τ τ2 h1 h2 h3 h4 => by have := h1.1; have := h2.1; omega
    have A : ∀ τ, gTk n τ → n - τ.2.2.1 < m + 1 → ∀ o, o ≤ 5 → JAt B n o τ := fun τ hg hm o ho => atomJ hr hn ho hg (fun ho5 τ2 g2 l2 => ⟨(ih τ2 g2 (lt τ τ2 hg g2 hm l2) (o + 1) (by omega)).1, (ih τ2 g2 (lt τ τ2 hg g2 hm l2) (o + 1) (by omega)).2.2⟩)
    have T : ∀ τ, gTk n τ → n - τ.2.2.1 < m + 1 → ∀ o, o ≤ 5 → JTe B n o τ := fun τ hg hm o ho => termJ hr hn ho hg (fun τ2 g2 l2 => A τ2 g2 (by omega) o ho)
    have D : ∀ τ, gTk n τ → n - τ.2.2.1 < m + 1 → ∀ o, o ≤ 5 → JAd B n o τ := fun τ hg hm o ho => addedJ hr hn ho hg (fun τ2 g2 l2 => T τ2 g2 (by omega) o ho)
    have N : ∀ τ, gTk n τ → n - τ.2.2.1 < m + 1 → ∀ o, o ≤ 5 → JNo B n o τ := fun τ hg hm o ho => notJ hr hn ho hg (fun τ2 g2 l2 => D τ2 g2 (by omega) o ho) (fun ho5 τ2 g2 l2 => (ih τ2 g2 (lt τ τ2 hg g2 hm l2) (o + 1) (by omega)).2.1)
    have O : ∀ τ, gTk n τ → n - τ.2.2.1 < m + 1 → ∀ o, o ≤ 5 → JBo B n o τ := fun τ hg hm o ho => bothJ hr hn ho hg (fun τ2 g2 l2 => N τ2 g2 (by omega) o ho)
    have E : ∀ τ, gTk n τ → n - τ.2.2.1 < m + 1 → ∀ o, o ≤ 5 → JEi B n o τ := fun τ hg hm o ho => eitherJ hr hn ho hg (fun τ2 g2 l2 => O τ2 g2 (by omega) o ho)
    exact fun τ hg hm o ho => ⟨A τ hg hm o ho, N τ hg hm o ho, E τ hg hm o ho⟩
theorem eiJ {B : Nat → Int32} {n : Nat} {τ : TK} (hr : ∀ i, i < n → rng (B i) 0 255) (hn : n ≤ 160) (hg : gTk n τ) : JEi B n 0 τ := (parAll hr hn (n - τ.2.2.1 + 1) τ hg (by omega) 0 (by omega)).2.2
