/-! ===== states of reading ===== -/
def frP (μ μ' : Mem) : Prop := Only [0] μ μ' ∧ ∀ k, k < 25 ∨ 33 < k → μ'.1 0 k = μ.1 0 k
theorem frP.trans {a b c : Mem} (h1 : frP a b) (h2 : frP b c) : frP a c := ⟨h1.1.trans h2.1, fun k hk => (h2.2 k hk).trans (h1.2 k hk)⟩
theorem frR.p {a b : Mem} (h : frR a b) : frP a b := ⟨h.1, fun k hk => h.2 k (by omega)⟩
theorem frP.w {μ μ' : Mem} {k : Nat} {x : Int32} (e : μ' = wI μ 0 (upd (μ.1 0) k x)) (h : 25 ≤ k ∧ k ≤ 33 := by decide) : frP μ μ' := ⟨.we e, fun j hj => by rw [e, wI_s, upd_n (by omega)]⟩
def okM (B : Nat → Int32) (t n : Nat) (μ0 : Mem) (τ : TK) (o : Nat) (μ : Mem) : Prop := frP μ0 μ ∧ byM B t n μ ∧ μ.1 0 32 = 0 ∧ μ.1 0 31 = nI o ∧ tokM B n τ μ
def badM (μ0 : Mem) (f : Nat) (μ : Mem) : Prop := frP μ0 μ ∧ μ.1 0 32 = 1 ∧ μ.1 0 33 = nI f
theorem tokM.cg {B : Nat → Int32} {n : Nat} {τ : TK} {μ μ' : Mem} (h : tokM B n τ μ) (h0 : ∀ k, 27 ≤ k → k ≤ 29 → μ'.1 0 k = μ.1 0 k) (h2 : μ'.2 = μ.2) : tokM B n τ μ' := by
  unfold tokM
  rw [h0 29 (by omega) (by omega), h0 28 (by omega) (by omega), h0 27 (by omega) (by omega), h2]
  exact h
theorem lgz {a b : Int64} : lg_cmp a b = 0 ↔ a = b := by
  constructor
  · intro z
    apply Int64.toInt_inj.mp
    have q1 : ¬ a.toInt < b.toInt := fun y => by
      have := lcmp_lt.mpr y
      rw [z] at this
      exact absurd this (by decide)
    have q2 : ¬ b.toInt < a.toInt := fun y => by
      have := lcmp_gt.mpr y
      rw [z] at this
      exact absurd this (by decide)
    omega
  · intro z
    have q1 : ¬ lg_cmp a b < 0 := fun y => by
      have := lcmp_lt.mp y
      rw [z] at this
      omega
    have q2 : ¬ 0 < lg_cmp a b := fun y => by
      have := lcmp_gt.mp y
      rw [z] at this
      omega
    have q1 := Int.not_lt.mp (fun y => q1 (lt32.mpr y))
    have q2 := Int.not_lt.mp (fun y => q2 (lt32.mpr y))
    exact eq32.mpr (by omega)
theorem i64_inj {a b : Int32} : a.toInt64 = b.toInt64 ↔ a = b := by
  constructor
  · intro h
    have := congrArg Int64.toInt h
    rw [lI, lI] at this
    exact eq32.mpr this
  · intro h; rw [h]
theorem wtok_sg {k : Nat} : ¬ isSg (wtok k).1 = true := by
  unfold wtok
  by_cases h : k < 6
  · rw [if_pos h]
    have : ∀ k, k < 6 → ¬ isSg (256 + nI k : Int32) = true := by decide
    exact this k h
  · rw [if_neg h]
    split
    · show ¬ isSg 3 = true
      decide
    · show ¬ isSg 1 = true
      decide
/-- a sign's token -/
theorem tok_sg {B : Nat → Int32} {n : Nat} {τ : TK} {μ : Mem} (h : tokM B n τ μ) {a : Int32} (ha : isSg a = true) : (μ.1 0 28 = 3 ∧ μ.2 0 30 = a.toInt64) ↔ τ.1 = a := by
  obtain ⟨_, h⟩ := h
  have na : ∀ x, ¬ isSg x = true → ¬ x = a := fun x hx z => hx (z ▸ ha)
  rcases h with ⟨h1, h2⟩ | ⟨h1, h2⟩ | ⟨h1, h2, _⟩ | ⟨h1, h2, h3, h4⟩ | ⟨_, _, _, h2, _, h3⟩
  · rw [h1, h2]; exact ⟨fun z => absurd z.1 (by decide), fun z => absurd z (na 0 (by decide))⟩
  · rw [h1, h2]; exact ⟨fun z => absurd z.1 (by decide), fun z => absurd z (na 1 (by decide))⟩
  · rw [h1, h2]; exact ⟨fun z => absurd z.1 (by decide), fun z => absurd z (na 2 (by decide))⟩
  · rw [h2, h4, i64_inj]; exact ⟨fun z => z.2, fun z => ⟨rfl, z⟩⟩
  · rw [h2]
    have e : τ.1 = (wtok (knF (wrdL B τ.2.2.1 τ.2.2.2))).1 := congrArg Prod.fst h3
    rw [e]
    exact ⟨fun z => absurd z.1 (by decide), fun z => absurd z (na _ wtok_sg)⟩
theorem M_isSign_ok {d t n o : Nat} {Q : QQ} {μ0 μ : Mem} {B : Nat → Int32} {τ : TK} {a : Int32} (h : okM B t n μ0 τ o μ) (ha : isSg a = true) (hQ : Q (.int (b2p (τ.1 = a))) μ) : Call (d + 1) y_M_isSign [.ref 0, .int a] μ Q := by
  have e := tok_sg h.2.2.2.2 ha
  refine b_M_isSign_0 ⟨fun z => absurd h.2.2.1 z, fun _ => ⟨fun z => ⟨by decide, bQ0 hQ (fun y => z (e.mpr y).1)⟩, fun z => ⟨fun z2 => ⟨by decide, bQ0 hQ (fun y => z2 (lgz.mpr (e.mpr y).2))⟩, fun z2 => ⟨by decide, bQ1 hQ (e.mp ⟨z, lgz.mp z2⟩)⟩⟩⟩⟩
theorem M_isSign_bad {d f : Nat} {Q : QQ} {μ0 μ : Mem} {a : Int32} (h : badM μ0 f μ) (hQ : Q (.int 0) μ) : Call (d + 1) y_M_isSign [.ref 0, .int a] μ Q :=
  b_M_isSign_0 ⟨fun _ => ⟨by decide, hQ⟩, fun z => absurd (h.2.1.symm.trans z) (by decide)⟩
/-! words -/
def Lc (B : Nat → Int32) (s q i : Nat) (c : Int32) : Prop := if s + i < q then B (s + i) = c else c = 0
theorem M_isLetter_ok {d t n s q i : Nat} {Q : QQ} {μ : Mem} {B : Nat → Int32} {c : Int32} (hb : byM B t n μ) (hq : q ≤ n) (hs : s ≤ n) (hi : i < 8) (h29 : μ.1 0 29 = nI s) (h27 : μ.1 0 27 = nI q) (hy : Lc B s q i c → Q (.int 1) μ) (hn : ¬ Lc B s q i c → Q (.int 0) μ) : Call (d + 2) y_M_isLetter [.ref 0, .int (nI i), .int c] μ Q := by
  have h160 := hb.2.1
  unfold Lc at hy hn
  refine b_M_isLetter_0 ?_
  rw [h29, h27, nI_add]
  refine ⟨fun z => ?_, fun z => ?_⟩
  · have z := le32.mp z
    rw [nI_i (by omega), nI_i (by omega)] at z
    rw [if_neg (by omega)] at hy hn
    exact ⟨fun z => ⟨by decide, hn z⟩, fun z => ⟨by decide, hy z⟩⟩
  · have z := Int.not_le.mp (fun y => z (le32.mpr y))
    rw [nI_i (by omega), nI_i (by omega)] at z
    rw [if_pos (by omega)] at hy hn
    refine M_byteAt_ok hb (by omega) ⟨_, rfl, ?_⟩
    have eb : bF B n (s + i) = B (s + i) := if_pos (by omega)
    rw [eb]
    exact ⟨fun z => ⟨by decide, hn z⟩, fun z => ⟨by decide, hy z⟩⟩
theorem M_isWord_ok {d t n s q : Nat} {Q : QQ} {μ : Mem} {B : Nat → Int32} {a b c e f g u v : Int32} (hb : byM B t n μ) (hq : q ≤ n) (hs : s ≤ n) (h29 : μ.1 0 29 = nI s) (h27 : μ.1 0 27 = nI q) (h32 : μ.1 0 32 = 0) (h28 : μ.1 0 28 = 1) (hy : q ≤ s + 8 → Lc B s q 0 a → Lc B s q 1 b → Lc B s q 2 c → Lc B s q 3 e → Lc B s q 4 f → Lc B s q 5 g → Lc B s q 6 u → Lc B s q 7 v → Q (.int 1) μ) (hn : ¬ (q ≤ s + 8 ∧ Lc B s q 0 a ∧ Lc B s q 1 b ∧ Lc B s q 2 c ∧ Lc B s q 3 e ∧ Lc B s q 4 f ∧ Lc B s q 5 g ∧ Lc B s q 6 u ∧ Lc B s q 7 v) → Q (.int 0) μ) : Call (d + 3) y_M_isWord [.ref 0, .int a, .int b, .int c, .int e, .int f, .int g, .int u, .int v] μ Q := by
  have h160 := hb.2.1
  have e8 : μ.1 0 29 + 8 = nI (s + 8) := by rw [h29]; exact nI_add s 8
  have N1 : narrow .boolean (.int 0) = .int 0 := by decide
  have N2 : narrow .boolean (.int 1) = .int 1 := by decide
  refine b_M_isWord_0 ⟨fun z => absurd h32 z, fun _ => ⟨fun z => absurd h28 z, fun _ => ⟨fun z => ⟨N1, hn (fun y => ?_)⟩, fun z => ?_⟩⟩⟩
  · rw [e8, h27] at z
    have z := lt32.mp z
    rw [nI_i (by omega), nI_i (by omega)] at z
    omega
  · rw [e8, h27] at z
    have z := Int.not_lt.mp (fun y => z (lt32.mpr y))
    rw [nI_i (by omega), nI_i (by omega)] at z
    have z0 : q ≤ s + 8 := by omega
    refine M_isLetter_ok (i := 0) hb hq hs (by omega) h29 h27 (fun y0 => ⟨_, rfl, fun w => absurd w (by decide), fun _ => ?_⟩) (fun y => ⟨_, rfl, fun _ => ⟨N1, hn (fun w => y w.2.1)⟩, fun w => absurd rfl w⟩)
    refine M_isLetter_ok (i := 1) hb hq hs (by omega) h29 h27 (fun y1 => ⟨_, rfl, fun w => absurd w (by decide), fun _ => ?_⟩) (fun y => ⟨_, rfl, fun _ => ⟨N1, hn (fun w => y w.2.2.1)⟩, fun w => absurd rfl w⟩)
    refine M_isLetter_ok (i := 2) hb hq hs (by omega) h29 h27 (fun y2 => ⟨_, rfl, fun w => absurd w (by decide), fun _ => ?_⟩) (fun y => ⟨_, rfl, fun _ => ⟨N1, hn (fun w => y w.2.2.2.1)⟩, fun w => absurd rfl w⟩)
    refine M_isLetter_ok (i := 3) hb hq hs (by omega) h29 h27 (fun y3 => ⟨_, rfl, fun w => absurd w (by decide), fun _ => ?_⟩) (fun y => ⟨_, rfl, fun _ => ⟨N1, hn (fun w => y w.2.2.2.2.1)⟩, fun w => absurd rfl w⟩)
    refine M_isLetter_ok (i := 4) hb hq hs (by omega) h29 h27 (fun y4 => ⟨_, rfl, fun w => absurd w (by decide), fun _ => ?_⟩) (fun y => ⟨_, rfl, fun _ => ⟨N1, hn (fun w => y w.2.2.2.2.2.1)⟩, fun w => absurd rfl w⟩)
    refine M_isLetter_ok (i := 5) hb hq hs (by omega) h29 h27 (fun y5 => ⟨_, rfl, fun w => absurd w (by decide), fun _ => ?_⟩) (fun y => ⟨_, rfl, fun _ => ⟨N1, hn (fun w => y w.2.2.2.2.2.2.1)⟩, fun w => absurd rfl w⟩)
    refine M_isLetter_ok (i := 6) hb hq hs (by omega) h29 h27 (fun y6 => ⟨_, rfl, fun w => absurd w (by decide), fun _ => ?_⟩) (fun y => ⟨_, rfl, fun _ => ⟨N1, hn (fun w => y w.2.2.2.2.2.2.2.1)⟩, fun w => absurd rfl w⟩)
    refine M_isLetter_ok (i := 7) hb hq hs (by omega) h29 h27 (fun y7 => ⟨_, rfl, fun w => absurd w (by decide), fun _ => ?_⟩) (fun y => ⟨_, rfl, fun _ => ⟨N1, hn (fun w => y w.2.2.2.2.2.2.2.2)⟩, fun w => absurd rfl w⟩)
    exact ⟨N2, hy z0 y0 y1 y2 y3 y4 y5 y6 y7⟩
theorem kw_nz : ∀ k, k < 12 → (kw k).length < 8 ∧ ∀ j, j < (kw k).length → ¬ (kw k).getD j 0 = 0 := by decide +kernel
theorem word_iff {B : Nat → Int32} {s q k : Nat} (hk : k < 12) (hsq : s < q) (hal : ∀ i, s ≤ i → i < q → isAl (B i) = true) : (q ≤ s + 8 ∧ ∀ i, i < 8 → Lc B s q i ((kw k).getD i 0)) ↔ wrdL B s q = kw k := by
  obtain ⟨w1, w2⟩ := kw_nz k hk
  rw [wl_iff]
  have nz : ∀ i, s ≤ i → i < q → ¬ B i = 0 := fun i h1 h2 z => by
    have := hal i h1 h2
    rw [z] at this
    exact absurd this (by decide)
  have z0 : ∀ j, (kw k).length ≤ j → (kw k).getD j 0 = 0 := fun j hj => by rw [List.getD_eq_getElem?_getD, List.getElem?_eq_none hj]; rfl
  unfold Lc
  constructor
  · intro ⟨h1, h2⟩
    have e : q - s = (kw k).length := by
      rcases Nat.lt_trichotomy (q - s) (kw k).length with y | y | y
      · have := h2 (q - s) (by omega)
        rw [if_neg (by omega)] at this
        exact absurd this (w2 _ y)
      · exact y
      · have := h2 (kw k).length (by omega)
        rw [if_pos (by omega), z0 _ (Nat.le_refl _)] at this
        exact absurd this (nz _ (by omega) (by omega))
    refine ⟨e, fun j hj => ?_⟩
    have := h2 j (by omega)
    rw [if_pos (by omega)] at this
    exact this
  · intro ⟨h1, h2⟩
    refine ⟨by omega, fun i hi => ?_⟩
    by_cases y : s + i < q
    · rw [if_pos y]; exact h2 i (by omega)
    · rw [if_neg y]; exact z0 i (by omega)
theorem wtok_inj : ∀ k, k < 13 → ∀ j, j < 13 → wtok k = wtok j → k = j := by decide +kernel
theorem kn_le {l : List Int32} : knF l < 13 := by
  have := (knH_ok (l := l) 12 0).1
  unfold knF
  omega
/-- whether the word at hand is the k-th -/
theorem M_word_k {d t n o k : Nat} {Q : QQ} {μ0 μ : Mem} {B : Nat → Int32} {τ : TK} {a b c e f g u v : Int32} (h : okM B t n μ0 τ o μ) (hk : k < 12) (hS : τ.2.2.1 ≤ n) (hl : ∀ i, i < 8 → [a, b, c, e, f, g, u, v].getD i 0 = (kw k).getD i 0) (hy : (τ.1, τ.2.1) = wtok k → μ.1 0 28 = 1 → Q (.int 1) μ) (hn : ¬ ((τ.1, τ.2.1) = wtok k ∧ μ.1 0 28 = 1) → Q (.int 0) μ) : Call (d + 3) y_M_isWord [.ref 0, .int a, .int b, .int c, .int e, .int f, .int g, .int u, .int v] μ Q := by
  obtain ⟨_, hb, h32, _, h29, ht⟩ := h
  by_cases h28 : μ.1 0 28 = 1
  · rcases ht with ⟨_, h2⟩ | ⟨_, h2⟩ | ⟨_, h2, _⟩ | ⟨_, h2, _⟩ | ⟨s1, s2, s3, _, h27, h3⟩
    · exact absurd (h2.symm.trans h28) (by decide)
    · exact absurd (h2.symm.trans h28) (by decide)
    · exact absurd (h2.symm.trans h28) (by decide)
    · exact absurd (h2.symm.trans h28) (by decide)
    · have wi := word_iff hk s1 s3
      have wk : (τ.1, τ.2.1) = wtok k ↔ wrdL B τ.2.2.1 τ.2.2.2 = kw k := by
        rw [h3, ← kn_iff hk]
        exact ⟨fun z => wtok_inj _ kn_le k (by omega) z, fun z => by rw [z]⟩
      refine M_isWord_ok (s := τ.2.2.1) (q := τ.2.2.2) hb s2 hS h29 h27 h32 h28 (fun y y0 y1 y2 y3 y4 y5 y6 y7 => hy (wk.mpr (wi.mp ⟨y, fun i hi => ?_⟩)) h28) (fun y => hn (fun z => y ?_))
      · rw [← hl i hi]
        rcases (show i = 0 ∨ i = 1 ∨ i = 2 ∨ i = 3 ∨ i = 4 ∨ i = 5 ∨ i = 6 ∨ i = 7 by omega) with q | q | q | q | q | q | q | q <;> (subst q; assumption)
      · obtain ⟨w0, w⟩ := wi.mpr (wk.mp z.1)
        refine ⟨w0, ?_, ?_, ?_, ?_, ?_, ?_, ?_, ?_⟩
        · have := w 0 (by omega); rw [← hl 0 (by omega)] at this; exact this
        · have := w 1 (by omega); rw [← hl 1 (by omega)] at this; exact this
        · have := w 2 (by omega); rw [← hl 2 (by omega)] at this; exact this
        · have := w 3 (by omega); rw [← hl 3 (by omega)] at this; exact this
        · have := w 4 (by omega); rw [← hl 4 (by omega)] at this; exact this
        · have := w 5 (by omega); rw [← hl 5 (by omega)] at this; exact this
        · have := w 6 (by omega); rw [← hl 6 (by omega)] at this; exact this
        · have := w 7 (by omega); rw [← hl 7 (by omega)] at this; exact this
  · exact b_M_isWord_0 ⟨fun z => absurd h32 z, fun _ => ⟨fun _ => ⟨by decide, hn (fun z => h28 z.2)⟩, fun z => absurd z h28⟩⟩
/-- a key -/
theorem M_key_ok {d t n o k : Nat} {Q : QQ} {μ0 μ : Mem} {B : Nat → Int32} {τ : TK} {a b c e f g u v : Int32} (h : okM B t n μ0 τ o μ) (hk : k < 6) (hS : τ.2.2.1 ≤ n) (hl : ∀ i, i < 8 → [a, b, c, e, f, g, u, v].getD i 0 = (kw k).getD i 0) (hQ : Q (.int (b2p (τ.1 = 256 + nI k))) μ) : Call (d + 3) y_M_isWord [.ref 0, .int a, .int b, .int c, .int e, .int f, .int g, .int u, .int v] μ Q := by
  have wk : wtok k = (256 + nI k, 0) := if_pos hk
  refine M_word_k h (k := k) (by omega) hS hl (fun z _ => bQ1 hQ (by rw [wk] at z; exact congrArg Prod.fst z)) (fun z => bQ0 hQ (fun y => z ?_))
  obtain ⟨_, _, _, _, _, ht⟩ := h
  have nk : ∀ k, k < 6 → ¬ (256 + nI k : Int32) = 0 ∧ ¬ (256 + nI k : Int32) = 1 ∧ ¬ (256 + nI k : Int32) = 2 ∧ ¬ isSg (256 + nI k : Int32) = true := by decide
  obtain ⟨n0, n1, n2, n3⟩ := nk k hk
  rcases ht with ⟨h1, h2⟩ | ⟨h1, h2⟩ | ⟨h1, h2, _⟩ | ⟨h1, h2, _⟩ | ⟨s1, s2, s3, h2, h27, h3⟩
  · exact absurd (y.symm.trans h1) n0
  · exact absurd (y.symm.trans h1) n1
  · exact absurd (y.symm.trans h1) n2
  · rw [y] at h1; exact absurd h1 n3
  · refine ⟨?_, h2⟩
    have h4 : (wtok (knF (wrdL B τ.2.2.1 τ.2.2.2))).1 = 256 + nI k := by rw [← h3]; exact y
    have : ∀ j, j < 13 → ∀ k, k < 6 → (wtok j).1 = 256 + nI k → j = k := by decide +kernel
    rw [h3, this _ kn_le k hk h4]
theorem M_word_bad {d f' : Nat} {Q : QQ} {μ0 μ : Mem} {a b c e f g u v : Int32} (h : badM μ0 f' μ) (hQ : Q (.int 0) μ) : Call (d + 3) y_M_isWord [.ref 0, .int a, .int b, .int c, .int e, .int f, .int g, .int u, .int v] μ Q :=
  b_M_isWord_0 ⟨fun _ => ⟨by decide, hQ⟩, fun z => absurd (h.2.1.symm.trans z) (by decide)⟩
theorem M_fail_ok {d t n o : Nat} {Q : QQ} {μ0 μ : Mem} {B : Nat → Int32} {τ : TK} (h : okM B t n μ0 τ o μ) (hQ : ∀ μ', badM μ0 τ.2.2.1 μ' → Q .null μ') : Call (d + 1) y_M_fail [.ref 0] μ Q := by
  refine b_M_fail_0 ⟨fun z => absurd h.2.2.1 z, fun _ => ⟨by decide, fun μ1 e1 μ2 e2 => hQ μ2 ⟨(h.1.trans (.w e1)).trans (.w e2), ?_, ?_⟩⟩⟩
  · rw [e2, wI_s, upd_n (by decide), e1, wI_s, upd_s]
  · rw [e2, wI_s, upd_s, e1, wI_s, upd_n (by decide)]
    exact h.2.2.2.2.1
theorem M_fail_bad {d f : Nat} {Q : QQ} {μ0 μ : Mem} (h : badM μ0 f μ) (hQ : Q .null μ) : Call (d + 1) y_M_fail [.ref 0] μ Q :=
  b_M_fail_0 ⟨fun _ => hQ, fun z => absurd (h.2.1.symm.trans z) (by decide)⟩
/-- where the next token begins -/
theorem okM.here {t n o : Nat} {μ0 μ : Mem} {B : Nat → Int32} {τ : TK} (h : okM B t n μ0 τ o μ) (h0 : ¬ τ.1 = 0) (h1 : ¬ τ.1 = 1) : μ.1 0 27 = nI τ.2.2.2 := by
  rcases h.2.2.2.2.2 with ⟨q, _⟩ | ⟨q, _⟩ | ⟨_, _, q, _⟩ | ⟨_, _, q, _⟩ | ⟨_, _, _, _, q, _⟩
  · exact absurd q h0
  · exact absurd q h1
  · exact q
  · exact q
  · exact q
theorem M_nx_ok {d t n o : Nat} {Q : QQ} {μ0 μ : Mem} {B : Nat → Int32} {τ : TK} (hr : ∀ i, i < n → rng (B i) 0 255) (h : okM B t n μ0 τ o μ) (h0 : ¬ τ.1 = 0) (h1 : ¬ τ.1 = 1) (hP : τ.2.2.2 ≤ n) (hQ : ∀ μ', okM B t n μ0 (lexF B n τ.2.2.2) o μ' → Q .null μ') : Call (d + 2) y_M_next [.ref 0] μ Q :=
  M_next_ok h.2.1 hr hP (h.here h0 h1) (fun μ' f t' => hQ μ' ⟨h.1.trans f.p, h.2.1.fr f, by rw [f.2 32 (by omega)]; exact h.2.2.1, by rw [f.2 31 (by omega)]; exact h.2.2.2.1, t'⟩)
theorem okM.op {t n o o' : Nat} {μ0 μ μ' : Mem} {B : Nat → Int32} {τ : TK} (h : okM B t n μ0 τ o μ) (e : μ' = wI μ 0 (upd (μ.1 0) 31 (nI o'))) : okM B t n μ0 τ o' μ' := by
  refine ⟨h.1.trans (.w e), ⟨h.2.1.1, h.2.1.2.1, fun i hi => by rw [e, wI_n (by decide)]; exact h.2.1.2.2.1 i hi, by rw [e, wI_s, upd_n (by decide)]; exact h.2.1.2.2.2.1, by rw [e, wI_s, upd_n (by decide)]; exact h.2.1.2.2.2.2⟩, by rw [e, wI_s, upd_n (by decide)]; exact h.2.2.1, by rw [e, wI_s, upd_s], h.2.2.2.2.cg (fun k q1 q2 => by rw [e, wI_s, upd_n (by omega)]) (by rw [e, wI_2])⟩
theorem badM.op {f : Nat} {x : Int32} {μ0 μ μ' : Mem} (h : badM μ0 f μ) (e : μ' = wI μ 0 (upd (μ.1 0) 31 x)) : badM μ0 f μ' := ⟨h.1.trans (.w e), by rw [e, wI_s, upd_n (by decide)]; exact h.2.1, by rw [e, wI_s, upd_n (by decide)]; exact h.2.2⟩
theorem M_opens_y {d t n o : Nat} {Q : QQ} {μ0 μ : Mem} {B : Nat → Int32} {τ : TK} (hr : ∀ i, i < n → rng (B i) 0 255) (h : okM B t n μ0 τ o μ) (ho : o < 5) (h0 : ¬ τ.1 = 0) (h1 : ¬ τ.1 = 1) (hP : τ.2.2.2 ≤ n) (hQ : ∀ μ', okM B t n μ0 (lexF B n τ.2.2.2) (o + 1) μ' → Q (.int 1) μ') : Call (d + 3) y_M_opens [.ref 0] μ Q := by
  have e31 := h.2.2.2.1
  refine b_M_opens_0 ⟨fun _ μ1 e1 => ?_, fun z => ?_⟩
  · rw [e31, nI_1] at e1
    exact M_nx_ok hr (h.op e1) h0 h1 hP (fun μ' h' => ⟨by decide, hQ μ' h'⟩)
  · rw [e31] at z
    have := congrArg Int32.toInt z
    rw [nI_i (by omega)] at this
    have e5 : (5 : Int32).toInt = 5 := rfl
    omega
theorem M_opens_n {d t n : Nat} {Q : QQ} {μ0 μ : Mem} {B : Nat → Int32} {τ : TK} (h : okM B t n μ0 τ 5 μ) (hQ : ∀ μ', badM μ0 τ.2.2.1 μ' → Q (.int 0) μ') : Call (d + 2) y_M_opens [.ref 0] μ Q := by
  have e31 := h.2.2.2.1
  exact b_M_opens_0 ⟨fun z => absurd e31 z, fun _ => M_fail_ok h (fun μ' h' => ⟨by decide, hQ μ' h'⟩)⟩
def envM (μ : Mem) : Nat → Int32 := envF (μ.1 0 19) (μ.1 0 20) (μ.1 0 21) (μ.1 0 22) (μ.1 0 23) (μ.1 0 24)
theorem M_name_ok {d t n o : Nat} {Q : QQ} {μ0 μ : Mem} {B : Nat → Int32} {τ : TK} (h : okM B t n μ0 τ o μ) (hS : τ.2.2.1 ≤ n) (h28 : μ.1 0 28 = 1) (hy : ∀ k, k < 6 → τ.1 = 3 → τ.2.1 = nI k → Q (.int (envM μ0 k)) μ) (hn : ¬ τ.1 = 3 → ∀ μ', badM μ0 τ.2.2.1 μ' → Q (.int 0) μ') : Call (d + 4) y_M_name [.ref 0] μ Q := by
  have ek : ∀ k, k < 25 → μ.1 0 k = μ0.1 0 k := fun k hk => h.1.2 k (by omega)
  have w6 : ∀ k, k < 6 → wtok (6 + k) = (3, nI k) := by decide
  have yes : ∀ k, k < 6 → (τ.1, τ.2.1) = wtok (6 + k) → τ.1 = 3 ∧ τ.2.1 = nI k := fun k hk z => by
    rw [w6 k hk] at z
    exact ⟨congrArg Prod.fst z, congrArg Prod.snd z⟩
  refine b_M_name_0 ?_
  refine M_word_k h (k := 6) (by omega) hS (by decide) (fun z _ => ⟨_, rfl, fun w => absurd w (by decide), fun _ => ?_⟩) (fun z0 => ⟨_, rfl, fun _ => ?_, fun w => absurd rfl w⟩)
  · have g := hy 0 (by omega) (yes 0 (by omega) z).1 (yes 0 (by omega) z).2
    rw [ek 19 (by omega)]; exact g
  refine M_word_k h (k := 7) (by omega) hS (by decide) (fun z _ => ⟨_, rfl, fun w => absurd w (by decide), fun _ => ?_⟩) (fun z1 => ⟨_, rfl, fun _ => ?_, fun w => absurd rfl w⟩)
  · have g := hy 1 (by omega) (yes 1 (by omega) z).1 (yes 1 (by omega) z).2
    rw [ek 20 (by omega)]; exact g
  refine M_word_k h (k := 8) (by omega) hS (by decide) (fun z _ => ⟨_, rfl, fun w => absurd w (by decide), fun _ => ?_⟩) (fun z2 => ⟨_, rfl, fun _ => ?_, fun w => absurd rfl w⟩)
  · have g := hy 2 (by omega) (yes 2 (by omega) z).1 (yes 2 (by omega) z).2
    rw [ek 21 (by omega)]; exact g
  refine M_word_k h (k := 9) (by omega) hS (by decide) (fun z _ => ⟨_, rfl, fun w => absurd w (by decide), fun _ => ?_⟩) (fun z3 => ⟨_, rfl, fun _ => ?_, fun w => absurd rfl w⟩)
  · have g := hy 3 (by omega) (yes 3 (by omega) z).1 (yes 3 (by omega) z).2
    rw [ek 22 (by omega)]; exact g
  refine M_word_k h (k := 10) (by omega) hS (by decide) (fun z _ => ⟨_, rfl, fun w => absurd w (by decide), fun _ => ?_⟩) (fun z4 => ⟨_, rfl, fun _ => ?_, fun w => absurd rfl w⟩)
  · have g := hy 4 (by omega) (yes 4 (by omega) z).1 (yes 4 (by omega) z).2
    rw [ek 23 (by omega)]; exact g
  refine M_word_k h (k := 11) (by omega) hS (by decide) (fun z _ => ⟨_, rfl, fun w => absurd w (by decide), fun _ => ?_⟩) (fun z5 => ⟨_, rfl, fun _ => ?_, fun w => absurd rfl w⟩)
  · have g := hy 5 (by omega) (yes 5 (by omega) z).1 (yes 5 (by omega) z).2
    rw [ek 24 (by omega)]; exact g
  refine M_fail_ok h (fun μ' h' => hn (fun y3 => ?_) μ' h')
  rcases h.2.2.2.2.2 with ⟨_, h2⟩ | ⟨_, h2⟩ | ⟨_, h2, _⟩ | ⟨_, h2, _⟩ | ⟨_, _, _, _, _, h3⟩
  · exact absurd (h2.symm.trans h28) (by decide)
  · exact absurd (h2.symm.trans h28) (by decide)
  · exact absurd (h2.symm.trans h28) (by decide)
  · exact absurd (h2.symm.trans h28) (by decide)
  · have e1 : (wtok (knF (wrdL B τ.2.2.1 τ.2.2.2))).1 = 3 := by rw [← h3]; exact y3
    have : ∀ j, j < 13 → (wtok j).1 = 3 → 6 ≤ j ∧ j < 12 := by decide +kernel
    obtain ⟨j1, j2⟩ := this _ kn_le e1
    generalize knF (wrdL B τ.2.2.1 τ.2.2.2) = j at h3 j1 j2
    rcases (show j = 6 ∨ j = 7 ∨ j = 8 ∨ j = 9 ∨ j = 10 ∨ j = 11 by omega) with q | q | q | q | q | q <;> subst q
    · exact z0 ⟨h3, h28⟩
    · exact z1 ⟨h3, h28⟩
    · exact z2 ⟨h3, h28⟩
    · exact z3 ⟨h3, h28⟩
    · exact z4 ⟨h3, h28⟩
    · exact z5 ⟨h3, h28⟩
/-! ===== the class ===== -/
def frS (μ μ' : Mem) : Prop := Only [23, 25] μ μ' ∧ ∀ k, k < 4 ∨ 9 < k → μ'.1 23 k = μ.1 23 k
theorem frS.trans {a b c : Mem} (h1 : frS a b) (h2 : frS b c) : frS a c := ⟨h1.1.trans h2.1, fun k hk => (h2.2 k hk).trans (h1.2 k hk)⟩
theorem frS.rf {a : Mem} : frS a a := ⟨Only.rf, fun _ _ => rfl⟩
theorem frN.s {a b : Mem} (h : frN a b) : frS a b := ⟨h.1.mono (by simp), fun k hk => h.2 k (by omega)⟩
theorem frS.w {μ μ' : Mem} {k : Nat} {x : Int32} (e : μ' = wI μ 23 (upd (μ.1 23) k x)) (h : 4 ≤ k ∧ k ≤ 9 := by decide) : frS μ μ' := ⟨.we e, fun j hj => by rw [e, wI_s, upd_n (by omega)]⟩
theorem frS.c {μ μ' : Mem} {g : Nat → Int32} (e : μ' = wI μ 25 g) : frS μ μ' := ⟨.we e, fun j hj => by rw [e, wI_n (by decide)]⟩
theorem byX.s {B : Nat → Int32} {n : Nat} {μ μ' : Mem} (h : byX B n μ) (f : frS μ μ') : byX B n μ' := ⟨h.1, by rw [f.2 1 (by omega)]; exact h.2.1, fun i hi => by rw [f.1.i 24]; exact h.2.2.1 i hi, h.2.2.2.fr f.1⟩
def okX (B : Nat → Int32) (n : Nat) (μ0 : Mem) (τ : TK) (C : List Int32) (μ : Mem) : Prop := frS μ0 μ ∧ byX B n μ ∧ μ.1 23 8 = -1 ∧ tokX τ μ ∧ μ.1 23 9 = nI C.length ∧ ∀ j, j < C.length → μ.1 25 j = C.getD j 0
def badX (μ0 : Mem) (f : Nat) (μ : Mem) : Prop := frS μ0 μ ∧ μ.1 23 5 = 1 ∧ μ.1 23 8 = nI f ∧ rng (μ.1 23 9) 0 160
theorem X_nx_ok {d n : Nat} {Q : QQ} {μ0 μ : Mem} {B : Nat → Int32} {τ : TK} {C : List Int32} (hr : ∀ i, i < n → rng (B i) 0 255) (h : okX B n μ0 τ C μ) (hP : τ.2.2.2 ≤ n) (hQ : ∀ μ', okX B n μ0 (lexF B n τ.2.2.2) C μ' → Q .null μ') : Call (d + 7) y_Reader_next [.ref 23] μ Q :=
  Reader_next_ok h.2.1 hr hP h.2.2.2.1.2.2.1 (fun μ' f t' => hQ μ' ⟨h.1.trans f.s, h.2.1.fr f, by rw [f.2 8 (by omega)]; exact h.2.2.1, t', by rw [f.2 9 (by omega)]; exact h.2.2.2.2.1, fun j hj => by rw [f.1.i 25]; exact h.2.2.2.2.2 j hj⟩)
theorem X_emit_ok {d n : Nat} {Q : QQ} {μ0 μ : Mem} {B : Nat → Int32} {τ : TK} {C : List Int32} {c : Int32} (h : okX B n μ0 τ C μ) (hC : C.length < 160) (hQ : ∀ μ', okX B n μ0 τ (C ++ [c]) μ' → Q .null μ') : Call (d + 1) y_Reader_emit [.ref 23, .int c] μ Q := by
  obtain ⟨h1, h2, h3, ⟨t1, t2, t3, t4⟩, h5, h6⟩ := h
  refine b_Reader_emit_0 ⟨fun z => absurd (le32.mp z) (by rw [h5, nI_i (by omega)]; show ¬ (160 : Int) ≤ _; omega), fun _ μ1 e1 => ⟨by rw [h5]; exact nI_v hC (by omega), fun μ2 e2 => ?_⟩⟩
  rw [h5, nI_1] at e1
  rw [h5, nI_c (by omega)] at e2
  have f2 : frS μ μ2 := (frS.w e1).trans (.c e2)
  have k23 : ∀ k, k ≠ 9 → μ2.1 23 k = μ.1 23 k := fun k hk => by rw [e2, wI_n (by decide), e1, wI_s, upd_n hk]
  refine hQ μ2 ⟨h1.trans f2, h2.s f2, by rw [k23 8 (by decide)]; exact h3, ⟨by rw [k23 5 (by decide)]; exact t1, by rw [k23 6 (by decide)]; exact t2, by rw [k23 4 (by decide)]; exact t3, fun q => by rw [k23 7 (by decide)]; exact t4 q⟩, ?_, fun j hj => ?_⟩
  · rw [e2, wI_n (by decide), e1, wI_s, upd_s]; simp
  · rw [e2, wI_s, e1, wI_n (by decide)]
    simp at hj
    rw [List.getD_eq_getElem?_getD]
    by_cases q : j = C.length
    · rw [q, upd_s]; simp
    · rw [upd_n q, h6 j (by omega), List.getElem?_append_left (by omega), List.getD_eq_getElem?_getD]
theorem X_emit_bad {d f : Nat} {Q : QQ} {μ0 μ : Mem} {c : Int32} (h : badX μ0 f μ) (hQ : ∀ μ', badX μ0 f μ' → Q .null μ') : Call (d + 1) y_Reader_emit [.ref 23, .int c] μ Q := by
  obtain ⟨h1, h2, h3, h4⟩ := h
  refine b_Reader_emit_0 ⟨fun _ => hQ μ ⟨h1, h2, h3, h4⟩, fun z μ1 e1 => ?_⟩
  have z : (μ.1 23 9).toInt < 160 := Int.not_le.mp (fun y => z (le32.mpr y))
  refine ⟨vin_of h4.1 z, fun μ2 e2 => hQ μ2 ⟨h1.trans ((frS.w e1).trans (.c e2)), ?_, ?_, ?_⟩⟩
  · rw [e2, wI_n (by decide), e1, wI_s, upd_n (by decide)]; exact h2
  · rw [e2, wI_n (by decide), e1, wI_s, upd_n (by decide)]; exact h3
  · rw [e2, wI_n (by decide), e1, wI_s, upd_s]
    have h41 := h4.1
    have : (μ.1 23 9 + 1).toInt = (μ.1 23 9).toInt + 1 := add32 (by show _ ≤ _ + (1 : Int); omega) (by show _ + (1 : Int) < _; omega)
    exact ⟨by omega, by omega⟩
theorem X_refuse_ok {d n : Nat} {Q : QQ} {μ0 μ : Mem} {B : Nat → Int32} {τ : TK} {C : List Int32} (h : okX B n μ0 τ C μ) (hC : C.length ≤ 160) (hQ : ∀ μ', badX μ0 τ.2.2.1 μ' → Q .null μ') : Call (d + 1) y_Reader_refuse [.ref 23] μ Q := by
  obtain ⟨h1, h2, h3, ⟨t1, t2, t3, t4⟩, h5, h6⟩ := h
  refine b_Reader_refuse_0 ⟨fun z => absurd h3 z, fun _ μ2 e2 μ3 e3 => hQ μ3 ⟨h1.trans ((frS.w e2).trans (.w e3)), ?_, ?_, ?_⟩⟩
  · rw [e3, wI_s, upd_s]
  · rw [e3, wI_s, upd_n (by decide), e2, wI_s, upd_s]; exact t2
  · rw [e3, wI_s, upd_n (by decide), e2, wI_s, upd_n (by decide), h5]
    unfold rng
    rw [nI_i (by omega)]
    omega
theorem X_refuse_bad {d f : Nat} {Q : QQ} {μ0 μ : Mem} (h : badX μ0 f μ) (hf : f < 1000) (hQ : ∀ μ', badX μ0 f μ' → Q .null μ') : Call (d + 1) y_Reader_refuse [.ref 23] μ Q := by
  obtain ⟨h1, h2, h3, h4⟩ := h
  refine b_Reader_refuse_0 ⟨fun _ μ1 e1 => hQ μ1 ⟨h1.trans (.w e1), ?_, ?_, ?_⟩, fun z => absurd (h3.symm.trans z) (nI_ne (by omega))⟩
  · rw [e1, wI_s, upd_s]
  · rw [e1, wI_s, upd_n (by decide)]; exact h3
  · rw [e1, wI_s, upd_n (by decide)]; exact h4
theorem X_expect_y {d n : Nat} {Q : QQ} {μ0 μ : Mem} {B : Nat → Int32} {τ : TK} {C : List Int32} {a : Int32} (hr : ∀ i, i < n → rng (B i) 0 255) (h : okX B n μ0 τ C μ) (ha : τ.1 = a) (hP : τ.2.2.2 ≤ n) (hQ : ∀ μ', okX B n μ0 (lexF B n τ.2.2.2) C μ' → Q .null μ') : Call (d + 8) y_Reader_expect [.ref 23, .int a] μ Q :=
  b_Reader_expect_0 ⟨fun z => absurd (h.2.2.2.1.1.trans ha) z, fun _ => X_nx_ok hr h hP hQ⟩
theorem X_expect_n {d n : Nat} {Q : QQ} {μ0 μ : Mem} {B : Nat → Int32} {τ : TK} {C : List Int32} {a : Int32} (h : okX B n μ0 τ C μ) (ha : ¬ τ.1 = a) (hC : C.length ≤ 160) (hQ : ∀ μ', badX μ0 τ.2.2.1 μ' → Q .null μ') : Call (d + 2) y_Reader_expect [.ref 23, .int a] μ Q :=
  b_Reader_expect_0 ⟨fun _ => X_refuse_ok h hC hQ, fun z => absurd (h.2.2.2.1.1.symm.trans z) ha⟩
theorem X_expect_bad {d f : Nat} {Q : QQ} {μ0 μ : Mem} {a : Int32} (h : badX μ0 f μ) (hf : f < 1000) (ha : ¬ (1 : Int32) = a) (hQ : ∀ μ', badX μ0 f μ' → Q .null μ') : Call (d + 2) y_Reader_expect [.ref 23, .int a] μ Q :=
  b_Reader_expect_0 ⟨fun _ => X_refuse_bad h hf hQ, fun z => absurd (h.2.1.symm.trans z) ha⟩
