/-! ===== tokens ===== -/
abbrev TK : Type := Int32 × Int32 × Nat × Nat
def isBl (c : Int32) : Bool := decide (c = 32 ∨ c = 10)
def isAl (c : Int32) : Bool := decide (97 ≤ c.toInt ∧ c.toInt ≤ 122)
def isDg (c : Int32) : Bool := decide (48 ≤ c.toInt ∧ c.toInt ≤ 57)
def isSg (c : Int32) : Bool := decide (c = 40 ∨ c = 41 ∨ c = 59 ∨ c = 43 ∨ c = 45 ∨ c = 42 ∨ c = 60 ∨ c = 61)
def spanF (p : Int32 → Bool) (B : Nat → Int32) : Nat → Nat → Nat
  | 0, h => h
  | k + 1, h => if p (B h) = true then spanF p B k (h + 1) else h
theorem span_le {p : Int32 → Bool} {B : Nat → Int32} : ∀ k h, h ≤ spanF p B k h ∧ spanF p B k h ≤ h + k
  | 0, h => ⟨Nat.le_refl _, Nat.le_refl _⟩
  | k + 1, h => by
    unfold spanF
    split
    · have := span_le (p := p) (B := B) k (h + 1); omega
    · omega
theorem span_in {p : Int32 → Bool} {B : Nat → Int32} : ∀ k h i, h ≤ i → i < spanF p B k h → p (B i) = true
  | 0, h, i, h1, h2 => by unfold spanF at h2; omega
  | k + 1, h, i, h1, h2 => by
    unfold spanF at h2
    by_cases q : p (B h) = true
    · rw [if_pos q] at h2
      by_cases y : i = h
      · rw [y]; exact q
      · exact span_in k (h + 1) i (by omega) h2
    · rw [if_neg q] at h2; omega
def kwL : List (List Int32) := [[97, 100, 100, 115], [119, 111, 114, 116, 104], [109, 97, 121], [111, 114], [97, 110, 100], [110, 111, 116], [117, 115, 101, 100], [104, 111, 117, 114], [108, 101, 116, 116, 101, 114], [108, 101, 110, 103, 116, 104], [112, 117, 114, 115, 101], [109, 97, 110, 121]]
def kw (k : Nat) : List Int32 := kwL.getD k []
def knH (l : List Int32) : Nat → Nat → Nat
  | 0, j => j
  | k + 1, j => if l = kw j then j else knH l k (j + 1)
def knF (l : List Int32) : Nat := knH l 12 0
theorem knH_ok {l : List Int32} : ∀ k j, knH l k j ≤ j + k ∧ (knH l k j < j + k → l = kw (knH l k j))
  | 0, j => ⟨Nat.le_refl _, fun h => absurd h (by unfold knH; omega)⟩
  | k + 1, j => by
    unfold knH
    by_cases q : l = kw j
    · rw [if_pos q]; exact ⟨by omega, fun _ => q⟩
    · rw [if_neg q]
      have := knH_ok (l := l) k (j + 1)
      exact ⟨by omega, fun h => this.2 (by omega)⟩
theorem kn_kw : ∀ k, k < 12 → knF (kw k) = k := by decide
theorem kn_iff {l : List Int32} {k : Nat} (hk : k < 12) : knF l = k ↔ l = kw k := by
  constructor
  · intro h
    have := (knH_ok (l := l) 12 0).2 (by unfold knF at h; omega)
    unfold knF at h
    rw [h] at this
    exact this
  · intro h
    rw [h]
    exact kn_kw k hk
theorem kn_12 {l : List Int32} (h : ∀ k, k < 12 → ¬ l = kw k) : knF l = 12 := by
  have h1 := knH_ok (l := l) 12 0
  unfold knF
  by_cases q : knH l 12 0 < 0 + 12
  · exact absurd (h1.2 q) (h _ (by omega))
  · omega
def wrdL (B : Nat → Int32) (s q : Nat) : List Int32 := (List.range (q - s)).map (fun i => B (s + i))
def wtok (k : Nat) : Int32 × Int32 := if k < 6 then (256 + nI k, 0) else if k < 12 then (3, nI (k - 6)) else (1, 0)
def numF (B : Nat → Int32) (s : Nat) : Nat → Int32
  | 0 => 0
  | k + 1 => numF B s k * 10 + B (s + k) - 48
def tokA (B : Nat → Int32) (n h : Nat) : TK :=
  if isAl (B h) = true then ((wtok (knF (wrdL B h (spanF isAl B (n - h) h)))).1, (wtok (knF (wrdL B h (spanF isAl B (n - h) h)))).2, h, spanF isAl B (n - h) h)
  else if isDg (B h) = true then (if spanF isDg B (n - h) h - h ≤ 4 then (2, numF B h (spanF isDg B (n - h) h - h), h, spanF isDg B (n - h) h) else (1, 0, h, spanF isDg B (n - h) h))
  else if isSg (B h) = true then (B h, 0, h, h + 1) else (1, 0, h, h + 1)
def lexG (B : Nat → Int32) (n : Nat) : Nat → Nat → TK
  | 0, h => (0, 0, h, h)
  | k + 1, h => if isBl (B h) = true then lexG B n k (h + 1) else tokA B n h
def lexF (B : Nat → Int32) (n h : Nat) : TK := lexG B n (n - h) h
theorem wtok_0 {k : Nat} : ¬ (wtok k).1 = 0 := by
  unfold wtok
  by_cases h : k < 6
  · rw [if_pos h]
    have : ∀ k, k < 6 → ¬ (256 + nI k : Int32) = 0 := by decide
    exact this k h
  · rw [if_neg h]
    split <;> simp
theorem tokA_ok {B : Nat → Int32} {n h : Nat} (hh : h < n) : ¬ (tokA B n h).1 = 0 ∧ (tokA B n h).2.2.1 = h ∧ h < (tokA B n h).2.2.2 ∧ (tokA B n h).2.2.2 ≤ n := by
  unfold tokA
  obtain ⟨k, hk⟩ : ∃ k, n - h = k + 1 := ⟨n - h - 1, by omega⟩
  have sp : ∀ p : Int32 → Bool, p (B h) = true → h < spanF p B (n - h) h ∧ spanF p B (n - h) h ≤ n := by
    intro p q
    rw [hk]
    unfold spanF
    rw [if_pos q]
    have := span_le (p := p) (B := B) k (h + 1)
    omega
  by_cases a : isAl (B h) = true
  · rw [if_pos a]
    exact ⟨wtok_0, rfl, sp _ a⟩
  · rw [if_neg a]
    by_cases b : isDg (B h) = true
    · rw [if_pos b]
      split
      · exact ⟨by simp, rfl, sp _ b⟩
      · exact ⟨by simp, rfl, sp _ b⟩
    · rw [if_neg b]
      by_cases c : isSg (B h) = true
      · rw [if_pos c]
        refine ⟨fun z => ?_, rfl, by show h < h + 1; omega, by show h + 1 ≤ n; omega⟩
        have z : B h = 0 := z
        rw [z] at c
        exact absurd c (by decide)
      · rw [if_neg c]
        exact ⟨by simp, rfl, by show h < h + 1; omega, by show h + 1 ≤ n; omega⟩
theorem lexG_ok {B : Nat → Int32} {n : Nat} : ∀ k h, h + k = n → h ≤ (lexG B n k h).2.2.1 ∧ (lexG B n k h).2.2.1 ≤ n ∧ (lexG B n k h).2.2.1 ≤ (lexG B n k h).2.2.2 ∧ (lexG B n k h).2.2.2 ≤ n ∧ (¬ (lexG B n k h).1 = 0 → (lexG B n k h).2.2.1 < (lexG B n k h).2.2.2) ∧ ((lexG B n k h).1 = 0 → (lexG B n k h).2.2.1 = n)
  | 0, h, e => ⟨Nat.le_refl _, by show h ≤ n; omega, Nat.le_refl _, by show h ≤ n; omega, fun z => absurd rfl z, fun _ => by show h = n; omega⟩
  | k + 1, h, e => by
    unfold lexG
    split
    · have := lexG_ok (B := B) (n := n) k (h + 1) (by omega)
      exact ⟨by omega, this.2⟩
    · obtain ⟨t1, t2, t3, t4⟩ := tokA_ok (B := B) (n := n) (h := h) (by omega)
      exact ⟨by omega, by omega, by omega, t4, fun _ => by omega, fun z => absurd z t1⟩
theorem lex_ok {B : Nat → Int32} {n h : Nat} (hh : h ≤ n) : h ≤ (lexF B n h).2.2.1 ∧ (lexF B n h).2.2.1 ≤ n ∧ (lexF B n h).2.2.1 ≤ (lexF B n h).2.2.2 ∧ (lexF B n h).2.2.2 ≤ n ∧ (¬ (lexF B n h).1 = 0 → (lexF B n h).2.2.1 < (lexF B n h).2.2.2) ∧ ((lexF B n h).1 = 0 → (lexF B n h).2.2.1 = n) := lexG_ok (n - h) h (by omega)
/-! ===== the class reads tokens ===== -/
def knL : List Int32 := [97, 100, 100, 115, 32, 119, 111, 114, 116, 104, 32, 109, 97, 121, 32, 111, 114, 32, 97, 110, 100, 32, 110, 111, 116, 32, 117, 115, 101, 100, 32, 104, 111, 117, 114, 32, 108, 101, 116, 116, 101, 114, 32, 108, 101, 110, 103, 116, 104, 32, 112, 117, 114, 115, 101, 32, 109, 97, 110, 121, 32]
def sgL : List Int32 := [40, 41, 59, 43, 45, 42, 60, 61]
def strX (μ : Mem) : Prop := μ.1 68 1 = 0 ∧ (∀ i, i < 61 → μ.1 69 i = knL.getD i 0) ∧ μ.1 70 1 = 0 ∧ ∀ i, i < 8 → μ.1 71 i = sgL.getD i 0
theorem strX.fr {μ μ' : Mem} {ks : List Nat} (h : strX μ) (o : Only ks μ μ') (hk : ∀ k ∈ ks, k < 66 := by decide) : strX μ' := by
  have n : ∀ k, 66 ≤ k → μ'.1 k = μ.1 k := fun k q => o.i k (fun z => absurd (hk k z) (by omega))
  unfold strX
  rw [n 68 (by omega), n 69 (by omega), n 70 (by omega), n 71 (by omega)]
  exact h
theorem Str_len_1 {d : Nat} {Q : QQ} {μ : Mem} (hs : strX μ) (hQ : Q (.int 61) μ) : Call (d + 2) y_Str_length [.ref 68] μ Q := by
  refine b_Str_length_1_0 (b_Str_coder_1_0 ⟨fun z => absurd z (by decide), fun _ => ?_⟩)
  rw [hs.1]
  exact ⟨by decide, _, rfl, hQ⟩
theorem Str_len_2 {d : Nat} {Q : QQ} {μ : Mem} (hs : strX μ) (hQ : Q (.int 8) μ) : Call (d + 2) y_Str_length [.ref 70] μ Q := by
  refine b_Str_length_2_0 (b_Str_coder_2_0 ⟨fun z => absurd z (by decide), fun _ => ?_⟩)
  rw [hs.2.2.1]
  exact ⟨by decide, _, rfl, hQ⟩
theorem knC : ∀ i, i < 61 → (((Int32.toUInt32 ((knL.getD i 0) &&& 255)) % 65536).toInt32) = knL.getD i 0 ∧ narrow .char (.int (knL.getD i 0)) = .int (knL.getD i 0) := by decide +kernel
theorem Str_char_1 {d i : Nat} {Q : QQ} {μ : Mem} (hs : strX μ) (hi : i < 61) (hQ : Q (.int (knL.getD i 0)) μ) : Call (d + 4) y_Str_charAt [.ref 68, .int (nI i)] μ Q := by
  refine b_Str_charAt_1_0 (b_Str_isLatin1_1_0 ⟨fun z => absurd z (by decide), fun _ => ⟨fun z => absurd hs.1 z, fun _ => ⟨by decide, _, rfl, fun z => absurd z (by decide), fun _ => ?_⟩⟩⟩)
  refine b_Lat_charAt_1_0 (b_Str_checkIndex_0 (b_Prec_checkIndex_0 ⟨fun z => absurd (lt32.mp z) (by rw [nI_i (by omega)]; show ¬ _ < (0 : Int); omega), fun _ => ⟨fun _ => ⟨_, rfl, nI_v hi (by omega), ?_⟩, fun z => absurd (lt32.mpr (by rw [nI_i (by omega)]; show _ < (61 : Int); omega)) z⟩⟩))
  rw [nI_c (by omega), hs.2.1 i hi, (knC i hi).1]
  exact ⟨(knC i hi).2, _, rfl, (knC i hi).2, hQ⟩
theorem sgC : ∀ k, k < 256 → (((Int32.toUInt32 (nI k)) % 65536).toInt32) = nI k ∧ ∀ i, i < 8 → (sgL.getD i 0 = ((nI k).toInt8).toInt32 ↔ sgL.getD i 0 = nI k) := by decide +kernel
theorem sg_mem {c : Int32} : isSg c = true ↔ ∃ i, i < 8 ∧ sgL.getD i 0 = c := by
  unfold isSg
  rw [decide_eq_true_iff]
  constructor
  · intro h
    rcases h with h | h | h | h | h | h | h | h
    · exact ⟨0, by omega, h.symm⟩
    · exact ⟨1, by omega, h.symm⟩
    · exact ⟨2, by omega, h.symm⟩
    · exact ⟨3, by omega, h.symm⟩
    · exact ⟨4, by omega, h.symm⟩
    · exact ⟨5, by omega, h.symm⟩
    · exact ⟨6, by omega, h.symm⟩
    · exact ⟨7, by omega, h.symm⟩
  · intro ⟨i, hi, e⟩
    subst e
    revert i
    decide
theorem Str_sign {d k : Nat} {Q : QQ} {μ : Mem} (hs : strX μ) (hk : k < 256) (hy : isSg (nI k) = true → ∀ r : Int32, ¬ r < 0 → Q (.int r) μ) (hn : ¬ isSg (nI k) = true → Q (.int (-1)) μ) : Call (d + 6) y_Str_indexOf [.ref 70, .int (nI k)] μ Q := by
  refine b_Str_indexOf_2_0 (b_Str_indexOf2_2_0 (b_Str_isLatin1_2_0 ⟨fun z => absurd z (by decide), fun _ => ⟨fun z => absurd hs.2.2.1 z, fun _ => ⟨by decide, _, rfl, fun z => absurd z (by decide), fun _ => Str_len_2 hs ⟨_, rfl, ?_⟩⟩⟩⟩))
  refine b_Lat_indexOf_2_0 (b_Lat_canEncode_0 ⟨fun z => absurd (lt32.mp z) (by rw [nI_i (by omega)]; show ¬ _ < (0 : Int); omega), fun _ => ⟨fun z => absurd (lt32.mp z) (by rw [nI_i (by omega)]; show ¬ (255 : Int) < _; omega), fun _ => ⟨by decide, _, rfl, fun _ => ⟨fun _ => ?_, fun z => absurd (by decide) z⟩, fun z => absurd z (by decide)⟩⟩⟩)
  have key : ∀ i, i ≤ 8 → (∀ j, j < i → ¬ sgL.getD j 0 = nI k) → ∀ Q' : QQ, (isSg (nI k) = true → ∀ r : Int32, ¬ r < 0 → Q' (.int r) μ) → (¬ isSg (nI k) = true → Q' (.int (-1)) μ) → AA (Call (d + 2)) y_Lat_indexOfChar Q' 5 [.ref 71, .int (nI k), .int 0, .int 8, .int ((Int32.toInt8 (nI k)).toInt32), .int (nI i)] [] μ := by
    intro i0 hi0 hno0 Q' hy' hn'
    refine loopN (G := fun i (_ : Unit) => AA (Call (d + 2)) y_Lat_indexOfChar Q' 5 [.ref 71, .int (nI k), .int 0, .int 8, .int ((Int32.toInt8 (nI k)).toInt32), .int (nI i)] [] μ) (P := fun i _ => ∀ j, j < i → ¬ sgL.getD j 0 = nI k) (N := 8) ?_ ?_ i0 () hi0 hno0
    · intro _ h
      refine b_Lat_indexOfChar_2_5 ⟨fun _ => hn' (fun z => ?_), fun z => absurd (by decide) z⟩
      obtain ⟨j, q1, q2⟩ := sg_mem.mp z
      exact h j q1 q2
    · intro i _ hi h ih
      refine b_Lat_indexOfChar_2_5 ⟨fun z => absurd (le32.mp z) (by rw [nI_i (by omega)]; show ¬ (8 : Int) ≤ _; omega), fun _ => ⟨nI_v hi (by omega), ?_⟩⟩
      rw [nI_c (by omega), hs.2.2.2 i hi, nI_1]
      have c := (sgC k hk).2 i hi
      refine ⟨fun z => ih () (fun j hj => ?_), fun z => hy' (sg_mem.mpr ⟨i, hi, c.mp z⟩) _ (fun y => absurd (lt32.mp y) (by rw [nI_i (by omega)]; show ¬ _ < (0 : Int); omega))⟩
      by_cases y : j = i
      · rw [y]; exact fun w => z (c.mpr w)
      · exact h j (by omega)
  have e1 : (if (0 : Int32) < 0 then (0 : Int32) else 0) = 0 := by decide
  have e2 : (if Int32.ofNat 8 < 8 then Int32.ofNat 8 else 8) = 8 := by decide
  rw [e1, e2]
  exact b_Lat_indexOfChar_2_0 (key 0 (by omega) (fun j hj => absurd hj (by omega)) _ (fun q r hr => ⟨_, rfl, ⟨_, rfl, ⟨_, rfl, hy q r hr⟩⟩⟩) (fun q => ⟨_, rfl, ⟨_, rfl, ⟨_, rfl, hn q⟩⟩⟩))
