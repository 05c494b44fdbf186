/-! ===== base rows ===== -/
def Only (ks : List Nat) (μ μ' : Mem) : Prop := ∀ k, k ∉ ks → μ'.1 k = μ.1 k ∧ μ'.2 k = μ.2 k
theorem Only.rf {ks : List Nat} {μ : Mem} : Only ks μ μ := fun _ _ => ⟨rfl, rfl⟩
theorem Only.trans {ks : List Nat} {a b c : Mem} (h1 : Only ks a b) (h2 : Only ks b c) : Only ks a c := fun k hk => ⟨(h2 k hk).1.trans (h1 k hk).1, (h2 k hk).2.trans (h1 k hk).2⟩
theorem Only.mono {ks ks' : List Nat} {a b : Mem} (h : Only ks a b) (hs : ∀ k ∈ ks, k ∈ ks') : Only ks' a b := fun k hk => h k (fun z => hk (hs k z))
theorem Only.i {ks : List Nat} {a b : Mem} (h : Only ks a b) (k : Nat) (hk : k ∉ ks := by decide) : b.1 k = a.1 k := (h k hk).1
theorem Only.l {ks : List Nat} {a b : Mem} (h : Only ks a b) (k : Nat) (hk : k ∉ ks := by decide) : b.2 k = a.2 k := (h k hk).2
theorem wI_s {μ : Mem} {k : Nat} {g : Nat → Int32} : (wI μ k g).1 k = g := by simp [wI]
theorem wI_n {μ : Mem} {k a : Nat} {g : Nat → Int32} (h : a ≠ k) : (wI μ k g).1 a = μ.1 a := by simp [wI, h]
theorem wI_2 {μ : Mem} {k : Nat} {g : Nat → Int32} : (wI μ k g).2 = μ.2 := rfl
theorem wL_1 {μ : Mem} {k : Nat} {g : Nat → Int64} : (wL μ k g).1 = μ.1 := rfl
theorem wL_s {μ : Mem} {k : Nat} {g : Nat → Int64} : (wL μ k g).2 k = g := by simp [wL]
theorem wL_n {μ : Mem} {k a : Nat} {g : Nat → Int64} (h : a ≠ k) : (wL μ k g).2 a = μ.2 a := by simp [wL, h]
theorem Only.w {μ : Mem} {k : Nat} {g : Nat → Int32} {ks : List Nat} (h : k ∈ ks := by decide) : Only ks μ (wI μ k g) := fun a ha => ⟨wI_n (fun z => ha (z ▸ h)), rfl⟩
theorem Only.wl {μ : Mem} {k : Nat} {g : Nat → Int64} {ks : List Nat} (h : k ∈ ks := by decide) : Only ks μ (wL μ k g) := fun a ha => ⟨rfl, wL_n (fun z => ha (z ▸ h))⟩
theorem upd_s {f : Nat → Int32} {k : Nat} {x : Int32} : upd f k x k = x := by simp [upd]
theorem upd_n {f : Nat → Int32} {k j : Nat} {x : Int32} (h : j ≠ k) : upd f k x j = f j := by simp [upd, h]
/-! ===== a local that holds nothing may hold anything ===== -/
def lvle : List Value → List Value → Prop
  | [], [] => True
  | a :: r, b :: r' => (a = b ∨ (a = un ∧ isL b = false)) ∧ lvle r r'
  | _, _ => False
theorem lvle_rf : ∀ l : List Value, lvle l l
  | [] => trivial
  | _ :: r => ⟨Or.inl rfl, lvle_rf r⟩
theorem lvle_len : ∀ {l l' : List Value}, lvle l l' → l.length = l'.length
  | [], [], _ => rfl
  | _ :: _, _ :: _, h => by simp [lvle_len h.2]
  | [], _ :: _, h => h.elim
  | _ :: _, [], h => h.elim
theorem lvle_nth : ∀ {l l' : List Value} (n : Nat), lvle l l' → nth un l n = nth un l' n ∨ (nth un l n = un ∧ isL (nth un l' n) = false)
  | [], [], _, _ => Or.inl rfl
  | _ :: _, _ :: _, 0, h => h.1
  | _ :: _, _ :: _, n + 1, h => lvle_nth n h.2
  | [], _ :: _, _, h => h.elim
  | _ :: _, [], _, h => h.elim
theorem lvle_set : ∀ {l l' : List Value} (n : Nat) (v : Value), lvle l l' → lvle (l.set n v) (l'.set n v)
  | [], [], _, _, _ => trivial
  | _ :: _, _ :: _, 0, _, h => ⟨Or.inl rfl, h.2⟩
  | _ :: _, _ :: _, n + 1, v, h => ⟨h.1, lvle_set n v h.2⟩
  | [], _ :: _, _, _, h => h.elim
  | _ :: _, [], _, _, h => h.elim
theorem lvle_get {l l' : List Value} {n : Nat} {v : Value} (h : lvle l l') (hv : nth un l n = v) (hu : v ≠ un) : nth un l' n = v := by
  rcases lvle_nth n h with q | q
  · rw [← q]; exact hv
  · exact absurd (hv.symm.trans q.1) hu
theorem lvle_ok {l l' : List Value} {n : Nat} (h : lvle l l') (ho : okst l n = true) : okst l' n = true := by
  cases n with
  | zero => rfl
  | succ n =>
    simp only [okst] at ho ⊢
    rcases lvle_nth n h with q | q
    · rw [← q]; exact ho
    · rw [q.2]; rfl
theorem call_lv {K : KK} (hK : KMono K) {sd y' : Nat} {vst : Bool} {i : Nat} {lv lv' st : List Value} {μ : Mem} {P P' : PP} (h1 : ∀ i st μ, P i lv st μ → P' i lv' st μ) (h : call K sd y' vst i lv st μ P) : call K sd y' vst i lv' st μ P' := by
  unfold call at h ⊢
  split at h
  split at h
  · exact hK _ _ _ _ _ (fun r μ' hr => ret1_mono (fun l hl => h1 _ _ _ hl) hr) h
  · exact h
set_option maxHeartbeats 4000000 in
theorem stp_lv {sd : Nat} {rt : Option FieldType} {K : KK} (hK : KMono K) {Q : QQ} {P P' : PP} {ins : Instr} {i : Nat} {lv lv' st : List Value} {μ : Mem} (hl : lvle lv lv') (hP : ∀ i l l' st μ, lvle l l' → P i l st μ → P' i l' st μ) (h : stp sd rt K Q ins i lv st μ P) : stp sd rt K Q ins i lv' st μ P' := by
  have h1 : ∀ i st μ, P i lv st μ → P' i lv' st μ := fun i st μ => hP i lv lv' st μ hl
  unfold stp at h ⊢
  cases ins
  case ldc => exact h1 _ _ _ h
  case ldc2_w => exact h1 _ _ _ h
  case ldc_w => exact h1 _ _ _ h
  case getstatic => exact h1 _ _ _ h
  case iload =>
    dsimp only at h ⊢
    split at h
    · rename_i x hv
      rw [lvle_get hl hv (fun z => by cases z)]
      exact h1 _ _ _ h
    · exact h.elim
  case lload =>
    dsimp only at h ⊢
    split at h
    · rename_i x hv
      rw [lvle_get hl hv (fun z => by cases z)]
      exact h1 _ _ _ h
    · exact h.elim
  case aload =>
    dsimp only at h ⊢
    split at h
    · rename_i x hv
      rw [lvle_get hl hv (fun z => by cases z)]
      exact h1 _ _ _ h
    · exact h.elim
  case istore =>
    refine pI_mono (fun _ _ h => ?_) h
    split at h
    · rename_i ho
      simp only [Bool.and_eq_true] at ho
      rw [lvle_ok hl ho.1, ← lvle_len hl, ho.2]
      exact hP _ _ _ _ _ (lvle_set _ _ hl) h
    · exact h.elim
  case astore =>
    refine pR_mono (fun _ _ h => ?_) h
    split at h
    · rename_i ho
      simp only [Bool.and_eq_true] at ho
      rw [lvle_ok hl ho.1, ← lvle_len hl, ho.2]
      exact hP _ _ _ _ _ (lvle_set _ _ hl) h
    · exact h.elim
  case lstore =>
    refine pL_mono (fun _ _ h => ?_) h
    split at h
    · rename_i ho
      simp only [Bool.and_eq_true] at ho
      rw [lvle_ok hl ho.1, ← lvle_len hl, ho.2]
      exact hP _ _ _ _ _ (lvle_set _ _ (lvle_set _ _ hl)) h
    · exact h.elim
  case iinc =>
    dsimp only at h ⊢
    split at h
    · rename_i x hv
      rw [lvle_get hl hv (fun z => by cases z)]
      dsimp only
      split at h
      · rename_i ho
        simp only [Bool.and_eq_true] at ho
        rw [lvle_ok hl ho.1, ← lvle_len hl, ho.2]
        exact hP _ _ _ _ _ (lvle_set _ _ hl) h
      · exact h.elim
    · exact h.elim
  case iadd => exact pII_mono (fun _ _ _ h => h1 _ _ _ h) h
  case isub => exact pII_mono (fun _ _ _ h => h1 _ _ _ h) h
  case imul => exact pII_mono (fun _ _ _ h => h1 _ _ _ h) h
  case idiv => exact pII_mono (fun _ _ _ h => ⟨h.1, h1 _ _ _ h.2⟩) h
  case irem => exact pII_mono (fun _ _ _ h => ⟨h.1, h1 _ _ _ h.2⟩) h
  case ineg => exact pI_mono (fun _ _ h => h1 _ _ _ h) h
  case iand => exact pII_mono (fun _ _ _ h => h1 _ _ _ h) h
  case ior => exact pII_mono (fun _ _ _ h => h1 _ _ _ h) h
  case ishl => exact pII_mono (fun _ _ _ h => h1 _ _ _ h) h
  case ishr => exact pII_mono (fun _ _ _ h => h1 _ _ _ h) h
  case iushr => exact pII_mono (fun _ _ _ h => h1 _ _ _ h) h
  case i2l => exact pI_mono (fun _ _ h => h1 _ _ _ h) h
  case l2i => exact pL_mono (fun _ _ h => h1 _ _ _ h) h
  case i2b => exact pI_mono (fun _ _ h => h1 _ _ _ h) h
  case i2s => exact pI_mono (fun _ _ h => h1 _ _ _ h) h
  case i2c => exact pI_mono (fun _ _ h => h1 _ _ _ h) h
  case ladd => exact pLL_mono (fun _ _ _ h => h1 _ _ _ h) h
  case lsub => exact pLL_mono (fun _ _ _ h => h1 _ _ _ h) h
  case lmul => exact pLL_mono (fun _ _ _ h => h1 _ _ _ h) h
  case ldiv => exact pLL_mono (fun _ _ _ h => ⟨h.1, h1 _ _ _ h.2⟩) h
  case lrem => exact pLL_mono (fun _ _ _ h => ⟨h.1, h1 _ _ _ h.2⟩) h
  case lushr => exact pLI_mono (fun _ _ _ h => h1 _ _ _ h) h
  case lcmp => exact pLL_mono (fun _ _ _ h => h1 _ _ _ h) h
  case dup => dsimp only at h ⊢; split at h <;> first | exact h.elim | (split at h <;> first | exact h1 _ _ _ h | exact h.elim)
  case dup_x1 => dsimp only at h ⊢; split at h <;> first | exact h.elim | (split at h <;> first | exact h1 _ _ _ h | exact h.elim)
  case pop => dsimp only at h ⊢; split at h <;> first | exact h.elim | (split at h <;> first | exact h1 _ _ _ h | exact h.elim)
  case ifCond => exact pI_mono (fun _ _ h => cnd_mono (h1 _ _ _) (h1 _ _ _) h) h
  case if_icmp => exact pII_mono (fun _ _ _ h => cnd_mono (h1 _ _ _) (h1 _ _ _) h) h
  case goto => exact h1 _ _ _ h
  case lookupswitch => exact pI_mono (fun _ _ h => swc_mono (fun t => h1 _ _ _) _ _ h) h
  case arraylength => exact pR_mono (fun _ _ h => by split at h <;> first | exact h.elim | exact h1 _ _ _ h) h
  case iaload => exact pRI_mono (fun _ _ _ h => ⟨h.1, h1 _ _ _ h.2⟩) h
  case baload => exact pRI_mono (fun _ _ _ h => ⟨h.1, h1 _ _ _ h.2⟩) h
  case laload => exact pRI_mono (fun _ _ _ h => ⟨h.1, h1 _ _ _ h.2⟩) h
  case aaload => exact pRI_mono (fun _ _ _ h => ⟨h.1, h1 _ _ _ h.2⟩) h
  case iastore => exact pRII_mono (fun _ _ _ _ h => ⟨h.1, fun m e => h1 _ _ _ (h.2 m e)⟩) h
  case bastore => exact pRII_mono (fun _ _ _ _ h => ⟨h.1, fun m e => h1 _ _ _ (h.2 m e)⟩) h
  case lastore => exact pRIL_mono (fun _ _ _ _ h => ⟨h.1, fun m e => h1 _ _ _ (h.2 m e)⟩) h
  case getfield => exact pR_mono (fun _ _ h => by split at h <;> first | exact h.elim | (split at h <;> first | exact h.elim | exact h1 _ _ _ h)) h
  case putfield =>
    dsimp only at h ⊢
    split at h
    · split at h
      · split at h
        · exact fun m e => h1 _ _ _ (h m e)
        · exact ⟨h.1, fun m e => h1 _ _ _ (h.2 m e)⟩
        · exact h.elim
      · exact h.elim
    · split at h
      · split at h
        · exact fun m e => h1 _ _ _ (h m e)
        · exact h.elim
      · exact h.elim
    · exact h.elim
  case invokestatic y => exact call_lv hK h1 h
  case invokevirtual y => exact call_lv hK h1 h
  case invokedynamic n =>
    match n, h with
    | 0, h =>
      show copy5 sd i lv' st μ P'
      have h : copy5 sd i lv st μ P := h
      unfold copy5 at h ⊢
      split at h <;> first | exact h.elim | (split at h <;> first | exact h.elim | exact ⟨h.1, fun m e => h1 _ _ _ (h.2 m e)⟩)
    | 1, h => exact pII_mono (fun _ _ _ h => by split at h <;> first | exact h.elim | exact h1 _ _ _ h) h
    | 2, h => exact pII_mono (fun _ _ _ h => by split at h <;> first | exact h.elim | exact h1 _ _ _ h) h
    | n + 3, h => exact h.elim
  case ireturn => exact h
  case lreturn => exact h
  case return_ => exact h
  all_goals exact h.elim
theorem AA_weak {d y : Nat} {Q : QQ} {i : Nat} {lv lv' st : List Value} {μ : Mem} (hl : lvle lv lv') (h : AA (Call d) y Q i lv st μ) : AA (Call d) y Q i lv' st μ :=
  h (fun i l st μ => ∀ l', lvle l l' → AA (Call d) y Q i l' st μ) (fun i l st μ hs l' hl => AA_step (Call_mono d) (stp_lv (Call_mono d) hl (fun _ _ _ _ _ hl h => h _ hl) hs)) lv' hl
def b2p (P : Prop) [Decidable P] : Int32 := if P then 1 else 0
theorem b_nz {P : Prop} [Decidable P] {A B : Prop} (ha : P → A) (hb : ¬ P → B) : (¬ b2p P = 0 → A) ∧ (b2p P = 0 → B) := by
  unfold b2p
  by_cases h : P
  · rw [if_pos h]
    exact ⟨fun _ => ha h, fun q => absurd q (by decide)⟩
  · rw [if_neg h]
    exact ⟨fun q => absurd rfl q, fun _ => hb h⟩
theorem b_z {P : Prop} [Decidable P] {A B : Prop} (hb : ¬ P → B) (ha : P → A) : (b2p P = 0 → B) ∧ (¬ b2p P = 0 → A) := ⟨(b_nz ha hb).2, (b_nz ha hb).1⟩
theorem b_nar {P : Prop} [Decidable P] : narrow .boolean (.int (b2p P)) = .int (b2p P) := by
  unfold b2p
  split <;> rfl
theorem b_1 {P : Prop} [Decidable P] (h : P) : b2p P = 1 := if_pos h
theorem b_0 {P : Prop} [Decidable P] (h : ¬ P) : b2p P = 0 := if_neg h
theorem lI (x : Int32) : x.toInt64.toInt = x.toInt := by simp
/-- numbers in range -/
theorem vin_of {x : Int32} {n : Nat} (h0 : 0 ≤ x.toInt) (h1 : x.toInt < n) : vp_in x n := vp_in_iff.mpr ⟨h0, h1⟩
theorem toNatC {x : Int32} : x.toNatClampNeg = x.toInt.toNat := rfl
theorem le32 {a b : Int32} : a ≤ b ↔ a.toInt ≤ b.toInt := Int32.le_iff_toInt_le
theorem lt32 {a b : Int32} : a < b ↔ a.toInt < b.toInt := Int32.lt_iff_toInt_lt
theorem eq32 {a b : Int32} : a = b ↔ a.toInt = b.toInt := Int32.toInt_inj.symm
theorem sub32 {a b : Int32} (h : -2147483648 ≤ a.toInt - b.toInt) (h2 : a.toInt - b.toInt < 2147483648) : (a - b).toInt = a.toInt - b.toInt := by
  rw [Int32.toInt_sub]
  exact Int.bmod_eq_of_le (by omega) (by omega)
theorem add32 {a b : Int32} (h : -2147483648 ≤ a.toInt + b.toInt) (h2 : a.toInt + b.toInt < 2147483648) : (a + b).toInt = a.toInt + b.toInt := by
  rw [Int32.toInt_add]
  exact Int.bmod_eq_of_le (by omega) (by omega)
theorem mul32 {a b : Int32} (h : -2147483648 ≤ a.toInt * b.toInt) (h2 : a.toInt * b.toInt < 2147483648) : (a * b).toInt = a.toInt * b.toInt := by
  rw [Int32.toInt_mul]
  exact Int.bmod_eq_of_le (by omega) (by omega)
theorem b_congr {P P' : Prop} [Decidable P] [Decidable P'] (h : P ↔ P') : b2p P = b2p P' := by
  unfold b2p
  by_cases q : P
  · rw [if_pos q, if_pos (h.mp q)]
  · rw [if_neg q, if_neg (fun z => q (h.mpr z))]
theorem bQ {P P' : Prop} [Decidable P] [Decidable P'] {Q : QQ} {μ : Mem} (hQ : Q (.int (b2p P)) μ) (h : P ↔ P') : Q (.int (b2p P')) μ := by rw [← b_congr h]; exact hQ
theorem bQ1 {P : Prop} [Decidable P] {Q : QQ} {μ : Mem} (hQ : Q (.int (b2p P)) μ) (h : P) : Q (.int 1) μ := by rw [b_1 h] at hQ; exact hQ
theorem bQ0 {P : Prop} [Decidable P] {Q : QQ} {μ : Mem} (hQ : Q (.int (b2p P)) μ) (h : ¬ P) : Q (.int 0) μ := by rw [b_0 h] at hQ; exact hQ
theorem lcmp_lt {a b : Int64} : lg_cmp a b < 0 ↔ a.toInt < b.toInt := by
  unfold lg_cmp
  by_cases h1 : a > b
  · have h2 : b.toInt < a.toInt := Int64.lt_iff_toInt_lt.mp h1
    rw [if_pos h1]
    exact ⟨fun h => absurd h (by decide), fun h => by omega⟩
  · rw [if_neg h1]
    have h2 : ¬ b.toInt < a.toInt := fun z => h1 (Int64.lt_iff_toInt_lt.mpr z)
    by_cases h3 : a = b
    · subst h3
      rw [if_pos rfl]
      exact ⟨fun h => absurd h (by decide), fun h => by omega⟩
    · rw [if_neg h3]
      have h4 : ¬ a.toInt = b.toInt := fun z => h3 (Int64.toInt_inj.mp z)
      exact ⟨fun _ => by omega, fun _ => by decide⟩
theorem lcmp_gt {a b : Int64} : 0 < lg_cmp a b ↔ b.toInt < a.toInt := by
  unfold lg_cmp
  by_cases h1 : a > b
  · have h2 : b.toInt < a.toInt := Int64.lt_iff_toInt_lt.mp h1
    rw [if_pos h1]
    exact ⟨fun _ => h2, fun _ => by decide⟩
  · rw [if_neg h1]
    have h2 : ¬ b.toInt < a.toInt := fun z => h1 (Int64.lt_iff_toInt_lt.mpr z)
    refine ⟨fun h => ?_, fun h => absurd h h2⟩
    by_cases h3 : a = b
    · rw [if_pos h3] at h
      exact absurd h (by decide)
    · rw [if_neg h3] at h
      exact absurd h (by decide)
def rng (v : Int32) (lo hi : Int) : Prop := lo ≤ v.toInt ∧ v.toInt ≤ hi
def clampF (v lo hi : Int32) : Int32 := if lo.toInt ≤ v.toInt then (if v.toInt ≤ hi.toInt then v else hi) else lo
theorem loopN {σ : Type} {G P : Nat → σ → Prop} {N : Nat} (hx : ∀ s, P N s → G N s) (hs : ∀ i s, i < N → P i s → (∀ s', P (i + 1) s' → G (i + 1) s') → G i s) : ∀ i s, i ≤ N → P i s → G i s := by
  intro i s hi
  obtain ⟨n, hn⟩ : ∃ n, i + n = N := ⟨N - i, by omega⟩
  induction n generalizing i s with
  | zero =>
    have : i = N := by omega
    subst this
    exact hx s
  | succ n ih => exact fun h => hs i s (by omega) h (fun s' h' => ih (i + 1) s' (by omega) (by omega) h')
theorem nI_i {n : Nat} (h : n < 2147483648) : (nI n).toInt = n := nI_toInt h
theorem nI_v {n : Nat} {N : Nat} (h : n < N) (hN : N < 2147483648) : vp_in (nI n) N := vp_in_nI h hN
theorem nI_c {n : Nat} (h : n < 2147483648) : (nI n).toNatClampNeg = n := nI_clamp h
theorem nI_ex {x : Int32} (h : 0 ≤ x.toInt) : ∃ n : Nat, n < 2147483648 ∧ x = nI n ∧ x.toInt = n := by
  refine ⟨x.toInt.toNat, ?_, ?_, by omega⟩
  · have := Int32.toInt_lt x
    omega
  · apply Int32.toInt_inj.mp
    rw [nI_toInt]
    · omega
    · have := Int32.toInt_lt x
      omega
theorem div32 {a : Int32} {k : Nat} (h : 0 ≤ a.toInt) (hk : 0 < k) (hk2 : k < 2147483648) : (a / nI k).toInt = a.toInt / k := by
  obtain ⟨n, h1, h2, h3⟩ := nI_ex h
  rw [h3, h2, pk_div h1 hk hk2, nI_toInt (Nat.lt_of_le_of_lt (Nat.div_le_self _ _) h1)]
  omega
/-! ===== small methods of the reference ===== -/
theorem M_in_ok {d : Nat} {Q : QQ} {μ : Mem} {a b c : Int64} {A B C : Int} (ha : a.toInt = A) (hb : b.toInt = B) (hc : c.toInt = C) (hQ : Q (.int (b2p (B ≤ A ∧ A ≤ C))) μ) : Call (d + 1) y_M_in [.long a, .long b, .long c] μ Q := by
  refine b_M_in_0 ?_
  subst ha; subst hb; subst hc
  refine ⟨fun h1 => ⟨rfl, ?_⟩, fun h1 => ⟨fun h2 => ⟨rfl, ?_⟩, fun h2 => ⟨rfl, ?_⟩⟩⟩
  · rw [lcmp_lt] at h1; exact bQ0 hQ (by omega)
  · rw [lcmp_gt] at h2; exact bQ0 hQ (by omega)
  · rw [lcmp_lt] at h1; rw [lcmp_gt] at h2; exact bQ1 hQ (by omega)
theorem M_within_ok {d : Nat} {Q : QQ} {μ : Mem} {a b c : Int32} (hQ : Q (.int (clampF a b c)) μ) : Call (d + 1) y_M_within [.int a, .int b, .int c] μ Q := by
  refine b_M_within_0 ?_
  refine ⟨fun c1 => ?_, fun c1 => ?_⟩
  · have c1 : (b).toInt ≤ (a).toInt := le32.mp c1
    refine ⟨fun c2 => ?_, fun c2 => ?_⟩
    · have c2 : (a).toInt ≤ (c).toInt := le32.mp c2
      (unfold clampF at hQ; repeat' split at hQ) <;> first | exact hQ | omega
    · have c2 : ¬ (a).toInt ≤ (c).toInt := fun z => c2 (le32.mpr z)
      (unfold clampF at hQ; repeat' split at hQ) <;> first | exact hQ | omega
  · have c1 : ¬ (b).toInt ≤ (a).toInt := fun z => c1 (le32.mpr z)
    (unfold clampF at hQ; repeat' split at hQ) <;> first | exact hQ | omega
theorem M_isWordNumber_ok {d : Nat} {Q : QQ} {μ : Mem} {a : Int32} (h : rng (μ.1 0 10) 0 10) (hQ : Q (.int (b2p (0 ≤ a.toInt ∧ a.toInt < (μ.1 0 10).toInt))) μ) : Call (d + 2) y_M_isWordNumber [.ref 0, .int a] μ Q := by
  have h1 : ((μ.1 0 10) - 1).toInt = (μ.1 0 10).toInt - 1 := sub32 (by have := h.1; show _ ≤ _ - 1; omega) (by have := h.2; show _ - 1 < _; omega)
  refine b_M_isWordNumber_0 ?_
  refine M_in_ok (A := (a).toInt) (B := (0 : Int)) (C := (((μ.1 0 10) - 1)).toInt) (lI _) rfl (lI _) ⟨_, rfl, ?_⟩
  refine ⟨by exact b_nar, ?_⟩
  exact bQ hQ (by rw [h1]; omega)
theorem M_isWriter_ok {d : Nat} {Q : QQ} {μ : Mem} {a : Int32} (h : rng (μ.1 0 14) 0 5) (hQ : Q (.int (b2p (0 ≤ a.toInt ∧ a.toInt < (μ.1 0 14).toInt))) μ) : Call (d + 2) y_M_isWriter [.ref 0, .int a] μ Q := by
  have h1 : ((μ.1 0 14) - 1).toInt = (μ.1 0 14).toInt - 1 := sub32 (by have := h.1; show _ ≤ _ - 1; omega) (by have := h.2; show _ - 1 < _; omega)
  refine b_M_isWriter_0 ?_
  refine M_in_ok (A := (a).toInt) (B := (0 : Int)) (C := (((μ.1 0 14) - 1)).toInt) (lI _) rfl (lI _) ⟨_, rfl, ?_⟩
  refine ⟨by exact b_nar, ?_⟩
  exact bQ hQ (by rw [h1]; omega)
theorem M_isLaw_ok {d : Nat} {Q : QQ} {μ : Mem} {a : Int32} (h : rng (μ.1 0 17) 1 6) (hQ : Q (.int (b2p (0 ≤ a.toInt ∧ a.toInt < (μ.1 0 17).toInt))) μ) : Call (d + 2) y_M_isLaw [.ref 0, .int a] μ Q := by
  have h1 : ((μ.1 0 17) - 1).toInt = (μ.1 0 17).toInt - 1 := sub32 (by have := h.1; show _ ≤ _ - 1; omega) (by have := h.2; show _ - 1 < _; omega)
  refine b_M_isLaw_0 ?_
  refine M_in_ok (A := (a).toInt) (B := (0 : Int)) (C := (((μ.1 0 17) - 1)).toInt) (lI _) rfl (lI _) ⟨_, rfl, ?_⟩
  refine ⟨by exact b_nar, ?_⟩
  exact bQ hQ (by rw [h1]; omega)
theorem X_within_ok {d : Nat} {Q : QQ} {μ : Mem} {a b : Int32} {A B : Int} (ha : a.toInt = A) (hb : b.toInt = B) (hQ : Q (.int (b2p (0 ≤ A ∧ A ≤ B))) μ) : Call (d + 1) y_X_within [.int a, .int b] μ Q := by
  subst ha; subst hb
  refine b_X_within_0 ?_
  refine ⟨fun c1 => ?_, fun c1 => ?_⟩
  · have c1 : (a).toInt < (0 : Int) := lt32.mp c1
    refine ⟨by rfl, ?_⟩
    first | exact bQ0 hQ (by omega) | exact bQ1 hQ (by omega)
  · have c1 : ¬ (a).toInt < (0 : Int) := fun z => c1 (lt32.mpr z)
    refine ⟨fun c2 => ?_, fun c2 => ?_⟩
    · have c2 : (b).toInt < (a).toInt := lt32.mp c2
      refine ⟨by rfl, ?_⟩
      first | exact bQ0 hQ (by omega) | exact bQ1 hQ (by omega)
    · have c2 : ¬ (b).toInt < (a).toInt := fun z => c2 (lt32.mpr z)
      refine ⟨by rfl, ?_⟩
      first | exact bQ0 hQ (by omega) | exact bQ1 hQ (by omega)
theorem vin_lt {j : Int32} {n : Nat} (h : vp_in j n) : j.toNatClampNeg < n := Nat.not_le.mp fun q => h (Or.inr q)
theorem Qi {Q : QQ} {a b : Int32} {μ : Mem} (hq : Q (.int b) μ) (h : a = b) : Q (.int a) μ := h ▸ hq
