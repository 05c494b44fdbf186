/-! ===== texts: the class tells names and asks; the reference keeps what it read ===== -/
theorem Texts_bounded_ok {d : Nat} {Q : QQ} {μ : Mem} {a b : Int32} (hQ : Q (.int (clampF a 0 b)) μ) : Call (d + 1) y_Texts_bounded [.int a, .int b] μ Q := by
  have z0 : (0 : Int32).toInt = 0 := rfl
  refine b_Texts_bounded_0 ?_
  refine ⟨fun c1 => ?_, fun c1 => ?_⟩
  · have c1 : (0 : Int) ≤ (a).toInt := le32.mp c1
    refine ⟨fun c2 => ?_, fun c2 => ?_⟩
    · have c2 : (a).toInt ≤ (b).toInt := le32.mp c2
      (unfold clampF at hQ; repeat' split at hQ) <;> first | exact hQ | omega
    · have c2 : ¬ (a).toInt ≤ (b).toInt := fun z => c2 (le32.mpr z)
      (unfold clampF at hQ; repeat' split at hQ) <;> first | exact hQ | omega
  · have c1 : ¬ (0 : Int) ≤ (a).toInt := fun z => c1 (le32.mpr z)
    (unfold clampF at hQ; repeat' split at hQ) <;> first | exact hQ | omega
/-- THE RULE's code lies where it should -/
def TxX (tx : Nat → Nat → List Int32) (μ : Mem) : Prop := ∀ t : Nat, (t : Int) < (μ.1 27 4).toInt → ∀ p, p < 3 → okC (tx t p) ∧ ∃ i0, codeAt (μ.1 (29 + t)) i0 (tx t p) ∧ i0 + (tx t p).length ≤ 160 ∧ (p = 0 → i0 = 0) ∧ (p ≠ 0 → μ.1 (36 + t) (p - 1) = nI i0) ∧ μ.1 (36 + t) p = nI (i0 + (tx t p).length)
theorem Texts_tell_ok {d : Nat} {Q : QQ} {μ : Mem} {a b c e f g : Int32} (hQ : ∀ μ', Only [42] μ μ' → (∀ j, j < 6 → μ'.1 42 j = envF a b c e f g j) → Q .null μ') : Call (d + 1) y_Texts_tell [.ref 27, .int a, .int b, .int c, .int e, .int f, .int g] μ Q := by
  refine b_Texts_tell_0 ⟨vin_of (by decide) (by decide), fun μ1 e1 => ⟨vin_of (by decide) (by decide), fun μ2 e2 => ⟨vin_of (by decide) (by decide), fun μ3 e3 => ⟨vin_of (by decide) (by decide), fun μ4 e4 => ⟨vin_of (by decide) (by decide), fun μ5 e5 => ⟨vin_of (by decide) (by decide), fun μ6 e6 => hQ μ6 ?_ ?_⟩⟩⟩⟩⟩⟩
  · rw [e6, e5, e4, e3, e2, e1]
    exact (((((Only.w).trans Only.w).trans Only.w).trans Only.w).trans Only.w).trans Only.w
  · intro j hj
    have c0 : (0 : Int32).toNatClampNeg = 0 := rfl
    have c1 : (1 : Int32).toNatClampNeg = 1 := rfl
    have c2 : (2 : Int32).toNatClampNeg = 2 := rfl
    have c3 : (3 : Int32).toNatClampNeg = 3 := rfl
    have c4 : (4 : Int32).toNatClampNeg = 4 := rfl
    have c5 : (5 : Int32).toNatClampNeg = 5 := rfl
    rw [e6, wI_s, e5, wI_s, e4, wI_s, e3, wI_s, e2, wI_s, e1, wI_s, c0, c1, c2, c3, c4, c5]
    rcases (show j = 0 ∨ j = 1 ∨ j = 2 ∨ j = 3 ∨ j = 4 ∨ j = 5 by omega) with rfl | rfl | rfl | rfl | rfl | rfl <;> rfl
theorem Texts_valued_tx {d : Nat} {Q : QQ} {μ : Mem} {tx : Nat → Nat → List Int32} {t p : Nat} {e : Nat → Int32} (ht : t < 6) (hp : p < 3) (hr : μ.1 27 5 = nI t) (htn : (t : Int) < (μ.1 27 4).toInt) (hT : TxX tx μ) (he : ∀ j, j < 6 → μ.1 42 j = e j) (hQ : ∀ μ', Only [43] μ μ' → Q (.int (evF (tx t p) e)) μ') : Call (d + 1) y_Texts_valued [.ref 27, .int (nI p)] μ Q := by
  obtain ⟨h1, i0, h2, h3, h4, h5, h6⟩ := hT t htn p hp
  exact Texts_valued_ok ht hp hr h2 h3 h4 h5 h6 h1 (fun μ' o => Qi (hQ μ' o) (evF_env he))
theorem TxX.cong {tx : Nat → Nat → List Int32} {μ μ' : Mem} (h4 : μ'.1 27 4 = μ.1 27 4) (hc : ∀ k, 29 ≤ k → k < 42 → μ'.1 k = μ.1 k) (ht : (μ.1 27 4).toInt ≤ 6) (h : TxX tx μ) : TxX tx μ' := by
  intro t q
  rw [h4] at q
  rw [hc (29 + t) (by omega) (by omega), hc (36 + t) (by omega) (by omega)]
  exact h t q
theorem TxX.only {tx : Nat → Nat → List Int32} {μ μ' : Mem} {ks : List Nat} (o : Only ks μ μ') (hc : ∀ k, 27 ≤ k → k < 42 → k ∉ ks) (ht : (μ.1 27 4).toInt ≤ 6) (h : TxX tx μ) : TxX tx μ' := h.cong (by rw [o.i 27 (hc 27 (by omega) (by omega))]) (fun k h1 h2 => o.i k (hc k (by omega) h2)) ht
/-- THE RULE's number in the class -/
def rulX (t : Nat) (μ : Mem) : Prop := t < 6 ∧ μ.1 27 5 = nI t ∧ (t : Int) < (μ.1 27 4).toInt ∧ (μ.1 27 4).toInt ≤ 6
theorem rulX.only {t : Nat} {μ μ' : Mem} {ks : List Nat} (o : Only ks μ μ') (hc : 27 ∉ ks) (h : rulX t μ) : rulX t μ' := by
  unfold rulX
  rw [o.i 27 hc]
  exact h
theorem n42 : ∀ k, 27 ≤ k → k < 42 → k ∉ [42] := by intro k h1 h2; simp; omega
theorem n4243 : ∀ k, 27 ≤ k → k < 42 → k ∉ [42, 43] := by intro k h1 h2; simp; omega
theorem Texts_adds_ok {d : Nat} {Q : QQ} {μ : Mem} {tx : Nat → Nat → List Int32} {t : Nat} {a b c : Int32} (hr : rulX t μ) (hT : TxX tx μ) (hQ : ∀ μ', Only [42, 43] μ μ' → Q (.int (clampF (evF (tx t 0) (envF a b c 0 0 0)) 0 99)) μ') : Call (d + 2) y_Texts_adds [.ref 27, .int a, .int b, .int c] μ Q := by
  refine b_Texts_adds_0 (Texts_tell_ok (fun μ1 o1 o2 => ?_))
  have r1 := hr.only o1 (by decide)
  exact Texts_valued_tx (p := 0) r1.1 (by omega) r1.2.1 r1.2.2.1 (hT.only o1 n42 hr.2.2.2) o2 (fun μ2 o3 => ⟨_, rfl, Texts_bounded_ok ⟨_, rfl, hQ μ2 ((o1.mono (by simp)).trans (o3.mono (by simp)))⟩⟩)
theorem Texts_worth_ok {d : Nat} {Q : QQ} {μ : Mem} {tx : Nat → Nat → List Int32} {t : Nat} {a b c e : Int32} (hr : rulX t μ) (hT : TxX tx μ) (hQ : ∀ μ', Only [42, 43] μ μ' → Q (.int (clampF (evF (tx t 1) (envF 0 a 0 b c e)) 0 999)) μ') : Call (d + 2) y_Texts_worth [.ref 27, .int a, .int b, .int c, .int e] μ Q := by
  refine b_Texts_worth_0 (Texts_tell_ok (fun μ1 o1 o2 => ?_))
  have r1 := hr.only o1 (by decide)
  exact Texts_valued_tx (p := 1) r1.1 (by omega) r1.2.1 r1.2.2.1 (hT.only o1 n42 hr.2.2.2) o2 (fun μ2 o3 => ⟨_, rfl, Texts_bounded_ok ⟨_, rfl, hQ μ2 ((o1.mono (by simp)).trans (o3.mono (by simp)))⟩⟩)
theorem Texts_may_ok {d : Nat} {Q : QQ} {μ : Mem} {tx : Nat → Nat → List Int32} {t : Nat} {a b c e : Int32} (hr : rulX t μ) (hT : TxX tx μ) (hQ : ∀ μ', Only [42, 43] μ μ' → Q (.int (b2p (¬ evF (tx t 2) (envF 0 a 0 b c e) = 0))) μ') : Call (d + 2) y_Texts_may [.ref 27, .int a, .int b, .int c, .int e] μ Q := by
  refine b_Texts_may_0 (Texts_tell_ok (fun μ1 o1 o2 => ?_))
  have r1 := hr.only o1 (by decide)
  refine Texts_valued_tx (p := 2) r1.1 (by omega) r1.2.1 r1.2.2.1 (hT.only o1 n42 hr.2.2.2) o2 (fun μ2 o3 => ⟨_, rfl, ?_⟩)
  have g := hQ μ2 ((o1.mono (by simp)).trans (o3.mono (by simp)))
  exact ⟨fun z => ⟨rfl, bQ0 g (fun w => w z)⟩, fun z => ⟨rfl, bQ1 g z⟩⟩
/-! ===== the reference ===== -/
/-- what reading and keeping touch, and other rows -/
def frA (ks : List Nat) (μ μ' : Mem) : Prop := Only (0 :: 12 :: 13 :: ks) μ μ' ∧ ∀ k, k < 19 ∨ 33 < k → μ'.1 0 k = μ.1 0 k
theorem frA.rf {ks : List Nat} {μ : Mem} : frA ks μ μ := ⟨Only.rf, fun _ _ => rfl⟩
theorem frA.trans {ks : List Nat} {a b c : Mem} (h1 : frA ks a b) (h2 : frA ks b c) : frA ks a c := ⟨h1.1.trans h2.1, fun k hk => (h2.2 k hk).trans (h1.2 k hk)⟩
theorem frA.mono {ks ks' : List Nat} {a b : Mem} (h : frA ks a b) (hs : ∀ k ∈ ks, k ∈ ks') : frA ks' a b := ⟨h.1.mono (by intro k hk; simp at hk ⊢; exact hk.imp id (Or.imp id (Or.imp id (hs k)))), h.2⟩
theorem frA.w {ks : List Nat} {μ : Mem} {k : Nat} {g : Nat → Int32} (h : k ∈ ks := by decide) (h0 : k ≠ 0 := by decide) : frA ks μ (wI μ k g) := ⟨Only.w (by simp [h]), fun j _ => by rw [wI_n (Ne.symm h0)]⟩
theorem frA.f {ks : List Nat} {μ : Mem} {k : Nat} {x : Int32} (h : 19 ≤ k ∧ k ≤ 33 := by decide) : frA ks μ (wI μ 0 (upd (μ.1 0) k x)) := ⟨Only.w (by simp), fun j hj => by rw [wI_s, upd_n (by omega)]⟩
theorem frA.i {ks : List Nat} {a b : Mem} (h : frA ks a b) (k : Nat) (hk : k ∉ 0 :: 12 :: 13 :: ks := by decide) : b.1 k = a.1 k := h.1.i k hk
/-- a read text: what its parts say -/
def RdM (b : Nat → Int32) (n : Int32) (c : Nat → List Int32) : Prop := ∀ (d t w : Nat) (Q : QQ) (ν : Mem), t < 6 → w < 3 → (∀ i, i < 160 → ν.1 1 (160 * t + i) = b i) → ν.1 2 t = n → (∀ ν', Only [0] ν ν' → (∀ k, k < 25 ∨ 33 < k → ν'.1 0 k = ν.1 0 k) → Q (.int (evF (c w) (envF (ν.1 0 19) (ν.1 0 20) (ν.1 0 21) (ν.1 0 22) (ν.1 0 23) (ν.1 0 24)))) ν') → Call (d + 60) y_M_read [.ref 0, .int (nI t), .int (nI w)] ν Q
def mz (a k b : Nat) : Nat := a * k + b
theorem mz_inj {a a' b b' k : Nat} (h1 : b < k) (h2 : b' < k) (e : mz a k b = mz a' k b') : a = a' ∧ b = b' := by
  unfold mz at e
  have d1 : (a * k + b) / k = a := by rw [Nat.mul_comm, Nat.mul_add_div (by omega), Nat.div_eq_of_lt h1]; rfl
  have d2 : (a' * k + b') / k = a' := by rw [Nat.mul_comm, Nat.mul_add_div (by omega), Nat.div_eq_of_lt h2]; rfl
  rw [e, d2] at d1
  subst d1
  exact ⟨rfl, by omega⟩
theorem mz_lt {a k b n : Nat} (ha : a < n) (hb : b < k) : mz a k b < n * k := by
  unfold mz
  have : (a + 1) * k ≤ n * k := Nat.mul_le_mul_right k ha
  rw [Nat.succ_mul] at this
  omega
def keyN (t w u h l n p m : Nat) : Nat := mz (mz (mz (mz (mz (mz (mz t 3 w) 1000 u) 32 h) 16 l) 64 n) 1048576 p) 16 m + 1
theorem keyN_inj {t w u h l n p m t' w' u' h' l' n' p' m' : Nat} (w1 : w < 3) (u1 : u < 1000) (h1 : h < 32) (l1 : l < 16) (n1 : n < 64) (p1 : p < 1048576) (m1 : m < 16) (w2 : w' < 3) (u2 : u' < 1000) (h2 : h' < 32) (l2 : l' < 16) (n2 : n' < 64) (p2 : p' < 1048576) (m2 : m' < 16) (e : keyN t w u h l n p m = keyN t' w' u' h' l' n' p' m') : t = t' ∧ w = w' ∧ u = u' ∧ h = h' ∧ l = l' ∧ n = n' ∧ p = p' ∧ m = m' := by
  unfold keyN at e
  obtain ⟨e, q6⟩ := mz_inj m1 m2 (Nat.succ.inj e)
  obtain ⟨e, q5⟩ := mz_inj p1 p2 e
  obtain ⟨e, q4⟩ := mz_inj n1 n2 e
  obtain ⟨e, q3⟩ := mz_inj l1 l2 e
  obtain ⟨e, q2⟩ := mz_inj h1 h2 e
  obtain ⟨e, q1⟩ := mz_inj u1 u2 e
  obtain ⟨e, q0⟩ := mz_inj w1 w2 e
  exact ⟨e, q0, q1, q2, q3, q4, q5, q6⟩
def cacheM (tx : Nat → Nat → List Int32) (cn : Int32) (ko : Nat → Int64) (kw : Nat → Int32) : Prop := ∀ j, j < 1024 → ko j = 0 ∨ ∃ t w u h l n p m : Nat, (t : Int) < cn.toInt ∧ w < 3 ∧ u < 1000 ∧ h < 32 ∧ l < 16 ∧ n < 64 ∧ p < 1048576 ∧ m < 16 ∧ (ko j).toInt = (keyN t w u h l n p m : Int) ∧ kw j = evF (tx t w) (envF (nI u) (nI h) (nI l) (nI n) (nI p) (nI m))
def TxM (tx : Nat → Nat → List Int32) (μ : Mem) : Prop := (∀ t : Nat, (t : Int) < (μ.1 0 3).toInt → RdM (fun i => μ.1 1 (160 * t + i)) (μ.1 2 t) (tx t)) ∧ cacheM tx (μ.1 0 3) (μ.2 12) (μ.1 13)
theorem TxM.cong {tx : Nat → Nat → List Int32} {μ μ' : Mem} (h0 : μ'.1 0 3 = μ.1 0 3) (h1 : μ'.1 1 = μ.1 1) (h2 : μ'.1 2 = μ.1 2) (h3 : μ'.1 13 = μ.1 13) (h4 : μ'.2 12 = μ.2 12) (h : TxM tx μ) : TxM tx μ' := by
  unfold TxM
  rw [h0, h1, h2, h3, h4]
  exact h
theorem ma64 {a : Int64} {k : Int64} {x : Int32} {A K X : Int} (ha : a.toInt = A) (hk : k.toInt = K) (hx : x.toInt = X) (h0 : 0 ≤ A) (h1 : 0 ≤ X) (h2 : 0 ≤ A * K) (h3 : A * K + X < 9223372036854775808) : (a * k + x.toInt64).toInt = A * K + X := by
  have m : (a * k).toInt = A * K := by
    rw [Int64.toInt_mul, ha, hk]
    exact Int.bmod_eq_of_le (by omega) (by omega)
  rw [Int64.toInt_add, m, lI, hx]
  exact Int.bmod_eq_of_le (by omega) (by omega)
theorem place_ok (y : Int64) : vp_in (Int64.toInt32 ((Int64.toUInt64 y >>> ((Int32.toInt64 54).toUInt64 &&& Int64.toUInt64 63)).toInt64)) 1024 := by
  have e : ((Int32.toInt64 54).toUInt64 &&& Int64.toUInt64 63) = 54 := by decide
  rw [e]
  have h1 : (Int64.toUInt64 y >>> 54).toNat < 1024 := by
    rw [UInt64.toNat_shiftRight]
    have h2 : (54 : UInt64).toNat % 64 = 54 := rfl
    rw [h2, Nat.shiftRight_eq_div_pow]
    have h3 := UInt64.toNat_lt (Int64.toUInt64 y)
    omega
  generalize (Int64.toUInt64 y >>> 54) = z at h1
  have e1 : z.toInt64.toInt = z.toNat := by
    have : z.toInt64.toInt = z.toBitVec.toInt := rfl
    rw [this, BitVec.toInt_eq_toNat_cond]
    have : z.toBitVec.toNat = z.toNat := rfl
    rw [this, if_pos (by omega)]
  have e2 : z.toInt64.toInt32.toInt = z.toNat := by
    rw [Int64.toInt_toInt32, e1]
    exact Int.bmod_eq_of_le (by omega) (by omega)
  exact vin_of (by omega) (by omega)
/-- the names are told -/
def nmM (μ : Mem) (u h l n p m : Nat) : Prop := u < 1000 ∧ h < 32 ∧ l < 16 ∧ n < 64 ∧ p < 1048576 ∧ m < 16 ∧ μ.1 0 19 = nI u ∧ μ.1 0 20 = nI h ∧ μ.1 0 21 = nI l ∧ μ.1 0 22 = nI n ∧ μ.1 0 23 = nI p ∧ μ.1 0 24 = nI m
def rulM (t : Nat) (μ : Mem) : Prop := t < 6 ∧ μ.1 0 4 = nI t ∧ (t : Int) < (μ.1 0 3).toInt
theorem vp_updL_s {f : Nat → Int64} {k : Nat} {x : Int64} : vp_updL f k x k = x := by simp [vp_updL]
theorem vp_updL_n {f : Nat → Int64} {k j : Nat} {x : Int64} (h : j ≠ k) : vp_updL f k x j = f j := by simp [vp_updL, h]
theorem M_keptRead_ok {d : Nat} {Q : QQ} {μ : Mem} {tx : Nat → Nat → List Int32} {t w u h l n p m : Nat} (hr : rulM t μ) (hw : w < 3) (hn : nmM μ u h l n p m) (hT : TxM tx μ) (hQ : ∀ μ', frA [] μ μ' → TxM tx μ' → Q (.int (evF (tx t w) (envF (nI u) (nI h) (nI l) (nI n) (nI p) (nI m)))) μ') : Call (d + 61) y_M_keptRead [.ref 0, .int (nI w)] μ Q := by
  obtain ⟨r1, r2, r3⟩ := hr
  obtain ⟨u1, h1, l1, n1, p1, m1, e19, e20, e21, e22, e23, e24⟩ := hn
  have key : ∀ (k : Int64) (x : Int32), k.toInt = (keyN t w u h l n p m : Int) → vp_in x 1024 → AA (Call (d + 60)) y_M_keptRead Q 66 [.ref 0, .int (nI w), .long k, un, .int x] [] μ := by
    intro k x hk hx
    have hlt := vin_lt hx
    refine b_M_keptRead_66 ⟨hx, fun z => ⟨hx, ?_⟩, fun z => ?_⟩
    · have hke : μ.2 12 x.toNatClampNeg = k := by
        apply Int64.toInt_inj.mp
        have q1 : ¬ (μ.2 12 x.toNatClampNeg).toInt < k.toInt := fun y => by
          have := lcmp_lt.mpr y
          rw [z] at this
          exact absurd this (by decide)
        have q2 : ¬ k.toInt < (μ.2 12 x.toNatClampNeg).toInt := fun y => by
          have := lcmp_gt.mpr y
          rw [z] at this
          exact absurd this (by decide)
        omega
      refine Qi (hQ μ frA.rf hT) ?_
      rcases hT.2 _ hlt with q | ⟨t', w', u', h', l', n', p', m', a1, a2, a3, a4, a5, a6, a7, a8, a9, a10⟩
      · rw [hke] at q
        rw [q] at hk
        have : (0 : Int64).toInt = 0 := rfl
        unfold keyN at hk
        omega
      · rw [hke, hk] at a9
        have a9 : keyN t w u h l n p m = keyN t' w' u' h' l' n' p' m' := by omega
        obtain ⟨rfl, rfl, rfl, rfl, rfl, rfl, rfl, rfl⟩ := keyN_inj hw u1 h1 l1 n1 p1 m1 a2 a3 a4 a5 a6 a7 a8 a9
        exact a10
    · rw [r2]
      refine hT.1 t r3 d t w _ μ r1 hw (fun i _ => rfl) rfl (fun ν' o1 o2 => ⟨_, rfl, hx, fun μ3 e3 => ⟨hx, fun μ4 e4 => ⟨hx, ?_⟩⟩⟩)
      rw [e19, e20, e21, e22, e23, e24] at e3
      have f13 : μ4.1 13 = upd (μ.1 13) x.toNatClampNeg (evF (tx t w) (envF (nI u) (nI h) (nI l) (nI n) (nI p) (nI m))) := by rw [e4, wL_1, e3, wI_s, o1.i 13]
      have f12 : μ4.2 12 = vp_updL (μ.2 12) x.toNatClampNeg k := by rw [e4, wL_s, e3, wI_2, o1.l 12]
      have f0 : μ4.1 0 = ν'.1 0 := by rw [e4, wL_1, e3, wI_n (by decide)]
      have fo : ∀ a, a ≠ 0 → a ≠ 12 → a ≠ 13 → μ4.1 a = μ.1 a ∧ μ4.2 a = μ.2 a := by
        intro a q0 q12 q13
        rw [e4, wL_1, wL_n q12, e3, wI_n q13, wI_2]
        exact o1 a (by simp [q0])
      refine Qi (hQ μ4 ⟨fun a ha => ?_, fun a ha => ?_⟩ ⟨?_, ?_⟩) (by rw [f13, upd_s])
      · simp at ha
        exact fo a ha.1 ha.2.1 ha.2.2
      · rw [f0]
        exact o2 a (by omega)
      · rw [f0, o2 3 (by omega), (fo 1 (by decide) (by decide) (by decide)).1, (fo 2 (by decide) (by decide) (by decide)).1]
        exact hT.1
      · rw [f0, o2 3 (by omega), f12, f13]
        intro j hj
        by_cases q : j = x.toNatClampNeg
        · rw [q, vp_updL_s, upd_s]
          exact Or.inr ⟨t, w, u, h, l, n, p, m, r3, hw, u1, h1, l1, n1, p1, m1, hk, rfl⟩
        · rw [vp_updL_n q, upd_n q]
          exact hT.2 j hj
  have b0 := nI_i (n := t) (by omega)
  have b1 := nI_i (n := w) (by omega)
  have b2 := nI_i (n := u) (by omega)
  have b3 := nI_i (n := h) (by omega)
  have b4 := nI_i (n := l) (by omega)
  have b5 := nI_i (n := n) (by omega)
  have b6 := nI_i (n := p) (by omega)
  have b7 := nI_i (n := m) (by omega)
  refine b_M_keptRead_0 (b_M_keptRead_9 (b_M_keptRead_17 (b_M_keptRead_25 (b_M_keptRead_33 (b_M_keptRead_41 (b_M_keptRead_49 (b_M_keptRead_59 (key _ _ ?_ (place_ok _)))))))))
  rw [r2, e19, e20, e21, e22, e23, e24]
  have go : ∀ {A : Int64} {N K X B : Nat} {k : Int64} {x : Int32}, A.toInt = (N : Int) → k.toInt = (K : Int) → x.toInt = (X : Int) → N < B → X < K → B * K < 9223372036854775808 → (A * k + x.toInt64).toInt = (mz N K X : Int) ∧ mz N K X < B * K := by
    intro A N K X B k x hA hk hx hN hX hB
    have hlt := mz_lt (n := B) hN hX
    have h1 : (N : Int) * (K : Int) = ((N * K : Nat) : Int) := by simp
    have hm : mz N K X = N * K + X := rfl
    refine ⟨?_, hlt⟩
    rw [ma64 hA hk hx (by omega) (by omega) (by omega) (by omega)]
    omega
  have k0 := go (A := (nI t).toInt64) (N := t) (K := 3) (k := 3) (B := 6) (by rw [lI, b0]) rfl b1 r1 hw (by decide)
  generalize ((nI t).toInt64 * 3 + (nI w).toInt64) = A0 at k0 ⊢
  have k1 := go (K := 1000) (k := 1000) k0.1 rfl b2 k0.2 u1 (by decide)
  generalize (A0 * 1000 + (nI u).toInt64) = A1 at k1 ⊢
  have k2 := go (K := 32) (k := 32) k1.1 rfl b3 k1.2 h1 (by decide)
  generalize (A1 * 32 + (nI h).toInt64) = A2 at k2 ⊢
  have k3 := go (K := 16) (k := 16) k2.1 rfl b4 k2.2 l1 (by decide)
  generalize (A2 * 16 + (nI l).toInt64) = A3 at k3 ⊢
  have k4 := go (K := 64) (k := 64) k3.1 rfl b5 k3.2 n1 (by decide)
  generalize (A3 * 64 + (nI n).toInt64) = A4 at k4 ⊢
  have k5 := go (K := 1048576) (k := 1048576) k4.1 rfl b6 k4.2 p1 (by decide)
  generalize (A4 * 1048576 + (nI p).toInt64) = A5 at k5 ⊢
  have k6 := go (K := 16) (k := 16) k5.1 rfl b7 k5.2 m1 (by decide)
  generalize (A5 * 16 + (nI m).toInt64) = A6 at k6 ⊢
  obtain ⟨k6, g6⟩ := k6
  have g7 : 6 * 3 * 1000 * 32 * 16 * 64 * 1048576 * 16 < 9223372036854775800 := by decide
  unfold keyN
  generalize mz (mz (mz (mz (mz (mz (mz t 3 w) 1000 u) 32 h) 16 l) 64 n) 1048576 p) 16 m = N6 at k6 g6 ⊢
  have g8 : N6 < 9223372036854775800 := Nat.lt_trans g6 g7
  rw [Int64.toInt_add, k6, show (1 : Int64).toInt = 1 from rfl]
  rw [Int.bmod_eq_of_le (by omega) (by omega)]
  omega
