/-! ===== a day: what is computed ===== -/
abbrev DE : Type := (Nat × (Nat → Int32) × (Nat → Int32)) × (Nat × (Nat → Int32) × (Nat → Int32) × (Nat → Int32)) × (Int32 × Int32) × (Nat → List Int32)
def nwE (e : DE) : Nat := e.1.1
def thE (e : DE) (w : Nat) : Int32 := e.1.2.1 w
def lsE (e : DE) (w : Nat) : Int32 := e.1.2.2 w
def npE (e : DE) : Nat := e.2.1.1
def waE (e : DE) (p : Nat) : Int32 := e.2.1.2.1 p
def hoE (e : DE) (p : Nat) : Int32 := e.2.1.2.2.1 p
def puE (e : DE) (p : Nat) : Int32 := e.2.1.2.2.2 p
def kE (e : DE) : Int32 := e.2.2.1.1
def nE (e : DE) : Int32 := e.2.2.1.2
def cE (e : DE) : Nat → List Int32 := e.2.2.2
def letsF (v : Int32) : List Nat := (digs v.toInt.toNat).map (· - 1)
def bmp (u : Int32) : Int32 := if 999 ≤ u.toInt then 999 else u + 1
def gF (e : DE) (h u : Int32) (l : Nat) : Int32 := priceF (kE e) (nE e) u h + clampF (evF (cE e 0) (envF u h (nI l) 0 0 0)) 0 99
def spF : List Nat → (Nat → Int32) → (Nat → Int32)
  | [], r => r
  | l :: L, r => spF L (upd r l (bmp (r l)))
def csF (g : Int32 → Nat → Int32) : List Nat → (Nat → Int32) → Int32 → Int32
  | [], _, a => a
  | l :: L, r, a => csF g L (upd r l (bmp (r l))) (a + g (r l) l)
def coF (e : DE) (r : Nat → Int32) (w : Nat) (h : Int32) : Int32 := csF (gF e h) (letsF (lsE e w)) r 0
def rowOk (r : Nat → Int32) : Prop := ∀ j, j < 8 → rng (r j) 0 999
def rowM (k : Nat) (r : Nat → Int32) (μ : Mem) : Prop := ∀ j, j < 8 → μ.1 k j = r j
theorem bmp_ok {u : Int32} (h : rng u 0 999) : rng (bmp u) 0 999 := by
  unfold bmp
  by_cases q : 999 ≤ u.toInt
  · rw [if_pos q]; exact ⟨by decide, by decide⟩
  · rw [if_neg q]
    have e : (u + 1).toInt = u.toInt + 1 := add32 (by have := h.1; show _ ≤ _ + (1 : Int); omega) (by have := h.2; show _ + (1 : Int) < _; omega)
    have := h.1
    exact ⟨by omega, by omega⟩
theorem rowOk.up {r : Nat → Int32} {l : Nat} {x : Int32} (h : rowOk r) (hx : rng x 0 999) : rowOk (upd r l x) := by
  intro j hj
  by_cases q : j = l
  · rw [q, upd_s]; exact hx
  · rw [upd_n q]; exact h j hj
theorem rowM.up {k : Nat} {r : Nat → Int32} {μ : Mem} {l : Nat} {x : Int32} (h : rowM k r μ) : rowM k (upd r l x) (wI μ k (upd (μ.1 k) l x)) := by
  intro j hj
  rw [wI_s]
  by_cases q : j = l
  · rw [q, upd_s, upd_s]
  · rw [upd_n q, upd_n q]; exact h j hj
theorem spF_ok : ∀ {L : List Nat} {r : Nat → Int32}, rowOk r → (∀ l ∈ L, l < 8) → rowOk (spF L r)
  | [], _, h, _ => h
  | l :: L, r, h, hL => spF_ok (L := L) (h.up (bmp_ok (h l (hL l (by simp))))) (fun l' h' => hL l' (by simp [h']))
theorem spF_app : ∀ {A B : List Nat} {r : Nat → Int32}, spF (A ++ B) r = spF B (spF A r)
  | [], _, _ => rfl
  | _ :: A, B, _ => spF_app (A := A) (B := B)
theorem csF_app {g : Int32 → Nat → Int32} : ∀ {A B : List Nat} {r : Nat → Int32} {a : Int32}, csF g (A ++ B) r a = csF g B (spF A r) (csF g A r a)
  | [], _, _, _ => rfl
  | _ :: A, B, _, _ => csF_app (A := A) (B := B)
/-- digits from the place k - 1 down -/
def lowd (n : Nat) : Nat → List Nat
  | 0 => []
  | k + 1 => (n / 10 ^ k % 10) :: lowd n k
theorem lowd_s (n : Nat) : ∀ k, lowd n (k + 1) = lowd (n / 10) k ++ [n % 10]
  | 0 => by simp [lowd]
  | k + 1 => by
    have h := lowd_s n k
    show (n / 10 ^ (k + 1) % 10) :: lowd n (k + 1) = _
    rw [h]
    show _ = (n / 10 / 10 ^ k % 10) :: lowd (n / 10) k ++ [n % 10]
    rw [Nat.div_div_eq_div_mul, Nat.pow_succ, Nat.mul_comm 10 (10 ^ k)]
    rfl
theorem digs_lowd (n : Nat) : digs n = lowd n (digs n).length := by
  induction n using Nat.strongRecOn with
  | _ n ih =>
    by_cases h : n = 0
    · subst h; rw [digs_0]; rfl
    · rw [digs_len_s h, lowd_s, ← ih (n / 10) (by omega), ← digs_s h]
/-! ===== the reference: adds, says ===== -/
theorem M_adds_ok {d : Nat} {Q : QQ} {μ : Mem} {tx : Nat → Nat → List Int32} {t u h l : Nat} (hr : rulM t μ) (hT : TxM tx μ) (hu : u < 1000) (hh : h < 32) (hl : l < 16) (hQ : ∀ μ', frA [] μ μ' → TxM tx μ' → Q (.int (clampF (evF (tx t 0) (envF (nI u) (nI h) (nI l) 0 0 0)) 0 99)) μ') : Call (d + 62) y_M_adds [.ref 0, .int (nI u), .int (nI h), .int (nI l)] μ Q := by
  refine b_M_adds_0 ?_
  intro μ1 e1 μ2 e2 μ3 e3 μ4 e4 μ5 e5 μ6 e6
  have f1 : frA [] μ μ6 := by
    rw [e6, e5, e4, e3, e2, e1]
    exact (((((frA.f).trans frA.f).trans frA.f).trans frA.f).trans frA.f).trans frA.f
  have o6 : ∀ k, k ≠ 0 → μ6.1 k = μ.1 k ∧ μ6.2 k = μ.2 k := by
    intro k hk
    rw [e6, e5, e4, e3, e2, e1]
    simp [wI, hk]
  have hT6 : TxM tx μ6 := hT.cong (f1.2 3 (by omega)) (o6 1 (by decide)).1 (o6 2 (by decide)).1 (o6 13 (by decide)).1 (o6 12 (by decide)).2
  have hr6 : rulM t μ6 := by
    unfold rulM
    rw [f1.2 4 (by omega), f1.2 3 (by omega)]
    exact hr
  have hn6 : nmM μ6 u h l 0 0 0 := by
    refine ⟨hu, hh, hl, by omega, by omega, by omega, ?_, ?_, ?_, ?_, ?_, ?_⟩
    all_goals
      rw [e6, e5, e4, e3, e2, e1]
      simp [wI, upd]
      try rfl
  exact M_keptRead_ok (w := 0) hr6 (by omega) hn6 hT6 (fun μ7 o t7 => ⟨_, rfl, M_within_ok ⟨_, rfl, hQ μ7 (f1.trans o) t7⟩⟩)
theorem M_says_ok {d : Nat} {Q : QQ} {μ : Mem} {tx : Nat → Nat → List Int32} {t a p w h z pu np : Nat} {v : Int32} (hr : rulM t μ) (hT : TxM tx μ) (ha : a < 3) (hp : p < 5) (hw : w < 10) (hv : μ.1 6 w = v) (hv0 : 0 ≤ v.toInt) (hz : sizeF v = nI z) (hz6 : z < 64) (hh : h < 32) (hh2 : μ.1 8 p = nI h) (hu : pu < 1048576) (hu2 : μ.1 9 p = nI pu) (hm : np < 16) (hm2 : μ.1 0 14 = nI np)
    (hQ : ∀ μ', frA [] μ μ' → TxM tx μ' → Q (.int (evF (tx t a) (envF 0 (nI h) 0 (sizeF v) (nI pu) (nI np)))) μ') : Call (d + 62) y_M_says [.ref 0, .int (nI a), .int (nI p), .int (nI w)] μ Q := by
  have cp : (nI p).toNatClampNeg = p := nI_c (by omega)
  have cw : (nI w).toNatClampNeg = w := nI_c (by omega)
  refine b_M_says_0 ?_
  rw [cp, cw]
  intro μ1 e1
  refine ⟨nI_v hp (by omega), fun μ2 e2 μ3 e3 => ⟨nI_v hw (by omega), ?_⟩⟩
  have o3 : ∀ k, k ≠ 0 → μ3.1 k = μ.1 k ∧ μ3.2 k = μ.2 k := by
    intro k hk
    rw [e3, e2, e1]
    simp [wI, hk]
  have o1 : μ1.1 8 = μ.1 8 := by rw [e1, wI_n (by decide)]
  rw [(o3 6 (by decide)).1, hv]
  refine M_sizeOf_ok hv0 ⟨_, rfl, fun μ6 e6 => ⟨nI_v hp (by omega), fun μ7 e7 μ8 e8 => ?_⟩⟩
  have f3 : frA [] μ μ3 := by
    rw [e3, e2, e1]
    exact ((frA.f).trans frA.f).trans frA.f
  have f8 : frA [] μ μ8 := by
    refine f3.trans ?_
    rw [e8, e7, e6]
    exact ((frA.f).trans frA.f).trans frA.f
  have o8 : ∀ k, k ≠ 0 → μ8.1 k = μ.1 k ∧ μ8.2 k = μ.2 k := by
    intro k hk
    rw [← (o3 k hk).1, ← (o3 k hk).2, e8, e7, e6]
    simp [wI, hk]
  have hT8 : TxM tx μ8 := hT.cong (f8.2 3 (by omega)) (o8 1 (by decide)).1 (o8 2 (by decide)).1 (o8 13 (by decide)).1 (o8 12 (by decide)).2
  have hr8 : rulM t μ8 := by
    unfold rulM
    rw [f8.2 4 (by omega), f8.2 3 (by omega)]
    exact hr
  have k9 : μ6.1 9 = μ.1 9 := by rw [e6, wI_n (by decide)]; exact (o3 9 (by decide)).1
  have k14 : μ7.1 0 14 = nI np := by
    rw [e7, wI_s, upd_n (by decide), e6, wI_s, upd_n (by decide), f3.2 14 (by omega), hm2]
  have hn8 : nmM μ8 0 h 0 z pu np := by
    refine ⟨by omega, hh, by omega, hz6, hu, hm, ?_, ?_, ?_, ?_, ?_, ?_⟩
    · rw [e8, wI_s, upd_n (by decide), e7, wI_s, upd_n (by decide), e6, wI_s, upd_n (by decide), e3, wI_s, upd_n (by decide), e2, wI_s, upd_n (by decide), e1, wI_s, upd_s]; rfl
    · rw [e8, wI_s, upd_n (by decide), e7, wI_s, upd_n (by decide), e6, wI_s, upd_n (by decide), e3, wI_s, upd_n (by decide), e2, wI_s, upd_s, o1, hh2]
    · rw [e8, wI_s, upd_n (by decide), e7, wI_s, upd_n (by decide), e6, wI_s, upd_n (by decide), e3, wI_s, upd_s]; rfl
    · rw [e8, wI_s, upd_n (by decide), e7, wI_s, upd_n (by decide), e6, wI_s, upd_s, hz]
    · rw [e8, wI_s, upd_n (by decide), e7, wI_s, upd_s, k9, hu2]
    · rw [e8, wI_s, upd_s, k14]
  exact M_keptRead_ok (w := a) hr8 ha hn8 hT8 (fun μ9 o t9 => ⟨_, rfl, Qi (hQ μ9 (f8.trans o) t9) (by rw [hz]; rfl)⟩)
/-- the reference's memory holds a day's data -/
def isM (e : DE) (tx : Nat → Nat → List Int32) (t : Nat) (μ : Mem) : Prop := μ.1 0 10 = nI (nwE e) ∧ (∀ w, w < nwE e → μ.1 5 w = thE e w ∧ μ.1 6 w = lsE e w) ∧ μ.1 0 14 = nI (npE e) ∧ (∀ p, p < npE e → μ.1 7 p = waE e p ∧ μ.1 8 p = hoE e p ∧ μ.1 9 p = puE e p) ∧ vp_in (μ.1 0 18) 6 ∧ mK μ = kE e ∧ mN μ = nE e ∧ rulM t μ ∧ TxM tx μ ∧ cE e = tx t
def wfE (e : DE) : Prop := nwE e ≤ 10 ∧ (∀ w, w < nwE e → 1 ≤ (lsE e w).toInt ∧ (lsE e w).toInt ≤ 888888 ∧ okD (lsE e w).toInt.toNat) ∧ npE e ≤ 5 ∧ (∀ p, p < npE e → rng (hoE e p) 0 23 ∧ rng (puE e p) 0 9999) ∧ rng (kE e) 0 5 ∧ rng (nE e) 0 9
theorem isM.cg {e : DE} {tx : Nat → Nat → List Int32} {t : Nat} {μ μ' : Mem} (h : isM e tx t μ) (hf : ∀ k, k < 19 → μ'.1 0 k = μ.1 0 k) (hc : ∀ k, 5 ≤ k → k < 12 → μ'.1 k = μ.1 k) (hT : TxM tx μ') : isM e tx t μ' := by
  obtain ⟨h1, h2, h3, h4, h5, h6, h7, h8, h9, h10⟩ := h
  unfold isM mK mN rulM
  rw [hf 10 (by omega), hf 14 (by omega), hf 18 (by omega), hf 3 (by omega), hf 4 (by omega), hc 5 (by omega) (by omega), hc 6 (by omega) (by omega), hc 7 (by omega) (by omega), hc 8 (by omega) (by omega), hc 9 (by omega) (by omega), hc 10 (by omega) (by omega), hc 11 (by omega) (by omega)]
  exact ⟨h1, h2, h3, h4, h5, h6, h7, h8, hT, h10⟩
theorem isM.fr {e : DE} {tx : Nat → Nat → List Int32} {t : Nat} {μ μ' : Mem} {ks : List Nat} (h : isM e tx t μ) (f : frA ks μ μ') (hk : ∀ k ∈ ks, 14 ≤ k) (hT : TxM tx μ') : isM e tx t μ' := h.cg (fun k q => f.2 k (Or.inl q)) (fun k q1 q2 => f.1.i k (by simp; exact ⟨by omega, by omega, by omega, fun z => absurd (hk k z) (by omega)⟩)) hT
theorem TxM.fr {tx : Nat → Nat → List Int32} {μ μ' : Mem} {ks : List Nat} (h : TxM tx μ) (o : Only ks μ μ') (hk : ∀ k ∈ ks, 14 ≤ k) : TxM tx μ' := by
  have n : ∀ k, k < 14 → k ∉ ks := fun k q z => absurd (hk k z) (by omega)
  exact h.cong (by rw [o.i 0 (n 0 (by omega))]) (o.i 1 (n 1 (by omega))) (o.i 2 (n 2 (by omega))) (o.i 13 (n 13 (by omega))) (o.l 12 (n 12 (by omega)))
theorem lets_lt {v : Int32} (h : okD v.toInt.toNat) : ∀ l ∈ letsF v, l < 8 := by
  intro l hl
  unfold letsF at hl
  obtain ⟨x, hx, rfl⟩ := List.mem_map.mp hl
  have := h x hx
  omega
theorem M_writes_ok {d : Nat} {Q : QQ} {μ : Mem} {e : DE} {tx : Nat → Nat → List Int32} {t w : Nat} {h : Int32} {r : Nat → Int32} (hi : isM e tx t μ) (hwf : wfE e) (hw : w < nwE e) (hh : rng h 0 23) (hrow : rowM 14 r μ) (hok : rowOk r) (hQ : ∀ μ', frA [14] μ μ' → TxM tx μ' → rowM 14 (spF (letsF (lsE e w)) r) μ' → Q (.int (coF e r w h)) μ') : Call (d + 63) y_M_writes [.ref 0, .int (nI w), .int h] μ Q := by
  obtain ⟨w1, w2, w3, w4, w5, w6⟩ := hwf
  obtain ⟨v1, v2, v3⟩ := w2 w hw
  have hv6 : μ.1 6 w = lsE e w := (hi.2.1 w hw).2
  obtain ⟨n, hn, en, en2⟩ := nI_ex (x := lsE e w) (by omega)
  obtain ⟨hn', hhn, ehn, ehn2⟩ := nI_ex (x := h) hh.1
  have hh23 : hn' ≤ 23 := by have := hh.2; omega
  have hn6 : n ≤ 888888 := by omega
  have hn1 : n ≠ 0 := by omega
  have hlen : (digs n).length ≤ 6 := digs_le 6 n (by omega)
  have hlen1 : 1 ≤ (digs n).length := by rw [digs_len_s hn1]; omega
  have hsz : sizeF (lsE e w) = nI (digs n).length := by unfold sizeF; rw [en2]; rfl
  have hokn : okD n := by rw [en2] at v3; exact v3
  have hL : letsF (lsE e w) = (lowd n (digs n).length).map (· - 1) := by
    unfold letsF
    rw [en2, ← digs_lowd]; rfl
  have cw : (nI w).toNatClampNeg = w := nI_c (by omega)
  have hdig : ∀ k, k < (digs n).length → 1 ≤ n / 10 ^ k % 10 ∧ n / 10 ^ k % 10 ≤ 8 := by
    intro k hk
    refine hokn _ ?_
    rw [digs_lowd]
    generalize (digs n).length = N at hk
    induction N with
    | zero => omega
    | succ N ih =>
      show _ ∈ (n / 10 ^ N % 10) :: lowd n N
      by_cases q : k = N
      · subst q; simp
      · exact List.mem_cons_of_mem _ (ih (by omega))
  have key : ∀ (k : Nat) (c l3 : Int32) (r1 : Nat → Int32) (ν : Mem), k ≤ (digs n).length → frA [14] μ ν → TxM tx ν → rowM 14 r1 ν → rowOk r1 → (∀ ν', frA [14] μ ν' → TxM tx ν' → rowM 14 (spF ((lowd n k).map (· - 1)) r1) ν' → Q (.int (csF (gF e h) ((lowd n k).map (· - 1)) r1 c)) ν') → AA (Call (d + 62)) y_M_writes Q 21 [.ref 0, .int (nI w), .int h, .int l3, .int c, .int (nI (10 ^ k / 10)), un] [] ν := by
    intro k
    induction k with
    | zero =>
      intro c l3 r1 ν _ f1 t1 rm ro hQ
      exact b_M_writes_21 ⟨fun _ => hQ ν f1 t1 rm, fun z => absurd (by decide) z⟩
    | succ k ih =>
      intro c l3 r1 ν hk f1 t1 rm ro hQ
      have hp : 10 ^ (k + 1) / 10 = 10 ^ k := by rw [Nat.pow_succ, Nat.mul_div_cancel _ (by omega)]
      have hpk : 10 ^ k ≤ 100000 := Nat.pow_le_pow_right (n := 10) (by omega) (show k ≤ 5 by omega)
      have hpk1 : 1 ≤ 10 ^ k := Nat.pow_le_pow_right (n := 10) (by omega) (show 0 ≤ k by omega)
      obtain ⟨q1, q2⟩ := hdig k (by omega)
      have ei := nI_i (n := 10 ^ k) (by omega)
      have isν : isM e tx t ν := hi.fr f1 (by simp) t1
      have e6 : ν.1 6 w = nI n := by rw [f1.1.i 6 (by simp), hv6, en]
      obtain ⟨m, hm⟩ : ∃ m, n / 10 ^ k % 10 = m + 1 := ⟨n / 10 ^ k % 10 - 1, by omega⟩
      have hdl : n / 10 ^ k < 2147483648 := Nat.lt_of_le_of_lt (Nat.div_le_self _ _) hn
      have el : (nI n / nI (10 ^ k) - nI n / nI (10 ^ k) / 10 * 10) - 1 = nI m := by
        rw [pk_div hn hpk1 (by omega), nI_mod10 hdl, hm, nI_pred]
      have hm8 : m < 8 := by omega
      have cm : (nI m).toNatClampNeg = m := nI_c (by omega)
      have vm : vp_in (nI m) 8 := nI_v hm8 (by omega)
      obtain ⟨u, hu, eu, eu2⟩ := nI_ex (x := r1 m) (ro m hm8).1
      have hu9 : u ≤ 999 := by have := (ro m hm8).2; omega
      have hlow : (lowd n (k + 1)).map (· - 1) = m :: (lowd n k).map (· - 1) := by
        show ((n / 10 ^ k % 10) :: lowd n k).map (· - 1) = _
        rw [List.map_cons, hm]; rfl
      rw [hlow] at hQ
      rw [hp]
      refine b_M_writes_21 ⟨fun z => absurd (le32.mp z) (by rw [ei]; show ¬ _ ≤ (0 : Int); omega), fun _ => ?_⟩
      rw [cw, e6, el, cm]
      refine ⟨nI_v (by omega) (by omega), fun z => absurd (congrArg Int32.toInt z) (by rw [ei]; show ¬ _ = (0 : Int); omega), by decide, vm, ?_⟩
      refine M_costBy_ok (by exact isν.2.2.2.2.1) ⟨_, rfl, vm, ?_⟩
      rw [rm m hm8, eu, ehn]
      refine M_adds_ok (by exact isν.2.2.2.2.2.2.2.1) t1 (by omega) (by omega) (by omega) (fun ν2 f2 t2 => ⟨_, rfl, vm, ?_⟩)
      have eK : mK ν = kE e := isν.2.2.2.2.2.1
      have eN : mN ν = nE e := isν.2.2.2.2.2.2.1
      have eC : tx t = cE e := isν.2.2.2.2.2.2.2.2.2.symm
      rw [eK, eN, eC]
      have rm2 : rowM 14 r1 ν2 := by intro j hj; rw [f2.i 14]; exact rm j hj
      have hdiv : nI (10 ^ k) / 10 = nI (10 ^ k / 10) := nI_div10 (by omega)
      have nxt : ∀ (x : Int32) (μ5 : Mem), bmp (r1 m) = x → μ5 = wI ν2 14 (upd (ν2.1 14) m x) → AA (Call (d + 62)) y_M_writes Q 21 [.ref 0, .int (nI w), .int (nI hn'), .int l3, .int (c + (priceF (kE e) (nE e) (nI u) (nI hn') + clampF (evF (cE e 0) (envF (nI u) (nI hn') (nI m) 0 0 0)) 0 99)), .int (nI (10 ^ k / 10)), .int (nI m)] [] μ5 := by
        intro x μ5 hx e5
        refine AA_weak (lv := [.ref 0, .int (nI w), .int (nI hn'), .int l3, .int (c + (priceF (kE e) (nE e) (nI u) (nI hn') + clampF (evF (cE e 0) (envF (nI u) (nI hn') (nI m) 0 0 0)) 0 99)), .int (nI (10 ^ k / 10)), un]) ⟨Or.inl rfl, Or.inl rfl, Or.inl rfl, Or.inl rfl, Or.inl rfl, Or.inl rfl, Or.inr ⟨rfl, rfl⟩, trivial⟩ ?_
        have g := ih (c + gF e h (r1 m) m) l3 (upd r1 m (bmp (r1 m))) μ5 (by omega) ((f1.trans (f2.mono (by simp))).trans (by rw [e5]; exact frA.w)) (t2.fr (ks := [14]) (by rw [e5]; exact Only.w) (by simp)) (by rw [e5, hx]; exact rm2.up) (ro.up (bmp_ok (ro m hm8))) hQ
        rw [show gF e h (r1 m) m = (priceF (kE e) (nE e) (nI u) (nI hn') + clampF (evF (cE e 0) (envF (nI u) (nI hn') (nI m) 0 0 0)) 0 99) by rw [eu, ehn]; rfl] at g
        rw [← ehn]
        rw [← ehn] at g
        exact g
      rw [rm2 m hm8, hdiv]
      have e9 : (999 : Int32).toInt = 999 := rfl
      refine ⟨fun z => ⟨vm, fun μ5 e5 => ⟨by decide, nxt _ μ5 ?_ e5⟩⟩, fun z => ⟨vm, vm, fun μ5 e5 => ⟨by decide, nxt _ μ5 ?_ e5⟩⟩⟩
      · unfold bmp; rw [if_pos (by have := le32.mp z; omega)]
      · unfold bmp; rw [if_neg (by intro y; exact z (le32.mpr (by omega)))]
  have pre : ∀ (j k : Nat), 1 ≤ k → k + j = (digs n).length → AA (Call (d + 62)) y_M_writes Q 4 [.ref 0, .int (nI w), .int h, .int (nI (10 ^ (k - 1))), .int (nI k), un, un] [] μ := by
    intro j
    induction j with
    | zero =>
      intro k hk hkj
      refine b_M_writes_4 ⟨by exact nI_v (by omega) (by omega), ?_⟩
      rw [cw, hv6]
      refine M_sizeOf_ok (by omega) ⟨_, rfl, fun _ => ?_, fun z => absurd (by rw [hsz, show k = (digs n).length by omega]; exact Int32.le_refl _) z⟩
      have g := key (digs n).length 0 (nI (10 ^ (k - 1))) r μ (Nat.le_refl _) frA.rf hi.2.2.2.2.2.2.2.2.1 hrow hok (fun ν' f1 t1 rm => by
        have q := hQ ν' f1 t1 (by rw [hL]; exact rm)
        unfold coF at q
        rw [hL] at q
        exact q)
      have e1 : 10 ^ (digs n).length / 10 = 10 ^ (k - 1) := by
        have : (digs n).length = k - 1 + 1 := by omega
        rw [this, Nat.pow_succ, Nat.mul_div_cancel _ (by omega)]
      rw [e1] at g
      exact g
    | succ j ih =>
      intro k hk hkj
      refine b_M_writes_4 ⟨by exact nI_v (by omega) (by omega), ?_⟩
      rw [cw, hv6]
      refine M_sizeOf_ok (by omega) ⟨_, rfl, fun z => absurd (le32.mp z) (by rw [hsz, nI_i (by omega), nI_i (by omega)]; omega), fun _ => ?_⟩
      rw [nI_1]
      have e1 : nI (10 ^ (k - 1)) * 10 = nI (10 ^ (k + 1 - 1)) := by
        have := pk_mul (10 ^ (k - 1)) 10
        rw [show k + 1 - 1 = k - 1 + 1 by omega, Nat.pow_succ]
        exact this
      rw [e1]
      exact ih (k + 1) (by omega) (by omega)
  exact b_M_writes_0 (pre ((digs n).length - 1) 1 (Nat.le_refl _) (by omega))
