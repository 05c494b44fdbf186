/-! ===== the reference: calls that think of days ===== -/
def frG (μ μ' : Mem) : Prop := Only [0, 12, 13, 14, 15, 16, 17, 18] μ μ' ∧ ∀ k, k < 19 ∨ 33 < k ∧ k ≤ 40 ∨ 47 < k → μ'.1 0 k = μ.1 0 k
theorem frG.rf {μ : Mem} : frG μ μ := ⟨Only.rf, fun _ _ => rfl⟩
theorem frG.trans {a b c : Mem} (h1 : frG a b) (h2 : frG b c) : frG a c := ⟨h1.1.trans h2.1, fun k hk => (h2.2 k hk).trans (h1.2 k hk)⟩
theorem frT.g {ks : List Nat} {a b : Mem} (h : frT ks a b) (hk : ∀ k ∈ ks, 14 ≤ k ∧ k ≤ 18 := by simp) : frG a b := ⟨h.1.mono (by intro k q; simp at q ⊢; rcases q with q | q | q | q <;> first | omega | (have := hk k q; omega)), fun k q => h.2 k (by omega)⟩
theorem frA.g {ks : List Nat} {a b : Mem} (h : frA ks a b) (hk : ∀ k ∈ ks, 14 ≤ k ∧ k ≤ 18 := by simp) : frG a b := h.t.g hk
theorem Only.g {ks : List Nat} {a b : Mem} (h : Only ks a b) (hk : ∀ k ∈ ks, 14 ≤ k ∧ k ≤ 18 := by simp) : frG a b := ⟨h.mono (by intro k q; have := hk k q; simp; omega), fun k _ => by rw [h.i 0 (fun z => absurd (hk 0 z) (by omega))]⟩
theorem frG.i {a b : Mem} (h : frG a b) (k : Nat) (hk : k ∉ [0, 12, 13, 14, 15, 16, 17, 18] := by decide) : b.1 k = a.1 k := h.1.i k hk
theorem isM.g {e : DE} {tx : Nat → Nat → List Int32} {t : Nat} {μ μ' : Mem} (h : isM e tx t μ) (f : frG μ μ') (hT : TxM tx μ') : isM e tx t μ' := h.cg (fun k q => f.2 k (Or.inl q)) (fun k q1 q2 => f.1.i k (by simp; omega)) hT
theorem isM.tx {e : DE} {tx : Nat → Nat → List Int32} {t : Nat} {μ : Mem} (h : isM e tx t μ) : TxM tx μ := h.2.2.2.2.2.2.2.2.1
/-- a day's end -/
noncomputable def dE (e : DE) (r : Nat → Int32) : DS := dayF e 24 (ds0 r)
noncomputable def gdA (e : DE) (r : Nat → Int32) : Int32 := sum8 (goodF e (dE e r)) (npE e)
theorem nw_r {e : DE} {tx : Nat → Nat → List Int32} {t : Nat} {μ : Mem} (h : isM e tx t μ) (hwf : wfE e) : rng (μ.1 0 10) 0 10 ∧ (μ.1 0 10).toInt = nwE e := by
  have := hwf.1
  rw [h.1]
  unfold rng
  rw [nI_i (by omega)]
  omega
theorem np_r {e : DE} {tx : Nat → Nat → List Int32} {t : Nat} {μ : Mem} (h : isM e tx t μ) (hwf : wfE e) : rng (μ.1 0 14) 0 5 ∧ (μ.1 0 14).toInt = npE e := by
  have := hwf.2.2.1
  rw [h.2.2.1]
  unfold rng
  rw [nI_i (by omega)]
  omega
theorem M_costs_ok {d : Nat} {Q : QQ} {μ : Mem} {e : DE} {tx : Nat → Nat → List Int32} {t : Nat} {a b : Int32} {r : Nat → Int32} (hi : isM e tx t μ) (hwf : wfE e) (hrow : rowM 4 r μ) (hok : rowOk r) (hb : ¬ (0 ≤ a.toInt ∧ a.toInt < nwE e ∧ 0 ≤ b.toInt ∧ b.toInt ≤ 23) → Q (.int (-2)) μ) (hg : 0 ≤ a.toInt ∧ a.toInt < nwE e ∧ 0 ≤ b.toInt ∧ b.toInt ≤ 23 → ∀ μ', frG μ μ' → TxM tx μ' → Q (.int (coF e r a.toNatClampNeg b)) μ') : Call (d + 64) y_M_costs [.ref 0, .int a, .int b] μ Q := by
  obtain ⟨n1, n2⟩ := nw_r hi hwf
  refine b_M_costs_0 (M_isWordNumber_ok n1 ⟨_, rfl, b_z (fun c1 => hb (by omega)) (fun c1 => ?_)⟩)
  refine M_in_ok (A := b.toInt) (B := 0) (C := 23) (lI _) rfl rfl ⟨_, rfl, b_nz (fun c2 => ?_) (fun c2 => hb (by omega))⟩
  obtain ⟨w, hw, rfl, ew⟩ := nI_ex (x := a) c1.1
  refine M_takes_ok (fun s o1 o2 => ?_)
  have t1 : TxM tx s := hi.tx.fr o1 (by simp)
  refine M_writes_ok (hi.g o1.g t1) hwf (by omega) c2 (r := r) (fun j hj => by rw [o2 j hj]; exact hrow j hj) hok (fun s2 f2 t2 _ => ⟨_, rfl, ?_⟩)
  have g := hg (by omega) s2 (Only.g o1 |>.trans f2.g) t2
  rw [nI_c hw] at g
  exact g
theorem M_write_ok {d : Nat} {Q : QQ} {μ : Mem} {e : DE} {tx : Nat → Nat → List Int32} {t : Nat} {a b : Int32} {r : Nat → Int32} (hi : isM e tx t μ) (hwf : wfE e) (hrow : rowM 4 r μ) (hok : rowOk r) (hb : ¬ (0 ≤ a.toInt ∧ a.toInt < nwE e ∧ 0 ≤ b.toInt ∧ b.toInt ≤ 23) → Q (.int (-2)) μ) (hg : 0 ≤ a.toInt ∧ a.toInt < nwE e ∧ 0 ≤ b.toInt ∧ b.toInt ≤ 23 → ∀ μ1 μ', frG μ μ1 → TxM tx μ1 → Only [4] μ1 μ' → rowM 4 (spF (letsF (lsE e a.toNatClampNeg)) r) μ' → Q (.int (coF e r a.toNatClampNeg b)) μ') : Call (d + 64) y_M_write [.ref 0, .int a, .int b] μ Q := by
  obtain ⟨n1, n2⟩ := nw_r hi hwf
  refine b_M_write_0 (M_isWordNumber_ok n1 ⟨_, rfl, b_z (fun c1 => hb (by omega)) (fun c1 => ?_)⟩)
  refine M_in_ok (A := b.toInt) (B := 0) (C := 23) (lI _) rfl rfl ⟨_, rfl, b_nz (fun c2 => ?_) (fun c2 => hb (by omega))⟩
  obtain ⟨w, hw, rfl, ew⟩ := nI_ex (x := a) c1.1
  refine M_takes_ok (fun s o1 o2 => ?_)
  have t1 : TxM tx s := hi.tx.fr o1 (by simp)
  refine M_writes_ok (hi.g o1.g t1) hwf (by omega) c2 (r := r) (fun j hj => by rw [o2 j hj]; exact hrow j hj) hok (fun s2 f2 t2 r2 => ⟨_, rfl, M_keeps_ok (fun s3 o3 o4 => ?_)⟩)
  have g := hg (by omega) s2 s3 (o1.g.trans f2.g) t2 o3
  rw [nI_c hw] at g
  exact g (fun j hj => by rw [o4 j hj]; exact r2 j hj)
def agesF (e : DE) : Nat → (Nat → Int32) → (Nat → Int32)
  | 0, r => r
  | n + 1, r => ageR e (agesF e n r)
theorem agesF_ok {e : DE} (hwf : wfE e) {r : Nat → Int32} (h : rowOk r) : ∀ n, rowOk (agesF e n r)
  | 0 => h
  | n + 1 => ageR_ok hwf (agesF_ok hwf h n)
theorem sum8_cg {f g : Nat → Int32} {n : Nat} (h : ∀ j, j < n → f j = g j) : sum8 f n = sum8 g n := by
  induction n with
  | zero => rfl
  | succ n ih => simp only [sum8]; rw [ih (fun j hj => h j (by omega)), h n (by omega)]
theorem M_pass_ok {d : Nat} {Q : QQ} {μ : Mem} {e : DE} {tx : Nat → Nat → List Int32} {t : Nat} {a : Int32} {r : Nat → Int32} (hi : isM e tx t μ) (hrow : rowM 4 r μ) (hb : ¬ (0 ≤ a.toInt ∧ a.toInt ≤ 24) → Q (.int (-2)) μ) (hg : 0 ≤ a.toInt ∧ a.toInt ≤ 24 → ∀ μ1 μ', Only [14] μ μ1 → Only [4] μ1 μ' → rowM 4 (agesF e a.toNatClampNeg r) μ' → Q (.int (sum8 (agesF e a.toNatClampNeg r) 8)) μ') : Call (d + 4) y_M_pass [.ref 0, .int a] μ Q := by
  refine b_M_pass_0 (M_in_ok (A := a.toInt) (B := 0) (C := 24) (lI _) rfl rfl ⟨_, rfl, b_nz (fun c => ?_) (fun c => hb c)⟩)
  obtain ⟨n, hn, rfl, en⟩ := nI_ex (x := a) c.1
  have g := hg c
  rw [nI_c hn] at g
  refine M_takes_ok (fun s o1 o2 => ?_)
  refine loopN (G := fun i s => AA (Call (d + 3)) y_M_pass Q 12 [.ref 0, .int (nI n), .int (nI i)] [] s) (P := fun i s => Only [14] μ s ∧ rowM 14 (agesF e i r) s) (N := n) ?_ ?_ 0 s (by omega) ⟨o1, fun j hj => by rw [o2 j hj]; exact hrow j hj⟩
  · intro s ⟨h1, h2⟩
    refine b_M_pass_12 ⟨fun _ => M_keeps_ok (fun s2 o3 o4 => M_rowSum_ok ⟨_, rfl, ?_⟩), fun z => absurd (Int32.le_refl _) z⟩
    refine Qi (g s s2 h1 o3 (fun j hj => by rw [o4 j hj]; exact h2 j hj)) (sum8_cg (fun j hj => ?_))
    rw [o3.i 14]
    exact h2 j hj
  · intro i s hin ⟨h1, h2⟩ ih
    have is1 : isM e tx t s := hi.g h1.g (hi.tx.fr h1 (by simp))
    refine b_M_pass_12 ⟨fun z => absurd (le32.mp z) (by rw [nI_i hn, nI_i (by omega)]; omega), fun _ => M_ages_ok (by exact is1.2.2.2.2.1) (fun s2 o3 o4 => ?_)⟩
    rw [nI_1]
    refine ih s2 ⟨h1.trans o3, fun j hj => ?_⟩
    rw [o4 j hj, is1.2.2.2.2.2.1, is1.2.2.2.2.2.2.1, h2 j hj]
    rfl
noncomputable def cheapF (e : DE) (r : Nat → Int32) (th h : Int32) : Nat → Int32 × Int32
  | 0 => (-1, 0)
  | w + 1 => @ite _ (thE e w = th ∧ ((cheapF e r th h w).1 = -1 ∨ ¬ (cheapF e r th h w).2 ≤ coF e r w h)) (Classical.propDecidable _) (nI w, coF e r w h) (cheapF e r th h w)
theorem cheap_y {e : DE} {r : Nat → Int32} {th h : Int32} {w : Nat} (h1 : thE e w = th) (h2 : (cheapF e r th h w).1 = -1 ∨ ¬ (cheapF e r th h w).2 ≤ coF e r w h) : cheapF e r th h (w + 1) = (nI w, coF e r w h) := if_pos ⟨h1, h2⟩
theorem cheap_n {e : DE} {r : Nat → Int32} {th h : Int32} {w : Nat} (h1 : ¬ (thE e w = th ∧ ((cheapF e r th h w).1 = -1 ∨ ¬ (cheapF e r th h w).2 ≤ coF e r w h))) : cheapF e r th h (w + 1) = cheapF e r th h w := if_neg h1
theorem M_cheapest_ok {d : Nat} {Q : QQ} {μ : Mem} {e : DE} {tx : Nat → Nat → List Int32} {t : Nat} {a b c : Int32} {r : Nat → Int32} (hi : isM e tx t μ) (hwf : wfE e) (hrow : rowM 4 r μ) (hok : rowOk r) (hb : ¬ (0 ≤ a.toInt ∧ a.toInt ≤ 3 ∧ 0 ≤ b.toInt ∧ b.toInt ≤ 23 ∧ 0 ≤ c.toInt ∧ c.toInt ≤ 1) → Q (.int (-2)) μ) (hg : 0 ≤ a.toInt ∧ a.toInt ≤ 3 ∧ 0 ≤ b.toInt ∧ b.toInt ≤ 23 ∧ 0 ≤ c.toInt ∧ c.toInt ≤ 1 → ∀ μ', frG μ μ' → TxM tx μ' → Q (.int (if (cheapF e r a b (nwE e)).1 = -1 then -1 else if c = 0 then (cheapF e r a b (nwE e)).1 else (cheapF e r a b (nwE e)).2)) μ') : Call (d + 65) y_M_cheapest [.ref 0, .int a, .int b, .int c] μ Q := by
  have h10 := hwf.1
  refine b_M_cheapest_0 (M_in_ok (A := a.toInt) (B := 0) (C := 3) (lI _) rfl rfl ⟨_, rfl, b_z (fun c1 => hb (by omega)) (fun c1 => ?_)⟩)
  refine M_in_ok (A := b.toInt) (B := 0) (C := 23) (lI _) rfl rfl ⟨_, rfl, b_z (fun c2 => hb (by omega)) (fun c2 => ?_)⟩
  refine M_in_ok (A := c.toInt) (B := 0) (C := 1) (lI _) rfl rfl ⟨_, rfl, b_nz (fun c3 => ?_) (fun c3 => hb (by omega))⟩
  have g := hg (by omega)
  refine M_takes_ok (fun s o1 o2 => ?_)
  refine loopN (G := fun w s => AA (Call (d + 64)) y_M_cheapest Q 28 [.ref 0, .int a, .int b, .int c, .int (cheapF e r a b w).1, .int (cheapF e r a b w).2, .int (nI w), un] [] s) (P := fun w s => frG μ s ∧ TxM tx s ∧ rowM 14 r s) (N := nwE e) ?_ ?_ 0 s (by omega) ⟨o1.g, hi.tx.fr o1 (by simp), fun j hj => by rw [o2 j hj]; exact hrow j hj⟩
  · intro s ⟨f1, t1, rm⟩
    have is1 := hi.g f1 t1
    have g := g s f1 t1
    refine b_M_cheapest_28 ⟨fun _ => ⟨fun z => ?_, fun z => ⟨fun z2 => ?_, fun z2 => ?_⟩⟩, fun z => absurd (by rw [is1.1]; exact Int32.le_refl _) z⟩
    · rw [if_pos z] at g; rw [z]; exact g
    · rw [if_neg z, if_neg z2] at g; exact g
    · rw [if_neg z, if_pos z2] at g; exact g
  · intro w s hw ⟨f1, t1, rm⟩ ih
    have is1 := hi.g f1 t1
    have cw : (nI w).toNatClampNeg = w := nI_c (by omega)
    refine b_M_cheapest_28 ⟨fun z => absurd (le32.mp z) (by rw [is1.1, nI_i (by omega), nI_i (by omega)]; omega), fun _ => ?_⟩
    rw [cw, (is1.2.1 w hw).1, nI_1]
    refine ⟨nI_v (by omega) (by omega), fun z => ?_, fun z => ?_⟩
    · have g := ih s ⟨f1, t1, rm⟩
      rw [cheap_n (fun x => z x.1)] at g
      exact g
    · refine M_costOf_ok is1 hwf hw c2 rm hok (fun s2 f2 t2 rm2 => ⟨_, rfl, ?_⟩)
      have g := ih s2 ⟨f1.trans f2.g, t2, rm2⟩
      refine ⟨fun z2 => ?_, fun z2 => ⟨fun z3 => ?_, fun z3 => ?_⟩⟩
      · rw [cheap_y z (Or.inl z2)] at g
        refine AA_weak ?_ g
        exact ⟨Or.inl rfl, Or.inl rfl, Or.inl rfl, Or.inl rfl, Or.inl rfl, Or.inl rfl, Or.inl rfl, Or.inr ⟨rfl, rfl⟩, trivial⟩
      · rw [cheap_n (fun x => x.2.elim z2 (fun y => y z3))] at g
        refine AA_weak ?_ g
        exact ⟨Or.inl rfl, Or.inl rfl, Or.inl rfl, Or.inl rfl, Or.inl rfl, Or.inl rfl, Or.inl rfl, Or.inr ⟨rfl, rfl⟩, trivial⟩
      · rw [cheap_y z (Or.inr z3)] at g
        refine AA_weak ?_ g
        exact ⟨Or.inl rfl, Or.inl rfl, Or.inl rfl, Or.inl rfl, Or.inl rfl, Or.inl rfl, Or.inl rfl, Or.inr ⟨rfl, rfl⟩, trivial⟩
theorem M_day_ok {d : Nat} {Q : QQ} {μ : Mem} {e : DE} {tx : Nat → Nat → List Int32} {t : Nat} {a b : Int32} {r : Nat → Int32} (hi : isM e tx t μ) (hwf : wfE e) (hrow : rowM 4 r μ) (hok : rowOk r) (hb : ¬ (0 ≤ a.toInt ∧ a.toInt < npE e ∧ 0 ≤ b.toInt ∧ b.toInt ≤ 2) → Q (.int (-100000)) μ) (hg : 0 ≤ a.toInt ∧ a.toInt < npE e ∧ 0 ≤ b.toInt ∧ b.toInt ≤ 2 → ∀ μ', frG μ μ' → TxM tx μ' → Q (.int (if b = 0 then (dE e r).2.2 a.toNatClampNeg else if b = 1 then (dE e r).2.1 a.toNatClampNeg else goodF e (dE e r) a.toNatClampNeg)) μ') : Call (d + 68) y_M_day [.ref 0, .int a, .int b] μ Q := by
  have h5 := hwf.2.2.1
  obtain ⟨n1, n2⟩ := np_r hi hwf
  refine b_M_day_0 (M_isWriter_ok n1 ⟨_, rfl, b_z (fun c1 => hb (by omega)) (fun c1 => ?_)⟩)
  refine M_in_ok (A := b.toInt) (B := 0) (C := 2) (lI _) rfl rfl ⟨_, rfl, b_nz (fun c2 => ?_) (fun c2 => hb (by omega))⟩
  have g := hg (by omega)
  obtain ⟨p, hp, rfl, ep⟩ := nI_ex (x := a) c1.1
  rw [nI_c hp] at g
  have hpn : p < npE e := by omega
  have vp : vp_in (nI p) 5 := nI_v (by omega) (by omega)
  refine M_dayNow_ok hi hwf hrow hok (fun s f1 t1 rm sp _ => ?_)
  have g := g s f1.g t1
  rw [nI_c hp]
  refine ⟨fun z => ⟨fun z2 => ?_, fun z2 => ⟨vp, ?_⟩⟩, fun z => ⟨vp, ?_⟩⟩
  · refine M_goodOf_ok (s := dE e r) (hi.g f1.g t1) hwf hpn (dayF_said 24) (sp p hpn).1 (sp p hpn).2 (fun s2 f2 t2 => ⟨_, rfl, ?_⟩)
    have g := hg (by omega) s2 (f1.g.trans f2.g) t2
    rw [if_neg z, if_neg z2, nI_c hp] at g
    exact g
  · rw [if_neg z, if_pos z2] at g
    rw [(sp p hpn).1]
    exact g
  · rw [if_pos z] at g
    rw [(sp p hpn).2]
    exact g
def mxF (r : Nat → Int32) : Nat → Int32
  | 0 => r 0
  | n + 1 => if r n ≤ mxF r n then mxF r n else r n
def mnF (r : Nat → Int32) : Nat → Int32
  | 0 => r 0
  | n + 1 => if mnF r n ≤ r n then mnF r n else r n
theorem M_all_ok {d : Nat} {Q : QQ} {μ : Mem} {e : DE} {tx : Nat → Nat → List Int32} {t : Nat} {a : Int32} {r : Nat → Int32} (hi : isM e tx t μ) (hwf : wfE e) (hrow : rowM 4 r μ) (hok : rowOk r) (hb : ¬ (0 ≤ a.toInt ∧ a.toInt ≤ 3) → Q (.int (-100000)) μ) (hg : 0 ≤ a.toInt ∧ a.toInt ≤ 3 → ∀ μ', frG μ μ' → TxM tx μ' → Q (.int (if a.toInt = 0 then gdA e r else if a.toInt = 1 then sayF (dE e r) (npE e) else if a.toInt = 2 then mxF (dE e r).1 8 - mnF (dE e r).1 8 else sum8 (dE e r).2.2 (npE e))) μ') : Call (d + 68) y_M_all [.ref 0, .int a] μ Q := by
  have h5 := hwf.2.2.1
  refine b_M_all_0 (M_in_ok (A := a.toInt) (B := 0) (C := 3) (lI _) rfl rfl ⟨_, rfl, b_nz (fun c1 => ?_) (fun c1 => hb c1)⟩)
  refine M_dayNow_ok hi hwf hrow hok (fun s f1 t1 rm sp _ => ?_)
  have is1 := hi.g f1.g t1
  have e2 : (2 : Int32).toInt = 2 := rfl
  have e3 : (3 : Int32).toInt = 3 := rfl
  have e0 : (0 : Int32).toInt = 0 := rfl
  refine ⟨fun z => ⟨fun z2 => ⟨vin_of (by decide) (by decide), vin_of (by decide) (by decide), ?_⟩, fun z2 => ?_⟩, fun z => ⟨fun z2 => ?_, fun z2 => ?_⟩⟩
  · have z := le32.mp z
    have z2 : ¬ a.toInt = 3 := fun q => z2 (eq32.mpr q)
    have g := hg c1 s f1.g t1
    rw [if_neg (by omega), if_neg (by omega), if_pos (by omega)] at g
    have e0' : s.1 14 (Int32.toNatClampNeg 0) = (dE e r).1 0 := rm 0 (by omega)
    rw [e0']
    have q := loopN (G := fun i v => AA (Call (d + 67)) y_M_all Q 55 [.ref 0, .int a, .int (mxF (dE e r).1 i), .int (mnF (dE e r).1 i), .int (nI i)] [] s) (P := fun i (v : Unit) => True) (N := 8) ?_ ?_ 1 () (by omega) trivial
    · have q1 : mxF (dE e r).1 1 = (dE e r).1 0 := by show (if _ then _ else _) = _; split <;> rfl
      have q2 : mnF (dE e r).1 1 = (dE e r).1 0 := by show (if _ then _ else _) = _; split <;> rfl
      rw [q1, q2] at q
      exact q
    · intro v _
      exact b_M_all_55 ⟨fun _ => g, fun c => absurd (by decide) c⟩
    · intro i v hi8 _ ih
      have ih := ih () trivial
      refine b_M_all_55 ⟨fun c => absurd (le32.mp c) (by rw [nI_i (by omega)]; show ¬ (8 : Int) ≤ _; omega), fun _ => ⟨nI_v hi8 (by omega), ?_⟩⟩
      rw [nI_c (by omega), nI_1, rm i hi8]
      have vi : vp_in (nI i) 8 := nI_v hi8 (by omega)
      simp only [mxF, mnF] at ih
      refine ⟨fun y => ⟨vi, fun y2 => ?_, fun y2 => ⟨vi, ?_⟩⟩, fun y => ⟨vi, vi, fun y2 => ?_, fun y2 => ⟨vi, ?_⟩⟩⟩
      · rw [if_pos (show (dE e r).1 i ≤ mxF (dE e r).1 i from y), if_pos (show mnF (dE e r).1 i ≤ (dE e r).1 i from y2)] at ih; exact ih
      · rw [if_pos (show (dE e r).1 i ≤ mxF (dE e r).1 i from y), if_neg (show ¬ mnF (dE e r).1 i ≤ (dE e r).1 i from y2)] at ih; exact ih
      · rw [if_neg (show ¬ (dE e r).1 i ≤ mxF (dE e r).1 i from y), if_pos (show mnF (dE e r).1 i ≤ (dE e r).1 i from y2)] at ih; exact ih
      · rw [if_neg (show ¬ (dE e r).1 i ≤ mxF (dE e r).1 i from y), if_neg (show ¬ mnF (dE e r).1 i ≤ (dE e r).1 i from y2)] at ih; exact ih
  · have z2 : a.toInt = 3 := by rw [z2]; rfl
    have g := hg c1 s f1.g t1
    rw [if_neg (by omega), if_neg (by omega), if_neg (by omega)] at g
    refine loopN (G := fun i v => AA (Call (d + 67)) y_M_all Q 28 [.ref 0, .int a, .int v, .int (nI i), un] [] s) (P := fun i v => v = sum8 (dE e r).2.2 i) (N := npE e) ?_ ?_ 0 0 (by omega) rfl
    · intro v hv
      rw [hv]
      exact b_M_all_28 ⟨fun _ => g, fun z => absurd (by rw [is1.2.2.1]; exact Int32.le_refl _) z⟩
    · intro i v hin hv ih
      refine b_M_all_28 ⟨fun z => absurd (le32.mp z) (by rw [is1.2.2.1, nI_i (by omega), nI_i (by omega)]; omega), fun _ => ⟨nI_v (by omega) (by omega), ?_⟩⟩
      rw [nI_c (by omega), nI_1, (sp i hin).2]
      exact ih _ (by rw [hv]; rfl)
  · have z : ¬ 2 ≤ a.toInt := fun q => z (le32.mpr q)
    have z2 : ¬ a.toInt = 0 := fun q => z2 (eq32.mpr q)
    have g := hg c1 s f1.g t1
    rw [if_neg (by omega), if_pos (by omega)] at g
    exact M_saying_ok h5 is1.2.2.1 (fun p hp => (sp p hp).1) ⟨_, rfl, g⟩
  · have z2 : a.toInt = 0 := by rw [z2]; rfl
    refine M_allGood_ok (s := dE e r) is1 hwf (dayF_said 24) sp (fun s2 f2 t2 => ⟨_, rfl, ?_⟩)
    have g := hg c1 s2 (f1.g.trans f2.g) t2
    rw [if_pos z2] at g
    exact g
