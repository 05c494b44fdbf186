/-! ===== a day in the reference ===== -/
theorem M_costOf_ok {d : Nat} {Q : QQ} {μ : Mem} {e : DE} {tx : Nat → Nat → List Int32} {t w : Nat} {h : Int32} {r : Nat → Int32} (hi : isM e tx t μ) (hwf : wfE e) (hw : w < nwE e) (hh : rng h 0 23) (hrow : rowM 14 r μ) (hok : rowOk r) (hQ : ∀ μ', frA [14, 15] μ μ' → TxM tx μ' → rowM 14 r μ' → Q (.int (coF e r w h)) μ') : Call (d + 64) y_M_costOf [.ref 0, .int (nI w), .int h] μ Q := by
  refine b_M_costOf_0 ?_
  refine loopN (G := fun i s => AA (Call (d + 63)) y_M_costOf Q 2 [.ref 0, .int (nI w), .int h, .int (nI i), un] [] s) (P := fun i s => Only [15] μ s ∧ ∀ j, j < i → s.1 15 j = r j) (N := 8) ?_ ?_ 0 μ (by omega) ⟨Only.rf, fun j hj => absurd hj (by omega)⟩
  · intro s ⟨h1, h2⟩
    refine b_M_costOf_2 ⟨fun _ => ?_, fun c => absurd (by decide) c⟩
    have f1 : frA [14, 15] μ s := ⟨h1.mono (by simp), fun k _ => by rw [h1.i 0]⟩
    have t1 : TxM tx s := (hi.2.2.2.2.2.2.2.2.1).fr h1 (by simp)
    have rm : rowM 14 r s := fun j hj => by rw [h1.i 14]; exact hrow j hj
    refine M_writes_ok (hi.fr f1 (by simp) t1) hwf hw hh rm hok (fun s2 f2 t2 rm2 => ⟨_, rfl, ?_⟩)
    have h15 : ∀ j, j < 8 → s2.1 15 j = r j := fun j hj => by rw [f2.i 15]; exact h2 j hj
    refine loopN (G := fun i s => AA (Call (d + 63)) y_M_costOf Q 22 [.ref 0, .int (nI w), .int h, .int (coF e r w h), .int (nI i)] [] s) (P := fun i s => Only [14] s2 s ∧ ∀ j, j < i → s.1 14 j = r j) (N := 8) ?_ ?_ 0 s2 (by omega) ⟨Only.rf, fun j hj => absurd hj (by omega)⟩
    · intro s3 ⟨h3, h4⟩
      refine b_M_costOf_22 ⟨fun _ => hQ s3 ?_ (t2.fr h3 (by simp)) h4, fun c => absurd (by decide) c⟩
      exact (f1.trans (f2.mono (by simp))).trans ⟨h3.mono (by simp), fun k _ => by rw [h3.i 0]⟩
    · intro i s3 hi ⟨h3, h4⟩ ih
      have e8 := nI_i (n := i) (by omega)
      refine b_M_costOf_22 ⟨fun c => absurd (le32.mp c) (by rw [e8]; show ¬ (8 : Int) ≤ _; omega), fun _ => ⟨nI_v hi (by omega), nI_v hi (by omega), fun μ1 e1 => ?_⟩⟩
      rw [nI_1]
      rw [nI_c (by omega), h3.i 15, h15 i hi] at e1
      subst e1
      refine ih _ ⟨h3.trans Only.w, fun j hj => ?_⟩
      rw [wI_s]
      by_cases q : j = i
      · rw [q, upd_s]
      · rw [upd_n q]
        exact h4 j (by omega)
  · intro i s hi ⟨h1, h2⟩ ih
    have e8 := nI_i (n := i) (by omega)
    refine b_M_costOf_2 ⟨fun c => absurd (le32.mp c) (by rw [e8]; show ¬ (8 : Int) ≤ _; omega), fun _ => ⟨nI_v hi (by omega), nI_v hi (by omega), fun μ1 e1 => ?_⟩⟩
    rw [nI_1]
    rw [nI_c (by omega), h1.i 14, hrow i hi] at e1
    subst e1
    refine ih _ ⟨h1.trans Only.w, fun j hj => ?_⟩
    rw [wI_s]
    by_cases q : j = i
    · rw [q, upd_s]
    · rw [upd_n q]
      exact h2 j (by omega)
def mayF (e : DE) (p w : Nat) : Prop := ¬ evF (cE e 2) (envF 0 (hoE e p) 0 (sizeF (lsE e w)) (puE e p) (nI (npE e))) = 0
noncomputable def pickF (e : DE) (r : Nat → Int32) (p : Nat) : Nat → Int32 × Int32
  | 0 => (-1, 0)
  | w + 1 => @ite _ (thE e w = waE e p ∧ coF e r w (hoE e p) ≤ puE e p ∧ ((pickF e r p w).1 = -1 ∨ ¬ (pickF e r p w).2 ≤ coF e r w (hoE e p)) ∧ mayF e p w) (Classical.propDecidable _) (nI w, coF e r w (hoE e p)) (pickF e r p w)
noncomputable def bitF (e : DE) (r : Nat → Int32) (p : Nat) (sum b0 : Int32) : Nat → Int32
  | 0 => b0
  | w + 1 => @ite _ (thE e w = waE e p ∧ coF e r w (hoE e p) = sum) (Classical.propDecidable _) (bitF e r p sum b0 w ||| (1 <<< (nI w &&& 31))) (bitF e r p sum b0 w)
theorem pick_y {e : DE} {r : Nat → Int32} {p w : Nat} (h1 : thE e w = waE e p) (h2 : coF e r w (hoE e p) ≤ puE e p) (h3 : (pickF e r p w).1 = -1 ∨ ¬ (pickF e r p w).2 ≤ coF e r w (hoE e p)) (h4 : mayF e p w) : pickF e r p (w + 1) = (nI w, coF e r w (hoE e p)) := if_pos ⟨h1, h2, h3, h4⟩
theorem pick_n {e : DE} {r : Nat → Int32} {p w : Nat} (h : ¬ (thE e w = waE e p ∧ coF e r w (hoE e p) ≤ puE e p ∧ ((pickF e r p w).1 = -1 ∨ ¬ (pickF e r p w).2 ≤ coF e r w (hoE e p)) ∧ mayF e p w)) : pickF e r p (w + 1) = pickF e r p w := if_neg h
theorem bit_y {e : DE} {r : Nat → Int32} {p w : Nat} {s b : Int32} (h1 : thE e w = waE e p) (h2 : coF e r w (hoE e p) = s) : bitF e r p s b (w + 1) = bitF e r p s b w ||| (1 <<< (nI w &&& 31)) := if_pos ⟨h1, h2⟩
theorem bit_n {e : DE} {r : Nat → Int32} {p w : Nat} {s b : Int32} (h : ¬ (thE e w = waE e p ∧ coF e r w (hoE e p) = s)) : bitF e r p s b (w + 1) = bitF e r p s b w := if_neg h
theorem pick_lt {e : DE} {r : Nat → Int32} {p : Nat} : ∀ n, (pickF e r p n).1 = -1 ∧ (pickF e r p n).2 = 0 ∨ ∃ w, w < n ∧ (pickF e r p n).1 = nI w ∧ (pickF e r p n).2 = coF e r w (hoE e p) ∧ (pickF e r p n).2 ≤ puE e p
  | 0 => Or.inl ⟨rfl, rfl⟩
  | n + 1 => by
    by_cases h : thE e n = waE e p ∧ coF e r n (hoE e p) ≤ puE e p ∧ ((pickF e r p n).1 = -1 ∨ ¬ (pickF e r p n).2 ≤ coF e r n (hoE e p)) ∧ mayF e p n
    · rw [pick_y h.1 h.2.1 h.2.2.1 h.2.2.2]
      exact Or.inr ⟨n, by omega, rfl, rfl, h.2.1⟩
    · rw [pick_n h]
      rcases pick_lt (e := e) (r := r) (p := p) n with q | ⟨w, q1, q2⟩
      · exact Or.inl q
      · exact Or.inr ⟨w, by omega, q2⟩
theorem nI_ne {w : Nat} (h : w < 2147483648) : ¬ nI w = -1 := by
  intro z
  have z2 := congrArg Int32.toInt z
  rw [nI_i h] at z2
  have : (-1 : Int32).toInt = -1 := rfl
  omega
/-- as frA, but for what is asked of a turn -/
def frT (ks : List Nat) (μ μ' : Mem) : Prop := Only (0 :: 12 :: 13 :: ks) μ μ' ∧ ∀ k, k < 19 ∨ 33 < k ∧ k ≠ 42 → μ'.1 0 k = μ.1 0 k
theorem frA.t {ks : List Nat} {a b : Mem} (h : frA ks a b) : frT ks a b := ⟨h.1, fun k hk => h.2 k (by omega)⟩
theorem frT.rf {ks : List Nat} {μ : Mem} : frT ks μ μ := ⟨Only.rf, fun _ _ => rfl⟩
theorem frT.trans {ks : List Nat} {a b c : Mem} (h1 : frT ks a b) (h2 : frT ks b c) : frT ks a c := ⟨h1.1.trans h2.1, fun k hk => (h2.2 k hk).trans (h1.2 k hk)⟩
theorem frT.i {ks : List Nat} {a b : Mem} (h : frT ks a b) (k : Nat) (hk : k ∉ 0 :: 12 :: 13 :: ks := by decide) : b.1 k = a.1 k := h.1.i k hk
theorem isM.ft {e : DE} {tx : Nat → Nat → List Int32} {t : Nat} {μ μ' : Mem} {ks : List Nat} (h : isM e tx t μ) (f : frT ks μ μ') (hk : ∀ k ∈ ks, 14 ≤ k) (hT : TxM tx μ') : isM e tx t μ' := h.cg (fun k q => f.2 k (Or.inl q)) (fun k q1 q2 => f.1.i k (by simp; exact ⟨by omega, by omega, by omega, fun z => absurd (hk k z) (by omega)⟩)) hT
theorem M_says_e {d : Nat} {Q : QQ} {μ : Mem} {e : DE} {tx : Nat → Nat → List Int32} {t a p w : Nat} (hi : isM e tx t μ) (hwf : wfE e) (ha : a < 3) (hp : p < npE e) (hw : w < nwE e) (hQ : ∀ μ', frA [] μ μ' → TxM tx μ' → Q (.int (evF (cE e a) (envF 0 (hoE e p) 0 (sizeF (lsE e w)) (puE e p) (nI (npE e))))) μ') : Call (d + 62) y_M_says [.ref 0, .int (nI a), .int (nI p), .int (nI w)] μ Q := by
  obtain ⟨w1, w2, w3, w4, w5, w6⟩ := hwf
  obtain ⟨v1, v2, v3⟩ := w2 w hw
  obtain ⟨⟨a1, a2⟩, a3, a4⟩ := w4 p hp
  obtain ⟨h1, h2, h3, h4, h5, h6, h7, h8, h9, h10⟩ := hi
  obtain ⟨nh, b1, b2, b3⟩ := nI_ex (x := hoE e p) a1
  obtain ⟨nu, c1, c2, c3⟩ := nI_ex (x := puE e p) a3
  have hl : (digs (lsE e w).toInt.toNat).length ≤ 6 := digs_le 6 _ (by omega)
  refine M_says_ok (z := (digs (lsE e w).toInt.toNat).length) (h := nh) (pu := nu) h8 h9 ha (by omega) (by omega) (h2 w hw).2 (by omega) rfl (by omega) (by omega) (by rw [(h4 p hp).2.1, b2]) (by omega) (by rw [(h4 p hp).2.2, c2]) (by omega) h3 (fun μ' f1 t1 => Qi (hQ μ' f1 t1) ?_)
  rw [h10, ← b2, ← c2]
theorem M_turnOf_ok {d : Nat} {Q : QQ} {μ : Mem} {e : DE} {tx : Nat → Nat → List Int32} {t p : Nat} {r : Nat → Int32} (hi : isM e tx t μ) (hwf : wfE e) (hp : p < npE e) (hrow : rowM 14 r μ) (hok : rowOk r) (hQ : ∀ μ', frT [14, 15, 16, 17] μ μ' → TxM tx μ' → rowM 14 (if (pickF e r p (nwE e)).1 = -1 then r else spF (letsF (lsE e (pickF e r p (nwE e)).1.toNatClampNeg)) r) μ' → μ'.1 16 p = (pickF e r p (nwE e)).1 → μ'.1 17 p = (pickF e r p (nwE e)).2 → (∀ j, j ≠ p → μ'.1 16 j = μ.1 16 j ∧ μ'.1 17 j = μ.1 17 j) → (nI p = μ.1 0 40 → μ'.1 0 42 = bitF e r p (μ.1 0 41) (μ.1 0 42) (nwE e)) → (¬ nI p = μ.1 0 40 → μ'.1 0 42 = μ.1 0 42) → Q .null μ') : Call (d + 65) y_M_turnOf [.ref 0, .int (nI p)] μ Q := by
  have hwf' := hwf
  obtain ⟨w1, w2, w3, w4, w5, w6⟩ := hwf'
  obtain ⟨⟨a1, a2⟩, a3, a4⟩ := w4 p hp
  have cp : (nI p).toNatClampNeg = p := nI_c (by omega)
  have vp : vp_in (nI p) 5 := nI_v (by omega) (by omega)
  refine b_M_turnOf_0 ⟨vp, fun μ1 e1 => ⟨vp, fun μ2 e2 => ?_⟩⟩
  rw [cp] at e1 e2
  refine loopN (G := fun w s => AA (Call (d + 64)) y_M_turnOf Q 12 [.ref 0, .int (nI p), .int (nI w), un] [] s) (P := fun w s => frT [14, 15, 16, 17] μ s ∧ TxM tx s ∧ rowM 14 r s ∧ s.1 16 p = (pickF e r p w).1 ∧ s.1 17 p = (pickF e r p w).2 ∧ (∀ j, j ≠ p → s.1 16 j = μ.1 16 j ∧ s.1 17 j = μ.1 17 j) ∧ (nI p = μ.1 0 40 → s.1 0 42 = bitF e r p (μ.1 0 41) (μ.1 0 42) w) ∧ (¬ nI p = μ.1 0 40 → s.1 0 42 = μ.1 0 42)) (N := nwE e) ?_ ?_ 0 μ2 (by omega) ?_
  · intro s ⟨f1, t1, rm, s16, s17, so, sb, sn⟩
    have is1 := hi.ft f1 (by simp) t1
    refine b_M_turnOf_12 ⟨fun _ => ⟨vp, ?_⟩, fun z => absurd (by rw [is1.1]; exact Int32.le_refl _) z⟩
    rw [cp, s16]
    rcases pick_lt (e := e) (r := r) (p := p) (nwE e) with ⟨q, _⟩ | ⟨w, q1, q2, q3⟩
    · refine ⟨fun _ => hQ s f1 t1 ?_ s16 s17 so sb sn, fun z => absurd q z⟩
      rw [if_pos q]; exact rm
    · have hne : ¬ (pickF e r p (nwE e)).1 = -1 := by rw [q2]; exact nI_ne (by omega)
      refine ⟨fun z => absurd z hne, fun _ => ⟨vp, vp, ?_⟩⟩
      rw [q2, (is1.2.2.2.1 p hp).2.1]
      refine M_writes_ok is1 hwf q1 ⟨a1, a2⟩ rm hok (fun s2 f2 t2 rm2 => ⟨_, rfl, hQ s2 ?_ t2 ?_ ?_ ?_ ?_ ?_ ?_⟩)
      · exact f1.trans (f2.mono (by simp)).t
      · rw [if_neg hne, q2, nI_c (by omega)]; exact rm2
      · rw [f2.i 16]; exact s16
      · rw [f2.i 17]; exact s17
      · rw [f2.i 16, f2.i 17]; exact so
      · rw [f2.2 42 (by omega)]; exact sb
      · rw [f2.2 42 (by omega)]; exact sn
  · intro w s hw ⟨f1, t1, rm, s16, s17, so, sb, sn⟩ ih
    have is1 := hi.ft f1 (by simp) t1
    have cw : (nI w).toNatClampNeg = w := nI_c (by omega)
    have ew := nI_i (n := w) (by omega)
    refine b_M_turnOf_12 ⟨fun z => absurd (le32.mp z) (by rw [is1.1, nI_i (by omega), ew]; omega), fun _ => ⟨nI_v (by omega) (by omega), vp, ?_⟩⟩
    rw [cp, cw, nI_1, (is1.2.1 w hw).1, (is1.2.2.2.1 p hp).1, (is1.2.2.2.1 p hp).2.1]
    refine ⟨fun z => ih s ⟨f1, t1, rm, ?_, ?_, so, ?_, sn⟩, fun z => ⟨vp, ?_⟩⟩
    · rw [pick_n (fun y => z y.1)]; exact s16
    · rw [pick_n (fun y => z y.1)]; exact s17
    · rw [bit_n (fun y => z y.1)]; exact sb
    refine M_costOf_ok is1 hwf hw ⟨a1, a2⟩ rm hok (fun s3 f3 t3 rm3 => ⟨_, rfl, ?_⟩)
    have nxt : ∀ s' : Mem, frT [14, 15, 16, 17] μ s' → TxM tx s' → rowM 14 r s' → s'.1 16 p = (pickF e r p (w + 1)).1 → s'.1 17 p = (pickF e r p (w + 1)).2 → (∀ j, j ≠ p → s'.1 16 j = μ.1 16 j ∧ s'.1 17 j = μ.1 17 j) → (nI p = μ.1 0 40 → s'.1 0 42 = bitF e r p (μ.1 0 41) (μ.1 0 42) (w + 1)) → (¬ nI p = μ.1 0 40 → s'.1 0 42 = μ.1 0 42) → AA (Call (d + 64)) y_M_turnOf Q 12 [.ref 0, .int (nI p), .int (nI (w + 1)), .int (coF e r w (hoE e p))] [] s' := by
      intro s' g1 g2 g3 g4 g5 g6 g7 g8
      refine AA_weak (lv := [.ref 0, .int (nI p), .int (nI (w + 1)), un]) ⟨Or.inl rfl, Or.inl rfl, Or.inl rfl, Or.inr ⟨rfl, rfl⟩, trivial⟩ (ih s' ⟨g1, g2, g3, g4, g5, g6, g7, g8⟩)
    have tail : ∀ s3 : Mem, frT [14, 15, 16, 17] μ s3 → TxM tx s3 → rowM 14 r s3 → s3.1 16 p = (pickF e r p w).1 → s3.1 17 p = (pickF e r p w).2 → (∀ j, j ≠ p → s3.1 16 j = μ.1 16 j ∧ s3.1 17 j = μ.1 17 j) → (nI p = μ.1 0 40 → s3.1 0 42 = bitF e r p (μ.1 0 41) (μ.1 0 42) (w + 1)) → (¬ nI p = μ.1 0 40 → s3.1 0 42 = μ.1 0 42) →
        (vp_in (nI p) 5 ∧ ((s3.1 9 p < coF e r w (hoE e p) → AA (Call (d + 64)) y_M_turnOf Q 12 [.ref 0, .int (nI p), .int (nI (w + 1)), .int (coF e r w (hoE e p))] [] s3) ∧
        (¬ s3.1 9 p < coF e r w (hoE e p) → (vp_in (nI p) 5 ∧ ((s3.1 16 p = (-1) → Call (d + 64) y_M_says [.ref 0, .int 2, .int (nI p), .int (nI w)] s3 (fun ρ μ5 => ∃ r6 : Int32, ρ = .int r6 ∧ ((r6 = 0 → AA (Call (d + 64)) y_M_turnOf Q 12 [.ref 0, .int (nI p), .int (nI (w + 1)), .int (coF e r w (hoE e p))] [] μ5) ∧
          (¬ r6 = 0 → (vp_in (nI p) 5 ∧ ∀ μ7 : Mem, μ7 = wI μ5 16 (upd (μ5.1 16) p (nI w)) → (vp_in (nI p) 5 ∧ ∀ μ8 : Mem, μ8 = wI μ7 17 (upd (μ7.1 17) p (coF e r w (hoE e p))) → AA (Call (d + 64)) y_M_turnOf Q 12 [.ref 0, .int (nI p), .int (nI (w + 1)), .int (coF e r w (hoE e p))] [] μ8)))))) ∧
        (¬ s3.1 16 p = (-1) → (vp_in (nI p) 5 ∧ ((s3.1 17 p ≤ coF e r w (hoE e p) → AA (Call (d + 64)) y_M_turnOf Q 12 [.ref 0, .int (nI p), .int (nI (w + 1)), .int (coF e r w (hoE e p))] [] s3) ∧
        (¬ s3.1 17 p ≤ coF e r w (hoE e p) → Call (d + 64) y_M_says [.ref 0, .int 2, .int (nI p), .int (nI w)] s3 (fun ρ μ5 => ∃ r6 : Int32, ρ = .int r6 ∧ ((r6 = 0 → AA (Call (d + 64)) y_M_turnOf Q 12 [.ref 0, .int (nI p), .int (nI (w + 1)), .int (coF e r w (hoE e p))] [] μ5) ∧
          (¬ r6 = 0 → (vp_in (nI p) 5 ∧ ∀ μ7 : Mem, μ7 = wI μ5 16 (upd (μ5.1 16) p (nI w)) → (vp_in (nI p) 5 ∧ ∀ μ8 : Mem, μ8 = wI μ7 17 (upd (μ7.1 17) p (coF e r w (hoE e p))) → AA (Call (d + 64)) y_M_turnOf Q 12 [.ref 0, .int (nI p), .int (nI (w + 1)), .int (coF e r w (hoE e p))] [] μ8)))))))))))))) := by
      intro s3 g1 g2 g3 g4 g5 g6 g7 g8
      have is3 := hi.ft g1 (by simp) g2
      have skip : (¬ (thE e w = waE e p ∧ coF e r w (hoE e p) ≤ puE e p ∧ ((pickF e r p w).1 = -1 ∨ ¬ (pickF e r p w).2 ≤ coF e r w (hoE e p)) ∧ mayF e p w)) → ∀ s4, frA [14, 15] s3 s4 → TxM tx s4 → rowM 14 r s4 → AA (Call (d + 64)) y_M_turnOf Q 12 [.ref 0, .int (nI p), .int (nI (w + 1)), .int (coF e r w (hoE e p))] [] s4 := by
        intro hno s4 f4 t4 r4
        refine nxt s4 (g1.trans (f4.mono (by simp)).t) t4 r4 ?_ ?_ ?_ ?_ ?_
        · rw [pick_n hno, f4.i 16]; exact g4
        · rw [pick_n hno, f4.i 17]; exact g5
        · rw [f4.i 16, f4.i 17]; exact g6
        · rw [f4.2 42 (by omega)]; exact g7
        · rw [f4.2 42 (by omega)]; exact g8
      have ask : coF e r w (hoE e p) ≤ puE e p → ((pickF e r p w).1 = -1 ∨ ¬ (pickF e r p w).2 ≤ coF e r w (hoE e p)) → Call (d + 64) y_M_says [.ref 0, .int 2, .int (nI p), .int (nI w)] s3 (fun ρ μ5 => ∃ r6 : Int32, ρ = .int r6 ∧ ((r6 = 0 → AA (Call (d + 64)) y_M_turnOf Q 12 [.ref 0, .int (nI p), .int (nI (w + 1)), .int (coF e r w (hoE e p))] [] μ5) ∧
          (¬ r6 = 0 → (vp_in (nI p) 5 ∧ ∀ μ7 : Mem, μ7 = wI μ5 16 (upd (μ5.1 16) p (nI w)) → (vp_in (nI p) 5 ∧ ∀ μ8 : Mem, μ8 = wI μ7 17 (upd (μ7.1 17) p (coF e r w (hoE e p))) → AA (Call (d + 64)) y_M_turnOf Q 12 [.ref 0, .int (nI p), .int (nI (w + 1)), .int (coF e r w (hoE e p))] [] μ8))))) := by
        intro y1 y2
        refine M_says_e (a := 2) is3 hwf (by omega) hp hw (fun s4 f4 t4 => ⟨_, rfl, fun z4 => ?_, fun z4 => ⟨vp, fun μ7 e7 => ⟨vp, fun μ8 e8 => ?_⟩⟩⟩)
        · exact skip (fun y => y.2.2.2 z4) s4 (f4.mono (by simp)) t4 (fun j hj => by rw [f4.i 14]; exact g3 j hj)
        · have fw : frA [14, 15, 16, 17] s4 μ8 := by rw [e8, e7]; exact (frA.w).trans frA.w
          refine nxt μ8 ((g1.trans (f4.mono (by simp)).t).trans fw.t) (t4.fr (ks := [16, 17]) (by rw [e8, e7]; exact (Only.w).trans Only.w) (by simp)) (fun j hj => ?_) ?_ ?_ ?_ ?_ ?_
          · rw [e8, wI_n (by decide), e7, wI_n (by decide), f4.i 14]; exact g3 j hj
          · rw [pick_y z y1 y2 z4, e8, wI_n (by decide), e7, wI_s, upd_s]
          · rw [pick_y z y1 y2 z4, e8, wI_s, upd_s]
          · intro j hj
            rw [e8, wI_s, upd_n hj, wI_n (by decide), e7, wI_s, upd_n hj, wI_n (by decide), f4.i 16, f4.i 17]
            exact g6 j hj
          · rw [fw.2 42 (by omega), f4.2 42 (by omega)]; exact g7
          · rw [fw.2 42 (by omega), f4.2 42 (by omega)]; exact g8
      rw [(is3.2.2.2.1 p hp).2.2, g4, g5]
      refine ⟨vp, fun y => skip (fun x => ?_) s3 frA.rf g2 g3, fun y => ⟨vp, fun y2 => ask ?_ (Or.inl y2), fun y2 => ⟨vp, fun y3 => skip (fun x => ?_) s3 frA.rf g2 g3, fun y3 => ask ?_ (Or.inr y3)⟩⟩⟩
      · have x1 := le32.mp x.2.1
        have x2 := lt32.mp y
        omega
      · exact le32.mpr (Int.not_lt.mp (fun q => y (lt32.mpr q)))
      · rcases x.2.2.1 with x1 | x1
        · exact y2 x1
        · exact x1 y3
      · exact le32.mpr (Int.not_lt.mp (fun q => y (lt32.mpr q)))
    have f13 : frT [14, 15, 16, 17] μ s3 := f1.trans (f3.mono (by simp)).t
    have k40 : s3.1 0 40 = μ.1 0 40 := f13.2 40 (by omega)
    have k41 : s3.1 0 41 = μ.1 0 41 := f13.2 41 (by omega)
    have k42 : s3.1 0 42 = s.1 0 42 := f3.2 42 (by omega)
    have b16 : s3.1 16 p = (pickF e r p w).1 := by rw [f3.i 16]; exact s16
    have b17 : s3.1 17 p = (pickF e r p w).2 := by rw [f3.i 17]; exact s17
    have bo : ∀ j, j ≠ p → s3.1 16 j = μ.1 16 j ∧ s3.1 17 j = μ.1 17 j := by rw [f3.i 16, f3.i 17]; exact so
    rw [k40, k41]
    refine ⟨fun z1 => ?_, fun z1 => ⟨fun z2 => ?_, fun z2 μ21 e21 => ?_⟩⟩
    · exact tail s3 f13 t3 rm3 b16 b17 bo (fun y => absurd y z1) (fun _ => by rw [k42]; exact sn z1)
    · exact tail s3 f13 t3 rm3 b16 b17 bo (fun y => by rw [k42, bit_n (fun x => z2 x.2)]; exact sb y) (fun y => absurd z1 y)
    · have fw : frT [14, 15, 16, 17] s3 μ21 := ⟨by rw [e21]; exact Only.w (by simp), fun k hk => by rw [e21, wI_s, upd_n (by omega)]⟩
      have o21 : ∀ k, k ≠ 0 → μ21.1 k = s3.1 k ∧ μ21.2 k = s3.2 k := by intro k hk; rw [e21]; exact ⟨wI_n hk, rfl⟩
      refine tail μ21 (f13.trans fw) (t3.cong (fw.2 3 (by omega)) (o21 1 (by decide)).1 (o21 2 (by decide)).1 (o21 13 (by decide)).1 (o21 12 (by decide)).2) (fun j hj => by rw [(o21 14 (by decide)).1]; exact rm3 j hj) (by rw [(o21 16 (by decide)).1]; exact b16) (by rw [(o21 17 (by decide)).1]; exact b17) (by rw [(o21 16 (by decide)).1, (o21 17 (by decide)).1]; exact bo) (fun y => ?_) (fun y => absurd z1 y)
      rw [bit_y z z2, e21, wI_s, upd_s, k42, sb y]
  · have fw : frA [14, 15, 16, 17] μ μ2 := by rw [e2, e1]; exact (frA.w).trans frA.w
    refine ⟨fw.t, (hi.2.2.2.2.2.2.2.2.1).fr (ks := [16, 17]) (by rw [e2, e1]; exact (Only.w).trans Only.w) (by simp), fun j hj => ?_, ?_, ?_, ?_, ?_, ?_⟩
    · rw [e2, wI_n (by decide), e1, wI_n (by decide)]; exact hrow j hj
    · rw [e2, wI_n (by decide), e1, wI_s, upd_s]; rfl
    · rw [e2, wI_s, upd_s]; rfl
    · intro j hj
      rw [e2, wI_s, upd_n hj, wI_n (by decide), e1, wI_s, upd_n hj, wI_n (by decide)]
      exact ⟨rfl, rfl⟩
    · intro _; rw [fw.2 42 (by omega)]; rfl
    · intro _; rw [fw.2 42 (by omega)]
