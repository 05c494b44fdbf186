/-! ===== the reference: orders of hours ===== -/
theorem Only.we {μ μ' : Mem} {k : Nat} {g : Nat → Int32} {ks : List Nat} (e : μ' = wI μ k g) (h : k ∈ ks := by decide) : Only ks μ μ' := by rw [e]; exact Only.w h
def loopG {σ : Type} (f : Nat → σ → σ) : Nat → σ → σ
  | 0, s => s
  | k + 1, s => f k (loopG f k s)
def setP (e : DE) (π : List Nat) : DE := setH e (fun j => hoE e (π.getD j j))
def digI (π : List Nat) : Int32 := π.foldl (fun a k => 10 * a + nI k) 0
def mkI (π : List Nat) : Int32 := π.foldl (fun a k => a ||| (1 <<< (nI k &&& 31))) 0
noncomputable def leafF (e : DE) (r : Nat → Int32) (π : List Nat) (st : Int32 × Int32) : Int32 × Int32 := @ite _ (st.2 = -1 ∨ ¬ gdA (setP e π) r ≤ st.1) (Classical.propDecidable _) (gdA (setP e π) r, digI π) st
noncomputable def ordF (e : DE) (r : Nat → Int32) (n : Nat) : Nat → List Nat → Int32 × Int32 → Int32 × Int32
  | 0, π, st => leafF e r π st
  | m + 1, π, st => loopG (fun k s => if k ∈ π then s else ordF e r n m (π ++ [k]) s) n st
theorem leaf_y {e : DE} {r : Nat → Int32} {π : List Nat} {st : Int32 × Int32} (h : st.2 = -1 ∨ ¬ gdA (setP e π) r ≤ st.1) : leafF e r π st = (gdA (setP e π) r, digI π) := if_pos h
theorem leaf_n {e : DE} {r : Nat → Int32} {π : List Nat} {st : Int32 × Int32} (h : ¬ (st.2 = -1 ∨ ¬ gdA (setP e π) r ≤ st.1)) : leafF e r π st = st := if_neg h
theorem digI_s {π : List Nat} {k : Nat} : digI (π ++ [k]) = 10 * digI π + nI k := by unfold digI; rw [List.foldl_append]; rfl
theorem mkI_s {π : List Nat} {k : Nat} : mkI (π ++ [k]) = mkI π ||| (1 <<< (nI k &&& 31)) := by unfold mkI; rw [List.foldl_append]; rfl
theorem mk_step : ∀ m, m < 16 → ∀ k, k < 4 → ∃ m', m' < 16 ∧ nI m ||| (1 <<< (nI k &&& 31)) = nI m' ∧ ∀ j, j < 4 → (((nI m' >>> (nI j &&& 31)) &&& 1 = 0) ↔ ((nI m >>> (nI j &&& 31)) &&& 1 = 0) ∧ j ≠ k) := by
  intro m hm k hk
  refine ⟨m ||| 2 ^ k, ?_⟩
  revert m k
  decide
theorem mk_ok : ∀ (ρ : List Nat) (π : List Nat) (m : Nat), m < 16 → mkI π = nI m → (∀ j, j < 4 → (((nI m >>> (nI j &&& 31)) &&& 1 = 0) ↔ j ∉ π)) → (∀ k ∈ ρ, k < 4) → ∀ j, j < 4 → (((mkI (π ++ ρ) >>> (nI j &&& 31)) &&& 1 = 0) ↔ j ∉ π ++ ρ)
  | [], π, m, hm, e, h, _ => by rw [List.append_nil, e]; exact h
  | k :: ρ, π, m, hm, e, h, hk => by
    obtain ⟨m', h1, h2, h3⟩ := mk_step m hm k (hk k (by simp))
    have g := mk_ok ρ (π ++ [k]) m' h1 (by rw [mkI_s, e, h2]) (fun j hj => by
      rw [h3 j hj, h j hj]
      simp) (fun a ha => hk a (by simp [ha]))
    rw [List.append_assoc] at g
    exact g
theorem mk_bit {π : List Nat} (h : ∀ k ∈ π, k < 4) {j : Nat} (hj : j < 4) : ((mkI π >>> (nI j &&& 31)) &&& 1 = 0) ↔ j ∉ π := by
  have := mk_ok π [] 0 (by decide) rfl (by decide) h j hj
  exact this
/-- while hours are in turns -/
def ordM (e : DE) (tx : Nat → Nat → List Int32) (μ0 : Mem) (π : List Nat) (st : Int32 × Int32) (s : Mem) : Prop := Only [0, 8, 12, 13, 14, 15, 16, 17, 18] μ0 s ∧ (∀ k, k < 19 ∨ 33 < k ∧ k ≤ 40 ∨ 47 < k → s.1 0 k = μ0.1 0 k) ∧ TxM tx s ∧ (∀ j, j < 5 → s.1 18 j = μ0.1 8 j) ∧ (s.2 8 = μ0.2 8 ∧ ∀ j, s.1 8 j = μ0.1 8 (π.getD j j)) ∧ s.1 0 46 = st.1 ∧ s.1 0 47 = st.2
def ordN (e : DE) (tx : Nat → Nat → List Int32) (μ0 : Mem) (π : List Nat) (st : Int32 × Int32) (s : Mem) : Prop := Only [0, 8, 12, 13, 14, 15, 16, 17, 18] μ0 s ∧ (∀ k, k < 19 ∨ 33 < k ∧ k ≤ 40 ∨ 47 < k → s.1 0 k = μ0.1 0 k) ∧ TxM tx s ∧ (∀ j, j < 5 → s.1 18 j = μ0.1 8 j) ∧ (s.2 8 = μ0.2 8 ∧ ∀ j, j ≠ π.length → s.1 8 j = μ0.1 8 (π.getD j j)) ∧ s.1 0 46 = st.1 ∧ s.1 0 47 = st.2
theorem ordM.n {e : DE} {tx : Nat → Nat → List Int32} {μ0 s : Mem} {π : List Nat} {st : Int32 × Int32} (h : ordM e tx μ0 π st s) : ordN e tx μ0 π st s := ⟨h.1, h.2.1, h.2.2.1, h.2.2.2.1, ⟨h.2.2.2.2.1.1, fun j _ => h.2.2.2.2.1.2 j⟩, h.2.2.2.2.2⟩
theorem getD_ap {π : List Nat} {k j : Nat} : (π ++ [k]).getD j j = if j = π.length then k else π.getD j j := by
  rw [List.getD_eq_getElem?_getD, List.getD_eq_getElem?_getD]
  by_cases h : j < π.length
  · rw [List.getElem?_append_left h, if_neg (by omega)]
  · rw [List.getElem?_append_right (by omega)]
    by_cases q : j = π.length
    · rw [if_pos q, q]; simp
    · rw [if_neg q, List.getElem?_eq_none (by simp; omega), List.getElem?_eq_none (by omega)]
theorem ordM.p {e : DE} {tx : Nat → Nat → List Int32} {μ0 s : Mem} {π : List Nat} {k : Nat} {st : Int32 × Int32} (h : ordM e tx μ0 (π ++ [k]) st s) : ordN e tx μ0 π st s := ⟨h.1, h.2.1, h.2.2.1, h.2.2.2.1, ⟨h.2.2.2.2.1.1, fun j q => by rw [h.2.2.2.2.1.2 j, getD_ap, if_neg q]⟩, h.2.2.2.2.2⟩
theorem getD_lt {π : List Nat} {n j : Nat} (h : ∀ k ∈ π, k < n) (hj : j < n) : π.getD j j < n := by
  rw [List.getD_eq_getElem?_getD]
  by_cases q : j < π.length
  · rw [List.getElem?_eq_getElem q]; exact h _ (List.getElem_mem q)
  · rw [List.getElem?_eq_none (by omega)]; exact hj
theorem M_orders_ok {d : Nat} {e : DE} {tx : Nat → Nat → List Int32} {t n : Nat} {r : Nat → Int32} {μ0 : Mem} (hi : isM e tx t μ0) (hwf : wfE e) (hrow : rowM 4 r μ0) (hok : rowOk r) (hn : n ≤ npE e) (hn4 : n ≤ 4) : ∀ (m : Nat) (π : List Nat) (st : Int32 × Int32) (μ : Mem) (Q : QQ), π.length + m = n → (∀ k ∈ π, k < n) → ordM e tx μ0 π st μ → (∀ μ', ordM e tx μ0 π (ordF e r n m π st) μ' → Q .null μ') → Call (d + 68 + m) y_M_orders [.ref 0, .int (nI π.length), .int (nI n), .int (mkI π), .int (digI π)] μ Q := by
  have h5 := hwf.2.2.1
  intro m
  induction m with
  | zero =>
    intro π st μ Q hl hπ ⟨o, f, t1, h18, ⟨hl8, h8⟩, h46, h47⟩ hQ
    have hin : ∀ p, p < npE e → π.getD p p < npE e := fun p hp => getD_lt (fun k hk => Nat.lt_of_lt_of_le (hπ k hk) hn) hp
    have is1 : isM (setP e π) tx t μ := hi.sh (fun k hk => f k (Or.inl hk)) (fun k q1 q2 q3 => o.i k (by simp; omega)) (fun p hp => by rw [h8 p]; exact (hi.2.2.2.1 _ (hin p hp)).2.1) t1
    have wf1 : wfE (setP e π) := wf_setH hwf (fun p hp => (hwf.2.2.2.1 _ (hin p hp)).1)
    have hrow1 : rowM 4 r μ := fun j hj => by rw [o.i 4]; exact hrow j hj
    refine b_M_orders_0 ⟨fun z => absurd (by rw [show π.length = n by omega]) z, fun _ => ?_⟩
    refine M_dayNow_ok is1 wf1 hrow1 hok (fun s2 f2 t2 rm2 sp2 _ => ?_)
    refine M_allGood_ok (s := dE (setP e π) r) (is1.g f2.g t2) wf1 (dayF_said 24) sp2 (fun s3 f3 t3 => ⟨_, rfl, ?_⟩)
    have fg : frG μ s3 := f2.g.trans f3.g
    have om : ∀ s4 : Mem, s4 = s3 → ordM e tx μ0 π st s4 := by
      intro s4 e4
      subst e4
      refine ⟨o.trans (fg.1.mono (by simp)), fun k hk => (fg.2 k hk).trans (f k hk), t3, fun j hj => ?_, ⟨?_, fun j => ?_⟩, ?_, ?_⟩
      · rw [f3.1.i 18, f2.1.i 18]; exact h18 j hj
      · rw [fg.1.l 8]; exact hl8
      · rw [fg.i 8]; exact h8 j
      · rw [f3.2 46 (by omega), f2.2 46 (by omega)]; exact h46
      · rw [f3.2 47 (by omega), f2.2 47 (by omega)]; exact h47
    obtain ⟨a1, a2, a3, a4, a5, a6, a7⟩ := om s3 rfl
    have put : ∀ s5 : Mem, s5 = wI s3 0 (upd (s3.1 0) 46 (gdA (setP e π) r)) → ∀ s6 : Mem, s6 = wI s5 0 (upd (s5.1 0) 47 (digI π)) → leafF e r π st = (gdA (setP e π) r, digI π) → Q .null s6 := by
      intro s5 e5 s6 e6 el
      have n0 : ∀ k, k ≠ 0 → s6.1 k = s3.1 k := fun k hk => by rw [e6, wI_n hk, e5, wI_n hk]
      refine hQ s6 ⟨?_, fun k hk => ?_, (a3.w0 e5).w0 e6, fun j hj => ?_, ⟨?_, fun j => ?_⟩, ?_, ?_⟩
      · exact (a1.trans (.we e5)).trans (.we e6)
      · rw [e6, wI_s, upd_n (by omega), e5, wI_s, upd_n (by omega)]; exact a2 k hk
      · rw [n0 18 (by decide)]; exact a4 j hj
      · rw [e6, wI_2, e5, wI_2]; exact a5.1
      · rw [n0 8 (by decide)]; exact a5.2 j
      · rw [e6, wI_s, upd_n (by decide), e5, wI_s, upd_s]
        show _ = (leafF e r π st).1
        rw [el]
      · rw [e6, wI_s, upd_s]
        show _ = (leafF e r π st).2
        rw [el]
    rw [a7, a6]
    refine ⟨fun z s5 e5 s6 e6 => put s5 e5 s6 e6 (leaf_y (Or.inl z)), fun z => ⟨fun z2 => ?_, fun z2 s5 e5 s6 e6 => put s5 e5 s6 e6 (leaf_y (Or.inr z2))⟩⟩
    refine hQ s3 ?_
    show ordM e tx μ0 π (leafF e r π st) s3
    rw [leaf_n (fun y => y.elim z (fun y => y z2))]
    exact om s3 rfl
  | succ m ih =>
    intro π st μ Q hl hπ hM hQ
    have v1 : vp_in (nI π.length) 5 := nI_v (by omega) (by omega)
    have c1 : (nI π.length).toNatClampNeg = π.length := nI_c (by omega)
    refine b_M_orders_0 ⟨fun _ => ?_, fun z => absurd (congrArg Int32.toInt z) (by rw [nI_i (by omega), nI_i (by omega)]; omega)⟩
    have hk4 : ∀ k ∈ π, k < 4 := fun k hk => Nat.lt_of_lt_of_le (hπ k hk) hn4
    refine loopN (G := fun k s => AA (Call (d + 68 + m)) y_M_orders Q 25 [.ref 0, .int (nI π.length), .int (nI n), .int (mkI π), .int (digI π), .int (nI k)] [] s) (P := fun k s => ordN e tx μ0 π (loopG (fun k s => if k ∈ π then s else ordF e r n m (π ++ [k]) s) k st) s) (N := n) ?_ ?_ 0 μ (by omega) hM.n
    · intro s ⟨o, f, t1, h18, ⟨hl8, h8⟩, h46, h47⟩
      refine b_M_orders_25 ⟨fun _ => ⟨v1, v1, fun μ1 e1 => ?_⟩, fun z => absurd (Int32.le_refl _) z⟩
      rw [c1] at e1
      have k0 : ∀ k, k ≠ 8 → μ1.1 k = s.1 k := fun k hk => by rw [e1, wI_n hk]
      refine hQ μ1 ⟨o.trans (by rw [e1]; exact Only.w), fun k hk => by rw [k0 0 (by decide)]; exact f k hk, t1.cong (by rw [k0 0 (by decide)]) (k0 1 (by decide)) (k0 2 (by decide)) (k0 13 (by decide)) (by rw [e1, wI_2]), fun j hj => by rw [k0 18 (by decide)]; exact h18 j hj, ⟨by rw [e1, wI_2]; exact hl8, fun j => ?_⟩, by rw [k0 0 (by decide)]; exact h46, by rw [k0 0 (by decide)]; exact h47⟩
      rw [e1, wI_s]
      by_cases q : j = π.length
      · rw [q, upd_s, h18 _ (by omega), List.getD_eq_getElem?_getD, List.getElem?_eq_none (by omega)]; rfl
      · rw [upd_n q]; exact h8 j q
    · intro k s hk hN ih2
      have hN' := hN
      obtain ⟨o, f, t1, h18, ⟨hl8, h8⟩, h46, h47⟩ := hN
      have ck : (nI k).toNatClampNeg = k := nI_c (by omega)
      have vk : vp_in (nI k) 5 := nI_v (by omega) (by omega)
      refine b_M_orders_25 ⟨fun z => absurd (le32.mp z) (by rw [nI_i (by omega), nI_i (by omega)]; omega), fun _ => ⟨fun z => ?_, fun z => ⟨vk, v1, fun μ2 e2 => ?_⟩⟩⟩
      · rw [nI_1]
        refine ih2 s ?_
        have hin : k ∈ π := Classical.byContradiction (fun y => z ((mk_bit hk4 (by omega)).mpr y))
        simp only [loopG]
        rw [if_pos hin]
        exact hN'
      · rw [nI_1, nI_1, ← mkI_s, ← digI_s]
        rw [c1, ck] at e2
        have hout : k ∉ π := (mk_bit hk4 (by omega)).mp z
        have k0 : ∀ k, k ≠ 8 → μ2.1 k = s.1 k := fun k hk => by rw [e2, wI_n hk]
        have g := ih (π ++ [k]) (loopG (fun k s => if k ∈ π then s else ordF e r n m (π ++ [k]) s) k st) μ2 (fun _ μ3 => AA (Call (d + 68 + m)) y_M_orders Q 25 [.ref 0, .int (nI π.length), .int (nI n), .int (mkI π), .int (digI π), .int (nI (k + 1))] [] μ3) (by simp; omega) (by intro a ha; simp at ha; rcases ha with ha | ha; exact hπ a ha; omega) ⟨o.trans (by rw [e2]; exact Only.w), fun k hk => by rw [k0 0 (by decide)]; exact f k hk, t1.cong (by rw [k0 0 (by decide)]) (k0 1 (by decide)) (k0 2 (by decide)) (k0 13 (by decide)) (by rw [e2, wI_2]), fun j hj => by rw [k0 18 (by decide)]; exact h18 j hj, ⟨by rw [e2, wI_2]; exact hl8, fun j => by
          rw [e2, wI_s, getD_ap]
          by_cases q : j = π.length
          · rw [if_pos q, q, upd_s, h18 _ (by omega)]
          · rw [if_neg q, upd_n q]; exact h8 j q⟩, by rw [k0 0 (by decide)]; exact h46, by rw [k0 0 (by decide)]; exact h47⟩ (fun μ3 h3 => ih2 μ3 (by
            simp only [loopG]
            rw [if_neg hout]
            exact h3.p))
        rw [show (π ++ [k]).length = π.length + 1 by simp] at g
        exact g
theorem M_turns_ok {d : Nat} {Q : QQ} {μ : Mem} {e : DE} {tx : Nat → Nat → List Int32} {t : Nat} {a : Int32} {r : Nat → Int32} (hi : isM e tx t μ) (hwf : wfE e) (hrow : rowM 4 r μ) (hok : rowOk r) (hb : ¬ (0 ≤ a.toInt ∧ a.toInt ≤ 1) → Q (.int (-100000)) μ) (hg : 0 ≤ a.toInt ∧ a.toInt ≤ 1 → ∀ μ', frG μ μ' → TxM tx μ' → Q (.int (if a = 0 then (ordF e r (min (npE e) 4) (min (npE e) 4) [] (0, -1)).1 else (ordF e r (min (npE e) 4) (min (npE e) 4) [] (0, -1)).2)) μ') : Call (d + 73) y_M_turns [.ref 0, .int a] μ Q := by
  have h5 := hwf.2.2.1
  refine b_M_turns_0 (M_in_ok (A := a.toInt) (B := 0) (C := 1) (lI _) rfl rfl ⟨_, rfl, b_nz (fun c1 => ?_) (fun c1 => hb c1)⟩)
  have g := hg c1
  refine loopN (G := fun i s => AA (Call (d + 72)) y_M_turns Q 10 [.ref 0, .int a, .int (nI i)] [] s) (P := fun i s => Only [18] μ s ∧ ∀ j, j < i → s.1 18 j = μ.1 8 j) (N := 5) ?_ ?_ 0 μ (by omega) ⟨Only.rf, fun j hj => absurd hj (by omega)⟩
  · intro s ⟨o, h18⟩
    refine b_M_turns_10 ⟨fun _ μ1 e1 μ2 e2 => ?_, fun z => absurd (by decide) z⟩
    have k0 : ∀ k, k ≠ 0 → μ2.1 k = s.1 k := fun k hk => by rw [e2, wI_n hk, e1, wI_n hk]
    have t2 : TxM tx μ2 := ((hi.tx.fr o (by simp)).w0 e1).w0 e2
    have oM : ordM e tx μ [] (0, -1) μ2 := by
      refine ⟨((o.mono (by simp)).trans (.we e1)).trans (.we e2), fun k hk => ?_, t2, fun j hj => by rw [k0 18 (by decide)]; exact h18 j hj, ⟨by rw [e2, wI_2, e1, wI_2]; exact o.l 8, fun j => by rw [k0 8 (by decide), o.i 8]; rfl⟩, ?_, ?_⟩
      · rw [e2, wI_s, upd_n (by omega), e1, wI_s, upd_n (by omega), o.i 0]
      · rw [e2, wI_s, upd_s]
      · rw [e2, wI_s, upd_n (by decide), e1, wI_s, upd_s]
    have e14 : μ2.1 0 14 = nI (npE e) := by rw [oM.2.1 14 (by omega)]; exact hi.2.2.1
    have fin : ∀ n s', ordM e tx μ [] (ordF e r n n [] (0, -1)) s' → n = min (npE e) 4 → (¬ a = 0 → Q (.int (s'.1 0 47)) s') ∧ (a = 0 → Q (.int (s'.1 0 46)) s') := by
      intro n s' ⟨o', f', t', h18', ⟨hl8', h8'⟩, h46', h47'⟩ en
      have g := g s' ⟨fun k hk => ?_, f'⟩ t'
      · rw [← en] at g
        refine ⟨fun z => ?_, fun z => ?_⟩
        · rw [if_neg z] at g
          rw [h47']; exact g
        · rw [if_pos z] at g
          rw [h46']; exact g
      · by_cases q : k = 8
        · rw [q]; exact ⟨funext fun j => h8' j, hl8'⟩
        · exact o' k (by simp at hk ⊢; omega)
    rw [e14]
    refine ⟨fun z => ?_, fun z => ?_⟩
    · have z := le32.mp z
      rw [nI_i (by omega)] at z
      have z : (4 : Int) ≤ npE e := z
      have := M_orders_ok (d := d) hi hwf hrow hok (n := 4) (by omega) (by omega) 4 [] (0, -1) μ2 (fun _ μ3 => (¬ a = 0 → Q (.int (μ3.1 0 47)) μ3) ∧ (a = 0 → Q (.int (μ3.1 0 46)) μ3)) rfl (by simp) oM (fun s' h' => fin 4 s' h' (by omega))
      exact this
    · have z := Int.not_le.mp (fun q => z (le32.mpr q))
      rw [nI_i (by omega)] at z
      have z : (npE e : Int) < 4 := z
      have := M_orders_ok (d := d + (4 - npE e)) hi hwf hrow hok (n := npE e) (by omega) (by omega) (npE e) [] (0, -1) μ2 (fun _ μ3 => (¬ a = 0 → Q (.int (μ3.1 0 47)) μ3) ∧ (a = 0 → Q (.int (μ3.1 0 46)) μ3)) (by simp) (by simp) oM (fun s' h' => fin (npE e) s' h' (by omega))
      rw [show d + (4 - npE e) + 68 + npE e = d + 72 by omega] at this
      exact this
  · intro i s hin ⟨o, h18⟩ ih
    have vi : vp_in (nI i) 5 := nI_v (by omega) (by omega)
    refine b_M_turns_10 ⟨fun z => absurd (le32.mp z) (by rw [nI_i (by omega)]; show ¬ (5 : Int) ≤ _; omega), fun _ => ⟨vi, vi, fun μ5 e5 => ?_⟩⟩
    rw [nI_c (by omega)] at e5
    rw [nI_1]
    refine ih μ5 ⟨o.trans (by rw [e5]; exact Only.w), fun j hj => ?_⟩
    rw [e5, wI_s]
    by_cases q : j = i
    · rw [q, upd_s, o.i 8]
    · rw [upd_n q]; exact h18 j (by omega)
