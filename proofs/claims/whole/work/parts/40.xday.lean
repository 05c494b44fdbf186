/-! ===== a day in the class ===== -/
theorem Laws_steep_ok {d : Nat} {Q : QQ} {μ : Mem} {a b : Int32} (hQ : Q (.int (steepF b a)) μ) : Call (d + 1) y_Laws_steep [.int a, .int b] μ Q := b_Laws_steep_0 hQ
theorem Laws_price_ok {d : Nat} {Q : QQ} {μ : Mem} {a b c : Int32} (ha : vp_in a 6) (hk : rng (μ.1 21 a.toNatClampNeg) 0 5) (hQ : Q (.int (priceF (μ.1 21 a.toNatClampNeg) (μ.1 22 a.toNatClampNeg) b c)) μ) : Call (d + 2) y_Laws_price [.ref 20, .int a, .int b, .int c] μ Q := by
  obtain ⟨k1, k2⟩ := hk
  refine b_Laws_price_0 ?_
  refine ⟨by exact ha, ?_⟩
  refine ⟨by exact ha, ?_⟩
  refine ⟨fun c1 => ?_, fun c1 => ?_⟩
  · have c1 : ((μ.1 21 a.toNatClampNeg)).toInt = (1 : Int) := eq32.mp c1
    refine Laws_steep_ok ⟨_, rfl, ?_⟩
    (unfold priceF at hQ; repeat' split at hQ) <;> first | exact hQ | omega | (rw [Int32.add_zero]; exact hQ)
  · have c1 : ¬ ((μ.1 21 a.toNatClampNeg)).toInt = (1 : Int) := fun z => c1 (eq32.mpr z)
    refine ⟨fun c2 => ?_, fun c2 => ?_⟩
    · have c2 : ((μ.1 21 a.toNatClampNeg)).toInt = (2 : Int) := eq32.mp c2
      refine ⟨by decide, ?_⟩
      (unfold priceF at hQ; repeat' split at hQ) <;> first | exact hQ | omega | (rw [Int32.add_zero]; exact hQ)
    · have c2 : ¬ ((μ.1 21 a.toNatClampNeg)).toInt = (2 : Int) := fun z => c2 (eq32.mpr z)
      refine ⟨fun c3 => ?_, fun c3 => ?_⟩
      · have c3 : ((μ.1 21 a.toNatClampNeg)).toInt = (3 : Int) := eq32.mp c3
        refine ⟨by decide, ?_⟩
        refine Laws_steep_ok ⟨_, rfl, ?_⟩
        (unfold priceF at hQ; repeat' split at hQ) <;> first | exact hQ | omega | (rw [Int32.add_zero]; exact hQ)
      · have c3 : ¬ ((μ.1 21 a.toNatClampNeg)).toInt = (3 : Int) := fun z => c3 (eq32.mpr z)
        refine ⟨fun c4 => ?_, fun c4 => ?_⟩
        · have c4 : ((μ.1 21 a.toNatClampNeg)).toInt = (4 : Int) := eq32.mp c4
          refine ⟨fun c5 => ?_, fun c5 => ?_⟩
          · have c5 : (6 : Int) ≤ (c).toInt := le32.mp c5
            refine ⟨by decide, ?_⟩
            (unfold priceF at hQ; repeat' split at hQ) <;> first | exact hQ | omega | (rw [Int32.add_zero]; exact hQ)
          · have c5 : ¬ (6 : Int) ≤ (c).toInt := fun z => c5 (le32.mpr z)
            (unfold priceF at hQ; repeat' split at hQ) <;> first | exact hQ | omega | (rw [Int32.add_zero]; exact hQ)
        · have c4 : ¬ ((μ.1 21 a.toNatClampNeg)).toInt = (4 : Int) := fun z => c4 (eq32.mpr z)
          refine ⟨fun c6 => ?_, fun c6 => ?_⟩
          · have c6 : ((μ.1 21 a.toNatClampNeg)).toInt = (5 : Int) := eq32.mp c6
            refine Laws_steep_ok ⟨_, rfl, ?_⟩
            refine ⟨fun c7 => ?_, fun c7 => ?_⟩
            · have c7 : ¬ (b).toInt = (0 : Int) := fun z => c7 (eq32.mpr z)
              (unfold priceF at hQ; repeat' split at hQ) <;> first | exact hQ | omega | (rw [Int32.add_zero]; exact hQ)
            · have c7 : (b).toInt = (0 : Int) := eq32.mp c7
              (unfold priceF at hQ; repeat' split at hQ) <;> first | exact hQ | omega | (rw [Int32.add_zero]; exact hQ)
          · have c6 : ¬ ((μ.1 21 a.toNatClampNeg)).toInt = (5 : Int) := fun z => c6 (eq32.mpr z)
            (unfold priceF at hQ; repeat' split at hQ) <;> first | exact hQ | omega | (rw [Int32.add_zero]; exact hQ)
def mx0 (v : Int32) : Int32 := if v < 0 then 0 else v
theorem mx0_age {k n u : Int32} (hk : rng k 0 5) (hu : 0 ≤ u.toInt) : mx0 (if k.toInt = 2 ∨ k.toInt = 4 then u - n else if k.toInt = 3 then u - 1 else if k.toInt = 5 ∧ ¬ n.toInt ≤ u.toInt then 0 else u) = ageF k n u := by
  have z0 : (0 : Int32).toInt = 0 := rfl
  have key : ∀ v : Int32, mx0 v = if 0 ≤ v.toInt then v else 0 := by
    intro v
    unfold mx0
    by_cases h : v < 0
    · rw [if_pos h, if_neg (by have := lt32.mp h; omega)]
    · rw [if_neg h, if_pos (by have := Int.not_lt.mp (fun q => h (lt32.mpr q)); omega)]
  rw [key]
  unfold ageF
  (repeat' split) <;> first | rfl | omega
theorem Laws_aged_ok {d : Nat} {Q : QQ} {μ : Mem} {a b : Int32} (ha : vp_in a 6) (hQ : Q (.int (if (μ.1 21 a.toNatClampNeg).toInt = 2 ∨ (μ.1 21 a.toNatClampNeg).toInt = 4 then b - μ.1 22 a.toNatClampNeg else if (μ.1 21 a.toNatClampNeg).toInt = 3 then b - 1 else if (μ.1 21 a.toNatClampNeg).toInt = 5 ∧ ¬ (μ.1 22 a.toNatClampNeg).toInt ≤ b.toInt then 0 else b)) μ) : Call (d + 1) y_Laws_aged [.ref 20, .int a, .int b] μ Q := by
  refine b_Laws_aged_0 ?_
  refine ⟨by exact ha, ?_⟩
  refine ⟨fun c1 => ?_, fun c1 => ?_⟩
  · have c1 : ((μ.1 21 a.toNatClampNeg)).toInt = (2 : Int) := eq32.mp c1
    refine ⟨by exact ha, ?_⟩
    (repeat' split at hQ) <;> first | exact hQ | omega
  · have c1 : ¬ ((μ.1 21 a.toNatClampNeg)).toInt = (2 : Int) := fun z => c1 (eq32.mpr z)
    refine ⟨fun c2 => ?_, fun c2 => ?_⟩
    · have c2 : ((μ.1 21 a.toNatClampNeg)).toInt = (3 : Int) := eq32.mp c2
      (repeat' split at hQ) <;> first | exact hQ | omega
    · have c2 : ¬ ((μ.1 21 a.toNatClampNeg)).toInt = (3 : Int) := fun z => c2 (eq32.mpr z)
      refine ⟨fun c3 => ?_, fun c3 => ?_⟩
      · have c3 : ((μ.1 21 a.toNatClampNeg)).toInt = (4 : Int) := eq32.mp c3
        refine ⟨by exact ha, ?_⟩
        (repeat' split at hQ) <;> first | exact hQ | omega
      · have c3 : ¬ ((μ.1 21 a.toNatClampNeg)).toInt = (4 : Int) := fun z => c3 (eq32.mpr z)
        refine ⟨fun c4 => ?_, fun c4 => ?_⟩
        · have c4 : ((μ.1 21 a.toNatClampNeg)).toInt = (5 : Int) := eq32.mp c4
          refine ⟨by exact ha, ?_⟩
          refine ⟨fun c5 => ?_, fun c5 => ?_⟩
          · have c5 : ((μ.1 22 a.toNatClampNeg)).toInt ≤ (b).toInt := le32.mp c5
            (repeat' split at hQ) <;> first | exact hQ | omega
          · have c5 : ¬ ((μ.1 22 a.toNatClampNeg)).toInt ≤ (b).toInt := fun z => c5 (le32.mpr z)
            (repeat' split at hQ) <;> first | exact hQ | omega
        · have c4 : ¬ ((μ.1 21 a.toNatClampNeg)).toInt = (5 : Int) := fun z => c4 (eq32.mpr z)
          (repeat' split at hQ) <;> first | exact hQ | omega
theorem Laws_age_d {d : Nat} {Q : QQ} {μ : Mem} {a : Int32} {r : Nat → Int32} (ha : vp_in a 6) (hk : rng (μ.1 21 a.toNatClampNeg) 0 5) (hrow : rowM 45 r μ) (hok : rowOk r) (hQ : ∀ μ', Only [45] μ μ' → rowM 45 (fun j => ageF (μ.1 21 a.toNatClampNeg) (μ.1 22 a.toNatClampNeg) (r j)) μ' → Q .null μ') : Call (d + 2) y_Laws_age [.ref 20, .int a, .ref 45] μ Q := by
  have stay : (μ.1 21 a.toNatClampNeg).toInt = 0 ∨ (μ.1 21 a.toNatClampNeg).toInt = 1 → Q .null μ := by
    intro h
    refine hQ μ Only.rf (fun j hj => ?_)
    rw [hrow j hj]
    have := (hok j hj).1
    show r j = ageF _ _ (r j)
    unfold ageF
    (repeat' split) <;> first | rfl | omega
  have e1 : (1 : Int32).toInt = 1 := rfl
  have e0 : (0 : Int32).toInt = 0 := rfl
  refine b_Laws_age_d_0 ⟨ha, fun c1 => stay (Or.inl (by rw [c1]; rfl)), fun c1 => ⟨ha, fun c2 => ?_, fun c2 => stay (Or.inr (by rw [c2]; rfl))⟩⟩
  refine loopN (G := fun i s => AA (Call (d + 1)) y_Laws_age Q 14 [.ref 20, .int a, .ref 45, .int (nI i)] [] s) (P := fun i s => Only [45] μ s ∧ (∀ j, j < i → s.1 45 j = ageF (μ.1 21 a.toNatClampNeg) (μ.1 22 a.toNatClampNeg) (r j)) ∧ ∀ j, i ≤ j → j < 8 → s.1 45 j = r j) (N := 8) ?_ ?_ 0 μ (by omega) ⟨Only.rf, fun j hj => absurd hj (by omega), fun j _ hj => hrow j hj⟩
  · intro s ⟨h1, h2, _⟩
    exact b_Laws_age_d_14 ⟨fun _ => hQ s h1 h2, fun c => absurd (by decide) c⟩
  · intro i s hi ⟨h1, h2, h3⟩ ih
    have e := nI_i (n := i) (by omega)
    refine b_Laws_age_d_14 ⟨fun c => absurd (le32.mp c) (by rw [e]; show ¬ (8 : Int) ≤ _; omega), fun _ => ⟨nI_v hi (by omega), ?_⟩⟩
    refine Laws_aged_ok ha ⟨_, rfl, nI_v hi (by omega), fun μ1 e1 => ?_⟩
    rw [nI_1]
    rw [nI_c (by omega), h1.i 21, h1.i 22, h3 i (by omega) hi] at e1
    have hx := mx0_age (k := μ.1 21 a.toNatClampNeg) (n := μ.1 22 a.toNatClampNeg) (u := r i) hk (hok i hi).1
    unfold mx0 at hx
    rw [hx] at e1
    subst e1
    refine ih _ ⟨h1.trans Only.w, fun j hj => ?_, fun j hj hj8 => ?_⟩
    · rw [wI_s]
      by_cases q : j = i
      · rw [q, upd_s]
      · rw [upd_n q]
        exact h2 j (by omega)
    · rw [wI_s, upd_n (by omega)]
      exact h3 j (by omega) hj8
theorem Laws_age_u {d : Nat} {Q : QQ} {μ : Mem} {a : Int32} {r : Nat → Int32} (ha : vp_in a 6) (hk : rng (μ.1 21 a.toNatClampNeg) 0 5) (hrow : rowM 1 r μ) (hok : rowOk r) (hQ : ∀ μ', Only [1] μ μ' → rowM 1 (fun j => ageF (μ.1 21 a.toNatClampNeg) (μ.1 22 a.toNatClampNeg) (r j)) μ' → Q .null μ') : Call (d + 2) y_Laws_age [.ref 20, .int a, .ref 1] μ Q := by
  have stay : (μ.1 21 a.toNatClampNeg).toInt = 0 ∨ (μ.1 21 a.toNatClampNeg).toInt = 1 → Q .null μ := by
    intro h
    refine hQ μ Only.rf (fun j hj => ?_)
    rw [hrow j hj]
    have := (hok j hj).1
    show r j = ageF _ _ (r j)
    unfold ageF
    (repeat' split) <;> first | rfl | omega
  refine b_Laws_age_u_0 ⟨ha, fun c1 => stay (Or.inl (by rw [c1]; rfl)), fun c1 => ⟨ha, fun c2 => ?_, fun c2 => stay (Or.inr (by rw [c2]; rfl))⟩⟩
  refine loopN (G := fun i s => AA (Call (d + 1)) y_Laws_age Q 14 [.ref 20, .int a, .ref 1, .int (nI i)] [] s) (P := fun i s => Only [1] μ s ∧ (∀ j, j < i → s.1 1 j = ageF (μ.1 21 a.toNatClampNeg) (μ.1 22 a.toNatClampNeg) (r j)) ∧ ∀ j, i ≤ j → j < 8 → s.1 1 j = r j) (N := 8) ?_ ?_ 0 μ (by omega) ⟨Only.rf, fun j hj => absurd hj (by omega), fun j _ hj => hrow j hj⟩
  · intro s ⟨h1, h2, _⟩
    exact b_Laws_age_u_14 ⟨fun _ => hQ s h1 h2, fun c => absurd (by decide) c⟩
  · intro i s hi ⟨h1, h2, h3⟩ ih
    have e := nI_i (n := i) (by omega)
    refine b_Laws_age_u_14 ⟨fun c => absurd (le32.mp c) (by rw [e]; show ¬ (8 : Int) ≤ _; omega), fun _ => ⟨nI_v hi (by omega), ?_⟩⟩
    refine Laws_aged_ok ha ⟨_, rfl, nI_v hi (by omega), fun μ1 e1 => ?_⟩
    rw [nI_1]
    rw [nI_c (by omega), h1.i 21, h1.i 22, h3 i (by omega) hi] at e1
    have hx := mx0_age (k := μ.1 21 a.toNatClampNeg) (n := μ.1 22 a.toNatClampNeg) (u := r i) hk (hok i hi).1
    unfold mx0 at hx
    rw [hx] at e1
    subst e1
    refine ih _ ⟨h1.trans Only.w, fun j hj => ?_, fun j hj hj8 => ?_⟩
    · rw [wI_s]
      by_cases q : j = i
      · rw [q, upd_s]
      · rw [upd_n q]
        exact h2 j (by omega)
    · rw [wI_s, upd_n (by omega)]
      exact h3 j (by omega) hj8
/-! ===== letters of a word, used ahead ===== -/
def cntL (l : Nat) : List Nat → Nat
  | [] => 0
  | a :: L => (if a = l then 1 else 0) + cntL l L
theorem cntL_app {l : Nat} : ∀ {A B : List Nat}, cntL l (A ++ B) = cntL l A + cntL l B
  | [], _ => by simp [cntL]
  | a :: A, B => by simp only [cntL, List.cons_append, cntL_app (A := A) (B := B)]; omega
theorem bmp_i {u : Int32} (h : rng u 0 999) : (bmp u).toInt = min (u.toInt + 1) 999 := by
  unfold bmp
  obtain ⟨h1, h2⟩ := h
  have e9 : (999 : Int32).toInt = 999 := rfl
  by_cases q : 999 ≤ u.toInt
  · rw [if_pos q]; omega
  · rw [if_neg q]
    have e : (u + 1).toInt = u.toInt + 1 := add32 (by show _ ≤ _ + (1 : Int); omega) (by show _ + (1 : Int) < _; omega)
    omega
theorem spF_cnt {l : Nat} : ∀ {L : List Nat} {r : Nat → Int32}, (∀ a, a = l ∨ a ∈ L → rng (r a) 0 999) → (spF L r l).toInt = min ((r l).toInt + cntL l L) 999
  | [], r, h => by
    have := h l (Or.inl rfl)
    obtain ⟨h1, h2⟩ := this
    simp only [spF, cntL]
    omega
  | a :: L, r, h => by
    have ha := h a (Or.inr (by simp))
    simp only [spF, cntL]
    rw [spF_cnt (L := L) (r := upd r a (bmp (r a))) ?_]
    · by_cases q : a = l
      · subst q
        rw [upd_s, bmp_i ha, if_pos rfl]
        omega
      · rw [upd_n (Ne.symm q), if_neg q]
        omega
    · intro b hb
      by_cases q : b = a
      · rw [q, upd_s]; exact bmp_ok ha
      · rw [upd_n q]
        rcases hb with hb | hb
        · exact h b (Or.inl hb)
        · exact h b (Or.inr (by simp [hb]))
/-- the class's memory holds a day's data -/
def isX (e : DE) (tx : Nat → Nat → List Int32) (t : Nat) (μ : Mem) : Prop := μ.1 2 3 = nI (nwE e) ∧ (∀ w, w < nwE e → μ.1 3 w = thE e w ∧ μ.1 4 w = sizeF (lsE e w) ∧ rowIs (μ.1 (6 + w)) (lsE e w)) ∧ μ.1 16 3 = nI (npE e) ∧ (∀ p, p < npE e → μ.1 17 p = waE e p ∧ μ.1 46 p = hoE e p ∧ μ.1 19 p = puE e p) ∧ vp_in (μ.1 44 7) 6 ∧ μ.1 21 (μ.1 44 7).toNatClampNeg = kE e ∧ μ.1 22 (μ.1 44 7).toNatClampNeg = nE e ∧ rulX t μ ∧ TxX tx μ ∧ cE e = tx t
theorem isX.fr {e : DE} {tx : Nat → Nat → List Int32} {t : Nat} {μ μ' : Mem} {ks : List Nat} (h : isX e tx t μ) (hw : nwE e ≤ 10) (o : Only ks μ μ') (hk : ∀ k ∈ ks, 42 ≤ k ∧ k ≠ 44 ∧ k ≠ 46) : isX e tx t μ' := by
  obtain ⟨h1, h2, h3, h4, h5, h6, h7, h8, h9, h10⟩ := h
  have n : ∀ k, k < 42 → μ'.1 k = μ.1 k := fun k q => o.i k (fun z => absurd (hk k z).1 (by omega))
  have n44 : μ'.1 44 = μ.1 44 := o.i 44 (fun z => absurd rfl (hk 44 z).2.1)
  have n46 : μ'.1 46 = μ.1 46 := o.i 46 (fun z => absurd rfl (hk 46 z).2.2)
  unfold isX
  rw [n 2 (by omega), n 16 (by omega), n44, n46, n 21 (by omega), n 22 (by omega), n 3 (by omega), n 4 (by omega), n 17 (by omega), n 19 (by omega)]
  refine ⟨h1, fun w q => ?_, h3, h4, h5, h6, h7, h8.only o (fun z => absurd (hk 27 z).1 (by omega)), h9.only o (fun k q1 q2 z => absurd (hk k z).1 (by omega)) h8.2.2.2, h10⟩
  rw [n (6 + w) (by omega)]
  exact h2 w q
theorem lets_len {v : Int32} : (letsF v).length = (digs v.toInt.toNat).length := by unfold letsF; simp
theorem row_let {f : Nat → Int32} {v : Int32} (h : rowIs f v) {j : Nat} (hj : j < (letsF v).length) : f j = nI ((letsF v).getD j 0) := by
  rw [lets_len] at hj
  rw [h j hj]
  unfold letsF
  simp only [List.getD_eq_getElem?_getD, List.getElem?_map]
  rw [List.getElem?_eq_getElem hj]
  rfl
theorem getD_mem {L : List Nat} {j : Nat} (h : j < L.length) : L.getD j 0 ∈ L := by
  rw [List.getD_eq_getElem?_getD, List.getElem?_eq_getElem h]
  exact List.getElem_mem h
theorem take_s {L : List Nat} {j : Nat} (h : j < L.length) : L.take (j + 1) = L.take j ++ [L.getD j 0] := by
  rw [List.take_succ_eq_append_getElem h, List.getD_eq_getElem?_getD, List.getElem?_eq_getElem h]
  rfl
theorem Words_usedAhead_ok {d : Nat} {Q : QQ} {μ : Mem} {w i : Nat} {v : Int32} {r : Nat → Int32} (hw : w < 10) (hv : okD v.toInt.toNat) (h6 : (letsF v).length ≤ 6) (hrw : rowIs (μ.1 (6 + w)) v) (hi : i < (letsF v).length) (hrow : rowM 45 r μ) (hok : rowOk r) (hQ : Q (.int (spF ((letsF v).take i) r ((letsF v).getD i 0))) μ) : Call (d + 1) y_Words_usedAhead [.ref 2, .int (nI w), .int (nI i), .ref 45] μ Q := by
  have cw : (nI w).toNatClampNeg = w := nI_c (by omega)
  have ci : (nI i).toNatClampNeg = i := nI_c (by omega)
  have hlt := lets_lt hv
  have hl8 : (letsF v).getD i 0 < 8 := hlt _ (getD_mem hi)
  have hrl := row_let hrw hi
  have cl : (nI ((letsF v).getD i 0)).toNatClampNeg = (letsF v).getD i 0 := nI_c (by omega)
  obtain ⟨o1, o2⟩ := hok _ hl8
  have e9 : (999 : Int32).toInt = 999 := rfl
  have fin : ∀ x : Int32, x.toInt = (r ((letsF v).getD i 0)).toInt + cntL ((letsF v).getD i 0) ((letsF v).take i) → (if 999 < x then 999 else x) = spF ((letsF v).take i) r ((letsF v).getD i 0) := by
    intro x hx
    apply Int32.toInt_inj.mp
    rw [spF_cnt]
    · by_cases q : (999 : Int32) < x
      · rw [if_pos q]
        have := lt32.mp q
        omega
      · rw [if_neg q]
        have := Int.not_lt.mp (fun z => q (lt32.mpr z))
        omega
    · intro a ha
      rcases ha with ha | ha
      · rw [ha]; exact ⟨o1, o2⟩
      · exact hok a (hlt a (List.mem_of_mem_take ha))
  refine b_Words_usedAhead_0 ?_
  rw [cw, ci, hrl, cl, ilen_row hw]
  refine ⟨nI_v hw (by omega), nI_v (by omega) (by omega), nI_v hl8 (by omega), ?_⟩
  rw [hrow _ hl8]
  refine loopN (G := fun j s => AA (Call d) y_Words_usedAhead Q 13 [.ref 2, .int (nI w), .int (nI i), .ref 45, .int (nI ((letsF v).getD i 0)), .int s, .int (nI j)] [] μ) (P := fun j s => s.toInt = (r ((letsF v).getD i 0)).toInt + cntL ((letsF v).getD i 0) ((letsF v).take j) ∧ s.toInt ≤ 999 + j) (N := i) ?_ ?_ 0 (r ((letsF v).getD i 0)) (by omega) ⟨by simp [cntL], by omega⟩
  · intro s ⟨h1, h2⟩
    exact b_Words_usedAhead_13 ⟨fun _ => Qi hQ (fin s h1), fun z => absurd (Int32.le_refl _) z⟩
  · intro j s hj ⟨h1, h2⟩ ih
    have cj : (nI j).toNatClampNeg = j := nI_c (by omega)
    refine b_Words_usedAhead_13 ⟨fun z => absurd (le32.mp z) (by rw [nI_i (by omega), nI_i (by omega)]; omega), fun _ => ?_⟩
    rw [cw, cj, ilen_row hw, row_let hrw (show j < (letsF v).length by omega), nI_1]
    refine ⟨nI_v hw (by omega), nI_v (by omega) (by omega), fun z => ih s ⟨?_, by omega⟩, fun z => ih (s + 1) ?_⟩
    · rw [take_s (by omega), cntL_app, h1]
      simp only [cntL]
      rw [if_neg (fun y => z (by rw [y]))]
      omega
    · have es : (s + 1).toInt = s.toInt + 1 := add32 (by show _ ≤ _ + (1 : Int); omega) (by show _ + (1 : Int) < _; omega)
      have hj8 : (letsF v).getD j 0 < 8 := hlt _ (getD_mem (by omega))
      have ez : (letsF v).getD j 0 = (letsF v).getD i 0 := by
        have := congrArg Int32.toInt z
        rw [nI_i (by omega), nI_i (by omega)] at this
        omega
      refine ⟨?_, by omega⟩
      rw [take_s (by omega), cntL_app, es, h1]
      simp only [cntL]
      rw [if_pos ez]
      omega
theorem bmp_min {u : Int32} (h : rng u 0 999) : (if 999 < u + 1 then 999 else u + 1) = bmp u := by
  apply Int32.toInt_inj.mp
  rw [bmp_i h]
  obtain ⟨h1, h2⟩ := h
  have e9 : (999 : Int32).toInt = 999 := rfl
  have e : (u + 1).toInt = u.toInt + 1 := add32 (by show _ ≤ _ + (1 : Int); omega) (by show _ + (1 : Int) < _; omega)
  by_cases q : (999 : Int32) < u + 1
  · rw [if_pos q]
    have := lt32.mp q
    omega
  · rw [if_neg q]
    have := Int.not_lt.mp (fun z => q (lt32.mpr z))
    omega
theorem spF_s {L : List Nat} {j : Nat} {r : Nat → Int32} (h : j < L.length) : spF (L.take (j + 1)) r = upd (spF (L.take j) r) (L.getD j 0) (bmp (spF (L.take j) r (L.getD j 0))) := by rw [take_s h, spF_app]; rfl
theorem Words_spend_d {d : Nat} {Q : QQ} {μ : Mem} {w : Nat} {v : Int32} {r : Nat → Int32} (hw : w < 10) (hv : okD v.toInt.toNat) (h6 : (letsF v).length ≤ 6) (h4 : μ.1 4 w = sizeF v) (hrw : rowIs (μ.1 (6 + w)) v) (hrow : rowM 45 r μ) (hok : rowOk r) (hQ : ∀ μ', Only [45] μ μ' → rowM 45 (spF (letsF v) r) μ' → Q .null μ') : Call (d + 1) y_Words_spend [.ref 2, .int (nI w), .ref 45] μ Q := by
  have cw : (nI w).toNatClampNeg = w := nI_c (by omega)
  have hlt := lets_lt hv
  have hsz : sizeF v = nI (letsF v).length := by rw [lets_len]; rfl
  refine b_Words_spend_d_0 ?_
  refine loopN (G := fun j s => AA (Call d) y_Words_spend Q 2 [.ref 2, .int (nI w), .ref 45, .int (nI j), un] [] s) (P := fun j s => Only [45] μ s ∧ rowM 45 (spF ((letsF v).take j) r) s) (N := (letsF v).length) ?_ ?_ 0 μ (by omega) ⟨Only.rf, hrow⟩
  · intro s ⟨h1, h2⟩
    rw [List.take_length] at h2
    refine b_Words_spend_d_2 ⟨nI_v hw (by omega), fun _ => hQ s h1 h2, fun z => absurd (by rw [cw, h1.i 4, h4, hsz]; exact Int32.le_refl _) z⟩
  · intro j s hj ⟨h1, h2⟩ ih
    have cj : (nI j).toNatClampNeg = j := nI_c (by omega)
    have hl8 : (letsF v).getD j 0 < 8 := hlt _ (getD_mem hj)
    have cl : (nI ((letsF v).getD j 0)).toNatClampNeg = (letsF v).getD j 0 := nI_c (by omega)
    have n6 : s.1 (6 + w) = μ.1 (6 + w) := h1.i (6 + w) (by simp; omega)
    have rk : rowOk (spF ((letsF v).take j) r) := spF_ok hok (fun l hl => hlt l (List.mem_of_mem_take hl))
    refine b_Words_spend_d_2 ?_
    rw [cw, cj, n6, row_let hrw hj, cl, h1.i 4, h4, hsz, ilen_row hw, nI_1, h2 _ hl8, bmp_min (rk _ hl8)]
    refine ⟨nI_v hw (by omega), fun z => absurd (le32.mp z) (by rw [nI_i (by omega), nI_i (by omega)]; omega), fun _ => ⟨nI_v hw (by omega), nI_v (by omega) (by omega), nI_v hl8 (by omega), nI_v hl8 (by omega), fun μ1 e1 => ?_⟩⟩
    refine AA_weak (lv := [.ref 2, .int (nI w), .ref 45, .int (nI (j + 1)), un]) ⟨Or.inl rfl, Or.inl rfl, Or.inl rfl, Or.inl rfl, Or.inr ⟨rfl, rfl⟩, trivial⟩ (ih μ1 ⟨h1.trans (by rw [e1]; exact Only.w), ?_⟩)
    rw [spF_s hj, e1]
    exact h2.up
theorem Words_spend_u {d : Nat} {Q : QQ} {μ : Mem} {w : Nat} {v : Int32} {r : Nat → Int32} (hw : w < 10) (hv : okD v.toInt.toNat) (h6 : (letsF v).length ≤ 6) (h4 : μ.1 4 w = sizeF v) (hrw : rowIs (μ.1 (6 + w)) v) (hrow : rowM 1 r μ) (hok : rowOk r) (hQ : ∀ μ', Only [1] μ μ' → rowM 1 (spF (letsF v) r) μ' → Q .null μ') : Call (d + 1) y_Words_spend [.ref 2, .int (nI w), .ref 1] μ Q := by
  have cw : (nI w).toNatClampNeg = w := nI_c (by omega)
  have hlt := lets_lt hv
  have hsz : sizeF v = nI (letsF v).length := by rw [lets_len]; rfl
  refine b_Words_spend_u_0 ?_
  refine loopN (G := fun j s => AA (Call d) y_Words_spend Q 2 [.ref 2, .int (nI w), .ref 1, .int (nI j), un] [] s) (P := fun j s => Only [1] μ s ∧ rowM 1 (spF ((letsF v).take j) r) s) (N := (letsF v).length) ?_ ?_ 0 μ (by omega) ⟨Only.rf, hrow⟩
  · intro s ⟨h1, h2⟩
    rw [List.take_length] at h2
    refine b_Words_spend_u_2 ⟨nI_v hw (by omega), fun _ => hQ s h1 h2, fun z => absurd (by rw [cw, h1.i 4, h4, hsz]; exact Int32.le_refl _) z⟩
  · intro j s hj ⟨h1, h2⟩ ih
    have cj : (nI j).toNatClampNeg = j := nI_c (by omega)
    have hl8 : (letsF v).getD j 0 < 8 := hlt _ (getD_mem hj)
    have cl : (nI ((letsF v).getD j 0)).toNatClampNeg = (letsF v).getD j 0 := nI_c (by omega)
    have n6 : s.1 (6 + w) = μ.1 (6 + w) := h1.i (6 + w) (by simp; omega)
    have rk : rowOk (spF ((letsF v).take j) r) := spF_ok hok (fun l hl => hlt l (List.mem_of_mem_take hl))
    refine b_Words_spend_u_2 ?_
    rw [cw, cj, n6, row_let hrw hj, cl, h1.i 4, h4, hsz, ilen_row hw, nI_1, h2 _ hl8, bmp_min (rk _ hl8)]
    refine ⟨nI_v hw (by omega), fun z => absurd (le32.mp z) (by rw [nI_i (by omega), nI_i (by omega)]; omega), fun _ => ⟨nI_v hw (by omega), nI_v (by omega) (by omega), nI_v hl8 (by omega), nI_v hl8 (by omega), fun μ1 e1 => ?_⟩⟩
    refine AA_weak (lv := [.ref 2, .int (nI w), .ref 1, .int (nI (j + 1)), un]) ⟨Or.inl rfl, Or.inl rfl, Or.inl rfl, Or.inl rfl, Or.inr ⟨rfl, rfl⟩, trivial⟩ (ih μ1 ⟨h1.trans (by rw [e1]; exact Only.w), ?_⟩)
    rw [spF_s hj, e1]
    exact h2.up
theorem Day_costOf_ok {d : Nat} {Q : QQ} {μ : Mem} {e : DE} {tx : Nat → Nat → List Int32} {t w : Nat} {h : Int32} {r : Nat → Int32} (hi : isX e tx t μ) (hwf : wfE e) (hw : w < nwE e) (hrow : rowM 45 r μ) (hok : rowOk r) (hQ : ∀ μ', Only [42, 43] μ μ' → Q (.int (coF e r w h)) μ') : Call (d + 3) y_Day_costOf [.ref 44, .int (nI w), .int h] μ Q := by
  obtain ⟨w1, w2, w3, w4, w5, w6⟩ := hwf
  obtain ⟨v1, v2, v3⟩ := w2 w hw
  have h6 : (letsF (lsE e w)).length ≤ 6 := by rw [lets_len]; exact digs_le 6 _ (by omega)
  have hsz : sizeF (lsE e w) = nI (letsF (lsE e w)).length := by rw [lets_len]; rfl
  have cw : (nI w).toNatClampNeg = w := nI_c (by omega)
  refine b_Day_costOf_0 ?_
  refine loopN (G := fun j s => AA (Call (d + 2)) y_Day_costOf Q 4 [.ref 44, .int (nI w), .int h, .int s.1, .int (nI j), un] [] s.2) (P := fun j s => s.1 = csF (gF e h) ((letsF (lsE e w)).take j) r 0 ∧ Only [42, 43] μ s.2) (N := (letsF (lsE e w)).length) ?_ ?_ 0 ((0 : Int32), μ) (by omega) ⟨rfl, Only.rf⟩
  · intro ⟨v, s⟩ ⟨h1, h2⟩
    dsimp only at h1 h2 ⊢
    rw [List.take_length] at h1
    rw [h1]
    exact b_Day_costOf_4 ⟨nI_v (by omega) (by omega), fun _ => hQ s h2, fun z => absurd (by rw [cw, h2.i 4, (hi.2.1 w hw).2.1, hsz]; exact Int32.le_refl _) z⟩
  · intro j ⟨v, s⟩ hj ⟨h1, h2⟩ ih
    dsimp only at h1 h2 ih ⊢
    have is1 := hi.fr (by omega) h2 (by simp)
    have cj : (nI j).toNatClampNeg = j := nI_c (by omega)
    refine b_Day_costOf_4 ⟨nI_v (by omega) (by omega), fun z => absurd (le32.mp z) (by rw [cw, (is1.2.1 w hw).2.1, hsz, nI_i (by omega), nI_i (by omega)]; omega), fun _ => ?_⟩
    refine Words_usedAhead_ok (by omega) v3 h6 (is1.2.1 w hw).2.2 hj (r := r) (fun j hj => by rw [h2.i 45]; exact hrow j hj) hok ⟨_, rfl, ?_⟩
    refine Laws_price_ok (by exact is1.2.2.2.2.1) (by rw [is1.2.2.2.2.2.1]; exact w5) ⟨_, rfl, nI_v (by omega) (by omega), ?_⟩
    rw [cw, cj, ilen_row (by omega), is1.2.2.2.2.2.1, is1.2.2.2.2.2.2.1, row_let (is1.2.1 w hw).2.2 hj, nI_1]
    refine ⟨nI_v (by omega) (by omega), Texts_adds_ok (by exact is1.2.2.2.2.2.2.2.1) is1.2.2.2.2.2.2.2.2.1 (fun s2 o2 => ⟨_, rfl, ?_⟩)⟩
    refine AA_weak (lv := [.ref 44, .int (nI w), .int h, .int _, .int (nI (j + 1)), un]) ⟨Or.inl rfl, Or.inl rfl, Or.inl rfl, Or.inl rfl, Or.inl rfl, Or.inr ⟨rfl, rfl⟩, trivial⟩ (ih (_, s2) ⟨?_, h2.trans o2⟩)
    show _ = _
    rw [take_s hj, csF_app, ← h1, ← is1.2.2.2.2.2.2.2.2.2]
    rfl
