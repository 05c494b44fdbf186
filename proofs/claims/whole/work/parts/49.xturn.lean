/-! ===== the class: turns ===== -/
def piO (n w : Nat) : List Nat := (List.range n).map (fun i => w / 4 ^ (n - 1 - i) % 4)
def isT (n w : Nat) : Prop := mkI (piO n w) = (1 <<< (nI n &&& 31)) - 1
noncomputable def ctF (e : DE) (r : Nat → Int32) (n : Nat) : Nat → Int32 × Int32 → Int32 × Int32 := loopG (fun w s => @ite _ (isT n w) (Classical.propDecidable _) (leafF e r (piO n w) s) s)
theorem who_w : ∀ w, w < 256 → ∀ k, k < 4 → (nI w >>> nI (2 * k)) &&& 3 = nI (w / 4 ^ k % 4) := by decide +kernel
theorem who_s : ∀ n, n ≤ 4 → ∀ i, i < n → ((2 : Int32) * ((nI n - 1) - nI i)) &&& 31 = nI (2 * (n - 1 - i)) := by decide
theorem X_whoseHour_ok {d n i w : Nat} {Q : QQ} {μ : Mem} (hn : n ≤ 4) (hi : i < n) (hw : w < 256) (hQ : Q (.int (nI (w / 4 ^ (n - 1 - i) % 4))) μ) : Call (d + 1) y_X_whoseHour [.int (nI w), .int (nI i), .int (nI n)] μ Q := by
  refine b_X_whoseHour_0 ?_
  rw [who_s n hn i hi, who_w w hw _ (by omega)]
  exact hQ
theorem pi_take (n w : Nat) : ∀ i, i ≤ n → (piO n w).take i = (List.range i).map (fun i => w / 4 ^ (n - 1 - i) % 4) := by
  intro i hi
  unfold piO
  rw [← List.map_take, List.take_range, Nat.min_eq_left hi]
theorem pi_s {n w i : Nat} (hi : i < n) : (piO n w).take (i + 1) = (piO n w).take i ++ [w / 4 ^ (n - 1 - i) % 4] := by
  rw [pi_take n w (i + 1) (by omega), pi_take n w i (by omega), List.range_succ, List.map_append]
  rfl
theorem pi_len {n w : Nat} : (piO n w).length = n := by unfold piO; simp
theorem pi_all {n w : Nat} : (piO n w).take n = piO n w := by rw [List.take_of_length_le (by rw [pi_len]; omega)]
theorem X_isTurn_ok {d n w : Nat} {Q : QQ} {μ : Mem} (hn : n ≤ 4) (hw : w < 256) (hy : isT n w → Q (.int 1) μ) (hno : ¬ isT n w → Q (.int 0) μ) : Call (d + 2) y_X_isTurn [.int (nI w), .int (nI n)] μ Q := by
  refine b_X_isTurn_0 ?_
  refine loopN (G := fun i (v : Unit) => AA (Call (d + 1)) y_X_isTurn Q 4 [.int (nI w), .int (nI n), .int (mkI ((piO n w).take i)), .int (nI i)] [] μ) (P := fun i v => True) (N := n) ?_ ?_ 0 () (by omega) trivial
  · intro v _
    rw [pi_all]
    exact b_X_isTurn_4 ⟨fun _ => ⟨fun z => ⟨by decide, hno z⟩, fun z => ⟨by decide, hy z⟩⟩, fun z => absurd (Int32.le_refl _) z⟩
  · intro i v hi _ ih
    refine b_X_isTurn_4 ⟨fun z => absurd (le32.mp z) (by rw [nI_i (by omega), nI_i (by omega)]; omega), fun _ => X_whoseHour_ok hn hi hw ⟨_, rfl, ?_⟩⟩
    have g := ih () trivial
    rw [pi_s hi, mkI_s] at g
    rw [nI_1]
    exact g
theorem X_digits_ok {d n w : Nat} {Q : QQ} {μ : Mem} (hn : n ≤ 4) (hw : w < 256) (hQ : Q (.int (digI (piO n w))) μ) : Call (d + 2) y_X_digits [.int (nI w), .int (nI n)] μ Q := by
  refine b_X_digits_0 ?_
  refine loopN (G := fun i (v : Unit) => AA (Call (d + 1)) y_X_digits Q 4 [.int (nI w), .int (nI n), .int (digI ((piO n w).take i)), .int (nI i)] [] μ) (P := fun i v => True) (N := n) ?_ ?_ 0 () (by omega) trivial
  · intro v _
    rw [pi_all]
    exact b_X_digits_4 ⟨fun _ => hQ, fun z => absurd (Int32.le_refl _) z⟩
  · intro i v hi _ ih
    refine b_X_digits_4 ⟨fun z => absurd (le32.mp z) (by rw [nI_i (by omega), nI_i (by omega)]; omega), fun _ => X_whoseHour_ok hn hi hw ⟨_, rfl, ?_⟩⟩
    have g := ih () trivial
    rw [pi_s hi, digI_s] at g
    rw [nI_1, Int32.mul_comm]
    exact g
theorem T0 : ∀ n, n ≤ 4 → ∃ w, w < 4 ^ n ∧ isT n w := by
  intro n hn
  have : n = 0 ∨ n = 1 ∨ n = 2 ∨ n = 3 ∨ n = 4 := by omega
  unfold isT
  rcases this with h | h | h | h | h
  · subst h; exact ⟨0, by decide, by decide⟩
  · subst h; exact ⟨0, by decide, by decide⟩
  · subst h; exact ⟨1, by decide, by decide⟩
  · subst h; exact ⟨6, by decide, by decide⟩
  · subst h; exact ⟨27, by decide, by decide⟩
theorem dig_r : ∀ (π : List Nat) (k : Nat), (∀ a ∈ π, a < 4) → π.length + k ≤ 4 → ∀ a : Nat, a < 10 ^ k → π.foldl (fun a k => 10 * a + nI k) (nI a) = nI (π.foldl (fun a k => 10 * a + k) a) ∧ π.foldl (fun a k => 10 * a + k) a < 10 ^ (k + π.length)
  | [], k, _, _, a, ha => ⟨rfl, ha⟩
  | b :: π, k, h, hl, a, ha => by
    have hb := h b (by simp)
    have hk : k + 1 ≤ 4 := by simp at hl; omega
    have ha2 : 10 * a + b < 10 ^ (k + 1) := by rw [Nat.pow_succ]; omega
    have h10 : 10 ^ (k + 1) ≤ 10 ^ 4 := Nat.pow_le_pow_right (by omega) hk
    have ih := dig_r π (k + 1) (fun x hx => h x (by simp [hx])) (by simp at hl; omega) (10 * a + b) ha2
    have e1 : (10 : Int32) * nI a + nI b = nI (10 * a + b) := by
      apply Int32.toInt_inj.mp
      have e10 : (10 : Int32).toInt = 10 := rfl
      have m : ((10 : Int32) * nI a).toInt = 10 * (a : Int) := by rw [mul32 (by rw [nI_i (by omega), e10]; omega) (by rw [nI_i (by omega), e10]; omega), nI_i (by omega), e10]
      rw [add32 (by rw [m, nI_i (by omega)]; omega) (by rw [m, nI_i (by omega)]; omega), m, nI_i (by omega), nI_i (by omega)]
      omega
    constructor
    · show List.foldl _ ((10 : Int32) * nI a + nI b) π = _
      rw [e1]
      exact ih.1
    · show List.foldl _ (10 * a + b) π < _
      have := ih.2
      rw [show k + (b :: π).length = k + 1 + π.length by simp; omega]
      exact this
theorem pi_lt {n w : Nat} : ∀ a ∈ piO n w, a < 4 := by
  intro a ha
  unfold piO at ha
  rw [List.mem_map] at ha
  obtain ⟨i, _, rfl⟩ := ha
  omega
theorem dig_ne {n w : Nat} (hn : n ≤ 4) : ¬ digI (piO n w) = -1 := by
  have h := dig_r (piO n w) 0 pi_lt (by rw [pi_len]; omega) 0 (by decide)
  rw [pi_len] at h
  have h10 : 10 ^ (0 + n) ≤ 10 ^ 4 := Nat.pow_le_pow_right (by omega) (by omega)
  unfold digI
  have e0 : (0 : Int32) = nI 0 := rfl
  rw [e0, h.1]
  exact nI_ne (by have := h.2; omega)
theorem pi_get {n w j : Nat} (hj : j < n) : (piO n w).getD j j = w / 4 ^ (n - 1 - j) % 4 := by
  unfold piO
  rw [List.getD_eq_getElem?_getD, List.getElem?_map, List.getElem?_range hj]
  rfl
theorem pi_get2 {n w j : Nat} (hj : n ≤ j) : (piO n w).getD j j = j := by
  rw [List.getD_eq_getElem?_getD, List.getElem?_eq_none (by rw [pi_len]; exact hj)]
  rfl
theorem T_lt : ∀ n, n ≤ 4 → ∀ w, w < 4 ^ n → isT n w → ∀ a ∈ piO n w, a < n := by
  unfold isT
  intro n hn
  have : n = 0 ∨ n = 1 ∨ n = 2 ∨ n = 3 ∨ n = 4 := by omega
  rcases this with h | h | h | h | h <;> subst h <;> decide +kernel
theorem X_turns_ok {d : Nat} {Q : QQ} {μ : Mem} {e : DE} {tx : Nat → Nat → List Int32} {t : Nat} {a : Int32} {r : Nat → Int32} (hi : isX0 e tx t μ) (hwf : wfE e) (hrow : rowM 1 r μ) (hok : rowOk r) (hb : ¬ (0 ≤ a.toInt ∧ a.toInt ≤ 1) → Q (.int (-100000)) μ) (hg : 0 ≤ a.toInt ∧ a.toInt ≤ 1 → ∀ μ', Only tX μ μ' → Q (.int (if a = 0 then (ctF e r (min (npE e) 4) (4 ^ min (npE e) 4) (0, -1)).1 else (ctF e r (min (npE e) 4) (4 ^ min (npE e) 4) (0, -1)).2)) μ') : Call (d + 7) y_X_turns [.ref 0, .int a] μ Q := by
  have h5 := hwf.2.2.1
  refine b_X_turns_0 (X_within_ok (A := a.toInt) (B := 1) rfl rfl ⟨_, rfl, b_nz (fun c1 => ?_) (fun c1 => hb c1)⟩)
  have g := hg c1
  obtain ⟨n, hn⟩ : ∃ n, n = min (npE e) 4 := ⟨_, rfl⟩
  have en : (if 4 < μ.1 16 3 then (4 : Int32) else μ.1 16 3) = nI n := by
    rw [hi.2.2.1]
    by_cases q : npE e ≤ 4
    · rw [if_neg (fun z => by have := lt32.mp z; rw [nI_i (by omega)] at this; have e4 : (4 : Int32).toInt = 4 := rfl; omega), hn, Nat.min_eq_left q]
    · rw [if_pos (lt32.mpr (by rw [nI_i (by omega)]; show (4 : Int) < _; omega)), hn, Nat.min_eq_right (by omega)]; rfl
  rw [en]
  rw [← hn] at g
  have hn4 : n ≤ 4 := by omega
  have hnp : n ≤ npE e := by omega
  have p4 : 4 ^ n ≤ 4 ^ 4 := Nat.pow_le_pow_right (by omega) hn4
  have e256 : (4 : Nat) ^ 4 = 256 := rfl
  have ew : (1 : Int32) <<< (((2 : Int32) * nI n) &&& 31) = nI (4 ^ n) := by
    have : ∀ n, n ≤ 4 → (1 : Int32) <<< (((2 : Int32) * nI n) &&& 31) = nI (4 ^ n) := by decide
    exact this n hn4
  rw [ew]
  let ok (w : Nat) (f m : Int32) : Prop := (f = -1 ∧ (∀ v, v < w → ¬ isT n v) ∧ ctF e r n w (0, -1) = (0, -1) ∧ m = 0) ∨ ∃ v, v < w ∧ f = nI v ∧ ctF e r n w (0, -1) = (m, digI (piO n v))
  refine loopN (G := fun w (x : (Int32 × Int32) × Mem) => AA (Call (d + 6)) y_X_turns Q 24 [.ref 0, .int a, .int (nI n), .int x.1.1, .int x.1.2, .int (nI (4 ^ n)), .int (nI w), un] [] x.2) (P := fun w x => Only tX μ x.2 ∧ ok w x.1.1 x.1.2) (N := 4 ^ n) ?_ ?_ 0 ((-1, 0), μ) (Nat.zero_le _) ⟨Only.rf, Or.inl ⟨rfl, fun v hv => absurd hv (by omega), rfl, rfl⟩⟩
  · intro ⟨⟨f, m⟩, s⟩ ⟨o, h⟩
    have h : ok (4 ^ n) f m := h
    refine b_X_turns_24 ⟨fun _ => ?_, fun z => absurd (Int32.le_refl _) z⟩
    have g := g s o
    obtain ⟨w0, t1, t2⟩ := T0 n hn4
    rcases h with ⟨_, h2, _⟩ | ⟨v, h1, h2, h3⟩
    · exact absurd t2 (h2 w0 t1)
    · rw [h3] at g
      show (¬ a = 0 → Call _ _ [.int f, .int (nI n)] s _) ∧ (a = 0 → Q (.int m) s)
      rw [h2]
      refine ⟨fun z => X_digits_ok hn4 (by omega) ⟨_, rfl, ?_⟩, fun z => ?_⟩
      · rw [if_neg z] at g; exact g
      · rw [if_pos z] at g; exact g
  · intro w ⟨⟨f, m⟩, s⟩ hw ⟨o, h⟩ ih
    have h : ok w f m := h
    refine b_X_turns_24 ⟨fun z => absurd (le32.mp z) (by rw [nI_i (by omega), nI_i (by omega)]; omega), fun _ => ?_⟩
    rw [nI_1]
    refine X_isTurn_ok hn4 (by omega) (fun hT => ⟨_, rfl, fun _ => ?_, fun z => absurd z (by decide)⟩) (fun hT => ⟨_, rfl, fun z => absurd rfl z, fun _ => ?_⟩)
    · have ec : ctF e r n (w + 1) (0, -1) = leafF e r (piO n w) (ctF e r n w (0, -1)) := if_pos hT
      refine Dawn_ok (hi.fr hwf.1 o) hwf (r := r) (fun j hj => by show s.1 1 j = _; rw [o.i 1]; exact hrow j hj) (fun s1 o1 i1 r1 h46 => ?_)
      refine loopN (G := fun i u => AA (Call (d + 6)) y_X_turns Q 37 [.ref 0, .int a, .int (nI n), .int f, .int m, .int (nI (4 ^ n)), .int (nI w), .int (nI i)] [] u) (P := fun i u => Only [46] s1 u ∧ (∀ j, j < i → u.1 46 j = hoE e ((piO n w).getD j j)) ∧ (∀ j, i ≤ j → u.1 46 j = s1.1 46 j)) (N := n) ?_ ?_ 0 s1 (by omega) ⟨Only.rf, fun j hj => absurd hj (by omega), fun j _ => rfl⟩
      · intro u ⟨ou, hu1, hu2⟩
        refine b_X_turns_37 ⟨fun _ => ?_, fun z => absurd (Int32.le_refl _) z⟩
        have iu : isX (setP e (piO n w)) tx t u := i1.sh hwf.1 ou (fun j hj => by
          by_cases q : j < n
          · exact hu1 j q
          · rw [hu2 j (by omega), pi_get2 (by omega)]
            exact (i1.2.2.2.1 j hj).2.1)
        have wfu : wfE (setP e (piO n w)) := wf_setH hwf (fun j hj => (hwf.2.2.2.1 _ (getD_lt (fun k hk => Nat.lt_of_lt_of_le (T_lt n hn4 w hw hT k hk) hnp) hj)).1)
        refine DayX_ok iu wfu (r := r) (fun j hj => by rw [ou.i 45]; exact r1 j hj) hok (fun s3 o3 _ sp3 => ?_)
        have o13 : Only tX μ s3 := ((o.trans o1).trans (ou.mono (by simp))).trans (o3.mono (by simp))
        refine Day_allGood_ok (n := npE e) h5 (by rw [o13.i 16]; exact hi.2.2.1) (fun p hp => (sp3 p hp).2.2) ⟨_, rfl, ?_⟩
        have e1 : sum8 (goodF (setP e (piO n w)) (dE (setP e (piO n w)) r)) (npE e) = gdA (setP e (piO n w)) r := rfl
        rw [e1, nI_1]
        have nxt : ∀ f' m' y : Int32, ok (w + 1) f' m' → AA (Call (d + 6)) y_X_turns Q 24 [.ref 0, .int a, .int (nI n), .int f', .int m', .int (nI (4 ^ n)), .int (nI (w + 1)), .int y] [] s3 := by
          intro f' m' y h'
          refine AA_weak ?_ (ih ((f', m'), s3) ⟨o13, h'⟩)
          exact ⟨Or.inl rfl, Or.inl rfl, Or.inl rfl, Or.inl rfl, Or.inl rfl, Or.inl rfl, Or.inl rfl, Or.inr ⟨rfl, rfl⟩, trivial⟩
        rcases h with ⟨h1, h2, h3, h4⟩ | ⟨v, h1, h2, h3⟩
        · refine ⟨fun z => nxt _ _ _ (Or.inr ⟨w, by omega, rfl, ?_⟩), fun z => absurd h1 z⟩
          rw [ec, h3, leaf_y (Or.inl rfl)]
        · have fn : ¬ f = -1 := by rw [h2]; exact nI_ne (by omega)
          refine ⟨fun z => absurd z fn, fun _ => ⟨fun z => nxt _ _ _ (Or.inr ⟨v, by omega, h2, ?_⟩), fun z => nxt _ _ _ (Or.inr ⟨w, by omega, rfl, ?_⟩)⟩⟩
          · rw [ec, h3, leaf_n (fun y => y.elim (fun y => dig_ne hn4 y) (fun y => y z))]
          · rw [ec, h3, leaf_y (Or.inr z)]
      · intro i u hin ⟨ou, hu1, hu2⟩ ih2
        have vi : vp_in (nI i) 5 := nI_v (by omega) (by omega)
        refine b_X_turns_37 ⟨fun z => absurd (le32.mp z) (by rw [nI_i (by omega), nI_i (by omega)]; omega), fun _ => X_whoseHour_ok hn4 hin (by omega) ⟨_, rfl, nI_v (by omega) (by omega), vi, fun u2 e2 => ?_⟩⟩
        rw [nI_c (by omega), nI_c (by omega)] at e2
        rw [nI_1]
        have hlt : w / 4 ^ (n - 1 - i) % 4 < npE e := by
          have hm : w / 4 ^ (n - 1 - i) % 4 ∈ piO n w := by
            unfold piO
            exact List.mem_map.mpr ⟨i, List.mem_range.mpr hin, rfl⟩
          have := T_lt n hn4 w hw hT _ hm
          omega
        have e18 : u.1 18 (w / 4 ^ (n - 1 - i) % 4) = hoE e (w / 4 ^ (n - 1 - i) % 4) := by
          rw [ou.i 18, o1.i 18, o.i 18]
          exact (hi.2.2.2.1 _ hlt).2.1
        refine ih2 u2 ⟨ou.trans (.we e2), fun j hj => ?_, fun j hj => ?_⟩
        · rw [e2, wI_s]
          by_cases q : j = i
          · rw [q, upd_s, e18, pi_get hin]
          · rw [upd_n q]; exact hu1 j (by omega)
        · rw [e2, wI_s, upd_n (by omega)]
          exact hu2 j (by omega)
    · have ec : ctF e r n (w + 1) (0, -1) = ctF e r n w (0, -1) := if_neg hT
      refine ih ((f, m), s) ⟨o, ?_⟩
      rcases h with ⟨h1, h2, h3, h4⟩ | ⟨v, h1, h2, h3⟩
      · refine Or.inl ⟨h1, fun v hv => ?_, by rw [ec]; exact h3, h4⟩
        by_cases q : v = w
        · rw [q]; exact hT
        · exact h2 v (by omega)
      · exact Or.inr ⟨v, by omega, h2, by rw [ec]; exact h3⟩
/-! ===== both think of the same turns ===== -/
def permG (n : Nat) : Nat → List Nat → List (List Nat)
  | 0, π => [π]
  | m + 1, π => (List.range n).flatMap (fun k => if k ∈ π then [] else permG n m (π ++ [k]))
theorem ord_perm {e : DE} {r : Nat → Int32} {n : Nat} : ∀ m π st, ordF e r n m π st = (permG n m π).foldl (fun s π => leafF e r π s) st
  | 0, π, st => rfl
  | m + 1, π, st => by
    have key : ∀ k, loopG (fun k s => if k ∈ π then s else ordF e r n m (π ++ [k]) s) k st = ((List.range k).flatMap (fun k => if k ∈ π then [] else permG n m (π ++ [k]))).foldl (fun s π => leafF e r π s) st := by
      intro k
      induction k with
      | zero => rfl
      | succ k ih =>
        rw [List.range_succ, List.flatMap_append, List.foldl_append]
        simp only [loopG]
        rw [ih]
        by_cases q : k ∈ π
        · simp [q]
        · simp only [List.flatMap_cons, List.flatMap_nil, List.append_nil]
          rw [if_neg q, if_neg q]
          exact ord_perm m (π ++ [k]) _
    exact key n
def wayL (n : Nat) : Nat → List (List Nat)
  | 0 => []
  | w + 1 => wayL n w ++ (if mkI (piO n w) = (1 <<< (nI n &&& 31)) - 1 then [piO n w] else [])
theorem ct_way {e : DE} {r : Nat → Int32} {n : Nat} {st : Int32 × Int32} : ∀ w, ctF e r n w st = (wayL n w).foldl (fun s π => leafF e r π s) st
  | 0 => rfl
  | w + 1 => by
    have ih := ct_way (e := e) (r := r) (n := n) (st := st) w
    have e1 : ctF e r n (w + 1) st = @ite _ (isT n w) (Classical.propDecidable _) (leafF e r (piO n w) (ctF e r n w st)) (ctF e r n w st) := rfl
    rw [e1]
    simp only [wayL]
    rw [List.foldl_append, ← ih]
    by_cases q : isT n w
    · rw [if_pos q, if_pos (show mkI (piO n w) = (1 <<< (nI n &&& 31)) - 1 from q)]; rfl
    · rw [if_neg q, if_neg (show ¬ mkI (piO n w) = (1 <<< (nI n &&& 31)) - 1 from q)]; rfl
theorem way_perm : ∀ n, n ≤ 4 → permG n n [] = wayL n (4 ^ n) := by
  intro n hn
  have : n = 0 ∨ n = 1 ∨ n = 2 ∨ n = 3 ∨ n = 4 := by omega
  rcases this with h | h | h | h | h <;> subst h <;> decide +kernel
theorem ct_ord {e : DE} {r : Nat → Int32} {n : Nat} (hn : n ≤ 4) {st : Int32 × Int32} : ctF e r n (4 ^ n) st = ordF e r n n [] st := by
  rw [ct_way, ord_perm, way_perm n hn]
