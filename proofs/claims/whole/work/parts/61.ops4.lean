/-! ===== sheets, writers by a sheet ===== -/
theorem tcl {a : Int32} {n : Nat} (h0 : 0 ≤ a.toInt) (h : a.toInt < n) : a.toNatClampNeg < n ∧ (a.toNatClampNeg : Int) = a.toInt := ⟨vin_lt (vin_of h0 h), by unfold Int32.toNatClampNeg; omega⟩
theorem op_sheet {a b c : Int32} : OpR y_X_sheet y_M_sheet [.int a, .int b, .int c] := by
  intro tx x m d h
  have hS := h.2.2.2.2.2.2.2.1
  refine X_sheet_ok (d := d + 78) (fun q => ?_) (fun q q2 q3 => ?_) (fun q q2 x' ox x58 => ?_) (fun q q2 q3 x' ox x58 x59 xr => ?_)
  · exact M_sheet_ok (d := d + 77) (fun _ => ⟨rfl, tx, h⟩) (fun q' => absurd q' q) (fun q' => absurd q' q) (fun q' => absurd q' q)
  · exact M_sheet_ok (d := d + 77) (fun q' => absurd q q') (fun _ _ _ => ⟨rfl, tx, h⟩) (fun _ z => absurd z (by omega)) (fun _ _ z => absurd z (by omega))
  · refine M_sheet_ok (d := d + 77) (fun q' => absurd q q') (fun _ z => absurd z (by omega)) (fun _ _ m' om m22 m23 m24 => ⟨rfl, tx, h.sh (fun k hk => ox.i k (by simp; omega)) (fun k hk => om.i k (by simp; omega)) (om.l 12) (fun s hs => ?_)⟩) (fun _ z => absurd z (by omega))
    rw [x58, m22, m23, m24, ox.i 59, om.i 25, ox.i (61 + s) (by simp; omega)]
    by_cases y : s = a.toNatClampNeg
    · rw [y, upd_s, upd_s]
      exact Or.inl ⟨rfl, rfl⟩
    · rw [upd_n y, upd_n y, upd_n y, upd_n y]
      exact hS s hs
  · refine M_sheet_ok (d := d + 77) (fun q' => absurd q q') (fun _ _ z => absurd z (by omega)) (fun _ z => absurd z (by omega)) (fun _ _ _ m' om m22 m23 m24 m25 m25' => ⟨rfl, tx, h.sh (fun k hk => ox.i k (by simp; have := (tcl (n := 4) q.1 (by have := q.2.1; omega)).1; omega)) (fun k hk => om.i k (by simp; omega)) (om.l 12) (fun s hs => ?_)⟩)
    have t4 := tcl (n := 4) q.1 (by have := q.2.1; omega)
    have c40 := q.2.2.2.2 q2
    have tc := tcl (n := 41) q3 (by omega)
    rw [x58, x59, m22, m23, m24]
    by_cases y : s = a.toNatClampNeg
    · rw [y, upd_s, upd_s, upd_s, upd_s, upd_s]
      refine Or.inr ⟨by decide, rfl, ⟨q2, q.2.2.2.1⟩, rfl, ⟨q3, c40⟩, fun i hi => ?_⟩
      rw [xr i (by omega), m25 i (by omega)]
    · rw [upd_n y, upd_n y, upd_n y, upd_n y, upd_n y, ox.i (61 + s) (by simp; omega)]
      rcases hS s hs with z | ⟨s1, s2, s3, s4, s5, s6⟩
      · exact Or.inl z
      · refine Or.inr ⟨s1, s2, s3, s4, s5, fun i hi => ?_⟩
        have := s5.2
        rw [m25' (40 * s + i) (by omega)]
        exact s6 i hi
theorem op_cell {a b c : Int32} : OpR y_X_cell y_M_cell [.int a, .int b, .int c] := by
  intro tx x m d h
  have hS := h.2.2.2.2.2.2.2.1
  obtain ⟨sM, sX, sh⟩ := h.shs
  have lt : 0 ≤ a.toInt ∧ a.toInt ≤ 3 → a.toNatClampNeg < 4 := fun z => (tcl (n := 4) z.1 (by omega)).1
  have hsz : 0 ≤ a.toInt → a.toInt ≤ 3 → ¬ (m.1 22 a.toNatClampNeg).toInt = 0 → rng (m.1 24 a.toNatClampNeg) 0 40 := fun z1 z2 z3 => sM _ (lt ⟨z1, z2⟩) z3
  refine X_cell_ok (d := d + 78) (fun z1 z2 z3 => sX _ (lt ⟨z1, z2⟩) z3) (fun q => ?_) (fun q q2 => ?_) (fun q q2 q3 => ?_) (fun q q2 q3 x' ex => ?_)
  · exact M_cell_ok (d := d + 77) hsz (fun _ => ⟨rfl, tx, h⟩) (fun q' => absurd q' q) (fun q' => absurd q' q) (fun q' => absurd q' q)
  · have q2 := (sh _ (lt q)).1.mp q2
    exact M_cell_ok (d := d + 77) hsz (fun q' => absurd q q') (fun _ _ => ⟨rfl, tx, h⟩) (fun _ z => absurd q2 z) (fun _ z => absurd q2 z)
  · have q2 : ¬ (m.1 22 a.toNatClampNeg).toInt = 0 := fun z => q2 ((sh _ (lt q)).1.mpr z)
    rw [((sh _ (lt q)).2 q2).2.1] at q3
    exact M_cell_ok (d := d + 77) hsz (fun q' => absurd q q') (fun _ z => absurd z q2) (fun _ _ _ => ⟨rfl, tx, h⟩) (fun _ _ z => absurd z q3)
  · have q2 : ¬ (m.1 22 a.toNatClampNeg).toInt = 0 := fun z => q2 ((sh _ (lt q)).1.mpr z)
    obtain ⟨e1, e2, e3, e4, e5⟩ := (sh _ (lt q)).2 q2
    rw [e2] at q3
    rw [e1] at ex
    have tb := tcl (n := 40) q3.1 (by have := e4.2; omega)
    have l4 := lt q
    refine M_cell_ok (d := d + 77) hsz (fun q' => absurd q q') (fun _ z => absurd z q2) (fun _ _ z => absurd q3 z) (fun _ _ _ m' em => ⟨rfl, tx, h.sh (fun k hk => by rw [ex, wI_n (by omega)]) (fun k hk => by rw [em, wI_n (by omega)]) (by rw [em, wI_2]) (fun s hs => ?_)⟩)
    rw [show x'.1 58 = x.1 58 by rw [ex, wI_n (by omega)], show x'.1 59 = x.1 59 by rw [ex, wI_n (by omega)], show m'.1 22 = m.1 22 by rw [em, wI_n (by decide)], show m'.1 23 = m.1 23 by rw [em, wI_n (by decide)], show m'.1 24 = m.1 24 by rw [em, wI_n (by decide)]]
    rcases hS s hs with z | ⟨s1, s2, s3, s4, s5, s6⟩
    · exact Or.inl z
    · refine Or.inr ⟨s1, s2, s3, s4, s5, fun i hi => ?_⟩
      have := s5.2
      rw [em, wI_s]
      by_cases y : s = a.toNatClampNeg
      · rw [y] at hi ⊢
        rw [ex, wI_s]
        by_cases w : i = b.toNatClampNeg
        · rw [w, upd_s, upd_s]
        · rw [upd_n w, upd_n (by omega)]
          exact e5 i hi
      · rw [upd_n (by omega), show x'.1 (61 + s) = x.1 (61 + s) by rw [ex, wI_n (by omega)]]
        exact s6 i hi
theorem op_copy {a b c e f : Int32} : OpR y_X_copy y_M_copy [.int a, .int b, .int c, .int e, .int f] := by
  intro tx x m d h
  have hS := h.2.2.2.2.2.2.2.1
  obtain ⟨sM, sX, sh⟩ := h.shs
  have lta : 0 ≤ a.toInt ∧ a.toInt ≤ 3 ∧ 0 ≤ c.toInt ∧ c.toInt ≤ 3 → a.toNatClampNeg < 4 := fun z => (tcl (n := 4) z.1 (by omega)).1
  have ltc : 0 ≤ a.toInt ∧ a.toInt ≤ 3 ∧ 0 ≤ c.toInt ∧ c.toInt ≤ 3 → c.toNatClampNeg < 4 := fun z => (tcl (n := 4) z.2.2.1 (by omega)).1
  have cv : ∀ {s : Nat}, s < 4 → (¬ (x.1 58 s).toInt = -1 ↔ ¬ (m.1 22 s).toInt = 0) := fun hs => ⟨fun z y => z ((sh _ hs).1.mpr y), fun z y => z ((sh _ hs).1.mp y)⟩
  refine X_copy_ok (d := d + 78) sX (fun q => ?_) (fun q q2 => ?_) (fun q q2 q3 q4 => ?_) (fun q q2 q3 q4 q5 => ?_) (fun q q2 q3 q4 q5 x' ex => ?_)
  · exact M_copy_ok (d := d + 77) sM (fun _ => ⟨rfl, tx, h⟩) (fun q' => absurd q' q) (fun q' => absurd q' q) (fun q' => absurd q' q) (fun q' => absurd q' q)
  · have q2 : (m.1 22 a.toNatClampNeg).toInt = 0 ∨ (m.1 22 c.toNatClampNeg).toInt = 0 := q2.elim (fun z => Or.inl ((sh _ (lta q)).1.mp z)) (fun z => Or.inr ((sh _ (ltc q)).1.mp z))
    exact M_copy_ok (d := d + 77) sM (fun q' => absurd q q') (fun _ _ => ⟨rfl, tx, h⟩) (fun _ z1 z2 => absurd q2 (fun y => y.elim z1 z2)) (fun _ z1 z2 => absurd q2 (fun y => y.elim z1 z2)) (fun _ z1 z2 => absurd q2 (fun y => y.elim z1 z2))
  · have q2 := (cv (lta q)).mp q2
    have q3 := (cv (ltc q)).mp q3
    rw [((sh _ (lta q)).2 q2).1, ((sh _ (ltc q)).2 q3).1] at q4
    exact M_copy_ok (d := d + 77) sM (fun q' => absurd q q') (fun _ z => absurd z (fun y => y.elim q2 q3)) (fun _ _ _ _ => ⟨rfl, tx, h⟩) (fun _ _ _ z => absurd z q4) (fun _ _ _ z => absurd z q4)
  · have q2 := (cv (lta q)).mp q2
    have q3 := (cv (ltc q)).mp q3
    rw [((sh _ (lta q)).2 q2).1, ((sh _ (ltc q)).2 q3).1] at q4
    have q5 : ¬ okCp m a b c e f := fun z => q5 (by unfold okCpX; rw [((sh _ (lta q)).2 q2).2.1, ((sh _ (ltc q)).2 q3).2.1]; exact z)
    exact M_copy_ok (d := d + 77) sM (fun q' => absurd q q') (fun _ z => absurd z (fun y => y.elim q2 q3)) (fun _ _ _ z => absurd q4 z) (fun _ _ _ _ _ => ⟨rfl, tx, h⟩) (fun _ _ _ _ z => absurd z q5)
  · have q2 := (cv (lta q)).mp q2
    have q3 := (cv (ltc q)).mp q3
    obtain ⟨a1, a2, a3, a4, a5⟩ := (sh _ (lta q)).2 q2
    obtain ⟨c1, c2, c3, c4, c5⟩ := (sh _ (ltc q)).2 q3
    rw [a1, c1] at q4
    have q5 : okCp m a b c e f := by unfold okCpX at q5; rw [a2, c2] at q5; exact q5
    obtain ⟨k1, k2, k3, k4, k5⟩ := q5
    have a42 := a4.2
    have c42 := c4.2
    have tb := tcl (n := 41) k2 (by omega)
    have te := tcl (n := 41) k3 (by omega)
    have tf := tcl (n := 41) k1 (by omega)
    have la := lta q
    have lc := ltc q
    refine M_copy_ok (d := d + 77) sM (fun q' => absurd q q') (fun _ z => absurd z (fun y => y.elim q2 q3)) (fun _ _ _ z => absurd q4 z) (fun _ _ _ _ z => absurd ⟨k1, k2, k3, k4, k5⟩ z) (fun _ _ _ _ _ m' om m25 => ⟨rfl, tx, h.sh (fun k hk => by rw [ex, wI_n (by omega)]) (fun k hk => om.i k (by simp; omega)) (om.l 12) (fun s hs => ?_)⟩)
    rw [show x'.1 58 = x.1 58 by rw [ex, wI_n (by omega)], show x'.1 59 = x.1 59 by rw [ex, wI_n (by omega)], om.i 22, om.i 23, om.i 24]
    rcases hS s hs with z | ⟨s1, s2, s3, s4, s5, s6⟩
    · exact Or.inl z
    · refine Or.inr ⟨s1, s2, s3, s4, s5, fun i hi => ?_⟩
      have := s5.2
      rw [m25]
      by_cases y : s = c.toNatClampNeg
      · rw [y] at hi ⊢
        rw [ex, wI_s]
        unfold va_cpy
        by_cases w : e.toNatClampNeg ≤ i ∧ i < e.toNatClampNeg + f.toNatClampNeg
        · rw [if_pos w, if_pos (by omega), a5 _ (by omega)]
          have ei : 40 * a.toNatClampNeg + (b.toNatClampNeg + (i - e.toNatClampNeg)) = 40 * a.toNatClampNeg + b.toNatClampNeg + (40 * c.toNatClampNeg + i - (40 * c.toNatClampNeg + e.toNatClampNeg)) := by omega
          rw [ei]
        · rw [if_neg w, if_neg (by omega)]
          exact c5 i hi
      · rw [show x'.1 (61 + s) = x.1 (61 + s) by rw [ex, wI_n (by omega)], s6 i hi]
        unfold va_cpy
        rw [if_neg (by omega)]
/-! writers by a sheet -/
abbrev WS : Type := Nat × (Nat → Int32) × (Nat → Int32) × (Nat → Int32) × Int32
noncomputable def wsF (g : Nat → Int32) (p0 : Nat) (s0 : WS) : Nat → WS
  | 0 => s0
  | k + 1 => @ite _ (okWr (g (p0 + 3 * k)) (g (p0 + 3 * k + 1)) (g (p0 + 3 * k + 2)) ∧ (wsF g p0 s0 k).1 < 5) (Classical.propDecidable _) ((wsF g p0 s0 k).1 + 1, upd (wsF g p0 s0 k).2.1 (wsF g p0 s0 k).1 (g (p0 + 3 * k)), upd (wsF g p0 s0 k).2.2.1 (wsF g p0 s0 k).1 (g (p0 + 3 * k + 1)), upd (wsF g p0 s0 k).2.2.2.1 (wsF g p0 s0 k).1 (g (p0 + 3 * k + 2)), (wsF g p0 s0 k).2.2.2.2 + 1) (wsF g p0 s0 k)
theorem ws_y {g : Nat → Int32} {p0 : Nat} {s0 : WS} {k : Nat} (h : okWr (g (p0 + 3 * k)) (g (p0 + 3 * k + 1)) (g (p0 + 3 * k + 2)) ∧ (wsF g p0 s0 k).1 < 5) : wsF g p0 s0 (k + 1) = ((wsF g p0 s0 k).1 + 1, upd (wsF g p0 s0 k).2.1 (wsF g p0 s0 k).1 (g (p0 + 3 * k)), upd (wsF g p0 s0 k).2.2.1 (wsF g p0 s0 k).1 (g (p0 + 3 * k + 1)), upd (wsF g p0 s0 k).2.2.2.1 (wsF g p0 s0 k).1 (g (p0 + 3 * k + 2)), (wsF g p0 s0 k).2.2.2.2 + 1) := if_pos h
theorem ws_n {g : Nat → Int32} {p0 : Nat} {s0 : WS} {k : Nat} (h : ¬ (okWr (g (p0 + 3 * k)) (g (p0 + 3 * k + 1)) (g (p0 + 3 * k + 2)) ∧ (wsF g p0 s0 k).1 < 5)) : wsF g p0 s0 (k + 1) = wsF g p0 s0 k := if_neg h
theorem ws_ok {g : Nat → Int32} {p0 : Nat} {s0 : WS} (h5 : s0.1 ≤ 5) (hr : ∀ p, p < 5 → rng (s0.2.2.1 p) 0 23 ∧ rng (s0.2.2.2.1 p) 0 9999) : ∀ k, (wsF g p0 s0 k).1 ≤ 5 ∧ ∀ p, p < 5 → rng ((wsF g p0 s0 k).2.2.1 p) 0 23 ∧ rng ((wsF g p0 s0 k).2.2.2.1 p) 0 9999
  | 0 => ⟨h5, hr⟩
  | k + 1 => by
    have ih := ws_ok (g := g) (p0 := p0) h5 hr k
    by_cases y : okWr (g (p0 + 3 * k)) (g (p0 + 3 * k + 1)) (g (p0 + 3 * k + 2)) ∧ (wsF g p0 s0 k).1 < 5
    · rw [ws_y y]
      refine ⟨by show _ + 1 ≤ 5; omega, fun p hp => ?_⟩
      show rng (upd _ _ _ p) 0 23 ∧ rng (upd _ _ _ p) 0 9999
      by_cases z : p = (wsF g p0 s0 k).1
      · rw [z, upd_s, upd_s]
        exact ⟨⟨y.1.2.2.1, y.1.2.2.2.1⟩, ⟨y.1.2.2.2.2.1, y.1.2.2.2.2.2⟩⟩
      · rw [upd_n z, upd_n z]; exact ih.2 p hp
    · rw [ws_n y]; exact ih
/-- the class's writers after k -/
def wsX (x : Mem) (S : WS) (v : Int32) (t : Mem) : Prop := Only [16, 17, 18, 19] x t ∧ t.1 16 3 = nI S.1 ∧ v = S.2.2.2.2 ∧ ∀ p, p < 5 → t.1 17 p = S.2.1 p ∧ t.1 18 p = S.2.2.1 p ∧ t.1 19 p = S.2.2.2.1 p
def wsM (m : Mem) (S : WS) (v : Int32) (t : Mem) : Prop := Only [0, 7, 8, 9] m t ∧ (∀ k, k ≠ 14 → t.1 0 k = m.1 0 k) ∧ t.1 0 14 = nI S.1 ∧ v = S.2.2.2.2 ∧ ∀ p, p < 5 → t.1 7 p = S.2.1 p ∧ t.1 8 p = S.2.2.1 p ∧ t.1 9 p = S.2.2.2.1 p
theorem ws_R {tx : Nat → Nat → List Int32} {x m x' m' : Mem} {S : WS} {v v' : Int32} (h : R tx x m) (hx : wsX x S v x') (hm : wsM m S v' m') (h5 : S.1 ≤ 5) (hr : ∀ p, p < 5 → rng (S.2.2.1 p) 0 23 ∧ rng (S.2.2.2.1 p) 0 9999) : v' = v ∧ R tx x' m' := by
  obtain ⟨ox, x16, xv, xp⟩ := hx
  obtain ⟨om, os, m14, mv, mp⟩ := hm
  refine ⟨by rw [xv, mv], h.wr ox om os ⟨by rw [x16, m14], by rw [m14]; unfold rng; rw [nI_i (by omega)]; omega, fun p hp => ?_⟩⟩
  rw [(xp p hp).1, (xp p hp).2.1, (xp p hp).2.2, (mp p hp).1, (mp p hp).2.1, (mp p hp).2.2]
  exact ⟨rfl, rfl, rfl, (hr p hp).1, (hr p hp).2⟩
theorem op_writers {a b c e : Int32} : OpR y_X_writers y_M_writers [.int a, .int b, .int c, .int e] := by
  intro tx x m d h
  obtain ⟨sM, sX, sh⟩ := h.shs
  obtain ⟨p1, p2, p3⟩ := h.2.2.1
  obtain ⟨p21, p22⟩ := p2
  let g : Nat → Int32 := fun i => m.1 25 (40 * a.toNatClampNeg + i)
  let s0 : WS := ((m.1 0 14).toInt.toNat, m.1 7, m.1 8, m.1 9, 0)
  let S := wsF g c.toNatClampNeg s0
  let rm (k : Nat) : Prop := 0 ≤ c.toInt ∧ c.toInt + 3 * k + 3 ≤ (m.1 24 a.toNatClampNeg).toInt
  have wok : ∀ k, (S k).1 ≤ 5 ∧ ∀ p, p < 5 → rng ((S k).2.2.1 p) 0 23 ∧ rng ((S k).2.2.2.1 p) 0 9999 := ws_ok (g := g) (p0 := c.toNatClampNeg) (s0 := s0) (by show (m.1 0 14).toInt.toNat ≤ 5; omega) (fun p hp => ⟨(p3 p hp).2.2.2.1, (p3 p hp).2.2.2.2⟩)
  let cnd : Prop := 0 ≤ a.toInt ∧ a.toInt ≤ 3 ∧ 0 ≤ b.toInt ∧ b.toInt ≤ 2 ∧ 0 ≤ e.toInt ∧ e.toInt ≤ 5
  have lta : cnd → a.toNatClampNeg < 4 := fun z => (tcl (n := 4) z.1 (by have := z.2.1; omega)).1
  have M : ∀ (P : QQ), (¬ cnd → P (.int (-2)) m) → (cnd → (m.1 22 a.toNatClampNeg).toInt = 0 → P (.int (-11)) m) → (cnd → ¬ (m.1 22 a.toNatClampNeg).toInt = 0 → ¬ (m.1 23 a.toNatClampNeg).toInt = b.toInt → P (.int (-13)) m) → (cnd → ¬ (m.1 22 a.toNatClampNeg).toInt = 0 → (m.1 23 a.toNatClampNeg).toInt = b.toInt → (∀ i, i < e.toNatClampNeg → rm i) → ∀ v t, wsM m (S e.toNatClampNeg) v t → P (.int v) t) → (cnd → ¬ (m.1 22 a.toNatClampNeg).toInt = 0 → (m.1 23 a.toNatClampNeg).toInt = b.toInt → ∀ k, k < e.toNatClampNeg → (∀ i, i < k → rm i) → ¬ rm k → ∀ v t, wsM m (S k) v t → P (.int (-12)) t) → Call (d + 80) y_M_writers [.ref 0, .int a, .int b, .int c, .int e] m P := by
    intro P h1 h2 h3 h4 h5
    refine M_writers_ok (d := d + 77) sM (fun k v t => wsM m (S k) v t ∧ ∀ i, i < k → rm i) (fun k v t hj => ?_) ⟨⟨Only.rf, fun _ _ => rfl, nI_re p21, rfl, fun p hp => ⟨rfl, rfl, rfl⟩⟩, fun i hi => absurd hi (by omega)⟩ h1 h2 h3 (fun q1 q2 q3 v t hj => h4 q1 q2 q3 hj.2 v t hj.1) (fun q1 q2 q3 k v t hk hj hr => h5 q1 q2 q3 k hk hj.2 hr v t hj.1) (fun q1 q2 q3 k v t hk hj hr => ?_)
    · obtain ⟨⟨om, os, m14, _, _⟩, _⟩ := hj
      exact ⟨by rw [m14]; unfold rng; rw [nI_i (by have := (wok k).1; omega)]; have := (wok k).1; omega, om.i 22, om.i 23, om.i 24, om.i 25⟩
    · obtain ⟨⟨om, os, m14, mv, mp⟩, hall⟩ := hj
      have w5 : (S k).1 ≤ 5 := (wok k).1
      have i14 : (t.1 0 14).toInt = (S k).1 := by rw [m14, nI_i (by omega)]
      have all' : ∀ i, i < k + 1 → rm i := fun i hi => by
        by_cases y : i = k
        · rw [y]; exact hr
        · exact hall i (by omega)
      have pe : 40 * a.toNatClampNeg + c.toNatClampNeg + 3 * k = 40 * a.toNatClampNeg + (c.toNatClampNeg + 3 * k) := by omega
      have g0 : m.1 25 (40 * a.toNatClampNeg + c.toNatClampNeg + 3 * k) = g (c.toNatClampNeg + 3 * k) := by rw [pe]
      have g1 : m.1 25 (40 * a.toNatClampNeg + c.toNatClampNeg + 3 * k + 1) = g (c.toNatClampNeg + 3 * k + 1) := by rw [pe]; rfl
      have g2 : m.1 25 (40 * a.toNatClampNeg + c.toNatClampNeg + 3 * k + 2) = g (c.toNatClampNeg + 3 * k + 2) := by rw [pe]; rfl
      dsimp only
      rw [g0, g1, g2]
      refine ⟨fun y => ?_, fun y y2 t' ot t7 t8 t9 t0 => ?_⟩
      · have e1 : S (k + 1) = S k := ws_n (fun z => y ⟨z.1, by rw [i14]; have z2 : (S k).1 < 5 := z.2; omega⟩)
        rw [e1]
        exact ⟨⟨om, os, m14, mv, mp⟩, all'⟩
      · have y3 : (S k).1 < 5 := by omega
        have e1 := ws_y (g := g) (p0 := c.toNatClampNeg) (s0 := s0) (k := k) ⟨y, y3⟩
        have ck : (t.1 0 14).toNatClampNeg = (S k).1 := by rw [m14]; exact nI_c (by omega)
        rw [ck] at t7 t8 t9
        refine ⟨⟨om.trans ot, fun j hj => by rw [t0, upd_n hj]; exact os j hj, ?_, ?_, fun p hp => ?_⟩, all'⟩
        · show _ = nI (wsF g c.toNatClampNeg s0 (k + 1)).1
          rw [e1, t0, upd_s, m14, nI_1]
        · show _ = (wsF g c.toNatClampNeg s0 (k + 1)).2.2.2.2
          rw [e1, mv]
        · show _ = (wsF g c.toNatClampNeg s0 (k + 1)).2.1 p ∧ _ = (wsF g c.toNatClampNeg s0 (k + 1)).2.2.1 p ∧ _ = (wsF g c.toNatClampNeg s0 (k + 1)).2.2.2.1 p
          rw [e1, t7, t8, t9]
          by_cases z : p = (S k).1
          · rw [z]
            show upd _ _ _ _ = upd _ _ _ _ ∧ upd _ _ _ _ = upd _ _ _ _ ∧ upd _ _ _ _ = upd _ _ _ _
            rw [upd_s, upd_s, upd_s, upd_s, upd_s, upd_s]
            exact ⟨rfl, rfl, rfl⟩
          · show upd _ _ _ _ = upd _ _ _ _ ∧ upd _ _ _ _ = upd _ _ _ _ ∧ upd _ _ _ _ = upd _ _ _ _
            rw [upd_n z, upd_n z, upd_n z, upd_n z, upd_n z, upd_n z]
            exact mp p hp
  refine X_writers_ok (d := d + 77) sX (fun k v t => wsX x (S k) v t ∧ ∀ i, i < k → rm i) (fun k v t hj => ?_) ⟨⟨Only.rf, by rw [p1]; exact nI_re p21, rfl, fun p hp => ⟨(p3 p hp).1, (p3 p hp).2.1, (p3 p hp).2.2.1⟩⟩, fun i hi => absurd hi (by omega)⟩ (fun q => ?_) (fun q q2 => ?_) (fun q q2 q3 => ?_) (fun q q2 q3 v t hj => ?_) (fun q q2 q3 k v t hk hj hr => ?_) (fun q q2 q3 k v t hk hj hr => ?_)
  · obtain ⟨⟨ox, x16, _, _⟩, _⟩ := hj
    exact ⟨by rw [x16]; unfold rng; rw [nI_i (by have := (wok k).1; omega)]; have := (wok k).1; omega, ox.i 58, ox.i 59, fun s hs => ox.i (61 + s) (by simp; omega)⟩
  · exact M _ (fun _ => ⟨rfl, tx, h⟩) (fun q' => absurd q' q) (fun q' => absurd q' q) (fun q' => absurd q' q) (fun q' => absurd q' q)
  · have q2 := (sh _ (lta q)).1.mp q2
    exact M _ (fun q' => absurd q q') (fun _ _ => ⟨rfl, tx, h⟩) (fun _ z => absurd q2 z) (fun _ z => absurd q2 z) (fun _ z => absurd q2 z)
  · have q2 : ¬ (m.1 22 a.toNatClampNeg).toInt = 0 := fun z => q2 ((sh _ (lta q)).1.mpr z)
    rw [((sh _ (lta q)).2 q2).1] at q3
    exact M _ (fun q' => absurd q q') (fun _ z => absurd z q2) (fun _ _ _ => ⟨rfl, tx, h⟩) (fun _ _ z => absurd z q3) (fun _ _ z => absurd z q3)
  · have q2 : ¬ (m.1 22 a.toNatClampNeg).toInt = 0 := fun z => q2 ((sh _ (lta q)).1.mpr z)
    rw [((sh _ (lta q)).2 q2).1] at q3
    refine M _ (fun q' => absurd q q') (fun _ z => absurd z q2) (fun _ _ z => absurd q3 z) (fun _ _ _ _ v' t' hj' => ?_) (fun _ _ _ k hk _ hn => absurd (hj.2 k hk) hn)
    obtain ⟨r1, r2⟩ := ws_R h hj.1 hj' (wok _).1 (wok _).2
    exact ⟨by rw [r1], tx, r2⟩
  · have q2 : ¬ (m.1 22 a.toNatClampNeg).toInt = 0 := fun z => q2 ((sh _ (lta q)).1.mpr z)
    obtain ⟨e1, e2, e3, e4, e5⟩ := (sh _ (lta q)).2 q2
    rw [e1] at q3
    rw [e2] at hr
    have hr : ¬ rm k := hr
    refine M _ (fun q' => absurd q q') (fun _ z => absurd z q2) (fun _ _ z => absurd q3 z) (fun _ _ _ hall _ _ _ => absurd (hall k hk) hr) (fun _ _ _ k' hk' hall' hn' v' t' hj' => ?_)
    have ek : k' = k := by
      rcases Nat.lt_trichotomy k' k with y | y | y
      · exact absurd (hj.2 k' y) hn'
      · exact y
      · exact absurd (hall' k y) hr
    subst ek
    exact ⟨rfl, tx, (ws_R h hj.1 hj' (wok _).1 (wok _).2).2⟩
  · obtain ⟨⟨ox, x16, xv, xp⟩, hall⟩ := hj
    have q2 : ¬ (m.1 22 a.toNatClampNeg).toInt = 0 := fun z => q2 ((sh _ (lta q)).1.mpr z)
    obtain ⟨e1, e2, e3, e4, e5⟩ := (sh _ (lta q)).2 q2
    rw [e2] at hr
    have hr : rm k := hr
    have w5 : (S k).1 ≤ 5 := (wok k).1
    have i16 : (t.1 16 3).toInt = (S k).1 := by rw [x16, nI_i (by omega)]
    have all' : ∀ i, i < k + 1 → rm i := fun i hi => by
      by_cases y : i = k
      · rw [y]; exact hr
      · exact hall i (by omega)
    have cc : (c.toNatClampNeg : Int) = c.toInt := by unfold Int32.toNatClampNeg; have := hr.1; omega
    have r2 := hr.2
    have g0 : x.1 (61 + a.toNatClampNeg) (c.toNatClampNeg + 3 * k) = g (c.toNatClampNeg + 3 * k) := e5 _ (by omega)
    have g1 : x.1 (61 + a.toNatClampNeg) (c.toNatClampNeg + 3 * k + 1) = g (c.toNatClampNeg + 3 * k + 1) := e5 _ (by omega)
    have g2 : x.1 (61 + a.toNatClampNeg) (c.toNatClampNeg + 3 * k + 2) = g (c.toNatClampNeg + 3 * k + 2) := e5 _ (by omega)
    dsimp only
    rw [g0, g1, g2]
    refine ⟨fun y => ?_, fun y y2 t' ot t7 t8 t9 t0 => ?_⟩
    · have e1 : S (k + 1) = S k := ws_n (fun z => y ⟨z.1, by rw [i16]; have z2 : (S k).1 < 5 := z.2; omega⟩)
      rw [e1]
      exact ⟨⟨ox, x16, xv, xp⟩, all'⟩
    · have y3 : (S k).1 < 5 := by omega
      have e1 := ws_y (g := g) (p0 := c.toNatClampNeg) (s0 := s0) (k := k) ⟨y, y3⟩
      have ck : (t.1 16 3).toNatClampNeg = (S k).1 := by rw [x16]; exact nI_c (by omega)
      rw [ck] at t7 t8 t9
      refine ⟨⟨ox.trans ot, ?_, ?_, fun p hp => ?_⟩, all'⟩
      · show _ = nI (wsF g c.toNatClampNeg s0 (k + 1)).1
        rw [e1, t0, upd_s, x16, nI_1]
      · show _ = (wsF g c.toNatClampNeg s0 (k + 1)).2.2.2.2
        rw [e1, xv]
      · show _ = (wsF g c.toNatClampNeg s0 (k + 1)).2.1 p ∧ _ = (wsF g c.toNatClampNeg s0 (k + 1)).2.2.1 p ∧ _ = (wsF g c.toNatClampNeg s0 (k + 1)).2.2.2.1 p
        rw [e1, t7, t8, t9]
        by_cases z : p = (S k).1
        · rw [z]
          show upd _ _ _ _ = upd _ _ _ _ ∧ upd _ _ _ _ = upd _ _ _ _ ∧ upd _ _ _ _ = upd _ _ _ _
          rw [upd_s, upd_s, upd_s, upd_s, upd_s, upd_s]
          exact ⟨rfl, rfl, rfl⟩
        · show upd _ _ _ _ = upd _ _ _ _ ∧ upd _ _ _ _ = upd _ _ _ _ ∧ upd _ _ _ _ = upd _ _ _ _
          rw [upd_n z, upd_n z, upd_n z, upd_n z, upd_n z, upd_n z]
          exact xp p hp
