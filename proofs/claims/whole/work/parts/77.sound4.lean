/-! ===== one step ===== -/
section STEP2
variable {p : Program} {l : Launch} {e : Env} {R : Room} {s : State} {m : MethodId} {args : Array Value} {below : List Frame} {meth : Method} {c : Code} {D : va_G} {ad tc : Nat → Nat} {fz : Value} {A : Nat → Prop} {sd y d : Nat} {Z : State → Prop} {i : Nat} {lv st : List Value} {μ : Mem} {raw : Instr} {len : Nat}
theorem simple {ins : Instr} (hok : (decide (raw = ins) && Nat.beq len 1) = true) (hdec : decode (bc y) (pcs y i) = .ok (raw, len)) (hnx : pcs y (i + 1) = pcs y i + len) : decode (bc y) (pcs y i) = .ok (ins, 1) ∧ pcs y (i + 1) = pcs y i + 1 := by
  simp only [Bool.and_eq_true] at hok
  have e1 : raw = ins := of_decide_eq_true hok.1
  have e2 : len = 1 := Nat.eq_of_beq_eq_true hok.2
  subst e1; subst e2
  exact ⟨hdec, hnx⟩
theorem WA.at {k n : Nat} (h : WA p l e R s m args below meth c D ad tc fz A sd y Z k lv st μ) (hk : pcs y k = n) : ∀ (H : Heap) (locs : List Loc) (ls : Array Slot), lvR ad fz ls (inf y).2.2.1 lv → va_P D vwCl (wl sd ad tc μ) H → va_D A (wl sd ad tc μ) → va_S A s.heap H locs → ROm sd μ → W p l e R s m args below meth c H locs 0 0 Z (F0 m n ls (st.map (cv ad fz))) := by
  intro H locs ls h1 h2 h3 h4 h5
  have h6 := h H locs ls h1 h2 h3 h4 h5
  rw [hk] at h6
  exact h6
theorem ROm.w {k : Nat} {g : Nat → Int32} (h : ROm sd μ) (hk : k < Nw sd) : ROm sd (wI μ k g) := by
  match sd, h, hk with
  | 0, ⟨h1, h2⟩, hk =>
    have hk : k < 65 := hk
    refine ⟨fun j hj => ?_, fun i hi => ⟨?_, fun j hj => ?_⟩⟩
    · simp only [wI, show ¬ (65 = k) by omega, if_false]
      exact h1 j hj
    · simp only [wI, show ¬ (66 + 2 * i = k) by omega, if_false]
      exact (h2 i hi).1
    · simp only [wI, show ¬ (67 + 2 * i = k) by omega, if_false]
      exact (h2 i hi).2 j hj
  | n + 1, h, _ => exact h
theorem ROm.wl {k : Nat} {g : Nat → Int64} (h : ROm sd μ) : ROm sd (wL μ k g) := h
theorem setI {k : Nat} {g : Nat → Int32} (hk : k < Nw sd) {e0 : va_E} (he : cellE sd ad tc g (μ.2 k) k = e0) : (wl sd ad tc μ).set k (ad k, e0) = wl sd ad tc (wI μ k g) := by
  rw [← he]
  have := wl_set (ad := ad) (tc := tc) (μ := μ) (μ' := wI μ k g) hk (fun a h => by simp [wI, h]) (fun a _ => rfl)
  simpa [wI] using this
theorem setL {k : Nat} {g : Nat → Int64} (hk : k < Nw sd) {e0 : va_E} (he : cellE sd ad tc (μ.1 k) g k = e0) : (wl sd ad tc μ).set k (ad k, e0) = wl sd ad tc (wL μ k g) := by
  rw [← he]
  have := wl_set (ad := ad) (tc := tc) (μ := μ) (μ' := wL μ k g) hk (fun a _ => rfl) (fun a h => by simp [wL, h])
  simpa [wL] using this
theorem fsE_set {f : Nat → Int32} {g : Nat → Int64} {v : Int32} : ∀ (l : List (Nat × Nat)) (j0 j : Nat) (q : Nat × Nat), l[j]? = some q → q.1 ≠ 3 → q.1 ≠ 2 → (fsE ad f g j0 l).set j (.int v) = fsE ad (upd f (j0 + j) v) g j0 l := by
  intro l j0 j q hq h3 h2
  apply List.ext_getElem?
  intro x
  by_cases e : x = j
  · subst e
    rw [List.getElem?_set_self (by rw [fsE_len]; exact (List.getElem?_eq_some_iff.mp hq).1), fsE_get, hq]
    obtain ⟨q1, q2⟩ := q
    dsimp only at h3 h2
    simp only [Option.map_some]
    congr 1
    unfold fv
    split
    · rename_i e2; cases e2; exact absurd rfl h3
    · rename_i e2; cases e2; exact absurd rfl h2
    · simp [upd]
  · rw [List.getElem?_set_ne (Ne.symm e), fsE_get, fsE_get]
    congr 1
    funext q'
    unfold fv
    split <;> first | rfl | (simp [upd]; exact fun z => absurd z e)
theorem fsE_setL {f : Nat → Int32} {g : Nat → Int64} {v : Int64} : ∀ (l : List (Nat × Nat)) (j0 j : Nat) (q : Nat × Nat), l[j]? = some q → q.1 = 2 → (fsE ad f g j0 l).set j (.long v) = fsE ad f (vp_updL g (j0 + j) v) j0 l := by
  intro l j0 j q hq h2
  apply List.ext_getElem?
  intro x
  by_cases e : x = j
  · subst e
    rw [List.getElem?_set_self (by rw [fsE_len]; exact (List.getElem?_eq_some_iff.mp hq).1), fsE_get, hq]
    obtain ⟨q1, q2⟩ := q
    dsimp only at h2
    subst h2
    simp [fv, vp_updL]
  · rw [List.getElem?_set_ne (Ne.symm e), fsE_get, fsE_get]
    congr 1
    funext q'
    unfold fv
    split <;> first | rfl | (simp [vp_updL]; exact fun z => absurd z e)
/-- branches -/
theorem s_cnd (C : Cx p R s m args meth c D ad tc fz A sd y d) {cd : Jvm.ClassFile.Cond} {off : Int} {H : Heap} {locs : List Loc} {ls : Array Slot} {a b : Int32} {r : List Value} {tgt : Nat} (hdec : decode (bc y) (pcs y i) = .ok (.if_icmp cd off, 3)) (ht : ((pcs y i : Nat) : Int) + off = (tgt : Int)) {X Y : Prop}
    (hX : X → W p l e R s m args below meth c H locs 0 0 Z (F0 m tgt ls r)) (hY : Y → W p l e R s m args below meth c H locs 0 0 Z (F0 m (pcs y i + 3) ls r)) (h : cnd cd a b X Y) : W p l e R s m args below meth c H locs 0 0 Z (F0 m (pcs y i) ls (.int b :: .int a :: r)) := by
  obtain ⟨hx, hb, -⟩ := C
  cases cd
  · exact lv_icmp_eq hx hb hdec ht (fun q => hX (h.1 q)) (fun q => hY (h.2 q))
  · exact lv_icmp_ne hx hb hdec ht (fun q => hX (h.1 q)) (fun q => hY (h.2 q))
  · exact lv_icmp_lt hx hb hdec ht (fun q => hX (h.1 q)) (fun q => hY (h.2 q))
  · exact lv_icmp_ge hx hb hdec ht (fun q => hX (h.1 q)) (fun q => hY (h.2 q))
  · exact lv_icmp_gt hx hb hdec ht (fun q => hX (h.1 q)) (fun q => hY (h.2 q))
  · exact lv_icmp_le hx hb hdec ht (fun q => hX (h.1 q)) (fun q => hY (h.2 q))
theorem s_cnd0 (C : Cx p R s m args meth c D ad tc fz A sd y d) {cd : Jvm.ClassFile.Cond} {off : Int} {H : Heap} {locs : List Loc} {ls : Array Slot} {a : Int32} {r : List Value} {tgt : Nat} (hdec : decode (bc y) (pcs y i) = .ok (.ifCond cd off, 3)) (ht : ((pcs y i : Nat) : Int) + off = (tgt : Int)) {X Y : Prop}
    (hX : X → W p l e R s m args below meth c H locs 0 0 Z (F0 m tgt ls r)) (hY : Y → W p l e R s m args below meth c H locs 0 0 Z (F0 m (pcs y i + 3) ls r)) (h : cnd cd a 0 X Y) : W p l e R s m args below meth c H locs 0 0 Z (F0 m (pcs y i) ls (.int a :: r)) := by
  obtain ⟨hx, hb, -⟩ := C
  cases cd
  · exact lv_if_eq hx hb hdec ht (fun q => hX (h.1 q)) (fun q => hY (h.2 q))
  · exact lv_if_ne hx hb hdec ht (fun q => hX (h.1 q)) (fun q => hY (h.2 q))
  · exact lv_if_lt hx hb hdec ht (fun q => hX (h.1 q)) (fun q => hY (h.2 q))
  · exact lv_if_ge hx hb hdec ht (fun q => hX (h.1 q)) (fun q => hY (h.2 q))
  · exact lv_if_gt hx hb hdec ht (fun q => hX (h.1 q)) (fun q => hY (h.2 q))
  · exact lv_if_le hx hb hdec ht (fun q => hX (h.1 q)) (fun q => hY (h.2 q))
theorem swc_T {x : Int32} {P : Nat → Prop} {pcl : Nat → Nat} {pc : Int} : ∀ (ps : List (Int × Int)) (os : List Int) (v : Int) (d : Nat), okT pcl pc v ps os = true → -1000 < v → v + (os.length : Int) < 1001 → swc x ps P d →
    ((x.toInt < v ∨ v + (os.length : Int) - 1 < x.toInt) ∧ P d) ∨ (¬ x.toInt < v ∧ ¬ v + (os.length : Int) - 1 < x.toInt ∧ ∃ o t, os[(x.toInt - v).toNat]? = some o ∧ pc + o = (pcl t : Int) ∧ P t)
  | [], [], v, d, _, _, _, h => by
    left
    exact ⟨by simp; omega, h⟩
  | [], _ :: _, v, d, h, _, _, _ => by simp [okT] at h
  | _ :: _, [], v, d, h, _, _, _ => by simp [okT] at h
  | (k, t) :: ps, o :: os, v, d, hk, h1, h2, h => by
    simp only [okT, Bool.and_eq_true] at hk
    obtain ⟨⟨g1, g2⟩, g3⟩ := hk
    have g1 : cK k.toNat = Int32.ofInt v := of_decide_eq_true g1
    have g2 : pc + o = (pcl t.toNat : Int) := of_decide_eq_true g2
    have hl : ((o :: os).length : Int) = (os.length : Int) + 1 := by simp
    rw [hl] at h2 ⊢
    have hv : (Int32.ofInt v).toInt = v := Int32.toInt_ofInt_of_le (by simp; omega) (by simp; omega)
    by_cases e : x = cK k.toNat
    · right
      have e2 : x.toInt = v := by rw [e, g1, hv]
      refine ⟨by omega, by omega, o, t.toNat, ?_, g2, h.1 e⟩
      rw [e2]
      simp
    · have h3 := swc_T ps os (v + 1) d g3 (by omega) (by omega) (h.2 e)
      have e2 : x.toInt ≠ v := by
        intro q
        apply e
        rw [g1, ← q]
        exact (Int32.ofInt_toInt x).symm
      rcases h3 with ⟨h4, h5⟩ | ⟨h4, h5, o', t', h6, h7⟩
      · left
        exact ⟨by omega, h5⟩
      · right
        refine ⟨by omega, by omega, o', t', ?_, h7⟩
        have : (x.toInt - v).toNat = (x.toInt - (v + 1)).toNat + 1 := by omega
        rw [this, List.getElem?_cons_succ]
        exact h6
theorem swc_L {x : Int32} {P : Nat → Prop} {pcl : Nat → Nat} {pc : Int} : ∀ (ps os : List (Int × Int)) (d : Nat) (df : Int), okL pcl pc ps os = true → pc + df = (pcl d : Int) → swc x ps P d → ∃ t, pc + Op.lookupswitch.offset os df x.toInt = (pcl t : Int) ∧ P t
  | [], [], d, df, _, hd, h => ⟨d, hd, h⟩
  | [], _ :: _, d, df, h, _, _ => by simp [okL] at h
  | _ :: _, [], d, df, h, _, _ => by simp [okL] at h
  | (k, t) :: ps, (v, o) :: os, d, df, hk, hd, h => by
    simp only [okL, Bool.and_eq_true] at hk
    obtain ⟨⟨⟨g1, g0⟩, g2⟩, g3⟩ := hk
    have g1 : cK k.toNat = Int32.ofInt v := of_decide_eq_true g1
    have g0 : (Int32.ofInt v).toInt = v := of_decide_eq_true g0
    have g2 : pc + o = (pcl t.toNat : Int) := of_decide_eq_true g2
    rw [Op.lookupswitch.offset_cons]
    by_cases e : x = cK k.toNat
    · have e2 : v = x.toInt := by rw [e, g1, g0]
      rw [if_pos e2]
      exact ⟨t.toNat, g2, h.1 e⟩
    · have e2 : ¬ v = x.toInt := by
        intro q
        apply e
        rw [g1, q]
        exact (Int32.ofInt_toInt x).symm
      rw [if_neg e2]
      exact swc_L ps os d df g3 hd (h.2 e)
end STEP2
