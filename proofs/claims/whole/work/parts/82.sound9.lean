/-! ===== the abstract machine is the machine ===== -/
theorem lay_tag {sd k t n b : Nat} (h : lay sd k = (t, n, b)) (h9 : t ≠ 9) : t ≤ 5 := by
  have key : ∀ (L : List (Nat × Nat × Nat)), L.all (fun q => Nat.ble q.1 5) = true → nth (9, 0, 0) L k = (t, n, b) → t ≤ 5 := by
    intro L hL hn
    by_cases hk : k < L.length
    · have := List.all_eq_true.mp hL _ (nth_mem (d := (9, 0, 0)) hk)
      rw [hn] at this
      exact Nat.le_of_ble_eq_true this
    · rw [nth_ge (by omega)] at hn
      cases hn
      exact absurd rfl h9
  unfold lay at h
  match sd, h with
  | 0, h => exact key layX (by decide +kernel) h
  | sd + 1, h => exact key layM (by decide +kernel) h
section STEP7
variable {p : Program} {l : Launch} {e : Env} {R : Room} {s : State} {m : MethodId} {args : Array Value} {below : List Frame} {meth : Method} {c : Code} {D : va_G} {ad tc : Nat → Nat} {fz : Value} {A : Nat → Prop} {sd y d : Nat} {i : Nat} {lv st : List Value} {μ : Mem} {raw : Instr} {len : Nat} {Q : QQ}
abbrev ZA (below : List Frame) (D : va_G) (ad tc : Nat → Nat) (A : Nat → Prop) (sd : Nat) (t : Option FieldType) (Q : QQ) (args : Array Value) (s : State) : State → Prop := MQ below (QcA D ad tc A sd t Q) args s 0 0 A
theorem s_ret (C : Cx p R s m args meth c D ad tc fz A sd y d) {H : Heap} {locs : List Loc} (hP : va_P D vwCl (wl sd ad tc μ) H) (hS : va_S A s.heap H locs) (hro : ROm sd μ) {r : Value} (hq : Q r μ) {t0 : Option FieldType} : ∀ t : State, t.heap = H → s.WarmedH t.vm → QcA D ad tc A sd t0 Q args s (.returned (rvl t0 r)) t := fun t ht _ => ⟨⟨r, μ, rfl, hq, hro, by rw [ht]; exact hP⟩, hS.F ht⟩
set_option maxHeartbeats 4000000 in
theorem step_ok (C : Cx p R s m args meth c D ad tc fz A sd y d) (h9 : sd ≠ 9) (hmo : ∀ y, y < 200 → mOk y = true) (ih : IH l D ad tc fz sd d)
    (h : stp (inf y).1 (inf y).2.2.2.2.1 (Call d) Q (nth .nop (prog y) i) i lv st μ (WA p l e R s m args below meth c D ad tc fz A sd y (ZA below D ad tc A sd (inf y).2.2.2.2.1 Q args s))) : WA p l e R s m args below meth c D ad tc fz A sd y (ZA below D ad tc A sd (inf y).2.2.2.2.1 Q args s) i lv st μ := by
  have hsd : (inf y).1 = sd := C.2.2.2.2.2.2.2.2.2.2.1
  have hck : chkY y = true := C.2.2.2.2.2.2.2.2.2.2.2.1
  rw [hsd] at h
  by_cases hnop : nth .nop (prog y) i = .nop
  · rw [hnop] at h
    exact h.elim
  obtain ⟨raw, len, hdec, hok, hnx⟩ := at_i hck hnop
  generalize nth .nop (prog y) i = ins at h hok
  have hx := C.1
  have hb := C.2.1
  have hr := C.2.2.1
  have hlk := C.2.2.2.2.2.2.1
  unfold stp at h
  cases ins
  case ldc n => exact s_ldc C hok hdec hnx h
  case ldc2_w n => exact s_ldc2 C hok hdec hnx h
  case ldc_w n => exact s_ldcs C h9 hok hdec hnx h
  case getstatic n => exact s_static C h9 hok hdec hnx h
  case iload n =>
    dsimp only at h
    split at h
    · rename_i x hv
      exact s_loads C hv hdec hnx h (Or.inl ⟨x, rfl, hok⟩)
    · exact h.elim
  case lload n =>
    dsimp only at h
    split at h
    · rename_i x hv
      exact s_loads C hv hdec hnx h (Or.inr (Or.inl ⟨x, rfl, hok⟩))
    · exact h.elim
  case aload n =>
    dsimp only at h
    split at h
    · rename_i x hv
      exact s_loads C hv hdec hnx h (Or.inr (Or.inr ⟨x, rfl, hok⟩))
    · exact h.elim
  case istore n =>
    obtain ⟨x, r, rfl, h2⟩ := pI_inv h
    split at h2
    · rename_i ho
      exact s_istore C hok hdec hnx ho h2
    · exact h2.elim
  case astore n =>
    obtain ⟨x, r, rfl, h2⟩ := pR_inv h
    split at h2
    · rename_i ho
      exact s_astore C hok hdec hnx ho h2
    · exact h2.elim
  case lstore n =>
    obtain ⟨x, r, rfl, h2⟩ := pL_inv h
    split at h2
    · rename_i ho
      exact s_lstore C hok hdec hnx ho h2
    · exact h2.elim
  case iinc n ci =>
    dsimp only at h
    split at h
    · rename_i x hv
      split at h
      · rename_i ho
        exact s_iinc C hok hdec hnx hv ho h
      · exact h.elim
    · exact h.elim
  case iadd =>
    obtain ⟨a, b, r, rfl, h2⟩ := pII_inv h
    obtain ⟨hd, hn⟩ := simple hok hdec hnx
    exact fun H locs ls hl hP hD hS hro => lv_iadd hx hb hd (h2.at hn H locs ls hl hP hD hS hro)
  case isub =>
    obtain ⟨a, b, r, rfl, h2⟩ := pII_inv h
    obtain ⟨hd, hn⟩ := simple hok hdec hnx
    exact fun H locs ls hl hP hD hS hro => lv_isub hx hb hd (h2.at hn H locs ls hl hP hD hS hro)
  case imul =>
    obtain ⟨a, b, r, rfl, h2⟩ := pII_inv h
    obtain ⟨hd, hn⟩ := simple hok hdec hnx
    exact fun H locs ls hl hP hD hS hro => lv_imul hx hb hd (h2.at hn H locs ls hl hP hD hS hro)
  case idiv =>
    obtain ⟨a, b, r, rfl, h0, h2⟩ := pII_inv h
    obtain ⟨hd, hn⟩ := simple hok hdec hnx
    exact fun H locs ls hl hP hD hS hro => lv_idiv hx hb hd h0 (WA.at h2 hn H locs ls hl hP hD hS hro)
  case irem =>
    obtain ⟨a, b, r, rfl, h0, h2⟩ := pII_inv h
    obtain ⟨hd, hn⟩ := simple hok hdec hnx
    exact fun H locs ls hl hP hD hS hro => lv_irem hx hb hd h0 (WA.at h2 hn H locs ls hl hP hD hS hro)
  case ineg =>
    obtain ⟨a, r, rfl, h2⟩ := pI_inv h
    obtain ⟨hd, hn⟩ := simple hok hdec hnx
    exact fun H locs ls hl hP hD hS hro => lv_ineg hx hb hd (h2.at hn H locs ls hl hP hD hS hro)
  case iand =>
    obtain ⟨a, b, r, rfl, h2⟩ := pII_inv h
    obtain ⟨hd, hn⟩ := simple hok hdec hnx
    exact fun H locs ls hl hP hD hS hro => lv_iand hx hb hd (h2.at hn H locs ls hl hP hD hS hro)
  case ior =>
    obtain ⟨a, b, r, rfl, h2⟩ := pII_inv h
    obtain ⟨hd, hn⟩ := simple hok hdec hnx
    exact fun H locs ls hl hP hD hS hro => lv_ior hx hb hd (h2.at hn H locs ls hl hP hD hS hro)
  case ishl =>
    obtain ⟨a, b, r, rfl, h2⟩ := pII_inv h
    obtain ⟨hd, hn⟩ := simple hok hdec hnx
    exact fun H locs ls hl hP hD hS hro => lv_ishl hx hb hd (h2.at hn H locs ls hl hP hD hS hro)
  case ishr =>
    obtain ⟨a, b, r, rfl, h2⟩ := pII_inv h
    obtain ⟨hd, hn⟩ := simple hok hdec hnx
    exact fun H locs ls hl hP hD hS hro => lv_ishr hx hb hd (h2.at hn H locs ls hl hP hD hS hro)
  case iushr =>
    obtain ⟨a, b, r, rfl, h2⟩ := pII_inv h
    obtain ⟨hd, hn⟩ := simple hok hdec hnx
    exact fun H locs ls hl hP hD hS hro => lv_iushr hx hb hd rfl (h2.at hn H locs ls hl hP hD hS hro)
  case i2l =>
    obtain ⟨a, r, rfl, h2⟩ := pI_inv h
    obtain ⟨hd, hn⟩ := simple hok hdec hnx
    exact fun H locs ls hl hP hD hS hro => lv_i2l hx hb hd rfl (h2.at hn H locs ls hl hP hD hS hro)
  case l2i =>
    obtain ⟨a, r, rfl, h2⟩ := pL_inv h
    obtain ⟨hd, hn⟩ := simple hok hdec hnx
    exact fun H locs ls hl hP hD hS hro => lv_l2i hx hb hd rfl (h2.at hn H locs ls hl hP hD hS hro)
  case i2b =>
    obtain ⟨a, r, rfl, h2⟩ := pI_inv h
    obtain ⟨hd, hn⟩ := simple hok hdec hnx
    exact fun H locs ls hl hP hD hS hro => lv_i2b hx hb hd rfl (h2.at hn H locs ls hl hP hD hS hro)
  case i2s =>
    obtain ⟨a, r, rfl, h2⟩ := pI_inv h
    obtain ⟨hd, hn⟩ := simple hok hdec hnx
    exact fun H locs ls hl hP hD hS hro => lv_i2s hx hb hd rfl (h2.at hn H locs ls hl hP hD hS hro)
  case i2c =>
    obtain ⟨a, r, rfl, h2⟩ := pI_inv h
    obtain ⟨hd, hn⟩ := simple hok hdec hnx
    exact fun H locs ls hl hP hD hS hro => lv_i2c hx hb hd rfl (h2.at hn H locs ls hl hP hD hS hro)
  case ladd =>
    obtain ⟨a, b, r, rfl, h2⟩ := pLL_inv h
    obtain ⟨hd, hn⟩ := simple hok hdec hnx
    exact fun H locs ls hl hP hD hS hro => lv_ladd hx hb hd (h2.at hn H locs ls hl hP hD hS hro)
  case lsub =>
    obtain ⟨a, b, r, rfl, h2⟩ := pLL_inv h
    obtain ⟨hd, hn⟩ := simple hok hdec hnx
    exact fun H locs ls hl hP hD hS hro => lv_lsub hx hb hd (h2.at hn H locs ls hl hP hD hS hro)
  case lmul =>
    obtain ⟨a, b, r, rfl, h2⟩ := pLL_inv h
    obtain ⟨hd, hn⟩ := simple hok hdec hnx
    exact fun H locs ls hl hP hD hS hro => lv_lmul hx hb hd (h2.at hn H locs ls hl hP hD hS hro)
  case ldiv =>
    obtain ⟨a, b, r, rfl, h0, h2⟩ := pLL_inv h
    obtain ⟨hd, hn⟩ := simple hok hdec hnx
    exact fun H locs ls hl hP hD hS hro => lv_ldiv hx hb hd h0 (WA.at h2 hn H locs ls hl hP hD hS hro)
  case lrem =>
    obtain ⟨a, b, r, rfl, h0, h2⟩ := pLL_inv h
    obtain ⟨hd, hn⟩ := simple hok hdec hnx
    exact fun H locs ls hl hP hD hS hro => lv_lrem hx hb hd h0 (WA.at h2 hn H locs ls hl hP hD hS hro)
  case lushr =>
    obtain ⟨a, b, r, rfl, h2⟩ := pLI_inv h
    obtain ⟨hd, hn⟩ := simple hok hdec hnx
    exact fun H locs ls hl hP hD hS hro => lv_lushr hx hb hd rfl (h2.at hn H locs ls hl hP hD hS hro)
  case lcmp =>
    obtain ⟨a, b, r, rfl, h2⟩ := pLL_inv h
    obtain ⟨hd, hn⟩ := simple hok hdec hnx
    exact fun H locs ls hl hP hD hS hro => W.lcmp hx hb hd (h2.at hn H locs ls hl hP hD hS hro)
  case dup =>
    obtain ⟨hd, hn⟩ := simple hok hdec hnx
    dsimp only at h
    split at h
    · split at h
      · rename_i hc
        exact fun H locs ls hl hP hD hS hro => lv_dup hx hb hd (by rw [cv_cat C.2.2.2.2.2.2.2.2.2.1]; exact Nat.eq_of_beq_eq_true hc) (WA.at h hn H locs ls hl hP hD hS hro)
      · exact h.elim
    · exact h.elim
  case dup_x1 =>
    obtain ⟨hd, hn⟩ := simple hok hdec hnx
    dsimp only at h
    split at h
    · split at h
      · rename_i hc
        simp only [Bool.and_eq_true] at hc
        exact fun H locs ls hl hP hD hS hro => lv_dup_x1 hx hb hd (by rw [cv_cat C.2.2.2.2.2.2.2.2.2.1]; exact Nat.eq_of_beq_eq_true hc.1) (by rw [cv_cat C.2.2.2.2.2.2.2.2.2.1]; exact Nat.eq_of_beq_eq_true hc.2) (WA.at h hn H locs ls hl hP hD hS hro)
      · exact h.elim
    · exact h.elim
  case pop =>
    obtain ⟨hd, hn⟩ := simple hok hdec hnx
    dsimp only at h
    split at h
    · split at h
      · rename_i hc
        exact fun H locs ls hl hP hD hS hro => lv_pop hx hb hd (by rw [cv_cat C.2.2.2.2.2.2.2.2.2.1]; exact Nat.eq_of_beq_eq_true hc) (WA.at h hn H locs ls hl hP hD hS hro)
      · exact h.elim
    · exact h.elim
  case ifCond cd t =>
    obtain ⟨a, r, rfl, h2⟩ := pI_inv h
    unfold okI at hok
    cases raw <;> first | (cases hok; done) | skip
    case ifCond cd' off =>
      simp only [Bool.and_eq_true] at hok
      obtain ⟨⟨q1, q2⟩, q3⟩ := hok
      cases of_decide_eq_true q1
      cases Nat.eq_of_beq_eq_true q2
      exact fun H locs ls hl hP hD hS hro => s_cnd0 C hdec (of_decide_eq_true q3) (fun z => z H locs ls hl hP hD hS hro) (fun z => WA.at z hnx H locs ls hl hP hD hS hro) h2
  case if_icmp cd t =>
    obtain ⟨a, b, r, rfl, h2⟩ := pII_inv h
    unfold okI at hok
    cases raw <;> first | (cases hok; done) | skip
    case if_icmp cd' off =>
      simp only [Bool.and_eq_true] at hok
      obtain ⟨⟨q1, q2⟩, q3⟩ := hok
      cases of_decide_eq_true q1
      cases Nat.eq_of_beq_eq_true q2
      exact fun H locs ls hl hP hD hS hro => s_cnd C hdec (of_decide_eq_true q3) (fun z => z H locs ls hl hP hD hS hro) (fun z => WA.at z hnx H locs ls hl hP hD hS hro) h2
  case goto t =>
    unfold okI at hok
    cases raw <;> first | (cases hok; done) | skip
    case goto off =>
      simp only [Bool.and_eq_true] at hok
      cases Nat.eq_of_beq_eq_true hok.1
      exact fun H locs ls hl hP hD hS hro => lv_goto hx hb hdec (of_decide_eq_true hok.2) (h H locs ls hl hP hD hS hro)
  case lookupswitch dv ps =>
    obtain ⟨a, r, rfl, h2⟩ := pI_inv h
    exact s_switch C hok hdec h2
  case arraylength =>
    obtain ⟨k, r, rfl, h2⟩ := pR_inv h
    obtain ⟨hd, hn⟩ := simple hok hdec hnx
    split at h2
    · exact h2.elim
    · exact h2.elim
    · rename_i t n b e1 e2 hy
      have ht5 : t ≤ 5 := lay_tag hy (by
        intro z
        subst z
        exact e2 rfl)
      exact s_alen C hd hn hy (by intro z; subst z; exact e1 rfl) (by intro z; subst z; exact e2 rfl) ht5 h2
  case iaload =>
    obtain ⟨k, j, r, rfl, hj, h2⟩ := pRI_inv h
    obtain ⟨hd, hn⟩ := simple hok hdec hnx
    exact s_iaload C hd hn hj h2
  case baload =>
    obtain ⟨k, j, r, rfl, hj, h2⟩ := pRI_inv h
    obtain ⟨hd, hn⟩ := simple hok hdec hnx
    exact s_baload C hd hn hj h2
  case laload =>
    obtain ⟨k, j, r, rfl, hj, h2⟩ := pRI_inv h
    obtain ⟨hd, hn⟩ := simple hok hdec hnx
    exact s_laload C hd hn hj h2
  case aaload =>
    obtain ⟨k, j, r, rfl, hj, h2⟩ := pRI_inv h
    obtain ⟨hd, hn⟩ := simple hok hdec hnx
    exact s_aaload C hd hn hj h2
  case iastore =>
    obtain ⟨k, j, v, r, rfl, hj, h2⟩ := pRII_inv h
    obtain ⟨hd, hn⟩ := simple hok hdec hnx
    exact s_iastore C hd hn hj h2
  case bastore =>
    obtain ⟨k, j, v, r, rfl, hj, h2⟩ := pRII_inv h
    obtain ⟨hd, hn⟩ := simple hok hdec hnx
    exact s_bastore C hd hn hj h2
  case lastore =>
    obtain ⟨k, j, v, r, rfl, hj, h2⟩ := pRIL_inv h
    obtain ⟨hd, hn⟩ := simple hok hdec hnx
    exact s_lastore C hd hn hj h2
  case getfield n =>
    obtain ⟨k, r, rfl, h2⟩ := pR_inv h
    split at h2
    · rename_i hc
      split at h2
      · rename_i ch hq
        exact s_get (v := .ref ch) C hok hdec hnx hc hq (fun z => by cases z) rfl h2
      · rename_i ch hq
        exact s_get (v := .long (μ.2 k (n % 64))) C hok hdec hnx hc hq (fun z => by cases z) rfl h2
      · exact h2.elim
      · rename_i e3 e2 e9
        generalize hq : fld sd k (n % 64) = q at e3 e2 e9
        obtain ⟨q1, q2⟩ := q
        refine s_get (v := .int (μ.1 k (n % 64))) C hok hdec hnx hc hq (fun z => ?_) ?_ h2
        · dsimp only at z
          subst z
          exact e9 _ rfl
        · unfold fv
          split
          · rename_i z; cases z; exact absurd rfl (e3 _)
          · rename_i z; cases z; exact absurd rfl (e2 _)
          · rfl
    · exact h2.elim
  case putfield n =>
    dsimp only at h
    split at h
    · split at h
      · rename_i hc
        split at h
        · rename_i hq
          exact s_put C hok hdec hnx hc hq (Or.inl rfl) h
        · rename_i hq
          exact s_put C hok hdec hnx hc hq (Or.inr ⟨rfl, h.1⟩) h.2
        · exact h.elim
      · exact h.elim
    · split at h
      · rename_i hc
        split at h
        · rename_i hq
          exact s_putL C hok hdec hnx hc hq rfl h
        · exact h.elim
      · exact h.elim
    · exact h.elim
  case invokestatic y' => exact s_call (vst := true) C h9 hmo ih hok hdec hnx h
  case invokevirtual y' => exact s_call (vst := false) C h9 hmo ih hok hdec hnx h
  case invokedynamic n => exact s_prim C hok hdec hnx h
  case ireturn =>
    obtain ⟨hd, hn⟩ := simple hok hdec hnx
    dsimp only at h
    generalize ht : (inf y).2.2.2.2.1 = t0 at h hr
    split at h
    · rename_i v t
      intro H locs ls hl hP hD hS hro
      by_cases hti : t = .int
      · subst hti
        exact W.iret hx hb hr (s_ret C hP hS hro h) hS.2.2 hd hlk
      · have h2 : narrow t (.int v) = .int v ∧ Q (.int v) μ := by
          unfold narOk at h
          cases t <;> first | exact absurd rfl hti | exact h
        exact W.zret hx hb hr h2.1 (s_ret C hP hS hro h2.2) hS.2.2 hd hlk
    · exact h.elim
  case lreturn =>
    obtain ⟨hd, hn⟩ := simple hok hdec hnx
    dsimp only at h
    generalize ht : (inf y).2.2.2.2.1 = t0 at h hr
    split at h
    · intro H locs ls hl hP hD hS hro
      exact W.lret hx hb hr (s_ret C hP hS hro h) hS.2.2 hd hlk
    · exact h.elim
  case return_ =>
    obtain ⟨hd, hn⟩ := simple hok hdec hnx
    dsimp only at h
    generalize ht : (inf y).2.2.2.2.1 = t0 at h hr
    split at h
    · intro H locs ls hl hP hD hS hro
      exact W.vret hx hb hr (s_ret C hP hS hro h) hS.2.2 hd hlk
    · exact h.elim
  all_goals exact h.elim
end STEP7
theorem pad_mem {ad : Nat → Nat} {fz : Value} (hfz : fz.category = 1) : ∀ (as : List Value) (n j base : Nat) (v : Value), (pad n (ent as))[j]? = some v → v ≠ un → (base + j, cv ad fz v) ∈ lv_args base (as.map (cv ad fz)) := by
  have hnil : ∀ (n j : Nat) (v : Value), (pad n [])[j]? = some v → v = un := by
    intro n
    induction n with
    | zero => intro j v h; simp [pad] at h
    | succ n ih =>
      intro j v h
      cases j with
      | zero => simpa [pad] using h.symm
      | succ j =>
        simp only [pad, List.getElem?_cons_succ] at h
        exact ih j v h
  have hun : ∀ (r : List Value) (n j : Nat) (v : Value), (pad n (un :: r))[j]? = some v → v ≠ un → ∃ j' n', j = j' + 1 ∧ n = n' + 1 ∧ (pad n' r)[j']? = some v := by
    intro r n j v h hv
    cases n with
    | zero => simp [pad] at h
    | succ n =>
      cases j with
      | zero =>
        simp [pad] at h
        exact absurd h.symm hv
      | succ j =>
        simp only [pad, List.getElem?_cons_succ] at h
        exact ⟨j, n, rfl, rfl, h⟩
  intro as
  induction as with
  | nil => intro n j base v h hv; exact absurd (hnil n j v h) hv
  | cons a r ih =>
    intro n j base v h hv
    cases n with
    | zero => simp [ent, pad] at h
    | succ n =>
      have h1 : ∀ w : Value, w.category = 1 → ent (w :: r) = w :: ent r → (pad (n + 1) (ent (w :: r)))[j]? = some v → (base + j, cv ad fz v) ∈ lv_args base ((w :: r).map (cv ad fz)) := by
        intro w hw he h
        rw [he] at h
        cases j with
        | zero =>
          simp [pad] at h
          subst h
          exact List.mem_cons_self
        | succ j =>
          simp only [pad, List.getElem?_cons_succ] at h
          have h3 := ih n j (base + 1) v h hv
          refine List.mem_cons_of_mem _ ?_
          rw [if_neg (by rw [cv_cat hfz, hw]; decide), show base + (j + 1) = base + 1 + j by omega]
          exact h3
      have h2 : ∀ w : Value, w.category = 2 → ent (w :: r) = w :: un :: ent r → (pad (n + 1) (ent (w :: r)))[j]? = some v → (base + j, cv ad fz v) ∈ lv_args base ((w :: r).map (cv ad fz)) := by
        intro w hw he h
        rw [he] at h
        cases j with
        | zero =>
          simp [pad] at h
          subst h
          exact List.mem_cons_self
        | succ j =>
          simp only [pad, List.getElem?_cons_succ] at h
          obtain ⟨j', n', rfl, rfl, h⟩ := hun _ _ _ _ h hv
          have h3 := ih n' j' (base + 2) v h hv
          refine List.mem_cons_of_mem _ ?_
          rw [if_pos (by rw [cv_cat hfz, hw]), show base + (j' + 1 + 1) = base + 2 + j' by omega]
          exact h3
      cases a with
      | int x => exact h1 _ rfl rfl h
      | long x => exact h2 _ rfl rfl h
      | float x => exact h1 _ rfl rfl h
      | double x => exact h2 _ rfl rfl h
      | null => exact h1 _ rfl rfl h
      | ref x => exact h1 _ rfl rfl h
      | retAddr x => exact h1 _ rfl rfl h
theorem pad_len : ∀ (n : Nat) (l : List Value), (pad n l).length = n
  | 0, _ => rfl
  | n + 1, [] => by simp [pad, pad_len n []]
  | n + 1, v :: r => by simp [pad, pad_len n r]
theorem lg_len {ad : Nat → Nat} {fz : Value} (hfz : fz.category = 1) : ∀ as : List Value, (lg_sl (as.map (cv ad fz))).length = csum as
  | [] => rfl
  | v :: r => by
    have h := lg_len (ad := ad) hfz r
    simp only [lg_sl, List.map_cons, List.flatMap_cons, List.length_append] at h ⊢
    rw [h]
    simp only [csum, cv_cat hfz]
    rcases lv_cat v with q | q <;> rw [q] <;> simp
theorem pcs_all : pcsL.all (fun q => Nat.beq (nth 0 q 0) 0) = true := by decide +kernel
theorem pcs0 {y : Nat} (hy : y < 200) : pcs y 0 = 0 := Nat.eq_of_beq_eq_true (List.all_eq_true.mp pcs_all _ (nth_mem (d := []) (Nat.lt_of_lt_of_le hy (by decide +kernel))))
theorem sound {l : Launch} {D : va_G} {ad tc : Nat → Nat} {fz : Value} {sd : Nat} (h9 : sd ≠ 9) (hfz : fz.category = 1) (hck : ∀ y, y < 200 → chkY y = true) (hmo : ∀ y, y < 200 → mOk y = true) : ∀ d : Nat, IH l D ad tc fz sd d
  | 0 => fun _ _ _ _ _ _ _ _ _ h => h.elim
  | d + 1 => by
    intro y as μ Q sz hy hsd hcs hro hcall
    have ih := sound (l := l) (D := D) (ad := ad) (tc := tc) h9 hfz hck hmo d
    obtain ⟨-, -, hcls, hpl, -⟩ := mOk_spec (hmo y hy)
    refine Met.ofW (cc := bc y) (maxL := (inf y).2.2.1) (ret := (inf y).2.2.2.2.1) hpl rfl ?_
    intro p e s m args below meth c s₁ B hml hv
    obtain ⟨rfl, hsz, hP, hK, hD0, hRO⟩ := hv
    subst hsz
    have hts := atoms_spec (ws := wsY y) B.pre
    have hown : s.vm.findClass (cnm (inf y).2.1) = some m.cls := by rw [← hcls]; exact findClass_of_methodNamed B.named
    have hD : va_D (va_A (wl sd ad tc μ) s.heap.size) (wl sd ad tc μ) := hD0.self
    have C : Cx p (rmD (d + 1)) s m (as.map (cv ad fz)).toArray meth c D ad tc fz (va_A (wl sd ad tc μ) s.heap.size) sd y d := ⟨B.exec, B.bytes, B.returns, hml, hown, fun w hw => hts w (List.mem_cons_of_mem _ hw), B.notSynchronized, hK, hRO, hfz, hsd, hck y hy, fun q h => Or.inr h, rfl⟩
    have hW := hcall _ (fun i lv st μ h => step_ok (l := l) (e := e) (below := below) C h9 hmo ih h)
    have hl := lv_entry (as.map (cv ad fz)) (n := (inf y).2.2.1) (by rw [lg_len hfz]; exact hcs)
    rw [lg_entry_eq]
    have h0 : pcs y 0 = 0 := pcs0 hy
    have h1 := hW s.heap [] _ ⟨pad_len _ _, hl.1, hl.2.1, fun q hq => by
      obtain ⟨v, h1, h2, h3⟩ := lvp_mem.mp hq
      have h4 := pad_mem (ad := ad) hfz as _ _ 0 v h1 h2
      rw [Nat.zero_add, ← h3] at h4
      exact hl.2.2 q h4⟩ hP hD va_S.rf hro
    rw [h0] at h1
    exact h1
