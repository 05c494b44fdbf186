/-! ===== every step ===== -/
section STEP3
variable {p : Program} {l : Launch} {e : Env} {R : Room} {s : State} {m : MethodId} {args : Array Value} {below : List Frame} {meth : Method} {c : Code} {D : va_G} {ad tc : Nat → Nat} {fz : Value} {A : Nat → Prop} {sd y d : Nat} {Z : State → Prop} {i : Nat} {lv st : List Value} {μ : Mem} {raw : Instr} {len : Nat}
theorem s_ldc (C : Cx p R s m args meth c D ad tc fz A sd y d) {n : Nat} (hok : okI (inf y).2.1 (pcs y) (pcs y i) (.ldc n) raw len = true) (hdec : decode (bc y) (pcs y i) = .ok (raw, len)) (hnx : pcs y (i + 1) = pcs y i + len) (h : WA p l e R s m args below meth c D ad tc fz A sd y Z (i + 1) lv (.int (cK n) :: st) μ) : WA p l e R s m args below meth c D ad tc fz A sd y Z i lv st μ := by
  have h1 := h.at hnx
  obtain ⟨hx, hb, hr, hml, hown, hts, -⟩ := C
  intro H locs ls hl hP hD hS hro
  have h2 := h1 H locs ls hl hP hD hS hro
  unfold okI at hok
  cases raw <;> first | (cases hok; done) | skip
  case bipush k =>
    simp only [Bool.and_eq_true] at hok
    obtain ⟨q1, q2⟩ := hok
    cases Nat.eq_of_beq_eq_true q1
    exact lv_bipush hx hb hdec (of_decide_eq_true q2) h2
  case iconst k =>
    simp only [Bool.and_eq_true] at hok
    obtain ⟨q1, q2⟩ := hok
    cases Nat.eq_of_beq_eq_true q1
    exact lv_iconst hx hb hdec (of_decide_eq_true q2) h2
  case sipush k =>
    simp only [Bool.and_eq_true] at hok
    obtain ⟨q1, q2⟩ := hok
    cases Nat.eq_of_beq_eq_true q1
    exact lv_sipush hx hb hdec (of_decide_eq_true q2) h2
  case ldc idx =>
    simp only [Bool.and_eq_true] at hok
    obtain ⟨q1, q2⟩ := hok
    cases Nat.eq_of_beq_eq_true q1
    obtain ⟨pz, hz⟩ := inP_at q2 kpl_ok
    exact lv_ldc hx hb hown (hts _ (gT_of hz rfl (fun q => by cases q))) hdec h2
  case ldc_w idx =>
    simp only [Bool.and_eq_true] at hok
    obtain ⟨q1, q2⟩ := hok
    cases Nat.eq_of_beq_eq_true q1
    obtain ⟨pz, hz⟩ := inP_at q2 kpl_ok
    exact lv_ldcw hx hb hown (hts _ (gT_of hz rfl (fun q => by cases q))) hdec h2
theorem s_ldc2 (C : Cx p R s m args meth c D ad tc fz A sd y d) {n : Nat} (hok : okI (inf y).2.1 (pcs y) (pcs y i) (.ldc2_w n) raw len = true) (hdec : decode (bc y) (pcs y i) = .ok (raw, len)) (hnx : pcs y (i + 1) = pcs y i + len) (h : WA p l e R s m args below meth c D ad tc fz A sd y Z (i + 1) lv (.long (cL n) :: st) μ) : WA p l e R s m args below meth c D ad tc fz A sd y Z i lv st μ := by
  have h1 := h.at hnx
  obtain ⟨hx, hb, hr, hml, hown, hts, -⟩ := C
  intro H locs ls hl hP hD hS hro
  have h2 := h1 H locs ls hl hP hD hS hro
  unfold okI at hok
  cases raw <;> first | (cases hok; done) | skip
  case lconst f =>
    simp only [Bool.and_eq_true] at hok
    obtain ⟨q1, q2⟩ := hok
    cases Nat.eq_of_beq_eq_true q1
    exact lv_lconst hx hb hdec (of_decide_eq_true q2) h2
  case ldc2_w idx =>
    simp only [Bool.and_eq_true] at hok
    obtain ⟨q1, q2⟩ := hok
    cases Nat.eq_of_beq_eq_true q1
    obtain ⟨pz, hz⟩ := inP_at q2 lpl_ok
    exact lv_ldc2 hx hb hown (hts _ (gT_of hz rfl (fun q => by cases q))) hdec h2
theorem s_loads (C : Cx p R s m args meth c D ad tc fz A sd y d) {n : Nat} {v : Value} (hv : nth un lv n = v) (hdec : decode (bc y) (pcs y i) = .ok (raw, len)) (hnx : pcs y (i + 1) = pcs y i + len) (h : WA p l e R s m args below meth c D ad tc fz A sd y Z (i + 1) lv (v :: st) μ)
    (hw : (∃ x, v = .int x ∧ okI (inf y).2.1 (pcs y) (pcs y i) (.iload n) raw len = true) ∨ (∃ x, v = .long x ∧ okI (inf y).2.1 (pcs y) (pcs y i) (.lload n) raw len = true) ∨ (∃ x, v = .ref x ∧ okI (inf y).2.1 (pcs y) (pcs y i) (.aload n) raw len = true)) : WA p l e R s m args below meth c D ad tc fz A sd y Z i lv st μ := by
  have h1 := h.at hnx
  obtain ⟨hx, hb, hr, hml, hown, hts, -⟩ := C
  intro H locs ls hl hP hD hS hro
  have h2 := h1 H locs ls hl hP hD hS hro
  rcases hw with ⟨x, rfl, hok⟩ | ⟨x, rfl, hok⟩ | ⟨x, rfl, hok⟩
  · have hg := hl.get hv (fun q => by cases q)
    unfold okI at hok
    cases raw <;> first | (cases hok; done) | skip
    case iload k =>
      simp only [Bool.and_eq_true] at hok
      cases Nat.eq_of_beq_eq_true hok.1
      cases Nat.eq_of_beq_eq_true hok.2
      exact lv_iload hx hb hdec hg h2
    case iload_n k =>
      simp only [Bool.and_eq_true] at hok
      cases Nat.eq_of_beq_eq_true hok.2
      exact lv_iload_n hx hb hdec (Nat.eq_of_beq_eq_true hok.1) hg h2
  · have hg := hl.get hv (fun q => by cases q)
    unfold okI at hok
    cases raw <;> first | (cases hok; done) | skip
    case lload k =>
      simp only [Bool.and_eq_true] at hok
      cases Nat.eq_of_beq_eq_true hok.1
      cases Nat.eq_of_beq_eq_true hok.2
      exact lv_lload hx hb hdec hg h2
    case lload_n k =>
      simp only [Bool.and_eq_true] at hok
      cases Nat.eq_of_beq_eq_true hok.2
      exact lv_lload_n hx hb hdec (Nat.eq_of_beq_eq_true hok.1) hg h2
  · have hg := hl.get hv (fun q => by cases q)
    unfold okI at hok
    cases raw <;> first | (cases hok; done) | skip
    case aload k =>
      simp only [Bool.and_eq_true] at hok
      cases Nat.eq_of_beq_eq_true hok.1
      cases Nat.eq_of_beq_eq_true hok.2
      exact lv_aload hx hb hdec hg h2
    case aload_n k =>
      simp only [Bool.and_eq_true] at hok
      cases Nat.eq_of_beq_eq_true hok.2
      exact lv_aload_n hx hb hdec (Nat.eq_of_beq_eq_true hok.1) hg h2
theorem s_istore (C : Cx p R s m args meth c D ad tc fz A sd y d) {n : Nat} {x : Int32} (hok : okI (inf y).2.1 (pcs y) (pcs y i) (.istore n) raw len = true) (hdec : decode (bc y) (pcs y i) = .ok (raw, len)) (hnx : pcs y (i + 1) = pcs y i + len) (ho : (okst lv n && Nat.blt n lv.length) = true) (h : WA p l e R s m args below meth c D ad tc fz A sd y Z (i + 1) (lv.set n (.int x)) st μ) : WA p l e R s m args below meth c D ad tc fz A sd y Z i lv (.int x :: st) μ := by
  have h1 := h.at hnx
  obtain ⟨hx, hb, hr, hml, hown, hts, -, -, -, hfz, -⟩ := C
  simp only [Bool.and_eq_true] at ho
  obtain ⟨o1, o2⟩ := ho
  intro H locs ls hl hP hD hS hro
  have hn : n < (inf y).2.2.1 := by rw [← hl.1]; exact Nat.le_of_ble_eq_true o2
  have kk : ∀ ls' : Array Slot, lv_has ls' (inf y).2.2.1 ((n, .int x) :: (lvp ad fz lv).filter (fun q => !(q.1 == n) && !(q.1 + 1 == n && q.2.category == 2))) → W p l e R s m args below meth c H locs 0 0 Z (F0 m (pcs y i + len) ls' (st.map (cv ad fz))) := fun ls' hl' => h1 H locs ls' (lvR.set1 hl.1 hfz o1 hl') hP hD hS hro
  unfold okI at hok
  cases raw <;> first | (cases hok; done) | skip
  case istore k =>
    simp only [Bool.and_eq_true] at hok
    cases Nat.eq_of_beq_eq_true hok.1
    cases Nat.eq_of_beq_eq_true hok.2
    exact lv_istore hx hb hdec hl.2 hn rfl kk
  case istore_n k =>
    simp only [Bool.and_eq_true] at hok
    cases Nat.eq_of_beq_eq_true hok.2
    exact lv_istore_n hx hb hdec (Nat.eq_of_beq_eq_true hok.1) hl.2 hn rfl kk
theorem s_astore (C : Cx p R s m args meth c D ad tc fz A sd y d) {n : Nat} {x : Nat} (hok : okI (inf y).2.1 (pcs y) (pcs y i) (.astore n) raw len = true) (hdec : decode (bc y) (pcs y i) = .ok (raw, len)) (hnx : pcs y (i + 1) = pcs y i + len) (ho : (okst lv n && Nat.blt n lv.length) = true) (h : WA p l e R s m args below meth c D ad tc fz A sd y Z (i + 1) (lv.set n (.ref x)) st μ) : WA p l e R s m args below meth c D ad tc fz A sd y Z i lv (.ref x :: st) μ := by
  have h1 := h.at hnx
  obtain ⟨hx, hb, hr, hml, hown, hts, -, -, -, hfz, -⟩ := C
  simp only [Bool.and_eq_true] at ho
  obtain ⟨o1, o2⟩ := ho
  intro H locs ls hl hP hD hS hro
  have hn : n < (inf y).2.2.1 := by rw [← hl.1]; exact Nat.le_of_ble_eq_true o2
  have kk : ∀ ls' : Array Slot, lv_has ls' (inf y).2.2.1 ((n, .ref (ad x)) :: (lvp ad fz lv).filter (fun q => !(q.1 == n) && !(q.1 + 1 == n && q.2.category == 2))) → W p l e R s m args below meth c H locs 0 0 Z (F0 m (pcs y i + len) ls' (st.map (cv ad fz))) := fun ls' hl' => h1 H locs ls' (lvR.set1 (v := .ref x) hl.1 hfz o1 hl') hP hD hS hro
  unfold okI at hok
  cases raw <;> first | (cases hok; done) | skip
  case astore k =>
    simp only [Bool.and_eq_true] at hok
    cases Nat.eq_of_beq_eq_true hok.1
    cases Nat.eq_of_beq_eq_true hok.2
    exact lv_astore hx hb hdec hl.2 hn rfl kk
  case astore_n k =>
    simp only [Bool.and_eq_true] at hok
    cases Nat.eq_of_beq_eq_true hok.2
    exact lv_astore_n hx hb hdec (Nat.eq_of_beq_eq_true hok.1) hl.2 hn rfl kk
theorem s_lstore (C : Cx p R s m args meth c D ad tc fz A sd y d) {n : Nat} {x : Int64} (hok : okI (inf y).2.1 (pcs y) (pcs y i) (.lstore n) raw len = true) (hdec : decode (bc y) (pcs y i) = .ok (raw, len)) (hnx : pcs y (i + 1) = pcs y i + len) (ho : (okst lv n && Nat.blt (n + 1) lv.length) = true) (h : WA p l e R s m args below meth c D ad tc fz A sd y Z (i + 1) ((lv.set n (.long x)).set (n + 1) un) st μ) : WA p l e R s m args below meth c D ad tc fz A sd y Z i lv (.long x :: st) μ := by
  have h1 := h.at hnx
  obtain ⟨hx, hb, hr, hml, hown, hts, -, -, -, hfz, -⟩ := C
  simp only [Bool.and_eq_true] at ho
  obtain ⟨o1, o2⟩ := ho
  intro H locs ls hl hP hD hS hro
  have hn : n + 1 < (inf y).2.2.1 := by rw [← hl.1]; exact Nat.le_of_ble_eq_true o2
  have kk : ∀ ls' : Array Slot, lv_has ls' (inf y).2.2.1 ((n, .long x) :: (lvp ad fz lv).filter (fun q => !(q.1 == n) && (!(q.1 == n + 1) && !(q.1 + 1 == n && q.2.category == 2)))) → W p l e R s m args below meth c H locs 0 0 Z (F0 m (pcs y i + len) ls' (st.map (cv ad fz))) := fun ls' hl' => h1 H locs ls' (lvR.set2 (v := .long x) hl.1 hfz o1 hl') hP hD hS hro
  unfold okI at hok
  cases raw <;> first | (cases hok; done) | skip
  case lstore k =>
    simp only [Bool.and_eq_true] at hok
    cases Nat.eq_of_beq_eq_true hok.1
    cases Nat.eq_of_beq_eq_true hok.2
    exact lv_lstore hx hb hdec hl.2 hn rfl kk
  case lstore_n k =>
    simp only [Bool.and_eq_true] at hok
    cases Nat.eq_of_beq_eq_true hok.2
    exact lv_lstore_n hx hb hdec (Nat.eq_of_beq_eq_true hok.1) hl.2 hn rfl kk
theorem s_iinc (C : Cx p R s m args meth c D ad tc fz A sd y d) {n : Nat} {ci : Int} {x : Int32} (hok : okI (inf y).2.1 (pcs y) (pcs y i) (.iinc n ci) raw len = true) (hdec : decode (bc y) (pcs y i) = .ok (raw, len)) (hnx : pcs y (i + 1) = pcs y i + len) (hv : nth un lv n = .int x) (ho : (okst lv n && Nat.blt n lv.length) = true) (h : WA p l e R s m args below meth c D ad tc fz A sd y Z (i + 1) (lv.set n (.int (x + cK ci.toNat))) st μ) : WA p l e R s m args below meth c D ad tc fz A sd y Z i lv st μ := by
  have h1 := h.at hnx
  obtain ⟨hx, hb, hr, hml, hown, hts, -, -, -, hfz, -⟩ := C
  simp only [Bool.and_eq_true] at ho
  obtain ⟨o1, o2⟩ := ho
  intro H locs ls hl hP hD hS hro
  have hn : n < (inf y).2.2.1 := by rw [← hl.1]; exact Nat.le_of_ble_eq_true o2
  have hg : lv[n]? = some (.int x) := by rw [← hv]; exact nth_ne (by rw [hv]; exact fun q => by cases q)
  obtain ⟨k0, hk0⟩ := List.getElem?_of_mem (lvp_mem (ad := ad) (fz := fz) (q := (n, .int x)).mpr ⟨.int x, hg, (fun q => by cases q), rfl⟩)
  have kk : ∀ ls' : Array Slot, lv_has ls' (inf y).2.2.1 ((n, .int (x + cK ci.toNat)) :: (lvp ad fz lv).filter (fun q => !(q.1 == n) && !(q.1 + 1 == n && q.2.category == 2))) → W p l e R s m args below meth c H locs 0 0 Z (F0 m (pcs y i + len) ls' (st.map (cv ad fz))) := fun ls' hl' => h1 H locs ls' (lvR.set1 (v := .int (x + cK ci.toNat)) hl.1 hfz o1 hl') hP hD hS hro
  unfold okI at hok
  cases raw <;> first | (cases hok; done) | skip
  case iinc k v =>
    simp only [Bool.and_eq_true] at hok
    obtain ⟨⟨q1, q2⟩, q3⟩ := hok
    cases Nat.eq_of_beq_eq_true q1
    cases Nat.eq_of_beq_eq_true q2
    exact lv_iinc hx hb hdec hl.2 hk0 (by rw [of_decide_eq_true q3]) hn rfl kk
theorem s_switch (C : Cx p R s m args meth c D ad tc fz A sd y d) {dv : Int} {ps : Array (Int × Int)} {x : Int32} (hok : okI (inf y).2.1 (pcs y) (pcs y i) (.lookupswitch dv ps) raw len = true) (hdec : decode (bc y) (pcs y i) = .ok (raw, len)) (h : swc x ps.toList (fun t => WA p l e R s m args below meth c D ad tc fz A sd y Z t lv st μ) dv.toNat) : WA p l e R s m args below meth c D ad tc fz A sd y Z i lv (.int x :: st) μ := by
  obtain ⟨hx, hb, -⟩ := C
  intro H locs ls hl hP hD hS hro
  unfold okI at hok
  cases raw <;> first | (cases hok; done) | skip
  case lookupswitch df qs =>
    simp only [Bool.and_eq_true] at hok
    obtain ⟨⟨q1, q2⟩, q3⟩ := hok
    obtain ⟨t, h1, h2⟩ := swc_L _ _ _ _ q2 (of_decide_eq_true q1) h
    exact lv_lookup hx hb hdec q3 rfl h1 (h2 H locs ls hl hP hD hS hro)
  case tableswitch df lo hi offs =>
    simp only [Bool.and_eq_true] at hok
    obtain ⟨⟨⟨q1, q2⟩, q3⟩, q4⟩ := hok
    have q3 : hi = lo + (offs.toList.length : Int) - 1 := of_decide_eq_true q3
    have q4 : -1000 < lo ∧ hi < 1000 := of_decide_eq_true q4
    rcases swc_T _ _ _ _ q2 q4.1 (by omega) h with ⟨h1, h2⟩ | ⟨h1, h2, o, t, h3, h4, h5⟩
    · exact lv_tableOut hx hb hdec (by rw [q3]; exact h1) (of_decide_eq_true q1) (h2 H locs ls hl hP hD hS hro)
    · exact lv_tableIn hx hb hdec h1 (by rw [q3]; exact h2) (by rw [← Array.getElem?_toList]; exact h3) h4 (h5 H locs ls hl hP hD hS hro)
end STEP3
