/-! ===== cells ===== -/
section STEP4
variable {p : Program} {l : Launch} {e : Env} {R : Room} {s : State} {m : MethodId} {args : Array Value} {below : List Frame} {meth : Method} {c : Code} {D : va_G} {ad tc : Nat → Nat} {fz : Value} {A : Nat → Prop} {sd y d : Nat} {Z : State → Prop} {i : Nat} {lv st : List Value} {μ : Mem} {raw : Instr} {len : Nat}
theorem cell_1 {k n b : Nat} {f : Nat → Int32} {g : Nat → Int64} (h : lay sd k = (1, n, b)) : cellE sd ad tc f g k = .inl (tc 0, n, .inl f) := by unfold cellE; rw [h]; rfl
theorem cell_2 {k n b : Nat} {f : Nat → Int32} {g : Nat → Int64} (h : lay sd k = (2, n, b)) : cellE sd ad tc f g k = .inl (tc 1, n, .inr (.inl g)) := by unfold cellE; rw [h]; rfl
theorem cell_3 {k n b : Nat} {f : Nat → Int32} {g : Nat → Int64} (h : lay sd k = (3, n, b)) : cellE sd ad tc f g k = .inl (tc 2, n, .inl f) := by unfold cellE; rw [h]; rfl
theorem cell_4 {k n b : Nat} {f : Nat → Int32} {g : Nat → Int64} (h : lay sd k = (4, n, b)) : cellE sd ad tc f g k = .inl (tc 3, n, .inl f) := by unfold cellE; rw [h]; rfl
theorem cell_5 {k n b : Nat} {f : Nat → Int32} {g : Nat → Int64} (h : lay sd k = (5, n, b)) : cellE sd ad tc f g k = .inl (tc 4, n, .inr (.inr (.inr (.inr (fun j => some (ad (b + j))))))) := by unfold cellE; rw [h]; rfl
theorem cell_0 {k n b : Nat} {f : Nat → Int32} {g : Nat → Int64} (h : lay sd k = (0, n, b)) : cellE sd ad tc f g k = .inr (n, fsE ad f g 0 (fl sd k)) := by unfold cellE; rw [h]; rfl
theorem fT_640 : fT 640 = ("java/lang/String", "value", "[B", true) := by decide +kernel
theorem fT_641 : fT 641 = ("java/lang/String", "coder", "B", true) := by decide +kernel
theorem s_iaload (C : Cx p R s m args meth c D ad tc fz A sd y d) {k : Nat} {j : Int32} (hdec : decode (bc y) (pcs y i) = .ok (.iaload, 1)) (hnx : pcs y (i + 1) = pcs y i + 1) (hj : vp_in j (ilen sd k)) (h : WA p l e R s m args below meth c D ad tc fz A sd y Z (i + 1) lv (.int (μ.1 k j.toNatClampNeg) :: st) μ) : WA p l e R s m args below meth c D ad tc fz A sd y Z i lv (.int j :: .ref k :: st) μ := by
  have h1 := h.at hnx
  obtain ⟨hx, hb, hr, hml, hown, hts, hlk, hK, hRO, hfz, -⟩ := C
  intro H locs ls hl hP hD hS hro
  have h2 := h1 H locs ls hl hP hD hS hro
  obtain ⟨n, b, hy, hn⟩ := ilen_inv hj
  rw [hn] at hj
  rcases lay_arr hy with hk | ⟨rfl, rfl, rfl, rfl⟩
  · exact va_iald hx hb hK hP k 0 (by rw [wl_get hk, cell_1 hy]) rfl hj hdec h2
  · obtain ⟨-, hT, -⟩ := hRO
    exact va_ti hx hb hT hS hj (by rw [← hro.1 _ (vin_lt hj)]; rfl) hdec h2
theorem s_iastore (C : Cx p R s m args meth c D ad tc fz A sd y d) {k : Nat} {j v : Int32} (hdec : decode (bc y) (pcs y i) = .ok (.iastore, 1)) (hnx : pcs y (i + 1) = pcs y i + 1) (hj : vp_in j (wlen sd k)) (h : ∀ μ' : Mem, μ' = wI μ k (upd (μ.1 k) j.toNatClampNeg v) → WA p l e R s m args below meth c D ad tc fz A sd y Z (i + 1) lv st μ') : WA p l e R s m args below meth c D ad tc fz A sd y Z i lv (.int v :: .int j :: .ref k :: st) μ := by
  have h1 := (h _ rfl).at hnx
  obtain ⟨hx, hb, hr, hml, hown, hts, hlk, hK, hRO, hfz, -⟩ := C
  intro H locs ls hl hP hD hS hro
  obtain ⟨n, hy, hn⟩ := wlen_inv hj
  rw [hn] at hj
  rcases lay_arr hy with hk | ⟨-, -, -, hb⟩
  · refine va_iast hx hb hK hP hD hS k 0 (by rw [wl_get hk, cell_1 hy]) rfl hj hdec (fun H1 locs1 hP1 hD1 hS1 => ?_)
    rw [setI hk (cell_1 hy)] at hP1 hD1
    exact h1 H1 locs1 ls hl hP1 hD1 hS1 (hro.w hk)
  · cases hb
theorem s_baload (C : Cx p R s m args meth c D ad tc fz A sd y d) {k : Nat} {j : Int32} (hdec : decode (bc y) (pcs y i) = .ok (.baload, 1)) (hnx : pcs y (i + 1) = pcs y i + 1) (hj : vp_in j (zlen sd k + blen sd k)) (h : WA p l e R s m args below meth c D ad tc fz A sd y Z (i + 1) lv (.int (μ.1 k j.toNatClampNeg) :: st) μ) : WA p l e R s m args below meth c D ad tc fz A sd y Z i lv (.int j :: .ref k :: st) μ := by
  have h1 := h.at hnx
  obtain ⟨hx, hb, hr, hml, hown, hts, hlk, hK, hRO, hfz, -⟩ := C
  intro H locs ls hl hP hD hS hro
  have h2 := h1 H locs ls hl hP hD hS hro
  have hz : (∃ n b, lay sd k = (3, n, b) ∧ zlen sd k + blen sd k = n) ∨ (∃ n b, lay sd k = (4, n, b) ∧ zlen sd k + blen sd k = n) := by
    generalize hy : lay sd k = q
    obtain ⟨t, n, b⟩ := q
    by_cases h3 : t = 3
    · subst h3
      left
      exact ⟨n, b, rfl, by simp [zlen, blen, hy]⟩
    · by_cases h4 : t = 4
      · subst h4
        right
        exact ⟨n, b, rfl, by simp [zlen, blen, hy]⟩
      · exfalso
        have e1 : zlen sd k = 0 := by
          unfold zlen
          rw [hy]
          split
          · rename_i q; cases q; exact absurd rfl h3
          · rfl
        have e2 : blen sd k = 0 := by
          unfold blen
          rw [hy]
          split
          · rename_i q; cases q; exact absurd rfl h4
          · rfl
        rw [e1, e2] at hj
        exact vin0 hj
  rcases hz with ⟨n, b, hy, hn⟩ | ⟨n, b, hy, hn⟩
  · rw [hn] at hj
    have hk := lay_Nw hy (by omega)
    exact va_zald hx hb hK hP k 2 (by rw [wl_get hk, cell_3 hy]) rfl hj hdec h2
  · rw [hn] at hj
    by_cases hk : k < Nw sd
    · exact va_bald hx hb hK hP k 3 (by rw [wl_get hk, cell_4 hy]) rfl hj hdec h2
    · obtain ⟨rfl, i0, hi0, rfl, rfl⟩ := lay_byte hy hk
      obtain ⟨-, -, -, -, hV, -⟩ := hRO
      exact va_tb hx hb (hV.1 i0 hi0).2.2.2 hS hj (by rw [← (hro.2 i0 hi0).2 _ (vin_lt hj)]; rfl) hdec h2
theorem s_bastore (C : Cx p R s m args meth c D ad tc fz A sd y d) {k : Nat} {j v : Int32} (hdec : decode (bc y) (pcs y i) = .ok (.bastore, 1)) (hnx : pcs y (i + 1) = pcs y i + 1) (hj : vp_in j (zlen sd k)) (h : ∀ μ' : Mem, μ' = wI μ k (upd (μ.1 k) j.toNatClampNeg (vp_nar .boolean v)) → WA p l e R s m args below meth c D ad tc fz A sd y Z (i + 1) lv st μ') : WA p l e R s m args below meth c D ad tc fz A sd y Z i lv (.int v :: .int j :: .ref k :: st) μ := by
  have h1 := (h _ rfl).at hnx
  obtain ⟨hx, hb, hr, hml, hown, hts, hlk, hK, hRO, hfz, -⟩ := C
  intro H locs ls hl hP hD hS hro
  obtain ⟨n, b, hy, hn⟩ := zlen_inv hj
  rw [hn] at hj
  have hk := lay_Nw hy (by omega)
  refine va_zast hx hb hK hP hD hS k 2 (by rw [wl_get hk, cell_3 hy]) rfl hj hdec (fun H1 locs1 hP1 hD1 hS1 => ?_)
  rw [setI hk (cell_3 hy)] at hP1 hD1
  exact h1 H1 locs1 ls hl hP1 hD1 hS1 (hro.w hk)
theorem s_laload (C : Cx p R s m args meth c D ad tc fz A sd y d) {k : Nat} {j : Int32} (hdec : decode (bc y) (pcs y i) = .ok (.laload, 1)) (hnx : pcs y (i + 1) = pcs y i + 1) (hj : vp_in j (llen sd k)) (h : WA p l e R s m args below meth c D ad tc fz A sd y Z (i + 1) lv (.long (μ.2 k j.toNatClampNeg) :: st) μ) : WA p l e R s m args below meth c D ad tc fz A sd y Z i lv (.int j :: .ref k :: st) μ := by
  have h1 := h.at hnx
  obtain ⟨hx, hb, hr, hml, hown, hts, hlk, hK, hRO, hfz, -⟩ := C
  intro H locs ls hl hP hD hS hro
  have h2 := h1 H locs ls hl hP hD hS hro
  obtain ⟨n, b, hy, hn⟩ := llen_inv hj
  rw [hn] at hj
  have hk := lay_Nw hy (by omega)
  exact va_lald hx hb hK hP k 1 (by rw [wl_get hk, cell_2 hy]) rfl hj hdec h2
theorem s_lastore (C : Cx p R s m args meth c D ad tc fz A sd y d) {k : Nat} {j : Int32} {v : Int64} (hdec : decode (bc y) (pcs y i) = .ok (.lastore, 1)) (hnx : pcs y (i + 1) = pcs y i + 1) (hj : vp_in j (llen sd k)) (h : ∀ μ' : Mem, μ' = wL μ k (vp_updL (μ.2 k) j.toNatClampNeg v) → WA p l e R s m args below meth c D ad tc fz A sd y Z (i + 1) lv st μ') : WA p l e R s m args below meth c D ad tc fz A sd y Z i lv (.long v :: .int j :: .ref k :: st) μ := by
  have h1 := (h _ rfl).at hnx
  obtain ⟨hx, hb, hr, hml, hown, hts, hlk, hK, hRO, hfz, -⟩ := C
  intro H locs ls hl hP hD hS hro
  obtain ⟨n, b, hy, hn⟩ := llen_inv hj
  rw [hn] at hj
  have hk := lay_Nw hy (by omega)
  refine va_last hx hb hK hP hD hS k 1 (by rw [wl_get hk, cell_2 hy]) rfl hj hdec (fun H1 locs1 hP1 hD1 hS1 => ?_)
  rw [setL hk (cell_2 hy)] at hP1 hD1
  exact h1 H1 locs1 ls hl hP1 hD1 hS1 hro.wl
theorem s_aaload (C : Cx p R s m args meth c D ad tc fz A sd y d) {k : Nat} {j : Int32} (hdec : decode (bc y) (pcs y i) = .ok (.aaload, 1)) (hnx : pcs y (i + 1) = pcs y i + 1) (hj : vp_in j (alen sd k)) (h : WA p l e R s m args below meth c D ad tc fz A sd y Z (i + 1) lv (.ref (achild sd k + j.toNatClampNeg) :: st) μ) : WA p l e R s m args below meth c D ad tc fz A sd y Z i lv (.int j :: .ref k :: st) μ := by
  have h1 := h.at hnx
  obtain ⟨hx, hb, hr, hml, hown, hts, hlk, hK, hRO, hfz, -⟩ := C
  intro H locs ls hl hP hD hS hro
  have h2 := h1 H locs ls hl hP hD hS hro
  obtain ⟨n, ch, hy, hn, hc⟩ := alen_inv hj
  rw [hn] at hj
  rw [hc] at h2
  have hk := lay_Nw hy (by omega)
  have ha : (wl sd ad tc μ)[k]? = some (ad k, .inl (tc 4, n, .inr (.inr (.inr (.inr (fun j => some (ad (ch + j)))))))) := by rw [wl_get hk, cell_5 hy]
  exact W.aald (v := .ref (ad (ch + j.toNatClampNeg))) (ty := .array .int) hx hb (hP k _ ha) ((hK.2 4 _ rfl).1 n (fun j => va_rf (some (ad (ch + j))))) rfl (fun q => by cases q) (by show ¬ (j < 0 ∨ (arrV _ _ _).slots.size ≤ _); rw [arrV_size]; exact hj) (by show (arrV _ _ _).slots[_]? = _; rw [arrV_read _ _ (vin_lt hj)]; rfl) rfl rfl hdec h2
theorem s_alen (C : Cx p R s m args meth c D ad tc fz A sd y d) {k t n b : Nat} (hdec : decode (bc y) (pcs y i) = .ok (.arraylength, 1)) (hnx : pcs y (i + 1) = pcs y i + 1) (hy : lay sd k = (t, n, b)) (h0 : t ≠ 0) (h9 : t ≠ 9) (ht5 : t ≤ 5) (h : WA p l e R s m args below meth c D ad tc fz A sd y Z (i + 1) lv (.int (Int32.ofNat n) :: st) μ) : WA p l e R s m args below meth c D ad tc fz A sd y Z i lv (.ref k :: st) μ := by
  have h1 := h.at hnx
  obtain ⟨hx, hb, hr, hml, hown, hts, hlk, hK, hRO, hfz, -⟩ := C
  intro H locs ls hl hP hD hS hro
  have h2 := h1 H locs ls hl hP hD hS hro
  rcases (show t = 1 ∨ t = 2 ∨ t = 3 ∨ t = 4 ∨ t = 5 by omega) with rfl | rfl | rfl | rfl | rfl
  · rcases lay_arr hy with hk | ⟨rfl, rfl, rfl, rfl⟩
    · exact va_alen (x := (n, .inl (μ.1 k))) hx hb hK hP k 0 (by rw [wl_get hk, cell_1 hy]) rfl rfl hdec h2
    · obtain ⟨-, hT, -⟩ := hRO
      exact va_tlen hx hb hT hS rfl hdec h2
  · have hk := lay_Nw hy (by omega)
    exact va_alen (x := (n, .inr (.inl (μ.2 k)))) hx hb hK hP k 1 (by rw [wl_get hk, cell_2 hy]) rfl rfl hdec h2
  · have hk := lay_Nw hy (by omega)
    exact va_alen (x := (n, .inl (μ.1 k))) hx hb hK hP k 2 (by rw [wl_get hk, cell_3 hy]) rfl rfl hdec h2
  · by_cases hk : k < Nw sd
    · exact va_alen (x := (n, .inl (μ.1 k))) hx hb hK hP k 3 (by rw [wl_get hk, cell_4 hy]) rfl rfl hdec h2
    · obtain ⟨rfl, i0, hi0, rfl, rfl⟩ := lay_byte hy hk
      obtain ⟨-, -, -, -, hV, -⟩ := hRO
      exact va_tlen hx hb (hV.1 i0 hi0).2.2.2 hS rfl hdec h2
  · have hk := lay_Nw hy (by omega)
    exact va_alen (x := (n, .inr (.inr (.inr (.inr (fun j => some (ad (b + j)))))))) hx hb hK hP k 4 (by rw [wl_get hk, cell_5 hy]) rfl rfl hdec h2
theorem s_get (C : Cx p R s m args meth c D ad tc fz A sd y d) {k n : Nat} {q : Nat × Nat} {v : Value} (hok : okI (inf y).2.1 (pcs y) (pcs y i) (.getfield n) raw len = true) (hdec : decode (bc y) (pcs y i) = .ok (raw, len)) (hnx : pcs y (i + 1) = pcs y i + len) (hc : clsIs sd k (n / 64) = true) (hq : fld sd k (n % 64) = q) (h9 : q.1 ≠ 9) (hv : cv ad fz v = fv ad (μ.1 k) (μ.2 k) (n % 64) q) (h : WA p l e R s m args below meth c D ad tc fz A sd y Z (i + 1) lv (v :: st) μ) : WA p l e R s m args below meth c D ad tc fz A sd y Z i lv (.ref k :: st) μ := by
  have h1 := h.at hnx
  obtain ⟨hx, hb, hr, hml, hown, hts, hlk, hK, hRO, hfz, -⟩ := C
  intro H locs ls hl hP hD hS hro
  have h2 := h1 H locs ls hl hP hD hS hro
  rw [List.map_cons, hv] at h2
  obtain ⟨b, hy⟩ := clsIs_inv hc
  have hfl : (fl sd k)[n % 64]? = some q := by
    have : nth (9, 0) (fl sd k) (n % 64) = q := hq
    rw [← this]
    exact nth_ne (fun z => h9 (by rw [← this, z]))
  unfold okI at hok
  cases raw <;> first | (cases hok; done) | skip
  case getfield idx =>
    simp only [Bool.and_eq_true] at hok
    cases Nat.eq_of_beq_eq_true hok.1
    obtain ⟨pz, hz⟩ := inP_at hok.2 fpl_ok
    dsimp only at hz
    have hlink := hts _ (gT_of hz rfl (fun q => by cases q))
    rcases lay_obj hy with hk | ⟨rfl, i0, hi0, rfl, h10⟩
    · obtain ⟨hc10, hlen, -⟩ := obj_spec hk hy
      refine va_get (v := fv ad (μ.1 k) (μ.2 k) (n % 64) q) (C := (clT (n / 64)).1) (T := (clT (n / 64)).2.1) (N := (clT (n / 64)).2.2) hx hb hts (cl_in hc10) hown hK hP k (by rw [wl_get hk, cell_0 hy]) (cl_get hc10) (n % 64) (by rw [← hlen]; exact (List.getElem?_eq_some_iff.mp hfl).1) hlink (fun _ h9 => h9) ?_ hdec h2
      rw [fsE_get, hfl, Nat.zero_add]
      rfl
    · obtain ⟨-, -, -, -, hV, -⟩ := hRO
      have hn : n = 640 ∨ n = 641 := by
        have h3 := (List.getElem?_eq_some_iff.mp hfl).1
        have h4 : (fl 0 (66 + 2 * i0)).length = 2 := by
          rcases (show i0 = 0 ∨ i0 = 1 ∨ i0 = 2 by omega) with rfl | rfl | rfl <;> rfl
        omega
      rcases hn with rfl | rfl
      · have hqe : q = (3, 67 + 2 * i0) := by
          rw [← hq]
          rcases (show i0 = 0 ∨ i0 = 1 ∨ i0 = 2 by omega) with rfl | rfl | rfl <;> rfl
        subst hqe
        have hlink : (Cond.fieldLink (cnm (inf y).2.1) idx (fT 640).1 (fT 640).2.1 (fT 640).2.2.1).before args s = true := hlink
        rw [fT_640] at hlink
        exact vk_getf hx hb (hV.1 i0 hi0).2.2.1 hS hown hlink (fun _ h9 => h9) hdec h2
      · have hqe : q = (4, 0) := by
          rw [← hq]
          rcases (show i0 = 0 ∨ i0 = 1 ∨ i0 = 2 by omega) with rfl | rfl | rfl <;> rfl
        subst hqe
        have h2 : W p l e R s m args below meth c H locs 0 0 Z (F0 m (pcs y i + 3) ls (.int (μ.1 (66 + 2 * i0) 1) :: st.map (cv ad fz))) := h2
        rw [(hro.2 i0 hi0).1] at h2
        have hlink : (Cond.fieldLink (cnm (inf y).2.1) idx (fT 641).1 (fT 641).2.1 (fT 641).2.2.1).before args s = true := hlink
        rw [fT_641] at hlink
        exact vk_getf hx hb (hV.1 i0 hi0).2.1 hS hown hlink (fun _ h9 => h9) hdec h2
theorem s_put (C : Cx p R s m args meth c D ad tc fz A sd y d) {k n : Nat} {q : Nat × Nat} {v : Int32} (hok : okI (inf y).2.1 (pcs y) (pcs y i) (.putfield n) raw len = true) (hdec : decode (bc y) (pcs y i) = .ok (raw, len)) (hnx : pcs y (i + 1) = pcs y i + len) (hc : clsIs sd k (n / 64) = true) (hq : fld sd k (n % 64) = q) (h01 : q.1 = 0 ∨ (q.1 = 1 ∧ narrow .boolean (.int v) = .int v)) (h : ∀ μ' : Mem, μ' = wI μ k (upd (μ.1 k) (n % 64) v) → WA p l e R s m args below meth c D ad tc fz A sd y Z (i + 1) lv st μ') : WA p l e R s m args below meth c D ad tc fz A sd y Z i lv (.int v :: .ref k :: st) μ := by
  have h1 := (h _ rfl).at hnx
  obtain ⟨hx, hb, hr, hml, hown, hts, hlk, hK, hRO, hfz, -⟩ := C
  intro H locs ls hl hP hD hS hro
  obtain ⟨b, hy⟩ := clsIs_inv hc
  have hfl : (fl sd k)[n % 64]? = some q := by
    have : nth (9, 0) (fl sd k) (n % 64) = q := hq
    rw [← this]
    exact nth_ne (fun z => by rw [← this, z] at h01; rcases h01 with h | h <;> cases h <;> contradiction)
  unfold okI at hok
  cases raw <;> first | (cases hok; done) | skip
  case putfield idx =>
    simp only [Bool.and_eq_true] at hok
    cases Nat.eq_of_beq_eq_true hok.1
    obtain ⟨pz, hz⟩ := inP_at hok.2 fpl_ok
    dsimp only at hz
    have hlink := hts _ (gT_of hz rfl (fun q => by cases q))
    rcases lay_obj hy with hk | ⟨rfl, i0, hi0, rfl, h10⟩
    · obtain ⟨hc10, hlen, hsp⟩ := obj_spec hk hy
      obtain ⟨ty0, hty, hnm⟩ := cl_ty hc10
      have hlt := (List.getElem?_eq_some_iff.mp hfl).1
      have hw : ∀ (H1 : Heap) (locs1 : List Loc), va_P D vwCl ((wl sd ad tc μ).set k (ad k, .inr (n / 64, (fsE ad (μ.1 k) (μ.2 k) 0 (fl sd k)).set (n % 64) (.int v)))) H1 → va_D A ((wl sd ad tc μ).set k (ad k, .inr (n / 64, (fsE ad (μ.1 k) (μ.2 k) 0 (fl sd k)).set (n % 64) (.int v)))) → va_S A s.heap H1 locs1 → W p l e R s m args below meth c H1 locs1 0 0 Z (F0 m (pcs y i + 3) ls (st.map (cv ad fz))) := by
        intro H1 locs1 hP1 hD1 hS1
        have e1 : (fsE ad (μ.1 k) (μ.2 k) 0 (fl sd k)).set (n % 64) (.int v) = fsE ad (upd (μ.1 k) (n % 64) v) (μ.2 k) 0 (fl sd k) := by
          have := fsE_set (ad := ad) (f := μ.1 k) (g := μ.2 k) (v := v) (fl sd k) 0 (n % 64) q hfl (by rcases h01 with h | h <;> omega) (by rcases h01 with h | h <;> omega)
          rw [Nat.zero_add] at this
          exact this
        rw [e1, setI hk (cell_0 hy)] at hP1 hD1
        exact h1 H1 locs1 ls hl hP1 hD1 hS1 (hro.w hk)
      rcases h01 with h0 | ⟨h0, hb1⟩
      · obtain ⟨f1, f2⟩ := (hsp _ q hfl).1 h0
        exact va_put (v := .int v) (C := (clT (n / 64)).1) (T := (clT (n / 64)).2.1) (N := (clT (n / 64)).2.2) hx hb hts (cl_in hc10) ty0 hty hnm hown hK hP hD hS k (by rw [wl_get hk, cell_0 hy]) (cl_get hc10) (n % 64) (by rw [← hlen]; exact hlt) hlink (fun _ h9 => h9) f1 f2 rfl rfl (by rw [fsE_len]; exact hlt) hdec hw
      · obtain ⟨f1, f2⟩ := (hsp _ q hfl).2.1 h0
        exact va_put (v := .int v) (C := (clT (n / 64)).1) (T := (clT (n / 64)).2.1) (N := (clT (n / 64)).2.2) hx hb hts (cl_in hc10) ty0 hty hnm hown hK hP hD hS k (by rw [wl_get hk, cell_0 hy]) (cl_get hc10) (n % 64) (by rw [← hlen]; exact hlt) hlink (fun _ h9 => h9) f1 f2 hb1 (by rw [← hb1]; exact fits_narrow_boolean v) (by rw [fsE_len]; exact hlt) hdec hw
    · exfalso
      have hn : n = 640 ∨ n = 641 := by
        have h3 := (List.getElem?_eq_some_iff.mp hfl).1
        have h4 : (fl 0 (66 + 2 * i0)).length = 2 := by
          rcases (show i0 = 0 ∨ i0 = 1 ∨ i0 = 2 by omega) with rfl | rfl | rfl <;> rfl
        omega
      have hqe : q.1 = 3 ∨ q.1 = 4 := by
        rw [← hq]
        rcases hn with rfl | rfl <;> rcases (show i0 = 0 ∨ i0 = 1 ∨ i0 = 2 by omega) with rfl | rfl | rfl <;> first | (left; rfl) | (right; rfl)
      omega
theorem s_putL (C : Cx p R s m args meth c D ad tc fz A sd y d) {k n : Nat} {q : Nat × Nat} {v : Int64} (hok : okI (inf y).2.1 (pcs y) (pcs y i) (.putfield n) raw len = true) (hdec : decode (bc y) (pcs y i) = .ok (raw, len)) (hnx : pcs y (i + 1) = pcs y i + len) (hc : clsIs sd k (n / 64) = true) (hq : fld sd k (n % 64) = q) (h2q : q.1 = 2) (h : ∀ μ' : Mem, μ' = wL μ k (vp_updL (μ.2 k) (n % 64) v) → WA p l e R s m args below meth c D ad tc fz A sd y Z (i + 1) lv st μ') : WA p l e R s m args below meth c D ad tc fz A sd y Z i lv (.long v :: .ref k :: st) μ := by
  have h1 := (h _ rfl).at hnx
  obtain ⟨hx, hb, hr, hml, hown, hts, hlk, hK, hRO, hfz, -⟩ := C
  intro H locs ls hl hP hD hS hro
  obtain ⟨b, hy⟩ := clsIs_inv hc
  have hfl : (fl sd k)[n % 64]? = some q := by
    have : nth (9, 0) (fl sd k) (n % 64) = q := hq
    rw [← this]
    exact nth_ne (fun z => by rw [← this, z] at h2q; cases h2q)
  unfold okI at hok
  cases raw <;> first | (cases hok; done) | skip
  case putfield idx =>
    simp only [Bool.and_eq_true] at hok
    cases Nat.eq_of_beq_eq_true hok.1
    obtain ⟨pz, hz⟩ := inP_at hok.2 fpl_ok
    dsimp only at hz
    have hlink := hts _ (gT_of hz rfl (fun q => by cases q))
    rcases lay_obj hy with hk | ⟨rfl, i0, hi0, rfl, h10⟩
    · obtain ⟨hc10, hlen, hsp⟩ := obj_spec hk hy
      obtain ⟨ty0, hty, hnm⟩ := cl_ty hc10
      have hlt := (List.getElem?_eq_some_iff.mp hfl).1
      obtain ⟨f1, f2⟩ := (hsp _ q hfl).2.2 h2q
      refine va_put (v := .long v) (C := (clT (n / 64)).1) (T := (clT (n / 64)).2.1) (N := (clT (n / 64)).2.2) hx hb hts (cl_in hc10) ty0 hty hnm hown hK hP hD hS k (by rw [wl_get hk, cell_0 hy]) (cl_get hc10) (n % 64) (by rw [← hlen]; exact hlt) hlink (fun _ h9 => h9) f1 f2 rfl rfl (by rw [fsE_len]; exact hlt) hdec (fun H1 locs1 hP1 hD1 hS1 => ?_)
      have e1 : (fsE ad (μ.1 k) (μ.2 k) 0 (fl sd k)).set (n % 64) (.long v) = fsE ad (μ.1 k) (vp_updL (μ.2 k) (n % 64) v) 0 (fl sd k) := by
        have := fsE_setL (ad := ad) (f := μ.1 k) (g := μ.2 k) (v := v) (fl sd k) 0 (n % 64) q hfl h2q
        rw [Nat.zero_add] at this
        exact this
      rw [e1, setL hk (cell_0 hy)] at hP1 hD1
      exact h1 H1 locs1 ls hl hP1 hD1 hS1 hro.wl
    · exfalso
      have hn : n = 640 ∨ n = 641 := by
        have h3 := (List.getElem?_eq_some_iff.mp hfl).1
        have h4 : (fl 0 (66 + 2 * i0)).length = 2 := by
          rcases (show i0 = 0 ∨ i0 = 1 ∨ i0 = 2 by omega) with rfl | rfl | rfl <;> rfl
        omega
      have hqe : q.1 = 3 ∨ q.1 = 4 := by
        rw [← hq]
        rcases hn with rfl | rfl <;> rcases (show i0 = 0 ∨ i0 = 1 ∨ i0 = 2 by omega) with rfl | rfl | rfl <;> first | (left; rfl) | (right; rfl)
      omega
end STEP4
