/-! ===== statics, strings, primitives, calls ===== -/
theorem spl_all : splL.all (fun q => decide ((q.1, q.2.1, q.2.2.1) = (8, 75, 66) ∨ (q.1, q.2.1, q.2.2.1) = (3, 115, 68) ∨ (q.1, q.2.1, q.2.2.1) = (3, 106, 70))) = true := by decide +kernel
def statT (n : Nat) : String × String × String := match n with
  | 0 => ("DearerByUse$Laws", "ABOVE", "[I")
  | 1 => ("java/lang/String", "COMPACT_STRINGS", "Z")
  | _ => ("jdk/internal/util/Preconditions", "SIOOBE_FORMATTER", "Ljava/util/function/BiFunction;")
theorem gpl_ok : gplL.all (fun q => Nat.ble q.2.2.1 2 && wAt q.2.2.2 (.fieldLink (cnm q.1) q.2.1 (statT q.2.2.1).1 (statT q.2.2.1).2.1 (statT q.2.2.1).2.2)) = true := by decide +kernel
theorem npl_all : nplL.all (fun q => decide (mnm q.2.2.1 = yWithin) && (decide ((q.1, q.2.1) = (6, 24)) || decide ((q.1, q.2.1) = (7, 21)))) = true := by decide +kernel
theorem sides : infL.all (fun q => decide (q.1 = 0 ∨ q.1 = 1)) = true := by decide +kernel
/-- statics and strings belong to side 0 -/
theorem own0 : infL.all (fun q => decide (q.1 = 0 ∨ q.2.1 = 9)) = true := by decide +kernel
theorem spl_own : (splL ++ gplL ++ nplL).all (fun q => decide (q.1 ≠ 9)) = true := by decide +kernel
theorem side0 {y sd : Nat} (h : (inf y).1 = sd) (h9 : sd ≠ 9) (ho : (inf y).2.1 ≠ 9) : sd = 0 := by
  have hy : y < 200 := inf_lt (by rw [h]; exact h9)
  have h1 : inf y ∈ infL := nth_mem (Nat.lt_of_lt_of_le hy (by decide +kernel))
  have h2 := of_decide_eq_true (List.all_eq_true.mp own0 _ h1)
  rcases h2 with h2 | h2
  · rw [← h, h2]
  · exact absurd h2 ho
section STEP5
variable {p : Program} {l : Launch} {e : Env} {R : Room} {s : State} {m : MethodId} {args : Array Value} {below : List Frame} {meth : Method} {c : Code} {D : va_G} {ad tc : Nat → Nat} {fz : Value} {A : Nat → Prop} {sd y d : Nat} {Z : State → Prop} {i : Nat} {lv st : List Value} {μ : Mem} {raw : Instr} {len : Nat}
theorem inP_own {l : List (Nat × Nat × Nat × Nat)} {own idx n : Nat} (h : inP l own idx n = true) : ∃ p, (own, idx, n, p) ∈ l := by
  obtain ⟨q, hq, h1⟩ := List.any_eq_true.mp h
  simp only [Bool.and_eq_true] at h1
  obtain ⟨⟨a1, a2⟩, a3⟩ := h1
  have e1 := Nat.eq_of_beq_eq_true a1
  have e2 := Nat.eq_of_beq_eq_true a2
  have e3 := Nat.eq_of_beq_eq_true a3
  obtain ⟨x1, x2, x3, x4⟩ := q
  dsimp only at e1 e2 e3
  subst e1; subst e2; subst e3
  exact ⟨x4, hq⟩
theorem s_ldcs (C : Cx p R s m args meth c D ad tc fz A sd y d) (h9 : sd ≠ 9) {n : Nat} (hok : okI (inf y).2.1 (pcs y) (pcs y i) (.ldc_w n) raw len = true) (hdec : decode (bc y) (pcs y i) = .ok (raw, len)) (hnx : pcs y (i + 1) = pcs y i + len) (h : WA p l e R s m args below meth c D ad tc fz A sd y Z (i + 1) lv (.ref n :: st) μ) : WA p l e R s m args below meth c D ad tc fz A sd y Z i lv st μ := by
  have h1 := h.at hnx
  obtain ⟨hx, hb, hr, hml, hown, hts, hlk, hK, hRO, hfz, hsd, -⟩ := C
  intro H locs ls hl hP hD hS hro
  have h2 := h1 H locs ls hl hP hD hS hro
  unfold okI at hok
  cases raw <;> first | (cases hok; done) | skip
  case ldc idx =>
    simp only [Bool.and_eq_true] at hok
    cases Nat.eq_of_beq_eq_true hok.1
    obtain ⟨pz, hz⟩ := inP_own hok.2
    have ho : (inf y).2.1 ≠ 9 := of_decide_eq_true (List.all_eq_true.mp spl_own _ (List.mem_append_left _ (List.mem_append_left _ hz)))
    have hs0 := side0 hsd h9 ho
    clear hsd h9
    subst hs0
    obtain ⟨-, -, -, -, -, hR0, hR1, hR2, -⟩ := hRO
    rcases of_decide_eq_true (List.all_eq_true.mp spl_all _ hz) with q | q | q
    · simp only [Prod.mk.injEq] at q
      obtain ⟨q1, rfl, rfl⟩ := q
      rw [q1] at hown
      exact va_ldcS hx hb hown hR0 hdec h2
    · simp only [Prod.mk.injEq] at q
      obtain ⟨q1, rfl, rfl⟩ := q
      rw [q1] at hown
      exact va_ldcS hx hb hown hR1 hdec h2
    · simp only [Prod.mk.injEq] at q
      obtain ⟨q1, rfl, rfl⟩ := q
      rw [q1] at hown
      exact va_ldcS hx hb hown hR2 hdec h2
theorem s_static (C : Cx p R s m args meth c D ad tc fz A sd y d) (h9 : sd ≠ 9) {n : Nat} (hok : okI (inf y).2.1 (pcs y) (pcs y i) (.getstatic n) raw len = true) (hdec : decode (bc y) (pcs y i) = .ok (raw, len)) (hnx : pcs y (i + 1) = pcs y i + len) (h : WA p l e R s m args below meth c D ad tc fz A sd y Z (i + 1) lv (sK n :: st) μ) : WA p l e R s m args below meth c D ad tc fz A sd y Z i lv st μ := by
  have h1 := h.at hnx
  obtain ⟨hx, hb, hr, hml, hown, hts, hlk, hK, hRO, hfz, hsd, -⟩ := C
  intro H locs ls hl hP hD hS hro
  have h2 := h1 H locs ls hl hP hD hS hro
  unfold okI at hok
  cases raw <;> first | (cases hok; done) | skip
  case getstatic idx =>
    simp only [Bool.and_eq_true] at hok
    cases Nat.eq_of_beq_eq_true hok.1
    obtain ⟨pz, hz⟩ := inP_own hok.2
    have ho : (inf y).2.1 ≠ 9 := of_decide_eq_true (List.all_eq_true.mp spl_own _ (List.mem_append_left _ (List.mem_append_right _ hz)))
    have hs0 := side0 hsd h9 ho
    clear hsd h9
    subst hs0
    have hw := List.all_eq_true.mp gpl_ok _ hz
    dsimp only at hw
    simp only [Bool.and_eq_true] at hw
    obtain ⟨w1, w2⟩ := hw
    have hlink := hts _ (gT_of w2 rfl (fun q => by cases q))
    have hn2 := Nat.le_of_ble_eq_true w1
    obtain ⟨hZ0, -, hZ1, hZ2, -⟩ := hRO
    rcases (show n = 0 ∨ n = 1 ∨ n = 2 by omega) with rfl | rfl | rfl
    · exact va_gets hx hb hZ0 hS hown hlink (fun _ h9 => h9) hdec h2
    · exact va_gets hx hb hZ1 hS hown hlink (fun _ h9 => h9) hdec h2
    · exact va_gets hx hb hZ2 hS hown hlink (fun _ h9 => h9) hdec h2
theorem copy5_inv {P : PP} (h : copy5 sd i lv st μ P) : ∃ n dp b sp a r, st = .int n :: .int dp :: .ref b :: .int sp :: .ref a :: r ∧ Nat.ble (csum r) 8 = true ∧ (¬ sp < 0 ∧ ¬ dp < 0 ∧ ¬ n < 0 ∧ sp.toNatClampNeg + n.toNatClampNeg ≤ wlen sd a ∧ dp.toNatClampNeg + n.toNatClampNeg ≤ wlen sd b ∧ 0 < wlen sd a ∧ 0 < wlen sd b) ∧ ∀ μ' : Mem, μ' = wI μ b (va_cpy (μ.1 a) (μ.1 b) sp.toNatClampNeg dp.toNatClampNeg n.toNatClampNeg) → P (i + 1) lv r μ' := by
  unfold copy5 at h
  split at h
  · split at h
    · exact h.elim
    · rename_i hcs
      exact ⟨_, _, _, _, _, _, rfl, hcs, h.1, h.2⟩
  · exact h.elim
theorem wlen_pos {k : Nat} (h : 0 < wlen sd k) : ∃ n, lay sd k = (1, n, 0) ∧ wlen sd k = n := by
  unfold wlen at h ⊢
  split at h
  · rename_i n e
    exact ⟨n, e, rfl⟩
  · omega
theorem wAt_in {w : Cond} {p : Nat} (h : wAt p w = true) (hg : goodWord w = true) (hne : w ≠ .tt) : w ∈ gT := gT_of h hg hne
theorem s_prim (C : Cx p R s m args meth c D ad tc fz A sd y d) {n : Nat} (hok : okI (inf y).2.1 (pcs y) (pcs y i) (.invokedynamic n) raw len = true) (hdec : decode (bc y) (pcs y i) = .ok (raw, len)) (hnx : pcs y (i + 1) = pcs y i + len) (h : prim sd n i lv st μ (WA p l e R s m args below meth c D ad tc fz A sd y Z)) : WA p l e R s m args below meth c D ad tc fz A sd y Z i lv st μ := by
  obtain ⟨hx, hb, hr, hml, hown, hts, hlk, hK, hRO, hfz, hsd, -, -, hR⟩ := C
  intro H locs ls hl hP hD hS hro
  have hls : c.maxLocals = ls.size := by rw [hml]; exact hl.2.1.symm
  unfold okI at hok
  cases raw <;> first | (cases hok; done) | skip
  case invokestatic idx =>
    simp only [Bool.and_eq_true] at hok
    cases Nat.eq_of_beq_eq_true hok.1
    obtain ⟨pz, hz⟩ := inP_own hok.2
    have hw := List.all_eq_true.mp apl_ok _ hz
    dsimp only at hw
    simp only [Bool.and_eq_true] at hw
    obtain ⟨w1, w2⟩ := hw
    have hlink := hts _ (gT_of w2 rfl (fun q => by cases q))
    have hn2 := Nat.le_of_ble_eq_true w1
    have hfr : 1 ≤ R.frames := by rw [hR]; show 1 ≤ d + 1 + 1; omega
    have hlo : 64 ≤ R.locals := by rw [hR]; show 64 ≤ (d + 1 + 1) * 64; omega
    have hmm := mm_ok
    simp only [Bool.and_eq_true] at hmm
    obtain ⟨⟨⟨⟨m1, m2⟩, m3⟩, m4⟩, m5⟩ := hmm
    rcases (show n = 0 ∨ n = 1 ∨ n = 2 by omega) with rfl | rfl | rfl
    · have h : copy5 sd i lv st μ (WA p l e R s m args below meth c D ad tc fz A sd y Z) := h
      obtain ⟨n, dp, b, sp, a, r, rfl, hcs, ⟨a1, a2, a3, a4, a5, a6, a7⟩, h⟩ := copy5_inv h
      have h1 := (h _ rfl).at hnx
      have hac := ac_ok
      simp only [Bool.and_eq_true] at hac
      obtain ⟨⟨c1, c2⟩, c3⟩ := hac
      have hcr : ((r.map (cv ad fz)).map fun v => v.category).sum ≤ 8 := by rw [csum_cv hfz]; exact Nat.le_of_ble_eq_true hcs
      obtain ⟨na, hya, hna⟩ := wlen_pos a6
      obtain ⟨nb, hyb, hnb⟩ := wlen_pos a7
      rw [hna] at a4
      rw [hnb] at a5
      have hka : a < Nw sd := by
        rcases lay_arr hya with hk | ⟨-, -, -, hb⟩
        · exact hk
        · cases hb
      have hkb : b < Nw sd := by
        rcases lay_arr hyb with hk | ⟨-, -, -, hb⟩
        · exact hk
        · cases hb
      refine va_copyi (ty := .int) hx hb hls hown hlink (hts _ (gT_of c1 rfl (fun q => by cases q))) (hts _ (gT_of c2 rfl (fun q => by cases q))) (hts _ (gT_of c3 rfl (fun q => by cases q))) hK hP hD hS a b 0 0 (by rw [wl_get hka, cell_1 hya]) (by rw [wl_get hkb, cell_1 hyb]) rfl rfl rfl a1 a2 a3 a4 a5 (fun _ _ => rfl) hfr (by rw [show nativeFrameWords "java/lang/System" "arraycopy" 5 = 7 from rfl]; omega) hdec (fun H1 locs1 hP1 hD1 hS1 => ?_)
      rw [setI hkb (cell_1 hyb)] at hP1 hD1
      exact h1 H1 locs1 ls hl hP1 hD1 hS1 (hro.w hkb)
    · obtain ⟨a, b, r, rfl, h'⟩ := pII_inv (show pII st _ from h)
      split at h'
      · exact h'.elim
      · rename_i hcs
        have h1 := h'.at hnx H locs ls hl hP hD hS hro
        have hcr : ((r.map (cv ad fz)).map fun v => v.category).sum ≤ 8 := by rw [csum_cv hfz]; exact Nat.le_of_ble_eq_true hcs
        exact va_mmax hx hb hls hown hlink (hts _ (gT_of m2 rfl (fun q => by cases q))) (hts _ (gT_of m5 rfl (fun q => by cases q))) (hts _ (gT_of m1 rfl (fun q => by cases q))) hfr (by omega) (Nat.zero_le _) (Nat.zero_le _) hdec h1
    · obtain ⟨a, b, r, rfl, h'⟩ := pII_inv (show pII st _ from h)
      split at h'
      · exact h'.elim
      · rename_i hcs
        have h1 := h'.at hnx H locs ls hl hP hD hS hro
        have hcr : ((r.map (cv ad fz)).map fun v => v.category).sum ≤ 8 := by rw [csum_cv hfz]; exact Nat.le_of_ble_eq_true hcs
        exact va_mmin hx hb hls hown hlink (hts _ (gT_of m4 rfl (fun q => by cases q))) (hts _ (gT_of m5 rfl (fun q => by cases q))) (hts _ (gT_of m3 rfl (fun q => by cases q))) hfr (by omega) (Nat.zero_le _) (Nat.zero_le _) hdec h1
end STEP5
