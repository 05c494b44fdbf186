theorem cs_1 : Cond.laysStatic "DearerByUse$Laws" "ABOVE" "[I" ∈ lw_tbl := by decide +kernel
theorem cs_2 : Cond.initialized "DearerByUse$Laws" ∈ lw_tbl := by decide +kernel
theorem cs_3 : Cond.laysStatic "java/lang/String" "COMPACT_STRINGS" "Z" ∈ lw_tbl := by decide +kernel
theorem cs_4 : Cond.initialized "java/lang/String" ∈ lw_tbl := by decide +kernel
theorem cs_5 : Cond.laysStatic "jdk/internal/util/Preconditions" "SIOOBE_FORMATTER" "Ljava/util/function/BiFunction;" ∈ lw_tbl := by decide +kernel
theorem cs_6 : Cond.initialized "jdk/internal/util/Preconditions" ∈ lw_tbl := by decide +kernel
theorem cs_7 : Cond.stringRef "DearerByUse" 75 (strS.getD 0 "") ∈ lw_tbl := by decide +kernel
theorem cs_8 : Cond.stringRef "DearerByUse$Reader" 115 (strS.getD 1 "") ∈ lw_tbl := by decide +kernel
theorem cs_9 : Cond.stringRef "DearerByUse$Reader" 106 (strS.getD 2 "") ∈ lw_tbl := by decide +kernel
theorem cs_10 : Cond.methodLinkNest "DearerByUse$Words" 24 yWithin "DearerByUse" ∈ lw_tbl := by decide +kernel
theorem cs_11 : Cond.methodLinkNest "DearerByUse$Writers" 21 yWithin "DearerByUse" ∈ lw_tbl := by decide +kernel
theorem isRef_val {s : State} {args : Array Value} {t : Term} (h : (Cond.isRef t).before args s = true) : ∃ v, t.eval args s none [] s = some v ∧ v.category = 1 := by
  cases hv : t.eval args s none [] s with
  | none => simp [Cond.before, Cond.holds, Cond.value, hv] at h
  | some w =>
    refine ⟨w, rfl, ?_⟩
    simp only [Cond.before, Cond.holds, Cond.value, hv] at h
    cases w <;> simp_all [Value.isRef, Value.category]
theorem constsAt {p : Program} {s : State} {m : MethodId} {meth : Method} {c : Code} {b L : Nat} {xs : Nat → Int32} (C0 : lw_At p s m meth c b L xs) : ∃ (a5 : Nat) (aK aV : Nat → Nat) (fz : Value), fz.category = 1 ∧ ∀ ad : Nat → Nat, ad 65 = a5 → (∀ i, i < 3 → ad (66 + 2 * i) = aK i ∧ ad (67 + 2 * i) = aV i) → ROs 0 ad fz (fun q : Nat => s.heap.size ≤ q) s s.heap := by
  obtain ⟨hx, hb, hr, hml, hown, hts, hX, hbl, hlocks, hgv⟩ := C0
  have hA : ∀ a : Nat, a < s.heap.size → ¬ (fun q : Nat => s.heap.size ≤ q) a := fun a h => Nat.not_le.mpr h
  have nr := nr_all hgv
  obtain ⟨a5, e5, hT⟩ := va_Tof (f := fun j => .int (abv j)) (N := 6) (by decide) (nr (Cond.arrayOf (.static "DearerByUse$Laws" "ABOVE" "[I") .int) (by decide +kernel)) (va_eqt (nr (Cond.eq (.length (.static "DearerByUse$Laws" "ABOVE" "[I")) (.int 6)) (by decide +kernel))) (fun j hj => va_eqt (nr_above hgv j hj)) hA
  have hZ := va_Zof (hts _ cs_1) (hts _ cs_2) e5 hA
  have hC := va_Zof (v := .int 1) (hts _ cs_3) (hts _ cs_4) (va_eqt (nr (Cond.eq (.static "java/lang/String" "COMPACT_STRINGS" "Z") (.int 1)) (by decide +kernel))) hA
  obtain ⟨fz, ef, cf⟩ := isRef_val (nr (Cond.isRef (.static "jdk/internal/util/Preconditions" "SIOOBE_FORMATTER" "Ljava/util/function/BiFunction;")) (by decide +kernel))
  have hF := va_Zof (hts _ cs_5) (hts _ cs_6) ef hA
  obtain ⟨aK, aV, hV, hev⟩ := vk_Sof (N := 3) (tm := tmS) (len := sLen) (byt := sByt) (A := fun q : Nat => s.heap.size ≤ q) (by decide) (fun i hi => (nr_str hgv i hi).1) (fun i hi => (nr_str hgv i hi).2.1) (fun i hi => (nr_str hgv i hi).2.2.1) (fun i hi => (nr_str hgv i hi).2.2.2) (nr_el hgv) (nr_ne hgv) hA
  refine ⟨a5, aK, aV, fz, cf, fun ad h65 hK => ?_⟩
  have hV' : vk_S 3 sLen sByt (fun i => ad (66 + 2 * i)) (fun i => ad (67 + 2 * i)) (fun q : Nat => s.heap.size ≤ q) s s.heap := by
    refine ⟨fun i hi => ?_, fun i j hi hj z => hV.2 i j hi hj ?_⟩
    · have := hV.1 i hi
      dsimp only
      rw [(hK i hi).1, (hK i hi).2]
      exact this
    · dsimp only at z
      rw [(hK i hi).1, (hK j hj).1] at z
      exact z
  have k0 := (hK 0 (by omega)).1
  have k1 := (hK 1 (by omega)).1
  have k2 := (hK 2 (by omega)).1
  refine ⟨by rw [h65]; exact hZ, by rw [h65]; exact hT, hC, hF, hV', ?_, ?_, ?_, va_Nw.of rfl (hts _ cs_10), va_Nw.of rfl (hts _ cs_11)⟩
  · rw [show ad 66 = aK 0 from k0]; exact vk_R.of (hts _ cs_7) (hev 0 (by omega))
  · rw [show ad 68 = aK 1 from k1]; exact vk_R.of (hts _ cs_8) (hev 1 (by omega))
  · rw [show ad 70 = aK 2 from k2]; exact vk_R.of (hts _ cs_9) (hev 2 (by omega))
