section LL
variable {p : Program} {l : Launch} {e : Env} {s : State} {m : MethodId} {below : List Frame} {meth : Method} {c : Code} {b L : Nat} {xs : Nat → Int32} {D : va_G} {aX aM tc : Nat → Nat} {fz : Value} {Z : State → Prop} {H : Heap} {locs : List Loc} {ca sl i : Nat} {ls : Array Slot}
theorem lawOpL (C0 : lw_At p s m meth c b L xs) (F : LF s D aX aM tc fz) (hL : L ≤ 3072) (hi : i + 6 ≤ L) (hc : ca ≤ 600000 ∧ sl ≤ 7302250) (hl : lv_has ls 4 [(0, .ref b), (1, .ref (aX 0)), (2, .ref (aM 0)), (3, .int (nI i))]) {x mm : Mem} {tx : Nat → Nat → List Int32} (hI : LI s D aX aM tc x mm H locs) (hR : R tx x mm) {pc n yX yM iX iM : Nat} {off : Int} (hn : n ≤ 5) (op : OpL yX yM (argV xs i n)) (tX' : (inf yX).1 = 0 ∧ (inf yX).2.1 = 8 ∧ (inf yX).2.2.2.2.2 = 0 ∧ (inf yX).2.2.2.1 = n + 1 ∧ n + 1 ≤ (inf yX).2.2.1 ∧ (inf yX).2.2.1 ≤ 12 ∧ (inf yX).2.2.2.2.1 = some .long ∧ yX < 200) (tM' : (inf yM).1 = 1 ∧ (inf yM).2.1 = 9 ∧ (inf yM).2.2.2.2.2 = 0 ∧ (inf yM).2.2.2.1 = n + 1 ∧ n + 1 ≤ (inf yM).2.2.1 ∧ (inf yM).2.2.1 ≤ 12 ∧ (inf yM).2.2.2.2.1 = some .long ∧ yM < 200) (lX : (Cond.methodLink R_law iX (mnm yX)).before #[Value.ref b] s = true) (lM : (Cond.methodLink R_law iM (mnm yM)).before #[Value.ref b] s = true) (d0 : decode code pc = .ok (.aload_n 1, 1)) (d1 : argD (pc + 1) n) (d2 : decode code (pc + 1 + 5 * n) = .ok (.invokevirtual iX, 3)) (d3 : decode code (pc + 1 + 5 * n + 3) = .ok (.aload_n 2, 1)) (d4 : argD (pc + 1 + 5 * n + 3 + 1) n) (d5 : decode code (pc + 1 + 5 * n + 3 + 1 + 5 * n) = .ok (.invokevirtual iM, 3)) (d6 : decode code (pc + 1 + 5 * n + 3 + 1 + 5 * n + 3) = .ok (.lcmp, 1)) (d7 : decode code (pc + 1 + 5 * n + 3 + 1 + 5 * n + 3 + 1) = .ok (.ifCond .eq off, 3)) (ht : ((pc + 1 + 5 * n + 3 + 1 + 5 * n + 3 + 1 : Nat) : Int) + off = (1254 : Nat))
    (kk : ∀ x' mm' tx' H1 locs1, LI s D aX aM tc x' mm' H1 locs1 → R tx' x' mm' → W p l e room_1 s m #[Value.ref b] below meth c H1 locs1 ca sl Z (F0 m 1254 ls [])) : W p l e room_1 s m #[Value.ref b] below meth c H locs ca sl Z (F0 m pc ls []) := by
  have C0' := C0
  obtain ⟨hx, hb, hr, hml, hown, hts, hX, hbl, hlocks, hgv⟩ := C0'
  obtain ⟨fK, fRO, fDX, fDM, fap, ffz⟩ := F
  obtain ⟨iPX, iPM, iS, iRO⟩ := hI
  have hg : ∀ w ∈ gT, w.before #[Value.ref b] s = true := fun w hw => hts w (List.mem_filter.mp hw).1
  have hA : ∀ q : Nat, s.heap.size ≤ q → (fun q : Nat => s.heap.size ≤ q) q := fun _ h => h
  obtain ⟨x1, x2, x3, x4, x5, x6, x7, x8⟩ := tX'
  obtain ⟨m1, m2, m3, m4, m5, m6, m7, m8⟩ := tM'
  have rm : ∀ k, k ≤ 12 → (rmD 80).frames + 1 ≤ room_1.frames ∧ 8 + (k + 11) + (rmD 80).locals ≤ room_1.locals := fun k hk => ⟨by decide, by show 8 + (k + 11) + 5184 ≤ 84000; omega⟩
  refine lv_aload_n hx hb d0 rfl (lv_at hl 1 rfl) ?_
  refine ldA C0 hL hi iS hl n hn d1 ?_
  have e1 : (argV xs i n).reverse ++ [Value.ref (aX 0)] = (((argV xs i n).map (cv aX fz)).reverse ++ .ref (aX 0) :: []) := by rw [argV_cv]
  rw [e1]
  refine amV (sd := 0) (d := 80) (k := 0) (nL := 4) ⟨hx, hb, hml, hown, hg⟩ (by decide) ffz x8 x1 x3 (by rw [x4, argV_len]) (by show 1 + csum _ ≤ _; rw [argV_cs]; omega) (by rw [x2]; decide) (by decide) (rm _ x6) hc lX iRO (op tx x mm 0 hR) fK fRO hA iPX (fDX x) iS (Nat.zero_le _) hl.1 d2 (fun r x' H1 locs1 hq hty hro' hP' hS' hun => ?_)
  rw [x7]
  have iPM1 : va_P D vwCl (wl 1 aM tc mm) H1 := other (sd := 0) (ad := aX) (μ := x) fap iPM hun
  refine lv_aload_n hx hb d3 rfl (lv_at hl 2 rfl) ?_
  refine ldA C0 hL hi hS' hl n hn d4 ?_
  have e2 : (argV xs i n).reverse ++ (Value.ref (aM 0) :: ([r] ++ [])) = (((argV xs i n).map (cv aM fz)).reverse ++ .ref (aM 0) :: [r]) := by rw [argV_cv]; rfl
  refine W.eq (g2 := F0 m (pc + 1 + 5 * n + 3 + 1 + 5 * n) ls (((argV xs i n).map (cv aM fz)).reverse ++ .ref (aM 0) :: [r])) (by rw [← e2]; rfl) ?_
  refine amV (sd := 1) (d := 80) (k := 0) (nL := 4) ⟨hx, hb, hml, hown, hg⟩ (by decide) ffz m8 m1 m3 (by rw [m4, argV_len]) (by show 1 + csum _ ≤ _; rw [argV_cs]; omega) (by rw [m2]; decide) (by decide) (rm _ m6) hc lM trivial hq fK trivial hA iPM1 (fDM mm) hS' (by cases r <;> simp [Value.category]) hl.1 d5 (fun r' mm' H2 locs2 hq' hty' hro2 hP2 hS2 hun2 => ?_)
  rw [m7]
  obtain ⟨q1, ⟨tx', q2⟩, v, q3⟩ := hq'
  subst q1
  subst q3
  have iPX2 : va_P D vwCl (wl 0 aX tc x') H2 := other (sd := 1) (ad := aM) (μ := mm) (fun i j h1 h2 z => fap j i h2 h1 z.symm) hP' hun2
  refine W.lcmp hx hb d6 ?_
  exact lv_if_eq (tgt := 1254) hx hb d7 ht (fun _ => kk x' mm' tx' H2 locs2 ⟨iPX2, hP2, hS2, hro'⟩ q2) (fun z => absurd (lgz.mpr rfl) z)

/-- from the switch on -/
theorem lawSw (C0 : lw_At p s m meth c b L xs) (F : LF s D aX aM tc fz) (hL : L ≤ 3072) (hi : i + 6 ≤ L) (hc : ca ≤ 600000 ∧ sl ≤ 7302250) (hl : lv_has ls 4 [(0, .ref b), (1, .ref (aX 0)), (2, .ref (aM 0)), (3, .int (nI i))]) {x mm : Mem} {tx : Nat → Nat → List Int32} (hI : LI s D aX aM tc x mm H locs) (hR : R tx x mm) (v : Int32)
    (kk : ∀ x' mm' tx' H1 locs1, LI s D aX aM tc x' mm' H1 locs1 → R tx' x' mm' → W p l e room_1 s m #[Value.ref b] below meth c H1 locs1 ca sl Z (F0 m 1254 ls [])) : W p l e room_1 s m #[Value.ref b] below meth c H locs ca sl Z (F0 m 33 ls [.int v]) := by
  have C0' := C0
  obtain ⟨hx, hb, hr, hml, hown, hts, hX, hbl, hlocks, hgv⟩ := C0'
  by_cases hv : v.toInt < 0 ∨ 34 < v.toInt
  · exact lv_tableOut (tgt := 1254) hx hb d_33 hv (by decide) (kk x mm tx H locs hI hR)
  rcases (show v.toInt = 0 ∨ v.toInt = 1 ∨ v.toInt = 2 ∨ v.toInt = 3 ∨ v.toInt = 4 ∨ v.toInt = 5 ∨ v.toInt = 6 ∨ v.toInt = 7 ∨ v.toInt = 8 ∨ v.toInt = 9 ∨ v.toInt = 10 ∨ v.toInt = 11 ∨ v.toInt = 12 ∨ v.toInt = 13 ∨ v.toInt = 14 ∨ v.toInt = 15 ∨ v.toInt = 16 ∨ v.toInt = 17 ∨ v.toInt = 18 ∨ v.toInt = 19 ∨ v.toInt = 20 ∨ v.toInt = 21 ∨ v.toInt = 22 ∨ v.toInt = 23 ∨ v.toInt = 24 ∨ v.toInt = 25 ∨ v.toInt = 26 ∨ v.toInt = 27 ∨ v.toInt = 28 ∨ v.toInt = 29 ∨ v.toInt = 30 ∨ v.toInt = 31 ∨ v.toInt = 32 ∨ v.toInt = 33 ∨ v.toInt = 34 by omega) with hk | hk | hk | hk | hk | hk | hk | hk | hk | hk | hk | hk | hk | hk | hk | hk | hk | hk | hk | hk | hk | hk | hk | hk | hk | hk | hk | hk | hk | hk | hk | hk | hk | hk | hk
  · refine lv_tableIn (tgt := 188) (off := 155) hx hb d_33 (by omega) (by omega) (by rw [hk]; rfl) (by decide) ?_
    obtain ⟨d0, d1, d2, d3, d4, d5, d6⟩ := dl_set
    exact lawOp C0 F hL hi hc hl hI hR (n := 3) (yX := y_X_set) (yM := y_M_set) (by decide) (show OpR y_X_set y_M_set [.int (xs (i + (0 + 1))), .int (xs (i + (1 + 1))), .int (xs (i + (2 + 1)))] from op_set) ⟨rfl, rfl, rfl, rfl, by decide, by decide, rfl, by decide⟩ ⟨rfl, rfl, rfl, rfl, by decide, by decide, rfl, by decide⟩ (hts _ lkX_set) (hts _ lkM_set) d0 d1 d2 d3 d4 d5 d6 (by decide) kk
  · refine lv_tableIn (tgt := 231) (off := 198) hx hb d_33 (by omega) (by omega) (by rw [hk]; rfl) (by decide) ?_
    obtain ⟨d0, d1, d2, d3, d4, d5, d6⟩ := dl_told
    exact lawOp C0 F hL hi hc hl hI hR (n := 2) (yX := y_X_told) (yM := y_M_told) (by decide) (show OpR y_X_told y_M_told [.int (xs (i + (0 + 1))), .int (xs (i + (1 + 1)))] from op_told) ⟨rfl, rfl, rfl, rfl, by decide, by decide, rfl, by decide⟩ ⟨rfl, rfl, rfl, rfl, by decide, by decide, rfl, by decide⟩ (hts _ lkX_told) (hts _ lkM_told) d0 d1 d2 d3 d4 d5 d6 (by decide) kk
  · refine lv_tableIn (tgt := 264) (off := 231) hx hb d_33 (by omega) (by omega) (by rw [hk]; rfl) (by decide) ?_
    obtain ⟨d0, d1, d2, d3, d4, d5, d6⟩ := dl_word
    exact lawOp C0 F hL hi hc hl hI hR (n := 2) (yX := y_X_word) (yM := y_M_word) (by decide) (show OpR y_X_word y_M_word [.int (xs (i + (0 + 1))), .int (xs (i + (1 + 1)))] from op_word) ⟨rfl, rfl, rfl, rfl, by decide, by decide, rfl, by decide⟩ ⟨rfl, rfl, rfl, rfl, by decide, by decide, rfl, by decide⟩ (hts _ lkX_word) (hts _ lkM_word) d0 d1 d2 d3 d4 d5 d6 (by decide) kk
  · refine lv_tableIn (tgt := 297) (off := 264) hx hb d_33 (by omega) (by omega) (by rw [hk]; rfl) (by decide) ?_
    obtain ⟨d0, d1, d2, d3, d4, d5, d6⟩ := dl_writer
    exact lawOp C0 F hL hi hc hl hI hR (n := 3) (yX := y_X_writer) (yM := y_M_writer) (by decide) (show OpR y_X_writer y_M_writer [.int (xs (i + (0 + 1))), .int (xs (i + (1 + 1))), .int (xs (i + (2 + 1)))] from op_writer) ⟨rfl, rfl, rfl, rfl, by decide, by decide, rfl, by decide⟩ ⟨rfl, rfl, rfl, rfl, by decide, by decide, rfl, by decide⟩ (hts _ lkX_writer) (hts _ lkM_writer) d0 d1 d2 d3 d4 d5 d6 (by decide) kk
  · refine lv_tableIn (tgt := 340) (off := 307) hx hb d_33 (by omega) (by omega) (by rw [hk]; rfl) (by decide) ?_
    obtain ⟨d0, d1, d2, d3, d4, d5, d6⟩ := dl_law
    exact lawOp C0 F hL hi hc hl hI hR (n := 2) (yX := y_X_law) (yM := y_M_law) (by decide) (show OpR y_X_law y_M_law [.int (xs (i + (0 + 1))), .int (xs (i + (1 + 1)))] from op_law) ⟨rfl, rfl, rfl, rfl, by decide, by decide, rfl, by decide⟩ ⟨rfl, rfl, rfl, rfl, by decide, by decide, rfl, by decide⟩ (hts _ lkX_law) (hts _ lkM_law) d0 d1 d2 d3 d4 d5 d6 (by decide) kk
  · refine lv_tableIn (tgt := 373) (off := 340) hx hb d_33 (by omega) (by omega) (by rw [hk]; rfl) (by decide) ?_
    obtain ⟨d0, d1, d2, d3, d4, d5, d6⟩ := dl_rule
    exact lawOp C0 F hL hi hc hl hI hR (n := 1) (yX := y_X_rule) (yM := y_M_rule) (by decide) (show OpR y_X_rule y_M_rule [.int (xs (i + (0 + 1)))] from op_rule) ⟨rfl, rfl, rfl, rfl, by decide, by decide, rfl, by decide⟩ ⟨rfl, rfl, rfl, rfl, by decide, by decide, rfl, by decide⟩ (hts _ lkX_rule) (hts _ lkM_rule) d0 d1 d2 d3 d4 d5 d6 (by decide) kk
  · refine lv_tableIn (tgt := 396) (off := 363) hx hb d_33 (by omega) (by omega) (by rw [hk]; rfl) (by decide) ?_
    obtain ⟨d0, d1, d2, d3, d4, d5, d6⟩ := dl_feed
    exact lawOp C0 F hL hi hc hl hI hR (n := 1) (yX := y_X_feed) (yM := y_M_feed) (by decide) (show OpR y_X_feed y_M_feed [.int (xs (i + (0 + 1)))] from op_feed) ⟨rfl, rfl, rfl, rfl, by decide, by decide, rfl, by decide⟩ ⟨rfl, rfl, rfl, rfl, by decide, by decide, rfl, by decide⟩ (hts _ lkX_feed) (hts _ lkM_feed) d0 d1 d2 d3 d4 d5 d6 (by decide) kk
  · refine lv_tableIn (tgt := 419) (off := 386) hx hb d_33 (by omega) (by omega) (by rw [hk]; rfl) (by decide) ?_
    obtain ⟨d0, d1, d2, d3, d4, d5, d6⟩ := dl_text
    exact lawOp C0 F hL hi hc hl hI hR (n := 0) (yX := y_X_text) (yM := y_M_text) (by decide) (show OpR y_X_text y_M_text [] from op_text) ⟨rfl, rfl, rfl, rfl, by decide, by decide, rfl, by decide⟩ ⟨rfl, rfl, rfl, rfl, by decide, by decide, rfl, by decide⟩ (hts _ lkX_text) (hts _ lkM_text) d0 d1 d2 d3 d4 d5 d6 (by decide) kk
  · refine lv_tableIn (tgt := 432) (off := 399) hx hb d_33 (by omega) (by omega) (by rw [hk]; rfl) (by decide) ?_
    obtain ⟨d0, d1, d2, d3, d4, d5, d6⟩ := dl_force
    exact lawOp C0 F hL hi hc hl hI hR (n := 1) (yX := y_X_force) (yM := y_M_force) (by decide) (show OpR y_X_force y_M_force [.int (xs (i + (0 + 1)))] from op_force) ⟨rfl, rfl, rfl, rfl, by decide, by decide, rfl, by decide⟩ ⟨rfl, rfl, rfl, rfl, by decide, by decide, rfl, by decide⟩ (hts _ lkX_force) (hts _ lkM_force) d0 d1 d2 d3 d4 d5 d6 (by decide) kk
  · refine lv_tableIn (tgt := 455) (off := 422) hx hb d_33 (by omega) (by omega) (by rw [hk]; rfl) (by decide) ?_
    obtain ⟨d0, d1, d2, d3, d4, d5, d6⟩ := dl_costs
    exact lawOp C0 F hL hi hc hl hI hR (n := 2) (yX := y_X_costs) (yM := y_M_costs) (by decide) (show OpR y_X_costs y_M_costs [.int (xs (i + (0 + 1))), .int (xs (i + (1 + 1)))] from op_costs) ⟨rfl, rfl, rfl, rfl, by decide, by decide, rfl, by decide⟩ ⟨rfl, rfl, rfl, rfl, by decide, by decide, rfl, by decide⟩ (hts _ lkX_costs) (hts _ lkM_costs) d0 d1 d2 d3 d4 d5 d6 (by decide) kk
  · refine lv_tableIn (tgt := 488) (off := 455) hx hb d_33 (by omega) (by omega) (by rw [hk]; rfl) (by decide) ?_
    obtain ⟨d0, d1, d2, d3, d4, d5, d6⟩ := dl_write
    exact lawOp C0 F hL hi hc hl hI hR (n := 2) (yX := y_X_write) (yM := y_M_write) (by decide) (show OpR y_X_write y_M_write [.int (xs (i + (0 + 1))), .int (xs (i + (1 + 1)))] from op_write) ⟨rfl, rfl, rfl, rfl, by decide, by decide, rfl, by decide⟩ ⟨rfl, rfl, rfl, rfl, by decide, by decide, rfl, by decide⟩ (hts _ lkX_write) (hts _ lkM_write) d0 d1 d2 d3 d4 d5 d6 (by decide) kk
  · refine lv_tableIn (tgt := 521) (off := 488) hx hb d_33 (by omega) (by omega) (by rw [hk]; rfl) (by decide) ?_
    obtain ⟨d0, d1, d2, d3, d4, d5, d6⟩ := dl_pass
    exact lawOp C0 F hL hi hc hl hI hR (n := 1) (yX := y_X_pass) (yM := y_M_pass) (by decide) (show OpR y_X_pass y_M_pass [.int (xs (i + (0 + 1)))] from op_pass) ⟨rfl, rfl, rfl, rfl, by decide, by decide, rfl, by decide⟩ ⟨rfl, rfl, rfl, rfl, by decide, by decide, rfl, by decide⟩ (hts _ lkX_pass) (hts _ lkM_pass) d0 d1 d2 d3 d4 d5 d6 (by decide) kk
  · refine lv_tableIn (tgt := 544) (off := 511) hx hb d_33 (by omega) (by omega) (by rw [hk]; rfl) (by decide) ?_
    obtain ⟨d0, d1, d2, d3, d4, d5, d6⟩ := dl_cheapest
    exact lawOp C0 F hL hi hc hl hI hR (n := 3) (yX := y_X_cheapest) (yM := y_M_cheapest) (by decide) (show OpR y_X_cheapest y_M_cheapest [.int (xs (i + (0 + 1))), .int (xs (i + (1 + 1))), .int (xs (i + (2 + 1)))] from op_cheapest) ⟨rfl, rfl, rfl, rfl, by decide, by decide, rfl, by decide⟩ ⟨rfl, rfl, rfl, rfl, by decide, by decide, rfl, by decide⟩ (hts _ lkX_cheapest) (hts _ lkM_cheapest) d0 d1 d2 d3 d4 d5 d6 (by decide) kk
  · refine lv_tableIn (tgt := 587) (off := 554) hx hb d_33 (by omega) (by omega) (by rw [hk]; rfl) (by decide) ?_
    obtain ⟨d0, d1, d2, d3, d4, d5, d6⟩ := dl_day
    exact lawOp C0 F hL hi hc hl hI hR (n := 2) (yX := y_X_day) (yM := y_M_day) (by decide) (show OpR y_X_day y_M_day [.int (xs (i + (0 + 1))), .int (xs (i + (1 + 1)))] from op_day) ⟨rfl, rfl, rfl, rfl, by decide, by decide, rfl, by decide⟩ ⟨rfl, rfl, rfl, rfl, by decide, by decide, rfl, by decide⟩ (hts _ lkX_day) (hts _ lkM_day) d0 d1 d2 d3 d4 d5 d6 (by decide) kk
  · refine lv_tableIn (tgt := 620) (off := 587) hx hb d_33 (by omega) (by omega) (by rw [hk]; rfl) (by decide) ?_
    obtain ⟨d0, d1, d2, d3, d4, d5, d6⟩ := dl_all
    exact lawOp C0 F hL hi hc hl hI hR (n := 1) (yX := y_X_all) (yM := y_M_all) (by decide) (show OpR y_X_all y_M_all [.int (xs (i + (0 + 1)))] from op_all) ⟨rfl, rfl, rfl, rfl, by decide, by decide, rfl, by decide⟩ ⟨rfl, rfl, rfl, rfl, by decide, by decide, rfl, by decide⟩ (hts _ lkX_all) (hts _ lkM_all) d0 d1 d2 d3 d4 d5 d6 (by decide) kk
  · refine lv_tableIn (tgt := 643) (off := 610) hx hb d_33 (by omega) (by omega) (by rw [hk]; rfl) (by decide) ?_
    obtain ⟨d0, d1, d2, d3, d4, d5, d6⟩ := dl_when
    exact lawOp C0 F hL hi hc hl hI hR (n := 2) (yX := y_X_when) (yM := y_M_when) (by decide) (show OpR y_X_when y_M_when [.int (xs (i + (0 + 1))), .int (xs (i + (1 + 1)))] from op_when) ⟨rfl, rfl, rfl, rfl, by decide, by decide, rfl, by decide⟩ ⟨rfl, rfl, rfl, rfl, by decide, by decide, rfl, by decide⟩ (hts _ lkX_when) (hts _ lkM_when) d0 d1 d2 d3 d4 d5 d6 (by decide) kk
  · refine lv_tableIn (tgt := 676) (off := 643) hx hb d_33 (by omega) (by omega) (by rw [hk]; rfl) (by decide) ?_
    obtain ⟨d0, d1, d2, d3, d4, d5, d6⟩ := dl_choose
    exact lawOp C0 F hL hi hc hl hI hR (n := 1) (yX := y_X_choose) (yM := y_M_choose) (by decide) (show OpR y_X_choose y_M_choose [.int (xs (i + (0 + 1)))] from op_choose) ⟨rfl, rfl, rfl, rfl, by decide, by decide, rfl, by decide⟩ ⟨rfl, rfl, rfl, rfl, by decide, by decide, rfl, by decide⟩ (hts _ lkX_choose) (hts _ lkM_choose) d0 d1 d2 d3 d4 d5 d6 (by decide) kk
  · refine lv_tableIn (tgt := 699) (off := 666) hx hb d_33 (by omega) (by omega) (by rw [hk]; rfl) (by decide) ?_
    obtain ⟨d0, d1, d2, d3, d4, d5, d6⟩ := dl_rest
    exact lawOp C0 F hL hi hc hl hI hR (n := 0) (yX := y_X_rest) (yM := y_M_rest) (by decide) (show OpR y_X_rest y_M_rest [] from op_rest) ⟨rfl, rfl, rfl, rfl, by decide, by decide, rfl, by decide⟩ ⟨rfl, rfl, rfl, rfl, by decide, by decide, rfl, by decide⟩ (hts _ lkX_rest) (hts _ lkM_rest) d0 d1 d2 d3 d4 d5 d6 (by decide) kk
  · refine lv_tableIn (tgt := 712) (off := 679) hx hb d_33 (by omega) (by omega) (by rw [hk]; rfl) (by decide) ?_
    obtain ⟨d0, d1, d2, d3, d4, d5, d6⟩ := dl_turns
    exact lawOp C0 F hL hi hc hl hI hR (n := 1) (yX := y_X_turns) (yM := y_M_turns) (by decide) (show OpR y_X_turns y_M_turns [.int (xs (i + (0 + 1)))] from op_turns) ⟨rfl, rfl, rfl, rfl, by decide, by decide, rfl, by decide⟩ ⟨rfl, rfl, rfl, rfl, by decide, by decide, rfl, by decide⟩ (hts _ lkX_turns) (hts _ lkM_turns) d0 d1 d2 d3 d4 d5 d6 (by decide) kk
  · refine lv_tableIn (tgt := 735) (off := 702) hx hb d_33 (by omega) (by omega) (by rw [hk]; rfl) (by decide) ?_
    obtain ⟨d0, d1, d2, d3, d4, d5, d6⟩ := dl_burn
    exact lawOp C0 F hL hi hc hl hI hR (n := 2) (yX := y_X_burn) (yM := y_M_burn) (by decide) (show OpR y_X_burn y_M_burn [.int (xs (i + (0 + 1))), .int (xs (i + (1 + 1)))] from op_burn) ⟨rfl, rfl, rfl, rfl, by decide, by decide, rfl, by decide⟩ ⟨rfl, rfl, rfl, rfl, by decide, by decide, rfl, by decide⟩ (hts _ lkX_burn) (hts _ lkM_burn) d0 d1 d2 d3 d4 d5 d6 (by decide) kk
  · refine lv_tableIn (tgt := 768) (off := 735) hx hb d_33 (by omega) (by omega) (by rw [hk]; rfl) (by decide) ?_
    obtain ⟨d0, d1, d2, d3, d4, d5, d6⟩ := dl_worst
    exact lawOp C0 F hL hi hc hl hI hR (n := 2) (yX := y_X_worst) (yM := y_M_worst) (by decide) (show OpR y_X_worst y_M_worst [.int (xs (i + (0 + 1))), .int (xs (i + (1 + 1)))] from op_worst) ⟨rfl, rfl, rfl, rfl, by decide, by decide, rfl, by decide⟩ ⟨rfl, rfl, rfl, rfl, by decide, by decide, rfl, by decide⟩ (hts _ lkX_worst) (hts _ lkM_worst) d0 d1 d2 d3 d4 d5 d6 (by decide) kk
  · refine lv_tableIn (tgt := 801) (off := 768) hx hb d_33 (by omega) (by omega) (by rw [hk]; rfl) (by decide) ?_
    obtain ⟨d0, d1, d2, d3, d4, d5, d6⟩ := dl_best
    exact lawOp C0 F hL hi hc hl hI hR (n := 1) (yX := y_X_best) (yM := y_M_best) (by decide) (show OpR y_X_best y_M_best [.int (xs (i + (0 + 1)))] from op_best) ⟨rfl, rfl, rfl, rfl, by decide, by decide, rfl, by decide⟩ ⟨rfl, rfl, rfl, rfl, by decide, by decide, rfl, by decide⟩ (hts _ lkX_best) (hts _ lkM_best) d0 d1 d2 d3 d4 d5 d6 (by decide) kk
  · refine lv_tableIn (tgt := 824) (off := 791) hx hb d_33 (by omega) (by omega) (by rw [hk]; rfl) (by decide) ?_
    obtain ⟨d0, d1, d2, d3, d4, d5, d6⟩ := dl_judge
    exact lawOp C0 F hL hi hc hl hI hR (n := 1) (yX := y_X_judge) (yM := y_M_judge) (by decide) (show OpR y_X_judge y_M_judge [.int (xs (i + (0 + 1)))] from op_judge) ⟨rfl, rfl, rfl, rfl, by decide, by decide, rfl, by decide⟩ ⟨rfl, rfl, rfl, rfl, by decide, by decide, rfl, by decide⟩ (hts _ lkX_judge) (hts _ lkM_judge) d0 d1 d2 d3 d4 d5 d6 (by decide) kk
  · refine lv_tableIn (tgt := 847) (off := 814) hx hb d_33 (by omega) (by omega) (by rw [hk]; rfl) (by decide) ?_
    obtain ⟨d0, d1, d2, d3, d4, d5, d6⟩ := dl_fits
    exact lawOp C0 F hL hi hc hl hI hR (n := 2) (yX := y_X_fits) (yM := y_M_fits) (by decide) (show OpR y_X_fits y_M_fits [.int (xs (i + (0 + 1))), .int (xs (i + (1 + 1)))] from op_fits) ⟨rfl, rfl, rfl, rfl, by decide, by decide, rfl, by decide⟩ ⟨rfl, rfl, rfl, rfl, by decide, by decide, rfl, by decide⟩ (hts _ lkX_fits) (hts _ lkM_fits) d0 d1 d2 d3 d4 d5 d6 (by decide) kk
  · refine lv_tableIn (tgt := 880) (off := 847) hx hb d_33 (by omega) (by omega) (by rw [hk]; rfl) (by decide) ?_
    obtain ⟨d0, d1, d2, d3, d4, d5, d6⟩ := dl_whose
    exact lawOp C0 F hL hi hc hl hI hR (n := 1) (yX := y_X_whose) (yM := y_M_whose) (by decide) (show OpR y_X_whose y_M_whose [.int (xs (i + (0 + 1)))] from op_whose) ⟨rfl, rfl, rfl, rfl, by decide, by decide, rfl, by decide⟩ ⟨rfl, rfl, rfl, rfl, by decide, by decide, rfl, by decide⟩ (hts _ lkX_whose) (hts _ lkM_whose) d0 d1 d2 d3 d4 d5 d6 (by decide) kk
  · refine lv_tableIn (tgt := 903) (off := 870) hx hb d_33 (by omega) (by omega) (by rw [hk]; rfl) (by decide) ?_
    obtain ⟨d0, d1, d2, d3, d4, d5, d6⟩ := dl_drawn
    exact lawOp C0 F hL hi hc hl hI hR (n := 1) (yX := y_X_drawn) (yM := y_M_drawn) (by decide) (show OpR y_X_drawn y_M_drawn [.int (xs (i + (0 + 1)))] from op_drawn) ⟨rfl, rfl, rfl, rfl, by decide, by decide, rfl, by decide⟩ ⟨rfl, rfl, rfl, rfl, by decide, by decide, rfl, by decide⟩ (hts _ lkX_drawn) (hts _ lkM_drawn) d0 d1 d2 d3 d4 d5 d6 (by decide) kk
  · refine lv_tableIn (tgt := 926) (off := 893) hx hb d_33 (by omega) (by omega) (by rw [hk]; rfl) (by decide) ?_
    obtain ⟨d0, d1, d2, d3, d4, d5, d6, d7⟩ := dl_chance
    exact lawOpL C0 F hL hi hc hl hI hR (n := 3) (yX := y_X_chance) (yM := y_M_chance) (by decide) (show OpL y_X_chance y_M_chance [.int (xs (i + (0 + 1))), .int (xs (i + (1 + 1))), .int (xs (i + (2 + 1)))] from op_chanceL) ⟨rfl, rfl, rfl, rfl, by decide, by decide, rfl, by decide⟩ ⟨rfl, rfl, rfl, rfl, by decide, by decide, rfl, by decide⟩ (hts _ lkX_chance) (hts _ lkM_chance) d0 d1 d2 d3 d4 d5 d6 d7 (by decide) kk
  · refine lv_tableIn (tgt := 970) (off := 937) hx hb d_33 (by omega) (by omega) (by rw [hk]; rfl) (by decide) ?_
    obtain ⟨d0, d1, d2, d3, d4, d5, d6⟩ := dl_image
    exact lawOp C0 F hL hi hc hl hI hR (n := 0) (yX := y_X_image) (yM := y_M_image) (by decide) (show OpR y_X_image y_M_image [] from op_image) ⟨rfl, rfl, rfl, rfl, by decide, by decide, rfl, by decide⟩ ⟨rfl, rfl, rfl, rfl, by decide, by decide, rfl, by decide⟩ (hts _ lkX_image) (hts _ lkM_image) d0 d1 d2 d3 d4 d5 d6 (by decide) kk
  · refine lv_tableIn (tgt := 983) (off := 950) hx hb d_33 (by omega) (by omega) (by rw [hk]; rfl) (by decide) ?_
    obtain ⟨d0, d1, d2, d3, d4, d5, d6⟩ := dl_back
    exact lawOp C0 F hL hi hc hl hI hR (n := 0) (yX := y_X_back) (yM := y_M_back) (by decide) (show OpR y_X_back y_M_back [] from op_back) ⟨rfl, rfl, rfl, rfl, by decide, by decide, rfl, by decide⟩ ⟨rfl, rfl, rfl, rfl, by decide, by decide, rfl, by decide⟩ (hts _ lkX_back) (hts _ lkM_back) d0 d1 d2 d3 d4 d5 d6 (by decide) kk
  · refine lv_tableIn (tgt := 996) (off := 963) hx hb d_33 (by omega) (by omega) (by rw [hk]; rfl) (by decide) ?_
    obtain ⟨d0, d1, d2, d3, d4, d5, d6⟩ := dl_count
    exact lawOp C0 F hL hi hc hl hI hR (n := 1) (yX := y_X_count) (yM := y_M_count) (by decide) (show OpR y_X_count y_M_count [.int (xs (i + (0 + 1)))] from op_count) ⟨rfl, rfl, rfl, rfl, by decide, by decide, rfl, by decide⟩ ⟨rfl, rfl, rfl, rfl, by decide, by decide, rfl, by decide⟩ (hts _ lkX_count) (hts _ lkM_count) d0 d1 d2 d3 d4 d5 d6 (by decide) kk
  · refine lv_tableIn (tgt := 1019) (off := 986) hx hb d_33 (by omega) (by omega) (by rw [hk]; rfl) (by decide) ?_
    obtain ⟨d0, d1, d2, d3, d4, d5, d6⟩ := dl_sheet
    exact lawOp C0 F hL hi hc hl hI hR (n := 3) (yX := y_X_sheet) (yM := y_M_sheet) (by decide) (show OpR y_X_sheet y_M_sheet [.int (xs (i + (0 + 1))), .int (xs (i + (1 + 1))), .int (xs (i + (2 + 1)))] from op_sheet) ⟨rfl, rfl, rfl, rfl, by decide, by decide, rfl, by decide⟩ ⟨rfl, rfl, rfl, rfl, by decide, by decide, rfl, by decide⟩ (hts _ lkX_sheet) (hts _ lkM_sheet) d0 d1 d2 d3 d4 d5 d6 (by decide) kk
  · refine lv_tableIn (tgt := 1062) (off := 1029) hx hb d_33 (by omega) (by omega) (by rw [hk]; rfl) (by decide) ?_
    obtain ⟨d0, d1, d2, d3, d4, d5, d6⟩ := dl_cell
    exact lawOp C0 F hL hi hc hl hI hR (n := 3) (yX := y_X_cell) (yM := y_M_cell) (by decide) (show OpR y_X_cell y_M_cell [.int (xs (i + (0 + 1))), .int (xs (i + (1 + 1))), .int (xs (i + (2 + 1)))] from op_cell) ⟨rfl, rfl, rfl, rfl, by decide, by decide, rfl, by decide⟩ ⟨rfl, rfl, rfl, rfl, by decide, by decide, rfl, by decide⟩ (hts _ lkX_cell) (hts _ lkM_cell) d0 d1 d2 d3 d4 d5 d6 (by decide) kk
  · refine lv_tableIn (tgt := 1105) (off := 1072) hx hb d_33 (by omega) (by omega) (by rw [hk]; rfl) (by decide) ?_
    obtain ⟨d0, d1, d2, d3, d4, d5, d6⟩ := dl_copy
    exact lawOp C0 F hL hi hc hl hI hR (n := 5) (yX := y_X_copy) (yM := y_M_copy) (by decide) (show OpR y_X_copy y_M_copy [.int (xs (i + (0 + 1))), .int (xs (i + (1 + 1))), .int (xs (i + (2 + 1))), .int (xs (i + (3 + 1))), .int (xs (i + (4 + 1)))] from op_copy) ⟨rfl, rfl, rfl, rfl, by decide, by decide, rfl, by decide⟩ ⟨rfl, rfl, rfl, rfl, by decide, by decide, rfl, by decide⟩ (hts _ lkX_copy) (hts _ lkM_copy) d0 d1 d2 d3 d4 d5 d6 (by decide) kk
  · refine lv_tableIn (tgt := 1168) (off := 1135) hx hb d_33 (by omega) (by omega) (by rw [hk]; rfl) (by decide) ?_
    obtain ⟨d0, d1, d2, d3, d4, d5, d6⟩ := dl_writers
    exact lawOp C0 F hL hi hc hl hI hR (n := 4) (yX := y_X_writers) (yM := y_M_writers) (by decide) (show OpR y_X_writers y_M_writers [.int (xs (i + (0 + 1))), .int (xs (i + (1 + 1))), .int (xs (i + (2 + 1))), .int (xs (i + (3 + 1)))] from op_writers) ⟨rfl, rfl, rfl, rfl, by decide, by decide, rfl, by decide⟩ ⟨rfl, rfl, rfl, rfl, by decide, by decide, rfl, by decide⟩ (hts _ lkX_writers) (hts _ lkM_writers) d0 d1 d2 d3 d4 d5 d6 (by decide) kk
  · refine lv_tableIn (tgt := 1221) (off := 1188) hx hb d_33 (by omega) (by omega) (by rw [hk]; rfl) (by decide) ?_
    obtain ⟨d0, d1, d2, d3, d4, d5, d6⟩ := dl_taken
    exact lawOp C0 F hL hi hc hl hI hR (n := 2) (yX := y_X_taken) (yM := y_M_taken) (by decide) (show OpR y_X_taken y_M_taken [.int (xs (i + (0 + 1))), .int (xs (i + (1 + 1)))] from op_taken) ⟨rfl, rfl, rfl, rfl, by decide, by decide, rfl, by decide⟩ ⟨rfl, rfl, rfl, rfl, by decide, by decide, rfl, by decide⟩ (hts _ lkX_taken) (hts _ lkM_taken) d0 d1 d2 d3 d4 d5 d6 (by decide) kk
theorem lawLoop (C0 : lw_At p s m meth c b L xs) (F : LF s D aX aM tc fz) (hL : L ≤ 3072) (hc : ca ≤ 600000 ∧ sl ≤ 7302250) : ∀ (n i : Nat) (x mm : Mem) (tx : Nat → Nat → List Int32) (H : Heap) (locs : List Loc) (ls : Array Slot), i ≤ L + 6 → L ≤ i + 6 * n → LI s D aX aM tc x mm H locs → R tx x mm → lv_has ls 4 [(0, .ref b), (1, .ref (aX 0)), (2, .ref (aM 0)), (3, .int (nI i))] → W p l e room_1 s m #[Value.ref b] below meth c H locs ca sl (lw_Z below #[Value.ref b] s) (F0 m 18 ls []) := by
  have C0' := C0
  obtain ⟨hx, hb, hr, hml, hown, hts, hX, hbl, hlocks, hgv⟩ := C0'
  have hbA : ¬ (fun q : Nat => s.heap.size ≤ q) b := Nat.not_le.mpr hbl
  have eL : (Int32.ofNat L - 6).toInt = (L : Int) - 6 := by
    have e1 : (Int32.ofNat L).toInt = L := nI_i (n := L) (by omega)
    have e6 : (6 : Int32).toInt = 6 := rfl
    rw [sub32 (by rw [e1, e6]; omega) (by rw [e1, e6]; omega), e1, e6]
  have head : ∀ (i : Nat) (H : Heap) (locs : List Loc) (ls : Array Slot), i ≤ L + 6 → va_S (fun q : Nat => s.heap.size ≤ q) s.heap H locs → lv_has ls 4 [(0, .ref b), (1, .ref (aX 0)), (2, .ref (aM 0)), (3, .int (nI i))] → (i + 6 ≤ L → W p l e room_1 s m #[Value.ref b] below meth c H locs ca sl (lw_Z below #[Value.ref b] s) (F0 m 27 ls [])) → W p l e room_1 s m #[Value.ref b] below meth c H locs ca sl (lw_Z below #[Value.ref b] s) (F0 m 18 ls []) := by
    intro i H locs ls hi hS hl k
    have ei := nI_i (n := i) (by omega)
    refine lv_iload_n hx hb d_18 rfl (lv_at hl 3 rfl) ?_
    refine lv_aload_n hx hb d_19 rfl (lv_at hl 0 rfl) ?_
    refine va_slen hx hb hX hbl hbA hS d_20 ?_
    refine lv_bipush (v := 6) hx hb d_21 (by decide) ?_
    refine lv_isub hx hb d_23 ?_
    refine lv_icmp_gt (tgt := 1260) hx hb d_24 (by decide) (fun z => ?_) (fun z => ?_)
    · refine lv_iconst (v := 1) hx hb d_1260 (by decide) ?_
      refine va_forget (fun q hq => hS.2.2 q hq) ?_
      refine W.widen (k := 600000) (n := 7302250) hc.1 hc.2 ?_
      exact lw_ret hx hb hr hlocks d_1261
    · refine k ?_
      have z := Int.not_lt.mp (fun y => z (lt32.mpr y))
      rw [ei, eL] at z
      omega
  intro n
  induction n with
  | zero =>
    intro i x mm tx H locs ls hi hn hI hR hl
    exact head i H locs ls hi hI.2.2.1 hl (fun z => absurd z (by omega))
  | succ n ih =>
    intro i x mm tx H locs ls hi hn hI hR hl
    refine head i H locs ls hi hI.2.2.1 hl (fun h6 => ?_)
    refine lv_aload_n hx hb d_27 rfl (lv_at hl 0 rfl) ?_
    refine lv_iload_n hx hb d_28 rfl (lv_at hl 3 rfl) ?_
    refine va_sld hx hb hX hbl hbA hI.2.2.1 (nI_v (by omega) (by omega)) d_29 ?_
    refine lv_bipush (v := 63) hx hb d_30 (by decide) ?_
    refine lv_iand hx hb d_32 ?_
    refine lawSw C0 F hL h6 hc hl hI hR _ (fun x' mm' tx' H1 locs1 hI' hR' => ?_)
    refine lv_iinc (v := nI (i + 6)) (lv' := [(3, .int (nI (i + 6))), (0, .ref b), (1, .ref (aX 0)), (2, .ref (aM 0))]) hx hb d_1254 hl (k := 3) rfl (by exact nI_add i 6) (by decide) rfl (fun ls' hl' => ?_)
    refine lv_goto (tgt := 18) hx hb d_1257 (by decide) ?_
    exact ih (i + 6) x' mm' tx' H1 locs1 ls' (by omega) (by omega) hI' hR' (lv_sub hl' [1, 2, 3, 0] rfl)
end LL
