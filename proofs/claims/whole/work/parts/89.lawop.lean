/-! ===== one call of the law ===== -/
def argV (xs : Nat → Int32) (i n : Nat) : List Value := (List.range n).map (fun q => Value.int (xs (i + (q + 1))))
theorem argV_s {xs : Nat → Int32} {i n : Nat} : argV xs i (n + 1) = argV xs i n ++ [.int (xs (i + (n + 1)))] := by unfold argV; rw [List.range_succ, List.map_append]; rfl
theorem argV_len {xs : Nat → Int32} {i n : Nat} : (argV xs i n).length = n := by unfold argV; simp
theorem argV_cv {xs : Nat → Int32} {i n : Nat} {ad : Nat → Nat} {fz : Value} : (argV xs i n).map (cv ad fz) = argV xs i n := by unfold argV; rw [List.map_map]; rfl
theorem argV_cs {xs : Nat → Int32} {i : Nat} : ∀ n, csum (argV xs i n) = n
  | 0 => rfl
  | n + 1 => by rw [argV_s, csum_append, argV_cs n]; rfl
def argD (pc n : Nat) : Prop := ∀ q, q < n → decode code (pc + 5 * q) = .ok (.aload_n 0, 1) ∧ decode code (pc + 5 * q + 1) = .ok (.iload_n 3, 1) ∧ decode code (pc + 5 * q + 2) = .ok (.iconst ((q + 1 : Nat) : Int), 1) ∧ decode code (pc + 5 * q + 3) = .ok (.iadd, 1) ∧ decode code (pc + 5 * q + 4) = .ok (.iaload, 1)
section LO
variable {p : Program} {l : Launch} {e : Env} {s : State} {m : MethodId} {below : List Frame} {meth : Method} {c : Code} {b L : Nat} {xs : Nat → Int32} {D : va_G} {aX aM tc : Nat → Nat} {fz : Value} {Z : State → Prop} {H : Heap} {locs : List Loc} {ca sl i : Nat} {ls : Array Slot}
theorem ldA (C0 : lw_At p s m meth c b L xs) (hL : L ≤ 3072) (hi : i + 6 ≤ L) (hS : va_S (fun q : Nat => s.heap.size ≤ q) s.heap H locs) (hl : lv_has ls 4 [(0, .ref b), (1, .ref (aX 0)), (2, .ref (aM 0)), (3, .int (nI i))]) {pc : Nat} {st : List Value} : ∀ n, n ≤ 5 → argD pc n → W p l e room_1 s m #[Value.ref b] below meth c H locs ca sl Z (F0 m (pc + 5 * n) ls ((argV xs i n).reverse ++ st)) → W p l e room_1 s m #[Value.ref b] below meth c H locs ca sl Z (F0 m pc ls st) := by
  obtain ⟨hx, hb, hr, hml, hown, hts, hX, hbl, hlocks, hgv⟩ := C0
  have hbA : ¬ (fun q : Nat => s.heap.size ≤ q) b := Nat.not_le.mpr hbl
  intro n
  induction n with
  | zero => intro _ _ k; exact k
  | succ n ih =>
    intro hn hd k
    obtain ⟨d0, d1, d2, d3, d4⟩ := hd n (by omega)
    refine ih (by omega) (fun q hq => hd q (by omega)) ?_
    refine lv_aload_n hx hb d0 rfl (lv_at hl 0 rfl) ?_
    refine lv_iload_n hx hb d1 rfl (lv_at hl 3 rfl) ?_
    have ev : Int32.ofInt ((n + 1 : Nat) : Int) = nI (n + 1) := by
      have : ∀ n, n < 5 → Int32.ofInt ((n + 1 : Nat) : Int) = nI (n + 1) := by decide
      exact this n (by omega)
    refine lv_iconst (v := nI (n + 1)) hx hb d2 ev ?_
    refine lv_iadd hx hb d3 ?_
    rw [nI_add]
    refine va_sld hx hb hX hbl hbA hS (nI_v (by omega) (by omega)) d4 ?_
    rw [nI_c (by omega)]
    rw [argV_s, List.reverse_append] at k
    exact k
/-- what never changes while the law runs -/
def LF (s : State) (D : va_G) (aX aM tc : Nat → Nat) (fz : Value) : Prop := va_K D vwCl (tysA tc) s ∧ ROs 0 aX fz (fun q : Nat => s.heap.size ≤ q) s s.heap ∧ (∀ μ, va_D (fun q : Nat => s.heap.size ≤ q) (wl 0 aX tc μ)) ∧ (∀ μ, va_D (fun q : Nat => s.heap.size ≤ q) (wl 1 aM tc μ)) ∧ (∀ i j, i < 65 → j < 26 → aX i ≠ aM j) ∧ fz.category = 1
def LI (s : State) (D : va_G) (aX aM tc : Nat → Nat) (x mm : Mem) (H : Heap) (locs : List Loc) : Prop := va_P D vwCl (wl 0 aX tc x) H ∧ va_P D vwCl (wl 1 aM tc mm) H ∧ va_S (fun q : Nat => s.heap.size ≤ q) s.heap H locs ∧ ROm 0 x
theorem wl_in {sd : Nat} {ad : Nat → Nat} {μ : Mem} {k q : Nat} {e0 : va_E} (h : (wl sd ad tc μ)[k]? = some (q, e0)) : k < Nw sd ∧ q = ad k := by
  by_cases hk : k < Nw sd
  · rw [wl_get hk] at h
    cases h
    exact ⟨hk, rfl⟩
  · rw [List.getElem?_eq_none (by simp [wl]; omega)] at h
    cases h
theorem other {sd sd' : Nat} {ad ad' : Nat → Nat} {μ μ' : Mem} {H H1 : Heap} (hap : ∀ i j, i < Nw sd → j < Nw sd' → ad i ≠ ad' j) (hP : va_P D vwCl (wl sd' ad' tc μ') H) (hun : ∀ q, q < H.size → ¬ va_A (wl sd ad tc μ) H.size q → H1[q]? = H[q]?) : va_P D vwCl (wl sd' ad' tc μ') H1 := by
  intro k q hq
  have h := hP k q hq
  obtain ⟨hk, e1⟩ := wl_in (e0 := q.2) hq
  refine h.kept (hun q.1 h.lt (fun z => ?_))
  rcases z with ⟨k2, e2, z⟩ | z
  · obtain ⟨hk2, e3⟩ := wl_in z
    exact hap k2 k hk2 hk (by rw [← e3, ← e1])
  · have := h.lt
    omega
theorem lawOp (C0 : lw_At p s m meth c b L xs) (F : LF s D aX aM tc fz) (hL : L ≤ 3072) (hi : i + 6 ≤ L) (hc : ca ≤ 600000 ∧ sl ≤ 7302250) (hl : lv_has ls 4 [(0, .ref b), (1, .ref (aX 0)), (2, .ref (aM 0)), (3, .int (nI i))]) {x mm : Mem} {tx : Nat → Nat → List Int32} (hI : LI s D aX aM tc x mm H locs) (hR : R tx x mm) {pc n yX yM iX iM : Nat} {off : Int} (hn : n ≤ 5) (op : OpR yX yM (argV xs i n)) (tX' : (inf yX).1 = 0 ∧ (inf yX).2.1 = 8 ∧ (inf yX).2.2.2.2.2 = 0 ∧ (inf yX).2.2.2.1 = n + 1 ∧ n + 1 ≤ (inf yX).2.2.1 ∧ (inf yX).2.2.1 ≤ 12 ∧ (inf yX).2.2.2.2.1 = some .int ∧ yX < 200) (tM' : (inf yM).1 = 1 ∧ (inf yM).2.1 = 9 ∧ (inf yM).2.2.2.2.2 = 0 ∧ (inf yM).2.2.2.1 = n + 1 ∧ n + 1 ≤ (inf yM).2.2.1 ∧ (inf yM).2.2.1 ≤ 12 ∧ (inf yM).2.2.2.2.1 = some .int ∧ yM < 200) (lX : (Cond.methodLink R_law iX (mnm yX)).before #[Value.ref b] s = true) (lM : (Cond.methodLink R_law iM (mnm yM)).before #[Value.ref b] s = true) (d0 : decode code pc = .ok (.aload_n 1, 1)) (d1 : argD (pc + 1) n) (d2 : decode code (pc + 1 + 5 * n) = .ok (.invokevirtual iX, 3)) (d3 : decode code (pc + 1 + 5 * n + 3) = .ok (.aload_n 2, 1)) (d4 : argD (pc + 1 + 5 * n + 3 + 1) n) (d5 : decode code (pc + 1 + 5 * n + 3 + 1 + 5 * n) = .ok (.invokevirtual iM, 3)) (d6 : decode code (pc + 1 + 5 * n + 3 + 1 + 5 * n + 3) = .ok (.if_icmp .eq off, 3)) (ht : ((pc + 1 + 5 * n + 3 + 1 + 5 * n + 3 : Nat) : Int) + off = (1254 : Nat))
    (kk : ∀ x' mm' tx' H1 locs1, LI s D aX aM tc x' mm' H1 locs1 → R tx' x' mm' → W p l e room_1 s m #[Value.ref b] below meth c H1 locs1 ca sl Z (F0 m 1254 ls [])) : W p l e room_1 s m #[Value.ref b] below meth c H locs ca sl Z (F0 m pc ls []) := by
  have C0' := C0
  obtain ⟨hx, hb, hr, hml, hown, hts, hX, hbl, hlocks, hgv⟩ := C0'
  obtain ⟨fK, fRO, fDX, fDM, fap, ffz⟩ := F
  obtain ⟨iPX, iPM, iS, iRO⟩ := hI
  have hg : ∀ w ∈ gT, w.before #[Value.ref b] s = true := fun w hw => hts w (List.mem_filter.mp hw).1
  have hA : ∀ q : Nat, s.heap.size ≤ q → (fun q : Nat => s.heap.size ≤ q) q := fun _ h => h
  obtain ⟨x1, x2, x3, x4, x5, x6, x7, x8⟩ := tX'
  obtain ⟨m1, m2, m3, m4, m5, m6, m7, m8⟩ := tM'
  have rm : ∀ k, k ≤ 12 → (rmD 80).frames + 1 ≤ room_1.frames ∧ 8 + (k + 11) + (rmD 80).locals ≤ room_1.locals := fun k hk => ⟨by decide, by show 8 + (k + 11) + 5184 ≤ 84000; omega⟩
  refine lv_aload_n hx hb d0 rfl (lv_at hl 1 rfl) ?_
  refine ldA C0 hL hi iS hl n hn d1 ?_
  have e1 : (argV xs i n).reverse ++ [Value.ref (aX 0)] = (((argV xs i n).map (cv aX fz)).reverse ++ .ref (aX 0) :: []) := by rw [argV_cv]
  rw [e1]
  refine amV (sd := 0) (d := 80) (k := 0) (nL := 4) ⟨hx, hb, hml, hown, hg⟩ (by decide) ffz x8 x1 x3 (by rw [x4, argV_len]) (by show 1 + csum _ ≤ _; rw [argV_cs]; omega) (by rw [x2]; decide) (by decide) (rm _ x6) hc lX iRO (op tx x mm 0 hR) fK fRO hA iPX (fDX x) iS (Nat.zero_le _) hl.1 d2 (fun r x' H1 locs1 hq hty hro' hP' hS' hun => ?_)
  rw [x7] at hty ⊢
  obtain ⟨v, rfl⟩ := hty
  have iPM1 : va_P D vwCl (wl 1 aM tc mm) H1 := other (sd := 0) (ad := aX) (μ := x) fap iPM hun
  refine lv_aload_n hx hb d3 rfl (lv_at hl 2 rfl) ?_
  refine ldA C0 hL hi hS' hl n hn d4 ?_
  have e2 : (argV xs i n).reverse ++ (Value.ref (aM 0) :: ([Value.int v] ++ [])) = (((argV xs i n).map (cv aM fz)).reverse ++ .ref (aM 0) :: [Value.int v]) := by rw [argV_cv]; rfl
  refine W.eq (g2 := F0 m (pc + 1 + 5 * n + 3 + 1 + 5 * n) ls (((argV xs i n).map (cv aM fz)).reverse ++ .ref (aM 0) :: [Value.int v])) (by rw [← e2]; rfl) ?_
  refine amV (sd := 1) (d := 80) (k := 0) (nL := 4) ⟨hx, hb, hml, hown, hg⟩ (by decide) ffz m8 m1 m3 (by rw [m4, argV_len]) (by show 1 + csum _ ≤ _; rw [argV_cs]; omega) (by rw [m2]; decide) (by decide) (rm _ m6) hc lM trivial hq fK trivial hA iPM1 (fDM mm) hS' (by show 1 + 0 ≤ 8; omega) hl.1 d5 (fun r' mm' H2 locs2 hq' hty' hro2 hP2 hS2 hun2 => ?_)
  rw [m7]
  obtain ⟨q1, tx', q2⟩ := hq'
  subst q1
  have iPX2 : va_P D vwCl (wl 0 aX tc x') H2 := other (sd := 1) (ad := aM) (μ := mm) (fun i j h1 h2 z => fap j i h2 h1 z.symm) hP' hun2
  exact lv_icmp_eq (tgt := 1254) hx hb d6 ht (fun _ => kk x' mm' tx' H2 locs2 ⟨iPX2, hP2, hS2, hro'⟩ q2) (fun z => absurd rfl z)
end LO
