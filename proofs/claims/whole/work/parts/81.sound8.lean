/-! ===== calls, and the whole ===== -/
theorem call_inv {K : KK} {sd y' : Nat} {vst : Bool} {i : Nat} {lv st : List Value} {μ : Mem} {P : PP} (h : call K sd y' vst i lv st μ P) : (inf y').1 = sd ∧ (inf y').2.2.2.1 ≤ st.length ∧ csum (st.drop (inf y').2.2.2.1) ≤ 8 ∧ csum (st.take (inf y').2.2.2.1) ≤ (inf y').2.2.1 ∧ (vst = true → (inf y').2.2.2.2.2 = 1) ∧ (vst = false → (inf y').2.2.2.2.2 = 0 ∧ ∃ k, nth un st ((inf y').2.2.2.1 - 1) = .ref k ∧ clsIs sd k (inf y').2.1 = true) ∧ K y' (st.take (inf y').2.2.2.1).reverse μ (fun r μ' => ret1 (inf y').2.2.2.2.1 r (fun l => P (i + 1) lv (l ++ st.drop (inf y').2.2.2.1) μ')) := by
  unfold call at h
  generalize inf y' = q at h
  obtain ⟨sd', c, mx, n, t, s⟩ := q
  dsimp only at h
  split at h
  · rename_i hb
    simp only [Bool.and_eq_true] at hb
    obtain ⟨⟨⟨⟨b1, b2⟩, b3⟩, b4⟩, b5⟩ := hb
    refine ⟨(Nat.eq_of_beq_eq_true b1).symm, Nat.le_of_ble_eq_true b2, Nat.le_of_ble_eq_true b3, Nat.le_of_ble_eq_true b4, fun e => ?_, fun e => ?_, h⟩
    · subst e
      exact Nat.eq_of_beq_eq_true b5
    · subst e
      simp only [Bool.and_eq_true] at b5
      refine ⟨Nat.eq_of_beq_eq_true b5.1, ?_⟩
      have b6 := b5.2
      split at b6
      · rename_i k hk
        exact ⟨k, hk, b6⟩
      · cases b6
  · exact h.elim
theorem csum_append : ∀ (a b : List Value), csum (a ++ b) = csum a + csum b
  | [], b => by simp [csum]
  | v :: a, b => by simp only [List.cons_append, csum, csum_append a b]; omega
theorem csum_reverse : ∀ a : List Value, csum a.reverse = csum a
  | [] => rfl
  | v :: a => by simp only [List.reverse_cons, csum_append, csum_reverse a, csum]; omega
def IH (l : Launch) (D : va_G) (ad tc : Nat → Nat) (fz : Value) (sd d : Nat) : Prop := ∀ (y' : Nat) (as : List Value) (μ : Mem) (Q : QQ) (sz : Nat), y' < 200 → (inf y').1 = sd → csum as ≤ (inf y').2.2.1 → ROm sd μ → Call d y' as μ Q → Met l (mnm y') (wsY y') (rmD d) (PcA D ad tc fz sd as μ sz) (QcA D ad tc (va_A (wl sd ad tc μ) sz) sd (inf y').2.2.2.2.1 Q) 0 0 (va_A (wl sd ad tc μ) sz)
section STEP6
variable {p : Program} {l : Launch} {e : Env} {R : Room} {s : State} {m : MethodId} {args : Array Value} {below : List Frame} {meth : Method} {c : Code} {D : va_G} {ad tc : Nat → Nat} {fz : Value} {A : Nat → Prop} {sd y d : Nat} {Z : State → Prop} {i : Nat} {lv st : List Value} {μ : Mem} {raw : Instr} {len : Nat}
theorem wl_sub (hD : va_D A (wl sd ad tc μ)) {H : Heap} {locs : List Loc} (hS : va_S A s.heap H locs) (hA : ∀ q, s.heap.size ≤ q → A q) : ∀ q, va_A (wl sd ad tc μ) H.size q → A q := by
  intro q h
  rcases h with ⟨k, e, h⟩ | h
  · exact hD.2 k _ h
  · exact hA q (Nat.le_trans hS.1 h)
theorem s_call (C : Cx p R s m args meth c D ad tc fz A sd y d) (h9 : sd ≠ 9) (hmo : ∀ y, y < 200 → mOk y = true) (ih : IH l D ad tc fz sd d) {y' : Nat} {vst : Bool} (hok : okI (inf y).2.1 (pcs y) (pcs y i) (match vst with | true => .invokestatic y' | false => .invokevirtual y') raw len = true) (hdec : decode (bc y) (pcs y i) = .ok (raw, len)) (hnx : pcs y (i + 1) = pcs y i + len) (h : call (Call d) sd y' vst i lv st μ (WA p l e R s m args below meth c D ad tc fz A sd y Z)) : WA p l e R s m args below meth c D ad tc fz A sd y Z i lv st μ := by
  obtain ⟨hx, hb, hr, hml, hown, hts, hlk, hK, hRO, hfz, hsd, hck, hA, hR⟩ := C
  obtain ⟨g1, g2, g3, g4, g5, g6, hcall⟩ := call_inv h
  have hy' : y' < 200 := inf_lt (by rw [g1]; exact h9)
  have hm := hmo y' hy'
  obtain ⟨-, hini, hcls, -, hmh, hmx, hst1, hin1⟩ := mOk_spec hm
  intro H locs ls hl hP hD hS hro
  have hA1 := wl_sub hD hS hA
  have hM := ih y' _ μ _ H.size hy' g1 (by rw [csum_reverse]; exact g4) hro hcall
  have hfix : CallFix p m c (bc y) (inf y).2.2.1 s args gT (cnm (inf y).2.1) := ⟨hx, hb, hml, hown, hts⟩
  have hroom : (rmD d).frames + 1 ≤ R.frames ∧ 8 + ((inf y').2.2.1 + 11) + (rmD d).locals ≤ R.locals := by
    rw [hR]
    refine ⟨Nat.le_refl _, ?_⟩
    show 8 + ((inf y').2.2.1 + 11) + (d + 1) * 64 ≤ (d + 1 + 1) * 64
    omega
  have hsum : ((((st.drop (inf y').2.2.2.1).map (cv ad fz))).map fun v => v.category).sum ≤ 8 := by rw [csum_cv hfz]; exact g3
  have hPc : ∀ U : State, U.heap = H → s.WarmedH U.vm → PcA D ad tc fz sd (st.take (inf y').2.2.2.1).reverse μ H.size (((st.take (inf y').2.2.2.1).reverse).map (cv ad fz)).toArray U := by
    intro U hU hW
    refine ⟨rfl, by rw [hU], by rw [hU]; exact hP, va_K.moved hW.alike hK, hD.weaken (fun _ _ _ _ => trivial), ?_⟩
    rw [hU]
    exact ((hRO.kept hS.2.1).narrow hA1).warm hW
  have kk : ∀ (r : Value) (μ' : Mem) (H1 : Heap) (locs1 : List Loc), (ret1 (inf y').2.2.2.2.1 r (fun l_1 => WA p l e R s m args below meth c D ad tc fz A sd y Z (i + 1) lv (l_1 ++ st.drop (inf y').2.2.2.1) μ')) → ROm sd μ' → va_P D vwCl (wl sd ad tc μ') H1 → va_S A s.heap H1 locs1 → W p l e R s m args below meth c H1 locs1 0 0 Z (F0 m (pcs y i + len) ls ((rvl (inf y').2.2.2.2.1 r).toList ++ (st.drop (inf y').2.2.2.1).map (cv ad fz))) := by
    intro r μ' H1 locs1 hq hro' hP1 hS1
    have hD1 : va_D A (wl sd ad tc μ') := wl_addr hD
    generalize (inf y').2.2.2.2.1 = t at hq ⊢
    cases t with
    | none => exact WA.at hq hnx H1 locs1 ls hl hP1 hD1 hS1 hro'
    | some t =>
      cases t <;> (obtain ⟨x, ex, hq⟩ := hq; subst ex; exact WA.at hq hnx H1 locs1 ls hl hP1 hD1 hS1 hro')
  cases vst with
  | true =>
    obtain ⟨hs, hn⟩ := hst1 (g5 rfl)
    have hstk : st.map (cv ad fz) = (((st.take (inf y').2.2.2.1).reverse).map (cv ad fz)).reverse ++ (st.drop (inf y').2.2.2.1).map (cv ad fz) := by
      rw [← List.map_reverse, List.reverse_reverse, ← List.map_append, List.take_append_drop]
    unfold okI at hok
    dsimp only at hok
    cases raw <;> first | (cases hok; done) | skip
    case invokestatic idx =>
      simp only [Bool.and_eq_true, Bool.or_eq_true] at hok
      obtain ⟨o1, o2⟩ := hok
      cases Nat.eq_of_beq_eq_true o1
      rcases o2 with o2 | o2
      · obtain ⟨pz, hz⟩ := inP_at o2 mpl_ok
        dsimp only at hz
        have hlink := hts _ (gT_of hz rfl (fun q => by cases q))
        have hcw := callB_of (R := R) (n := (inf y').2.2.2.1) (rm := rmD d) (mc := 0) (ms := 0) hts (wsY_good hm) rfl rfl rfl (hts _ hini) hlink ⟨hmh.1, hmh.2, hn⟩ hroom
        exact runA (va_runS (rest := (st.drop (inf y').2.2.2.1).map (cv ad fz)) hfix hM ⟨hcw, hts _ hs⟩ ⟨PcA_blind, hPc⟩ rfl (by simp [List.length_take, Nat.min_eq_left g2]) hl.2.1 hstk (lv_room hsum) hdec ⟨Nat.zero_le _, Nat.zero_le _⟩) hS (fun q _ h => hA1 q h) hA1 kk
      · obtain ⟨pz, hz⟩ := inP_own o2
        have ho : (inf y).2.1 ≠ 9 := of_decide_eq_true (List.all_eq_true.mp spl_own _ (List.mem_append_right _ hz))
        have hs0 := side0 hsd h9 ho
        have hw := List.all_eq_true.mp npl_all _ hz
        dsimp only at hw
        simp only [Bool.and_eq_true, Bool.or_eq_true] at hw
        obtain ⟨w1, w2⟩ := hw
        have w1 : mnm y' = yWithin := of_decide_eq_true w1
        have hnw : va_Nw (.methodLinkNest (cnm (inf y).2.1) idx (mnm y') "DearerByUse") s := by
          have hRO0 : ROs 0 ad fz A s s.heap := by rw [← hs0]; exact hRO
          obtain ⟨-, -, -, -, -, -, -, -, hN1, hN2⟩ := hRO0
          rw [w1]
          rcases w2 with w2 | w2
          · have w2 := of_decide_eq_true w2
            simp only [Prod.mk.injEq] at w2
            rw [w2.1, w2.2]
            exact hN1
          · have w2 := of_decide_eq_true w2
            simp only [Prod.mk.injEq] at w2
            rw [w2.1, w2.2]
            exact hN2
        have hcw := va_cnB (R := R) (n := (inf y').2.2.2.1) (rm := rmD d) (mc := 0) (ms := 0) hts (wsY_good hm) rfl rfl rfl hnw (hts _ hini) ⟨hmh.1, hmh.2, hn⟩ hroom
        exact runA (va_runSN (rest := (st.drop (inf y').2.2.2.1).map (cv ad fz)) hfix hM ⟨hcw, hts _ hs, trivial⟩ ⟨PcA_blind, hPc⟩ rfl (by simp [List.length_take, Nat.min_eq_left g2]) hl.2.1 hstk (lv_room hsum) hdec ⟨Nat.zero_le _, Nat.zero_le _⟩) hS (fun q _ h => hA1 q h) hA1 kk
  | false =>
    obtain ⟨f1, k, f2, f3⟩ := g6 rfl
    obtain ⟨hi1, hi2, hi3, hn⟩ := hin1 (by omega)
    have hk0 : st[(inf y').2.2.2.1 - 1]? = some (.ref k) := by rw [← f2]; exact nth_ne (by rw [f2]; exact fun q => by cases q)
    have htk : st.take (inf y').2.2.2.1 = st.take ((inf y').2.2.2.1 - 1) ++ [.ref k] := by
      have : (inf y').2.2.2.1 = ((inf y').2.2.2.1 - 1) + 1 := by omega
      rw [this, List.take_succ, ← this, hk0]
      simp
    have hrev : ((st.take (inf y').2.2.2.1).reverse).map (cv ad fz) = .ref (ad k) :: ((st.take ((inf y').2.2.2.1 - 1)).reverse).map (cv ad fz) := by
      rw [htk]
      simp [cv]
    have hstk : st.map (cv ad fz) = (((st.take ((inf y').2.2.2.1 - 1)).reverse).map (cv ad fz)).reverse ++ .ref (ad k) :: (st.drop (inf y').2.2.2.1).map (cv ad fz) := by
      rw [← List.map_reverse, List.reverse_reverse]
      have h1 : st = st.take ((inf y').2.2.2.1 - 1) ++ (.ref k :: st.drop (inf y').2.2.2.1) := by
        have h2 := List.take_append_drop (inf y').2.2.2.1 st
        rw [htk] at h2
        simpa using h2.symm
      have h3 := congrArg (List.map (cv ad fz)) h1
      rw [List.map_append] at h3
      exact h3
    obtain ⟨b, hyk⟩ := clsIs_inv f3
    have hrecv : ∃ cell : Cell, H[ad k]? = some cell ∧ cell.vm.isStatics = false ∧ s.vm.findClass (mnm y').cls = some cell.cls := by
      rcases lay_obj hyk with hk | ⟨hs0, i0, hi0, hk, h10⟩
      · obtain ⟨hc10, hlen, -⟩ := obj_spec hk hyk
        have := va_recv hK hP (cl_get hc10) (show (wl sd ad tc μ)[k]? = _ by rw [wl_get hk, cell_0 hyk])
        have e1 : (clT (inf y').2.1).1 = (mnm y').cls := by
          rw [hcls]
          generalize (inf y').2.1 = cc at hc10
          match cc, hc10 with
          | 0, _ => rfl
          | 1, _ => rfl
          | 2, _ => rfl
          | 3, _ => rfl
          | 4, _ => rfl
          | 5, _ => rfl
          | 6, _ => rfl
          | 7, _ => rfl
          | 8, _ => rfl
          | 9, _ => rfl
          | n + 10, h => exact absurd h (by omega)
        rw [e1] at this
        exact this
      · have hRO0 : ROs 0 ad fz A s s.heap := by rw [← hs0]; exact hRO
        obtain ⟨-, -, -, -, hV, -⟩ := hRO0
        have := vk_recv hV hi0 hS
        rw [hcls, h10, hk]
        exact this
    unfold okI at hok
    dsimp only at hok
    cases raw <;> first | (cases hok; done) | skip
    case invokevirtual idx =>
      simp only [Bool.and_eq_true] at hok
      obtain ⟨o1, o2⟩ := hok
      cases Nat.eq_of_beq_eq_true o1
      obtain ⟨pz, hz⟩ := inP_at o2 mpl_ok
      dsimp only at hz
      have hlink := hts _ (gT_of hz rfl (fun q => by cases q))
      have hcw := callB_of (R := R) (n := (inf y').2.2.2.1 - 1) (rm := rmD d) (mc := 0) (ms := 0) hts (wsY_good hm) rfl rfl rfl (hts _ hini) hlink ⟨hmh.1, hmh.2, hn⟩ hroom
      rw [hrev] at hPc
      exact runA (va_runV (C := (mnm y').cls) (b := ad k) (As := ((st.take ((inf y').2.2.2.1 - 1)).reverse).map (cv ad fz)) (rest := (st.drop (inf y').2.2.2.1).map (cv ad fz)) hfix hM ⟨hcw, hts _ hi1, hts _ hi2⟩ ⟨PcA_blind, hrecv, hPc⟩ rfl (by simp [List.length_take]; omega) hl.2.1 hstk (lv_room hsum) hdec ⟨Nat.zero_le _, Nat.zero_le _⟩) hS (fun q _ h => hA1 q h) hA1 kk
end STEP6
