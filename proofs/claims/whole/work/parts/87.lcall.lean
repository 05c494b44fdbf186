/-! ===== calls out of the law and the constructors ===== -/
def tyV (rt : Option FieldType) (r : Value) : Prop := match rt with
  | none => True
  | some .long => True
  | some _ => ∃ v, r = .int v
theorem stp_ret {sd : Nat} {rt : Option FieldType} {K : KK} {Q : QQ} {P : PP} {ins : Instr} {i : Nat} {lv st : List Value} {μ : Mem} (h : stp sd rt K Q ins i lv st μ P) : stp sd rt K (fun r μ => Q r μ ∧ tyV rt r) ins i lv st μ P := by
  unfold stp at h ⊢
  cases ins
  case ireturn =>
    dsimp only at h ⊢
    split at h
    · rename_i a t
      unfold narOk at h ⊢
      cases t <;> first | exact ⟨h, ⟨_, rfl⟩⟩ | exact ⟨h.1, h.2, ⟨_, rfl⟩⟩ | exact ⟨h.1, h.2, trivial⟩
    · exact h.elim
  case lreturn =>
    dsimp only at h ⊢
    split at h
    · exact ⟨h, trivial⟩
    · exact h.elim
  case return_ =>
    dsimp only at h ⊢
    split at h
    · exact ⟨h, trivial⟩
    · exact h.elim
  all_goals exact h
theorem Call_ret : ∀ {d y : Nat} {as : List Value} {μ : Mem} {Q : QQ}, Call d y as μ Q → Call d y as μ (fun r μ => Q r μ ∧ tyV (inf y).2.2.2.2.1 r)
  | 0, _, _, _, _, h => h
  | _ + 1, _, _, _, _, h => fun P hP => h P (fun i lv st μ hs => hP i lv st μ (stp_ret hs))
def OpL (yX yM : Nat) (as : List Value) : Prop := ∀ (tx : Nat → Nat → List Int32) (x m : Mem) (d : Nat), R tx x m → Call (d + 80) yX (.ref 0 :: as) x (fun ρ x' => Call (d + 80) yM (.ref 0 :: as) m (fun ρ' m' => ρ' = ρ ∧ (∃ tx', R tx' x' m') ∧ ∃ v, ρ = .long v))
theorem op_chanceL {a b c : Int32} : OpL y_X_chance y_M_chance [.int a, .int b, .int c] := by
  intro tx x m d h
  obtain ⟨iM, iX, wf, rM, rX, ok⟩ := h.day
  refine X_chance_ok (d := d + 73) iX wf rX (fun q => ?_) (fun q x' ox => ?_)
  · exact M_chance_ok (d := d + 12) iM wf (fun _ => ⟨rfl, ⟨tx, h⟩, _, rfl⟩) (fun c' => absurd c' q)
  · exact M_chance_ok (d := d + 12) iM wf (fun c' => absurd q c') (fun _ m' f t => ⟨rfl, ⟨tx, h.think ox f t⟩, _, rfl⟩)
section LC
variable {p : Program} {l : Launch} {e : Env} {R : Room} {s : State} {m : MethodId} {args : Array Value} {below : List Frame} {meth : Method} {c : Code} {D : va_G} {ad tc : Nat → Nat} {fz : Value} {A A1 : Nat → Prop} {sd d : Nat} {Z : State → Prop} {H : Heap} {locs : List Loc} {pc ca sl : Nat} {ls : Array Slot} {st0 rest : List Value} {free : Addr → Prop} {Q : QQ} {t : Option FieldType} {as0 : Array Value} {cc : ByteArray} {nL : Nat} {own : String} {μ : Mem}
theorem runL (hr : va_Run p l e R s m args below meth c H locs ca sl 0 0 (F0 m pc ls st0) rest (QcA D ad tc A1 sd t Q as0) free) (hS : va_S A s.heap H locs) (hA : ∀ q, q < H.size → A1 q → A q) (hf : ∀ q, free q → A q)
    (kk : ∀ (r : Value) (μ' : Mem) (H1 : Heap) (locs1 : List Loc), Q r μ' → ROm sd μ' → va_P D vwCl (wl sd ad tc μ') H1 → va_S A s.heap H1 locs1 → (∀ q, q < H.size → ¬ A1 q → H1[q]? = H[q]?) → W p l e R s m args below meth c H1 locs1 ca sl Z (F0 m (pc + 3) ls ((rvl t r).toList ++ rest))) : W p l e R s m args below meth c H locs ca sl Z (F0 m pc ls st0) := by
  intro T hT X
  obtain ⟨v, st₀, u, T', L, h0, X', hL, e1, e2, ⟨⟨r, μ', hv, hq, hro, hP⟩, hz, hk⟩, st⟩ := hr T hT X
  cases hv
  rw [h0] at hz hk
  obtain ⟨t2, a1, b1⟩ := kk r μ' T'.heap (locs ++ L) hq hro (by rw [e1]; exact hP)
    ⟨Nat.le_trans hS.1 (by rw [e1]; exact hz), fun q h1 h2 => by rw [e1, hk q (Nat.lt_of_lt_of_le h1 hS.1) (fun z => h2 (hA q (Nat.lt_of_lt_of_le h1 hS.1) z))]; exact hS.2.1 q h1 h2, fun q hq => by
      rcases List.mem_append.mp hq with h | h
      · exact hS.2.2 q h
      · exact hf _ (hL q h)⟩ (fun q h1 h2 => by rw [e1]; exact hk q h1 h2) T' rfl X'
  exact ⟨t2, st t2 a1, b1⟩
theorem cls_nm {y : Nat} (hm : mOk y = true) (h10 : (inf y).2.1 < 10) : (clT (inf y).2.1).1 = (mnm y).cls := by
  obtain ⟨-, -, hcls, -⟩ := mOk_spec hm
  rw [hcls]
  generalize (inf y).2.1 = cc at h10
  match cc, h10 with
  | 0, _ => rfl
  | 1, _ => rfl
  | 2, _ => rfl
  | 3, _ => rfl
  | 4, _ => rfl
  | 5, _ => rfl
  | 6, _ => rfl
  | 7, _ => rfl
  | 8, _ => rfl
  | 9, _ => rfl
  | n + 10, h => exact absurd h (by omega)
/-- an instance method of the abstract machine, called from anywhere -/
theorem amV (hfix : CallFix p m c cc nL s args gT own) (h9 : sd ≠ 9) (hfz : fz.category = 1) {y k idx : Nat} {as : List Value} (hy : y < 200) (hsd : (inf y).1 = sd) (hns : (inf y).2.2.2.2.2 = 0) (hna : (inf y).2.2.2.1 = as.length + 1) (hcs : csum (.ref k :: as) ≤ (inf y).2.2.1) (hkc : clsIs sd k (inf y).2.1 = true) (hkN : k < Nw sd) (hroom : (rmD d).frames + 1 ≤ R.frames ∧ 8 + ((inf y).2.2.1 + 11) + (rmD d).locals ≤ R.locals) (hcell : ca ≤ R.cells ∧ sl ≤ R.slots) (hlink : (Cond.methodLink own idx (mnm y)).before args s = true) (hro : ROm sd μ) (hcall : Call d y (.ref k :: as) μ Q) (hK : va_K D vwCl (tysA tc) s) (hRO : ROs sd ad fz A s s.heap) (hA : ∀ q, s.heap.size ≤ q → A q) (hP : va_P D vwCl (wl sd ad tc μ) H) (hD : va_D A (wl sd ad tc μ)) (hS : va_S A s.heap H locs) (hsum : (rest.map fun v => v.category).sum ≤ 8) (hls : ls.size = nL) (hdec : decode cc pc = .ok (.invokevirtual idx, 3))
    (kk : ∀ (r : Value) (μ' : Mem) (H1 : Heap) (locs1 : List Loc), Q r μ' → tyV (inf y).2.2.2.2.1 r → ROm sd μ' → va_P D vwCl (wl sd ad tc μ') H1 → va_S A s.heap H1 locs1 → (∀ q, q < H.size → ¬ va_A (wl sd ad tc μ) H.size q → H1[q]? = H[q]?) → W p l e R s m args below meth c H1 locs1 ca sl Z (F0 m (pc + 3) ls ((rvl (inf y).2.2.2.2.1 r).toList ++ rest))) : W p l e R s m args below meth c H locs ca sl Z (F0 m pc ls ((as.map (cv ad fz)).reverse ++ .ref (ad k) :: rest)) := by
  have hm := mAll y hy
  have hts := hfix.2.2.2.2
  obtain ⟨-, hini, hcls, -, hmh, hmx, -, hin1⟩ := mOk_spec hm
  obtain ⟨hi1, hi2, hi3, hn⟩ := hin1 (by omega)
  have hA1 := wl_sub hD hS hA
  have hM := sound (l := l) (D := D) (ad := ad) (tc := tc) h9 hfz chkAll mAll d y _ μ _ H.size hy hsd hcs hro (Call_ret hcall)
  have hPc : ∀ U : State, U.heap = H → s.WarmedH U.vm → PcA D ad tc fz sd (.ref k :: as) μ H.size (((.ref k :: as : List Value)).map (cv ad fz)).toArray U := by
    intro U hU hW
    refine ⟨rfl, by rw [hU], by rw [hU]; exact hP, va_K.moved hW.alike hK, hD.weaken (fun _ _ _ _ => trivial), ?_⟩
    rw [hU]
    exact ((hRO.kept hS.2.1).narrow hA1).warm hW
  obtain ⟨b, hyk⟩ := clsIs_inv hkc
  obtain ⟨hc10, hlen, -⟩ := obj_spec hkN hyk
  have hrecv := va_recv hK hP (cl_get hc10) (show (wl sd ad tc μ)[k]? = _ by rw [wl_get hkN, cell_0 hyk])
  rw [cls_nm hm hc10] at hrecv
  have hcw := callB_of (R := R) (n := (inf y).2.2.2.1 - 1) (rm := rmD d) (mc := 0) (ms := 0) hts (wsY_good hm) rfl rfl rfl (hts _ hini) hlink ⟨hmh.1, hmh.2, hn⟩ hroom
  exact runL (va_runV (C := (mnm y).cls) (b := ad k) (As := as.map (cv ad fz)) (rest := rest) hfix hM ⟨hcw, hts _ hi1, hts _ hi2⟩ ⟨PcA_blind, hrecv, hPc⟩ rfl (by rw [List.length_map]; omega) hls rfl (lv_room hsum) hdec ⟨hcell.1, hcell.2⟩) hS (fun q _ h => hA1 q h) hA1 (fun r μ' H1 locs1 hq => kk r μ' H1 locs1 hq.1 hq.2)
end LC
