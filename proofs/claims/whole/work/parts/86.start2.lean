/-! ===== the class at its start ===== -/
def roM (k : Nat) : Nat → Int32 := if k = 65 then abv else if k = 67 then (fun j => (sByt.getD 0 []).getD j 0) else if k = 69 then (fun j => (sByt.getD 1 []).getD j 0) else if k = 71 then (fun j => (sByt.getD 2 []).getD j 0) else fun _ => 0
def memX0 : Mem := (fun k => if k = 58 then fun _ => -1 else roM k, fun _ _ => 0)
theorem memX0_k {k : Nat} (h : k < 65) (h58 : k ≠ 58) : memX0.1 k = fun _ => 0 := by
  unfold memX0 roM
  simp [h58, show k ≠ 65 by omega, show k ≠ 67 by omega, show k ≠ 69 by omega, show k ≠ 71 by omega]
theorem ROm0 : ROm 0 memX0 := by
  refine ⟨fun j _ => by simp [memX0, roM], fun i hi => ?_⟩
  rcases (show i = 0 ∨ i = 1 ∨ i = 2 by omega) with q | q | q <;> subst q <;> simp [memX0, roM]
theorem ROm_str {x : Mem} (h : ROm 0 x) : strX x ∧ abvM x := by
  obtain ⟨h1, h2⟩ := h
  obtain ⟨a1, a2⟩ := h2 1 (by omega)
  obtain ⟨b1, b2⟩ := h2 2 (by omega)
  refine ⟨⟨a1, fun i hi => ?_, b1, fun i hi => ?_⟩, ?_⟩
  · exact a2 i hi
  · exact b2 i hi
  · exact ⟨h1 0 (by omega), h1 1 (by omega), h1 2 (by omega), h1 3 (by omega), h1 4 (by omega), h1 5 (by omega)⟩
def str0 (x : Mem) : Prop := x.1 66 1 = 0 ∧ ∀ i, i < 36 → x.1 67 i = txtB i
theorem ROm_str0 {x : Mem} (h : ROm 0 x) : str0 x := by
  obtain ⟨a1, a2⟩ := h.2 0 (by omega)
  refine ⟨a1, fun i hi => (a2 i hi).trans ?_⟩
  revert i
  decide
theorem Str_len_0 {d : Nat} {Q : QQ} {μ : Mem} (hs : str0 μ) (hQ : Q (.int 36) μ) : Call (d + 2) y_Str_length [.ref 66] μ Q := by
  refine b_Str_length_0_0 (b_Str_coder_0_0 ⟨fun z => absurd z (by decide), fun _ => ?_⟩)
  rw [hs.1]
  exact ⟨by decide, _, rfl, hQ⟩
theorem txtC : ∀ i, i < 36 → (((Int32.toUInt32 ((txtB i) &&& 255)) % 65536).toInt32) = txtB i ∧ narrow .char (.int (txtB i)) = .int (txtB i) := by decide +kernel
theorem Str_char_0 {d i : Nat} {Q : QQ} {μ : Mem} (hs : str0 μ) (hi : i < 36) (hQ : Q (.int (txtB i)) μ) : Call (d + 4) y_Str_charAt [.ref 66, .int (nI i)] μ Q := by
  refine b_Str_charAt_0_0 (b_Str_isLatin1_0_0 ⟨fun z => absurd z (by decide), fun _ => ⟨fun z => absurd hs.1 z, fun _ => ⟨by decide, _, rfl, fun z => absurd z (by decide), fun _ => ?_⟩⟩⟩)
  refine b_Lat_charAt_0_0 (b_Str_checkIndex_0 (b_Prec_checkIndex_0 ⟨fun z => absurd (lt32.mp z) (by rw [nI_i (by omega)]; show ¬ _ < (0 : Int); omega), fun _ => ⟨fun _ => ⟨_, rfl, nI_v hi (by omega), ?_⟩, fun z => absurd (lt32.mpr (by rw [nI_i (by omega)]; show _ < (36 : Int); omega)) z⟩⟩))
  rw [nI_c (by omega), hs.2 i hi, (txtC i hi).1]
  exact ⟨(txtC i hi).2, _, rfl, (txtC i hi).2, hQ⟩
theorem Reader_load_ok {d : Nat} {Q : QQ} {μ : Mem} (hs : str0 μ) (h1 : μ.1 23 1 = 0) (hQ : ∀ μ', Only [23, 24] μ μ' → (∀ j, j < 36 → μ'.1 24 j = txtB j) → μ'.1 23 1 = nI 36 → Q .null μ') : Call (d + 5) y_Reader_load [.ref 23, .ref 66] μ Q := by
  refine b_Reader_load_0 ?_
  refine loopN (G := fun i s => AA (Call (d + 4)) y_Reader_load Q 2 [.ref 23, .ref 66, .int (nI i)] [] s) (P := fun i s => Only [23, 24] μ s ∧ (∀ j, j < i → s.1 24 j = txtB j) ∧ s.1 23 1 = nI i) (N := 36) ?_ ?_ 0 μ (by omega) ⟨Only.rf, fun j hj => absurd hj (by omega), h1⟩
  · intro s ⟨o, p1, p2⟩
    have st : str0 s := ⟨by rw [o.i 66]; exact hs.1, fun i hi => by rw [o.i 67]; exact hs.2 i hi⟩
    exact b_Reader_load_2 (Str_len_0 st ⟨_, rfl, fun _ => hQ s o p1 p2, fun z => absurd (by decide) z⟩)
  · intro i s hi ⟨o, p1, p2⟩ ih
    have st : str0 s := ⟨by rw [o.i 66]; exact hs.1, fun i hi => by rw [o.i 67]; exact hs.2 i hi⟩
    refine b_Reader_load_2 (Str_len_0 st ⟨_, rfl, fun z => absurd (le32.mp z) (by rw [nI_i (by omega)]; show ¬ (36 : Int) ≤ _; omega), fun _ => Str_char_0 st hi ⟨_, rfl, ?_⟩⟩)
    refine b_Reader_append_0 ⟨fun _ μ1 e1 => ⟨by rw [p2]; exact nI_v (by omega) (by omega), fun μ2 e2 => ⟨by decide, _, rfl, ?_⟩⟩, fun z => absurd (lt32.mpr (by rw [p2, nI_i (by omega)]; show _ < (160 : Int); omega)) z⟩
    rw [nI_1]
    rw [p2, nI_1] at e1
    rw [p2, nI_c (by omega)] at e2
    refine ih μ2 ⟨(o.trans (.we e1)).trans (.we e2), fun j hj => ?_, ?_⟩
    · rw [e2, wI_s, e1, wI_n (by decide)]
      by_cases y : j = i
      · rw [y, upd_s]
      · rw [upd_n y]; exact p1 j (by omega)
    · rw [e2, wI_n (by decide), e1, wI_s, upd_s]
theorem RdM0 : RdM (fun i => memM.1 1 (160 * 0 + i)) (memM.1 2 0) (tx0 0) := by
  intro d t w Q ν ht hw hB hn hQ
  rw [memM_2] at hn
  rw [show d + 60 = (d + 17) + 43 by omega]
  refine (firstJ (n := 40) (by omega) (by omega) rowT40).2.2.2.1 (d + 17) t w ν Q ht hw (fun i hi => ?_) hn (fun ν' fr' _ => ?_)
  · rw [hB i (by omega)]
    show memM.1 1 (160 * 0 + i) = _
    rw [Nat.mul_zero, Nat.zero_add]
    exact memM_1 hi
  · have g := hQ ν' fr'.1 fr'.2
    unfold tx0 at g
    rw [txS_k] at g
    exact g
theorem TxM0 : TxM tx0 memM := by
  have e3 : memM.1 0 3 = nI 1 := by rw [memM_0]; rfl
  constructor
  · intro t ht
    rw [e3, nI_i (by omega)] at ht
    have : t = 0 := by omega
    subst this
    exact RdM0
  · intro j _
    exact Or.inl (by rw [memM_l])
/-- the class's memory as its constructor leaves it, beside the reference's -/
theorem R0 {x : Mem} {c : Nat → Int32} (hro : ROm 0 x) (hz : ∀ k, k < 65 → k ≠ 20 → k ≠ 22 → k ≠ 23 → k ≠ 24 → k ≠ 25 → k ≠ 26 → k ≠ 27 → k ≠ 29 → k ≠ 36 → k ≠ 58 → x.1 k = fun _ => 0) (h58 : x.1 58 = fun _ => -1) (h202 : x.1 20 2 = 1) (h203 : x.1 20 3 = 0) (h22 : ∀ j, j < 6 → x.1 22 j = if j = 0 then 1 else 0) (h231 : x.1 23 1 = 0) (h274 : x.1 27 4 = nI 1) (h275 : x.1 27 5 = 0) (hc : ∀ j, j < ([0] ++ c1L ++ [1]).length → x.1 29 j = ([0] ++ c1L ++ [1]).getD j 0) (he0 : x.1 36 0 = nI 1) (he1 : x.1 36 1 = nI 4) (he2 : x.1 36 2 = nI 5) : R tx0 x memM := by
  have z : ∀ k j, k < 65 → k ≠ 20 → k ≠ 22 → k ≠ 23 → k ≠ 24 → k ≠ 25 → k ≠ 26 → k ≠ 27 → k ≠ 29 → k ≠ 36 → k ≠ 58 → x.1 k j = 0 := fun k j h0 h1 h2 h3 h4 h5 h6 h7 h8 h9 h10 => by rw [hz k h0 h1 h2 h3 h4 h5 h6 h7 h8 h9 h10]
  have mz : ∀ k j, k ≠ 0 → k ≠ 1 → k ≠ 2 → k ≠ 11 → memM.1 k j = 0 := fun k j h0 h1 h2 h11 => by rw [memM_k h0 h1 h2 h11]
  obtain ⟨ko0, ko1, ko2, _, _⟩ := firstJ (n := 36) (by omega) (by omega) rowT36
  have r0 : ∀ a b : Int, a ≤ 0 → 0 ≤ b → rng 0 a b := fun a b h1 h2 => ⟨h1, h2⟩
  refine ⟨fun j hj => ?_, ⟨?_, ?_, fun w hw => ?_, fun w hw => ?_⟩, ⟨?_, ?_, fun p hp => ?_⟩, ⟨?_, ?_, ?_, ?_, fun i hi => ?_⟩, ⟨?_, ?_, ?_, ?_, ?_, TxM0⟩, ⟨?_, ?_, fun i hi => ?_⟩, Or.inl ⟨?_, ?_⟩, fun s hs => Or.inl ⟨?_, ?_⟩, ⟨?_, (ROm_str hro).1, (ROm_str hro).2⟩⟩
  · rw [z 1 j (by omega) (by omega) (by omega) (by omega) (by omega) (by omega) (by omega) (by omega) (by omega) (by omega) (by omega), mz 4 j (by omega) (by omega) (by omega) (by omega)]
    exact ⟨rfl, r0 _ _ (by omega) (by omega)⟩
  · rw [z 2 3 (by omega) (by omega) (by omega) (by omega) (by omega) (by omega) (by omega) (by omega) (by omega) (by omega) (by omega), memM_0]; rfl
  · rw [memM_0]; exact r0 _ _ (by omega) (by omega)
  · rw [z 3 w (by omega) (by omega) (by omega) (by omega) (by omega) (by omega) (by omega) (by omega) (by omega) (by omega) (by omega), z 4 w (by omega) (by omega) (by omega) (by omega) (by omega) (by omega) (by omega) (by omega) (by omega) (by omega) (by omega), mz 5 w (by omega) (by omega) (by omega) (by omega), mz 6 w (by omega) (by omega) (by omega) (by omega)]
    refine ⟨rfl, ?_, fun j hj => ?_, by decide⟩
    · show 0 = nI (digs 0).length
      rw [digs_0]; rfl
    · have : (digs (0 : Int32).toInt.toNat).length = 0 := by show (digs 0).length = 0; rw [digs_0]; rfl
      omega
  · rw [memM_0] at hw
    exact absurd hw (by show ¬ (w : Int) < 0; omega)
  · rw [z 16 3 (by omega) (by omega) (by omega) (by omega) (by omega) (by omega) (by omega) (by omega) (by omega) (by omega) (by omega), memM_0]; rfl
  · rw [memM_0]; exact r0 _ _ (by omega) (by omega)
  · rw [z 17 p (by omega) (by omega) (by omega) (by omega) (by omega) (by omega) (by omega) (by omega) (by omega) (by omega) (by omega), z 18 p (by omega) (by omega) (by omega) (by omega) (by omega) (by omega) (by omega) (by omega) (by omega) (by omega) (by omega), z 19 p (by omega) (by omega) (by omega) (by omega) (by omega) (by omega) (by omega) (by omega) (by omega) (by omega) (by omega), mz 7 p (by omega) (by omega) (by omega) (by omega), mz 8 p (by omega) (by omega) (by omega) (by omega), mz 9 p (by omega) (by omega) (by omega) (by omega)]
    exact ⟨rfl, rfl, rfl, r0 _ _ (by omega) (by omega), r0 _ _ (by omega) (by omega)⟩
  · rw [h202, memM_0]; rfl
  · rw [memM_0]; exact ⟨by decide, by decide⟩
  · rw [h203, memM_0]; rfl
  · rw [memM_0, memM_0]; exact ⟨by decide, by decide⟩
  · rw [z 21 i (by omega) (by omega) (by omega) (by omega) (by omega) (by omega) (by omega) (by omega) (by omega) (by omega) (by omega), h22 i hi, mz 10 i (by omega) (by omega) (by omega) (by omega), memM_11]
    refine ⟨rfl, rfl, r0 _ _ (by omega) (by omega), ?_⟩
    by_cases y : i = 0
    · rw [if_pos y]; exact ⟨by decide, by decide⟩
    · rw [if_neg y]; exact r0 _ _ (by omega) (by omega)
  · rw [h274, memM_0]; rfl
  · rw [memM_0]; exact ⟨by decide, by decide⟩
  · rw [h275, memM_0]; rfl
  · rw [memM_0, memM_0]; exact ⟨by decide, by decide⟩
  · have hT : TxX (fun _ _ => []) (wI x 27 (upd (x.1 27) 4 0)) := fun t ht => by
      rw [wI_s, upd_s] at ht
      exact absurd ht (by show ¬ (t : Int) < 0; omega)
    exact hT.add (k := 0) (by rw [wI_s, upd_s]; rfl) (by omega) h274 (fun t ht => absurd ht (by omega)) ko0 ko1 ko2 (by decide) hc he0 he1 he2
  · rw [h231, memM_0]; rfl
  · rw [memM_0]; exact r0 _ _ (by omega) (by omega)
  · rw [memM_0] at hi
    exact absurd hi (by show ¬ (i : Int) < 0; omega)
  · exact z 51 0 (by omega) (by omega) (by omega) (by omega) (by omega) (by omega) (by omega) (by omega) (by omega) (by omega) (by omega)
  · rw [memM_0]; rfl
  · rw [h58]
  · rw [mz 22 s (by omega) (by omega) (by omega) (by omega)]; rfl
  · rw [memM_0]; rfl
/-- the calls that end the class's constructor -/
theorem initX : Call 70 y_Laws_add [.ref 20, .int 0, .int 1] memX0 (fun _ x1 => Call 70 y_Reader_load [.ref 23, .ref 66] x1 (fun _ x2 => Call 70 y_Reader_read [.ref 23] x2 (fun _ x3 => Call 70 y_Texts_add [.ref 27, .ref 25, .ref 26] x3 (fun _ x4 => ROm 0 x4 → R tx0 x4 memM)))) := by
  have z : ∀ k, k < 65 → k ≠ 58 → memX0.1 k = fun _ => 0 := fun k h1 h2 => memX0_k h1 h2
  have z202 : memX0.1 20 2 = 0 := by rw [z 20 (by omega) (by omega)]
  refine Laws_add_ok (d := 69) (by rw [z202]; decide) (fun q => absurd q (by rw [z202]; decide)) (fun _ x1 o1 a21 a22 a20 => ?_)
  rw [z202] at a21 a22 a20
  have s1 : str0 x1 := by
    have := ROm_str0 ROm0
    exact ⟨by rw [o1.i 66]; exact this.1, fun i hi => by rw [o1.i 67]; exact this.2 i hi⟩
  refine Reader_load_ok (d := 65) s1 (by rw [o1.i 23, z 23 (by omega) (by omega)]) (fun x2 o2 t2 n2 => ?_)
  have b2 : byX txtB 36 x2 := by
    have := (ROm_str ROm0).1
    exact ⟨by omega, n2, t2, (this.fr o1).fr o2⟩
  refine (firstJ (n := 36) (by omega) (by omega) rowT36).2.2.2.2 19 x2 _ b2 (fun x3 o3 s3 z3 c3 e0 e1 e2 => ?_)
  have k27 : x3.1 27 = fun _ => 0 := by rw [o3.i 27, o2.i 27, o1.i 27, z 27 (by omega) (by omega)]
  refine Texts_add_ok (d := 69) (k := 0) (by rw [k27]; rfl) (by omega) (fun x4 o4 h29 h36 h27 hro => ?_)
  refine R0 (c := fun _ => 0) hro (fun k h0 h1 h2 h3 h4 h5 h6 h7 h8 h9 h10 => ?_) ?_ ?_ ?_ (fun j hj => ?_) ?_ ?_ ?_ (fun j hj => ?_) ?_ ?_ ?_
  · by_cases y : k = 21
    · subst y
      rw [o4.i 21, o3.i 21, o2.i 21, a21, z 21 (by omega) (by omega)]
      funext j
      by_cases w : j = (0 : Int32).toNatClampNeg
      · rw [w, upd_s]
      · rw [upd_n w]
    · rw [o4.i k (by simp; omega), o3.i k (by simp; omega), o2.i k (by simp; omega), o1.i k (by simp; omega)]
      exact z k h0 h10
  · rw [o4.i 58, o3.i 58, o2.i 58, o1.i 58]; rfl
  · rw [o4.i 20, o3.i 20, o2.i 20, a20, upd_s]; rfl
  · rw [o4.i 20, o3.i 20, o2.i 20, a20, upd_n (by decide), z 20 (by omega) (by omega)]
  · rw [o4.i 22, o3.i 22, o2.i 22, a22, z 22 (by omega) (by omega)]
    by_cases y : j = 0
    · rw [if_pos y, y]; rfl
    · rw [if_neg y, upd_n (by show j ≠ 0; exact y)]
  · rw [o4.i 23]; exact z3
  · rw [h27, upd_s]
  · rw [h27, upd_n (by decide), k27]
  · have hj2 : j < 5 := hj
    rw [h29 j (by omega)]; exact c3 j hj
  · rw [h36 0 (by omega)]; exact e0
  · rw [h36 1 (by omega)]; exact e1
  · rw [h36 2 (by omega)]; exact e2
