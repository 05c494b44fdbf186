/-! ===== rows of rows of ints, made at once ===== -/
/-- the outer row when i inner ones are in it -/
def muC (cA N h i : Nat) : Cell := arrV cA N (fun j => if j < i then Value.ref (h + 1 + j) else .null)
def muI (cI K : Nat) : Cell := arrV cI K (fun _ => Value.int 0)
def muS (T : State) (cA cI N K : Nat) : Nat → State
  | 0 => T.pushCell (muC cA N T.heap.size 0)
  | i + 1 => ((muS T cA cI N K i).pushCell (muI cI K)).setCell T.heap.size (muC cA N T.heap.size (i + 1))
theorem muC_set {cA N h i : Nat} : (muC cA N h i).setSlot i (.ref (h + 1 + i)) = muC cA N h (i + 1) := by
  unfold muC
  rw [arrV_store]
  congr 1
  funext j
  unfold updV
  by_cases e : j = i
  · subst e
    rw [if_pos rfl, if_pos (by omega)]
  · rw [if_neg e]
    dsimp only
    by_cases z : j < i
    · rw [if_pos z, if_pos (by omega)]
    · rw [if_neg z, if_neg (by omega)]
/-- what lies where, when i inner rows are made -/
theorem muS_at (T : State) (cA cI N K : Nat) : ∀ i, (muS T cA cI N K i).heap.size = T.heap.size + 1 + i ∧ (∀ q : Nat, q < T.heap.size → (muS T cA cI N K i).heap[q]? = T.heap[q]?) ∧ (muS T cA cI N K i).heap[T.heap.size]? = some (muC cA N T.heap.size i) ∧ (∀ j : Nat, j < i → (muS T cA cI N K i).heap[T.heap.size + 1 + j]? = some (muI cI K)) ∧ (muS T cA cI N K i).vm = T.vm ∧ (muS T cA cI N K i).slotsUsed = T.slotsUsed + N + i * K
  | 0 => by
    refine ⟨by simp [muS], fun q hq => State.heap_pushCell_of_lt _ _ hq, State.heap_pushCell_size _ _, fun j hj => absurd hj (by omega), rfl, ?_⟩
    show T.slotsUsed + (muC cA N T.heap.size 0).slots.size = _
    rw [show (muC cA N T.heap.size 0).slots.size = N from arrV_size _ _ _]
    omega
  | i + 1 => by
    obtain ⟨a, b, d, f, g, u⟩ := muS_at T cA cI N K i
    rw [show muS T cA cI N K (i + 1) = ((muS T cA cI N K i).pushCell (muI cI K)).setCell T.heap.size (muC cA N T.heap.size (i + 1)) from rfl]
    generalize muS T cA cI N K i = S at a b d f g u
    have hs : ∀ (q : Nat), (((S.pushCell (muI cI K)).setCell T.heap.size (muC cA N T.heap.size (i + 1))).heap)[q]? = if T.heap.size = q then some (muC cA N T.heap.size (i + 1)) else (S.heap.push (muI cI K))[q]? := by
      intro q
      show ((S.heap.push (muI cI K)).setIfInBounds T.heap.size _)[q]? = _
      rw [Array.getElem?_setIfInBounds, Array.size_push, if_pos (show T.heap.size < S.heap.size + 1 by omega)]
    refine ⟨?_, fun q hq => ?_, ?_, fun j hj => ?_, g, ?_⟩
    · show ((S.heap.push (muI cI K)).setIfInBounds T.heap.size _).size = _
      rw [Array.size_setIfInBounds, Array.size_push, a]
      omega
    · show (((S.pushCell (muI cI K)).setCell T.heap.size _).heap)[q]? = _
      rw [hs q, if_neg (by omega), Array.getElem?_push, if_neg (by omega)]
      exact b q hq
    · show (((S.pushCell (muI cI K)).setCell T.heap.size _).heap)[T.heap.size]? = _
      rw [hs, if_pos rfl]
    · show (((S.pushCell (muI cI K)).setCell T.heap.size _).heap)[T.heap.size + 1 + j]? = _
      rw [hs, if_neg (by omega), Array.getElem?_push]
      by_cases e : j = i
      · subst e
        rw [if_pos a.symm]
      · rw [if_neg (by omega)]
        exact f j (by omega)
    · show S.slotsUsed + (muI cI K).slots.size = _
      rw [show (muI cI K).slots.size = K from arrV_size _ _ _, u, Nat.succ_mul]
      omega
theorem muS_top (T : State) (f : JFrame) (cA cI N K : Nat) : ∀ i, muS (T.setTop f) cA cI N K i = (muS T cA cI N K i).setTop f
  | 0 => rfl
  | i + 1 => by
    show ((muS (T.setTop f) cA cI N K i).pushCell (muI cI K)).setCell T.heap.size _ = _
    rw [muS_top T f cA cI N K i]
    rfl
section MW
variable {E : CtlPost} {e : Env} {d : Bool} {acts : List Action} {s : State}
theorem mu_new {c comp : ClassId} {k : Class} {ty : FieldType} {len : Nat} {v : Value} (hk : s.vm.classes[c]? = some k) (hkind : k.kind = .array comp ty) (hl : ¬ len > e.platform.arrayLengthLimit) (hh : ¬ len * componentBytes ty > e.platform.maxHeapBytes) (hfit : fits ty v = true) (hdef : v.isDefault = true) (h1 : s.heap.size < e.platform.maxCells) (h2 : s.slotsUsed + len ≤ e.platform.maxSlots) {Q : Addr → Pre} (hq : Q s.heap.size d acts (s.pushCell (arrV c len (fun _ => v)))) : wp (Jvm.newArray c len v) Q E e d acts s := by
  have ha : allocActs (Array.replicate len v) s.heap.size acts = acts := by
    have : ((Array.replicate len v).all (·.isDefault)) = true := by
      rw [Array.all_replicate]
      split <;> simp [hdef]
    unfold allocActs
    rw [if_pos this]
  rw [← arrV_new] at hq
  simp only [Jvm.newArray, Jvm.arrayFits, wp_bind', Jvm.W.ask, Jvm.W.ite, hl, if_false, wp_pure', Jvm.W.theClass, hk, hkind, hh, Jvm.W.alloc, Jvm.W.stop, Option.some.injEq, exists_eq_left', Array.size_replicate, ha]
  rw [if_neg (by omega)]
  refine ⟨h1, h2, fun i x hx => ?_, hq⟩
  rw [Array.getElem?_replicate] at hx
  split at hx
  · cases hx
    simp [State.fitsSlot, State.slotType?, hk, hkind, hfit]
  · cases hx
theorem mu_make {cA cI cc : ClassId} {k kc : Class} {n m : Int32} {N K : Nat} (hk : s.vm.classes[cA]? = some k) (hkind : k.kind = .array cI (.array .int)) (hkc : s.vm.classes[cI]? = some kc) (hkindc : kc.kind = .array cc .int) (hn : ¬ n < 0) (hm : ¬ m < 0) (hN : n.toNatClampNeg = N) (hK : m.toNatClampNeg = K)
    (l1 : ¬ N > e.platform.arrayLengthLimit) (l2 : ¬ N * 4 > e.platform.maxHeapBytes) (l3 : ¬ K > e.platform.arrayLengthLimit) (l4 : ¬ K * 4 > e.platform.maxHeapBytes) (hc : s.heap.size + 1 + N ≤ e.platform.maxCells) (hs : s.slotsUsed + N + N * K ≤ e.platform.maxSlots) {Q : Addr → Pre} (hq : ∀ d' acts', Q s.heap.size d' acts' (muS s cA cI N K N)) : wp (multianewarray.make cA [n, m]) Q E e d acts s := by
  have h0 : ([m].find? (· < 0)) = none := by simp [hm]
  rw [multianewarray.make]
  simp only [wp_bind', Jvm.W.ite, hn, if_false, wp_pure', Jvm.W.theClass, hk, hkind, Option.some.injEq, exists_eq_left']
  rw [hN]
  refine mu_new hk hkind l1 l2 rfl rfl (by omega) (by omega) ?_
  simp only [h0]
  rw [ite_self, wp_bind', Std.Legacy.Range.forIn_eq_forIn_range']
  rw [show ([:N] : Std.Legacy.Range).size = N by simp [Std.Legacy.Range.size]]
  refine wp_forIn_inv (fun r s' => ∃ i, i ≤ N ∧ r = List.range' i (N - i) ∧ s' = muS s cA cI N K i) _ _ ⟨0, Nat.zero_le _, rfl, ?_⟩ ?_ ?_
  · show _ = s.pushCell (arrV cA N _)
    congr 2
  · rintro x r s' d' acts' Q' ⟨i, hi, hr, rfl⟩ nx
    have hlt : i < N := by
      rcases Nat.lt_or_ge i N with z | z
      · exact z
      · rw [show N - i = 0 by omega] at hr
        cases hr
    rw [show N - i = (N - (i + 1)) + 1 by omega, List.range'_succ] at hr
    obtain ⟨e1, e2⟩ := List.cons.inj hr
    subst e1
    obtain ⟨a, b, g, f, v, u⟩ := muS_at s cA cI N K x
    have hmul : x * K + K ≤ N * K := by
      have := Nat.mul_le_mul_right K (show x + 1 ≤ N from hlt)
      rw [Nat.succ_mul] at this
      exact this
    simp only [wp_bind']
    rw [multianewarray.make]
    simp only [wp_bind', Jvm.W.ite, hm, if_false, wp_pure', Jvm.W.theClass, v, hkc, hkindc, Option.some.injEq, exists_eq_left']
    rw [hK]
    refine mu_new (by rw [v]; exact hkc) hkindc l3 l4 rfl rfl (by rw [a]; omega) (by rw [u]; omega) ?_
    simp only [wp_bind', Jvm.W.writeLoc, wp_pure']
    refine ⟨muC cA N s.heap.size x, ?_, fun z => (by cases z), ?_, ?_, nx _ _ _ ⟨x + 1, hlt, e2, ?_⟩⟩
    · rw [State.heap_pushCell_of_lt _ _ (show s.heap.size < (muS s cA cI N K x).heap.size by rw [a]; omega)]
      exact g
    · rw [show (muC cA N s.heap.size x).slots.size = N from arrV_size _ _ _]
      exact hlt
    · simp [State.fitsSlot, State.slotType?, v, muC, arrV, hk, hkind, fits]
    · rw [a, muC_set]
      rfl
  · rintro s' d' acts' ⟨i, hi, hr, rfl⟩
    have : i = N := by
      rcases Nat.lt_or_ge i N with z | z
      · rw [show N - i = (N - (i + 1)) + 1 by omega, List.range'_succ] at hr
        cases hr
      · omega
    subst this
    exact hq _ _
end MW
section MX
variable {p : Program} {l : Launch} {e : Env} {R : Room} {s : State} {m : MethodId} {args : Array Value} {below : List Frame} {meth : Method} {c : Code} {T : State} {H : Heap} {locs : List Loc} {cells slots : Nat} {Q : State → Prop} {cc : ByteArray} {pc : Nat} {ls : Array Slot} {rest : List Value}
theorem mu_stand (X : Stand p l e R s m args below meth c T locs cells slots) (cA cI N K : Nat) : ∀ i, Stand p l e R s m args below meth c (muS T cA cI N K i) (locs ++ (List.range i).map fun j => ⟨T.heap.size, j⟩) (cells + 1 + i) (slots + N + i * K)
  | 0 => by
    have h := X.pushed (muC cA N T.heap.size 0)
    rw [show (muC cA N T.heap.size 0).slots.size = N from arrV_size _ _ _] at h
    simpa [muS] using h
  | i + 1 => by
    have Xi := mu_stand X cA cI N K i
    obtain ⟨a, b, d, f, g, u⟩ := muS_at T cA cI N K i
    have hcell : ((muS T cA cI N K i).pushCell (muI cI K)).heap[T.heap.size]? = some (muC cA N T.heap.size i) := by
      rw [State.heap_pushCell_of_lt _ _ (show T.heap.size < (muS T cA cI N K i).heap.size by rw [a]; omega)]
      exact d
    have h := (Xi.pushed (muI cI K)).stored hcell i (.ref (T.heap.size + 1 + i))
    rw [show (muI cI K).slots.size = K from arrV_size _ _ _, muC_set, List.append_assoc] at h
    rw [List.range_succ, List.map_append, show slots + N + (i + 1) * K = slots + N + i * K + K by rw [Nat.succ_mul]; omega]
    exact h
theorem over_spec {first : State} {o : Option Outcome} {idx : List Nat} (h : (Cond.arrayOver (.array .int)).holds args first o s idx = true) : ∃ cI cA k, s.vm.findClass "[I" = some cI ∧ s.vm.classes[cA]? = some k ∧ k.kind = .array cI (.array .int) ∧ s.vm.findClass "[[I" = some cA := by
  simp only [Cond.holds, Cond.value, beq_iff_eq] at h
  rw [show (FieldType.array FieldType.int).toString = "[I" from rfl] at h
  cases hc : s.vm.findClass "[I" with
  | none =>
    rw [hc] at h
    cases h
  | some cI =>
    rw [hc, Option.bind_some] at h
    obtain ⟨cA, hi, h2⟩ := Option.bind_eq_some_iff.mp h
    obtain ⟨k, hk, hb⟩ := Option.map_eq_some_iff.mp h2
    obtain ⟨hlt, hp, -⟩ := Array.findIdx?_eq_some_iff_getElem.mp hi
    rw [(Array.getElem?_eq_some_iff.mp hk).2] at hp
    cases hq : k.kind with
    | array cm ty =>
      rw [hq] at hb hp
      simp only [Bool.and_eq_true, decide_eq_true_eq] at hb
      refine ⟨cI, cA, k, rfl, hk, ?_, hb.2⟩
      rw [hq, hb.1, show cm = cI by simpa using hp]
    | _ =>
      rw [hq] at hb
      cases hb
/-- 'multianewarray' of two dimensions over int -/
theorem mu_W (hexec : p.tables.exec = Jvm.exec) (hb : c.code = cc) {own : String} {index tA tI N K : Nat} (hown : s.vm.findClass own = some m.cls) (hcl : (Cond.classLink own index "[[I").before args s = true) (hov : ∃ k, s.vm.classes[tA]? = some k ∧ k.kind = .array tI (.array .int)) (har : (Cond.arrayClass .int).before args s = true) (fA : s.vm.findClass "[[I" = some tA) (fI : s.vm.findClass "[I" = some tI) {n k : Int32} (hn : ¬ n < 0) (hk : ¬ k < 0) (hN : n.toNatClampNeg = N) (hK : k.toNatClampNeg = K) (hN4 : N ≤ 1000) (hK4 : K ≤ 1000) (hsz : s.heap.size ≤ H.size) (hc : cells + (1 + N) ≤ R.cells) (hs : slots + (N + N * K) ≤ R.slots) (hdg : decode cc pc = .ok (.multianewarray index 2, 4))
    (kk : ∀ H1 : Heap, H1.size = H.size + 1 + N → (∀ q : Nat, q < H.size → H1[q]? = H[q]?) → H1[H.size]? = some (muC tA N H.size N) → (∀ j : Nat, j < N → H1[H.size + 1 + j]? = some (muI tI K)) → W p l e R s m args below meth c H1 locs (cells + (1 + N)) (slots + (N + N * K)) Q (F0 m (pc + 4) ls (.ref H.size :: rest))) : W p l e R s m args below meth c H locs cells slots Q (F0 m pc ls (.int k :: .int n :: rest)) := by
  intro T hT X
  subst hT; subst hb
  obtain ⟨kA, kA1, kA2⟩ := hov
  obtain ⟨cI', kI, cc', f3, kI1, kI2⟩ := Cond.arrayClass_spec har
  cases Option.some.inj (f3.symm.trans fI)
  have hpl : e.platform.magicAccessors = ({} : Platform).magicAccessors := by rw [X.admits.platform]
  obtain ⟨c0, g1, g2⟩ := Cond.classLink_spec hown hcl e.platform hpl
  cases Option.some.inj (g1.symm.trans fA)
  obtain ⟨w1, w2, -⟩ := State.classEntry (e := e) X.warmed g2
  generalize T.vm.noted m.cls index (.cls tA) = vm1 at w1 w2
  obtain ⟨kA', a1, a2⟩ := w2.alike.2.2 _ _ kA1
  obtain ⟨kI', b1, b2⟩ := w2.alike.2.2 _ _ kI1
  have X1 := X.noted w2
  obtain ⟨r1, r2⟩ := X.roomAbove hc hs
  have XF := mu_stand X1 tA tI N K N
  have XG := Stand.forget (extra := (List.range N).map fun j => ⟨T.heap.size, j⟩) XF (fun q hq => by
    obtain ⟨j, -, rfl⟩ := List.mem_map.mp hq
    exact hsz)
  obtain ⟨z1, z2, z3, z4, z5, z6⟩ := muS_at (T.setVm vm1) tA tI N K N
  rw [show cells + 1 + N = cells + (1 + N) by omega, show slots + N + N * K = slots + (N + N * K) by omega] at XG
  obtain ⟨t, st, hq⟩ := kk _ z1 z2 z3 z4 _ rfl XG
  refine ⟨t, ?_, hq⟩
  have l1 : ¬ N > e.platform.arrayLengthLimit := by rw [Launch.admits_arrayLengthLimit X.admits]; omega
  have l2 : ¬ N * 4 > e.platform.maxHeapBytes := by rw [Launch.admits_maxHeapBytes X.admits]; omega
  have l3 : ¬ K > e.platform.arrayLengthLimit := by rw [Launch.admits_arrayLengthLimit X.admits]; omega
  have l4 : ¬ K * 4 > e.platform.maxHeapBytes := by rw [Launch.admits_maxHeapBytes X.admits]; omega
  jvm_step X.here [hexec, hdg]
  simp only [multianewarray.sem, wp_bind', Jvm.W.resolveClassAt_links (State.method?_setTop (F0 m pc ls (.int k :: .int n :: rest)) X.here.top) w1]
  rw [Jvm.W.popN, if_neg (by decide)]
  refine ⟨_, State.topJava?_setTop' (s := T.setVm vm1) _ X.here.top, [.int n, .int k], rest, rfl, rfl, ?_⟩
  simp only [List.mapM_cons, List.mapM_nil, wp_bind', wp_pure']
  refine mu_make (k := kA') (kc := kI') (cc := cc') (N := N) (K := K) a1 (by rw [a2]; exact kA2) b1 (by rw [b2]; exact kI2) hn hk hN hK l1 l2 l3 l4 (by show T.heap.size + 1 + N ≤ _; omega) (by show T.slotsUsed + N + N * K ≤ _; omega) (fun d' acts' => ?_)
  rw [show ((T.setTop (F0 m pc ls (.int k :: .int n :: rest))).setVm vm1).setTop { (F0 m pc ls (.int k :: .int n :: rest)) with stack := rest } = (T.setVm vm1).setTop { (F0 m pc ls (.int k :: .int n :: rest)) with stack := rest } by
    show ((T.setVm vm1).setTop _).setTop _ = _
    rw [State.setTop_setTop]]
  rw [muS_top]
  simp only [wp_bind', Jvm.W.mark, Jvm.W.pushRef, State.topJava?_setTop' _ XF.here.top, Option.some.injEq, exists_eq_left', State.setTop_setTop, State.heap_setTop]
  intro acts
  simp [jvm, XF.here.top]
  exact st
end MX
