/-! ===== what is there before the law begins ===== -/
def nrF : List Cond := [Cond.eq (.static "java/lang/String" "COMPACT_STRINGS" "Z") (.int 1), Cond.isRef (.static "jdk/internal/util/Preconditions" "SIOOBE_FORMATTER" "Ljava/util/function/BiFunction;"), Cond.arrayOf (.static "DearerByUse$Laws" "ABOVE" "[I") .int, Cond.eq (.length (.static "DearerByUse$Laws" "ABOVE" "[I")) (.int 6)]
def tmS (i : Nat) : Term := if i = 0 then .string "DearerByUse" 75 else if i = 1 then .string "DearerByUse$Reader" 115 else .string "DearerByUse$Reader" 106
section CN
variable {s : State} {b : Nat}
theorem nr_all (h : (Jvm.Cond.and given_1 narrow_1).before #[Value.ref b] s = true) : ∀ w ∈ nrF, w.before #[Value.ref b] s = true := by
  have hs := flat_of_before _ h
  intro w hw
  exact hs w (by revert w; decide +kernel)
theorem nr_above (h : (Jvm.Cond.and given_1 narrow_1).before #[Value.ref b] s = true) : ∀ j, j < 6 → (Cond.eq (.elem (.static "DearerByUse$Laws" "ABOVE" "[I") (.int (Int32.ofNat j))) (.int (abv j))).before #[Value.ref b] s = true := by
  have hs := flat_of_before _ h
  intro j hj
  exact hs _ (by revert j; decide +kernel)
theorem nr_str (h : (Jvm.Cond.and given_1 narrow_1).before #[Value.ref b] s = true) : ∀ i, i < 3 → (Cond.exactly (tmS i) "java/lang/String").before #[Value.ref b] s = true ∧ (Cond.eq (.field (tmS i) "java/lang/String" "coder" "B") (.int 0)).before #[Value.ref b] s = true ∧ (Cond.arrayOf (.field (tmS i) "java/lang/String" "value" "[B") .byte).before #[Value.ref b] s = true ∧ (Cond.eq (.length (.field (tmS i) "java/lang/String" "value" "[B")) (.int (Int32.ofNat (sLen.getD i 0)))).before #[Value.ref b] s = true := by
  have hs := flat_of_before _ h
  intro i hi
  exact ⟨hs _ (by revert i; decide +kernel), hs _ (by revert i; decide +kernel), hs _ (by revert i; decide +kernel), hs _ (by revert i; decide +kernel)⟩
theorem nr_ne (h : (Jvm.Cond.and given_1 narrow_1).before #[Value.ref b] s = true) : ∀ i j : Nat, i < 3 → j < 3 → i ≠ j → (Cond.not (Cond.eq (tmS i) (tmS j))).before #[Value.ref b] s = true ∨ (Cond.not (Cond.eq (tmS j) (tmS i))).before #[Value.ref b] s = true := by
  have hs := flat_of_before _ h
  have h1 : (Cond.not (Cond.eq (tmS 0) (tmS 1))).before #[Value.ref b] s = true := hs _ (by decide +kernel)
  have h2 : (Cond.not (Cond.eq (tmS 0) (tmS 2))).before #[Value.ref b] s = true := hs _ (by decide +kernel)
  have h3 : (Cond.not (Cond.eq (tmS 1) (tmS 2))).before #[Value.ref b] s = true := hs _ (by decide +kernel)
  intro i j hi hj hne
  rcases (show i = 0 ∨ i = 1 ∨ i = 2 by omega) with q | q | q <;> rcases (show j = 0 ∨ j = 1 ∨ j = 2 by omega) with z | z | z <;> subst q <;> subst z
  · exact absurd rfl hne
  · exact Or.inl h1
  · exact Or.inl h2
  · exact Or.inr h1
  · exact absurd rfl hne
  · exact Or.inl h3
  · exact Or.inr h2
  · exact Or.inr h3
  · exact absurd rfl hne
theorem nr_el (h : (Jvm.Cond.and given_1 narrow_1).before #[Value.ref b] s = true) : ∀ i : Nat, i < 3 → ∀ j : Nat, j < sLen.getD i 0 → (Cond.eq (.elem (.field (tmS i) "java/lang/String" "value" "[B") (.int (Int32.ofNat j))) (.int ((sByt.getD i []).getD j 0))).before #[Value.ref b] s = true := by
  have hs := flat_of_before _ h
  intro i hi j hj
  exact hs _ (by revert i j; decide +kernel)
end CN
