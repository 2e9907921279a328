/-! the texts at the law's entry -/
section
variable {s : State} {args : Array Value}
abbrev tmS (i : Nat) : Term := Term.string (strT.getD i ("", 0, "")).1 (strT.getD i ("", 0, "")).2.1
abbrev gvn : List Cond := flatC (Jvm.Cond.and given_1 narrow_1)
theorem st_1 : ∀ i, i < 11 → Cond.exactly (tmS i) "java/lang/String" ∈ gvn := by decide +kernel
theorem st_2 : ∀ i, i < 11 → Cond.eq ((tmS i).field "java/lang/String" "coder" "B") (Term.int 0) ∈ gvn := by decide +kernel
theorem st_3 : ∀ i, i < 11 → Cond.arrayOf ((tmS i).field "java/lang/String" "value" "[B") FieldType.byte ∈ gvn := by decide +kernel
theorem st_4 : ∀ i, i < 11 → Cond.eq ((tmS i).field "java/lang/String" "value" "[B").length (Term.int (Int32.ofNat (strN.getD i 0))) ∈ gvn := by decide +kernel
theorem st_5 : ∀ i, i < 11 → ∀ j, j < strN.getD i 0 → Cond.eq (((tmS i).field "java/lang/String" "value" "[B").elem (Term.int (Int32.ofNat j))) (Term.int ((strB.getD i []).getD j 0)) ∈ gvn := by decide +kernel
theorem st_6 : ∀ i, i < 11 → ∀ j, j < 11 → i ≠ j → (Cond.eq (tmS i) (tmS j)).not ∈ gvn ∨ (Cond.eq (tmS j) (tmS i)).not ∈ gvn := by decide +kernel
theorem st_7 : ∀ i, i < 11 → Cond.stringRef (strT.getD i ("", 0, "")).1 (strT.getD i ("", 0, "")).2.1 (strT.getD i ("", 0, "")).2.2 ∈ lw_tbl := by decide +kernel
theorem st_8 : ∀ i, i < 11 → strN.getD i 0 < 2 ^ 31 := by decide
theorem str_start (h : ∀ w ∈ lw_tbl, w.before args s = true) (hs : ∀ w ∈ gvn, w.before args s = true) {b : Nat} (hb : b < s.heap.size) : ∃ ad : Nat → Nat → Nat, StrF s.heap.size ad s ∧ ad 61 0 = b ∧ ∀ k i, loK k = true → i < gC hZ k → ad k i < s.heap.size := by
  have hA : ∀ a : Nat, a < s.heap.size → ¬ s.heap.size ≤ a := fun a h1 h2 => absurd h1 (Nat.not_lt.mpr h2)
  obtain ⟨adK, adV, hS, hE⟩ := vk_Sof (args := args) (s := s) (N := 11) (tm := tmS) (len := strN) (byt := strB) (A := fun q => s.heap.size ≤ q) st_8 (fun i hi => hs _ (st_1 i hi)) (fun i hi => hs _ (st_2 i hi)) (fun i hi => hs _ (st_3 i hi)) (fun i hi => hs _ (st_4 i hi)) (fun i hi j hj => hs _ (st_5 i hi j hj)) (fun i j hi hj hne => (st_6 i hi j hj hne).elim (fun q => Or.inl (hs _ q)) (fun q => Or.inr (hs _ q))) hA
  obtain ⟨v, hv, hvr⟩ := Cond.isRef_spec (hs (Cond.isRef (.static "jdk/internal/util/Preconditions" "SIOOBE_FORMATTER" "Ljava/util/function/BiFunction;")) (by decide +kernel))
  obtain ⟨pf, rfl⟩ : ∃ pf, v = va_rf pf := by
    cases v with
    | ref a => exact ⟨some a, rfl⟩
    | null => exact ⟨none, rfl⟩
    | _ => cases hvr
  refine ⟨fun k i => if k = 60 then adK i else if k = 61 then b else adV i, ⟨adK, adV, pf, hS, fun i hi => ⟨⟨rfl, rfl⟩, vk_R.of (h _ (st_7 i hi)) (hE i hi)⟩, va_Zof (h _ (by decide +kernel)) (h _ (by decide +kernel)) (Cond.eq_int (hs (Cond.eq (.static "java/lang/String" "COMPACT_STRINGS" "Z") (.int 1)) (by decide +kernel)) rfl) hA, va_Zof (h _ (by decide +kernel)) (h _ (by decide +kernel)) hv hA, xf_start h hs⟩, rfl, fun k i hk hi => ?_⟩
  show (if k = 60 then adK i else if k = 61 then b else adV i) < s.heap.size
  by_cases c0 : k = 60
  · subst c0
    rw [if_pos rfl]
    obtain ⟨cell, e, -⟩ := (hS.1 i hi).1
    exact (Array.getElem?_eq_some_iff.mp e).1
  · rw [if_neg c0]
    by_cases c1 : k = 61
    · rw [if_pos c1]; exact hb
    · rw [if_neg c1]
      by_cases c2 : k = 62
      · subst c2
        obtain ⟨cell, e, -⟩ := (hS.1 i hi).2.2.2
        exact (Array.getElem?_eq_some_iff.mp e).1
      · exfalso
        have : gC hZ k = 0 := by
          show (if k = 60 then 11 else if k = 61 then 1 else if k = 62 then 11 else 0) = 0
          rw [if_neg c0, if_neg c1, if_neg c2]
        omega
theorem hr_start {lay : LayT} {dA : Nat → ClassId} {base : Nat} {ad : Nat → Nat → Nat} (hl : ∀ k s, lay k s = none) (hlo : ∀ k i, loK k = true → i < gC hZ k → ad k i < base) : HR lay dA base ad hZ [] := by
  have h0 : ∀ k, loK k = false → gC hZ k = 0 := fun k hk => by
    show (if k = 60 then 11 else if k = 61 then 1 else if k = 62 then 11 else 0) = 0
    rw [if_neg (fun e => by subst e; cases hk), if_neg (fun e => by subst e; cases hk), if_neg (fun e => by subst e; cases hk)]
  exact ⟨fun k i hk hi => absurd hi (by rw [h0 k hk]; omega), fun k i k' i' hk hi => absurd hi (by rw [h0 k hk]; omega), fun k i s _ q e => (by cases e), fun k s c i e => (by rw [hl] at e; cases e), hlo, fun k i s q _ e => (by cases e)⟩
end
