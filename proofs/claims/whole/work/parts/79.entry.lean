/-! what holds at the law's entry -/
section
variable {s : State} {args : Array Value}
theorem arrP {ty : FieldType} (h : (Cond.arrayClass ty).before args s = true) (hne : ∀ C, ty ≠ .object C) : ∃ cA, ArrOfT s cA ty ∧ va_RA s cA ty := by
  obtain ⟨cA, kA, comp, hf, hk, hkd⟩ := Cond.arrayClass_spec h
  refine ⟨cA, fun n z => ⟨fun k e => (by cases e), kA, hk, comp, hkd⟩, ?_⟩
  unfold va_RA
  cases ty <;> first | exact hf | exact absurd rfl (hne _)
theorem arrQ {C : String} (h : va_AO C s) : ∃ cA, ArrOfT s cA (.object C) ∧ va_RA s cA (.object C) := by
  obtain ⟨comp, c, k, h1, -, h2, h3, h4⟩ := Cond.arrayOver_spec (va_AO.use (A := #[]) h)
  exact ⟨c, fun n z => ⟨fun k e => (by cases e), k, h2, comp, h3⟩, k, comp, h2, h3, h1, h4⟩
theorem vaK_start (hts : ∀ w ∈ wsG, w.before args s = true) (hao : ∀ C ∈ aoC, va_AO C s) : ∃ D dA, va_K D vwCl (tysA dA) s := by
  have c13 : ∀ c : Nat, ∃ (cC : ClassId) (iS : Nat → Nat), ∀ q, vwCl[c]? = some q → u_Kn s q.1 q.2.1 q.2.2 cC iS := by
    intro c
    rcases c with _ | _ | _ | _ | _ | _ | _ | _ | _ | _ | _ | _ | _ | c
    · obtain ⟨cC, iS, h⟩ := u_known hts kd0.2.2.1 (hts _ (by decide +kernel : Cond.instantiable RX0 5 ∈ wsG))
      exact ⟨cC, iS, fun q e => by cases e; exact h⟩
    · obtain ⟨cC, iS, h⟩ := u_known hts kd1.2.2.1 (hts _ (by decide +kernel : Cond.instantiable RX1 7 ∈ wsG))
      exact ⟨cC, iS, fun q e => by cases e; exact h⟩
    · obtain ⟨cC, iS, h⟩ := u_known hts kd2.2.2.1 (hts _ (by decide +kernel : Cond.instantiable RX2 14 ∈ wsG))
      exact ⟨cC, iS, fun q e => by cases e; exact h⟩
    · obtain ⟨cC, iS, h⟩ := u_known hts kd3.2.2.1 (hts _ (by decide +kernel : Cond.instantiable RX3 4 ∈ wsG))
      exact ⟨cC, iS, fun q e => by cases e; exact h⟩
    · obtain ⟨cC, iS, h⟩ := u_known hts kd4.2.2.1 (hts _ (by decide +kernel : Cond.instantiable RX4 3 ∈ wsG))
      exact ⟨cC, iS, fun q e => by cases e; exact h⟩
    · obtain ⟨cC, iS, h⟩ := u_known hts kd5.2.2.1 (hts _ (by decide +kernel : Cond.instantiable RX5 3 ∈ wsG))
      exact ⟨cC, iS, fun q e => by cases e; exact h⟩
    · obtain ⟨cC, iS, h⟩ := u_known hts kd6.2.2.1 (hts _ (by decide +kernel : Cond.instantiable RX6 5 ∈ wsG))
      exact ⟨cC, iS, fun q e => by cases e; exact h⟩
    · obtain ⟨cC, iS, h⟩ := u_known hts kd7.2.2.1 (hts _ (by decide +kernel : Cond.instantiable RX7 2 ∈ wsG))
      exact ⟨cC, iS, fun q e => by cases e; exact h⟩
    · obtain ⟨cC, iS, h⟩ := u_known hts kd8.2.2.1 (hts _ (by decide +kernel : Cond.instantiable RX8 6 ∈ wsG))
      exact ⟨cC, iS, fun q e => by cases e; exact h⟩
    · obtain ⟨cC, iS, h⟩ := u_known hts kd9.2.2.1 (hts _ (by decide +kernel : Cond.instantiable RX9 8 ∈ wsG))
      exact ⟨cC, iS, fun q e => by cases e; exact h⟩
    · obtain ⟨cC, iS, h⟩ := u_known hts kd10.2.2.1 (hts _ (by decide +kernel : Cond.instantiable RX10 5 ∈ wsG))
      exact ⟨cC, iS, fun q e => by cases e; exact h⟩
    · obtain ⟨cC, iS, h⟩ := u_known hts kd11.2.2.1 (hts _ (by decide +kernel : Cond.instantiable RX11 18 ∈ wsG))
      exact ⟨cC, iS, fun q e => by cases e; exact h⟩
    · obtain ⟨cC, iS, h⟩ := u_known hts kd12.2.2.1 (hts _ (by decide +kernel : Cond.instantiable RX12 66 ∈ wsG))
      exact ⟨cC, iS, fun q e => by cases e; exact h⟩
    · exact ⟨0, fun _ => 0, fun q e => by simp [vwCl] at e⟩
  obtain ⟨d0, a0⟩ := arrP (ty := .int) (hts _ (by decide +kernel)) (fun C e => by cases e)
  obtain ⟨d1, a1⟩ := arrP (ty := .long) (hts _ (by decide +kernel)) (fun C e => by cases e)
  obtain ⟨d2, a2⟩ := arrP (ty := .char) (hts _ (by decide +kernel)) (fun C e => by cases e)
  obtain ⟨d3, a3⟩ := arrP (ty := .boolean) (hts _ (by decide +kernel)) (fun C e => by cases e)
  obtain ⟨d4, a4⟩ := arrQ (hao "ShoreDay$Ship" (by decide))
  obtain ⟨d5, a5⟩ := arrQ (hao "ShoreDay$Tender" (by decide))
  obtain ⟨d6, a6⟩ := arrQ (hao "ShoreDay$Tour" (by decide))
  obtain ⟨d7, a7⟩ := arrQ (hao "ShoreDay$Group" (by decide))
  refine ⟨(fun c => Classical.choose (c13 c), fun c => Classical.choose (Classical.choose_spec (c13 c))), fun t => [d0, d1, d2, d3, d4, d5, d6, d7].getD t d0, fun c q e => Classical.choose_spec (Classical.choose_spec (c13 c)) q e, fun k q e => ?_⟩
  rcases k with _ | _ | _ | _ | _ | _ | _ | _ | k
  · cases e; exact a0
  · cases e; exact a1
  · cases e; exact a2
  · cases e; exact a3
  · cases e; exact a4
  · cases e; exact a5
  · cases e; exact a6
  · cases e; exact a7
  · simp [tysA] at e
theorem nest_start (h : ∀ w ∈ lw_tbl, w.before args s = true) : nestOk s := fun w hw => by
  have hm : ∀ w ∈ nestW, (Cond.methodLinkNest w.1 w.2.1 w.2.2 "ShoreDay") ∈ lw_tbl ∧ (Cond.methodLinkNest w.1 w.2.1 w.2.2 "ShoreDay").onTables = true := by decide +kernel
  exact va_Nw.of (hm w hw).2 (h _ (hm w hw).1)
theorem ao_start (h : ∀ w ∈ lw_tbl, w.before args s = true) : ∀ C ∈ aoC, va_AO C s := fun C hC => by
  have hm : ∀ C ∈ aoC, (Cond.arrayOver (.object C)) ∈ lw_tbl := by decide +kernel
  exact va_AO.of (h _ (hm C hC))
theorem xf_start (h : ∀ w ∈ lw_tbl, w.before args s = true) (hs : ∀ w ∈ flatC (Jvm.Cond.and given_1 narrow_1), w.before args s = true) : XF s.heap.size s s.heap := by
  have hA : ∀ a : Nat, a < s.heap.size → ¬ s.heap.size ≤ a := fun a h1 h2 => absurd h1 (Nat.not_lt.mpr h2)
  have hd : ∀ x ∈ dclW, Cond.declares x ∈ lw_tbl ∧ (Cond.declares x).onTables = true := by decide +kernel
  have hc : ∀ q ∈ cstW, Cond.castable q.1 q.2 ∈ lw_tbl ∧ (Cond.castable q.1 q.2).onTables = true := by decide +kernel
  exact ⟨vx_Zqof (h _ (by decide +kernel)) (h _ (by decide +kernel)) (hs _ (by decide +kernel)) hA, vx_Zqof (h _ (by decide +kernel)) (h _ (by decide +kernel)) (hs _ (by decide +kernel)) hA, ao_start h, fun x hx => va_Nw.of (hd x hx).2 (h _ (hd x hx).1), fun q hq => va_Nw.of (hc q hq).2 (h _ (hc q hq).1)⟩
end
