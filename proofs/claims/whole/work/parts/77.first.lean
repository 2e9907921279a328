/-! the first heap: behind the two constructors -/
abbrev fLay (h : Hp) : Prop := ∀ q ∈ layT, ∀ i, i < gC h q.1.1 → gP h q.1.1 i q.1.2 = some (q.2, i) ∧ i < gC h q.2
abbrev fI0 (h : Hp) : Prop := ∀ q ∈ ([(11, 1, 0), (11, 3, 0), (11, 5, 0), (11, 8, 0), (11, 10, 0), (11, 14, 0), (11, 15, 10000), (11, 16, 0), (11, 17, 0), (12, 24, 0), (12, 25, 10000), (12, 26, 0), (12, 30, 0), (12, 35, 0), (12, 41, 0), (12, 55, 0), (12, 56, 0), (12, 57, 0), (12, 61, 0), (12, 63, 0), (12, 2, 0), (12, 15, 0), (5, 2, 0), (3, 1, 0), (7, 1, 0), (1, 6, 0), (110, 0, 0)] : List (Nat × Nat × Nat)), gI h q.1 0 q.2.1 = nJ q.2.2
abbrev fA0 (h : Hp) : Prop := (∀ t, t < 8 → gI h 38 0 t = -1) ∧ (∀ j, j < 576 → gI h 37 0 j = 0) ∧ (∀ g, g < 60 → gI h 153 0 g = 0) ∧ (∀ u, u < 8 → gI h 140 0 u = 0)
abbrev fC0 (h : Hp) : Prop := gC h 6 = 0 ∧ gC h 8 = 0 ∧ gC h 10 = 0 ∧ gC h 2 = 0
abbrev fP0 (h : Hp) : Prop := gP h 0 0 3 = some (1, 0) ∧ gP h 0 0 4 = some (1, 1)
abbrev fW0 (h : Hp) : Prop := gL h 109 0 0 = 8404 ∧ gL h 109 0 1 = 1176170 ∧ gL h 109 0 2 = 1891 ∧ gL h 109 0 3 = 525045115 ∧ gL h 109 0 4 = 1034390 ∧ gL h 109 0 5 = 426554 ∧ gL h 109 0 6 = 913652 ∧ gL h 109 0 7 = 973708 ∧ gL h 109 0 8 = 834716452
def fOk (h : Hp) : Prop := fLay h ∧ fI0 h ∧ fA0 h ∧ fC0 h ∧ fP0 h ∧ fW0 h
section
variable {h : Hp}
theorem J_first (f : fOk h) : J h := by
  obtain ⟨-, fi, ⟨f1, f2, f3, f4⟩, ⟨c6, c8, c10, c2⟩, ⟨p3, p4⟩, fw⟩ := f
  have I : ∀ k s v, (k, s, v) ∈ ([(11, 1, 0), (11, 3, 0), (11, 5, 0), (11, 8, 0), (11, 10, 0), (11, 14, 0), (11, 15, 10000), (11, 16, 0), (11, 17, 0), (12, 24, 0), (12, 25, 10000), (12, 26, 0), (12, 30, 0), (12, 35, 0), (12, 41, 0), (12, 55, 0), (12, 56, 0), (12, 57, 0), (12, 61, 0), (12, 63, 0), (12, 2, 0), (12, 15, 0), (5, 2, 0), (3, 1, 0), (7, 1, 0), (1, 6, 0), (110, 0, 0)] : List (Nat × Nat × Nat)) → gI h k 0 s = nJ v := fun k s v hm => fi (k, s, v) hm
  have V : ∀ k s v, vis k s = true → gI h k 0 s = v → view h k s = v := fun k s v a b => (gv a).symm.trans b
  have s24 : view h 12 24 = nJ 0 := V 12 24 _ rfl (I 12 24 0 (by decide))
  have s25 : view h 12 25 = nJ 10000 := V 12 25 _ rfl (I 12 25 10000 (by decide))
  have wc : WC 0 0 0 0 (view h) := ⟨⟨V _ _ _ rfl (I 12 26 0 (by decide)), by omega⟩, ⟨V _ _ _ rfl (I 12 30 0 (by decide)), by omega⟩, ⟨V _ _ _ rfl (I 12 35 0 (by decide)), by omega⟩, ⟨V _ _ _ rfl (I 12 41 0 (by decide)), by omega⟩, fun t ht => absurd ht (by omega), fun t ht => absurd ht (by omega), fun t ht => absurd ht (by omega), ⟨0, V _ _ _ rfl (I 12 57 0 (by decide)), by omega⟩, fun t ht => absurd ht (by omega), by rw [s25]; decide, fun t ht => absurd ht (by omega)⟩
  have stc : Stc 0 0 0 0 h (view h) := ⟨⟨I 11 1 0 (by decide), I 11 3 0 (by decide), I 11 5 0 (by decide), I 11 8 0 (by decide), by rw [s25]; exact I 11 15 10000 (by decide)⟩, fun t ht => absurd ht (by omega), fun t ht => absurd ht (by omega), fun t ht => absurd ht (by omega), fun t ht => absurd ht (by omega), [], List.nodup_nil, fun g => by simp, rfl, fun j g e => by simp at e, List.Pairwise.nil⟩
  have rcd : RCd h (view h) := ⟨by rw [s24]; exact I 11 14 0 (by decide), by rw [V 12 56 _ rfl (I 12 56 0 (by decide))]; exact I 11 16 0 (by decide), by rw [V 12 55 _ rfl (I 12 55 0 (by decide))]; exact I 11 17 0 (by decide)⟩
  have rq : RQ 0 0 h (view h) := by
    unfold RQ
    refine ⟨[], I 11 10 0 (by decide), List.nodup_nil, ?_⟩
    simp
  have bd : Bd 0 0 0 0 0 0 h (view h) := ⟨⟨wc, fun g hg => absurd hg (by omega)⟩, stc, rcd, fun t ht => absurd ht (by omega), fun t ht => absurd ht (by omega), fun t ht => absurd ht (by omega), fun t ht => absurd ht (by omega), fun t ht => absurd ht (by omega), rq⟩
  have s57 : view h 12 57 = nJ 0 := V _ _ _ rfl (I 12 57 0 (by decide))
  have sea : SeaR h (view h) := ⟨by rw [s57]; exact I 5 2 0 (by decide), fun i r e hr hi => by
    rw [s57] at e
    have : tN (nJ 0) = tN (nJ r) := by rw [e]
    rw [tN_nJ (by omega), tN_nJ (by omega)] at this
    exfalso; omega⟩
  have gui : GuiR 0 h (view h) := ⟨0, 0, I 3 1 0 (by decide), V _ _ _ rfl (I 12 61 0 (by decide)), by omega, fun i hi => absurd hi (by omega), V _ _ _ rfl (I 12 63 0 (by decide)), by omega, fun t ht => by rw [if_neg (by omega)]; exact f1 t ht, fun j _ hj => f2 j hj⟩
  have tap : TapR h (view h) := ⟨0, I 7 1 0 (by decide), V _ _ _ rfl (I 12 2 0 (by decide)), by omega, fun i hi => absurd hi (by omega)⟩
  have txt : TxtR h [] := ⟨⟨0, p3, by omega, I 1 6 0 (by decide), by simp, fun l y e => by simp at e⟩, 0, by omega, p3, p4⟩
  refine ⟨0, 0, 0, 0, [], ⟨bd, ⟨by rw [s24]; decide, fun g hg => absurd hg (by omega)⟩, fun s hs => absurd hs (by omega), ⟨c6, c8, c10, c2⟩, sea, gui, tap, txt, fun u hu => absurd hu (by omega), fun g _ hg => V _ _ _ rfl (f3 g hg), fun u _ hu => V _ _ _ rfl (f4 u hu)⟩, ⟨0, by omega, I 12 15 0 (by decide), I 110 0 0 (by decide), by simp, fun l x e => by simp at e⟩, fw⟩
theorem lay1_mem {k s c : Nat} (e : lay1 k s = some c) : ((k, s), c) ∈ layT := by
  unfold lay1 at e
  cases hf : layT.find? (fun q => q.1.1 == k && q.1.2 == s) with
  | none => rw [hf] at e; cases e
  | some q =>
    rw [hf] at e
    have hm := List.mem_of_find?_eq_some hf
    have hp := List.find?_some hf
    obtain ⟨⟨k', s'⟩, c'⟩ := q
    simp at hp e
    obtain ⟨rfl, rfl⟩ := hp
    subst e
    exact hm
theorem lay_fc : ∀ q ∈ layT, fcode (kty q.1.1 q.1.2) = 2 := by decide +kernel
theorem cell_lay {dA : Nat → ClassId} {ad : Nat → Nat → Nat} (f : fLay h) {k i : Nat} (hi : i < gC h k) : cellE lay1 dA ad h k i = cellE lay0 dA ad h k i := by
  unfold cellE cellR
  by_cases hk : k < 13
  · rw [if_pos hk, if_pos hk]
    congr 2
    refine List.map_congr_left fun s _ => ?_
    unfold fvR
    cases e : lay1 k s with
    | none => rfl
    | some c =>
      have hm := lay1_mem e
      have hg := f _ hm i hi
      have hf := lay_fc _ hm
      dsimp only at hg hf ⊢
      rw [show lay0 k s = none from rfl, hf, hg.1]
      rfl
  · rw [if_neg hk, if_neg hk]
theorem HR.lay {dA : Nat → ClassId} {base : Nat} {ad : Nat → Nat → Nat} {ws : va_W} (f : fLay h) (hR : HR lay0 dA base ad h ws) : HR lay1 dA base ad h ws :=
  ⟨fun k i hk hi => by rw [cell_lay f hi]; exact hR.1 k i hk hi, hR.2.1, hR.2.2.1, fun k s c i e hi => (f _ (lay1_mem e) i hi).2, hR.2.2.2.2⟩
end
