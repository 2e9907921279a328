/-! look: the group that isn't there -/
section
variable {h : Hp} {a1 a2 : Int32}
def lbad (a1 a2 : Int32) (h : Hp) : Prop := ¬ (0 ≤ a1 ∧ a1 ≤ gI h 11 0 8 - 1) ∨ a2.toInt < 0 ∨ 5 < a2.toInt
def lkR (h : Hp) (g : Nat) (a2 r : Int32) : Prop :=
  (a2.toInt = 0 ∧ r = gI h 2 g 6) ∨ (a2.toInt = 1 ∧ ((gP h 2 g 7 = none ∧ r = -1) ∨ ∃ t, gP h 2 g 7 = some (8, t) ∧ r = gI h 8 t 0)) ∨ (a2.toInt = 2 ∧ r = gI h 2 g 8) ∨ (a2.toInt = 3 ∧ r = gI h 2 g 10) ∨ (a2.toInt = 4 ∧ r = gI h 2 g 11) ∨ (a2.toInt = 5 ∧ ((gI h 2 g 6 = 4 ∧ r = gI h 2 g 12) ∨ (¬ gI h 2 g 6 = 4 ∧ r = -1)))
theorem fc39 {v : Int64} {s : Nat} : Fc h (wL h 39 0 s v) := fun k hk => ⟨rfl, rfl, by
  funext i s'
  show (if k = 39 ∧ i = 0 ∧ s' = s then v else gL h k i s') = gL h k i s'
  rw [if_neg]
  rintro ⟨rfl, -⟩
  exact absurd hk (by decide), rfl⟩
theorem J.w39 {v : Int64} {s : Nat} (j : J h) : J (wL h 39 0 s v) := by
  obtain ⟨nS, nT, nU, nG, T, jr, mr⟩ := j
  refine ⟨nS, nT, nU, nG, T, ?_, Fc.mr fc39 mr⟩
  rw [view_fr fc39]
  obtain ⟨⟨p1, p2, p3, p4, p5, p6, p7, p8, p9⟩, q2, q3, q4, q5, q6, q7, ⟨q8, q9⟩, q10, q11⟩ := jr
  obtain ⟨x, e1, e2, e3, e4, e5⟩ := q8
  refine ⟨⟨p1, p2, p3, p4, p5, p6, p7, p8, p9⟩, q2, q3, q4, q5, q6, q7, ⟨⟨x, e1, e2, e3, e4, fun l y hy => ?_⟩, q9⟩, q10, q11⟩
  obtain ⟨a1, a2, s9, a3, a4, a5, a6, a7⟩ := e5 l y hy
  exact ⟨a1, a2, s9, a3, a4, a5, a6, CodAt.fr (h := h) (h' := wL h 39 0 s v) rfl a7⟩
theorem J.t {v : Int32} (j : J h) : J (wI h 12 0 0 v) := by
  obtain ⟨nS, nT, nU, nG, T, jr, mr⟩ := j
  have f : Fq h (wI h 12 0 0 v) := (Fq.refl h).w rfl (by omega) (by omega) (by omega) (by omega) (by omega) (by omega)
  refine ⟨nS, nT, nU, nG, T, ?_, f.mr mr⟩
  rw [vs_12_0]
  exact jr.fr f.1
theorem t12 {v : Int32} : gI (wI h 12 0 0 v) 12 0 0 = v := by simp [gI, wI, up3]
theorem J.nG (j : J h) : ∃ nG, nG ≤ 60 ∧ gI h 11 0 8 = nJ nG ∧ gI h 12 0 41 = nJ nG := by
  obtain ⟨nS, nT, nU, nG, T, jr, mr⟩ := j
  have b := jr.bd
  obtain ⟨c41, hG⟩ := b.wm.1.cG
  exact ⟨nG, hG, b.st.1.2.2.2.1, by rw [gv_12_41]; exact c41⟩
theorem jLookBad (j : J h) (hb : lbad a1 a2 h) : wp_X12_look a1 a2 h fun _ h2 => wp_X12_thrown h2 fun rt h3 => rt = 1 ∧ J h3 := by
  obtain ⟨nG, hG, e8, e41⟩ := j.nG
  have k26 : w_X12_look_26 (fun _ h2 => wp_X12_thrown h2 fun rt h3 => rt = 1 ∧ J h3) a1 a2 h := ⟨fun z => absurd z (by rw [t12]; decide), fun _ => ⟨t12, j.t⟩⟩
  refine ⟨fun _ => k26, fun z1 => ⟨fun _ => k26, fun z2 => ⟨fun _ => k26, fun z3 => ⟨fun _ => k26, fun z4 => ?_⟩⟩⟩⟩
  exfalso
  rw [lt0] at z1 z3
  have z4 : a2.toInt ≤ 5 := by
    have := Int32.not_lt.mp z4
    rw [Int32.le_iff_toInt_le] at this
    exact this
  rcases hb with q | q
  · refine q ?_
    rw [e8]
    rw [e41] at z2
    have z2 := Int32.not_le.mp z2
    rw [Int32.lt_iff_toInt_lt, nJ_toInt (by omega)] at z2
    exact (rng (by omega)).mpr ⟨a1.toInt.toNat, by omega, toI (by omega) (by omega)⟩
  · omega
def lkK (a2 : Int32) : Nat := if a2.toInt = 0 then 148 else if a2.toInt = 1 then 149 else if a2.toInt = 2 then 151 else if a2.toInt = 3 then 152 else if a2.toInt = 4 then 153 else 154
theorem lookM {Q : Int32 → Hp → Prop} {m nG : Nat} (hm : m < nG) (hG : nG ≤ 60) (e41 : gI h 12 0 41 = nJ nG) (ha : 0 ≤ a2.toInt ∧ a2.toInt ≤ 5) (kk : Q (gI h (lkK a2) 0 m) (wI h 12 0 0 0)) : wp_X12_look (nJ m) a2 h Q := by
  have v8 : vp_in (nJ m) 60 := (vp_nJ (by omega)).mpr (by omega)
  have tm : tN (nJ m) = m := tN_nJ (by omega)
  have g0 : ¬ nJ m < 0 := nJ_ge0 (by omega)
  have gU : ¬ gI h 12 0 41 ≤ nJ m := by rw [e41, nJ_le (by omega) (by omega)]; omega
  have gg : ∀ k, ¬ k = 12 → gI (wI h 12 0 0 0) k 0 (tN (nJ m)) = gI h k 0 m := fun k hk => by rw [gI_wIo hk, tm]
  have h5 : ¬ (5 : Int32) < a2 := by
    rw [Int32.lt_iff_toInt_lt]
    have : (5 : Int32).toInt = 5 := by decide
    omega
  refine ⟨fun z => absurd z g0, fun _ => ⟨fun z => absurd z gU, fun _ => ⟨fun z => ?_, fun _ => ⟨fun z => absurd z h5, fun _ => ⟨fun _ => ?_, fun z => absurd (by rw [t12]; decide) z⟩⟩⟩⟩⟩
  · exfalso
    rw [lt0] at z
    omega
  · refine ⟨fun z => ⟨v8, ?_⟩, fun z => ⟨v8, ?_⟩, fun z => ⟨v8, ?_⟩, fun z => ⟨v8, ?_⟩, fun z => ⟨v8, ?_⟩, fun z => ⟨v8, ?_⟩⟩
    · have e : lkK a2 = 154 := by unfold lkK; rw [if_neg (by omega), if_neg (by omega), if_neg (by omega), if_neg (by omega), if_neg (by omega)]
      rw [e] at kk; rw [gg 154 (by omega)]; exact kk
    · have e : lkK a2 = 148 := by unfold lkK; rw [if_pos (by omega)]
      rw [e] at kk; rw [gg 148 (by omega)]; exact kk
    · have e : lkK a2 = 149 := by unfold lkK; rw [if_neg (by omega), if_pos (by omega)]
      rw [e] at kk; rw [gg 149 (by omega)]; exact kk
    · have e : lkK a2 = 151 := by unfold lkK; rw [if_neg (by omega), if_neg (by omega), if_pos (by omega)]
      rw [e] at kk; rw [gg 151 (by omega)]; exact kk
    · have e : lkK a2 = 152 := by unfold lkK; rw [if_neg (by omega), if_neg (by omega), if_neg (by omega), if_pos (by omega)]
      rw [e] at kk; rw [gg 152 (by omega)]; exact kk
    · have e : lkK a2 = 153 := by unfold lkK; rw [if_neg (by omega), if_neg (by omega), if_neg (by omega), if_neg (by omega), if_pos (by omega)]
      rw [e] at kk; rw [gg 153 (by omega)]; exact kk
theorem jLookGood (j : J h) (hb : ¬ lbad a1 a2 h) : ∃ g r, vp_in a1 60 ∧ gP h 23 0 (tN a1) = some (2, g) ∧ lkR h g a2 r ∧ ∀ v, wp_X12_look a1 a2 (wL h 39 0 0 v) fun rm h2 => wp_X12_thrown h2 fun rt h3 => rt = 0 ∧ rm = r ∧ J h3 ∧ gL h3 39 0 0 = v := by
  have j0 := j
  obtain ⟨nS, nT, nU, nG, T, jr, mr⟩ := j
  have b := jr.bd
  obtain ⟨c41, hG⟩ := b.wm.1.cG
  have e41 : gI h 12 0 41 = nJ nG := by rw [gv_12_41]; exact c41
  have e8 : gI h 11 0 8 = nJ nG := b.st.1.2.2.2.1
  have hT : nT ≤ 6 := b.wm.1.cT.2
  unfold lbad at hb
  rw [e8] at hb
  have hc : 0 ≤ a1 ∧ a1 ≤ nJ nG - 1 := Classical.byContradiction fun z => hb (Or.inl z)
  have ha : 0 ≤ a2.toInt ∧ a2.toInt ≤ 5 := ⟨by omega, by omega⟩
  obtain ⟨m, hm, rfl⟩ := (rng (by omega)).mp hc
  have gs := b.st.gs m hm
  have gd := b.gd m hm
  obtain ⟨d1, d2, d3, d4, d5, d6, -, -, d9, d10, d11⟩ := gd
  have tm : tN (nJ m) = m := tN_nJ (by omega)
  have go : ∀ r, gI h (lkK a2) 0 m = r → ∀ v, wp_X12_look (nJ m) a2 (wL h 39 0 0 v) fun rm h2 => wp_X12_thrown h2 fun rt h3 => rt = 0 ∧ rm = r ∧ J h3 ∧ gL h3 39 0 0 = v := fun r hr v =>
    lookM (h := wL h 39 0 0 v) hm hG e41 ha ⟨t12, hr, j0.w39.t, by simp [gL, wL, wI, up3]⟩
  refine ⟨m, gI h (lkK a2) 0 m, (vp_nJ (by omega)).mpr (by omega), by rw [tm]; exact gs.1, ?_, go _ rfl⟩
  have c : a2.toInt = 0 ∨ a2.toInt = 1 ∨ a2.toInt = 2 ∨ a2.toInt = 3 ∨ a2.toInt = 4 ∨ a2.toInt = 5 := by omega
  unfold lkR lkK
  rcases c with c | c | c | c | c | c
  · rw [if_pos c, gv_148, d1]; exact Or.inl ⟨c, rfl⟩
  · rw [if_neg (by omega), if_pos c, gv_149]
    refine Or.inr (Or.inl ⟨c, ?_⟩)
    by_cases e : view h 148 m = 1
    · rw [if_pos e] at d2
      obtain ⟨t, ht, et, -⟩ := d9 e
      refine Or.inr ⟨t, by rw [d2, et, tN_nJ (by omega)], ?_⟩
      rw [et]
      exact (b.st.2.2.1 t ht).2.1.symm
    · rw [if_neg e] at d2
      exact Or.inl ⟨d2, d10 e⟩
  · rw [if_neg (by omega), if_neg (by omega), if_pos c, gv_151, d3]; exact Or.inr (Or.inr (Or.inl ⟨c, rfl⟩))
  · rw [if_neg (by omega), if_neg (by omega), if_neg (by omega), if_pos c, gv_152, d4]; exact Or.inr (Or.inr (Or.inr (Or.inl ⟨c, rfl⟩)))
  · rw [if_neg (by omega), if_neg (by omega), if_neg (by omega), if_neg (by omega), if_pos c, gv_153, d5]; exact Or.inr (Or.inr (Or.inr (Or.inr (Or.inl ⟨c, rfl⟩))))
  · rw [if_neg (by omega), if_neg (by omega), if_neg (by omega), if_neg (by omega), if_neg (by omega), gv_154, d1]
    refine Or.inr (Or.inr (Or.inr (Or.inr (Or.inr ⟨c, ?_⟩))))
    by_cases e : view h 148 m = 4
    · exact Or.inl ⟨e, (d6 e).symm⟩
    · exact Or.inr ⟨e, d11 e⟩
end
