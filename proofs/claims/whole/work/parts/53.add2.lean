/-! tenders, tours, and what changes no number of them -/
theorem rng {a : Int32} {n : Nat} (hn : n < 1000000) : (0 ≤ a ∧ a ≤ nJ n - 1) ↔ ∃ m, m < n ∧ a = nJ m := by
  have e1 : (nJ n - 1).toInt = (n : Int) - 1 := by
    rw [tsub (by rw [nJ_toInt (by omega), i1]; omega) (by rw [nJ_toInt (by omega), i1]; omega), nJ_toInt (by omega), i1]
  constructor
  · rintro ⟨h0, h1⟩
    have e0 : 0 ≤ a.toInt := by simpa [Int32.le_iff_toInt_le] using h0
    have h2 := Int32.le_iff_toInt_le.mp h1
    rw [e1] at h2
    refine ⟨tN a, ?_, (nJ_tN h0).symm⟩
    rw [tN_toInt]; omega
  · rintro ⟨m, hm, rfl⟩
    refine ⟨?_, ?_⟩
    · exact Int32.not_lt.mp (nJ_ge0 (by omega))
    · rw [Int32.le_iff_toInt_le, e1, nJ_toInt (by omega)]; omega
theorem rng2 {a : Int32} {n : Nat} (hn : n < 1000000) : (¬ a < 0 ∧ ¬ nJ n ≤ a) ↔ ∃ m, m < n ∧ a = nJ m := by
  constructor
  · rintro ⟨h0, h1⟩
    have h0 := Int32.not_lt.mp h0
    have e0 : 0 ≤ a.toInt := by simpa [Int32.le_iff_toInt_le] using h0
    have h2 := Int32.lt_iff_toInt_lt.mp (Int32.not_le.mp h1)
    rw [nJ_toInt (by omega)] at h2
    refine ⟨tN a, ?_, (nJ_tN h0).symm⟩
    rw [tN_toInt]; omega
  · rintro ⟨m, hm, rfl⟩
    refine ⟨nJ_ge0 (by omega), ?_⟩
    rw [nJ_le (by omega) (by omega)]; omega
section
variable {nS nT nU nG : Nat} {h h' : Hp} {S S' : MSt} {T : TextT}
theorem xShipAt {a : Int32} {Q : Option PtrT → Hp → Prop} (b : Bd nS nT nU nG nU nG h S) (k1 : ∀ s, s < nS → a = nJ s → Q (some (6, s)) h) (k0 : ¬ (∃ s, s < nS ∧ a = nJ s) → Q none h) : wp_X11_shipAt a h Q := by
  have hS := b.wm.1.cS.2
  have e1 : gI h 11 0 1 = nJ nS := b.st.1.1
  simp only [w_X11_shipAt_24, w_X11_shipAt_23, w_X11_shipAt_14, w_X11_shipAt_11, w_X11_shipAt_0, wp_X11_shipAt, xwithin, e1, bI_0, rng (show nS < 1000000 by omega)]
  refine ⟨k0, fun z => ?_⟩
  obtain ⟨s, hs, rfl⟩ := Decidable.not_not.mp z
  refine ⟨(vp_nJ (by omega)).mpr (by omega), ?_⟩
  rw [tN_nJ (by omega), (b.st.2.1 s hs).1]
  exact k1 s hs rfl
theorem xTourAt {a : Int32} {Q : Option PtrT → Hp → Prop} (b : Bd nS nT nU nG nU nG h S) (k1 : ∀ s, s < nU → a = nJ s → Q (some (10, s)) h) (k0 : ¬ (∃ s, s < nU ∧ a = nJ s) → Q none h) : wp_X11_tourAt a h Q := by
  have hS := b.wm.1.cU.2
  have e1 : gI h 11 0 5 = nJ nU := b.st.1.2.2.1
  simp only [w_X11_tourAt_24, w_X11_tourAt_23, w_X11_tourAt_14, w_X11_tourAt_11, w_X11_tourAt_0, wp_X11_tourAt, xwithin, e1, bI_0, rng (show nU < 1000000 by omega)]
  refine ⟨k0, fun z => ?_⟩
  obtain ⟨s, hs, rfl⟩ := Decidable.not_not.mp z
  refine ⟨(vp_nJ (by omega)).mpr (by omega), ?_⟩
  rw [tN_nJ (by omega), (b.st.2.2.2.1 s hs).1]
  exact k1 s hs rfl
theorem mIsShip {a : Int32} {h1 : Hp} {Q : Int32 → Hp → Prop} (hv : view h1 = S) (w : WM nS nT nU nG S) (k1 : ∀ s, s < nS → a = nJ s → ¬ S 128 s ≤ S 12 24 → Q 1 h1) (k0 : ¬ (∃ s, s < nS ∧ a = nJ s ∧ ¬ S 128 s ≤ S 12 24) → Q 0 h1) : wp_X12_isShip a h1 Q := by
  obtain ⟨c26, hS⟩ := w.1.cS
  simp only [w_X12_isShip_30, w_X12_isShip_29, w_X12_isShip_25, w_X12_isShip_12, w_X12_isShip_4, w_X12_isShip_0, wp_X12_isShip, gv_12_26, gv_12_24, gv_128, hv, c26]
  refine ⟨fun z => ⟨Or.inl trivial, k0 ?_⟩, fun z => ⟨fun z2 => ⟨Or.inl trivial, k0 ?_⟩, fun z2 => ?_⟩⟩
  · rintro ⟨s, hs, rfl, -⟩; exact nJ_ge0 (by omega) z
  · rintro ⟨s, hs, rfl, -⟩
    rw [nJ_le (by omega) (by omega)] at z2; omega
  · obtain ⟨s, hs, rfl⟩ := (rng2 (show nS < 1000000 by omega)).mp ⟨z, z2⟩
    rw [tN_nJ (by omega)]
    refine ⟨(vp_nJ (by omega)).mpr (by omega), fun z3 => ⟨Or.inl trivial, k0 ?_⟩, fun z3 => ⟨Or.inr trivial, k1 s hs rfl z3⟩⟩
    rintro ⟨s', hs', e, z4⟩
    rw [nJ_eq (by omega) (by omega)] at e
    rw [← e] at z4; exact z4 z3
theorem JR.same (jr : JR nS nT nU nG T h S) (H : OldH nS nT nU nG h h') (K : OldS nS nT nU nG S S') (hc : gC h' = gC h) (h11 : ∀ s, s = 1 ∨ s = 3 ∨ s = 5 ∨ s = 8 → gI h' 11 0 s = gI h 11 0 s) (h15 : gI h' 11 0 15 = S' 12 25) (h24 : ∀ j, gP h' 24 0 j = gP h 24 0 j) (s12 : ∀ s, s = 26 ∨ s = 30 ∨ s = 35 ∨ s = 41 → S' 12 s = S 12 s) (s57 : ∃ r, S' 12 57 = nJ r ∧ r ≤ 10) (s25 : 0 ≤ (S' 12 25).toInt ∧ (S' 12 25).toInt ≤ 10000) (z1 : ∀ g, S' 153 g = S 153 g) (z2 : ∀ u, S' 140 u = S 140 u)
    {T' : TextT} (o : SeaR h' S' ∧ GuiR nU h' S' ∧ TapR h' S' ∧ TxtR h' T') : JR nS nT nU nG T' h' S' := by
  have b := jr.bd
  have w := b.wm
  obtain ⟨g1, g2, g3, g4, g5, g6⟩ := b.oldG H K
  obtain ⟨t1, t2, t3, t4, t5⟩ := b.oldT H K
  have K' := K
  obtain ⟨K1, K2, K3, K4, K5, K6, K7⟩ := K
  obtain ⟨s1, s2, s3, s4, s5⟩ := b.st.1
  refine ⟨⟨w.old K' (by omega) (by omega) (by rw [s12 26 (by omega)]; exact w.1.cS) (by rw [s12 30 (by omega)]; exact w.1.cT) (by rw [s12 35 (by omega)]; exact w.1.cU) (by rw [s12 41 (by omega)]; exact w.1.cG) s57 s25 (fun t h1 h2 => by omega) (fun g h1 h2 => by omega), ⟨⟨(h11 1 (by omega)).trans s1, (h11 3 (by omega)).trans s2, (h11 5 (by omega)).trans s3, (h11 8 (by omega)).trans s4, h15⟩, g1, g2, g3, g4, b.st.rk.old (fun j _ => h24 j) (fun g hg => K4 144 g hg (by omega) (by omega))⟩, g5, g6, t1, t2, t3, t4, t5⟩, ?_, ?_, ?_, o.1, o.2.1, o.2.2.1, o.2.2.2, ?_, ?_⟩
  · have := jr.2.1
    unfold NB at this ⊢
    rw [K5]
    refine ⟨this.1, fun g hg => ?_⟩
    rw [K4 147 g hg (by omega) (by omega)]; exact this.2 g hg
  · intro s hs
    rw [K5, H.2.1 s 4 hs, K1 128 s hs (by omega) (by omega)]; exact jr.sai s hs
  · have := jr.cel
    unfold CelR at this ⊢; rw [hc]; exact this
  · intro u hu
    rw [K3 138 u hu (by omega) (by omega), K3 139 u hu (by omega) (by omega)]; exact jr.tou u hu
  · refine ⟨fun g h1 h2 => ?_, fun u h1 h2 => ?_⟩
    · rw [z1]; exact jr.zer.1 g h1 h2
    · rw [z2]; exact jr.zer.2 u h1 h2
/-! a tender -/
theorem tenderJ {s : Nat} {a2 : Int32} (jr : JR nS nT nU nG T h S) (hs : s < nS) (p2 : 0 ≤ a2.toInt ∧ a2.toInt ≤ 200) (p5 : nT < 6) : JR nS (nT + 1) nU nG T (wI (wP (wI (wP (wI (wI (nw h 8) 8 nT 3 0) 8 nT 0 (nJ nT)) 8 nT 1 (some (6, s))) 8 nT 2 a2) 21 0 nT (some (8, nT))) 11 0 3 (nJ (nT + 1))) (us (us (us (us S 131 nT (nJ s)) 132 nT a2) 133 nT 0) 12 30 (nJ (nT + 1))) := by
  have b := jr.bd
  have w := b.wm
  have hS4 := w.1.cS.2
  obtain ⟨c6, c8, c10, c2⟩ := jr.cel
  have H : OldH nS nT nU nG h (wI (wP (wI (wP (wI (wI (nw h 8) 8 nT 3 0) 8 nT 0 (nJ nT)) 8 nT 1 (some (6, s))) 8 nT 2 a2) 21 0 nT (some (8, nT))) 11 0 3 (nJ (nT + 1))) := by
    refine ⟨fun g s hg => by simp [gI_wI, gI_wP, gI_wL, gP_wI, gP_wP, gP_wL, gC_wI, gC_wP, gC_wL, gI_nw, gP_nw, gC_nw], fun x s hx => by simp [gI_wI, gI_wP, gI_wL, gP_wI, gP_wP, gP_wL, gC_wI, gC_wP, gC_wL, gI_nw, gP_nw, gC_nw], fun t s ht => ?_, fun u s hu => by simp [gI_wI, gI_wP, gI_wL, gP_wI, gP_wP, gP_wL, gC_wI, gC_wP, gC_wL, gI_nw, gP_nw, gC_nw], fun s hs => ?_, fun s hs => by simp [gI_wI, gI_wP, gI_wL, gP_wI, gP_wP, gP_wL, gC_wI, gC_wP, gC_wL, gI_nw, gP_nw, gC_nw], fun s hs => ?_, fun s hs => by simp [gI_wI, gI_wP, gI_wL, gP_wI, gP_wP, gP_wL, gC_wI, gC_wP, gC_wL, gI_nw, gP_nw, gC_nw], fun s hs => by simp [gI_wI, gI_wP, gI_wL, gP_wI, gP_wP, gP_wL, gC_wI, gC_wP, gC_wL, gI_nw, gP_nw, gC_nw], fun s => by simp [gI_wI, gI_wP, gI_wL, gP_wI, gP_wP, gP_wL, gC_wI, gC_wP, gC_wL, gI_nw, gP_nw, gC_nw]⟩
    · have : t ≠ nT := by omega
      simp [gI_wI, gI_wP, gI_wL, gP_wI, gP_wP, gP_wL, gC_wI, gC_wP, gC_wL, gI_nw, gP_nw, gC_nw, c8, this]
    · have : s ≠ 3 := by omega
      simp [gI_wI, gI_wP, gI_wL, gP_wI, gP_wP, gP_wL, gC_wI, gC_wP, gC_wL, gI_nw, gP_nw, gC_nw, this]
    · have : s ≠ nT := by omega
      simp [gI_wI, gI_wP, gI_wL, gP_wI, gP_wP, gP_wL, gC_wI, gC_wP, gC_wL, gI_nw, gP_nw, gC_nw, this]
  have K : OldS nS nT nU nG S (us (us (us (us S 131 nT (nJ s)) 132 nT a2) 133 nT 0) 12 30 (nJ (nT + 1))) := (((OldS.refl.us (by omega) (by omega) (by omega) (by omega) (by omega)).us (by omega) (by omega) (by omega) (by omega) (by omega)).us (by omega) (by omega) (by omega) (by omega) (by omega)).us (by omega) (by omega) (by omega) (by omega) (by omega)
  have o : ∀ k i, k ≠ 131 → k ≠ 132 → k ≠ 133 → ¬ (k = 12 ∧ i = 30) → us (us (us (us S 131 nT (nJ s)) 132 nT a2) 133 nT 0) 12 30 (nJ (nT + 1)) k i = S k i := fun k i h1 h2 h3 h4 => by
    rw [us_app, if_neg h4, us_app, if_neg (by omega), us_app, if_neg (by omega), us_app, if_neg (by omega)]
  obtain ⟨g1, g2, g3, g4, g5, g6⟩ := b.oldG H K
  obtain ⟨t1, t2, t3, t4, t5⟩ := b.oldT H K
  have f : Fr xo h (wI (wP (wI (wP (wI (wI (nw h 8) 8 nT 3 0) 8 nT 0 (nJ nT)) 8 nT 1 (some (6, s))) 8 nT 2 a2) 21 0 nT (some (8, nT))) 11 0 3 (nJ (nT + 1))) := ((((((Fr.refl h).nw rfl).wI rfl).wI rfl).wP rfl).wI rfl).wP rfl |>.wI rfl
  have O : SO S (us (us (us (us S 131 nT (nJ s)) 132 nT a2) 133 nT 0) 12 30 (nJ (nT + 1))) := (((SO.refl.us rfl).us rfl).us rfl).us rfl
  obtain ⟨o1, o2, o3, o4⟩ := jr.oth f O (Nat.le_refl nU)
  have i1' : us (us (us (us S 131 nT (nJ s)) 132 nT a2) 133 nT 0) 12 30 (nJ (nT + 1)) 131 nT = nJ s := by simp [us_app]
  have i2' : us (us (us (us S 131 nT (nJ s)) 132 nT a2) 133 nT 0) 12 30 (nJ (nT + 1)) 132 nT = a2 := by simp [us_app]
  have i3' : us (us (us (us S 131 nT (nJ s)) 132 nT a2) 133 nT 0) 12 30 (nJ (nT + 1)) 133 nT = 0 := by simp [us_app]
  have nin : ∀ g, g < nG → ¬ inT (us (us (us (us S 131 nT (nJ s)) 132 nT a2) 133 nT 0) 12 30 (nJ (nT + 1))) nT g := fun g hg z => by
    unfold inT at z
    rw [o 148 g (by omega) (by omega) (by omega) (by omega), o 149 g (by omega) (by omega) (by omega) (by omega)] at z
    obtain ⟨t', ht', e', -⟩ := (b.gd g hg).2.2.2.2.2.2.2.2.1 z.1
    have := e'.symm.trans z.2
    rw [nJ_eq (by omega) (by omega)] at this; omega
  refine ⟨⟨w.old K (by omega) (by omega) (by rw [o 12 26 (by omega) (by omega) (by omega) (by omega)]; exact w.1.cS) ⟨by simp [us_app], by omega⟩ (by rw [o 12 35 (by omega) (by omega) (by omega) (by omega)]; exact w.1.cU) (by rw [o 12 41 (by omega) (by omega) (by omega) (by omega)]; exact w.1.cG) (by rw [o 12 57 (by omega) (by omega) (by omega) (by omega)]; exact w.1.shuts) (by rw [o 12 25 (by omega) (by omega) (by omega) (by omega)]; exact w.1.town) (fun t h1 h2 => ?_) (fun g h1 h2 => by omega), ⟨?_, g1, fun t ht => ?_, g3, g4, ?_⟩, g5, fun g hg => ?_, fun t ht => ?_, fun t ht => ?_, fun t ht => ?_, t4, t5⟩, ?_, ?_, ?_, o1, o2, o3, o4, ?_, ?_⟩
  · obtain rfl : t = nT := by omega
    rw [i1', i2']; exact ⟨⟨s, hs, rfl⟩, p2⟩
  · obtain ⟨s1, s2, s3, s4, s5⟩ := b.st.1
    refine ⟨?_, by simp [gI_wI, gI_wP, gI_wL, gP_wI, gP_wP, gP_wL, gC_wI, gC_wP, gC_wL, gI_nw, gP_nw, gC_nw], ?_, ?_, ?_⟩
    · simp [gI_wI, gI_wP, gI_wL, gP_wI, gP_wP, gP_wL, gC_wI, gC_wP, gC_wL, gI_nw, gP_nw, gC_nw]; exact s1
    · simp [gI_wI, gI_wP, gI_wL, gP_wI, gP_wP, gP_wL, gC_wI, gC_wP, gC_wL, gI_nw, gP_nw, gC_nw]; exact s3
    · simp [gI_wI, gI_wP, gI_wL, gP_wI, gP_wP, gP_wL, gC_wI, gC_wP, gC_wL, gI_nw, gP_nw, gC_nw]; exact s4
    · rw [o 12 25 (by omega) (by omega) (by omega) (by omega)]; simp [gI_wI, gI_wP, gI_wL, gP_wI, gP_wP, gP_wL, gC_wI, gC_wP, gC_wL, gI_nw, gP_nw, gC_nw]; exact s5
  · by_cases c : t = nT
    · subst c
      unfold RTs
      rw [i1', i2', tN_nJ (by omega)]
      simp [gI_wI, gI_wP, gI_wL, gP_wI, gP_wP, gP_wL, gC_wI, gC_wP, gC_wL, gI_nw, gP_nw, gC_nw]
    · exact g2 t (by omega)
  · exact b.st.rk.old (fun j hj => by simp [gI_wI, gI_wP, gI_wL, gP_wI, gP_wP, gP_wL, gC_wI, gC_wP, gC_wL, gI_nw, gP_nw, gC_nw]) (fun g hg => o 144 g (by omega) (by omega) (by omega) (by omega))
  · obtain ⟨d1, d2, d3, d4, d5, d6, d7, d8, d9, d10⟩ := g6 g hg
    refine ⟨d1, d2, d3, d4, d5, d6, d7, d8, fun z => ?_, d10⟩
    obtain ⟨t, ht, e⟩ := d9 z
    exact ⟨t, by omega, e⟩
  · by_cases c : t = nT
    · subst c
      unfold RTd
      rw [i3']
      simp [gI_wI, gI_wP, gI_wL, gP_wI, gP_wP, gP_wL, gC_wI, gC_wP, gC_wL, gI_nw, gP_nw, gC_nw, c8]
    · exact t1 t (by omega)
  · by_cases c : t = nT
    · subst c
      unfold Ld
      rw [gIn_0 nin]
      simp [gI_wI, gI_wP, gI_wL, gP_wI, gP_wP, gP_wL, gC_wI, gC_wP, gC_wL, gI_nw, gP_nw, gC_nw, c8]
    · exact t2 t (by omega)
  · by_cases c : t = nT
    · subst c
      exact fun _ => nin
    · exact t3 t (by omega)
  · have := jr.2.1
    unfold NB at this ⊢
    rw [o 12 24 (by omega) (by omega) (by omega) (by omega)]
    refine ⟨this.1, fun g hg => ?_⟩
    rw [o 147 g (by omega) (by omega) (by omega) (by omega)]; exact this.2 g hg
  · intro s hs
    rw [o 12 24 (by omega) (by omega) (by omega) (by omega), H.2.1 s 4 (by omega), K.1 128 s (by omega) (by omega) (by omega)]
    exact jr.sai s (by omega)
  · unfold CelR
    simp [gI_wI, gI_wP, gI_wL, gP_wI, gP_wP, gP_wL, gC_wI, gC_wP, gC_wL, gI_nw, gP_nw, gC_nw, c6, c8, c10, c2]
  · intro u hu
    rw [o 138 u (by omega) (by omega) (by omega) (by omega), o 139 u (by omega) (by omega) (by omega) (by omega)]
    exact jr.tou u hu
  · refine ⟨fun g h1 h2 => ?_, fun u h1 h2 => ?_⟩
    · rw [o 153 g (by omega) (by omega) (by omega) (by omega)]; exact jr.zer.1 g h1 h2
    · rw [o 140 u (by omega) (by omega) (by omega) (by omega)]; exact jr.zer.2 u h1 h2
theorem i32b {a : Int32} {x y : Nat} (hx : x < 2147483648) (hy : y < 2147483648) (c : nJ x ≤ a ∧ a ≤ nJ y) : (x : Int) ≤ a.toInt ∧ a.toInt ≤ y := by
  have h1 := Int32.le_iff_toInt_le.mp c.1
  have h2 := Int32.le_iff_toInt_le.mp c.2
  rw [nJ_toInt hx] at h1
  rw [nJ_toInt hy] at h2
  exact ⟨h1, h2⟩
theorem jTender {a1 a2 : Int32} (j : J h) : wp_X11_tender a1 a2 h fun rx h1 => wp_X12_tender a1 a2 h1 fun rm h2 => rm = rx ∧ J h2 := by
  refine JJ j fun nS nT nU nG T S jr => ?_
  have b := jr.bd
  have e3 : gI h 11 0 3 = nJ nT := b.st.1.2.1
  obtain ⟨c30, hT⟩ := b.wm.1.cT
  have hS4 := b.wm.1.cS.2
  have c8 : gC h 8 = nT := jr.cel.2.1
  have l4 : nJ nT < 6 ↔ nT < 6 := nJ_lt (a := nT) (b := 6) (by omega) (by omega)
  have q4 : nJ nT = 6 ↔ nT = 6 := nJ_eq (a := nT) (b := 6) (by omega) (by omega)
  by_cases c : (∃ s, s < nS ∧ a1 = nJ s ∧ ¬ S 128 s ≤ S 12 24) ∧ ((1 : Int32) ≤ a2 ∧ a2 ≤ 200) ∧ nT < 6
  · obtain ⟨⟨s, hs, rfl, p4⟩, p2, p5⟩ := c
    have v4 : vp_in (nJ nT) 6 := (vp_nJ (by omega)).mpr p5
    have t4 : tN (nJ nT) = nT := tN_nJ (by omega)
    have b2 := i32b (x := 1) (y := 200) (by omega) (by omega) p2
    refine ⟨nS, nT + 1, nU, nG, us (us (us (us S 131 nT (nJ s)) 132 nT a2) 133 nT 0) 12 30 (nJ (nT + 1)), nJ nT, fun Q kk => ?_, fun h1 hv t w Q kk => ?_⟩
    · have kk := kk _ (tenderJ (a2 := a2) jr hs (by omega) p5) (((((((Fr.refl h).nw rfl).wI rfl).wI rfl).wP rfl).wI rfl).wP rfl |>.wI rfl)
      have l5 := l4.mpr p5
      refine xShipAt b (fun s' hs' e => ?_) (fun z => absurd ⟨s, hs, rfl⟩ z)
      rw [nJ_eq (by omega) (by omega)] at e
      subst e
      have e64 : gI h 6 s 4 = 0 := by rw [jr.sai s hs, bI_n p4]
      refine ⟨fun z => absurd z (by simp), fun _ => ⟨s, rfl, ?_⟩⟩
      simp only [w_X11_tender_37, w_X11_tender_60, w_X11_tender_50, w_X11_tender_39, w_X11_tender_28, w_X11_tender_25, w_X11_tender_17, w_X11_tender_10, w_X11_tender_5, w_X11_tender_0, wp_X11_tender, w_X8_init_0, wp_X8_init, xwithin, e3, e64, c8, bI_c p2, l5]
      have n8 : nlw 8 (some (6, s)) := nlw_some rfl
      simpa [gI_wI, gI_wP, gI_wL, gP_wI, gP_wP, gP_wL, gC_wI, gC_wP, gC_wL, gI_nw, gP_nw, gC_nw, e3, t4, nJ_succ, nJ_pred, v4, n8] using kk
    · have q5 : ¬ nJ nT = 6 := fun z => by have := q4.mp z; omega
      have hv0 : view (wI h1 12 0 0 0) = S := by rw [vs_12_0, hv]
      refine mIsShip hv0 w (fun s' hs' e p => ?_) (fun z => absurd ⟨s, hs, rfl, p4⟩ z)
      simp only [w_X12_tender_33, w_X12_tender_64, w_X12_tender_54, w_X12_tender_35, w_X12_tender_24, w_X12_tender_21, w_X12_tender_13, w_X12_tender_10, w_X12_tender_0, wp_X12_tender, mwithin, gv_12_30, gv_101, vw_101, gv_127, vw_127, gv_128, vw_128, gv_129, vw_129, gv_131, vw_131, gv_132, vw_132, gv_133, vw_133, gv_134, vw_134, gv_136, vw_136, gv_137, vw_137, gv_138, vw_138, gv_139, vw_139, gv_140, vw_140, gv_142, vw_142, gv_143, vw_143, gv_144, vw_144, gv_145, vw_145, gv_146, vw_146, gv_147, vw_147, gv_148, vw_148, gv_149, vw_149, gv_150, vw_150, gv_151, vw_151, gv_152, vw_152, gv_153, vw_153, gv_154, vw_154, gv_158, vw_158, gv_159, vw_159, gv_162, vw_162, gv_164, vw_164, gv_12_2, vw_12_2, gv_12_24, vw_12_24, gv_12_25, vw_12_25, gv_12_26, vw_12_26, gv_12_30, vw_12_30, gv_12_35, vw_12_35, gv_12_41, vw_12_41, gv_12_55, vw_12_55, gv_12_56, vw_12_56, gv_12_57, vw_12_57, gv_12_61, vw_12_61, gv_12_63, vw_12_63, vs_160, vs_165, vs_119, vs_120, vs_121, vs_122, vs_123, vs_12_0, hv, us_app, c30, bI_c p2, q5, t4, v4]
      simp only [Nat.reduceEqDiff, false_and, and_false, if_false, c30, t4, v4, nJ_succ, nJ_pred, and_self, if_true, true_and]
      refine ⟨fun z => absurd z (by decide), fun _ => ⟨fun z => absurd z (by decide), fun _ => ⟨fun _ => ?_, fun z => z.elim⟩⟩⟩
      refine kk _ (by simp only [gv_101, vw_101, gv_127, vw_127, gv_128, vw_128, gv_129, vw_129, gv_131, vw_131, gv_132, vw_132, gv_133, vw_133, gv_134, vw_134, gv_136, vw_136, gv_137, vw_137, gv_138, vw_138, gv_139, vw_139, gv_140, vw_140, gv_142, vw_142, gv_143, vw_143, gv_144, vw_144, gv_145, vw_145, gv_146, vw_146, gv_147, vw_147, gv_148, vw_148, gv_149, vw_149, gv_150, vw_150, gv_151, vw_151, gv_152, vw_152, gv_153, vw_153, gv_154, vw_154, gv_158, vw_158, gv_159, vw_159, gv_162, vw_162, gv_164, vw_164, gv_12_2, vw_12_2, gv_12_24, vw_12_24, gv_12_25, vw_12_25, gv_12_26, vw_12_26, gv_12_30, vw_12_30, gv_12_35, vw_12_35, gv_12_41, vw_12_41, gv_12_55, vw_12_55, gv_12_56, vw_12_56, gv_12_57, vw_12_57, gv_12_61, vw_12_61, gv_12_63, vw_12_63, vs_160, vs_165, vs_119, vs_120, vs_121, vs_122, vs_123, vs_12_0, hv]) ?_
      exact (((((Fq.t0 h1).w rfl (by omega) (by omega) (by omega) (by omega) (by omega) (by omega)).w rfl (by omega) (by omega) (by omega) (by omega) (by omega) (by omega)).w rfl (by omega) (by omega) (by omega) (by omega) (by omega) (by omega)).w rfl (by omega) (by omega) (by omega) (by omega) (by omega) (by omega))
  · refine ⟨nS, nT, nU, nG, S, -1, fun Q kk => ?_, fun h1 hv t w Q kk => ?_⟩
    · have kk := kk h jr (Fr.refl h)
      refine xShipAt b (fun s hs e => ⟨fun z => absurd z (by simp), fun _ => ⟨s, rfl, ?_⟩⟩) (fun z => ⟨fun _ => kk, fun z => absurd rfl z⟩)
      simp only [w_X11_tender_37, w_X11_tender_60, w_X11_tender_50, w_X11_tender_39, w_X11_tender_28, w_X11_tender_25, w_X11_tender_17, w_X11_tender_10, w_X11_tender_5, w_X11_tender_0, wp_X11_tender, w_X8_init_0, wp_X8_init, xwithin, e3, jr.sai s hs, bI_0]
      refine ⟨fun _ => kk, fun z1 => ⟨fun _ => kk, fun z2 => ⟨fun z3 => ?_, fun _ => kk⟩⟩⟩
      exact absurd ⟨⟨s, hs, e, z1⟩, Decidable.not_not.mp z2, l4.mp z3⟩ c
    · have kk := kk _ (by rw [vs_12_0, hv]) (Fq.t0 h1)
      have hv0 : view (wI h1 12 0 0 0) = S := by rw [vs_12_0, hv]
      refine mIsShip hv0 w (fun s hs e p => ?_) (fun z => ⟨fun _ => kk, fun z => absurd rfl z⟩)
      refine ⟨fun _ => kk, fun _ => ?_⟩
      simp only [w_X12_tender_33, w_X12_tender_64, w_X12_tender_54, w_X12_tender_35, w_X12_tender_24, w_X12_tender_21, w_X12_tender_13, w_X12_tender_10, w_X12_tender_0, wp_X12_tender, mwithin, gv_12_30, vs_12_0, hv, c30, bI_0]
      refine ⟨fun _ => kk, fun z2 => ⟨fun z3 => ?_, fun _ => kk⟩⟩
      exact absurd ⟨⟨s, hs, e, p⟩, Decidable.not_not.mp z2, by have : ¬ nT = 6 := fun y => z3 (q4.mpr y); omega⟩ c
/-! a tour -/
theorem tourJ {a1 a2 a3 a4 : Int32} (jr : JR nS nT nU nG T h S) (p3 : 1 ≤ a3.toInt ∧ a3.toInt ≤ 200) (p4 : 0 ≤ a4.toInt ∧ a4.toInt ≤ 7) (p5 : nU < 8) : JR nS nT (nU + 1) nG T (wI (wP (wI (wI (wI (wI (nw h 10) 10 nU 0 a1) 10 nU 1 a2) 10 nU 2 a3) 10 nU 3 a4) 22 0 nU (some (10, nU))) 11 0 5 (nJ (nU + 1))) (us (us (us (us (us S 136 nU a1) 137 nU a2) 138 nU a3) 139 nU a4) 12 35 (nJ (nU + 1))) := by
  have b := jr.bd
  have w := b.wm
  obtain ⟨c6, c8, c10, c2⟩ := jr.cel
  have H : OldH nS nT nU nG h (wI (wP (wI (wI (wI (wI (nw h 10) 10 nU 0 a1) 10 nU 1 a2) 10 nU 2 a3) 10 nU 3 a4) 22 0 nU (some (10, nU))) 11 0 5 (nJ (nU + 1))) := by
    refine ⟨fun g s hg => by simp [gI_wI, gI_wP, gI_wL, gP_wI, gP_wP, gP_wL, gC_wI, gC_wP, gC_wL, gI_nw, gP_nw, gC_nw], fun x s hx => by simp [gI_wI, gI_wP, gI_wL, gP_wI, gP_wP, gP_wL, gC_wI, gC_wP, gC_wL, gI_nw, gP_nw, gC_nw], fun t s ht => by simp [gI_wI, gI_wP, gI_wL, gP_wI, gP_wP, gP_wL, gC_wI, gC_wP, gC_wL, gI_nw, gP_nw, gC_nw], fun u s hu => ?_, fun s hs => ?_, fun s hs => by simp [gI_wI, gI_wP, gI_wL, gP_wI, gP_wP, gP_wL, gC_wI, gC_wP, gC_wL, gI_nw, gP_nw, gC_nw], fun s hs => by simp [gI_wI, gI_wP, gI_wL, gP_wI, gP_wP, gP_wL, gC_wI, gC_wP, gC_wL, gI_nw, gP_nw, gC_nw], fun s hs => ?_, fun s hs => by simp [gI_wI, gI_wP, gI_wL, gP_wI, gP_wP, gP_wL, gC_wI, gC_wP, gC_wL, gI_nw, gP_nw, gC_nw], fun s => by simp [gI_wI, gI_wP, gI_wL, gP_wI, gP_wP, gP_wL, gC_wI, gC_wP, gC_wL, gI_nw, gP_nw, gC_nw]⟩
    · have : u ≠ nU := by omega
      simp [gI_wI, gI_wP, gI_wL, gP_wI, gP_wP, gP_wL, gC_wI, gC_wP, gC_wL, gI_nw, gP_nw, gC_nw, c10, this]
    · have : s ≠ 5 := by omega
      simp [gI_wI, gI_wP, gI_wL, gP_wI, gP_wP, gP_wL, gC_wI, gC_wP, gC_wL, gI_nw, gP_nw, gC_nw, this]
    · have : s ≠ nU := by omega
      simp [gI_wI, gI_wP, gI_wL, gP_wI, gP_wP, gP_wL, gC_wI, gC_wP, gC_wL, gI_nw, gP_nw, gC_nw, this]
  have K : OldS nS nT nU nG S (us (us (us (us (us S 136 nU a1) 137 nU a2) 138 nU a3) 139 nU a4) 12 35 (nJ (nU + 1))) := ((((OldS.refl.us (by omega) (by omega) (by omega) (by omega) (by omega)).us (by omega) (by omega) (by omega) (by omega) (by omega)).us (by omega) (by omega) (by omega) (by omega) (by omega)).us (by omega) (by omega) (by omega) (by omega) (by omega)).us (by omega) (by omega) (by omega) (by omega) (by omega)
  have o : ∀ k i, (k < 136 ∨ 139 < k) → ¬ (k = 12 ∧ i = 35) → us (us (us (us (us S 136 nU a1) 137 nU a2) 138 nU a3) 139 nU a4) 12 35 (nJ (nU + 1)) k i = S k i := fun k i h1 h4 => by
    rw [us_app, if_neg h4, us_app, if_neg (by omega), us_app, if_neg (by omega), us_app, if_neg (by omega), us_app, if_neg (by omega)]
  obtain ⟨g1, g2, g3, g4, g5, g6⟩ := b.oldG H K
  obtain ⟨t1, t2, t3, t4, t5⟩ := b.oldT H K
  have f : Fr xo h (wI (wP (wI (wI (wI (wI (nw h 10) 10 nU 0 a1) 10 nU 1 a2) 10 nU 2 a3) 10 nU 3 a4) 22 0 nU (some (10, nU))) 11 0 5 (nJ (nU + 1))) := ((((((Fr.refl h).nw rfl).wI rfl).wI rfl).wI rfl).wI rfl).wP rfl |>.wI rfl
  have O : SO S (us (us (us (us (us S 136 nU a1) 137 nU a2) 138 nU a3) 139 nU a4) 12 35 (nJ (nU + 1))) := ((((SO.refl.us rfl).us rfl).us rfl).us rfl).us rfl
  obtain ⟨o1, o2, o3, o4⟩ := jr.oth f O (Nat.le_succ nU)
  refine ⟨⟨w.old K (by omega) (by omega) (by rw [o 12 26 (by omega) (by omega)]; exact w.1.cS) (by rw [o 12 30 (by omega) (by omega)]; exact w.1.cT) ⟨by simp [us_app], by omega⟩ (by rw [o 12 41 (by omega) (by omega)]; exact w.1.cG) (by rw [o 12 57 (by omega) (by omega)]; exact w.1.shuts) (by rw [o 12 25 (by omega) (by omega)]; exact w.1.town) (fun t h1 h2 => by omega) (fun g h1 h2 => by omega), ⟨?_, g1, g2, fun u hu => ?_, g4, ?_⟩, g5, fun g hg => ?_, t1, t2, t3, fun u hu => ?_, t5⟩, ?_, ?_, ?_, o1, o2, o3, o4, ?_, ?_⟩
  · obtain ⟨s1, s2, s3, s4, s5⟩ := b.st.1
    refine ⟨?_, ?_, by simp [gI_wI, gI_wP, gI_wL, gP_wI, gP_wP, gP_wL, gC_wI, gC_wP, gC_wL, gI_nw, gP_nw, gC_nw], ?_, ?_⟩
    · simp [gI_wI, gI_wP, gI_wL, gP_wI, gP_wP, gP_wL, gC_wI, gC_wP, gC_wL, gI_nw, gP_nw, gC_nw]; exact s1
    · simp [gI_wI, gI_wP, gI_wL, gP_wI, gP_wP, gP_wL, gC_wI, gC_wP, gC_wL, gI_nw, gP_nw, gC_nw]; exact s2
    · simp [gI_wI, gI_wP, gI_wL, gP_wI, gP_wP, gP_wL, gC_wI, gC_wP, gC_wL, gI_nw, gP_nw, gC_nw]; exact s4
    · rw [o 12 25 (by omega) (by omega)]; simp [gI_wI, gI_wP, gI_wL, gP_wI, gP_wP, gP_wL, gC_wI, gC_wP, gC_wL, gI_nw, gP_nw, gC_nw]; exact s5
  · by_cases c : u = nU
    · subst c
      unfold RUs
      simp [gI_wI, gI_wP, gI_wL, gP_wI, gP_wP, gP_wL, gC_wI, gC_wP, gC_wL, gI_nw, gP_nw, gC_nw, us_app]
    · exact g3 u (by omega)
  · exact b.st.rk.old (fun j hj => by simp [gI_wI, gI_wP, gI_wL, gP_wI, gP_wP, gP_wL, gC_wI, gC_wP, gC_wL, gI_nw, gP_nw, gC_nw]) (fun g hg => o 144 g (by omega) (by omega))
  · obtain ⟨d1, d2, d3, d4, d5, d6, d7, d8, d9, d10⟩ := g6 g hg
    refine ⟨d1, d2, d3, d4, d5, d6, fun z1 z2 => ?_, d8, d9, d10⟩
    obtain ⟨x1, x2, x3, x4⟩ := d7 z1 z2
    refine ⟨x1, x2, x3, fun _ => x4 ?_⟩
    rw [o 146 g (by omega) (by omega)] at x2 ⊢
    rcases w.1.tourOf g hg with e | ⟨u, hu, e⟩
    · exact absurd e x2
    · rw [e, tN_nJ (by omega)]; exact hu
  · by_cases c : u = nU
    · subst c
      rw [o 140 u (by omega) (by omega), jr.zer.2 u (by omega) p5]
      simp [gI_wI, gI_wP, gI_wL, gP_wI, gP_wP, gP_wL, gC_wI, gC_wP, gC_wL, gI_nw, gP_nw, gC_nw, c10]
    · exact t4 u (by omega)
  · have := jr.2.1
    unfold NB at this ⊢
    rw [o 12 24 (by omega) (by omega)]
    refine ⟨this.1, fun g hg => ?_⟩
    rw [o 147 g (by omega) (by omega)]; exact this.2 g hg
  · intro s hs
    rw [o 12 24 (by omega) (by omega), H.2.1 s 4 (by omega), K.1 128 s (by omega) (by omega) (by omega)]
    exact jr.sai s (by omega)
  · unfold CelR
    simp [gI_wI, gI_wP, gI_wL, gP_wI, gP_wP, gP_wL, gC_wI, gC_wP, gC_wL, gI_nw, gP_nw, gC_nw, c6, c8, c10, c2]
  · intro u hu
    by_cases c : u = nU
    · subst c
      simp [us_app]; exact ⟨p3, p4⟩
    · rw [K.2.2.1 138 u (by omega) (by omega) (by omega), K.2.2.1 139 u (by omega) (by omega) (by omega)]
      exact jr.tou u (by omega)
  · refine ⟨fun g h1 h2 => ?_, fun u h1 h2 => ?_⟩
    · rw [o 153 g (by omega) (by omega)]; exact jr.zer.1 g h1 h2
    · rw [o 140 u (by omega) (by omega)]; exact jr.zer.2 u (by omega) h2
theorem jTour {a1 a2 a3 a4 : Int32} (j : J h) : wp_X11_tour a1 a2 a3 a4 h fun rx h1 => wp_X12_tour a1 a2 a3 a4 h1 fun rm h2 => rm = rx ∧ J h2 := by
  refine JJ j fun nS nT nU nG T S jr => ?_
  have b := jr.bd
  have e3 : gI h 11 0 5 = nJ nU := b.st.1.2.2.1
  have e14 : gI h 11 0 14 = S 12 24 := b.rcd.1
  obtain ⟨c30, hT⟩ := b.wm.1.cU
  have c8 : gC h 10 = nU := jr.cel.2.2.1
  have l4 : nJ nU < 8 ↔ nU < 8 := nJ_lt (a := nU) (b := 8) (by omega) (by omega)
  have q4 : nJ nU = 8 ↔ nU = 8 := nJ_eq (a := nU) (b := 8) (by omega) (by omega)
  by_cases c : ((1 : Int32) ≤ a1 ∧ a1 ≤ 719) ∧ ((1 : Int32) ≤ a2 ∧ a2 ≤ 300) ∧ ((1 : Int32) ≤ a3 ∧ a3 ≤ 200) ∧ ((0 : Int32) ≤ a4 ∧ a4 ≤ 7) ∧ ¬ a1 ≤ S 12 24 ∧ nU < 8
  · obtain ⟨p1, p2, p3, p4, p6, p5⟩ := c
    have v4 : vp_in (nJ nU) 8 := (vp_nJ (by omega)).mpr p5
    have t4 : tN (nJ nU) = nU := tN_nJ (by omega)
    have b3 := i32b (x := 1) (y := 200) (by omega) (by omega) p3
    have b4 := i32b (x := 0) (y := 7) (by omega) (by omega) p4
    refine ⟨nS, nT, nU + 1, nG, us (us (us (us (us S 136 nU a1) 137 nU a2) 138 nU a3) 139 nU a4) 12 35 (nJ (nU + 1)), nJ nU, fun Q kk => ?_, fun h1 hv t w Q kk => ?_⟩
    · have kk := kk _ (tourJ (a1 := a1) (a2 := a2) jr b3 b4 p5) (((((((Fr.refl h).nw rfl).wI rfl).wI rfl).wI rfl).wI rfl).wP rfl |>.wI rfl)
      have l5 := l4.mpr p5
      simp only [w_X11_tour_22, w_X11_tour_46, w_X11_tour_65, w_X11_tour_87, w_X11_tour_78, w_X11_tour_67, w_X11_tour_56, w_X11_tour_48, w_X11_tour_43, w_X11_tour_35, w_X11_tour_32, w_X11_tour_24, w_X11_tour_19, w_X11_tour_11, w_X11_tour_8, w_X11_tour_0, wp_X11_tour, w_X10_init_0, wp_X10_init, xwithin, e3, e14, c8, bI_c p1, bI_c p2, bI_c p3, bI_c p4, p6, l5]
      simpa [gI_wI, gI_wP, gI_wL, gP_wI, gP_wP, gP_wL, gC_wI, gC_wP, gC_wL, gI_nw, gP_nw, gC_nw, e3, t4, nJ_succ, nJ_pred, v4] using kk
    · have q5 : ¬ nJ nU = 8 := fun z => by have := q4.mp z; omega
      simp only [w_X12_tour_66, w_X12_tour_108, w_X12_tour_97, w_X12_tour_87, w_X12_tour_68, w_X12_tour_57, w_X12_tour_54, w_X12_tour_46, w_X12_tour_43, w_X12_tour_35, w_X12_tour_32, w_X12_tour_24, w_X12_tour_16, w_X12_tour_13, w_X12_tour_0, wp_X12_tour, mwithin, gv_12_35, gv_12_24, gv_101, vw_101, gv_127, vw_127, gv_128, vw_128, gv_129, vw_129, gv_131, vw_131, gv_132, vw_132, gv_133, vw_133, gv_134, vw_134, gv_136, vw_136, gv_137, vw_137, gv_138, vw_138, gv_139, vw_139, gv_140, vw_140, gv_142, vw_142, gv_143, vw_143, gv_144, vw_144, gv_145, vw_145, gv_146, vw_146, gv_147, vw_147, gv_148, vw_148, gv_149, vw_149, gv_150, vw_150, gv_151, vw_151, gv_152, vw_152, gv_153, vw_153, gv_154, vw_154, gv_158, vw_158, gv_159, vw_159, gv_162, vw_162, gv_164, vw_164, gv_12_2, vw_12_2, gv_12_24, vw_12_24, gv_12_25, vw_12_25, gv_12_26, vw_12_26, gv_12_30, vw_12_30, gv_12_35, vw_12_35, gv_12_41, vw_12_41, gv_12_55, vw_12_55, gv_12_56, vw_12_56, gv_12_57, vw_12_57, gv_12_61, vw_12_61, gv_12_63, vw_12_63, vs_160, vs_165, vs_119, vs_120, vs_121, vs_122, vs_123, vs_12_0, hv, us_app, c30, bI_c p1, bI_c p2, bI_c p3, bI_c p4, p6, q5, t4, v4]
      simp only [Nat.reduceEqDiff, false_and, and_false, if_false, c30, t4, v4, nJ_succ, nJ_pred, and_self, if_true, true_and]
      refine ⟨fun z => absurd z (by decide), fun _ => ⟨fun z => z.elim, fun _ => ⟨fun z => absurd z (by decide), fun _ => ⟨fun z => absurd z (by decide), fun _ => ⟨fun z => absurd z (by decide), fun _ => ⟨fun _ => ?_, fun z => z.elim⟩⟩⟩⟩⟩⟩
      refine kk _ (by simp only [gv_101, vw_101, gv_127, vw_127, gv_128, vw_128, gv_129, vw_129, gv_131, vw_131, gv_132, vw_132, gv_133, vw_133, gv_134, vw_134, gv_136, vw_136, gv_137, vw_137, gv_138, vw_138, gv_139, vw_139, gv_140, vw_140, gv_142, vw_142, gv_143, vw_143, gv_144, vw_144, gv_145, vw_145, gv_146, vw_146, gv_147, vw_147, gv_148, vw_148, gv_149, vw_149, gv_150, vw_150, gv_151, vw_151, gv_152, vw_152, gv_153, vw_153, gv_154, vw_154, gv_158, vw_158, gv_159, vw_159, gv_162, vw_162, gv_164, vw_164, gv_12_2, vw_12_2, gv_12_24, vw_12_24, gv_12_25, vw_12_25, gv_12_26, vw_12_26, gv_12_30, vw_12_30, gv_12_35, vw_12_35, gv_12_41, vw_12_41, gv_12_55, vw_12_55, gv_12_56, vw_12_56, gv_12_57, vw_12_57, gv_12_61, vw_12_61, gv_12_63, vw_12_63, vs_160, vs_165, vs_119, vs_120, vs_121, vs_122, vs_123, vs_12_0, hv]) ?_
      exact ((((((Fq.t0 h1).w rfl (by omega) (by omega) (by omega) (by omega) (by omega) (by omega)).w rfl (by omega) (by omega) (by omega) (by omega) (by omega) (by omega)).w rfl (by omega) (by omega) (by omega) (by omega) (by omega) (by omega)).w rfl (by omega) (by omega) (by omega) (by omega) (by omega) (by omega)).w rfl (by omega) (by omega) (by omega) (by omega) (by omega) (by omega))
  · refine ⟨nS, nT, nU, nG, S, -1, fun Q kk => ?_, fun h1 hv t w Q kk => ?_⟩
    · have kk := kk h jr (Fr.refl h)
      simp only [w_X11_tour_22, w_X11_tour_46, w_X11_tour_65, w_X11_tour_87, w_X11_tour_78, w_X11_tour_67, w_X11_tour_56, w_X11_tour_48, w_X11_tour_43, w_X11_tour_35, w_X11_tour_32, w_X11_tour_24, w_X11_tour_19, w_X11_tour_11, w_X11_tour_8, w_X11_tour_0, wp_X11_tour, w_X10_init_0, wp_X10_init, xwithin, e3, e14, bI_0]
      refine ⟨fun _ => kk, fun z1 => ⟨fun z2 => ⟨fun _ => kk, fun z3 => ⟨fun z4 => ⟨fun _ => kk, fun z5 => ⟨fun z6 => ?_, fun _ => kk⟩⟩, fun _ => kk⟩⟩, fun _ => kk⟩⟩
      exact absurd ⟨Decidable.not_not.mp z1, Decidable.not_not.mp z2, Decidable.not_not.mp z3, Decidable.not_not.mp z4, z5, l4.mp z6⟩ c
    · have kk := kk _ (by rw [vs_12_0, hv]) (Fq.t0 h1)
      simp only [w_X12_tour_66, w_X12_tour_108, w_X12_tour_97, w_X12_tour_87, w_X12_tour_68, w_X12_tour_57, w_X12_tour_54, w_X12_tour_46, w_X12_tour_43, w_X12_tour_35, w_X12_tour_32, w_X12_tour_24, w_X12_tour_16, w_X12_tour_13, w_X12_tour_0, wp_X12_tour, mwithin, gv_12_35, gv_12_24, vs_12_0, hv, c30, bI_0]
      refine ⟨fun _ => kk, fun z1 => ⟨fun _ => kk, fun z2 => ⟨fun _ => kk, fun z3 => ⟨fun _ => kk, fun z4 => ⟨fun _ => kk, fun z5 => ⟨fun z6 => ?_, fun _ => kk⟩⟩⟩⟩⟩⟩
      exact absurd ⟨Decidable.not_not.mp z1, Decidable.not_not.mp z3, Decidable.not_not.mp z4, Decidable.not_not.mp z5, z2, by have : ¬ nU = 8 := fun y => z6 (q4.mpr y); omega⟩ c
/-! the town, the sea, a guide -/
theorem jHolds {a : Int32} (j : J h) : wp_X11_holds a h fun rx h1 => wp_X12_holds a h1 fun rm h2 => rm = rx ∧ J h2 := by
  refine JJ j fun nS nT nU nG T S jr => ?_
  have b := jr.bd
  by_cases c : (1 : Int32) ≤ a ∧ a ≤ 10000
  · have b1 := i32b (x := 1) (y := 10000) (by omega) (by omega) c
    refine ⟨nS, nT, nU, nG, us S 12 25 a, 1, fun Q kk => ?_, fun h1 hv t w Q kk => ?_⟩
    · simp only [w_X11_holds_13, w_X11_holds_11, w_X11_holds_8, w_X11_holds_0, wp_X11_holds, xwithin, bI_c c]
      refine ⟨fun _ => kk _ (jr.same (h' := wI h 11 0 15 a) (S' := us S 12 25 a) ?_ (OldS.refl.us (by omega) (by omega) (by omega) (by omega) (by omega)) rfl ?_ ?_ (fun _ => rfl) ?_ ?_ ?_ (fun g => by simp [us_app]) (fun u => by simp [us_app]) (jr.oth ((Fr.refl h).wI rfl) (SO.refl.us rfl) (Nat.le_refl nU))) ((Fr.refl h).wI rfl), fun z => absurd z (by decide)⟩
      · refine ⟨fun g s hg => by simp [gI_wI, gI_wP, gI_wL, gP_wI, gP_wP, gP_wL, gC_wI, gC_wP, gC_wL, gI_nw, gP_nw, gC_nw], fun x s hx => by simp [gI_wI, gI_wP, gI_wL, gP_wI, gP_wP, gP_wL, gC_wI, gC_wP, gC_wL, gI_nw, gP_nw, gC_nw], fun t s ht => by simp [gI_wI, gI_wP, gI_wL, gP_wI, gP_wP, gP_wL, gC_wI, gC_wP, gC_wL, gI_nw, gP_nw, gC_nw], fun u s hu => by simp [gI_wI, gI_wP, gI_wL, gP_wI, gP_wP, gP_wL, gC_wI, gC_wP, gC_wL, gI_nw, gP_nw, gC_nw], fun s hs => ?_, fun s hs => rfl, fun s hs => rfl, fun s hs => rfl, fun s hs => rfl, fun s => rfl⟩
        rw [gI_wI, if_neg (by omega)]
      · intro s hs; rw [gI_wI, if_neg (by omega)]
      · simp [gI_wI, us_app]
      · intro s hs; rw [us_app, if_neg (by omega)]
      · simp [us_app]; exact b.wm.1.shuts
      · simp [us_app]; omega
    · simp only [w_X12_holds_18, w_X12_holds_16, w_X12_holds_13, w_X12_holds_0, wp_X12_holds, mwithin, bI_c c]
      exact ⟨fun _ => kk _ (by simp only [gv_101, vw_101, gv_127, vw_127, gv_128, vw_128, gv_129, vw_129, gv_131, vw_131, gv_132, vw_132, gv_133, vw_133, gv_134, vw_134, gv_136, vw_136, gv_137, vw_137, gv_138, vw_138, gv_139, vw_139, gv_140, vw_140, gv_142, vw_142, gv_143, vw_143, gv_144, vw_144, gv_145, vw_145, gv_146, vw_146, gv_147, vw_147, gv_148, vw_148, gv_149, vw_149, gv_150, vw_150, gv_151, vw_151, gv_152, vw_152, gv_153, vw_153, gv_154, vw_154, gv_158, vw_158, gv_159, vw_159, gv_162, vw_162, gv_164, vw_164, gv_12_2, vw_12_2, gv_12_24, vw_12_24, gv_12_25, vw_12_25, gv_12_26, vw_12_26, gv_12_30, vw_12_30, gv_12_35, vw_12_35, gv_12_41, vw_12_41, gv_12_55, vw_12_55, gv_12_56, vw_12_56, gv_12_57, vw_12_57, gv_12_61, vw_12_61, gv_12_63, vw_12_63, vs_160, vs_165, vs_119, vs_120, vs_121, vs_122, vs_123, vs_12_0, hv]) ((Fq.t0 h1).w rfl (by omega) (by omega) (by omega) (by omega) (by omega) (by omega)), fun z => absurd z (by decide)⟩
  · refine ⟨nS, nT, nU, nG, S, 0, fun Q kk => ?_, fun h1 hv t w Q kk => ?_⟩
    · simp only [w_X11_holds_13, w_X11_holds_11, w_X11_holds_8, w_X11_holds_0, wp_X11_holds, xwithin, bI_n c]
      exact ⟨fun z => absurd trivial z, fun _ => kk h jr (Fr.refl h)⟩
    · simp only [w_X12_holds_18, w_X12_holds_16, w_X12_holds_13, w_X12_holds_0, wp_X12_holds, mwithin, bI_n c]
      exact ⟨fun z => absurd trivial z, fun _ => kk _ (by rw [vs_12_0, hv]) (Fq.t0 h1)⟩
theorem jShut {a1 a2 : Int32} (j : J h) : wp_X11_shut a1 a2 h fun rx h1 => wp_X12_shut a1 a2 h1 fun rm h2 => rm = rx ∧ J h2 := by
  refine JJ j fun nS nT nU nG T S jr => ?_
  have b := jr.bd
  obtain ⟨r, hr, h10⟩ := b.wm.1.shuts
  have sr := jr.2.2.2.2.1
  have e2 : gI h 5 0 2 = nJ r := sr.1.trans hr
  have l4 : nJ r < 10 ↔ r < 10 := nJ_lt (a := r) (b := 10) (by omega) (by omega)
  have q4 : nJ r = 10 ↔ r = 10 := nJ_eq (a := r) (b := 10) (by omega) (by omega)
  by_cases c : ¬ a1 < (1 : Int32) ∧ ¬ a2 < a1 ∧ a2 ≤ (719 : Int32) ∧ r < 10
  · obtain ⟨p1, p2, p3, p4⟩ := c
    have v4 : vp_in (nJ r) 10 := (vp_nJ (by omega)).mpr p4
    have t4 : tN (nJ r) = r := tN_nJ (by omega)
    have l5 := l4.mpr p4
    refine ⟨nS, nT, nU, nG, us (us (us S 158 r a1) 159 r a2) 12 57 (nJ (r + 1)), 1, fun Q kk => ?_, fun h1 hv t w Q kk => ?_⟩
    · have : JR nS nT nU nG T (wI (wI (wI h 26 0 r a1) 27 0 r a2) 5 0 2 (nJ (r + 1))) (us (us (us S 158 r a1) 159 r a2) 12 57 (nJ (r + 1))) := by
        refine jr.same (h' := wI (wI (wI h 26 0 r a1) 27 0 r a2) 5 0 2 (nJ (r + 1))) (S' := us (us (us S 158 r a1) 159 r a2) 12 57 (nJ (r + 1))) ?_ (((OldS.refl.us (by omega) (by omega) (by omega) (by omega) (by omega)).us (by omega) (by omega) (by omega) (by omega) (by omega)).us (by omega) (by omega) (by omega) (by omega) (by omega)) rfl ?_ ?_ (fun _ => rfl) ?_ ?_ ?_ (fun g => by simp [us_app]) (fun u => by simp [us_app]) ?_
        · exact ⟨fun g s hg => by simp [gI_wI, gI_wP, gI_wL, gP_wI, gP_wP, gP_wL, gC_wI, gC_wP, gC_wL, gI_nw, gP_nw, gC_nw], fun x s hx => by simp [gI_wI, gI_wP, gI_wL, gP_wI, gP_wP, gP_wL, gC_wI, gC_wP, gC_wL, gI_nw, gP_nw, gC_nw], fun t s ht => by simp [gI_wI, gI_wP, gI_wL, gP_wI, gP_wP, gP_wL, gC_wI, gC_wP, gC_wL, gI_nw, gP_nw, gC_nw], fun u s hu => by simp [gI_wI, gI_wP, gI_wL, gP_wI, gP_wP, gP_wL, gC_wI, gC_wP, gC_wL, gI_nw, gP_nw, gC_nw], fun s hs => by simp [gI_wI, gI_wP, gI_wL, gP_wI, gP_wP, gP_wL, gC_wI, gC_wP, gC_wL, gI_nw, gP_nw, gC_nw], fun s hs => rfl, fun s hs => rfl, fun s hs => rfl, fun s hs => rfl, fun s => rfl⟩
        · intro s hs; simp [gI_wI, gI_wP, gI_wL, gP_wI, gP_wP, gP_wL, gC_wI, gC_wP, gC_wL, gI_nw, gP_nw, gC_nw]
        · simp [gI_wI, gI_wP, gI_wL, gP_wI, gP_wP, gP_wL, gC_wI, gC_wP, gC_wL, gI_nw, gP_nw, gC_nw, us_app]; exact b.st.1.2.2.2.2
        · intro s hs; rw [us_app, if_neg (by omega), us_app, if_neg (by omega), us_app, if_neg (by omega)]
        · exact ⟨r + 1, by simp [us_app], by omega⟩
        · simp [us_app]; exact b.wm.1.town
        · obtain ⟨j1, j2, j3, j4, j5, j6, j7, j8, j9, j10⟩ := jr
          refine ⟨⟨by simp [gI_wI, gI_wP, gI_wL, gP_wI, gP_wP, gP_wL, gC_wI, gC_wP, gC_wL, gI_nw, gP_nw, gC_nw, us_app], fun i r' hr' h1 hi => ?_⟩, ?_, ?_, ?_, ?_⟩
          · have : us (us (us S 158 r a1) 159 r a2) 12 57 (nJ (r + 1)) 12 57 = nJ (r + 1) := by simp [us_app]
            rw [this, nJ_eq (by omega) (by omega)] at hr'
            by_cases c : i = r
            · simp [gI_wI, gI_wP, gI_wL, gP_wI, gP_wP, gP_wL, gC_wI, gC_wP, gC_wL, gI_nw, gP_nw, gC_nw, us_app, c]
            · simp [gI_wI, gI_wP, gI_wL, gP_wI, gP_wP, gP_wL, gC_wI, gC_wP, gC_wL, gI_nw, gP_nw, gC_nw, us_app, c]
              exact j5.2 i r hr h10 (by omega)
          · obtain ⟨k, pm, g1, g2, g3, g4, g5, g6, g7, g8⟩ := j6
            refine ⟨k, pm, by simp [gI_wI, gI_wP, gI_wL, gP_wI, gP_wP, gP_wL, gC_wI, gC_wP, gC_wL, gI_nw, gP_nw, gC_nw]; exact g1, by simp [us_app]; exact g2, g3, fun i hi => by simp [gI_wI, gI_wP, gI_wL, gP_wI, gP_wP, gP_wL, gC_wI, gC_wP, gC_wL, gI_nw, gP_nw, gC_nw, us_app]; exact g4 i hi, by simp [us_app]; exact g5, g6, fun t ht => by simp [gI_wI, gI_wP, gI_wL, gP_wI, gP_wP, gP_wL, gC_wI, gC_wP, gC_wL, gI_nw, gP_nw, gC_nw, us_app]; exact g7 t ht, fun q h1 h2 => by simp [gI_wI, gI_wP, gI_wL, gP_wI, gP_wP, gP_wL, gC_wI, gC_wP, gC_wL, gI_nw, gP_nw, gC_nw]; exact g8 q h1 h2⟩
          · obtain ⟨n, t1, t2, t3, t4⟩ := j7
            exact ⟨n, by simp [gI_wI, gI_wP, gI_wL, gP_wI, gP_wP, gP_wL, gC_wI, gC_wP, gC_wL, gI_nw, gP_nw, gC_nw]; exact t1, by simp [us_app]; exact t2, t3, fun i hi => by simp [gI_wI, gI_wP, gI_wL, gP_wI, gP_wP, gP_wL, gC_wI, gC_wP, gC_wL, gI_nw, gP_nw, gC_nw, us_app]; exact t4 i hi⟩
          · have ff : Fr (fun k => !(k == 26 || (k == 27 || k == 5))) h (wI (wI (wI h 26 0 r a1) 27 0 r a2) 5 0 2 (nJ (r + 1))) := (((Fr.refl h).wI rfl).wI rfl).wI rfl
            obtain ⟨x, e1, e2, e3, e4, e5⟩ := j8.1
            refine ⟨x, e1, e2, by simp [gI_wI, gI_wP, gI_wL, gP_wI, gP_wP, gP_wL, gC_wI, gC_wP, gC_wL, gI_nw, gP_nw, gC_nw]; exact e3, e4, fun l y hy => ?_⟩
            obtain ⟨a1, a2, s, a3, a4, a5, a6, a7⟩ := e5 l y hy
            exact ⟨by rw [(ff 31 rfl).2.1]; exact a1, a2, s, a3, fun z => by rw [(ff 29 rfl).2.1]; exact a4 z, by rw [(ff 29 rfl).2.1]; exact a5, a6, CodAt.fr (ff 28 rfl).2.1 a7⟩
          · exact j8.2
      have kk := kk _ this ((((Fr.refl h).wI rfl).wI rfl).wI rfl)
      simp only [w_X11_shut_17, w_X11_shut_28, w_X11_shut_19, w_X11_shut_10, w_X11_shut_5, w_X11_shut_0, wp_X11_shut, w_X5_addRow_30, w_X5_addRow_11, w_X5_addRow_9, w_X5_addRow_0, wp_X5_addRow, e2, l5, p1, p2, p3]
      simpa [gI_wI, gI_wP, gI_wL, gP_wI, gP_wP, gP_wL, gC_wI, gC_wP, gC_wL, gI_nw, gP_nw, gC_nw, e2, t4, nJ_succ, v4] using kk
    · have q5 : ¬ nJ r = 10 := fun z => by have := q4.mp z; omega
      simp only [w_X12_shut_31, w_X12_shut_52, w_X12_shut_33, w_X12_shut_22, w_X12_shut_15, w_X12_shut_10, w_X12_shut_0, wp_X12_shut, gv_12_57, gv_101, vw_101, gv_127, vw_127, gv_128, vw_128, gv_129, vw_129, gv_131, vw_131, gv_132, vw_132, gv_133, vw_133, gv_134, vw_134, gv_136, vw_136, gv_137, vw_137, gv_138, vw_138, gv_139, vw_139, gv_140, vw_140, gv_142, vw_142, gv_143, vw_143, gv_144, vw_144, gv_145, vw_145, gv_146, vw_146, gv_147, vw_147, gv_148, vw_148, gv_149, vw_149, gv_150, vw_150, gv_151, vw_151, gv_152, vw_152, gv_153, vw_153, gv_154, vw_154, gv_158, vw_158, gv_159, vw_159, gv_162, vw_162, gv_164, vw_164, gv_12_2, vw_12_2, gv_12_24, vw_12_24, gv_12_25, vw_12_25, gv_12_26, vw_12_26, gv_12_30, vw_12_30, gv_12_35, vw_12_35, gv_12_41, vw_12_41, gv_12_55, vw_12_55, gv_12_56, vw_12_56, gv_12_57, vw_12_57, gv_12_61, vw_12_61, gv_12_63, vw_12_63, vs_160, vs_165, vs_119, vs_120, vs_121, vs_122, vs_123, vs_12_0, hv, us_app, hr, q5, t4, v4]
      simp only [Nat.reduceEqDiff, false_and, and_false, if_false, hr, t4, v4, nJ_succ, and_self, if_true, true_and]
      refine ⟨fun z => absurd z p1, fun _ => ⟨fun z => absurd z p2, fun _ => ⟨fun z => absurd p3 (Int32.not_le.mpr z), fun _ => ⟨fun _ => ?_, fun z => z.elim⟩⟩⟩⟩
      refine kk _ (by simp only [gv_101, vw_101, gv_127, vw_127, gv_128, vw_128, gv_129, vw_129, gv_131, vw_131, gv_132, vw_132, gv_133, vw_133, gv_134, vw_134, gv_136, vw_136, gv_137, vw_137, gv_138, vw_138, gv_139, vw_139, gv_140, vw_140, gv_142, vw_142, gv_143, vw_143, gv_144, vw_144, gv_145, vw_145, gv_146, vw_146, gv_147, vw_147, gv_148, vw_148, gv_149, vw_149, gv_150, vw_150, gv_151, vw_151, gv_152, vw_152, gv_153, vw_153, gv_154, vw_154, gv_158, vw_158, gv_159, vw_159, gv_162, vw_162, gv_164, vw_164, gv_12_2, vw_12_2, gv_12_24, vw_12_24, gv_12_25, vw_12_25, gv_12_26, vw_12_26, gv_12_30, vw_12_30, gv_12_35, vw_12_35, gv_12_41, vw_12_41, gv_12_55, vw_12_55, gv_12_56, vw_12_56, gv_12_57, vw_12_57, gv_12_61, vw_12_61, gv_12_63, vw_12_63, vs_160, vs_165, vs_119, vs_120, vs_121, vs_122, vs_123, vs_12_0, hv]) ?_
      exact ((((Fq.t0 h1).w rfl (by omega) (by omega) (by omega) (by omega) (by omega) (by omega)).w rfl (by omega) (by omega) (by omega) (by omega) (by omega) (by omega)).w rfl (by omega) (by omega) (by omega) (by omega) (by omega) (by omega))
  · refine ⟨nS, nT, nU, nG, S, 0, fun Q kk => ?_, fun h1 hv t w Q kk => ?_⟩
    · have kk := kk h jr (Fr.refl h)
      simp only [w_X11_shut_17, w_X11_shut_28, w_X11_shut_19, w_X11_shut_10, w_X11_shut_5, w_X11_shut_0, wp_X11_shut, w_X5_addRow_30, w_X5_addRow_11, w_X5_addRow_9, w_X5_addRow_0, wp_X5_addRow, e2]
      refine ⟨fun _ => kk, fun z1 => ⟨fun _ => kk, fun z2 => ⟨fun z3 => ⟨fun z4 => ?_, fun _ => ⟨Or.inl trivial, kk⟩⟩, fun _ => kk⟩⟩⟩
      exact absurd ⟨z1, z2, z3, l4.mp z4⟩ c
    · have kk := kk _ (by rw [vs_12_0, hv]) (Fq.t0 h1)
      simp only [w_X12_shut_31, w_X12_shut_52, w_X12_shut_33, w_X12_shut_22, w_X12_shut_15, w_X12_shut_10, w_X12_shut_0, wp_X12_shut, gv_12_57, vs_12_0, hv, hr]
      refine ⟨fun _ => kk, fun z1 => ⟨fun _ => kk, fun z2 => ⟨fun _ => kk, fun z3 => ⟨fun z4 => ?_, fun _ => kk⟩⟩⟩⟩
      exact absurd ⟨z1, z2, Int32.not_lt.mp z3, by have : ¬ r = 10 := fun y => z4 (q4.mpr y); omega⟩ c
theorem jGuide {a1 : Int32} (j : J h) : wp_X11_guide a1 h fun rx h1 => wp_X12_guide a1 h1 fun rm h2 => rm = rx ∧ J h2 := by
  refine JJ j fun nS nT nU nG T S jr => ?_
  have b := jr.bd
  obtain ⟨k, pm, g1, g2, g3, g4, g5, g6, g7, g8⟩ := jr.2.2.2.2.2.1
  have l4 : nJ k < 6 ↔ k < 6 := nJ_lt (a := k) (b := 6) (by omega) (by omega)
  have q4 : nJ k = 6 ↔ k = 6 := nJ_eq (a := k) (b := 6) (by omega) (by omega)
  by_cases c : ((1 : Int32) ≤ a1 ∧ a1 ≤ 255) ∧ k < 6
  · obtain ⟨p1, p4⟩ := c
    have v4 : vp_in (nJ k) 6 := (vp_nJ (by omega)).mpr p4
    have t4 : tN (nJ k) = k := tN_nJ (by omega)
    have l5 := l4.mpr p4
    refine ⟨nS, nT, nU, nG, us (us S 162 k a1) 12 61 (nJ (k + 1)), nJ k, fun Q kk => ?_, fun h1 hv t w Q kk => ?_⟩
    · have : JR nS nT nU nG T (wI (wI h 36 0 k a1) 3 0 1 (nJ (k + 1))) (us (us S 162 k a1) 12 61 (nJ (k + 1))) := by
        refine jr.same (h' := wI (wI h 36 0 k a1) 3 0 1 (nJ (k + 1))) (S' := us (us S 162 k a1) 12 61 (nJ (k + 1))) ?_ ((OldS.refl.us (by omega) (by omega) (by omega) (by omega) (by omega)).us (by omega) (by omega) (by omega) (by omega) (by omega)) rfl ?_ ?_ (fun _ => rfl) ?_ ?_ ?_ (fun g => by simp [us_app]) (fun u => by simp [us_app]) ?_
        · exact ⟨fun g s hg => by simp [gI_wI, gI_wP, gI_wL, gP_wI, gP_wP, gP_wL, gC_wI, gC_wP, gC_wL, gI_nw, gP_nw, gC_nw], fun x s hx => by simp [gI_wI, gI_wP, gI_wL, gP_wI, gP_wP, gP_wL, gC_wI, gC_wP, gC_wL, gI_nw, gP_nw, gC_nw], fun t s ht => by simp [gI_wI, gI_wP, gI_wL, gP_wI, gP_wP, gP_wL, gC_wI, gC_wP, gC_wL, gI_nw, gP_nw, gC_nw], fun u s hu => by simp [gI_wI, gI_wP, gI_wL, gP_wI, gP_wP, gP_wL, gC_wI, gC_wP, gC_wL, gI_nw, gP_nw, gC_nw], fun s hs => by simp [gI_wI, gI_wP, gI_wL, gP_wI, gP_wP, gP_wL, gC_wI, gC_wP, gC_wL, gI_nw, gP_nw, gC_nw], fun s hs => rfl, fun s hs => rfl, fun s hs => rfl, fun s hs => rfl, fun s => rfl⟩
        · intro s hs; simp [gI_wI, gI_wP, gI_wL, gP_wI, gP_wP, gP_wL, gC_wI, gC_wP, gC_wL, gI_nw, gP_nw, gC_nw]
        · simp [gI_wI, gI_wP, gI_wL, gP_wI, gP_wP, gP_wL, gC_wI, gC_wP, gC_wL, gI_nw, gP_nw, gC_nw, us_app]; exact b.st.1.2.2.2.2
        · intro s hs; rw [us_app, if_neg (by omega), us_app, if_neg (by omega)]
        · simp [us_app]; exact b.wm.1.shuts
        · simp [us_app]; exact b.wm.1.town
        · obtain ⟨j1, j2, j3, j4, j5, j6, j7, j8, j9, j10⟩ := jr
          refine ⟨⟨by simp [gI_wI, gI_wP, gI_wL, gP_wI, gP_wP, gP_wL, gC_wI, gC_wP, gC_wL, gI_nw, gP_nw, gC_nw, us_app]; exact j5.1, fun i r' hr' h1 hi => ?_⟩, ?_, ?_, ?_, ?_⟩
          · simp [us_app] at hr'
            simp [gI_wI, gI_wP, gI_wL, gP_wI, gP_wP, gP_wL, gC_wI, gC_wP, gC_wL, gI_nw, gP_nw, gC_nw, us_app]
            exact j5.2 i r' hr' h1 hi
          · refine ⟨k + 1, pm, by simp [gI_wI, gI_wP, gI_wL, gP_wI, gP_wP, gP_wL, gC_wI, gC_wP, gC_wL, gI_nw, gP_nw, gC_nw], by simp [us_app], by omega, fun i hi => ?_, by simp [us_app]; exact g5, g6, fun t ht => by simp [gI_wI, gI_wP, gI_wL, gP_wI, gP_wP, gP_wL, gC_wI, gC_wP, gC_wL, gI_nw, gP_nw, gC_nw, us_app]; exact g7 t ht, fun q h1 h2 => by simp [gI_wI, gI_wP, gI_wL, gP_wI, gP_wP, gP_wL, gC_wI, gC_wP, gC_wL, gI_nw, gP_nw, gC_nw]; exact g8 q h1 h2⟩
            by_cases c : i = k
            · simp [gI_wI, gI_wP, gI_wL, gP_wI, gP_wP, gP_wL, gC_wI, gC_wP, gC_wL, gI_nw, gP_nw, gC_nw, us_app, c]
            · simp [gI_wI, gI_wP, gI_wL, gP_wI, gP_wP, gP_wL, gC_wI, gC_wP, gC_wL, gI_nw, gP_nw, gC_nw, us_app, c]; exact g4 i (by omega)
          · obtain ⟨n, t1, t2, t3, t4⟩ := j7
            exact ⟨n, by simp [gI_wI, gI_wP, gI_wL, gP_wI, gP_wP, gP_wL, gC_wI, gC_wP, gC_wL, gI_nw, gP_nw, gC_nw]; exact t1, by simp [us_app]; exact t2, t3, fun i hi => by simp [gI_wI, gI_wP, gI_wL, gP_wI, gP_wP, gP_wL, gC_wI, gC_wP, gC_wL, gI_nw, gP_nw, gC_nw, us_app]; exact t4 i hi⟩
          · have ff : Fr (fun k => !(k == 36 || k == 3)) h (wI (wI h 36 0 k a1) 3 0 1 (nJ (k + 1))) := ((Fr.refl h).wI rfl).wI rfl
            obtain ⟨x, e1, e2, e3, e4, e5⟩ := j8.1
            refine ⟨x, e1, e2, by simp [gI_wI, gI_wP, gI_wL, gP_wI, gP_wP, gP_wL, gC_wI, gC_wP, gC_wL, gI_nw, gP_nw, gC_nw]; exact e3, e4, fun l y hy => ?_⟩
            obtain ⟨a1, a2, s, a3, a4, a5, a6, a7⟩ := e5 l y hy
            exact ⟨by rw [(ff 31 rfl).2.1]; exact a1, a2, s, a3, fun z => by rw [(ff 29 rfl).2.1]; exact a4 z, by rw [(ff 29 rfl).2.1]; exact a5, a6, CodAt.fr (ff 28 rfl).2.1 a7⟩
          · exact j8.2
      have kk := kk _ this (((Fr.refl h).wI rfl).wI rfl)
      simp only [w_X11_guide_23, w_X11_guide_22, w_X11_guide_19, w_X11_guide_11, w_X11_guide_8, w_X11_guide_0, wp_X11_guide, w_X3_add_11, w_X3_add_9, w_X3_add_0, wp_X3_add, xwithin, bI_c p1, g1, l5]
      simpa [gI_wI, gI_wP, gI_wL, gP_wI, gP_wP, gP_wL, gC_wI, gC_wP, gC_wL, gI_nw, gP_nw, gC_nw, g1, t4, nJ_succ, nJ_pred, v4] using kk
    · have q5 : ¬ nJ k = 6 := fun z => by have := q4.mp z; omega
      simp only [w_X12_guide_26, w_X12_guide_28, w_X12_guide_17, w_X12_guide_10, w_X12_guide_0, wp_X12_guide, gv_12_61, gv_101, vw_101, gv_127, vw_127, gv_128, vw_128, gv_129, vw_129, gv_131, vw_131, gv_132, vw_132, gv_133, vw_133, gv_134, vw_134, gv_136, vw_136, gv_137, vw_137, gv_138, vw_138, gv_139, vw_139, gv_140, vw_140, gv_142, vw_142, gv_143, vw_143, gv_144, vw_144, gv_145, vw_145, gv_146, vw_146, gv_147, vw_147, gv_148, vw_148, gv_149, vw_149, gv_150, vw_150, gv_151, vw_151, gv_152, vw_152, gv_153, vw_153, gv_154, vw_154, gv_158, vw_158, gv_159, vw_159, gv_162, vw_162, gv_164, vw_164, gv_12_2, vw_12_2, gv_12_24, vw_12_24, gv_12_25, vw_12_25, gv_12_26, vw_12_26, gv_12_30, vw_12_30, gv_12_35, vw_12_35, gv_12_41, vw_12_41, gv_12_55, vw_12_55, gv_12_56, vw_12_56, gv_12_57, vw_12_57, gv_12_61, vw_12_61, gv_12_63, vw_12_63, vs_160, vs_165, vs_119, vs_120, vs_121, vs_122, vs_123, vs_12_0, hv, us_app, g2, q5, t4, v4]
      simp only [Nat.reduceEqDiff, false_and, and_false, if_false, g2, t4, v4, nJ_succ, nJ_pred, and_self, if_true, true_and]
      refine ⟨fun z => absurd p1.1 (Int32.not_le.mpr z), fun _ => ⟨fun z => absurd p1.2 (Int32.not_le.mpr z), fun _ => ⟨fun _ => ?_, fun z => z.elim⟩⟩⟩
      refine kk _ (by simp only [gv_101, vw_101, gv_127, vw_127, gv_128, vw_128, gv_129, vw_129, gv_131, vw_131, gv_132, vw_132, gv_133, vw_133, gv_134, vw_134, gv_136, vw_136, gv_137, vw_137, gv_138, vw_138, gv_139, vw_139, gv_140, vw_140, gv_142, vw_142, gv_143, vw_143, gv_144, vw_144, gv_145, vw_145, gv_146, vw_146, gv_147, vw_147, gv_148, vw_148, gv_149, vw_149, gv_150, vw_150, gv_151, vw_151, gv_152, vw_152, gv_153, vw_153, gv_154, vw_154, gv_158, vw_158, gv_159, vw_159, gv_162, vw_162, gv_164, vw_164, gv_12_2, vw_12_2, gv_12_24, vw_12_24, gv_12_25, vw_12_25, gv_12_26, vw_12_26, gv_12_30, vw_12_30, gv_12_35, vw_12_35, gv_12_41, vw_12_41, gv_12_55, vw_12_55, gv_12_56, vw_12_56, gv_12_57, vw_12_57, gv_12_61, vw_12_61, gv_12_63, vw_12_63, vs_160, vs_165, vs_119, vs_120, vs_121, vs_122, vs_123, vs_12_0, hv]) ?_
      exact (((Fq.t0 h1).w rfl (by omega) (by omega) (by omega) (by omega) (by omega) (by omega)).w rfl (by omega) (by omega) (by omega) (by omega) (by omega) (by omega))
  · refine ⟨nS, nT, nU, nG, S, -1, fun Q kk => ?_, fun h1 hv t w Q kk => ?_⟩
    · have kk := kk h jr (Fr.refl h)
      simp only [w_X11_guide_23, w_X11_guide_22, w_X11_guide_19, w_X11_guide_11, w_X11_guide_8, w_X11_guide_0, wp_X11_guide, w_X3_add_11, w_X3_add_9, w_X3_add_0, wp_X3_add, xwithin, bI_0, g1]
      refine ⟨fun _ => kk, fun z1 => ⟨fun z4 => ?_, fun _ => kk⟩⟩
      exact absurd ⟨Decidable.not_not.mp z1, l4.mp z4⟩ c
    · have kk := kk _ (by rw [vs_12_0, hv]) (Fq.t0 h1)
      simp only [w_X12_guide_26, w_X12_guide_28, w_X12_guide_17, w_X12_guide_10, w_X12_guide_0, wp_X12_guide, gv_12_61, vs_12_0, hv, g2]
      refine ⟨fun _ => kk, fun z1 => ⟨fun _ => kk, fun z2 => ⟨fun z4 => ?_, fun _ => kk⟩⟩⟩
      exact absurd ⟨⟨Int32.not_lt.mp z1, Int32.not_lt.mp z2⟩, by have : ¬ k = 6 := fun y => z4 (q4.mpr y); omega⟩ c
theorem jPlanned {a1 : Int32} (j : J h) : wp_X11_planned a1 h fun rx h1 => wp_X12_planned a1 h1 fun rm h2 => rm = rx ∧ J h2 := by
  refine JJ j fun nS nT nU nG T S jr => ?_
  have b := jr.bd
  have hU := b.wm.1.cU.2
  obtain ⟨k, pm, g1, g2, g3, g4, g5, g6, g7, g8⟩ := jr.2.2.2.2.2.1
  have e5 : gI h 11 0 5 = nJ nU := b.st.1.2.2.1
  by_cases c : ∃ m, m < pm ∧ a1 = nJ m
  · obtain ⟨m, hm, rfl⟩ := c
    have v8 : vp_in (nJ m) 8 := (vp_nJ (by omega)).mpr (by omega)
    refine ⟨nS, nT, nU, nG, S, S 164 m, fun Q kk => ?_, fun h1 hv t w Q kk => ?_⟩
    · have kk := kk h jr (Fr.refl h)
      have c2 : (0 : Int32) ≤ nJ m ∧ nJ m ≤ nJ nU - 1 := (rng (by omega)).mpr ⟨m, by omega, rfl⟩
      simp only [w_X11_planned_27, w_X11_planned_26, w_X11_planned_14, w_X11_planned_11, w_X11_planned_0, wp_X11_planned, xwithin, e5, bI_c c2, tN_nJ (n := m) (by omega), v8, true_and]
      refine ⟨fun z => absurd z (by decide), fun _ => ?_⟩
      rw [g7 m (by omega), if_pos hm]; exact kk
    · have kk := kk _ (by rw [vs_12_0, hv]) (Fq.t0 h1)
      simp only [w_X12_planned_27, w_X12_planned_17, w_X12_planned_21, w_X12_planned_9, w_X12_planned_0, wp_X12_planned, gv_12_63, gv_164, vs_12_0, hv, g5, tN_nJ (n := m) (by omega), v8, true_and]
      exact ⟨fun z => absurd z (nJ_ge0 (by omega)), fun _ => ⟨fun _ => kk, fun z => absurd ((nJ_lt (by omega) (by omega)).mpr hm) z⟩⟩
  · refine ⟨nS, nT, nU, nG, S, -1, fun Q kk => ?_, fun h1 hv t w Q kk => ?_⟩
    · have kk := kk h jr (Fr.refl h)
      simp only [w_X11_planned_27, w_X11_planned_26, w_X11_planned_14, w_X11_planned_11, w_X11_planned_0, wp_X11_planned, xwithin, e5, bI_0, rng (show nU < 1000000 by omega)]
      refine ⟨fun z => kk, fun z => ?_⟩
      obtain ⟨m, hm, rfl⟩ := Decidable.not_not.mp z
      refine ⟨(vp_nJ (by omega)).mpr (by omega), ?_⟩
      rw [tN_nJ (by omega), g7 m (by omega), if_neg (fun y => c ⟨m, y, rfl⟩)]; exact kk
    · have kk := kk _ (by rw [vs_12_0, hv]) (Fq.t0 h1)
      simp only [w_X12_planned_27, w_X12_planned_17, w_X12_planned_21, w_X12_planned_9, w_X12_planned_0, wp_X12_planned, gv_12_63, gv_164, vs_12_0, hv, g5]
      refine ⟨fun _ => kk, fun z => ⟨fun z2 => absurd ((rng2 (show pm < 1000000 by omega)).mp ⟨z, Int32.not_le.mpr z2⟩) c, fun _ => kk⟩⟩
end
