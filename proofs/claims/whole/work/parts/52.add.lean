/-! what is added to keeps what was -/
def OldH (nS nT nU nG : Nat) (h h' : Hp) : Prop := (∀ g s, g < nG → gI h' 2 g s = gI h 2 g s ∧ gP h' 2 g s = gP h 2 g s) ∧ (∀ x s, x < nS → gI h' 6 x s = gI h 6 x s) ∧ (∀ t s, t < nT → gI h' 8 t s = gI h 8 t s ∧ gP h' 8 t s = gP h 8 t s) ∧ (∀ u s, u < nU → gI h' 10 u s = gI h 10 u s) ∧ (∀ s, s = 10 ∨ s = 14 ∨ s = 16 ∨ s = 17 → gI h' 11 0 s = gI h 11 0 s)
  ∧ (∀ s, s < nS → gP h' 20 0 s = gP h 20 0 s) ∧ (∀ s, s < nT → gP h' 21 0 s = gP h 21 0 s) ∧ (∀ s, s < nU → gP h' 22 0 s = gP h 22 0 s) ∧ (∀ s, s < nG → gP h' 23 0 s = gP h 23 0 s) ∧ (∀ s, gP h' 25 0 s = gP h 25 0 s)
def OldS (nS nT nU nG : Nat) (S S' : MSt) : Prop := (∀ k s, s < nS → 127 ≤ k → k ≤ 129 → S' k s = S k s) ∧ (∀ k s, s < nT → 131 ≤ k → k ≤ 134 → S' k s = S k s) ∧ (∀ k s, s < nU → 136 ≤ k → k ≤ 140 → S' k s = S k s) ∧ (∀ k s, s < nG → 142 ≤ k → k ≤ 154 → S' k s = S k s) ∧ S' 12 24 = S 12 24 ∧ S' 12 55 = S 12 55 ∧ S' 12 56 = S 12 56
theorem OldS.refl {nS nT nU nG : Nat} {S : MSt} : OldS nS nT nU nG S S := ⟨fun _ _ _ _ _ => rfl, fun _ _ _ _ _ => rfl, fun _ _ _ _ _ => rfl, fun _ _ _ _ _ => rfl, rfl, rfl, rfl⟩
theorem OldS.us {nS nT nU nG : Nat} {S S' : MSt} (o : OldS nS nT nU nG S S') {k i : Nat} {v : Int32} (h1 : ¬ (127 ≤ k ∧ k ≤ 129 ∧ i < nS)) (h2 : ¬ (131 ≤ k ∧ k ≤ 134 ∧ i < nT)) (h3 : ¬ (136 ≤ k ∧ k ≤ 140 ∧ i < nU)) (h4 : ¬ (142 ≤ k ∧ k ≤ 154 ∧ i < nG)) (h5 : ¬ (k = 12 ∧ (i = 24 ∨ i = 55 ∨ i = 56))) : OldS nS nT nU nG S (us S' k i v) := by
  obtain ⟨o1, o2, o3, o4, o5, o6, o7⟩ := o
  refine ⟨fun k' s a b c => ?_, fun k' s a b c => ?_, fun k' s a b c => ?_, fun k' s a b c => ?_, ?_, ?_, ?_⟩
  · rw [us_app, if_neg (by omega)]; exact o1 k' s a b c
  · rw [us_app, if_neg (by omega)]; exact o2 k' s a b c
  · rw [us_app, if_neg (by omega)]; exact o3 k' s a b c
  · rw [us_app, if_neg (by omega)]; exact o4 k' s a b c
  · rw [us_app, if_neg (by omega)]; exact o5
  · rw [us_app, if_neg (by omega)]; exact o6
  · rw [us_app, if_neg (by omega)]; exact o7
section
variable {nS nT nU nG : Nat} {h h' : Hp} {S S' : MSt} {T : TextT}
theorem Bd.oldG (b : Bd nS nT nU nG nU nG h S) (H : OldH nS nT nU nG h h') (K : OldS nS nT nU nG S S') : (∀ s, s < nS → RSs h' S' s) ∧ (∀ t, t < nT → RTs h' S' t) ∧ (∀ u, u < nU → RUs h' S' u) ∧ (∀ g, g < nG → GS h' S' g) ∧ RCd h' S' ∧ (∀ g, g < nG → GD nT nU h' S' g) := by
  obtain ⟨H2, H6, H8, H10, H11, H20, H21, H22, H23, H25⟩ := H
  obtain ⟨K1, K2, K3, K4, K5, K6, K7⟩ := K
  refine ⟨fun s hs => ?_, fun t ht => ?_, fun u hu => ?_, fun g hg => ?_, ?_, fun g hg => ?_⟩
  · have := b.st.2.1 s hs
    unfold RSs at this ⊢
    rw [H20 s hs, H6 s 0 hs, H6 s 1 hs, H6 s 2 hs, H6 s 3 hs, K1 127 s hs (by omega) (by omega), K1 128 s hs (by omega) (by omega), K1 129 s hs (by omega) (by omega)]; exact this
  · have := b.st.2.2.1 t ht
    unfold RTs at this ⊢
    rw [H21 t ht, (H8 t 0 ht).1, (H8 t 2 ht).1, (H8 t 1 ht).2, K2 132 t ht (by omega) (by omega), K2 131 t ht (by omega) (by omega)]; exact this
  · have := b.st.2.2.2.1 u hu
    unfold RUs at this ⊢
    rw [H22 u hu, H10 u 0 hu, H10 u 1 hu, H10 u 2 hu, H10 u 3 hu, K3 136 u hu (by omega) (by omega), K3 137 u hu (by omega) (by omega), K3 138 u hu (by omega) (by omega), K3 139 u hu (by omega) (by omega)]; exact this
  · have := b.st.gs g hg
    unfold GS at this ⊢
    rw [H23 g hg, (H2 g 0 hg).2, (H2 g 1 hg).1, (H2 g 2 hg).1, (H2 g 3 hg).1, (H2 g 4 hg).2, (H2 g 5 hg).1, K4 142 g hg (by omega) (by omega), K4 143 g hg (by omega) (by omega), K4 144 g hg (by omega) (by omega), K4 145 g hg (by omega) (by omega), K4 146 g hg (by omega) (by omega), K4 147 g hg (by omega) (by omega)]; exact this
  · have := b.rcd
    unfold RCd at this ⊢
    rw [H11 14 (by omega), H11 16 (by omega), H11 17 (by omega), K5, K6, K7]; exact this
  · have := b.gd g hg
    unfold GD at this ⊢
    rw [(H2 g 6 hg).1, (H2 g 8 hg).1, (H2 g 10 hg).1, (H2 g 11 hg).1, (H2 g 12 hg).1, (H2 g 13 hg).1, (H2 g 7 hg).2, K4 142 g hg (by omega) (by omega), K4 146 g hg (by omega) (by omega), K4 148 g hg (by omega) (by omega), K4 149 g hg (by omega) (by omega), K4 150 g hg (by omega) (by omega), K4 151 g hg (by omega) (by omega), K4 152 g hg (by omega) (by omega), K4 153 g hg (by omega) (by omega), K4 154 g hg (by omega) (by omega), K5]
    obtain ⟨d1, d2, d3, d4, d5, d6, d7, d8, d9, d10, d11⟩ := this
    refine ⟨d1, d2, d3, d4, d5, d6, fun z1 z2 => ?_, d8, fun z => ?_, d10, d11⟩
    · have x := d7 z1 z2
      rcases b.wm.1.tourOf g hg with e | ⟨u, hu, e⟩
      · exact absurd e x.2.1
      · have hU := b.wm.1.cU.2
        rw [e, tN_nJ (by omega)] at x ⊢
        rw [K3 136 u hu (by omega) (by omega)]; exact x
    · obtain ⟨t, ht, e1, e2⟩ := d9 z
      exact ⟨t, ht, e1, by rw [K2 131 t ht (by omega) (by omega)]; exact e2⟩
theorem Bd.oldT (b : Bd nS nT nU nG nU nG h S) (H : OldH nS nT nU nG h h') (K : OldS nS nT nU nG S S') : (∀ t, t < nT → RTd h' S' t) ∧ (∀ t, t < nT → Ld nG h' S' t) ∧ (∀ t, t < nT → Vl nG S' t) ∧ (∀ u, u < nU → gI h' 10 u 4 = S' 140 u) ∧ RQ nG nG h' S' := by
  obtain ⟨H2, H6, H8, H10, H11, H20, H21, H22, H23, H25⟩ := H
  obtain ⟨K1, K2, K3, K4, K5, K6, K7⟩ := K
  refine ⟨fun t ht => ?_, fun t ht => ?_, fun t ht => ?_, fun u hu => ?_, ?_⟩
  · have := b.td t ht
    unfold RTd at this ⊢
    rw [(H8 t 3 ht).1, (H8 t 4 ht).1, K2 133 t ht (by omega) (by omega), K2 134 t ht (by omega) (by omega)]; exact this
  · have := b.ld t ht
    unfold Ld at this ⊢
    rw [(H8 t 5 ht).1, this]
    exact (gIn_congr fun g hg => ⟨by rw [K4 148 g hg (by omega) (by omega), K4 149 g hg (by omega) (by omega)], K4 143 g hg (by omega) (by omega)⟩).symm
  · refine (b.vl t ht).keep (K2 133 t ht (by omega) (by omega)) fun g hg => ?_
    unfold inT
    rw [K4 148 g hg (by omega) (by omega), K4 149 g hg (by omega) (by omega)]; exact id
  · rw [H10 u 4 hu, K3 140 u hu (by omega) (by omega)]; exact b.ud u hu
  · refine b.rq.keep (H11 10 (by omega)) H25 K5 (fun g hg z => ?_) (fun g hg z => ?_)
    · unfold qst at z ⊢
      rw [K4 148 g hg (by omega) (by omega), K4 149 g hg (by omega) (by omega)]
      rcases z with z | z | z | z
      · exact Or.inl z
      · exact Or.inr (Or.inl z)
      · exact Or.inr (Or.inr (Or.inl z))
      · refine Or.inr (Or.inr (Or.inr ⟨z.1, ?_⟩))
        obtain ⟨t', ht', e', -⟩ := (b.gd g hg).2.2.2.2.2.2.2.2.1 z.1
        have hT := b.wm.1.cT.2
        rw [e', tN_nJ (by omega)] at z ⊢
        rw [K2 133 t' ht' (by omega) (by omega)]; exact z.2
    · rw [K4 148 g hg (by omega) (by omega)] at z
      exact ⟨z, K4 154 g hg (by omega) (by omega)⟩
theorem RK.old (r : RK nG h S) (H : ∀ j, j < nG → gP h' 24 0 j = gP h 24 0 j) (K : ∀ g, g < nG → S' 144 g = S 144 g) : RK nG h' S' := by
  obtain ⟨L, l1, l2, l3, l4, l5⟩ := r
  refine ⟨L, l1, l2, l3, fun j g hj => ?_, List.Pairwise.imp_of_mem ?_ l5⟩
  · have := (List.getElem?_eq_some_iff.mp hj).1
    rw [H j (by omega)]; exact l4 j g hj
  · intro a b ha hb z
    unfold ltk at z ⊢
    rw [K a ((l2 a).mp ha), K b ((l2 b).mp hb)]; exact z
/-! the rest -/
def xo (k : Nat) : Bool := k == 0 || (k == 1 || (k == 3 || (k == 5 || (k == 7 || ((Nat.ble 26 k && Nat.ble k 32) || (k == 36 || (k == 37 || k == 38)))))))
def so (k i : Nat) : Bool := k == 101 || (k == 158 || (k == 159 || (k == 162 || (k == 164 || (k == 12 && (i == 2 || (i == 57 || (i == 61 || i == 63))))))))
def SO (S S' : MSt) : Prop := ∀ k i, so k i = true → S' k i = S k i
theorem SO.refl : SO S S := fun _ _ _ => rfl
theorem SO.us (o : SO S S') {k i : Nat} {v : Int32} (hk : so k i = false) : SO S (us S' k i v) := fun k' i' z => by
  rw [us_app, if_neg]
  · exact o k' i' z
  · rintro ⟨rfl, rfl⟩; rw [hk] at z; cases z
theorem JR.oth {mU : Nat} (j : JR nS nT nU nG T h S) (f : Fr xo h h') (o : SO S S') (hU : nU ≤ mU) : SeaR h' S' ∧ GuiR mU h' S' ∧ TapR h' S' ∧ TxtR h' T := by
  obtain ⟨j1, j2, j3, j4, j5, j6, j7, j8, j9, j10⟩ := j
  refine ⟨?_, ?_, ?_, ?_, ?_⟩
  · unfold SeaR at j5 ⊢
    rw [(f 5 rfl).2.1, (f 26 rfl).2.1, (f 27 rfl).2.1, o 12 57 rfl]
    refine ⟨j5.1, fun i r hr h10 hi => ?_⟩
    rw [o 158 i rfl, o 159 i rfl]
    exact j5.2 i r hr h10 hi
  · obtain ⟨k, pm, g1, g2, g3, g4, g5, g6, g7, g8⟩ := j6
    refine ⟨k, pm, by rw [(f 3 rfl).2.1]; exact g1, (o 12 61 rfl).trans g2, g3, fun i hi => ?_, (o 12 63 rfl).trans g5, by omega, fun t ht => ?_, fun q h1 h2 => by rw [(f 37 rfl).2.1]; exact g8 q (by omega) h2⟩
    · rw [(f 36 rfl).2.1, o 162 i rfl]; exact g4 i hi
    · rw [(f 38 rfl).2.1, o 164 t rfl]; exact g7 t ht
  · obtain ⟨n, t1, t2, t3, t4⟩ := j7
    refine ⟨n, by rw [(f 7 rfl).2.1]; exact t1, (o 12 2 rfl).trans t2, t3, fun i hi => ?_⟩
    rw [(f 32 rfl).2.1, o 101 i rfl]; exact t4 i hi
  · obtain ⟨x, e1, e2, e3, e4, e5⟩ := j8.1
    refine ⟨x, by rw [(f 0 rfl).2.2.2]; exact e1, e2, by rw [(f 1 rfl).2.1]; exact e3, e4, fun l y hy => ?_⟩
    obtain ⟨a1, a2, s, a3, a4, a5, a6, a7⟩ := e5 l y hy
    exact ⟨by rw [(f 31 rfl).2.1]; exact a1, a2, s, a3, fun z => by rw [(f 29 rfl).2.1]; exact a4 z, by rw [(f 29 rfl).2.1]; exact a5, a6, CodAt.fr (f 28 rfl).2.1 a7⟩
  · rw [(f 0 rfl).2.2.2]; exact j8.2
theorem JR.bd (j : JR nS nT nU nG T h S) : Bd nS nT nU nG nU nG h S := j.1
theorem JR.sai (j : JR nS nT nU nG T h S) : SaiR nS h S := j.2.2.1
theorem JR.cel (j : JR nS nT nU nG T h S) : CelR nS nT nU nG h := j.2.2.2.1
theorem JR.tou (j : JR nS nT nU nG T h S) : TouR nU S := j.2.2.2.2.2.2.2.2.1
theorem JR.zer (j : JR nS nT nU nG T h S) : ZerR nU nG S := j.2.2.2.2.2.2.2.2.2
theorem Fq.t0 (h1 : Hp) : Fq h1 (wI h1 12 0 0 0) := (Fq.refl h1).w rfl (by omega) (by omega) (by omega) (by omega) (by omega) (by omega)
theorem bI_c {p : Prop} [Decidable p] (c : p) : bI p = 1 := bI_1.mpr c
theorem bI_n {p : Prop} [Decidable p] (c : ¬ p) : bI p = 0 := bI_0.mpr c
theorem WM.old {mS mT mU mG : Nat} (w : WM nS nT nU nG S) (K : OldS nS nT nU nG S S') (hS : nS ≤ mS) (hU : nU ≤ mU) (c1 : S' 12 26 = nJ mS ∧ mS ≤ 4) (c2 : S' 12 30 = nJ mT ∧ mT ≤ 6) (c3 : S' 12 35 = nJ mU ∧ mU ≤ 8) (c4 : S' 12 41 = nJ mG ∧ mG ≤ 60) (c57 : ∃ r, S' 12 57 = nJ r ∧ r ≤ 10) (c25 : 0 ≤ (S' 12 25).toInt ∧ (S' 12 25).toInt ≤ 10000) (ht : ∀ t, nT ≤ t → t < mT → (∃ s, s < mS ∧ S' 131 t = nJ s) ∧ 0 ≤ (S' 132 t).toInt ∧ (S' 132 t).toInt ≤ 200)
    (hg : ∀ g, nG ≤ g → g < mG → (∃ s, s < mS ∧ S' 142 g = nJ s) ∧ (S' 146 g = -1 ∨ ∃ u, u < mU ∧ S' 146 g = nJ u) ∧ (1 ≤ (S' 143 g).toInt ∧ (S' 143 g).toInt ≤ 60) ∧ S' 148 g ≠ 3) : WM mS mT mU mG S' := by
  obtain ⟨K1, K2, K3, K4, K5, K6, K7⟩ := K
  refine ⟨⟨c1, c2, c3, c4, fun t h1 => ?_, fun g h1 => ?_, fun g h1 => ?_, c57, fun g h1 => ?_, c25, fun t h1 => ?_⟩, fun g h1 => ?_⟩
  · by_cases c : t < nT
    · obtain ⟨s, hs, e⟩ := w.1.shipOf t c
      exact ⟨s, by omega, by rw [K2 131 t c (by omega) (by omega)]; exact e⟩
    · exact (ht t (by omega) h1).1
  · by_cases c : g < nG
    · obtain ⟨s, hs, e⟩ := w.1.home g c
      exact ⟨s, by omega, by rw [K4 142 g c (by omega) (by omega)]; exact e⟩
    · exact (hg g (by omega) h1).1
  · by_cases c : g < nG
    · rw [K4 146 g c (by omega) (by omega)]
      rcases w.1.tourOf g c with e | ⟨u, hu, e⟩
      · exact Or.inl e
      · exact Or.inr ⟨u, by omega, e⟩
    · exact (hg g (by omega) h1).2.1
  · by_cases c : g < nG
    · rw [K4 143 g c (by omega) (by omega)]; exact w.1.many g c
    · exact (hg g (by omega) h1).2.2.1
  · by_cases c : t < nT
    · rw [K2 132 t c (by omega) (by omega)]; exact w.1.room t c
    · exact (ht t (by omega) h1).2
  · by_cases c : g < nG
    · rw [K4 148 g c (by omega) (by omega), K4 146 g c (by omega) (by omega)]; exact w.2 g c
    · exact fun z => absurd z (hg g (by omega) h1).2.2.2
/-! a ship -/
theorem shipJ {a1 a2 a3 : Int32} (jr : JR nS nT nU nG T h S) (p4 : ¬ a2 ≤ S 12 24) (p5 : nS < 4) : JR (nS + 1) nT nU nG T (wI (wP (wI (wI (wI (wI (nw h 6) 6 nS 0 (nJ nS)) 6 nS 1 a1) 6 nS 2 a2) 6 nS 3 a3) 20 0 nS (some (6, nS))) 11 0 1 (nJ (nS + 1))) (us (us (us (us S 127 nS a1) 128 nS a2) 129 nS a3) 12 26 (nJ (nS + 1))) := by
  have b := jr.bd
  have w := b.wm
  obtain ⟨c6, c8, c10, c2⟩ := jr.cel
  have H : OldH nS nT nU nG h (wI (wP (wI (wI (wI (wI (nw h 6) 6 nS 0 (nJ nS)) 6 nS 1 a1) 6 nS 2 a2) 6 nS 3 a3) 20 0 nS (some (6, nS))) 11 0 1 (nJ (nS + 1))) := by
    refine ⟨fun g s hg => by simp [gI_wI, gI_wP, gI_wL, gP_wI, gP_wP, gP_wL, gC_wI, gC_wP, gC_wL, gI_nw, gP_nw, gC_nw], fun x s hx => ?_, fun t s ht => by simp [gI_wI, gI_wP, gI_wL, gP_wI, gP_wP, gP_wL, gC_wI, gC_wP, gC_wL, gI_nw, gP_nw, gC_nw], fun u s hu => by simp [gI_wI, gI_wP, gI_wL, gP_wI, gP_wP, gP_wL, gC_wI, gC_wP, gC_wL, gI_nw, gP_nw, gC_nw], fun s hs => ?_, fun s hs => ?_, fun s hs => by simp [gI_wI, gI_wP, gI_wL, gP_wI, gP_wP, gP_wL, gC_wI, gC_wP, gC_wL, gI_nw, gP_nw, gC_nw], fun s hs => by simp [gI_wI, gI_wP, gI_wL, gP_wI, gP_wP, gP_wL, gC_wI, gC_wP, gC_wL, gI_nw, gP_nw, gC_nw], fun s hs => by simp [gI_wI, gI_wP, gI_wL, gP_wI, gP_wP, gP_wL, gC_wI, gC_wP, gC_wL, gI_nw, gP_nw, gC_nw], fun s => by simp [gI_wI, gI_wP, gI_wL, gP_wI, gP_wP, gP_wL, gC_wI, gC_wP, gC_wL, gI_nw, gP_nw, gC_nw]⟩
    · have : x ≠ nS := by omega
      simp [gI_wI, gI_wP, gI_wL, gP_wI, gP_wP, gP_wL, gC_wI, gC_wP, gC_wL, gI_nw, gP_nw, gC_nw, c6, this]
    · have : s ≠ 1 := by omega
      simp [gI_wI, gI_wP, gI_wL, gP_wI, gP_wP, gP_wL, gC_wI, gC_wP, gC_wL, gI_nw, gP_nw, gC_nw, this]
    · have : s ≠ nS := by omega
      simp [gI_wI, gI_wP, gI_wL, gP_wI, gP_wP, gP_wL, gC_wI, gC_wP, gC_wL, gI_nw, gP_nw, gC_nw, this]
  have K : OldS nS nT nU nG S (us (us (us (us S 127 nS a1) 128 nS a2) 129 nS a3) 12 26 (nJ (nS + 1))) := (((OldS.refl.us (by omega) (by omega) (by omega) (by omega) (by omega)).us (by omega) (by omega) (by omega) (by omega) (by omega)).us (by omega) (by omega) (by omega) (by omega) (by omega)).us (by omega) (by omega) (by omega) (by omega) (by omega)
  have o : ∀ k i, k ≠ 127 → k ≠ 128 → k ≠ 129 → ¬ (k = 12 ∧ i = 26) → us (us (us (us S 127 nS a1) 128 nS a2) 129 nS a3) 12 26 (nJ (nS + 1)) k i = S k i := fun k i h1 h2 h3 h4 => by
    rw [us_app, if_neg h4, us_app, if_neg (by omega), us_app, if_neg (by omega), us_app, if_neg (by omega)]
  obtain ⟨g1, g2, g3, g4, g5, g6⟩ := b.oldG H K
  obtain ⟨t1, t2, t3, t4, t5⟩ := b.oldT H K
  have f : Fr xo h (wI (wP (wI (wI (wI (wI (nw h 6) 6 nS 0 (nJ nS)) 6 nS 1 a1) 6 nS 2 a2) 6 nS 3 a3) 20 0 nS (some (6, nS))) 11 0 1 (nJ (nS + 1))) := ((((((Fr.refl h).nw rfl).wI rfl).wI rfl).wI rfl).wI rfl).wP rfl |>.wI rfl
  have O : SO S (us (us (us (us S 127 nS a1) 128 nS a2) 129 nS a3) 12 26 (nJ (nS + 1))) := (((SO.refl.us rfl).us rfl).us rfl).us rfl
  obtain ⟨o1, o2, o3, o4⟩ := jr.oth f O (Nat.le_refl nU)
  refine ⟨⟨w.old K (by omega) (by omega) ⟨by simp [us_app], by omega⟩ (by rw [o 12 30 (by omega) (by omega) (by omega) (by omega)]; exact w.1.cT) (by rw [o 12 35 (by omega) (by omega) (by omega) (by omega)]; exact w.1.cU) (by rw [o 12 41 (by omega) (by omega) (by omega) (by omega)]; exact w.1.cG) (by rw [o 12 57 (by omega) (by omega) (by omega) (by omega)]; exact w.1.shuts) (by rw [o 12 25 (by omega) (by omega) (by omega) (by omega)]; exact w.1.town) (fun t h1 h2 => by omega) (fun g h1 h2 => by omega), ⟨?_, fun s hs => ?_, g2, g3, g4, ?_⟩, g5, g6, t1, t2, t3, t4, t5⟩, ?_, ?_, ?_, o1, o2, o3, o4, ?_, ?_⟩
  · obtain ⟨s1, s2, s3, s4, s5⟩ := b.st.1
    refine ⟨by simp [gI_wI, gI_wP, gI_wL, gP_wI, gP_wP, gP_wL, gC_wI, gC_wP, gC_wL, gI_nw, gP_nw, gC_nw], ?_, ?_, ?_, ?_⟩
    · simp [gI_wI, gI_wP, gI_wL, gP_wI, gP_wP, gP_wL, gC_wI, gC_wP, gC_wL, gI_nw, gP_nw, gC_nw]; exact s2
    · simp [gI_wI, gI_wP, gI_wL, gP_wI, gP_wP, gP_wL, gC_wI, gC_wP, gC_wL, gI_nw, gP_nw, gC_nw]; exact s3
    · simp [gI_wI, gI_wP, gI_wL, gP_wI, gP_wP, gP_wL, gC_wI, gC_wP, gC_wL, gI_nw, gP_nw, gC_nw]; exact s4
    · rw [o 12 25 (by omega) (by omega) (by omega) (by omega)]; simp [gI_wI, gI_wP, gI_wL, gP_wI, gP_wP, gP_wL, gC_wI, gC_wP, gC_wL, gI_nw, gP_nw, gC_nw]; exact s5
  · by_cases c : s = nS
    · subst c
      unfold RSs
      simp [gI_wI, gI_wP, gI_wL, gP_wI, gP_wP, gP_wL, gC_wI, gC_wP, gC_wL, gI_nw, gP_nw, gC_nw, us_app]
    · exact g1 s (by omega)
  · exact b.st.rk.old (fun j hj => by simp [gI_wI, gI_wP, gI_wL, gP_wI, gP_wP, gP_wL, gC_wI, gC_wP, gC_wL, gI_nw, gP_nw, gC_nw]) (fun g hg => o 144 g (by omega) (by omega) (by omega) (by omega))
  · have := jr.2.1
    unfold NB at this ⊢
    rw [o 12 24 (by omega) (by omega) (by omega) (by omega)]
    refine ⟨this.1, fun g hg => ?_⟩
    rw [o 147 g (by omega) (by omega) (by omega) (by omega)]; exact this.2 g hg
  · intro s hs
    rw [o 12 24 (by omega) (by omega) (by omega) (by omega)]
    by_cases c : s = nS
    · subst c
      have : us (us (us (us S 127 s a1) 128 s a2) 129 s a3) 12 26 (nJ (s + 1)) 128 s = a2 := by simp [us_app]
      rw [this, bI_n p4]
      simp [gI_wI, gI_wP, gI_wL, gP_wI, gP_wP, gP_wL, gC_wI, gC_wP, gC_wL, gI_nw, gP_nw, gC_nw, c6]
    · rw [H.2.1 s 4 (by omega), K.1 128 s (by omega) (by omega) (by omega)]
      exact jr.sai s (by omega)
  · unfold CelR
    simp [gI_wI, gI_wP, gI_wL, gP_wI, gP_wP, gP_wL, gC_wI, gC_wP, gC_wL, gI_nw, gP_nw, gC_nw, c6, c8, c10, c2]
  · intro u hu
    rw [o 138 u (by omega) (by omega) (by omega) (by omega), o 139 u (by omega) (by omega) (by omega) (by omega)]
    exact jr.tou u hu
  · refine ⟨fun g h1 h2 => ?_, fun u h1 h2 => ?_⟩
    · rw [o 153 g (by omega) (by omega) (by omega) (by omega)]; exact jr.zer.1 g h1 h2
    · rw [o 140 u (by omega) (by omega) (by omega) (by omega)]; exact jr.zer.2 u h1 h2
theorem jShip {a1 a2 a3 : Int32} (j : J h) : wp_X11_ship a1 a2 a3 h fun rx h1 => wp_X12_ship a1 a2 a3 h1 fun rm h2 => rm = rx ∧ J h2 := by
  refine JJ j fun nS nT nU nG T S jr => ?_
  have b := jr.bd
  have e1 : gI h 11 0 1 = nJ nS := b.st.1.1
  have e14 : gI h 11 0 14 = S 12 24 := b.rcd.1
  obtain ⟨c26, hS⟩ := b.wm.1.cS
  have c6 : gC h 6 = nS := jr.cel.1
  have l4 : nJ nS < 4 ↔ nS < 4 := nJ_lt (a := nS) (b := 4) (by omega) (by omega)
  have q4 : nJ nS = 4 ↔ nS = 4 := nJ_eq (a := nS) (b := 4) (by omega) (by omega)
  by_cases c : ((1 : Int32) ≤ a1 ∧ a1 ≤ 60) ∧ ((60 : Int32) ≤ a2 ∧ a2 ≤ 719) ∧ ((0 : Int32) ≤ a3 ∧ a3 ≤ 9) ∧ ¬ a2 ≤ S 12 24 ∧ nS < 4
  · obtain ⟨p1, p2, p3, p4, p5⟩ := c
    have v4 : vp_in (nJ nS) 4 := (vp_nJ (by omega)).mpr p5
    have t4 : tN (nJ nS) = nS := tN_nJ (by omega)
    refine ⟨nS + 1, nT, nU, nG, us (us (us (us S 127 nS a1) 128 nS a2) 129 nS a3) 12 26 (nJ (nS + 1)), nJ nS, fun Q kk => ?_, fun h1 hv t w Q kk => ?_⟩
    · have kk := kk _ (shipJ (a1 := a1) (a3 := a3) jr p4 p5) (((((((Fr.refl h).nw rfl).wI rfl).wI rfl).wI rfl).wI rfl).wP rfl |>.wI rfl)
      have l5 := l4.mpr p5
      simp only [w_X11_ship_32, w_X11_ship_50, w_X11_ship_74, w_X11_ship_63, w_X11_ship_52, w_X11_ship_42, w_X11_ship_34, w_X11_ship_29, w_X11_ship_22, w_X11_ship_19, w_X11_ship_10, w_X11_ship_7, w_X11_ship_0, wp_X11_ship, w_X6_init_0, wp_X6_init, xwithin, e1, e14, c6, bI_c p1, bI_c p2, bI_c p3, p4, l5]
      simpa [gI_wI, gI_wP, gI_wL, gP_wI, gP_wP, gP_wL, gC_wI, gC_wP, gC_wL, gI_nw, gP_nw, gC_nw, e1, t4, nJ_succ, nJ_pred, v4] using kk
    · have q5 : ¬ nJ nS = 4 := fun z => by have := q4.mp z; omega
      have e26 : view h1 12 26 = nJ nS := by rw [hv]; exact c26
      simp only [w_X12_ship_53, w_X12_ship_84, w_X12_ship_74, w_X12_ship_55, w_X12_ship_45, w_X12_ship_42, w_X12_ship_35, w_X12_ship_27, w_X12_ship_24, w_X12_ship_15, w_X12_ship_12, w_X12_ship_0, wp_X12_ship, mwithin, gv_12_26, gv_12_24, gv_101, vw_101, gv_127, vw_127, gv_128, vw_128, gv_129, vw_129, gv_131, vw_131, gv_132, vw_132, gv_133, vw_133, gv_134, vw_134, gv_136, vw_136, gv_137, vw_137, gv_138, vw_138, gv_139, vw_139, gv_140, vw_140, gv_142, vw_142, gv_143, vw_143, gv_144, vw_144, gv_145, vw_145, gv_146, vw_146, gv_147, vw_147, gv_148, vw_148, gv_149, vw_149, gv_150, vw_150, gv_151, vw_151, gv_152, vw_152, gv_153, vw_153, gv_154, vw_154, gv_158, vw_158, gv_159, vw_159, gv_162, vw_162, gv_164, vw_164, gv_12_2, vw_12_2, gv_12_24, vw_12_24, gv_12_25, vw_12_25, gv_12_26, vw_12_26, gv_12_30, vw_12_30, gv_12_35, vw_12_35, gv_12_41, vw_12_41, gv_12_55, vw_12_55, gv_12_56, vw_12_56, gv_12_57, vw_12_57, gv_12_61, vw_12_61, gv_12_63, vw_12_63, vs_160, vs_165, vs_119, vs_120, vs_121, vs_122, vs_123, vs_12_0, hv, us_app, c26, e26, bI_c p1, bI_c p2, bI_c p3, p4, q5, t4, v4]
      simp only [Nat.reduceEqDiff, false_and, and_false, if_false, c26, t4, v4, nJ_succ, nJ_pred, and_self, if_true, true_and]
      refine ⟨fun z => absurd z (by decide), fun _ => ⟨fun z => absurd z (by decide), fun _ => ⟨fun z => z.elim, fun _ => ⟨fun z => absurd z (by decide), fun _ => ⟨fun _ => ?_, fun z => z.elim⟩⟩⟩⟩⟩
      refine kk _ (by simp only [gv_101, vw_101, gv_127, vw_127, gv_128, vw_128, gv_129, vw_129, gv_131, vw_131, gv_132, vw_132, gv_133, vw_133, gv_134, vw_134, gv_136, vw_136, gv_137, vw_137, gv_138, vw_138, gv_139, vw_139, gv_140, vw_140, gv_142, vw_142, gv_143, vw_143, gv_144, vw_144, gv_145, vw_145, gv_146, vw_146, gv_147, vw_147, gv_148, vw_148, gv_149, vw_149, gv_150, vw_150, gv_151, vw_151, gv_152, vw_152, gv_153, vw_153, gv_154, vw_154, gv_158, vw_158, gv_159, vw_159, gv_162, vw_162, gv_164, vw_164, gv_12_2, vw_12_2, gv_12_24, vw_12_24, gv_12_25, vw_12_25, gv_12_26, vw_12_26, gv_12_30, vw_12_30, gv_12_35, vw_12_35, gv_12_41, vw_12_41, gv_12_55, vw_12_55, gv_12_56, vw_12_56, gv_12_57, vw_12_57, gv_12_61, vw_12_61, gv_12_63, vw_12_63, vs_160, vs_165, vs_119, vs_120, vs_121, vs_122, vs_123, vs_12_0, hv]) ?_
      exact (((((Fq.t0 h1).w rfl (by omega) (by omega) (by omega) (by omega) (by omega) (by omega)).w rfl (by omega) (by omega) (by omega) (by omega) (by omega) (by omega)).w rfl (by omega) (by omega) (by omega) (by omega) (by omega) (by omega)).w rfl (by omega) (by omega) (by omega) (by omega) (by omega) (by omega))
  · refine ⟨nS, nT, nU, nG, S, -1, fun Q kk => ?_, fun h1 hv t w Q kk => ?_⟩
    · have kk := kk h jr (Fr.refl h)
      simp only [w_X11_ship_32, w_X11_ship_50, w_X11_ship_74, w_X11_ship_63, w_X11_ship_52, w_X11_ship_42, w_X11_ship_34, w_X11_ship_29, w_X11_ship_22, w_X11_ship_19, w_X11_ship_10, w_X11_ship_7, w_X11_ship_0, wp_X11_ship, w_X6_init_0, wp_X6_init, xwithin, e1, e14, bI_0]
      refine ⟨fun _ => kk, fun z1 => ⟨fun _ => kk, fun z2 => ⟨fun z3 => ⟨fun _ => kk, fun z4 => ⟨fun z5 => ?_, fun _ => kk⟩⟩, fun _ => kk⟩⟩⟩
      exact absurd ⟨Decidable.not_not.mp z1, Decidable.not_not.mp z2, Decidable.not_not.mp z3, z4, l4.mp z5⟩ c
    · have e26 : view h1 12 26 = nJ nS := by rw [hv]; exact c26
      have kk := kk _ (by rw [vs_12_0, hv]) (Fq.t0 h1)
      simp only [w_X12_ship_53, w_X12_ship_84, w_X12_ship_74, w_X12_ship_55, w_X12_ship_45, w_X12_ship_42, w_X12_ship_35, w_X12_ship_27, w_X12_ship_24, w_X12_ship_15, w_X12_ship_12, w_X12_ship_0, wp_X12_ship, mwithin, gv_12_26, gv_12_24, vs_12_0, hv, e26, c26, bI_0]
      refine ⟨fun _ => kk, fun z1 => ⟨fun _ => kk, fun z2 => ⟨fun _ => kk, fun z3 => ⟨fun _ => kk, fun z4 => ⟨fun z5 => ?_, fun _ => kk⟩⟩⟩⟩⟩
      exact absurd ⟨Decidable.not_not.mp z1, Decidable.not_not.mp z2, Decidable.not_not.mp z4, z3, by have : ¬ nS = 4 := fun y => z5 (q4.mpr y); omega⟩ c
end
