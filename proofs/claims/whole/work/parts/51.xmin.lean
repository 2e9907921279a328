/-! minutes, both sides -/
section
variable {nS nT nU nG : Nat} {h h' : Hp} {S S' : MSt} {T : TextT}
def zf (nU nG : Nat) (S S' : MSt) : Prop := (∀ x, nG ≤ x → S' 153 x = S 153 x) ∧ (∀ u, nU ≤ u → S' 140 u = S 140 u)
theorem zf.refl : zf nU nG S S := ⟨fun _ _ => rfl, fun _ _ => rfl⟩
theorem zf.us (z : zf nU nG S S') {k i : Nat} {v : Int32} (h1 : k ≠ 153 ∨ i < nG) (h2 : k ≠ 140 ∨ i < nU) : zf nU nG S (us S' k i v) := by
  refine ⟨fun x hx => ?_, fun u hu => ?_⟩
  · rw [us_app, if_neg (by omega)]; exact z.1 x hx
  · rw [us_app, if_neg (by omega)]; exact z.2 u hu
theorem zf.land {g : Nat} (hg : g < nG) (z : zf nU nG S S') : zf nU nG S (mLand T S' g) := by
  unfold mLand
  exact ((((((z.us (Or.inl (by omega)) (Or.inl (by omega))).us (Or.inl (by omega)) (Or.inl (by omega))).us (Or.inl (by omega)) (Or.inl (by omega))).us (Or.inr hg) (Or.inl (by omega))).us (Or.inl (by omega)) (Or.inl (by omega))).us (Or.inl (by omega)) (Or.inl (by omega))).us (Or.inl (by omega)) (Or.inl (by omega))
theorem zf.u (z : zf nU nG S S') {k i : Nat} {v : Int32} (h1 : k ≠ 153) (h2 : k ≠ 140) : zf nU nG S (_root_.Jvm.Pilot.CShoreDayLaw_law_r6654_27fe09.us S' k i v) := z.us (Or.inl h1) (Or.inl h2)
theorem zf.mv {t : Nat} (z : zf nU nG S S') : zf nU nG S (mvT T nG t S') := by
  unfold mvT
  split
  · split
    · unfold mArr
      refine itr_inv (n := nG) (P := zf nU nG S) (fun g S2 hg z => ?_) ((z.u (by omega) (by omega)).u (by omega) (by omega)) (Nat.le_refl _)
      unfold arG
      split
      · split
        · exact z.land hg
        · exact ((z.u (by omega) (by omega)).u (by omega) (by omega)).u (by omega) (by omega)
      · exact z
    · exact z.u (by omega) (by omega)
  · exact z
theorem zf.to {u : Nat} (hu : u < nU) (z : zf nU nG S S') : zf nU nG S (toT nG u S') := by
  unfold toT
  split
  · unfold mSt
    refine fold_inv (P := zf nU nG S) (fun S2 g _ z => ?_) z
    unfold stS
    split
    · exact z.u (by omega) (by omega)
    · exact (z.u (by omega) (by omega)).us (Or.inl (by omega)) (Or.inr hu)
  · exact z
theorem zf.en {g : Nat} (z : zf nU nG S S') : zf nU nG S (enG g S') := by
  unfold enG
  split
  · exact (z.u (by omega) (by omega)).u (by omega) (by omega)
  · exact z
theorem zf.sa {s : Nat} (z : zf nU nG S S') : zf nU nG S (saS nT nG s S') := by
  unfold saS
  split
  · unfold mSail
    refine itr_inv (n := nT) (P := zf nU nG S) (fun t S2 _ z => z.u (by omega) (by omega)) (itr_inv (n := nG) (P := zf nU nG S) (fun g S2 _ z => ?_) z (Nat.le_refl _)) (Nat.le_refl _)
    unfold saG
    split
    · exact ((z.u (by omega) (by omega)).u (by omega) (by omega)).u (by omega) (by omega)
    · exact z
  · exact z
theorem zf.ld {t : Nat} (z : zf nU nG S S') : zf nU nG S (ldT nT nG t S') := by
  have a1 : zf nU nG S (mLdO nT nG t S') := by
    have w1 : zf nU nG S ((selL (S' 144) nG nG (askO S' (S' 131 t))).foldl (ldO nT nG t) S') := fold_inv (fun S2 g _ z => by
      unfold ldO; split
      · exact z
      · exact ((z.u (by omega) (by omega)).u (by omega) (by omega)).u (by omega) (by omega)) z
    unfold mLdO; simp only; split
    · exact (w1.u (by omega) (by omega)).u (by omega) (by omega)
    · exact w1
  have a2 : zf nU nG S (mLdH nT nG t S') := by
    have w1 : zf nU nG S ((selL (S' 154) nG nG (askH S' (S' 131 t))).foldl (ldH nG t) S') := fold_inv (fun S2 g _ z => by
      unfold ldH; split
      · exact z
      · exact ((z.u (by omega) (by omega)).u (by omega) (by omega)).u (by omega) (by omega)) z
    unfold mLdH; simp only; split
    · exact (w1.u (by omega) (by omega)).u (by omega) (by omega)
    · exact w1
  unfold ldT
  split
  · exact a1
  · split
    · exact a2
    · exact z
theorem zf_min : zf nU nG S (mMin T nS nT nU nG S) := by
  have z4 : zf nU nG S (q4 T nS nT nU nG S) := by
    unfold q4 p4 p3 p2 p1
    exact itr_inv (n := nS) (P := zf nU nG S) (fun _ _ _ z => z.sa) (itr_inv (n := nG) (P := zf nU nG S) (fun _ _ _ z => z.en) (itr_inv (n := nU) (P := zf nU nG S) (fun _ _ hu z => z.to hu) (itr_inv (n := nT) (P := zf nU nG S) (fun _ _ _ z => z.mv) (zf.refl.u (by omega) (by omega)) (Nat.le_refl _)) (Nat.le_refl _)) (Nat.le_refl _)) (Nat.le_refl _)
  unfold mMin p5
  split
  · exact z4
  · exact itr_inv (n := nT) (P := zf nU nG S) (fun _ _ _ z => z.ld) z4 (Nat.le_refl _)
theorem JR.step (j : JR nS nT nU nG T h S) (b : Bd nS nT nU nG nU nG h' S') (f : Kx h h') (e : Sf S S') (n : NB nG S') (s : SaiR nS h' S') (z : ZerR nU nG S') : JR nS nT nU nG T h' S' := by
  obtain ⟨j1, j2, j3, j4, j5, j6, j7, j8, j9, j10⟩ := j
  have x := f.2.2
  refine ⟨b, n, s, ?_, ?_, ?_, ?_, ⟨j8.1.kx f, ?_⟩, ?_, z⟩
  · unfold CelR at j4 ⊢; rw [f.1]; exact j4
  · unfold SeaR at j5 ⊢
    rw [(x 5 0 2 rfl).1, e 12 57 rfl]
    refine ⟨j5.1, fun i r hr h10 hi => ?_⟩
    rw [(x 26 0 i rfl).1, (x 27 0 i rfl).1, e 158 i rfl, e 159 i rfl]
    exact j5.2 i r hr h10 hi
  · obtain ⟨k, pm, g1, g2, g3, g4, g5, g6, g7, g8⟩ := j6
    refine ⟨k, pm, (x 3 0 1 rfl).1.trans g1, (e 12 61 rfl).trans g2, g3, fun i hi => ?_, (e 12 63 rfl).trans g5, g6, fun t ht => ?_, fun q h1 h2 => (x 37 0 q rfl).1.trans (g8 q h1 h2)⟩
    · rw [(x 36 0 i rfl).1, e 162 i rfl]; exact g4 i hi
    · rw [(x 38 0 t rfl).1, e 164 t rfl]; exact g7 t ht
  · obtain ⟨n, t1, t2, t3, t4⟩ := j7
    refine ⟨n, (x 7 0 1 rfl).1.trans t1, (e 12 2 rfl).trans t2, t3, fun i hi => ?_⟩
    rw [(x 32 0 i rfl).1, e 101 i rfl]; exact t4 i hi
  · rw [(x 0 0 3 rfl).2, (x 0 0 4 rfl).2]; exact j8.2
  · intro u hu
    rw [e 138 u rfl, e 139 u rfl]; exact j9 u hu
theorem xMinute {K : Int32 → Int32 → Hp → Prop} {Q : Int32 → Hp → Prop} {a1 a2 : Int32} (j : JR nS nT nU nG T h S) (hn : (S 12 24).toInt < 719) (kk : ∀ h', JR nS nT nU nG T h' (mMin T nS nT nU nG S) → Fc h h' → K a1 (a2 + 1) h') : w_X11_minutes_32 K Q a1 a2 h := by
  have nb := j.2.1
  have en : (S 12 24 + 1).toInt = (S 12 24).toInt + 1 := by
    have := nb.1
    rw [tadd (by rw [i1]; omega) (by rw [i1]; omega), i1]
  have e24 : us S 12 24 (S 12 24 + 1) 12 24 = S 12 24 + 1 := by simp [us_app]
  have kx0 : Kx h (wI h 11 0 14 (gI h 11 0 14 + 1)) := (Kx.refl h).I rfl
  have sf0 : Sf S (us S 12 24 (S 12 24 + 1)) := (Sf.refl S).up rfl
  have nb0 : NB nG (us S 12 24 (S 12 24 + 1)) := by
    refine ⟨?_, fun g hg => ?_⟩
    · rw [e24, en]; have := nb.1; omega
    · rw [sf0 147 g rfl]; exact nb.2 g hg
  refine xMove (T := T) nb0 (j.1.tick nb hn) (j.2.2.2.2.2.2.2.1.1.kx kx0) fun h1 b1 s1 => ?_
  refine xTours (nb0.sp s1) b1 fun h2 b2 s2 => ?_
  refine xQuay ((nb0.sp s1).sp s2) b2 fun h3 b3 s3 => ?_
  refine xSail b3 fun h4 b4 s4 f4 => ?_
  have kx4 : Kx h h4 := (((kx0.trans s1.1.1).trans s2.1.1).trans s3.1.1).trans s4.1
  have sf4 : Sf S (q4 T nS nT nU nG S) := (((sf0.trans s1.2.1).trans s2.2.1).trans s3.2.1).trans s4.2.1
  have n3 : p3 nG (p2 nU nG (p1 T nT nG (us S 12 24 (S 12 24 + 1)))) 12 24 = S 12 24 + 1 := by rw [s3.2.2, s2.2.2, s1.2.2, e24]
  have n4 : q4 T nS nT nU nG S 12 24 = S 12 24 + 1 := s4.2.2.trans n3
  have b4 : Bd nS nT nU nG nU nG h4 (q4 T nS nT nU nG S) := b4
  have nbF : ∀ {X : MSt}, Sf S X → X 12 24 = S 12 24 + 1 → NB nG X := fun {X} e1 e2 => by
    refine ⟨?_, fun g hg => ?_⟩
    · rw [e2, en]; have := nb.1; omega
    · rw [e1 147 g rfl]; exact nb.2 g hg
  have sai4 : ∀ s, s < nS → gI h4 6 s 4 = bI (S 128 s ≤ S 12 24 + 1) := by
    intro s hs
    have e3 : p3 nG (p2 nU nG (p1 T nT nG (us S 12 24 (S 12 24 + 1)))) 128 s = S 128 s := by rw [s3.2.1 128 s rfl, s2.2.1 128 s rfl, s1.2.1 128 s rfl, sf0 128 s rfl]
    have e5 : gI (wI h 11 0 14 (gI h 11 0 14 + 1)) 6 s 4 = gI h 6 s 4 := by simp [gI_wI]
    rw [f4 s, n3, e3, s3.1.2 s, s2.1.2 s, s1.1.2 s, e5, j.2.2.1 s hs]
    by_cases c : S 128 s = S 12 24 + 1
    · rw [if_pos ⟨hs, c⟩, bI_1.mpr (by rw [c]; exact Int32.le_refl _)]
    · rw [if_neg (fun z => c z.2)]
      have : S 128 s ≤ S 12 24 ↔ S 128 s ≤ S 12 24 + 1 := by
        rw [Int32.le_iff_toInt_le, Int32.le_iff_toInt_le, en]
        constructor
        · omega
        · intro z
          have : ¬ (S 128 s).toInt = (S 12 24).toInt + 1 := fun y => c (Int32.toInt_inj.mp (by rw [en]; exact y))
          omega
      unfold bI
      by_cases c2 : S 128 s ≤ S 12 24
      · rw [if_pos c2, if_pos (this.mp c2)]
      · rw [if_neg c2, if_neg (fun z => c2 (this.mpr z))]
  have zer : ZerR nU nG (mMin T nS nT nU nG S) := by
    obtain ⟨z1, z2⟩ := zf_min (nS := nS) (nT := nT) (nU := nU) (nG := nG) (S := S) (T := T)
    obtain ⟨j1, j2⟩ := j.2.2.2.2.2.2.2.2.2
    exact ⟨fun g h1 h2 => (z1 g h1).trans (j1 g h1 h2), fun u h1 h2 => (z2 u h1).trans (j2 u h1 h2)⟩
  obtain ⟨r, hr, h10⟩ := b4.wm.1.shuts
  have sea4 : SeaR h4 (q4 T nS nT nU nG S) := by
    have j5 := j.2.2.2.2.1
    have x := kx4.2.2
    unfold SeaR at j5 ⊢
    rw [(x 5 0 2 rfl).1, sf4 12 57 rfl]
    refine ⟨j5.1, fun i r hr h10 hi => ?_⟩
    rw [(x 26 0 i rfl).1, (x 27 0 i rfl).1, sf4 158 i rfl, sf4 159 i rfl]
    exact j5.2 i r hr h10 hi
  have em : mMin T nS nT nU nG S = p5 nT nG r (q4 T nS nT nU nG S) := by unfold mMin; rw [hr, tN_nJ (by omega)]
  refine xShut sea4 hr h10 b4.rcd.1 ⟨fun c => ?_, fun c => ?_⟩
  · rw [bI_0] at c
    have e5 : mMin T nS nT nU nG S = q4 T nS nT nU nG S := by rw [em]; unfold p5; rw [if_pos (Decidable.not_not.mp c)]
    rw [e5] at zer kk
    exact kk h4 (j.step b4 kx4 sf4 (nbF sf4 n4) (fun s hs => by rw [sai4 s hs, sf4 128 s rfl, n4]) zer) kx4.fc
  · rw [bI_0] at c
    refine xSend b4 fun h5 b5 s5 => ?_
    have e5 : mMin T nS nT nU nG S = itr (ldT nT nG) nT (q4 T nS nT nU nG S) := by rw [em]; unfold p5; rw [if_neg c]
    rw [e5] at zer kk
    have kx5 := kx4.trans s5.1.1
    have sf5 := sf4.trans s5.2.1
    have n5 := s5.2.2.trans n4
    exact kk h5 (j.step b5 kx5 sf5 (nbF sf5 n5) (fun s hs => by rw [s5.1.2 s, sai4 s hs, sf5 128 s rfl, n5]) zer) kx5.fc
def mMins (T : TextT) (nS nT nU nG : Nat) : Nat → MSt → MSt
  | 0, S => S
  | n + 1, S => mMins T nS nT nU nG n (mMin T nS nT nU nG S)
theorem mMin_now (hn : nS = nS) : (mMin T nS nT nU nG S) 12 24 = S 12 24 + 1 := by
  have e0 : ∀ {k i : Nat} {v : Int32} {X : MSt}, k ≠ 12 → us X k i v 12 24 = X 12 24 := fun {k i v X} hk => by rw [us_app, if_neg (fun z => hk z.1.symm)]
  have l1 : ∀ (X : MSt) (g : Nat), mLand T X g 12 24 = X 12 24 := fun X g => by simp [mLand, us_app]
  have l4 : q4 T nS nT nU nG S 12 24 = S 12 24 + 1 := by
    unfold q4 p4 p3 p2 p1
    refine itr_inv (n := nS) (P := fun X => X 12 24 = S 12 24 + 1) (fun s X _ z => ?_) (itr_inv (n := nG) (P := fun X => X 12 24 = S 12 24 + 1) (fun g X _ z => ?_) (itr_inv (n := nU) (P := fun X => X 12 24 = S 12 24 + 1) (fun u X _ z => ?_) (itr_inv (n := nT) (P := fun X => X 12 24 = S 12 24 + 1) (fun t X _ z => ?_) (by simp [us_app]) (Nat.le_refl _)) (Nat.le_refl _)) (Nat.le_refl _)) (Nat.le_refl _)
    · show saS nT nG s X 12 24 = _
      unfold saS
      split
      · unfold mSail
        refine itr_inv (n := nT) (P := fun X => X 12 24 = S 12 24 + 1) (fun t Y _ z => ?_) (itr_inv (n := nG) (P := fun X => X 12 24 = S 12 24 + 1) (fun g Y _ z => ?_) z (Nat.le_refl _)) (Nat.le_refl _)
        · show saT s t Y 12 24 = _
          unfold saT; rw [e0 (by omega)]; exact z
        · show saG s g Y 12 24 = _
          unfold saG
          split
          · rw [e0 (by omega), e0 (by omega), e0 (by omega)]; exact z
          · exact z
      · exact z
    · show enG g X 12 24 = _
      unfold enG
      split
      · rw [e0 (by omega), e0 (by omega)]; exact z
      · exact z
    · show toT nG u X 12 24 = _
      unfold toT
      split
      · unfold mSt
        refine fold_inv (P := fun X => X 12 24 = S 12 24 + 1) (fun Y g _ z => ?_) z
        show stS u Y g 12 24 = _
        unfold stS
        split
        · rw [e0 (by omega)]; exact z
        · rw [e0 (by omega), e0 (by omega)]; exact z
      · exact z
    · show mvT T nG t X 12 24 = _
      unfold mvT
      split
      · split
        · unfold mArr
          refine itr_inv (n := nG) (P := fun X => X 12 24 = S 12 24 + 1) (fun g Y _ z => ?_) (by rw [e0 (by omega), e0 (by omega)]; exact z) (Nat.le_refl _)
          show arG T t _ g Y 12 24 = _
          unfold arG
          split
          · split
            · rw [l1]; exact z
            · rw [e0 (by omega), e0 (by omega), e0 (by omega)]; exact z
          · exact z
        · rw [e0 (by omega)]; exact z
      · exact z
  unfold mMin p5
  split
  · exact l4
  · refine itr_inv (n := nT) (P := fun X => X 12 24 = S 12 24 + 1) (fun t X _ z => ?_) l4 (Nat.le_refl _)
    exact (sv_ldT (S0 := X) (S := X) ⟨rfl, rfl, rfl⟩).2.2.trans z
theorem xMinutesL {Q : Int32 → Hp → Prop} {h0 : Hp} {n : Nat} (hn200 : n ≤ 200) : ∀ (j i : Nat) (h : Hp) (S : MSt), i + j = n → JR nS nT nU nG T h S → (S 12 24).toInt + j ≤ 719 → Fc h0 h → (∀ h', JR nS nT nU nG T h' (mMins T nS nT nU nG j S) → Fc h0 h' → Q ((mMins T nS nT nU nG j S) 12 24) h') → w_X11_minutes_27 Q (j + 1) (nJ n) (nJ i) h := by
  intro j
  induction j with
  | zero =>
    intro i h S e jr hb f kk
    obtain rfl : i = n := by omega
    refine ⟨fun _ => ?_, fun c => absurd (Int32.le_refl _) c⟩
    show Q (gI h 11 0 14) h
    rw [jr.1.rcd.1]
    exact kk h jr f
  | succ j ih =>
    intro i h S e jr hb f kk
    refine ⟨fun c => absurd c ?_, fun _ => ?_⟩
    · rw [nJ_le (by omega) (by omega)]; omega
    · refine xMinute jr (by omega) fun h' j' f' => ?_
      rw [nJ_succ]
      have en : (S 12 24 + 1).toInt = (S 12 24).toInt + 1 := by
        have := jr.2.1.1
        rw [tadd (by rw [i1]; omega) (by rw [i1]; omega), i1]
      refine ih (i + 1) h' _ (by omega) j' ?_ (f.trans f') kk
      rw [mMin_now rfl, en]; omega
theorem mMinutesL {Q : Int32 → Hp → Prop} {h0 : Hp} {n : Nat} (hn200 : n ≤ 200) : ∀ (j i : Nat) (h : Hp), i + j = n → WM nS nT nU nG (view h) → TextM h T → Fq h0 h → (∀ h', view h' = mMins T nS nT nU nG j (view h) → Fq h0 h' → Q ((mMins T nS nT nU nG j (view h)) 12 24) h') → w_X12_minutes_32 Q (j + 1) (nJ n) (nJ i) h := by
  intro j
  induction j with
  | zero =>
    intro i h e w t f kk
    obtain rfl : i = n := by omega
    refine ⟨fun _ => ?_, fun c => absurd (Int32.le_refl _) c⟩
    show Q (gI h 12 0 24) h
    rw [gv_12_24]
    exact kk h rfl f
  | succ j ih =>
    intro i h e w t f kk
    refine ⟨fun c => absurd c ?_, fun _ => ?_⟩
    · rw [nJ_le (by omega) (by omega)]; omega
    · refine mMinute (T := T) w t fun h' hv f' => ?_
      show w_X12_minutes_32 Q (j + 1) (nJ n) (nJ i + 1) h'
      rw [nJ_succ]
      refine ih (i + 1) h' (by omega) (by rw [hv]; exact w.min) (t.fm f') (f.trans f'.fq) ?_
      rw [hv]; exact kk
theorem i32_ex {a : Int32} {B : Nat} (hB : B < 2147483648) (h0 : 0 ≤ a) (h1 : a ≤ nJ B) : ∃ n, n ≤ B ∧ a = nJ n := by
  have e0 : 0 ≤ a.toInt := by simpa [Int32.le_iff_toInt_le] using h0
  have e1 := Int32.le_iff_toInt_le.mp h1
  rw [nJ_toInt hB] at e1
  refine ⟨tN a, ?_, (nJ_tN h0).symm⟩
  rw [tN_toInt]; omega
theorem jMinutes {a : Int32} (j : J h) : wp_X11_minutes a h fun rx h1 => wp_X12_minutes a h1 fun rm h2 => rm = rx ∧ J h2 := by
  refine JJ j fun nS nT nU nG T S jr => ?_
  have ft : ∀ h1, Fq h1 (wI h1 12 0 0 0) := fun h1 => (Fq.refl h1).w rfl (by omega) (by omega) (by omega) (by omega) (by omega) (by omega)
  by_cases c : (0 : Int32) ≤ a ∧ a ≤ 200
  · obtain ⟨n, hn, rfl⟩ := i32_ex (B := 200) (by omega) c.1 c.2
    have nb := jr.2.1.1
    have es : (S 12 24 + nJ n).toInt = (S 12 24).toInt + n := by
      rw [tadd (by rw [nJ_toInt (by omega)]; omega) (by rw [nJ_toInt (by omega)]; omega), nJ_toInt (by omega)]
    by_cases c2 : S 12 24 + nJ n ≤ 719
    · have c3 : (S 12 24).toInt + n ≤ 719 := by
        have := Int32.le_iff_toInt_le.mp c2
        rw [es, i719] at this; exact this
      refine ⟨nS, nT, nU, nG, mMins T nS nT nU nG n S, (mMins T nS nT nU nG n S) 12 24, fun Q kk => ?_, fun h1 hv t w Q kk => ?_⟩
      · unfold wp_X11_minutes w_X11_minutes_0
        rw [xwithin, bI_1.mpr c]
        refine ⟨fun z => absurd z (by decide), fun _ => ⟨fun _ => ⟨n + 1, ?_⟩, fun z => absurd ?_ z⟩⟩
        · exact xMinutesL (h0 := h) hn n 0 h S (by omega) jr c3 (Fr.refl h) kk
        · rw [jr.1.rcd.1]; exact c2
      · refine ⟨fun z => absurd z (nJ_ge0 (by omega)), fun _ => ⟨fun z => absurd c.2 (Int32.not_le.mpr z), fun _ => ⟨fun _ => ⟨n + 1, ?_⟩, fun z => absurd ?_ z⟩⟩⟩
        · have hv' : view (wI h1 12 0 0 0) = S := by rw [vs_12_0, hv]
          refine mMinutesL (h0 := h1) (nS := nS) (nT := nT) (nU := nU) (nG := nG) (T := T) hn n 0 _ (by omega) (by rw [hv']; exact w) (t.fr (by simp [gI_wI]) (gI_wIo (by omega)) (gI_wIo (by omega)) (gI_wIo (by omega)) (gI_wIo (by omega)) (gI_wIo (by omega))) (ft h1) ?_
          rw [hv']; exact kk
        · rw [gv_12_24, vs_12_0, hv]; exact c2
    · refine ⟨nS, nT, nU, nG, S, -1, fun Q kk => ?_, fun h1 hv t w Q kk => ?_⟩
      · unfold wp_X11_minutes w_X11_minutes_0
        rw [xwithin, bI_1.mpr c]
        refine ⟨fun z => absurd z (by decide), fun _ => ⟨fun z => absurd ?_ c2, fun _ => kk h jr (Fr.refl h)⟩⟩
        rw [jr.1.rcd.1] at z; exact z
      · refine ⟨fun z => absurd z (nJ_ge0 (by omega)), fun _ => ⟨fun z => absurd c.2 (Int32.not_le.mpr z), fun _ => ⟨fun z => absurd ?_ c2, fun _ => kk _ (by rw [vs_12_0, hv]) (ft h1)⟩⟩⟩
        rw [gv_12_24, vs_12_0, hv] at z; exact z
  · refine ⟨nS, nT, nU, nG, S, -1, fun Q kk => ?_, fun h1 hv t w Q kk => ?_⟩
    · unfold wp_X11_minutes w_X11_minutes_0
      rw [xwithin, bI_0.mpr c]
      exact ⟨fun _ => kk h jr (Fr.refl h), fun z => absurd rfl z⟩
    · have k := kk _ (by rw [vs_12_0, hv]) (ft h1)
      refine ⟨fun _ => k, fun z => ⟨fun _ => k, fun z2 => absurd ⟨Int32.not_lt.mp z, Int32.not_lt.mp z2⟩ c⟩⟩
end
