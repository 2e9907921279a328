/-! what only asks -/
section
variable {nS nT nU nG : Nat} {h h' : Hp} {S S' : MSt} {T : TextT}
theorem JQ {wx wm : Hp → (Int32 → Hp → Prop) → Prop} (j : J h)
    (go : ∀ nS nT nU nG T S, JR nS nT nU nG T h S → ∃ r, (∀ Q : Int32 → Hp → Prop, Q r h → wx h Q) ∧ (∀ h1, view h1 = S → TextM h1 T → WM nS nT nU nG S → ∀ Q : Int32 → Hp → Prop, Q r (wI h1 12 0 0 0) → wm h1 Q)) :
    wx h fun rx h1 => wm h1 fun rm h2 => rm = rx ∧ J h2 := by
  refine JJ j fun nS nT nU nG T S jr => ?_
  obtain ⟨r, hx, hm⟩ := go nS nT nU nG T S jr
  exact ⟨nS, nT, nU, nG, S, r, fun Q kk => hx Q (kk h jr (Fr.refl h)), fun h1 hv t w Q kk => hm h1 hv t w Q (kk _ (by rw [vs_12_0, hv]) (Fq.t0 h1))⟩
theorem toI {a : Int32} {n : Nat} (hn : n < 1000000) (h : a.toInt = n) : a = nJ n := Int32.toInt_inj.mp (by rw [h, nJ_toInt (by omega)])
theorem lt0 {a : Int32} : a < 0 ↔ a.toInt < 0 := by rw [Int32.lt_iff_toInt_lt]; rfl
theorem len {a : Int32} {n : Nat} (hn : n < 1000000) : a ≤ nJ n ↔ a.toInt ≤ n := by rw [Int32.le_iff_toInt_le, nJ_toInt (by omega)]
theorem jRides {a1 a2 : Int32} (j : J h) : wp_X11_rides a1 a2 h fun rx h1 => wp_X12_rides a1 a2 h1 fun rm h2 => rm = rx ∧ J h2 := by
  refine JQ j fun nS nT nU nG T S jr => ?_
  have b := jr.bd
  obtain ⟨c35, hU⟩ := b.wm.1.cU
  by_cases c : ∃ m, m < nU ∧ a1 = nJ m
  · obtain ⟨m, hm, rfl⟩ := c
    obtain ⟨u1, u2, u3, u4, u5⟩ := b.st.2.2.2.1 m hm
    have ud := b.ud m hm
    have v8 : vp_in (nJ m) 8 := (vp_nJ (by omega)).mpr (by omega)
    have tm : tN (nJ m) = m := tN_nJ (by omega)
    have g0 : ¬ nJ m < 0 := nJ_ge0 (by omega)
    have gU : ¬ nJ nU ≤ nJ m := by rw [nJ_le (by omega) (by omega)]; omega
    by_cases c2 : a2.toInt < 0 ∨ 2 < a2.toInt
    · refine ⟨-1, fun Q kk => ?_, fun h1 hv t w Q kk => ?_⟩
      · refine xTourAt b (fun s hs e => ⟨fun _ => ⟨fun _ => kk, fun z => ?_, fun z => ?_, fun z => ?_⟩, fun z => absurd z (by simp)⟩) (fun z => absurd ⟨m, hm, rfl⟩ z)
        all_goals (exfalso; omega)
      · simp only [w_X12_rides_26, w_X12_rides_80, w_X12_rides_79, w_X12_rides_75, w_X12_rides_62, w_X12_rides_46, w_X12_rides_41, w_X12_rides_32, w_X12_rides_28, w_X12_rides_21, w_X12_rides_17, w_X12_rides_9, w_X12_rides_0, wp_X12_rides, gv_12_35, gv_12_24, gv_136, gv_138, gv_140, vs_12_0, hv, c35]
        refine ⟨fun z => absurd z g0, fun _ => ⟨fun z => absurd z gU, fun _ => ⟨fun _ => kk, fun z => ⟨fun z2 => ?_, fun _ => kk⟩⟩⟩⟩
        exfalso
        rw [lt0] at z
        have := (len (n := 2) (by omega)).mp z2
        omega
    · have c3 : a2.toInt = 0 ∨ a2.toInt = 1 ∨ a2.toInt = 2 := by omega
      rcases c3 with e | e | e
      · have e2 : a2 = 0 := toI (n := 0) (by omega) e
        subst e2
        refine ⟨S 140 m, fun Q kk => ?_, fun h1 hv t w Q kk => ?_⟩
        · refine xTourAt b (fun s hs e' => ?_) (fun z => absurd ⟨m, hm, rfl⟩ z)
          rw [nJ_eq (by omega) (by omega)] at e'; subst e'
          simp only [w_X11_rides_40, w_X11_rides_45, w_X11_rides_71, w_X11_rides_70, w_X11_rides_66, w_X11_rides_55, w_X11_rides_72, w_X11_rides_12, w_X11_rides_10, w_X11_rides_5, w_X11_rides_0, wp_X11_rides, ud]; simp [kk, ud]
        · simp only [w_X12_rides_26, w_X12_rides_80, w_X12_rides_79, w_X12_rides_75, w_X12_rides_62, w_X12_rides_46, w_X12_rides_41, w_X12_rides_32, w_X12_rides_28, w_X12_rides_21, w_X12_rides_17, w_X12_rides_9, w_X12_rides_0, wp_X12_rides, gv_12_35, gv_12_24, gv_136, gv_138, gv_140, vs_12_0, hv, c35, tm, v8, g0, gU]
          simp [kk]
      · have e2 : a2 = 1 := toI (n := 1) (by omega) e
        subst e2
        have n1 : (1 : Int32) ≤ 2 := by decide
        have n0 : ¬ (1 : Int32) < 0 := by decide
        refine ⟨S 138 m - S 140 m, fun Q kk => ?_, fun h1 hv t w Q kk => ?_⟩
        · refine xTourAt b (fun s hs e' => ?_) (fun z => absurd ⟨m, hm, rfl⟩ z)
          rw [nJ_eq (by omega) (by omega)] at e'; subst e'
          simp only [w_X11_rides_40, w_X11_rides_45, w_X11_rides_71, w_X11_rides_70, w_X11_rides_66, w_X11_rides_55, w_X11_rides_72, w_X11_rides_12, w_X11_rides_10, w_X11_rides_5, w_X11_rides_0, wp_X11_rides, ud, u4, e]; simp [kk, ud, u4]
        · simp only [w_X12_rides_26, w_X12_rides_80, w_X12_rides_79, w_X12_rides_75, w_X12_rides_62, w_X12_rides_46, w_X12_rides_41, w_X12_rides_32, w_X12_rides_28, w_X12_rides_21, w_X12_rides_17, w_X12_rides_9, w_X12_rides_0, wp_X12_rides, gv_12_35, gv_12_24, gv_136, gv_138, gv_140, vs_12_0, hv, c35, tm, v8, g0, gU, n0, n1]
          simp [kk]
      · have e2 : a2 = 2 := toI (n := 2) (by omega) e
        subst e2
        have n0 : ¬ (2 : Int32) < 0 := by decide
        refine ⟨if S 12 24 < S 136 m then 0 else 1, fun Q kk => ?_, fun h1 hv t w Q kk => ?_⟩
        · refine xTourAt b (fun s hs e' => ?_) (fun z => absurd ⟨m, hm, rfl⟩ z)
          rw [nJ_eq (by omega) (by omega)] at e'; subst e'
          simp only [w_X11_rides_40, w_X11_rides_45, w_X11_rides_71, w_X11_rides_70, w_X11_rides_66, w_X11_rides_55, w_X11_rides_72, w_X11_rides_12, w_X11_rides_10, w_X11_rides_5, w_X11_rides_0, wp_X11_rides, ud, u2, e, b.rcd.1]
          by_cases y : S 12 24 < S 136 m
          · rw [if_pos y] at kk; simp [kk, y, u2, Int32.not_le.mpr y]
          · rw [if_neg y] at kk; simp [kk, y, u2]
        · simp only [w_X12_rides_26, w_X12_rides_80, w_X12_rides_79, w_X12_rides_75, w_X12_rides_62, w_X12_rides_46, w_X12_rides_41, w_X12_rides_32, w_X12_rides_28, w_X12_rides_21, w_X12_rides_17, w_X12_rides_9, w_X12_rides_0, wp_X12_rides, gv_12_35, gv_12_24, gv_136, gv_138, gv_140, vs_12_0, hv, c35, tm, v8, g0, gU, n0]
          by_cases y : S 12 24 < S 136 m
          · rw [if_pos y] at kk; simp [kk, y]
          · rw [if_neg y] at kk; simp [kk, y]
  · refine ⟨-1, fun Q kk => ?_, fun h1 hv t w Q kk => ?_⟩
    · exact xTourAt b (fun s hs e => absurd ⟨s, hs, e⟩ c) (fun _ => ⟨fun z => absurd rfl z, fun _ => kk⟩)
    · simp only [w_X12_rides_26, w_X12_rides_80, w_X12_rides_79, w_X12_rides_75, w_X12_rides_62, w_X12_rides_46, w_X12_rides_41, w_X12_rides_32, w_X12_rides_28, w_X12_rides_21, w_X12_rides_17, w_X12_rides_9, w_X12_rides_0, wp_X12_rides, gv_12_35, vs_12_0, hv, c35]
      exact ⟨fun _ => kk, fun z => ⟨fun _ => kk, fun z2 => absurd ((rng2 (show nU < 1000000 by omega)).mp ⟨z, z2⟩) c⟩⟩
theorem jLies {a1 a2 : Int32} (j : J h) : wp_X11_lies a1 a2 h fun rx h1 => wp_X12_lies a1 a2 h1 fun rm h2 => rm = rx ∧ J h2 := by
  refine JQ j fun nS nT nU nG T S jr => ?_
  have b := jr.bd
  obtain ⟨c35, hU⟩ := b.wm.1.cT
  have e3 : gI h 11 0 3 = nJ nT := b.st.1.2.1
  by_cases c : ∃ m, m < nT ∧ a1 = nJ m
  · obtain ⟨m, hm, rfl⟩ := c
    have rt := b.st.2.2.1 m hm
    have td := b.td m hm
    have ld : gI h 8 m 5 = gIn nG S (nJ m) := b.ld m hm
    have v8 : vp_in (nJ m) 6 := (vp_nJ (by omega)).mpr (by omega)
    have tm : tN (nJ m) = m := tN_nJ (by omega)
    have g0 : ¬ nJ m < 0 := nJ_ge0 (by omega)
    have gU : ¬ nJ nT ≤ nJ m := by rw [nJ_le (by omega) (by omega)]; omega
    have c4 : (0 : Int32) ≤ nJ m ∧ nJ m ≤ nJ nT - 1 := (rng (by omega)).mpr ⟨m, hm, rfl⟩
    have go : ∀ {Q : Int32 → Hp → Prop}, w_X11_lies_16 Q (nJ m) a2 h → wp_X11_lies (nJ m) a2 h Q := fun {Q} z => by
      simp only [wp_X11_lies, w_X11_lies_0, w_X11_lies_11, xwithin, e3, bI_c c4]
      exact ⟨fun _ => z, fun y => absurd y (by decide)⟩
    by_cases c2 : a2.toInt < 0 ∨ 2 < a2.toInt
    · refine ⟨-1, fun Q kk => go ⟨v8, fun _ => kk, fun z => ?_, fun z => ?_, fun z => ?_⟩, fun h1 hv t w Q kk => ?_⟩
      · exfalso; omega
      · exfalso; omega
      · exfalso; omega
      · simp only [w_X12_lies_26, w_X12_lies_94, w_X12_lies_89, w_X12_lies_85, w_X12_lies_76, w_X12_lies_72, w_X12_lies_67, w_X12_lies_58, w_X12_lies_53, w_X12_lies_48, w_X12_lies_52, w_X12_lies_38, w_X12_lies_28, w_X12_lies_21, w_X12_lies_17, w_X12_lies_9, w_X12_lies_0, wp_X12_lies, gv_12_30, gv_133, gv_134, vs_12_0, hv, c35]
        refine ⟨fun z => absurd z g0, fun _ => ⟨fun z => absurd z gU, fun _ => ⟨fun _ => kk, fun z => ⟨fun z2 => ?_, fun _ => kk⟩⟩⟩⟩
        exfalso
        rw [lt0] at z
        have := (len (n := 2) (by omega)).mp z2
        omega
    · have c3 : a2.toInt = 0 ∨ a2.toInt = 1 ∨ a2.toInt = 2 := by omega
      rcases c3 with e | e | e
      · have e2 : a2 = 0 := toI (n := 0) (by omega) e
        subst e2
        refine ⟨S 133 m, fun Q kk => go ⟨v8, fun z => ?_, fun z => ⟨m, by rw [tm]; exact rt.1, ?_⟩, fun z => ?_, fun z => ?_⟩, fun h1 hv t w Q kk => ?_⟩
        · exfalso; omega
        · show Q (gI h 8 m 3) h
          rw [td.1]; exact kk
        · exfalso; omega
        · exfalso; omega
        · simp only [w_X12_lies_26, w_X12_lies_94, w_X12_lies_89, w_X12_lies_85, w_X12_lies_76, w_X12_lies_72, w_X12_lies_67, w_X12_lies_58, w_X12_lies_53, w_X12_lies_48, w_X12_lies_52, w_X12_lies_38, w_X12_lies_28, w_X12_lies_21, w_X12_lies_17, w_X12_lies_9, w_X12_lies_0, wp_X12_lies, gv_12_30, gv_133, gv_134, vs_12_0, hv, c35, tm, v8, g0, gU]
          simp [kk]
      · have e2 : a2 = 1 := toI (n := 1) (by omega) e
        subst e2
        have n1 : (1 : Int32) ≤ 2 := by decide
        have n0 : ¬ (1 : Int32) < 0 := by decide
        refine ⟨if S 133 m = 1 ∨ S 133 m = 3 then S 134 m else 0, fun Q kk => go ⟨v8, fun z => ?_, fun z => ?_, fun z => ⟨m, by rw [tm]; exact rt.1, ?_⟩, fun z => ?_⟩, fun h1 hv t w Q kk => ?_⟩
        · exfalso; omega
        · exfalso; omega
        · show Q (gI h 8 m 4) h
          rw [td.2]; exact kk
        · exfalso; omega
        · simp only [w_X12_lies_26, w_X12_lies_94, w_X12_lies_89, w_X12_lies_85, w_X12_lies_76, w_X12_lies_72, w_X12_lies_67, w_X12_lies_58, w_X12_lies_53, w_X12_lies_48, w_X12_lies_52, w_X12_lies_38, w_X12_lies_28, w_X12_lies_21, w_X12_lies_17, w_X12_lies_9, w_X12_lies_0, wp_X12_lies, gv_12_30, gv_133, gv_134, vs_12_0, hv, c35, tm, v8, g0, gU, n0, n1]
          by_cases y : S 133 m = 1
          · rw [if_pos (Or.inl y)] at kk; simp [kk, y]
          · by_cases y2 : S 133 m = 3
            · rw [if_pos (Or.inr y2)] at kk; simp [kk, y2]
            · rw [if_neg (fun z => z.elim y y2)] at kk; simp [kk, y, y2]
      · have e2 : a2 = 2 := toI (n := 2) (by omega) e
        subst e2
        have n0 : ¬ (2 : Int32) < 0 := by decide
        refine ⟨gIn nG S (nJ m), fun Q kk => go ⟨v8, fun z => ?_, fun z => ?_, fun z => ?_, fun z => ⟨m, by rw [tm]; exact rt.1, ?_⟩⟩, fun h1 hv t w Q kk => ?_⟩
        · exfalso; omega
        · exfalso; omega
        · exfalso; omega
        · show Q (gI h 8 m 5) h
          rw [ld]; exact kk
        · have hv0 : view (wI h1 12 0 0 0) = S := by rw [vs_12_0, hv]
          have mg : wp_X12_guestsIn (nJ m) (wI h1 12 0 0 0) Q := mGuestsIn (nS := nS) (nT := nT) (nU := nU) (nG := nG) (by rw [hv0]; exact w.1) (by rw [hv0]; exact kk)
          simp only [w_X12_lies_0, w_X12_lies_9, w_X12_lies_17, w_X12_lies_21, w_X12_lies_28, w_X12_lies_38, w_X12_lies_48, w_X12_lies_52, w_X12_lies_53, w_X12_lies_58, w_X12_lies_67, w_X12_lies_72, w_X12_lies_76, w_X12_lies_85, w_X12_lies_89, w_X12_lies_94, w_X12_lies_26, wp_X12_lies, gv_12_30, gv_133, gv_134, vs_12_0, hv, c35, tm, v8, g0, gU, n0]
          simp [mg]
  · refine ⟨-1, fun Q kk => ?_, fun h1 hv t w Q kk => ?_⟩
    · have c4 : ¬ ((0 : Int32) ≤ a1 ∧ a1 ≤ nJ nT - 1) := fun z => c ((rng (by omega)).mp z)
      simp only [wp_X11_lies, w_X11_lies_0, w_X11_lies_11, xwithin, e3, bI_n c4]
      exact ⟨fun z => absurd trivial z, fun _ => kk⟩
    · simp only [w_X12_lies_26, w_X12_lies_94, w_X12_lies_89, w_X12_lies_85, w_X12_lies_76, w_X12_lies_72, w_X12_lies_67, w_X12_lies_58, w_X12_lies_53, w_X12_lies_48, w_X12_lies_52, w_X12_lies_38, w_X12_lies_28, w_X12_lies_21, w_X12_lies_17, w_X12_lies_9, w_X12_lies_0, wp_X12_lies, gv_12_30, vs_12_0, hv, c35]
      exact ⟨fun _ => kk, fun z => ⟨fun _ => kk, fun z2 => absurd ((rng2 (show nT < 1000000 by omega)).mp ⟨z, z2⟩) c⟩⟩
def gSh (nG : Nat) (S : MSt) (s lo hi : Int32) : Int32 := sm (fun g => if S 142 g = s ∧ lo ≤ S 148 g ∧ S 148 g ≤ hi then S 143 g else 0) nG
theorem xGuestsIn {s : Nat} {lo hi : Int32} {Q : Int32 → Hp → Prop} (b : Bd nS nT nU nG nU nG h S) (hs : s < nS) (kk : Q (gSh nG S (nJ s) lo hi) h) : wp_X11_guestsIn (some (6, s)) lo hi h Q := by
  have hn := b.wm.1.cG.2
  suffices H : ∀ j i, i + j = nG → w_X11_guestsIn_6 Q (j + 1) (some (6, s)) lo hi (sm (fun g => if S 142 g = nJ s ∧ lo ≤ S 148 g ∧ S 148 g ≤ hi then S 143 g else 0) i) (nJ i) h from ⟨nG + 1, H nG 0 (by omega)⟩
  intro j
  induction j with
  | zero =>
    intro i e
    obtain rfl : i = nG := by omega
    refine ⟨fun _ => kk, fun z => absurd ?_ z⟩
    rw [b.st.1.2.2.2.1]; exact Int32.le_refl _
  | succ j ih =>
    intro i e
    have ih := ih (i + 1) (by omega)
    rw [sm, ← nJ_succ] at ih
    have hi : i < nG := by omega
    have ti : tN (nJ i) = i := tN_nJ (by omega)
    have v60 : vp_in (nJ i) 60 := (vp_nJ (by omega)).mpr (by omega)
    have gs := b.st.gs i hi
    refine ⟨fun z => absurd z ?_, fun _ => ⟨i, by rw [ti]; exact gs.1, v60, fun z => ?_, fun z => ⟨i, by rw [ti]; exact gs.1, v60, ?_⟩⟩⟩
    · rw [b.st.1.2.2.2.1, nJ_le (by omega) (by omega)]; omega
    · rw [gs.ship b.wm hi hs] at z
      rw [if_neg (fun y => z y.1), Int32.add_zero] at ih; exact ih
    · rw [gs.ship b.wm hi hs] at z
      rw [xwithin, (b.gd i hi).1]
      refine ⟨fun y => ?_, fun y => ⟨i, by rw [ti]; exact gs.1, v60, ?_⟩⟩
      · rw [bI_0] at y
        rw [if_neg (fun x => y x.2), Int32.add_zero] at ih; exact ih
      · rw [bI_0] at y
        rw [if_pos ⟨z, Decidable.not_not.mp y⟩] at ih
        rw [gs.2.2.1]; exact ih
theorem mGuestsSh {s : Nat} {a2 lo hi : Int32} {h1 : Hp} {Q : Int32 → Hp → Prop} (hv : view h1 = S) (w : WM nS nT nU nG S) (kk : Q (gSh nG S (nJ s) lo hi) h1) : ∃ N, w_X12_guests_108 Q N (nJ s) a2 lo hi 0 0 h1 := by
  obtain ⟨c41, hn⟩ := w.1.cG
  suffices H : ∀ j i, i + j = nG → w_X12_guests_108 Q (j + 1) (nJ s) a2 lo hi (sm (fun g => if S 142 g = nJ s ∧ lo ≤ S 148 g ∧ S 148 g ≤ hi then S 143 g else 0) i) (nJ i) h1 from ⟨nG + 1, H nG 0 (by omega)⟩
  intro j
  induction j with
  | zero =>
    intro i e
    obtain rfl : i = nG := by omega
    refine ⟨fun _ => kk, fun z => absurd ?_ z⟩
    rw [gv_12_41, hv, c41]; exact Int32.le_refl _
  | succ j ih =>
    intro i e
    have ih := ih (i + 1) (by omega)
    rw [sm, ← nJ_succ] at ih
    have ti : tN (nJ i) = i := tN_nJ (by omega)
    have v60 : vp_in (nJ i) 60 := (vp_nJ (by omega)).mpr (by omega)
    refine ⟨fun z => absurd z ?_, fun _ => ⟨v60, fun z => ?_, fun z => ⟨v60, ?_⟩⟩⟩
    · rw [gv_12_41, hv, c41, nJ_le (by omega) (by omega)]; omega
    · rw [ti, gv_142, hv] at z
      rw [if_neg (fun y => z y.1)] at ih; exact ih
    · rw [ti, gv_142, hv] at z
      rw [mwithin, ti, gv_148, hv]
      refine ⟨fun y => ?_, fun y => ⟨v60, ?_⟩⟩
      · rw [bI_0] at y
        rw [if_neg (fun x => y x.2)] at ih; exact ih
      · rw [bI_0] at y
        rw [if_pos ⟨z, Decidable.not_not.mp y⟩] at ih
        rw [ti, gv_143, hv]; exact ih
theorem jGuests {a1 a2 : Int32} (j : J h) : wp_X11_guests a1 a2 h fun rx h1 => wp_X12_guests a1 a2 h1 fun rm h2 => rm = rx ∧ J h2 := by
  refine JQ j fun nS nT nU nG T S jr => ?_
  have b := jr.bd
  obtain ⟨c35, hU⟩ := b.wm.1.cS
  by_cases c : ∃ m, m < nS ∧ a1 = nJ m
  · obtain ⟨m, hm, rfl⟩ := c
    have v8 : vp_in (nJ m) 4 := (vp_nJ (by omega)).mpr (by omega)
    have tm : tN (nJ m) = m := tN_nJ (by omega)
    have g0 : ¬ nJ m < 0 := nJ_ge0 (by omega)
    have gU : ¬ nJ nS ≤ nJ m := by rw [nJ_le (by omega) (by omega)]; omega
    have goX : ∀ {Q : Int32 → Hp → Prop}, w_X11_guests_12 Q (nJ m) a2 (some (6, m)) h → wp_X11_guests (nJ m) a2 h Q := fun {Q} z => by
      refine xShipAt b (fun s hs e => ?_) (fun y => absurd ⟨m, hm, rfl⟩ y)
      rw [nJ_eq (by omega) (by omega)] at e; subst e
      exact ⟨fun _ => z, fun y => absurd y (by simp)⟩
    have goM : ∀ {Q : Int32 → Hp → Prop} {h1 : Hp}, view h1 = S → ¬ a2 < 0 → a2 ≤ 5 → w_X12_guests_28 Q (nJ m) a2 (wI h1 12 0 0 0) → wp_X12_guests (nJ m) a2 h1 Q := fun {Q h1} hv z1 z2 z => by
      have e26 : gI (wI h1 12 0 0 0) 12 0 26 = nJ nS := by rw [gv_12_26, vs_12_0, hv]; exact c35
      refine ⟨fun y => absurd y g0, fun _ => ⟨fun y => absurd y ?_, fun _ => ⟨fun y => absurd y z1, fun _ => ⟨fun _ => z, fun y => absurd z2 y⟩⟩⟩⟩
      rw [e26]; exact gU
    by_cases c2 : a2.toInt < 0 ∨ 5 < a2.toInt
    · refine ⟨-1, fun Q kk => goX ⟨fun _ => kk, fun z => ?_, fun z => ?_, fun z => ?_, fun z => ?_, fun z => ?_, fun z => ?_⟩, fun h1 hv t w Q kk => ?_⟩
      · exfalso; omega
      · exfalso; omega
      · exfalso; omega
      · exfalso; omega
      · exfalso; omega
      · exfalso; omega
      · simp only [w_X12_guests_0, w_X12_guests_9, w_X12_guests_17, w_X12_guests_21, w_X12_guests_26, wp_X12_guests, gv_12_26, vs_12_0, hv, c35]
        refine ⟨fun z => absurd z g0, fun _ => ⟨fun z => absurd z gU, fun _ => ⟨fun _ => kk, fun z => ⟨fun z2 => ?_, fun _ => kk⟩⟩⟩⟩
        exfalso
        rw [lt0] at z
        have := (len (n := 5) (by omega)).mp z2
        omega
    · by_cases c5 : a2.toInt = 5
      · have e2 : a2 = 5 := toI (n := 5) (by omega) c5
        subst e2
        refine ⟨if S 12 24 < S 128 m then 0 else 1, fun Q kk => goX ⟨fun z => ?_, fun z => ?_, fun z => ?_, fun z => ?_, fun z => ?_, fun z => ?_, fun z => ⟨m, rfl, fun y => ?_, fun y => ?_⟩⟩, fun h1 hv t w Q kk => goM hv (by decide) (by decide) ⟨fun z => absurd rfl z, fun _ => ⟨v8, fun y => ?_, fun y => ?_⟩⟩⟩
        · exfalso; omega
        · exfalso; omega
        · exfalso; omega
        · exfalso; omega
        · exfalso; omega
        · exfalso; omega
        · rw [jr.sai m hm, bI_0] at y
          rw [if_pos (Int32.not_le.mp y)] at kk; exact kk
        · rw [jr.sai m hm, bI_0] at y
          rw [if_neg (fun x => y (Int32.not_le.mpr x))] at kk; exact kk
        · rw [gv_12_24, gv_128, vs_12_0, hv, tm] at y
          rw [if_pos y] at kk; exact kk
        · rw [gv_12_24, gv_128, vs_12_0, hv, tm] at y
          rw [if_neg y] at kk; exact kk
      · have c3 : a2.toInt = 0 ∨ a2.toInt = 1 ∨ a2.toInt = 2 ∨ a2.toInt = 3 ∨ a2.toInt = 4 := by omega
        rcases c3 with e | e | e | e | e
        · have e2 : a2 = 0 := toI (n := 0) (by omega) e
          subst e2
          refine ⟨gSh nG S (nJ m) 0 0, fun Q kk => goX ?_, fun h1 hv t w Q kk => goM hv (by decide) (by decide) ?_⟩
          · have := xGuestsIn (lo := 0) (hi := 0) b hm kk
            simp [w_X11_guests_12, w_X11_guests_52, w_X11_guests_59, this]
          · have := mGuestsSh (s := m) (a2 := 0) (lo := 0) (hi := 0) (h1 := wI h1 12 0 0 0) (by rw [vs_12_0, hv]) w kk
            simp [w_X12_guests_28, w_X12_guests_52, w_X12_guests_56, w_X12_guests_89, w_X12_guests_99, w_X12_guests_100, this]
        · have e2 : a2 = 1 := toI (n := 1) (by omega) e
          subst e2
          refine ⟨gSh nG S (nJ m) 1 1, fun Q kk => goX ?_, fun h1 hv t w Q kk => goM hv (by decide) (by decide) ?_⟩
          · have := xGuestsIn (lo := 1) (hi := 1) b hm kk
            simp [w_X11_guests_12, w_X11_guests_60, w_X11_guests_67, this]
          · have := mGuestsSh (s := m) (a2 := 1) (lo := 1) (hi := 1) (h1 := wI h1 12 0 0 0) (by rw [vs_12_0, hv]) w kk
            simp [w_X12_guests_28, w_X12_guests_52, w_X12_guests_60, w_X12_guests_65, w_X12_guests_89, w_X12_guests_99, w_X12_guests_100, this]
        · have e2 : a2 = 2 := toI (n := 2) (by omega) e
          subst e2
          have i2 : (2 : Int32).toInt = 2 := by decide
          refine ⟨gSh nG S (nJ m) 2 4, fun Q kk => goX ?_, fun h1 hv t w Q kk => goM hv (by decide) (by decide) ?_⟩
          · have := xGuestsIn (lo := 2) (hi := 4) b hm kk
            simp [w_X11_guests_12, w_X11_guests_68, w_X11_guests_75, this, i2]
          · have := mGuestsSh (s := m) (a2 := 2) (lo := 2) (hi := 4) (h1 := wI h1 12 0 0 0) (by rw [vs_12_0, hv]) w kk
            simp [w_X12_guests_28, w_X12_guests_52, w_X12_guests_60, w_X12_guests_69, w_X12_guests_74, w_X12_guests_89, w_X12_guests_95, w_X12_guests_100, this]
        · have e2 : a2 = 3 := toI (n := 3) (by omega) e
          subst e2
          have i2 : (3 : Int32).toInt = 3 := by decide
          refine ⟨gSh nG S (nJ m) 5 5, fun Q kk => goX ?_, fun h1 hv t w Q kk => goM hv (by decide) (by decide) ?_⟩
          · have := xGuestsIn (lo := 5) (hi := 5) b hm kk
            simp [w_X11_guests_12, w_X11_guests_76, w_X11_guests_83, this, i2]
          · have := mGuestsSh (s := m) (a2 := 3) (lo := 5) (hi := 5) (h1 := wI h1 12 0 0 0) (by rw [vs_12_0, hv]) w kk
            simp [w_X12_guests_28, w_X12_guests_52, w_X12_guests_60, w_X12_guests_69, w_X12_guests_78, w_X12_guests_83, w_X12_guests_89, w_X12_guests_99, w_X12_guests_100, this]
        · have e2 : a2 = 4 := toI (n := 4) (by omega) e
          subst e2
          have i2 : (4 : Int32).toInt = 4 := by decide
          refine ⟨gSh nG S (nJ m) 6 6, fun Q kk => goX ?_, fun h1 hv t w Q kk => goM hv (by decide) (by decide) ?_⟩
          · have := xGuestsIn (lo := 6) (hi := 6) b hm kk
            simp [w_X11_guests_12, w_X11_guests_84, w_X11_guests_93, this, i2]
          · have := mGuestsSh (s := m) (a2 := 4) (lo := 6) (hi := 6) (h1 := wI h1 12 0 0 0) (by rw [vs_12_0, hv]) w kk
            simp [w_X12_guests_28, w_X12_guests_52, w_X12_guests_60, w_X12_guests_69, w_X12_guests_78, w_X12_guests_87, w_X12_guests_89, w_X12_guests_99, w_X12_guests_100, this]
  · refine ⟨-1, fun Q kk => ?_, fun h1 hv t w Q kk => ?_⟩
    · exact xShipAt b (fun s hs e => absurd ⟨s, hs, e⟩ c) (fun _ => ⟨fun z => absurd rfl z, fun _ => kk⟩)
    · simp only [w_X12_guests_0, w_X12_guests_9, w_X12_guests_26, wp_X12_guests, gv_12_26, vs_12_0, hv, c35]
      exact ⟨fun _ => kk, fun z => ⟨fun _ => kk, fun z2 => absurd ((rng2 (show nS < 1000000 by omega)).mp ⟨z, z2⟩) c⟩⟩
theorem jCount {a1 : Int32} (j : J h) : wp_X11_count a1 h fun rx h1 => wp_X12_count a1 h1 fun rm h2 => rm = rx ∧ J h2 := by
  refine JQ j fun nS nT nU nG T S jr => ?_
  have b := jr.bd
  obtain ⟨s1, s2, s3, s4, s5⟩ := b.st.1
  obtain ⟨r1, r2, r3⟩ := b.rcd
  obtain ⟨n, p1, p2, p3, p4⟩ := jr.2.2.2.2.2.2.1
  have cS := b.wm.1.cS.1
  have cT := b.wm.1.cT.1
  have cU := b.wm.1.cU.1
  have cG := b.wm.1.cG.1
  by_cases c2 : a1.toInt < 0 ∨ 9 < a1.toInt
  · refine ⟨-1, fun Q kk => ⟨fun _ => kk, ?_⟩, fun h1 hv t w Q kk => ⟨fun _ => kk, ?_⟩⟩
    · exact ⟨fun z => by exfalso; omega, fun z => by exfalso; omega, fun z => by exfalso; omega, fun z => by exfalso; omega, fun z => by exfalso; omega, fun z => by exfalso; omega, fun z => by exfalso; omega, fun z => by exfalso; omega, fun z => by exfalso; omega, fun z => by exfalso; omega⟩
    · exact ⟨fun z => by exfalso; omega, fun z => by exfalso; omega, fun z => by exfalso; omega, fun z => by exfalso; omega, fun z => by exfalso; omega, fun z => by exfalso; omega, fun z => by exfalso; omega, fun z => by exfalso; omega, fun z => by exfalso; omega, fun z => by exfalso; omega⟩
  · have c3 : a1.toInt = 0 ∨ a1.toInt = 1 ∨ a1.toInt = 2 ∨ a1.toInt = 3 ∨ a1.toInt = 4 ∨ a1.toInt = 5 ∨ a1.toInt = 6 ∨ a1.toInt = 7 ∨ a1.toInt = 8 ∨ a1.toInt = 9 := by omega
    rcases c3 with e | e | e | e | e | e | e | e | e | e
    · refine ⟨nJ nS, fun Q kk => ?_, fun h1 hv t w Q kk => ?_⟩
      · simp [wp_X11_count, w_X11_count_0, e, w_X11_count_56, s1, kk]
      · simp [wp_X12_count, w_X12_count_0, e, w_X12_count_60, gv_12_26, vs_12_0, hv, cS, kk]
    · refine ⟨nJ nT, fun Q kk => ?_, fun h1 hv t w Q kk => ?_⟩
      · simp [wp_X11_count, w_X11_count_0, e, w_X11_count_61, s2, kk]
      · simp [wp_X12_count, w_X12_count_0, e, w_X12_count_65, gv_12_30, vs_12_0, hv, cT, kk]
    · refine ⟨nJ nU, fun Q kk => ?_, fun h1 hv t w Q kk => ?_⟩
      · simp [wp_X11_count, w_X11_count_0, e, w_X11_count_66, s3, kk]
      · simp [wp_X12_count, w_X12_count_0, e, w_X12_count_70, gv_12_35, vs_12_0, hv, cU, kk]
    · refine ⟨nJ nG, fun Q kk => ?_, fun h1 hv t w Q kk => ?_⟩
      · simp [wp_X11_count, w_X11_count_0, e, w_X11_count_71, s4, kk]
      · simp [wp_X12_count, w_X12_count_0, e, w_X12_count_75, gv_12_41, vs_12_0, hv, cG, kk]
    · refine ⟨S 12 24, fun Q kk => ?_, fun h1 hv t w Q kk => ?_⟩
      · simp [wp_X11_count, w_X11_count_0, e, w_X11_count_76, r1, kk]
      · simp [wp_X12_count, w_X12_count_0, e, w_X12_count_80, gv_12_24, vs_12_0, hv, kk]
    · refine ⟨gTh nG S 2 4, fun Q kk => ?_, fun h1 hv t w Q kk => ?_⟩
      · have := xTown b.wm b.st b.gd kk
        simp [wp_X11_count, w_X11_count_0, e, w_X11_count_81, w_X11_count_85, this]
      · have hv0 : view (wI h1 12 0 0 0) = S := by rw [vs_12_0, hv]
        have : wp_X12_guestsThat 2 4 (wI h1 12 0 0 0) Q := mGuestsThat (nS := nS) (nT := nT) (nU := nU) (nG := nG) (by rw [hv0]; exact w.1) (by rw [hv0]; exact kk)
        simp [wp_X12_count, w_X12_count_0, e, w_X12_count_85, w_X12_count_91, this]
    · refine ⟨S 12 55, fun Q kk => ?_, fun h1 hv t w Q kk => ?_⟩
      · simp [wp_X11_count, w_X11_count_0, e, w_X11_count_86, r3, kk]
      · simp [wp_X12_count, w_X12_count_0, e, w_X12_count_92, gv_12_55, vs_12_0, hv, kk]
    · refine ⟨S 12 56, fun Q kk => ?_, fun h1 hv t w Q kk => ?_⟩
      · simp [wp_X11_count, w_X11_count_0, e, w_X11_count_91, r2, kk]
      · simp [wp_X12_count, w_X12_count_0, e, w_X12_count_97, gv_12_56, vs_12_0, hv, kk]
    · refine ⟨nJ T.length, fun Q kk => ?_, fun h1 hv t w Q kk => ?_⟩
      · obtain ⟨x, t1, t2, t3, t4, t5⟩ := jr.2.2.2.2.2.2.2.1.1
        simp [wp_X11_count, w_X11_count_0, e, w_X11_count_96, t1, t3, kk]
      · obtain ⟨bb, t1, t2, t3, t4, t5⟩ := t
        have e1 : gI (wI h1 12 0 0 0) 12 0 15 = nJ bb := by simp [gI_wI]; exact t2
        have e2 : gI (wI h1 12 0 0 0) 110 0 bb = nJ T.length := by simp [gI_wI]; exact t3
        have v2 : vp_in (nJ bb) 2 := (vp_nJ (by omega)).mpr t1
        simp [wp_X12_count, w_X12_count_0, e, w_X12_count_102, e1, e2, v2, tN_nJ (n := bb) (by omega), kk]
    · refine ⟨nJ n, fun Q kk => ?_, fun h1 hv t w Q kk => ?_⟩
      · simp [wp_X11_count, w_X11_count_0, e, w_X11_count_107, p1, kk]
      · simp [wp_X12_count, w_X12_count_0, e, w_X12_count_112, gv_12_2, vs_12_0, hv, p2, kk]
end
