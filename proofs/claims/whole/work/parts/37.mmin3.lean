section
variable {nS nT nU nG : Nat} {T : TextT}
theorem mLoadOL {t : Nat} {a3 : Int32} {Q : Hp → Prop} (ht : t < nT) (hT : nT ≤ 6) : ∀ (M : List Nat) (h : Hp) (P : Int32 → Hp → Prop), (∀ r h2, w_X12_loads_10093 Q (M.length + 1) (nJ t) 1 a3 r h2 → P r h2) → Sel (view h 144) nG M (fun g => decide (gI h 160 0 g ≠ 0)) → WM nS nT nU nG (view h) → (∀ h', view h' = M.foldl (ldO nT nG t) (view h) → Fm h h' → w_X12_loads_10191 Q (nJ t) 1 a3 (-1) h') → wp_X12_nextBy_t h P
  | [], h, P, hP, hs, w, kk => by
    refine mNext_t w.1 (fun _ => hP _ _ ⟨fun _ => kk h rfl (Fm.refl h), fun c => absurd (by decide) c⟩) fun g hg => ?_
    have hs : nx _ _ _ = none := hs
    rw [hs] at hg; cases hg
  | g :: M, h, P, hP, hs, w, kk => by
    have hn := w.1.cG
    refine mNext_t w.1 (fun z => by rw [hs.1] at z; cases z) fun g' hg' => ?_
    obtain rfl : g = g' := by rw [hs.1] at hg'; exact Option.some.inj hg'
    have hg := nx_lt hg'
    have v60 : vp_in (nJ g) 60 := (vp_nJ (by omega)).mpr (by omega)
    have v6 : vp_in (nJ t) 6 := (vp_nJ (by omega)).mpr (by omega)
    have tg : tN (nJ g) = g := tN_nJ (by omega)
    have tt : tN (nJ t) = t := tN_nJ (by omega)
    refine hP _ _ ⟨fun c => absurd c (nJ_ge0 (by omega)), fun _ => ?_⟩
    have step : ∀ (z : Int32) (h2 : Hp), view h2 = ldO nT nG t (view h) g → Fm h h2 → (∀ x, gI h2 160 0 x = if x = g then 0 else gI h 160 0 x) → w_X12_loads_10180 (w_X12_loads_10093 Q (M.length + 1)) Q (nJ t) 1 a3 (nJ g) z h2 := by
      intro z h2 hv f h160
      have k4 : ∀ x, x ≠ g → view h2 144 x = view h 144 x := by
        intro x hx
        rw [hv]; unfold ldO; split
        · rfl
        · simp [us_app, hx]
      refine mLoadOL ht hT M h2 _ (fun r h3 z => z) ?_ (by rw [hv]; exact w.ldO) fun h' hv' f' => kk h' ?_ (f.trans f')
      · have e : Sel (view h 144) nG M (fun x => decide (gI h2 160 0 x ≠ 0)) := by
          refine sel_ask (fun x _ => ?_) hs.2
          rw [h160]
          by_cases c : x = g
          · simp [c]
          · simp [c]
        refine sel_congr (fun x _ hx => k4 x fun c => ?_) e
        rw [c, h160] at hx; simp at hx
      · rw [hv', hv]; rfl
    have n10 : ¬ ((1 : Int32) = 0) := by decide
    have w1 : WC nS nT nU nG (view (wI h 160 0 g 0)) := by rw [vs_160]; exact w.1
    have nochange : ∀ z : Int32, ldO nT nG t (view h) g = view h → w_X12_loads_10180 (w_X12_loads_10093 Q (M.length + 1)) Q (nJ t) 1 a3 (nJ g) z (wI h 160 0 g 0) := fun z e => step z _ (by rw [vs_160, e]) ((Fm.refl h).wA rfl (by omega)) (fun x => by simp [gI_wI])
    have change : ∀ z : Int32, ldO nT nG t (view h) g = us (us (us (view h) 148 g 1) 149 g (nJ t)) 154 g (-1) → w_X12_loads_10180 (w_X12_loads_10093 Q (M.length + 1)) Q (nJ t) 1 a3 (nJ g) z (wI (wI (wI (wI h 160 0 g 0) 148 0 g 1) 149 0 g (nJ t)) 154 0 g (-1)) := fun z e => step z _ (by rw [e]; simp only [gv_101, vw_101, gv_127, vw_127, gv_128, vw_128, gv_129, vw_129, gv_131, vw_131, gv_132, vw_132, gv_133, vw_133, gv_134, vw_134, gv_136, vw_136, gv_137, vw_137, gv_138, vw_138, gv_139, vw_139, gv_140, vw_140, gv_142, vw_142, gv_143, vw_143, gv_144, vw_144, gv_145, vw_145, gv_146, vw_146, gv_147, vw_147, gv_148, vw_148, gv_149, vw_149, gv_150, vw_150, gv_151, vw_151, gv_152, vw_152, gv_153, vw_153, gv_154, vw_154, gv_158, vw_158, gv_159, vw_159, gv_162, vw_162, gv_164, vw_164, gv_12_2, vw_12_2, gv_12_24, vw_12_24, gv_12_25, vw_12_25, gv_12_26, vw_12_26, gv_12_30, vw_12_30, gv_12_35, vw_12_35, gv_12_41, vw_12_41, gv_12_55, vw_12_55, gv_12_56, vw_12_56, gv_12_57, vw_12_57, gv_12_61, vw_12_61, gv_12_63, vw_12_63, vs_160, vs_165, vs_119, vs_120, vs_121, vs_122, vs_123, vs_12_0]) (((((Fm.refl h).wA rfl (by omega)).wA rfl (by omega)).wA rfl (by omega)).wA rfl (by omega)) (fun x => by simp [gI_wI])
    refine ⟨v60, v6, ?_⟩
    refine mGuestsIn w1 ?_
    rw [tg, tt, vs_160, gv_143, gv_132, vs_160]
    refine ⟨fun c => ⟨fun _ => nochange _ ?_, fun z => absurd rfl z⟩, fun c => ⟨fun z => absurd z n10, fun _ => ?_⟩⟩
    · unfold ldO; rw [if_pos (by first | exact Or.inl c | exact c)]
    · refine ⟨fun z => absurd z n10, fun _ => ?_⟩
      refine mComing w1 ?_
      rw [vs_160]
      refine ⟨v60, ?_⟩
      rw [tg, gv_12_25, gv_143, vs_160]
      refine ⟨fun c2 => nochange _ ?_, fun c2 => ⟨v60, v60, v60, ?_⟩⟩
      · unfold ldO; rw [if_pos (Or.inr c2)]
      · rw [tg]
        exact change _ (by unfold ldO; rw [if_neg (fun z => z.elim c c2)])
theorem mLoadHL {t : Nat} {a3 : Int32} {Q : Hp → Prop} (ht : t < nT) (hT : nT ≤ 6) : ∀ (M : List Nat) (h : Hp) (P : Int32 → Hp → Prop), (∀ r h2, w_X12_loads_20093 Q (M.length + 1) (nJ t) 0 a3 r h2 → P r h2) → Sel (view h 154) nG M (fun g => decide (gI h 160 0 g ≠ 0)) → WM nS nT nU nG (view h) → (∀ h', view h' = M.foldl (ldH nG t) (view h) → Fm h h' → w_X12_loads_20191 Q (nJ t) 0 a3 (-1) h') → wp_X12_nextBy_s h P
  | [], h, P, hP, hs, w, kk => by
    refine mNext_s w.1 (fun _ => hP _ _ ⟨fun _ => kk h rfl (Fm.refl h), fun c => absurd (by decide) c⟩) fun g hg => ?_
    have hs : nx _ _ _ = none := hs
    rw [hs] at hg; cases hg
  | g :: M, h, P, hP, hs, w, kk => by
    have hn := w.1.cG
    refine mNext_s w.1 (fun z => by rw [hs.1] at z; cases z) fun g' hg' => ?_
    obtain rfl : g = g' := by rw [hs.1] at hg'; exact Option.some.inj hg'
    have hg := nx_lt hg'
    have v60 : vp_in (nJ g) 60 := (vp_nJ (by omega)).mpr (by omega)
    have v6 : vp_in (nJ t) 6 := (vp_nJ (by omega)).mpr (by omega)
    have tg : tN (nJ g) = g := tN_nJ (by omega)
    have tt : tN (nJ t) = t := tN_nJ (by omega)
    refine hP _ _ ⟨fun c => absurd c (nJ_ge0 (by omega)), fun _ => ?_⟩
    have step : ∀ (z : Int32) (h2 : Hp), view h2 = ldH nG t (view h) g → Fm h h2 → (∀ x, gI h2 160 0 x = if x = g then 0 else gI h 160 0 x) → w_X12_loads_20180 (w_X12_loads_20093 Q (M.length + 1)) Q (nJ t) 0 a3 (nJ g) z h2 := by
      intro z h2 hv f h160
      have k4 : ∀ x, x ≠ g → view h2 154 x = view h 154 x := by
        intro x hx
        rw [hv]; unfold ldH; split
        · rfl
        · simp [us_app, hx]
      refine mLoadHL ht hT M h2 _ (fun r h3 z => z) ?_ (by rw [hv]; exact w.ldH) fun h' hv' f' => kk h' ?_ (f.trans f')
      · have e : Sel (view h 154) nG M (fun x => decide (gI h2 160 0 x ≠ 0)) := by
          refine sel_ask (fun x _ => ?_) hs.2
          rw [h160]
          by_cases c : x = g
          · simp [c]
          · simp [c]
        refine sel_congr (fun x _ hx => k4 x fun c => ?_) e
        rw [c, h160] at hx; simp at hx
      · rw [hv', hv]; rfl
    have n10 : ¬ ((1 : Int32) = 0) := by decide
    have w1 : WC nS nT nU nG (view (wI h 160 0 g 0)) := by rw [vs_160]; exact w.1
    have nochange : ∀ z : Int32, ldH nG t (view h) g = view h → w_X12_loads_20180 (w_X12_loads_20093 Q (M.length + 1)) Q (nJ t) 0 a3 (nJ g) z (wI h 160 0 g 0) := fun z e => step z _ (by rw [vs_160, e]) ((Fm.refl h).wA rfl (by omega)) (fun x => by simp [gI_wI])
    have change : ∀ z : Int32, ldH nG t (view h) g = us (us (us (view h) 148 g 1) 149 g (nJ t)) 154 g (-1) → w_X12_loads_20180 (w_X12_loads_20093 Q (M.length + 1)) Q (nJ t) 0 a3 (nJ g) z (wI (wI (wI (wI h 160 0 g 0) 148 0 g 1) 149 0 g (nJ t)) 154 0 g (-1)) := fun z e => step z _ (by rw [e]; simp only [gv_101, vw_101, gv_127, vw_127, gv_128, vw_128, gv_129, vw_129, gv_131, vw_131, gv_132, vw_132, gv_133, vw_133, gv_134, vw_134, gv_136, vw_136, gv_137, vw_137, gv_138, vw_138, gv_139, vw_139, gv_140, vw_140, gv_142, vw_142, gv_143, vw_143, gv_144, vw_144, gv_145, vw_145, gv_146, vw_146, gv_147, vw_147, gv_148, vw_148, gv_149, vw_149, gv_150, vw_150, gv_151, vw_151, gv_152, vw_152, gv_153, vw_153, gv_154, vw_154, gv_158, vw_158, gv_159, vw_159, gv_162, vw_162, gv_164, vw_164, gv_12_2, vw_12_2, gv_12_24, vw_12_24, gv_12_25, vw_12_25, gv_12_26, vw_12_26, gv_12_30, vw_12_30, gv_12_35, vw_12_35, gv_12_41, vw_12_41, gv_12_55, vw_12_55, gv_12_56, vw_12_56, gv_12_57, vw_12_57, gv_12_61, vw_12_61, gv_12_63, vw_12_63, vs_160, vs_165, vs_119, vs_120, vs_121, vs_122, vs_123, vs_12_0]) (((((Fm.refl h).wA rfl (by omega)).wA rfl (by omega)).wA rfl (by omega)).wA rfl (by omega)) (fun x => by simp [gI_wI])
    refine ⟨v60, v6, ?_⟩
    refine mGuestsIn w1 ?_
    rw [tg, tt, vs_160, gv_143, gv_132, vs_160]
    refine ⟨fun c => ⟨fun _ => nochange _ ?_, fun z => absurd rfl z⟩, fun c => ⟨fun z => absurd z n10, fun _ => ?_⟩⟩
    · unfold ldH; rw [if_pos (by first | exact Or.inl c | exact c)]
    · refine ⟨fun _ => ⟨v60, v60, v60, ?_⟩, fun z => absurd rfl z⟩
      rw [tg]
      exact change _ (by unfold ldH; rw [if_neg c])
theorem mLeaveO {t : Nat} {s : Nat} {h : Hp} {Q : Hp → Prop} {b : Bool} (ht : t < nT) (hs : s < nS) (w : WM nS nT nU nG (view h)) (k0 : ¬ (b = true ∨ anyB (askH (view h) (nJ s)) nG = true) → Q h) (k1 : (b = true ∨ anyB (askH (view h) (nJ s)) nG = true) → ∀ h', view h' = us (us (view h) 133 t 1) 134 t (view h 127 s) → Fm h h' → Q h') : ∀ (j i : Nat) (x : Int32), i + j = nG → x = bI (b = true ∨ anyB (askH (view h) (nJ s)) i = true) → w_X12_loads_10209 Q (j + 1) (nJ t) 1 (nJ s) x (nJ i) h := by
  have hT := w.1.cT
  have hG := w.1.cG
  have hS := w.1.cS
  have v6 : vp_in (nJ t) 6 := (vp_nJ (by omega)).mpr (by omega)
  have v4 : vp_in (nJ s) 4 := (vp_nJ (by omega)).mpr (by omega)
  have tt : tN (nJ t) = t := tN_nJ (by omega)
  have ts : tN (nJ s) = s := tN_nJ (by omega)
  have n10 : ¬ ((1 : Int32) = 0) := by decide
  intro j
  induction j with
  | zero =>
    intro i x e hx
    obtain rfl : i = nG := by omega
    refine ⟨fun _ => ⟨fun c => ?_, fun c => ?_⟩, fun c => absurd ?_ c⟩
    · rw [hx, bI_0] at c; exact k0 c
    · rw [hx, bI_0] at c
      have k1 := k1 (Decidable.not_not.mp c)
      simp only [w_X12_loads_10268, w_X12_loads_10281, w_X12_loads_10277, w_X12_loads_10282, w_X12_loads_10295, v6, v4, tt, ts, true_and]
      have fin := fun x => k1 (wI (wI h 133 0 t x) 134 0 t (gI (wI h 133 0 t x) 127 0 s))
      first
        | exact ⟨fun z => absurd z n10, fun _ => fin _ (by simp only [gv_101, vw_101, gv_127, vw_127, gv_128, vw_128, gv_129, vw_129, gv_131, vw_131, gv_132, vw_132, gv_133, vw_133, gv_134, vw_134, gv_136, vw_136, gv_137, vw_137, gv_138, vw_138, gv_139, vw_139, gv_140, vw_140, gv_142, vw_142, gv_143, vw_143, gv_144, vw_144, gv_145, vw_145, gv_146, vw_146, gv_147, vw_147, gv_148, vw_148, gv_149, vw_149, gv_150, vw_150, gv_151, vw_151, gv_152, vw_152, gv_153, vw_153, gv_154, vw_154, gv_158, vw_158, gv_159, vw_159, gv_162, vw_162, gv_164, vw_164, gv_12_2, vw_12_2, gv_12_24, vw_12_24, gv_12_25, vw_12_25, gv_12_26, vw_12_26, gv_12_30, vw_12_30, gv_12_35, vw_12_35, gv_12_41, vw_12_41, gv_12_55, vw_12_55, gv_12_56, vw_12_56, gv_12_57, vw_12_57, gv_12_61, vw_12_61, gv_12_63, vw_12_63, vs_160, vs_165, vs_119, vs_120, vs_121, vs_122, vs_123, vs_12_0]; simp [us_app]) (((Fm.refl h).wA rfl (by omega)).wA rfl (by omega))⟩
        | exact ⟨fun _ => fin _ (by simp only [gv_101, vw_101, gv_127, vw_127, gv_128, vw_128, gv_129, vw_129, gv_131, vw_131, gv_132, vw_132, gv_133, vw_133, gv_134, vw_134, gv_136, vw_136, gv_137, vw_137, gv_138, vw_138, gv_139, vw_139, gv_140, vw_140, gv_142, vw_142, gv_143, vw_143, gv_144, vw_144, gv_145, vw_145, gv_146, vw_146, gv_147, vw_147, gv_148, vw_148, gv_149, vw_149, gv_150, vw_150, gv_151, vw_151, gv_152, vw_152, gv_153, vw_153, gv_154, vw_154, gv_158, vw_158, gv_159, vw_159, gv_162, vw_162, gv_164, vw_164, gv_12_2, vw_12_2, gv_12_24, vw_12_24, gv_12_25, vw_12_25, gv_12_26, vw_12_26, gv_12_30, vw_12_30, gv_12_35, vw_12_35, gv_12_41, vw_12_41, gv_12_55, vw_12_55, gv_12_56, vw_12_56, gv_12_57, vw_12_57, gv_12_61, vw_12_61, gv_12_63, vw_12_63, vs_160, vs_165, vs_119, vs_120, vs_121, vs_122, vs_123, vs_12_0]; simp [us_app]) (((Fm.refl h).wA rfl (by omega)).wA rfl (by omega)), fun z => absurd trivial z⟩
        | exact ⟨fun _ => fin _ (by simp only [gv_101, vw_101, gv_127, vw_127, gv_128, vw_128, gv_129, vw_129, gv_131, vw_131, gv_132, vw_132, gv_133, vw_133, gv_134, vw_134, gv_136, vw_136, gv_137, vw_137, gv_138, vw_138, gv_139, vw_139, gv_140, vw_140, gv_142, vw_142, gv_143, vw_143, gv_144, vw_144, gv_145, vw_145, gv_146, vw_146, gv_147, vw_147, gv_148, vw_148, gv_149, vw_149, gv_150, vw_150, gv_151, vw_151, gv_152, vw_152, gv_153, vw_153, gv_154, vw_154, gv_158, vw_158, gv_159, vw_159, gv_162, vw_162, gv_164, vw_164, gv_12_2, vw_12_2, gv_12_24, vw_12_24, gv_12_25, vw_12_25, gv_12_26, vw_12_26, gv_12_30, vw_12_30, gv_12_35, vw_12_35, gv_12_41, vw_12_41, gv_12_55, vw_12_55, gv_12_56, vw_12_56, gv_12_57, vw_12_57, gv_12_61, vw_12_61, gv_12_63, vw_12_63, vs_160, vs_165, vs_119, vs_120, vs_121, vs_122, vs_123, vs_12_0]; simp [us_app]) (((Fm.refl h).wA rfl (by omega)).wA rfl (by omega)), fun z => absurd rfl z⟩
    · rw [gv_12_41, hG.1]; exact Int32.le_refl _
  | succ j ih =>
    intro i x e hx
    have i60 : i < 60 := by omega
    refine ⟨fun c => absurd c ?_, fun _ => ?_⟩
    · rw [gv_12_41, hG.1, nJ_le (by omega) (by omega)]; omega
    · have step : ∀ y, y = bI (b = true ∨ anyB (askH (view h) (nJ s)) (i + 1) = true) → w_X12_loads_10209 Q (j + 1) (nJ t) 1 (nJ s) y (nJ i + 1) h := fun y hy => by
        rw [nJ_succ]; exact ih (i + 1) y (by omega) hy
      have yes : (b = true ∨ anyB (askH (view h) (nJ s)) i = true ∨ askH (view h) (nJ s) i = true) → w_X12_loads_10209 Q (j + 1) (nJ t) 1 (nJ s) 1 (nJ i + 1) h := fun z => step 1 (by
        rw [bI, if_pos]
        rw [anyB, Bool.or_eq_true]; exact z)
      have no : ¬ (b = true ∨ anyB (askH (view h) (nJ s)) i = true ∨ askH (view h) (nJ s) i = true) → w_X12_loads_10209 Q (j + 1) (nJ t) 1 (nJ s) 0 (nJ i + 1) h := fun z => step 0 (by
        rw [bI, if_neg]
        rw [anyB, Bool.or_eq_true]; exact z)
      have n00 : ((0 : Int32) = 0) = True := eq_self _
      simp only [w_X12_loads_10218, w_X12_loads_10223, w_X12_loads_10227, w_X12_loads_10234, w_X12_loads_10237, w_X12_loads_10240, w_X12_loads_10247, w_X12_loads_10250, w_X12_loads_10254, w_X12_loads_10255, mWantsOut i60, mWantsHome i60, n10, n00, hx, bI_0, false_implies, true_implies, not_true_eq_false, not_false_eq_true, true_and, and_true]
      refine ⟨fun c => yes ?_, fun c => ⟨fun c2 => no ?_, fun c2 => yes ?_⟩⟩
      · rcases Decidable.not_not.mp c with z | z
        · exact Or.inl z
        · exact Or.inr (Or.inl z)
      · rintro (z | z | z)
        · exact c (Or.inl z)
        · exact c (Or.inr z)
        · exact c2 (of_decide_eq_true z)
      · exact Or.inr (Or.inr (decide_eq_true (Decidable.not_not.mp c2)))
theorem mLoadsO {h : Hp} {t : Nat} {Q : Hp → Prop} (w : WM nS nT nU nG (view h)) (ht : t < nT) (c0 : view h 133 t = 0) (kk : ∀ h', view h' = mLdO nT nG t (view h) → Fm h h' → Q h') : wp_X12_loads (nJ t) h Q := by
  have hT := w.1.cT
  have hG := w.1.cG
  have v6 : vp_in (nJ t) 6 := (vp_nJ (by omega)).mpr (by omega)
  have tt : tN (nJ t) = t := tN_nJ (by omega)
  obtain ⟨s, hs, es⟩ := w.1.shipOf t ht
  have hS := w.1.cS
  have n10 : ¬ ((1 : Int32) = 0) := by decide
  suffices H : ∀ j i h1, i + j = nG → view h1 = view h → Fm h h1 → (∀ g, g < i → gI h1 160 0 g = bI (askO (view h) (nJ s) g = true)) → w_X12_loads_25 Q (j + 1) (nJ t) 1 (nJ s) (nJ i) h1 by
    have H := H nG 0 h (by omega) rfl (Fm.refl h) (fun g hg => by omega)
    refine ⟨v6, fun c => ?_, fun c => ?_⟩
    · rw [tt, gv_133] at c
      exact absurd c0 c
    · rw [tt, gv_133] at c
      refine ⟨v6, nG + 1, ?_⟩
      rw [tt, gv_131, es]; exact H
  intro j
  induction j with
  | zero =>
    intro i h1 e hv f ha
    obtain rfl : i = nG := by omega
    refine ⟨fun _ => ?_, fun c => absurd ?_ c⟩
    · have hSel : Sel (view h1 144) i (selL (view h 144) i i (askO (view h) (nJ s))) (fun g => decide (gI h1 160 0 g ≠ 0)) := by
        rw [hv]
        refine sel_ask (fun x hx => ?_) selL_ok
        rw [ha x hx]
        by_cases c : askO (view h) (nJ s) x = true
        · simp [bI, c]
        · simp [bI, c]
      have go : wp_X12_nextBy_t h1 (fun r2 h2 => ∃ N, w_X12_loads_10093 Q N (nJ t) 1 (nJ s) r2 h2) := by
        refine mLoadOL (nS := nS) (nT := nT) (nU := nU) ht (by omega) (selL (view h 144) i i (askO (view h) (nJ s))) h1 _ (fun r h2 z => ⟨_, z⟩) hSel (by rw [hv]; exact w) fun h' hv' f' => ?_
        rw [hv] at hv'
        have w' : WM nS nT nU i (view h') := by rw [hv']; exact fold_inv (fun S g _ w => w.ldO) w
        refine mGuestsIn w'.1 ?_
        have kk' : (0 < gIn i (view h') (nJ t) ∨ anyB (askH (view h') (nJ s)) i = true) → ∀ h2, view h2 = us (us (view h') 133 t 1) 134 t (view h' 127 s) → Fm h' h2 → Q h2 := fun c h2 hv2 f2 => by
          refine kk h2 ?_ ((f.trans f').trans f2)
          unfold mLdO
          simp only [es, ← hv']
          rw [if_pos c, tN_nJ (by omega)]; exact hv2
        have kk0 : ¬ (0 < gIn i (view h') (nJ t) ∨ anyB (askH (view h') (nJ s)) i = true) → Q h' := fun c => by
          refine kk h' ?_ (f.trans f')
          unfold mLdO
          simp only [es, ← hv']
          rw [if_neg c]
        refine ⟨fun c => ⟨i + 1, ?_⟩, fun c => ⟨i + 1, ?_⟩⟩
        · have c' : ¬ 0 < gIn i (view h') (nJ t) := fun z => i32pos.mpr z c
          refine mLeaveO (b := false) ht hs w' (fun z => kk0 (by rintro (y | y); exact c' y; exact z (Or.inr y))) (fun z => kk' (by rcases z with y | y; cases y; exact Or.inr y)) i 0 0 (by omega) ?_
          rw [bI, if_neg]; rintro (y | y) <;> cases y
        · have c' : 0 < gIn i (view h') (nJ t) := i32pos.mp c
          refine mLeaveO (b := true) ht hs w' (fun z => absurd (Or.inl rfl) z) (fun z => kk' (Or.inl c')) i 0 1 (by omega) ?_
          rw [bI, if_pos (Or.inl rfl)]
      exact ⟨fun z => absurd z n10, fun _ => go⟩
    · rw [gv_12_41, hv, hG.1]; exact Int32.le_refl _
  | succ j ih =>
    intro i h1 e hv f ha
    have i60 : i < 60 := by omega
    refine ⟨fun c => absurd c ?_, fun _ => ?_⟩
    · rw [gv_12_41, hv, hG.1, nJ_le (by omega) (by omega)]; omega
    · have v60 : vp_in (nJ i) 60 := (vp_nJ (by omega)).mpr (by omega)
      have ti : tN (nJ i) = i := tN_nJ (by omega)
      have n0 : ∀ (p : Prop) [Decidable p], vp_nar .boolean (bI p) = bI p := by
        intro p _; unfold bI; split <;> rfl
      have n00 : ((0 : Int32) = 0) = True := eq_self _
      simp only [w_X12_loads_34, w_X12_loads_44, w_X12_loads_51, w_X12_loads_54, w_X12_loads_61, mWantsOut i60, mWantsHome i60, v60, ti, true_and, hv, n0, n10, n00, false_implies, true_implies, not_true_eq_false, not_false_eq_true, and_true, nJ_succ]
      refine ih (i + 1) _ (by omega) (by rw [vs_160]; exact hv) (f.wA rfl (by omega)) fun g hg => ?_
      rw [gI_wI]
      by_cases c : g = i
      · rw [if_pos ⟨rfl, rfl, c⟩, c]
        unfold bI askO
        simp only [decide_eq_true_eq]
      · rw [if_neg (fun z => c z.2.2)]; exact ha g (by omega)
theorem mLeaveH {t : Nat} {s : Nat} {h : Hp} {Q : Hp → Prop} {b : Bool} (ht : t < nT) (hs : s < nS) (w : WM nS nT nU nG (view h)) (k0 : ¬ (b = true ∨ anyB (askO (view h) (nJ s)) nG = true) → Q h) (k1 : (b = true ∨ anyB (askO (view h) (nJ s)) nG = true) → ∀ h', view h' = us (us (view h) 133 t 3) 134 t (view h 127 s) → Fm h h' → Q h') : ∀ (j i : Nat) (x : Int32), i + j = nG → x = bI (b = true ∨ anyB (askO (view h) (nJ s)) i = true) → w_X12_loads_20209 Q (j + 1) (nJ t) 0 (nJ s) x (nJ i) h := by
  have hT := w.1.cT
  have hG := w.1.cG
  have hS := w.1.cS
  have v6 : vp_in (nJ t) 6 := (vp_nJ (by omega)).mpr (by omega)
  have v4 : vp_in (nJ s) 4 := (vp_nJ (by omega)).mpr (by omega)
  have tt : tN (nJ t) = t := tN_nJ (by omega)
  have ts : tN (nJ s) = s := tN_nJ (by omega)
  have n10 : ¬ ((1 : Int32) = 0) := by decide
  intro j
  induction j with
  | zero =>
    intro i x e hx
    obtain rfl : i = nG := by omega
    refine ⟨fun _ => ⟨fun c => ?_, fun c => ?_⟩, fun c => absurd ?_ c⟩
    · rw [hx, bI_0] at c; exact k0 c
    · rw [hx, bI_0] at c
      have k1 := k1 (Decidable.not_not.mp c)
      simp only [w_X12_loads_20268, w_X12_loads_20281, w_X12_loads_20277, w_X12_loads_20282, w_X12_loads_20295, v6, v4, tt, ts, true_and]
      have fin := fun x => k1 (wI (wI h 133 0 t x) 134 0 t (gI (wI h 133 0 t x) 127 0 s))
      first
        | exact ⟨fun z => absurd z n10, fun _ => fin _ (by simp only [gv_101, vw_101, gv_127, vw_127, gv_128, vw_128, gv_129, vw_129, gv_131, vw_131, gv_132, vw_132, gv_133, vw_133, gv_134, vw_134, gv_136, vw_136, gv_137, vw_137, gv_138, vw_138, gv_139, vw_139, gv_140, vw_140, gv_142, vw_142, gv_143, vw_143, gv_144, vw_144, gv_145, vw_145, gv_146, vw_146, gv_147, vw_147, gv_148, vw_148, gv_149, vw_149, gv_150, vw_150, gv_151, vw_151, gv_152, vw_152, gv_153, vw_153, gv_154, vw_154, gv_158, vw_158, gv_159, vw_159, gv_162, vw_162, gv_164, vw_164, gv_12_2, vw_12_2, gv_12_24, vw_12_24, gv_12_25, vw_12_25, gv_12_26, vw_12_26, gv_12_30, vw_12_30, gv_12_35, vw_12_35, gv_12_41, vw_12_41, gv_12_55, vw_12_55, gv_12_56, vw_12_56, gv_12_57, vw_12_57, gv_12_61, vw_12_61, gv_12_63, vw_12_63, vs_160, vs_165, vs_119, vs_120, vs_121, vs_122, vs_123, vs_12_0]; simp [us_app]) (((Fm.refl h).wA rfl (by omega)).wA rfl (by omega))⟩
        | exact ⟨fun _ => fin _ (by simp only [gv_101, vw_101, gv_127, vw_127, gv_128, vw_128, gv_129, vw_129, gv_131, vw_131, gv_132, vw_132, gv_133, vw_133, gv_134, vw_134, gv_136, vw_136, gv_137, vw_137, gv_138, vw_138, gv_139, vw_139, gv_140, vw_140, gv_142, vw_142, gv_143, vw_143, gv_144, vw_144, gv_145, vw_145, gv_146, vw_146, gv_147, vw_147, gv_148, vw_148, gv_149, vw_149, gv_150, vw_150, gv_151, vw_151, gv_152, vw_152, gv_153, vw_153, gv_154, vw_154, gv_158, vw_158, gv_159, vw_159, gv_162, vw_162, gv_164, vw_164, gv_12_2, vw_12_2, gv_12_24, vw_12_24, gv_12_25, vw_12_25, gv_12_26, vw_12_26, gv_12_30, vw_12_30, gv_12_35, vw_12_35, gv_12_41, vw_12_41, gv_12_55, vw_12_55, gv_12_56, vw_12_56, gv_12_57, vw_12_57, gv_12_61, vw_12_61, gv_12_63, vw_12_63, vs_160, vs_165, vs_119, vs_120, vs_121, vs_122, vs_123, vs_12_0]; simp [us_app]) (((Fm.refl h).wA rfl (by omega)).wA rfl (by omega)), fun z => absurd trivial z⟩
        | exact ⟨fun _ => fin _ (by simp only [gv_101, vw_101, gv_127, vw_127, gv_128, vw_128, gv_129, vw_129, gv_131, vw_131, gv_132, vw_132, gv_133, vw_133, gv_134, vw_134, gv_136, vw_136, gv_137, vw_137, gv_138, vw_138, gv_139, vw_139, gv_140, vw_140, gv_142, vw_142, gv_143, vw_143, gv_144, vw_144, gv_145, vw_145, gv_146, vw_146, gv_147, vw_147, gv_148, vw_148, gv_149, vw_149, gv_150, vw_150, gv_151, vw_151, gv_152, vw_152, gv_153, vw_153, gv_154, vw_154, gv_158, vw_158, gv_159, vw_159, gv_162, vw_162, gv_164, vw_164, gv_12_2, vw_12_2, gv_12_24, vw_12_24, gv_12_25, vw_12_25, gv_12_26, vw_12_26, gv_12_30, vw_12_30, gv_12_35, vw_12_35, gv_12_41, vw_12_41, gv_12_55, vw_12_55, gv_12_56, vw_12_56, gv_12_57, vw_12_57, gv_12_61, vw_12_61, gv_12_63, vw_12_63, vs_160, vs_165, vs_119, vs_120, vs_121, vs_122, vs_123, vs_12_0]; simp [us_app]) (((Fm.refl h).wA rfl (by omega)).wA rfl (by omega)), fun z => absurd rfl z⟩
    · rw [gv_12_41, hG.1]; exact Int32.le_refl _
  | succ j ih =>
    intro i x e hx
    have i60 : i < 60 := by omega
    refine ⟨fun c => absurd c ?_, fun _ => ?_⟩
    · rw [gv_12_41, hG.1, nJ_le (by omega) (by omega)]; omega
    · have step : ∀ y, y = bI (b = true ∨ anyB (askO (view h) (nJ s)) (i + 1) = true) → w_X12_loads_20209 Q (j + 1) (nJ t) 0 (nJ s) y (nJ i + 1) h := fun y hy => by
        rw [nJ_succ]; exact ih (i + 1) y (by omega) hy
      have yes : (b = true ∨ anyB (askO (view h) (nJ s)) i = true ∨ askO (view h) (nJ s) i = true) → w_X12_loads_20209 Q (j + 1) (nJ t) 0 (nJ s) 1 (nJ i + 1) h := fun z => step 1 (by
        rw [bI, if_pos]
        rw [anyB, Bool.or_eq_true]; exact z)
      have no : ¬ (b = true ∨ anyB (askO (view h) (nJ s)) i = true ∨ askO (view h) (nJ s) i = true) → w_X12_loads_20209 Q (j + 1) (nJ t) 0 (nJ s) 0 (nJ i + 1) h := fun z => step 0 (by
        rw [bI, if_neg]
        rw [anyB, Bool.or_eq_true]; exact z)
      have n00 : ((0 : Int32) = 0) = True := eq_self _
      simp only [w_X12_loads_20218, w_X12_loads_20223, w_X12_loads_20227, w_X12_loads_20234, w_X12_loads_20237, w_X12_loads_20240, w_X12_loads_20247, w_X12_loads_20250, w_X12_loads_20254, w_X12_loads_20255, mWantsOut i60, mWantsHome i60, n10, n00, hx, bI_0, false_implies, true_implies, not_true_eq_false, not_false_eq_true, true_and, and_true]
      refine ⟨fun c => yes ?_, fun c => ⟨fun c2 => no ?_, fun c2 => yes ?_⟩⟩
      · rcases Decidable.not_not.mp c with z | z
        · exact Or.inl z
        · exact Or.inr (Or.inl z)
      · rintro (z | z | z)
        · exact c (Or.inl z)
        · exact c (Or.inr z)
        · exact c2 (of_decide_eq_true z)
      · exact Or.inr (Or.inr (decide_eq_true (Decidable.not_not.mp c2)))
theorem mLoadsH {h : Hp} {t : Nat} {Q : Hp → Prop} (w : WM nS nT nU nG (view h)) (ht : t < nT) (c0 : ¬ view h 133 t = 0) (kk : ∀ h', view h' = mLdH nT nG t (view h) → Fm h h' → Q h') : wp_X12_loads (nJ t) h Q := by
  have hT := w.1.cT
  have hG := w.1.cG
  have v6 : vp_in (nJ t) 6 := (vp_nJ (by omega)).mpr (by omega)
  have tt : tN (nJ t) = t := tN_nJ (by omega)
  obtain ⟨s, hs, es⟩ := w.1.shipOf t ht
  have hS := w.1.cS
  have n10 : ¬ ((1 : Int32) = 0) := by decide
  suffices H : ∀ j i h1, i + j = nG → view h1 = view h → Fm h h1 → (∀ g, g < i → gI h1 160 0 g = bI (askH (view h) (nJ s) g = true)) → w_X12_loads_25 Q (j + 1) (nJ t) 0 (nJ s) (nJ i) h1 by
    have H := H nG 0 h (by omega) rfl (Fm.refl h) (fun g hg => by omega)
    refine ⟨v6, fun c => ?_, fun c => ?_⟩
    · rw [tt, gv_133] at c
      refine ⟨v6, nG + 1, ?_⟩
      rw [tt, gv_131, es]; exact H
    · rw [tt, gv_133] at c
      exact absurd c c0
  intro j
  induction j with
  | zero =>
    intro i h1 e hv f ha
    obtain rfl : i = nG := by omega
    refine ⟨fun _ => ?_, fun c => absurd ?_ c⟩
    · have hSel : Sel (view h1 154) i (selL (view h 154) i i (askH (view h) (nJ s))) (fun g => decide (gI h1 160 0 g ≠ 0)) := by
        rw [hv]
        refine sel_ask (fun x hx => ?_) selL_ok
        rw [ha x hx]
        by_cases c : askH (view h) (nJ s) x = true
        · simp [bI, c]
        · simp [bI, c]
      have go : wp_X12_nextBy_s h1 (fun r2 h2 => ∃ N, w_X12_loads_20093 Q N (nJ t) 0 (nJ s) r2 h2) := by
        refine mLoadHL (nS := nS) (nT := nT) (nU := nU) ht (by omega) (selL (view h 154) i i (askH (view h) (nJ s))) h1 _ (fun r h2 z => ⟨_, z⟩) hSel (by rw [hv]; exact w) fun h' hv' f' => ?_
        rw [hv] at hv'
        have w' : WM nS nT nU i (view h') := by rw [hv']; exact fold_inv (fun S g _ w => w.ldH) w
        refine mGuestsIn w'.1 ?_
        have kk' : (0 < gIn i (view h') (nJ t) ∨ anyB (askO (view h') (nJ s)) i = true) → ∀ h2, view h2 = us (us (view h') 133 t 3) 134 t (view h' 127 s) → Fm h' h2 → Q h2 := fun c h2 hv2 f2 => by
          refine kk h2 ?_ ((f.trans f').trans f2)
          unfold mLdH
          simp only [es, ← hv']
          rw [if_pos c, tN_nJ (by omega)]; exact hv2
        have kk0 : ¬ (0 < gIn i (view h') (nJ t) ∨ anyB (askO (view h') (nJ s)) i = true) → Q h' := fun c => by
          refine kk h' ?_ (f.trans f')
          unfold mLdH
          simp only [es, ← hv']
          rw [if_neg c]
        refine ⟨fun c => ⟨i + 1, ?_⟩, fun c => ⟨i + 1, ?_⟩⟩
        · have c' : ¬ 0 < gIn i (view h') (nJ t) := fun z => i32pos.mpr z c
          refine mLeaveH (b := false) ht hs w' (fun z => kk0 (by rintro (y | y); exact c' y; exact z (Or.inr y))) (fun z => kk' (by rcases z with y | y; cases y; exact Or.inr y)) i 0 0 (by omega) ?_
          rw [bI, if_neg]; rintro (y | y) <;> cases y
        · have c' : 0 < gIn i (view h') (nJ t) := i32pos.mp c
          refine mLeaveH (b := true) ht hs w' (fun z => absurd (Or.inl rfl) z) (fun z => kk' (Or.inl c')) i 0 1 (by omega) ?_
          rw [bI, if_pos (Or.inl rfl)]
      exact ⟨fun _ => go, fun z => absurd rfl z⟩
    · rw [gv_12_41, hv, hG.1]; exact Int32.le_refl _
  | succ j ih =>
    intro i h1 e hv f ha
    have i60 : i < 60 := by omega
    refine ⟨fun c => absurd c ?_, fun _ => ?_⟩
    · rw [gv_12_41, hv, hG.1, nJ_le (by omega) (by omega)]; omega
    · have v60 : vp_in (nJ i) 60 := (vp_nJ (by omega)).mpr (by omega)
      have ti : tN (nJ i) = i := tN_nJ (by omega)
      have n0 : ∀ (p : Prop) [Decidable p], vp_nar .boolean (bI p) = bI p := by
        intro p _; unfold bI; split <;> rfl
      have n00 : ((0 : Int32) = 0) = True := eq_self _
      simp only [w_X12_loads_34, w_X12_loads_44, w_X12_loads_51, w_X12_loads_54, w_X12_loads_61, mWantsOut i60, mWantsHome i60, v60, ti, true_and, hv, n0, n10, n00, false_implies, true_implies, not_true_eq_false, not_false_eq_true, and_true, nJ_succ]
      refine ih (i + 1) _ (by omega) (by rw [vs_160]; exact hv) (f.wA rfl (by omega)) fun g hg => ?_
      rw [gI_wI]
      by_cases c : g = i
      · rw [if_pos ⟨rfl, rfl, c⟩, c]
        unfold bI askH
        simp only [decide_eq_true_eq]
      · rw [if_neg (fun z => c z.2.2)]; exact ha g (by omega)
end
