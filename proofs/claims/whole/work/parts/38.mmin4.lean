section
variable {nS nT nU nG r : Nat} {T : TextT}
def mvT (T : TextT) (nG t : Nat) (S : MSt) : MSt := if S 133 t = 1 ∨ S 133 t = 3 then (if S 134 t - 1 = 0 then mArr T nG t (us S 134 t (S 134 t - 1)) else us S 134 t (S 134 t - 1)) else S
def toT (nG u : Nat) (S : MSt) : MSt := if S 136 u = S 12 24 then mSt nG u S else S
def saS (nT nG s : Nat) (S : MSt) : MSt := if S 128 s = S 12 24 then mSail nT nG s S else S
def ldT (nT nG t : Nat) (S : MSt) : MSt := if S 133 t = 0 then mLdO nT nG t S else if S 133 t = 2 then mLdH nT nG t S else S
def p1 (T : TextT) (nT nG : Nat) (S : MSt) : MSt := itr (mvT T nG) nT S
def p2 (nU nG : Nat) (S : MSt) : MSt := itr (toT nG) nU S
def p3 (nG : Nat) (S : MSt) : MSt := itr enG nG S
def p4 (nS nT nG : Nat) (S : MSt) : MSt := itr (saS nT nG) nS S
def p5 (nT nG r : Nat) (S : MSt) : MSt := if isSh S r = true then S else itr (ldT nT nG) nT S
def q4 (T : TextT) (nS nT nU nG : Nat) (S : MSt) : MSt := p4 nS nT nG (p3 nG (p2 nU nG (p1 T nT nG (us S 12 24 (S 12 24 + 1)))))
def mMin (T : TextT) (nS nT nU nG : Nat) (S : MSt) : MSt := p5 nT nG (tN (q4 T nS nT nU nG S 12 57)) (q4 T nS nT nU nG S)
theorem WM.arr {t : Nat} {S : MSt} (w : WM nS nT nU nG S) : WM nS nT nU nG (mArr T nG t S) := itr_inv (n := nG) (fun _ _ _ w => w.arG) (w.up rfl (by omega)) (Nat.le_refl _)
theorem WM.mvT {t : Nat} {S : MSt} (w : WM nS nT nU nG S) : WM nS nT nU nG (mvT T nG t S) := by
  unfold _root_.Jvm.Pilot.CShoreDayLaw_law_r6654_27fe09.mvT
  split
  · split
    · exact (w.up rfl (by omega)).arr
    · exact w.up rfl (by omega)
  · exact w
theorem stS_146 {t g : Nat} {S : MSt} : stS t S g 146 = S 146 := by
  unfold stS; split <;> (funext x; simp [us_app])
theorem fold_146 {t : Nat} : ∀ {M : List Nat} {S : MSt}, (M.foldl (stS t) S) 146 = S 146
  | [], _ => rfl
  | g :: M, S => (fold_146 (M := M)).trans stS_146
theorem wmSt {t : Nat} {S : MSt} (w : WM nS nT nU nG S) (ht : t < nU) : WM nS nT nU nG (mSt nG t S) := by
  have hm : ∀ g, g ∈ selL (S 144) nG nG (askS S t) → S 146 g ≠ -1 := fun g hg => by
    have := (sel_mem selL_ok g hg).2
    have h4 := (of_decide_eq_true this).2
    have hU := w.1.cU.2
    rw [h4]; exact nJ_ne1 (by omega)
  unfold mSt
  have : ∀ (M : List Nat) (S' : MSt), S' 146 = S 146 → (∀ g, g ∈ M → S 146 g ≠ -1) → WM nS nT nU nG S' → WM nS nT nU nG (M.foldl (stS t) S') := by
    intro M
    induction M with
    | nil => intro S' _ _ w; exact w
    | cons g M ih => intro S' e hM w; exact ih _ (stS_146.trans e) (fun x hx => hM x (List.mem_cons_of_mem _ hx)) (w.stS (by rw [e]; exact hM g (by simp)))
  exact this _ S rfl hm w
theorem WM.toT {u : Nat} {S : MSt} (hu : u < nU) (w : WM nS nT nU nG S) : WM nS nT nU nG (toT nG u S) := by
  unfold _root_.Jvm.Pilot.CShoreDayLaw_law_r6654_27fe09.toT
  split
  · exact wmSt w hu
  · exact w
theorem WM.saS {s : Nat} {S : MSt} (w : WM nS nT nU nG S) : WM nS nT nU nG (saS nT nG s S) := by
  unfold _root_.Jvm.Pilot.CShoreDayLaw_law_r6654_27fe09.saS
  split
  · exact w.sail
  · exact w
theorem WM.mLdO {t : Nat} {S : MSt} (w : WM nS nT nU nG S) : WM nS nT nU nG (mLdO nT nG t S) := by
  unfold _root_.Jvm.Pilot.CShoreDayLaw_law_r6654_27fe09.mLdO
  have w1 : WM nS nT nU nG ((selL (S 144) nG nG (askO S (S 131 t))).foldl (_root_.Jvm.Pilot.CShoreDayLaw_law_r6654_27fe09.ldO nT nG t) S) := fold_inv (fun S g _ w => w.ldO) w
  simp only
  split
  · exact (w1.up rfl (by omega)).up rfl (by omega)
  · exact w1
theorem WM.mLdH {t : Nat} {S : MSt} (w : WM nS nT nU nG S) : WM nS nT nU nG (mLdH nT nG t S) := by
  unfold _root_.Jvm.Pilot.CShoreDayLaw_law_r6654_27fe09.mLdH
  have w1 : WM nS nT nU nG ((selL (S 154) nG nG (askH S (S 131 t))).foldl (_root_.Jvm.Pilot.CShoreDayLaw_law_r6654_27fe09.ldH nG t) S) := fold_inv (fun S g _ w => w.ldH) w
  simp only
  split
  · exact (w1.up rfl (by omega)).up rfl (by omega)
  · exact w1
theorem WM.ldT {t : Nat} {S : MSt} (w : WM nS nT nU nG S) : WM nS nT nU nG (ldT nT nG t S) := by
  unfold _root_.Jvm.Pilot.CShoreDayLaw_law_r6654_27fe09.ldT
  split
  · exact w.mLdO
  · split
    · exact w.mLdH
    · exact w
/-- what a load leaves as it is: rows of shut sea, now -/
def sv (S S' : MSt) : Prop := S' 158 = S 158 ∧ S' 159 = S 159 ∧ S' 12 24 = S 12 24
theorem sv_us {S S' : MSt} (h : sv S S') {k i : Nat} {v : Int32} (hk : ¬ 158 = k) (hk2 : ¬ 159 = k) (hk3 : ¬ 12 = k) : sv S (us S' k i v) := by
  refine ⟨?_, ?_, ?_⟩
  · rw [← h.1]; funext x; rw [us_app, if_neg (fun z => hk z.1)]
  · rw [← h.2.1]; funext x; rw [us_app, if_neg (fun z => hk2 z.1)]
  · rw [← h.2.2, us_app, if_neg (fun z => hk3 z.1)]
theorem sv_ldT {S0 S : MSt} {t : Nat} (h : sv S0 S) : sv S0 (ldT nT nG t S) := by
  have a1 : sv S0 (mLdO nT nG t S) := by
    have w1 : sv S0 ((selL (S 144) nG nG (askO S (S 131 t))).foldl (ldO nT nG t) S) := fold_inv (fun S g _ w => by
      unfold ldO; split
      · exact w
      · exact sv_us (sv_us (sv_us w (by omega) (by omega) (by omega)) (by omega) (by omega) (by omega)) (by omega) (by omega) (by omega)) h
    unfold mLdO; simp only; split
    · exact sv_us (sv_us w1 (by omega) (by omega) (by omega)) (by omega) (by omega) (by omega)
    · exact w1
  have a2 : sv S0 (mLdH nT nG t S) := by
    have w1 : sv S0 ((selL (S 154) nG nG (askH S (S 131 t))).foldl (ldH nG t) S) := fold_inv (fun S g _ w => by
      unfold ldH; split
      · exact w
      · exact sv_us (sv_us (sv_us w (by omega) (by omega) (by omega)) (by omega) (by omega) (by omega)) (by omega) (by omega) (by omega)) h
    unfold mLdH; simp only; split
    · exact sv_us (sv_us w1 (by omega) (by omega) (by omega)) (by omega) (by omega) (by omega)
    · exact w1
  unfold ldT
  split
  · exact a1
  · split
    · exact a2
    · exact h
theorem isSh_sv {S S' : MSt} (h : sv S S') : ∀ (n : Nat), isSh S' n = isSh S n
  | 0 => rfl
  | n + 1 => by rw [isSh, isSh, isSh_sv h n, h.1, h.2.1, h.2.2]
theorem mMinute5 {h : Hp} {Q : Hp → Prop} (w0 : WM nS nT nU nG (view h)) (hr : view h 12 57 = nJ r) (h10 : r ≤ 10) (kk : ∀ h', view h' = p5 nT nG r (view h) → Fm h h' → Q h') : ∃ N, w_X12_minute_161 Q N 0 h := by
  by_cases hsh : isSh (view h) r = true
  · have kk := kk h (by unfold p5; rw [if_pos hsh]) (Fm.refl h)
    refine ⟨1, fun _ => kk, fun _ => ?_⟩
    refine mIsShut hr h10 ⟨fun _ => kk, fun c => ?_⟩
    rw [bI_0] at c; exact absurd hsh c
  · suffices H : ∀ j i h1, i + j = nT → view h1 = itr (ldT nT nG) i (view h) → Fm h h1 → w_X12_minute_161 Q (j + 1) (nJ i) h1 from ⟨nT + 1, H nT 0 h (by omega) rfl (Fm.refl h)⟩
    intro j
    induction j with
    | zero =>
      intro i h1 e hv f
      obtain rfl : i = nT := by omega
      have w : WM nS i nU nG (view h1) := by rw [hv]; exact itr_inv (n := i) (fun _ _ _ w => w.ldT) w0 (Nat.le_refl _)
      refine ⟨fun _ => kk h1 (by unfold p5; rw [if_neg hsh]; exact hv) f, fun c => absurd ?_ c⟩
      rw [gv_12_30, w.1.cT.1]; exact Int32.le_refl _
    | succ j ih =>
      intro i h1 e hv f
      have w : WM nS nT nU nG (view h1) := by rw [hv]; exact itr_inv (n := nT) (fun _ _ _ w => w.ldT) w0 (by omega)
      have hsv : sv (view h) (view h1) := by rw [hv]; exact itr_inv (n := nT) (P := sv (view h)) (fun _ _ _ w => sv_ldT w) ⟨rfl, rfl, rfl⟩ (by omega)
      obtain ⟨r', hr', hr10⟩ := w.1.shuts
      have hn := w.1.cT
      refine ⟨fun c => absurd c ?_, fun _ => ?_⟩
      · rw [gv_12_30, hn.1, nJ_le (by omega) (by omega)]; omega
      · have e57 : view h1 12 57 = nJ r := by
          rw [hv]
          have : ∀ j, j ≤ nT → (itr (ldT nT nG) j (view h)) 12 57 = view h 12 57 := fun j hj => itr_inv (n := nT) (P := fun S => S 12 57 = view h 12 57) (fun i S _ hS => by
            have a1 : (mLdO nT nG i S) 12 57 = view h 12 57 := by
              have w1 : ((selL (S 144) nG nG (askO S (S 131 i))).foldl (ldO nT nG i) S) 12 57 = view h 12 57 := fold_inv (P := fun S => S 12 57 = view h 12 57) (fun S g _ w => by
                unfold ldO; split
                · exact w
                · simp [us_app]; exact w) hS
              unfold mLdO; (try simp only); split
              · simp [us_app]; exact w1
              · exact w1
            have a2 : (mLdH nT nG i S) 12 57 = view h 12 57 := by
              have w1 : ((selL (S 154) nG nG (askH S (S 131 i))).foldl (ldH nG i) S) 12 57 = view h 12 57 := fold_inv (P := fun S => S 12 57 = view h 12 57) (fun S g _ w => by
                unfold ldH; split
                · exact w
                · simp [us_app]; exact w) hS
              unfold mLdH; (try simp only); split
              · simp [us_app]; exact w1
              · exact w1
            show (ldT nT nG i S) 12 57 = _
            unfold ldT
            split
            · exact a1
            · split
              · exact a2
              · exact hS) rfl hj
          rw [this i (by omega)]; exact hr
        refine mIsShut e57 h10 ⟨fun c => ?_, fun _ => ?_⟩
        · rw [bI_0, isSh_sv hsv] at c; exact absurd hsh c
        · have v6 : vp_in (nJ i) 6 := (vp_nJ (by omega)).mpr (by omega)
          have ti : tN (nJ i) = i := tN_nJ (by omega)
          have step : ∀ h2, view h2 = ldT nT nG i (view h1) → Fm h1 h2 → w_X12_minute_161 Q (j + 1) (nJ i + 1) h2 := fun h2 hv2 f2 => by
            rw [nJ_succ]
            refine ih (i + 1) _ (by omega) ?_ (f.trans f2)
            rw [itr, ← hv]; exact hv2
          simp only [w_X12_minute_176, w_X12_minute_185, w_X12_minute_195, w_X12_minute_200, v6, ti, true_and, gv_133]
          refine ⟨fun c => ?_, fun c => ⟨fun c2 => ?_, fun c2 => ?_⟩⟩
          · exact mLoadsO w (by omega) c fun h' hv' f' => step h' (by unfold ldT; rw [if_pos c]; exact hv') f'
          · exact step h1 (by unfold ldT; rw [if_neg c, if_neg c2]) (Fm.refl h1)
          · exact mLoadsH w (by omega) c fun h' hv' f' => step h' (by unfold ldT; rw [if_neg c, if_pos c2]; exact hv') f'
theorem mMinute4 {h : Hp} {Q : Hp → Prop} (w0 : WM nS nT nU nG (view h)) (kk : ∀ h', view h' = p4 nS nT nG (view h) → Fm h h' → ∃ N, w_X12_minute_161 Q N 0 h') : ∃ N, w_X12_minute_127 Q N 0 h := by
  suffices H : ∀ j i h1, i + j = nS → view h1 = itr (saS nT nG) i (view h) → Fm h h1 → w_X12_minute_127 Q (j + 1) (nJ i) h1 from ⟨nS + 1, H nS 0 h (by omega) rfl (Fm.refl h)⟩
  intro j
  induction j with
  | zero =>
    intro i h1 e hv f
    obtain rfl : i = nS := by omega
    have w : WM i nT nU nG (view h1) := by rw [hv]; exact itr_inv (n := i) (fun _ _ _ w => w.saS) w0 (Nat.le_refl _)
    refine ⟨fun _ => kk h1 hv f, fun c => absurd ?_ c⟩
    rw [gv_12_26, w.1.cS.1]; exact Int32.le_refl _
  | succ j ih =>
    intro i h1 e hv f
    have w : WM nS nT nU nG (view h1) := by rw [hv]; exact itr_inv (n := nS) (fun _ _ _ w => w.saS) w0 (by omega)
    have hn := w.1.cS
    refine ⟨fun c => absurd c ?_, fun _ => ?_⟩
    · rw [gv_12_26, hn.1, nJ_le (by omega) (by omega)]; omega
    · have v6 : vp_in (nJ i) 4 := (vp_nJ (by omega)).mpr (by omega)
      have ti : tN (nJ i) = i := tN_nJ (by omega)
      have step : ∀ h2, view h2 = saS nT nG i (view h1) → Fm h1 h2 → w_X12_minute_127 Q (j + 1) (nJ i + 1) h2 := fun h2 hv2 f2 => by
        rw [nJ_succ]
        refine ih (i + 1) _ (by omega) ?_ (f.trans f2)
        rw [itr, ← hv]; exact hv2
      simp only [w_X12_minute_135, w_X12_minute_148, w_X12_minute_153, v6, ti, true_and, gv_128, gv_12_24]
      refine ⟨fun c => ?_, fun c => ?_⟩
      · exact step h1 (by unfold saS; rw [if_neg c]) (Fm.refl h1)
      · exact mSailsOff w fun h' hv' f' => step h' (by unfold saS; rw [if_pos c]; exact hv') f'
theorem mMinute3 {h : Hp} {Q : Hp → Prop} (w0 : WM nS nT nU nG (view h)) (kk : ∀ h', view h' = p3 nG (view h) → Fm h h' → ∃ N, w_X12_minute_127 Q N 0 h') : ∃ N, w_X12_minute_106 Q N 0 h := by
  suffices H : ∀ j i h1, i + j = nG → view h1 = itr enG i (view h) → Fm h h1 → w_X12_minute_106 Q (j + 1) (nJ i) h1 from ⟨nG + 1, H nG 0 h (by omega) rfl (Fm.refl h)⟩
  intro j
  induction j with
  | zero =>
    intro i h1 e hv f
    obtain rfl : i = nG := by omega
    have w : WM nS nT nU i (view h1) := by rw [hv]; exact itr_inv (n := i) (fun _ _ _ w => w.enG) w0 (Nat.le_refl _)
    refine ⟨fun _ => kk h1 hv f, fun c => absurd ?_ c⟩
    rw [gv_12_41, w.1.cG.1]; exact Int32.le_refl _
  | succ j ih =>
    intro i h1 e hv f
    have w : WM nS nT nU nG (view h1) := by rw [hv]; exact itr_inv (n := nG) (fun _ _ _ w => w.enG) w0 (by omega)
    have hn := w.1.cG
    refine ⟨fun c => absurd c ?_, fun _ => ?_⟩
    · rw [gv_12_41, hn.1, nJ_le (by omega) (by omega)]; omega
    · refine mEnds w (by omega) fun h2 hv2 f2 => ?_
      show w_X12_minute_106 Q (j + 1) (nJ i + 1) h2
      rw [nJ_succ]
      refine ih (i + 1) _ (by omega) ?_ (f.trans f2)
      rw [itr, ← hv]; exact hv2
theorem mMinute2 {h : Hp} {Q : Hp → Prop} (w0 : WM nS nT nU nG (view h)) (kk : ∀ h', view h' = p2 nU nG (view h) → Fm h h' → ∃ N, w_X12_minute_106 Q N 0 h') : ∃ N, w_X12_minute_72 Q N 0 h := by
  suffices H : ∀ j i h1, i + j = nU → view h1 = itr (toT nG) i (view h) → Fm h h1 → w_X12_minute_72 Q (j + 1) (nJ i) h1 from ⟨nU + 1, H nU 0 h (by omega) rfl (Fm.refl h)⟩
  intro j
  induction j with
  | zero =>
    intro i h1 e hv f
    obtain rfl : i = nU := by omega
    have w : WM nS nT i nG (view h1) := by rw [hv]; exact itr_inv (n := i) (fun _ _ hi w => w.toT hi) w0 (Nat.le_refl _)
    refine ⟨fun _ => kk h1 hv f, fun c => absurd ?_ c⟩
    rw [gv_12_35, w.1.cU.1]; exact Int32.le_refl _
  | succ j ih =>
    intro i h1 e hv f
    have w : WM nS nT nU nG (view h1) := by rw [hv]; exact itr_inv (n := nU) (fun _ _ hi w => w.toT hi) w0 (by omega)
    have hn := w.1.cU
    refine ⟨fun c => absurd c ?_, fun _ => ?_⟩
    · rw [gv_12_35, hn.1, nJ_le (by omega) (by omega)]; omega
    · have v6 : vp_in (nJ i) 8 := (vp_nJ (by omega)).mpr (by omega)
      have ti : tN (nJ i) = i := tN_nJ (by omega)
      have step : ∀ h2, view h2 = toT nG i (view h1) → Fm h1 h2 → w_X12_minute_72 Q (j + 1) (nJ i + 1) h2 := fun h2 hv2 f2 => by
        rw [nJ_succ]
        refine ih (i + 1) _ (by omega) ?_ (f.trans f2)
        rw [itr, ← hv]; exact hv2
      simp only [w_X12_minute_80, w_X12_minute_93, w_X12_minute_98, v6, ti, true_and, gv_136, gv_12_24]
      refine ⟨fun c => ?_, fun c => ?_⟩
      · exact step h1 (by unfold toT; rw [if_neg c]) (Fm.refl h1)
      · exact mStarts w (by omega) fun h' hv' f' => step h' (by unfold toT; rw [if_pos c]; exact hv') f'
theorem mMinute1 {h : Hp} {Q : Hp → Prop} (w0 : WM nS nT nU nG (view h)) (t0 : TextM h T) (kk : ∀ h', view h' = p1 T nT nG (view h) → Fm h h' → ∃ N, w_X12_minute_72 Q N 0 h') : ∃ N, w_X12_minute_12 Q N 0 h := by
  suffices H : ∀ j i h1, i + j = nT → view h1 = itr (mvT T nG) i (view h) → Fm h h1 → w_X12_minute_12 Q (j + 1) (nJ i) h1 from ⟨nT + 1, H nT 0 h (by omega) rfl (Fm.refl h)⟩
  intro j
  induction j with
  | zero =>
    intro i h1 e hv f
    obtain rfl : i = nT := by omega
    have w : WM nS i nU nG (view h1) := by rw [hv]; exact itr_inv (n := i) (fun _ _ hi w => w.mvT) w0 (Nat.le_refl _)
    refine ⟨fun _ => kk h1 hv f, fun c => absurd ?_ c⟩
    rw [gv_12_30, w.1.cT.1]; exact Int32.le_refl _
  | succ j ih =>
    intro i h1 e hv f
    have w : WM nS nT nU nG (view h1) := by rw [hv]; exact itr_inv (n := nT) (fun _ _ hi w => w.mvT) w0 (by omega)
    have hn := w.1.cT
    refine ⟨fun c => absurd c ?_, fun _ => ?_⟩
    · rw [gv_12_30, hn.1, nJ_le (by omega) (by omega)]; omega
    · have v6 : vp_in (nJ i) 6 := (vp_nJ (by omega)).mpr (by omega)
      have ti : tN (nJ i) = i := tN_nJ (by omega)
      have step : ∀ h2, view h2 = mvT T nG i (view h1) → Fm h1 h2 → w_X12_minute_12 Q (j + 1) (nJ i + 1) h2 := fun h2 hv2 f2 => by
        rw [nJ_succ]
        refine ih (i + 1) _ (by omega) ?_ (f.trans f2)
        rw [itr, ← hv]; exact hv2
      have go : (view h1 133 i = 1 ∨ view h1 133 i = 3) → w_X12_minute_40 (w_X12_minute_12 Q (j + 1)) Q (nJ i) h1 := by
        intro c
        have f1 : Fm h1 (wI h1 134 0 i (gI h1 134 0 i - 1)) := (Fm.refl h1).wA rfl (by omega)
        have hv1 : view (wI h1 134 0 i (gI h1 134 0 i - 1)) = us (view h1) 134 i (view h1 134 i - 1) := by simp only [gv_101, vw_101, gv_127, vw_127, gv_128, vw_128, gv_129, vw_129, gv_131, vw_131, gv_132, vw_132, gv_133, vw_133, gv_134, vw_134, gv_136, vw_136, gv_137, vw_137, gv_138, vw_138, gv_139, vw_139, gv_140, vw_140, gv_142, vw_142, gv_143, vw_143, gv_144, vw_144, gv_145, vw_145, gv_146, vw_146, gv_147, vw_147, gv_148, vw_148, gv_149, vw_149, gv_150, vw_150, gv_151, vw_151, gv_152, vw_152, gv_153, vw_153, gv_154, vw_154, gv_158, vw_158, gv_159, vw_159, gv_162, vw_162, gv_164, vw_164, gv_12_2, vw_12_2, gv_12_24, vw_12_24, gv_12_25, vw_12_25, gv_12_26, vw_12_26, gv_12_30, vw_12_30, gv_12_35, vw_12_35, gv_12_41, vw_12_41, gv_12_55, vw_12_55, gv_12_56, vw_12_56, gv_12_57, vw_12_57, gv_12_61, vw_12_61, gv_12_63, vw_12_63, vs_160, vs_165, vs_119, vs_120, vs_121, vs_122, vs_123, vs_12_0]
        have e1 : gI (wI h1 134 0 i (gI h1 134 0 i - 1)) 134 0 i = view h1 134 i - 1 := by rw [gv_134, hv1]; simp [us_app]
        refine ⟨v6, v6, v6, ?_⟩
        rw [ti, e1]
        refine ⟨fun c2 => step _ ?_ f1, fun c2 => ?_⟩
        · unfold mvT; rw [if_pos c, if_neg c2]; exact hv1
        · refine mArrives (T := T) (nS := nS) (nT := nT) (nU := nU) (nG := nG) (by rw [hv1]; exact w.up rfl (by omega)) ((t0.fm f).fm f1) (by omega) fun h' hv' f' => step h' ?_ (f1.trans f')
          unfold mvT; rw [if_pos c, if_pos c2, ← hv1]; exact hv'
      refine ⟨v6, ?_⟩
      rw [ti, gv_133]
      refine ⟨fun c => go (Or.inl c), fun c => ⟨v6, ?_⟩⟩
      rw [ti, gv_133]
      refine ⟨fun c2 => ?_, fun c2 => go (Or.inr c2)⟩
      exact step h1 (by unfold mvT; rw [if_neg (fun z => z.elim c c2)]) (Fm.refl h1)
theorem WM.p1 {S : MSt} (w : WM nS nT nU nG S) : WM nS nT nU nG (p1 T nT nG S) := itr_inv (n := nT) (fun _ _ _ w => w.mvT) w (Nat.le_refl _)
theorem WM.p2 {S : MSt} (w : WM nS nT nU nG S) : WM nS nT nU nG (p2 nU nG S) := itr_inv (n := nU) (fun _ _ hi w => w.toT hi) w (Nat.le_refl _)
theorem WM.p3 {S : MSt} (w : WM nS nT nU nG S) : WM nS nT nU nG (p3 nG S) := itr_inv (n := nG) (fun _ _ _ w => w.enG) w (Nat.le_refl _)
theorem WM.p4 {S : MSt} (w : WM nS nT nU nG S) : WM nS nT nU nG (p4 nS nT nG S) := itr_inv (n := nS) (fun _ _ _ w => w.saS) w (Nat.le_refl _)
theorem WM.p5 {S : MSt} (w : WM nS nT nU nG S) : WM nS nT nU nG (p5 nT nG r S) := by
  unfold _root_.Jvm.Pilot.CShoreDayLaw_law_r6654_27fe09.p5
  split
  · exact w
  · exact itr_inv (n := nT) (fun _ _ _ w => w.ldT) w (Nat.le_refl _)
theorem WM.q4 {S : MSt} (w : WM nS nT nU nG S) : WM nS nT nU nG (q4 T nS nT nU nG S) := ((((w.up (k := 12) (i := 24) rfl (by omega)).p1).p2).p3).p4
theorem WM.min {S : MSt} (w : WM nS nT nU nG S) : WM nS nT nU nG (mMin T nS nT nU nG S) := w.q4.p5
theorem mMinute {h : Hp} {Q : Hp → Prop} (w : WM nS nT nU nG (view h)) (t : TextM h T) (kk : ∀ h', view h' = mMin T nS nT nU nG (view h) → Fm h h' → Q h') : wp_X12_minute h Q := by
  have f0 : Fm h (wI h 12 0 24 (gI h 12 0 24 + 1)) := (Fm.refl h).w12 (by omega)
  have hv0 : view (wI h 12 0 24 (gI h 12 0 24 + 1)) = us (view h) 12 24 (view h 12 24 + 1) := by simp only [gv_101, vw_101, gv_127, vw_127, gv_128, vw_128, gv_129, vw_129, gv_131, vw_131, gv_132, vw_132, gv_133, vw_133, gv_134, vw_134, gv_136, vw_136, gv_137, vw_137, gv_138, vw_138, gv_139, vw_139, gv_140, vw_140, gv_142, vw_142, gv_143, vw_143, gv_144, vw_144, gv_145, vw_145, gv_146, vw_146, gv_147, vw_147, gv_148, vw_148, gv_149, vw_149, gv_150, vw_150, gv_151, vw_151, gv_152, vw_152, gv_153, vw_153, gv_154, vw_154, gv_158, vw_158, gv_159, vw_159, gv_162, vw_162, gv_164, vw_164, gv_12_2, vw_12_2, gv_12_24, vw_12_24, gv_12_25, vw_12_25, gv_12_26, vw_12_26, gv_12_30, vw_12_30, gv_12_35, vw_12_35, gv_12_41, vw_12_41, gv_12_55, vw_12_55, gv_12_56, vw_12_56, gv_12_57, vw_12_57, gv_12_61, vw_12_61, gv_12_63, vw_12_63, vs_160, vs_165, vs_119, vs_120, vs_121, vs_122, vs_123, vs_12_0]
  have w0 : WM nS nT nU nG (view (wI h 12 0 24 (gI h 12 0 24 + 1))) := by rw [hv0]; exact w.up rfl (by omega)
  refine mMinute1 (T := T) w0 (t.fm f0) fun h1 v1 f1 => ?_
  have w1 : WM nS nT nU nG (view h1) := by rw [v1]; exact w0.p1
  refine mMinute2 w1 fun h2 v2 f2 => ?_
  have w2 : WM nS nT nU nG (view h2) := by rw [v2]; exact w1.p2
  refine mMinute3 w2 fun h3 v3 f3 => ?_
  have w3 : WM nS nT nU nG (view h3) := by rw [v3]; exact w2.p3
  refine mMinute4 w3 fun h4 v4 f4 => ?_
  have w4 : WM nS nT nU nG (view h4) := by rw [v4]; exact w3.p4
  have e4 : view h4 = _root_.Jvm.Pilot.CShoreDayLaw_law_r6654_27fe09.q4 T nS nT nU nG (view h) := by
    rw [v4, v3, v2, v1, hv0]; rfl
  obtain ⟨r, hr, h10⟩ := w4.1.shuts
  refine mMinute5 w4 hr h10 fun h5 v5 f5 => kk h5 ?_ ((((f0.trans f1).trans f2).trans f3).trans f4 |>.trans f5)
  rw [v5]
  unfold mMin
  rw [← e4, hr, tN_nJ (by omega)]
end
