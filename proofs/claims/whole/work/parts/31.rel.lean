/-! the model's state by kinds, and what holds of it -/
theorem gv_101 {h : Hp} {s : Nat} : gI h 101 0 s = view h 101 s := gv rfl
theorem vw_101 {h : Hp} {s : Nat} {v : Int32} : view (wI h 101 0 s v) = us (view h) 101 s v := view_wI rfl
theorem gv_127 {h : Hp} {s : Nat} : gI h 127 0 s = view h 127 s := gv rfl
theorem vw_127 {h : Hp} {s : Nat} {v : Int32} : view (wI h 127 0 s v) = us (view h) 127 s v := view_wI rfl
theorem gv_128 {h : Hp} {s : Nat} : gI h 128 0 s = view h 128 s := gv rfl
theorem vw_128 {h : Hp} {s : Nat} {v : Int32} : view (wI h 128 0 s v) = us (view h) 128 s v := view_wI rfl
theorem gv_129 {h : Hp} {s : Nat} : gI h 129 0 s = view h 129 s := gv rfl
theorem vw_129 {h : Hp} {s : Nat} {v : Int32} : view (wI h 129 0 s v) = us (view h) 129 s v := view_wI rfl
theorem gv_131 {h : Hp} {s : Nat} : gI h 131 0 s = view h 131 s := gv rfl
theorem vw_131 {h : Hp} {s : Nat} {v : Int32} : view (wI h 131 0 s v) = us (view h) 131 s v := view_wI rfl
theorem gv_132 {h : Hp} {s : Nat} : gI h 132 0 s = view h 132 s := gv rfl
theorem vw_132 {h : Hp} {s : Nat} {v : Int32} : view (wI h 132 0 s v) = us (view h) 132 s v := view_wI rfl
theorem gv_133 {h : Hp} {s : Nat} : gI h 133 0 s = view h 133 s := gv rfl
theorem vw_133 {h : Hp} {s : Nat} {v : Int32} : view (wI h 133 0 s v) = us (view h) 133 s v := view_wI rfl
theorem gv_134 {h : Hp} {s : Nat} : gI h 134 0 s = view h 134 s := gv rfl
theorem vw_134 {h : Hp} {s : Nat} {v : Int32} : view (wI h 134 0 s v) = us (view h) 134 s v := view_wI rfl
theorem gv_136 {h : Hp} {s : Nat} : gI h 136 0 s = view h 136 s := gv rfl
theorem vw_136 {h : Hp} {s : Nat} {v : Int32} : view (wI h 136 0 s v) = us (view h) 136 s v := view_wI rfl
theorem gv_137 {h : Hp} {s : Nat} : gI h 137 0 s = view h 137 s := gv rfl
theorem vw_137 {h : Hp} {s : Nat} {v : Int32} : view (wI h 137 0 s v) = us (view h) 137 s v := view_wI rfl
theorem gv_138 {h : Hp} {s : Nat} : gI h 138 0 s = view h 138 s := gv rfl
theorem vw_138 {h : Hp} {s : Nat} {v : Int32} : view (wI h 138 0 s v) = us (view h) 138 s v := view_wI rfl
theorem gv_139 {h : Hp} {s : Nat} : gI h 139 0 s = view h 139 s := gv rfl
theorem vw_139 {h : Hp} {s : Nat} {v : Int32} : view (wI h 139 0 s v) = us (view h) 139 s v := view_wI rfl
theorem gv_140 {h : Hp} {s : Nat} : gI h 140 0 s = view h 140 s := gv rfl
theorem vw_140 {h : Hp} {s : Nat} {v : Int32} : view (wI h 140 0 s v) = us (view h) 140 s v := view_wI rfl
theorem gv_142 {h : Hp} {s : Nat} : gI h 142 0 s = view h 142 s := gv rfl
theorem vw_142 {h : Hp} {s : Nat} {v : Int32} : view (wI h 142 0 s v) = us (view h) 142 s v := view_wI rfl
theorem gv_143 {h : Hp} {s : Nat} : gI h 143 0 s = view h 143 s := gv rfl
theorem vw_143 {h : Hp} {s : Nat} {v : Int32} : view (wI h 143 0 s v) = us (view h) 143 s v := view_wI rfl
theorem gv_144 {h : Hp} {s : Nat} : gI h 144 0 s = view h 144 s := gv rfl
theorem vw_144 {h : Hp} {s : Nat} {v : Int32} : view (wI h 144 0 s v) = us (view h) 144 s v := view_wI rfl
theorem gv_145 {h : Hp} {s : Nat} : gI h 145 0 s = view h 145 s := gv rfl
theorem vw_145 {h : Hp} {s : Nat} {v : Int32} : view (wI h 145 0 s v) = us (view h) 145 s v := view_wI rfl
theorem gv_146 {h : Hp} {s : Nat} : gI h 146 0 s = view h 146 s := gv rfl
theorem vw_146 {h : Hp} {s : Nat} {v : Int32} : view (wI h 146 0 s v) = us (view h) 146 s v := view_wI rfl
theorem gv_147 {h : Hp} {s : Nat} : gI h 147 0 s = view h 147 s := gv rfl
theorem vw_147 {h : Hp} {s : Nat} {v : Int32} : view (wI h 147 0 s v) = us (view h) 147 s v := view_wI rfl
theorem gv_148 {h : Hp} {s : Nat} : gI h 148 0 s = view h 148 s := gv rfl
theorem vw_148 {h : Hp} {s : Nat} {v : Int32} : view (wI h 148 0 s v) = us (view h) 148 s v := view_wI rfl
theorem gv_149 {h : Hp} {s : Nat} : gI h 149 0 s = view h 149 s := gv rfl
theorem vw_149 {h : Hp} {s : Nat} {v : Int32} : view (wI h 149 0 s v) = us (view h) 149 s v := view_wI rfl
theorem gv_150 {h : Hp} {s : Nat} : gI h 150 0 s = view h 150 s := gv rfl
theorem vw_150 {h : Hp} {s : Nat} {v : Int32} : view (wI h 150 0 s v) = us (view h) 150 s v := view_wI rfl
theorem gv_151 {h : Hp} {s : Nat} : gI h 151 0 s = view h 151 s := gv rfl
theorem vw_151 {h : Hp} {s : Nat} {v : Int32} : view (wI h 151 0 s v) = us (view h) 151 s v := view_wI rfl
theorem gv_152 {h : Hp} {s : Nat} : gI h 152 0 s = view h 152 s := gv rfl
theorem vw_152 {h : Hp} {s : Nat} {v : Int32} : view (wI h 152 0 s v) = us (view h) 152 s v := view_wI rfl
theorem gv_153 {h : Hp} {s : Nat} : gI h 153 0 s = view h 153 s := gv rfl
theorem vw_153 {h : Hp} {s : Nat} {v : Int32} : view (wI h 153 0 s v) = us (view h) 153 s v := view_wI rfl
theorem gv_154 {h : Hp} {s : Nat} : gI h 154 0 s = view h 154 s := gv rfl
theorem vw_154 {h : Hp} {s : Nat} {v : Int32} : view (wI h 154 0 s v) = us (view h) 154 s v := view_wI rfl
theorem gv_158 {h : Hp} {s : Nat} : gI h 158 0 s = view h 158 s := gv rfl
theorem vw_158 {h : Hp} {s : Nat} {v : Int32} : view (wI h 158 0 s v) = us (view h) 158 s v := view_wI rfl
theorem gv_159 {h : Hp} {s : Nat} : gI h 159 0 s = view h 159 s := gv rfl
theorem vw_159 {h : Hp} {s : Nat} {v : Int32} : view (wI h 159 0 s v) = us (view h) 159 s v := view_wI rfl
theorem gv_162 {h : Hp} {s : Nat} : gI h 162 0 s = view h 162 s := gv rfl
theorem vw_162 {h : Hp} {s : Nat} {v : Int32} : view (wI h 162 0 s v) = us (view h) 162 s v := view_wI rfl
theorem gv_164 {h : Hp} {s : Nat} : gI h 164 0 s = view h 164 s := gv rfl
theorem vw_164 {h : Hp} {s : Nat} {v : Int32} : view (wI h 164 0 s v) = us (view h) 164 s v := view_wI rfl
theorem gv_12_2 {h : Hp} : gI h 12 0 2 = view h 12 2 := gv rfl
theorem vw_12_2 {h : Hp} {v : Int32} : view (wI h 12 0 2 v) = us (view h) 12 2 v := view_wI rfl
theorem gv_12_24 {h : Hp} : gI h 12 0 24 = view h 12 24 := gv rfl
theorem vw_12_24 {h : Hp} {v : Int32} : view (wI h 12 0 24 v) = us (view h) 12 24 v := view_wI rfl
theorem gv_12_25 {h : Hp} : gI h 12 0 25 = view h 12 25 := gv rfl
theorem vw_12_25 {h : Hp} {v : Int32} : view (wI h 12 0 25 v) = us (view h) 12 25 v := view_wI rfl
theorem gv_12_26 {h : Hp} : gI h 12 0 26 = view h 12 26 := gv rfl
theorem vw_12_26 {h : Hp} {v : Int32} : view (wI h 12 0 26 v) = us (view h) 12 26 v := view_wI rfl
theorem gv_12_30 {h : Hp} : gI h 12 0 30 = view h 12 30 := gv rfl
theorem vw_12_30 {h : Hp} {v : Int32} : view (wI h 12 0 30 v) = us (view h) 12 30 v := view_wI rfl
theorem gv_12_35 {h : Hp} : gI h 12 0 35 = view h 12 35 := gv rfl
theorem vw_12_35 {h : Hp} {v : Int32} : view (wI h 12 0 35 v) = us (view h) 12 35 v := view_wI rfl
theorem gv_12_41 {h : Hp} : gI h 12 0 41 = view h 12 41 := gv rfl
theorem vw_12_41 {h : Hp} {v : Int32} : view (wI h 12 0 41 v) = us (view h) 12 41 v := view_wI rfl
theorem gv_12_55 {h : Hp} : gI h 12 0 55 = view h 12 55 := gv rfl
theorem vw_12_55 {h : Hp} {v : Int32} : view (wI h 12 0 55 v) = us (view h) 12 55 v := view_wI rfl
theorem gv_12_56 {h : Hp} : gI h 12 0 56 = view h 12 56 := gv rfl
theorem vw_12_56 {h : Hp} {v : Int32} : view (wI h 12 0 56 v) = us (view h) 12 56 v := view_wI rfl
theorem gv_12_57 {h : Hp} : gI h 12 0 57 = view h 12 57 := gv rfl
theorem vw_12_57 {h : Hp} {v : Int32} : view (wI h 12 0 57 v) = us (view h) 12 57 v := view_wI rfl
theorem gv_12_61 {h : Hp} : gI h 12 0 61 = view h 12 61 := gv rfl
theorem vw_12_61 {h : Hp} {v : Int32} : view (wI h 12 0 61 v) = us (view h) 12 61 v := view_wI rfl
theorem gv_12_63 {h : Hp} : gI h 12 0 63 = view h 12 63 := gv rfl
theorem vw_12_63 {h : Hp} {v : Int32} : view (wI h 12 0 63 v) = us (view h) 12 63 v := view_wI rfl
theorem vs_160 {h : Hp} {s : Nat} {v : Int32} : view (wI h 160 0 s v) = view h := view_wIs rfl
theorem vs_165 {h : Hp} {s : Nat} {v : Int32} : view (wI h 165 0 s v) = view h := view_wIs rfl
theorem vs_119 {h : Hp} {s : Nat} {v : Int32} : view (wI h 119 0 s v) = view h := view_wIs rfl
theorem vs_120 {h : Hp} {s : Nat} {v : Int32} : view (wI h 120 0 s v) = view h := view_wIs rfl
theorem vs_121 {h : Hp} {s : Nat} {v : Int32} : view (wI h 121 0 s v) = view h := view_wIs rfl
theorem vs_122 {h : Hp} {s : Nat} {v : Int32} : view (wI h 122 0 s v) = view h := view_wIs rfl
theorem vs_123 {h : Hp} {s : Nat} {v : Int32} : view (wI h 123 0 s v) = view h := view_wIs rfl
theorem vs_12_0 {h : Hp} {v : Int32} : view (wI h 12 0 0 v) = view h := view_wIs rfl
def gIn (nG : Nat) (S : MSt) (a : Int32) : Int32 := sm (fun g => if S 148 g = 1 ∧ S 149 g = a then S 143 g else 0) nG
def gTh (nG : Nat) (S : MSt) (lo hi : Int32) : Int32 := sm (fun g => if lo ≤ S 148 g ∧ S 148 g ≤ hi then S 143 g else 0) nG
def gCo (nT nG : Nat) (S : MSt) (a : Int32) : Int32 := gTh nG S 2 4 + sm (fun t => if S 133 t = 1 ∨ nJ t = a then gIn nG S (nJ t) else 0) nT
/-- what no minute changes -/
def WC (nS nT nU nG : Nat) (S : MSt) : Prop := (S 12 26 = nJ nS ∧ nS ≤ 4) ∧ (S 12 30 = nJ nT ∧ nT ≤ 6) ∧ (S 12 35 = nJ nU ∧ nU ≤ 8) ∧ (S 12 41 = nJ nG ∧ nG ≤ 60)
  ∧ (∀ t, t < nT → ∃ s, s < nS ∧ S 131 t = nJ s) ∧ (∀ g, g < nG → ∃ s, s < nS ∧ S 142 g = nJ s) ∧ (∀ g, g < nG → S 146 g = -1 ∨ ∃ u, u < nU ∧ S 146 g = nJ u)
  ∧ (∃ r, S 12 57 = nJ r ∧ r ≤ 10) ∧ (∀ g, g < nG → 1 ≤ (S 143 g).toInt ∧ (S 143 g).toInt ≤ 60) ∧ (0 ≤ (S 12 25).toInt ∧ (S 12 25).toInt ≤ 10000) ∧ (∀ t, t < nT → 0 ≤ (S 132 t).toInt ∧ (S 132 t).toInt ≤ 200)
section
variable {nS nT nU nG : Nat} {S : MSt}
theorem WC.cS (w : WC nS nT nU nG S) : S 12 26 = nJ nS ∧ nS ≤ 4 := w.1
theorem WC.cT (w : WC nS nT nU nG S) : S 12 30 = nJ nT ∧ nT ≤ 6 := w.2.1
theorem WC.cU (w : WC nS nT nU nG S) : S 12 35 = nJ nU ∧ nU ≤ 8 := w.2.2.1
theorem WC.cG (w : WC nS nT nU nG S) : S 12 41 = nJ nG ∧ nG ≤ 60 := w.2.2.2.1
theorem WC.shipOf (w : WC nS nT nU nG S) : ∀ t, t < nT → ∃ s, s < nS ∧ S 131 t = nJ s := w.2.2.2.2.1
theorem WC.home (w : WC nS nT nU nG S) : ∀ g, g < nG → ∃ s, s < nS ∧ S 142 g = nJ s := w.2.2.2.2.2.1
theorem WC.tourOf (w : WC nS nT nU nG S) : ∀ g, g < nG → S 146 g = -1 ∨ ∃ u, u < nU ∧ S 146 g = nJ u := w.2.2.2.2.2.2.1
theorem WC.shuts (w : WC nS nT nU nG S) : ∃ r, S 12 57 = nJ r ∧ r ≤ 10 := w.2.2.2.2.2.2.2.1
theorem WC.many (w : WC nS nT nU nG S) : ∀ g, g < nG → 1 ≤ (S 143 g).toInt ∧ (S 143 g).toInt ≤ 60 := w.2.2.2.2.2.2.2.2.1
theorem WC.town (w : WC nS nT nU nG S) : 0 ≤ (S 12 25).toInt ∧ (S 12 25).toInt ≤ 10000 := w.2.2.2.2.2.2.2.2.2.1
theorem WC.room (w : WC nS nT nU nG S) : ∀ t, t < nT → 0 ≤ (S 132 t).toInt ∧ (S 132 t).toInt ≤ 200 := w.2.2.2.2.2.2.2.2.2.2
end
/-- kinds and slots that a minute writes -/
def vk (k i : Nat) : Bool := (k == 133 || (k == 134 || (k == 140 || (k == 148 || (k == 149 || (k == 150 || (k == 151 || (k == 152 || (k == 153 || k == 154))))))))) || (k == 12 && (i == 24 || (i == 55 || i == 56)))
theorem WC.up {nS nT nU nG : Nat} {S : MSt} (w : WC nS nT nU nG S) {k i : Nat} {v : Int32} (hk : vk k i = true) : WC nS nT nU nG (us S k i v) := by
  have e : ∀ k' i', vk k' i' = false → us S k i v k' i' = S k' i' := by
    intro k' i' h'
    rw [us_app, if_neg]
    rintro ⟨rfl, rfl⟩
    rw [hk] at h'; cases h'
  unfold WC
  simp only [e 12 26 rfl, e 12 30 rfl, e 12 35 rfl, e 12 41 rfl, e 12 57 rfl, e 12 25 rfl, e 131 _ rfl, e 142 _ rfl, e 146 _ rfl, e 143 _ rfl, e 132 _ rfl]
  exact w
/-! words of both sides on a number between two -/
theorem xwithin {a lo hi : Int32} {h : Hp} {Q : Int32 → Hp → Prop} : wp_X11_within a lo hi h Q ↔ Q (bI (lo ≤ a ∧ a ≤ hi)) h := by
  simp only [w_X11_within_15, w_X11_within_14, w_X11_within_10, w_X11_within_5, w_X11_within_0, wp_X11_within, pif, nif]
  by_cases c1 : a < lo
  · have : ¬ (lo ≤ a ∧ a ≤ hi) := fun z => Int32.not_le.mpr c1 z.1
    simp [c1, bI, this]
  · have d1 := Int32.not_lt.mp c1
    by_cases c2 : hi < a
    · have : ¬ (lo ≤ a ∧ a ≤ hi) := fun z => Int32.not_le.mpr c2 z.2
      simp [c1, c2, bI, this]
    · have : (lo ≤ a ∧ a ≤ hi) := ⟨d1, Int32.not_lt.mp c2⟩
      simp [c1, c2, bI, this]
theorem mwithin {a lo hi : Int32} {h : Hp} {Q : Int32 → Hp → Prop} : wp_X12_within a lo hi h Q ↔ Q (bI (lo ≤ a ∧ a ≤ hi)) h := by
  simp only [w_X12_within_15, w_X12_within_14, w_X12_within_10, w_X12_within_5, w_X12_within_0, wp_X12_within, pif, nif]
  by_cases c1 : a < lo
  · have : ¬ (lo ≤ a ∧ a ≤ hi) := fun z => Int32.not_le.mpr c1 z.1
    simp [c1, bI, this]
  · have d1 := Int32.not_lt.mp c1
    by_cases c2 : hi < a
    · have : ¬ (lo ≤ a ∧ a ≤ hi) := fun z => Int32.not_le.mpr c2 z.2
      simp [c1, c2, bI, this]
    · have : (lo ≤ a ∧ a ≤ hi) := ⟨d1, Int32.not_lt.mp c2⟩
      simp [c1, c2, bI, this]
/-! the model's sums -/
theorem mGuestsThat {nS nT nU nG : Nat} {h : Hp} {lo hi : Int32} {Q : Int32 → Hp → Prop} (w : WC nS nT nU nG (view h)) (kk : Q (gTh nG (view h) lo hi) h) : wp_X12_guestsThat lo hi h Q := by
  have hn := w.cG
  suffices H : ∀ j i, i + j = nG → w_X12_guestsThat_5 Q (j + 1) lo hi (sm (fun g => if lo ≤ (view h) 148 g ∧ (view h) 148 g ≤ hi then (view h) 143 g else 0) i) (nJ i) h from ⟨nG + 1, H nG 0 (by omega)⟩
  intro j
  induction j with
  | zero =>
    intro i e
    obtain rfl : i = nG := by omega
    refine ⟨fun _ => kk, fun c => absurd ?_ c⟩
    rw [gv_12_41, hn.1]; exact Int32.le_refl _
  | succ j ih =>
    intro i e
    have ih := ih (i + 1) (by omega)
    refine ⟨fun c => absurd c ?_, fun _ => ?_⟩
    · rw [gv_12_41, hn.1, nJ_le (by omega) (by omega)]; omega
    · have h60 : i < 60 := by omega
      simp (disch := omega) only [w_X12_guestsThat_49, w_X12_guestsThat_41, w_X12_guestsThat_40, w_X12_guestsThat_30, w_X12_guestsThat_27, w_X12_guestsThat_14, w_X12_guestsThat_0, wp_X12_guestsThat, mwithin, vp_nJ, tN_nJ, nJ_succ, bI_0, gv_148, gv_143, h60, true_and]
      rw [sm] at ih
      refine ⟨fun c => ?_, fun c => ?_⟩
      · rw [if_neg c] at ih; exact ih
      · rw [if_pos (Decidable.not_not.mp c)] at ih; exact ih
theorem mGuestsIn {nS nT nU nG : Nat} {h : Hp} {a : Int32} {Q : Int32 → Hp → Prop} (w : WC nS nT nU nG (view h)) (kk : Q (gIn nG (view h) a) h) : wp_X12_guestsIn a h Q := by
  have hn := w.cG
  suffices H : ∀ j i, i + j = nG → w_X12_guestsIn_4 Q (j + 1) a (sm (fun g => if (view h) 148 g = 1 ∧ (view h) 149 g = a then (view h) 143 g else 0) i) (nJ i) h from ⟨nG + 1, H nG 0 (by omega)⟩
  intro j
  induction j with
  | zero =>
    intro i e
    obtain rfl : i = nG := by omega
    refine ⟨fun _ => kk, fun c => absurd ?_ c⟩
    rw [gv_12_41, hn.1]; exact Int32.le_refl _
  | succ j ih =>
    intro i e
    have ih := ih (i + 1) (by omega)
    refine ⟨fun c => absurd c ?_, fun _ => ?_⟩
    · rw [gv_12_41, hn.1, nJ_le (by omega) (by omega)]; omega
    · have h60 : i < 60 := by omega
      simp (disch := omega) only [w_X12_guestsIn_51, w_X12_guestsIn_43, w_X12_guestsIn_42, w_X12_guestsIn_33, w_X12_guestsIn_23, w_X12_guestsIn_12, w_X12_guestsIn_0, wp_X12_guestsIn, vp_nJ, tN_nJ, nJ_succ, gv_148, gv_143, gv_149, h60, true_and]
      rw [sm] at ih
      refine ⟨fun c => ?_, fun c => ⟨fun c2 => ?_, fun c2 => ?_⟩⟩
      · rw [if_neg (fun z => c z.1)] at ih; exact ih
      · rw [if_neg (fun z => c2 z.2)] at ih; exact ih
      · rw [if_pos ⟨c, c2⟩] at ih; exact ih
