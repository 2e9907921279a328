section
variable {nS nT nU nG : Nat} {T : TextT}
/-! who is through -/
def enG (g : Nat) (S : MSt) : MSt := if (S 148 g = 2 ∧ S 150 g = S 12 24) ∨ (S 148 g = 3 ∧ S 12 24 = S 136 (tN (S 146 g)) + S 137 (tN (S 146 g))) then us (us S 148 g 4) 154 g (S 12 24) else S
theorem WM.enG {g : Nat} {S : MSt} (w : WM nS nT nU nG S) : WM nS nT nU nG (enG g S) := by
  unfold _root_.Jvm.Pilot.CShoreDayLaw_law_r6654_27fe09.enG
  split
  · exact (w.up8 (by decide)).up rfl (by omega)
  · exact w
theorem mEnds {h : Hp} {g : Nat} {Q : Hp → Prop} (w : WM nS nT nU nG (view h)) (hg : g < nG) (kk : ∀ h', view h' = enG g (view h) → Fm h h' → Q h') : wp_X12_ends (nJ g) h Q := by
  have hg60 : g < 60 := by have := w.1.cG.2; omega
  have vg : vp_in (nJ g) 60 := (vp_nJ (by omega)).mpr hg60
  have tg : tN (nJ g) = g := tN_nJ (by omega)
  have yes : ((view h 148 g = 2 ∧ view h 150 g = view h 12 24) ∨ (view h 148 g = 3 ∧ view h 12 24 = view h 136 (tN (view h 146 g)) + view h 137 (tN (view h 146 g)))) → Q (wI (wI h 148 0 g 4) 154 0 g (gI (wI h 148 0 g 4) 12 0 24)) := by
    intro c
    refine kk _ ?_ (((Fm.refl h).wA rfl (by omega)).wA rfl (by omega))
    unfold enG; rw [if_pos c]; simp only [gv_101, vw_101, gv_127, vw_127, gv_128, vw_128, gv_129, vw_129, gv_131, vw_131, gv_132, vw_132, gv_133, vw_133, gv_134, vw_134, gv_136, vw_136, gv_137, vw_137, gv_138, vw_138, gv_139, vw_139, gv_140, vw_140, gv_142, vw_142, gv_143, vw_143, gv_144, vw_144, gv_145, vw_145, gv_146, vw_146, gv_147, vw_147, gv_148, vw_148, gv_149, vw_149, gv_150, vw_150, gv_151, vw_151, gv_152, vw_152, gv_153, vw_153, gv_154, vw_154, gv_158, vw_158, gv_159, vw_159, gv_162, vw_162, gv_164, vw_164, gv_12_2, vw_12_2, gv_12_24, vw_12_24, gv_12_25, vw_12_25, gv_12_26, vw_12_26, gv_12_30, vw_12_30, gv_12_35, vw_12_35, gv_12_41, vw_12_41, gv_12_55, vw_12_55, gv_12_56, vw_12_56, gv_12_57, vw_12_57, gv_12_61, vw_12_61, gv_12_63, vw_12_63, vs_160, vs_165, vs_119, vs_120, vs_121, vs_122, vs_123, vs_12_0]; simp [us_app]
  have no : ¬ ((view h 148 g = 2 ∧ view h 150 g = view h 12 24) ∨ (view h 148 g = 3 ∧ view h 12 24 = view h 136 (tN (view h 146 g)) + view h 137 (tN (view h 146 g)))) → Q h := by
    intro c
    refine kk _ ?_ (Fm.refl h)
    unfold enG; rw [if_neg c]
  have n10 : ¬ ((1 : Int32) = 0) := by decide
  simp only [w_X12_ends_100, w_X12_ends_83, w_X12_ends_79, w_X12_ends_74, w_X12_ends_73, w_X12_ends_69, w_X12_ends_39, w_X12_ends_28, w_X12_ends_27, w_X12_ends_23, w_X12_ends_10, w_X12_ends_0, wp_X12_ends, vg, tg, true_and, gv_148, gv_150, gv_146, gv_136, gv_137, gv_12_24, n10, not_false_eq_true, true_implies, false_implies, and_true, not_true_eq_false]
  simp only [gv_101, vw_101, gv_127, vw_127, gv_128, vw_128, gv_129, vw_129, gv_131, vw_131, gv_132, vw_132, gv_133, vw_133, gv_134, vw_134, gv_136, vw_136, gv_137, vw_137, gv_138, vw_138, gv_139, vw_139, gv_140, vw_140, gv_142, vw_142, gv_143, vw_143, gv_144, vw_144, gv_145, vw_145, gv_146, vw_146, gv_147, vw_147, gv_148, vw_148, gv_149, vw_149, gv_150, vw_150, gv_151, vw_151, gv_152, vw_152, gv_153, vw_153, gv_154, vw_154, gv_158, vw_158, gv_159, vw_159, gv_162, vw_162, gv_164, vw_164, gv_12_2, vw_12_2, gv_12_24, vw_12_24, gv_12_25, vw_12_25, gv_12_26, vw_12_26, gv_12_30, vw_12_30, gv_12_35, vw_12_35, gv_12_41, vw_12_41, gv_12_55, vw_12_55, gv_12_56, vw_12_56, gv_12_57, vw_12_57, gv_12_61, vw_12_61, gv_12_63, vw_12_63, vs_160, vs_165, vs_119, vs_120, vs_121, vs_122, vs_123, vs_12_0] at yes
  refine ⟨fun c => ⟨fun c3 => ?_, fun c3 => ?_⟩, fun c => ⟨fun c2 => ⟨fun c3 => ?_, fun c3 => ?_⟩, fun c2 => ⟨fun c3 => ?_, fun c3 => ?_⟩⟩⟩
  · exact no (by rintro (z | z); exact c z.1; exact c3 z.1)
  · rcases w.1.tourOf g hg with e | ⟨u, hu, e⟩
    · exact absurd e (w.2 g hg c3)
    · have hu8 : u < 8 := by have := w.1.cU.2; omega
      rw [e, tN_nJ (by omega)] at yes no ⊢
      have v8 : vp_in (nJ u) 8 := (vp_nJ (by omega)).mpr hu8
      refine ⟨v8, v8, fun c4 => ?_, fun c4 => ?_⟩
      · exact no (by rintro (z | z); exact c z.1; exact c4 z.2)
      · exact yes (Or.inr ⟨c3, c4⟩)
  · exact no (by rintro (z | z); exact c2 z.2; exact c3 z.1)
  · exact absurd (c.symm.trans c3) (by decide)
  · exact yes (Or.inl ⟨c, c2⟩)
  · exact absurd (c.symm.trans c3) (by decide)
/-! a ship sails -/
def saG (s g : Nat) (S : MSt) : MSt := if S 142 g = nJ s ∧ (1 ≤ S 148 g ∧ S 148 g ≤ 4) then us (us (us S 148 g 6) 149 g (-1)) 154 g (-1) else S
def saT (s t : Nat) (S : MSt) : MSt := us S 133 t (if S 131 t = nJ s then 4 else S 133 t)
def mSail (nT nG s : Nat) (S : MSt) : MSt := itr (saT s) nT (itr (saG s) nG S)
theorem WM.saG {s g : Nat} {S : MSt} (w : WM nS nT nU nG S) : WM nS nT nU nG (saG s g S) := by
  unfold _root_.Jvm.Pilot.CShoreDayLaw_law_r6654_27fe09.saG
  split
  · exact ((w.up8 (by decide)).up rfl (by omega)).up rfl (by omega)
  · exact w
theorem WM.saT {s t : Nat} {S : MSt} (w : WM nS nT nU nG S) : WM nS nT nU nG (saT s t S) := w.up rfl (by omega)
theorem WM.sail {s : Nat} {S : MSt} (w : WM nS nT nU nG S) : WM nS nT nU nG (mSail nT nG s S) :=
  itr_inv (n := nT) (fun _ _ _ w => w.saT) (itr_inv (n := nG) (fun _ _ _ w => w.saG) w (Nat.le_refl _)) (Nat.le_refl _)
theorem mSailsOff {h : Hp} {s : Nat} {Q : Hp → Prop} (w0 : WM nS nT nU nG (view h)) (kk : ∀ h', view h' = mSail nT nG s (view h) → Fm h h' → Q h') : wp_X12_sailsOff (nJ s) h Q := by
  have H2 : ∀ j i h1, i + j = nT → view h1 = itr (saT s) i (itr (saG s) nG (view h)) → Fm h h1 → w_X12_sailsOff_64 Q (j + 1) (nJ s) (nJ i) h1 := by
    intro j
    induction j with
    | zero =>
      intro i h1 e hv f
      obtain rfl : i = nT := by omega
      have w : WM nS i nU nG (view h1) := by rw [hv]; exact itr_inv (n := i) (fun _ _ _ w => w.saT) (itr_inv (n := nG) (fun _ _ _ w => w.saG) w0 (Nat.le_refl _)) (Nat.le_refl _)
      refine ⟨fun _ => kk h1 hv f, fun c => absurd ?_ c⟩
      rw [gv_12_30, w.1.cT.1]; exact Int32.le_refl _
    | succ j ih =>
      intro i h1 e hv f
      have w : WM nS nT nU nG (view h1) := by rw [hv]; exact itr_inv (n := nT) (fun _ _ _ w => w.saT) (itr_inv (n := nG) (fun _ _ _ w => w.saG) w0 (Nat.le_refl _)) (by omega)
      have hn := w.1.cT
      refine ⟨fun c => absurd c ?_, fun _ => ?_⟩
      · rw [gv_12_30, hn.1, nJ_le (by omega) (by omega)]; omega
      · have v6 : vp_in (nJ i) 6 := (vp_nJ (by omega)).mpr (by omega)
        have ti : tN (nJ i) = i := tN_nJ (by omega)
        have step : ∀ x, x = (if view h1 131 i = nJ s then 4 else view h1 133 i) → w_X12_sailsOff_64 Q (j + 1) (nJ s) (nJ i + 1) (wI h1 133 0 i x) := fun x hx => by
          rw [nJ_succ]
          refine ih (i + 1) _ (by omega) ?_ (f.wA rfl (by omega))
          rw [itr, ← hv, vw_133, hx]; rfl
        simp only [w_X12_sailsOff_72, w_X12_sailsOff_87, w_X12_sailsOff_91, w_X12_sailsOff_97, v6, ti, true_and, gv_131, gv_133]
        refine ⟨fun c => step _ ?_, fun c => step _ ?_⟩
        · rw [if_neg c]
        · rw [if_pos c]
  have H1 : ∀ j i h1, i + j = nG → view h1 = itr (saG s) i (view h) → Fm h h1 → w_X12_sailsOff_2 Q (j + 1) (nJ s) (nJ i) h1 := by
    intro j
    induction j with
    | zero =>
      intro i h1 e hv f
      obtain rfl : i = nG := by omega
      have w : WM nS nT nU i (view h1) := by rw [hv]; exact itr_inv (n := i) (fun _ _ _ w => w.saG) w0 (Nat.le_refl _)
      refine ⟨fun _ => ⟨nT + 1, H2 nT 0 h1 (by omega) hv f⟩, fun c => absurd ?_ c⟩
      rw [gv_12_41, w.1.cG.1]; exact Int32.le_refl _
    | succ j ih =>
      intro i h1 e hv f
      have w : WM nS nT nU nG (view h1) := by rw [hv]; exact itr_inv (n := nG) (fun _ _ _ w => w.saG) w0 (by omega)
      have hn := w.1.cG
      refine ⟨fun c => absurd c ?_, fun _ => ?_⟩
      · rw [gv_12_41, hn.1, nJ_le (by omega) (by omega)]; omega
      · have v6 : vp_in (nJ i) 60 := (vp_nJ (by omega)).mpr (by omega)
        have ti : tN (nJ i) = i := tN_nJ (by omega)
        have step : ∀ h2, view h2 = saG s i (view h1) → Fm h1 h2 → w_X12_sailsOff_2 Q (j + 1) (nJ s) (nJ i + 1) h2 := fun h2 hv2 f2 => by
          rw [nJ_succ]
          refine ih (i + 1) _ (by omega) ?_ (f.trans f2)
          rw [itr, ← hv]; exact hv2
        simp only [w_X12_sailsOff_10, w_X12_sailsOff_20, w_X12_sailsOff_31, w_X12_sailsOff_34, w_X12_sailsOff_56, mwithin, v6, ti, true_and, gv_142, gv_148, bI_0]
        refine ⟨fun c => step _ ?_ (Fm.refl _), fun c => ⟨fun c2 => step _ ?_ (Fm.refl _), fun c2 => step _ ?_ ((((Fm.refl h1).wA rfl (by omega)).wA rfl (by omega)).wA rfl (by omega))⟩⟩
        · unfold saG; rw [if_neg (fun z => c z.1)]
        · unfold saG; rw [if_neg (fun z => c2 z.2)]
        · unfold saG; rw [if_pos ⟨c, Decidable.not_not.mp c2⟩]; simp only [gv_101, vw_101, gv_127, vw_127, gv_128, vw_128, gv_129, vw_129, gv_131, vw_131, gv_132, vw_132, gv_133, vw_133, gv_134, vw_134, gv_136, vw_136, gv_137, vw_137, gv_138, vw_138, gv_139, vw_139, gv_140, vw_140, gv_142, vw_142, gv_143, vw_143, gv_144, vw_144, gv_145, vw_145, gv_146, vw_146, gv_147, vw_147, gv_148, vw_148, gv_149, vw_149, gv_150, vw_150, gv_151, vw_151, gv_152, vw_152, gv_153, vw_153, gv_154, vw_154, gv_158, vw_158, gv_159, vw_159, gv_162, vw_162, gv_164, vw_164, gv_12_2, vw_12_2, gv_12_24, vw_12_24, gv_12_25, vw_12_25, gv_12_26, vw_12_26, gv_12_30, vw_12_30, gv_12_35, vw_12_35, gv_12_41, vw_12_41, gv_12_55, vw_12_55, gv_12_56, vw_12_56, gv_12_57, vw_12_57, gv_12_61, vw_12_61, gv_12_63, vw_12_63, vs_160, vs_165, vs_119, vs_120, vs_121, vs_122, vs_123, vs_12_0]
  exact ⟨nG + 1, H1 nG 0 h (by omega) rfl (Fm.refl h)⟩
/-! a tender loads -/
def wOut (S : MSt) (s : Int32) (g : Nat) : Prop := S 142 g = s ∧ S 148 g = 0 ∧ S 145 g ≤ S 12 24
def wHome (S : MSt) (s : Int32) (g : Nat) : Prop := S 142 g = s ∧ S 148 g = 4
def askO (S : MSt) (s : Int32) (g : Nat) : Bool := decide (S 142 g = s ∧ S 148 g = 0 ∧ S 145 g ≤ S 12 24)
def askH (S : MSt) (s : Int32) (g : Nat) : Bool := decide (S 142 g = s ∧ S 148 g = 4)
def ldO (nT nG t : Nat) (S : MSt) (g : Nat) : MSt := if S 132 t - gIn nG S (nJ t) < S 143 g ∨ S 12 25 < gCo nT nG S (nJ t) + S 143 g then S else us (us (us S 148 g 1) 149 g (nJ t)) 154 g (-1)
def ldH (nG t : Nat) (S : MSt) (g : Nat) : MSt := if S 132 t - gIn nG S (nJ t) < S 143 g then S else us (us (us S 148 g 1) 149 g (nJ t)) 154 g (-1)
def anyB (f : Nat → Bool) : Nat → Bool
  | 0 => false
  | n + 1 => anyB f n || f n
def mLdO (nT nG t : Nat) (S : MSt) : MSt :=
  let S1 := (selL (S 144) nG nG (askO S (S 131 t))).foldl (ldO nT nG t) S
  if 0 < gIn nG S1 (nJ t) ∨ anyB (askH S1 (S 131 t)) nG = true then us (us S1 133 t 1) 134 t (S1 127 (tN (S 131 t))) else S1
def mLdH (nT nG t : Nat) (S : MSt) : MSt :=
  let S1 := (selL (S 154) nG nG (askH S (S 131 t))).foldl (ldH nG t) S
  if 0 < gIn nG S1 (nJ t) ∨ anyB (askO S1 (S 131 t)) nG = true then us (us S1 133 t 3) 134 t (S1 127 (tN (S 131 t))) else S1
theorem WM.ldO {t g : Nat} {S : MSt} (w : WM nS nT nU nG S) : WM nS nT nU nG (ldO nT nG t S g) := by
  unfold _root_.Jvm.Pilot.CShoreDayLaw_law_r6654_27fe09.ldO
  split
  · exact w
  · exact ((w.up8 (by decide)).up rfl (by omega)).up rfl (by omega)
theorem WM.ldH {t g : Nat} {S : MSt} (w : WM nS nT nU nG S) : WM nS nT nU nG (ldH nG t S g) := by
  unfold _root_.Jvm.Pilot.CShoreDayLaw_law_r6654_27fe09.ldH
  split
  · exact w
  · exact ((w.up8 (by decide)).up rfl (by omega)).up rfl (by omega)
theorem fold_inv {P : MSt → Prop} {f : MSt → Nat → MSt} : ∀ {M : List Nat} {S : MSt}, (∀ S g, g ∈ M → P S → P (f S g)) → P S → P (M.foldl f S)
  | [], _, _, h => h
  | g :: M, S, hf, h => fold_inv (M := M) (fun S x hx => hf S x (List.mem_cons_of_mem _ hx)) (hf S g (by simp) h)
theorem i32pos {x : Int32} : ¬ x ≤ 0 ↔ 0 < x := Int32.not_le
end
