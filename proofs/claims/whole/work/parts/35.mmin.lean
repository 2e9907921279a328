/-! the model's minute as a function on its state -/
def xm (k : Nat) : Bool := !(k == 12) && !(Nat.ble 115 k)
def Fm (h h' : Hp) : Prop := Fr xm h h' ∧ gI h' 12 0 15 = gI h 12 0 15
theorem Fm.refl (h : Hp) : Fm h h := ⟨Fr.refl h, rfl⟩
theorem Fm.trans {a b c : Hp} (f : Fm a b) (g : Fm b c) : Fm a c := ⟨f.1.trans g.1, g.2.trans f.2⟩
theorem Fm.wA {a b : Hp} (f : Fm a b) {k s : Nat} {v : Int32} (hk : xm k = false) (hk' : ¬ 12 = k) : Fm a (wI b k 0 s v) := ⟨f.1.wI hk, by rw [gI_wI, if_neg (fun z => hk' z.1)]; exact f.2⟩
theorem Fm.w12 {a b : Hp} (f : Fm a b) {s : Nat} {v : Int32} (hs : ¬ 15 = s) : Fm a (wI b 12 0 s v) := ⟨f.1.wI rfl, by rw [gI_wI, if_neg (fun z => hs z.2.2)]; exact f.2⟩
theorem Fm.pb {a b : Hp} (f : Fr (pb 122 123) a b) : Fm a b := by
  refine ⟨fr_le f fun k hk => ?_, by rw [(f 12 rfl).2.1]⟩
  have hk : ¬ k = 12 ∧ ¬ 115 ≤ k := by
    simp only [xm, Bool.and_eq_true, Bool.not_eq_true', beq_eq_false_iff_ne, ne_eq] at hk
    refine ⟨hk.1, fun z => ?_⟩
    have := Nat.ble_eq.mpr z
    rw [this] at hk; cases hk.2
  have h1 : ¬ k = 122 := by omega
  have h2 : ¬ k = 123 := by omega
  simp [_root_.Jvm.Pilot.CShoreDayLaw_law_r6654_27fe09.pb, h1, h2]
theorem view_pb {h h' : Hp} (f : Fr (pb 122 123) h h') : view h' = view h := by
  funext k s
  simp only [view]
  by_cases c : vis k s = true
  · rw [if_pos c, if_pos c]
    have h1 : ¬ k = 122 := fun e => by rw [e] at c; cases c
    have h2 : ¬ k = 123 := fun e => by rw [e] at c; cases c
    rw [(f k (by simp [pb, h1, h2])).2.1]
  · rw [if_neg c, if_neg c]
theorem TextM.fm {h h' : Hp} {T : TextT} (f : Fm h h') (t : TextM h T) : TextM h' T := t.fr f.2 (f.1 110 rfl).2.1 (f.1 111 rfl).2.1 (f.1 112 rfl).2.1 (f.1 113 rfl).2.1 (f.1 114 rfl).2.1
def E3 (nG : Nat) (S : MSt) : Prop := ∀ g, g < nG → S 148 g = 3 → S 146 g ≠ -1
def WM (nS nT nU nG : Nat) (S : MSt) : Prop := WC nS nT nU nG S ∧ E3 nG S
theorem WM.up {nS nT nU nG : Nat} {S : MSt} (w : WM nS nT nU nG S) {k i : Nat} {v : Int32} (hk : vk k i = true) (h8 : ¬ 148 = k) : WM nS nT nU nG (us S k i v) := by
  refine ⟨w.1.up hk, fun g hg => ?_⟩
  have h6 : ¬ 146 = k := fun e => by rw [← e] at hk; cases hk
  rw [us_app, us_app, if_neg (fun z => h8 z.1), if_neg (fun z => h6 z.1)]
  exact w.2 g hg
theorem WM.up8 {nS nT nU nG : Nat} {S : MSt} (w : WM nS nT nU nG S) {i : Nat} {v : Int32} (hv : ¬ v = 3) : WM nS nT nU nG (us S 148 i v) := by
  refine ⟨w.1.up rfl, fun g hg => ?_⟩
  rw [us_app, us_app, if_neg (fun z => by cases z.1 : ¬ (146 = 148 ∧ _))]
  by_cases c : g = i
  · rw [if_pos ⟨rfl, c⟩]; exact fun z => absurd z hv
  · rw [if_neg (fun z => c z.2)]; exact w.2 g hg
theorem itr_inv {P : MSt → Prop} {f : Nat → MSt → MSt} {n : Nat} (hf : ∀ i S, i < n → P S → P (f i S)) {S : MSt} (h : P S) : ∀ {j : Nat}, j ≤ n → P (itr f j S)
  | 0, _ => h
  | j + 1, hj => hf j _ (by omega) (itr_inv hf h (by omega))
def mLand (T : TextT) (S : MSt) (g : Nat) : MSt :=
  us (us (us (us (us (us (us S 148 g 2) 149 g (-1)) 151 g (S 12 24)) 153 g (S 143 g * feeF (knM S g) T)) 12 55 (S 12 55 + S 143 g * feeF (knM S g) T)) 12 56 (S 12 56 + S 143 g)) 150 g (if S 146 g < 0 ∨ S 136 (tN (S 146 g)) < S 12 24 then S 12 24 + S 147 g else -1)
theorem WM.land {nS nT nU nG : Nat} {S : MSt} {T : TextT} {g : Nat} (w : WM nS nT nU nG S) : WM nS nT nU nG (mLand T S g) :=
  (((((((w.up8 (by decide)).up rfl (by omega)).up rfl (by omega)).up rfl (by omega)).up rfl (by omega)).up rfl (by omega)).up rfl (by omega))
theorem knM_us {S : MSt} {g k i : Nat} {v : Int32} (h3 : ¬ 143 = k) (h6 : ¬ 146 = k) (h2 : ¬ 142 = k) (h9 : ¬ 129 = k) (h4 : ¬ 12 = k) : knM (us S k i v) g = knM S g := by
  funext x
  simp only [knM, us_app, h3, h6, h2, h9, h4, false_and, if_false]
section
variable {nS nT nU nG : Nat} {T : TextT}
theorem mLands {h : Hp} {g : Nat} {Q : Hp → Prop} (w : WC nS nT nU nG (view h)) (t : TextM h T) (hg : g < nG) (kk : ∀ h', view h' = mLand T (view h) g → Fm h h' → Q h') : wp_X12_lands (nJ g) h Q := by
  have hg60 : g < 60 := by have := w.cG.2; omega
  have vg : vp_in (nJ g) 60 := (vp_nJ (by omega)).mpr hg60
  have tg : tN (nJ g) = g := tN_nJ (by omega)
  have f1 : Fm h (wI (wI (wI h 148 0 g 2) 149 0 g (-1)) 151 0 g (gI (wI (wI h 148 0 g 2) 149 0 g (-1)) 12 0 24)) := ((((Fm.refl h).wA rfl (by omega)).wA rfl (by omega)).wA rfl (by omega))
  simp only [w_X12_lands_0, w_X12_lands_24, wp_X12_lands, vg, tg, true_and]
  have hv1 : view (wI (wI (wI h 148 0 g 2) 149 0 g (-1)) 151 0 g (gI (wI (wI h 148 0 g 2) 149 0 g (-1)) 12 0 24)) = us (us (us (view h) 148 g 2) 149 g (-1)) 151 g (view h 12 24) := by
    simp only [gv_101, vw_101, gv_127, vw_127, gv_128, vw_128, gv_129, vw_129, gv_131, vw_131, gv_132, vw_132, gv_133, vw_133, gv_134, vw_134, gv_136, vw_136, gv_137, vw_137, gv_138, vw_138, gv_139, vw_139, gv_140, vw_140, gv_142, vw_142, gv_143, vw_143, gv_144, vw_144, gv_145, vw_145, gv_146, vw_146, gv_147, vw_147, gv_148, vw_148, gv_149, vw_149, gv_150, vw_150, gv_151, vw_151, gv_152, vw_152, gv_153, vw_153, gv_154, vw_154, gv_158, vw_158, gv_159, vw_159, gv_162, vw_162, gv_164, vw_164, gv_12_2, vw_12_2, gv_12_24, vw_12_24, gv_12_25, vw_12_25, gv_12_26, vw_12_26, gv_12_30, vw_12_30, gv_12_35, vw_12_35, gv_12_41, vw_12_41, gv_12_55, vw_12_55, gv_12_56, vw_12_56, gv_12_57, vw_12_57, gv_12_61, vw_12_61, gv_12_63, vw_12_63, vs_160, vs_165, vs_119, vs_120, vs_121, vs_122, vs_123, vs_12_0, us_app]; rfl
  refine mFee (T := T) (nS := nS) (nT := nT) (nU := nU) (nG := nG) (by rw [hv1]; exact ((w.up rfl).up rfl).up rfl) (t.fm f1) hg fun h' f => ?_
  have hv2 : view h' = us (us (us (view h) 148 g 2) 149 g (-1)) 151 g (view h 12 24) := (view_pb f).trans hv1
  have f2 : Fm h h' := f1.trans (Fm.pb f)
  rw [hv1, knM_us (by omega) (by omega) (by omega) (by omega) (by omega), knM_us (by omega) (by omega) (by omega) (by omega) (by omega), knM_us (by omega) (by omega) (by omega) (by omega) (by omega)]
  have hm : gI (wI (wI (wI h 148 0 g 2) 149 0 g (-1)) 151 0 g (gI (wI (wI h 148 0 g 2) 149 0 g (-1)) 12 0 24)) 143 0 g = view h 143 g := by
    rw [gv_143, hv1]; simp [us_app]
  rw [hm]
  unfold mLand at kk
  generalize feeF (knM (view h) g) T = fe at kk ⊢
  simp only [w_X12_lands_40, w_X12_lands_57, vg, tg, true_and]
  have fin : ∀ (x : Int32) (h3 : Hp), view h3 = us (us (us (us (us (us (view h) 148 g 2) 149 g (-1)) 151 g (view h 12 24)) 153 g (view h 143 g * fe)) 12 55 (view h 12 55 + view h 143 g * fe)) 12 56 (view h 12 56 + view h 143 g) → Fm h h3 → x = (if view h 146 g < 0 ∨ view h 136 (tN (view h 146 g)) < view h 12 24 then view h 12 24 + view h 147 g else -1) → w_X12_lands_119 Q (nJ g) (nJ g) x h3 := by
    intro x h3 hv f3 hx
    refine ⟨vg, ?_⟩
    rw [tg]
    exact kk _ (by rw [vw_150, hv, hx]) (f3.wA rfl (by omega))
  have hv3 : view (wI (wI (wI h' 153 0 g (view h 143 g * fe)) 12 0 55 (gI (wI h' 153 0 g (view h 143 g * fe)) 12 0 55 + gI (wI h' 153 0 g (view h 143 g * fe)) 153 0 g)) 12 0 56 (gI (wI (wI h' 153 0 g (view h 143 g * fe)) 12 0 55 (gI (wI h' 153 0 g (view h 143 g * fe)) 12 0 55 + gI (wI h' 153 0 g (view h 143 g * fe)) 153 0 g)) 12 0 56 + gI (wI (wI h' 153 0 g (view h 143 g * fe)) 12 0 55 (gI (wI h' 153 0 g (view h 143 g * fe)) 12 0 55 + gI (wI h' 153 0 g (view h 143 g * fe)) 153 0 g)) 143 0 g)) = us (us (us (us (us (us (view h) 148 g 2) 149 g (-1)) 151 g (view h 12 24)) 153 g (view h 143 g * fe)) 12 55 (view h 12 55 + view h 143 g * fe)) 12 56 (view h 12 56 + view h 143 g) := by
    simp only [gv_101, vw_101, gv_127, vw_127, gv_128, vw_128, gv_129, vw_129, gv_131, vw_131, gv_132, vw_132, gv_133, vw_133, gv_134, vw_134, gv_136, vw_136, gv_137, vw_137, gv_138, vw_138, gv_139, vw_139, gv_140, vw_140, gv_142, vw_142, gv_143, vw_143, gv_144, vw_144, gv_145, vw_145, gv_146, vw_146, gv_147, vw_147, gv_148, vw_148, gv_149, vw_149, gv_150, vw_150, gv_151, vw_151, gv_152, vw_152, gv_153, vw_153, gv_154, vw_154, gv_158, vw_158, gv_159, vw_159, gv_162, vw_162, gv_164, vw_164, gv_12_2, vw_12_2, gv_12_24, vw_12_24, gv_12_25, vw_12_25, gv_12_26, vw_12_26, gv_12_30, vw_12_30, gv_12_35, vw_12_35, gv_12_41, vw_12_41, gv_12_55, vw_12_55, gv_12_56, vw_12_56, gv_12_57, vw_12_57, gv_12_61, vw_12_61, gv_12_63, vw_12_63, vs_160, vs_165, vs_119, vs_120, vs_121, vs_122, vs_123, vs_12_0, hv2]
    simp [us_app]
  have f4 := ((f2.wA (k := 153) (s := g) (v := view h 143 g * fe) rfl (by omega)).w12 (s := 55) (v := gI (wI h' 153 0 g (view h 143 g * fe)) 12 0 55 + gI (wI h' 153 0 g (view h 143 g * fe)) 153 0 g) (by omega)).w12 (s := 56) (v := gI (wI (wI h' 153 0 g (view h 143 g * fe)) 12 0 55 (gI (wI h' 153 0 g (view h 143 g * fe)) 12 0 55 + gI (wI h' 153 0 g (view h 143 g * fe)) 153 0 g)) 12 0 56 + gI (wI (wI h' 153 0 g (view h 143 g * fe)) 12 0 55 (gI (wI h' 153 0 g (view h 143 g * fe)) 12 0 55 + gI (wI h' 153 0 g (view h 143 g * fe)) 153 0 g)) 143 0 g) (by omega)
  generalize wI (wI (wI h' 153 0 g (view h 143 g * fe)) 12 0 55 (gI (wI h' 153 0 g (view h 143 g * fe)) 12 0 55 + gI (wI h' 153 0 g (view h 143 g * fe)) 153 0 g)) 12 0 56 (gI (wI (wI h' 153 0 g (view h 143 g * fe)) 12 0 55 (gI (wI h' 153 0 g (view h 143 g * fe)) 12 0 55 + gI (wI h' 153 0 g (view h 143 g * fe)) 153 0 g)) 12 0 56 + gI (wI (wI h' 153 0 g (view h 143 g * fe)) 12 0 55 (gI (wI h' 153 0 g (view h 143 g * fe)) 12 0 55 + gI (wI h' 153 0 g (view h 143 g * fe)) 153 0 g)) 143 0 g) = h3 at hv3 f4 ⊢
  have e146 : gI h3 146 0 g = view h 146 g := by rw [gv_146, hv3]; simp [us_app]
  have e24 : gI h3 12 0 24 = view h 12 24 := by rw [gv_12_24, hv3]; simp [us_app]
  have e147 : gI h3 147 0 g = view h 147 g := by rw [gv_147, hv3]; simp [us_app]
  rw [e146]
  refine ⟨fun c => ?_, fun c => ?_⟩
  · refine ⟨vg, ?_⟩
    rw [tg, e24, e147]
    exact fin _ h3 hv3 f4 (by rw [if_pos (Or.inl c)])
  · rcases w.tourOf g hg with e | ⟨u, hu, e⟩
    · exact absurd (by rw [e]; decide) c
    · have hu8 : u < 8 := by have := w.cU.2; omega
      have e136 : gI h3 136 0 u = view h 136 u := by rw [gv_136, hv3]; simp [us_app]
      refine ⟨vg, ?_⟩
      rw [tg, e146, e, tN_nJ (by omega), e136, e24]
      refine ⟨(vp_nJ (by omega)).mpr hu8, fun c2 => ⟨vg, ?_⟩, fun c2 => ?_⟩
      · rw [tg, e24, e147]
        exact fin _ h3 hv3 f4 (by rw [if_pos (Or.inr (by rw [e, tN_nJ (by omega)]; exact c2))])
      · exact fin _ h3 hv3 f4 (by rw [if_neg]; rintro (z | z); exact c z; rw [e, tN_nJ (by omega)] at z; exact c2 z)
def arG (T : TextT) (t : Nat) (ash : Bool) (g : Nat) (S : MSt) : MSt := if S 148 g = 1 ∧ S 149 g = nJ t then (if ash = true then mLand T S g else us (us (us S 148 g 5) 149 g (-1)) 152 g (S 12 24)) else S
def mArr (T : TextT) (nG t : Nat) (S : MSt) : MSt := itr (arG T t (decide (S 133 t = 1))) nG (us S 133 t (if S 133 t = 1 then 2 else 0))
theorem WM.arG {t : Nat} {ash : Bool} {g : Nat} {S : MSt} (w : WM nS nT nU nG S) : WM nS nT nU nG (arG T t ash g S) := by
  unfold _root_.Jvm.Pilot.CShoreDayLaw_law_r6654_27fe09.arG
  split
  · split
    · exact w.land
    · exact ((w.up8 (by decide)).up rfl (by omega)).up rfl (by omega)
  · exact w
theorem mArrL {h0 : Hp} {S0 : MSt} {t : Nat} {ash : Bool} {Q : Hp → Prop} (w0 : WM nS nT nU nG S0) (t0 : TextM h0 T) (kk : ∀ h', view h' = itr (arG T t ash) nG S0 → Fm h0 h' → Q h') : ∀ (j i : Nat) (h : Hp), i + j = nG → view h = itr (arG T t ash) i S0 → Fm h0 h → w_X12_arrives_33 Q (j + 1) (nJ t) (bI (ash = true)) (nJ i) h := by
  intro j
  induction j with
  | zero =>
    intro i h e hv f
    obtain rfl : i = nG := by omega
    refine ⟨fun _ => kk h hv f, fun c => absurd ?_ c⟩
    have w : WM nS nT nU i (view h) := by rw [hv]; exact itr_inv (n := i) (fun i S _ w => w.arG) w0 (Nat.le_refl _)
    rw [gv_12_41, w.1.cG.1]; exact Int32.le_refl _
  | succ j ih =>
    intro i h e hv f
    have w : WM nS nT nU nG (view h) := by rw [hv]; exact itr_inv (n := nG) (fun i S _ w => w.arG) w0 (by omega)
    have hn := w.1.cG
    refine ⟨fun c => absurd c ?_, fun _ => ?_⟩
    · rw [gv_12_41, hn.1, nJ_le (by omega) (by omega)]; omega
    · have v60 : vp_in (nJ i) 60 := (vp_nJ (by omega)).mpr (by omega)
      have ti : tN (nJ i) = i := tN_nJ (by omega)
      have step : ∀ h', view h' = arG T t ash i (view h) → Fm h h' → w_X12_arrives_33 Q (j + 1) (nJ t) (bI (ash = true)) (nJ i + 1) h' := fun h' hv' f' => by
        rw [nJ_succ]
        refine ih (i + 1) h' (by omega) ?_ (f.trans f')
        rw [itr, ← hv]; exact hv'
      simp only [w_X12_arrives_41, w_X12_arrives_51, w_X12_arrives_61, w_X12_arrives_65, w_X12_arrives_70, w_X12_arrives_73, w_X12_arrives_97, v60, ti, gv_148, gv_149, true_and, bI_0]
      refine ⟨fun c => ?_, fun c => ⟨fun c2 => ?_, fun c2 => ⟨fun c3 => ?_, fun c3 => ?_⟩⟩⟩
      · exact step h (by unfold arG; rw [if_neg (fun z => c z.1)]) (Fm.refl h)
      · exact step h (by unfold arG; rw [if_neg (fun z => c2 z.2)]) (Fm.refl h)
      · refine step _ ?_ ((((Fm.refl h).wA rfl (by omega)).wA rfl (by omega)).wA rfl (by omega))
        unfold arG
        rw [if_pos ⟨c, c2⟩, if_neg c3]
        simp only [gv_101, vw_101, gv_127, vw_127, gv_128, vw_128, gv_129, vw_129, gv_131, vw_131, gv_132, vw_132, gv_133, vw_133, gv_134, vw_134, gv_136, vw_136, gv_137, vw_137, gv_138, vw_138, gv_139, vw_139, gv_140, vw_140, gv_142, vw_142, gv_143, vw_143, gv_144, vw_144, gv_145, vw_145, gv_146, vw_146, gv_147, vw_147, gv_148, vw_148, gv_149, vw_149, gv_150, vw_150, gv_151, vw_151, gv_152, vw_152, gv_153, vw_153, gv_154, vw_154, gv_158, vw_158, gv_159, vw_159, gv_162, vw_162, gv_164, vw_164, gv_12_2, vw_12_2, gv_12_24, vw_12_24, gv_12_25, vw_12_25, gv_12_26, vw_12_26, gv_12_30, vw_12_30, gv_12_35, vw_12_35, gv_12_41, vw_12_41, gv_12_55, vw_12_55, gv_12_56, vw_12_56, gv_12_57, vw_12_57, gv_12_61, vw_12_61, gv_12_63, vw_12_63, vs_160, vs_165, vs_119, vs_120, vs_121, vs_122, vs_123, vs_12_0]
        simp [us_app]
      · refine mLands (nS := nS) (nT := nT) (nU := nU) (nG := nG) w.1 (t0.fm f) (by omega) fun h' hv' f' => step h' ?_ f'
        unfold arG
        rw [if_pos ⟨c, c2⟩, if_pos (Decidable.not_not.mp c3)]; exact hv'
theorem mArrives {h : Hp} {t : Nat} {Q : Hp → Prop} (w : WM nS nT nU nG (view h)) (t0 : TextM h T) (ht : t < nT) (kk : ∀ h', view h' = mArr T nG t (view h) → Fm h h' → Q h') : wp_X12_arrives (nJ t) h Q := by
  have ht6 : t < 6 := by have := w.1.cT.2; omega
  have v6 : vp_in (nJ t) 6 := (vp_nJ (by omega)).mpr ht6
  have tt : tN (nJ t) = t := tN_nJ (by omega)
  have go : ∀ (x : Int32) (ash : Bool), ash = decide (view h 133 t = 1) → x = (if view h 133 t = 1 then 2 else 0) → w_X12_arrives_30 Q (nJ t) (bI (ash = true)) (nJ t) x h := by
    intro x ash ha hx
    have f1 : Fm h (wI h 133 0 t x) := (Fm.refl h).wA rfl (by omega)
    refine ⟨v6, nG + 1, ?_⟩
    rw [tt]
    refine mArrL (nS := nS) (nT := nT) (nU := nU) (nG := nG) (T := T) (h0 := wI h 133 0 t x) (S0 := us (view h) 133 t x) (ash := ash) (w.up rfl (by omega)) (t0.fm f1) ?_ nG 0 _ (by omega) ?_ (Fm.refl _)
    · intro h' hv' f'
      refine kk h' ?_ (f1.trans f')
      rw [hv', mArr, ← ha, ← hx]
    · rw [itr, vw_133]
  simp only [wp_X12_arrives, w_X12_arrives_0, w_X12_arrives_14, w_X12_arrives_10, w_X12_arrives_15, w_X12_arrives_29, w_X12_arrives_25, v6, tt, gv_133, true_and]
  refine ⟨fun c => ⟨fun _ => ?_, fun z => absurd trivial z⟩, fun c => ⟨fun z => absurd z (by decide), fun _ => ?_⟩⟩
  · have := go 0 false (by rw [decide_eq_false c]) (by rw [if_neg c])
    exact this
  · have := go 2 true (by rw [decide_eq_true c]) (by rw [if_pos c])
    exact this
/-! tours begin -/
def askS (S : MSt) (t g : Nat) : Bool := decide (S 148 g = 2 ∧ S 146 g = nJ t)
def stS (t : Nat) (S : MSt) (g : Nat) : MSt := if S 138 t - S 140 t < S 143 g then us S 150 g (S 12 24 + 60) else us (us S 148 g 3) 140 t (S 140 t + S 143 g)
def mSt (nG t : Nat) (S : MSt) : MSt := (selL (S 144) nG nG (askS S t)).foldl (stS t) S
theorem WM.stS {t g : Nat} {S : MSt} (w : WM nS nT nU nG S) (hg : S 146 g ≠ -1) : WM nS nT nU nG (stS t S g) := by
  unfold _root_.Jvm.Pilot.CShoreDayLaw_law_r6654_27fe09.stS
  split
  · exact w.up rfl (by omega)
  · refine WM.up (S := us S 148 g 3) ⟨w.1.up rfl, fun x hx => ?_⟩ rfl (by omega)
    rw [us_app, us_app, if_neg (fun z => by cases z.1 : ¬ (146 = 148 ∧ _))]
    by_cases c : x = g
    · rw [if_pos ⟨rfl, c⟩, c]; exact fun _ => hg
    · rw [if_neg (fun z => c z.2)]; exact w.2 x hx
theorem mStartsL {t : Nat} {Q : Hp → Prop} (ht : t < nU) (hU : nU ≤ 8) : ∀ (M : List Nat) (h : Hp) (P : Int32 → Hp → Prop), (∀ r h2, w_X12_starts_56 Q (M.length + 1) (nJ t) r h2 → P r h2) → Sel (view h 144) nG M (fun g => decide (gI h 160 0 g ≠ 0)) → WM nS nT nU nG (view h) → (∀ g, g ∈ M → view h 146 g ≠ -1) → (∀ h', view h' = M.foldl (stS t) (view h) → Fm h h' → Q h') → wp_X12_nextBy_t h P
  | [], h, P, hP, hs, w, hm, kk => by
    refine mNext_t w.1 (fun _ => hP _ _ ⟨fun _ => kk h rfl (Fm.refl h), fun c => absurd (by decide) c⟩) fun g hg => ?_
    have hs : nx _ _ _ = none := hs
    rw [hs] at hg; cases hg
  | g :: M, h, P, hP, hs, w, hm, kk => by
    have hn := w.1.cG
    refine mNext_t w.1 (fun z => by rw [hs.1] at z; cases z) fun g' hg' => ?_
    obtain rfl : g = g' := by rw [hs.1] at hg'; exact Option.some.inj hg'
    have hg := nx_lt hg'
    have v60 : vp_in (nJ g) 60 := (vp_nJ (by omega)).mpr (by omega)
    have v8 : vp_in (nJ t) 8 := (vp_nJ (by omega)).mpr (by omega)
    have tg : tN (nJ g) = g := tN_nJ (by omega)
    have tt : tN (nJ t) = t := tN_nJ (by omega)
    refine hP _ _ ⟨fun c => absurd c (nJ_ge0 (by omega)), fun _ => ?_⟩
    have step : ∀ h2, view h2 = stS t (view h) g → Fm h h2 → (∀ x, gI h2 160 0 x = if x = g then 0 else gI h 160 0 x) → w_X12_starts_120 (w_X12_starts_56 Q (M.length + 1)) Q (nJ t) (nJ g) h2 := by
      intro h2 hv f h160
      have k4 : view h2 144 = view h 144 := by
        rw [hv]; unfold stS; split <;> (funext x; simp [us_app])
      have k6 : view h2 146 = view h 146 := by
        rw [hv]; unfold stS; split <;> (funext x; simp [us_app])
      refine mStartsL ht hU M h2 _ (fun r h3 z => z) ?_ (by rw [hv]; exact w.stS (hm g (by simp))) (fun x hx => by rw [k6]; exact hm x (List.mem_cons_of_mem _ hx)) fun h' hv' f' => kk h' ?_ (f.trans f')
      · rw [k4]
        refine sel_ask (fun x _ => ?_) hs.2
        rw [h160]
        by_cases c : x = g
        · simp [c]
        · simp [c]
      · rw [hv', hv]; rfl
    simp only [w_X12_starts_60, w_X12_starts_107, w_X12_starts_104, w_X12_starts_82, v60, v8, tg, tt, true_and, gv_138, gv_140, gv_143, gv_12_24, vs_160]
    refine ⟨fun c => step _ ?_ (((Fm.refl h).wA rfl (by omega)).wA rfl (by omega)) ?_, fun c => step _ ?_ ((((Fm.refl h).wA rfl (by omega)).wA rfl (by omega)).wA rfl (by omega)) ?_⟩
    · unfold stS; rw [if_pos c]; simp only [gv_101, vw_101, gv_127, vw_127, gv_128, vw_128, gv_129, vw_129, gv_131, vw_131, gv_132, vw_132, gv_133, vw_133, gv_134, vw_134, gv_136, vw_136, gv_137, vw_137, gv_138, vw_138, gv_139, vw_139, gv_140, vw_140, gv_142, vw_142, gv_143, vw_143, gv_144, vw_144, gv_145, vw_145, gv_146, vw_146, gv_147, vw_147, gv_148, vw_148, gv_149, vw_149, gv_150, vw_150, gv_151, vw_151, gv_152, vw_152, gv_153, vw_153, gv_154, vw_154, gv_158, vw_158, gv_159, vw_159, gv_162, vw_162, gv_164, vw_164, gv_12_2, vw_12_2, gv_12_24, vw_12_24, gv_12_25, vw_12_25, gv_12_26, vw_12_26, gv_12_30, vw_12_30, gv_12_35, vw_12_35, gv_12_41, vw_12_41, gv_12_55, vw_12_55, gv_12_56, vw_12_56, gv_12_57, vw_12_57, gv_12_61, vw_12_61, gv_12_63, vw_12_63, vs_160, vs_165, vs_119, vs_120, vs_121, vs_122, vs_123, vs_12_0]
    · intro x; simp [gI_wI]
    · unfold stS; rw [if_neg c]; simp only [gv_101, vw_101, gv_127, vw_127, gv_128, vw_128, gv_129, vw_129, gv_131, vw_131, gv_132, vw_132, gv_133, vw_133, gv_134, vw_134, gv_136, vw_136, gv_137, vw_137, gv_138, vw_138, gv_139, vw_139, gv_140, vw_140, gv_142, vw_142, gv_143, vw_143, gv_144, vw_144, gv_145, vw_145, gv_146, vw_146, gv_147, vw_147, gv_148, vw_148, gv_149, vw_149, gv_150, vw_150, gv_151, vw_151, gv_152, vw_152, gv_153, vw_153, gv_154, vw_154, gv_158, vw_158, gv_159, vw_159, gv_162, vw_162, gv_164, vw_164, gv_12_2, vw_12_2, gv_12_24, vw_12_24, gv_12_25, vw_12_25, gv_12_26, vw_12_26, gv_12_30, vw_12_30, gv_12_35, vw_12_35, gv_12_41, vw_12_41, gv_12_55, vw_12_55, gv_12_56, vw_12_56, gv_12_57, vw_12_57, gv_12_61, vw_12_61, gv_12_63, vw_12_63, vs_160, vs_165, vs_119, vs_120, vs_121, vs_122, vs_123, vs_12_0]; simp [us_app]
    · intro x; simp [gI_wI]
theorem mStarts {h : Hp} {t : Nat} {Q : Hp → Prop} (w : WM nS nT nU nG (view h)) (ht : t < nU) (kk : ∀ h', view h' = mSt nG t (view h) → Fm h h' → Q h') : wp_X12_starts (nJ t) h Q := by
  have hn := w.1.cG
  have hU := w.1.cU.2
  suffices H : ∀ j i h1, i + j = nG → view h1 = view h → Fm h h1 → (∀ g, g < i → gI h1 160 0 g = bI (askS (view h) t g = true)) → w_X12_starts_2 Q (j + 1) (nJ t) (nJ i) h1 from ⟨nG + 1, H nG 0 h (by omega) rfl (Fm.refl h) (fun g hg => by omega)⟩
  intro j
  induction j with
  | zero =>
    intro i h1 e hv f ha
    obtain rfl : i = nG := by omega
    refine ⟨fun _ => ?_, fun c => absurd ?_ c⟩
    · have hS : Sel (view h1 144) i (selL (view h 144) i i (askS (view h) t)) (fun g => decide (gI h1 160 0 g ≠ 0)) := by
        rw [hv]
        refine sel_ask (fun x hx => ?_) selL_ok
        rw [ha x hx]
        by_cases c : askS (view h) t x = true
        · simp [bI, c]
        · simp [bI, c]
      refine mStartsL (nS := nS) (nT := nT) (nU := nU) ht hU (selL (view h 144) i i (askS (view h) t)) h1 _ (fun r h2 z => ⟨_, z⟩) hS (by rw [hv]; exact w) (fun g hg => ?_) fun h' hv' f' => kk h' ?_ (f.trans f')
      · have := (sel_mem hS g hg)
        rw [hv]
        have h2 := this.2
        rw [ha g this.1] at h2
        have h3 : askS (view h) t g = true := by
          by_cases c : askS (view h) t g = true
          · exact c
          · simp [bI, c] at h2
        have h4 := of_decide_eq_true h3
        rw [h4.2]; exact nJ_ne1 (by omega)
      · rw [hv', hv]; rfl
    · rw [gv_12_41, hv, hn.1]; exact Int32.le_refl _
  | succ j ih =>
    intro i h1 e hv f ha
    refine ⟨fun c => absurd c ?_, fun _ => ?_⟩
    · rw [gv_12_41, hv, hn.1, nJ_le (by omega) (by omega)]; omega
    · have v60 : vp_in (nJ i) 60 := (vp_nJ (by omega)).mpr (by omega)
      have ti : tN (nJ i) = i := tN_nJ (by omega)
      have step : ∀ (x : Int32), x = bI (askS (view h) t i = true) → w_X12_starts_2 Q (j + 1) (nJ t) (nJ i + 1) (wI h1 160 0 i x) := by
        intro x hx
        rw [nJ_succ]
        refine ih (i + 1) _ (by omega) (by rw [vs_160]; exact hv) (f.wA rfl (by omega)) fun g hg => ?_
        rw [gI_wI]
        by_cases c : g = i
        · rw [if_pos ⟨rfl, rfl, c⟩, c, hx]
        · rw [if_neg (fun z => c z.2.2)]; exact ha g (by omega)
      have n0 : vp_nar .boolean (0 : Int32) = 0 := rfl
      have n1 : vp_nar .boolean (1 : Int32) = 1 := rfl
      simp only [w_X12_starts_10, w_X12_starts_25, w_X12_starts_35, w_X12_starts_39, w_X12_starts_40, v60, ti, true_and, gv_148, gv_146, hv, n0, n1]
      refine ⟨fun c => step 0 ?_, fun c => ⟨fun c2 => step 0 ?_, fun c2 => step 1 ?_⟩⟩
      · rw [bI, if_neg]; exact fun z => c (of_decide_eq_true z).1
      · rw [bI, if_neg]; exact fun z => c2 (of_decide_eq_true z).2
      · rw [bI, if_pos]; exact decide_eq_true ⟨c, c2⟩
end
