/-! ships sail -/
def Sq (h : Hp) (S : MSt) (h' : Hp) (S' : MSt) : Prop := Kx h h' ∧ Sf S S' ∧ S' 12 24 = S 12 24
section
variable {nS nT nU nG i c : Nat} {p q : Nat → Prop} {h h' : Hp} {S S' : MSt} {T : TextT}
theorem RTs.ship {s t : Nat} (r : RTs h S t) (w : WM nS nT nU nG S) (ht : t < nT) (hs : s < nS) : gP h 8 t 1 = some (6, s) ↔ S 131 t = nJ s := by
  have hS := w.1.cS.2
  rw [r.2.2.2]
  obtain ⟨v, hv, e⟩ := w.1.shipOf t ht
  rw [e, tN_nJ (by omega), nJ_eq (by omega) (by omega)]
  simp
theorem us_self {k i : Nat} : us S k i (S k i) = S := by
  funext a b
  rw [us_app]
  split
  · rename_i z; rw [z.1, z.2]
  · rfl
theorem xSailT {s : Nat} {Q : Hp → Prop} (hs : s < nS) {S0 : MSt} (kk : ∀ h', Bd nS nT nU nG nU nG h' (itr (saT s) nT S0) → Sp h S h' (itr (saT s) nT S0) → Q h') :
    ∀ (j i : Nat) (h1 : Hp) (S1 : MSt), i + j = nT → Bp nS nT nU nG nU nG (fun t => S 131 t ≠ nJ s ∨ t < i) (fun _ => True) h1 S1 → S1 = itr (saT s) i S0 → (∀ g, g < nG → S1 142 g = nJ s → S1 148 g ≠ 1) → Sp h S h1 S1 → w_X11_sail_61 Q (j + 1) (some (6, s)) (nJ i) h1 := by
  intro j
  induction j with
  | zero =>
    intro i h1 S1 e b hS hp sp
    obtain rfl : i = nT := by omega
    rw [← hS] at kk
    refine ⟨fun _ => kk h1 (Bp.bd (b.mono (fun t ht _ => Or.inr ht) (fun _ _ _ => trivial))) sp, fun z => absurd ?_ z⟩
    rw [b.st.1.2.1]; exact Int32.le_refl _
  | succ j ih =>
    intro i h1 S1 e b hS hp sp
    have hT := b.wm.1.cT.2
    have hi : i < nT := by omega
    have ti : tN (nJ i) = i := tN_nJ (by omega)
    have rt := b.st.2.2.1 i hi
    have v6 : vp_in (nJ i) 6 := (vp_nJ (by omega)).mpr (by omega)
    have e131 : S1 131 i = S 131 i := sp.2.1 131 i rfl
    refine ⟨fun z => absurd z ?_, fun _ => ⟨i, by rw [ti]; exact rt.1, v6, fun z => ?_, fun z => ?_⟩⟩
    · rw [b.st.1.2.1, nJ_le (by omega) (by omega)]; omega
    · rw [rt.ship b.wm hi hs] at z
      show w_X11_sail_61 Q (j + 1) (some (6, s)) (nJ i + 1) h1
      rw [nJ_succ]
      refine ih (i + 1) h1 S1 (by omega) (b.mono (fun t ht y => ?_) (fun _ _ _ => trivial)) ?_ hp sp
      · rcases y with y | y
        · exact Or.inl y
        · by_cases y2 : t = i
          · left; rw [y2, ← e131]; exact z
          · exact Or.inr (by omega)
      · rw [itr, ← hS]; unfold saT; rw [if_neg z, us_self]
    · rw [rt.ship b.wm hi hs] at z
      refine ⟨i, by rw [ti]; exact rt.1, i, by rw [ti]; exact rt.1, i, by rw [ti]; exact rt.1, v6, v6, v6, ?_⟩
      show w_X11_sail_61 Q (j + 1) (some (6, s)) (nJ i + 1) _
      rw [nJ_succ]
      have sf : Sf S1 (us S1 133 i 4) := (Sf.refl S1).up rfl
      have sp2 : Sp h1 S1 (wI (wI (wI h1 8 i 3 4) 8 i 4 0) 8 i 5 0) (us S1 133 i 4) := ⟨(((Kz.refl h1).I rfl (by omega)).I rfl (by omega)).I rfl (by omega), sf, by simp [us_app]⟩
      have nT' : ∀ g, g < nG → ¬ inT S1 i g := fun g hg y => by
        obtain ⟨t', ht', e', e2⟩ := (b.gd g hg).2.2.2.2.2.2.2.2.1 y.1
        have := e'.symm.trans y.2
        rw [nJ_eq (by omega) (by omega)] at this
        rw [this, z] at e2
        exact hp g hg e2.symm y.1
      refine ih (i + 1) _ (us S1 133 i 4) (by omega) (Bp.up b sp2 (b.wm.up rfl (by omega)) ?_ ?_ ?_ ?_ ?_ ?_ ?_) ?_ ?_ (sp.trans sp2)
      · have := b.rcd
        unfold RCd at this ⊢
        simpa [gI_wI, us_app] using this
      · intro g hg; left
        refine ⟨fun s hs => by simp [gI_wI], rfl, fun k h1 h2 => ?_⟩
        rw [us_app, if_neg (by omega)]
      · intro t' ht'
        by_cases y : t' = i
        · right
          subst y
          have n4 : ¬ ((4 : Int32) = 1 ∨ (4 : Int32) = 3) := by decide
          unfold RTd
          simp [gI_wI, us_app]
        · left; simp [gI_wI, us_app, y]
      · intro t' ht' y
        by_cases y2 : t' = i
        · subst y2
          unfold Ld
          rw [gIn_0]
          · simp [gI_wI]
          · intro g hg
            have := nT' g hg
            simpa [us_app, inT] using this
        · refine (b.ld t' ht' (y.elim Or.inl fun x => Or.inr (by omega))).keep sf (by simp [gI_wI, y2]) fun g hg => ?_
          simp [us_app, inT]
      · intro t' ht' _
        by_cases y2 : t' = i
        · subst y2
          intro y
          simp [us_app] at y
        · refine (b.vl t' ht' trivial).keep (by simp [us_app, y2]) fun g hg => ?_
          simp [us_app, inT]
      · intro u hu
        have := b.ud u hu
        simpa [gI_wI, us_app] using this
      · refine b.rq.keep (by simp [gI_wI]) (fun _ => rfl) (by simp [us_app]) (fun g hg y => ?_) (fun g hg y => ?_)
        · unfold qst at y ⊢
          have e8 : us S1 133 i 4 148 g = S1 148 g := by simp [us_app]
          have e9 : us S1 133 i 4 149 g = S1 149 g := by simp [us_app]
          rw [e8, e9]
          rcases y with y | y | y | y
          · exact Or.inl y
          · exact Or.inr (Or.inl y)
          · exact Or.inr (Or.inr (Or.inl y))
          · refine Or.inr (Or.inr (Or.inr ⟨y.1, ?_⟩))
            by_cases y2 : tN (S1 149 g) = i
            · simp [us_app, y2]
            · simpa [us_app, y2] using y.2
        · simp [us_app] at y ⊢; exact y
      · rw [itr, ← hS]; unfold saT; rw [if_pos z]
      · intro g hg y
        simp [us_app] at y ⊢
        exact hp g hg y
theorem xSailG {s : Nat} {Q : Hp → Prop} (hs : s < nS) (kk : ∀ h', Bd nS nT nU nG nU nG h' (mSail nT nG s S) → Sp h S h' (mSail nT nG s S) → Q h') :
    ∀ (j i : Nat) (h1 : Hp) (S1 : MSt), i + j = nG → Bp nS nT nU nG nU nG (fun t => S 131 t ≠ nJ s) (fun _ => True) h1 S1 → S1 = itr (saG s) i S → (∀ g, g < i → S1 142 g = nJ s → S1 148 g ≠ 1) → Sp h S h1 S1 → w_X11_sail_7 Q (j + 1) (some (6, s)) (nJ i) h1 := by
  intro j
  induction j with
  | zero =>
    intro i h1 S1 e b hS hp sp
    obtain rfl : i = nG := by omega
    refine ⟨fun _ => ⟨nT + 1, xSailT hs (S0 := S1) (S := S) (h := h) (fun h' b' s' => ?_) nT 0 h1 S1 (by omega) (b.mono (fun t ht y => y.elim id fun x => absurd x (by omega)) (fun _ _ _ => trivial)) rfl hp sp⟩, fun z => absurd ?_ z⟩
    · refine kk h' ?_ ?_
      · unfold mSail; rw [← hS]; exact b'
      · unfold mSail; rw [← hS]; exact s'
    · rw [b.st.1.2.2.2.1]; exact Int32.le_refl _
  | succ j ih =>
    intro i h1 S1 e b hS hp sp
    have hn := b.wm.1.cG.2
    have hT := b.wm.1.cT.2
    have hi : i < nG := by omega
    have ti : tN (nJ i) = i := tN_nJ (by omega)
    have gs := b.st.gs i hi
    have gd := b.gd i hi
    have v60 : vp_in (nJ i) 60 := (vp_nJ (by omega)).mpr (by omega)
    have no : ¬ (S1 142 i = nJ s ∧ (1 ≤ S1 148 i ∧ S1 148 i ≤ 4)) → w_X11_sail_7 Q (j + 1) (some (6, s)) (nJ i + 1) h1 := fun z => by
      rw [nJ_succ]
      refine ih (i + 1) h1 S1 (by omega) b ?_ (fun g hg y => ?_) sp
      · rw [itr, ← hS]; unfold saG; rw [if_neg z]
      · by_cases y2 : g = i
        · rw [y2] at y ⊢
          intro y3
          exact z ⟨y, by rw [y3]; decide⟩
        · exact hp g (by omega) y
    refine ⟨fun z => absurd z ?_, fun _ => ⟨i, by rw [ti]; exact gs.1, v60, fun z => ?_, fun z => ?_⟩⟩
    · rw [b.st.1.2.2.2.1, nJ_le (by omega) (by omega)]; omega
    · rw [gs.ship b.wm hi hs] at z
      exact no (fun y => z y.1)
    · rw [gs.ship b.wm hi hs] at z
      unfold w_X11_sail_30
      rw [xwithin]
      refine ⟨fun y => ?_, fun y => ⟨i, rfl, ?_⟩⟩
      · rw [bI_0, gd.1] at y; exact no (fun x => y x.2)
      · rw [bI_0, gd.1] at y
        have y := Decidable.not_not.mp y
        show w_X11_sail_7 Q (j + 1) (some (6, s)) (nJ i + 1) _
        rw [nJ_succ]
        have sf : Sf S1 (us (us (us S1 148 i 6) 149 i (-1)) 154 i (-1)) := (((Sf.refl S1).up rfl).up rfl).up rfl
        have sp2 : Sp h1 S1 (wP (wI h1 2 i 6 6) 2 i 7 none) (us (us (us S1 148 i 6) 149 i (-1)) 154 i (-1)) := ⟨((Kz.refl h1).I rfl (by omega)).P rfl, sf, by simp [us_app]⟩
        have n6 : ¬ ((6 : Int32) = 1) ∧ ¬ ((6 : Int32) = 2) ∧ ¬ ((6 : Int32) = 4) := by decide
        refine ih (i + 1) _ (us (us (us S1 148 i 6) 149 i (-1)) 154 i (-1)) (by omega) (Bp.up b sp2 (((b.wm.up8 (by decide)).up rfl (by omega)).up rfl (by omega)) ?_ ?_ ?_ ?_ ?_ ?_ ?_) ?_ ?_ (sp.trans sp2)
        · have := b.rcd
          unfold RCd at this ⊢
          simpa [gI_wI, gI_wP, us_app] using this
        · intro g hg
          by_cases y2 : g = i
          · right
            subst y2
            obtain ⟨d1, d2, d3, d4, d5, d6, d7, d8, d9, d10, d11⟩ := gd
            unfold GD
            simp only [gI_wI, gI_wP, gP_wI, gP_wP, us_app]
            simp [n6]
            exact ⟨d3, d4, d5⟩
          · left
            refine ⟨fun s hs => by simp [gI_wI, gI_wP, y2], by simp [gP_wI, gP_wP, y2], fun k h1 h2 => by simp [us_app, y2]⟩
        · intro t ht; left
          simp [gI_wI, gI_wP, us_app]
        · intro t ht hne
          refine (b.ld t ht hne).keep sf (by simp [gI_wI, gI_wP]) fun g hg => ?_
          by_cases y2 : g = i
          · subst y2
            have : ¬ inT S1 t g := fun x => by
              obtain ⟨t', ht', e', e2⟩ := gd.2.2.2.2.2.2.2.2.1 x.1
              have := e'.symm.trans x.2
              rw [nJ_eq (by omega) (by omega)] at this
              rw [this, z, sp.2.1 131 t rfl] at e2
              exact hne e2
            simp only [this, iff_false]
            intro x
            have := x.1
            simp [us_app] at this
          · simp [us_app, inT, y2]
        · intro t ht _
          refine (b.vl t ht trivial).keep (by simp [us_app]) fun g hg x => ?_
          by_cases y2 : g = i
          · subst y2
            have := x.1
            simp [us_app] at this
          · simpa [us_app, inT, y2] using x
        · intro u hu
          have := b.ud u hu
          simpa [gI_wI, gI_wP, us_app] using this
        · refine b.rq.keep (by simp [gI_wI, gI_wP]) (fun _ => by simp [gP_wI, gP_wP]) (by simp [us_app]) (fun g hg x => ?_) (fun g hg x => ?_)
          · unfold qst at x ⊢
            by_cases y2 : g = i
            · right; right; left; simp [us_app, y2]
            · simpa [us_app, y2] using x
          · by_cases y2 : g = i
            · subst y2
              simp [us_app] at x
            · simp [us_app, y2] at x ⊢; exact x
        · rw [itr, ← hS]; unfold saG; rw [if_pos ⟨z, y⟩]
        · intro g hg x
          by_cases y2 : g = i
          · simp [us_app, y2]
          · simp [us_app, y2] at x ⊢
            exact hp g (by omega) x
theorem xSail1 {s : Nat} {Q : Hp → Prop} (hs : s < nS) (b0 : Bd nS nT nU nG nU nG h S) (kk : ∀ h', Bd nS nT nU nG nU nG h' (mSail nT nG s S) → Sq h S h' (mSail nT nG s S) → (∀ x, gI h' 6 x 4 = if x = s then 1 else gI h 6 x 4) → Q h') : wp_X11_sail (some (6, s)) h Q := by
  have kx : Kx h (wI h 6 s 4 1) := (Kx.refl h).I rfl
  have b1 : Bd nS nT nU nG nU nG (wI h 6 s 4 1) S := by
    refine Bp.bd (Bp.upx (b0.bp (p := fun _ => True) (q := fun _ => True)) kx (Sf.refl S) rfl b0.wm ?_ ?_ ?_ ?_ ?_ ?_ ?_)
    · have := b0.rcd
      unfold RCd at this ⊢
      simpa [gI_wI] using this
    · intro g hg; left
      exact ⟨fun s hs => by simp [gI_wI], rfl, fun _ _ _ => rfl⟩
    · intro t ht; left; simp [gI_wI]
    · intro t ht _
      exact (b0.ld t ht).keep (Sf.refl S) (by simp [gI_wI]) fun g hg => Iff.rfl
    · intro t ht _; exact b0.vl t ht
    · intro u hu
      have := b0.ud u hu
      simpa [gI_wI] using this
    · exact b0.rq.keep (by simp [gI_wI]) (fun _ => rfl) rfl (fun _ _ z => z) (fun _ _ z => ⟨z, rfl⟩)
  refine ⟨s, rfl, nG + 1, xSailG (S := S) (h := wI h 6 s 4 1) hs (fun h' b' s' => kk h' b' ⟨kx.trans s'.1.1, s'.2.1, s'.2.2⟩ fun x => ?_) nG 0 _ S (by omega) b1.bp rfl (fun g hg => by omega) (Sp.refl _ _)⟩
  rw [s'.1.2 x, gI_wI]
  by_cases c : x = s
  · simp [c]
  · simp [c]
theorem xSail {Q : Hp → Prop} (b0 : Bd nS nT nU nG nU nG h S) (kk : ∀ h', Bd nS nT nU nG nU nG h' (p4 nS nT nG S) → Sq h S h' (p4 nS nT nG S) → (∀ x, gI h' 6 x 4 = if x < nS ∧ S 128 x = S 12 24 then 1 else gI h 6 x 4) → Q h') : wp_X11_sailShips h Q := by
  suffices H : ∀ j i h1 S1, i + j = nS → Bd nS nT nU nG nU nG h1 S1 → S1 = itr (saS nT nG) i S → Sq h S h1 S1 → (∀ x, gI h1 6 x 4 = if x < i ∧ S 128 x = S 12 24 then 1 else gI h 6 x 4) → w_X11_sailShips_2 Q (j + 1) (nJ i) h1 from ⟨nS + 1, H nS 0 h S (by omega) b0 rfl ⟨Kx.refl h, Sf.refl S, rfl⟩ (fun x => by simp)⟩
  intro j
  induction j with
  | zero =>
    intro i h1 S1 e b hS sp hf
    obtain rfl : i = nS := by omega
    refine ⟨fun _ => kk h1 (by unfold p4; rw [← hS]; exact b) (by unfold p4; rw [← hS]; exact sp) hf, fun c => absurd ?_ c⟩
    rw [b.st.1.1]; exact Int32.le_refl _
  | succ j ih =>
    intro i h1 S1 e b hS sp hf
    have hn := b.wm.1.cS.2
    have hi : i < nS := by omega
    have ti : tN (nJ i) = i := tN_nJ (by omega)
    obtain ⟨u1, u2, u3, u4, u5⟩ := b.st.2.1 i hi
    have v4 : vp_in (nJ i) 4 := (vp_nJ (by omega)).mpr (by omega)
    have e128 : S1 128 i = S 128 i := sp.2.1 128 i rfl
    refine ⟨fun c => absurd c ?_, fun _ => ⟨i, by rw [ti]; exact u1, v4, fun z => ?_, fun z => ⟨v4, ?_⟩⟩⟩
    · rw [b.st.1.1, nJ_le (by omega) (by omega)]; omega
    · rw [u4, b.rcd.1] at z
      show w_X11_sailShips_2 Q (j + 1) (nJ i + 1) h1
      rw [nJ_succ]
      refine ih (i + 1) h1 S1 (by omega) b ?_ sp fun x => ?_
      · rw [itr, ← hS]; unfold saS; rw [if_neg z]
      · rw [hf x]
        by_cases y : x = i
        · subst y
          rw [e128, sp.2.2] at z
          simp [z]
        · have : x < i ↔ x < i + 1 := by omega
          simp [this]
    · rw [u4, b.rcd.1] at z
      rw [ti, u1]
      refine xSail1 hi b fun h2 b2 s2 hf2 => ?_
      show w_X11_sailShips_2 Q (j + 1) (nJ i + 1) h2
      rw [nJ_succ]
      refine ih (i + 1) h2 _ (by omega) b2 ?_ ⟨sp.1.trans s2.1, sp.2.1.trans s2.2.1, s2.2.2.trans sp.2.2⟩ fun x => ?_
      · rw [itr, ← hS]; unfold saS; rw [if_pos z]
      · rw [hf2 x, hf x]
        rw [e128, sp.2.2] at z
        by_cases y : x = i
        · subst y; simp [z]
        · have : x < i ↔ x < i + 1 := by omega
          simp [this, y]
end
