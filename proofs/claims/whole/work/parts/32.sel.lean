/-! the order in which the model asks -/
theorem mComing {nS nT nU nG : Nat} {h : Hp} {a : Int32} {Q : Int32 → Hp → Prop} (w : WC nS nT nU nG (view h)) (kk : Q (gCo nT nG (view h) a) h) : wp_X12_coming a h Q := by
  have hn := w.cT
  refine mGuestsThat w ?_
  suffices H : ∀ j i, i + j = nT → w_X12_coming_9 Q (j + 1) a (gTh nG (view h) 2 4 + sm (fun t => if (view h) 133 t = 1 ∨ nJ t = a then gIn nG (view h) (nJ t) else 0) i) (nJ i) h from ⟨nT + 1, by have := H nT 0 (by omega); rw [sm, Int32.add_zero] at this; exact this⟩
  intro j
  induction j with
  | zero =>
    intro i e
    obtain rfl : i = nT := by omega
    refine ⟨fun _ => kk, fun c => absurd ?_ c⟩
    rw [gv_12_30, hn.1]; exact Int32.le_refl _
  | succ j ih =>
    intro i e
    have ih := ih (i + 1) (by omega)
    refine ⟨fun c => absurd c ?_, fun _ => ?_⟩
    · rw [gv_12_30, hn.1, nJ_le (by omega) (by omega)]; omega
    · have h60 : i < 6 := by omega
      rw [sm, ← Int32.add_assoc] at ih
      simp (disch := omega) only [w_X12_coming_50, w_X12_coming_42, w_X12_coming_38, w_X12_coming_33, w_X12_coming_41, w_X12_coming_28, w_X12_coming_17, w_X12_coming_6, w_X12_coming_0, wp_X12_coming, vp_nJ, tN_nJ, nJ_succ, gv_133, h60, true_and]
      refine ⟨fun c => ?_, fun c => ⟨fun c2 => ?_, fun c2 => ?_⟩⟩
      · rw [if_pos (Or.inl c)] at ih; exact mGuestsIn w ih
      · rw [if_neg (fun z => z.elim c c2)] at ih; exact ih
      · rw [if_pos (Or.inr c2)] at ih; exact mGuestsIn w ih
theorem mWantsOut {h : Hp} {g : Nat} {s : Int32} {Q : Int32 → Hp → Prop} (hg : g < 60) : wp_X12_wantsOut (nJ g) s h Q ↔ Q (bI (view h 142 g = s ∧ view h 148 g = 0 ∧ view h 145 g ≤ view h 12 24)) h := by
  simp (disch := omega) only [w_X12_wantsOut_37, w_X12_wantsOut_36, w_X12_wantsOut_32, w_X12_wantsOut_19, w_X12_wantsOut_10, w_X12_wantsOut_0, wp_X12_wantsOut, vp_nJ, tN_nJ, gv_142, gv_148, gv_145, gv_12_24, hg, true_and, pif, nif]
  by_cases c1 : view h 142 g = s
  · by_cases c2 : view h 148 g = 0
    · by_cases c3 : view h 12 24 < view h 145 g
      · simp [c1, c2, c3, bI, Int32.not_le.mpr c3]
      · simp [c1, c2, c3, bI, Int32.not_lt.mp c3]
    · simp [c1, c2, bI]
  · simp [c1, bI]
theorem mWantsHome {h : Hp} {g : Nat} {s : Int32} {Q : Int32 → Hp → Prop} (hg : g < 60) : wp_X12_wantsHome (nJ g) s h Q ↔ Q (bI (view h 142 g = s ∧ view h 148 g = 4)) h := by
  simp (disch := omega) only [w_X12_wantsHome_25, w_X12_wantsHome_24, w_X12_wantsHome_20, w_X12_wantsHome_10, w_X12_wantsHome_0, wp_X12_wantsHome, vp_nJ, tN_nJ, gv_142, gv_148, hg, true_and, pif, nif]
  by_cases c1 : view h 142 g = s
  · by_cases c2 : view h 148 g = 4
    · simp [c1, c2, bI]
    · simp [c1, c2, bI]
  · simp [c1, bI]
def isSh (S : MSt) : Nat → Bool
  | 0 => false
  | r + 1 => isSh S r || decide (S 158 r ≤ S 12 24 ∧ S 12 24 ≤ S 159 r)
theorem mIsShut {r : Nat} {h : Hp} {Q : Int32 → Hp → Prop} (hr : view h 12 57 = nJ r) (h10 : r ≤ 10) (kk : Q (bI (isSh (view h) r = true)) h) : wp_X12_isShut h Q := by
  suffices H : ∀ j i, i + j = r → w_X12_isShut_4 Q (j + 1) (bI (isSh (view h) i = true)) (nJ i) h from ⟨r + 1, H r 0 (by omega)⟩
  intro j
  induction j with
  | zero =>
    intro i e
    obtain rfl : i = r := by omega
    refine ⟨fun _ => ⟨?_, kk⟩, fun c => absurd ?_ c⟩
    · unfold bI; split <;> simp
    · rw [gv_12_57, hr]; exact Int32.le_refl _
  | succ j ih =>
    intro i e
    have ih := ih (i + 1) (by omega)
    refine ⟨fun c => absurd c ?_, fun _ => ?_⟩
    · rw [gv_12_57, hr, nJ_le (by omega) (by omega)]; omega
    · have h60 : i < 10 := by omega
      rw [isSh] at ih
      simp (disch := omega) only [w_X12_isShut_50, w_X12_isShut_43, w_X12_isShut_38, w_X12_isShut_42, w_X12_isShut_35, w_X12_isShut_16, w_X12_isShut_12, w_X12_isShut_0, wp_X12_isShut, mwithin, vp_nJ, tN_nJ, nJ_succ, gv_158, gv_159, gv_12_24, h60, true_and, pif, nif, bI_0]
      by_cases c : isSh (view h) i = true
      · simp [c, bI] at ih ⊢; exact ih
      · by_cases c2 : view h 158 i ≤ view h 12 24 ∧ view h 12 24 ≤ view h 159 i
        · simp [c, c2, bI] at ih ⊢; exact ih
        · have c3 : ¬ (view h 158 i ≤ view h 12 24 ∧ view h 12 24 ≤ view h 159 i) := c2
          rw [decide_eq_false c3] at ih
          simp only [c, c3, if_false, Bool.not_eq_true, not_false_eq_true, if_true]
          simp only [c, Bool.or_false] at ih
          simpa [bI] using ih
def nx (key : Nat → Int32) (ask : Nat → Bool) : Nat → Option Nat
  | 0 => none
  | n + 1 => match nx key ask n with
    | none => if ask n = true then some n else none
    | some f => if ask n = true ∧ ¬ key f ≤ key n then some n else some f
def oJ (f : Option Nat) : Int32 := match f with
  | none => -1
  | some g => nJ g
theorem nx_lt {key : Nat → Int32} {ask : Nat → Bool} : ∀ {n f : Nat}, nx key ask n = some f → f < n
  | 0, f, h => by cases h
  | n + 1, f, h => by
    rw [nx] at h
    split at h
    · split at h
      · cases h; omega
      · cases h
    · rename_i f' e
      have := nx_lt e
      split at h <;> (cases h; omega)
theorem mNext_t {nS nT nU nG : Nat} {h : Hp} {Q : Int32 → Hp → Prop} (w : WC nS nT nU nG (view h)) (k0 : nx (view h 144) (fun g => decide (gI h 160 0 g ≠ 0)) nG = none → Q (-1) h) (k1 : ∀ g, nx (view h 144) (fun g => decide (gI h 160 0 g ≠ 0)) nG = some g → Q (nJ g) (wI h 160 0 g 0)) : wp_X12_nextBy_t h Q := by
  have hn := w.cG
  suffices H : ∀ j i, i + j = nG → w_X12_nextBy_t_4 Q (j + 1) (oJ (nx (view h 144) (fun g => decide (gI h 160 0 g ≠ 0)) i)) (nJ i) h from ⟨nG + 1, H nG 0 (by omega)⟩
  intro j
  induction j with
  | zero =>
    intro i e
    obtain rfl : i = nG := by omega
    refine ⟨fun _ => ?_, fun c => absurd ?_ c⟩
    · cases hx : nx (view h 144) (fun g => decide (gI h 160 0 g ≠ 0)) i with
      | none =>
        have k0 := k0 hx
        refine ⟨fun _ => k0, fun c => absurd ?_ c⟩
        decide
      | some g =>
        have hg := nx_lt hx
        refine ⟨fun c => absurd c (nJ_ge0 (by omega)), fun _ => ⟨?_, ?_⟩⟩
        · show vp_in (nJ g) 60
          rw [vp_nJ (by omega)]; omega
        · have := k1 g hx
          show Q (nJ g) (wI h 160 0 (tN (nJ g)) (vp_nar .boolean 0))
          rw [tN_nJ (by omega)]
          exact this
    · rw [gv_12_41, hn.1]; exact Int32.le_refl _
  | succ j ih =>
    intro i e
    have ih := ih (i + 1) (by omega)
    refine ⟨fun c => absurd c ?_, fun _ => ?_⟩
    · rw [gv_12_41, hn.1, nJ_le (by omega) (by omega)]; omega
    · have h60 : i < 60 := by omega
      rw [nx] at ih
      cases hx : nx (view h 144) (fun g => decide (gI h 160 0 g ≠ 0)) i with
      | none =>
        rw [hx] at ih
        simp (disch := omega) only [w_X12_nextBy_t_57, w_X12_nextBy_t_50, w_X12_nextBy_t_46, w_X12_nextBy_t_39, w_X12_nextBy_t_38, w_X12_nextBy_t_34, w_X12_nextBy_t_25, w_X12_nextBy_t_21, w_X12_nextBy_t_12, w_X12_nextBy_t_0, wp_X12_nextBy_t, vp_nJ, tN_nJ, nJ_succ, h60, true_and, pif, nif, oJ]
        rw [if_pos (by decide : (-1 : Int32) < 0)]
        by_cases c : gI h 160 0 i = 0
        · rw [if_pos c]
          simpa [c, oJ] using ih
        · rw [if_neg c]
          simpa [c, oJ] using ih
      | some f =>
        rw [hx] at ih
        have hf := nx_lt hx
        have f60 : f < 60 := by omega
        have hf0 : ¬ nJ f < 0 := nJ_ge0 (by omega)
        simp (disch := omega) only [w_X12_nextBy_t_57, w_X12_nextBy_t_50, w_X12_nextBy_t_46, w_X12_nextBy_t_39, w_X12_nextBy_t_38, w_X12_nextBy_t_34, w_X12_nextBy_t_25, w_X12_nextBy_t_21, w_X12_nextBy_t_12, w_X12_nextBy_t_0, wp_X12_nextBy_t, vp_nJ, tN_nJ, nJ_succ, gv_144, h60, f60, hf0, true_and, pif, nif, oJ, if_false]
        by_cases c : gI h 160 0 i = 0
        · rw [if_pos c]
          simpa [c, oJ] using ih
        · rw [if_neg c]
          by_cases c2 : view h 144 f ≤ view h 144 i
          · rw [if_pos c2]
            simpa [c, c2, oJ] using ih
          · rw [if_neg c2]
            simpa [c, c2, oJ] using ih
theorem mNext_s {nS nT nU nG : Nat} {h : Hp} {Q : Int32 → Hp → Prop} (w : WC nS nT nU nG (view h)) (k0 : nx (view h 154) (fun g => decide (gI h 160 0 g ≠ 0)) nG = none → Q (-1) h) (k1 : ∀ g, nx (view h 154) (fun g => decide (gI h 160 0 g ≠ 0)) nG = some g → Q (nJ g) (wI h 160 0 g 0)) : wp_X12_nextBy_s h Q := by
  have hn := w.cG
  suffices H : ∀ j i, i + j = nG → w_X12_nextBy_s_4 Q (j + 1) (oJ (nx (view h 154) (fun g => decide (gI h 160 0 g ≠ 0)) i)) (nJ i) h from ⟨nG + 1, H nG 0 (by omega)⟩
  intro j
  induction j with
  | zero =>
    intro i e
    obtain rfl : i = nG := by omega
    refine ⟨fun _ => ?_, fun c => absurd ?_ c⟩
    · cases hx : nx (view h 154) (fun g => decide (gI h 160 0 g ≠ 0)) i with
      | none =>
        have k0 := k0 hx
        refine ⟨fun _ => k0, fun c => absurd ?_ c⟩
        decide
      | some g =>
        have hg := nx_lt hx
        refine ⟨fun c => absurd c (nJ_ge0 (by omega)), fun _ => ⟨?_, ?_⟩⟩
        · show vp_in (nJ g) 60
          rw [vp_nJ (by omega)]; omega
        · have := k1 g hx
          show Q (nJ g) (wI h 160 0 (tN (nJ g)) (vp_nar .boolean 0))
          rw [tN_nJ (by omega)]
          exact this
    · rw [gv_12_41, hn.1]; exact Int32.le_refl _
  | succ j ih =>
    intro i e
    have ih := ih (i + 1) (by omega)
    refine ⟨fun c => absurd c ?_, fun _ => ?_⟩
    · rw [gv_12_41, hn.1, nJ_le (by omega) (by omega)]; omega
    · have h60 : i < 60 := by omega
      rw [nx] at ih
      cases hx : nx (view h 154) (fun g => decide (gI h 160 0 g ≠ 0)) i with
      | none =>
        rw [hx] at ih
        simp (disch := omega) only [w_X12_nextBy_s_57, w_X12_nextBy_s_50, w_X12_nextBy_s_46, w_X12_nextBy_s_39, w_X12_nextBy_s_38, w_X12_nextBy_s_34, w_X12_nextBy_s_25, w_X12_nextBy_s_21, w_X12_nextBy_s_12, w_X12_nextBy_s_0, wp_X12_nextBy_s, vp_nJ, tN_nJ, nJ_succ, h60, true_and, pif, nif, oJ]
        rw [if_pos (by decide : (-1 : Int32) < 0)]
        by_cases c : gI h 160 0 i = 0
        · rw [if_pos c]
          simpa [c, oJ] using ih
        · rw [if_neg c]
          simpa [c, oJ] using ih
      | some f =>
        rw [hx] at ih
        have hf := nx_lt hx
        have f60 : f < 60 := by omega
        have hf0 : ¬ nJ f < 0 := nJ_ge0 (by omega)
        simp (disch := omega) only [w_X12_nextBy_s_57, w_X12_nextBy_s_50, w_X12_nextBy_s_46, w_X12_nextBy_s_39, w_X12_nextBy_s_38, w_X12_nextBy_s_34, w_X12_nextBy_s_25, w_X12_nextBy_s_21, w_X12_nextBy_s_12, w_X12_nextBy_s_0, wp_X12_nextBy_s, vp_nJ, tN_nJ, nJ_succ, gv_154, h60, f60, hf0, true_and, pif, nif, oJ, if_false]
        by_cases c : gI h 160 0 i = 0
        · rw [if_pos c]
          simpa [c, oJ] using ih
        · rw [if_neg c]
          by_cases c2 : view h 154 f ≤ view h 154 i
          · rw [if_pos c2]
            simpa [c, c2, oJ] using ih
          · rw [if_neg c2]
            simpa [c, c2, oJ] using ih
theorem nx_ask {key : Nat → Int32} {ask : Nat → Bool} : ∀ {n f : Nat}, nx key ask n = some f → ask f = true
  | 0, f, h => by cases h
  | n + 1, f, h => by
    rw [nx] at h
    split at h
    · split at h
      · rename_i c; cases h; exact c
      · cases h
    · rename_i f' e
      have := nx_ask e
      split at h
      · rename_i c; cases h; exact c.1
      · cases h; exact this
theorem nx_none {key : Nat → Int32} {ask : Nat → Bool} : ∀ {n : Nat}, nx key ask n = none → ∀ g, g < n → ask g = false
  | 0, _, g, hg => by omega
  | n + 1, h, g, hg => by
    rw [nx] at h
    split at h
    · rename_i e
      split at h
      · cases h
      · rename_i c
        by_cases e2 : g = n
        · rw [e2]; simpa using c
        · exact nx_none e g (by omega)
    · split at h <;> cases h
theorem nx_min {key : Nat → Int32} {ask : Nat → Bool} : ∀ {n f : Nat}, nx key ask n = some f → ∀ g, g < n → ask g = true → key f < key g ∨ (key f = key g ∧ f ≤ g)
  | 0, f, h, _, _, _ => by cases h
  | n + 1, f, h, g, hg, ha => by
    rw [nx] at h
    split at h
    · rename_i e
      split at h
      · cases h
        by_cases e2 : g = n
        · exact Or.inr ⟨by rw [e2], by omega⟩
        · have := nx_none e g (by omega)
          rw [this] at ha; cases ha
      · cases h
    · rename_i f' e
      have ih := nx_min e
      have hf' := nx_lt e
      split at h
      · rename_i c
        cases h
        by_cases e2 : g = n
        · exact Or.inr ⟨by rw [e2], by omega⟩
        · have h1 : key n < key f' := Int32.not_le.mp c.2
          rcases ih g (by omega) ha with h2 | ⟨h2, -⟩
          · exact Or.inl (Int32.lt_trans h1 h2)
          · exact Or.inl (h2 ▸ h1)
      · rename_i c
        cases h
        by_cases e2 : g = n
        · subst e2
          have : key f ≤ key g := Decidable.not_not.mp fun z => c ⟨ha, z⟩
          rcases Int32.lt_or_eq_of_le this with h3 | h3
          · exact Or.inl h3
          · exact Or.inr ⟨h3, by omega⟩
        · exact ih g (by omega) ha
theorem i32irr {a : Int32} (h : a < a) : False := Int32.lt_irrefl h
def ltk (key : Nat → Int32) (a b : Nat) : Prop := key a < key b ∨ (key a = key b ∧ a < b)
theorem ltk_irr {key : Nat → Int32} {a : Nat} : ¬ ltk key a a := by
  rintro (h | ⟨-, h⟩)
  · exact i32irr h
  · omega
def Sel (key : Nat → Int32) (n : Nat) : List Nat → (Nat → Bool) → Prop
  | [], ask => nx key ask n = none
  | g :: M, ask => nx key ask n = some g ∧ Sel key n M (fun x => ask x && !(x == g))
def selL (key : Nat → Int32) (n : Nat) : Nat → (Nat → Bool) → List Nat
  | 0, _ => []
  | c + 1, ask => match nx key ask n with
    | none => []
    | some g => g :: selL key n c (fun x => ask x && !(x == g))
theorem sel_selL {key : Nat → Int32} {n : Nat} : ∀ (c : Nat) (ask : Nat → Bool), ((List.range n).filter ask).length ≤ c → Sel key n (selL key n c ask) ask
  | 0, ask, h => by
    show nx key ask n = none
    cases hx : nx key ask n with
    | none => rfl
    | some g =>
      have : g ∈ (List.range n).filter ask := List.mem_filter.mpr ⟨List.mem_range.mpr (nx_lt hx), nx_ask hx⟩
      have := List.length_pos_of_mem this
      omega
  | c + 1, ask, h => by
    rw [selL]
    split
    · rename_i hx; exact hx
    · rename_i g hx
      refine ⟨hx, sel_selL c _ ?_⟩
      have hg : g ∈ (List.range n).filter ask := List.mem_filter.mpr ⟨List.mem_range.mpr (nx_lt hx), nx_ask hx⟩
      have e : (List.range n).filter (fun x => ask x && !(x == g)) = ((List.range n).filter ask).filter (fun x => !(x == g)) := by
        rw [List.filter_filter]; congr 1; funext x; rw [Bool.and_comm]
      have := List.length_filter_lt_length_iff_exists (p := fun x => !(x == g)) (l := (List.range n).filter ask) |>.mpr ⟨g, hg, by simp⟩
      rw [e]; omega
theorem sel_sorted {key : Nat → Int32} {n : Nat} : ∀ {M : List Nat} {ask : Nat → Bool}, M.Pairwise (ltk key) → (∀ g, g ∈ M ↔ g < n ∧ ask g = true) → Sel key n M ask
  | [], ask, _, h => by
    show nx key ask n = none
    cases hx : nx key ask n with
    | none => rfl
    | some g => exact absurd ((h g).mpr ⟨nx_lt hx, nx_ask hx⟩) (by simp)
  | g :: M, ask, hp, h => by
    have hp' := List.pairwise_cons.mp hp
    have hg := (h g).mp (by simp)
    refine ⟨?_, sel_sorted hp'.2 fun x => ⟨fun hx => ?_, fun hx => ?_⟩⟩
    · cases hx : nx key ask n with
      | none => have := nx_none hx g hg.1; rw [this] at hg; cases hg.2
      | some f =>
        have hf := (h f).mpr ⟨nx_lt hx, nx_ask hx⟩
        rcases List.mem_cons.mp hf with e | hf
        · rw [e]
        · have h1 := hp'.1 f hf
          have h2 := nx_min hx g hg.1 hg.2
          exfalso
          rcases h1 with h1 | ⟨h1, h1'⟩
          · rcases h2 with h2 | ⟨h2, -⟩
            · exact i32irr (Int32.lt_trans h1 h2)
            · rw [h2] at h1; exact i32irr h1
          · rcases h2 with h2 | ⟨-, h2⟩
            · rw [h1] at h2; exact i32irr h2
            · omega
    · have := (h x).mp (List.mem_cons_of_mem _ hx)
      have hne : x ≠ g := fun e => ltk_irr (e ▸ hp'.1 x hx)
      simp [this, hne]
    · have h2 : x < n ∧ ask x = true ∧ x ≠ g := by simpa using hx
      rcases List.mem_cons.mp ((h x).mpr ⟨h2.1, h2.2.1⟩) with e | e
      · exact absurd e h2.2.2
      · exact e
theorem sel_uniq {key : Nat → Int32} {n : Nat} : ∀ {M M' : List Nat} {ask : Nat → Bool}, Sel key n M ask → Sel key n M' ask → M = M'
  | [], [], _, _, _ => rfl
  | [], _ :: _, _, h, h' => by have h : _ = none := h; rw [h'.1] at h; cases h
  | _ :: _, [], _, h, h' => by have h' : _ = none := h'; rw [h.1] at h'; cases h'
  | g :: M, g' :: M', _, h, h' => by
    have e := h.1.symm.trans h'.1
    cases e
    rw [sel_uniq h.2 h'.2]
theorem selL_eq {key : Nat → Int32} {n : Nat} {M : List Nat} {ask : Nat → Bool} (hp : M.Pairwise (ltk key)) (h : ∀ g, g ∈ M ↔ g < n ∧ ask g = true) : selL key n n ask = M :=
  sel_uniq (sel_selL n ask (by have := List.length_filter_le ask (List.range n); rw [List.length_range] at this; exact this)) (sel_sorted hp h)
theorem selL_ok {key : Nat → Int32} {n : Nat} {ask : Nat → Bool} : Sel key n (selL key n n ask) ask :=
  sel_selL n ask (by have := List.length_filter_le ask (List.range n); rw [List.length_range] at this; exact this)
theorem nx_congr {key key' : Nat → Int32} {ask : Nat → Bool} : ∀ {n : Nat}, (∀ g, g < n → ask g = true → key' g = key g) → nx key' ask n = nx key ask n
  | 0, _ => rfl
  | n + 1, h => by
    rw [nx, nx, nx_congr (n := n) fun g hg => h g (by omega)]
    cases hx : nx key ask n with
    | none => rfl
    | some f =>
      by_cases c : ask n = true
      · have e := h f (by have := nx_lt hx; omega) (nx_ask hx)
        simp only [h n (by omega) c, e]
      · simp [c]
theorem sel_congr {key key' : Nat → Int32} {n : Nat} : ∀ {M : List Nat} {ask : Nat → Bool}, (∀ g, g < n → ask g = true → key' g = key g) → Sel key n M ask → Sel key' n M ask
  | [], _, h, s => by
    show nx _ _ _ = none
    rw [nx_congr h]; exact s
  | g :: M, ask, h, s => ⟨by rw [nx_congr h]; exact s.1, sel_congr (ask := fun x => ask x && !(x == g)) (fun x hx ha => h x hx (Bool.and_eq_true_iff.mp ha).1) s.2⟩
theorem sel_ask {key : Nat → Int32} {n : Nat} : ∀ {M : List Nat} {ask ask' : Nat → Bool}, (∀ g, g < n → ask' g = ask g) → Sel key n M ask → Sel key n M ask' := by
  have e : ∀ (n : Nat) (ask ask' : Nat → Bool), (∀ g, g < n → ask' g = ask g) → nx key ask' n = nx key ask n := by
    intro n
    induction n with
    | zero => intros; rfl
    | succ n ih => intro ask ask' h; rw [nx, nx, ih ask ask' fun g hg => h g (by omega), h n (by omega)]
  intro M
  induction M with
  | nil => intro ask ask' h s; show nx _ _ _ = none; rw [e n ask ask' h]; exact s
  | cons g M ih => intro ask ask' h s; exact ⟨by rw [e n ask ask' h]; exact s.1, ih (fun x hx => by rw [h x hx]) s.2⟩
theorem sel_mem {key : Nat → Int32} {n : Nat} : ∀ {M : List Nat} {ask : Nat → Bool}, Sel key n M ask → ∀ g, g ∈ M → g < n ∧ ask g = true
  | [], _, _, g, hg => by cases hg
  | x :: M, ask, s, g, hg => by
    rcases List.mem_cons.mp hg with e | hg
    · rw [e]; exact ⟨nx_lt s.1, nx_ask s.1⟩
    · have := sel_mem s.2 g hg
      exact ⟨this.1, (Bool.and_eq_true_iff.mp this.2).1⟩
