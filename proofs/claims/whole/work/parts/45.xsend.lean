/-! tenders load and leave -/
def gA (nT nG : Nat) (S : MSt) : Int32 := gTh nG S 2 4 + sm (fun t => if S 133 t = 1 then gIn nG S (nJ t) else 0) nT
theorem anyB_iff {f : Nat → Bool} : ∀ {n : Nat}, anyB f n = true ↔ ∃ g, g < n ∧ f g = true
  | 0 => by simp [anyB]
  | n + 1 => by
    rw [anyB, Bool.or_eq_true, anyB_iff]
    constructor
    · rintro (⟨g, hg, e⟩ | e)
      · exact ⟨g, by omega, e⟩
      · exact ⟨n, by omega, e⟩
    · rintro ⟨g, hg, e⟩
      by_cases c : g = n
      · exact Or.inr (c ▸ e)
      · exact Or.inl ⟨g, by omega, e⟩
theorem sm_pos {f : Nat → Int32} {B a : Nat} : ∀ {n : Nat}, n * B < 2147483648 → (∀ i, i < n → 0 ≤ (f i).toInt ∧ (f i).toInt ≤ B) → a < n → (f a).toInt ≤ (sm f n).toInt
  | 0, _, _, h => by omega
  | n + 1, hb, h, ha => by
    have e : (n + 1) * B = n * B + B := Nat.succ_mul n B
    have ih := sm_bd (n := n) (B := B) (f := f) (by omega) fun i hi => h i (by omega)
    have h1 := h n (by omega)
    have e3 : ((n : Nat) : Int) * (B : Int) = ((n * B : Nat) : Int) := (Int.natCast_mul n B).symm
    rw [sm, tadd (by omega) (by omega)]
    by_cases c : a = n
    · rw [c]; omega
    · have := sm_pos (n := n) (B := B) (f := f) (a := a) (by omega) (fun i hi => h i (by omega)) (by omega)
      omega
section
variable {nS nT nU nG i c : Nat} {p q : Nat → Prop} {h h' : Hp} {S S' : MSt} {T : TextT}
theorem gIn_bd (w : WM nS nT nU nG S) {a : Int32} : 0 ≤ (gIn nG S a).toInt ∧ (gIn nG S a).toInt ≤ 3600 := by
  have hn := w.1.cG.2
  have z0 : (0 : Int32).toInt = 0 := rfl
  have := sm_bd (n := nG) (B := 60) (f := fun g => if S 148 g = 1 ∧ S 149 g = a then S 143 g else 0) (by omega) fun g hg => by
    have := w.1.many g hg
    (try simp only)
    split
    · omega
    · rw [z0]; omega
  unfold gIn
  omega
theorem gTh_bd (w : WM nS nT nU nG S) {a b : Int32} : 0 ≤ (gTh nG S a b).toInt ∧ (gTh nG S a b).toInt ≤ 3600 := by
  have hn := w.1.cG.2
  have z0 : (0 : Int32).toInt = 0 := rfl
  have := sm_bd (n := nG) (B := 60) (f := fun g => if a ≤ S 148 g ∧ S 148 g ≤ b then S 143 g else 0) (by omega) fun g hg => by
    have := w.1.many g hg
    (try simp only)
    split
    · omega
    · rw [z0]; omega
  unfold gTh
  omega
theorem gA_bd (w : WM nS nT nU nG S) : 0 ≤ (gA nT nG S).toInt ∧ (gA nT nG S).toInt ≤ 25200 := by
  have hn := w.1.cT.2
  have z0 : (0 : Int32).toInt = 0 := rfl
  have h1 := sm_bd (n := nT) (B := 3600) (f := fun t => if S 133 t = 1 then gIn nG S (nJ t) else 0) (by omega) fun g hg => by
    have := gIn_bd w (a := nJ g)
    (try simp only)
    split
    · omega
    · rw [z0]; omega
  have h2 := gTh_bd w (a := 2) (b := 4)
  unfold gA
  rw [tadd (by omega) (by omega)]
  omega
theorem gIn_none (w : WM nS nT nU nG S) {a : Int32} (e : ¬ 0 < gIn nG S a) : ∀ g, g < nG → ¬ (S 148 g = 1 ∧ S 149 g = a) := by
  intro g hg z
  have hn := w.1.cG.2
  have z0 : (0 : Int32).toInt = 0 := rfl
  have := sm_pos (n := nG) (B := 60) (f := fun g => if S 148 g = 1 ∧ S 149 g = a then S 143 g else 0) (a := g) (by omega) (fun g hg => by
    have := w.1.many g hg
    (try simp only)
    split
    · omega
    · rw [z0]; omega) hg
  simp only [if_pos z] at this
  have m := w.1.many g hg
  apply e
  rw [Int32.lt_iff_toInt_lt, z0]
  unfold gIn
  omega
theorem gCo_eq {t : Nat} (hT : nT ≤ 6) (ht : t < nT) (e : S 133 t = 0) : gCo nT nG S (nJ t) = gA nT nG S + gIn nG S (nJ t) := by
  unfold gCo gA
  rw [sm_up (f := fun t => if S 133 t = 1 then gIn nG S (nJ t) else 0) (a := t) ht fun i hi hne => ?_]
  · have e1 : ¬ ((0 : Int32) = 1) := by decide
    simp only [e, e1, if_false]
    rw [if_pos (Or.inr trivial), Int32.sub_zero, Int32.add_assoc]
  · have : ¬ nJ i = nJ t := fun z => hne ((nJ_eq (by omega) (by omega)).mp z)
    simp only [this, or_false]
theorem cmp5 {a A G m : Int32} (ha : 0 ≤ a.toInt ∧ a.toInt ≤ 10000) (hA : 0 ≤ A.toInt ∧ A.toInt ≤ 25200) (hG : 0 ≤ G.toInt ∧ G.toInt ≤ 3600) (hm : 1 ≤ m.toInt ∧ m.toInt ≤ 60) : a - A - G < m ↔ a < A + G + m := by
  have e1 : (a - A).toInt = a.toInt - A.toInt := tsub (by omega) (by omega)
  have e2 : (a - A - G).toInt = a.toInt - A.toInt - G.toInt := by rw [tsub (by omega) (by omega), e1]
  have e3 : (A + G).toInt = A.toInt + G.toInt := tadd (by omega) (by omega)
  have e4 : (A + G + m).toInt = A.toInt + G.toInt + m.toInt := by rw [tadd (by omega) (by omega), e3]
  rw [Int32.lt_iff_toInt_lt, Int32.lt_iff_toInt_lt, e2, e4]
  omega
/-! the class's sums -/
theorem xTown {Q : Int32 → Hp → Prop} (w : WM nS nT nU nG S) (st : Stc nS nT nU nG h S) (gd : ∀ g, g < nG → GD nT i h S g) (kk : Q (gTh nG S 2 4) h) : wp_X11_guestsInTown h Q := by
  have hn := w.1.cG.2
  suffices H : ∀ j i, i + j = nG → w_X11_guestsInTown_4 Q (j + 1) (sm (fun g => if 2 ≤ S 148 g ∧ S 148 g ≤ 4 then S 143 g else 0) i) (nJ i) h from ⟨nG + 1, H nG 0 (by omega)⟩
  intro j
  induction j with
  | zero =>
    intro i e
    obtain rfl : i = nG := by omega
    refine ⟨fun _ => kk, fun z => absurd ?_ z⟩
    rw [st.1.2.2.2.1]; exact Int32.le_refl _
  | succ j ih =>
    intro i e
    have ih := ih (i + 1) (by omega)
    rw [sm, ← nJ_succ] at ih
    have hi : i < nG := by omega
    have ti : tN (nJ i) = i := tN_nJ (by omega)
    have v60 : vp_in (nJ i) 60 := (vp_nJ (by omega)).mpr (by omega)
    have gs := st.gs i hi
    refine ⟨fun z => absurd z ?_, fun _ => ⟨i, by rw [ti]; exact gs.1, v60, ?_⟩⟩
    · rw [st.1.2.2.2.1, nJ_le (by omega) (by omega)]; omega
    · unfold wp_X2_isInTown w_X2_isInTown_0
      rw [xwithin, (gd i hi).1]
      refine ⟨by unfold bI; split <;> simp, fun z => ?_, fun z => ⟨i, by rw [ti]; exact gs.1, v60, ?_⟩⟩
      · rw [bI_0] at z
        rw [if_neg z, Int32.add_zero] at ih
        exact ih
      · rw [bI_0] at z
        rw [if_pos (Decidable.not_not.mp z)] at ih
        rw [gs.2.2.1]
        exact ih
theorem xComing {Q : Int32 → Hp → Prop} (b : Bp nS nT nU nG i c (fun _ => True) q h S) (kk : Q (gA nT nG S) h) : wp_X11_guestsInTownOrComing h Q := by
  have hn := b.wm.1.cT.2
  refine xTown b.wm b.st b.gd ?_
  suffices H : ∀ j i, i + j = nT → w_X11_guestsInTownOrComing_7 Q (j + 1) (gTh nG S 2 4 + sm (fun t => if S 133 t = 1 then gIn nG S (nJ t) else 0) i) (nJ i) h from ⟨nT + 1, by have := H nT 0 (by omega); rw [sm, Int32.add_zero] at this; exact this⟩
  intro j
  induction j with
  | zero =>
    intro i e
    obtain rfl : i = nT := by omega
    refine ⟨fun _ => kk, fun z => absurd ?_ z⟩
    rw [b.st.1.2.1]; exact Int32.le_refl _
  | succ j ih =>
    intro i e
    have ih := ih (i + 1) (by omega)
    rw [sm, ← nJ_succ, ← Int32.add_assoc] at ih
    have hi : i < nT := by omega
    have ti : tN (nJ i) = i := tN_nJ (by omega)
    have v6 : vp_in (nJ i) 6 := (vp_nJ (by omega)).mpr (by omega)
    have rt := b.st.2.2.1 i hi
    have ld : gI h 8 i 5 = gIn nG S (nJ i) := b.ld i hi trivial
    refine ⟨fun z => absurd z ?_, fun _ => ⟨i, by rw [ti]; exact rt.1, v6, fun z => ?_, fun z => ⟨i, by rw [ti]; exact rt.1, v6, ?_⟩⟩⟩
    · rw [b.st.1.2.1, nJ_le (by omega) (by omega)]; omega
    · rw [(b.td i hi).1] at z
      rw [if_neg z, Int32.add_zero] at ih
      exact ih
    · rw [(b.td i hi).1] at z
      rw [if_pos z] at ih
      rw [ld]
      exact ih
theorem xAtQuay {s : Nat} {Q : Int32 → Hp → Prop} (hs : s < nS) (b : Bp nS nT nU nG i c p q h S) (kk : Q (bI (anyB (askH S (nJ s)) nG = true)) h) : wp_X11_isSomeoneAtQuay (some (6, s)) h Q := by
  obtain ⟨L, l1, l2, l3, l4, l5, l6, l7⟩ := b.rq
  have hn := b.wm.1.cG.2
  have hl : L.length ≤ nG := nodup_len nG L l2 (fun x hx => (l3 x hx).1)
  suffices H : ∀ j i, i + j = L.length → (∀ g, g ∈ L.take i → askH S (nJ s) g = false) → w_X11_isSomeoneAtQuay_2 Q (j + 1) (some (6, s)) (nJ i) h from ⟨L.length + 1, H L.length 0 (by omega) (fun g hg => by simp at hg)⟩
  intro j
  induction j with
  | zero =>
    intro i e hp
    obtain rfl : i = L.length := by omega
    rw [List.take_length] at hp
    refine ⟨fun _ => ?_, fun z => absurd ?_ z⟩
    · have : bI (anyB (askH S (nJ s)) nG = true) = 0 := bI_0.mpr (by
        rw [anyB_iff]
        rintro ⟨g, hg, e⟩
        have e' := of_decide_eq_true e
        have := hp g (l4 g hg e'.2)
        rw [e] at this; cases this)
      rw [this] at kk
      exact kk
    · rw [l1]; exact Int32.le_refl _
  | succ j ih =>
    intro i e hp
    have hi : i < L.length := by omega
    have hg := (l3 L[i] (List.getElem_mem hi)).1
    have ti : tN (nJ i) = i := tN_nJ (by omega)
    have v60 : vp_in (nJ i) 60 := (vp_nJ (by omega)).mpr (by omega)
    have e25 : gP h 25 0 i = some (2, L[i]) := l5 i L[i] (List.getElem?_eq_getElem hi)
    have gs := b.st.gs L[i] hg
    have no : ¬ (S 142 L[i] = nJ s ∧ S 148 L[i] = 4) → w_X11_isSomeoneAtQuay_2 Q (j + 1) (some (6, s)) (nJ i + 1) h := fun z => by
      rw [nJ_succ]
      refine ih (i + 1) (by omega) fun g hg => ?_
      rw [take_succ' hi] at hg
      rcases List.mem_append.mp hg with y | y
      · exact hp g y
      · have y : g = L[i] := by simpa using y
        rw [y]; exact decide_eq_false z
    refine ⟨fun z => absurd z ?_, fun _ => ⟨L[i], by rw [ti]; exact e25, v60, fun z => ?_, fun z => ⟨L[i], by rw [ti]; exact e25, v60, fun z2 => ?_, fun z2 => ?_⟩⟩⟩
    · rw [l1, nJ_le (by omega) (by omega)]; omega
    · rw [gs.ship b.wm hg hs] at z; exact no (fun y => z y.1)
    · rw [(b.gd L[i] hg).1] at z2; exact no (fun y => z2 y.2)
    · rw [gs.ship b.wm hg hs] at z
      rw [(b.gd L[i] hg).1] at z2
      have : bI (anyB (askH S (nJ s)) nG = true) = 1 := bI_1.mpr (anyB_iff.mpr ⟨L[i], hg, decide_eq_true ⟨z, z2⟩⟩)
      rw [this] at kk
      exact kk
theorem xWaits {g : Nat} {Q : Int32 → Hp → Prop} (st : Stc nS nT nU nG h S) (gd : GD nT i h S g) (rc : RCd h S) (hg : g < nG) (kk : Q (bI (S 148 g = 0 ∧ S 145 g ≤ S 12 24)) h) : wp_X2_waitsAboard g (gI h 11 0 14) h Q := by
  have gs := st.gs g hg
  rw [rc.1]
  unfold wp_X2_waitsAboard w_X2_waitsAboard_0 w_X2_waitsAboard_7
  rw [gd.1, gs.2.2.2.2.1]
  refine ⟨fun z => ?_, fun z => ⟨fun z2 => ?_, fun z2 => ?_⟩⟩
  · rw [bI_0.mpr (fun y => z y.1)] at kk; exact ⟨Or.inl rfl, kk⟩
  · rw [bI_0.mpr (fun y => Int32.not_le.mpr z2 y.2)] at kk; exact ⟨Or.inl rfl, kk⟩
  · rw [bI_1.mpr ⟨z, Int32.not_lt.mp z2⟩] at kk; exact ⟨Or.inr rfl, kk⟩
theorem xToFetch {s : Nat} {Q : Int32 → Hp → Prop} (hs : s < nS) (b : Bp nS nT nU nG i c p q h S) (kk : Q (bI (anyB (askO S (nJ s)) nG = true)) h) : wp_X11_isSomeoneToFetch (some (6, s)) h Q := by
  have hn := b.wm.1.cG.2
  suffices H : ∀ j i, i + j = nG → (∀ g, g < i → askO S (nJ s) g = false) → w_X11_isSomeoneToFetch_2 Q (j + 1) (some (6, s)) (nJ i) h from ⟨nG + 1, H nG 0 (by omega) (fun g hg => by omega)⟩
  intro j
  induction j with
  | zero =>
    intro i e hp
    obtain rfl : i = nG := by omega
    refine ⟨fun _ => ?_, fun z => absurd ?_ z⟩
    · have : bI (anyB (askO S (nJ s)) i = true) = 0 := bI_0.mpr (by
        rw [anyB_iff]
        rintro ⟨g, hg, e⟩
        have := hp g hg
        rw [e] at this; cases this)
      rw [this] at kk
      exact kk
    · rw [b.st.1.2.2.2.1]; exact Int32.le_refl _
  | succ j ih =>
    intro i e hp
    have hg : i < nG := by omega
    have ti : tN (nJ i) = i := tN_nJ (by omega)
    have v60 : vp_in (nJ i) 60 := (vp_nJ (by omega)).mpr (by omega)
    have gs := b.st.gs i hg
    have no : ¬ (S 142 i = nJ s ∧ S 148 i = 0 ∧ S 145 i ≤ S 12 24) → w_X11_isSomeoneToFetch_2 Q (j + 1) (some (6, s)) (nJ i + 1) h := fun z => by
      rw [nJ_succ]
      refine ih (i + 1) (by omega) fun g hg => ?_
      by_cases y : g = i
      · rw [y]; exact decide_eq_false z
      · exact hp g (by omega)
    refine ⟨fun z => absurd z ?_, fun _ => ⟨i, by rw [ti]; exact gs.1, v60, fun z => ?_, fun z => ⟨i, by rw [ti]; exact gs.1, v60, ?_⟩⟩⟩
    · rw [b.st.1.2.2.2.1, nJ_le (by omega) (by omega)]; omega
    · rw [gs.ship b.wm hg hs] at z; exact no (fun y => z y.1)
    · rw [gs.ship b.wm hg hs] at z
      refine xWaits b.st (b.gd i hg) b.rcd hg ⟨fun z2 => ?_, fun z2 => ?_⟩
      · rw [bI_0] at z2; exact no (fun y => z2 y.2)
      · rw [bI_0] at z2
        have : bI (anyB (askO S (nJ s)) nG = true) = 1 := bI_1.mpr (anyB_iff.mpr ⟨i, hg, decide_eq_true ⟨z, Decidable.not_not.mp z2⟩⟩)
        rw [this] at kk
        exact kk
/-! a group goes on board; a tender leaves -/
def ldS (t : Nat) (S : MSt) (g : Nat) : MSt := us (us (us S 148 g 1) 149 g (nJ t)) 154 g (-1)
theorem ldS_o {t g k x : Nat} (hx : ¬ (x = g ∧ (k = 148 ∨ k = 149 ∨ k = 154))) : ldS t S g k x = S k x := by
  unfold ldS
  rw [us_app, if_neg (fun z => hx ⟨z.2, by omega⟩), us_app, if_neg (fun z => hx ⟨z.2, by omega⟩), us_app, if_neg (fun z => hx ⟨z.2, by omega⟩)]
theorem ldS_sf {t g : Nat} : Sf S (ldS t S g) := (((Sf.refl S).up rfl).up rfl).up rfl
theorem xTake {t g : Nat} (b : Bp nS nT nU nG nU nG (fun _ => True) (fun x => x ≠ t) h S) (ht : t < nT) (hg : g < nG) (e0 : S 148 g ≠ 1) (e2 : S 142 g = S 131 t) (hq : qst S g → S 133 t ≠ 0 ∧ S 133 t ≠ 1) :
    Bp nS nT nU nG nU nG (fun _ => True) (fun x => x ≠ t) (wI (wP (wI h 2 g 6 1) 2 g 7 (some (8, t))) 8 t 5 (gI (wP (wI h 2 g 6 1) 2 g 7 (some (8, t))) 8 t 5 + gI (wP (wI h 2 g 6 1) 2 g 7 (some (8, t))) 2 g 1)) (ldS t S g) ∧ Sp h S (wI (wP (wI h 2 g 6 1) 2 g 7 (some (8, t))) 8 t 5 (gI (wP (wI h 2 g 6 1) 2 g 7 (some (8, t))) 8 t 5 + gI (wP (wI h 2 g 6 1) 2 g 7 (some (8, t))) 2 g 1)) (ldS t S g) ∧ gIn nG (ldS t S g) (nJ t) = gIn nG S (nJ t) + S 143 g := by
  have hT := b.wm.1.cT.2
  have gs := b.st.gs g hg
  have gd := b.gd g hg
  have sf : Sf S (ldS t S g) := ldS_sf
  have v24 : ldS t S g 12 24 = S 12 24 := ldS_o (by omega)
  have sp : Sp h S (wI (wP (wI h 2 g 6 1) 2 g 7 (some (8, t))) 8 t 5 (gI (wP (wI h 2 g 6 1) 2 g 7 (some (8, t))) 8 t 5 + gI (wP (wI h 2 g 6 1) 2 g 7 (some (8, t))) 2 g 1)) (ldS t S g) := ⟨(((Kz.refl h).I rfl (by omega)).P rfl).I rfl (by omega), sf, v24⟩
  have i8 : ldS t S g 148 g = 1 := by simp [ldS, us_app]
  have i9 : ldS t S g 149 g = nJ t := by simp [ldS, us_app]
  have i4 : ldS t S g 154 g = -1 := by simp [ldS, us_app]
  have o : ∀ k x, x ≠ g → ldS t S g k x = S k x := fun k x hx => ldS_o (fun z => hx z.1)
  have o' : ∀ k x, k ≠ 148 → k ≠ 149 → k ≠ 154 → ldS t S g k x = S k x := fun k x h1 h2 h3 => ldS_o (by omega)
  have eG : gIn nG (ldS t S g) (nJ t) = gIn nG S (nJ t) + S 143 g := by
    unfold gIn
    rw [sm_up (f := fun g => if S 148 g = 1 ∧ S 149 g = nJ t then S 143 g else 0) (a := g) hg fun x hx hne => ?_]
    · rw [if_neg (fun z => e0 z.1), if_pos ⟨i8, i9⟩, Int32.sub_zero, o' 143 g (by omega) (by omega) (by omega)]
    · rw [o 148 x hne, o 149 x hne, o 143 x hne]
  refine ⟨Bp.up b sp (((b.wm.up8 (by decide)).up rfl (by omega)).up rfl (by omega)) ?_ ?_ ?_ ?_ ?_ ?_ ?_, sp, eG⟩
  · have := b.rcd
    unfold RCd at this ⊢
    rw [v24, o' 12 56 (by omega) (by omega) (by omega), o' 12 55 (by omega) (by omega) (by omega)]
    simpa [gI_wI, gI_wP] using this
  · intro x hx
    by_cases y : x = g
    · right
      subst y
      obtain ⟨d1, d2, d3, d4, d5, d6, d7, d8, d9, d10, d11⟩ := gd
      have n1 : ¬ ((1 : Int32) = 2) ∧ ¬ ((1 : Int32) = 4) := by decide
      unfold GD
      rw [i8, i9, i4, o' 151 x (by omega) (by omega) (by omega), o' 152 x (by omega) (by omega) (by omega), o' 153 x (by omega) (by omega) (by omega), o' 142 x (by omega) (by omega) (by omega)]
      simp only [gI_wI, gI_wP, gP_wI, gP_wP]
      simp [n1, tN_nJ (n := t) (by omega)]
      exact ⟨d3, d4, d5, t, ht, rfl, by rw [o' 131 t (by omega) (by omega) (by omega)]; exact e2.symm⟩
    · left
      refine ⟨fun s hs => by simp [gI_wI, gI_wP, y], by simp [gP_wI, gP_wP, y], fun k h1 h2 => o k x y⟩
  · intro t' ht'; left
    exact ⟨by simp [gI_wI, gI_wP], by simp [gI_wI, gI_wP], o' 133 t' (by omega) (by omega) (by omega), o' 134 t' (by omega) (by omega) (by omega)⟩
  · intro t' ht' _
    by_cases y : t' = t
    · subst y
      have ld : gI h 8 t' 5 = gIn nG S (nJ t') := b.ld t' ht trivial
      unfold Ld
      rw [eG]
      simp [gI_wI, gI_wP]
      rw [ld, gs.2.2.1]
    · refine (b.ld t' ht' trivial).keep sf (by simp [gI_wI, gI_wP, y]) fun x hx => ?_
      unfold inT
      by_cases y2 : x = g
      · subst y2
        have : ¬ nJ t = nJ t' := fun z => y ((nJ_eq (by omega) (by omega)).mp z).symm
        simp [i8, i9, this, e0]
      · rw [o 148 x y2, o 149 x y2]
  · intro t' ht' y
    refine (b.vl t' ht' y).keep (o' 133 t' (by omega) (by omega) (by omega)) fun x hx => ?_
    unfold inT
    by_cases y2 : x = g
    · subst y2
      have : ¬ nJ t = nJ t' := fun z => y ((nJ_eq (by omega) (by omega)).mp z).symm
      simp [i8, i9, this]
    · rw [o 148 x y2, o 149 x y2]; exact id
  · intro u hu
    rw [o' 140 u (by omega) (by omega) (by omega)]
    have := b.ud u hu
    simpa [gI_wI, gI_wP] using this
  · refine b.rq.keep (by simp [gI_wI, gI_wP]) (fun _ => by simp [gP_wI, gP_wP]) v24 (fun x hx z => ?_) (fun x hx z => ?_)
    · unfold qst
      by_cases y2 : x = g
      · subst y2
        have := hq z
        right; right; right
        rw [i8, i9, tN_nJ (by omega), o' 133 t (by omega) (by omega) (by omega)]
        exact ⟨rfl, this⟩
      · unfold qst at z
        rw [o 148 x y2, o 149 x y2, o' 133 _ (by omega) (by omega) (by omega)]; exact z
    · by_cases y2 : x = g
      · subst y2
        rw [i8] at z; exact absurd z (by decide)
      · rw [o 148 x y2] at z
        exact ⟨z, o 154 x y2⟩
theorem xLeave {t : Nat} {v : Int32} {Q : Hp → Prop} (b : Bp nS nT nU nG nU nG (fun _ => True) (fun x => x ≠ t) h S) (ht : t < nT) (hv : v = 1 ∧ S 133 t = 0 ∨ v = 3 ∧ S 133 t = 2) (kk : ∀ h', Bd nS nT nU nG nU nG h' (us (us S 133 t v) 134 t (S 127 (tN (S 131 t)))) → Sp h S h' (us (us S 133 t v) 134 t (S 127 (tN (S 131 t)))) → Q h') : wp_X8_leave t v h Q := by
  have hS := b.wm.1.cS.2
  obtain ⟨s, hs, es⟩ := b.wm.1.shipOf t ht
  have rt := b.st.2.2.1 t ht
  obtain ⟨s1, s2, s3, s4, s5⟩ := b.st.2.1 s hs
  have e1 : gP (wI h 8 t 3 v) 8 t 1 = some (6, s) := by
    rw [gP_wI]; exact (rt.ship b.wm ht hs).mpr es
  rw [es, tN_nJ (by omega)] at kk
  refine ⟨s, e1, ?_⟩
  have e2 : gI (wI h 8 t 3 v) 6 s 1 = S 127 s := by simp [gI_wI, s3]
  rw [e2]
  have sf : Sf S (us (us S 133 t v) 134 t (S 127 s)) := ((Sf.refl S).up rfl).up rfl
  have sp : Sp h S (wI (wI h 8 t 3 v) 8 t 4 (S 127 s)) (us (us S 133 t v) 134 t (S 127 s)) := ⟨((Kz.refl h).I rfl (by omega)).I rfl (by omega), sf, by simp [us_app]⟩
  refine kk _ (Bp.bd (Bp.up b sp ((b.wm.up rfl (by omega)).up rfl (by omega)) ?_ ?_ ?_ ?_ ?_ ?_ ?_)) sp
  · have := b.rcd
    unfold RCd at this ⊢
    simpa [gI_wI, us_app] using this
  · intro g hg; left
    refine ⟨fun s hs => by simp [gI_wI], rfl, fun k h1 h2 => ?_⟩
    rw [us_app, if_neg (by omega), us_app, if_neg (by omega)]
  · intro t' ht'
    by_cases y : t' = t
    · right
      subst y
      have : v = 1 ∨ v = 3 := hv.elim (fun z => Or.inl z.1) (fun z => Or.inr z.1)
      unfold RTd
      simp [gI_wI, us_app, this]
    · left; simp [gI_wI, us_app, y]
  · intro t' ht' _
    exact (b.ld t' ht' trivial).keep sf (by simp [gI_wI]) fun g hg => by simp [us_app, inT]
  · intro t' ht' _
    by_cases y : t' = t
    · subst y
      intro z
      simp [us_app] at z
      rcases hv with y | y <;> (rw [y.1] at z; simp at z)
    · exact (b.vl t' ht' y).keep (by simp [us_app, y]) fun g hg => by simp [us_app, inT]
  · intro u hu
    have := b.ud u hu
    simpa [gI_wI, us_app] using this
  · refine b.rq.keep (by simp [gI_wI]) (fun _ => rfl) (by simp [us_app]) (fun g hg z => ?_) (fun g hg z => ?_)
    · unfold qst at z ⊢
      have e8 : us (us S 133 t v) 134 t (S 127 s) 148 g = S 148 g := by simp [us_app]
      have e9 : us (us S 133 t v) 134 t (S 127 s) 149 g = S 149 g := by simp [us_app]
      rw [e8, e9]
      rcases z with z | z | z | z
      · exact Or.inl z
      · exact Or.inr (Or.inl z)
      · exact Or.inr (Or.inr (Or.inl z))
      · refine Or.inr (Or.inr (Or.inr ⟨z.1, ?_⟩))
        by_cases y2 : tN (S 149 g) = t
        · rw [y2] at z ⊢
          rcases hv with y | y
          · exact absurd y.2 z.2.1
          · simp [us_app, y.1]
        · simpa [us_app, y2] using z.2
    · simp [us_app] at z ⊢; exact z
theorem stays {t : Nat} (b : Bp nS nT nU nG nU nG (fun _ => True) (fun x => x ≠ t) h S) (e : ¬ 0 < gIn nG S (nJ t)) : Bd nS nT nU nG nU nG h S := by
  refine Bp.bd ⟨b.wm, b.st, b.rcd, b.gd, b.td, b.ld, fun t' ht' _ => ?_, b.ud, b.rq⟩
  by_cases y : t' = t
  · subst y
    exact fun _ g hg => gIn_none b.wm e g hg
  · exact b.vl t' ht' y
/-! loading at the ship, at the quay -/
def lcO (nT nG t : Nat) (s : Int32) (S : MSt) (g : Nat) : MSt := if askO S s g = true then ldO nT nG t S g else S
def lcH (nG t : Nat) (s : Int32) (S : MSt) (g : Nat) : MSt := if askH S s g = true then ldH nG t S g else S
theorem ldO_eq {t g : Nat} : ldO nT nG t S g = if S 132 t - gIn nG S (nJ t) < S 143 g ∨ S 12 25 < gCo nT nG S (nJ t) + S 143 g then S else ldS t S g := rfl
theorem ldH_eq {t g : Nat} : ldH nG t S g = if S 132 t - gIn nG S (nJ t) < S 143 g then S else ldS t S g := rfl
theorem ldO_o {t g k x : Nat} (hx : ¬ (x = g ∧ (k = 148 ∨ k = 149 ∨ k = 154))) : ldO nT nG t S g k x = S k x := by
  rw [ldO_eq]; split
  · rfl
  · exact ldS_o hx
theorem ldH_o {t g k x : Nat} (hx : ¬ (x = g ∧ (k = 148 ∨ k = 149 ∨ k = 154))) : ldH nG t S g k x = S k x := by
  rw [ldH_eq]; split
  · rfl
  · exact ldS_o hx
theorem xRoom {t g : Nat} {Q : Int32 → Hp → Prop} (b : Bp nS nT nU nG i c (fun _ => True) q h S) (ht : t < nT) (hg : g < nG) (kk : Q (bI (¬ S 132 t - gIn nG S (nJ t) < S 143 g)) h) : wp_X8_hasRoomFor t (some (2, g)) h Q := by
  have ld : gI h 8 t 5 = gIn nG S (nJ t) := b.ld t ht trivial
  refine ⟨g, rfl, ?_⟩
  unfold w_X8_hasRoomFor_0
  rw [ld, (b.st.2.2.1 t ht).2.2.1, (b.st.gs g hg).2.2.1]
  refine ⟨fun z => ?_, fun z => ?_⟩
  · rw [bI_0.mpr (fun y => y z)] at kk; exact ⟨Or.inl rfl, kk⟩
  · rw [bI_1.mpr z] at kk; exact ⟨Or.inr rfl, kk⟩
theorem xLoadShip {t : Nat} {Q : Hp → Prop} (b0 : Bd nS nT nU nG nU nG h S) (ht : t < nT) (e0 : S 133 t = 0) (kk : ∀ h', Bp nS nT nU nG nU nG (fun _ => True) (fun x => x ≠ t) h' ((selL (S 144) nG nG (askO S (S 131 t))).foldl (ldO nT nG t) S) → Sp h S h' ((selL (S 144) nG nG (askO S (S 131 t))).foldl (ldO nT nG t) S) → ((selL (S 144) nG nG (askO S (S 131 t))).foldl (ldO nT nG t) S) 133 t = 0 → Q h') : wp_X11_loadAtShip (some (8, t)) h Q := by
  obtain ⟨L, l1, l2, l3, l4, l5⟩ := b0.st.rk
  have hn := b0.wm.1.cG.2
  have hT := b0.wm.1.cT.2
  obtain ⟨s, hs, es⟩ := b0.wm.1.shipOf t ht
  rw [selL_eq (M := L.filter (askO S (S 131 t))) (l5.filter _) (fun g => by rw [List.mem_filter, l2 g])] at kk
  rw [← fold_ask (f := ldO nT nG t) (ask := fun S' g => askO S' (S 131 t) g) (fun S g x hx => by
    unfold askO
    rw [ldO_o (fun z => hx z.1), ldO_o (fun z => hx z.1), ldO_o (fun z => hx z.1), ldO_o (by omega)]) l1] at kk
  have g0 : gIn nG S (nJ t) = 0 := gIn_0 fun g hg => b0.vl t ht (Or.inl e0) g hg
  refine xComing (b0.bp (q := fun _ => True)) ?_
  rw [b0.st.1.2.2.2.2]
  suffices H : ∀ j i h1 S1, i + j = nG → Bp nS nT nU nG nU nG (fun _ => True) (fun x => x ≠ t) h1 S1 → S1 = (L.take i).foldl (fun S' g => if askO S' (S 131 t) g = true then ldO nT nG t S' g else S') S → S1 133 t = 0 → Sp h S h1 S1 → w_X11_loadAtShip_12 Q (j + 1) (some (8, t)) (S1 12 25 - gA nT nG S1 - gIn nG S1 (nJ t)) (nJ i) h1 from ⟨nG + 1, by
    have := H nG 0 h S (by omega) b0.bp rfl e0 (Sp.refl h S)
    rw [g0, Int32.sub_zero] at this
    exact this⟩
  intro j
  induction j with
  | zero =>
    intro i h1 S1 e b hS e3 sp
    obtain rfl : i = nG := by omega
    rw [show L.take i = L from by rw [← l3, List.take_length]] at hS
    rw [← hS] at kk
    refine ⟨fun _ => kk h1 b sp e3, fun z => absurd ?_ z⟩
    rw [b.st.1.2.2.2.1]; exact Int32.le_refl _
  | succ j ih =>
    intro i h1 S1 e b hS e3 sp
    have hi : i < L.length := by omega
    have hg : L[i] < nG := (l2 _).mp (List.getElem_mem hi)
    have ti : tN (nJ i) = i := tN_nJ (by omega)
    have gs := b.st.gs L[i] hg
    have gd := b.gd L[i] hg
    have rt := b.st.2.2.1 t ht
    have e131 : S1 131 t = S 131 t := sp.2.1 131 t rfl
    have e24 : gP h1 24 0 i = some (2, L[i]) := by
      rw [(sp.1.1.2.2 24 0 i rfl).2]; exact l4 i L[i] (List.getElem?_eq_getElem hi)
    have e81 : gP h1 8 t 1 = some (6, s) := (rt.ship b.wm ht hs).mpr (e131.trans es)
    have hfold : ∀ X, X = (if askO S1 (S 131 t) L[i] = true then ldO nT nG t S1 L[i] else S1) → X = (L.take (i + 1)).foldl (fun S' g => if askO S' (S 131 t) g = true then ldO nT nG t S' g else S') S := fun X hX => by
      rw [take_succ' hi, List.foldl_append, ← hS]; exact hX
    have no : (if askO S1 (S 131 t) L[i] = true then ldO nT nG t S1 L[i] else S1) = S1 → w_X11_loadAtShip_12 Q (j + 1) (some (8, t)) (S1 12 25 - gA nT nG S1 - gIn nG S1 (nJ t)) (nJ i + 1) h1 := fun z => by
      rw [nJ_succ]
      exact ih (i + 1) h1 S1 (by omega) b (hfold _ z.symm) e3 sp
    refine ⟨fun z => absurd z ?_, fun _ => ⟨t, rfl, L[i], by rw [ti]; exact e24, (vp_nJ (by omega)).mpr (by omega), fun z => ?_, fun z => ?_⟩⟩
    · rw [b.st.1.2.2.2.1, nJ_le (by omega) (by omega)]; omega
    · rw [e81, gs.ship b.wm hg hs] at z
      refine no (if_neg fun y => z ?_)
      have := (of_decide_eq_true y).1
      rw [this, es]
    · rw [e81, gs.ship b.wm hg hs] at z
      refine xWaits b.st gd b.rcd hg ⟨fun z2 => ?_, fun z2 => ⟨t, rfl, ?_⟩⟩
      · rw [bI_0] at z2
        exact no (if_neg fun y => z2 (of_decide_eq_true y).2)
      · rw [bI_0] at z2
        have z2 := Decidable.not_not.mp z2
        have ask : askO S1 (S 131 t) L[i] = true := decide_eq_true ⟨by rw [z, es], z2⟩
        rw [if_pos ask] at no hfold
        rw [ldO_eq] at no hfold
        refine xRoom b ht hg ⟨fun z3 => ?_, fun z3 => ⟨L[i], rfl, fun z4 => ?_, fun z4 => ⟨t, rfl, L[i], rfl, L[i], rfl, ?_⟩⟩⟩
        · rw [bI_0] at z3
          exact no (if_pos (Or.inl (Decidable.not_not.mp z3)))
        · rw [gs.2.2.1, cmp5 b.wm.1.town (gA_bd b.wm) (gIn_bd b.wm) (b.wm.1.many _ hg), ← gCo_eq hT ht e3] at z4
          exact no (if_pos (Or.inr z4))
        · rw [bI_0] at z3
          have z3 := Decidable.not_not.mp z3
          rw [gs.2.2.1, cmp5 b.wm.1.town (gA_bd b.wm) (gIn_bd b.wm) (b.wm.1.many _ hg), ← gCo_eq hT ht e3] at z4
          have ev : (if S1 132 t - gIn nG S1 (nJ t) < S1 143 L[i] ∨ S1 12 25 < gCo nT nG S1 (nJ t) + S1 143 L[i] then S1 else ldS t S1 L[i]) = ldS t S1 L[i] := if_neg fun y => y.elim z3 z4
          have nq : ¬ qst S1 L[i] := by
            unfold qst; rw [z2.1]; simp
          obtain ⟨b2, s2, eG⟩ := xTake b ht hg (by rw [z2.1]; decide) (by rw [z, e131, es]) (fun y => absurd y nq)
          have r1 : gI (wI (wP (wI h1 2 L[i] 6 1) 2 L[i] 7 (some (8, t))) 8 t 5 (gI (wP (wI h1 2 L[i] 6 1) 2 L[i] 7 (some (8, t))) 8 t 5 + gI (wP (wI h1 2 L[i] 6 1) 2 L[i] 7 (some (8, t))) 2 L[i] 1)) 2 L[i] 1 = S1 143 L[i] := by
            simp [gI_wI, gI_wP]; exact gs.2.2.1
          show w_X11_loadAtShip_12 Q (j + 1) (some (8, t)) (S1 12 25 - gA nT nG S1 - gIn nG S1 (nJ t) - gI (wI (wP (wI h1 2 L[i] 6 1) 2 L[i] 7 (some (8, t))) 8 t 5 (gI (wP (wI h1 2 L[i] 6 1) 2 L[i] 7 (some (8, t))) 8 t 5 + gI (wP (wI h1 2 L[i] 6 1) 2 L[i] 7 (some (8, t))) 2 L[i] 1)) 2 L[i] 1) (nJ i + 1) _
          rw [nJ_succ, r1]
          have eA : gA nT nG (ldS t S1 L[i]) = gA nT nG S1 := by
            unfold gA
            congr 1
            · refine sm_congr fun x hx => ?_
              by_cases y : x = L[i]
              · rw [y]
                have i8 : ldS t S1 L[i] 148 L[i] = 1 := by simp [ldS, us_app]
                have n1 : ¬ ((2 : Int32) ≤ 1 ∧ (1 : Int32) ≤ 4) := by decide
                have n0 : ¬ ((2 : Int32) ≤ 0 ∧ (0 : Int32) ≤ 4) := by decide
                rw [i8, z2.1, if_neg n1, if_neg n0]
              · rw [ldS_o (fun z => y z.1), ldS_o (fun z => y z.1)]
            · refine sm_congr fun x hx => ?_
              rw [ldS_o (by omega)]
              split
              · rename_i y
                have hne : x ≠ t := fun y2 => by rw [y2, e3] at y; exact absurd y (by decide)
                refine gIn_congr fun g hg' => ⟨?_, ldS_o (by omega)⟩
                by_cases y2 : g = L[i]
                · rw [y2]
                  have i9 : ldS t S1 L[i] 149 L[i] = nJ t := by simp [ldS, us_app]
                  have : ¬ nJ t = nJ x := fun z => hne ((nJ_eq (by omega) (by omega)).mp z).symm
                  have n0 : ¬ ((0 : Int32) = 1) := by decide
                  rw [i9, z2.1]
                  simp [this, n0]
                · rw [ldS_o (fun z => y2 z.1), ldS_o (fun z => y2 z.1)]
              · rfl
          have := ih (i + 1) _ (ldS t S1 L[i]) (by omega) b2 (hfold _ ev.symm) ((ldS_o (by omega)).trans e3) (sp.trans s2)
          rw [eA, eG, ldS_o (by omega)] at this
          rw [show S1 12 25 - gA nT nG S1 - gIn nG S1 (nJ t) - S1 143 L[i] = S1 12 25 - gA nT nG S1 - (gIn nG S1 (nJ t) + S1 143 L[i]) by
            rw [Int32.sub_eq_add_neg, Int32.sub_eq_add_neg (S1 12 25 - gA nT nG S1), Int32.sub_eq_add_neg (S1 12 25 - gA nT nG S1), Int32.neg_add, Int32.sub_eq_add_neg, Int32.add_assoc, ← Int32.sub_eq_add_neg (-gIn nG S1 (nJ t))]]
          exact this
theorem xLoadQuay {t : Nat} {Q : Hp → Prop} (b0 : Bd nS nT nU nG nU nG h S) (ht : t < nT) (e0 : S 133 t = 2) (kk : ∀ h', Bp nS nT nU nG nU nG (fun _ => True) (fun x => x ≠ t) h' ((selL (S 154) nG nG (askH S (S 131 t))).foldl (ldH nG t) S) → Sp h S h' ((selL (S 154) nG nG (askH S (S 131 t))).foldl (ldH nG t) S) → ((selL (S 154) nG nG (askH S (S 131 t))).foldl (ldH nG t) S) 133 t = 2 → Q h') : wp_X11_loadAtQuay (some (8, t)) h Q := by
  obtain ⟨L, l1, l2, l3, l4, l5, l6, l7⟩ := b0.rq
  have hn := b0.wm.1.cG.2
  have hT := b0.wm.1.cT.2
  have hl : L.length ≤ nG := nodup_len nG L l2 (fun x hx => (l3 x hx).1)
  obtain ⟨s, hs, es⟩ := b0.wm.1.shipOf t ht
  rw [selL_eq (M := L.filter (askH S (S 131 t))) (by
    rw [List.pairwise_filter]
    exact l6.imp fun z ha hb => z (of_decide_eq_true ha).2 (of_decide_eq_true hb).2) (fun g => by
    rw [List.mem_filter]
    constructor
    · intro y; exact ⟨(l3 g y.1).1, y.2⟩
    · intro y; exact ⟨l4 g y.1 (of_decide_eq_true y.2).2, y.2⟩)] at kk
  rw [← fold_ask (f := ldH nG t) (ask := fun S' g => askH S' (S 131 t) g) (fun S g x hx => by
    unfold askH
    rw [ldH_o (fun z => hx z.1), ldH_o (fun z => hx z.1)]) l2] at kk
  suffices H : ∀ j i h1 S1, i + j = L.length → Bp nS nT nU nG nU nG (fun _ => True) (fun x => x ≠ t) h1 S1 → S1 = (L.take i).foldl (fun S' g => if askH S' (S 131 t) g = true then ldH nG t S' g else S') S → S1 133 t = 2 → Sp h S h1 S1 → gI h1 11 0 10 = gI h 11 0 10 → (∀ j, gP h1 25 0 j = gP h 25 0 j) → w_X11_loadAtQuay_2 Q (j + 1) (some (8, t)) (nJ i) h1 from ⟨L.length + 1, H L.length 0 h S (by omega) b0.bp rfl e0 (Sp.refl h S) rfl (fun _ => rfl)⟩
  intro j
  induction j with
  | zero =>
    intro i h1 S1 e b hS e3 sp c10 c25
    obtain rfl : i = L.length := by omega
    rw [List.take_length] at hS
    rw [← hS] at kk
    refine ⟨fun _ => kk h1 b sp e3, fun z => absurd ?_ z⟩
    rw [c10, l1]; exact Int32.le_refl _
  | succ j ih =>
    intro i h1 S1 e b hS e3 sp c10 c25
    have hi : i < L.length := by omega
    have hg : L[i] < nG := (l3 _ (List.getElem_mem hi)).1
    have ti : tN (nJ i) = i := tN_nJ (by omega)
    have gs := b.st.gs L[i] hg
    have gd := b.gd L[i] hg
    have rt := b.st.2.2.1 t ht
    have e131 : S1 131 t = S 131 t := sp.2.1 131 t rfl
    have e25 : gP h1 25 0 i = some (2, L[i]) := by
      rw [c25]; exact l5 i L[i] (List.getElem?_eq_getElem hi)
    have e81 : gP h1 8 t 1 = some (6, s) := (rt.ship b.wm ht hs).mpr (e131.trans es)
    have hfold : ∀ X, X = (if askH S1 (S 131 t) L[i] = true then ldH nG t S1 L[i] else S1) → X = (L.take (i + 1)).foldl (fun S' g => if askH S' (S 131 t) g = true then ldH nG t S' g else S') S := fun X hX => by
      rw [take_succ' hi, List.foldl_append, ← hS]; exact hX
    have no : (if askH S1 (S 131 t) L[i] = true then ldH nG t S1 L[i] else S1) = S1 → w_X11_loadAtQuay_2 Q (j + 1) (some (8, t)) (nJ i + 1) h1 := fun z => by
      rw [nJ_succ]
      exact ih (i + 1) h1 S1 (by omega) b (hfold _ z.symm) e3 sp c10 c25
    refine ⟨fun z => absurd z ?_, fun _ => ⟨t, rfl, L[i], by rw [ti]; exact e25, (vp_nJ (by omega)).mpr (by omega), fun z => ?_, fun z => ⟨fun z2 => ?_, fun z2 => ⟨t, rfl, ?_⟩⟩⟩⟩
    · rw [c10, l1, nJ_le (by omega) (by omega)]; omega
    · rw [e81, gs.ship b.wm hg hs] at z
      refine no (if_neg fun y => z ?_)
      have := (of_decide_eq_true y).1
      rw [this, es]
    · rw [gd.1] at z2
      exact no (if_neg fun y => z2 (of_decide_eq_true y).2)
    · rw [e81, gs.ship b.wm hg hs] at z
      rw [gd.1] at z2
      have ask : askH S1 (S 131 t) L[i] = true := decide_eq_true ⟨by rw [z, es], z2⟩
      rw [if_pos ask] at no hfold
      rw [ldH_eq] at no hfold
      refine xRoom b ht hg ⟨fun z3 => ?_, fun z3 => ⟨t, rfl, L[i], rfl, ?_⟩⟩
      · rw [bI_0] at z3
        exact no (if_pos (Decidable.not_not.mp z3))
      · rw [bI_0] at z3
        have z3 := Decidable.not_not.mp z3
        have ev : (if S1 132 t - gIn nG S1 (nJ t) < S1 143 L[i] then S1 else ldS t S1 L[i]) = ldS t S1 L[i] := if_neg z3
        obtain ⟨b2, s2, eG⟩ := xTake b ht hg (by rw [z2]; decide) (by rw [z, e131, es]) (fun y => by rw [e3]; decide)
        show w_X11_loadAtQuay_2 Q (j + 1) (some (8, t)) (nJ i + 1) _
        rw [nJ_succ]
        exact ih (i + 1) _ (ldS t S1 L[i]) (by omega) b2 (hfold _ ev.symm) ((ldS_o (by omega)).trans e3) (sp.trans s2) (by simp [gI_wI, gI_wP]; exact c10) (fun j => by simp [gP_wI, gP_wP]; exact c25 j)
theorem xSend {Q : Hp → Prop} (b0 : Bd nS nT nU nG nU nG h S) (kk : ∀ h', Bd nS nT nU nG nU nG h' (itr (ldT nT nG) nT S) → Sp h S h' (itr (ldT nT nG) nT S) → Q h') : wp_X11_sendTenders h Q := by
  suffices H : ∀ j i h1 S1, i + j = nT → Bd nS nT nU nG nU nG h1 S1 → S1 = itr (ldT nT nG) i S → Sp h S h1 S1 → w_X11_sendTenders_2 Q (j + 1) (nJ i) h1 from ⟨nT + 1, H nT 0 h S (by omega) b0 rfl (Sp.refl h S)⟩
  intro j
  induction j with
  | zero =>
    intro i h1 S1 e b hS sp
    obtain rfl : i = nT := by omega
    rw [← hS] at kk
    refine ⟨fun _ => kk h1 b sp, fun c => absurd ?_ c⟩
    rw [b.st.1.2.1]; exact Int32.le_refl _
  | succ j ih =>
    intro i h1 S1 e b hS sp
    have hT := b.wm.1.cT.2
    have hSS := b.wm.1.cS.2
    have hi : i < nT := by omega
    have ti : tN (nJ i) = i := tN_nJ (by omega)
    have td := b.td i hi
    obtain ⟨s, hs, es⟩ := b.wm.1.shipOf i hi
    have step : ∀ h2, Bd nS nT nU nG nU nG h2 (ldT nT nG i S1) → Sp h1 S1 h2 (ldT nT nG i S1) → w_X11_sendTenders_2 Q (j + 1) (nJ i + 1) h2 := fun h2 b2 s2 => by
      rw [nJ_succ]
      exact ih (i + 1) h2 _ (by omega) b2 (by rw [itr, ← hS]) (sp.trans s2)
    refine ⟨fun c => absurd c ?_, fun _ => ⟨i, by rw [ti]; exact (b.st.2.2.1 i hi).1, (vp_nJ (by omega)).mpr (by omega), fun z => ⟨fun z2 => ?_, fun z2 => ?_⟩, fun z => ?_⟩⟩
    · rw [b.st.1.2.1, nJ_le (by omega) (by omega)]; omega
    · rw [td.1] at z z2
      have em : ldT nT nG i S1 = S1 := by unfold ldT; rw [if_neg z, if_neg z2]
      rw [em] at step
      exact step h1 b (Sp.refl _ _)
    · rw [td.1] at z z2
      have em : ldT nT nG i S1 = mLdH nT nG i S1 := by unfold ldT; rw [if_neg z, if_pos z2]
      rw [em] at step
      unfold mLdH at step
      refine xLoadQuay b hi z2 fun h2 b2 s2 e2 => ⟨i, rfl, ?_⟩
      generalize (selL (S1 154) nG nG (askH S1 (S1 131 i))).foldl (ldH nG i) S1 = S2 at step b2 s2 e2
      simp only at step
      have ld : gI h2 8 i 5 = gIn nG S2 (nJ i) := b2.ld i hi trivial
      have e131 : S2 131 i = S1 131 i := s2.2.1 131 i rfl
      have go : (0 < gIn nG S2 (nJ i) ∨ anyB (askO S2 (S1 131 i)) nG = true) → w_X11_sendTenders_86 (w_X11_sendTenders_2 Q (j + 1)) Q (nJ i) i h2 := fun y => by
        rw [if_pos y] at step
        refine xLeave b2 hi (Or.inr ⟨rfl, e2⟩) fun h3 b3 s3 => ?_
        rw [e131] at b3 s3
        exact step h3 b3 (s2.trans s3)
      refine ⟨fun y => ?_, fun y => ?_⟩
      · rw [ld] at y; exact go (Or.inl y)
      · rw [ld] at y
        have e81 : gP h2 8 i 1 = some (6, s) := ((b2.st.2.2.1 i hi).ship b2.wm hi hs).mpr (e131.trans es)
        unfold w_X11_sendTenders_75
        rw [e81]
        refine xToFetch hs b2 ⟨fun y2 => ?_, fun y2 => ⟨i, rfl, ?_⟩⟩
        · rw [bI_0, ← es] at y2
          rw [if_neg (fun x => x.elim y y2)] at step
          exact step h2 (stays b2 y) s2
        · rw [bI_0, ← es] at y2
          exact go (Or.inr (Decidable.not_not.mp y2))
    · rw [td.1] at z
      have em : ldT nT nG i S1 = mLdO nT nG i S1 := by unfold ldT; rw [if_pos z]
      rw [em] at step
      unfold mLdO at step
      refine xLoadShip b hi z fun h2 b2 s2 e2 => ⟨i, rfl, ?_⟩
      generalize (selL (S1 144) nG nG (askO S1 (S1 131 i))).foldl (ldO nT nG i) S1 = S2 at step b2 s2 e2
      simp only at step
      have ld : gI h2 8 i 5 = gIn nG S2 (nJ i) := b2.ld i hi trivial
      have e131 : S2 131 i = S1 131 i := s2.2.1 131 i rfl
      have go : (0 < gIn nG S2 (nJ i) ∨ anyB (askH S2 (S1 131 i)) nG = true) → w_X11_sendTenders_47 (w_X11_sendTenders_2 Q (j + 1)) Q (nJ i) i h2 := fun y => by
        rw [if_pos y] at step
        refine xLeave b2 hi (Or.inl ⟨rfl, e2⟩) fun h3 b3 s3 => ?_
        rw [e131] at b3 s3
        exact step h3 b3 (s2.trans s3)
      refine ⟨fun y => ?_, fun y => ?_⟩
      · rw [ld] at y; exact go (Or.inl y)
      · rw [ld] at y
        have e81 : gP h2 8 i 1 = some (6, s) := ((b2.st.2.2.1 i hi).ship b2.wm hi hs).mpr (e131.trans es)
        unfold w_X11_sendTenders_36
        rw [e81]
        refine xAtQuay hs b2 ⟨fun y2 => ?_, fun y2 => ⟨i, rfl, ?_⟩⟩
        · rw [bI_0, ← es] at y2
          rw [if_neg (fun x => x.elim y y2)] at step
          exact step h2 (stays b2 y) s2
        · rw [bI_0, ← es] at y2
          exact go (Or.inr (Decidable.not_not.mp y2))
end
