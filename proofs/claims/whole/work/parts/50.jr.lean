/-! what holds between two calls -/
def SeaR (h : Hp) (S : MSt) : Prop := gI h 5 0 2 = S 12 57 ∧ ∀ i r, S 12 57 = nJ r → r ≤ 10 → i < r → gI h 26 0 i = S 158 i ∧ gI h 27 0 i = S 159 i
def GuiR (nU : Nat) (h : Hp) (S : MSt) : Prop := ∃ k pm, gI h 3 0 1 = nJ k ∧ S 12 61 = nJ k ∧ k ≤ 6 ∧ (∀ i, i < k → gI h 36 0 i = S 162 i) ∧ S 12 63 = nJ pm ∧ pm ≤ nU ∧ (∀ t, t < 8 → gI h 38 0 t = if t < pm then S 164 t else -1) ∧ ∀ j, 64 * nU ≤ j → j < 576 → gI h 37 0 j = 0
def TapR (h : Hp) (S : MSt) : Prop := ∃ n, gI h 7 0 1 = nJ n ∧ S 12 2 = nJ n ∧ n ≤ 600 ∧ ∀ i, i < n → gI h 32 0 i = S 101 i ∧ 0 ≤ (S 101 i).toInt ∧ (S 101 i).toInt ≤ 126
def TxtR (h : Hp) (T : TextT) : Prop := TextX h T ∧ ∃ x, x < 2 ∧ gP h 0 0 3 = some (1, x) ∧ gP h 0 0 4 = some (1, 1 - x)
def TouR (nU : Nat) (S : MSt) : Prop := ∀ u, u < nU → (1 ≤ (S 138 u).toInt ∧ (S 138 u).toInt ≤ 200) ∧ (0 ≤ (S 139 u).toInt ∧ (S 139 u).toInt ≤ 7)
def ZerR (nU nG : Nat) (S : MSt) : Prop := (∀ g, nG ≤ g → g < 60 → S 153 g = 0) ∧ (∀ u, nU ≤ u → u < 8 → S 140 u = 0)
def SaiR (nS : Nat) (h : Hp) (S : MSt) : Prop := ∀ s, s < nS → gI h 6 s 4 = bI (S 128 s ≤ S 12 24)
def CelR (nS nT nU nG : Nat) (h : Hp) : Prop := gC h 6 = nS ∧ gC h 8 = nT ∧ gC h 10 = nU ∧ gC h 2 = nG
def JR (nS nT nU nG : Nat) (T : TextT) (h : Hp) (S : MSt) : Prop := Bd nS nT nU nG nU nG h S ∧ NB nG S ∧ SaiR nS h S ∧ CelR nS nT nU nG h ∧ SeaR h S ∧ GuiR nU h S ∧ TapR h S ∧ TxtR h T ∧ TouR nU S ∧ ZerR nU nG S
def TexB (b : Nat) (h : Hp) (T : TextT) : Prop := b < 2 ∧ gI h 12 0 15 = nJ b ∧ gI h 110 0 b = nJ T.length ∧ T.length ≤ 16 ∧ ∀ l x, T[l]? = some x → gI h 111 0 (16 * b + l) = x.1 ∧ ∃ p, gI h 112 0 (16 * b + l) = nJ p ∧ 660 * b ≤ p ∧ p + x.2.length < 660 * b + 660 ∧ EncAt h p x.2 ∧ okC x.2 0
def WrdR (h : Hp) : Prop := gL h 109 0 0 = 8404 ∧ gL h 109 0 1 = 1176170 ∧ gL h 109 0 2 = 1891 ∧ gL h 109 0 3 = 525045115 ∧ gL h 109 0 4 = 1034390 ∧ gL h 109 0 5 = 426554 ∧ gL h 109 0 6 = 913652 ∧ gL h 109 0 7 = 973708 ∧ gL h 109 0 8 = 834716452
def MR (T : TextT) (h : Hp) : Prop := (∃ b, TexB b h T) ∧ WrdR h
theorem TexB.m {b : Nat} {h : Hp} {T : TextT} (t : TexB b h T) : TextM h T := by
  obtain ⟨h1, h2, h3, h4, h5⟩ := t
  refine ⟨b, h1, h2, h3, h4, fun l x hx => ?_⟩
  obtain ⟨a1, p, a2, a3, a4, a5, a6⟩ := h5 l x hx
  exact ⟨a1, p, a2, by omega, a5, a6⟩
theorem MR.m {h : Hp} {T : TextT} (t : MR T h) : TextM h T := t.1.elim fun _ z => z.m
def J (h : Hp) : Prop := ∃ nS nT nU nG T, JR nS nT nU nG T h (view h) ∧ MR T h
theorem Bd.fr {nS nT nU nG i c : Nat} {h h' : Hp} {S : MSt} (f : Fr xkB h h') (b : Bd nS nT nU nG i c h S) : Bd nS nT nU nG i c h' S := by
  unfold Bd Stc RCd GD RTd Ld RQ RSs RTs RUs GS RK at b ⊢
  simp only [(f 2 rfl).2.1, (f 2 rfl).2.2.2, (f 6 rfl).2.1, (f 8 rfl).2.1, (f 8 rfl).2.2.2, (f 10 rfl).2.1, (f 11 rfl).2.1, (f 20 rfl).2.2.2, (f 21 rfl).2.2.2, (f 22 rfl).2.2.2, (f 23 rfl).2.2.2, (f 24 rfl).2.2.2, (f 25 rfl).2.2.2]
  exact b
theorem TextX.fr {h h' : Hp} {T : TextT} (f : Fr xkB h h') (t : TextX h T) : TextX h' T := by
  obtain ⟨x, e1, e2, e3, e4, e5⟩ := t
  refine ⟨x, by rw [(f 0 rfl).2.2.2]; exact e1, e2, by rw [(f 1 rfl).2.1]; exact e3, e4, fun l y hy => ?_⟩
  obtain ⟨a1, a2, s, a3, a4, a5, a6, a7⟩ := e5 l y hy
  exact ⟨by rw [(f 31 rfl).2.1]; exact a1, a2, s, a3, fun z => by rw [(f 29 rfl).2.1]; exact a4 z, by rw [(f 29 rfl).2.1]; exact a5, a6, CodAt.fr (f 28 rfl).2.1 a7⟩
theorem JR.fr {nS nT nU nG : Nat} {T : TextT} {h h' : Hp} {S : MSt} (f : Fr xkB h h') (j : JR nS nT nU nG T h S) : JR nS nT nU nG T h' S := by
  obtain ⟨j1, j2, j3, j4, j5, j6, j7, j8, j9⟩ := j
  refine ⟨j1.fr f, j2, ?_, ?_, ?_, ?_, ?_, ⟨j8.1.fr f, ?_⟩, j9⟩
  · unfold SaiR at j3 ⊢; rw [(f 6 rfl).2.1]; exact j3
  · unfold CelR at j4 ⊢; rw [(f 6 rfl).1, (f 8 rfl).1, (f 10 rfl).1, (f 2 rfl).1]; exact j4
  · unfold SeaR at j5 ⊢; rw [(f 5 rfl).2.1, (f 26 rfl).2.1, (f 27 rfl).2.1]; exact j5
  · unfold GuiR at j6 ⊢; rw [(f 3 rfl).2.1, (f 36 rfl).2.1, (f 38 rfl).2.1, (f 37 rfl).2.1]; exact j6
  · unfold TapR at j7 ⊢; rw [(f 7 rfl).2.1, (f 32 rfl).2.1]; exact j7
  · rw [(f 0 rfl).2.2.2]; exact j8.2
theorem TexB.fr {b : Nat} {h h' : Hp} {T : TextT} (f : gI h' 12 0 15 = gI h 12 0 15) (f0 : gI h' 110 = gI h 110) (f1 : gI h' 111 = gI h 111) (f2 : gI h' 112 = gI h 112) (f3 : gI h' 113 = gI h 113) (f4 : gI h' 114 = gI h 114) (t : TexB b h T) : TexB b h' T := by
  obtain ⟨e0, e1, e2, e3, e4⟩ := t
  refine ⟨e0, f.trans e1, by rw [f0]; exact e2, e3, fun l x hl => ?_⟩
  obtain ⟨a1, p, a2, a3, a4, a5, a6⟩ := e4 l x hl
  exact ⟨by rw [f1]; exact a1, p, by rw [f2]; exact a2, a3, a4, EncAt.fr f3 f4 a5, a6⟩
theorem WrdR.fr {h h' : Hp} (f : gL h' 109 = gL h 109) (w : WrdR h) : WrdR h' := by unfold WrdR at w ⊢; rw [f]; exact w
/-- what no call but text changes of the model's text -/
def Fq (h h' : Hp) : Prop := Fr xkB h h' ∧ gI h' 12 0 15 = gI h 12 0 15 ∧ gI h' 110 = gI h 110 ∧ gI h' 111 = gI h 111 ∧ gI h' 112 = gI h 112 ∧ gI h' 113 = gI h 113 ∧ gI h' 114 = gI h 114 ∧ gL h' 109 = gL h 109
theorem Fq.refl (h : Hp) : Fq h h := ⟨Fr.refl h, rfl, rfl, rfl, rfl, rfl, rfl, rfl⟩
theorem Fq.trans {a b c : Hp} (f : Fq a b) (g : Fq b c) : Fq a c := ⟨f.1.trans g.1, g.2.1.trans f.2.1, g.2.2.1.trans f.2.2.1, g.2.2.2.1.trans f.2.2.2.1, g.2.2.2.2.1.trans f.2.2.2.2.1, g.2.2.2.2.2.1.trans f.2.2.2.2.2.1, g.2.2.2.2.2.2.1.trans f.2.2.2.2.2.2.1, g.2.2.2.2.2.2.2.trans f.2.2.2.2.2.2.2⟩
theorem gI_wIo {h : Hp} {k i s : Nat} {v : Int32} {k' : Nat} (hk : ¬ k' = k) : gI (wI h k i s v) k' = gI h k' := by
  funext a b; rw [gI_wI, if_neg (fun z => hk z.1)]
theorem Fq.w {a b : Hp} (f : Fq a b) {k s : Nat} {v : Int32} (hk : xkB k = false) (h0 : ¬ 110 = k) (h1 : ¬ 111 = k) (h2 : ¬ 112 = k) (h3 : ¬ 113 = k) (h4 : ¬ 114 = k) (h5 : ¬ (12 = k ∧ 15 = s)) : Fq a (wI b k 0 s v) :=
  ⟨f.1.wI hk, by rw [gI_wI, if_neg (fun z => h5 ⟨z.1, z.2.2⟩)]; exact f.2.1, by rw [gI_wIo h0]; exact f.2.2.1, by rw [gI_wIo h1]; exact f.2.2.2.1, by rw [gI_wIo h2]; exact f.2.2.2.2.1, by rw [gI_wIo h3]; exact f.2.2.2.2.2.1, by rw [gI_wIo h4]; exact f.2.2.2.2.2.2.1, f.2.2.2.2.2.2.2⟩
theorem xm_of {k : Nat} (h : xkB k = true) : xm k = true := by
  unfold xkB mkB at h
  unfold xm
  simp only [Bool.not_or, Bool.and_eq_true, Bool.not_eq_true', beq_eq_false_iff_ne, ne_eq] at h ⊢
  refine ⟨h.1, ?_⟩
  cases e : Nat.ble 115 k with
  | false => rfl
  | true =>
    have h1 := Nat.ble_eq.mp e
    have h2 : Nat.ble 100 k = true := Nat.ble_eq.mpr (by omega)
    rw [h2] at h; cases h.2
theorem Fm.fq {h h' : Hp} (f : Fm h h') : Fq h h' := ⟨fr_le f.1 fun k hk => xm_of hk, f.2, (f.1 110 rfl).2.1, (f.1 111 rfl).2.1, (f.1 112 rfl).2.1, (f.1 113 rfl).2.1, (f.1 114 rfl).2.1, (f.1 109 rfl).2.2.1⟩
theorem Fq.mr {h h' : Hp} {T : TextT} (f : Fq h h') (m : MR T h) : MR T h' := ⟨m.1.elim fun b t => ⟨b, t.fr f.2.1 f.2.2.1 f.2.2.2.1 f.2.2.2.2.1 f.2.2.2.2.2.1 f.2.2.2.2.2.2.1⟩, m.2.fr f.2.2.2.2.2.2.2⟩
/-- a call of the class leaves the model's part -/
def Fc (h h' : Hp) : Prop := Fr mkB h h'
theorem Fc.mr {h h' : Hp} {T : TextT} (f : Fc h h') (m : MR T h) : MR T h' := ⟨m.1.elim fun b t => ⟨b, t.fr (by rw [(f 12 rfl).2.1]) (f 110 rfl).2.1 (f 111 rfl).2.1 (f 112 rfl).2.1 (f 113 rfl).2.1 (f 114 rfl).2.1⟩, m.2.fr (f 109 rfl).2.2.1⟩
theorem dx_mk {k s : Nat} (h : mkB k = true) : dx k s = false := by
  have h1 : k = 12 ∨ 100 ≤ k := by
    unfold mkB at h
    simp only [Bool.or_eq_true, beq_iff_eq, Nat.ble_eq] at h
    exact h
  have n : ∀ a, a < 100 → a ≠ 12 → (k == a) = false := fun a h2 h3 => by rw [beq_eq_false_iff_ne]; omega
  unfold dx
  rw [n 2 (by omega) (by omega), n 6 (by omega) (by omega), n 8 (by omega) (by omega), n 10 (by omega) (by omega), n 11 (by omega) (by omega), n 25 (by omega) (by omega), n 30 (by omega) (by omega), n 1 (by omega) (by omega)]
  rfl
theorem Kx.fc {h h' : Hp} (f : Kx h h') : Fc h h' := fun k hk => ⟨by rw [f.1], by funext i s; exact (f.2.2 k i s (dx_mk hk)).1, by rw [f.2.1], by funext i s; exact (f.2.2 k i s (dx_mk hk)).2⟩
/-- the shape of every call: the class, then the model -/
theorem JJ {wx wm : Hp → (Int32 → Hp → Prop) → Prop} {h : Hp} (j : J h)
    (go : ∀ nS nT nU nG T S, JR nS nT nU nG T h S → ∃ mS mT mU mG S' r, (∀ Q : Int32 → Hp → Prop, (∀ h', JR mS mT mU mG T h' S' → Fc h h' → Q r h') → wx h Q) ∧ (∀ h1, view h1 = S → TextM h1 T → WM nS nT nU nG S → ∀ Q : Int32 → Hp → Prop, (∀ h', view h' = S' → Fq h1 h' → Q r h') → wm h1 Q)) :
    wx h fun rx h1 => wm h1 fun rm h2 => rm = rx ∧ J h2 := by
  obtain ⟨nS, nT, nU, nG, T, jr, mr⟩ := j
  obtain ⟨mS, mT, mU, mG, S', r, hx, hm⟩ := go nS nT nU nG T (view h) jr
  refine hx _ fun h1 j1 f1 => ?_
  refine hm h1 (view_fr f1) (Fc.mr f1 mr).m jr.1.wm _ fun h2 v2 f2 => ⟨rfl, mS, mT, mU, mG, T, ?_, f2.mr (Fc.mr f1 mr)⟩
  rw [v2]; exact j1.fr f2.1
/-! a minute of the class -/
section
variable {nS nT nU nG : Nat} {h h' : Hp} {S S' : MSt} {T : TextT}
theorem i719 : (719 : Int32).toInt = 719 := by decide
theorem i1 : (1 : Int32).toInt = 1 := by decide
theorem Bd.tick (b : Bd nS nT nU nG nU nG h S) (nb : NB nG S) (hn : (S 12 24).toInt < 719) : Bd nS nT nU nG 0 0 (wI h 11 0 14 (gI h 11 0 14 + 1)) (us S 12 24 (S 12 24 + 1)) := by
  have en : (S 12 24 + 1).toInt = (S 12 24).toInt + 1 := by
    have := nb.1
    rw [tadd (by rw [i1]; omega) (by rw [i1]; omega), i1]
  have kx : Kx h (wI h 11 0 14 (gI h 11 0 14 + 1)) := (Kx.refl h).I rfl
  have sf : Sf S (us S 12 24 (S 12 24 + 1)) := (Sf.refl S).up rfl
  have o : ∀ k x, k ≠ 12 → us S 12 24 (S 12 24 + 1) k x = S k x := fun k x hk => by rw [us_app, if_neg (fun z => hk z.1)]
  refine ⟨b.wm.up rfl (by omega), b.st.keep kx sf, ?_, fun g hg => ?_, fun t ht => ?_, fun t ht => ?_, fun t ht => ?_, fun u hu => ?_, ?_⟩
  · obtain ⟨r1, r2, r3⟩ := b.rcd
    refine ⟨?_, ?_, ?_⟩
    · simp [gI_wI, us_app, r1]
    · simp [gI_wI, us_app, r2]
    · simp [gI_wI, us_app, r3]
  · obtain ⟨d1, d2, d3, d4, d5, d6, d7, d8, d9, d10, d11⟩ := b.gd g hg
    unfold GD
    have e24 : us S 12 24 (S 12 24 + 1) 12 24 = S 12 24 + 1 := by simp [us_app]
    simp only [o 148 _ (by omega), o 149 _ (by omega), o 150 _ (by omega), o 151 _ (by omega), o 152 _ (by omega), o 153 _ (by omega), o 154 _ (by omega), o 146 _ (by omega), o 142 _ (by omega), o 131 _ (by omega), o 136 _ (by omega), e24]
    refine ⟨d1, d2, d3, d4, d5, d6, fun z1 z2 => ?_, d8, d9, d10, d11⟩
    obtain ⟨x1, x2, x3, x4⟩ := d7 z1 z2
    refine ⟨x1, x2, ?_, fun z => absurd z (by omega)⟩
    rcases b.wm.1.tourOf g hg with e | ⟨u, hu, e⟩
    · exact absurd e x2
    · have hU := b.wm.1.cU.2
      have := x4 (by rw [e, tN_nJ (by omega)]; exact hu)
      rw [Int32.lt_iff_toInt_lt] at this
      rw [Int32.le_iff_toInt_le, en]; omega
  · have := b.td t ht
    unfold RTd at this ⊢
    rw [o 133 _ (by omega), o 134 _ (by omega)]
    simpa [gI_wI] using this
  · exact (b.ld t ht).keep sf (by simp [gI_wI]) fun g hg => by unfold inT; rw [o 148 _ (by omega), o 149 _ (by omega)]
  · exact (b.vl t ht).keep (o 133 _ (by omega)) fun g hg => by unfold inT; rw [o 148 _ (by omega), o 149 _ (by omega)]; exact id
  · rw [o 140 _ (by omega)]
    have := b.ud u hu
    simpa [gI_wI] using this
  · obtain ⟨L, l1, l2, l3, l4, l5, l6, l7⟩ := b.rq
    have e8 : (us S 12 24 (S 12 24 + 1)) 148 = S 148 := by funext x; exact o 148 x (by omega)
    have e9 : (us S 12 24 (S 12 24 + 1)) 149 = S 149 := by funext x; exact o 149 x (by omega)
    have e3 : (us S 12 24 (S 12 24 + 1)) 133 = S 133 := by funext x; exact o 133 x (by omega)
    have e4 : (us S 12 24 (S 12 24 + 1)) 154 = S 154 := by funext x; exact o 154 x (by omega)
    have e24 : us S 12 24 (S 12 24 + 1) 12 24 = S 12 24 + 1 := by simp [us_app]
    unfold RQ qst
    rw [e8, e9, e3, e4, e24]
    refine ⟨L, by simp [gI_wI, l1], l2, l3, l4, l5, l6, fun a ha z => Or.inl ?_⟩
    have : (S 154 a).toInt ≤ (S 12 24).toInt := by
      rcases l7 a ha z with y | y
      · have := Int32.lt_iff_toInt_lt.mp y; omega
      · rw [y.1]; omega
    rw [Int32.lt_iff_toInt_lt, en]; omega
theorem xShut {Q : Int32 → Hp → Prop} {r : Nat} (sr : SeaR h S) (hr : S 12 57 = nJ r) (h10 : r ≤ 10) (hn : gI h 11 0 14 = S 12 24) (kk : Q (bI (isSh S r = true)) h) : wp_X5_isShutIn (gI h 11 0 14) h Q := by
  suffices H : ∀ j i, i + j = r → isSh S i = false → w_X5_isShutIn_2 Q (j + 1) (gI h 11 0 14) (nJ i) h from ⟨r + 1, H r 0 (by omega) rfl⟩
  have mono : ∀ i, i ≤ r → isSh S i = true → isSh S r = true := by
    intro i hi z
    obtain ⟨d, rfl⟩ : ∃ d, r = i + d := ⟨r - i, by omega⟩
    clear kk hr h10 hi
    induction d with
    | zero => exact z
    | succ d ih =>
      show isSh S ((i + d) + 1) = true
      rw [isSh, ih]; rfl
  intro j
  induction j with
  | zero =>
    intro i e z
    obtain rfl : i = r := by omega
    rw [bI_0.mpr (by rw [z]; simp)] at kk
    refine ⟨fun _ => kk, fun c => absurd ?_ c⟩
    rw [sr.1, hr]; exact Int32.le_refl _
  | succ j ih =>
    intro i e z
    have hi : i < 10 := by omega
    have ti : tN (nJ i) = i := tN_nJ (by omega)
    have v : vp_in (nJ i) 10 := (vp_nJ (by omega)).mpr (by omega)
    obtain ⟨s1, s2⟩ := sr.2 i r hr h10 (by omega)
    refine ⟨fun c => absurd c ?_, fun _ => ⟨v, v, ?_⟩⟩
    · rw [sr.1, hr, nJ_le (by omega) (by omega)]; omega
    · rw [xwithin, ti, s1, s2, hn]
      refine ⟨fun c => ?_, fun c => ?_⟩
      · rw [bI_0] at c
        have := ih (i + 1) (by omega) (by rw [isSh, z, decide_eq_false c]; rfl)
        rw [← nJ_succ, hn] at this
        exact this
      · rw [bI_0] at c
        rw [bI_1.mpr (mono (i + 1) (by omega) (by rw [isSh, decide_eq_true (Decidable.not_not.mp c)]; simp))] at kk
        exact kk
end
