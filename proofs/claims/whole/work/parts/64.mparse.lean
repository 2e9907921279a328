/-! the model's reader against the reading -/
def Fz (nx : Nat) (h h' : Hp) : Prop := gC h' = gC h ∧ gL h' = gL h ∧ gP h' = gP h ∧ ∀ k i s, ¬ (k = 12 ∧ (s = 7 ∨ s = 8 ∨ s = 17 ∨ s = 18)) → ¬ (119 ≤ k ∧ k ≤ 121) → ¬ ((k = 113 ∨ k = 114) ∧ 660 * nx ≤ s ∧ s < 660 * nx + 660) → gI h' k i s = gI h k i s
theorem Fz.refl {nx : Nat} (h : Hp) : Fz nx h h := ⟨rfl, rfl, rfl, fun _ _ _ _ _ _ => rfl⟩
theorem Fz.trans {nx : Nat} {a b d : Hp} (f : Fz nx a b) (k : Fz nx b d) : Fz nx a d := ⟨k.1.trans f.1, k.2.1.trans f.2.1, k.2.2.1.trans f.2.2.1, fun x i s h1 h2 h3 => (k.2.2.2 x i s h1 h2 h3).trans (f.2.2.2 x i s h1 h2 h3)⟩
theorem Fz.w {nx : Nat} {a b : Hp} (f : Fz nx a b) {k s : Nat} {v : Int32} (hk : (k = 12 ∧ (s = 7 ∨ s = 8 ∨ s = 17 ∨ s = 18)) ∨ (119 ≤ k ∧ k ≤ 121) ∨ ((k = 113 ∨ k = 114) ∧ 660 * nx ≤ s ∧ s < 660 * nx + 660)) : Fz nx a (wI b k 0 s v) := by
  refine ⟨f.1, f.2.1, f.2.2.1, fun x i t h1 h2 h3 => ?_⟩
  rw [gI_wI, if_neg]
  · exact f.2.2.2 x i t h1 h2 h3
  · rintro ⟨rfl, rfl, rfl⟩
    rcases hk with y | y | y
    · exact h1 y
    · exact h2 y
    · exact h3 y
abbrev WT : Type := Nat → Nat × Nat × Nat
section
variable {nx : Nat} {TS : List Tk} {h0 : Hp} {h h' : Hp} {C : CodeT} {W : WT} {t : Tk} {r ts : List Tk} {d : Nat}
def St (nx : Nat) (TS : List Tk) (h0 h : Hp) (ts : List Tk) (d : Nat) (C : CodeT) (W : WT) : Prop := (∃ i, ts = TS.drop i ∧ i < TS.length ∧ gI h 12 0 7 = nJ i) ∧ (Am TS h ∧ TS.length ≤ 601 ∧ WrdR h) ∧ gI h 12 0 8 = 0 ∧ gI h 12 0 18 = nJ d ∧ (gI h 12 0 16 = nJ nx ∧ nx < 2) ∧ gI h 12 0 17 = nJ C.length ∧ (∀ j x, C[j]? = some x → gI h 113 0 (660 * nx + j) = nJ x.1 ∧ gI h 114 0 (660 * nx + j) = nJ x.2) ∧ (∀ e, e ≤ d → gI h 119 0 e = nJ (W e).1 ∧ gI h 120 0 e = nJ (W e).2.1 ∧ gI h 121 0 e = nJ (W e).2.2) ∧ Fz nx h0 h
theorem TkM.kp {i : Nat} {u : Tk} (x : TkM h i u) (h4 : gI h' 104 = gI h 104) (h5 : gI h' 105 = gI h 105) (h6 : gL h' = gL h) : TkM h' i u := by
  unfold TkM at x ⊢; rw [h4, h5, h6]; exact x
theorem St.tk (s : St nx TS h0 h (t :: r) d C W) : ∃ i, i < 601 ∧ gI h 12 0 7 = nJ i ∧ TkM h i t := by
  obtain ⟨⟨i, e, hi, e7⟩, ⟨am, hl, -⟩, -⟩ := s
  have : TS[i]? = some t := by
    have := congrArg (fun l => l[0]?) e
    simp [List.getElem?_drop] at this
    exact this.symm
  exact ⟨i, by omega, e7, am i t this⟩
theorem mSignG {s : Nat} {Q : Int32 → Hp → Prop} (tkx : ∃ i, i < 601 ∧ gI h 12 0 7 = nJ i ∧ TkM h i t) (e8 : gI h 12 0 8 = 0) (h6 : 6 ≤ s) (h12 : s ≤ 12) (kk : Q (bI (t.1 = s)) h) : wp_X12_isSign (nJ (sg s)) h Q := by
  obtain ⟨i, hi, e7, tk⟩ := tkx
  have vi : vp_in (nJ i) 602 := (vp_nJ (by omega)).mpr (by omega)
  have ti : tN (nJ i) = i := tN_nJ (by omega)
  have sgb : ∀ k, sg k ≤ 61 := fun k => by
    unfold sg
    repeat' split
    all_goals omega
  have sgi : ∀ k, 6 ≤ k → k ≤ 12 → ∀ k', 6 ≤ k' → k' ≤ 12 → sg k = sg k' → k = k' := by
    intro k a b k' a' b'
    have : ∀ k, k < 13 → ∀ k', k' < 13 → 6 ≤ k → 6 ≤ k' → sg k = sg k' → k = k' := by decide
    exact this k (by omega) k' (by omega) a a'
  simp only [w_X12_isSign_40, w_X12_isSign_39, w_X12_isSign_35, w_X12_isSign_20, w_X12_isSign_7, w_X12_isSign_0, wp_X12_isSign, e8, e7, ti, vi, lg0]
  obtain ⟨-, -, tk⟩ := tk
  have no : t.1 ≠ s → Q 0 h := fun z => by rw [bI_n z] at kk; exact kk
  refine ⟨fun z => absurd trivial z, fun _ => ⟨trivial, fun z => ⟨Or.inl trivial, no ?_⟩, fun z => ⟨trivial, fun y => ⟨Or.inl trivial, no ?_⟩, fun y => ⟨Or.inr trivial, ?_⟩⟩⟩⟩
  · intro q
    rcases tk with y | y | y | y | y
    · omega
    · omega
    · exact z y.2.2.1
    · omega
    · omega
  · intro q
    rcases tk with x | x | x | x | x
    · omega
    · omega
    · apply y
      rw [x.2.2.2, nJ_64 (by have := sgb s; omega), q]
    · omega
    · omega
  · rcases tk with x | x | x | x | x
    · rw [x.2] at z; exact absurd z (by decide)
    · rw [x.2.1] at z; exact absurd z (by decide)
    · rw [x.2.2.2, nJ_64 (by have := sgb s; omega), lJ_eq (by have := sgb t.1; omega) (by have := sgb s; omega)] at y
      rw [bI_c (sgi _ x.1 x.2.1 _ h6 h12 y)] at kk; exact kk
    · rw [x.2.2.2.1] at z; exact absurd z (by decide)
    · rw [x.2] at z; exact absurd z (by decide)
theorem mSign {s : Nat} {Q : Int32 → Hp → Prop} (st : St nx TS h0 h (t :: r) d C W) (h6 : 6 ≤ s) (h12 : s ≤ 12) (kk : Q (bI (t.1 = s)) h) : wp_X12_isSign (nJ (sg s)) h Q := mSignG st.tk st.2.2.1 h6 h12 kk
theorem WrdR.at {w : Nat} (wr : WrdR h) (hw : w < 9) : gL h 109 0 w = lJ (wv w) := by
  obtain ⟨w0, w1, w2, w3, w4, w5, w6, w7, w8⟩ := wr
  rcases (by omega : w = 0 ∨ w = 1 ∨ w = 2 ∨ w = 3 ∨ w = 4 ∨ w = 5 ∨ w = 6 ∨ w = 7 ∨ w = 8) with rfl | rfl | rfl | rfl | rfl | rfl | rfl | rfl | rfl
  · exact w0
  · exact w1
  · exact w2
  · exact w3
  · exact w4
  · exact w5
  · exact w6
  · exact w7
  · exact w8
theorem mWordG {w : Nat} {Q : Int32 → Hp → Prop} (tkx : ∃ i, i < 601 ∧ gI h 12 0 7 = nJ i ∧ TkM h i t) (e8 : gI h 12 0 8 = 0) (wr0 : WrdR h) (hw : w < 9) (kk : Q (bI (t.1 = kw w)) h) : wp_X12_isWord (nJ w) h Q := by
  obtain ⟨i, hi, e7, tk⟩ := tkx
  have wr := WrdR.at wr0 hw
  have vi : vp_in (nJ i) 602 := (vp_nJ (by omega)).mpr (by omega)
  have ti : tN (nJ i) = i := tN_nJ (by omega)
  have vw : vp_in (nJ w) 9 := (vp_nJ (by omega)).mpr hw
  have tw : tN (nJ w) = w := tN_nJ (by omega)
  have wvb : wv w < 9223372036854775808 := by
    have : ∀ w, w < 9 → wv w < 9223372036854775808 := by decide
    exact this w hw
  have kb : kw w ≠ 1 ∧ kw w ≠ 2 ∧ kw w ≠ 0 ∧ ¬ (6 ≤ kw w ∧ kw w ≤ 12) := by unfold kw; split <;> omega
  simp only [w_X12_isWord_44, w_X12_isWord_43, w_X12_isWord_39, w_X12_isWord_20, w_X12_isWord_7, w_X12_isWord_0, wp_X12_isWord, e8, e7, ti, vi, vw, tw, wr, lg0]
  obtain ⟨-, -, tk⟩ := tk
  have no : t.1 ≠ kw w → Q 0 h := fun z => by rw [bI_n z] at kk; exact kk
  refine ⟨fun z => absurd trivial z, fun _ => ⟨trivial, fun z => ⟨Or.inl trivial, no ?_⟩, fun z => ⟨trivial, trivial, fun y => ⟨Or.inl trivial, no ?_⟩, fun y => ⟨Or.inr trivial, ?_⟩⟩⟩⟩
  · intro q
    rcases tk with y | y | y | y | y
    · omega
    · omega
    · omega
    · exact z y.2.2.2.1
    · omega
  · intro q
    rcases tk with x | x | x | x | x
    · omega
    · omega
    · omega
    · obtain ⟨-, -, -, -, v, ev, hv, ih⟩ := x
      apply y
      rw [ev, (ih w hw).mpr q]
    · omega
  · rcases tk with x | x | x | x | x
    · rw [x.2] at z; exact absurd z (by decide)
    · rw [x.2.1] at z; exact absurd z (by decide)
    · rw [x.2.2.1] at z; exact absurd z (by decide)
    · obtain ⟨-, -, -, -, v, ev, hv, ih⟩ := x
      have h37 : 37 ^ 8 < 9223372036854775808 := by decide
      rw [ev, lJ_eq (by omega) wvb] at y
      rw [bI_c ((ih w hw).mp y)] at kk; exact kk
    · rw [x.2] at z; exact absurd z (by decide)
theorem mWord {w : Nat} {Q : Int32 → Hp → Prop} (st : St nx TS h0 h (t :: r) d C W) (hw : w < 9) (kk : Q (bI (t.1 = kw w)) h) : wp_X12_isWord (nJ w) h Q := mWordG st.tk st.2.2.1 st.2.1.2.2 hw kk
theorem numG (tkx : ∃ i, i < 601 ∧ gI h 12 0 7 = nJ i ∧ TkM h i t) : ∃ i, i < 601 ∧ gI h 12 0 7 = nJ i ∧ (gI h 104 0 i = 2 ↔ t.1 = 2) ∧ (gI h 104 0 i = 0 ↔ t.1 = 1) ∧ (t.1 = 2 → gL h 106 0 i = lJ t.2.2 ∧ t.2.2 < 10000) ∧ gI h 105 0 i = nJ t.2.1 := by
  obtain ⟨i, hi, e7, e5, -, tk⟩ := tkx
  refine ⟨i, hi, e7, ?_, ?_, fun z => ?_, e5⟩
  · rcases tk with y | y | y | y | y
    · rw [y.2, y.1]; decide
    · rw [y.2.1, y.1]; decide
    · rw [y.2.2.1]; refine ⟨fun z => absurd z (by decide), fun z => by omega⟩
    · rw [y.2.2.2.1]; refine ⟨fun z => absurd z (by decide), fun z => absurd z y.2.1⟩
    · rw [y.2, y.1]; decide
  · rcases tk with y | y | y | y | y
    · rw [y.2, y.1]; decide
    · rw [y.2.1, y.1]; decide
    · rw [y.2.2.1]; refine ⟨fun z => absurd z (by decide), fun z => by omega⟩
    · rw [y.2.2.2.1]; refine ⟨fun z => absurd z (by decide), fun z => absurd z y.1⟩
    · rw [y.2, y.1]; decide
  · rcases tk with y | y | y | y | y
    · omega
    · exact ⟨y.2.2.1, y.2.2.2⟩
    · omega
    · exact absurd z y.2.1
    · omega
theorem St.num (st : St nx TS h0 h (t :: r) d C W) : ∃ i, i < 601 ∧ gI h 12 0 7 = nJ i ∧ (gI h 104 0 i = 2 ↔ t.1 = 2) ∧ (gI h 104 0 i = 0 ↔ t.1 = 1) ∧ (t.1 = 2 → gL h 106 0 i = lJ t.2.2 ∧ t.2.2 < 10000) ∧ gI h 105 0 i = nJ t.2.1 := numG st.tk
theorem St.nxt (s : St nx TS h0 h (t :: r) d C W) (w : Wt r) : St nx TS h0 (wI h 12 0 7 (gI h 12 0 7 + 1)) r d C W := by
  obtain ⟨⟨i, e, hi, e7⟩, ⟨s2, s3, s4⟩, s5, s6, s7, s8, s9, s10, s11⟩ := s
  have hl : i + 1 < TS.length := by
    have := congrArg List.length e
    simp only [List.length_cons, List.length_drop] at this
    have : 0 < r.length := List.length_pos_iff.mpr w.ne
    omega
  have er : r = TS.drop (i + 1) := by
    have := congrArg (List.drop 1) e
    simp only [List.drop_succ_cons, List.drop_zero, List.drop_drop] at this
    rw [this]
  rw [e7, nJ_succ]
  refine ⟨⟨i + 1, er, hl, by simp [gI_wI]⟩, ⟨fun j u hj => (s2 j u hj).kp (gI_wIo (by omega)) (gI_wIo (by omega)) rfl, s3, s4⟩, by simp [gI_wI]; exact s5, by simp [gI_wI]; exact s6, ⟨by simp [gI_wI]; exact s7.1, s7.2⟩, by simp [gI_wI]; exact s8, fun j x hj => by simp [gI_wI]; exact s9 j x hj, fun q hq => by simp [gI_wI]; exact s10 q hq, s11.w (Or.inl ⟨rfl, Or.inl rfl⟩)⟩
theorem St.emit {o a : Nat} {Q : Hp → Prop} (s : St nx TS h0 h ts d C W) (hl : C.length < 660) (kk : ∀ h', St nx TS h0 h' ts d (C ++ [(o, a)]) W → Q h') : wp_X12_emit (nJ o) (nJ a) h Q := by
  obtain ⟨⟨i, e, hi, e7⟩, ⟨s2, s3, s4⟩, s5, s6, s7, s8, s9, s10, s11⟩ := s
  have hx := s7.2
  have ei : (660 : Int32) * nJ nx + nJ C.length = nJ (660 * nx + C.length) := by rw [show (660 : Int32) = nJ 660 from rfl, nJ_mul, nJ_add]
  have vi : vp_in (nJ (660 * nx + C.length)) 1320 := (vp_nJ (by omega)).mpr (by omega)
  have ti : tN (nJ (660 * nx + C.length)) = 660 * nx + C.length := tN_nJ (by omega)
  have := kk (wI (wI (wI h 113 0 (660 * nx + C.length) (nJ o)) 114 0 (660 * nx + C.length) (nJ a)) 12 0 17 (nJ (C.length + 1))) ?_
  · simp only [w_X12_emit_37, w_X12_emit_18, w_X12_emit_0, wp_X12_emit, s7.1, s8, ei, ti, gI_wI]
    simp [s7.1, s8, ei, ti, vi, nJ_succ]
    exact this
  · refine ⟨⟨i, e, hi, by simp [gI_wI]; exact e7⟩, ⟨fun j u hj => (s2 j u hj).kp (by rw [gI_wIo (by omega), gI_wIo (by omega), gI_wIo (by omega)]) (by rw [gI_wIo (by omega), gI_wIo (by omega), gI_wIo (by omega)]) rfl, s3, s4⟩, by simp [gI_wI]; exact s5, by simp [gI_wI]; exact s6, ⟨by simp [gI_wI]; exact s7.1, s7.2⟩, by simp [gI_wI], fun j x hj => ?_, fun q hq => by simp [gI_wI]; exact s10 q hq, ?_⟩
    · by_cases y : j < C.length
      · rw [List.getElem?_append_left y] at hj
        have n1 : 660 * nx + j ≠ 660 * nx + C.length := by omega
        have n2 : j ≠ C.length := by omega
        simp [gI_wI, n2]; exact s9 j x hj
      · have hi2 := (List.getElem?_eq_some_iff.mp hj).1
        simp at hi2
        have y2 : j = C.length := by omega
        subst y2
        simp at hj
        subst hj
        simp [gI_wI]
    · exact ((s11.w (Or.inr (Or.inr ⟨Or.inl rfl, by omega, by omega⟩))).w (Or.inr (Or.inr ⟨Or.inr rfl, by omega, by omega⟩))).w (Or.inl ⟨rfl, Or.inr (Or.inr (Or.inl rfl))⟩)
theorem St.wt {k v : Nat} {W' : WT} (s : St nx TS h0 h ts d C W) (hk : k = 119 ∨ k = 120 ∨ k = 121) (hW : ∀ e, e ≤ d → e ≠ d → W' e = W e) (h1 : (W' d).1 = if k = 119 then v else (W d).1) (h2 : (W' d).2.1 = if k = 120 then v else (W d).2.1) (h3 : (W' d).2.2 = if k = 121 then v else (W d).2.2) : St nx TS h0 (wI h k 0 d (nJ v)) ts d C W' := by
  obtain ⟨⟨i, e, hi, e7⟩, ⟨s2, s3, s4⟩, s5, s6, s7, s8, s9, s10, s11⟩ := s
  have n12 : ¬ 12 = k := by omega
  refine ⟨⟨i, e, hi, by rw [gI_wIo n12]; exact e7⟩, ⟨fun j u hj => (s2 j u hj).kp (gI_wIo (by omega)) (gI_wIo (by omega)) rfl, s3, s4⟩, by rw [gI_wIo n12]; exact s5, by rw [gI_wIo n12]; exact s6, ⟨by rw [gI_wIo n12]; exact s7.1, s7.2⟩, by rw [gI_wIo n12]; exact s8, fun j x hj => by rw [gI_wIo (by omega), gI_wIo (by omega)]; exact s9 j x hj, fun q hq => ?_, s11.w (Or.inr (Or.inl (by omega)))⟩
  obtain ⟨a1, a2, a3⟩ := s10 q hq
  by_cases y : q = d
  · subst y
    rw [h1, h2, h3]
    rcases hk with rfl | rfl | rfl
    · simp [gI_wI]; exact ⟨a2, a3⟩
    · simp [gI_wI]; exact ⟨a1, a3⟩
    · simp [gI_wI]; exact ⟨a1, a2⟩
  · rw [hW q hq y]
    refine ⟨?_, ?_, ?_⟩
    · rw [gI_wI, if_neg (fun z => y z.2.2)]; exact a1
    · rw [gI_wI, if_neg (fun z => y z.2.2)]; exact a2
    · rw [gI_wI, if_neg (fun z => y z.2.2)]; exact a3
def FailM (nx : Nat) (h0 h : Hp) (f : Nat) : Prop := gI h 12 0 8 = nJ f ∧ 0 < f ∧ f < 20000 ∧ (gI h 12 0 16 = nJ nx ∧ nx < 2) ∧ (∃ m, m < 660 ∧ gI h 12 0 17 = nJ m) ∧ Fz nx h0 h
theorem mWrong {a : Nat} {Q : Hp → Prop} (st : St nx TS h0 h (t :: r) d C W) (w : Wt (t :: r)) (ha : a ≤ 5) (ha0 : 0 < a) (hl : C.length < 660) (kk : ∀ h', FailM nx h0 h' (a + 16 * t.2.1) → gI h' 12 0 18 = nJ d → Q h') : wp_X12_wrong (nJ a) h Q := by
  obtain ⟨i, hi, e7, -, -, -, e5⟩ := st.num
  obtain ⟨-, -, s5, s6, s7, s8, -, -, s11⟩ := st
  have hp := w.hd.2.2
  have vi : vp_in (nJ i) 602 := (vp_nJ (by omega)).mpr (by omega)
  refine ⟨fun z => absurd s5 z, fun _ => ⟨by rw [e7]; exact vi, ?_⟩⟩
  show Q (wI h 12 0 8 (nJ a + 16 * gI h 105 0 (tN (gI h 12 0 7))))
  rw [e7, tN_nJ (by omega), e5, show (16 : Int32) = nJ 16 from rfl, nJ_mul, nJ_add]
  exact kk _ ⟨by simp [gI_wI], by omega, by omega, ⟨by simp [gI_wI]; exact s7.1, s7.2⟩, ⟨C.length, hl, by simp [gI_wI]; exact s8⟩, s11.w (Or.inl ⟨rfl, Or.inr (Or.inl rfl)⟩)⟩ (by simp [gI_wI]; exact s6)
/-! the simulation -/
variable {Q : Hp → Prop} {a1 : Int32}
def QB (Q : Hp → Prop) (a1 : Int32) (N : Nat) : Int32 → Hp → Prop := fun r2 h2 => w_X12_line_207 (w_X12_line_185 Q N) Q a1 1 r2 h2
def Sim (nx : Nat) (TS : List Tk) (h0 : Hp) (Q : Hp → Prop) (a1 : Int32) (d : Nat) (SC : Nat × Nat × Nat → Prop) (p : List Tk → Res) (End : Nat → Nat → Hp → Prop) : Prop :=
  ∀ (h : Hp) (ts : List Tk) (C : CodeT) (W : WT), St nx TS h0 h ts d C W → Wt ts → C.length + ts.length ≤ 620 → SC (W d) →
    (∀ c r, p ts = .inr (c, r) → ∀ h' N N', r.length + 1 ≤ N → d ≤ N' → St nx TS h0 h' r d (C ++ c) W → End N N' h') → (∀ f, p ts = .inl f → ∀ h', FailM nx h0 h' f → w_X12_line_219 Q a1 0 h') → ∀ N, ts.length + 1 ≤ N → w_X12_line_185 Q N a1 1 h
theorem failE {N : Nat} {f : Nat} (hN : 1 ≤ N) (fm : FailM nx h0 h f) (kk : w_X12_line_219 Q a1 0 h) : wp_X12_goesOnBehind h (QB Q a1 N) := by
  obtain ⟨M, rfl⟩ : ∃ M, N = M + 1 := ⟨N - 1, by omega⟩
  have e : ¬ gI h 12 0 8 = 0 := by
    rw [fm.1]; intro z
    have := (neq (y := 0) (by have := fm.2.2.1; omega) (by omega)).mp z
    have := fm.2.1; omega
  exact ⟨1, fun _ => ⟨fun _ => ⟨fun _ => kk, fun z => absurd rfl z⟩, fun z => absurd rfl z⟩, fun z => absurd z e⟩
theorem mPartWord {Q : Int32 → Hp → Prop} (st : St nx TS h0 h (t :: r) d C W) (w : Wt (t :: r)) (k1 : 13 ≤ t.1 → Q (nJ (t.1 - 13)) h) (k0 : t.1 < 13 → Q (-1) h) : wp_X12_partWord h Q := by
  have hu := w.hd.1
  suffices H : ∀ j i, i + j = 6 → (∀ q, q < i → t.1 ≠ 13 + q) → w_X12_partWord_2 Q (j + 1) (nJ i) h from ⟨7, H 6 0 (by omega) (fun q hq => by omega)⟩
  intro j
  induction j with
  | zero =>
    intro i e hp
    obtain rfl : i = 6 := by omega
    refine ⟨fun _ => k0 ?_, fun z => absurd (by decide) z⟩
    have h0 := hp 0 (by omega); have h1 := hp 1 (by omega); have h2 := hp 2 (by omega); have h3 := hp 3 (by omega); have h4 := hp 4 (by omega); have h5 := hp 5 (by omega)
    omega
  | succ j ih =>
    intro i e hp
    refine ⟨fun z => ?_, fun _ => ?_⟩
    · have := (nle (x := 6) (by omega) (by omega)).mp z; omega
    · show wp_X12_isWord (3 + nJ i) h _
      rw [show (3 : Int32) + nJ i = nJ (3 + i) by rw [show (3 : Int32) = nJ 3 from rfl, nJ_add]]
      have ek : kw (3 + i) = 13 + i := by unfold kw; rw [if_neg (by omega)]; omega
      refine mWord st (by omega) ⟨fun y => ?_, fun y => ?_⟩
      · rw [bI_0, ek] at y
        show w_X12_partWord_2 Q (j + 1) (nJ i + 1) h
        rw [nJ_succ]
        refine ih (i + 1) (by omega) fun q hq => ?_
        by_cases y2 : q = i
        · rw [y2]; exact y
        · exact hp q (by omega)
      · rw [bI_0, ek] at y
        have y := Decidable.not_not.mp y
        have := k1 (by omega)
        rw [show t.1 - 13 = i by omega] at this
        exact this
theorem simPart {A : Nat → List Tk → Res} (hd : d ≤ 5) (hA : d < 5 → Sim nx TS h0 Q a1 (d + 1) (fun w => w = (0, 0, 0)) (A (d + 1)) (fun N N' h => w_X12_goesOnBehind_249 (w_X12_goesOnBehind_0 (QB Q a1 N) N') (QB Q a1 N) h)) (gA : d < 5 → Gd (3 * (d + 1)) (A (d + 1))) :
    Sim nx TS h0 Q a1 d (fun _ => True) (pPart A d) (fun N N' h => w_X12_goesOnBehind_0 (QB Q a1 N) (N' + 1) h) := by
  intro h ts C W st w hl _ k1 k0 N hN
  match ts, st, w, hl, k1, k0, hN with
  | [], st, w, hl, k1, k0, hN => exact absurd rfl w.ne
  | t :: r, st, w, hl, k1, k0, hN =>
    obtain ⟨M, rfl⟩ : ∃ M, N = M + 1 := ⟨N - 1, by omega⟩
    simp only [List.length_cons] at hl hN
    rw [pPart] at k1 k0
    have hu := w.hd
    have e8 : gI h 12 0 8 = 0 := st.2.2.1
    have e18 : gI h 12 0 18 = nJ d := st.2.2.2.1
    obtain ⟨i, hi, e7, n2, -, nv, -⟩ := st.num
    have vi : vp_in (nJ i) 602 := (vp_nJ (by omega)).mpr (by omega)
    have ti : tN (nJ i) = i := tN_nJ (by omega)
    refine ⟨fun z => absurd z (by decide), fun _ => ⟨fun z => absurd e8 z, fun _ => ?_⟩⟩
    -- a word of a part, or none
    obtain ⟨wv', hw'⟩ : ∃ x : Int32, x = if 13 ≤ t.1 then nJ (t.1 - 13) else -1 := ⟨_, rfl⟩
    have ge : 0 ≤ wv' ↔ 13 ≤ t.1 := by
      rw [hw']
      by_cases y : 13 ≤ t.1
      · rw [if_pos y]; exact ⟨fun _ => y, fun _ => Int32.not_lt.mp (nJ_ge0 (by have := hu.1; omega))⟩
      · rw [if_neg y]; exact ⟨fun z => absurd z (by decide), fun z => absurd z y⟩
    suffices H : w_X12_part_4 (fun r2 h2 => w_X12_line_200 (w_X12_line_185 Q M) Q a1 1 r2 h2) wv' h by
      refine mPartWord st w (fun y => ?_) (fun y => ?_)
      · rw [hw', if_pos y] at H; exact H
      · rw [hw', if_neg (by omega)] at H; exact H
    have fail : ∀ a, 0 < a → a ≤ 5 → (∀ h', FailM nx h0 h' (a + 16 * t.2.1) → w_X12_line_219 Q a1 0 h') → wp_X12_wrong (nJ a) h (fun h2 => w_X12_part_59 (fun r2 h2 => w_X12_line_200 (w_X12_line_185 Q M) Q a1 1 r2 h2) wv' h2) := fun a ha0 ha k => by
      refine mWrong st w ha ha0 (by omega) fun h' fm _ => ⟨fun z => ?_, fun _ => ⟨fun z => absurd rfl z, fun _ => ?_⟩⟩
      · rw [fm.1] at z
        have := (nle (y := 0) (by have := fm.2.2.1; omega) (by omega)).mp z
        have := fm.2.1; omega
      · exact failE (by omega) fm (k h' fm)
    have bad : (t.1 ≠ 2 ∧ t.1 ≠ 6 ∧ t.1 < 13) → w_X12_part_38 (fun r2 h2 => w_X12_line_200 (w_X12_line_185 Q M) Q a1 1 r2 h2) wv' h := fun z => by
      rw [if_pos z] at k0
      exact fail 1 (by omega) (by omega) fun h' fm => k0 _ rfl h' fm
    have good : ¬ (t.1 ≠ 2 ∧ t.1 ≠ 6 ∧ t.1 < 13) → w_X12_part_46 (fun r2 h2 => w_X12_line_200 (w_X12_line_185 Q M) Q a1 1 r2 h2) wv' h := fun z => by
      rw [if_neg z] at k1 k0
      have q5 : nJ d = 5 ↔ d = 5 := neq (y := 5) (by omega) (by omega)
      unfold w_X12_part_46
      rw [e18]
      refine ⟨fun y => ?_, fun y => ?_⟩
      · have y : d < 5 := by have : ¬ d = 5 := fun q => y (q5.mpr q); omega
        rw [if_neg (by omega)] at k1 k0
        have wr : Wt r := w.tl (by omega)
        refine ⟨fun _ => ?_, fun q => absurd (by rw [e8]; decide) q⟩
        show wp_X12_isSign 40 h _
        refine mSign (s := 6) st (by omega) (by omega) ⟨fun y6 => ?_, fun y6 => ?_⟩
        · rw [bI_0] at y6
          rw [if_neg y6] at k1
          have at0 : gI h 12 0 7 + 0 = gI h 12 0 7 := Int32.add_zero _
          have hself : wI h 12 0 7 (gI h 12 0 7 + 0) = wI h 12 0 7 (gI h 12 0 7) := by rw [at0]
          have st' : St nx TS h0 (wI h 12 0 7 (gI h 12 0 7 + 0)) (t :: r) d C W := by
            obtain ⟨⟨i', e, hi', e7'⟩, ⟨s2, s3, s4⟩, s5, s6, s7, s8, s9, s10, s11⟩ := st
            rw [at0]
            exact ⟨⟨i', e, hi', by simp [gI_wI]; exact e7'⟩, ⟨fun j u hj => (s2 j u hj).kp (gI_wIo (by omega)) (gI_wIo (by omega)) rfl, s3, s4⟩, by simp [gI_wI]; exact s5, by simp [gI_wI]; exact s6, ⟨by simp [gI_wI]; exact s7.1, s7.2⟩, by simp [gI_wI]; exact s8, fun j x hj => by simp [gI_wI]; exact s9 j x hj, fun q hq => by simp [gI_wI]; exact s10 q hq, s11.w (Or.inl ⟨rfl, Or.inl rfl⟩)⟩
          rw [bI_n y6]
          refine ⟨Or.inl rfl, fun _ => ?_, fun q => absurd rfl q⟩
          have behind : ∀ h2, St nx TS h0 h2 (t :: r) d (C ++ [if t.1 = 2 then (1, t.2.2) else (2, t.1 - 13)]) W → w_X12_part_124 (fun r2 h2 => w_X12_line_200 (w_X12_line_185 Q M) Q a1 1 r2 h2) wv' h2 := fun h2 s2 => by
            refine ⟨fun q => absurd rfl q, fun _ => ⟨d + 1, ?_⟩⟩
            exact k1 _ r rfl _ M d (by omega) (Nat.le_refl _) (s2.nxt wr)
          refine ⟨fun y13 => ?_, fun y13 => ?_⟩
          · have y13 := ge.mp y13
            refine ⟨fun _ => ?_, fun q => absurd (ge.mpr y13) q⟩
            rw [if_neg (by omega)] at behind
            show wp_X12_emit 2 wv' _ _
            rw [hw', if_pos y13] at behind ⊢
            exact St.emit (o := 2) (a := t.1 - 13) st' (by omega) behind
          · have y13 : ¬ 13 ≤ t.1 := fun q => y13 (ge.mpr q)
            have y2 : t.1 = 2 := by omega
            refine ⟨fun q => absurd (ge.mp q) y13, fun _ => ⟨?_, ?_⟩⟩
            · rw [show gI (wI h 12 0 7 (gI h 12 0 7 + 0)) 12 0 7 = nJ i by rw [at0]; simp [gI_wI]; exact e7]; exact vi
            · rw [show gI (wI h 12 0 7 (gI h 12 0 7 + 0)) 12 0 7 = nJ i by rw [at0]; simp [gI_wI]; exact e7, ti]
              have := nv y2
              rw [show gL (wI h 12 0 7 (gI h 12 0 7 + 0)) 106 0 i = lJ t.2.2 from this.1, lJ_32 (by omega)]
              rw [if_pos y2] at behind
              exact St.emit (o := 1) (a := t.2.2) st' (by omega) behind
        · rw [bI_0] at y6
          have y6 := Decidable.not_not.mp y6
          rw [if_pos y6] at k1 k0
          rw [bI_c y6]
          refine ⟨Or.inr rfl, fun q => absurd q (by decide), fun _ => ?_⟩
          have s1 := st.nxt wr
          -- one level deeper
          have e181 : gI (wI h 12 0 7 (gI h 12 0 7 + 1)) 12 0 18 = nJ d := s1.2.2.2.1
          have t5 : tN (nJ (d + 1)) = d + 1 := tN_nJ (by omega)
          have v7 : vp_in (nJ (d + 1)) 7 := (vp_nJ (by omega)).mpr (by omega)
          have s2 : St nx TS h0 (wI (wI (wI (wI (wI h 12 0 7 (gI h 12 0 7 + 1)) 12 0 18 (nJ (d + 1))) 119 0 (d + 1) 0) 120 0 (d + 1) 0) 121 0 (d + 1) 0) r (d + 1) C (fun e => if e = d + 1 then (0, 0, 0) else W e) := by
            obtain ⟨⟨i', e, hi', e7'⟩, ⟨s2, s3, s4⟩, s5, s6, s7, s8, s9, s10, s11⟩ := s1
            refine ⟨⟨i', e, hi', by simp [gI_wI] at e7' ⊢; exact e7'⟩, ⟨fun j u hj => (s2 j u hj).kp (by rw [gI_wIo (by omega), gI_wIo (by omega), gI_wIo (by omega), gI_wIo (by omega)]) (by rw [gI_wIo (by omega), gI_wIo (by omega), gI_wIo (by omega), gI_wIo (by omega)]) rfl, s3, s4⟩, ?_, by simp [gI_wI], ⟨?_, s7.2⟩, ?_, fun j x hj => ?_, fun q hq => ?_, ?_⟩
            · rw [gI_wIo (by omega), gI_wIo (by omega), gI_wIo (by omega), gI_wI, if_neg (by omega)]; exact s5
            · rw [gI_wIo (by omega), gI_wIo (by omega), gI_wIo (by omega), gI_wI, if_neg (by omega)]; exact s7.1
            · rw [gI_wIo (by omega), gI_wIo (by omega), gI_wIo (by omega), gI_wI, if_neg (by omega)]; exact s8
            · rw [gI_wIo (by omega), gI_wIo (by omega), gI_wIo (by omega), gI_wIo (by omega), gI_wIo (by omega), gI_wIo (by omega), gI_wIo (by omega), gI_wIo (by omega)]; exact s9 j x hj
            · by_cases yq : q = d + 1
              · simp only [if_pos yq]
                rw [yq]
                have z0 : nJ 0 = 0 := rfl
                simp [gI_wI, z0]
              · simp only [if_neg yq]
                have := s10 q (by omega)
                simp [gI_wI, yq] at this ⊢
                exact this
            · exact ((((s11.w (Or.inl ⟨rfl, Or.inr (Or.inr (Or.inr rfl))⟩)).w (Or.inr (Or.inl (by omega)))).w (Or.inr (Or.inl (by omega)))).w (Or.inr (Or.inl (by omega))))
          have eM : w_X12_line_185 Q M a1 1 (wI (wI (wI (wI (wI h 12 0 7 (gI h 12 0 7 + 1)) 12 0 18 (nJ (d + 1))) 119 0 (d + 1) 0) 120 0 (d + 1) 0) 121 0 (d + 1) 0) := by
            refine hA y _ r C _ s2 wr (by omega) (by simp) (fun cc rr ep h3 N3 N' hN3 hN' s3 => ?_) (fun ff ep h3 fm => ?_) M (by omega)
            · obtain ⟨g1, g2, g3⟩ := gA y r cc rr wr ep
              match rr, ep, s3, g1, g2, hN3 with
              | [], ep, s3, g1, g2, hN3 => exact absurd rfl g1.ne
              | u :: r', ep, s3, g1, g2, hN3 =>
                simp only [ep] at k1 k0
                simp only [List.length_cons] at g2 hN3
                have e18' : gI h3 12 0 18 = nJ (d + 1) := s3.2.2.2.1
                have nd : ¬ gI h3 12 0 18 = 0 := by
                  rw [e18']; intro q
                  have := (neq (y := 0) (by omega) (by omega)).mp q; omega
                obtain ⟨M', rfl⟩ : ∃ M', N' = M' + 1 := ⟨N' - 1, by omega⟩
                refine ⟨fun _ => ?_, fun q => absurd q nd⟩
                show wp_X12_isSign 41 h3 _
                refine mSign (s := 7) s3 (by omega) (by omega) ⟨fun y7 => ?_, fun y7 => ?_⟩
                · rw [bI_0] at y7
                  rw [if_neg y7] at k0
                  refine mWrong (a := 1) s3 g1 (by omega) (by omega) (by simp; omega) fun h4 fm e18'' => ?_
                  show w_X12_goesOnBehind_0 (QB Q a1 N3) (M' + 1) (wI h4 12 0 18 (gI h4 12 0 18 - 1))
                  have fm' : FailM nx h0 (wI h4 12 0 18 (gI h4 12 0 18 - 1)) (1 + 16 * u.2.1) := by
                    obtain ⟨f1, f2, f3, f4, ⟨m, f5, f6⟩, f7⟩ := fm
                    exact ⟨by simp [gI_wI]; exact f1, f2, f3, ⟨by simp [gI_wI]; exact f4.1, f4.2⟩, ⟨m, f5, by simp [gI_wI]; exact f6⟩, f7.w (Or.inl ⟨rfl, Or.inr (Or.inr (Or.inr rfl))⟩)⟩
                  have k0' := k0 _ rfl _ fm'
                  have ne0 : ¬ gI (wI h4 12 0 18 (gI h4 12 0 18 - 1)) 12 0 8 = 0 := by
                    rw [fm'.1]; intro q
                    have := (neq (y := 0) (by have := fm'.2.2.1; omega) (by omega)).mp q
                    omega
                  obtain ⟨M3, rfl⟩ : ∃ M3, N3 = M3 + 1 := ⟨N3 - 1, by omega⟩
                  exact ⟨fun _ => ⟨fun _ => ⟨fun _ => k0', fun q => absurd rfl q⟩, fun q => absurd rfl q⟩, fun q => absurd q ne0⟩
                · rw [bI_0] at y7
                  have y7 := Decidable.not_not.mp y7
                  rw [if_pos y7] at k1
                  have wr' : Wt r' := g1.tl (by omega)
                  have s4 := s3.nxt wr'
                  show w_X12_goesOnBehind_0 (QB Q a1 N3) (M' + 1) (wI (wI h3 12 0 7 (gI h3 12 0 7 + 1)) 12 0 18 (gI (wI h3 12 0 7 (gI h3 12 0 7 + 1)) 12 0 18 - 1))
                  have e18'' : gI (wI h3 12 0 7 (gI h3 12 0 7 + 1)) 12 0 18 = nJ (d + 1) := s4.2.2.2.1
                  rw [e18'', nJ_pred]
                  refine k1 cc r' rfl _ N3 M' (by omega) (by omega) ?_
                  obtain ⟨⟨i', e, hi', e7'⟩, ⟨s2', s3', s4'⟩, s5, s6, s7, s8, s9, s10, s11⟩ := s4
                  refine ⟨⟨i', e, hi', by simp [gI_wI] at e7' ⊢; exact e7'⟩, ⟨fun j u hj => (s2' j u hj).kp (gI_wIo (by omega)) (gI_wIo (by omega)) rfl, s3', s4'⟩, by rw [gI_wI, if_neg (by omega)]; exact s5, by simp [gI_wI], ⟨by rw [gI_wI, if_neg (by omega)]; exact s7.1, s7.2⟩, by rw [gI_wI, if_neg (by omega)]; exact s8, fun j x hj => by rw [gI_wIo (by omega), gI_wIo (by omega)]; exact s9 j x hj, fun q hq => ?_, s11.w (Or.inl ⟨rfl, Or.inr (Or.inr (Or.inr rfl))⟩)⟩
                  have := s10 q (by omega)
                  have nq : ¬ q = d + 1 := by omega
                  simp only [if_neg nq] at this
                  rw [gI_wIo (by omega), gI_wIo (by omega), gI_wIo (by omega)]; exact this
            · simp only [ep] at k0
              exact k0 ff rfl h3 fm
          have e18a : gI (wI (wI h 12 0 7 (gI h 12 0 7 + 1)) 12 0 18 (nJ (d + 1))) 12 0 18 = nJ (d + 1) := by simp [gI_wI]
          simp only [w_X12_part_77, wp_X12_opens, w_X12_opens_0, w_X12_opens_19, w_X12_opens_29, w_X12_part_91, e181, nJ_succ, e18a, t5, v7, gI_wI, true_and]
          simp [t5, v7]
          exact ⟨fun _ => eM, fun q => absurd q (by decide)⟩
      · have y := q5.mp y
        rw [if_pos (by omega)] at k0
        exact fail 5 (by omega) (by omega) fun h' fm => k0 _ rfl h' fm
    refine ⟨fun z => absurd e8 z, fun _ => ?_⟩
    unfold w_X12_part_12
    rw [e7, ti, n2]
    refine ⟨vi, fun y => good (by omega), fun y => ?_⟩
    show wp_X12_isSign 40 h _
    refine mSign (s := 6) st (by omega) (by omega) ⟨fun y6 => good ?_, fun y6 => ⟨fun y13 => good ?_, fun y13 => bad ⟨y, ?_, ?_⟩⟩⟩
    · rw [bI_0] at y6; have := Decidable.not_not.mp y6; omega
    · have := ge.mp y13; omega
    · rw [bI_0] at y6; exact y6
    · have : ¬ 13 ≤ t.1 := fun q => y13 (ge.mpr q); omega
end
