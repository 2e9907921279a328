/-! lines and texts of the model -/
def cM (T : TextT) : CodeT := (T.map (fun y => y.2 ++ [(0, 0)])).flatten
theorem cM_snoc (T : TextT) (l : Int32 × CodeT) : cM (T ++ [l]) = cM T ++ (l.2 ++ [(0, 0)]) := by unfold cM; simp
theorem cM_len (T : TextT) : (cM T).length = (cat T).length + T.length := by
  induction T with
  | nil => rfl
  | cons y T ih =>
    unfold cM cat at ih ⊢
    simp only [List.map_cons, List.flatten_cons, List.length_append, List.length_cons, List.length_nil] at ih ⊢
    omega
def Fy (nx : Nat) (h h' : Hp) : Prop := gC h' = gC h ∧ gL h' = gL h ∧ gP h' = gP h ∧ ∀ k i s, ¬ (k = 12 ∧ (s = 7 ∨ s = 8 ∨ s = 17 ∨ s = 18)) → ¬ (119 ≤ k ∧ k ≤ 121) → ¬ ((k = 113 ∨ k = 114) ∧ 660 * nx ≤ s ∧ s < 660 * nx + 660) → ¬ (k = 110 ∧ s = nx) → ¬ ((k = 111 ∨ k = 112) ∧ 16 * nx ≤ s ∧ s < 16 * nx + 16) → gI h' k i s = gI h k i s
section
variable {nx : Nat} {TS : List Tk} {hB : Hp} {h h' : Hp} {C : CodeT} {W : WT} {t : Tk} {r ts : List Tk} {d : Nat} {T : TextT}
theorem Fy.refl (h : Hp) : Fy nx h h := ⟨rfl, rfl, rfl, fun _ _ _ _ _ _ _ _ => rfl⟩
theorem Fy.trans {a b d : Hp} (f : Fy nx a b) (k : Fy nx b d) : Fy nx a d := ⟨k.1.trans f.1, k.2.1.trans f.2.1, k.2.2.1.trans f.2.2.1, fun x i s h1 h2 h3 h4 h5 => (k.2.2.2 x i s h1 h2 h3 h4 h5).trans (f.2.2.2 x i s h1 h2 h3 h4 h5)⟩
theorem Fz.fy (f : Fz nx h h') : Fy nx h h' := ⟨f.1, f.2.1, f.2.2.1, fun k i s h1 h2 h3 _ _ => f.2.2.2 k i s h1 h2 h3⟩
theorem Fy.w {a b : Hp} (f : Fy nx a b) {k s : Nat} {v : Int32} (hk : (k = 12 ∧ (s = 7 ∨ s = 8 ∨ s = 17 ∨ s = 18)) ∨ (119 ≤ k ∧ k ≤ 121) ∨ ((k = 113 ∨ k = 114) ∧ 660 * nx ≤ s ∧ s < 660 * nx + 660) ∨ (k = 110 ∧ s = nx) ∨ ((k = 111 ∨ k = 112) ∧ 16 * nx ≤ s ∧ s < 16 * nx + 16)) : Fy nx a (wI b k 0 s v) := by
  refine ⟨f.1, f.2.1, f.2.2.1, fun x i t h1 h2 h3 h4 h5 => ?_⟩
  rw [gI_wI, if_neg]
  · exact f.2.2.2 x i t h1 h2 h3 h4 h5
  · rintro ⟨rfl, rfl, rfl⟩
    rcases hk with y | y | y | y | y
    · exact h1 y
    · exact h2 y
    · exact h3 y
    · exact h4 y
    · exact h5 y
def LnM (nx : Nat) (h : Hp) (C : CodeT) (l : Nat) (y : Int32 × CodeT) : Prop := gI h 111 0 (16 * nx + l) = y.1 ∧ okC y.2 0 ∧ ∃ a b, C = a ++ (y.2 ++ ((0, 0) :: b)) ∧ gI h 112 0 (16 * nx + l) = nJ (660 * nx + a.length)
def CdM (nx : Nat) (h : Hp) (C : CodeT) : Prop := ∀ j x, C[j]? = some x → gI h 113 0 (660 * nx + j) = nJ x.1 ∧ gI h 114 0 (660 * nx + j) = nJ x.2
def SLn (nx : Nat) (TS : List Tk) (hB h : Hp) (ts : List Tk) (T : TextT) : Prop := (∃ i, ts = TS.drop i ∧ i < TS.length ∧ gI h 12 0 7 = nJ i) ∧ (Am TS h ∧ TS.length ≤ 601 ∧ WrdR h) ∧ gI h 12 0 8 = 0 ∧ (gI h 12 0 16 = nJ nx ∧ nx < 2) ∧ gI h 12 0 17 = nJ (cM T).length ∧ CdM nx h (cM T) ∧ gI h 110 0 nx = nJ T.length ∧ T.length ≤ 16 ∧ (∀ l y, T[l]? = some y → LnM nx h (cM T) l y) ∧ Fy nx hB h
def FailT (nx : Nat) (hB h : Hp) (f : Nat) : Prop := gI h 12 0 8 = nJ f ∧ 0 < f ∧ f < 20000 ∧ Fy nx hB h
theorem SLn.tk (s : SLn nx TS hB h (t :: r) T) : ∃ i, i < 601 ∧ gI h 12 0 7 = nJ i ∧ TkM h i t := by
  obtain ⟨⟨i, e, hi, e7⟩, ⟨am, hl, -⟩, -⟩ := s
  have : TS[i]? = some t := by
    have := congrArg (fun l => l[0]?) e
    simp [List.getElem?_drop] at this
    exact this.symm
  exact ⟨i, by omega, e7, am i t this⟩
theorem mWrongG {a : Nat} {Q : Hp → Prop} (tkx : ∃ i, i < 601 ∧ gI h 12 0 7 = nJ i ∧ TkM h i t) (e8 : gI h 12 0 8 = 0) (kk : Q (wI h 12 0 8 (nJ (a + 16 * t.2.1)))) : wp_X12_wrong (nJ a) h Q := by
  obtain ⟨i, hi, e7, -, -, -, e5⟩ := numG tkx
  have vi : vp_in (nJ i) 602 := (vp_nJ (by omega)).mpr (by omega)
  refine ⟨fun z => absurd e8 z, fun _ => ⟨by rw [e7]; exact vi, ?_⟩⟩
  show Q (wI h 12 0 8 (nJ a + 16 * gI h 105 0 (tN (gI h 12 0 7))))
  rw [e7, tN_nJ (by omega), e5, show (16 : Int32) = nJ 16 from rfl, nJ_mul, nJ_add]
  exact kk
theorem fpos {f : Nat} (h0 : 0 < f) (h2 : f < 20000) : ¬ nJ f = 0 ∧ ¬ nJ f ≤ 0 := by
  refine ⟨fun z => ?_, fun z => ?_⟩
  · have := (neq (y := 0) (by omega) (by omega)).mp z; omega
  · have := (nle (y := 0) (by omega) (by omega)).mp z; omega
/-- a fault is noted: the line goes to its end, and nothing comes of it -/
theorem failEnd {Q : Hp → Prop} {a1 a2 : Int32} {f m : Nat} (e8 : gI h 12 0 8 = nJ f) (f0 : 0 < f) (f2 : f < 20000) (e16 : gI h 12 0 16 = nJ nx) (hx : nx < 2) (e17 : gI h 12 0 17 = nJ m) (hm : m < 660) (fy : Fy nx hB h) (kk : ∀ h', FailT nx hB h' f → Q h') : w_X12_line_219 Q a1 a2 h := by
  have ei : (660 : Int32) * nJ nx + nJ m = nJ (660 * nx + m) := by rw [show (660 : Int32) = nJ 660 from rfl, nJ_mul, nJ_add]
  have vi : vp_in (nJ (660 * nx + m)) 1320 := (vp_nJ (by omega)).mpr (by omega)
  have ti : tN (nJ (660 * nx + m)) = 660 * nx + m := tN_nJ (by omega)
  obtain ⟨n0, n1⟩ := fpos f0 f2
  have v2 : vp_in (nJ nx) 2 := (vp_nJ (by omega)).mpr hx
  have tx : tN (nJ nx) = nx := tN_nJ (by omega)
  obtain ⟨h3, hh3⟩ : ∃ h3, h3 = wI (wI (wI h 113 0 (660 * nx + m) 0) 114 0 (660 * nx + m) 0) 12 0 17 (nJ (m + 1)) := ⟨_, rfl⟩
  have fy3 : Fy nx hB h3 := by
    rw [hh3]
    exact ((fy.w (Or.inr (Or.inr (Or.inl ⟨Or.inl rfl, by omega, by omega⟩)))).w (Or.inr (Or.inr (Or.inl ⟨Or.inr rfl, by omega, by omega⟩)))).w (Or.inl ⟨rfl, Or.inr (Or.inr (Or.inl rfl))⟩)
  have e83 : gI h3 12 0 8 = nJ f := by rw [hh3]; simp [gI_wI]; exact e8
  have e163 : gI h3 12 0 16 = nJ nx := by rw [hh3]; simp [gI_wI]; exact e16
  have fin : Q (wI h3 110 0 nx (gI h3 110 0 nx + 1)) := kk _ ⟨by simp [gI_wI]; exact e83, f0, f2, fy3.w (Or.inr (Or.inr (Or.inr (Or.inl ⟨rfl, rfl⟩))))⟩
  have rest : w_X12_line_225 Q a1 a2 h3 := by
    have ns : ¬ gI h3 12 0 8 = 0 := by rw [e83]; exact n0
    refine ⟨fun _ => ⟨Or.inl rfl, fun _ => ?_, fun q => absurd rfl q⟩, fun q => absurd q ns⟩
    refine ⟨fun _ => ?_, fun q => absurd q ns⟩
    show w_X12_line_231 Q a1 a2 h3
    unfold w_X12_line_231
    rw [e163, tx]
    exact ⟨v2, v2, fin⟩
  show wp_X12_emit 0 0 h _
  simp only [w_X12_emit_37, w_X12_emit_18, w_X12_emit_0, wp_X12_emit, e16, e17, ei, ti, gI_wI]
  simp [e16, e17, ei, ti, vi, nJ_succ]
  rw [← hh3]
  exact rest
theorem SLn.nxt (s : SLn nx TS hB h (t :: r) T) (w : Wt r) : SLn nx TS hB (wI h 12 0 7 (gI h 12 0 7 + 1)) r T := by
  obtain ⟨⟨i, e, hi, e7⟩, ⟨s2, s3, s4⟩, s5, s6, s7, s8, s9, s10, s11, s12⟩ := s
  have hl : i + 1 < TS.length := by
    have := congrArg List.length e
    simp only [List.length_cons, List.length_drop] at this
    have : 0 < r.length := List.length_pos_iff.mpr w.ne
    omega
  have er : r = TS.drop (i + 1) := by
    have := congrArg (List.drop 1) e
    simp only [List.drop_succ_cons, List.drop_zero, List.drop_drop] at this
    rw [this]
  rw [e7, nJ_succ]
  refine ⟨⟨i + 1, er, hl, by simp [gI_wI]⟩, ⟨fun j u hj => (s2 j u hj).kp (gI_wIo (by omega)) (gI_wIo (by omega)) rfl, s3, s4⟩, by simp [gI_wI]; exact s5, ⟨by simp [gI_wI]; exact s6.1, s6.2⟩, by simp [gI_wI]; exact s7, fun j x hj => by simp [gI_wI]; exact s8 j x hj, by simp [gI_wI]; exact s9, s10, fun l y hy => ?_, s12.w (Or.inl ⟨rfl, Or.inl rfl⟩)⟩
  have := s11 l y hy
  unfold LnM at this ⊢
  simp only [gI_wI, Nat.reduceEqDiff, false_and, if_false]
  exact this
theorem mLine {Q : Hp → Prop} (s : SLn nx TS hB h ts T) (w : Wt ts) (hl : (cat T).length + ts.length ≤ 601) (k1 : ∀ h' l r, pLine T.length ts = .inr (l, r) → SLn nx TS hB h' r (T ++ [l]) → Wt r → (cat (T ++ [l])).length + r.length ≤ 601 → Q h') (k0 : ∀ h' f, pLine T.length ts = .inl f → FailT nx hB h' f → Q h') : wp_X12_line h Q := by
  have cl := cM_len T
  match ts, s, w, hl, k1, k0 with
  | [], s, w, hl, k1, k0 => exact absurd rfl w.ne
  | t :: r, s, w, hl, k1, k0 =>
    simp only [List.length_cons] at hl
    rw [pLine] at k1 k0
    have hp := w.hd.2.2
    have e8 : gI h 12 0 8 = 0 := s.2.2.1
    have e16 : gI h 12 0 16 = nJ nx := s.2.2.2.1.1
    have hx : nx < 2 := s.2.2.2.1.2
    have e17 : gI h 12 0 17 = nJ (cM T).length := s.2.2.2.2.1
    have e110 : gI h 110 0 nx = nJ T.length := s.2.2.2.2.2.2.1
    have h16 : T.length ≤ 16 := s.2.2.2.2.2.2.2.1
    have fy : Fy nx hB h := s.2.2.2.2.2.2.2.2.2
    have tx : tN (nJ nx) = nx := tN_nJ (by omega)
    have v2 : vp_in (nJ nx) 2 := (vp_nJ (by omega)).mpr hx
    have stop : ∀ a, 0 < a → a ≤ 5 → (∀ h', FailT nx hB h' (a + 16 * t.2.1) → Q h') → w_X12_line_35 Q (wI h 12 0 8 (nJ (a + 16 * t.2.1))) := fun a ha0 ha k => by
      have e : gI (wI h 12 0 8 (nJ (a + 16 * t.2.1))) 12 0 8 = nJ (a + 16 * t.2.1) := by simp [gI_wI]
      obtain ⟨n0, n1⟩ := fpos (f := a + 16 * t.2.1) (by omega) (by omega)
      unfold w_X12_line_35
      rw [e]
      exact ⟨fun q => absurd q n1, fun _ => k _ ⟨e, by omega, by omega, fy.w (Or.inl ⟨rfl, Or.inr (Or.inl rfl)⟩)⟩⟩
    refine mWordG (w := 0) s.tk e8 s.2.1.2.2 (by omega) ⟨fun z => ?_, fun z => ?_⟩
    · rw [bI_0] at z
      have k3 : kw 0 = 3 := by decide
      rw [k3] at z
      have z := Decidable.not_not.mp z
      rw [if_neg (by omega)] at k1 k0
      unfold w_X12_line_16
      rw [e16, tx, e110]
      have q16 : nJ T.length = 16 ↔ T.length = 16 := neq (y := 16) (by omega) (by omega)
      refine ⟨v2, fun y => ?_, fun y => ?_⟩
      · have y : ¬ T.length = 16 := fun q => y (q16.mpr q)
        rw [if_neg (by omega)] at k1 k0
        have wr : Wt r := w.tl (by omega)
        have s1 := s.nxt wr
        refine ⟨fun _ => ?_, fun q => absurd (by rw [e8]; decide) q⟩
        unfold w_X12_line_43
        obtain ⟨h1, hh1⟩ : ∃ h1, h1 = wI h 12 0 7 (gI h 12 0 7 + 1) := ⟨_, rfl⟩
        rw [← hh1] at s1 ⊢
        have e161 : gI h1 12 0 16 = nJ nx := s1.2.2.2.1.1
        have e1101 : gI h1 110 0 nx = nJ T.length := s1.2.2.2.2.2.2.1
        have e81 : gI h1 12 0 8 = 0 := s1.2.2.1
        rw [e161]
        match r, wr, s1, hl, k1, k0 with
        | [], wr, s1, hl, k1, k0 => exact absurd rfl wr.ne
        | u :: r2, wr, s1, hl, k1, k0 =>
          simp only [List.length_cons] at hl
          rw [pL2] at k1 k0
          obtain ⟨i, hi, e7, n2, -, nv, e5⟩ := numG s1.tk
          have hpu := wr.hd.2.2
          have vi : vp_in (nJ i) 602 := (vp_nJ (by omega)).mpr (by omega)
          have ti : tN (nJ i) = i := tN_nJ (by omega)
          have eix : (16 : Int32) * nJ nx + nJ T.length = nJ (16 * nx + T.length) := by rw [show (16 : Int32) = nJ 16 from rfl, nJ_mul, nJ_add]
          have vx : vp_in (nJ (16 * nx + T.length)) 32 := (vp_nJ (by omega)).mpr (by omega)
          have tix : tN (nJ (16 * nx + T.length)) = 16 * nx + T.length := tN_nJ (by omega)
          -- a fault ahead of the words of the line
          have bad : ∀ (f : Nat), 0 < f → f < 20000 → (∀ h', FailT nx hB h' f → Q h') → ∀ h2, gI h2 12 0 8 = nJ f → Fy nx hB h2 → gI h2 12 0 16 = nJ nx → gI h2 12 0 17 = nJ (cM T).length → w_X12_line_155 Q (nJ (16 * nx + T.length)) h2 := fun f f0 f2 kf h2 x8 xf x16 x17 => by
            obtain ⟨n0, n1⟩ := fpos f0 f2
            have v70 : vp_in (0 : Int32) 7 := (vp_nJ (n := 0) (by omega)).mpr (by omega)
            have t70 : tN (0 : Int32) = 0 := tN_nJ (n := 0) (by omega)
            refine ⟨vx, ?_⟩
            rw [tix]
            obtain ⟨h3, hh3⟩ : ∃ h3, h3 = wI (wI (wI (wI (wI h2 112 0 (16 * nx + T.length) ((660 : Int32) * gI h2 12 0 16 + gI h2 12 0 17)) 12 0 18 0) 119 0 0 0) 120 0 0 0) 121 0 0 0 := ⟨_, rfl⟩
            have fin : w_X12_line_183 Q (nJ (16 * nx + T.length)) h3 := by
              have y8 : gI h3 12 0 8 = nJ f := by rw [hh3]; simp [gI_wI]; exact x8
              refine ⟨1, fun q => absurd q (by decide), fun _ => ⟨fun _ => ?_, fun q => absurd q (by rw [y8]; exact n0)⟩⟩
              refine failEnd (nx := nx) (m := (cM T).length) y8 f0 f2 (by rw [hh3]; simp [gI_wI]; exact x16) hx (by rw [hh3]; simp [gI_wI]; exact x17) (by omega) ?_ kf
              rw [hh3]
              exact ((((xf.w (Or.inr (Or.inr (Or.inr (Or.inr ⟨Or.inr rfl, by omega, by omega⟩))))).w (Or.inl ⟨rfl, Or.inr (Or.inr (Or.inr rfl))⟩)).w (Or.inr (Or.inl (by omega)))).w (Or.inr (Or.inl (by omega)))).w (Or.inr (Or.inl (by omega)))
            simp only [w_X12_opens_29, w_X12_opens_19, w_X12_opens_0, wp_X12_opens, gI_wI]
            simp [v70, t70]
            rw [hh3] at fin
            exact fin
          have badW : ∀ (f : Nat), 0 < f → f < 20000 → (∀ h', FailT nx hB h' f → Q h') → ∀ h2 v, gI h2 12 0 8 = nJ f → Fy nx hB h2 → gI h2 12 0 16 = nJ nx → gI h2 12 0 17 = nJ (cM T).length → w_X12_line_139 Q (nJ (16 * nx + T.length)) (nJ (16 * nx + T.length)) v h2 := fun f f0 f2 kf h2 v x8 xf x16 x17 => by
            obtain ⟨n0, n1⟩ := fpos f0 f2
            refine ⟨vx, ?_⟩
            rw [tix]
            obtain ⟨h3, hh3⟩ : ∃ h3, h3 = wI (wI h2 111 0 (16 * nx + T.length) v) 12 0 7 (gI (wI h2 111 0 (16 * nx + T.length) v) 12 0 7 + 1) := ⟨_, rfl⟩
            rw [← hh3]
            have y8 : gI h3 12 0 8 = nJ f := by rw [hh3]; simp [gI_wI]; exact x8
            have ns : ¬ gI h3 12 0 8 = 0 := by rw [y8]; exact n0
            have f3 : Fy nx hB h3 := by
              rw [hh3]
              exact (xf.w (Or.inr (Or.inr (Or.inr (Or.inr ⟨Or.inl rfl, by omega, by omega⟩))))).w (Or.inl ⟨rfl, Or.inl rfl⟩)
            refine ⟨fun _ => ⟨Or.inl rfl, fun _ => ⟨Or.inl rfl, ?_⟩, fun q => absurd rfl q⟩, fun q => absurd q ns⟩
            refine ⟨fun q => absurd rfl q, fun _ => ⟨fun _ => ?_, fun q => absurd q ?_⟩⟩
            · refine bad f f0 f2 kf _ (by simp [gI_wI]; exact y8) (f3.w (Or.inl ⟨rfl, Or.inl rfl⟩)) (by rw [hh3]; simp [gI_wI]; exact x16) (by rw [hh3]; simp [gI_wI]; exact x17)
            · simp [gI_wI]; rw [y8]; exact n0
          have bad113 : ∀ a, 0 < a → a ≤ 5 → (∀ h', FailT nx hB h' (a + 16 * u.2.1) → Q h') → w_X12_line_113 Q (nJ (16 * nx + T.length)) (wI h1 12 0 8 (nJ (a + 16 * u.2.1))) := fun a ha0 ha kf => by
            have e : gI (wI h1 12 0 8 (nJ (a + 16 * u.2.1))) 12 0 8 = nJ (a + 16 * u.2.1) := by simp [gI_wI]
            obtain ⟨n0, n1⟩ := fpos (f := a + 16 * u.2.1) (by omega) (by omega)
            unfold w_X12_line_113
            rw [e]
            refine ⟨fun q => absurd q n1, fun _ => ?_⟩
            exact badW (a + 16 * u.2.1) (by omega) (by omega) kf _ _ e (s1.2.2.2.2.2.2.2.2.2.w (Or.inl ⟨rfl, Or.inr (Or.inl rfl)⟩)) (by simp [gI_wI]; exact e161) (by simp [gI_wI]; exact s1.2.2.2.2.1)
          unfold w_X12_line_68
          rw [tx, e1101, eix, e7, ti, n2]
          refine ⟨v2, vi, fun yu => ?_, fun yu => ?_⟩
          · rw [if_neg (by omega)] at k1 k0
            obtain ⟨nv1, nv2⟩ := nv yu
            unfold w_X12_line_92
            rw [e7, ti, nv1, show (999 : Int64) = lJ 999 from rfl, lg1 (by omega) (by omega)]
            refine ⟨vi, fun y9 => ?_, fun y9 => ?_⟩
            · rw [if_neg (by omega)] at k1 k0
              refine ⟨fun _ => ⟨by rw [e7]; exact vi, ?_⟩, fun q => absurd (by rw [e81]; decide) q⟩
              rw [e7, ti, nv1, lJ_32 (by omega)]
              refine ⟨vx, ?_⟩
              rw [tix]
              have wr2 : Wt r2 := wr.tl (by omega)
              -- the fee is laid
              have s2 : SLn nx TS hB (wI (wI h1 111 0 (16 * nx + T.length) (nJ u.2.2)) 12 0 7 (gI (wI h1 111 0 (16 * nx + T.length) (nJ u.2.2)) 12 0 7 + 1)) r2 T := by
                refine SLn.nxt (t := u) ?_ wr2
                obtain ⟨⟨i', e, hi', e7'⟩, ⟨s2, s3, s4⟩, s5, s6, s7, s8, s9, s10, s11, s12⟩ := s1
                refine ⟨⟨i', e, hi', by rw [gI_wIo (by omega)]; exact e7'⟩, ⟨fun j u hj => (s2 j u hj).kp (gI_wIo (by omega)) (gI_wIo (by omega)) rfl, s3, s4⟩, by rw [gI_wIo (by omega)]; exact s5, ⟨by rw [gI_wIo (by omega)]; exact s6.1, s6.2⟩, by rw [gI_wIo (by omega)]; exact s7, fun j x hj => by rw [gI_wIo (by omega), gI_wIo (by omega)]; exact s8 j x hj, by rw [gI_wIo (by omega)]; exact s9, s10, fun l y hy => ?_, s12.w (Or.inr (Or.inr (Or.inr (Or.inr ⟨Or.inl rfl, by omega, by omega⟩))))⟩
                have hll := (List.getElem?_eq_some_iff.mp hy).1
                have := s11 l y hy
                unfold LnM at this ⊢
                rw [gI_wI, if_neg (by omega), gI_wIo (by omega)]
                exact this
              have fee2 : gI (wI (wI h1 111 0 (16 * nx + T.length) (nJ u.2.2)) 12 0 7 (gI (wI h1 111 0 (16 * nx + T.length) (nJ u.2.2)) 12 0 7 + 1)) 111 0 (16 * nx + T.length) = nJ u.2.2 := by simp [gI_wI]
              obtain ⟨h2, hh2⟩ : ∃ h2, h2 = wI (wI h1 111 0 (16 * nx + T.length) (nJ u.2.2)) 12 0 7 (gI (wI h1 111 0 (16 * nx + T.length) (nJ u.2.2)) 12 0 7 + 1) := ⟨_, rfl⟩
              rw [← hh2] at s2 fee2 ⊢
              match r2, wr2, s2, hl, k1, k0 with
              | [], wr2, s2, hl, k1, k0 => exact absurd rfl wr2.ne
              | v :: r3, wr2, s2, hl, k1, k0 =>
                simp only [List.length_cons] at hl
                rw [pL3] at k1 k0
                have hpv := wr2.hd.2.2
                have e82 : gI h2 12 0 8 = 0 := s2.2.2.1
                have e162 : gI h2 12 0 16 = nJ nx := s2.2.2.2.1.1
                have e172 : gI h2 12 0 17 = nJ (cM T).length := s2.2.2.2.2.1
                have k4 : kw 1 = 4 := by decide
                refine mWordG (w := 1) s2.tk e82 s2.2.1.2.2 (by omega) ?_
                rw [k4]
                have at0 : gI h2 12 0 7 + 0 = gI h2 12 0 7 := Int32.add_zero _
                by_cases yv : v.1 = 4
                · rw [bI_c yv]
                  rw [if_neg (by omega)] at k1 k0
                  have wr3 : Wt r3 := wr2.tl (by omega)
                  have s3 := s2.nxt wr3
                  refine ⟨fun q => absurd q (by decide), fun _ => ⟨Or.inr rfl, fun _ => ?_, fun q => absurd q (by decide)⟩⟩
                  obtain ⟨h3, hh3⟩ : ∃ h3, h3 = wI h2 12 0 7 (gI h2 12 0 7 + 1) := ⟨_, rfl⟩
                  have fee3 : gI h3 111 0 (16 * nx + T.length) = nJ u.2.2 := by rw [hh3]; simp [gI_wI]; exact fee2
                  show w_X12_line_155 Q (nJ (16 * nx + T.length)) (wI h2 12 0 7 (gI h2 12 0 7 + 1))
                  rw [← hh3] at s3 ⊢
                  have e163 : gI h3 12 0 16 = nJ nx := s3.2.2.2.1.1
                  have e173 : gI h3 12 0 17 = nJ (cM T).length := s3.2.2.2.2.1
                  have v70 : vp_in (0 : Int32) 7 := (vp_nJ (n := 0) (by omega)).mpr (by omega)
                  have t70 : tN (0 : Int32) = 0 := tN_nJ (n := 0) (by omega)
                  have epl : (660 : Int32) * nJ nx + nJ (cM T).length = nJ (660 * nx + (cM T).length) := by rw [show (660 : Int32) = nJ 660 from rfl, nJ_mul, nJ_add]
                  obtain ⟨h4, hh4⟩ : ∃ h4, h4 = wI (wI (wI (wI (wI h3 112 0 (16 * nx + T.length) (nJ (660 * nx + (cM T).length))) 12 0 18 0) 119 0 0 0) 120 0 0 0) 121 0 0 0 := ⟨_, rfl⟩
                  have I4 : ∀ k i s, ¬ (k = 112 ∧ s = 16 * nx + T.length) → ¬ (k = 12 ∧ s = 18) → ¬ (119 ≤ k ∧ k ≤ 121) → gI h4 k i s = gI h3 k i s := fun k i s y1 y2 y3 => by
                    rw [hh4, gI_wI, if_neg (by omega), gI_wI, if_neg (by omega), gI_wI, if_neg (by omega), gI_wI, if_neg (by omega), gI_wI, if_neg (by omega)]
                  have fy4 : Fy nx hB h4 := by
                    rw [hh4]
                    exact ((((s3.2.2.2.2.2.2.2.2.2.w (Or.inr (Or.inr (Or.inr (Or.inr ⟨Or.inr rfl, by omega, by omega⟩))))).w (Or.inl ⟨rfl, Or.inr (Or.inr (Or.inr rfl))⟩)).w (Or.inr (Or.inl (by omega)))).w (Or.inr (Or.inl (by omega)))).w (Or.inr (Or.inl (by omega)))
                  have st4 : St nx TS h4 h4 r3 0 (cM T) (fun _ => (0, 0, 0)) := by
                    obtain ⟨⟨i', e, hi', e7'⟩, ⟨s2, s3', s4⟩, s5, s6, s7, s8, s9, s10, s11, s12⟩ := s3
                    refine ⟨⟨i', e, hi', by rw [I4 12 0 7 (by omega) (by omega) (by omega)]; exact e7'⟩, ⟨fun j u hj => (s2 j u hj).kp (by funext a b; exact I4 104 a b (by omega) (by omega) (by omega)) (by funext a b; exact I4 105 a b (by omega) (by omega) (by omega)) (by rw [hh4]; rfl), s3', by rw [hh4]; exact s4⟩, by rw [I4 12 0 8 (by omega) (by omega) (by omega)]; exact s5, by rw [hh4]; simp [gI_wI]; rfl, ⟨by rw [I4 12 0 16 (by omega) (by omega) (by omega)]; exact s6.1, s6.2⟩, by rw [I4 12 0 17 (by omega) (by omega) (by omega)]; exact s7, fun j x hj => by rw [I4 113 0 _ (by omega) (by omega) (by omega), I4 114 0 _ (by omega) (by omega) (by omega)]; exact s8 j x hj, fun q hq => ?_, Fz.refl h4⟩
                    obtain rfl : q = 0 := by omega
                    have z0 : nJ 0 = 0 := rfl
                    rw [hh4]; simp [gI_wI, z0]
                  have main : ∃ N, w_X12_line_185 Q N (nJ (16 * nx + T.length)) 1 h4 := by
                    refine ⟨r3.length + 1, simAll (nx := nx) (TS := TS) (h0 := h4) (Q := Q) (a1 := nJ (16 * nx + T.length)) s3.2.1.2.1 7 0 (by omega) (by omega) (by omega) h4 r3 (cM T) (fun _ => (0, 0, 0)) st4 wr3 (by omega) rfl (fun cc rr ep h5 N5 N' hN5 hN' s5 => ?_) (fun ff ep h5 fm => ?_) (r3.length + 1) (Nat.le_refl _)⟩
                    · obtain ⟨g1, g2, g3⟩ := gd_all 7 0 r3 cc rr wr3 ep
                      have okc : okC cc 0 := hg_ok cc 0 (g3 0 (by omega))
                      have e185 : gI h5 12 0 18 = 0 := s5.2.2.2.1
                      obtain ⟨M5, rfl⟩ : ∃ M5, N5 = M5 + 1 := ⟨N5 - 1, by omega⟩
                      refine ⟨fun q => absurd e185 q, fun _ => ⟨fun _ => ⟨fun _ => ?_, fun q => absurd rfl q⟩, fun q => absurd rfl q⟩⟩
                      show wp_X12_emit (nJ 0) (nJ 0) h5 _
                      refine St.emit s5 (by simp; omega) fun h6 s6 => ?_
                      match rr, ep, s6, g1, g2, hN5 with
                      | [], ep, s6, g1, g2, hN5 => exact absurd rfl g1.ne
                      | sk :: r4, ep, s6, g1, g2, hN5 =>
                        simp only [List.length_cons] at g2 hN5
                        simp only [ep] at k1 k0
                        rw [pL4] at k1 k0
                        have fyz : Fy nx hB h6 := fy4.trans s6.2.2.2.2.2.2.2.2.fy
                        have I6 : ∀ k i s, k ≠ 12 → ¬ (119 ≤ k ∧ k ≤ 121) → k ≠ 113 → k ≠ 114 → gI h6 k i s = gI h4 k i s := fun k i s y1 y2 y3 y4 => s6.2.2.2.2.2.2.2.2.2.2.2 k i s (by omega) y2 (by omega)
                        show wp_X12_isSign 59 h6 _
                        refine mSign (s := 12) s6 (by omega) (by omega) ⟨fun ys => ?_, fun ys => ?_⟩
                        · rw [bI_0] at ys
                          rw [if_pos ys] at k0
                          refine mWrongG (a := 1) s6.tk s6.2.2.1 ?_
                          have hps := g1.hd.2.2
                          show w_X12_line_231 Q (nJ (16 * nx + T.length)) 0 (wI h6 12 0 8 (nJ (1 + 16 * sk.2.1)))
                          unfold w_X12_line_231
                          rw [show gI (wI h6 12 0 8 (nJ (1 + 16 * sk.2.1))) 12 0 16 = nJ nx by simp [gI_wI]; exact s6.2.2.2.2.1.1, tx]
                          refine ⟨v2, v2, k0 _ _ rfl ⟨by simp [gI_wI], by omega, by omega, (fyz.w (Or.inl ⟨rfl, Or.inr (Or.inl rfl)⟩)).w (Or.inr (Or.inr (Or.inr (Or.inl ⟨rfl, rfl⟩))))⟩⟩
                        · rw [bI_0] at ys
                          have ys := Decidable.not_not.mp ys
                          rw [if_neg (by omega)] at k1
                          have wr4 : Wt r4 := g1.tl (by omega)
                          have s7 := s6.nxt wr4
                          obtain ⟨h7, hh7⟩ : ∃ h7, h7 = wI h6 12 0 7 (gI h6 12 0 7 + 1) := ⟨_, rfl⟩
                          have I7 : ∀ k i s, k ≠ 12 → gI h7 k i s = gI h6 k i s := fun k i s y1 => by rw [hh7, gI_wIo y1]
                          show w_X12_line_231 Q (nJ (16 * nx + T.length)) 0 (wI h6 12 0 7 (gI h6 12 0 7 + 1))
                          rw [← hh7] at s7 ⊢
                          have fy7 : Fy nx hB h7 := by rw [hh7]; exact fyz.w (Or.inl ⟨rfl, Or.inl rfl⟩)
                          have e167 : gI h7 12 0 16 = nJ nx := s7.2.2.2.2.1.1
                          have e1107 : gI h7 110 0 nx = nJ T.length := by
                            rw [I7 110 0 nx (by omega), I6 110 0 nx (by omega) (by omega) (by omega) (by omega), I4 110 0 nx (by omega) (by omega) (by omega)]
                            exact s3.2.2.2.2.2.2.1
                          unfold w_X12_line_231
                          rw [e167, tx, e1107, nJ_succ]
                          refine ⟨v2, v2, k1 _ (nJ u.2.2, cc) r4 rfl ?_ wr4 ?_⟩
                          · have ec : cM (T ++ [(nJ u.2.2, cc)]) = cM T ++ cc ++ [(0, 0)] := by rw [cM_snoc]; simp [List.append_assoc]
                            obtain ⟨⟨i', e, hi', e7'⟩, ⟨q2, q3, q4⟩, q5, q6, q7, q8, q9, q10, q11⟩ := s7
                            refine ⟨⟨i', e, hi', by rw [gI_wIo (by omega)]; exact e7'⟩, ⟨fun j u hj => (q2 j u hj).kp (gI_wIo (by omega)) (gI_wIo (by omega)) rfl, q3, q4⟩, by rw [gI_wIo (by omega)]; exact q5, ⟨by rw [gI_wIo (by omega)]; exact q7.1, q7.2⟩, ?_, ?_, by simp [gI_wI], by simp; omega, fun l y hy => ?_, fy7.w (Or.inr (Or.inr (Or.inr (Or.inl ⟨rfl, rfl⟩))))⟩
                            · rw [gI_wIo (by omega), ec]; exact q8
                            · rw [ec]
                              intro j x hj
                              rw [gI_wIo (by omega), gI_wIo (by omega)]; exact q9 j x hj
                            · rw [ec]
                              have go : ∀ k x, k = 111 ∨ k = 112 → ¬ (k = 112 ∧ x = 16 * nx + T.length) → gI (wI h7 110 0 nx (nJ (T.length + 1))) k 0 x = gI h3 k 0 x := fun k x hk hk2 => by
                                rw [gI_wIo (by omega), I7 k 0 x (by omega), I6 k 0 x (by omega) (by omega) (by omega) (by omega), I4 k 0 x hk2 (by omega) (by omega)]
                              by_cases yl : l < T.length
                              · rw [List.getElem?_append_left yl] at hy
                                obtain ⟨a1', a2', aa, bb, a3', a4'⟩ := s3.2.2.2.2.2.2.2.2.1 l y hy
                                refine ⟨by rw [go 111 _ (Or.inl rfl) (by omega)]; exact a1', a2', aa, bb ++ (cc ++ [(0, 0)]), ?_, by rw [go 112 _ (Or.inr rfl) (by omega)]; exact a4'⟩
                                rw [a3']; simp [List.append_assoc]
                              · have hi2 := (List.getElem?_eq_some_iff.mp hy).1
                                simp at hi2
                                have y2 : l = T.length := by omega
                                subst y2
                                simp at hy
                                subst hy
                                refine ⟨by rw [go 111 _ (Or.inl rfl) (by omega)]; exact fee3, okc, cM T, [], by simp [List.append_assoc], ?_⟩
                                rw [gI_wIo (by omega), I7 112 0 _ (by omega), I6 112 0 _ (by omega) (by omega) (by omega) (by omega), hh4]
                                simp [gI_wI]
                          · rw [cat_snoc]; simp; omega
                    · simp only [ep] at k0
                      obtain ⟨f1, f2, f3, f4, ⟨m, f5, f6⟩, f7⟩ := fm
                      exact failEnd (nx := nx) (m := m) f1 f2 f3 f4.1 hx f6 f5 (fy4.trans f7.fy) fun h' ft => k0 h' ff rfl ft
                  refine ⟨vx, ?_⟩
                  rw [tix, e163, e173, epl]
                  simp only [w_X12_opens_29, w_X12_opens_19, w_X12_opens_0, wp_X12_opens, gI_wI]
                  simp [v70, t70]
                  rw [hh4] at main
                  exact main
                · rw [bI_n yv]
                  rw [if_pos yv] at k0
                  refine ⟨fun _ => ⟨Or.inl rfl, fun q => absurd rfl q, fun _ => ?_⟩, fun q => absurd rfl q⟩
                  have tk' : ∃ i, i < 601 ∧ gI (wI h2 12 0 7 (gI h2 12 0 7 + 0)) 12 0 7 = nJ i ∧ TkM (wI h2 12 0 7 (gI h2 12 0 7 + 0)) i v := by
                    obtain ⟨i, x1, x2, x3⟩ := s2.tk
                    exact ⟨i, x1, by rw [at0]; simp [gI_wI]; exact x2, x3.kp (gI_wIo (by omega)) (gI_wIo (by omega)) rfl⟩
                  refine mWrongG (a := 1) tk' (by simp [gI_wI]; exact e82) ?_
                  refine bad (1 + 16 * v.2.1) (by omega) (by omega) (fun h' ft => k0 h' _ rfl ft) _ (by simp [gI_wI]) ?_ (by simp [gI_wI]; exact e162) (by simp [gI_wI]; exact e172)
                  exact (s2.2.2.2.2.2.2.2.2.2.w (Or.inl ⟨rfl, Or.inl rfl⟩)).w (Or.inl ⟨rfl, Or.inr (Or.inl rfl)⟩)
            · rw [if_pos (by omega)] at k0
              refine mWrongG (a := 4) s1.tk e81 ?_
              exact bad113 4 (by omega) (by omega) fun h' ft => k0 h' _ rfl ft
          · rw [if_pos yu] at k0
            refine mWrongG (a := 1) s1.tk e81 ?_
            exact bad113 1 (by omega) (by omega) fun h' ft => k0 h' _ rfl ft
      · have y := q16.mp y
        rw [if_pos (by omega)] at k0
        refine mWrongG (a := 5) s.tk e8 ?_
        exact stop 5 (by omega) (by omega) fun h' ft => k0 h' _ rfl ft
    · rw [bI_0] at z
      have k3 : kw 0 = 3 := by decide
      rw [k3] at z
      rw [if_pos z] at k0
      refine mWrongG (a := 1) s.tk e8 ?_
      exact stop 1 (by omega) (by omega) fun h' ft => k0 h' _ rfl ft
theorem mTextL {Q : Int32 → Hp → Prop} : ∀ (n : Nat) (h : Hp) (T : TextT) (ts : List Tk), T.length + n = 17 → SLn nx TS hB h ts T → Wt ts → (cat T).length + ts.length ≤ 601 → (∀ h' T' ts', pText n T ts = .inr T' → SLn nx TS hB h' ts' T' → (cat T').length ≤ 600 → Q 0 (wI h' 12 0 15 (nJ nx))) → (∀ h' f, pText n T ts = .inl f → FailT nx hB h' f → Q (nJ f) h') → w_X12_text_34 Q (n + 1) h := by
  intro n
  induction n with
  | zero =>
    intro h T ts hT s w hl k1 k0
    exfalso
    have := s.2.2.2.2.2.2.2.1; omega
  | succ n ih =>
    intro h T ts hT s w hl k1 k0
    match ts, s, w, hl, k1, k0 with
    | [], s, w, hl, k1, k0 => exact absurd rfl w.ne
    | t :: r, s, w, hl, k1, k0 =>
      rw [pText] at k1 k0
      have e8 : gI h 12 0 8 = 0 := s.2.2.1
      obtain ⟨i, hi, e7, -, n0, -, -⟩ := numG s.tk
      have vi : vp_in (nJ i) 602 := (vp_nJ (by omega)).mpr (by omega)
      have ti : tN (nJ i) = i := tN_nJ (by omega)
      refine ⟨fun z => absurd e8 z, fun _ => ?_⟩
      unfold w_X12_text_41
      rw [e7, ti, n0]
      refine ⟨vi, fun z => ?_, fun z => ?_⟩
      · rw [if_pos z] at k1
        refine ⟨fun q => absurd e8 q, fun _ => ?_⟩
        have e16 : gI h 12 0 16 = nJ nx := s.2.2.2.1.1
        have := k1 h T (t :: r) rfl s (by simp only [List.length_cons] at hl; omega)
        show Q (gI (wI h 12 0 15 (gI h 12 0 16)) 12 0 8) (wI h 12 0 15 (gI h 12 0 16))
        rw [e16, show gI (wI h 12 0 15 (nJ nx)) 12 0 8 = 0 by simp [gI_wI]; exact e8]
        exact this
      · rw [if_neg z] at k1 k0
        refine mLine s w hl (fun h1 l r1 ep s1 w1 hl1 => ?_) (fun h1 ff ep ft => ?_)
        · simp only [ep] at k1 k0
          exact ih h1 (T ++ [l]) r1 (by simp; omega) s1 w1 hl1 k1 k0
        · simp only [ep] at k0
          obtain ⟨n0', n1'⟩ := fpos ft.2.1 ft.2.2.1
          have ne : ¬ gI h1 12 0 8 = 0 := by rw [ft.1]; exact n0'
          have k0' := k0 h1 ff rfl ft
          refine ⟨fun _ => ⟨fun _ => ?_, fun q => absurd q ne⟩, fun q => absurd q ne⟩
          show Q (gI h1 12 0 8) h1
          rw [ft.1]; exact k0'
end
