/-! the program's own reader against the reading -/
section
variable {TS : List Tk} {g : Nat} {h h' : Hp} {C c : CodeT} {t : Tk} {r ts : List Tk}
theorem AtX.kp {i : Nat} (a : AtX TS h i) (f : ∀ k, k = 9 ∨ k = 33 ∨ k = 34 ∨ k = 35 → gI h' k = gI h k) : AtX TS h' i := by
  unfold AtX Ax at a ⊢
  rw [f 9 (by omega), f 33 (by omega), f 34 (by omega), f 35 (by omega)]; exact a
theorem AtL.kp (a : AtL TS h ts) (f : ∀ k, k = 9 ∨ k = 33 ∨ k = 34 ∨ k = 35 → gI h' k = gI h k) : AtL TS h' ts := a.elim fun i z => ⟨i, z.1.kp f, z.2⟩
theorem AtL.cur (a : AtL TS h (t :: r)) : gI h 9 0 5 = nJ t.1 ∧ gI h 9 0 6 = nJ t.2.1 ∧ gI h 9 0 7 = nJ t.2.2 := by
  obtain ⟨i, ⟨-, -, u, hu, e1, e2, e3, -⟩, e⟩ := a
  have : TS[i]? = some t := by
    have := congrArg (fun l => l[0]?) e
    simp [List.getElem?_drop] at this
    exact this.symm
  rw [hu] at this
  cases this
  exact ⟨e1, e2, e3⟩
theorem xStepL {Q : Hp → Prop} (a : AtL TS h (t :: r)) (w : Wt r) (kk : ∀ h', AtL TS h' r → Fp g h h' → (∀ k, k ≠ 9 → gI h' k = gI h k) → Q h') : wp_X9_step h Q := by
  obtain ⟨i, ai, e⟩ := a
  have hl : i + 1 < TS.length := by
    have := congrArg List.length e
    simp only [List.length_cons, List.length_drop] at this
    have : 0 < r.length := List.length_pos_iff.mpr w.ne
    omega
  have er : r = TS.drop (i + 1) := by
    have := congrArg (List.drop 1) e
    simp only [List.drop_succ_cons, List.drop_zero, List.drop_drop] at this
    rw [this]
  exact xStep ai hl fun h' a' f' c' => kk h' ⟨i + 1, a', er⟩ (Fp.f9 f' c') (fun k hk => (f' k (by simp [f9, hk])).2.1)
def Wk (g : Nat) (h : Hp) : Prop := ∃ m, m ≤ 600 ∧ gI h 1 g 3 = nJ m
theorem CodX.wk (x : CodX g h C) (hl : C.length ≤ 600) : Wk g h := ⟨C.length, hl, x.1⟩
theorem xPutC {x : Nat × Nat} {v : Int32} {Q : Hp → Prop} (cx : CodX g h C) (hl : C.length < 600) (hv : v = xc x) (kk : ∀ h', CodX g h' (C ++ [x]) → Fp g h h' → (∀ k, k ≠ 1 → k ≠ 28 → gI h' k = gI h k) → Q h') : wp_X1_put g v h Q := by
  obtain ⟨c1, c2⟩ := cx
  have l6 : ¬ (600 : Int32) ≤ nJ C.length := fun z => by
    have := (nle (x := 600) (by omega) (by omega)).mp z; omega
  have vv : vp_in (nJ C.length) 600 := (vp_nJ (by omega)).mpr hl
  have tt : tN (nJ C.length) = C.length := tN_nJ (by omega)
  have := kk (wI (wI h 28 g C.length v) 1 g 3 (nJ (C.length + 1))) ⟨by simp [gI_wI], ?_⟩ ⟨rfl, rfl, rfl, fun k i s h1 h2 h3 h4 => by rw [gI_wI, if_neg h3, gI_wI, if_neg (fun z => h4 ⟨z.1, z.2.1⟩)]⟩ (fun k h1 h2 => by rw [gI_wIo h1, gI_wIo h2])
  · simp only [w_X1_put_30, w_X1_put_10, w_X1_put_0, wp_X1_put, c1, l6, tt, gI_wI]
    simp [c1, vv, nJ_succ]
    exact this
  · rw [CodAt_app]
    refine ⟨CodAt_up (fun i h1 h2 => ?_) c2, ?_, trivial⟩
    · have : i ≠ C.length := by omega
      simp [gI_wI, this]
    · rw [Nat.zero_add, hv]; simp [gI_wI]
theorem xPutW {v : Int32} {Q : Hp → Prop} (wk : Wk g h) (kk : ∀ h', Wk g h' → Fp g h h' → (∀ k, k ≠ 1 → k ≠ 28 → gI h' k = gI h k) → Q h') : wp_X1_put g v h Q := by
  obtain ⟨m, hm, e⟩ := wk
  have l6 : (600 : Int32) ≤ nJ m ↔ 600 ≤ m := nle (x := 600) (by omega) (by omega)
  have tt : tN (nJ m) = m := tN_nJ (by omega)
  by_cases y : m = 600
  · have := kk h ⟨m, hm, e⟩ (Fp.refl h) (fun _ _ _ => rfl)
    refine ⟨fun _ => this, fun z => absurd ?_ z⟩
    rw [e, l6]; omega
  · have vv : vp_in (nJ m) 600 := (vp_nJ (by omega)).mpr (by omega)
    have := kk (wI (wI h 28 g m v) 1 g 3 (nJ (m + 1))) ⟨m + 1, by omega, by simp [gI_wI]⟩ ⟨rfl, rfl, rfl, fun k i s h1 h2 h3 h4 => by rw [gI_wI, if_neg h3, gI_wI, if_neg (fun z => h4 ⟨z.1, z.2.1⟩)]⟩ (fun k h1 h2 => by rw [gI_wIo h1, gI_wIo h2])
    have l7 : ¬ (600 : Int32) ≤ nJ m := fun z => by have := l6.mp z; omega
    simp only [w_X1_put_30, w_X1_put_10, w_X1_put_0, wp_X1_put, e, l7, tt, gI_wI]
    simp [e, vv, nJ_succ]
    exact this
theorem xFail {a : Nat} {Q : Int32 → Hp → Prop} (at' : AtL TS h (t :: r)) (kk : ∀ h', gI h' 4 0 2 = nJ (a + 16 * t.2.1) → Fp g h h' → gI h' 1 = gI h 1 → Q 0 h') : wp_X4_fail (nJ a) h Q := by
  have e := at'.cur.2.1
  show Q 0 (wI h 4 0 2 (nJ a + 16 * gI h 9 0 6))
  rw [e, show (16 : Int32) = nJ 16 from rfl, nJ_mul, nJ_add]
  exact kk _ (by simp [gI_wI]) ⟨rfl, rfl, rfl, fun k i s h1 h2 h3 h4 => by rw [gI_wI, if_neg (fun z => h2 ⟨z.1, z.2.2⟩)]⟩ (gI_wIo (by omega))
def SpX (TS : List Tk) (g : Nat) (p : List Tk → Res) (wx : Hp → (Int32 → Hp → Prop) → Prop) : Prop := ∀ (h : Hp) (C : CodeT) (ts : List Tk) (Q : Int32 → Hp → Prop), AtL TS h ts → Wt ts → CodX g h C → C.length + ts.length ≤ 598 → gP h 4 0 1 = some (1, g) → (∀ h' c r, p ts = .inr (c, r) → AtL TS h' r → CodX g h' (C ++ c) → Fp g h h' → Q 1 h') → (∀ h' f, p ts = .inl f → gI h' 4 0 2 = nJ f → Wk g h' → Fp g h h' → Q 0 h') → wx h Q
theorem xPart {A : Nat → List Tk → Res} {R0 : Int32 → Hp → (Int32 → Hp → Prop) → Prop} {d : Nat} (hd : d ≤ 5) (hA : d < 5 → SpX TS g (A (d + 1)) (R0 (nJ (d + 1)))) (gA : d < 5 → Gd (3 * (d + 1)) (A (d + 1))) : SpX TS g (pPart A d) (wp_X4_readPart R0 (nJ d)) := by
  intro h C ts Q a w cx hl e4 k1 k0
  match ts, a, w, hl, k1, k0 with
  | [], a, w, hl, k1, k0 => exact absurd rfl w.ne
  | t :: r, a, w, hl, k1, k0 =>
    obtain ⟨e5, e6, e7⟩ := a.cur
    have hu := w.hd
    simp only [List.length_cons] at hl
    rw [pPart] at k1 k0
    have q2 : nJ t.1 = 2 ↔ t.1 = 2 := neq (y := 2) (by have := hu.1; omega) (by omega)
    have q6 : nJ t.1 = 6 ↔ t.1 = 6 := neq (y := 6) (by have := hu.1; omega) (by omega)
    have q13 : (13 : Int32) ≤ nJ t.1 ↔ 13 ≤ t.1 := nle (x := 13) (by omega) (by have := hu.1; omega)
    have q5 : nJ d < 5 ↔ d < 5 := nlt (y := 5) (by omega) (by omega)
    have bad : (t.1 ≠ 2 ∧ t.1 ≠ 6 ∧ t.1 < 13) → w_X4_readPart_25 R0 Q (nJ d) (nJ t.1) h := fun z => by
      rw [if_pos z] at k0
      exact xFail (a := 1) a fun h' x1 x2 x3 => ⟨Or.inl rfl, k0 h' _ rfl x1 ((cx.wk (by omega)).elim fun m y => ⟨m, y.1, by rw [x3]; exact y.2⟩) x2⟩
    have good : ¬ (t.1 ≠ 2 ∧ t.1 ≠ 6 ∧ t.1 < 13) → w_X4_readPart_31 R0 Q (nJ d) (nJ t.1) h := fun z => by
      rw [if_neg z] at k1 k0
      refine ⟨fun y => ?_, fun y => ?_⟩
      · have y := q5.mp y
        rw [if_neg (by omega)] at k1 k0
        have wr : Wt r := w.tl (by omega)
        unfold w_X4_readPart_42
        rw [e7]
        refine xStepL (g := g) a wr fun h1 a1 f1 o1 => ?_
        have cx1 : CodX g h1 C := ⟨by rw [o1 1 (by omega)]; exact cx.1, CodAt.fr (o1 28 (by omega)) cx.2⟩
        have e41 : gP h1 4 0 1 = some (1, g) := by rw [f1.2.2.1]; exact e4
        refine ⟨fun y6 => ?_, fun y6 => ?_⟩
        · have y6 := q6.mp y6
          rw [if_pos y6] at k1 k0
          unfold w_X4_readPart_83
          rw [nJ_succ]
          refine hA y h1 C r _ a1 wr cx1 (by omega) e41 (fun h2 cc rr ep a2 c2 f2 => ?_) (fun h2 ff ep x1 x2 f2 => ?_)
          · refine ⟨fun _ => ?_, fun q => absurd q (by decide)⟩
            obtain ⟨g1, g2, g3⟩ := gA y r cc rr wr ep
            match rr, ep, a2, g1, g2 with
            | [], ep, a2, g1, g2 => exact absurd rfl g1.ne
            | u :: r', ep, a2, g1, g2 =>
              simp only [ep] at k1 k0
              have q7 : nJ u.1 = 7 ↔ u.1 = 7 := neq (y := 7) (by have := g1.hd.1; omega) (by omega)
              unfold w_X4_readPart_95
              rw [a2.cur.1]
              refine ⟨fun y7 => ?_, fun y7 => ?_⟩
              · have y7 := q7.mp y7
                rw [if_pos y7] at k1
                refine xStepL (g := g) a2 (g1.tl (by omega)) fun h3 a3 f3 o3 => ?_
                exact k1 h3 cc r' rfl a3 ⟨by rw [o3 1 (by omega)]; exact c2.1, CodAt.fr (o3 28 (by omega)) c2.2⟩ ((f1.trans f2).trans f3)
              · rw [if_neg (fun q => y7 (q7.mpr q))] at k0
                simp only [List.length_cons] at g2
                exact xFail (a := 1) a2 fun h' x1 x2 x3 => ⟨Or.inl rfl, k0 h' _ rfl x1 ((c2.wk (by simp; omega)).elim fun m y => ⟨m, y.1, by rw [x3]; exact y.2⟩) ((f1.trans f2).trans x2)⟩
          · simp only [ep] at k0
            exact ⟨fun q => absurd rfl q, fun _ => k0 h2 ff rfl x1 x2 (f1.trans f2)⟩
        · have y6 : ¬ t.1 = 6 := fun q => y6 (q6.mpr q)
          rw [if_neg y6] at k1
          refine ⟨fun y2 => ?_, fun y2 => ?_⟩
          · have y2 : ¬ t.1 = 2 := fun q => y2 (q2.mpr q)
            rw [if_neg y2] at k1
            refine ⟨g, e41, ?_⟩
            refine xPutC (x := (2, t.1 - 13)) cx1 (by omega) ?_ fun h2 c2 f2 o2 => ?_
            · show -(nJ t.1) = -(nJ (13 + (t.1 - 13)))
              congr 2; omega
            · exact k1 h2 _ r rfl (a1.kp fun k hk => o2 k (by omega) (by omega)) c2 (f1.trans f2)
          · have y2 := q2.mp y2
            rw [if_pos y2] at k1
            refine ⟨g, e41, ?_⟩
            refine xPutC (x := (1, t.2.2)) cx1 (by omega) rfl fun h2 c2 f2 o2 => ?_
            exact k1 h2 _ r rfl (a1.kp fun k hk => o2 k (by omega) (by omega)) c2 (f1.trans f2)
      · have y : ¬ d < 5 := fun q => y (q5.mpr q)
        rw [if_pos (by omega)] at k0
        exact xFail (a := 5) a fun h' x1 x2 x3 => ⟨Or.inl rfl, k0 h' _ rfl x1 ((cx.wk (by omega)).elim fun m y => ⟨m, y.1, by rw [x3]; exact y.2⟩) x2⟩
    unfold wp_X4_readPart w_X4_readPart_0
    rw [e5]
    refine ⟨fun y => good (by have := q2.mp y; omega), fun y => ⟨fun y6 => good (by have := q6.mp y6; omega), fun y6 => ⟨fun y13 => good (by have := q13.mp y13; omega), fun y13 => bad ⟨fun q => y (q2.mpr q), fun q => y6 (q6.mpr q), ?_⟩⟩⟩⟩
    have : ¬ 13 ≤ t.1 := fun q => y13 (q13.mpr q)
    omega
theorem xSumL {P : List Tk → Res} {R0 : Int32 → Hp → (Int32 → Hp → Prop) → Prop} {a1 : Int32} {b : Nat} (hP : SpX TS g P (wp_X4_readPart R0 a1)) (gP' : Gd b P) {h0 : Hp} {Q : Int32 → Hp → Prop} :
    ∀ (n : Nat) (h : Hp) (c : CodeT) (ts : List Tk), n ≤ 600 → AtL TS h ts → Wt ts → CodX g h (C ++ c) → (C ++ c).length + ts.length ≤ 598 → gP h 4 0 1 = some (1, g) → Fp g h0 h → (∀ h' cc r, pSumL P n c ts = .inr (cc, r) → AtL TS h' r → CodX g h' (C ++ cc) → Fp g h0 h' → Q 1 h') → (∀ h' f, pSumL P n c ts = .inl f → gI h' 4 0 2 = nJ f → Wk g h' → Fp g h0 h' → Q 0 h') → w_X4_readSum_17 R0 Q (n + 1) a1 1 (gI h 9 0 5) (nJ (600 - n)) h := by
  intro n
  induction n with
  | zero =>
    intro h c ts hn a w cx hl e4 f k1 k0
    rw [pSumL] at k1
    exact ⟨fun _ => ⟨Or.inr rfl, k1 h c ts rfl a cx f⟩, fun z => absurd (Int32.le_refl _) z⟩
  | succ n ih =>
    intro h c ts hn a w cx hl e4 f k1 k0
    match ts, a, w, hl, k1, k0 with
    | [], a, w, hl, k1, k0 => exact absurd rfl w.ne
    | t :: r, a, w, hl, k1, k0 =>
      obtain ⟨e5, e6, e7⟩ := a.cur
      have hu := w.hd
      simp only [List.length_cons] at hl
      rw [pSumL] at k1 k0
      have q10 : nJ t.1 = 10 ↔ t.1 = 10 := neq (y := 10) (by have := hu.1; omega) (by omega)
      have q11 : nJ t.1 = 11 ↔ t.1 = 11 := neq (y := 11) (by have := hu.1; omega) (by omega)
      have e60 : nJ (600 - (n + 1)) + 1 = nJ (600 - n) := by rw [nJ_succ]; congr 1; omega
      rw [e5]
      have go : (t.1 = 10 ∨ t.1 = 11) → w_X4_readSum_41 R0 (w_X4_readSum_17 R0 Q (n + 1)) Q a1 1 (nJ t.1) (nJ (600 - (n + 1))) h := fun z => by
        rw [if_pos z] at k1 k0
        have wr : Wt r := w.tl (by omega)
        refine xStepL (g := g) a wr fun h1 a1' f1 o1 => ?_
        have cx1 : CodX g h1 (C ++ c) := ⟨by rw [o1 1 (by omega)]; exact cx.1, CodAt.fr (o1 28 (by omega)) cx.2⟩
        have e41 : gP h1 4 0 1 = some (1, g) := by rw [f1.2.2.1]; exact e4
        refine hP h1 (C ++ c) r _ a1' wr cx1 (by omega) e41 (fun h2 cc rr ep a2 c2 f2 => ?_) (fun h2 ff ep x1 x2 f2 => ?_)
        · obtain ⟨g1, g2, g3⟩ := gP' r cc rr wr ep
          simp only [ep] at k1 k0
          refine ⟨g, by rw [f2.2.2.1]; exact e41, ?_⟩
          refine xPutC (x := (if t.1 = 10 then 3 else 4, 0)) c2 (by simp at hl ⊢; omega) ?_ fun h3 c3 f3 o3 => ?_
          · rcases z with z | z
            · rw [z]; rfl
            · rw [z]; rfl
          · show w_X4_readSum_17 R0 Q (n + 1) a1 1 (gI h3 9 0 5) (nJ (600 - (n + 1)) + 1) h3
            rw [e60]
            refine ih h3 (c ++ cc ++ [(if t.1 = 10 then 3 else 4, 0)]) rr (by omega) (a2.kp fun k hk => o3 k (by omega) (by omega)) g1 ?_ ?_ (by rw [f3.2.2.1, f2.2.2.1]; exact e41) (((f.trans f1).trans f2).trans f3) k1 k0
            · simp only [List.append_assoc] at c3 ⊢; exact c3
            · simp at hl ⊢; omega
        · simp only [ep] at k0
          refine ⟨g, by rw [f2.2.2.1]; exact e41, ?_⟩
          refine xPutW x2 fun h3 w3 f3 o3 => ?_
          have k0' := k0 h3 ff rfl (by rw [o3 4 (by omega) (by omega)]; exact x1) w3 (((f.trans f1).trans f2).trans f3)
          exact ⟨fun _ => ⟨Or.inl rfl, k0'⟩, fun _ => ⟨fun _ => ⟨Or.inl rfl, k0'⟩, fun q => absurd rfl q⟩⟩
      have no : ¬ (t.1 = 10 ∨ t.1 = 11) → w_X4_readSum_77 R0 Q a1 1 (nJ t.1) (nJ (600 - (n + 1))) h := fun z => by
        rw [if_neg z] at k1
        exact ⟨Or.inr rfl, k1 h c (t :: r) rfl a cx f⟩
      refine ⟨fun z => ?_, fun _ => ⟨fun z => absurd z (by decide), fun _ => ⟨fun z => go (Or.inl (q10.mp z)), fun z => ⟨fun z2 => no (fun y => y.elim (fun q => z (q10.mpr q)) (fun q => z2 (q11.mpr q))), fun z2 => go (Or.inr (q11.mp z2))⟩⟩⟩⟩
      have := (nle (x := 600) (by omega) (by omega)).mp z; omega
theorem xSum {P : List Tk → Res} {R0 : Int32 → Hp → (Int32 → Hp → Prop) → Prop} {a1 : Int32} {b : Nat} (hP : SpX TS g P (wp_X4_readPart R0 a1)) (gP' : Gd b P) : SpX TS g (pSum P) (wp_X4_readSum R0 a1) := by
  intro h C ts Q a w cx hl e4 k1 k0
  refine hP h C ts _ a w cx hl e4 (fun h1 c r ep a1' c1 f1 => ?_) (fun h1 ff ep x1 x2 f1 => ?_)
  · obtain ⟨g1, g2, g3⟩ := gP' ts c r w ep
    unfold pSum at k1 k0
    simp only [ep] at k1 k0
    refine ⟨601, xSumL (C := C) hP gP' 600 h1 c r (Nat.le_refl _) a1' g1 c1 (by simp; omega) (by rw [f1.2.2.1]; exact e4) f1 k1 k0⟩
  · unfold pSum at k0
    simp only [ep] at k0
    have k0' := k0 h1 ff rfl x1 x2 f1
    exact ⟨1, fun _ => ⟨Or.inl rfl, k0'⟩, fun _ => ⟨fun _ => ⟨Or.inl rfl, k0'⟩, fun q => absurd rfl q⟩⟩
theorem xTest {P : List Tk → Res} {R0 : Int32 → Hp → (Int32 → Hp → Prop) → Prop} {a1 : Int32} {b : Nat} (hP : SpX TS g P (wp_X4_readSum R0 a1)) (gP' : Gd b P) : SpX TS g (pTest P) (wp_X4_readTest R0 a1) := by
  intro h C ts Q a w cx hl e4 k1 k0
  refine hP h C ts _ a w cx hl e4 (fun h1 c r ep a1' c1 f1 => ?_) (fun h1 ff ep x1 x2 f1 => ?_)
  · obtain ⟨g1, g2, g3⟩ := gP' ts c r w ep
    unfold pTest at k1 k0
    match r, ep, a1', g1, g2 with
    | [], ep, a1', g1, g2 => exact absurd rfl g1.ne
    | t :: r, ep, a1', g1, g2 =>
      simp only [ep] at k1 k0
      obtain ⟨e5, e6, e7⟩ := a1'.cur
      have hu := g1.hd
      simp only [List.length_cons] at g2
      have q8 : nJ t.1 = 8 ↔ t.1 = 8 := neq (y := 8) (by have := hu.1; omega) (by omega)
      have q9 : nJ t.1 = 9 ↔ t.1 = 9 := neq (y := 9) (by have := hu.1; omega) (by omega)
      have e41 : gP h1 4 0 1 = some (1, g) := by rw [f1.2.2.1]; exact e4
      unfold w_X4_readTest_5
      rw [e5]
      have go : (t.1 = 8 ∨ t.1 = 9) → w_X4_readTest_30 R0 Q a1 1 (nJ t.1) h1 := fun z => by
        rw [if_pos z] at k1 k0
        have wr : Wt r := g1.tl (by omega)
        refine xStepL (g := g) a1' wr fun h2 a2 f2 o2 => ?_
        have cx2 : CodX g h2 (C ++ c) := ⟨by rw [o2 1 (by omega)]; exact c1.1, CodAt.fr (o2 28 (by omega)) c1.2⟩
        have e42 : gP h2 4 0 1 = some (1, g) := by rw [f2.2.2.1]; exact e41
        refine hP h2 (C ++ c) r _ a2 wr cx2 (by simp; omega) e42 (fun h3 cc rr ep2 a3 c3 f3 => ?_) (fun h3 ff ep2 x1 x2 f3 => ?_)
        · obtain ⟨k1', k2', k3'⟩ := gP' r cc rr wr ep2
          simp only [ep2] at k1
          refine ⟨g, by rw [f3.2.2.1]; exact e42, ?_⟩
          refine xPutC (x := (if t.1 = 8 then 5 else 6, 0)) c3 (by simp; omega) ?_ fun h4 c4 f4 o4 => ?_
          · rcases z with z | z
            · rw [z]; rfl
            · rw [z]; rfl
          · refine ⟨Or.inr rfl, k1 h4 _ rr rfl (a3.kp fun k hk => o4 k (by omega) (by omega)) ?_ (((f1.trans f2).trans f3).trans f4)⟩
            simp only [List.append_assoc] at c4 ⊢; exact c4
        · simp only [ep2] at k0
          refine ⟨g, by rw [f3.2.2.1]; exact e42, ?_⟩
          refine xPutW x2 fun h4 w4 f4 o4 => ?_
          exact ⟨Or.inl rfl, k0 h4 ff rfl (by rw [o4 4 (by omega) (by omega)]; exact x1) w4 (((f1.trans f2).trans f3).trans f4)⟩
      refine ⟨fun z => absurd z (by decide), fun _ => ⟨fun z => go (Or.inl (q8.mp z)), fun z => ⟨fun z2 => ?_, fun z2 => go (Or.inr (q9.mp z2))⟩⟩⟩
      rw [if_neg (fun y => y.elim (fun q => z (q8.mpr q)) (fun q => z2 (q9.mpr q)))] at k1
      exact ⟨Or.inr rfl, k1 h1 c (t :: r) rfl a1' c1 f1⟩
  · unfold pTest at k0
    simp only [ep] at k0
    exact ⟨fun _ => ⟨Or.inl rfl, k0 h1 ff rfl x1 x2 f1⟩, fun q => absurd rfl q⟩
theorem xAllL {P : List Tk → Res} {R0 : Int32 → Hp → (Int32 → Hp → Prop) → Prop} {a1 : Int32} {b : Nat} (hP : SpX TS g P (wp_X4_readTest R0 a1)) (gP' : Gd b P) {h0 : Hp} {Q : Int32 → Hp → Prop} :
    ∀ (n : Nat) (h : Hp) (c : CodeT) (ts : List Tk), n ≤ 600 → AtL TS h ts → Wt ts → CodX g h (C ++ c) → (C ++ c).length + ts.length ≤ 598 → gP h 4 0 1 = some (1, g) → Fp g h0 h → (∀ h' cc r, pAllL P n c ts = .inr (cc, r) → AtL TS h' r → CodX g h' (C ++ cc) → Fp g h0 h' → Q 1 h') → (∀ h' f, pAllL P n c ts = .inl f → gI h' 4 0 2 = nJ f → Wk g h' → Fp g h0 h' → Q 0 h') → w_X4_readAll_8 R0 Q (n + 1) a1 1 (nJ (600 - n)) h := by
  intro n
  induction n with
  | zero =>
    intro h c ts hn a w cx hl e4 f k1 k0
    rw [pAllL] at k1
    exact ⟨fun _ => ⟨Or.inr rfl, k1 h c ts rfl a cx f⟩, fun z => absurd (Int32.le_refl _) z⟩
  | succ n ih =>
    intro h c ts hn a w cx hl e4 f k1 k0
    match ts, a, w, hl, k1, k0 with
    | [], a, w, hl, k1, k0 => exact absurd rfl w.ne
    | t :: r, a, w, hl, k1, k0 =>
      obtain ⟨e5, e6, e7⟩ := a.cur
      have hu := w.hd
      simp only [List.length_cons] at hl
      rw [pAllL] at k1 k0
      have q5 : nJ t.1 = 5 ↔ t.1 = 5 := neq (y := 5) (by have := hu.1; omega) (by omega)
      have e60 : nJ (600 - (n + 1)) + 1 = nJ (600 - n) := by rw [nJ_succ]; congr 1; omega
      refine ⟨fun z => ?_, fun _ => ⟨fun z => absurd z (by decide), fun _ => ?_⟩⟩
      · have := (nle (x := 600) (by omega) (by omega)).mp z; omega
      · unfold w_X4_readAll_19
        rw [e5]
        refine ⟨fun z => ?_, fun z => ?_⟩
        · rw [if_neg (fun q => z (q5.mpr q))] at k1
          exact ⟨Or.inr rfl, k1 h c (t :: r) rfl a cx f⟩
        · have z := q5.mp z
          rw [if_pos z] at k1 k0
          have wr : Wt r := w.tl (by omega)
          refine xStepL (g := g) a wr fun h1 a1' f1 o1 => ?_
          have cx1 : CodX g h1 (C ++ c) := ⟨by rw [o1 1 (by omega)]; exact cx.1, CodAt.fr (o1 28 (by omega)) cx.2⟩
          have e41 : gP h1 4 0 1 = some (1, g) := by rw [f1.2.2.1]; exact e4
          refine hP h1 (C ++ c) r _ a1' wr cx1 (by omega) e41 (fun h2 cc rr ep a2 c2 f2 => ?_) (fun h2 ff ep x1 x2 f2 => ?_)
          · obtain ⟨g1, g2, g3⟩ := gP' r cc rr wr ep
            simp only [ep] at k1 k0
            refine ⟨g, by rw [f2.2.2.1]; exact e41, ?_⟩
            refine xPutC (x := (7, 0)) c2 (by simp at hl ⊢; omega) rfl fun h3 c3 f3 o3 => ?_
            show w_X4_readAll_8 R0 Q (n + 1) a1 1 (nJ (600 - (n + 1)) + 1) h3
            rw [e60]
            refine ih h3 (c ++ cc ++ [(7, 0)]) rr (by omega) (a2.kp fun k hk => o3 k (by omega) (by omega)) g1 ?_ ?_ (by rw [f3.2.2.1, f2.2.2.1]; exact e41) (((f.trans f1).trans f2).trans f3) k1 k0
            · simp only [List.append_assoc] at c3 ⊢; exact c3
            · simp at hl ⊢; omega
          · simp only [ep] at k0
            refine ⟨g, by rw [f2.2.2.1]; exact e41, ?_⟩
            refine xPutW x2 fun h3 w3 f3 o3 => ?_
            have k0' := k0 h3 ff rfl (by rw [o3 4 (by omega) (by omega)]; exact x1) w3 (((f.trans f1).trans f2).trans f3)
            exact ⟨fun _ => ⟨Or.inl rfl, k0'⟩, fun _ => ⟨fun _ => ⟨Or.inl rfl, k0'⟩, fun q => absurd rfl q⟩⟩
theorem xAll : ∀ (N d : Nat), d ≤ 5 → 6 ≤ N + d → 1 ≤ N → SpX TS g (pAll N d) (wpr_X4_readAll N (nJ d))
  | 0, d, _, _, h => by omega
  | N + 1, d, hd, h6, _ => by
    have hp : SpX TS g (pPart (pAll N) d) (wp_X4_readPart (wpr_X4_readAll N) (nJ d)) := xPart hd (fun y => xAll N (d + 1) (by omega) (by omega) (by omega)) (fun _ => gd_all N (d + 1))
    have gp : Gd (3 * d + 3) (pPart (pAll N) d) := gd_part fun _ => gd_all N (d + 1)
    have hs := xSum hp gp
    have ht := xTest hs (gd_sum gp)
    have gt := gd_test (gd_sum gp)
    intro h C ts Q a w cx hl e4 k1 k0
    refine ht h C ts _ a w cx hl e4 (fun h1 c r ep a1' c1 f1 => ?_) (fun h1 ff ep x1 x2 f1 => ?_)
    · obtain ⟨g1, g2, g3⟩ := gt ts c r w ep
      rw [pAll] at k1 k0
      simp only [ep] at k1 k0
      refine ⟨601, xAllL (C := C) ht gt 600 h1 c r (Nat.le_refl _) a1' g1 c1 (by simp; omega) (by rw [f1.2.2.1]; exact e4) f1 k1 k0⟩
    · rw [pAll] at k0
      simp only [ep] at k0
      have k0' := k0 h1 ff rfl x1 x2 f1
      exact ⟨1, fun _ => ⟨Or.inl rfl, k0'⟩, fun _ => ⟨fun _ => ⟨Or.inl rfl, k0'⟩, fun q => absurd rfl q⟩⟩
end
