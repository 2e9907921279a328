/-! lines and texts -/
abbrev ResL : Type := Sum Nat ((Int32 × CodeT) × List Tk)
def pL4 (fee : Int32) (c : CodeT) : List Tk → ResL
  | [] => .inl 0
  | s :: r => if s.1 ≠ 12 then .inl (1 + 16 * s.2.1) else .inr ((fee, c), r)
def pL3 (fee : Int32) : List Tk → ResL
  | [] => .inl 0
  | v :: r => if v.1 ≠ 4 then .inl (1 + 16 * v.2.1) else match pAll 7 0 r with
    | .inl f => .inl f
    | .inr (c, q) => pL4 fee c q
def pL2 : List Tk → ResL
  | [] => .inl 0
  | u :: r => if u.1 ≠ 2 then .inl (1 + 16 * u.2.1) else if 999 < u.2.2 then .inl (4 + 16 * u.2.1) else pL3 (nJ u.2.2) r
def pLine (nl : Nat) : List Tk → ResL
  | [] => .inl 0
  | t :: r => if t.1 ≠ 3 then .inl (1 + 16 * t.2.1) else if 16 ≤ nl then .inl (5 + 16 * t.2.1) else pL2 r
def pText : Nat → TextT → List Tk → Sum Nat TextT
  | 0, T, _ => .inr T
  | _ + 1, T, [] => .inr T
  | n + 1, T, t :: r => if t.1 = 1 then .inr T else match pLine T.length (t :: r) with
    | .inl f => .inl f
    | .inr (l, r') => pText n (T ++ [l]) r'
def cat (T : TextT) : CodeT := (T.map (fun y => y.2)).flatten
theorem cat_snoc (T : TextT) (l : Int32 × CodeT) : cat (T ++ [l]) = cat T ++ l.2 := by unfold cat; simp
section
variable {TS : List Tk} {g : Nat} {h h' : Hp} {C c : CodeT} {t : Tk} {r ts : List Tk} {T : TextT}
def LnP (g : Nat) (h : Hp) (C : CodeT) (l : Nat) (y : Int32 × CodeT) : Prop := gI h 31 g l = y.1 ∧ okC y.2 0 ∧ ∃ a b, C = a ++ (y.2 ++ b) ∧ (l = 0 → a = []) ∧ (0 < l → gI h 29 g (l - 1) = nJ a.length) ∧ gI h 29 g l = nJ (a.length + y.2.length)
def TxL (g : Nat) (h : Hp) (T : TextT) : Prop := CodX g h (cat T) ∧ gI h 1 g 6 = nJ T.length ∧ T.length ≤ 16 ∧ (0 < T.length → gI h 29 g (T.length - 1) = nJ (cat T).length) ∧ ∀ l y, T[l]? = some y → LnP g h (cat T) l y
def Fl (g : Nat) (h h' : Hp) : Prop := gC h' = gC h ∧ gL h' = gL h ∧ (∀ k i s, ¬ (k = 4 ∧ s = 1) → gP h' k i s = gP h k i s) ∧ ∀ k i s, k ≠ 9 → ¬ (k = 4 ∧ s = 2) → ¬ (k = 1 ∧ i = g ∧ (s = 3 ∨ s = 6)) → ¬ ((k = 28 ∨ k = 29 ∨ k = 31) ∧ i = g) → gI h' k i s = gI h k i s
theorem Fl.refl (h : Hp) : Fl g h h := ⟨rfl, rfl, fun _ _ _ _ => rfl, fun _ _ _ _ _ _ _ => rfl⟩
theorem Fl.trans {a b d : Hp} (f : Fl g a b) (k : Fl g b d) : Fl g a d := ⟨k.1.trans f.1, k.2.1.trans f.2.1, fun x i s h1 => (k.2.2.1 x i s h1).trans (f.2.2.1 x i s h1), fun x i s h1 h2 h3 h4 => (k.2.2.2 x i s h1 h2 h3 h4).trans (f.2.2.2 x i s h1 h2 h3 h4)⟩
theorem Fp.fl (f : Fp g h h') : Fl g h h' := ⟨f.1, f.2.1, fun k i s _ => by rw [f.2.2.1], fun k i s h1 h2 h3 h4 => f.2.2.2 k i s h1 h2 (fun z => h3 ⟨z.1, z.2.1, Or.inl z.2.2⟩) (fun z => h4 ⟨Or.inl z.1, z.2⟩)⟩
theorem xExpect {k0 : Nat} {Q : Int32 → Hp → Prop} (a : AtL TS h (t :: r)) (w : Wt (t :: r)) (hk : k0 ≤ 18) (hk1 : k0 ≠ 1) (k1 : t.1 = k0 → ∀ h', AtL TS h' r → Wt r → Fp g h h' → (∀ k, k ≠ 9 → gI h' k = gI h k) → Q 1 h') (k2 : t.1 ≠ k0 → ∀ h', gI h' 4 0 2 = nJ (1 + 16 * t.2.1) → Fp g h h' → gI h' 1 = gI h 1 → Q 0 h') : wp_X4_expect (nJ k0) h Q := by
  have hu := w.hd
  have q : nJ t.1 = nJ k0 ↔ t.1 = k0 := neq (by have := hu.1; omega) (by omega)
  unfold wp_X4_expect w_X4_expect_0
  rw [a.cur.1, q]
  refine ⟨fun z => ?_, fun z => ?_⟩
  · have wr : Wt r := w.tl (by omega)
    exact xStepL (g := g) a wr fun h' a' f' o' => k1 z h' a' wr f' o'
  · exact xFail (a := 1) a fun h' x1 x2 x3 => ⟨Or.inl rfl, k2 z h' x1 x2 x3⟩
theorem LnP.kp {C' : CodeT} {l : Nat} {y : Int32 × CodeT} (p : LnP g h C l y) (e : ∃ b, C' = C ++ b) (h31 : gI h' 31 g l = gI h 31 g l) (h29 : gI h' 29 g l = gI h 29 g l) (h29' : gI h' 29 g (l - 1) = gI h 29 g (l - 1)) : LnP g h' C' l y := by
  obtain ⟨p1, p2, a, b, p3, p4, p5, p6⟩ := p
  obtain ⟨b', e⟩ := e
  exact ⟨h31.trans p1, p2, a, b ++ b', by rw [e, p3]; simp [List.append_assoc], p4, fun z => h29'.trans (p5 z), h29.trans p6⟩
theorem xLine {Q : Int32 → Hp → Prop} (a : AtL TS h ts) (w : Wt ts) (tx : TxL g h T) (hl : (cat T).length + ts.length ≤ 601) (k1 : ∀ h' l r, pLine T.length ts = .inr (l, r) → AtL TS h' r → Wt r → TxL g h' (T ++ [l]) → (cat (T ++ [l])).length + r.length ≤ 601 → Fl g h h' → Q 1 h') (k0 : ∀ h' f, pLine T.length ts = .inl f → gI h' 4 0 2 = nJ f → Fl g h h' → Q 0 h') : wp_X4_readLine (some (1, g)) h Q := by
  obtain ⟨cx, x6, x16, x29, xl⟩ := tx
  match ts, a, w, hl, k1, k0 with
  | [], a, w, hl, k1, k0 => exact absurd rfl w.ne
  | t :: r, a, w, hl, k1, k0 =>
    have fl0 : Fl g h (wP h 4 0 1 (some (1, g))) := ⟨rfl, rfl, fun k i s h1 => by rw [gP_wP, if_neg (fun z => h1 ⟨z.1, z.2.2⟩)], fun _ _ _ _ _ _ _ => rfl⟩
    obtain ⟨h0, hh0⟩ : ∃ h0, h0 = wP h 4 0 1 (some (1, g)) := ⟨_, rfl⟩
    have a0 : AtL TS h0 (t :: r) := by rw [hh0]; exact a.kp fun _ _ => rfl
    have e40 : gP h0 4 0 1 = some (1, g) := by rw [hh0]; simp [gP_wP]
    have I0 : gI h0 = gI h := by rw [hh0]; rfl
    rw [← hh0] at fl0
    have hu := w.hd
    simp only [List.length_cons] at hl
    rw [pLine] at k1 k0
    have q3 : nJ t.1 = 3 ↔ t.1 = 3 := neq (y := 3) (by have := hu.1; omega) (by omega)
    have q16 : nJ T.length < 16 ↔ T.length < 16 := nlt (y := 16) (by omega) (by omega)
    unfold wp_X4_readLine w_X4_readLine_0
    rw [← hh0, a0.cur.1]
    have go : (t.1 = 3 → ¬ 16 ≤ T.length) → w_X4_readLine_34 Q (some (1, g)) h0 := fun hlt => by
      refine xExpect (g := g) (k0 := 3) a0 w (by omega) (by omega) (fun z h1 a1 w1 f1 o1 => ?_) (fun z h1 x1 x2 x3 => ?_)
      · rw [if_neg (by omega), if_neg (hlt z)] at k1 k0
        refine ⟨fun _ => ?_, fun q => absurd q (by decide)⟩
        match r, a1, w1, hl, k1, k0 with
        | [], a1, w1, hl, k1, k0 => exact absurd rfl w1.ne
        | u :: r2, a1, w1, hl, k1, k0 =>
          simp only [List.length_cons] at hl
          rw [pL2] at k1 k0
          obtain ⟨u5, u6, u7⟩ := a1.cur
          have hu1 := w1.hd
          have q2 : nJ u.1 = 2 ↔ u.1 = 2 := neq (y := 2) (by have := hu1.1; omega) (by omega)
          have rest : (u.1 = 2 → ¬ 999 < u.2.2) → w_X4_readLine_76 Q (some (1, g)) (nJ u.2.2) h1 := fun hfee => by
            refine xExpect (g := g) (k0 := 2) a1 w1 (by omega) (by omega) (fun z2 h2 a2 w2 f2 o2 => ?_) (fun z2 h2 y1 y2 y3 => ?_)
            · rw [if_neg (by omega), if_neg (hfee z2)] at k1 k0
              refine ⟨fun q => absurd q (by decide), fun _ => ?_⟩
              match r2, a2, w2, hl, k1, k0 with
              | [], a2, w2, hl, k1, k0 => exact absurd rfl w2.ne
              | v :: r3, a2, w2, hl, k1, k0 =>
                simp only [List.length_cons] at hl
                rw [pL3] at k1 k0
                refine xExpect (g := g) (k0 := 4) a2 w2 (by omega) (by omega) (fun z3 h3 a3 w3 f3 o3 => ?_) (fun z3 h3 y1 y2 y3 => ?_)
                · rw [if_neg (by omega)] at k1 k0
                  refine ⟨fun q => absurd q (by decide), fun _ => ?_⟩
                  have I3 : ∀ k, k ≠ 9 → gI h3 k = gI h k := fun k hk => (o3 k hk).trans ((o2 k hk).trans ((o1 k hk).trans (by rw [I0])))
                  have cx3 : CodX g h3 (cat T) := ⟨by rw [I3 1 (by omega)]; exact cx.1, CodAt.fr (I3 28 (by omega)) cx.2⟩
                  have e43 : gP h3 4 0 1 = some (1, g) := by rw [f3.2.2.1, f2.2.2.1, f1.2.2.1]; exact e40
                  have F3 : Fl g h h3 := ((fl0.trans f1.fl).trans f2.fl).trans f3.fl
                  refine xAll (TS := TS) (g := g) 7 0 (by omega) (by omega) (by omega) h3 (cat T) r3 _ a3 w3 cx3 (by omega) e43 (fun h4 cc rr ep a4 c4 f4 => ?_) (fun h4 ff ep y1 y2 f4 => ?_)
                  · obtain ⟨g1, g2, g3⟩ := gd_all 7 0 r3 cc rr w3 ep
                    have okc : okC cc 0 := hg_ok cc 0 (g3 0 (by omega))
                    refine ⟨fun q => absurd q (by decide), fun _ => ?_⟩
                    match rr, ep, a4, g1, g2 with
                    | [], ep, a4, g1, g2 => exact absurd rfl g1.ne
                    | s :: r4, ep, a4, g1, g2 =>
                      simp only [List.length_cons] at g2
                      simp only [ep] at k1 k0
                      rw [pL4] at k1 k0
                      refine xExpect (g := g) (k0 := 12) a4 g1 (by omega) (by omega) (fun z4 h5 a5 w5 f5 o5 => ?_) (fun z4 h5 y1 y2 y3 => ?_)
                      · rw [if_neg (by omega)] at k1
                        refine ⟨fun q => absurd q (by decide), fun _ => ⟨g, by rw [f5.2.2.1, f4.2.2.1]; exact e43, ?_⟩⟩
                        have T16 : T.length < 16 := by have := hlt z; omega
                        have I5 : ∀ k i s, k ≠ 9 → k ≠ 28 → ¬ (k = 4 ∧ s = 2) → ¬ (k = 1 ∧ i = g ∧ s = 3) → gI h5 k i s = gI h k i s := fun k i s n1 n2 n3 n4 => by
                          rw [o5 k n1, f4.2.2.2 k i s n1 n3 n4 (fun z => n2 z.1), I3 k n1]
                        have l6 : gI h5 1 g 6 = nJ T.length := by rw [I5 1 g 6 (by omega) (by omega) (by omega) (by omega)]; exact x6
                        have cx5 : CodX g h5 (cat T ++ cc) := ⟨by rw [o5 1 (by omega)]; exact c4.1, CodAt.fr (o5 28 (by omega)) c4.2⟩
                        have n16 : ¬ (16 : Int32) ≤ nJ T.length := fun z => by
                          have := (nle (x := 16) (by omega) (by omega)).mp z; omega
                        have v16 : vp_in (nJ T.length) 16 := (vp_nJ (by omega)).mpr T16
                        have t16 : tN (nJ T.length) = T.length := tN_nJ (by omega)
                        have F5 : Fl g h h5 := ((F3.trans f4.fl).trans f5.fl)
                        have fin := k1 (wI (wI (wI h5 31 g T.length (nJ u.2.2)) 29 g T.length (nJ (cat T ++ cc).length)) 1 g 6 (nJ (T.length + 1))) (nJ u.2.2, cc) r4 rfl (a5.kp fun k hk => by rw [gI_wIo (by omega), gI_wIo (by omega), gI_wIo (by omega)]) w5 ?_ ?_ ?_
                        · simp only [w_X1_endLine_42, w_X1_endLine_31, w_X1_endLine_9, w_X1_endLine_0, wp_X1_endLine, l6, n16, t16, gI_wI, cx5.1]
                          simp [l6, v16, t16, nJ_succ]
                          (try simp only [cx5.1])
                          (try simp at fin)
                          exact fin
                        · have ec : cat (T ++ [(nJ u.2.2, cc)]) = cat T ++ cc := cat_snoc T _
                          refine ⟨?_, by simp [gI_wI], by simp; omega, fun _ => ?_, fun l y hy => ?_⟩
                          · rw [ec]
                            refine ⟨?_, CodAt_up (fun i _ _ => by simp [gI_wI]) cx5.2⟩
                            rw [gI_wI, if_neg (by omega), gI_wI, if_neg (by omega), gI_wI, if_neg (by omega)]; exact cx5.1
                          · rw [ec]; simp [gI_wI]
                          · rw [ec]
                            by_cases yl : l < T.length
                            · rw [List.getElem?_append_left yl] at hy
                              have := xl l y hy
                              have n1 : l ≠ T.length := by omega
                              have n2 : l - 1 ≠ T.length := by omega
                              refine this.kp ⟨cc, rfl⟩ ?_ ?_ ?_
                              · simp [gI_wI, n1]; exact I5 31 g l (by omega) (by omega) (by omega) (by omega)
                              · simp [gI_wI, n1]; exact I5 29 g l (by omega) (by omega) (by omega) (by omega)
                              · simp [gI_wI, n2]; exact I5 29 g (l - 1) (by omega) (by omega) (by omega) (by omega)
                            · have hi2 := (List.getElem?_eq_some_iff.mp hy).1
                              simp at hi2
                              have y2 : l = T.length := by omega
                              subst y2
                              simp at hy
                              subst hy
                              refine ⟨by simp [gI_wI], okc, cat T, [], by simp, fun z0 => ?_, fun z0 => ?_, by simp [gI_wI]⟩
                              · have : T = [] := List.length_eq_zero_iff.mp z0
                                rw [this]; rfl
                              · have n2 : T.length - 1 ≠ T.length := by omega
                                simp [gI_wI, n2]
                                rw [I5 29 g (T.length - 1) (by omega) (by omega) (by omega) (by omega)]
                                exact x29 z0
                        · rw [cat_snoc]; simp; omega
                        · refine F5.trans ⟨rfl, rfl, fun _ _ _ _ => rfl, fun k i s n1 n2 n3 n4 => ?_⟩
                          rw [gI_wI, if_neg (by omega), gI_wI, if_neg (by omega), gI_wI, if_neg (by omega)]
                      · rw [if_pos z4] at k0
                        exact ⟨fun _ => k0 h5 _ rfl y1 ((F3.trans f4.fl).trans y2.fl), fun q => absurd rfl q⟩
                  · simp only [ep] at k0
                    exact ⟨fun _ => k0 h4 ff rfl y1 (F3.trans f4.fl), fun q => absurd rfl q⟩
                · rw [if_pos z3] at k0
                  exact ⟨fun _ => k0 h3 _ rfl y1 (((fl0.trans f1.fl).trans f2.fl).trans y2.fl), fun q => absurd rfl q⟩
            · rw [if_pos z2] at k0
              exact ⟨fun _ => k0 h2 _ rfl y1 ((fl0.trans f1.fl).trans y2.fl), fun q => absurd rfl q⟩
          unfold w_X4_readLine_44
          rw [u5, u7]
          refine ⟨fun z2 => rest (fun q => absurd (q2.mpr q) z2), fun z2 => ?_⟩
          have z2 := q2.mp z2
          have v4 := hu1.2.1 z2
          have q999 : nJ u.2.2 ≤ 999 ↔ u.2.2 ≤ 999 := nle (y := 999) (by omega) (by omega)
          refine ⟨fun z3 => rest (fun _ => by have := q999.mp z3; omega), fun z3 => ?_⟩
          have z3 : ¬ u.2.2 ≤ 999 := fun q => z3 (q999.mpr q)
          rw [if_neg (by omega), if_pos (by omega)] at k0
          exact xFail (g := g) (a := 4) a1 fun h' y1 y2 y3 => ⟨Or.inl rfl, k0 h' _ rfl y1 ((fl0.trans f1.fl).trans y2.fl)⟩
      · rw [if_pos z] at k0
        exact ⟨fun q => absurd rfl q, fun _ => k0 h1 _ rfl x1 (fl0.trans x2.fl)⟩
    refine ⟨fun z => go (fun q => absurd (q3.mpr q) z), fun z => ⟨g, e40, ?_⟩⟩
    have z := q3.mp z
    rw [I0, x6]
    refine ⟨fun y => go (fun _ => by have := q16.mp y; omega), fun y => ?_⟩
    have y : ¬ T.length < 16 := fun q => y (q16.mpr q)
    rw [if_neg (by omega), if_pos (by omega)] at k0
    exact xFail (g := g) (a := 5) a0 fun h' y1 y2 y3 => ⟨Or.inl rfl, k0 h' _ rfl y1 (fl0.trans y2.fl)⟩
theorem xTextL {Q : Int32 → Hp → Prop} {h0 : Hp} : ∀ (n : Nat) (h : Hp) (T : TextT) (ts : List Tk), n ≤ 17 → T.length + n = 17 → gP h 0 0 4 = some (1, g) → AtL TS h ts → Wt ts → TxL g h T → (cat T).length + ts.length ≤ 601 → Fl g h0 h → (∀ h' T', pText n T ts = .inr T' → TxL g h' T' → (cat T').length ≤ 600 → Fl g h0 h' → Q 0 (wP (wP h' 0 0 3 (gP h' 0 0 4)) 0 0 4 (gP h' 0 0 3))) → (∀ h' f, pText n T ts = .inl f → Fl g h0 h' → Q (nJ f) h') → w_X0_readTape_20 Q (n + 1) (nJ (17 - n)) h := by
  intro n
  induction n with
  | zero =>
    intro h T ts hn hT e4 a w tx hl f k1 k0
    exfalso
    have := tx.2.2.1
    omega
  | succ n ih =>
    intro h T ts hn hT e4 a w tx hl f k1 k0
    match ts, a, w, hl, k1, k0 with
    | [], a, w, hl, k1, k0 => exact absurd rfl w.ne
    | t :: r, a, w, hl, k1, k0 =>
      have hu := w.hd
      rw [pText] at k1 k0
      have q1 : nJ t.1 = 1 ↔ t.1 = 1 := neq (y := 1) (by have := hu.1; omega) (by omega)
      refine ⟨fun z => ?_, fun _ => ?_⟩
      · have := (nlt (x := 16) (by omega) (by omega)).mp z; omega
      · unfold w_X0_readTape_26
        rw [a.cur.1]
        refine ⟨fun z => ?_, fun z => ?_⟩
        · rw [if_pos (q1.mp z)] at k1
          exact k1 h T rfl tx (by simp only [List.length_cons] at hl; omega) f
        · rw [if_neg (fun q => z (q1.mpr q))] at k1 k0
          unfold w_X0_readTape_37
          rw [e4]
          refine xLine (T := T) a w tx hl (fun h1 l r1 ep a1 w1 tx1 hl1 f1 => ?_) (fun h1 ff ep y1 f1 => ?_)
          · simp only [ep] at k1 k0
            refine ⟨fun _ => ?_, fun q => absurd q (by decide)⟩
            show w_X0_readTape_20 Q (n + 1) (nJ (17 - (n + 1)) + 1) h1
            rw [nJ_succ, show 17 - (n + 1) + 1 = 17 - n by omega]
            exact ih h1 (T ++ [l]) r1 (by omega) (by simp; omega) (by rw [f1.2.2.1 0 0 4 (by omega)]; exact e4) a1 w1 tx1 hl1 (f.trans f1) k1 k0
          · simp only [ep] at k0
            refine ⟨fun q => absurd rfl q, fun _ => ?_⟩
            show Q (gI h1 4 0 2) h1
            rw [y1]
            exact k0 h1 ff rfl (f.trans f1)
end
