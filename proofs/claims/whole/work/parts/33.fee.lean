/-! a text: lines of (fee, code); an item of code is (1, number), (2, part), or 3 to 7: plus, minus, less, same, and -/
abbrev CodeT : Type := List (Nat × Nat)
abbrev TextT : Type := List (Int32 × CodeT)
def jn (o : Nat) (x b : Int32) : Int32 := if o = 3 then x + b else if o = 4 then x - b else if o = 5 then (if x < b then 1 else 0) else if o = 6 then (if x = b then 1 else 0) else if x ≠ 0 ∧ b ≠ 0 then 1 else 0
def ev (kn : Nat → Int32) : CodeT → List Int32 → List Int32
  | [], st => st
  | (o, a) :: cs, st => if o = 1 then ev kn cs (nJ a :: st) else if o = 2 then ev kn cs (kn a :: st) else match st with
    | b :: x :: r => ev kn cs (jn o x b :: r)
    | _ => []
def okC : CodeT → Nat → Prop
  | [], k => k = 1
  | (o, a) :: cs, k => (o = 1 ∧ a < 100000 ∧ k < 16 ∧ okC cs (k + 1)) ∨ (o = 2 ∧ a < 6 ∧ k < 16 ∧ okC cs (k + 1)) ∨ (3 ≤ o ∧ o ≤ 7 ∧ 2 ≤ k ∧ okC cs (k - 1))
def SA (f : Nat → Int32) : List Int32 → Prop
  | [] => True
  | v :: r => f r.length = v ∧ SA f r
theorem SA_up {f g : Nat → Int32} : ∀ {st : List Int32}, (∀ j, j < st.length → g j = f j) → SA f st → SA g st
  | [], _, _ => trivial
  | v :: r, h, s => ⟨(h r.length (by simp)).trans s.1, SA_up (fun j hj => h j (by simp; omega)) s.2⟩
def feeF (kn : Nat → Int32) : TextT → Int32
  | [] => 0
  | (f, c) :: r => if (ev kn c []).headD 0 = 0 then feeF kn r else f
/-! the model's side -/
def EncAt (h : Hp) : Nat → CodeT → Prop
  | p, [] => gI h 113 0 p = 0 ∧ p < 1320
  | p, (o, a) :: cs => gI h 113 0 p = nJ o ∧ (o ≤ 2 → gI h 114 0 p = nJ a) ∧ p < 1320 ∧ EncAt h (p + 1) cs
def pb (a b : Nat) (k : Nat) : Bool := !(k == a) && !(k == b)
theorem EncAt.fr {h h' : Hp} (f : gI h' 113 = gI h 113) (f2 : gI h' 114 = gI h 114) : ∀ {c : CodeT} {p : Nat}, EncAt h p c → EncAt h' p c
  | [], p, e => by unfold EncAt at e ⊢; rw [f]; exact e
  | (o, a) :: cs, p, e => by
    unfold EncAt at e ⊢
    rw [f, f2]; exact ⟨e.1, e.2.1, e.2.2.1, EncAt.fr f f2 e.2.2.2⟩
theorem nJ_m1 (k : Nat) : nJ (k + 1) + (-1) = nJ k := by
  have := nJ_pred k
  rw [Int32.sub_eq_add_neg] at this; exact this
theorem mWorthL {a1 : Int32} {kn : Nat → Int32} {Q : Int32 → Hp → Prop} : ∀ {cs : CodeT} {h : Hp} {st : List Int32} {p : Nat}, okC cs st.length → st.length ≤ 16 → SA (gI h 123 0) st → EncAt h p cs → (∀ k, k < 6 → gI h 122 0 k = kn k) → (∀ h', Fr (pb 123 123) h h' → Q ((ev kn cs st).headD 0) h') → w_X12_worth_4 Q (cs.length + 1) a1 (nJ p) (nJ st.length) h
  | [], h, st, p, ok, hl, sa, en, hk, kk => by
    have ok : st.length = 1 := ok
    obtain ⟨v, rfl⟩ : ∃ v, st = [v] := by
      match st, ok with
      | [v], _ => exact ⟨v, rfl⟩
    unfold EncAt at en
    refine ⟨(vp_nJ (by omega)).mpr en.2, fun _ => ⟨(vp_nJ (n := 0) (by omega)).mpr (by omega), ?_⟩, fun c => absurd ?_ c⟩
    · have h1 : gI h 123 0 0 = v := sa.1
      have h2 := kk h (Fr.refl h)
      show Q (gI h 123 0 (tN (nJ 0))) h
      rw [tN_nJ (by omega), h1]
      exact h2
    · rw [tN_nJ (by omega)]; exact en.1
  | (o, a) :: cs, h, st, p, ok, hl, sa, en, hk, kk => by
    unfold EncAt at en
    obtain ⟨e1, e2, e3, e4⟩ := en
    have o7 : 1 ≤ o ∧ o ≤ 7 := by
      rcases ok with ok | ok | ok <;> omega
    refine ⟨(vp_nJ (by omega)).mpr e3, fun c => ?_, fun _ => ?_⟩
    · exfalso
      rw [tN_nJ (by omega), e1, show (0 : Int32) = nJ 0 from rfl, nJ_eq (by omega) (by omega)] at c
      omega
    · have hfr : ∀ {h2 : Hp} {i : Nat} {v : Int32}, h2 = wI h 123 0 i v → EncAt h2 (p + 1) cs ∧ (∀ k, k < 6 → gI h2 122 0 k = kn k) ∧ Fr (pb 123 123) h h2 := by
        rintro h2 i v rfl
        have hf : Fr (pb 123 123) h (wI h 123 0 i v) := (Fr.refl h).wI rfl
        exact ⟨EncAt.fr (hf 113 rfl).2.1 (hf 114 rfl).2.1 e4, fun k hk' => by rw [(hf 122 rfl).2.1]; exact hk k hk', hf⟩
      rcases ok with ⟨rfl, ha, hlt, ok⟩ | ⟨rfl, ha, hlt, ok⟩ | ⟨h3, h7, h2k, ok⟩
      · have e2 := e2 (by omega)
        obtain ⟨n1, n2, n3⟩ := hfr (i := st.length) (v := nJ a) rfl
        have ih := mWorthL (a1 := a1) (kn := kn) (Q := Q) (cs := cs) (h := wI h 123 0 st.length (nJ a)) (st := nJ a :: st) (p := p + 1) ok (by simp; omega) ⟨by simp [gI_wI], SA_up (fun j hj => by simp [gI_wI]; omega) sa⟩ n1 n2 (fun h' f => by have := kk h' (n3.trans f); simpa [ev] using this)
        have hp : p < 1320 := e3
        have hs : st.length < 660 := by omega
        have t1 : nJ 1 = (1 : Int32) := rfl
        simp (disch := omega) only [w_X12_worth_192, w_X12_worth_186, w_X12_worth_64, w_X12_worth_53, w_X12_worth_44, w_X12_worth_33, w_X12_worth_185, w_X12_worth_184, w_X12_worth_180, w_X12_worth_175, w_X12_worth_170, w_X12_worth_166, w_X12_worth_162, w_X12_worth_155, w_X12_worth_148, w_X12_worth_144, w_X12_worth_140, w_X12_worth_133, w_X12_worth_127, w_X12_worth_119, w_X12_worth_113, w_X12_worth_105, w_X12_worth_71, w_X12_worth_27, w_X12_worth_13, w_X12_worth_0, wp_X12_worth, vp_nJ, tN_nJ, nJ_succ, e1, e2, hp, hs, true_and, t1]
        simp only [List.length_cons] at ih
        simpa using ih
      · have e2 := e2 (by omega)
        obtain ⟨n1, n2, n3⟩ := hfr (i := st.length) (v := kn a) rfl
        have ih := mWorthL (a1 := a1) (kn := kn) (Q := Q) (cs := cs) (h := wI h 123 0 st.length (kn a)) (st := kn a :: st) (p := p + 1) ok (by simp; omega) ⟨by simp [gI_wI], SA_up (fun j hj => by simp [gI_wI]; omega) sa⟩ n1 n2 (fun h' f => by have := kk h' (n3.trans f); simpa [ev] using this)
        have hp : p < 1320 := e3
        have hs : st.length < 660 := by omega
        have t1 : nJ 2 = (2 : Int32) := rfl
        simp (disch := omega) only [w_X12_worth_192, w_X12_worth_186, w_X12_worth_64, w_X12_worth_53, w_X12_worth_44, w_X12_worth_33, w_X12_worth_185, w_X12_worth_184, w_X12_worth_180, w_X12_worth_175, w_X12_worth_170, w_X12_worth_166, w_X12_worth_162, w_X12_worth_155, w_X12_worth_148, w_X12_worth_144, w_X12_worth_140, w_X12_worth_133, w_X12_worth_127, w_X12_worth_119, w_X12_worth_113, w_X12_worth_105, w_X12_worth_71, w_X12_worth_27, w_X12_worth_13, w_X12_worth_0, wp_X12_worth, vp_nJ, tN_nJ, nJ_succ, e1, e2, hp, hs, ha, hk a ha, true_and, t1]
        simp only [List.length_cons] at ih
        simpa using ih
      · match st, sa, h2k, hl, ok, kk with
        | b :: x :: r, sa, h2k, hl, ok, kk =>
          obtain ⟨s1, s2, s3⟩ := sa
          simp only [List.length_cons] at s1 s2 ok hl ⊢
          obtain ⟨n1, n2, n3⟩ := hfr (i := r.length) (v := jn o x b) rfl
          have ih := mWorthL (a1 := a1) (kn := kn) (Q := Q) (cs := cs) (h := wI h 123 0 r.length (jn o x b)) (st := jn o x b :: r) (p := p + 1) (by simpa using ok) (by simp; omega) ⟨by simp [gI_wI], SA_up (fun j hj => by simp [gI_wI]; omega) s3⟩ n1 n2 (fun h' f => by
            have := kk h' (n3.trans f)
            rw [ev, if_neg (by omega), if_neg (by omega)] at this
            exact this)
          have hp : p < 1320 := e3
          have hs : r.length < 660 := by omega
          have hs1 : r.length + 1 < 660 := by omega
          have c1 : ¬ nJ o = 1 := fun z => by
            have := (nJ_eq (a := o) (b := 1) (by omega) (by omega)).mp z; omega
          have c2 : ¬ nJ o = 2 := fun z => by
            have := (nJ_eq (a := o) (b := 2) (by omega) (by omega)).mp z; omega
          have c3 : nJ o = 3 ↔ o = 3 := nJ_eq (a := o) (b := 3) (by omega) (by omega)
          have c4 : nJ o = 4 ↔ o = 4 := nJ_eq (a := o) (b := 4) (by omega) (by omega)
          have c5 : nJ o = 5 ↔ o = 5 := nJ_eq (a := o) (b := 5) (by omega) (by omega)
          have c6 : nJ o = 6 ↔ o = 6 := nJ_eq (a := o) (b := 6) (by omega) (by omega)
          simp only [List.length_cons] at ih
          simp (disch := omega) only [w_X12_worth_192, w_X12_worth_186, w_X12_worth_64, w_X12_worth_53, w_X12_worth_44, w_X12_worth_33, w_X12_worth_185, w_X12_worth_184, w_X12_worth_180, w_X12_worth_175, w_X12_worth_170, w_X12_worth_166, w_X12_worth_162, w_X12_worth_155, w_X12_worth_148, w_X12_worth_144, w_X12_worth_140, w_X12_worth_133, w_X12_worth_127, w_X12_worth_119, w_X12_worth_113, w_X12_worth_105, w_X12_worth_71, w_X12_worth_27, w_X12_worth_13, w_X12_worth_0, wp_X12_worth, vp_nJ, tN_nJ, nJ_succ, nJ_m1, nJ_pred, e1, hp, hs, hs1, true_and, c1, c2, c3, c4, c5, c6, s1, s2, false_implies, not_false_eq_true, true_implies, true_and, and_true]
          by_cases d3 : o = 3
          · subst d3; simpa [jn] using ih
          by_cases d4 : o = 4
          · subst d4; simpa [jn] using ih
          by_cases d5 : o = 5
          · subst d5
            by_cases d : x < b
            · have d' : ¬ b ≤ x := Int32.not_le.mpr d
              simpa [jn, d, d'] using ih
            · have d' : b ≤ x := Int32.not_lt.mp d
              simpa [jn, d, d'] using ih
          by_cases d6 : o = 6
          · subst d6
            by_cases d : x = b
            · simpa [jn, d] using ih
            · simpa [jn, d] using ih
          · by_cases dx : x = 0
            · simpa [jn, d3, d4, d5, d6, dx] using ih
            · by_cases db : b = 0
              · simpa [jn, d3, d4, d5, d6, dx, db] using ih
              · simpa [jn, d3, d4, d5, d6, dx, db] using ih
def TextM (h : Hp) (T : TextT) : Prop := ∃ b, b < 2 ∧ gI h 12 0 15 = nJ b ∧ gI h 110 0 b = nJ T.length ∧ T.length ≤ 16 ∧ ∀ l x, T[l]? = some x → gI h 111 0 (16 * b + l) = x.1 ∧ ∃ p, gI h 112 0 (16 * b + l) = nJ p ∧ p < 1320 ∧ EncAt h p x.2 ∧ okC x.2 0
def knM (S : MSt) (g : Nat) (k : Nat) : Int32 := if k = 0 then S 143 g else if k = 1 then (if S 146 g < 0 then 0 else 1) else if k = 2 then S 12 24 / 60 else if k = 3 then S 129 (tN (S 142 g)) else if k = 4 then S 142 g else S 12 56
theorem TextM.fr {h h' : Hp} {T : TextT} (t : TextM h T) (f : gI h' 12 0 15 = gI h 12 0 15) (f0 : gI h' 110 = gI h 110) (f1 : gI h' 111 = gI h 111) (f2 : gI h' 112 = gI h 112) (f3 : gI h' 113 = gI h 113) (f4 : gI h' 114 = gI h 114) : TextM h' T := by
  obtain ⟨b, hb, e1, e2, e3, e4⟩ := t
  refine ⟨b, hb, f.trans e1, by rw [f0]; exact e2, e3, fun l x hl => ?_⟩
  obtain ⟨a1, p, a2, a3, a4, a5⟩ := e4 l x hl
  exact ⟨by rw [f1]; exact a1, p, by rw [f2]; exact a2, a3, EncAt.fr f3 f4 a4, a5⟩
theorem mWorth {h : Hp} {p : Nat} {c : CodeT} {kn : Nat → Int32} {Q : Int32 → Hp → Prop} (en : EncAt h p c) (ok : okC c 0) (hk : ∀ k, k < 6 → gI h 122 0 k = kn k) (kk : ∀ h', Fr (pb 123 123) h h' → Q ((ev kn c []).headD 0) h') : wp_X12_worth (nJ p) h Q :=
  ⟨c.length + 1, mWorthL (st := []) ok (by simp) trivial en hk kk⟩
theorem fr_le {p q : Nat → Bool} {h h' : Hp} (f : Fr p h h') (hpq : ∀ k, q k = true → p k = true) : Fr q h h' := fun k hk => f k (hpq k hk)
theorem pb_le {k : Nat} (h : pb 122 123 k = true) : pb 123 123 k = true := by
  simp [pb] at h ⊢; exact h.2
theorem mFeeL {a1 : Int32} {kn : Nat → Int32} {T : TextT} {b : Nat} {Q : Int32 → Hp → Prop} (hb : b < 2) (h16 : T.length ≤ 16) : ∀ (j l : Nat) (h : Hp), l + j = T.length → gI h 12 0 15 = nJ b → gI h 110 0 b = nJ T.length → (∀ l x, T[l]? = some x → gI h 111 0 (16 * b + l) = x.1 ∧ ∃ p, gI h 112 0 (16 * b + l) = nJ p ∧ p < 1320 ∧ EncAt h p x.2 ∧ okC x.2 0) → (∀ k, k < 6 → gI h 122 0 k = kn k) → (∀ h', Fr (pb 123 123) h h' → Q (feeF kn (T.drop l)) h') → w_X12_feeOf_92 Q (j + 1) a1 (nJ (16 * b + l)) h := by
  intro j
  induction j with
  | zero =>
    intro l h e e1 e2 e4 hk kk
    obtain rfl : l = T.length := by omega
    have kk := kk h (Fr.refl h)
    rw [List.drop_length] at kk
    refine ⟨?_, fun _ => kk, fun c => absurd ?_ c⟩
    · rw [e1, vp_nJ (by omega)]; exact hb
    · rw [e1, tN_nJ (by omega), e2]
      have : (16 : Int32) * nJ b = nJ (16 * b) := by
        rcases (by omega : b = 0 ∨ b = 1) with rfl | rfl <;> rfl
      rw [this, nJ_add]; exact Int32.le_refl _
  | succ j ih =>
    intro l h e e1 e2 e4 hk kk
    have hl : l < T.length := by omega
    have h16b : (16 : Int32) * nJ b = nJ (16 * b) := by
      rcases (by omega : b = 0 ∨ b = 1) with rfl | rfl <;> rfl
    obtain ⟨a1, p, a2, a3, a4, a5⟩ := e4 l T[l] (List.getElem?_eq_getElem hl)
    rw [List.drop_eq_getElem_cons hl] at kk
    refine ⟨?_, fun c => absurd c ?_, fun _ => ?_⟩
    · rw [e1, vp_nJ (by omega)]; exact hb
    · rw [e1, tN_nJ (by omega), e2, h16b, nJ_add, nJ_le (by omega) (by omega)]; omega
    · refine ⟨(vp_nJ (by omega)).mpr (by omega), ?_⟩
      rw [tN_nJ (by omega), a2]
      refine mWorth a4 a5 hk fun h' f => ⟨fun c => ?_, fun c => ?_⟩
      · show w_X12_feeOf_92 Q (j + 1) _ (nJ (16 * b + l) + 1) h'
        rw [nJ_succ, Nat.add_assoc]
        refine ih (l + 1) h' (by omega) ?_ ?_ ?_ ?_ ?_
        · rw [(f 12 rfl).2.1]; exact e1
        · rw [(f 110 rfl).2.1]; exact e2
        · intro l x hx
          obtain ⟨b1, p, b2, b3, b4, b5⟩ := e4 l x hx
          exact ⟨by rw [(f 111 rfl).2.1]; exact b1, p, by rw [(f 112 rfl).2.1]; exact b2, b3, EncAt.fr (f 113 rfl).2.1 (f 114 rfl).2.1 b4, b5⟩
        · intro k hk'; rw [(f 122 rfl).2.1]; exact hk k hk'
        · intro h2 f2
          have := kk h2 (f.trans f2)
          rw [feeF, if_pos c] at this
          exact this
      · refine ⟨(vp_nJ (by omega)).mpr (by omega), ?_⟩
        rw [tN_nJ (by omega), (f 111 rfl).2.1, a1]
        have := kk h' f
        rw [feeF, if_neg c] at this
        exact this
theorem mFee {nS nT nU nG : Nat} {h : Hp} {T : TextT} {g : Nat} {Q : Int32 → Hp → Prop} (w : WC nS nT nU nG (view h)) (t : TextM h T) (hg : g < nG) (kk : ∀ h', Fr (pb 122 123) h h' → Q (feeF (knM (view h) g) T) h') : wp_X12_feeOf (nJ g) h Q := by
  obtain ⟨b, hb, e1, e2, e3, e4⟩ := t
  obtain ⟨s, hs, es⟩ := w.home g hg
  have h4 : nS ≤ 4 := w.cS.2
  have hg60 : g < 60 := by have := w.cG.2; omega
  have hs4 : s < 4 := by omega
  have h16b : (16 : Int32) * nJ b = nJ (16 * b) := by
    rcases (by omega : b = 0 ∨ b = 1) with rfl | rfl <;> rfl
  have v0 : vp_in (0 : Int32) 6 := (vp_nJ (n := 0) (by omega)).mpr (by omega)
  have v1 : vp_in (1 : Int32) 6 := (vp_nJ (n := 1) (by omega)).mpr (by omega)
  have v2 : vp_in (2 : Int32) 6 := (vp_nJ (n := 2) (by omega)).mpr (by omega)
  have v3 : vp_in (3 : Int32) 6 := (vp_nJ (n := 3) (by omega)).mpr (by omega)
  have v4 : vp_in (4 : Int32) 6 := (vp_nJ (n := 4) (by omega)).mpr (by omega)
  have v5 : vp_in (5 : Int32) 6 := (vp_nJ (n := 5) (by omega)).mpr (by omega)
  have t0 : tN (0 : Int32) = 0 := tN_nJ (n := 0) (by omega)
  have t1 : tN (1 : Int32) = 1 := tN_nJ (n := 1) (by omega)
  have t2 : tN (2 : Int32) = 2 := tN_nJ (n := 2) (by omega)
  have t3 : tN (3 : Int32) = 3 := tN_nJ (n := 3) (by omega)
  have t4 : tN (4 : Int32) = 4 := tN_nJ (n := 4) (by omega)
  have t5 : tN (5 : Int32) = 5 := tN_nJ (n := 5) (by omega)
  have es' : gI h 142 0 g = nJ s := by rw [gv_142]; exact es
  have go : ∀ (x : Int32), x = (if view h 146 g < 0 then 0 else 1) → w_X12_feeOf_31 Q (nJ g) 1 x (wI h 122 0 0 (gI h 143 0 g)) := by
    intro x hx
    simp (disch := omega) only [w_X12_feeOf_139, w_X12_feeOf_133, w_X12_feeOf_126, w_X12_feeOf_123, w_X12_feeOf_113, w_X12_feeOf_74, w_X12_feeOf_60, w_X12_feeOf_31, w_X12_feeOf_30, w_X12_feeOf_26, w_X12_feeOf_0, wp_X12_feeOf, vp_nJ, tN_nJ, v0, v1, v2, v3, v4, v5, t0, t1, t2, t3, t4, t5, gI_wI, es', hg60, hs4, true_and, e1, h16b, reduceCtorEq, Nat.reduceEqDiff, false_and, and_false, if_false]
    refine ⟨T.length + 1, ?_⟩
    have hfr : Fr (pb 122 123) h (wI (wI (wI (wI (wI (wI h 122 0 0 (gI h 143 0 g)) 122 0 1 x) 122 0 2 (gI h 12 0 24 / 60)) 122 0 3 (gI h 129 0 s)) 122 0 4 (nJ s)) 122 0 5 (gI h 12 0 56)) := ((((((Fr.refl h).wI rfl).wI rfl).wI rfl).wI rfl).wI rfl).wI rfl
    refine mFeeL (kn := knM (view h) g) (T := T) hb e3 T.length 0 _ (by omega) ?_ ?_ ?_ ?_ ?_
    · rw [(hfr 12 rfl).2.1]; exact e1
    · rw [(hfr 110 rfl).2.1]; exact e2
    · intro l x hx
      obtain ⟨b1, p, b2, b3, b4, b5⟩ := e4 l x hx
      exact ⟨by rw [(hfr 111 rfl).2.1]; exact b1, p, by rw [(hfr 112 rfl).2.1]; exact b2, b3, EncAt.fr (hfr 113 rfl).2.1 (hfr 114 rfl).2.1 b4, b5⟩
    · intro k hk
      rcases (by omega : k = 0 ∨ k = 1 ∨ k = 2 ∨ k = 3 ∨ k = 4 ∨ k = 5) with rfl | rfl | rfl | rfl | rfl | rfl
      · simp [gI_wI, knM, gv_143]
      · simp [gI_wI, knM, hx]
      · simp [gI_wI, knM, gv_12_24]
      · simp [gI_wI, knM, gv_129, es, tN_nJ (n := s) (by omega)]
      · simp [gI_wI, knM, es]
      · simp [gI_wI, knM, gv_12_56]
    · intro h' f
      exact kk h' (hfr.trans (fr_le f fun k hk => pb_le hk))
  refine ⟨(vp_nJ (by omega)).mpr hg60, v0, (vp_nJ (by omega)).mpr hg60, fun c => ?_, fun c => ?_⟩
  · rw [tN_nJ (by omega)] at c
    have := go 0 (by rw [if_pos]; rw [← gv_146]; exact c)
    rw [show wI h 122 0 (tN 0) (gI h 143 0 (tN (nJ g))) = wI h 122 0 0 (gI h 143 0 g) by rw [t0, tN_nJ (by omega)]]
    exact this
  · rw [tN_nJ (by omega)] at c
    have := go 1 (by rw [if_neg]; rw [← gv_146]; exact c)
    rw [show wI h 122 0 (tN 0) (gI h 143 0 (tN (nJ g))) = wI h 122 0 0 (gI h 143 0 g) by rw [t0, tN_nJ (by omega)]]
    exact this
