/-! the class's side of a fee -/
def xc (c : Nat × Nat) : Int32 := if c.1 = 1 then nJ c.2 else if c.1 = 2 then -(nJ (13 + c.2)) else if c.1 = 3 then -10 else if c.1 = 4 then -11 else if c.1 = 5 then -8 else if c.1 = 6 then -9 else -5
def CodAt (h : Hp) (x : Nat) : Nat → CodeT → Prop
  | _, [] => True
  | p, c :: cs => gI h 28 x p = xc c ∧ CodAt h x (p + 1) cs
theorem CodAt.fr {h h' : Hp} {x : Nat} (f : gI h' 28 = gI h 28) : ∀ {c : CodeT} {p : Nat}, CodAt h x p c → CodAt h' x p c
  | [], _, _ => trivial
  | c :: cs, p, e => ⟨by rw [f]; exact e.1, CodAt.fr f e.2⟩
def TextX (h : Hp) (T : TextT) : Prop := ∃ x, gP h 0 0 3 = some (1, x) ∧ x < 2 ∧ gI h 1 x 6 = nJ T.length ∧ T.length ≤ 16 ∧ ∀ l y, T[l]? = some y → gI h 31 x l = y.1 ∧ okC y.2 0 ∧ ∃ s, (l = 0 → s = 0) ∧ (0 < l → gI h 29 x (l - 1) = nJ s) ∧ gI h 29 x l = nJ (s + y.2.length) ∧ s + y.2.length ≤ 600 ∧ CodAt h x s y.2
def Kv (h h' : Hp) : Prop := Fr (pb 1 30) h h' ∧ (∀ i s, s ≠ 4 → gI h' 1 i s = gI h 1 i s) ∧ gC h' 1 = gC h 1 ∧ gP h' 1 = gP h 1 ∧ gL h' 1 = gL h 1 ∧ gC h' 30 = gC h 30 ∧ gL h' 30 = gL h 30
theorem Kv.refl (h : Hp) : Kv h h := ⟨Fr.refl h, fun _ _ _ => rfl, rfl, rfl, rfl, rfl, rfl⟩
theorem Kv.trans {a b c : Hp} (f : Kv a b) (g : Kv b c) : Kv a c := ⟨f.1.trans g.1, fun i s hs => (g.2.1 i s hs).trans (f.2.1 i s hs), g.2.2.1.trans f.2.2.1, g.2.2.2.1.trans f.2.2.2.1, g.2.2.2.2.1.trans f.2.2.2.2.1, g.2.2.2.2.2.1.trans f.2.2.2.2.2.1, g.2.2.2.2.2.2.trans f.2.2.2.2.2.2⟩
theorem Kv.w30 {a b : Hp} (f : Kv a b) {i j : Nat} {v : Int32} : Kv a (wI b 30 i j v) := by
  refine ⟨f.1.wI rfl, fun i' s hs => ?_, f.2.2.1, f.2.2.2.1, f.2.2.2.2.1, f.2.2.2.2.2.1, f.2.2.2.2.2.2⟩
  rw [gI_wI, if_neg (by rintro ⟨z, -⟩; cases z)]; exact f.2.1 i' s hs
theorem Kv.w4 {a b : Hp} (f : Kv a b) {i : Nat} {v : Int32} : Kv a (wI b 1 i 4 v) := by
  refine ⟨f.1.wI rfl, fun i' s hs => ?_, f.2.2.1, f.2.2.2.1, f.2.2.2.2.1, f.2.2.2.2.2.1, f.2.2.2.2.2.2⟩
  rw [gI_wI, if_neg (by rintro ⟨-, -, z⟩; exact hs z)]; exact f.2.1 i' s hs
theorem TextX.kv {h h' : Hp} {T : TextT} (f : Kv h h') (t : TextX h T) : TextX h' T := by
  obtain ⟨x, e1, e2, e3, e4, e5⟩ := t
  refine ⟨x, by rw [(f.1 0 rfl).2.2.2]; exact e1, e2, (f.2.1 x 6 (by omega)).trans e3, e4, fun l y hy => ?_⟩
  obtain ⟨a1, a2, s, a3, a4, a5, a6, a7⟩ := e5 l y hy
  exact ⟨by rw [(f.1 31 rfl).2.1]; exact a1, a2, s, a3, fun z => by rw [(f.1 29 rfl).2.1]; exact a4 z, by rw [(f.1 29 rfl).2.1]; exact a5, a6, CodAt.fr (f.1 28 rfl).2.1 a7⟩
theorem xpush {h : Hp} {i k : Nat} {v : Int32} {Q : Hp → Prop} (e : gI h 1 i 4 = nJ k) (hk : k < 16) : wp_X1_push i v h Q ↔ Q (wI (wI h 30 i k v) 1 i 4 (nJ (k + 1))) := by
  have c : ¬ (16 : Int32) ≤ nJ k := fun z => by
    have := (nJ_le (a := 16) (b := k) (by omega) (by omega)).mp z; omega
  simp (disch := omega) [w_X1_push_29, w_X1_push_9, w_X1_push_0, wp_X1_push, e, c, vp_nJ, tN_nJ, gI_wI, nJ_succ, hk]
theorem xpop {h : Hp} {i k : Nat} {Q : Int32 → Hp → Prop} (e : gI h 1 i 4 = nJ (k + 1)) (hk : k < 16) : wp_X1_pop i h Q ↔ Q (gI h 30 i k) (wI h 1 i 4 (nJ k)) := by
  have c : (0 : Int32) < nJ (k + 1) := (nJ_lt (a := 0) (b := k + 1) (by omega) (by omega)).mpr (by omega)
  simp (disch := omega) [w_X1_pop_27, w_X1_pop_9, w_X1_pop_7, w_X1_pop_0, wp_X1_pop, e, c, vp_nJ, tN_nJ, gI_wI, nJ_pred, hk]
def kd (o : Nat) : Int32 := if o = 3 then 10 else if o = 4 then 11 else if o = 5 then 8 else if o = 6 then 9 else 5
theorem xjoin {h : Hp} {o : Nat} {a b : Int32} {Q : Int32 → Hp → Prop} (h3 : 3 ≤ o) (h7 : o ≤ 7) : wp_X1_join (kd o) a b h Q ↔ Q (jn o a b) h := by
  have t10 : (10 : Int32).toInt = 10 := by decide
  have t11 : (11 : Int32).toInt = 11 := by decide
  have t8 : (8 : Int32).toInt = 8 := by decide
  have t9 : (9 : Int32).toInt = 9 := by decide
  have t5 : (5 : Int32).toInt = 5 := by decide
  rcases (by omega : o = 3 ∨ o = 4 ∨ o = 5 ∨ o = 6 ∨ o = 7) with rfl | rfl | rfl | rfl | rfl
  · simp [w_X1_join_50, w_X1_join_49, w_X1_join_45, w_X1_join_40, w_X1_join_61, w_X1_join_60, w_X1_join_56, w_X1_join_51, w_X1_join_32, w_X1_join_36, w_X1_join_75, w_X1_join_74, w_X1_join_70, w_X1_join_66, w_X1_join_62, w_X1_join_0, wp_X1_join, kd, jn, t10]
  · simp [w_X1_join_50, w_X1_join_49, w_X1_join_45, w_X1_join_40, w_X1_join_61, w_X1_join_60, w_X1_join_56, w_X1_join_51, w_X1_join_32, w_X1_join_36, w_X1_join_75, w_X1_join_74, w_X1_join_70, w_X1_join_66, w_X1_join_62, w_X1_join_0, wp_X1_join, kd, jn, t11]
  · by_cases d : a < b
    · have d' : ¬ b ≤ a := Int32.not_le.mpr d
      simp [w_X1_join_50, w_X1_join_49, w_X1_join_45, w_X1_join_40, w_X1_join_61, w_X1_join_60, w_X1_join_56, w_X1_join_51, w_X1_join_32, w_X1_join_36, w_X1_join_75, w_X1_join_74, w_X1_join_70, w_X1_join_66, w_X1_join_62, w_X1_join_0, wp_X1_join, kd, jn, t8, d, d']
    · have d' : b ≤ a := Int32.not_lt.mp d
      simp [w_X1_join_50, w_X1_join_49, w_X1_join_45, w_X1_join_40, w_X1_join_61, w_X1_join_60, w_X1_join_56, w_X1_join_51, w_X1_join_32, w_X1_join_36, w_X1_join_75, w_X1_join_74, w_X1_join_70, w_X1_join_66, w_X1_join_62, w_X1_join_0, wp_X1_join, kd, jn, t8, d, d']
  · by_cases d : a = b
    · simp [w_X1_join_50, w_X1_join_49, w_X1_join_45, w_X1_join_40, w_X1_join_61, w_X1_join_60, w_X1_join_56, w_X1_join_51, w_X1_join_32, w_X1_join_36, w_X1_join_75, w_X1_join_74, w_X1_join_70, w_X1_join_66, w_X1_join_62, w_X1_join_0, wp_X1_join, kd, jn, t9, d]
    · simp [w_X1_join_50, w_X1_join_49, w_X1_join_45, w_X1_join_40, w_X1_join_61, w_X1_join_60, w_X1_join_56, w_X1_join_51, w_X1_join_32, w_X1_join_36, w_X1_join_75, w_X1_join_74, w_X1_join_70, w_X1_join_66, w_X1_join_62, w_X1_join_0, wp_X1_join, kd, jn, t9, d]
  · by_cases d : a = 0
    · simp [w_X1_join_50, w_X1_join_49, w_X1_join_45, w_X1_join_40, w_X1_join_61, w_X1_join_60, w_X1_join_56, w_X1_join_51, w_X1_join_32, w_X1_join_36, w_X1_join_75, w_X1_join_74, w_X1_join_70, w_X1_join_66, w_X1_join_62, w_X1_join_0, wp_X1_join, kd, jn, t5, d]
    · by_cases d2 : b = 0
      · simp [w_X1_join_50, w_X1_join_49, w_X1_join_45, w_X1_join_40, w_X1_join_61, w_X1_join_60, w_X1_join_56, w_X1_join_51, w_X1_join_32, w_X1_join_36, w_X1_join_75, w_X1_join_74, w_X1_join_70, w_X1_join_66, w_X1_join_62, w_X1_join_0, wp_X1_join, kd, jn, t5, d, d2]
      · simp [w_X1_join_50, w_X1_join_49, w_X1_join_45, w_X1_join_40, w_X1_join_61, w_X1_join_60, w_X1_join_56, w_X1_join_51, w_X1_join_32, w_X1_join_36, w_X1_join_75, w_X1_join_74, w_X1_join_70, w_X1_join_66, w_X1_join_62, w_X1_join_0, wp_X1_join, kd, jn, t5, d, d2]
/-- what the words of a text stand for as group g lands -/
def Vg (h : Hp) (g : Nat) (kn : Nat → Int32) : Prop := gI h 2 g 1 = kn 0 ∧ (gP h 2 g 4 = none → kn 1 = 0) ∧ (¬ gP h 2 g 4 = none → kn 1 = 1) ∧ gI h 2 g 8 / 60 = kn 2 ∧ (∃ s, gP h 2 g 0 = some (6, s) ∧ gI h 6 s 3 = kn 3 ∧ gI h 6 s 0 = kn 4) ∧ gI h 2 g 9 = kn 5
theorem Vg.kv {h h' : Hp} {g : Nat} {kn : Nat → Int32} (f : Kv h h') (v : Vg h g kn) : Vg h' g kn := by
  unfold Vg at v ⊢
  rw [(f.1 2 rfl).2.1, (f.1 2 rfl).2.2.2, (f.1 6 rfl).2.1]; exact v
theorem xValueOf {h : Hp} {g a : Nat} {kn : Nat → Int32} {Q : Int32 → Hp → Prop} (v : Vg h g kn) (ha : a < 6) (kk : Q (kn a) h) : wp_X2_valueOf g (nJ (13 + a)) h Q := by
  obtain ⟨v0, v1, v1', v2, ⟨s, vs, v3, v4⟩, v5⟩ := v
  rcases (by omega : a = 0 ∨ a = 1 ∨ a = 2 ∨ a = 3 ∨ a = 4 ∨ a = 5) with rfl | rfl | rfl | rfl | rfl | rfl
  · simp [w_X2_valueOf_36, w_X2_valueOf_53, w_X2_valueOf_52, w_X2_valueOf_48, w_X2_valueOf_41, w_X2_valueOf_54, w_X2_valueOf_62, w_X2_valueOf_70, w_X2_valueOf_78, w_X2_valueOf_0, wp_X2_valueOf, nJ_toInt (n := 13), v0, kk]
  · by_cases c : gP h 2 g 4 = none
    · simp [w_X2_valueOf_36, w_X2_valueOf_53, w_X2_valueOf_52, w_X2_valueOf_48, w_X2_valueOf_41, w_X2_valueOf_54, w_X2_valueOf_62, w_X2_valueOf_70, w_X2_valueOf_78, w_X2_valueOf_0, wp_X2_valueOf, nJ_toInt (n := 14), c]; rw [← v1 c]; exact kk
    · simp [w_X2_valueOf_36, w_X2_valueOf_53, w_X2_valueOf_52, w_X2_valueOf_48, w_X2_valueOf_41, w_X2_valueOf_54, w_X2_valueOf_62, w_X2_valueOf_70, w_X2_valueOf_78, w_X2_valueOf_0, wp_X2_valueOf, nJ_toInt (n := 14), c]; rw [← v1' c]; exact kk
  · simp [w_X2_valueOf_36, w_X2_valueOf_53, w_X2_valueOf_52, w_X2_valueOf_48, w_X2_valueOf_41, w_X2_valueOf_54, w_X2_valueOf_62, w_X2_valueOf_70, w_X2_valueOf_78, w_X2_valueOf_0, wp_X2_valueOf, nJ_toInt (n := 15), v2, kk]
  · simp [w_X2_valueOf_36, w_X2_valueOf_53, w_X2_valueOf_52, w_X2_valueOf_48, w_X2_valueOf_41, w_X2_valueOf_54, w_X2_valueOf_62, w_X2_valueOf_70, w_X2_valueOf_78, w_X2_valueOf_0, wp_X2_valueOf, nJ_toInt (n := 16), vs, v3, kk]
  · simp [w_X2_valueOf_36, w_X2_valueOf_53, w_X2_valueOf_52, w_X2_valueOf_48, w_X2_valueOf_41, w_X2_valueOf_54, w_X2_valueOf_62, w_X2_valueOf_70, w_X2_valueOf_78, w_X2_valueOf_0, wp_X2_valueOf, nJ_toInt (n := 17), vs, v4, kk]
  · simp [w_X2_valueOf_36, w_X2_valueOf_53, w_X2_valueOf_52, w_X2_valueOf_48, w_X2_valueOf_41, w_X2_valueOf_54, w_X2_valueOf_62, w_X2_valueOf_70, w_X2_valueOf_78, w_X2_valueOf_0, wp_X2_valueOf, nJ_toInt (n := 18), v5, kk]
theorem neg_nJ {a : Nat} (h : a < 2147483648) : ¬ (0 : Int32) < -(nJ a) := by
  rw [Int32.lt_iff_toInt_lt, Int32.toInt_neg, nJ_toInt h]
  have : (0 : Int32).toInt = 0 := rfl
  rw [this]
  rw [Int.bmod_eq_of_le (by omega) (by omega)]
  omega
theorem kd_xc {o a : Nat} (h3 : 3 ≤ o) (h7 : o ≤ 7) : -(xc (o, a)) = kd o := by
  rcases (by omega : o = 3 ∨ o = 4 ∨ o = 5 ∨ o = 6 ∨ o = 7) with rfl | rfl | rfl | rfl | rfl
  · show -(-10 : Int32) = 10; decide
  · show -(-11 : Int32) = 11; decide
  · show -(-8 : Int32) = 8; decide
  · show -(-9 : Int32) = 9; decide
  · show -(-5 : Int32) = 5; decide
theorem kd_0 {o : Nat} (h3 : 3 ≤ o) (h7 : o ≤ 7) : (0 : Int32) < kd o := by
  rcases (by omega : o = 3 ∨ o = 4 ∨ o = 5 ∨ o = 6 ∨ o = 7) with rfl | rfl | rfl | rfl | rfl <;> decide
theorem kd_13 {o : Nat} (h3 : 3 ≤ o) (h7 : o ≤ 7) : kd o < (13 : Int32) := by
  rcases (by omega : o = 3 ∨ o = 4 ∨ o = 5 ∨ o = 6 ∨ o = 7) with rfl | rfl | rfl | rfl | rfl <;> decide
theorem xc_2 {a : Nat} : -(xc (2, a)) = nJ (13 + a) := by
  show -(-(nJ (13 + a))) = nJ (13 + a)
  exact Int32.neg_neg
theorem xc_1 {a : Nat} : xc (1, a) = nJ a := rfl
theorem lt13 {a : Nat} (h : a < 6) : ¬ nJ (13 + a) < (13 : Int32) := fun z => by
  have := (nJ_lt (a := 13 + a) (b := 13) (by omega) (by omega)).mp z; omega
theorem gt0 {a : Nat} (h : a < 100000) (h0 : 0 < a) : (0 : Int32) < nJ a := (nJ_lt (a := 0) (b := a) (by omega) (by omega)).mpr (by omega)
theorem xValL {x l g : Nat} {b : Int32} {kn : Nat → Int32} {Q : Int32 → Hp → Prop} (hl : l < 16) : ∀ {cs : CodeT} {h : Hp} {st : List Int32} {p : Nat}, okC cs st.length → st.length ≤ 16 → SA (gI h 30 x) st → gI h 1 x 4 = nJ st.length → CodAt h x p cs → gI h 29 x l = nJ (p + cs.length) → p + cs.length ≤ 600 → Vg h g kn → (∀ h', Kv h h' → Q ((ev kn cs st).headD 0) h') → w_X1_valueOfLine_25 Q (cs.length + 1) x (nJ l) (some (2, g)) b (nJ p) h
  | [], h, st, p, ok, hs, sa, he, hc, hn, h6, hv, kk => by
    have ok : st.length = 1 := ok
    obtain ⟨v, rfl⟩ : ∃ v, st = [v] := by
      match st, ok with
      | [v], _ => exact ⟨v, rfl⟩
    refine ⟨(vp_nJ (by omega)).mpr hl, fun _ => ?_, fun c => absurd ?_ c⟩
    · have h1 : gI h 30 x 0 = v := sa.1
      have h2 := kk _ ((Kv.refl h).w4 (i := x) (v := nJ 0))
      simp only [w_X1_valueOfLine_120, w_X1_valueOfLine_116, w_X1_valueOfLine_110, w_X1_valueOfLine_107, w_X1_valueOfLine_95, w_X1_valueOfLine_89, w_X1_valueOfLine_85, w_X1_valueOfLine_82, w_X1_valueOfLine_79, w_X1_valueOfLine_72, w_X1_valueOfLine_65, w_X1_valueOfLine_62, w_X1_valueOfLine_51, w_X1_valueOfLine_36, w_X1_valueOfLine_21, w_X1_valueOfLine_13, w_X1_valueOfLine_9, w_X1_valueOfLine_0, wp_X1_valueOfLine]
      rw [xpop (k := 0) he (by omega), h1]
      exact h2
    · rw [tN_nJ (by omega), hn]; exact Int32.le_refl _
  | (o, a) :: cs, h, st, p, ok, hs, sa, he, hc, hn, h6, hv, kk => by
    simp only [List.length_cons] at hn h6
    have hp6 : p < 600 := by omega
    have hn' : gI h 29 x l = nJ (p + 1 + cs.length) := by rw [hn]; congr 1; omega
    have key : ∀ (h2 : Hp) (st2 : List Int32), Kv h h2 → okC cs st2.length → st2.length ≤ 16 → SA (gI h2 30 x) st2 → gI h2 1 x 4 = nJ st2.length → ev kn ((o, a) :: cs) st = ev kn cs st2 → w_X1_valueOfLine_25 Q (cs.length + 1) x (nJ l) (some (2, g)) b (nJ (p + 1)) h2 := by
      intro h2 st2 f ok2 hs2 sa2 he2 hev
      refine xValL hl (cs := cs) (h := h2) (st := st2) (p := p + 1) ok2 hs2 sa2 he2 (CodAt.fr (f.1 28 rfl).2.1 hc.2) (by rw [(f.1 29 rfl).2.1]; exact hn') (by omega) (hv.kv f) fun h' f' => ?_
      have := kk h' (f.trans f')
      rw [hev] at this; exact this
    refine ⟨(vp_nJ (by omega)).mpr hl, fun c => absurd c ?_, fun _ => ?_⟩
    · rw [tN_nJ (by omega), hn, nJ_le (by omega) (by omega)]; omega
    · have hcode : gI h 28 x p = xc (o, a) := hc.1
      have vin : vp_in (nJ p) 600 := (vp_nJ (by omega)).mpr hp6
      have tp : tN (nJ p) = p := tN_nJ (by omega)
      rcases ok with ⟨rfl, ha, hlt, ok⟩ | ⟨rfl, ha, hlt, ok⟩ | ⟨h3, h7, h2k, ok⟩
      · have hx : xc (1, a) = nJ a := xc_1
        have := key (wI (wI h 30 x st.length (nJ a)) 1 x 4 (nJ (st.length + 1))) (nJ a :: st) ((Kv.refl h).w30.w4) ok (by simp; omega) ⟨by simp [gI_wI], SA_up (fun j hj => by simp [gI_wI]; omega) sa⟩ (by simp [gI_wI]) (by simp [ev])
        simp only [w_X1_valueOfLine_120, w_X1_valueOfLine_116, w_X1_valueOfLine_110, w_X1_valueOfLine_107, w_X1_valueOfLine_95, w_X1_valueOfLine_89, w_X1_valueOfLine_85, w_X1_valueOfLine_82, w_X1_valueOfLine_79, w_X1_valueOfLine_72, w_X1_valueOfLine_65, w_X1_valueOfLine_62, w_X1_valueOfLine_51, w_X1_valueOfLine_36, w_X1_valueOfLine_21, w_X1_valueOfLine_13, w_X1_valueOfLine_9, w_X1_valueOfLine_0, wp_X1_valueOfLine, vin, tp, hcode, hx, neg_nJ (a := a) (by omega), true_and, false_implies, not_false_eq_true, true_implies, nJ_succ]
        rw [xpush he hlt]
        exact this
      · have hx : -(xc (2, a)) = nJ (13 + a) := xc_2
        have c0 : (0 : Int32) < nJ (13 + a) := gt0 (by omega) (by omega)
        have c13 : ¬ nJ (13 + a) < (13 : Int32) := lt13 ha
        have := key (wI (wI h 30 x st.length (kn a)) 1 x 4 (nJ (st.length + 1))) (kn a :: st) ((Kv.refl h).w30.w4) ok (by simp; omega) ⟨by simp [gI_wI], SA_up (fun j hj => by simp [gI_wI]; omega) sa⟩ (by simp [gI_wI]) (by simp [ev])
        simp only [w_X1_valueOfLine_120, w_X1_valueOfLine_116, w_X1_valueOfLine_110, w_X1_valueOfLine_107, w_X1_valueOfLine_95, w_X1_valueOfLine_89, w_X1_valueOfLine_85, w_X1_valueOfLine_82, w_X1_valueOfLine_79, w_X1_valueOfLine_72, w_X1_valueOfLine_65, w_X1_valueOfLine_62, w_X1_valueOfLine_51, w_X1_valueOfLine_36, w_X1_valueOfLine_21, w_X1_valueOfLine_13, w_X1_valueOfLine_9, w_X1_valueOfLine_0, wp_X1_valueOfLine, vin, tp, hcode, hx, c0, c13, true_and, false_implies, not_true_eq_false, not_false_eq_true, true_implies, and_true, nJ_succ]
        refine ⟨g, rfl, xValueOf hv ha ?_⟩
        rw [xpush he hlt]
        exact this
      · match st, sa, h2k, hs, ok, kk, he, key with
        | bb :: xx :: r, sa, h2k, hs, ok, kk, he, key =>
          obtain ⟨s1, s2, s3⟩ := sa
          simp only [List.length_cons] at s1 s2 ok hs he
          have hx : -(xc (o, a)) = kd o := kd_xc h3 h7
          have c0 : (0 : Int32) < kd o := kd_0 h3 h7
          have c13 : kd o < (13 : Int32) := kd_13 h3 h7
          have := key (wI (wI (wI (wI h 1 x 4 (nJ (r.length + 1))) 1 x 4 (nJ r.length)) 30 x r.length (jn o xx bb)) 1 x 4 (nJ (r.length + 1))) (jn o xx bb :: r) ((Kv.refl h).w4.w4.w30.w4) (by simpa using ok) (by simp; omega) ⟨by simp [gI_wI], SA_up (fun j hj => by simp [gI_wI]; omega) s3⟩ (by simp [gI_wI]) (by rw [ev, if_neg (by omega), if_neg (by omega)])
          simp only [w_X1_valueOfLine_120, w_X1_valueOfLine_116, w_X1_valueOfLine_110, w_X1_valueOfLine_107, w_X1_valueOfLine_95, w_X1_valueOfLine_89, w_X1_valueOfLine_85, w_X1_valueOfLine_82, w_X1_valueOfLine_79, w_X1_valueOfLine_72, w_X1_valueOfLine_65, w_X1_valueOfLine_62, w_X1_valueOfLine_51, w_X1_valueOfLine_36, w_X1_valueOfLine_21, w_X1_valueOfLine_13, w_X1_valueOfLine_9, w_X1_valueOfLine_0, wp_X1_valueOfLine, vin, tp, hcode, hx, c0, c13, true_and, false_implies, not_true_eq_false, not_false_eq_true, true_implies, and_true, nJ_succ]
          rw [xpop he (by omega), s1]
          rw [xpop (k := r.length) (by simp [gI_wI]) (by omega)]
          rw [show gI (wI h 1 x 4 (nJ (r.length + 1))) 30 x r.length = xx by simp [gI_wI, s2]]
          rw [xjoin h3 h7, xpush (k := r.length) (by simp [gI_wI]) (by omega)]
          exact this
theorem xFeeL {T : TextT} {x g : Nat} {kn : Nat → Int32} {Q : Int32 → Hp → Prop} (h16 : T.length ≤ 16) : ∀ (j l : Nat) (h : Hp), l + j = T.length → gP h 0 0 3 = some (1, x) → gI h 1 x 6 = nJ T.length → (∀ l y, T[l]? = some y → gI h 31 x l = y.1 ∧ okC y.2 0 ∧ ∃ s, (l = 0 → s = 0) ∧ (0 < l → gI h 29 x (l - 1) = nJ s) ∧ gI h 29 x l = nJ (s + y.2.length) ∧ s + y.2.length ≤ 600 ∧ CodAt h x s y.2) → Vg h g kn → (∀ h', Kv h h' → Q (feeF kn (T.drop l)) h') → w_X0_feeOf_2 Q (j + 1) (some (2, g)) (nJ l) h := by
  intro j
  induction j with
  | zero =>
    intro l h e e1 e2 e5 hv kk
    obtain rfl : l = T.length := by omega
    have kk := kk h (Kv.refl h)
    rw [List.drop_length] at kk
    refine ⟨x, e1, fun _ => kk, fun c => absurd ?_ c⟩
    rw [e2]; exact Int32.le_refl _
  | succ j ih =>
    intro l h e e1 e2 e5 hv kk
    have hl : l < T.length := by omega
    obtain ⟨a1, a2, s, a3, a4, a5, a6, a7⟩ := e5 l T[l] (List.getElem?_eq_getElem hl)
    rw [List.drop_eq_getElem_cons hl] at kk
    refine ⟨x, e1, fun c => absurd c ?_, fun _ => ⟨x, e1, ?_⟩⟩
    · rw [e2, nJ_le (by omega) (by omega)]; omega
    · have next : ∀ h', Kv h h' → (fun r2 h2 => w_X0_feeOf_22 (w_X0_feeOf_2 Q (j + 1)) Q (some (2, g)) (nJ l) r2 h2) ((ev kn T[l].2 []).headD 0) h' := by
        intro h' f
        refine ⟨fun c => ?_, fun c => ?_⟩
        · show w_X0_feeOf_2 Q (j + 1) (some (2, g)) (nJ l + 1) h'
          rw [nJ_succ]
          refine ih (l + 1) h' (by omega) ?_ ?_ ?_ (hv.kv f) ?_
          · rw [(f.1 0 rfl).2.2.2]; exact e1
          · exact (f.2.1 x 6 (by omega)).trans e2
          · intro l y hy
            obtain ⟨a1, a2, s, a3, a4, a5, a6, a7⟩ := e5 l y hy
            exact ⟨by rw [(f.1 31 rfl).2.1]; exact a1, a2, s, a3, fun z => by rw [(f.1 29 rfl).2.1]; exact a4 z, by rw [(f.1 29 rfl).2.1]; exact a5, a6, CodAt.fr (f.1 28 rfl).2.1 a7⟩
          · intro h2 f2
            have := kk h2 (f.trans f2)
            rw [feeF, if_pos c] at this; exact this
        · refine ⟨x, by rw [(f.1 0 rfl).2.2.2]; exact e1, (vp_nJ (by omega)).mpr (by omega), ?_⟩
          rw [tN_nJ (by omega), (f.1 31 rfl).2.1, a1]
          have := kk h' f
          rw [feeF, if_neg c] at this; exact this
      have fw : Kv h (wI h 1 x 4 0) := (Kv.refl h).w4
      have go : w_X1_valueOfLine_25 (fun r2 h2 => w_X0_feeOf_22 (w_X0_feeOf_2 Q (j + 1)) Q (some (2, g)) (nJ l) r2 h2) (T[l].2.length + 1) x (nJ l) (some (2, g)) (nJ s) (nJ s) (wI h 1 x 4 0) :=
        xValL (kn := kn) (st := []) (by omega) a2 (by simp) trivial (by simp [gI_wI, nJ]) (CodAt.fr (fw.1 28 rfl).2.1 a7) (by rw [(fw.1 29 rfl).2.1]; exact a5) a6 (hv.kv fw) fun h' f => next h' (fw.trans f)
      refine ⟨fun c => ⟨?_, ?_⟩, fun c => ?_⟩
      · have h0 : l ≠ 0 := fun z => c (by rw [z]; rfl)
        rw [show nJ l - 1 = nJ (l - 1) by rw [← nJ_pred (l - 1), Nat.sub_add_cancel (by omega)], vp_nJ (by omega)]; omega
      · have h0 : l ≠ 0 := fun z => c (by rw [z]; rfl)
        refine ⟨T[l].2.length + 1, ?_⟩
        rw [show nJ l - 1 = nJ (l - 1) by rw [← nJ_pred (l - 1), Nat.sub_add_cancel (by omega)], tN_nJ (by omega), (fw.1 29 rfl).2.1, a4 (by omega)]
        exact go
      · have h0 : l = 0 := (nJ_eq (a := l) (b := 0) (by omega) (by omega)).mp c
        refine ⟨T[l].2.length + 1, ?_⟩
        have : s = 0 := a3 h0
        rw [this] at go
        exact go
theorem xFee {h : Hp} {T : TextT} {g : Nat} {kn : Nat → Int32} {Q : Int32 → Hp → Prop} (t : TextX h T) (hv : Vg h g kn) (kk : ∀ h', Kv h h' → Q (feeF kn T) h') : wp_X0_feeOf (some (2, g)) h Q := by
  obtain ⟨x, e1, e2, e3, e4, e5⟩ := t
  exact ⟨T.length + 1, xFeeL e4 T.length 0 h (by omega) e1 e3 e5 hv kk⟩
