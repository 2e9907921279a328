/-! the tokens of the program's own reading -/
def Tp (h : Hp) (c : Nat → Nat) (n : Nat) : Prop := gI h 7 0 1 = nJ n ∧ n ≤ 600 ∧ ∀ i, i < n → gI h 32 0 i = nJ (c i) ∧ c i ≤ 126
theorem nlt {x y : Nat} (hx : x < 1000000) (hy : y < 1000000) : nJ x < nJ y ↔ x < y := nJ_lt (by omega) (by omega)
theorem neq {x y : Nat} (hx : x < 1000000) (hy : y < 1000000) : nJ x = nJ y ↔ x = y := nJ_eq (by omega) (by omega)
theorem nle {x y : Nat} (hx : x < 1000000) (hy : y < 1000000) : nJ x ≤ nJ y ↔ x ≤ y := nJ_le (by omega) (by omega)
theorem xLe {h : Hp} {x : Nat} {Q : Int32 → Hp → Prop} (hx : x ≤ 126) (kk : Q (bI (isLe x = true)) h) : wp_X9_isLetter (nJ x) h Q := by
  have a : nJ x < 97 ↔ x < 97 := nlt (y := 97) (by omega) (by omega)
  have b : (122 : Int32) < nJ x ↔ 122 < x := nlt (x := 122) (by omega) (by omega)
  simp only [w_X9_isLetter_17, w_X9_isLetter_16, w_X9_isLetter_12, w_X9_isLetter_6, w_X9_isLetter_0, wp_X9_isLetter, a, b]
  unfold isLe at kk
  refine ⟨fun z => ?_, fun z => ⟨fun z2 => ?_, fun z2 => ?_⟩⟩
  · rw [bI_n (fun y => by have := of_decide_eq_true y; omega)] at kk; exact ⟨Or.inl trivial, kk⟩
  · rw [bI_n (fun y => by have := of_decide_eq_true y; omega)] at kk; exact ⟨Or.inl trivial, kk⟩
  · rw [bI_c (decide_eq_true (by omega))] at kk; exact ⟨Or.inr trivial, kk⟩
theorem xDi {h : Hp} {x : Nat} {Q : Int32 → Hp → Prop} (hx : x ≤ 126) (kk : Q (bI (isDi x = true)) h) : wp_X9_isDigit (nJ x) h Q := by
  have a : nJ x < 48 ↔ x < 48 := nlt (y := 48) (by omega) (by omega)
  have b : (57 : Int32) < nJ x ↔ 57 < x := nlt (x := 57) (by omega) (by omega)
  simp only [w_X9_isDigit_17, w_X9_isDigit_16, w_X9_isDigit_12, w_X9_isDigit_6, w_X9_isDigit_0, wp_X9_isDigit, a, b]
  unfold isDi at kk
  refine ⟨fun z => ?_, fun z => ⟨fun z2 => ?_, fun z2 => ?_⟩⟩
  · rw [bI_n (fun y => by have := of_decide_eq_true y; omega)] at kk; exact ⟨Or.inl trivial, kk⟩
  · rw [bI_n (fun y => by have := of_decide_eq_true y; omega)] at kk; exact ⟨Or.inl trivial, kk⟩
  · rw [bI_c (decide_eq_true (by omega))] at kk; exact ⟨Or.inr trivial, kk⟩
theorem mLe {h : Hp} {x : Nat} {Q : Int32 → Hp → Prop} (hx : x ≤ 126) (kk : Q (bI (isLe x = true)) h) : wp_X12_isLetter (nJ x) h Q := by
  have a : nJ x < 97 ↔ x < 97 := nlt (y := 97) (by omega) (by omega)
  have b : (122 : Int32) < nJ x ↔ 122 < x := nlt (x := 122) (by omega) (by omega)
  simp only [w_X12_isLetter_17, w_X12_isLetter_16, w_X12_isLetter_12, w_X12_isLetter_6, w_X12_isLetter_0, wp_X12_isLetter, a, b]
  unfold isLe at kk
  refine ⟨fun z => ?_, fun z => ⟨fun z2 => ?_, fun z2 => ?_⟩⟩
  · rw [bI_n (fun y => by have := of_decide_eq_true y; omega)] at kk; exact ⟨Or.inl trivial, kk⟩
  · rw [bI_n (fun y => by have := of_decide_eq_true y; omega)] at kk; exact ⟨Or.inl trivial, kk⟩
  · rw [bI_c (decide_eq_true (by omega))] at kk; exact ⟨Or.inr trivial, kk⟩
theorem mDi {h : Hp} {x : Nat} {Q : Int32 → Hp → Prop} (hx : x ≤ 126) (kk : Q (bI (isDi x = true)) h) : wp_X12_isDigit (nJ x) h Q := by
  have a : nJ x < 48 ↔ x < 48 := nlt (y := 48) (by omega) (by omega)
  have b : (57 : Int32) < nJ x ↔ 57 < x := nlt (x := 57) (by omega) (by omega)
  simp only [w_X12_isDigit_17, w_X12_isDigit_16, w_X12_isDigit_12, w_X12_isDigit_6, w_X12_isDigit_0, wp_X12_isDigit, a, b]
  unfold isDi at kk
  refine ⟨fun z => ?_, fun z => ⟨fun z2 => ?_, fun z2 => ?_⟩⟩
  · rw [bI_n (fun y => by have := of_decide_eq_true y; omega)] at kk; exact ⟨Or.inl trivial, kk⟩
  · rw [bI_n (fun y => by have := of_decide_eq_true y; omega)] at kk; exact ⟨Or.inl trivial, kk⟩
  · rw [bI_c (decide_eq_true (by omega))] at kk; exact ⟨Or.inr trivial, kk⟩
theorem xBl {h : Hp} {x : Nat} {Q : Int32 → Hp → Prop} (hx : x ≤ 126) (kk : Q (bI (isBl x = true)) h) : wp_X9_isBlank (nJ x) h Q := by
  have a : nJ x = 10 ↔ x = 10 := neq (y := 10) (by omega) (by omega)
  have b : nJ x = 32 ↔ x = 32 := neq (y := 32) (by omega) (by omega)
  simp only [w_X9_isBlank_17, w_X9_isBlank_12, w_X9_isBlank_16, w_X9_isBlank_6, w_X9_isBlank_0, wp_X9_isBlank, a, b]
  unfold isBl at kk
  refine ⟨fun z => ?_, fun z => ⟨fun z2 => ?_, fun z2 => ?_⟩⟩
  · rw [bI_c (decide_eq_true (by omega))] at kk; exact ⟨Or.inr trivial, kk⟩
  · rw [bI_n (fun y => by have := of_decide_eq_true y; omega)] at kk; exact ⟨Or.inl trivial, kk⟩
  · rw [bI_c (decide_eq_true (by omega))] at kk; exact ⟨Or.inr trivial, kk⟩
theorem xMark {h : Hp} {x : Nat} {Q : Int32 → Hp → Prop} (hx : x ≤ 126) (kk : Q (nJ (mkK x)) h) : wp_X9_markKind (nJ x) h Q := by
  have e : (nJ x).toInt = x := nJ_toInt (by omega)
  simp only [w_X9_markKind_104, w_X9_markKind_107, w_X9_markKind_125, w_X9_markKind_116, w_X9_markKind_119, w_X9_markKind_122, w_X9_markKind_110, w_X9_markKind_113, w_X9_markKind_0, wp_X9_markKind, e]
  have z0 : (x < 40 ∨ 61 < x ∨ x = 42 ∨ x = 44 ∨ (46 ≤ x ∧ x ≤ 58)) → Q 0 h := fun z => by
    have : mkK x = 0 := by
      unfold mkK
      rw [if_neg (by omega), if_neg (by omega), if_neg (by omega), if_neg (by omega), if_neg (by omega), if_neg (by omega), if_neg (by omega)]
    rw [this] at kk; exact kk
  have zs : ∀ v k : Nat, x = v → mkK v = k → Q (nJ k) h := fun v k z1 z2 => by rw [← z2, ← z1]; exact kk
  repeat' apply And.intro
  all_goals intro z
  all_goals first
    | exact z0 (by omega)
    | exact zs 40 6 (by omega) rfl
    | exact zs 41 7 (by omega) rfl
    | exact zs 43 10 (by omega) rfl
    | exact zs 45 11 (by omega) rfl
    | exact zs 59 12 (by omega) rfl
    | exact zs 60 8 (by omega) rfl
    | exact zs 61 9 (by omega) rfl
theorem str_n : ∀ w, w < 9 → nI (strN.getD w 0) = nJ (wd w).length ∧ strN.getD w 0 = (wd w).length := by decide
theorem str_c : ∀ w, w < 9 → ∀ j, j < 6 → j < (wd w).length → strCh w j = nJ ((wd w).getD j 0) := by decide
theorem wd_len : ∀ w, w < 9 → (wd w).length ≤ 6 := by decide
theorem wd_126 : ∀ w, w < 9 → ∀ j, j < 6 → (wd w).getD j 0 ≤ 126 := by decide
section
variable {h h' : Hp} {c : Nat → Nat} {n : Nat}
theorem seg_get {k l j : Nat} (hj : j < l) : (seg c k l).getD j 0 = c (k + j) := by
  unfold seg; simp [List.getD_eq_getElem?_getD, List.getElem?_range, hj]
theorem seg_eq {k l w : Nat} (hl : (wd w).length = l) (e : ∀ j, j < l → (wd w).getD j 0 = c (k + j)) : seg c k l = wd w := by
  apply List.ext_getElem?
  intro j
  by_cases y : j < l
  · have h1 := e j y
    rw [List.getD_eq_getElem?_getD, List.getElem?_eq_getElem (by omega)] at h1
    have h2 := seg_get (c := c) (k := k) y
    rw [List.getD_eq_getElem?_getD, List.getElem?_eq_getElem (by rw [seg_len]; omega)] at h2
    rw [List.getElem?_eq_getElem (by rw [seg_len]; omega), List.getElem?_eq_getElem (by omega)]
    simp only [Option.getD_some] at h1 h2
    rw [h1, h2]
  · rw [List.getElem?_eq_none (by rw [seg_len]; omega), List.getElem?_eq_none (by omega)]
theorem xHas {w k l : Nat} {Q : Int32 → Hp → Prop} (t : Tp h c n) (hw : w < 9) (hk : k + l ≤ n) (kk : Q (bI (seg c k l = wd w)) h) : wp_X7_has (some (60, w)) (nJ k) (nJ l) h Q := by
  obtain ⟨t1, t2, t3⟩ := t
  obtain ⟨s1, s2⟩ := str_n w hw
  have w6 := wd_len w hw
  refine ⟨w, rfl, by omega, fun z => ?_, fun z => ⟨fun z2 => ?_, fun z2 => ?_⟩⟩
  · rw [s1, neq (by omega) (by omega)] at z
    rw [bI_n (fun y => z (by rw [← y, seg_len]))] at kk
    exact kk
  · rw [s1, neq (by omega) (by omega)] at z
    suffices H : ∀ j i, i + j = l → (∀ q, q < i → (wd w).getD q 0 = c (k + q)) → w_X7_has_23 Q (j + 1) (some (60, w)) (nJ k) (nJ l) (nJ i) h from ⟨l + 1, H l 0 (by omega) (fun q hq => by omega)⟩
    intro j
    induction j with
    | zero =>
      intro i e hp
      obtain rfl : i = l := by omega
      refine ⟨fun _ => ?_, fun y => absurd (Int32.le_refl _) y⟩
      rw [bI_c (seg_eq z hp)] at kk; exact kk
    | succ j ih =>
      intro i e hp
      have v : vp_in (nJ k + nJ i) 600 := by rw [nJ_add, vp_nJ (by omega)]; omega
      refine ⟨fun y => absurd y ?_, fun _ => ⟨w, rfl, by omega, ?_, v, fun y => ?_, fun y => ?_⟩⟩
      · rw [nle (by omega) (by omega)]; omega
      · rw [vp_nJ (by omega), s2]; omega
      · rw [tN_nJ (by omega), nJ_add, tN_nJ (by omega), str_c w hw i (by omega) (by omega), (t3 (k + i) (by omega)).1, neq (by have := wd_126 w hw i (by omega); omega) (by have := (t3 (k + i) (by omega)).2; omega)] at y
        show w_X7_has_23 Q (j + 1) (some (60, w)) (nJ k) (nJ l) (nJ i + 1) h
        rw [nJ_succ]
        refine ih (i + 1) (by omega) fun q hq => ?_
        by_cases y2 : q = i
        · rw [y2]; exact y
        · exact hp q (by omega)
      · rw [tN_nJ (by omega), nJ_add, tN_nJ (by omega), str_c w hw i (by omega) (by omega), (t3 (k + i) (by omega)).1, neq (by have := wd_126 w hw i (by omega); omega) (by have := (t3 (k + i) (by omega)).2; omega)] at y
        rw [bI_n (fun x => y (by rw [← x, seg_get (by omega)]))] at kk
        exact kk
  · rw [t1, nJ_add, nle (by omega) (by omega)] at z2
    exact absurd hk z2
theorem xWord {k l : Nat} {Q : Int32 → Hp → Prop} (t : Tp h c n) (hk : k + l ≤ n) (kk : Q (nJ (wk (seg c k l))) h) : wp_X9_wordKind (nJ k) (nJ l) h Q := by
  unfold wk at kk
  refine xHas t (by omega) hk ⟨fun z0 => ?_, fun z => ?_⟩
  rotate_left
  · rw [bI_0] at z; rw [if_pos (Decidable.not_not.mp z)] at kk; exact kk
  rw [bI_0] at z0; rw [if_neg z0] at kk
  refine xHas t (by omega) hk ⟨fun z1 => ?_, fun z => ?_⟩
  rotate_left
  · rw [bI_0] at z; rw [if_pos (Decidable.not_not.mp z)] at kk; exact kk
  rw [bI_0] at z1; rw [if_neg z1] at kk
  refine xHas t (by omega) hk ⟨fun z2 => ?_, fun z => ?_⟩
  rotate_left
  · rw [bI_0] at z; rw [if_pos (Decidable.not_not.mp z)] at kk; exact kk
  rw [bI_0] at z2; rw [if_neg z2] at kk
  refine xHas t (by omega) hk ⟨fun z3 => ?_, fun z => ?_⟩
  rotate_left
  · rw [bI_0] at z; rw [if_pos (Decidable.not_not.mp z)] at kk; exact kk
  rw [bI_0] at z3; rw [if_neg z3] at kk
  refine xHas t (by omega) hk ⟨fun z4 => ?_, fun z => ?_⟩
  rotate_left
  · rw [bI_0] at z; rw [if_pos (Decidable.not_not.mp z)] at kk; exact kk
  rw [bI_0] at z4; rw [if_neg z4] at kk
  refine xHas t (by omega) hk ⟨fun z5 => ?_, fun z => ?_⟩
  rotate_left
  · rw [bI_0] at z; rw [if_pos (Decidable.not_not.mp z)] at kk; exact kk
  rw [bI_0] at z5; rw [if_neg z5] at kk
  refine xHas t (by omega) hk ⟨fun z6 => ?_, fun z => ?_⟩
  rotate_left
  · rw [bI_0] at z; rw [if_pos (Decidable.not_not.mp z)] at kk; exact kk
  rw [bI_0] at z6; rw [if_neg z6] at kk
  refine xHas t (by omega) hk ⟨fun z7 => ?_, fun z => ?_⟩
  rotate_left
  · rw [bI_0] at z; rw [if_pos (Decidable.not_not.mp z)] at kk; exact kk
  rw [bI_0] at z7; rw [if_neg z7] at kk
  refine xHas t (by omega) hk ⟨fun z8 => ?_, fun z => ?_⟩
  rotate_left
  · rw [bI_0] at z; rw [if_pos (Decidable.not_not.mp z)] at kk; exact kk
  rw [bI_0] at z8; rw [if_neg z8] at kk
  exact kk
def Ax (TS : List Tk) (h : Hp) : Prop := gI h 9 0 3 = nJ TS.length ∧ ∀ i t, TS[i]? = some t → gI h 33 0 i = nJ t.1 ∧ gI h 34 0 i = nJ t.2.1 ∧ gI h 35 0 i = nJ t.2.2
def fT (k : Nat) : Bool := !(k == 9 || (k == 33 || (k == 34 || k == 35)))
theorem Tp.fr {p : Nat → Bool} (t : Tp h c n) (f : Fr p h h') (h7 : p 7 = true) (h32 : p 32 = true) : Tp h' c n := by
  unfold Tp at t ⊢; rw [(f 7 h7).2.1, (f 32 h32).2.1]; exact t
theorem xPutT {TS : List Tk} {a b v : Nat} {Q : Hp → Prop} (x : Ax TS h) (hl : TS.length ≤ 600) (kk : ∀ h', Ax (TS ++ [(a, b, v)]) h' → Fr fT h h' → gC h' = gC h → Q h') : wp_X9_put (nJ a) (nJ b) (nJ v) h Q := by
  obtain ⟨x1, x2⟩ := x
  have vv : vp_in (nJ TS.length) 601 := (vp_nJ (by omega)).mpr (by omega)
  have tt : tN (nJ TS.length) = TS.length := tN_nJ (by omega)
  have l6 : ¬ (600 : Int32) < nJ TS.length := fun z => by
    have := (nlt (x := 600) (by omega) (by omega)).mp z; omega
  have := kk (wI (wI (wI (wI h 33 0 TS.length (nJ a)) 34 0 TS.length (nJ b)) 35 0 TS.length (nJ v)) 9 0 3 (nJ (TS.length + 1))) ⟨by simp [gI_wI], fun i t hi => ?_⟩ (((((Fr.refl h).wI rfl).wI rfl).wI rfl).wI rfl) rfl
  · simp only [w_X9_put_50, w_X9_put_29, w_X9_put_10, w_X9_put_0, wp_X9_put, x1, l6, gI_wI]
    simp [x1, tt, vv, nJ_succ]
    exact this
  · by_cases y : i < TS.length
    · rw [List.getElem?_append_left y] at hi
      have := x2 i t hi
      have : i ≠ TS.length := by omega
      simp [gI_wI, this]
      exact x2 i t hi
    · have hi2 := (List.getElem?_eq_some_iff.mp hi).1
      simp at hi2
      have y2 : i = TS.length := by omega
      subst y2
      simp at hi
      subst hi
      simp [gI_wI]
theorem xToken {TS : List Tk} {k : Nat} {Q : Int32 → Hp → Prop} (t : Tp h c n) (x : Ax TS h) (hl : TS.length ≤ 600) (hk : k < n) (kk : ∀ h', Ax (TS ++ [(tokK c n k, k, tokV c n k)]) h' → Fr fT h h' → gC h' = gC h → Q (nJ (tokL c n k)) h') : wp_X9_takeToken (nJ k) h Q := by
  have t' := t
  obtain ⟨t1, t2, t3⟩ := t
  have vk : vp_in (nJ k) 600 := (vp_nJ (by omega)).mpr (by omega)
  have tk : tN (nJ k) = k := tN_nJ (by omega)
  obtain ⟨ck, bk⟩ := t3 k hk
  refine ⟨vk, ?_⟩
  rw [tk, ck]
  refine xLe bk ⟨fun z => ?_, fun z => ?_⟩
  · rw [bI_0] at z
    refine ⟨vk, ?_⟩
    rw [tk, ck]
    refine xDi bk ⟨fun z2 => ?_, fun z2 => ?_⟩
    · rw [bI_0] at z2
      refine ⟨vk, ?_⟩
      rw [tk, ck]
      refine xMark bk ?_
      refine xPutT (v := 0) x hl fun h' x' f' c' => ?_
      unfold tokK tokV tokL at kk
      rw [if_neg z, if_neg z2, if_neg z, if_neg z2, if_neg z, if_neg z2] at kk
      exact kk h' x' f' c'
    · rw [bI_0] at z2
      have z2 := Decidable.not_not.mp z2
      unfold tokK tokV tokL at kk
      rw [if_neg z, if_pos z2, if_neg z, if_pos z2, if_neg z, if_pos z2] at kk
      refine ⟨vk, ?_⟩
      rw [tk, ck]
      have e1 : nJ (c k) - 48 = nJ (dv (seg c k 1)) := by
        have b48 := of_decide_eq_true z2
        show nJ (c k) - nJ 48 = nJ (10 * 0 + (c (k + 0) - 48))
        rw [Nat.add_zero, show c k = (c k - 48) + 48 by omega, ← nJ_add, Int32.add_sub_cancel]
        congr 1; omega
      have go : ∀ (j l : Nat), k + l + j = n → 0 < l → l + rn isDi c j (k + l) = rn isDi c (n - k) k → w_X9_takeToken_92 Q (j + 1) (nJ k) (nJ l) (nJ (dv (seg c k l))) h := by
        have fin : ∀ l, l = rn isDi c (n - k) k → 0 < l → w_X9_takeToken_141 Q (nJ k) (nJ l) (nJ (dv (seg c k l))) h := fun l hl' _ => by
          rw [← hl'] at kk
          have l4 : nJ l ≤ 4 ↔ l ≤ 4 := nle (y := 4) (by have := rn_le (p := isDi) (c := c) (n - k) k; omega) (by omega)
          refine ⟨fun y => ?_, fun y => ?_⟩
          · rw [if_neg (by have := l4.mp y; omega)] at kk
            exact xPutT (a := 2) x hl fun h' x' f' c' => kk h' x' f' c'
          · rw [if_pos (by have : ¬ l ≤ 4 := fun q => y (l4.mpr q); omega)] at kk
            exact xPutT (a := 0) x hl fun h' x' f' c' => kk h' x' f' c'
        intro j
        induction j with
        | zero =>
          intro l e hl0 er
          rw [rn] at er
          refine ⟨fun _ => fin l (by omega) hl0, fun y => absurd ?_ y⟩
          rw [t1, nJ_add, nle (by omega) (by omega)]; omega
        | succ j ih =>
          intro l e hl0 er
          obtain ⟨cl, bl⟩ := t3 (k + l) (by omega)
          refine ⟨fun y => absurd y ?_, fun _ => ⟨?_, ?_⟩⟩
          · rw [t1, nJ_add, nle (by omega) (by omega)]; omega
          · rw [nJ_add, vp_nJ (by omega)]; omega
          · rw [nJ_add, tN_nJ (by omega), cl]
            rw [rn] at er
            refine xDi bl ⟨fun y => ?_, fun y => ?_⟩
            · rw [bI_0] at y
              rw [if_neg y] at er
              exact fin l (by omega) hl0
            · rw [bI_0] at y
              have y := Decidable.not_not.mp y
              rw [if_pos y] at er
              have b48 := of_decide_eq_true y
              refine ⟨by rw [nJ_add, vp_nJ (by omega)]; omega, ?_⟩
              rw [nJ_add, tN_nJ (by omega), cl, nJ_succ]
              have e3 : (10 : Int32) * nJ (dv (seg c k l)) + nJ (c (k + l)) - 48 = nJ (dv (seg c k (l + 1))) := by
                rw [seg_succ, dv_snoc, show (10 : Int32) = nJ 10 from rfl, nJ_mul, nJ_add, show (48 : Int32) = nJ 48 from rfl]
                rw [show 10 * dv (seg c k l) + c (k + l) = (10 * dv (seg c k l) + (c (k + l) - 48)) + 48 by omega, ← nJ_add, Int32.add_sub_cancel]
              rw [e3]
              exact ih (l + 1) (by omega) (by omega) (by rw [← er, show k + (l + 1) = k + l + 1 by omega]; omega)
      rw [e1]
      refine ⟨n - k - 1 + 1, go (n - k - 1) 1 (by omega) (by omega) ?_⟩
      obtain ⟨d, hd⟩ : ∃ d, n - k = d + 1 := ⟨n - k - 1, by omega⟩
      rw [hd, rn, if_pos z2, Nat.add_sub_cancel]; omega
  · rw [bI_0] at z
    have z := Decidable.not_not.mp z
    unfold tokK tokV tokL at kk
    rw [if_pos z, if_pos z, if_pos z] at kk
    have go : ∀ (j l : Nat), k + l + j = n → 0 < l → l + rn isLe c j (k + l) = rn isLe c (n - k) k → w_X9_takeToken_14 Q (j + 1) (nJ k) (nJ l) h := by
      have fin : ∀ l, l = rn isLe c (n - k) k → k + l ≤ n → w_X9_takeToken_44 Q (nJ k) (nJ l) h := fun l hl' hkl => by
        rw [← hl'] at kk
        have l4 : nJ l ≤ 8 ↔ l ≤ 8 := nle (y := 8) (by omega) (by omega)
        refine ⟨fun y => ?_, fun y => ?_⟩
        · rw [if_neg (by have := l4.mp y; omega)] at kk
          refine xWord t' hkl ?_
          exact xPutT (v := 0) x hl fun h' x' f' c' => kk h' x' f' c'
        · rw [if_pos (by have : ¬ l ≤ 8 := fun q => y (l4.mpr q); omega)] at kk
          exact xPutT (a := 0) (v := 0) x hl fun h' x' f' c' => kk h' x' f' c'
      intro j
      induction j with
      | zero =>
        intro l e hl0 er
        rw [rn] at er
        refine ⟨fun _ => fin l (by omega) (by omega), fun y => absurd ?_ y⟩
        rw [t1, nJ_add, nle (by omega) (by omega)]; omega
      | succ j ih =>
        intro l e hl0 er
        obtain ⟨cl, bl⟩ := t3 (k + l) (by omega)
        refine ⟨fun y => absurd y ?_, fun _ => ⟨?_, ?_⟩⟩
        · rw [t1, nJ_add, nle (by omega) (by omega)]; omega
        · rw [nJ_add, vp_nJ (by omega)]; omega
        · rw [nJ_add, tN_nJ (by omega), cl]
          rw [rn] at er
          refine xLe bl ⟨fun y => ?_, fun y => ?_⟩
          · rw [bI_0] at y
            rw [if_neg y] at er
            exact fin l (by omega) (by omega)
          · rw [bI_0] at y
            have y := Decidable.not_not.mp y
            rw [if_pos y] at er
            show w_X9_takeToken_14 Q (j + 1) (nJ k) (nJ l + 1) h
            rw [nJ_succ]
            exact ih (l + 1) (by omega) (by omega) (by rw [← er, show k + (l + 1) = k + l + 1 by omega]; omega)
    refine ⟨n - k - 1 + 1, go (n - k - 1) 1 (by omega) (by omega) ?_⟩
    obtain ⟨d, hd⟩ : ∃ d, n - k = d + 1 := ⟨n - k - 1, by omega⟩
    rw [hd, rn, if_pos z, Nat.add_sub_cancel]; omega
def AtX (TS : List Tk) (h : Hp) (i : Nat) : Prop := Ax TS h ∧ TS.length ≤ 601 ∧ ∃ t, TS[i]? = some t ∧ gI h 9 0 5 = nJ t.1 ∧ gI h 9 0 6 = nJ t.2.1 ∧ gI h 9 0 7 = nJ t.2.2 ∧ gI h 9 0 4 = nJ (i + 1)
def f9 (k : Nat) : Bool := !(k == 9)
theorem xStepG {TS : List Tk} {i : Nat} {Q : Hp → Prop} (x : Ax TS h) (h6 : TS.length ≤ 601) (e4 : gI h 9 0 4 = nJ i) (hi : i < TS.length) (kk : ∀ h', AtX TS h' i → Fr f9 h h' → (gC h' = gC h ∧ gL h' = gL h ∧ gP h' = gP h) → Q h') : wp_X9_step h Q := by
  have x' := x
  obtain ⟨x1, x2⟩ := x
  obtain ⟨t, ht⟩ : ∃ t, TS[i]? = some t := ⟨TS[i], List.getElem?_eq_getElem hi⟩
  obtain ⟨a1, a2, a3⟩ := x2 i t ht
  have vi : vp_in (nJ i) 601 := (vp_nJ (by omega)).mpr (by omega)
  have ti : tN (nJ i) = i := tN_nJ (by omega)
  have lt : ¬ nJ TS.length ≤ nJ i := by rw [nle (by omega) (by omega)]; omega
  have := kk (wI (wI (wI (wI h 9 0 5 (nJ t.1)) 9 0 6 (nJ t.2.1)) 9 0 7 (nJ t.2.2)) 9 0 4 (nJ (i + 1))) ⟨⟨by simp [gI_wI]; exact x1, fun j s hj => by simp [gI_wI]; exact x2 j s hj⟩, h6, t, ht, by simp [gI_wI], by simp [gI_wI], by simp [gI_wI], by simp [gI_wI]⟩ (((((Fr.refl h).wI rfl).wI rfl).wI rfl).wI rfl) ⟨rfl, rfl, rfl⟩
  simp only [w_X9_step_60, w_X9_step_46, w_X9_step_33, w_X9_step_11, w_X9_step_0, wp_X9_step, x1, e4, lt, gI_wI]
  simp [e4, ti, vi, a1, a2, a3, nJ_succ]
  exact this
theorem xStep {TS : List Tk} {i : Nat} {Q : Hp → Prop} (x : AtX TS h i) (hi : i + 1 < TS.length) (kk : ∀ h', AtX TS h' (i + 1) → Fr f9 h h' → (gC h' = gC h ∧ gL h' = gL h ∧ gP h' = gP h) → Q h') : wp_X9_step h Q := by
  obtain ⟨x1, h6, t, -, -, -, -, e4⟩ := x
  exact xStepG x1 h6 e4 hi kk
def fU (k : Nat) : Bool := !(k == 7 || (k == 9 || (k == 33 || (k == 34 || k == 35))))
theorem xTape {Q : Hp → Prop} (t : Tp h c n) (kk : ∀ h', AtX (toks c n 600 0) h' 0 → gI h' 7 0 1 = 0 → Fr fU h h' → gC h' = gC h → Q h') : wp_X9_takeTape h Q := by
  have t2 := t.2.1
  have lall : (toks c n 600 0).length ≤ n + 1 := toks_len 600 0 (by omega)
  have fin : ∀ (TS : List Tk) (a2 a3 : Int32) (h1 : Hp), Ax TS h1 → TS ++ [(1, n, 0)] = toks c n 600 0 → Fr fT h h1 → gC h1 = gC h → w_X9_takeTape_55 Q a2 a3 h1 := by
    intro TS a2 a3 h1 x e f fc
    have hl : TS.length + 1 = (toks c n 600 0).length := by rw [← e]; simp
    show wp_X9_put 1 (gI h1 7 0 1) 0 h1 _
    rw [(f 7 rfl).2.1, t.1]
    refine xPutT (a := 1) (v := 0) x (by omega) fun h2 x2 f2 c2 => ?_
    rw [e] at x2
    refine xStepG (TS := toks c n 600 0) (i := 0) ?_ (by omega) (by simp [gI_wI]; rfl) (by omega) fun h3 x3 f3 c3 => ?_
    · exact ⟨by simp [gI_wI]; exact x2.1, fun j s hj => by simp [gI_wI]; exact x2.2 j s hj⟩
    · refine kk h3 x3 (by rw [(f3 7 rfl).2.1]; simp [gI_wI]) (fun k hk => ?_) (c3.1.trans (c2.trans fc))
      have hT : fT k = true ∧ f9 k = true ∧ k ≠ 7 ∧ k ≠ 9 := by
        simp [fU] at hk; simp [fT, f9, hk]
      have q1 := f k hT.1
      have q2 := f2 k hT.1
      have q3 := f3 k hT.2.1
      have q4 : gI (wI (wI h2 7 0 1 0) 9 0 4 0) k = gI h2 k := by rw [gI_wIo hT.2.2.2, gI_wIo hT.2.2.1]
      exact ⟨q3.1.trans (q2.1.trans q1.1), (q3.2.1.trans q4).trans (q2.2.1.trans q1.2.1), q3.2.2.1.trans (q2.2.2.1.trans q1.2.2.1), q3.2.2.2.trans (q2.2.2.2.trans q1.2.2.2)⟩
  suffices H : ∀ (f k : Nat) (TS : List Tk) (h1 : Hp), f ≤ 600 → k ≤ n → n ≤ k + f → TS ++ toks c n f k = toks c n 600 0 → TS.length ≤ k → Ax TS h1 → Fr fT h h1 → gC h1 = gC h → w_X9_takeTape_9 Q (f + 1) (nJ k) (nJ (600 - f)) h1 from
    ⟨601, H 600 0 [] _ (by omega) (by omega) (by omega) rfl (by simp) ⟨by simp [gI_wI]; rfl, fun i t hi => by simp at hi⟩ ((Fr.refl h).wI rfl) rfl⟩
  intro f
  induction f with
  | zero =>
    intro k TS h1 hf hk hn e hl x fr fc
    refine ⟨fun _ => fin TS _ _ h1 x e fr fc, fun z => absurd (Int32.le_refl _) z⟩
  | succ f ih =>
    intro k TS h1 hf hk hn e hl x fr fc
    have tp : Tp h1 c n := t.fr fr rfl rfl
    refine ⟨fun z => ?_, fun _ => ⟨fun z => ?_, fun z => ?_⟩⟩
    · have := (nle (x := 600) (by omega) (by omega)).mp z; omega
    · rw [tp.1, nle (by omega) (by omega)] at z
      rw [toks, if_neg (by omega)] at e
      exact fin TS _ _ h1 x e fr fc
    · rw [tp.1, nle (by omega) (by omega)] at z
      have hkn : k < n := by omega
      obtain ⟨ck, bk⟩ := tp.2.2 k hkn
      rw [toks, if_pos hkn] at e
      refine ⟨(vp_nJ (by omega)).mpr (by omega), ?_⟩
      rw [tN_nJ (by omega), ck]
      have e6 : nJ (600 - (f + 1)) + 1 = nJ (600 - f) := by rw [nJ_succ]; congr 1; omega
      refine xBl bk ⟨fun y => ?_, fun y => ?_⟩
      · rw [bI_0] at y
        rw [if_neg y] at e
        refine xToken tp x (by omega) hkn fun h2 x2 f2 c2 => ?_
        have lp := tokL_pos (c := c) hkn
        show w_X9_takeTape_9 Q (f + 1) (nJ k + nJ (tokL c n k)) (nJ (600 - (f + 1)) + 1) h2
        rw [nJ_add, e6]
        exact ih (k + tokL c n k) _ h2 (by omega) (by omega) (by omega) (by rw [List.append_assoc]; exact e) (by simp; omega) x2 (fr.trans f2) (c2.trans fc)
      · rw [bI_0] at y
        rw [if_pos (Decidable.not_not.mp y)] at e
        show w_X9_takeTape_9 Q (f + 1) (nJ k + 1) (nJ (600 - (f + 1)) + 1) h1
        rw [nJ_succ, e6]
        exact ih (k + 1) TS h1 (by omega) (by omega) (by omega) e (by omega) x fr fc
end
