/-! the tokens of the model's reading -/
def sg (k : Nat) : Nat := if k = 6 then 40 else if k = 7 then 41 else if k = 8 then 60 else if k = 9 then 61 else if k = 10 then 43 else if k = 11 then 45 else 59
def TkM (h : Hp) (i : Nat) (t : Tk) : Prop := gI h 105 0 i = nJ t.2.1 ∧ t.1 ≤ 18 ∧ ((t.1 = 1 ∧ gI h 104 0 i = 0) ∨ (t.1 = 2 ∧ gI h 104 0 i = 2 ∧ gL h 106 0 i = lJ t.2.2 ∧ t.2.2 < 10000) ∨ (6 ≤ t.1 ∧ t.1 ≤ 12 ∧ gI h 104 0 i = 3 ∧ gL h 106 0 i = lJ (sg t.1)) ∨ (t.1 ≠ 1 ∧ t.1 ≠ 2 ∧ ¬ (6 ≤ t.1 ∧ t.1 ≤ 12) ∧ gI h 104 0 i = 1 ∧ ∃ v, gL h 106 0 i = lJ v ∧ v < 37 ^ 8 ∧ ∀ w, w < 9 → (v = wv w ↔ t.1 = kw w)) ∨ (t.1 = 0 ∧ gI h 104 0 i = 4))
def Am (TS : List Tk) (h : Hp) : Prop := ∀ i t, TS[i]? = some t → TkM h i t
theorem mSignOf {h : Hp} {x : Nat} {Q : Int32 → Hp → Prop} (hx : x ≤ 126) (kk : Q (bI (mkK x ≠ 0)) h) : wp_X12_isSignOf (nJ x) h Q := by
  have e : ∀ v, v ≤ 126 → (nJ x = nJ v ↔ x = v) := fun v hv => neq (by omega) (by omega)
  have e1 : nJ x = 40 ↔ x = 40 := e 40 (by omega)
  have e2 : nJ x = 41 ↔ x = 41 := e 41 (by omega)
  have e3 : nJ x = 59 ↔ x = 59 := e 59 (by omega)
  have e4 : nJ x = 61 ↔ x = 61 := e 61 (by omega)
  have e5 : nJ x = 60 ↔ x = 60 := e 60 (by omega)
  have e6 : nJ x = 43 ↔ x = 43 := e 43 (by omega)
  have e7 : nJ x = 45 ↔ x = 45 := e 45 (by omega)
  simp only [w_X12_isSignOf_47, w_X12_isSignOf_42, w_X12_isSignOf_46, w_X12_isSignOf_36, w_X12_isSignOf_30, w_X12_isSignOf_24, w_X12_isSignOf_18, w_X12_isSignOf_12, w_X12_isSignOf_6, w_X12_isSignOf_0, wp_X12_isSignOf, e1, e2, e3, e4, e5, e6, e7]
  have yes : ∀ v, x = v → mkK v ≠ 0 → (((1 : Int32) = 0 ∨ (1 : Int32) = 1) ∧ Q 1 h) := fun v z y => by
    rw [bI_c (by rw [z]; exact y)] at kk; exact ⟨Or.inr rfl, kk⟩
  refine ⟨fun z => ?_, fun z1 => ⟨fun z => ?_, fun z2 => ⟨fun z => ?_, fun z3 => ⟨fun z => ?_, fun z4 => ⟨fun z => ?_, fun z5 => ⟨fun z => ?_, fun z6 => ⟨fun z7 => ?_, fun z => ?_⟩⟩⟩⟩⟩⟩⟩
  · have := yes 40 z (by decide); simpa using this
  · have := yes 41 z (by decide); simpa using this
  · have := yes 59 z (by decide); simpa using this
  · have := yes 61 z (by decide); simpa using this
  · have := yes 60 z (by decide); simpa using this
  · have := yes 43 z (by decide); simpa using this
  · rw [bI_n] at kk
    · exact ⟨Or.inl trivial, kk⟩
    · intro y
      apply y
      unfold mkK
      rw [if_neg z1, if_neg z2, if_neg z5, if_neg z4, if_neg z6, if_neg z7, if_neg z3]
  · have := yes 45 z (by decide); simpa using this
theorem sg_mk {x : Nat} (h : mkK x ≠ 0) : sg (mkK x) = x ∧ 6 ≤ mkK x ∧ mkK x ≤ 12 := by
  unfold mkK at h ⊢
  split
  · rename_i e; rw [e]; decide
  split
  · rename_i e; rw [e]; decide
  split
  · rename_i e; rw [e]; decide
  split
  · rename_i e; rw [e]; decide
  split
  · rename_i e; rw [e]; decide
  split
  · rename_i e; rw [e]; decide
  split
  · rename_i e; rw [e]; decide
  · rename_i z1 z2 z3 z4 z5 z6 z7
    rw [if_neg z1, if_neg z2, if_neg z3, if_neg z4, if_neg z5, if_neg z6, if_neg z7] at h
    exact absurd rfl h
theorem mRank {h : Hp} {x : Nat} {Q : Int32 → Hp → Prop} (hx : x ≤ 126) (z : isLe x = true) (kk : Q (nJ (x - 96)) h) : wp_X12_rank (nJ x) h Q := by
  refine mLe hx ⟨fun y => ?_, fun _ => ?_⟩
  · rw [bI_0] at y; exact absurd z y
  · have := of_decide_eq_true z
    show Q (nJ x - 96) h
    rw [show nJ x - 96 = nJ (x - 96) by
      rw [show nJ x = nJ (x - 96 + 96) by congr 1; omega, ← nJ_add, show (96 : Int32) = nJ 96 from rfl, Int32.add_sub_cancel]]
    exact kk
section
variable {h h' : Hp} {c : Nat → Nat} {n : Nat}
/-- what the cutting leaves as it is -/
def Fk (h h' : Hp) : Prop := Fr (fun k => !(k == 12 || (k == 104 || (k == 105 || k == 106)))) h h' ∧ ∀ s, s ≠ 7 → s ≠ 8 → gI h' 12 0 s = gI h 12 0 s
theorem Fk.refl (h : Hp) : Fk h h := ⟨Fr.refl h, fun _ _ _ => rfl⟩
theorem Fk.trans {a b d : Hp} (f : Fk a b) (g : Fk b d) : Fk a d := ⟨f.1.trans g.1, fun s h1 h2 => (g.2 s h1 h2).trans (f.2 s h1 h2)⟩
theorem Fk.wA {a b : Hp} (f : Fk a b) {k s : Nat} {v : Int32} (hk : k = 104 ∨ k = 105) : Fk a (wI b k 0 s v) := by
  rcases hk with rfl | rfl
  · exact ⟨f.1.wI rfl, fun s' h1 h2 => by rw [gI_wI, if_neg (by omega)]; exact f.2 s' h1 h2⟩
  · exact ⟨f.1.wI rfl, fun s' h1 h2 => by rw [gI_wI, if_neg (by omega)]; exact f.2 s' h1 h2⟩
theorem Fk.wB {a b : Hp} (f : Fk a b) {s : Nat} {v : Int64} : Fk a (wL b 106 0 s v) := ⟨f.1.wL rfl, f.2⟩
theorem Fk.w7 {a b : Hp} (f : Fk a b) {s : Nat} {v : Int32} (hs : s = 7 ∨ s = 8) : Fk a (wI b 12 0 s v) := ⟨f.1.wI rfl, fun s' h1 h2 => by rw [gI_wI, if_neg (by omega)]; exact f.2 s' h1 h2⟩
def Tm (h : Hp) (c : Nat → Nat) (n : Nat) : Prop := gI h 12 0 3 = nJ n ∧ n ≤ 600 ∧ ∀ i, i < n → gI h 101 0 i = nJ (c i) ∧ c i ≤ 126
theorem Tm.fk (t : Tm h c n) (f : Fk h h') : Tm h' c n := by
  unfold Tm at t ⊢; rw [f.2 3 (by omega) (by omega), (f.1 101 rfl).2.1]; exact t
theorem Am.put {TS : List Tk} {t : Tk} {p s : Int32} {v : Int64} (a : Am TS h) (tk : TkM (wL (wI (wI h 105 0 TS.length p) 104 0 TS.length s) 106 0 TS.length v) TS.length t) : Am (TS ++ [t]) (wL (wI (wI h 105 0 TS.length p) 104 0 TS.length s) 106 0 TS.length v) := by
  intro i u hi
  by_cases y : i < TS.length
  · rw [List.getElem?_append_left y] at hi
    have := a i u hi
    have ne : i ≠ TS.length := by omega
    unfold TkM at this ⊢
    simp only [gI_wL, gI_wI, gL_wL, gL_wI, ne, and_false, if_false]
    exact this
  · have hi2 := (List.getElem?_eq_some_iff.mp hi).1
    simp at hi2
    have y2 : i = TS.length := by omega
    subst y2
    simp at hi
    subst hi
    exact tk
theorem min_s {l m : Nat} (h : l < m) : min (l + 1) m = min l m + 1 := by omega
theorem mToken {K : Int32 → Int32 → Hp → Prop} {Q : Hp → Prop} {TS : List Tk} {k : Nat} (t : Tm h c n) (a : Am TS h) (hl : TS.length ≤ 600) (hk : k < n) (kk : ∀ h', Am (TS ++ [(tokK c n k, k, tokV c n k)]) h' → Fk h h' → K (nJ (TS.length + 1)) (nJ (k + tokL c n k)) h') : w_X12_cutAll_50 K Q (nJ TS.length) (nJ k) (nJ (c k)) h := by
  obtain ⟨t1, t2, t3⟩ := t
  obtain ⟨ck, bk⟩ := t3 k hk
  have vm : vp_in (nJ TS.length) 602 := (vp_nJ (by omega)).mpr (by omega)
  have tm : tN (nJ TS.length) = TS.length := tN_nJ (by omega)
  -- the end of every road: sort and value are laid
  have lay : ∀ (s : Int32) (v : Int64), TkM (wL (wI (wI h 105 0 TS.length (nJ k)) 104 0 TS.length s) 106 0 TS.length v) TS.length (tokK c n k, k, tokV c n k) → K (nJ (TS.length + 1)) (nJ (k + tokL c n k)) (wL (wI (wI h 105 0 TS.length (nJ k)) 104 0 TS.length s) 106 0 TS.length v) := fun s v tk =>
    kk _ (a.put tk) (((Fk.refl h).wA (Or.inr rfl)).wA (Or.inl rfl)).wB
  have t3' : ∀ i, i < n → gI (wI h 105 0 TS.length (nJ k)) 101 0 i = nJ (c i) := fun i hi => by simp [gI_wI]; exact (t3 i hi).1
  have t1' : gI (wI h 105 0 TS.length (nJ k)) 12 0 3 = nJ n := by simp [gI_wI]; exact t1
  refine ⟨vm, ?_⟩
  rw [tm]
  refine mLe bk ⟨fun z => ?_, fun z => ?_⟩
  · rw [bI_0] at z
    refine mDi bk ⟨fun z2 => ?_, fun z2 => ?_⟩
    · rw [bI_0] at z2
      have eL : tokL c n k = 1 := by unfold tokL; rw [if_neg z, if_neg z2]
      have eK : tokK c n k = mkK (c k) := by unfold tokK; rw [if_neg z, if_neg z2]
      rw [eL, eK] at lay
      have m18 := mkK_n1 (c k)
      refine mSignOf bk ⟨fun y => ⟨vm, vm, ?_⟩, fun y => ⟨vm, vm, ?_⟩⟩
      · rw [bI_0] at y
        have y := Decidable.not_not.mp y
        rw [tm, nJ_succ, nJ_succ]
        refine lay 4 _ ?_
        refine ⟨by simp [gI_wI, gI_wL], by omega, Or.inr (Or.inr (Or.inr (Or.inr ⟨y, by simp [gI_wI, gI_wL]⟩)))⟩
      · rw [bI_0] at y
        have y := sg_mk (Decidable.not_not.mp y)
        rw [tm, nJ_succ, nJ_succ]
        refine lay 3 _ ?_
        refine ⟨by simp [gI_wI, gI_wL], by omega, Or.inr (Or.inr (Or.inl ⟨y.2.1, y.2.2, by simp [gI_wI, gI_wL], ?_⟩))⟩
        show gL _ 106 0 TS.length = lJ (sg (mkK (c k)))
        rw [y.1, gL_wL, if_pos ⟨rfl, rfl, rfl⟩, nJ_64 (by omega)]
    · rw [bI_0] at z2
      have z2 := Decidable.not_not.mp z2
      have eL : tokL c n k = rn isDi c (n - k) k := by unfold tokL; rw [if_neg z, if_pos z2]
      have eK : tokK c n k = if 4 < rn isDi c (n - k) k then 0 else 2 := by unfold tokK; rw [if_neg z, if_pos z2]
      have eV : tokV c n k = dv (seg c k (rn isDi c (n - k) k)) := by unfold tokV; rw [if_neg z, if_pos z2]
      have rl := rn_le (p := isDi) (c := c) (n - k) k
      have fin : ∀ l, l = rn isDi c (n - k) k → w_X12_cutAll_218 K Q (nJ TS.length) (nJ (k + l)) (nJ (c k)) (nJ k) (lJ (dv (seg c k (min l 4)))) (wI h 105 0 TS.length (nJ k)) := fun l hl' => by
        have es : nJ (k + l) - nJ k = nJ l := by rw [Nat.add_comm, ← nJ_add, Int32.add_sub_cancel]
        unfold w_X12_cutAll_218
        rw [es]
        have l4 : nJ l ≤ 4 ↔ l ≤ 4 := nle (y := 4) (by omega) (by omega)
        rw [eL, eK, eV, ← hl'] at lay
        refine ⟨fun y => ⟨vm, vm, ?_⟩, fun y => ⟨vm, vm, ?_⟩⟩
        · rw [tm, nJ_succ]
          have y := l4.mp y
          refine lay 2 _ ?_
          rw [if_neg (by omega), show min l 4 = l by omega]
          refine ⟨by simp [gI_wI, gI_wL], by omega, Or.inr (Or.inl ⟨rfl, by simp [gI_wI, gI_wL], by simp [gL_wL], ?_⟩)⟩
          have := dv_bd l (seg c k l) seg_len (fun x hx => by
            unfold seg at hx
            obtain ⟨i, hi, e⟩ := List.mem_map.mp hx
            have := rn_all (p := isDi) (c := c) (n - k) k i (by have := List.mem_range.mp hi; omega)
            rw [← e]; exact of_decide_eq_true this)
          have h4 : 10 ^ l ≤ 10 ^ 4 := Nat.pow_le_pow_right (by omega) y
          show dv (seg c k l) < 10000
          omega
        · rw [tm, nJ_succ]
          have y : ¬ l ≤ 4 := fun q => y (l4.mpr q)
          refine lay 4 _ ?_
          rw [if_pos (by omega)]
          exact ⟨by simp [gI_wI, gI_wL], by omega, Or.inr (Or.inr (Or.inr (Or.inr ⟨rfl, by simp [gI_wI, gI_wL]⟩)))⟩
      have go : ∀ (j l : Nat), k + l + j = n → l + rn isDi c j (k + l) = rn isDi c (n - k) k → w_X12_cutAll_159 K Q (j + 1) (nJ TS.length) (nJ (k + l)) (nJ (c k)) (nJ k) (lJ (dv (seg c k (min l 4)))) (wI h 105 0 TS.length (nJ k)) := by
        intro j
        induction j with
        | zero =>
          intro l e er
          rw [rn] at er
          refine ⟨fun _ => fin l (by omega), fun y => absurd ?_ y⟩
          rw [t1', nle (by omega) (by omega)]; omega
        | succ j ih =>
          intro l e er
          have bl := (t3 (k + l) (by omega)).2
          refine ⟨fun y => absurd y ?_, fun _ => ⟨(vp_nJ (by omega)).mpr (by omega), ?_⟩⟩
          · rw [t1', nle (by omega) (by omega)]; omega
          · rw [tN_nJ (by omega), t3' (k + l) (by omega)]
            rw [rn] at er
            refine mDi bl ⟨fun y => ?_, fun y => ?_⟩
            · rw [bI_0] at y
              rw [if_neg y] at er
              exact fin l (by omega)
            · rw [bI_0] at y
              have y := Decidable.not_not.mp y
              rw [if_pos y] at er
              have b48 := of_decide_eq_true y
              have es : nJ (k + l) - nJ k = nJ l := by rw [Nat.add_comm, ← nJ_add, Int32.add_sub_cancel]
              have ih := ih (l + 1) (by omega) (by rw [← er, show k + (l + 1) = k + l + 1 by omega]; omega)
              rw [show k + (l + 1) = k + l + 1 by omega, ← nJ_succ] at ih
              unfold w_X12_cutAll_179
              rw [es]
              have l4 : (4 : Int32) ≤ nJ l ↔ 4 ≤ l := nle (x := 4) (by omega) (by omega)
              refine ⟨fun q => ?_, fun q => ⟨(vp_nJ (by omega)).mpr (by omega), ?_⟩⟩
              · have q := l4.mp q
                rw [show min (l + 1) 4 = min l 4 by omega] at ih
                exact ih
              · have q : ¬ 4 ≤ l := fun w => q (l4.mpr w)
                rw [show min (l + 1) 4 = l + 1 by omega, seg_succ, dv_snoc] at ih
                rw [show min l 4 = l by omega, tN_nJ (by omega), t3' (k + l) (by omega)]
                have e3 : (10 : Int64) * lJ (dv (seg c k l)) + (nJ (c (k + l))).toInt64 - 48 = lJ (10 * dv (seg c k l) + (c (k + l) - 48)) := by
                  rw [nJ_64 (by omega), show (10 : Int64) = lJ 10 from rfl, lJ_mul, lJ_add, show (48 : Int64) = lJ 48 from rfl]
                  rw [show 10 * dv (seg c k l) + c (k + l) = (10 * dv (seg c k l) + (c (k + l) - 48)) + 48 by omega, ← lJ_add, Int64.add_sub_cancel]
                rw [e3]
                exact ih
      exact ⟨n - k + 1, go (n - k) 0 (by omega) (by simp)⟩
  · rw [bI_0] at z
    have z := Decidable.not_not.mp z
    have eL : tokL c n k = rn isLe c (n - k) k := by unfold tokL; rw [if_pos z]
    have eK : tokK c n k = if 8 < rn isLe c (n - k) k then 0 else wk (seg c k (rn isLe c (n - k) k)) := by unfold tokK; rw [if_pos z]
    have eV : tokV c n k = 0 := by unfold tokV; rw [if_pos z]
    have rl := rn_le (p := isLe) (c := c) (n - k) k
    have fin : ∀ l, l = rn isLe c (n - k) k → w_X12_cutAll_129 K Q (nJ TS.length) (nJ (k + l)) (nJ (c k)) (nJ k) (lJ (hs (seg c k (min l 8)))) (wI h 105 0 TS.length (nJ k)) := fun l hl' => by
      have es : nJ (k + l) - nJ k = nJ l := by rw [Nat.add_comm, ← nJ_add, Int32.add_sub_cancel]
      unfold w_X12_cutAll_129
      rw [es]
      have l4 : nJ l ≤ 8 ↔ l ≤ 8 := nle (y := 8) (by omega) (by omega)
      rw [eL, eK, eV, ← hl'] at lay
      refine ⟨fun y => ⟨vm, vm, ?_⟩, fun y => ⟨vm, vm, ?_⟩⟩
      · rw [tm, nJ_succ]
        have y := l4.mp y
        refine lay 1 _ ?_
        rw [if_neg (by omega), show min l 8 = l by omega]
        have hle : ∀ x, x ∈ seg c k l → 97 ≤ x ∧ x ≤ 122 := fun x hx => by
          unfold seg at hx
          obtain ⟨i, hi, e⟩ := List.mem_map.mp hx
          have := rn_all (p := isLe) (c := c) (n - k) k i (by have := List.mem_range.mp hi; omega)
          rw [← e]; exact of_decide_eq_true this
        have hb := hs_bd l (seg c k l) seg_len y hle
        have h8 : 37 ^ l ≤ 37 ^ 8 := Nat.pow_le_pow_right (by omega) y
        have n1 := wk_n1 (seg c k l)
        refine ⟨by simp [gI_wI, gI_wL], n1.2, Or.inr (Or.inr (Or.inr (Or.inl ⟨n1.1, ?_, ?_, by simp [gI_wI, gI_wL], hs (seg c k l), by simp [gL_wL], by omega, fun w hw => wk_hs hw hle⟩)))⟩
        · rcases wk_ex (seg c k l) with ⟨q, -⟩ | ⟨v, hv, q, q2⟩
          · simp only [q]; omega
          · simp only [q2]; unfold kw; split <;> omega
        · rcases wk_ex (seg c k l) with ⟨q, -⟩ | ⟨v, hv, q, q2⟩
          · simp only [q]; omega
          · simp only [q2]; unfold kw; split <;> omega
      · rw [tm, nJ_succ]
        have y : ¬ l ≤ 8 := fun q => y (l4.mpr q)
        refine lay 4 _ ?_
        rw [if_pos (by omega)]
        exact ⟨by simp [gI_wI, gI_wL], by omega, Or.inr (Or.inr (Or.inr (Or.inr ⟨rfl, by simp [gI_wI, gI_wL]⟩)))⟩
    have go : ∀ (j l : Nat), k + l + j = n → l + rn isLe c j (k + l) = rn isLe c (n - k) k → w_X12_cutAll_70 K Q (j + 1) (nJ TS.length) (nJ (k + l)) (nJ (c k)) (nJ k) (lJ (hs (seg c k (min l 8)))) (wI h 105 0 TS.length (nJ k)) := by
      intro j
      induction j with
      | zero =>
        intro l e er
        rw [rn] at er
        refine ⟨fun _ => fin l (by omega), fun y => absurd ?_ y⟩
        rw [t1', nle (by omega) (by omega)]; omega
      | succ j ih =>
        intro l e er
        have bl := (t3 (k + l) (by omega)).2
        refine ⟨fun y => absurd y ?_, fun _ => ⟨(vp_nJ (by omega)).mpr (by omega), ?_⟩⟩
        · rw [t1', nle (by omega) (by omega)]; omega
        · rw [tN_nJ (by omega), t3' (k + l) (by omega)]
          rw [rn] at er
          refine mLe bl ⟨fun y => ?_, fun y => ?_⟩
          · rw [bI_0] at y
            rw [if_neg y] at er
            exact fin l (by omega)
          · rw [bI_0] at y
            have y := Decidable.not_not.mp y
            rw [if_pos y] at er
            have es : nJ (k + l) - nJ k = nJ l := by rw [Nat.add_comm, ← nJ_add, Int32.add_sub_cancel]
            have ih := ih (l + 1) (by omega) (by rw [← er, show k + (l + 1) = k + l + 1 by omega]; omega)
            rw [show k + (l + 1) = k + l + 1 by omega, ← nJ_succ] at ih
            unfold w_X12_cutAll_90
            rw [es]
            have l4 : (8 : Int32) ≤ nJ l ↔ 8 ≤ l := nle (x := 8) (by omega) (by omega)
            refine ⟨fun q => ?_, fun q => ⟨(vp_nJ (by omega)).mpr (by omega), ?_⟩⟩
            · have q := l4.mp q
              rw [show min (l + 1) 8 = min l 8 by omega] at ih
              exact ih
            · have q : ¬ 8 ≤ l := fun w => q (l4.mpr w)
              rw [show min (l + 1) 8 = l + 1 by omega, seg_succ, hs_snoc] at ih
              rw [show min l 8 = l by omega, tN_nJ (by omega), t3' (k + l) (by omega)]
              refine mRank bl y ?_
              show w_X12_cutAll_70 K Q (j + 1) (nJ TS.length) (nJ (k + l) + 1) (nJ (c k)) (nJ k) ((37 : Int64) * lJ (hs (seg c k l)) + (nJ (c (k + l) - 96)).toInt64) _
              rw [nJ_64 (by omega), show (37 : Int64) = lJ 37 from rfl, lJ_mul, lJ_add]
              exact ih
    exact ⟨n - k + 1, go (n - k) 0 (by omega) (by simp)⟩
theorem mCut {Q : Hp → Prop} (e2 : gI h 12 0 2 = nJ n) (hn6 : n ≤ 600) (e3 : ∀ i, i < n → gI h 101 0 i = nJ (c i) ∧ c i ≤ 126) (kk : ∀ h', Am (toks c n 600 0) h' → gI h' 12 0 7 = 0 → gI h' 12 0 8 = 0 → Fk (wI (wI h 12 0 3 (nJ n)) 12 0 2 0) h' → Q h') : wp_X12_cutAll h Q := by
  have lall : (toks c n 600 0).length ≤ n + 1 := toks_len 600 0 (by omega)
  unfold wp_X12_cutAll w_X12_cutAll_0
  rw [e2]
  obtain ⟨h0, hh0⟩ : ∃ h0, h0 = wI (wI h 12 0 3 (nJ n)) 12 0 2 0 := ⟨_, rfl⟩
  rw [← hh0] at kk ⊢
  have t : Tm h0 c n := by
    rw [hh0]
    exact ⟨by simp [gI_wI], hn6, fun i hi => by simp [gI_wI]; exact e3 i hi⟩
  have fin : ∀ (TS : List Tk) (a2 : Int32) (h1 : Hp), Am TS h1 → TS ++ [(1, n, 0)] = toks c n 600 0 → Fk h0 h1 → w_X12_cutAll_279 Q (nJ TS.length) a2 h1 := by
    intro TS a2 h1 a e f
    have hl : TS.length + 1 = (toks c n 600 0).length := by rw [← e]; simp
    have vm : vp_in (nJ TS.length) 602 := (vp_nJ (by omega)).mpr (by omega)
    have tm : tN (nJ TS.length) = TS.length := tN_nJ (by omega)
    have t' := t.fk f
    refine ⟨vm, vm, ?_⟩
    rw [tm]
    have e12 : gI (wI h1 104 0 TS.length 0) 12 0 3 = nJ n := by simp [gI_wI]; exact t'.1
    rw [e12]
    refine kk _ (fun i u hi => ?_) (by simp [gI_wI]) (by simp [gI_wI]) (((f.wA (Or.inl rfl)).wA (Or.inr rfl)).w7 (Or.inl rfl) |>.w7 (Or.inr rfl))
    rw [← e] at hi
    by_cases y : i < TS.length
    · rw [List.getElem?_append_left y] at hi
      have := a i u hi
      have ne : i ≠ TS.length := by omega
      unfold TkM at this ⊢
      simp only [gI_wI, gL_wI, ne, and_false, if_false, Nat.reduceEqDiff, false_and]
      exact this
    · have hi2 := (List.getElem?_eq_some_iff.mp hi).1
      simp at hi2
      have y2 : i = TS.length := by omega
      subst y2
      simp at hi
      subst hi
      exact ⟨by simp [gI_wI], by omega, Or.inl ⟨rfl, by simp [gI_wI]⟩⟩
  suffices H : ∀ (f k : Nat) (TS : List Tk) (h1 : Hp), k ≤ n → n ≤ k + f → TS ++ toks c n f k = toks c n 600 0 → TS.length ≤ k → Am TS h1 → Fk h0 h1 → w_X12_cutAll_17 Q (f + 1) (nJ TS.length) (nJ k) h1 from
    ⟨601, H 600 0 [] h0 (by omega) (by omega) rfl (by simp) (fun i t hi => by simp at hi) (Fk.refl h0)⟩
  intro f
  induction f with
  | zero =>
    intro k TS h1 hk hn e hl a fr
    have t' := t.fk fr
    refine ⟨fun _ => fin TS _ h1 a e fr, fun z => absurd ?_ z⟩
    rw [t'.1, nle (by omega) (by omega)]; omega
  | succ f ih =>
    intro k TS h1 hk hn e hl a fr
    have t' := t.fk fr
    refine ⟨fun z => ?_, fun z => ?_⟩
    · rw [t'.1, nle (by omega) (by omega)] at z
      rw [toks, if_neg (by omega)] at e
      exact fin TS _ h1 a e fr
    · rw [t'.1, nle (by omega) (by omega)] at z
      have hkn : k < n := by omega
      obtain ⟨ck, bk⟩ := t'.2.2 k hkn
      rw [toks, if_pos hkn] at e
      have a10 : nJ (c k) = 10 ↔ c k = 10 := neq (y := 10) (by omega) (by omega)
      have a32 : nJ (c k) = 32 ↔ c k = 32 := neq (y := 32) (by omega) (by omega)
      refine ⟨(vp_nJ (by omega)).mpr (by omega), ?_⟩
      rw [tN_nJ (by omega), ck]
      have blank : isBl (c k) = true → w_X12_cutAll_44 (w_X12_cutAll_17 Q (f + 1)) Q (nJ TS.length) (nJ k) (nJ (c k)) h1 := fun y => by
        rw [if_pos y] at e
        show w_X12_cutAll_17 Q (f + 1) (nJ TS.length) (nJ k + 1) h1
        rw [nJ_succ]
        exact ih (k + 1) TS h1 (by omega) (by omega) e (by omega) a fr
      refine ⟨fun y => blank (decide_eq_true (Or.inl (a10.mp y))), fun y => ⟨fun y2 => ?_, fun y2 => blank (decide_eq_true (Or.inr (a32.mp y2)))⟩⟩
      have nb : ¬ isBl (c k) = true := fun q => by
        rcases of_decide_eq_true q with q | q
        · exact y (a10.mpr q)
        · exact y2 (a32.mpr q)
      rw [if_neg nb] at e
      refine mToken t' a (by omega) hkn fun h2 a2 f2 => ?_
      have lp := tokL_pos (c := c) hkn
      have := ih (k + tokL c n k) _ h2 (by omega) (by omega) (by rw [List.append_assoc]; exact e) (by simp; omega) a2 (fr.trans f2)
      simpa using this
end
