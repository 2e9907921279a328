/-! the text, both sides -/
theorem toks_U {c : Nat → Nat} {n : Nat} (hn : n ≤ 600) : ∀ (f k : Nat) (t : Tk), t ∈ toks c n f k → okU t
  | 0, k, t, h => by
    rw [toks] at h
    have : t = (1, n, 0) := by simpa using h
    rw [this]; exact ⟨by simp, fun z => absurd z (by simp), hn⟩
  | f + 1, k, t, h => by
    rw [toks] at h
    split at h
    · rename_i hk
      split at h
      · exact toks_U hn f _ t h
      · rcases List.mem_cons.mp h with y | y
        · rw [y]
          refine ⟨tokK_n1.2, fun z => ?_, by show k ≤ 600; omega⟩
          show tokV c n k < 10000
          have z : tokK c n k = 2 := z
          unfold tokK at z
          unfold tokV
          split at z
          · rename_i e
            rw [if_pos e]; omega
          · rename_i e
            rw [if_neg e]
            split at z
            · rename_i e2
              rw [if_pos e2]
              split at z
              · omega
              · rename_i e3
                have := dv_bd _ (seg c k (rn isDi c (n - k) k)) seg_len (fun x hx => by
                  unfold seg at hx
                  obtain ⟨i, hi, e⟩ := List.mem_map.mp hx
                  have := rn_all (p := isDi) (c := c) (n - k) k i (List.mem_range.mp hi)
                  rw [← e]; exact of_decide_eq_true this)
                have h4 : 10 ^ rn isDi c (n - k) k ≤ 10 ^ 4 := Nat.pow_le_pow_right (by omega) (by omega)
                omega
            · rename_i e2
              rw [if_neg e2]; omega
        · exact toks_U hn f _ t y
    · have : t = (1, n, 0) := by simpa using h
      rw [this]; exact ⟨by simp, fun z => absurd z (by simp), hn⟩
section
variable {nS nT nU nG : Nat} {h h' : Hp} {S S' : MSt} {T T' : TextT}
theorem TxL.x {g : Nat} (t : TxL g h T) (hl : (cat T).length ≤ 600) (hp : gP h 0 0 3 = some (1, g)) (hg : g < 2) : TextX h T := by
  obtain ⟨⟨c1, c2⟩, t2, t3, t4, t5⟩ := t
  refine ⟨g, hp, hg, t2, t3, fun l y hy => ?_⟩
  obtain ⟨p1, p2, a, b, p3, p4, p5, p6⟩ := t5 l y hy
  rw [p3, CodAt_app, CodAt_app] at c2
  rw [p3] at hl
  simp only [List.length_append] at hl
  refine ⟨p1, p2, a.length, fun z => by rw [p4 z]; rfl, p5, p6, by omega, ?_⟩
  have := c2.2.1
  rw [Nat.zero_add] at this; exact this
/-- all that a reading changes of the program's own part -/
def Ft (g : Nat) (h h' : Hp) : Prop := gC h' = gC h ∧ (∀ k, mkB k = true → gL h' k = gL h k) ∧ (∀ k i s, ¬ (k = 4 ∧ s = 1) → ¬ (k = 0 ∧ (s = 3 ∨ s = 4)) → k ≠ 7 → k ≠ 9 → k ≠ 33 → k ≠ 34 → k ≠ 35 → gP h' k i s = gP h k i s) ∧ ∀ k i s, k ≠ 7 → k ≠ 9 → k ≠ 33 → k ≠ 34 → k ≠ 35 → ¬ (k = 4 ∧ s = 2) → ¬ (k = 1 ∧ i = g ∧ (s = 3 ∨ s = 6)) → ¬ ((k = 28 ∨ k = 29 ∨ k = 31) ∧ i = g) → gI h' k i s = gI h k i s
theorem textJ {g : Nat} (jr : JR nS nT nU nG T h S) (f : Ft g h h') (e7 : gI h' 7 0 1 = 0) (tx : TxtR h' T') : JR nS nT nU nG T' h' (us S 12 2 0) := by
  have b := jr.bd
  obtain ⟨fC, fL, fP, fI⟩ := f
  refine jr.same (h' := h') (S' := us S 12 2 0) ?_ (OldS.refl.us (by omega) (by omega) (by omega) (by omega) (by omega)) fC ?_ ?_ ?_ ?_ ?_ ?_ (fun g => by simp [us_app]) (fun u => by simp [us_app]) ⟨?_, ?_, ?_, tx⟩
  · exact ⟨fun g s hg => ⟨fI 2 g s (by omega) (by omega) (by omega) (by omega) (by omega) (by omega) (by omega) (by omega), fP 2 g s (by omega) (by omega) (by omega) (by omega) (by omega) (by omega) (by omega)⟩, fun x s hx => fI 6 x s (by omega) (by omega) (by omega) (by omega) (by omega) (by omega) (by omega) (by omega), fun t s ht => ⟨fI 8 t s (by omega) (by omega) (by omega) (by omega) (by omega) (by omega) (by omega) (by omega), fP 8 t s (by omega) (by omega) (by omega) (by omega) (by omega) (by omega) (by omega)⟩, fun u s hu => fI 10 u s (by omega) (by omega) (by omega) (by omega) (by omega) (by omega) (by omega) (by omega), fun s hs => fI 11 0 s (by omega) (by omega) (by omega) (by omega) (by omega) (by omega) (by omega) (by omega), fun s hs => fP 20 0 s (by omega) (by omega) (by omega) (by omega) (by omega) (by omega) (by omega), fun s hs => fP 21 0 s (by omega) (by omega) (by omega) (by omega) (by omega) (by omega) (by omega), fun s hs => fP 22 0 s (by omega) (by omega) (by omega) (by omega) (by omega) (by omega) (by omega), fun s hs => fP 23 0 s (by omega) (by omega) (by omega) (by omega) (by omega) (by omega) (by omega), fun s => fP 25 0 s (by omega) (by omega) (by omega) (by omega) (by omega) (by omega) (by omega)⟩
  · intro s hs; exact fI 11 0 s (by omega) (by omega) (by omega) (by omega) (by omega) (by omega) (by omega) (by omega)
  · rw [fI 11 0 15 (by omega) (by omega) (by omega) (by omega) (by omega) (by omega) (by omega) (by omega)]; simp [us_app]; exact b.st.1.2.2.2.2
  · intro j; exact fP 24 0 j (by omega) (by omega) (by omega) (by omega) (by omega) (by omega) (by omega)
  · intro s hs; rw [us_app, if_neg (by omega)]
  · simp [us_app]; exact b.wm.1.shuts
  · simp [us_app]; exact b.wm.1.town
  · obtain ⟨j5a, j5b⟩ := jr.2.2.2.2.1
    refine ⟨by rw [fI 5 0 2 (by omega) (by omega) (by omega) (by omega) (by omega) (by omega) (by omega) (by omega)]; simp [us_app]; exact j5a, fun i r hr h10 hi => ?_⟩
    simp [us_app] at hr
    rw [fI 26 0 i (by omega) (by omega) (by omega) (by omega) (by omega) (by omega) (by omega) (by omega), fI 27 0 i (by omega) (by omega) (by omega) (by omega) (by omega) (by omega) (by omega) (by omega)]
    simp [us_app]; exact j5b i r hr h10 hi
  · obtain ⟨k, pm, g1, g2, g3, g4, g5, g6, g7, g8⟩ := jr.2.2.2.2.2.1
    refine ⟨k, pm, by rw [fI 3 0 1 (by omega) (by omega) (by omega) (by omega) (by omega) (by omega) (by omega) (by omega)]; exact g1, by simp [us_app]; exact g2, g3, fun i hi => by rw [fI 36 0 i (by omega) (by omega) (by omega) (by omega) (by omega) (by omega) (by omega) (by omega)]; simp [us_app]; exact g4 i hi, by simp [us_app]; exact g5, g6, fun t ht => by rw [fI 38 0 t (by omega) (by omega) (by omega) (by omega) (by omega) (by omega) (by omega) (by omega)]; simp [us_app]; exact g7 t ht, fun q h1 h2 => by rw [fI 37 0 q (by omega) (by omega) (by omega) (by omega) (by omega) (by omega) (by omega) (by omega)]; exact g8 q h1 h2⟩
  · exact ⟨0, e7, by simp [us_app]; rfl, by omega, fun i hi => by omega⟩
theorem CdM.enc {nx : Nat} : ∀ {c a b : CodeT} {C : CodeT}, C = a ++ (c ++ ((0, 0) :: b)) → C.length ≤ 660 → nx < 2 → CdM nx h C → EncAt h (660 * nx + a.length) c
  | [], a, b, C, e, hl, hx, cd => by
    have hC : C.length = a.length + (b.length + 1) := by rw [e]; simp
    have := (cd a.length (0, 0) (by rw [e]; simp)).1
    exact ⟨this, by omega⟩
  | x :: c, a, b, C, e, hl, hx, cd => by
    have hC : C.length = a.length + (c.length + 1 + (b.length + 1)) := by rw [e]; simp; omega
    have := cd a.length x (by rw [e]; simp)
    refine ⟨this.1, fun _ => this.2, by omega, ?_⟩
    have ih := CdM.enc (c := c) (a := a ++ [x]) (b := b) (C := C) (by rw [e]; simp) hl hx cd
    simp only [List.length_append, List.length_cons, List.length_nil] at ih
    rw [show 660 * nx + a.length + 1 = 660 * nx + (a.length + (0 + 1)) by omega]
    exact ih
theorem EncAt.kp : ∀ {c : CodeT} {p : Nat}, (∀ i, p ≤ i → i ≤ p + c.length → gI h' 113 0 i = gI h 113 0 i ∧ gI h' 114 0 i = gI h 114 0 i) → EncAt h p c → EncAt h' p c
  | [], p, hh, e => ⟨(hh p (by omega) (by simp)).1.trans e.1, e.2⟩
  | x :: c, p, hh, e => ⟨(hh p (by omega) (by omega)).1.trans e.1, fun z => (hh p (by omega) (by omega)).2.trans (e.2.1 z), e.2.2.1, EncAt.kp (fun i h1 h2 => hh i (by omega) (by simp only [List.length_cons]; omega)) e.2.2.2⟩
theorem view_of {s' : MSt} (e : ∀ k s, vis k s = true → ¬ (k = 12 ∧ s = 2) → gI h' k 0 s = gI h k 0 s) (e2 : gI h' 12 0 2 = 0) : view h' = us (view h) 12 2 0 := by
  funext k s
  rw [us_app]
  by_cases c : k = 12 ∧ s = 2
  · rw [if_pos c, c.1, c.2, view, if_pos (show vis 12 2 = true from rfl)]; exact e2
  · rw [if_neg c, view, view]
    by_cases v : vis k s = true
    · rw [if_pos v, if_pos v]; exact e k s v c
    · rw [if_neg v, if_neg v]
theorem vis_k {k s : Nat} (v : vis k s = true) : (k = 12 ∧ s ≠ 0 ∧ s ≠ 3 ∧ s ≠ 7 ∧ s ≠ 8 ∧ s ≠ 15 ∧ s ≠ 16 ∧ s ≠ 17 ∧ s ≠ 18) ∨ k = 101 ∨ 127 ≤ k := by
  unfold vis at v
  split at v
  · rename_i e
    left
    refine ⟨e, ?_⟩
    simp only [Bool.or_eq_true, beq_iff_eq] at v
    omega
  · right
    simp only [Bool.or_eq_true, Bool.and_eq_true, beq_iff_eq, Nat.ble_eq] at v
    omega
theorem mText {c : Nat → Nat} {n b : Nat} {Q : Int32 → Hp → Prop} (e2 : gI h 12 0 2 = nJ n) (hn : n ≤ 600) (e3 : ∀ i, i < n → gI h 101 0 i = nJ (c i) ∧ c i ≤ 126) (tb : TexB b h T) (wr : WrdR h)
    (k1 : ∀ h' T', pText 17 [] (toks c n 600 0) = .inr T' → MR T' h' → view h' = us (view h) 12 2 0 → Fr xkB h h' → Q 0 h') (k0 : ∀ h' f, pText 17 [] (toks c n 600 0) = .inl f → MR T h' → view h' = us (view h) 12 2 0 → Fr xkB h h' → Q (nJ f) h') : wp_X12_text h Q := by
  have lall : (toks c n 600 0).length ≤ n + 1 := toks_len 600 0 (by omega)
  have wt : Wt (toks c n 600 0) := ⟨toks_ok 600 0, fun t ht => toks_U hn 600 0 t ht⟩
  obtain ⟨hb, b1, b2, b3, b4⟩ := tb
  refine mCut (c := c) (n := n) (by simp [gI_wI]; exact e2) hn (fun i hi => by simp [gI_wI]; exact e3 i hi) fun h2 am x7 x8 fk => ?_
  obtain ⟨nx, hnx, en⟩ : ∃ nx, nx < 2 ∧ nx = 1 - b := ⟨1 - b, by omega, rfl⟩
  have e15 : gI h2 12 0 15 = nJ b := by rw [fk.2 15 (by omega) (by omega)]; simp [gI_wI]; exact b1
  have e1b : (1 : Int32) - nJ b = nJ nx := by
    rw [en]
    rcases (by omega : b = 0 ∨ b = 1) with rfl | rfl <;> rfl
  have v2 : vp_in (nJ nx) 2 := (vp_nJ (by omega)).mpr hnx
  have tx : tN (nJ nx) = nx := tN_nJ (by omega)
  -- what came of all the model's steps, against the first heap
  have F2 : ∀ k i s, k ≠ 12 → k ≠ 104 → k ≠ 105 → k ≠ 106 → gI h2 k i s = gI h k i s := fun k i s y1 y2 y3 y4 => by
    rw [(fk.1 k (by simp [y1, y2, y3, y4])).2.1, gI_wIo y1, gI_wIo y1, gI_wIo y1]
  obtain ⟨h3, hh3⟩ : ∃ h3, h3 = wI (wI (wI h2 12 0 16 (nJ nx)) 110 0 nx 0) 12 0 17 0 := ⟨_, rfl⟩
  have G3 : ∀ k i s, ¬ (k = 12 ∧ (s = 16 ∨ s = 17)) → ¬ (k = 110 ∧ s = nx) → gI h3 k i s = gI h2 k i s := fun k i s y1 y2 => by
    rw [hh3, gI_wI, if_neg (by omega), gI_wI, if_neg (by omega), gI_wI, if_neg (by omega)]
  have L2 : gL h2 109 = gL h 109 := (fk.1 109 rfl).2.2.1
  have L3 : gL h3 = gL h2 := by rw [hh3]; rfl
  have s3 : SLn nx (toks c n 600 0) h3 h3 (toks c n 600 0) [] := by
    refine ⟨⟨0, rfl, by have := List.length_pos_iff.mpr wt.ne; omega, by rw [G3 12 0 7 (by omega) (by omega)]; exact x7⟩, ⟨fun j u hj => (am j u hj).kp (by funext a b; exact G3 104 a b (by omega) (by omega)) (by funext a b; exact G3 105 a b (by omega) (by omega)) L3, by omega, wr.fr (by rw [L3]; exact L2)⟩, by rw [G3 12 0 8 (by omega) (by omega)]; exact x8, ⟨by rw [hh3]; simp [gI_wI], hnx⟩, by rw [hh3]; simp [gI_wI]; rfl, fun j x hj => by simp [cM] at hj, by rw [hh3]; simp [gI_wI]; rfl, by simp, fun l y hy => by simp at hy, Fy.refl h3⟩
  have fin : ∀ h4, Fy nx h3 h4 → WrdR h4 ∧ (∀ k s, vis k s = true → ¬ (k = 12 ∧ s = 2) → gI h4 k 0 s = gI h k 0 s) ∧ gI h4 12 0 2 = 0 ∧ Fr xkB h h4 := fun h4 fy => by
    refine ⟨wr.fr (by rw [fy.2.1, L3]; exact L2), fun k s v nk => ?_, ?_, fun k hk => ?_⟩
    · have vk := vis_k v
      rw [fy.2.2.2 k 0 s (by omega) (by omega) (by omega) (by omega) (by omega), G3 k 0 s (by omega) (by omega)]
      by_cases y : k = 12
      · subst y
        rw [fk.2 s (by omega) (by omega), gI_wI, if_neg (by omega), gI_wI, if_neg (by omega), gI_wI, if_neg (by omega)]
      · exact F2 k 0 s y (by omega) (by omega) (by omega)
    · rw [fy.2.2.2 12 0 2 (by omega) (by omega) (by omega) (by omega) (by omega), G3 12 0 2 (by omega) (by omega), fk.2 2 (by omega) (by omega)]
      simp [gI_wI]
    · have kk : k ≠ 12 ∧ ¬ 100 ≤ k := by
        unfold xkB mkB at hk
        simp only [Bool.not_or, Bool.and_eq_true, Bool.not_eq_true', beq_eq_false_iff_ne, ne_eq] at hk
        refine ⟨hk.1, fun z => ?_⟩
        have := Nat.ble_eq.mpr z
        rw [this] at hk; cases hk.2
      have a := fk.1 k (by have h1 : k ≠ 104 := by omega
                           have h2 : k ≠ 105 := by omega
                           have h3 : k ≠ 106 := by omega
                           simp [kk.1, h1, h2, h3])
      refine ⟨?_, ?_, ?_, ?_⟩
      · rw [fy.1, hh3]; exact a.1
      · funext i s
        rw [fy.2.2.2 k i s (by omega) (by omega) (by omega) (by omega) (by omega), G3 k i s (by omega) (by omega)]
        exact F2 k i s kk.1 (by omega) (by omega) (by omega)
      · rw [fy.2.1, L3]; exact a.2.2.1
      · rw [fy.2.2.1, hh3]; exact a.2.2.2
  have run : ∃ N, w_X12_text_34 Q N h3 := by
    refine ⟨18, mTextL (nx := nx) (TS := toks c n 600 0) (hB := h3) 17 h3 [] (toks c n 600 0) (by simp) s3 wt (by simp [cat]; omega) (fun h4 T' ts' ep s4 hc => ?_) (fun h4 f ep ft => ?_)⟩
    · obtain ⟨f1, f2, f3, f4⟩ := fin h4 s4.2.2.2.2.2.2.2.2.2
      obtain ⟨-, -, -, -, s17, s113, s110, s16, sl, -⟩ := s4
      have cl := cM_len T'
      refine k1 _ T' ep ⟨⟨nx, hnx, by simp [gI_wI], by rw [gI_wIo (by omega)]; exact s110, s16, fun l y hy => ?_⟩, f1⟩ ?_ (f4.wI rfl)
      · obtain ⟨a1, a2, a, b, a3, a4⟩ := sl l y hy
        have hC : (cM T').length = a.length + (y.2.length + (b.length + 1)) := by rw [a3]; simp
        refine ⟨by rw [gI_wIo (by omega)]; exact a1, 660 * nx + a.length, by rw [gI_wIo (by omega)]; exact a4, by omega, by omega, EncAt.fr (gI_wIo (by omega)) (gI_wIo (by omega)) (CdM.enc a3 (by omega) hnx s113), a2⟩
      · exact view_of (s' := view h) (fun k s v nk => by
          have vk := vis_k v
          rw [gI_wI, if_neg (by omega)]; exact f2 k s v nk) (by rw [gI_wI, if_neg (by omega)]; exact f3)
    · obtain ⟨f1, f2, f3, f4⟩ := fin h4 ft.2.2.2
      have fy := ft.2.2.2
      refine k0 h4 f ep ⟨⟨b, hb, ?_, ?_, b3, fun l x hx => ?_⟩, f1⟩ (view_of (s' := view h) f2 f3) f4
      · rw [fy.2.2.2 12 0 15 (by omega) (by omega) (by omega) (by omega) (by omega), G3 12 0 15 (by omega) (by omega)]; exact e15
      · rw [fy.2.2.2 110 0 b (by omega) (by omega) (by omega) (by omega) (by omega), G3 110 0 b (by omega) (by omega), F2 110 0 b (by omega) (by omega) (by omega) (by omega)]; exact b2
      · obtain ⟨a1, p, a2, a3, a4, a5, a6⟩ := b4 l x hx
        have hll := (List.getElem?_eq_some_iff.mp hx).1
        refine ⟨?_, p, ?_, a3, a4, EncAt.kp (fun i h1 h2 => ?_) a5, a6⟩
        · rw [fy.2.2.2 111 0 _ (by omega) (by omega) (by omega) (by omega) (by omega), G3 111 0 _ (by omega) (by omega), F2 111 0 _ (by omega) (by omega) (by omega) (by omega)]; exact a1
        · rw [fy.2.2.2 112 0 _ (by omega) (by omega) (by omega) (by omega) (by omega), G3 112 0 _ (by omega) (by omega), F2 112 0 _ (by omega) (by omega) (by omega) (by omega)]; exact a2
        · refine ⟨?_, ?_⟩
          · rw [fy.2.2.2 113 0 i (by omega) (by omega) (by omega) (by omega) (by omega), G3 113 0 i (by omega) (by omega), F2 113 0 i (by omega) (by omega) (by omega) (by omega)]
          · rw [fy.2.2.2 114 0 i (by omega) (by omega) (by omega) (by omega) (by omega), G3 114 0 i (by omega) (by omega), F2 114 0 i (by omega) (by omega) (by omega) (by omega)]
  unfold w_X12_text_9 w_X12_text_28
  rw [e15, e1b]
  have e16 : gI (wI h2 12 0 16 (nJ nx)) 12 0 16 = nJ nx := by simp [gI_wI]
  rw [e16, tx, ← hh3]
  exact ⟨v2, run⟩
theorem jText (j : J h) : wp_X11_text h fun rx h1 => wp_X12_text h1 fun rm h2 => rm = rx ∧ J h2 := by
  obtain ⟨nS, nT, nU, nG, T, jr, mr⟩ := j
  obtain ⟨n, p1, p2, p3, p4⟩ := jr.2.2.2.2.2.2.1
  obtain ⟨tx0, x, hx, px3, px4⟩ := jr.2.2.2.2.2.2.2.1
  obtain ⟨g, hg, eg⟩ : ∃ g, g < 2 ∧ g = 1 - x := ⟨1 - x, by omega, rfl⟩
  rw [← eg] at px4
  obtain ⟨c, hc⟩ : ∃ c : Nat → Nat, ∀ i, i < n → view h 101 i = nJ (c i) ∧ c i ≤ 126 := by
    refine ⟨fun i => tN (view h 101 i), fun i hi => ?_⟩
    obtain ⟨-, q1, q2⟩ := p4 i hi
    refine ⟨(nJ_tN ?_).symm, ?_⟩
    · rw [Int32.le_iff_toInt_le]; exact q1
    · show tN (view h 101 i) ≤ 126
      rw [tN_toInt]; omega
  have tp : Tp h c n := ⟨p1, p3, fun i hi => ⟨(p4 i hi).1.trans (hc i hi).1, (hc i hi).2⟩⟩
  have lall : (toks c n 600 0).length ≤ n + 1 := toks_len 600 0 (by omega)
  have wt : Wt (toks c n 600 0) := ⟨toks_ok 600 0, fun t ht => toks_U p3 600 0 t ht⟩
  -- the model's half, from any heap that the program's own part left
  have half : ∀ h1 T1 r, JR nS nT nU nG T1 h1 (us (view h) 12 2 0) → Fc h h1 → (∀ T', pText 17 [] (toks c n 600 0) = .inr T' → r = 0 ∧ T1 = T') → (∀ f, pText 17 [] (toks c n 600 0) = .inl f → r = nJ f ∧ T1 = T) → wp_X12_text h1 fun rm h2 => rm = r ∧ J h2 := fun h1 T1 r jr1 fc y1 y0 => by
    have mr1 := Fc.mr fc mr
    obtain ⟨⟨b, tb⟩, wr⟩ := mr1
    have hv := view_fr fc
    refine mText (c := c) (n := n) (by rw [gv_12_2, hv]; exact p2) p3 (fun i hi => by rw [gv_101, hv]; exact hc i hi) tb wr (fun h2 T' ep m2 v2 f2 => ?_) (fun h2 f ep m2 v2 f2 => ?_)
    · obtain ⟨q1, q2⟩ := y1 T' ep
      refine ⟨q1.symm, nS, nT, nU, nG, T', ?_, m2⟩
      rw [v2, hv, ← q2]; exact jr1.fr f2
    · obtain ⟨q1, q2⟩ := y0 f ep
      refine ⟨q1.symm, nS, nT, nU, nG, T, ?_, m2⟩
      rw [v2, hv, ← q2]; exact jr1.fr f2
  refine xTape tp fun h1 a1 e71 f1 c1 => ?_
  refine ⟨g, by rw [(f1 0 rfl).2.2.2]; exact px4, ?_⟩
  show ∃ N, w_X0_readTape_20 _ N 0 (wI (wI h1 1 g 3 0) 1 g 6 0)
  obtain ⟨h2, hh2⟩ : ∃ h2, h2 = wI (wI h1 1 g 3 0) 1 g 6 0 := ⟨_, rfl⟩
  rw [← hh2]
  have tl : TxL g h2 [] := ⟨⟨by rw [hh2]; simp [gI_wI, cat]; rfl, trivial⟩, by rw [hh2]; simp [gI_wI]; rfl, by simp, fun z => absurd z (by simp), fun l y hy => by simp at hy⟩
  have at2 : AtL (toks c n 600 0) h2 (toks c n 600 0) := ⟨0, a1.kp fun k hk => by rw [hh2, gI_wIo (by omega), gI_wIo (by omega)], rfl⟩
  -- the frame, from the first heap
  have FT : ∀ h3, Fl g h2 h3 → Ft g h h3 := fun h3 fl => by
    refine ⟨by rw [fl.1, hh2]; exact c1, fun k hk => ?_, fun k i s y1 y2 y3 y4 y5 y6 y7 => ?_, fun k i s y1 y2 y3 y4 y5 y6 y7 y8 => ?_⟩
    · rw [fl.2.1, hh2]
      refine (f1 k ?_).2.2.1
      have : k = 12 ∨ 100 ≤ k := by
        unfold mkB at hk
        simp only [Bool.or_eq_true, beq_iff_eq, Nat.ble_eq] at hk
        exact hk
      have n7 : k ≠ 7 := by omega
      have n9 : k ≠ 9 := by omega
      have n33 : k ≠ 33 := by omega
      have n34 : k ≠ 34 := by omega
      have n35 : k ≠ 35 := by omega
      simp [fU, n7, n9, n33, n34, n35]
    · rw [fl.2.2.1 k i s y1, hh2]
      show gP h1 k i s = _
      rw [(f1 k (by simp [fU, y3, y4, y5, y6, y7])).2.2.2]
    · rw [fl.2.2.2 k i s y2 y6 y7 (by omega), hh2, gI_wI, if_neg (by omega), gI_wI, if_neg (by omega), (f1 k (by simp [fU, y1, y2, y3, y4, y5])).2.1]
  have FC : ∀ h3, Ft g h h3 → Fc h h3 := fun h3 ft k hk => by
    have hk' : k = 12 ∨ 100 ≤ k := by
      unfold mkB at hk
      simp only [Bool.or_eq_true, beq_iff_eq, Nat.ble_eq] at hk
      exact hk
    refine ⟨by rw [ft.1], ?_, ft.2.1 k hk, ?_⟩
    · funext i s; exact ft.2.2.2 k i s (by omega) (by omega) (by omega) (by omega) (by omega) (by omega) (by omega) (by omega)
    · funext i s; exact ft.2.2.1 k i s (by omega) (by omega) (by omega) (by omega) (by omega) (by omega) (by omega)
  have e7' : ∀ h3, Fl g h2 h3 → gI h3 7 0 1 = 0 := fun h3 fl => by
    rw [fl.2.2.2 7 0 1 (by omega) (by omega) (by omega) (by omega), hh2, gI_wIo (by omega), gI_wIo (by omega)]; exact e71
  have P3 : ∀ h3, Fl g h2 h3 → gP h3 0 0 3 = some (1, x) ∧ gP h3 0 0 4 = some (1, g) := fun h3 fl => by
    refine ⟨?_, ?_⟩
    · rw [fl.2.2.1 0 0 3 (by omega), hh2]
      show gP h1 0 0 3 = _
      rw [(f1 0 rfl).2.2.2]; exact px3
    · rw [fl.2.2.1 0 0 4 (by omega), hh2]
      show gP h1 0 0 4 = _
      rw [(f1 0 rfl).2.2.2]; exact px4
  refine ⟨18, xTextL (TS := toks c n 600 0) (g := g) (h0 := h2) 17 h2 [] (toks c n 600 0) (by omega) (by simp) (by rw [hh2]; show gP h1 0 0 4 = _; rw [(f1 0 rfl).2.2.2]; exact px4) at2 wt tl (by simp [cat]; omega) (Fl.refl h2) (fun h3 T' ep t3 hc3 fl => ?_) (fun h3 f ep fl => ?_)⟩
  · obtain ⟨q3, q4⟩ := P3 h3 fl
    rw [q3, q4]
    have ft : Ft g h (wP (wP h3 0 0 3 (some (1, g))) 0 0 4 (some (1, x))) := by
      have := FT h3 fl
      refine ⟨this.1, this.2.1, fun k i s y1 y2 y3 y4 y5 y6 y7 => ?_, this.2.2.2⟩
      rw [gP_wP, if_neg (by omega), gP_wP, if_neg (by omega)]; exact this.2.2.1 k i s y1 y2 y3 y4 y5 y6 y7
    refine half _ T' 0 (textJ jr ft (e7' h3 fl) ⟨?_, g, hg, by simp [gP_wP], by simp [gP_wP]; omega⟩) (FC _ ft) (fun T2 e2 => ⟨rfl, by rw [ep] at e2; cases e2; rfl⟩) (fun f e2 => by rw [ep] at e2; cases e2)
    refine TxL.x (g := g) (h := wP (wP h3 0 0 3 (some (1, g))) 0 0 4 (some (1, x))) ?_ hc3 (by simp [gP_wP]) hg
    obtain ⟨⟨u1, u2⟩, u3, u4, u5, u6⟩ := t3
    exact ⟨⟨u1, CodAt_up (h := h3) (fun _ _ _ => rfl) u2⟩, u3, u4, u5, u6⟩
  · have ft := FT h3 fl
    obtain ⟨q3, q4⟩ := P3 h3 fl
    refine half h3 T (nJ f) (textJ jr ft (e7' h3 fl) ⟨?_, x, hx, q3, by rw [q4, eg]⟩) (FC _ ft) (fun T2 e2 => by rw [ep] at e2; cases e2) (fun f' e2 => ⟨by rw [ep] at e2; cases e2; rfl, rfl⟩)
    obtain ⟨x', e1, e2, e3, e4, e5⟩ := tx0
    have exx : x' = x := by rw [px3] at e1; cases e1; rfl
    subst exx
    have I : ∀ k s, k = 1 ∨ k = 28 ∨ k = 29 ∨ k = 31 → gI h3 k x' s = gI h k x' s := fun k s hk => ft.2.2.2 k x' s (by omega) (by omega) (by omega) (by omega) (by omega) (by omega) (by omega) (by omega)
    refine ⟨x', q3, e2, by rw [I 1 6 (by omega)]; exact e3, e4, fun l y hy => ?_⟩
    obtain ⟨a1, a2, s, a3, a4, a5, a6, a7⟩ := e5 l y hy
    exact ⟨by rw [I 31 l (by omega)]; exact a1, a2, s, a3, fun z => by rw [I 29 _ (by omega)]; exact a4 z, by rw [I 29 _ (by omega)]; exact a5, a6, CodAt_up (fun i _ _ => I 28 i (by omega)) a7⟩
end
