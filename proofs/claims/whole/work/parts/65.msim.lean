/-! sums, tests, and what stands together -/
section
variable {nx : Nat} {TS : List Tk} {h0 : Hp} {h h' : Hp} {C : CodeT} {W : WT} {t : Tk} {r ts : List Tk} {d : Nat} {Q : Hp → Prop} {a1 : Int32}
theorem St.cd (s : St nx TS h0 h ts d C W) (hd : d ≤ 5) : gI h 12 0 18 = nJ d ∧ vp_in (nJ d) 7 ∧ tN (nJ d) = d := ⟨s.2.2.2.1, (vp_nJ (by omega)).mpr (by omega), tN_nJ (by omega)⟩
theorem St.ws (s : St nx TS h0 h ts d C W) : gI h 119 0 d = nJ (W d).1 ∧ gI h 120 0 d = nJ (W d).2.1 ∧ gI h 121 0 d = nJ (W d).2.2 := s.2.2.2.2.2.2.2.1 d (Nat.le_refl _)
theorem simSumL {P : List Tk → Res} {b : Nat} (hd : d ≤ 5) (hP : Sim nx TS h0 Q a1 d (fun _ => True) P (fun N N' h => w_X12_goesOnBehind_0 (QB Q a1 N) (N' + 1) h)) (gP' : Gd b P) {W : WT} (hW : (W d).1 = 0) :
    ∀ (n : Nat) (h : Hp) (c : CodeT) (ts : List Tk), ts.length ≤ n → St nx TS h0 h ts d (C ++ c) W → Wt ts → (C ++ c).length + ts.length ≤ 620 → (∀ cc r, pSumL P n c ts = .inr (cc, r) → ∀ h' N N', r.length + 1 ≤ N → d ≤ N' → St nx TS h0 h' r d (C ++ cc) W → w_X12_goesOnBehind_96 (w_X12_goesOnBehind_0 (QB Q a1 N) N') (QB Q a1 N) h') → (∀ f, pSumL P n c ts = .inl f → ∀ h', FailM nx h0 h' f → w_X12_line_219 Q a1 0 h') → ∀ N N', ts.length + 1 ≤ N → d ≤ N' → w_X12_goesOnBehind_43 (w_X12_goesOnBehind_0 (QB Q a1 N) N') (QB Q a1 N) h := by
  intro n
  induction n with
  | zero =>
    intro h c ts hn st w hl k1 k0 N N' hN hN'
    have := List.length_pos_iff.mpr w.ne; omega
  | succ n ih =>
    intro h c ts hn st w hl k1 k0 N N' hN hN'
    match ts, hn, st, w, hl, k1, k0, hN with
    | [], hn, st, w, hl, k1, k0, hN => exact absurd rfl w.ne
    | t :: r, hn, st, w, hl, k1, k0, hN =>
      simp only [List.length_cons] at hn hl hN
      rw [pSumL] at k1 k0
      obtain ⟨e18, v7, t7⟩ := st.cd hd
      have go : (t.1 = 10 ∨ t.1 = 11) → w_X12_goesOnBehind_61 (QB Q a1 N) h := fun z => by
        rw [if_pos z] at k1 k0
        have wr : Wt r := w.tl (by omega)
        have lay : ∀ v : Nat, v = (if t.1 = 10 then 3 else 4) → w_X12_goesOnBehind_83 (QB Q a1 N) (gI h 12 0 18) (nJ v) h := fun v hv => by
          have v3 : 3 ≤ v ∧ v ≤ 4 := by rw [hv]; split <;> omega
          have s1 : St nx TS h0 (wI h 119 0 d (nJ v)) (t :: r) d (C ++ c) (fun e => if e = d then (v, (W d).2) else W e) := st.wt (k := 119) (Or.inl rfl) (fun e _ he => by simp [he]) (by simp) (by simp) (by simp)
          have s2 := s1.nxt wr
          unfold w_X12_goesOnBehind_83
          rw [e18, t7]
          refine ⟨v7, fun q => absurd q (by decide), fun _ => ?_⟩
          refine hP _ r (C ++ c) _ s2 wr (by omega) trivial (fun cc rr ep h3 N3 N3' hN3 hN3' s3 => ?_) (fun ff ep h3 fm => ?_) N (by omega)
          · obtain ⟨g1, g2, g3⟩ := gP' r cc rr wr ep
            simp only [ep] at k1 k0
            obtain ⟨e18', -, -⟩ := s3.cd hd
            have e119 : gI h3 119 0 d = nJ v := by have := s3.ws.1; simpa using this
            have nz : ¬ nJ v = 0 := fun q => by have := (neq (y := 0) (by omega) (by omega)).mp q; omega
            refine ⟨fun q => absurd s3.2.2.1 q, fun _ => ?_⟩
            unfold w_X12_goesOnBehind_7 w_X12_goesOnBehind_19
            rw [e18', t7, e119]
            refine ⟨v7, fun q => absurd q nz, fun _ => ⟨v7, ?_⟩⟩
            refine St.emit (o := v) (a := 0) s3 (by simp at hl ⊢; omega) fun h4 s4 => ?_
            obtain ⟨e18'', -, -⟩ := s4.cd hd
            unfold w_X12_goesOnBehind_33
            rw [e18'', t7]
            refine ⟨v7, ?_⟩
            have s5 : St nx TS h0 (wI h4 119 0 d (nJ 0)) rr d (C ++ c ++ cc ++ [(v, 0)]) W := s4.wt (k := 119) (Or.inl rfl) (fun e _ he => by simp [he]) (by simp [hW]) (by simp) (by simp)
            refine ih _ (c ++ cc ++ [(if t.1 = 10 then 3 else 4, 0)]) rr (by omega) ?_ g1 ?_ k1 k0 N3 N3' hN3 hN3'
            · rw [← hv]; simp only [List.append_assoc] at s5 ⊢; exact s5
            · simp at hl ⊢; omega
          · simp only [ep] at k0
            exact k0 ff rfl h3 fm
        show wp_X12_isSign 43 h _
        refine mSign (s := 10) st (by omega) (by omega) ⟨fun y => ?_, fun y => ?_⟩
        · rw [bI_0] at y; exact lay 4 (by rw [if_neg y])
        · rw [bI_0] at y; exact lay 3 (by rw [if_pos (Decidable.not_not.mp y)])
      show wp_X12_isSign 43 h _
      refine mSign (s := 10) st (by omega) (by omega) ⟨fun y => ?_, fun y => ?_⟩
      · rw [bI_0] at y; exact go (Or.inl (Decidable.not_not.mp y))
      · rw [bI_0] at y
        show wp_X12_isSign 45 h _
        refine mSign (s := 11) st (by omega) (by omega) ⟨fun y2 => ?_, fun y2 => ?_⟩
        · rw [bI_0] at y2
          rw [if_neg (fun q => q.elim y y2)] at k1
          exact k1 c (t :: r) rfl h N N' (by simp; omega) hN' st
        · rw [bI_0] at y2; exact go (Or.inr (Decidable.not_not.mp y2))
theorem simSum {P : List Tk → Res} {b : Nat} (hd : d ≤ 5) (hP : Sim nx TS h0 Q a1 d (fun _ => True) P (fun N N' h => w_X12_goesOnBehind_0 (QB Q a1 N) (N' + 1) h)) (gP' : Gd b P) (hT : TS.length ≤ 601) : Sim nx TS h0 Q a1 d (fun w => w.1 = 0) (pSum P) (fun N N' h => w_X12_goesOnBehind_96 (w_X12_goesOnBehind_0 (QB Q a1 N) N') (QB Q a1 N) h) := by
  intro h ts C W st w hl hW k1 k0 N hN
  refine hP h ts C W st w hl trivial (fun c r ep h1 N1 N' hN1 hN' s1 => ?_) (fun ff ep h1 fm => ?_) N hN
  · obtain ⟨g1, g2, g3⟩ := gP' ts c r w ep
    unfold pSum at k1 k0
    simp only [ep] at k1 k0
    obtain ⟨e18, v7, t7⟩ := s1.cd hd
    have e119 : gI h1 119 0 d = 0 := by rw [s1.ws.1, hW]; rfl
    refine ⟨fun q => absurd s1.2.2.1 q, fun _ => ?_⟩
    unfold w_X12_goesOnBehind_7
    rw [e18, t7, e119]
    refine ⟨v7, fun _ => ?_, fun q => absurd rfl q⟩
    have r6 : r.length ≤ 600 := by
      obtain ⟨⟨i, e, hi, -⟩, -⟩ := st
      have := congrArg List.length e
      rw [List.length_drop] at this
      by_cases y : c.length = 0
      · have : c = [] := List.length_eq_zero_iff.mp y
        have h3 := g3 0 (by omega)
        rw [this] at h3; cases h3
      · omega
    exact simSumL hd hP gP' hW 600 h1 c r r6 s1 g1 (by simp; omega) k1 k0 N1 N' hN1 hN'
  · unfold pSum at k0
    simp only [ep] at k0
    exact k0 ff rfl h1 fm
theorem simTest {P : List Tk → Res} {b : Nat} (hd : d ≤ 5) (hP : Sim nx TS h0 Q a1 d (fun w => w.1 = 0) P (fun N N' h => w_X12_goesOnBehind_96 (w_X12_goesOnBehind_0 (QB Q a1 N) N') (QB Q a1 N) h)) (gP' : Gd b P) : Sim nx TS h0 Q a1 d (fun w => w.1 = 0 ∧ w.2.1 = 0) (pTest P) (fun N N' h => w_X12_goesOnBehind_189 (w_X12_goesOnBehind_0 (QB Q a1 N) N') (QB Q a1 N) h) := by
  intro h ts C W st w hl hW k1 k0 N hN
  refine hP h ts C W st w hl hW.1 (fun c r ep h1 N1 N' hN1 hN' s1 => ?_) (fun ff ep h1 fm => ?_) N hN
  · obtain ⟨g1, g2, g3⟩ := gP' ts c r w ep
    unfold pTest at k1 k0
    match r, ep, s1, g1, g2, hN1 with
    | [], ep, s1, g1, g2, hN1 => exact absurd rfl g1.ne
    | t :: r, ep, s1, g1, g2, hN1 =>
      simp only [ep] at k1 k0
      simp only [List.length_cons] at g2 hN1
      obtain ⟨e18, v7, t7⟩ := s1.cd hd
      have e120 : gI h1 120 0 d = 0 := by rw [s1.ws.2.1, hW.2]; rfl
      have go : (t.1 = 8 ∨ t.1 = 9) → w_X12_goesOnBehind_153 (QB Q a1 N1) h1 := fun z => by
        rw [if_pos z] at k1 k0
        have wr : Wt r := g1.tl (by omega)
        have lay : ∀ v : Nat, v = (if t.1 = 8 then 5 else 6) → w_X12_goesOnBehind_176 (QB Q a1 N1) (gI h1 12 0 18) (nJ v) h1 := fun v hv => by
          have v3 : 5 ≤ v ∧ v ≤ 6 := by rw [hv]; split <;> omega
          have s2 : St nx TS h0 (wI h1 120 0 d (nJ v)) (t :: r) d (C ++ c) (fun e => if e = d then ((W d).1, v, (W d).2.2) else W e) := s1.wt (k := 120) (Or.inr (Or.inl rfl)) (fun e _ he => by simp [he]) (by simp) (by simp) (by simp)
          have s3 := s2.nxt wr
          unfold w_X12_goesOnBehind_176
          rw [e18, t7]
          refine ⟨v7, fun q => absurd q (by decide), fun _ => ?_⟩
          refine hP _ r (C ++ c) _ s3 wr (by simp; omega) (by simp [hW.1]) (fun cc rr ep2 h3 N3 N3' hN3 hN3' s4 => ?_) (fun ff ep2 h3 fm => ?_) N1 (by omega)
          · obtain ⟨q1, q2, q3⟩ := gP' r cc rr wr ep2
            simp only [ep2] at k1
            obtain ⟨e18', -, -⟩ := s4.cd hd
            have e120' : gI h3 120 0 d = nJ v := by have := s4.ws.2.1; simpa using this
            have nz : ¬ nJ v = 0 := fun q => by have := (neq (y := 0) (by omega) (by omega)).mp q; omega
            show w_X12_goesOnBehind_96 _ _ h3
            unfold w_X12_goesOnBehind_96 w_X12_goesOnBehind_108
            rw [e18', t7, e120']
            refine ⟨v7, fun q => absurd q nz, fun _ => ⟨v7, ?_⟩⟩
            refine St.emit (o := v) (a := 0) s4 (by simp; omega) fun h4 s5 => ?_
            obtain ⟨e18'', -, -⟩ := s5.cd hd
            unfold w_X12_goesOnBehind_122
            rw [e18'', t7]
            refine ⟨v7, ?_⟩
            have s6 : St nx TS h0 (wI h4 120 0 d (nJ 0)) rr d (C ++ c ++ cc ++ [(v, 0)]) W := s5.wt (k := 120) (Or.inr (Or.inl rfl)) (fun e _ he => by simp [he]) (by simp) (by simp [hW.2]) (by simp)
            refine k1 _ rr rfl _ N3 N3' hN3 hN3' ?_
            rw [← hv]; simp only [List.append_assoc] at s6 ⊢; exact s6
          · simp only [ep2] at k0
            exact k0 ff rfl h3 fm
        show wp_X12_isSign 60 h1 _
        refine mSign (s := 8) s1 (by omega) (by omega) ⟨fun y => ?_, fun y => ?_⟩
        · rw [bI_0] at y; exact lay 6 (by rw [if_neg y])
        · rw [bI_0] at y; exact lay 5 (by rw [if_pos (Decidable.not_not.mp y)])
      show w_X12_goesOnBehind_96 _ _ h1
      unfold w_X12_goesOnBehind_96
      rw [e18, t7, e120]
      refine ⟨v7, fun _ => ?_, fun q => absurd rfl q⟩
      show wp_X12_isSign 60 h1 _
      refine mSign (s := 8) s1 (by omega) (by omega) ⟨fun y => ?_, fun y => ?_⟩
      · rw [bI_0] at y; exact go (Or.inl (Decidable.not_not.mp y))
      · rw [bI_0] at y
        show wp_X12_isSign 61 h1 _
        refine mSign (s := 9) s1 (by omega) (by omega) ⟨fun y2 => ?_, fun y2 => ?_⟩
        · rw [bI_0] at y2
          rw [if_neg (fun q => q.elim y y2)] at k1
          exact k1 c (t :: r) rfl h1 N1 N' (by simp; omega) hN' s1
        · rw [bI_0] at y2; exact go (Or.inr (Decidable.not_not.mp y2))
  · unfold pTest at k0
    simp only [ep] at k0
    exact k0 ff rfl h1 fm
theorem simAllL {P : List Tk → Res} {b : Nat} (hd : d ≤ 5) (hP : Sim nx TS h0 Q a1 d (fun w => w.1 = 0 ∧ w.2.1 = 0) P (fun N N' h => w_X12_goesOnBehind_189 (w_X12_goesOnBehind_0 (QB Q a1 N) N') (QB Q a1 N) h)) (gP' : Gd b P) {W : WT} (hW : W d = (0, 0, 0)) :
    ∀ (n : Nat) (h : Hp) (c : CodeT) (ts : List Tk), ts.length ≤ n → St nx TS h0 h ts d (C ++ c) W → Wt ts → (C ++ c).length + ts.length ≤ 620 → (∀ cc r, pAllL P n c ts = .inr (cc, r) → ∀ h' N N', r.length + 1 ≤ N → d ≤ N' → St nx TS h0 h' r d (C ++ cc) W → w_X12_goesOnBehind_249 (w_X12_goesOnBehind_0 (QB Q a1 N) N') (QB Q a1 N) h') → (∀ f, pAllL P n c ts = .inl f → ∀ h', FailM nx h0 h' f → w_X12_line_219 Q a1 0 h') → ∀ N N', ts.length + 1 ≤ N → d ≤ N' → w_X12_goesOnBehind_218 (w_X12_goesOnBehind_0 (QB Q a1 N) N') (QB Q a1 N) h := by
  intro n
  induction n with
  | zero =>
    intro h c ts hn st w hl k1 k0 N N' hN hN'
    have := List.length_pos_iff.mpr w.ne; omega
  | succ n ih =>
    intro h c ts hn st w hl k1 k0 N N' hN hN'
    match ts, hn, st, w, hl, k1, k0, hN with
    | [], hn, st, w, hl, k1, k0, hN => exact absurd rfl w.ne
    | t :: r, hn, st, w, hl, k1, k0, hN =>
      simp only [List.length_cons] at hn hl hN
      rw [pAllL] at k1 k0
      obtain ⟨e18, v7, t7⟩ := st.cd hd
      have k5 : kw 2 = 5 := by decide
      show wp_X12_isWord 2 h _
      refine mWord (w := 2) st (by omega) ⟨fun y => ?_, fun y => ?_⟩
      · rw [bI_0, k5] at y
        rw [if_neg y] at k1
        exact k1 c (t :: r) rfl h N N' (by simp; omega) hN' st
      · rw [bI_0, k5] at y
        have z := Decidable.not_not.mp y
        rw [if_pos z] at k1 k0
        have wr : Wt r := w.tl (by omega)
        have s1 : St nx TS h0 (wI h 121 0 d (nJ 7)) (t :: r) d (C ++ c) (fun e => if e = d then (0, 0, 7) else W e) := st.wt (k := 121) (Or.inr (Or.inr rfl)) (fun e _ he => by simp [he]) (by simp [hW]) (by simp [hW]) (by simp)
        have s2 := s1.nxt wr
        unfold w_X12_goesOnBehind_226
        rw [e18, t7]
        refine ⟨v7, fun q => absurd q (by decide), fun _ => ?_⟩
        refine hP _ r (C ++ c) _ s2 wr (by omega) (by simp) (fun cc rr ep h3 N3 N3' hN3 hN3' s3 => ?_) (fun ff ep h3 fm => ?_) N (by omega)
        · obtain ⟨g1, g2, g3⟩ := gP' r cc rr wr ep
          simp only [ep] at k1 k0
          obtain ⟨e18', -, -⟩ := s3.cd hd
          have e121 : gI h3 121 0 d = nJ 7 := by have := s3.ws.2.2; simpa using this
          have nz : ¬ nJ 7 = 0 := by decide
          show w_X12_goesOnBehind_189 _ _ h3
          unfold w_X12_goesOnBehind_189 w_X12_goesOnBehind_201
          rw [e18', t7, e121]
          refine ⟨v7, fun q => absurd q nz, fun _ => ?_⟩
          refine St.emit (o := 7) (a := 0) s3 (by simp at hl ⊢; omega) fun h4 s4 => ?_
          obtain ⟨e18'', -, -⟩ := s4.cd hd
          unfold w_X12_goesOnBehind_208
          rw [e18'', t7]
          refine ⟨v7, ?_⟩
          have s5 : St nx TS h0 (wI h4 121 0 d (nJ 0)) rr d (C ++ c ++ cc ++ [(7, 0)]) W := s4.wt (k := 121) (Or.inr (Or.inr rfl)) (fun e _ he => by simp [he]) (by simp [hW]) (by simp [hW]) (by simp [hW])
          refine ih _ (c ++ cc ++ [(7, 0)]) rr (by omega) ?_ g1 ?_ k1 k0 N3 N3' hN3 hN3'
          · simp only [List.append_assoc] at s5 ⊢; exact s5
          · simp at hl ⊢; omega
        · simp only [ep] at k0
          exact k0 ff rfl h3 fm
theorem simAll (hT : TS.length ≤ 601) : ∀ (f d : Nat), d ≤ 5 → 6 ≤ f + d → 1 ≤ f → Sim nx TS h0 Q a1 d (fun w => w = (0, 0, 0)) (pAll f d) (fun N N' h => w_X12_goesOnBehind_249 (w_X12_goesOnBehind_0 (QB Q a1 N) N') (QB Q a1 N) h)
  | 0, d, _, _, h => by omega
  | f + 1, d, hd, h6, _ => by
    have hp := simPart (nx := nx) (TS := TS) (h0 := h0) (Q := Q) (a1 := a1) hd (fun y => simAll hT f (d + 1) (by omega) (by omega) (by omega)) (fun _ => gd_all f (d + 1))
    have gp : Gd (3 * d + 3) (pPart (pAll f) d) := gd_part fun _ => gd_all f (d + 1)
    have hs := simSum hd hp gp hT
    have ht := simTest hd hs (gd_sum gp)
    have gt := gd_test (gd_sum gp)
    intro h ts C W st w hl hW k1 k0 N hN
    refine ht h ts C W st w hl (by rw [hW]; exact ⟨rfl, rfl⟩) (fun c r ep h1 N1 N' hN1 hN' s1 => ?_) (fun ff ep h1 fm => ?_) N hN
    · obtain ⟨g1, g2, g3⟩ := gt ts c r w ep
      rw [pAll] at k1 k0
      simp only [ep] at k1 k0
      obtain ⟨e18, v7, t7⟩ := s1.cd hd
      have e121 : gI h1 121 0 d = 0 := by rw [s1.ws.2.2, hW]; rfl
      show w_X12_goesOnBehind_189 _ _ h1
      unfold w_X12_goesOnBehind_189
      rw [e18, t7, e121]
      refine ⟨v7, fun _ => ?_, fun q => absurd rfl q⟩
      have r6 : r.length ≤ 600 := by
        obtain ⟨⟨i, e, hi, -⟩, -⟩ := st
        have := congrArg List.length e
        rw [List.length_drop] at this
        by_cases y : c.length = 0
        · have : c = [] := List.length_eq_zero_iff.mp y
          have h3 := g3 0 (by omega)
          rw [this] at h3; cases h3
        · omega
      exact simAllL hd ht gt hW 600 h1 c r r6 s1 g1 (by simp; omega) k1 k0 N1 N' hN1 hN'
    · rw [pAll] at k0
      simp only [ep] at k0
      exact k0 ff rfl h1 fm
end
