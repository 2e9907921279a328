/-! a group -/
section
variable {nS nT nU nG : Nat} {h h' : Hp} {S S' : MSt} {T : TextT}
def f24 (k : Nat) : Bool := !(k == 24)
theorem xPut {L : List Nat} {a3 : Int32} {Q : Hp → Prop} {tk : Nat → Int32} (hl : L.length = nG) (hG : nG < 60) (e8 : gI h 11 0 8 = nJ nG) (l4 : ∀ j x, L[j]? = some x → gP h 24 0 j = some (2, x)) (ht : ∀ x, x ∈ L → gI h 2 x 2 = tk x) (hn : gI h 2 nG 2 = a3)
    (kk : ∀ h' p, p ≤ nG → (∀ j x, (L.take p ++ nG :: L.drop p)[j]? = some x → gP h' 24 0 j = some (2, x)) → (0 < p → ∀ x, L[p - 1]? = some x → tk x ≤ a3) → (∀ x, x ∈ L.drop p → a3 < tk x) → Fr f24 h h' → gI h' = gI h → gC h' = gC h → Q h') : wp_X11_putByTicket (some (2, nG)) h Q := by
  suffices H : ∀ p h1, p ≤ nG → (∀ j x, j < p → L[j]? = some x → gP h1 24 0 j = some (2, x)) → (∀ j x, p ≤ j → L[j]? = some x → gP h1 24 0 (j + 1) = some (2, x)) → (∀ x, x ∈ L.drop p → a3 < tk x) → Fr f24 h h1 → gI h1 = gI h → gC h1 = gC h → w_X11_putByTicket_5 Q (p + 1) (some (2, nG)) (nJ p) h1 by
    refine ⟨nG + 1, ?_⟩
    rw [e8]
    refine H nG h (Nat.le_refl _) (fun j x _ hj => l4 j x hj) (fun j x hj hx => ?_) (fun x hx => ?_) (Fr.refl h) rfl rfl
    · have := (List.getElem?_eq_some_iff.mp hx).1; omega
    · rw [← hl, List.drop_length] at hx; cases hx
  have fin : ∀ p h1, p ≤ nG → (∀ j x, j < p → L[j]? = some x → gP h1 24 0 j = some (2, x)) → (∀ j x, p ≤ j → L[j]? = some x → gP h1 24 0 (j + 1) = some (2, x)) → (∀ x, x ∈ L.drop p → a3 < tk x) → Fr f24 h h1 → gI h1 = gI h → gC h1 = gC h → (0 < p → ∀ x, L[p - 1]? = some x → tk x ≤ a3) → w_X11_putByTicket_47 Q nG (nJ p) h1 := by
    intro p h1 hp A B C F I1 C1 D
    refine ⟨(vp_nJ (by omega)).mpr (by omega), ?_⟩
    rw [tN_nJ (by omega)]
    refine kk _ p hp (fun j x hj => ?_) D C (F.wP rfl) I1 C1
    have lt : (L.take p).length = p := by rw [List.length_take]; omega
    rw [gP_wP]
    by_cases c : j < p
    · rw [List.getElem?_append_left (by omega), List.getElem?_take_of_lt c] at hj
      rw [if_neg (by omega)]; exact A j x c hj
    · by_cases c2 : j = p
      · subst c2
        rw [List.getElem?_append_right (by omega), lt, Nat.sub_self] at hj
        simp at hj
        rw [if_pos ⟨rfl, rfl, rfl⟩, hj]
      · rw [List.getElem?_append_right (by omega), lt] at hj
        obtain ⟨d, hd⟩ : ∃ d, j - p = d + 1 := ⟨j - p - 1, by omega⟩
        rw [hd, List.getElem?_cons_succ, List.getElem?_drop] at hj
        rw [if_neg (by omega)]
        have := B (p + d) x (by omega) hj
        rw [show p + d + 1 = j by omega] at this
        exact this
  intro p
  induction p with
  | zero =>
    intro h1 hp A B C F I1 C1
    exact ⟨fun _ => ⟨nG, rfl, fin 0 h1 hp A B C F I1 C1 (fun z => absurd z (by omega))⟩, fun z => absurd (Int32.le_refl _) z⟩
  | succ p ih =>
    intro h1 hp A B C F I1 C1
    have hp' : p < L.length := by omega
    have tp : tN (nJ p) = p := tN_nJ (by omega)
    have e1 : gP h1 24 0 p = some (2, L[p]) := A p L[p] (by omega) (List.getElem?_eq_getElem hp')
    have et : gI h1 2 L[p] 2 = tk L[p] := by rw [I1]; exact ht _ (List.getElem_mem hp')
    have en : gI h1 2 nG 2 = a3 := by rw [I1]; exact hn
    refine ⟨fun z => absurd z ?_, fun _ => ⟨nG, rfl, L[p], ?_, ?_, fun z => ?_, fun z => ⟨L[p], ?_, ?_, (vp_nJ (by omega)).mpr (by omega), ?_⟩⟩⟩
    · intro z
      have := (nJ_le (a := p + 1) (b := 0) (by omega) (by omega)).mp z; omega
    · rw [nJ_pred, tp]; exact e1
    · rw [nJ_pred, vp_nJ (by omega)]; omega
    · rw [et, en] at z
      refine fin (p + 1) h1 hp A B C F I1 C1 fun _ x hx => ?_
      rw [Nat.add_sub_cancel, List.getElem?_eq_getElem hp'] at hx
      cases hx; exact z
    · rw [nJ_pred, tp]; exact e1
    · rw [nJ_pred, vp_nJ (by omega)]; omega
    · rw [et, en] at z
      rw [nJ_m1, tN_nJ (by omega)]
      refine ih _ (by omega) (fun j x hj hx => ?_) (fun j x hj hx => ?_) (fun x hx => ?_) (F.wP rfl) I1 C1
      · rw [gP_wP, if_neg (by omega)]; exact A j x (by omega) hx
      · rw [gP_wP]
        by_cases c : j = p
        · subst c
          rw [List.getElem?_eq_getElem hp'] at hx
          cases hx
          rw [if_pos ⟨rfl, rfl, rfl⟩]
        · rw [if_neg (by omega)]; exact B j x (by omega) hx
      · rw [List.drop_eq_getElem_cons hp'] at hx
        rcases List.mem_cons.mp hx with y | y
        · rw [y]; exact Int32.not_le.mp z
        · exact C x y
def gHp (h : Hp) (g : Nat) (p7 p8 : Option PtrT) (a2 a3 a4 a6 : Int32) : Hp := wP (wI (wP (wI (wI (wI (wP (wI (wI (wI (wI (wI (nw h 2) 2 g 6 0) 2 g 8 (-1)) 2 g 10 (-1)) 2 g 12 (-1)) 2 g 13 (-1)) 2 g 0 p7) 2 g 1 a2) 2 g 2 a3) 2 g 3 a4) 2 g 4 p8) 2 g 5 a6) 23 0 g (some (2, g))
def gSt (S : MSt) (g : Nat) (a1 a2 a3 a4 a5 w : Int32) : MSt := us (us (us (us (us (us (us (us (us (us (us (us S 142 g a1) 143 g a2) 144 g a3) 145 g a4) 146 g a5) 147 g w) 148 g 0) 149 g (-1)) 151 g (-1)) 152 g (-1)) 154 g (-1)) 12 41 (nJ (g + 1))
theorem gSt_o {g k i : Nat} {a1 a2 a3 a4 a5 w : Int32} (h1 : ¬ (i = g ∧ 142 ≤ k ∧ k ≤ 154 ∧ k ≠ 150 ∧ k ≠ 153)) (h2 : ¬ (k = 12 ∧ i = 41)) : gSt S g a1 a2 a3 a4 a5 w k i = S k i := by
  unfold gSt
  rw [us_app, if_neg h2, us_app, if_neg (by omega), us_app, if_neg (by omega), us_app, if_neg (by omega), us_app, if_neg (by omega), us_app, if_neg (by omega), us_app, if_neg (by omega), us_app, if_neg (by omega), us_app, if_neg (by omega), us_app, if_neg (by omega), us_app, if_neg (by omega), us_app, if_neg (by omega)]
theorem gIn_succ {a : Int32} (e : S 148 nG = 0) : gIn (nG + 1) S a = gIn nG S a := by
  unfold gIn
  rw [sm, e]
  have : ¬ ((0 : Int32) = 1) := by decide
  simp only [this, false_and, if_false, Int32.add_zero]
theorem groupJ {s : Nat} {p8 : Option PtrT} {a2 a3 a4 a5 a6 w : Int32} {L : List Nat} {p : Nat} {h3 : Hp} (jr : JR nS nT nU nG T h S) (hs : s < nS) (b2 : 1 ≤ a2.toInt ∧ a2.toInt ≤ 60) (h5 : (a5 = -1 ∧ p8 = none ∧ w = a6) ∨ (∃ u, u < nU ∧ a5 = nJ u ∧ p8 = some (10, u) ∧ w = 60)) (bw : 1 ≤ w.toInt ∧ w.toInt ≤ 600) (p5 : nG < 60)
    (l1 : L.Nodup) (l2 : ∀ g, g ∈ L ↔ g < nG) (l3 : L.length = nG) (l5 : L.Pairwise (ltk (S 144))) (hp : p ≤ nG) (x1 : ∀ j x, (L.take p ++ nG :: L.drop p)[j]? = some x → gP h3 24 0 j = some (2, x)) (x2 : 0 < p → ∀ x, L[p - 1]? = some x → S 144 x ≤ a3) (x3 : ∀ x, x ∈ L.drop p → a3 < S 144 x) (fr : Fr f24 (gHp h nG (some (6, s)) p8 a2 a3 a4 a6) h3) (eI : gI h3 = gI (gHp h nG (some (6, s)) p8 a2 a3 a4 a6)) (eC : gC h3 = gC (gHp h nG (some (6, s)) p8 a2 a3 a4 a6)) :
    JR nS nT nU (nG + 1) T (wI h3 11 0 8 (nJ (nG + 1))) (gSt S nG (nJ s) a2 a3 a4 a5 w) := by
  have b := jr.bd
  have w0 := b.wm
  have hS4 := w0.1.cS.2
  have hU8 := w0.1.cU.2
  obtain ⟨c6, c8, c10, c2⟩ := jr.cel
  have I : ∀ k i s', ¬ (k = 2 ∧ i = nG) → ¬ (k = 11 ∧ s' = 8) → gI (wI h3 11 0 8 (nJ (nG + 1))) k i s' = gI h k i s' := fun k i s' y1 y2 => by
    rw [gI_wI, if_neg (by omega), eI]
    unfold gHp
    simp only [gI_wI, gI_wP, gI_wL, gP_wI, gP_wP, gP_wL, gC_wI, gC_wP, gC_wL, gI_nw, gP_nw, gC_nw, c2]
    rw [if_neg (by omega), if_neg (by omega), if_neg (by omega), if_neg (by omega), if_neg (by omega), if_neg (by omega), if_neg (by omega), if_neg (by omega), if_neg (by omega), if_neg (by omega)]
  have P : ∀ k i s', ¬ (k = 2 ∧ i = nG) → ¬ (k = 23 ∧ s' = nG) → k ≠ 24 → gP (wI h3 11 0 8 (nJ (nG + 1))) k i s' = gP h k i s' := fun k i s' y1 y2 y3 => by
    rw [gP_wI, (fr k (by simp [f24, y3])).2.2.2]
    unfold gHp
    simp only [gI_wI, gI_wP, gI_wL, gP_wI, gP_wP, gP_wL, gC_wI, gC_wP, gC_wL, gI_nw, gP_nw, gC_nw, c2]
    rw [if_neg (by omega), if_neg (by omega), if_neg (by omega), if_neg (by omega)]
  have N : ∀ s', s' ≠ 4 → gI (wI h3 11 0 8 (nJ (nG + 1))) 2 nG s' = if s' = 5 then a6 else if s' = 3 then a4 else if s' = 2 then a3 else if s' = 1 then a2 else if s' = 13 ∨ s' = 12 ∨ s' = 10 ∨ s' = 8 then -1 else 0 := fun s' _ => by
    rw [gI_wI, if_neg (by omega), eI]
    unfold gHp
    simp only [gI_wI, gI_wP, gI_wL, gP_wI, gP_wP, gP_wL, gC_wI, gC_wP, gC_wL, gI_nw, gP_nw, gC_nw, c2, true_and]
    by_cases d5 : s' = 5
    · simp [d5]
    by_cases d3 : s' = 3
    · simp [d3]
    by_cases d2 : s' = 2
    · simp [d2]
    by_cases d1 : s' = 1
    · simp [d1]
    by_cases d13 : s' = 13
    · simp [d13]
    by_cases d12 : s' = 12
    · simp [d12]
    by_cases d10 : s' = 10
    · simp [d10]
    by_cases d8 : s' = 8
    · simp [d8]
    · simp [d5, d3, d2, d1, d13, d12, d10, d8]
  have NP : ∀ s', gP (wI h3 11 0 8 (nJ (nG + 1))) 2 nG s' = if s' = 4 then p8 else if s' = 0 then some (6, s) else none := fun s' => by
    rw [gP_wI, (fr 2 rfl).2.2.2]
    unfold gHp
    simp only [gI_wI, gI_wP, gI_wL, gP_wI, gP_wP, gP_wL, gC_wI, gC_wP, gC_wL, gI_nw, gP_nw, gC_nw, c2, true_and]
    by_cases d5 : s' = 4
    · simp [d5]
    by_cases d3 : s' = 0
    · simp [d3]
    · simp [d5, d3]
  have N23 : gP (wI h3 11 0 8 (nJ (nG + 1))) 23 0 nG = some (2, nG) := by
    rw [gP_wI, (fr 23 rfl).2.2.2]
    unfold gHp
    simp [gI_wI, gI_wP, gI_wL, gP_wI, gP_wP, gP_wL, gC_wI, gC_wP, gC_wL, gI_nw, gP_nw, gC_nw]
  have H : OldH nS nT nU nG h (wI h3 11 0 8 (nJ (nG + 1))) := ⟨fun g s' hg => ⟨I 2 g s' (by omega) (by omega), P 2 g s' (by omega) (by omega) (by omega)⟩, fun x s' hx => I 6 x s' (by omega) (by omega), fun t s' ht => ⟨I 8 t s' (by omega) (by omega), P 8 t s' (by omega) (by omega) (by omega)⟩, fun u s' hu => I 10 u s' (by omega) (by omega), fun s' hs' => I 11 0 s' (by omega) (by omega), fun s' hs' => P 20 0 s' (by omega) (by omega) (by omega), fun s' hs' => P 21 0 s' (by omega) (by omega) (by omega), fun s' hs' => P 22 0 s' (by omega) (by omega) (by omega), fun s' hs' => P 23 0 s' (by omega) (by omega) (by omega), fun s' => P 25 0 s' (by omega) (by omega) (by omega)⟩
  have o : ∀ k i, ¬ (i = nG ∧ 142 ≤ k ∧ k ≤ 154 ∧ k ≠ 150 ∧ k ≠ 153) → ¬ (k = 12 ∧ i = 41) → gSt S nG (nJ s) a2 a3 a4 a5 w k i = S k i := fun k i y1 y2 => gSt_o y1 y2
  have K : OldS nS nT nU nG S (gSt S nG (nJ s) a2 a3 a4 a5 w) := ⟨fun k x hx _ _ => o k x (by omega) (by omega), fun k x hx _ _ => o k x (by omega) (by omega), fun k x hx _ _ => o k x (by omega) (by omega), fun k x hx _ _ => o k x (by omega) (by omega), o 12 24 (by omega) (by omega), o 12 55 (by omega) (by omega), o 12 56 (by omega) (by omega)⟩
  obtain ⟨g1, g2, g3, g4, g5, g6⟩ := b.oldG H K
  obtain ⟨t1, t2, t3, t4, t5⟩ := b.oldT H K
  have f : Fr xo h (wI h3 11 0 8 (nJ (nG + 1))) := by
    refine Fr.trans ?_ ((fr_le fr fun k hk => ?_).wI (k := 11) rfl)
    · unfold gHp
      exact ((((((((((((Fr.refl h).nw rfl).wI rfl).wI rfl).wI rfl).wI rfl).wI rfl).wP rfl).wI rfl).wI rfl).wI rfl).wP rfl).wI rfl |>.wP rfl
    · unfold f24
      have : k ≠ 24 := fun y => by rw [y] at hk; cases hk
      simp [this]
  have O : SO S (gSt S nG (nJ s) a2 a3 a4 a5 w) := by
    unfold gSt
    exact (((((((((((SO.refl.us rfl).us rfl).us rfl).us rfl).us rfl).us rfl).us rfl).us rfl).us rfl).us rfl).us rfl).us rfl
  obtain ⟨o1, o2, o3, o4⟩ := jr.oth f O (Nat.le_refl nU)
  have i142 : gSt S nG (nJ s) a2 a3 a4 a5 w 142 nG = nJ s := by simp [gSt, us_app]
  have i143 : gSt S nG (nJ s) a2 a3 a4 a5 w 143 nG = a2 := by simp [gSt, us_app]
  have i144 : gSt S nG (nJ s) a2 a3 a4 a5 w 144 nG = a3 := by simp [gSt, us_app]
  have i145 : gSt S nG (nJ s) a2 a3 a4 a5 w 145 nG = a4 := by simp [gSt, us_app]
  have i146 : gSt S nG (nJ s) a2 a3 a4 a5 w 146 nG = a5 := by simp [gSt, us_app]
  have i147 : gSt S nG (nJ s) a2 a3 a4 a5 w 147 nG = w := by simp [gSt, us_app]
  have i148 : gSt S nG (nJ s) a2 a3 a4 a5 w 148 nG = 0 := by simp [gSt, us_app]
  have i149 : gSt S nG (nJ s) a2 a3 a4 a5 w 149 nG = -1 := by simp [gSt, us_app]
  have i151 : gSt S nG (nJ s) a2 a3 a4 a5 w 151 nG = -1 := by simp [gSt, us_app]
  have i152 : gSt S nG (nJ s) a2 a3 a4 a5 w 152 nG = -1 := by simp [gSt, us_app]
  have i154 : gSt S nG (nJ s) a2 a3 a4 a5 w 154 nG = -1 := by simp [gSt, us_app]
  have i41 : gSt S nG (nJ s) a2 a3 a4 a5 w 12 41 = nJ (nG + 1) := by simp [gSt, us_app]
  have n0 : ¬ ((0 : Int32) = 1) ∧ ¬ ((0 : Int32) = 2) ∧ ¬ ((0 : Int32) = 3) ∧ ¬ ((0 : Int32) = 4) := by decide
  refine ⟨⟨w0.old K (by omega) (by omega) (by rw [o 12 26 (by omega) (by omega)]; exact w0.1.cS) (by rw [o 12 30 (by omega) (by omega)]; exact w0.1.cT) (by rw [o 12 35 (by omega) (by omega)]; exact w0.1.cU) ⟨i41, by omega⟩ (by rw [o 12 57 (by omega) (by omega)]; exact w0.1.shuts) (by rw [o 12 25 (by omega) (by omega)]; exact w0.1.town) (fun t h1 h2 => by omega) (fun g h1 h2 => ?_), ⟨?_, g1, g2, g3, fun g hg => ?_, ?_⟩, g5, fun g hg => ?_, t1, fun t ht => ?_, fun t ht => ?_, t4, ?_⟩, ?_, ?_, ?_, o1, o2, o3, o4, ?_, ?_⟩
  · obtain rfl : g = nG := by omega
    rw [i142, i146, i143, i148]
    refine ⟨⟨s, hs, rfl⟩, ?_, b2, n0.2.2.1⟩
    rcases h5 with y | ⟨u, hu, y, -⟩
    · exact Or.inl y.1
    · exact Or.inr ⟨u, hu, y⟩
  · obtain ⟨s1, s2, s3, s4, s5⟩ := b.st.1
    refine ⟨(I 11 0 1 (by omega) (by omega)).trans s1, (I 11 0 3 (by omega) (by omega)).trans s2, (I 11 0 5 (by omega) (by omega)).trans s3, by simp [gI_wI], ?_⟩
    rw [o 12 25 (by omega) (by omega), I 11 0 15 (by omega) (by omega)]; exact s5
  · by_cases c : g = nG
    · subst c
      unfold GS
      rw [N23, NP 0, NP 4, N 1 (by omega), N 2 (by omega), N 3 (by omega), N 5 (by omega), i142, i143, i144, i145, i146, i147, tN_nJ (by omega)]
      refine ⟨rfl, by simp, by simp, by simp, by simp, ?_, fun z => ?_, fun z => ?_⟩
      · rcases h5 with y | ⟨u, hu, y1, y2, y3⟩
        · rw [y.1, y.2.1]; simp
        · rw [y1, y2, if_neg (nJ_ne1 (by omega)), tN_nJ (by omega)]; simp
      · rcases h5 with y | ⟨u, hu, y1, y2, y3⟩
        · rw [y.2.2]; simp
        · rw [y1] at z; exact absurd z (nJ_ne1 (by omega))
      · rcases h5 with y | ⟨u, hu, y1, y2, y3⟩
        · exact absurd y.1 z
        · exact y3
    · exact g4 g (by omega)
  · have mem : ∀ x, x ∈ L.take p ++ nG :: L.drop p ↔ x = nG ∨ x ∈ L := fun x => by
      have := List.take_append_drop p L
      rw [List.mem_append, List.mem_cons]
      constructor
      · rintro (y | y | y)
        · exact Or.inr (List.mem_of_mem_take y)
        · exact Or.inl y
        · exact Or.inr (List.mem_of_mem_drop y)
      · rintro (y | y)
        · exact Or.inr (Or.inl y)
        · rw [← this] at y
          rcases List.mem_append.mp y with z | z
          · exact Or.inl z
          · exact Or.inr (Or.inr z)
    have tick : ∀ x, x ∈ L → gSt S nG (nJ s) a2 a3 a4 a5 w 144 x = S 144 x := fun x hx => o 144 x (by have := (l2 x).mp hx; omega) (by omega)
    have l5' : L.Pairwise (ltk (gSt S nG (nJ s) a2 a3 a4 a5 w 144)) := List.Pairwise.imp_of_mem (fun {a b} ha hb z => by
      unfold ltk at z ⊢; rw [tick a ha, tick b hb]; exact z) l5
    have lt : ∀ x, x ∈ L.take p → ltk (gSt S nG (nJ s) a2 a3 a4 a5 w 144) x nG := fun x hx => by
      have hxL := List.mem_of_mem_take hx
      have hxn := (l2 x).mp hxL
      have p0 : 0 < p := by
        by_cases y : p = 0
        · rw [y] at hx; simp at hx
        · omega
      have hpl : p - 1 < L.length := by omega
      have e1 := x2 p0 L[p - 1] (List.getElem?_eq_getElem hpl)
      have e2 : S 144 x ≤ S 144 L[p - 1] := by
        obtain ⟨j, hj, e⟩ := List.mem_iff_getElem.mp hx
        rw [List.length_take] at hj
        rw [List.getElem_take] at e
        rw [← e]
        by_cases y : j = p - 1
        · subst y; exact Int32.le_refl _
        · have := List.pairwise_iff_getElem.mp l5 j (p - 1) (by omega) hpl (by omega)
          rcases this with z | z
          · exact Int32.le_of_lt z
          · rw [z.1]; exact Int32.le_refl _
      have e3 := Int32.le_trans e2 e1
      unfold ltk
      rw [tick x hxL, i144]
      rcases Int32.lt_or_eq_of_le e3 with z | z
      · exact Or.inl z
      · exact Or.inr ⟨z, hxn⟩
    have gt : ∀ x, x ∈ L.drop p → ltk (gSt S nG (nJ s) a2 a3 a4 a5 w 144) nG x := fun x hx => by
      left
      rw [tick x (List.mem_of_mem_drop hx), i144]; exact x3 x hx
    have pw : (L.take p ++ nG :: L.drop p).Pairwise (ltk (gSt S nG (nJ s) a2 a3 a4 a5 w 144)) := by
      have l6 := l5'
      rw [← List.take_append_drop p L, List.pairwise_append] at l6
      rw [List.pairwise_append, List.pairwise_cons]
      refine ⟨l6.1, ⟨gt, l6.2.1⟩, fun a ha b hb => ?_⟩
      rcases List.mem_cons.mp hb with y | y
      · rw [y]; exact lt a ha
      · exact l6.2.2 a ha b y
    refine ⟨L.take p ++ nG :: L.drop p, ?_, fun g => ?_, ?_, fun j g hj => ?_, pw⟩
    · exact List.Pairwise.imp (fun {a b} z e => by rw [e] at z; exact ltk_irr z) pw
    · rw [mem, l2]; omega
    · rw [List.length_append, List.length_cons, List.length_take, List.length_drop]; omega
    · rw [gP_wI]; exact x1 j g hj
  · by_cases c : g = nG
    · subst c
      unfold GD
      rw [N 6 (by omega), N 8 (by omega), N 10 (by omega), N 11 (by omega), N 12 (by omega), N 13 (by omega), NP 7, i148, i149, i151, i152, i154, o 153 g (by omega) (by omega), jr.zer.1 g (by omega) p5]
      simp [n0]
    · exact g6 g (by omega)
  · have := t2 t ht
    unfold Ld at this ⊢
    rw [gIn_succ i148]; exact this
  · intro z g hg
    by_cases c : g = nG
    · subst c
      intro y
      have := y.1
      rw [i148] at this; exact n0.1 this
    · exact t3 t ht z g (by omega)
  · obtain ⟨L', m1, m2, m3, m4, m5, m6, m7⟩ := t5
    refine ⟨L', m1, m2, fun g hg => ⟨by have := (m3 g hg).1; omega, (m3 g hg).2⟩, fun g hg z => ?_, m5, m6, fun a ha z => ?_⟩
    · by_cases c : g = nG
      · subst c
        rw [i148] at z; exact absurd z n0.2.2.2
      · exact m4 g (by omega) z
    · rcases m7 a ha z with y | y
      · exact Or.inl y
      · exact Or.inr ⟨y.1, by omega⟩
  · have := jr.2.1
    unfold NB at this ⊢
    rw [o 12 24 (by omega) (by omega)]
    refine ⟨this.1, fun g hg => ?_⟩
    by_cases c : g = nG
    · subst c; rw [i147]; exact bw
    · rw [o 147 g (by omega) (by omega)]; exact this.2 g (by omega)
  · intro s' hs'
    rw [o 12 24 (by omega) (by omega), H.2.1 s' 4 (by omega), K.1 128 s' (by omega) (by omega) (by omega)]
    exact jr.sai s' (by omega)
  · unfold CelR
    rw [gC_wI, eC]
    unfold gHp
    simp [gI_wI, gI_wP, gI_wL, gP_wI, gP_wP, gP_wL, gC_wI, gC_wP, gC_wL, gI_nw, gP_nw, gC_nw, c6, c8, c10, c2]
  · intro u hu
    rw [o 138 u (by omega) (by omega), o 139 u (by omega) (by omega)]
    exact jr.tou u hu
  · refine ⟨fun g h1 h2 => ?_, fun u h1 h2 => ?_⟩
    · rw [o 153 g (by omega) (by omega)]; exact jr.zer.1 g (by omega) h2
    · rw [o 140 u (by omega) (by omega)]; exact jr.zer.2 u h1 h2
theorem xGroupEnd {s : Nat} {p8 : Option PtrT} {a1 a2 a3 a4 a5 a6 w : Int32} {Q : Int32 → Hp → Prop} (jr : JR nS nT nU nG T h S) (hs : s < nS) (b2 : 1 ≤ a2.toInt ∧ a2.toInt ≤ 60) (h5 : (a5 = -1 ∧ p8 = none ∧ w = a6) ∨ (∃ u, u < nU ∧ a5 = nJ u ∧ p8 = some (10, u) ∧ w = 60)) (bw : 1 ≤ w.toInt ∧ w.toInt ≤ 600) (p5 : nG < 60)
    (kk : ∀ h', JR nS nT nU (nG + 1) T h' (gSt S nG (nJ s) a2 a3 a4 a5 w) → Fc h h' → Q (nJ nG) h') : w_X11_group_102 Q a1 a2 a3 a4 a5 a6 (some (6, s)) p8 h := by
  have b := jr.bd
  have c2 : gC h 2 = nG := jr.cel.2.2.2
  have e8 : gI h 11 0 8 = nJ nG := b.st.1.2.2.2.1
  obtain ⟨L, l1, l2, l3, l4, l5⟩ := b.st.rk
  have tG : tN (nJ nG) = nG := tN_nJ (by omega)
  have v60 : vp_in (nJ nG) 60 := (vp_nJ (by omega)).mpr p5
  have e8' : gI (gHp h nG (some (6, s)) p8 a2 a3 a4 a6) 11 0 8 = nJ nG := by unfold gHp; simp [gI_wI, gI_wP, gI_wL, gP_wI, gP_wP, gP_wL, gC_wI, gC_wP, gC_wL, gI_nw, gP_nw, gC_nw, e8]
  have put : wp_X11_putByTicket (some (2, nG)) (gHp h nG (some (6, s)) p8 a2 a3 a4 a6) (fun h2 => w_X11_group_138 Q a1 a2 a3 a4 a5 a6 (some (6, s)) p8 (some (2, nG)) h2) := by
    refine xPut (tk := S 144) (a3 := a3) l3 p5 e8' (fun j x hj => ?_) (fun x hx => ?_) ?_ fun h3 p hp x1 x2 x3 fr eI eC => ?_
    · unfold gHp; simp only [gI_wI, gI_wP, gI_wL, gP_wI, gP_wP, gP_wL, gC_wI, gC_wP, gC_wL, gI_nw, gP_nw, gC_nw, c2]
      simp; exact l4 j x hj
    · have hx := (l2 x).mp hx
      have : x ≠ nG := by omega
      unfold gHp; simp [gI_wI, gI_wP, gI_wL, gP_wI, gP_wP, gP_wL, gC_wI, gC_wP, gC_wL, gI_nw, gP_nw, gC_nw, c2, this]
      exact (b.st.gs x hx).2.2.2.1
    · unfold gHp; simp [gI_wI, gI_wP, gI_wL, gP_wI, gP_wP, gP_wL, gC_wI, gC_wP, gC_wL, gI_nw, gP_nw, gC_nw]
    · have e3 : gI h3 11 0 8 = nJ nG := by rw [eI]; exact e8'
      have := kk _ (groupJ (a4 := a4) jr hs b2 h5 bw p5 l1 l2 l3 l5 hp x1 x2 x3 fr eI eC) ?_
      · unfold w_X11_group_138
        rw [e3, nJ_succ]
        rw [show gI (wI h3 11 0 8 (nJ (nG + 1))) 11 0 8 = nJ (nG + 1) by simp [gI_wI], nJ_pred]
        exact this
      · refine Fr.trans ?_ ((fr_le fr fun k hk => ?_).wI (k := 11) rfl)
        · unfold gHp
          exact ((((((((((((Fr.refl h).nw rfl).wI rfl).wI rfl).wI rfl).wI rfl).wI rfl).wP rfl).wI rfl).wI rfl).wI rfl).wP rfl).wI rfl |>.wP rfl
        · unfold f24
          have : k ≠ 24 := fun y => by rw [y] at hk; cases hk
          simp [this]
  unfold w_X11_group_102 w_X11_group_105 wp_X2_init w_X2_init_0 w_X2_init_34 w_X11_group_119
  rw [c2]
  have e9 : gI (wI (wP (wI (wI (wI (wP (wI (wI (wI (wI (wI (nw h 2) 2 nG 6 0) 2 nG 8 (-1)) 2 nG 10 (-1)) 2 nG 12 (-1)) 2 nG 13 (-1)) 2 nG 0 (some (6, s))) 2 nG 1 a2) 2 nG 2 a3) 2 nG 3 a4) 2 nG 4 p8) 2 nG 5 a6) 11 0 8 = nJ nG := by simp [gI_wI, gI_wP, gI_wL, gP_wI, gP_wP, gP_wL, gC_wI, gC_wP, gC_wL, gI_nw, gP_nw, gC_nw, e8]
  have n8 : nlw 2 p8 := by
    rcases h5 with ⟨-, e, -⟩ | ⟨u, -, -, e, -⟩
    · rw [e]; exact nlw_none
    · rw [e]; exact nlw_some rfl
  refine ⟨nlw_some rfl, n8, by rw [e9]; exact v60, ?_⟩
  rw [e9, tG]
  exact put
theorem jGroup {a1 a2 a3 a4 a5 a6 : Int32} (j : J h) : wp_X11_group a1 a2 a3 a4 a5 a6 h fun rx h1 => wp_X12_group a1 a2 a3 a4 a5 a6 h1 fun rm h2 => rm = rx ∧ J h2 := by
  refine JJ j fun nS nT nU nG T S jr => ?_
  have b := jr.bd
  have e8 : gI h 11 0 8 = nJ nG := b.st.1.2.2.2.1
  obtain ⟨c41, hG⟩ := b.wm.1.cG
  obtain ⟨c35, hU⟩ := b.wm.1.cU
  have hS4 := b.wm.1.cS.2
  have l4 : nJ nG < 60 ↔ nG < 60 := nJ_lt (a := nG) (b := 60) (by omega) (by omega)
  have q4 : 60 ≤ nJ nG ↔ 60 ≤ nG := nJ_le (a := 60) (b := nG) (by omega) (by omega)
  by_cases c : (∃ s, s < nS ∧ a1 = nJ s ∧ ¬ S 128 s ≤ S 12 24) ∧ ((1 : Int32) ≤ a2 ∧ a2 ≤ 60) ∧ ((0 : Int32) ≤ a3 ∧ a3 ≤ 999) ∧ ((0 : Int32) ≤ a4 ∧ a4 ≤ 719) ∧ nG < 60 ∧ ((a5 = -1 ∧ ((1 : Int32) ≤ a6 ∧ a6 ≤ 600)) ∨ ∃ u, u < nU ∧ a5 = nJ u)
  · obtain ⟨⟨s, hs, rfl, ps⟩, p2, p3, p4, p5, p6⟩ := c
    have b2 := i32b (x := 1) (y := 60) (by omega) (by omega) p2
    have v60 : vp_in (nJ nG) 60 := (vp_nJ (by omega)).mpr p5
    have tG : tN (nJ nG) = nG := tN_nJ (by omega)
    have l5 := l4.mpr p5
    have q5 : ¬ 60 ≤ nJ nG := fun z => by have := q4.mp z; omega
    have e64 : gI h 6 s 4 = 0 := by rw [jr.sai s hs, bI_n ps]
    obtain ⟨w, hw⟩ : ∃ w, w = if a5 = -1 then a6 else 60 := ⟨_, rfl⟩
    have bw : 1 ≤ w.toInt ∧ w.toInt ≤ 600 := by
      rcases p6 with y | ⟨u, hu, y⟩
      · rw [hw, if_pos y.1]
        exact i32b (x := 1) (y := 600) (by omega) (by omega) y.2
      · rw [hw, if_neg (by rw [y]; exact nJ_ne1 (by omega))]
        decide
    refine ⟨nS, nT, nU, nG + 1, gSt S nG (nJ s) a2 a3 a4 a5 w, nJ nG, fun Q kk => ?_, fun h1 hv t wm Q kk => ?_⟩
    · refine xShipAt b (fun s' hs' e => ?_) (fun z => absurd ⟨s, hs, rfl⟩ z)
      rw [nJ_eq (by omega) (by omega)] at e
      subst e
      have k1 : ∀ (p8 : Option PtrT), w_X11_group_74 Q (nJ s) a2 a3 a4 a5 a6 (some (6, s)) p8 h → w_X11_group_13 Q (nJ s) a2 a3 a4 a5 a6 (some (6, s)) p8 h := fun p8 z => by
        refine ⟨fun y => absurd y (by simp), fun _ => ⟨s, rfl, ?_⟩⟩
        simp only [w_X11_group_20, w_X11_group_28, w_X11_group_39, w_X11_group_46, w_X11_group_49, w_X11_group_57, w_X11_group_60, w_X11_group_69, xwithin, e64, e8, bI_c p2, bI_c p3, bI_c p4, l5]
        simpa using z
      refine xTourAt b (fun u hu e => ?_) (fun z => ?_)
      · refine k1 _ ⟨fun _ => ⟨fun _ => ?_, fun y => absurd y (by simp)⟩, fun y => absurd y (by rw [e]; exact nJ_ne1 (by omega))⟩
        exact xGroupEnd jr hs b2 (Or.inr ⟨u, hu, e, rfl, by rw [hw, if_neg (by rw [e]; exact nJ_ne1 (by omega))]⟩) bw p5 kk
      · rcases p6 with y | y
        · refine k1 _ ⟨fun x => absurd y.1 x, fun _ => ?_⟩
          unfold w_X11_group_80
          rw [xwithin, bI_c y.2]
          refine ⟨fun _ => ?_, fun x => absurd x (by decide)⟩
          exact xGroupEnd jr hs b2 (Or.inl ⟨y.1, rfl, by rw [hw, if_pos y.1]⟩) bw p5 kk
        · exact absurd y z
    · have hv0 : view (wI h1 12 0 0 0) = S := by rw [vs_12_0, hv]
      have fq : ∀ x, Fq h1 (wI (wI (wI (wI (wI (wI (wI (wI (wI (wI (wI (wI (wI h1 12 0 0 0) 142 0 nG (nJ s)) 143 0 nG a2) 144 0 nG a3) 145 0 nG a4) 146 0 nG a5) 147 0 nG x) 148 0 nG 0) 149 0 nG (-1)) 151 0 nG (-1)) 152 0 nG (-1)) 154 0 nG (-1)) 12 0 41 (nJ (nG + 1))) := fun x => (((((((((((((Fq.t0 h1).w rfl (by omega) (by omega) (by omega) (by omega) (by omega) (by omega)).w rfl (by omega) (by omega) (by omega) (by omega) (by omega) (by omega)).w rfl (by omega) (by omega) (by omega) (by omega) (by omega) (by omega)).w rfl (by omega) (by omega) (by omega) (by omega) (by omega) (by omega)).w rfl (by omega) (by omega) (by omega) (by omega) (by omega) (by omega)).w rfl (by omega) (by omega) (by omega) (by omega) (by omega) (by omega)).w rfl (by omega) (by omega) (by omega) (by omega) (by omega) (by omega)).w rfl (by omega) (by omega) (by omega) (by omega) (by omega) (by omega)).w rfl (by omega) (by omega) (by omega) (by omega) (by omega) (by omega)).w rfl (by omega) (by omega) (by omega) (by omega) (by omega) (by omega)).w rfl (by omega) (by omega) (by omega) (by omega) (by omega) (by omega)).w rfl (by omega) (by omega) (by omega) (by omega) (by omega) (by omega))
      have kk' := kk _ (by unfold gSt; simp only [gv_101, vw_101, gv_127, vw_127, gv_128, vw_128, gv_129, vw_129, gv_131, vw_131, gv_132, vw_132, gv_133, vw_133, gv_134, vw_134, gv_136, vw_136, gv_137, vw_137, gv_138, vw_138, gv_139, vw_139, gv_140, vw_140, gv_142, vw_142, gv_143, vw_143, gv_144, vw_144, gv_145, vw_145, gv_146, vw_146, gv_147, vw_147, gv_148, vw_148, gv_149, vw_149, gv_150, vw_150, gv_151, vw_151, gv_152, vw_152, gv_153, vw_153, gv_154, vw_154, gv_158, vw_158, gv_159, vw_159, gv_162, vw_162, gv_164, vw_164, gv_12_2, vw_12_2, gv_12_24, vw_12_24, gv_12_25, vw_12_25, gv_12_26, vw_12_26, gv_12_30, vw_12_30, gv_12_35, vw_12_35, gv_12_41, vw_12_41, gv_12_55, vw_12_55, gv_12_56, vw_12_56, gv_12_57, vw_12_57, gv_12_61, vw_12_61, gv_12_63, vw_12_63, vs_160, vs_165, vs_119, vs_120, vs_121, vs_122, vs_123, vs_12_0, hv]) (fq w)
      have e41 : gI (wI h1 12 0 0 0) 12 0 41 = nJ nG := by rw [gv_12_41, hv0]; exact c41
      have e35 : gI (wI h1 12 0 0 0) 12 0 35 = nJ nU := by rw [gv_12_35, hv0]; exact c35
      have e41' : gI h1 12 0 41 = nJ nG := by rw [gv_12_41, hv]; exact c41
      have fin : w_X12_group_102 Q (nJ s) a2 a3 a4 a5 a6 1 (wI h1 12 0 0 0) := by
        simp only [w_X12_group_102, w_X12_group_121, w_X12_group_131, w_X12_group_142, w_X12_group_153, w_X12_group_168, w_X12_group_173, w_X12_group_175, w_X12_group_185, w_X12_group_195, w_X12_group_205, w_X12_group_215, w_X12_group_225, e41, gI_wI, e41', tG, v60, true_and]
        simp only [Nat.reduceEqDiff, false_and, and_false, if_false, e41', tG, v60, true_and, and_self, if_true, nJ_succ, nJ_pred]
        by_cases y : a5 = -1
        · rw [if_pos y] at hw; rw [hw] at kk'
          exact ⟨fun z => absurd y z, fun _ => kk'⟩
        · rw [if_neg y] at hw; rw [hw] at kk'
          exact ⟨fun _ => kk', fun z => absurd z y⟩
      refine mIsShip hv0 wm (fun s' hs' e p => ?_) (fun z => absurd ⟨s, hs, rfl, ps⟩ z)
      simp only [w_X12_group_10, w_X12_group_13, w_X12_group_20, w_X12_group_23, w_X12_group_31, w_X12_group_34, w_X12_group_43, w_X12_group_46, w_X12_group_55, w_X12_group_59, w_X12_group_60, w_X12_group_67, w_X12_group_73, w_X12_group_82, w_X12_group_88, w_X12_group_97, w_X12_group_100, mwithin, bI_c p2, bI_c p3, bI_c p4, e41, e35, q5]
      simp
      rcases p6 with y | ⟨u, hu, y⟩
      · have n1 : ¬ (-1 : Int32) < -1 := by decide
        have n2 : ¬ nJ nU ≤ -1 := fun z => by
          have := Int32.le_iff_toInt_le.mp z
          rw [nJ_toInt (by omega)] at this
          have h3 : (-1 : Int32).toInt = -1 := by decide
          omega
        have fin := fin
        rw [y.1] at fin ⊢
        simp [n2, bI_c y.2, fin]
        try exact fun z => absurd z n1
      · have n1 : ¬ a5 < -1 := fun z => by
          have := Int32.lt_iff_toInt_lt.mp z
          rw [y, nJ_toInt (by omega)] at this
          have h3 : (-1 : Int32).toInt = -1 := by decide
          omega
        have n2 : ¬ nJ nU ≤ a5 := by rw [y, nJ_le (by omega) (by omega)]; omega
        have n3 : ¬ a5 = -1 := by rw [y]; exact nJ_ne1 (by omega)
        simp [n1, n2, n3, fin]
        try exact ⟨fun z => absurd z n1, fun _ => fun z => absurd z n2⟩
  · refine ⟨nS, nT, nU, nG, S, -1, fun Q kk => ?_, fun h1 hv t w Q kk => ?_⟩
    · have kk := kk h jr (Fr.refl h)
      refine xShipAt b (fun s hs e => ?_) (fun z => ?_)
      · have k1 : ∀ (p8 : Option PtrT), (a5 = -1 → p8 = none) → (p8 ≠ none → ∃ u, u < nU ∧ a5 = nJ u) → w_X11_group_13 Q a1 a2 a3 a4 a5 a6 (some (6, s)) p8 h := fun p8 y1 y2 => by
          refine ⟨fun y => absurd y (by simp), fun _ => ⟨s, rfl, ?_⟩⟩
          simp only [w_X11_group_20, w_X11_group_28, w_X11_group_39, w_X11_group_46, w_X11_group_49, w_X11_group_57, w_X11_group_60, w_X11_group_69, w_X11_group_37, w_X11_group_72, w_X11_group_74, w_X11_group_80, w_X11_group_89, w_X11_group_92, w_X11_group_95, w_X11_group_100, xwithin, jr.sai s hs, e8, bI_0]
          refine ⟨fun _ => kk, fun z1 => ⟨fun z2 => ⟨fun _ => kk, fun z3 => ⟨fun _ => kk, fun z4 => ⟨fun z5 => ⟨fun z6 => ⟨fun z7 => ?_, fun _ => kk⟩, fun z6 => ⟨fun z7 => ?_, fun _ => kk⟩⟩, fun _ => kk⟩⟩⟩, fun _ => kk⟩⟩
          · exact absurd ⟨⟨s, hs, e, z1⟩, Decidable.not_not.mp z3, Decidable.not_not.mp z4, Decidable.not_not.mp z5, l4.mp z2, Or.inr (y2 z7)⟩ c
          · exact absurd ⟨⟨s, hs, e, z1⟩, Decidable.not_not.mp z3, Decidable.not_not.mp z4, Decidable.not_not.mp z5, l4.mp z2, Or.inl ⟨z6, Decidable.not_not.mp z7⟩⟩ c
        refine xTourAt b (fun u hu e' => k1 _ (fun y => ?_) (fun _ => ⟨u, hu, e'⟩)) (fun z => k1 _ (fun _ => rfl) (fun y => absurd rfl y))
        rw [e'] at y; exact absurd y (nJ_ne1 (by omega))
      · exact xTourAt b (fun u hu e' => ⟨fun _ => kk, fun y => absurd rfl y⟩) (fun z => ⟨fun _ => kk, fun y => absurd rfl y⟩)
    · have kk := kk _ (by rw [vs_12_0, hv]) (Fq.t0 h1)
      have hv0 : view (wI h1 12 0 0 0) = S := by rw [vs_12_0, hv]
      have e41 : gI (wI h1 12 0 0 0) 12 0 41 = nJ nG := by rw [gv_12_41, hv0]; exact c41
      have e35 : gI (wI h1 12 0 0 0) 12 0 35 = nJ nU := by rw [gv_12_35, hv0]; exact c35
      refine mIsShip hv0 w (fun s hs e p => ⟨fun _ => ?_, fun _ => ?_⟩) (fun z => ⟨fun _ => ⟨fun _ => kk, fun y => absurd rfl y⟩, fun y => absurd rfl y⟩)
      · exact ⟨fun _ => kk, fun y => absurd rfl y⟩
      · simp only [w_X12_group_13, w_X12_group_20, w_X12_group_23, w_X12_group_31, w_X12_group_34, w_X12_group_43, w_X12_group_46, w_X12_group_55, w_X12_group_59, w_X12_group_60, w_X12_group_67, w_X12_group_73, w_X12_group_82, w_X12_group_88, w_X12_group_97, w_X12_group_100, mwithin, bI_0, e41, e35]
        have k0 : ((0 : Int32) = 0 → Q (-1) (wI h1 12 0 0 0)) := fun _ => kk
        have n10 : ¬ ((1 : Int32) = 0) := by decide
        refine ⟨fun _ => ⟨fun _ => kk, fun y => absurd trivial y⟩, fun z2 => ⟨fun _ => ⟨fun _ => kk, fun y => absurd trivial y⟩, fun z3 => ⟨fun _ => ⟨fun _ => kk, fun y => absurd trivial y⟩, fun z4 => ⟨fun _ => ⟨fun _ => kk, fun y => absurd trivial y⟩, fun z5 => ⟨fun y => absurd y n10, fun _ => ⟨fun _ => kk, fun y1 => ⟨fun _ => kk, fun y2 => ⟨fun y3 => ?_, fun y3 => ⟨fun y4 => ?_, fun _ => kk⟩⟩⟩⟩⟩⟩⟩⟩⟩
        · refine absurd ⟨⟨s, hs, e, p⟩, Decidable.not_not.mp z2, Decidable.not_not.mp z3, Decidable.not_not.mp z4, by have : ¬ 60 ≤ nG := fun y => z5 (q4.mpr y); omega, Or.inr ((rng2 (by omega)).mp ⟨fun z => ?_, y2⟩)⟩ c
          have h1 := Int32.lt_iff_toInt_lt.mp z
          have h2 := Int32.le_iff_toInt_le.mp (Int32.not_lt.mp y1)
          have h3 : (-1 : Int32).toInt = -1 := by decide
          have h0 : (0 : Int32).toInt = 0 := rfl
          rw [h0] at h1; rw [h3] at h2
          exact y3 (Int32.toInt_inj.mp (by rw [h3]; omega))
        · exact absurd ⟨⟨s, hs, e, p⟩, Decidable.not_not.mp z2, Decidable.not_not.mp z3, Decidable.not_not.mp z4, by have : ¬ 60 ≤ nG := fun y => z5 (q4.mpr y); omega, Or.inl ⟨y3, Decidable.not_not.mp y4⟩⟩ c
end
