/-! tours begin; who is through comes to the quay -/
theorem fold_ask {f : MSt → Nat → MSt} {ask : MSt → Nat → Bool} (hf : ∀ S g x, x ≠ g → ask (f S g) x = ask S x) : ∀ {L : List Nat} {S : MSt}, L.Nodup → L.foldl (fun S g => if ask S g = true then f S g else S) S = (L.filter (ask S)).foldl f S
  | [], _, _ => rfl
  | g :: L, S, hn => by
    have hn' := List.nodup_cons.mp hn
    rw [List.foldl_cons, List.filter_cons]
    by_cases c : ask S g = true
    · rw [if_pos c, if_pos c, List.foldl_cons, fold_ask hf hn'.2]
      congr 1
      apply List.filter_congr
      intro x hx
      exact hf S g x (fun e => hn'.1 (e ▸ hx))
    · rw [if_neg c, if_neg c, fold_ask hf hn'.2]
theorem take_succ' {L : List Nat} {j : Nat} (h : j < L.length) : L.take (j + 1) = L.take j ++ [L[j]] := by rw [List.take_succ_eq_append_getElem h]
theorem nodup_len : ∀ (n : Nat) (L : List Nat), L.Nodup → (∀ x, x ∈ L → x < n) → L.length ≤ n
  | 0, L, _, h => by
    cases L with
    | nil => simp
    | cons a L => exact absurd (h a (by simp)) (by omega)
  | n + 1, L, hn, h => by
    have := nodup_len n (L.erase n) (hn.erase n) fun x hx => by
      have h1 := (List.Nodup.mem_erase_iff hn).mp hx
      have h2 := h x h1.2
      have := h1.1
      omega
    rw [List.length_erase] at this
    split at this <;> omega
section
variable {nS nT nU nG i c : Nat} {p q : Nat → Prop} {h h' : Hp} {S S' : MSt} {T : TextT}
theorem GS.tour {u g : Nat} (gs : GS h S g) (w : WM nS nT nU nG S) (hg : g < nG) (hu : u < nU) : gP h 2 g 4 = some (10, u) ↔ S 146 g = nJ u := by
  have hU := w.1.cU.2
  rw [gs.2.2.2.2.2.1]
  rcases w.1.tourOf g hg with e | ⟨v, hv, e⟩
  · rw [if_pos e, e]
    constructor
    · intro z; cases z
    · intro z; exact absurd z.symm (nJ_ne1 (by omega))
  · rw [e, if_neg (nJ_ne1 (by omega)), tN_nJ (by omega), nJ_eq (by omega) (by omega)]
    simp
theorem GS.ship {s g : Nat} (gs : GS h S g) (w : WM nS nT nU nG S) (hg : g < nG) (hs : s < nS) : gP h 2 g 0 = some (6, s) ↔ S 142 g = nJ s := by
  have hS := w.1.cS.2
  rw [gs.2.1]
  obtain ⟨v, hv, e⟩ := w.1.home g hg
  rw [e, tN_nJ (by omega), nJ_eq (by omega) (by omega)]
  simp
theorem Stc.rk (st : Stc nS nT nU nG h S) : RK nG h S := st.2.2.2.2.2
theorem Stc.gs (st : Stc nS nT nU nG h S) : ∀ g, g < nG → GS h S g := st.2.2.2.2.1
def stC (u : Nat) (S : MSt) (g : Nat) : MSt := if askS S u g = true then stS u S g else S
theorem stS_o {u g k x : Nat} (hx : ¬ (x = g ∧ (k = 148 ∨ k = 150))) (hk : k ≠ 140) : stS u S g k x = S k x := by
  unfold stS
  split
  · rw [us_app, if_neg]; rintro ⟨rfl, rfl⟩; exact hx ⟨rfl, Or.inr rfl⟩
  · rw [us_app, if_neg (fun z => hk z.1), us_app, if_neg]; rintro ⟨rfl, rfl⟩; exact hx ⟨rfl, Or.inl rfl⟩
theorem mSt_eq {L : List Nat} {u : Nat} (l1 : L.Nodup) (l2 : ∀ g, g ∈ L ↔ g < nG) (l5 : L.Pairwise (ltk (S 144))) : mSt nG u S = L.foldl (stC u) S := by
  unfold mSt
  rw [selL_eq (M := L.filter (askS S u)) (l5.filter _) fun g => by rw [List.mem_filter, l2 g]]
  refine (fold_ask (f := stS u) (ask := fun S g => askS S u g) (fun S g x hx => ?_) l1).symm
  unfold askS
  rw [stS_o (fun z => hx z.1) (by omega), stS_o (fun z => hx z.1) (by omega)]
theorem stS_sf {u g : Nat} : Sf S (stS u S g) := by
  unfold stS
  split
  · exact (Sf.refl S).up rfl
  · exact ((Sf.refl S).up rfl).up rfl
theorem xSeat {u : Nat} {Q : Hp → Prop} (hu : u < nU) (nb : NB nG S) (b0 : Bd nS nT nU nG u 0 h S) (kk : ∀ h', Bd nS nT nU nG (u + 1) 0 h' (mSt nG u S) → Sp h S h' (mSt nG u S) → Q h') : wp_X11_seatGroups (some (10, u)) h Q := by
  obtain ⟨L, l1, l2, l3, l4, l5⟩ := b0.st.rk
  have hn := b0.wm.1.cG.2
  have hU := b0.wm.1.cU.2
  rw [mSt_eq l1 l2 l5] at kk
  suffices H : ∀ j i h1 S1, i + j = nG → Bd nS nT nU nG u 0 h1 S1 → S1 = (L.take i).foldl (stC u) S → (∀ g, g ∈ L.take i → S1 148 g = 2 → S1 146 g = nJ u → S1 150 g ≠ -1) → Sp h S h1 S1 → w_X11_seatGroups_2 Q (j + 1) (some (10, u)) (nJ i) h1 from ⟨nG + 1, H nG 0 h S (by omega) b0 rfl (fun g hg => by simp at hg) (Sp.refl h S)⟩
  intro j
  induction j with
  | zero =>
    intro i h1 S1 e b hS hp sp
    obtain rfl : i = nG := by omega
    rw [show L.take i = L from by rw [← l3, List.take_length]] at hS hp
    rw [← hS] at kk
    refine ⟨fun _ => kk h1 ⟨b.wm, b.st, b.rcd, fun g hg => ?_, b.td, b.ld, b.vl, b.ud, b.rq⟩ sp, fun z => absurd ?_ z⟩
    · obtain ⟨d1, d2, d3, d4, d5, d6, d7, d8, d9⟩ := b.gd g hg
      refine ⟨d1, d2, d3, d4, d5, d6, fun e2 e0 => ?_, d8, d9⟩
      obtain ⟨x1, x2, x3, x4⟩ := d7 e2 e0
      refine ⟨x1, x2, x3, fun y => ?_⟩
      by_cases c : tN (S1 146 g) = u
      · exfalso
        rcases b.wm.1.tourOf g hg with e' | ⟨v, hv, e'⟩
        · exact x2 e'
        · rw [e', tN_nJ (by omega)] at c
          exact hp g ((l2 g).mpr hg) e2 (by rw [e', c]) e0
      · exact x4 (by omega)
    · rw [b.st.1.2.2.2.1]; exact Int32.le_refl _
  | succ j ih =>
    intro i h1 S1 e b hS hp sp
    have hi : i < L.length := by omega
    have hg : L[i] < nG := (l2 _).mp (List.getElem_mem hi)
    have ti : tN (nJ i) = i := tN_nJ (by omega)
    have gs := b.st.gs L[i] hg
    have gd := b.gd L[i] hg
    have e24 : gP h1 24 0 i = some (2, L[i]) := by
      rw [(sp.1.1.2.2 24 0 i rfl).2]; exact l4 i L[i] (List.getElem?_eq_getElem hi)
    have nid : ∀ g, g ∈ L.take i → g ≠ L[i] := fun g hg e => by
      have : (L.take (i + 1)).Nodup := l1.sublist (List.take_sublist _ _)
      rw [take_succ' hi] at this
      have := (List.nodup_append.mp this).2.2 g hg L[i] (by simp)
      exact this e
    have step : ∀ h2, Bd nS nT nU nG u 0 h2 (stC u S1 L[i]) → Sp h1 S1 h2 (stC u S1 L[i]) → (stC u S1 L[i] 148 L[i] = 2 → stC u S1 L[i] 146 L[i] = nJ u → stC u S1 L[i] 150 L[i] ≠ -1) → w_X11_seatGroups_2 Q (j + 1) (some (10, u)) (nJ i + 1) h2 := fun h2 b2 s2 hp2 => by
      rw [nJ_succ]
      refine ih (i + 1) h2 _ (by omega) b2 (by rw [take_succ' hi, List.foldl_append, ← hS]; rfl) (fun g hg => ?_) (sp.trans s2)
      rw [take_succ' hi] at hg
      rcases List.mem_append.mp hg with y | y
      · have hne := nid g y
        have o : ∀ k, k ≠ 140 → stC u S1 L[i] k g = S1 k g := fun k hk => by
          unfold stC; split
          · exact stS_o (fun z => hne z.1) hk
          · rfl
        rw [o 148 (by omega), o 146 (by omega), o 150 (by omega)]
        exact hp g y
      · have y : g = L[i] := by simpa using y
        rw [y]; exact hp2
    have no : ¬ (S1 148 L[i] = 2 ∧ S1 146 L[i] = nJ u) → w_X11_seatGroups_2 Q (j + 1) (some (10, u)) (nJ i + 1) h1 := fun z => by
      have es : stC u S1 L[i] = S1 := by unfold stC; rw [if_neg]; exact fun y => z (of_decide_eq_true y)
      rw [es] at step
      exact step h1 b (Sp.refl _ _) (fun a b => absurd ⟨a, b⟩ z)
    refine ⟨fun z => absurd z ?_, fun _ => ⟨L[i], by rw [ti]; exact e24, (vp_nJ (by omega)).mpr (by omega), fun z => ?_, fun z => ⟨fun z2 => ?_, fun z2 => ⟨u, rfl, ?_⟩⟩⟩⟩
    · rw [b.st.1.2.2.2.1, nJ_le (by omega) (by omega)]; omega
    · rw [gd.1] at z; exact no (fun y => z y.1)
    · rw [gs.tour b.wm hg hu] at z2; exact no (fun y => z2 y.2)
    · rw [gd.1] at z
      rw [gs.tour b.wm hg hu] at z2
      have es : stC u S1 L[i] = stS u S1 L[i] := by unfold stC; rw [if_pos]; exact decide_eq_true ⟨z, z2⟩
      rw [es] at step
      obtain ⟨u1, u2, u3, u4, u5⟩ := b.st.2.2.2.1 u hu
      have e4 : gI h1 10 u 4 = S1 140 u := b.ud u hu
      unfold w_X11_seatGroups_33
      rw [u4, e4, gs.2.2.1]
      have o : ∀ k g, g ≠ L[i] → k ≠ 140 → stS u S1 L[i] k g = S1 k g := fun k g hx hk => stS_o (fun z => hx z.1) hk
      have o' : ∀ k g, k ≠ 148 → k ≠ 150 → k ≠ 140 → stS u S1 L[i] k g = S1 k g := fun k g h1 h2 h3 => stS_o (fun z => by omega) h3
      have n3 : ¬ ((3 : Int32) = 1) ∧ ¬ ((3 : Int32) = 2) ∧ ¬ ((3 : Int32) = 4) := by decide
      have n2 : ¬ ((2 : Int32) = 1) ∧ ¬ ((2 : Int32) = 4) := by decide
      have notT : ∀ t g, inT (stS u S1 L[i]) t g ↔ inT S1 t g := by
        intro t g
        unfold inT
        rw [o' 149 g (by omega) (by omega) (by omega)]
        by_cases y : g = L[i]
        · rw [y]
          have : ¬ stS u S1 L[i] 148 L[i] = 1 := by
            unfold stS; split
            · simp [us_app, z, n2]
            · simp [us_app, n3]
          simp [this, z, n2]
        · rw [o 148 g y (by omega)]
      have hq : ∀ g, qst S1 g → qst (stS u S1 L[i]) g := fun g hq => by
        have y : g ≠ L[i] := fun y => by
          rw [y] at hq
          unfold qst at hq
          rw [z] at hq
          simp [n2] at hq
        unfold qst at hq ⊢
        rw [o 148 g y (by omega), o 149 g y (by omega), o' 133 _ (by omega) (by omega) (by omega)]
        exact hq
      have h4 : ∀ g, stS u S1 L[i] 148 g = 4 → S1 148 g = 4 ∧ stS u S1 L[i] 154 g = S1 154 g := fun g y => by
        refine ⟨?_, o' 154 g (by omega) (by omega) (by omega)⟩
        by_cases y2 : g = L[i]
        · exfalso
          rw [y2] at y
          unfold stS at y; split at y
          · simp [us_app, z] at y
          · simp [us_app] at y
        · rw [o 148 g y2 (by omega)] at y; exact y
      have w2 : WM nS nT nU nG (stS u S1 L[i]) := b.wm.stS (by rw [z2]; exact nJ_ne1 (by omega))
      have b' := b.bp (p := fun _ => True) (q := fun _ => True)
      have v24 : stS u S1 L[i] 12 24 = S1 12 24 := o' 12 24 (by omega) (by omega) (by omega)
      have sum : S1 12 24 + 60 ≠ -1 := fun e => by
        have := congrArg Int32.toInt e
        have h1 := (nb.sp sp).1
        have h2 : (60 : Int32).toInt = 60 := by decide
        rw [tadd (by omega) (by omega)] at this
        have h3 : (-1 : Int32).toInt = -1 := by decide
        omega
      refine ⟨fun y => ?_, fun y => ?_⟩
      · have ev : stS u S1 L[i] = us S1 150 L[i] (S1 12 24 + 60) := by unfold stS; rw [if_pos y]
        have sp2 : Sp h1 S1 (wI h1 2 L[i] 13 (gI h1 11 0 14 + 60)) (stS u S1 L[i]) := ⟨(Kz.refl h1).I rfl (by omega), stS_sf, v24⟩
        refine step _ (Bp.bd (Bp.up b' sp2 w2 ?_ ?_ ?_ ?_ ?_ ?_ ?_)) sp2 ?_
        · have := b.rcd
          unfold RCd at this ⊢
          rw [v24, o' 12 56 (by omega) (by omega) (by omega), o' 12 55 (by omega) (by omega) (by omega)]
          simpa [gI_wI] using this
        · intro g hg'
          by_cases y2 : g = L[i]
          · right
            subst y2
            obtain ⟨d1, d2, d3, d4, d5, d6, d7, d8, d9, d10, d11⟩ := gd
            rw [ev]
            unfold GD
            simp only [gI_wI, gP_wI, us_app]
            simp [z, n2, sum]
            rw [z] at d1 d10 d11
            exact ⟨d1, by rw [d2, z]; rfl, d3, d4, d5, by rw [b.rcd.1], d10 (by decide), d11 (by decide)⟩
          · left
            refine ⟨fun s hs => by simp [gI_wI, y2], rfl, fun k h1 h2 => o k g y2 (by omega)⟩
        · intro t ht; left
          exact ⟨by simp [gI_wI], by simp [gI_wI], o' 133 t (by omega) (by omega) (by omega), o' 134 t (by omega) (by omega) (by omega)⟩
        · intro t ht _
          exact (b.ld t ht).keep stS_sf (by simp [gI_wI]) fun g hg => notT t g
        · intro t ht _
          exact (b.vl t ht).keep (o' 133 t (by omega) (by omega) (by omega)) fun g hg => (notT t g).mp
        · intro v hv
          rw [ev]
          have := b.ud v hv
          simpa [gI_wI, us_app] using this
        · exact b.rq.keep (by simp [gI_wI]) (fun _ => rfl) v24 (fun g _ => hq g) (fun g _ => h4 g)
        · intro _ _
          rw [ev]; simpa [us_app] using sum
      · have ev : stS u S1 L[i] = us (us S1 148 L[i] 3) 140 u (S1 140 u + S1 143 L[i]) := by unfold stS; rw [if_neg y]
        have sp2 : Sp h1 S1 (wI (wI h1 2 L[i] 6 3) 10 u 4 (gI (wI h1 2 L[i] 6 3) 10 u 4 + gI (wI h1 2 L[i] 6 3) 2 L[i] 1)) (stS u S1 L[i]) := ⟨((Kz.refl h1).I rfl (by omega)).I rfl (by omega), stS_sf, v24⟩
        refine step _ (Bp.bd (Bp.up b' sp2 w2 ?_ ?_ ?_ ?_ ?_ ?_ ?_)) sp2 ?_
        · have := b.rcd
          unfold RCd at this ⊢
          rw [v24, o' 12 56 (by omega) (by omega) (by omega), o' 12 55 (by omega) (by omega) (by omega)]
          simpa [gI_wI] using this
        · intro g hg'
          by_cases y2 : g = L[i]
          · right
            subst y2
            obtain ⟨d1, d2, d3, d4, d5, d6, d7, d8, d9, d10, d11⟩ := gd
            rw [ev]
            unfold GD
            simp only [gI_wI, gP_wI, us_app]
            simp [n3]
            rw [z] at d10 d11
            exact ⟨by rw [d2, z]; rfl, d3, d4, d5, d10 (by decide), d11 (by decide)⟩
          · left
            refine ⟨fun s hs => by simp [gI_wI, y2], rfl, fun k h1 h2 => o k g y2 (by omega)⟩
        · intro t ht; left
          exact ⟨by simp [gI_wI], by simp [gI_wI], o' 133 t (by omega) (by omega) (by omega), o' 134 t (by omega) (by omega) (by omega)⟩
        · intro t ht _
          exact (b.ld t ht).keep stS_sf (by simp [gI_wI]) fun g hg => notT t g
        · intro t ht _
          exact (b.vl t ht).keep (o' 133 t (by omega) (by omega) (by omega)) fun g hg => (notT t g).mp
        · intro v hv
          rw [ev]
          have := b.ud v hv
          by_cases y2 : v = u
          · subst y2
            simp [gI_wI, us_app]
            rw [e4, gs.2.2.1]
          · simpa [gI_wI, us_app, y2] using this
        · exact b.rq.keep (by simp [gI_wI]) (fun _ => rfl) v24 (fun g _ => hq g) (fun g _ => h4 g)
        · intro y3
          rw [ev] at y3
          simp [us_app] at y3
theorem xTours {Q : Hp → Prop} (nb : NB nG S) (b0 : Bd nS nT nU nG 0 0 h S) (kk : ∀ h', Bd nS nT nU nG nU 0 h' (p2 nU nG S) → Sp h S h' (p2 nU nG S) → Q h') : wp_X11_beginTours h Q := by
  suffices H : ∀ j i h1 S1, i + j = nU → Bd nS nT nU nG i 0 h1 S1 → S1 = itr (toT nG) i S → Sp h S h1 S1 → w_X11_beginTours_2 Q (j + 1) (nJ i) h1 from ⟨nU + 1, H nU 0 h S (by omega) b0 rfl (Sp.refl h S)⟩
  intro j
  induction j with
  | zero =>
    intro i h1 S1 e b hS sp
    obtain rfl : i = nU := by omega
    refine ⟨fun _ => kk h1 (by unfold p2; rw [← hS]; exact b) (by unfold p2; rw [← hS]; exact sp), fun c => absurd ?_ c⟩
    rw [b.st.1.2.2.1]; exact Int32.le_refl _
  | succ j ih =>
    intro i h1 S1 e b hS sp
    have hU := b.wm.1.cU.2
    have hi : i < nU := by omega
    have ti : tN (nJ i) = i := tN_nJ (by omega)
    obtain ⟨u1, u2, u3, u4, u5⟩ := b.st.2.2.2.1 i hi
    have step : ∀ h2, Bd nS nT nU nG (i + 1) 0 h2 (toT nG i S1) → Sp h1 S1 h2 (toT nG i S1) → w_X11_beginTours_2 Q (j + 1) (nJ i + 1) h2 := fun h2 b2 s2 => by
      rw [nJ_succ]
      exact ih (i + 1) h2 _ (by omega) b2 (by rw [itr, ← hS]) (sp.trans s2)
    refine ⟨fun c => absurd c ?_, fun _ => ⟨i, by rw [ti]; exact u1, (vp_nJ (by omega)).mpr (by omega), fun z => ?_, fun z => ⟨(vp_nJ (by omega)).mpr (by omega), ?_⟩⟩⟩
    · rw [b.st.1.2.2.1, nJ_le (by omega) (by omega)]; omega
    · rw [u2, b.rcd.1] at z
      have em : toT nG i S1 = S1 := by unfold toT; rw [if_neg z]
      rw [em] at step
      refine step h1 ⟨b.wm, b.st, b.rcd, fun g hg => ?_, b.td, b.ld, b.vl, b.ud, b.rq⟩ (Sp.refl _ _)
      obtain ⟨d1, d2, d3, d4, d5, d6, d7, d8, d9⟩ := b.gd g hg
      refine ⟨d1, d2, d3, d4, d5, d6, fun e2 e0 => ?_, d8, d9⟩
      obtain ⟨x1, x2, x3, x4⟩ := d7 e2 e0
      refine ⟨x1, x2, x3, fun y => ?_⟩
      by_cases c : tN (S1 146 g) = i
      · rw [c] at x3 ⊢
        exact Int32.lt_of_le_of_ne x3 (fun y => z y.symm)
      · exact x4 (by omega)
    · rw [u2, b.rcd.1] at z
      rw [ti, u1]
      have em : toT nG i S1 = mSt nG i S1 := by unfold toT; rw [if_pos z]
      rw [em] at step
      exact xSeat hi (nb.sp sp) b step
/-! who is through -/
theorem xOver {g : Nat} {Q : Int32 → Hp → Prop} (w : WM nS nT nU nG S) (st : Stc nS nT nU nG h S) (gd : GD nT nU h S g) (rc : RCd h S) (nb : NB nG S) (hg : g < nG) (kk : Q (bI ((S 148 g = 2 ∧ S 150 g = S 12 24) ∨ (S 148 g = 3 ∧ S 12 24 = S 136 (tN (S 146 g)) + S 137 (tN (S 146 g))))) h) : wp_X2_isOverIn g (gI h 11 0 14) h Q := by
  have gs := st.gs g hg
  have hU := w.1.cU.2
  have n32 : ¬ ((3 : Int32) = 2) ∧ ¬ ((2 : Int32) = 3) := by decide
  rw [rc.1]
  simp only [w_X2_isOverIn_61, w_X2_isOverIn_60, w_X2_isOverIn_56, w_X2_isOverIn_48, w_X2_isOverIn_40, w_X2_isOverIn_39, w_X2_isOverIn_38, w_X2_isOverIn_34, w_X2_isOverIn_15, w_X2_isOverIn_8, w_X2_isOverIn_0, wp_X2_isOverIn, pif, nif]
  rw [gd.1]
  by_cases c3 : S 148 g = 3
  · have e6 := w.2 g hg c3
    rcases w.1.tourOf g hg with e | ⟨u, hu, e⟩
    · exact absurd e e6
    · have e4 : gP h 2 g 4 = some (10, u) := (gs.tour w hg hu).mpr e
      obtain ⟨u1, u2, u3, u4, u5⟩ := st.2.2.2.1 u hu
      rw [e, tN_nJ (by omega)] at kk
      rw [if_pos c3, if_neg (by rw [e4]; simp)]
      refine ⟨u, e4, ?_⟩
      rw [u2, u3]
      by_cases c : S 136 u + S 137 u = S 12 24
      · rw [if_pos c]
        have : bI ((S 148 g = 2 ∧ S 150 g = S 12 24) ∨ (S 148 g = 3 ∧ S 12 24 = S 136 u + S 137 u)) = 1 := bI_1.mpr (Or.inr ⟨c3, c.symm⟩)
        rw [this] at kk
        exact ⟨Or.inr trivial, kk⟩
      · rw [if_neg c]
        have : bI ((S 148 g = 2 ∧ S 150 g = S 12 24) ∨ (S 148 g = 3 ∧ S 12 24 = S 136 u + S 137 u)) = 0 := bI_0.mpr (by
          rintro (y | y)
          · rw [c3] at y; exact n32.1 y.1
          · exact c y.2.symm)
        rw [this] at kk
        exact ⟨Or.inl trivial, kk⟩
  · rw [if_neg c3]
    have e0 : (S 148 g = 2 ∧ gI h 2 g 13 = S 12 24) ↔ ((S 148 g = 2 ∧ S 150 g = S 12 24) ∨ (S 148 g = 3 ∧ S 12 24 = S 136 (tN (S 146 g)) + S 137 (tN (S 146 g)))) := by
      obtain ⟨d1, d2, d3, d4, d5, d6, d7, d8, d9⟩ := gd
      constructor
      · intro y
        by_cases c0 : S 150 g = -1
        · obtain ⟨x1, x2, x3, x4⟩ := d7 y.1 c0
          rcases w.1.tourOf g hg with e | ⟨u, hu, e⟩
          · exact absurd e x2
          · have := x4 (by rw [e, tN_nJ (by omega)]; exact hu)
            rw [← x1, y.2] at this
            exact absurd this i32irr
        · rw [d8 y.1 c0] at y; exact Or.inl y
      · rintro (y | y)
        · have c0 : ¬ S 150 g = -1 := fun z => by
            rw [z] at y
            have := congrArg Int32.toInt y.2
            have h1 := nb.1
            have h3 : (-1 : Int32).toInt = -1 := by decide
            omega
          exact ⟨y.1, by rw [d8 y.1 c0]; exact y.2⟩
        · exact absurd y.1 c3
    by_cases c2 : S 148 g = 2
    · rw [if_pos c2]
      by_cases c : gI h 2 g 13 = S 12 24
      · rw [if_pos c]
        rw [bI_1.mpr (e0.mp ⟨c2, c⟩)] at kk
        exact ⟨Or.inr trivial, kk⟩
      · rw [if_neg c]
        rw [bI_0.mpr (fun y => c (e0.mpr y).2)] at kk
        exact ⟨Or.inl trivial, kk⟩
    · rw [if_neg c2]
      rw [bI_0.mpr (fun y => c2 (e0.mpr y).1)] at kk
      exact ⟨Or.inl trivial, kk⟩
theorem xQuay {Q : Hp → Prop} (nb : NB nG S) (b0 : Bd nS nT nU nG nU 0 h S) (kk : ∀ h', Bd nS nT nU nG nU nG h' (p3 nG S) → Sp h S h' (p3 nG S) → Q h') : wp_X11_bringToQuay h Q := by
  suffices H : ∀ j i h1 S1, i + j = nG → Bd nS nT nU nG nU i h1 S1 → S1 = itr enG i S → Sp h S h1 S1 → w_X11_bringToQuay_2 Q (j + 1) (nJ i) h1 from ⟨nG + 1, H nG 0 h S (by omega) b0 rfl (Sp.refl h S)⟩
  intro j
  induction j with
  | zero =>
    intro i h1 S1 e b hS sp
    obtain rfl : i = nG := by omega
    refine ⟨fun _ => kk h1 (by unfold p3; rw [← hS]; exact b) (by unfold p3; rw [← hS]; exact sp), fun c => absurd ?_ c⟩
    rw [b.st.1.2.2.2.1]; exact Int32.le_refl _
  | succ j ih =>
    intro i h1 S1 e b hS sp
    have hn := b.wm.1.cG.2
    have hi : i < nG := by omega
    have ti : tN (nJ i) = i := tN_nJ (by omega)
    have gs := b.st.gs i hi
    have gd := b.gd i hi
    obtain ⟨L, l1, l2, l3, l4, l5, l6, l7⟩ := b.rq
    have step : ∀ h2, Bd nS nT nU nG nU (i + 1) h2 (enG i S1) → Sp h1 S1 h2 (enG i S1) → w_X11_bringToQuay_2 Q (j + 1) (nJ i + 1) h2 := fun h2 b2 s2 => by
      rw [nJ_succ]
      exact ih (i + 1) h2 _ (by omega) b2 (by rw [itr, ← hS]) (sp.trans s2)
    refine ⟨fun c => absurd c ?_, fun _ => ⟨i, by rw [ti]; exact gs.1, (vp_nJ (by omega)).mpr (by omega), ?_⟩⟩
    · rw [b.st.1.2.2.2.1, nJ_le (by omega) (by omega)]; omega
    · refine xOver b.wm b.st gd b.rcd (nb.sp sp) hi ⟨fun z => ?_, fun z => ?_⟩
      · rw [bI_0] at z
        have em : enG i S1 = S1 := by unfold enG; rw [if_neg z]
        rw [em] at step
        refine step h1 ⟨b.wm, b.st, b.rcd, b.gd, b.td, b.ld, b.vl, b.ud, L, l1, l2, l3, l4, l5, l6, fun a ha e4 => ?_⟩ (Sp.refl _ _)
        rcases l7 a ha e4 with y | y
        · exact Or.inl y
        · exact Or.inr ⟨y.1, by omega⟩
      · rw [bI_0] at z
        have z := Decidable.not_not.mp z
        have em : enG i S1 = us (us S1 148 i 4) 154 i (S1 12 24) := by unfold enG; rw [if_pos z]
        rw [em] at step
        have s23 : S1 148 i = 2 ∨ S1 148 i = 3 := z.elim (fun y => Or.inl y.1) (fun y => Or.inr y.1)
        have n4 : ¬ S1 148 i = 4 ∧ ¬ S1 148 i = 1 ∧ ¬ S1 148 i = 5 ∧ ¬ S1 148 i = 6 := by
          rcases s23 with y | y <;> (rw [y]; decide)
        have nL : i ∉ L := fun y => by
          have := (l3 i y).2
          unfold qst at this
          simp [n4] at this
        have hl : (i :: L).length ≤ nG := nodup_len nG (i :: L) (List.nodup_cons.mpr ⟨nL, l2⟩) (fun x hx => by
          rcases List.mem_cons.mp hx with y | y
          · omega
          · exact (l3 x y).1)
        simp only [List.length_cons] at hl
        have e10 : gI (wI (wI h1 2 i 6 4) 2 i 12 (gI (wI h1 2 i 6 4) 11 0 14)) 11 0 10 = nJ L.length := by simp [gI_wI, l1]
        have e14 : gI (wI h1 2 i 6 4) 11 0 14 = S1 12 24 := by simp [gI_wI]; exact b.rcd.1
        refine ⟨fun y => ?_, fun y => ⟨i, rfl, ?_⟩⟩
        · rw [l1] at y
          have := (nJ_le (a := 60) (b := L.length) (by omega) (by omega)).mp y
          omega
        · refine ⟨by rw [e10, vp_nJ (by omega)]; omega, ?_⟩
          show w_X11_bringToQuay_2 Q (j + 1) (nJ i + 1) _
          rw [e10, tN_nJ (by omega), e14]
          have e10' : gI (wP (wI (wI h1 2 i 6 4) 2 i 12 (S1 12 24)) 25 0 L.length (some (2, i))) 11 0 10 + 1 = nJ (L.length + 1) := by
            rw [← nJ_succ, ← l1]; simp [gI_wI, gI_wP]
          rw [e10']
          have sf : Sf S1 (us (us S1 148 i 4) 154 i (S1 12 24)) := ((Sf.refl S1).up rfl).up rfl
          have sp2 : Sp h1 S1 (wI (wP (wI (wI h1 2 i 6 4) 2 i 12 (S1 12 24)) 25 0 L.length (some (2, i))) 11 0 10 (nJ (L.length + 1))) (us (us S1 148 i 4) 154 i (S1 12 24)) := ⟨((((Kz.refl h1).I rfl (by omega)).I rfl (by omega)).P (by simp [dx])).I rfl (by omega), sf, by simp [us_app]⟩
          refine step _ (Bp.bd (Bp.up (c := i + 1) (p := fun _ => True) (q := fun _ => True) (h := h1) (S := S1) ?_ sp2 ((b.wm.up8 (by decide)).up rfl (by omega)) ?_ ?_ ?_ ?_ ?_ ?_ ?_)) sp2
          · refine Bd.bp ⟨b.wm, b.st, b.rcd, b.gd, b.td, b.ld, b.vl, b.ud, L, l1, l2, l3, l4, l5, l6, fun a ha e4 => ?_⟩
            rcases l7 a ha e4 with y | y
            · exact Or.inl y
            · exact Or.inr ⟨y.1, by omega⟩
          · have := b.rcd
            unfold RCd at this ⊢
            simpa [gI_wI, gI_wP, us_app] using this
          · intro g hg
            by_cases y2 : g = i
            · right
              subst y2
              obtain ⟨d1, d2, d3, d4, d5, d6, d7, d8, d9, d10, d11⟩ := gd
              have n41 : ¬ ((4 : Int32) = 1) ∧ ¬ ((4 : Int32) = 2) := by decide
              unfold GD
              simp only [gI_wI, gI_wP, gP_wI, gP_wP, us_app]
              simp [n41]
              rw [if_neg n4.2.1] at d2
              exact ⟨d2, d3, d4, d5, d10 n4.2.1⟩
            · left
              refine ⟨fun s hs => by simp [gI_wI, gI_wP, y2], by simp [gP_wI, gP_wP], fun k h1 h2 => by simp [us_app, y2]⟩
          · intro t ht; left
            simp [gI_wI, gI_wP, us_app]
          · intro t ht _
            refine (b.ld t ht).keep sf (by simp [gI_wI, gI_wP]) fun g hg => ?_
            unfold inT
            by_cases y2 : g = i
            · subst y2; simp [us_app, n4]
            · simp [us_app, y2]
          · intro t ht _
            refine (b.vl t ht).keep (by simp [us_app]) fun g hg => ?_
            unfold inT
            by_cases y2 : g = i
            · subst y2; simp [us_app]
            · simp [us_app, y2]
          · intro v hv
            have := b.ud v hv
            simpa [gI_wI, gI_wP, us_app] using this
          · have o8 : ∀ g, g ≠ i → us (us S1 148 i 4) 154 i (S1 12 24) 148 g = S1 148 g := fun g hg => by simp [us_app, hg]
            have o4 : ∀ g, g ≠ i → us (us S1 148 i 4) 154 i (S1 12 24) 154 g = S1 154 g := fun g hg => by simp [us_app, hg]
            have o9 : ∀ g, us (us S1 148 i 4) 154 i (S1 12 24) 149 g = S1 149 g := fun g => by simp [us_app]
            have o3 : ∀ g, us (us S1 148 i 4) 154 i (S1 12 24) 133 g = S1 133 g := fun g => by simp [us_app]
            have i8 : us (us S1 148 i 4) 154 i (S1 12 24) 148 i = 4 := by simp [us_app]
            have i4 : us (us S1 148 i 4) 154 i (S1 12 24) 154 i = S1 12 24 := by simp [us_app]
            have hne : ∀ g, g ∈ L → g ≠ i := fun g hg y => nL (y ▸ hg)
            have v24 : us (us S1 148 i 4) 154 i (S1 12 24) 12 24 = S1 12 24 := by simp [us_app]
            refine ⟨L ++ [i], by simp [gI_wI], ?_, ?_, ?_, ?_, ?_, ?_⟩
            · rw [List.nodup_append]
              refine ⟨l2, by simp, fun a ha b hb => ?_⟩
              have : b = i := by simpa using hb
              rw [this]; exact hne a ha
            · intro g hg
              rcases List.mem_append.mp hg with y2 | y2
              · refine ⟨(l3 g y2).1, ?_⟩
                have := (l3 g y2).2
                unfold qst at this ⊢
                rw [o8 g (hne g y2), o9, o3]; exact this
              · have y2 : g = i := by simpa using y2
                rw [y2]; exact ⟨hi, Or.inl i8⟩
            · intro g hg y2
              rw [List.mem_append]
              by_cases y3 : g = i
              · right; simp [y3]
              · rw [o8 g y3] at y2; exact Or.inl (l4 g hg y2)
            · intro j' g hj
              rw [gP_wI, gP_wP]
              by_cases y3 : j' < L.length
              · rw [List.getElem?_append_left y3] at hj
                rw [if_neg (by omega)]; exact l5 j' g hj
              · have : j' = L.length := by
                  have := (List.getElem?_eq_some_iff.mp hj).1
                  simp at this; omega
                subst this
                simp at hj
                simp [hj]
            · rw [List.pairwise_append]
              refine ⟨?_, by simp, ?_⟩
              · refine List.Pairwise.imp_of_mem ?_ l6
                intro a b ha hb y3
                rw [o8 a (hne a ha), o8 b (hne b hb)]
                unfold ltk
                rw [o4 a (hne a ha), o4 b (hne b hb)]; exact y3
              · intro a ha b hb
                have : b = i := by simpa using hb
                subst this
                rw [o8 a (hne a ha)]
                intro y3 _
                unfold ltk
                rw [o4 a (hne a ha), i4]
                exact l7 a ha y3
            · intro a ha
              rcases List.mem_append.mp ha with y2 | y2
              · rw [o8 a (hne a y2), o4 a (hne a y2), v24]
                intro y3
                rcases l7 a y2 y3 with y | y
                · exact Or.inl y
                · exact Or.inr ⟨y.1, by omega⟩
              · have y2 : a = i := by simpa using y2
                rw [y2, i4, v24]
                exact fun _ => Or.inr ⟨rfl, by omega⟩
end
