/-! guides for the tours that promise most -/
theorem nJ_mul (a b : Nat) : nJ a * nJ b = nJ (a * b) := (Int32.ofNat_mul a b).symm
theorem orB : ∀ b, b < 64 → ∀ g, g < 6 → nJ b ||| ((1 : Int32) <<< (nJ g &&& 31)) = nJ (b ||| 2 ^ g) := by decide
theorem shB : ∀ k, k < 7 → (1 : Int32) <<< (nJ k &&& 31) = nJ (2 ^ k) := by decide
theorem or64 {b g k : Nat} (hb : b < 2 ^ k) (hg : g < k) : b ||| 2 ^ g < 2 ^ k := Nat.or_lt_two_pow hb (Nat.pow_lt_pow_right (by omega) hg)
theorem pw64 {k : Nat} (hk : k ≤ 6) : 2 ^ k ≤ 64 := Nat.pow_le_pow_right (n := 2) (by omega) hk
def cnB (S : MSt) (t b g : Nat) : Bool := decide (((nJ b >>> (nJ g &&& 31)) &&& 1) = 0 ∧ ((S 162 g >>> (S 139 t &&& 31)) &&& 1) = 1)
def bst (f : Nat → Int32) (s : Int32) (cn : Nat → Bool) (b : Nat) : Nat → Int32
  | 0 => f b
  | j + 1 => if cn j = true then (if bst f s cn b j < s + f (b ||| 2 ^ j) then s + f (b ||| 2 ^ j) else bst f s cn b j) else bst f s cn b j
def mo (S : MSt) (k nU : Nat) : Nat → Nat → Int32
  | 0, _ => 0
  | d + 1, b => bst (mo S k nU d) (S 138 (nU - (d + 1))) (cnB S (nU - (d + 1)) b) b k
def lbF (f : Nat → Int32) (s m : Int32) (cn : Nat → Bool) (b : Nat) : Nat → Nat → Int32
  | 0, _ => -1
  | n + 1, j => if cn j = true ∧ s + f (b ||| 2 ^ j) = m then nJ j else lbF f s m cn b n (j + 1)
def cgF (S : MSt) (k nU t b : Nat) : Int32 := lbF (mo S k nU (nU - (t + 1))) (S 138 t) (mo S k nU (nU - t) b) (cnB S t b) b k 0
def bz (S : MSt) (k nU : Nat) : Nat → Nat
  | 0 => 0
  | t + 1 => if cgF S k nU t (bz S k nU t) = -1 then bz S k nU t else bz S k nU t ||| 2 ^ (tN (cgF S k nU t (bz S k nU t)))
theorem lbF_ex {f : Nat → Int32} {s m : Int32} {cn : Nat → Bool} {b : Nat} : ∀ (n j : Nat), lbF f s m cn b n j = -1 ∨ ∃ g, j ≤ g ∧ g < j + n ∧ lbF f s m cn b n j = nJ g
  | 0, j => Or.inl rfl
  | n + 1, j => by
    rw [lbF]
    split
    · exact Or.inr ⟨j, by omega, by omega, rfl⟩
    · rcases lbF_ex (f := f) (s := s) (m := m) (cn := cn) (b := b) n (j + 1) with e | ⟨g, h1, h2, e⟩
      · exact Or.inl e
      · exact Or.inr ⟨g, by omega, by omega, e⟩
section
variable {nS nT nU nG k : Nat} {h h' : Hp} {S S' : MSt} {T : TextT}
theorem bz_lt {hk : k ≤ 6} : ∀ t, bz S k nU t < 2 ^ k
  | 0 => Nat.two_pow_pos k
  | t + 1 => by
    have ih : bz S k nU t < 2 ^ k := bz_lt (hk := hk) t
    rw [bz]
    split
    · exact ih
    · rename_i z
      rcases lbF_ex (f := mo S k nU (nU - (t + 1))) (s := S 138 t) (m := mo S k nU (nU - t) (bz S k nU t)) (cn := cnB S t (bz S k nU t)) (b := bz S k nU t) k 0 with e | ⟨g, h1, h2, e⟩
      · exact absurd e z
      · have e' : cgF S k nU t (bz S k nU t) = nJ g := e
        rw [e', tN_nJ (by omega)]
        exact or64 ih (by omega)
theorem mo_bd (tr : TouR nU S) (hU : nU ≤ 8) : ∀ d b, d ≤ nU → 0 ≤ (mo S k nU d b).toInt ∧ (mo S k nU d b).toInt ≤ 200 * d
  | 0, b, _ => by rw [mo]; simp
  | d + 1, b, hd => by
    have ih := fun b => mo_bd tr hU d b (by omega)
    have st := (tr (nU - (d + 1)) (by omega)).1
    rw [mo]
    have : ∀ j, 0 ≤ (bst (mo S k nU d) (S 138 (nU - (d + 1))) (cnB S (nU - (d + 1)) b) b j).toInt ∧ (bst (mo S k nU d) (S 138 (nU - (d + 1))) (cnB S (nU - (d + 1)) b) b j).toInt ≤ 200 * (d + 1 : Nat) := by
      intro j
      induction j with
      | zero => rw [bst]; have := ih b; omega
      | succ j ihj =>
        rw [bst]
        have i2 := ih (b ||| 2 ^ j)
        split
        · split
          · rw [tadd (by omega) (by omega)]; omega
          · exact ihj
        · exact ihj
    exact this k
/-! the class's side -/
def RowX (S : MSt) (k nU : Nat) (t0 : Nat) (h : Hp) : Prop := (∀ t b, t0 ≤ t → t ≤ nU → b < 2 ^ k → gI h 37 0 (64 * t + b) = mo S k nU (nU - t) b) ∧ ∀ j, 64 * nU ≤ j → j < 576 → gI h 37 0 j = 0
def f37 (k : Nat) : Bool := !(k == 37)
theorem xIsFree {t b g : Nat} {Q : Int32 → Hp → Prop} (hg : g < k) (hk : k ≤ 6) (e36 : gI h 36 0 g = S 162 g) (e103 : gI h 10 t 3 = S 139 t) (kk : Q (bI (cnB S t b g = true)) h) : wp_X3_isFree (nJ g) (nJ b) (some (10, t)) h Q := by
  unfold cnB at kk
  refine ⟨fun z => ?_, fun z => ⟨t, rfl, (vp_nJ (by omega)).mpr (by omega), fun z2 => ?_, fun z2 => ?_⟩⟩
  · rw [bI_n (fun y => z (of_decide_eq_true y).1)] at kk; exact ⟨Or.inl rfl, kk⟩
  · rw [tN_nJ (by omega), e36, e103] at z2
    rw [bI_n (fun y => z2 (of_decide_eq_true y).2)] at kk; exact ⟨Or.inl rfl, kk⟩
  · rw [tN_nJ (by omega), e36, e103] at z2
    rw [bI_c (decide_eq_true ⟨z, z2⟩)] at kk; exact ⟨Or.inr rfl, kk⟩
theorem xSeatsWith {t b g : Nat} {Q : Int32 → Hp → Prop} (hg : g < k) (hk : k ≤ 6) (hb : b < 2 ^ k) (ht : t < 8) (e102 : gI h 10 t 2 = S 138 t) (kk : Q (S 138 t + gI h 37 0 (64 * (t + 1) + (b ||| 2 ^ g))) h) : wp_X3_seatsWith (nJ g) (nJ t) (some (10, t)) (nJ b) h Q := by
  have p64 := pw64 hk
  have hl := or64 hb hg
  have e : (nJ t + (1 : Int32)) * (64 : Int32) + (nJ b ||| ((1 : Int32) <<< (nJ g &&& 31))) = nJ (64 * (t + 1) + (b ||| 2 ^ g)) := by
    rw [orB b (by omega) g (by omega), nJ_succ, show (64 : Int32) = nJ 64 from rfl, nJ_mul, nJ_add, Nat.mul_comm]
  refine ⟨t, rfl, ?_⟩
  unfold w_X3_seatsWith_0 w_X3_seatsWith_21
  rw [e, e102, tN_nJ (by omega)]
  exact ⟨(vp_nJ (by omega)).mpr (by omega), kk⟩
theorem xFillL {a2 : Int32} {Q : Hp → Prop} {h0 : Hp} (b0 : Bd nS nT nU nG nU nG h0 S) (hk : k ≤ 6) (ek : gI h0 3 0 1 = nJ k) (e36 : ∀ i, i < k → gI h0 36 0 i = S 162 i) (kk : ∀ h', RowX S k nU 0 h' → Fr f37 h0 h' → gC h' = gC h0 → Q h') :
    ∀ (t : Nat) (h : Hp), t ≤ nU → RowX S k nU t h → Fr f37 h0 h → gC h = gC h0 → w_X3_fillMost_4 Q (t + 1) a2 (nJ t - 1) h := by
  have hU := b0.wm.1.cU.2
  have p64 := pw64 hk
  intro t
  induction t with
  | zero =>
    intro h ht r f c
    exact ⟨fun _ => kk h r f c, fun z => absurd (by decide) z⟩
  | succ t ih =>
    intro h ht r f c
    rw [nJ_pred]
    refine ⟨fun z => absurd z (nJ_ge0 (by omega)), fun _ => ?_⟩
    suffices H : ∀ j b h1, b + j = 2 ^ k → RowX S k nU (t + 1) h1 → (∀ b', b' < b → gI h1 37 0 (64 * t + b') = mo S k nU (nU - t) b') → Fr f37 h0 h1 → gC h1 = gC h0 → w_X3_fillMost_11 (w_X3_fillMost_4 Q (t + 1)) Q (j + 1) a2 (nJ t) (nJ b) h1 from ⟨2 ^ k + 1, H (2 ^ k) 0 h (by omega) r (fun b' hb' => by omega) f c⟩
    intro j
    induction j with
    | zero =>
      intro b h1 e r1 rb f1 c1
      obtain rfl : b = 2 ^ k := by omega
      have e3 : gI h1 3 0 1 = nJ k := by rw [(f1 3 rfl).2.1]; exact ek
      refine ⟨fun _ => ?_, fun z => absurd ?_ z⟩
      · show w_X3_fillMost_4 Q (t + 1) a2 (nJ t + (-1)) h1
        rw [show nJ t + (-1) = nJ t - 1 by rw [Int32.sub_eq_add_neg]]
        refine ih h1 (by omega) ⟨fun t' b' h1' h2' h3' => ?_, r1.2⟩ f1 c1
        by_cases y : t' = t
        · rw [y]; exact rb b' h3'
        · exact r1.1 t' b' (by omega) h2' h3'
      · rw [e3, shB k (by omega)]; exact Int32.le_refl _
    | succ j ihj =>
      intro b h1 e r1 rb f1 c1
      have hb : b < 2 ^ k := by omega
      have e3 : gI h1 3 0 1 = nJ k := by rw [(f1 3 rfl).2.1]; exact ek
      have e22 : gP h1 22 0 t = some (10, t) := by rw [(f1 22 rfl).2.2.2]; exact (b0.st.2.2.2.1 t (by omega)).1
      obtain ⟨-, -, -, u4, u5⟩ := b0.st.2.2.2.1 t (by omega)
      have e102 : gI h1 10 t 2 = S 138 t := by rw [(f1 10 rfl).2.1]; exact u4
      have e103 : gI h1 10 t 3 = S 139 t := by rw [(f1 10 rfl).2.1]; exact u5
      have v8 : vp_in (nJ t) 8 := (vp_nJ (by omega)).mpr (by omega)
      have et : nU - t = (nU - (t + 1)) + 1 := by omega
      have eix : (nJ t + (1 : Int32)) * (64 : Int32) + nJ b = nJ (64 * (t + 1) + b) := by
        rw [nJ_succ, show (64 : Int32) = nJ 64 from rfl, nJ_mul, nJ_add, Nat.mul_comm]
      have eiy : nJ t * (64 : Int32) + nJ b = nJ (64 * t + b) := by
        rw [show (64 : Int32) = nJ 64 from rfl, nJ_mul, nJ_add, Nat.mul_comm]
      refine ⟨fun z => absurd z ?_, fun _ => ?_⟩
      · rw [e3, shB k (by omega), nJ_le (by omega) (by omega)]; omega
      · unfold w_X3_fillMost_22 w_X3_fillMost_35
        rw [eix, tN_nJ (by omega), r1.1 (t + 1) b (by omega) (by omega) hb]
        refine ⟨(vp_nJ (by omega)).mpr (by omega), ?_⟩
        suffices G : ∀ i g, g + i = k → w_X3_fillMost_41 (w_X3_fillMost_4 Q (t + 1)) (w_X3_fillMost_11 (w_X3_fillMost_4 Q (t + 1)) Q (j + 1)) Q (i + 1) a2 (nJ t) (nJ b) (bst (mo S k nU (nU - (t + 1))) (S 138 t) (cnB S t b) b g) (nJ g) h1 from ⟨k + 1, G k 0 (by omega)⟩
        intro i
        induction i with
        | zero =>
          intro g eg
          obtain rfl : g = k := by omega
          refine ⟨fun _ => ?_, fun z => absurd (by rw [e3]; exact Int32.le_refl _) z⟩
          unfold w_X3_fillMost_89
          rw [eiy, tN_nJ (by omega)]
          refine ⟨(vp_nJ (by omega)).mpr (by omega), ?_⟩
          rw [nJ_succ]
          have em : bst (mo S g nU (nU - (t + 1))) (S 138 t) (cnB S t b) b g = mo S g nU (nU - t) b := by
            rw [et, mo]
            rw [show nU - (nU - (t + 1) + 1) = t by omega]
          rw [em]
          refine ihj (b + 1) _ (by omega) ⟨fun t' b' h1' h2' h3' => ?_, fun q h1' h2' => ?_⟩ (fun b' hb' => ?_) (f1.wI rfl) c1
          · rw [gI_wI, if_neg (by omega)]; exact r1.1 t' b' h1' h2' h3'
          · rw [gI_wI, if_neg (by omega)]; exact r1.2 q h1' h2'
          · rw [gI_wI]
            by_cases y : b' = b
            · rw [if_pos ⟨rfl, rfl, by rw [y]⟩, y]
            · rw [if_neg (by omega)]; exact rb b' (by omega)
        | succ i ihi =>
          intro g eg
          have hg : g < k := by omega
          have ihi := ihi (g + 1) (by omega)
          rw [bst, ← nJ_succ] at ihi
          have eg36 : gI h1 36 0 g = S 162 g := by rw [(f1 36 rfl).2.1]; exact e36 g hg
          refine ⟨fun z => absurd z ?_, fun _ => ⟨v8, ?_⟩⟩
          · rw [e3, nJ_le (by omega) (by omega)]; omega
          · rw [tN_nJ (by omega), e22]
            refine xIsFree hg hk eg36 e103 ⟨fun z => ?_, fun z => ⟨v8, ?_⟩⟩
            · rw [bI_0] at z
              rw [if_neg z] at ihi; exact ihi
            · rw [bI_0] at z
              rw [if_pos (Decidable.not_not.mp z)] at ihi
              rw [tN_nJ (by omega), e22]
              refine xSeatsWith hg hk hb (by omega) e102 ?_
              rw [r1.1 (t + 1) (b ||| 2 ^ g) (by omega) (by omega) (or64 hb hg)]
              exact ihi
theorem xFill {Q : Hp → Prop} (b0 : Bd nS nT nU nG nU nG h S) (hk : k ≤ 6) (ek : gI h 3 0 1 = nJ k) (e36 : ∀ i, i < k → gI h 36 0 i = S 162 i) (z0 : ∀ j, 64 * nU ≤ j → j < 576 → gI h 37 0 j = 0) (kk : ∀ h', RowX S k nU 0 h' → Fr f37 h h' → gC h' = gC h → Q h') : wp_X3_fillMost (nJ nU) h Q := by
  have hU := b0.wm.1.cU.2
  have p64 := pw64 hk
  refine ⟨nU + 1, xFillL b0 hk ek e36 kk nU h (Nat.le_refl _) ⟨fun t b h1 h2 h3 => ?_, z0⟩ (Fr.refl h) rfl⟩
  obtain rfl : t = nU := by omega
  rw [Nat.sub_self, mo]
  exact z0 _ (by omega) (by omega)
theorem xLeast {t b : Nat} {Q : Int32 → Hp → Prop} (hk : k ≤ 6) (ek : gI h 3 0 1 = nJ k) (e36 : ∀ i, i < k → gI h 36 0 i = S 162 i) (ht : t < nU) (hU : nU ≤ 8) (hb : b < 2 ^ k) (r : RowX S k nU 0 h) (e102 : gI h 10 t 2 = S 138 t) (e103 : gI h 10 t 3 = S 139 t) (kk : Q (cgF S k nU t b) h) : wp_X3_leastBest (nJ t) (some (10, t)) (nJ b) h Q := by
  have p64 := pw64 hk
  have eiy : nJ t * (64 : Int32) + nJ b = nJ (64 * t + b) := by
    rw [show (64 : Int32) = nJ 64 from rfl, nJ_mul, nJ_add, Nat.mul_comm]
  suffices G : ∀ i g, g + i = k → Q (lbF (mo S k nU (nU - (t + 1))) (S 138 t) (mo S k nU (nU - t) b) (cnB S t b) b i g) h → w_X3_leastBest_3 Q (i + 1) (nJ t) (some (10, t)) (nJ b) (nJ g) h from ⟨k + 1, G k 0 (by omega) kk⟩
  intro i
  induction i with
  | zero =>
    intro g eg kk
    obtain rfl : g = k := by omega
    exact ⟨fun _ => kk, fun z => absurd (by rw [ek]; exact Int32.le_refl _) z⟩
  | succ i ih =>
    intro g eg kk
    have hg : g < k := by omega
    rw [lbF] at kk
    have ih := ih (g + 1) (by omega)
    rw [← nJ_succ] at ih
    refine ⟨fun z => absurd z ?_, fun _ => ?_⟩
    · rw [ek, nJ_le (by omega) (by omega)]; omega
    · refine xIsFree hg hk (e36 g hg) e103 ⟨fun z => ?_, fun z => ?_⟩
      · rw [bI_0] at z
        rw [if_neg (fun y => z y.1)] at kk; exact ih kk
      · rw [bI_0] at z
        refine xSeatsWith hg hk hb (by omega) e102 ?_
        rw [r.1 (t + 1) (b ||| 2 ^ g) (by omega) (by omega) (or64 hb hg)]
        unfold w_X3_leastBest_32
        rw [eiy, tN_nJ (by omega), r.1 t b (by omega) (by omega) hb]
        refine ⟨(vp_nJ (by omega)).mpr (by omega), fun y => ?_, fun y => ?_⟩
        · rw [if_neg (fun x => y x.2)] at kk; exact ih kk
        · rw [if_pos ⟨Decidable.not_not.mp z, y⟩] at kk; exact kk
def plS (S : MSt) (k nU : Nat) : Nat → MSt
  | 0 => S
  | t + 1 => us (plS S k nU t) 164 t (cgF S k nU t (bz S k nU t))
theorem plS_o {t q x : Nat} (hq : q ≠ 164) : plS S k nU t q x = S q x := by
  induction t with
  | zero => rfl
  | succ t ih => rw [plS, us_app, if_neg (fun z => hq z.1)]; exact ih
theorem plS_i {t x : Nat} : plS S k nU t 164 x = if x < t then cgF S k nU x (bz S k nU x) else S 164 x := by
  induction t with
  | zero => rw [if_neg (by omega)]; rfl
  | succ t ih =>
    rw [plS, us_app]
    by_cases c : x = t
    · rw [if_pos ⟨rfl, c⟩, if_pos (by omega), c]
    · rw [if_neg (fun z => c z.2), ih]
      by_cases c2 : x < t
      · rw [if_pos c2, if_pos (by omega)]
      · rw [if_neg c2, if_neg (by omega)]
def f38 (k : Nat) : Bool := !(k == 38)
theorem xChoose {Q : Int32 → Hp → Prop} {h0 : Hp} (b0 : Bd nS nT nU nG nU nG h0 S) (hk : k ≤ 6) (ek : gI h0 3 0 1 = nJ k) (e36 : ∀ i, i < k → gI h0 36 0 i = S 162 i) (r0 : RowX S k nU 0 h0) (kk : ∀ h', (∀ t, gI h' 38 0 t = if t < nU then cgF S k nU t (bz S k nU t) else gI h0 38 0 t) → Fr f38 h0 h' → gC h' = gC h0 → Q (mo S k nU nU 0) h') :
    ∀ (j t : Nat) (h : Hp), t + j = nU → (∀ x, gI h 38 0 x = if x < t then cgF S k nU x (bz S k nU x) else gI h0 38 0 x) → Fr f38 h0 h → gC h = gC h0 → w_X3_planBest_11 Q (j + 1) (nJ nU) (nJ (bz S k nU t)) (nJ t) h := by
  have hU := b0.wm.1.cU.2
  have p64 := pw64 hk
  intro j
  induction j with
  | zero =>
    intro t h e c f fc
    obtain rfl : t = nU := by omega
    refine ⟨fun _ => ⟨(vp_nJ (n := 0) (by omega)).mpr (by omega), ?_⟩, fun z => absurd (Int32.le_refl _) z⟩
    have := kk h c f fc
    have e0 : gI h 37 0 (tN (0 : Int32)) = mo S k t t 0 := by
      rw [show tN (0 : Int32) = 0 from tN_nJ (n := 0) (by omega), (f 37 rfl).2.1]
      exact r0.1 0 0 (by omega) (by omega) (Nat.two_pow_pos k)
    rw [e0]; exact this
  | succ j ih =>
    intro t h e c f fc
    have ht : t < nU := by omega
    have v8 : vp_in (nJ t) 8 := (vp_nJ (by omega)).mpr (by omega)
    have tt : tN (nJ t) = t := tN_nJ (by omega)
    have hb : bz S k nU t < 2 ^ k := bz_lt (hk := hk) t
    obtain ⟨u1, -, -, u4, u5⟩ := b0.st.2.2.2.1 t ht
    have e22 : gP h 22 0 t = some (10, t) := by rw [(f 22 rfl).2.2.2]; exact u1
    have e102 : gI h 10 t 2 = S 138 t := by rw [(f 10 rfl).2.1]; exact u4
    have e103 : gI h 10 t 3 = S 139 t := by rw [(f 10 rfl).2.1]; exact u5
    have r : RowX S k nU 0 h := by
      unfold RowX at r0 ⊢; rw [(f 37 rfl).2.1]; exact r0
    refine ⟨fun z => absurd z ?_, fun _ => ⟨v8, ?_⟩⟩
    · rw [nJ_le (by omega) (by omega)]; omega
    · rw [tt, e22]
      refine xLeast hk (by rw [(f 3 rfl).2.1]; exact ek) (fun i hi => by rw [(f 36 rfl).2.1]; exact e36 i hi) ht hU hb r e102 e103 ⟨v8, v8, ?_⟩
      rw [tt]
      have e38 : gI (wI h 38 0 t (cgF S k nU t (bz S k nU t))) 38 0 t = cgF S k nU t (bz S k nU t) := by simp [gI_wI]
      rw [e38]
      have c' : ∀ x, gI (wI h 38 0 t (cgF S k nU t (bz S k nU t))) 38 0 x = if x < t + 1 then cgF S k nU x (bz S k nU x) else gI h0 38 0 x := fun x => by
        rw [gI_wI]
        by_cases y : x = t
        · rw [if_pos ⟨rfl, rfl, y⟩, if_pos (by omega), y]
        · rw [if_neg (fun z => y z.2.2), c x]
          by_cases y2 : x < t
          · rw [if_pos y2, if_pos (by omega)]
          · rw [if_neg y2, if_neg (by omega)]
      have ih := ih (t + 1) (wI h 38 0 t (cgF S k nU t (bz S k nU t))) (by omega) c' (f.wI rfl) fc
      rw [bz, ← nJ_succ] at ih
      refine ⟨fun z => ?_, fun z => ?_⟩
      · rw [if_pos z] at ih; exact ih
      · rw [if_neg z] at ih
        refine ⟨v8, ?_⟩
        rw [tt, e38]
        rcases lbF_ex (f := mo S k nU (nU - (t + 1))) (s := S 138 t) (m := mo S k nU (nU - t) (bz S k nU t)) (cn := cnB S t (bz S k nU t)) (b := bz S k nU t) k 0 with y | ⟨g, h1, h2, y⟩
        · exact absurd y z
        · have y : cgF S k nU t (bz S k nU t) = nJ g := y
          rw [y] at ih ⊢
          rw [tN_nJ (by omega)] at ih
          rw [orB _ (by omega) g (by omega)]
          exact ih
/-! the model's side -/
def RowM (S : MSt) (k nU : Nat) (t0 : Nat) (h : Hp) : Prop := ∀ t b, t0 ≤ t → t ≤ nU → b < 64 → gI h 165 0 (64 * t + b) = mo S k nU (nU - t) b
theorem mCan {t b g : Nat} {Q : Int32 → Hp → Prop} (hv : ∀ g, view h 162 g = S 162 g) (hv2 : ∀ t, view h 139 t = S 139 t) (hg : g < 6) (ht : t < 8) (kk : Q (bI (cnB S t b g = true)) h) : wp_X12_can (nJ g) (nJ t) (nJ b) h Q := by
  unfold cnB at kk
  refine ⟨fun z => ?_, fun z => ⟨(vp_nJ (by omega)).mpr hg, (vp_nJ (by omega)).mpr ht, fun z2 => ?_, fun z2 => ?_⟩⟩
  · rw [bI_n (fun y => z (of_decide_eq_true y).1)] at kk; exact ⟨Or.inl rfl, kk⟩
  · rw [tN_nJ (by omega), tN_nJ (by omega), gv_162, gv_139, hv, hv2] at z2
    rw [bI_n (fun y => z2 (of_decide_eq_true y).2)] at kk; exact ⟨Or.inl rfl, kk⟩
  · rw [tN_nJ (by omega), tN_nJ (by omega), gv_162, gv_139, hv, hv2] at z2
    rw [bI_c (decide_eq_true ⟨z, z2⟩)] at kk; exact ⟨Or.inr rfl, kk⟩
theorem or64' {b g : Nat} (hb : b < 64) (hg : g < 6) : b ||| 2 ^ g < 64 := or64 (k := 6) hb hg
theorem mFill {Q : Int32 → Hp → Prop} {h0 : Hp} (hv0 : view h0 = S) (tr : TouR nU S) (hU : nU ≤ 8) (cU : S 12 35 = nJ nU) (hk : k ≤ 6) (ck : S 12 61 = nJ k) (kk : ∀ h', RowM S k nU 0 h' → view h' = S → Fq h0 h' → ∃ N, w_X12_plan_157 Q N 0 0 h') :
    ∀ (t : Nat) (h : Hp), t ≤ nU + 1 → RowM S k nU t h → view h = S → Fq h0 h → w_X12_plan_10 Q (t + 1) (nJ t - 1) h := by
  intro t
  induction t with
  | zero =>
    intro h ht r hv f
    exact ⟨fun _ => kk h r hv f, fun z => absurd (by decide) z⟩
  | succ t ih =>
    intro h ht r hv f
    rw [nJ_pred]
    refine ⟨fun z => absurd z (nJ_ge0 (by omega)), fun _ => ?_⟩
    suffices H : ∀ j b h1, b + j = 64 → RowM S k nU (t + 1) h1 → (∀ b', b' < b → gI h1 165 0 (64 * t + b') = mo S k nU (nU - t) b') → view h1 = S → Fq h0 h1 → w_X12_plan_16 (w_X12_plan_10 Q (t + 1)) Q (j + 1) (nJ t) (nJ b) h1 from ⟨65, H 64 0 h (by omega) r (fun b' hb' => by omega) hv f⟩
    intro j
    induction j with
    | zero =>
      intro b h1 e r1 rb hv1 f1
      obtain rfl : b = 64 := by omega
      refine ⟨fun _ => ?_, fun z => absurd (by decide) z⟩
      show w_X12_plan_10 Q (t + 1) (nJ t + (-1)) h1
      rw [show nJ t + (-1) = nJ t - 1 by rw [Int32.sub_eq_add_neg]]
      refine ih h1 (by omega) (fun t' b' h1' h2' h3' => ?_) hv1 f1
      by_cases y : t' = t
      · rw [y]; exact rb b' h3'
      · exact r1 t' b' (by omega) h2' h3'
    | succ j ihj =>
      intro b h1 e r1 rb hv1 f1
      have hb : b < 64 := by omega
      have e35 : gI h1 12 0 35 = nJ nU := by rw [gv_12_35, hv1]; exact cU
      have e61 : gI h1 12 0 61 = nJ k := by rw [gv_12_61, hv1]; exact ck
      have eiy : (64 : Int32) * nJ t + nJ b = nJ (64 * t + b) := by
        rw [show (64 : Int32) = nJ 64 from rfl, nJ_mul, nJ_add]
      have fin : ∀ a4 : Int32, w_X12_plan_129 (w_X12_plan_10 Q (t + 1)) (w_X12_plan_16 (w_X12_plan_10 Q (t + 1)) Q (j + 1)) Q (nJ t) (nJ b) (mo S k nU (nU - t) b) a4 h1 := fun a4 => by
        unfold w_X12_plan_129
        rw [eiy, tN_nJ (by omega), nJ_succ]
        refine ⟨(vp_nJ (by omega)).mpr (by omega), ?_⟩
        refine ihj (b + 1) _ (by omega) (fun t' b' h1' h2' h3' => ?_) (fun b' hb' => ?_) (by rw [vs_165]; exact hv1) (f1.w rfl (by omega) (by omega) (by omega) (by omega) (by omega) (by omega))
        · rw [gI_wI, if_neg (by omega)]; exact r1 t' b' h1' h2' h3'
        · rw [gI_wI]
          by_cases y : b' = b
          · rw [if_pos ⟨rfl, rfl, by rw [y]⟩, y]
          · rw [if_neg (by omega)]; exact rb b' (by omega)
      refine ⟨fun z => absurd z ?_, fun _ => ⟨fun z => ?_, fun z => ?_⟩⟩
      · intro z
        have := (nJ_le (a := 64) (b := b) (by omega) (by omega)).mp z; omega
      · rw [e35, nJ_eq (by omega) (by omega)] at z
        have ht' : t < nU := by omega
        have v8 : vp_in (nJ t) 8 := (vp_nJ (by omega)).mpr (by omega)
        have eix : (64 : Int32) * (nJ t + (1 : Int32)) + nJ b = nJ (64 * (t + 1) + b) := by
          rw [nJ_succ, show (64 : Int32) = nJ 64 from rfl, nJ_mul, nJ_add]
        unfold w_X12_plan_34 w_X12_plan_46
        rw [eix, tN_nJ (by omega), r1 (t + 1) b (by omega) (by omega) hb]
        refine ⟨(vp_nJ (by omega)).mpr (by omega), ?_⟩
        have et : nU - t = (nU - (t + 1)) + 1 := by omega
        suffices G : ∀ i g, g + i = k → w_X12_plan_51 (w_X12_plan_10 Q (t + 1)) (w_X12_plan_16 (w_X12_plan_10 Q (t + 1)) Q (j + 1)) Q (i + 1) (nJ t) (nJ b) (bst (mo S k nU (nU - (t + 1))) (S 138 t) (cnB S t b) b g) (nJ g) h1 from ⟨k + 1, G k 0 (by omega)⟩
        intro i
        induction i with
        | zero =>
          intro g eg
          obtain rfl : g = k := by omega
          refine ⟨fun _ => ?_, fun z => absurd (by rw [e61]; exact Int32.le_refl _) z⟩
          have em : bst (mo S g nU (nU - (t + 1))) (S 138 t) (cnB S t b) b g = mo S g nU (nU - t) b := by
            rw [et, mo]
            rw [show nU - (nU - (t + 1) + 1) = t by omega]
          rw [em]; exact fin _
        | succ i ihi =>
          intro g eg
          have hg : g < k := by omega
          have ihi := ihi (g + 1) (by omega)
          rw [bst, ← nJ_succ] at ihi
          have nn : ∀ j, 0 ≤ (bst (mo S k nU (nU - (t + 1))) (S 138 t) (cnB S t b) b j).toInt := by
            intro j
            induction j with
            | zero => rw [bst]; exact (mo_bd tr hU _ _ (by omega)).1
            | succ j ihj =>
              rw [bst]
              have i2 := mo_bd (k := k) tr hU (nU - (t + 1)) (b ||| 2 ^ j) (by omega)
              have st := (tr t ht').1
              split
              · split
                · rw [tadd (by omega) (by omega)]; omega
                · exact ihj
              · exact ihj
          refine ⟨fun z => absurd z ?_, fun _ => ⟨fun z => absurd z ?_, fun _ => ?_⟩⟩
          · rw [e61, nJ_le (by omega) (by omega)]; omega
          · rw [e35, nJ_le (by omega) (by omega)]; omega
          · refine mCan (S := S) (fun g => by rw [hv1]) (fun t => by rw [hv1]) (by omega) (by omega) ⟨fun y => ?_, fun y => ⟨v8, ?_⟩⟩
            · rw [bI_0] at y
              rw [if_neg y] at ihi
              refine ⟨fun _ => ihi, fun x => absurd ?_ x⟩
              rw [Int32.le_iff_toInt_le]; exact nn g
            · rw [bI_0] at y
              rw [if_pos (Decidable.not_not.mp y)] at ihi
              have e2 : (64 : Int32) * (nJ t + (1 : Int32)) + (nJ b ||| ((1 : Int32) <<< (nJ g &&& 31))) = nJ (64 * (t + 1) + (b ||| 2 ^ g)) := by
                rw [orB b (by omega) g (by omega), nJ_succ, show (64 : Int32) = nJ 64 from rfl, nJ_mul, nJ_add]
              have ol := or64' (b := b) (g := g) hb (by omega)
              unfold w_X12_plan_102
              rw [e2, tN_nJ (by omega), tN_nJ (by omega), gv_138, hv1, r1 (t + 1) (b ||| 2 ^ g) (by omega) (by omega) ol]
              refine ⟨(vp_nJ (by omega)).mpr (by omega), fun x => ?_, fun x => ?_⟩
              · rw [if_neg (fun q => Int32.not_le.mpr q x)] at ihi; exact ihi
              · rw [if_pos (Int32.not_le.mp x)] at ihi; exact ihi
      · rw [e35, nJ_eq (by omega) (by omega)] at z
        subst z
        refine ⟨1, ?_⟩
        have m0 : mo S k t (t - t) b = 0 := by rw [Nat.sub_self, mo]
        have fin := fin 0
        rw [m0] at fin
        refine ⟨fun _ => fin, fun y => ⟨fun _ => fin, fun x => absurd ?_ x⟩⟩
        rw [e35]; exact Int32.le_refl _
theorem us_us {q i : Nat} {v v' : Int32} : us (us S q i v) q i v' = us S q i v' := by
  funext a b
  simp only [us_app]
  split <;> rfl
theorem mChoose {Q : Int32 → Hp → Prop} {h0 : Hp} (hU : nU ≤ 8) (cU : S 12 35 = nJ nU) (hk : k ≤ 6) (ck : S 12 61 = nJ k) (kk : ∀ h', view h' = us (plS S k nU nU) 12 63 (nJ nU) → Fq h0 h' → Q (mo S k nU nU 0) h') :
    ∀ (j t : Nat) (h : Hp), t + j = nU → RowM S k nU 0 h → view h = plS S k nU t → Fq h0 h → w_X12_plan_157 Q (j + 1) (nJ (bz S k nU t)) (nJ t) h := by
  have p64 := pw64 hk
  intro j
  induction j with
  | zero =>
    intro t h e r hv f
    obtain rfl : t = nU := by omega
    have e35 : gI h 12 0 35 = nJ t := by rw [gv_12_35, hv, plS_o (by omega)]; exact cU
    refine ⟨fun _ => ⟨(vp_nJ (n := 0) (by omega)).mpr (by omega), ?_⟩, fun z => absurd (by rw [e35]; exact Int32.le_refl _) z⟩
    rw [e35]
    have e0 : gI (wI h 12 0 63 (nJ t)) 165 0 (tN (0 : Int32)) = mo S k t t 0 := by
      rw [show tN (0 : Int32) = 0 from tN_nJ (n := 0) (by omega), gI_wI, if_neg (by omega)]
      exact r 0 0 (by omega) (by omega) (by omega)
    rw [e0]
    exact kk _ (by rw [vw_12_63, hv]) (f.w rfl (by omega) (by omega) (by omega) (by omega) (by omega) (by omega))
  | succ j ih =>
    intro t h e r hv f
    have ht : t < nU := by omega
    have v8 : vp_in (nJ t) 8 := (vp_nJ (by omega)).mpr (by omega)
    have tt : tN (nJ t) = t := tN_nJ (by omega)
    have hb : bz S k nU t < 2 ^ k := bz_lt (hk := hk) t
    have e35 : gI h 12 0 35 = nJ nU := by rw [gv_12_35, hv, plS_o (by omega)]; exact cU
    refine ⟨fun z => absurd z ?_, fun _ => ⟨v8, ?_⟩⟩
    · rw [e35, nJ_le (by omega) (by omega)]; omega
    · rw [tt]
      have fin : ∀ h1 a3, view h1 = us (plS S k nU t) 164 t (cgF S k nU t (bz S k nU t)) → RowM S k nU 0 h1 → Fq h0 h1 → w_X12_plan_268 (w_X12_plan_157 Q (j + 1)) Q (nJ (bz S k nU t)) (nJ t) a3 h1 := fun h1 a3 hv1 r1 f1 => by
        have e164 : gI h1 164 0 t = cgF S k nU t (bz S k nU t) := by rw [gv_164, hv1]; simp [us_app]
        have ih := ih (t + 1) h1 (by omega) r1 (by rw [hv1]; rfl) f1
        rw [bz, ← nJ_succ] at ih
        refine ⟨v8, ?_⟩
        rw [tt, e164]
        rcases lbF_ex (f := mo S k nU (nU - (t + 1))) (s := S 138 t) (m := mo S k nU (nU - t) (bz S k nU t)) (cn := cnB S t (bz S k nU t)) (b := bz S k nU t) k 0 with y | ⟨g, h1', h2', y⟩
        · have y : cgF S k nU t (bz S k nU t) = -1 := y
          rw [y] at ih ⊢
          rw [if_pos rfl] at ih
          refine ⟨fun _ => ?_, fun z => absurd (by decide) z⟩
          show w_X12_plan_157 Q (j + 1) (nJ (bz S k nU t) ||| 0) (nJ t + 1) h1
          rw [Int32.or_zero]; exact ih
        · have y : cgF S k nU t (bz S k nU t) = nJ g := y
          rw [y] at ih ⊢
          rw [if_neg (nJ_ne1 (by omega)), tN_nJ (by omega)] at ih
          refine ⟨fun z => absurd z (nJ_ge0 (by omega)), fun _ => ⟨v8, ?_⟩⟩
          rw [tt, e164, y]
          show w_X12_plan_157 Q (j + 1) (nJ (bz S k nU t) ||| ((1 : Int32) <<< (nJ g &&& 31))) (nJ t + 1) h1
          rw [orB _ (by omega) g (by omega)]
          exact ih
      have o : ∀ q x v, q ≠ 164 → us (plS S k nU t) 164 t v q x = S q x := fun q x v hq => by rw [us_app, if_neg (fun z => hq z.1), plS_o hq]
      suffices G : ∀ i g h1, g + i = k → cgF S k nU t (bz S k nU t) = lbF (mo S k nU (nU - (t + 1))) (S 138 t) (mo S k nU (nU - t) (bz S k nU t)) (cnB S t (bz S k nU t)) (bz S k nU t) i g → view h1 = us (plS S k nU t) 164 t (-1) → RowM S k nU 0 h1 → Fq h0 h1 → w_X12_plan_174 (w_X12_plan_157 Q (j + 1)) Q (i + 1) (nJ (bz S k nU t)) (nJ t) (nJ g) h1 from
        ⟨k + 1, G k 0 _ (by omega) rfl (by rw [vw_164, hv]) (fun t' b' h1' h2' h3' => by rw [gI_wI, if_neg (by omega)]; exact r t' b' h1' h2' h3') (f.w rfl (by omega) (by omega) (by omega) (by omega) (by omega) (by omega))⟩
      intro i
      induction i with
      | zero =>
        intro g h1 eg ec hv1 r1 f1
        obtain rfl : g = k := by omega
        have e61 : gI h1 12 0 61 = nJ g := by rw [gv_12_61, hv1, o 12 61 _ (by omega)]; exact ck
        refine ⟨fun _ => fin h1 _ (by rw [hv1, ec]; rfl) r1 f1, fun z => absurd (by rw [e61]; exact Int32.le_refl _) z⟩
      | succ i ihi =>
        intro g h1 eg ec hv1 r1 f1
        have hg : g < k := by omega
        have e61 : gI h1 12 0 61 = nJ k := by rw [gv_12_61, hv1, o 12 61 _ (by omega)]; exact ck
        have e164 : gI h1 164 0 t = -1 := by rw [gv_164, hv1]; simp [us_app]
        rw [lbF] at ec
        refine ⟨fun z => absurd z ?_, fun _ => ⟨v8, ?_⟩⟩
        · rw [e61, nJ_le (by omega) (by omega)]; omega
        · rw [tt, e164]
          refine ⟨fun z => absurd z (by decide), fun _ => ?_⟩
          have no : ¬ (cnB S t (bz S k nU t) g = true ∧ S 138 t + mo S k nU (nU - (t + 1)) (bz S k nU t ||| 2 ^ g) = mo S k nU (nU - t) (bz S k nU t)) → ∀ s0 : Int32, s0 = 0 → w_X12_plan_244 (w_X12_plan_157 Q (j + 1)) (w_X12_plan_174 (w_X12_plan_157 Q (j + 1)) Q (i + 1)) Q (nJ (bz S k nU t)) (nJ t) (nJ g) s0 h1 := fun z s0 hs0 => by
            rw [if_neg z] at ec
            refine ⟨fun _ => ⟨v8, ?_⟩, fun y => absurd hs0 y⟩
            rw [tt, nJ_succ]
            refine ihi (g + 1) _ (by omega) ec (by rw [vw_164, hv1, us_us]) (fun t' b' h1' h2' h3' => by rw [gI_wI, if_neg (by omega)]; exact r1 t' b' h1' h2' h3') (f1.w rfl (by omega) (by omega) (by omega) (by omega) (by omega) (by omega))
          refine mCan (S := S) (fun g => by rw [hv1, o 162 g _ (by omega)]) (fun t' => by rw [hv1, o 139 t' _ (by omega)]) (by omega) (by omega) ⟨fun y => ?_, fun y => ⟨v8, ?_⟩⟩
          · rw [bI_0] at y
            exact no (fun z => y z.1) 0 rfl
          · rw [bI_0] at y
            have y := Decidable.not_not.mp y
            have e2 : (64 : Int32) * (nJ t + (1 : Int32)) + (nJ (bz S k nU t) ||| ((1 : Int32) <<< (nJ g &&& 31))) = nJ (64 * (t + 1) + (bz S k nU t ||| 2 ^ g)) := by
              rw [orB _ (by omega) g (by omega), nJ_succ, show (64 : Int32) = nJ 64 from rfl, nJ_mul, nJ_add]
            have e3 : (64 : Int32) * nJ t + nJ (bz S k nU t) = nJ (64 * t + bz S k nU t) := by
              rw [show (64 : Int32) = nJ 64 from rfl, nJ_mul, nJ_add]
            have ol := or64' (b := bz S k nU t) (g := g) (by omega) (by omega)
            unfold w_X12_plan_223
            rw [e2, e3, tt, tN_nJ (by omega), tN_nJ (by omega), gv_138, hv1, o 138 t _ (by omega), r1 (t + 1) (bz S k nU t ||| 2 ^ g) (by omega) (by omega) ol, r1 t (bz S k nU t) (by omega) (by omega) (by omega)]
            refine ⟨(vp_nJ (by omega)).mpr (by omega), (vp_nJ (by omega)).mpr (by omega), fun x => no (fun z => x z.2) 0 rfl, fun x => ?_⟩
            rw [if_pos ⟨y, x⟩] at ec
            refine ⟨fun z => absurd z (by decide), fun _ => ⟨v8, ?_⟩⟩
            rw [tt]
            -- the guide is found: the loop ends at its next head
            have hv2 : view (wI h1 164 0 t (nJ g)) = us (plS S k nU t) 164 t (cgF S k nU t (bz S k nU t)) := by rw [vw_164, hv1, us_us, ec]
            have r2 : RowM S k nU 0 (wI h1 164 0 t (nJ g)) := fun t' b' h1' h2' h3' => by rw [gI_wI, if_neg (by omega)]; exact r1 t' b' h1' h2' h3'
            have f2 : Fq h0 (wI h1 164 0 t (nJ g)) := f1.w rfl (by omega) (by omega) (by omega) (by omega) (by omega) (by omega)
            refine ⟨fun _ => fin _ _ hv2 r2 f2, fun _ => ⟨v8, fun _ => fin _ _ hv2 r2 f2, fun z => absurd ?_ z⟩⟩
            rw [tt, gI_wI, if_pos ⟨rfl, rfl, rfl⟩]
            exact Int32.not_lt.mp (nJ_ge0 (by omega))
theorem jPlan (j : J h) : wp_X11_plan h fun rx h1 => wp_X12_plan h1 fun rm h2 => rm = rx ∧ J h2 := by
  refine JJ j fun nS nT nU nG T S jr => ?_
  have b := jr.bd
  obtain ⟨cU, hU⟩ := b.wm.1.cU
  obtain ⟨k, pm, g1, g2, g3, g4, g5, g6, g7, g8⟩ := jr.2.2.2.2.2.1
  have e5 : gI h 11 0 5 = nJ nU := b.st.1.2.2.1
  refine ⟨nS, nT, nU, nG, us (plS S k nU nU) 12 63 (nJ nU), mo S k nU nU 0, fun Q kk => ?_, fun h1 hv t w Q kk => ?_⟩
  · show wp_X3_planBest (gI h 11 0 5) h _
    rw [e5]
    refine xFill b g3 g1 g4 g8 fun h1 r1 f1 c1 => ?_
    have b1 : Bd nS nT nU nG nU nG h1 S := by
      have := b
      unfold Bd Stc RCd GD RTd Ld RQ RSs RTs RUs GS RK at this ⊢
      simp only [(f1 2 rfl).2.1, (f1 2 rfl).2.2.2, (f1 6 rfl).2.1, (f1 8 rfl).2.1, (f1 8 rfl).2.2.2, (f1 10 rfl).2.1, (f1 11 rfl).2.1, (f1 20 rfl).2.2.2, (f1 21 rfl).2.2.2, (f1 22 rfl).2.2.2, (f1 23 rfl).2.2.2, (f1 24 rfl).2.2.2, (f1 25 rfl).2.2.2]
      exact this
    refine ⟨nU + 1, xChoose b1 g3 (by rw [(f1 3 rfl).2.1]; exact g1) (fun i hi => by rw [(f1 36 rfl).2.1]; exact g4 i hi) r1 (fun h2 c2 f2 d2 => ?_) nU 0 h1 (by omega) (fun x => by rw [if_neg (by omega)]) (Fr.refl h1) rfl⟩
    have F : ∀ q, q ≠ 37 → q ≠ 38 → gC h2 q = gC h q ∧ gI h2 q = gI h q ∧ gL h2 q = gL h q ∧ gP h2 q = gP h q := fun q h37 h38 => by
      have a := f1 q (by simp [f37, h37])
      have c := f2 q (by simp [f38, h38])
      exact ⟨c.1.trans a.1, c.2.1.trans a.2.1, c.2.2.1.trans a.2.2.1, c.2.2.2.trans a.2.2.2⟩
    have o : ∀ q x, q ≠ 164 → ¬ (q = 12 ∧ x = 63) → us (plS S k nU nU) 12 63 (nJ nU) q x = S q x := fun q x h1 h2 => by rw [us_app, if_neg h2, plS_o h1]
    refine kk h2 (jr.same (h' := h2) (S' := us (plS S k nU nU) 12 63 (nJ nU)) ?_ ?_ (d2.trans c1) ?_ ?_ ?_ ?_ ?_ ?_ (fun g => o 153 g (by omega) (by omega)) (fun u => o 140 u (by omega) (by omega)) ?_) ?_
    · exact ⟨fun g s hg => by rw [(F 2 (by omega) (by omega)).2.1, (F 2 (by omega) (by omega)).2.2.2]; exact ⟨rfl, rfl⟩, fun x s hx => by rw [(F 6 (by omega) (by omega)).2.1], fun t s ht => by rw [(F 8 (by omega) (by omega)).2.1, (F 8 (by omega) (by omega)).2.2.2]; exact ⟨rfl, rfl⟩, fun u s hu => by rw [(F 10 (by omega) (by omega)).2.1], fun s hs => by rw [(F 11 (by omega) (by omega)).2.1], fun s hs => by rw [(F 20 (by omega) (by omega)).2.2.2], fun s hs => by rw [(F 21 (by omega) (by omega)).2.2.2], fun s hs => by rw [(F 22 (by omega) (by omega)).2.2.2], fun s hs => by rw [(F 23 (by omega) (by omega)).2.2.2], fun s => by rw [(F 25 (by omega) (by omega)).2.2.2]⟩
    · exact ⟨fun q x _ _ _ => o q x (by omega) (by omega), fun q x _ _ _ => o q x (by omega) (by omega), fun q x _ _ _ => o q x (by omega) (by omega), fun q x _ _ _ => o q x (by omega) (by omega), o 12 24 (by omega) (by omega), o 12 55 (by omega) (by omega), o 12 56 (by omega) (by omega)⟩
    · intro s hs; rw [(F 11 (by omega) (by omega)).2.1]
    · rw [(F 11 (by omega) (by omega)).2.1, o 12 25 (by omega) (by omega)]; exact b.st.1.2.2.2.2
    · intro x; rw [(F 24 (by omega) (by omega)).2.2.2]
    · intro s hs; exact o 12 s (by omega) (by omega)
    · rw [o 12 57 (by omega) (by omega)]; exact b.wm.1.shuts
    · rw [o 12 25 (by omega) (by omega)]; exact b.wm.1.town
    · obtain ⟨j1, j2, j3, j4, j5, j6, j7, j8, j9, j10⟩ := jr
      refine ⟨⟨by rw [(F 5 (by omega) (by omega)).2.1, o 12 57 (by omega) (by omega)]; exact j5.1, fun i r' hr' h1 hi => ?_⟩, ?_, ?_, ?_, ?_⟩
      · rw [o 12 57 (by omega) (by omega)] at hr'
        rw [(F 26 (by omega) (by omega)).2.1, (F 27 (by omega) (by omega)).2.1, o 158 i (by omega) (by omega), o 159 i (by omega) (by omega)]
        exact j5.2 i r' hr' h1 hi
      · refine ⟨k, nU, by rw [(F 3 (by omega) (by omega)).2.1]; exact g1, by rw [o 12 61 (by omega) (by omega)]; exact g2, g3, fun i hi => ?_, by simp [us_app], Nat.le_refl _, fun t ht => ?_, fun q h1' h2' => ?_⟩
        · rw [(F 36 (by omega) (by omega)).2.1, o 162 i (by omega) (by omega)]; exact g4 i hi
        · rw [c2 t]
          by_cases y : t < nU
          · rw [if_pos y, if_pos y, us_app, if_neg (by omega), plS_i, if_pos y]
          · rw [if_neg y, if_neg y, (f1 38 rfl).2.1, g7 t ht, if_neg (by omega)]
        · rw [(f2 37 rfl).2.1]; exact r1.2 q h1' h2'
      · obtain ⟨n, t1, t2, t3, t4⟩ := j7
        exact ⟨n, by rw [(F 7 (by omega) (by omega)).2.1]; exact t1, by rw [o 12 2 (by omega) (by omega)]; exact t2, t3, fun i hi => by rw [(F 32 (by omega) (by omega)).2.1, o 101 i (by omega) (by omega)]; exact t4 i hi⟩
      · obtain ⟨x, e1, e2, e3, e4, e5⟩ := j8.1
        refine ⟨x, by rw [(F 0 (by omega) (by omega)).2.2.2]; exact e1, e2, by rw [(F 1 (by omega) (by omega)).2.1]; exact e3, e4, fun l y hy => ?_⟩
        obtain ⟨a1, a2, s, a3, a4, a5, a6, a7⟩ := e5 l y hy
        exact ⟨by rw [(F 31 (by omega) (by omega)).2.1]; exact a1, a2, s, a3, fun z => by rw [(F 29 (by omega) (by omega)).2.1]; exact a4 z, by rw [(F 29 (by omega) (by omega)).2.1]; exact a5, a6, CodAt.fr (F 28 (by omega) (by omega)).2.1 a7⟩
      · rw [(F 0 (by omega) (by omega)).2.2.2]; exact j8.2
    · intro q hq
      refine F q (fun y => ?_) (fun y => ?_)
      · rw [y] at hq; cases hq
      · rw [y] at hq; cases hq
  · have hv0 : view (wI h1 12 0 0 0) = S := by rw [vs_12_0, hv]
    have e35 : gI (wI h1 12 0 0 0) 12 0 35 = nJ nU := by rw [gv_12_35, hv0]; exact cU
    unfold wp_X12_plan w_X12_plan_0
    rw [e35]
    have := mFill (Q := Q) (h0 := wI h1 12 0 0 0) (k := k) hv0 jr.tou hU cU g3 g2 (fun h2 r2 v2 f2 => ⟨nU + 1, mChoose (h0 := h1) hU cU g3 g2 kk nU 0 h2 (by omega) r2 (by rw [v2]; rfl) ((Fq.t0 h1).trans f2)⟩) (nU + 1) (wI h1 12 0 0 0) (Nat.le_refl _) (fun t' b' h1' h2' _ => by omega) hv0 (Fq.refl _)
    rw [nJ_pred] at this
    exact ⟨_, this⟩
end
