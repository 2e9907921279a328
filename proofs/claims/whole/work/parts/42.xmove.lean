/-! the bundle, with some tenders left out; one step of both sides -/
def Kz (h h' : Hp) : Prop := Kx h h' ∧ ∀ s, gI h' 6 s 4 = gI h 6 s 4
theorem Kz.refl (h : Hp) : Kz h h := ⟨Kx.refl h, fun _ => rfl⟩
theorem Kz.trans {a b c : Hp} (f : Kz a b) (g : Kz b c) : Kz a c := ⟨f.1.trans g.1, fun s => (g.2 s).trans (f.2 s)⟩
theorem Kz.I {a b : Hp} (f : Kz a b) {k i s : Nat} {v : Int32} (hd : dx k s = true) (hk : ¬ 6 = k) : Kz a (wI b k i s v) := ⟨f.1.I hd, fun s' => by rw [gI_wI, if_neg (fun z => hk z.1)]; exact f.2 s'⟩
theorem Kz.P {a b : Hp} (f : Kz a b) {k i s : Nat} {v : Option PtrT} (hd : dx k s = true) : Kz a (wP b k i s v) := ⟨f.1.P hd, f.2⟩
def Sp (h : Hp) (S : MSt) (h' : Hp) (S' : MSt) : Prop := Kz h h' ∧ Sf S S' ∧ S' 12 24 = S 12 24
theorem Sp.refl (h : Hp) (S : MSt) : Sp h S h S := ⟨Kz.refl h, Sf.refl S, rfl⟩
theorem Sp.trans {a b c : Hp} {x y z : MSt} (f : Sp a x b y) (g : Sp b y c z) : Sp a x c z := ⟨f.1.trans g.1, f.2.1.trans g.2.1, g.2.2.trans f.2.2⟩
def Bp (nS nT nU nG i c : Nat) (p q : Nat → Prop) (h : Hp) (S : MSt) : Prop := WM nS nT nU nG S ∧ Stc nS nT nU nG h S ∧ RCd h S ∧ (∀ g, g < nG → GD nT i h S g) ∧ (∀ t, t < nT → RTd h S t) ∧ (∀ t, t < nT → p t → Ld nG h S t) ∧ (∀ t, t < nT → q t → Vl nG S t) ∧ (∀ u, u < nU → gI h 10 u 4 = S 140 u) ∧ RQ nG c h S
def NB (nG : Nat) (S : MSt) : Prop := (0 ≤ (S 12 24).toInt ∧ (S 12 24).toInt ≤ 719) ∧ ∀ g, g < nG → 1 ≤ (S 147 g).toInt ∧ (S 147 g).toInt ≤ 600
theorem NB.sp {nG : Nat} {h h' : Hp} {S S' : MSt} (n : NB nG S) (s : Sp h S h' S') : NB nG S' := ⟨by rw [s.2.2]; exact n.1, fun g hg => by rw [s.2.1 147 g rfl]; exact n.2 g hg⟩
section
variable {nS nT nU nG i c : Nat} {p q : Nat → Prop} {h h' : Hp} {S S' : MSt} {T : TextT}
theorem Bd.bp (b : Bd nS nT nU nG i c h S) : Bp nS nT nU nG i c p q h S := ⟨b.wm, b.st, b.rcd, b.gd, b.td, fun t ht _ => b.ld t ht, fun t ht _ => b.vl t ht, b.ud, b.rq⟩
theorem Bp.bd (b : Bp nS nT nU nG i c (fun _ => True) (fun _ => True) h S) : Bd nS nT nU nG i c h S := ⟨b.1, b.2.1, b.2.2.1, b.2.2.2.1, b.2.2.2.2.1, fun t ht => b.2.2.2.2.2.1 t ht trivial, fun t ht => b.2.2.2.2.2.2.1 t ht trivial, b.2.2.2.2.2.2.2.1, b.2.2.2.2.2.2.2.2⟩
theorem Bp.wm (b : Bp nS nT nU nG i c p q h S) : WM nS nT nU nG S := b.1
theorem Bp.st (b : Bp nS nT nU nG i c p q h S) : Stc nS nT nU nG h S := b.2.1
theorem Bp.rcd (b : Bp nS nT nU nG i c p q h S) : RCd h S := b.2.2.1
theorem Bp.gd (b : Bp nS nT nU nG i c p q h S) : ∀ g, g < nG → GD nT i h S g := b.2.2.2.1
theorem Bp.td (b : Bp nS nT nU nG i c p q h S) : ∀ t, t < nT → RTd h S t := b.2.2.2.2.1
theorem Bp.ld (b : Bp nS nT nU nG i c p q h S) : ∀ t, t < nT → p t → Ld nG h S t := b.2.2.2.2.2.1
theorem Bp.vl (b : Bp nS nT nU nG i c p q h S) : ∀ t, t < nT → q t → Vl nG S t := b.2.2.2.2.2.2.1
theorem Bp.ud (b : Bp nS nT nU nG i c p q h S) : ∀ u, u < nU → gI h 10 u 4 = S 140 u := b.2.2.2.2.2.2.2.1
theorem Bp.rq (b : Bp nS nT nU nG i c p q h S) : RQ nG c h S := b.2.2.2.2.2.2.2.2
theorem Bp.upx {p' q' : Nat → Prop} (b : Bp nS nT nU nG i c p q h S) (kx : Kx h h') (sf : Sf S S') (hn : S' 12 24 = S 12 24) (w : WM nS nT nU nG S') (rc : RCd h' S') (gd : ∀ g, g < nG → ((∀ s, 6 ≤ s → gI h' 2 g s = gI h 2 g s) ∧ gP h' 2 g 7 = gP h 2 g 7 ∧ ∀ k, 148 ≤ k → k ≤ 154 → S' k g = S k g) ∨ GD nT i h' S' g)
    (td : ∀ t, t < nT → (gI h' 8 t 3 = gI h 8 t 3 ∧ gI h' 8 t 4 = gI h 8 t 4 ∧ S' 133 t = S 133 t ∧ S' 134 t = S 134 t) ∨ RTd h' S' t) (ld : ∀ t, t < nT → p' t → Ld nG h' S' t) (vl : ∀ t, t < nT → q' t → Vl nG S' t) (ud : ∀ u, u < nU → gI h' 10 u 4 = S' 140 u) (rq : RQ nG c h' S') : Bp nS nT nU nG i c p' q' h' S' := by
  refine ⟨w, b.st.keep kx sf, rc, fun g hg => ?_, fun t ht => ?_, ld, vl, ud, rq⟩
  · rcases gd g hg with z | z
    · exact (b.gd g hg).keep sf hn z.1 z.2.1 z.2.2
    · exact z
  · rcases td t ht with z | z
    · have := b.td t ht
      unfold RTd at this ⊢
      rw [z.1, z.2.1, z.2.2.1, z.2.2.2]; exact this
    · exact z
theorem Bp.up {p' q' : Nat → Prop} (b : Bp nS nT nU nG i c p q h S) (s : Sp h S h' S') (w : WM nS nT nU nG S') (rc : RCd h' S') (gd : ∀ g, g < nG → ((∀ s, 6 ≤ s → gI h' 2 g s = gI h 2 g s) ∧ gP h' 2 g 7 = gP h 2 g 7 ∧ ∀ k, 148 ≤ k → k ≤ 154 → S' k g = S k g) ∨ GD nT i h' S' g)
    (td : ∀ t, t < nT → (gI h' 8 t 3 = gI h 8 t 3 ∧ gI h' 8 t 4 = gI h 8 t 4 ∧ S' 133 t = S 133 t ∧ S' 134 t = S 134 t) ∨ RTd h' S' t) (ld : ∀ t, t < nT → p' t → Ld nG h' S' t) (vl : ∀ t, t < nT → q' t → Vl nG S' t) (ud : ∀ u, u < nU → gI h' 10 u 4 = S' 140 u) (rq : RQ nG c h' S') : Bp nS nT nU nG i c p' q' h' S' := b.upx s.1.1 s.2.1 s.2.2 w rc gd td ld vl ud rq
theorem Bp.mono {p' q' : Nat → Prop} (b : Bp nS nT nU nG i c p q h S) (hp : ∀ t, t < nT → p' t → p t) (hq : ∀ t, t < nT → q' t → q t) : Bp nS nT nU nG i c p' q' h S := ⟨b.wm, b.st, b.rcd, b.gd, b.td, fun t ht z => b.ld t ht (hp t ht z), fun t ht z => b.vl t ht (hq t ht z), b.ud, b.rq⟩
theorem Ld.keep {t : Nat} (l : Ld nG h S t) (sf : Sf S S') (e : gI h' 8 t 5 = gI h 8 t 5) (x : ∀ g, g < nG → (inT S' t g ↔ inT S t g)) : Ld nG h' S' t := by
  unfold Ld at l ⊢
  rw [e, l]
  exact (gIn_congr fun g hg => ⟨x g hg, sf 143 g rfl⟩).symm
theorem Vl.keep {t : Nat} (v : Vl nG S t) (e : S' 133 t = S 133 t) (x : ∀ g, g < nG → inT S' t g → inT S t g) : Vl nG S' t := fun z g hg y => v (by rw [← e]; exact z) g hg (x g hg y)
theorem RQ.keep (r : RQ nG c h S) (e10 : gI h' 11 0 10 = gI h 11 0 10) (e25 : ∀ j, gP h' 25 0 j = gP h 25 0 j) (hn : S' 12 24 = S 12 24) (hq : ∀ g, g < nG → qst S g → qst S' g) (h4 : ∀ g, g < nG → S' 148 g = 4 → S 148 g = 4 ∧ S' 154 g = S 154 g) : RQ nG c h' S' := by
  obtain ⟨L, l1, l2, l3, l4, l5, l6, l7⟩ := r
  refine ⟨L, e10.trans l1, l2, fun g hg => ⟨(l3 g hg).1, hq g (l3 g hg).1 (l3 g hg).2⟩, fun g hg z => l4 g hg (h4 g hg z).1, fun j g hj => (e25 j).trans (l5 j g hj), ?_, fun a ha z => ?_⟩
  · refine List.Pairwise.imp_of_mem ?_ l6
    intro a b ha hb z ea eb
    have a4 := h4 a (l3 a ha).1 ea
    have b4 := h4 b (l3 b hb).1 eb
    have := z a4.1 b4.1
    unfold ltk at this ⊢
    rw [a4.2, b4.2]; exact this
  · have a4 := h4 a (l3 a ha).1 z
    rw [a4.2, hn]; exact l7 a ha a4.1
theorem GD.inT {t g : Nat} (d : GD nT i h S g) (hT : nT ≤ 6) (ht : t < nT) : gP h 2 g 7 = some (8, t) ↔ inT S t g := by
  rw [d.2.1]
  unfold _root_.Jvm.Pilot.CShoreDayLaw_law_r6654_27fe09.inT
  by_cases e : S 148 g = 1
  · obtain ⟨t', ht', e', -⟩ := d.2.2.2.2.2.2.2.2.1 e
    rw [if_pos e, e', tN_nJ (by omega)]
    have : nJ t' = nJ t ↔ t' = t := nJ_eq (by omega) (by omega)
    simp [e, this]
  · simp [e]
theorem mLand_o {g k x : Nat} (hx : ¬ (x = g ∧ (k = 148 ∨ k = 149 ∨ k = 150 ∨ k = 151 ∨ k = 153))) (hk : k ≠ 12) : mLand T S g k x = S k x := by
  unfold mLand
  have : ∀ (a b : Nat), (b = g ∧ (a = 148 ∨ a = 149 ∨ a = 150 ∨ a = 151 ∨ a = 153)) ∨ a = 12 → ¬ (k = a ∧ x = b) := by
    rintro a b hab ⟨rfl, rfl⟩
    rcases hab with z | z
    · exact hx z
    · exact hk z
  simp only [us_app]
  rw [if_neg (this 150 g (by simp)), if_neg (this 12 56 (by simp)), if_neg (this 12 55 (by simp)), if_neg (this 153 g (by simp)), if_neg (this 151 g (by simp)), if_neg (this 149 g (by simp)), if_neg (this 148 g (by simp))]
theorem mLand_sf {g : Nat} : Sf S (mLand T S g) := (((((((Sf.refl S).up rfl).up rfl).up rfl).up rfl).up rfl).up rfl).up rfl
theorem mLand_133 {t g : Nat} {x : Int32} : mLand T (us S 133 t x) g = us (mLand T S g) 133 t x := by
  unfold mLand
  rw [knM_us (by omega) (by omega) (by omega) (by omega) (by omega)]
  simp only [us_app]
  simp only [Nat.reduceEqDiff, false_and, if_false]
  rw [us_comm (k := 133) (k' := 148) (by omega), us_comm (k := 133) (k' := 149) (by omega), us_comm (k := 133) (k' := 151) (by omega), us_comm (k := 133) (k' := 153) (by omega), us_comm (k := 133) (k' := 12) (by omega), us_comm (k := 133) (k' := 12) (by omega), us_comm (k := 133) (k' := 150) (by omega)]
theorem arG_133 {t g : Nat} {ash : Bool} {x : Int32} : arG T t ash g (us S 133 t x) = us (arG T t ash g S) 133 t x := by
  unfold arG
  rw [mLand_133]
  have e8 : us S 133 t x 148 g = S 148 g := by simp [us_app]
  have e9 : us S 133 t x 149 g = S 149 g := by simp [us_app]
  have e4 : us S 133 t x 12 24 = S 12 24 := by simp [us_app]
  rw [e8, e9, e4]
  split
  · split
    · rfl
    · rw [us_comm (k := 133) (k' := 148) (by omega), us_comm (k := 133) (k' := 149) (by omega), us_comm (k := 133) (k' := 152) (by omega)]
  · rfl
theorem itr_133 {t : Nat} {ash : Bool} {x : Int32} : ∀ (n : Nat), itr (arG T t ash) n (us S 133 t x) = us (itr (arG T t ash) n S) 133 t x
  | 0 => rfl
  | n + 1 => by rw [itr, itr, itr_133 n, arG_133]
theorem arG_p {t g : Nat} {ash : Bool} (c : inT S t g) : arG T t ash g S = if ash = true then mLand T S g else us (us (us S 148 g 5) 149 g (-1)) 152 g (S 12 24) := if_pos c
theorem arG_n {t g : Nat} {ash : Bool} (c : ¬ inT S t g) : arG T t ash g S = S := if_neg c
/-! a tender arrives -/
theorem xLandGD {g : Nat} {h1 : Hp} (d : GD nT 0 h S g) (w : WM nS nT nU nG S) (gs : GS h S g) (nb : NB nG S) (hg : g < nG) (e1 : S 148 g = 1) (r : RCd h S)
    (l : Lnd g (if S 146 g = -1 then S 12 24 + S 147 g else if S 136 (tN (S 146 g)) < S 12 24 then S 12 24 + 60 else S 136 (tN (S 146 g))) (S 143 g * feeF (knM S g) T) h1 h') (e7 : gP h1 2 g 7 = none) (eI : ∀ k i s, gI h1 k i s = gI h k i s) : GD nT 0 h' (mLand T S g) g := by
  obtain ⟨l1, l2, l3, l4, l5, l6, l7, l8, l9⟩ := l
  have v8 : mLand T S g 148 g = 2 := by simp [mLand, us_app]
  have v9 : mLand T S g 149 g = -1 := by simp [mLand, us_app]
  have v0 : mLand T S g 150 g = (if S 146 g < 0 ∨ S 136 (tN (S 146 g)) < S 12 24 then S 12 24 + S 147 g else -1) := by simp [mLand, us_app]
  have v1 : mLand T S g 151 g = S 12 24 := by simp [mLand, us_app]
  have v3 : mLand T S g 153 g = S 143 g * feeF (knM S g) T := by simp [mLand, us_app]
  have v2 : mLand T S g 152 g = S 152 g := mLand_o (by simp) (by simp)
  have v4 : mLand T S g 154 g = S 154 g := mLand_o (by simp) (by simp)
  have v6 : mLand T S g 146 g = S 146 g := mLand_o (by simp) (by simp)
  have v136 : ∀ x, mLand T S g 136 x = S 136 x := fun x => mLand_o (by simp) (by simp)
  have v24 : mLand T S g 12 24 = S 12 24 := by simp [mLand, us_app]
  have n2 : ¬ ((2 : Int32) = 1) := by decide
  have n24 : ¬ ((2 : Int32) = 4) := by decide
  have sum : S 12 24 + S 147 g ≠ -1 := fun e => by
    have := congrArg Int32.toInt e
    have h1 := nb.1
    have h2 := nb.2 g hg
    rw [tadd (by omega) (by omega)] at this
    have h3 : (-1 : Int32).toInt = -1 := by decide
    omega
  unfold GD
  simp only [v8, v9, v0, v1, v2, v3, v4, v6, v136, v24, n2, n24, if_false, false_implies, true_implies, true_and, not_false_eq_true, ne_eq]
  refine ⟨l4, (l2 2 g 7 (by omega)).trans e7, ?_, ?_, l7, ?_, ?_, ?_⟩
  · rw [l5, eI, r.1]
  · rw [l3 2 g 10 (by omega) (by omega) (by simp) (by simp), eI]; exact d.2.2.2.1
  · intro z
    by_cases c : S 146 g < 0 ∨ S 136 (tN (S 146 g)) < S 12 24
    · rw [if_pos c] at z; exact absurd z sum
    · have c1 : ¬ S 146 g = -1 := fun y => c (Or.inl (by rw [y]; decide))
      have c2 : ¬ S 136 (tN (S 146 g)) < S 12 24 := fun y => c (Or.inr y)
      rw [l6, if_neg c1, if_neg c2]
      exact ⟨rfl, c1, Int32.not_lt.mp c2, fun y => absurd y (by omega)⟩
  · intro z
    by_cases c : S 146 g < 0 ∨ S 136 (tN (S 146 g)) < S 12 24
    · rw [if_pos c, l6]
      by_cases c1 : S 146 g = -1
      · rw [if_pos c1]
      · rw [if_neg c1]
        rcases c with c | c
        · rcases w.1.tourOf g hg with y | ⟨u, hu, y⟩
          · exact absurd y c1
          · have := w.1.cU.2
            rw [y] at c; exact absurd c (nJ_ge0 (by omega))
        · rw [if_pos c, gs.2.2.2.2.2.2.2 c1]
    · rw [if_neg c] at z; exact absurd rfl z
  · exact d.2.2.2.2.2.2.2.2.2.2 (by rw [e1]; decide)
theorem xArriveL {t : Nat} {ash : Bool} {Q : Hp → Prop} (ht : t < nT) (nb : NB nG S) (kk : ∀ h', Bd nS nT nU nG 0 0 h' (us (itr (arG T t ash) nG S) 133 t (if ash = true then 2 else 0)) → Sp h S h' (us (itr (arG T t ash) nG S) 133 t (if ash = true then 2 else 0)) → Q h') :
    ∀ (j i : Nat) (h1 : Hp) (S1 : MSt), i + j = nG → Bp nS nT nU nG 0 0 (fun x => x ≠ t) (fun _ => True) h1 S1 → S1 = itr (arG T t ash) i S → S1 133 t = (if ash = true then 1 else 3) → S1 134 t = 0 → (∀ g, g < i → ¬ inT S1 t g) → TextX h1 T → Sp h S h1 S1 → w_X11_arrive_16 Q (j + 1) (some (8, t)) (bI (ash = true)) (nJ i) h1 := by
  intro j
  induction j with
  | zero =>
    intro i h1 S1 e b hS e3 e4 hp tx sp
    obtain rfl : i = nG := by omega
    rw [← hS] at kk
    have fin : w_X11_arrive_91 Q t (bI (ash = true)) (nJ i) t (if ash = true then 2 else 0) h1 := by
      have kz : Sp h1 S1 (wI (wI h1 8 t 3 (if ash = true then 2 else 0)) 8 t 5 0) (us S1 133 t (if ash = true then 2 else 0)) := ⟨((Kz.refl h1).I rfl (by omega)).I rfl (by omega), (Sf.refl S1).up rfl, by simp [us_app]⟩
      refine kk _ (Bp.bd ?_) (sp.trans kz)
      have c24 : ¬ ((2 : Int32) = 1) ∧ ¬ ((2 : Int32) = 3) ∧ ¬ ((0 : Int32) = 1) ∧ ¬ ((0 : Int32) = 3) := by decide
      refine Bp.up b kz (b.wm.up rfl (by omega)) ?_ ?_ ?_ ?_ ?_ ?_ ?_
      · have := b.rcd
        unfold RCd at this ⊢
        simpa [gI_wI, us_app] using this
      · intro g hg; left
        refine ⟨fun s hs => by simp [gI_wI], rfl, fun k h1 h2 => ?_⟩
        rw [us_app, if_neg (by omega)]
      · intro t' ht'
        by_cases c : t' = t
        · right
          subst c
          have := (b.td t' ht).2
          rw [e3, e4] at this
          unfold RTd
          refine ⟨by simp [gI_wI, us_app], ?_⟩
          have h4 : gI (wI (wI h1 8 t' 3 (if ash = true then 2 else 0)) 8 t' 5 0) 8 t' 4 = 0 := by
            simp [gI_wI]
            rw [this]; split <;> rfl
          rw [h4]
          have : us S1 133 t' (if ash = true then 2 else 0) 133 t' = (if ash = true then 2 else 0) := by simp [us_app]
          rw [this]
          cases ash <;> simp [c24]
        · left
          simp [gI_wI, us_app, c]
      · intro t' ht' _
        by_cases c : t' = t
        · subst c
          unfold Ld
          rw [gIn_0]
          · simp [gI_wI]
          · intro g hg
            have := hp g hg
            simpa [us_app, inT] using this
        · refine (b.ld t' ht' c).keep ((Sf.refl S1).up rfl) (by simp [gI_wI, c]) fun g hg => ?_
          simp [us_app, inT]
      · intro t' ht' _
        by_cases c : t' = t
        · subst c
          intro _ g hg
          have := hp g hg
          simpa [us_app, inT] using this
        · refine (b.vl t' ht' trivial).keep (by simp [us_app, c]) fun g hg => ?_
          simp [us_app, inT]
      · intro u hu
        have := b.ud u hu
        simpa [gI_wI, us_app] using this
      · refine b.rq.keep (by simp [gI_wI]) (fun _ => rfl) (by simp [us_app]) (fun g hg z => ?_) (fun g hg z => ?_)
        · unfold qst at z ⊢
          have e8 : us S1 133 t (if ash = true then 2 else 0) 148 g = S1 148 g := by simp [us_app]
          have e9 : us S1 133 t (if ash = true then 2 else 0) 149 g = S1 149 g := by simp [us_app]
          rw [e8, e9]
          rcases z with z | z | z | z
          · exact Or.inl z
          · exact Or.inr (Or.inl z)
          · exact Or.inr (Or.inr (Or.inl z))
          · refine Or.inr (Or.inr (Or.inr ⟨z.1, ?_⟩))
            obtain ⟨t', ht', e', -⟩ := (b.gd g hg).2.2.2.2.2.2.2.2.1 z.1
            have hT := b.wm.1.cT.2
            have c : t' ≠ t := fun y => hp g hg ⟨z.1, by rw [e', y]⟩
            rw [e', tN_nJ (by omega)] at z ⊢
            have : us S1 133 t (if ash = true then 2 else 0) 133 t' = S1 133 t' := by simp [us_app, c]
            rw [this]; exact z.2
        · have e8 : us S1 133 t (if ash = true then 2 else 0) 148 g = S1 148 g := by simp [us_app]
          rw [e8] at z
          exact ⟨z, by simp [us_app]⟩
    refine ⟨fun _ => ⟨fun c => ?_, fun c => ?_⟩, fun c => absurd ?_ c⟩
    · rw [bI_0] at c; rw [if_neg c] at fin
      exact ⟨t, rfl, t, rfl, fin⟩
    · rw [bI_0] at c; rw [if_pos (Decidable.not_not.mp c)] at fin
      exact ⟨t, rfl, t, rfl, fin⟩
    · rw [b.st.1.2.2.2.1]; exact Int32.le_refl _
  | succ j ih =>
    intro i h1 S1 e b hS e3 e4 hp tx sp
    have hn := b.wm.1.cG.2
    have hT := b.wm.1.cT.2
    have hi : i < nG := by omega
    have ti : tN (nJ i) = i := tN_nJ (by omega)
    refine ⟨fun c => absurd c ?_, fun _ => ?_⟩
    · rw [b.st.1.2.2.2.1, nJ_le (by omega) (by omega)]; omega
    · have gs := b.st.2.2.2.2.1 i hi
      have gd := b.gd i hi
      refine ⟨i, by rw [ti]; exact gs.1, (vp_nJ (by omega)).mpr (by omega), fun c => ?_, fun c => ?_⟩
      · rw [gd.inT hT ht] at c
        show w_X11_arrive_16 Q (j + 1) (some (8, t)) (bI (ash = true)) (nJ i + 1) h1
        rw [nJ_succ]
        refine ih (i + 1) h1 S1 (by omega) b ?_ e3 e4 (fun g hg => ?_) tx sp
        · rw [itr, ← hS, arG_n c]
        · by_cases y : g = i
          · rw [y]; exact c
          · exact hp g (by omega)
      · rw [gd.inT hT ht] at c
        have go : ∀ h2, Kz h1 h2 → Bp nS nT nU nG 0 0 (fun x => x ≠ t) (fun _ => True) h2 (arG T t ash i S1) → w_X11_arrive_16 Q (j + 1) (some (8, t)) (bI (ash = true)) (nJ i + 1) h2 := by
          intro h2 kz b2
          have f2 : Sf S1 (arG T t ash i S1) ∧ arG T t ash i S1 12 24 = S1 12 24 ∧ arG T t ash i S1 133 t = S1 133 t ∧ arG T t ash i S1 134 t = S1 134 t ∧ ∀ g, inT (arG T t ash i S1) t g → g ≠ i ∧ inT S1 t g := by
            rw [arG_p c]
            by_cases a : ash = true
            · rw [if_pos a]
              refine ⟨mLand_sf, by simp [mLand, us_app], mLand_o (by simp) (by simp), mLand_o (by simp) (by simp), fun g z => ?_⟩
              have hgi : g ≠ i := fun y => by
                have := z.1
                rw [y] at this
                simp [mLand, us_app] at this
              refine ⟨hgi, ?_⟩
              unfold inT at z ⊢
              rw [mLand_o (fun y => hgi y.1) (by simp), mLand_o (fun y => hgi y.1) (by simp)] at z
              exact z
            · rw [if_neg a]
              refine ⟨(((Sf.refl S1).up rfl).up rfl).up rfl, by simp [us_app], by simp [us_app], by simp [us_app], fun g z => ?_⟩
              have hgi : g ≠ i := fun y => by
                have := z.1
                rw [y] at this
                simp [us_app] at this
              refine ⟨hgi, ?_⟩
              unfold inT at z ⊢
              simp [us_app, hgi] at z
              exact z
          rw [nJ_succ]
          refine ih (i + 1) h2 _ (by omega) b2 (by rw [itr, ← hS]) (f2.2.2.1.trans e3) (f2.2.2.2.1.trans e4) (fun g hg z => ?_) (tx.kx kz.1) (sp.trans ⟨kz, f2.1, f2.2.1⟩)
          have := f2.2.2.2.2 g z
          exact hp g (by omega) this.2
        have c149 : ∀ t', t' < nT → t' ≠ t → ¬ inT S1 t' i := fun t' ht' hne z => by
          have := c.2.symm.trans z.2
          rw [nJ_eq (by omega) (by omega)] at this
          exact hne this.symm
        have hg4 : ∀ g, (arG T t ash i S1) 148 g = 4 → S1 148 g = 4 ∧ (arG T t ash i S1) 154 g = S1 154 g := by
          intro g z
          have hgi : g ≠ i := fun y => by
            rw [y] at z
            rw [arG_p c] at z
            split at z <;> simp [mLand, us_app] at z
          rw [arG_p c] at z ⊢
          by_cases a : ash = true
          · rw [if_pos a] at z ⊢
            rw [mLand_o (fun y => hgi y.1) (by simp)] at z
            exact ⟨z, mLand_o (fun y => hgi y.1) (by simp)⟩
          · rw [if_neg a] at z ⊢
            simp [us_app, hgi] at z
            exact ⟨z, by simp [us_app]⟩
        refine ⟨fun a => ?_, fun a => ?_⟩
        · rw [bI_0] at a
          have kz : Kz h1 (wI (wI (wP h1 2 i 7 none) 2 i 6 5) 2 i 10 (gI h1 11 0 14)) := (((Kz.refl h1).P rfl).I rfl (by omega)).I rfl (by omega)
          have eA : arG T t ash i S1 = us (us (us S1 148 i 5) 149 i (-1)) 152 i (S1 12 24) := by rw [arG_p c, if_neg a]
          rw [eA] at go hg4
          have sf : Sf S1 (us (us (us S1 148 i 5) 149 i (-1)) 152 i (S1 12 24)) := (((Sf.refl S1).up rfl).up rfl).up rfl
          have e14 : gI (wI (wP h1 2 i 7 none) 2 i 6 5) 11 0 14 = gI h1 11 0 14 := by simp [gI_wI, gI_wP]
          show w_X11_arrive_16 Q (j + 1) (some (8, t)) (bI (ash = true)) (nJ i + 1) (wI (wI (wP h1 2 i 7 none) 2 i 6 5) 2 i 10 (gI (wI (wP h1 2 i 7 none) 2 i 6 5) 11 0 14))
          rw [e14]
          refine go _ kz (Bp.up b ⟨kz, sf, by simp [us_app]⟩ (((b.wm.up8 (by decide)).up rfl (by omega)).up rfl (by omega)) ?_ ?_ ?_ ?_ ?_ ?_ ?_)
          · have := b.rcd
            unfold RCd at this ⊢
            simpa [gI_wI, gI_wP, us_app] using this
          · intro g hg
            by_cases y : g = i
            · right
              subst y
              obtain ⟨d1, d2, d3, d4, d5, d6, d7, d8, d9, d10, d11⟩ := gd
              have n5 : ¬ ((5 : Int32) = 1) ∧ ¬ ((5 : Int32) = 4) ∧ ¬ ((5 : Int32) = 2) := by decide
              unfold GD
              simp only [gI_wI, gI_wP, gP_wI, gP_wP, us_app]
              simp [n5]
              exact ⟨d3, b.rcd.1, d5, d11 (by rw [c.1]; decide)⟩
            · left
              refine ⟨fun s hs => by simp [gI_wI, gI_wP, y], by simp [gP_wI, gP_wP, y], fun k h1 h2 => by simp [us_app, y]⟩
          · intro t' ht'; left; simp [gI_wI, gI_wP, us_app]
          · intro t' ht' hne
            refine (b.ld t' ht' hne).keep sf (by simp [gI_wI, gI_wP]) fun g hg => ?_
            by_cases y : g = i
            · subst y
              have := c149 t' ht' hne
              simp only [this, iff_false]
              intro z
              have := z.1
              simp [us_app] at this
            · simp [us_app, inT, y]
          · intro t' ht' _
            refine (b.vl t' ht' trivial).keep (by simp [us_app]) fun g hg z => ?_
            by_cases y : g = i
            · subst y
              have := z.1
              simp [us_app] at this
            · simpa [us_app, inT, y] using z
          · intro u hu
            have := b.ud u hu
            simpa [gI_wI, gI_wP, us_app] using this
          · refine b.rq.keep (by simp [gI_wI, gI_wP]) (fun _ => by simp [gP_wI, gP_wP]) (by simp [us_app]) (fun g hg z => ?_) (fun g hg z => hg4 g z)
            unfold qst at z ⊢
            by_cases y : g = i
            · right; left; simp [us_app, y]
            · simpa [us_app, y] using z
        · rw [bI_0] at a
          have a := Decidable.not_not.mp a
          have eA : arG T t ash i S1 = mLand T S1 i := by rw [arG_p c, if_pos a]
          rw [eA] at go hg4
          have kz1 : Kz h1 (wP h1 2 i 7 none) := (Kz.refl h1).P rfl
          have nb1 : NB nG S1 := nb.sp sp
          refine xLand (S := S1) (T := T) b.wm (b.st.keep kz1.1 (Sf.refl S1)) b.rcd (tx.kx kz1.1) hi fun h2 l => ?_
          have kz2 : Kz h1 h2 := ⟨kz1.1.trans l.1, fun s => by rw [l.2.2.1 6 s 4 (by omega) (by omega) (by simp) (by simp)]; rfl⟩
          have l := l
          have lI := l.2.2.1
          have lP := l.2.1
          have sf : Sf S1 (mLand T S1 i) := mLand_sf
          have o133 : ∀ x, mLand T S1 i 133 x = S1 133 x := fun x => mLand_o (by simp) (by simp)
          have o134 : ∀ x, mLand T S1 i 134 x = S1 134 x := fun x => mLand_o (by simp) (by simp)
          have o140 : ∀ x, mLand T S1 i 140 x = S1 140 x := fun x => mLand_o (by simp) (by simp)
          have og : ∀ k x, x ≠ i → k ≠ 12 → mLand T S1 i k x = S1 k x := fun k x hx hk => mLand_o (fun y => hx y.1) hk
          have i148 : mLand T S1 i 148 i = 2 := by simp [mLand, us_app]
          refine go _ kz2 (Bp.up b ⟨kz2, sf, by simp [mLand, us_app]⟩ b.wm.land ?_ ?_ ?_ ?_ ?_ ?_ ?_)
          · obtain ⟨r1, r2, r3⟩ := b.rcd
            obtain ⟨l1, l2, l3, l4, l5, l6, l7, l8, l9⟩ := l
            refine ⟨?_, ?_, ?_⟩
            · rw [l3 11 0 14 (by omega) (by omega) (by simp) (by simp)]
              simp [mLand, us_app]; exact r1
            · rw [l9]
              show gI h1 11 0 16 + gI h1 2 i 1 = _
              simp [mLand, us_app]; rw [r2, gs.2.2.1]
            · rw [l8]
              show gI h1 11 0 17 + _ = _
              simp [mLand, us_app]; rw [r3]
          · intro g hg
            by_cases y : g = i
            · right
              subst y
              exact xLandGD gd b.wm gs nb1 hi c.1 b.rcd l (by simp [gP_wP]) (fun _ _ _ => rfl)
            · left
              refine ⟨fun s hs => ?_, ?_, fun k h1 h2 => og k g y (by omega)⟩
              · rw [lI 2 g s (by omega) (by omega) (fun z => y z.2.1) (by simp)]; rfl
              · rw [lP 2 g 7 (by omega)]; simp [gP_wP, y]
          · intro t' ht'; left
            refine ⟨?_, ?_, o133 t', o134 t'⟩
            · rw [lI 8 t' 3 (by omega) (by omega) (by simp) (by simp)]; rfl
            · rw [lI 8 t' 4 (by omega) (by omega) (by simp) (by simp)]; rfl
          · intro t' ht' hne
            refine (b.ld t' ht' hne).keep sf (by rw [lI 8 t' 5 (by omega) (by omega) (by simp) (by simp)]; rfl) fun g hg => ?_
            by_cases y : g = i
            · subst y
              have := c149 t' ht' hne
              simp only [this, iff_false]
              intro z
              have := z.1
              rw [i148] at this; exact absurd this (by decide)
            · unfold inT; rw [og 148 g y (by omega), og 149 g y (by omega)]
          · intro t' ht' _
            refine (b.vl t' ht' trivial).keep (o133 t') fun g hg z => ?_
            by_cases y : g = i
            · subst y
              have := z.1
              rw [i148] at this; exact absurd this (by decide)
            · unfold inT at z ⊢; rw [og 148 g y (by omega), og 149 g y (by omega)] at z; exact z
          · intro u hu
            rw [lI 10 u 4 (by omega) (by omega) (by simp) (by simp), o140]; exact b.ud u hu
          · refine b.rq.keep ?_ ?_ (by simp [mLand, us_app]) (fun g hg z => ?_) (fun g hg z => hg4 g z)
            · rw [lI 11 0 10 (by omega) (by omega) (by simp) (by simp)]; rfl
            · intro j; rw [lP 25 0 j (by omega)]; simp [gP_wP]
            · by_cases y : g = i
              · exfalso
                subst y
                unfold qst at z
                rw [c.1, c.2, tN_nJ (by omega), e3, if_pos a] at z
                simp at z
              · unfold qst at z ⊢
                rw [og 148 g y (by omega), og 149 g y (by omega), o133]; exact z
theorem xArrive {t : Nat} {Q : Hp → Prop} (ht : t < nT) (nb : NB nG S) (b : Bd nS nT nU nG 0 0 h S) (tx : TextX h T) (c : S 133 t = 1 ∨ S 133 t = 3) (e4 : S 134 t = 0) (kk : ∀ h', Bd nS nT nU nG 0 0 h' (mArr T nG t S) → Sp h S h' (mArr T nG t S) → Q h') : wp_X11_arrive (some (8, t)) h Q := by
  unfold mArr at kk
  rw [itr_133] at kk
  refine ⟨t, rfl, fun z => ?_, fun z => ?_⟩
  · rw [(b.td t ht).1] at z
    have c3 : S 133 t = 3 := c.resolve_left z
    rw [decide_eq_false z, if_neg z] at kk
    exact ⟨nG + 1, xArriveL (ash := false) ht nb (by simpa using kk) nG 0 h S (by omega) b.bp rfl (by simp [c3]) e4 (fun g hg => by omega) tx (Sp.refl h S)⟩
  · rw [(b.td t ht).1] at z
    rw [decide_eq_true z, if_pos z] at kk
    exact ⟨nG + 1, xArriveL (ash := true) ht nb (by simpa using kk) nG 0 h S (by omega) b.bp rfl (by simp [z]) e4 (fun g hg => by omega) tx (Sp.refl h S)⟩
theorem xMove {Q : Hp → Prop} (nb : NB nG S) (b0 : Bd nS nT nU nG 0 0 h S) (tx0 : TextX h T) (kk : ∀ h', Bd nS nT nU nG 0 0 h' (p1 T nT nG S) → Sp h S h' (p1 T nT nG S) → Q h') : wp_X11_moveTenders h Q := by
  suffices H : ∀ j i h1 S1, i + j = nT → Bd nS nT nU nG 0 0 h1 S1 → S1 = itr (mvT T nG) i S → Sp h S h1 S1 → w_X11_moveTenders_2 Q (j + 1) (nJ i) h1 from ⟨nT + 1, H nT 0 h S (by omega) b0 rfl (Sp.refl h S)⟩
  intro j
  induction j with
  | zero =>
    intro i h1 S1 e b hS sp
    obtain rfl : i = nT := by omega
    refine ⟨fun _ => kk h1 (by unfold p1; rw [← hS]; exact b) (by unfold p1; rw [← hS]; exact sp), fun c => absurd ?_ c⟩
    rw [b.st.1.2.1]; exact Int32.le_refl _
  | succ j ih =>
    intro i h1 S1 e b hS sp
    have hT := b.wm.1.cT.2
    have hi : i < nT := by omega
    have ti : tN (nJ i) = i := tN_nJ (by omega)
    have step : ∀ h2, Bd nS nT nU nG 0 0 h2 (mvT T nG i S1) → Sp h1 S1 h2 (mvT T nG i S1) → w_X11_moveTenders_2 Q (j + 1) (nJ i + 1) h2 := fun h2 b2 s2 => by
      rw [nJ_succ]
      exact ih (i + 1) h2 _ (by omega) b2 (by rw [itr, ← hS]) (sp.trans s2)
    have td := b.td i hi
    have go : (S1 133 i = 1 ∨ S1 133 i = 3) → w_X11_moveTenders_33 (w_X11_moveTenders_2 Q (j + 1)) Q (nJ i) i h1 := by
      intro c
      have e4 : gI h1 8 i 4 = S1 134 i := by rw [td.2, if_pos c]
      have kz : Sp h1 S1 (wI h1 8 i 4 (S1 134 i - 1)) (us S1 134 i (S1 134 i - 1)) := ⟨(Kz.refl h1).I rfl (by omega), (Sf.refl S1).up rfl, by simp [us_app]⟩
      have b2 : Bd nS nT nU nG 0 0 (wI h1 8 i 4 (S1 134 i - 1)) (us S1 134 i (S1 134 i - 1)) := by
        refine Bp.bd (Bp.up (b.bp (p := fun _ => True) (q := fun _ => True)) kz (b.wm.up rfl (by omega)) ?_ ?_ ?_ ?_ ?_ ?_ ?_)
        · have := b.rcd
          unfold RCd at this ⊢
          simpa [gI_wI, us_app] using this
        · intro g hg; left
          refine ⟨fun s hs => by simp [gI_wI], rfl, fun k h1 h2 => ?_⟩
          rw [us_app, if_neg (by omega)]
        · intro t' ht'
          by_cases y : t' = i
          · right
            subst y
            unfold RTd
            simp [gI_wI, us_app, c]
            exact td.1
          · left; simp [gI_wI, us_app, y]
        · intro t' ht' _
          exact (b.ld t' ht').keep ((Sf.refl S1).up rfl) (by simp [gI_wI]) fun g hg => by simp [us_app, inT]
        · intro t' ht' _
          exact (b.vl t' ht').keep (by simp [us_app]) fun g hg => by simp [us_app, inT]
        · intro u hu
          have := b.ud u hu
          simpa [gI_wI, us_app] using this
        · refine b.rq.keep (by simp [gI_wI]) (fun _ => rfl) (by simp [us_app]) (fun g hg z => ?_) (fun g hg z => ?_)
          · simpa [qst, us_app] using z
          · simp [us_app] at z ⊢; exact z
      unfold w_X11_moveTenders_33
      rw [e4]
      have e5 : gI (wI h1 8 i 4 (S1 134 i - 1)) 8 i 4 = S1 134 i - 1 := by simp [gI_wI]
      rw [e5]
      refine ⟨fun z => ?_, fun z => ?_⟩
      · have em : mvT T nG i S1 = us S1 134 i (S1 134 i - 1) := by unfold mvT; rw [if_pos c, if_neg z]
        rw [em] at step
        exact step _ b2 kz
      · have em : mvT T nG i S1 = mArr T nG i (us S1 134 i (S1 134 i - 1)) := by unfold mvT; rw [if_pos c, if_pos z]
        rw [em] at step
        refine xArrive (S := us S1 134 i (S1 134 i - 1)) (T := T) hi ((nb.sp sp).sp kz) b2 ((tx0.kx sp.1.1).kx kz.1.1) (by simp [us_app]; exact c) (by simp [us_app]; exact z) fun h2 b3 s3 => ?_
        exact step _ b3 (kz.trans s3)
    refine ⟨fun c => absurd c ?_, fun _ => ?_⟩
    · rw [b.st.1.2.1, nJ_le (by omega) (by omega)]; omega
    · refine ⟨i, by rw [ti]; exact (b.st.2.2.1 i hi).1, (vp_nJ (by omega)).mpr (by omega), fun c => ?_, fun c => ⟨fun c2 => ?_, fun c2 => ?_⟩⟩
      · rw [td.1] at c; exact go (Or.inl c)
      · rw [td.1] at c c2
        have em : mvT T nG i S1 = S1 := by unfold mvT; rw [if_neg (fun z => z.elim c c2)]
        rw [em] at step
        exact step _ b (Sp.refl _ _)
      · rw [td.1] at c2; exact go (Or.inr c2)
end
