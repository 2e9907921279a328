/-! the pure part: numbers, frames, the model's view -/
def nJ (n : Nat) : Int32 := Int32.ofNat n
theorem nJ_toInt {n : Nat} (h : n < 2147483648) : (nJ n).toInt = n := Int32.toInt_ofNat_of_lt h
theorem tN_toInt (x : Int32) : tN x = x.toInt.toNat := (Int32.toNat_toInt x).symm
theorem tN_nJ {n : Nat} (h : n < 2147483648) : tN (nJ n) = n := by rw [tN_toInt, nJ_toInt h]; rfl
theorem nJ_le {a b : Nat} (ha : a < 2147483648) (hb : b < 2147483648) : nJ a ≤ nJ b ↔ a ≤ b := by
  rw [Int32.le_iff_toInt_le, nJ_toInt ha, nJ_toInt hb]; omega
theorem nJ_lt {a b : Nat} (ha : a < 2147483648) (hb : b < 2147483648) : nJ a < nJ b ↔ a < b := by
  rw [Int32.lt_iff_toInt_lt, nJ_toInt ha, nJ_toInt hb]; omega
theorem nJ_eq {a b : Nat} (ha : a < 2147483648) (hb : b < 2147483648) : nJ a = nJ b ↔ a = b := by
  constructor
  · intro h
    have := congrArg Int32.toInt h
    rw [nJ_toInt ha, nJ_toInt hb] at this
    omega
  · rintro rfl; rfl
theorem nJ_add (a b : Nat) : nJ a + nJ b = nJ (a + b) := (Int32.ofNat_add a b).symm
theorem nJ_succ (a : Nat) : nJ a + 1 = nJ (a + 1) := nJ_add a 1
theorem nJ_pred (a : Nat) : nJ (a + 1) - 1 = nJ a := by
  rw [← nJ_succ]; exact Int32.add_sub_cancel _ _
theorem vp_nJ {n z : Nat} (h : n < 2147483648) : vp_in (nJ n) z ↔ n < z := by
  rw [vp_in, show (nJ n).toNatClampNeg = n from tN_nJ h]
  have : ¬ nJ n < 0 := by
    rw [show (0 : Int32) = nJ 0 from rfl, nJ_lt h (by omega)]; omega
  simp [this]
theorem nJ_ge0 {n : Nat} (h : n < 2147483648) : ¬ nJ n < 0 := by
  rw [show (0 : Int32) = nJ 0 from rfl, nJ_lt h (by omega)]; omega
theorem nJ_ne1 {n : Nat} (h : n < 2147483648) : nJ n ≠ -1 := by
  intro e
  have := congrArg Int32.toInt e
  rw [nJ_toInt h] at this
  have h2 : (-1 : Int32).toInt = -1 := by decide
  omega
theorem nJ_tN {x : Int32} (h : 0 ≤ x) : nJ (tN x) = x := by
  have h0 : 0 ≤ x.toInt := by simpa [Int32.le_iff_toInt_le] using h
  have h1 := Int32.toInt_lt x
  apply Int32.toInt_inj.mp
  rw [nJ_toInt (by rw [tN_toInt]; omega), tN_toInt]
  omega
theorem tadd {a b : Int32} (h1 : -2147483648 ≤ a.toInt + b.toInt) (h2 : a.toInt + b.toInt < 2147483648) : (a + b).toInt = a.toInt + b.toInt := by
  rw [Int32.toInt_add, Int.bmod_eq_of_le] <;> omega
theorem tsub {a b : Int32} (h1 : -2147483648 ≤ a.toInt - b.toInt) (h2 : a.toInt - b.toInt < 2147483648) : (a - b).toInt = a.toInt - b.toInt := by
  rw [Int32.toInt_sub, Int.bmod_eq_of_le] <;> omega
def bI (p : Prop) [Decidable p] : Int32 := if p then 1 else 0
theorem bI_0 {p : Prop} [Decidable p] : bI p = 0 ↔ ¬ p := by unfold bI; split <;> simp_all
theorem bI_1 {p : Prop} [Decidable p] : bI p = 1 ↔ p := by unfold bI; split <;> simp_all
theorem pif {p A B : Prop} [Decidable p] : ((p → A) ∧ (¬ p → B)) ↔ if p then A else B := by split <;> simp_all
theorem nif {p A B : Prop} [Decidable p] : ((¬ p → A) ∧ (p → B)) ↔ if p then B else A := by split <;> simp_all
/-! heaps -/
theorem gI_wI {h : Hp} {k i s k' i' s' : Nat} {v : Int32} : gI (wI h k i s v) k' i' s' = if k' = k ∧ i' = i ∧ s' = s then v else gI h k' i' s' := rfl
theorem gI_wL {h : Hp} {k i s : Nat} {v : Int64} : gI (wL h k i s v) = gI h := rfl
theorem gI_wP {h : Hp} {k i s : Nat} {v : Option PtrT} : gI (wP h k i s v) = gI h := rfl
theorem gL_wI {h : Hp} {k i s : Nat} {v : Int32} : gL (wI h k i s v) = gL h := rfl
theorem gL_wL {h : Hp} {k i s k' i' s' : Nat} {v : Int64} : gL (wL h k i s v) k' i' s' = if k' = k ∧ i' = i ∧ s' = s then v else gL h k' i' s' := rfl
theorem gL_wP {h : Hp} {k i s : Nat} {v : Option PtrT} : gL (wP h k i s v) = gL h := rfl
theorem gP_wI {h : Hp} {k i s : Nat} {v : Int32} : gP (wI h k i s v) = gP h := rfl
theorem gP_wL {h : Hp} {k i s : Nat} {v : Int64} : gP (wL h k i s v) = gP h := rfl
theorem gP_wP {h : Hp} {k i s k' i' s' : Nat} {v : Option PtrT} : gP (wP h k i s v) k' i' s' = if k' = k ∧ i' = i ∧ s' = s then v else gP h k' i' s' := rfl
theorem gC_wI {h : Hp} {k i s : Nat} {v : Int32} : gC (wI h k i s v) = gC h := rfl
theorem gC_wL {h : Hp} {k i s : Nat} {v : Int64} : gC (wL h k i s v) = gC h := rfl
theorem gC_wP {h : Hp} {k i s : Nat} {v : Option PtrT} : gC (wP h k i s v) = gC h := rfl
theorem gC_nw {h : Hp} {k k' : Nat} : gC (nw h k) k' = if k' = k then gC h k + 1 else gC h k' := rfl
theorem gI_nw {h : Hp} {k k' i' s' : Nat} : gI (nw h k) k' i' s' = if k' = k ∧ i' = gC h k then 0 else gI h k' i' s' := rfl
theorem gL_nw {h : Hp} {k k' i' s' : Nat} : gL (nw h k) k' i' s' = if k' = k ∧ i' = gC h k then 0 else gL h k' i' s' := rfl
theorem gP_nw {h : Hp} {k k' i' s' : Nat} : gP (nw h k) k' i' s' = if k' = k ∧ i' = gC h k then none else gP h k' i' s' := rfl
/-! frames -/
def Fr (p : Nat → Bool) (h h' : Hp) : Prop := ∀ k, p k = true → gC h' k = gC h k ∧ gI h' k = gI h k ∧ gL h' k = gL h k ∧ gP h' k = gP h k
theorem Fr.refl {p : Nat → Bool} (h : Hp) : Fr p h h := fun _ _ => ⟨rfl, rfl, rfl, rfl⟩
theorem Fr.trans {p : Nat → Bool} {a b c : Hp} (h1 : Fr p a b) (h2 : Fr p b c) : Fr p a c := fun k hk => ⟨(h2 k hk).1.trans (h1 k hk).1, (h2 k hk).2.1.trans (h1 k hk).2.1, (h2 k hk).2.2.1.trans (h1 k hk).2.2.1, (h2 k hk).2.2.2.trans (h1 k hk).2.2.2⟩
theorem Fr.wI {p : Nat → Bool} {a b : Hp} (h1 : Fr p a b) {k i s : Nat} {v : Int32} (hk : p k = false) : Fr p a (wI b k i s v) := by
  intro k' hk'
  have hne : k' ≠ k := fun e => by rw [e, hk] at hk'; cases hk'
  refine ⟨(h1 k' hk').1, ?_, (h1 k' hk').2.2.1, (h1 k' hk').2.2.2⟩
  rw [← (h1 k' hk').2.1]; funext i' s'; rw [gI_wI, if_neg (fun z => hne z.1)]
theorem Fr.wL {p : Nat → Bool} {a b : Hp} (h1 : Fr p a b) {k i s : Nat} {v : Int64} (hk : p k = false) : Fr p a (wL b k i s v) := by
  intro k' hk'
  have hne : k' ≠ k := fun e => by rw [e, hk] at hk'; cases hk'
  refine ⟨(h1 k' hk').1, (h1 k' hk').2.1, ?_, (h1 k' hk').2.2.2⟩
  rw [← (h1 k' hk').2.2.1]; funext i' s'; rw [gL_wL, if_neg (fun z => hne z.1)]
theorem Fr.wP {p : Nat → Bool} {a b : Hp} (h1 : Fr p a b) {k i s : Nat} {v : Option PtrT} (hk : p k = false) : Fr p a (wP b k i s v) := by
  intro k' hk'
  have hne : k' ≠ k := fun e => by rw [e, hk] at hk'; cases hk'
  refine ⟨(h1 k' hk').1, (h1 k' hk').2.1, (h1 k' hk').2.2.1, ?_⟩
  rw [← (h1 k' hk').2.2.2]; funext i' s'; rw [gP_wP, if_neg (fun z => hne z.1)]
theorem Fr.nw {p : Nat → Bool} {a b : Hp} (h1 : Fr p a b) {k : Nat} (hk : p k = false) : Fr p a (nw b k) := by
  intro k' hk'
  have hne : k' ≠ k := fun e => by rw [e, hk] at hk'; cases hk'
  obtain ⟨e1, e2, e3, e4⟩ := h1 k' hk'
  refine ⟨?_, ?_, ?_, ?_⟩
  · rw [← e1, gC_nw, if_neg hne]
  · rw [← e2]; funext i' s'; rw [gI_nw, if_neg (fun z => hne z.1)]
  · rw [← e3]; funext i' s'; rw [gL_nw, if_neg (fun z => hne z.1)]
  · rw [← e4]; funext i' s'; rw [gP_nw, if_neg (fun z => hne z.1)]
def mkB (k : Nat) : Bool := k == 12 || Nat.ble 100 k
def xkB (k : Nat) : Bool := !(mkB k)
/-! what of the model's heap is its state -/
abbrev MSt : Type := Nat → Nat → Int32
def us (S : MSt) (k i : Nat) (v : Int32) : MSt := fun k' i' => if k' = k ∧ i' = i then v else S k' i'
theorem us_app {S : MSt} {k i k' i' : Nat} {v : Int32} : us S k i v k' i' = if k' = k ∧ i' = i then v else S k' i' := rfl
def vis (k s : Nat) : Bool := if k = 12 then (s == 2 || (s == 24 || (s == 25 || (s == 26 || (s == 30 || (s == 35 || (s == 41 || (s == 55 || (s == 56 || (s == 57 || (s == 61 || s == 63)))))))))))
  else (k == 101 || ((Nat.ble 127 k && !(k == 160)) && !(k == 165)))
def view (h : Hp) : MSt := fun k s => if vis k s = true then gI h k 0 s else 0
theorem gv {h : Hp} {k s : Nat} (hv : vis k s = true) : gI h k 0 s = view h k s := by rw [view, if_pos hv]
theorem view_wI {h : Hp} {k s : Nat} {v : Int32} (hv : vis k s = true) : view (wI h k 0 s v) = us (view h) k s v := by
  funext k' s'
  simp only [view, us, gI_wI]
  by_cases c : k' = k ∧ s' = s
  · rw [if_pos c, c.1, c.2, if_pos hv]; simp
  · rw [if_neg c]
    have : ¬ (k' = k ∧ True ∧ s' = s) := fun z => c ⟨z.1, z.2.2⟩
    rw [if_neg this]
theorem view_wIs {h : Hp} {k i s : Nat} {v : Int32} (hv : vis k s = false) : view (wI h k i s v) = view h := by
  funext k' s'
  simp only [view, gI_wI]
  by_cases c : vis k' s' = true
  · rw [if_pos c, if_pos c]
    have : ¬ (k' = k ∧ 0 = i ∧ s' = s) := fun z => by rw [z.1, z.2.2, hv] at c; cases c
    rw [if_neg this]
  · rw [if_neg c, if_neg c]
theorem view_wL {h : Hp} {k i s : Nat} {v : Int64} : view (wL h k i s v) = view h := rfl
theorem view_wP {h : Hp} {k i s : Nat} {v : Option PtrT} : view (wP h k i s v) = view h := rfl
theorem vis_mk {k s : Nat} (h : vis k s = true) : mkB k = true := by
  unfold vis at h
  unfold mkB
  split at h
  · rename_i e; rw [e]; rfl
  · have : 100 ≤ k := by
      simp only [Bool.or_eq_true, Bool.and_eq_true, beq_iff_eq, Nat.ble_eq] at h
      omega
    simp [Nat.ble_eq, this]
theorem view_fr {h h' : Hp} (f : Fr mkB h h') : view h' = view h := by
  funext k s
  simp only [view]
  by_cases c : vis k s = true
  · rw [if_pos c, if_pos c, (f k (vis_mk c)).2.1]
  · rw [if_neg c, if_neg c]
theorem view_nw {h : Hp} {k : Nat} (hk : mkB k = false) : view (nw h k) = view h := view_fr ((Fr.refl h).nw hk)
def itr {α : Type} (f : Nat → α → α) : Nat → α → α
  | 0, a => a
  | n + 1, a => f n (itr f n a)
def sm (f : Nat → Int32) : Nat → Int32
  | 0 => 0
  | n + 1 => sm f n + f n
theorem sm_congr {f g : Nat → Int32} : ∀ {n : Nat}, (∀ i, i < n → f i = g i) → sm f n = sm g n
  | 0, _ => rfl
  | n + 1, h => by rw [sm, sm, sm_congr fun i hi => h i (by omega), h n (by omega)]
theorem sm_bd {f : Nat → Int32} {B : Nat} : ∀ {n : Nat}, n * B < 2147483648 → (∀ i, i < n → 0 ≤ (f i).toInt ∧ (f i).toInt ≤ B) → 0 ≤ (sm f n).toInt ∧ (sm f n).toInt ≤ n * B
  | 0, _, _ => by simp [sm]
  | n + 1, hb, h => by
    have e : (n + 1) * B = n * B + B := Nat.succ_mul n B
    have ih := sm_bd (n := n) (by omega) fun i hi => h i (by omega)
    have h1 := h n (by omega)
    rw [sm, tadd (by omega) (by omega)]
    have e2 : ((n + 1 : Nat) : Int) * (B : Int) = ((n : Nat) : Int) * (B : Int) + B := by
      rw [← Int.natCast_mul, e, Int.natCast_add, Int.natCast_mul]
    have e3 : ((n : Nat) : Int) * (B : Int) = ((n * B : Nat) : Int) := (Int.natCast_mul n B).symm
    omega
theorem sm_up {f g : Nat → Int32} {a : Nat} : ∀ {n : Nat}, a < n → (∀ i, i < n → i ≠ a → g i = f i) → sm g n = sm f n - f a + g a
  | 0, h, _ => by omega
  | n + 1, h, hg => by
    rw [sm, sm]
    by_cases c : a = n
    · subst c
      rw [sm_congr (f := g) (g := f) fun i hi => hg i (by omega) (by omega), Int32.add_sub_cancel]
    · rw [sm_up (n := n) (by omega) fun i hi hne => hg i (by omega) hne, hg n (by omega) (fun e => c e.symm)]
      rw [Int32.sub_eq_add_neg, Int32.sub_eq_add_neg, Int32.add_assoc, Int32.add_assoc, Int32.add_assoc, Int32.add_assoc]
      congr 1
      rw [Int32.add_comm (f n), Int32.add_assoc]
