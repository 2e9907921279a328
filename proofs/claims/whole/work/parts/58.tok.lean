/-! signs to tokens -/
abbrev Tk : Type := Nat × Nat × Nat
def lJ (n : Nat) : Int64 := Int64.ofNat n
theorem lJ_toInt {n : Nat} (h : n < 9223372036854775808) : (lJ n).toInt = n := Int64.toInt_ofNat_of_lt h
theorem lJ_eq {a b : Nat} (ha : a < 9223372036854775808) (hb : b < 9223372036854775808) : lJ a = lJ b ↔ a = b := by
  constructor
  · intro h
    have := congrArg Int64.toInt h
    rw [lJ_toInt ha, lJ_toInt hb] at this
    omega
  · rintro rfl; rfl
theorem lJ_add (a b : Nat) : lJ a + lJ b = lJ (a + b) := (Int64.ofNat_add a b).symm
theorem lJ_mul (a b : Nat) : lJ a * lJ b = lJ (a * b) := (Int64.ofNat_mul a b).symm
theorem nJ_64 {n : Nat} (h : n < 2147483648) : (nJ n).toInt64 = lJ n := by
  apply Int64.toInt_inj.mp
  rw [Int32.toInt_toInt64, nJ_toInt h, lJ_toInt (by omega)]
theorem lJ_32 {n : Nat} (h : n < 2147483648) : (lJ n).toInt32 = nJ n := by
  apply Int32.toInt_inj.mp
  rw [Int64.toInt_toInt32, lJ_toInt (by omega), nJ_toInt h, Int.bmod_eq_of_le (by omega) (by omega)]
theorem lg0 {x y : Int64} : lg_cmp x y = 0 ↔ x = y := by
  unfold lg_cmp
  by_cases c : x > y
  · rw [if_pos c]
    refine ⟨fun z => absurd z (by decide), fun z => ?_⟩
    rw [z] at c; exact absurd c (Int64.lt_irrefl)
  · rw [if_neg c]
    by_cases c2 : x = y
    · simp [c2]
    · rw [if_neg c2]; exact ⟨fun z => absurd z (by decide), fun z => absurd z c2⟩
theorem lg1 {a b : Nat} (ha : a < 1000000) (hb : b < 1000000) : lg_cmp (lJ a) (lJ b) ≤ 0 ↔ a ≤ b := by
  unfold lg_cmp
  have e : lJ a > lJ b ↔ a > b := by
    show lJ b < lJ a ↔ _
    rw [Int64.lt_iff_toInt_lt, lJ_toInt (by omega), lJ_toInt (by omega)]; omega
  by_cases c : lJ a > lJ b
  · rw [if_pos c]
    refine ⟨fun z => absurd z (by decide), fun z => ?_⟩
    have := e.mp c; omega
  · rw [if_neg c]
    have h1 : a ≤ b := by have : ¬ a > b := fun z => c (e.mpr z); omega
    refine ⟨fun _ => h1, fun _ => ?_⟩
    split <;> decide
def isLe (x : Nat) : Bool := decide (97 ≤ x ∧ x ≤ 122)
def isDi (x : Nat) : Bool := decide (48 ≤ x ∧ x ≤ 57)
def isBl (x : Nat) : Bool := decide (x = 10 ∨ x = 32)
def mkK (x : Nat) : Nat := if x = 40 then 6 else if x = 41 then 7 else if x = 60 then 8 else if x = 61 then 9 else if x = 43 then 10 else if x = 45 then 11 else if x = 59 then 12 else 0
def rn (p : Nat → Bool) (c : Nat → Nat) : Nat → Nat → Nat
  | 0, _ => 0
  | f + 1, k => if p (c k) = true then rn p c f (k + 1) + 1 else 0
def seg (c : Nat → Nat) (k l : Nat) : List Nat := (List.range l).map (fun i => c (k + i))
def wd (w : Nat) : List Nat := if w = 0 then [102, 101, 101] else if w = 1 then [119, 104, 101, 110] else if w = 2 then [97, 110, 100] else if w = 3 then [103, 117, 101, 115, 116, 115] else if w = 4 then [116, 111, 117, 114] else if w = 5 then [104, 111, 117, 114] else if w = 6 then [114, 97, 110, 107] else if w = 7 then [115, 104, 105, 112] else [108, 97, 110, 100, 101, 100]
def kw (w : Nat) : Nat := if w < 3 then w + 3 else w + 10
def wk (l : List Nat) : Nat := if l = wd 0 then 3 else if l = wd 1 then 4 else if l = wd 2 then 5 else if l = wd 3 then 13 else if l = wd 4 then 14 else if l = wd 5 then 15 else if l = wd 6 then 16 else if l = wd 7 then 17 else if l = wd 8 then 18 else 0
def dv (l : List Nat) : Nat := l.foldl (fun v x => 10 * v + (x - 48)) 0
def hs (l : List Nat) : Nat := l.foldl (fun v x => 37 * v + (x - 96)) 0
def tokK (c : Nat → Nat) (n k : Nat) : Nat := if isLe (c k) = true then (if 8 < rn isLe c (n - k) k then 0 else wk (seg c k (rn isLe c (n - k) k))) else if isDi (c k) = true then (if 4 < rn isDi c (n - k) k then 0 else 2) else mkK (c k)
def tokL (c : Nat → Nat) (n k : Nat) : Nat := if isLe (c k) = true then rn isLe c (n - k) k else if isDi (c k) = true then rn isDi c (n - k) k else 1
def tokV (c : Nat → Nat) (n k : Nat) : Nat := if isLe (c k) = true then 0 else if isDi (c k) = true then dv (seg c k (rn isDi c (n - k) k)) else 0
def toks (c : Nat → Nat) (n : Nat) : Nat → Nat → List Tk
  | 0, _ => [(1, n, 0)]
  | f + 1, k => if k < n then (if isBl (c k) = true then toks c n f (k + 1) else (tokK c n k, k, tokV c n k) :: toks c n f (k + tokL c n k)) else [(1, n, 0)]
theorem rn_le {p : Nat → Bool} {c : Nat → Nat} : ∀ (f k : Nat), rn p c f k ≤ f
  | 0, _ => Nat.le_refl _
  | f + 1, k => by
    rw [rn]; split
    · have := rn_le (p := p) (c := c) f (k + 1); omega
    · omega
theorem rn_all {p : Nat → Bool} {c : Nat → Nat} : ∀ (f k i : Nat), i < rn p c f k → p (c (k + i)) = true
  | 0, _, i, h => by rw [rn] at h; omega
  | f + 1, k, i, h => by
    rw [rn] at h
    split at h
    · rename_i e
      cases i with
      | zero => exact e
      | succ i =>
        have := rn_all (p := p) (c := c) f (k + 1) i (by omega)
        rw [show k + (i + 1) = k + 1 + i by omega]; exact this
    · omega
theorem rn_pos {p : Nat → Bool} {c : Nat → Nat} {f k : Nat} (hf : 0 < f) (h : p (c k) = true) : 0 < rn p c f k := by
  cases f with
  | zero => omega
  | succ f => rw [rn, if_pos h]; omega
theorem tokL_pos {c : Nat → Nat} {n k : Nat} (h : k < n) : 1 ≤ tokL c n k ∧ tokL c n k ≤ n - k := by
  unfold tokL
  split
  · rename_i e; exact ⟨rn_pos (by omega) e, rn_le _ _⟩
  · split
    · rename_i e; exact ⟨rn_pos (by omega) e, rn_le _ _⟩
    · omega
theorem seg_succ {c : Nat → Nat} {k l : Nat} : seg c k (l + 1) = seg c k l ++ [c (k + l)] := by
  unfold seg; rw [List.range_succ, List.map_append]; rfl
theorem seg_len {c : Nat → Nat} {k l : Nat} : (seg c k l).length = l := by unfold seg; simp
theorem hs_snoc (l : List Nat) (x : Nat) : hs (l ++ [x]) = 37 * hs l + (x - 96) := by unfold hs; rw [List.foldl_append]; rfl
theorem dv_snoc (l : List Nat) (x : Nat) : dv (l ++ [x]) = 10 * dv l + (x - 48) := by unfold dv; rw [List.foldl_append]; rfl
theorem hs_inj : ∀ (n : Nat) (l l' : List Nat), l.length = n → (∀ x, x ∈ l → 97 ≤ x ∧ x ≤ 122) → (∀ x, x ∈ l' → 97 ≤ x ∧ x ≤ 122) → hs l = hs l' → l = l' := by
  intro n
  induction n with
  | zero =>
    intro l l' hn h h' e
    have : l = [] := List.length_eq_zero_iff.mp hn
    subst this
    rcases List.eq_nil_or_concat l' with y | ⟨m, x, y⟩
    · exact y.symm
    · rw [y, List.concat_eq_append] at e h'
      rw [hs_snoc] at e
      have := h' x (by simp)
      have h0 : hs [] = 0 := rfl
      omega
  | succ n ih =>
    intro l l' hn h h' e
    rcases List.eq_nil_or_concat l with y | ⟨m, x, y⟩
    · rw [y] at hn; simp at hn
    · rw [List.concat_eq_append] at y
      rcases List.eq_nil_or_concat l' with y' | ⟨m', x', y'⟩
      · rw [y, y'] at e
        rw [hs_snoc] at e
        have := h x (by rw [y]; simp)
        have h0 : hs [] = 0 := rfl
        omega
      · rw [List.concat_eq_append] at y'
        rw [y, y', hs_snoc, hs_snoc] at e
        have b1 := h x (by rw [y]; simp)
        have b2 := h' x' (by rw [y']; simp)
        have e1 : x = x' := by omega
        have e2 : hs m = hs m' := by omega
        have := ih m m' (by rw [y] at hn; simp at hn; omega) (fun z hz => h z (by rw [y]; simp [hz])) (fun z hz => h' z (by rw [y']; simp [hz])) e2
        rw [y, y', this, e1]
theorem wd_le : ∀ w, w < 9 → ∀ x, x ∈ wd w → 97 ≤ x ∧ x ≤ 122 := by decide
theorem hs_bd : ∀ (n : Nat) (l : List Nat), l.length = n → n ≤ 8 → (∀ x, x ∈ l → 97 ≤ x ∧ x ≤ 122) → hs l < 37 ^ n := by
  intro n
  induction n with
  | zero =>
    intro l hn _ _
    have : l = [] := List.length_eq_zero_iff.mp hn
    subst this
    exact Nat.one_pos
  | succ n ih =>
    intro l hn h8 h
    rcases List.eq_nil_or_concat l with y | ⟨m, x, y⟩
    · rw [y] at hn; simp at hn
    · rw [List.concat_eq_append] at y
      have b1 := h x (by rw [y]; simp)
      have := ih m (by rw [y] at hn; simp at hn; omega) (by omega) (fun z hz => h z (by rw [y]; simp [hz]))
      rw [y, hs_snoc, Nat.pow_succ]; omega
theorem dv_bd : ∀ (n : Nat) (l : List Nat), l.length = n → (∀ x, x ∈ l → 48 ≤ x ∧ x ≤ 57) → dv l < 10 ^ n := by
  intro n
  induction n with
  | zero =>
    intro l hn _
    have : l = [] := List.length_eq_zero_iff.mp hn
    subst this
    exact Nat.one_pos
  | succ n ih =>
    intro l hn h
    rcases List.eq_nil_or_concat l with y | ⟨m, x, y⟩
    · rw [y] at hn; simp at hn
    · rw [List.concat_eq_append] at y
      have b1 := h x (by rw [y]; simp)
      have := ih m (by rw [y] at hn; simp at hn; omega) (fun z hz => h z (by rw [y]; simp [hz]))
      rw [y, dv_snoc, Nat.pow_succ]; omega
def wv (w : Nat) : Nat := if w = 0 then 8404 else if w = 1 then 1176170 else if w = 2 then 1891 else if w = 3 then 525045115 else if w = 4 then 1034390 else if w = 5 then 426554 else if w = 6 then 913652 else if w = 7 then 973708 else 834716452
theorem wv_hs : ∀ w, w < 9 → hs (wd w) = wv w := by decide
theorem wd_inj : ∀ w, w < 9 → ∀ v, v < 9 → wd w = wd v → w = v := by decide
theorem wk_kw : ∀ w, w < 9 → wk (wd w) = kw w := by decide
theorem kw_inj {w v : Nat} (h : kw w = kw v) (hw : w < 9) (hv : v < 9) : w = v := by unfold kw at h; split at h <;> split at h <;> omega
theorem wk_ex (l : List Nat) : (wk l = 0 ∧ ∀ w, w < 9 → l ≠ wd w) ∨ ∃ w, w < 9 ∧ l = wd w ∧ wk l = kw w := by
  by_cases h : ∃ w, w < 9 ∧ l = wd w
  · obtain ⟨w, hw, e⟩ := h
    exact Or.inr ⟨w, hw, e, by rw [e]; exact wk_kw w hw⟩
  · left
    have n : ∀ w, w < 9 → l ≠ wd w := fun w hw e => h ⟨w, hw, e⟩
    refine ⟨?_, n⟩
    unfold wk
    rw [if_neg (n 0 (by omega)), if_neg (n 1 (by omega)), if_neg (n 2 (by omega)), if_neg (n 3 (by omega)), if_neg (n 4 (by omega)), if_neg (n 5 (by omega)), if_neg (n 6 (by omega)), if_neg (n 7 (by omega)), if_neg (n 8 (by omega))]
theorem wk_iff {l : List Nat} {w : Nat} (hw : w < 9) : wk l = kw w ↔ l = wd w := by
  constructor
  · intro e
    rcases wk_ex l with ⟨y, -⟩ | ⟨v, hv, y, z⟩
    · rw [y] at e; unfold kw at e; split at e <;> omega
    · rw [z] at e
      rw [y, kw_inj e hv hw]
  · rintro rfl; exact wk_kw w hw
theorem wk_hs {l : List Nat} {w : Nat} (hw : w < 9) (hl : ∀ x, x ∈ l → 97 ≤ x ∧ x ≤ 122) : hs l = wv w ↔ wk l = kw w := by
  rw [wk_iff hw, ← wv_hs w hw]
  exact ⟨fun e => hs_inj l.length l (wd w) rfl hl (wd_le w hw) e, fun e => by rw [e]⟩
/-- the last token is the end, and no other -/
def okT : List Tk → Prop
  | [] => False
  | t :: r => (t.1 = 1 ∧ r = []) ∨ (t.1 ≠ 1 ∧ okT r)
theorem wk_n1 (l : List Nat) : wk l ≠ 1 ∧ wk l ≤ 18 := by
  rcases wk_ex l with ⟨y, -⟩ | ⟨v, hv, y, z⟩
  · rw [y]; omega
  · rw [z]; unfold kw; split <;> omega
theorem mkK_n1 (x : Nat) : mkK x ≠ 1 ∧ mkK x ≤ 12 := by
  unfold mkK
  split
  · omega
  split
  · omega
  split
  · omega
  split
  · omega
  split
  · omega
  split
  · omega
  split
  · omega
  · omega
theorem tokK_n1 {c : Nat → Nat} {n k : Nat} : tokK c n k ≠ 1 ∧ tokK c n k ≤ 18 := by
  unfold tokK
  split
  · split
    · omega
    · exact wk_n1 _
  · split
    · split <;> omega
    · have := mkK_n1 (c k); omega
theorem toks_ok {c : Nat → Nat} {n : Nat} : ∀ (f k : Nat), okT (toks c n f k)
  | 0, _ => Or.inl ⟨rfl, rfl⟩
  | f + 1, k => by
    rw [toks]
    split
    · split
      · exact toks_ok f (k + 1)
      · exact Or.inr ⟨tokK_n1.1, toks_ok f _⟩
    · exact Or.inl ⟨rfl, rfl⟩
theorem toks_len {c : Nat → Nat} {n : Nat} : ∀ (f k : Nat), k ≤ n → (toks c n f k).length ≤ n - k + 1
  | 0, _, _ => by rw [toks]; simp
  | f + 1, k, hk => by
    rw [toks]
    split
    · rename_i hk'
      split
      · have := toks_len (c := c) (n := n) f (k + 1) (by omega); omega
      · have h1 := tokL_pos (c := c) hk'
        have := toks_len (c := c) (n := n) f (k + tokL c n k) (by omega)
        simp only [List.length_cons]; omega
    · simp
