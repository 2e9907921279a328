/-! a reading of a text's tokens -/
abbrev Res : Type := Sum Nat (CodeT × List Tk)
def pPart (A : Nat → List Tk → Res) (d : Nat) : List Tk → Res
  | [] => .inl 0
  | t :: r => if t.1 ≠ 2 ∧ t.1 ≠ 6 ∧ t.1 < 13 then .inl (1 + 16 * t.2.1) else if 5 ≤ d then .inl (5 + 16 * t.2.1) else if t.1 = 6 then (match A (d + 1) r with
    | .inl f => .inl f
    | .inr (_, []) => .inl 0
    | .inr (c, u :: r') => if u.1 = 7 then .inr (c, r') else .inl (1 + 16 * u.2.1))
    else .inr ([if t.1 = 2 then (1, t.2.2) else (2, t.1 - 13)], r)
def pSumL (P : List Tk → Res) : Nat → CodeT → List Tk → Res
  | 0, c, ts => .inr (c, ts)
  | _ + 1, c, [] => .inr (c, [])
  | n + 1, c, t :: r => if t.1 = 10 ∨ t.1 = 11 then (match P r with
    | .inl f => .inl f
    | .inr (c', r') => pSumL P n (c ++ c' ++ [(if t.1 = 10 then 3 else 4, 0)]) r') else .inr (c, t :: r)
def pSum (P : List Tk → Res) (ts : List Tk) : Res := match P ts with
  | .inl f => .inl f
  | .inr (c, r) => pSumL P 600 c r
def pTest (S : List Tk → Res) (ts : List Tk) : Res := match S ts with
  | .inl f => .inl f
  | .inr (c, []) => .inr (c, [])
  | .inr (c, t :: r) => if t.1 = 8 ∨ t.1 = 9 then (match S r with
    | .inl f => .inl f
    | .inr (c', r') => .inr (c ++ c' ++ [(if t.1 = 8 then 5 else 6, 0)], r')) else .inr (c, t :: r)
def pAllL (T : List Tk → Res) : Nat → CodeT → List Tk → Res
  | 0, c, ts => .inr (c, ts)
  | _ + 1, c, [] => .inr (c, [])
  | n + 1, c, t :: r => if t.1 = 5 then (match T r with
    | .inl f => .inl f
    | .inr (c', r') => pAllL T n (c ++ c' ++ [(7, 0)]) r') else .inr (c, t :: r)
def pAll : Nat → Nat → List Tk → Res
  | 0, _, _ => .inl 0
  | f + 1, d, ts => match pTest (pSum (pPart (pAll f) d)) ts with
    | .inl e => .inl e
    | .inr (c, r) => pAllL (pTest (pSum (pPart (pAll f) d))) 600 c r
def hg : CodeT → Nat → Option Nat
  | [], k => some k
  | x :: cs, k => if (x.1 = 1 ∧ x.2 < 100000 ∧ k < 16) ∨ (x.1 = 2 ∧ x.2 < 6 ∧ k < 16) then hg cs (k + 1) else if 3 ≤ x.1 ∧ x.1 ≤ 7 ∧ 2 ≤ k then hg cs (k - 1) else none
theorem hg_app : ∀ (a b : CodeT) (k : Nat), hg (a ++ b) k = (hg a k).bind (hg b)
  | [], b, k => rfl
  | x :: a, b, k => by
    rw [List.cons_append, hg, hg]
    split
    · exact hg_app a b _
    · split
      · exact hg_app a b _
      · rfl
theorem hg_ok : ∀ (c : CodeT) (k : Nat), hg c k = some 1 → okC c k
  | [], k, h => Option.some.inj h
  | (o, a) :: cs, k, h => by
    rw [hg] at h
    unfold okC
    split at h
    · rename_i y
      rcases y with y | y
      · exact Or.inl ⟨y.1, y.2.1, y.2.2, hg_ok cs _ h⟩
      · exact Or.inr (Or.inl ⟨y.1, y.2.1, y.2.2, hg_ok cs _ h⟩)
    · split at h
      · rename_i y
        exact Or.inr (Or.inr ⟨y.1, y.2.1, y.2.2, hg_ok cs _ h⟩)
      · cases h
def okU (t : Tk) : Prop := t.1 ≤ 18 ∧ (t.1 = 2 → t.2.2 < 10000) ∧ t.2.1 ≤ 600
def Wt (ts : List Tk) : Prop := okT ts ∧ ∀ t, t ∈ ts → okU t
theorem Wt.tl {t : Tk} {r : List Tk} (w : Wt (t :: r)) (h : t.1 ≠ 1) : Wt r := by
  rcases w.1 with y | y
  · exact absurd y.1 h
  · exact ⟨y.2, fun u hu => w.2 u (List.mem_cons_of_mem _ hu)⟩
theorem Wt.ne {ts : List Tk} (w : Wt ts) : ts ≠ [] := fun e => by rw [e] at w; exact w.1
theorem Wt.hd {t : Tk} {r : List Tk} (w : Wt (t :: r)) : okU t := w.2 t (by simp)
def Gd (b : Nat) (p : List Tk → Res) : Prop := ∀ ts c r, Wt ts → p ts = .inr (c, r) → Wt r ∧ c.length + r.length ≤ ts.length ∧ (∀ k, k ≤ b → hg c k = some (k + 1))
theorem hg_op {c c' : CodeT} {o b : Nat} (h3 : 3 ≤ o) (h7 : o ≤ 7) (h1 : ∀ k, k ≤ b → hg c k = some (k + 1)) (h2 : ∀ k, k ≤ b + 1 → hg c' k = some (k + 1)) : ∀ k, k ≤ b → hg (c ++ c' ++ [(o, 0)]) k = some (k + 1) := by
  intro k hk
  rw [hg_app, hg_app, h1 k hk]
  show ((hg c' (k + 1)).bind (hg [(o, 0)])) = _
  rw [h2 (k + 1) (by omega)]
  show hg [(o, 0)] (k + 1 + 1) = _
  rw [hg, if_neg (by simp only; omega), if_pos (by simp only; omega)]
  rfl
theorem gd_part {A : Nat → List Tk → Res} {d : Nat} (h : d < 5 → Gd (3 * (d + 1)) (A (d + 1))) : Gd (3 * d + 3) (pPart A d) := by
  intro ts c r w e
  match ts, w, e with
  | [], w, e => exact absurd rfl w.ne
  | t :: q, w, e =>
    rw [pPart] at e
    by_cases c1 : t.1 ≠ 2 ∧ t.1 ≠ 6 ∧ t.1 < 13
    · rw [if_pos c1] at e; cases e
    rw [if_neg c1] at e
    by_cases c2 : 5 ≤ d
    · rw [if_pos c2] at e; cases e
    rw [if_neg c2] at e
    have wq : Wt q := w.tl (by omega)
    have hd := w.hd
    by_cases c3 : t.1 = 6
    · rw [if_pos c3] at e
      have g := h (by omega) q
      match hA : A (d + 1) q, e, g with
      | .inl f, e, g => cases e
      | .inr (cc, []), e, g => cases e
      | .inr (cc, u :: r'), e, g =>
        simp only at e
        by_cases c4 : u.1 = 7
        · rw [if_pos c4] at e
          cases e
          obtain ⟨g1, g2, g3⟩ := g c (u :: r) wq rfl
          refine ⟨g1.tl (by omega), ?_, g3⟩
          simp only [List.length_cons] at g2 ⊢; omega
        · rw [if_neg c4] at e; cases e
    · rw [if_neg c3] at e
      cases e
      refine ⟨wq, by simp only [List.length_cons, List.length_nil]; omega, fun k hk => ?_⟩
      rw [hg]
      by_cases c5 : t.1 = 2
      · have := hd.2.1 c5
        rw [if_pos c5, if_pos (Or.inl ⟨rfl, by simp only; omega, by omega⟩)]; rfl
      · have := hd.1
        rw [if_neg c5, if_pos (Or.inr ⟨rfl, by simp only; omega, by omega⟩)]; rfl
theorem gd_sumL {P : List Tk → Res} {b : Nat} (h : Gd (b + 1) P) : ∀ (n : Nat) (c ts cc r), Wt ts → pSumL P n c ts = .inr (cc, r) → (∀ k, k ≤ b → hg c k = some (k + 1)) → Wt r ∧ cc.length + r.length ≤ c.length + ts.length ∧ (∀ k, k ≤ b → hg cc k = some (k + 1))
  | 0, c, ts, cc, r, w, e, hc => by rw [pSumL] at e; cases e; exact ⟨w, Nat.le_refl _, hc⟩
  | n + 1, c, [], cc, r, w, e, hc => absurd rfl w.ne
  | n + 1, c, t :: q, cc, r, w, e, hc => by
    rw [pSumL] at e
    by_cases c1 : t.1 = 10 ∨ t.1 = 11
    · rw [if_pos c1] at e
      have g := h q
      match hP : P q, e, g with
      | .inl f, e, g => cases e
      | .inr (c', r'), e, g =>
        simp only at e
        obtain ⟨g1, g2, g3⟩ := g c' r' (w.tl (by omega)) rfl
        have := gd_sumL h n _ r' cc r g1 e (hg_op (by split <;> omega) (by split <;> omega) hc g3)
        refine ⟨this.1, ?_, this.2.2⟩
        have h2 := this.2.1
        simp only [List.length_append, List.length_cons, List.length_nil] at h2 ⊢; omega
    · rw [if_neg c1] at e; cases e; exact ⟨w, Nat.le_refl _, hc⟩
theorem gd_sum {P : List Tk → Res} {b : Nat} (h : Gd (b + 1) P) : Gd b (pSum P) := by
  intro ts c r w e
  unfold pSum at e
  have g := h ts
  match hP : P ts, e, g with
  | .inl f, e, g => cases e
  | .inr (c', r'), e, g =>
    simp only at e
    obtain ⟨g1, g2, g3⟩ := g c' r' w rfl
    have := gd_sumL h 600 c' r' c r g1 e (fun k hk => g3 k (by omega))
    exact ⟨this.1, by omega, this.2.2⟩
theorem gd_test {P : List Tk → Res} {b : Nat} (h : Gd (b + 1) P) : Gd b (pTest P) := by
  intro ts c r w e
  unfold pTest at e
  have g := h ts
  match hP : P ts, e, g with
  | .inl f, e, g => cases e
  | .inr (c', []), e, g =>
    obtain ⟨g1, g2, g3⟩ := g c' [] w rfl
    exact absurd rfl g1.ne
  | .inr (c', t :: q), e, g =>
    simp only at e
    obtain ⟨g1, g2, g3⟩ := g c' (t :: q) w rfl
    by_cases c1 : t.1 = 8 ∨ t.1 = 9
    · rw [if_pos c1] at e
      have k := h q
      match hQ : P q, e, k with
      | .inl f, e, k => cases e
      | .inr (c2, r2), e, k =>
        simp only at e
        cases e
        obtain ⟨k1, k2, k3⟩ := k c2 r (g1.tl (by omega)) rfl
        refine ⟨k1, ?_, hg_op (by split <;> omega) (by split <;> omega) (fun k hk => g3 k (by omega)) k3⟩
        simp only [List.length_append, List.length_cons, List.length_nil] at g2 ⊢; omega
    · rw [if_neg c1] at e
      cases e
      exact ⟨g1, g2, fun k hk => g3 k (by omega)⟩
theorem gd_allL {P : List Tk → Res} {b : Nat} (h : Gd (b + 1) P) : ∀ (n : Nat) (c ts cc r), Wt ts → pAllL P n c ts = .inr (cc, r) → (∀ k, k ≤ b → hg c k = some (k + 1)) → Wt r ∧ cc.length + r.length ≤ c.length + ts.length ∧ (∀ k, k ≤ b → hg cc k = some (k + 1))
  | 0, c, ts, cc, r, w, e, hc => by rw [pAllL] at e; cases e; exact ⟨w, Nat.le_refl _, hc⟩
  | n + 1, c, [], cc, r, w, e, hc => absurd rfl w.ne
  | n + 1, c, t :: q, cc, r, w, e, hc => by
    rw [pAllL] at e
    by_cases c1 : t.1 = 5
    · rw [if_pos c1] at e
      have g := h q
      match hP : P q, e, g with
      | .inl f, e, g => cases e
      | .inr (c', r'), e, g =>
        simp only at e
        obtain ⟨g1, g2, g3⟩ := g c' r' (w.tl (by omega)) rfl
        have := gd_allL h n _ r' cc r g1 e (hg_op (by omega) (by omega) hc g3)
        refine ⟨this.1, ?_, this.2.2⟩
        have h2 := this.2.1
        simp only [List.length_append, List.length_cons, List.length_nil] at h2 ⊢; omega
    · rw [if_neg c1] at e; cases e; exact ⟨w, Nat.le_refl _, hc⟩
theorem gd_all : ∀ (f d : Nat), Gd (3 * d) (pAll f d)
  | 0, d => fun ts c r w e => by rw [pAll] at e; cases e
  | f + 1, d => fun ts c r w e => by
    have gp : Gd (3 * d + 3) (pPart (pAll f) d) := gd_part fun _ => gd_all f (d + 1)
    have gt := gd_test (gd_sum gp)
    rw [pAll] at e
    have g := gt ts
    match hP : pTest (pSum (pPart (pAll f) d)) ts, e, g with
    | .inl f, e, g => cases e
    | .inr (c', r'), e, g =>
      simp only at e
      obtain ⟨g1, g2, g3⟩ := g c' r' w rfl
      have := gd_allL gt 600 c' r' c r g1 e (fun k hk => g3 k (by omega))
      exact ⟨this.1, by omega, this.2.2⟩
/-! the program's own reader -/
def AtL (TS : List Tk) (h : Hp) (ts : List Tk) : Prop := ∃ i, AtX TS h i ∧ ts = TS.drop i
def Fp (g : Nat) (h h' : Hp) : Prop := gC h' = gC h ∧ gL h' = gL h ∧ gP h' = gP h ∧ ∀ k i s, k ≠ 9 → ¬ (k = 4 ∧ s = 2) → ¬ (k = 1 ∧ i = g ∧ s = 3) → ¬ (k = 28 ∧ i = g) → gI h' k i s = gI h k i s
theorem Fp.refl {g : Nat} (h : Hp) : Fp g h h := ⟨rfl, rfl, rfl, fun _ _ _ _ _ _ _ => rfl⟩
theorem Fp.trans {g : Nat} {a b d : Hp} (f : Fp g a b) (k : Fp g b d) : Fp g a d := ⟨k.1.trans f.1, k.2.1.trans f.2.1, k.2.2.1.trans f.2.2.1, fun x i s h1 h2 h3 h4 => (k.2.2.2 x i s h1 h2 h3 h4).trans (f.2.2.2 x i s h1 h2 h3 h4)⟩
theorem Fp.f9 {g : Nat} {a b : Hp} (f : Fr f9 a b) (hc : gC b = gC a ∧ gL b = gL a ∧ gP b = gP a) : Fp g a b :=
  ⟨hc.1, hc.2.1, hc.2.2, fun k i s h1 _ _ _ => by rw [(f k (by simp [_root_.Jvm.Pilot.CShoreDayLaw_law_r6654_27fe09.f9, h1])).2.1]⟩
def CodX (g : Nat) (h : Hp) (C : CodeT) : Prop := gI h 1 g 3 = nJ C.length ∧ CodAt h g 0 C
theorem CodAt_app {h : Hp} {x : Nat} : ∀ {a b : CodeT} {p : Nat}, CodAt h x p (a ++ b) ↔ CodAt h x p a ∧ CodAt h x (p + a.length) b
  | [], b, p => by simp [CodAt]
  | c :: a, b, p => by
    show (gI h 28 x p = xc c ∧ CodAt h x (p + 1) (a ++ b)) ↔ (gI h 28 x p = xc c ∧ CodAt h x (p + 1) a) ∧ CodAt h x (p + (c :: a).length) b
    rw [CodAt_app (a := a), List.length_cons, show p + 1 + a.length = p + (a.length + 1) by omega, and_assoc]
theorem CodAt_up {h h' : Hp} {x : Nat} : ∀ {a : CodeT} {p : Nat}, (∀ i, p ≤ i → i < p + a.length → gI h' 28 x i = gI h 28 x i) → CodAt h x p a → CodAt h' x p a
  | [], p, _, _ => trivial
  | c :: a, p, hh, e => ⟨(hh p (by omega) (by simp)).trans e.1, CodAt_up (fun i h1 h2 => hh i (by omega) (by simp; omega)) e.2⟩
