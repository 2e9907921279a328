/-! the class's state against the model's -/
def dx (k s : Nat) : Bool := ((k == 2 && Nat.ble 6 s) || ((k == 6 && s == 4) || ((k == 8 && Nat.ble 3 s) || ((k == 10 && s == 4) || (k == 11 && (s == 10 || (s == 14 || (s == 16 || s == 17)))))))) || (k == 25 || (k == 30 || (k == 1 && s == 4)))
def Kx (h h' : Hp) : Prop := gC h' = gC h ∧ gL h' = gL h ∧ ∀ k i s, dx k s = false → gI h' k i s = gI h k i s ∧ gP h' k i s = gP h k i s
theorem Kx.refl (h : Hp) : Kx h h := ⟨rfl, rfl, fun _ _ _ _ => ⟨rfl, rfl⟩⟩
theorem Kx.trans {a b c : Hp} (f : Kx a b) (g : Kx b c) : Kx a c := ⟨g.1.trans f.1, g.2.1.trans f.2.1, fun k i s h => ⟨(g.2.2 k i s h).1.trans (f.2.2 k i s h).1, (g.2.2 k i s h).2.trans (f.2.2 k i s h).2⟩⟩
theorem Kx.I {a b : Hp} (f : Kx a b) {k i s : Nat} {v : Int32} (hd : dx k s = true) : Kx a (wI b k i s v) := by
  refine ⟨f.1, f.2.1, fun k' i' s' h' => ⟨?_, (f.2.2 k' i' s' h').2⟩⟩
  rw [gI_wI, if_neg]
  · exact (f.2.2 k' i' s' h').1
  · rintro ⟨rfl, -, rfl⟩; rw [hd] at h'; cases h'
theorem Kx.P {a b : Hp} (f : Kx a b) {k i s : Nat} {v : Option PtrT} (hd : dx k s = true) : Kx a (wP b k i s v) := by
  refine ⟨f.1, f.2.1, fun k' i' s' h' => ⟨(f.2.2 k' i' s' h').1, ?_⟩⟩
  rw [gP_wP, if_neg]
  · exact (f.2.2 k' i' s' h').2
  · rintro ⟨rfl, -, rfl⟩; rw [hd] at h'; cases h'
theorem Kx.I25 {a b : Hp} (f : Kx a b) {i s : Nat} {v : Option PtrT} : Kx a (wP b 25 i s v) := f.P (by simp [dx])
theorem Kx.kv {a b : Hp} (f : Kv a b) : Kx a b := by
  have h30 := f.2.2.2.2.2.1
  have hl := f.2.2.2.2.2.2
  refine ⟨?_, ?_, fun k i s h => ?_⟩
  · funext k
    by_cases c1 : k = 1
    · rw [c1]; exact f.2.2.1
    by_cases c2 : k = 30
    · rw [c2]; exact h30
    · exact (f.1 k (by simp [pb, c1, c2])).1
  · funext k
    by_cases c1 : k = 1
    · rw [c1]; exact f.2.2.2.2.1
    by_cases c2 : k = 30
    · rw [c2]; exact hl
    · exact (f.1 k (by simp [pb, c1, c2])).2.2.1
  · by_cases c1 : k = 1
    · subst c1
      have hs : s ≠ 4 := fun e => by rw [e] at h; cases h
      exact ⟨f.2.1 i s hs, by rw [f.2.2.2.1]⟩
    by_cases c2 : k = 30
    · subst c2; exfalso; simp [dx] at h
    · have := f.1 k (by simp [pb, c1, c2])
      exact ⟨by rw [this.2.1], by rw [this.2.2.2]⟩
def Sf (S S' : MSt) : Prop := ∀ k i, vk k i = false → S' k i = S k i
theorem Sf.refl (S : MSt) : Sf S S := fun _ _ _ => rfl
theorem Sf.trans {a b c : MSt} (f : Sf a b) (g : Sf b c) : Sf a c := fun k i h => (g k i h).trans (f k i h)
theorem Sf.up {S S' : MSt} (f : Sf S S') {k i : Nat} {v : Int32} (hk : vk k i = true) : Sf S (us S' k i v) := by
  intro k' i' h'
  rw [us_app, if_neg]
  · exact f k' i' h'
  · rintro ⟨rfl, rfl⟩; rw [hk] at h'; cases h'
def RTs (h : Hp) (S : MSt) (t : Nat) : Prop := gP h 21 0 t = some (8, t) ∧ gI h 8 t 0 = nJ t ∧ gI h 8 t 2 = S 132 t ∧ gP h 8 t 1 = some (6, tN (S 131 t))
def RUs (h : Hp) (S : MSt) (u : Nat) : Prop := gP h 22 0 u = some (10, u) ∧ gI h 10 u 0 = S 136 u ∧ gI h 10 u 1 = S 137 u ∧ gI h 10 u 2 = S 138 u ∧ gI h 10 u 3 = S 139 u
def RSs (h : Hp) (S : MSt) (s : Nat) : Prop := gP h 20 0 s = some (6, s) ∧ gI h 6 s 0 = nJ s ∧ gI h 6 s 1 = S 127 s ∧ gI h 6 s 2 = S 128 s ∧ gI h 6 s 3 = S 129 s
def GS (h : Hp) (S : MSt) (g : Nat) : Prop := gP h 23 0 g = some (2, g) ∧ gP h 2 g 0 = some (6, tN (S 142 g)) ∧ gI h 2 g 1 = S 143 g ∧ gI h 2 g 2 = S 144 g ∧ gI h 2 g 3 = S 145 g ∧ gP h 2 g 4 = (if S 146 g = -1 then none else some (10, tN (S 146 g))) ∧ (S 146 g = -1 → gI h 2 g 5 = S 147 g) ∧ (S 146 g ≠ -1 → S 147 g = 60)
def RK (nG : Nat) (h : Hp) (S : MSt) : Prop := ∃ L : List Nat, L.Nodup ∧ (∀ g, g ∈ L ↔ g < nG) ∧ L.length = nG ∧ (∀ j g, L[j]? = some g → gP h 24 0 j = some (2, g)) ∧ L.Pairwise (ltk (S 144))
/-- what no minute changes, on both sides -/
def Stc (nS nT nU nG : Nat) (h : Hp) (S : MSt) : Prop := (gI h 11 0 1 = nJ nS ∧ gI h 11 0 3 = nJ nT ∧ gI h 11 0 5 = nJ nU ∧ gI h 11 0 8 = nJ nG ∧ gI h 11 0 15 = S 12 25) ∧ (∀ s, s < nS → RSs h S s) ∧ (∀ t, t < nT → RTs h S t) ∧ (∀ u, u < nU → RUs h S u) ∧ (∀ g, g < nG → GS h S g) ∧ RK nG h S
theorem Stc.keep {nS nT nU nG : Nat} {h h' : Hp} {S S' : MSt} (st : Stc nS nT nU nG h S) (f : Kx h h') (e : Sf S S') : Stc nS nT nU nG h' S' := by
  have x := f.2.2
  obtain ⟨⟨c1, c2, c3, c4, c5⟩, hs, ht, hu, hg, L, l1, l2, l3, l4, l5⟩ := st
  refine ⟨⟨(x 11 0 1 rfl).1.trans c1, (x 11 0 3 rfl).1.trans c2, (x 11 0 5 rfl).1.trans c3, (x 11 0 8 rfl).1.trans c4, ((x 11 0 15 rfl).1.trans c5).trans (e 12 25 rfl).symm⟩, fun s h => ?_, fun t h => ?_, fun u h => ?_, fun g h => ?_, ?_⟩
  · have := hs s h
    unfold RSs at this ⊢
    rw [(x 20 0 s rfl).2, (x 6 s 0 rfl).1, (x 6 s 1 rfl).1, (x 6 s 2 rfl).1, (x 6 s 3 rfl).1, e 127 s rfl, e 128 s rfl, e 129 s rfl]; exact this
  · have := ht t h
    unfold RTs at this ⊢
    rw [(x 21 0 t rfl).2, (x 8 t 0 rfl).1, (x 8 t 2 rfl).1, (x 8 t 1 rfl).2, e 132 t rfl, e 131 t rfl]; exact this
  · have := hu u h
    unfold RUs at this ⊢
    rw [(x 22 0 u rfl).2, (x 10 u 0 rfl).1, (x 10 u 1 rfl).1, (x 10 u 2 rfl).1, (x 10 u 3 rfl).1, e 136 u rfl, e 137 u rfl, e 138 u rfl, e 139 u rfl]; exact this
  · have := hg g h
    unfold GS at this ⊢
    rw [(x 23 0 g rfl).2, (x 2 g 0 rfl).2, (x 2 g 1 rfl).1, (x 2 g 2 rfl).1, (x 2 g 3 rfl).1, (x 2 g 4 rfl).2, (x 2 g 5 rfl).1, e 142 g rfl, e 143 g rfl, e 144 g rfl, e 145 g rfl, e 146 g rfl, e 147 g rfl]; exact this
  · refine ⟨L, l1, l2, l3, fun j g hj => (x 24 0 j rfl).2.trans (l4 j g hj), ?_⟩
    have : S' 144 = S 144 := by funext i; exact e 144 i rfl
    rw [this]; exact l5
/-! the parts that a minute changes -/
def GD (nT i : Nat) (h : Hp) (S : MSt) (g : Nat) : Prop := gI h 2 g 6 = S 148 g ∧ gP h 2 g 7 = (if S 148 g = 1 then some (8, tN (S 149 g)) else none) ∧ gI h 2 g 8 = S 151 g ∧ gI h 2 g 10 = S 152 g ∧ gI h 2 g 11 = S 153 g ∧ (S 148 g = 4 → gI h 2 g 12 = S 154 g) ∧
  (S 148 g = 2 → S 150 g = -1 → gI h 2 g 13 = S 136 (tN (S 146 g)) ∧ S 146 g ≠ -1 ∧ S 12 24 ≤ S 136 (tN (S 146 g)) ∧ (tN (S 146 g) < i → S 12 24 < S 136 (tN (S 146 g)))) ∧ (S 148 g = 2 → S 150 g ≠ -1 → gI h 2 g 13 = S 150 g) ∧
  (S 148 g = 1 → ∃ t, t < nT ∧ S 149 g = nJ t ∧ S 131 t = S 142 g) ∧ (S 148 g ≠ 1 → S 149 g = -1) ∧ (S 148 g ≠ 4 → S 154 g = -1)
theorem GD.keep {nT i : Nat} {h h' : Hp} {S S' : MSt} {g : Nat} (d : GD nT i h S g) (e : Sf S S') (hn : S' 12 24 = S 12 24) (hI : ∀ s, 6 ≤ s → gI h' 2 g s = gI h 2 g s) (hP : gP h' 2 g 7 = gP h 2 g 7) (hS : ∀ k, 148 ≤ k → k ≤ 154 → S' k g = S k g) : GD nT i h' S' g := by
  unfold GD at d ⊢
  rw [hI 6 (by omega), hI 8 (by omega), hI 10 (by omega), hI 11 (by omega), hI 12 (by omega), hI 13 (by omega), hP, hS 148 (by omega) (by omega), hS 149 (by omega) (by omega), hS 150 (by omega) (by omega), hS 151 (by omega) (by omega), hS 152 (by omega) (by omega), hS 153 (by omega) (by omega), hS 154 (by omega) (by omega), hn, e 146 g rfl, e 142 g rfl]
  simp only [e 136 _ rfl, e 131 _ rfl]
  exact d
def RTd (h : Hp) (S : MSt) (t : Nat) : Prop := gI h 8 t 3 = S 133 t ∧ gI h 8 t 4 = (if S 133 t = 1 ∨ S 133 t = 3 then S 134 t else 0)
def RCd (h : Hp) (S : MSt) : Prop := gI h 11 0 14 = S 12 24 ∧ gI h 11 0 16 = S 12 56 ∧ gI h 11 0 17 = S 12 55
def inT (S : MSt) (t g : Nat) : Prop := S 148 g = 1 ∧ S 149 g = nJ t
def Ld (nG : Nat) (h : Hp) (S : MSt) (t : Nat) : Prop := gI h 8 t 5 = gIn nG S (nJ t)
def Vl (nG : Nat) (S : MSt) (t : Nat) : Prop := (S 133 t = 0 ∨ S 133 t = 2) → ∀ g, g < nG → ¬ inT S t g
def qst (S : MSt) (g : Nat) : Prop := S 148 g = 4 ∨ S 148 g = 5 ∨ S 148 g = 6 ∨ (S 148 g = 1 ∧ S 133 (tN (S 149 g)) ≠ 0 ∧ S 133 (tN (S 149 g)) ≠ 1)
def RQ (nG c : Nat) (h : Hp) (S : MSt) : Prop := ∃ L : List Nat, gI h 11 0 10 = nJ L.length ∧ L.Nodup ∧ (∀ g, g ∈ L → g < nG ∧ qst S g) ∧ (∀ g, g < nG → S 148 g = 4 → g ∈ L) ∧ (∀ j g, L[j]? = some g → gP h 25 0 j = some (2, g)) ∧ L.Pairwise (fun a b => S 148 a = 4 → S 148 b = 4 → ltk (S 154) a b) ∧ (∀ a, a ∈ L → S 148 a = 4 → S 154 a < S 12 24 ∨ (S 154 a = S 12 24 ∧ a < c))
def Bd (nS nT nU nG i c : Nat) (h : Hp) (S : MSt) : Prop := WM nS nT nU nG S ∧ Stc nS nT nU nG h S ∧ RCd h S ∧ (∀ g, g < nG → GD nT i h S g) ∧ (∀ t, t < nT → RTd h S t) ∧ (∀ t, t < nT → Ld nG h S t) ∧ (∀ t, t < nT → Vl nG S t) ∧ (∀ u, u < nU → gI h 10 u 4 = S 140 u) ∧ RQ nG c h S
section
variable {nS nT nU nG i c : Nat} {h : Hp} {S : MSt}
theorem Bd.wm (b : Bd nS nT nU nG i c h S) : WM nS nT nU nG S := b.1
theorem Bd.st (b : Bd nS nT nU nG i c h S) : Stc nS nT nU nG h S := b.2.1
theorem Bd.rcd (b : Bd nS nT nU nG i c h S) : RCd h S := b.2.2.1
theorem Bd.gd (b : Bd nS nT nU nG i c h S) : ∀ g, g < nG → GD nT i h S g := b.2.2.2.1
theorem Bd.td (b : Bd nS nT nU nG i c h S) : ∀ t, t < nT → RTd h S t := b.2.2.2.2.1
theorem Bd.ld (b : Bd nS nT nU nG i c h S) : ∀ t, t < nT → Ld nG h S t := b.2.2.2.2.2.1
theorem Bd.vl (b : Bd nS nT nU nG i c h S) : ∀ t, t < nT → Vl nG S t := b.2.2.2.2.2.2.1
theorem Bd.ud (b : Bd nS nT nU nG i c h S) : ∀ u, u < nU → gI h 10 u 4 = S 140 u := b.2.2.2.2.2.2.2.1
theorem Bd.rq (b : Bd nS nT nU nG i c h S) : RQ nG c h S := b.2.2.2.2.2.2.2.2
end
theorem us_comm {S : MSt} {k i k' i' : Nat} {v v' : Int32} (hk : k ≠ k') : us (us S k i v) k' i' v' = us (us S k' i' v') k i v := by
  funext a b
  simp only [us_app]
  by_cases c1 : a = k' ∧ b = i'
  · have : ¬ (a = k ∧ b = i) := fun z => hk (z.1.symm.trans c1.1)
    rw [if_pos c1, if_neg this, if_pos c1]
  · rw [if_neg c1, if_neg c1]
theorem gIn_congr {nG : Nat} {S S' : MSt} {a : Int32} (h : ∀ g, g < nG → ((S' 148 g = 1 ∧ S' 149 g = a) ↔ (S 148 g = 1 ∧ S 149 g = a)) ∧ S' 143 g = S 143 g) : gIn nG S' a = gIn nG S a :=
  sm_congr fun g hg => by
    by_cases c : S 148 g = 1 ∧ S 149 g = a
    · rw [if_pos c, if_pos ((h g hg).1.mpr c), (h g hg).2]
    · rw [if_neg c, if_neg (fun z => c ((h g hg).1.mp z))]
theorem sm_0 {f : Nat → Int32} : ∀ {n : Nat}, (∀ i, i < n → f i = 0) → sm f n = 0
  | 0, _ => rfl
  | n + 1, h => by rw [sm, sm_0 fun i hi => h i (by omega), h n (by omega)]; rfl
theorem gIn_0 {nG : Nat} {S : MSt} {a : Int32} (h : ∀ g, g < nG → ¬ (S 148 g = 1 ∧ S 149 g = a)) : gIn nG S a = 0 := sm_0 fun g hg => if_neg (h g hg)
