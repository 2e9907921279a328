def w_X7_has_18 (Q : Int32 → Hp → Prop) (p1 : Option PtrT) (a2 : Int32) (a3 : Int32) (h : Hp) : Prop := Q ((0 : Int32)) (h)
def w_X7_has_55 (Q : Int32 → Hp → Prop) (p1 : Option PtrT) (a2 : Int32) (a3 : Int32) (a4 : Int32) (h : Hp) : Prop := Q ((1 : Int32)) (h)
def w_X7_has_49 (K23 : Option PtrT → Int32 → Int32 → Int32 → Hp → Prop) (Q : Int32 → Hp → Prop) (p1 : Option PtrT) (a2 : Int32) (a3 : Int32) (a4 : Int32) (h : Hp) : Prop := K23 (p1) (a2) (a3) (a4 + 1) (h)
def w_X7_has_47 (Q : Int32 → Hp → Prop) (p1 : Option PtrT) (a2 : Int32) (a3 : Int32) (a4 : Int32) (h : Hp) : Prop := Q ((0 : Int32)) (h)
def w_X7_has_35 (K23 : Option PtrT → Int32 → Int32 → Int32 → Hp → Prop) (Q : Int32 → Hp → Prop) (p1 : Option PtrT) (a2 : Int32) (a3 : Int32) (a4 : Int32) (s0 : Int32) (h : Hp) : Prop := vp_in ((a2) + (a4)) 600 ∧ (((s0) = (gI (h) 32 (0) (tN ((a2) + (a4)))) → w_X7_has_49 K23 Q (p1) (a2) (a3) (a4) (h)) ∧ (¬ (s0) = (gI (h) 32 (0) (tN ((a2) + (a4)))) → w_X7_has_47  Q (p1) (a2) (a3) (a4) (h)))
def w_X7_has_29 (K23 : Option PtrT → Int32 → Int32 → Int32 → Hp → Prop) (Q : Int32 → Hp → Prop) (i1 : Nat) (a2 : Int32) (a3 : Int32) (a4 : Int32) (h : Hp) : Prop := wp_S_charAt (i1) (a4) (h) (fun r2 h2 => w_X7_has_35 K23 Q (some (60, i1)) (a2) (a3) (a4) (r2) (h2))
def w_X7_has_23 (Q : Int32 → Hp → Prop) : Nat → Option PtrT → Int32 → Int32 → Int32 → Hp → Prop
  | 0 => fun _ _ _ _ _ => False
  | N + 1 => fun p1 a2 a3 a4 h => ((a3) ≤ (a4) → w_X7_has_55  Q (p1) (a2) (a3) (a4) (h)) ∧ (¬ (a3) ≤ (a4) → ∃ zl1, p1 = some (60, zl1) ∧ (w_X7_has_29 (w_X7_has_23  Q N) Q zl1 (a2) (a3) (a4) (h)))
def w_X7_has_20 (Q : Int32 → Hp → Prop) (p1 : Option PtrT) (a2 : Int32) (a3 : Int32) (h : Hp) : Prop := ∃ N, w_X7_has_23  Q N (p1) (a2) (a3) ((0 : Int32)) (h)
def w_X7_has_8 (Q : Int32 → Hp → Prop) (p1 : Option PtrT) (a2 : Int32) (a3 : Int32) (h : Hp) : Prop := (((a2) + (a3)) ≤ (gI (h) 7 (0) (1)) → w_X7_has_20  Q (p1) (a2) (a3) (h)) ∧ (¬ ((a2) + (a3)) ≤ (gI (h) 7 (0) (1)) → w_X7_has_18  Q (p1) (a2) (a3) (h))
def w_X7_has_4 (Q : Int32 → Hp → Prop) (p1 : Option PtrT) (a2 : Int32) (a3 : Int32) (s0 : Int32) (h : Hp) : Prop := (¬ (s0) = (a3) → w_X7_has_18  Q (p1) (a2) (a3) (h)) ∧ ((s0) = (a3) → w_X7_has_8  Q (p1) (a2) (a3) (h))
def w_X7_has_0 (Q : Int32 → Hp → Prop) (i1 : Nat) (a2 : Int32) (a3 : Int32) (h : Hp) : Prop := wp_S_length (i1) (h) (fun r2 h2 => w_X7_has_4  Q (some (60, i1)) (a2) (a3) (r2) (h2))
theorem s_X7_has_18 {E : EnvT} {d : Nat} (cx : CX E "ShoreDay$Tape" cX7_has 5 (some .boolean) "has" (d + 5) 0 0) (hY : eY E = lay1) {Q : Int32 → Hp → Prop} (eq : EQ E 0 0 (fun r h2 => ∃ x, r = [vI x] ∧ Q x h2)) {p1 : Option PtrT} {a2 : Int32} {a3 : Int32} {x4 : Option AVal} {h : Hp} {c n : Nat} (hc : c + 0 ≤ 0) (hn : n + 0 ≤ 0) (w : w_X7_has_18  Q p1 a2 a3 h) : SW E 18 ([some (vP (some (7, 0))), some (vP (p1)), some (vI (a2)), some (vI (a3)), x4], [], h, c, n) := by
  exact k_X7_has_18 cx hY eq (by omega) (by omega) ⟨_, rfl, w⟩
theorem s_X7_has_55 {E : EnvT} {d : Nat} (cx : CX E "ShoreDay$Tape" cX7_has 5 (some .boolean) "has" (d + 5) 0 0) (hY : eY E = lay1) {Q : Int32 → Hp → Prop} (eq : EQ E 0 0 (fun r h2 => ∃ x, r = [vI x] ∧ Q x h2)) {p1 : Option PtrT} {a2 : Int32} {a3 : Int32} {a4 : Int32} {h : Hp} {c n : Nat} (hc : c + 0 ≤ 0) (hn : n + 0 ≤ 0) (w : w_X7_has_55  Q p1 a2 a3 a4 h) : SW E 55 ([some (vP (some (7, 0))), some (vP (p1)), some (vI (a2)), some (vI (a3)), some (vI (a4))], [], h, c, n) := by
  exact k_X7_has_55 cx hY eq (by omega) (by omega) ⟨_, rfl, w⟩
theorem s_X7_has_49 {E : EnvT} {d : Nat} (cx : CX E "ShoreDay$Tape" cX7_has 5 (some .boolean) "has" (d + 5) 0 0) (hY : eY E = lay1) {Q : Int32 → Hp → Prop} (eq : EQ E 0 0 (fun r h2 => ∃ x, r = [vI x] ∧ Q x h2)) {K23 : Option PtrT → Int32 → Int32 → Int32 → Hp → Prop} (hK23 : ∀ (p1 : Option PtrT) (a2 : Int32) (a3 : Int32) (a4 : Int32) (h : Hp) (c n : Nat), c + 0 ≤ 0 → n + 0 ≤ 0 → K23 p1 a2 a3 a4 h → SW E 23 ([some (vP (some (7, 0))), some (vP (p1)), some (vI (a2)), some (vI (a3)), some (vI (a4))], [], h, c, n)) {p1 : Option PtrT} {a2 : Int32} {a3 : Int32} {a4 : Int32} {h : Hp} {c n : Nat} (hc : c + 0 ≤ 0) (hn : n + 0 ≤ 0) (w : w_X7_has_49 K23 Q p1 a2 a3 a4 h) : SW E 49 ([some (vP (some (7, 0))), some (vP (p1)), some (vI (a2)), some (vI (a3)), some (vI (a4))], [], h, c, n) := by
  refine k_X7_has_49 cx hY ?_
  exact hK23 _ _ _ _ _ _ _ (by omega) (by omega) w
theorem s_X7_has_47 {E : EnvT} {d : Nat} (cx : CX E "ShoreDay$Tape" cX7_has 5 (some .boolean) "has" (d + 5) 0 0) (hY : eY E = lay1) {Q : Int32 → Hp → Prop} (eq : EQ E 0 0 (fun r h2 => ∃ x, r = [vI x] ∧ Q x h2)) {p1 : Option PtrT} {a2 : Int32} {a3 : Int32} {a4 : Int32} {h : Hp} {c n : Nat} (hc : c + 0 ≤ 0) (hn : n + 0 ≤ 0) (w : w_X7_has_47  Q p1 a2 a3 a4 h) : SW E 47 ([some (vP (some (7, 0))), some (vP (p1)), some (vI (a2)), some (vI (a3)), some (vI (a4))], [], h, c, n) := by
  exact k_X7_has_47 cx hY eq (by omega) (by omega) ⟨_, rfl, w⟩
theorem s_X7_has_35 {E : EnvT} {d : Nat} (cx : CX E "ShoreDay$Tape" cX7_has 5 (some .boolean) "has" (d + 5) 0 0) (hY : eY E = lay1) {Q : Int32 → Hp → Prop} (eq : EQ E 0 0 (fun r h2 => ∃ x, r = [vI x] ∧ Q x h2)) {K23 : Option PtrT → Int32 → Int32 → Int32 → Hp → Prop} (hK23 : ∀ (p1 : Option PtrT) (a2 : Int32) (a3 : Int32) (a4 : Int32) (h : Hp) (c n : Nat), c + 0 ≤ 0 → n + 0 ≤ 0 → K23 p1 a2 a3 a4 h → SW E 23 ([some (vP (some (7, 0))), some (vP (p1)), some (vI (a2)), some (vI (a3)), some (vI (a4))], [], h, c, n)) {p1 : Option PtrT} {a2 : Int32} {a3 : Int32} {a4 : Int32} {s0 : Int32} {h : Hp} {c n : Nat} (hc : c + 0 ≤ 0) (hn : n + 0 ≤ 0) (w : w_X7_has_35 K23 Q p1 a2 a3 a4 s0 h) : SW E 35 ([some (vP (some (7, 0))), some (vP (p1)), some (vI (a2)), some (vI (a3)), some (vI (a4))], [vI (s0)], h, c, n) := by
  obtain ⟨G1, w⟩ := w
  refine k_X7_has_35 cx hY G1 (fun q => ?_) (fun q => ?_)
  · have w := w.1 q
    exact s_X7_has_49 cx hY eq hK23 (by omega) (by omega) w
  · have w := w.2 q
    exact s_X7_has_47 cx hY eq  (by omega) (by omega) w
theorem s_X7_has_29 {E : EnvT} {d : Nat} (cx : CX E "ShoreDay$Tape" cX7_has 5 (some .boolean) "has" (d + 5) 0 0) (hY : eY E = lay1) {Q : Int32 → Hp → Prop} (eq : EQ E 0 0 (fun r h2 => ∃ x, r = [vI x] ∧ Q x h2)) {K23 : Option PtrT → Int32 → Int32 → Int32 → Hp → Prop} (hK23 : ∀ (p1 : Option PtrT) (a2 : Int32) (a3 : Int32) (a4 : Int32) (h : Hp) (c n : Nat), c + 0 ≤ 0 → n + 0 ≤ 0 → K23 p1 a2 a3 a4 h → SW E 23 ([some (vP (some (7, 0))), some (vP (p1)), some (vI (a2)), some (vI (a3)), some (vI (a4))], [], h, c, n)) {i1 : Nat} {a2 : Int32} {a3 : Int32} {a4 : Int32} {h : Hp} {c n : Nat} (hc : c + 0 ≤ 0) (hn : n + 0 ≤ 0) (w : w_X7_has_29 K23 Q i1 a2 a3 a4 h) : SW E 29 ([some (vP (some (7, 0))), some (vP (some (60, i1))), some (vI (a2)), some (vI (a3)), some (vI (a4))], [], h, c, n) := by
  refine k_X7_has_29 cx hY w.1 (ctY hY (vc_S_charAt (d := d + 0) w)) (by omega) (by omega) (by omega) (fun r h2 hp => ?_)
  obtain ⟨r2, rfl, w⟩ := hp
  exact s_X7_has_35 cx hY eq hK23 (by omega) (by omega) w
theorem s_X7_has_23 {E : EnvT} {d : Nat} (cx : CX E "ShoreDay$Tape" cX7_has 5 (some .boolean) "has" (d + 5) 0 0) (hY : eY E = lay1) {Q : Int32 → Hp → Prop} (eq : EQ E 0 0 (fun r h2 => ∃ x, r = [vI x] ∧ Q x h2)) : ∀ (N : Nat) (p1 : Option PtrT) (a2 : Int32) (a3 : Int32) (a4 : Int32) (h : Hp) (c n : Nat), c + 0 ≤ 0 → n + 0 ≤ 0 → w_X7_has_23  Q N p1 a2 a3 a4 h → SW E 23 ([some (vP (some (7, 0))), some (vP (p1)), some (vI (a2)), some (vI (a3)), some (vI (a4))], [], h, c, n) := by
  intro N
  induction N with
  | zero =>
    intro _ _ _ _ h c n _ _ w
    exact w.elim
  | succ N ih =>
    intro p1 a2 a3 a4 h c n hc hn w
    refine k_X7_has_23 cx hY (fun q => ?_) (fun q => ?_)
    · have w := w.1 q
      exact s_X7_has_55 cx hY eq  (by omega) (by omega) w
    · have w := w.2 q
      obtain ⟨zl1, ezl1, w⟩ := w
      rw [ezl1]
      exact s_X7_has_29 cx hY eq ih (by omega) (by omega) w
theorem s_X7_has_20 {E : EnvT} {d : Nat} (cx : CX E "ShoreDay$Tape" cX7_has 5 (some .boolean) "has" (d + 5) 0 0) (hY : eY E = lay1) {Q : Int32 → Hp → Prop} (eq : EQ E 0 0 (fun r h2 => ∃ x, r = [vI x] ∧ Q x h2)) {p1 : Option PtrT} {a2 : Int32} {a3 : Int32} {x4 : Option AVal} {h : Hp} {c n : Nat} (hc : c + 0 ≤ 0) (hn : n + 0 ≤ 0) (w : w_X7_has_20  Q p1 a2 a3 h) : SW E 20 ([some (vP (some (7, 0))), some (vP (p1)), some (vI (a2)), some (vI (a3)), x4], [], h, c, n) := by
  refine k_X7_has_20 cx hY ?_
  obtain ⟨N1, w⟩ := w
  exact s_X7_has_23 cx hY eq  _ _ _ _ _ _ _ _ (by omega) (by omega) w
theorem s_X7_has_8 {E : EnvT} {d : Nat} (cx : CX E "ShoreDay$Tape" cX7_has 5 (some .boolean) "has" (d + 5) 0 0) (hY : eY E = lay1) {Q : Int32 → Hp → Prop} (eq : EQ E 0 0 (fun r h2 => ∃ x, r = [vI x] ∧ Q x h2)) {p1 : Option PtrT} {a2 : Int32} {a3 : Int32} {x4 : Option AVal} {h : Hp} {c n : Nat} (hc : c + 0 ≤ 0) (hn : n + 0 ≤ 0) (w : w_X7_has_8  Q p1 a2 a3 h) : SW E 8 ([some (vP (some (7, 0))), some (vP (p1)), some (vI (a2)), some (vI (a3)), x4], [], h, c, n) := by
  refine k_X7_has_8 cx hY (fun q => ?_) (fun q => ?_)
  · have w := w.1 q
    exact s_X7_has_20 cx hY eq  (by omega) (by omega) w
  · have w := w.2 q
    exact s_X7_has_18 cx hY eq  (by omega) (by omega) w
theorem s_X7_has_4 {E : EnvT} {d : Nat} (cx : CX E "ShoreDay$Tape" cX7_has 5 (some .boolean) "has" (d + 5) 0 0) (hY : eY E = lay1) {Q : Int32 → Hp → Prop} (eq : EQ E 0 0 (fun r h2 => ∃ x, r = [vI x] ∧ Q x h2)) {p1 : Option PtrT} {a2 : Int32} {a3 : Int32} {x4 : Option AVal} {s0 : Int32} {h : Hp} {c n : Nat} (hc : c + 0 ≤ 0) (hn : n + 0 ≤ 0) (w : w_X7_has_4  Q p1 a2 a3 s0 h) : SW E 4 ([some (vP (some (7, 0))), some (vP (p1)), some (vI (a2)), some (vI (a3)), x4], [vI (s0)], h, c, n) := by
  refine k_X7_has_4 cx hY (fun q => ?_) (fun q => ?_)
  · have w := w.1 q
    exact s_X7_has_18 cx hY eq  (by omega) (by omega) w
  · have w := w.2 q
    exact s_X7_has_8 cx hY eq  (by omega) (by omega) w
theorem s_X7_has_0 {E : EnvT} {d : Nat} (cx : CX E "ShoreDay$Tape" cX7_has 5 (some .boolean) "has" (d + 5) 0 0) (hY : eY E = lay1) {Q : Int32 → Hp → Prop} (eq : EQ E 0 0 (fun r h2 => ∃ x, r = [vI x] ∧ Q x h2)) {i1 : Nat} {a2 : Int32} {a3 : Int32} {x4 : Option AVal} {h : Hp} {c n : Nat} (hc : c + 0 ≤ 0) (hn : n + 0 ≤ 0) (w : w_X7_has_0  Q i1 a2 a3 h) : SW E 0 ([some (vP (some (7, 0))), some (vP (some (60, i1))), some (vI (a2)), some (vI (a3)), x4], [], h, c, n) := by
  refine k_X7_has_0 cx hY w.1 (ctY hY (vc_S_length (d := d + 2) w)) (by omega) (by omega) (by omega) (fun r h2 hp => ?_)
  obtain ⟨r2, rfl, w⟩ := hp
  exact s_X7_has_4 cx hY eq  (by omega) (by omega) w
def wp_X7_has (p1 : Option PtrT) (a2 : Int32) (a3 : Int32) (h : Hp) (Q : Int32 → Hp → Prop) : Prop := ∃ i1, p1 = some (60, i1) ∧ (w_X7_has_0 Q i1 a2 a3 h)
theorem vc_X7_has {l : Launch} {d : Nat} {p1 : Option PtrT} {a2 : Int32} {a3 : Int32} {h : Hp} {Q : Int32 → Hp → Prop} (w : wp_X7_has p1 a2 a3 h Q) : Ct l lay1 yX7_has cX7_has 5 (some .boolean) (d + 5) 0 0 [vP (some (7, 0)), vP p1, vI a2, vI a3] h (fun r h2 => ∃ x, r = [vI x] ∧ Q x h2) := by
  obtain ⟨i1, rfl, w⟩ := w; exact Ct.of (by decide) (Nat.le_of_ble_eq_true rfl) fun E cx eq hl hY => s_X7_has_0 cx hY eq (Nat.le_refl _) (Nat.le_refl _) w
def w_X9_wordKind_126 (Q : Int32 → Hp → Prop) (a1 : Int32) (a2 : Int32) (s0 : Int32) (h : Hp) : Prop := Q (s0) (h)
def w_X9_wordKind_125 (Q : Int32 → Hp → Prop) (a1 : Int32) (a2 : Int32) (h : Hp) : Prop := w_X9_wordKind_126  Q (a1) (a2) ((0 : Int32)) (h)
def w_X9_wordKind_120 (Q : Int32 → Hp → Prop) (a1 : Int32) (a2 : Int32) (h : Hp) : Prop := w_X9_wordKind_126  Q (a1) (a2) ((18 : Int32)) (h)
def w_X9_wordKind_117 (Q : Int32 → Hp → Prop) (a1 : Int32) (a2 : Int32) (s0 : Int32) (h : Hp) : Prop := ((s0) = 0 → w_X9_wordKind_125  Q (a1) (a2) (h)) ∧ (¬ (s0) = 0 → w_X9_wordKind_120  Q (a1) (a2) (h))
def w_X9_wordKind_109 (Q : Int32 → Hp → Prop) (a1 : Int32) (a2 : Int32) (h : Hp) : Prop := wp_X7_has (some (60, 8)) (a1) (a2) (h) (fun r2 h2 => w_X9_wordKind_117  Q (a1) (a2) (r2) (h2))
def w_X9_wordKind_106 (Q : Int32 → Hp → Prop) (a1 : Int32) (a2 : Int32) (h : Hp) : Prop := Q ((17 : Int32)) (h)
def w_X9_wordKind_103 (Q : Int32 → Hp → Prop) (a1 : Int32) (a2 : Int32) (s0 : Int32) (h : Hp) : Prop := ((s0) = 0 → w_X9_wordKind_109  Q (a1) (a2) (h)) ∧ (¬ (s0) = 0 → w_X9_wordKind_106  Q (a1) (a2) (h))
def w_X9_wordKind_95 (Q : Int32 → Hp → Prop) (a1 : Int32) (a2 : Int32) (h : Hp) : Prop := wp_X7_has (some (60, 7)) (a1) (a2) (h) (fun r2 h2 => w_X9_wordKind_103  Q (a1) (a2) (r2) (h2))
def w_X9_wordKind_92 (Q : Int32 → Hp → Prop) (a1 : Int32) (a2 : Int32) (h : Hp) : Prop := Q ((16 : Int32)) (h)
def w_X9_wordKind_89 (Q : Int32 → Hp → Prop) (a1 : Int32) (a2 : Int32) (s0 : Int32) (h : Hp) : Prop := ((s0) = 0 → w_X9_wordKind_95  Q (a1) (a2) (h)) ∧ (¬ (s0) = 0 → w_X9_wordKind_92  Q (a1) (a2) (h))
def w_X9_wordKind_81 (Q : Int32 → Hp → Prop) (a1 : Int32) (a2 : Int32) (h : Hp) : Prop := wp_X7_has (some (60, 6)) (a1) (a2) (h) (fun r2 h2 => w_X9_wordKind_89  Q (a1) (a2) (r2) (h2))
def w_X9_wordKind_78 (Q : Int32 → Hp → Prop) (a1 : Int32) (a2 : Int32) (h : Hp) : Prop := Q ((15 : Int32)) (h)
def w_X9_wordKind_75 (Q : Int32 → Hp → Prop) (a1 : Int32) (a2 : Int32) (s0 : Int32) (h : Hp) : Prop := ((s0) = 0 → w_X9_wordKind_81  Q (a1) (a2) (h)) ∧ (¬ (s0) = 0 → w_X9_wordKind_78  Q (a1) (a2) (h))
def w_X9_wordKind_67 (Q : Int32 → Hp → Prop) (a1 : Int32) (a2 : Int32) (h : Hp) : Prop := wp_X7_has (some (60, 5)) (a1) (a2) (h) (fun r2 h2 => w_X9_wordKind_75  Q (a1) (a2) (r2) (h2))
def w_X9_wordKind_64 (Q : Int32 → Hp → Prop) (a1 : Int32) (a2 : Int32) (h : Hp) : Prop := Q ((14 : Int32)) (h)
def w_X9_wordKind_61 (Q : Int32 → Hp → Prop) (a1 : Int32) (a2 : Int32) (s0 : Int32) (h : Hp) : Prop := ((s0) = 0 → w_X9_wordKind_67  Q (a1) (a2) (h)) ∧ (¬ (s0) = 0 → w_X9_wordKind_64  Q (a1) (a2) (h))
def w_X9_wordKind_53 (Q : Int32 → Hp → Prop) (a1 : Int32) (a2 : Int32) (h : Hp) : Prop := wp_X7_has (some (60, 4)) (a1) (a2) (h) (fun r2 h2 => w_X9_wordKind_61  Q (a1) (a2) (r2) (h2))
def w_X9_wordKind_50 (Q : Int32 → Hp → Prop) (a1 : Int32) (a2 : Int32) (h : Hp) : Prop := Q ((13 : Int32)) (h)
def w_X9_wordKind_47 (Q : Int32 → Hp → Prop) (a1 : Int32) (a2 : Int32) (s0 : Int32) (h : Hp) : Prop := ((s0) = 0 → w_X9_wordKind_53  Q (a1) (a2) (h)) ∧ (¬ (s0) = 0 → w_X9_wordKind_50  Q (a1) (a2) (h))
def w_X9_wordKind_39 (Q : Int32 → Hp → Prop) (a1 : Int32) (a2 : Int32) (h : Hp) : Prop := wp_X7_has (some (60, 3)) (a1) (a2) (h) (fun r2 h2 => w_X9_wordKind_47  Q (a1) (a2) (r2) (h2))
def w_X9_wordKind_37 (Q : Int32 → Hp → Prop) (a1 : Int32) (a2 : Int32) (h : Hp) : Prop := Q ((5 : Int32)) (h)
def w_X9_wordKind_34 (Q : Int32 → Hp → Prop) (a1 : Int32) (a2 : Int32) (s0 : Int32) (h : Hp) : Prop := ((s0) = 0 → w_X9_wordKind_39  Q (a1) (a2) (h)) ∧ (¬ (s0) = 0 → w_X9_wordKind_37  Q (a1) (a2) (h))
def w_X9_wordKind_26 (Q : Int32 → Hp → Prop) (a1 : Int32) (a2 : Int32) (h : Hp) : Prop := wp_X7_has (some (60, 2)) (a1) (a2) (h) (fun r2 h2 => w_X9_wordKind_34  Q (a1) (a2) (r2) (h2))
def w_X9_wordKind_24 (Q : Int32 → Hp → Prop) (a1 : Int32) (a2 : Int32) (h : Hp) : Prop := Q ((4 : Int32)) (h)
def w_X9_wordKind_21 (Q : Int32 → Hp → Prop) (a1 : Int32) (a2 : Int32) (s0 : Int32) (h : Hp) : Prop := ((s0) = 0 → w_X9_wordKind_26  Q (a1) (a2) (h)) ∧ (¬ (s0) = 0 → w_X9_wordKind_24  Q (a1) (a2) (h))
def w_X9_wordKind_13 (Q : Int32 → Hp → Prop) (a1 : Int32) (a2 : Int32) (h : Hp) : Prop := wp_X7_has (some (60, 1)) (a1) (a2) (h) (fun r2 h2 => w_X9_wordKind_21  Q (a1) (a2) (r2) (h2))
def w_X9_wordKind_11 (Q : Int32 → Hp → Prop) (a1 : Int32) (a2 : Int32) (h : Hp) : Prop := Q ((3 : Int32)) (h)
def w_X9_wordKind_8 (Q : Int32 → Hp → Prop) (a1 : Int32) (a2 : Int32) (s0 : Int32) (h : Hp) : Prop := ((s0) = 0 → w_X9_wordKind_13  Q (a1) (a2) (h)) ∧ (¬ (s0) = 0 → w_X9_wordKind_11  Q (a1) (a2) (h))
def w_X9_wordKind_0 (Q : Int32 → Hp → Prop) (a1 : Int32) (a2 : Int32) (h : Hp) : Prop := wp_X7_has (some (60, 0)) (a1) (a2) (h) (fun r2 h2 => w_X9_wordKind_8  Q (a1) (a2) (r2) (h2))
theorem s_X9_wordKind_126 {E : EnvT} {d : Nat} (cx : CX E "ShoreDay$Tokens" cX9_wordKind 3 (some .int) "wordKind" (d + 6) 0 0) (hY : eY E = lay1) {Q : Int32 → Hp → Prop} (eq : EQ E 0 0 (fun r h2 => ∃ x, r = [vI x] ∧ Q x h2)) {a1 : Int32} {a2 : Int32} {s0 : Int32} {h : Hp} {c n : Nat} (hc : c + 0 ≤ 0) (hn : n + 0 ≤ 0) (w : w_X9_wordKind_126  Q a1 a2 s0 h) : SW E 126 ([some (vP (some (7, 0))), some (vI (a1)), some (vI (a2))], [vI (s0)], h, c, n) := by
  exact k_X9_wordKind_126 cx hY eq (by omega) (by omega) ⟨_, rfl, w⟩
theorem s_X9_wordKind_125 {E : EnvT} {d : Nat} (cx : CX E "ShoreDay$Tokens" cX9_wordKind 3 (some .int) "wordKind" (d + 6) 0 0) (hY : eY E = lay1) {Q : Int32 → Hp → Prop} (eq : EQ E 0 0 (fun r h2 => ∃ x, r = [vI x] ∧ Q x h2)) {a1 : Int32} {a2 : Int32} {h : Hp} {c n : Nat} (hc : c + 0 ≤ 0) (hn : n + 0 ≤ 0) (w : w_X9_wordKind_125  Q a1 a2 h) : SW E 125 ([some (vP (some (7, 0))), some (vI (a1)), some (vI (a2))], [], h, c, n) := by
  refine k_X9_wordKind_125 cx hY ?_
  exact s_X9_wordKind_126 cx hY eq  (by omega) (by omega) w
theorem s_X9_wordKind_120 {E : EnvT} {d : Nat} (cx : CX E "ShoreDay$Tokens" cX9_wordKind 3 (some .int) "wordKind" (d + 6) 0 0) (hY : eY E = lay1) {Q : Int32 → Hp → Prop} (eq : EQ E 0 0 (fun r h2 => ∃ x, r = [vI x] ∧ Q x h2)) {a1 : Int32} {a2 : Int32} {h : Hp} {c n : Nat} (hc : c + 0 ≤ 0) (hn : n + 0 ≤ 0) (w : w_X9_wordKind_120  Q a1 a2 h) : SW E 120 ([some (vP (some (7, 0))), some (vI (a1)), some (vI (a2))], [], h, c, n) := by
  refine k_X9_wordKind_120 cx hY ?_
  exact s_X9_wordKind_126 cx hY eq  (by omega) (by omega) w
theorem s_X9_wordKind_117 {E : EnvT} {d : Nat} (cx : CX E "ShoreDay$Tokens" cX9_wordKind 3 (some .int) "wordKind" (d + 6) 0 0) (hY : eY E = lay1) {Q : Int32 → Hp → Prop} (eq : EQ E 0 0 (fun r h2 => ∃ x, r = [vI x] ∧ Q x h2)) {a1 : Int32} {a2 : Int32} {s0 : Int32} {h : Hp} {c n : Nat} (hc : c + 0 ≤ 0) (hn : n + 0 ≤ 0) (w : w_X9_wordKind_117  Q a1 a2 s0 h) : SW E 117 ([some (vP (some (7, 0))), some (vI (a1)), some (vI (a2))], [vI (s0)], h, c, n) := by
  refine k_X9_wordKind_117 cx hY (fun q => ?_) (fun q => ?_)
  · have w := w.1 q
    exact s_X9_wordKind_125 cx hY eq  (by omega) (by omega) w
  · have w := w.2 q
    exact s_X9_wordKind_120 cx hY eq  (by omega) (by omega) w
theorem s_X9_wordKind_109 {E : EnvT} {d : Nat} (cx : CX E "ShoreDay$Tokens" cX9_wordKind 3 (some .int) "wordKind" (d + 6) 0 0) (hY : eY E = lay1) {Q : Int32 → Hp → Prop} (eq : EQ E 0 0 (fun r h2 => ∃ x, r = [vI x] ∧ Q x h2)) {a1 : Int32} {a2 : Int32} {h : Hp} {c n : Nat} (hc : c + 0 ≤ 0) (hn : n + 0 ≤ 0) (w : w_X9_wordKind_109  Q a1 a2 h) : SW E 109 ([some (vP (some (7, 0))), some (vI (a1)), some (vI (a2))], [], h, c, n) := by
  refine k_X9_wordKind_109 cx hY (ctY hY (vc_X7_has (d := d + 0) w)) (by omega) (by omega) (by omega) (fun r h2 hp => ?_)
  obtain ⟨r2, rfl, w⟩ := hp
  exact s_X9_wordKind_117 cx hY eq  (by omega) (by omega) w
theorem s_X9_wordKind_106 {E : EnvT} {d : Nat} (cx : CX E "ShoreDay$Tokens" cX9_wordKind 3 (some .int) "wordKind" (d + 6) 0 0) (hY : eY E = lay1) {Q : Int32 → Hp → Prop} (eq : EQ E 0 0 (fun r h2 => ∃ x, r = [vI x] ∧ Q x h2)) {a1 : Int32} {a2 : Int32} {h : Hp} {c n : Nat} (hc : c + 0 ≤ 0) (hn : n + 0 ≤ 0) (w : w_X9_wordKind_106  Q a1 a2 h) : SW E 106 ([some (vP (some (7, 0))), some (vI (a1)), some (vI (a2))], [], h, c, n) := by
  exact k_X9_wordKind_106 cx hY eq (by omega) (by omega) ⟨_, rfl, w⟩
theorem s_X9_wordKind_103 {E : EnvT} {d : Nat} (cx : CX E "ShoreDay$Tokens" cX9_wordKind 3 (some .int) "wordKind" (d + 6) 0 0) (hY : eY E = lay1) {Q : Int32 → Hp → Prop} (eq : EQ E 0 0 (fun r h2 => ∃ x, r = [vI x] ∧ Q x h2)) {a1 : Int32} {a2 : Int32} {s0 : Int32} {h : Hp} {c n : Nat} (hc : c + 0 ≤ 0) (hn : n + 0 ≤ 0) (w : w_X9_wordKind_103  Q a1 a2 s0 h) : SW E 103 ([some (vP (some (7, 0))), some (vI (a1)), some (vI (a2))], [vI (s0)], h, c, n) := by
  refine k_X9_wordKind_103 cx hY (fun q => ?_) (fun q => ?_)
  · have w := w.1 q
    exact s_X9_wordKind_109 cx hY eq  (by omega) (by omega) w
  · have w := w.2 q
    exact s_X9_wordKind_106 cx hY eq  (by omega) (by omega) w
theorem s_X9_wordKind_95 {E : EnvT} {d : Nat} (cx : CX E "ShoreDay$Tokens" cX9_wordKind 3 (some .int) "wordKind" (d + 6) 0 0) (hY : eY E = lay1) {Q : Int32 → Hp → Prop} (eq : EQ E 0 0 (fun r h2 => ∃ x, r = [vI x] ∧ Q x h2)) {a1 : Int32} {a2 : Int32} {h : Hp} {c n : Nat} (hc : c + 0 ≤ 0) (hn : n + 0 ≤ 0) (w : w_X9_wordKind_95  Q a1 a2 h) : SW E 95 ([some (vP (some (7, 0))), some (vI (a1)), some (vI (a2))], [], h, c, n) := by
  refine k_X9_wordKind_95 cx hY (ctY hY (vc_X7_has (d := d + 0) w)) (by omega) (by omega) (by omega) (fun r h2 hp => ?_)
  obtain ⟨r2, rfl, w⟩ := hp
  exact s_X9_wordKind_103 cx hY eq  (by omega) (by omega) w
theorem s_X9_wordKind_92 {E : EnvT} {d : Nat} (cx : CX E "ShoreDay$Tokens" cX9_wordKind 3 (some .int) "wordKind" (d + 6) 0 0) (hY : eY E = lay1) {Q : Int32 → Hp → Prop} (eq : EQ E 0 0 (fun r h2 => ∃ x, r = [vI x] ∧ Q x h2)) {a1 : Int32} {a2 : Int32} {h : Hp} {c n : Nat} (hc : c + 0 ≤ 0) (hn : n + 0 ≤ 0) (w : w_X9_wordKind_92  Q a1 a2 h) : SW E 92 ([some (vP (some (7, 0))), some (vI (a1)), some (vI (a2))], [], h, c, n) := by
  exact k_X9_wordKind_92 cx hY eq (by omega) (by omega) ⟨_, rfl, w⟩
theorem s_X9_wordKind_89 {E : EnvT} {d : Nat} (cx : CX E "ShoreDay$Tokens" cX9_wordKind 3 (some .int) "wordKind" (d + 6) 0 0) (hY : eY E = lay1) {Q : Int32 → Hp → Prop} (eq : EQ E 0 0 (fun r h2 => ∃ x, r = [vI x] ∧ Q x h2)) {a1 : Int32} {a2 : Int32} {s0 : Int32} {h : Hp} {c n : Nat} (hc : c + 0 ≤ 0) (hn : n + 0 ≤ 0) (w : w_X9_wordKind_89  Q a1 a2 s0 h) : SW E 89 ([some (vP (some (7, 0))), some (vI (a1)), some (vI (a2))], [vI (s0)], h, c, n) := by
  refine k_X9_wordKind_89 cx hY (fun q => ?_) (fun q => ?_)
  · have w := w.1 q
    exact s_X9_wordKind_95 cx hY eq  (by omega) (by omega) w
  · have w := w.2 q
    exact s_X9_wordKind_92 cx hY eq  (by omega) (by omega) w
theorem s_X9_wordKind_81 {E : EnvT} {d : Nat} (cx : CX E "ShoreDay$Tokens" cX9_wordKind 3 (some .int) "wordKind" (d + 6) 0 0) (hY : eY E = lay1) {Q : Int32 → Hp → Prop} (eq : EQ E 0 0 (fun r h2 => ∃ x, r = [vI x] ∧ Q x h2)) {a1 : Int32} {a2 : Int32} {h : Hp} {c n : Nat} (hc : c + 0 ≤ 0) (hn : n + 0 ≤ 0) (w : w_X9_wordKind_81  Q a1 a2 h) : SW E 81 ([some (vP (some (7, 0))), some (vI (a1)), some (vI (a2))], [], h, c, n) := by
  refine k_X9_wordKind_81 cx hY (ctY hY (vc_X7_has (d := d + 0) w)) (by omega) (by omega) (by omega) (fun r h2 hp => ?_)
  obtain ⟨r2, rfl, w⟩ := hp
  exact s_X9_wordKind_89 cx hY eq  (by omega) (by omega) w
theorem s_X9_wordKind_78 {E : EnvT} {d : Nat} (cx : CX E "ShoreDay$Tokens" cX9_wordKind 3 (some .int) "wordKind" (d + 6) 0 0) (hY : eY E = lay1) {Q : Int32 → Hp → Prop} (eq : EQ E 0 0 (fun r h2 => ∃ x, r = [vI x] ∧ Q x h2)) {a1 : Int32} {a2 : Int32} {h : Hp} {c n : Nat} (hc : c + 0 ≤ 0) (hn : n + 0 ≤ 0) (w : w_X9_wordKind_78  Q a1 a2 h) : SW E 78 ([some (vP (some (7, 0))), some (vI (a1)), some (vI (a2))], [], h, c, n) := by
  exact k_X9_wordKind_78 cx hY eq (by omega) (by omega) ⟨_, rfl, w⟩
theorem s_X9_wordKind_75 {E : EnvT} {d : Nat} (cx : CX E "ShoreDay$Tokens" cX9_wordKind 3 (some .int) "wordKind" (d + 6) 0 0) (hY : eY E = lay1) {Q : Int32 → Hp → Prop} (eq : EQ E 0 0 (fun r h2 => ∃ x, r = [vI x] ∧ Q x h2)) {a1 : Int32} {a2 : Int32} {s0 : Int32} {h : Hp} {c n : Nat} (hc : c + 0 ≤ 0) (hn : n + 0 ≤ 0) (w : w_X9_wordKind_75  Q a1 a2 s0 h) : SW E 75 ([some (vP (some (7, 0))), some (vI (a1)), some (vI (a2))], [vI (s0)], h, c, n) := by
  refine k_X9_wordKind_75 cx hY (fun q => ?_) (fun q => ?_)
  · have w := w.1 q
    exact s_X9_wordKind_81 cx hY eq  (by omega) (by omega) w
  · have w := w.2 q
    exact s_X9_wordKind_78 cx hY eq  (by omega) (by omega) w
theorem s_X9_wordKind_67 {E : EnvT} {d : Nat} (cx : CX E "ShoreDay$Tokens" cX9_wordKind 3 (some .int) "wordKind" (d + 6) 0 0) (hY : eY E = lay1) {Q : Int32 → Hp → Prop} (eq : EQ E 0 0 (fun r h2 => ∃ x, r = [vI x] ∧ Q x h2)) {a1 : Int32} {a2 : Int32} {h : Hp} {c n : Nat} (hc : c + 0 ≤ 0) (hn : n + 0 ≤ 0) (w : w_X9_wordKind_67  Q a1 a2 h) : SW E 67 ([some (vP (some (7, 0))), some (vI (a1)), some (vI (a2))], [], h, c, n) := by
  refine k_X9_wordKind_67 cx hY (ctY hY (vc_X7_has (d := d + 0) w)) (by omega) (by omega) (by omega) (fun r h2 hp => ?_)
  obtain ⟨r2, rfl, w⟩ := hp
  exact s_X9_wordKind_75 cx hY eq  (by omega) (by omega) w
theorem s_X9_wordKind_64 {E : EnvT} {d : Nat} (cx : CX E "ShoreDay$Tokens" cX9_wordKind 3 (some .int) "wordKind" (d + 6) 0 0) (hY : eY E = lay1) {Q : Int32 → Hp → Prop} (eq : EQ E 0 0 (fun r h2 => ∃ x, r = [vI x] ∧ Q x h2)) {a1 : Int32} {a2 : Int32} {h : Hp} {c n : Nat} (hc : c + 0 ≤ 0) (hn : n + 0 ≤ 0) (w : w_X9_wordKind_64  Q a1 a2 h) : SW E 64 ([some (vP (some (7, 0))), some (vI (a1)), some (vI (a2))], [], h, c, n) := by
  exact k_X9_wordKind_64 cx hY eq (by omega) (by omega) ⟨_, rfl, w⟩
theorem s_X9_wordKind_61 {E : EnvT} {d : Nat} (cx : CX E "ShoreDay$Tokens" cX9_wordKind 3 (some .int) "wordKind" (d + 6) 0 0) (hY : eY E = lay1) {Q : Int32 → Hp → Prop} (eq : EQ E 0 0 (fun r h2 => ∃ x, r = [vI x] ∧ Q x h2)) {a1 : Int32} {a2 : Int32} {s0 : Int32} {h : Hp} {c n : Nat} (hc : c + 0 ≤ 0) (hn : n + 0 ≤ 0) (w : w_X9_wordKind_61  Q a1 a2 s0 h) : SW E 61 ([some (vP (some (7, 0))), some (vI (a1)), some (vI (a2))], [vI (s0)], h, c, n) := by
  refine k_X9_wordKind_61 cx hY (fun q => ?_) (fun q => ?_)
  · have w := w.1 q
    exact s_X9_wordKind_67 cx hY eq  (by omega) (by omega) w
  · have w := w.2 q
    exact s_X9_wordKind_64 cx hY eq  (by omega) (by omega) w
theorem s_X9_wordKind_53 {E : EnvT} {d : Nat} (cx : CX E "ShoreDay$Tokens" cX9_wordKind 3 (some .int) "wordKind" (d + 6) 0 0) (hY : eY E = lay1) {Q : Int32 → Hp → Prop} (eq : EQ E 0 0 (fun r h2 => ∃ x, r = [vI x] ∧ Q x h2)) {a1 : Int32} {a2 : Int32} {h : Hp} {c n : Nat} (hc : c + 0 ≤ 0) (hn : n + 0 ≤ 0) (w : w_X9_wordKind_53  Q a1 a2 h) : SW E 53 ([some (vP (some (7, 0))), some (vI (a1)), some (vI (a2))], [], h, c, n) := by
  refine k_X9_wordKind_53 cx hY (ctY hY (vc_X7_has (d := d + 0) w)) (by omega) (by omega) (by omega) (fun r h2 hp => ?_)
  obtain ⟨r2, rfl, w⟩ := hp
  exact s_X9_wordKind_61 cx hY eq  (by omega) (by omega) w
theorem s_X9_wordKind_50 {E : EnvT} {d : Nat} (cx : CX E "ShoreDay$Tokens" cX9_wordKind 3 (some .int) "wordKind" (d + 6) 0 0) (hY : eY E = lay1) {Q : Int32 → Hp → Prop} (eq : EQ E 0 0 (fun r h2 => ∃ x, r = [vI x] ∧ Q x h2)) {a1 : Int32} {a2 : Int32} {h : Hp} {c n : Nat} (hc : c + 0 ≤ 0) (hn : n + 0 ≤ 0) (w : w_X9_wordKind_50  Q a1 a2 h) : SW E 50 ([some (vP (some (7, 0))), some (vI (a1)), some (vI (a2))], [], h, c, n) := by
  exact k_X9_wordKind_50 cx hY eq (by omega) (by omega) ⟨_, rfl, w⟩
theorem s_X9_wordKind_47 {E : EnvT} {d : Nat} (cx : CX E "ShoreDay$Tokens" cX9_wordKind 3 (some .int) "wordKind" (d + 6) 0 0) (hY : eY E = lay1) {Q : Int32 → Hp → Prop} (eq : EQ E 0 0 (fun r h2 => ∃ x, r = [vI x] ∧ Q x h2)) {a1 : Int32} {a2 : Int32} {s0 : Int32} {h : Hp} {c n : Nat} (hc : c + 0 ≤ 0) (hn : n + 0 ≤ 0) (w : w_X9_wordKind_47  Q a1 a2 s0 h) : SW E 47 ([some (vP (some (7, 0))), some (vI (a1)), some (vI (a2))], [vI (s0)], h, c, n) := by
  refine k_X9_wordKind_47 cx hY (fun q => ?_) (fun q => ?_)
  · have w := w.1 q
    exact s_X9_wordKind_53 cx hY eq  (by omega) (by omega) w
  · have w := w.2 q
    exact s_X9_wordKind_50 cx hY eq  (by omega) (by omega) w
theorem s_X9_wordKind_39 {E : EnvT} {d : Nat} (cx : CX E "ShoreDay$Tokens" cX9_wordKind 3 (some .int) "wordKind" (d + 6) 0 0) (hY : eY E = lay1) {Q : Int32 → Hp → Prop} (eq : EQ E 0 0 (fun r h2 => ∃ x, r = [vI x] ∧ Q x h2)) {a1 : Int32} {a2 : Int32} {h : Hp} {c n : Nat} (hc : c + 0 ≤ 0) (hn : n + 0 ≤ 0) (w : w_X9_wordKind_39  Q a1 a2 h) : SW E 39 ([some (vP (some (7, 0))), some (vI (a1)), some (vI (a2))], [], h, c, n) := by
  refine k_X9_wordKind_39 cx hY (ctY hY (vc_X7_has (d := d + 0) w)) (by omega) (by omega) (by omega) (fun r h2 hp => ?_)
  obtain ⟨r2, rfl, w⟩ := hp
  exact s_X9_wordKind_47 cx hY eq  (by omega) (by omega) w
theorem s_X9_wordKind_37 {E : EnvT} {d : Nat} (cx : CX E "ShoreDay$Tokens" cX9_wordKind 3 (some .int) "wordKind" (d + 6) 0 0) (hY : eY E = lay1) {Q : Int32 → Hp → Prop} (eq : EQ E 0 0 (fun r h2 => ∃ x, r = [vI x] ∧ Q x h2)) {a1 : Int32} {a2 : Int32} {h : Hp} {c n : Nat} (hc : c + 0 ≤ 0) (hn : n + 0 ≤ 0) (w : w_X9_wordKind_37  Q a1 a2 h) : SW E 37 ([some (vP (some (7, 0))), some (vI (a1)), some (vI (a2))], [], h, c, n) := by
  exact k_X9_wordKind_37 cx hY eq (by omega) (by omega) ⟨_, rfl, w⟩
theorem s_X9_wordKind_34 {E : EnvT} {d : Nat} (cx : CX E "ShoreDay$Tokens" cX9_wordKind 3 (some .int) "wordKind" (d + 6) 0 0) (hY : eY E = lay1) {Q : Int32 → Hp → Prop} (eq : EQ E 0 0 (fun r h2 => ∃ x, r = [vI x] ∧ Q x h2)) {a1 : Int32} {a2 : Int32} {s0 : Int32} {h : Hp} {c n : Nat} (hc : c + 0 ≤ 0) (hn : n + 0 ≤ 0) (w : w_X9_wordKind_34  Q a1 a2 s0 h) : SW E 34 ([some (vP (some (7, 0))), some (vI (a1)), some (vI (a2))], [vI (s0)], h, c, n) := by
  refine k_X9_wordKind_34 cx hY (fun q => ?_) (fun q => ?_)
  · have w := w.1 q
    exact s_X9_wordKind_39 cx hY eq  (by omega) (by omega) w
  · have w := w.2 q
    exact s_X9_wordKind_37 cx hY eq  (by omega) (by omega) w
theorem s_X9_wordKind_26 {E : EnvT} {d : Nat} (cx : CX E "ShoreDay$Tokens" cX9_wordKind 3 (some .int) "wordKind" (d + 6) 0 0) (hY : eY E = lay1) {Q : Int32 → Hp → Prop} (eq : EQ E 0 0 (fun r h2 => ∃ x, r = [vI x] ∧ Q x h2)) {a1 : Int32} {a2 : Int32} {h : Hp} {c n : Nat} (hc : c + 0 ≤ 0) (hn : n + 0 ≤ 0) (w : w_X9_wordKind_26  Q a1 a2 h) : SW E 26 ([some (vP (some (7, 0))), some (vI (a1)), some (vI (a2))], [], h, c, n) := by
  refine k_X9_wordKind_26 cx hY (ctY hY (vc_X7_has (d := d + 0) w)) (by omega) (by omega) (by omega) (fun r h2 hp => ?_)
  obtain ⟨r2, rfl, w⟩ := hp
  exact s_X9_wordKind_34 cx hY eq  (by omega) (by omega) w
theorem s_X9_wordKind_24 {E : EnvT} {d : Nat} (cx : CX E "ShoreDay$Tokens" cX9_wordKind 3 (some .int) "wordKind" (d + 6) 0 0) (hY : eY E = lay1) {Q : Int32 → Hp → Prop} (eq : EQ E 0 0 (fun r h2 => ∃ x, r = [vI x] ∧ Q x h2)) {a1 : Int32} {a2 : Int32} {h : Hp} {c n : Nat} (hc : c + 0 ≤ 0) (hn : n + 0 ≤ 0) (w : w_X9_wordKind_24  Q a1 a2 h) : SW E 24 ([some (vP (some (7, 0))), some (vI (a1)), some (vI (a2))], [], h, c, n) := by
  exact k_X9_wordKind_24 cx hY eq (by omega) (by omega) ⟨_, rfl, w⟩
theorem s_X9_wordKind_21 {E : EnvT} {d : Nat} (cx : CX E "ShoreDay$Tokens" cX9_wordKind 3 (some .int) "wordKind" (d + 6) 0 0) (hY : eY E = lay1) {Q : Int32 → Hp → Prop} (eq : EQ E 0 0 (fun r h2 => ∃ x, r = [vI x] ∧ Q x h2)) {a1 : Int32} {a2 : Int32} {s0 : Int32} {h : Hp} {c n : Nat} (hc : c + 0 ≤ 0) (hn : n + 0 ≤ 0) (w : w_X9_wordKind_21  Q a1 a2 s0 h) : SW E 21 ([some (vP (some (7, 0))), some (vI (a1)), some (vI (a2))], [vI (s0)], h, c, n) := by
  refine k_X9_wordKind_21 cx hY (fun q => ?_) (fun q => ?_)
  · have w := w.1 q
    exact s_X9_wordKind_26 cx hY eq  (by omega) (by omega) w
  · have w := w.2 q
    exact s_X9_wordKind_24 cx hY eq  (by omega) (by omega) w
theorem s_X9_wordKind_13 {E : EnvT} {d : Nat} (cx : CX E "ShoreDay$Tokens" cX9_wordKind 3 (some .int) "wordKind" (d + 6) 0 0) (hY : eY E = lay1) {Q : Int32 → Hp → Prop} (eq : EQ E 0 0 (fun r h2 => ∃ x, r = [vI x] ∧ Q x h2)) {a1 : Int32} {a2 : Int32} {h : Hp} {c n : Nat} (hc : c + 0 ≤ 0) (hn : n + 0 ≤ 0) (w : w_X9_wordKind_13  Q a1 a2 h) : SW E 13 ([some (vP (some (7, 0))), some (vI (a1)), some (vI (a2))], [], h, c, n) := by
  refine k_X9_wordKind_13 cx hY (ctY hY (vc_X7_has (d := d + 0) w)) (by omega) (by omega) (by omega) (fun r h2 hp => ?_)
  obtain ⟨r2, rfl, w⟩ := hp
  exact s_X9_wordKind_21 cx hY eq  (by omega) (by omega) w
theorem s_X9_wordKind_11 {E : EnvT} {d : Nat} (cx : CX E "ShoreDay$Tokens" cX9_wordKind 3 (some .int) "wordKind" (d + 6) 0 0) (hY : eY E = lay1) {Q : Int32 → Hp → Prop} (eq : EQ E 0 0 (fun r h2 => ∃ x, r = [vI x] ∧ Q x h2)) {a1 : Int32} {a2 : Int32} {h : Hp} {c n : Nat} (hc : c + 0 ≤ 0) (hn : n + 0 ≤ 0) (w : w_X9_wordKind_11  Q a1 a2 h) : SW E 11 ([some (vP (some (7, 0))), some (vI (a1)), some (vI (a2))], [], h, c, n) := by
  exact k_X9_wordKind_11 cx hY eq (by omega) (by omega) ⟨_, rfl, w⟩
theorem s_X9_wordKind_8 {E : EnvT} {d : Nat} (cx : CX E "ShoreDay$Tokens" cX9_wordKind 3 (some .int) "wordKind" (d + 6) 0 0) (hY : eY E = lay1) {Q : Int32 → Hp → Prop} (eq : EQ E 0 0 (fun r h2 => ∃ x, r = [vI x] ∧ Q x h2)) {a1 : Int32} {a2 : Int32} {s0 : Int32} {h : Hp} {c n : Nat} (hc : c + 0 ≤ 0) (hn : n + 0 ≤ 0) (w : w_X9_wordKind_8  Q a1 a2 s0 h) : SW E 8 ([some (vP (some (7, 0))), some (vI (a1)), some (vI (a2))], [vI (s0)], h, c, n) := by
  refine k_X9_wordKind_8 cx hY (fun q => ?_) (fun q => ?_)
  · have w := w.1 q
    exact s_X9_wordKind_13 cx hY eq  (by omega) (by omega) w
  · have w := w.2 q
    exact s_X9_wordKind_11 cx hY eq  (by omega) (by omega) w
theorem s_X9_wordKind_0 {E : EnvT} {d : Nat} (cx : CX E "ShoreDay$Tokens" cX9_wordKind 3 (some .int) "wordKind" (d + 6) 0 0) (hY : eY E = lay1) {Q : Int32 → Hp → Prop} (eq : EQ E 0 0 (fun r h2 => ∃ x, r = [vI x] ∧ Q x h2)) {a1 : Int32} {a2 : Int32} {h : Hp} {c n : Nat} (hc : c + 0 ≤ 0) (hn : n + 0 ≤ 0) (w : w_X9_wordKind_0  Q a1 a2 h) : SW E 0 ([some (vP (some (7, 0))), some (vI (a1)), some (vI (a2))], [], h, c, n) := by
  refine k_X9_wordKind_0 cx hY (ctY hY (vc_X7_has (d := d + 0) w)) (by omega) (by omega) (by omega) (fun r h2 hp => ?_)
  obtain ⟨r2, rfl, w⟩ := hp
  exact s_X9_wordKind_8 cx hY eq  (by omega) (by omega) w
def wp_X9_wordKind (a1 : Int32) (a2 : Int32) (h : Hp) (Q : Int32 → Hp → Prop) : Prop := w_X9_wordKind_0 Q a1 a2 h
theorem vc_X9_wordKind {l : Launch} {d : Nat} {a1 : Int32} {a2 : Int32} {h : Hp} {Q : Int32 → Hp → Prop} (w : wp_X9_wordKind a1 a2 h Q) : Ct l lay1 yX9_wordKind cX9_wordKind 3 (some .int) (d + 6) 0 0 [vP (some (7, 0)), vI a1, vI a2] h (fun r h2 => ∃ x, r = [vI x] ∧ Q x h2) := by
  exact Ct.of (by decide) (Nat.le_of_ble_eq_true rfl) fun E cx eq hl hY => s_X9_wordKind_0 cx hY eq (Nat.le_refl _) (Nat.le_refl _) w
def w_X9_takeToken_176 (Q : Int32 → Hp → Prop) (a2 : Int32) (a3 : Int32) (h : Hp) : Prop := Q (a3) (h)
def w_X9_takeToken_171 (Q : Int32 → Hp → Prop) (a2 : Int32) (a3 : Int32) (s1 : Int32) (h : Hp) : Prop := wp_X9_put (s1) (a2) ((0 : Int32)) (h) (fun h2 => w_X9_takeToken_176  Q (a2) (a3) (h2))
def w_X9_takeToken_161 (Q : Int32 → Hp → Prop) (a2 : Int32) (a3 : Int32) (h : Hp) : Prop := vp_in (a2) 600 ∧ (wp_X9_markKind (gI (h) 32 (0) (tN (a2))) (h) (fun r2 h2 => w_X9_takeToken_171  Q (a2) (a3) (r2) (h2)))
def w_X9_takeToken_158 (Q : Int32 → Hp → Prop) (a2 : Int32) (a3 : Int32) (a4 : Int32) (h : Hp) : Prop := w_X9_takeToken_176  Q (a2) (a3) (h)
def w_X9_takeToken_152 (Q : Int32 → Hp → Prop) (a2 : Int32) (a3 : Int32) (a4 : Int32) (s1 : Int32) (h : Hp) : Prop := wp_X9_put (s1) (a2) (a4) (h) (fun h2 => w_X9_takeToken_158  Q (a2) (a3) (a4) (h2))
def w_X9_takeToken_151 (Q : Int32 → Hp → Prop) (a2 : Int32) (a3 : Int32) (a4 : Int32) (h : Hp) : Prop := w_X9_takeToken_152  Q (a2) (a3) (a4) ((2 : Int32)) (h)
def w_X9_takeToken_147 (Q : Int32 → Hp → Prop) (a2 : Int32) (a3 : Int32) (a4 : Int32) (h : Hp) : Prop := w_X9_takeToken_152  Q (a2) (a3) (a4) ((0 : Int32)) (h)
def w_X9_takeToken_141 (Q : Int32 → Hp → Prop) (a2 : Int32) (a3 : Int32) (a4 : Int32) (h : Hp) : Prop := ((a3) ≤ ((4 : Int32)) → w_X9_takeToken_151  Q (a2) (a3) (a4) (h)) ∧ (¬ (a3) ≤ ((4 : Int32)) → w_X9_takeToken_147  Q (a2) (a3) (a4) (h))
def w_X9_takeToken_116 (K92 : Int32 → Int32 → Int32 → Hp → Prop) (Q : Int32 → Hp → Prop) (a2 : Int32) (a3 : Int32) (a4 : Int32) (h : Hp) : Prop := vp_in ((a2) + (a3)) 600 ∧ (K92 (a2) (a3 + 1) (((((10 : Int32)) * (a4)) + (gI (h) 32 (0) (tN ((a2) + (a3))))) - ((48 : Int32))) (h))
def w_X9_takeToken_113 (K92 : Int32 → Int32 → Int32 → Hp → Prop) (Q : Int32 → Hp → Prop) (a2 : Int32) (a3 : Int32) (a4 : Int32) (s0 : Int32) (h : Hp) : Prop := ((s0) = 0 → w_X9_takeToken_141  Q (a2) (a3) (a4) (h)) ∧ (¬ (s0) = 0 → w_X9_takeToken_116 K92 Q (a2) (a3) (a4) (h))
def w_X9_takeToken_102 (K92 : Int32 → Int32 → Int32 → Hp → Prop) (Q : Int32 → Hp → Prop) (a2 : Int32) (a3 : Int32) (a4 : Int32) (h : Hp) : Prop := vp_in ((a2) + (a3)) 600 ∧ (wp_X9_isDigit (gI (h) 32 (0) (tN ((a2) + (a3)))) (h) (fun r2 h2 => w_X9_takeToken_113 K92 Q (a2) (a3) (a4) (r2) (h2)))
def w_X9_takeToken_92 (Q : Int32 → Hp → Prop) : Nat → Int32 → Int32 → Int32 → Hp → Prop
  | 0 => fun _ _ _ _ => False
  | N + 1 => fun a2 a3 a4 h => ((gI (h) 7 (0) (1)) ≤ ((a2) + (a3)) → w_X9_takeToken_141  Q (a2) (a3) (a4) (h)) ∧ (¬ (gI (h) 7 (0) (1)) ≤ ((a2) + (a3)) → w_X9_takeToken_102 (w_X9_takeToken_92  Q N) Q (a2) (a3) (a4) (h))
def w_X9_takeToken_81 (Q : Int32 → Hp → Prop) (a2 : Int32) (a3 : Int32) (h : Hp) : Prop := vp_in (a2) 600 ∧ (∃ N, w_X9_takeToken_92  Q N (a2) (a3) ((gI (h) 32 (0) (tN (a2))) - ((48 : Int32))) (h))
def w_X9_takeToken_78 (Q : Int32 → Hp → Prop) (a2 : Int32) (a3 : Int32) (s0 : Int32) (h : Hp) : Prop := ((s0) = 0 → w_X9_takeToken_161  Q (a2) (a3) (h)) ∧ (¬ (s0) = 0 → w_X9_takeToken_81  Q (a2) (a3) (h))
def w_X9_takeToken_69 (Q : Int32 → Hp → Prop) (a2 : Int32) (a3 : Int32) (h : Hp) : Prop := vp_in (a2) 600 ∧ (wp_X9_isDigit (gI (h) 32 (0) (tN (a2))) (h) (fun r2 h2 => w_X9_takeToken_78  Q (a2) (a3) (r2) (h2)))
def w_X9_takeToken_66 (Q : Int32 → Hp → Prop) (a2 : Int32) (a3 : Int32) (h : Hp) : Prop := w_X9_takeToken_176  Q (a2) (a3) (h)
def w_X9_takeToken_61 (Q : Int32 → Hp → Prop) (a2 : Int32) (a3 : Int32) (s1 : Int32) (h : Hp) : Prop := wp_X9_put (s1) (a2) ((0 : Int32)) (h) (fun h2 => w_X9_takeToken_66  Q (a2) (a3) (h2))
def w_X9_takeToken_55 (Q : Int32 → Hp → Prop) (a2 : Int32) (a3 : Int32) (h : Hp) : Prop := wp_X9_wordKind (a2) (a3) (h) (fun r2 h2 => w_X9_takeToken_61  Q (a2) (a3) (r2) (h2))
def w_X9_takeToken_51 (Q : Int32 → Hp → Prop) (a2 : Int32) (a3 : Int32) (h : Hp) : Prop := w_X9_takeToken_61  Q (a2) (a3) ((0 : Int32)) (h)
def w_X9_takeToken_44 (Q : Int32 → Hp → Prop) (a2 : Int32) (a3 : Int32) (h : Hp) : Prop := ((a3) ≤ ((8 : Int32)) → w_X9_takeToken_55  Q (a2) (a3) (h)) ∧ (¬ (a3) ≤ ((8 : Int32)) → w_X9_takeToken_51  Q (a2) (a3) (h))
def w_X9_takeToken_38 (K14 : Int32 → Int32 → Hp → Prop) (Q : Int32 → Hp → Prop) (a2 : Int32) (a3 : Int32) (h : Hp) : Prop := K14 (a2) (a3 + 1) (h)
def w_X9_takeToken_35 (K14 : Int32 → Int32 → Hp → Prop) (Q : Int32 → Hp → Prop) (a2 : Int32) (a3 : Int32) (s0 : Int32) (h : Hp) : Prop := ((s0) = 0 → w_X9_takeToken_44  Q (a2) (a3) (h)) ∧ (¬ (s0) = 0 → w_X9_takeToken_38 K14 Q (a2) (a3) (h))
def w_X9_takeToken_24 (K14 : Int32 → Int32 → Hp → Prop) (Q : Int32 → Hp → Prop) (a2 : Int32) (a3 : Int32) (h : Hp) : Prop := vp_in ((a2) + (a3)) 600 ∧ (wp_X9_isLetter (gI (h) 32 (0) (tN ((a2) + (a3)))) (h) (fun r2 h2 => w_X9_takeToken_35 K14 Q (a2) (a3) (r2) (h2)))
def w_X9_takeToken_14 (Q : Int32 → Hp → Prop) : Nat → Int32 → Int32 → Hp → Prop
  | 0 => fun _ _ _ => False
  | N + 1 => fun a2 a3 h => ((gI (h) 7 (0) (1)) ≤ ((a2) + (a3)) → w_X9_takeToken_44  Q (a2) (a3) (h)) ∧ (¬ (gI (h) 7 (0) (1)) ≤ ((a2) + (a3)) → w_X9_takeToken_24 (w_X9_takeToken_14  Q N) Q (a2) (a3) (h))
def w_X9_takeToken_11 (Q : Int32 → Hp → Prop) (a2 : Int32) (a3 : Int32) (s0 : Int32) (h : Hp) : Prop := ((s0) = 0 → w_X9_takeToken_69  Q (a2) (a3) (h)) ∧ (¬ (s0) = 0 → ∃ N, w_X9_takeToken_14  Q N (a2) (a3) (h))
def w_X9_takeToken_0 (Q : Int32 → Hp → Prop) (a2 : Int32) (h : Hp) : Prop := vp_in (a2) 600 ∧ (wp_X9_isLetter (gI (h) 32 (0) (tN (a2))) (h) (fun r2 h2 => w_X9_takeToken_11  Q (a2) ((1 : Int32)) (r2) (h2)))
theorem s_X9_takeToken_176 {E : EnvT} {d : Nat} (cx : CX E "ShoreDay$Tokens" cX9_takeToken 5 (some .int) "takeToken" (d + 7) 0 0) (hY : eY E = lay1) {Q : Int32 → Hp → Prop} (eq : EQ E 0 0 (fun r h2 => ∃ x, r = [vI x] ∧ Q x h2)) {a2 : Int32} {a3 : Int32} {x4 : Option AVal} {h : Hp} {c n : Nat} (hc : c + 0 ≤ 0) (hn : n + 0 ≤ 0) (w : w_X9_takeToken_176  Q a2 a3 h) : SW E 176 ([some (vP (some (9, 0))), some (vP (some (7, 0))), some (vI (a2)), some (vI (a3)), x4], [], h, c, n) := by
  exact k_X9_takeToken_176 cx hY eq (by omega) (by omega) ⟨_, rfl, w⟩
theorem s_X9_takeToken_171 {E : EnvT} {d : Nat} (cx : CX E "ShoreDay$Tokens" cX9_takeToken 5 (some .int) "takeToken" (d + 7) 0 0) (hY : eY E = lay1) {Q : Int32 → Hp → Prop} (eq : EQ E 0 0 (fun r h2 => ∃ x, r = [vI x] ∧ Q x h2)) {a2 : Int32} {a3 : Int32} {x4 : Option AVal} {s1 : Int32} {h : Hp} {c n : Nat} (hc : c + 0 ≤ 0) (hn : n + 0 ≤ 0) (w : w_X9_takeToken_171  Q a2 a3 s1 h) : SW E 171 ([some (vP (some (9, 0))), some (vP (some (7, 0))), some (vI (a2)), some (vI (a3)), x4], [vI (s1), vP (some (9, 0))], h, c, n) := by
  refine k_X9_takeToken_171 cx hY (ctY hY (vc_X9_put (d := d + 5) w)) (by omega) (by omega) (by omega) (fun r h2 hp => ?_)
  obtain ⟨rfl, w⟩ := hp
  exact s_X9_takeToken_176 cx hY eq  (by omega) (by omega) w
theorem s_X9_takeToken_161 {E : EnvT} {d : Nat} (cx : CX E "ShoreDay$Tokens" cX9_takeToken 5 (some .int) "takeToken" (d + 7) 0 0) (hY : eY E = lay1) {Q : Int32 → Hp → Prop} (eq : EQ E 0 0 (fun r h2 => ∃ x, r = [vI x] ∧ Q x h2)) {a2 : Int32} {a3 : Int32} {x4 : Option AVal} {h : Hp} {c n : Nat} (hc : c + 0 ≤ 0) (hn : n + 0 ≤ 0) (w : w_X9_takeToken_161  Q a2 a3 h) : SW E 161 ([some (vP (some (9, 0))), some (vP (some (7, 0))), some (vI (a2)), some (vI (a3)), x4], [], h, c, n) := by
  obtain ⟨G1, w⟩ := w
  refine k_X9_takeToken_161 cx hY G1 (ctY hY (vc_X9_markKind (d := d + 5) w)) (by omega) (by omega) (by omega) (fun r h2 hp => ?_)
  obtain ⟨r2, rfl, w⟩ := hp
  exact s_X9_takeToken_171 cx hY eq  (by omega) (by omega) w
theorem s_X9_takeToken_158 {E : EnvT} {d : Nat} (cx : CX E "ShoreDay$Tokens" cX9_takeToken 5 (some .int) "takeToken" (d + 7) 0 0) (hY : eY E = lay1) {Q : Int32 → Hp → Prop} (eq : EQ E 0 0 (fun r h2 => ∃ x, r = [vI x] ∧ Q x h2)) {a2 : Int32} {a3 : Int32} {a4 : Int32} {h : Hp} {c n : Nat} (hc : c + 0 ≤ 0) (hn : n + 0 ≤ 0) (w : w_X9_takeToken_158  Q a2 a3 a4 h) : SW E 158 ([some (vP (some (9, 0))), some (vP (some (7, 0))), some (vI (a2)), some (vI (a3)), some (vI (a4))], [], h, c, n) := by
  refine k_X9_takeToken_158 cx hY ?_
  exact s_X9_takeToken_176 cx hY eq  (by omega) (by omega) w
theorem s_X9_takeToken_152 {E : EnvT} {d : Nat} (cx : CX E "ShoreDay$Tokens" cX9_takeToken 5 (some .int) "takeToken" (d + 7) 0 0) (hY : eY E = lay1) {Q : Int32 → Hp → Prop} (eq : EQ E 0 0 (fun r h2 => ∃ x, r = [vI x] ∧ Q x h2)) {a2 : Int32} {a3 : Int32} {a4 : Int32} {s1 : Int32} {h : Hp} {c n : Nat} (hc : c + 0 ≤ 0) (hn : n + 0 ≤ 0) (w : w_X9_takeToken_152  Q a2 a3 a4 s1 h) : SW E 152 ([some (vP (some (9, 0))), some (vP (some (7, 0))), some (vI (a2)), some (vI (a3)), some (vI (a4))], [vI (s1), vP (some (9, 0))], h, c, n) := by
  refine k_X9_takeToken_152 cx hY (ctY hY (vc_X9_put (d := d + 5) w)) (by omega) (by omega) (by omega) (fun r h2 hp => ?_)
  obtain ⟨rfl, w⟩ := hp
  exact s_X9_takeToken_158 cx hY eq  (by omega) (by omega) w
theorem s_X9_takeToken_151 {E : EnvT} {d : Nat} (cx : CX E "ShoreDay$Tokens" cX9_takeToken 5 (some .int) "takeToken" (d + 7) 0 0) (hY : eY E = lay1) {Q : Int32 → Hp → Prop} (eq : EQ E 0 0 (fun r h2 => ∃ x, r = [vI x] ∧ Q x h2)) {a2 : Int32} {a3 : Int32} {a4 : Int32} {h : Hp} {c n : Nat} (hc : c + 0 ≤ 0) (hn : n + 0 ≤ 0) (w : w_X9_takeToken_151  Q a2 a3 a4 h) : SW E 151 ([some (vP (some (9, 0))), some (vP (some (7, 0))), some (vI (a2)), some (vI (a3)), some (vI (a4))], [vP (some (9, 0))], h, c, n) := by
  refine k_X9_takeToken_151 cx hY ?_
  exact s_X9_takeToken_152 cx hY eq  (by omega) (by omega) w
theorem s_X9_takeToken_147 {E : EnvT} {d : Nat} (cx : CX E "ShoreDay$Tokens" cX9_takeToken 5 (some .int) "takeToken" (d + 7) 0 0) (hY : eY E = lay1) {Q : Int32 → Hp → Prop} (eq : EQ E 0 0 (fun r h2 => ∃ x, r = [vI x] ∧ Q x h2)) {a2 : Int32} {a3 : Int32} {a4 : Int32} {h : Hp} {c n : Nat} (hc : c + 0 ≤ 0) (hn : n + 0 ≤ 0) (w : w_X9_takeToken_147  Q a2 a3 a4 h) : SW E 147 ([some (vP (some (9, 0))), some (vP (some (7, 0))), some (vI (a2)), some (vI (a3)), some (vI (a4))], [vP (some (9, 0))], h, c, n) := by
  refine k_X9_takeToken_147 cx hY ?_
  exact s_X9_takeToken_152 cx hY eq  (by omega) (by omega) w
theorem s_X9_takeToken_141 {E : EnvT} {d : Nat} (cx : CX E "ShoreDay$Tokens" cX9_takeToken 5 (some .int) "takeToken" (d + 7) 0 0) (hY : eY E = lay1) {Q : Int32 → Hp → Prop} (eq : EQ E 0 0 (fun r h2 => ∃ x, r = [vI x] ∧ Q x h2)) {a2 : Int32} {a3 : Int32} {a4 : Int32} {h : Hp} {c n : Nat} (hc : c + 0 ≤ 0) (hn : n + 0 ≤ 0) (w : w_X9_takeToken_141  Q a2 a3 a4 h) : SW E 141 ([some (vP (some (9, 0))), some (vP (some (7, 0))), some (vI (a2)), some (vI (a3)), some (vI (a4))], [], h, c, n) := by
  refine k_X9_takeToken_141 cx hY (fun q => ?_) (fun q => ?_)
  · have w := w.1 q
    exact s_X9_takeToken_151 cx hY eq  (by omega) (by omega) w
  · have w := w.2 q
    exact s_X9_takeToken_147 cx hY eq  (by omega) (by omega) w
theorem s_X9_takeToken_116 {E : EnvT} {d : Nat} (cx : CX E "ShoreDay$Tokens" cX9_takeToken 5 (some .int) "takeToken" (d + 7) 0 0) (hY : eY E = lay1) {Q : Int32 → Hp → Prop} (eq : EQ E 0 0 (fun r h2 => ∃ x, r = [vI x] ∧ Q x h2)) {K92 : Int32 → Int32 → Int32 → Hp → Prop} (hK92 : ∀ (a2 : Int32) (a3 : Int32) (a4 : Int32) (h : Hp) (c n : Nat), c + 0 ≤ 0 → n + 0 ≤ 0 → K92 a2 a3 a4 h → SW E 92 ([some (vP (some (9, 0))), some (vP (some (7, 0))), some (vI (a2)), some (vI (a3)), some (vI (a4))], [], h, c, n)) {a2 : Int32} {a3 : Int32} {a4 : Int32} {h : Hp} {c n : Nat} (hc : c + 0 ≤ 0) (hn : n + 0 ≤ 0) (w : w_X9_takeToken_116 K92 Q a2 a3 a4 h) : SW E 116 ([some (vP (some (9, 0))), some (vP (some (7, 0))), some (vI (a2)), some (vI (a3)), some (vI (a4))], [], h, c, n) := by
  obtain ⟨G1, w⟩ := w
  refine k_X9_takeToken_116 cx hY G1 ?_
  exact hK92 _ _ _ _ _ _ (by omega) (by omega) w
theorem s_X9_takeToken_113 {E : EnvT} {d : Nat} (cx : CX E "ShoreDay$Tokens" cX9_takeToken 5 (some .int) "takeToken" (d + 7) 0 0) (hY : eY E = lay1) {Q : Int32 → Hp → Prop} (eq : EQ E 0 0 (fun r h2 => ∃ x, r = [vI x] ∧ Q x h2)) {K92 : Int32 → Int32 → Int32 → Hp → Prop} (hK92 : ∀ (a2 : Int32) (a3 : Int32) (a4 : Int32) (h : Hp) (c n : Nat), c + 0 ≤ 0 → n + 0 ≤ 0 → K92 a2 a3 a4 h → SW E 92 ([some (vP (some (9, 0))), some (vP (some (7, 0))), some (vI (a2)), some (vI (a3)), some (vI (a4))], [], h, c, n)) {a2 : Int32} {a3 : Int32} {a4 : Int32} {s0 : Int32} {h : Hp} {c n : Nat} (hc : c + 0 ≤ 0) (hn : n + 0 ≤ 0) (w : w_X9_takeToken_113 K92 Q a2 a3 a4 s0 h) : SW E 113 ([some (vP (some (9, 0))), some (vP (some (7, 0))), some (vI (a2)), some (vI (a3)), some (vI (a4))], [vI (s0)], h, c, n) := by
  refine k_X9_takeToken_113 cx hY (fun q => ?_) (fun q => ?_)
  · have w := w.1 q
    exact s_X9_takeToken_141 cx hY eq  (by omega) (by omega) w
  · have w := w.2 q
    exact s_X9_takeToken_116 cx hY eq hK92 (by omega) (by omega) w
theorem s_X9_takeToken_102 {E : EnvT} {d : Nat} (cx : CX E "ShoreDay$Tokens" cX9_takeToken 5 (some .int) "takeToken" (d + 7) 0 0) (hY : eY E = lay1) {Q : Int32 → Hp → Prop} (eq : EQ E 0 0 (fun r h2 => ∃ x, r = [vI x] ∧ Q x h2)) {K92 : Int32 → Int32 → Int32 → Hp → Prop} (hK92 : ∀ (a2 : Int32) (a3 : Int32) (a4 : Int32) (h : Hp) (c n : Nat), c + 0 ≤ 0 → n + 0 ≤ 0 → K92 a2 a3 a4 h → SW E 92 ([some (vP (some (9, 0))), some (vP (some (7, 0))), some (vI (a2)), some (vI (a3)), some (vI (a4))], [], h, c, n)) {a2 : Int32} {a3 : Int32} {a4 : Int32} {h : Hp} {c n : Nat} (hc : c + 0 ≤ 0) (hn : n + 0 ≤ 0) (w : w_X9_takeToken_102 K92 Q a2 a3 a4 h) : SW E 102 ([some (vP (some (9, 0))), some (vP (some (7, 0))), some (vI (a2)), some (vI (a3)), some (vI (a4))], [], h, c, n) := by
  obtain ⟨G1, w⟩ := w
  refine k_X9_takeToken_102 cx hY G1 (ctY hY (vc_X9_isDigit (d := d + 5) w)) (by omega) (by omega) (by omega) (fun r h2 hp => ?_)
  obtain ⟨r2, rfl, w⟩ := hp
  exact s_X9_takeToken_113 cx hY eq hK92 (by omega) (by omega) w
theorem s_X9_takeToken_92 {E : EnvT} {d : Nat} (cx : CX E "ShoreDay$Tokens" cX9_takeToken 5 (some .int) "takeToken" (d + 7) 0 0) (hY : eY E = lay1) {Q : Int32 → Hp → Prop} (eq : EQ E 0 0 (fun r h2 => ∃ x, r = [vI x] ∧ Q x h2)) : ∀ (N : Nat) (a2 : Int32) (a3 : Int32) (a4 : Int32) (h : Hp) (c n : Nat), c + 0 ≤ 0 → n + 0 ≤ 0 → w_X9_takeToken_92  Q N a2 a3 a4 h → SW E 92 ([some (vP (some (9, 0))), some (vP (some (7, 0))), some (vI (a2)), some (vI (a3)), some (vI (a4))], [], h, c, n) := by
  intro N
  induction N with
  | zero =>
    intro _ _ _ h c n _ _ w
    exact w.elim
  | succ N ih =>
    intro a2 a3 a4 h c n hc hn w
    refine k_X9_takeToken_92 cx hY (fun q => ?_) (fun q => ?_)
    · have w := w.1 q
      exact s_X9_takeToken_141 cx hY eq  (by omega) (by omega) w
    · have w := w.2 q
      exact s_X9_takeToken_102 cx hY eq ih (by omega) (by omega) w
theorem s_X9_takeToken_81 {E : EnvT} {d : Nat} (cx : CX E "ShoreDay$Tokens" cX9_takeToken 5 (some .int) "takeToken" (d + 7) 0 0) (hY : eY E = lay1) {Q : Int32 → Hp → Prop} (eq : EQ E 0 0 (fun r h2 => ∃ x, r = [vI x] ∧ Q x h2)) {a2 : Int32} {a3 : Int32} {x4 : Option AVal} {h : Hp} {c n : Nat} (hc : c + 0 ≤ 0) (hn : n + 0 ≤ 0) (w : w_X9_takeToken_81  Q a2 a3 h) : SW E 81 ([some (vP (some (9, 0))), some (vP (some (7, 0))), some (vI (a2)), some (vI (a3)), x4], [], h, c, n) := by
  obtain ⟨G1, w⟩ := w
  refine k_X9_takeToken_81 cx hY G1 ?_
  obtain ⟨N1, w⟩ := w
  exact s_X9_takeToken_92 cx hY eq  _ _ _ _ _ _ _ (by omega) (by omega) w
theorem s_X9_takeToken_78 {E : EnvT} {d : Nat} (cx : CX E "ShoreDay$Tokens" cX9_takeToken 5 (some .int) "takeToken" (d + 7) 0 0) (hY : eY E = lay1) {Q : Int32 → Hp → Prop} (eq : EQ E 0 0 (fun r h2 => ∃ x, r = [vI x] ∧ Q x h2)) {a2 : Int32} {a3 : Int32} {x4 : Option AVal} {s0 : Int32} {h : Hp} {c n : Nat} (hc : c + 0 ≤ 0) (hn : n + 0 ≤ 0) (w : w_X9_takeToken_78  Q a2 a3 s0 h) : SW E 78 ([some (vP (some (9, 0))), some (vP (some (7, 0))), some (vI (a2)), some (vI (a3)), x4], [vI (s0)], h, c, n) := by
  refine k_X9_takeToken_78 cx hY (fun q => ?_) (fun q => ?_)
  · have w := w.1 q
    exact s_X9_takeToken_161 cx hY eq  (by omega) (by omega) w
  · have w := w.2 q
    exact s_X9_takeToken_81 cx hY eq  (by omega) (by omega) w
theorem s_X9_takeToken_69 {E : EnvT} {d : Nat} (cx : CX E "ShoreDay$Tokens" cX9_takeToken 5 (some .int) "takeToken" (d + 7) 0 0) (hY : eY E = lay1) {Q : Int32 → Hp → Prop} (eq : EQ E 0 0 (fun r h2 => ∃ x, r = [vI x] ∧ Q x h2)) {a2 : Int32} {a3 : Int32} {x4 : Option AVal} {h : Hp} {c n : Nat} (hc : c + 0 ≤ 0) (hn : n + 0 ≤ 0) (w : w_X9_takeToken_69  Q a2 a3 h) : SW E 69 ([some (vP (some (9, 0))), some (vP (some (7, 0))), some (vI (a2)), some (vI (a3)), x4], [], h, c, n) := by
  obtain ⟨G1, w⟩ := w
  refine k_X9_takeToken_69 cx hY G1 (ctY hY (vc_X9_isDigit (d := d + 5) w)) (by omega) (by omega) (by omega) (fun r h2 hp => ?_)
  obtain ⟨r2, rfl, w⟩ := hp
  exact s_X9_takeToken_78 cx hY eq  (by omega) (by omega) w
theorem s_X9_takeToken_66 {E : EnvT} {d : Nat} (cx : CX E "ShoreDay$Tokens" cX9_takeToken 5 (some .int) "takeToken" (d + 7) 0 0) (hY : eY E = lay1) {Q : Int32 → Hp → Prop} (eq : EQ E 0 0 (fun r h2 => ∃ x, r = [vI x] ∧ Q x h2)) {a2 : Int32} {a3 : Int32} {x4 : Option AVal} {h : Hp} {c n : Nat} (hc : c + 0 ≤ 0) (hn : n + 0 ≤ 0) (w : w_X9_takeToken_66  Q a2 a3 h) : SW E 66 ([some (vP (some (9, 0))), some (vP (some (7, 0))), some (vI (a2)), some (vI (a3)), x4], [], h, c, n) := by
  refine k_X9_takeToken_66 cx hY ?_
  exact s_X9_takeToken_176 cx hY eq  (by omega) (by omega) w
theorem s_X9_takeToken_61 {E : EnvT} {d : Nat} (cx : CX E "ShoreDay$Tokens" cX9_takeToken 5 (some .int) "takeToken" (d + 7) 0 0) (hY : eY E = lay1) {Q : Int32 → Hp → Prop} (eq : EQ E 0 0 (fun r h2 => ∃ x, r = [vI x] ∧ Q x h2)) {a2 : Int32} {a3 : Int32} {x4 : Option AVal} {s1 : Int32} {h : Hp} {c n : Nat} (hc : c + 0 ≤ 0) (hn : n + 0 ≤ 0) (w : w_X9_takeToken_61  Q a2 a3 s1 h) : SW E 61 ([some (vP (some (9, 0))), some (vP (some (7, 0))), some (vI (a2)), some (vI (a3)), x4], [vI (s1), vP (some (9, 0))], h, c, n) := by
  refine k_X9_takeToken_61 cx hY (ctY hY (vc_X9_put (d := d + 5) w)) (by omega) (by omega) (by omega) (fun r h2 hp => ?_)
  obtain ⟨rfl, w⟩ := hp
  exact s_X9_takeToken_66 cx hY eq  (by omega) (by omega) w
theorem s_X9_takeToken_55 {E : EnvT} {d : Nat} (cx : CX E "ShoreDay$Tokens" cX9_takeToken 5 (some .int) "takeToken" (d + 7) 0 0) (hY : eY E = lay1) {Q : Int32 → Hp → Prop} (eq : EQ E 0 0 (fun r h2 => ∃ x, r = [vI x] ∧ Q x h2)) {a2 : Int32} {a3 : Int32} {x4 : Option AVal} {h : Hp} {c n : Nat} (hc : c + 0 ≤ 0) (hn : n + 0 ≤ 0) (w : w_X9_takeToken_55  Q a2 a3 h) : SW E 55 ([some (vP (some (9, 0))), some (vP (some (7, 0))), some (vI (a2)), some (vI (a3)), x4], [vP (some (9, 0))], h, c, n) := by
  refine k_X9_takeToken_55 cx hY (ctY hY (vc_X9_wordKind (d := d + 0) w)) (by omega) (by omega) (by omega) (fun r h2 hp => ?_)
  obtain ⟨r2, rfl, w⟩ := hp
  exact s_X9_takeToken_61 cx hY eq  (by omega) (by omega) w
theorem s_X9_takeToken_51 {E : EnvT} {d : Nat} (cx : CX E "ShoreDay$Tokens" cX9_takeToken 5 (some .int) "takeToken" (d + 7) 0 0) (hY : eY E = lay1) {Q : Int32 → Hp → Prop} (eq : EQ E 0 0 (fun r h2 => ∃ x, r = [vI x] ∧ Q x h2)) {a2 : Int32} {a3 : Int32} {x4 : Option AVal} {h : Hp} {c n : Nat} (hc : c + 0 ≤ 0) (hn : n + 0 ≤ 0) (w : w_X9_takeToken_51  Q a2 a3 h) : SW E 51 ([some (vP (some (9, 0))), some (vP (some (7, 0))), some (vI (a2)), some (vI (a3)), x4], [vP (some (9, 0))], h, c, n) := by
  refine k_X9_takeToken_51 cx hY ?_
  exact s_X9_takeToken_61 cx hY eq  (by omega) (by omega) w
theorem s_X9_takeToken_44 {E : EnvT} {d : Nat} (cx : CX E "ShoreDay$Tokens" cX9_takeToken 5 (some .int) "takeToken" (d + 7) 0 0) (hY : eY E = lay1) {Q : Int32 → Hp → Prop} (eq : EQ E 0 0 (fun r h2 => ∃ x, r = [vI x] ∧ Q x h2)) {a2 : Int32} {a3 : Int32} {x4 : Option AVal} {h : Hp} {c n : Nat} (hc : c + 0 ≤ 0) (hn : n + 0 ≤ 0) (w : w_X9_takeToken_44  Q a2 a3 h) : SW E 44 ([some (vP (some (9, 0))), some (vP (some (7, 0))), some (vI (a2)), some (vI (a3)), x4], [], h, c, n) := by
  refine k_X9_takeToken_44 cx hY (fun q => ?_) (fun q => ?_)
  · have w := w.1 q
    exact s_X9_takeToken_55 cx hY eq  (by omega) (by omega) w
  · have w := w.2 q
    exact s_X9_takeToken_51 cx hY eq  (by omega) (by omega) w
theorem s_X9_takeToken_38 {E : EnvT} {d : Nat} (cx : CX E "ShoreDay$Tokens" cX9_takeToken 5 (some .int) "takeToken" (d + 7) 0 0) (hY : eY E = lay1) {Q : Int32 → Hp → Prop} (eq : EQ E 0 0 (fun r h2 => ∃ x, r = [vI x] ∧ Q x h2)) {K14 : Int32 → Int32 → Hp → Prop} (hK14 : ∀ (a2 : Int32) (a3 : Int32) (x4 : Option AVal) (h : Hp) (c n : Nat), c + 0 ≤ 0 → n + 0 ≤ 0 → K14 a2 a3 h → SW E 14 ([some (vP (some (9, 0))), some (vP (some (7, 0))), some (vI (a2)), some (vI (a3)), x4], [], h, c, n)) {a2 : Int32} {a3 : Int32} {x4 : Option AVal} {h : Hp} {c n : Nat} (hc : c + 0 ≤ 0) (hn : n + 0 ≤ 0) (w : w_X9_takeToken_38 K14 Q a2 a3 h) : SW E 38 ([some (vP (some (9, 0))), some (vP (some (7, 0))), some (vI (a2)), some (vI (a3)), x4], [], h, c, n) := by
  refine k_X9_takeToken_38 cx hY ?_
  exact hK14 _ _ _ _ _ _ (by omega) (by omega) w
theorem s_X9_takeToken_35 {E : EnvT} {d : Nat} (cx : CX E "ShoreDay$Tokens" cX9_takeToken 5 (some .int) "takeToken" (d + 7) 0 0) (hY : eY E = lay1) {Q : Int32 → Hp → Prop} (eq : EQ E 0 0 (fun r h2 => ∃ x, r = [vI x] ∧ Q x h2)) {K14 : Int32 → Int32 → Hp → Prop} (hK14 : ∀ (a2 : Int32) (a3 : Int32) (x4 : Option AVal) (h : Hp) (c n : Nat), c + 0 ≤ 0 → n + 0 ≤ 0 → K14 a2 a3 h → SW E 14 ([some (vP (some (9, 0))), some (vP (some (7, 0))), some (vI (a2)), some (vI (a3)), x4], [], h, c, n)) {a2 : Int32} {a3 : Int32} {x4 : Option AVal} {s0 : Int32} {h : Hp} {c n : Nat} (hc : c + 0 ≤ 0) (hn : n + 0 ≤ 0) (w : w_X9_takeToken_35 K14 Q a2 a3 s0 h) : SW E 35 ([some (vP (some (9, 0))), some (vP (some (7, 0))), some (vI (a2)), some (vI (a3)), x4], [vI (s0)], h, c, n) := by
  refine k_X9_takeToken_35 cx hY (fun q => ?_) (fun q => ?_)
  · have w := w.1 q
    exact s_X9_takeToken_44 cx hY eq  (by omega) (by omega) w
  · have w := w.2 q
    exact s_X9_takeToken_38 cx hY eq hK14 (by omega) (by omega) w
theorem s_X9_takeToken_24 {E : EnvT} {d : Nat} (cx : CX E "ShoreDay$Tokens" cX9_takeToken 5 (some .int) "takeToken" (d + 7) 0 0) (hY : eY E = lay1) {Q : Int32 → Hp → Prop} (eq : EQ E 0 0 (fun r h2 => ∃ x, r = [vI x] ∧ Q x h2)) {K14 : Int32 → Int32 → Hp → Prop} (hK14 : ∀ (a2 : Int32) (a3 : Int32) (x4 : Option AVal) (h : Hp) (c n : Nat), c + 0 ≤ 0 → n + 0 ≤ 0 → K14 a2 a3 h → SW E 14 ([some (vP (some (9, 0))), some (vP (some (7, 0))), some (vI (a2)), some (vI (a3)), x4], [], h, c, n)) {a2 : Int32} {a3 : Int32} {x4 : Option AVal} {h : Hp} {c n : Nat} (hc : c + 0 ≤ 0) (hn : n + 0 ≤ 0) (w : w_X9_takeToken_24 K14 Q a2 a3 h) : SW E 24 ([some (vP (some (9, 0))), some (vP (some (7, 0))), some (vI (a2)), some (vI (a3)), x4], [], h, c, n) := by
  obtain ⟨G1, w⟩ := w
  refine k_X9_takeToken_24 cx hY G1 (ctY hY (vc_X9_isLetter (d := d + 5) w)) (by omega) (by omega) (by omega) (fun r h2 hp => ?_)
  obtain ⟨r2, rfl, w⟩ := hp
  exact s_X9_takeToken_35 cx hY eq hK14 (by omega) (by omega) w
theorem s_X9_takeToken_14 {E : EnvT} {d : Nat} (cx : CX E "ShoreDay$Tokens" cX9_takeToken 5 (some .int) "takeToken" (d + 7) 0 0) (hY : eY E = lay1) {Q : Int32 → Hp → Prop} (eq : EQ E 0 0 (fun r h2 => ∃ x, r = [vI x] ∧ Q x h2)) : ∀ (N : Nat) (a2 : Int32) (a3 : Int32) (x4 : Option AVal) (h : Hp) (c n : Nat), c + 0 ≤ 0 → n + 0 ≤ 0 → w_X9_takeToken_14  Q N a2 a3 h → SW E 14 ([some (vP (some (9, 0))), some (vP (some (7, 0))), some (vI (a2)), some (vI (a3)), x4], [], h, c, n) := by
  intro N
  induction N with
  | zero =>
    intro _ _ _ h c n _ _ w
    exact w.elim
  | succ N ih =>
    intro a2 a3 x4 h c n hc hn w
    refine k_X9_takeToken_14 cx hY (fun q => ?_) (fun q => ?_)
    · have w := w.1 q
      exact s_X9_takeToken_44 cx hY eq  (by omega) (by omega) w
    · have w := w.2 q
      exact s_X9_takeToken_24 cx hY eq ih (by omega) (by omega) w
theorem s_X9_takeToken_11 {E : EnvT} {d : Nat} (cx : CX E "ShoreDay$Tokens" cX9_takeToken 5 (some .int) "takeToken" (d + 7) 0 0) (hY : eY E = lay1) {Q : Int32 → Hp → Prop} (eq : EQ E 0 0 (fun r h2 => ∃ x, r = [vI x] ∧ Q x h2)) {a2 : Int32} {a3 : Int32} {x4 : Option AVal} {s0 : Int32} {h : Hp} {c n : Nat} (hc : c + 0 ≤ 0) (hn : n + 0 ≤ 0) (w : w_X9_takeToken_11  Q a2 a3 s0 h) : SW E 11 ([some (vP (some (9, 0))), some (vP (some (7, 0))), some (vI (a2)), some (vI (a3)), x4], [vI (s0)], h, c, n) := by
  refine k_X9_takeToken_11 cx hY (fun q => ?_) (fun q => ?_)
  · have w := w.1 q
    exact s_X9_takeToken_69 cx hY eq  (by omega) (by omega) w
  · have w := w.2 q
    obtain ⟨N1, w⟩ := w
    exact s_X9_takeToken_14 cx hY eq  _ _ _ _ _ _ _ (by omega) (by omega) w
theorem s_X9_takeToken_0 {E : EnvT} {d : Nat} (cx : CX E "ShoreDay$Tokens" cX9_takeToken 5 (some .int) "takeToken" (d + 7) 0 0) (hY : eY E = lay1) {Q : Int32 → Hp → Prop} (eq : EQ E 0 0 (fun r h2 => ∃ x, r = [vI x] ∧ Q x h2)) {a2 : Int32} {x3 : Option AVal} {x4 : Option AVal} {h : Hp} {c n : Nat} (hc : c + 0 ≤ 0) (hn : n + 0 ≤ 0) (w : w_X9_takeToken_0  Q a2 h) : SW E 0 ([some (vP (some (9, 0))), some (vP (some (7, 0))), some (vI (a2)), x3, x4], [], h, c, n) := by
  obtain ⟨G1, w⟩ := w
  refine k_X9_takeToken_0 cx hY G1 (ctY hY (vc_X9_isLetter (d := d + 5) w)) (by omega) (by omega) (by omega) (fun r h2 hp => ?_)
  obtain ⟨r2, rfl, w⟩ := hp
  exact s_X9_takeToken_11 cx hY eq  (by omega) (by omega) w
def wp_X9_takeToken (a2 : Int32) (h : Hp) (Q : Int32 → Hp → Prop) : Prop := w_X9_takeToken_0 Q a2 h
theorem vc_X9_takeToken {l : Launch} {d : Nat} {a2 : Int32} {h : Hp} {Q : Int32 → Hp → Prop} (w : wp_X9_takeToken a2 h Q) : Ct l lay1 yX9_takeToken cX9_takeToken 5 (some .int) (d + 7) 0 0 [vP (some (9, 0)), vP (some (7, 0)), vI a2] h (fun r h2 => ∃ x, r = [vI x] ∧ Q x h2) := by
  exact Ct.of (by decide) (Nat.le_of_ble_eq_true rfl) fun E cx eq hl hY => s_X9_takeToken_0 cx hY eq (Nat.le_refl _) (Nat.le_refl _) w
def w_X9_takeTape_79 (Q : Hp → Prop) (a2 : Int32) (a3 : Int32) (h : Hp) : Prop := Q (h)
def w_X9_takeTape_65 (Q : Hp → Prop) (a2 : Int32) (a3 : Int32) (h : Hp) : Prop := wp_X9_step  (wI (wI (h) 7 (0) 1 ((0 : Int32))) 9 (0) 4 ((0 : Int32))) (fun h2 => w_X9_takeTape_79  Q (a2) (a3) (h2))
def w_X9_takeTape_55 (Q : Hp → Prop) (a2 : Int32) (a3 : Int32) (h : Hp) : Prop := wp_X9_put ((1 : Int32)) (gI (h) 7 (0) (1)) ((0 : Int32)) (h) (fun h2 => w_X9_takeTape_65  Q (a2) (a3) (h2))
def w_X9_takeTape_47 (K9 : Int32 → Int32 → Hp → Prop) (Q : Hp → Prop) (a2 : Int32) (a3 : Int32) (s0 : Int32) (s1 : Int32) (h : Hp) : Prop := K9 ((s0) + (s1)) (a3 + 1) (h)
def w_X9_takeTape_41 (K9 : Int32 → Int32 → Hp → Prop) (Q : Hp → Prop) (a2 : Int32) (a3 : Int32) (s0 : Int32) (h : Hp) : Prop := wp_X9_takeToken (a2) (h) (fun r2 h2 => w_X9_takeTape_47 K9 Q (a2) (a3) (s0) (r2) (h2))
def w_X9_takeTape_37 (K9 : Int32 → Int32 → Hp → Prop) (Q : Hp → Prop) (a2 : Int32) (a3 : Int32) (s0 : Int32) (h : Hp) : Prop := w_X9_takeTape_47 K9 Q (a2) (a3) (s0) ((1 : Int32)) (h)
def w_X9_takeTape_34 (K9 : Int32 → Int32 → Hp → Prop) (Q : Hp → Prop) (a2 : Int32) (a3 : Int32) (s0 : Int32) (s1 : Int32) (h : Hp) : Prop := ((s1) = 0 → w_X9_takeTape_41 K9 Q (a2) (a3) (s0) (h)) ∧ (¬ (s1) = 0 → w_X9_takeTape_37 K9 Q (a2) (a3) (s0) (h))
def w_X9_takeTape_24 (K9 : Int32 → Int32 → Hp → Prop) (Q : Hp → Prop) (a2 : Int32) (a3 : Int32) (h : Hp) : Prop := vp_in (a2) 600 ∧ (wp_X9_isBlank (gI (h) 32 (0) (tN (a2))) (h) (fun r2 h2 => w_X9_takeTape_34 K9 Q (a2) (a3) (a2) (r2) (h2)))
def w_X9_takeTape_16 (K9 : Int32 → Int32 → Hp → Prop) (Q : Hp → Prop) (a2 : Int32) (a3 : Int32) (h : Hp) : Prop := ((gI (h) 7 (0) (1)) ≤ (a2) → w_X9_takeTape_55  Q (a2) (a3) (h)) ∧ (¬ (gI (h) 7 (0) (1)) ≤ (a2) → w_X9_takeTape_24 K9 Q (a2) (a3) (h))
def w_X9_takeTape_9 (Q : Hp → Prop) : Nat → Int32 → Int32 → Hp → Prop
  | 0 => fun _ _ _ => False
  | N + 1 => fun a2 a3 h => (((600 : Int32)) ≤ (a3) → w_X9_takeTape_55  Q (a2) (a3) (h)) ∧ (¬ ((600 : Int32)) ≤ (a3) → w_X9_takeTape_16 (w_X9_takeTape_9  Q N) Q (a2) (a3) (h))
def w_X9_takeTape_0 (Q : Hp → Prop) (h : Hp) : Prop := ∃ N, w_X9_takeTape_9  Q N ((0 : Int32)) ((0 : Int32)) (wI (h) 9 (0) 3 ((0 : Int32)))
theorem s_X9_takeTape_79 {E : EnvT} {d : Nat} (cx : CX E "ShoreDay$Tokens" cX9_takeTape 4 none "takeTape" (d + 8) 0 0) (hY : eY E = lay1) {Q : Hp → Prop} (eq : EQ E 0 0 (fun r h2 => r = [] ∧ Q h2)) {a2 : Int32} {a3 : Int32} {h : Hp} {c n : Nat} (hc : c + 0 ≤ 0) (hn : n + 0 ≤ 0) (w : w_X9_takeTape_79  Q a2 a3 h) : SW E 79 ([some (vP (some (9, 0))), some (vP (some (7, 0))), some (vI (a2)), some (vI (a3))], [], h, c, n) := by
  exact k_X9_takeTape_79 cx hY eq (by omega) (by omega) ⟨rfl, w⟩
theorem s_X9_takeTape_65 {E : EnvT} {d : Nat} (cx : CX E "ShoreDay$Tokens" cX9_takeTape 4 none "takeTape" (d + 8) 0 0) (hY : eY E = lay1) {Q : Hp → Prop} (eq : EQ E 0 0 (fun r h2 => r = [] ∧ Q h2)) {a2 : Int32} {a3 : Int32} {h : Hp} {c n : Nat} (hc : c + 0 ≤ 0) (hn : n + 0 ≤ 0) (w : w_X9_takeTape_65  Q a2 a3 h) : SW E 65 ([some (vP (some (9, 0))), some (vP (some (7, 0))), some (vI (a2)), some (vI (a3))], [], h, c, n) := by
  refine k_X9_takeTape_65 cx hY (ctY hY (vc_X9_step (d := d + 6) w)) (by omega) (by omega) (by omega) (fun r h2 hp => ?_)
  obtain ⟨rfl, w⟩ := hp
  exact s_X9_takeTape_79 cx hY eq  (by omega) (by omega) w
theorem s_X9_takeTape_55 {E : EnvT} {d : Nat} (cx : CX E "ShoreDay$Tokens" cX9_takeTape 4 none "takeTape" (d + 8) 0 0) (hY : eY E = lay1) {Q : Hp → Prop} (eq : EQ E 0 0 (fun r h2 => r = [] ∧ Q h2)) {a2 : Int32} {a3 : Int32} {h : Hp} {c n : Nat} (hc : c + 0 ≤ 0) (hn : n + 0 ≤ 0) (w : w_X9_takeTape_55  Q a2 a3 h) : SW E 55 ([some (vP (some (9, 0))), some (vP (some (7, 0))), some (vI (a2)), some (vI (a3))], [], h, c, n) := by
  refine k_X9_takeTape_55 cx hY (ctY hY (vc_X9_put (d := d + 6) w)) (by omega) (by omega) (by omega) (fun r h2 hp => ?_)
  obtain ⟨rfl, w⟩ := hp
  exact s_X9_takeTape_65 cx hY eq  (by omega) (by omega) w
theorem s_X9_takeTape_47 {E : EnvT} {d : Nat} (cx : CX E "ShoreDay$Tokens" cX9_takeTape 4 none "takeTape" (d + 8) 0 0) (hY : eY E = lay1) {Q : Hp → Prop} (eq : EQ E 0 0 (fun r h2 => r = [] ∧ Q h2)) {K9 : Int32 → Int32 → Hp → Prop} (hK9 : ∀ (a2 : Int32) (a3 : Int32) (h : Hp) (c n : Nat), c + 0 ≤ 0 → n + 0 ≤ 0 → K9 a2 a3 h → SW E 9 ([some (vP (some (9, 0))), some (vP (some (7, 0))), some (vI (a2)), some (vI (a3))], [], h, c, n)) {a2 : Int32} {a3 : Int32} {s0 : Int32} {s1 : Int32} {h : Hp} {c n : Nat} (hc : c + 0 ≤ 0) (hn : n + 0 ≤ 0) (w : w_X9_takeTape_47 K9 Q a2 a3 s0 s1 h) : SW E 47 ([some (vP (some (9, 0))), some (vP (some (7, 0))), some (vI (a2)), some (vI (a3))], [vI (s1), vI (s0)], h, c, n) := by
  refine k_X9_takeTape_47 cx hY ?_
  exact hK9 _ _ _ _ _ (by omega) (by omega) w
theorem s_X9_takeTape_41 {E : EnvT} {d : Nat} (cx : CX E "ShoreDay$Tokens" cX9_takeTape 4 none "takeTape" (d + 8) 0 0) (hY : eY E = lay1) {Q : Hp → Prop} (eq : EQ E 0 0 (fun r h2 => r = [] ∧ Q h2)) {K9 : Int32 → Int32 → Hp → Prop} (hK9 : ∀ (a2 : Int32) (a3 : Int32) (h : Hp) (c n : Nat), c + 0 ≤ 0 → n + 0 ≤ 0 → K9 a2 a3 h → SW E 9 ([some (vP (some (9, 0))), some (vP (some (7, 0))), some (vI (a2)), some (vI (a3))], [], h, c, n)) {a2 : Int32} {a3 : Int32} {s0 : Int32} {h : Hp} {c n : Nat} (hc : c + 0 ≤ 0) (hn : n + 0 ≤ 0) (w : w_X9_takeTape_41 K9 Q a2 a3 s0 h) : SW E 41 ([some (vP (some (9, 0))), some (vP (some (7, 0))), some (vI (a2)), some (vI (a3))], [vI (s0)], h, c, n) := by
  refine k_X9_takeTape_41 cx hY (ctY hY (vc_X9_takeToken (d := d + 0) w)) (by omega) (by omega) (by omega) (fun r h2 hp => ?_)
  obtain ⟨r2, rfl, w⟩ := hp
  exact s_X9_takeTape_47 cx hY eq hK9 (by omega) (by omega) w
theorem s_X9_takeTape_37 {E : EnvT} {d : Nat} (cx : CX E "ShoreDay$Tokens" cX9_takeTape 4 none "takeTape" (d + 8) 0 0) (hY : eY E = lay1) {Q : Hp → Prop} (eq : EQ E 0 0 (fun r h2 => r = [] ∧ Q h2)) {K9 : Int32 → Int32 → Hp → Prop} (hK9 : ∀ (a2 : Int32) (a3 : Int32) (h : Hp) (c n : Nat), c + 0 ≤ 0 → n + 0 ≤ 0 → K9 a2 a3 h → SW E 9 ([some (vP (some (9, 0))), some (vP (some (7, 0))), some (vI (a2)), some (vI (a3))], [], h, c, n)) {a2 : Int32} {a3 : Int32} {s0 : Int32} {h : Hp} {c n : Nat} (hc : c + 0 ≤ 0) (hn : n + 0 ≤ 0) (w : w_X9_takeTape_37 K9 Q a2 a3 s0 h) : SW E 37 ([some (vP (some (9, 0))), some (vP (some (7, 0))), some (vI (a2)), some (vI (a3))], [vI (s0)], h, c, n) := by
  refine k_X9_takeTape_37 cx hY ?_
  exact s_X9_takeTape_47 cx hY eq hK9 (by omega) (by omega) w
theorem s_X9_takeTape_34 {E : EnvT} {d : Nat} (cx : CX E "ShoreDay$Tokens" cX9_takeTape 4 none "takeTape" (d + 8) 0 0) (hY : eY E = lay1) {Q : Hp → Prop} (eq : EQ E 0 0 (fun r h2 => r = [] ∧ Q h2)) {K9 : Int32 → Int32 → Hp → Prop} (hK9 : ∀ (a2 : Int32) (a3 : Int32) (h : Hp) (c n : Nat), c + 0 ≤ 0 → n + 0 ≤ 0 → K9 a2 a3 h → SW E 9 ([some (vP (some (9, 0))), some (vP (some (7, 0))), some (vI (a2)), some (vI (a3))], [], h, c, n)) {a2 : Int32} {a3 : Int32} {s0 : Int32} {s1 : Int32} {h : Hp} {c n : Nat} (hc : c + 0 ≤ 0) (hn : n + 0 ≤ 0) (w : w_X9_takeTape_34 K9 Q a2 a3 s0 s1 h) : SW E 34 ([some (vP (some (9, 0))), some (vP (some (7, 0))), some (vI (a2)), some (vI (a3))], [vI (s1), vI (s0)], h, c, n) := by
  refine k_X9_takeTape_34 cx hY (fun q => ?_) (fun q => ?_)
  · have w := w.1 q
    exact s_X9_takeTape_41 cx hY eq hK9 (by omega) (by omega) w
  · have w := w.2 q
    exact s_X9_takeTape_37 cx hY eq hK9 (by omega) (by omega) w
theorem s_X9_takeTape_24 {E : EnvT} {d : Nat} (cx : CX E "ShoreDay$Tokens" cX9_takeTape 4 none "takeTape" (d + 8) 0 0) (hY : eY E = lay1) {Q : Hp → Prop} (eq : EQ E 0 0 (fun r h2 => r = [] ∧ Q h2)) {K9 : Int32 → Int32 → Hp → Prop} (hK9 : ∀ (a2 : Int32) (a3 : Int32) (h : Hp) (c n : Nat), c + 0 ≤ 0 → n + 0 ≤ 0 → K9 a2 a3 h → SW E 9 ([some (vP (some (9, 0))), some (vP (some (7, 0))), some (vI (a2)), some (vI (a3))], [], h, c, n)) {a2 : Int32} {a3 : Int32} {h : Hp} {c n : Nat} (hc : c + 0 ≤ 0) (hn : n + 0 ≤ 0) (w : w_X9_takeTape_24 K9 Q a2 a3 h) : SW E 24 ([some (vP (some (9, 0))), some (vP (some (7, 0))), some (vI (a2)), some (vI (a3))], [], h, c, n) := by
  obtain ⟨G1, w⟩ := w
  refine k_X9_takeTape_24 cx hY G1 (ctY hY (vc_X9_isBlank (d := d + 6) w)) (by omega) (by omega) (by omega) (fun r h2 hp => ?_)
  obtain ⟨r2, rfl, w⟩ := hp
  exact s_X9_takeTape_34 cx hY eq hK9 (by omega) (by omega) w
theorem s_X9_takeTape_16 {E : EnvT} {d : Nat} (cx : CX E "ShoreDay$Tokens" cX9_takeTape 4 none "takeTape" (d + 8) 0 0) (hY : eY E = lay1) {Q : Hp → Prop} (eq : EQ E 0 0 (fun r h2 => r = [] ∧ Q h2)) {K9 : Int32 → Int32 → Hp → Prop} (hK9 : ∀ (a2 : Int32) (a3 : Int32) (h : Hp) (c n : Nat), c + 0 ≤ 0 → n + 0 ≤ 0 → K9 a2 a3 h → SW E 9 ([some (vP (some (9, 0))), some (vP (some (7, 0))), some (vI (a2)), some (vI (a3))], [], h, c, n)) {a2 : Int32} {a3 : Int32} {h : Hp} {c n : Nat} (hc : c + 0 ≤ 0) (hn : n + 0 ≤ 0) (w : w_X9_takeTape_16 K9 Q a2 a3 h) : SW E 16 ([some (vP (some (9, 0))), some (vP (some (7, 0))), some (vI (a2)), some (vI (a3))], [], h, c, n) := by
  refine k_X9_takeTape_16 cx hY (fun q => ?_) (fun q => ?_)
  · have w := w.1 q
    exact s_X9_takeTape_55 cx hY eq  (by omega) (by omega) w
  · have w := w.2 q
    exact s_X9_takeTape_24 cx hY eq hK9 (by omega) (by omega) w
theorem s_X9_takeTape_9 {E : EnvT} {d : Nat} (cx : CX E "ShoreDay$Tokens" cX9_takeTape 4 none "takeTape" (d + 8) 0 0) (hY : eY E = lay1) {Q : Hp → Prop} (eq : EQ E 0 0 (fun r h2 => r = [] ∧ Q h2)) : ∀ (N : Nat) (a2 : Int32) (a3 : Int32) (h : Hp) (c n : Nat), c + 0 ≤ 0 → n + 0 ≤ 0 → w_X9_takeTape_9  Q N a2 a3 h → SW E 9 ([some (vP (some (9, 0))), some (vP (some (7, 0))), some (vI (a2)), some (vI (a3))], [], h, c, n) := by
  intro N
  induction N with
  | zero =>
    intro _ _ h c n _ _ w
    exact w.elim
  | succ N ih =>
    intro a2 a3 h c n hc hn w
    refine k_X9_takeTape_9 cx hY (fun q => ?_) (fun q => ?_)
    · have w := w.1 q
      exact s_X9_takeTape_55 cx hY eq  (by omega) (by omega) w
    · have w := w.2 q
      exact s_X9_takeTape_16 cx hY eq ih (by omega) (by omega) w
theorem s_X9_takeTape_0 {E : EnvT} {d : Nat} (cx : CX E "ShoreDay$Tokens" cX9_takeTape 4 none "takeTape" (d + 8) 0 0) (hY : eY E = lay1) {Q : Hp → Prop} (eq : EQ E 0 0 (fun r h2 => r = [] ∧ Q h2)) {x2 : Option AVal} {x3 : Option AVal} {h : Hp} {c n : Nat} (hc : c + 0 ≤ 0) (hn : n + 0 ≤ 0) (w : w_X9_takeTape_0  Q  h) : SW E 0 ([some (vP (some (9, 0))), some (vP (some (7, 0))), x2, x3], [], h, c, n) := by
  refine k_X9_takeTape_0 cx hY ?_
  obtain ⟨N1, w⟩ := w
  exact s_X9_takeTape_9 cx hY eq  _ _ _ _ _ _ (by omega) (by omega) w
def wp_X9_takeTape (h : Hp) (Q : Hp → Prop) : Prop := w_X9_takeTape_0 Q  h
theorem vc_X9_takeTape {l : Launch} {d : Nat} {h : Hp} {Q : Hp → Prop} (w : wp_X9_takeTape h Q) : Ct l lay1 yX9_takeTape cX9_takeTape 4 none (d + 8) 0 0 [vP (some (9, 0)), vP (some (7, 0))] h (fun r h2 => r = [] ∧ Q h2) := by
  exact Ct.of (by decide) (Nat.le_of_ble_eq_true rfl) fun E cx eq hl hY => s_X9_takeTape_0 cx hY eq (Nat.le_refl _) (Nat.le_refl _) w
def w_X0_readTape_65 (Q : Int32 → Hp → Prop) (a1 : Int32) (h : Hp) : Prop := Q ((0 : Int32)) (wP (wP (h) 0 (0) 3 (gP (h) 0 (0) 4)) 0 (0) 4 (gP (h) 0 (0) 3))
def w_X0_readTape_59 (K20 : Int32 → Hp → Prop) (Q : Int32 → Hp → Prop) (a1 : Int32) (h : Hp) : Prop := K20 (a1 + 1) (h)
def w_X0_readTape_51 (Q : Int32 → Hp → Prop) (a1 : Int32) (h : Hp) : Prop := Q (gI (h) 4 (0) (2)) (h)
def w_X0_readTape_48 (K20 : Int32 → Hp → Prop) (Q : Int32 → Hp → Prop) (a1 : Int32) (s0 : Int32) (h : Hp) : Prop := (¬ (s0) = 0 → w_X0_readTape_59 K20 Q (a1) (h)) ∧ ((s0) = 0 → w_X0_readTape_51  Q (a1) (h))
def w_X0_readTape_37 (K20 : Int32 → Hp → Prop) (Q : Int32 → Hp → Prop) (a1 : Int32) (h : Hp) : Prop := wp_X4_readLine (gP (h) 0 (0) 4) (h) (fun r2 h2 => w_X0_readTape_48 K20 Q (a1) (r2) (h2))
def w_X0_readTape_26 (K20 : Int32 → Hp → Prop) (Q : Int32 → Hp → Prop) (a1 : Int32) (h : Hp) : Prop := ((gI (h) 9 (0) (5)) = ((1 : Int32)) → w_X0_readTape_65  Q (a1) (h)) ∧ (¬ (gI (h) 9 (0) (5)) = ((1 : Int32)) → w_X0_readTape_37 K20 Q (a1) (h))
def w_X0_readTape_20 (Q : Int32 → Hp → Prop) : Nat → Int32 → Hp → Prop
  | 0 => fun _ _ => False
  | N + 1 => fun a1 h => (((16 : Int32)) < (a1) → w_X0_readTape_65  Q (a1) (h)) ∧ (¬ ((16 : Int32)) < (a1) → w_X0_readTape_26 (w_X0_readTape_20  Q N) Q (a1) (h))
def w_X0_readTape_18 (Q : Int32 → Hp → Prop) (h : Hp) : Prop := ∃ N, w_X0_readTape_20  Q N ((0 : Int32)) (h)
def w_X0_readTape_11 (Q : Int32 → Hp → Prop) (h : Hp) : Prop := ∃ g1, gP (h) 0 (0) 4 = some (1, g1) ∧ (wp_X1_clear (g1) (h) (fun h2 => w_X0_readTape_18  Q (h2)))
def w_X0_readTape_0 (Q : Int32 → Hp → Prop) (h : Hp) : Prop := wp_X9_takeTape  (h) (fun h2 => w_X0_readTape_11  Q (h2))
theorem s_X0_readTape_65 {E : EnvT} {d : Nat} (cx : CX E "ShoreDay$FeeDesk" cX0_readTape 2 (some .int) "readTape" (d + 31) 0 0) (hY : eY E = lay1) {Q : Int32 → Hp → Prop} (eq : EQ E 0 0 (fun r h2 => ∃ x, r = [vI x] ∧ Q x h2)) {a1 : Int32} {h : Hp} {c n : Nat} (hc : c + 0 ≤ 0) (hn : n + 0 ≤ 0) (w : w_X0_readTape_65  Q a1 h) : SW E 65 ([some (vP (some (0, 0))), some (vI (a1))], [], h, c, n) := by
  exact k_X0_readTape_65 cx hY eq (by omega) (by omega) ⟨_, rfl, w⟩
theorem s_X0_readTape_59 {E : EnvT} {d : Nat} (cx : CX E "ShoreDay$FeeDesk" cX0_readTape 2 (some .int) "readTape" (d + 31) 0 0) (hY : eY E = lay1) {Q : Int32 → Hp → Prop} (eq : EQ E 0 0 (fun r h2 => ∃ x, r = [vI x] ∧ Q x h2)) {K20 : Int32 → Hp → Prop} (hK20 : ∀ (a1 : Int32) (h : Hp) (c n : Nat), c + 0 ≤ 0 → n + 0 ≤ 0 → K20 a1 h → SW E 20 ([some (vP (some (0, 0))), some (vI (a1))], [], h, c, n)) {a1 : Int32} {h : Hp} {c n : Nat} (hc : c + 0 ≤ 0) (hn : n + 0 ≤ 0) (w : w_X0_readTape_59 K20 Q a1 h) : SW E 59 ([some (vP (some (0, 0))), some (vI (a1))], [], h, c, n) := by
  refine k_X0_readTape_59 cx hY ?_
  exact hK20 _ _ _ _ (by omega) (by omega) w
theorem s_X0_readTape_51 {E : EnvT} {d : Nat} (cx : CX E "ShoreDay$FeeDesk" cX0_readTape 2 (some .int) "readTape" (d + 31) 0 0) (hY : eY E = lay1) {Q : Int32 → Hp → Prop} (eq : EQ E 0 0 (fun r h2 => ∃ x, r = [vI x] ∧ Q x h2)) {a1 : Int32} {h : Hp} {c n : Nat} (hc : c + 0 ≤ 0) (hn : n + 0 ≤ 0) (w : w_X0_readTape_51  Q a1 h) : SW E 51 ([some (vP (some (0, 0))), some (vI (a1))], [], h, c, n) := by
  exact k_X0_readTape_51 cx hY eq (by omega) (by omega) ⟨_, rfl, w⟩
theorem s_X0_readTape_48 {E : EnvT} {d : Nat} (cx : CX E "ShoreDay$FeeDesk" cX0_readTape 2 (some .int) "readTape" (d + 31) 0 0) (hY : eY E = lay1) {Q : Int32 → Hp → Prop} (eq : EQ E 0 0 (fun r h2 => ∃ x, r = [vI x] ∧ Q x h2)) {K20 : Int32 → Hp → Prop} (hK20 : ∀ (a1 : Int32) (h : Hp) (c n : Nat), c + 0 ≤ 0 → n + 0 ≤ 0 → K20 a1 h → SW E 20 ([some (vP (some (0, 0))), some (vI (a1))], [], h, c, n)) {a1 : Int32} {s0 : Int32} {h : Hp} {c n : Nat} (hc : c + 0 ≤ 0) (hn : n + 0 ≤ 0) (w : w_X0_readTape_48 K20 Q a1 s0 h) : SW E 48 ([some (vP (some (0, 0))), some (vI (a1))], [vI (s0)], h, c, n) := by
  refine k_X0_readTape_48 cx hY (fun q => ?_) (fun q => ?_)
  · have w := w.1 q
    exact s_X0_readTape_59 cx hY eq hK20 (by omega) (by omega) w
  · have w := w.2 q
    exact s_X0_readTape_51 cx hY eq  (by omega) (by omega) w
theorem s_X0_readTape_37 {E : EnvT} {d : Nat} (cx : CX E "ShoreDay$FeeDesk" cX0_readTape 2 (some .int) "readTape" (d + 31) 0 0) (hY : eY E = lay1) {Q : Int32 → Hp → Prop} (eq : EQ E 0 0 (fun r h2 => ∃ x, r = [vI x] ∧ Q x h2)) {K20 : Int32 → Hp → Prop} (hK20 : ∀ (a1 : Int32) (h : Hp) (c n : Nat), c + 0 ≤ 0 → n + 0 ≤ 0 → K20 a1 h → SW E 20 ([some (vP (some (0, 0))), some (vI (a1))], [], h, c, n)) {a1 : Int32} {h : Hp} {c n : Nat} (hc : c + 0 ≤ 0) (hn : n + 0 ≤ 0) (w : w_X0_readTape_37 K20 Q a1 h) : SW E 37 ([some (vP (some (0, 0))), some (vI (a1))], [], h, c, n) := by
  refine k_X0_readTape_37 cx hY (ctY hY (vc_X4_readLine (d := d + 0) w)) (by omega) (by omega) (by omega) (fun r h2 hp => ?_)
  obtain ⟨r2, rfl, w⟩ := hp
  exact s_X0_readTape_48 cx hY eq hK20 (by omega) (by omega) w
theorem s_X0_readTape_26 {E : EnvT} {d : Nat} (cx : CX E "ShoreDay$FeeDesk" cX0_readTape 2 (some .int) "readTape" (d + 31) 0 0) (hY : eY E = lay1) {Q : Int32 → Hp → Prop} (eq : EQ E 0 0 (fun r h2 => ∃ x, r = [vI x] ∧ Q x h2)) {K20 : Int32 → Hp → Prop} (hK20 : ∀ (a1 : Int32) (h : Hp) (c n : Nat), c + 0 ≤ 0 → n + 0 ≤ 0 → K20 a1 h → SW E 20 ([some (vP (some (0, 0))), some (vI (a1))], [], h, c, n)) {a1 : Int32} {h : Hp} {c n : Nat} (hc : c + 0 ≤ 0) (hn : n + 0 ≤ 0) (w : w_X0_readTape_26 K20 Q a1 h) : SW E 26 ([some (vP (some (0, 0))), some (vI (a1))], [], h, c, n) := by
  refine k_X0_readTape_26 cx hY (fun q => ?_) (fun q => ?_)
  · have w := w.1 q
    exact s_X0_readTape_65 cx hY eq  (by omega) (by omega) w
  · have w := w.2 q
    exact s_X0_readTape_37 cx hY eq hK20 (by omega) (by omega) w
theorem s_X0_readTape_20 {E : EnvT} {d : Nat} (cx : CX E "ShoreDay$FeeDesk" cX0_readTape 2 (some .int) "readTape" (d + 31) 0 0) (hY : eY E = lay1) {Q : Int32 → Hp → Prop} (eq : EQ E 0 0 (fun r h2 => ∃ x, r = [vI x] ∧ Q x h2)) : ∀ (N : Nat) (a1 : Int32) (h : Hp) (c n : Nat), c + 0 ≤ 0 → n + 0 ≤ 0 → w_X0_readTape_20  Q N a1 h → SW E 20 ([some (vP (some (0, 0))), some (vI (a1))], [], h, c, n) := by
  intro N
  induction N with
  | zero =>
    intro _ h c n _ _ w
    exact w.elim
  | succ N ih =>
    intro a1 h c n hc hn w
    refine k_X0_readTape_20 cx hY (fun q => ?_) (fun q => ?_)
    · have w := w.1 q
      exact s_X0_readTape_65 cx hY eq  (by omega) (by omega) w
    · have w := w.2 q
      exact s_X0_readTape_26 cx hY eq ih (by omega) (by omega) w
theorem s_X0_readTape_18 {E : EnvT} {d : Nat} (cx : CX E "ShoreDay$FeeDesk" cX0_readTape 2 (some .int) "readTape" (d + 31) 0 0) (hY : eY E = lay1) {Q : Int32 → Hp → Prop} (eq : EQ E 0 0 (fun r h2 => ∃ x, r = [vI x] ∧ Q x h2)) {x1 : Option AVal} {h : Hp} {c n : Nat} (hc : c + 0 ≤ 0) (hn : n + 0 ≤ 0) (w : w_X0_readTape_18  Q  h) : SW E 18 ([some (vP (some (0, 0))), x1], [], h, c, n) := by
  refine k_X0_readTape_18 cx hY ?_
  obtain ⟨N1, w⟩ := w
  exact s_X0_readTape_20 cx hY eq  _ _ _ _ _ (by omega) (by omega) w
theorem s_X0_readTape_11 {E : EnvT} {d : Nat} (cx : CX E "ShoreDay$FeeDesk" cX0_readTape 2 (some .int) "readTape" (d + 31) 0 0) (hY : eY E = lay1) {Q : Int32 → Hp → Prop} (eq : EQ E 0 0 (fun r h2 => ∃ x, r = [vI x] ∧ Q x h2)) {x1 : Option AVal} {h : Hp} {c n : Nat} (hc : c + 0 ≤ 0) (hn : n + 0 ≤ 0) (w : w_X0_readTape_11  Q  h) : SW E 11 ([some (vP (some (0, 0))), x1], [], h, c, n) := by
  obtain ⟨g1, e1, w⟩ := w
  refine k_X0_readTape_11 cx hY e1 (ctY hY (vc_X1_clear (d := d + 29) w)) (by omega) (by omega) (by omega) (fun r h2 hp => ?_)
  obtain ⟨rfl, w⟩ := hp
  exact s_X0_readTape_18 cx hY eq  (by omega) (by omega) w
theorem s_X0_readTape_0 {E : EnvT} {d : Nat} (cx : CX E "ShoreDay$FeeDesk" cX0_readTape 2 (some .int) "readTape" (d + 31) 0 0) (hY : eY E = lay1) {Q : Int32 → Hp → Prop} (eq : EQ E 0 0 (fun r h2 => ∃ x, r = [vI x] ∧ Q x h2)) {x1 : Option AVal} {h : Hp} {c n : Nat} (hc : c + 0 ≤ 0) (hn : n + 0 ≤ 0) (w : w_X0_readTape_0  Q  h) : SW E 0 ([some (vP (some (0, 0))), x1], [], h, c, n) := by
  refine k_X0_readTape_0 cx hY (ctY hY (vc_X9_takeTape (d := d + 22) w)) (by omega) (by omega) (by omega) (fun r h2 hp => ?_)
  obtain ⟨rfl, w⟩ := hp
  exact s_X0_readTape_11 cx hY eq  (by omega) (by omega) w
def wp_X0_readTape (h : Hp) (Q : Int32 → Hp → Prop) : Prop := w_X0_readTape_0 Q  h
theorem vc_X0_readTape {l : Launch} {d : Nat} {h : Hp} {Q : Int32 → Hp → Prop} (w : wp_X0_readTape h Q) : Ct l lay1 yX0_readTape cX0_readTape 2 (some .int) (d + 31) 0 0 [vP (some (0, 0))] h (fun r h2 => ∃ x, r = [vI x] ∧ Q x h2) := by
  exact Ct.of (by decide) (Nat.le_of_ble_eq_true rfl) fun E cx eq hl hY => s_X0_readTape_0 cx hY eq (Nat.le_refl _) (Nat.le_refl _) w
def w_X11_text_7 (Q : Int32 → Hp → Prop) (s0 : Int32) (h : Hp) : Prop := Q (s0) (h)
def w_X11_text_0 (Q : Int32 → Hp → Prop) (h : Hp) : Prop := wp_X0_readTape  (h) (fun r2 h2 => w_X11_text_7  Q (r2) (h2))
theorem s_X11_text_7 {E : EnvT} {d : Nat} (cx : CX E "ShoreDay" cX11_text 1 (some .int) "text" (d + 32) 0 0) (hY : eY E = lay1) {Q : Int32 → Hp → Prop} (eq : EQ E 0 0 (fun r h2 => ∃ x, r = [vI x] ∧ Q x h2)) {s0 : Int32} {h : Hp} {c n : Nat} (hc : c + 0 ≤ 0) (hn : n + 0 ≤ 0) (w : w_X11_text_7  Q s0 h) : SW E 7 ([some (vP (some (11, 0)))], [vI (s0)], h, c, n) := by
  exact k_X11_text_7 cx hY eq (by omega) (by omega) ⟨_, rfl, w⟩
theorem s_X11_text_0 {E : EnvT} {d : Nat} (cx : CX E "ShoreDay" cX11_text 1 (some .int) "text" (d + 32) 0 0) (hY : eY E = lay1) {Q : Int32 → Hp → Prop} (eq : EQ E 0 0 (fun r h2 => ∃ x, r = [vI x] ∧ Q x h2)) {h : Hp} {c n : Nat} (hc : c + 0 ≤ 0) (hn : n + 0 ≤ 0) (w : w_X11_text_0  Q  h) : SW E 0 ([some (vP (some (11, 0)))], [], h, c, n) := by
  refine k_X11_text_0 cx hY (ctY hY (vc_X0_readTape (d := d + 0) w)) (by omega) (by omega) (by omega) (fun r h2 hp => ?_)
  obtain ⟨r2, rfl, w⟩ := hp
  exact s_X11_text_7 cx hY eq  (by omega) (by omega) w
def wp_X11_text (h : Hp) (Q : Int32 → Hp → Prop) : Prop := w_X11_text_0 Q  h
theorem vc_X11_text {l : Launch} {d : Nat} {h : Hp} {Q : Int32 → Hp → Prop} (w : wp_X11_text h Q) : Ct l lay1 yX11_text cX11_text 1 (some .int) (d + 32) 0 0 [vP (some (11, 0))] h (fun r h2 => ∃ x, r = [vI x] ∧ Q x h2) := by
  exact Ct.of (by decide) (Nat.le_of_ble_eq_true rfl) fun E cx eq hl hY => s_X11_text_0 cx hY eq (Nat.le_refl _) (Nat.le_refl _) w
