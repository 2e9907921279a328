def w_X4_readPart_120 (R0 : Int32 → Hp → (Int32 → Hp → Prop) → Prop) (Q : Int32 → Hp → Prop) (a1 : Int32) (a2 : Int32) (a3 : Int32) (h : Hp) : Prop := Q ((1 : Int32)) (h)
def w_X4_readPart_113 (R0 : Int32 → Hp → (Int32 → Hp → Prop) → Prop) (Q : Int32 → Hp → Prop) (a1 : Int32) (a2 : Int32) (a3 : Int32) (h : Hp) : Prop := wp_X9_step  (h) (fun h2 => w_X4_readPart_120 R0  Q (a1) (a2) (a3) (h2))
def w_X4_readPart_112 (R0 : Int32 → Hp → (Int32 → Hp → Prop) → Prop) (Q : Int32 → Hp → Prop) (a1 : Int32) (a2 : Int32) (a3 : Int32) (s0 : Int32) (h : Hp) : Prop := ((s0) = 0 ∨ (s0) = 1) ∧ Q (s0) (h)
def w_X4_readPart_107 (R0 : Int32 → Hp → (Int32 → Hp → Prop) → Prop) (Q : Int32 → Hp → Prop) (a1 : Int32) (a2 : Int32) (a3 : Int32) (h : Hp) : Prop := wp_X4_fail ((1 : Int32)) (h) (fun r2 h2 => w_X4_readPart_112 R0  Q (a1) (a2) (a3) (r2) (h2))
def w_X4_readPart_95 (R0 : Int32 → Hp → (Int32 → Hp → Prop) → Prop) (Q : Int32 → Hp → Prop) (a1 : Int32) (a2 : Int32) (a3 : Int32) (h : Hp) : Prop := ((gI (h) 9 (0) (5)) = ((7 : Int32)) → w_X4_readPart_113 R0  Q (a1) (a2) (a3) (h)) ∧ (¬ (gI (h) 9 (0) (5)) = ((7 : Int32)) → w_X4_readPart_107 R0  Q (a1) (a2) (a3) (h))
def w_X4_readPart_93 (R0 : Int32 → Hp → (Int32 → Hp → Prop) → Prop) (Q : Int32 → Hp → Prop) (a1 : Int32) (a2 : Int32) (a3 : Int32) (h : Hp) : Prop := Q ((0 : Int32)) (h)
def w_X4_readPart_90 (R0 : Int32 → Hp → (Int32 → Hp → Prop) → Prop) (Q : Int32 → Hp → Prop) (a1 : Int32) (a2 : Int32) (a3 : Int32) (s0 : Int32) (h : Hp) : Prop := (¬ (s0) = 0 → w_X4_readPart_95 R0  Q (a1) (a2) (a3) (h)) ∧ ((s0) = 0 → w_X4_readPart_93 R0  Q (a1) (a2) (a3) (h))
def w_X4_readPart_83 (R0 : Int32 → Hp → (Int32 → Hp → Prop) → Prop) (Q : Int32 → Hp → Prop) (a1 : Int32) (a2 : Int32) (a3 : Int32) (h : Hp) : Prop := R0 ((a1) + ((1 : Int32))) (h) (fun r2 h2 => w_X4_readPart_90 R0  Q (a1) (a2) (a3) (r2) (h2))
def w_X4_readPart_81 (R0 : Int32 → Hp → (Int32 → Hp → Prop) → Prop) (Q : Int32 → Hp → Prop) (a1 : Int32) (a2 : Int32) (a3 : Int32) (h : Hp) : Prop := Q ((1 : Int32)) (h)
def w_X4_readPart_78 (R0 : Int32 → Hp → (Int32 → Hp → Prop) → Prop) (Q : Int32 → Hp → Prop) (a1 : Int32) (a2 : Int32) (a3 : Int32) (j0 : Nat) (s1 : Int32) (h : Hp) : Prop := wp_X1_put (j0) (s1) (h) (fun h2 => w_X4_readPart_81 R0  Q (a1) (a2) (a3) (h2))
def w_X4_readPart_76 (R0 : Int32 → Hp → (Int32 → Hp → Prop) → Prop) (Q : Int32 → Hp → Prop) (a1 : Int32) (a2 : Int32) (a3 : Int32) (q0 : Option PtrT) (h : Hp) : Prop := ∃ zs0, q0 = some (1, zs0) ∧ (w_X4_readPart_78 R0  Q (a1) (a2) (a3) zs0 (-(a2)) (h))
def w_X4_readPart_72 (R0 : Int32 → Hp → (Int32 → Hp → Prop) → Prop) (Q : Int32 → Hp → Prop) (a1 : Int32) (a2 : Int32) (a3 : Int32) (q0 : Option PtrT) (h : Hp) : Prop := ∃ zs0, q0 = some (1, zs0) ∧ (w_X4_readPart_78 R0  Q (a1) (a2) (a3) zs0 (a3) (h))
def w_X4_readPart_63 (R0 : Int32 → Hp → (Int32 → Hp → Prop) → Prop) (Q : Int32 → Hp → Prop) (a1 : Int32) (a2 : Int32) (a3 : Int32) (h : Hp) : Prop := (¬ (a2) = ((2 : Int32)) → w_X4_readPart_76 R0  Q (a1) (a2) (a3) (gP (h) 4 (0) 1) (h)) ∧ ((a2) = ((2 : Int32)) → w_X4_readPart_72 R0  Q (a1) (a2) (a3) (gP (h) 4 (0) 1) (h))
def w_X4_readPart_57 (R0 : Int32 → Hp → (Int32 → Hp → Prop) → Prop) (Q : Int32 → Hp → Prop) (a1 : Int32) (a2 : Int32) (a3 : Int32) (h : Hp) : Prop := ((a2) = ((6 : Int32)) → w_X4_readPart_83 R0  Q (a1) (a2) (a3) (h)) ∧ (¬ (a2) = ((6 : Int32)) → w_X4_readPart_63 R0  Q (a1) (a2) (a3) (h))
def w_X4_readPart_42 (R0 : Int32 → Hp → (Int32 → Hp → Prop) → Prop) (Q : Int32 → Hp → Prop) (a1 : Int32) (a2 : Int32) (h : Hp) : Prop := wp_X9_step  (h) (fun h2 => w_X4_readPart_57 R0  Q (a1) (a2) (gI (h) 9 (0) (7)) (h2))
def w_X4_readPart_41 (R0 : Int32 → Hp → (Int32 → Hp → Prop) → Prop) (Q : Int32 → Hp → Prop) (a1 : Int32) (a2 : Int32) (s0 : Int32) (h : Hp) : Prop := ((s0) = 0 ∨ (s0) = 1) ∧ Q (s0) (h)
def w_X4_readPart_36 (R0 : Int32 → Hp → (Int32 → Hp → Prop) → Prop) (Q : Int32 → Hp → Prop) (a1 : Int32) (a2 : Int32) (h : Hp) : Prop := wp_X4_fail ((5 : Int32)) (h) (fun r2 h2 => w_X4_readPart_41 R0  Q (a1) (a2) (r2) (h2))
def w_X4_readPart_31 (R0 : Int32 → Hp → (Int32 → Hp → Prop) → Prop) (Q : Int32 → Hp → Prop) (a1 : Int32) (a2 : Int32) (h : Hp) : Prop := ((a1) < ((5 : Int32)) → w_X4_readPart_42 R0  Q (a1) (a2) (h)) ∧ (¬ (a1) < ((5 : Int32)) → w_X4_readPart_36 R0  Q (a1) (a2) (h))
def w_X4_readPart_30 (R0 : Int32 → Hp → (Int32 → Hp → Prop) → Prop) (Q : Int32 → Hp → Prop) (a1 : Int32) (a2 : Int32) (s0 : Int32) (h : Hp) : Prop := ((s0) = 0 ∨ (s0) = 1) ∧ Q (s0) (h)
def w_X4_readPart_25 (R0 : Int32 → Hp → (Int32 → Hp → Prop) → Prop) (Q : Int32 → Hp → Prop) (a1 : Int32) (a2 : Int32) (h : Hp) : Prop := wp_X4_fail ((1 : Int32)) (h) (fun r2 h2 => w_X4_readPart_30 R0  Q (a1) (a2) (r2) (h2))
def w_X4_readPart_19 (R0 : Int32 → Hp → (Int32 → Hp → Prop) → Prop) (Q : Int32 → Hp → Prop) (a1 : Int32) (a2 : Int32) (h : Hp) : Prop := (((13 : Int32)) ≤ (a2) → w_X4_readPart_31 R0  Q (a1) (a2) (h)) ∧ (¬ ((13 : Int32)) ≤ (a2) → w_X4_readPart_25 R0  Q (a1) (a2) (h))
def w_X4_readPart_13 (R0 : Int32 → Hp → (Int32 → Hp → Prop) → Prop) (Q : Int32 → Hp → Prop) (a1 : Int32) (a2 : Int32) (h : Hp) : Prop := ((a2) = ((6 : Int32)) → w_X4_readPart_31 R0  Q (a1) (a2) (h)) ∧ (¬ (a2) = ((6 : Int32)) → w_X4_readPart_19 R0  Q (a1) (a2) (h))
def w_X4_readPart_0 (R0 : Int32 → Hp → (Int32 → Hp → Prop) → Prop) (Q : Int32 → Hp → Prop) (a1 : Int32) (h : Hp) : Prop := ((gI (h) 9 (0) (5)) = ((2 : Int32)) → w_X4_readPart_31 R0  Q (a1) (gI (h) 9 (0) (5)) (h)) ∧ (¬ (gI (h) 9 (0) (5)) = ((2 : Int32)) → w_X4_readPart_13 R0  Q (a1) (gI (h) 9 (0) (5)) (h))
theorem s_X4_readPart_120 {E : EnvT} {d : Nat} (cx : CX E "ShoreDay$Parser" cX4_readPart 4 (some .boolean) "readPart" (d + 2) 0 0) (hY : eY E = lay1) {Q : Int32 → Hp → Prop} (eq : EQ E 0 0 (fun r h2 => ∃ x, r = [vI x] ∧ Q x h2)) {R0 : Int32 → Hp → (Int32 → Hp → Prop) → Prop} (hR0 : ∀ a h Q, R0 a h Q → Ct (eL E) lay1 yX4_readAll cX4_readAll 4 (some .boolean) (d + 1) 0 0 [vP (some (4, 0)), vI a] h (fun r h2 => ∃ x, r = [vI x] ∧ Q x h2)) {a1 : Int32} {a2 : Int32} {a3 : Int32} {h : Hp} {c n : Nat} (hc : c + 0 ≤ 0) (hn : n + 0 ≤ 0) (w : w_X4_readPart_120 R0  Q a1 a2 a3 h) : SW E 120 ([some (vP (some (4, 0))), some (vI (a1)), some (vI (a2)), some (vI (a3))], [], h, c, n) := by
  exact k_X4_readPart_120 cx hY eq (by omega) (by omega) ⟨_, rfl, w⟩
theorem s_X4_readPart_113 {E : EnvT} {d : Nat} (cx : CX E "ShoreDay$Parser" cX4_readPart 4 (some .boolean) "readPart" (d + 2) 0 0) (hY : eY E = lay1) {Q : Int32 → Hp → Prop} (eq : EQ E 0 0 (fun r h2 => ∃ x, r = [vI x] ∧ Q x h2)) {R0 : Int32 → Hp → (Int32 → Hp → Prop) → Prop} (hR0 : ∀ a h Q, R0 a h Q → Ct (eL E) lay1 yX4_readAll cX4_readAll 4 (some .boolean) (d + 1) 0 0 [vP (some (4, 0)), vI a] h (fun r h2 => ∃ x, r = [vI x] ∧ Q x h2)) {a1 : Int32} {a2 : Int32} {a3 : Int32} {h : Hp} {c n : Nat} (hc : c + 0 ≤ 0) (hn : n + 0 ≤ 0) (w : w_X4_readPart_113 R0  Q a1 a2 a3 h) : SW E 113 ([some (vP (some (4, 0))), some (vI (a1)), some (vI (a2)), some (vI (a3))], [], h, c, n) := by
  refine k_X4_readPart_113 cx hY (ctY hY (vc_X9_step (d := d + 0) w)) (by omega) (by omega) (by omega) (fun r h2 hp => ?_)
  obtain ⟨rfl, w⟩ := hp
  exact s_X4_readPart_120 cx hY eq hR0  (by omega) (by omega) w
theorem s_X4_readPart_112 {E : EnvT} {d : Nat} (cx : CX E "ShoreDay$Parser" cX4_readPart 4 (some .boolean) "readPart" (d + 2) 0 0) (hY : eY E = lay1) {Q : Int32 → Hp → Prop} (eq : EQ E 0 0 (fun r h2 => ∃ x, r = [vI x] ∧ Q x h2)) {R0 : Int32 → Hp → (Int32 → Hp → Prop) → Prop} (hR0 : ∀ a h Q, R0 a h Q → Ct (eL E) lay1 yX4_readAll cX4_readAll 4 (some .boolean) (d + 1) 0 0 [vP (some (4, 0)), vI a] h (fun r h2 => ∃ x, r = [vI x] ∧ Q x h2)) {a1 : Int32} {a2 : Int32} {a3 : Int32} {s0 : Int32} {h : Hp} {c n : Nat} (hc : c + 0 ≤ 0) (hn : n + 0 ≤ 0) (w : w_X4_readPart_112 R0  Q a1 a2 a3 s0 h) : SW E 112 ([some (vP (some (4, 0))), some (vI (a1)), some (vI (a2)), some (vI (a3))], [vI (s0)], h, c, n) := by
  exact k_X4_readPart_112 cx hY eq (by omega) (by omega) w.1 ⟨_, rfl, w.2⟩
theorem s_X4_readPart_107 {E : EnvT} {d : Nat} (cx : CX E "ShoreDay$Parser" cX4_readPart 4 (some .boolean) "readPart" (d + 2) 0 0) (hY : eY E = lay1) {Q : Int32 → Hp → Prop} (eq : EQ E 0 0 (fun r h2 => ∃ x, r = [vI x] ∧ Q x h2)) {R0 : Int32 → Hp → (Int32 → Hp → Prop) → Prop} (hR0 : ∀ a h Q, R0 a h Q → Ct (eL E) lay1 yX4_readAll cX4_readAll 4 (some .boolean) (d + 1) 0 0 [vP (some (4, 0)), vI a] h (fun r h2 => ∃ x, r = [vI x] ∧ Q x h2)) {a1 : Int32} {a2 : Int32} {a3 : Int32} {h : Hp} {c n : Nat} (hc : c + 0 ≤ 0) (hn : n + 0 ≤ 0) (w : w_X4_readPart_107 R0  Q a1 a2 a3 h) : SW E 107 ([some (vP (some (4, 0))), some (vI (a1)), some (vI (a2)), some (vI (a3))], [], h, c, n) := by
  refine k_X4_readPart_107 cx hY (ctY hY (vc_X4_fail (d := d + 0) w)) (by omega) (by omega) (by omega) (fun r h2 hp => ?_)
  obtain ⟨r2, rfl, w⟩ := hp
  exact s_X4_readPart_112 cx hY eq hR0  (by omega) (by omega) w
theorem s_X4_readPart_95 {E : EnvT} {d : Nat} (cx : CX E "ShoreDay$Parser" cX4_readPart 4 (some .boolean) "readPart" (d + 2) 0 0) (hY : eY E = lay1) {Q : Int32 → Hp → Prop} (eq : EQ E 0 0 (fun r h2 => ∃ x, r = [vI x] ∧ Q x h2)) {R0 : Int32 → Hp → (Int32 → Hp → Prop) → Prop} (hR0 : ∀ a h Q, R0 a h Q → Ct (eL E) lay1 yX4_readAll cX4_readAll 4 (some .boolean) (d + 1) 0 0 [vP (some (4, 0)), vI a] h (fun r h2 => ∃ x, r = [vI x] ∧ Q x h2)) {a1 : Int32} {a2 : Int32} {a3 : Int32} {h : Hp} {c n : Nat} (hc : c + 0 ≤ 0) (hn : n + 0 ≤ 0) (w : w_X4_readPart_95 R0  Q a1 a2 a3 h) : SW E 95 ([some (vP (some (4, 0))), some (vI (a1)), some (vI (a2)), some (vI (a3))], [], h, c, n) := by
  refine k_X4_readPart_95 cx hY (fun q => ?_) (fun q => ?_)
  · have w := w.1 q
    exact s_X4_readPart_113 cx hY eq hR0  (by omega) (by omega) w
  · have w := w.2 q
    exact s_X4_readPart_107 cx hY eq hR0  (by omega) (by omega) w
theorem s_X4_readPart_93 {E : EnvT} {d : Nat} (cx : CX E "ShoreDay$Parser" cX4_readPart 4 (some .boolean) "readPart" (d + 2) 0 0) (hY : eY E = lay1) {Q : Int32 → Hp → Prop} (eq : EQ E 0 0 (fun r h2 => ∃ x, r = [vI x] ∧ Q x h2)) {R0 : Int32 → Hp → (Int32 → Hp → Prop) → Prop} (hR0 : ∀ a h Q, R0 a h Q → Ct (eL E) lay1 yX4_readAll cX4_readAll 4 (some .boolean) (d + 1) 0 0 [vP (some (4, 0)), vI a] h (fun r h2 => ∃ x, r = [vI x] ∧ Q x h2)) {a1 : Int32} {a2 : Int32} {a3 : Int32} {h : Hp} {c n : Nat} (hc : c + 0 ≤ 0) (hn : n + 0 ≤ 0) (w : w_X4_readPart_93 R0  Q a1 a2 a3 h) : SW E 93 ([some (vP (some (4, 0))), some (vI (a1)), some (vI (a2)), some (vI (a3))], [], h, c, n) := by
  exact k_X4_readPart_93 cx hY eq (by omega) (by omega) ⟨_, rfl, w⟩
theorem s_X4_readPart_90 {E : EnvT} {d : Nat} (cx : CX E "ShoreDay$Parser" cX4_readPart 4 (some .boolean) "readPart" (d + 2) 0 0) (hY : eY E = lay1) {Q : Int32 → Hp → Prop} (eq : EQ E 0 0 (fun r h2 => ∃ x, r = [vI x] ∧ Q x h2)) {R0 : Int32 → Hp → (Int32 → Hp → Prop) → Prop} (hR0 : ∀ a h Q, R0 a h Q → Ct (eL E) lay1 yX4_readAll cX4_readAll 4 (some .boolean) (d + 1) 0 0 [vP (some (4, 0)), vI a] h (fun r h2 => ∃ x, r = [vI x] ∧ Q x h2)) {a1 : Int32} {a2 : Int32} {a3 : Int32} {s0 : Int32} {h : Hp} {c n : Nat} (hc : c + 0 ≤ 0) (hn : n + 0 ≤ 0) (w : w_X4_readPart_90 R0  Q a1 a2 a3 s0 h) : SW E 90 ([some (vP (some (4, 0))), some (vI (a1)), some (vI (a2)), some (vI (a3))], [vI (s0)], h, c, n) := by
  refine k_X4_readPart_90 cx hY (fun q => ?_) (fun q => ?_)
  · have w := w.1 q
    exact s_X4_readPart_95 cx hY eq hR0  (by omega) (by omega) w
  · have w := w.2 q
    exact s_X4_readPart_93 cx hY eq hR0  (by omega) (by omega) w
theorem s_X4_readPart_83 {E : EnvT} {d : Nat} (cx : CX E "ShoreDay$Parser" cX4_readPart 4 (some .boolean) "readPart" (d + 2) 0 0) (hY : eY E = lay1) {Q : Int32 → Hp → Prop} (eq : EQ E 0 0 (fun r h2 => ∃ x, r = [vI x] ∧ Q x h2)) {R0 : Int32 → Hp → (Int32 → Hp → Prop) → Prop} (hR0 : ∀ a h Q, R0 a h Q → Ct (eL E) lay1 yX4_readAll cX4_readAll 4 (some .boolean) (d + 1) 0 0 [vP (some (4, 0)), vI a] h (fun r h2 => ∃ x, r = [vI x] ∧ Q x h2)) {a1 : Int32} {a2 : Int32} {a3 : Int32} {h : Hp} {c n : Nat} (hc : c + 0 ≤ 0) (hn : n + 0 ≤ 0) (w : w_X4_readPart_83 R0  Q a1 a2 a3 h) : SW E 83 ([some (vP (some (4, 0))), some (vI (a1)), some (vI (a2)), some (vI (a3))], [], h, c, n) := by
  refine k_X4_readPart_83 cx hY (ctY hY (hR0 _ _ _ w)) (by omega) (by omega) (by omega) (fun r h2 hp => ?_)
  obtain ⟨r2, rfl, w⟩ := hp
  exact s_X4_readPart_90 cx hY eq hR0  (by omega) (by omega) w
theorem s_X4_readPart_81 {E : EnvT} {d : Nat} (cx : CX E "ShoreDay$Parser" cX4_readPart 4 (some .boolean) "readPart" (d + 2) 0 0) (hY : eY E = lay1) {Q : Int32 → Hp → Prop} (eq : EQ E 0 0 (fun r h2 => ∃ x, r = [vI x] ∧ Q x h2)) {R0 : Int32 → Hp → (Int32 → Hp → Prop) → Prop} (hR0 : ∀ a h Q, R0 a h Q → Ct (eL E) lay1 yX4_readAll cX4_readAll 4 (some .boolean) (d + 1) 0 0 [vP (some (4, 0)), vI a] h (fun r h2 => ∃ x, r = [vI x] ∧ Q x h2)) {a1 : Int32} {a2 : Int32} {a3 : Int32} {h : Hp} {c n : Nat} (hc : c + 0 ≤ 0) (hn : n + 0 ≤ 0) (w : w_X4_readPart_81 R0  Q a1 a2 a3 h) : SW E 81 ([some (vP (some (4, 0))), some (vI (a1)), some (vI (a2)), some (vI (a3))], [], h, c, n) := by
  exact k_X4_readPart_81 cx hY eq (by omega) (by omega) ⟨_, rfl, w⟩
theorem s_X4_readPart_78 {E : EnvT} {d : Nat} (cx : CX E "ShoreDay$Parser" cX4_readPart 4 (some .boolean) "readPart" (d + 2) 0 0) (hY : eY E = lay1) {Q : Int32 → Hp → Prop} (eq : EQ E 0 0 (fun r h2 => ∃ x, r = [vI x] ∧ Q x h2)) {R0 : Int32 → Hp → (Int32 → Hp → Prop) → Prop} (hR0 : ∀ a h Q, R0 a h Q → Ct (eL E) lay1 yX4_readAll cX4_readAll 4 (some .boolean) (d + 1) 0 0 [vP (some (4, 0)), vI a] h (fun r h2 => ∃ x, r = [vI x] ∧ Q x h2)) {a1 : Int32} {a2 : Int32} {a3 : Int32} {j0 : Nat} {s1 : Int32} {h : Hp} {c n : Nat} (hc : c + 0 ≤ 0) (hn : n + 0 ≤ 0) (w : w_X4_readPart_78 R0  Q a1 a2 a3 j0 s1 h) : SW E 78 ([some (vP (some (4, 0))), some (vI (a1)), some (vI (a2)), some (vI (a3))], [vI (s1), vP (some (1, j0))], h, c, n) := by
  refine k_X4_readPart_78 cx hY (ctY hY (vc_X1_put (d := d + 0) w)) (by omega) (by omega) (by omega) (fun r h2 hp => ?_)
  obtain ⟨rfl, w⟩ := hp
  exact s_X4_readPart_81 cx hY eq hR0  (by omega) (by omega) w
theorem s_X4_readPart_76 {E : EnvT} {d : Nat} (cx : CX E "ShoreDay$Parser" cX4_readPart 4 (some .boolean) "readPart" (d + 2) 0 0) (hY : eY E = lay1) {Q : Int32 → Hp → Prop} (eq : EQ E 0 0 (fun r h2 => ∃ x, r = [vI x] ∧ Q x h2)) {R0 : Int32 → Hp → (Int32 → Hp → Prop) → Prop} (hR0 : ∀ a h Q, R0 a h Q → Ct (eL E) lay1 yX4_readAll cX4_readAll 4 (some .boolean) (d + 1) 0 0 [vP (some (4, 0)), vI a] h (fun r h2 => ∃ x, r = [vI x] ∧ Q x h2)) {a1 : Int32} {a2 : Int32} {a3 : Int32} {q0 : Option PtrT} {h : Hp} {c n : Nat} (hc : c + 0 ≤ 0) (hn : n + 0 ≤ 0) (w : w_X4_readPart_76 R0  Q a1 a2 a3 q0 h) : SW E 76 ([some (vP (some (4, 0))), some (vI (a1)), some (vI (a2)), some (vI (a3))], [vP (q0)], h, c, n) := by
  refine k_X4_readPart_76 cx hY ?_
  obtain ⟨zs0, ezs0, w⟩ := w
  rw [ezs0]
  exact s_X4_readPart_78 cx hY eq hR0  (by omega) (by omega) w
theorem s_X4_readPart_72 {E : EnvT} {d : Nat} (cx : CX E "ShoreDay$Parser" cX4_readPart 4 (some .boolean) "readPart" (d + 2) 0 0) (hY : eY E = lay1) {Q : Int32 → Hp → Prop} (eq : EQ E 0 0 (fun r h2 => ∃ x, r = [vI x] ∧ Q x h2)) {R0 : Int32 → Hp → (Int32 → Hp → Prop) → Prop} (hR0 : ∀ a h Q, R0 a h Q → Ct (eL E) lay1 yX4_readAll cX4_readAll 4 (some .boolean) (d + 1) 0 0 [vP (some (4, 0)), vI a] h (fun r h2 => ∃ x, r = [vI x] ∧ Q x h2)) {a1 : Int32} {a2 : Int32} {a3 : Int32} {q0 : Option PtrT} {h : Hp} {c n : Nat} (hc : c + 0 ≤ 0) (hn : n + 0 ≤ 0) (w : w_X4_readPart_72 R0  Q a1 a2 a3 q0 h) : SW E 72 ([some (vP (some (4, 0))), some (vI (a1)), some (vI (a2)), some (vI (a3))], [vP (q0)], h, c, n) := by
  refine k_X4_readPart_72 cx hY ?_
  obtain ⟨zs0, ezs0, w⟩ := w
  rw [ezs0]
  exact s_X4_readPart_78 cx hY eq hR0  (by omega) (by omega) w
theorem s_X4_readPart_63 {E : EnvT} {d : Nat} (cx : CX E "ShoreDay$Parser" cX4_readPart 4 (some .boolean) "readPart" (d + 2) 0 0) (hY : eY E = lay1) {Q : Int32 → Hp → Prop} (eq : EQ E 0 0 (fun r h2 => ∃ x, r = [vI x] ∧ Q x h2)) {R0 : Int32 → Hp → (Int32 → Hp → Prop) → Prop} (hR0 : ∀ a h Q, R0 a h Q → Ct (eL E) lay1 yX4_readAll cX4_readAll 4 (some .boolean) (d + 1) 0 0 [vP (some (4, 0)), vI a] h (fun r h2 => ∃ x, r = [vI x] ∧ Q x h2)) {a1 : Int32} {a2 : Int32} {a3 : Int32} {h : Hp} {c n : Nat} (hc : c + 0 ≤ 0) (hn : n + 0 ≤ 0) (w : w_X4_readPart_63 R0  Q a1 a2 a3 h) : SW E 63 ([some (vP (some (4, 0))), some (vI (a1)), some (vI (a2)), some (vI (a3))], [], h, c, n) := by
  refine k_X4_readPart_63 cx hY (fun q => ?_) (fun q => ?_)
  · have w := w.1 q
    exact s_X4_readPart_76 cx hY eq hR0  (by omega) (by omega) w
  · have w := w.2 q
    exact s_X4_readPart_72 cx hY eq hR0  (by omega) (by omega) w
theorem s_X4_readPart_57 {E : EnvT} {d : Nat} (cx : CX E "ShoreDay$Parser" cX4_readPart 4 (some .boolean) "readPart" (d + 2) 0 0) (hY : eY E = lay1) {Q : Int32 → Hp → Prop} (eq : EQ E 0 0 (fun r h2 => ∃ x, r = [vI x] ∧ Q x h2)) {R0 : Int32 → Hp → (Int32 → Hp → Prop) → Prop} (hR0 : ∀ a h Q, R0 a h Q → Ct (eL E) lay1 yX4_readAll cX4_readAll 4 (some .boolean) (d + 1) 0 0 [vP (some (4, 0)), vI a] h (fun r h2 => ∃ x, r = [vI x] ∧ Q x h2)) {a1 : Int32} {a2 : Int32} {a3 : Int32} {h : Hp} {c n : Nat} (hc : c + 0 ≤ 0) (hn : n + 0 ≤ 0) (w : w_X4_readPart_57 R0  Q a1 a2 a3 h) : SW E 57 ([some (vP (some (4, 0))), some (vI (a1)), some (vI (a2)), some (vI (a3))], [], h, c, n) := by
  refine k_X4_readPart_57 cx hY (fun q => ?_) (fun q => ?_)
  · have w := w.1 q
    exact s_X4_readPart_83 cx hY eq hR0  (by omega) (by omega) w
  · have w := w.2 q
    exact s_X4_readPart_63 cx hY eq hR0  (by omega) (by omega) w
theorem s_X4_readPart_42 {E : EnvT} {d : Nat} (cx : CX E "ShoreDay$Parser" cX4_readPart 4 (some .boolean) "readPart" (d + 2) 0 0) (hY : eY E = lay1) {Q : Int32 → Hp → Prop} (eq : EQ E 0 0 (fun r h2 => ∃ x, r = [vI x] ∧ Q x h2)) {R0 : Int32 → Hp → (Int32 → Hp → Prop) → Prop} (hR0 : ∀ a h Q, R0 a h Q → Ct (eL E) lay1 yX4_readAll cX4_readAll 4 (some .boolean) (d + 1) 0 0 [vP (some (4, 0)), vI a] h (fun r h2 => ∃ x, r = [vI x] ∧ Q x h2)) {a1 : Int32} {a2 : Int32} {x3 : Option AVal} {h : Hp} {c n : Nat} (hc : c + 0 ≤ 0) (hn : n + 0 ≤ 0) (w : w_X4_readPart_42 R0  Q a1 a2 h) : SW E 42 ([some (vP (some (4, 0))), some (vI (a1)), some (vI (a2)), x3], [], h, c, n) := by
  refine k_X4_readPart_42 cx hY (ctY hY (vc_X9_step (d := d + 0) w)) (by omega) (by omega) (by omega) (fun r h2 hp => ?_)
  obtain ⟨rfl, w⟩ := hp
  exact s_X4_readPart_57 cx hY eq hR0  (by omega) (by omega) w
theorem s_X4_readPart_41 {E : EnvT} {d : Nat} (cx : CX E "ShoreDay$Parser" cX4_readPart 4 (some .boolean) "readPart" (d + 2) 0 0) (hY : eY E = lay1) {Q : Int32 → Hp → Prop} (eq : EQ E 0 0 (fun r h2 => ∃ x, r = [vI x] ∧ Q x h2)) {R0 : Int32 → Hp → (Int32 → Hp → Prop) → Prop} (hR0 : ∀ a h Q, R0 a h Q → Ct (eL E) lay1 yX4_readAll cX4_readAll 4 (some .boolean) (d + 1) 0 0 [vP (some (4, 0)), vI a] h (fun r h2 => ∃ x, r = [vI x] ∧ Q x h2)) {a1 : Int32} {a2 : Int32} {x3 : Option AVal} {s0 : Int32} {h : Hp} {c n : Nat} (hc : c + 0 ≤ 0) (hn : n + 0 ≤ 0) (w : w_X4_readPart_41 R0  Q a1 a2 s0 h) : SW E 41 ([some (vP (some (4, 0))), some (vI (a1)), some (vI (a2)), x3], [vI (s0)], h, c, n) := by
  exact k_X4_readPart_41 cx hY eq (by omega) (by omega) w.1 ⟨_, rfl, w.2⟩
theorem s_X4_readPart_36 {E : EnvT} {d : Nat} (cx : CX E "ShoreDay$Parser" cX4_readPart 4 (some .boolean) "readPart" (d + 2) 0 0) (hY : eY E = lay1) {Q : Int32 → Hp → Prop} (eq : EQ E 0 0 (fun r h2 => ∃ x, r = [vI x] ∧ Q x h2)) {R0 : Int32 → Hp → (Int32 → Hp → Prop) → Prop} (hR0 : ∀ a h Q, R0 a h Q → Ct (eL E) lay1 yX4_readAll cX4_readAll 4 (some .boolean) (d + 1) 0 0 [vP (some (4, 0)), vI a] h (fun r h2 => ∃ x, r = [vI x] ∧ Q x h2)) {a1 : Int32} {a2 : Int32} {x3 : Option AVal} {h : Hp} {c n : Nat} (hc : c + 0 ≤ 0) (hn : n + 0 ≤ 0) (w : w_X4_readPart_36 R0  Q a1 a2 h) : SW E 36 ([some (vP (some (4, 0))), some (vI (a1)), some (vI (a2)), x3], [], h, c, n) := by
  refine k_X4_readPart_36 cx hY (ctY hY (vc_X4_fail (d := d + 0) w)) (by omega) (by omega) (by omega) (fun r h2 hp => ?_)
  obtain ⟨r2, rfl, w⟩ := hp
  exact s_X4_readPart_41 cx hY eq hR0  (by omega) (by omega) w
theorem s_X4_readPart_31 {E : EnvT} {d : Nat} (cx : CX E "ShoreDay$Parser" cX4_readPart 4 (some .boolean) "readPart" (d + 2) 0 0) (hY : eY E = lay1) {Q : Int32 → Hp → Prop} (eq : EQ E 0 0 (fun r h2 => ∃ x, r = [vI x] ∧ Q x h2)) {R0 : Int32 → Hp → (Int32 → Hp → Prop) → Prop} (hR0 : ∀ a h Q, R0 a h Q → Ct (eL E) lay1 yX4_readAll cX4_readAll 4 (some .boolean) (d + 1) 0 0 [vP (some (4, 0)), vI a] h (fun r h2 => ∃ x, r = [vI x] ∧ Q x h2)) {a1 : Int32} {a2 : Int32} {x3 : Option AVal} {h : Hp} {c n : Nat} (hc : c + 0 ≤ 0) (hn : n + 0 ≤ 0) (w : w_X4_readPart_31 R0  Q a1 a2 h) : SW E 31 ([some (vP (some (4, 0))), some (vI (a1)), some (vI (a2)), x3], [], h, c, n) := by
  refine k_X4_readPart_31 cx hY (fun q => ?_) (fun q => ?_)
  · have w := w.1 q
    exact s_X4_readPart_42 cx hY eq hR0  (by omega) (by omega) w
  · have w := w.2 q
    exact s_X4_readPart_36 cx hY eq hR0  (by omega) (by omega) w
theorem s_X4_readPart_30 {E : EnvT} {d : Nat} (cx : CX E "ShoreDay$Parser" cX4_readPart 4 (some .boolean) "readPart" (d + 2) 0 0) (hY : eY E = lay1) {Q : Int32 → Hp → Prop} (eq : EQ E 0 0 (fun r h2 => ∃ x, r = [vI x] ∧ Q x h2)) {R0 : Int32 → Hp → (Int32 → Hp → Prop) → Prop} (hR0 : ∀ a h Q, R0 a h Q → Ct (eL E) lay1 yX4_readAll cX4_readAll 4 (some .boolean) (d + 1) 0 0 [vP (some (4, 0)), vI a] h (fun r h2 => ∃ x, r = [vI x] ∧ Q x h2)) {a1 : Int32} {a2 : Int32} {x3 : Option AVal} {s0 : Int32} {h : Hp} {c n : Nat} (hc : c + 0 ≤ 0) (hn : n + 0 ≤ 0) (w : w_X4_readPart_30 R0  Q a1 a2 s0 h) : SW E 30 ([some (vP (some (4, 0))), some (vI (a1)), some (vI (a2)), x3], [vI (s0)], h, c, n) := by
  exact k_X4_readPart_30 cx hY eq (by omega) (by omega) w.1 ⟨_, rfl, w.2⟩
theorem s_X4_readPart_25 {E : EnvT} {d : Nat} (cx : CX E "ShoreDay$Parser" cX4_readPart 4 (some .boolean) "readPart" (d + 2) 0 0) (hY : eY E = lay1) {Q : Int32 → Hp → Prop} (eq : EQ E 0 0 (fun r h2 => ∃ x, r = [vI x] ∧ Q x h2)) {R0 : Int32 → Hp → (Int32 → Hp → Prop) → Prop} (hR0 : ∀ a h Q, R0 a h Q → Ct (eL E) lay1 yX4_readAll cX4_readAll 4 (some .boolean) (d + 1) 0 0 [vP (some (4, 0)), vI a] h (fun r h2 => ∃ x, r = [vI x] ∧ Q x h2)) {a1 : Int32} {a2 : Int32} {x3 : Option AVal} {h : Hp} {c n : Nat} (hc : c + 0 ≤ 0) (hn : n + 0 ≤ 0) (w : w_X4_readPart_25 R0  Q a1 a2 h) : SW E 25 ([some (vP (some (4, 0))), some (vI (a1)), some (vI (a2)), x3], [], h, c, n) := by
  refine k_X4_readPart_25 cx hY (ctY hY (vc_X4_fail (d := d + 0) w)) (by omega) (by omega) (by omega) (fun r h2 hp => ?_)
  obtain ⟨r2, rfl, w⟩ := hp
  exact s_X4_readPart_30 cx hY eq hR0  (by omega) (by omega) w
theorem s_X4_readPart_19 {E : EnvT} {d : Nat} (cx : CX E "ShoreDay$Parser" cX4_readPart 4 (some .boolean) "readPart" (d + 2) 0 0) (hY : eY E = lay1) {Q : Int32 → Hp → Prop} (eq : EQ E 0 0 (fun r h2 => ∃ x, r = [vI x] ∧ Q x h2)) {R0 : Int32 → Hp → (Int32 → Hp → Prop) → Prop} (hR0 : ∀ a h Q, R0 a h Q → Ct (eL E) lay1 yX4_readAll cX4_readAll 4 (some .boolean) (d + 1) 0 0 [vP (some (4, 0)), vI a] h (fun r h2 => ∃ x, r = [vI x] ∧ Q x h2)) {a1 : Int32} {a2 : Int32} {x3 : Option AVal} {h : Hp} {c n : Nat} (hc : c + 0 ≤ 0) (hn : n + 0 ≤ 0) (w : w_X4_readPart_19 R0  Q a1 a2 h) : SW E 19 ([some (vP (some (4, 0))), some (vI (a1)), some (vI (a2)), x3], [], h, c, n) := by
  refine k_X4_readPart_19 cx hY (fun q => ?_) (fun q => ?_)
  · have w := w.1 q
    exact s_X4_readPart_31 cx hY eq hR0  (by omega) (by omega) w
  · have w := w.2 q
    exact s_X4_readPart_25 cx hY eq hR0  (by omega) (by omega) w
theorem s_X4_readPart_13 {E : EnvT} {d : Nat} (cx : CX E "ShoreDay$Parser" cX4_readPart 4 (some .boolean) "readPart" (d + 2) 0 0) (hY : eY E = lay1) {Q : Int32 → Hp → Prop} (eq : EQ E 0 0 (fun r h2 => ∃ x, r = [vI x] ∧ Q x h2)) {R0 : Int32 → Hp → (Int32 → Hp → Prop) → Prop} (hR0 : ∀ a h Q, R0 a h Q → Ct (eL E) lay1 yX4_readAll cX4_readAll 4 (some .boolean) (d + 1) 0 0 [vP (some (4, 0)), vI a] h (fun r h2 => ∃ x, r = [vI x] ∧ Q x h2)) {a1 : Int32} {a2 : Int32} {x3 : Option AVal} {h : Hp} {c n : Nat} (hc : c + 0 ≤ 0) (hn : n + 0 ≤ 0) (w : w_X4_readPart_13 R0  Q a1 a2 h) : SW E 13 ([some (vP (some (4, 0))), some (vI (a1)), some (vI (a2)), x3], [], h, c, n) := by
  refine k_X4_readPart_13 cx hY (fun q => ?_) (fun q => ?_)
  · have w := w.1 q
    exact s_X4_readPart_31 cx hY eq hR0  (by omega) (by omega) w
  · have w := w.2 q
    exact s_X4_readPart_19 cx hY eq hR0  (by omega) (by omega) w
theorem s_X4_readPart_0 {E : EnvT} {d : Nat} (cx : CX E "ShoreDay$Parser" cX4_readPart 4 (some .boolean) "readPart" (d + 2) 0 0) (hY : eY E = lay1) {Q : Int32 → Hp → Prop} (eq : EQ E 0 0 (fun r h2 => ∃ x, r = [vI x] ∧ Q x h2)) {R0 : Int32 → Hp → (Int32 → Hp → Prop) → Prop} (hR0 : ∀ a h Q, R0 a h Q → Ct (eL E) lay1 yX4_readAll cX4_readAll 4 (some .boolean) (d + 1) 0 0 [vP (some (4, 0)), vI a] h (fun r h2 => ∃ x, r = [vI x] ∧ Q x h2)) {a1 : Int32} {x2 : Option AVal} {x3 : Option AVal} {h : Hp} {c n : Nat} (hc : c + 0 ≤ 0) (hn : n + 0 ≤ 0) (w : w_X4_readPart_0 R0  Q a1 h) : SW E 0 ([some (vP (some (4, 0))), some (vI (a1)), x2, x3], [], h, c, n) := by
  refine k_X4_readPart_0 cx hY (fun q => ?_) (fun q => ?_)
  · have w := w.1 q
    exact s_X4_readPart_31 cx hY eq hR0  (by omega) (by omega) w
  · have w := w.2 q
    exact s_X4_readPart_13 cx hY eq hR0  (by omega) (by omega) w
def wp_X4_readPart (R0 : Int32 → Hp → (Int32 → Hp → Prop) → Prop) (a1 : Int32) (h : Hp) (Q : Int32 → Hp → Prop) : Prop := w_X4_readPart_0 R0 Q a1 h
theorem vc_X4_readPart {l : Launch} {d : Nat} {R0 : Int32 → Hp → (Int32 → Hp → Prop) → Prop} (hR0 : ∀ a h Q, R0 a h Q → Ct l lay1 yX4_readAll cX4_readAll 4 (some .boolean) (d + 1) 0 0 [vP (some (4, 0)), vI a] h (fun r h2 => ∃ x, r = [vI x] ∧ Q x h2)) {a1 : Int32} {h : Hp} {Q : Int32 → Hp → Prop} (w : wp_X4_readPart R0 a1 h Q) : Ct l lay1 yX4_readPart cX4_readPart 4 (some .boolean) (d + 2) 0 0 [vP (some (4, 0)), vI a1] h (fun r h2 => ∃ x, r = [vI x] ∧ Q x h2) := by
  exact Ct.of (by decide) (Nat.le_of_ble_eq_true rfl) fun E cx eq hl hY => s_X4_readPart_0 cx hY eq (by rw [hl]; exact hR0) (Nat.le_refl _) (Nat.le_refl _) w
def w_X4_readSum_77 (R0 : Int32 → Hp → (Int32 → Hp → Prop) → Prop) (Q : Int32 → Hp → Prop) (a1 : Int32) (a2 : Int32) (a3 : Int32) (a4 : Int32) (h : Hp) : Prop := ((a2) = 0 ∨ (a2) = 1) ∧ Q (a2) (h)
def w_X4_readSum_63 (R0 : Int32 → Hp → (Int32 → Hp → Prop) → Prop) (K17 : Int32 → Int32 → Int32 → Int32 → Hp → Prop) (Q : Int32 → Hp → Prop) (a1 : Int32) (a2 : Int32) (a3 : Int32) (a4 : Int32) (h : Hp) : Prop := K17 (a1) (a2) (gI (h) 9 (0) (5)) (a4 + 1) (h)
def w_X4_readSum_53 (R0 : Int32 → Hp → (Int32 → Hp → Prop) → Prop) (K17 : Int32 → Int32 → Int32 → Int32 → Hp → Prop) (Q : Int32 → Hp → Prop) (a1 : Int32) (a2 : Int32) (a3 : Int32) (a4 : Int32) (s0 : Int32) (h : Hp) : Prop := ∃ g1, gP (h) 4 (0) 1 = some (1, g1) ∧ (wp_X1_put (g1) (-(a3)) (h) (fun h2 => w_X4_readSum_63 R0 K17 Q (a1) (s0) (a3) (a4) (h2)))
def w_X4_readSum_48 (R0 : Int32 → Hp → (Int32 → Hp → Prop) → Prop) (K17 : Int32 → Int32 → Int32 → Int32 → Hp → Prop) (Q : Int32 → Hp → Prop) (a1 : Int32) (a2 : Int32) (a3 : Int32) (a4 : Int32) (h : Hp) : Prop := wp_X4_readPart R0 (a1) (h) (fun r2 h2 => w_X4_readSum_53 R0 K17 Q (a1) (a2) (a3) (a4) (r2) (h2))
def w_X4_readSum_41 (R0 : Int32 → Hp → (Int32 → Hp → Prop) → Prop) (K17 : Int32 → Int32 → Int32 → Int32 → Hp → Prop) (Q : Int32 → Hp → Prop) (a1 : Int32) (a2 : Int32) (a3 : Int32) (a4 : Int32) (h : Hp) : Prop := wp_X9_step  (h) (fun h2 => w_X4_readSum_48 R0 K17 Q (a1) (a2) (a3) (a4) (h2))
def w_X4_readSum_35 (R0 : Int32 → Hp → (Int32 → Hp → Prop) → Prop) (K17 : Int32 → Int32 → Int32 → Int32 → Hp → Prop) (Q : Int32 → Hp → Prop) (a1 : Int32) (a2 : Int32) (a3 : Int32) (a4 : Int32) (h : Hp) : Prop := (¬ (a3) = ((11 : Int32)) → w_X4_readSum_77 R0  Q (a1) (a2) (a3) (a4) (h)) ∧ ((a3) = ((11 : Int32)) → w_X4_readSum_41 R0 K17 Q (a1) (a2) (a3) (a4) (h))
def w_X4_readSum_29 (R0 : Int32 → Hp → (Int32 → Hp → Prop) → Prop) (K17 : Int32 → Int32 → Int32 → Int32 → Hp → Prop) (Q : Int32 → Hp → Prop) (a1 : Int32) (a2 : Int32) (a3 : Int32) (a4 : Int32) (h : Hp) : Prop := ((a3) = ((10 : Int32)) → w_X4_readSum_41 R0 K17 Q (a1) (a2) (a3) (a4) (h)) ∧ (¬ (a3) = ((10 : Int32)) → w_X4_readSum_35 R0 K17 Q (a1) (a2) (a3) (a4) (h))
def w_X4_readSum_25 (R0 : Int32 → Hp → (Int32 → Hp → Prop) → Prop) (K17 : Int32 → Int32 → Int32 → Int32 → Hp → Prop) (Q : Int32 → Hp → Prop) (a1 : Int32) (a2 : Int32) (a3 : Int32) (a4 : Int32) (h : Hp) : Prop := ((a2) = 0 → w_X4_readSum_77 R0  Q (a1) (a2) (a3) (a4) (h)) ∧ (¬ (a2) = 0 → w_X4_readSum_29 R0 K17 Q (a1) (a2) (a3) (a4) (h))
def w_X4_readSum_17 (R0 : Int32 → Hp → (Int32 → Hp → Prop) → Prop) (Q : Int32 → Hp → Prop) : Nat → Int32 → Int32 → Int32 → Int32 → Hp → Prop
  | 0 => fun _ _ _ _ _ => False
  | N + 1 => fun a1 a2 a3 a4 h => (((600 : Int32)) ≤ (a4) → w_X4_readSum_77 R0  Q (a1) (a2) (a3) (a4) (h)) ∧ (¬ ((600 : Int32)) ≤ (a4) → w_X4_readSum_25 R0 (w_X4_readSum_17 R0  Q N) Q (a1) (a2) (a3) (a4) (h))
def w_X4_readSum_5 (R0 : Int32 → Hp → (Int32 → Hp → Prop) → Prop) (Q : Int32 → Hp → Prop) (a1 : Int32) (s0 : Int32) (h : Hp) : Prop := ∃ N, w_X4_readSum_17 R0  Q N (a1) (s0) (gI (h) 9 (0) (5)) ((0 : Int32)) (h)
def w_X4_readSum_0 (R0 : Int32 → Hp → (Int32 → Hp → Prop) → Prop) (Q : Int32 → Hp → Prop) (a1 : Int32) (h : Hp) : Prop := wp_X4_readPart R0 (a1) (h) (fun r2 h2 => w_X4_readSum_5 R0  Q (a1) (r2) (h2))
theorem s_X4_readSum_77 {E : EnvT} {d : Nat} (cx : CX E "ShoreDay$Parser" cX4_readSum 5 (some .boolean) "readSum" (d + 3) 0 0) (hY : eY E = lay1) {Q : Int32 → Hp → Prop} (eq : EQ E 0 0 (fun r h2 => ∃ x, r = [vI x] ∧ Q x h2)) {R0 : Int32 → Hp → (Int32 → Hp → Prop) → Prop} (hR0 : ∀ a h Q, R0 a h Q → Ct (eL E) lay1 yX4_readAll cX4_readAll 4 (some .boolean) (d + 1) 0 0 [vP (some (4, 0)), vI a] h (fun r h2 => ∃ x, r = [vI x] ∧ Q x h2)) {a1 : Int32} {a2 : Int32} {a3 : Int32} {a4 : Int32} {h : Hp} {c n : Nat} (hc : c + 0 ≤ 0) (hn : n + 0 ≤ 0) (w : w_X4_readSum_77 R0  Q a1 a2 a3 a4 h) : SW E 77 ([some (vP (some (4, 0))), some (vI (a1)), some (vI (a2)), some (vI (a3)), some (vI (a4))], [], h, c, n) := by
  exact k_X4_readSum_77 cx hY eq (by omega) (by omega) w.1 ⟨_, rfl, w.2⟩
theorem s_X4_readSum_63 {E : EnvT} {d : Nat} (cx : CX E "ShoreDay$Parser" cX4_readSum 5 (some .boolean) "readSum" (d + 3) 0 0) (hY : eY E = lay1) {Q : Int32 → Hp → Prop} (eq : EQ E 0 0 (fun r h2 => ∃ x, r = [vI x] ∧ Q x h2)) {R0 : Int32 → Hp → (Int32 → Hp → Prop) → Prop} (hR0 : ∀ a h Q, R0 a h Q → Ct (eL E) lay1 yX4_readAll cX4_readAll 4 (some .boolean) (d + 1) 0 0 [vP (some (4, 0)), vI a] h (fun r h2 => ∃ x, r = [vI x] ∧ Q x h2)) {K17 : Int32 → Int32 → Int32 → Int32 → Hp → Prop} (hK17 : ∀ (a1 : Int32) (a2 : Int32) (a3 : Int32) (a4 : Int32) (h : Hp) (c n : Nat), c + 0 ≤ 0 → n + 0 ≤ 0 → K17 a1 a2 a3 a4 h → SW E 17 ([some (vP (some (4, 0))), some (vI (a1)), some (vI (a2)), some (vI (a3)), some (vI (a4))], [], h, c, n)) {a1 : Int32} {a2 : Int32} {a3 : Int32} {a4 : Int32} {h : Hp} {c n : Nat} (hc : c + 0 ≤ 0) (hn : n + 0 ≤ 0) (w : w_X4_readSum_63 R0 K17 Q a1 a2 a3 a4 h) : SW E 63 ([some (vP (some (4, 0))), some (vI (a1)), some (vI (a2)), some (vI (a3)), some (vI (a4))], [], h, c, n) := by
  refine k_X4_readSum_63 cx hY ?_
  exact hK17 _ _ _ _ _ _ _ (by omega) (by omega) w
theorem s_X4_readSum_53 {E : EnvT} {d : Nat} (cx : CX E "ShoreDay$Parser" cX4_readSum 5 (some .boolean) "readSum" (d + 3) 0 0) (hY : eY E = lay1) {Q : Int32 → Hp → Prop} (eq : EQ E 0 0 (fun r h2 => ∃ x, r = [vI x] ∧ Q x h2)) {R0 : Int32 → Hp → (Int32 → Hp → Prop) → Prop} (hR0 : ∀ a h Q, R0 a h Q → Ct (eL E) lay1 yX4_readAll cX4_readAll 4 (some .boolean) (d + 1) 0 0 [vP (some (4, 0)), vI a] h (fun r h2 => ∃ x, r = [vI x] ∧ Q x h2)) {K17 : Int32 → Int32 → Int32 → Int32 → Hp → Prop} (hK17 : ∀ (a1 : Int32) (a2 : Int32) (a3 : Int32) (a4 : Int32) (h : Hp) (c n : Nat), c + 0 ≤ 0 → n + 0 ≤ 0 → K17 a1 a2 a3 a4 h → SW E 17 ([some (vP (some (4, 0))), some (vI (a1)), some (vI (a2)), some (vI (a3)), some (vI (a4))], [], h, c, n)) {a1 : Int32} {a2 : Int32} {a3 : Int32} {a4 : Int32} {s0 : Int32} {h : Hp} {c n : Nat} (hc : c + 0 ≤ 0) (hn : n + 0 ≤ 0) (w : w_X4_readSum_53 R0 K17 Q a1 a2 a3 a4 s0 h) : SW E 53 ([some (vP (some (4, 0))), some (vI (a1)), some (vI (a2)), some (vI (a3)), some (vI (a4))], [vI (s0)], h, c, n) := by
  obtain ⟨g1, e1, w⟩ := w
  refine k_X4_readSum_53 cx hY e1 (ctY hY (vc_X1_put (d := d + 1) w)) (by omega) (by omega) (by omega) (fun r h2 hp => ?_)
  obtain ⟨rfl, w⟩ := hp
  exact s_X4_readSum_63 cx hY eq hR0 hK17 (by omega) (by omega) w
theorem s_X4_readSum_48 {E : EnvT} {d : Nat} (cx : CX E "ShoreDay$Parser" cX4_readSum 5 (some .boolean) "readSum" (d + 3) 0 0) (hY : eY E = lay1) {Q : Int32 → Hp → Prop} (eq : EQ E 0 0 (fun r h2 => ∃ x, r = [vI x] ∧ Q x h2)) {R0 : Int32 → Hp → (Int32 → Hp → Prop) → Prop} (hR0 : ∀ a h Q, R0 a h Q → Ct (eL E) lay1 yX4_readAll cX4_readAll 4 (some .boolean) (d + 1) 0 0 [vP (some (4, 0)), vI a] h (fun r h2 => ∃ x, r = [vI x] ∧ Q x h2)) {K17 : Int32 → Int32 → Int32 → Int32 → Hp → Prop} (hK17 : ∀ (a1 : Int32) (a2 : Int32) (a3 : Int32) (a4 : Int32) (h : Hp) (c n : Nat), c + 0 ≤ 0 → n + 0 ≤ 0 → K17 a1 a2 a3 a4 h → SW E 17 ([some (vP (some (4, 0))), some (vI (a1)), some (vI (a2)), some (vI (a3)), some (vI (a4))], [], h, c, n)) {a1 : Int32} {a2 : Int32} {a3 : Int32} {a4 : Int32} {h : Hp} {c n : Nat} (hc : c + 0 ≤ 0) (hn : n + 0 ≤ 0) (w : w_X4_readSum_48 R0 K17 Q a1 a2 a3 a4 h) : SW E 48 ([some (vP (some (4, 0))), some (vI (a1)), some (vI (a2)), some (vI (a3)), some (vI (a4))], [], h, c, n) := by
  refine k_X4_readSum_48 cx hY (ctY hY (vc_X4_readPart (d := d + 0) hR0 w)) (by omega) (by omega) (by omega) (fun r h2 hp => ?_)
  obtain ⟨r2, rfl, w⟩ := hp
  exact s_X4_readSum_53 cx hY eq hR0 hK17 (by omega) (by omega) w
theorem s_X4_readSum_41 {E : EnvT} {d : Nat} (cx : CX E "ShoreDay$Parser" cX4_readSum 5 (some .boolean) "readSum" (d + 3) 0 0) (hY : eY E = lay1) {Q : Int32 → Hp → Prop} (eq : EQ E 0 0 (fun r h2 => ∃ x, r = [vI x] ∧ Q x h2)) {R0 : Int32 → Hp → (Int32 → Hp → Prop) → Prop} (hR0 : ∀ a h Q, R0 a h Q → Ct (eL E) lay1 yX4_readAll cX4_readAll 4 (some .boolean) (d + 1) 0 0 [vP (some (4, 0)), vI a] h (fun r h2 => ∃ x, r = [vI x] ∧ Q x h2)) {K17 : Int32 → Int32 → Int32 → Int32 → Hp → Prop} (hK17 : ∀ (a1 : Int32) (a2 : Int32) (a3 : Int32) (a4 : Int32) (h : Hp) (c n : Nat), c + 0 ≤ 0 → n + 0 ≤ 0 → K17 a1 a2 a3 a4 h → SW E 17 ([some (vP (some (4, 0))), some (vI (a1)), some (vI (a2)), some (vI (a3)), some (vI (a4))], [], h, c, n)) {a1 : Int32} {a2 : Int32} {a3 : Int32} {a4 : Int32} {h : Hp} {c n : Nat} (hc : c + 0 ≤ 0) (hn : n + 0 ≤ 0) (w : w_X4_readSum_41 R0 K17 Q a1 a2 a3 a4 h) : SW E 41 ([some (vP (some (4, 0))), some (vI (a1)), some (vI (a2)), some (vI (a3)), some (vI (a4))], [], h, c, n) := by
  refine k_X4_readSum_41 cx hY (ctY hY (vc_X9_step (d := d + 1) w)) (by omega) (by omega) (by omega) (fun r h2 hp => ?_)
  obtain ⟨rfl, w⟩ := hp
  exact s_X4_readSum_48 cx hY eq hR0 hK17 (by omega) (by omega) w
theorem s_X4_readSum_35 {E : EnvT} {d : Nat} (cx : CX E "ShoreDay$Parser" cX4_readSum 5 (some .boolean) "readSum" (d + 3) 0 0) (hY : eY E = lay1) {Q : Int32 → Hp → Prop} (eq : EQ E 0 0 (fun r h2 => ∃ x, r = [vI x] ∧ Q x h2)) {R0 : Int32 → Hp → (Int32 → Hp → Prop) → Prop} (hR0 : ∀ a h Q, R0 a h Q → Ct (eL E) lay1 yX4_readAll cX4_readAll 4 (some .boolean) (d + 1) 0 0 [vP (some (4, 0)), vI a] h (fun r h2 => ∃ x, r = [vI x] ∧ Q x h2)) {K17 : Int32 → Int32 → Int32 → Int32 → Hp → Prop} (hK17 : ∀ (a1 : Int32) (a2 : Int32) (a3 : Int32) (a4 : Int32) (h : Hp) (c n : Nat), c + 0 ≤ 0 → n + 0 ≤ 0 → K17 a1 a2 a3 a4 h → SW E 17 ([some (vP (some (4, 0))), some (vI (a1)), some (vI (a2)), some (vI (a3)), some (vI (a4))], [], h, c, n)) {a1 : Int32} {a2 : Int32} {a3 : Int32} {a4 : Int32} {h : Hp} {c n : Nat} (hc : c + 0 ≤ 0) (hn : n + 0 ≤ 0) (w : w_X4_readSum_35 R0 K17 Q a1 a2 a3 a4 h) : SW E 35 ([some (vP (some (4, 0))), some (vI (a1)), some (vI (a2)), some (vI (a3)), some (vI (a4))], [], h, c, n) := by
  refine k_X4_readSum_35 cx hY (fun q => ?_) (fun q => ?_)
  · have w := w.1 q
    exact s_X4_readSum_77 cx hY eq hR0  (by omega) (by omega) w
  · have w := w.2 q
    exact s_X4_readSum_41 cx hY eq hR0 hK17 (by omega) (by omega) w
theorem s_X4_readSum_29 {E : EnvT} {d : Nat} (cx : CX E "ShoreDay$Parser" cX4_readSum 5 (some .boolean) "readSum" (d + 3) 0 0) (hY : eY E = lay1) {Q : Int32 → Hp → Prop} (eq : EQ E 0 0 (fun r h2 => ∃ x, r = [vI x] ∧ Q x h2)) {R0 : Int32 → Hp → (Int32 → Hp → Prop) → Prop} (hR0 : ∀ a h Q, R0 a h Q → Ct (eL E) lay1 yX4_readAll cX4_readAll 4 (some .boolean) (d + 1) 0 0 [vP (some (4, 0)), vI a] h (fun r h2 => ∃ x, r = [vI x] ∧ Q x h2)) {K17 : Int32 → Int32 → Int32 → Int32 → Hp → Prop} (hK17 : ∀ (a1 : Int32) (a2 : Int32) (a3 : Int32) (a4 : Int32) (h : Hp) (c n : Nat), c + 0 ≤ 0 → n + 0 ≤ 0 → K17 a1 a2 a3 a4 h → SW E 17 ([some (vP (some (4, 0))), some (vI (a1)), some (vI (a2)), some (vI (a3)), some (vI (a4))], [], h, c, n)) {a1 : Int32} {a2 : Int32} {a3 : Int32} {a4 : Int32} {h : Hp} {c n : Nat} (hc : c + 0 ≤ 0) (hn : n + 0 ≤ 0) (w : w_X4_readSum_29 R0 K17 Q a1 a2 a3 a4 h) : SW E 29 ([some (vP (some (4, 0))), some (vI (a1)), some (vI (a2)), some (vI (a3)), some (vI (a4))], [], h, c, n) := by
  refine k_X4_readSum_29 cx hY (fun q => ?_) (fun q => ?_)
  · have w := w.1 q
    exact s_X4_readSum_41 cx hY eq hR0 hK17 (by omega) (by omega) w
  · have w := w.2 q
    exact s_X4_readSum_35 cx hY eq hR0 hK17 (by omega) (by omega) w
theorem s_X4_readSum_25 {E : EnvT} {d : Nat} (cx : CX E "ShoreDay$Parser" cX4_readSum 5 (some .boolean) "readSum" (d + 3) 0 0) (hY : eY E = lay1) {Q : Int32 → Hp → Prop} (eq : EQ E 0 0 (fun r h2 => ∃ x, r = [vI x] ∧ Q x h2)) {R0 : Int32 → Hp → (Int32 → Hp → Prop) → Prop} (hR0 : ∀ a h Q, R0 a h Q → Ct (eL E) lay1 yX4_readAll cX4_readAll 4 (some .boolean) (d + 1) 0 0 [vP (some (4, 0)), vI a] h (fun r h2 => ∃ x, r = [vI x] ∧ Q x h2)) {K17 : Int32 → Int32 → Int32 → Int32 → Hp → Prop} (hK17 : ∀ (a1 : Int32) (a2 : Int32) (a3 : Int32) (a4 : Int32) (h : Hp) (c n : Nat), c + 0 ≤ 0 → n + 0 ≤ 0 → K17 a1 a2 a3 a4 h → SW E 17 ([some (vP (some (4, 0))), some (vI (a1)), some (vI (a2)), some (vI (a3)), some (vI (a4))], [], h, c, n)) {a1 : Int32} {a2 : Int32} {a3 : Int32} {a4 : Int32} {h : Hp} {c n : Nat} (hc : c + 0 ≤ 0) (hn : n + 0 ≤ 0) (w : w_X4_readSum_25 R0 K17 Q a1 a2 a3 a4 h) : SW E 25 ([some (vP (some (4, 0))), some (vI (a1)), some (vI (a2)), some (vI (a3)), some (vI (a4))], [], h, c, n) := by
  refine k_X4_readSum_25 cx hY (fun q => ?_) (fun q => ?_)
  · have w := w.1 q
    exact s_X4_readSum_77 cx hY eq hR0  (by omega) (by omega) w
  · have w := w.2 q
    exact s_X4_readSum_29 cx hY eq hR0 hK17 (by omega) (by omega) w
theorem s_X4_readSum_17 {E : EnvT} {d : Nat} (cx : CX E "ShoreDay$Parser" cX4_readSum 5 (some .boolean) "readSum" (d + 3) 0 0) (hY : eY E = lay1) {Q : Int32 → Hp → Prop} (eq : EQ E 0 0 (fun r h2 => ∃ x, r = [vI x] ∧ Q x h2)) {R0 : Int32 → Hp → (Int32 → Hp → Prop) → Prop} (hR0 : ∀ a h Q, R0 a h Q → Ct (eL E) lay1 yX4_readAll cX4_readAll 4 (some .boolean) (d + 1) 0 0 [vP (some (4, 0)), vI a] h (fun r h2 => ∃ x, r = [vI x] ∧ Q x h2)) : ∀ (N : Nat) (a1 : Int32) (a2 : Int32) (a3 : Int32) (a4 : Int32) (h : Hp) (c n : Nat), c + 0 ≤ 0 → n + 0 ≤ 0 → w_X4_readSum_17 R0  Q N a1 a2 a3 a4 h → SW E 17 ([some (vP (some (4, 0))), some (vI (a1)), some (vI (a2)), some (vI (a3)), some (vI (a4))], [], h, c, n) := by
  intro N
  induction N with
  | zero =>
    intro _ _ _ _ h c n _ _ w
    exact w.elim
  | succ N ih =>
    intro a1 a2 a3 a4 h c n hc hn w
    refine k_X4_readSum_17 cx hY (fun q => ?_) (fun q => ?_)
    · have w := w.1 q
      exact s_X4_readSum_77 cx hY eq hR0  (by omega) (by omega) w
    · have w := w.2 q
      exact s_X4_readSum_25 cx hY eq hR0 ih (by omega) (by omega) w
theorem s_X4_readSum_5 {E : EnvT} {d : Nat} (cx : CX E "ShoreDay$Parser" cX4_readSum 5 (some .boolean) "readSum" (d + 3) 0 0) (hY : eY E = lay1) {Q : Int32 → Hp → Prop} (eq : EQ E 0 0 (fun r h2 => ∃ x, r = [vI x] ∧ Q x h2)) {R0 : Int32 → Hp → (Int32 → Hp → Prop) → Prop} (hR0 : ∀ a h Q, R0 a h Q → Ct (eL E) lay1 yX4_readAll cX4_readAll 4 (some .boolean) (d + 1) 0 0 [vP (some (4, 0)), vI a] h (fun r h2 => ∃ x, r = [vI x] ∧ Q x h2)) {a1 : Int32} {x2 : Option AVal} {x3 : Option AVal} {x4 : Option AVal} {s0 : Int32} {h : Hp} {c n : Nat} (hc : c + 0 ≤ 0) (hn : n + 0 ≤ 0) (w : w_X4_readSum_5 R0  Q a1 s0 h) : SW E 5 ([some (vP (some (4, 0))), some (vI (a1)), x2, x3, x4], [vI (s0)], h, c, n) := by
  refine k_X4_readSum_5 cx hY ?_
  obtain ⟨N1, w⟩ := w
  exact s_X4_readSum_17 cx hY eq hR0  _ _ _ _ _ _ _ _ (by omega) (by omega) w
theorem s_X4_readSum_0 {E : EnvT} {d : Nat} (cx : CX E "ShoreDay$Parser" cX4_readSum 5 (some .boolean) "readSum" (d + 3) 0 0) (hY : eY E = lay1) {Q : Int32 → Hp → Prop} (eq : EQ E 0 0 (fun r h2 => ∃ x, r = [vI x] ∧ Q x h2)) {R0 : Int32 → Hp → (Int32 → Hp → Prop) → Prop} (hR0 : ∀ a h Q, R0 a h Q → Ct (eL E) lay1 yX4_readAll cX4_readAll 4 (some .boolean) (d + 1) 0 0 [vP (some (4, 0)), vI a] h (fun r h2 => ∃ x, r = [vI x] ∧ Q x h2)) {a1 : Int32} {x2 : Option AVal} {x3 : Option AVal} {x4 : Option AVal} {h : Hp} {c n : Nat} (hc : c + 0 ≤ 0) (hn : n + 0 ≤ 0) (w : w_X4_readSum_0 R0  Q a1 h) : SW E 0 ([some (vP (some (4, 0))), some (vI (a1)), x2, x3, x4], [], h, c, n) := by
  refine k_X4_readSum_0 cx hY (ctY hY (vc_X4_readPart (d := d + 0) hR0 w)) (by omega) (by omega) (by omega) (fun r h2 hp => ?_)
  obtain ⟨r2, rfl, w⟩ := hp
  exact s_X4_readSum_5 cx hY eq hR0  (by omega) (by omega) w
def wp_X4_readSum (R0 : Int32 → Hp → (Int32 → Hp → Prop) → Prop) (a1 : Int32) (h : Hp) (Q : Int32 → Hp → Prop) : Prop := w_X4_readSum_0 R0 Q a1 h
theorem vc_X4_readSum {l : Launch} {d : Nat} {R0 : Int32 → Hp → (Int32 → Hp → Prop) → Prop} (hR0 : ∀ a h Q, R0 a h Q → Ct l lay1 yX4_readAll cX4_readAll 4 (some .boolean) (d + 1) 0 0 [vP (some (4, 0)), vI a] h (fun r h2 => ∃ x, r = [vI x] ∧ Q x h2)) {a1 : Int32} {h : Hp} {Q : Int32 → Hp → Prop} (w : wp_X4_readSum R0 a1 h Q) : Ct l lay1 yX4_readSum cX4_readSum 5 (some .boolean) (d + 3) 0 0 [vP (some (4, 0)), vI a1] h (fun r h2 => ∃ x, r = [vI x] ∧ Q x h2) := by
  exact Ct.of (by decide) (Nat.le_of_ble_eq_true rfl) fun E cx eq hl hY => s_X4_readSum_0 cx hY eq (by rw [hl]; exact hR0) (Nat.le_refl _) (Nat.le_refl _) w
def w_X4_readTest_52 (R0 : Int32 → Hp → (Int32 → Hp → Prop) → Prop) (Q : Int32 → Hp → Prop) (a1 : Int32) (a2 : Int32) (a3 : Int32) (h : Hp) : Prop := ((a2) = 0 ∨ (a2) = 1) ∧ Q (a2) (h)
def w_X4_readTest_42 (R0 : Int32 → Hp → (Int32 → Hp → Prop) → Prop) (Q : Int32 → Hp → Prop) (a1 : Int32) (a2 : Int32) (a3 : Int32) (s0 : Int32) (h : Hp) : Prop := ∃ g1, gP (h) 4 (0) 1 = some (1, g1) ∧ (wp_X1_put (g1) (-(a3)) (h) (fun h2 => w_X4_readTest_52 R0  Q (a1) (s0) (a3) (h2)))
def w_X4_readTest_37 (R0 : Int32 → Hp → (Int32 → Hp → Prop) → Prop) (Q : Int32 → Hp → Prop) (a1 : Int32) (a2 : Int32) (a3 : Int32) (h : Hp) : Prop := wp_X4_readSum R0 (a1) (h) (fun r2 h2 => w_X4_readTest_42 R0  Q (a1) (a2) (a3) (r2) (h2))
def w_X4_readTest_30 (R0 : Int32 → Hp → (Int32 → Hp → Prop) → Prop) (Q : Int32 → Hp → Prop) (a1 : Int32) (a2 : Int32) (a3 : Int32) (h : Hp) : Prop := wp_X9_step  (h) (fun h2 => w_X4_readTest_37 R0  Q (a1) (a2) (a3) (h2))
def w_X4_readTest_24 (R0 : Int32 → Hp → (Int32 → Hp → Prop) → Prop) (Q : Int32 → Hp → Prop) (a1 : Int32) (a2 : Int32) (a3 : Int32) (h : Hp) : Prop := (¬ (a3) = ((9 : Int32)) → w_X4_readTest_52 R0  Q (a1) (a2) (a3) (h)) ∧ ((a3) = ((9 : Int32)) → w_X4_readTest_30 R0  Q (a1) (a2) (a3) (h))
def w_X4_readTest_18 (R0 : Int32 → Hp → (Int32 → Hp → Prop) → Prop) (Q : Int32 → Hp → Prop) (a1 : Int32) (a2 : Int32) (a3 : Int32) (h : Hp) : Prop := ((a3) = ((8 : Int32)) → w_X4_readTest_30 R0  Q (a1) (a2) (a3) (h)) ∧ (¬ (a3) = ((8 : Int32)) → w_X4_readTest_24 R0  Q (a1) (a2) (a3) (h))
def w_X4_readTest_5 (R0 : Int32 → Hp → (Int32 → Hp → Prop) → Prop) (Q : Int32 → Hp → Prop) (a1 : Int32) (s0 : Int32) (h : Hp) : Prop := ((s0) = 0 → w_X4_readTest_52 R0  Q (a1) (s0) (gI (h) 9 (0) (5)) (h)) ∧ (¬ (s0) = 0 → w_X4_readTest_18 R0  Q (a1) (s0) (gI (h) 9 (0) (5)) (h))
def w_X4_readTest_0 (R0 : Int32 → Hp → (Int32 → Hp → Prop) → Prop) (Q : Int32 → Hp → Prop) (a1 : Int32) (h : Hp) : Prop := wp_X4_readSum R0 (a1) (h) (fun r2 h2 => w_X4_readTest_5 R0  Q (a1) (r2) (h2))
theorem s_X4_readTest_52 {E : EnvT} {d : Nat} (cx : CX E "ShoreDay$Parser" cX4_readTest 4 (some .boolean) "readTest" (d + 4) 0 0) (hY : eY E = lay1) {Q : Int32 → Hp → Prop} (eq : EQ E 0 0 (fun r h2 => ∃ x, r = [vI x] ∧ Q x h2)) {R0 : Int32 → Hp → (Int32 → Hp → Prop) → Prop} (hR0 : ∀ a h Q, R0 a h Q → Ct (eL E) lay1 yX4_readAll cX4_readAll 4 (some .boolean) (d + 1) 0 0 [vP (some (4, 0)), vI a] h (fun r h2 => ∃ x, r = [vI x] ∧ Q x h2)) {a1 : Int32} {a2 : Int32} {a3 : Int32} {h : Hp} {c n : Nat} (hc : c + 0 ≤ 0) (hn : n + 0 ≤ 0) (w : w_X4_readTest_52 R0  Q a1 a2 a3 h) : SW E 52 ([some (vP (some (4, 0))), some (vI (a1)), some (vI (a2)), some (vI (a3))], [], h, c, n) := by
  exact k_X4_readTest_52 cx hY eq (by omega) (by omega) w.1 ⟨_, rfl, w.2⟩
theorem s_X4_readTest_42 {E : EnvT} {d : Nat} (cx : CX E "ShoreDay$Parser" cX4_readTest 4 (some .boolean) "readTest" (d + 4) 0 0) (hY : eY E = lay1) {Q : Int32 → Hp → Prop} (eq : EQ E 0 0 (fun r h2 => ∃ x, r = [vI x] ∧ Q x h2)) {R0 : Int32 → Hp → (Int32 → Hp → Prop) → Prop} (hR0 : ∀ a h Q, R0 a h Q → Ct (eL E) lay1 yX4_readAll cX4_readAll 4 (some .boolean) (d + 1) 0 0 [vP (some (4, 0)), vI a] h (fun r h2 => ∃ x, r = [vI x] ∧ Q x h2)) {a1 : Int32} {a2 : Int32} {a3 : Int32} {s0 : Int32} {h : Hp} {c n : Nat} (hc : c + 0 ≤ 0) (hn : n + 0 ≤ 0) (w : w_X4_readTest_42 R0  Q a1 a2 a3 s0 h) : SW E 42 ([some (vP (some (4, 0))), some (vI (a1)), some (vI (a2)), some (vI (a3))], [vI (s0)], h, c, n) := by
  obtain ⟨g1, e1, w⟩ := w
  refine k_X4_readTest_42 cx hY e1 (ctY hY (vc_X1_put (d := d + 2) w)) (by omega) (by omega) (by omega) (fun r h2 hp => ?_)
  obtain ⟨rfl, w⟩ := hp
  exact s_X4_readTest_52 cx hY eq hR0  (by omega) (by omega) w
theorem s_X4_readTest_37 {E : EnvT} {d : Nat} (cx : CX E "ShoreDay$Parser" cX4_readTest 4 (some .boolean) "readTest" (d + 4) 0 0) (hY : eY E = lay1) {Q : Int32 → Hp → Prop} (eq : EQ E 0 0 (fun r h2 => ∃ x, r = [vI x] ∧ Q x h2)) {R0 : Int32 → Hp → (Int32 → Hp → Prop) → Prop} (hR0 : ∀ a h Q, R0 a h Q → Ct (eL E) lay1 yX4_readAll cX4_readAll 4 (some .boolean) (d + 1) 0 0 [vP (some (4, 0)), vI a] h (fun r h2 => ∃ x, r = [vI x] ∧ Q x h2)) {a1 : Int32} {a2 : Int32} {a3 : Int32} {h : Hp} {c n : Nat} (hc : c + 0 ≤ 0) (hn : n + 0 ≤ 0) (w : w_X4_readTest_37 R0  Q a1 a2 a3 h) : SW E 37 ([some (vP (some (4, 0))), some (vI (a1)), some (vI (a2)), some (vI (a3))], [], h, c, n) := by
  refine k_X4_readTest_37 cx hY (ctY hY (vc_X4_readSum (d := d + 0) hR0 w)) (by omega) (by omega) (by omega) (fun r h2 hp => ?_)
  obtain ⟨r2, rfl, w⟩ := hp
  exact s_X4_readTest_42 cx hY eq hR0  (by omega) (by omega) w
theorem s_X4_readTest_30 {E : EnvT} {d : Nat} (cx : CX E "ShoreDay$Parser" cX4_readTest 4 (some .boolean) "readTest" (d + 4) 0 0) (hY : eY E = lay1) {Q : Int32 → Hp → Prop} (eq : EQ E 0 0 (fun r h2 => ∃ x, r = [vI x] ∧ Q x h2)) {R0 : Int32 → Hp → (Int32 → Hp → Prop) → Prop} (hR0 : ∀ a h Q, R0 a h Q → Ct (eL E) lay1 yX4_readAll cX4_readAll 4 (some .boolean) (d + 1) 0 0 [vP (some (4, 0)), vI a] h (fun r h2 => ∃ x, r = [vI x] ∧ Q x h2)) {a1 : Int32} {a2 : Int32} {a3 : Int32} {h : Hp} {c n : Nat} (hc : c + 0 ≤ 0) (hn : n + 0 ≤ 0) (w : w_X4_readTest_30 R0  Q a1 a2 a3 h) : SW E 30 ([some (vP (some (4, 0))), some (vI (a1)), some (vI (a2)), some (vI (a3))], [], h, c, n) := by
  refine k_X4_readTest_30 cx hY (ctY hY (vc_X9_step (d := d + 2) w)) (by omega) (by omega) (by omega) (fun r h2 hp => ?_)
  obtain ⟨rfl, w⟩ := hp
  exact s_X4_readTest_37 cx hY eq hR0  (by omega) (by omega) w
theorem s_X4_readTest_24 {E : EnvT} {d : Nat} (cx : CX E "ShoreDay$Parser" cX4_readTest 4 (some .boolean) "readTest" (d + 4) 0 0) (hY : eY E = lay1) {Q : Int32 → Hp → Prop} (eq : EQ E 0 0 (fun r h2 => ∃ x, r = [vI x] ∧ Q x h2)) {R0 : Int32 → Hp → (Int32 → Hp → Prop) → Prop} (hR0 : ∀ a h Q, R0 a h Q → Ct (eL E) lay1 yX4_readAll cX4_readAll 4 (some .boolean) (d + 1) 0 0 [vP (some (4, 0)), vI a] h (fun r h2 => ∃ x, r = [vI x] ∧ Q x h2)) {a1 : Int32} {a2 : Int32} {a3 : Int32} {h : Hp} {c n : Nat} (hc : c + 0 ≤ 0) (hn : n + 0 ≤ 0) (w : w_X4_readTest_24 R0  Q a1 a2 a3 h) : SW E 24 ([some (vP (some (4, 0))), some (vI (a1)), some (vI (a2)), some (vI (a3))], [], h, c, n) := by
  refine k_X4_readTest_24 cx hY (fun q => ?_) (fun q => ?_)
  · have w := w.1 q
    exact s_X4_readTest_52 cx hY eq hR0  (by omega) (by omega) w
  · have w := w.2 q
    exact s_X4_readTest_30 cx hY eq hR0  (by omega) (by omega) w
theorem s_X4_readTest_18 {E : EnvT} {d : Nat} (cx : CX E "ShoreDay$Parser" cX4_readTest 4 (some .boolean) "readTest" (d + 4) 0 0) (hY : eY E = lay1) {Q : Int32 → Hp → Prop} (eq : EQ E 0 0 (fun r h2 => ∃ x, r = [vI x] ∧ Q x h2)) {R0 : Int32 → Hp → (Int32 → Hp → Prop) → Prop} (hR0 : ∀ a h Q, R0 a h Q → Ct (eL E) lay1 yX4_readAll cX4_readAll 4 (some .boolean) (d + 1) 0 0 [vP (some (4, 0)), vI a] h (fun r h2 => ∃ x, r = [vI x] ∧ Q x h2)) {a1 : Int32} {a2 : Int32} {a3 : Int32} {h : Hp} {c n : Nat} (hc : c + 0 ≤ 0) (hn : n + 0 ≤ 0) (w : w_X4_readTest_18 R0  Q a1 a2 a3 h) : SW E 18 ([some (vP (some (4, 0))), some (vI (a1)), some (vI (a2)), some (vI (a3))], [], h, c, n) := by
  refine k_X4_readTest_18 cx hY (fun q => ?_) (fun q => ?_)
  · have w := w.1 q
    exact s_X4_readTest_30 cx hY eq hR0  (by omega) (by omega) w
  · have w := w.2 q
    exact s_X4_readTest_24 cx hY eq hR0  (by omega) (by omega) w
theorem s_X4_readTest_5 {E : EnvT} {d : Nat} (cx : CX E "ShoreDay$Parser" cX4_readTest 4 (some .boolean) "readTest" (d + 4) 0 0) (hY : eY E = lay1) {Q : Int32 → Hp → Prop} (eq : EQ E 0 0 (fun r h2 => ∃ x, r = [vI x] ∧ Q x h2)) {R0 : Int32 → Hp → (Int32 → Hp → Prop) → Prop} (hR0 : ∀ a h Q, R0 a h Q → Ct (eL E) lay1 yX4_readAll cX4_readAll 4 (some .boolean) (d + 1) 0 0 [vP (some (4, 0)), vI a] h (fun r h2 => ∃ x, r = [vI x] ∧ Q x h2)) {a1 : Int32} {x2 : Option AVal} {x3 : Option AVal} {s0 : Int32} {h : Hp} {c n : Nat} (hc : c + 0 ≤ 0) (hn : n + 0 ≤ 0) (w : w_X4_readTest_5 R0  Q a1 s0 h) : SW E 5 ([some (vP (some (4, 0))), some (vI (a1)), x2, x3], [vI (s0)], h, c, n) := by
  refine k_X4_readTest_5 cx hY (fun q => ?_) (fun q => ?_)
  · have w := w.1 q
    exact s_X4_readTest_52 cx hY eq hR0  (by omega) (by omega) w
  · have w := w.2 q
    exact s_X4_readTest_18 cx hY eq hR0  (by omega) (by omega) w
theorem s_X4_readTest_0 {E : EnvT} {d : Nat} (cx : CX E "ShoreDay$Parser" cX4_readTest 4 (some .boolean) "readTest" (d + 4) 0 0) (hY : eY E = lay1) {Q : Int32 → Hp → Prop} (eq : EQ E 0 0 (fun r h2 => ∃ x, r = [vI x] ∧ Q x h2)) {R0 : Int32 → Hp → (Int32 → Hp → Prop) → Prop} (hR0 : ∀ a h Q, R0 a h Q → Ct (eL E) lay1 yX4_readAll cX4_readAll 4 (some .boolean) (d + 1) 0 0 [vP (some (4, 0)), vI a] h (fun r h2 => ∃ x, r = [vI x] ∧ Q x h2)) {a1 : Int32} {x2 : Option AVal} {x3 : Option AVal} {h : Hp} {c n : Nat} (hc : c + 0 ≤ 0) (hn : n + 0 ≤ 0) (w : w_X4_readTest_0 R0  Q a1 h) : SW E 0 ([some (vP (some (4, 0))), some (vI (a1)), x2, x3], [], h, c, n) := by
  refine k_X4_readTest_0 cx hY (ctY hY (vc_X4_readSum (d := d + 0) hR0 w)) (by omega) (by omega) (by omega) (fun r h2 hp => ?_)
  obtain ⟨r2, rfl, w⟩ := hp
  exact s_X4_readTest_5 cx hY eq hR0  (by omega) (by omega) w
def wp_X4_readTest (R0 : Int32 → Hp → (Int32 → Hp → Prop) → Prop) (a1 : Int32) (h : Hp) (Q : Int32 → Hp → Prop) : Prop := w_X4_readTest_0 R0 Q a1 h
theorem vc_X4_readTest {l : Launch} {d : Nat} {R0 : Int32 → Hp → (Int32 → Hp → Prop) → Prop} (hR0 : ∀ a h Q, R0 a h Q → Ct l lay1 yX4_readAll cX4_readAll 4 (some .boolean) (d + 1) 0 0 [vP (some (4, 0)), vI a] h (fun r h2 => ∃ x, r = [vI x] ∧ Q x h2)) {a1 : Int32} {h : Hp} {Q : Int32 → Hp → Prop} (w : wp_X4_readTest R0 a1 h Q) : Ct l lay1 yX4_readTest cX4_readTest 4 (some .boolean) (d + 4) 0 0 [vP (some (4, 0)), vI a1] h (fun r h2 => ∃ x, r = [vI x] ∧ Q x h2) := by
  exact Ct.of (by decide) (Nat.le_of_ble_eq_true rfl) fun E cx eq hl hY => s_X4_readTest_0 cx hY eq (by rw [hl]; exact hR0) (Nat.le_refl _) (Nat.le_refl _) w
def w_X4_readAll_58 (R0 : Int32 → Hp → (Int32 → Hp → Prop) → Prop) (Q : Int32 → Hp → Prop) (a1 : Int32) (a2 : Int32) (a3 : Int32) (h : Hp) : Prop := ((a2) = 0 ∨ (a2) = 1) ∧ Q (a2) (h)
def w_X4_readAll_52 (R0 : Int32 → Hp → (Int32 → Hp → Prop) → Prop) (K8 : Int32 → Int32 → Int32 → Hp → Prop) (Q : Int32 → Hp → Prop) (a1 : Int32) (a2 : Int32) (a3 : Int32) (h : Hp) : Prop := K8 (a1) (a2) (a3 + 1) (h)
def w_X4_readAll_42 (R0 : Int32 → Hp → (Int32 → Hp → Prop) → Prop) (K8 : Int32 → Int32 → Int32 → Hp → Prop) (Q : Int32 → Hp → Prop) (a1 : Int32) (a2 : Int32) (a3 : Int32) (s0 : Int32) (h : Hp) : Prop := ∃ g1, gP (h) 4 (0) 1 = some (1, g1) ∧ (wp_X1_put (g1) ((-5 : Int32)) (h) (fun h2 => w_X4_readAll_52 R0 K8 Q (a1) (s0) (a3) (h2)))
def w_X4_readAll_37 (R0 : Int32 → Hp → (Int32 → Hp → Prop) → Prop) (K8 : Int32 → Int32 → Int32 → Hp → Prop) (Q : Int32 → Hp → Prop) (a1 : Int32) (a2 : Int32) (a3 : Int32) (h : Hp) : Prop := wp_X4_readTest R0 (a1) (h) (fun r2 h2 => w_X4_readAll_42 R0 K8 Q (a1) (a2) (a3) (r2) (h2))
def w_X4_readAll_30 (R0 : Int32 → Hp → (Int32 → Hp → Prop) → Prop) (K8 : Int32 → Int32 → Int32 → Hp → Prop) (Q : Int32 → Hp → Prop) (a1 : Int32) (a2 : Int32) (a3 : Int32) (h : Hp) : Prop := wp_X9_step  (h) (fun h2 => w_X4_readAll_37 R0 K8 Q (a1) (a2) (a3) (h2))
def w_X4_readAll_19 (R0 : Int32 → Hp → (Int32 → Hp → Prop) → Prop) (K8 : Int32 → Int32 → Int32 → Hp → Prop) (Q : Int32 → Hp → Prop) (a1 : Int32) (a2 : Int32) (a3 : Int32) (h : Hp) : Prop := (¬ (gI (h) 9 (0) (5)) = ((5 : Int32)) → w_X4_readAll_58 R0  Q (a1) (a2) (a3) (h)) ∧ ((gI (h) 9 (0) (5)) = ((5 : Int32)) → w_X4_readAll_30 R0 K8 Q (a1) (a2) (a3) (h))
def w_X4_readAll_15 (R0 : Int32 → Hp → (Int32 → Hp → Prop) → Prop) (K8 : Int32 → Int32 → Int32 → Hp → Prop) (Q : Int32 → Hp → Prop) (a1 : Int32) (a2 : Int32) (a3 : Int32) (h : Hp) : Prop := ((a2) = 0 → w_X4_readAll_58 R0  Q (a1) (a2) (a3) (h)) ∧ (¬ (a2) = 0 → w_X4_readAll_19 R0 K8 Q (a1) (a2) (a3) (h))
def w_X4_readAll_8 (R0 : Int32 → Hp → (Int32 → Hp → Prop) → Prop) (Q : Int32 → Hp → Prop) : Nat → Int32 → Int32 → Int32 → Hp → Prop
  | 0 => fun _ _ _ _ => False
  | N + 1 => fun a1 a2 a3 h => (((600 : Int32)) ≤ (a3) → w_X4_readAll_58 R0  Q (a1) (a2) (a3) (h)) ∧ (¬ ((600 : Int32)) ≤ (a3) → w_X4_readAll_15 R0 (w_X4_readAll_8 R0  Q N) Q (a1) (a2) (a3) (h))
def w_X4_readAll_5 (R0 : Int32 → Hp → (Int32 → Hp → Prop) → Prop) (Q : Int32 → Hp → Prop) (a1 : Int32) (s0 : Int32) (h : Hp) : Prop := ∃ N, w_X4_readAll_8 R0  Q N (a1) (s0) ((0 : Int32)) (h)
def w_X4_readAll_0 (R0 : Int32 → Hp → (Int32 → Hp → Prop) → Prop) (Q : Int32 → Hp → Prop) (a1 : Int32) (h : Hp) : Prop := wp_X4_readTest R0 (a1) (h) (fun r2 h2 => w_X4_readAll_5 R0  Q (a1) (r2) (h2))
theorem s_X4_readAll_58 {E : EnvT} {d : Nat} (cx : CX E "ShoreDay$Parser" cX4_readAll 4 (some .boolean) "readAll" (d + 5) 0 0) (hY : eY E = lay1) {Q : Int32 → Hp → Prop} (eq : EQ E 0 0 (fun r h2 => ∃ x, r = [vI x] ∧ Q x h2)) {R0 : Int32 → Hp → (Int32 → Hp → Prop) → Prop} (hR0 : ∀ a h Q, R0 a h Q → Ct (eL E) lay1 yX4_readAll cX4_readAll 4 (some .boolean) (d + 1) 0 0 [vP (some (4, 0)), vI a] h (fun r h2 => ∃ x, r = [vI x] ∧ Q x h2)) {a1 : Int32} {a2 : Int32} {a3 : Int32} {h : Hp} {c n : Nat} (hc : c + 0 ≤ 0) (hn : n + 0 ≤ 0) (w : w_X4_readAll_58 R0  Q a1 a2 a3 h) : SW E 58 ([some (vP (some (4, 0))), some (vI (a1)), some (vI (a2)), some (vI (a3))], [], h, c, n) := by
  exact k_X4_readAll_58 cx hY eq (by omega) (by omega) w.1 ⟨_, rfl, w.2⟩
theorem s_X4_readAll_52 {E : EnvT} {d : Nat} (cx : CX E "ShoreDay$Parser" cX4_readAll 4 (some .boolean) "readAll" (d + 5) 0 0) (hY : eY E = lay1) {Q : Int32 → Hp → Prop} (eq : EQ E 0 0 (fun r h2 => ∃ x, r = [vI x] ∧ Q x h2)) {R0 : Int32 → Hp → (Int32 → Hp → Prop) → Prop} (hR0 : ∀ a h Q, R0 a h Q → Ct (eL E) lay1 yX4_readAll cX4_readAll 4 (some .boolean) (d + 1) 0 0 [vP (some (4, 0)), vI a] h (fun r h2 => ∃ x, r = [vI x] ∧ Q x h2)) {K8 : Int32 → Int32 → Int32 → Hp → Prop} (hK8 : ∀ (a1 : Int32) (a2 : Int32) (a3 : Int32) (h : Hp) (c n : Nat), c + 0 ≤ 0 → n + 0 ≤ 0 → K8 a1 a2 a3 h → SW E 8 ([some (vP (some (4, 0))), some (vI (a1)), some (vI (a2)), some (vI (a3))], [], h, c, n)) {a1 : Int32} {a2 : Int32} {a3 : Int32} {h : Hp} {c n : Nat} (hc : c + 0 ≤ 0) (hn : n + 0 ≤ 0) (w : w_X4_readAll_52 R0 K8 Q a1 a2 a3 h) : SW E 52 ([some (vP (some (4, 0))), some (vI (a1)), some (vI (a2)), some (vI (a3))], [], h, c, n) := by
  refine k_X4_readAll_52 cx hY ?_
  exact hK8 _ _ _ _ _ _ (by omega) (by omega) w
theorem s_X4_readAll_42 {E : EnvT} {d : Nat} (cx : CX E "ShoreDay$Parser" cX4_readAll 4 (some .boolean) "readAll" (d + 5) 0 0) (hY : eY E = lay1) {Q : Int32 → Hp → Prop} (eq : EQ E 0 0 (fun r h2 => ∃ x, r = [vI x] ∧ Q x h2)) {R0 : Int32 → Hp → (Int32 → Hp → Prop) → Prop} (hR0 : ∀ a h Q, R0 a h Q → Ct (eL E) lay1 yX4_readAll cX4_readAll 4 (some .boolean) (d + 1) 0 0 [vP (some (4, 0)), vI a] h (fun r h2 => ∃ x, r = [vI x] ∧ Q x h2)) {K8 : Int32 → Int32 → Int32 → Hp → Prop} (hK8 : ∀ (a1 : Int32) (a2 : Int32) (a3 : Int32) (h : Hp) (c n : Nat), c + 0 ≤ 0 → n + 0 ≤ 0 → K8 a1 a2 a3 h → SW E 8 ([some (vP (some (4, 0))), some (vI (a1)), some (vI (a2)), some (vI (a3))], [], h, c, n)) {a1 : Int32} {a2 : Int32} {a3 : Int32} {s0 : Int32} {h : Hp} {c n : Nat} (hc : c + 0 ≤ 0) (hn : n + 0 ≤ 0) (w : w_X4_readAll_42 R0 K8 Q a1 a2 a3 s0 h) : SW E 42 ([some (vP (some (4, 0))), some (vI (a1)), some (vI (a2)), some (vI (a3))], [vI (s0)], h, c, n) := by
  obtain ⟨g1, e1, w⟩ := w
  refine k_X4_readAll_42 cx hY e1 (ctY hY (vc_X1_put (d := d + 3) w)) (by omega) (by omega) (by omega) (fun r h2 hp => ?_)
  obtain ⟨rfl, w⟩ := hp
  exact s_X4_readAll_52 cx hY eq hR0 hK8 (by omega) (by omega) w
theorem s_X4_readAll_37 {E : EnvT} {d : Nat} (cx : CX E "ShoreDay$Parser" cX4_readAll 4 (some .boolean) "readAll" (d + 5) 0 0) (hY : eY E = lay1) {Q : Int32 → Hp → Prop} (eq : EQ E 0 0 (fun r h2 => ∃ x, r = [vI x] ∧ Q x h2)) {R0 : Int32 → Hp → (Int32 → Hp → Prop) → Prop} (hR0 : ∀ a h Q, R0 a h Q → Ct (eL E) lay1 yX4_readAll cX4_readAll 4 (some .boolean) (d + 1) 0 0 [vP (some (4, 0)), vI a] h (fun r h2 => ∃ x, r = [vI x] ∧ Q x h2)) {K8 : Int32 → Int32 → Int32 → Hp → Prop} (hK8 : ∀ (a1 : Int32) (a2 : Int32) (a3 : Int32) (h : Hp) (c n : Nat), c + 0 ≤ 0 → n + 0 ≤ 0 → K8 a1 a2 a3 h → SW E 8 ([some (vP (some (4, 0))), some (vI (a1)), some (vI (a2)), some (vI (a3))], [], h, c, n)) {a1 : Int32} {a2 : Int32} {a3 : Int32} {h : Hp} {c n : Nat} (hc : c + 0 ≤ 0) (hn : n + 0 ≤ 0) (w : w_X4_readAll_37 R0 K8 Q a1 a2 a3 h) : SW E 37 ([some (vP (some (4, 0))), some (vI (a1)), some (vI (a2)), some (vI (a3))], [], h, c, n) := by
  refine k_X4_readAll_37 cx hY (ctY hY (vc_X4_readTest (d := d + 0) hR0 w)) (by omega) (by omega) (by omega) (fun r h2 hp => ?_)
  obtain ⟨r2, rfl, w⟩ := hp
  exact s_X4_readAll_42 cx hY eq hR0 hK8 (by omega) (by omega) w
theorem s_X4_readAll_30 {E : EnvT} {d : Nat} (cx : CX E "ShoreDay$Parser" cX4_readAll 4 (some .boolean) "readAll" (d + 5) 0 0) (hY : eY E = lay1) {Q : Int32 → Hp → Prop} (eq : EQ E 0 0 (fun r h2 => ∃ x, r = [vI x] ∧ Q x h2)) {R0 : Int32 → Hp → (Int32 → Hp → Prop) → Prop} (hR0 : ∀ a h Q, R0 a h Q → Ct (eL E) lay1 yX4_readAll cX4_readAll 4 (some .boolean) (d + 1) 0 0 [vP (some (4, 0)), vI a] h (fun r h2 => ∃ x, r = [vI x] ∧ Q x h2)) {K8 : Int32 → Int32 → Int32 → Hp → Prop} (hK8 : ∀ (a1 : Int32) (a2 : Int32) (a3 : Int32) (h : Hp) (c n : Nat), c + 0 ≤ 0 → n + 0 ≤ 0 → K8 a1 a2 a3 h → SW E 8 ([some (vP (some (4, 0))), some (vI (a1)), some (vI (a2)), some (vI (a3))], [], h, c, n)) {a1 : Int32} {a2 : Int32} {a3 : Int32} {h : Hp} {c n : Nat} (hc : c + 0 ≤ 0) (hn : n + 0 ≤ 0) (w : w_X4_readAll_30 R0 K8 Q a1 a2 a3 h) : SW E 30 ([some (vP (some (4, 0))), some (vI (a1)), some (vI (a2)), some (vI (a3))], [], h, c, n) := by
  refine k_X4_readAll_30 cx hY (ctY hY (vc_X9_step (d := d + 3) w)) (by omega) (by omega) (by omega) (fun r h2 hp => ?_)
  obtain ⟨rfl, w⟩ := hp
  exact s_X4_readAll_37 cx hY eq hR0 hK8 (by omega) (by omega) w
theorem s_X4_readAll_19 {E : EnvT} {d : Nat} (cx : CX E "ShoreDay$Parser" cX4_readAll 4 (some .boolean) "readAll" (d + 5) 0 0) (hY : eY E = lay1) {Q : Int32 → Hp → Prop} (eq : EQ E 0 0 (fun r h2 => ∃ x, r = [vI x] ∧ Q x h2)) {R0 : Int32 → Hp → (Int32 → Hp → Prop) → Prop} (hR0 : ∀ a h Q, R0 a h Q → Ct (eL E) lay1 yX4_readAll cX4_readAll 4 (some .boolean) (d + 1) 0 0 [vP (some (4, 0)), vI a] h (fun r h2 => ∃ x, r = [vI x] ∧ Q x h2)) {K8 : Int32 → Int32 → Int32 → Hp → Prop} (hK8 : ∀ (a1 : Int32) (a2 : Int32) (a3 : Int32) (h : Hp) (c n : Nat), c + 0 ≤ 0 → n + 0 ≤ 0 → K8 a1 a2 a3 h → SW E 8 ([some (vP (some (4, 0))), some (vI (a1)), some (vI (a2)), some (vI (a3))], [], h, c, n)) {a1 : Int32} {a2 : Int32} {a3 : Int32} {h : Hp} {c n : Nat} (hc : c + 0 ≤ 0) (hn : n + 0 ≤ 0) (w : w_X4_readAll_19 R0 K8 Q a1 a2 a3 h) : SW E 19 ([some (vP (some (4, 0))), some (vI (a1)), some (vI (a2)), some (vI (a3))], [], h, c, n) := by
  refine k_X4_readAll_19 cx hY (fun q => ?_) (fun q => ?_)
  · have w := w.1 q
    exact s_X4_readAll_58 cx hY eq hR0  (by omega) (by omega) w
  · have w := w.2 q
    exact s_X4_readAll_30 cx hY eq hR0 hK8 (by omega) (by omega) w
theorem s_X4_readAll_15 {E : EnvT} {d : Nat} (cx : CX E "ShoreDay$Parser" cX4_readAll 4 (some .boolean) "readAll" (d + 5) 0 0) (hY : eY E = lay1) {Q : Int32 → Hp → Prop} (eq : EQ E 0 0 (fun r h2 => ∃ x, r = [vI x] ∧ Q x h2)) {R0 : Int32 → Hp → (Int32 → Hp → Prop) → Prop} (hR0 : ∀ a h Q, R0 a h Q → Ct (eL E) lay1 yX4_readAll cX4_readAll 4 (some .boolean) (d + 1) 0 0 [vP (some (4, 0)), vI a] h (fun r h2 => ∃ x, r = [vI x] ∧ Q x h2)) {K8 : Int32 → Int32 → Int32 → Hp → Prop} (hK8 : ∀ (a1 : Int32) (a2 : Int32) (a3 : Int32) (h : Hp) (c n : Nat), c + 0 ≤ 0 → n + 0 ≤ 0 → K8 a1 a2 a3 h → SW E 8 ([some (vP (some (4, 0))), some (vI (a1)), some (vI (a2)), some (vI (a3))], [], h, c, n)) {a1 : Int32} {a2 : Int32} {a3 : Int32} {h : Hp} {c n : Nat} (hc : c + 0 ≤ 0) (hn : n + 0 ≤ 0) (w : w_X4_readAll_15 R0 K8 Q a1 a2 a3 h) : SW E 15 ([some (vP (some (4, 0))), some (vI (a1)), some (vI (a2)), some (vI (a3))], [], h, c, n) := by
  refine k_X4_readAll_15 cx hY (fun q => ?_) (fun q => ?_)
  · have w := w.1 q
    exact s_X4_readAll_58 cx hY eq hR0  (by omega) (by omega) w
  · have w := w.2 q
    exact s_X4_readAll_19 cx hY eq hR0 hK8 (by omega) (by omega) w
theorem s_X4_readAll_8 {E : EnvT} {d : Nat} (cx : CX E "ShoreDay$Parser" cX4_readAll 4 (some .boolean) "readAll" (d + 5) 0 0) (hY : eY E = lay1) {Q : Int32 → Hp → Prop} (eq : EQ E 0 0 (fun r h2 => ∃ x, r = [vI x] ∧ Q x h2)) {R0 : Int32 → Hp → (Int32 → Hp → Prop) → Prop} (hR0 : ∀ a h Q, R0 a h Q → Ct (eL E) lay1 yX4_readAll cX4_readAll 4 (some .boolean) (d + 1) 0 0 [vP (some (4, 0)), vI a] h (fun r h2 => ∃ x, r = [vI x] ∧ Q x h2)) : ∀ (N : Nat) (a1 : Int32) (a2 : Int32) (a3 : Int32) (h : Hp) (c n : Nat), c + 0 ≤ 0 → n + 0 ≤ 0 → w_X4_readAll_8 R0  Q N a1 a2 a3 h → SW E 8 ([some (vP (some (4, 0))), some (vI (a1)), some (vI (a2)), some (vI (a3))], [], h, c, n) := by
  intro N
  induction N with
  | zero =>
    intro _ _ _ h c n _ _ w
    exact w.elim
  | succ N ih =>
    intro a1 a2 a3 h c n hc hn w
    refine k_X4_readAll_8 cx hY (fun q => ?_) (fun q => ?_)
    · have w := w.1 q
      exact s_X4_readAll_58 cx hY eq hR0  (by omega) (by omega) w
    · have w := w.2 q
      exact s_X4_readAll_15 cx hY eq hR0 ih (by omega) (by omega) w
theorem s_X4_readAll_5 {E : EnvT} {d : Nat} (cx : CX E "ShoreDay$Parser" cX4_readAll 4 (some .boolean) "readAll" (d + 5) 0 0) (hY : eY E = lay1) {Q : Int32 → Hp → Prop} (eq : EQ E 0 0 (fun r h2 => ∃ x, r = [vI x] ∧ Q x h2)) {R0 : Int32 → Hp → (Int32 → Hp → Prop) → Prop} (hR0 : ∀ a h Q, R0 a h Q → Ct (eL E) lay1 yX4_readAll cX4_readAll 4 (some .boolean) (d + 1) 0 0 [vP (some (4, 0)), vI a] h (fun r h2 => ∃ x, r = [vI x] ∧ Q x h2)) {a1 : Int32} {x2 : Option AVal} {x3 : Option AVal} {s0 : Int32} {h : Hp} {c n : Nat} (hc : c + 0 ≤ 0) (hn : n + 0 ≤ 0) (w : w_X4_readAll_5 R0  Q a1 s0 h) : SW E 5 ([some (vP (some (4, 0))), some (vI (a1)), x2, x3], [vI (s0)], h, c, n) := by
  refine k_X4_readAll_5 cx hY ?_
  obtain ⟨N1, w⟩ := w
  exact s_X4_readAll_8 cx hY eq hR0  _ _ _ _ _ _ _ (by omega) (by omega) w
theorem s_X4_readAll_0 {E : EnvT} {d : Nat} (cx : CX E "ShoreDay$Parser" cX4_readAll 4 (some .boolean) "readAll" (d + 5) 0 0) (hY : eY E = lay1) {Q : Int32 → Hp → Prop} (eq : EQ E 0 0 (fun r h2 => ∃ x, r = [vI x] ∧ Q x h2)) {R0 : Int32 → Hp → (Int32 → Hp → Prop) → Prop} (hR0 : ∀ a h Q, R0 a h Q → Ct (eL E) lay1 yX4_readAll cX4_readAll 4 (some .boolean) (d + 1) 0 0 [vP (some (4, 0)), vI a] h (fun r h2 => ∃ x, r = [vI x] ∧ Q x h2)) {a1 : Int32} {x2 : Option AVal} {x3 : Option AVal} {h : Hp} {c n : Nat} (hc : c + 0 ≤ 0) (hn : n + 0 ≤ 0) (w : w_X4_readAll_0 R0  Q a1 h) : SW E 0 ([some (vP (some (4, 0))), some (vI (a1)), x2, x3], [], h, c, n) := by
  refine k_X4_readAll_0 cx hY (ctY hY (vc_X4_readTest (d := d + 0) hR0 w)) (by omega) (by omega) (by omega) (fun r h2 hp => ?_)
  obtain ⟨r2, rfl, w⟩ := hp
  exact s_X4_readAll_5 cx hY eq hR0  (by omega) (by omega) w
def wp_X4_readAllB (R0 : Int32 → Hp → (Int32 → Hp → Prop) → Prop) (a1 : Int32) (h : Hp) (Q : Int32 → Hp → Prop) : Prop := w_X4_readAll_0 R0 Q a1 h
theorem vc_X4_readAllB {l : Launch} {d : Nat} {R0 : Int32 → Hp → (Int32 → Hp → Prop) → Prop} (hR0 : ∀ a h Q, R0 a h Q → Ct l lay1 yX4_readAll cX4_readAll 4 (some .boolean) (d + 1) 0 0 [vP (some (4, 0)), vI a] h (fun r h2 => ∃ x, r = [vI x] ∧ Q x h2)) {a1 : Int32} {h : Hp} {Q : Int32 → Hp → Prop} (w : wp_X4_readAllB R0 a1 h Q) : Ct l lay1 yX4_readAll cX4_readAll 4 (some .boolean) (d + 5) 0 0 [vP (some (4, 0)), vI a1] h (fun r h2 => ∃ x, r = [vI x] ∧ Q x h2) := by
  exact Ct.of (by decide) (Nat.le_of_ble_eq_true rfl) fun E cx eq hl hY => s_X4_readAll_0 cx hY eq (by rw [hl]; exact hR0) (Nat.le_refl _) (Nat.le_refl _) w
def wpr_X4_readAll : Nat → Int32 → Hp → (Int32 → Hp → Prop) → Prop
  | 0 => fun _ _ _ => False
  | N + 1 => fun a h Q => wp_X4_readAllB (wpr_X4_readAll N) a h Q
theorem vcr_X4_readAll {l : Launch} : ∀ (N d : Nat) (a : Int32) (h : Hp) (Q : Int32 → Hp → Prop), wpr_X4_readAll N a h Q → Ct l lay1 yX4_readAll cX4_readAll 4 (some .boolean) (d + 1 + 4 * N) 0 0 [vP (some (4, 0)), vI a] h (fun r h2 => ∃ x, r = [vI x] ∧ Q x h2)
  | 0, _, _, _, _, w => w.elim
  | N + 1, d, a, h, Q, w => by
    have h1 := vc_X4_readAllB (l := l) (d := d + 4 * N) (R0 := wpr_X4_readAll N) (fun a h Q w => by
      have := vcr_X4_readAll (l := l) N d a h Q w
      rwa [show d + 1 + 4 * N = d + 4 * N + 1 by omega] at this) w
    rwa [show d + 4 * N + 5 = d + 1 + 4 * (N + 1) by omega] at h1
def wp_X4_readAll (a1 : Int32) (h : Hp) (Q : Int32 → Hp → Prop) : Prop := wpr_X4_readAll 7 a1 h Q
theorem vc_X4_readAll {l : Launch} {d : Nat} {a1 : Int32} {h : Hp} {Q : Int32 → Hp → Prop} (w : wp_X4_readAll a1 h Q) : Ct l lay1 yX4_readAll cX4_readAll 4 (some .boolean) (d + 29) 0 0 [vP (some (4, 0)), vI a1] h (fun r h2 => ∃ x, r = [vI x] ∧ Q x h2) := vcr_X4_readAll 7 d a1 h Q w
def w_X4_readLine_119 (Q : Int32 → Hp → Prop) (p1 : Option PtrT) (a2 : Int32) (h : Hp) : Prop := Q ((0 : Int32)) (h)
def w_X4_readLine_117 (Q : Int32 → Hp → Prop) (p1 : Option PtrT) (a2 : Int32) (h : Hp) : Prop := Q ((1 : Int32)) (h)
def w_X4_readLine_109 (Q : Int32 → Hp → Prop) (p1 : Option PtrT) (a2 : Int32) (h : Hp) : Prop := ∃ g1, gP (h) 4 (0) 1 = some (1, g1) ∧ (wp_X1_endLine (g1) (a2) (h) (fun h2 => w_X4_readLine_117  Q (p1) (a2) (h2)))
def w_X4_readLine_106 (Q : Int32 → Hp → Prop) (p1 : Option PtrT) (a2 : Int32) (s0 : Int32) (h : Hp) : Prop := ((s0) = 0 → w_X4_readLine_119  Q (p1) (a2) (h)) ∧ (¬ (s0) = 0 → w_X4_readLine_109  Q (p1) (a2) (h))
def w_X4_readLine_100 (Q : Int32 → Hp → Prop) (p1 : Option PtrT) (a2 : Int32) (h : Hp) : Prop := wp_X4_expect ((12 : Int32)) (h) (fun r2 h2 => w_X4_readLine_106  Q (p1) (a2) (r2) (h2))
def w_X4_readLine_97 (Q : Int32 → Hp → Prop) (p1 : Option PtrT) (a2 : Int32) (s0 : Int32) (h : Hp) : Prop := ((s0) = 0 → w_X4_readLine_119  Q (p1) (a2) (h)) ∧ (¬ (s0) = 0 → w_X4_readLine_100  Q (p1) (a2) (h))
def w_X4_readLine_92 (Q : Int32 → Hp → Prop) (p1 : Option PtrT) (a2 : Int32) (h : Hp) : Prop := wp_X4_readAll ((0 : Int32)) (h) (fun r2 h2 => w_X4_readLine_97  Q (p1) (a2) (r2) (h2))
def w_X4_readLine_89 (Q : Int32 → Hp → Prop) (p1 : Option PtrT) (a2 : Int32) (s0 : Int32) (h : Hp) : Prop := ((s0) = 0 → w_X4_readLine_119  Q (p1) (a2) (h)) ∧ (¬ (s0) = 0 → w_X4_readLine_92  Q (p1) (a2) (h))
def w_X4_readLine_84 (Q : Int32 → Hp → Prop) (p1 : Option PtrT) (a2 : Int32) (h : Hp) : Prop := wp_X4_expect ((4 : Int32)) (h) (fun r2 h2 => w_X4_readLine_89  Q (p1) (a2) (r2) (h2))
def w_X4_readLine_81 (Q : Int32 → Hp → Prop) (p1 : Option PtrT) (a2 : Int32) (s0 : Int32) (h : Hp) : Prop := ((s0) = 0 → w_X4_readLine_119  Q (p1) (a2) (h)) ∧ (¬ (s0) = 0 → w_X4_readLine_84  Q (p1) (a2) (h))
def w_X4_readLine_76 (Q : Int32 → Hp → Prop) (p1 : Option PtrT) (a2 : Int32) (h : Hp) : Prop := wp_X4_expect ((2 : Int32)) (h) (fun r2 h2 => w_X4_readLine_81  Q (p1) (a2) (r2) (h2))
def w_X4_readLine_75 (Q : Int32 → Hp → Prop) (p1 : Option PtrT) (a2 : Int32) (s0 : Int32) (h : Hp) : Prop := ((s0) = 0 ∨ (s0) = 1) ∧ Q (s0) (h)
def w_X4_readLine_70 (Q : Int32 → Hp → Prop) (p1 : Option PtrT) (a2 : Int32) (h : Hp) : Prop := wp_X4_fail ((4 : Int32)) (h) (fun r2 h2 => w_X4_readLine_75  Q (p1) (a2) (r2) (h2))
def w_X4_readLine_63 (Q : Int32 → Hp → Prop) (p1 : Option PtrT) (a2 : Int32) (h : Hp) : Prop := ((a2) ≤ ((999 : Int32)) → w_X4_readLine_76  Q (p1) (a2) (h)) ∧ (¬ (a2) ≤ ((999 : Int32)) → w_X4_readLine_70  Q (p1) (a2) (h))
def w_X4_readLine_44 (Q : Int32 → Hp → Prop) (p1 : Option PtrT) (h : Hp) : Prop := (¬ (gI (h) 9 (0) (5)) = ((2 : Int32)) → w_X4_readLine_76  Q (p1) (gI (h) 9 (0) (7)) (h)) ∧ ((gI (h) 9 (0) (5)) = ((2 : Int32)) → w_X4_readLine_63  Q (p1) (gI (h) 9 (0) (7)) (h))
def w_X4_readLine_42 (Q : Int32 → Hp → Prop) (p1 : Option PtrT) (h : Hp) : Prop := Q ((0 : Int32)) (h)
def w_X4_readLine_39 (Q : Int32 → Hp → Prop) (p1 : Option PtrT) (s0 : Int32) (h : Hp) : Prop := (¬ (s0) = 0 → w_X4_readLine_44  Q (p1) (h)) ∧ ((s0) = 0 → w_X4_readLine_42  Q (p1) (h))
def w_X4_readLine_34 (Q : Int32 → Hp → Prop) (p1 : Option PtrT) (h : Hp) : Prop := wp_X4_expect ((3 : Int32)) (h) (fun r2 h2 => w_X4_readLine_39  Q (p1) (r2) (h2))
def w_X4_readLine_33 (Q : Int32 → Hp → Prop) (p1 : Option PtrT) (s0 : Int32) (h : Hp) : Prop := ((s0) = 0 ∨ (s0) = 1) ∧ Q (s0) (h)
def w_X4_readLine_28 (Q : Int32 → Hp → Prop) (p1 : Option PtrT) (h : Hp) : Prop := wp_X4_fail ((5 : Int32)) (h) (fun r2 h2 => w_X4_readLine_33  Q (p1) (r2) (h2))
def w_X4_readLine_16 (Q : Int32 → Hp → Prop) (p1 : Option PtrT) (h : Hp) : Prop := ∃ g1, gP (h) 4 (0) 1 = some (1, g1) ∧ (((gI (h) 1 (g1) (6)) < ((16 : Int32)) → w_X4_readLine_34  Q (p1) (h)) ∧ (¬ (gI (h) 1 (g1) (6)) < ((16 : Int32)) → w_X4_readLine_28  Q (p1) (h)))
def w_X4_readLine_0 (Q : Int32 → Hp → Prop) (p1 : Option PtrT) (h : Hp) : Prop := (¬ (gI (wP (h) 4 (0) 1 (p1)) 9 (0) (5)) = ((3 : Int32)) → w_X4_readLine_34  Q (p1) (wP (h) 4 (0) 1 (p1))) ∧ ((gI (wP (h) 4 (0) 1 (p1)) 9 (0) (5)) = ((3 : Int32)) → w_X4_readLine_16  Q (p1) (wP (h) 4 (0) 1 (p1)))
theorem s_X4_readLine_119 {E : EnvT} {d : Nat} (cx : CX E "ShoreDay$Parser" cX4_readLine 3 (some .boolean) "readLine" (d + 30) 0 0) (hY : eY E = lay1) {Q : Int32 → Hp → Prop} (eq : EQ E 0 0 (fun r h2 => ∃ x, r = [vI x] ∧ Q x h2)) {p1 : Option PtrT} {a2 : Int32} {h : Hp} {c n : Nat} (hc : c + 0 ≤ 0) (hn : n + 0 ≤ 0) (w : w_X4_readLine_119  Q p1 a2 h) : SW E 119 ([some (vP (some (4, 0))), some (vP (p1)), some (vI (a2))], [], h, c, n) := by
  exact k_X4_readLine_119 cx hY eq (by omega) (by omega) ⟨_, rfl, w⟩
theorem s_X4_readLine_117 {E : EnvT} {d : Nat} (cx : CX E "ShoreDay$Parser" cX4_readLine 3 (some .boolean) "readLine" (d + 30) 0 0) (hY : eY E = lay1) {Q : Int32 → Hp → Prop} (eq : EQ E 0 0 (fun r h2 => ∃ x, r = [vI x] ∧ Q x h2)) {p1 : Option PtrT} {a2 : Int32} {h : Hp} {c n : Nat} (hc : c + 0 ≤ 0) (hn : n + 0 ≤ 0) (w : w_X4_readLine_117  Q p1 a2 h) : SW E 117 ([some (vP (some (4, 0))), some (vP (p1)), some (vI (a2))], [], h, c, n) := by
  exact k_X4_readLine_117 cx hY eq (by omega) (by omega) ⟨_, rfl, w⟩
theorem s_X4_readLine_109 {E : EnvT} {d : Nat} (cx : CX E "ShoreDay$Parser" cX4_readLine 3 (some .boolean) "readLine" (d + 30) 0 0) (hY : eY E = lay1) {Q : Int32 → Hp → Prop} (eq : EQ E 0 0 (fun r h2 => ∃ x, r = [vI x] ∧ Q x h2)) {p1 : Option PtrT} {a2 : Int32} {h : Hp} {c n : Nat} (hc : c + 0 ≤ 0) (hn : n + 0 ≤ 0) (w : w_X4_readLine_109  Q p1 a2 h) : SW E 109 ([some (vP (some (4, 0))), some (vP (p1)), some (vI (a2))], [], h, c, n) := by
  obtain ⟨g1, e1, w⟩ := w
  refine k_X4_readLine_109 cx hY e1 (ctY hY (vc_X1_endLine (d := d + 28) w)) (by omega) (by omega) (by omega) (fun r h2 hp => ?_)
  obtain ⟨rfl, w⟩ := hp
  exact s_X4_readLine_117 cx hY eq  (by omega) (by omega) w
theorem s_X4_readLine_106 {E : EnvT} {d : Nat} (cx : CX E "ShoreDay$Parser" cX4_readLine 3 (some .boolean) "readLine" (d + 30) 0 0) (hY : eY E = lay1) {Q : Int32 → Hp → Prop} (eq : EQ E 0 0 (fun r h2 => ∃ x, r = [vI x] ∧ Q x h2)) {p1 : Option PtrT} {a2 : Int32} {s0 : Int32} {h : Hp} {c n : Nat} (hc : c + 0 ≤ 0) (hn : n + 0 ≤ 0) (w : w_X4_readLine_106  Q p1 a2 s0 h) : SW E 106 ([some (vP (some (4, 0))), some (vP (p1)), some (vI (a2))], [vI (s0)], h, c, n) := by
  refine k_X4_readLine_106 cx hY (fun q => ?_) (fun q => ?_)
  · have w := w.1 q
    exact s_X4_readLine_119 cx hY eq  (by omega) (by omega) w
  · have w := w.2 q
    exact s_X4_readLine_109 cx hY eq  (by omega) (by omega) w
theorem s_X4_readLine_100 {E : EnvT} {d : Nat} (cx : CX E "ShoreDay$Parser" cX4_readLine 3 (some .boolean) "readLine" (d + 30) 0 0) (hY : eY E = lay1) {Q : Int32 → Hp → Prop} (eq : EQ E 0 0 (fun r h2 => ∃ x, r = [vI x] ∧ Q x h2)) {p1 : Option PtrT} {a2 : Int32} {h : Hp} {c n : Nat} (hc : c + 0 ≤ 0) (hn : n + 0 ≤ 0) (w : w_X4_readLine_100  Q p1 a2 h) : SW E 100 ([some (vP (some (4, 0))), some (vP (p1)), some (vI (a2))], [], h, c, n) := by
  refine k_X4_readLine_100 cx hY (ctY hY (vc_X4_expect (d := d + 27) w)) (by omega) (by omega) (by omega) (fun r h2 hp => ?_)
  obtain ⟨r2, rfl, w⟩ := hp
  exact s_X4_readLine_106 cx hY eq  (by omega) (by omega) w
theorem s_X4_readLine_97 {E : EnvT} {d : Nat} (cx : CX E "ShoreDay$Parser" cX4_readLine 3 (some .boolean) "readLine" (d + 30) 0 0) (hY : eY E = lay1) {Q : Int32 → Hp → Prop} (eq : EQ E 0 0 (fun r h2 => ∃ x, r = [vI x] ∧ Q x h2)) {p1 : Option PtrT} {a2 : Int32} {s0 : Int32} {h : Hp} {c n : Nat} (hc : c + 0 ≤ 0) (hn : n + 0 ≤ 0) (w : w_X4_readLine_97  Q p1 a2 s0 h) : SW E 97 ([some (vP (some (4, 0))), some (vP (p1)), some (vI (a2))], [vI (s0)], h, c, n) := by
  refine k_X4_readLine_97 cx hY (fun q => ?_) (fun q => ?_)
  · have w := w.1 q
    exact s_X4_readLine_119 cx hY eq  (by omega) (by omega) w
  · have w := w.2 q
    exact s_X4_readLine_100 cx hY eq  (by omega) (by omega) w
theorem s_X4_readLine_92 {E : EnvT} {d : Nat} (cx : CX E "ShoreDay$Parser" cX4_readLine 3 (some .boolean) "readLine" (d + 30) 0 0) (hY : eY E = lay1) {Q : Int32 → Hp → Prop} (eq : EQ E 0 0 (fun r h2 => ∃ x, r = [vI x] ∧ Q x h2)) {p1 : Option PtrT} {a2 : Int32} {h : Hp} {c n : Nat} (hc : c + 0 ≤ 0) (hn : n + 0 ≤ 0) (w : w_X4_readLine_92  Q p1 a2 h) : SW E 92 ([some (vP (some (4, 0))), some (vP (p1)), some (vI (a2))], [], h, c, n) := by
  refine k_X4_readLine_92 cx hY (ctY hY (vc_X4_readAll (d := d + 0) w)) (by omega) (by omega) (by omega) (fun r h2 hp => ?_)
  obtain ⟨r2, rfl, w⟩ := hp
  exact s_X4_readLine_97 cx hY eq  (by omega) (by omega) w
theorem s_X4_readLine_89 {E : EnvT} {d : Nat} (cx : CX E "ShoreDay$Parser" cX4_readLine 3 (some .boolean) "readLine" (d + 30) 0 0) (hY : eY E = lay1) {Q : Int32 → Hp → Prop} (eq : EQ E 0 0 (fun r h2 => ∃ x, r = [vI x] ∧ Q x h2)) {p1 : Option PtrT} {a2 : Int32} {s0 : Int32} {h : Hp} {c n : Nat} (hc : c + 0 ≤ 0) (hn : n + 0 ≤ 0) (w : w_X4_readLine_89  Q p1 a2 s0 h) : SW E 89 ([some (vP (some (4, 0))), some (vP (p1)), some (vI (a2))], [vI (s0)], h, c, n) := by
  refine k_X4_readLine_89 cx hY (fun q => ?_) (fun q => ?_)
  · have w := w.1 q
    exact s_X4_readLine_119 cx hY eq  (by omega) (by omega) w
  · have w := w.2 q
    exact s_X4_readLine_92 cx hY eq  (by omega) (by omega) w
theorem s_X4_readLine_84 {E : EnvT} {d : Nat} (cx : CX E "ShoreDay$Parser" cX4_readLine 3 (some .boolean) "readLine" (d + 30) 0 0) (hY : eY E = lay1) {Q : Int32 → Hp → Prop} (eq : EQ E 0 0 (fun r h2 => ∃ x, r = [vI x] ∧ Q x h2)) {p1 : Option PtrT} {a2 : Int32} {h : Hp} {c n : Nat} (hc : c + 0 ≤ 0) (hn : n + 0 ≤ 0) (w : w_X4_readLine_84  Q p1 a2 h) : SW E 84 ([some (vP (some (4, 0))), some (vP (p1)), some (vI (a2))], [], h, c, n) := by
  refine k_X4_readLine_84 cx hY (ctY hY (vc_X4_expect (d := d + 27) w)) (by omega) (by omega) (by omega) (fun r h2 hp => ?_)
  obtain ⟨r2, rfl, w⟩ := hp
  exact s_X4_readLine_89 cx hY eq  (by omega) (by omega) w
theorem s_X4_readLine_81 {E : EnvT} {d : Nat} (cx : CX E "ShoreDay$Parser" cX4_readLine 3 (some .boolean) "readLine" (d + 30) 0 0) (hY : eY E = lay1) {Q : Int32 → Hp → Prop} (eq : EQ E 0 0 (fun r h2 => ∃ x, r = [vI x] ∧ Q x h2)) {p1 : Option PtrT} {a2 : Int32} {s0 : Int32} {h : Hp} {c n : Nat} (hc : c + 0 ≤ 0) (hn : n + 0 ≤ 0) (w : w_X4_readLine_81  Q p1 a2 s0 h) : SW E 81 ([some (vP (some (4, 0))), some (vP (p1)), some (vI (a2))], [vI (s0)], h, c, n) := by
  refine k_X4_readLine_81 cx hY (fun q => ?_) (fun q => ?_)
  · have w := w.1 q
    exact s_X4_readLine_119 cx hY eq  (by omega) (by omega) w
  · have w := w.2 q
    exact s_X4_readLine_84 cx hY eq  (by omega) (by omega) w
theorem s_X4_readLine_76 {E : EnvT} {d : Nat} (cx : CX E "ShoreDay$Parser" cX4_readLine 3 (some .boolean) "readLine" (d + 30) 0 0) (hY : eY E = lay1) {Q : Int32 → Hp → Prop} (eq : EQ E 0 0 (fun r h2 => ∃ x, r = [vI x] ∧ Q x h2)) {p1 : Option PtrT} {a2 : Int32} {h : Hp} {c n : Nat} (hc : c + 0 ≤ 0) (hn : n + 0 ≤ 0) (w : w_X4_readLine_76  Q p1 a2 h) : SW E 76 ([some (vP (some (4, 0))), some (vP (p1)), some (vI (a2))], [], h, c, n) := by
  refine k_X4_readLine_76 cx hY (ctY hY (vc_X4_expect (d := d + 27) w)) (by omega) (by omega) (by omega) (fun r h2 hp => ?_)
  obtain ⟨r2, rfl, w⟩ := hp
  exact s_X4_readLine_81 cx hY eq  (by omega) (by omega) w
theorem s_X4_readLine_75 {E : EnvT} {d : Nat} (cx : CX E "ShoreDay$Parser" cX4_readLine 3 (some .boolean) "readLine" (d + 30) 0 0) (hY : eY E = lay1) {Q : Int32 → Hp → Prop} (eq : EQ E 0 0 (fun r h2 => ∃ x, r = [vI x] ∧ Q x h2)) {p1 : Option PtrT} {a2 : Int32} {s0 : Int32} {h : Hp} {c n : Nat} (hc : c + 0 ≤ 0) (hn : n + 0 ≤ 0) (w : w_X4_readLine_75  Q p1 a2 s0 h) : SW E 75 ([some (vP (some (4, 0))), some (vP (p1)), some (vI (a2))], [vI (s0)], h, c, n) := by
  exact k_X4_readLine_75 cx hY eq (by omega) (by omega) w.1 ⟨_, rfl, w.2⟩
theorem s_X4_readLine_70 {E : EnvT} {d : Nat} (cx : CX E "ShoreDay$Parser" cX4_readLine 3 (some .boolean) "readLine" (d + 30) 0 0) (hY : eY E = lay1) {Q : Int32 → Hp → Prop} (eq : EQ E 0 0 (fun r h2 => ∃ x, r = [vI x] ∧ Q x h2)) {p1 : Option PtrT} {a2 : Int32} {h : Hp} {c n : Nat} (hc : c + 0 ≤ 0) (hn : n + 0 ≤ 0) (w : w_X4_readLine_70  Q p1 a2 h) : SW E 70 ([some (vP (some (4, 0))), some (vP (p1)), some (vI (a2))], [], h, c, n) := by
  refine k_X4_readLine_70 cx hY (ctY hY (vc_X4_fail (d := d + 28) w)) (by omega) (by omega) (by omega) (fun r h2 hp => ?_)
  obtain ⟨r2, rfl, w⟩ := hp
  exact s_X4_readLine_75 cx hY eq  (by omega) (by omega) w
theorem s_X4_readLine_63 {E : EnvT} {d : Nat} (cx : CX E "ShoreDay$Parser" cX4_readLine 3 (some .boolean) "readLine" (d + 30) 0 0) (hY : eY E = lay1) {Q : Int32 → Hp → Prop} (eq : EQ E 0 0 (fun r h2 => ∃ x, r = [vI x] ∧ Q x h2)) {p1 : Option PtrT} {a2 : Int32} {h : Hp} {c n : Nat} (hc : c + 0 ≤ 0) (hn : n + 0 ≤ 0) (w : w_X4_readLine_63  Q p1 a2 h) : SW E 63 ([some (vP (some (4, 0))), some (vP (p1)), some (vI (a2))], [], h, c, n) := by
  refine k_X4_readLine_63 cx hY (fun q => ?_) (fun q => ?_)
  · have w := w.1 q
    exact s_X4_readLine_76 cx hY eq  (by omega) (by omega) w
  · have w := w.2 q
    exact s_X4_readLine_70 cx hY eq  (by omega) (by omega) w
theorem s_X4_readLine_44 {E : EnvT} {d : Nat} (cx : CX E "ShoreDay$Parser" cX4_readLine 3 (some .boolean) "readLine" (d + 30) 0 0) (hY : eY E = lay1) {Q : Int32 → Hp → Prop} (eq : EQ E 0 0 (fun r h2 => ∃ x, r = [vI x] ∧ Q x h2)) {p1 : Option PtrT} {x2 : Option AVal} {h : Hp} {c n : Nat} (hc : c + 0 ≤ 0) (hn : n + 0 ≤ 0) (w : w_X4_readLine_44  Q p1 h) : SW E 44 ([some (vP (some (4, 0))), some (vP (p1)), x2], [], h, c, n) := by
  refine k_X4_readLine_44 cx hY (fun q => ?_) (fun q => ?_)
  · have w := w.1 q
    exact s_X4_readLine_76 cx hY eq  (by omega) (by omega) w
  · have w := w.2 q
    exact s_X4_readLine_63 cx hY eq  (by omega) (by omega) w
theorem s_X4_readLine_42 {E : EnvT} {d : Nat} (cx : CX E "ShoreDay$Parser" cX4_readLine 3 (some .boolean) "readLine" (d + 30) 0 0) (hY : eY E = lay1) {Q : Int32 → Hp → Prop} (eq : EQ E 0 0 (fun r h2 => ∃ x, r = [vI x] ∧ Q x h2)) {p1 : Option PtrT} {x2 : Option AVal} {h : Hp} {c n : Nat} (hc : c + 0 ≤ 0) (hn : n + 0 ≤ 0) (w : w_X4_readLine_42  Q p1 h) : SW E 42 ([some (vP (some (4, 0))), some (vP (p1)), x2], [], h, c, n) := by
  exact k_X4_readLine_42 cx hY eq (by omega) (by omega) ⟨_, rfl, w⟩
theorem s_X4_readLine_39 {E : EnvT} {d : Nat} (cx : CX E "ShoreDay$Parser" cX4_readLine 3 (some .boolean) "readLine" (d + 30) 0 0) (hY : eY E = lay1) {Q : Int32 → Hp → Prop} (eq : EQ E 0 0 (fun r h2 => ∃ x, r = [vI x] ∧ Q x h2)) {p1 : Option PtrT} {x2 : Option AVal} {s0 : Int32} {h : Hp} {c n : Nat} (hc : c + 0 ≤ 0) (hn : n + 0 ≤ 0) (w : w_X4_readLine_39  Q p1 s0 h) : SW E 39 ([some (vP (some (4, 0))), some (vP (p1)), x2], [vI (s0)], h, c, n) := by
  refine k_X4_readLine_39 cx hY (fun q => ?_) (fun q => ?_)
  · have w := w.1 q
    exact s_X4_readLine_44 cx hY eq  (by omega) (by omega) w
  · have w := w.2 q
    exact s_X4_readLine_42 cx hY eq  (by omega) (by omega) w
theorem s_X4_readLine_34 {E : EnvT} {d : Nat} (cx : CX E "ShoreDay$Parser" cX4_readLine 3 (some .boolean) "readLine" (d + 30) 0 0) (hY : eY E = lay1) {Q : Int32 → Hp → Prop} (eq : EQ E 0 0 (fun r h2 => ∃ x, r = [vI x] ∧ Q x h2)) {p1 : Option PtrT} {x2 : Option AVal} {h : Hp} {c n : Nat} (hc : c + 0 ≤ 0) (hn : n + 0 ≤ 0) (w : w_X4_readLine_34  Q p1 h) : SW E 34 ([some (vP (some (4, 0))), some (vP (p1)), x2], [], h, c, n) := by
  refine k_X4_readLine_34 cx hY (ctY hY (vc_X4_expect (d := d + 27) w)) (by omega) (by omega) (by omega) (fun r h2 hp => ?_)
  obtain ⟨r2, rfl, w⟩ := hp
  exact s_X4_readLine_39 cx hY eq  (by omega) (by omega) w
theorem s_X4_readLine_33 {E : EnvT} {d : Nat} (cx : CX E "ShoreDay$Parser" cX4_readLine 3 (some .boolean) "readLine" (d + 30) 0 0) (hY : eY E = lay1) {Q : Int32 → Hp → Prop} (eq : EQ E 0 0 (fun r h2 => ∃ x, r = [vI x] ∧ Q x h2)) {p1 : Option PtrT} {x2 : Option AVal} {s0 : Int32} {h : Hp} {c n : Nat} (hc : c + 0 ≤ 0) (hn : n + 0 ≤ 0) (w : w_X4_readLine_33  Q p1 s0 h) : SW E 33 ([some (vP (some (4, 0))), some (vP (p1)), x2], [vI (s0)], h, c, n) := by
  exact k_X4_readLine_33 cx hY eq (by omega) (by omega) w.1 ⟨_, rfl, w.2⟩
theorem s_X4_readLine_28 {E : EnvT} {d : Nat} (cx : CX E "ShoreDay$Parser" cX4_readLine 3 (some .boolean) "readLine" (d + 30) 0 0) (hY : eY E = lay1) {Q : Int32 → Hp → Prop} (eq : EQ E 0 0 (fun r h2 => ∃ x, r = [vI x] ∧ Q x h2)) {p1 : Option PtrT} {x2 : Option AVal} {h : Hp} {c n : Nat} (hc : c + 0 ≤ 0) (hn : n + 0 ≤ 0) (w : w_X4_readLine_28  Q p1 h) : SW E 28 ([some (vP (some (4, 0))), some (vP (p1)), x2], [], h, c, n) := by
  refine k_X4_readLine_28 cx hY (ctY hY (vc_X4_fail (d := d + 28) w)) (by omega) (by omega) (by omega) (fun r h2 hp => ?_)
  obtain ⟨r2, rfl, w⟩ := hp
  exact s_X4_readLine_33 cx hY eq  (by omega) (by omega) w
theorem s_X4_readLine_16 {E : EnvT} {d : Nat} (cx : CX E "ShoreDay$Parser" cX4_readLine 3 (some .boolean) "readLine" (d + 30) 0 0) (hY : eY E = lay1) {Q : Int32 → Hp → Prop} (eq : EQ E 0 0 (fun r h2 => ∃ x, r = [vI x] ∧ Q x h2)) {p1 : Option PtrT} {x2 : Option AVal} {h : Hp} {c n : Nat} (hc : c + 0 ≤ 0) (hn : n + 0 ≤ 0) (w : w_X4_readLine_16  Q p1 h) : SW E 16 ([some (vP (some (4, 0))), some (vP (p1)), x2], [], h, c, n) := by
  obtain ⟨g1, e1, w⟩ := w
  refine k_X4_readLine_16 cx hY e1 (fun q => ?_) (fun q => ?_)
  · have w := w.1 q
    exact s_X4_readLine_34 cx hY eq  (by omega) (by omega) w
  · have w := w.2 q
    exact s_X4_readLine_28 cx hY eq  (by omega) (by omega) w
theorem s_X4_readLine_0 {E : EnvT} {d : Nat} (cx : CX E "ShoreDay$Parser" cX4_readLine 3 (some .boolean) "readLine" (d + 30) 0 0) (hY : eY E = lay1) {Q : Int32 → Hp → Prop} (eq : EQ E 0 0 (fun r h2 => ∃ x, r = [vI x] ∧ Q x h2)) {p1 : Option PtrT} {x2 : Option AVal} {h : Hp} {c n : Nat} (hc : c + 0 ≤ 0) (hn : n + 0 ≤ 0) (w : w_X4_readLine_0  Q p1 h) : SW E 0 ([some (vP (some (4, 0))), some (vP (p1)), x2], [], h, c, n) := by
  refine k_X4_readLine_0 cx hY (fun q => ?_) (fun q => ?_)
  · have w := w.1 q
    exact s_X4_readLine_34 cx hY eq  (by omega) (by omega) w
  · have w := w.2 q
    exact s_X4_readLine_16 cx hY eq  (by omega) (by omega) w
def wp_X4_readLine (p1 : Option PtrT) (h : Hp) (Q : Int32 → Hp → Prop) : Prop := w_X4_readLine_0 Q p1 h
theorem vc_X4_readLine {l : Launch} {d : Nat} {p1 : Option PtrT} {h : Hp} {Q : Int32 → Hp → Prop} (w : wp_X4_readLine p1 h Q) : Ct l lay1 yX4_readLine cX4_readLine 3 (some .boolean) (d + 30) 0 0 [vP (some (4, 0)), vP p1] h (fun r h2 => ∃ x, r = [vI x] ∧ Q x h2) := by
  exact Ct.of (by decide) (Nat.le_of_ble_eq_true rfl) fun E cx eq hl hY => s_X4_readLine_0 cx hY eq (Nat.le_refl _) (Nat.le_refl _) w
