def w_X7_init_10 (Q : Hp → Prop) (h : Hp) : Prop := Q (wP (h) 7 (0) 0 (some (32, 0)))
def w_X7_init_0 (Q : Hp → Prop) (h : Hp) : Prop := (gC (h) 32) = 0 ∧ (w_X7_init_10  Q (nw (h) 32))
theorem s_X7_init_10 {E : EnvT} {d : Nat} (cx : CX E "ShoreDay$Tape" cX7_init 1 none "<init>" (d + 1) 1 600) (hY : eY E = lay0) {Q : Hp → Prop} (eq : EQ E 1 600 (fun r h2 => r = [] ∧ Q h2)) {h : Hp} {c n : Nat} (hc : c + 0 ≤ 1) (hn : n + 0 ≤ 600) (w : w_X7_init_10  Q  h) : SW E 10 ([some (vP (some (7, 0)))], [vP (some (32, 0)), vP (some (7, 0))], h, c, n) := by
  exact k_X7_init_10 cx hY eq (by omega) (by omega) ⟨rfl, w⟩
theorem s_X7_init_0 {E : EnvT} {d : Nat} (cx : CX E "ShoreDay$Tape" cX7_init 1 none "<init>" (d + 1) 1 600) (hY : eY E = lay0) {Q : Hp → Prop} (eq : EQ E 1 600 (fun r h2 => r = [] ∧ Q h2)) {h : Hp} {c n : Nat} (hc : c + 1 ≤ 1) (hn : n + 600 ≤ 600) (w : w_X7_init_0  Q  h) : SW E 0 ([some (vP (some (7, 0)))], [], h, c, n) := by
  refine k_X7_init_0 cx hY (by omega) (by omega) ?_
  obtain ⟨ez, w⟩ := w
  try rw [ez]
  exact s_X7_init_10 cx hY eq  (by omega) (by omega) w
def wp_X7_init (h : Hp) (Q : Hp → Prop) : Prop := w_X7_init_0 Q  h
theorem vc_X7_init {l : Launch} {d : Nat} {h : Hp} {Q : Hp → Prop} (w : wp_X7_init h Q) : Ct l lay0 yX7_init cX7_init 1 none (d + 1) 1 600 [vP (some (7, 0))] h (fun r h2 => r = [] ∧ Q h2) := by
  exact Ct.of (by decide) (Nat.le_of_ble_eq_true rfl) fun E cx eq hl hY => s_X7_init_0 cx hY eq (Nat.le_refl _) (Nat.le_refl _) w
def w_X9_init_28 (Q : Hp → Prop) (h : Hp) : Prop := Q (wP (h) 9 (0) 2 (some (35, 0)))
def w_X9_init_19 (Q : Hp → Prop) (h : Hp) : Prop := (gC (wP (h) 9 (0) 1 (some (34, 0))) 35) = 0 ∧ (w_X9_init_28  Q (nw (wP (h) 9 (0) 1 (some (34, 0))) 35))
def w_X9_init_10 (Q : Hp → Prop) (h : Hp) : Prop := (gC (wP (h) 9 (0) 0 (some (33, 0))) 34) = 0 ∧ (w_X9_init_19  Q (nw (wP (h) 9 (0) 0 (some (33, 0))) 34))
def w_X9_init_0 (Q : Hp → Prop) (h : Hp) : Prop := (gC (h) 33) = 0 ∧ (w_X9_init_10  Q (nw (h) 33))
theorem s_X9_init_28 {E : EnvT} {d : Nat} (cx : CX E "ShoreDay$Tokens" cX9_init 1 none "<init>" (d + 1) 3 1803) (hY : eY E = lay0) {Q : Hp → Prop} (eq : EQ E 3 1803 (fun r h2 => r = [] ∧ Q h2)) {h : Hp} {c n : Nat} (hc : c + 0 ≤ 3) (hn : n + 0 ≤ 1803) (w : w_X9_init_28  Q  h) : SW E 28 ([some (vP (some (9, 0)))], [vP (some (35, 0)), vP (some (9, 0))], h, c, n) := by
  exact k_X9_init_28 cx hY eq (by omega) (by omega) ⟨rfl, w⟩
theorem s_X9_init_19 {E : EnvT} {d : Nat} (cx : CX E "ShoreDay$Tokens" cX9_init 1 none "<init>" (d + 1) 3 1803) (hY : eY E = lay0) {Q : Hp → Prop} (eq : EQ E 3 1803 (fun r h2 => r = [] ∧ Q h2)) {h : Hp} {c n : Nat} (hc : c + 1 ≤ 3) (hn : n + 601 ≤ 1803) (w : w_X9_init_19  Q  h) : SW E 19 ([some (vP (some (9, 0)))], [vP (some (34, 0)), vP (some (9, 0))], h, c, n) := by
  refine k_X9_init_19 cx hY (by omega) (by omega) ?_
  obtain ⟨ez, w⟩ := w
  try rw [ez]
  exact s_X9_init_28 cx hY eq  (by omega) (by omega) w
theorem s_X9_init_10 {E : EnvT} {d : Nat} (cx : CX E "ShoreDay$Tokens" cX9_init 1 none "<init>" (d + 1) 3 1803) (hY : eY E = lay0) {Q : Hp → Prop} (eq : EQ E 3 1803 (fun r h2 => r = [] ∧ Q h2)) {h : Hp} {c n : Nat} (hc : c + 2 ≤ 3) (hn : n + 1202 ≤ 1803) (w : w_X9_init_10  Q  h) : SW E 10 ([some (vP (some (9, 0)))], [vP (some (33, 0)), vP (some (9, 0))], h, c, n) := by
  refine k_X9_init_10 cx hY (by omega) (by omega) ?_
  obtain ⟨ez, w⟩ := w
  try rw [ez]
  exact s_X9_init_19 cx hY eq  (by omega) (by omega) w
theorem s_X9_init_0 {E : EnvT} {d : Nat} (cx : CX E "ShoreDay$Tokens" cX9_init 1 none "<init>" (d + 1) 3 1803) (hY : eY E = lay0) {Q : Hp → Prop} (eq : EQ E 3 1803 (fun r h2 => r = [] ∧ Q h2)) {h : Hp} {c n : Nat} (hc : c + 3 ≤ 3) (hn : n + 1803 ≤ 1803) (w : w_X9_init_0  Q  h) : SW E 0 ([some (vP (some (9, 0)))], [], h, c, n) := by
  refine k_X9_init_0 cx hY (by omega) (by omega) ?_
  obtain ⟨ez, w⟩ := w
  try rw [ez]
  exact s_X9_init_10 cx hY eq  (by omega) (by omega) w
def wp_X9_init (h : Hp) (Q : Hp → Prop) : Prop := w_X9_init_0 Q  h
theorem vc_X9_init {l : Launch} {d : Nat} {h : Hp} {Q : Hp → Prop} (w : wp_X9_init h Q) : Ct l lay0 yX9_init cX9_init 1 none (d + 1) 3 1803 [vP (some (9, 0))] h (fun r h2 => r = [] ∧ Q h2) := by
  exact Ct.of (by decide) (Nat.le_of_ble_eq_true rfl) fun E cx eq hl hY => s_X9_init_0 cx hY eq (Nat.le_refl _) (Nat.le_refl _) w
def w_X4_init_0 (Q : Hp → Prop) (h : Hp) : Prop := Q (wP (h) 4 (0) 0 (some (9, 0)))
theorem s_X4_init_0 {E : EnvT} {d : Nat} (cx : CX E "ShoreDay$Parser" cX4_init 2 none "<init>" (d + 1) 0 0) (hY : eY E = lay0) {Q : Hp → Prop} (eq : EQ E 0 0 (fun r h2 => r = [] ∧ Q h2)) {h : Hp} {c n : Nat} (hc : c + 0 ≤ 0) (hn : n + 0 ≤ 0) (w : w_X4_init_0  Q  h) : SW E 0 ([some (vP (some (4, 0))), some (vP (some (9, 0)))], [], h, c, n) := by
  exact k_X4_init_0 cx hY eq (by omega) (by omega) ⟨rfl, w⟩
def wp_X4_init (h : Hp) (Q : Hp → Prop) : Prop := w_X4_init_0 Q  h
theorem vc_X4_init {l : Launch} {d : Nat} {h : Hp} {Q : Hp → Prop} (w : wp_X4_init h Q) : Ct l lay0 yX4_init cX4_init 2 none (d + 1) 0 0 [vP (some (4, 0)), vP (some (9, 0))] h (fun r h2 => r = [] ∧ Q h2) := by
  exact Ct.of (by decide) (Nat.le_of_ble_eq_true rfl) fun E cx eq hl hY => s_X4_init_0 cx hY eq (Nat.le_refl _) (Nat.le_refl _) w
def w_X1_init_34 (Q : Hp → Prop) (i0 : Nat) (j0 : Nat) (h : Hp) : Prop := Q (wP (h) 1 (j0) 5 (some (31, i0)))
def w_X1_init_26 (Q : Hp → Prop) (i0 : Nat) (j0 : Nat) (h : Hp) : Prop := (gC (wP (h) 1 (j0) 2 (some (30, i0))) 31) = (i0) ∧ (w_X1_init_34  Q (i0) (i0) (nw (wP (h) 1 (j0) 2 (some (30, i0))) 31))
def w_X1_init_18 (Q : Hp → Prop) (i0 : Nat) (j0 : Nat) (h : Hp) : Prop := (gC (wP (h) 1 (j0) 1 (some (29, i0))) 30) = (i0) ∧ (w_X1_init_26  Q (i0) (i0) (nw (wP (h) 1 (j0) 1 (some (29, i0))) 30))
def w_X1_init_10 (Q : Hp → Prop) (i0 : Nat) (j0 : Nat) (h : Hp) : Prop := (gC (wP (h) 1 (j0) 0 (some (28, i0))) 29) = (i0) ∧ (w_X1_init_18  Q (i0) (i0) (nw (wP (h) 1 (j0) 0 (some (28, i0))) 29))
def w_X1_init_0 (Q : Hp → Prop) (i0 : Nat) (h : Hp) : Prop := (gC (h) 28) = (i0) ∧ (w_X1_init_10  Q (i0) (i0) (nw (h) 28))
theorem s_X1_init_34 {E : EnvT} {d : Nat} (cx : CX E "ShoreDay$FeeText" cX1_init 1 none "<init>" (d + 1) 4 648) (hY : eY E = lay0) {Q : Hp → Prop} (eq : EQ E 4 648 (fun r h2 => r = [] ∧ Q h2)) {i0 : Nat} {j0 : Nat} {h : Hp} {c n : Nat} (hc : c + 0 ≤ 4) (hn : n + 0 ≤ 648) (w : w_X1_init_34  Q i0 j0 h) : SW E 34 ([some (vP (some (1, i0)))], [vP (some (31, i0)), vP (some (1, j0))], h, c, n) := by
  exact k_X1_init_34 cx hY eq (by omega) (by omega) ⟨rfl, w⟩
theorem s_X1_init_26 {E : EnvT} {d : Nat} (cx : CX E "ShoreDay$FeeText" cX1_init 1 none "<init>" (d + 1) 4 648) (hY : eY E = lay0) {Q : Hp → Prop} (eq : EQ E 4 648 (fun r h2 => r = [] ∧ Q h2)) {i0 : Nat} {j0 : Nat} {h : Hp} {c n : Nat} (hc : c + 1 ≤ 4) (hn : n + 16 ≤ 648) (w : w_X1_init_26  Q i0 j0 h) : SW E 26 ([some (vP (some (1, i0)))], [vP (some (30, i0)), vP (some (1, j0))], h, c, n) := by
  refine k_X1_init_26 cx hY (by omega) (by omega) ?_
  obtain ⟨ez, w⟩ := w
  try rw [ez]
  exact s_X1_init_34 cx hY eq  (by omega) (by omega) w
theorem s_X1_init_18 {E : EnvT} {d : Nat} (cx : CX E "ShoreDay$FeeText" cX1_init 1 none "<init>" (d + 1) 4 648) (hY : eY E = lay0) {Q : Hp → Prop} (eq : EQ E 4 648 (fun r h2 => r = [] ∧ Q h2)) {i0 : Nat} {j0 : Nat} {h : Hp} {c n : Nat} (hc : c + 2 ≤ 4) (hn : n + 32 ≤ 648) (w : w_X1_init_18  Q i0 j0 h) : SW E 18 ([some (vP (some (1, i0)))], [vP (some (29, i0)), vP (some (1, j0))], h, c, n) := by
  refine k_X1_init_18 cx hY (by omega) (by omega) ?_
  obtain ⟨ez, w⟩ := w
  try rw [ez]
  exact s_X1_init_26 cx hY eq  (by omega) (by omega) w
theorem s_X1_init_10 {E : EnvT} {d : Nat} (cx : CX E "ShoreDay$FeeText" cX1_init 1 none "<init>" (d + 1) 4 648) (hY : eY E = lay0) {Q : Hp → Prop} (eq : EQ E 4 648 (fun r h2 => r = [] ∧ Q h2)) {i0 : Nat} {j0 : Nat} {h : Hp} {c n : Nat} (hc : c + 3 ≤ 4) (hn : n + 48 ≤ 648) (w : w_X1_init_10  Q i0 j0 h) : SW E 10 ([some (vP (some (1, i0)))], [vP (some (28, i0)), vP (some (1, j0))], h, c, n) := by
  refine k_X1_init_10 cx hY (by omega) (by omega) ?_
  obtain ⟨ez, w⟩ := w
  try rw [ez]
  exact s_X1_init_18 cx hY eq  (by omega) (by omega) w
theorem s_X1_init_0 {E : EnvT} {d : Nat} (cx : CX E "ShoreDay$FeeText" cX1_init 1 none "<init>" (d + 1) 4 648) (hY : eY E = lay0) {Q : Hp → Prop} (eq : EQ E 4 648 (fun r h2 => r = [] ∧ Q h2)) {i0 : Nat} {h : Hp} {c n : Nat} (hc : c + 4 ≤ 4) (hn : n + 648 ≤ 648) (w : w_X1_init_0  Q i0 h) : SW E 0 ([some (vP (some (1, i0)))], [], h, c, n) := by
  refine k_X1_init_0 cx hY (by omega) (by omega) ?_
  obtain ⟨ez, w⟩ := w
  try rw [ez]
  exact s_X1_init_10 cx hY eq  (by omega) (by omega) w
def wp_X1_init (i0 : Nat) (h : Hp) (Q : Hp → Prop) : Prop := w_X1_init_0 Q i0 h
theorem vc_X1_init {l : Launch} {d : Nat} {i0 : Nat} {h : Hp} {Q : Hp → Prop} (w : wp_X1_init i0 h Q) : Ct l lay0 yX1_init cX1_init 1 none (d + 1) 4 648 [vP (some (1, i0))] h (fun r h2 => r = [] ∧ Q h2) := by
  exact Ct.of (by decide) (Nat.le_of_ble_eq_true rfl) fun E cx eq hl hY => s_X1_init_0 cx hY eq (Nat.le_refl _) (Nat.le_refl _) w
def w_X0_init_60 (Q : Hp → Prop) (q1 : Option PtrT) (h : Hp) : Prop := Q (wP (h) 0 (0) 4 (q1))
def w_X0_init_56 (Q : Hp → Prop) (j1 : Nat) (h : Hp) : Prop := wp_X1_init (j1) (h) (fun h2 => w_X0_init_60  Q (some (1, j1)) (h2))
def w_X0_init_49 (Q : Hp → Prop) (q1 : Option PtrT) (h : Hp) : Prop := w_X0_init_56  Q (gC (wP (h) 0 (0) 3 (q1)) 1) (nw (wP (h) 0 (0) 3 (q1)) 1)
def w_X0_init_45 (Q : Hp → Prop) (j1 : Nat) (h : Hp) : Prop := wp_X1_init (j1) (h) (fun h2 => w_X0_init_49  Q (some (1, j1)) (h2))
def w_X0_init_38 (Q : Hp → Prop) (h : Hp) : Prop := w_X0_init_45  Q (gC (wP (h) 0 (0) 2 (some (4, 0))) 1) (nw (wP (h) 0 (0) 2 (some (4, 0))) 1)
def w_X0_init_35 (Q : Hp → Prop) (h : Hp) : Prop := wp_X4_init  (h) (fun h2 => w_X0_init_38  Q (h2))
def w_X0_init_30 (Q : Hp → Prop) (h : Hp) : Prop := gP (h) 0 (0) 1 = some (9, 0) ∧ (w_X0_init_35  Q (h))
def w_X0_init_23 (Q : Hp → Prop) (h : Hp) : Prop := (gC (wP (h) 0 (0) 1 (some (9, 0))) 4) = 0 ∧ (w_X0_init_30  Q (nw (wP (h) 0 (0) 1 (some (9, 0))) 4))
def w_X0_init_19 (Q : Hp → Prop) (h : Hp) : Prop := wp_X9_init  (h) (fun h2 => w_X0_init_23  Q (h2))
def w_X0_init_12 (Q : Hp → Prop) (h : Hp) : Prop := (gC (wP (h) 0 (0) 0 (some (7, 0))) 9) = 0 ∧ (w_X0_init_19  Q (nw (wP (h) 0 (0) 0 (some (7, 0))) 9))
def w_X0_init_8 (Q : Hp → Prop) (h : Hp) : Prop := wp_X7_init  (h) (fun h2 => w_X0_init_12  Q (h2))
def w_X0_init_0 (Q : Hp → Prop) (h : Hp) : Prop := (gC (h) 7) = 0 ∧ (w_X0_init_8  Q (nw (h) 7))
theorem s_X0_init_60 {E : EnvT} {d : Nat} (cx : CX E "ShoreDay$FeeDesk" cX0_init 1 none "<init>" (d + 2) 17 3726) (hY : eY E = lay0) {Q : Hp → Prop} (eq : EQ E 17 3726 (fun r h2 => r = [] ∧ Q h2)) {q1 : Option PtrT} {h : Hp} {c n : Nat} (hc : c + 0 ≤ 17) (hn : n + 0 ≤ 3726) (w : w_X0_init_60  Q q1 h) : SW E 60 ([some (vP (some (0, 0)))], [vP (q1), vP (some (0, 0))], h, c, n) := by
  exact k_X0_init_60 cx hY eq (by omega) (by omega) ⟨rfl, w⟩
theorem s_X0_init_56 {E : EnvT} {d : Nat} (cx : CX E "ShoreDay$FeeDesk" cX0_init 1 none "<init>" (d + 2) 17 3726) (hY : eY E = lay0) {Q : Hp → Prop} (eq : EQ E 17 3726 (fun r h2 => r = [] ∧ Q h2)) {j1 : Nat} {h : Hp} {c n : Nat} (hc : c + 4 ≤ 17) (hn : n + 648 ≤ 3726) (w : w_X0_init_56  Q j1 h) : SW E 56 ([some (vP (some (0, 0)))], [vP (some (1, j1)), vP (some (0, 0))], h, c, n) := by
  refine k_X0_init_56 cx hY (ctY0 hY (vc_X1_init (d := d + 0) w)) (by omega) (by omega) (by omega) (fun r h2 hp => ?_)
  obtain ⟨rfl, w⟩ := hp
  exact s_X0_init_60 cx hY eq  (by omega) (by omega) w
theorem s_X0_init_49 {E : EnvT} {d : Nat} (cx : CX E "ShoreDay$FeeDesk" cX0_init 1 none "<init>" (d + 2) 17 3726) (hY : eY E = lay0) {Q : Hp → Prop} (eq : EQ E 17 3726 (fun r h2 => r = [] ∧ Q h2)) {q1 : Option PtrT} {h : Hp} {c n : Nat} (hc : c + 5 ≤ 17) (hn : n + 655 ≤ 3726) (w : w_X0_init_49  Q q1 h) : SW E 49 ([some (vP (some (0, 0)))], [vP (q1), vP (some (0, 0))], h, c, n) := by
  refine k_X0_init_49 cx hY (by omega) (by omega) ?_
  exact s_X0_init_56 cx hY eq  (by omega) (by omega) w
theorem s_X0_init_45 {E : EnvT} {d : Nat} (cx : CX E "ShoreDay$FeeDesk" cX0_init 1 none "<init>" (d + 2) 17 3726) (hY : eY E = lay0) {Q : Hp → Prop} (eq : EQ E 17 3726 (fun r h2 => r = [] ∧ Q h2)) {j1 : Nat} {h : Hp} {c n : Nat} (hc : c + 9 ≤ 17) (hn : n + 1303 ≤ 3726) (w : w_X0_init_45  Q j1 h) : SW E 45 ([some (vP (some (0, 0)))], [vP (some (1, j1)), vP (some (0, 0))], h, c, n) := by
  refine k_X0_init_45 cx hY (ctY0 hY (vc_X1_init (d := d + 0) w)) (by omega) (by omega) (by omega) (fun r h2 hp => ?_)
  obtain ⟨rfl, w⟩ := hp
  exact s_X0_init_49 cx hY eq  (by omega) (by omega) w
theorem s_X0_init_38 {E : EnvT} {d : Nat} (cx : CX E "ShoreDay$FeeDesk" cX0_init 1 none "<init>" (d + 2) 17 3726) (hY : eY E = lay0) {Q : Hp → Prop} (eq : EQ E 17 3726 (fun r h2 => r = [] ∧ Q h2)) {h : Hp} {c n : Nat} (hc : c + 10 ≤ 17) (hn : n + 1310 ≤ 3726) (w : w_X0_init_38  Q  h) : SW E 38 ([some (vP (some (0, 0)))], [vP (some (4, 0)), vP (some (0, 0))], h, c, n) := by
  refine k_X0_init_38 cx hY (by omega) (by omega) ?_
  exact s_X0_init_45 cx hY eq  (by omega) (by omega) w
theorem s_X0_init_35 {E : EnvT} {d : Nat} (cx : CX E "ShoreDay$FeeDesk" cX0_init 1 none "<init>" (d + 2) 17 3726) (hY : eY E = lay0) {Q : Hp → Prop} (eq : EQ E 17 3726 (fun r h2 => r = [] ∧ Q h2)) {h : Hp} {c n : Nat} (hc : c + 10 ≤ 17) (hn : n + 1310 ≤ 3726) (w : w_X0_init_35  Q  h) : SW E 35 ([some (vP (some (0, 0)))], [vP (some (9, 0)), vP (some (4, 0)), vP (some (4, 0)), vP (some (0, 0))], h, c, n) := by
  refine k_X0_init_35 cx hY (ctY0 hY (vc_X4_init (d := d + 0) w)) (by omega) (by omega) (by omega) (fun r h2 hp => ?_)
  obtain ⟨rfl, w⟩ := hp
  exact s_X0_init_38 cx hY eq  (by omega) (by omega) w
theorem s_X0_init_30 {E : EnvT} {d : Nat} (cx : CX E "ShoreDay$FeeDesk" cX0_init 1 none "<init>" (d + 2) 17 3726) (hY : eY E = lay0) {Q : Hp → Prop} (eq : EQ E 17 3726 (fun r h2 => r = [] ∧ Q h2)) {h : Hp} {c n : Nat} (hc : c + 10 ≤ 17) (hn : n + 1310 ≤ 3726) (w : w_X0_init_30  Q  h) : SW E 30 ([some (vP (some (0, 0)))], [vP (some (4, 0)), vP (some (0, 0))], h, c, n) := by
  refine k_X0_init_30 cx hY ?_
  obtain ⟨ez, w⟩ := w
  try rw [ez]
  exact s_X0_init_35 cx hY eq  (by omega) (by omega) w
theorem s_X0_init_23 {E : EnvT} {d : Nat} (cx : CX E "ShoreDay$FeeDesk" cX0_init 1 none "<init>" (d + 2) 17 3726) (hY : eY E = lay0) {Q : Hp → Prop} (eq : EQ E 17 3726 (fun r h2 => r = [] ∧ Q h2)) {h : Hp} {c n : Nat} (hc : c + 11 ≤ 17) (hn : n + 1313 ≤ 3726) (w : w_X0_init_23  Q  h) : SW E 23 ([some (vP (some (0, 0)))], [vP (some (9, 0)), vP (some (0, 0))], h, c, n) := by
  refine k_X0_init_23 cx hY (by omega) (by omega) ?_
  obtain ⟨ez, w⟩ := w
  try rw [ez]
  exact s_X0_init_30 cx hY eq  (by omega) (by omega) w
theorem s_X0_init_19 {E : EnvT} {d : Nat} (cx : CX E "ShoreDay$FeeDesk" cX0_init 1 none "<init>" (d + 2) 17 3726) (hY : eY E = lay0) {Q : Hp → Prop} (eq : EQ E 17 3726 (fun r h2 => r = [] ∧ Q h2)) {h : Hp} {c n : Nat} (hc : c + 14 ≤ 17) (hn : n + 3116 ≤ 3726) (w : w_X0_init_19  Q  h) : SW E 19 ([some (vP (some (0, 0)))], [vP (some (9, 0)), vP (some (0, 0))], h, c, n) := by
  refine k_X0_init_19 cx hY (ctY0 hY (vc_X9_init (d := d + 0) w)) (by omega) (by omega) (by omega) (fun r h2 hp => ?_)
  obtain ⟨rfl, w⟩ := hp
  exact s_X0_init_23 cx hY eq  (by omega) (by omega) w
theorem s_X0_init_12 {E : EnvT} {d : Nat} (cx : CX E "ShoreDay$FeeDesk" cX0_init 1 none "<init>" (d + 2) 17 3726) (hY : eY E = lay0) {Q : Hp → Prop} (eq : EQ E 17 3726 (fun r h2 => r = [] ∧ Q h2)) {h : Hp} {c n : Nat} (hc : c + 15 ≤ 17) (hn : n + 3124 ≤ 3726) (w : w_X0_init_12  Q  h) : SW E 12 ([some (vP (some (0, 0)))], [vP (some (7, 0)), vP (some (0, 0))], h, c, n) := by
  refine k_X0_init_12 cx hY (by omega) (by omega) ?_
  obtain ⟨ez, w⟩ := w
  try rw [ez]
  exact s_X0_init_19 cx hY eq  (by omega) (by omega) w
theorem s_X0_init_8 {E : EnvT} {d : Nat} (cx : CX E "ShoreDay$FeeDesk" cX0_init 1 none "<init>" (d + 2) 17 3726) (hY : eY E = lay0) {Q : Hp → Prop} (eq : EQ E 17 3726 (fun r h2 => r = [] ∧ Q h2)) {h : Hp} {c n : Nat} (hc : c + 16 ≤ 17) (hn : n + 3724 ≤ 3726) (w : w_X0_init_8  Q  h) : SW E 8 ([some (vP (some (0, 0)))], [vP (some (7, 0)), vP (some (0, 0))], h, c, n) := by
  refine k_X0_init_8 cx hY (ctY0 hY (vc_X7_init (d := d + 0) w)) (by omega) (by omega) (by omega) (fun r h2 hp => ?_)
  obtain ⟨rfl, w⟩ := hp
  exact s_X0_init_12 cx hY eq  (by omega) (by omega) w
theorem s_X0_init_0 {E : EnvT} {d : Nat} (cx : CX E "ShoreDay$FeeDesk" cX0_init 1 none "<init>" (d + 2) 17 3726) (hY : eY E = lay0) {Q : Hp → Prop} (eq : EQ E 17 3726 (fun r h2 => r = [] ∧ Q h2)) {h : Hp} {c n : Nat} (hc : c + 17 ≤ 17) (hn : n + 3726 ≤ 3726) (w : w_X0_init_0  Q  h) : SW E 0 ([some (vP (some (0, 0)))], [], h, c, n) := by
  refine k_X0_init_0 cx hY (by omega) (by omega) ?_
  obtain ⟨ez, w⟩ := w
  try rw [ez]
  exact s_X0_init_8 cx hY eq  (by omega) (by omega) w
def wp_X0_init (h : Hp) (Q : Hp → Prop) : Prop := w_X0_init_0 Q  h
theorem vc_X0_init {l : Launch} {d : Nat} {h : Hp} {Q : Hp → Prop} (w : wp_X0_init h Q) : Ct l lay0 yX0_init cX0_init 1 none (d + 2) 17 3726 [vP (some (0, 0))] h (fun r h2 => r = [] ∧ Q h2) := by
  exact Ct.of (by decide) (Nat.le_of_ble_eq_true rfl) fun E cx eq hl hY => s_X0_init_0 cx hY eq (Nat.le_refl _) (Nat.le_refl _) w
def w_X5_init_17 (Q : Hp → Prop) (h : Hp) : Prop := Q (wP (h) 5 (0) 1 (some (27, 0)))
def w_X5_init_9 (Q : Hp → Prop) (h : Hp) : Prop := (gC (wP (h) 5 (0) 0 (some (26, 0))) 27) = 0 ∧ (w_X5_init_17  Q (nw (wP (h) 5 (0) 0 (some (26, 0))) 27))
def w_X5_init_0 (Q : Hp → Prop) (h : Hp) : Prop := (gC (h) 26) = 0 ∧ (w_X5_init_9  Q (nw (h) 26))
theorem s_X5_init_17 {E : EnvT} {d : Nat} (cx : CX E "ShoreDay$Sea" cX5_init 1 none "<init>" (d + 1) 2 20) (hY : eY E = lay0) {Q : Hp → Prop} (eq : EQ E 2 20 (fun r h2 => r = [] ∧ Q h2)) {h : Hp} {c n : Nat} (hc : c + 0 ≤ 2) (hn : n + 0 ≤ 20) (w : w_X5_init_17  Q  h) : SW E 17 ([some (vP (some (5, 0)))], [vP (some (27, 0)), vP (some (5, 0))], h, c, n) := by
  exact k_X5_init_17 cx hY eq (by omega) (by omega) ⟨rfl, w⟩
theorem s_X5_init_9 {E : EnvT} {d : Nat} (cx : CX E "ShoreDay$Sea" cX5_init 1 none "<init>" (d + 1) 2 20) (hY : eY E = lay0) {Q : Hp → Prop} (eq : EQ E 2 20 (fun r h2 => r = [] ∧ Q h2)) {h : Hp} {c n : Nat} (hc : c + 1 ≤ 2) (hn : n + 10 ≤ 20) (w : w_X5_init_9  Q  h) : SW E 9 ([some (vP (some (5, 0)))], [vP (some (26, 0)), vP (some (5, 0))], h, c, n) := by
  refine k_X5_init_9 cx hY (by omega) (by omega) ?_
  obtain ⟨ez, w⟩ := w
  try rw [ez]
  exact s_X5_init_17 cx hY eq  (by omega) (by omega) w
theorem s_X5_init_0 {E : EnvT} {d : Nat} (cx : CX E "ShoreDay$Sea" cX5_init 1 none "<init>" (d + 1) 2 20) (hY : eY E = lay0) {Q : Hp → Prop} (eq : EQ E 2 20 (fun r h2 => r = [] ∧ Q h2)) {h : Hp} {c n : Nat} (hc : c + 2 ≤ 2) (hn : n + 20 ≤ 20) (w : w_X5_init_0  Q  h) : SW E 0 ([some (vP (some (5, 0)))], [], h, c, n) := by
  refine k_X5_init_0 cx hY (by omega) (by omega) ?_
  obtain ⟨ez, w⟩ := w
  try rw [ez]
  exact s_X5_init_9 cx hY eq  (by omega) (by omega) w
def wp_X5_init (h : Hp) (Q : Hp → Prop) : Prop := w_X5_init_0 Q  h
theorem vc_X5_init {l : Launch} {d : Nat} {h : Hp} {Q : Hp → Prop} (w : wp_X5_init h Q) : Ct l lay0 yX5_init cX5_init 1 none (d + 1) 2 20 [vP (some (5, 0))] h (fun r h2 => r = [] ∧ Q h2) := by
  exact Ct.of (by decide) (Nat.le_of_ble_eq_true rfl) fun E cx eq hl hY => s_X5_init_0 cx hY eq (Nat.le_refl _) (Nat.le_refl _) w
def w_X3_init_50 (Q : Hp → Prop) (a1 : Int32) (h : Hp) : Prop := Q (h)
def w_X3_init_41 (K31 : Int32 → Hp → Prop) (Q : Hp → Prop) (a1 : Int32) (h : Hp) : Prop := vp_in (a1) 8 ∧ (K31 (a1 + 1) (wI (h) 38 (0) (tN (a1)) ((-1 : Int32))))
def w_X3_init_37 (K31 : Int32 → Hp → Prop) (Q : Hp → Prop) (a1 : Int32) (h : Hp) : Prop := gP (h) 3 (0) 3 = some (38, 0) ∧ (w_X3_init_41 K31 Q (a1) (h))
def w_X3_init_31 (Q : Hp → Prop) : Nat → Int32 → Hp → Prop
  | 0 => fun _ _ => False
  | N + 1 => fun a1 h => (((8 : Int32)) ≤ (a1) → w_X3_init_50  Q (a1) (h)) ∧ (¬ ((8 : Int32)) ≤ (a1) → w_X3_init_37 (w_X3_init_31  Q N) Q (a1) (h))
def w_X3_init_26 (Q : Hp → Prop) (h : Hp) : Prop := ∃ N, w_X3_init_31  Q N ((0 : Int32)) (wP (h) 3 (0) 3 (some (38, 0)))
def w_X3_init_18 (Q : Hp → Prop) (h : Hp) : Prop := (gC (wP (h) 3 (0) 2 (some (37, 0))) 38) = 0 ∧ (w_X3_init_26  Q (nw (wP (h) 3 (0) 2 (some (37, 0))) 38))
def w_X3_init_9 (Q : Hp → Prop) (h : Hp) : Prop := (gC (wP (h) 3 (0) 0 (some (36, 0))) 37) = 0 ∧ (w_X3_init_18  Q (nw (wP (h) 3 (0) 0 (some (36, 0))) 37))
def w_X3_init_0 (Q : Hp → Prop) (h : Hp) : Prop := (gC (h) 36) = 0 ∧ (w_X3_init_9  Q (nw (h) 36))
theorem s_X3_init_50 {E : EnvT} {d : Nat} (cx : CX E "ShoreDay$Guides" cX3_init 2 none "<init>" (d + 1) 3 590) (hY : eY E = lay0) {Q : Hp → Prop} (eq : EQ E 3 590 (fun r h2 => r = [] ∧ Q h2)) {a1 : Int32} {h : Hp} {c n : Nat} (hc : c + 0 ≤ 3) (hn : n + 0 ≤ 590) (w : w_X3_init_50  Q a1 h) : SW E 50 ([some (vP (some (3, 0))), some (vI (a1))], [], h, c, n) := by
  exact k_X3_init_50 cx hY eq (by omega) (by omega) ⟨rfl, w⟩
theorem s_X3_init_41 {E : EnvT} {d : Nat} (cx : CX E "ShoreDay$Guides" cX3_init 2 none "<init>" (d + 1) 3 590) (hY : eY E = lay0) {Q : Hp → Prop} (eq : EQ E 3 590 (fun r h2 => r = [] ∧ Q h2)) {K31 : Int32 → Hp → Prop} (hK31 : ∀ (a1 : Int32) (h : Hp) (c n : Nat), c + 0 ≤ 3 → n + 0 ≤ 590 → K31 a1 h → SW E 31 ([some (vP (some (3, 0))), some (vI (a1))], [], h, c, n)) {a1 : Int32} {h : Hp} {c n : Nat} (hc : c + 0 ≤ 3) (hn : n + 0 ≤ 590) (w : w_X3_init_41 K31 Q a1 h) : SW E 41 ([some (vP (some (3, 0))), some (vI (a1))], [vP (some (38, 0))], h, c, n) := by
  obtain ⟨G1, w⟩ := w
  refine k_X3_init_41 cx hY G1 ?_
  exact hK31 _ _ _ _ (by omega) (by omega) w
theorem s_X3_init_37 {E : EnvT} {d : Nat} (cx : CX E "ShoreDay$Guides" cX3_init 2 none "<init>" (d + 1) 3 590) (hY : eY E = lay0) {Q : Hp → Prop} (eq : EQ E 3 590 (fun r h2 => r = [] ∧ Q h2)) {K31 : Int32 → Hp → Prop} (hK31 : ∀ (a1 : Int32) (h : Hp) (c n : Nat), c + 0 ≤ 3 → n + 0 ≤ 590 → K31 a1 h → SW E 31 ([some (vP (some (3, 0))), some (vI (a1))], [], h, c, n)) {a1 : Int32} {h : Hp} {c n : Nat} (hc : c + 0 ≤ 3) (hn : n + 0 ≤ 590) (w : w_X3_init_37 K31 Q a1 h) : SW E 37 ([some (vP (some (3, 0))), some (vI (a1))], [], h, c, n) := by
  refine k_X3_init_37 cx hY ?_
  obtain ⟨ez, w⟩ := w
  try rw [ez]
  exact s_X3_init_41 cx hY eq hK31 (by omega) (by omega) w
theorem s_X3_init_31 {E : EnvT} {d : Nat} (cx : CX E "ShoreDay$Guides" cX3_init 2 none "<init>" (d + 1) 3 590) (hY : eY E = lay0) {Q : Hp → Prop} (eq : EQ E 3 590 (fun r h2 => r = [] ∧ Q h2)) : ∀ (N : Nat) (a1 : Int32) (h : Hp) (c n : Nat), c + 0 ≤ 3 → n + 0 ≤ 590 → w_X3_init_31  Q N a1 h → SW E 31 ([some (vP (some (3, 0))), some (vI (a1))], [], h, c, n) := by
  intro N
  induction N with
  | zero =>
    intro _ h c n _ _ w
    exact w.elim
  | succ N ih =>
    intro a1 h c n hc hn w
    refine k_X3_init_31 cx hY (fun q => ?_) (fun q => ?_)
    · have w := w.1 q
      exact s_X3_init_50 cx hY eq  (by omega) (by omega) w
    · have w := w.2 q
      exact s_X3_init_37 cx hY eq ih (by omega) (by omega) w
theorem s_X3_init_26 {E : EnvT} {d : Nat} (cx : CX E "ShoreDay$Guides" cX3_init 2 none "<init>" (d + 1) 3 590) (hY : eY E = lay0) {Q : Hp → Prop} (eq : EQ E 3 590 (fun r h2 => r = [] ∧ Q h2)) {x1 : Option AVal} {h : Hp} {c n : Nat} (hc : c + 0 ≤ 3) (hn : n + 0 ≤ 590) (w : w_X3_init_26  Q  h) : SW E 26 ([some (vP (some (3, 0))), x1], [vP (some (38, 0)), vP (some (3, 0))], h, c, n) := by
  refine k_X3_init_26 cx hY ?_
  obtain ⟨N1, w⟩ := w
  exact s_X3_init_31 cx hY eq  _ _ _ _ _ (by omega) (by omega) w
theorem s_X3_init_18 {E : EnvT} {d : Nat} (cx : CX E "ShoreDay$Guides" cX3_init 2 none "<init>" (d + 1) 3 590) (hY : eY E = lay0) {Q : Hp → Prop} (eq : EQ E 3 590 (fun r h2 => r = [] ∧ Q h2)) {x1 : Option AVal} {h : Hp} {c n : Nat} (hc : c + 1 ≤ 3) (hn : n + 8 ≤ 590) (w : w_X3_init_18  Q  h) : SW E 18 ([some (vP (some (3, 0))), x1], [vP (some (37, 0)), vP (some (3, 0))], h, c, n) := by
  refine k_X3_init_18 cx hY (by omega) (by omega) ?_
  obtain ⟨ez, w⟩ := w
  try rw [ez]
  exact s_X3_init_26 cx hY eq  (by omega) (by omega) w
theorem s_X3_init_9 {E : EnvT} {d : Nat} (cx : CX E "ShoreDay$Guides" cX3_init 2 none "<init>" (d + 1) 3 590) (hY : eY E = lay0) {Q : Hp → Prop} (eq : EQ E 3 590 (fun r h2 => r = [] ∧ Q h2)) {x1 : Option AVal} {h : Hp} {c n : Nat} (hc : c + 2 ≤ 3) (hn : n + 584 ≤ 590) (w : w_X3_init_9  Q  h) : SW E 9 ([some (vP (some (3, 0))), x1], [vP (some (36, 0)), vP (some (3, 0))], h, c, n) := by
  refine k_X3_init_9 cx hY (by omega) (by omega) ?_
  obtain ⟨ez, w⟩ := w
  try rw [ez]
  exact s_X3_init_18 cx hY eq  (by omega) (by omega) w
theorem s_X3_init_0 {E : EnvT} {d : Nat} (cx : CX E "ShoreDay$Guides" cX3_init 2 none "<init>" (d + 1) 3 590) (hY : eY E = lay0) {Q : Hp → Prop} (eq : EQ E 3 590 (fun r h2 => r = [] ∧ Q h2)) {x1 : Option AVal} {h : Hp} {c n : Nat} (hc : c + 3 ≤ 3) (hn : n + 590 ≤ 590) (w : w_X3_init_0  Q  h) : SW E 0 ([some (vP (some (3, 0))), x1], [], h, c, n) := by
  refine k_X3_init_0 cx hY (by omega) (by omega) ?_
  obtain ⟨ez, w⟩ := w
  try rw [ez]
  exact s_X3_init_9 cx hY eq  (by omega) (by omega) w
def wp_X3_init (h : Hp) (Q : Hp → Prop) : Prop := w_X3_init_0 Q  h
theorem vc_X3_init {l : Launch} {d : Nat} {h : Hp} {Q : Hp → Prop} (w : wp_X3_init h Q) : Ct l lay0 yX3_init cX3_init 2 none (d + 1) 3 590 [vP (some (3, 0))] h (fun r h2 => r = [] ∧ Q h2) := by
  exact Ct.of (by decide) (Nat.le_of_ble_eq_true rfl) fun E cx eq hl hY => s_X3_init_0 cx hY eq (Nat.le_refl _) (Nat.le_refl _) w
def w_X11_init_87 (Q : Hp → Prop) (h : Hp) : Prop := Q (wI (wP (h) 11 (0) 13 (some (3, 0))) 11 (0) 15 ((10000 : Int32)))
def w_X11_init_83 (Q : Hp → Prop) (h : Hp) : Prop := wp_X3_init  (h) (fun h2 => w_X11_init_87  Q (h2))
def w_X11_init_76 (Q : Hp → Prop) (h : Hp) : Prop := (gC (wP (h) 11 (0) 12 (some (0, 0))) 3) = 0 ∧ (w_X11_init_83  Q (nw (wP (h) 11 (0) 12 (some (0, 0))) 3))
def w_X11_init_72 (Q : Hp → Prop) (h : Hp) : Prop := wp_X0_init  (h) (fun h2 => w_X11_init_76  Q (h2))
def w_X11_init_65 (Q : Hp → Prop) (h : Hp) : Prop := (gC (wP (h) 11 (0) 11 (some (5, 0))) 0) = 0 ∧ (w_X11_init_72  Q (nw (wP (h) 11 (0) 11 (some (5, 0))) 0))
def w_X11_init_61 (Q : Hp → Prop) (h : Hp) : Prop := wp_X5_init  (h) (fun h2 => w_X11_init_65  Q (h2))
def w_X11_init_54 (Q : Hp → Prop) (h : Hp) : Prop := (gC (wP (h) 11 (0) 9 (some (25, 0))) 5) = 0 ∧ (w_X11_init_61  Q (nw (wP (h) 11 (0) 9 (some (25, 0))) 5))
def w_X11_init_45 (Q : Hp → Prop) (h : Hp) : Prop := (gC (wP (h) 11 (0) 7 (some (24, 0))) 25) = 0 ∧ (w_X11_init_54  Q (nw (wP (h) 11 (0) 7 (some (24, 0))) 25))
def w_X11_init_36 (Q : Hp → Prop) (h : Hp) : Prop := (gC (wP (h) 11 (0) 6 (some (23, 0))) 24) = 0 ∧ (w_X11_init_45  Q (nw (wP (h) 11 (0) 6 (some (23, 0))) 24))
def w_X11_init_27 (Q : Hp → Prop) (h : Hp) : Prop := (gC (wP (h) 11 (0) 4 (some (22, 0))) 23) = 0 ∧ (w_X11_init_36  Q (nw (wP (h) 11 (0) 4 (some (22, 0))) 23))
def w_X11_init_18 (Q : Hp → Prop) (h : Hp) : Prop := (gC (wP (h) 11 (0) 2 (some (21, 0))) 22) = 0 ∧ (w_X11_init_27  Q (nw (wP (h) 11 (0) 2 (some (21, 0))) 22))
def w_X11_init_9 (Q : Hp → Prop) (h : Hp) : Prop := (gC (wP (h) 11 (0) 0 (some (20, 0))) 21) = 0 ∧ (w_X11_init_18  Q (nw (wP (h) 11 (0) 0 (some (20, 0))) 21))
def w_X11_init_0 (Q : Hp → Prop) (h : Hp) : Prop := (gC (h) 20) = 0 ∧ (w_X11_init_9  Q (nw (h) 20))
theorem s_X11_init_87 {E : EnvT} {d : Nat} (cx : CX E "ShoreDay" cX11_init 1 none "<init>" (d + 3) 31 4546) (hY : eY E = lay0) {Q : Hp → Prop} (eq : EQ E 31 4546 (fun r h2 => r = [] ∧ Q h2)) {h : Hp} {c n : Nat} (hc : c + 0 ≤ 31) (hn : n + 0 ≤ 4546) (w : w_X11_init_87  Q  h) : SW E 87 ([some (vP (some (11, 0)))], [vP (some (3, 0)), vP (some (11, 0))], h, c, n) := by
  exact k_X11_init_87 cx hY eq (by omega) (by omega) ⟨rfl, w⟩
theorem s_X11_init_83 {E : EnvT} {d : Nat} (cx : CX E "ShoreDay" cX11_init 1 none "<init>" (d + 3) 31 4546) (hY : eY E = lay0) {Q : Hp → Prop} (eq : EQ E 31 4546 (fun r h2 => r = [] ∧ Q h2)) {h : Hp} {c n : Nat} (hc : c + 3 ≤ 31) (hn : n + 590 ≤ 4546) (w : w_X11_init_83  Q  h) : SW E 83 ([some (vP (some (11, 0)))], [vP (some (3, 0)), vP (some (11, 0))], h, c, n) := by
  refine k_X11_init_83 cx hY (ctY0 hY (vc_X3_init (d := d + 1) w)) (by omega) (by omega) (by omega) (fun r h2 hp => ?_)
  obtain ⟨rfl, w⟩ := hp
  exact s_X11_init_87 cx hY eq  (by omega) (by omega) w
theorem s_X11_init_76 {E : EnvT} {d : Nat} (cx : CX E "ShoreDay" cX11_init 1 none "<init>" (d + 3) 31 4546) (hY : eY E = lay0) {Q : Hp → Prop} (eq : EQ E 31 4546 (fun r h2 => r = [] ∧ Q h2)) {h : Hp} {c n : Nat} (hc : c + 4 ≤ 31) (hn : n + 594 ≤ 4546) (w : w_X11_init_76  Q  h) : SW E 76 ([some (vP (some (11, 0)))], [vP (some (0, 0)), vP (some (11, 0))], h, c, n) := by
  refine k_X11_init_76 cx hY (by omega) (by omega) ?_
  obtain ⟨ez, w⟩ := w
  try rw [ez]
  exact s_X11_init_83 cx hY eq  (by omega) (by omega) w
theorem s_X11_init_72 {E : EnvT} {d : Nat} (cx : CX E "ShoreDay" cX11_init 1 none "<init>" (d + 3) 31 4546) (hY : eY E = lay0) {Q : Hp → Prop} (eq : EQ E 31 4546 (fun r h2 => r = [] ∧ Q h2)) {h : Hp} {c n : Nat} (hc : c + 21 ≤ 31) (hn : n + 4320 ≤ 4546) (w : w_X11_init_72  Q  h) : SW E 72 ([some (vP (some (11, 0)))], [vP (some (0, 0)), vP (some (11, 0))], h, c, n) := by
  refine k_X11_init_72 cx hY (ctY0 hY (vc_X0_init (d := d + 0) w)) (by omega) (by omega) (by omega) (fun r h2 hp => ?_)
  obtain ⟨rfl, w⟩ := hp
  exact s_X11_init_76 cx hY eq  (by omega) (by omega) w
theorem s_X11_init_65 {E : EnvT} {d : Nat} (cx : CX E "ShoreDay" cX11_init 1 none "<init>" (d + 3) 31 4546) (hY : eY E = lay0) {Q : Hp → Prop} (eq : EQ E 31 4546 (fun r h2 => r = [] ∧ Q h2)) {h : Hp} {c n : Nat} (hc : c + 22 ≤ 31) (hn : n + 4325 ≤ 4546) (w : w_X11_init_65  Q  h) : SW E 65 ([some (vP (some (11, 0)))], [vP (some (5, 0)), vP (some (11, 0))], h, c, n) := by
  refine k_X11_init_65 cx hY (by omega) (by omega) ?_
  obtain ⟨ez, w⟩ := w
  try rw [ez]
  exact s_X11_init_72 cx hY eq  (by omega) (by omega) w
theorem s_X11_init_61 {E : EnvT} {d : Nat} (cx : CX E "ShoreDay" cX11_init 1 none "<init>" (d + 3) 31 4546) (hY : eY E = lay0) {Q : Hp → Prop} (eq : EQ E 31 4546 (fun r h2 => r = [] ∧ Q h2)) {h : Hp} {c n : Nat} (hc : c + 24 ≤ 31) (hn : n + 4345 ≤ 4546) (w : w_X11_init_61  Q  h) : SW E 61 ([some (vP (some (11, 0)))], [vP (some (5, 0)), vP (some (11, 0))], h, c, n) := by
  refine k_X11_init_61 cx hY (ctY0 hY (vc_X5_init (d := d + 1) w)) (by omega) (by omega) (by omega) (fun r h2 hp => ?_)
  obtain ⟨rfl, w⟩ := hp
  exact s_X11_init_65 cx hY eq  (by omega) (by omega) w
theorem s_X11_init_54 {E : EnvT} {d : Nat} (cx : CX E "ShoreDay" cX11_init 1 none "<init>" (d + 3) 31 4546) (hY : eY E = lay0) {Q : Hp → Prop} (eq : EQ E 31 4546 (fun r h2 => r = [] ∧ Q h2)) {h : Hp} {c n : Nat} (hc : c + 25 ≤ 31) (hn : n + 4348 ≤ 4546) (w : w_X11_init_54  Q  h) : SW E 54 ([some (vP (some (11, 0)))], [vP (some (25, 0)), vP (some (11, 0))], h, c, n) := by
  refine k_X11_init_54 cx hY (by omega) (by omega) ?_
  obtain ⟨ez, w⟩ := w
  try rw [ez]
  exact s_X11_init_61 cx hY eq  (by omega) (by omega) w
theorem s_X11_init_45 {E : EnvT} {d : Nat} (cx : CX E "ShoreDay" cX11_init 1 none "<init>" (d + 3) 31 4546) (hY : eY E = lay0) {Q : Hp → Prop} (eq : EQ E 31 4546 (fun r h2 => r = [] ∧ Q h2)) {h : Hp} {c n : Nat} (hc : c + 26 ≤ 31) (hn : n + 4408 ≤ 4546) (w : w_X11_init_45  Q  h) : SW E 45 ([some (vP (some (11, 0)))], [vP (some (24, 0)), vP (some (11, 0))], h, c, n) := by
  refine k_X11_init_45 cx hY (by omega) (by omega) ?_
  obtain ⟨ez, w⟩ := w
  try rw [ez]
  exact s_X11_init_54 cx hY eq  (by omega) (by omega) w
theorem s_X11_init_36 {E : EnvT} {d : Nat} (cx : CX E "ShoreDay" cX11_init 1 none "<init>" (d + 3) 31 4546) (hY : eY E = lay0) {Q : Hp → Prop} (eq : EQ E 31 4546 (fun r h2 => r = [] ∧ Q h2)) {h : Hp} {c n : Nat} (hc : c + 27 ≤ 31) (hn : n + 4468 ≤ 4546) (w : w_X11_init_36  Q  h) : SW E 36 ([some (vP (some (11, 0)))], [vP (some (23, 0)), vP (some (11, 0))], h, c, n) := by
  refine k_X11_init_36 cx hY (by omega) (by omega) ?_
  obtain ⟨ez, w⟩ := w
  try rw [ez]
  exact s_X11_init_45 cx hY eq  (by omega) (by omega) w
theorem s_X11_init_27 {E : EnvT} {d : Nat} (cx : CX E "ShoreDay" cX11_init 1 none "<init>" (d + 3) 31 4546) (hY : eY E = lay0) {Q : Hp → Prop} (eq : EQ E 31 4546 (fun r h2 => r = [] ∧ Q h2)) {h : Hp} {c n : Nat} (hc : c + 28 ≤ 31) (hn : n + 4528 ≤ 4546) (w : w_X11_init_27  Q  h) : SW E 27 ([some (vP (some (11, 0)))], [vP (some (22, 0)), vP (some (11, 0))], h, c, n) := by
  refine k_X11_init_27 cx hY (by omega) (by omega) ?_
  obtain ⟨ez, w⟩ := w
  try rw [ez]
  exact s_X11_init_36 cx hY eq  (by omega) (by omega) w
theorem s_X11_init_18 {E : EnvT} {d : Nat} (cx : CX E "ShoreDay" cX11_init 1 none "<init>" (d + 3) 31 4546) (hY : eY E = lay0) {Q : Hp → Prop} (eq : EQ E 31 4546 (fun r h2 => r = [] ∧ Q h2)) {h : Hp} {c n : Nat} (hc : c + 29 ≤ 31) (hn : n + 4536 ≤ 4546) (w : w_X11_init_18  Q  h) : SW E 18 ([some (vP (some (11, 0)))], [vP (some (21, 0)), vP (some (11, 0))], h, c, n) := by
  refine k_X11_init_18 cx hY (by omega) (by omega) ?_
  obtain ⟨ez, w⟩ := w
  try rw [ez]
  exact s_X11_init_27 cx hY eq  (by omega) (by omega) w
theorem s_X11_init_9 {E : EnvT} {d : Nat} (cx : CX E "ShoreDay" cX11_init 1 none "<init>" (d + 3) 31 4546) (hY : eY E = lay0) {Q : Hp → Prop} (eq : EQ E 31 4546 (fun r h2 => r = [] ∧ Q h2)) {h : Hp} {c n : Nat} (hc : c + 30 ≤ 31) (hn : n + 4542 ≤ 4546) (w : w_X11_init_9  Q  h) : SW E 9 ([some (vP (some (11, 0)))], [vP (some (20, 0)), vP (some (11, 0))], h, c, n) := by
  refine k_X11_init_9 cx hY (by omega) (by omega) ?_
  obtain ⟨ez, w⟩ := w
  try rw [ez]
  exact s_X11_init_18 cx hY eq  (by omega) (by omega) w
theorem s_X11_init_0 {E : EnvT} {d : Nat} (cx : CX E "ShoreDay" cX11_init 1 none "<init>" (d + 3) 31 4546) (hY : eY E = lay0) {Q : Hp → Prop} (eq : EQ E 31 4546 (fun r h2 => r = [] ∧ Q h2)) {h : Hp} {c n : Nat} (hc : c + 31 ≤ 31) (hn : n + 4546 ≤ 4546) (w : w_X11_init_0  Q  h) : SW E 0 ([some (vP (some (11, 0)))], [], h, c, n) := by
  refine k_X11_init_0 cx hY (by omega) (by omega) ?_
  obtain ⟨ez, w⟩ := w
  try rw [ez]
  exact s_X11_init_9 cx hY eq  (by omega) (by omega) w
def wp_X11_init (h : Hp) (Q : Hp → Prop) : Prop := w_X11_init_0 Q  h
theorem vc_X11_init {l : Launch} {d : Nat} {h : Hp} {Q : Hp → Prop} (w : wp_X11_init h Q) : Ct l lay0 yX11_init cX11_init 1 none (d + 3) 31 4546 [vP (some (11, 0))] h (fun r h2 => r = [] ∧ Q h2) := by
  exact Ct.of (by decide) (Nat.le_of_ble_eq_true rfl) fun E cx eq hl hY => s_X11_init_0 cx hY eq (Nat.le_refl _) (Nat.le_refl _) w
def w_X12_init_430 (Q : Hp → Prop) (h : Hp) : Prop := Q (wI (wP (h) 12 (0) 65 (some (165, 0))) 12 (0) 25 ((10000 : Int32)))
def w_X12_init_421 (Q : Hp → Prop) (h : Hp) : Prop := (gC (wP (h) 12 (0) 64 (some (164, 0))) 165) = 0 ∧ (w_X12_init_430  Q (nw (wP (h) 12 (0) 64 (some (164, 0))) 165))
def w_X12_init_413 (Q : Hp → Prop) (h : Hp) : Prop := (gC (wP (h) 12 (0) 62 (some (162, 0))) 164) = 0 ∧ (w_X12_init_421  Q (nw (wP (h) 12 (0) 62 (some (162, 0))) 164))
def w_X12_init_405 (Q : Hp → Prop) (h : Hp) : Prop := (gC (wP (h) 12 (0) 60 (some (160, 0))) 162) = 0 ∧ (w_X12_init_413  Q (nw (wP (h) 12 (0) 60 (some (160, 0))) 162))
def w_X12_init_397 (Q : Hp → Prop) (h : Hp) : Prop := (gC (wP (h) 12 (0) 59 (some (159, 0))) 160) = 0 ∧ (w_X12_init_405  Q (nw (wP (h) 12 (0) 59 (some (159, 0))) 160))
def w_X12_init_389 (Q : Hp → Prop) (h : Hp) : Prop := (gC (wP (h) 12 (0) 58 (some (158, 0))) 159) = 0 ∧ (w_X12_init_397  Q (nw (wP (h) 12 (0) 58 (some (158, 0))) 159))
def w_X12_init_381 (Q : Hp → Prop) (h : Hp) : Prop := (gC (wP (h) 12 (0) 54 (some (154, 0))) 158) = 0 ∧ (w_X12_init_389  Q (nw (wP (h) 12 (0) 54 (some (154, 0))) 158))
def w_X12_init_373 (Q : Hp → Prop) (h : Hp) : Prop := (gC (wP (h) 12 (0) 53 (some (153, 0))) 154) = 0 ∧ (w_X12_init_381  Q (nw (wP (h) 12 (0) 53 (some (153, 0))) 154))
def w_X12_init_365 (Q : Hp → Prop) (h : Hp) : Prop := (gC (wP (h) 12 (0) 52 (some (152, 0))) 153) = 0 ∧ (w_X12_init_373  Q (nw (wP (h) 12 (0) 52 (some (152, 0))) 153))
def w_X12_init_357 (Q : Hp → Prop) (h : Hp) : Prop := (gC (wP (h) 12 (0) 51 (some (151, 0))) 152) = 0 ∧ (w_X12_init_365  Q (nw (wP (h) 12 (0) 51 (some (151, 0))) 152))
def w_X12_init_349 (Q : Hp → Prop) (h : Hp) : Prop := (gC (wP (h) 12 (0) 50 (some (150, 0))) 151) = 0 ∧ (w_X12_init_357  Q (nw (wP (h) 12 (0) 50 (some (150, 0))) 151))
def w_X12_init_341 (Q : Hp → Prop) (h : Hp) : Prop := (gC (wP (h) 12 (0) 49 (some (149, 0))) 150) = 0 ∧ (w_X12_init_349  Q (nw (wP (h) 12 (0) 49 (some (149, 0))) 150))
def w_X12_init_333 (Q : Hp → Prop) (h : Hp) : Prop := (gC (wP (h) 12 (0) 48 (some (148, 0))) 149) = 0 ∧ (w_X12_init_341  Q (nw (wP (h) 12 (0) 48 (some (148, 0))) 149))
def w_X12_init_325 (Q : Hp → Prop) (h : Hp) : Prop := (gC (wP (h) 12 (0) 47 (some (147, 0))) 148) = 0 ∧ (w_X12_init_333  Q (nw (wP (h) 12 (0) 47 (some (147, 0))) 148))
def w_X12_init_317 (Q : Hp → Prop) (h : Hp) : Prop := (gC (wP (h) 12 (0) 46 (some (146, 0))) 147) = 0 ∧ (w_X12_init_325  Q (nw (wP (h) 12 (0) 46 (some (146, 0))) 147))
def w_X12_init_309 (Q : Hp → Prop) (h : Hp) : Prop := (gC (wP (h) 12 (0) 45 (some (145, 0))) 146) = 0 ∧ (w_X12_init_317  Q (nw (wP (h) 12 (0) 45 (some (145, 0))) 146))
def w_X12_init_301 (Q : Hp → Prop) (h : Hp) : Prop := (gC (wP (h) 12 (0) 44 (some (144, 0))) 145) = 0 ∧ (w_X12_init_309  Q (nw (wP (h) 12 (0) 44 (some (144, 0))) 145))
def w_X12_init_293 (Q : Hp → Prop) (h : Hp) : Prop := (gC (wP (h) 12 (0) 43 (some (143, 0))) 144) = 0 ∧ (w_X12_init_301  Q (nw (wP (h) 12 (0) 43 (some (143, 0))) 144))
def w_X12_init_285 (Q : Hp → Prop) (h : Hp) : Prop := (gC (wP (h) 12 (0) 42 (some (142, 0))) 143) = 0 ∧ (w_X12_init_293  Q (nw (wP (h) 12 (0) 42 (some (142, 0))) 143))
def w_X12_init_277 (Q : Hp → Prop) (h : Hp) : Prop := (gC (wP (h) 12 (0) 40 (some (140, 0))) 142) = 0 ∧ (w_X12_init_285  Q (nw (wP (h) 12 (0) 40 (some (140, 0))) 142))
def w_X12_init_269 (Q : Hp → Prop) (h : Hp) : Prop := (gC (wP (h) 12 (0) 39 (some (139, 0))) 140) = 0 ∧ (w_X12_init_277  Q (nw (wP (h) 12 (0) 39 (some (139, 0))) 140))
def w_X12_init_261 (Q : Hp → Prop) (h : Hp) : Prop := (gC (wP (h) 12 (0) 38 (some (138, 0))) 139) = 0 ∧ (w_X12_init_269  Q (nw (wP (h) 12 (0) 38 (some (138, 0))) 139))
def w_X12_init_253 (Q : Hp → Prop) (h : Hp) : Prop := (gC (wP (h) 12 (0) 37 (some (137, 0))) 138) = 0 ∧ (w_X12_init_261  Q (nw (wP (h) 12 (0) 37 (some (137, 0))) 138))
def w_X12_init_245 (Q : Hp → Prop) (h : Hp) : Prop := (gC (wP (h) 12 (0) 36 (some (136, 0))) 137) = 0 ∧ (w_X12_init_253  Q (nw (wP (h) 12 (0) 36 (some (136, 0))) 137))
def w_X12_init_237 (Q : Hp → Prop) (h : Hp) : Prop := (gC (wP (h) 12 (0) 34 (some (134, 0))) 136) = 0 ∧ (w_X12_init_245  Q (nw (wP (h) 12 (0) 34 (some (134, 0))) 136))
def w_X12_init_229 (Q : Hp → Prop) (h : Hp) : Prop := (gC (wP (h) 12 (0) 33 (some (133, 0))) 134) = 0 ∧ (w_X12_init_237  Q (nw (wP (h) 12 (0) 33 (some (133, 0))) 134))
def w_X12_init_221 (Q : Hp → Prop) (h : Hp) : Prop := (gC (wP (h) 12 (0) 32 (some (132, 0))) 133) = 0 ∧ (w_X12_init_229  Q (nw (wP (h) 12 (0) 32 (some (132, 0))) 133))
def w_X12_init_213 (Q : Hp → Prop) (h : Hp) : Prop := (gC (wP (h) 12 (0) 31 (some (131, 0))) 132) = 0 ∧ (w_X12_init_221  Q (nw (wP (h) 12 (0) 31 (some (131, 0))) 132))
def w_X12_init_205 (Q : Hp → Prop) (h : Hp) : Prop := (gC (wP (h) 12 (0) 29 (some (129, 0))) 131) = 0 ∧ (w_X12_init_213  Q (nw (wP (h) 12 (0) 29 (some (129, 0))) 131))
def w_X12_init_198 (Q : Hp → Prop) (h : Hp) : Prop := (gC (wP (h) 12 (0) 28 (some (128, 0))) 129) = 0 ∧ (w_X12_init_205  Q (nw (wP (h) 12 (0) 28 (some (128, 0))) 129))
def w_X12_init_191 (Q : Hp → Prop) (h : Hp) : Prop := (gC (wP (h) 12 (0) 27 (some (127, 0))) 128) = 0 ∧ (w_X12_init_198  Q (nw (wP (h) 12 (0) 27 (some (127, 0))) 128))
def w_X12_init_184 (Q : Hp → Prop) (h : Hp) : Prop := (gC (wP (h) 12 (0) 23 (some (123, 0))) 127) = 0 ∧ (w_X12_init_191  Q (nw (wP (h) 12 (0) 23 (some (123, 0))) 127))
def w_X12_init_175 (Q : Hp → Prop) (h : Hp) : Prop := (gC (wP (h) 12 (0) 22 (some (122, 0))) 123) = 0 ∧ (w_X12_init_184  Q (nw (wP (h) 12 (0) 22 (some (122, 0))) 123))
def w_X12_init_167 (Q : Hp → Prop) (h : Hp) : Prop := (gC (wP (h) 12 (0) 21 (some (121, 0))) 122) = 0 ∧ (w_X12_init_175  Q (nw (wP (h) 12 (0) 21 (some (121, 0))) 122))
def w_X12_init_159 (Q : Hp → Prop) (h : Hp) : Prop := (gC (wP (h) 12 (0) 20 (some (120, 0))) 121) = 0 ∧ (w_X12_init_167  Q (nw (wP (h) 12 (0) 20 (some (120, 0))) 121))
def w_X12_init_151 (Q : Hp → Prop) (h : Hp) : Prop := (gC (wP (h) 12 (0) 19 (some (119, 0))) 120) = 0 ∧ (w_X12_init_159  Q (nw (wP (h) 12 (0) 19 (some (119, 0))) 120))
def w_X12_init_143 (Q : Hp → Prop) (h : Hp) : Prop := (gC (wP (h) 12 (0) 14 (some (114, 0))) 119) = 0 ∧ (w_X12_init_151  Q (nw (wP (h) 12 (0) 14 (some (114, 0))) 119))
def w_X12_init_134 (Q : Hp → Prop) (h : Hp) : Prop := (gC (wP (h) 12 (0) 13 (some (113, 0))) 114) = 0 ∧ (w_X12_init_143  Q (nw (wP (h) 12 (0) 13 (some (113, 0))) 114))
def w_X12_init_125 (Q : Hp → Prop) (h : Hp) : Prop := (gC (wP (h) 12 (0) 12 (some (112, 0))) 113) = 0 ∧ (w_X12_init_134  Q (nw (wP (h) 12 (0) 12 (some (112, 0))) 113))
def w_X12_init_117 (Q : Hp → Prop) (h : Hp) : Prop := (gC (wP (h) 12 (0) 11 (some (111, 0))) 112) = 0 ∧ (w_X12_init_125  Q (nw (wP (h) 12 (0) 11 (some (111, 0))) 112))
def w_X12_init_109 (Q : Hp → Prop) (h : Hp) : Prop := (gC (wP (h) 12 (0) 10 (some (110, 0))) 111) = 0 ∧ (w_X12_init_117  Q (nw (wP (h) 12 (0) 10 (some (110, 0))) 111))
def w_X12_init_102 (Q : Hp → Prop) (h : Hp) : Prop := (gC (wP (h) 12 (0) 9 (some (109, 0))) 110) = 0 ∧ (w_X12_init_109  Q (nw (wP (h) 12 (0) 9 (some (109, 0))) 110))
def w_X12_init_81 (Q : Hp → Prop) (h : Hp) : Prop := vp_in ((6 : Int32)) 9 ∧ (vp_in ((7 : Int32)) 9 ∧ (vp_in ((8 : Int32)) 9 ∧ (w_X12_init_102  Q (wL (wL (wL (h) 109 (0) (tN ((6 : Int32))) ((913652 : Int64))) 109 (0) (tN ((7 : Int32))) ((973708 : Int64))) 109 (0) (tN ((8 : Int32))) ((834716452 : Int64))))))
def w_X12_init_63 (Q : Hp → Prop) (h : Hp) : Prop := vp_in ((3 : Int32)) 9 ∧ (vp_in ((4 : Int32)) 9 ∧ (vp_in ((5 : Int32)) 9 ∧ (w_X12_init_81  Q (wL (wL (wL (h) 109 (0) (tN ((3 : Int32))) ((525045115 : Int64))) 109 (0) (tN ((4 : Int32))) ((1034390 : Int64))) 109 (0) (tN ((5 : Int32))) ((426554 : Int64))))))
def w_X12_init_45 (Q : Hp → Prop) (h : Hp) : Prop := vp_in ((0 : Int32)) 9 ∧ (vp_in ((1 : Int32)) 9 ∧ (vp_in ((2 : Int32)) 9 ∧ (w_X12_init_63  Q (wL (wL (wL (h) 109 (0) (tN ((0 : Int32))) ((8404 : Int64))) 109 (0) (tN ((1 : Int32))) ((1176170 : Int64))) 109 (0) (tN ((2 : Int32))) ((1891 : Int64))))))
def w_X12_init_37 (Q : Hp → Prop) (h : Hp) : Prop := (gC (wP (h) 12 (0) 6 (some (106, 0))) 109) = 0 ∧ (w_X12_init_45  Q (nw (wP (h) 12 (0) 6 (some (106, 0))) 109))
def w_X12_init_28 (Q : Hp → Prop) (h : Hp) : Prop := (gC (wP (h) 12 (0) 5 (some (105, 0))) 106) = 0 ∧ (w_X12_init_37  Q (nw (wP (h) 12 (0) 5 (some (105, 0))) 106))
def w_X12_init_19 (Q : Hp → Prop) (h : Hp) : Prop := (gC (wP (h) 12 (0) 4 (some (104, 0))) 105) = 0 ∧ (w_X12_init_28  Q (nw (wP (h) 12 (0) 4 (some (104, 0))) 105))
def w_X12_init_10 (Q : Hp → Prop) (h : Hp) : Prop := (gC (wP (h) 12 (0) 1 (some (101, 0))) 104) = 0 ∧ (w_X12_init_19  Q (nw (wP (h) 12 (0) 1 (some (101, 0))) 104))
def w_X12_init_0 (Q : Hp → Prop) (h : Hp) : Prop := (gC (h) 101) = 0 ∧ (w_X12_init_10  Q (nw (h) 101))
theorem s_X12_init_430 {E : EnvT} {d : Nat} (cx : CX E "ShoreDayModel" cX12_init 1 none "<init>" (d + 1) 46 7334) (hY : eY E = lay0) {Q : Hp → Prop} (eq : EQ E 46 7334 (fun r h2 => r = [] ∧ Q h2)) {h : Hp} {c n : Nat} (hc : c + 0 ≤ 46) (hn : n + 0 ≤ 7334) (w : w_X12_init_430  Q  h) : SW E 430 ([some (vP (some (12, 0)))], [vP (some (165, 0)), vP (some (12, 0))], h, c, n) := by
  exact k_X12_init_430 cx hY eq (by omega) (by omega) ⟨rfl, w⟩
theorem s_X12_init_421 {E : EnvT} {d : Nat} (cx : CX E "ShoreDayModel" cX12_init 1 none "<init>" (d + 1) 46 7334) (hY : eY E = lay0) {Q : Hp → Prop} (eq : EQ E 46 7334 (fun r h2 => r = [] ∧ Q h2)) {h : Hp} {c n : Nat} (hc : c + 1 ≤ 46) (hn : n + 576 ≤ 7334) (w : w_X12_init_421  Q  h) : SW E 421 ([some (vP (some (12, 0)))], [vP (some (164, 0)), vP (some (12, 0))], h, c, n) := by
  refine k_X12_init_421 cx hY (by omega) (by omega) ?_
  obtain ⟨ez, w⟩ := w
  try rw [ez]
  exact s_X12_init_430 cx hY eq  (by omega) (by omega) w
theorem s_X12_init_413 {E : EnvT} {d : Nat} (cx : CX E "ShoreDayModel" cX12_init 1 none "<init>" (d + 1) 46 7334) (hY : eY E = lay0) {Q : Hp → Prop} (eq : EQ E 46 7334 (fun r h2 => r = [] ∧ Q h2)) {h : Hp} {c n : Nat} (hc : c + 2 ≤ 46) (hn : n + 584 ≤ 7334) (w : w_X12_init_413  Q  h) : SW E 413 ([some (vP (some (12, 0)))], [vP (some (162, 0)), vP (some (12, 0))], h, c, n) := by
  refine k_X12_init_413 cx hY (by omega) (by omega) ?_
  obtain ⟨ez, w⟩ := w
  try rw [ez]
  exact s_X12_init_421 cx hY eq  (by omega) (by omega) w
theorem s_X12_init_405 {E : EnvT} {d : Nat} (cx : CX E "ShoreDayModel" cX12_init 1 none "<init>" (d + 1) 46 7334) (hY : eY E = lay0) {Q : Hp → Prop} (eq : EQ E 46 7334 (fun r h2 => r = [] ∧ Q h2)) {h : Hp} {c n : Nat} (hc : c + 3 ≤ 46) (hn : n + 590 ≤ 7334) (w : w_X12_init_405  Q  h) : SW E 405 ([some (vP (some (12, 0)))], [vP (some (160, 0)), vP (some (12, 0))], h, c, n) := by
  refine k_X12_init_405 cx hY (by omega) (by omega) ?_
  obtain ⟨ez, w⟩ := w
  try rw [ez]
  exact s_X12_init_413 cx hY eq  (by omega) (by omega) w
theorem s_X12_init_397 {E : EnvT} {d : Nat} (cx : CX E "ShoreDayModel" cX12_init 1 none "<init>" (d + 1) 46 7334) (hY : eY E = lay0) {Q : Hp → Prop} (eq : EQ E 46 7334 (fun r h2 => r = [] ∧ Q h2)) {h : Hp} {c n : Nat} (hc : c + 4 ≤ 46) (hn : n + 650 ≤ 7334) (w : w_X12_init_397  Q  h) : SW E 397 ([some (vP (some (12, 0)))], [vP (some (159, 0)), vP (some (12, 0))], h, c, n) := by
  refine k_X12_init_397 cx hY (by omega) (by omega) ?_
  obtain ⟨ez, w⟩ := w
  try rw [ez]
  exact s_X12_init_405 cx hY eq  (by omega) (by omega) w
theorem s_X12_init_389 {E : EnvT} {d : Nat} (cx : CX E "ShoreDayModel" cX12_init 1 none "<init>" (d + 1) 46 7334) (hY : eY E = lay0) {Q : Hp → Prop} (eq : EQ E 46 7334 (fun r h2 => r = [] ∧ Q h2)) {h : Hp} {c n : Nat} (hc : c + 5 ≤ 46) (hn : n + 660 ≤ 7334) (w : w_X12_init_389  Q  h) : SW E 389 ([some (vP (some (12, 0)))], [vP (some (158, 0)), vP (some (12, 0))], h, c, n) := by
  refine k_X12_init_389 cx hY (by omega) (by omega) ?_
  obtain ⟨ez, w⟩ := w
  try rw [ez]
  exact s_X12_init_397 cx hY eq  (by omega) (by omega) w
theorem s_X12_init_381 {E : EnvT} {d : Nat} (cx : CX E "ShoreDayModel" cX12_init 1 none "<init>" (d + 1) 46 7334) (hY : eY E = lay0) {Q : Hp → Prop} (eq : EQ E 46 7334 (fun r h2 => r = [] ∧ Q h2)) {h : Hp} {c n : Nat} (hc : c + 6 ≤ 46) (hn : n + 670 ≤ 7334) (w : w_X12_init_381  Q  h) : SW E 381 ([some (vP (some (12, 0)))], [vP (some (154, 0)), vP (some (12, 0))], h, c, n) := by
  refine k_X12_init_381 cx hY (by omega) (by omega) ?_
  obtain ⟨ez, w⟩ := w
  try rw [ez]
  exact s_X12_init_389 cx hY eq  (by omega) (by omega) w
theorem s_X12_init_373 {E : EnvT} {d : Nat} (cx : CX E "ShoreDayModel" cX12_init 1 none "<init>" (d + 1) 46 7334) (hY : eY E = lay0) {Q : Hp → Prop} (eq : EQ E 46 7334 (fun r h2 => r = [] ∧ Q h2)) {h : Hp} {c n : Nat} (hc : c + 7 ≤ 46) (hn : n + 730 ≤ 7334) (w : w_X12_init_373  Q  h) : SW E 373 ([some (vP (some (12, 0)))], [vP (some (153, 0)), vP (some (12, 0))], h, c, n) := by
  refine k_X12_init_373 cx hY (by omega) (by omega) ?_
  obtain ⟨ez, w⟩ := w
  try rw [ez]
  exact s_X12_init_381 cx hY eq  (by omega) (by omega) w
theorem s_X12_init_365 {E : EnvT} {d : Nat} (cx : CX E "ShoreDayModel" cX12_init 1 none "<init>" (d + 1) 46 7334) (hY : eY E = lay0) {Q : Hp → Prop} (eq : EQ E 46 7334 (fun r h2 => r = [] ∧ Q h2)) {h : Hp} {c n : Nat} (hc : c + 8 ≤ 46) (hn : n + 790 ≤ 7334) (w : w_X12_init_365  Q  h) : SW E 365 ([some (vP (some (12, 0)))], [vP (some (152, 0)), vP (some (12, 0))], h, c, n) := by
  refine k_X12_init_365 cx hY (by omega) (by omega) ?_
  obtain ⟨ez, w⟩ := w
  try rw [ez]
  exact s_X12_init_373 cx hY eq  (by omega) (by omega) w
theorem s_X12_init_357 {E : EnvT} {d : Nat} (cx : CX E "ShoreDayModel" cX12_init 1 none "<init>" (d + 1) 46 7334) (hY : eY E = lay0) {Q : Hp → Prop} (eq : EQ E 46 7334 (fun r h2 => r = [] ∧ Q h2)) {h : Hp} {c n : Nat} (hc : c + 9 ≤ 46) (hn : n + 850 ≤ 7334) (w : w_X12_init_357  Q  h) : SW E 357 ([some (vP (some (12, 0)))], [vP (some (151, 0)), vP (some (12, 0))], h, c, n) := by
  refine k_X12_init_357 cx hY (by omega) (by omega) ?_
  obtain ⟨ez, w⟩ := w
  try rw [ez]
  exact s_X12_init_365 cx hY eq  (by omega) (by omega) w
theorem s_X12_init_349 {E : EnvT} {d : Nat} (cx : CX E "ShoreDayModel" cX12_init 1 none "<init>" (d + 1) 46 7334) (hY : eY E = lay0) {Q : Hp → Prop} (eq : EQ E 46 7334 (fun r h2 => r = [] ∧ Q h2)) {h : Hp} {c n : Nat} (hc : c + 10 ≤ 46) (hn : n + 910 ≤ 7334) (w : w_X12_init_349  Q  h) : SW E 349 ([some (vP (some (12, 0)))], [vP (some (150, 0)), vP (some (12, 0))], h, c, n) := by
  refine k_X12_init_349 cx hY (by omega) (by omega) ?_
  obtain ⟨ez, w⟩ := w
  try rw [ez]
  exact s_X12_init_357 cx hY eq  (by omega) (by omega) w
theorem s_X12_init_341 {E : EnvT} {d : Nat} (cx : CX E "ShoreDayModel" cX12_init 1 none "<init>" (d + 1) 46 7334) (hY : eY E = lay0) {Q : Hp → Prop} (eq : EQ E 46 7334 (fun r h2 => r = [] ∧ Q h2)) {h : Hp} {c n : Nat} (hc : c + 11 ≤ 46) (hn : n + 970 ≤ 7334) (w : w_X12_init_341  Q  h) : SW E 341 ([some (vP (some (12, 0)))], [vP (some (149, 0)), vP (some (12, 0))], h, c, n) := by
  refine k_X12_init_341 cx hY (by omega) (by omega) ?_
  obtain ⟨ez, w⟩ := w
  try rw [ez]
  exact s_X12_init_349 cx hY eq  (by omega) (by omega) w
theorem s_X12_init_333 {E : EnvT} {d : Nat} (cx : CX E "ShoreDayModel" cX12_init 1 none "<init>" (d + 1) 46 7334) (hY : eY E = lay0) {Q : Hp → Prop} (eq : EQ E 46 7334 (fun r h2 => r = [] ∧ Q h2)) {h : Hp} {c n : Nat} (hc : c + 12 ≤ 46) (hn : n + 1030 ≤ 7334) (w : w_X12_init_333  Q  h) : SW E 333 ([some (vP (some (12, 0)))], [vP (some (148, 0)), vP (some (12, 0))], h, c, n) := by
  refine k_X12_init_333 cx hY (by omega) (by omega) ?_
  obtain ⟨ez, w⟩ := w
  try rw [ez]
  exact s_X12_init_341 cx hY eq  (by omega) (by omega) w
theorem s_X12_init_325 {E : EnvT} {d : Nat} (cx : CX E "ShoreDayModel" cX12_init 1 none "<init>" (d + 1) 46 7334) (hY : eY E = lay0) {Q : Hp → Prop} (eq : EQ E 46 7334 (fun r h2 => r = [] ∧ Q h2)) {h : Hp} {c n : Nat} (hc : c + 13 ≤ 46) (hn : n + 1090 ≤ 7334) (w : w_X12_init_325  Q  h) : SW E 325 ([some (vP (some (12, 0)))], [vP (some (147, 0)), vP (some (12, 0))], h, c, n) := by
  refine k_X12_init_325 cx hY (by omega) (by omega) ?_
  obtain ⟨ez, w⟩ := w
  try rw [ez]
  exact s_X12_init_333 cx hY eq  (by omega) (by omega) w
theorem s_X12_init_317 {E : EnvT} {d : Nat} (cx : CX E "ShoreDayModel" cX12_init 1 none "<init>" (d + 1) 46 7334) (hY : eY E = lay0) {Q : Hp → Prop} (eq : EQ E 46 7334 (fun r h2 => r = [] ∧ Q h2)) {h : Hp} {c n : Nat} (hc : c + 14 ≤ 46) (hn : n + 1150 ≤ 7334) (w : w_X12_init_317  Q  h) : SW E 317 ([some (vP (some (12, 0)))], [vP (some (146, 0)), vP (some (12, 0))], h, c, n) := by
  refine k_X12_init_317 cx hY (by omega) (by omega) ?_
  obtain ⟨ez, w⟩ := w
  try rw [ez]
  exact s_X12_init_325 cx hY eq  (by omega) (by omega) w
theorem s_X12_init_309 {E : EnvT} {d : Nat} (cx : CX E "ShoreDayModel" cX12_init 1 none "<init>" (d + 1) 46 7334) (hY : eY E = lay0) {Q : Hp → Prop} (eq : EQ E 46 7334 (fun r h2 => r = [] ∧ Q h2)) {h : Hp} {c n : Nat} (hc : c + 15 ≤ 46) (hn : n + 1210 ≤ 7334) (w : w_X12_init_309  Q  h) : SW E 309 ([some (vP (some (12, 0)))], [vP (some (145, 0)), vP (some (12, 0))], h, c, n) := by
  refine k_X12_init_309 cx hY (by omega) (by omega) ?_
  obtain ⟨ez, w⟩ := w
  try rw [ez]
  exact s_X12_init_317 cx hY eq  (by omega) (by omega) w
theorem s_X12_init_301 {E : EnvT} {d : Nat} (cx : CX E "ShoreDayModel" cX12_init 1 none "<init>" (d + 1) 46 7334) (hY : eY E = lay0) {Q : Hp → Prop} (eq : EQ E 46 7334 (fun r h2 => r = [] ∧ Q h2)) {h : Hp} {c n : Nat} (hc : c + 16 ≤ 46) (hn : n + 1270 ≤ 7334) (w : w_X12_init_301  Q  h) : SW E 301 ([some (vP (some (12, 0)))], [vP (some (144, 0)), vP (some (12, 0))], h, c, n) := by
  refine k_X12_init_301 cx hY (by omega) (by omega) ?_
  obtain ⟨ez, w⟩ := w
  try rw [ez]
  exact s_X12_init_309 cx hY eq  (by omega) (by omega) w
theorem s_X12_init_293 {E : EnvT} {d : Nat} (cx : CX E "ShoreDayModel" cX12_init 1 none "<init>" (d + 1) 46 7334) (hY : eY E = lay0) {Q : Hp → Prop} (eq : EQ E 46 7334 (fun r h2 => r = [] ∧ Q h2)) {h : Hp} {c n : Nat} (hc : c + 17 ≤ 46) (hn : n + 1330 ≤ 7334) (w : w_X12_init_293  Q  h) : SW E 293 ([some (vP (some (12, 0)))], [vP (some (143, 0)), vP (some (12, 0))], h, c, n) := by
  refine k_X12_init_293 cx hY (by omega) (by omega) ?_
  obtain ⟨ez, w⟩ := w
  try rw [ez]
  exact s_X12_init_301 cx hY eq  (by omega) (by omega) w
theorem s_X12_init_285 {E : EnvT} {d : Nat} (cx : CX E "ShoreDayModel" cX12_init 1 none "<init>" (d + 1) 46 7334) (hY : eY E = lay0) {Q : Hp → Prop} (eq : EQ E 46 7334 (fun r h2 => r = [] ∧ Q h2)) {h : Hp} {c n : Nat} (hc : c + 18 ≤ 46) (hn : n + 1390 ≤ 7334) (w : w_X12_init_285  Q  h) : SW E 285 ([some (vP (some (12, 0)))], [vP (some (142, 0)), vP (some (12, 0))], h, c, n) := by
  refine k_X12_init_285 cx hY (by omega) (by omega) ?_
  obtain ⟨ez, w⟩ := w
  try rw [ez]
  exact s_X12_init_293 cx hY eq  (by omega) (by omega) w
theorem s_X12_init_277 {E : EnvT} {d : Nat} (cx : CX E "ShoreDayModel" cX12_init 1 none "<init>" (d + 1) 46 7334) (hY : eY E = lay0) {Q : Hp → Prop} (eq : EQ E 46 7334 (fun r h2 => r = [] ∧ Q h2)) {h : Hp} {c n : Nat} (hc : c + 19 ≤ 46) (hn : n + 1450 ≤ 7334) (w : w_X12_init_277  Q  h) : SW E 277 ([some (vP (some (12, 0)))], [vP (some (140, 0)), vP (some (12, 0))], h, c, n) := by
  refine k_X12_init_277 cx hY (by omega) (by omega) ?_
  obtain ⟨ez, w⟩ := w
  try rw [ez]
  exact s_X12_init_285 cx hY eq  (by omega) (by omega) w
theorem s_X12_init_269 {E : EnvT} {d : Nat} (cx : CX E "ShoreDayModel" cX12_init 1 none "<init>" (d + 1) 46 7334) (hY : eY E = lay0) {Q : Hp → Prop} (eq : EQ E 46 7334 (fun r h2 => r = [] ∧ Q h2)) {h : Hp} {c n : Nat} (hc : c + 20 ≤ 46) (hn : n + 1458 ≤ 7334) (w : w_X12_init_269  Q  h) : SW E 269 ([some (vP (some (12, 0)))], [vP (some (139, 0)), vP (some (12, 0))], h, c, n) := by
  refine k_X12_init_269 cx hY (by omega) (by omega) ?_
  obtain ⟨ez, w⟩ := w
  try rw [ez]
  exact s_X12_init_277 cx hY eq  (by omega) (by omega) w
theorem s_X12_init_261 {E : EnvT} {d : Nat} (cx : CX E "ShoreDayModel" cX12_init 1 none "<init>" (d + 1) 46 7334) (hY : eY E = lay0) {Q : Hp → Prop} (eq : EQ E 46 7334 (fun r h2 => r = [] ∧ Q h2)) {h : Hp} {c n : Nat} (hc : c + 21 ≤ 46) (hn : n + 1466 ≤ 7334) (w : w_X12_init_261  Q  h) : SW E 261 ([some (vP (some (12, 0)))], [vP (some (138, 0)), vP (some (12, 0))], h, c, n) := by
  refine k_X12_init_261 cx hY (by omega) (by omega) ?_
  obtain ⟨ez, w⟩ := w
  try rw [ez]
  exact s_X12_init_269 cx hY eq  (by omega) (by omega) w
theorem s_X12_init_253 {E : EnvT} {d : Nat} (cx : CX E "ShoreDayModel" cX12_init 1 none "<init>" (d + 1) 46 7334) (hY : eY E = lay0) {Q : Hp → Prop} (eq : EQ E 46 7334 (fun r h2 => r = [] ∧ Q h2)) {h : Hp} {c n : Nat} (hc : c + 22 ≤ 46) (hn : n + 1474 ≤ 7334) (w : w_X12_init_253  Q  h) : SW E 253 ([some (vP (some (12, 0)))], [vP (some (137, 0)), vP (some (12, 0))], h, c, n) := by
  refine k_X12_init_253 cx hY (by omega) (by omega) ?_
  obtain ⟨ez, w⟩ := w
  try rw [ez]
  exact s_X12_init_261 cx hY eq  (by omega) (by omega) w
theorem s_X12_init_245 {E : EnvT} {d : Nat} (cx : CX E "ShoreDayModel" cX12_init 1 none "<init>" (d + 1) 46 7334) (hY : eY E = lay0) {Q : Hp → Prop} (eq : EQ E 46 7334 (fun r h2 => r = [] ∧ Q h2)) {h : Hp} {c n : Nat} (hc : c + 23 ≤ 46) (hn : n + 1482 ≤ 7334) (w : w_X12_init_245  Q  h) : SW E 245 ([some (vP (some (12, 0)))], [vP (some (136, 0)), vP (some (12, 0))], h, c, n) := by
  refine k_X12_init_245 cx hY (by omega) (by omega) ?_
  obtain ⟨ez, w⟩ := w
  try rw [ez]
  exact s_X12_init_253 cx hY eq  (by omega) (by omega) w
theorem s_X12_init_237 {E : EnvT} {d : Nat} (cx : CX E "ShoreDayModel" cX12_init 1 none "<init>" (d + 1) 46 7334) (hY : eY E = lay0) {Q : Hp → Prop} (eq : EQ E 46 7334 (fun r h2 => r = [] ∧ Q h2)) {h : Hp} {c n : Nat} (hc : c + 24 ≤ 46) (hn : n + 1490 ≤ 7334) (w : w_X12_init_237  Q  h) : SW E 237 ([some (vP (some (12, 0)))], [vP (some (134, 0)), vP (some (12, 0))], h, c, n) := by
  refine k_X12_init_237 cx hY (by omega) (by omega) ?_
  obtain ⟨ez, w⟩ := w
  try rw [ez]
  exact s_X12_init_245 cx hY eq  (by omega) (by omega) w
theorem s_X12_init_229 {E : EnvT} {d : Nat} (cx : CX E "ShoreDayModel" cX12_init 1 none "<init>" (d + 1) 46 7334) (hY : eY E = lay0) {Q : Hp → Prop} (eq : EQ E 46 7334 (fun r h2 => r = [] ∧ Q h2)) {h : Hp} {c n : Nat} (hc : c + 25 ≤ 46) (hn : n + 1496 ≤ 7334) (w : w_X12_init_229  Q  h) : SW E 229 ([some (vP (some (12, 0)))], [vP (some (133, 0)), vP (some (12, 0))], h, c, n) := by
  refine k_X12_init_229 cx hY (by omega) (by omega) ?_
  obtain ⟨ez, w⟩ := w
  try rw [ez]
  exact s_X12_init_237 cx hY eq  (by omega) (by omega) w
theorem s_X12_init_221 {E : EnvT} {d : Nat} (cx : CX E "ShoreDayModel" cX12_init 1 none "<init>" (d + 1) 46 7334) (hY : eY E = lay0) {Q : Hp → Prop} (eq : EQ E 46 7334 (fun r h2 => r = [] ∧ Q h2)) {h : Hp} {c n : Nat} (hc : c + 26 ≤ 46) (hn : n + 1502 ≤ 7334) (w : w_X12_init_221  Q  h) : SW E 221 ([some (vP (some (12, 0)))], [vP (some (132, 0)), vP (some (12, 0))], h, c, n) := by
  refine k_X12_init_221 cx hY (by omega) (by omega) ?_
  obtain ⟨ez, w⟩ := w
  try rw [ez]
  exact s_X12_init_229 cx hY eq  (by omega) (by omega) w
theorem s_X12_init_213 {E : EnvT} {d : Nat} (cx : CX E "ShoreDayModel" cX12_init 1 none "<init>" (d + 1) 46 7334) (hY : eY E = lay0) {Q : Hp → Prop} (eq : EQ E 46 7334 (fun r h2 => r = [] ∧ Q h2)) {h : Hp} {c n : Nat} (hc : c + 27 ≤ 46) (hn : n + 1508 ≤ 7334) (w : w_X12_init_213  Q  h) : SW E 213 ([some (vP (some (12, 0)))], [vP (some (131, 0)), vP (some (12, 0))], h, c, n) := by
  refine k_X12_init_213 cx hY (by omega) (by omega) ?_
  obtain ⟨ez, w⟩ := w
  try rw [ez]
  exact s_X12_init_221 cx hY eq  (by omega) (by omega) w
theorem s_X12_init_205 {E : EnvT} {d : Nat} (cx : CX E "ShoreDayModel" cX12_init 1 none "<init>" (d + 1) 46 7334) (hY : eY E = lay0) {Q : Hp → Prop} (eq : EQ E 46 7334 (fun r h2 => r = [] ∧ Q h2)) {h : Hp} {c n : Nat} (hc : c + 28 ≤ 46) (hn : n + 1514 ≤ 7334) (w : w_X12_init_205  Q  h) : SW E 205 ([some (vP (some (12, 0)))], [vP (some (129, 0)), vP (some (12, 0))], h, c, n) := by
  refine k_X12_init_205 cx hY (by omega) (by omega) ?_
  obtain ⟨ez, w⟩ := w
  try rw [ez]
  exact s_X12_init_213 cx hY eq  (by omega) (by omega) w
theorem s_X12_init_198 {E : EnvT} {d : Nat} (cx : CX E "ShoreDayModel" cX12_init 1 none "<init>" (d + 1) 46 7334) (hY : eY E = lay0) {Q : Hp → Prop} (eq : EQ E 46 7334 (fun r h2 => r = [] ∧ Q h2)) {h : Hp} {c n : Nat} (hc : c + 29 ≤ 46) (hn : n + 1518 ≤ 7334) (w : w_X12_init_198  Q  h) : SW E 198 ([some (vP (some (12, 0)))], [vP (some (128, 0)), vP (some (12, 0))], h, c, n) := by
  refine k_X12_init_198 cx hY (by omega) (by omega) ?_
  obtain ⟨ez, w⟩ := w
  try rw [ez]
  exact s_X12_init_205 cx hY eq  (by omega) (by omega) w
theorem s_X12_init_191 {E : EnvT} {d : Nat} (cx : CX E "ShoreDayModel" cX12_init 1 none "<init>" (d + 1) 46 7334) (hY : eY E = lay0) {Q : Hp → Prop} (eq : EQ E 46 7334 (fun r h2 => r = [] ∧ Q h2)) {h : Hp} {c n : Nat} (hc : c + 30 ≤ 46) (hn : n + 1522 ≤ 7334) (w : w_X12_init_191  Q  h) : SW E 191 ([some (vP (some (12, 0)))], [vP (some (127, 0)), vP (some (12, 0))], h, c, n) := by
  refine k_X12_init_191 cx hY (by omega) (by omega) ?_
  obtain ⟨ez, w⟩ := w
  try rw [ez]
  exact s_X12_init_198 cx hY eq  (by omega) (by omega) w
theorem s_X12_init_184 {E : EnvT} {d : Nat} (cx : CX E "ShoreDayModel" cX12_init 1 none "<init>" (d + 1) 46 7334) (hY : eY E = lay0) {Q : Hp → Prop} (eq : EQ E 46 7334 (fun r h2 => r = [] ∧ Q h2)) {h : Hp} {c n : Nat} (hc : c + 31 ≤ 46) (hn : n + 1526 ≤ 7334) (w : w_X12_init_184  Q  h) : SW E 184 ([some (vP (some (12, 0)))], [vP (some (123, 0)), vP (some (12, 0))], h, c, n) := by
  refine k_X12_init_184 cx hY (by omega) (by omega) ?_
  obtain ⟨ez, w⟩ := w
  try rw [ez]
  exact s_X12_init_191 cx hY eq  (by omega) (by omega) w
theorem s_X12_init_175 {E : EnvT} {d : Nat} (cx : CX E "ShoreDayModel" cX12_init 1 none "<init>" (d + 1) 46 7334) (hY : eY E = lay0) {Q : Hp → Prop} (eq : EQ E 46 7334 (fun r h2 => r = [] ∧ Q h2)) {h : Hp} {c n : Nat} (hc : c + 32 ≤ 46) (hn : n + 2186 ≤ 7334) (w : w_X12_init_175  Q  h) : SW E 175 ([some (vP (some (12, 0)))], [vP (some (122, 0)), vP (some (12, 0))], h, c, n) := by
  refine k_X12_init_175 cx hY (by omega) (by omega) ?_
  obtain ⟨ez, w⟩ := w
  try rw [ez]
  exact s_X12_init_184 cx hY eq  (by omega) (by omega) w
theorem s_X12_init_167 {E : EnvT} {d : Nat} (cx : CX E "ShoreDayModel" cX12_init 1 none "<init>" (d + 1) 46 7334) (hY : eY E = lay0) {Q : Hp → Prop} (eq : EQ E 46 7334 (fun r h2 => r = [] ∧ Q h2)) {h : Hp} {c n : Nat} (hc : c + 33 ≤ 46) (hn : n + 2192 ≤ 7334) (w : w_X12_init_167  Q  h) : SW E 167 ([some (vP (some (12, 0)))], [vP (some (121, 0)), vP (some (12, 0))], h, c, n) := by
  refine k_X12_init_167 cx hY (by omega) (by omega) ?_
  obtain ⟨ez, w⟩ := w
  try rw [ez]
  exact s_X12_init_175 cx hY eq  (by omega) (by omega) w
theorem s_X12_init_159 {E : EnvT} {d : Nat} (cx : CX E "ShoreDayModel" cX12_init 1 none "<init>" (d + 1) 46 7334) (hY : eY E = lay0) {Q : Hp → Prop} (eq : EQ E 46 7334 (fun r h2 => r = [] ∧ Q h2)) {h : Hp} {c n : Nat} (hc : c + 34 ≤ 46) (hn : n + 2199 ≤ 7334) (w : w_X12_init_159  Q  h) : SW E 159 ([some (vP (some (12, 0)))], [vP (some (120, 0)), vP (some (12, 0))], h, c, n) := by
  refine k_X12_init_159 cx hY (by omega) (by omega) ?_
  obtain ⟨ez, w⟩ := w
  try rw [ez]
  exact s_X12_init_167 cx hY eq  (by omega) (by omega) w
theorem s_X12_init_151 {E : EnvT} {d : Nat} (cx : CX E "ShoreDayModel" cX12_init 1 none "<init>" (d + 1) 46 7334) (hY : eY E = lay0) {Q : Hp → Prop} (eq : EQ E 46 7334 (fun r h2 => r = [] ∧ Q h2)) {h : Hp} {c n : Nat} (hc : c + 35 ≤ 46) (hn : n + 2206 ≤ 7334) (w : w_X12_init_151  Q  h) : SW E 151 ([some (vP (some (12, 0)))], [vP (some (119, 0)), vP (some (12, 0))], h, c, n) := by
  refine k_X12_init_151 cx hY (by omega) (by omega) ?_
  obtain ⟨ez, w⟩ := w
  try rw [ez]
  exact s_X12_init_159 cx hY eq  (by omega) (by omega) w
theorem s_X12_init_143 {E : EnvT} {d : Nat} (cx : CX E "ShoreDayModel" cX12_init 1 none "<init>" (d + 1) 46 7334) (hY : eY E = lay0) {Q : Hp → Prop} (eq : EQ E 46 7334 (fun r h2 => r = [] ∧ Q h2)) {h : Hp} {c n : Nat} (hc : c + 36 ≤ 46) (hn : n + 2213 ≤ 7334) (w : w_X12_init_143  Q  h) : SW E 143 ([some (vP (some (12, 0)))], [vP (some (114, 0)), vP (some (12, 0))], h, c, n) := by
  refine k_X12_init_143 cx hY (by omega) (by omega) ?_
  obtain ⟨ez, w⟩ := w
  try rw [ez]
  exact s_X12_init_151 cx hY eq  (by omega) (by omega) w
theorem s_X12_init_134 {E : EnvT} {d : Nat} (cx : CX E "ShoreDayModel" cX12_init 1 none "<init>" (d + 1) 46 7334) (hY : eY E = lay0) {Q : Hp → Prop} (eq : EQ E 46 7334 (fun r h2 => r = [] ∧ Q h2)) {h : Hp} {c n : Nat} (hc : c + 37 ≤ 46) (hn : n + 3533 ≤ 7334) (w : w_X12_init_134  Q  h) : SW E 134 ([some (vP (some (12, 0)))], [vP (some (113, 0)), vP (some (12, 0))], h, c, n) := by
  refine k_X12_init_134 cx hY (by omega) (by omega) ?_
  obtain ⟨ez, w⟩ := w
  try rw [ez]
  exact s_X12_init_143 cx hY eq  (by omega) (by omega) w
theorem s_X12_init_125 {E : EnvT} {d : Nat} (cx : CX E "ShoreDayModel" cX12_init 1 none "<init>" (d + 1) 46 7334) (hY : eY E = lay0) {Q : Hp → Prop} (eq : EQ E 46 7334 (fun r h2 => r = [] ∧ Q h2)) {h : Hp} {c n : Nat} (hc : c + 38 ≤ 46) (hn : n + 4853 ≤ 7334) (w : w_X12_init_125  Q  h) : SW E 125 ([some (vP (some (12, 0)))], [vP (some (112, 0)), vP (some (12, 0))], h, c, n) := by
  refine k_X12_init_125 cx hY (by omega) (by omega) ?_
  obtain ⟨ez, w⟩ := w
  try rw [ez]
  exact s_X12_init_134 cx hY eq  (by omega) (by omega) w
theorem s_X12_init_117 {E : EnvT} {d : Nat} (cx : CX E "ShoreDayModel" cX12_init 1 none "<init>" (d + 1) 46 7334) (hY : eY E = lay0) {Q : Hp → Prop} (eq : EQ E 46 7334 (fun r h2 => r = [] ∧ Q h2)) {h : Hp} {c n : Nat} (hc : c + 39 ≤ 46) (hn : n + 4885 ≤ 7334) (w : w_X12_init_117  Q  h) : SW E 117 ([some (vP (some (12, 0)))], [vP (some (111, 0)), vP (some (12, 0))], h, c, n) := by
  refine k_X12_init_117 cx hY (by omega) (by omega) ?_
  obtain ⟨ez, w⟩ := w
  try rw [ez]
  exact s_X12_init_125 cx hY eq  (by omega) (by omega) w
theorem s_X12_init_109 {E : EnvT} {d : Nat} (cx : CX E "ShoreDayModel" cX12_init 1 none "<init>" (d + 1) 46 7334) (hY : eY E = lay0) {Q : Hp → Prop} (eq : EQ E 46 7334 (fun r h2 => r = [] ∧ Q h2)) {h : Hp} {c n : Nat} (hc : c + 40 ≤ 46) (hn : n + 4917 ≤ 7334) (w : w_X12_init_109  Q  h) : SW E 109 ([some (vP (some (12, 0)))], [vP (some (110, 0)), vP (some (12, 0))], h, c, n) := by
  refine k_X12_init_109 cx hY (by omega) (by omega) ?_
  obtain ⟨ez, w⟩ := w
  try rw [ez]
  exact s_X12_init_117 cx hY eq  (by omega) (by omega) w
theorem s_X12_init_102 {E : EnvT} {d : Nat} (cx : CX E "ShoreDayModel" cX12_init 1 none "<init>" (d + 1) 46 7334) (hY : eY E = lay0) {Q : Hp → Prop} (eq : EQ E 46 7334 (fun r h2 => r = [] ∧ Q h2)) {h : Hp} {c n : Nat} (hc : c + 41 ≤ 46) (hn : n + 4919 ≤ 7334) (w : w_X12_init_102  Q  h) : SW E 102 ([some (vP (some (12, 0)))], [vP (some (109, 0)), vP (some (12, 0))], h, c, n) := by
  refine k_X12_init_102 cx hY (by omega) (by omega) ?_
  obtain ⟨ez, w⟩ := w
  try rw [ez]
  exact s_X12_init_109 cx hY eq  (by omega) (by omega) w
theorem s_X12_init_81 {E : EnvT} {d : Nat} (cx : CX E "ShoreDayModel" cX12_init 1 none "<init>" (d + 1) 46 7334) (hY : eY E = lay0) {Q : Hp → Prop} (eq : EQ E 46 7334 (fun r h2 => r = [] ∧ Q h2)) {h : Hp} {c n : Nat} (hc : c + 41 ≤ 46) (hn : n + 4919 ≤ 7334) (w : w_X12_init_81  Q  h) : SW E 81 ([some (vP (some (12, 0)))], [vP (some (109, 0)), vP (some (12, 0))], h, c, n) := by
  obtain ⟨G1, G2, G3, w⟩ := w
  refine k_X12_init_81 cx hY G1 G2 G3 ?_
  exact s_X12_init_102 cx hY eq  (by omega) (by omega) w
theorem s_X12_init_63 {E : EnvT} {d : Nat} (cx : CX E "ShoreDayModel" cX12_init 1 none "<init>" (d + 1) 46 7334) (hY : eY E = lay0) {Q : Hp → Prop} (eq : EQ E 46 7334 (fun r h2 => r = [] ∧ Q h2)) {h : Hp} {c n : Nat} (hc : c + 41 ≤ 46) (hn : n + 4919 ≤ 7334) (w : w_X12_init_63  Q  h) : SW E 63 ([some (vP (some (12, 0)))], [vP (some (109, 0)), vP (some (12, 0))], h, c, n) := by
  obtain ⟨G1, G2, G3, w⟩ := w
  refine k_X12_init_63 cx hY G1 G2 G3 ?_
  exact s_X12_init_81 cx hY eq  (by omega) (by omega) w
theorem s_X12_init_45 {E : EnvT} {d : Nat} (cx : CX E "ShoreDayModel" cX12_init 1 none "<init>" (d + 1) 46 7334) (hY : eY E = lay0) {Q : Hp → Prop} (eq : EQ E 46 7334 (fun r h2 => r = [] ∧ Q h2)) {h : Hp} {c n : Nat} (hc : c + 41 ≤ 46) (hn : n + 4919 ≤ 7334) (w : w_X12_init_45  Q  h) : SW E 45 ([some (vP (some (12, 0)))], [vP (some (109, 0)), vP (some (12, 0))], h, c, n) := by
  obtain ⟨G1, G2, G3, w⟩ := w
  refine k_X12_init_45 cx hY G1 G2 G3 ?_
  exact s_X12_init_63 cx hY eq  (by omega) (by omega) w
theorem s_X12_init_37 {E : EnvT} {d : Nat} (cx : CX E "ShoreDayModel" cX12_init 1 none "<init>" (d + 1) 46 7334) (hY : eY E = lay0) {Q : Hp → Prop} (eq : EQ E 46 7334 (fun r h2 => r = [] ∧ Q h2)) {h : Hp} {c n : Nat} (hc : c + 42 ≤ 46) (hn : n + 4928 ≤ 7334) (w : w_X12_init_37  Q  h) : SW E 37 ([some (vP (some (12, 0)))], [vP (some (106, 0)), vP (some (12, 0))], h, c, n) := by
  refine k_X12_init_37 cx hY (by omega) (by omega) ?_
  obtain ⟨ez, w⟩ := w
  try rw [ez]
  exact s_X12_init_45 cx hY eq  (by omega) (by omega) w
theorem s_X12_init_28 {E : EnvT} {d : Nat} (cx : CX E "ShoreDayModel" cX12_init 1 none "<init>" (d + 1) 46 7334) (hY : eY E = lay0) {Q : Hp → Prop} (eq : EQ E 46 7334 (fun r h2 => r = [] ∧ Q h2)) {h : Hp} {c n : Nat} (hc : c + 43 ≤ 46) (hn : n + 5530 ≤ 7334) (w : w_X12_init_28  Q  h) : SW E 28 ([some (vP (some (12, 0)))], [vP (some (105, 0)), vP (some (12, 0))], h, c, n) := by
  refine k_X12_init_28 cx hY (by omega) (by omega) ?_
  obtain ⟨ez, w⟩ := w
  try rw [ez]
  exact s_X12_init_37 cx hY eq  (by omega) (by omega) w
theorem s_X12_init_19 {E : EnvT} {d : Nat} (cx : CX E "ShoreDayModel" cX12_init 1 none "<init>" (d + 1) 46 7334) (hY : eY E = lay0) {Q : Hp → Prop} (eq : EQ E 46 7334 (fun r h2 => r = [] ∧ Q h2)) {h : Hp} {c n : Nat} (hc : c + 44 ≤ 46) (hn : n + 6132 ≤ 7334) (w : w_X12_init_19  Q  h) : SW E 19 ([some (vP (some (12, 0)))], [vP (some (104, 0)), vP (some (12, 0))], h, c, n) := by
  refine k_X12_init_19 cx hY (by omega) (by omega) ?_
  obtain ⟨ez, w⟩ := w
  try rw [ez]
  exact s_X12_init_28 cx hY eq  (by omega) (by omega) w
theorem s_X12_init_10 {E : EnvT} {d : Nat} (cx : CX E "ShoreDayModel" cX12_init 1 none "<init>" (d + 1) 46 7334) (hY : eY E = lay0) {Q : Hp → Prop} (eq : EQ E 46 7334 (fun r h2 => r = [] ∧ Q h2)) {h : Hp} {c n : Nat} (hc : c + 45 ≤ 46) (hn : n + 6734 ≤ 7334) (w : w_X12_init_10  Q  h) : SW E 10 ([some (vP (some (12, 0)))], [vP (some (101, 0)), vP (some (12, 0))], h, c, n) := by
  refine k_X12_init_10 cx hY (by omega) (by omega) ?_
  obtain ⟨ez, w⟩ := w
  try rw [ez]
  exact s_X12_init_19 cx hY eq  (by omega) (by omega) w
theorem s_X12_init_0 {E : EnvT} {d : Nat} (cx : CX E "ShoreDayModel" cX12_init 1 none "<init>" (d + 1) 46 7334) (hY : eY E = lay0) {Q : Hp → Prop} (eq : EQ E 46 7334 (fun r h2 => r = [] ∧ Q h2)) {h : Hp} {c n : Nat} (hc : c + 46 ≤ 46) (hn : n + 7334 ≤ 7334) (w : w_X12_init_0  Q  h) : SW E 0 ([some (vP (some (12, 0)))], [], h, c, n) := by
  refine k_X12_init_0 cx hY (by omega) (by omega) ?_
  obtain ⟨ez, w⟩ := w
  try rw [ez]
  exact s_X12_init_10 cx hY eq  (by omega) (by omega) w
def wp_X12_init (h : Hp) (Q : Hp → Prop) : Prop := w_X12_init_0 Q  h
theorem vc_X12_init {l : Launch} {d : Nat} {h : Hp} {Q : Hp → Prop} (w : wp_X12_init h Q) : Ct l lay0 yX12_init cX12_init 1 none (d + 1) 46 7334 [vP (some (12, 0))] h (fun r h2 => r = [] ∧ Q h2) := by
  exact Ct.of (by decide) (Nat.le_of_ble_eq_true rfl) fun E cx eq hl hY => s_X12_init_0 cx hY eq (Nat.le_refl _) (Nat.le_refl _) w
