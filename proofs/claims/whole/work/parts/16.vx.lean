theorem ctY {E : EnvT} (hY : eY E = lay1) {y : MethodName} {cc : ByteArray} {mL : Nat} {rt : Option FieldType} {d mc ms : Nat} {av : List AVal} {h : Hp} {Post : List AVal → Hp → Prop} (c : Ct (eL E) lay1 y cc mL rt d mc ms av h Post) : Ct (eL E) (eY E) y cc mL rt d mc ms av h Post := by
  rw [hY]
  exact c
def w_X1_clear_0 (Q : Hp → Prop) (i0 : Nat) (h : Hp) : Prop := Q (wI (wI (h) 1 (i0) 3 ((0 : Int32))) 1 (i0) 6 ((0 : Int32)))
theorem s_X1_clear_0 {E : EnvT} {d : Nat} (cx : CX E "ShoreDay$FeeText" cX1_clear 1 none "clear" (d + 1) 0 0) (hY : eY E = lay1) {Q : Hp → Prop} (eq : EQ E 0 0 (fun r h2 => r = [] ∧ Q h2)) {i0 : Nat} {h : Hp} {c n : Nat} (hc : c + 0 ≤ 0) (hn : n + 0 ≤ 0) (w : w_X1_clear_0  Q i0 h) : SW E 0 ([some (vP (some (1, i0)))], [], h, c, n) := by
  exact k_X1_clear_0 cx hY eq (by omega) (by omega) ⟨rfl, w⟩
def wp_X1_clear (i0 : Nat) (h : Hp) (Q : Hp → Prop) : Prop := w_X1_clear_0 Q i0 h
theorem vc_X1_clear {l : Launch} {d : Nat} {i0 : Nat} {h : Hp} {Q : Hp → Prop} (w : wp_X1_clear i0 h Q) : Ct l lay1 yX1_clear cX1_clear 1 none (d + 1) 0 0 [vP (some (1, i0))] h (fun r h2 => r = [] ∧ Q h2) := by
  exact Ct.of (by decide) (Nat.le_of_ble_eq_true rfl) fun E cx eq hl hY => s_X1_clear_0 cx hY eq (Nat.le_refl _) (Nat.le_refl _) w
def w_X1_put_30 (Q : Hp → Prop) (i0 : Nat) (a1 : Int32) (h : Hp) : Prop := Q (h)
def w_X1_put_10 (Q : Hp → Prop) (i0 : Nat) (a1 : Int32) (h : Hp) : Prop := vp_in (gI (h) 1 (i0) (3)) 600 ∧ (w_X1_put_30  Q (i0) (a1) (wI (wI (h) 28 (i0) (tN (gI (h) 1 (i0) (3))) (a1)) 1 (i0) 3 ((gI (wI (h) 28 (i0) (tN (gI (h) 1 (i0) (3))) (a1)) 1 (i0) (3)) + ((1 : Int32)))))
def w_X1_put_0 (Q : Hp → Prop) (i0 : Nat) (a1 : Int32) (h : Hp) : Prop := (((600 : Int32)) ≤ (gI (h) 1 (i0) (3)) → w_X1_put_30  Q (i0) (a1) (h)) ∧ (¬ ((600 : Int32)) ≤ (gI (h) 1 (i0) (3)) → w_X1_put_10  Q (i0) (a1) (h))
theorem s_X1_put_30 {E : EnvT} {d : Nat} (cx : CX E "ShoreDay$FeeText" cX1_put 2 none "put" (d + 1) 0 0) (hY : eY E = lay1) {Q : Hp → Prop} (eq : EQ E 0 0 (fun r h2 => r = [] ∧ Q h2)) {i0 : Nat} {a1 : Int32} {h : Hp} {c n : Nat} (hc : c + 0 ≤ 0) (hn : n + 0 ≤ 0) (w : w_X1_put_30  Q i0 a1 h) : SW E 30 ([some (vP (some (1, i0))), some (vI (a1))], [], h, c, n) := by
  exact k_X1_put_30 cx hY eq (by omega) (by omega) ⟨rfl, w⟩
theorem s_X1_put_10 {E : EnvT} {d : Nat} (cx : CX E "ShoreDay$FeeText" cX1_put 2 none "put" (d + 1) 0 0) (hY : eY E = lay1) {Q : Hp → Prop} (eq : EQ E 0 0 (fun r h2 => r = [] ∧ Q h2)) {i0 : Nat} {a1 : Int32} {h : Hp} {c n : Nat} (hc : c + 0 ≤ 0) (hn : n + 0 ≤ 0) (w : w_X1_put_10  Q i0 a1 h) : SW E 10 ([some (vP (some (1, i0))), some (vI (a1))], [], h, c, n) := by
  obtain ⟨G1, w⟩ := w
  refine k_X1_put_10 cx hY G1 ?_
  exact s_X1_put_30 cx hY eq  (by omega) (by omega) w
theorem s_X1_put_0 {E : EnvT} {d : Nat} (cx : CX E "ShoreDay$FeeText" cX1_put 2 none "put" (d + 1) 0 0) (hY : eY E = lay1) {Q : Hp → Prop} (eq : EQ E 0 0 (fun r h2 => r = [] ∧ Q h2)) {i0 : Nat} {a1 : Int32} {h : Hp} {c n : Nat} (hc : c + 0 ≤ 0) (hn : n + 0 ≤ 0) (w : w_X1_put_0  Q i0 a1 h) : SW E 0 ([some (vP (some (1, i0))), some (vI (a1))], [], h, c, n) := by
  refine k_X1_put_0 cx hY (fun q => ?_) (fun q => ?_)
  · have w := w.1 q
    exact s_X1_put_30 cx hY eq  (by omega) (by omega) w
  · have w := w.2 q
    exact s_X1_put_10 cx hY eq  (by omega) (by omega) w
def wp_X1_put (i0 : Nat) (a1 : Int32) (h : Hp) (Q : Hp → Prop) : Prop := w_X1_put_0 Q i0 a1 h
theorem vc_X1_put {l : Launch} {d : Nat} {i0 : Nat} {a1 : Int32} {h : Hp} {Q : Hp → Prop} (w : wp_X1_put i0 a1 h Q) : Ct l lay1 yX1_put cX1_put 2 none (d + 1) 0 0 [vP (some (1, i0)), vI a1] h (fun r h2 => r = [] ∧ Q h2) := by
  exact Ct.of (by decide) (Nat.le_of_ble_eq_true rfl) fun E cx eq hl hY => s_X1_put_0 cx hY eq (Nat.le_refl _) (Nat.le_refl _) w
def w_X1_endLine_42 (Q : Hp → Prop) (i0 : Nat) (a1 : Int32) (h : Hp) : Prop := Q (h)
def w_X1_endLine_31 (Q : Hp → Prop) (i0 : Nat) (a1 : Int32) (s1 : Int32) (s2 : Int32) (h : Hp) : Prop := vp_in (s1) 16 ∧ (w_X1_endLine_42  Q (i0) (a1) (wI (wI (h) 29 (i0) (tN (s1)) (s2)) 1 (i0) 6 ((gI (wI (h) 29 (i0) (tN (s1)) (s2)) 1 (i0) (6)) + ((1 : Int32)))))
def w_X1_endLine_9 (Q : Hp → Prop) (i0 : Nat) (a1 : Int32) (h : Hp) : Prop := vp_in (gI (h) 1 (i0) (6)) 16 ∧ (w_X1_endLine_31  Q (i0) (a1) (gI (wI (h) 31 (i0) (tN (gI (h) 1 (i0) (6))) (a1)) 1 (i0) (6)) (gI (wI (h) 31 (i0) (tN (gI (h) 1 (i0) (6))) (a1)) 1 (i0) (3)) (wI (h) 31 (i0) (tN (gI (h) 1 (i0) (6))) (a1)))
def w_X1_endLine_0 (Q : Hp → Prop) (i0 : Nat) (a1 : Int32) (h : Hp) : Prop := (((16 : Int32)) ≤ (gI (h) 1 (i0) (6)) → w_X1_endLine_42  Q (i0) (a1) (h)) ∧ (¬ ((16 : Int32)) ≤ (gI (h) 1 (i0) (6)) → w_X1_endLine_9  Q (i0) (a1) (h))
theorem s_X1_endLine_42 {E : EnvT} {d : Nat} (cx : CX E "ShoreDay$FeeText" cX1_endLine 2 none "endLine" (d + 1) 0 0) (hY : eY E = lay1) {Q : Hp → Prop} (eq : EQ E 0 0 (fun r h2 => r = [] ∧ Q h2)) {i0 : Nat} {a1 : Int32} {h : Hp} {c n : Nat} (hc : c + 0 ≤ 0) (hn : n + 0 ≤ 0) (w : w_X1_endLine_42  Q i0 a1 h) : SW E 42 ([some (vP (some (1, i0))), some (vI (a1))], [], h, c, n) := by
  exact k_X1_endLine_42 cx hY eq (by omega) (by omega) ⟨rfl, w⟩
theorem s_X1_endLine_31 {E : EnvT} {d : Nat} (cx : CX E "ShoreDay$FeeText" cX1_endLine 2 none "endLine" (d + 1) 0 0) (hY : eY E = lay1) {Q : Hp → Prop} (eq : EQ E 0 0 (fun r h2 => r = [] ∧ Q h2)) {i0 : Nat} {a1 : Int32} {s1 : Int32} {s2 : Int32} {h : Hp} {c n : Nat} (hc : c + 0 ≤ 0) (hn : n + 0 ≤ 0) (w : w_X1_endLine_31  Q i0 a1 s1 s2 h) : SW E 31 ([some (vP (some (1, i0))), some (vI (a1))], [vI (s2), vI (s1), vP (some (29, i0))], h, c, n) := by
  obtain ⟨G1, w⟩ := w
  refine k_X1_endLine_31 cx hY G1 ?_
  exact s_X1_endLine_42 cx hY eq  (by omega) (by omega) w
theorem s_X1_endLine_9 {E : EnvT} {d : Nat} (cx : CX E "ShoreDay$FeeText" cX1_endLine 2 none "endLine" (d + 1) 0 0) (hY : eY E = lay1) {Q : Hp → Prop} (eq : EQ E 0 0 (fun r h2 => r = [] ∧ Q h2)) {i0 : Nat} {a1 : Int32} {h : Hp} {c n : Nat} (hc : c + 0 ≤ 0) (hn : n + 0 ≤ 0) (w : w_X1_endLine_9  Q i0 a1 h) : SW E 9 ([some (vP (some (1, i0))), some (vI (a1))], [], h, c, n) := by
  obtain ⟨G1, w⟩ := w
  refine k_X1_endLine_9 cx hY G1 ?_
  exact s_X1_endLine_31 cx hY eq  (by omega) (by omega) w
theorem s_X1_endLine_0 {E : EnvT} {d : Nat} (cx : CX E "ShoreDay$FeeText" cX1_endLine 2 none "endLine" (d + 1) 0 0) (hY : eY E = lay1) {Q : Hp → Prop} (eq : EQ E 0 0 (fun r h2 => r = [] ∧ Q h2)) {i0 : Nat} {a1 : Int32} {h : Hp} {c n : Nat} (hc : c + 0 ≤ 0) (hn : n + 0 ≤ 0) (w : w_X1_endLine_0  Q i0 a1 h) : SW E 0 ([some (vP (some (1, i0))), some (vI (a1))], [], h, c, n) := by
  refine k_X1_endLine_0 cx hY (fun q => ?_) (fun q => ?_)
  · have w := w.1 q
    exact s_X1_endLine_42 cx hY eq  (by omega) (by omega) w
  · have w := w.2 q
    exact s_X1_endLine_9 cx hY eq  (by omega) (by omega) w
def wp_X1_endLine (i0 : Nat) (a1 : Int32) (h : Hp) (Q : Hp → Prop) : Prop := w_X1_endLine_0 Q i0 a1 h
theorem vc_X1_endLine {l : Launch} {d : Nat} {i0 : Nat} {a1 : Int32} {h : Hp} {Q : Hp → Prop} (w : wp_X1_endLine i0 a1 h Q) : Ct l lay1 yX1_endLine cX1_endLine 2 none (d + 1) 0 0 [vP (some (1, i0)), vI a1] h (fun r h2 => r = [] ∧ Q h2) := by
  exact Ct.of (by decide) (Nat.le_of_ble_eq_true rfl) fun E cx eq hl hY => s_X1_endLine_0 cx hY eq (Nat.le_refl _) (Nat.le_refl _) w
def w_X1_push_29 (Q : Hp → Prop) (i0 : Nat) (a1 : Int32) (h : Hp) : Prop := Q (h)
def w_X1_push_9 (Q : Hp → Prop) (i0 : Nat) (a1 : Int32) (h : Hp) : Prop := vp_in (gI (h) 1 (i0) (4)) 16 ∧ (w_X1_push_29  Q (i0) (a1) (wI (wI (h) 30 (i0) (tN (gI (h) 1 (i0) (4))) (a1)) 1 (i0) 4 ((gI (wI (h) 30 (i0) (tN (gI (h) 1 (i0) (4))) (a1)) 1 (i0) (4)) + ((1 : Int32)))))
def w_X1_push_0 (Q : Hp → Prop) (i0 : Nat) (a1 : Int32) (h : Hp) : Prop := (((16 : Int32)) ≤ (gI (h) 1 (i0) (4)) → w_X1_push_29  Q (i0) (a1) (h)) ∧ (¬ ((16 : Int32)) ≤ (gI (h) 1 (i0) (4)) → w_X1_push_9  Q (i0) (a1) (h))
theorem s_X1_push_29 {E : EnvT} {d : Nat} (cx : CX E "ShoreDay$FeeText" cX1_push 2 none "push" (d + 1) 0 0) (hY : eY E = lay1) {Q : Hp → Prop} (eq : EQ E 0 0 (fun r h2 => r = [] ∧ Q h2)) {i0 : Nat} {a1 : Int32} {h : Hp} {c n : Nat} (hc : c + 0 ≤ 0) (hn : n + 0 ≤ 0) (w : w_X1_push_29  Q i0 a1 h) : SW E 29 ([some (vP (some (1, i0))), some (vI (a1))], [], h, c, n) := by
  exact k_X1_push_29 cx hY eq (by omega) (by omega) ⟨rfl, w⟩
theorem s_X1_push_9 {E : EnvT} {d : Nat} (cx : CX E "ShoreDay$FeeText" cX1_push 2 none "push" (d + 1) 0 0) (hY : eY E = lay1) {Q : Hp → Prop} (eq : EQ E 0 0 (fun r h2 => r = [] ∧ Q h2)) {i0 : Nat} {a1 : Int32} {h : Hp} {c n : Nat} (hc : c + 0 ≤ 0) (hn : n + 0 ≤ 0) (w : w_X1_push_9  Q i0 a1 h) : SW E 9 ([some (vP (some (1, i0))), some (vI (a1))], [], h, c, n) := by
  obtain ⟨G1, w⟩ := w
  refine k_X1_push_9 cx hY G1 ?_
  exact s_X1_push_29 cx hY eq  (by omega) (by omega) w
theorem s_X1_push_0 {E : EnvT} {d : Nat} (cx : CX E "ShoreDay$FeeText" cX1_push 2 none "push" (d + 1) 0 0) (hY : eY E = lay1) {Q : Hp → Prop} (eq : EQ E 0 0 (fun r h2 => r = [] ∧ Q h2)) {i0 : Nat} {a1 : Int32} {h : Hp} {c n : Nat} (hc : c + 0 ≤ 0) (hn : n + 0 ≤ 0) (w : w_X1_push_0  Q i0 a1 h) : SW E 0 ([some (vP (some (1, i0))), some (vI (a1))], [], h, c, n) := by
  refine k_X1_push_0 cx hY (fun q => ?_) (fun q => ?_)
  · have w := w.1 q
    exact s_X1_push_29 cx hY eq  (by omega) (by omega) w
  · have w := w.2 q
    exact s_X1_push_9 cx hY eq  (by omega) (by omega) w
def wp_X1_push (i0 : Nat) (a1 : Int32) (h : Hp) (Q : Hp → Prop) : Prop := w_X1_push_0 Q i0 a1 h
theorem vc_X1_push {l : Launch} {d : Nat} {i0 : Nat} {a1 : Int32} {h : Hp} {Q : Hp → Prop} (w : wp_X1_push i0 a1 h Q) : Ct l lay1 yX1_push cX1_push 2 none (d + 1) 0 0 [vP (some (1, i0)), vI a1] h (fun r h2 => r = [] ∧ Q h2) := by
  exact Ct.of (by decide) (Nat.le_of_ble_eq_true rfl) fun E cx eq hl hY => s_X1_push_0 cx hY eq (Nat.le_refl _) (Nat.le_refl _) w
def w_X1_pop_27 (Q : Int32 → Hp → Prop) (i0 : Nat) (s1 : Int32) (h : Hp) : Prop := vp_in (s1) 16 ∧ (Q (gI (h) 30 (i0) (tN (s1))) (h))
def w_X1_pop_9 (Q : Int32 → Hp → Prop) (i0 : Nat) (h : Hp) : Prop := w_X1_pop_27  Q (i0) (gI (wI (h) 1 (i0) 4 ((gI (h) 1 (i0) (4)) - ((1 : Int32)))) 1 (i0) (4)) (wI (h) 1 (i0) 4 ((gI (h) 1 (i0) (4)) - ((1 : Int32))))
def w_X1_pop_7 (Q : Int32 → Hp → Prop) (i0 : Nat) (h : Hp) : Prop := Q ((0 : Int32)) (h)
def w_X1_pop_0 (Q : Int32 → Hp → Prop) (i0 : Nat) (h : Hp) : Prop := (0 < (gI (h) 1 (i0) (4)) → w_X1_pop_9  Q (i0) (h)) ∧ (¬ 0 < (gI (h) 1 (i0) (4)) → w_X1_pop_7  Q (i0) (h))
theorem s_X1_pop_27 {E : EnvT} {d : Nat} (cx : CX E "ShoreDay$FeeText" cX1_pop 1 (some .int) "pop" (d + 1) 0 0) (hY : eY E = lay1) {Q : Int32 → Hp → Prop} (eq : EQ E 0 0 (fun r h2 => ∃ x, r = [vI x] ∧ Q x h2)) {i0 : Nat} {s1 : Int32} {h : Hp} {c n : Nat} (hc : c + 0 ≤ 0) (hn : n + 0 ≤ 0) (w : w_X1_pop_27  Q i0 s1 h) : SW E 27 ([some (vP (some (1, i0)))], [vI (s1), vP (some (30, i0))], h, c, n) := by
  obtain ⟨G1, w⟩ := w
  exact k_X1_pop_27 cx hY G1 eq (by omega) (by omega) ⟨_, rfl, w⟩
theorem s_X1_pop_9 {E : EnvT} {d : Nat} (cx : CX E "ShoreDay$FeeText" cX1_pop 1 (some .int) "pop" (d + 1) 0 0) (hY : eY E = lay1) {Q : Int32 → Hp → Prop} (eq : EQ E 0 0 (fun r h2 => ∃ x, r = [vI x] ∧ Q x h2)) {i0 : Nat} {h : Hp} {c n : Nat} (hc : c + 0 ≤ 0) (hn : n + 0 ≤ 0) (w : w_X1_pop_9  Q i0 h) : SW E 9 ([some (vP (some (1, i0)))], [], h, c, n) := by
  refine k_X1_pop_9 cx hY ?_
  exact s_X1_pop_27 cx hY eq  (by omega) (by omega) w
theorem s_X1_pop_7 {E : EnvT} {d : Nat} (cx : CX E "ShoreDay$FeeText" cX1_pop 1 (some .int) "pop" (d + 1) 0 0) (hY : eY E = lay1) {Q : Int32 → Hp → Prop} (eq : EQ E 0 0 (fun r h2 => ∃ x, r = [vI x] ∧ Q x h2)) {i0 : Nat} {h : Hp} {c n : Nat} (hc : c + 0 ≤ 0) (hn : n + 0 ≤ 0) (w : w_X1_pop_7  Q i0 h) : SW E 7 ([some (vP (some (1, i0)))], [], h, c, n) := by
  exact k_X1_pop_7 cx hY eq (by omega) (by omega) ⟨_, rfl, w⟩
theorem s_X1_pop_0 {E : EnvT} {d : Nat} (cx : CX E "ShoreDay$FeeText" cX1_pop 1 (some .int) "pop" (d + 1) 0 0) (hY : eY E = lay1) {Q : Int32 → Hp → Prop} (eq : EQ E 0 0 (fun r h2 => ∃ x, r = [vI x] ∧ Q x h2)) {i0 : Nat} {h : Hp} {c n : Nat} (hc : c + 0 ≤ 0) (hn : n + 0 ≤ 0) (w : w_X1_pop_0  Q i0 h) : SW E 0 ([some (vP (some (1, i0)))], [], h, c, n) := by
  refine k_X1_pop_0 cx hY (fun q => ?_) (fun q => ?_)
  · have w := w.1 q
    exact s_X1_pop_9 cx hY eq  (by omega) (by omega) w
  · have w := w.2 q
    exact s_X1_pop_7 cx hY eq  (by omega) (by omega) w
def wp_X1_pop (i0 : Nat) (h : Hp) (Q : Int32 → Hp → Prop) : Prop := w_X1_pop_0 Q i0 h
theorem vc_X1_pop {l : Launch} {d : Nat} {i0 : Nat} {h : Hp} {Q : Int32 → Hp → Prop} (w : wp_X1_pop i0 h Q) : Ct l lay1 yX1_pop cX1_pop 1 (some .int) (d + 1) 0 0 [vP (some (1, i0))] h (fun r h2 => ∃ x, r = [vI x] ∧ Q x h2) := by
  exact Ct.of (by decide) (Nat.le_of_ble_eq_true rfl) fun E cx eq hl hY => s_X1_pop_0 cx hY eq (Nat.le_refl _) (Nat.le_refl _) w
def w_X1_join_50 (Q : Int32 → Hp → Prop) (a0 : Int32) (a1 : Int32) (a2 : Int32) (s0 : Int32) (h : Hp) : Prop := Q (s0) (h)
def w_X1_join_49 (Q : Int32 → Hp → Prop) (a0 : Int32) (a1 : Int32) (a2 : Int32) (h : Hp) : Prop := w_X1_join_50  Q (a0) (a1) (a2) ((0 : Int32)) (h)
def w_X1_join_45 (Q : Int32 → Hp → Prop) (a0 : Int32) (a1 : Int32) (a2 : Int32) (h : Hp) : Prop := w_X1_join_50  Q (a0) (a1) (a2) ((1 : Int32)) (h)
def w_X1_join_40 (Q : Int32 → Hp → Prop) (a0 : Int32) (a1 : Int32) (a2 : Int32) (h : Hp) : Prop := ((a2) ≤ (a1) → w_X1_join_49  Q (a0) (a1) (a2) (h)) ∧ (¬ (a2) ≤ (a1) → w_X1_join_45  Q (a0) (a1) (a2) (h))
def w_X1_join_61 (Q : Int32 → Hp → Prop) (a0 : Int32) (a1 : Int32) (a2 : Int32) (s0 : Int32) (h : Hp) : Prop := Q (s0) (h)
def w_X1_join_60 (Q : Int32 → Hp → Prop) (a0 : Int32) (a1 : Int32) (a2 : Int32) (h : Hp) : Prop := w_X1_join_61  Q (a0) (a1) (a2) ((0 : Int32)) (h)
def w_X1_join_56 (Q : Int32 → Hp → Prop) (a0 : Int32) (a1 : Int32) (a2 : Int32) (h : Hp) : Prop := w_X1_join_61  Q (a0) (a1) (a2) ((1 : Int32)) (h)
def w_X1_join_51 (Q : Int32 → Hp → Prop) (a0 : Int32) (a1 : Int32) (a2 : Int32) (h : Hp) : Prop := (¬ (a1) = (a2) → w_X1_join_60  Q (a0) (a1) (a2) (h)) ∧ ((a1) = (a2) → w_X1_join_56  Q (a0) (a1) (a2) (h))
def w_X1_join_32 (Q : Int32 → Hp → Prop) (a0 : Int32) (a1 : Int32) (a2 : Int32) (h : Hp) : Prop := Q ((a1) + (a2)) (h)
def w_X1_join_36 (Q : Int32 → Hp → Prop) (a0 : Int32) (a1 : Int32) (a2 : Int32) (h : Hp) : Prop := Q ((a1) - (a2)) (h)
def w_X1_join_75 (Q : Int32 → Hp → Prop) (a0 : Int32) (a1 : Int32) (a2 : Int32) (s0 : Int32) (h : Hp) : Prop := Q (s0) (h)
def w_X1_join_74 (Q : Int32 → Hp → Prop) (a0 : Int32) (a1 : Int32) (a2 : Int32) (h : Hp) : Prop := w_X1_join_75  Q (a0) (a1) (a2) ((0 : Int32)) (h)
def w_X1_join_70 (Q : Int32 → Hp → Prop) (a0 : Int32) (a1 : Int32) (a2 : Int32) (h : Hp) : Prop := w_X1_join_75  Q (a0) (a1) (a2) ((1 : Int32)) (h)
def w_X1_join_66 (Q : Int32 → Hp → Prop) (a0 : Int32) (a1 : Int32) (a2 : Int32) (h : Hp) : Prop := ((a2) = 0 → w_X1_join_74  Q (a0) (a1) (a2) (h)) ∧ (¬ (a2) = 0 → w_X1_join_70  Q (a0) (a1) (a2) (h))
def w_X1_join_62 (Q : Int32 → Hp → Prop) (a0 : Int32) (a1 : Int32) (a2 : Int32) (h : Hp) : Prop := ((a1) = 0 → w_X1_join_74  Q (a0) (a1) (a2) (h)) ∧ (¬ (a1) = 0 → w_X1_join_66  Q (a0) (a1) (a2) (h))
def w_X1_join_0 (Q : Int32 → Hp → Prop) (a0 : Int32) (a1 : Int32) (a2 : Int32) (h : Hp) : Prop := ((a0).toInt < 8 ∨ 11 < (a0).toInt → w_X1_join_62  Q (a0) (a1) (a2) (h)) ∧ ((a0).toInt = 8 → w_X1_join_40  Q (a0) (a1) (a2) (h)) ∧ ((a0).toInt = 9 → w_X1_join_51  Q (a0) (a1) (a2) (h)) ∧ ((a0).toInt = 10 → w_X1_join_32  Q (a0) (a1) (a2) (h)) ∧ ((a0).toInt = 11 → w_X1_join_36  Q (a0) (a1) (a2) (h))
theorem s_X1_join_50 {E : EnvT} {d : Nat} (cx : CX E "ShoreDay$FeeText" cX1_join 3 (some .int) "join" (d + 1) 0 0) (hY : eY E = lay1) {Q : Int32 → Hp → Prop} (eq : EQ E 0 0 (fun r h2 => ∃ x, r = [vI x] ∧ Q x h2)) {a0 : Int32} {a1 : Int32} {a2 : Int32} {s0 : Int32} {h : Hp} {c n : Nat} (hc : c + 0 ≤ 0) (hn : n + 0 ≤ 0) (w : w_X1_join_50  Q a0 a1 a2 s0 h) : SW E 50 ([some (vI (a0)), some (vI (a1)), some (vI (a2))], [vI (s0)], h, c, n) := by
  exact k_X1_join_50 cx hY eq (by omega) (by omega) ⟨_, rfl, w⟩
theorem s_X1_join_49 {E : EnvT} {d : Nat} (cx : CX E "ShoreDay$FeeText" cX1_join 3 (some .int) "join" (d + 1) 0 0) (hY : eY E = lay1) {Q : Int32 → Hp → Prop} (eq : EQ E 0 0 (fun r h2 => ∃ x, r = [vI x] ∧ Q x h2)) {a0 : Int32} {a1 : Int32} {a2 : Int32} {h : Hp} {c n : Nat} (hc : c + 0 ≤ 0) (hn : n + 0 ≤ 0) (w : w_X1_join_49  Q a0 a1 a2 h) : SW E 49 ([some (vI (a0)), some (vI (a1)), some (vI (a2))], [], h, c, n) := by
  refine k_X1_join_49 cx hY ?_
  exact s_X1_join_50 cx hY eq  (by omega) (by omega) w
theorem s_X1_join_45 {E : EnvT} {d : Nat} (cx : CX E "ShoreDay$FeeText" cX1_join 3 (some .int) "join" (d + 1) 0 0) (hY : eY E = lay1) {Q : Int32 → Hp → Prop} (eq : EQ E 0 0 (fun r h2 => ∃ x, r = [vI x] ∧ Q x h2)) {a0 : Int32} {a1 : Int32} {a2 : Int32} {h : Hp} {c n : Nat} (hc : c + 0 ≤ 0) (hn : n + 0 ≤ 0) (w : w_X1_join_45  Q a0 a1 a2 h) : SW E 45 ([some (vI (a0)), some (vI (a1)), some (vI (a2))], [], h, c, n) := by
  refine k_X1_join_45 cx hY ?_
  exact s_X1_join_50 cx hY eq  (by omega) (by omega) w
theorem s_X1_join_40 {E : EnvT} {d : Nat} (cx : CX E "ShoreDay$FeeText" cX1_join 3 (some .int) "join" (d + 1) 0 0) (hY : eY E = lay1) {Q : Int32 → Hp → Prop} (eq : EQ E 0 0 (fun r h2 => ∃ x, r = [vI x] ∧ Q x h2)) {a0 : Int32} {a1 : Int32} {a2 : Int32} {h : Hp} {c n : Nat} (hc : c + 0 ≤ 0) (hn : n + 0 ≤ 0) (w : w_X1_join_40  Q a0 a1 a2 h) : SW E 40 ([some (vI (a0)), some (vI (a1)), some (vI (a2))], [], h, c, n) := by
  refine k_X1_join_40 cx hY (fun q => ?_) (fun q => ?_)
  · have w := w.1 q
    exact s_X1_join_49 cx hY eq  (by omega) (by omega) w
  · have w := w.2 q
    exact s_X1_join_45 cx hY eq  (by omega) (by omega) w
theorem s_X1_join_61 {E : EnvT} {d : Nat} (cx : CX E "ShoreDay$FeeText" cX1_join 3 (some .int) "join" (d + 1) 0 0) (hY : eY E = lay1) {Q : Int32 → Hp → Prop} (eq : EQ E 0 0 (fun r h2 => ∃ x, r = [vI x] ∧ Q x h2)) {a0 : Int32} {a1 : Int32} {a2 : Int32} {s0 : Int32} {h : Hp} {c n : Nat} (hc : c + 0 ≤ 0) (hn : n + 0 ≤ 0) (w : w_X1_join_61  Q a0 a1 a2 s0 h) : SW E 61 ([some (vI (a0)), some (vI (a1)), some (vI (a2))], [vI (s0)], h, c, n) := by
  exact k_X1_join_61 cx hY eq (by omega) (by omega) ⟨_, rfl, w⟩
theorem s_X1_join_60 {E : EnvT} {d : Nat} (cx : CX E "ShoreDay$FeeText" cX1_join 3 (some .int) "join" (d + 1) 0 0) (hY : eY E = lay1) {Q : Int32 → Hp → Prop} (eq : EQ E 0 0 (fun r h2 => ∃ x, r = [vI x] ∧ Q x h2)) {a0 : Int32} {a1 : Int32} {a2 : Int32} {h : Hp} {c n : Nat} (hc : c + 0 ≤ 0) (hn : n + 0 ≤ 0) (w : w_X1_join_60  Q a0 a1 a2 h) : SW E 60 ([some (vI (a0)), some (vI (a1)), some (vI (a2))], [], h, c, n) := by
  refine k_X1_join_60 cx hY ?_
  exact s_X1_join_61 cx hY eq  (by omega) (by omega) w
theorem s_X1_join_56 {E : EnvT} {d : Nat} (cx : CX E "ShoreDay$FeeText" cX1_join 3 (some .int) "join" (d + 1) 0 0) (hY : eY E = lay1) {Q : Int32 → Hp → Prop} (eq : EQ E 0 0 (fun r h2 => ∃ x, r = [vI x] ∧ Q x h2)) {a0 : Int32} {a1 : Int32} {a2 : Int32} {h : Hp} {c n : Nat} (hc : c + 0 ≤ 0) (hn : n + 0 ≤ 0) (w : w_X1_join_56  Q a0 a1 a2 h) : SW E 56 ([some (vI (a0)), some (vI (a1)), some (vI (a2))], [], h, c, n) := by
  refine k_X1_join_56 cx hY ?_
  exact s_X1_join_61 cx hY eq  (by omega) (by omega) w
theorem s_X1_join_51 {E : EnvT} {d : Nat} (cx : CX E "ShoreDay$FeeText" cX1_join 3 (some .int) "join" (d + 1) 0 0) (hY : eY E = lay1) {Q : Int32 → Hp → Prop} (eq : EQ E 0 0 (fun r h2 => ∃ x, r = [vI x] ∧ Q x h2)) {a0 : Int32} {a1 : Int32} {a2 : Int32} {h : Hp} {c n : Nat} (hc : c + 0 ≤ 0) (hn : n + 0 ≤ 0) (w : w_X1_join_51  Q a0 a1 a2 h) : SW E 51 ([some (vI (a0)), some (vI (a1)), some (vI (a2))], [], h, c, n) := by
  refine k_X1_join_51 cx hY (fun q => ?_) (fun q => ?_)
  · have w := w.1 q
    exact s_X1_join_60 cx hY eq  (by omega) (by omega) w
  · have w := w.2 q
    exact s_X1_join_56 cx hY eq  (by omega) (by omega) w
theorem s_X1_join_32 {E : EnvT} {d : Nat} (cx : CX E "ShoreDay$FeeText" cX1_join 3 (some .int) "join" (d + 1) 0 0) (hY : eY E = lay1) {Q : Int32 → Hp → Prop} (eq : EQ E 0 0 (fun r h2 => ∃ x, r = [vI x] ∧ Q x h2)) {a0 : Int32} {a1 : Int32} {a2 : Int32} {h : Hp} {c n : Nat} (hc : c + 0 ≤ 0) (hn : n + 0 ≤ 0) (w : w_X1_join_32  Q a0 a1 a2 h) : SW E 32 ([some (vI (a0)), some (vI (a1)), some (vI (a2))], [], h, c, n) := by
  exact k_X1_join_32 cx hY eq (by omega) (by omega) ⟨_, rfl, w⟩
theorem s_X1_join_36 {E : EnvT} {d : Nat} (cx : CX E "ShoreDay$FeeText" cX1_join 3 (some .int) "join" (d + 1) 0 0) (hY : eY E = lay1) {Q : Int32 → Hp → Prop} (eq : EQ E 0 0 (fun r h2 => ∃ x, r = [vI x] ∧ Q x h2)) {a0 : Int32} {a1 : Int32} {a2 : Int32} {h : Hp} {c n : Nat} (hc : c + 0 ≤ 0) (hn : n + 0 ≤ 0) (w : w_X1_join_36  Q a0 a1 a2 h) : SW E 36 ([some (vI (a0)), some (vI (a1)), some (vI (a2))], [], h, c, n) := by
  exact k_X1_join_36 cx hY eq (by omega) (by omega) ⟨_, rfl, w⟩
theorem s_X1_join_75 {E : EnvT} {d : Nat} (cx : CX E "ShoreDay$FeeText" cX1_join 3 (some .int) "join" (d + 1) 0 0) (hY : eY E = lay1) {Q : Int32 → Hp → Prop} (eq : EQ E 0 0 (fun r h2 => ∃ x, r = [vI x] ∧ Q x h2)) {a0 : Int32} {a1 : Int32} {a2 : Int32} {s0 : Int32} {h : Hp} {c n : Nat} (hc : c + 0 ≤ 0) (hn : n + 0 ≤ 0) (w : w_X1_join_75  Q a0 a1 a2 s0 h) : SW E 75 ([some (vI (a0)), some (vI (a1)), some (vI (a2))], [vI (s0)], h, c, n) := by
  exact k_X1_join_75 cx hY eq (by omega) (by omega) ⟨_, rfl, w⟩
theorem s_X1_join_74 {E : EnvT} {d : Nat} (cx : CX E "ShoreDay$FeeText" cX1_join 3 (some .int) "join" (d + 1) 0 0) (hY : eY E = lay1) {Q : Int32 → Hp → Prop} (eq : EQ E 0 0 (fun r h2 => ∃ x, r = [vI x] ∧ Q x h2)) {a0 : Int32} {a1 : Int32} {a2 : Int32} {h : Hp} {c n : Nat} (hc : c + 0 ≤ 0) (hn : n + 0 ≤ 0) (w : w_X1_join_74  Q a0 a1 a2 h) : SW E 74 ([some (vI (a0)), some (vI (a1)), some (vI (a2))], [], h, c, n) := by
  refine k_X1_join_74 cx hY ?_
  exact s_X1_join_75 cx hY eq  (by omega) (by omega) w
theorem s_X1_join_70 {E : EnvT} {d : Nat} (cx : CX E "ShoreDay$FeeText" cX1_join 3 (some .int) "join" (d + 1) 0 0) (hY : eY E = lay1) {Q : Int32 → Hp → Prop} (eq : EQ E 0 0 (fun r h2 => ∃ x, r = [vI x] ∧ Q x h2)) {a0 : Int32} {a1 : Int32} {a2 : Int32} {h : Hp} {c n : Nat} (hc : c + 0 ≤ 0) (hn : n + 0 ≤ 0) (w : w_X1_join_70  Q a0 a1 a2 h) : SW E 70 ([some (vI (a0)), some (vI (a1)), some (vI (a2))], [], h, c, n) := by
  refine k_X1_join_70 cx hY ?_
  exact s_X1_join_75 cx hY eq  (by omega) (by omega) w
theorem s_X1_join_66 {E : EnvT} {d : Nat} (cx : CX E "ShoreDay$FeeText" cX1_join 3 (some .int) "join" (d + 1) 0 0) (hY : eY E = lay1) {Q : Int32 → Hp → Prop} (eq : EQ E 0 0 (fun r h2 => ∃ x, r = [vI x] ∧ Q x h2)) {a0 : Int32} {a1 : Int32} {a2 : Int32} {h : Hp} {c n : Nat} (hc : c + 0 ≤ 0) (hn : n + 0 ≤ 0) (w : w_X1_join_66  Q a0 a1 a2 h) : SW E 66 ([some (vI (a0)), some (vI (a1)), some (vI (a2))], [], h, c, n) := by
  refine k_X1_join_66 cx hY (fun q => ?_) (fun q => ?_)
  · have w := w.1 q
    exact s_X1_join_74 cx hY eq  (by omega) (by omega) w
  · have w := w.2 q
    exact s_X1_join_70 cx hY eq  (by omega) (by omega) w
theorem s_X1_join_62 {E : EnvT} {d : Nat} (cx : CX E "ShoreDay$FeeText" cX1_join 3 (some .int) "join" (d + 1) 0 0) (hY : eY E = lay1) {Q : Int32 → Hp → Prop} (eq : EQ E 0 0 (fun r h2 => ∃ x, r = [vI x] ∧ Q x h2)) {a0 : Int32} {a1 : Int32} {a2 : Int32} {h : Hp} {c n : Nat} (hc : c + 0 ≤ 0) (hn : n + 0 ≤ 0) (w : w_X1_join_62  Q a0 a1 a2 h) : SW E 62 ([some (vI (a0)), some (vI (a1)), some (vI (a2))], [], h, c, n) := by
  refine k_X1_join_62 cx hY (fun q => ?_) (fun q => ?_)
  · have w := w.1 q
    exact s_X1_join_74 cx hY eq  (by omega) (by omega) w
  · have w := w.2 q
    exact s_X1_join_66 cx hY eq  (by omega) (by omega) w
theorem s_X1_join_0 {E : EnvT} {d : Nat} (cx : CX E "ShoreDay$FeeText" cX1_join 3 (some .int) "join" (d + 1) 0 0) (hY : eY E = lay1) {Q : Int32 → Hp → Prop} (eq : EQ E 0 0 (fun r h2 => ∃ x, r = [vI x] ∧ Q x h2)) {a0 : Int32} {a1 : Int32} {a2 : Int32} {h : Hp} {c n : Nat} (hc : c + 0 ≤ 0) (hn : n + 0 ≤ 0) (w : w_X1_join_0  Q a0 a1 a2 h) : SW E 0 ([some (vI (a0)), some (vI (a1)), some (vI (a2))], [], h, c, n) := by
  refine k_X1_join_0 cx hY (fun q => ?_) (fun j t hj q => ?_)
  · have w := w.1 q
    exact s_X1_join_62 cx hY eq  (by omega) (by omega) w
  · match j, hj, q with
    | 0, hj, q =>
      cases hj
      have w := w.2.1 (by omega)
      exact s_X1_join_40 cx hY eq  (by omega) (by omega) w
    | 1, hj, q =>
      cases hj
      have w := w.2.2.1 (by omega)
      exact s_X1_join_51 cx hY eq  (by omega) (by omega) w
    | 2, hj, q =>
      cases hj
      have w := w.2.2.2.1 (by omega)
      exact s_X1_join_32 cx hY eq  (by omega) (by omega) w
    | 3, hj, q =>
      cases hj
      have w := w.2.2.2.2 (by omega)
      exact s_X1_join_36 cx hY eq  (by omega) (by omega) w
    | j + 4, hj, _ => simp at hj
def wp_X1_join (a0 : Int32) (a1 : Int32) (a2 : Int32) (h : Hp) (Q : Int32 → Hp → Prop) : Prop := w_X1_join_0 Q a0 a1 a2 h
theorem vc_X1_join {l : Launch} {d : Nat} {a0 : Int32} {a1 : Int32} {a2 : Int32} {h : Hp} {Q : Int32 → Hp → Prop} (w : wp_X1_join a0 a1 a2 h Q) : Ct l lay1 yX1_join cX1_join 3 (some .int) (d + 1) 0 0 [vI a0, vI a1, vI a2] h (fun r h2 => ∃ x, r = [vI x] ∧ Q x h2) := by
  exact Ct.of (by decide) (Nat.le_of_ble_eq_true rfl) fun E cx eq hl hY => s_X1_join_0 cx hY eq (Nat.le_refl _) (Nat.le_refl _) w
def w_X2_init_34 (Q : Hp → Prop) (i0 : Nat) (p1 : Option PtrT) (a2 : Int32) (a3 : Int32) (a4 : Int32) (p5 : Option PtrT) (a6 : Int32) (h : Hp) : Prop := nlw 2 (p5) ∧ (Q (wI (wP (wI (wI (wI (h) 2 (i0) 1 (a2)) 2 (i0) 2 (a3)) 2 (i0) 3 (a4)) 2 (i0) 4 (p5)) 2 (i0) 5 (a6)))
def w_X2_init_0 (Q : Hp → Prop) (i0 : Nat) (p1 : Option PtrT) (a2 : Int32) (a3 : Int32) (a4 : Int32) (p5 : Option PtrT) (a6 : Int32) (h : Hp) : Prop := nlw 2 (p1) ∧ (w_X2_init_34  Q (i0) (p1) (a2) (a3) (a4) (p5) (a6) (wP (wI (wI (wI (wI (wI (h) 2 (i0) 6 ((0 : Int32))) 2 (i0) 8 ((-1 : Int32))) 2 (i0) 10 ((-1 : Int32))) 2 (i0) 12 ((-1 : Int32))) 2 (i0) 13 ((-1 : Int32))) 2 (i0) 0 (p1)))
theorem s_X2_init_34 {E : EnvT} {d : Nat} (cx : CX E "ShoreDay$Group" cX2_init 7 none "<init>" (d + 1) 0 0) (hY : eY E = lay1) {Q : Hp → Prop} (eq : EQ E 0 0 (fun r h2 => r = [] ∧ Q h2)) {i0 : Nat} {p1 : Option PtrT} {a2 : Int32} {a3 : Int32} {a4 : Int32} {p5 : Option PtrT} {a6 : Int32} {h : Hp} {c n : Nat} (hc : c + 0 ≤ 0) (hn : n + 0 ≤ 0) (w : w_X2_init_34  Q i0 p1 a2 a3 a4 p5 a6 h) : SW E 34 ([some (vP (some (2, i0))), some (vP (p1)), some (vI (a2)), some (vI (a3)), some (vI (a4)), some (vP (p5)), some (vI (a6))], [], h, c, n) := by
  obtain ⟨G1, w⟩ := w
  exact k_X2_init_34 cx hY G1 eq (by omega) (by omega) ⟨rfl, w⟩
theorem s_X2_init_0 {E : EnvT} {d : Nat} (cx : CX E "ShoreDay$Group" cX2_init 7 none "<init>" (d + 1) 0 0) (hY : eY E = lay1) {Q : Hp → Prop} (eq : EQ E 0 0 (fun r h2 => r = [] ∧ Q h2)) {i0 : Nat} {p1 : Option PtrT} {a2 : Int32} {a3 : Int32} {a4 : Int32} {p5 : Option PtrT} {a6 : Int32} {h : Hp} {c n : Nat} (hc : c + 0 ≤ 0) (hn : n + 0 ≤ 0) (w : w_X2_init_0  Q i0 p1 a2 a3 a4 p5 a6 h) : SW E 0 ([some (vP (some (2, i0))), some (vP (p1)), some (vI (a2)), some (vI (a3)), some (vI (a4)), some (vP (p5)), some (vI (a6))], [], h, c, n) := by
  obtain ⟨G1, w⟩ := w
  refine k_X2_init_0 cx hY G1 ?_
  exact s_X2_init_34 cx hY eq  (by omega) (by omega) w
def wp_X2_init (i0 : Nat) (p1 : Option PtrT) (a2 : Int32) (a3 : Int32) (a4 : Int32) (p5 : Option PtrT) (a6 : Int32) (h : Hp) (Q : Hp → Prop) : Prop := w_X2_init_0 Q i0 p1 a2 a3 a4 p5 a6 h
theorem vc_X2_init {l : Launch} {d : Nat} {i0 : Nat} {p1 : Option PtrT} {a2 : Int32} {a3 : Int32} {a4 : Int32} {p5 : Option PtrT} {a6 : Int32} {h : Hp} {Q : Hp → Prop} (w : wp_X2_init i0 p1 a2 a3 a4 p5 a6 h Q) : Ct l lay1 yX2_init cX2_init 7 none (d + 1) 0 0 [vP (some (2, i0)), vP p1, vI a2, vI a3, vI a4, vP p5, vI a6] h (fun r h2 => r = [] ∧ Q h2) := by
  exact Ct.of (by decide) (Nat.le_of_ble_eq_true rfl) fun E cx eq hl hY => s_X2_init_0 cx hY eq (Nat.le_refl _) (Nat.le_refl _) w
def w_X2_waitsAboard_20 (Q : Int32 → Hp → Prop) (i0 : Nat) (a1 : Int32) (s0 : Int32) (h : Hp) : Prop := ((s0) = 0 ∨ (s0) = 1) ∧ Q (s0) (h)
def w_X2_waitsAboard_19 (Q : Int32 → Hp → Prop) (i0 : Nat) (a1 : Int32) (h : Hp) : Prop := w_X2_waitsAboard_20  Q (i0) (a1) ((0 : Int32)) (h)
def w_X2_waitsAboard_15 (Q : Int32 → Hp → Prop) (i0 : Nat) (a1 : Int32) (h : Hp) : Prop := w_X2_waitsAboard_20  Q (i0) (a1) ((1 : Int32)) (h)
def w_X2_waitsAboard_7 (Q : Int32 → Hp → Prop) (i0 : Nat) (a1 : Int32) (h : Hp) : Prop := ((a1) < (gI (h) 2 (i0) (3)) → w_X2_waitsAboard_19  Q (i0) (a1) (h)) ∧ (¬ (a1) < (gI (h) 2 (i0) (3)) → w_X2_waitsAboard_15  Q (i0) (a1) (h))
def w_X2_waitsAboard_0 (Q : Int32 → Hp → Prop) (i0 : Nat) (a1 : Int32) (h : Hp) : Prop := (¬ (gI (h) 2 (i0) (6)) = 0 → w_X2_waitsAboard_19  Q (i0) (a1) (h)) ∧ ((gI (h) 2 (i0) (6)) = 0 → w_X2_waitsAboard_7  Q (i0) (a1) (h))
theorem s_X2_waitsAboard_20 {E : EnvT} {d : Nat} (cx : CX E "ShoreDay$Group" cX2_waitsAboard 2 (some .boolean) "waitsAboard" (d + 1) 0 0) (hY : eY E = lay1) {Q : Int32 → Hp → Prop} (eq : EQ E 0 0 (fun r h2 => ∃ x, r = [vI x] ∧ Q x h2)) {i0 : Nat} {a1 : Int32} {s0 : Int32} {h : Hp} {c n : Nat} (hc : c + 0 ≤ 0) (hn : n + 0 ≤ 0) (w : w_X2_waitsAboard_20  Q i0 a1 s0 h) : SW E 20 ([some (vP (some (2, i0))), some (vI (a1))], [vI (s0)], h, c, n) := by
  exact k_X2_waitsAboard_20 cx hY eq (by omega) (by omega) w.1 ⟨_, rfl, w.2⟩
theorem s_X2_waitsAboard_19 {E : EnvT} {d : Nat} (cx : CX E "ShoreDay$Group" cX2_waitsAboard 2 (some .boolean) "waitsAboard" (d + 1) 0 0) (hY : eY E = lay1) {Q : Int32 → Hp → Prop} (eq : EQ E 0 0 (fun r h2 => ∃ x, r = [vI x] ∧ Q x h2)) {i0 : Nat} {a1 : Int32} {h : Hp} {c n : Nat} (hc : c + 0 ≤ 0) (hn : n + 0 ≤ 0) (w : w_X2_waitsAboard_19  Q i0 a1 h) : SW E 19 ([some (vP (some (2, i0))), some (vI (a1))], [], h, c, n) := by
  refine k_X2_waitsAboard_19 cx hY ?_
  exact s_X2_waitsAboard_20 cx hY eq  (by omega) (by omega) w
theorem s_X2_waitsAboard_15 {E : EnvT} {d : Nat} (cx : CX E "ShoreDay$Group" cX2_waitsAboard 2 (some .boolean) "waitsAboard" (d + 1) 0 0) (hY : eY E = lay1) {Q : Int32 → Hp → Prop} (eq : EQ E 0 0 (fun r h2 => ∃ x, r = [vI x] ∧ Q x h2)) {i0 : Nat} {a1 : Int32} {h : Hp} {c n : Nat} (hc : c + 0 ≤ 0) (hn : n + 0 ≤ 0) (w : w_X2_waitsAboard_15  Q i0 a1 h) : SW E 15 ([some (vP (some (2, i0))), some (vI (a1))], [], h, c, n) := by
  refine k_X2_waitsAboard_15 cx hY ?_
  exact s_X2_waitsAboard_20 cx hY eq  (by omega) (by omega) w
theorem s_X2_waitsAboard_7 {E : EnvT} {d : Nat} (cx : CX E "ShoreDay$Group" cX2_waitsAboard 2 (some .boolean) "waitsAboard" (d + 1) 0 0) (hY : eY E = lay1) {Q : Int32 → Hp → Prop} (eq : EQ E 0 0 (fun r h2 => ∃ x, r = [vI x] ∧ Q x h2)) {i0 : Nat} {a1 : Int32} {h : Hp} {c n : Nat} (hc : c + 0 ≤ 0) (hn : n + 0 ≤ 0) (w : w_X2_waitsAboard_7  Q i0 a1 h) : SW E 7 ([some (vP (some (2, i0))), some (vI (a1))], [], h, c, n) := by
  refine k_X2_waitsAboard_7 cx hY (fun q => ?_) (fun q => ?_)
  · have w := w.1 q
    exact s_X2_waitsAboard_19 cx hY eq  (by omega) (by omega) w
  · have w := w.2 q
    exact s_X2_waitsAboard_15 cx hY eq  (by omega) (by omega) w
theorem s_X2_waitsAboard_0 {E : EnvT} {d : Nat} (cx : CX E "ShoreDay$Group" cX2_waitsAboard 2 (some .boolean) "waitsAboard" (d + 1) 0 0) (hY : eY E = lay1) {Q : Int32 → Hp → Prop} (eq : EQ E 0 0 (fun r h2 => ∃ x, r = [vI x] ∧ Q x h2)) {i0 : Nat} {a1 : Int32} {h : Hp} {c n : Nat} (hc : c + 0 ≤ 0) (hn : n + 0 ≤ 0) (w : w_X2_waitsAboard_0  Q i0 a1 h) : SW E 0 ([some (vP (some (2, i0))), some (vI (a1))], [], h, c, n) := by
  refine k_X2_waitsAboard_0 cx hY (fun q => ?_) (fun q => ?_)
  · have w := w.1 q
    exact s_X2_waitsAboard_19 cx hY eq  (by omega) (by omega) w
  · have w := w.2 q
    exact s_X2_waitsAboard_7 cx hY eq  (by omega) (by omega) w
def wp_X2_waitsAboard (i0 : Nat) (a1 : Int32) (h : Hp) (Q : Int32 → Hp → Prop) : Prop := w_X2_waitsAboard_0 Q i0 a1 h
theorem vc_X2_waitsAboard {l : Launch} {d : Nat} {i0 : Nat} {a1 : Int32} {h : Hp} {Q : Int32 → Hp → Prop} (w : wp_X2_waitsAboard i0 a1 h Q) : Ct l lay1 yX2_waitsAboard cX2_waitsAboard 2 (some .boolean) (d + 1) 0 0 [vP (some (2, i0)), vI a1] h (fun r h2 => ∃ x, r = [vI x] ∧ Q x h2) := by
  exact Ct.of (by decide) (Nat.le_of_ble_eq_true rfl) fun E cx eq hl hY => s_X2_waitsAboard_0 cx hY eq (Nat.le_refl _) (Nat.le_refl _) w
def w_X2_isOverIn_61 (Q : Int32 → Hp → Prop) (i0 : Nat) (a1 : Int32) (s0 : Int32) (h : Hp) : Prop := ((s0) = 0 ∨ (s0) = 1) ∧ Q (s0) (h)
def w_X2_isOverIn_60 (Q : Int32 → Hp → Prop) (i0 : Nat) (a1 : Int32) (h : Hp) : Prop := w_X2_isOverIn_61  Q (i0) (a1) ((0 : Int32)) (h)
def w_X2_isOverIn_56 (Q : Int32 → Hp → Prop) (i0 : Nat) (a1 : Int32) (h : Hp) : Prop := w_X2_isOverIn_61  Q (i0) (a1) ((1 : Int32)) (h)
def w_X2_isOverIn_48 (Q : Int32 → Hp → Prop) (i0 : Nat) (a1 : Int32) (h : Hp) : Prop := (¬ (gI (h) 2 (i0) (13)) = (a1) → w_X2_isOverIn_60  Q (i0) (a1) (h)) ∧ ((gI (h) 2 (i0) (13)) = (a1) → w_X2_isOverIn_56  Q (i0) (a1) (h))
def w_X2_isOverIn_40 (Q : Int32 → Hp → Prop) (i0 : Nat) (a1 : Int32) (h : Hp) : Prop := (¬ (gI (h) 2 (i0) (6)) = ((2 : Int32)) → w_X2_isOverIn_60  Q (i0) (a1) (h)) ∧ ((gI (h) 2 (i0) (6)) = ((2 : Int32)) → w_X2_isOverIn_48  Q (i0) (a1) (h))
def w_X2_isOverIn_39 (Q : Int32 → Hp → Prop) (i0 : Nat) (a1 : Int32) (s0 : Int32) (h : Hp) : Prop := ((s0) = 0 ∨ (s0) = 1) ∧ Q (s0) (h)
def w_X2_isOverIn_38 (Q : Int32 → Hp → Prop) (i0 : Nat) (a1 : Int32) (h : Hp) : Prop := w_X2_isOverIn_39  Q (i0) (a1) ((0 : Int32)) (h)
def w_X2_isOverIn_34 (Q : Int32 → Hp → Prop) (i0 : Nat) (a1 : Int32) (h : Hp) : Prop := w_X2_isOverIn_39  Q (i0) (a1) ((1 : Int32)) (h)
def w_X2_isOverIn_15 (Q : Int32 → Hp → Prop) (i0 : Nat) (a1 : Int32) (h : Hp) : Prop := ∃ g1, gP (h) 2 (i0) 4 = some (10, g1) ∧ ((¬ ((gI (h) 10 (g1) (0)) + (gI (h) 10 (g1) (1))) = (a1) → w_X2_isOverIn_38  Q (i0) (a1) (h)) ∧ (((gI (h) 10 (g1) (0)) + (gI (h) 10 (g1) (1))) = (a1) → w_X2_isOverIn_34  Q (i0) (a1) (h)))
def w_X2_isOverIn_8 (Q : Int32 → Hp → Prop) (i0 : Nat) (a1 : Int32) (h : Hp) : Prop := ((gP (h) 2 (i0) 4) = none → w_X2_isOverIn_40  Q (i0) (a1) (h)) ∧ (¬ (gP (h) 2 (i0) 4) = none → w_X2_isOverIn_15  Q (i0) (a1) (h))
def w_X2_isOverIn_0 (Q : Int32 → Hp → Prop) (i0 : Nat) (a1 : Int32) (h : Hp) : Prop := (¬ (gI (h) 2 (i0) (6)) = ((3 : Int32)) → w_X2_isOverIn_40  Q (i0) (a1) (h)) ∧ ((gI (h) 2 (i0) (6)) = ((3 : Int32)) → w_X2_isOverIn_8  Q (i0) (a1) (h))
theorem s_X2_isOverIn_61 {E : EnvT} {d : Nat} (cx : CX E "ShoreDay$Group" cX2_isOverIn 2 (some .boolean) "isOverIn" (d + 1) 0 0) (hY : eY E = lay1) {Q : Int32 → Hp → Prop} (eq : EQ E 0 0 (fun r h2 => ∃ x, r = [vI x] ∧ Q x h2)) {i0 : Nat} {a1 : Int32} {s0 : Int32} {h : Hp} {c n : Nat} (hc : c + 0 ≤ 0) (hn : n + 0 ≤ 0) (w : w_X2_isOverIn_61  Q i0 a1 s0 h) : SW E 61 ([some (vP (some (2, i0))), some (vI (a1))], [vI (s0)], h, c, n) := by
  exact k_X2_isOverIn_61 cx hY eq (by omega) (by omega) w.1 ⟨_, rfl, w.2⟩
theorem s_X2_isOverIn_60 {E : EnvT} {d : Nat} (cx : CX E "ShoreDay$Group" cX2_isOverIn 2 (some .boolean) "isOverIn" (d + 1) 0 0) (hY : eY E = lay1) {Q : Int32 → Hp → Prop} (eq : EQ E 0 0 (fun r h2 => ∃ x, r = [vI x] ∧ Q x h2)) {i0 : Nat} {a1 : Int32} {h : Hp} {c n : Nat} (hc : c + 0 ≤ 0) (hn : n + 0 ≤ 0) (w : w_X2_isOverIn_60  Q i0 a1 h) : SW E 60 ([some (vP (some (2, i0))), some (vI (a1))], [], h, c, n) := by
  refine k_X2_isOverIn_60 cx hY ?_
  exact s_X2_isOverIn_61 cx hY eq  (by omega) (by omega) w
theorem s_X2_isOverIn_56 {E : EnvT} {d : Nat} (cx : CX E "ShoreDay$Group" cX2_isOverIn 2 (some .boolean) "isOverIn" (d + 1) 0 0) (hY : eY E = lay1) {Q : Int32 → Hp → Prop} (eq : EQ E 0 0 (fun r h2 => ∃ x, r = [vI x] ∧ Q x h2)) {i0 : Nat} {a1 : Int32} {h : Hp} {c n : Nat} (hc : c + 0 ≤ 0) (hn : n + 0 ≤ 0) (w : w_X2_isOverIn_56  Q i0 a1 h) : SW E 56 ([some (vP (some (2, i0))), some (vI (a1))], [], h, c, n) := by
  refine k_X2_isOverIn_56 cx hY ?_
  exact s_X2_isOverIn_61 cx hY eq  (by omega) (by omega) w
theorem s_X2_isOverIn_48 {E : EnvT} {d : Nat} (cx : CX E "ShoreDay$Group" cX2_isOverIn 2 (some .boolean) "isOverIn" (d + 1) 0 0) (hY : eY E = lay1) {Q : Int32 → Hp → Prop} (eq : EQ E 0 0 (fun r h2 => ∃ x, r = [vI x] ∧ Q x h2)) {i0 : Nat} {a1 : Int32} {h : Hp} {c n : Nat} (hc : c + 0 ≤ 0) (hn : n + 0 ≤ 0) (w : w_X2_isOverIn_48  Q i0 a1 h) : SW E 48 ([some (vP (some (2, i0))), some (vI (a1))], [], h, c, n) := by
  refine k_X2_isOverIn_48 cx hY (fun q => ?_) (fun q => ?_)
  · have w := w.1 q
    exact s_X2_isOverIn_60 cx hY eq  (by omega) (by omega) w
  · have w := w.2 q
    exact s_X2_isOverIn_56 cx hY eq  (by omega) (by omega) w
theorem s_X2_isOverIn_40 {E : EnvT} {d : Nat} (cx : CX E "ShoreDay$Group" cX2_isOverIn 2 (some .boolean) "isOverIn" (d + 1) 0 0) (hY : eY E = lay1) {Q : Int32 → Hp → Prop} (eq : EQ E 0 0 (fun r h2 => ∃ x, r = [vI x] ∧ Q x h2)) {i0 : Nat} {a1 : Int32} {h : Hp} {c n : Nat} (hc : c + 0 ≤ 0) (hn : n + 0 ≤ 0) (w : w_X2_isOverIn_40  Q i0 a1 h) : SW E 40 ([some (vP (some (2, i0))), some (vI (a1))], [], h, c, n) := by
  refine k_X2_isOverIn_40 cx hY (fun q => ?_) (fun q => ?_)
  · have w := w.1 q
    exact s_X2_isOverIn_60 cx hY eq  (by omega) (by omega) w
  · have w := w.2 q
    exact s_X2_isOverIn_48 cx hY eq  (by omega) (by omega) w
theorem s_X2_isOverIn_39 {E : EnvT} {d : Nat} (cx : CX E "ShoreDay$Group" cX2_isOverIn 2 (some .boolean) "isOverIn" (d + 1) 0 0) (hY : eY E = lay1) {Q : Int32 → Hp → Prop} (eq : EQ E 0 0 (fun r h2 => ∃ x, r = [vI x] ∧ Q x h2)) {i0 : Nat} {a1 : Int32} {s0 : Int32} {h : Hp} {c n : Nat} (hc : c + 0 ≤ 0) (hn : n + 0 ≤ 0) (w : w_X2_isOverIn_39  Q i0 a1 s0 h) : SW E 39 ([some (vP (some (2, i0))), some (vI (a1))], [vI (s0)], h, c, n) := by
  exact k_X2_isOverIn_39 cx hY eq (by omega) (by omega) w.1 ⟨_, rfl, w.2⟩
theorem s_X2_isOverIn_38 {E : EnvT} {d : Nat} (cx : CX E "ShoreDay$Group" cX2_isOverIn 2 (some .boolean) "isOverIn" (d + 1) 0 0) (hY : eY E = lay1) {Q : Int32 → Hp → Prop} (eq : EQ E 0 0 (fun r h2 => ∃ x, r = [vI x] ∧ Q x h2)) {i0 : Nat} {a1 : Int32} {h : Hp} {c n : Nat} (hc : c + 0 ≤ 0) (hn : n + 0 ≤ 0) (w : w_X2_isOverIn_38  Q i0 a1 h) : SW E 38 ([some (vP (some (2, i0))), some (vI (a1))], [], h, c, n) := by
  refine k_X2_isOverIn_38 cx hY ?_
  exact s_X2_isOverIn_39 cx hY eq  (by omega) (by omega) w
theorem s_X2_isOverIn_34 {E : EnvT} {d : Nat} (cx : CX E "ShoreDay$Group" cX2_isOverIn 2 (some .boolean) "isOverIn" (d + 1) 0 0) (hY : eY E = lay1) {Q : Int32 → Hp → Prop} (eq : EQ E 0 0 (fun r h2 => ∃ x, r = [vI x] ∧ Q x h2)) {i0 : Nat} {a1 : Int32} {h : Hp} {c n : Nat} (hc : c + 0 ≤ 0) (hn : n + 0 ≤ 0) (w : w_X2_isOverIn_34  Q i0 a1 h) : SW E 34 ([some (vP (some (2, i0))), some (vI (a1))], [], h, c, n) := by
  refine k_X2_isOverIn_34 cx hY ?_
  exact s_X2_isOverIn_39 cx hY eq  (by omega) (by omega) w
theorem s_X2_isOverIn_15 {E : EnvT} {d : Nat} (cx : CX E "ShoreDay$Group" cX2_isOverIn 2 (some .boolean) "isOverIn" (d + 1) 0 0) (hY : eY E = lay1) {Q : Int32 → Hp → Prop} (eq : EQ E 0 0 (fun r h2 => ∃ x, r = [vI x] ∧ Q x h2)) {i0 : Nat} {a1 : Int32} {h : Hp} {c n : Nat} (hc : c + 0 ≤ 0) (hn : n + 0 ≤ 0) (w : w_X2_isOverIn_15  Q i0 a1 h) : SW E 15 ([some (vP (some (2, i0))), some (vI (a1))], [], h, c, n) := by
  obtain ⟨g1, e1, w⟩ := w
  refine k_X2_isOverIn_15 cx hY e1 (fun q => ?_) (fun q => ?_)
  · have w := w.1 q
    exact s_X2_isOverIn_38 cx hY eq  (by omega) (by omega) w
  · have w := w.2 q
    exact s_X2_isOverIn_34 cx hY eq  (by omega) (by omega) w
theorem s_X2_isOverIn_8 {E : EnvT} {d : Nat} (cx : CX E "ShoreDay$Group" cX2_isOverIn 2 (some .boolean) "isOverIn" (d + 1) 0 0) (hY : eY E = lay1) {Q : Int32 → Hp → Prop} (eq : EQ E 0 0 (fun r h2 => ∃ x, r = [vI x] ∧ Q x h2)) {i0 : Nat} {a1 : Int32} {h : Hp} {c n : Nat} (hc : c + 0 ≤ 0) (hn : n + 0 ≤ 0) (w : w_X2_isOverIn_8  Q i0 a1 h) : SW E 8 ([some (vP (some (2, i0))), some (vI (a1))], [], h, c, n) := by
  refine k_X2_isOverIn_8 cx hY (fun q => ?_) (fun q => ?_)
  · have w := w.1 q
    exact s_X2_isOverIn_40 cx hY eq  (by omega) (by omega) w
  · have w := w.2 q
    exact s_X2_isOverIn_15 cx hY eq  (by omega) (by omega) w
theorem s_X2_isOverIn_0 {E : EnvT} {d : Nat} (cx : CX E "ShoreDay$Group" cX2_isOverIn 2 (some .boolean) "isOverIn" (d + 1) 0 0) (hY : eY E = lay1) {Q : Int32 → Hp → Prop} (eq : EQ E 0 0 (fun r h2 => ∃ x, r = [vI x] ∧ Q x h2)) {i0 : Nat} {a1 : Int32} {h : Hp} {c n : Nat} (hc : c + 0 ≤ 0) (hn : n + 0 ≤ 0) (w : w_X2_isOverIn_0  Q i0 a1 h) : SW E 0 ([some (vP (some (2, i0))), some (vI (a1))], [], h, c, n) := by
  refine k_X2_isOverIn_0 cx hY (fun q => ?_) (fun q => ?_)
  · have w := w.1 q
    exact s_X2_isOverIn_40 cx hY eq  (by omega) (by omega) w
  · have w := w.2 q
    exact s_X2_isOverIn_8 cx hY eq  (by omega) (by omega) w
def wp_X2_isOverIn (i0 : Nat) (a1 : Int32) (h : Hp) (Q : Int32 → Hp → Prop) : Prop := w_X2_isOverIn_0 Q i0 a1 h
theorem vc_X2_isOverIn {l : Launch} {d : Nat} {i0 : Nat} {a1 : Int32} {h : Hp} {Q : Int32 → Hp → Prop} (w : wp_X2_isOverIn i0 a1 h Q) : Ct l lay1 yX2_isOverIn cX2_isOverIn 2 (some .boolean) (d + 1) 0 0 [vP (some (2, i0)), vI a1] h (fun r h2 => ∃ x, r = [vI x] ∧ Q x h2) := by
  exact Ct.of (by decide) (Nat.le_of_ble_eq_true rfl) fun E cx eq hl hY => s_X2_isOverIn_0 cx hY eq (Nat.le_refl _) (Nat.le_refl _) w
def w_X2_valueOf_36 (Q : Int32 → Hp → Prop) (i0 : Nat) (a1 : Int32) (h : Hp) : Prop := Q (gI (h) 2 (i0) (1)) (h)
def w_X2_valueOf_53 (Q : Int32 → Hp → Prop) (i0 : Nat) (a1 : Int32) (s0 : Int32) (h : Hp) : Prop := Q (s0) (h)
def w_X2_valueOf_52 (Q : Int32 → Hp → Prop) (i0 : Nat) (a1 : Int32) (h : Hp) : Prop := w_X2_valueOf_53  Q (i0) (a1) ((1 : Int32)) (h)
def w_X2_valueOf_48 (Q : Int32 → Hp → Prop) (i0 : Nat) (a1 : Int32) (h : Hp) : Prop := w_X2_valueOf_53  Q (i0) (a1) ((0 : Int32)) (h)
def w_X2_valueOf_41 (Q : Int32 → Hp → Prop) (i0 : Nat) (a1 : Int32) (h : Hp) : Prop := (¬ (gP (h) 2 (i0) 4) = none → w_X2_valueOf_52  Q (i0) (a1) (h)) ∧ ((gP (h) 2 (i0) 4) = none → w_X2_valueOf_48  Q (i0) (a1) (h))
def w_X2_valueOf_54 (Q : Int32 → Hp → Prop) (i0 : Nat) (a1 : Int32) (h : Hp) : Prop := Q ((gI (h) 2 (i0) (8)) / ((60 : Int32))) (h)
def w_X2_valueOf_62 (Q : Int32 → Hp → Prop) (i0 : Nat) (a1 : Int32) (h : Hp) : Prop := ∃ g1, gP (h) 2 (i0) 0 = some (6, g1) ∧ (Q (gI (h) 6 (g1) (3)) (h))
def w_X2_valueOf_70 (Q : Int32 → Hp → Prop) (i0 : Nat) (a1 : Int32) (h : Hp) : Prop := ∃ g1, gP (h) 2 (i0) 0 = some (6, g1) ∧ (Q (gI (h) 6 (g1) (0)) (h))
def w_X2_valueOf_78 (Q : Int32 → Hp → Prop) (i0 : Nat) (a1 : Int32) (h : Hp) : Prop := Q (gI (h) 2 (i0) (9)) (h)
def w_X2_valueOf_0 (Q : Int32 → Hp → Prop) (i0 : Nat) (a1 : Int32) (h : Hp) : Prop := ((a1).toInt < 13 ∨ 17 < (a1).toInt → w_X2_valueOf_78  Q (i0) (a1) (h)) ∧ ((a1).toInt = 13 → w_X2_valueOf_36  Q (i0) (a1) (h)) ∧ ((a1).toInt = 14 → w_X2_valueOf_41  Q (i0) (a1) (h)) ∧ ((a1).toInt = 15 → w_X2_valueOf_54  Q (i0) (a1) (h)) ∧ ((a1).toInt = 16 → w_X2_valueOf_62  Q (i0) (a1) (h)) ∧ ((a1).toInt = 17 → w_X2_valueOf_70  Q (i0) (a1) (h))
theorem s_X2_valueOf_36 {E : EnvT} {d : Nat} (cx : CX E "ShoreDay$Group" cX2_valueOf 2 (some .int) "valueOf" (d + 1) 0 0) (hY : eY E = lay1) {Q : Int32 → Hp → Prop} (eq : EQ E 0 0 (fun r h2 => ∃ x, r = [vI x] ∧ Q x h2)) {i0 : Nat} {a1 : Int32} {h : Hp} {c n : Nat} (hc : c + 0 ≤ 0) (hn : n + 0 ≤ 0) (w : w_X2_valueOf_36  Q i0 a1 h) : SW E 36 ([some (vP (some (2, i0))), some (vI (a1))], [], h, c, n) := by
  exact k_X2_valueOf_36 cx hY eq (by omega) (by omega) ⟨_, rfl, w⟩
theorem s_X2_valueOf_53 {E : EnvT} {d : Nat} (cx : CX E "ShoreDay$Group" cX2_valueOf 2 (some .int) "valueOf" (d + 1) 0 0) (hY : eY E = lay1) {Q : Int32 → Hp → Prop} (eq : EQ E 0 0 (fun r h2 => ∃ x, r = [vI x] ∧ Q x h2)) {i0 : Nat} {a1 : Int32} {s0 : Int32} {h : Hp} {c n : Nat} (hc : c + 0 ≤ 0) (hn : n + 0 ≤ 0) (w : w_X2_valueOf_53  Q i0 a1 s0 h) : SW E 53 ([some (vP (some (2, i0))), some (vI (a1))], [vI (s0)], h, c, n) := by
  exact k_X2_valueOf_53 cx hY eq (by omega) (by omega) ⟨_, rfl, w⟩
theorem s_X2_valueOf_52 {E : EnvT} {d : Nat} (cx : CX E "ShoreDay$Group" cX2_valueOf 2 (some .int) "valueOf" (d + 1) 0 0) (hY : eY E = lay1) {Q : Int32 → Hp → Prop} (eq : EQ E 0 0 (fun r h2 => ∃ x, r = [vI x] ∧ Q x h2)) {i0 : Nat} {a1 : Int32} {h : Hp} {c n : Nat} (hc : c + 0 ≤ 0) (hn : n + 0 ≤ 0) (w : w_X2_valueOf_52  Q i0 a1 h) : SW E 52 ([some (vP (some (2, i0))), some (vI (a1))], [], h, c, n) := by
  refine k_X2_valueOf_52 cx hY ?_
  exact s_X2_valueOf_53 cx hY eq  (by omega) (by omega) w
theorem s_X2_valueOf_48 {E : EnvT} {d : Nat} (cx : CX E "ShoreDay$Group" cX2_valueOf 2 (some .int) "valueOf" (d + 1) 0 0) (hY : eY E = lay1) {Q : Int32 → Hp → Prop} (eq : EQ E 0 0 (fun r h2 => ∃ x, r = [vI x] ∧ Q x h2)) {i0 : Nat} {a1 : Int32} {h : Hp} {c n : Nat} (hc : c + 0 ≤ 0) (hn : n + 0 ≤ 0) (w : w_X2_valueOf_48  Q i0 a1 h) : SW E 48 ([some (vP (some (2, i0))), some (vI (a1))], [], h, c, n) := by
  refine k_X2_valueOf_48 cx hY ?_
  exact s_X2_valueOf_53 cx hY eq  (by omega) (by omega) w
theorem s_X2_valueOf_41 {E : EnvT} {d : Nat} (cx : CX E "ShoreDay$Group" cX2_valueOf 2 (some .int) "valueOf" (d + 1) 0 0) (hY : eY E = lay1) {Q : Int32 → Hp → Prop} (eq : EQ E 0 0 (fun r h2 => ∃ x, r = [vI x] ∧ Q x h2)) {i0 : Nat} {a1 : Int32} {h : Hp} {c n : Nat} (hc : c + 0 ≤ 0) (hn : n + 0 ≤ 0) (w : w_X2_valueOf_41  Q i0 a1 h) : SW E 41 ([some (vP (some (2, i0))), some (vI (a1))], [], h, c, n) := by
  refine k_X2_valueOf_41 cx hY (fun q => ?_) (fun q => ?_)
  · have w := w.1 q
    exact s_X2_valueOf_52 cx hY eq  (by omega) (by omega) w
  · have w := w.2 q
    exact s_X2_valueOf_48 cx hY eq  (by omega) (by omega) w
theorem s_X2_valueOf_54 {E : EnvT} {d : Nat} (cx : CX E "ShoreDay$Group" cX2_valueOf 2 (some .int) "valueOf" (d + 1) 0 0) (hY : eY E = lay1) {Q : Int32 → Hp → Prop} (eq : EQ E 0 0 (fun r h2 => ∃ x, r = [vI x] ∧ Q x h2)) {i0 : Nat} {a1 : Int32} {h : Hp} {c n : Nat} (hc : c + 0 ≤ 0) (hn : n + 0 ≤ 0) (w : w_X2_valueOf_54  Q i0 a1 h) : SW E 54 ([some (vP (some (2, i0))), some (vI (a1))], [], h, c, n) := by
  exact k_X2_valueOf_54 cx hY eq (by omega) (by omega) ⟨_, rfl, w⟩
theorem s_X2_valueOf_62 {E : EnvT} {d : Nat} (cx : CX E "ShoreDay$Group" cX2_valueOf 2 (some .int) "valueOf" (d + 1) 0 0) (hY : eY E = lay1) {Q : Int32 → Hp → Prop} (eq : EQ E 0 0 (fun r h2 => ∃ x, r = [vI x] ∧ Q x h2)) {i0 : Nat} {a1 : Int32} {h : Hp} {c n : Nat} (hc : c + 0 ≤ 0) (hn : n + 0 ≤ 0) (w : w_X2_valueOf_62  Q i0 a1 h) : SW E 62 ([some (vP (some (2, i0))), some (vI (a1))], [], h, c, n) := by
  obtain ⟨g1, e1, w⟩ := w
  exact k_X2_valueOf_62 cx hY e1 eq (by omega) (by omega) ⟨_, rfl, w⟩
theorem s_X2_valueOf_70 {E : EnvT} {d : Nat} (cx : CX E "ShoreDay$Group" cX2_valueOf 2 (some .int) "valueOf" (d + 1) 0 0) (hY : eY E = lay1) {Q : Int32 → Hp → Prop} (eq : EQ E 0 0 (fun r h2 => ∃ x, r = [vI x] ∧ Q x h2)) {i0 : Nat} {a1 : Int32} {h : Hp} {c n : Nat} (hc : c + 0 ≤ 0) (hn : n + 0 ≤ 0) (w : w_X2_valueOf_70  Q i0 a1 h) : SW E 70 ([some (vP (some (2, i0))), some (vI (a1))], [], h, c, n) := by
  obtain ⟨g1, e1, w⟩ := w
  exact k_X2_valueOf_70 cx hY e1 eq (by omega) (by omega) ⟨_, rfl, w⟩
theorem s_X2_valueOf_78 {E : EnvT} {d : Nat} (cx : CX E "ShoreDay$Group" cX2_valueOf 2 (some .int) "valueOf" (d + 1) 0 0) (hY : eY E = lay1) {Q : Int32 → Hp → Prop} (eq : EQ E 0 0 (fun r h2 => ∃ x, r = [vI x] ∧ Q x h2)) {i0 : Nat} {a1 : Int32} {h : Hp} {c n : Nat} (hc : c + 0 ≤ 0) (hn : n + 0 ≤ 0) (w : w_X2_valueOf_78  Q i0 a1 h) : SW E 78 ([some (vP (some (2, i0))), some (vI (a1))], [], h, c, n) := by
  exact k_X2_valueOf_78 cx hY eq (by omega) (by omega) ⟨_, rfl, w⟩
theorem s_X2_valueOf_0 {E : EnvT} {d : Nat} (cx : CX E "ShoreDay$Group" cX2_valueOf 2 (some .int) "valueOf" (d + 1) 0 0) (hY : eY E = lay1) {Q : Int32 → Hp → Prop} (eq : EQ E 0 0 (fun r h2 => ∃ x, r = [vI x] ∧ Q x h2)) {i0 : Nat} {a1 : Int32} {h : Hp} {c n : Nat} (hc : c + 0 ≤ 0) (hn : n + 0 ≤ 0) (w : w_X2_valueOf_0  Q i0 a1 h) : SW E 0 ([some (vP (some (2, i0))), some (vI (a1))], [], h, c, n) := by
  refine k_X2_valueOf_0 cx hY (fun q => ?_) (fun j t hj q => ?_)
  · have w := w.1 q
    exact s_X2_valueOf_78 cx hY eq  (by omega) (by omega) w
  · match j, hj, q with
    | 0, hj, q =>
      cases hj
      have w := w.2.1 (by omega)
      exact s_X2_valueOf_36 cx hY eq  (by omega) (by omega) w
    | 1, hj, q =>
      cases hj
      have w := w.2.2.1 (by omega)
      exact s_X2_valueOf_41 cx hY eq  (by omega) (by omega) w
    | 2, hj, q =>
      cases hj
      have w := w.2.2.2.1 (by omega)
      exact s_X2_valueOf_54 cx hY eq  (by omega) (by omega) w
    | 3, hj, q =>
      cases hj
      have w := w.2.2.2.2.1 (by omega)
      exact s_X2_valueOf_62 cx hY eq  (by omega) (by omega) w
    | 4, hj, q =>
      cases hj
      have w := w.2.2.2.2.2 (by omega)
      exact s_X2_valueOf_70 cx hY eq  (by omega) (by omega) w
    | j + 5, hj, _ => simp at hj
def wp_X2_valueOf (i0 : Nat) (a1 : Int32) (h : Hp) (Q : Int32 → Hp → Prop) : Prop := w_X2_valueOf_0 Q i0 a1 h
theorem vc_X2_valueOf {l : Launch} {d : Nat} {i0 : Nat} {a1 : Int32} {h : Hp} {Q : Int32 → Hp → Prop} (w : wp_X2_valueOf i0 a1 h Q) : Ct l lay1 yX2_valueOf cX2_valueOf 2 (some .int) (d + 1) 0 0 [vP (some (2, i0)), vI a1] h (fun r h2 => ∃ x, r = [vI x] ∧ Q x h2) := by
  exact Ct.of (by decide) (Nat.le_of_ble_eq_true rfl) fun E cx eq hl hY => s_X2_valueOf_0 cx hY eq (Nat.le_refl _) (Nat.le_refl _) w
def w_X3_add_11 (Q : Int32 → Hp → Prop) (a1 : Int32) (h : Hp) : Prop := vp_in (gI (h) 3 (0) (1)) 6 ∧ (Q ((gI (wI (wI (h) 36 (0) (tN (gI (h) 3 (0) (1))) (a1)) 3 (0) 1 ((gI (wI (h) 36 (0) (tN (gI (h) 3 (0) (1))) (a1)) 3 (0) (1)) + ((1 : Int32)))) 3 (0) (1)) - ((1 : Int32))) (wI (wI (h) 36 (0) (tN (gI (h) 3 (0) (1))) (a1)) 3 (0) 1 ((gI (wI (h) 36 (0) (tN (gI (h) 3 (0) (1))) (a1)) 3 (0) (1)) + ((1 : Int32)))))
def w_X3_add_9 (Q : Int32 → Hp → Prop) (a1 : Int32) (h : Hp) : Prop := Q ((-1 : Int32)) (h)
def w_X3_add_0 (Q : Int32 → Hp → Prop) (a1 : Int32) (h : Hp) : Prop := ((gI (h) 3 (0) (1)) < ((6 : Int32)) → w_X3_add_11  Q (a1) (h)) ∧ (¬ (gI (h) 3 (0) (1)) < ((6 : Int32)) → w_X3_add_9  Q (a1) (h))
theorem s_X3_add_11 {E : EnvT} {d : Nat} (cx : CX E "ShoreDay$Guides" cX3_add 2 (some .int) "add" (d + 1) 0 0) (hY : eY E = lay1) {Q : Int32 → Hp → Prop} (eq : EQ E 0 0 (fun r h2 => ∃ x, r = [vI x] ∧ Q x h2)) {a1 : Int32} {h : Hp} {c n : Nat} (hc : c + 0 ≤ 0) (hn : n + 0 ≤ 0) (w : w_X3_add_11  Q a1 h) : SW E 11 ([some (vP (some (3, 0))), some (vI (a1))], [], h, c, n) := by
  obtain ⟨G1, w⟩ := w
  exact k_X3_add_11 cx hY G1 eq (by omega) (by omega) ⟨_, rfl, w⟩
theorem s_X3_add_9 {E : EnvT} {d : Nat} (cx : CX E "ShoreDay$Guides" cX3_add 2 (some .int) "add" (d + 1) 0 0) (hY : eY E = lay1) {Q : Int32 → Hp → Prop} (eq : EQ E 0 0 (fun r h2 => ∃ x, r = [vI x] ∧ Q x h2)) {a1 : Int32} {h : Hp} {c n : Nat} (hc : c + 0 ≤ 0) (hn : n + 0 ≤ 0) (w : w_X3_add_9  Q a1 h) : SW E 9 ([some (vP (some (3, 0))), some (vI (a1))], [], h, c, n) := by
  exact k_X3_add_9 cx hY eq (by omega) (by omega) ⟨_, rfl, w⟩
theorem s_X3_add_0 {E : EnvT} {d : Nat} (cx : CX E "ShoreDay$Guides" cX3_add 2 (some .int) "add" (d + 1) 0 0) (hY : eY E = lay1) {Q : Int32 → Hp → Prop} (eq : EQ E 0 0 (fun r h2 => ∃ x, r = [vI x] ∧ Q x h2)) {a1 : Int32} {h : Hp} {c n : Nat} (hc : c + 0 ≤ 0) (hn : n + 0 ≤ 0) (w : w_X3_add_0  Q a1 h) : SW E 0 ([some (vP (some (3, 0))), some (vI (a1))], [], h, c, n) := by
  refine k_X3_add_0 cx hY (fun q => ?_) (fun q => ?_)
  · have w := w.1 q
    exact s_X3_add_11 cx hY eq  (by omega) (by omega) w
  · have w := w.2 q
    exact s_X3_add_9 cx hY eq  (by omega) (by omega) w
def wp_X3_add (a1 : Int32) (h : Hp) (Q : Int32 → Hp → Prop) : Prop := w_X3_add_0 Q a1 h
theorem vc_X3_add {l : Launch} {d : Nat} {a1 : Int32} {h : Hp} {Q : Int32 → Hp → Prop} (w : wp_X3_add a1 h Q) : Ct l lay1 yX3_add cX3_add 2 (some .int) (d + 1) 0 0 [vP (some (3, 0)), vI a1] h (fun r h2 => ∃ x, r = [vI x] ∧ Q x h2) := by
  exact Ct.of (by decide) (Nat.le_of_ble_eq_true rfl) fun E cx eq hl hY => s_X3_add_0 cx hY eq (Nat.le_refl _) (Nat.le_refl _) w
def w_X3_isFree_30 (Q : Int32 → Hp → Prop) (a1 : Int32) (a2 : Int32) (p3 : Option PtrT) (s0 : Int32) (h : Hp) : Prop := ((s0) = 0 ∨ (s0) = 1) ∧ Q (s0) (h)
def w_X3_isFree_29 (Q : Int32 → Hp → Prop) (a1 : Int32) (a2 : Int32) (p3 : Option PtrT) (h : Hp) : Prop := w_X3_isFree_30  Q (a1) (a2) (p3) ((0 : Int32)) (h)
def w_X3_isFree_25 (Q : Int32 → Hp → Prop) (a1 : Int32) (a2 : Int32) (p3 : Option PtrT) (h : Hp) : Prop := w_X3_isFree_30  Q (a1) (a2) (p3) ((1 : Int32)) (h)
def w_X3_isFree_8 (Q : Int32 → Hp → Prop) (a1 : Int32) (a2 : Int32) (i3 : Nat) (h : Hp) : Prop := vp_in (a1) 6 ∧ ((¬ (((gI (h) 36 (0) (tN (a1))) >>> ((gI (h) 10 (i3) (3)) &&& 31)) &&& ((1 : Int32))) = ((1 : Int32)) → w_X3_isFree_29  Q (a1) (a2) (some (10, i3)) (h)) ∧ ((((gI (h) 36 (0) (tN (a1))) >>> ((gI (h) 10 (i3) (3)) &&& 31)) &&& ((1 : Int32))) = ((1 : Int32)) → w_X3_isFree_25  Q (a1) (a2) (some (10, i3)) (h)))
def w_X3_isFree_0 (Q : Int32 → Hp → Prop) (a1 : Int32) (a2 : Int32) (p3 : Option PtrT) (h : Hp) : Prop := (¬ (((a2) >>> ((a1) &&& 31)) &&& ((1 : Int32))) = 0 → w_X3_isFree_29  Q (a1) (a2) (p3) (h)) ∧ ((((a2) >>> ((a1) &&& 31)) &&& ((1 : Int32))) = 0 → ∃ zl3, p3 = some (10, zl3) ∧ (w_X3_isFree_8  Q (a1) (a2) zl3 (h)))
theorem s_X3_isFree_30 {E : EnvT} {d : Nat} (cx : CX E "ShoreDay$Guides" cX3_isFree 4 (some .boolean) "isFree" (d + 1) 0 0) (hY : eY E = lay1) {Q : Int32 → Hp → Prop} (eq : EQ E 0 0 (fun r h2 => ∃ x, r = [vI x] ∧ Q x h2)) {a1 : Int32} {a2 : Int32} {p3 : Option PtrT} {s0 : Int32} {h : Hp} {c n : Nat} (hc : c + 0 ≤ 0) (hn : n + 0 ≤ 0) (w : w_X3_isFree_30  Q a1 a2 p3 s0 h) : SW E 30 ([some (vP (some (3, 0))), some (vI (a1)), some (vI (a2)), some (vP (p3))], [vI (s0)], h, c, n) := by
  exact k_X3_isFree_30 cx hY eq (by omega) (by omega) w.1 ⟨_, rfl, w.2⟩
theorem s_X3_isFree_29 {E : EnvT} {d : Nat} (cx : CX E "ShoreDay$Guides" cX3_isFree 4 (some .boolean) "isFree" (d + 1) 0 0) (hY : eY E = lay1) {Q : Int32 → Hp → Prop} (eq : EQ E 0 0 (fun r h2 => ∃ x, r = [vI x] ∧ Q x h2)) {a1 : Int32} {a2 : Int32} {p3 : Option PtrT} {h : Hp} {c n : Nat} (hc : c + 0 ≤ 0) (hn : n + 0 ≤ 0) (w : w_X3_isFree_29  Q a1 a2 p3 h) : SW E 29 ([some (vP (some (3, 0))), some (vI (a1)), some (vI (a2)), some (vP (p3))], [], h, c, n) := by
  refine k_X3_isFree_29 cx hY ?_
  exact s_X3_isFree_30 cx hY eq  (by omega) (by omega) w
theorem s_X3_isFree_25 {E : EnvT} {d : Nat} (cx : CX E "ShoreDay$Guides" cX3_isFree 4 (some .boolean) "isFree" (d + 1) 0 0) (hY : eY E = lay1) {Q : Int32 → Hp → Prop} (eq : EQ E 0 0 (fun r h2 => ∃ x, r = [vI x] ∧ Q x h2)) {a1 : Int32} {a2 : Int32} {p3 : Option PtrT} {h : Hp} {c n : Nat} (hc : c + 0 ≤ 0) (hn : n + 0 ≤ 0) (w : w_X3_isFree_25  Q a1 a2 p3 h) : SW E 25 ([some (vP (some (3, 0))), some (vI (a1)), some (vI (a2)), some (vP (p3))], [], h, c, n) := by
  refine k_X3_isFree_25 cx hY ?_
  exact s_X3_isFree_30 cx hY eq  (by omega) (by omega) w
theorem s_X3_isFree_8 {E : EnvT} {d : Nat} (cx : CX E "ShoreDay$Guides" cX3_isFree 4 (some .boolean) "isFree" (d + 1) 0 0) (hY : eY E = lay1) {Q : Int32 → Hp → Prop} (eq : EQ E 0 0 (fun r h2 => ∃ x, r = [vI x] ∧ Q x h2)) {a1 : Int32} {a2 : Int32} {i3 : Nat} {h : Hp} {c n : Nat} (hc : c + 0 ≤ 0) (hn : n + 0 ≤ 0) (w : w_X3_isFree_8  Q a1 a2 i3 h) : SW E 8 ([some (vP (some (3, 0))), some (vI (a1)), some (vI (a2)), some (vP (some (10, i3)))], [], h, c, n) := by
  obtain ⟨G1, w⟩ := w
  refine k_X3_isFree_8 cx hY G1 (fun q => ?_) (fun q => ?_)
  · have w := w.1 q
    exact s_X3_isFree_29 cx hY eq  (by omega) (by omega) w
  · have w := w.2 q
    exact s_X3_isFree_25 cx hY eq  (by omega) (by omega) w
theorem s_X3_isFree_0 {E : EnvT} {d : Nat} (cx : CX E "ShoreDay$Guides" cX3_isFree 4 (some .boolean) "isFree" (d + 1) 0 0) (hY : eY E = lay1) {Q : Int32 → Hp → Prop} (eq : EQ E 0 0 (fun r h2 => ∃ x, r = [vI x] ∧ Q x h2)) {a1 : Int32} {a2 : Int32} {p3 : Option PtrT} {h : Hp} {c n : Nat} (hc : c + 0 ≤ 0) (hn : n + 0 ≤ 0) (w : w_X3_isFree_0  Q a1 a2 p3 h) : SW E 0 ([some (vP (some (3, 0))), some (vI (a1)), some (vI (a2)), some (vP (p3))], [], h, c, n) := by
  refine k_X3_isFree_0 cx hY (fun q => ?_) (fun q => ?_)
  · have w := w.1 q
    exact s_X3_isFree_29 cx hY eq  (by omega) (by omega) w
  · have w := w.2 q
    obtain ⟨zl3, ezl3, w⟩ := w
    rw [ezl3]
    exact s_X3_isFree_8 cx hY eq  (by omega) (by omega) w
def wp_X3_isFree (a1 : Int32) (a2 : Int32) (p3 : Option PtrT) (h : Hp) (Q : Int32 → Hp → Prop) : Prop := w_X3_isFree_0 Q a1 a2 p3 h
theorem vc_X3_isFree {l : Launch} {d : Nat} {a1 : Int32} {a2 : Int32} {p3 : Option PtrT} {h : Hp} {Q : Int32 → Hp → Prop} (w : wp_X3_isFree a1 a2 p3 h Q) : Ct l lay1 yX3_isFree cX3_isFree 4 (some .boolean) (d + 1) 0 0 [vP (some (3, 0)), vI a1, vI a2, vP p3] h (fun r h2 => ∃ x, r = [vI x] ∧ Q x h2) := by
  exact Ct.of (by decide) (Nat.le_of_ble_eq_true rfl) fun E cx eq hl hY => s_X3_isFree_0 cx hY eq (Nat.le_refl _) (Nat.le_refl _) w
def w_X3_seatsWith_21 (Q : Int32 → Hp → Prop) (a1 : Int32) (a2 : Int32) (p3 : Option PtrT) (a4 : Int32) (s0 : Int32) (s2 : Int32) (h : Hp) : Prop := vp_in (s2) 576 ∧ (Q ((s0) + (gI (h) 37 (0) (tN (s2)))) (h))
def w_X3_seatsWith_0 (Q : Int32 → Hp → Prop) (a1 : Int32) (a2 : Int32) (i3 : Nat) (a4 : Int32) (h : Hp) : Prop := w_X3_seatsWith_21  Q (a1) (a2) (some (10, i3)) (a4) (gI (h) 10 (i3) (2)) ((((a2) + ((1 : Int32))) * ((64 : Int32))) + ((a4) ||| (((1 : Int32)) <<< ((a1) &&& 31)))) (h)
theorem s_X3_seatsWith_21 {E : EnvT} {d : Nat} (cx : CX E "ShoreDay$Guides" cX3_seatsWith 5 (some .int) "seatsWith" (d + 1) 0 0) (hY : eY E = lay1) {Q : Int32 → Hp → Prop} (eq : EQ E 0 0 (fun r h2 => ∃ x, r = [vI x] ∧ Q x h2)) {a1 : Int32} {a2 : Int32} {p3 : Option PtrT} {a4 : Int32} {s0 : Int32} {s2 : Int32} {h : Hp} {c n : Nat} (hc : c + 0 ≤ 0) (hn : n + 0 ≤ 0) (w : w_X3_seatsWith_21  Q a1 a2 p3 a4 s0 s2 h) : SW E 21 ([some (vP (some (3, 0))), some (vI (a1)), some (vI (a2)), some (vP (p3)), some (vI (a4))], [vI (s2), vP (some (37, 0)), vI (s0)], h, c, n) := by
  obtain ⟨G1, w⟩ := w
  exact k_X3_seatsWith_21 cx hY G1 eq (by omega) (by omega) ⟨_, rfl, w⟩
theorem s_X3_seatsWith_0 {E : EnvT} {d : Nat} (cx : CX E "ShoreDay$Guides" cX3_seatsWith 5 (some .int) "seatsWith" (d + 1) 0 0) (hY : eY E = lay1) {Q : Int32 → Hp → Prop} (eq : EQ E 0 0 (fun r h2 => ∃ x, r = [vI x] ∧ Q x h2)) {a1 : Int32} {a2 : Int32} {i3 : Nat} {a4 : Int32} {h : Hp} {c n : Nat} (hc : c + 0 ≤ 0) (hn : n + 0 ≤ 0) (w : w_X3_seatsWith_0  Q a1 a2 i3 a4 h) : SW E 0 ([some (vP (some (3, 0))), some (vI (a1)), some (vI (a2)), some (vP (some (10, i3))), some (vI (a4))], [], h, c, n) := by
  refine k_X3_seatsWith_0 cx hY ?_
  exact s_X3_seatsWith_21 cx hY eq  (by omega) (by omega) w
def wp_X3_seatsWith (a1 : Int32) (a2 : Int32) (p3 : Option PtrT) (a4 : Int32) (h : Hp) (Q : Int32 → Hp → Prop) : Prop := ∃ i3, p3 = some (10, i3) ∧ (w_X3_seatsWith_0 Q a1 a2 i3 a4 h)
theorem vc_X3_seatsWith {l : Launch} {d : Nat} {a1 : Int32} {a2 : Int32} {p3 : Option PtrT} {a4 : Int32} {h : Hp} {Q : Int32 → Hp → Prop} (w : wp_X3_seatsWith a1 a2 p3 a4 h Q) : Ct l lay1 yX3_seatsWith cX3_seatsWith 5 (some .int) (d + 1) 0 0 [vP (some (3, 0)), vI a1, vI a2, vP p3, vI a4] h (fun r h2 => ∃ x, r = [vI x] ∧ Q x h2) := by
  obtain ⟨i3, rfl, w⟩ := w; exact Ct.of (by decide) (Nat.le_of_ble_eq_true rfl) fun E cx eq hl hY => s_X3_seatsWith_0 cx hY eq (Nat.le_refl _) (Nat.le_refl _) w
def w_X4_fail_0 (Q : Int32 → Hp → Prop) (a1 : Int32) (h : Hp) : Prop := Q ((0 : Int32)) (wI (h) 4 (0) 2 ((a1) + (((16 : Int32)) * (gI (h) 9 (0) (6)))))
theorem s_X4_fail_0 {E : EnvT} {d : Nat} (cx : CX E "ShoreDay$Parser" cX4_fail 2 (some .boolean) "fail" (d + 1) 0 0) (hY : eY E = lay1) {Q : Int32 → Hp → Prop} (eq : EQ E 0 0 (fun r h2 => ∃ x, r = [vI x] ∧ Q x h2)) {a1 : Int32} {h : Hp} {c n : Nat} (hc : c + 0 ≤ 0) (hn : n + 0 ≤ 0) (w : w_X4_fail_0  Q a1 h) : SW E 0 ([some (vP (some (4, 0))), some (vI (a1))], [], h, c, n) := by
  exact k_X4_fail_0 cx hY eq (by omega) (by omega) ⟨_, rfl, w⟩
def wp_X4_fail (a1 : Int32) (h : Hp) (Q : Int32 → Hp → Prop) : Prop := w_X4_fail_0 Q a1 h
theorem vc_X4_fail {l : Launch} {d : Nat} {a1 : Int32} {h : Hp} {Q : Int32 → Hp → Prop} (w : wp_X4_fail a1 h Q) : Ct l lay1 yX4_fail cX4_fail 2 (some .boolean) (d + 1) 0 0 [vP (some (4, 0)), vI a1] h (fun r h2 => ∃ x, r = [vI x] ∧ Q x h2) := by
  exact Ct.of (by decide) (Nat.le_of_ble_eq_true rfl) fun E cx eq hl hY => s_X4_fail_0 cx hY eq (Nat.le_refl _) (Nat.le_refl _) w
def w_X5_addRow_30 (Q : Int32 → Hp → Prop) (a1 : Int32) (a2 : Int32) (s1 : Int32) (s2 : Int32) (h : Hp) : Prop := vp_in (s1) 10 ∧ (Q ((1 : Int32)) (wI (wI (h) 27 (0) (tN (s1)) (s2)) 5 (0) 2 ((gI (wI (h) 27 (0) (tN (s1)) (s2)) 5 (0) (2)) + ((1 : Int32)))))
def w_X5_addRow_11 (Q : Int32 → Hp → Prop) (a1 : Int32) (a2 : Int32) (h : Hp) : Prop := vp_in (gI (h) 5 (0) (2)) 10 ∧ (w_X5_addRow_30  Q (a1) (a2) (gI (wI (h) 26 (0) (tN (gI (h) 5 (0) (2))) (a1)) 5 (0) (2)) (a2) (wI (h) 26 (0) (tN (gI (h) 5 (0) (2))) (a1)))
def w_X5_addRow_9 (Q : Int32 → Hp → Prop) (a1 : Int32) (a2 : Int32) (h : Hp) : Prop := Q ((0 : Int32)) (h)
def w_X5_addRow_0 (Q : Int32 → Hp → Prop) (a1 : Int32) (a2 : Int32) (h : Hp) : Prop := ((gI (h) 5 (0) (2)) < ((10 : Int32)) → w_X5_addRow_11  Q (a1) (a2) (h)) ∧ (¬ (gI (h) 5 (0) (2)) < ((10 : Int32)) → w_X5_addRow_9  Q (a1) (a2) (h))
theorem s_X5_addRow_30 {E : EnvT} {d : Nat} (cx : CX E "ShoreDay$Sea" cX5_addRow 3 (some .boolean) "addRow" (d + 1) 0 0) (hY : eY E = lay1) {Q : Int32 → Hp → Prop} (eq : EQ E 0 0 (fun r h2 => ∃ x, r = [vI x] ∧ Q x h2)) {a1 : Int32} {a2 : Int32} {s1 : Int32} {s2 : Int32} {h : Hp} {c n : Nat} (hc : c + 0 ≤ 0) (hn : n + 0 ≤ 0) (w : w_X5_addRow_30  Q a1 a2 s1 s2 h) : SW E 30 ([some (vP (some (5, 0))), some (vI (a1)), some (vI (a2))], [vI (s2), vI (s1), vP (some (27, 0))], h, c, n) := by
  obtain ⟨G1, w⟩ := w
  exact k_X5_addRow_30 cx hY G1 eq (by omega) (by omega) ⟨_, rfl, w⟩
theorem s_X5_addRow_11 {E : EnvT} {d : Nat} (cx : CX E "ShoreDay$Sea" cX5_addRow 3 (some .boolean) "addRow" (d + 1) 0 0) (hY : eY E = lay1) {Q : Int32 → Hp → Prop} (eq : EQ E 0 0 (fun r h2 => ∃ x, r = [vI x] ∧ Q x h2)) {a1 : Int32} {a2 : Int32} {h : Hp} {c n : Nat} (hc : c + 0 ≤ 0) (hn : n + 0 ≤ 0) (w : w_X5_addRow_11  Q a1 a2 h) : SW E 11 ([some (vP (some (5, 0))), some (vI (a1)), some (vI (a2))], [], h, c, n) := by
  obtain ⟨G1, w⟩ := w
  refine k_X5_addRow_11 cx hY G1 ?_
  exact s_X5_addRow_30 cx hY eq  (by omega) (by omega) w
theorem s_X5_addRow_9 {E : EnvT} {d : Nat} (cx : CX E "ShoreDay$Sea" cX5_addRow 3 (some .boolean) "addRow" (d + 1) 0 0) (hY : eY E = lay1) {Q : Int32 → Hp → Prop} (eq : EQ E 0 0 (fun r h2 => ∃ x, r = [vI x] ∧ Q x h2)) {a1 : Int32} {a2 : Int32} {h : Hp} {c n : Nat} (hc : c + 0 ≤ 0) (hn : n + 0 ≤ 0) (w : w_X5_addRow_9  Q a1 a2 h) : SW E 9 ([some (vP (some (5, 0))), some (vI (a1)), some (vI (a2))], [], h, c, n) := by
  exact k_X5_addRow_9 cx hY eq (by omega) (by omega) ⟨_, rfl, w⟩
theorem s_X5_addRow_0 {E : EnvT} {d : Nat} (cx : CX E "ShoreDay$Sea" cX5_addRow 3 (some .boolean) "addRow" (d + 1) 0 0) (hY : eY E = lay1) {Q : Int32 → Hp → Prop} (eq : EQ E 0 0 (fun r h2 => ∃ x, r = [vI x] ∧ Q x h2)) {a1 : Int32} {a2 : Int32} {h : Hp} {c n : Nat} (hc : c + 0 ≤ 0) (hn : n + 0 ≤ 0) (w : w_X5_addRow_0  Q a1 a2 h) : SW E 0 ([some (vP (some (5, 0))), some (vI (a1)), some (vI (a2))], [], h, c, n) := by
  refine k_X5_addRow_0 cx hY (fun q => ?_) (fun q => ?_)
  · have w := w.1 q
    exact s_X5_addRow_11 cx hY eq  (by omega) (by omega) w
  · have w := w.2 q
    exact s_X5_addRow_9 cx hY eq  (by omega) (by omega) w
def wp_X5_addRow (a1 : Int32) (a2 : Int32) (h : Hp) (Q : Int32 → Hp → Prop) : Prop := w_X5_addRow_0 Q a1 a2 h
theorem vc_X5_addRow {l : Launch} {d : Nat} {a1 : Int32} {a2 : Int32} {h : Hp} {Q : Int32 → Hp → Prop} (w : wp_X5_addRow a1 a2 h Q) : Ct l lay1 yX5_addRow cX5_addRow 3 (some .boolean) (d + 1) 0 0 [vP (some (5, 0)), vI a1, vI a2] h (fun r h2 => ∃ x, r = [vI x] ∧ Q x h2) := by
  exact Ct.of (by decide) (Nat.le_of_ble_eq_true rfl) fun E cx eq hl hY => s_X5_addRow_0 cx hY eq (Nat.le_refl _) (Nat.le_refl _) w
def w_X6_init_0 (Q : Hp → Prop) (i0 : Nat) (a1 : Int32) (a2 : Int32) (a3 : Int32) (a4 : Int32) (h : Hp) : Prop := Q (wI (wI (wI (wI (h) 6 (i0) 0 (a1)) 6 (i0) 1 (a2)) 6 (i0) 2 (a3)) 6 (i0) 3 (a4))
theorem s_X6_init_0 {E : EnvT} {d : Nat} (cx : CX E "ShoreDay$Ship" cX6_init 5 none "<init>" (d + 1) 0 0) (hY : eY E = lay1) {Q : Hp → Prop} (eq : EQ E 0 0 (fun r h2 => r = [] ∧ Q h2)) {i0 : Nat} {a1 : Int32} {a2 : Int32} {a3 : Int32} {a4 : Int32} {h : Hp} {c n : Nat} (hc : c + 0 ≤ 0) (hn : n + 0 ≤ 0) (w : w_X6_init_0  Q i0 a1 a2 a3 a4 h) : SW E 0 ([some (vP (some (6, i0))), some (vI (a1)), some (vI (a2)), some (vI (a3)), some (vI (a4))], [], h, c, n) := by
  exact k_X6_init_0 cx hY eq (by omega) (by omega) ⟨rfl, w⟩
def wp_X6_init (i0 : Nat) (a1 : Int32) (a2 : Int32) (a3 : Int32) (a4 : Int32) (h : Hp) (Q : Hp → Prop) : Prop := w_X6_init_0 Q i0 a1 a2 a3 a4 h
theorem vc_X6_init {l : Launch} {d : Nat} {i0 : Nat} {a1 : Int32} {a2 : Int32} {a3 : Int32} {a4 : Int32} {h : Hp} {Q : Hp → Prop} (w : wp_X6_init i0 a1 a2 a3 a4 h Q) : Ct l lay1 yX6_init cX6_init 5 none (d + 1) 0 0 [vP (some (6, i0)), vI a1, vI a2, vI a3, vI a4] h (fun r h2 => r = [] ∧ Q h2) := by
  exact Ct.of (by decide) (Nat.le_of_ble_eq_true rfl) fun E cx eq hl hY => s_X6_init_0 cx hY eq (Nat.le_refl _) (Nat.le_refl _) w
def w_X8_init_0 (Q : Hp → Prop) (i0 : Nat) (a1 : Int32) (p2 : Option PtrT) (a3 : Int32) (h : Hp) : Prop := nlw 8 (p2) ∧ (Q (wI (wP (wI (wI (h) 8 (i0) 3 ((0 : Int32))) 8 (i0) 0 (a1)) 8 (i0) 1 (p2)) 8 (i0) 2 (a3)))
theorem s_X8_init_0 {E : EnvT} {d : Nat} (cx : CX E "ShoreDay$Tender" cX8_init 4 none "<init>" (d + 1) 0 0) (hY : eY E = lay1) {Q : Hp → Prop} (eq : EQ E 0 0 (fun r h2 => r = [] ∧ Q h2)) {i0 : Nat} {a1 : Int32} {p2 : Option PtrT} {a3 : Int32} {h : Hp} {c n : Nat} (hc : c + 0 ≤ 0) (hn : n + 0 ≤ 0) (w : w_X8_init_0  Q i0 a1 p2 a3 h) : SW E 0 ([some (vP (some (8, i0))), some (vI (a1)), some (vP (p2)), some (vI (a3))], [], h, c, n) := by
  obtain ⟨G1, w⟩ := w
  exact k_X8_init_0 cx hY G1 eq (by omega) (by omega) ⟨rfl, w⟩
def wp_X8_init (i0 : Nat) (a1 : Int32) (p2 : Option PtrT) (a3 : Int32) (h : Hp) (Q : Hp → Prop) : Prop := w_X8_init_0 Q i0 a1 p2 a3 h
theorem vc_X8_init {l : Launch} {d : Nat} {i0 : Nat} {a1 : Int32} {p2 : Option PtrT} {a3 : Int32} {h : Hp} {Q : Hp → Prop} (w : wp_X8_init i0 a1 p2 a3 h Q) : Ct l lay1 yX8_init cX8_init 4 none (d + 1) 0 0 [vP (some (8, i0)), vI a1, vP p2, vI a3] h (fun r h2 => r = [] ∧ Q h2) := by
  exact Ct.of (by decide) (Nat.le_of_ble_eq_true rfl) fun E cx eq hl hY => s_X8_init_0 cx hY eq (Nat.le_refl _) (Nat.le_refl _) w
def w_X8_hasRoomFor_21 (Q : Int32 → Hp → Prop) (i0 : Nat) (p1 : Option PtrT) (s0 : Int32) (h : Hp) : Prop := ((s0) = 0 ∨ (s0) = 1) ∧ Q (s0) (h)
def w_X8_hasRoomFor_20 (Q : Int32 → Hp → Prop) (i0 : Nat) (p1 : Option PtrT) (h : Hp) : Prop := w_X8_hasRoomFor_21  Q (i0) (p1) ((0 : Int32)) (h)
def w_X8_hasRoomFor_16 (Q : Int32 → Hp → Prop) (i0 : Nat) (p1 : Option PtrT) (h : Hp) : Prop := w_X8_hasRoomFor_21  Q (i0) (p1) ((1 : Int32)) (h)
def w_X8_hasRoomFor_0 (Q : Int32 → Hp → Prop) (i0 : Nat) (i1 : Nat) (h : Hp) : Prop := (((gI (h) 8 (i0) (2)) - (gI (h) 8 (i0) (5))) < (gI (h) 2 (i1) (1)) → w_X8_hasRoomFor_20  Q (i0) (some (2, i1)) (h)) ∧ (¬ ((gI (h) 8 (i0) (2)) - (gI (h) 8 (i0) (5))) < (gI (h) 2 (i1) (1)) → w_X8_hasRoomFor_16  Q (i0) (some (2, i1)) (h))
theorem s_X8_hasRoomFor_21 {E : EnvT} {d : Nat} (cx : CX E "ShoreDay$Tender" cX8_hasRoomFor 2 (some .boolean) "hasRoomFor" (d + 1) 0 0) (hY : eY E = lay1) {Q : Int32 → Hp → Prop} (eq : EQ E 0 0 (fun r h2 => ∃ x, r = [vI x] ∧ Q x h2)) {i0 : Nat} {p1 : Option PtrT} {s0 : Int32} {h : Hp} {c n : Nat} (hc : c + 0 ≤ 0) (hn : n + 0 ≤ 0) (w : w_X8_hasRoomFor_21  Q i0 p1 s0 h) : SW E 21 ([some (vP (some (8, i0))), some (vP (p1))], [vI (s0)], h, c, n) := by
  exact k_X8_hasRoomFor_21 cx hY eq (by omega) (by omega) w.1 ⟨_, rfl, w.2⟩
theorem s_X8_hasRoomFor_20 {E : EnvT} {d : Nat} (cx : CX E "ShoreDay$Tender" cX8_hasRoomFor 2 (some .boolean) "hasRoomFor" (d + 1) 0 0) (hY : eY E = lay1) {Q : Int32 → Hp → Prop} (eq : EQ E 0 0 (fun r h2 => ∃ x, r = [vI x] ∧ Q x h2)) {i0 : Nat} {p1 : Option PtrT} {h : Hp} {c n : Nat} (hc : c + 0 ≤ 0) (hn : n + 0 ≤ 0) (w : w_X8_hasRoomFor_20  Q i0 p1 h) : SW E 20 ([some (vP (some (8, i0))), some (vP (p1))], [], h, c, n) := by
  refine k_X8_hasRoomFor_20 cx hY ?_
  exact s_X8_hasRoomFor_21 cx hY eq  (by omega) (by omega) w
theorem s_X8_hasRoomFor_16 {E : EnvT} {d : Nat} (cx : CX E "ShoreDay$Tender" cX8_hasRoomFor 2 (some .boolean) "hasRoomFor" (d + 1) 0 0) (hY : eY E = lay1) {Q : Int32 → Hp → Prop} (eq : EQ E 0 0 (fun r h2 => ∃ x, r = [vI x] ∧ Q x h2)) {i0 : Nat} {p1 : Option PtrT} {h : Hp} {c n : Nat} (hc : c + 0 ≤ 0) (hn : n + 0 ≤ 0) (w : w_X8_hasRoomFor_16  Q i0 p1 h) : SW E 16 ([some (vP (some (8, i0))), some (vP (p1))], [], h, c, n) := by
  refine k_X8_hasRoomFor_16 cx hY ?_
  exact s_X8_hasRoomFor_21 cx hY eq  (by omega) (by omega) w
theorem s_X8_hasRoomFor_0 {E : EnvT} {d : Nat} (cx : CX E "ShoreDay$Tender" cX8_hasRoomFor 2 (some .boolean) "hasRoomFor" (d + 1) 0 0) (hY : eY E = lay1) {Q : Int32 → Hp → Prop} (eq : EQ E 0 0 (fun r h2 => ∃ x, r = [vI x] ∧ Q x h2)) {i0 : Nat} {i1 : Nat} {h : Hp} {c n : Nat} (hc : c + 0 ≤ 0) (hn : n + 0 ≤ 0) (w : w_X8_hasRoomFor_0  Q i0 i1 h) : SW E 0 ([some (vP (some (8, i0))), some (vP (some (2, i1)))], [], h, c, n) := by
  refine k_X8_hasRoomFor_0 cx hY (fun q => ?_) (fun q => ?_)
  · have w := w.1 q
    exact s_X8_hasRoomFor_20 cx hY eq  (by omega) (by omega) w
  · have w := w.2 q
    exact s_X8_hasRoomFor_16 cx hY eq  (by omega) (by omega) w
def wp_X8_hasRoomFor (i0 : Nat) (p1 : Option PtrT) (h : Hp) (Q : Int32 → Hp → Prop) : Prop := ∃ i1, p1 = some (2, i1) ∧ (w_X8_hasRoomFor_0 Q i0 i1 h)
theorem vc_X8_hasRoomFor {l : Launch} {d : Nat} {i0 : Nat} {p1 : Option PtrT} {h : Hp} {Q : Int32 → Hp → Prop} (w : wp_X8_hasRoomFor i0 p1 h Q) : Ct l lay1 yX8_hasRoomFor cX8_hasRoomFor 2 (some .boolean) (d + 1) 0 0 [vP (some (8, i0)), vP p1] h (fun r h2 => ∃ x, r = [vI x] ∧ Q x h2) := by
  obtain ⟨i1, rfl, w⟩ := w; exact Ct.of (by decide) (Nat.le_of_ble_eq_true rfl) fun E cx eq hl hY => s_X8_hasRoomFor_0 cx hY eq (Nat.le_refl _) (Nat.le_refl _) w
def w_X8_take_0 (Q : Hp → Prop) (i0 : Nat) (i1 : Nat) (h : Hp) : Prop := Q (wI (wP (wI (h) 2 (i1) 6 ((1 : Int32))) 2 (i1) 7 (some (8, i0))) 8 (i0) 5 ((gI (wP (wI (h) 2 (i1) 6 ((1 : Int32))) 2 (i1) 7 (some (8, i0))) 8 (i0) (5)) + (gI (wP (wI (h) 2 (i1) 6 ((1 : Int32))) 2 (i1) 7 (some (8, i0))) 2 (i1) (1))))
theorem s_X8_take_0 {E : EnvT} {d : Nat} (cx : CX E "ShoreDay$Tender" cX8_take 2 none "take" (d + 1) 0 0) (hY : eY E = lay1) {Q : Hp → Prop} (eq : EQ E 0 0 (fun r h2 => r = [] ∧ Q h2)) {i0 : Nat} {i1 : Nat} {h : Hp} {c n : Nat} (hc : c + 0 ≤ 0) (hn : n + 0 ≤ 0) (w : w_X8_take_0  Q i0 i1 h) : SW E 0 ([some (vP (some (8, i0))), some (vP (some (2, i1)))], [], h, c, n) := by
  exact k_X8_take_0 cx hY eq (by omega) (by omega) ⟨rfl, w⟩
def wp_X8_take (i0 : Nat) (p1 : Option PtrT) (h : Hp) (Q : Hp → Prop) : Prop := ∃ i1, p1 = some (2, i1) ∧ (w_X8_take_0 Q i0 i1 h)
theorem vc_X8_take {l : Launch} {d : Nat} {i0 : Nat} {p1 : Option PtrT} {h : Hp} {Q : Hp → Prop} (w : wp_X8_take i0 p1 h Q) : Ct l lay1 yX8_take cX8_take 2 none (d + 1) 0 0 [vP (some (8, i0)), vP p1] h (fun r h2 => r = [] ∧ Q h2) := by
  obtain ⟨i1, rfl, w⟩ := w; exact Ct.of (by decide) (Nat.le_of_ble_eq_true rfl) fun E cx eq hl hY => s_X8_take_0 cx hY eq (Nat.le_refl _) (Nat.le_refl _) w
def w_X8_leave_0 (Q : Hp → Prop) (i0 : Nat) (a1 : Int32) (h : Hp) : Prop := ∃ g1, gP (wI (h) 8 (i0) 3 (a1)) 8 (i0) 1 = some (6, g1) ∧ (Q (wI (wI (h) 8 (i0) 3 (a1)) 8 (i0) 4 (gI (wI (h) 8 (i0) 3 (a1)) 6 (g1) (1))))
theorem s_X8_leave_0 {E : EnvT} {d : Nat} (cx : CX E "ShoreDay$Tender" cX8_leave 2 none "leave" (d + 1) 0 0) (hY : eY E = lay1) {Q : Hp → Prop} (eq : EQ E 0 0 (fun r h2 => r = [] ∧ Q h2)) {i0 : Nat} {a1 : Int32} {h : Hp} {c n : Nat} (hc : c + 0 ≤ 0) (hn : n + 0 ≤ 0) (w : w_X8_leave_0  Q i0 a1 h) : SW E 0 ([some (vP (some (8, i0))), some (vI (a1))], [], h, c, n) := by
  obtain ⟨g1, e1, w⟩ := w
  exact k_X8_leave_0 cx hY e1 eq (by omega) (by omega) ⟨rfl, w⟩
def wp_X8_leave (i0 : Nat) (a1 : Int32) (h : Hp) (Q : Hp → Prop) : Prop := w_X8_leave_0 Q i0 a1 h
theorem vc_X8_leave {l : Launch} {d : Nat} {i0 : Nat} {a1 : Int32} {h : Hp} {Q : Hp → Prop} (w : wp_X8_leave i0 a1 h Q) : Ct l lay1 yX8_leave cX8_leave 2 none (d + 1) 0 0 [vP (some (8, i0)), vI a1] h (fun r h2 => r = [] ∧ Q h2) := by
  exact Ct.of (by decide) (Nat.le_of_ble_eq_true rfl) fun E cx eq hl hY => s_X8_leave_0 cx hY eq (Nat.le_refl _) (Nat.le_refl _) w
def w_X9_step_60 (Q : Hp → Prop) (h : Hp) : Prop := Q (h)
def w_X9_step_46 (Q : Hp → Prop) (s2 : Int32) (h : Hp) : Prop := vp_in (s2) 601 ∧ (w_X9_step_60  Q (wI (wI (h) 9 (0) 7 (gI (h) 35 (0) (tN (s2)))) 9 (0) 4 ((gI (wI (h) 9 (0) 7 (gI (h) 35 (0) (tN (s2)))) 9 (0) (4)) + ((1 : Int32)))))
def w_X9_step_33 (Q : Hp → Prop) (s2 : Int32) (h : Hp) : Prop := vp_in (s2) 601 ∧ (w_X9_step_46  Q (gI (wI (h) 9 (0) 6 (gI (h) 34 (0) (tN (s2)))) 9 (0) (4)) (wI (h) 9 (0) 6 (gI (h) 34 (0) (tN (s2)))))
def w_X9_step_11 (Q : Hp → Prop) (h : Hp) : Prop := vp_in (gI (h) 9 (0) (4)) 601 ∧ (w_X9_step_33  Q (gI (wI (h) 9 (0) 5 (gI (h) 33 (0) (tN (gI (h) 9 (0) (4))))) 9 (0) (4)) (wI (h) 9 (0) 5 (gI (h) 33 (0) (tN (gI (h) 9 (0) (4))))))
def w_X9_step_0 (Q : Hp → Prop) (h : Hp) : Prop := ((gI (h) 9 (0) (3)) ≤ (gI (h) 9 (0) (4)) → w_X9_step_60  Q (h)) ∧ (¬ (gI (h) 9 (0) (3)) ≤ (gI (h) 9 (0) (4)) → w_X9_step_11  Q (h))
theorem s_X9_step_60 {E : EnvT} {d : Nat} (cx : CX E "ShoreDay$Tokens" cX9_step 1 none "step" (d + 1) 0 0) (hY : eY E = lay1) {Q : Hp → Prop} (eq : EQ E 0 0 (fun r h2 => r = [] ∧ Q h2)) {h : Hp} {c n : Nat} (hc : c + 0 ≤ 0) (hn : n + 0 ≤ 0) (w : w_X9_step_60  Q  h) : SW E 60 ([some (vP (some (9, 0)))], [], h, c, n) := by
  exact k_X9_step_60 cx hY eq (by omega) (by omega) ⟨rfl, w⟩
theorem s_X9_step_46 {E : EnvT} {d : Nat} (cx : CX E "ShoreDay$Tokens" cX9_step 1 none "step" (d + 1) 0 0) (hY : eY E = lay1) {Q : Hp → Prop} (eq : EQ E 0 0 (fun r h2 => r = [] ∧ Q h2)) {s2 : Int32} {h : Hp} {c n : Nat} (hc : c + 0 ≤ 0) (hn : n + 0 ≤ 0) (w : w_X9_step_46  Q s2 h) : SW E 46 ([some (vP (some (9, 0)))], [vI (s2), vP (some (35, 0)), vP (some (9, 0))], h, c, n) := by
  obtain ⟨G1, w⟩ := w
  refine k_X9_step_46 cx hY G1 ?_
  exact s_X9_step_60 cx hY eq  (by omega) (by omega) w
theorem s_X9_step_33 {E : EnvT} {d : Nat} (cx : CX E "ShoreDay$Tokens" cX9_step 1 none "step" (d + 1) 0 0) (hY : eY E = lay1) {Q : Hp → Prop} (eq : EQ E 0 0 (fun r h2 => r = [] ∧ Q h2)) {s2 : Int32} {h : Hp} {c n : Nat} (hc : c + 0 ≤ 0) (hn : n + 0 ≤ 0) (w : w_X9_step_33  Q s2 h) : SW E 33 ([some (vP (some (9, 0)))], [vI (s2), vP (some (34, 0)), vP (some (9, 0))], h, c, n) := by
  obtain ⟨G1, w⟩ := w
  refine k_X9_step_33 cx hY G1 ?_
  exact s_X9_step_46 cx hY eq  (by omega) (by omega) w
theorem s_X9_step_11 {E : EnvT} {d : Nat} (cx : CX E "ShoreDay$Tokens" cX9_step 1 none "step" (d + 1) 0 0) (hY : eY E = lay1) {Q : Hp → Prop} (eq : EQ E 0 0 (fun r h2 => r = [] ∧ Q h2)) {h : Hp} {c n : Nat} (hc : c + 0 ≤ 0) (hn : n + 0 ≤ 0) (w : w_X9_step_11  Q  h) : SW E 11 ([some (vP (some (9, 0)))], [], h, c, n) := by
  obtain ⟨G1, w⟩ := w
  refine k_X9_step_11 cx hY G1 ?_
  exact s_X9_step_33 cx hY eq  (by omega) (by omega) w
theorem s_X9_step_0 {E : EnvT} {d : Nat} (cx : CX E "ShoreDay$Tokens" cX9_step 1 none "step" (d + 1) 0 0) (hY : eY E = lay1) {Q : Hp → Prop} (eq : EQ E 0 0 (fun r h2 => r = [] ∧ Q h2)) {h : Hp} {c n : Nat} (hc : c + 0 ≤ 0) (hn : n + 0 ≤ 0) (w : w_X9_step_0  Q  h) : SW E 0 ([some (vP (some (9, 0)))], [], h, c, n) := by
  refine k_X9_step_0 cx hY (fun q => ?_) (fun q => ?_)
  · have w := w.1 q
    exact s_X9_step_60 cx hY eq  (by omega) (by omega) w
  · have w := w.2 q
    exact s_X9_step_11 cx hY eq  (by omega) (by omega) w
def wp_X9_step (h : Hp) (Q : Hp → Prop) : Prop := w_X9_step_0 Q  h
theorem vc_X9_step {l : Launch} {d : Nat} {h : Hp} {Q : Hp → Prop} (w : wp_X9_step h Q) : Ct l lay1 yX9_step cX9_step 1 none (d + 1) 0 0 [vP (some (9, 0))] h (fun r h2 => r = [] ∧ Q h2) := by
  exact Ct.of (by decide) (Nat.le_of_ble_eq_true rfl) fun E cx eq hl hY => s_X9_step_0 cx hY eq (Nat.le_refl _) (Nat.le_refl _) w
def w_X9_put_50 (Q : Hp → Prop) (a1 : Int32) (a2 : Int32) (a3 : Int32) (h : Hp) : Prop := Q (h)
def w_X9_put_29 (Q : Hp → Prop) (a1 : Int32) (a2 : Int32) (a3 : Int32) (s1 : Int32) (s2 : Int32) (h : Hp) : Prop := vp_in (s1) 601 ∧ (vp_in (gI (wI (h) 34 (0) (tN (s1)) (s2)) 9 (0) (3)) 601 ∧ (w_X9_put_50  Q (a1) (a2) (a3) (wI (wI (wI (h) 34 (0) (tN (s1)) (s2)) 35 (0) (tN (gI (wI (h) 34 (0) (tN (s1)) (s2)) 9 (0) (3))) (a3)) 9 (0) 3 ((gI (wI (wI (h) 34 (0) (tN (s1)) (s2)) 35 (0) (tN (gI (wI (h) 34 (0) (tN (s1)) (s2)) 9 (0) (3))) (a3)) 9 (0) (3)) + ((1 : Int32))))))
def w_X9_put_10 (Q : Hp → Prop) (a1 : Int32) (a2 : Int32) (a3 : Int32) (h : Hp) : Prop := vp_in (gI (h) 9 (0) (3)) 601 ∧ (w_X9_put_29  Q (a1) (a2) (a3) (gI (wI (h) 33 (0) (tN (gI (h) 9 (0) (3))) (a1)) 9 (0) (3)) (a2) (wI (h) 33 (0) (tN (gI (h) 9 (0) (3))) (a1)))
def w_X9_put_0 (Q : Hp → Prop) (a1 : Int32) (a2 : Int32) (a3 : Int32) (h : Hp) : Prop := (((600 : Int32)) < (gI (h) 9 (0) (3)) → w_X9_put_50  Q (a1) (a2) (a3) (h)) ∧ (¬ ((600 : Int32)) < (gI (h) 9 (0) (3)) → w_X9_put_10  Q (a1) (a2) (a3) (h))
theorem s_X9_put_50 {E : EnvT} {d : Nat} (cx : CX E "ShoreDay$Tokens" cX9_put 4 none "put" (d + 1) 0 0) (hY : eY E = lay1) {Q : Hp → Prop} (eq : EQ E 0 0 (fun r h2 => r = [] ∧ Q h2)) {a1 : Int32} {a2 : Int32} {a3 : Int32} {h : Hp} {c n : Nat} (hc : c + 0 ≤ 0) (hn : n + 0 ≤ 0) (w : w_X9_put_50  Q a1 a2 a3 h) : SW E 50 ([some (vP (some (9, 0))), some (vI (a1)), some (vI (a2)), some (vI (a3))], [], h, c, n) := by
  exact k_X9_put_50 cx hY eq (by omega) (by omega) ⟨rfl, w⟩
theorem s_X9_put_29 {E : EnvT} {d : Nat} (cx : CX E "ShoreDay$Tokens" cX9_put 4 none "put" (d + 1) 0 0) (hY : eY E = lay1) {Q : Hp → Prop} (eq : EQ E 0 0 (fun r h2 => r = [] ∧ Q h2)) {a1 : Int32} {a2 : Int32} {a3 : Int32} {s1 : Int32} {s2 : Int32} {h : Hp} {c n : Nat} (hc : c + 0 ≤ 0) (hn : n + 0 ≤ 0) (w : w_X9_put_29  Q a1 a2 a3 s1 s2 h) : SW E 29 ([some (vP (some (9, 0))), some (vI (a1)), some (vI (a2)), some (vI (a3))], [vI (s2), vI (s1), vP (some (34, 0))], h, c, n) := by
  obtain ⟨G1, G2, w⟩ := w
  refine k_X9_put_29 cx hY G1 G2 ?_
  exact s_X9_put_50 cx hY eq  (by omega) (by omega) w
theorem s_X9_put_10 {E : EnvT} {d : Nat} (cx : CX E "ShoreDay$Tokens" cX9_put 4 none "put" (d + 1) 0 0) (hY : eY E = lay1) {Q : Hp → Prop} (eq : EQ E 0 0 (fun r h2 => r = [] ∧ Q h2)) {a1 : Int32} {a2 : Int32} {a3 : Int32} {h : Hp} {c n : Nat} (hc : c + 0 ≤ 0) (hn : n + 0 ≤ 0) (w : w_X9_put_10  Q a1 a2 a3 h) : SW E 10 ([some (vP (some (9, 0))), some (vI (a1)), some (vI (a2)), some (vI (a3))], [], h, c, n) := by
  obtain ⟨G1, w⟩ := w
  refine k_X9_put_10 cx hY G1 ?_
  exact s_X9_put_29 cx hY eq  (by omega) (by omega) w
theorem s_X9_put_0 {E : EnvT} {d : Nat} (cx : CX E "ShoreDay$Tokens" cX9_put 4 none "put" (d + 1) 0 0) (hY : eY E = lay1) {Q : Hp → Prop} (eq : EQ E 0 0 (fun r h2 => r = [] ∧ Q h2)) {a1 : Int32} {a2 : Int32} {a3 : Int32} {h : Hp} {c n : Nat} (hc : c + 0 ≤ 0) (hn : n + 0 ≤ 0) (w : w_X9_put_0  Q a1 a2 a3 h) : SW E 0 ([some (vP (some (9, 0))), some (vI (a1)), some (vI (a2)), some (vI (a3))], [], h, c, n) := by
  refine k_X9_put_0 cx hY (fun q => ?_) (fun q => ?_)
  · have w := w.1 q
    exact s_X9_put_50 cx hY eq  (by omega) (by omega) w
  · have w := w.2 q
    exact s_X9_put_10 cx hY eq  (by omega) (by omega) w
def wp_X9_put (a1 : Int32) (a2 : Int32) (a3 : Int32) (h : Hp) (Q : Hp → Prop) : Prop := w_X9_put_0 Q a1 a2 a3 h
theorem vc_X9_put {l : Launch} {d : Nat} {a1 : Int32} {a2 : Int32} {a3 : Int32} {h : Hp} {Q : Hp → Prop} (w : wp_X9_put a1 a2 a3 h Q) : Ct l lay1 yX9_put cX9_put 4 none (d + 1) 0 0 [vP (some (9, 0)), vI a1, vI a2, vI a3] h (fun r h2 => r = [] ∧ Q h2) := by
  exact Ct.of (by decide) (Nat.le_of_ble_eq_true rfl) fun E cx eq hl hY => s_X9_put_0 cx hY eq (Nat.le_refl _) (Nat.le_refl _) w
def w_X9_markKind_104 (Q : Int32 → Hp → Prop) (a0 : Int32) (h : Hp) : Prop := Q ((6 : Int32)) (h)
def w_X9_markKind_107 (Q : Int32 → Hp → Prop) (a0 : Int32) (h : Hp) : Prop := Q ((7 : Int32)) (h)
def w_X9_markKind_125 (Q : Int32 → Hp → Prop) (a0 : Int32) (h : Hp) : Prop := Q ((0 : Int32)) (h)
def w_X9_markKind_116 (Q : Int32 → Hp → Prop) (a0 : Int32) (h : Hp) : Prop := Q ((10 : Int32)) (h)
def w_X9_markKind_119 (Q : Int32 → Hp → Prop) (a0 : Int32) (h : Hp) : Prop := Q ((11 : Int32)) (h)
def w_X9_markKind_122 (Q : Int32 → Hp → Prop) (a0 : Int32) (h : Hp) : Prop := Q ((12 : Int32)) (h)
def w_X9_markKind_110 (Q : Int32 → Hp → Prop) (a0 : Int32) (h : Hp) : Prop := Q ((8 : Int32)) (h)
def w_X9_markKind_113 (Q : Int32 → Hp → Prop) (a0 : Int32) (h : Hp) : Prop := Q ((9 : Int32)) (h)
def w_X9_markKind_0 (Q : Int32 → Hp → Prop) (a0 : Int32) (h : Hp) : Prop := ((a0).toInt < 40 ∨ 61 < (a0).toInt → w_X9_markKind_125  Q (a0) (h)) ∧ ((a0).toInt = 40 → w_X9_markKind_104  Q (a0) (h)) ∧ ((a0).toInt = 41 → w_X9_markKind_107  Q (a0) (h)) ∧ ((a0).toInt = 42 → w_X9_markKind_125  Q (a0) (h)) ∧ ((a0).toInt = 43 → w_X9_markKind_116  Q (a0) (h)) ∧ ((a0).toInt = 44 → w_X9_markKind_125  Q (a0) (h)) ∧ ((a0).toInt = 45 → w_X9_markKind_119  Q (a0) (h)) ∧ ((a0).toInt = 46 → w_X9_markKind_125  Q (a0) (h)) ∧ ((a0).toInt = 47 → w_X9_markKind_125  Q (a0) (h)) ∧ ((a0).toInt = 48 → w_X9_markKind_125  Q (a0) (h)) ∧ ((a0).toInt = 49 → w_X9_markKind_125  Q (a0) (h)) ∧ ((a0).toInt = 50 → w_X9_markKind_125  Q (a0) (h)) ∧ ((a0).toInt = 51 → w_X9_markKind_125  Q (a0) (h)) ∧ ((a0).toInt = 52 → w_X9_markKind_125  Q (a0) (h)) ∧ ((a0).toInt = 53 → w_X9_markKind_125  Q (a0) (h)) ∧ ((a0).toInt = 54 → w_X9_markKind_125  Q (a0) (h)) ∧ ((a0).toInt = 55 → w_X9_markKind_125  Q (a0) (h)) ∧ ((a0).toInt = 56 → w_X9_markKind_125  Q (a0) (h)) ∧ ((a0).toInt = 57 → w_X9_markKind_125  Q (a0) (h)) ∧ ((a0).toInt = 58 → w_X9_markKind_125  Q (a0) (h)) ∧ ((a0).toInt = 59 → w_X9_markKind_122  Q (a0) (h)) ∧ ((a0).toInt = 60 → w_X9_markKind_110  Q (a0) (h)) ∧ ((a0).toInt = 61 → w_X9_markKind_113  Q (a0) (h))
theorem s_X9_markKind_104 {E : EnvT} {d : Nat} (cx : CX E "ShoreDay$Tokens" cX9_markKind 1 (some .int) "markKind" (d + 1) 0 0) (hY : eY E = lay1) {Q : Int32 → Hp → Prop} (eq : EQ E 0 0 (fun r h2 => ∃ x, r = [vI x] ∧ Q x h2)) {a0 : Int32} {h : Hp} {c n : Nat} (hc : c + 0 ≤ 0) (hn : n + 0 ≤ 0) (w : w_X9_markKind_104  Q a0 h) : SW E 104 ([some (vI (a0))], [], h, c, n) := by
  exact k_X9_markKind_104 cx hY eq (by omega) (by omega) ⟨_, rfl, w⟩
theorem s_X9_markKind_107 {E : EnvT} {d : Nat} (cx : CX E "ShoreDay$Tokens" cX9_markKind 1 (some .int) "markKind" (d + 1) 0 0) (hY : eY E = lay1) {Q : Int32 → Hp → Prop} (eq : EQ E 0 0 (fun r h2 => ∃ x, r = [vI x] ∧ Q x h2)) {a0 : Int32} {h : Hp} {c n : Nat} (hc : c + 0 ≤ 0) (hn : n + 0 ≤ 0) (w : w_X9_markKind_107  Q a0 h) : SW E 107 ([some (vI (a0))], [], h, c, n) := by
  exact k_X9_markKind_107 cx hY eq (by omega) (by omega) ⟨_, rfl, w⟩
theorem s_X9_markKind_125 {E : EnvT} {d : Nat} (cx : CX E "ShoreDay$Tokens" cX9_markKind 1 (some .int) "markKind" (d + 1) 0 0) (hY : eY E = lay1) {Q : Int32 → Hp → Prop} (eq : EQ E 0 0 (fun r h2 => ∃ x, r = [vI x] ∧ Q x h2)) {a0 : Int32} {h : Hp} {c n : Nat} (hc : c + 0 ≤ 0) (hn : n + 0 ≤ 0) (w : w_X9_markKind_125  Q a0 h) : SW E 125 ([some (vI (a0))], [], h, c, n) := by
  exact k_X9_markKind_125 cx hY eq (by omega) (by omega) ⟨_, rfl, w⟩
theorem s_X9_markKind_116 {E : EnvT} {d : Nat} (cx : CX E "ShoreDay$Tokens" cX9_markKind 1 (some .int) "markKind" (d + 1) 0 0) (hY : eY E = lay1) {Q : Int32 → Hp → Prop} (eq : EQ E 0 0 (fun r h2 => ∃ x, r = [vI x] ∧ Q x h2)) {a0 : Int32} {h : Hp} {c n : Nat} (hc : c + 0 ≤ 0) (hn : n + 0 ≤ 0) (w : w_X9_markKind_116  Q a0 h) : SW E 116 ([some (vI (a0))], [], h, c, n) := by
  exact k_X9_markKind_116 cx hY eq (by omega) (by omega) ⟨_, rfl, w⟩
theorem s_X9_markKind_119 {E : EnvT} {d : Nat} (cx : CX E "ShoreDay$Tokens" cX9_markKind 1 (some .int) "markKind" (d + 1) 0 0) (hY : eY E = lay1) {Q : Int32 → Hp → Prop} (eq : EQ E 0 0 (fun r h2 => ∃ x, r = [vI x] ∧ Q x h2)) {a0 : Int32} {h : Hp} {c n : Nat} (hc : c + 0 ≤ 0) (hn : n + 0 ≤ 0) (w : w_X9_markKind_119  Q a0 h) : SW E 119 ([some (vI (a0))], [], h, c, n) := by
  exact k_X9_markKind_119 cx hY eq (by omega) (by omega) ⟨_, rfl, w⟩
theorem s_X9_markKind_122 {E : EnvT} {d : Nat} (cx : CX E "ShoreDay$Tokens" cX9_markKind 1 (some .int) "markKind" (d + 1) 0 0) (hY : eY E = lay1) {Q : Int32 → Hp → Prop} (eq : EQ E 0 0 (fun r h2 => ∃ x, r = [vI x] ∧ Q x h2)) {a0 : Int32} {h : Hp} {c n : Nat} (hc : c + 0 ≤ 0) (hn : n + 0 ≤ 0) (w : w_X9_markKind_122  Q a0 h) : SW E 122 ([some (vI (a0))], [], h, c, n) := by
  exact k_X9_markKind_122 cx hY eq (by omega) (by omega) ⟨_, rfl, w⟩
theorem s_X9_markKind_110 {E : EnvT} {d : Nat} (cx : CX E "ShoreDay$Tokens" cX9_markKind 1 (some .int) "markKind" (d + 1) 0 0) (hY : eY E = lay1) {Q : Int32 → Hp → Prop} (eq : EQ E 0 0 (fun r h2 => ∃ x, r = [vI x] ∧ Q x h2)) {a0 : Int32} {h : Hp} {c n : Nat} (hc : c + 0 ≤ 0) (hn : n + 0 ≤ 0) (w : w_X9_markKind_110  Q a0 h) : SW E 110 ([some (vI (a0))], [], h, c, n) := by
  exact k_X9_markKind_110 cx hY eq (by omega) (by omega) ⟨_, rfl, w⟩
theorem s_X9_markKind_113 {E : EnvT} {d : Nat} (cx : CX E "ShoreDay$Tokens" cX9_markKind 1 (some .int) "markKind" (d + 1) 0 0) (hY : eY E = lay1) {Q : Int32 → Hp → Prop} (eq : EQ E 0 0 (fun r h2 => ∃ x, r = [vI x] ∧ Q x h2)) {a0 : Int32} {h : Hp} {c n : Nat} (hc : c + 0 ≤ 0) (hn : n + 0 ≤ 0) (w : w_X9_markKind_113  Q a0 h) : SW E 113 ([some (vI (a0))], [], h, c, n) := by
  exact k_X9_markKind_113 cx hY eq (by omega) (by omega) ⟨_, rfl, w⟩
theorem s_X9_markKind_0 {E : EnvT} {d : Nat} (cx : CX E "ShoreDay$Tokens" cX9_markKind 1 (some .int) "markKind" (d + 1) 0 0) (hY : eY E = lay1) {Q : Int32 → Hp → Prop} (eq : EQ E 0 0 (fun r h2 => ∃ x, r = [vI x] ∧ Q x h2)) {a0 : Int32} {h : Hp} {c n : Nat} (hc : c + 0 ≤ 0) (hn : n + 0 ≤ 0) (w : w_X9_markKind_0  Q a0 h) : SW E 0 ([some (vI (a0))], [], h, c, n) := by
  refine k_X9_markKind_0 cx hY (fun q => ?_) (fun j t hj q => ?_)
  · have w := w.1 q
    exact s_X9_markKind_125 cx hY eq  (by omega) (by omega) w
  · match j, hj, q with
    | 0, hj, q =>
      cases hj
      have w := w.2.1 (by omega)
      exact s_X9_markKind_104 cx hY eq  (by omega) (by omega) w
    | 1, hj, q =>
      cases hj
      have w := w.2.2.1 (by omega)
      exact s_X9_markKind_107 cx hY eq  (by omega) (by omega) w
    | 2, hj, q =>
      cases hj
      have w := w.2.2.2.1 (by omega)
      exact s_X9_markKind_125 cx hY eq  (by omega) (by omega) w
    | 3, hj, q =>
      cases hj
      have w := w.2.2.2.2.1 (by omega)
      exact s_X9_markKind_116 cx hY eq  (by omega) (by omega) w
    | 4, hj, q =>
      cases hj
      have w := w.2.2.2.2.2.1 (by omega)
      exact s_X9_markKind_125 cx hY eq  (by omega) (by omega) w
    | 5, hj, q =>
      cases hj
      have w := w.2.2.2.2.2.2.1 (by omega)
      exact s_X9_markKind_119 cx hY eq  (by omega) (by omega) w
    | 6, hj, q =>
      cases hj
      have w := w.2.2.2.2.2.2.2.1 (by omega)
      exact s_X9_markKind_125 cx hY eq  (by omega) (by omega) w
    | 7, hj, q =>
      cases hj
      have w := w.2.2.2.2.2.2.2.2.1 (by omega)
      exact s_X9_markKind_125 cx hY eq  (by omega) (by omega) w
    | 8, hj, q =>
      cases hj
      have w := w.2.2.2.2.2.2.2.2.2.1 (by omega)
      exact s_X9_markKind_125 cx hY eq  (by omega) (by omega) w
    | 9, hj, q =>
      cases hj
      have w := w.2.2.2.2.2.2.2.2.2.2.1 (by omega)
      exact s_X9_markKind_125 cx hY eq  (by omega) (by omega) w
    | 10, hj, q =>
      cases hj
      have w := w.2.2.2.2.2.2.2.2.2.2.2.1 (by omega)
      exact s_X9_markKind_125 cx hY eq  (by omega) (by omega) w
    | 11, hj, q =>
      cases hj
      have w := w.2.2.2.2.2.2.2.2.2.2.2.2.1 (by omega)
      exact s_X9_markKind_125 cx hY eq  (by omega) (by omega) w
    | 12, hj, q =>
      cases hj
      have w := w.2.2.2.2.2.2.2.2.2.2.2.2.2.1 (by omega)
      exact s_X9_markKind_125 cx hY eq  (by omega) (by omega) w
    | 13, hj, q =>
      cases hj
      have w := w.2.2.2.2.2.2.2.2.2.2.2.2.2.2.1 (by omega)
      exact s_X9_markKind_125 cx hY eq  (by omega) (by omega) w
    | 14, hj, q =>
      cases hj
      have w := w.2.2.2.2.2.2.2.2.2.2.2.2.2.2.2.1 (by omega)
      exact s_X9_markKind_125 cx hY eq  (by omega) (by omega) w
    | 15, hj, q =>
      cases hj
      have w := w.2.2.2.2.2.2.2.2.2.2.2.2.2.2.2.2.1 (by omega)
      exact s_X9_markKind_125 cx hY eq  (by omega) (by omega) w
    | 16, hj, q =>
      cases hj
      have w := w.2.2.2.2.2.2.2.2.2.2.2.2.2.2.2.2.2.1 (by omega)
      exact s_X9_markKind_125 cx hY eq  (by omega) (by omega) w
    | 17, hj, q =>
      cases hj
      have w := w.2.2.2.2.2.2.2.2.2.2.2.2.2.2.2.2.2.2.1 (by omega)
      exact s_X9_markKind_125 cx hY eq  (by omega) (by omega) w
    | 18, hj, q =>
      cases hj
      have w := w.2.2.2.2.2.2.2.2.2.2.2.2.2.2.2.2.2.2.2.1 (by omega)
      exact s_X9_markKind_125 cx hY eq  (by omega) (by omega) w
    | 19, hj, q =>
      cases hj
      have w := w.2.2.2.2.2.2.2.2.2.2.2.2.2.2.2.2.2.2.2.2.1 (by omega)
      exact s_X9_markKind_122 cx hY eq  (by omega) (by omega) w
    | 20, hj, q =>
      cases hj
      have w := w.2.2.2.2.2.2.2.2.2.2.2.2.2.2.2.2.2.2.2.2.2.1 (by omega)
      exact s_X9_markKind_110 cx hY eq  (by omega) (by omega) w
    | 21, hj, q =>
      cases hj
      have w := w.2.2.2.2.2.2.2.2.2.2.2.2.2.2.2.2.2.2.2.2.2.2 (by omega)
      exact s_X9_markKind_113 cx hY eq  (by omega) (by omega) w
    | j + 22, hj, _ => simp at hj
def wp_X9_markKind (a0 : Int32) (h : Hp) (Q : Int32 → Hp → Prop) : Prop := w_X9_markKind_0 Q a0 h
theorem vc_X9_markKind {l : Launch} {d : Nat} {a0 : Int32} {h : Hp} {Q : Int32 → Hp → Prop} (w : wp_X9_markKind a0 h Q) : Ct l lay1 yX9_markKind cX9_markKind 1 (some .int) (d + 1) 0 0 [vI a0] h (fun r h2 => ∃ x, r = [vI x] ∧ Q x h2) := by
  exact Ct.of (by decide) (Nat.le_of_ble_eq_true rfl) fun E cx eq hl hY => s_X9_markKind_0 cx hY eq (Nat.le_refl _) (Nat.le_refl _) w
def w_X9_isBlank_17 (Q : Int32 → Hp → Prop) (a0 : Int32) (s0 : Int32) (h : Hp) : Prop := ((s0) = 0 ∨ (s0) = 1) ∧ Q (s0) (h)
def w_X9_isBlank_12 (Q : Int32 → Hp → Prop) (a0 : Int32) (h : Hp) : Prop := w_X9_isBlank_17  Q (a0) ((1 : Int32)) (h)
def w_X9_isBlank_16 (Q : Int32 → Hp → Prop) (a0 : Int32) (h : Hp) : Prop := w_X9_isBlank_17  Q (a0) ((0 : Int32)) (h)
def w_X9_isBlank_6 (Q : Int32 → Hp → Prop) (a0 : Int32) (h : Hp) : Prop := (¬ (a0) = ((32 : Int32)) → w_X9_isBlank_16  Q (a0) (h)) ∧ ((a0) = ((32 : Int32)) → w_X9_isBlank_12  Q (a0) (h))
def w_X9_isBlank_0 (Q : Int32 → Hp → Prop) (a0 : Int32) (h : Hp) : Prop := ((a0) = ((10 : Int32)) → w_X9_isBlank_12  Q (a0) (h)) ∧ (¬ (a0) = ((10 : Int32)) → w_X9_isBlank_6  Q (a0) (h))
theorem s_X9_isBlank_17 {E : EnvT} {d : Nat} (cx : CX E "ShoreDay$Tokens" cX9_isBlank 1 (some .boolean) "isBlank" (d + 1) 0 0) (hY : eY E = lay1) {Q : Int32 → Hp → Prop} (eq : EQ E 0 0 (fun r h2 => ∃ x, r = [vI x] ∧ Q x h2)) {a0 : Int32} {s0 : Int32} {h : Hp} {c n : Nat} (hc : c + 0 ≤ 0) (hn : n + 0 ≤ 0) (w : w_X9_isBlank_17  Q a0 s0 h) : SW E 17 ([some (vI (a0))], [vI (s0)], h, c, n) := by
  exact k_X9_isBlank_17 cx hY eq (by omega) (by omega) w.1 ⟨_, rfl, w.2⟩
theorem s_X9_isBlank_12 {E : EnvT} {d : Nat} (cx : CX E "ShoreDay$Tokens" cX9_isBlank 1 (some .boolean) "isBlank" (d + 1) 0 0) (hY : eY E = lay1) {Q : Int32 → Hp → Prop} (eq : EQ E 0 0 (fun r h2 => ∃ x, r = [vI x] ∧ Q x h2)) {a0 : Int32} {h : Hp} {c n : Nat} (hc : c + 0 ≤ 0) (hn : n + 0 ≤ 0) (w : w_X9_isBlank_12  Q a0 h) : SW E 12 ([some (vI (a0))], [], h, c, n) := by
  refine k_X9_isBlank_12 cx hY ?_
  exact s_X9_isBlank_17 cx hY eq  (by omega) (by omega) w
theorem s_X9_isBlank_16 {E : EnvT} {d : Nat} (cx : CX E "ShoreDay$Tokens" cX9_isBlank 1 (some .boolean) "isBlank" (d + 1) 0 0) (hY : eY E = lay1) {Q : Int32 → Hp → Prop} (eq : EQ E 0 0 (fun r h2 => ∃ x, r = [vI x] ∧ Q x h2)) {a0 : Int32} {h : Hp} {c n : Nat} (hc : c + 0 ≤ 0) (hn : n + 0 ≤ 0) (w : w_X9_isBlank_16  Q a0 h) : SW E 16 ([some (vI (a0))], [], h, c, n) := by
  refine k_X9_isBlank_16 cx hY ?_
  exact s_X9_isBlank_17 cx hY eq  (by omega) (by omega) w
theorem s_X9_isBlank_6 {E : EnvT} {d : Nat} (cx : CX E "ShoreDay$Tokens" cX9_isBlank 1 (some .boolean) "isBlank" (d + 1) 0 0) (hY : eY E = lay1) {Q : Int32 → Hp → Prop} (eq : EQ E 0 0 (fun r h2 => ∃ x, r = [vI x] ∧ Q x h2)) {a0 : Int32} {h : Hp} {c n : Nat} (hc : c + 0 ≤ 0) (hn : n + 0 ≤ 0) (w : w_X9_isBlank_6  Q a0 h) : SW E 6 ([some (vI (a0))], [], h, c, n) := by
  refine k_X9_isBlank_6 cx hY (fun q => ?_) (fun q => ?_)
  · have w := w.1 q
    exact s_X9_isBlank_16 cx hY eq  (by omega) (by omega) w
  · have w := w.2 q
    exact s_X9_isBlank_12 cx hY eq  (by omega) (by omega) w
theorem s_X9_isBlank_0 {E : EnvT} {d : Nat} (cx : CX E "ShoreDay$Tokens" cX9_isBlank 1 (some .boolean) "isBlank" (d + 1) 0 0) (hY : eY E = lay1) {Q : Int32 → Hp → Prop} (eq : EQ E 0 0 (fun r h2 => ∃ x, r = [vI x] ∧ Q x h2)) {a0 : Int32} {h : Hp} {c n : Nat} (hc : c + 0 ≤ 0) (hn : n + 0 ≤ 0) (w : w_X9_isBlank_0  Q a0 h) : SW E 0 ([some (vI (a0))], [], h, c, n) := by
  refine k_X9_isBlank_0 cx hY (fun q => ?_) (fun q => ?_)
  · have w := w.1 q
    exact s_X9_isBlank_12 cx hY eq  (by omega) (by omega) w
  · have w := w.2 q
    exact s_X9_isBlank_6 cx hY eq  (by omega) (by omega) w
def wp_X9_isBlank (a0 : Int32) (h : Hp) (Q : Int32 → Hp → Prop) : Prop := w_X9_isBlank_0 Q a0 h
theorem vc_X9_isBlank {l : Launch} {d : Nat} {a0 : Int32} {h : Hp} {Q : Int32 → Hp → Prop} (w : wp_X9_isBlank a0 h Q) : Ct l lay1 yX9_isBlank cX9_isBlank 1 (some .boolean) (d + 1) 0 0 [vI a0] h (fun r h2 => ∃ x, r = [vI x] ∧ Q x h2) := by
  exact Ct.of (by decide) (Nat.le_of_ble_eq_true rfl) fun E cx eq hl hY => s_X9_isBlank_0 cx hY eq (Nat.le_refl _) (Nat.le_refl _) w
def w_X9_isLetter_17 (Q : Int32 → Hp → Prop) (a0 : Int32) (s0 : Int32) (h : Hp) : Prop := ((s0) = 0 ∨ (s0) = 1) ∧ Q (s0) (h)
def w_X9_isLetter_16 (Q : Int32 → Hp → Prop) (a0 : Int32) (h : Hp) : Prop := w_X9_isLetter_17  Q (a0) ((0 : Int32)) (h)
def w_X9_isLetter_12 (Q : Int32 → Hp → Prop) (a0 : Int32) (h : Hp) : Prop := w_X9_isLetter_17  Q (a0) ((1 : Int32)) (h)
def w_X9_isLetter_6 (Q : Int32 → Hp → Prop) (a0 : Int32) (h : Hp) : Prop := (((122 : Int32)) < (a0) → w_X9_isLetter_16  Q (a0) (h)) ∧ (¬ ((122 : Int32)) < (a0) → w_X9_isLetter_12  Q (a0) (h))
def w_X9_isLetter_0 (Q : Int32 → Hp → Prop) (a0 : Int32) (h : Hp) : Prop := ((a0) < ((97 : Int32)) → w_X9_isLetter_16  Q (a0) (h)) ∧ (¬ (a0) < ((97 : Int32)) → w_X9_isLetter_6  Q (a0) (h))
theorem s_X9_isLetter_17 {E : EnvT} {d : Nat} (cx : CX E "ShoreDay$Tokens" cX9_isLetter 1 (some .boolean) "isLetter" (d + 1) 0 0) (hY : eY E = lay1) {Q : Int32 → Hp → Prop} (eq : EQ E 0 0 (fun r h2 => ∃ x, r = [vI x] ∧ Q x h2)) {a0 : Int32} {s0 : Int32} {h : Hp} {c n : Nat} (hc : c + 0 ≤ 0) (hn : n + 0 ≤ 0) (w : w_X9_isLetter_17  Q a0 s0 h) : SW E 17 ([some (vI (a0))], [vI (s0)], h, c, n) := by
  exact k_X9_isLetter_17 cx hY eq (by omega) (by omega) w.1 ⟨_, rfl, w.2⟩
theorem s_X9_isLetter_16 {E : EnvT} {d : Nat} (cx : CX E "ShoreDay$Tokens" cX9_isLetter 1 (some .boolean) "isLetter" (d + 1) 0 0) (hY : eY E = lay1) {Q : Int32 → Hp → Prop} (eq : EQ E 0 0 (fun r h2 => ∃ x, r = [vI x] ∧ Q x h2)) {a0 : Int32} {h : Hp} {c n : Nat} (hc : c + 0 ≤ 0) (hn : n + 0 ≤ 0) (w : w_X9_isLetter_16  Q a0 h) : SW E 16 ([some (vI (a0))], [], h, c, n) := by
  refine k_X9_isLetter_16 cx hY ?_
  exact s_X9_isLetter_17 cx hY eq  (by omega) (by omega) w
theorem s_X9_isLetter_12 {E : EnvT} {d : Nat} (cx : CX E "ShoreDay$Tokens" cX9_isLetter 1 (some .boolean) "isLetter" (d + 1) 0 0) (hY : eY E = lay1) {Q : Int32 → Hp → Prop} (eq : EQ E 0 0 (fun r h2 => ∃ x, r = [vI x] ∧ Q x h2)) {a0 : Int32} {h : Hp} {c n : Nat} (hc : c + 0 ≤ 0) (hn : n + 0 ≤ 0) (w : w_X9_isLetter_12  Q a0 h) : SW E 12 ([some (vI (a0))], [], h, c, n) := by
  refine k_X9_isLetter_12 cx hY ?_
  exact s_X9_isLetter_17 cx hY eq  (by omega) (by omega) w
theorem s_X9_isLetter_6 {E : EnvT} {d : Nat} (cx : CX E "ShoreDay$Tokens" cX9_isLetter 1 (some .boolean) "isLetter" (d + 1) 0 0) (hY : eY E = lay1) {Q : Int32 → Hp → Prop} (eq : EQ E 0 0 (fun r h2 => ∃ x, r = [vI x] ∧ Q x h2)) {a0 : Int32} {h : Hp} {c n : Nat} (hc : c + 0 ≤ 0) (hn : n + 0 ≤ 0) (w : w_X9_isLetter_6  Q a0 h) : SW E 6 ([some (vI (a0))], [], h, c, n) := by
  refine k_X9_isLetter_6 cx hY (fun q => ?_) (fun q => ?_)
  · have w := w.1 q
    exact s_X9_isLetter_16 cx hY eq  (by omega) (by omega) w
  · have w := w.2 q
    exact s_X9_isLetter_12 cx hY eq  (by omega) (by omega) w
theorem s_X9_isLetter_0 {E : EnvT} {d : Nat} (cx : CX E "ShoreDay$Tokens" cX9_isLetter 1 (some .boolean) "isLetter" (d + 1) 0 0) (hY : eY E = lay1) {Q : Int32 → Hp → Prop} (eq : EQ E 0 0 (fun r h2 => ∃ x, r = [vI x] ∧ Q x h2)) {a0 : Int32} {h : Hp} {c n : Nat} (hc : c + 0 ≤ 0) (hn : n + 0 ≤ 0) (w : w_X9_isLetter_0  Q a0 h) : SW E 0 ([some (vI (a0))], [], h, c, n) := by
  refine k_X9_isLetter_0 cx hY (fun q => ?_) (fun q => ?_)
  · have w := w.1 q
    exact s_X9_isLetter_16 cx hY eq  (by omega) (by omega) w
  · have w := w.2 q
    exact s_X9_isLetter_6 cx hY eq  (by omega) (by omega) w
def wp_X9_isLetter (a0 : Int32) (h : Hp) (Q : Int32 → Hp → Prop) : Prop := w_X9_isLetter_0 Q a0 h
theorem vc_X9_isLetter {l : Launch} {d : Nat} {a0 : Int32} {h : Hp} {Q : Int32 → Hp → Prop} (w : wp_X9_isLetter a0 h Q) : Ct l lay1 yX9_isLetter cX9_isLetter 1 (some .boolean) (d + 1) 0 0 [vI a0] h (fun r h2 => ∃ x, r = [vI x] ∧ Q x h2) := by
  exact Ct.of (by decide) (Nat.le_of_ble_eq_true rfl) fun E cx eq hl hY => s_X9_isLetter_0 cx hY eq (Nat.le_refl _) (Nat.le_refl _) w
def w_X9_isDigit_17 (Q : Int32 → Hp → Prop) (a0 : Int32) (s0 : Int32) (h : Hp) : Prop := ((s0) = 0 ∨ (s0) = 1) ∧ Q (s0) (h)
def w_X9_isDigit_16 (Q : Int32 → Hp → Prop) (a0 : Int32) (h : Hp) : Prop := w_X9_isDigit_17  Q (a0) ((0 : Int32)) (h)
def w_X9_isDigit_12 (Q : Int32 → Hp → Prop) (a0 : Int32) (h : Hp) : Prop := w_X9_isDigit_17  Q (a0) ((1 : Int32)) (h)
def w_X9_isDigit_6 (Q : Int32 → Hp → Prop) (a0 : Int32) (h : Hp) : Prop := (((57 : Int32)) < (a0) → w_X9_isDigit_16  Q (a0) (h)) ∧ (¬ ((57 : Int32)) < (a0) → w_X9_isDigit_12  Q (a0) (h))
def w_X9_isDigit_0 (Q : Int32 → Hp → Prop) (a0 : Int32) (h : Hp) : Prop := ((a0) < ((48 : Int32)) → w_X9_isDigit_16  Q (a0) (h)) ∧ (¬ (a0) < ((48 : Int32)) → w_X9_isDigit_6  Q (a0) (h))
theorem s_X9_isDigit_17 {E : EnvT} {d : Nat} (cx : CX E "ShoreDay$Tokens" cX9_isDigit 1 (some .boolean) "isDigit" (d + 1) 0 0) (hY : eY E = lay1) {Q : Int32 → Hp → Prop} (eq : EQ E 0 0 (fun r h2 => ∃ x, r = [vI x] ∧ Q x h2)) {a0 : Int32} {s0 : Int32} {h : Hp} {c n : Nat} (hc : c + 0 ≤ 0) (hn : n + 0 ≤ 0) (w : w_X9_isDigit_17  Q a0 s0 h) : SW E 17 ([some (vI (a0))], [vI (s0)], h, c, n) := by
  exact k_X9_isDigit_17 cx hY eq (by omega) (by omega) w.1 ⟨_, rfl, w.2⟩
theorem s_X9_isDigit_16 {E : EnvT} {d : Nat} (cx : CX E "ShoreDay$Tokens" cX9_isDigit 1 (some .boolean) "isDigit" (d + 1) 0 0) (hY : eY E = lay1) {Q : Int32 → Hp → Prop} (eq : EQ E 0 0 (fun r h2 => ∃ x, r = [vI x] ∧ Q x h2)) {a0 : Int32} {h : Hp} {c n : Nat} (hc : c + 0 ≤ 0) (hn : n + 0 ≤ 0) (w : w_X9_isDigit_16  Q a0 h) : SW E 16 ([some (vI (a0))], [], h, c, n) := by
  refine k_X9_isDigit_16 cx hY ?_
  exact s_X9_isDigit_17 cx hY eq  (by omega) (by omega) w
theorem s_X9_isDigit_12 {E : EnvT} {d : Nat} (cx : CX E "ShoreDay$Tokens" cX9_isDigit 1 (some .boolean) "isDigit" (d + 1) 0 0) (hY : eY E = lay1) {Q : Int32 → Hp → Prop} (eq : EQ E 0 0 (fun r h2 => ∃ x, r = [vI x] ∧ Q x h2)) {a0 : Int32} {h : Hp} {c n : Nat} (hc : c + 0 ≤ 0) (hn : n + 0 ≤ 0) (w : w_X9_isDigit_12  Q a0 h) : SW E 12 ([some (vI (a0))], [], h, c, n) := by
  refine k_X9_isDigit_12 cx hY ?_
  exact s_X9_isDigit_17 cx hY eq  (by omega) (by omega) w
theorem s_X9_isDigit_6 {E : EnvT} {d : Nat} (cx : CX E "ShoreDay$Tokens" cX9_isDigit 1 (some .boolean) "isDigit" (d + 1) 0 0) (hY : eY E = lay1) {Q : Int32 → Hp → Prop} (eq : EQ E 0 0 (fun r h2 => ∃ x, r = [vI x] ∧ Q x h2)) {a0 : Int32} {h : Hp} {c n : Nat} (hc : c + 0 ≤ 0) (hn : n + 0 ≤ 0) (w : w_X9_isDigit_6  Q a0 h) : SW E 6 ([some (vI (a0))], [], h, c, n) := by
  refine k_X9_isDigit_6 cx hY (fun q => ?_) (fun q => ?_)
  · have w := w.1 q
    exact s_X9_isDigit_16 cx hY eq  (by omega) (by omega) w
  · have w := w.2 q
    exact s_X9_isDigit_12 cx hY eq  (by omega) (by omega) w
theorem s_X9_isDigit_0 {E : EnvT} {d : Nat} (cx : CX E "ShoreDay$Tokens" cX9_isDigit 1 (some .boolean) "isDigit" (d + 1) 0 0) (hY : eY E = lay1) {Q : Int32 → Hp → Prop} (eq : EQ E 0 0 (fun r h2 => ∃ x, r = [vI x] ∧ Q x h2)) {a0 : Int32} {h : Hp} {c n : Nat} (hc : c + 0 ≤ 0) (hn : n + 0 ≤ 0) (w : w_X9_isDigit_0  Q a0 h) : SW E 0 ([some (vI (a0))], [], h, c, n) := by
  refine k_X9_isDigit_0 cx hY (fun q => ?_) (fun q => ?_)
  · have w := w.1 q
    exact s_X9_isDigit_16 cx hY eq  (by omega) (by omega) w
  · have w := w.2 q
    exact s_X9_isDigit_6 cx hY eq  (by omega) (by omega) w
def wp_X9_isDigit (a0 : Int32) (h : Hp) (Q : Int32 → Hp → Prop) : Prop := w_X9_isDigit_0 Q a0 h
theorem vc_X9_isDigit {l : Launch} {d : Nat} {a0 : Int32} {h : Hp} {Q : Int32 → Hp → Prop} (w : wp_X9_isDigit a0 h Q) : Ct l lay1 yX9_isDigit cX9_isDigit 1 (some .boolean) (d + 1) 0 0 [vI a0] h (fun r h2 => ∃ x, r = [vI x] ∧ Q x h2) := by
  exact Ct.of (by decide) (Nat.le_of_ble_eq_true rfl) fun E cx eq hl hY => s_X9_isDigit_0 cx hY eq (Nat.le_refl _) (Nat.le_refl _) w
def w_X10_init_0 (Q : Hp → Prop) (i0 : Nat) (a1 : Int32) (a2 : Int32) (a3 : Int32) (a4 : Int32) (h : Hp) : Prop := Q (wI (wI (wI (wI (h) 10 (i0) 0 (a1)) 10 (i0) 1 (a2)) 10 (i0) 2 (a3)) 10 (i0) 3 (a4))
theorem s_X10_init_0 {E : EnvT} {d : Nat} (cx : CX E "ShoreDay$Tour" cX10_init 5 none "<init>" (d + 1) 0 0) (hY : eY E = lay1) {Q : Hp → Prop} (eq : EQ E 0 0 (fun r h2 => r = [] ∧ Q h2)) {i0 : Nat} {a1 : Int32} {a2 : Int32} {a3 : Int32} {a4 : Int32} {h : Hp} {c n : Nat} (hc : c + 0 ≤ 0) (hn : n + 0 ≤ 0) (w : w_X10_init_0  Q i0 a1 a2 a3 a4 h) : SW E 0 ([some (vP (some (10, i0))), some (vI (a1)), some (vI (a2)), some (vI (a3)), some (vI (a4))], [], h, c, n) := by
  exact k_X10_init_0 cx hY eq (by omega) (by omega) ⟨rfl, w⟩
def wp_X10_init (i0 : Nat) (a1 : Int32) (a2 : Int32) (a3 : Int32) (a4 : Int32) (h : Hp) (Q : Hp → Prop) : Prop := w_X10_init_0 Q i0 a1 a2 a3 a4 h
theorem vc_X10_init {l : Launch} {d : Nat} {i0 : Nat} {a1 : Int32} {a2 : Int32} {a3 : Int32} {a4 : Int32} {h : Hp} {Q : Hp → Prop} (w : wp_X10_init i0 a1 a2 a3 a4 h Q) : Ct l lay1 yX10_init cX10_init 5 none (d + 1) 0 0 [vP (some (10, i0)), vI a1, vI a2, vI a3, vI a4] h (fun r h2 => r = [] ∧ Q h2) := by
  exact Ct.of (by decide) (Nat.le_of_ble_eq_true rfl) fun E cx eq hl hY => s_X10_init_0 cx hY eq (Nat.le_refl _) (Nat.le_refl _) w
def w_X11_shut_17 (Q : Int32 → Hp → Prop) (a1 : Int32) (a2 : Int32) (h : Hp) : Prop := Q ((0 : Int32)) (h)
def w_X11_shut_28 (Q : Int32 → Hp → Prop) (a1 : Int32) (a2 : Int32) (s0 : Int32) (h : Hp) : Prop := ((s0) = 0 ∨ (s0) = 1) ∧ Q (s0) (h)
def w_X11_shut_19 (Q : Int32 → Hp → Prop) (a1 : Int32) (a2 : Int32) (h : Hp) : Prop := wp_X5_addRow (a1) (a2) (h) (fun r2 h2 => w_X11_shut_28  Q (a1) (a2) (r2) (h2))
def w_X11_shut_10 (Q : Int32 → Hp → Prop) (a1 : Int32) (a2 : Int32) (h : Hp) : Prop := ((a2) ≤ ((719 : Int32)) → w_X11_shut_19  Q (a1) (a2) (h)) ∧ (¬ (a2) ≤ ((719 : Int32)) → w_X11_shut_17  Q (a1) (a2) (h))
def w_X11_shut_5 (Q : Int32 → Hp → Prop) (a1 : Int32) (a2 : Int32) (h : Hp) : Prop := ((a2) < (a1) → w_X11_shut_17  Q (a1) (a2) (h)) ∧ (¬ (a2) < (a1) → w_X11_shut_10  Q (a1) (a2) (h))
def w_X11_shut_0 (Q : Int32 → Hp → Prop) (a1 : Int32) (a2 : Int32) (h : Hp) : Prop := ((a1) < ((1 : Int32)) → w_X11_shut_17  Q (a1) (a2) (h)) ∧ (¬ (a1) < ((1 : Int32)) → w_X11_shut_5  Q (a1) (a2) (h))
theorem s_X11_shut_17 {E : EnvT} {d : Nat} (cx : CX E "ShoreDay" cX11_shut 3 (some .boolean) "shut" (d + 2) 0 0) (hY : eY E = lay1) {Q : Int32 → Hp → Prop} (eq : EQ E 0 0 (fun r h2 => ∃ x, r = [vI x] ∧ Q x h2)) {a1 : Int32} {a2 : Int32} {h : Hp} {c n : Nat} (hc : c + 0 ≤ 0) (hn : n + 0 ≤ 0) (w : w_X11_shut_17  Q a1 a2 h) : SW E 17 ([some (vP (some (11, 0))), some (vI (a1)), some (vI (a2))], [], h, c, n) := by
  exact k_X11_shut_17 cx hY eq (by omega) (by omega) ⟨_, rfl, w⟩
theorem s_X11_shut_28 {E : EnvT} {d : Nat} (cx : CX E "ShoreDay" cX11_shut 3 (some .boolean) "shut" (d + 2) 0 0) (hY : eY E = lay1) {Q : Int32 → Hp → Prop} (eq : EQ E 0 0 (fun r h2 => ∃ x, r = [vI x] ∧ Q x h2)) {a1 : Int32} {a2 : Int32} {s0 : Int32} {h : Hp} {c n : Nat} (hc : c + 0 ≤ 0) (hn : n + 0 ≤ 0) (w : w_X11_shut_28  Q a1 a2 s0 h) : SW E 28 ([some (vP (some (11, 0))), some (vI (a1)), some (vI (a2))], [vI (s0)], h, c, n) := by
  exact k_X11_shut_28 cx hY eq (by omega) (by omega) w.1 ⟨_, rfl, w.2⟩
theorem s_X11_shut_19 {E : EnvT} {d : Nat} (cx : CX E "ShoreDay" cX11_shut 3 (some .boolean) "shut" (d + 2) 0 0) (hY : eY E = lay1) {Q : Int32 → Hp → Prop} (eq : EQ E 0 0 (fun r h2 => ∃ x, r = [vI x] ∧ Q x h2)) {a1 : Int32} {a2 : Int32} {h : Hp} {c n : Nat} (hc : c + 0 ≤ 0) (hn : n + 0 ≤ 0) (w : w_X11_shut_19  Q a1 a2 h) : SW E 19 ([some (vP (some (11, 0))), some (vI (a1)), some (vI (a2))], [], h, c, n) := by
  refine k_X11_shut_19 cx hY (ctY hY (vc_X5_addRow (d := d + 0) w)) (by omega) (by omega) (by omega) (fun r h2 hp => ?_)
  obtain ⟨r2, rfl, w⟩ := hp
  exact s_X11_shut_28 cx hY eq  (by omega) (by omega) w
theorem s_X11_shut_10 {E : EnvT} {d : Nat} (cx : CX E "ShoreDay" cX11_shut 3 (some .boolean) "shut" (d + 2) 0 0) (hY : eY E = lay1) {Q : Int32 → Hp → Prop} (eq : EQ E 0 0 (fun r h2 => ∃ x, r = [vI x] ∧ Q x h2)) {a1 : Int32} {a2 : Int32} {h : Hp} {c n : Nat} (hc : c + 0 ≤ 0) (hn : n + 0 ≤ 0) (w : w_X11_shut_10  Q a1 a2 h) : SW E 10 ([some (vP (some (11, 0))), some (vI (a1)), some (vI (a2))], [], h, c, n) := by
  refine k_X11_shut_10 cx hY (fun q => ?_) (fun q => ?_)
  · have w := w.1 q
    exact s_X11_shut_19 cx hY eq  (by omega) (by omega) w
  · have w := w.2 q
    exact s_X11_shut_17 cx hY eq  (by omega) (by omega) w
theorem s_X11_shut_5 {E : EnvT} {d : Nat} (cx : CX E "ShoreDay" cX11_shut 3 (some .boolean) "shut" (d + 2) 0 0) (hY : eY E = lay1) {Q : Int32 → Hp → Prop} (eq : EQ E 0 0 (fun r h2 => ∃ x, r = [vI x] ∧ Q x h2)) {a1 : Int32} {a2 : Int32} {h : Hp} {c n : Nat} (hc : c + 0 ≤ 0) (hn : n + 0 ≤ 0) (w : w_X11_shut_5  Q a1 a2 h) : SW E 5 ([some (vP (some (11, 0))), some (vI (a1)), some (vI (a2))], [], h, c, n) := by
  refine k_X11_shut_5 cx hY (fun q => ?_) (fun q => ?_)
  · have w := w.1 q
    exact s_X11_shut_17 cx hY eq  (by omega) (by omega) w
  · have w := w.2 q
    exact s_X11_shut_10 cx hY eq  (by omega) (by omega) w
theorem s_X11_shut_0 {E : EnvT} {d : Nat} (cx : CX E "ShoreDay" cX11_shut 3 (some .boolean) "shut" (d + 2) 0 0) (hY : eY E = lay1) {Q : Int32 → Hp → Prop} (eq : EQ E 0 0 (fun r h2 => ∃ x, r = [vI x] ∧ Q x h2)) {a1 : Int32} {a2 : Int32} {h : Hp} {c n : Nat} (hc : c + 0 ≤ 0) (hn : n + 0 ≤ 0) (w : w_X11_shut_0  Q a1 a2 h) : SW E 0 ([some (vP (some (11, 0))), some (vI (a1)), some (vI (a2))], [], h, c, n) := by
  refine k_X11_shut_0 cx hY (fun q => ?_) (fun q => ?_)
  · have w := w.1 q
    exact s_X11_shut_17 cx hY eq  (by omega) (by omega) w
  · have w := w.2 q
    exact s_X11_shut_5 cx hY eq  (by omega) (by omega) w
def wp_X11_shut (a1 : Int32) (a2 : Int32) (h : Hp) (Q : Int32 → Hp → Prop) : Prop := w_X11_shut_0 Q a1 a2 h
theorem vc_X11_shut {l : Launch} {d : Nat} {a1 : Int32} {a2 : Int32} {h : Hp} {Q : Int32 → Hp → Prop} (w : wp_X11_shut a1 a2 h Q) : Ct l lay1 yX11_shut cX11_shut 3 (some .boolean) (d + 2) 0 0 [vP (some (11, 0)), vI a1, vI a2] h (fun r h2 => ∃ x, r = [vI x] ∧ Q x h2) := by
  exact Ct.of (by decide) (Nat.le_of_ble_eq_true rfl) fun E cx eq hl hY => s_X11_shut_0 cx hY eq (Nat.le_refl _) (Nat.le_refl _) w
def w_X11_within_15 (Q : Int32 → Hp → Prop) (a0 : Int32) (a1 : Int32) (a2 : Int32) (s0 : Int32) (h : Hp) : Prop := ((s0) = 0 ∨ (s0) = 1) ∧ Q (s0) (h)
def w_X11_within_14 (Q : Int32 → Hp → Prop) (a0 : Int32) (a1 : Int32) (a2 : Int32) (h : Hp) : Prop := w_X11_within_15  Q (a0) (a1) (a2) ((0 : Int32)) (h)
def w_X11_within_10 (Q : Int32 → Hp → Prop) (a0 : Int32) (a1 : Int32) (a2 : Int32) (h : Hp) : Prop := w_X11_within_15  Q (a0) (a1) (a2) ((1 : Int32)) (h)
def w_X11_within_5 (Q : Int32 → Hp → Prop) (a0 : Int32) (a1 : Int32) (a2 : Int32) (h : Hp) : Prop := ((a2) < (a0) → w_X11_within_14  Q (a0) (a1) (a2) (h)) ∧ (¬ (a2) < (a0) → w_X11_within_10  Q (a0) (a1) (a2) (h))
def w_X11_within_0 (Q : Int32 → Hp → Prop) (a0 : Int32) (a1 : Int32) (a2 : Int32) (h : Hp) : Prop := ((a0) < (a1) → w_X11_within_14  Q (a0) (a1) (a2) (h)) ∧ (¬ (a0) < (a1) → w_X11_within_5  Q (a0) (a1) (a2) (h))
theorem s_X11_within_15 {E : EnvT} {d : Nat} (cx : CX E "ShoreDay" cX11_within 3 (some .boolean) "within" (d + 1) 0 0) (hY : eY E = lay1) {Q : Int32 → Hp → Prop} (eq : EQ E 0 0 (fun r h2 => ∃ x, r = [vI x] ∧ Q x h2)) {a0 : Int32} {a1 : Int32} {a2 : Int32} {s0 : Int32} {h : Hp} {c n : Nat} (hc : c + 0 ≤ 0) (hn : n + 0 ≤ 0) (w : w_X11_within_15  Q a0 a1 a2 s0 h) : SW E 15 ([some (vI (a0)), some (vI (a1)), some (vI (a2))], [vI (s0)], h, c, n) := by
  exact k_X11_within_15 cx hY eq (by omega) (by omega) w.1 ⟨_, rfl, w.2⟩
theorem s_X11_within_14 {E : EnvT} {d : Nat} (cx : CX E "ShoreDay" cX11_within 3 (some .boolean) "within" (d + 1) 0 0) (hY : eY E = lay1) {Q : Int32 → Hp → Prop} (eq : EQ E 0 0 (fun r h2 => ∃ x, r = [vI x] ∧ Q x h2)) {a0 : Int32} {a1 : Int32} {a2 : Int32} {h : Hp} {c n : Nat} (hc : c + 0 ≤ 0) (hn : n + 0 ≤ 0) (w : w_X11_within_14  Q a0 a1 a2 h) : SW E 14 ([some (vI (a0)), some (vI (a1)), some (vI (a2))], [], h, c, n) := by
  refine k_X11_within_14 cx hY ?_
  exact s_X11_within_15 cx hY eq  (by omega) (by omega) w
theorem s_X11_within_10 {E : EnvT} {d : Nat} (cx : CX E "ShoreDay" cX11_within 3 (some .boolean) "within" (d + 1) 0 0) (hY : eY E = lay1) {Q : Int32 → Hp → Prop} (eq : EQ E 0 0 (fun r h2 => ∃ x, r = [vI x] ∧ Q x h2)) {a0 : Int32} {a1 : Int32} {a2 : Int32} {h : Hp} {c n : Nat} (hc : c + 0 ≤ 0) (hn : n + 0 ≤ 0) (w : w_X11_within_10  Q a0 a1 a2 h) : SW E 10 ([some (vI (a0)), some (vI (a1)), some (vI (a2))], [], h, c, n) := by
  refine k_X11_within_10 cx hY ?_
  exact s_X11_within_15 cx hY eq  (by omega) (by omega) w
theorem s_X11_within_5 {E : EnvT} {d : Nat} (cx : CX E "ShoreDay" cX11_within 3 (some .boolean) "within" (d + 1) 0 0) (hY : eY E = lay1) {Q : Int32 → Hp → Prop} (eq : EQ E 0 0 (fun r h2 => ∃ x, r = [vI x] ∧ Q x h2)) {a0 : Int32} {a1 : Int32} {a2 : Int32} {h : Hp} {c n : Nat} (hc : c + 0 ≤ 0) (hn : n + 0 ≤ 0) (w : w_X11_within_5  Q a0 a1 a2 h) : SW E 5 ([some (vI (a0)), some (vI (a1)), some (vI (a2))], [], h, c, n) := by
  refine k_X11_within_5 cx hY (fun q => ?_) (fun q => ?_)
  · have w := w.1 q
    exact s_X11_within_14 cx hY eq  (by omega) (by omega) w
  · have w := w.2 q
    exact s_X11_within_10 cx hY eq  (by omega) (by omega) w
theorem s_X11_within_0 {E : EnvT} {d : Nat} (cx : CX E "ShoreDay" cX11_within 3 (some .boolean) "within" (d + 1) 0 0) (hY : eY E = lay1) {Q : Int32 → Hp → Prop} (eq : EQ E 0 0 (fun r h2 => ∃ x, r = [vI x] ∧ Q x h2)) {a0 : Int32} {a1 : Int32} {a2 : Int32} {h : Hp} {c n : Nat} (hc : c + 0 ≤ 0) (hn : n + 0 ≤ 0) (w : w_X11_within_0  Q a0 a1 a2 h) : SW E 0 ([some (vI (a0)), some (vI (a1)), some (vI (a2))], [], h, c, n) := by
  refine k_X11_within_0 cx hY (fun q => ?_) (fun q => ?_)
  · have w := w.1 q
    exact s_X11_within_14 cx hY eq  (by omega) (by omega) w
  · have w := w.2 q
    exact s_X11_within_5 cx hY eq  (by omega) (by omega) w
def wp_X11_within (a0 : Int32) (a1 : Int32) (a2 : Int32) (h : Hp) (Q : Int32 → Hp → Prop) : Prop := w_X11_within_0 Q a0 a1 a2 h
theorem vc_X11_within {l : Launch} {d : Nat} {a0 : Int32} {a1 : Int32} {a2 : Int32} {h : Hp} {Q : Int32 → Hp → Prop} (w : wp_X11_within a0 a1 a2 h Q) : Ct l lay1 yX11_within cX11_within 3 (some .boolean) (d + 1) 0 0 [vI a0, vI a1, vI a2] h (fun r h2 => ∃ x, r = [vI x] ∧ Q x h2) := by
  exact Ct.of (by decide) (Nat.le_of_ble_eq_true rfl) fun E cx eq hl hY => s_X11_within_0 cx hY eq (Nat.le_refl _) (Nat.le_refl _) w
def w_X11_shipAt_24 (Q : Option PtrT → Hp → Prop) (a1 : Int32) (q0 : Option PtrT) (h : Hp) : Prop := Q (q0) (h)
def w_X11_shipAt_23 (Q : Option PtrT → Hp → Prop) (a1 : Int32) (h : Hp) : Prop := w_X11_shipAt_24  Q (a1) (none) (h)
def w_X11_shipAt_14 (Q : Option PtrT → Hp → Prop) (a1 : Int32) (h : Hp) : Prop := vp_in (a1) 4 ∧ (w_X11_shipAt_24  Q (a1) (gP (h) 20 (0) (tN (a1))) (h))
def w_X11_shipAt_11 (Q : Option PtrT → Hp → Prop) (a1 : Int32) (s0 : Int32) (h : Hp) : Prop := ((s0) = 0 → w_X11_shipAt_23  Q (a1) (h)) ∧ (¬ (s0) = 0 → w_X11_shipAt_14  Q (a1) (h))
def w_X11_shipAt_0 (Q : Option PtrT → Hp → Prop) (a1 : Int32) (h : Hp) : Prop := wp_X11_within (a1) ((0 : Int32)) ((gI (h) 11 (0) (1)) - ((1 : Int32))) (h) (fun r2 h2 => w_X11_shipAt_11  Q (a1) (r2) (h2))
theorem s_X11_shipAt_24 {E : EnvT} {d : Nat} (cx : CX E "ShoreDay" cX11_shipAt 2 (some (.object "ShoreDay$Ship")) "shipAt" (d + 2) 0 0) (hY : eY E = lay1) {Q : Option PtrT → Hp → Prop} (eq : EQ E 0 0 (fun r h2 => ∃ x, r = [vP x] ∧ Q x h2)) {a1 : Int32} {q0 : Option PtrT} {h : Hp} {c n : Nat} (hc : c + 0 ≤ 0) (hn : n + 0 ≤ 0) (w : w_X11_shipAt_24  Q a1 q0 h) : SW E 24 ([some (vP (some (11, 0))), some (vI (a1))], [vP (q0)], h, c, n) := by
  exact k_X11_shipAt_24 cx hY eq (by omega) (by omega) ⟨_, rfl, w⟩
theorem s_X11_shipAt_23 {E : EnvT} {d : Nat} (cx : CX E "ShoreDay" cX11_shipAt 2 (some (.object "ShoreDay$Ship")) "shipAt" (d + 2) 0 0) (hY : eY E = lay1) {Q : Option PtrT → Hp → Prop} (eq : EQ E 0 0 (fun r h2 => ∃ x, r = [vP x] ∧ Q x h2)) {a1 : Int32} {h : Hp} {c n : Nat} (hc : c + 0 ≤ 0) (hn : n + 0 ≤ 0) (w : w_X11_shipAt_23  Q a1 h) : SW E 23 ([some (vP (some (11, 0))), some (vI (a1))], [], h, c, n) := by
  refine k_X11_shipAt_23 cx hY ?_
  exact s_X11_shipAt_24 cx hY eq  (by omega) (by omega) w
theorem s_X11_shipAt_14 {E : EnvT} {d : Nat} (cx : CX E "ShoreDay" cX11_shipAt 2 (some (.object "ShoreDay$Ship")) "shipAt" (d + 2) 0 0) (hY : eY E = lay1) {Q : Option PtrT → Hp → Prop} (eq : EQ E 0 0 (fun r h2 => ∃ x, r = [vP x] ∧ Q x h2)) {a1 : Int32} {h : Hp} {c n : Nat} (hc : c + 0 ≤ 0) (hn : n + 0 ≤ 0) (w : w_X11_shipAt_14  Q a1 h) : SW E 14 ([some (vP (some (11, 0))), some (vI (a1))], [], h, c, n) := by
  obtain ⟨G1, w⟩ := w
  refine k_X11_shipAt_14 cx hY G1 ?_
  exact s_X11_shipAt_24 cx hY eq  (by omega) (by omega) w
theorem s_X11_shipAt_11 {E : EnvT} {d : Nat} (cx : CX E "ShoreDay" cX11_shipAt 2 (some (.object "ShoreDay$Ship")) "shipAt" (d + 2) 0 0) (hY : eY E = lay1) {Q : Option PtrT → Hp → Prop} (eq : EQ E 0 0 (fun r h2 => ∃ x, r = [vP x] ∧ Q x h2)) {a1 : Int32} {s0 : Int32} {h : Hp} {c n : Nat} (hc : c + 0 ≤ 0) (hn : n + 0 ≤ 0) (w : w_X11_shipAt_11  Q a1 s0 h) : SW E 11 ([some (vP (some (11, 0))), some (vI (a1))], [vI (s0)], h, c, n) := by
  refine k_X11_shipAt_11 cx hY (fun q => ?_) (fun q => ?_)
  · have w := w.1 q
    exact s_X11_shipAt_23 cx hY eq  (by omega) (by omega) w
  · have w := w.2 q
    exact s_X11_shipAt_14 cx hY eq  (by omega) (by omega) w
theorem s_X11_shipAt_0 {E : EnvT} {d : Nat} (cx : CX E "ShoreDay" cX11_shipAt 2 (some (.object "ShoreDay$Ship")) "shipAt" (d + 2) 0 0) (hY : eY E = lay1) {Q : Option PtrT → Hp → Prop} (eq : EQ E 0 0 (fun r h2 => ∃ x, r = [vP x] ∧ Q x h2)) {a1 : Int32} {h : Hp} {c n : Nat} (hc : c + 0 ≤ 0) (hn : n + 0 ≤ 0) (w : w_X11_shipAt_0  Q a1 h) : SW E 0 ([some (vP (some (11, 0))), some (vI (a1))], [], h, c, n) := by
  refine k_X11_shipAt_0 cx hY (ctY hY (vc_X11_within (d := d + 0) w)) (by omega) (by omega) (by omega) (fun r h2 hp => ?_)
  obtain ⟨r2, rfl, w⟩ := hp
  exact s_X11_shipAt_11 cx hY eq  (by omega) (by omega) w
def wp_X11_shipAt (a1 : Int32) (h : Hp) (Q : Option PtrT → Hp → Prop) : Prop := w_X11_shipAt_0 Q a1 h
theorem vc_X11_shipAt {l : Launch} {d : Nat} {a1 : Int32} {h : Hp} {Q : Option PtrT → Hp → Prop} (w : wp_X11_shipAt a1 h Q) : Ct l lay1 yX11_shipAt cX11_shipAt 2 (some (.object "ShoreDay$Ship")) (d + 2) 0 0 [vP (some (11, 0)), vI a1] h (fun r h2 => ∃ x, r = [vP x] ∧ Q x h2) := by
  exact Ct.of (by decide) (Nat.le_of_ble_eq_true rfl) fun E cx eq hl hY => s_X11_shipAt_0 cx hY eq (Nat.le_refl _) (Nat.le_refl _) w
def w_X11_tourAt_24 (Q : Option PtrT → Hp → Prop) (a1 : Int32) (q0 : Option PtrT) (h : Hp) : Prop := Q (q0) (h)
def w_X11_tourAt_23 (Q : Option PtrT → Hp → Prop) (a1 : Int32) (h : Hp) : Prop := w_X11_tourAt_24  Q (a1) (none) (h)
def w_X11_tourAt_14 (Q : Option PtrT → Hp → Prop) (a1 : Int32) (h : Hp) : Prop := vp_in (a1) 8 ∧ (w_X11_tourAt_24  Q (a1) (gP (h) 22 (0) (tN (a1))) (h))
def w_X11_tourAt_11 (Q : Option PtrT → Hp → Prop) (a1 : Int32) (s0 : Int32) (h : Hp) : Prop := ((s0) = 0 → w_X11_tourAt_23  Q (a1) (h)) ∧ (¬ (s0) = 0 → w_X11_tourAt_14  Q (a1) (h))
def w_X11_tourAt_0 (Q : Option PtrT → Hp → Prop) (a1 : Int32) (h : Hp) : Prop := wp_X11_within (a1) ((0 : Int32)) ((gI (h) 11 (0) (5)) - ((1 : Int32))) (h) (fun r2 h2 => w_X11_tourAt_11  Q (a1) (r2) (h2))
theorem s_X11_tourAt_24 {E : EnvT} {d : Nat} (cx : CX E "ShoreDay" cX11_tourAt 2 (some (.object "ShoreDay$Tour")) "tourAt" (d + 2) 0 0) (hY : eY E = lay1) {Q : Option PtrT → Hp → Prop} (eq : EQ E 0 0 (fun r h2 => ∃ x, r = [vP x] ∧ Q x h2)) {a1 : Int32} {q0 : Option PtrT} {h : Hp} {c n : Nat} (hc : c + 0 ≤ 0) (hn : n + 0 ≤ 0) (w : w_X11_tourAt_24  Q a1 q0 h) : SW E 24 ([some (vP (some (11, 0))), some (vI (a1))], [vP (q0)], h, c, n) := by
  exact k_X11_tourAt_24 cx hY eq (by omega) (by omega) ⟨_, rfl, w⟩
theorem s_X11_tourAt_23 {E : EnvT} {d : Nat} (cx : CX E "ShoreDay" cX11_tourAt 2 (some (.object "ShoreDay$Tour")) "tourAt" (d + 2) 0 0) (hY : eY E = lay1) {Q : Option PtrT → Hp → Prop} (eq : EQ E 0 0 (fun r h2 => ∃ x, r = [vP x] ∧ Q x h2)) {a1 : Int32} {h : Hp} {c n : Nat} (hc : c + 0 ≤ 0) (hn : n + 0 ≤ 0) (w : w_X11_tourAt_23  Q a1 h) : SW E 23 ([some (vP (some (11, 0))), some (vI (a1))], [], h, c, n) := by
  refine k_X11_tourAt_23 cx hY ?_
  exact s_X11_tourAt_24 cx hY eq  (by omega) (by omega) w
theorem s_X11_tourAt_14 {E : EnvT} {d : Nat} (cx : CX E "ShoreDay" cX11_tourAt 2 (some (.object "ShoreDay$Tour")) "tourAt" (d + 2) 0 0) (hY : eY E = lay1) {Q : Option PtrT → Hp → Prop} (eq : EQ E 0 0 (fun r h2 => ∃ x, r = [vP x] ∧ Q x h2)) {a1 : Int32} {h : Hp} {c n : Nat} (hc : c + 0 ≤ 0) (hn : n + 0 ≤ 0) (w : w_X11_tourAt_14  Q a1 h) : SW E 14 ([some (vP (some (11, 0))), some (vI (a1))], [], h, c, n) := by
  obtain ⟨G1, w⟩ := w
  refine k_X11_tourAt_14 cx hY G1 ?_
  exact s_X11_tourAt_24 cx hY eq  (by omega) (by omega) w
theorem s_X11_tourAt_11 {E : EnvT} {d : Nat} (cx : CX E "ShoreDay" cX11_tourAt 2 (some (.object "ShoreDay$Tour")) "tourAt" (d + 2) 0 0) (hY : eY E = lay1) {Q : Option PtrT → Hp → Prop} (eq : EQ E 0 0 (fun r h2 => ∃ x, r = [vP x] ∧ Q x h2)) {a1 : Int32} {s0 : Int32} {h : Hp} {c n : Nat} (hc : c + 0 ≤ 0) (hn : n + 0 ≤ 0) (w : w_X11_tourAt_11  Q a1 s0 h) : SW E 11 ([some (vP (some (11, 0))), some (vI (a1))], [vI (s0)], h, c, n) := by
  refine k_X11_tourAt_11 cx hY (fun q => ?_) (fun q => ?_)
  · have w := w.1 q
    exact s_X11_tourAt_23 cx hY eq  (by omega) (by omega) w
  · have w := w.2 q
    exact s_X11_tourAt_14 cx hY eq  (by omega) (by omega) w
theorem s_X11_tourAt_0 {E : EnvT} {d : Nat} (cx : CX E "ShoreDay" cX11_tourAt 2 (some (.object "ShoreDay$Tour")) "tourAt" (d + 2) 0 0) (hY : eY E = lay1) {Q : Option PtrT → Hp → Prop} (eq : EQ E 0 0 (fun r h2 => ∃ x, r = [vP x] ∧ Q x h2)) {a1 : Int32} {h : Hp} {c n : Nat} (hc : c + 0 ≤ 0) (hn : n + 0 ≤ 0) (w : w_X11_tourAt_0  Q a1 h) : SW E 0 ([some (vP (some (11, 0))), some (vI (a1))], [], h, c, n) := by
  refine k_X11_tourAt_0 cx hY (ctY hY (vc_X11_within (d := d + 0) w)) (by omega) (by omega) (by omega) (fun r h2 hp => ?_)
  obtain ⟨r2, rfl, w⟩ := hp
  exact s_X11_tourAt_11 cx hY eq  (by omega) (by omega) w
def wp_X11_tourAt (a1 : Int32) (h : Hp) (Q : Option PtrT → Hp → Prop) : Prop := w_X11_tourAt_0 Q a1 h
theorem vc_X11_tourAt {l : Launch} {d : Nat} {a1 : Int32} {h : Hp} {Q : Option PtrT → Hp → Prop} (w : wp_X11_tourAt a1 h Q) : Ct l lay1 yX11_tourAt cX11_tourAt 2 (some (.object "ShoreDay$Tour")) (d + 2) 0 0 [vP (some (11, 0)), vI a1] h (fun r h2 => ∃ x, r = [vP x] ∧ Q x h2) := by
  exact Ct.of (by decide) (Nat.le_of_ble_eq_true rfl) fun E cx eq hl hY => s_X11_tourAt_0 cx hY eq (Nat.le_refl _) (Nat.le_refl _) w
def w_X11_putByTicket_47 (Q : Hp → Prop) (i1 : Nat) (a2 : Int32) (h : Hp) : Prop := vp_in (a2) 60 ∧ (Q (wP (h) 24 (0) (tN (a2)) (some (2, i1))))
def w_X11_putByTicket_27 (K5 : Option PtrT → Int32 → Hp → Prop) (Q : Hp → Prop) (p1 : Option PtrT) (a2 : Int32) (h : Hp) : Prop := ∃ g1, gP (h) 24 (0) (tN ((a2) - ((1 : Int32)))) = some (2, g1) ∧ (vp_in ((a2) - ((1 : Int32))) 60 ∧ (vp_in (a2) 60 ∧ (K5 (p1) (a2 + (-1)) (wP (h) 24 (0) (tN (a2)) (some (2, g1))))))
def w_X11_putByTicket_9 (K5 : Option PtrT → Int32 → Hp → Prop) (Q : Hp → Prop) (i1 : Nat) (a2 : Int32) (h : Hp) : Prop := ∃ g1, gP (h) 24 (0) (tN ((a2) - ((1 : Int32)))) = some (2, g1) ∧ (vp_in ((a2) - ((1 : Int32))) 60 ∧ (((gI (h) 2 (g1) (2)) ≤ (gI (h) 2 (i1) (2)) → w_X11_putByTicket_47  Q (i1) (a2) (h)) ∧ (¬ (gI (h) 2 (g1) (2)) ≤ (gI (h) 2 (i1) (2)) → w_X11_putByTicket_27 K5 Q (some (2, i1)) (a2) (h))))
def w_X11_putByTicket_5 (Q : Hp → Prop) : Nat → Option PtrT → Int32 → Hp → Prop
  | 0 => fun _ _ _ => False
  | N + 1 => fun p1 a2 h => ((a2) ≤ 0 → ∃ zl1, p1 = some (2, zl1) ∧ (w_X11_putByTicket_47  Q zl1 (a2) (h))) ∧ (¬ (a2) ≤ 0 → ∃ zl1, p1 = some (2, zl1) ∧ (w_X11_putByTicket_9 (w_X11_putByTicket_5  Q N) Q zl1 (a2) (h)))
def w_X11_putByTicket_0 (Q : Hp → Prop) (p1 : Option PtrT) (h : Hp) : Prop := ∃ N, w_X11_putByTicket_5  Q N (p1) (gI (h) 11 (0) (8)) (h)
theorem s_X11_putByTicket_47 {E : EnvT} {d : Nat} (cx : CX E "ShoreDay" cX11_putByTicket 3 none "putByTicket" (d + 1) 0 0) (hY : eY E = lay1) {Q : Hp → Prop} (eq : EQ E 0 0 (fun r h2 => r = [] ∧ Q h2)) {i1 : Nat} {a2 : Int32} {h : Hp} {c n : Nat} (hc : c + 0 ≤ 0) (hn : n + 0 ≤ 0) (w : w_X11_putByTicket_47  Q i1 a2 h) : SW E 47 ([some (vP (some (11, 0))), some (vP (some (2, i1))), some (vI (a2))], [], h, c, n) := by
  obtain ⟨G1, w⟩ := w
  exact k_X11_putByTicket_47 cx hY G1 eq (by omega) (by omega) ⟨rfl, w⟩
theorem s_X11_putByTicket_27 {E : EnvT} {d : Nat} (cx : CX E "ShoreDay" cX11_putByTicket 3 none "putByTicket" (d + 1) 0 0) (hY : eY E = lay1) {Q : Hp → Prop} (eq : EQ E 0 0 (fun r h2 => r = [] ∧ Q h2)) {K5 : Option PtrT → Int32 → Hp → Prop} (hK5 : ∀ (p1 : Option PtrT) (a2 : Int32) (h : Hp) (c n : Nat), c + 0 ≤ 0 → n + 0 ≤ 0 → K5 p1 a2 h → SW E 5 ([some (vP (some (11, 0))), some (vP (p1)), some (vI (a2))], [], h, c, n)) {p1 : Option PtrT} {a2 : Int32} {h : Hp} {c n : Nat} (hc : c + 0 ≤ 0) (hn : n + 0 ≤ 0) (w : w_X11_putByTicket_27 K5 Q p1 a2 h) : SW E 27 ([some (vP (some (11, 0))), some (vP (p1)), some (vI (a2))], [], h, c, n) := by
  obtain ⟨g1, e1, G1, G2, w⟩ := w
  refine k_X11_putByTicket_27 cx hY e1 G1 G2 ?_
  exact hK5 _ _ _ _ _ (by omega) (by omega) w
theorem s_X11_putByTicket_9 {E : EnvT} {d : Nat} (cx : CX E "ShoreDay" cX11_putByTicket 3 none "putByTicket" (d + 1) 0 0) (hY : eY E = lay1) {Q : Hp → Prop} (eq : EQ E 0 0 (fun r h2 => r = [] ∧ Q h2)) {K5 : Option PtrT → Int32 → Hp → Prop} (hK5 : ∀ (p1 : Option PtrT) (a2 : Int32) (h : Hp) (c n : Nat), c + 0 ≤ 0 → n + 0 ≤ 0 → K5 p1 a2 h → SW E 5 ([some (vP (some (11, 0))), some (vP (p1)), some (vI (a2))], [], h, c, n)) {i1 : Nat} {a2 : Int32} {h : Hp} {c n : Nat} (hc : c + 0 ≤ 0) (hn : n + 0 ≤ 0) (w : w_X11_putByTicket_9 K5 Q i1 a2 h) : SW E 9 ([some (vP (some (11, 0))), some (vP (some (2, i1))), some (vI (a2))], [], h, c, n) := by
  obtain ⟨g1, e1, G1, w⟩ := w
  refine k_X11_putByTicket_9 cx hY e1 G1 (fun q => ?_) (fun q => ?_)
  · have w := w.1 q
    exact s_X11_putByTicket_47 cx hY eq  (by omega) (by omega) w
  · have w := w.2 q
    exact s_X11_putByTicket_27 cx hY eq hK5 (by omega) (by omega) w
theorem s_X11_putByTicket_5 {E : EnvT} {d : Nat} (cx : CX E "ShoreDay" cX11_putByTicket 3 none "putByTicket" (d + 1) 0 0) (hY : eY E = lay1) {Q : Hp → Prop} (eq : EQ E 0 0 (fun r h2 => r = [] ∧ Q h2)) : ∀ (N : Nat) (p1 : Option PtrT) (a2 : Int32) (h : Hp) (c n : Nat), c + 0 ≤ 0 → n + 0 ≤ 0 → w_X11_putByTicket_5  Q N p1 a2 h → SW E 5 ([some (vP (some (11, 0))), some (vP (p1)), some (vI (a2))], [], h, c, n) := by
  intro N
  induction N with
  | zero =>
    intro _ _ h c n _ _ w
    exact w.elim
  | succ N ih =>
    intro p1 a2 h c n hc hn w
    refine k_X11_putByTicket_5 cx hY (fun q => ?_) (fun q => ?_)
    · have w := w.1 q
      obtain ⟨zl1, ezl1, w⟩ := w
      rw [ezl1]
      exact s_X11_putByTicket_47 cx hY eq  (by omega) (by omega) w
    · have w := w.2 q
      obtain ⟨zl1, ezl1, w⟩ := w
      rw [ezl1]
      exact s_X11_putByTicket_9 cx hY eq ih (by omega) (by omega) w
theorem s_X11_putByTicket_0 {E : EnvT} {d : Nat} (cx : CX E "ShoreDay" cX11_putByTicket 3 none "putByTicket" (d + 1) 0 0) (hY : eY E = lay1) {Q : Hp → Prop} (eq : EQ E 0 0 (fun r h2 => r = [] ∧ Q h2)) {p1 : Option PtrT} {x2 : Option AVal} {h : Hp} {c n : Nat} (hc : c + 0 ≤ 0) (hn : n + 0 ≤ 0) (w : w_X11_putByTicket_0  Q p1 h) : SW E 0 ([some (vP (some (11, 0))), some (vP (p1)), x2], [], h, c, n) := by
  refine k_X11_putByTicket_0 cx hY ?_
  obtain ⟨N1, w⟩ := w
  exact s_X11_putByTicket_5 cx hY eq  _ _ _ _ _ _ (by omega) (by omega) w
def wp_X11_putByTicket (p1 : Option PtrT) (h : Hp) (Q : Hp → Prop) : Prop := w_X11_putByTicket_0 Q p1 h
theorem vc_X11_putByTicket {l : Launch} {d : Nat} {p1 : Option PtrT} {h : Hp} {Q : Hp → Prop} (w : wp_X11_putByTicket p1 h Q) : Ct l lay1 yX11_putByTicket cX11_putByTicket 3 none (d + 1) 0 0 [vP (some (11, 0)), vP p1] h (fun r h2 => r = [] ∧ Q h2) := by
  exact Ct.of (by decide) (Nat.le_of_ble_eq_true rfl) fun E cx eq hl hY => s_X11_putByTicket_0 cx hY eq (Nat.le_refl _) (Nat.le_refl _) w
def w_X11_guestsIn_68 (Q : Int32 → Hp → Prop) (p1 : Option PtrT) (a2 : Int32) (a3 : Int32) (a4 : Int32) (a5 : Int32) (h : Hp) : Prop := Q (a4) (h)
def w_X11_guestsIn_62 (K6 : Option PtrT → Int32 → Int32 → Int32 → Int32 → Hp → Prop) (Q : Int32 → Hp → Prop) (p1 : Option PtrT) (a2 : Int32) (a3 : Int32) (a4 : Int32) (a5 : Int32) (h : Hp) : Prop := K6 (p1) (a2) (a3) (a4) (a5 + 1) (h)
def w_X11_guestsIn_47 (K6 : Option PtrT → Int32 → Int32 → Int32 → Int32 → Hp → Prop) (Q : Int32 → Hp → Prop) (p1 : Option PtrT) (a2 : Int32) (a3 : Int32) (a4 : Int32) (a5 : Int32) (h : Hp) : Prop := ∃ g1, gP (h) 23 (0) (tN (a5)) = some (2, g1) ∧ (vp_in (a5) 60 ∧ (w_X11_guestsIn_62 K6 Q (p1) (a2) (a3) ((a4) + (gI (h) 2 (g1) (1))) (a5) (h)))
def w_X11_guestsIn_44 (K6 : Option PtrT → Int32 → Int32 → Int32 → Int32 → Hp → Prop) (Q : Int32 → Hp → Prop) (p1 : Option PtrT) (a2 : Int32) (a3 : Int32) (a4 : Int32) (a5 : Int32) (s0 : Int32) (h : Hp) : Prop := ((s0) = 0 → w_X11_guestsIn_62 K6 Q (p1) (a2) (a3) (a4) (a5) (h)) ∧ (¬ (s0) = 0 → w_X11_guestsIn_47 K6 Q (p1) (a2) (a3) (a4) (a5) (h))
def w_X11_guestsIn_29 (K6 : Option PtrT → Int32 → Int32 → Int32 → Int32 → Hp → Prop) (Q : Int32 → Hp → Prop) (p1 : Option PtrT) (a2 : Int32) (a3 : Int32) (a4 : Int32) (a5 : Int32) (h : Hp) : Prop := ∃ g1, gP (h) 23 (0) (tN (a5)) = some (2, g1) ∧ (vp_in (a5) 60 ∧ (wp_X11_within (gI (h) 2 (g1) (6)) (a2) (a3) (h) (fun r2 h2 => w_X11_guestsIn_44 K6 Q (p1) (a2) (a3) (a4) (a5) (r2) (h2))))
def w_X11_guestsIn_15 (K6 : Option PtrT → Int32 → Int32 → Int32 → Int32 → Hp → Prop) (Q : Int32 → Hp → Prop) (p1 : Option PtrT) (a2 : Int32) (a3 : Int32) (a4 : Int32) (a5 : Int32) (h : Hp) : Prop := ∃ g1, gP (h) 23 (0) (tN (a5)) = some (2, g1) ∧ (vp_in (a5) 60 ∧ ((¬ (gP (h) 2 (g1) 0) = (p1) → w_X11_guestsIn_62 K6 Q (p1) (a2) (a3) (a4) (a5) (h)) ∧ ((gP (h) 2 (g1) 0) = (p1) → w_X11_guestsIn_29 K6 Q (p1) (a2) (a3) (a4) (a5) (h))))
def w_X11_guestsIn_6 (Q : Int32 → Hp → Prop) : Nat → Option PtrT → Int32 → Int32 → Int32 → Int32 → Hp → Prop
  | 0 => fun _ _ _ _ _ _ => False
  | N + 1 => fun p1 a2 a3 a4 a5 h => ((gI (h) 11 (0) (8)) ≤ (a5) → w_X11_guestsIn_68  Q (p1) (a2) (a3) (a4) (a5) (h)) ∧ (¬ (gI (h) 11 (0) (8)) ≤ (a5) → w_X11_guestsIn_15 (w_X11_guestsIn_6  Q N) Q (p1) (a2) (a3) (a4) (a5) (h))
def w_X11_guestsIn_0 (Q : Int32 → Hp → Prop) (p1 : Option PtrT) (a2 : Int32) (a3 : Int32) (h : Hp) : Prop := ∃ N, w_X11_guestsIn_6  Q N (p1) (a2) (a3) ((0 : Int32)) ((0 : Int32)) (h)
theorem s_X11_guestsIn_68 {E : EnvT} {d : Nat} (cx : CX E "ShoreDay" cX11_guestsIn 6 (some .int) "guestsIn" (d + 2) 0 0) (hY : eY E = lay1) {Q : Int32 → Hp → Prop} (eq : EQ E 0 0 (fun r h2 => ∃ x, r = [vI x] ∧ Q x h2)) {p1 : Option PtrT} {a2 : Int32} {a3 : Int32} {a4 : Int32} {a5 : Int32} {h : Hp} {c n : Nat} (hc : c + 0 ≤ 0) (hn : n + 0 ≤ 0) (w : w_X11_guestsIn_68  Q p1 a2 a3 a4 a5 h) : SW E 68 ([some (vP (some (11, 0))), some (vP (p1)), some (vI (a2)), some (vI (a3)), some (vI (a4)), some (vI (a5))], [], h, c, n) := by
  exact k_X11_guestsIn_68 cx hY eq (by omega) (by omega) ⟨_, rfl, w⟩
theorem s_X11_guestsIn_62 {E : EnvT} {d : Nat} (cx : CX E "ShoreDay" cX11_guestsIn 6 (some .int) "guestsIn" (d + 2) 0 0) (hY : eY E = lay1) {Q : Int32 → Hp → Prop} (eq : EQ E 0 0 (fun r h2 => ∃ x, r = [vI x] ∧ Q x h2)) {K6 : Option PtrT → Int32 → Int32 → Int32 → Int32 → Hp → Prop} (hK6 : ∀ (p1 : Option PtrT) (a2 : Int32) (a3 : Int32) (a4 : Int32) (a5 : Int32) (h : Hp) (c n : Nat), c + 0 ≤ 0 → n + 0 ≤ 0 → K6 p1 a2 a3 a4 a5 h → SW E 6 ([some (vP (some (11, 0))), some (vP (p1)), some (vI (a2)), some (vI (a3)), some (vI (a4)), some (vI (a5))], [], h, c, n)) {p1 : Option PtrT} {a2 : Int32} {a3 : Int32} {a4 : Int32} {a5 : Int32} {h : Hp} {c n : Nat} (hc : c + 0 ≤ 0) (hn : n + 0 ≤ 0) (w : w_X11_guestsIn_62 K6 Q p1 a2 a3 a4 a5 h) : SW E 62 ([some (vP (some (11, 0))), some (vP (p1)), some (vI (a2)), some (vI (a3)), some (vI (a4)), some (vI (a5))], [], h, c, n) := by
  refine k_X11_guestsIn_62 cx hY ?_
  exact hK6 _ _ _ _ _ _ _ _ (by omega) (by omega) w
theorem s_X11_guestsIn_47 {E : EnvT} {d : Nat} (cx : CX E "ShoreDay" cX11_guestsIn 6 (some .int) "guestsIn" (d + 2) 0 0) (hY : eY E = lay1) {Q : Int32 → Hp → Prop} (eq : EQ E 0 0 (fun r h2 => ∃ x, r = [vI x] ∧ Q x h2)) {K6 : Option PtrT → Int32 → Int32 → Int32 → Int32 → Hp → Prop} (hK6 : ∀ (p1 : Option PtrT) (a2 : Int32) (a3 : Int32) (a4 : Int32) (a5 : Int32) (h : Hp) (c n : Nat), c + 0 ≤ 0 → n + 0 ≤ 0 → K6 p1 a2 a3 a4 a5 h → SW E 6 ([some (vP (some (11, 0))), some (vP (p1)), some (vI (a2)), some (vI (a3)), some (vI (a4)), some (vI (a5))], [], h, c, n)) {p1 : Option PtrT} {a2 : Int32} {a3 : Int32} {a4 : Int32} {a5 : Int32} {h : Hp} {c n : Nat} (hc : c + 0 ≤ 0) (hn : n + 0 ≤ 0) (w : w_X11_guestsIn_47 K6 Q p1 a2 a3 a4 a5 h) : SW E 47 ([some (vP (some (11, 0))), some (vP (p1)), some (vI (a2)), some (vI (a3)), some (vI (a4)), some (vI (a5))], [], h, c, n) := by
  obtain ⟨g1, e1, G1, w⟩ := w
  refine k_X11_guestsIn_47 cx hY e1 G1 ?_
  exact s_X11_guestsIn_62 cx hY eq hK6 (by omega) (by omega) w
theorem s_X11_guestsIn_44 {E : EnvT} {d : Nat} (cx : CX E "ShoreDay" cX11_guestsIn 6 (some .int) "guestsIn" (d + 2) 0 0) (hY : eY E = lay1) {Q : Int32 → Hp → Prop} (eq : EQ E 0 0 (fun r h2 => ∃ x, r = [vI x] ∧ Q x h2)) {K6 : Option PtrT → Int32 → Int32 → Int32 → Int32 → Hp → Prop} (hK6 : ∀ (p1 : Option PtrT) (a2 : Int32) (a3 : Int32) (a4 : Int32) (a5 : Int32) (h : Hp) (c n : Nat), c + 0 ≤ 0 → n + 0 ≤ 0 → K6 p1 a2 a3 a4 a5 h → SW E 6 ([some (vP (some (11, 0))), some (vP (p1)), some (vI (a2)), some (vI (a3)), some (vI (a4)), some (vI (a5))], [], h, c, n)) {p1 : Option PtrT} {a2 : Int32} {a3 : Int32} {a4 : Int32} {a5 : Int32} {s0 : Int32} {h : Hp} {c n : Nat} (hc : c + 0 ≤ 0) (hn : n + 0 ≤ 0) (w : w_X11_guestsIn_44 K6 Q p1 a2 a3 a4 a5 s0 h) : SW E 44 ([some (vP (some (11, 0))), some (vP (p1)), some (vI (a2)), some (vI (a3)), some (vI (a4)), some (vI (a5))], [vI (s0)], h, c, n) := by
  refine k_X11_guestsIn_44 cx hY (fun q => ?_) (fun q => ?_)
  · have w := w.1 q
    exact s_X11_guestsIn_62 cx hY eq hK6 (by omega) (by omega) w
  · have w := w.2 q
    exact s_X11_guestsIn_47 cx hY eq hK6 (by omega) (by omega) w
theorem s_X11_guestsIn_29 {E : EnvT} {d : Nat} (cx : CX E "ShoreDay" cX11_guestsIn 6 (some .int) "guestsIn" (d + 2) 0 0) (hY : eY E = lay1) {Q : Int32 → Hp → Prop} (eq : EQ E 0 0 (fun r h2 => ∃ x, r = [vI x] ∧ Q x h2)) {K6 : Option PtrT → Int32 → Int32 → Int32 → Int32 → Hp → Prop} (hK6 : ∀ (p1 : Option PtrT) (a2 : Int32) (a3 : Int32) (a4 : Int32) (a5 : Int32) (h : Hp) (c n : Nat), c + 0 ≤ 0 → n + 0 ≤ 0 → K6 p1 a2 a3 a4 a5 h → SW E 6 ([some (vP (some (11, 0))), some (vP (p1)), some (vI (a2)), some (vI (a3)), some (vI (a4)), some (vI (a5))], [], h, c, n)) {p1 : Option PtrT} {a2 : Int32} {a3 : Int32} {a4 : Int32} {a5 : Int32} {h : Hp} {c n : Nat} (hc : c + 0 ≤ 0) (hn : n + 0 ≤ 0) (w : w_X11_guestsIn_29 K6 Q p1 a2 a3 a4 a5 h) : SW E 29 ([some (vP (some (11, 0))), some (vP (p1)), some (vI (a2)), some (vI (a3)), some (vI (a4)), some (vI (a5))], [], h, c, n) := by
  obtain ⟨g1, e1, G1, w⟩ := w
  refine k_X11_guestsIn_29 cx hY e1 G1 (ctY hY (vc_X11_within (d := d + 0) w)) (by omega) (by omega) (by omega) (fun r h2 hp => ?_)
  obtain ⟨r2, rfl, w⟩ := hp
  exact s_X11_guestsIn_44 cx hY eq hK6 (by omega) (by omega) w
theorem s_X11_guestsIn_15 {E : EnvT} {d : Nat} (cx : CX E "ShoreDay" cX11_guestsIn 6 (some .int) "guestsIn" (d + 2) 0 0) (hY : eY E = lay1) {Q : Int32 → Hp → Prop} (eq : EQ E 0 0 (fun r h2 => ∃ x, r = [vI x] ∧ Q x h2)) {K6 : Option PtrT → Int32 → Int32 → Int32 → Int32 → Hp → Prop} (hK6 : ∀ (p1 : Option PtrT) (a2 : Int32) (a3 : Int32) (a4 : Int32) (a5 : Int32) (h : Hp) (c n : Nat), c + 0 ≤ 0 → n + 0 ≤ 0 → K6 p1 a2 a3 a4 a5 h → SW E 6 ([some (vP (some (11, 0))), some (vP (p1)), some (vI (a2)), some (vI (a3)), some (vI (a4)), some (vI (a5))], [], h, c, n)) {p1 : Option PtrT} {a2 : Int32} {a3 : Int32} {a4 : Int32} {a5 : Int32} {h : Hp} {c n : Nat} (hc : c + 0 ≤ 0) (hn : n + 0 ≤ 0) (w : w_X11_guestsIn_15 K6 Q p1 a2 a3 a4 a5 h) : SW E 15 ([some (vP (some (11, 0))), some (vP (p1)), some (vI (a2)), some (vI (a3)), some (vI (a4)), some (vI (a5))], [], h, c, n) := by
  obtain ⟨g1, e1, G1, w⟩ := w
  refine k_X11_guestsIn_15 cx hY e1 G1 (fun q => ?_) (fun q => ?_)
  · have w := w.1 q
    exact s_X11_guestsIn_62 cx hY eq hK6 (by omega) (by omega) w
  · have w := w.2 q
    exact s_X11_guestsIn_29 cx hY eq hK6 (by omega) (by omega) w
theorem s_X11_guestsIn_6 {E : EnvT} {d : Nat} (cx : CX E "ShoreDay" cX11_guestsIn 6 (some .int) "guestsIn" (d + 2) 0 0) (hY : eY E = lay1) {Q : Int32 → Hp → Prop} (eq : EQ E 0 0 (fun r h2 => ∃ x, r = [vI x] ∧ Q x h2)) : ∀ (N : Nat) (p1 : Option PtrT) (a2 : Int32) (a3 : Int32) (a4 : Int32) (a5 : Int32) (h : Hp) (c n : Nat), c + 0 ≤ 0 → n + 0 ≤ 0 → w_X11_guestsIn_6  Q N p1 a2 a3 a4 a5 h → SW E 6 ([some (vP (some (11, 0))), some (vP (p1)), some (vI (a2)), some (vI (a3)), some (vI (a4)), some (vI (a5))], [], h, c, n) := by
  intro N
  induction N with
  | zero =>
    intro _ _ _ _ _ h c n _ _ w
    exact w.elim
  | succ N ih =>
    intro p1 a2 a3 a4 a5 h c n hc hn w
    refine k_X11_guestsIn_6 cx hY (fun q => ?_) (fun q => ?_)
    · have w := w.1 q
      exact s_X11_guestsIn_68 cx hY eq  (by omega) (by omega) w
    · have w := w.2 q
      exact s_X11_guestsIn_15 cx hY eq ih (by omega) (by omega) w
theorem s_X11_guestsIn_0 {E : EnvT} {d : Nat} (cx : CX E "ShoreDay" cX11_guestsIn 6 (some .int) "guestsIn" (d + 2) 0 0) (hY : eY E = lay1) {Q : Int32 → Hp → Prop} (eq : EQ E 0 0 (fun r h2 => ∃ x, r = [vI x] ∧ Q x h2)) {p1 : Option PtrT} {a2 : Int32} {a3 : Int32} {x4 : Option AVal} {x5 : Option AVal} {h : Hp} {c n : Nat} (hc : c + 0 ≤ 0) (hn : n + 0 ≤ 0) (w : w_X11_guestsIn_0  Q p1 a2 a3 h) : SW E 0 ([some (vP (some (11, 0))), some (vP (p1)), some (vI (a2)), some (vI (a3)), x4, x5], [], h, c, n) := by
  refine k_X11_guestsIn_0 cx hY ?_
  obtain ⟨N1, w⟩ := w
  exact s_X11_guestsIn_6 cx hY eq  _ _ _ _ _ _ _ _ _ (by omega) (by omega) w
def wp_X11_guestsIn (p1 : Option PtrT) (a2 : Int32) (a3 : Int32) (h : Hp) (Q : Int32 → Hp → Prop) : Prop := w_X11_guestsIn_0 Q p1 a2 a3 h
theorem vc_X11_guestsIn {l : Launch} {d : Nat} {p1 : Option PtrT} {a2 : Int32} {a3 : Int32} {h : Hp} {Q : Int32 → Hp → Prop} (w : wp_X11_guestsIn p1 a2 a3 h Q) : Ct l lay1 yX11_guestsIn cX11_guestsIn 6 (some .int) (d + 2) 0 0 [vP (some (11, 0)), vP p1, vI a2, vI a3] h (fun r h2 => ∃ x, r = [vI x] ∧ Q x h2) := by
  exact Ct.of (by decide) (Nat.le_of_ble_eq_true rfl) fun E cx eq hl hY => s_X11_guestsIn_0 cx hY eq (Nat.le_refl _) (Nat.le_refl _) w
def w_X11_seatGroups_87 (Q : Hp → Prop) (p1 : Option PtrT) (a2 : Int32) (h : Hp) : Prop := Q (h)
def w_X11_seatGroups_81 (K2 : Option PtrT → Int32 → Hp → Prop) (Q : Hp → Prop) (p1 : Option PtrT) (a2 : Int32) (p3 : Option PtrT) (h : Hp) : Prop := K2 (p1) (a2 + 1) (h)
def w_X11_seatGroups_70 (K2 : Option PtrT → Int32 → Hp → Prop) (Q : Hp → Prop) (p1 : Option PtrT) (a2 : Int32) (i3 : Nat) (h : Hp) : Prop := w_X11_seatGroups_81 K2 Q (p1) (a2) (some (2, i3)) (wI (h) 2 (i3) 13 ((gI (h) 11 (0) (14)) + ((60 : Int32))))
def w_X11_seatGroups_49 (K2 : Option PtrT → Int32 → Hp → Prop) (Q : Hp → Prop) (i1 : Nat) (a2 : Int32) (i3 : Nat) (h : Hp) : Prop := w_X11_seatGroups_81 K2 Q (some (10, i1)) (a2) (some (2, i3)) (wI (wI (h) 2 (i3) 6 ((3 : Int32))) 10 (i1) 4 ((gI (wI (h) 2 (i3) 6 ((3 : Int32))) 10 (i1) (4)) + (gI (wI (h) 2 (i3) 6 ((3 : Int32))) 2 (i3) (1))))
def w_X11_seatGroups_33 (K2 : Option PtrT → Int32 → Hp → Prop) (Q : Hp → Prop) (i1 : Nat) (a2 : Int32) (i3 : Nat) (h : Hp) : Prop := (((gI (h) 10 (i1) (2)) - (gI (h) 10 (i1) (4))) < (gI (h) 2 (i3) (1)) → w_X11_seatGroups_70 K2 Q (some (10, i1)) (a2) (i3) (h)) ∧ (¬ ((gI (h) 10 (i1) (2)) - (gI (h) 10 (i1) (4))) < (gI (h) 2 (i3) (1)) → w_X11_seatGroups_49 K2 Q (i1) (a2) (i3) (h))
def w_X11_seatGroups_25 (K2 : Option PtrT → Int32 → Hp → Prop) (Q : Hp → Prop) (p1 : Option PtrT) (a2 : Int32) (i3 : Nat) (h : Hp) : Prop := (¬ (gP (h) 2 (i3) 4) = (p1) → w_X11_seatGroups_81 K2 Q (p1) (a2) (some (2, i3)) (h)) ∧ ((gP (h) 2 (i3) 4) = (p1) → ∃ zl1, p1 = some (10, zl1) ∧ (w_X11_seatGroups_33 K2 Q zl1 (a2) (i3) (h)))
def w_X11_seatGroups_10 (K2 : Option PtrT → Int32 → Hp → Prop) (Q : Hp → Prop) (p1 : Option PtrT) (a2 : Int32) (h : Hp) : Prop := ∃ g1, gP (h) 24 (0) (tN (a2)) = some (2, g1) ∧ (vp_in (a2) 60 ∧ ((¬ (gI (h) 2 (g1) (6)) = ((2 : Int32)) → w_X11_seatGroups_81 K2 Q (p1) (a2) (some (2, g1)) (h)) ∧ ((gI (h) 2 (g1) (6)) = ((2 : Int32)) → w_X11_seatGroups_25 K2 Q (p1) (a2) (g1) (h))))
def w_X11_seatGroups_2 (Q : Hp → Prop) : Nat → Option PtrT → Int32 → Hp → Prop
  | 0 => fun _ _ _ => False
  | N + 1 => fun p1 a2 h => ((gI (h) 11 (0) (8)) ≤ (a2) → w_X11_seatGroups_87  Q (p1) (a2) (h)) ∧ (¬ (gI (h) 11 (0) (8)) ≤ (a2) → w_X11_seatGroups_10 (w_X11_seatGroups_2  Q N) Q (p1) (a2) (h))
def w_X11_seatGroups_0 (Q : Hp → Prop) (p1 : Option PtrT) (h : Hp) : Prop := ∃ N, w_X11_seatGroups_2  Q N (p1) ((0 : Int32)) (h)
theorem s_X11_seatGroups_87 {E : EnvT} {d : Nat} (cx : CX E "ShoreDay" cX11_seatGroups 4 none "seatGroups" (d + 1) 0 0) (hY : eY E = lay1) {Q : Hp → Prop} (eq : EQ E 0 0 (fun r h2 => r = [] ∧ Q h2)) {p1 : Option PtrT} {a2 : Int32} {x3 : Option AVal} {h : Hp} {c n : Nat} (hc : c + 0 ≤ 0) (hn : n + 0 ≤ 0) (w : w_X11_seatGroups_87  Q p1 a2 h) : SW E 87 ([some (vP (some (11, 0))), some (vP (p1)), some (vI (a2)), x3], [], h, c, n) := by
  exact k_X11_seatGroups_87 cx hY eq (by omega) (by omega) ⟨rfl, w⟩
theorem s_X11_seatGroups_81 {E : EnvT} {d : Nat} (cx : CX E "ShoreDay" cX11_seatGroups 4 none "seatGroups" (d + 1) 0 0) (hY : eY E = lay1) {Q : Hp → Prop} (eq : EQ E 0 0 (fun r h2 => r = [] ∧ Q h2)) {K2 : Option PtrT → Int32 → Hp → Prop} (hK2 : ∀ (p1 : Option PtrT) (a2 : Int32) (x3 : Option AVal) (h : Hp) (c n : Nat), c + 0 ≤ 0 → n + 0 ≤ 0 → K2 p1 a2 h → SW E 2 ([some (vP (some (11, 0))), some (vP (p1)), some (vI (a2)), x3], [], h, c, n)) {p1 : Option PtrT} {a2 : Int32} {p3 : Option PtrT} {h : Hp} {c n : Nat} (hc : c + 0 ≤ 0) (hn : n + 0 ≤ 0) (w : w_X11_seatGroups_81 K2 Q p1 a2 p3 h) : SW E 81 ([some (vP (some (11, 0))), some (vP (p1)), some (vI (a2)), some (vP (p3))], [], h, c, n) := by
  refine k_X11_seatGroups_81 cx hY ?_
  exact hK2 _ _ _ _ _ _ (by omega) (by omega) w
theorem s_X11_seatGroups_70 {E : EnvT} {d : Nat} (cx : CX E "ShoreDay" cX11_seatGroups 4 none "seatGroups" (d + 1) 0 0) (hY : eY E = lay1) {Q : Hp → Prop} (eq : EQ E 0 0 (fun r h2 => r = [] ∧ Q h2)) {K2 : Option PtrT → Int32 → Hp → Prop} (hK2 : ∀ (p1 : Option PtrT) (a2 : Int32) (x3 : Option AVal) (h : Hp) (c n : Nat), c + 0 ≤ 0 → n + 0 ≤ 0 → K2 p1 a2 h → SW E 2 ([some (vP (some (11, 0))), some (vP (p1)), some (vI (a2)), x3], [], h, c, n)) {p1 : Option PtrT} {a2 : Int32} {i3 : Nat} {h : Hp} {c n : Nat} (hc : c + 0 ≤ 0) (hn : n + 0 ≤ 0) (w : w_X11_seatGroups_70 K2 Q p1 a2 i3 h) : SW E 70 ([some (vP (some (11, 0))), some (vP (p1)), some (vI (a2)), some (vP (some (2, i3)))], [], h, c, n) := by
  refine k_X11_seatGroups_70 cx hY ?_
  exact s_X11_seatGroups_81 cx hY eq hK2 (by omega) (by omega) w
theorem s_X11_seatGroups_49 {E : EnvT} {d : Nat} (cx : CX E "ShoreDay" cX11_seatGroups 4 none "seatGroups" (d + 1) 0 0) (hY : eY E = lay1) {Q : Hp → Prop} (eq : EQ E 0 0 (fun r h2 => r = [] ∧ Q h2)) {K2 : Option PtrT → Int32 → Hp → Prop} (hK2 : ∀ (p1 : Option PtrT) (a2 : Int32) (x3 : Option AVal) (h : Hp) (c n : Nat), c + 0 ≤ 0 → n + 0 ≤ 0 → K2 p1 a2 h → SW E 2 ([some (vP (some (11, 0))), some (vP (p1)), some (vI (a2)), x3], [], h, c, n)) {i1 : Nat} {a2 : Int32} {i3 : Nat} {h : Hp} {c n : Nat} (hc : c + 0 ≤ 0) (hn : n + 0 ≤ 0) (w : w_X11_seatGroups_49 K2 Q i1 a2 i3 h) : SW E 49 ([some (vP (some (11, 0))), some (vP (some (10, i1))), some (vI (a2)), some (vP (some (2, i3)))], [], h, c, n) := by
  refine k_X11_seatGroups_49 cx hY ?_
  exact s_X11_seatGroups_81 cx hY eq hK2 (by omega) (by omega) w
theorem s_X11_seatGroups_33 {E : EnvT} {d : Nat} (cx : CX E "ShoreDay" cX11_seatGroups 4 none "seatGroups" (d + 1) 0 0) (hY : eY E = lay1) {Q : Hp → Prop} (eq : EQ E 0 0 (fun r h2 => r = [] ∧ Q h2)) {K2 : Option PtrT → Int32 → Hp → Prop} (hK2 : ∀ (p1 : Option PtrT) (a2 : Int32) (x3 : Option AVal) (h : Hp) (c n : Nat), c + 0 ≤ 0 → n + 0 ≤ 0 → K2 p1 a2 h → SW E 2 ([some (vP (some (11, 0))), some (vP (p1)), some (vI (a2)), x3], [], h, c, n)) {i1 : Nat} {a2 : Int32} {i3 : Nat} {h : Hp} {c n : Nat} (hc : c + 0 ≤ 0) (hn : n + 0 ≤ 0) (w : w_X11_seatGroups_33 K2 Q i1 a2 i3 h) : SW E 33 ([some (vP (some (11, 0))), some (vP (some (10, i1))), some (vI (a2)), some (vP (some (2, i3)))], [], h, c, n) := by
  refine k_X11_seatGroups_33 cx hY (fun q => ?_) (fun q => ?_)
  · have w := w.1 q
    exact s_X11_seatGroups_70 cx hY eq hK2 (by omega) (by omega) w
  · have w := w.2 q
    exact s_X11_seatGroups_49 cx hY eq hK2 (by omega) (by omega) w
theorem s_X11_seatGroups_25 {E : EnvT} {d : Nat} (cx : CX E "ShoreDay" cX11_seatGroups 4 none "seatGroups" (d + 1) 0 0) (hY : eY E = lay1) {Q : Hp → Prop} (eq : EQ E 0 0 (fun r h2 => r = [] ∧ Q h2)) {K2 : Option PtrT → Int32 → Hp → Prop} (hK2 : ∀ (p1 : Option PtrT) (a2 : Int32) (x3 : Option AVal) (h : Hp) (c n : Nat), c + 0 ≤ 0 → n + 0 ≤ 0 → K2 p1 a2 h → SW E 2 ([some (vP (some (11, 0))), some (vP (p1)), some (vI (a2)), x3], [], h, c, n)) {p1 : Option PtrT} {a2 : Int32} {i3 : Nat} {h : Hp} {c n : Nat} (hc : c + 0 ≤ 0) (hn : n + 0 ≤ 0) (w : w_X11_seatGroups_25 K2 Q p1 a2 i3 h) : SW E 25 ([some (vP (some (11, 0))), some (vP (p1)), some (vI (a2)), some (vP (some (2, i3)))], [], h, c, n) := by
  refine k_X11_seatGroups_25 cx hY (fun q => ?_) (fun q => ?_)
  · have w := w.1 q
    exact s_X11_seatGroups_81 cx hY eq hK2 (by omega) (by omega) w
  · have w := w.2 q
    obtain ⟨zl1, ezl1, w⟩ := w
    rw [ezl1]
    exact s_X11_seatGroups_33 cx hY eq hK2 (by omega) (by omega) w
theorem s_X11_seatGroups_10 {E : EnvT} {d : Nat} (cx : CX E "ShoreDay" cX11_seatGroups 4 none "seatGroups" (d + 1) 0 0) (hY : eY E = lay1) {Q : Hp → Prop} (eq : EQ E 0 0 (fun r h2 => r = [] ∧ Q h2)) {K2 : Option PtrT → Int32 → Hp → Prop} (hK2 : ∀ (p1 : Option PtrT) (a2 : Int32) (x3 : Option AVal) (h : Hp) (c n : Nat), c + 0 ≤ 0 → n + 0 ≤ 0 → K2 p1 a2 h → SW E 2 ([some (vP (some (11, 0))), some (vP (p1)), some (vI (a2)), x3], [], h, c, n)) {p1 : Option PtrT} {a2 : Int32} {x3 : Option AVal} {h : Hp} {c n : Nat} (hc : c + 0 ≤ 0) (hn : n + 0 ≤ 0) (w : w_X11_seatGroups_10 K2 Q p1 a2 h) : SW E 10 ([some (vP (some (11, 0))), some (vP (p1)), some (vI (a2)), x3], [], h, c, n) := by
  obtain ⟨g1, e1, G1, w⟩ := w
  refine k_X11_seatGroups_10 cx hY e1 G1 (fun q => ?_) (fun q => ?_)
  · have w := w.1 q
    exact s_X11_seatGroups_81 cx hY eq hK2 (by omega) (by omega) w
  · have w := w.2 q
    exact s_X11_seatGroups_25 cx hY eq hK2 (by omega) (by omega) w
theorem s_X11_seatGroups_2 {E : EnvT} {d : Nat} (cx : CX E "ShoreDay" cX11_seatGroups 4 none "seatGroups" (d + 1) 0 0) (hY : eY E = lay1) {Q : Hp → Prop} (eq : EQ E 0 0 (fun r h2 => r = [] ∧ Q h2)) : ∀ (N : Nat) (p1 : Option PtrT) (a2 : Int32) (x3 : Option AVal) (h : Hp) (c n : Nat), c + 0 ≤ 0 → n + 0 ≤ 0 → w_X11_seatGroups_2  Q N p1 a2 h → SW E 2 ([some (vP (some (11, 0))), some (vP (p1)), some (vI (a2)), x3], [], h, c, n) := by
  intro N
  induction N with
  | zero =>
    intro _ _ _ h c n _ _ w
    exact w.elim
  | succ N ih =>
    intro p1 a2 x3 h c n hc hn w
    refine k_X11_seatGroups_2 cx hY (fun q => ?_) (fun q => ?_)
    · have w := w.1 q
      exact s_X11_seatGroups_87 cx hY eq  (by omega) (by omega) w
    · have w := w.2 q
      exact s_X11_seatGroups_10 cx hY eq ih (by omega) (by omega) w
theorem s_X11_seatGroups_0 {E : EnvT} {d : Nat} (cx : CX E "ShoreDay" cX11_seatGroups 4 none "seatGroups" (d + 1) 0 0) (hY : eY E = lay1) {Q : Hp → Prop} (eq : EQ E 0 0 (fun r h2 => r = [] ∧ Q h2)) {p1 : Option PtrT} {x2 : Option AVal} {x3 : Option AVal} {h : Hp} {c n : Nat} (hc : c + 0 ≤ 0) (hn : n + 0 ≤ 0) (w : w_X11_seatGroups_0  Q p1 h) : SW E 0 ([some (vP (some (11, 0))), some (vP (p1)), x2, x3], [], h, c, n) := by
  refine k_X11_seatGroups_0 cx hY ?_
  obtain ⟨N1, w⟩ := w
  exact s_X11_seatGroups_2 cx hY eq  _ _ _ _ _ _ _ (by omega) (by omega) w
def wp_X11_seatGroups (p1 : Option PtrT) (h : Hp) (Q : Hp → Prop) : Prop := w_X11_seatGroups_0 Q p1 h
theorem vc_X11_seatGroups {l : Launch} {d : Nat} {p1 : Option PtrT} {h : Hp} {Q : Hp → Prop} (w : wp_X11_seatGroups p1 h Q) : Ct l lay1 yX11_seatGroups cX11_seatGroups 4 none (d + 1) 0 0 [vP (some (11, 0)), vP p1] h (fun r h2 => r = [] ∧ Q h2) := by
  exact Ct.of (by decide) (Nat.le_of_ble_eq_true rfl) fun E cx eq hl hY => s_X11_seatGroups_0 cx hY eq (Nat.le_refl _) (Nat.le_refl _) w
def w_X11_bringToQuay_76 (Q : Hp → Prop) (a1 : Int32) (h : Hp) : Prop := Q (h)
def w_X11_bringToQuay_70 (K2 : Int32 → Hp → Prop) (Q : Hp → Prop) (a1 : Int32) (p2 : Option PtrT) (h : Hp) : Prop := K2 (a1 + 1) (h)
def w_X11_bringToQuay_60 (K2 : Int32 → Hp → Prop) (Q : Hp → Prop) (a1 : Int32) (p2 : Option PtrT) (h : Hp) : Prop := w_X11_bringToQuay_70 K2 Q (a1) (p2) (wI (h) 11 (0) 10 ((gI (h) 11 (0) (10)) + ((1 : Int32))))
def w_X11_bringToQuay_37 (K2 : Int32 → Hp → Prop) (Q : Hp → Prop) (a1 : Int32) (i2 : Nat) (h : Hp) : Prop := vp_in (gI (wI (wI (h) 2 (i2) 6 ((4 : Int32))) 2 (i2) 12 (gI (wI (h) 2 (i2) 6 ((4 : Int32))) 11 (0) (14))) 11 (0) (10)) 60 ∧ (w_X11_bringToQuay_60 K2 Q (a1) (some (2, i2)) (wP (wI (wI (h) 2 (i2) 6 ((4 : Int32))) 2 (i2) 12 (gI (wI (h) 2 (i2) 6 ((4 : Int32))) 11 (0) (14))) 25 (0) (tN (gI (wI (wI (h) 2 (i2) 6 ((4 : Int32))) 2 (i2) 12 (gI (wI (h) 2 (i2) 6 ((4 : Int32))) 11 (0) (14))) 11 (0) (10))) (some (2, i2))))
def w_X11_bringToQuay_28 (K2 : Int32 → Hp → Prop) (Q : Hp → Prop) (a1 : Int32) (p2 : Option PtrT) (h : Hp) : Prop := (((60 : Int32)) ≤ (gI (h) 11 (0) (10)) → w_X11_bringToQuay_70 K2 Q (a1) (p2) (h)) ∧ (¬ ((60 : Int32)) ≤ (gI (h) 11 (0) (10)) → ∃ zl2, p2 = some (2, zl2) ∧ (w_X11_bringToQuay_37 K2 Q (a1) zl2 (h)))
def w_X11_bringToQuay_25 (K2 : Int32 → Hp → Prop) (Q : Hp → Prop) (a1 : Int32) (p2 : Option PtrT) (s0 : Int32) (h : Hp) : Prop := ((s0) = 0 → w_X11_bringToQuay_70 K2 Q (a1) (p2) (h)) ∧ (¬ (s0) = 0 → w_X11_bringToQuay_28 K2 Q (a1) (p2) (h))
def w_X11_bringToQuay_10 (K2 : Int32 → Hp → Prop) (Q : Hp → Prop) (a1 : Int32) (h : Hp) : Prop := ∃ g1, gP (h) 23 (0) (tN (a1)) = some (2, g1) ∧ (vp_in (a1) 60 ∧ (wp_X2_isOverIn (g1) (gI (h) 11 (0) (14)) (h) (fun r2 h2 => w_X11_bringToQuay_25 K2 Q (a1) (some (2, g1)) (r2) (h2))))
def w_X11_bringToQuay_2 (Q : Hp → Prop) : Nat → Int32 → Hp → Prop
  | 0 => fun _ _ => False
  | N + 1 => fun a1 h => ((gI (h) 11 (0) (8)) ≤ (a1) → w_X11_bringToQuay_76  Q (a1) (h)) ∧ (¬ (gI (h) 11 (0) (8)) ≤ (a1) → w_X11_bringToQuay_10 (w_X11_bringToQuay_2  Q N) Q (a1) (h))
def w_X11_bringToQuay_0 (Q : Hp → Prop) (h : Hp) : Prop := ∃ N, w_X11_bringToQuay_2  Q N ((0 : Int32)) (h)
theorem s_X11_bringToQuay_76 {E : EnvT} {d : Nat} (cx : CX E "ShoreDay" cX11_bringToQuay 3 none "bringToQuay" (d + 2) 0 0) (hY : eY E = lay1) {Q : Hp → Prop} (eq : EQ E 0 0 (fun r h2 => r = [] ∧ Q h2)) {a1 : Int32} {x2 : Option AVal} {h : Hp} {c n : Nat} (hc : c + 0 ≤ 0) (hn : n + 0 ≤ 0) (w : w_X11_bringToQuay_76  Q a1 h) : SW E 76 ([some (vP (some (11, 0))), some (vI (a1)), x2], [], h, c, n) := by
  exact k_X11_bringToQuay_76 cx hY eq (by omega) (by omega) ⟨rfl, w⟩
theorem s_X11_bringToQuay_70 {E : EnvT} {d : Nat} (cx : CX E "ShoreDay" cX11_bringToQuay 3 none "bringToQuay" (d + 2) 0 0) (hY : eY E = lay1) {Q : Hp → Prop} (eq : EQ E 0 0 (fun r h2 => r = [] ∧ Q h2)) {K2 : Int32 → Hp → Prop} (hK2 : ∀ (a1 : Int32) (x2 : Option AVal) (h : Hp) (c n : Nat), c + 0 ≤ 0 → n + 0 ≤ 0 → K2 a1 h → SW E 2 ([some (vP (some (11, 0))), some (vI (a1)), x2], [], h, c, n)) {a1 : Int32} {p2 : Option PtrT} {h : Hp} {c n : Nat} (hc : c + 0 ≤ 0) (hn : n + 0 ≤ 0) (w : w_X11_bringToQuay_70 K2 Q a1 p2 h) : SW E 70 ([some (vP (some (11, 0))), some (vI (a1)), some (vP (p2))], [], h, c, n) := by
  refine k_X11_bringToQuay_70 cx hY ?_
  exact hK2 _ _ _ _ _ (by omega) (by omega) w
theorem s_X11_bringToQuay_60 {E : EnvT} {d : Nat} (cx : CX E "ShoreDay" cX11_bringToQuay 3 none "bringToQuay" (d + 2) 0 0) (hY : eY E = lay1) {Q : Hp → Prop} (eq : EQ E 0 0 (fun r h2 => r = [] ∧ Q h2)) {K2 : Int32 → Hp → Prop} (hK2 : ∀ (a1 : Int32) (x2 : Option AVal) (h : Hp) (c n : Nat), c + 0 ≤ 0 → n + 0 ≤ 0 → K2 a1 h → SW E 2 ([some (vP (some (11, 0))), some (vI (a1)), x2], [], h, c, n)) {a1 : Int32} {p2 : Option PtrT} {h : Hp} {c n : Nat} (hc : c + 0 ≤ 0) (hn : n + 0 ≤ 0) (w : w_X11_bringToQuay_60 K2 Q a1 p2 h) : SW E 60 ([some (vP (some (11, 0))), some (vI (a1)), some (vP (p2))], [], h, c, n) := by
  refine k_X11_bringToQuay_60 cx hY ?_
  exact s_X11_bringToQuay_70 cx hY eq hK2 (by omega) (by omega) w
theorem s_X11_bringToQuay_37 {E : EnvT} {d : Nat} (cx : CX E "ShoreDay" cX11_bringToQuay 3 none "bringToQuay" (d + 2) 0 0) (hY : eY E = lay1) {Q : Hp → Prop} (eq : EQ E 0 0 (fun r h2 => r = [] ∧ Q h2)) {K2 : Int32 → Hp → Prop} (hK2 : ∀ (a1 : Int32) (x2 : Option AVal) (h : Hp) (c n : Nat), c + 0 ≤ 0 → n + 0 ≤ 0 → K2 a1 h → SW E 2 ([some (vP (some (11, 0))), some (vI (a1)), x2], [], h, c, n)) {a1 : Int32} {i2 : Nat} {h : Hp} {c n : Nat} (hc : c + 0 ≤ 0) (hn : n + 0 ≤ 0) (w : w_X11_bringToQuay_37 K2 Q a1 i2 h) : SW E 37 ([some (vP (some (11, 0))), some (vI (a1)), some (vP (some (2, i2)))], [], h, c, n) := by
  obtain ⟨G1, w⟩ := w
  refine k_X11_bringToQuay_37 cx hY G1 ?_
  exact s_X11_bringToQuay_60 cx hY eq hK2 (by omega) (by omega) w
theorem s_X11_bringToQuay_28 {E : EnvT} {d : Nat} (cx : CX E "ShoreDay" cX11_bringToQuay 3 none "bringToQuay" (d + 2) 0 0) (hY : eY E = lay1) {Q : Hp → Prop} (eq : EQ E 0 0 (fun r h2 => r = [] ∧ Q h2)) {K2 : Int32 → Hp → Prop} (hK2 : ∀ (a1 : Int32) (x2 : Option AVal) (h : Hp) (c n : Nat), c + 0 ≤ 0 → n + 0 ≤ 0 → K2 a1 h → SW E 2 ([some (vP (some (11, 0))), some (vI (a1)), x2], [], h, c, n)) {a1 : Int32} {p2 : Option PtrT} {h : Hp} {c n : Nat} (hc : c + 0 ≤ 0) (hn : n + 0 ≤ 0) (w : w_X11_bringToQuay_28 K2 Q a1 p2 h) : SW E 28 ([some (vP (some (11, 0))), some (vI (a1)), some (vP (p2))], [], h, c, n) := by
  refine k_X11_bringToQuay_28 cx hY (fun q => ?_) (fun q => ?_)
  · have w := w.1 q
    exact s_X11_bringToQuay_70 cx hY eq hK2 (by omega) (by omega) w
  · have w := w.2 q
    obtain ⟨zl2, ezl2, w⟩ := w
    rw [ezl2]
    exact s_X11_bringToQuay_37 cx hY eq hK2 (by omega) (by omega) w
theorem s_X11_bringToQuay_25 {E : EnvT} {d : Nat} (cx : CX E "ShoreDay" cX11_bringToQuay 3 none "bringToQuay" (d + 2) 0 0) (hY : eY E = lay1) {Q : Hp → Prop} (eq : EQ E 0 0 (fun r h2 => r = [] ∧ Q h2)) {K2 : Int32 → Hp → Prop} (hK2 : ∀ (a1 : Int32) (x2 : Option AVal) (h : Hp) (c n : Nat), c + 0 ≤ 0 → n + 0 ≤ 0 → K2 a1 h → SW E 2 ([some (vP (some (11, 0))), some (vI (a1)), x2], [], h, c, n)) {a1 : Int32} {p2 : Option PtrT} {s0 : Int32} {h : Hp} {c n : Nat} (hc : c + 0 ≤ 0) (hn : n + 0 ≤ 0) (w : w_X11_bringToQuay_25 K2 Q a1 p2 s0 h) : SW E 25 ([some (vP (some (11, 0))), some (vI (a1)), some (vP (p2))], [vI (s0)], h, c, n) := by
  refine k_X11_bringToQuay_25 cx hY (fun q => ?_) (fun q => ?_)
  · have w := w.1 q
    exact s_X11_bringToQuay_70 cx hY eq hK2 (by omega) (by omega) w
  · have w := w.2 q
    exact s_X11_bringToQuay_28 cx hY eq hK2 (by omega) (by omega) w
theorem s_X11_bringToQuay_10 {E : EnvT} {d : Nat} (cx : CX E "ShoreDay" cX11_bringToQuay 3 none "bringToQuay" (d + 2) 0 0) (hY : eY E = lay1) {Q : Hp → Prop} (eq : EQ E 0 0 (fun r h2 => r = [] ∧ Q h2)) {K2 : Int32 → Hp → Prop} (hK2 : ∀ (a1 : Int32) (x2 : Option AVal) (h : Hp) (c n : Nat), c + 0 ≤ 0 → n + 0 ≤ 0 → K2 a1 h → SW E 2 ([some (vP (some (11, 0))), some (vI (a1)), x2], [], h, c, n)) {a1 : Int32} {x2 : Option AVal} {h : Hp} {c n : Nat} (hc : c + 0 ≤ 0) (hn : n + 0 ≤ 0) (w : w_X11_bringToQuay_10 K2 Q a1 h) : SW E 10 ([some (vP (some (11, 0))), some (vI (a1)), x2], [], h, c, n) := by
  obtain ⟨g1, e1, G1, w⟩ := w
  refine k_X11_bringToQuay_10 cx hY e1 G1 (ctY hY (vc_X2_isOverIn (d := d + 0) w)) (by omega) (by omega) (by omega) (fun r h2 hp => ?_)
  obtain ⟨r2, rfl, w⟩ := hp
  exact s_X11_bringToQuay_25 cx hY eq hK2 (by omega) (by omega) w
theorem s_X11_bringToQuay_2 {E : EnvT} {d : Nat} (cx : CX E "ShoreDay" cX11_bringToQuay 3 none "bringToQuay" (d + 2) 0 0) (hY : eY E = lay1) {Q : Hp → Prop} (eq : EQ E 0 0 (fun r h2 => r = [] ∧ Q h2)) : ∀ (N : Nat) (a1 : Int32) (x2 : Option AVal) (h : Hp) (c n : Nat), c + 0 ≤ 0 → n + 0 ≤ 0 → w_X11_bringToQuay_2  Q N a1 h → SW E 2 ([some (vP (some (11, 0))), some (vI (a1)), x2], [], h, c, n) := by
  intro N
  induction N with
  | zero =>
    intro _ _ h c n _ _ w
    exact w.elim
  | succ N ih =>
    intro a1 x2 h c n hc hn w
    refine k_X11_bringToQuay_2 cx hY (fun q => ?_) (fun q => ?_)
    · have w := w.1 q
      exact s_X11_bringToQuay_76 cx hY eq  (by omega) (by omega) w
    · have w := w.2 q
      exact s_X11_bringToQuay_10 cx hY eq ih (by omega) (by omega) w
theorem s_X11_bringToQuay_0 {E : EnvT} {d : Nat} (cx : CX E "ShoreDay" cX11_bringToQuay 3 none "bringToQuay" (d + 2) 0 0) (hY : eY E = lay1) {Q : Hp → Prop} (eq : EQ E 0 0 (fun r h2 => r = [] ∧ Q h2)) {x1 : Option AVal} {x2 : Option AVal} {h : Hp} {c n : Nat} (hc : c + 0 ≤ 0) (hn : n + 0 ≤ 0) (w : w_X11_bringToQuay_0  Q  h) : SW E 0 ([some (vP (some (11, 0))), x1, x2], [], h, c, n) := by
  refine k_X11_bringToQuay_0 cx hY ?_
  obtain ⟨N1, w⟩ := w
  exact s_X11_bringToQuay_2 cx hY eq  _ _ _ _ _ _ (by omega) (by omega) w
def wp_X11_bringToQuay (h : Hp) (Q : Hp → Prop) : Prop := w_X11_bringToQuay_0 Q  h
theorem vc_X11_bringToQuay {l : Launch} {d : Nat} {h : Hp} {Q : Hp → Prop} (w : wp_X11_bringToQuay h Q) : Ct l lay1 yX11_bringToQuay cX11_bringToQuay 3 none (d + 2) 0 0 [vP (some (11, 0))] h (fun r h2 => r = [] ∧ Q h2) := by
  exact Ct.of (by decide) (Nat.le_of_ble_eq_true rfl) fun E cx eq hl hY => s_X11_bringToQuay_0 cx hY eq (Nat.le_refl _) (Nat.le_refl _) w
def w_X11_sail_118 (Q : Hp → Prop) (p1 : Option PtrT) (a2 : Int32) (h : Hp) : Prop := Q (h)
def w_X11_sail_112 (K61 : Option PtrT → Int32 → Hp → Prop) (Q : Hp → Prop) (p1 : Option PtrT) (a2 : Int32) (h : Hp) : Prop := K61 (p1) (a2 + 1) (h)
def w_X11_sail_82 (K61 : Option PtrT → Int32 → Hp → Prop) (Q : Hp → Prop) (p1 : Option PtrT) (a2 : Int32) (h : Hp) : Prop := ∃ g1, gP (h) 21 (0) (tN (a2)) = some (8, g1) ∧ (∃ g2, gP (wI (h) 8 (g1) 3 ((4 : Int32))) 21 (0) (tN (a2)) = some (8, g2) ∧ (∃ g3, gP (wI (wI (h) 8 (g1) 3 ((4 : Int32))) 8 (g2) 4 ((0 : Int32))) 21 (0) (tN (a2)) = some (8, g3) ∧ (vp_in (a2) 6 ∧ (vp_in (a2) 6 ∧ (vp_in (a2) 6 ∧ (w_X11_sail_112 K61 Q (p1) (a2) (wI (wI (wI (h) 8 (g1) 3 ((4 : Int32))) 8 (g2) 4 ((0 : Int32))) 8 (g3) 5 ((0 : Int32)))))))))
def w_X11_sail_69 (K61 : Option PtrT → Int32 → Hp → Prop) (Q : Hp → Prop) (p1 : Option PtrT) (a2 : Int32) (h : Hp) : Prop := ∃ g1, gP (h) 21 (0) (tN (a2)) = some (8, g1) ∧ (vp_in (a2) 6 ∧ ((¬ (gP (h) 8 (g1) 1) = (p1) → w_X11_sail_112 K61 Q (p1) (a2) (h)) ∧ ((gP (h) 8 (g1) 1) = (p1) → w_X11_sail_82 K61 Q (p1) (a2) (h))))
def w_X11_sail_61 (Q : Hp → Prop) : Nat → Option PtrT → Int32 → Hp → Prop
  | 0 => fun _ _ _ => False
  | N + 1 => fun p1 a2 h => ((gI (h) 11 (0) (3)) ≤ (a2) → w_X11_sail_118  Q (p1) (a2) (h)) ∧ (¬ (gI (h) 11 (0) (3)) ≤ (a2) → w_X11_sail_69 (w_X11_sail_61  Q N) Q (p1) (a2) (h))
def w_X11_sail_59 (Q : Hp → Prop) (p1 : Option PtrT) (a2 : Int32) (h : Hp) : Prop := ∃ N, w_X11_sail_61  Q N (p1) ((0 : Int32)) (h)
def w_X11_sail_53 (K7 : Option PtrT → Int32 → Hp → Prop) (Q : Hp → Prop) (p1 : Option PtrT) (a2 : Int32) (p3 : Option PtrT) (h : Hp) : Prop := K7 (p1) (a2 + 1) (h)
def w_X11_sail_42 (K7 : Option PtrT → Int32 → Hp → Prop) (Q : Hp → Prop) (p1 : Option PtrT) (a2 : Int32) (i3 : Nat) (h : Hp) : Prop := w_X11_sail_53 K7 Q (p1) (a2) (some (2, i3)) (wP (wI (h) 2 (i3) 6 ((6 : Int32))) 2 (i3) 7 (none))
def w_X11_sail_39 (K7 : Option PtrT → Int32 → Hp → Prop) (Q : Hp → Prop) (p1 : Option PtrT) (a2 : Int32) (p3 : Option PtrT) (s0 : Int32) (h : Hp) : Prop := ((s0) = 0 → w_X11_sail_53 K7 Q (p1) (a2) (p3) (h)) ∧ (¬ (s0) = 0 → ∃ zl3, p3 = some (2, zl3) ∧ (w_X11_sail_42 K7 Q (p1) (a2) zl3 (h)))
def w_X11_sail_30 (K7 : Option PtrT → Int32 → Hp → Prop) (Q : Hp → Prop) (p1 : Option PtrT) (a2 : Int32) (i3 : Nat) (h : Hp) : Prop := wp_X11_within (gI (h) 2 (i3) (6)) ((1 : Int32)) ((4 : Int32)) (h) (fun r2 h2 => w_X11_sail_39 K7 Q (p1) (a2) (some (2, i3)) (r2) (h2))
def w_X11_sail_15 (K7 : Option PtrT → Int32 → Hp → Prop) (Q : Hp → Prop) (p1 : Option PtrT) (a2 : Int32) (h : Hp) : Prop := ∃ g1, gP (h) 23 (0) (tN (a2)) = some (2, g1) ∧ (vp_in (a2) 60 ∧ ((¬ (gP (h) 2 (g1) 0) = (p1) → w_X11_sail_53 K7 Q (p1) (a2) (some (2, g1)) (h)) ∧ ((gP (h) 2 (g1) 0) = (p1) → w_X11_sail_30 K7 Q (p1) (a2) (g1) (h))))
def w_X11_sail_7 (Q : Hp → Prop) : Nat → Option PtrT → Int32 → Hp → Prop
  | 0 => fun _ _ _ => False
  | N + 1 => fun p1 a2 h => ((gI (h) 11 (0) (8)) ≤ (a2) → w_X11_sail_59  Q (p1) (a2) (h)) ∧ (¬ (gI (h) 11 (0) (8)) ≤ (a2) → w_X11_sail_15 (w_X11_sail_7  Q N) Q (p1) (a2) (h))
def w_X11_sail_0 (Q : Hp → Prop) (i1 : Nat) (h : Hp) : Prop := ∃ N, w_X11_sail_7  Q N (some (6, i1)) ((0 : Int32)) (wI (h) 6 (i1) 4 ((1 : Int32)))
theorem s_X11_sail_118 {E : EnvT} {d : Nat} (cx : CX E "ShoreDay" cX11_sail 4 none "sail" (d + 2) 0 0) (hY : eY E = lay1) {Q : Hp → Prop} (eq : EQ E 0 0 (fun r h2 => r = [] ∧ Q h2)) {p1 : Option PtrT} {a2 : Int32} {x3 : Option AVal} {h : Hp} {c n : Nat} (hc : c + 0 ≤ 0) (hn : n + 0 ≤ 0) (w : w_X11_sail_118  Q p1 a2 h) : SW E 118 ([some (vP (some (11, 0))), some (vP (p1)), some (vI (a2)), x3], [], h, c, n) := by
  exact k_X11_sail_118 cx hY eq (by omega) (by omega) ⟨rfl, w⟩
theorem s_X11_sail_112 {E : EnvT} {d : Nat} (cx : CX E "ShoreDay" cX11_sail 4 none "sail" (d + 2) 0 0) (hY : eY E = lay1) {Q : Hp → Prop} (eq : EQ E 0 0 (fun r h2 => r = [] ∧ Q h2)) {K61 : Option PtrT → Int32 → Hp → Prop} (hK61 : ∀ (p1 : Option PtrT) (a2 : Int32) (x3 : Option AVal) (h : Hp) (c n : Nat), c + 0 ≤ 0 → n + 0 ≤ 0 → K61 p1 a2 h → SW E 61 ([some (vP (some (11, 0))), some (vP (p1)), some (vI (a2)), x3], [], h, c, n)) {p1 : Option PtrT} {a2 : Int32} {x3 : Option AVal} {h : Hp} {c n : Nat} (hc : c + 0 ≤ 0) (hn : n + 0 ≤ 0) (w : w_X11_sail_112 K61 Q p1 a2 h) : SW E 112 ([some (vP (some (11, 0))), some (vP (p1)), some (vI (a2)), x3], [], h, c, n) := by
  refine k_X11_sail_112 cx hY ?_
  exact hK61 _ _ _ _ _ _ (by omega) (by omega) w
theorem s_X11_sail_82 {E : EnvT} {d : Nat} (cx : CX E "ShoreDay" cX11_sail 4 none "sail" (d + 2) 0 0) (hY : eY E = lay1) {Q : Hp → Prop} (eq : EQ E 0 0 (fun r h2 => r = [] ∧ Q h2)) {K61 : Option PtrT → Int32 → Hp → Prop} (hK61 : ∀ (p1 : Option PtrT) (a2 : Int32) (x3 : Option AVal) (h : Hp) (c n : Nat), c + 0 ≤ 0 → n + 0 ≤ 0 → K61 p1 a2 h → SW E 61 ([some (vP (some (11, 0))), some (vP (p1)), some (vI (a2)), x3], [], h, c, n)) {p1 : Option PtrT} {a2 : Int32} {x3 : Option AVal} {h : Hp} {c n : Nat} (hc : c + 0 ≤ 0) (hn : n + 0 ≤ 0) (w : w_X11_sail_82 K61 Q p1 a2 h) : SW E 82 ([some (vP (some (11, 0))), some (vP (p1)), some (vI (a2)), x3], [], h, c, n) := by
  obtain ⟨g1, e1, g2, e2, g3, e3, G1, G2, G3, w⟩ := w
  refine k_X11_sail_82 cx hY e1 e2 e3 G1 G2 G3 ?_
  exact s_X11_sail_112 cx hY eq hK61 (by omega) (by omega) w
theorem s_X11_sail_69 {E : EnvT} {d : Nat} (cx : CX E "ShoreDay" cX11_sail 4 none "sail" (d + 2) 0 0) (hY : eY E = lay1) {Q : Hp → Prop} (eq : EQ E 0 0 (fun r h2 => r = [] ∧ Q h2)) {K61 : Option PtrT → Int32 → Hp → Prop} (hK61 : ∀ (p1 : Option PtrT) (a2 : Int32) (x3 : Option AVal) (h : Hp) (c n : Nat), c + 0 ≤ 0 → n + 0 ≤ 0 → K61 p1 a2 h → SW E 61 ([some (vP (some (11, 0))), some (vP (p1)), some (vI (a2)), x3], [], h, c, n)) {p1 : Option PtrT} {a2 : Int32} {x3 : Option AVal} {h : Hp} {c n : Nat} (hc : c + 0 ≤ 0) (hn : n + 0 ≤ 0) (w : w_X11_sail_69 K61 Q p1 a2 h) : SW E 69 ([some (vP (some (11, 0))), some (vP (p1)), some (vI (a2)), x3], [], h, c, n) := by
  obtain ⟨g1, e1, G1, w⟩ := w
  refine k_X11_sail_69 cx hY e1 G1 (fun q => ?_) (fun q => ?_)
  · have w := w.1 q
    exact s_X11_sail_112 cx hY eq hK61 (by omega) (by omega) w
  · have w := w.2 q
    exact s_X11_sail_82 cx hY eq hK61 (by omega) (by omega) w
theorem s_X11_sail_61 {E : EnvT} {d : Nat} (cx : CX E "ShoreDay" cX11_sail 4 none "sail" (d + 2) 0 0) (hY : eY E = lay1) {Q : Hp → Prop} (eq : EQ E 0 0 (fun r h2 => r = [] ∧ Q h2)) : ∀ (N : Nat) (p1 : Option PtrT) (a2 : Int32) (x3 : Option AVal) (h : Hp) (c n : Nat), c + 0 ≤ 0 → n + 0 ≤ 0 → w_X11_sail_61  Q N p1 a2 h → SW E 61 ([some (vP (some (11, 0))), some (vP (p1)), some (vI (a2)), x3], [], h, c, n) := by
  intro N
  induction N with
  | zero =>
    intro _ _ _ h c n _ _ w
    exact w.elim
  | succ N ih =>
    intro p1 a2 x3 h c n hc hn w
    refine k_X11_sail_61 cx hY (fun q => ?_) (fun q => ?_)
    · have w := w.1 q
      exact s_X11_sail_118 cx hY eq  (by omega) (by omega) w
    · have w := w.2 q
      exact s_X11_sail_69 cx hY eq ih (by omega) (by omega) w
theorem s_X11_sail_59 {E : EnvT} {d : Nat} (cx : CX E "ShoreDay" cX11_sail 4 none "sail" (d + 2) 0 0) (hY : eY E = lay1) {Q : Hp → Prop} (eq : EQ E 0 0 (fun r h2 => r = [] ∧ Q h2)) {p1 : Option PtrT} {a2 : Int32} {x3 : Option AVal} {h : Hp} {c n : Nat} (hc : c + 0 ≤ 0) (hn : n + 0 ≤ 0) (w : w_X11_sail_59  Q p1 a2 h) : SW E 59 ([some (vP (some (11, 0))), some (vP (p1)), some (vI (a2)), x3], [], h, c, n) := by
  refine k_X11_sail_59 cx hY ?_
  obtain ⟨N1, w⟩ := w
  exact s_X11_sail_61 cx hY eq  _ _ _ _ _ _ _ (by omega) (by omega) w
theorem s_X11_sail_53 {E : EnvT} {d : Nat} (cx : CX E "ShoreDay" cX11_sail 4 none "sail" (d + 2) 0 0) (hY : eY E = lay1) {Q : Hp → Prop} (eq : EQ E 0 0 (fun r h2 => r = [] ∧ Q h2)) {K7 : Option PtrT → Int32 → Hp → Prop} (hK7 : ∀ (p1 : Option PtrT) (a2 : Int32) (x3 : Option AVal) (h : Hp) (c n : Nat), c + 0 ≤ 0 → n + 0 ≤ 0 → K7 p1 a2 h → SW E 7 ([some (vP (some (11, 0))), some (vP (p1)), some (vI (a2)), x3], [], h, c, n)) {p1 : Option PtrT} {a2 : Int32} {p3 : Option PtrT} {h : Hp} {c n : Nat} (hc : c + 0 ≤ 0) (hn : n + 0 ≤ 0) (w : w_X11_sail_53 K7 Q p1 a2 p3 h) : SW E 53 ([some (vP (some (11, 0))), some (vP (p1)), some (vI (a2)), some (vP (p3))], [], h, c, n) := by
  refine k_X11_sail_53 cx hY ?_
  exact hK7 _ _ _ _ _ _ (by omega) (by omega) w
theorem s_X11_sail_42 {E : EnvT} {d : Nat} (cx : CX E "ShoreDay" cX11_sail 4 none "sail" (d + 2) 0 0) (hY : eY E = lay1) {Q : Hp → Prop} (eq : EQ E 0 0 (fun r h2 => r = [] ∧ Q h2)) {K7 : Option PtrT → Int32 → Hp → Prop} (hK7 : ∀ (p1 : Option PtrT) (a2 : Int32) (x3 : Option AVal) (h : Hp) (c n : Nat), c + 0 ≤ 0 → n + 0 ≤ 0 → K7 p1 a2 h → SW E 7 ([some (vP (some (11, 0))), some (vP (p1)), some (vI (a2)), x3], [], h, c, n)) {p1 : Option PtrT} {a2 : Int32} {i3 : Nat} {h : Hp} {c n : Nat} (hc : c + 0 ≤ 0) (hn : n + 0 ≤ 0) (w : w_X11_sail_42 K7 Q p1 a2 i3 h) : SW E 42 ([some (vP (some (11, 0))), some (vP (p1)), some (vI (a2)), some (vP (some (2, i3)))], [], h, c, n) := by
  refine k_X11_sail_42 cx hY ?_
  exact s_X11_sail_53 cx hY eq hK7 (by omega) (by omega) w
theorem s_X11_sail_39 {E : EnvT} {d : Nat} (cx : CX E "ShoreDay" cX11_sail 4 none "sail" (d + 2) 0 0) (hY : eY E = lay1) {Q : Hp → Prop} (eq : EQ E 0 0 (fun r h2 => r = [] ∧ Q h2)) {K7 : Option PtrT → Int32 → Hp → Prop} (hK7 : ∀ (p1 : Option PtrT) (a2 : Int32) (x3 : Option AVal) (h : Hp) (c n : Nat), c + 0 ≤ 0 → n + 0 ≤ 0 → K7 p1 a2 h → SW E 7 ([some (vP (some (11, 0))), some (vP (p1)), some (vI (a2)), x3], [], h, c, n)) {p1 : Option PtrT} {a2 : Int32} {p3 : Option PtrT} {s0 : Int32} {h : Hp} {c n : Nat} (hc : c + 0 ≤ 0) (hn : n + 0 ≤ 0) (w : w_X11_sail_39 K7 Q p1 a2 p3 s0 h) : SW E 39 ([some (vP (some (11, 0))), some (vP (p1)), some (vI (a2)), some (vP (p3))], [vI (s0)], h, c, n) := by
  refine k_X11_sail_39 cx hY (fun q => ?_) (fun q => ?_)
  · have w := w.1 q
    exact s_X11_sail_53 cx hY eq hK7 (by omega) (by omega) w
  · have w := w.2 q
    obtain ⟨zl3, ezl3, w⟩ := w
    rw [ezl3]
    exact s_X11_sail_42 cx hY eq hK7 (by omega) (by omega) w
theorem s_X11_sail_30 {E : EnvT} {d : Nat} (cx : CX E "ShoreDay" cX11_sail 4 none "sail" (d + 2) 0 0) (hY : eY E = lay1) {Q : Hp → Prop} (eq : EQ E 0 0 (fun r h2 => r = [] ∧ Q h2)) {K7 : Option PtrT → Int32 → Hp → Prop} (hK7 : ∀ (p1 : Option PtrT) (a2 : Int32) (x3 : Option AVal) (h : Hp) (c n : Nat), c + 0 ≤ 0 → n + 0 ≤ 0 → K7 p1 a2 h → SW E 7 ([some (vP (some (11, 0))), some (vP (p1)), some (vI (a2)), x3], [], h, c, n)) {p1 : Option PtrT} {a2 : Int32} {i3 : Nat} {h : Hp} {c n : Nat} (hc : c + 0 ≤ 0) (hn : n + 0 ≤ 0) (w : w_X11_sail_30 K7 Q p1 a2 i3 h) : SW E 30 ([some (vP (some (11, 0))), some (vP (p1)), some (vI (a2)), some (vP (some (2, i3)))], [], h, c, n) := by
  refine k_X11_sail_30 cx hY (ctY hY (vc_X11_within (d := d + 0) w)) (by omega) (by omega) (by omega) (fun r h2 hp => ?_)
  obtain ⟨r2, rfl, w⟩ := hp
  exact s_X11_sail_39 cx hY eq hK7 (by omega) (by omega) w
theorem s_X11_sail_15 {E : EnvT} {d : Nat} (cx : CX E "ShoreDay" cX11_sail 4 none "sail" (d + 2) 0 0) (hY : eY E = lay1) {Q : Hp → Prop} (eq : EQ E 0 0 (fun r h2 => r = [] ∧ Q h2)) {K7 : Option PtrT → Int32 → Hp → Prop} (hK7 : ∀ (p1 : Option PtrT) (a2 : Int32) (x3 : Option AVal) (h : Hp) (c n : Nat), c + 0 ≤ 0 → n + 0 ≤ 0 → K7 p1 a2 h → SW E 7 ([some (vP (some (11, 0))), some (vP (p1)), some (vI (a2)), x3], [], h, c, n)) {p1 : Option PtrT} {a2 : Int32} {x3 : Option AVal} {h : Hp} {c n : Nat} (hc : c + 0 ≤ 0) (hn : n + 0 ≤ 0) (w : w_X11_sail_15 K7 Q p1 a2 h) : SW E 15 ([some (vP (some (11, 0))), some (vP (p1)), some (vI (a2)), x3], [], h, c, n) := by
  obtain ⟨g1, e1, G1, w⟩ := w
  refine k_X11_sail_15 cx hY e1 G1 (fun q => ?_) (fun q => ?_)
  · have w := w.1 q
    exact s_X11_sail_53 cx hY eq hK7 (by omega) (by omega) w
  · have w := w.2 q
    exact s_X11_sail_30 cx hY eq hK7 (by omega) (by omega) w
theorem s_X11_sail_7 {E : EnvT} {d : Nat} (cx : CX E "ShoreDay" cX11_sail 4 none "sail" (d + 2) 0 0) (hY : eY E = lay1) {Q : Hp → Prop} (eq : EQ E 0 0 (fun r h2 => r = [] ∧ Q h2)) : ∀ (N : Nat) (p1 : Option PtrT) (a2 : Int32) (x3 : Option AVal) (h : Hp) (c n : Nat), c + 0 ≤ 0 → n + 0 ≤ 0 → w_X11_sail_7  Q N p1 a2 h → SW E 7 ([some (vP (some (11, 0))), some (vP (p1)), some (vI (a2)), x3], [], h, c, n) := by
  intro N
  induction N with
  | zero =>
    intro _ _ _ h c n _ _ w
    exact w.elim
  | succ N ih =>
    intro p1 a2 x3 h c n hc hn w
    refine k_X11_sail_7 cx hY (fun q => ?_) (fun q => ?_)
    · have w := w.1 q
      exact s_X11_sail_59 cx hY eq  (by omega) (by omega) w
    · have w := w.2 q
      exact s_X11_sail_15 cx hY eq ih (by omega) (by omega) w
theorem s_X11_sail_0 {E : EnvT} {d : Nat} (cx : CX E "ShoreDay" cX11_sail 4 none "sail" (d + 2) 0 0) (hY : eY E = lay1) {Q : Hp → Prop} (eq : EQ E 0 0 (fun r h2 => r = [] ∧ Q h2)) {i1 : Nat} {x2 : Option AVal} {x3 : Option AVal} {h : Hp} {c n : Nat} (hc : c + 0 ≤ 0) (hn : n + 0 ≤ 0) (w : w_X11_sail_0  Q i1 h) : SW E 0 ([some (vP (some (11, 0))), some (vP (some (6, i1))), x2, x3], [], h, c, n) := by
  refine k_X11_sail_0 cx hY ?_
  obtain ⟨N1, w⟩ := w
  exact s_X11_sail_7 cx hY eq  _ _ _ _ _ _ _ (by omega) (by omega) w
def wp_X11_sail (p1 : Option PtrT) (h : Hp) (Q : Hp → Prop) : Prop := ∃ i1, p1 = some (6, i1) ∧ (w_X11_sail_0 Q i1 h)
theorem vc_X11_sail {l : Launch} {d : Nat} {p1 : Option PtrT} {h : Hp} {Q : Hp → Prop} (w : wp_X11_sail p1 h Q) : Ct l lay1 yX11_sail cX11_sail 4 none (d + 2) 0 0 [vP (some (11, 0)), vP p1] h (fun r h2 => r = [] ∧ Q h2) := by
  obtain ⟨i1, rfl, w⟩ := w; exact Ct.of (by decide) (Nat.le_of_ble_eq_true rfl) fun E cx eq hl hY => s_X11_sail_0 cx hY eq (Nat.le_refl _) (Nat.le_refl _) w
def w_X11_loadAtQuay_55 (Q : Hp → Prop) (p1 : Option PtrT) (a2 : Int32) (h : Hp) : Prop := Q (h)
def w_X11_loadAtQuay_49 (K2 : Option PtrT → Int32 → Hp → Prop) (Q : Hp → Prop) (p1 : Option PtrT) (a2 : Int32) (p3 : Option PtrT) (h : Hp) : Prop := K2 (p1) (a2 + 1) (h)
def w_X11_loadAtQuay_44 (K2 : Option PtrT → Int32 → Hp → Prop) (Q : Hp → Prop) (i1 : Nat) (a2 : Int32) (p3 : Option PtrT) (h : Hp) : Prop := wp_X8_take (i1) (p3) (h) (fun h2 => w_X11_loadAtQuay_49 K2 Q (some (8, i1)) (a2) (p3) (h2))
def w_X11_loadAtQuay_41 (K2 : Option PtrT → Int32 → Hp → Prop) (Q : Hp → Prop) (p1 : Option PtrT) (a2 : Int32) (p3 : Option PtrT) (s0 : Int32) (h : Hp) : Prop := ((s0) = 0 → w_X11_loadAtQuay_49 K2 Q (p1) (a2) (p3) (h)) ∧ (¬ (s0) = 0 → ∃ zl1, p1 = some (8, zl1) ∧ (w_X11_loadAtQuay_44 K2 Q zl1 (a2) (p3) (h)))
def w_X11_loadAtQuay_36 (K2 : Option PtrT → Int32 → Hp → Prop) (Q : Hp → Prop) (i1 : Nat) (a2 : Int32) (p3 : Option PtrT) (h : Hp) : Prop := wp_X8_hasRoomFor (i1) (p3) (h) (fun r2 h2 => w_X11_loadAtQuay_41 K2 Q (some (8, i1)) (a2) (p3) (r2) (h2))
def w_X11_loadAtQuay_28 (K2 : Option PtrT → Int32 → Hp → Prop) (Q : Hp → Prop) (p1 : Option PtrT) (a2 : Int32) (i3 : Nat) (h : Hp) : Prop := (¬ (gI (h) 2 (i3) (6)) = ((4 : Int32)) → w_X11_loadAtQuay_49 K2 Q (p1) (a2) (some (2, i3)) (h)) ∧ ((gI (h) 2 (i3) (6)) = ((4 : Int32)) → ∃ zl1, p1 = some (8, zl1) ∧ (w_X11_loadAtQuay_36 K2 Q zl1 (a2) (some (2, i3)) (h)))
def w_X11_loadAtQuay_10 (K2 : Option PtrT → Int32 → Hp → Prop) (Q : Hp → Prop) (i1 : Nat) (a2 : Int32) (h : Hp) : Prop := ∃ g1, gP (h) 25 (0) (tN (a2)) = some (2, g1) ∧ (vp_in (a2) 60 ∧ ((¬ (gP (h) 2 (g1) 0) = (gP (h) 8 (i1) 1) → w_X11_loadAtQuay_49 K2 Q (some (8, i1)) (a2) (some (2, g1)) (h)) ∧ ((gP (h) 2 (g1) 0) = (gP (h) 8 (i1) 1) → w_X11_loadAtQuay_28 K2 Q (some (8, i1)) (a2) (g1) (h))))
def w_X11_loadAtQuay_2 (Q : Hp → Prop) : Nat → Option PtrT → Int32 → Hp → Prop
  | 0 => fun _ _ _ => False
  | N + 1 => fun p1 a2 h => ((gI (h) 11 (0) (10)) ≤ (a2) → w_X11_loadAtQuay_55  Q (p1) (a2) (h)) ∧ (¬ (gI (h) 11 (0) (10)) ≤ (a2) → ∃ zl1, p1 = some (8, zl1) ∧ (w_X11_loadAtQuay_10 (w_X11_loadAtQuay_2  Q N) Q zl1 (a2) (h)))
def w_X11_loadAtQuay_0 (Q : Hp → Prop) (p1 : Option PtrT) (h : Hp) : Prop := ∃ N, w_X11_loadAtQuay_2  Q N (p1) ((0 : Int32)) (h)
theorem s_X11_loadAtQuay_55 {E : EnvT} {d : Nat} (cx : CX E "ShoreDay" cX11_loadAtQuay 4 none "loadAtQuay" (d + 2) 0 0) (hY : eY E = lay1) {Q : Hp → Prop} (eq : EQ E 0 0 (fun r h2 => r = [] ∧ Q h2)) {p1 : Option PtrT} {a2 : Int32} {x3 : Option AVal} {h : Hp} {c n : Nat} (hc : c + 0 ≤ 0) (hn : n + 0 ≤ 0) (w : w_X11_loadAtQuay_55  Q p1 a2 h) : SW E 55 ([some (vP (some (11, 0))), some (vP (p1)), some (vI (a2)), x3], [], h, c, n) := by
  exact k_X11_loadAtQuay_55 cx hY eq (by omega) (by omega) ⟨rfl, w⟩
theorem s_X11_loadAtQuay_49 {E : EnvT} {d : Nat} (cx : CX E "ShoreDay" cX11_loadAtQuay 4 none "loadAtQuay" (d + 2) 0 0) (hY : eY E = lay1) {Q : Hp → Prop} (eq : EQ E 0 0 (fun r h2 => r = [] ∧ Q h2)) {K2 : Option PtrT → Int32 → Hp → Prop} (hK2 : ∀ (p1 : Option PtrT) (a2 : Int32) (x3 : Option AVal) (h : Hp) (c n : Nat), c + 0 ≤ 0 → n + 0 ≤ 0 → K2 p1 a2 h → SW E 2 ([some (vP (some (11, 0))), some (vP (p1)), some (vI (a2)), x3], [], h, c, n)) {p1 : Option PtrT} {a2 : Int32} {p3 : Option PtrT} {h : Hp} {c n : Nat} (hc : c + 0 ≤ 0) (hn : n + 0 ≤ 0) (w : w_X11_loadAtQuay_49 K2 Q p1 a2 p3 h) : SW E 49 ([some (vP (some (11, 0))), some (vP (p1)), some (vI (a2)), some (vP (p3))], [], h, c, n) := by
  refine k_X11_loadAtQuay_49 cx hY ?_
  exact hK2 _ _ _ _ _ _ (by omega) (by omega) w
theorem s_X11_loadAtQuay_44 {E : EnvT} {d : Nat} (cx : CX E "ShoreDay" cX11_loadAtQuay 4 none "loadAtQuay" (d + 2) 0 0) (hY : eY E = lay1) {Q : Hp → Prop} (eq : EQ E 0 0 (fun r h2 => r = [] ∧ Q h2)) {K2 : Option PtrT → Int32 → Hp → Prop} (hK2 : ∀ (p1 : Option PtrT) (a2 : Int32) (x3 : Option AVal) (h : Hp) (c n : Nat), c + 0 ≤ 0 → n + 0 ≤ 0 → K2 p1 a2 h → SW E 2 ([some (vP (some (11, 0))), some (vP (p1)), some (vI (a2)), x3], [], h, c, n)) {i1 : Nat} {a2 : Int32} {p3 : Option PtrT} {h : Hp} {c n : Nat} (hc : c + 0 ≤ 0) (hn : n + 0 ≤ 0) (w : w_X11_loadAtQuay_44 K2 Q i1 a2 p3 h) : SW E 44 ([some (vP (some (11, 0))), some (vP (some (8, i1))), some (vI (a2)), some (vP (p3))], [], h, c, n) := by
  refine k_X11_loadAtQuay_44 cx hY (ctY hY (vc_X8_take (d := d + 0) w)) (by omega) (by omega) (by omega) (fun r h2 hp => ?_)
  obtain ⟨rfl, w⟩ := hp
  exact s_X11_loadAtQuay_49 cx hY eq hK2 (by omega) (by omega) w
theorem s_X11_loadAtQuay_41 {E : EnvT} {d : Nat} (cx : CX E "ShoreDay" cX11_loadAtQuay 4 none "loadAtQuay" (d + 2) 0 0) (hY : eY E = lay1) {Q : Hp → Prop} (eq : EQ E 0 0 (fun r h2 => r = [] ∧ Q h2)) {K2 : Option PtrT → Int32 → Hp → Prop} (hK2 : ∀ (p1 : Option PtrT) (a2 : Int32) (x3 : Option AVal) (h : Hp) (c n : Nat), c + 0 ≤ 0 → n + 0 ≤ 0 → K2 p1 a2 h → SW E 2 ([some (vP (some (11, 0))), some (vP (p1)), some (vI (a2)), x3], [], h, c, n)) {p1 : Option PtrT} {a2 : Int32} {p3 : Option PtrT} {s0 : Int32} {h : Hp} {c n : Nat} (hc : c + 0 ≤ 0) (hn : n + 0 ≤ 0) (w : w_X11_loadAtQuay_41 K2 Q p1 a2 p3 s0 h) : SW E 41 ([some (vP (some (11, 0))), some (vP (p1)), some (vI (a2)), some (vP (p3))], [vI (s0)], h, c, n) := by
  refine k_X11_loadAtQuay_41 cx hY (fun q => ?_) (fun q => ?_)
  · have w := w.1 q
    exact s_X11_loadAtQuay_49 cx hY eq hK2 (by omega) (by omega) w
  · have w := w.2 q
    obtain ⟨zl1, ezl1, w⟩ := w
    rw [ezl1]
    exact s_X11_loadAtQuay_44 cx hY eq hK2 (by omega) (by omega) w
theorem s_X11_loadAtQuay_36 {E : EnvT} {d : Nat} (cx : CX E "ShoreDay" cX11_loadAtQuay 4 none "loadAtQuay" (d + 2) 0 0) (hY : eY E = lay1) {Q : Hp → Prop} (eq : EQ E 0 0 (fun r h2 => r = [] ∧ Q h2)) {K2 : Option PtrT → Int32 → Hp → Prop} (hK2 : ∀ (p1 : Option PtrT) (a2 : Int32) (x3 : Option AVal) (h : Hp) (c n : Nat), c + 0 ≤ 0 → n + 0 ≤ 0 → K2 p1 a2 h → SW E 2 ([some (vP (some (11, 0))), some (vP (p1)), some (vI (a2)), x3], [], h, c, n)) {i1 : Nat} {a2 : Int32} {p3 : Option PtrT} {h : Hp} {c n : Nat} (hc : c + 0 ≤ 0) (hn : n + 0 ≤ 0) (w : w_X11_loadAtQuay_36 K2 Q i1 a2 p3 h) : SW E 36 ([some (vP (some (11, 0))), some (vP (some (8, i1))), some (vI (a2)), some (vP (p3))], [], h, c, n) := by
  refine k_X11_loadAtQuay_36 cx hY (ctY hY (vc_X8_hasRoomFor (d := d + 0) w)) (by omega) (by omega) (by omega) (fun r h2 hp => ?_)
  obtain ⟨r2, rfl, w⟩ := hp
  exact s_X11_loadAtQuay_41 cx hY eq hK2 (by omega) (by omega) w
theorem s_X11_loadAtQuay_28 {E : EnvT} {d : Nat} (cx : CX E "ShoreDay" cX11_loadAtQuay 4 none "loadAtQuay" (d + 2) 0 0) (hY : eY E = lay1) {Q : Hp → Prop} (eq : EQ E 0 0 (fun r h2 => r = [] ∧ Q h2)) {K2 : Option PtrT → Int32 → Hp → Prop} (hK2 : ∀ (p1 : Option PtrT) (a2 : Int32) (x3 : Option AVal) (h : Hp) (c n : Nat), c + 0 ≤ 0 → n + 0 ≤ 0 → K2 p1 a2 h → SW E 2 ([some (vP (some (11, 0))), some (vP (p1)), some (vI (a2)), x3], [], h, c, n)) {p1 : Option PtrT} {a2 : Int32} {i3 : Nat} {h : Hp} {c n : Nat} (hc : c + 0 ≤ 0) (hn : n + 0 ≤ 0) (w : w_X11_loadAtQuay_28 K2 Q p1 a2 i3 h) : SW E 28 ([some (vP (some (11, 0))), some (vP (p1)), some (vI (a2)), some (vP (some (2, i3)))], [], h, c, n) := by
  refine k_X11_loadAtQuay_28 cx hY (fun q => ?_) (fun q => ?_)
  · have w := w.1 q
    exact s_X11_loadAtQuay_49 cx hY eq hK2 (by omega) (by omega) w
  · have w := w.2 q
    obtain ⟨zl1, ezl1, w⟩ := w
    rw [ezl1]
    exact s_X11_loadAtQuay_36 cx hY eq hK2 (by omega) (by omega) w
theorem s_X11_loadAtQuay_10 {E : EnvT} {d : Nat} (cx : CX E "ShoreDay" cX11_loadAtQuay 4 none "loadAtQuay" (d + 2) 0 0) (hY : eY E = lay1) {Q : Hp → Prop} (eq : EQ E 0 0 (fun r h2 => r = [] ∧ Q h2)) {K2 : Option PtrT → Int32 → Hp → Prop} (hK2 : ∀ (p1 : Option PtrT) (a2 : Int32) (x3 : Option AVal) (h : Hp) (c n : Nat), c + 0 ≤ 0 → n + 0 ≤ 0 → K2 p1 a2 h → SW E 2 ([some (vP (some (11, 0))), some (vP (p1)), some (vI (a2)), x3], [], h, c, n)) {i1 : Nat} {a2 : Int32} {x3 : Option AVal} {h : Hp} {c n : Nat} (hc : c + 0 ≤ 0) (hn : n + 0 ≤ 0) (w : w_X11_loadAtQuay_10 K2 Q i1 a2 h) : SW E 10 ([some (vP (some (11, 0))), some (vP (some (8, i1))), some (vI (a2)), x3], [], h, c, n) := by
  obtain ⟨g1, e1, G1, w⟩ := w
  refine k_X11_loadAtQuay_10 cx hY e1 G1 (fun q => ?_) (fun q => ?_)
  · have w := w.1 q
    exact s_X11_loadAtQuay_49 cx hY eq hK2 (by omega) (by omega) w
  · have w := w.2 q
    exact s_X11_loadAtQuay_28 cx hY eq hK2 (by omega) (by omega) w
theorem s_X11_loadAtQuay_2 {E : EnvT} {d : Nat} (cx : CX E "ShoreDay" cX11_loadAtQuay 4 none "loadAtQuay" (d + 2) 0 0) (hY : eY E = lay1) {Q : Hp → Prop} (eq : EQ E 0 0 (fun r h2 => r = [] ∧ Q h2)) : ∀ (N : Nat) (p1 : Option PtrT) (a2 : Int32) (x3 : Option AVal) (h : Hp) (c n : Nat), c + 0 ≤ 0 → n + 0 ≤ 0 → w_X11_loadAtQuay_2  Q N p1 a2 h → SW E 2 ([some (vP (some (11, 0))), some (vP (p1)), some (vI (a2)), x3], [], h, c, n) := by
  intro N
  induction N with
  | zero =>
    intro _ _ _ h c n _ _ w
    exact w.elim
  | succ N ih =>
    intro p1 a2 x3 h c n hc hn w
    refine k_X11_loadAtQuay_2 cx hY (fun q => ?_) (fun q => ?_)
    · have w := w.1 q
      exact s_X11_loadAtQuay_55 cx hY eq  (by omega) (by omega) w
    · have w := w.2 q
      obtain ⟨zl1, ezl1, w⟩ := w
      rw [ezl1]
      exact s_X11_loadAtQuay_10 cx hY eq ih (by omega) (by omega) w
theorem s_X11_loadAtQuay_0 {E : EnvT} {d : Nat} (cx : CX E "ShoreDay" cX11_loadAtQuay 4 none "loadAtQuay" (d + 2) 0 0) (hY : eY E = lay1) {Q : Hp → Prop} (eq : EQ E 0 0 (fun r h2 => r = [] ∧ Q h2)) {p1 : Option PtrT} {x2 : Option AVal} {x3 : Option AVal} {h : Hp} {c n : Nat} (hc : c + 0 ≤ 0) (hn : n + 0 ≤ 0) (w : w_X11_loadAtQuay_0  Q p1 h) : SW E 0 ([some (vP (some (11, 0))), some (vP (p1)), x2, x3], [], h, c, n) := by
  refine k_X11_loadAtQuay_0 cx hY ?_
  obtain ⟨N1, w⟩ := w
  exact s_X11_loadAtQuay_2 cx hY eq  _ _ _ _ _ _ _ (by omega) (by omega) w
def wp_X11_loadAtQuay (p1 : Option PtrT) (h : Hp) (Q : Hp → Prop) : Prop := w_X11_loadAtQuay_0 Q p1 h
theorem vc_X11_loadAtQuay {l : Launch} {d : Nat} {p1 : Option PtrT} {h : Hp} {Q : Hp → Prop} (w : wp_X11_loadAtQuay p1 h Q) : Ct l lay1 yX11_loadAtQuay cX11_loadAtQuay 4 none (d + 2) 0 0 [vP (some (11, 0)), vP p1] h (fun r h2 => r = [] ∧ Q h2) := by
  exact Ct.of (by decide) (Nat.le_of_ble_eq_true rfl) fun E cx eq hl hY => s_X11_loadAtQuay_0 cx hY eq (Nat.le_refl _) (Nat.le_refl _) w
def w_X11_isSomeoneAtQuay_44 (Q : Int32 → Hp → Prop) (p1 : Option PtrT) (a2 : Int32) (h : Hp) : Prop := Q ((0 : Int32)) (h)
def w_X11_isSomeoneAtQuay_38 (K2 : Option PtrT → Int32 → Hp → Prop) (Q : Int32 → Hp → Prop) (p1 : Option PtrT) (a2 : Int32) (h : Hp) : Prop := K2 (p1) (a2 + 1) (h)
def w_X11_isSomeoneAtQuay_36 (Q : Int32 → Hp → Prop) (p1 : Option PtrT) (a2 : Int32) (h : Hp) : Prop := Q ((1 : Int32)) (h)
def w_X11_isSomeoneAtQuay_23 (K2 : Option PtrT → Int32 → Hp → Prop) (Q : Int32 → Hp → Prop) (p1 : Option PtrT) (a2 : Int32) (h : Hp) : Prop := ∃ g1, gP (h) 25 (0) (tN (a2)) = some (2, g1) ∧ (vp_in (a2) 60 ∧ ((¬ (gI (h) 2 (g1) (6)) = ((4 : Int32)) → w_X11_isSomeoneAtQuay_38 K2 Q (p1) (a2) (h)) ∧ ((gI (h) 2 (g1) (6)) = ((4 : Int32)) → w_X11_isSomeoneAtQuay_36  Q (p1) (a2) (h))))
def w_X11_isSomeoneAtQuay_10 (K2 : Option PtrT → Int32 → Hp → Prop) (Q : Int32 → Hp → Prop) (p1 : Option PtrT) (a2 : Int32) (h : Hp) : Prop := ∃ g1, gP (h) 25 (0) (tN (a2)) = some (2, g1) ∧ (vp_in (a2) 60 ∧ ((¬ (gP (h) 2 (g1) 0) = (p1) → w_X11_isSomeoneAtQuay_38 K2 Q (p1) (a2) (h)) ∧ ((gP (h) 2 (g1) 0) = (p1) → w_X11_isSomeoneAtQuay_23 K2 Q (p1) (a2) (h))))
def w_X11_isSomeoneAtQuay_2 (Q : Int32 → Hp → Prop) : Nat → Option PtrT → Int32 → Hp → Prop
  | 0 => fun _ _ _ => False
  | N + 1 => fun p1 a2 h => ((gI (h) 11 (0) (10)) ≤ (a2) → w_X11_isSomeoneAtQuay_44  Q (p1) (a2) (h)) ∧ (¬ (gI (h) 11 (0) (10)) ≤ (a2) → w_X11_isSomeoneAtQuay_10 (w_X11_isSomeoneAtQuay_2  Q N) Q (p1) (a2) (h))
def w_X11_isSomeoneAtQuay_0 (Q : Int32 → Hp → Prop) (p1 : Option PtrT) (h : Hp) : Prop := ∃ N, w_X11_isSomeoneAtQuay_2  Q N (p1) ((0 : Int32)) (h)
theorem s_X11_isSomeoneAtQuay_44 {E : EnvT} {d : Nat} (cx : CX E "ShoreDay" cX11_isSomeoneAtQuay 3 (some .boolean) "isSomeoneAtQuay" (d + 1) 0 0) (hY : eY E = lay1) {Q : Int32 → Hp → Prop} (eq : EQ E 0 0 (fun r h2 => ∃ x, r = [vI x] ∧ Q x h2)) {p1 : Option PtrT} {a2 : Int32} {h : Hp} {c n : Nat} (hc : c + 0 ≤ 0) (hn : n + 0 ≤ 0) (w : w_X11_isSomeoneAtQuay_44  Q p1 a2 h) : SW E 44 ([some (vP (some (11, 0))), some (vP (p1)), some (vI (a2))], [], h, c, n) := by
  exact k_X11_isSomeoneAtQuay_44 cx hY eq (by omega) (by omega) ⟨_, rfl, w⟩
theorem s_X11_isSomeoneAtQuay_38 {E : EnvT} {d : Nat} (cx : CX E "ShoreDay" cX11_isSomeoneAtQuay 3 (some .boolean) "isSomeoneAtQuay" (d + 1) 0 0) (hY : eY E = lay1) {Q : Int32 → Hp → Prop} (eq : EQ E 0 0 (fun r h2 => ∃ x, r = [vI x] ∧ Q x h2)) {K2 : Option PtrT → Int32 → Hp → Prop} (hK2 : ∀ (p1 : Option PtrT) (a2 : Int32) (h : Hp) (c n : Nat), c + 0 ≤ 0 → n + 0 ≤ 0 → K2 p1 a2 h → SW E 2 ([some (vP (some (11, 0))), some (vP (p1)), some (vI (a2))], [], h, c, n)) {p1 : Option PtrT} {a2 : Int32} {h : Hp} {c n : Nat} (hc : c + 0 ≤ 0) (hn : n + 0 ≤ 0) (w : w_X11_isSomeoneAtQuay_38 K2 Q p1 a2 h) : SW E 38 ([some (vP (some (11, 0))), some (vP (p1)), some (vI (a2))], [], h, c, n) := by
  refine k_X11_isSomeoneAtQuay_38 cx hY ?_
  exact hK2 _ _ _ _ _ (by omega) (by omega) w
theorem s_X11_isSomeoneAtQuay_36 {E : EnvT} {d : Nat} (cx : CX E "ShoreDay" cX11_isSomeoneAtQuay 3 (some .boolean) "isSomeoneAtQuay" (d + 1) 0 0) (hY : eY E = lay1) {Q : Int32 → Hp → Prop} (eq : EQ E 0 0 (fun r h2 => ∃ x, r = [vI x] ∧ Q x h2)) {p1 : Option PtrT} {a2 : Int32} {h : Hp} {c n : Nat} (hc : c + 0 ≤ 0) (hn : n + 0 ≤ 0) (w : w_X11_isSomeoneAtQuay_36  Q p1 a2 h) : SW E 36 ([some (vP (some (11, 0))), some (vP (p1)), some (vI (a2))], [], h, c, n) := by
  exact k_X11_isSomeoneAtQuay_36 cx hY eq (by omega) (by omega) ⟨_, rfl, w⟩
theorem s_X11_isSomeoneAtQuay_23 {E : EnvT} {d : Nat} (cx : CX E "ShoreDay" cX11_isSomeoneAtQuay 3 (some .boolean) "isSomeoneAtQuay" (d + 1) 0 0) (hY : eY E = lay1) {Q : Int32 → Hp → Prop} (eq : EQ E 0 0 (fun r h2 => ∃ x, r = [vI x] ∧ Q x h2)) {K2 : Option PtrT → Int32 → Hp → Prop} (hK2 : ∀ (p1 : Option PtrT) (a2 : Int32) (h : Hp) (c n : Nat), c + 0 ≤ 0 → n + 0 ≤ 0 → K2 p1 a2 h → SW E 2 ([some (vP (some (11, 0))), some (vP (p1)), some (vI (a2))], [], h, c, n)) {p1 : Option PtrT} {a2 : Int32} {h : Hp} {c n : Nat} (hc : c + 0 ≤ 0) (hn : n + 0 ≤ 0) (w : w_X11_isSomeoneAtQuay_23 K2 Q p1 a2 h) : SW E 23 ([some (vP (some (11, 0))), some (vP (p1)), some (vI (a2))], [], h, c, n) := by
  obtain ⟨g1, e1, G1, w⟩ := w
  refine k_X11_isSomeoneAtQuay_23 cx hY e1 G1 (fun q => ?_) (fun q => ?_)
  · have w := w.1 q
    exact s_X11_isSomeoneAtQuay_38 cx hY eq hK2 (by omega) (by omega) w
  · have w := w.2 q
    exact s_X11_isSomeoneAtQuay_36 cx hY eq  (by omega) (by omega) w
theorem s_X11_isSomeoneAtQuay_10 {E : EnvT} {d : Nat} (cx : CX E "ShoreDay" cX11_isSomeoneAtQuay 3 (some .boolean) "isSomeoneAtQuay" (d + 1) 0 0) (hY : eY E = lay1) {Q : Int32 → Hp → Prop} (eq : EQ E 0 0 (fun r h2 => ∃ x, r = [vI x] ∧ Q x h2)) {K2 : Option PtrT → Int32 → Hp → Prop} (hK2 : ∀ (p1 : Option PtrT) (a2 : Int32) (h : Hp) (c n : Nat), c + 0 ≤ 0 → n + 0 ≤ 0 → K2 p1 a2 h → SW E 2 ([some (vP (some (11, 0))), some (vP (p1)), some (vI (a2))], [], h, c, n)) {p1 : Option PtrT} {a2 : Int32} {h : Hp} {c n : Nat} (hc : c + 0 ≤ 0) (hn : n + 0 ≤ 0) (w : w_X11_isSomeoneAtQuay_10 K2 Q p1 a2 h) : SW E 10 ([some (vP (some (11, 0))), some (vP (p1)), some (vI (a2))], [], h, c, n) := by
  obtain ⟨g1, e1, G1, w⟩ := w
  refine k_X11_isSomeoneAtQuay_10 cx hY e1 G1 (fun q => ?_) (fun q => ?_)
  · have w := w.1 q
    exact s_X11_isSomeoneAtQuay_38 cx hY eq hK2 (by omega) (by omega) w
  · have w := w.2 q
    exact s_X11_isSomeoneAtQuay_23 cx hY eq hK2 (by omega) (by omega) w
theorem s_X11_isSomeoneAtQuay_2 {E : EnvT} {d : Nat} (cx : CX E "ShoreDay" cX11_isSomeoneAtQuay 3 (some .boolean) "isSomeoneAtQuay" (d + 1) 0 0) (hY : eY E = lay1) {Q : Int32 → Hp → Prop} (eq : EQ E 0 0 (fun r h2 => ∃ x, r = [vI x] ∧ Q x h2)) : ∀ (N : Nat) (p1 : Option PtrT) (a2 : Int32) (h : Hp) (c n : Nat), c + 0 ≤ 0 → n + 0 ≤ 0 → w_X11_isSomeoneAtQuay_2  Q N p1 a2 h → SW E 2 ([some (vP (some (11, 0))), some (vP (p1)), some (vI (a2))], [], h, c, n) := by
  intro N
  induction N with
  | zero =>
    intro _ _ h c n _ _ w
    exact w.elim
  | succ N ih =>
    intro p1 a2 h c n hc hn w
    refine k_X11_isSomeoneAtQuay_2 cx hY (fun q => ?_) (fun q => ?_)
    · have w := w.1 q
      exact s_X11_isSomeoneAtQuay_44 cx hY eq  (by omega) (by omega) w
    · have w := w.2 q
      exact s_X11_isSomeoneAtQuay_10 cx hY eq ih (by omega) (by omega) w
theorem s_X11_isSomeoneAtQuay_0 {E : EnvT} {d : Nat} (cx : CX E "ShoreDay" cX11_isSomeoneAtQuay 3 (some .boolean) "isSomeoneAtQuay" (d + 1) 0 0) (hY : eY E = lay1) {Q : Int32 → Hp → Prop} (eq : EQ E 0 0 (fun r h2 => ∃ x, r = [vI x] ∧ Q x h2)) {p1 : Option PtrT} {x2 : Option AVal} {h : Hp} {c n : Nat} (hc : c + 0 ≤ 0) (hn : n + 0 ≤ 0) (w : w_X11_isSomeoneAtQuay_0  Q p1 h) : SW E 0 ([some (vP (some (11, 0))), some (vP (p1)), x2], [], h, c, n) := by
  refine k_X11_isSomeoneAtQuay_0 cx hY ?_
  obtain ⟨N1, w⟩ := w
  exact s_X11_isSomeoneAtQuay_2 cx hY eq  _ _ _ _ _ _ (by omega) (by omega) w
def wp_X11_isSomeoneAtQuay (p1 : Option PtrT) (h : Hp) (Q : Int32 → Hp → Prop) : Prop := w_X11_isSomeoneAtQuay_0 Q p1 h
theorem vc_X11_isSomeoneAtQuay {l : Launch} {d : Nat} {p1 : Option PtrT} {h : Hp} {Q : Int32 → Hp → Prop} (w : wp_X11_isSomeoneAtQuay p1 h Q) : Ct l lay1 yX11_isSomeoneAtQuay cX11_isSomeoneAtQuay 3 (some .boolean) (d + 1) 0 0 [vP (some (11, 0)), vP p1] h (fun r h2 => ∃ x, r = [vI x] ∧ Q x h2) := by
  exact Ct.of (by decide) (Nat.le_of_ble_eq_true rfl) fun E cx eq hl hY => s_X11_isSomeoneAtQuay_0 cx hY eq (Nat.le_refl _) (Nat.le_refl _) w
def w_X11_isSomeoneToFetch_47 (Q : Int32 → Hp → Prop) (p1 : Option PtrT) (a2 : Int32) (h : Hp) : Prop := Q ((0 : Int32)) (h)
def w_X11_isSomeoneToFetch_41 (K2 : Option PtrT → Int32 → Hp → Prop) (Q : Int32 → Hp → Prop) (p1 : Option PtrT) (a2 : Int32) (h : Hp) : Prop := K2 (p1) (a2 + 1) (h)
def w_X11_isSomeoneToFetch_39 (Q : Int32 → Hp → Prop) (p1 : Option PtrT) (a2 : Int32) (h : Hp) : Prop := Q ((1 : Int32)) (h)
def w_X11_isSomeoneToFetch_36 (K2 : Option PtrT → Int32 → Hp → Prop) (Q : Int32 → Hp → Prop) (p1 : Option PtrT) (a2 : Int32) (s0 : Int32) (h : Hp) : Prop := ((s0) = 0 → w_X11_isSomeoneToFetch_41 K2 Q (p1) (a2) (h)) ∧ (¬ (s0) = 0 → w_X11_isSomeoneToFetch_39  Q (p1) (a2) (h))
def w_X11_isSomeoneToFetch_23 (K2 : Option PtrT → Int32 → Hp → Prop) (Q : Int32 → Hp → Prop) (p1 : Option PtrT) (a2 : Int32) (h : Hp) : Prop := ∃ g1, gP (h) 23 (0) (tN (a2)) = some (2, g1) ∧ (vp_in (a2) 60 ∧ (wp_X2_waitsAboard (g1) (gI (h) 11 (0) (14)) (h) (fun r2 h2 => w_X11_isSomeoneToFetch_36 K2 Q (p1) (a2) (r2) (h2))))
def w_X11_isSomeoneToFetch_10 (K2 : Option PtrT → Int32 → Hp → Prop) (Q : Int32 → Hp → Prop) (p1 : Option PtrT) (a2 : Int32) (h : Hp) : Prop := ∃ g1, gP (h) 23 (0) (tN (a2)) = some (2, g1) ∧ (vp_in (a2) 60 ∧ ((¬ (gP (h) 2 (g1) 0) = (p1) → w_X11_isSomeoneToFetch_41 K2 Q (p1) (a2) (h)) ∧ ((gP (h) 2 (g1) 0) = (p1) → w_X11_isSomeoneToFetch_23 K2 Q (p1) (a2) (h))))
def w_X11_isSomeoneToFetch_2 (Q : Int32 → Hp → Prop) : Nat → Option PtrT → Int32 → Hp → Prop
  | 0 => fun _ _ _ => False
  | N + 1 => fun p1 a2 h => ((gI (h) 11 (0) (8)) ≤ (a2) → w_X11_isSomeoneToFetch_47  Q (p1) (a2) (h)) ∧ (¬ (gI (h) 11 (0) (8)) ≤ (a2) → w_X11_isSomeoneToFetch_10 (w_X11_isSomeoneToFetch_2  Q N) Q (p1) (a2) (h))
def w_X11_isSomeoneToFetch_0 (Q : Int32 → Hp → Prop) (p1 : Option PtrT) (h : Hp) : Prop := ∃ N, w_X11_isSomeoneToFetch_2  Q N (p1) ((0 : Int32)) (h)
theorem s_X11_isSomeoneToFetch_47 {E : EnvT} {d : Nat} (cx : CX E "ShoreDay" cX11_isSomeoneToFetch 3 (some .boolean) "isSomeoneToFetch" (d + 2) 0 0) (hY : eY E = lay1) {Q : Int32 → Hp → Prop} (eq : EQ E 0 0 (fun r h2 => ∃ x, r = [vI x] ∧ Q x h2)) {p1 : Option PtrT} {a2 : Int32} {h : Hp} {c n : Nat} (hc : c + 0 ≤ 0) (hn : n + 0 ≤ 0) (w : w_X11_isSomeoneToFetch_47  Q p1 a2 h) : SW E 47 ([some (vP (some (11, 0))), some (vP (p1)), some (vI (a2))], [], h, c, n) := by
  exact k_X11_isSomeoneToFetch_47 cx hY eq (by omega) (by omega) ⟨_, rfl, w⟩
theorem s_X11_isSomeoneToFetch_41 {E : EnvT} {d : Nat} (cx : CX E "ShoreDay" cX11_isSomeoneToFetch 3 (some .boolean) "isSomeoneToFetch" (d + 2) 0 0) (hY : eY E = lay1) {Q : Int32 → Hp → Prop} (eq : EQ E 0 0 (fun r h2 => ∃ x, r = [vI x] ∧ Q x h2)) {K2 : Option PtrT → Int32 → Hp → Prop} (hK2 : ∀ (p1 : Option PtrT) (a2 : Int32) (h : Hp) (c n : Nat), c + 0 ≤ 0 → n + 0 ≤ 0 → K2 p1 a2 h → SW E 2 ([some (vP (some (11, 0))), some (vP (p1)), some (vI (a2))], [], h, c, n)) {p1 : Option PtrT} {a2 : Int32} {h : Hp} {c n : Nat} (hc : c + 0 ≤ 0) (hn : n + 0 ≤ 0) (w : w_X11_isSomeoneToFetch_41 K2 Q p1 a2 h) : SW E 41 ([some (vP (some (11, 0))), some (vP (p1)), some (vI (a2))], [], h, c, n) := by
  refine k_X11_isSomeoneToFetch_41 cx hY ?_
  exact hK2 _ _ _ _ _ (by omega) (by omega) w
theorem s_X11_isSomeoneToFetch_39 {E : EnvT} {d : Nat} (cx : CX E "ShoreDay" cX11_isSomeoneToFetch 3 (some .boolean) "isSomeoneToFetch" (d + 2) 0 0) (hY : eY E = lay1) {Q : Int32 → Hp → Prop} (eq : EQ E 0 0 (fun r h2 => ∃ x, r = [vI x] ∧ Q x h2)) {p1 : Option PtrT} {a2 : Int32} {h : Hp} {c n : Nat} (hc : c + 0 ≤ 0) (hn : n + 0 ≤ 0) (w : w_X11_isSomeoneToFetch_39  Q p1 a2 h) : SW E 39 ([some (vP (some (11, 0))), some (vP (p1)), some (vI (a2))], [], h, c, n) := by
  exact k_X11_isSomeoneToFetch_39 cx hY eq (by omega) (by omega) ⟨_, rfl, w⟩
theorem s_X11_isSomeoneToFetch_36 {E : EnvT} {d : Nat} (cx : CX E "ShoreDay" cX11_isSomeoneToFetch 3 (some .boolean) "isSomeoneToFetch" (d + 2) 0 0) (hY : eY E = lay1) {Q : Int32 → Hp → Prop} (eq : EQ E 0 0 (fun r h2 => ∃ x, r = [vI x] ∧ Q x h2)) {K2 : Option PtrT → Int32 → Hp → Prop} (hK2 : ∀ (p1 : Option PtrT) (a2 : Int32) (h : Hp) (c n : Nat), c + 0 ≤ 0 → n + 0 ≤ 0 → K2 p1 a2 h → SW E 2 ([some (vP (some (11, 0))), some (vP (p1)), some (vI (a2))], [], h, c, n)) {p1 : Option PtrT} {a2 : Int32} {s0 : Int32} {h : Hp} {c n : Nat} (hc : c + 0 ≤ 0) (hn : n + 0 ≤ 0) (w : w_X11_isSomeoneToFetch_36 K2 Q p1 a2 s0 h) : SW E 36 ([some (vP (some (11, 0))), some (vP (p1)), some (vI (a2))], [vI (s0)], h, c, n) := by
  refine k_X11_isSomeoneToFetch_36 cx hY (fun q => ?_) (fun q => ?_)
  · have w := w.1 q
    exact s_X11_isSomeoneToFetch_41 cx hY eq hK2 (by omega) (by omega) w
  · have w := w.2 q
    exact s_X11_isSomeoneToFetch_39 cx hY eq  (by omega) (by omega) w
theorem s_X11_isSomeoneToFetch_23 {E : EnvT} {d : Nat} (cx : CX E "ShoreDay" cX11_isSomeoneToFetch 3 (some .boolean) "isSomeoneToFetch" (d + 2) 0 0) (hY : eY E = lay1) {Q : Int32 → Hp → Prop} (eq : EQ E 0 0 (fun r h2 => ∃ x, r = [vI x] ∧ Q x h2)) {K2 : Option PtrT → Int32 → Hp → Prop} (hK2 : ∀ (p1 : Option PtrT) (a2 : Int32) (h : Hp) (c n : Nat), c + 0 ≤ 0 → n + 0 ≤ 0 → K2 p1 a2 h → SW E 2 ([some (vP (some (11, 0))), some (vP (p1)), some (vI (a2))], [], h, c, n)) {p1 : Option PtrT} {a2 : Int32} {h : Hp} {c n : Nat} (hc : c + 0 ≤ 0) (hn : n + 0 ≤ 0) (w : w_X11_isSomeoneToFetch_23 K2 Q p1 a2 h) : SW E 23 ([some (vP (some (11, 0))), some (vP (p1)), some (vI (a2))], [], h, c, n) := by
  obtain ⟨g1, e1, G1, w⟩ := w
  refine k_X11_isSomeoneToFetch_23 cx hY e1 G1 (ctY hY (vc_X2_waitsAboard (d := d + 0) w)) (by omega) (by omega) (by omega) (fun r h2 hp => ?_)
  obtain ⟨r2, rfl, w⟩ := hp
  exact s_X11_isSomeoneToFetch_36 cx hY eq hK2 (by omega) (by omega) w
theorem s_X11_isSomeoneToFetch_10 {E : EnvT} {d : Nat} (cx : CX E "ShoreDay" cX11_isSomeoneToFetch 3 (some .boolean) "isSomeoneToFetch" (d + 2) 0 0) (hY : eY E = lay1) {Q : Int32 → Hp → Prop} (eq : EQ E 0 0 (fun r h2 => ∃ x, r = [vI x] ∧ Q x h2)) {K2 : Option PtrT → Int32 → Hp → Prop} (hK2 : ∀ (p1 : Option PtrT) (a2 : Int32) (h : Hp) (c n : Nat), c + 0 ≤ 0 → n + 0 ≤ 0 → K2 p1 a2 h → SW E 2 ([some (vP (some (11, 0))), some (vP (p1)), some (vI (a2))], [], h, c, n)) {p1 : Option PtrT} {a2 : Int32} {h : Hp} {c n : Nat} (hc : c + 0 ≤ 0) (hn : n + 0 ≤ 0) (w : w_X11_isSomeoneToFetch_10 K2 Q p1 a2 h) : SW E 10 ([some (vP (some (11, 0))), some (vP (p1)), some (vI (a2))], [], h, c, n) := by
  obtain ⟨g1, e1, G1, w⟩ := w
  refine k_X11_isSomeoneToFetch_10 cx hY e1 G1 (fun q => ?_) (fun q => ?_)
  · have w := w.1 q
    exact s_X11_isSomeoneToFetch_41 cx hY eq hK2 (by omega) (by omega) w
  · have w := w.2 q
    exact s_X11_isSomeoneToFetch_23 cx hY eq hK2 (by omega) (by omega) w
theorem s_X11_isSomeoneToFetch_2 {E : EnvT} {d : Nat} (cx : CX E "ShoreDay" cX11_isSomeoneToFetch 3 (some .boolean) "isSomeoneToFetch" (d + 2) 0 0) (hY : eY E = lay1) {Q : Int32 → Hp → Prop} (eq : EQ E 0 0 (fun r h2 => ∃ x, r = [vI x] ∧ Q x h2)) : ∀ (N : Nat) (p1 : Option PtrT) (a2 : Int32) (h : Hp) (c n : Nat), c + 0 ≤ 0 → n + 0 ≤ 0 → w_X11_isSomeoneToFetch_2  Q N p1 a2 h → SW E 2 ([some (vP (some (11, 0))), some (vP (p1)), some (vI (a2))], [], h, c, n) := by
  intro N
  induction N with
  | zero =>
    intro _ _ h c n _ _ w
    exact w.elim
  | succ N ih =>
    intro p1 a2 h c n hc hn w
    refine k_X11_isSomeoneToFetch_2 cx hY (fun q => ?_) (fun q => ?_)
    · have w := w.1 q
      exact s_X11_isSomeoneToFetch_47 cx hY eq  (by omega) (by omega) w
    · have w := w.2 q
      exact s_X11_isSomeoneToFetch_10 cx hY eq ih (by omega) (by omega) w
theorem s_X11_isSomeoneToFetch_0 {E : EnvT} {d : Nat} (cx : CX E "ShoreDay" cX11_isSomeoneToFetch 3 (some .boolean) "isSomeoneToFetch" (d + 2) 0 0) (hY : eY E = lay1) {Q : Int32 → Hp → Prop} (eq : EQ E 0 0 (fun r h2 => ∃ x, r = [vI x] ∧ Q x h2)) {p1 : Option PtrT} {x2 : Option AVal} {h : Hp} {c n : Nat} (hc : c + 0 ≤ 0) (hn : n + 0 ≤ 0) (w : w_X11_isSomeoneToFetch_0  Q p1 h) : SW E 0 ([some (vP (some (11, 0))), some (vP (p1)), x2], [], h, c, n) := by
  refine k_X11_isSomeoneToFetch_0 cx hY ?_
  obtain ⟨N1, w⟩ := w
  exact s_X11_isSomeoneToFetch_2 cx hY eq  _ _ _ _ _ _ (by omega) (by omega) w
def wp_X11_isSomeoneToFetch (p1 : Option PtrT) (h : Hp) (Q : Int32 → Hp → Prop) : Prop := w_X11_isSomeoneToFetch_0 Q p1 h
theorem vc_X11_isSomeoneToFetch {l : Launch} {d : Nat} {p1 : Option PtrT} {h : Hp} {Q : Int32 → Hp → Prop} (w : wp_X11_isSomeoneToFetch p1 h Q) : Ct l lay1 yX11_isSomeoneToFetch cX11_isSomeoneToFetch 3 (some .boolean) (d + 2) 0 0 [vP (some (11, 0)), vP p1] h (fun r h2 => ∃ x, r = [vI x] ∧ Q x h2) := by
  exact Ct.of (by decide) (Nat.le_of_ble_eq_true rfl) fun E cx eq hl hY => s_X11_isSomeoneToFetch_0 cx hY eq (Nat.le_refl _) (Nat.le_refl _) w
def w_X1_valueOfLine_120 (Q : Int32 → Hp → Prop) (i0 : Nat) (a1 : Int32) (p2 : Option PtrT) (a3 : Int32) (a4 : Int32) (s0 : Int32) (h : Hp) : Prop := Q (s0) (h)
def w_X1_valueOfLine_116 (Q : Int32 → Hp → Prop) (i0 : Nat) (a1 : Int32) (p2 : Option PtrT) (a3 : Int32) (a4 : Int32) (h : Hp) : Prop := wp_X1_pop (i0) (h) (fun r2 h2 => w_X1_valueOfLine_120  Q (i0) (a1) (p2) (a3) (a4) (r2) (h2))
def w_X1_valueOfLine_110 (K25 : Nat → Int32 → Option PtrT → Int32 → Int32 → Hp → Prop) (Q : Int32 → Hp → Prop) (i0 : Nat) (a1 : Int32) (p2 : Option PtrT) (a3 : Int32) (a4 : Int32) (a5 : Int32) (h : Hp) : Prop := K25 (i0) (a1) (p2) (a3) (a4 + 1) (h)
def w_X1_valueOfLine_107 (K25 : Nat → Int32 → Option PtrT → Int32 → Int32 → Hp → Prop) (Q : Int32 → Hp → Prop) (i0 : Nat) (a1 : Int32) (p2 : Option PtrT) (a3 : Int32) (a4 : Int32) (a5 : Int32) (a6 : Int32) (a7 : Int32) (j0 : Nat) (s1 : Int32) (h : Hp) : Prop := wp_X1_push (j0) (s1) (h) (fun h2 => w_X1_valueOfLine_110 K25 Q (i0) (a1) (p2) (a3) (a4) (a5) (h2))
def w_X1_valueOfLine_95 (K25 : Nat → Int32 → Option PtrT → Int32 → Int32 → Hp → Prop) (Q : Int32 → Hp → Prop) (i0 : Nat) (a1 : Int32) (p2 : Option PtrT) (a3 : Int32) (a4 : Int32) (a5 : Int32) (a6 : Int32) (s0 : Int32) (h : Hp) : Prop := wp_X1_join (a5) (s0) (a6) (h) (fun r2 h2 => w_X1_valueOfLine_107 K25 Q (i0) (a1) (p2) (a3) (a4) (a5) (a6) (s0) (i0) (r2) (h2))
def w_X1_valueOfLine_89 (K25 : Nat → Int32 → Option PtrT → Int32 → Int32 → Hp → Prop) (Q : Int32 → Hp → Prop) (i0 : Nat) (a1 : Int32) (p2 : Option PtrT) (a3 : Int32) (a4 : Int32) (a5 : Int32) (s0 : Int32) (h : Hp) : Prop := wp_X1_pop (i0) (h) (fun r2 h2 => w_X1_valueOfLine_95 K25 Q (i0) (a1) (p2) (a3) (a4) (a5) (s0) (r2) (h2))
def w_X1_valueOfLine_85 (K25 : Nat → Int32 → Option PtrT → Int32 → Int32 → Hp → Prop) (Q : Int32 → Hp → Prop) (i0 : Nat) (a1 : Int32) (p2 : Option PtrT) (a3 : Int32) (a4 : Int32) (a5 : Int32) (h : Hp) : Prop := wp_X1_pop (i0) (h) (fun r2 h2 => w_X1_valueOfLine_89 K25 Q (i0) (a1) (p2) (a3) (a4) (a5) (r2) (h2))
def w_X1_valueOfLine_82 (K25 : Nat → Int32 → Option PtrT → Int32 → Int32 → Hp → Prop) (Q : Int32 → Hp → Prop) (i0 : Nat) (a1 : Int32) (p2 : Option PtrT) (a3 : Int32) (a4 : Int32) (a5 : Int32) (h : Hp) : Prop := w_X1_valueOfLine_110 K25 Q (i0) (a1) (p2) (a3) (a4) (a5) (h)
def w_X1_valueOfLine_79 (K25 : Nat → Int32 → Option PtrT → Int32 → Int32 → Hp → Prop) (Q : Int32 → Hp → Prop) (i0 : Nat) (a1 : Int32) (p2 : Option PtrT) (a3 : Int32) (a4 : Int32) (a5 : Int32) (j0 : Nat) (s1 : Int32) (h : Hp) : Prop := wp_X1_push (j0) (s1) (h) (fun h2 => w_X1_valueOfLine_82 K25 Q (i0) (a1) (p2) (a3) (a4) (a5) (h2))
def w_X1_valueOfLine_72 (K25 : Nat → Int32 → Option PtrT → Int32 → Int32 → Hp → Prop) (Q : Int32 → Hp → Prop) (i0 : Nat) (a1 : Int32) (i2 : Nat) (a3 : Int32) (a4 : Int32) (a5 : Int32) (h : Hp) : Prop := wp_X2_valueOf (i2) (a5) (h) (fun r2 h2 => w_X1_valueOfLine_79 K25 Q (i0) (a1) (some (2, i2)) (a3) (a4) (a5) (i0) (r2) (h2))
def w_X1_valueOfLine_65 (K25 : Nat → Int32 → Option PtrT → Int32 → Int32 → Hp → Prop) (Q : Int32 → Hp → Prop) (i0 : Nat) (a1 : Int32) (p2 : Option PtrT) (a3 : Int32) (a4 : Int32) (a5 : Int32) (h : Hp) : Prop := ((a5) < ((13 : Int32)) → w_X1_valueOfLine_85 K25 Q (i0) (a1) (p2) (a3) (a4) (a5) (h)) ∧ (¬ (a5) < ((13 : Int32)) → ∃ zl2, p2 = some (2, zl2) ∧ (w_X1_valueOfLine_72 K25 Q (i0) (a1) zl2 (a3) (a4) (a5) (h)))
def w_X1_valueOfLine_62 (K25 : Nat → Int32 → Option PtrT → Int32 → Int32 → Hp → Prop) (Q : Int32 → Hp → Prop) (i0 : Nat) (a1 : Int32) (p2 : Option PtrT) (a3 : Int32) (a4 : Int32) (a5 : Int32) (h : Hp) : Prop := w_X1_valueOfLine_110 K25 Q (i0) (a1) (p2) (a3) (a4) (a5) (h)
def w_X1_valueOfLine_51 (K25 : Nat → Int32 → Option PtrT → Int32 → Int32 → Hp → Prop) (Q : Int32 → Hp → Prop) (i0 : Nat) (a1 : Int32) (p2 : Option PtrT) (a3 : Int32) (a4 : Int32) (a5 : Int32) (h : Hp) : Prop := vp_in (a4) 600 ∧ (wp_X1_push (i0) (gI (h) 28 (i0) (tN (a4))) (h) (fun h2 => w_X1_valueOfLine_62 K25 Q (i0) (a1) (p2) (a3) (a4) (a5) (h2)))
def w_X1_valueOfLine_36 (K25 : Nat → Int32 → Option PtrT → Int32 → Int32 → Hp → Prop) (Q : Int32 → Hp → Prop) (i0 : Nat) (a1 : Int32) (p2 : Option PtrT) (a3 : Int32) (a4 : Int32) (h : Hp) : Prop := vp_in (a4) 600 ∧ ((0 < (-(gI (h) 28 (i0) (tN (a4)))) → w_X1_valueOfLine_65 K25 Q (i0) (a1) (p2) (a3) (a4) (-(gI (h) 28 (i0) (tN (a4)))) (h)) ∧ (¬ 0 < (-(gI (h) 28 (i0) (tN (a4)))) → w_X1_valueOfLine_51 K25 Q (i0) (a1) (p2) (a3) (a4) (-(gI (h) 28 (i0) (tN (a4)))) (h)))
def w_X1_valueOfLine_25 (Q : Int32 → Hp → Prop) : Nat → Nat → Int32 → Option PtrT → Int32 → Int32 → Hp → Prop
  | 0 => fun _ _ _ _ _ _ => False
  | N + 1 => fun i0 a1 p2 a3 a4 h => vp_in (a1) 16 ∧ (((gI (h) 29 (i0) (tN (a1))) ≤ (a4) → w_X1_valueOfLine_116  Q (i0) (a1) (p2) (a3) (a4) (h)) ∧ (¬ (gI (h) 29 (i0) (tN (a1))) ≤ (a4) → w_X1_valueOfLine_36 (w_X1_valueOfLine_25  Q N) Q (i0) (a1) (p2) (a3) (a4) (h)))
def w_X1_valueOfLine_21 (Q : Int32 → Hp → Prop) (i0 : Nat) (a1 : Int32) (p2 : Option PtrT) (s0 : Int32) (h : Hp) : Prop := ∃ N, w_X1_valueOfLine_25  Q N (i0) (a1) (p2) (s0) (s0) (h)
def w_X1_valueOfLine_13 (Q : Int32 → Hp → Prop) (i0 : Nat) (a1 : Int32) (p2 : Option PtrT) (h : Hp) : Prop := vp_in ((a1) - ((1 : Int32))) 16 ∧ (w_X1_valueOfLine_21  Q (i0) (a1) (p2) (gI (h) 29 (i0) (tN ((a1) - ((1 : Int32))))) (h))
def w_X1_valueOfLine_9 (Q : Int32 → Hp → Prop) (i0 : Nat) (a1 : Int32) (p2 : Option PtrT) (h : Hp) : Prop := w_X1_valueOfLine_21  Q (i0) (a1) (p2) ((0 : Int32)) (h)
def w_X1_valueOfLine_0 (Q : Int32 → Hp → Prop) (i0 : Nat) (a1 : Int32) (p2 : Option PtrT) (h : Hp) : Prop := (¬ (a1) = 0 → w_X1_valueOfLine_13  Q (i0) (a1) (p2) (wI (h) 1 (i0) 4 ((0 : Int32)))) ∧ ((a1) = 0 → w_X1_valueOfLine_9  Q (i0) (a1) (p2) (wI (h) 1 (i0) 4 ((0 : Int32))))
theorem s_X1_valueOfLine_120 {E : EnvT} {d : Nat} (cx : CX E "ShoreDay$FeeText" cX1_valueOfLine 8 (some .int) "valueOfLine" (d + 2) 0 0) (hY : eY E = lay1) {Q : Int32 → Hp → Prop} (eq : EQ E 0 0 (fun r h2 => ∃ x, r = [vI x] ∧ Q x h2)) {i0 : Nat} {a1 : Int32} {p2 : Option PtrT} {a3 : Int32} {a4 : Int32} {x5 : Option AVal} {x6 : Option AVal} {x7 : Option AVal} {s0 : Int32} {h : Hp} {c n : Nat} (hc : c + 0 ≤ 0) (hn : n + 0 ≤ 0) (w : w_X1_valueOfLine_120  Q i0 a1 p2 a3 a4 s0 h) : SW E 120 ([some (vP (some (1, i0))), some (vI (a1)), some (vP (p2)), some (vI (a3)), some (vI (a4)), x5, x6, x7], [vI (s0)], h, c, n) := by
  exact k_X1_valueOfLine_120 cx hY eq (by omega) (by omega) ⟨_, rfl, w⟩
theorem s_X1_valueOfLine_116 {E : EnvT} {d : Nat} (cx : CX E "ShoreDay$FeeText" cX1_valueOfLine 8 (some .int) "valueOfLine" (d + 2) 0 0) (hY : eY E = lay1) {Q : Int32 → Hp → Prop} (eq : EQ E 0 0 (fun r h2 => ∃ x, r = [vI x] ∧ Q x h2)) {i0 : Nat} {a1 : Int32} {p2 : Option PtrT} {a3 : Int32} {a4 : Int32} {x5 : Option AVal} {x6 : Option AVal} {x7 : Option AVal} {h : Hp} {c n : Nat} (hc : c + 0 ≤ 0) (hn : n + 0 ≤ 0) (w : w_X1_valueOfLine_116  Q i0 a1 p2 a3 a4 h) : SW E 116 ([some (vP (some (1, i0))), some (vI (a1)), some (vP (p2)), some (vI (a3)), some (vI (a4)), x5, x6, x7], [], h, c, n) := by
  refine k_X1_valueOfLine_116 cx hY (ctY hY (vc_X1_pop (d := d + 0) w)) (by omega) (by omega) (by omega) (fun r h2 hp => ?_)
  obtain ⟨r2, rfl, w⟩ := hp
  exact s_X1_valueOfLine_120 cx hY eq  (by omega) (by omega) w
theorem s_X1_valueOfLine_110 {E : EnvT} {d : Nat} (cx : CX E "ShoreDay$FeeText" cX1_valueOfLine 8 (some .int) "valueOfLine" (d + 2) 0 0) (hY : eY E = lay1) {Q : Int32 → Hp → Prop} (eq : EQ E 0 0 (fun r h2 => ∃ x, r = [vI x] ∧ Q x h2)) {K25 : Nat → Int32 → Option PtrT → Int32 → Int32 → Hp → Prop} (hK25 : ∀ (i0 : Nat) (a1 : Int32) (p2 : Option PtrT) (a3 : Int32) (a4 : Int32) (x5 : Option AVal) (x6 : Option AVal) (x7 : Option AVal) (h : Hp) (c n : Nat), c + 0 ≤ 0 → n + 0 ≤ 0 → K25 i0 a1 p2 a3 a4 h → SW E 25 ([some (vP (some (1, i0))), some (vI (a1)), some (vP (p2)), some (vI (a3)), some (vI (a4)), x5, x6, x7], [], h, c, n)) {i0 : Nat} {a1 : Int32} {p2 : Option PtrT} {a3 : Int32} {a4 : Int32} {a5 : Int32} {x6 : Option AVal} {x7 : Option AVal} {h : Hp} {c n : Nat} (hc : c + 0 ≤ 0) (hn : n + 0 ≤ 0) (w : w_X1_valueOfLine_110 K25 Q i0 a1 p2 a3 a4 a5 h) : SW E 110 ([some (vP (some (1, i0))), some (vI (a1)), some (vP (p2)), some (vI (a3)), some (vI (a4)), some (vI (a5)), x6, x7], [], h, c, n) := by
  refine k_X1_valueOfLine_110 cx hY ?_
  exact hK25 _ _ _ _ _ _ _ _ _ _ _ (by omega) (by omega) w
theorem s_X1_valueOfLine_107 {E : EnvT} {d : Nat} (cx : CX E "ShoreDay$FeeText" cX1_valueOfLine 8 (some .int) "valueOfLine" (d + 2) 0 0) (hY : eY E = lay1) {Q : Int32 → Hp → Prop} (eq : EQ E 0 0 (fun r h2 => ∃ x, r = [vI x] ∧ Q x h2)) {K25 : Nat → Int32 → Option PtrT → Int32 → Int32 → Hp → Prop} (hK25 : ∀ (i0 : Nat) (a1 : Int32) (p2 : Option PtrT) (a3 : Int32) (a4 : Int32) (x5 : Option AVal) (x6 : Option AVal) (x7 : Option AVal) (h : Hp) (c n : Nat), c + 0 ≤ 0 → n + 0 ≤ 0 → K25 i0 a1 p2 a3 a4 h → SW E 25 ([some (vP (some (1, i0))), some (vI (a1)), some (vP (p2)), some (vI (a3)), some (vI (a4)), x5, x6, x7], [], h, c, n)) {i0 : Nat} {a1 : Int32} {p2 : Option PtrT} {a3 : Int32} {a4 : Int32} {a5 : Int32} {a6 : Int32} {a7 : Int32} {j0 : Nat} {s1 : Int32} {h : Hp} {c n : Nat} (hc : c + 0 ≤ 0) (hn : n + 0 ≤ 0) (w : w_X1_valueOfLine_107 K25 Q i0 a1 p2 a3 a4 a5 a6 a7 j0 s1 h) : SW E 107 ([some (vP (some (1, i0))), some (vI (a1)), some (vP (p2)), some (vI (a3)), some (vI (a4)), some (vI (a5)), some (vI (a6)), some (vI (a7))], [vI (s1), vP (some (1, j0))], h, c, n) := by
  refine k_X1_valueOfLine_107 cx hY (ctY hY (vc_X1_push (d := d + 0) w)) (by omega) (by omega) (by omega) (fun r h2 hp => ?_)
  obtain ⟨rfl, w⟩ := hp
  exact s_X1_valueOfLine_110 cx hY eq hK25 (by omega) (by omega) w
theorem s_X1_valueOfLine_95 {E : EnvT} {d : Nat} (cx : CX E "ShoreDay$FeeText" cX1_valueOfLine 8 (some .int) "valueOfLine" (d + 2) 0 0) (hY : eY E = lay1) {Q : Int32 → Hp → Prop} (eq : EQ E 0 0 (fun r h2 => ∃ x, r = [vI x] ∧ Q x h2)) {K25 : Nat → Int32 → Option PtrT → Int32 → Int32 → Hp → Prop} (hK25 : ∀ (i0 : Nat) (a1 : Int32) (p2 : Option PtrT) (a3 : Int32) (a4 : Int32) (x5 : Option AVal) (x6 : Option AVal) (x7 : Option AVal) (h : Hp) (c n : Nat), c + 0 ≤ 0 → n + 0 ≤ 0 → K25 i0 a1 p2 a3 a4 h → SW E 25 ([some (vP (some (1, i0))), some (vI (a1)), some (vP (p2)), some (vI (a3)), some (vI (a4)), x5, x6, x7], [], h, c, n)) {i0 : Nat} {a1 : Int32} {p2 : Option PtrT} {a3 : Int32} {a4 : Int32} {a5 : Int32} {a6 : Int32} {x7 : Option AVal} {s0 : Int32} {h : Hp} {c n : Nat} (hc : c + 0 ≤ 0) (hn : n + 0 ≤ 0) (w : w_X1_valueOfLine_95 K25 Q i0 a1 p2 a3 a4 a5 a6 s0 h) : SW E 95 ([some (vP (some (1, i0))), some (vI (a1)), some (vP (p2)), some (vI (a3)), some (vI (a4)), some (vI (a5)), some (vI (a6)), x7], [vI (s0)], h, c, n) := by
  refine k_X1_valueOfLine_95 cx hY (ctY hY (vc_X1_join (d := d + 0) w)) (by omega) (by omega) (by omega) (fun r h2 hp => ?_)
  obtain ⟨r2, rfl, w⟩ := hp
  exact s_X1_valueOfLine_107 cx hY eq hK25 (by omega) (by omega) w
theorem s_X1_valueOfLine_89 {E : EnvT} {d : Nat} (cx : CX E "ShoreDay$FeeText" cX1_valueOfLine 8 (some .int) "valueOfLine" (d + 2) 0 0) (hY : eY E = lay1) {Q : Int32 → Hp → Prop} (eq : EQ E 0 0 (fun r h2 => ∃ x, r = [vI x] ∧ Q x h2)) {K25 : Nat → Int32 → Option PtrT → Int32 → Int32 → Hp → Prop} (hK25 : ∀ (i0 : Nat) (a1 : Int32) (p2 : Option PtrT) (a3 : Int32) (a4 : Int32) (x5 : Option AVal) (x6 : Option AVal) (x7 : Option AVal) (h : Hp) (c n : Nat), c + 0 ≤ 0 → n + 0 ≤ 0 → K25 i0 a1 p2 a3 a4 h → SW E 25 ([some (vP (some (1, i0))), some (vI (a1)), some (vP (p2)), some (vI (a3)), some (vI (a4)), x5, x6, x7], [], h, c, n)) {i0 : Nat} {a1 : Int32} {p2 : Option PtrT} {a3 : Int32} {a4 : Int32} {a5 : Int32} {x6 : Option AVal} {x7 : Option AVal} {s0 : Int32} {h : Hp} {c n : Nat} (hc : c + 0 ≤ 0) (hn : n + 0 ≤ 0) (w : w_X1_valueOfLine_89 K25 Q i0 a1 p2 a3 a4 a5 s0 h) : SW E 89 ([some (vP (some (1, i0))), some (vI (a1)), some (vP (p2)), some (vI (a3)), some (vI (a4)), some (vI (a5)), x6, x7], [vI (s0)], h, c, n) := by
  refine k_X1_valueOfLine_89 cx hY (ctY hY (vc_X1_pop (d := d + 0) w)) (by omega) (by omega) (by omega) (fun r h2 hp => ?_)
  obtain ⟨r2, rfl, w⟩ := hp
  exact s_X1_valueOfLine_95 cx hY eq hK25 (by omega) (by omega) w
theorem s_X1_valueOfLine_85 {E : EnvT} {d : Nat} (cx : CX E "ShoreDay$FeeText" cX1_valueOfLine 8 (some .int) "valueOfLine" (d + 2) 0 0) (hY : eY E = lay1) {Q : Int32 → Hp → Prop} (eq : EQ E 0 0 (fun r h2 => ∃ x, r = [vI x] ∧ Q x h2)) {K25 : Nat → Int32 → Option PtrT → Int32 → Int32 → Hp → Prop} (hK25 : ∀ (i0 : Nat) (a1 : Int32) (p2 : Option PtrT) (a3 : Int32) (a4 : Int32) (x5 : Option AVal) (x6 : Option AVal) (x7 : Option AVal) (h : Hp) (c n : Nat), c + 0 ≤ 0 → n + 0 ≤ 0 → K25 i0 a1 p2 a3 a4 h → SW E 25 ([some (vP (some (1, i0))), some (vI (a1)), some (vP (p2)), some (vI (a3)), some (vI (a4)), x5, x6, x7], [], h, c, n)) {i0 : Nat} {a1 : Int32} {p2 : Option PtrT} {a3 : Int32} {a4 : Int32} {a5 : Int32} {x6 : Option AVal} {x7 : Option AVal} {h : Hp} {c n : Nat} (hc : c + 0 ≤ 0) (hn : n + 0 ≤ 0) (w : w_X1_valueOfLine_85 K25 Q i0 a1 p2 a3 a4 a5 h) : SW E 85 ([some (vP (some (1, i0))), some (vI (a1)), some (vP (p2)), some (vI (a3)), some (vI (a4)), some (vI (a5)), x6, x7], [], h, c, n) := by
  refine k_X1_valueOfLine_85 cx hY (ctY hY (vc_X1_pop (d := d + 0) w)) (by omega) (by omega) (by omega) (fun r h2 hp => ?_)
  obtain ⟨r2, rfl, w⟩ := hp
  exact s_X1_valueOfLine_89 cx hY eq hK25 (by omega) (by omega) w
theorem s_X1_valueOfLine_82 {E : EnvT} {d : Nat} (cx : CX E "ShoreDay$FeeText" cX1_valueOfLine 8 (some .int) "valueOfLine" (d + 2) 0 0) (hY : eY E = lay1) {Q : Int32 → Hp → Prop} (eq : EQ E 0 0 (fun r h2 => ∃ x, r = [vI x] ∧ Q x h2)) {K25 : Nat → Int32 → Option PtrT → Int32 → Int32 → Hp → Prop} (hK25 : ∀ (i0 : Nat) (a1 : Int32) (p2 : Option PtrT) (a3 : Int32) (a4 : Int32) (x5 : Option AVal) (x6 : Option AVal) (x7 : Option AVal) (h : Hp) (c n : Nat), c + 0 ≤ 0 → n + 0 ≤ 0 → K25 i0 a1 p2 a3 a4 h → SW E 25 ([some (vP (some (1, i0))), some (vI (a1)), some (vP (p2)), some (vI (a3)), some (vI (a4)), x5, x6, x7], [], h, c, n)) {i0 : Nat} {a1 : Int32} {p2 : Option PtrT} {a3 : Int32} {a4 : Int32} {a5 : Int32} {x6 : Option AVal} {x7 : Option AVal} {h : Hp} {c n : Nat} (hc : c + 0 ≤ 0) (hn : n + 0 ≤ 0) (w : w_X1_valueOfLine_82 K25 Q i0 a1 p2 a3 a4 a5 h) : SW E 82 ([some (vP (some (1, i0))), some (vI (a1)), some (vP (p2)), some (vI (a3)), some (vI (a4)), some (vI (a5)), x6, x7], [], h, c, n) := by
  refine k_X1_valueOfLine_82 cx hY ?_
  exact s_X1_valueOfLine_110 cx hY eq hK25 (by omega) (by omega) w
theorem s_X1_valueOfLine_79 {E : EnvT} {d : Nat} (cx : CX E "ShoreDay$FeeText" cX1_valueOfLine 8 (some .int) "valueOfLine" (d + 2) 0 0) (hY : eY E = lay1) {Q : Int32 → Hp → Prop} (eq : EQ E 0 0 (fun r h2 => ∃ x, r = [vI x] ∧ Q x h2)) {K25 : Nat → Int32 → Option PtrT → Int32 → Int32 → Hp → Prop} (hK25 : ∀ (i0 : Nat) (a1 : Int32) (p2 : Option PtrT) (a3 : Int32) (a4 : Int32) (x5 : Option AVal) (x6 : Option AVal) (x7 : Option AVal) (h : Hp) (c n : Nat), c + 0 ≤ 0 → n + 0 ≤ 0 → K25 i0 a1 p2 a3 a4 h → SW E 25 ([some (vP (some (1, i0))), some (vI (a1)), some (vP (p2)), some (vI (a3)), some (vI (a4)), x5, x6, x7], [], h, c, n)) {i0 : Nat} {a1 : Int32} {p2 : Option PtrT} {a3 : Int32} {a4 : Int32} {a5 : Int32} {x6 : Option AVal} {x7 : Option AVal} {j0 : Nat} {s1 : Int32} {h : Hp} {c n : Nat} (hc : c + 0 ≤ 0) (hn : n + 0 ≤ 0) (w : w_X1_valueOfLine_79 K25 Q i0 a1 p2 a3 a4 a5 j0 s1 h) : SW E 79 ([some (vP (some (1, i0))), some (vI (a1)), some (vP (p2)), some (vI (a3)), some (vI (a4)), some (vI (a5)), x6, x7], [vI (s1), vP (some (1, j0))], h, c, n) := by
  refine k_X1_valueOfLine_79 cx hY (ctY hY (vc_X1_push (d := d + 0) w)) (by omega) (by omega) (by omega) (fun r h2 hp => ?_)
  obtain ⟨rfl, w⟩ := hp
  exact s_X1_valueOfLine_82 cx hY eq hK25 (by omega) (by omega) w
theorem s_X1_valueOfLine_72 {E : EnvT} {d : Nat} (cx : CX E "ShoreDay$FeeText" cX1_valueOfLine 8 (some .int) "valueOfLine" (d + 2) 0 0) (hY : eY E = lay1) {Q : Int32 → Hp → Prop} (eq : EQ E 0 0 (fun r h2 => ∃ x, r = [vI x] ∧ Q x h2)) {K25 : Nat → Int32 → Option PtrT → Int32 → Int32 → Hp → Prop} (hK25 : ∀ (i0 : Nat) (a1 : Int32) (p2 : Option PtrT) (a3 : Int32) (a4 : Int32) (x5 : Option AVal) (x6 : Option AVal) (x7 : Option AVal) (h : Hp) (c n : Nat), c + 0 ≤ 0 → n + 0 ≤ 0 → K25 i0 a1 p2 a3 a4 h → SW E 25 ([some (vP (some (1, i0))), some (vI (a1)), some (vP (p2)), some (vI (a3)), some (vI (a4)), x5, x6, x7], [], h, c, n)) {i0 : Nat} {a1 : Int32} {i2 : Nat} {a3 : Int32} {a4 : Int32} {a5 : Int32} {x6 : Option AVal} {x7 : Option AVal} {h : Hp} {c n : Nat} (hc : c + 0 ≤ 0) (hn : n + 0 ≤ 0) (w : w_X1_valueOfLine_72 K25 Q i0 a1 i2 a3 a4 a5 h) : SW E 72 ([some (vP (some (1, i0))), some (vI (a1)), some (vP (some (2, i2))), some (vI (a3)), some (vI (a4)), some (vI (a5)), x6, x7], [], h, c, n) := by
  refine k_X1_valueOfLine_72 cx hY (ctY hY (vc_X2_valueOf (d := d + 0) w)) (by omega) (by omega) (by omega) (fun r h2 hp => ?_)
  obtain ⟨r2, rfl, w⟩ := hp
  exact s_X1_valueOfLine_79 cx hY eq hK25 (by omega) (by omega) w
theorem s_X1_valueOfLine_65 {E : EnvT} {d : Nat} (cx : CX E "ShoreDay$FeeText" cX1_valueOfLine 8 (some .int) "valueOfLine" (d + 2) 0 0) (hY : eY E = lay1) {Q : Int32 → Hp → Prop} (eq : EQ E 0 0 (fun r h2 => ∃ x, r = [vI x] ∧ Q x h2)) {K25 : Nat → Int32 → Option PtrT → Int32 → Int32 → Hp → Prop} (hK25 : ∀ (i0 : Nat) (a1 : Int32) (p2 : Option PtrT) (a3 : Int32) (a4 : Int32) (x5 : Option AVal) (x6 : Option AVal) (x7 : Option AVal) (h : Hp) (c n : Nat), c + 0 ≤ 0 → n + 0 ≤ 0 → K25 i0 a1 p2 a3 a4 h → SW E 25 ([some (vP (some (1, i0))), some (vI (a1)), some (vP (p2)), some (vI (a3)), some (vI (a4)), x5, x6, x7], [], h, c, n)) {i0 : Nat} {a1 : Int32} {p2 : Option PtrT} {a3 : Int32} {a4 : Int32} {a5 : Int32} {x6 : Option AVal} {x7 : Option AVal} {h : Hp} {c n : Nat} (hc : c + 0 ≤ 0) (hn : n + 0 ≤ 0) (w : w_X1_valueOfLine_65 K25 Q i0 a1 p2 a3 a4 a5 h) : SW E 65 ([some (vP (some (1, i0))), some (vI (a1)), some (vP (p2)), some (vI (a3)), some (vI (a4)), some (vI (a5)), x6, x7], [], h, c, n) := by
  refine k_X1_valueOfLine_65 cx hY (fun q => ?_) (fun q => ?_)
  · have w := w.1 q
    exact s_X1_valueOfLine_85 cx hY eq hK25 (by omega) (by omega) w
  · have w := w.2 q
    obtain ⟨zl2, ezl2, w⟩ := w
    rw [ezl2]
    exact s_X1_valueOfLine_72 cx hY eq hK25 (by omega) (by omega) w
theorem s_X1_valueOfLine_62 {E : EnvT} {d : Nat} (cx : CX E "ShoreDay$FeeText" cX1_valueOfLine 8 (some .int) "valueOfLine" (d + 2) 0 0) (hY : eY E = lay1) {Q : Int32 → Hp → Prop} (eq : EQ E 0 0 (fun r h2 => ∃ x, r = [vI x] ∧ Q x h2)) {K25 : Nat → Int32 → Option PtrT → Int32 → Int32 → Hp → Prop} (hK25 : ∀ (i0 : Nat) (a1 : Int32) (p2 : Option PtrT) (a3 : Int32) (a4 : Int32) (x5 : Option AVal) (x6 : Option AVal) (x7 : Option AVal) (h : Hp) (c n : Nat), c + 0 ≤ 0 → n + 0 ≤ 0 → K25 i0 a1 p2 a3 a4 h → SW E 25 ([some (vP (some (1, i0))), some (vI (a1)), some (vP (p2)), some (vI (a3)), some (vI (a4)), x5, x6, x7], [], h, c, n)) {i0 : Nat} {a1 : Int32} {p2 : Option PtrT} {a3 : Int32} {a4 : Int32} {a5 : Int32} {x6 : Option AVal} {x7 : Option AVal} {h : Hp} {c n : Nat} (hc : c + 0 ≤ 0) (hn : n + 0 ≤ 0) (w : w_X1_valueOfLine_62 K25 Q i0 a1 p2 a3 a4 a5 h) : SW E 62 ([some (vP (some (1, i0))), some (vI (a1)), some (vP (p2)), some (vI (a3)), some (vI (a4)), some (vI (a5)), x6, x7], [], h, c, n) := by
  refine k_X1_valueOfLine_62 cx hY ?_
  exact s_X1_valueOfLine_110 cx hY eq hK25 (by omega) (by omega) w
theorem s_X1_valueOfLine_51 {E : EnvT} {d : Nat} (cx : CX E "ShoreDay$FeeText" cX1_valueOfLine 8 (some .int) "valueOfLine" (d + 2) 0 0) (hY : eY E = lay1) {Q : Int32 → Hp → Prop} (eq : EQ E 0 0 (fun r h2 => ∃ x, r = [vI x] ∧ Q x h2)) {K25 : Nat → Int32 → Option PtrT → Int32 → Int32 → Hp → Prop} (hK25 : ∀ (i0 : Nat) (a1 : Int32) (p2 : Option PtrT) (a3 : Int32) (a4 : Int32) (x5 : Option AVal) (x6 : Option AVal) (x7 : Option AVal) (h : Hp) (c n : Nat), c + 0 ≤ 0 → n + 0 ≤ 0 → K25 i0 a1 p2 a3 a4 h → SW E 25 ([some (vP (some (1, i0))), some (vI (a1)), some (vP (p2)), some (vI (a3)), some (vI (a4)), x5, x6, x7], [], h, c, n)) {i0 : Nat} {a1 : Int32} {p2 : Option PtrT} {a3 : Int32} {a4 : Int32} {a5 : Int32} {x6 : Option AVal} {x7 : Option AVal} {h : Hp} {c n : Nat} (hc : c + 0 ≤ 0) (hn : n + 0 ≤ 0) (w : w_X1_valueOfLine_51 K25 Q i0 a1 p2 a3 a4 a5 h) : SW E 51 ([some (vP (some (1, i0))), some (vI (a1)), some (vP (p2)), some (vI (a3)), some (vI (a4)), some (vI (a5)), x6, x7], [], h, c, n) := by
  obtain ⟨G1, w⟩ := w
  refine k_X1_valueOfLine_51 cx hY G1 (ctY hY (vc_X1_push (d := d + 0) w)) (by omega) (by omega) (by omega) (fun r h2 hp => ?_)
  obtain ⟨rfl, w⟩ := hp
  exact s_X1_valueOfLine_62 cx hY eq hK25 (by omega) (by omega) w
theorem s_X1_valueOfLine_36 {E : EnvT} {d : Nat} (cx : CX E "ShoreDay$FeeText" cX1_valueOfLine 8 (some .int) "valueOfLine" (d + 2) 0 0) (hY : eY E = lay1) {Q : Int32 → Hp → Prop} (eq : EQ E 0 0 (fun r h2 => ∃ x, r = [vI x] ∧ Q x h2)) {K25 : Nat → Int32 → Option PtrT → Int32 → Int32 → Hp → Prop} (hK25 : ∀ (i0 : Nat) (a1 : Int32) (p2 : Option PtrT) (a3 : Int32) (a4 : Int32) (x5 : Option AVal) (x6 : Option AVal) (x7 : Option AVal) (h : Hp) (c n : Nat), c + 0 ≤ 0 → n + 0 ≤ 0 → K25 i0 a1 p2 a3 a4 h → SW E 25 ([some (vP (some (1, i0))), some (vI (a1)), some (vP (p2)), some (vI (a3)), some (vI (a4)), x5, x6, x7], [], h, c, n)) {i0 : Nat} {a1 : Int32} {p2 : Option PtrT} {a3 : Int32} {a4 : Int32} {x5 : Option AVal} {x6 : Option AVal} {x7 : Option AVal} {h : Hp} {c n : Nat} (hc : c + 0 ≤ 0) (hn : n + 0 ≤ 0) (w : w_X1_valueOfLine_36 K25 Q i0 a1 p2 a3 a4 h) : SW E 36 ([some (vP (some (1, i0))), some (vI (a1)), some (vP (p2)), some (vI (a3)), some (vI (a4)), x5, x6, x7], [], h, c, n) := by
  obtain ⟨G1, w⟩ := w
  refine k_X1_valueOfLine_36 cx hY G1 (fun q => ?_) (fun q => ?_)
  · have w := w.1 q
    exact s_X1_valueOfLine_65 cx hY eq hK25 (by omega) (by omega) w
  · have w := w.2 q
    exact s_X1_valueOfLine_51 cx hY eq hK25 (by omega) (by omega) w
theorem s_X1_valueOfLine_25 {E : EnvT} {d : Nat} (cx : CX E "ShoreDay$FeeText" cX1_valueOfLine 8 (some .int) "valueOfLine" (d + 2) 0 0) (hY : eY E = lay1) {Q : Int32 → Hp → Prop} (eq : EQ E 0 0 (fun r h2 => ∃ x, r = [vI x] ∧ Q x h2)) : ∀ (N : Nat) (i0 : Nat) (a1 : Int32) (p2 : Option PtrT) (a3 : Int32) (a4 : Int32) (x5 : Option AVal) (x6 : Option AVal) (x7 : Option AVal) (h : Hp) (c n : Nat), c + 0 ≤ 0 → n + 0 ≤ 0 → w_X1_valueOfLine_25  Q N i0 a1 p2 a3 a4 h → SW E 25 ([some (vP (some (1, i0))), some (vI (a1)), some (vP (p2)), some (vI (a3)), some (vI (a4)), x5, x6, x7], [], h, c, n) := by
  intro N
  induction N with
  | zero =>
    intro _ _ _ _ _ _ _ _ h c n _ _ w
    exact w.elim
  | succ N ih =>
    intro i0 a1 p2 a3 a4 x5 x6 x7 h c n hc hn w
    obtain ⟨G1, w⟩ := w
    refine k_X1_valueOfLine_25 cx hY G1 (fun q => ?_) (fun q => ?_)
    · have w := w.1 q
      exact s_X1_valueOfLine_116 cx hY eq  (by omega) (by omega) w
    · have w := w.2 q
      exact s_X1_valueOfLine_36 cx hY eq ih (by omega) (by omega) w
theorem s_X1_valueOfLine_21 {E : EnvT} {d : Nat} (cx : CX E "ShoreDay$FeeText" cX1_valueOfLine 8 (some .int) "valueOfLine" (d + 2) 0 0) (hY : eY E = lay1) {Q : Int32 → Hp → Prop} (eq : EQ E 0 0 (fun r h2 => ∃ x, r = [vI x] ∧ Q x h2)) {i0 : Nat} {a1 : Int32} {p2 : Option PtrT} {x3 : Option AVal} {x4 : Option AVal} {x5 : Option AVal} {x6 : Option AVal} {x7 : Option AVal} {s0 : Int32} {h : Hp} {c n : Nat} (hc : c + 0 ≤ 0) (hn : n + 0 ≤ 0) (w : w_X1_valueOfLine_21  Q i0 a1 p2 s0 h) : SW E 21 ([some (vP (some (1, i0))), some (vI (a1)), some (vP (p2)), x3, x4, x5, x6, x7], [vI (s0)], h, c, n) := by
  refine k_X1_valueOfLine_21 cx hY ?_
  obtain ⟨N1, w⟩ := w
  exact s_X1_valueOfLine_25 cx hY eq  _ _ _ _ _ _ _ _ _ _ _ _ (by omega) (by omega) w
theorem s_X1_valueOfLine_13 {E : EnvT} {d : Nat} (cx : CX E "ShoreDay$FeeText" cX1_valueOfLine 8 (some .int) "valueOfLine" (d + 2) 0 0) (hY : eY E = lay1) {Q : Int32 → Hp → Prop} (eq : EQ E 0 0 (fun r h2 => ∃ x, r = [vI x] ∧ Q x h2)) {i0 : Nat} {a1 : Int32} {p2 : Option PtrT} {x3 : Option AVal} {x4 : Option AVal} {x5 : Option AVal} {x6 : Option AVal} {x7 : Option AVal} {h : Hp} {c n : Nat} (hc : c + 0 ≤ 0) (hn : n + 0 ≤ 0) (w : w_X1_valueOfLine_13  Q i0 a1 p2 h) : SW E 13 ([some (vP (some (1, i0))), some (vI (a1)), some (vP (p2)), x3, x4, x5, x6, x7], [], h, c, n) := by
  obtain ⟨G1, w⟩ := w
  refine k_X1_valueOfLine_13 cx hY G1 ?_
  exact s_X1_valueOfLine_21 cx hY eq  (by omega) (by omega) w
theorem s_X1_valueOfLine_9 {E : EnvT} {d : Nat} (cx : CX E "ShoreDay$FeeText" cX1_valueOfLine 8 (some .int) "valueOfLine" (d + 2) 0 0) (hY : eY E = lay1) {Q : Int32 → Hp → Prop} (eq : EQ E 0 0 (fun r h2 => ∃ x, r = [vI x] ∧ Q x h2)) {i0 : Nat} {a1 : Int32} {p2 : Option PtrT} {x3 : Option AVal} {x4 : Option AVal} {x5 : Option AVal} {x6 : Option AVal} {x7 : Option AVal} {h : Hp} {c n : Nat} (hc : c + 0 ≤ 0) (hn : n + 0 ≤ 0) (w : w_X1_valueOfLine_9  Q i0 a1 p2 h) : SW E 9 ([some (vP (some (1, i0))), some (vI (a1)), some (vP (p2)), x3, x4, x5, x6, x7], [], h, c, n) := by
  refine k_X1_valueOfLine_9 cx hY ?_
  exact s_X1_valueOfLine_21 cx hY eq  (by omega) (by omega) w
theorem s_X1_valueOfLine_0 {E : EnvT} {d : Nat} (cx : CX E "ShoreDay$FeeText" cX1_valueOfLine 8 (some .int) "valueOfLine" (d + 2) 0 0) (hY : eY E = lay1) {Q : Int32 → Hp → Prop} (eq : EQ E 0 0 (fun r h2 => ∃ x, r = [vI x] ∧ Q x h2)) {i0 : Nat} {a1 : Int32} {p2 : Option PtrT} {x3 : Option AVal} {x4 : Option AVal} {x5 : Option AVal} {x6 : Option AVal} {x7 : Option AVal} {h : Hp} {c n : Nat} (hc : c + 0 ≤ 0) (hn : n + 0 ≤ 0) (w : w_X1_valueOfLine_0  Q i0 a1 p2 h) : SW E 0 ([some (vP (some (1, i0))), some (vI (a1)), some (vP (p2)), x3, x4, x5, x6, x7], [], h, c, n) := by
  refine k_X1_valueOfLine_0 cx hY (fun q => ?_) (fun q => ?_)
  · have w := w.1 q
    exact s_X1_valueOfLine_13 cx hY eq  (by omega) (by omega) w
  · have w := w.2 q
    exact s_X1_valueOfLine_9 cx hY eq  (by omega) (by omega) w
def wp_X1_valueOfLine (i0 : Nat) (a1 : Int32) (p2 : Option PtrT) (h : Hp) (Q : Int32 → Hp → Prop) : Prop := w_X1_valueOfLine_0 Q i0 a1 p2 h
theorem vc_X1_valueOfLine {l : Launch} {d : Nat} {i0 : Nat} {a1 : Int32} {p2 : Option PtrT} {h : Hp} {Q : Int32 → Hp → Prop} (w : wp_X1_valueOfLine i0 a1 p2 h Q) : Ct l lay1 yX1_valueOfLine cX1_valueOfLine 8 (some .int) (d + 2) 0 0 [vP (some (1, i0)), vI a1, vP p2] h (fun r h2 => ∃ x, r = [vI x] ∧ Q x h2) := by
  exact Ct.of (by decide) (Nat.le_of_ble_eq_true rfl) fun E cx eq hl hY => s_X1_valueOfLine_0 cx hY eq (Nat.le_refl _) (Nat.le_refl _) w
def w_X2_isInTown_9 (Q : Int32 → Hp → Prop) (i0 : Nat) (s0 : Int32) (h : Hp) : Prop := ((s0) = 0 ∨ (s0) = 1) ∧ Q (s0) (h)
def w_X2_isInTown_0 (Q : Int32 → Hp → Prop) (i0 : Nat) (h : Hp) : Prop := wp_X11_within (gI (h) 2 (i0) (6)) ((2 : Int32)) ((4 : Int32)) (h) (fun r2 h2 => w_X2_isInTown_9  Q (i0) (r2) (h2))
theorem s_X2_isInTown_9 {E : EnvT} {d : Nat} (cx : CX E "ShoreDay$Group" cX2_isInTown 1 (some .boolean) "isInTown" (d + 2) 0 0) (hY : eY E = lay1) {Q : Int32 → Hp → Prop} (eq : EQ E 0 0 (fun r h2 => ∃ x, r = [vI x] ∧ Q x h2)) {i0 : Nat} {s0 : Int32} {h : Hp} {c n : Nat} (hc : c + 0 ≤ 0) (hn : n + 0 ≤ 0) (w : w_X2_isInTown_9  Q i0 s0 h) : SW E 9 ([some (vP (some (2, i0)))], [vI (s0)], h, c, n) := by
  exact k_X2_isInTown_9 cx hY eq (by omega) (by omega) w.1 ⟨_, rfl, w.2⟩
theorem s_X2_isInTown_0 {E : EnvT} {d : Nat} (cx : CX E "ShoreDay$Group" cX2_isInTown 1 (some .boolean) "isInTown" (d + 2) 0 0) (hY : eY E = lay1) {Q : Int32 → Hp → Prop} (eq : EQ E 0 0 (fun r h2 => ∃ x, r = [vI x] ∧ Q x h2)) {i0 : Nat} {h : Hp} {c n : Nat} (hc : c + 0 ≤ 0) (hn : n + 0 ≤ 0) (w : w_X2_isInTown_0  Q i0 h) : SW E 0 ([some (vP (some (2, i0)))], [], h, c, n) := by
  refine k_X2_isInTown_0 cx hY (ctY hY (vc_X11_within (d := d + 0) w)) (by omega) (by omega) (by omega) (fun r h2 hp => ?_)
  obtain ⟨r2, rfl, w⟩ := hp
  exact s_X2_isInTown_9 cx hY eq  (by omega) (by omega) w
def wp_X2_isInTown (i0 : Nat) (h : Hp) (Q : Int32 → Hp → Prop) : Prop := w_X2_isInTown_0 Q i0 h
theorem vc_X2_isInTown {l : Launch} {d : Nat} {i0 : Nat} {h : Hp} {Q : Int32 → Hp → Prop} (w : wp_X2_isInTown i0 h Q) : Ct l lay1 yX2_isInTown cX2_isInTown 1 (some .boolean) (d + 2) 0 0 [vP (some (2, i0))] h (fun r h2 => ∃ x, r = [vI x] ∧ Q x h2) := by
  exact Ct.of (by decide) (Nat.le_of_ble_eq_true rfl) fun E cx eq hl hY => s_X2_isInTown_0 cx hY eq (Nat.le_refl _) (Nat.le_refl _) w
def w_X3_fillMost_115 (Q : Hp → Prop) (a2 : Int32) (a3 : Int32) (h : Hp) : Prop := Q (h)
def w_X3_fillMost_109 (K4 : Int32 → Int32 → Hp → Prop) (Q : Hp → Prop) (a2 : Int32) (a3 : Int32) (a4 : Int32) (h : Hp) : Prop := K4 (a2) (a3 + (-1)) (h)
def w_X3_fillMost_89 (K4 : Int32 → Int32 → Hp → Prop) (K11 : Int32 → Int32 → Int32 → Hp → Prop) (Q : Hp → Prop) (a2 : Int32) (a3 : Int32) (a4 : Int32) (a5 : Int32) (a6 : Int32) (h : Hp) : Prop := vp_in (((a3) * ((64 : Int32))) + (a4)) 576 ∧ (K11 (a2) (a3) (a4 + 1) (wI (h) 37 (0) (tN (((a3) * ((64 : Int32))) + (a4))) (a5)))
def w_X3_fillMost_83 (K4 : Int32 → Int32 → Hp → Prop) (K11 : Int32 → Int32 → Int32 → Hp → Prop) (K41 : Int32 → Int32 → Int32 → Int32 → Int32 → Hp → Prop) (Q : Hp → Prop) (a2 : Int32) (a3 : Int32) (a4 : Int32) (a5 : Int32) (a6 : Int32) (h : Hp) : Prop := K41 (a2) (a3) (a4) (a5) (a6 + 1) (h)
def w_X3_fillMost_78 (K4 : Int32 → Int32 → Hp → Prop) (K11 : Int32 → Int32 → Int32 → Hp → Prop) (K41 : Int32 → Int32 → Int32 → Int32 → Int32 → Hp → Prop) (Q : Hp → Prop) (a2 : Int32) (a3 : Int32) (a4 : Int32) (a5 : Int32) (a6 : Int32) (s0 : Int32) (s1 : Int32) (h : Hp) : Prop := w_X3_fillMost_83 K4 K11 K41 Q (a2) (a3) (a4) (if (s0) < (s1) then (s1) else (s0)) (a6) (h)
def w_X3_fillMost_64 (K4 : Int32 → Int32 → Hp → Prop) (K11 : Int32 → Int32 → Int32 → Hp → Prop) (K41 : Int32 → Int32 → Int32 → Int32 → Int32 → Hp → Prop) (Q : Hp → Prop) (a2 : Int32) (a3 : Int32) (a4 : Int32) (a5 : Int32) (a6 : Int32) (h : Hp) : Prop := vp_in (a3) 8 ∧ (wp_X3_seatsWith (a6) (a3) (gP (h) 22 (0) (tN (a3))) (a4) (h) (fun r2 h2 => w_X3_fillMost_78 K4 K11 K41 Q (a2) (a3) (a4) (a5) (a6) (a5) (r2) (h2)))
def w_X3_fillMost_61 (K4 : Int32 → Int32 → Hp → Prop) (K11 : Int32 → Int32 → Int32 → Hp → Prop) (K41 : Int32 → Int32 → Int32 → Int32 → Int32 → Hp → Prop) (Q : Hp → Prop) (a2 : Int32) (a3 : Int32) (a4 : Int32) (a5 : Int32) (a6 : Int32) (s0 : Int32) (h : Hp) : Prop := ((s0) = 0 → w_X3_fillMost_83 K4 K11 K41 Q (a2) (a3) (a4) (a5) (a6) (h)) ∧ (¬ (s0) = 0 → w_X3_fillMost_64 K4 K11 K41 Q (a2) (a3) (a4) (a5) (a6) (h))
def w_X3_fillMost_50 (K4 : Int32 → Int32 → Hp → Prop) (K11 : Int32 → Int32 → Int32 → Hp → Prop) (K41 : Int32 → Int32 → Int32 → Int32 → Int32 → Hp → Prop) (Q : Hp → Prop) (a2 : Int32) (a3 : Int32) (a4 : Int32) (a5 : Int32) (a6 : Int32) (h : Hp) : Prop := vp_in (a3) 8 ∧ (wp_X3_isFree (a6) (a4) (gP (h) 22 (0) (tN (a3))) (h) (fun r2 h2 => w_X3_fillMost_61 K4 K11 K41 Q (a2) (a3) (a4) (a5) (a6) (r2) (h2)))
def w_X3_fillMost_41 (K4 : Int32 → Int32 → Hp → Prop) (K11 : Int32 → Int32 → Int32 → Hp → Prop) (Q : Hp → Prop) : Nat → Int32 → Int32 → Int32 → Int32 → Int32 → Hp → Prop
  | 0 => fun _ _ _ _ _ _ => False
  | N + 1 => fun a2 a3 a4 a5 a6 h => ((gI (h) 3 (0) (1)) ≤ (a6) → w_X3_fillMost_89 K4 K11 Q (a2) (a3) (a4) (a5) (a6) (h)) ∧ (¬ (gI (h) 3 (0) (1)) ≤ (a6) → w_X3_fillMost_50 K4 K11 (w_X3_fillMost_41 K4 K11 Q N) Q (a2) (a3) (a4) (a5) (a6) (h))
def w_X3_fillMost_35 (K4 : Int32 → Int32 → Hp → Prop) (K11 : Int32 → Int32 → Int32 → Hp → Prop) (Q : Hp → Prop) (a2 : Int32) (a3 : Int32) (a4 : Int32) (s1 : Int32) (h : Hp) : Prop := vp_in (s1) 576 ∧ (∃ N, w_X3_fillMost_41 K4 K11 Q N (a2) (a3) (a4) (gI (h) 37 (0) (tN (s1))) ((0 : Int32)) (h))
def w_X3_fillMost_22 (K4 : Int32 → Int32 → Hp → Prop) (K11 : Int32 → Int32 → Int32 → Hp → Prop) (Q : Hp → Prop) (a2 : Int32) (a3 : Int32) (a4 : Int32) (h : Hp) : Prop := w_X3_fillMost_35 K4 K11 Q (a2) (a3) (a4) ((((a3) + ((1 : Int32))) * ((64 : Int32))) + (a4)) (h)
def w_X3_fillMost_11 (K4 : Int32 → Int32 → Hp → Prop) (Q : Hp → Prop) : Nat → Int32 → Int32 → Int32 → Hp → Prop
  | 0 => fun _ _ _ _ => False
  | N + 1 => fun a2 a3 a4 h => ((((1 : Int32)) <<< ((gI (h) 3 (0) (1)) &&& 31)) ≤ (a4) → w_X3_fillMost_109 K4 Q (a2) (a3) (a4) (h)) ∧ (¬ (((1 : Int32)) <<< ((gI (h) 3 (0) (1)) &&& 31)) ≤ (a4) → w_X3_fillMost_22 K4 (w_X3_fillMost_11 K4 Q N) Q (a2) (a3) (a4) (h))
def w_X3_fillMost_8 (K4 : Int32 → Int32 → Hp → Prop) (Q : Hp → Prop) (a2 : Int32) (a3 : Int32) (h : Hp) : Prop := ∃ N, w_X3_fillMost_11 K4 Q N (a2) (a3) ((0 : Int32)) (h)
def w_X3_fillMost_4 (Q : Hp → Prop) : Nat → Int32 → Int32 → Hp → Prop
  | 0 => fun _ _ _ => False
  | N + 1 => fun a2 a3 h => ((a3) < 0 → w_X3_fillMost_115  Q (a2) (a3) (h)) ∧ (¬ (a3) < 0 → w_X3_fillMost_8 (w_X3_fillMost_4  Q N) Q (a2) (a3) (h))
def w_X3_fillMost_0 (Q : Hp → Prop) (a2 : Int32) (h : Hp) : Prop := ∃ N, w_X3_fillMost_4  Q N (a2) ((a2) - ((1 : Int32))) (h)
theorem s_X3_fillMost_115 {E : EnvT} {d : Nat} (cx : CX E "ShoreDay$Guides" cX3_fillMost 7 none "fillMost" (d + 2) 0 0) (hY : eY E = lay1) {Q : Hp → Prop} (eq : EQ E 0 0 (fun r h2 => r = [] ∧ Q h2)) {a2 : Int32} {a3 : Int32} {x4 : Option AVal} {x5 : Option AVal} {x6 : Option AVal} {h : Hp} {c n : Nat} (hc : c + 0 ≤ 0) (hn : n + 0 ≤ 0) (w : w_X3_fillMost_115  Q a2 a3 h) : SW E 115 ([some (vP (some (3, 0))), some (vP (some (22, 0))), some (vI (a2)), some (vI (a3)), x4, x5, x6], [], h, c, n) := by
  exact k_X3_fillMost_115 cx hY eq (by omega) (by omega) ⟨rfl, w⟩
theorem s_X3_fillMost_109 {E : EnvT} {d : Nat} (cx : CX E "ShoreDay$Guides" cX3_fillMost 7 none "fillMost" (d + 2) 0 0) (hY : eY E = lay1) {Q : Hp → Prop} (eq : EQ E 0 0 (fun r h2 => r = [] ∧ Q h2)) {K4 : Int32 → Int32 → Hp → Prop} (hK4 : ∀ (a2 : Int32) (a3 : Int32) (x4 : Option AVal) (x5 : Option AVal) (x6 : Option AVal) (h : Hp) (c n : Nat), c + 0 ≤ 0 → n + 0 ≤ 0 → K4 a2 a3 h → SW E 4 ([some (vP (some (3, 0))), some (vP (some (22, 0))), some (vI (a2)), some (vI (a3)), x4, x5, x6], [], h, c, n)) {a2 : Int32} {a3 : Int32} {a4 : Int32} {x5 : Option AVal} {x6 : Option AVal} {h : Hp} {c n : Nat} (hc : c + 0 ≤ 0) (hn : n + 0 ≤ 0) (w : w_X3_fillMost_109 K4 Q a2 a3 a4 h) : SW E 109 ([some (vP (some (3, 0))), some (vP (some (22, 0))), some (vI (a2)), some (vI (a3)), some (vI (a4)), x5, x6], [], h, c, n) := by
  refine k_X3_fillMost_109 cx hY ?_
  exact hK4 _ _ _ _ _ _ _ _ (by omega) (by omega) w
theorem s_X3_fillMost_89 {E : EnvT} {d : Nat} (cx : CX E "ShoreDay$Guides" cX3_fillMost 7 none "fillMost" (d + 2) 0 0) (hY : eY E = lay1) {Q : Hp → Prop} (eq : EQ E 0 0 (fun r h2 => r = [] ∧ Q h2)) {K4 : Int32 → Int32 → Hp → Prop} (hK4 : ∀ (a2 : Int32) (a3 : Int32) (x4 : Option AVal) (x5 : Option AVal) (x6 : Option AVal) (h : Hp) (c n : Nat), c + 0 ≤ 0 → n + 0 ≤ 0 → K4 a2 a3 h → SW E 4 ([some (vP (some (3, 0))), some (vP (some (22, 0))), some (vI (a2)), some (vI (a3)), x4, x5, x6], [], h, c, n)) {K11 : Int32 → Int32 → Int32 → Hp → Prop} (hK11 : ∀ (a2 : Int32) (a3 : Int32) (a4 : Int32) (x5 : Option AVal) (x6 : Option AVal) (h : Hp) (c n : Nat), c + 0 ≤ 0 → n + 0 ≤ 0 → K11 a2 a3 a4 h → SW E 11 ([some (vP (some (3, 0))), some (vP (some (22, 0))), some (vI (a2)), some (vI (a3)), some (vI (a4)), x5, x6], [], h, c, n)) {a2 : Int32} {a3 : Int32} {a4 : Int32} {a5 : Int32} {a6 : Int32} {h : Hp} {c n : Nat} (hc : c + 0 ≤ 0) (hn : n + 0 ≤ 0) (w : w_X3_fillMost_89 K4 K11 Q a2 a3 a4 a5 a6 h) : SW E 89 ([some (vP (some (3, 0))), some (vP (some (22, 0))), some (vI (a2)), some (vI (a3)), some (vI (a4)), some (vI (a5)), some (vI (a6))], [], h, c, n) := by
  obtain ⟨G1, w⟩ := w
  refine k_X3_fillMost_89 cx hY G1 ?_
  exact hK11 _ _ _ _ _ _ _ _ (by omega) (by omega) w
theorem s_X3_fillMost_83 {E : EnvT} {d : Nat} (cx : CX E "ShoreDay$Guides" cX3_fillMost 7 none "fillMost" (d + 2) 0 0) (hY : eY E = lay1) {Q : Hp → Prop} (eq : EQ E 0 0 (fun r h2 => r = [] ∧ Q h2)) {K4 : Int32 → Int32 → Hp → Prop} (hK4 : ∀ (a2 : Int32) (a3 : Int32) (x4 : Option AVal) (x5 : Option AVal) (x6 : Option AVal) (h : Hp) (c n : Nat), c + 0 ≤ 0 → n + 0 ≤ 0 → K4 a2 a3 h → SW E 4 ([some (vP (some (3, 0))), some (vP (some (22, 0))), some (vI (a2)), some (vI (a3)), x4, x5, x6], [], h, c, n)) {K11 : Int32 → Int32 → Int32 → Hp → Prop} (hK11 : ∀ (a2 : Int32) (a3 : Int32) (a4 : Int32) (x5 : Option AVal) (x6 : Option AVal) (h : Hp) (c n : Nat), c + 0 ≤ 0 → n + 0 ≤ 0 → K11 a2 a3 a4 h → SW E 11 ([some (vP (some (3, 0))), some (vP (some (22, 0))), some (vI (a2)), some (vI (a3)), some (vI (a4)), x5, x6], [], h, c, n)) {K41 : Int32 → Int32 → Int32 → Int32 → Int32 → Hp → Prop} (hK41 : ∀ (a2 : Int32) (a3 : Int32) (a4 : Int32) (a5 : Int32) (a6 : Int32) (h : Hp) (c n : Nat), c + 0 ≤ 0 → n + 0 ≤ 0 → K41 a2 a3 a4 a5 a6 h → SW E 41 ([some (vP (some (3, 0))), some (vP (some (22, 0))), some (vI (a2)), some (vI (a3)), some (vI (a4)), some (vI (a5)), some (vI (a6))], [], h, c, n)) {a2 : Int32} {a3 : Int32} {a4 : Int32} {a5 : Int32} {a6 : Int32} {h : Hp} {c n : Nat} (hc : c + 0 ≤ 0) (hn : n + 0 ≤ 0) (w : w_X3_fillMost_83 K4 K11 K41 Q a2 a3 a4 a5 a6 h) : SW E 83 ([some (vP (some (3, 0))), some (vP (some (22, 0))), some (vI (a2)), some (vI (a3)), some (vI (a4)), some (vI (a5)), some (vI (a6))], [], h, c, n) := by
  refine k_X3_fillMost_83 cx hY ?_
  exact hK41 _ _ _ _ _ _ _ _ (by omega) (by omega) w
theorem s_X3_fillMost_78 {E : EnvT} {d : Nat} (cx : CX E "ShoreDay$Guides" cX3_fillMost 7 none "fillMost" (d + 2) 0 0) (hY : eY E = lay1) {Q : Hp → Prop} (eq : EQ E 0 0 (fun r h2 => r = [] ∧ Q h2)) {K4 : Int32 → Int32 → Hp → Prop} (hK4 : ∀ (a2 : Int32) (a3 : Int32) (x4 : Option AVal) (x5 : Option AVal) (x6 : Option AVal) (h : Hp) (c n : Nat), c + 0 ≤ 0 → n + 0 ≤ 0 → K4 a2 a3 h → SW E 4 ([some (vP (some (3, 0))), some (vP (some (22, 0))), some (vI (a2)), some (vI (a3)), x4, x5, x6], [], h, c, n)) {K11 : Int32 → Int32 → Int32 → Hp → Prop} (hK11 : ∀ (a2 : Int32) (a3 : Int32) (a4 : Int32) (x5 : Option AVal) (x6 : Option AVal) (h : Hp) (c n : Nat), c + 0 ≤ 0 → n + 0 ≤ 0 → K11 a2 a3 a4 h → SW E 11 ([some (vP (some (3, 0))), some (vP (some (22, 0))), some (vI (a2)), some (vI (a3)), some (vI (a4)), x5, x6], [], h, c, n)) {K41 : Int32 → Int32 → Int32 → Int32 → Int32 → Hp → Prop} (hK41 : ∀ (a2 : Int32) (a3 : Int32) (a4 : Int32) (a5 : Int32) (a6 : Int32) (h : Hp) (c n : Nat), c + 0 ≤ 0 → n + 0 ≤ 0 → K41 a2 a3 a4 a5 a6 h → SW E 41 ([some (vP (some (3, 0))), some (vP (some (22, 0))), some (vI (a2)), some (vI (a3)), some (vI (a4)), some (vI (a5)), some (vI (a6))], [], h, c, n)) {a2 : Int32} {a3 : Int32} {a4 : Int32} {a5 : Int32} {a6 : Int32} {s0 : Int32} {s1 : Int32} {h : Hp} {c n : Nat} (hc : c + 0 ≤ 0) (hn : n + 0 ≤ 0) (w : w_X3_fillMost_78 K4 K11 K41 Q a2 a3 a4 a5 a6 s0 s1 h) : SW E 78 ([some (vP (some (3, 0))), some (vP (some (22, 0))), some (vI (a2)), some (vI (a3)), some (vI (a4)), some (vI (a5)), some (vI (a6))], [vI (s1), vI (s0)], h, c, n) := by
  refine k_X3_fillMost_78 cx hY (by omega) (by omega) ?_
  exact s_X3_fillMost_83 cx hY eq hK4 hK11 hK41 (by omega) (by omega) w
theorem s_X3_fillMost_64 {E : EnvT} {d : Nat} (cx : CX E "ShoreDay$Guides" cX3_fillMost 7 none "fillMost" (d + 2) 0 0) (hY : eY E = lay1) {Q : Hp → Prop} (eq : EQ E 0 0 (fun r h2 => r = [] ∧ Q h2)) {K4 : Int32 → Int32 → Hp → Prop} (hK4 : ∀ (a2 : Int32) (a3 : Int32) (x4 : Option AVal) (x5 : Option AVal) (x6 : Option AVal) (h : Hp) (c n : Nat), c + 0 ≤ 0 → n + 0 ≤ 0 → K4 a2 a3 h → SW E 4 ([some (vP (some (3, 0))), some (vP (some (22, 0))), some (vI (a2)), some (vI (a3)), x4, x5, x6], [], h, c, n)) {K11 : Int32 → Int32 → Int32 → Hp → Prop} (hK11 : ∀ (a2 : Int32) (a3 : Int32) (a4 : Int32) (x5 : Option AVal) (x6 : Option AVal) (h : Hp) (c n : Nat), c + 0 ≤ 0 → n + 0 ≤ 0 → K11 a2 a3 a4 h → SW E 11 ([some (vP (some (3, 0))), some (vP (some (22, 0))), some (vI (a2)), some (vI (a3)), some (vI (a4)), x5, x6], [], h, c, n)) {K41 : Int32 → Int32 → Int32 → Int32 → Int32 → Hp → Prop} (hK41 : ∀ (a2 : Int32) (a3 : Int32) (a4 : Int32) (a5 : Int32) (a6 : Int32) (h : Hp) (c n : Nat), c + 0 ≤ 0 → n + 0 ≤ 0 → K41 a2 a3 a4 a5 a6 h → SW E 41 ([some (vP (some (3, 0))), some (vP (some (22, 0))), some (vI (a2)), some (vI (a3)), some (vI (a4)), some (vI (a5)), some (vI (a6))], [], h, c, n)) {a2 : Int32} {a3 : Int32} {a4 : Int32} {a5 : Int32} {a6 : Int32} {h : Hp} {c n : Nat} (hc : c + 0 ≤ 0) (hn : n + 0 ≤ 0) (w : w_X3_fillMost_64 K4 K11 K41 Q a2 a3 a4 a5 a6 h) : SW E 64 ([some (vP (some (3, 0))), some (vP (some (22, 0))), some (vI (a2)), some (vI (a3)), some (vI (a4)), some (vI (a5)), some (vI (a6))], [], h, c, n) := by
  obtain ⟨G1, w⟩ := w
  refine k_X3_fillMost_64 cx hY G1 (ctY hY (vc_X3_seatsWith (d := d + 0) w)) (by omega) (by omega) (by omega) (fun r h2 hp => ?_)
  obtain ⟨r2, rfl, w⟩ := hp
  exact s_X3_fillMost_78 cx hY eq hK4 hK11 hK41 (by omega) (by omega) w
theorem s_X3_fillMost_61 {E : EnvT} {d : Nat} (cx : CX E "ShoreDay$Guides" cX3_fillMost 7 none "fillMost" (d + 2) 0 0) (hY : eY E = lay1) {Q : Hp → Prop} (eq : EQ E 0 0 (fun r h2 => r = [] ∧ Q h2)) {K4 : Int32 → Int32 → Hp → Prop} (hK4 : ∀ (a2 : Int32) (a3 : Int32) (x4 : Option AVal) (x5 : Option AVal) (x6 : Option AVal) (h : Hp) (c n : Nat), c + 0 ≤ 0 → n + 0 ≤ 0 → K4 a2 a3 h → SW E 4 ([some (vP (some (3, 0))), some (vP (some (22, 0))), some (vI (a2)), some (vI (a3)), x4, x5, x6], [], h, c, n)) {K11 : Int32 → Int32 → Int32 → Hp → Prop} (hK11 : ∀ (a2 : Int32) (a3 : Int32) (a4 : Int32) (x5 : Option AVal) (x6 : Option AVal) (h : Hp) (c n : Nat), c + 0 ≤ 0 → n + 0 ≤ 0 → K11 a2 a3 a4 h → SW E 11 ([some (vP (some (3, 0))), some (vP (some (22, 0))), some (vI (a2)), some (vI (a3)), some (vI (a4)), x5, x6], [], h, c, n)) {K41 : Int32 → Int32 → Int32 → Int32 → Int32 → Hp → Prop} (hK41 : ∀ (a2 : Int32) (a3 : Int32) (a4 : Int32) (a5 : Int32) (a6 : Int32) (h : Hp) (c n : Nat), c + 0 ≤ 0 → n + 0 ≤ 0 → K41 a2 a3 a4 a5 a6 h → SW E 41 ([some (vP (some (3, 0))), some (vP (some (22, 0))), some (vI (a2)), some (vI (a3)), some (vI (a4)), some (vI (a5)), some (vI (a6))], [], h, c, n)) {a2 : Int32} {a3 : Int32} {a4 : Int32} {a5 : Int32} {a6 : Int32} {s0 : Int32} {h : Hp} {c n : Nat} (hc : c + 0 ≤ 0) (hn : n + 0 ≤ 0) (w : w_X3_fillMost_61 K4 K11 K41 Q a2 a3 a4 a5 a6 s0 h) : SW E 61 ([some (vP (some (3, 0))), some (vP (some (22, 0))), some (vI (a2)), some (vI (a3)), some (vI (a4)), some (vI (a5)), some (vI (a6))], [vI (s0)], h, c, n) := by
  refine k_X3_fillMost_61 cx hY (fun q => ?_) (fun q => ?_)
  · have w := w.1 q
    exact s_X3_fillMost_83 cx hY eq hK4 hK11 hK41 (by omega) (by omega) w
  · have w := w.2 q
    exact s_X3_fillMost_64 cx hY eq hK4 hK11 hK41 (by omega) (by omega) w
theorem s_X3_fillMost_50 {E : EnvT} {d : Nat} (cx : CX E "ShoreDay$Guides" cX3_fillMost 7 none "fillMost" (d + 2) 0 0) (hY : eY E = lay1) {Q : Hp → Prop} (eq : EQ E 0 0 (fun r h2 => r = [] ∧ Q h2)) {K4 : Int32 → Int32 → Hp → Prop} (hK4 : ∀ (a2 : Int32) (a3 : Int32) (x4 : Option AVal) (x5 : Option AVal) (x6 : Option AVal) (h : Hp) (c n : Nat), c + 0 ≤ 0 → n + 0 ≤ 0 → K4 a2 a3 h → SW E 4 ([some (vP (some (3, 0))), some (vP (some (22, 0))), some (vI (a2)), some (vI (a3)), x4, x5, x6], [], h, c, n)) {K11 : Int32 → Int32 → Int32 → Hp → Prop} (hK11 : ∀ (a2 : Int32) (a3 : Int32) (a4 : Int32) (x5 : Option AVal) (x6 : Option AVal) (h : Hp) (c n : Nat), c + 0 ≤ 0 → n + 0 ≤ 0 → K11 a2 a3 a4 h → SW E 11 ([some (vP (some (3, 0))), some (vP (some (22, 0))), some (vI (a2)), some (vI (a3)), some (vI (a4)), x5, x6], [], h, c, n)) {K41 : Int32 → Int32 → Int32 → Int32 → Int32 → Hp → Prop} (hK41 : ∀ (a2 : Int32) (a3 : Int32) (a4 : Int32) (a5 : Int32) (a6 : Int32) (h : Hp) (c n : Nat), c + 0 ≤ 0 → n + 0 ≤ 0 → K41 a2 a3 a4 a5 a6 h → SW E 41 ([some (vP (some (3, 0))), some (vP (some (22, 0))), some (vI (a2)), some (vI (a3)), some (vI (a4)), some (vI (a5)), some (vI (a6))], [], h, c, n)) {a2 : Int32} {a3 : Int32} {a4 : Int32} {a5 : Int32} {a6 : Int32} {h : Hp} {c n : Nat} (hc : c + 0 ≤ 0) (hn : n + 0 ≤ 0) (w : w_X3_fillMost_50 K4 K11 K41 Q a2 a3 a4 a5 a6 h) : SW E 50 ([some (vP (some (3, 0))), some (vP (some (22, 0))), some (vI (a2)), some (vI (a3)), some (vI (a4)), some (vI (a5)), some (vI (a6))], [], h, c, n) := by
  obtain ⟨G1, w⟩ := w
  refine k_X3_fillMost_50 cx hY G1 (ctY hY (vc_X3_isFree (d := d + 0) w)) (by omega) (by omega) (by omega) (fun r h2 hp => ?_)
  obtain ⟨r2, rfl, w⟩ := hp
  exact s_X3_fillMost_61 cx hY eq hK4 hK11 hK41 (by omega) (by omega) w
theorem s_X3_fillMost_41 {E : EnvT} {d : Nat} (cx : CX E "ShoreDay$Guides" cX3_fillMost 7 none "fillMost" (d + 2) 0 0) (hY : eY E = lay1) {Q : Hp → Prop} (eq : EQ E 0 0 (fun r h2 => r = [] ∧ Q h2)) {K4 : Int32 → Int32 → Hp → Prop} (hK4 : ∀ (a2 : Int32) (a3 : Int32) (x4 : Option AVal) (x5 : Option AVal) (x6 : Option AVal) (h : Hp) (c n : Nat), c + 0 ≤ 0 → n + 0 ≤ 0 → K4 a2 a3 h → SW E 4 ([some (vP (some (3, 0))), some (vP (some (22, 0))), some (vI (a2)), some (vI (a3)), x4, x5, x6], [], h, c, n)) {K11 : Int32 → Int32 → Int32 → Hp → Prop} (hK11 : ∀ (a2 : Int32) (a3 : Int32) (a4 : Int32) (x5 : Option AVal) (x6 : Option AVal) (h : Hp) (c n : Nat), c + 0 ≤ 0 → n + 0 ≤ 0 → K11 a2 a3 a4 h → SW E 11 ([some (vP (some (3, 0))), some (vP (some (22, 0))), some (vI (a2)), some (vI (a3)), some (vI (a4)), x5, x6], [], h, c, n)) : ∀ (N : Nat) (a2 : Int32) (a3 : Int32) (a4 : Int32) (a5 : Int32) (a6 : Int32) (h : Hp) (c n : Nat), c + 0 ≤ 0 → n + 0 ≤ 0 → w_X3_fillMost_41 K4 K11 Q N a2 a3 a4 a5 a6 h → SW E 41 ([some (vP (some (3, 0))), some (vP (some (22, 0))), some (vI (a2)), some (vI (a3)), some (vI (a4)), some (vI (a5)), some (vI (a6))], [], h, c, n) := by
  intro N
  induction N with
  | zero =>
    intro _ _ _ _ _ h c n _ _ w
    exact w.elim
  | succ N ih =>
    intro a2 a3 a4 a5 a6 h c n hc hn w
    refine k_X3_fillMost_41 cx hY (fun q => ?_) (fun q => ?_)
    · have w := w.1 q
      exact s_X3_fillMost_89 cx hY eq hK4 hK11 (by omega) (by omega) w
    · have w := w.2 q
      exact s_X3_fillMost_50 cx hY eq hK4 hK11 ih (by omega) (by omega) w
theorem s_X3_fillMost_35 {E : EnvT} {d : Nat} (cx : CX E "ShoreDay$Guides" cX3_fillMost 7 none "fillMost" (d + 2) 0 0) (hY : eY E = lay1) {Q : Hp → Prop} (eq : EQ E 0 0 (fun r h2 => r = [] ∧ Q h2)) {K4 : Int32 → Int32 → Hp → Prop} (hK4 : ∀ (a2 : Int32) (a3 : Int32) (x4 : Option AVal) (x5 : Option AVal) (x6 : Option AVal) (h : Hp) (c n : Nat), c + 0 ≤ 0 → n + 0 ≤ 0 → K4 a2 a3 h → SW E 4 ([some (vP (some (3, 0))), some (vP (some (22, 0))), some (vI (a2)), some (vI (a3)), x4, x5, x6], [], h, c, n)) {K11 : Int32 → Int32 → Int32 → Hp → Prop} (hK11 : ∀ (a2 : Int32) (a3 : Int32) (a4 : Int32) (x5 : Option AVal) (x6 : Option AVal) (h : Hp) (c n : Nat), c + 0 ≤ 0 → n + 0 ≤ 0 → K11 a2 a3 a4 h → SW E 11 ([some (vP (some (3, 0))), some (vP (some (22, 0))), some (vI (a2)), some (vI (a3)), some (vI (a4)), x5, x6], [], h, c, n)) {a2 : Int32} {a3 : Int32} {a4 : Int32} {x5 : Option AVal} {x6 : Option AVal} {s1 : Int32} {h : Hp} {c n : Nat} (hc : c + 0 ≤ 0) (hn : n + 0 ≤ 0) (w : w_X3_fillMost_35 K4 K11 Q a2 a3 a4 s1 h) : SW E 35 ([some (vP (some (3, 0))), some (vP (some (22, 0))), some (vI (a2)), some (vI (a3)), some (vI (a4)), x5, x6], [vI (s1), vP (some (37, 0))], h, c, n) := by
  obtain ⟨G1, w⟩ := w
  refine k_X3_fillMost_35 cx hY G1 ?_
  obtain ⟨N1, w⟩ := w
  exact s_X3_fillMost_41 cx hY eq hK4 hK11 _ _ _ _ _ _ _ _ _ (by omega) (by omega) w
theorem s_X3_fillMost_22 {E : EnvT} {d : Nat} (cx : CX E "ShoreDay$Guides" cX3_fillMost 7 none "fillMost" (d + 2) 0 0) (hY : eY E = lay1) {Q : Hp → Prop} (eq : EQ E 0 0 (fun r h2 => r = [] ∧ Q h2)) {K4 : Int32 → Int32 → Hp → Prop} (hK4 : ∀ (a2 : Int32) (a3 : Int32) (x4 : Option AVal) (x5 : Option AVal) (x6 : Option AVal) (h : Hp) (c n : Nat), c + 0 ≤ 0 → n + 0 ≤ 0 → K4 a2 a3 h → SW E 4 ([some (vP (some (3, 0))), some (vP (some (22, 0))), some (vI (a2)), some (vI (a3)), x4, x5, x6], [], h, c, n)) {K11 : Int32 → Int32 → Int32 → Hp → Prop} (hK11 : ∀ (a2 : Int32) (a3 : Int32) (a4 : Int32) (x5 : Option AVal) (x6 : Option AVal) (h : Hp) (c n : Nat), c + 0 ≤ 0 → n + 0 ≤ 0 → K11 a2 a3 a4 h → SW E 11 ([some (vP (some (3, 0))), some (vP (some (22, 0))), some (vI (a2)), some (vI (a3)), some (vI (a4)), x5, x6], [], h, c, n)) {a2 : Int32} {a3 : Int32} {a4 : Int32} {x5 : Option AVal} {x6 : Option AVal} {h : Hp} {c n : Nat} (hc : c + 0 ≤ 0) (hn : n + 0 ≤ 0) (w : w_X3_fillMost_22 K4 K11 Q a2 a3 a4 h) : SW E 22 ([some (vP (some (3, 0))), some (vP (some (22, 0))), some (vI (a2)), some (vI (a3)), some (vI (a4)), x5, x6], [], h, c, n) := by
  refine k_X3_fillMost_22 cx hY ?_
  exact s_X3_fillMost_35 cx hY eq hK4 hK11 (by omega) (by omega) w
theorem s_X3_fillMost_11 {E : EnvT} {d : Nat} (cx : CX E "ShoreDay$Guides" cX3_fillMost 7 none "fillMost" (d + 2) 0 0) (hY : eY E = lay1) {Q : Hp → Prop} (eq : EQ E 0 0 (fun r h2 => r = [] ∧ Q h2)) {K4 : Int32 → Int32 → Hp → Prop} (hK4 : ∀ (a2 : Int32) (a3 : Int32) (x4 : Option AVal) (x5 : Option AVal) (x6 : Option AVal) (h : Hp) (c n : Nat), c + 0 ≤ 0 → n + 0 ≤ 0 → K4 a2 a3 h → SW E 4 ([some (vP (some (3, 0))), some (vP (some (22, 0))), some (vI (a2)), some (vI (a3)), x4, x5, x6], [], h, c, n)) : ∀ (N : Nat) (a2 : Int32) (a3 : Int32) (a4 : Int32) (x5 : Option AVal) (x6 : Option AVal) (h : Hp) (c n : Nat), c + 0 ≤ 0 → n + 0 ≤ 0 → w_X3_fillMost_11 K4 Q N a2 a3 a4 h → SW E 11 ([some (vP (some (3, 0))), some (vP (some (22, 0))), some (vI (a2)), some (vI (a3)), some (vI (a4)), x5, x6], [], h, c, n) := by
  intro N
  induction N with
  | zero =>
    intro _ _ _ _ _ h c n _ _ w
    exact w.elim
  | succ N ih =>
    intro a2 a3 a4 x5 x6 h c n hc hn w
    refine k_X3_fillMost_11 cx hY (fun q => ?_) (fun q => ?_)
    · have w := w.1 q
      exact s_X3_fillMost_109 cx hY eq hK4 (by omega) (by omega) w
    · have w := w.2 q
      exact s_X3_fillMost_22 cx hY eq hK4 ih (by omega) (by omega) w
theorem s_X3_fillMost_8 {E : EnvT} {d : Nat} (cx : CX E "ShoreDay$Guides" cX3_fillMost 7 none "fillMost" (d + 2) 0 0) (hY : eY E = lay1) {Q : Hp → Prop} (eq : EQ E 0 0 (fun r h2 => r = [] ∧ Q h2)) {K4 : Int32 → Int32 → Hp → Prop} (hK4 : ∀ (a2 : Int32) (a3 : Int32) (x4 : Option AVal) (x5 : Option AVal) (x6 : Option AVal) (h : Hp) (c n : Nat), c + 0 ≤ 0 → n + 0 ≤ 0 → K4 a2 a3 h → SW E 4 ([some (vP (some (3, 0))), some (vP (some (22, 0))), some (vI (a2)), some (vI (a3)), x4, x5, x6], [], h, c, n)) {a2 : Int32} {a3 : Int32} {x4 : Option AVal} {x5 : Option AVal} {x6 : Option AVal} {h : Hp} {c n : Nat} (hc : c + 0 ≤ 0) (hn : n + 0 ≤ 0) (w : w_X3_fillMost_8 K4 Q a2 a3 h) : SW E 8 ([some (vP (some (3, 0))), some (vP (some (22, 0))), some (vI (a2)), some (vI (a3)), x4, x5, x6], [], h, c, n) := by
  refine k_X3_fillMost_8 cx hY ?_
  obtain ⟨N1, w⟩ := w
  exact s_X3_fillMost_11 cx hY eq hK4 _ _ _ _ _ _ _ _ _ (by omega) (by omega) w
theorem s_X3_fillMost_4 {E : EnvT} {d : Nat} (cx : CX E "ShoreDay$Guides" cX3_fillMost 7 none "fillMost" (d + 2) 0 0) (hY : eY E = lay1) {Q : Hp → Prop} (eq : EQ E 0 0 (fun r h2 => r = [] ∧ Q h2)) : ∀ (N : Nat) (a2 : Int32) (a3 : Int32) (x4 : Option AVal) (x5 : Option AVal) (x6 : Option AVal) (h : Hp) (c n : Nat), c + 0 ≤ 0 → n + 0 ≤ 0 → w_X3_fillMost_4  Q N a2 a3 h → SW E 4 ([some (vP (some (3, 0))), some (vP (some (22, 0))), some (vI (a2)), some (vI (a3)), x4, x5, x6], [], h, c, n) := by
  intro N
  induction N with
  | zero =>
    intro _ _ _ _ _ h c n _ _ w
    exact w.elim
  | succ N ih =>
    intro a2 a3 x4 x5 x6 h c n hc hn w
    refine k_X3_fillMost_4 cx hY (fun q => ?_) (fun q => ?_)
    · have w := w.1 q
      exact s_X3_fillMost_115 cx hY eq  (by omega) (by omega) w
    · have w := w.2 q
      exact s_X3_fillMost_8 cx hY eq ih (by omega) (by omega) w
theorem s_X3_fillMost_0 {E : EnvT} {d : Nat} (cx : CX E "ShoreDay$Guides" cX3_fillMost 7 none "fillMost" (d + 2) 0 0) (hY : eY E = lay1) {Q : Hp → Prop} (eq : EQ E 0 0 (fun r h2 => r = [] ∧ Q h2)) {a2 : Int32} {x3 : Option AVal} {x4 : Option AVal} {x5 : Option AVal} {x6 : Option AVal} {h : Hp} {c n : Nat} (hc : c + 0 ≤ 0) (hn : n + 0 ≤ 0) (w : w_X3_fillMost_0  Q a2 h) : SW E 0 ([some (vP (some (3, 0))), some (vP (some (22, 0))), some (vI (a2)), x3, x4, x5, x6], [], h, c, n) := by
  refine k_X3_fillMost_0 cx hY ?_
  obtain ⟨N1, w⟩ := w
  exact s_X3_fillMost_4 cx hY eq  _ _ _ _ _ _ _ _ _ (by omega) (by omega) w
def wp_X3_fillMost (a2 : Int32) (h : Hp) (Q : Hp → Prop) : Prop := w_X3_fillMost_0 Q a2 h
theorem vc_X3_fillMost {l : Launch} {d : Nat} {a2 : Int32} {h : Hp} {Q : Hp → Prop} (w : wp_X3_fillMost a2 h Q) : Ct l lay1 yX3_fillMost cX3_fillMost 7 none (d + 2) 0 0 [vP (some (3, 0)), vP (some (22, 0)), vI a2] h (fun r h2 => r = [] ∧ Q h2) := by
  exact Ct.of (by decide) (Nat.le_of_ble_eq_true rfl) fun E cx eq hl hY => s_X3_fillMost_0 cx hY eq (Nat.le_refl _) (Nat.le_refl _) w
def w_X3_leastBest_55 (Q : Int32 → Hp → Prop) (a1 : Int32) (p2 : Option PtrT) (a3 : Int32) (a4 : Int32) (h : Hp) : Prop := Q ((-1 : Int32)) (h)
def w_X3_leastBest_49 (K3 : Int32 → Option PtrT → Int32 → Int32 → Hp → Prop) (Q : Int32 → Hp → Prop) (a1 : Int32) (p2 : Option PtrT) (a3 : Int32) (a4 : Int32) (h : Hp) : Prop := K3 (a1) (p2) (a3) (a4 + 1) (h)
def w_X3_leastBest_46 (Q : Int32 → Hp → Prop) (a1 : Int32) (p2 : Option PtrT) (a3 : Int32) (a4 : Int32) (h : Hp) : Prop := Q (a4) (h)
def w_X3_leastBest_32 (K3 : Int32 → Option PtrT → Int32 → Int32 → Hp → Prop) (Q : Int32 → Hp → Prop) (a1 : Int32) (p2 : Option PtrT) (a3 : Int32) (a4 : Int32) (s0 : Int32) (h : Hp) : Prop := vp_in (((a1) * ((64 : Int32))) + (a3)) 576 ∧ ((¬ (s0) = (gI (h) 37 (0) (tN (((a1) * ((64 : Int32))) + (a3)))) → w_X3_leastBest_49 K3 Q (a1) (p2) (a3) (a4) (h)) ∧ ((s0) = (gI (h) 37 (0) (tN (((a1) * ((64 : Int32))) + (a3)))) → w_X3_leastBest_46  Q (a1) (p2) (a3) (a4) (h)))
def w_X3_leastBest_23 (K3 : Int32 → Option PtrT → Int32 → Int32 → Hp → Prop) (Q : Int32 → Hp → Prop) (a1 : Int32) (p2 : Option PtrT) (a3 : Int32) (a4 : Int32) (h : Hp) : Prop := wp_X3_seatsWith (a4) (a1) (p2) (a3) (h) (fun r2 h2 => w_X3_leastBest_32 K3 Q (a1) (p2) (a3) (a4) (r2) (h2))
def w_X3_leastBest_20 (K3 : Int32 → Option PtrT → Int32 → Int32 → Hp → Prop) (Q : Int32 → Hp → Prop) (a1 : Int32) (p2 : Option PtrT) (a3 : Int32) (a4 : Int32) (s0 : Int32) (h : Hp) : Prop := ((s0) = 0 → w_X3_leastBest_49 K3 Q (a1) (p2) (a3) (a4) (h)) ∧ (¬ (s0) = 0 → w_X3_leastBest_23 K3 Q (a1) (p2) (a3) (a4) (h))
def w_X3_leastBest_12 (K3 : Int32 → Option PtrT → Int32 → Int32 → Hp → Prop) (Q : Int32 → Hp → Prop) (a1 : Int32) (p2 : Option PtrT) (a3 : Int32) (a4 : Int32) (h : Hp) : Prop := wp_X3_isFree (a4) (a3) (p2) (h) (fun r2 h2 => w_X3_leastBest_20 K3 Q (a1) (p2) (a3) (a4) (r2) (h2))
def w_X3_leastBest_3 (Q : Int32 → Hp → Prop) : Nat → Int32 → Option PtrT → Int32 → Int32 → Hp → Prop
  | 0 => fun _ _ _ _ _ => False
  | N + 1 => fun a1 p2 a3 a4 h => ((gI (h) 3 (0) (1)) ≤ (a4) → w_X3_leastBest_55  Q (a1) (p2) (a3) (a4) (h)) ∧ (¬ (gI (h) 3 (0) (1)) ≤ (a4) → w_X3_leastBest_12 (w_X3_leastBest_3  Q N) Q (a1) (p2) (a3) (a4) (h))
def w_X3_leastBest_0 (Q : Int32 → Hp → Prop) (a1 : Int32) (p2 : Option PtrT) (a3 : Int32) (h : Hp) : Prop := ∃ N, w_X3_leastBest_3  Q N (a1) (p2) (a3) ((0 : Int32)) (h)
theorem s_X3_leastBest_55 {E : EnvT} {d : Nat} (cx : CX E "ShoreDay$Guides" cX3_leastBest 5 (some .int) "leastBest" (d + 2) 0 0) (hY : eY E = lay1) {Q : Int32 → Hp → Prop} (eq : EQ E 0 0 (fun r h2 => ∃ x, r = [vI x] ∧ Q x h2)) {a1 : Int32} {p2 : Option PtrT} {a3 : Int32} {a4 : Int32} {h : Hp} {c n : Nat} (hc : c + 0 ≤ 0) (hn : n + 0 ≤ 0) (w : w_X3_leastBest_55  Q a1 p2 a3 a4 h) : SW E 55 ([some (vP (some (3, 0))), some (vI (a1)), some (vP (p2)), some (vI (a3)), some (vI (a4))], [], h, c, n) := by
  exact k_X3_leastBest_55 cx hY eq (by omega) (by omega) ⟨_, rfl, w⟩
theorem s_X3_leastBest_49 {E : EnvT} {d : Nat} (cx : CX E "ShoreDay$Guides" cX3_leastBest 5 (some .int) "leastBest" (d + 2) 0 0) (hY : eY E = lay1) {Q : Int32 → Hp → Prop} (eq : EQ E 0 0 (fun r h2 => ∃ x, r = [vI x] ∧ Q x h2)) {K3 : Int32 → Option PtrT → Int32 → Int32 → Hp → Prop} (hK3 : ∀ (a1 : Int32) (p2 : Option PtrT) (a3 : Int32) (a4 : Int32) (h : Hp) (c n : Nat), c + 0 ≤ 0 → n + 0 ≤ 0 → K3 a1 p2 a3 a4 h → SW E 3 ([some (vP (some (3, 0))), some (vI (a1)), some (vP (p2)), some (vI (a3)), some (vI (a4))], [], h, c, n)) {a1 : Int32} {p2 : Option PtrT} {a3 : Int32} {a4 : Int32} {h : Hp} {c n : Nat} (hc : c + 0 ≤ 0) (hn : n + 0 ≤ 0) (w : w_X3_leastBest_49 K3 Q a1 p2 a3 a4 h) : SW E 49 ([some (vP (some (3, 0))), some (vI (a1)), some (vP (p2)), some (vI (a3)), some (vI (a4))], [], h, c, n) := by
  refine k_X3_leastBest_49 cx hY ?_
  exact hK3 _ _ _ _ _ _ _ (by omega) (by omega) w
theorem s_X3_leastBest_46 {E : EnvT} {d : Nat} (cx : CX E "ShoreDay$Guides" cX3_leastBest 5 (some .int) "leastBest" (d + 2) 0 0) (hY : eY E = lay1) {Q : Int32 → Hp → Prop} (eq : EQ E 0 0 (fun r h2 => ∃ x, r = [vI x] ∧ Q x h2)) {a1 : Int32} {p2 : Option PtrT} {a3 : Int32} {a4 : Int32} {h : Hp} {c n : Nat} (hc : c + 0 ≤ 0) (hn : n + 0 ≤ 0) (w : w_X3_leastBest_46  Q a1 p2 a3 a4 h) : SW E 46 ([some (vP (some (3, 0))), some (vI (a1)), some (vP (p2)), some (vI (a3)), some (vI (a4))], [], h, c, n) := by
  exact k_X3_leastBest_46 cx hY eq (by omega) (by omega) ⟨_, rfl, w⟩
theorem s_X3_leastBest_32 {E : EnvT} {d : Nat} (cx : CX E "ShoreDay$Guides" cX3_leastBest 5 (some .int) "leastBest" (d + 2) 0 0) (hY : eY E = lay1) {Q : Int32 → Hp → Prop} (eq : EQ E 0 0 (fun r h2 => ∃ x, r = [vI x] ∧ Q x h2)) {K3 : Int32 → Option PtrT → Int32 → Int32 → Hp → Prop} (hK3 : ∀ (a1 : Int32) (p2 : Option PtrT) (a3 : Int32) (a4 : Int32) (h : Hp) (c n : Nat), c + 0 ≤ 0 → n + 0 ≤ 0 → K3 a1 p2 a3 a4 h → SW E 3 ([some (vP (some (3, 0))), some (vI (a1)), some (vP (p2)), some (vI (a3)), some (vI (a4))], [], h, c, n)) {a1 : Int32} {p2 : Option PtrT} {a3 : Int32} {a4 : Int32} {s0 : Int32} {h : Hp} {c n : Nat} (hc : c + 0 ≤ 0) (hn : n + 0 ≤ 0) (w : w_X3_leastBest_32 K3 Q a1 p2 a3 a4 s0 h) : SW E 32 ([some (vP (some (3, 0))), some (vI (a1)), some (vP (p2)), some (vI (a3)), some (vI (a4))], [vI (s0)], h, c, n) := by
  obtain ⟨G1, w⟩ := w
  refine k_X3_leastBest_32 cx hY G1 (fun q => ?_) (fun q => ?_)
  · have w := w.1 q
    exact s_X3_leastBest_49 cx hY eq hK3 (by omega) (by omega) w
  · have w := w.2 q
    exact s_X3_leastBest_46 cx hY eq  (by omega) (by omega) w
theorem s_X3_leastBest_23 {E : EnvT} {d : Nat} (cx : CX E "ShoreDay$Guides" cX3_leastBest 5 (some .int) "leastBest" (d + 2) 0 0) (hY : eY E = lay1) {Q : Int32 → Hp → Prop} (eq : EQ E 0 0 (fun r h2 => ∃ x, r = [vI x] ∧ Q x h2)) {K3 : Int32 → Option PtrT → Int32 → Int32 → Hp → Prop} (hK3 : ∀ (a1 : Int32) (p2 : Option PtrT) (a3 : Int32) (a4 : Int32) (h : Hp) (c n : Nat), c + 0 ≤ 0 → n + 0 ≤ 0 → K3 a1 p2 a3 a4 h → SW E 3 ([some (vP (some (3, 0))), some (vI (a1)), some (vP (p2)), some (vI (a3)), some (vI (a4))], [], h, c, n)) {a1 : Int32} {p2 : Option PtrT} {a3 : Int32} {a4 : Int32} {h : Hp} {c n : Nat} (hc : c + 0 ≤ 0) (hn : n + 0 ≤ 0) (w : w_X3_leastBest_23 K3 Q a1 p2 a3 a4 h) : SW E 23 ([some (vP (some (3, 0))), some (vI (a1)), some (vP (p2)), some (vI (a3)), some (vI (a4))], [], h, c, n) := by
  refine k_X3_leastBest_23 cx hY (ctY hY (vc_X3_seatsWith (d := d + 0) w)) (by omega) (by omega) (by omega) (fun r h2 hp => ?_)
  obtain ⟨r2, rfl, w⟩ := hp
  exact s_X3_leastBest_32 cx hY eq hK3 (by omega) (by omega) w
theorem s_X3_leastBest_20 {E : EnvT} {d : Nat} (cx : CX E "ShoreDay$Guides" cX3_leastBest 5 (some .int) "leastBest" (d + 2) 0 0) (hY : eY E = lay1) {Q : Int32 → Hp → Prop} (eq : EQ E 0 0 (fun r h2 => ∃ x, r = [vI x] ∧ Q x h2)) {K3 : Int32 → Option PtrT → Int32 → Int32 → Hp → Prop} (hK3 : ∀ (a1 : Int32) (p2 : Option PtrT) (a3 : Int32) (a4 : Int32) (h : Hp) (c n : Nat), c + 0 ≤ 0 → n + 0 ≤ 0 → K3 a1 p2 a3 a4 h → SW E 3 ([some (vP (some (3, 0))), some (vI (a1)), some (vP (p2)), some (vI (a3)), some (vI (a4))], [], h, c, n)) {a1 : Int32} {p2 : Option PtrT} {a3 : Int32} {a4 : Int32} {s0 : Int32} {h : Hp} {c n : Nat} (hc : c + 0 ≤ 0) (hn : n + 0 ≤ 0) (w : w_X3_leastBest_20 K3 Q a1 p2 a3 a4 s0 h) : SW E 20 ([some (vP (some (3, 0))), some (vI (a1)), some (vP (p2)), some (vI (a3)), some (vI (a4))], [vI (s0)], h, c, n) := by
  refine k_X3_leastBest_20 cx hY (fun q => ?_) (fun q => ?_)
  · have w := w.1 q
    exact s_X3_leastBest_49 cx hY eq hK3 (by omega) (by omega) w
  · have w := w.2 q
    exact s_X3_leastBest_23 cx hY eq hK3 (by omega) (by omega) w
theorem s_X3_leastBest_12 {E : EnvT} {d : Nat} (cx : CX E "ShoreDay$Guides" cX3_leastBest 5 (some .int) "leastBest" (d + 2) 0 0) (hY : eY E = lay1) {Q : Int32 → Hp → Prop} (eq : EQ E 0 0 (fun r h2 => ∃ x, r = [vI x] ∧ Q x h2)) {K3 : Int32 → Option PtrT → Int32 → Int32 → Hp → Prop} (hK3 : ∀ (a1 : Int32) (p2 : Option PtrT) (a3 : Int32) (a4 : Int32) (h : Hp) (c n : Nat), c + 0 ≤ 0 → n + 0 ≤ 0 → K3 a1 p2 a3 a4 h → SW E 3 ([some (vP (some (3, 0))), some (vI (a1)), some (vP (p2)), some (vI (a3)), some (vI (a4))], [], h, c, n)) {a1 : Int32} {p2 : Option PtrT} {a3 : Int32} {a4 : Int32} {h : Hp} {c n : Nat} (hc : c + 0 ≤ 0) (hn : n + 0 ≤ 0) (w : w_X3_leastBest_12 K3 Q a1 p2 a3 a4 h) : SW E 12 ([some (vP (some (3, 0))), some (vI (a1)), some (vP (p2)), some (vI (a3)), some (vI (a4))], [], h, c, n) := by
  refine k_X3_leastBest_12 cx hY (ctY hY (vc_X3_isFree (d := d + 0) w)) (by omega) (by omega) (by omega) (fun r h2 hp => ?_)
  obtain ⟨r2, rfl, w⟩ := hp
  exact s_X3_leastBest_20 cx hY eq hK3 (by omega) (by omega) w
theorem s_X3_leastBest_3 {E : EnvT} {d : Nat} (cx : CX E "ShoreDay$Guides" cX3_leastBest 5 (some .int) "leastBest" (d + 2) 0 0) (hY : eY E = lay1) {Q : Int32 → Hp → Prop} (eq : EQ E 0 0 (fun r h2 => ∃ x, r = [vI x] ∧ Q x h2)) : ∀ (N : Nat) (a1 : Int32) (p2 : Option PtrT) (a3 : Int32) (a4 : Int32) (h : Hp) (c n : Nat), c + 0 ≤ 0 → n + 0 ≤ 0 → w_X3_leastBest_3  Q N a1 p2 a3 a4 h → SW E 3 ([some (vP (some (3, 0))), some (vI (a1)), some (vP (p2)), some (vI (a3)), some (vI (a4))], [], h, c, n) := by
  intro N
  induction N with
  | zero =>
    intro _ _ _ _ h c n _ _ w
    exact w.elim
  | succ N ih =>
    intro a1 p2 a3 a4 h c n hc hn w
    refine k_X3_leastBest_3 cx hY (fun q => ?_) (fun q => ?_)
    · have w := w.1 q
      exact s_X3_leastBest_55 cx hY eq  (by omega) (by omega) w
    · have w := w.2 q
      exact s_X3_leastBest_12 cx hY eq ih (by omega) (by omega) w
theorem s_X3_leastBest_0 {E : EnvT} {d : Nat} (cx : CX E "ShoreDay$Guides" cX3_leastBest 5 (some .int) "leastBest" (d + 2) 0 0) (hY : eY E = lay1) {Q : Int32 → Hp → Prop} (eq : EQ E 0 0 (fun r h2 => ∃ x, r = [vI x] ∧ Q x h2)) {a1 : Int32} {p2 : Option PtrT} {a3 : Int32} {x4 : Option AVal} {h : Hp} {c n : Nat} (hc : c + 0 ≤ 0) (hn : n + 0 ≤ 0) (w : w_X3_leastBest_0  Q a1 p2 a3 h) : SW E 0 ([some (vP (some (3, 0))), some (vI (a1)), some (vP (p2)), some (vI (a3)), x4], [], h, c, n) := by
  refine k_X3_leastBest_0 cx hY ?_
  obtain ⟨N1, w⟩ := w
  exact s_X3_leastBest_3 cx hY eq  _ _ _ _ _ _ _ _ (by omega) (by omega) w
def wp_X3_leastBest (a1 : Int32) (p2 : Option PtrT) (a3 : Int32) (h : Hp) (Q : Int32 → Hp → Prop) : Prop := w_X3_leastBest_0 Q a1 p2 a3 h
theorem vc_X3_leastBest {l : Launch} {d : Nat} {a1 : Int32} {p2 : Option PtrT} {a3 : Int32} {h : Hp} {Q : Int32 → Hp → Prop} (w : wp_X3_leastBest a1 p2 a3 h Q) : Ct l lay1 yX3_leastBest cX3_leastBest 5 (some .int) (d + 2) 0 0 [vP (some (3, 0)), vI a1, vP p2, vI a3] h (fun r h2 => ∃ x, r = [vI x] ∧ Q x h2) := by
  exact Ct.of (by decide) (Nat.le_of_ble_eq_true rfl) fun E cx eq hl hY => s_X3_leastBest_0 cx hY eq (Nat.le_refl _) (Nat.le_refl _) w
def w_X4_expect_24 (Q : Int32 → Hp → Prop) (a1 : Int32) (h : Hp) : Prop := Q ((1 : Int32)) (h)
def w_X4_expect_17 (Q : Int32 → Hp → Prop) (a1 : Int32) (h : Hp) : Prop := wp_X9_step  (h) (fun h2 => w_X4_expect_24  Q (a1) (h2))
def w_X4_expect_16 (Q : Int32 → Hp → Prop) (a1 : Int32) (s0 : Int32) (h : Hp) : Prop := ((s0) = 0 ∨ (s0) = 1) ∧ Q (s0) (h)
def w_X4_expect_11 (Q : Int32 → Hp → Prop) (a1 : Int32) (h : Hp) : Prop := wp_X4_fail ((1 : Int32)) (h) (fun r2 h2 => w_X4_expect_16  Q (a1) (r2) (h2))
def w_X4_expect_0 (Q : Int32 → Hp → Prop) (a1 : Int32) (h : Hp) : Prop := ((gI (h) 9 (0) (5)) = (a1) → w_X4_expect_17  Q (a1) (h)) ∧ (¬ (gI (h) 9 (0) (5)) = (a1) → w_X4_expect_11  Q (a1) (h))
theorem s_X4_expect_24 {E : EnvT} {d : Nat} (cx : CX E "ShoreDay$Parser" cX4_expect 2 (some .boolean) "expect" (d + 2) 0 0) (hY : eY E = lay1) {Q : Int32 → Hp → Prop} (eq : EQ E 0 0 (fun r h2 => ∃ x, r = [vI x] ∧ Q x h2)) {a1 : Int32} {h : Hp} {c n : Nat} (hc : c + 0 ≤ 0) (hn : n + 0 ≤ 0) (w : w_X4_expect_24  Q a1 h) : SW E 24 ([some (vP (some (4, 0))), some (vI (a1))], [], h, c, n) := by
  exact k_X4_expect_24 cx hY eq (by omega) (by omega) ⟨_, rfl, w⟩
theorem s_X4_expect_17 {E : EnvT} {d : Nat} (cx : CX E "ShoreDay$Parser" cX4_expect 2 (some .boolean) "expect" (d + 2) 0 0) (hY : eY E = lay1) {Q : Int32 → Hp → Prop} (eq : EQ E 0 0 (fun r h2 => ∃ x, r = [vI x] ∧ Q x h2)) {a1 : Int32} {h : Hp} {c n : Nat} (hc : c + 0 ≤ 0) (hn : n + 0 ≤ 0) (w : w_X4_expect_17  Q a1 h) : SW E 17 ([some (vP (some (4, 0))), some (vI (a1))], [], h, c, n) := by
  refine k_X4_expect_17 cx hY (ctY hY (vc_X9_step (d := d + 0) w)) (by omega) (by omega) (by omega) (fun r h2 hp => ?_)
  obtain ⟨rfl, w⟩ := hp
  exact s_X4_expect_24 cx hY eq  (by omega) (by omega) w
theorem s_X4_expect_16 {E : EnvT} {d : Nat} (cx : CX E "ShoreDay$Parser" cX4_expect 2 (some .boolean) "expect" (d + 2) 0 0) (hY : eY E = lay1) {Q : Int32 → Hp → Prop} (eq : EQ E 0 0 (fun r h2 => ∃ x, r = [vI x] ∧ Q x h2)) {a1 : Int32} {s0 : Int32} {h : Hp} {c n : Nat} (hc : c + 0 ≤ 0) (hn : n + 0 ≤ 0) (w : w_X4_expect_16  Q a1 s0 h) : SW E 16 ([some (vP (some (4, 0))), some (vI (a1))], [vI (s0)], h, c, n) := by
  exact k_X4_expect_16 cx hY eq (by omega) (by omega) w.1 ⟨_, rfl, w.2⟩
theorem s_X4_expect_11 {E : EnvT} {d : Nat} (cx : CX E "ShoreDay$Parser" cX4_expect 2 (some .boolean) "expect" (d + 2) 0 0) (hY : eY E = lay1) {Q : Int32 → Hp → Prop} (eq : EQ E 0 0 (fun r h2 => ∃ x, r = [vI x] ∧ Q x h2)) {a1 : Int32} {h : Hp} {c n : Nat} (hc : c + 0 ≤ 0) (hn : n + 0 ≤ 0) (w : w_X4_expect_11  Q a1 h) : SW E 11 ([some (vP (some (4, 0))), some (vI (a1))], [], h, c, n) := by
  refine k_X4_expect_11 cx hY (ctY hY (vc_X4_fail (d := d + 0) w)) (by omega) (by omega) (by omega) (fun r h2 hp => ?_)
  obtain ⟨r2, rfl, w⟩ := hp
  exact s_X4_expect_16 cx hY eq  (by omega) (by omega) w
theorem s_X4_expect_0 {E : EnvT} {d : Nat} (cx : CX E "ShoreDay$Parser" cX4_expect 2 (some .boolean) "expect" (d + 2) 0 0) (hY : eY E = lay1) {Q : Int32 → Hp → Prop} (eq : EQ E 0 0 (fun r h2 => ∃ x, r = [vI x] ∧ Q x h2)) {a1 : Int32} {h : Hp} {c n : Nat} (hc : c + 0 ≤ 0) (hn : n + 0 ≤ 0) (w : w_X4_expect_0  Q a1 h) : SW E 0 ([some (vP (some (4, 0))), some (vI (a1))], [], h, c, n) := by
  refine k_X4_expect_0 cx hY (fun q => ?_) (fun q => ?_)
  · have w := w.1 q
    exact s_X4_expect_17 cx hY eq  (by omega) (by omega) w
  · have w := w.2 q
    exact s_X4_expect_11 cx hY eq  (by omega) (by omega) w
def wp_X4_expect (a1 : Int32) (h : Hp) (Q : Int32 → Hp → Prop) : Prop := w_X4_expect_0 Q a1 h
theorem vc_X4_expect {l : Launch} {d : Nat} {a1 : Int32} {h : Hp} {Q : Int32 → Hp → Prop} (w : wp_X4_expect a1 h Q) : Ct l lay1 yX4_expect cX4_expect 2 (some .boolean) (d + 2) 0 0 [vP (some (4, 0)), vI a1] h (fun r h2 => ∃ x, r = [vI x] ∧ Q x h2) := by
  exact Ct.of (by decide) (Nat.le_of_ble_eq_true rfl) fun E cx eq hl hY => s_X4_expect_0 cx hY eq (Nat.le_refl _) (Nat.le_refl _) w
def w_X5_isShutIn_37 (Q : Int32 → Hp → Prop) (a1 : Int32) (a2 : Int32) (h : Hp) : Prop := Q ((0 : Int32)) (h)
def w_X5_isShutIn_31 (K2 : Int32 → Int32 → Hp → Prop) (Q : Int32 → Hp → Prop) (a1 : Int32) (a2 : Int32) (h : Hp) : Prop := K2 (a1) (a2 + 1) (h)
def w_X5_isShutIn_29 (Q : Int32 → Hp → Prop) (a1 : Int32) (a2 : Int32) (h : Hp) : Prop := Q ((1 : Int32)) (h)
def w_X5_isShutIn_26 (K2 : Int32 → Int32 → Hp → Prop) (Q : Int32 → Hp → Prop) (a1 : Int32) (a2 : Int32) (s0 : Int32) (h : Hp) : Prop := ((s0) = 0 → w_X5_isShutIn_31 K2 Q (a1) (a2) (h)) ∧ (¬ (s0) = 0 → w_X5_isShutIn_29  Q (a1) (a2) (h))
def w_X5_isShutIn_10 (K2 : Int32 → Int32 → Hp → Prop) (Q : Int32 → Hp → Prop) (a1 : Int32) (a2 : Int32) (h : Hp) : Prop := vp_in (a2) 10 ∧ (vp_in (a2) 10 ∧ (wp_X11_within (a1) (gI (h) 26 (0) (tN (a2))) (gI (h) 27 (0) (tN (a2))) (h) (fun r2 h2 => w_X5_isShutIn_26 K2 Q (a1) (a2) (r2) (h2))))
def w_X5_isShutIn_2 (Q : Int32 → Hp → Prop) : Nat → Int32 → Int32 → Hp → Prop
  | 0 => fun _ _ _ => False
  | N + 1 => fun a1 a2 h => ((gI (h) 5 (0) (2)) ≤ (a2) → w_X5_isShutIn_37  Q (a1) (a2) (h)) ∧ (¬ (gI (h) 5 (0) (2)) ≤ (a2) → w_X5_isShutIn_10 (w_X5_isShutIn_2  Q N) Q (a1) (a2) (h))
def w_X5_isShutIn_0 (Q : Int32 → Hp → Prop) (a1 : Int32) (h : Hp) : Prop := ∃ N, w_X5_isShutIn_2  Q N (a1) ((0 : Int32)) (h)
theorem s_X5_isShutIn_37 {E : EnvT} {d : Nat} (cx : CX E "ShoreDay$Sea" cX5_isShutIn 3 (some .boolean) "isShutIn" (d + 2) 0 0) (hY : eY E = lay1) {Q : Int32 → Hp → Prop} (eq : EQ E 0 0 (fun r h2 => ∃ x, r = [vI x] ∧ Q x h2)) {a1 : Int32} {a2 : Int32} {h : Hp} {c n : Nat} (hc : c + 0 ≤ 0) (hn : n + 0 ≤ 0) (w : w_X5_isShutIn_37  Q a1 a2 h) : SW E 37 ([some (vP (some (5, 0))), some (vI (a1)), some (vI (a2))], [], h, c, n) := by
  exact k_X5_isShutIn_37 cx hY eq (by omega) (by omega) ⟨_, rfl, w⟩
theorem s_X5_isShutIn_31 {E : EnvT} {d : Nat} (cx : CX E "ShoreDay$Sea" cX5_isShutIn 3 (some .boolean) "isShutIn" (d + 2) 0 0) (hY : eY E = lay1) {Q : Int32 → Hp → Prop} (eq : EQ E 0 0 (fun r h2 => ∃ x, r = [vI x] ∧ Q x h2)) {K2 : Int32 → Int32 → Hp → Prop} (hK2 : ∀ (a1 : Int32) (a2 : Int32) (h : Hp) (c n : Nat), c + 0 ≤ 0 → n + 0 ≤ 0 → K2 a1 a2 h → SW E 2 ([some (vP (some (5, 0))), some (vI (a1)), some (vI (a2))], [], h, c, n)) {a1 : Int32} {a2 : Int32} {h : Hp} {c n : Nat} (hc : c + 0 ≤ 0) (hn : n + 0 ≤ 0) (w : w_X5_isShutIn_31 K2 Q a1 a2 h) : SW E 31 ([some (vP (some (5, 0))), some (vI (a1)), some (vI (a2))], [], h, c, n) := by
  refine k_X5_isShutIn_31 cx hY ?_
  exact hK2 _ _ _ _ _ (by omega) (by omega) w
theorem s_X5_isShutIn_29 {E : EnvT} {d : Nat} (cx : CX E "ShoreDay$Sea" cX5_isShutIn 3 (some .boolean) "isShutIn" (d + 2) 0 0) (hY : eY E = lay1) {Q : Int32 → Hp → Prop} (eq : EQ E 0 0 (fun r h2 => ∃ x, r = [vI x] ∧ Q x h2)) {a1 : Int32} {a2 : Int32} {h : Hp} {c n : Nat} (hc : c + 0 ≤ 0) (hn : n + 0 ≤ 0) (w : w_X5_isShutIn_29  Q a1 a2 h) : SW E 29 ([some (vP (some (5, 0))), some (vI (a1)), some (vI (a2))], [], h, c, n) := by
  exact k_X5_isShutIn_29 cx hY eq (by omega) (by omega) ⟨_, rfl, w⟩
theorem s_X5_isShutIn_26 {E : EnvT} {d : Nat} (cx : CX E "ShoreDay$Sea" cX5_isShutIn 3 (some .boolean) "isShutIn" (d + 2) 0 0) (hY : eY E = lay1) {Q : Int32 → Hp → Prop} (eq : EQ E 0 0 (fun r h2 => ∃ x, r = [vI x] ∧ Q x h2)) {K2 : Int32 → Int32 → Hp → Prop} (hK2 : ∀ (a1 : Int32) (a2 : Int32) (h : Hp) (c n : Nat), c + 0 ≤ 0 → n + 0 ≤ 0 → K2 a1 a2 h → SW E 2 ([some (vP (some (5, 0))), some (vI (a1)), some (vI (a2))], [], h, c, n)) {a1 : Int32} {a2 : Int32} {s0 : Int32} {h : Hp} {c n : Nat} (hc : c + 0 ≤ 0) (hn : n + 0 ≤ 0) (w : w_X5_isShutIn_26 K2 Q a1 a2 s0 h) : SW E 26 ([some (vP (some (5, 0))), some (vI (a1)), some (vI (a2))], [vI (s0)], h, c, n) := by
  refine k_X5_isShutIn_26 cx hY (fun q => ?_) (fun q => ?_)
  · have w := w.1 q
    exact s_X5_isShutIn_31 cx hY eq hK2 (by omega) (by omega) w
  · have w := w.2 q
    exact s_X5_isShutIn_29 cx hY eq  (by omega) (by omega) w
theorem s_X5_isShutIn_10 {E : EnvT} {d : Nat} (cx : CX E "ShoreDay$Sea" cX5_isShutIn 3 (some .boolean) "isShutIn" (d + 2) 0 0) (hY : eY E = lay1) {Q : Int32 → Hp → Prop} (eq : EQ E 0 0 (fun r h2 => ∃ x, r = [vI x] ∧ Q x h2)) {K2 : Int32 → Int32 → Hp → Prop} (hK2 : ∀ (a1 : Int32) (a2 : Int32) (h : Hp) (c n : Nat), c + 0 ≤ 0 → n + 0 ≤ 0 → K2 a1 a2 h → SW E 2 ([some (vP (some (5, 0))), some (vI (a1)), some (vI (a2))], [], h, c, n)) {a1 : Int32} {a2 : Int32} {h : Hp} {c n : Nat} (hc : c + 0 ≤ 0) (hn : n + 0 ≤ 0) (w : w_X5_isShutIn_10 K2 Q a1 a2 h) : SW E 10 ([some (vP (some (5, 0))), some (vI (a1)), some (vI (a2))], [], h, c, n) := by
  obtain ⟨G1, G2, w⟩ := w
  refine k_X5_isShutIn_10 cx hY G1 G2 (ctY hY (vc_X11_within (d := d + 0) w)) (by omega) (by omega) (by omega) (fun r h2 hp => ?_)
  obtain ⟨r2, rfl, w⟩ := hp
  exact s_X5_isShutIn_26 cx hY eq hK2 (by omega) (by omega) w
theorem s_X5_isShutIn_2 {E : EnvT} {d : Nat} (cx : CX E "ShoreDay$Sea" cX5_isShutIn 3 (some .boolean) "isShutIn" (d + 2) 0 0) (hY : eY E = lay1) {Q : Int32 → Hp → Prop} (eq : EQ E 0 0 (fun r h2 => ∃ x, r = [vI x] ∧ Q x h2)) : ∀ (N : Nat) (a1 : Int32) (a2 : Int32) (h : Hp) (c n : Nat), c + 0 ≤ 0 → n + 0 ≤ 0 → w_X5_isShutIn_2  Q N a1 a2 h → SW E 2 ([some (vP (some (5, 0))), some (vI (a1)), some (vI (a2))], [], h, c, n) := by
  intro N
  induction N with
  | zero =>
    intro _ _ h c n _ _ w
    exact w.elim
  | succ N ih =>
    intro a1 a2 h c n hc hn w
    refine k_X5_isShutIn_2 cx hY (fun q => ?_) (fun q => ?_)
    · have w := w.1 q
      exact s_X5_isShutIn_37 cx hY eq  (by omega) (by omega) w
    · have w := w.2 q
      exact s_X5_isShutIn_10 cx hY eq ih (by omega) (by omega) w
theorem s_X5_isShutIn_0 {E : EnvT} {d : Nat} (cx : CX E "ShoreDay$Sea" cX5_isShutIn 3 (some .boolean) "isShutIn" (d + 2) 0 0) (hY : eY E = lay1) {Q : Int32 → Hp → Prop} (eq : EQ E 0 0 (fun r h2 => ∃ x, r = [vI x] ∧ Q x h2)) {a1 : Int32} {x2 : Option AVal} {h : Hp} {c n : Nat} (hc : c + 0 ≤ 0) (hn : n + 0 ≤ 0) (w : w_X5_isShutIn_0  Q a1 h) : SW E 0 ([some (vP (some (5, 0))), some (vI (a1)), x2], [], h, c, n) := by
  refine k_X5_isShutIn_0 cx hY ?_
  obtain ⟨N1, w⟩ := w
  exact s_X5_isShutIn_2 cx hY eq  _ _ _ _ _ _ (by omega) (by omega) w
def wp_X5_isShutIn (a1 : Int32) (h : Hp) (Q : Int32 → Hp → Prop) : Prop := w_X5_isShutIn_0 Q a1 h
theorem vc_X5_isShutIn {l : Launch} {d : Nat} {a1 : Int32} {h : Hp} {Q : Int32 → Hp → Prop} (w : wp_X5_isShutIn a1 h Q) : Ct l lay1 yX5_isShutIn cX5_isShutIn 3 (some .boolean) (d + 2) 0 0 [vP (some (5, 0)), vI a1] h (fun r h2 => ∃ x, r = [vI x] ∧ Q x h2) := by
  exact Ct.of (by decide) (Nat.le_of_ble_eq_true rfl) fun E cx eq hl hY => s_X5_isShutIn_0 cx hY eq (Nat.le_refl _) (Nat.le_refl _) w
def w_X7_takeSign_48 (Q : Hp → Prop) (a1 : Int32) (h : Hp) : Prop := Q (h)
def w_X7_takeSign_27 (Q : Hp → Prop) (a1 : Int32) (h : Hp) : Prop := vp_in (gI (h) 7 (0) (1)) 600 ∧ (w_X7_takeSign_48  Q (a1) (wI (wI (h) 32 (0) (tN (gI (h) 7 (0) (1))) (vp_nar .char (((a1).toUInt32 % 65536).toInt32))) 7 (0) 1 ((gI (wI (h) 32 (0) (tN (gI (h) 7 (0) (1))) (vp_nar .char (((a1).toUInt32 % 65536).toInt32))) 7 (0) (1)) + ((1 : Int32)))))
def w_X7_takeSign_17 (Q : Hp → Prop) (a1 : Int32) (h : Hp) : Prop := (((600 : Int32)) ≤ (gI (h) 7 (0) (1)) → w_X7_takeSign_48  Q (a1) (h)) ∧ (¬ ((600 : Int32)) ≤ (gI (h) 7 (0) (1)) → w_X7_takeSign_27  Q (a1) (h))
def w_X7_takeSign_14 (Q : Hp → Prop) (a1 : Int32) (s0 : Int32) (h : Hp) : Prop := ((s0) = 0 → w_X7_takeSign_48  Q (a1) (h)) ∧ (¬ (s0) = 0 → w_X7_takeSign_17  Q (a1) (h))
def w_X7_takeSign_6 (Q : Hp → Prop) (a1 : Int32) (h : Hp) : Prop := wp_X11_within (a1) ((32 : Int32)) ((126 : Int32)) (h) (fun r2 h2 => w_X7_takeSign_14  Q (a1) (r2) (h2))
def w_X7_takeSign_0 (Q : Hp → Prop) (a1 : Int32) (h : Hp) : Prop := ((a1) = ((10 : Int32)) → w_X7_takeSign_17  Q (a1) (h)) ∧ (¬ (a1) = ((10 : Int32)) → w_X7_takeSign_6  Q (a1) (h))
theorem s_X7_takeSign_48 {E : EnvT} {d : Nat} (cx : CX E "ShoreDay$Tape" cX7_takeSign 2 none "takeSign" (d + 2) 0 0) (hY : eY E = lay1) {Q : Hp → Prop} (eq : EQ E 0 0 (fun r h2 => r = [] ∧ Q h2)) {a1 : Int32} {h : Hp} {c n : Nat} (hc : c + 0 ≤ 0) (hn : n + 0 ≤ 0) (w : w_X7_takeSign_48  Q a1 h) : SW E 48 ([some (vP (some (7, 0))), some (vI (a1))], [], h, c, n) := by
  exact k_X7_takeSign_48 cx hY eq (by omega) (by omega) ⟨rfl, w⟩
theorem s_X7_takeSign_27 {E : EnvT} {d : Nat} (cx : CX E "ShoreDay$Tape" cX7_takeSign 2 none "takeSign" (d + 2) 0 0) (hY : eY E = lay1) {Q : Hp → Prop} (eq : EQ E 0 0 (fun r h2 => r = [] ∧ Q h2)) {a1 : Int32} {h : Hp} {c n : Nat} (hc : c + 0 ≤ 0) (hn : n + 0 ≤ 0) (w : w_X7_takeSign_27  Q a1 h) : SW E 27 ([some (vP (some (7, 0))), some (vI (a1))], [], h, c, n) := by
  obtain ⟨G1, w⟩ := w
  refine k_X7_takeSign_27 cx hY G1 ?_
  exact s_X7_takeSign_48 cx hY eq  (by omega) (by omega) w
theorem s_X7_takeSign_17 {E : EnvT} {d : Nat} (cx : CX E "ShoreDay$Tape" cX7_takeSign 2 none "takeSign" (d + 2) 0 0) (hY : eY E = lay1) {Q : Hp → Prop} (eq : EQ E 0 0 (fun r h2 => r = [] ∧ Q h2)) {a1 : Int32} {h : Hp} {c n : Nat} (hc : c + 0 ≤ 0) (hn : n + 0 ≤ 0) (w : w_X7_takeSign_17  Q a1 h) : SW E 17 ([some (vP (some (7, 0))), some (vI (a1))], [], h, c, n) := by
  refine k_X7_takeSign_17 cx hY (fun q => ?_) (fun q => ?_)
  · have w := w.1 q
    exact s_X7_takeSign_48 cx hY eq  (by omega) (by omega) w
  · have w := w.2 q
    exact s_X7_takeSign_27 cx hY eq  (by omega) (by omega) w
theorem s_X7_takeSign_14 {E : EnvT} {d : Nat} (cx : CX E "ShoreDay$Tape" cX7_takeSign 2 none "takeSign" (d + 2) 0 0) (hY : eY E = lay1) {Q : Hp → Prop} (eq : EQ E 0 0 (fun r h2 => r = [] ∧ Q h2)) {a1 : Int32} {s0 : Int32} {h : Hp} {c n : Nat} (hc : c + 0 ≤ 0) (hn : n + 0 ≤ 0) (w : w_X7_takeSign_14  Q a1 s0 h) : SW E 14 ([some (vP (some (7, 0))), some (vI (a1))], [vI (s0)], h, c, n) := by
  refine k_X7_takeSign_14 cx hY (fun q => ?_) (fun q => ?_)
  · have w := w.1 q
    exact s_X7_takeSign_48 cx hY eq  (by omega) (by omega) w
  · have w := w.2 q
    exact s_X7_takeSign_17 cx hY eq  (by omega) (by omega) w
theorem s_X7_takeSign_6 {E : EnvT} {d : Nat} (cx : CX E "ShoreDay$Tape" cX7_takeSign 2 none "takeSign" (d + 2) 0 0) (hY : eY E = lay1) {Q : Hp → Prop} (eq : EQ E 0 0 (fun r h2 => r = [] ∧ Q h2)) {a1 : Int32} {h : Hp} {c n : Nat} (hc : c + 0 ≤ 0) (hn : n + 0 ≤ 0) (w : w_X7_takeSign_6  Q a1 h) : SW E 6 ([some (vP (some (7, 0))), some (vI (a1))], [], h, c, n) := by
  refine k_X7_takeSign_6 cx hY (ctY hY (vc_X11_within (d := d + 0) w)) (by omega) (by omega) (by omega) (fun r h2 hp => ?_)
  obtain ⟨r2, rfl, w⟩ := hp
  exact s_X7_takeSign_14 cx hY eq  (by omega) (by omega) w
theorem s_X7_takeSign_0 {E : EnvT} {d : Nat} (cx : CX E "ShoreDay$Tape" cX7_takeSign 2 none "takeSign" (d + 2) 0 0) (hY : eY E = lay1) {Q : Hp → Prop} (eq : EQ E 0 0 (fun r h2 => r = [] ∧ Q h2)) {a1 : Int32} {h : Hp} {c n : Nat} (hc : c + 0 ≤ 0) (hn : n + 0 ≤ 0) (w : w_X7_takeSign_0  Q a1 h) : SW E 0 ([some (vP (some (7, 0))), some (vI (a1))], [], h, c, n) := by
  refine k_X7_takeSign_0 cx hY (fun q => ?_) (fun q => ?_)
  · have w := w.1 q
    exact s_X7_takeSign_17 cx hY eq  (by omega) (by omega) w
  · have w := w.2 q
    exact s_X7_takeSign_6 cx hY eq  (by omega) (by omega) w
def wp_X7_takeSign (a1 : Int32) (h : Hp) (Q : Hp → Prop) : Prop := w_X7_takeSign_0 Q a1 h
theorem vc_X7_takeSign {l : Launch} {d : Nat} {a1 : Int32} {h : Hp} {Q : Hp → Prop} (w : wp_X7_takeSign a1 h Q) : Ct l lay1 yX7_takeSign cX7_takeSign 2 none (d + 2) 0 0 [vP (some (7, 0)), vI a1] h (fun r h2 => r = [] ∧ Q h2) := by
  exact Ct.of (by decide) (Nat.le_of_ble_eq_true rfl) fun E cx eq hl hY => s_X7_takeSign_0 cx hY eq (Nat.le_refl _) (Nat.le_refl _) w
def w_X11_ship_32 (Q : Int32 → Hp → Prop) (a1 : Int32) (a2 : Int32) (a3 : Int32) (h : Hp) : Prop := Q ((-1 : Int32)) (h)
def w_X11_ship_50 (Q : Int32 → Hp → Prop) (a1 : Int32) (a2 : Int32) (a3 : Int32) (h : Hp) : Prop := Q ((-1 : Int32)) (h)
def w_X11_ship_74 (Q : Int32 → Hp → Prop) (a1 : Int32) (a2 : Int32) (a3 : Int32) (s1 : Int32) (j2 : Nat) (h : Hp) : Prop := vp_in (s1) 4 ∧ (Q ((gI (wI (wP (h) 20 (0) (tN (s1)) (some (6, j2))) 11 (0) 1 ((gI (wP (h) 20 (0) (tN (s1)) (some (6, j2))) 11 (0) (1)) + ((1 : Int32)))) 11 (0) (1)) - ((1 : Int32))) (wI (wP (h) 20 (0) (tN (s1)) (some (6, j2))) 11 (0) 1 ((gI (wP (h) 20 (0) (tN (s1)) (some (6, j2))) 11 (0) (1)) + ((1 : Int32)))))
def w_X11_ship_63 (Q : Int32 → Hp → Prop) (a1 : Int32) (a2 : Int32) (a3 : Int32) (s1 : Int32) (j2 : Nat) (h : Hp) : Prop := wp_X6_init (j2) (gI (h) 11 (0) (1)) (a1) (a2) (a3) (h) (fun h2 => w_X11_ship_74  Q (a1) (a2) (a3) (s1) (j2) (h2))
def w_X11_ship_52 (Q : Int32 → Hp → Prop) (a1 : Int32) (a2 : Int32) (a3 : Int32) (h : Hp) : Prop := w_X11_ship_63  Q (a1) (a2) (a3) (gI (h) 11 (0) (1)) (gC (h) 6) (nw (h) 6)
def w_X11_ship_42 (Q : Int32 → Hp → Prop) (a1 : Int32) (a2 : Int32) (a3 : Int32) (h : Hp) : Prop := ((gI (h) 11 (0) (1)) < ((4 : Int32)) → w_X11_ship_52  Q (a1) (a2) (a3) (h)) ∧ (¬ (gI (h) 11 (0) (1)) < ((4 : Int32)) → w_X11_ship_50  Q (a1) (a2) (a3) (h))
def w_X11_ship_34 (Q : Int32 → Hp → Prop) (a1 : Int32) (a2 : Int32) (a3 : Int32) (h : Hp) : Prop := ((a2) ≤ (gI (h) 11 (0) (14)) → w_X11_ship_50  Q (a1) (a2) (a3) (h)) ∧ (¬ (a2) ≤ (gI (h) 11 (0) (14)) → w_X11_ship_42  Q (a1) (a2) (a3) (h))
def w_X11_ship_29 (Q : Int32 → Hp → Prop) (a1 : Int32) (a2 : Int32) (a3 : Int32) (s0 : Int32) (h : Hp) : Prop := (¬ (s0) = 0 → w_X11_ship_34  Q (a1) (a2) (a3) (h)) ∧ ((s0) = 0 → w_X11_ship_32  Q (a1) (a2) (a3) (h))
def w_X11_ship_22 (Q : Int32 → Hp → Prop) (a1 : Int32) (a2 : Int32) (a3 : Int32) (h : Hp) : Prop := wp_X11_within (a3) ((0 : Int32)) ((9 : Int32)) (h) (fun r2 h2 => w_X11_ship_29  Q (a1) (a2) (a3) (r2) (h2))
def w_X11_ship_19 (Q : Int32 → Hp → Prop) (a1 : Int32) (a2 : Int32) (a3 : Int32) (s0 : Int32) (h : Hp) : Prop := ((s0) = 0 → w_X11_ship_32  Q (a1) (a2) (a3) (h)) ∧ (¬ (s0) = 0 → w_X11_ship_22  Q (a1) (a2) (a3) (h))
def w_X11_ship_10 (Q : Int32 → Hp → Prop) (a1 : Int32) (a2 : Int32) (a3 : Int32) (h : Hp) : Prop := wp_X11_within (a2) ((60 : Int32)) ((719 : Int32)) (h) (fun r2 h2 => w_X11_ship_19  Q (a1) (a2) (a3) (r2) (h2))
def w_X11_ship_7 (Q : Int32 → Hp → Prop) (a1 : Int32) (a2 : Int32) (a3 : Int32) (s0 : Int32) (h : Hp) : Prop := ((s0) = 0 → w_X11_ship_32  Q (a1) (a2) (a3) (h)) ∧ (¬ (s0) = 0 → w_X11_ship_10  Q (a1) (a2) (a3) (h))
def w_X11_ship_0 (Q : Int32 → Hp → Prop) (a1 : Int32) (a2 : Int32) (a3 : Int32) (h : Hp) : Prop := wp_X11_within (a1) ((1 : Int32)) ((60 : Int32)) (h) (fun r2 h2 => w_X11_ship_7  Q (a1) (a2) (a3) (r2) (h2))
theorem s_X11_ship_32 {E : EnvT} {d : Nat} (cx : CX E "ShoreDay" cX11_ship 4 (some .int) "ship" (d + 2) 1 5) (hY : eY E = lay1) {Q : Int32 → Hp → Prop} (eq : EQ E 1 5 (fun r h2 => ∃ x, r = [vI x] ∧ Q x h2)) {a1 : Int32} {a2 : Int32} {a3 : Int32} {h : Hp} {c n : Nat} (hc : c + 0 ≤ 1) (hn : n + 0 ≤ 5) (w : w_X11_ship_32  Q a1 a2 a3 h) : SW E 32 ([some (vP (some (11, 0))), some (vI (a1)), some (vI (a2)), some (vI (a3))], [], h, c, n) := by
  exact k_X11_ship_32 cx hY eq (by omega) (by omega) ⟨_, rfl, w⟩
theorem s_X11_ship_50 {E : EnvT} {d : Nat} (cx : CX E "ShoreDay" cX11_ship 4 (some .int) "ship" (d + 2) 1 5) (hY : eY E = lay1) {Q : Int32 → Hp → Prop} (eq : EQ E 1 5 (fun r h2 => ∃ x, r = [vI x] ∧ Q x h2)) {a1 : Int32} {a2 : Int32} {a3 : Int32} {h : Hp} {c n : Nat} (hc : c + 0 ≤ 1) (hn : n + 0 ≤ 5) (w : w_X11_ship_50  Q a1 a2 a3 h) : SW E 50 ([some (vP (some (11, 0))), some (vI (a1)), some (vI (a2)), some (vI (a3))], [], h, c, n) := by
  exact k_X11_ship_50 cx hY eq (by omega) (by omega) ⟨_, rfl, w⟩
theorem s_X11_ship_74 {E : EnvT} {d : Nat} (cx : CX E "ShoreDay" cX11_ship 4 (some .int) "ship" (d + 2) 1 5) (hY : eY E = lay1) {Q : Int32 → Hp → Prop} (eq : EQ E 1 5 (fun r h2 => ∃ x, r = [vI x] ∧ Q x h2)) {a1 : Int32} {a2 : Int32} {a3 : Int32} {s1 : Int32} {j2 : Nat} {h : Hp} {c n : Nat} (hc : c + 0 ≤ 1) (hn : n + 0 ≤ 5) (w : w_X11_ship_74  Q a1 a2 a3 s1 j2 h) : SW E 74 ([some (vP (some (11, 0))), some (vI (a1)), some (vI (a2)), some (vI (a3))], [vP (some (6, j2)), vI (s1), vP (some (20, 0))], h, c, n) := by
  obtain ⟨G1, w⟩ := w
  exact k_X11_ship_74 cx hY G1 eq (by omega) (by omega) ⟨_, rfl, w⟩
theorem s_X11_ship_63 {E : EnvT} {d : Nat} (cx : CX E "ShoreDay" cX11_ship 4 (some .int) "ship" (d + 2) 1 5) (hY : eY E = lay1) {Q : Int32 → Hp → Prop} (eq : EQ E 1 5 (fun r h2 => ∃ x, r = [vI x] ∧ Q x h2)) {a1 : Int32} {a2 : Int32} {a3 : Int32} {s1 : Int32} {j2 : Nat} {h : Hp} {c n : Nat} (hc : c + 0 ≤ 1) (hn : n + 0 ≤ 5) (w : w_X11_ship_63  Q a1 a2 a3 s1 j2 h) : SW E 63 ([some (vP (some (11, 0))), some (vI (a1)), some (vI (a2)), some (vI (a3))], [vP (some (6, j2)), vI (s1), vP (some (20, 0))], h, c, n) := by
  refine k_X11_ship_63 cx hY (ctY hY (vc_X6_init (d := d + 0) w)) (by omega) (by omega) (by omega) (fun r h2 hp => ?_)
  obtain ⟨rfl, w⟩ := hp
  exact s_X11_ship_74 cx hY eq  (by omega) (by omega) w
theorem s_X11_ship_52 {E : EnvT} {d : Nat} (cx : CX E "ShoreDay" cX11_ship 4 (some .int) "ship" (d + 2) 1 5) (hY : eY E = lay1) {Q : Int32 → Hp → Prop} (eq : EQ E 1 5 (fun r h2 => ∃ x, r = [vI x] ∧ Q x h2)) {a1 : Int32} {a2 : Int32} {a3 : Int32} {h : Hp} {c n : Nat} (hc : c + 1 ≤ 1) (hn : n + 5 ≤ 5) (w : w_X11_ship_52  Q a1 a2 a3 h) : SW E 52 ([some (vP (some (11, 0))), some (vI (a1)), some (vI (a2)), some (vI (a3))], [], h, c, n) := by
  refine k_X11_ship_52 cx hY (by omega) (by omega) ?_
  exact s_X11_ship_63 cx hY eq  (by omega) (by omega) w
theorem s_X11_ship_42 {E : EnvT} {d : Nat} (cx : CX E "ShoreDay" cX11_ship 4 (some .int) "ship" (d + 2) 1 5) (hY : eY E = lay1) {Q : Int32 → Hp → Prop} (eq : EQ E 1 5 (fun r h2 => ∃ x, r = [vI x] ∧ Q x h2)) {a1 : Int32} {a2 : Int32} {a3 : Int32} {h : Hp} {c n : Nat} (hc : c + 1 ≤ 1) (hn : n + 5 ≤ 5) (w : w_X11_ship_42  Q a1 a2 a3 h) : SW E 42 ([some (vP (some (11, 0))), some (vI (a1)), some (vI (a2)), some (vI (a3))], [], h, c, n) := by
  refine k_X11_ship_42 cx hY (fun q => ?_) (fun q => ?_)
  · have w := w.1 q
    exact s_X11_ship_52 cx hY eq  (by omega) (by omega) w
  · have w := w.2 q
    exact s_X11_ship_50 cx hY eq  (by omega) (by omega) w
theorem s_X11_ship_34 {E : EnvT} {d : Nat} (cx : CX E "ShoreDay" cX11_ship 4 (some .int) "ship" (d + 2) 1 5) (hY : eY E = lay1) {Q : Int32 → Hp → Prop} (eq : EQ E 1 5 (fun r h2 => ∃ x, r = [vI x] ∧ Q x h2)) {a1 : Int32} {a2 : Int32} {a3 : Int32} {h : Hp} {c n : Nat} (hc : c + 1 ≤ 1) (hn : n + 5 ≤ 5) (w : w_X11_ship_34  Q a1 a2 a3 h) : SW E 34 ([some (vP (some (11, 0))), some (vI (a1)), some (vI (a2)), some (vI (a3))], [], h, c, n) := by
  refine k_X11_ship_34 cx hY (fun q => ?_) (fun q => ?_)
  · have w := w.1 q
    exact s_X11_ship_50 cx hY eq  (by omega) (by omega) w
  · have w := w.2 q
    exact s_X11_ship_42 cx hY eq  (by omega) (by omega) w
theorem s_X11_ship_29 {E : EnvT} {d : Nat} (cx : CX E "ShoreDay" cX11_ship 4 (some .int) "ship" (d + 2) 1 5) (hY : eY E = lay1) {Q : Int32 → Hp → Prop} (eq : EQ E 1 5 (fun r h2 => ∃ x, r = [vI x] ∧ Q x h2)) {a1 : Int32} {a2 : Int32} {a3 : Int32} {s0 : Int32} {h : Hp} {c n : Nat} (hc : c + 1 ≤ 1) (hn : n + 5 ≤ 5) (w : w_X11_ship_29  Q a1 a2 a3 s0 h) : SW E 29 ([some (vP (some (11, 0))), some (vI (a1)), some (vI (a2)), some (vI (a3))], [vI (s0)], h, c, n) := by
  refine k_X11_ship_29 cx hY (fun q => ?_) (fun q => ?_)
  · have w := w.1 q
    exact s_X11_ship_34 cx hY eq  (by omega) (by omega) w
  · have w := w.2 q
    exact s_X11_ship_32 cx hY eq  (by omega) (by omega) w
theorem s_X11_ship_22 {E : EnvT} {d : Nat} (cx : CX E "ShoreDay" cX11_ship 4 (some .int) "ship" (d + 2) 1 5) (hY : eY E = lay1) {Q : Int32 → Hp → Prop} (eq : EQ E 1 5 (fun r h2 => ∃ x, r = [vI x] ∧ Q x h2)) {a1 : Int32} {a2 : Int32} {a3 : Int32} {h : Hp} {c n : Nat} (hc : c + 1 ≤ 1) (hn : n + 5 ≤ 5) (w : w_X11_ship_22  Q a1 a2 a3 h) : SW E 22 ([some (vP (some (11, 0))), some (vI (a1)), some (vI (a2)), some (vI (a3))], [], h, c, n) := by
  refine k_X11_ship_22 cx hY (ctY hY (vc_X11_within (d := d + 0) w)) (by omega) (by omega) (by omega) (fun r h2 hp => ?_)
  obtain ⟨r2, rfl, w⟩ := hp
  exact s_X11_ship_29 cx hY eq  (by omega) (by omega) w
theorem s_X11_ship_19 {E : EnvT} {d : Nat} (cx : CX E "ShoreDay" cX11_ship 4 (some .int) "ship" (d + 2) 1 5) (hY : eY E = lay1) {Q : Int32 → Hp → Prop} (eq : EQ E 1 5 (fun r h2 => ∃ x, r = [vI x] ∧ Q x h2)) {a1 : Int32} {a2 : Int32} {a3 : Int32} {s0 : Int32} {h : Hp} {c n : Nat} (hc : c + 1 ≤ 1) (hn : n + 5 ≤ 5) (w : w_X11_ship_19  Q a1 a2 a3 s0 h) : SW E 19 ([some (vP (some (11, 0))), some (vI (a1)), some (vI (a2)), some (vI (a3))], [vI (s0)], h, c, n) := by
  refine k_X11_ship_19 cx hY (fun q => ?_) (fun q => ?_)
  · have w := w.1 q
    exact s_X11_ship_32 cx hY eq  (by omega) (by omega) w
  · have w := w.2 q
    exact s_X11_ship_22 cx hY eq  (by omega) (by omega) w
theorem s_X11_ship_10 {E : EnvT} {d : Nat} (cx : CX E "ShoreDay" cX11_ship 4 (some .int) "ship" (d + 2) 1 5) (hY : eY E = lay1) {Q : Int32 → Hp → Prop} (eq : EQ E 1 5 (fun r h2 => ∃ x, r = [vI x] ∧ Q x h2)) {a1 : Int32} {a2 : Int32} {a3 : Int32} {h : Hp} {c n : Nat} (hc : c + 1 ≤ 1) (hn : n + 5 ≤ 5) (w : w_X11_ship_10  Q a1 a2 a3 h) : SW E 10 ([some (vP (some (11, 0))), some (vI (a1)), some (vI (a2)), some (vI (a3))], [], h, c, n) := by
  refine k_X11_ship_10 cx hY (ctY hY (vc_X11_within (d := d + 0) w)) (by omega) (by omega) (by omega) (fun r h2 hp => ?_)
  obtain ⟨r2, rfl, w⟩ := hp
  exact s_X11_ship_19 cx hY eq  (by omega) (by omega) w
theorem s_X11_ship_7 {E : EnvT} {d : Nat} (cx : CX E "ShoreDay" cX11_ship 4 (some .int) "ship" (d + 2) 1 5) (hY : eY E = lay1) {Q : Int32 → Hp → Prop} (eq : EQ E 1 5 (fun r h2 => ∃ x, r = [vI x] ∧ Q x h2)) {a1 : Int32} {a2 : Int32} {a3 : Int32} {s0 : Int32} {h : Hp} {c n : Nat} (hc : c + 1 ≤ 1) (hn : n + 5 ≤ 5) (w : w_X11_ship_7  Q a1 a2 a3 s0 h) : SW E 7 ([some (vP (some (11, 0))), some (vI (a1)), some (vI (a2)), some (vI (a3))], [vI (s0)], h, c, n) := by
  refine k_X11_ship_7 cx hY (fun q => ?_) (fun q => ?_)
  · have w := w.1 q
    exact s_X11_ship_32 cx hY eq  (by omega) (by omega) w
  · have w := w.2 q
    exact s_X11_ship_10 cx hY eq  (by omega) (by omega) w
theorem s_X11_ship_0 {E : EnvT} {d : Nat} (cx : CX E "ShoreDay" cX11_ship 4 (some .int) "ship" (d + 2) 1 5) (hY : eY E = lay1) {Q : Int32 → Hp → Prop} (eq : EQ E 1 5 (fun r h2 => ∃ x, r = [vI x] ∧ Q x h2)) {a1 : Int32} {a2 : Int32} {a3 : Int32} {h : Hp} {c n : Nat} (hc : c + 1 ≤ 1) (hn : n + 5 ≤ 5) (w : w_X11_ship_0  Q a1 a2 a3 h) : SW E 0 ([some (vP (some (11, 0))), some (vI (a1)), some (vI (a2)), some (vI (a3))], [], h, c, n) := by
  refine k_X11_ship_0 cx hY (ctY hY (vc_X11_within (d := d + 0) w)) (by omega) (by omega) (by omega) (fun r h2 hp => ?_)
  obtain ⟨r2, rfl, w⟩ := hp
  exact s_X11_ship_7 cx hY eq  (by omega) (by omega) w
def wp_X11_ship (a1 : Int32) (a2 : Int32) (a3 : Int32) (h : Hp) (Q : Int32 → Hp → Prop) : Prop := w_X11_ship_0 Q a1 a2 a3 h
theorem vc_X11_ship {l : Launch} {d : Nat} {a1 : Int32} {a2 : Int32} {a3 : Int32} {h : Hp} {Q : Int32 → Hp → Prop} (w : wp_X11_ship a1 a2 a3 h Q) : Ct l lay1 yX11_ship cX11_ship 4 (some .int) (d + 2) 1 5 [vP (some (11, 0)), vI a1, vI a2, vI a3] h (fun r h2 => ∃ x, r = [vI x] ∧ Q x h2) := by
  exact Ct.of (by decide) (Nat.le_of_ble_eq_true rfl) fun E cx eq hl hY => s_X11_ship_0 cx hY eq (Nat.le_refl _) (Nat.le_refl _) w
def w_X11_tender_37 (Q : Int32 → Hp → Prop) (a1 : Int32) (a2 : Int32) (p3 : Option PtrT) (h : Hp) : Prop := Q ((-1 : Int32)) (h)
def w_X11_tender_60 (Q : Int32 → Hp → Prop) (a1 : Int32) (a2 : Int32) (p3 : Option PtrT) (s1 : Int32) (j2 : Nat) (h : Hp) : Prop := vp_in (s1) 6 ∧ (Q ((gI (wI (wP (h) 21 (0) (tN (s1)) (some (8, j2))) 11 (0) 3 ((gI (wP (h) 21 (0) (tN (s1)) (some (8, j2))) 11 (0) (3)) + ((1 : Int32)))) 11 (0) (3)) - ((1 : Int32))) (wI (wP (h) 21 (0) (tN (s1)) (some (8, j2))) 11 (0) 3 ((gI (wP (h) 21 (0) (tN (s1)) (some (8, j2))) 11 (0) (3)) + ((1 : Int32)))))
def w_X11_tender_50 (Q : Int32 → Hp → Prop) (a1 : Int32) (a2 : Int32) (p3 : Option PtrT) (s1 : Int32) (j2 : Nat) (h : Hp) : Prop := wp_X8_init (j2) (gI (h) 11 (0) (3)) (p3) (a2) (h) (fun h2 => w_X11_tender_60  Q (a1) (a2) (p3) (s1) (j2) (h2))
def w_X11_tender_39 (Q : Int32 → Hp → Prop) (a1 : Int32) (a2 : Int32) (p3 : Option PtrT) (h : Hp) : Prop := w_X11_tender_50  Q (a1) (a2) (p3) (gI (h) 11 (0) (3)) (gC (h) 8) (nw (h) 8)
def w_X11_tender_28 (Q : Int32 → Hp → Prop) (a1 : Int32) (a2 : Int32) (p3 : Option PtrT) (h : Hp) : Prop := ((gI (h) 11 (0) (3)) < ((6 : Int32)) → w_X11_tender_39  Q (a1) (a2) (p3) (h)) ∧ (¬ (gI (h) 11 (0) (3)) < ((6 : Int32)) → w_X11_tender_37  Q (a1) (a2) (p3) (h))
def w_X11_tender_25 (Q : Int32 → Hp → Prop) (a1 : Int32) (a2 : Int32) (p3 : Option PtrT) (s0 : Int32) (h : Hp) : Prop := ((s0) = 0 → w_X11_tender_37  Q (a1) (a2) (p3) (h)) ∧ (¬ (s0) = 0 → w_X11_tender_28  Q (a1) (a2) (p3) (h))
def w_X11_tender_17 (Q : Int32 → Hp → Prop) (a1 : Int32) (a2 : Int32) (p3 : Option PtrT) (h : Hp) : Prop := wp_X11_within (a2) ((1 : Int32)) ((200 : Int32)) (h) (fun r2 h2 => w_X11_tender_25  Q (a1) (a2) (p3) (r2) (h2))
def w_X11_tender_10 (Q : Int32 → Hp → Prop) (a1 : Int32) (a2 : Int32) (i3 : Nat) (h : Hp) : Prop := (¬ (gI (h) 6 (i3) (4)) = 0 → w_X11_tender_37  Q (a1) (a2) (some (6, i3)) (h)) ∧ ((gI (h) 6 (i3) (4)) = 0 → w_X11_tender_17  Q (a1) (a2) (some (6, i3)) (h))
def w_X11_tender_5 (Q : Int32 → Hp → Prop) (a1 : Int32) (a2 : Int32) (q0 : Option PtrT) (h : Hp) : Prop := ((q0) = none → w_X11_tender_37  Q (a1) (a2) (q0) (h)) ∧ (¬ (q0) = none → ∃ zl3, q0 = some (6, zl3) ∧ (w_X11_tender_10  Q (a1) (a2) zl3 (h)))
def w_X11_tender_0 (Q : Int32 → Hp → Prop) (a1 : Int32) (a2 : Int32) (h : Hp) : Prop := wp_X11_shipAt (a1) (h) (fun r2 h2 => w_X11_tender_5  Q (a1) (a2) (r2) (h2))
theorem s_X11_tender_37 {E : EnvT} {d : Nat} (cx : CX E "ShoreDay" cX11_tender 4 (some .int) "tender" (d + 3) 1 6) (hY : eY E = lay1) {Q : Int32 → Hp → Prop} (eq : EQ E 1 6 (fun r h2 => ∃ x, r = [vI x] ∧ Q x h2)) {a1 : Int32} {a2 : Int32} {p3 : Option PtrT} {h : Hp} {c n : Nat} (hc : c + 0 ≤ 1) (hn : n + 0 ≤ 6) (w : w_X11_tender_37  Q a1 a2 p3 h) : SW E 37 ([some (vP (some (11, 0))), some (vI (a1)), some (vI (a2)), some (vP (p3))], [], h, c, n) := by
  exact k_X11_tender_37 cx hY eq (by omega) (by omega) ⟨_, rfl, w⟩
theorem s_X11_tender_60 {E : EnvT} {d : Nat} (cx : CX E "ShoreDay" cX11_tender 4 (some .int) "tender" (d + 3) 1 6) (hY : eY E = lay1) {Q : Int32 → Hp → Prop} (eq : EQ E 1 6 (fun r h2 => ∃ x, r = [vI x] ∧ Q x h2)) {a1 : Int32} {a2 : Int32} {p3 : Option PtrT} {s1 : Int32} {j2 : Nat} {h : Hp} {c n : Nat} (hc : c + 0 ≤ 1) (hn : n + 0 ≤ 6) (w : w_X11_tender_60  Q a1 a2 p3 s1 j2 h) : SW E 60 ([some (vP (some (11, 0))), some (vI (a1)), some (vI (a2)), some (vP (p3))], [vP (some (8, j2)), vI (s1), vP (some (21, 0))], h, c, n) := by
  obtain ⟨G1, w⟩ := w
  exact k_X11_tender_60 cx hY G1 eq (by omega) (by omega) ⟨_, rfl, w⟩
theorem s_X11_tender_50 {E : EnvT} {d : Nat} (cx : CX E "ShoreDay" cX11_tender 4 (some .int) "tender" (d + 3) 1 6) (hY : eY E = lay1) {Q : Int32 → Hp → Prop} (eq : EQ E 1 6 (fun r h2 => ∃ x, r = [vI x] ∧ Q x h2)) {a1 : Int32} {a2 : Int32} {p3 : Option PtrT} {s1 : Int32} {j2 : Nat} {h : Hp} {c n : Nat} (hc : c + 0 ≤ 1) (hn : n + 0 ≤ 6) (w : w_X11_tender_50  Q a1 a2 p3 s1 j2 h) : SW E 50 ([some (vP (some (11, 0))), some (vI (a1)), some (vI (a2)), some (vP (p3))], [vP (some (8, j2)), vI (s1), vP (some (21, 0))], h, c, n) := by
  refine k_X11_tender_50 cx hY (ctY hY (vc_X8_init (d := d + 1) w)) (by omega) (by omega) (by omega) (fun r h2 hp => ?_)
  obtain ⟨rfl, w⟩ := hp
  exact s_X11_tender_60 cx hY eq  (by omega) (by omega) w
theorem s_X11_tender_39 {E : EnvT} {d : Nat} (cx : CX E "ShoreDay" cX11_tender 4 (some .int) "tender" (d + 3) 1 6) (hY : eY E = lay1) {Q : Int32 → Hp → Prop} (eq : EQ E 1 6 (fun r h2 => ∃ x, r = [vI x] ∧ Q x h2)) {a1 : Int32} {a2 : Int32} {p3 : Option PtrT} {h : Hp} {c n : Nat} (hc : c + 1 ≤ 1) (hn : n + 6 ≤ 6) (w : w_X11_tender_39  Q a1 a2 p3 h) : SW E 39 ([some (vP (some (11, 0))), some (vI (a1)), some (vI (a2)), some (vP (p3))], [], h, c, n) := by
  refine k_X11_tender_39 cx hY (by omega) (by omega) ?_
  exact s_X11_tender_50 cx hY eq  (by omega) (by omega) w
theorem s_X11_tender_28 {E : EnvT} {d : Nat} (cx : CX E "ShoreDay" cX11_tender 4 (some .int) "tender" (d + 3) 1 6) (hY : eY E = lay1) {Q : Int32 → Hp → Prop} (eq : EQ E 1 6 (fun r h2 => ∃ x, r = [vI x] ∧ Q x h2)) {a1 : Int32} {a2 : Int32} {p3 : Option PtrT} {h : Hp} {c n : Nat} (hc : c + 1 ≤ 1) (hn : n + 6 ≤ 6) (w : w_X11_tender_28  Q a1 a2 p3 h) : SW E 28 ([some (vP (some (11, 0))), some (vI (a1)), some (vI (a2)), some (vP (p3))], [], h, c, n) := by
  refine k_X11_tender_28 cx hY (fun q => ?_) (fun q => ?_)
  · have w := w.1 q
    exact s_X11_tender_39 cx hY eq  (by omega) (by omega) w
  · have w := w.2 q
    exact s_X11_tender_37 cx hY eq  (by omega) (by omega) w
theorem s_X11_tender_25 {E : EnvT} {d : Nat} (cx : CX E "ShoreDay" cX11_tender 4 (some .int) "tender" (d + 3) 1 6) (hY : eY E = lay1) {Q : Int32 → Hp → Prop} (eq : EQ E 1 6 (fun r h2 => ∃ x, r = [vI x] ∧ Q x h2)) {a1 : Int32} {a2 : Int32} {p3 : Option PtrT} {s0 : Int32} {h : Hp} {c n : Nat} (hc : c + 1 ≤ 1) (hn : n + 6 ≤ 6) (w : w_X11_tender_25  Q a1 a2 p3 s0 h) : SW E 25 ([some (vP (some (11, 0))), some (vI (a1)), some (vI (a2)), some (vP (p3))], [vI (s0)], h, c, n) := by
  refine k_X11_tender_25 cx hY (fun q => ?_) (fun q => ?_)
  · have w := w.1 q
    exact s_X11_tender_37 cx hY eq  (by omega) (by omega) w
  · have w := w.2 q
    exact s_X11_tender_28 cx hY eq  (by omega) (by omega) w
theorem s_X11_tender_17 {E : EnvT} {d : Nat} (cx : CX E "ShoreDay" cX11_tender 4 (some .int) "tender" (d + 3) 1 6) (hY : eY E = lay1) {Q : Int32 → Hp → Prop} (eq : EQ E 1 6 (fun r h2 => ∃ x, r = [vI x] ∧ Q x h2)) {a1 : Int32} {a2 : Int32} {p3 : Option PtrT} {h : Hp} {c n : Nat} (hc : c + 1 ≤ 1) (hn : n + 6 ≤ 6) (w : w_X11_tender_17  Q a1 a2 p3 h) : SW E 17 ([some (vP (some (11, 0))), some (vI (a1)), some (vI (a2)), some (vP (p3))], [], h, c, n) := by
  refine k_X11_tender_17 cx hY (ctY hY (vc_X11_within (d := d + 1) w)) (by omega) (by omega) (by omega) (fun r h2 hp => ?_)
  obtain ⟨r2, rfl, w⟩ := hp
  exact s_X11_tender_25 cx hY eq  (by omega) (by omega) w
theorem s_X11_tender_10 {E : EnvT} {d : Nat} (cx : CX E "ShoreDay" cX11_tender 4 (some .int) "tender" (d + 3) 1 6) (hY : eY E = lay1) {Q : Int32 → Hp → Prop} (eq : EQ E 1 6 (fun r h2 => ∃ x, r = [vI x] ∧ Q x h2)) {a1 : Int32} {a2 : Int32} {i3 : Nat} {h : Hp} {c n : Nat} (hc : c + 1 ≤ 1) (hn : n + 6 ≤ 6) (w : w_X11_tender_10  Q a1 a2 i3 h) : SW E 10 ([some (vP (some (11, 0))), some (vI (a1)), some (vI (a2)), some (vP (some (6, i3)))], [], h, c, n) := by
  refine k_X11_tender_10 cx hY (fun q => ?_) (fun q => ?_)
  · have w := w.1 q
    exact s_X11_tender_37 cx hY eq  (by omega) (by omega) w
  · have w := w.2 q
    exact s_X11_tender_17 cx hY eq  (by omega) (by omega) w
theorem s_X11_tender_5 {E : EnvT} {d : Nat} (cx : CX E "ShoreDay" cX11_tender 4 (some .int) "tender" (d + 3) 1 6) (hY : eY E = lay1) {Q : Int32 → Hp → Prop} (eq : EQ E 1 6 (fun r h2 => ∃ x, r = [vI x] ∧ Q x h2)) {a1 : Int32} {a2 : Int32} {x3 : Option AVal} {q0 : Option PtrT} {h : Hp} {c n : Nat} (hc : c + 1 ≤ 1) (hn : n + 6 ≤ 6) (w : w_X11_tender_5  Q a1 a2 q0 h) : SW E 5 ([some (vP (some (11, 0))), some (vI (a1)), some (vI (a2)), x3], [vP (q0)], h, c, n) := by
  refine k_X11_tender_5 cx hY (fun q => ?_) (fun q => ?_)
  · have w := w.1 q
    exact s_X11_tender_37 cx hY eq  (by omega) (by omega) w
  · have w := w.2 q
    obtain ⟨zl3, ezl3, w⟩ := w
    rw [ezl3]
    exact s_X11_tender_10 cx hY eq  (by omega) (by omega) w
theorem s_X11_tender_0 {E : EnvT} {d : Nat} (cx : CX E "ShoreDay" cX11_tender 4 (some .int) "tender" (d + 3) 1 6) (hY : eY E = lay1) {Q : Int32 → Hp → Prop} (eq : EQ E 1 6 (fun r h2 => ∃ x, r = [vI x] ∧ Q x h2)) {a1 : Int32} {a2 : Int32} {x3 : Option AVal} {h : Hp} {c n : Nat} (hc : c + 1 ≤ 1) (hn : n + 6 ≤ 6) (w : w_X11_tender_0  Q a1 a2 h) : SW E 0 ([some (vP (some (11, 0))), some (vI (a1)), some (vI (a2)), x3], [], h, c, n) := by
  refine k_X11_tender_0 cx hY (ctY hY (vc_X11_shipAt (d := d + 0) w)) (by omega) (by omega) (by omega) (fun r h2 hp => ?_)
  obtain ⟨r2, rfl, w⟩ := hp
  exact s_X11_tender_5 cx hY eq  (by omega) (by omega) w
def wp_X11_tender (a1 : Int32) (a2 : Int32) (h : Hp) (Q : Int32 → Hp → Prop) : Prop := w_X11_tender_0 Q a1 a2 h
theorem vc_X11_tender {l : Launch} {d : Nat} {a1 : Int32} {a2 : Int32} {h : Hp} {Q : Int32 → Hp → Prop} (w : wp_X11_tender a1 a2 h Q) : Ct l lay1 yX11_tender cX11_tender 4 (some .int) (d + 3) 1 6 [vP (some (11, 0)), vI a1, vI a2] h (fun r h2 => ∃ x, r = [vI x] ∧ Q x h2) := by
  exact Ct.of (by decide) (Nat.le_of_ble_eq_true rfl) fun E cx eq hl hY => s_X11_tender_0 cx hY eq (Nat.le_refl _) (Nat.le_refl _) w
def w_X11_tour_22 (Q : Int32 → Hp → Prop) (a1 : Int32) (a2 : Int32) (a3 : Int32) (a4 : Int32) (h : Hp) : Prop := Q ((-1 : Int32)) (h)
def w_X11_tour_46 (Q : Int32 → Hp → Prop) (a1 : Int32) (a2 : Int32) (a3 : Int32) (a4 : Int32) (h : Hp) : Prop := Q ((-1 : Int32)) (h)
def w_X11_tour_65 (Q : Int32 → Hp → Prop) (a1 : Int32) (a2 : Int32) (a3 : Int32) (a4 : Int32) (h : Hp) : Prop := Q ((-1 : Int32)) (h)
def w_X11_tour_87 (Q : Int32 → Hp → Prop) (a1 : Int32) (a2 : Int32) (a3 : Int32) (a4 : Int32) (s1 : Int32) (j2 : Nat) (h : Hp) : Prop := vp_in (s1) 8 ∧ (Q ((gI (wI (wP (h) 22 (0) (tN (s1)) (some (10, j2))) 11 (0) 5 ((gI (wP (h) 22 (0) (tN (s1)) (some (10, j2))) 11 (0) (5)) + ((1 : Int32)))) 11 (0) (5)) - ((1 : Int32))) (wI (wP (h) 22 (0) (tN (s1)) (some (10, j2))) 11 (0) 5 ((gI (wP (h) 22 (0) (tN (s1)) (some (10, j2))) 11 (0) (5)) + ((1 : Int32)))))
def w_X11_tour_78 (Q : Int32 → Hp → Prop) (a1 : Int32) (a2 : Int32) (a3 : Int32) (a4 : Int32) (s1 : Int32) (j2 : Nat) (h : Hp) : Prop := wp_X10_init (j2) (a1) (a2) (a3) (a4) (h) (fun h2 => w_X11_tour_87  Q (a1) (a2) (a3) (a4) (s1) (j2) (h2))
def w_X11_tour_67 (Q : Int32 → Hp → Prop) (a1 : Int32) (a2 : Int32) (a3 : Int32) (a4 : Int32) (h : Hp) : Prop := w_X11_tour_78  Q (a1) (a2) (a3) (a4) (gI (h) 11 (0) (5)) (gC (h) 10) (nw (h) 10)
def w_X11_tour_56 (Q : Int32 → Hp → Prop) (a1 : Int32) (a2 : Int32) (a3 : Int32) (a4 : Int32) (h : Hp) : Prop := ((gI (h) 11 (0) (5)) < ((8 : Int32)) → w_X11_tour_67  Q (a1) (a2) (a3) (a4) (h)) ∧ (¬ (gI (h) 11 (0) (5)) < ((8 : Int32)) → w_X11_tour_65  Q (a1) (a2) (a3) (a4) (h))
def w_X11_tour_48 (Q : Int32 → Hp → Prop) (a1 : Int32) (a2 : Int32) (a3 : Int32) (a4 : Int32) (h : Hp) : Prop := ((a1) ≤ (gI (h) 11 (0) (14)) → w_X11_tour_65  Q (a1) (a2) (a3) (a4) (h)) ∧ (¬ (a1) ≤ (gI (h) 11 (0) (14)) → w_X11_tour_56  Q (a1) (a2) (a3) (a4) (h))
def w_X11_tour_43 (Q : Int32 → Hp → Prop) (a1 : Int32) (a2 : Int32) (a3 : Int32) (a4 : Int32) (s0 : Int32) (h : Hp) : Prop := (¬ (s0) = 0 → w_X11_tour_48  Q (a1) (a2) (a3) (a4) (h)) ∧ ((s0) = 0 → w_X11_tour_46  Q (a1) (a2) (a3) (a4) (h))
def w_X11_tour_35 (Q : Int32 → Hp → Prop) (a1 : Int32) (a2 : Int32) (a3 : Int32) (a4 : Int32) (h : Hp) : Prop := wp_X11_within (a4) ((0 : Int32)) ((7 : Int32)) (h) (fun r2 h2 => w_X11_tour_43  Q (a1) (a2) (a3) (a4) (r2) (h2))
def w_X11_tour_32 (Q : Int32 → Hp → Prop) (a1 : Int32) (a2 : Int32) (a3 : Int32) (a4 : Int32) (s0 : Int32) (h : Hp) : Prop := ((s0) = 0 → w_X11_tour_46  Q (a1) (a2) (a3) (a4) (h)) ∧ (¬ (s0) = 0 → w_X11_tour_35  Q (a1) (a2) (a3) (a4) (h))
def w_X11_tour_24 (Q : Int32 → Hp → Prop) (a1 : Int32) (a2 : Int32) (a3 : Int32) (a4 : Int32) (h : Hp) : Prop := wp_X11_within (a3) ((1 : Int32)) ((200 : Int32)) (h) (fun r2 h2 => w_X11_tour_32  Q (a1) (a2) (a3) (a4) (r2) (h2))
def w_X11_tour_19 (Q : Int32 → Hp → Prop) (a1 : Int32) (a2 : Int32) (a3 : Int32) (a4 : Int32) (s0 : Int32) (h : Hp) : Prop := (¬ (s0) = 0 → w_X11_tour_24  Q (a1) (a2) (a3) (a4) (h)) ∧ ((s0) = 0 → w_X11_tour_22  Q (a1) (a2) (a3) (a4) (h))
def w_X11_tour_11 (Q : Int32 → Hp → Prop) (a1 : Int32) (a2 : Int32) (a3 : Int32) (a4 : Int32) (h : Hp) : Prop := wp_X11_within (a2) ((1 : Int32)) ((300 : Int32)) (h) (fun r2 h2 => w_X11_tour_19  Q (a1) (a2) (a3) (a4) (r2) (h2))
def w_X11_tour_8 (Q : Int32 → Hp → Prop) (a1 : Int32) (a2 : Int32) (a3 : Int32) (a4 : Int32) (s0 : Int32) (h : Hp) : Prop := ((s0) = 0 → w_X11_tour_22  Q (a1) (a2) (a3) (a4) (h)) ∧ (¬ (s0) = 0 → w_X11_tour_11  Q (a1) (a2) (a3) (a4) (h))
def w_X11_tour_0 (Q : Int32 → Hp → Prop) (a1 : Int32) (a2 : Int32) (a3 : Int32) (a4 : Int32) (h : Hp) : Prop := wp_X11_within (a1) ((1 : Int32)) ((719 : Int32)) (h) (fun r2 h2 => w_X11_tour_8  Q (a1) (a2) (a3) (a4) (r2) (h2))
theorem s_X11_tour_22 {E : EnvT} {d : Nat} (cx : CX E "ShoreDay" cX11_tour 5 (some .int) "tour" (d + 2) 1 5) (hY : eY E = lay1) {Q : Int32 → Hp → Prop} (eq : EQ E 1 5 (fun r h2 => ∃ x, r = [vI x] ∧ Q x h2)) {a1 : Int32} {a2 : Int32} {a3 : Int32} {a4 : Int32} {h : Hp} {c n : Nat} (hc : c + 0 ≤ 1) (hn : n + 0 ≤ 5) (w : w_X11_tour_22  Q a1 a2 a3 a4 h) : SW E 22 ([some (vP (some (11, 0))), some (vI (a1)), some (vI (a2)), some (vI (a3)), some (vI (a4))], [], h, c, n) := by
  exact k_X11_tour_22 cx hY eq (by omega) (by omega) ⟨_, rfl, w⟩
theorem s_X11_tour_46 {E : EnvT} {d : Nat} (cx : CX E "ShoreDay" cX11_tour 5 (some .int) "tour" (d + 2) 1 5) (hY : eY E = lay1) {Q : Int32 → Hp → Prop} (eq : EQ E 1 5 (fun r h2 => ∃ x, r = [vI x] ∧ Q x h2)) {a1 : Int32} {a2 : Int32} {a3 : Int32} {a4 : Int32} {h : Hp} {c n : Nat} (hc : c + 0 ≤ 1) (hn : n + 0 ≤ 5) (w : w_X11_tour_46  Q a1 a2 a3 a4 h) : SW E 46 ([some (vP (some (11, 0))), some (vI (a1)), some (vI (a2)), some (vI (a3)), some (vI (a4))], [], h, c, n) := by
  exact k_X11_tour_46 cx hY eq (by omega) (by omega) ⟨_, rfl, w⟩
theorem s_X11_tour_65 {E : EnvT} {d : Nat} (cx : CX E "ShoreDay" cX11_tour 5 (some .int) "tour" (d + 2) 1 5) (hY : eY E = lay1) {Q : Int32 → Hp → Prop} (eq : EQ E 1 5 (fun r h2 => ∃ x, r = [vI x] ∧ Q x h2)) {a1 : Int32} {a2 : Int32} {a3 : Int32} {a4 : Int32} {h : Hp} {c n : Nat} (hc : c + 0 ≤ 1) (hn : n + 0 ≤ 5) (w : w_X11_tour_65  Q a1 a2 a3 a4 h) : SW E 65 ([some (vP (some (11, 0))), some (vI (a1)), some (vI (a2)), some (vI (a3)), some (vI (a4))], [], h, c, n) := by
  exact k_X11_tour_65 cx hY eq (by omega) (by omega) ⟨_, rfl, w⟩
theorem s_X11_tour_87 {E : EnvT} {d : Nat} (cx : CX E "ShoreDay" cX11_tour 5 (some .int) "tour" (d + 2) 1 5) (hY : eY E = lay1) {Q : Int32 → Hp → Prop} (eq : EQ E 1 5 (fun r h2 => ∃ x, r = [vI x] ∧ Q x h2)) {a1 : Int32} {a2 : Int32} {a3 : Int32} {a4 : Int32} {s1 : Int32} {j2 : Nat} {h : Hp} {c n : Nat} (hc : c + 0 ≤ 1) (hn : n + 0 ≤ 5) (w : w_X11_tour_87  Q a1 a2 a3 a4 s1 j2 h) : SW E 87 ([some (vP (some (11, 0))), some (vI (a1)), some (vI (a2)), some (vI (a3)), some (vI (a4))], [vP (some (10, j2)), vI (s1), vP (some (22, 0))], h, c, n) := by
  obtain ⟨G1, w⟩ := w
  exact k_X11_tour_87 cx hY G1 eq (by omega) (by omega) ⟨_, rfl, w⟩
theorem s_X11_tour_78 {E : EnvT} {d : Nat} (cx : CX E "ShoreDay" cX11_tour 5 (some .int) "tour" (d + 2) 1 5) (hY : eY E = lay1) {Q : Int32 → Hp → Prop} (eq : EQ E 1 5 (fun r h2 => ∃ x, r = [vI x] ∧ Q x h2)) {a1 : Int32} {a2 : Int32} {a3 : Int32} {a4 : Int32} {s1 : Int32} {j2 : Nat} {h : Hp} {c n : Nat} (hc : c + 0 ≤ 1) (hn : n + 0 ≤ 5) (w : w_X11_tour_78  Q a1 a2 a3 a4 s1 j2 h) : SW E 78 ([some (vP (some (11, 0))), some (vI (a1)), some (vI (a2)), some (vI (a3)), some (vI (a4))], [vP (some (10, j2)), vI (s1), vP (some (22, 0))], h, c, n) := by
  refine k_X11_tour_78 cx hY (ctY hY (vc_X10_init (d := d + 0) w)) (by omega) (by omega) (by omega) (fun r h2 hp => ?_)
  obtain ⟨rfl, w⟩ := hp
  exact s_X11_tour_87 cx hY eq  (by omega) (by omega) w
theorem s_X11_tour_67 {E : EnvT} {d : Nat} (cx : CX E "ShoreDay" cX11_tour 5 (some .int) "tour" (d + 2) 1 5) (hY : eY E = lay1) {Q : Int32 → Hp → Prop} (eq : EQ E 1 5 (fun r h2 => ∃ x, r = [vI x] ∧ Q x h2)) {a1 : Int32} {a2 : Int32} {a3 : Int32} {a4 : Int32} {h : Hp} {c n : Nat} (hc : c + 1 ≤ 1) (hn : n + 5 ≤ 5) (w : w_X11_tour_67  Q a1 a2 a3 a4 h) : SW E 67 ([some (vP (some (11, 0))), some (vI (a1)), some (vI (a2)), some (vI (a3)), some (vI (a4))], [], h, c, n) := by
  refine k_X11_tour_67 cx hY (by omega) (by omega) ?_
  exact s_X11_tour_78 cx hY eq  (by omega) (by omega) w
theorem s_X11_tour_56 {E : EnvT} {d : Nat} (cx : CX E "ShoreDay" cX11_tour 5 (some .int) "tour" (d + 2) 1 5) (hY : eY E = lay1) {Q : Int32 → Hp → Prop} (eq : EQ E 1 5 (fun r h2 => ∃ x, r = [vI x] ∧ Q x h2)) {a1 : Int32} {a2 : Int32} {a3 : Int32} {a4 : Int32} {h : Hp} {c n : Nat} (hc : c + 1 ≤ 1) (hn : n + 5 ≤ 5) (w : w_X11_tour_56  Q a1 a2 a3 a4 h) : SW E 56 ([some (vP (some (11, 0))), some (vI (a1)), some (vI (a2)), some (vI (a3)), some (vI (a4))], [], h, c, n) := by
  refine k_X11_tour_56 cx hY (fun q => ?_) (fun q => ?_)
  · have w := w.1 q
    exact s_X11_tour_67 cx hY eq  (by omega) (by omega) w
  · have w := w.2 q
    exact s_X11_tour_65 cx hY eq  (by omega) (by omega) w
theorem s_X11_tour_48 {E : EnvT} {d : Nat} (cx : CX E "ShoreDay" cX11_tour 5 (some .int) "tour" (d + 2) 1 5) (hY : eY E = lay1) {Q : Int32 → Hp → Prop} (eq : EQ E 1 5 (fun r h2 => ∃ x, r = [vI x] ∧ Q x h2)) {a1 : Int32} {a2 : Int32} {a3 : Int32} {a4 : Int32} {h : Hp} {c n : Nat} (hc : c + 1 ≤ 1) (hn : n + 5 ≤ 5) (w : w_X11_tour_48  Q a1 a2 a3 a4 h) : SW E 48 ([some (vP (some (11, 0))), some (vI (a1)), some (vI (a2)), some (vI (a3)), some (vI (a4))], [], h, c, n) := by
  refine k_X11_tour_48 cx hY (fun q => ?_) (fun q => ?_)
  · have w := w.1 q
    exact s_X11_tour_65 cx hY eq  (by omega) (by omega) w
  · have w := w.2 q
    exact s_X11_tour_56 cx hY eq  (by omega) (by omega) w
theorem s_X11_tour_43 {E : EnvT} {d : Nat} (cx : CX E "ShoreDay" cX11_tour 5 (some .int) "tour" (d + 2) 1 5) (hY : eY E = lay1) {Q : Int32 → Hp → Prop} (eq : EQ E 1 5 (fun r h2 => ∃ x, r = [vI x] ∧ Q x h2)) {a1 : Int32} {a2 : Int32} {a3 : Int32} {a4 : Int32} {s0 : Int32} {h : Hp} {c n : Nat} (hc : c + 1 ≤ 1) (hn : n + 5 ≤ 5) (w : w_X11_tour_43  Q a1 a2 a3 a4 s0 h) : SW E 43 ([some (vP (some (11, 0))), some (vI (a1)), some (vI (a2)), some (vI (a3)), some (vI (a4))], [vI (s0)], h, c, n) := by
  refine k_X11_tour_43 cx hY (fun q => ?_) (fun q => ?_)
  · have w := w.1 q
    exact s_X11_tour_48 cx hY eq  (by omega) (by omega) w
  · have w := w.2 q
    exact s_X11_tour_46 cx hY eq  (by omega) (by omega) w
theorem s_X11_tour_35 {E : EnvT} {d : Nat} (cx : CX E "ShoreDay" cX11_tour 5 (some .int) "tour" (d + 2) 1 5) (hY : eY E = lay1) {Q : Int32 → Hp → Prop} (eq : EQ E 1 5 (fun r h2 => ∃ x, r = [vI x] ∧ Q x h2)) {a1 : Int32} {a2 : Int32} {a3 : Int32} {a4 : Int32} {h : Hp} {c n : Nat} (hc : c + 1 ≤ 1) (hn : n + 5 ≤ 5) (w : w_X11_tour_35  Q a1 a2 a3 a4 h) : SW E 35 ([some (vP (some (11, 0))), some (vI (a1)), some (vI (a2)), some (vI (a3)), some (vI (a4))], [], h, c, n) := by
  refine k_X11_tour_35 cx hY (ctY hY (vc_X11_within (d := d + 0) w)) (by omega) (by omega) (by omega) (fun r h2 hp => ?_)
  obtain ⟨r2, rfl, w⟩ := hp
  exact s_X11_tour_43 cx hY eq  (by omega) (by omega) w
theorem s_X11_tour_32 {E : EnvT} {d : Nat} (cx : CX E "ShoreDay" cX11_tour 5 (some .int) "tour" (d + 2) 1 5) (hY : eY E = lay1) {Q : Int32 → Hp → Prop} (eq : EQ E 1 5 (fun r h2 => ∃ x, r = [vI x] ∧ Q x h2)) {a1 : Int32} {a2 : Int32} {a3 : Int32} {a4 : Int32} {s0 : Int32} {h : Hp} {c n : Nat} (hc : c + 1 ≤ 1) (hn : n + 5 ≤ 5) (w : w_X11_tour_32  Q a1 a2 a3 a4 s0 h) : SW E 32 ([some (vP (some (11, 0))), some (vI (a1)), some (vI (a2)), some (vI (a3)), some (vI (a4))], [vI (s0)], h, c, n) := by
  refine k_X11_tour_32 cx hY (fun q => ?_) (fun q => ?_)
  · have w := w.1 q
    exact s_X11_tour_46 cx hY eq  (by omega) (by omega) w
  · have w := w.2 q
    exact s_X11_tour_35 cx hY eq  (by omega) (by omega) w
theorem s_X11_tour_24 {E : EnvT} {d : Nat} (cx : CX E "ShoreDay" cX11_tour 5 (some .int) "tour" (d + 2) 1 5) (hY : eY E = lay1) {Q : Int32 → Hp → Prop} (eq : EQ E 1 5 (fun r h2 => ∃ x, r = [vI x] ∧ Q x h2)) {a1 : Int32} {a2 : Int32} {a3 : Int32} {a4 : Int32} {h : Hp} {c n : Nat} (hc : c + 1 ≤ 1) (hn : n + 5 ≤ 5) (w : w_X11_tour_24  Q a1 a2 a3 a4 h) : SW E 24 ([some (vP (some (11, 0))), some (vI (a1)), some (vI (a2)), some (vI (a3)), some (vI (a4))], [], h, c, n) := by
  refine k_X11_tour_24 cx hY (ctY hY (vc_X11_within (d := d + 0) w)) (by omega) (by omega) (by omega) (fun r h2 hp => ?_)
  obtain ⟨r2, rfl, w⟩ := hp
  exact s_X11_tour_32 cx hY eq  (by omega) (by omega) w
theorem s_X11_tour_19 {E : EnvT} {d : Nat} (cx : CX E "ShoreDay" cX11_tour 5 (some .int) "tour" (d + 2) 1 5) (hY : eY E = lay1) {Q : Int32 → Hp → Prop} (eq : EQ E 1 5 (fun r h2 => ∃ x, r = [vI x] ∧ Q x h2)) {a1 : Int32} {a2 : Int32} {a3 : Int32} {a4 : Int32} {s0 : Int32} {h : Hp} {c n : Nat} (hc : c + 1 ≤ 1) (hn : n + 5 ≤ 5) (w : w_X11_tour_19  Q a1 a2 a3 a4 s0 h) : SW E 19 ([some (vP (some (11, 0))), some (vI (a1)), some (vI (a2)), some (vI (a3)), some (vI (a4))], [vI (s0)], h, c, n) := by
  refine k_X11_tour_19 cx hY (fun q => ?_) (fun q => ?_)
  · have w := w.1 q
    exact s_X11_tour_24 cx hY eq  (by omega) (by omega) w
  · have w := w.2 q
    exact s_X11_tour_22 cx hY eq  (by omega) (by omega) w
theorem s_X11_tour_11 {E : EnvT} {d : Nat} (cx : CX E "ShoreDay" cX11_tour 5 (some .int) "tour" (d + 2) 1 5) (hY : eY E = lay1) {Q : Int32 → Hp → Prop} (eq : EQ E 1 5 (fun r h2 => ∃ x, r = [vI x] ∧ Q x h2)) {a1 : Int32} {a2 : Int32} {a3 : Int32} {a4 : Int32} {h : Hp} {c n : Nat} (hc : c + 1 ≤ 1) (hn : n + 5 ≤ 5) (w : w_X11_tour_11  Q a1 a2 a3 a4 h) : SW E 11 ([some (vP (some (11, 0))), some (vI (a1)), some (vI (a2)), some (vI (a3)), some (vI (a4))], [], h, c, n) := by
  refine k_X11_tour_11 cx hY (ctY hY (vc_X11_within (d := d + 0) w)) (by omega) (by omega) (by omega) (fun r h2 hp => ?_)
  obtain ⟨r2, rfl, w⟩ := hp
  exact s_X11_tour_19 cx hY eq  (by omega) (by omega) w
theorem s_X11_tour_8 {E : EnvT} {d : Nat} (cx : CX E "ShoreDay" cX11_tour 5 (some .int) "tour" (d + 2) 1 5) (hY : eY E = lay1) {Q : Int32 → Hp → Prop} (eq : EQ E 1 5 (fun r h2 => ∃ x, r = [vI x] ∧ Q x h2)) {a1 : Int32} {a2 : Int32} {a3 : Int32} {a4 : Int32} {s0 : Int32} {h : Hp} {c n : Nat} (hc : c + 1 ≤ 1) (hn : n + 5 ≤ 5) (w : w_X11_tour_8  Q a1 a2 a3 a4 s0 h) : SW E 8 ([some (vP (some (11, 0))), some (vI (a1)), some (vI (a2)), some (vI (a3)), some (vI (a4))], [vI (s0)], h, c, n) := by
  refine k_X11_tour_8 cx hY (fun q => ?_) (fun q => ?_)
  · have w := w.1 q
    exact s_X11_tour_22 cx hY eq  (by omega) (by omega) w
  · have w := w.2 q
    exact s_X11_tour_11 cx hY eq  (by omega) (by omega) w
theorem s_X11_tour_0 {E : EnvT} {d : Nat} (cx : CX E "ShoreDay" cX11_tour 5 (some .int) "tour" (d + 2) 1 5) (hY : eY E = lay1) {Q : Int32 → Hp → Prop} (eq : EQ E 1 5 (fun r h2 => ∃ x, r = [vI x] ∧ Q x h2)) {a1 : Int32} {a2 : Int32} {a3 : Int32} {a4 : Int32} {h : Hp} {c n : Nat} (hc : c + 1 ≤ 1) (hn : n + 5 ≤ 5) (w : w_X11_tour_0  Q a1 a2 a3 a4 h) : SW E 0 ([some (vP (some (11, 0))), some (vI (a1)), some (vI (a2)), some (vI (a3)), some (vI (a4))], [], h, c, n) := by
  refine k_X11_tour_0 cx hY (ctY hY (vc_X11_within (d := d + 0) w)) (by omega) (by omega) (by omega) (fun r h2 hp => ?_)
  obtain ⟨r2, rfl, w⟩ := hp
  exact s_X11_tour_8 cx hY eq  (by omega) (by omega) w
def wp_X11_tour (a1 : Int32) (a2 : Int32) (a3 : Int32) (a4 : Int32) (h : Hp) (Q : Int32 → Hp → Prop) : Prop := w_X11_tour_0 Q a1 a2 a3 a4 h
theorem vc_X11_tour {l : Launch} {d : Nat} {a1 : Int32} {a2 : Int32} {a3 : Int32} {a4 : Int32} {h : Hp} {Q : Int32 → Hp → Prop} (w : wp_X11_tour a1 a2 a3 a4 h Q) : Ct l lay1 yX11_tour cX11_tour 5 (some .int) (d + 2) 1 5 [vP (some (11, 0)), vI a1, vI a2, vI a3, vI a4] h (fun r h2 => ∃ x, r = [vI x] ∧ Q x h2) := by
  exact Ct.of (by decide) (Nat.le_of_ble_eq_true rfl) fun E cx eq hl hY => s_X11_tour_0 cx hY eq (Nat.le_refl _) (Nat.le_refl _) w
def w_X11_group_37 (Q : Int32 → Hp → Prop) (a1 : Int32) (a2 : Int32) (a3 : Int32) (a4 : Int32) (a5 : Int32) (a6 : Int32) (p7 : Option PtrT) (p8 : Option PtrT) (h : Hp) : Prop := Q ((-1 : Int32)) (h)
def w_X11_group_72 (Q : Int32 → Hp → Prop) (a1 : Int32) (a2 : Int32) (a3 : Int32) (a4 : Int32) (a5 : Int32) (a6 : Int32) (p7 : Option PtrT) (p8 : Option PtrT) (h : Hp) : Prop := Q ((-1 : Int32)) (h)
def w_X11_group_138 (Q : Int32 → Hp → Prop) (a1 : Int32) (a2 : Int32) (a3 : Int32) (a4 : Int32) (a5 : Int32) (a6 : Int32) (p7 : Option PtrT) (p8 : Option PtrT) (p9 : Option PtrT) (h : Hp) : Prop := Q ((gI (wI (h) 11 (0) 8 ((gI (h) 11 (0) (8)) + ((1 : Int32)))) 11 (0) (8)) - ((1 : Int32))) (wI (h) 11 (0) 8 ((gI (h) 11 (0) (8)) + ((1 : Int32))))
def w_X11_group_119 (Q : Int32 → Hp → Prop) (a1 : Int32) (a2 : Int32) (a3 : Int32) (a4 : Int32) (a5 : Int32) (a6 : Int32) (p7 : Option PtrT) (p8 : Option PtrT) (j0 : Nat) (h : Hp) : Prop := vp_in (gI (h) 11 (0) (8)) 60 ∧ (wp_X11_putByTicket (some (2, j0)) (wP (h) 23 (0) (tN (gI (h) 11 (0) (8))) (some (2, j0))) (fun h2 => w_X11_group_138  Q (a1) (a2) (a3) (a4) (a5) (a6) (p7) (p8) (some (2, j0)) (h2)))
def w_X11_group_105 (Q : Int32 → Hp → Prop) (a1 : Int32) (a2 : Int32) (a3 : Int32) (a4 : Int32) (a5 : Int32) (a6 : Int32) (p7 : Option PtrT) (p8 : Option PtrT) (j0 : Nat) (h : Hp) : Prop := wp_X2_init (j0) (p7) (a2) (a3) (a4) (p8) (a6) (h) (fun h2 => w_X11_group_119  Q (a1) (a2) (a3) (a4) (a5) (a6) (p7) (p8) (j0) (h2))
def w_X11_group_102 (Q : Int32 → Hp → Prop) (a1 : Int32) (a2 : Int32) (a3 : Int32) (a4 : Int32) (a5 : Int32) (a6 : Int32) (p7 : Option PtrT) (p8 : Option PtrT) (h : Hp) : Prop := w_X11_group_105  Q (a1) (a2) (a3) (a4) (a5) (a6) (p7) (p8) (gC (h) 2) (nw (h) 2)
def w_X11_group_100 (Q : Int32 → Hp → Prop) (a1 : Int32) (a2 : Int32) (a3 : Int32) (a4 : Int32) (a5 : Int32) (a6 : Int32) (p7 : Option PtrT) (p8 : Option PtrT) (h : Hp) : Prop := Q ((-1 : Int32)) (h)
def w_X11_group_95 (Q : Int32 → Hp → Prop) (a1 : Int32) (a2 : Int32) (a3 : Int32) (a4 : Int32) (a5 : Int32) (a6 : Int32) (p7 : Option PtrT) (p8 : Option PtrT) (h : Hp) : Prop := (¬ (p8) = none → w_X11_group_102  Q (a1) (a2) (a3) (a4) (a5) (a6) (p7) (p8) (h)) ∧ ((p8) = none → w_X11_group_100  Q (a1) (a2) (a3) (a4) (a5) (a6) (p7) (p8) (h))
def w_X11_group_92 (Q : Int32 → Hp → Prop) (a1 : Int32) (a2 : Int32) (a3 : Int32) (a4 : Int32) (a5 : Int32) (a6 : Int32) (p7 : Option PtrT) (p8 : Option PtrT) (h : Hp) : Prop := w_X11_group_100  Q (a1) (a2) (a3) (a4) (a5) (a6) (p7) (p8) (h)
def w_X11_group_89 (Q : Int32 → Hp → Prop) (a1 : Int32) (a2 : Int32) (a3 : Int32) (a4 : Int32) (a5 : Int32) (a6 : Int32) (p7 : Option PtrT) (p8 : Option PtrT) (s0 : Int32) (h : Hp) : Prop := (¬ (s0) = 0 → w_X11_group_102  Q (a1) (a2) (a3) (a4) (a5) (a6) (p7) (p8) (h)) ∧ ((s0) = 0 → w_X11_group_92  Q (a1) (a2) (a3) (a4) (a5) (a6) (p7) (p8) (h))
def w_X11_group_80 (Q : Int32 → Hp → Prop) (a1 : Int32) (a2 : Int32) (a3 : Int32) (a4 : Int32) (a5 : Int32) (a6 : Int32) (p7 : Option PtrT) (p8 : Option PtrT) (h : Hp) : Prop := wp_X11_within (a6) ((1 : Int32)) ((600 : Int32)) (h) (fun r2 h2 => w_X11_group_89  Q (a1) (a2) (a3) (a4) (a5) (a6) (p7) (p8) (r2) (h2))
def w_X11_group_74 (Q : Int32 → Hp → Prop) (a1 : Int32) (a2 : Int32) (a3 : Int32) (a4 : Int32) (a5 : Int32) (a6 : Int32) (p7 : Option PtrT) (p8 : Option PtrT) (h : Hp) : Prop := (¬ (a5) = ((-1 : Int32)) → w_X11_group_95  Q (a1) (a2) (a3) (a4) (a5) (a6) (p7) (p8) (h)) ∧ ((a5) = ((-1 : Int32)) → w_X11_group_80  Q (a1) (a2) (a3) (a4) (a5) (a6) (p7) (p8) (h))
def w_X11_group_69 (Q : Int32 → Hp → Prop) (a1 : Int32) (a2 : Int32) (a3 : Int32) (a4 : Int32) (a5 : Int32) (a6 : Int32) (p7 : Option PtrT) (p8 : Option PtrT) (s0 : Int32) (h : Hp) : Prop := (¬ (s0) = 0 → w_X11_group_74  Q (a1) (a2) (a3) (a4) (a5) (a6) (p7) (p8) (h)) ∧ ((s0) = 0 → w_X11_group_72  Q (a1) (a2) (a3) (a4) (a5) (a6) (p7) (p8) (h))
def w_X11_group_60 (Q : Int32 → Hp → Prop) (a1 : Int32) (a2 : Int32) (a3 : Int32) (a4 : Int32) (a5 : Int32) (a6 : Int32) (p7 : Option PtrT) (p8 : Option PtrT) (h : Hp) : Prop := wp_X11_within (a4) ((0 : Int32)) ((719 : Int32)) (h) (fun r2 h2 => w_X11_group_69  Q (a1) (a2) (a3) (a4) (a5) (a6) (p7) (p8) (r2) (h2))
def w_X11_group_57 (Q : Int32 → Hp → Prop) (a1 : Int32) (a2 : Int32) (a3 : Int32) (a4 : Int32) (a5 : Int32) (a6 : Int32) (p7 : Option PtrT) (p8 : Option PtrT) (s0 : Int32) (h : Hp) : Prop := ((s0) = 0 → w_X11_group_72  Q (a1) (a2) (a3) (a4) (a5) (a6) (p7) (p8) (h)) ∧ (¬ (s0) = 0 → w_X11_group_60  Q (a1) (a2) (a3) (a4) (a5) (a6) (p7) (p8) (h))
def w_X11_group_49 (Q : Int32 → Hp → Prop) (a1 : Int32) (a2 : Int32) (a3 : Int32) (a4 : Int32) (a5 : Int32) (a6 : Int32) (p7 : Option PtrT) (p8 : Option PtrT) (h : Hp) : Prop := wp_X11_within (a3) ((0 : Int32)) ((999 : Int32)) (h) (fun r2 h2 => w_X11_group_57  Q (a1) (a2) (a3) (a4) (a5) (a6) (p7) (p8) (r2) (h2))
def w_X11_group_46 (Q : Int32 → Hp → Prop) (a1 : Int32) (a2 : Int32) (a3 : Int32) (a4 : Int32) (a5 : Int32) (a6 : Int32) (p7 : Option PtrT) (p8 : Option PtrT) (s0 : Int32) (h : Hp) : Prop := ((s0) = 0 → w_X11_group_72  Q (a1) (a2) (a3) (a4) (a5) (a6) (p7) (p8) (h)) ∧ (¬ (s0) = 0 → w_X11_group_49  Q (a1) (a2) (a3) (a4) (a5) (a6) (p7) (p8) (h))
def w_X11_group_39 (Q : Int32 → Hp → Prop) (a1 : Int32) (a2 : Int32) (a3 : Int32) (a4 : Int32) (a5 : Int32) (a6 : Int32) (p7 : Option PtrT) (p8 : Option PtrT) (h : Hp) : Prop := wp_X11_within (a2) ((1 : Int32)) ((60 : Int32)) (h) (fun r2 h2 => w_X11_group_46  Q (a1) (a2) (a3) (a4) (a5) (a6) (p7) (p8) (r2) (h2))
def w_X11_group_28 (Q : Int32 → Hp → Prop) (a1 : Int32) (a2 : Int32) (a3 : Int32) (a4 : Int32) (a5 : Int32) (a6 : Int32) (p7 : Option PtrT) (p8 : Option PtrT) (h : Hp) : Prop := ((gI (h) 11 (0) (8)) < ((60 : Int32)) → w_X11_group_39  Q (a1) (a2) (a3) (a4) (a5) (a6) (p7) (p8) (h)) ∧ (¬ (gI (h) 11 (0) (8)) < ((60 : Int32)) → w_X11_group_37  Q (a1) (a2) (a3) (a4) (a5) (a6) (p7) (p8) (h))
def w_X11_group_20 (Q : Int32 → Hp → Prop) (a1 : Int32) (a2 : Int32) (a3 : Int32) (a4 : Int32) (a5 : Int32) (a6 : Int32) (i7 : Nat) (p8 : Option PtrT) (h : Hp) : Prop := (¬ (gI (h) 6 (i7) (4)) = 0 → w_X11_group_37  Q (a1) (a2) (a3) (a4) (a5) (a6) (some (6, i7)) (p8) (h)) ∧ ((gI (h) 6 (i7) (4)) = 0 → w_X11_group_28  Q (a1) (a2) (a3) (a4) (a5) (a6) (some (6, i7)) (p8) (h))
def w_X11_group_13 (Q : Int32 → Hp → Prop) (a1 : Int32) (a2 : Int32) (a3 : Int32) (a4 : Int32) (a5 : Int32) (a6 : Int32) (p7 : Option PtrT) (q0 : Option PtrT) (h : Hp) : Prop := ((p7) = none → w_X11_group_37  Q (a1) (a2) (a3) (a4) (a5) (a6) (p7) (q0) (h)) ∧ (¬ (p7) = none → ∃ zl7, p7 = some (6, zl7) ∧ (w_X11_group_20  Q (a1) (a2) (a3) (a4) (a5) (a6) zl7 (q0) (h)))
def w_X11_group_5 (Q : Int32 → Hp → Prop) (a1 : Int32) (a2 : Int32) (a3 : Int32) (a4 : Int32) (a5 : Int32) (a6 : Int32) (q0 : Option PtrT) (h : Hp) : Prop := wp_X11_tourAt (a5) (h) (fun r2 h2 => w_X11_group_13  Q (a1) (a2) (a3) (a4) (a5) (a6) (q0) (r2) (h2))
def w_X11_group_0 (Q : Int32 → Hp → Prop) (a1 : Int32) (a2 : Int32) (a3 : Int32) (a4 : Int32) (a5 : Int32) (a6 : Int32) (h : Hp) : Prop := wp_X11_shipAt (a1) (h) (fun r2 h2 => w_X11_group_5  Q (a1) (a2) (a3) (a4) (a5) (a6) (r2) (h2))
theorem s_X11_group_37 {E : EnvT} {d : Nat} (cx : CX E "ShoreDay" cX11_group 10 (some .int) "group" (d + 3) 1 14) (hY : eY E = lay1) {Q : Int32 → Hp → Prop} (eq : EQ E 1 14 (fun r h2 => ∃ x, r = [vI x] ∧ Q x h2)) {a1 : Int32} {a2 : Int32} {a3 : Int32} {a4 : Int32} {a5 : Int32} {a6 : Int32} {p7 : Option PtrT} {p8 : Option PtrT} {x9 : Option AVal} {h : Hp} {c n : Nat} (hc : c + 0 ≤ 1) (hn : n + 0 ≤ 14) (w : w_X11_group_37  Q a1 a2 a3 a4 a5 a6 p7 p8 h) : SW E 37 ([some (vP (some (11, 0))), some (vI (a1)), some (vI (a2)), some (vI (a3)), some (vI (a4)), some (vI (a5)), some (vI (a6)), some (vP (p7)), some (vP (p8)), x9], [], h, c, n) := by
  exact k_X11_group_37 cx hY eq (by omega) (by omega) ⟨_, rfl, w⟩
theorem s_X11_group_72 {E : EnvT} {d : Nat} (cx : CX E "ShoreDay" cX11_group 10 (some .int) "group" (d + 3) 1 14) (hY : eY E = lay1) {Q : Int32 → Hp → Prop} (eq : EQ E 1 14 (fun r h2 => ∃ x, r = [vI x] ∧ Q x h2)) {a1 : Int32} {a2 : Int32} {a3 : Int32} {a4 : Int32} {a5 : Int32} {a6 : Int32} {p7 : Option PtrT} {p8 : Option PtrT} {x9 : Option AVal} {h : Hp} {c n : Nat} (hc : c + 0 ≤ 1) (hn : n + 0 ≤ 14) (w : w_X11_group_72  Q a1 a2 a3 a4 a5 a6 p7 p8 h) : SW E 72 ([some (vP (some (11, 0))), some (vI (a1)), some (vI (a2)), some (vI (a3)), some (vI (a4)), some (vI (a5)), some (vI (a6)), some (vP (p7)), some (vP (p8)), x9], [], h, c, n) := by
  exact k_X11_group_72 cx hY eq (by omega) (by omega) ⟨_, rfl, w⟩
theorem s_X11_group_138 {E : EnvT} {d : Nat} (cx : CX E "ShoreDay" cX11_group 10 (some .int) "group" (d + 3) 1 14) (hY : eY E = lay1) {Q : Int32 → Hp → Prop} (eq : EQ E 1 14 (fun r h2 => ∃ x, r = [vI x] ∧ Q x h2)) {a1 : Int32} {a2 : Int32} {a3 : Int32} {a4 : Int32} {a5 : Int32} {a6 : Int32} {p7 : Option PtrT} {p8 : Option PtrT} {p9 : Option PtrT} {h : Hp} {c n : Nat} (hc : c + 0 ≤ 1) (hn : n + 0 ≤ 14) (w : w_X11_group_138  Q a1 a2 a3 a4 a5 a6 p7 p8 p9 h) : SW E 138 ([some (vP (some (11, 0))), some (vI (a1)), some (vI (a2)), some (vI (a3)), some (vI (a4)), some (vI (a5)), some (vI (a6)), some (vP (p7)), some (vP (p8)), some (vP (p9))], [], h, c, n) := by
  exact k_X11_group_138 cx hY eq (by omega) (by omega) ⟨_, rfl, w⟩
theorem s_X11_group_119 {E : EnvT} {d : Nat} (cx : CX E "ShoreDay" cX11_group 10 (some .int) "group" (d + 3) 1 14) (hY : eY E = lay1) {Q : Int32 → Hp → Prop} (eq : EQ E 1 14 (fun r h2 => ∃ x, r = [vI x] ∧ Q x h2)) {a1 : Int32} {a2 : Int32} {a3 : Int32} {a4 : Int32} {a5 : Int32} {a6 : Int32} {p7 : Option PtrT} {p8 : Option PtrT} {x9 : Option AVal} {j0 : Nat} {h : Hp} {c n : Nat} (hc : c + 0 ≤ 1) (hn : n + 0 ≤ 14) (w : w_X11_group_119  Q a1 a2 a3 a4 a5 a6 p7 p8 j0 h) : SW E 119 ([some (vP (some (11, 0))), some (vI (a1)), some (vI (a2)), some (vI (a3)), some (vI (a4)), some (vI (a5)), some (vI (a6)), some (vP (p7)), some (vP (p8)), x9], [vP (some (2, j0))], h, c, n) := by
  obtain ⟨G1, w⟩ := w
  refine k_X11_group_119 cx hY G1 (ctY hY (vc_X11_putByTicket (d := d + 1) w)) (by omega) (by omega) (by omega) (fun r h2 hp => ?_)
  obtain ⟨rfl, w⟩ := hp
  exact s_X11_group_138 cx hY eq  (by omega) (by omega) w
theorem s_X11_group_105 {E : EnvT} {d : Nat} (cx : CX E "ShoreDay" cX11_group 10 (some .int) "group" (d + 3) 1 14) (hY : eY E = lay1) {Q : Int32 → Hp → Prop} (eq : EQ E 1 14 (fun r h2 => ∃ x, r = [vI x] ∧ Q x h2)) {a1 : Int32} {a2 : Int32} {a3 : Int32} {a4 : Int32} {a5 : Int32} {a6 : Int32} {p7 : Option PtrT} {p8 : Option PtrT} {x9 : Option AVal} {j0 : Nat} {h : Hp} {c n : Nat} (hc : c + 0 ≤ 1) (hn : n + 0 ≤ 14) (w : w_X11_group_105  Q a1 a2 a3 a4 a5 a6 p7 p8 j0 h) : SW E 105 ([some (vP (some (11, 0))), some (vI (a1)), some (vI (a2)), some (vI (a3)), some (vI (a4)), some (vI (a5)), some (vI (a6)), some (vP (p7)), some (vP (p8)), x9], [vP (some (2, j0))], h, c, n) := by
  refine k_X11_group_105 cx hY (ctY hY (vc_X2_init (d := d + 1) w)) (by omega) (by omega) (by omega) (fun r h2 hp => ?_)
  obtain ⟨rfl, w⟩ := hp
  exact s_X11_group_119 cx hY eq  (by omega) (by omega) w
theorem s_X11_group_102 {E : EnvT} {d : Nat} (cx : CX E "ShoreDay" cX11_group 10 (some .int) "group" (d + 3) 1 14) (hY : eY E = lay1) {Q : Int32 → Hp → Prop} (eq : EQ E 1 14 (fun r h2 => ∃ x, r = [vI x] ∧ Q x h2)) {a1 : Int32} {a2 : Int32} {a3 : Int32} {a4 : Int32} {a5 : Int32} {a6 : Int32} {p7 : Option PtrT} {p8 : Option PtrT} {x9 : Option AVal} {h : Hp} {c n : Nat} (hc : c + 1 ≤ 1) (hn : n + 14 ≤ 14) (w : w_X11_group_102  Q a1 a2 a3 a4 a5 a6 p7 p8 h) : SW E 102 ([some (vP (some (11, 0))), some (vI (a1)), some (vI (a2)), some (vI (a3)), some (vI (a4)), some (vI (a5)), some (vI (a6)), some (vP (p7)), some (vP (p8)), x9], [], h, c, n) := by
  refine k_X11_group_102 cx hY (by omega) (by omega) ?_
  exact s_X11_group_105 cx hY eq  (by omega) (by omega) w
theorem s_X11_group_100 {E : EnvT} {d : Nat} (cx : CX E "ShoreDay" cX11_group 10 (some .int) "group" (d + 3) 1 14) (hY : eY E = lay1) {Q : Int32 → Hp → Prop} (eq : EQ E 1 14 (fun r h2 => ∃ x, r = [vI x] ∧ Q x h2)) {a1 : Int32} {a2 : Int32} {a3 : Int32} {a4 : Int32} {a5 : Int32} {a6 : Int32} {p7 : Option PtrT} {p8 : Option PtrT} {x9 : Option AVal} {h : Hp} {c n : Nat} (hc : c + 0 ≤ 1) (hn : n + 0 ≤ 14) (w : w_X11_group_100  Q a1 a2 a3 a4 a5 a6 p7 p8 h) : SW E 100 ([some (vP (some (11, 0))), some (vI (a1)), some (vI (a2)), some (vI (a3)), some (vI (a4)), some (vI (a5)), some (vI (a6)), some (vP (p7)), some (vP (p8)), x9], [], h, c, n) := by
  exact k_X11_group_100 cx hY eq (by omega) (by omega) ⟨_, rfl, w⟩
theorem s_X11_group_95 {E : EnvT} {d : Nat} (cx : CX E "ShoreDay" cX11_group 10 (some .int) "group" (d + 3) 1 14) (hY : eY E = lay1) {Q : Int32 → Hp → Prop} (eq : EQ E 1 14 (fun r h2 => ∃ x, r = [vI x] ∧ Q x h2)) {a1 : Int32} {a2 : Int32} {a3 : Int32} {a4 : Int32} {a5 : Int32} {a6 : Int32} {p7 : Option PtrT} {p8 : Option PtrT} {x9 : Option AVal} {h : Hp} {c n : Nat} (hc : c + 1 ≤ 1) (hn : n + 14 ≤ 14) (w : w_X11_group_95  Q a1 a2 a3 a4 a5 a6 p7 p8 h) : SW E 95 ([some (vP (some (11, 0))), some (vI (a1)), some (vI (a2)), some (vI (a3)), some (vI (a4)), some (vI (a5)), some (vI (a6)), some (vP (p7)), some (vP (p8)), x9], [], h, c, n) := by
  refine k_X11_group_95 cx hY (fun q => ?_) (fun q => ?_)
  · have w := w.1 q
    exact s_X11_group_102 cx hY eq  (by omega) (by omega) w
  · have w := w.2 q
    exact s_X11_group_100 cx hY eq  (by omega) (by omega) w
theorem s_X11_group_92 {E : EnvT} {d : Nat} (cx : CX E "ShoreDay" cX11_group 10 (some .int) "group" (d + 3) 1 14) (hY : eY E = lay1) {Q : Int32 → Hp → Prop} (eq : EQ E 1 14 (fun r h2 => ∃ x, r = [vI x] ∧ Q x h2)) {a1 : Int32} {a2 : Int32} {a3 : Int32} {a4 : Int32} {a5 : Int32} {a6 : Int32} {p7 : Option PtrT} {p8 : Option PtrT} {x9 : Option AVal} {h : Hp} {c n : Nat} (hc : c + 0 ≤ 1) (hn : n + 0 ≤ 14) (w : w_X11_group_92  Q a1 a2 a3 a4 a5 a6 p7 p8 h) : SW E 92 ([some (vP (some (11, 0))), some (vI (a1)), some (vI (a2)), some (vI (a3)), some (vI (a4)), some (vI (a5)), some (vI (a6)), some (vP (p7)), some (vP (p8)), x9], [], h, c, n) := by
  refine k_X11_group_92 cx hY ?_
  exact s_X11_group_100 cx hY eq  (by omega) (by omega) w
theorem s_X11_group_89 {E : EnvT} {d : Nat} (cx : CX E "ShoreDay" cX11_group 10 (some .int) "group" (d + 3) 1 14) (hY : eY E = lay1) {Q : Int32 → Hp → Prop} (eq : EQ E 1 14 (fun r h2 => ∃ x, r = [vI x] ∧ Q x h2)) {a1 : Int32} {a2 : Int32} {a3 : Int32} {a4 : Int32} {a5 : Int32} {a6 : Int32} {p7 : Option PtrT} {p8 : Option PtrT} {x9 : Option AVal} {s0 : Int32} {h : Hp} {c n : Nat} (hc : c + 1 ≤ 1) (hn : n + 14 ≤ 14) (w : w_X11_group_89  Q a1 a2 a3 a4 a5 a6 p7 p8 s0 h) : SW E 89 ([some (vP (some (11, 0))), some (vI (a1)), some (vI (a2)), some (vI (a3)), some (vI (a4)), some (vI (a5)), some (vI (a6)), some (vP (p7)), some (vP (p8)), x9], [vI (s0)], h, c, n) := by
  refine k_X11_group_89 cx hY (fun q => ?_) (fun q => ?_)
  · have w := w.1 q
    exact s_X11_group_102 cx hY eq  (by omega) (by omega) w
  · have w := w.2 q
    exact s_X11_group_92 cx hY eq  (by omega) (by omega) w
theorem s_X11_group_80 {E : EnvT} {d : Nat} (cx : CX E "ShoreDay" cX11_group 10 (some .int) "group" (d + 3) 1 14) (hY : eY E = lay1) {Q : Int32 → Hp → Prop} (eq : EQ E 1 14 (fun r h2 => ∃ x, r = [vI x] ∧ Q x h2)) {a1 : Int32} {a2 : Int32} {a3 : Int32} {a4 : Int32} {a5 : Int32} {a6 : Int32} {p7 : Option PtrT} {p8 : Option PtrT} {x9 : Option AVal} {h : Hp} {c n : Nat} (hc : c + 1 ≤ 1) (hn : n + 14 ≤ 14) (w : w_X11_group_80  Q a1 a2 a3 a4 a5 a6 p7 p8 h) : SW E 80 ([some (vP (some (11, 0))), some (vI (a1)), some (vI (a2)), some (vI (a3)), some (vI (a4)), some (vI (a5)), some (vI (a6)), some (vP (p7)), some (vP (p8)), x9], [], h, c, n) := by
  refine k_X11_group_80 cx hY (ctY hY (vc_X11_within (d := d + 1) w)) (by omega) (by omega) (by omega) (fun r h2 hp => ?_)
  obtain ⟨r2, rfl, w⟩ := hp
  exact s_X11_group_89 cx hY eq  (by omega) (by omega) w
theorem s_X11_group_74 {E : EnvT} {d : Nat} (cx : CX E "ShoreDay" cX11_group 10 (some .int) "group" (d + 3) 1 14) (hY : eY E = lay1) {Q : Int32 → Hp → Prop} (eq : EQ E 1 14 (fun r h2 => ∃ x, r = [vI x] ∧ Q x h2)) {a1 : Int32} {a2 : Int32} {a3 : Int32} {a4 : Int32} {a5 : Int32} {a6 : Int32} {p7 : Option PtrT} {p8 : Option PtrT} {x9 : Option AVal} {h : Hp} {c n : Nat} (hc : c + 1 ≤ 1) (hn : n + 14 ≤ 14) (w : w_X11_group_74  Q a1 a2 a3 a4 a5 a6 p7 p8 h) : SW E 74 ([some (vP (some (11, 0))), some (vI (a1)), some (vI (a2)), some (vI (a3)), some (vI (a4)), some (vI (a5)), some (vI (a6)), some (vP (p7)), some (vP (p8)), x9], [], h, c, n) := by
  refine k_X11_group_74 cx hY (fun q => ?_) (fun q => ?_)
  · have w := w.1 q
    exact s_X11_group_95 cx hY eq  (by omega) (by omega) w
  · have w := w.2 q
    exact s_X11_group_80 cx hY eq  (by omega) (by omega) w
theorem s_X11_group_69 {E : EnvT} {d : Nat} (cx : CX E "ShoreDay" cX11_group 10 (some .int) "group" (d + 3) 1 14) (hY : eY E = lay1) {Q : Int32 → Hp → Prop} (eq : EQ E 1 14 (fun r h2 => ∃ x, r = [vI x] ∧ Q x h2)) {a1 : Int32} {a2 : Int32} {a3 : Int32} {a4 : Int32} {a5 : Int32} {a6 : Int32} {p7 : Option PtrT} {p8 : Option PtrT} {x9 : Option AVal} {s0 : Int32} {h : Hp} {c n : Nat} (hc : c + 1 ≤ 1) (hn : n + 14 ≤ 14) (w : w_X11_group_69  Q a1 a2 a3 a4 a5 a6 p7 p8 s0 h) : SW E 69 ([some (vP (some (11, 0))), some (vI (a1)), some (vI (a2)), some (vI (a3)), some (vI (a4)), some (vI (a5)), some (vI (a6)), some (vP (p7)), some (vP (p8)), x9], [vI (s0)], h, c, n) := by
  refine k_X11_group_69 cx hY (fun q => ?_) (fun q => ?_)
  · have w := w.1 q
    exact s_X11_group_74 cx hY eq  (by omega) (by omega) w
  · have w := w.2 q
    exact s_X11_group_72 cx hY eq  (by omega) (by omega) w
theorem s_X11_group_60 {E : EnvT} {d : Nat} (cx : CX E "ShoreDay" cX11_group 10 (some .int) "group" (d + 3) 1 14) (hY : eY E = lay1) {Q : Int32 → Hp → Prop} (eq : EQ E 1 14 (fun r h2 => ∃ x, r = [vI x] ∧ Q x h2)) {a1 : Int32} {a2 : Int32} {a3 : Int32} {a4 : Int32} {a5 : Int32} {a6 : Int32} {p7 : Option PtrT} {p8 : Option PtrT} {x9 : Option AVal} {h : Hp} {c n : Nat} (hc : c + 1 ≤ 1) (hn : n + 14 ≤ 14) (w : w_X11_group_60  Q a1 a2 a3 a4 a5 a6 p7 p8 h) : SW E 60 ([some (vP (some (11, 0))), some (vI (a1)), some (vI (a2)), some (vI (a3)), some (vI (a4)), some (vI (a5)), some (vI (a6)), some (vP (p7)), some (vP (p8)), x9], [], h, c, n) := by
  refine k_X11_group_60 cx hY (ctY hY (vc_X11_within (d := d + 1) w)) (by omega) (by omega) (by omega) (fun r h2 hp => ?_)
  obtain ⟨r2, rfl, w⟩ := hp
  exact s_X11_group_69 cx hY eq  (by omega) (by omega) w
theorem s_X11_group_57 {E : EnvT} {d : Nat} (cx : CX E "ShoreDay" cX11_group 10 (some .int) "group" (d + 3) 1 14) (hY : eY E = lay1) {Q : Int32 → Hp → Prop} (eq : EQ E 1 14 (fun r h2 => ∃ x, r = [vI x] ∧ Q x h2)) {a1 : Int32} {a2 : Int32} {a3 : Int32} {a4 : Int32} {a5 : Int32} {a6 : Int32} {p7 : Option PtrT} {p8 : Option PtrT} {x9 : Option AVal} {s0 : Int32} {h : Hp} {c n : Nat} (hc : c + 1 ≤ 1) (hn : n + 14 ≤ 14) (w : w_X11_group_57  Q a1 a2 a3 a4 a5 a6 p7 p8 s0 h) : SW E 57 ([some (vP (some (11, 0))), some (vI (a1)), some (vI (a2)), some (vI (a3)), some (vI (a4)), some (vI (a5)), some (vI (a6)), some (vP (p7)), some (vP (p8)), x9], [vI (s0)], h, c, n) := by
  refine k_X11_group_57 cx hY (fun q => ?_) (fun q => ?_)
  · have w := w.1 q
    exact s_X11_group_72 cx hY eq  (by omega) (by omega) w
  · have w := w.2 q
    exact s_X11_group_60 cx hY eq  (by omega) (by omega) w
theorem s_X11_group_49 {E : EnvT} {d : Nat} (cx : CX E "ShoreDay" cX11_group 10 (some .int) "group" (d + 3) 1 14) (hY : eY E = lay1) {Q : Int32 → Hp → Prop} (eq : EQ E 1 14 (fun r h2 => ∃ x, r = [vI x] ∧ Q x h2)) {a1 : Int32} {a2 : Int32} {a3 : Int32} {a4 : Int32} {a5 : Int32} {a6 : Int32} {p7 : Option PtrT} {p8 : Option PtrT} {x9 : Option AVal} {h : Hp} {c n : Nat} (hc : c + 1 ≤ 1) (hn : n + 14 ≤ 14) (w : w_X11_group_49  Q a1 a2 a3 a4 a5 a6 p7 p8 h) : SW E 49 ([some (vP (some (11, 0))), some (vI (a1)), some (vI (a2)), some (vI (a3)), some (vI (a4)), some (vI (a5)), some (vI (a6)), some (vP (p7)), some (vP (p8)), x9], [], h, c, n) := by
  refine k_X11_group_49 cx hY (ctY hY (vc_X11_within (d := d + 1) w)) (by omega) (by omega) (by omega) (fun r h2 hp => ?_)
  obtain ⟨r2, rfl, w⟩ := hp
  exact s_X11_group_57 cx hY eq  (by omega) (by omega) w
theorem s_X11_group_46 {E : EnvT} {d : Nat} (cx : CX E "ShoreDay" cX11_group 10 (some .int) "group" (d + 3) 1 14) (hY : eY E = lay1) {Q : Int32 → Hp → Prop} (eq : EQ E 1 14 (fun r h2 => ∃ x, r = [vI x] ∧ Q x h2)) {a1 : Int32} {a2 : Int32} {a3 : Int32} {a4 : Int32} {a5 : Int32} {a6 : Int32} {p7 : Option PtrT} {p8 : Option PtrT} {x9 : Option AVal} {s0 : Int32} {h : Hp} {c n : Nat} (hc : c + 1 ≤ 1) (hn : n + 14 ≤ 14) (w : w_X11_group_46  Q a1 a2 a3 a4 a5 a6 p7 p8 s0 h) : SW E 46 ([some (vP (some (11, 0))), some (vI (a1)), some (vI (a2)), some (vI (a3)), some (vI (a4)), some (vI (a5)), some (vI (a6)), some (vP (p7)), some (vP (p8)), x9], [vI (s0)], h, c, n) := by
  refine k_X11_group_46 cx hY (fun q => ?_) (fun q => ?_)
  · have w := w.1 q
    exact s_X11_group_72 cx hY eq  (by omega) (by omega) w
  · have w := w.2 q
    exact s_X11_group_49 cx hY eq  (by omega) (by omega) w
theorem s_X11_group_39 {E : EnvT} {d : Nat} (cx : CX E "ShoreDay" cX11_group 10 (some .int) "group" (d + 3) 1 14) (hY : eY E = lay1) {Q : Int32 → Hp → Prop} (eq : EQ E 1 14 (fun r h2 => ∃ x, r = [vI x] ∧ Q x h2)) {a1 : Int32} {a2 : Int32} {a3 : Int32} {a4 : Int32} {a5 : Int32} {a6 : Int32} {p7 : Option PtrT} {p8 : Option PtrT} {x9 : Option AVal} {h : Hp} {c n : Nat} (hc : c + 1 ≤ 1) (hn : n + 14 ≤ 14) (w : w_X11_group_39  Q a1 a2 a3 a4 a5 a6 p7 p8 h) : SW E 39 ([some (vP (some (11, 0))), some (vI (a1)), some (vI (a2)), some (vI (a3)), some (vI (a4)), some (vI (a5)), some (vI (a6)), some (vP (p7)), some (vP (p8)), x9], [], h, c, n) := by
  refine k_X11_group_39 cx hY (ctY hY (vc_X11_within (d := d + 1) w)) (by omega) (by omega) (by omega) (fun r h2 hp => ?_)
  obtain ⟨r2, rfl, w⟩ := hp
  exact s_X11_group_46 cx hY eq  (by omega) (by omega) w
theorem s_X11_group_28 {E : EnvT} {d : Nat} (cx : CX E "ShoreDay" cX11_group 10 (some .int) "group" (d + 3) 1 14) (hY : eY E = lay1) {Q : Int32 → Hp → Prop} (eq : EQ E 1 14 (fun r h2 => ∃ x, r = [vI x] ∧ Q x h2)) {a1 : Int32} {a2 : Int32} {a3 : Int32} {a4 : Int32} {a5 : Int32} {a6 : Int32} {p7 : Option PtrT} {p8 : Option PtrT} {x9 : Option AVal} {h : Hp} {c n : Nat} (hc : c + 1 ≤ 1) (hn : n + 14 ≤ 14) (w : w_X11_group_28  Q a1 a2 a3 a4 a5 a6 p7 p8 h) : SW E 28 ([some (vP (some (11, 0))), some (vI (a1)), some (vI (a2)), some (vI (a3)), some (vI (a4)), some (vI (a5)), some (vI (a6)), some (vP (p7)), some (vP (p8)), x9], [], h, c, n) := by
  refine k_X11_group_28 cx hY (fun q => ?_) (fun q => ?_)
  · have w := w.1 q
    exact s_X11_group_39 cx hY eq  (by omega) (by omega) w
  · have w := w.2 q
    exact s_X11_group_37 cx hY eq  (by omega) (by omega) w
theorem s_X11_group_20 {E : EnvT} {d : Nat} (cx : CX E "ShoreDay" cX11_group 10 (some .int) "group" (d + 3) 1 14) (hY : eY E = lay1) {Q : Int32 → Hp → Prop} (eq : EQ E 1 14 (fun r h2 => ∃ x, r = [vI x] ∧ Q x h2)) {a1 : Int32} {a2 : Int32} {a3 : Int32} {a4 : Int32} {a5 : Int32} {a6 : Int32} {i7 : Nat} {p8 : Option PtrT} {x9 : Option AVal} {h : Hp} {c n : Nat} (hc : c + 1 ≤ 1) (hn : n + 14 ≤ 14) (w : w_X11_group_20  Q a1 a2 a3 a4 a5 a6 i7 p8 h) : SW E 20 ([some (vP (some (11, 0))), some (vI (a1)), some (vI (a2)), some (vI (a3)), some (vI (a4)), some (vI (a5)), some (vI (a6)), some (vP (some (6, i7))), some (vP (p8)), x9], [], h, c, n) := by
  refine k_X11_group_20 cx hY (fun q => ?_) (fun q => ?_)
  · have w := w.1 q
    exact s_X11_group_37 cx hY eq  (by omega) (by omega) w
  · have w := w.2 q
    exact s_X11_group_28 cx hY eq  (by omega) (by omega) w
theorem s_X11_group_13 {E : EnvT} {d : Nat} (cx : CX E "ShoreDay" cX11_group 10 (some .int) "group" (d + 3) 1 14) (hY : eY E = lay1) {Q : Int32 → Hp → Prop} (eq : EQ E 1 14 (fun r h2 => ∃ x, r = [vI x] ∧ Q x h2)) {a1 : Int32} {a2 : Int32} {a3 : Int32} {a4 : Int32} {a5 : Int32} {a6 : Int32} {p7 : Option PtrT} {x8 : Option AVal} {x9 : Option AVal} {q0 : Option PtrT} {h : Hp} {c n : Nat} (hc : c + 1 ≤ 1) (hn : n + 14 ≤ 14) (w : w_X11_group_13  Q a1 a2 a3 a4 a5 a6 p7 q0 h) : SW E 13 ([some (vP (some (11, 0))), some (vI (a1)), some (vI (a2)), some (vI (a3)), some (vI (a4)), some (vI (a5)), some (vI (a6)), some (vP (p7)), x8, x9], [vP (q0)], h, c, n) := by
  refine k_X11_group_13 cx hY (fun q => ?_) (fun q => ?_)
  · have w := w.1 q
    exact s_X11_group_37 cx hY eq  (by omega) (by omega) w
  · have w := w.2 q
    obtain ⟨zl7, ezl7, w⟩ := w
    rw [ezl7]
    exact s_X11_group_20 cx hY eq  (by omega) (by omega) w
theorem s_X11_group_5 {E : EnvT} {d : Nat} (cx : CX E "ShoreDay" cX11_group 10 (some .int) "group" (d + 3) 1 14) (hY : eY E = lay1) {Q : Int32 → Hp → Prop} (eq : EQ E 1 14 (fun r h2 => ∃ x, r = [vI x] ∧ Q x h2)) {a1 : Int32} {a2 : Int32} {a3 : Int32} {a4 : Int32} {a5 : Int32} {a6 : Int32} {x7 : Option AVal} {x8 : Option AVal} {x9 : Option AVal} {q0 : Option PtrT} {h : Hp} {c n : Nat} (hc : c + 1 ≤ 1) (hn : n + 14 ≤ 14) (w : w_X11_group_5  Q a1 a2 a3 a4 a5 a6 q0 h) : SW E 5 ([some (vP (some (11, 0))), some (vI (a1)), some (vI (a2)), some (vI (a3)), some (vI (a4)), some (vI (a5)), some (vI (a6)), x7, x8, x9], [vP (q0)], h, c, n) := by
  refine k_X11_group_5 cx hY (ctY hY (vc_X11_tourAt (d := d + 0) w)) (by omega) (by omega) (by omega) (fun r h2 hp => ?_)
  obtain ⟨r2, rfl, w⟩ := hp
  exact s_X11_group_13 cx hY eq  (by omega) (by omega) w
theorem s_X11_group_0 {E : EnvT} {d : Nat} (cx : CX E "ShoreDay" cX11_group 10 (some .int) "group" (d + 3) 1 14) (hY : eY E = lay1) {Q : Int32 → Hp → Prop} (eq : EQ E 1 14 (fun r h2 => ∃ x, r = [vI x] ∧ Q x h2)) {a1 : Int32} {a2 : Int32} {a3 : Int32} {a4 : Int32} {a5 : Int32} {a6 : Int32} {x7 : Option AVal} {x8 : Option AVal} {x9 : Option AVal} {h : Hp} {c n : Nat} (hc : c + 1 ≤ 1) (hn : n + 14 ≤ 14) (w : w_X11_group_0  Q a1 a2 a3 a4 a5 a6 h) : SW E 0 ([some (vP (some (11, 0))), some (vI (a1)), some (vI (a2)), some (vI (a3)), some (vI (a4)), some (vI (a5)), some (vI (a6)), x7, x8, x9], [], h, c, n) := by
  refine k_X11_group_0 cx hY (ctY hY (vc_X11_shipAt (d := d + 0) w)) (by omega) (by omega) (by omega) (fun r h2 hp => ?_)
  obtain ⟨r2, rfl, w⟩ := hp
  exact s_X11_group_5 cx hY eq  (by omega) (by omega) w
def wp_X11_group (a1 : Int32) (a2 : Int32) (a3 : Int32) (a4 : Int32) (a5 : Int32) (a6 : Int32) (h : Hp) (Q : Int32 → Hp → Prop) : Prop := w_X11_group_0 Q a1 a2 a3 a4 a5 a6 h
theorem vc_X11_group {l : Launch} {d : Nat} {a1 : Int32} {a2 : Int32} {a3 : Int32} {a4 : Int32} {a5 : Int32} {a6 : Int32} {h : Hp} {Q : Int32 → Hp → Prop} (w : wp_X11_group a1 a2 a3 a4 a5 a6 h Q) : Ct l lay1 yX11_group cX11_group 10 (some .int) (d + 3) 1 14 [vP (some (11, 0)), vI a1, vI a2, vI a3, vI a4, vI a5, vI a6] h (fun r h2 => ∃ x, r = [vI x] ∧ Q x h2) := by
  exact Ct.of (by decide) (Nat.le_of_ble_eq_true rfl) fun E cx eq hl hY => s_X11_group_0 cx hY eq (Nat.le_refl _) (Nat.le_refl _) w
def w_X11_holds_13 (Q : Int32 → Hp → Prop) (a1 : Int32) (h : Hp) : Prop := Q ((1 : Int32)) (wI (h) 11 (0) 15 (a1))
def w_X11_holds_11 (Q : Int32 → Hp → Prop) (a1 : Int32) (h : Hp) : Prop := Q ((0 : Int32)) (h)
def w_X11_holds_8 (Q : Int32 → Hp → Prop) (a1 : Int32) (s0 : Int32) (h : Hp) : Prop := (¬ (s0) = 0 → w_X11_holds_13  Q (a1) (h)) ∧ ((s0) = 0 → w_X11_holds_11  Q (a1) (h))
def w_X11_holds_0 (Q : Int32 → Hp → Prop) (a1 : Int32) (h : Hp) : Prop := wp_X11_within (a1) ((1 : Int32)) ((10000 : Int32)) (h) (fun r2 h2 => w_X11_holds_8  Q (a1) (r2) (h2))
theorem s_X11_holds_13 {E : EnvT} {d : Nat} (cx : CX E "ShoreDay" cX11_holds 2 (some .boolean) "holds" (d + 2) 0 0) (hY : eY E = lay1) {Q : Int32 → Hp → Prop} (eq : EQ E 0 0 (fun r h2 => ∃ x, r = [vI x] ∧ Q x h2)) {a1 : Int32} {h : Hp} {c n : Nat} (hc : c + 0 ≤ 0) (hn : n + 0 ≤ 0) (w : w_X11_holds_13  Q a1 h) : SW E 13 ([some (vP (some (11, 0))), some (vI (a1))], [], h, c, n) := by
  exact k_X11_holds_13 cx hY eq (by omega) (by omega) ⟨_, rfl, w⟩
theorem s_X11_holds_11 {E : EnvT} {d : Nat} (cx : CX E "ShoreDay" cX11_holds 2 (some .boolean) "holds" (d + 2) 0 0) (hY : eY E = lay1) {Q : Int32 → Hp → Prop} (eq : EQ E 0 0 (fun r h2 => ∃ x, r = [vI x] ∧ Q x h2)) {a1 : Int32} {h : Hp} {c n : Nat} (hc : c + 0 ≤ 0) (hn : n + 0 ≤ 0) (w : w_X11_holds_11  Q a1 h) : SW E 11 ([some (vP (some (11, 0))), some (vI (a1))], [], h, c, n) := by
  exact k_X11_holds_11 cx hY eq (by omega) (by omega) ⟨_, rfl, w⟩
theorem s_X11_holds_8 {E : EnvT} {d : Nat} (cx : CX E "ShoreDay" cX11_holds 2 (some .boolean) "holds" (d + 2) 0 0) (hY : eY E = lay1) {Q : Int32 → Hp → Prop} (eq : EQ E 0 0 (fun r h2 => ∃ x, r = [vI x] ∧ Q x h2)) {a1 : Int32} {s0 : Int32} {h : Hp} {c n : Nat} (hc : c + 0 ≤ 0) (hn : n + 0 ≤ 0) (w : w_X11_holds_8  Q a1 s0 h) : SW E 8 ([some (vP (some (11, 0))), some (vI (a1))], [vI (s0)], h, c, n) := by
  refine k_X11_holds_8 cx hY (fun q => ?_) (fun q => ?_)
  · have w := w.1 q
    exact s_X11_holds_13 cx hY eq  (by omega) (by omega) w
  · have w := w.2 q
    exact s_X11_holds_11 cx hY eq  (by omega) (by omega) w
theorem s_X11_holds_0 {E : EnvT} {d : Nat} (cx : CX E "ShoreDay" cX11_holds 2 (some .boolean) "holds" (d + 2) 0 0) (hY : eY E = lay1) {Q : Int32 → Hp → Prop} (eq : EQ E 0 0 (fun r h2 => ∃ x, r = [vI x] ∧ Q x h2)) {a1 : Int32} {h : Hp} {c n : Nat} (hc : c + 0 ≤ 0) (hn : n + 0 ≤ 0) (w : w_X11_holds_0  Q a1 h) : SW E 0 ([some (vP (some (11, 0))), some (vI (a1))], [], h, c, n) := by
  refine k_X11_holds_0 cx hY (ctY hY (vc_X11_within (d := d + 0) w)) (by omega) (by omega) (by omega) (fun r h2 hp => ?_)
  obtain ⟨r2, rfl, w⟩ := hp
  exact s_X11_holds_8 cx hY eq  (by omega) (by omega) w
def wp_X11_holds (a1 : Int32) (h : Hp) (Q : Int32 → Hp → Prop) : Prop := w_X11_holds_0 Q a1 h
theorem vc_X11_holds {l : Launch} {d : Nat} {a1 : Int32} {h : Hp} {Q : Int32 → Hp → Prop} (w : wp_X11_holds a1 h Q) : Ct l lay1 yX11_holds cX11_holds 2 (some .boolean) (d + 2) 0 0 [vP (some (11, 0)), vI a1] h (fun r h2 => ∃ x, r = [vI x] ∧ Q x h2) := by
  exact Ct.of (by decide) (Nat.le_of_ble_eq_true rfl) fun E cx eq hl hY => s_X11_holds_0 cx hY eq (Nat.le_refl _) (Nat.le_refl _) w
def w_X11_guide_23 (Q : Int32 → Hp → Prop) (a1 : Int32) (s0 : Int32) (h : Hp) : Prop := Q (s0) (h)
def w_X11_guide_22 (Q : Int32 → Hp → Prop) (a1 : Int32) (h : Hp) : Prop := w_X11_guide_23  Q (a1) ((-1 : Int32)) (h)
def w_X11_guide_19 (Q : Int32 → Hp → Prop) (a1 : Int32) (s0 : Int32) (h : Hp) : Prop := w_X11_guide_23  Q (a1) (s0) (h)
def w_X11_guide_11 (Q : Int32 → Hp → Prop) (a1 : Int32) (h : Hp) : Prop := wp_X3_add (a1) (h) (fun r2 h2 => w_X11_guide_19  Q (a1) (r2) (h2))
def w_X11_guide_8 (Q : Int32 → Hp → Prop) (a1 : Int32) (s0 : Int32) (h : Hp) : Prop := ((s0) = 0 → w_X11_guide_22  Q (a1) (h)) ∧ (¬ (s0) = 0 → w_X11_guide_11  Q (a1) (h))
def w_X11_guide_0 (Q : Int32 → Hp → Prop) (a1 : Int32) (h : Hp) : Prop := wp_X11_within (a1) ((1 : Int32)) ((255 : Int32)) (h) (fun r2 h2 => w_X11_guide_8  Q (a1) (r2) (h2))
theorem s_X11_guide_23 {E : EnvT} {d : Nat} (cx : CX E "ShoreDay" cX11_guide 2 (some .int) "guide" (d + 2) 0 0) (hY : eY E = lay1) {Q : Int32 → Hp → Prop} (eq : EQ E 0 0 (fun r h2 => ∃ x, r = [vI x] ∧ Q x h2)) {a1 : Int32} {s0 : Int32} {h : Hp} {c n : Nat} (hc : c + 0 ≤ 0) (hn : n + 0 ≤ 0) (w : w_X11_guide_23  Q a1 s0 h) : SW E 23 ([some (vP (some (11, 0))), some (vI (a1))], [vI (s0)], h, c, n) := by
  exact k_X11_guide_23 cx hY eq (by omega) (by omega) ⟨_, rfl, w⟩
theorem s_X11_guide_22 {E : EnvT} {d : Nat} (cx : CX E "ShoreDay" cX11_guide 2 (some .int) "guide" (d + 2) 0 0) (hY : eY E = lay1) {Q : Int32 → Hp → Prop} (eq : EQ E 0 0 (fun r h2 => ∃ x, r = [vI x] ∧ Q x h2)) {a1 : Int32} {h : Hp} {c n : Nat} (hc : c + 0 ≤ 0) (hn : n + 0 ≤ 0) (w : w_X11_guide_22  Q a1 h) : SW E 22 ([some (vP (some (11, 0))), some (vI (a1))], [], h, c, n) := by
  refine k_X11_guide_22 cx hY ?_
  exact s_X11_guide_23 cx hY eq  (by omega) (by omega) w
theorem s_X11_guide_19 {E : EnvT} {d : Nat} (cx : CX E "ShoreDay" cX11_guide 2 (some .int) "guide" (d + 2) 0 0) (hY : eY E = lay1) {Q : Int32 → Hp → Prop} (eq : EQ E 0 0 (fun r h2 => ∃ x, r = [vI x] ∧ Q x h2)) {a1 : Int32} {s0 : Int32} {h : Hp} {c n : Nat} (hc : c + 0 ≤ 0) (hn : n + 0 ≤ 0) (w : w_X11_guide_19  Q a1 s0 h) : SW E 19 ([some (vP (some (11, 0))), some (vI (a1))], [vI (s0)], h, c, n) := by
  refine k_X11_guide_19 cx hY ?_
  exact s_X11_guide_23 cx hY eq  (by omega) (by omega) w
theorem s_X11_guide_11 {E : EnvT} {d : Nat} (cx : CX E "ShoreDay" cX11_guide 2 (some .int) "guide" (d + 2) 0 0) (hY : eY E = lay1) {Q : Int32 → Hp → Prop} (eq : EQ E 0 0 (fun r h2 => ∃ x, r = [vI x] ∧ Q x h2)) {a1 : Int32} {h : Hp} {c n : Nat} (hc : c + 0 ≤ 0) (hn : n + 0 ≤ 0) (w : w_X11_guide_11  Q a1 h) : SW E 11 ([some (vP (some (11, 0))), some (vI (a1))], [], h, c, n) := by
  refine k_X11_guide_11 cx hY (ctY hY (vc_X3_add (d := d + 0) w)) (by omega) (by omega) (by omega) (fun r h2 hp => ?_)
  obtain ⟨r2, rfl, w⟩ := hp
  exact s_X11_guide_19 cx hY eq  (by omega) (by omega) w
theorem s_X11_guide_8 {E : EnvT} {d : Nat} (cx : CX E "ShoreDay" cX11_guide 2 (some .int) "guide" (d + 2) 0 0) (hY : eY E = lay1) {Q : Int32 → Hp → Prop} (eq : EQ E 0 0 (fun r h2 => ∃ x, r = [vI x] ∧ Q x h2)) {a1 : Int32} {s0 : Int32} {h : Hp} {c n : Nat} (hc : c + 0 ≤ 0) (hn : n + 0 ≤ 0) (w : w_X11_guide_8  Q a1 s0 h) : SW E 8 ([some (vP (some (11, 0))), some (vI (a1))], [vI (s0)], h, c, n) := by
  refine k_X11_guide_8 cx hY (fun q => ?_) (fun q => ?_)
  · have w := w.1 q
    exact s_X11_guide_22 cx hY eq  (by omega) (by omega) w
  · have w := w.2 q
    exact s_X11_guide_11 cx hY eq  (by omega) (by omega) w
theorem s_X11_guide_0 {E : EnvT} {d : Nat} (cx : CX E "ShoreDay" cX11_guide 2 (some .int) "guide" (d + 2) 0 0) (hY : eY E = lay1) {Q : Int32 → Hp → Prop} (eq : EQ E 0 0 (fun r h2 => ∃ x, r = [vI x] ∧ Q x h2)) {a1 : Int32} {h : Hp} {c n : Nat} (hc : c + 0 ≤ 0) (hn : n + 0 ≤ 0) (w : w_X11_guide_0  Q a1 h) : SW E 0 ([some (vP (some (11, 0))), some (vI (a1))], [], h, c, n) := by
  refine k_X11_guide_0 cx hY (ctY hY (vc_X11_within (d := d + 0) w)) (by omega) (by omega) (by omega) (fun r h2 hp => ?_)
  obtain ⟨r2, rfl, w⟩ := hp
  exact s_X11_guide_8 cx hY eq  (by omega) (by omega) w
def wp_X11_guide (a1 : Int32) (h : Hp) (Q : Int32 → Hp → Prop) : Prop := w_X11_guide_0 Q a1 h
theorem vc_X11_guide {l : Launch} {d : Nat} {a1 : Int32} {h : Hp} {Q : Int32 → Hp → Prop} (w : wp_X11_guide a1 h Q) : Ct l lay1 yX11_guide cX11_guide 2 (some .int) (d + 2) 0 0 [vP (some (11, 0)), vI a1] h (fun r h2 => ∃ x, r = [vI x] ∧ Q x h2) := by
  exact Ct.of (by decide) (Nat.le_of_ble_eq_true rfl) fun E cx eq hl hY => s_X11_guide_0 cx hY eq (Nat.le_refl _) (Nat.le_refl _) w
def w_X11_planned_27 (Q : Int32 → Hp → Prop) (a1 : Int32) (s0 : Int32) (h : Hp) : Prop := Q (s0) (h)
def w_X11_planned_26 (Q : Int32 → Hp → Prop) (a1 : Int32) (h : Hp) : Prop := w_X11_planned_27  Q (a1) ((-1 : Int32)) (h)
def w_X11_planned_14 (Q : Int32 → Hp → Prop) (a1 : Int32) (h : Hp) : Prop := vp_in (a1) 8 ∧ (w_X11_planned_27  Q (a1) (gI (h) 38 (0) (tN (a1))) (h))
def w_X11_planned_11 (Q : Int32 → Hp → Prop) (a1 : Int32) (s0 : Int32) (h : Hp) : Prop := ((s0) = 0 → w_X11_planned_26  Q (a1) (h)) ∧ (¬ (s0) = 0 → w_X11_planned_14  Q (a1) (h))
def w_X11_planned_0 (Q : Int32 → Hp → Prop) (a1 : Int32) (h : Hp) : Prop := wp_X11_within (a1) ((0 : Int32)) ((gI (h) 11 (0) (5)) - ((1 : Int32))) (h) (fun r2 h2 => w_X11_planned_11  Q (a1) (r2) (h2))
theorem s_X11_planned_27 {E : EnvT} {d : Nat} (cx : CX E "ShoreDay" cX11_planned 2 (some .int) "planned" (d + 2) 0 0) (hY : eY E = lay1) {Q : Int32 → Hp → Prop} (eq : EQ E 0 0 (fun r h2 => ∃ x, r = [vI x] ∧ Q x h2)) {a1 : Int32} {s0 : Int32} {h : Hp} {c n : Nat} (hc : c + 0 ≤ 0) (hn : n + 0 ≤ 0) (w : w_X11_planned_27  Q a1 s0 h) : SW E 27 ([some (vP (some (11, 0))), some (vI (a1))], [vI (s0)], h, c, n) := by
  exact k_X11_planned_27 cx hY eq (by omega) (by omega) ⟨_, rfl, w⟩
theorem s_X11_planned_26 {E : EnvT} {d : Nat} (cx : CX E "ShoreDay" cX11_planned 2 (some .int) "planned" (d + 2) 0 0) (hY : eY E = lay1) {Q : Int32 → Hp → Prop} (eq : EQ E 0 0 (fun r h2 => ∃ x, r = [vI x] ∧ Q x h2)) {a1 : Int32} {h : Hp} {c n : Nat} (hc : c + 0 ≤ 0) (hn : n + 0 ≤ 0) (w : w_X11_planned_26  Q a1 h) : SW E 26 ([some (vP (some (11, 0))), some (vI (a1))], [], h, c, n) := by
  refine k_X11_planned_26 cx hY ?_
  exact s_X11_planned_27 cx hY eq  (by omega) (by omega) w
theorem s_X11_planned_14 {E : EnvT} {d : Nat} (cx : CX E "ShoreDay" cX11_planned 2 (some .int) "planned" (d + 2) 0 0) (hY : eY E = lay1) {Q : Int32 → Hp → Prop} (eq : EQ E 0 0 (fun r h2 => ∃ x, r = [vI x] ∧ Q x h2)) {a1 : Int32} {h : Hp} {c n : Nat} (hc : c + 0 ≤ 0) (hn : n + 0 ≤ 0) (w : w_X11_planned_14  Q a1 h) : SW E 14 ([some (vP (some (11, 0))), some (vI (a1))], [], h, c, n) := by
  obtain ⟨G1, w⟩ := w
  refine k_X11_planned_14 cx hY G1 ?_
  exact s_X11_planned_27 cx hY eq  (by omega) (by omega) w
theorem s_X11_planned_11 {E : EnvT} {d : Nat} (cx : CX E "ShoreDay" cX11_planned 2 (some .int) "planned" (d + 2) 0 0) (hY : eY E = lay1) {Q : Int32 → Hp → Prop} (eq : EQ E 0 0 (fun r h2 => ∃ x, r = [vI x] ∧ Q x h2)) {a1 : Int32} {s0 : Int32} {h : Hp} {c n : Nat} (hc : c + 0 ≤ 0) (hn : n + 0 ≤ 0) (w : w_X11_planned_11  Q a1 s0 h) : SW E 11 ([some (vP (some (11, 0))), some (vI (a1))], [vI (s0)], h, c, n) := by
  refine k_X11_planned_11 cx hY (fun q => ?_) (fun q => ?_)
  · have w := w.1 q
    exact s_X11_planned_26 cx hY eq  (by omega) (by omega) w
  · have w := w.2 q
    exact s_X11_planned_14 cx hY eq  (by omega) (by omega) w
theorem s_X11_planned_0 {E : EnvT} {d : Nat} (cx : CX E "ShoreDay" cX11_planned 2 (some .int) "planned" (d + 2) 0 0) (hY : eY E = lay1) {Q : Int32 → Hp → Prop} (eq : EQ E 0 0 (fun r h2 => ∃ x, r = [vI x] ∧ Q x h2)) {a1 : Int32} {h : Hp} {c n : Nat} (hc : c + 0 ≤ 0) (hn : n + 0 ≤ 0) (w : w_X11_planned_0  Q a1 h) : SW E 0 ([some (vP (some (11, 0))), some (vI (a1))], [], h, c, n) := by
  refine k_X11_planned_0 cx hY (ctY hY (vc_X11_within (d := d + 0) w)) (by omega) (by omega) (by omega) (fun r h2 hp => ?_)
  obtain ⟨r2, rfl, w⟩ := hp
  exact s_X11_planned_11 cx hY eq  (by omega) (by omega) w
def wp_X11_planned (a1 : Int32) (h : Hp) (Q : Int32 → Hp → Prop) : Prop := w_X11_planned_0 Q a1 h
theorem vc_X11_planned {l : Launch} {d : Nat} {a1 : Int32} {h : Hp} {Q : Int32 → Hp → Prop} (w : wp_X11_planned a1 h Q) : Ct l lay1 yX11_planned cX11_planned 2 (some .int) (d + 2) 0 0 [vP (some (11, 0)), vI a1] h (fun r h2 => ∃ x, r = [vI x] ∧ Q x h2) := by
  exact Ct.of (by decide) (Nat.le_of_ble_eq_true rfl) fun E cx eq hl hY => s_X11_planned_0 cx hY eq (Nat.le_refl _) (Nat.le_refl _) w
def w_X11_lies_52 (Q : Int32 → Hp → Prop) (a1 : Int32) (a2 : Int32) (i3 : Nat) (h : Hp) : Prop := Q (gI (h) 8 (i3) (3)) (h)
def w_X11_lies_57 (Q : Int32 → Hp → Prop) (a1 : Int32) (a2 : Int32) (i3 : Nat) (h : Hp) : Prop := Q (gI (h) 8 (i3) (4)) (h)
def w_X11_lies_62 (Q : Int32 → Hp → Prop) (a1 : Int32) (a2 : Int32) (i3 : Nat) (h : Hp) : Prop := Q (gI (h) 8 (i3) (5)) (h)
def w_X11_lies_67 (Q : Int32 → Hp → Prop) (a1 : Int32) (a2 : Int32) (p3 : Option PtrT) (h : Hp) : Prop := Q ((-1 : Int32)) (h)
def w_X11_lies_16 (Q : Int32 → Hp → Prop) (a1 : Int32) (a2 : Int32) (h : Hp) : Prop := vp_in (a1) 6 ∧ (((a2).toInt < 0 ∨ 2 < (a2).toInt → w_X11_lies_67  Q (a1) (a2) (gP (h) 21 (0) (tN (a1))) (h)) ∧ ((a2).toInt = 0 → ∃ zl3, gP (h) 21 (0) (tN (a1)) = some (8, zl3) ∧ (w_X11_lies_52  Q (a1) (a2) zl3 (h))) ∧ ((a2).toInt = 1 → ∃ zl3, gP (h) 21 (0) (tN (a1)) = some (8, zl3) ∧ (w_X11_lies_57  Q (a1) (a2) zl3 (h))) ∧ ((a2).toInt = 2 → ∃ zl3, gP (h) 21 (0) (tN (a1)) = some (8, zl3) ∧ (w_X11_lies_62  Q (a1) (a2) zl3 (h))))
def w_X11_lies_14 (Q : Int32 → Hp → Prop) (a1 : Int32) (a2 : Int32) (h : Hp) : Prop := Q ((-1 : Int32)) (h)
def w_X11_lies_11 (Q : Int32 → Hp → Prop) (a1 : Int32) (a2 : Int32) (s0 : Int32) (h : Hp) : Prop := (¬ (s0) = 0 → w_X11_lies_16  Q (a1) (a2) (h)) ∧ ((s0) = 0 → w_X11_lies_14  Q (a1) (a2) (h))
def w_X11_lies_0 (Q : Int32 → Hp → Prop) (a1 : Int32) (a2 : Int32) (h : Hp) : Prop := wp_X11_within (a1) ((0 : Int32)) ((gI (h) 11 (0) (3)) - ((1 : Int32))) (h) (fun r2 h2 => w_X11_lies_11  Q (a1) (a2) (r2) (h2))
theorem s_X11_lies_52 {E : EnvT} {d : Nat} (cx : CX E "ShoreDay" cX11_lies 4 (some .int) "lies" (d + 2) 0 0) (hY : eY E = lay1) {Q : Int32 → Hp → Prop} (eq : EQ E 0 0 (fun r h2 => ∃ x, r = [vI x] ∧ Q x h2)) {a1 : Int32} {a2 : Int32} {i3 : Nat} {h : Hp} {c n : Nat} (hc : c + 0 ≤ 0) (hn : n + 0 ≤ 0) (w : w_X11_lies_52  Q a1 a2 i3 h) : SW E 52 ([some (vP (some (11, 0))), some (vI (a1)), some (vI (a2)), some (vP (some (8, i3)))], [], h, c, n) := by
  exact k_X11_lies_52 cx hY eq (by omega) (by omega) ⟨_, rfl, w⟩
theorem s_X11_lies_57 {E : EnvT} {d : Nat} (cx : CX E "ShoreDay" cX11_lies 4 (some .int) "lies" (d + 2) 0 0) (hY : eY E = lay1) {Q : Int32 → Hp → Prop} (eq : EQ E 0 0 (fun r h2 => ∃ x, r = [vI x] ∧ Q x h2)) {a1 : Int32} {a2 : Int32} {i3 : Nat} {h : Hp} {c n : Nat} (hc : c + 0 ≤ 0) (hn : n + 0 ≤ 0) (w : w_X11_lies_57  Q a1 a2 i3 h) : SW E 57 ([some (vP (some (11, 0))), some (vI (a1)), some (vI (a2)), some (vP (some (8, i3)))], [], h, c, n) := by
  exact k_X11_lies_57 cx hY eq (by omega) (by omega) ⟨_, rfl, w⟩
theorem s_X11_lies_62 {E : EnvT} {d : Nat} (cx : CX E "ShoreDay" cX11_lies 4 (some .int) "lies" (d + 2) 0 0) (hY : eY E = lay1) {Q : Int32 → Hp → Prop} (eq : EQ E 0 0 (fun r h2 => ∃ x, r = [vI x] ∧ Q x h2)) {a1 : Int32} {a2 : Int32} {i3 : Nat} {h : Hp} {c n : Nat} (hc : c + 0 ≤ 0) (hn : n + 0 ≤ 0) (w : w_X11_lies_62  Q a1 a2 i3 h) : SW E 62 ([some (vP (some (11, 0))), some (vI (a1)), some (vI (a2)), some (vP (some (8, i3)))], [], h, c, n) := by
  exact k_X11_lies_62 cx hY eq (by omega) (by omega) ⟨_, rfl, w⟩
theorem s_X11_lies_67 {E : EnvT} {d : Nat} (cx : CX E "ShoreDay" cX11_lies 4 (some .int) "lies" (d + 2) 0 0) (hY : eY E = lay1) {Q : Int32 → Hp → Prop} (eq : EQ E 0 0 (fun r h2 => ∃ x, r = [vI x] ∧ Q x h2)) {a1 : Int32} {a2 : Int32} {p3 : Option PtrT} {h : Hp} {c n : Nat} (hc : c + 0 ≤ 0) (hn : n + 0 ≤ 0) (w : w_X11_lies_67  Q a1 a2 p3 h) : SW E 67 ([some (vP (some (11, 0))), some (vI (a1)), some (vI (a2)), some (vP (p3))], [], h, c, n) := by
  exact k_X11_lies_67 cx hY eq (by omega) (by omega) ⟨_, rfl, w⟩
theorem s_X11_lies_16 {E : EnvT} {d : Nat} (cx : CX E "ShoreDay" cX11_lies 4 (some .int) "lies" (d + 2) 0 0) (hY : eY E = lay1) {Q : Int32 → Hp → Prop} (eq : EQ E 0 0 (fun r h2 => ∃ x, r = [vI x] ∧ Q x h2)) {a1 : Int32} {a2 : Int32} {x3 : Option AVal} {h : Hp} {c n : Nat} (hc : c + 0 ≤ 0) (hn : n + 0 ≤ 0) (w : w_X11_lies_16  Q a1 a2 h) : SW E 16 ([some (vP (some (11, 0))), some (vI (a1)), some (vI (a2)), x3], [], h, c, n) := by
  obtain ⟨G1, w⟩ := w
  refine k_X11_lies_16 cx hY G1 (fun q => ?_) (fun j t hj q => ?_)
  · have w := w.1 q
    exact s_X11_lies_67 cx hY eq  (by omega) (by omega) w
  · match j, hj, q with
    | 0, hj, q =>
      cases hj
      have w := w.2.1 (by omega)
      obtain ⟨zl3, ezl3, w⟩ := w
      rw [ezl3]
      exact s_X11_lies_52 cx hY eq  (by omega) (by omega) w
    | 1, hj, q =>
      cases hj
      have w := w.2.2.1 (by omega)
      obtain ⟨zl3, ezl3, w⟩ := w
      rw [ezl3]
      exact s_X11_lies_57 cx hY eq  (by omega) (by omega) w
    | 2, hj, q =>
      cases hj
      have w := w.2.2.2 (by omega)
      obtain ⟨zl3, ezl3, w⟩ := w
      rw [ezl3]
      exact s_X11_lies_62 cx hY eq  (by omega) (by omega) w
    | j + 3, hj, _ => simp at hj
theorem s_X11_lies_14 {E : EnvT} {d : Nat} (cx : CX E "ShoreDay" cX11_lies 4 (some .int) "lies" (d + 2) 0 0) (hY : eY E = lay1) {Q : Int32 → Hp → Prop} (eq : EQ E 0 0 (fun r h2 => ∃ x, r = [vI x] ∧ Q x h2)) {a1 : Int32} {a2 : Int32} {x3 : Option AVal} {h : Hp} {c n : Nat} (hc : c + 0 ≤ 0) (hn : n + 0 ≤ 0) (w : w_X11_lies_14  Q a1 a2 h) : SW E 14 ([some (vP (some (11, 0))), some (vI (a1)), some (vI (a2)), x3], [], h, c, n) := by
  exact k_X11_lies_14 cx hY eq (by omega) (by omega) ⟨_, rfl, w⟩
theorem s_X11_lies_11 {E : EnvT} {d : Nat} (cx : CX E "ShoreDay" cX11_lies 4 (some .int) "lies" (d + 2) 0 0) (hY : eY E = lay1) {Q : Int32 → Hp → Prop} (eq : EQ E 0 0 (fun r h2 => ∃ x, r = [vI x] ∧ Q x h2)) {a1 : Int32} {a2 : Int32} {x3 : Option AVal} {s0 : Int32} {h : Hp} {c n : Nat} (hc : c + 0 ≤ 0) (hn : n + 0 ≤ 0) (w : w_X11_lies_11  Q a1 a2 s0 h) : SW E 11 ([some (vP (some (11, 0))), some (vI (a1)), some (vI (a2)), x3], [vI (s0)], h, c, n) := by
  refine k_X11_lies_11 cx hY (fun q => ?_) (fun q => ?_)
  · have w := w.1 q
    exact s_X11_lies_16 cx hY eq  (by omega) (by omega) w
  · have w := w.2 q
    exact s_X11_lies_14 cx hY eq  (by omega) (by omega) w
theorem s_X11_lies_0 {E : EnvT} {d : Nat} (cx : CX E "ShoreDay" cX11_lies 4 (some .int) "lies" (d + 2) 0 0) (hY : eY E = lay1) {Q : Int32 → Hp → Prop} (eq : EQ E 0 0 (fun r h2 => ∃ x, r = [vI x] ∧ Q x h2)) {a1 : Int32} {a2 : Int32} {x3 : Option AVal} {h : Hp} {c n : Nat} (hc : c + 0 ≤ 0) (hn : n + 0 ≤ 0) (w : w_X11_lies_0  Q a1 a2 h) : SW E 0 ([some (vP (some (11, 0))), some (vI (a1)), some (vI (a2)), x3], [], h, c, n) := by
  refine k_X11_lies_0 cx hY (ctY hY (vc_X11_within (d := d + 0) w)) (by omega) (by omega) (by omega) (fun r h2 hp => ?_)
  obtain ⟨r2, rfl, w⟩ := hp
  exact s_X11_lies_11 cx hY eq  (by omega) (by omega) w
def wp_X11_lies (a1 : Int32) (a2 : Int32) (h : Hp) (Q : Int32 → Hp → Prop) : Prop := w_X11_lies_0 Q a1 a2 h
theorem vc_X11_lies {l : Launch} {d : Nat} {a1 : Int32} {a2 : Int32} {h : Hp} {Q : Int32 → Hp → Prop} (w : wp_X11_lies a1 a2 h Q) : Ct l lay1 yX11_lies cX11_lies 4 (some .int) (d + 2) 0 0 [vP (some (11, 0)), vI a1, vI a2] h (fun r h2 => ∃ x, r = [vI x] ∧ Q x h2) := by
  exact Ct.of (by decide) (Nat.le_of_ble_eq_true rfl) fun E cx eq hl hY => s_X11_lies_0 cx hY eq (Nat.le_refl _) (Nat.le_refl _) w
def w_X11_guests_59 (Q : Int32 → Hp → Prop) (a1 : Int32) (a2 : Int32) (p3 : Option PtrT) (s0 : Int32) (h : Hp) : Prop := Q (s0) (h)
def w_X11_guests_52 (Q : Int32 → Hp → Prop) (a1 : Int32) (a2 : Int32) (p3 : Option PtrT) (h : Hp) : Prop := wp_X11_guestsIn (p3) ((0 : Int32)) ((0 : Int32)) (h) (fun r2 h2 => w_X11_guests_59  Q (a1) (a2) (p3) (r2) (h2))
def w_X11_guests_67 (Q : Int32 → Hp → Prop) (a1 : Int32) (a2 : Int32) (p3 : Option PtrT) (s0 : Int32) (h : Hp) : Prop := Q (s0) (h)
def w_X11_guests_60 (Q : Int32 → Hp → Prop) (a1 : Int32) (a2 : Int32) (p3 : Option PtrT) (h : Hp) : Prop := wp_X11_guestsIn (p3) ((1 : Int32)) ((1 : Int32)) (h) (fun r2 h2 => w_X11_guests_67  Q (a1) (a2) (p3) (r2) (h2))
def w_X11_guests_75 (Q : Int32 → Hp → Prop) (a1 : Int32) (a2 : Int32) (p3 : Option PtrT) (s0 : Int32) (h : Hp) : Prop := Q (s0) (h)
def w_X11_guests_68 (Q : Int32 → Hp → Prop) (a1 : Int32) (a2 : Int32) (p3 : Option PtrT) (h : Hp) : Prop := wp_X11_guestsIn (p3) ((2 : Int32)) ((4 : Int32)) (h) (fun r2 h2 => w_X11_guests_75  Q (a1) (a2) (p3) (r2) (h2))
def w_X11_guests_83 (Q : Int32 → Hp → Prop) (a1 : Int32) (a2 : Int32) (p3 : Option PtrT) (s0 : Int32) (h : Hp) : Prop := Q (s0) (h)
def w_X11_guests_76 (Q : Int32 → Hp → Prop) (a1 : Int32) (a2 : Int32) (p3 : Option PtrT) (h : Hp) : Prop := wp_X11_guestsIn (p3) ((5 : Int32)) ((5 : Int32)) (h) (fun r2 h2 => w_X11_guests_83  Q (a1) (a2) (p3) (r2) (h2))
def w_X11_guests_93 (Q : Int32 → Hp → Prop) (a1 : Int32) (a2 : Int32) (p3 : Option PtrT) (s0 : Int32) (h : Hp) : Prop := Q (s0) (h)
def w_X11_guests_84 (Q : Int32 → Hp → Prop) (a1 : Int32) (a2 : Int32) (p3 : Option PtrT) (h : Hp) : Prop := wp_X11_guestsIn (p3) ((6 : Int32)) ((6 : Int32)) (h) (fun r2 h2 => w_X11_guests_93  Q (a1) (a2) (p3) (r2) (h2))
def w_X11_guests_106 (Q : Int32 → Hp → Prop) (a1 : Int32) (a2 : Int32) (p3 : Option PtrT) (s0 : Int32) (h : Hp) : Prop := Q (s0) (h)
def w_X11_guests_105 (Q : Int32 → Hp → Prop) (a1 : Int32) (a2 : Int32) (p3 : Option PtrT) (h : Hp) : Prop := w_X11_guests_106  Q (a1) (a2) (p3) ((0 : Int32)) (h)
def w_X11_guests_101 (Q : Int32 → Hp → Prop) (a1 : Int32) (a2 : Int32) (p3 : Option PtrT) (h : Hp) : Prop := w_X11_guests_106  Q (a1) (a2) (p3) ((1 : Int32)) (h)
def w_X11_guests_94 (Q : Int32 → Hp → Prop) (a1 : Int32) (a2 : Int32) (i3 : Nat) (h : Hp) : Prop := ((gI (h) 6 (i3) (4)) = 0 → w_X11_guests_105  Q (a1) (a2) (some (6, i3)) (h)) ∧ (¬ (gI (h) 6 (i3) (4)) = 0 → w_X11_guests_101  Q (a1) (a2) (some (6, i3)) (h))
def w_X11_guests_107 (Q : Int32 → Hp → Prop) (a1 : Int32) (a2 : Int32) (p3 : Option PtrT) (h : Hp) : Prop := Q ((-1 : Int32)) (h)
def w_X11_guests_12 (Q : Int32 → Hp → Prop) (a1 : Int32) (a2 : Int32) (p3 : Option PtrT) (h : Hp) : Prop := ((a2).toInt < 0 ∨ 5 < (a2).toInt → w_X11_guests_107  Q (a1) (a2) (p3) (h)) ∧ ((a2).toInt = 0 → w_X11_guests_52  Q (a1) (a2) (p3) (h)) ∧ ((a2).toInt = 1 → w_X11_guests_60  Q (a1) (a2) (p3) (h)) ∧ ((a2).toInt = 2 → w_X11_guests_68  Q (a1) (a2) (p3) (h)) ∧ ((a2).toInt = 3 → w_X11_guests_76  Q (a1) (a2) (p3) (h)) ∧ ((a2).toInt = 4 → w_X11_guests_84  Q (a1) (a2) (p3) (h)) ∧ ((a2).toInt = 5 → ∃ zl3, p3 = some (6, zl3) ∧ (w_X11_guests_94  Q (a1) (a2) zl3 (h)))
def w_X11_guests_10 (Q : Int32 → Hp → Prop) (a1 : Int32) (a2 : Int32) (p3 : Option PtrT) (h : Hp) : Prop := Q ((-1 : Int32)) (h)
def w_X11_guests_5 (Q : Int32 → Hp → Prop) (a1 : Int32) (a2 : Int32) (q0 : Option PtrT) (h : Hp) : Prop := (¬ (q0) = none → w_X11_guests_12  Q (a1) (a2) (q0) (h)) ∧ ((q0) = none → w_X11_guests_10  Q (a1) (a2) (q0) (h))
def w_X11_guests_0 (Q : Int32 → Hp → Prop) (a1 : Int32) (a2 : Int32) (h : Hp) : Prop := wp_X11_shipAt (a1) (h) (fun r2 h2 => w_X11_guests_5  Q (a1) (a2) (r2) (h2))
theorem s_X11_guests_59 {E : EnvT} {d : Nat} (cx : CX E "ShoreDay" cX11_guests 4 (some .int) "guests" (d + 3) 0 0) (hY : eY E = lay1) {Q : Int32 → Hp → Prop} (eq : EQ E 0 0 (fun r h2 => ∃ x, r = [vI x] ∧ Q x h2)) {a1 : Int32} {a2 : Int32} {p3 : Option PtrT} {s0 : Int32} {h : Hp} {c n : Nat} (hc : c + 0 ≤ 0) (hn : n + 0 ≤ 0) (w : w_X11_guests_59  Q a1 a2 p3 s0 h) : SW E 59 ([some (vP (some (11, 0))), some (vI (a1)), some (vI (a2)), some (vP (p3))], [vI (s0)], h, c, n) := by
  exact k_X11_guests_59 cx hY eq (by omega) (by omega) ⟨_, rfl, w⟩
theorem s_X11_guests_52 {E : EnvT} {d : Nat} (cx : CX E "ShoreDay" cX11_guests 4 (some .int) "guests" (d + 3) 0 0) (hY : eY E = lay1) {Q : Int32 → Hp → Prop} (eq : EQ E 0 0 (fun r h2 => ∃ x, r = [vI x] ∧ Q x h2)) {a1 : Int32} {a2 : Int32} {p3 : Option PtrT} {h : Hp} {c n : Nat} (hc : c + 0 ≤ 0) (hn : n + 0 ≤ 0) (w : w_X11_guests_52  Q a1 a2 p3 h) : SW E 52 ([some (vP (some (11, 0))), some (vI (a1)), some (vI (a2)), some (vP (p3))], [], h, c, n) := by
  refine k_X11_guests_52 cx hY (ctY hY (vc_X11_guestsIn (d := d + 0) w)) (by omega) (by omega) (by omega) (fun r h2 hp => ?_)
  obtain ⟨r2, rfl, w⟩ := hp
  exact s_X11_guests_59 cx hY eq  (by omega) (by omega) w
theorem s_X11_guests_67 {E : EnvT} {d : Nat} (cx : CX E "ShoreDay" cX11_guests 4 (some .int) "guests" (d + 3) 0 0) (hY : eY E = lay1) {Q : Int32 → Hp → Prop} (eq : EQ E 0 0 (fun r h2 => ∃ x, r = [vI x] ∧ Q x h2)) {a1 : Int32} {a2 : Int32} {p3 : Option PtrT} {s0 : Int32} {h : Hp} {c n : Nat} (hc : c + 0 ≤ 0) (hn : n + 0 ≤ 0) (w : w_X11_guests_67  Q a1 a2 p3 s0 h) : SW E 67 ([some (vP (some (11, 0))), some (vI (a1)), some (vI (a2)), some (vP (p3))], [vI (s0)], h, c, n) := by
  exact k_X11_guests_67 cx hY eq (by omega) (by omega) ⟨_, rfl, w⟩
theorem s_X11_guests_60 {E : EnvT} {d : Nat} (cx : CX E "ShoreDay" cX11_guests 4 (some .int) "guests" (d + 3) 0 0) (hY : eY E = lay1) {Q : Int32 → Hp → Prop} (eq : EQ E 0 0 (fun r h2 => ∃ x, r = [vI x] ∧ Q x h2)) {a1 : Int32} {a2 : Int32} {p3 : Option PtrT} {h : Hp} {c n : Nat} (hc : c + 0 ≤ 0) (hn : n + 0 ≤ 0) (w : w_X11_guests_60  Q a1 a2 p3 h) : SW E 60 ([some (vP (some (11, 0))), some (vI (a1)), some (vI (a2)), some (vP (p3))], [], h, c, n) := by
  refine k_X11_guests_60 cx hY (ctY hY (vc_X11_guestsIn (d := d + 0) w)) (by omega) (by omega) (by omega) (fun r h2 hp => ?_)
  obtain ⟨r2, rfl, w⟩ := hp
  exact s_X11_guests_67 cx hY eq  (by omega) (by omega) w
theorem s_X11_guests_75 {E : EnvT} {d : Nat} (cx : CX E "ShoreDay" cX11_guests 4 (some .int) "guests" (d + 3) 0 0) (hY : eY E = lay1) {Q : Int32 → Hp → Prop} (eq : EQ E 0 0 (fun r h2 => ∃ x, r = [vI x] ∧ Q x h2)) {a1 : Int32} {a2 : Int32} {p3 : Option PtrT} {s0 : Int32} {h : Hp} {c n : Nat} (hc : c + 0 ≤ 0) (hn : n + 0 ≤ 0) (w : w_X11_guests_75  Q a1 a2 p3 s0 h) : SW E 75 ([some (vP (some (11, 0))), some (vI (a1)), some (vI (a2)), some (vP (p3))], [vI (s0)], h, c, n) := by
  exact k_X11_guests_75 cx hY eq (by omega) (by omega) ⟨_, rfl, w⟩
theorem s_X11_guests_68 {E : EnvT} {d : Nat} (cx : CX E "ShoreDay" cX11_guests 4 (some .int) "guests" (d + 3) 0 0) (hY : eY E = lay1) {Q : Int32 → Hp → Prop} (eq : EQ E 0 0 (fun r h2 => ∃ x, r = [vI x] ∧ Q x h2)) {a1 : Int32} {a2 : Int32} {p3 : Option PtrT} {h : Hp} {c n : Nat} (hc : c + 0 ≤ 0) (hn : n + 0 ≤ 0) (w : w_X11_guests_68  Q a1 a2 p3 h) : SW E 68 ([some (vP (some (11, 0))), some (vI (a1)), some (vI (a2)), some (vP (p3))], [], h, c, n) := by
  refine k_X11_guests_68 cx hY (ctY hY (vc_X11_guestsIn (d := d + 0) w)) (by omega) (by omega) (by omega) (fun r h2 hp => ?_)
  obtain ⟨r2, rfl, w⟩ := hp
  exact s_X11_guests_75 cx hY eq  (by omega) (by omega) w
theorem s_X11_guests_83 {E : EnvT} {d : Nat} (cx : CX E "ShoreDay" cX11_guests 4 (some .int) "guests" (d + 3) 0 0) (hY : eY E = lay1) {Q : Int32 → Hp → Prop} (eq : EQ E 0 0 (fun r h2 => ∃ x, r = [vI x] ∧ Q x h2)) {a1 : Int32} {a2 : Int32} {p3 : Option PtrT} {s0 : Int32} {h : Hp} {c n : Nat} (hc : c + 0 ≤ 0) (hn : n + 0 ≤ 0) (w : w_X11_guests_83  Q a1 a2 p3 s0 h) : SW E 83 ([some (vP (some (11, 0))), some (vI (a1)), some (vI (a2)), some (vP (p3))], [vI (s0)], h, c, n) := by
  exact k_X11_guests_83 cx hY eq (by omega) (by omega) ⟨_, rfl, w⟩
theorem s_X11_guests_76 {E : EnvT} {d : Nat} (cx : CX E "ShoreDay" cX11_guests 4 (some .int) "guests" (d + 3) 0 0) (hY : eY E = lay1) {Q : Int32 → Hp → Prop} (eq : EQ E 0 0 (fun r h2 => ∃ x, r = [vI x] ∧ Q x h2)) {a1 : Int32} {a2 : Int32} {p3 : Option PtrT} {h : Hp} {c n : Nat} (hc : c + 0 ≤ 0) (hn : n + 0 ≤ 0) (w : w_X11_guests_76  Q a1 a2 p3 h) : SW E 76 ([some (vP (some (11, 0))), some (vI (a1)), some (vI (a2)), some (vP (p3))], [], h, c, n) := by
  refine k_X11_guests_76 cx hY (ctY hY (vc_X11_guestsIn (d := d + 0) w)) (by omega) (by omega) (by omega) (fun r h2 hp => ?_)
  obtain ⟨r2, rfl, w⟩ := hp
  exact s_X11_guests_83 cx hY eq  (by omega) (by omega) w
theorem s_X11_guests_93 {E : EnvT} {d : Nat} (cx : CX E "ShoreDay" cX11_guests 4 (some .int) "guests" (d + 3) 0 0) (hY : eY E = lay1) {Q : Int32 → Hp → Prop} (eq : EQ E 0 0 (fun r h2 => ∃ x, r = [vI x] ∧ Q x h2)) {a1 : Int32} {a2 : Int32} {p3 : Option PtrT} {s0 : Int32} {h : Hp} {c n : Nat} (hc : c + 0 ≤ 0) (hn : n + 0 ≤ 0) (w : w_X11_guests_93  Q a1 a2 p3 s0 h) : SW E 93 ([some (vP (some (11, 0))), some (vI (a1)), some (vI (a2)), some (vP (p3))], [vI (s0)], h, c, n) := by
  exact k_X11_guests_93 cx hY eq (by omega) (by omega) ⟨_, rfl, w⟩
theorem s_X11_guests_84 {E : EnvT} {d : Nat} (cx : CX E "ShoreDay" cX11_guests 4 (some .int) "guests" (d + 3) 0 0) (hY : eY E = lay1) {Q : Int32 → Hp → Prop} (eq : EQ E 0 0 (fun r h2 => ∃ x, r = [vI x] ∧ Q x h2)) {a1 : Int32} {a2 : Int32} {p3 : Option PtrT} {h : Hp} {c n : Nat} (hc : c + 0 ≤ 0) (hn : n + 0 ≤ 0) (w : w_X11_guests_84  Q a1 a2 p3 h) : SW E 84 ([some (vP (some (11, 0))), some (vI (a1)), some (vI (a2)), some (vP (p3))], [], h, c, n) := by
  refine k_X11_guests_84 cx hY (ctY hY (vc_X11_guestsIn (d := d + 0) w)) (by omega) (by omega) (by omega) (fun r h2 hp => ?_)
  obtain ⟨r2, rfl, w⟩ := hp
  exact s_X11_guests_93 cx hY eq  (by omega) (by omega) w
theorem s_X11_guests_106 {E : EnvT} {d : Nat} (cx : CX E "ShoreDay" cX11_guests 4 (some .int) "guests" (d + 3) 0 0) (hY : eY E = lay1) {Q : Int32 → Hp → Prop} (eq : EQ E 0 0 (fun r h2 => ∃ x, r = [vI x] ∧ Q x h2)) {a1 : Int32} {a2 : Int32} {p3 : Option PtrT} {s0 : Int32} {h : Hp} {c n : Nat} (hc : c + 0 ≤ 0) (hn : n + 0 ≤ 0) (w : w_X11_guests_106  Q a1 a2 p3 s0 h) : SW E 106 ([some (vP (some (11, 0))), some (vI (a1)), some (vI (a2)), some (vP (p3))], [vI (s0)], h, c, n) := by
  exact k_X11_guests_106 cx hY eq (by omega) (by omega) ⟨_, rfl, w⟩
theorem s_X11_guests_105 {E : EnvT} {d : Nat} (cx : CX E "ShoreDay" cX11_guests 4 (some .int) "guests" (d + 3) 0 0) (hY : eY E = lay1) {Q : Int32 → Hp → Prop} (eq : EQ E 0 0 (fun r h2 => ∃ x, r = [vI x] ∧ Q x h2)) {a1 : Int32} {a2 : Int32} {p3 : Option PtrT} {h : Hp} {c n : Nat} (hc : c + 0 ≤ 0) (hn : n + 0 ≤ 0) (w : w_X11_guests_105  Q a1 a2 p3 h) : SW E 105 ([some (vP (some (11, 0))), some (vI (a1)), some (vI (a2)), some (vP (p3))], [], h, c, n) := by
  refine k_X11_guests_105 cx hY ?_
  exact s_X11_guests_106 cx hY eq  (by omega) (by omega) w
theorem s_X11_guests_101 {E : EnvT} {d : Nat} (cx : CX E "ShoreDay" cX11_guests 4 (some .int) "guests" (d + 3) 0 0) (hY : eY E = lay1) {Q : Int32 → Hp → Prop} (eq : EQ E 0 0 (fun r h2 => ∃ x, r = [vI x] ∧ Q x h2)) {a1 : Int32} {a2 : Int32} {p3 : Option PtrT} {h : Hp} {c n : Nat} (hc : c + 0 ≤ 0) (hn : n + 0 ≤ 0) (w : w_X11_guests_101  Q a1 a2 p3 h) : SW E 101 ([some (vP (some (11, 0))), some (vI (a1)), some (vI (a2)), some (vP (p3))], [], h, c, n) := by
  refine k_X11_guests_101 cx hY ?_
  exact s_X11_guests_106 cx hY eq  (by omega) (by omega) w
theorem s_X11_guests_94 {E : EnvT} {d : Nat} (cx : CX E "ShoreDay" cX11_guests 4 (some .int) "guests" (d + 3) 0 0) (hY : eY E = lay1) {Q : Int32 → Hp → Prop} (eq : EQ E 0 0 (fun r h2 => ∃ x, r = [vI x] ∧ Q x h2)) {a1 : Int32} {a2 : Int32} {i3 : Nat} {h : Hp} {c n : Nat} (hc : c + 0 ≤ 0) (hn : n + 0 ≤ 0) (w : w_X11_guests_94  Q a1 a2 i3 h) : SW E 94 ([some (vP (some (11, 0))), some (vI (a1)), some (vI (a2)), some (vP (some (6, i3)))], [], h, c, n) := by
  refine k_X11_guests_94 cx hY (fun q => ?_) (fun q => ?_)
  · have w := w.1 q
    exact s_X11_guests_105 cx hY eq  (by omega) (by omega) w
  · have w := w.2 q
    exact s_X11_guests_101 cx hY eq  (by omega) (by omega) w
theorem s_X11_guests_107 {E : EnvT} {d : Nat} (cx : CX E "ShoreDay" cX11_guests 4 (some .int) "guests" (d + 3) 0 0) (hY : eY E = lay1) {Q : Int32 → Hp → Prop} (eq : EQ E 0 0 (fun r h2 => ∃ x, r = [vI x] ∧ Q x h2)) {a1 : Int32} {a2 : Int32} {p3 : Option PtrT} {h : Hp} {c n : Nat} (hc : c + 0 ≤ 0) (hn : n + 0 ≤ 0) (w : w_X11_guests_107  Q a1 a2 p3 h) : SW E 107 ([some (vP (some (11, 0))), some (vI (a1)), some (vI (a2)), some (vP (p3))], [], h, c, n) := by
  exact k_X11_guests_107 cx hY eq (by omega) (by omega) ⟨_, rfl, w⟩
theorem s_X11_guests_12 {E : EnvT} {d : Nat} (cx : CX E "ShoreDay" cX11_guests 4 (some .int) "guests" (d + 3) 0 0) (hY : eY E = lay1) {Q : Int32 → Hp → Prop} (eq : EQ E 0 0 (fun r h2 => ∃ x, r = [vI x] ∧ Q x h2)) {a1 : Int32} {a2 : Int32} {p3 : Option PtrT} {h : Hp} {c n : Nat} (hc : c + 0 ≤ 0) (hn : n + 0 ≤ 0) (w : w_X11_guests_12  Q a1 a2 p3 h) : SW E 12 ([some (vP (some (11, 0))), some (vI (a1)), some (vI (a2)), some (vP (p3))], [], h, c, n) := by
  refine k_X11_guests_12 cx hY (fun q => ?_) (fun j t hj q => ?_)
  · have w := w.1 q
    exact s_X11_guests_107 cx hY eq  (by omega) (by omega) w
  · match j, hj, q with
    | 0, hj, q =>
      cases hj
      have w := w.2.1 (by omega)
      exact s_X11_guests_52 cx hY eq  (by omega) (by omega) w
    | 1, hj, q =>
      cases hj
      have w := w.2.2.1 (by omega)
      exact s_X11_guests_60 cx hY eq  (by omega) (by omega) w
    | 2, hj, q =>
      cases hj
      have w := w.2.2.2.1 (by omega)
      exact s_X11_guests_68 cx hY eq  (by omega) (by omega) w
    | 3, hj, q =>
      cases hj
      have w := w.2.2.2.2.1 (by omega)
      exact s_X11_guests_76 cx hY eq  (by omega) (by omega) w
    | 4, hj, q =>
      cases hj
      have w := w.2.2.2.2.2.1 (by omega)
      exact s_X11_guests_84 cx hY eq  (by omega) (by omega) w
    | 5, hj, q =>
      cases hj
      have w := w.2.2.2.2.2.2 (by omega)
      obtain ⟨zl3, ezl3, w⟩ := w
      rw [ezl3]
      exact s_X11_guests_94 cx hY eq  (by omega) (by omega) w
    | j + 6, hj, _ => simp at hj
theorem s_X11_guests_10 {E : EnvT} {d : Nat} (cx : CX E "ShoreDay" cX11_guests 4 (some .int) "guests" (d + 3) 0 0) (hY : eY E = lay1) {Q : Int32 → Hp → Prop} (eq : EQ E 0 0 (fun r h2 => ∃ x, r = [vI x] ∧ Q x h2)) {a1 : Int32} {a2 : Int32} {p3 : Option PtrT} {h : Hp} {c n : Nat} (hc : c + 0 ≤ 0) (hn : n + 0 ≤ 0) (w : w_X11_guests_10  Q a1 a2 p3 h) : SW E 10 ([some (vP (some (11, 0))), some (vI (a1)), some (vI (a2)), some (vP (p3))], [], h, c, n) := by
  exact k_X11_guests_10 cx hY eq (by omega) (by omega) ⟨_, rfl, w⟩
theorem s_X11_guests_5 {E : EnvT} {d : Nat} (cx : CX E "ShoreDay" cX11_guests 4 (some .int) "guests" (d + 3) 0 0) (hY : eY E = lay1) {Q : Int32 → Hp → Prop} (eq : EQ E 0 0 (fun r h2 => ∃ x, r = [vI x] ∧ Q x h2)) {a1 : Int32} {a2 : Int32} {x3 : Option AVal} {q0 : Option PtrT} {h : Hp} {c n : Nat} (hc : c + 0 ≤ 0) (hn : n + 0 ≤ 0) (w : w_X11_guests_5  Q a1 a2 q0 h) : SW E 5 ([some (vP (some (11, 0))), some (vI (a1)), some (vI (a2)), x3], [vP (q0)], h, c, n) := by
  refine k_X11_guests_5 cx hY (fun q => ?_) (fun q => ?_)
  · have w := w.1 q
    exact s_X11_guests_12 cx hY eq  (by omega) (by omega) w
  · have w := w.2 q
    exact s_X11_guests_10 cx hY eq  (by omega) (by omega) w
theorem s_X11_guests_0 {E : EnvT} {d : Nat} (cx : CX E "ShoreDay" cX11_guests 4 (some .int) "guests" (d + 3) 0 0) (hY : eY E = lay1) {Q : Int32 → Hp → Prop} (eq : EQ E 0 0 (fun r h2 => ∃ x, r = [vI x] ∧ Q x h2)) {a1 : Int32} {a2 : Int32} {x3 : Option AVal} {h : Hp} {c n : Nat} (hc : c + 0 ≤ 0) (hn : n + 0 ≤ 0) (w : w_X11_guests_0  Q a1 a2 h) : SW E 0 ([some (vP (some (11, 0))), some (vI (a1)), some (vI (a2)), x3], [], h, c, n) := by
  refine k_X11_guests_0 cx hY (ctY hY (vc_X11_shipAt (d := d + 0) w)) (by omega) (by omega) (by omega) (fun r h2 hp => ?_)
  obtain ⟨r2, rfl, w⟩ := hp
  exact s_X11_guests_5 cx hY eq  (by omega) (by omega) w
def wp_X11_guests (a1 : Int32) (a2 : Int32) (h : Hp) (Q : Int32 → Hp → Prop) : Prop := w_X11_guests_0 Q a1 a2 h
theorem vc_X11_guests {l : Launch} {d : Nat} {a1 : Int32} {a2 : Int32} {h : Hp} {Q : Int32 → Hp → Prop} (w : wp_X11_guests a1 a2 h Q) : Ct l lay1 yX11_guests cX11_guests 4 (some .int) (d + 3) 0 0 [vP (some (11, 0)), vI a1, vI a2] h (fun r h2 => ∃ x, r = [vI x] ∧ Q x h2) := by
  exact Ct.of (by decide) (Nat.le_of_ble_eq_true rfl) fun E cx eq hl hY => s_X11_guests_0 cx hY eq (Nat.le_refl _) (Nat.le_refl _) w
def w_X11_rides_40 (Q : Int32 → Hp → Prop) (a1 : Int32) (a2 : Int32) (i3 : Nat) (h : Hp) : Prop := Q (gI (h) 10 (i3) (4)) (h)
def w_X11_rides_45 (Q : Int32 → Hp → Prop) (a1 : Int32) (a2 : Int32) (i3 : Nat) (h : Hp) : Prop := Q ((gI (h) 10 (i3) (2)) - (gI (h) 10 (i3) (4))) (h)
def w_X11_rides_71 (Q : Int32 → Hp → Prop) (a1 : Int32) (a2 : Int32) (p3 : Option PtrT) (s0 : Int32) (h : Hp) : Prop := Q (s0) (h)
def w_X11_rides_70 (Q : Int32 → Hp → Prop) (a1 : Int32) (a2 : Int32) (p3 : Option PtrT) (h : Hp) : Prop := w_X11_rides_71  Q (a1) (a2) (p3) ((0 : Int32)) (h)
def w_X11_rides_66 (Q : Int32 → Hp → Prop) (a1 : Int32) (a2 : Int32) (p3 : Option PtrT) (h : Hp) : Prop := w_X11_rides_71  Q (a1) (a2) (p3) ((1 : Int32)) (h)
def w_X11_rides_55 (Q : Int32 → Hp → Prop) (a1 : Int32) (a2 : Int32) (i3 : Nat) (h : Hp) : Prop := ((gI (h) 11 (0) (14)) < (gI (h) 10 (i3) (0)) → w_X11_rides_70  Q (a1) (a2) (some (10, i3)) (h)) ∧ (¬ (gI (h) 11 (0) (14)) < (gI (h) 10 (i3) (0)) → w_X11_rides_66  Q (a1) (a2) (some (10, i3)) (h))
def w_X11_rides_72 (Q : Int32 → Hp → Prop) (a1 : Int32) (a2 : Int32) (p3 : Option PtrT) (h : Hp) : Prop := Q ((-1 : Int32)) (h)
def w_X11_rides_12 (Q : Int32 → Hp → Prop) (a1 : Int32) (a2 : Int32) (p3 : Option PtrT) (h : Hp) : Prop := ((a2).toInt < 0 ∨ 2 < (a2).toInt → w_X11_rides_72  Q (a1) (a2) (p3) (h)) ∧ ((a2).toInt = 0 → ∃ zl3, p3 = some (10, zl3) ∧ (w_X11_rides_40  Q (a1) (a2) zl3 (h))) ∧ ((a2).toInt = 1 → ∃ zl3, p3 = some (10, zl3) ∧ (w_X11_rides_45  Q (a1) (a2) zl3 (h))) ∧ ((a2).toInt = 2 → ∃ zl3, p3 = some (10, zl3) ∧ (w_X11_rides_55  Q (a1) (a2) zl3 (h)))
def w_X11_rides_10 (Q : Int32 → Hp → Prop) (a1 : Int32) (a2 : Int32) (p3 : Option PtrT) (h : Hp) : Prop := Q ((-1 : Int32)) (h)
def w_X11_rides_5 (Q : Int32 → Hp → Prop) (a1 : Int32) (a2 : Int32) (q0 : Option PtrT) (h : Hp) : Prop := (¬ (q0) = none → w_X11_rides_12  Q (a1) (a2) (q0) (h)) ∧ ((q0) = none → w_X11_rides_10  Q (a1) (a2) (q0) (h))
def w_X11_rides_0 (Q : Int32 → Hp → Prop) (a1 : Int32) (a2 : Int32) (h : Hp) : Prop := wp_X11_tourAt (a1) (h) (fun r2 h2 => w_X11_rides_5  Q (a1) (a2) (r2) (h2))
theorem s_X11_rides_40 {E : EnvT} {d : Nat} (cx : CX E "ShoreDay" cX11_rides 4 (some .int) "rides" (d + 3) 0 0) (hY : eY E = lay1) {Q : Int32 → Hp → Prop} (eq : EQ E 0 0 (fun r h2 => ∃ x, r = [vI x] ∧ Q x h2)) {a1 : Int32} {a2 : Int32} {i3 : Nat} {h : Hp} {c n : Nat} (hc : c + 0 ≤ 0) (hn : n + 0 ≤ 0) (w : w_X11_rides_40  Q a1 a2 i3 h) : SW E 40 ([some (vP (some (11, 0))), some (vI (a1)), some (vI (a2)), some (vP (some (10, i3)))], [], h, c, n) := by
  exact k_X11_rides_40 cx hY eq (by omega) (by omega) ⟨_, rfl, w⟩
theorem s_X11_rides_45 {E : EnvT} {d : Nat} (cx : CX E "ShoreDay" cX11_rides 4 (some .int) "rides" (d + 3) 0 0) (hY : eY E = lay1) {Q : Int32 → Hp → Prop} (eq : EQ E 0 0 (fun r h2 => ∃ x, r = [vI x] ∧ Q x h2)) {a1 : Int32} {a2 : Int32} {i3 : Nat} {h : Hp} {c n : Nat} (hc : c + 0 ≤ 0) (hn : n + 0 ≤ 0) (w : w_X11_rides_45  Q a1 a2 i3 h) : SW E 45 ([some (vP (some (11, 0))), some (vI (a1)), some (vI (a2)), some (vP (some (10, i3)))], [], h, c, n) := by
  exact k_X11_rides_45 cx hY eq (by omega) (by omega) ⟨_, rfl, w⟩
theorem s_X11_rides_71 {E : EnvT} {d : Nat} (cx : CX E "ShoreDay" cX11_rides 4 (some .int) "rides" (d + 3) 0 0) (hY : eY E = lay1) {Q : Int32 → Hp → Prop} (eq : EQ E 0 0 (fun r h2 => ∃ x, r = [vI x] ∧ Q x h2)) {a1 : Int32} {a2 : Int32} {p3 : Option PtrT} {s0 : Int32} {h : Hp} {c n : Nat} (hc : c + 0 ≤ 0) (hn : n + 0 ≤ 0) (w : w_X11_rides_71  Q a1 a2 p3 s0 h) : SW E 71 ([some (vP (some (11, 0))), some (vI (a1)), some (vI (a2)), some (vP (p3))], [vI (s0)], h, c, n) := by
  exact k_X11_rides_71 cx hY eq (by omega) (by omega) ⟨_, rfl, w⟩
theorem s_X11_rides_70 {E : EnvT} {d : Nat} (cx : CX E "ShoreDay" cX11_rides 4 (some .int) "rides" (d + 3) 0 0) (hY : eY E = lay1) {Q : Int32 → Hp → Prop} (eq : EQ E 0 0 (fun r h2 => ∃ x, r = [vI x] ∧ Q x h2)) {a1 : Int32} {a2 : Int32} {p3 : Option PtrT} {h : Hp} {c n : Nat} (hc : c + 0 ≤ 0) (hn : n + 0 ≤ 0) (w : w_X11_rides_70  Q a1 a2 p3 h) : SW E 70 ([some (vP (some (11, 0))), some (vI (a1)), some (vI (a2)), some (vP (p3))], [], h, c, n) := by
  refine k_X11_rides_70 cx hY ?_
  exact s_X11_rides_71 cx hY eq  (by omega) (by omega) w
theorem s_X11_rides_66 {E : EnvT} {d : Nat} (cx : CX E "ShoreDay" cX11_rides 4 (some .int) "rides" (d + 3) 0 0) (hY : eY E = lay1) {Q : Int32 → Hp → Prop} (eq : EQ E 0 0 (fun r h2 => ∃ x, r = [vI x] ∧ Q x h2)) {a1 : Int32} {a2 : Int32} {p3 : Option PtrT} {h : Hp} {c n : Nat} (hc : c + 0 ≤ 0) (hn : n + 0 ≤ 0) (w : w_X11_rides_66  Q a1 a2 p3 h) : SW E 66 ([some (vP (some (11, 0))), some (vI (a1)), some (vI (a2)), some (vP (p3))], [], h, c, n) := by
  refine k_X11_rides_66 cx hY ?_
  exact s_X11_rides_71 cx hY eq  (by omega) (by omega) w
theorem s_X11_rides_55 {E : EnvT} {d : Nat} (cx : CX E "ShoreDay" cX11_rides 4 (some .int) "rides" (d + 3) 0 0) (hY : eY E = lay1) {Q : Int32 → Hp → Prop} (eq : EQ E 0 0 (fun r h2 => ∃ x, r = [vI x] ∧ Q x h2)) {a1 : Int32} {a2 : Int32} {i3 : Nat} {h : Hp} {c n : Nat} (hc : c + 0 ≤ 0) (hn : n + 0 ≤ 0) (w : w_X11_rides_55  Q a1 a2 i3 h) : SW E 55 ([some (vP (some (11, 0))), some (vI (a1)), some (vI (a2)), some (vP (some (10, i3)))], [], h, c, n) := by
  refine k_X11_rides_55 cx hY (fun q => ?_) (fun q => ?_)
  · have w := w.1 q
    exact s_X11_rides_70 cx hY eq  (by omega) (by omega) w
  · have w := w.2 q
    exact s_X11_rides_66 cx hY eq  (by omega) (by omega) w
theorem s_X11_rides_72 {E : EnvT} {d : Nat} (cx : CX E "ShoreDay" cX11_rides 4 (some .int) "rides" (d + 3) 0 0) (hY : eY E = lay1) {Q : Int32 → Hp → Prop} (eq : EQ E 0 0 (fun r h2 => ∃ x, r = [vI x] ∧ Q x h2)) {a1 : Int32} {a2 : Int32} {p3 : Option PtrT} {h : Hp} {c n : Nat} (hc : c + 0 ≤ 0) (hn : n + 0 ≤ 0) (w : w_X11_rides_72  Q a1 a2 p3 h) : SW E 72 ([some (vP (some (11, 0))), some (vI (a1)), some (vI (a2)), some (vP (p3))], [], h, c, n) := by
  exact k_X11_rides_72 cx hY eq (by omega) (by omega) ⟨_, rfl, w⟩
theorem s_X11_rides_12 {E : EnvT} {d : Nat} (cx : CX E "ShoreDay" cX11_rides 4 (some .int) "rides" (d + 3) 0 0) (hY : eY E = lay1) {Q : Int32 → Hp → Prop} (eq : EQ E 0 0 (fun r h2 => ∃ x, r = [vI x] ∧ Q x h2)) {a1 : Int32} {a2 : Int32} {p3 : Option PtrT} {h : Hp} {c n : Nat} (hc : c + 0 ≤ 0) (hn : n + 0 ≤ 0) (w : w_X11_rides_12  Q a1 a2 p3 h) : SW E 12 ([some (vP (some (11, 0))), some (vI (a1)), some (vI (a2)), some (vP (p3))], [], h, c, n) := by
  refine k_X11_rides_12 cx hY (fun q => ?_) (fun j t hj q => ?_)
  · have w := w.1 q
    exact s_X11_rides_72 cx hY eq  (by omega) (by omega) w
  · match j, hj, q with
    | 0, hj, q =>
      cases hj
      have w := w.2.1 (by omega)
      obtain ⟨zl3, ezl3, w⟩ := w
      rw [ezl3]
      exact s_X11_rides_40 cx hY eq  (by omega) (by omega) w
    | 1, hj, q =>
      cases hj
      have w := w.2.2.1 (by omega)
      obtain ⟨zl3, ezl3, w⟩ := w
      rw [ezl3]
      exact s_X11_rides_45 cx hY eq  (by omega) (by omega) w
    | 2, hj, q =>
      cases hj
      have w := w.2.2.2 (by omega)
      obtain ⟨zl3, ezl3, w⟩ := w
      rw [ezl3]
      exact s_X11_rides_55 cx hY eq  (by omega) (by omega) w
    | j + 3, hj, _ => simp at hj
theorem s_X11_rides_10 {E : EnvT} {d : Nat} (cx : CX E "ShoreDay" cX11_rides 4 (some .int) "rides" (d + 3) 0 0) (hY : eY E = lay1) {Q : Int32 → Hp → Prop} (eq : EQ E 0 0 (fun r h2 => ∃ x, r = [vI x] ∧ Q x h2)) {a1 : Int32} {a2 : Int32} {p3 : Option PtrT} {h : Hp} {c n : Nat} (hc : c + 0 ≤ 0) (hn : n + 0 ≤ 0) (w : w_X11_rides_10  Q a1 a2 p3 h) : SW E 10 ([some (vP (some (11, 0))), some (vI (a1)), some (vI (a2)), some (vP (p3))], [], h, c, n) := by
  exact k_X11_rides_10 cx hY eq (by omega) (by omega) ⟨_, rfl, w⟩
theorem s_X11_rides_5 {E : EnvT} {d : Nat} (cx : CX E "ShoreDay" cX11_rides 4 (some .int) "rides" (d + 3) 0 0) (hY : eY E = lay1) {Q : Int32 → Hp → Prop} (eq : EQ E 0 0 (fun r h2 => ∃ x, r = [vI x] ∧ Q x h2)) {a1 : Int32} {a2 : Int32} {x3 : Option AVal} {q0 : Option PtrT} {h : Hp} {c n : Nat} (hc : c + 0 ≤ 0) (hn : n + 0 ≤ 0) (w : w_X11_rides_5  Q a1 a2 q0 h) : SW E 5 ([some (vP (some (11, 0))), some (vI (a1)), some (vI (a2)), x3], [vP (q0)], h, c, n) := by
  refine k_X11_rides_5 cx hY (fun q => ?_) (fun q => ?_)
  · have w := w.1 q
    exact s_X11_rides_12 cx hY eq  (by omega) (by omega) w
  · have w := w.2 q
    exact s_X11_rides_10 cx hY eq  (by omega) (by omega) w
theorem s_X11_rides_0 {E : EnvT} {d : Nat} (cx : CX E "ShoreDay" cX11_rides 4 (some .int) "rides" (d + 3) 0 0) (hY : eY E = lay1) {Q : Int32 → Hp → Prop} (eq : EQ E 0 0 (fun r h2 => ∃ x, r = [vI x] ∧ Q x h2)) {a1 : Int32} {a2 : Int32} {x3 : Option AVal} {h : Hp} {c n : Nat} (hc : c + 0 ≤ 0) (hn : n + 0 ≤ 0) (w : w_X11_rides_0  Q a1 a2 h) : SW E 0 ([some (vP (some (11, 0))), some (vI (a1)), some (vI (a2)), x3], [], h, c, n) := by
  refine k_X11_rides_0 cx hY (ctY hY (vc_X11_tourAt (d := d + 0) w)) (by omega) (by omega) (by omega) (fun r h2 hp => ?_)
  obtain ⟨r2, rfl, w⟩ := hp
  exact s_X11_rides_5 cx hY eq  (by omega) (by omega) w
def wp_X11_rides (a1 : Int32) (a2 : Int32) (h : Hp) (Q : Int32 → Hp → Prop) : Prop := w_X11_rides_0 Q a1 a2 h
theorem vc_X11_rides {l : Launch} {d : Nat} {a1 : Int32} {a2 : Int32} {h : Hp} {Q : Int32 → Hp → Prop} (w : wp_X11_rides a1 a2 h Q) : Ct l lay1 yX11_rides cX11_rides 4 (some .int) (d + 3) 0 0 [vP (some (11, 0)), vI a1, vI a2] h (fun r h2 => ∃ x, r = [vI x] ∧ Q x h2) := by
  exact Ct.of (by decide) (Nat.le_of_ble_eq_true rfl) fun E cx eq hl hY => s_X11_rides_0 cx hY eq (Nat.le_refl _) (Nat.le_refl _) w
def w_X11_guestsInTown_42 (Q : Int32 → Hp → Prop) (a1 : Int32) (a2 : Int32) (h : Hp) : Prop := Q (a1) (h)
def w_X11_guestsInTown_36 (K4 : Int32 → Int32 → Hp → Prop) (Q : Int32 → Hp → Prop) (a1 : Int32) (a2 : Int32) (h : Hp) : Prop := K4 (a1) (a2 + 1) (h)
def w_X11_guestsInTown_24 (K4 : Int32 → Int32 → Hp → Prop) (Q : Int32 → Hp → Prop) (a1 : Int32) (a2 : Int32) (h : Hp) : Prop := ∃ g1, gP (h) 23 (0) (tN (a2)) = some (2, g1) ∧ (vp_in (a2) 60 ∧ (w_X11_guestsInTown_36 K4 Q ((a1) + (gI (h) 2 (g1) (1))) (a2) (h)))
def w_X11_guestsInTown_21 (K4 : Int32 → Int32 → Hp → Prop) (Q : Int32 → Hp → Prop) (a1 : Int32) (a2 : Int32) (s0 : Int32) (h : Hp) : Prop := ((s0) = 0 → w_X11_guestsInTown_36 K4 Q (a1) (a2) (h)) ∧ (¬ (s0) = 0 → w_X11_guestsInTown_24 K4 Q (a1) (a2) (h))
def w_X11_guestsInTown_12 (K4 : Int32 → Int32 → Hp → Prop) (Q : Int32 → Hp → Prop) (a1 : Int32) (a2 : Int32) (h : Hp) : Prop := ∃ g1, gP (h) 23 (0) (tN (a2)) = some (2, g1) ∧ (vp_in (a2) 60 ∧ (wp_X2_isInTown (g1) (h) (fun r2 h2 => w_X11_guestsInTown_21 K4 Q (a1) (a2) (r2) (h2))))
def w_X11_guestsInTown_4 (Q : Int32 → Hp → Prop) : Nat → Int32 → Int32 → Hp → Prop
  | 0 => fun _ _ _ => False
  | N + 1 => fun a1 a2 h => ((gI (h) 11 (0) (8)) ≤ (a2) → w_X11_guestsInTown_42  Q (a1) (a2) (h)) ∧ (¬ (gI (h) 11 (0) (8)) ≤ (a2) → w_X11_guestsInTown_12 (w_X11_guestsInTown_4  Q N) Q (a1) (a2) (h))
def w_X11_guestsInTown_0 (Q : Int32 → Hp → Prop) (h : Hp) : Prop := ∃ N, w_X11_guestsInTown_4  Q N ((0 : Int32)) ((0 : Int32)) (h)
theorem s_X11_guestsInTown_42 {E : EnvT} {d : Nat} (cx : CX E "ShoreDay" cX11_guestsInTown 3 (some .int) "guestsInTown" (d + 3) 0 0) (hY : eY E = lay1) {Q : Int32 → Hp → Prop} (eq : EQ E 0 0 (fun r h2 => ∃ x, r = [vI x] ∧ Q x h2)) {a1 : Int32} {a2 : Int32} {h : Hp} {c n : Nat} (hc : c + 0 ≤ 0) (hn : n + 0 ≤ 0) (w : w_X11_guestsInTown_42  Q a1 a2 h) : SW E 42 ([some (vP (some (11, 0))), some (vI (a1)), some (vI (a2))], [], h, c, n) := by
  exact k_X11_guestsInTown_42 cx hY eq (by omega) (by omega) ⟨_, rfl, w⟩
theorem s_X11_guestsInTown_36 {E : EnvT} {d : Nat} (cx : CX E "ShoreDay" cX11_guestsInTown 3 (some .int) "guestsInTown" (d + 3) 0 0) (hY : eY E = lay1) {Q : Int32 → Hp → Prop} (eq : EQ E 0 0 (fun r h2 => ∃ x, r = [vI x] ∧ Q x h2)) {K4 : Int32 → Int32 → Hp → Prop} (hK4 : ∀ (a1 : Int32) (a2 : Int32) (h : Hp) (c n : Nat), c + 0 ≤ 0 → n + 0 ≤ 0 → K4 a1 a2 h → SW E 4 ([some (vP (some (11, 0))), some (vI (a1)), some (vI (a2))], [], h, c, n)) {a1 : Int32} {a2 : Int32} {h : Hp} {c n : Nat} (hc : c + 0 ≤ 0) (hn : n + 0 ≤ 0) (w : w_X11_guestsInTown_36 K4 Q a1 a2 h) : SW E 36 ([some (vP (some (11, 0))), some (vI (a1)), some (vI (a2))], [], h, c, n) := by
  refine k_X11_guestsInTown_36 cx hY ?_
  exact hK4 _ _ _ _ _ (by omega) (by omega) w
theorem s_X11_guestsInTown_24 {E : EnvT} {d : Nat} (cx : CX E "ShoreDay" cX11_guestsInTown 3 (some .int) "guestsInTown" (d + 3) 0 0) (hY : eY E = lay1) {Q : Int32 → Hp → Prop} (eq : EQ E 0 0 (fun r h2 => ∃ x, r = [vI x] ∧ Q x h2)) {K4 : Int32 → Int32 → Hp → Prop} (hK4 : ∀ (a1 : Int32) (a2 : Int32) (h : Hp) (c n : Nat), c + 0 ≤ 0 → n + 0 ≤ 0 → K4 a1 a2 h → SW E 4 ([some (vP (some (11, 0))), some (vI (a1)), some (vI (a2))], [], h, c, n)) {a1 : Int32} {a2 : Int32} {h : Hp} {c n : Nat} (hc : c + 0 ≤ 0) (hn : n + 0 ≤ 0) (w : w_X11_guestsInTown_24 K4 Q a1 a2 h) : SW E 24 ([some (vP (some (11, 0))), some (vI (a1)), some (vI (a2))], [], h, c, n) := by
  obtain ⟨g1, e1, G1, w⟩ := w
  refine k_X11_guestsInTown_24 cx hY e1 G1 ?_
  exact s_X11_guestsInTown_36 cx hY eq hK4 (by omega) (by omega) w
theorem s_X11_guestsInTown_21 {E : EnvT} {d : Nat} (cx : CX E "ShoreDay" cX11_guestsInTown 3 (some .int) "guestsInTown" (d + 3) 0 0) (hY : eY E = lay1) {Q : Int32 → Hp → Prop} (eq : EQ E 0 0 (fun r h2 => ∃ x, r = [vI x] ∧ Q x h2)) {K4 : Int32 → Int32 → Hp → Prop} (hK4 : ∀ (a1 : Int32) (a2 : Int32) (h : Hp) (c n : Nat), c + 0 ≤ 0 → n + 0 ≤ 0 → K4 a1 a2 h → SW E 4 ([some (vP (some (11, 0))), some (vI (a1)), some (vI (a2))], [], h, c, n)) {a1 : Int32} {a2 : Int32} {s0 : Int32} {h : Hp} {c n : Nat} (hc : c + 0 ≤ 0) (hn : n + 0 ≤ 0) (w : w_X11_guestsInTown_21 K4 Q a1 a2 s0 h) : SW E 21 ([some (vP (some (11, 0))), some (vI (a1)), some (vI (a2))], [vI (s0)], h, c, n) := by
  refine k_X11_guestsInTown_21 cx hY (fun q => ?_) (fun q => ?_)
  · have w := w.1 q
    exact s_X11_guestsInTown_36 cx hY eq hK4 (by omega) (by omega) w
  · have w := w.2 q
    exact s_X11_guestsInTown_24 cx hY eq hK4 (by omega) (by omega) w
theorem s_X11_guestsInTown_12 {E : EnvT} {d : Nat} (cx : CX E "ShoreDay" cX11_guestsInTown 3 (some .int) "guestsInTown" (d + 3) 0 0) (hY : eY E = lay1) {Q : Int32 → Hp → Prop} (eq : EQ E 0 0 (fun r h2 => ∃ x, r = [vI x] ∧ Q x h2)) {K4 : Int32 → Int32 → Hp → Prop} (hK4 : ∀ (a1 : Int32) (a2 : Int32) (h : Hp) (c n : Nat), c + 0 ≤ 0 → n + 0 ≤ 0 → K4 a1 a2 h → SW E 4 ([some (vP (some (11, 0))), some (vI (a1)), some (vI (a2))], [], h, c, n)) {a1 : Int32} {a2 : Int32} {h : Hp} {c n : Nat} (hc : c + 0 ≤ 0) (hn : n + 0 ≤ 0) (w : w_X11_guestsInTown_12 K4 Q a1 a2 h) : SW E 12 ([some (vP (some (11, 0))), some (vI (a1)), some (vI (a2))], [], h, c, n) := by
  obtain ⟨g1, e1, G1, w⟩ := w
  refine k_X11_guestsInTown_12 cx hY e1 G1 (ctY hY (vc_X2_isInTown (d := d + 0) w)) (by omega) (by omega) (by omega) (fun r h2 hp => ?_)
  obtain ⟨r2, rfl, w⟩ := hp
  exact s_X11_guestsInTown_21 cx hY eq hK4 (by omega) (by omega) w
theorem s_X11_guestsInTown_4 {E : EnvT} {d : Nat} (cx : CX E "ShoreDay" cX11_guestsInTown 3 (some .int) "guestsInTown" (d + 3) 0 0) (hY : eY E = lay1) {Q : Int32 → Hp → Prop} (eq : EQ E 0 0 (fun r h2 => ∃ x, r = [vI x] ∧ Q x h2)) : ∀ (N : Nat) (a1 : Int32) (a2 : Int32) (h : Hp) (c n : Nat), c + 0 ≤ 0 → n + 0 ≤ 0 → w_X11_guestsInTown_4  Q N a1 a2 h → SW E 4 ([some (vP (some (11, 0))), some (vI (a1)), some (vI (a2))], [], h, c, n) := by
  intro N
  induction N with
  | zero =>
    intro _ _ h c n _ _ w
    exact w.elim
  | succ N ih =>
    intro a1 a2 h c n hc hn w
    refine k_X11_guestsInTown_4 cx hY (fun q => ?_) (fun q => ?_)
    · have w := w.1 q
      exact s_X11_guestsInTown_42 cx hY eq  (by omega) (by omega) w
    · have w := w.2 q
      exact s_X11_guestsInTown_12 cx hY eq ih (by omega) (by omega) w
theorem s_X11_guestsInTown_0 {E : EnvT} {d : Nat} (cx : CX E "ShoreDay" cX11_guestsInTown 3 (some .int) "guestsInTown" (d + 3) 0 0) (hY : eY E = lay1) {Q : Int32 → Hp → Prop} (eq : EQ E 0 0 (fun r h2 => ∃ x, r = [vI x] ∧ Q x h2)) {x1 : Option AVal} {x2 : Option AVal} {h : Hp} {c n : Nat} (hc : c + 0 ≤ 0) (hn : n + 0 ≤ 0) (w : w_X11_guestsInTown_0  Q  h) : SW E 0 ([some (vP (some (11, 0))), x1, x2], [], h, c, n) := by
  refine k_X11_guestsInTown_0 cx hY ?_
  obtain ⟨N1, w⟩ := w
  exact s_X11_guestsInTown_4 cx hY eq  _ _ _ _ _ _ (by omega) (by omega) w
def wp_X11_guestsInTown (h : Hp) (Q : Int32 → Hp → Prop) : Prop := w_X11_guestsInTown_0 Q  h
theorem vc_X11_guestsInTown {l : Launch} {d : Nat} {h : Hp} {Q : Int32 → Hp → Prop} (w : wp_X11_guestsInTown h Q) : Ct l lay1 yX11_guestsInTown cX11_guestsInTown 3 (some .int) (d + 3) 0 0 [vP (some (11, 0))] h (fun r h2 => ∃ x, r = [vI x] ∧ Q x h2) := by
  exact Ct.of (by decide) (Nat.le_of_ble_eq_true rfl) fun E cx eq hl hY => s_X11_guestsInTown_0 cx hY eq (Nat.le_refl _) (Nat.le_refl _) w
def w_X11_beginTours_42 (Q : Hp → Prop) (a1 : Int32) (h : Hp) : Prop := Q (h)
def w_X11_beginTours_36 (K2 : Int32 → Hp → Prop) (Q : Hp → Prop) (a1 : Int32) (h : Hp) : Prop := K2 (a1 + 1) (h)
def w_X11_beginTours_26 (K2 : Int32 → Hp → Prop) (Q : Hp → Prop) (a1 : Int32) (h : Hp) : Prop := vp_in (a1) 8 ∧ (wp_X11_seatGroups (gP (h) 22 (0) (tN (a1))) (h) (fun h2 => w_X11_beginTours_36 K2 Q (a1) (h2)))
def w_X11_beginTours_10 (K2 : Int32 → Hp → Prop) (Q : Hp → Prop) (a1 : Int32) (h : Hp) : Prop := ∃ g1, gP (h) 22 (0) (tN (a1)) = some (10, g1) ∧ (vp_in (a1) 8 ∧ ((¬ (gI (h) 10 (g1) (0)) = (gI (h) 11 (0) (14)) → w_X11_beginTours_36 K2 Q (a1) (h)) ∧ ((gI (h) 10 (g1) (0)) = (gI (h) 11 (0) (14)) → w_X11_beginTours_26 K2 Q (a1) (h))))
def w_X11_beginTours_2 (Q : Hp → Prop) : Nat → Int32 → Hp → Prop
  | 0 => fun _ _ => False
  | N + 1 => fun a1 h => ((gI (h) 11 (0) (5)) ≤ (a1) → w_X11_beginTours_42  Q (a1) (h)) ∧ (¬ (gI (h) 11 (0) (5)) ≤ (a1) → w_X11_beginTours_10 (w_X11_beginTours_2  Q N) Q (a1) (h))
def w_X11_beginTours_0 (Q : Hp → Prop) (h : Hp) : Prop := ∃ N, w_X11_beginTours_2  Q N ((0 : Int32)) (h)
theorem s_X11_beginTours_42 {E : EnvT} {d : Nat} (cx : CX E "ShoreDay" cX11_beginTours 2 none "beginTours" (d + 2) 0 0) (hY : eY E = lay1) {Q : Hp → Prop} (eq : EQ E 0 0 (fun r h2 => r = [] ∧ Q h2)) {a1 : Int32} {h : Hp} {c n : Nat} (hc : c + 0 ≤ 0) (hn : n + 0 ≤ 0) (w : w_X11_beginTours_42  Q a1 h) : SW E 42 ([some (vP (some (11, 0))), some (vI (a1))], [], h, c, n) := by
  exact k_X11_beginTours_42 cx hY eq (by omega) (by omega) ⟨rfl, w⟩
theorem s_X11_beginTours_36 {E : EnvT} {d : Nat} (cx : CX E "ShoreDay" cX11_beginTours 2 none "beginTours" (d + 2) 0 0) (hY : eY E = lay1) {Q : Hp → Prop} (eq : EQ E 0 0 (fun r h2 => r = [] ∧ Q h2)) {K2 : Int32 → Hp → Prop} (hK2 : ∀ (a1 : Int32) (h : Hp) (c n : Nat), c + 0 ≤ 0 → n + 0 ≤ 0 → K2 a1 h → SW E 2 ([some (vP (some (11, 0))), some (vI (a1))], [], h, c, n)) {a1 : Int32} {h : Hp} {c n : Nat} (hc : c + 0 ≤ 0) (hn : n + 0 ≤ 0) (w : w_X11_beginTours_36 K2 Q a1 h) : SW E 36 ([some (vP (some (11, 0))), some (vI (a1))], [], h, c, n) := by
  refine k_X11_beginTours_36 cx hY ?_
  exact hK2 _ _ _ _ (by omega) (by omega) w
theorem s_X11_beginTours_26 {E : EnvT} {d : Nat} (cx : CX E "ShoreDay" cX11_beginTours 2 none "beginTours" (d + 2) 0 0) (hY : eY E = lay1) {Q : Hp → Prop} (eq : EQ E 0 0 (fun r h2 => r = [] ∧ Q h2)) {K2 : Int32 → Hp → Prop} (hK2 : ∀ (a1 : Int32) (h : Hp) (c n : Nat), c + 0 ≤ 0 → n + 0 ≤ 0 → K2 a1 h → SW E 2 ([some (vP (some (11, 0))), some (vI (a1))], [], h, c, n)) {a1 : Int32} {h : Hp} {c n : Nat} (hc : c + 0 ≤ 0) (hn : n + 0 ≤ 0) (w : w_X11_beginTours_26 K2 Q a1 h) : SW E 26 ([some (vP (some (11, 0))), some (vI (a1))], [], h, c, n) := by
  obtain ⟨G1, w⟩ := w
  refine k_X11_beginTours_26 cx hY G1 (ctY hY (vc_X11_seatGroups (d := d + 0) w)) (by omega) (by omega) (by omega) (fun r h2 hp => ?_)
  obtain ⟨rfl, w⟩ := hp
  exact s_X11_beginTours_36 cx hY eq hK2 (by omega) (by omega) w
theorem s_X11_beginTours_10 {E : EnvT} {d : Nat} (cx : CX E "ShoreDay" cX11_beginTours 2 none "beginTours" (d + 2) 0 0) (hY : eY E = lay1) {Q : Hp → Prop} (eq : EQ E 0 0 (fun r h2 => r = [] ∧ Q h2)) {K2 : Int32 → Hp → Prop} (hK2 : ∀ (a1 : Int32) (h : Hp) (c n : Nat), c + 0 ≤ 0 → n + 0 ≤ 0 → K2 a1 h → SW E 2 ([some (vP (some (11, 0))), some (vI (a1))], [], h, c, n)) {a1 : Int32} {h : Hp} {c n : Nat} (hc : c + 0 ≤ 0) (hn : n + 0 ≤ 0) (w : w_X11_beginTours_10 K2 Q a1 h) : SW E 10 ([some (vP (some (11, 0))), some (vI (a1))], [], h, c, n) := by
  obtain ⟨g1, e1, G1, w⟩ := w
  refine k_X11_beginTours_10 cx hY e1 G1 (fun q => ?_) (fun q => ?_)
  · have w := w.1 q
    exact s_X11_beginTours_36 cx hY eq hK2 (by omega) (by omega) w
  · have w := w.2 q
    exact s_X11_beginTours_26 cx hY eq hK2 (by omega) (by omega) w
theorem s_X11_beginTours_2 {E : EnvT} {d : Nat} (cx : CX E "ShoreDay" cX11_beginTours 2 none "beginTours" (d + 2) 0 0) (hY : eY E = lay1) {Q : Hp → Prop} (eq : EQ E 0 0 (fun r h2 => r = [] ∧ Q h2)) : ∀ (N : Nat) (a1 : Int32) (h : Hp) (c n : Nat), c + 0 ≤ 0 → n + 0 ≤ 0 → w_X11_beginTours_2  Q N a1 h → SW E 2 ([some (vP (some (11, 0))), some (vI (a1))], [], h, c, n) := by
  intro N
  induction N with
  | zero =>
    intro _ h c n _ _ w
    exact w.elim
  | succ N ih =>
    intro a1 h c n hc hn w
    refine k_X11_beginTours_2 cx hY (fun q => ?_) (fun q => ?_)
    · have w := w.1 q
      exact s_X11_beginTours_42 cx hY eq  (by omega) (by omega) w
    · have w := w.2 q
      exact s_X11_beginTours_10 cx hY eq ih (by omega) (by omega) w
theorem s_X11_beginTours_0 {E : EnvT} {d : Nat} (cx : CX E "ShoreDay" cX11_beginTours 2 none "beginTours" (d + 2) 0 0) (hY : eY E = lay1) {Q : Hp → Prop} (eq : EQ E 0 0 (fun r h2 => r = [] ∧ Q h2)) {x1 : Option AVal} {h : Hp} {c n : Nat} (hc : c + 0 ≤ 0) (hn : n + 0 ≤ 0) (w : w_X11_beginTours_0  Q  h) : SW E 0 ([some (vP (some (11, 0))), x1], [], h, c, n) := by
  refine k_X11_beginTours_0 cx hY ?_
  obtain ⟨N1, w⟩ := w
  exact s_X11_beginTours_2 cx hY eq  _ _ _ _ _ (by omega) (by omega) w
def wp_X11_beginTours (h : Hp) (Q : Hp → Prop) : Prop := w_X11_beginTours_0 Q  h
theorem vc_X11_beginTours {l : Launch} {d : Nat} {h : Hp} {Q : Hp → Prop} (w : wp_X11_beginTours h Q) : Ct l lay1 yX11_beginTours cX11_beginTours 2 none (d + 2) 0 0 [vP (some (11, 0))] h (fun r h2 => r = [] ∧ Q h2) := by
  exact Ct.of (by decide) (Nat.le_of_ble_eq_true rfl) fun E cx eq hl hY => s_X11_beginTours_0 cx hY eq (Nat.le_refl _) (Nat.le_refl _) w
def w_X11_sailShips_42 (Q : Hp → Prop) (a1 : Int32) (h : Hp) : Prop := Q (h)
def w_X11_sailShips_36 (K2 : Int32 → Hp → Prop) (Q : Hp → Prop) (a1 : Int32) (h : Hp) : Prop := K2 (a1 + 1) (h)
def w_X11_sailShips_26 (K2 : Int32 → Hp → Prop) (Q : Hp → Prop) (a1 : Int32) (h : Hp) : Prop := vp_in (a1) 4 ∧ (wp_X11_sail (gP (h) 20 (0) (tN (a1))) (h) (fun h2 => w_X11_sailShips_36 K2 Q (a1) (h2)))
def w_X11_sailShips_10 (K2 : Int32 → Hp → Prop) (Q : Hp → Prop) (a1 : Int32) (h : Hp) : Prop := ∃ g1, gP (h) 20 (0) (tN (a1)) = some (6, g1) ∧ (vp_in (a1) 4 ∧ ((¬ (gI (h) 6 (g1) (2)) = (gI (h) 11 (0) (14)) → w_X11_sailShips_36 K2 Q (a1) (h)) ∧ ((gI (h) 6 (g1) (2)) = (gI (h) 11 (0) (14)) → w_X11_sailShips_26 K2 Q (a1) (h))))
def w_X11_sailShips_2 (Q : Hp → Prop) : Nat → Int32 → Hp → Prop
  | 0 => fun _ _ => False
  | N + 1 => fun a1 h => ((gI (h) 11 (0) (1)) ≤ (a1) → w_X11_sailShips_42  Q (a1) (h)) ∧ (¬ (gI (h) 11 (0) (1)) ≤ (a1) → w_X11_sailShips_10 (w_X11_sailShips_2  Q N) Q (a1) (h))
def w_X11_sailShips_0 (Q : Hp → Prop) (h : Hp) : Prop := ∃ N, w_X11_sailShips_2  Q N ((0 : Int32)) (h)
theorem s_X11_sailShips_42 {E : EnvT} {d : Nat} (cx : CX E "ShoreDay" cX11_sailShips 2 none "sailShips" (d + 3) 0 0) (hY : eY E = lay1) {Q : Hp → Prop} (eq : EQ E 0 0 (fun r h2 => r = [] ∧ Q h2)) {a1 : Int32} {h : Hp} {c n : Nat} (hc : c + 0 ≤ 0) (hn : n + 0 ≤ 0) (w : w_X11_sailShips_42  Q a1 h) : SW E 42 ([some (vP (some (11, 0))), some (vI (a1))], [], h, c, n) := by
  exact k_X11_sailShips_42 cx hY eq (by omega) (by omega) ⟨rfl, w⟩
theorem s_X11_sailShips_36 {E : EnvT} {d : Nat} (cx : CX E "ShoreDay" cX11_sailShips 2 none "sailShips" (d + 3) 0 0) (hY : eY E = lay1) {Q : Hp → Prop} (eq : EQ E 0 0 (fun r h2 => r = [] ∧ Q h2)) {K2 : Int32 → Hp → Prop} (hK2 : ∀ (a1 : Int32) (h : Hp) (c n : Nat), c + 0 ≤ 0 → n + 0 ≤ 0 → K2 a1 h → SW E 2 ([some (vP (some (11, 0))), some (vI (a1))], [], h, c, n)) {a1 : Int32} {h : Hp} {c n : Nat} (hc : c + 0 ≤ 0) (hn : n + 0 ≤ 0) (w : w_X11_sailShips_36 K2 Q a1 h) : SW E 36 ([some (vP (some (11, 0))), some (vI (a1))], [], h, c, n) := by
  refine k_X11_sailShips_36 cx hY ?_
  exact hK2 _ _ _ _ (by omega) (by omega) w
theorem s_X11_sailShips_26 {E : EnvT} {d : Nat} (cx : CX E "ShoreDay" cX11_sailShips 2 none "sailShips" (d + 3) 0 0) (hY : eY E = lay1) {Q : Hp → Prop} (eq : EQ E 0 0 (fun r h2 => r = [] ∧ Q h2)) {K2 : Int32 → Hp → Prop} (hK2 : ∀ (a1 : Int32) (h : Hp) (c n : Nat), c + 0 ≤ 0 → n + 0 ≤ 0 → K2 a1 h → SW E 2 ([some (vP (some (11, 0))), some (vI (a1))], [], h, c, n)) {a1 : Int32} {h : Hp} {c n : Nat} (hc : c + 0 ≤ 0) (hn : n + 0 ≤ 0) (w : w_X11_sailShips_26 K2 Q a1 h) : SW E 26 ([some (vP (some (11, 0))), some (vI (a1))], [], h, c, n) := by
  obtain ⟨G1, w⟩ := w
  refine k_X11_sailShips_26 cx hY G1 (ctY hY (vc_X11_sail (d := d + 0) w)) (by omega) (by omega) (by omega) (fun r h2 hp => ?_)
  obtain ⟨rfl, w⟩ := hp
  exact s_X11_sailShips_36 cx hY eq hK2 (by omega) (by omega) w
theorem s_X11_sailShips_10 {E : EnvT} {d : Nat} (cx : CX E "ShoreDay" cX11_sailShips 2 none "sailShips" (d + 3) 0 0) (hY : eY E = lay1) {Q : Hp → Prop} (eq : EQ E 0 0 (fun r h2 => r = [] ∧ Q h2)) {K2 : Int32 → Hp → Prop} (hK2 : ∀ (a1 : Int32) (h : Hp) (c n : Nat), c + 0 ≤ 0 → n + 0 ≤ 0 → K2 a1 h → SW E 2 ([some (vP (some (11, 0))), some (vI (a1))], [], h, c, n)) {a1 : Int32} {h : Hp} {c n : Nat} (hc : c + 0 ≤ 0) (hn : n + 0 ≤ 0) (w : w_X11_sailShips_10 K2 Q a1 h) : SW E 10 ([some (vP (some (11, 0))), some (vI (a1))], [], h, c, n) := by
  obtain ⟨g1, e1, G1, w⟩ := w
  refine k_X11_sailShips_10 cx hY e1 G1 (fun q => ?_) (fun q => ?_)
  · have w := w.1 q
    exact s_X11_sailShips_36 cx hY eq hK2 (by omega) (by omega) w
  · have w := w.2 q
    exact s_X11_sailShips_26 cx hY eq hK2 (by omega) (by omega) w
theorem s_X11_sailShips_2 {E : EnvT} {d : Nat} (cx : CX E "ShoreDay" cX11_sailShips 2 none "sailShips" (d + 3) 0 0) (hY : eY E = lay1) {Q : Hp → Prop} (eq : EQ E 0 0 (fun r h2 => r = [] ∧ Q h2)) : ∀ (N : Nat) (a1 : Int32) (h : Hp) (c n : Nat), c + 0 ≤ 0 → n + 0 ≤ 0 → w_X11_sailShips_2  Q N a1 h → SW E 2 ([some (vP (some (11, 0))), some (vI (a1))], [], h, c, n) := by
  intro N
  induction N with
  | zero =>
    intro _ h c n _ _ w
    exact w.elim
  | succ N ih =>
    intro a1 h c n hc hn w
    refine k_X11_sailShips_2 cx hY (fun q => ?_) (fun q => ?_)
    · have w := w.1 q
      exact s_X11_sailShips_42 cx hY eq  (by omega) (by omega) w
    · have w := w.2 q
      exact s_X11_sailShips_10 cx hY eq ih (by omega) (by omega) w
theorem s_X11_sailShips_0 {E : EnvT} {d : Nat} (cx : CX E "ShoreDay" cX11_sailShips 2 none "sailShips" (d + 3) 0 0) (hY : eY E = lay1) {Q : Hp → Prop} (eq : EQ E 0 0 (fun r h2 => r = [] ∧ Q h2)) {x1 : Option AVal} {h : Hp} {c n : Nat} (hc : c + 0 ≤ 0) (hn : n + 0 ≤ 0) (w : w_X11_sailShips_0  Q  h) : SW E 0 ([some (vP (some (11, 0))), x1], [], h, c, n) := by
  refine k_X11_sailShips_0 cx hY ?_
  obtain ⟨N1, w⟩ := w
  exact s_X11_sailShips_2 cx hY eq  _ _ _ _ _ (by omega) (by omega) w
def wp_X11_sailShips (h : Hp) (Q : Hp → Prop) : Prop := w_X11_sailShips_0 Q  h
theorem vc_X11_sailShips {l : Launch} {d : Nat} {h : Hp} {Q : Hp → Prop} (w : wp_X11_sailShips h Q) : Ct l lay1 yX11_sailShips cX11_sailShips 2 none (d + 3) 0 0 [vP (some (11, 0))] h (fun r h2 => r = [] ∧ Q h2) := by
  exact Ct.of (by decide) (Nat.le_of_ble_eq_true rfl) fun E cx eq hl hY => s_X11_sailShips_0 cx hY eq (Nat.le_refl _) (Nat.le_refl _) w
def w_X11_guestsInTownOrComing_46 (Q : Int32 → Hp → Prop) (a1 : Int32) (a2 : Int32) (h : Hp) : Prop := Q (a1) (h)
def w_X11_guestsInTownOrComing_40 (K7 : Int32 → Int32 → Hp → Prop) (Q : Int32 → Hp → Prop) (a1 : Int32) (a2 : Int32) (h : Hp) : Prop := K7 (a1) (a2 + 1) (h)
def w_X11_guestsInTownOrComing_28 (K7 : Int32 → Int32 → Hp → Prop) (Q : Int32 → Hp → Prop) (a1 : Int32) (a2 : Int32) (h : Hp) : Prop := ∃ g1, gP (h) 21 (0) (tN (a2)) = some (8, g1) ∧ (vp_in (a2) 6 ∧ (w_X11_guestsInTownOrComing_40 K7 Q ((a1) + (gI (h) 8 (g1) (5))) (a2) (h)))
def w_X11_guestsInTownOrComing_15 (K7 : Int32 → Int32 → Hp → Prop) (Q : Int32 → Hp → Prop) (a1 : Int32) (a2 : Int32) (h : Hp) : Prop := ∃ g1, gP (h) 21 (0) (tN (a2)) = some (8, g1) ∧ (vp_in (a2) 6 ∧ ((¬ (gI (h) 8 (g1) (3)) = ((1 : Int32)) → w_X11_guestsInTownOrComing_40 K7 Q (a1) (a2) (h)) ∧ ((gI (h) 8 (g1) (3)) = ((1 : Int32)) → w_X11_guestsInTownOrComing_28 K7 Q (a1) (a2) (h))))
def w_X11_guestsInTownOrComing_7 (Q : Int32 → Hp → Prop) : Nat → Int32 → Int32 → Hp → Prop
  | 0 => fun _ _ _ => False
  | N + 1 => fun a1 a2 h => ((gI (h) 11 (0) (3)) ≤ (a2) → w_X11_guestsInTownOrComing_46  Q (a1) (a2) (h)) ∧ (¬ (gI (h) 11 (0) (3)) ≤ (a2) → w_X11_guestsInTownOrComing_15 (w_X11_guestsInTownOrComing_7  Q N) Q (a1) (a2) (h))
def w_X11_guestsInTownOrComing_4 (Q : Int32 → Hp → Prop) (s0 : Int32) (h : Hp) : Prop := ∃ N, w_X11_guestsInTownOrComing_7  Q N (s0) ((0 : Int32)) (h)
def w_X11_guestsInTownOrComing_0 (Q : Int32 → Hp → Prop) (h : Hp) : Prop := wp_X11_guestsInTown  (h) (fun r2 h2 => w_X11_guestsInTownOrComing_4  Q (r2) (h2))
theorem s_X11_guestsInTownOrComing_46 {E : EnvT} {d : Nat} (cx : CX E "ShoreDay" cX11_guestsInTownOrComing 3 (some .int) "guestsInTownOrComing" (d + 4) 0 0) (hY : eY E = lay1) {Q : Int32 → Hp → Prop} (eq : EQ E 0 0 (fun r h2 => ∃ x, r = [vI x] ∧ Q x h2)) {a1 : Int32} {a2 : Int32} {h : Hp} {c n : Nat} (hc : c + 0 ≤ 0) (hn : n + 0 ≤ 0) (w : w_X11_guestsInTownOrComing_46  Q a1 a2 h) : SW E 46 ([some (vP (some (11, 0))), some (vI (a1)), some (vI (a2))], [], h, c, n) := by
  exact k_X11_guestsInTownOrComing_46 cx hY eq (by omega) (by omega) ⟨_, rfl, w⟩
theorem s_X11_guestsInTownOrComing_40 {E : EnvT} {d : Nat} (cx : CX E "ShoreDay" cX11_guestsInTownOrComing 3 (some .int) "guestsInTownOrComing" (d + 4) 0 0) (hY : eY E = lay1) {Q : Int32 → Hp → Prop} (eq : EQ E 0 0 (fun r h2 => ∃ x, r = [vI x] ∧ Q x h2)) {K7 : Int32 → Int32 → Hp → Prop} (hK7 : ∀ (a1 : Int32) (a2 : Int32) (h : Hp) (c n : Nat), c + 0 ≤ 0 → n + 0 ≤ 0 → K7 a1 a2 h → SW E 7 ([some (vP (some (11, 0))), some (vI (a1)), some (vI (a2))], [], h, c, n)) {a1 : Int32} {a2 : Int32} {h : Hp} {c n : Nat} (hc : c + 0 ≤ 0) (hn : n + 0 ≤ 0) (w : w_X11_guestsInTownOrComing_40 K7 Q a1 a2 h) : SW E 40 ([some (vP (some (11, 0))), some (vI (a1)), some (vI (a2))], [], h, c, n) := by
  refine k_X11_guestsInTownOrComing_40 cx hY ?_
  exact hK7 _ _ _ _ _ (by omega) (by omega) w
theorem s_X11_guestsInTownOrComing_28 {E : EnvT} {d : Nat} (cx : CX E "ShoreDay" cX11_guestsInTownOrComing 3 (some .int) "guestsInTownOrComing" (d + 4) 0 0) (hY : eY E = lay1) {Q : Int32 → Hp → Prop} (eq : EQ E 0 0 (fun r h2 => ∃ x, r = [vI x] ∧ Q x h2)) {K7 : Int32 → Int32 → Hp → Prop} (hK7 : ∀ (a1 : Int32) (a2 : Int32) (h : Hp) (c n : Nat), c + 0 ≤ 0 → n + 0 ≤ 0 → K7 a1 a2 h → SW E 7 ([some (vP (some (11, 0))), some (vI (a1)), some (vI (a2))], [], h, c, n)) {a1 : Int32} {a2 : Int32} {h : Hp} {c n : Nat} (hc : c + 0 ≤ 0) (hn : n + 0 ≤ 0) (w : w_X11_guestsInTownOrComing_28 K7 Q a1 a2 h) : SW E 28 ([some (vP (some (11, 0))), some (vI (a1)), some (vI (a2))], [], h, c, n) := by
  obtain ⟨g1, e1, G1, w⟩ := w
  refine k_X11_guestsInTownOrComing_28 cx hY e1 G1 ?_
  exact s_X11_guestsInTownOrComing_40 cx hY eq hK7 (by omega) (by omega) w
theorem s_X11_guestsInTownOrComing_15 {E : EnvT} {d : Nat} (cx : CX E "ShoreDay" cX11_guestsInTownOrComing 3 (some .int) "guestsInTownOrComing" (d + 4) 0 0) (hY : eY E = lay1) {Q : Int32 → Hp → Prop} (eq : EQ E 0 0 (fun r h2 => ∃ x, r = [vI x] ∧ Q x h2)) {K7 : Int32 → Int32 → Hp → Prop} (hK7 : ∀ (a1 : Int32) (a2 : Int32) (h : Hp) (c n : Nat), c + 0 ≤ 0 → n + 0 ≤ 0 → K7 a1 a2 h → SW E 7 ([some (vP (some (11, 0))), some (vI (a1)), some (vI (a2))], [], h, c, n)) {a1 : Int32} {a2 : Int32} {h : Hp} {c n : Nat} (hc : c + 0 ≤ 0) (hn : n + 0 ≤ 0) (w : w_X11_guestsInTownOrComing_15 K7 Q a1 a2 h) : SW E 15 ([some (vP (some (11, 0))), some (vI (a1)), some (vI (a2))], [], h, c, n) := by
  obtain ⟨g1, e1, G1, w⟩ := w
  refine k_X11_guestsInTownOrComing_15 cx hY e1 G1 (fun q => ?_) (fun q => ?_)
  · have w := w.1 q
    exact s_X11_guestsInTownOrComing_40 cx hY eq hK7 (by omega) (by omega) w
  · have w := w.2 q
    exact s_X11_guestsInTownOrComing_28 cx hY eq hK7 (by omega) (by omega) w
theorem s_X11_guestsInTownOrComing_7 {E : EnvT} {d : Nat} (cx : CX E "ShoreDay" cX11_guestsInTownOrComing 3 (some .int) "guestsInTownOrComing" (d + 4) 0 0) (hY : eY E = lay1) {Q : Int32 → Hp → Prop} (eq : EQ E 0 0 (fun r h2 => ∃ x, r = [vI x] ∧ Q x h2)) : ∀ (N : Nat) (a1 : Int32) (a2 : Int32) (h : Hp) (c n : Nat), c + 0 ≤ 0 → n + 0 ≤ 0 → w_X11_guestsInTownOrComing_7  Q N a1 a2 h → SW E 7 ([some (vP (some (11, 0))), some (vI (a1)), some (vI (a2))], [], h, c, n) := by
  intro N
  induction N with
  | zero =>
    intro _ _ h c n _ _ w
    exact w.elim
  | succ N ih =>
    intro a1 a2 h c n hc hn w
    refine k_X11_guestsInTownOrComing_7 cx hY (fun q => ?_) (fun q => ?_)
    · have w := w.1 q
      exact s_X11_guestsInTownOrComing_46 cx hY eq  (by omega) (by omega) w
    · have w := w.2 q
      exact s_X11_guestsInTownOrComing_15 cx hY eq ih (by omega) (by omega) w
theorem s_X11_guestsInTownOrComing_4 {E : EnvT} {d : Nat} (cx : CX E "ShoreDay" cX11_guestsInTownOrComing 3 (some .int) "guestsInTownOrComing" (d + 4) 0 0) (hY : eY E = lay1) {Q : Int32 → Hp → Prop} (eq : EQ E 0 0 (fun r h2 => ∃ x, r = [vI x] ∧ Q x h2)) {x1 : Option AVal} {x2 : Option AVal} {s0 : Int32} {h : Hp} {c n : Nat} (hc : c + 0 ≤ 0) (hn : n + 0 ≤ 0) (w : w_X11_guestsInTownOrComing_4  Q s0 h) : SW E 4 ([some (vP (some (11, 0))), x1, x2], [vI (s0)], h, c, n) := by
  refine k_X11_guestsInTownOrComing_4 cx hY ?_
  obtain ⟨N1, w⟩ := w
  exact s_X11_guestsInTownOrComing_7 cx hY eq  _ _ _ _ _ _ (by omega) (by omega) w
theorem s_X11_guestsInTownOrComing_0 {E : EnvT} {d : Nat} (cx : CX E "ShoreDay" cX11_guestsInTownOrComing 3 (some .int) "guestsInTownOrComing" (d + 4) 0 0) (hY : eY E = lay1) {Q : Int32 → Hp → Prop} (eq : EQ E 0 0 (fun r h2 => ∃ x, r = [vI x] ∧ Q x h2)) {x1 : Option AVal} {x2 : Option AVal} {h : Hp} {c n : Nat} (hc : c + 0 ≤ 0) (hn : n + 0 ≤ 0) (w : w_X11_guestsInTownOrComing_0  Q  h) : SW E 0 ([some (vP (some (11, 0))), x1, x2], [], h, c, n) := by
  refine k_X11_guestsInTownOrComing_0 cx hY (ctY hY (vc_X11_guestsInTown (d := d + 0) w)) (by omega) (by omega) (by omega) (fun r h2 hp => ?_)
  obtain ⟨r2, rfl, w⟩ := hp
  exact s_X11_guestsInTownOrComing_4 cx hY eq  (by omega) (by omega) w
def wp_X11_guestsInTownOrComing (h : Hp) (Q : Int32 → Hp → Prop) : Prop := w_X11_guestsInTownOrComing_0 Q  h
theorem vc_X11_guestsInTownOrComing {l : Launch} {d : Nat} {h : Hp} {Q : Int32 → Hp → Prop} (w : wp_X11_guestsInTownOrComing h Q) : Ct l lay1 yX11_guestsInTownOrComing cX11_guestsInTownOrComing 3 (some .int) (d + 4) 0 0 [vP (some (11, 0))] h (fun r h2 => ∃ x, r = [vI x] ∧ Q x h2) := by
  exact Ct.of (by decide) (Nat.le_of_ble_eq_true rfl) fun E cx eq hl hY => s_X11_guestsInTownOrComing_0 cx hY eq (Nat.le_refl _) (Nat.le_refl _) w
def w_X0_feeOf_41 (Q : Int32 → Hp → Prop) (p1 : Option PtrT) (a2 : Int32) (h : Hp) : Prop := Q ((0 : Int32)) (h)
def w_X0_feeOf_35 (K2 : Option PtrT → Int32 → Hp → Prop) (Q : Int32 → Hp → Prop) (p1 : Option PtrT) (a2 : Int32) (h : Hp) : Prop := K2 (p1) (a2 + 1) (h)
def w_X0_feeOf_25 (Q : Int32 → Hp → Prop) (p1 : Option PtrT) (a2 : Int32) (h : Hp) : Prop := ∃ g1, gP (h) 0 (0) 3 = some (1, g1) ∧ (vp_in (a2) 16 ∧ (Q (gI (h) 31 (g1) (tN (a2))) (h)))
def w_X0_feeOf_22 (K2 : Option PtrT → Int32 → Hp → Prop) (Q : Int32 → Hp → Prop) (p1 : Option PtrT) (a2 : Int32) (s0 : Int32) (h : Hp) : Prop := ((s0) = 0 → w_X0_feeOf_35 K2 Q (p1) (a2) (h)) ∧ (¬ (s0) = 0 → w_X0_feeOf_25  Q (p1) (a2) (h))
def w_X0_feeOf_13 (K2 : Option PtrT → Int32 → Hp → Prop) (Q : Int32 → Hp → Prop) (p1 : Option PtrT) (a2 : Int32) (h : Hp) : Prop := ∃ g1, gP (h) 0 (0) 3 = some (1, g1) ∧ (wp_X1_valueOfLine (g1) (a2) (p1) (h) (fun r2 h2 => w_X0_feeOf_22 K2 Q (p1) (a2) (r2) (h2)))
def w_X0_feeOf_2 (Q : Int32 → Hp → Prop) : Nat → Option PtrT → Int32 → Hp → Prop
  | 0 => fun _ _ _ => False
  | N + 1 => fun p1 a2 h => ∃ g1, gP (h) 0 (0) 3 = some (1, g1) ∧ (((gI (h) 1 (g1) (6)) ≤ (a2) → w_X0_feeOf_41  Q (p1) (a2) (h)) ∧ (¬ (gI (h) 1 (g1) (6)) ≤ (a2) → w_X0_feeOf_13 (w_X0_feeOf_2  Q N) Q (p1) (a2) (h)))
def w_X0_feeOf_0 (Q : Int32 → Hp → Prop) (p1 : Option PtrT) (h : Hp) : Prop := ∃ N, w_X0_feeOf_2  Q N (p1) ((0 : Int32)) (h)
theorem s_X0_feeOf_41 {E : EnvT} {d : Nat} (cx : CX E "ShoreDay$FeeDesk" cX0_feeOf 3 (some .int) "feeOf" (d + 3) 0 0) (hY : eY E = lay1) {Q : Int32 → Hp → Prop} (eq : EQ E 0 0 (fun r h2 => ∃ x, r = [vI x] ∧ Q x h2)) {p1 : Option PtrT} {a2 : Int32} {h : Hp} {c n : Nat} (hc : c + 0 ≤ 0) (hn : n + 0 ≤ 0) (w : w_X0_feeOf_41  Q p1 a2 h) : SW E 41 ([some (vP (some (0, 0))), some (vP (p1)), some (vI (a2))], [], h, c, n) := by
  exact k_X0_feeOf_41 cx hY eq (by omega) (by omega) ⟨_, rfl, w⟩
theorem s_X0_feeOf_35 {E : EnvT} {d : Nat} (cx : CX E "ShoreDay$FeeDesk" cX0_feeOf 3 (some .int) "feeOf" (d + 3) 0 0) (hY : eY E = lay1) {Q : Int32 → Hp → Prop} (eq : EQ E 0 0 (fun r h2 => ∃ x, r = [vI x] ∧ Q x h2)) {K2 : Option PtrT → Int32 → Hp → Prop} (hK2 : ∀ (p1 : Option PtrT) (a2 : Int32) (h : Hp) (c n : Nat), c + 0 ≤ 0 → n + 0 ≤ 0 → K2 p1 a2 h → SW E 2 ([some (vP (some (0, 0))), some (vP (p1)), some (vI (a2))], [], h, c, n)) {p1 : Option PtrT} {a2 : Int32} {h : Hp} {c n : Nat} (hc : c + 0 ≤ 0) (hn : n + 0 ≤ 0) (w : w_X0_feeOf_35 K2 Q p1 a2 h) : SW E 35 ([some (vP (some (0, 0))), some (vP (p1)), some (vI (a2))], [], h, c, n) := by
  refine k_X0_feeOf_35 cx hY ?_
  exact hK2 _ _ _ _ _ (by omega) (by omega) w
theorem s_X0_feeOf_25 {E : EnvT} {d : Nat} (cx : CX E "ShoreDay$FeeDesk" cX0_feeOf 3 (some .int) "feeOf" (d + 3) 0 0) (hY : eY E = lay1) {Q : Int32 → Hp → Prop} (eq : EQ E 0 0 (fun r h2 => ∃ x, r = [vI x] ∧ Q x h2)) {p1 : Option PtrT} {a2 : Int32} {h : Hp} {c n : Nat} (hc : c + 0 ≤ 0) (hn : n + 0 ≤ 0) (w : w_X0_feeOf_25  Q p1 a2 h) : SW E 25 ([some (vP (some (0, 0))), some (vP (p1)), some (vI (a2))], [], h, c, n) := by
  obtain ⟨g1, e1, G1, w⟩ := w
  exact k_X0_feeOf_25 cx hY e1 G1 eq (by omega) (by omega) ⟨_, rfl, w⟩
theorem s_X0_feeOf_22 {E : EnvT} {d : Nat} (cx : CX E "ShoreDay$FeeDesk" cX0_feeOf 3 (some .int) "feeOf" (d + 3) 0 0) (hY : eY E = lay1) {Q : Int32 → Hp → Prop} (eq : EQ E 0 0 (fun r h2 => ∃ x, r = [vI x] ∧ Q x h2)) {K2 : Option PtrT → Int32 → Hp → Prop} (hK2 : ∀ (p1 : Option PtrT) (a2 : Int32) (h : Hp) (c n : Nat), c + 0 ≤ 0 → n + 0 ≤ 0 → K2 p1 a2 h → SW E 2 ([some (vP (some (0, 0))), some (vP (p1)), some (vI (a2))], [], h, c, n)) {p1 : Option PtrT} {a2 : Int32} {s0 : Int32} {h : Hp} {c n : Nat} (hc : c + 0 ≤ 0) (hn : n + 0 ≤ 0) (w : w_X0_feeOf_22 K2 Q p1 a2 s0 h) : SW E 22 ([some (vP (some (0, 0))), some (vP (p1)), some (vI (a2))], [vI (s0)], h, c, n) := by
  refine k_X0_feeOf_22 cx hY (fun q => ?_) (fun q => ?_)
  · have w := w.1 q
    exact s_X0_feeOf_35 cx hY eq hK2 (by omega) (by omega) w
  · have w := w.2 q
    exact s_X0_feeOf_25 cx hY eq  (by omega) (by omega) w
theorem s_X0_feeOf_13 {E : EnvT} {d : Nat} (cx : CX E "ShoreDay$FeeDesk" cX0_feeOf 3 (some .int) "feeOf" (d + 3) 0 0) (hY : eY E = lay1) {Q : Int32 → Hp → Prop} (eq : EQ E 0 0 (fun r h2 => ∃ x, r = [vI x] ∧ Q x h2)) {K2 : Option PtrT → Int32 → Hp → Prop} (hK2 : ∀ (p1 : Option PtrT) (a2 : Int32) (h : Hp) (c n : Nat), c + 0 ≤ 0 → n + 0 ≤ 0 → K2 p1 a2 h → SW E 2 ([some (vP (some (0, 0))), some (vP (p1)), some (vI (a2))], [], h, c, n)) {p1 : Option PtrT} {a2 : Int32} {h : Hp} {c n : Nat} (hc : c + 0 ≤ 0) (hn : n + 0 ≤ 0) (w : w_X0_feeOf_13 K2 Q p1 a2 h) : SW E 13 ([some (vP (some (0, 0))), some (vP (p1)), some (vI (a2))], [], h, c, n) := by
  obtain ⟨g1, e1, w⟩ := w
  refine k_X0_feeOf_13 cx hY e1 (ctY hY (vc_X1_valueOfLine (d := d + 0) w)) (by omega) (by omega) (by omega) (fun r h2 hp => ?_)
  obtain ⟨r2, rfl, w⟩ := hp
  exact s_X0_feeOf_22 cx hY eq hK2 (by omega) (by omega) w
theorem s_X0_feeOf_2 {E : EnvT} {d : Nat} (cx : CX E "ShoreDay$FeeDesk" cX0_feeOf 3 (some .int) "feeOf" (d + 3) 0 0) (hY : eY E = lay1) {Q : Int32 → Hp → Prop} (eq : EQ E 0 0 (fun r h2 => ∃ x, r = [vI x] ∧ Q x h2)) : ∀ (N : Nat) (p1 : Option PtrT) (a2 : Int32) (h : Hp) (c n : Nat), c + 0 ≤ 0 → n + 0 ≤ 0 → w_X0_feeOf_2  Q N p1 a2 h → SW E 2 ([some (vP (some (0, 0))), some (vP (p1)), some (vI (a2))], [], h, c, n) := by
  intro N
  induction N with
  | zero =>
    intro _ _ h c n _ _ w
    exact w.elim
  | succ N ih =>
    intro p1 a2 h c n hc hn w
    obtain ⟨g1, e1, w⟩ := w
    refine k_X0_feeOf_2 cx hY e1 (fun q => ?_) (fun q => ?_)
    · have w := w.1 q
      exact s_X0_feeOf_41 cx hY eq  (by omega) (by omega) w
    · have w := w.2 q
      exact s_X0_feeOf_13 cx hY eq ih (by omega) (by omega) w
theorem s_X0_feeOf_0 {E : EnvT} {d : Nat} (cx : CX E "ShoreDay$FeeDesk" cX0_feeOf 3 (some .int) "feeOf" (d + 3) 0 0) (hY : eY E = lay1) {Q : Int32 → Hp → Prop} (eq : EQ E 0 0 (fun r h2 => ∃ x, r = [vI x] ∧ Q x h2)) {p1 : Option PtrT} {x2 : Option AVal} {h : Hp} {c n : Nat} (hc : c + 0 ≤ 0) (hn : n + 0 ≤ 0) (w : w_X0_feeOf_0  Q p1 h) : SW E 0 ([some (vP (some (0, 0))), some (vP (p1)), x2], [], h, c, n) := by
  refine k_X0_feeOf_0 cx hY ?_
  obtain ⟨N1, w⟩ := w
  exact s_X0_feeOf_2 cx hY eq  _ _ _ _ _ _ (by omega) (by omega) w
def wp_X0_feeOf (p1 : Option PtrT) (h : Hp) (Q : Int32 → Hp → Prop) : Prop := w_X0_feeOf_0 Q p1 h
theorem vc_X0_feeOf {l : Launch} {d : Nat} {p1 : Option PtrT} {h : Hp} {Q : Int32 → Hp → Prop} (w : wp_X0_feeOf p1 h Q) : Ct l lay1 yX0_feeOf cX0_feeOf 3 (some .int) (d + 3) 0 0 [vP (some (0, 0)), vP p1] h (fun r h2 => ∃ x, r = [vI x] ∧ Q x h2) := by
  exact Ct.of (by decide) (Nat.le_of_ble_eq_true rfl) fun E cx eq hl hY => s_X0_feeOf_0 cx hY eq (Nat.le_refl _) (Nat.le_refl _) w
def w_X3_planBest_64 (Q : Int32 → Hp → Prop) (a2 : Int32) (a3 : Int32) (a4 : Int32) (h : Hp) : Prop := vp_in ((0 : Int32)) 576 ∧ (Q (gI (h) 37 (0) (tN ((0 : Int32)))) (h))
def w_X3_planBest_58 (K11 : Int32 → Int32 → Int32 → Hp → Prop) (Q : Int32 → Hp → Prop) (a2 : Int32) (a3 : Int32) (a4 : Int32) (h : Hp) : Prop := K11 (a2) (a3) (a4 + 1) (h)
def w_X3_planBest_46 (K11 : Int32 → Int32 → Int32 → Hp → Prop) (Q : Int32 → Hp → Prop) (a2 : Int32) (a3 : Int32) (a4 : Int32) (h : Hp) : Prop := vp_in (a4) 8 ∧ (w_X3_planBest_58 K11 Q (a2) ((a3) ||| (((1 : Int32)) <<< ((gI (h) 38 (0) (tN (a4))) &&& 31))) (a4) (h))
def w_X3_planBest_34 (K11 : Int32 → Int32 → Int32 → Hp → Prop) (Q : Int32 → Hp → Prop) (a2 : Int32) (a3 : Int32) (a4 : Int32) (s1 : Int32) (s2 : Int32) (h : Hp) : Prop := vp_in (s1) 8 ∧ (vp_in (a4) 8 ∧ (((gI (wI (h) 38 (0) (tN (s1)) (s2)) 38 (0) (tN (a4))) = ((-1 : Int32)) → w_X3_planBest_58 K11 Q (a2) (a3) (a4) (wI (h) 38 (0) (tN (s1)) (s2))) ∧ (¬ (gI (wI (h) 38 (0) (tN (s1)) (s2)) 38 (0) (tN (a4))) = ((-1 : Int32)) → w_X3_planBest_46 K11 Q (a2) (a3) (a4) (wI (h) 38 (0) (tN (s1)) (s2)))))
def w_X3_planBest_17 (K11 : Int32 → Int32 → Int32 → Hp → Prop) (Q : Int32 → Hp → Prop) (a2 : Int32) (a3 : Int32) (a4 : Int32) (h : Hp) : Prop := vp_in (a4) 8 ∧ (wp_X3_leastBest (a4) (gP (h) 22 (0) (tN (a4))) (a3) (h) (fun r2 h2 => w_X3_planBest_34 K11 Q (a2) (a3) (a4) (a4) (r2) (h2)))
def w_X3_planBest_11 (Q : Int32 → Hp → Prop) : Nat → Int32 → Int32 → Int32 → Hp → Prop
  | 0 => fun _ _ _ _ => False
  | N + 1 => fun a2 a3 a4 h => ((a2) ≤ (a4) → w_X3_planBest_64  Q (a2) (a3) (a4) (h)) ∧ (¬ (a2) ≤ (a4) → w_X3_planBest_17 (w_X3_planBest_11  Q N) Q (a2) (a3) (a4) (h))
def w_X3_planBest_6 (Q : Int32 → Hp → Prop) (a2 : Int32) (h : Hp) : Prop := ∃ N, w_X3_planBest_11  Q N (a2) ((0 : Int32)) ((0 : Int32)) (h)
def w_X3_planBest_0 (Q : Int32 → Hp → Prop) (a2 : Int32) (h : Hp) : Prop := wp_X3_fillMost (a2) (h) (fun h2 => w_X3_planBest_6  Q (a2) (h2))
theorem s_X3_planBest_64 {E : EnvT} {d : Nat} (cx : CX E "ShoreDay$Guides" cX3_planBest 5 (some .int) "planBest" (d + 3) 0 0) (hY : eY E = lay1) {Q : Int32 → Hp → Prop} (eq : EQ E 0 0 (fun r h2 => ∃ x, r = [vI x] ∧ Q x h2)) {a2 : Int32} {a3 : Int32} {a4 : Int32} {h : Hp} {c n : Nat} (hc : c + 0 ≤ 0) (hn : n + 0 ≤ 0) (w : w_X3_planBest_64  Q a2 a3 a4 h) : SW E 64 ([some (vP (some (3, 0))), some (vP (some (22, 0))), some (vI (a2)), some (vI (a3)), some (vI (a4))], [], h, c, n) := by
  obtain ⟨G1, w⟩ := w
  exact k_X3_planBest_64 cx hY G1 eq (by omega) (by omega) ⟨_, rfl, w⟩
theorem s_X3_planBest_58 {E : EnvT} {d : Nat} (cx : CX E "ShoreDay$Guides" cX3_planBest 5 (some .int) "planBest" (d + 3) 0 0) (hY : eY E = lay1) {Q : Int32 → Hp → Prop} (eq : EQ E 0 0 (fun r h2 => ∃ x, r = [vI x] ∧ Q x h2)) {K11 : Int32 → Int32 → Int32 → Hp → Prop} (hK11 : ∀ (a2 : Int32) (a3 : Int32) (a4 : Int32) (h : Hp) (c n : Nat), c + 0 ≤ 0 → n + 0 ≤ 0 → K11 a2 a3 a4 h → SW E 11 ([some (vP (some (3, 0))), some (vP (some (22, 0))), some (vI (a2)), some (vI (a3)), some (vI (a4))], [], h, c, n)) {a2 : Int32} {a3 : Int32} {a4 : Int32} {h : Hp} {c n : Nat} (hc : c + 0 ≤ 0) (hn : n + 0 ≤ 0) (w : w_X3_planBest_58 K11 Q a2 a3 a4 h) : SW E 58 ([some (vP (some (3, 0))), some (vP (some (22, 0))), some (vI (a2)), some (vI (a3)), some (vI (a4))], [], h, c, n) := by
  refine k_X3_planBest_58 cx hY ?_
  exact hK11 _ _ _ _ _ _ (by omega) (by omega) w
theorem s_X3_planBest_46 {E : EnvT} {d : Nat} (cx : CX E "ShoreDay$Guides" cX3_planBest 5 (some .int) "planBest" (d + 3) 0 0) (hY : eY E = lay1) {Q : Int32 → Hp → Prop} (eq : EQ E 0 0 (fun r h2 => ∃ x, r = [vI x] ∧ Q x h2)) {K11 : Int32 → Int32 → Int32 → Hp → Prop} (hK11 : ∀ (a2 : Int32) (a3 : Int32) (a4 : Int32) (h : Hp) (c n : Nat), c + 0 ≤ 0 → n + 0 ≤ 0 → K11 a2 a3 a4 h → SW E 11 ([some (vP (some (3, 0))), some (vP (some (22, 0))), some (vI (a2)), some (vI (a3)), some (vI (a4))], [], h, c, n)) {a2 : Int32} {a3 : Int32} {a4 : Int32} {h : Hp} {c n : Nat} (hc : c + 0 ≤ 0) (hn : n + 0 ≤ 0) (w : w_X3_planBest_46 K11 Q a2 a3 a4 h) : SW E 46 ([some (vP (some (3, 0))), some (vP (some (22, 0))), some (vI (a2)), some (vI (a3)), some (vI (a4))], [], h, c, n) := by
  obtain ⟨G1, w⟩ := w
  refine k_X3_planBest_46 cx hY G1 ?_
  exact s_X3_planBest_58 cx hY eq hK11 (by omega) (by omega) w
theorem s_X3_planBest_34 {E : EnvT} {d : Nat} (cx : CX E "ShoreDay$Guides" cX3_planBest 5 (some .int) "planBest" (d + 3) 0 0) (hY : eY E = lay1) {Q : Int32 → Hp → Prop} (eq : EQ E 0 0 (fun r h2 => ∃ x, r = [vI x] ∧ Q x h2)) {K11 : Int32 → Int32 → Int32 → Hp → Prop} (hK11 : ∀ (a2 : Int32) (a3 : Int32) (a4 : Int32) (h : Hp) (c n : Nat), c + 0 ≤ 0 → n + 0 ≤ 0 → K11 a2 a3 a4 h → SW E 11 ([some (vP (some (3, 0))), some (vP (some (22, 0))), some (vI (a2)), some (vI (a3)), some (vI (a4))], [], h, c, n)) {a2 : Int32} {a3 : Int32} {a4 : Int32} {s1 : Int32} {s2 : Int32} {h : Hp} {c n : Nat} (hc : c + 0 ≤ 0) (hn : n + 0 ≤ 0) (w : w_X3_planBest_34 K11 Q a2 a3 a4 s1 s2 h) : SW E 34 ([some (vP (some (3, 0))), some (vP (some (22, 0))), some (vI (a2)), some (vI (a3)), some (vI (a4))], [vI (s2), vI (s1), vP (some (38, 0))], h, c, n) := by
  obtain ⟨G1, G2, w⟩ := w
  refine k_X3_planBest_34 cx hY G1 G2 (fun q => ?_) (fun q => ?_)
  · have w := w.1 q
    exact s_X3_planBest_58 cx hY eq hK11 (by omega) (by omega) w
  · have w := w.2 q
    exact s_X3_planBest_46 cx hY eq hK11 (by omega) (by omega) w
theorem s_X3_planBest_17 {E : EnvT} {d : Nat} (cx : CX E "ShoreDay$Guides" cX3_planBest 5 (some .int) "planBest" (d + 3) 0 0) (hY : eY E = lay1) {Q : Int32 → Hp → Prop} (eq : EQ E 0 0 (fun r h2 => ∃ x, r = [vI x] ∧ Q x h2)) {K11 : Int32 → Int32 → Int32 → Hp → Prop} (hK11 : ∀ (a2 : Int32) (a3 : Int32) (a4 : Int32) (h : Hp) (c n : Nat), c + 0 ≤ 0 → n + 0 ≤ 0 → K11 a2 a3 a4 h → SW E 11 ([some (vP (some (3, 0))), some (vP (some (22, 0))), some (vI (a2)), some (vI (a3)), some (vI (a4))], [], h, c, n)) {a2 : Int32} {a3 : Int32} {a4 : Int32} {h : Hp} {c n : Nat} (hc : c + 0 ≤ 0) (hn : n + 0 ≤ 0) (w : w_X3_planBest_17 K11 Q a2 a3 a4 h) : SW E 17 ([some (vP (some (3, 0))), some (vP (some (22, 0))), some (vI (a2)), some (vI (a3)), some (vI (a4))], [], h, c, n) := by
  obtain ⟨G1, w⟩ := w
  refine k_X3_planBest_17 cx hY G1 (ctY hY (vc_X3_leastBest (d := d + 0) w)) (by omega) (by omega) (by omega) (fun r h2 hp => ?_)
  obtain ⟨r2, rfl, w⟩ := hp
  exact s_X3_planBest_34 cx hY eq hK11 (by omega) (by omega) w
theorem s_X3_planBest_11 {E : EnvT} {d : Nat} (cx : CX E "ShoreDay$Guides" cX3_planBest 5 (some .int) "planBest" (d + 3) 0 0) (hY : eY E = lay1) {Q : Int32 → Hp → Prop} (eq : EQ E 0 0 (fun r h2 => ∃ x, r = [vI x] ∧ Q x h2)) : ∀ (N : Nat) (a2 : Int32) (a3 : Int32) (a4 : Int32) (h : Hp) (c n : Nat), c + 0 ≤ 0 → n + 0 ≤ 0 → w_X3_planBest_11  Q N a2 a3 a4 h → SW E 11 ([some (vP (some (3, 0))), some (vP (some (22, 0))), some (vI (a2)), some (vI (a3)), some (vI (a4))], [], h, c, n) := by
  intro N
  induction N with
  | zero =>
    intro _ _ _ h c n _ _ w
    exact w.elim
  | succ N ih =>
    intro a2 a3 a4 h c n hc hn w
    refine k_X3_planBest_11 cx hY (fun q => ?_) (fun q => ?_)
    · have w := w.1 q
      exact s_X3_planBest_64 cx hY eq  (by omega) (by omega) w
    · have w := w.2 q
      exact s_X3_planBest_17 cx hY eq ih (by omega) (by omega) w
theorem s_X3_planBest_6 {E : EnvT} {d : Nat} (cx : CX E "ShoreDay$Guides" cX3_planBest 5 (some .int) "planBest" (d + 3) 0 0) (hY : eY E = lay1) {Q : Int32 → Hp → Prop} (eq : EQ E 0 0 (fun r h2 => ∃ x, r = [vI x] ∧ Q x h2)) {a2 : Int32} {x3 : Option AVal} {x4 : Option AVal} {h : Hp} {c n : Nat} (hc : c + 0 ≤ 0) (hn : n + 0 ≤ 0) (w : w_X3_planBest_6  Q a2 h) : SW E 6 ([some (vP (some (3, 0))), some (vP (some (22, 0))), some (vI (a2)), x3, x4], [], h, c, n) := by
  refine k_X3_planBest_6 cx hY ?_
  obtain ⟨N1, w⟩ := w
  exact s_X3_planBest_11 cx hY eq  _ _ _ _ _ _ _ (by omega) (by omega) w
theorem s_X3_planBest_0 {E : EnvT} {d : Nat} (cx : CX E "ShoreDay$Guides" cX3_planBest 5 (some .int) "planBest" (d + 3) 0 0) (hY : eY E = lay1) {Q : Int32 → Hp → Prop} (eq : EQ E 0 0 (fun r h2 => ∃ x, r = [vI x] ∧ Q x h2)) {a2 : Int32} {x3 : Option AVal} {x4 : Option AVal} {h : Hp} {c n : Nat} (hc : c + 0 ≤ 0) (hn : n + 0 ≤ 0) (w : w_X3_planBest_0  Q a2 h) : SW E 0 ([some (vP (some (3, 0))), some (vP (some (22, 0))), some (vI (a2)), x3, x4], [], h, c, n) := by
  refine k_X3_planBest_0 cx hY (ctY hY (vc_X3_fillMost (d := d + 0) w)) (by omega) (by omega) (by omega) (fun r h2 hp => ?_)
  obtain ⟨rfl, w⟩ := hp
  exact s_X3_planBest_6 cx hY eq  (by omega) (by omega) w
def wp_X3_planBest (a2 : Int32) (h : Hp) (Q : Int32 → Hp → Prop) : Prop := w_X3_planBest_0 Q a2 h
theorem vc_X3_planBest {l : Launch} {d : Nat} {a2 : Int32} {h : Hp} {Q : Int32 → Hp → Prop} (w : wp_X3_planBest a2 h Q) : Ct l lay1 yX3_planBest cX3_planBest 5 (some .int) (d + 3) 0 0 [vP (some (3, 0)), vP (some (22, 0)), vI a2] h (fun r h2 => ∃ x, r = [vI x] ∧ Q x h2) := by
  exact Ct.of (by decide) (Nat.le_of_ble_eq_true rfl) fun E cx eq hl hY => s_X3_planBest_0 cx hY eq (Nat.le_refl _) (Nat.le_refl _) w
def w_X7_takeBytes_25 (Q : Hp → Prop) (b1 : Int64) (a3 : Int32) (h : Hp) : Prop := Q (h)
def w_X7_takeBytes_19 (K3 : Int64 → Int32 → Hp → Prop) (Q : Hp → Prop) (b1 : Int64) (a3 : Int32) (h : Hp) : Prop := K3 (b1) (a3 + (-8)) (h)
def w_X7_takeBytes_7 (K3 : Int64 → Int32 → Hp → Prop) (Q : Hp → Prop) (b1 : Int64) (a3 : Int32) (h : Hp) : Prop := wp_X7_takeSign (((((b1).toUInt64 >>> ((a3).toInt64.toUInt64 &&& Int64.toUInt64 63)).toInt64).toInt32) &&& ((255 : Int32))) (h) (fun h2 => w_X7_takeBytes_19 K3 Q (b1) (a3) (h2))
def w_X7_takeBytes_3 (Q : Hp → Prop) : Nat → Int64 → Int32 → Hp → Prop
  | 0 => fun _ _ _ => False
  | N + 1 => fun b1 a3 h => ((a3) < 0 → w_X7_takeBytes_25  Q (b1) (a3) (h)) ∧ (¬ (a3) < 0 → w_X7_takeBytes_7 (w_X7_takeBytes_3  Q N) Q (b1) (a3) (h))
def w_X7_takeBytes_0 (Q : Hp → Prop) (b1 : Int64) (h : Hp) : Prop := ∃ N, w_X7_takeBytes_3  Q N (b1) ((56 : Int32)) (h)
theorem s_X7_takeBytes_25 {E : EnvT} {d : Nat} (cx : CX E "ShoreDay$Tape" cX7_takeBytes 4 none "takeBytes" (d + 3) 0 0) (hY : eY E = lay1) {Q : Hp → Prop} (eq : EQ E 0 0 (fun r h2 => r = [] ∧ Q h2)) {b1 : Int64} {x2 : Option AVal} {a3 : Int32} {h : Hp} {c n : Nat} (hc : c + 0 ≤ 0) (hn : n + 0 ≤ 0) (w : w_X7_takeBytes_25  Q b1 a3 h) : SW E 25 ([some (vP (some (7, 0))), some (vL (b1)), x2, some (vI (a3))], [], h, c, n) := by
  exact k_X7_takeBytes_25 cx hY eq (by omega) (by omega) ⟨rfl, w⟩
theorem s_X7_takeBytes_19 {E : EnvT} {d : Nat} (cx : CX E "ShoreDay$Tape" cX7_takeBytes 4 none "takeBytes" (d + 3) 0 0) (hY : eY E = lay1) {Q : Hp → Prop} (eq : EQ E 0 0 (fun r h2 => r = [] ∧ Q h2)) {K3 : Int64 → Int32 → Hp → Prop} (hK3 : ∀ (b1 : Int64) (x2 : Option AVal) (a3 : Int32) (h : Hp) (c n : Nat), c + 0 ≤ 0 → n + 0 ≤ 0 → K3 b1 a3 h → SW E 3 ([some (vP (some (7, 0))), some (vL (b1)), x2, some (vI (a3))], [], h, c, n)) {b1 : Int64} {x2 : Option AVal} {a3 : Int32} {h : Hp} {c n : Nat} (hc : c + 0 ≤ 0) (hn : n + 0 ≤ 0) (w : w_X7_takeBytes_19 K3 Q b1 a3 h) : SW E 19 ([some (vP (some (7, 0))), some (vL (b1)), x2, some (vI (a3))], [], h, c, n) := by
  refine k_X7_takeBytes_19 cx hY ?_
  exact hK3 _ _ _ _ _ _ (by omega) (by omega) w
theorem s_X7_takeBytes_7 {E : EnvT} {d : Nat} (cx : CX E "ShoreDay$Tape" cX7_takeBytes 4 none "takeBytes" (d + 3) 0 0) (hY : eY E = lay1) {Q : Hp → Prop} (eq : EQ E 0 0 (fun r h2 => r = [] ∧ Q h2)) {K3 : Int64 → Int32 → Hp → Prop} (hK3 : ∀ (b1 : Int64) (x2 : Option AVal) (a3 : Int32) (h : Hp) (c n : Nat), c + 0 ≤ 0 → n + 0 ≤ 0 → K3 b1 a3 h → SW E 3 ([some (vP (some (7, 0))), some (vL (b1)), x2, some (vI (a3))], [], h, c, n)) {b1 : Int64} {x2 : Option AVal} {a3 : Int32} {h : Hp} {c n : Nat} (hc : c + 0 ≤ 0) (hn : n + 0 ≤ 0) (w : w_X7_takeBytes_7 K3 Q b1 a3 h) : SW E 7 ([some (vP (some (7, 0))), some (vL (b1)), x2, some (vI (a3))], [], h, c, n) := by
  refine k_X7_takeBytes_7 cx hY (ctY hY (vc_X7_takeSign (d := d + 0) w)) (by omega) (by omega) (by omega) (fun r h2 hp => ?_)
  obtain ⟨rfl, w⟩ := hp
  exact s_X7_takeBytes_19 cx hY eq hK3 (by omega) (by omega) w
theorem s_X7_takeBytes_3 {E : EnvT} {d : Nat} (cx : CX E "ShoreDay$Tape" cX7_takeBytes 4 none "takeBytes" (d + 3) 0 0) (hY : eY E = lay1) {Q : Hp → Prop} (eq : EQ E 0 0 (fun r h2 => r = [] ∧ Q h2)) : ∀ (N : Nat) (b1 : Int64) (x2 : Option AVal) (a3 : Int32) (h : Hp) (c n : Nat), c + 0 ≤ 0 → n + 0 ≤ 0 → w_X7_takeBytes_3  Q N b1 a3 h → SW E 3 ([some (vP (some (7, 0))), some (vL (b1)), x2, some (vI (a3))], [], h, c, n) := by
  intro N
  induction N with
  | zero =>
    intro _ _ _ h c n _ _ w
    exact w.elim
  | succ N ih =>
    intro b1 x2 a3 h c n hc hn w
    refine k_X7_takeBytes_3 cx hY (fun q => ?_) (fun q => ?_)
    · have w := w.1 q
      exact s_X7_takeBytes_25 cx hY eq  (by omega) (by omega) w
    · have w := w.2 q
      exact s_X7_takeBytes_7 cx hY eq ih (by omega) (by omega) w
theorem s_X7_takeBytes_0 {E : EnvT} {d : Nat} (cx : CX E "ShoreDay$Tape" cX7_takeBytes 4 none "takeBytes" (d + 3) 0 0) (hY : eY E = lay1) {Q : Hp → Prop} (eq : EQ E 0 0 (fun r h2 => r = [] ∧ Q h2)) {b1 : Int64} {x2 : Option AVal} {x3 : Option AVal} {h : Hp} {c n : Nat} (hc : c + 0 ≤ 0) (hn : n + 0 ≤ 0) (w : w_X7_takeBytes_0  Q b1 h) : SW E 0 ([some (vP (some (7, 0))), some (vL (b1)), x2, x3], [], h, c, n) := by
  refine k_X7_takeBytes_0 cx hY ?_
  obtain ⟨N1, w⟩ := w
  exact s_X7_takeBytes_3 cx hY eq  _ _ _ _ _ _ _ (by omega) (by omega) w
def wp_X7_takeBytes (b1 : Int64) (h : Hp) (Q : Hp → Prop) : Prop := w_X7_takeBytes_0 Q b1 h
theorem vc_X7_takeBytes {l : Launch} {d : Nat} {b1 : Int64} {h : Hp} {Q : Hp → Prop} (w : wp_X7_takeBytes b1 h Q) : Ct l lay1 yX7_takeBytes cX7_takeBytes 4 none (d + 3) 0 0 [vP (some (7, 0)), vL b1] h (fun r h2 => r = [] ∧ Q h2) := by
  exact Ct.of (by decide) (Nat.le_of_ble_eq_true rfl) fun E cx eq hl hY => s_X7_takeBytes_0 cx hY eq (Nat.le_refl _) (Nat.le_refl _) w
def w_X11_feed_34 (Q : Int32 → Hp → Prop) (b1 : Int64) (b3 : Int64) (b5 : Int64) (h : Hp) : Prop := Q (gI (h) 7 (0) (1)) (h)
def w_X11_feed_22 (Q : Int32 → Hp → Prop) (b1 : Int64) (b3 : Int64) (b5 : Int64) (h : Hp) : Prop := wp_X7_takeBytes (b5) (h) (fun h2 => w_X11_feed_34  Q (b1) (b3) (b5) (h2))
def w_X11_feed_11 (Q : Int32 → Hp → Prop) (b1 : Int64) (b3 : Int64) (b5 : Int64) (h : Hp) : Prop := wp_X7_takeBytes (b3) (h) (fun h2 => w_X11_feed_22  Q (b1) (b3) (b5) (h2))
def w_X11_feed_0 (Q : Int32 → Hp → Prop) (b1 : Int64) (b3 : Int64) (b5 : Int64) (h : Hp) : Prop := wp_X7_takeBytes (b1) (h) (fun h2 => w_X11_feed_11  Q (b1) (b3) (b5) (h2))
theorem s_X11_feed_34 {E : EnvT} {d : Nat} (cx : CX E "ShoreDay" cX11_feed 7 (some .int) "feed" (d + 4) 0 0) (hY : eY E = lay1) {Q : Int32 → Hp → Prop} (eq : EQ E 0 0 (fun r h2 => ∃ x, r = [vI x] ∧ Q x h2)) {b1 : Int64} {x2 : Option AVal} {b3 : Int64} {x4 : Option AVal} {b5 : Int64} {x6 : Option AVal} {h : Hp} {c n : Nat} (hc : c + 0 ≤ 0) (hn : n + 0 ≤ 0) (w : w_X11_feed_34  Q b1 b3 b5 h) : SW E 34 ([some (vP (some (11, 0))), some (vL (b1)), x2, some (vL (b3)), x4, some (vL (b5)), x6], [], h, c, n) := by
  exact k_X11_feed_34 cx hY eq (by omega) (by omega) ⟨_, rfl, w⟩
theorem s_X11_feed_22 {E : EnvT} {d : Nat} (cx : CX E "ShoreDay" cX11_feed 7 (some .int) "feed" (d + 4) 0 0) (hY : eY E = lay1) {Q : Int32 → Hp → Prop} (eq : EQ E 0 0 (fun r h2 => ∃ x, r = [vI x] ∧ Q x h2)) {b1 : Int64} {x2 : Option AVal} {b3 : Int64} {x4 : Option AVal} {b5 : Int64} {x6 : Option AVal} {h : Hp} {c n : Nat} (hc : c + 0 ≤ 0) (hn : n + 0 ≤ 0) (w : w_X11_feed_22  Q b1 b3 b5 h) : SW E 22 ([some (vP (some (11, 0))), some (vL (b1)), x2, some (vL (b3)), x4, some (vL (b5)), x6], [], h, c, n) := by
  refine k_X11_feed_22 cx hY (ctY hY (vc_X7_takeBytes (d := d + 0) w)) (by omega) (by omega) (by omega) (fun r h2 hp => ?_)
  obtain ⟨rfl, w⟩ := hp
  exact s_X11_feed_34 cx hY eq  (by omega) (by omega) w
theorem s_X11_feed_11 {E : EnvT} {d : Nat} (cx : CX E "ShoreDay" cX11_feed 7 (some .int) "feed" (d + 4) 0 0) (hY : eY E = lay1) {Q : Int32 → Hp → Prop} (eq : EQ E 0 0 (fun r h2 => ∃ x, r = [vI x] ∧ Q x h2)) {b1 : Int64} {x2 : Option AVal} {b3 : Int64} {x4 : Option AVal} {b5 : Int64} {x6 : Option AVal} {h : Hp} {c n : Nat} (hc : c + 0 ≤ 0) (hn : n + 0 ≤ 0) (w : w_X11_feed_11  Q b1 b3 b5 h) : SW E 11 ([some (vP (some (11, 0))), some (vL (b1)), x2, some (vL (b3)), x4, some (vL (b5)), x6], [], h, c, n) := by
  refine k_X11_feed_11 cx hY (ctY hY (vc_X7_takeBytes (d := d + 0) w)) (by omega) (by omega) (by omega) (fun r h2 hp => ?_)
  obtain ⟨rfl, w⟩ := hp
  exact s_X11_feed_22 cx hY eq  (by omega) (by omega) w
theorem s_X11_feed_0 {E : EnvT} {d : Nat} (cx : CX E "ShoreDay" cX11_feed 7 (some .int) "feed" (d + 4) 0 0) (hY : eY E = lay1) {Q : Int32 → Hp → Prop} (eq : EQ E 0 0 (fun r h2 => ∃ x, r = [vI x] ∧ Q x h2)) {b1 : Int64} {x2 : Option AVal} {b3 : Int64} {x4 : Option AVal} {b5 : Int64} {x6 : Option AVal} {h : Hp} {c n : Nat} (hc : c + 0 ≤ 0) (hn : n + 0 ≤ 0) (w : w_X11_feed_0  Q b1 b3 b5 h) : SW E 0 ([some (vP (some (11, 0))), some (vL (b1)), x2, some (vL (b3)), x4, some (vL (b5)), x6], [], h, c, n) := by
  refine k_X11_feed_0 cx hY (ctY hY (vc_X7_takeBytes (d := d + 0) w)) (by omega) (by omega) (by omega) (fun r h2 hp => ?_)
  obtain ⟨rfl, w⟩ := hp
  exact s_X11_feed_11 cx hY eq  (by omega) (by omega) w
def wp_X11_feed (b1 : Int64) (b3 : Int64) (b5 : Int64) (h : Hp) (Q : Int32 → Hp → Prop) : Prop := w_X11_feed_0 Q b1 b3 b5 h
theorem vc_X11_feed {l : Launch} {d : Nat} {b1 : Int64} {b3 : Int64} {b5 : Int64} {h : Hp} {Q : Int32 → Hp → Prop} (w : wp_X11_feed b1 b3 b5 h Q) : Ct l lay1 yX11_feed cX11_feed 7 (some .int) (d + 4) 0 0 [vP (some (11, 0)), vL b1, vL b3, vL b5] h (fun r h2 => ∃ x, r = [vI x] ∧ Q x h2) := by
  exact Ct.of (by decide) (Nat.le_of_ble_eq_true rfl) fun E cx eq hl hY => s_X11_feed_0 cx hY eq (Nat.le_refl _) (Nat.le_refl _) w
def w_X11_plan_15 (Q : Int32 → Hp → Prop) (s0 : Int32) (h : Hp) : Prop := Q (s0) (h)
def w_X11_plan_0 (Q : Int32 → Hp → Prop) (h : Hp) : Prop := wp_X3_planBest (gI (h) 11 (0) (5)) (h) (fun r2 h2 => w_X11_plan_15  Q (r2) (h2))
theorem s_X11_plan_15 {E : EnvT} {d : Nat} (cx : CX E "ShoreDay" cX11_plan 1 (some .int) "plan" (d + 4) 0 0) (hY : eY E = lay1) {Q : Int32 → Hp → Prop} (eq : EQ E 0 0 (fun r h2 => ∃ x, r = [vI x] ∧ Q x h2)) {s0 : Int32} {h : Hp} {c n : Nat} (hc : c + 0 ≤ 0) (hn : n + 0 ≤ 0) (w : w_X11_plan_15  Q s0 h) : SW E 15 ([some (vP (some (11, 0)))], [vI (s0)], h, c, n) := by
  exact k_X11_plan_15 cx hY eq (by omega) (by omega) ⟨_, rfl, w⟩
theorem s_X11_plan_0 {E : EnvT} {d : Nat} (cx : CX E "ShoreDay" cX11_plan 1 (some .int) "plan" (d + 4) 0 0) (hY : eY E = lay1) {Q : Int32 → Hp → Prop} (eq : EQ E 0 0 (fun r h2 => ∃ x, r = [vI x] ∧ Q x h2)) {h : Hp} {c n : Nat} (hc : c + 0 ≤ 0) (hn : n + 0 ≤ 0) (w : w_X11_plan_0  Q  h) : SW E 0 ([some (vP (some (11, 0)))], [], h, c, n) := by
  refine k_X11_plan_0 cx hY (ctY hY (vc_X3_planBest (d := d + 0) w)) (by omega) (by omega) (by omega) (fun r h2 hp => ?_)
  obtain ⟨r2, rfl, w⟩ := hp
  exact s_X11_plan_15 cx hY eq  (by omega) (by omega) w
def wp_X11_plan (h : Hp) (Q : Int32 → Hp → Prop) : Prop := w_X11_plan_0 Q  h
theorem vc_X11_plan {l : Launch} {d : Nat} {h : Hp} {Q : Int32 → Hp → Prop} (w : wp_X11_plan h Q) : Ct l lay1 yX11_plan cX11_plan 1 (some .int) (d + 4) 0 0 [vP (some (11, 0))] h (fun r h2 => ∃ x, r = [vI x] ∧ Q x h2) := by
  exact Ct.of (by decide) (Nat.le_of_ble_eq_true rfl) fun E cx eq hl hY => s_X11_plan_0 cx hY eq (Nat.le_refl _) (Nat.le_refl _) w
def w_X11_count_56 (Q : Int32 → Hp → Prop) (a1 : Int32) (h : Hp) : Prop := Q (gI (h) 11 (0) (1)) (h)
def w_X11_count_61 (Q : Int32 → Hp → Prop) (a1 : Int32) (h : Hp) : Prop := Q (gI (h) 11 (0) (3)) (h)
def w_X11_count_66 (Q : Int32 → Hp → Prop) (a1 : Int32) (h : Hp) : Prop := Q (gI (h) 11 (0) (5)) (h)
def w_X11_count_71 (Q : Int32 → Hp → Prop) (a1 : Int32) (h : Hp) : Prop := Q (gI (h) 11 (0) (8)) (h)
def w_X11_count_76 (Q : Int32 → Hp → Prop) (a1 : Int32) (h : Hp) : Prop := Q (gI (h) 11 (0) (14)) (h)
def w_X11_count_85 (Q : Int32 → Hp → Prop) (a1 : Int32) (s0 : Int32) (h : Hp) : Prop := Q (s0) (h)
def w_X11_count_81 (Q : Int32 → Hp → Prop) (a1 : Int32) (h : Hp) : Prop := wp_X11_guestsInTown  (h) (fun r2 h2 => w_X11_count_85  Q (a1) (r2) (h2))
def w_X11_count_86 (Q : Int32 → Hp → Prop) (a1 : Int32) (h : Hp) : Prop := Q (gI (h) 11 (0) (17)) (h)
def w_X11_count_91 (Q : Int32 → Hp → Prop) (a1 : Int32) (h : Hp) : Prop := Q (gI (h) 11 (0) (16)) (h)
def w_X11_count_96 (Q : Int32 → Hp → Prop) (a1 : Int32) (h : Hp) : Prop := ∃ g1, gP (h) 0 (0) 3 = some (1, g1) ∧ (Q (gI (h) 1 (g1) (6)) (h))
def w_X11_count_107 (Q : Int32 → Hp → Prop) (a1 : Int32) (h : Hp) : Prop := Q (gI (h) 7 (0) (1)) (h)
def w_X11_count_118 (Q : Int32 → Hp → Prop) (a1 : Int32) (h : Hp) : Prop := Q ((-1 : Int32)) (h)
def w_X11_count_0 (Q : Int32 → Hp → Prop) (a1 : Int32) (h : Hp) : Prop := ((a1).toInt < 0 ∨ 9 < (a1).toInt → w_X11_count_118  Q (a1) (h)) ∧ ((a1).toInt = 0 → w_X11_count_56  Q (a1) (h)) ∧ ((a1).toInt = 1 → w_X11_count_61  Q (a1) (h)) ∧ ((a1).toInt = 2 → w_X11_count_66  Q (a1) (h)) ∧ ((a1).toInt = 3 → w_X11_count_71  Q (a1) (h)) ∧ ((a1).toInt = 4 → w_X11_count_76  Q (a1) (h)) ∧ ((a1).toInt = 5 → w_X11_count_81  Q (a1) (h)) ∧ ((a1).toInt = 6 → w_X11_count_86  Q (a1) (h)) ∧ ((a1).toInt = 7 → w_X11_count_91  Q (a1) (h)) ∧ ((a1).toInt = 8 → w_X11_count_96  Q (a1) (h)) ∧ ((a1).toInt = 9 → w_X11_count_107  Q (a1) (h))
theorem s_X11_count_56 {E : EnvT} {d : Nat} (cx : CX E "ShoreDay" cX11_count 2 (some .int) "count" (d + 4) 0 0) (hY : eY E = lay1) {Q : Int32 → Hp → Prop} (eq : EQ E 0 0 (fun r h2 => ∃ x, r = [vI x] ∧ Q x h2)) {a1 : Int32} {h : Hp} {c n : Nat} (hc : c + 0 ≤ 0) (hn : n + 0 ≤ 0) (w : w_X11_count_56  Q a1 h) : SW E 56 ([some (vP (some (11, 0))), some (vI (a1))], [], h, c, n) := by
  exact k_X11_count_56 cx hY eq (by omega) (by omega) ⟨_, rfl, w⟩
theorem s_X11_count_61 {E : EnvT} {d : Nat} (cx : CX E "ShoreDay" cX11_count 2 (some .int) "count" (d + 4) 0 0) (hY : eY E = lay1) {Q : Int32 → Hp → Prop} (eq : EQ E 0 0 (fun r h2 => ∃ x, r = [vI x] ∧ Q x h2)) {a1 : Int32} {h : Hp} {c n : Nat} (hc : c + 0 ≤ 0) (hn : n + 0 ≤ 0) (w : w_X11_count_61  Q a1 h) : SW E 61 ([some (vP (some (11, 0))), some (vI (a1))], [], h, c, n) := by
  exact k_X11_count_61 cx hY eq (by omega) (by omega) ⟨_, rfl, w⟩
theorem s_X11_count_66 {E : EnvT} {d : Nat} (cx : CX E "ShoreDay" cX11_count 2 (some .int) "count" (d + 4) 0 0) (hY : eY E = lay1) {Q : Int32 → Hp → Prop} (eq : EQ E 0 0 (fun r h2 => ∃ x, r = [vI x] ∧ Q x h2)) {a1 : Int32} {h : Hp} {c n : Nat} (hc : c + 0 ≤ 0) (hn : n + 0 ≤ 0) (w : w_X11_count_66  Q a1 h) : SW E 66 ([some (vP (some (11, 0))), some (vI (a1))], [], h, c, n) := by
  exact k_X11_count_66 cx hY eq (by omega) (by omega) ⟨_, rfl, w⟩
theorem s_X11_count_71 {E : EnvT} {d : Nat} (cx : CX E "ShoreDay" cX11_count 2 (some .int) "count" (d + 4) 0 0) (hY : eY E = lay1) {Q : Int32 → Hp → Prop} (eq : EQ E 0 0 (fun r h2 => ∃ x, r = [vI x] ∧ Q x h2)) {a1 : Int32} {h : Hp} {c n : Nat} (hc : c + 0 ≤ 0) (hn : n + 0 ≤ 0) (w : w_X11_count_71  Q a1 h) : SW E 71 ([some (vP (some (11, 0))), some (vI (a1))], [], h, c, n) := by
  exact k_X11_count_71 cx hY eq (by omega) (by omega) ⟨_, rfl, w⟩
theorem s_X11_count_76 {E : EnvT} {d : Nat} (cx : CX E "ShoreDay" cX11_count 2 (some .int) "count" (d + 4) 0 0) (hY : eY E = lay1) {Q : Int32 → Hp → Prop} (eq : EQ E 0 0 (fun r h2 => ∃ x, r = [vI x] ∧ Q x h2)) {a1 : Int32} {h : Hp} {c n : Nat} (hc : c + 0 ≤ 0) (hn : n + 0 ≤ 0) (w : w_X11_count_76  Q a1 h) : SW E 76 ([some (vP (some (11, 0))), some (vI (a1))], [], h, c, n) := by
  exact k_X11_count_76 cx hY eq (by omega) (by omega) ⟨_, rfl, w⟩
theorem s_X11_count_85 {E : EnvT} {d : Nat} (cx : CX E "ShoreDay" cX11_count 2 (some .int) "count" (d + 4) 0 0) (hY : eY E = lay1) {Q : Int32 → Hp → Prop} (eq : EQ E 0 0 (fun r h2 => ∃ x, r = [vI x] ∧ Q x h2)) {a1 : Int32} {s0 : Int32} {h : Hp} {c n : Nat} (hc : c + 0 ≤ 0) (hn : n + 0 ≤ 0) (w : w_X11_count_85  Q a1 s0 h) : SW E 85 ([some (vP (some (11, 0))), some (vI (a1))], [vI (s0)], h, c, n) := by
  exact k_X11_count_85 cx hY eq (by omega) (by omega) ⟨_, rfl, w⟩
theorem s_X11_count_81 {E : EnvT} {d : Nat} (cx : CX E "ShoreDay" cX11_count 2 (some .int) "count" (d + 4) 0 0) (hY : eY E = lay1) {Q : Int32 → Hp → Prop} (eq : EQ E 0 0 (fun r h2 => ∃ x, r = [vI x] ∧ Q x h2)) {a1 : Int32} {h : Hp} {c n : Nat} (hc : c + 0 ≤ 0) (hn : n + 0 ≤ 0) (w : w_X11_count_81  Q a1 h) : SW E 81 ([some (vP (some (11, 0))), some (vI (a1))], [], h, c, n) := by
  refine k_X11_count_81 cx hY (ctY hY (vc_X11_guestsInTown (d := d + 0) w)) (by omega) (by omega) (by omega) (fun r h2 hp => ?_)
  obtain ⟨r2, rfl, w⟩ := hp
  exact s_X11_count_85 cx hY eq  (by omega) (by omega) w
theorem s_X11_count_86 {E : EnvT} {d : Nat} (cx : CX E "ShoreDay" cX11_count 2 (some .int) "count" (d + 4) 0 0) (hY : eY E = lay1) {Q : Int32 → Hp → Prop} (eq : EQ E 0 0 (fun r h2 => ∃ x, r = [vI x] ∧ Q x h2)) {a1 : Int32} {h : Hp} {c n : Nat} (hc : c + 0 ≤ 0) (hn : n + 0 ≤ 0) (w : w_X11_count_86  Q a1 h) : SW E 86 ([some (vP (some (11, 0))), some (vI (a1))], [], h, c, n) := by
  exact k_X11_count_86 cx hY eq (by omega) (by omega) ⟨_, rfl, w⟩
theorem s_X11_count_91 {E : EnvT} {d : Nat} (cx : CX E "ShoreDay" cX11_count 2 (some .int) "count" (d + 4) 0 0) (hY : eY E = lay1) {Q : Int32 → Hp → Prop} (eq : EQ E 0 0 (fun r h2 => ∃ x, r = [vI x] ∧ Q x h2)) {a1 : Int32} {h : Hp} {c n : Nat} (hc : c + 0 ≤ 0) (hn : n + 0 ≤ 0) (w : w_X11_count_91  Q a1 h) : SW E 91 ([some (vP (some (11, 0))), some (vI (a1))], [], h, c, n) := by
  exact k_X11_count_91 cx hY eq (by omega) (by omega) ⟨_, rfl, w⟩
theorem s_X11_count_96 {E : EnvT} {d : Nat} (cx : CX E "ShoreDay" cX11_count 2 (some .int) "count" (d + 4) 0 0) (hY : eY E = lay1) {Q : Int32 → Hp → Prop} (eq : EQ E 0 0 (fun r h2 => ∃ x, r = [vI x] ∧ Q x h2)) {a1 : Int32} {h : Hp} {c n : Nat} (hc : c + 0 ≤ 0) (hn : n + 0 ≤ 0) (w : w_X11_count_96  Q a1 h) : SW E 96 ([some (vP (some (11, 0))), some (vI (a1))], [], h, c, n) := by
  obtain ⟨g1, e1, w⟩ := w
  exact k_X11_count_96 cx hY e1 eq (by omega) (by omega) ⟨_, rfl, w⟩
theorem s_X11_count_107 {E : EnvT} {d : Nat} (cx : CX E "ShoreDay" cX11_count 2 (some .int) "count" (d + 4) 0 0) (hY : eY E = lay1) {Q : Int32 → Hp → Prop} (eq : EQ E 0 0 (fun r h2 => ∃ x, r = [vI x] ∧ Q x h2)) {a1 : Int32} {h : Hp} {c n : Nat} (hc : c + 0 ≤ 0) (hn : n + 0 ≤ 0) (w : w_X11_count_107  Q a1 h) : SW E 107 ([some (vP (some (11, 0))), some (vI (a1))], [], h, c, n) := by
  exact k_X11_count_107 cx hY eq (by omega) (by omega) ⟨_, rfl, w⟩
theorem s_X11_count_118 {E : EnvT} {d : Nat} (cx : CX E "ShoreDay" cX11_count 2 (some .int) "count" (d + 4) 0 0) (hY : eY E = lay1) {Q : Int32 → Hp → Prop} (eq : EQ E 0 0 (fun r h2 => ∃ x, r = [vI x] ∧ Q x h2)) {a1 : Int32} {h : Hp} {c n : Nat} (hc : c + 0 ≤ 0) (hn : n + 0 ≤ 0) (w : w_X11_count_118  Q a1 h) : SW E 118 ([some (vP (some (11, 0))), some (vI (a1))], [], h, c, n) := by
  exact k_X11_count_118 cx hY eq (by omega) (by omega) ⟨_, rfl, w⟩
theorem s_X11_count_0 {E : EnvT} {d : Nat} (cx : CX E "ShoreDay" cX11_count 2 (some .int) "count" (d + 4) 0 0) (hY : eY E = lay1) {Q : Int32 → Hp → Prop} (eq : EQ E 0 0 (fun r h2 => ∃ x, r = [vI x] ∧ Q x h2)) {a1 : Int32} {h : Hp} {c n : Nat} (hc : c + 0 ≤ 0) (hn : n + 0 ≤ 0) (w : w_X11_count_0  Q a1 h) : SW E 0 ([some (vP (some (11, 0))), some (vI (a1))], [], h, c, n) := by
  refine k_X11_count_0 cx hY (fun q => ?_) (fun j t hj q => ?_)
  · have w := w.1 q
    exact s_X11_count_118 cx hY eq  (by omega) (by omega) w
  · match j, hj, q with
    | 0, hj, q =>
      cases hj
      have w := w.2.1 (by omega)
      exact s_X11_count_56 cx hY eq  (by omega) (by omega) w
    | 1, hj, q =>
      cases hj
      have w := w.2.2.1 (by omega)
      exact s_X11_count_61 cx hY eq  (by omega) (by omega) w
    | 2, hj, q =>
      cases hj
      have w := w.2.2.2.1 (by omega)
      exact s_X11_count_66 cx hY eq  (by omega) (by omega) w
    | 3, hj, q =>
      cases hj
      have w := w.2.2.2.2.1 (by omega)
      exact s_X11_count_71 cx hY eq  (by omega) (by omega) w
    | 4, hj, q =>
      cases hj
      have w := w.2.2.2.2.2.1 (by omega)
      exact s_X11_count_76 cx hY eq  (by omega) (by omega) w
    | 5, hj, q =>
      cases hj
      have w := w.2.2.2.2.2.2.1 (by omega)
      exact s_X11_count_81 cx hY eq  (by omega) (by omega) w
    | 6, hj, q =>
      cases hj
      have w := w.2.2.2.2.2.2.2.1 (by omega)
      exact s_X11_count_86 cx hY eq  (by omega) (by omega) w
    | 7, hj, q =>
      cases hj
      have w := w.2.2.2.2.2.2.2.2.1 (by omega)
      exact s_X11_count_91 cx hY eq  (by omega) (by omega) w
    | 8, hj, q =>
      cases hj
      have w := w.2.2.2.2.2.2.2.2.2.1 (by omega)
      exact s_X11_count_96 cx hY eq  (by omega) (by omega) w
    | 9, hj, q =>
      cases hj
      have w := w.2.2.2.2.2.2.2.2.2.2 (by omega)
      exact s_X11_count_107 cx hY eq  (by omega) (by omega) w
    | j + 10, hj, _ => simp at hj
def wp_X11_count (a1 : Int32) (h : Hp) (Q : Int32 → Hp → Prop) : Prop := w_X11_count_0 Q a1 h
theorem vc_X11_count {l : Launch} {d : Nat} {a1 : Int32} {h : Hp} {Q : Int32 → Hp → Prop} (w : wp_X11_count a1 h Q) : Ct l lay1 yX11_count cX11_count 2 (some .int) (d + 4) 0 0 [vP (some (11, 0)), vI a1] h (fun r h2 => ∃ x, r = [vI x] ∧ Q x h2) := by
  exact Ct.of (by decide) (Nat.le_of_ble_eq_true rfl) fun E cx eq hl hY => s_X11_count_0 cx hY eq (Nat.le_refl _) (Nat.le_refl _) w
def w_X11_land_92 (Q : Hp → Prop) (i1 : Nat) (j0 : Nat) (s1 : Int32) (s2 : Int32) (h : Hp) : Prop := Q (wI (wI (wI (h) 2 (j0) 11 ((s1) * (s2))) 11 (0) 17 ((gI (wI (h) 2 (j0) 11 ((s1) * (s2))) 11 (0) (17)) + (gI (wI (h) 2 (j0) 11 ((s1) * (s2))) 2 (i1) (11)))) 11 (0) 16 ((gI (wI (wI (h) 2 (j0) 11 ((s1) * (s2))) 11 (0) 17 ((gI (wI (h) 2 (j0) 11 ((s1) * (s2))) 11 (0) (17)) + (gI (wI (h) 2 (j0) 11 ((s1) * (s2))) 2 (i1) (11)))) 11 (0) (16)) + (gI (wI (wI (h) 2 (j0) 11 ((s1) * (s2))) 11 (0) 17 ((gI (wI (h) 2 (j0) 11 ((s1) * (s2))) 11 (0) (17)) + (gI (wI (h) 2 (j0) 11 ((s1) * (s2))) 2 (i1) (11)))) 2 (i1) (1))))
def w_X11_land_71 (Q : Hp → Prop) (i1 : Nat) (h : Hp) : Prop := wp_X0_feeOf (some (2, i1)) (wI (h) 2 (i1) 9 (gI (h) 11 (0) (16))) (fun r2 h2 => w_X11_land_92  Q (i1) (i1) (gI (wI (h) 2 (i1) 9 (gI (h) 11 (0) (16))) 2 (i1) (1)) (r2) (h2))
def w_X11_land_68 (Q : Hp → Prop) (p1 : Option PtrT) (j0 : Nat) (s1 : Int32) (h : Hp) : Prop := ∃ zl1, p1 = some (2, zl1) ∧ (w_X11_land_71  Q zl1 (wI (h) 2 (j0) 13 (s1)))
def w_X11_land_61 (Q : Hp → Prop) (p1 : Option PtrT) (q0 : Option PtrT) (h : Hp) : Prop := ∃ zs0, q0 = some (2, zs0) ∧ (w_X11_land_68  Q (p1) zs0 ((gI (h) 11 (0) (14)) + ((60 : Int32))) (h))
def w_X11_land_51 (Q : Hp → Prop) (i1 : Nat) (q0 : Option PtrT) (h : Hp) : Prop := ∃ g1, gP (h) 2 (i1) 4 = some (10, g1) ∧ (∃ zs0, q0 = some (2, zs0) ∧ (w_X11_land_68  Q (some (2, i1)) zs0 (gI (h) 10 (g1) (0)) (h)))
def w_X11_land_36 (Q : Hp → Prop) (i1 : Nat) (h : Hp) : Prop := ∃ g1, gP (h) 2 (i1) 4 = some (10, g1) ∧ (((gI (h) 10 (g1) (0)) < (gI (h) 11 (0) (14)) → w_X11_land_61  Q (some (2, i1)) (some (2, i1)) (h)) ∧ (¬ (gI (h) 10 (g1) (0)) < (gI (h) 11 (0) (14)) → w_X11_land_51  Q (i1) (some (2, i1)) (h)))
def w_X11_land_20 (Q : Hp → Prop) (i1 : Nat) (h : Hp) : Prop := w_X11_land_71  Q (i1) (wI (h) 2 (i1) 13 ((gI (h) 11 (0) (14)) + (gI (h) 2 (i1) (5))))
def w_X11_land_0 (Q : Hp → Prop) (i1 : Nat) (h : Hp) : Prop := (¬ (gP (wI (wI (h) 2 (i1) 6 ((2 : Int32))) 2 (i1) 8 (gI (wI (h) 2 (i1) 6 ((2 : Int32))) 11 (0) (14))) 2 (i1) 4) = none → w_X11_land_36  Q (i1) (wI (wI (h) 2 (i1) 6 ((2 : Int32))) 2 (i1) 8 (gI (wI (h) 2 (i1) 6 ((2 : Int32))) 11 (0) (14)))) ∧ ((gP (wI (wI (h) 2 (i1) 6 ((2 : Int32))) 2 (i1) 8 (gI (wI (h) 2 (i1) 6 ((2 : Int32))) 11 (0) (14))) 2 (i1) 4) = none → w_X11_land_20  Q (i1) (wI (wI (h) 2 (i1) 6 ((2 : Int32))) 2 (i1) 8 (gI (wI (h) 2 (i1) 6 ((2 : Int32))) 11 (0) (14))))
theorem s_X11_land_92 {E : EnvT} {d : Nat} (cx : CX E "ShoreDay" cX11_land 2 none "land" (d + 4) 0 0) (hY : eY E = lay1) {Q : Hp → Prop} (eq : EQ E 0 0 (fun r h2 => r = [] ∧ Q h2)) {i1 : Nat} {j0 : Nat} {s1 : Int32} {s2 : Int32} {h : Hp} {c n : Nat} (hc : c + 0 ≤ 0) (hn : n + 0 ≤ 0) (w : w_X11_land_92  Q i1 j0 s1 s2 h) : SW E 92 ([some (vP (some (11, 0))), some (vP (some (2, i1)))], [vI (s2), vI (s1), vP (some (2, j0))], h, c, n) := by
  exact k_X11_land_92 cx hY eq (by omega) (by omega) ⟨rfl, w⟩
theorem s_X11_land_71 {E : EnvT} {d : Nat} (cx : CX E "ShoreDay" cX11_land 2 none "land" (d + 4) 0 0) (hY : eY E = lay1) {Q : Hp → Prop} (eq : EQ E 0 0 (fun r h2 => r = [] ∧ Q h2)) {i1 : Nat} {h : Hp} {c n : Nat} (hc : c + 0 ≤ 0) (hn : n + 0 ≤ 0) (w : w_X11_land_71  Q i1 h) : SW E 71 ([some (vP (some (11, 0))), some (vP (some (2, i1)))], [], h, c, n) := by
  refine k_X11_land_71 cx hY (ctY hY (vc_X0_feeOf (d := d + 0) w)) (by omega) (by omega) (by omega) (fun r h2 hp => ?_)
  obtain ⟨r2, rfl, w⟩ := hp
  exact s_X11_land_92 cx hY eq  (by omega) (by omega) w
theorem s_X11_land_68 {E : EnvT} {d : Nat} (cx : CX E "ShoreDay" cX11_land 2 none "land" (d + 4) 0 0) (hY : eY E = lay1) {Q : Hp → Prop} (eq : EQ E 0 0 (fun r h2 => r = [] ∧ Q h2)) {p1 : Option PtrT} {j0 : Nat} {s1 : Int32} {h : Hp} {c n : Nat} (hc : c + 0 ≤ 0) (hn : n + 0 ≤ 0) (w : w_X11_land_68  Q p1 j0 s1 h) : SW E 68 ([some (vP (some (11, 0))), some (vP (p1))], [vI (s1), vP (some (2, j0))], h, c, n) := by
  refine k_X11_land_68 cx hY ?_
  obtain ⟨zl1, ezl1, w⟩ := w
  rw [ezl1]
  exact s_X11_land_71 cx hY eq  (by omega) (by omega) w
theorem s_X11_land_61 {E : EnvT} {d : Nat} (cx : CX E "ShoreDay" cX11_land 2 none "land" (d + 4) 0 0) (hY : eY E = lay1) {Q : Hp → Prop} (eq : EQ E 0 0 (fun r h2 => r = [] ∧ Q h2)) {p1 : Option PtrT} {q0 : Option PtrT} {h : Hp} {c n : Nat} (hc : c + 0 ≤ 0) (hn : n + 0 ≤ 0) (w : w_X11_land_61  Q p1 q0 h) : SW E 61 ([some (vP (some (11, 0))), some (vP (p1))], [vP (q0)], h, c, n) := by
  refine k_X11_land_61 cx hY ?_
  obtain ⟨zs0, ezs0, w⟩ := w
  rw [ezs0]
  exact s_X11_land_68 cx hY eq  (by omega) (by omega) w
theorem s_X11_land_51 {E : EnvT} {d : Nat} (cx : CX E "ShoreDay" cX11_land 2 none "land" (d + 4) 0 0) (hY : eY E = lay1) {Q : Hp → Prop} (eq : EQ E 0 0 (fun r h2 => r = [] ∧ Q h2)) {i1 : Nat} {q0 : Option PtrT} {h : Hp} {c n : Nat} (hc : c + 0 ≤ 0) (hn : n + 0 ≤ 0) (w : w_X11_land_51  Q i1 q0 h) : SW E 51 ([some (vP (some (11, 0))), some (vP (some (2, i1)))], [vP (q0)], h, c, n) := by
  obtain ⟨g1, e1, w⟩ := w
  refine k_X11_land_51 cx hY e1 ?_
  obtain ⟨zs0, ezs0, w⟩ := w
  rw [ezs0]
  exact s_X11_land_68 cx hY eq  (by omega) (by omega) w
theorem s_X11_land_36 {E : EnvT} {d : Nat} (cx : CX E "ShoreDay" cX11_land 2 none "land" (d + 4) 0 0) (hY : eY E = lay1) {Q : Hp → Prop} (eq : EQ E 0 0 (fun r h2 => r = [] ∧ Q h2)) {i1 : Nat} {h : Hp} {c n : Nat} (hc : c + 0 ≤ 0) (hn : n + 0 ≤ 0) (w : w_X11_land_36  Q i1 h) : SW E 36 ([some (vP (some (11, 0))), some (vP (some (2, i1)))], [], h, c, n) := by
  obtain ⟨g1, e1, w⟩ := w
  refine k_X11_land_36 cx hY e1 (fun q => ?_) (fun q => ?_)
  · have w := w.1 q
    exact s_X11_land_61 cx hY eq  (by omega) (by omega) w
  · have w := w.2 q
    exact s_X11_land_51 cx hY eq  (by omega) (by omega) w
theorem s_X11_land_20 {E : EnvT} {d : Nat} (cx : CX E "ShoreDay" cX11_land 2 none "land" (d + 4) 0 0) (hY : eY E = lay1) {Q : Hp → Prop} (eq : EQ E 0 0 (fun r h2 => r = [] ∧ Q h2)) {i1 : Nat} {h : Hp} {c n : Nat} (hc : c + 0 ≤ 0) (hn : n + 0 ≤ 0) (w : w_X11_land_20  Q i1 h) : SW E 20 ([some (vP (some (11, 0))), some (vP (some (2, i1)))], [], h, c, n) := by
  refine k_X11_land_20 cx hY ?_
  exact s_X11_land_71 cx hY eq  (by omega) (by omega) w
theorem s_X11_land_0 {E : EnvT} {d : Nat} (cx : CX E "ShoreDay" cX11_land 2 none "land" (d + 4) 0 0) (hY : eY E = lay1) {Q : Hp → Prop} (eq : EQ E 0 0 (fun r h2 => r = [] ∧ Q h2)) {i1 : Nat} {h : Hp} {c n : Nat} (hc : c + 0 ≤ 0) (hn : n + 0 ≤ 0) (w : w_X11_land_0  Q i1 h) : SW E 0 ([some (vP (some (11, 0))), some (vP (some (2, i1)))], [], h, c, n) := by
  refine k_X11_land_0 cx hY (fun q => ?_) (fun q => ?_)
  · have w := w.1 q
    exact s_X11_land_36 cx hY eq  (by omega) (by omega) w
  · have w := w.2 q
    exact s_X11_land_20 cx hY eq  (by omega) (by omega) w
def wp_X11_land (p1 : Option PtrT) (h : Hp) (Q : Hp → Prop) : Prop := ∃ i1, p1 = some (2, i1) ∧ (w_X11_land_0 Q i1 h)
theorem vc_X11_land {l : Launch} {d : Nat} {p1 : Option PtrT} {h : Hp} {Q : Hp → Prop} (w : wp_X11_land p1 h Q) : Ct l lay1 yX11_land cX11_land 2 none (d + 4) 0 0 [vP (some (11, 0)), vP p1] h (fun r h2 => r = [] ∧ Q h2) := by
  obtain ⟨i1, rfl, w⟩ := w; exact Ct.of (by decide) (Nat.le_of_ble_eq_true rfl) fun E cx eq hl hY => s_X11_land_0 cx hY eq (Nat.le_refl _) (Nat.le_refl _) w
def w_X11_loadAtShip_90 (Q : Hp → Prop) (p1 : Option PtrT) (a2 : Int32) (a3 : Int32) (h : Hp) : Prop := Q (h)
def w_X11_loadAtShip_84 (K12 : Option PtrT → Int32 → Int32 → Hp → Prop) (Q : Hp → Prop) (p1 : Option PtrT) (a2 : Int32) (a3 : Int32) (p4 : Option PtrT) (h : Hp) : Prop := K12 (p1) (a2) (a3 + 1) (h)
def w_X11_loadAtShip_76 (K12 : Option PtrT → Int32 → Int32 → Hp → Prop) (Q : Hp → Prop) (p1 : Option PtrT) (a2 : Int32) (a3 : Int32) (i4 : Nat) (h : Hp) : Prop := w_X11_loadAtShip_84 K12 Q (p1) ((a2) - (gI (h) 2 (i4) (1))) (a3) (some (2, i4)) (h)
def w_X11_loadAtShip_70 (K12 : Option PtrT → Int32 → Int32 → Hp → Prop) (Q : Hp → Prop) (i1 : Nat) (a2 : Int32) (a3 : Int32) (p4 : Option PtrT) (h : Hp) : Prop := wp_X8_take (i1) (p4) (h) (fun h2 => ∃ zl4, p4 = some (2, zl4) ∧ (w_X11_loadAtShip_76 K12 Q (some (8, i1)) (a2) (a3) zl4 (h2)))
def w_X11_loadAtShip_61 (K12 : Option PtrT → Int32 → Int32 → Hp → Prop) (Q : Hp → Prop) (p1 : Option PtrT) (a2 : Int32) (a3 : Int32) (i4 : Nat) (h : Hp) : Prop := ((a2) < (gI (h) 2 (i4) (1)) → w_X11_loadAtShip_84 K12 Q (p1) (a2) (a3) (some (2, i4)) (h)) ∧ (¬ (a2) < (gI (h) 2 (i4) (1)) → ∃ zl1, p1 = some (8, zl1) ∧ (w_X11_loadAtShip_70 K12 Q zl1 (a2) (a3) (some (2, i4)) (h)))
def w_X11_loadAtShip_58 (K12 : Option PtrT → Int32 → Int32 → Hp → Prop) (Q : Hp → Prop) (p1 : Option PtrT) (a2 : Int32) (a3 : Int32) (p4 : Option PtrT) (s0 : Int32) (h : Hp) : Prop := ((s0) = 0 → w_X11_loadAtShip_84 K12 Q (p1) (a2) (a3) (p4) (h)) ∧ (¬ (s0) = 0 → ∃ zl4, p4 = some (2, zl4) ∧ (w_X11_loadAtShip_61 K12 Q (p1) (a2) (a3) zl4 (h)))
def w_X11_loadAtShip_52 (K12 : Option PtrT → Int32 → Int32 → Hp → Prop) (Q : Hp → Prop) (i1 : Nat) (a2 : Int32) (a3 : Int32) (p4 : Option PtrT) (h : Hp) : Prop := wp_X8_hasRoomFor (i1) (p4) (h) (fun r2 h2 => w_X11_loadAtShip_58 K12 Q (some (8, i1)) (a2) (a3) (p4) (r2) (h2))
def w_X11_loadAtShip_49 (K12 : Option PtrT → Int32 → Int32 → Hp → Prop) (Q : Hp → Prop) (p1 : Option PtrT) (a2 : Int32) (a3 : Int32) (p4 : Option PtrT) (s0 : Int32) (h : Hp) : Prop := ((s0) = 0 → w_X11_loadAtShip_84 K12 Q (p1) (a2) (a3) (p4) (h)) ∧ (¬ (s0) = 0 → ∃ zl1, p1 = some (8, zl1) ∧ (w_X11_loadAtShip_52 K12 Q zl1 (a2) (a3) (p4) (h)))
def w_X11_loadAtShip_40 (K12 : Option PtrT → Int32 → Int32 → Hp → Prop) (Q : Hp → Prop) (p1 : Option PtrT) (a2 : Int32) (a3 : Int32) (i4 : Nat) (h : Hp) : Prop := wp_X2_waitsAboard (i4) (gI (h) 11 (0) (14)) (h) (fun r2 h2 => w_X11_loadAtShip_49 K12 Q (p1) (a2) (a3) (some (2, i4)) (r2) (h2))
def w_X11_loadAtShip_20 (K12 : Option PtrT → Int32 → Int32 → Hp → Prop) (Q : Hp → Prop) (i1 : Nat) (a2 : Int32) (a3 : Int32) (h : Hp) : Prop := ∃ g1, gP (h) 24 (0) (tN (a3)) = some (2, g1) ∧ (vp_in (a3) 60 ∧ ((¬ (gP (h) 2 (g1) 0) = (gP (h) 8 (i1) 1) → w_X11_loadAtShip_84 K12 Q (some (8, i1)) (a2) (a3) (some (2, g1)) (h)) ∧ ((gP (h) 2 (g1) 0) = (gP (h) 8 (i1) 1) → w_X11_loadAtShip_40 K12 Q (some (8, i1)) (a2) (a3) (g1) (h))))
def w_X11_loadAtShip_12 (Q : Hp → Prop) : Nat → Option PtrT → Int32 → Int32 → Hp → Prop
  | 0 => fun _ _ _ _ => False
  | N + 1 => fun p1 a2 a3 h => ((gI (h) 11 (0) (8)) ≤ (a3) → w_X11_loadAtShip_90  Q (p1) (a2) (a3) (h)) ∧ (¬ (gI (h) 11 (0) (8)) ≤ (a3) → ∃ zl1, p1 = some (8, zl1) ∧ (w_X11_loadAtShip_20 (w_X11_loadAtShip_12  Q N) Q zl1 (a2) (a3) (h)))
def w_X11_loadAtShip_8 (Q : Hp → Prop) (p1 : Option PtrT) (s0 : Int32) (s1 : Int32) (h : Hp) : Prop := ∃ N, w_X11_loadAtShip_12  Q N (p1) ((s0) - (s1)) ((0 : Int32)) (h)
def w_X11_loadAtShip_0 (Q : Hp → Prop) (p1 : Option PtrT) (h : Hp) : Prop := wp_X11_guestsInTownOrComing  (h) (fun r2 h2 => w_X11_loadAtShip_8  Q (p1) (gI (h) 11 (0) (15)) (r2) (h2))
theorem s_X11_loadAtShip_90 {E : EnvT} {d : Nat} (cx : CX E "ShoreDay" cX11_loadAtShip 5 none "loadAtShip" (d + 5) 0 0) (hY : eY E = lay1) {Q : Hp → Prop} (eq : EQ E 0 0 (fun r h2 => r = [] ∧ Q h2)) {p1 : Option PtrT} {a2 : Int32} {a3 : Int32} {x4 : Option AVal} {h : Hp} {c n : Nat} (hc : c + 0 ≤ 0) (hn : n + 0 ≤ 0) (w : w_X11_loadAtShip_90  Q p1 a2 a3 h) : SW E 90 ([some (vP (some (11, 0))), some (vP (p1)), some (vI (a2)), some (vI (a3)), x4], [], h, c, n) := by
  exact k_X11_loadAtShip_90 cx hY eq (by omega) (by omega) ⟨rfl, w⟩
theorem s_X11_loadAtShip_84 {E : EnvT} {d : Nat} (cx : CX E "ShoreDay" cX11_loadAtShip 5 none "loadAtShip" (d + 5) 0 0) (hY : eY E = lay1) {Q : Hp → Prop} (eq : EQ E 0 0 (fun r h2 => r = [] ∧ Q h2)) {K12 : Option PtrT → Int32 → Int32 → Hp → Prop} (hK12 : ∀ (p1 : Option PtrT) (a2 : Int32) (a3 : Int32) (x4 : Option AVal) (h : Hp) (c n : Nat), c + 0 ≤ 0 → n + 0 ≤ 0 → K12 p1 a2 a3 h → SW E 12 ([some (vP (some (11, 0))), some (vP (p1)), some (vI (a2)), some (vI (a3)), x4], [], h, c, n)) {p1 : Option PtrT} {a2 : Int32} {a3 : Int32} {p4 : Option PtrT} {h : Hp} {c n : Nat} (hc : c + 0 ≤ 0) (hn : n + 0 ≤ 0) (w : w_X11_loadAtShip_84 K12 Q p1 a2 a3 p4 h) : SW E 84 ([some (vP (some (11, 0))), some (vP (p1)), some (vI (a2)), some (vI (a3)), some (vP (p4))], [], h, c, n) := by
  refine k_X11_loadAtShip_84 cx hY ?_
  exact hK12 _ _ _ _ _ _ _ (by omega) (by omega) w
theorem s_X11_loadAtShip_76 {E : EnvT} {d : Nat} (cx : CX E "ShoreDay" cX11_loadAtShip 5 none "loadAtShip" (d + 5) 0 0) (hY : eY E = lay1) {Q : Hp → Prop} (eq : EQ E 0 0 (fun r h2 => r = [] ∧ Q h2)) {K12 : Option PtrT → Int32 → Int32 → Hp → Prop} (hK12 : ∀ (p1 : Option PtrT) (a2 : Int32) (a3 : Int32) (x4 : Option AVal) (h : Hp) (c n : Nat), c + 0 ≤ 0 → n + 0 ≤ 0 → K12 p1 a2 a3 h → SW E 12 ([some (vP (some (11, 0))), some (vP (p1)), some (vI (a2)), some (vI (a3)), x4], [], h, c, n)) {p1 : Option PtrT} {a2 : Int32} {a3 : Int32} {i4 : Nat} {h : Hp} {c n : Nat} (hc : c + 0 ≤ 0) (hn : n + 0 ≤ 0) (w : w_X11_loadAtShip_76 K12 Q p1 a2 a3 i4 h) : SW E 76 ([some (vP (some (11, 0))), some (vP (p1)), some (vI (a2)), some (vI (a3)), some (vP (some (2, i4)))], [], h, c, n) := by
  refine k_X11_loadAtShip_76 cx hY ?_
  exact s_X11_loadAtShip_84 cx hY eq hK12 (by omega) (by omega) w
theorem s_X11_loadAtShip_70 {E : EnvT} {d : Nat} (cx : CX E "ShoreDay" cX11_loadAtShip 5 none "loadAtShip" (d + 5) 0 0) (hY : eY E = lay1) {Q : Hp → Prop} (eq : EQ E 0 0 (fun r h2 => r = [] ∧ Q h2)) {K12 : Option PtrT → Int32 → Int32 → Hp → Prop} (hK12 : ∀ (p1 : Option PtrT) (a2 : Int32) (a3 : Int32) (x4 : Option AVal) (h : Hp) (c n : Nat), c + 0 ≤ 0 → n + 0 ≤ 0 → K12 p1 a2 a3 h → SW E 12 ([some (vP (some (11, 0))), some (vP (p1)), some (vI (a2)), some (vI (a3)), x4], [], h, c, n)) {i1 : Nat} {a2 : Int32} {a3 : Int32} {p4 : Option PtrT} {h : Hp} {c n : Nat} (hc : c + 0 ≤ 0) (hn : n + 0 ≤ 0) (w : w_X11_loadAtShip_70 K12 Q i1 a2 a3 p4 h) : SW E 70 ([some (vP (some (11, 0))), some (vP (some (8, i1))), some (vI (a2)), some (vI (a3)), some (vP (p4))], [], h, c, n) := by
  refine k_X11_loadAtShip_70 cx hY (ctY hY (vc_X8_take (d := d + 3) w)) (by omega) (by omega) (by omega) (fun r h2 hp => ?_)
  obtain ⟨rfl, w⟩ := hp
  obtain ⟨zl4, ezl4, w⟩ := w
  rw [ezl4]
  exact s_X11_loadAtShip_76 cx hY eq hK12 (by omega) (by omega) w
theorem s_X11_loadAtShip_61 {E : EnvT} {d : Nat} (cx : CX E "ShoreDay" cX11_loadAtShip 5 none "loadAtShip" (d + 5) 0 0) (hY : eY E = lay1) {Q : Hp → Prop} (eq : EQ E 0 0 (fun r h2 => r = [] ∧ Q h2)) {K12 : Option PtrT → Int32 → Int32 → Hp → Prop} (hK12 : ∀ (p1 : Option PtrT) (a2 : Int32) (a3 : Int32) (x4 : Option AVal) (h : Hp) (c n : Nat), c + 0 ≤ 0 → n + 0 ≤ 0 → K12 p1 a2 a3 h → SW E 12 ([some (vP (some (11, 0))), some (vP (p1)), some (vI (a2)), some (vI (a3)), x4], [], h, c, n)) {p1 : Option PtrT} {a2 : Int32} {a3 : Int32} {i4 : Nat} {h : Hp} {c n : Nat} (hc : c + 0 ≤ 0) (hn : n + 0 ≤ 0) (w : w_X11_loadAtShip_61 K12 Q p1 a2 a3 i4 h) : SW E 61 ([some (vP (some (11, 0))), some (vP (p1)), some (vI (a2)), some (vI (a3)), some (vP (some (2, i4)))], [], h, c, n) := by
  refine k_X11_loadAtShip_61 cx hY (fun q => ?_) (fun q => ?_)
  · have w := w.1 q
    exact s_X11_loadAtShip_84 cx hY eq hK12 (by omega) (by omega) w
  · have w := w.2 q
    obtain ⟨zl1, ezl1, w⟩ := w
    rw [ezl1]
    exact s_X11_loadAtShip_70 cx hY eq hK12 (by omega) (by omega) w
theorem s_X11_loadAtShip_58 {E : EnvT} {d : Nat} (cx : CX E "ShoreDay" cX11_loadAtShip 5 none "loadAtShip" (d + 5) 0 0) (hY : eY E = lay1) {Q : Hp → Prop} (eq : EQ E 0 0 (fun r h2 => r = [] ∧ Q h2)) {K12 : Option PtrT → Int32 → Int32 → Hp → Prop} (hK12 : ∀ (p1 : Option PtrT) (a2 : Int32) (a3 : Int32) (x4 : Option AVal) (h : Hp) (c n : Nat), c + 0 ≤ 0 → n + 0 ≤ 0 → K12 p1 a2 a3 h → SW E 12 ([some (vP (some (11, 0))), some (vP (p1)), some (vI (a2)), some (vI (a3)), x4], [], h, c, n)) {p1 : Option PtrT} {a2 : Int32} {a3 : Int32} {p4 : Option PtrT} {s0 : Int32} {h : Hp} {c n : Nat} (hc : c + 0 ≤ 0) (hn : n + 0 ≤ 0) (w : w_X11_loadAtShip_58 K12 Q p1 a2 a3 p4 s0 h) : SW E 58 ([some (vP (some (11, 0))), some (vP (p1)), some (vI (a2)), some (vI (a3)), some (vP (p4))], [vI (s0)], h, c, n) := by
  refine k_X11_loadAtShip_58 cx hY (fun q => ?_) (fun q => ?_)
  · have w := w.1 q
    exact s_X11_loadAtShip_84 cx hY eq hK12 (by omega) (by omega) w
  · have w := w.2 q
    obtain ⟨zl4, ezl4, w⟩ := w
    rw [ezl4]
    exact s_X11_loadAtShip_61 cx hY eq hK12 (by omega) (by omega) w
theorem s_X11_loadAtShip_52 {E : EnvT} {d : Nat} (cx : CX E "ShoreDay" cX11_loadAtShip 5 none "loadAtShip" (d + 5) 0 0) (hY : eY E = lay1) {Q : Hp → Prop} (eq : EQ E 0 0 (fun r h2 => r = [] ∧ Q h2)) {K12 : Option PtrT → Int32 → Int32 → Hp → Prop} (hK12 : ∀ (p1 : Option PtrT) (a2 : Int32) (a3 : Int32) (x4 : Option AVal) (h : Hp) (c n : Nat), c + 0 ≤ 0 → n + 0 ≤ 0 → K12 p1 a2 a3 h → SW E 12 ([some (vP (some (11, 0))), some (vP (p1)), some (vI (a2)), some (vI (a3)), x4], [], h, c, n)) {i1 : Nat} {a2 : Int32} {a3 : Int32} {p4 : Option PtrT} {h : Hp} {c n : Nat} (hc : c + 0 ≤ 0) (hn : n + 0 ≤ 0) (w : w_X11_loadAtShip_52 K12 Q i1 a2 a3 p4 h) : SW E 52 ([some (vP (some (11, 0))), some (vP (some (8, i1))), some (vI (a2)), some (vI (a3)), some (vP (p4))], [], h, c, n) := by
  refine k_X11_loadAtShip_52 cx hY (ctY hY (vc_X8_hasRoomFor (d := d + 3) w)) (by omega) (by omega) (by omega) (fun r h2 hp => ?_)
  obtain ⟨r2, rfl, w⟩ := hp
  exact s_X11_loadAtShip_58 cx hY eq hK12 (by omega) (by omega) w
theorem s_X11_loadAtShip_49 {E : EnvT} {d : Nat} (cx : CX E "ShoreDay" cX11_loadAtShip 5 none "loadAtShip" (d + 5) 0 0) (hY : eY E = lay1) {Q : Hp → Prop} (eq : EQ E 0 0 (fun r h2 => r = [] ∧ Q h2)) {K12 : Option PtrT → Int32 → Int32 → Hp → Prop} (hK12 : ∀ (p1 : Option PtrT) (a2 : Int32) (a3 : Int32) (x4 : Option AVal) (h : Hp) (c n : Nat), c + 0 ≤ 0 → n + 0 ≤ 0 → K12 p1 a2 a3 h → SW E 12 ([some (vP (some (11, 0))), some (vP (p1)), some (vI (a2)), some (vI (a3)), x4], [], h, c, n)) {p1 : Option PtrT} {a2 : Int32} {a3 : Int32} {p4 : Option PtrT} {s0 : Int32} {h : Hp} {c n : Nat} (hc : c + 0 ≤ 0) (hn : n + 0 ≤ 0) (w : w_X11_loadAtShip_49 K12 Q p1 a2 a3 p4 s0 h) : SW E 49 ([some (vP (some (11, 0))), some (vP (p1)), some (vI (a2)), some (vI (a3)), some (vP (p4))], [vI (s0)], h, c, n) := by
  refine k_X11_loadAtShip_49 cx hY (fun q => ?_) (fun q => ?_)
  · have w := w.1 q
    exact s_X11_loadAtShip_84 cx hY eq hK12 (by omega) (by omega) w
  · have w := w.2 q
    obtain ⟨zl1, ezl1, w⟩ := w
    rw [ezl1]
    exact s_X11_loadAtShip_52 cx hY eq hK12 (by omega) (by omega) w
theorem s_X11_loadAtShip_40 {E : EnvT} {d : Nat} (cx : CX E "ShoreDay" cX11_loadAtShip 5 none "loadAtShip" (d + 5) 0 0) (hY : eY E = lay1) {Q : Hp → Prop} (eq : EQ E 0 0 (fun r h2 => r = [] ∧ Q h2)) {K12 : Option PtrT → Int32 → Int32 → Hp → Prop} (hK12 : ∀ (p1 : Option PtrT) (a2 : Int32) (a3 : Int32) (x4 : Option AVal) (h : Hp) (c n : Nat), c + 0 ≤ 0 → n + 0 ≤ 0 → K12 p1 a2 a3 h → SW E 12 ([some (vP (some (11, 0))), some (vP (p1)), some (vI (a2)), some (vI (a3)), x4], [], h, c, n)) {p1 : Option PtrT} {a2 : Int32} {a3 : Int32} {i4 : Nat} {h : Hp} {c n : Nat} (hc : c + 0 ≤ 0) (hn : n + 0 ≤ 0) (w : w_X11_loadAtShip_40 K12 Q p1 a2 a3 i4 h) : SW E 40 ([some (vP (some (11, 0))), some (vP (p1)), some (vI (a2)), some (vI (a3)), some (vP (some (2, i4)))], [], h, c, n) := by
  refine k_X11_loadAtShip_40 cx hY (ctY hY (vc_X2_waitsAboard (d := d + 3) w)) (by omega) (by omega) (by omega) (fun r h2 hp => ?_)
  obtain ⟨r2, rfl, w⟩ := hp
  exact s_X11_loadAtShip_49 cx hY eq hK12 (by omega) (by omega) w
theorem s_X11_loadAtShip_20 {E : EnvT} {d : Nat} (cx : CX E "ShoreDay" cX11_loadAtShip 5 none "loadAtShip" (d + 5) 0 0) (hY : eY E = lay1) {Q : Hp → Prop} (eq : EQ E 0 0 (fun r h2 => r = [] ∧ Q h2)) {K12 : Option PtrT → Int32 → Int32 → Hp → Prop} (hK12 : ∀ (p1 : Option PtrT) (a2 : Int32) (a3 : Int32) (x4 : Option AVal) (h : Hp) (c n : Nat), c + 0 ≤ 0 → n + 0 ≤ 0 → K12 p1 a2 a3 h → SW E 12 ([some (vP (some (11, 0))), some (vP (p1)), some (vI (a2)), some (vI (a3)), x4], [], h, c, n)) {i1 : Nat} {a2 : Int32} {a3 : Int32} {x4 : Option AVal} {h : Hp} {c n : Nat} (hc : c + 0 ≤ 0) (hn : n + 0 ≤ 0) (w : w_X11_loadAtShip_20 K12 Q i1 a2 a3 h) : SW E 20 ([some (vP (some (11, 0))), some (vP (some (8, i1))), some (vI (a2)), some (vI (a3)), x4], [], h, c, n) := by
  obtain ⟨g1, e1, G1, w⟩ := w
  refine k_X11_loadAtShip_20 cx hY e1 G1 (fun q => ?_) (fun q => ?_)
  · have w := w.1 q
    exact s_X11_loadAtShip_84 cx hY eq hK12 (by omega) (by omega) w
  · have w := w.2 q
    exact s_X11_loadAtShip_40 cx hY eq hK12 (by omega) (by omega) w
theorem s_X11_loadAtShip_12 {E : EnvT} {d : Nat} (cx : CX E "ShoreDay" cX11_loadAtShip 5 none "loadAtShip" (d + 5) 0 0) (hY : eY E = lay1) {Q : Hp → Prop} (eq : EQ E 0 0 (fun r h2 => r = [] ∧ Q h2)) : ∀ (N : Nat) (p1 : Option PtrT) (a2 : Int32) (a3 : Int32) (x4 : Option AVal) (h : Hp) (c n : Nat), c + 0 ≤ 0 → n + 0 ≤ 0 → w_X11_loadAtShip_12  Q N p1 a2 a3 h → SW E 12 ([some (vP (some (11, 0))), some (vP (p1)), some (vI (a2)), some (vI (a3)), x4], [], h, c, n) := by
  intro N
  induction N with
  | zero =>
    intro _ _ _ _ h c n _ _ w
    exact w.elim
  | succ N ih =>
    intro p1 a2 a3 x4 h c n hc hn w
    refine k_X11_loadAtShip_12 cx hY (fun q => ?_) (fun q => ?_)
    · have w := w.1 q
      exact s_X11_loadAtShip_90 cx hY eq  (by omega) (by omega) w
    · have w := w.2 q
      obtain ⟨zl1, ezl1, w⟩ := w
      rw [ezl1]
      exact s_X11_loadAtShip_20 cx hY eq ih (by omega) (by omega) w
theorem s_X11_loadAtShip_8 {E : EnvT} {d : Nat} (cx : CX E "ShoreDay" cX11_loadAtShip 5 none "loadAtShip" (d + 5) 0 0) (hY : eY E = lay1) {Q : Hp → Prop} (eq : EQ E 0 0 (fun r h2 => r = [] ∧ Q h2)) {p1 : Option PtrT} {x2 : Option AVal} {x3 : Option AVal} {x4 : Option AVal} {s0 : Int32} {s1 : Int32} {h : Hp} {c n : Nat} (hc : c + 0 ≤ 0) (hn : n + 0 ≤ 0) (w : w_X11_loadAtShip_8  Q p1 s0 s1 h) : SW E 8 ([some (vP (some (11, 0))), some (vP (p1)), x2, x3, x4], [vI (s1), vI (s0)], h, c, n) := by
  refine k_X11_loadAtShip_8 cx hY ?_
  obtain ⟨N1, w⟩ := w
  exact s_X11_loadAtShip_12 cx hY eq  _ _ _ _ _ _ _ _ (by omega) (by omega) w
theorem s_X11_loadAtShip_0 {E : EnvT} {d : Nat} (cx : CX E "ShoreDay" cX11_loadAtShip 5 none "loadAtShip" (d + 5) 0 0) (hY : eY E = lay1) {Q : Hp → Prop} (eq : EQ E 0 0 (fun r h2 => r = [] ∧ Q h2)) {p1 : Option PtrT} {x2 : Option AVal} {x3 : Option AVal} {x4 : Option AVal} {h : Hp} {c n : Nat} (hc : c + 0 ≤ 0) (hn : n + 0 ≤ 0) (w : w_X11_loadAtShip_0  Q p1 h) : SW E 0 ([some (vP (some (11, 0))), some (vP (p1)), x2, x3, x4], [], h, c, n) := by
  refine k_X11_loadAtShip_0 cx hY (ctY hY (vc_X11_guestsInTownOrComing (d := d + 0) w)) (by omega) (by omega) (by omega) (fun r h2 hp => ?_)
  obtain ⟨r2, rfl, w⟩ := hp
  exact s_X11_loadAtShip_8 cx hY eq  (by omega) (by omega) w
def wp_X11_loadAtShip (p1 : Option PtrT) (h : Hp) (Q : Hp → Prop) : Prop := w_X11_loadAtShip_0 Q p1 h
theorem vc_X11_loadAtShip {l : Launch} {d : Nat} {p1 : Option PtrT} {h : Hp} {Q : Hp → Prop} (w : wp_X11_loadAtShip p1 h Q) : Ct l lay1 yX11_loadAtShip cX11_loadAtShip 5 none (d + 5) 0 0 [vP (some (11, 0)), vP p1] h (fun r h2 => r = [] ∧ Q h2) := by
  exact Ct.of (by decide) (Nat.le_of_ble_eq_true rfl) fun E cx eq hl hY => s_X11_loadAtShip_0 cx hY eq (Nat.le_refl _) (Nat.le_refl _) w
def w_X11_arrive_91 (Q : Hp → Prop) (i1 : Nat) (a2 : Int32) (a3 : Int32) (j0 : Nat) (s1 : Int32) (h : Hp) : Prop := Q (wI (wI (h) 8 (j0) 3 (s1)) 8 (i1) 5 ((0 : Int32)))
def w_X11_arrive_90 (Q : Hp → Prop) (p1 : Option PtrT) (a2 : Int32) (a3 : Int32) (q0 : Option PtrT) (h : Hp) : Prop := ∃ zs0, q0 = some (8, zs0) ∧ (∃ zl1, p1 = some (8, zl1) ∧ (w_X11_arrive_91  Q zl1 (a2) (a3) zs0 ((0 : Int32)) (h)))
def w_X11_arrive_86 (Q : Hp → Prop) (p1 : Option PtrT) (a2 : Int32) (a3 : Int32) (q0 : Option PtrT) (h : Hp) : Prop := ∃ zs0, q0 = some (8, zs0) ∧ (∃ zl1, p1 = some (8, zl1) ∧ (w_X11_arrive_91  Q zl1 (a2) (a3) zs0 ((2 : Int32)) (h)))
def w_X11_arrive_81 (Q : Hp → Prop) (p1 : Option PtrT) (a2 : Int32) (a3 : Int32) (h : Hp) : Prop := ((a2) = 0 → w_X11_arrive_90  Q (p1) (a2) (a3) (p1) (h)) ∧ (¬ (a2) = 0 → w_X11_arrive_86  Q (p1) (a2) (a3) (p1) (h))
def w_X11_arrive_75 (K16 : Option PtrT → Int32 → Int32 → Hp → Prop) (Q : Hp → Prop) (p1 : Option PtrT) (a2 : Int32) (a3 : Int32) (p4 : Option PtrT) (h : Hp) : Prop := K16 (p1) (a2) (a3 + 1) (h)
def w_X11_arrive_60 (K16 : Option PtrT → Int32 → Int32 → Hp → Prop) (Q : Hp → Prop) (p1 : Option PtrT) (a2 : Int32) (a3 : Int32) (i4 : Nat) (h : Hp) : Prop := w_X11_arrive_75 K16 Q (p1) (a2) (a3) (some (2, i4)) (wI (wI (h) 2 (i4) 6 ((5 : Int32))) 2 (i4) 10 (gI (wI (h) 2 (i4) 6 ((5 : Int32))) 11 (0) (14)))
def w_X11_arrive_57 (K16 : Option PtrT → Int32 → Int32 → Hp → Prop) (Q : Hp → Prop) (p1 : Option PtrT) (a2 : Int32) (a3 : Int32) (p4 : Option PtrT) (h : Hp) : Prop := w_X11_arrive_75 K16 Q (p1) (a2) (a3) (p4) (h)
def w_X11_arrive_51 (K16 : Option PtrT → Int32 → Int32 → Hp → Prop) (Q : Hp → Prop) (p1 : Option PtrT) (a2 : Int32) (a3 : Int32) (p4 : Option PtrT) (h : Hp) : Prop := wp_X11_land (p4) (h) (fun h2 => w_X11_arrive_57 K16 Q (p1) (a2) (a3) (p4) (h2))
def w_X11_arrive_41 (K16 : Option PtrT → Int32 → Int32 → Hp → Prop) (Q : Hp → Prop) (p1 : Option PtrT) (a2 : Int32) (a3 : Int32) (i4 : Nat) (h : Hp) : Prop := ((a2) = 0 → w_X11_arrive_60 K16 Q (p1) (a2) (a3) (i4) (wP (h) 2 (i4) 7 (none))) ∧ (¬ (a2) = 0 → w_X11_arrive_51 K16 Q (p1) (a2) (a3) (some (2, i4)) (wP (h) 2 (i4) 7 (none)))
def w_X11_arrive_24 (K16 : Option PtrT → Int32 → Int32 → Hp → Prop) (Q : Hp → Prop) (p1 : Option PtrT) (a2 : Int32) (a3 : Int32) (h : Hp) : Prop := ∃ g1, gP (h) 23 (0) (tN (a3)) = some (2, g1) ∧ (vp_in (a3) 60 ∧ ((¬ (gP (h) 2 (g1) 7) = (p1) → w_X11_arrive_75 K16 Q (p1) (a2) (a3) (some (2, g1)) (h)) ∧ ((gP (h) 2 (g1) 7) = (p1) → w_X11_arrive_41 K16 Q (p1) (a2) (a3) (g1) (h))))
def w_X11_arrive_16 (Q : Hp → Prop) : Nat → Option PtrT → Int32 → Int32 → Hp → Prop
  | 0 => fun _ _ _ _ => False
  | N + 1 => fun p1 a2 a3 h => ((gI (h) 11 (0) (8)) ≤ (a3) → w_X11_arrive_81  Q (p1) (a2) (a3) (h)) ∧ (¬ (gI (h) 11 (0) (8)) ≤ (a3) → w_X11_arrive_24 (w_X11_arrive_16  Q N) Q (p1) (a2) (a3) (h))
def w_X11_arrive_13 (Q : Hp → Prop) (p1 : Option PtrT) (s0 : Int32) (h : Hp) : Prop := ∃ N, w_X11_arrive_16  Q N (p1) (s0) ((0 : Int32)) (h)
def w_X11_arrive_12 (Q : Hp → Prop) (p1 : Option PtrT) (h : Hp) : Prop := w_X11_arrive_13  Q (p1) ((0 : Int32)) (h)
def w_X11_arrive_8 (Q : Hp → Prop) (p1 : Option PtrT) (h : Hp) : Prop := w_X11_arrive_13  Q (p1) ((1 : Int32)) (h)
def w_X11_arrive_0 (Q : Hp → Prop) (i1 : Nat) (h : Hp) : Prop := (¬ (gI (h) 8 (i1) (3)) = ((1 : Int32)) → w_X11_arrive_12  Q (some (8, i1)) (h)) ∧ ((gI (h) 8 (i1) (3)) = ((1 : Int32)) → w_X11_arrive_8  Q (some (8, i1)) (h))
theorem s_X11_arrive_91 {E : EnvT} {d : Nat} (cx : CX E "ShoreDay" cX11_arrive 5 none "arrive" (d + 5) 0 0) (hY : eY E = lay1) {Q : Hp → Prop} (eq : EQ E 0 0 (fun r h2 => r = [] ∧ Q h2)) {i1 : Nat} {a2 : Int32} {a3 : Int32} {x4 : Option AVal} {j0 : Nat} {s1 : Int32} {h : Hp} {c n : Nat} (hc : c + 0 ≤ 0) (hn : n + 0 ≤ 0) (w : w_X11_arrive_91  Q i1 a2 a3 j0 s1 h) : SW E 91 ([some (vP (some (11, 0))), some (vP (some (8, i1))), some (vI (a2)), some (vI (a3)), x4], [vI (s1), vP (some (8, j0))], h, c, n) := by
  exact k_X11_arrive_91 cx hY eq (by omega) (by omega) ⟨rfl, w⟩
theorem s_X11_arrive_90 {E : EnvT} {d : Nat} (cx : CX E "ShoreDay" cX11_arrive 5 none "arrive" (d + 5) 0 0) (hY : eY E = lay1) {Q : Hp → Prop} (eq : EQ E 0 0 (fun r h2 => r = [] ∧ Q h2)) {p1 : Option PtrT} {a2 : Int32} {a3 : Int32} {x4 : Option AVal} {q0 : Option PtrT} {h : Hp} {c n : Nat} (hc : c + 0 ≤ 0) (hn : n + 0 ≤ 0) (w : w_X11_arrive_90  Q p1 a2 a3 q0 h) : SW E 90 ([some (vP (some (11, 0))), some (vP (p1)), some (vI (a2)), some (vI (a3)), x4], [vP (q0)], h, c, n) := by
  refine k_X11_arrive_90 cx hY ?_
  obtain ⟨zl1, ezl1, w⟩ := w
  rw [ezl1]
  obtain ⟨zs0, ezs0, w⟩ := w
  rw [ezs0]
  exact s_X11_arrive_91 cx hY eq  (by omega) (by omega) w
theorem s_X11_arrive_86 {E : EnvT} {d : Nat} (cx : CX E "ShoreDay" cX11_arrive 5 none "arrive" (d + 5) 0 0) (hY : eY E = lay1) {Q : Hp → Prop} (eq : EQ E 0 0 (fun r h2 => r = [] ∧ Q h2)) {p1 : Option PtrT} {a2 : Int32} {a3 : Int32} {x4 : Option AVal} {q0 : Option PtrT} {h : Hp} {c n : Nat} (hc : c + 0 ≤ 0) (hn : n + 0 ≤ 0) (w : w_X11_arrive_86  Q p1 a2 a3 q0 h) : SW E 86 ([some (vP (some (11, 0))), some (vP (p1)), some (vI (a2)), some (vI (a3)), x4], [vP (q0)], h, c, n) := by
  refine k_X11_arrive_86 cx hY ?_
  obtain ⟨zl1, ezl1, w⟩ := w
  rw [ezl1]
  obtain ⟨zs0, ezs0, w⟩ := w
  rw [ezs0]
  exact s_X11_arrive_91 cx hY eq  (by omega) (by omega) w
theorem s_X11_arrive_81 {E : EnvT} {d : Nat} (cx : CX E "ShoreDay" cX11_arrive 5 none "arrive" (d + 5) 0 0) (hY : eY E = lay1) {Q : Hp → Prop} (eq : EQ E 0 0 (fun r h2 => r = [] ∧ Q h2)) {p1 : Option PtrT} {a2 : Int32} {a3 : Int32} {x4 : Option AVal} {h : Hp} {c n : Nat} (hc : c + 0 ≤ 0) (hn : n + 0 ≤ 0) (w : w_X11_arrive_81  Q p1 a2 a3 h) : SW E 81 ([some (vP (some (11, 0))), some (vP (p1)), some (vI (a2)), some (vI (a3)), x4], [], h, c, n) := by
  refine k_X11_arrive_81 cx hY (fun q => ?_) (fun q => ?_)
  · have w := w.1 q
    exact s_X11_arrive_90 cx hY eq  (by omega) (by omega) w
  · have w := w.2 q
    exact s_X11_arrive_86 cx hY eq  (by omega) (by omega) w
theorem s_X11_arrive_75 {E : EnvT} {d : Nat} (cx : CX E "ShoreDay" cX11_arrive 5 none "arrive" (d + 5) 0 0) (hY : eY E = lay1) {Q : Hp → Prop} (eq : EQ E 0 0 (fun r h2 => r = [] ∧ Q h2)) {K16 : Option PtrT → Int32 → Int32 → Hp → Prop} (hK16 : ∀ (p1 : Option PtrT) (a2 : Int32) (a3 : Int32) (x4 : Option AVal) (h : Hp) (c n : Nat), c + 0 ≤ 0 → n + 0 ≤ 0 → K16 p1 a2 a3 h → SW E 16 ([some (vP (some (11, 0))), some (vP (p1)), some (vI (a2)), some (vI (a3)), x4], [], h, c, n)) {p1 : Option PtrT} {a2 : Int32} {a3 : Int32} {p4 : Option PtrT} {h : Hp} {c n : Nat} (hc : c + 0 ≤ 0) (hn : n + 0 ≤ 0) (w : w_X11_arrive_75 K16 Q p1 a2 a3 p4 h) : SW E 75 ([some (vP (some (11, 0))), some (vP (p1)), some (vI (a2)), some (vI (a3)), some (vP (p4))], [], h, c, n) := by
  refine k_X11_arrive_75 cx hY ?_
  exact hK16 _ _ _ _ _ _ _ (by omega) (by omega) w
theorem s_X11_arrive_60 {E : EnvT} {d : Nat} (cx : CX E "ShoreDay" cX11_arrive 5 none "arrive" (d + 5) 0 0) (hY : eY E = lay1) {Q : Hp → Prop} (eq : EQ E 0 0 (fun r h2 => r = [] ∧ Q h2)) {K16 : Option PtrT → Int32 → Int32 → Hp → Prop} (hK16 : ∀ (p1 : Option PtrT) (a2 : Int32) (a3 : Int32) (x4 : Option AVal) (h : Hp) (c n : Nat), c + 0 ≤ 0 → n + 0 ≤ 0 → K16 p1 a2 a3 h → SW E 16 ([some (vP (some (11, 0))), some (vP (p1)), some (vI (a2)), some (vI (a3)), x4], [], h, c, n)) {p1 : Option PtrT} {a2 : Int32} {a3 : Int32} {i4 : Nat} {h : Hp} {c n : Nat} (hc : c + 0 ≤ 0) (hn : n + 0 ≤ 0) (w : w_X11_arrive_60 K16 Q p1 a2 a3 i4 h) : SW E 60 ([some (vP (some (11, 0))), some (vP (p1)), some (vI (a2)), some (vI (a3)), some (vP (some (2, i4)))], [], h, c, n) := by
  refine k_X11_arrive_60 cx hY ?_
  exact s_X11_arrive_75 cx hY eq hK16 (by omega) (by omega) w
theorem s_X11_arrive_57 {E : EnvT} {d : Nat} (cx : CX E "ShoreDay" cX11_arrive 5 none "arrive" (d + 5) 0 0) (hY : eY E = lay1) {Q : Hp → Prop} (eq : EQ E 0 0 (fun r h2 => r = [] ∧ Q h2)) {K16 : Option PtrT → Int32 → Int32 → Hp → Prop} (hK16 : ∀ (p1 : Option PtrT) (a2 : Int32) (a3 : Int32) (x4 : Option AVal) (h : Hp) (c n : Nat), c + 0 ≤ 0 → n + 0 ≤ 0 → K16 p1 a2 a3 h → SW E 16 ([some (vP (some (11, 0))), some (vP (p1)), some (vI (a2)), some (vI (a3)), x4], [], h, c, n)) {p1 : Option PtrT} {a2 : Int32} {a3 : Int32} {p4 : Option PtrT} {h : Hp} {c n : Nat} (hc : c + 0 ≤ 0) (hn : n + 0 ≤ 0) (w : w_X11_arrive_57 K16 Q p1 a2 a3 p4 h) : SW E 57 ([some (vP (some (11, 0))), some (vP (p1)), some (vI (a2)), some (vI (a3)), some (vP (p4))], [], h, c, n) := by
  refine k_X11_arrive_57 cx hY ?_
  exact s_X11_arrive_75 cx hY eq hK16 (by omega) (by omega) w
theorem s_X11_arrive_51 {E : EnvT} {d : Nat} (cx : CX E "ShoreDay" cX11_arrive 5 none "arrive" (d + 5) 0 0) (hY : eY E = lay1) {Q : Hp → Prop} (eq : EQ E 0 0 (fun r h2 => r = [] ∧ Q h2)) {K16 : Option PtrT → Int32 → Int32 → Hp → Prop} (hK16 : ∀ (p1 : Option PtrT) (a2 : Int32) (a3 : Int32) (x4 : Option AVal) (h : Hp) (c n : Nat), c + 0 ≤ 0 → n + 0 ≤ 0 → K16 p1 a2 a3 h → SW E 16 ([some (vP (some (11, 0))), some (vP (p1)), some (vI (a2)), some (vI (a3)), x4], [], h, c, n)) {p1 : Option PtrT} {a2 : Int32} {a3 : Int32} {p4 : Option PtrT} {h : Hp} {c n : Nat} (hc : c + 0 ≤ 0) (hn : n + 0 ≤ 0) (w : w_X11_arrive_51 K16 Q p1 a2 a3 p4 h) : SW E 51 ([some (vP (some (11, 0))), some (vP (p1)), some (vI (a2)), some (vI (a3)), some (vP (p4))], [], h, c, n) := by
  refine k_X11_arrive_51 cx hY (ctY hY (vc_X11_land (d := d + 0) w)) (by omega) (by omega) (by omega) (fun r h2 hp => ?_)
  obtain ⟨rfl, w⟩ := hp
  exact s_X11_arrive_57 cx hY eq hK16 (by omega) (by omega) w
theorem s_X11_arrive_41 {E : EnvT} {d : Nat} (cx : CX E "ShoreDay" cX11_arrive 5 none "arrive" (d + 5) 0 0) (hY : eY E = lay1) {Q : Hp → Prop} (eq : EQ E 0 0 (fun r h2 => r = [] ∧ Q h2)) {K16 : Option PtrT → Int32 → Int32 → Hp → Prop} (hK16 : ∀ (p1 : Option PtrT) (a2 : Int32) (a3 : Int32) (x4 : Option AVal) (h : Hp) (c n : Nat), c + 0 ≤ 0 → n + 0 ≤ 0 → K16 p1 a2 a3 h → SW E 16 ([some (vP (some (11, 0))), some (vP (p1)), some (vI (a2)), some (vI (a3)), x4], [], h, c, n)) {p1 : Option PtrT} {a2 : Int32} {a3 : Int32} {i4 : Nat} {h : Hp} {c n : Nat} (hc : c + 0 ≤ 0) (hn : n + 0 ≤ 0) (w : w_X11_arrive_41 K16 Q p1 a2 a3 i4 h) : SW E 41 ([some (vP (some (11, 0))), some (vP (p1)), some (vI (a2)), some (vI (a3)), some (vP (some (2, i4)))], [], h, c, n) := by
  refine k_X11_arrive_41 cx hY (fun q => ?_) (fun q => ?_)
  · have w := w.1 q
    exact s_X11_arrive_60 cx hY eq hK16 (by omega) (by omega) w
  · have w := w.2 q
    exact s_X11_arrive_51 cx hY eq hK16 (by omega) (by omega) w
theorem s_X11_arrive_24 {E : EnvT} {d : Nat} (cx : CX E "ShoreDay" cX11_arrive 5 none "arrive" (d + 5) 0 0) (hY : eY E = lay1) {Q : Hp → Prop} (eq : EQ E 0 0 (fun r h2 => r = [] ∧ Q h2)) {K16 : Option PtrT → Int32 → Int32 → Hp → Prop} (hK16 : ∀ (p1 : Option PtrT) (a2 : Int32) (a3 : Int32) (x4 : Option AVal) (h : Hp) (c n : Nat), c + 0 ≤ 0 → n + 0 ≤ 0 → K16 p1 a2 a3 h → SW E 16 ([some (vP (some (11, 0))), some (vP (p1)), some (vI (a2)), some (vI (a3)), x4], [], h, c, n)) {p1 : Option PtrT} {a2 : Int32} {a3 : Int32} {x4 : Option AVal} {h : Hp} {c n : Nat} (hc : c + 0 ≤ 0) (hn : n + 0 ≤ 0) (w : w_X11_arrive_24 K16 Q p1 a2 a3 h) : SW E 24 ([some (vP (some (11, 0))), some (vP (p1)), some (vI (a2)), some (vI (a3)), x4], [], h, c, n) := by
  obtain ⟨g1, e1, G1, w⟩ := w
  refine k_X11_arrive_24 cx hY e1 G1 (fun q => ?_) (fun q => ?_)
  · have w := w.1 q
    exact s_X11_arrive_75 cx hY eq hK16 (by omega) (by omega) w
  · have w := w.2 q
    exact s_X11_arrive_41 cx hY eq hK16 (by omega) (by omega) w
theorem s_X11_arrive_16 {E : EnvT} {d : Nat} (cx : CX E "ShoreDay" cX11_arrive 5 none "arrive" (d + 5) 0 0) (hY : eY E = lay1) {Q : Hp → Prop} (eq : EQ E 0 0 (fun r h2 => r = [] ∧ Q h2)) : ∀ (N : Nat) (p1 : Option PtrT) (a2 : Int32) (a3 : Int32) (x4 : Option AVal) (h : Hp) (c n : Nat), c + 0 ≤ 0 → n + 0 ≤ 0 → w_X11_arrive_16  Q N p1 a2 a3 h → SW E 16 ([some (vP (some (11, 0))), some (vP (p1)), some (vI (a2)), some (vI (a3)), x4], [], h, c, n) := by
  intro N
  induction N with
  | zero =>
    intro _ _ _ _ h c n _ _ w
    exact w.elim
  | succ N ih =>
    intro p1 a2 a3 x4 h c n hc hn w
    refine k_X11_arrive_16 cx hY (fun q => ?_) (fun q => ?_)
    · have w := w.1 q
      exact s_X11_arrive_81 cx hY eq  (by omega) (by omega) w
    · have w := w.2 q
      exact s_X11_arrive_24 cx hY eq ih (by omega) (by omega) w
theorem s_X11_arrive_13 {E : EnvT} {d : Nat} (cx : CX E "ShoreDay" cX11_arrive 5 none "arrive" (d + 5) 0 0) (hY : eY E = lay1) {Q : Hp → Prop} (eq : EQ E 0 0 (fun r h2 => r = [] ∧ Q h2)) {p1 : Option PtrT} {x2 : Option AVal} {x3 : Option AVal} {x4 : Option AVal} {s0 : Int32} {h : Hp} {c n : Nat} (hc : c + 0 ≤ 0) (hn : n + 0 ≤ 0) (w : w_X11_arrive_13  Q p1 s0 h) : SW E 13 ([some (vP (some (11, 0))), some (vP (p1)), x2, x3, x4], [vI (s0)], h, c, n) := by
  refine k_X11_arrive_13 cx hY ?_
  obtain ⟨N1, w⟩ := w
  exact s_X11_arrive_16 cx hY eq  _ _ _ _ _ _ _ _ (by omega) (by omega) w
theorem s_X11_arrive_12 {E : EnvT} {d : Nat} (cx : CX E "ShoreDay" cX11_arrive 5 none "arrive" (d + 5) 0 0) (hY : eY E = lay1) {Q : Hp → Prop} (eq : EQ E 0 0 (fun r h2 => r = [] ∧ Q h2)) {p1 : Option PtrT} {x2 : Option AVal} {x3 : Option AVal} {x4 : Option AVal} {h : Hp} {c n : Nat} (hc : c + 0 ≤ 0) (hn : n + 0 ≤ 0) (w : w_X11_arrive_12  Q p1 h) : SW E 12 ([some (vP (some (11, 0))), some (vP (p1)), x2, x3, x4], [], h, c, n) := by
  refine k_X11_arrive_12 cx hY ?_
  exact s_X11_arrive_13 cx hY eq  (by omega) (by omega) w
theorem s_X11_arrive_8 {E : EnvT} {d : Nat} (cx : CX E "ShoreDay" cX11_arrive 5 none "arrive" (d + 5) 0 0) (hY : eY E = lay1) {Q : Hp → Prop} (eq : EQ E 0 0 (fun r h2 => r = [] ∧ Q h2)) {p1 : Option PtrT} {x2 : Option AVal} {x3 : Option AVal} {x4 : Option AVal} {h : Hp} {c n : Nat} (hc : c + 0 ≤ 0) (hn : n + 0 ≤ 0) (w : w_X11_arrive_8  Q p1 h) : SW E 8 ([some (vP (some (11, 0))), some (vP (p1)), x2, x3, x4], [], h, c, n) := by
  refine k_X11_arrive_8 cx hY ?_
  exact s_X11_arrive_13 cx hY eq  (by omega) (by omega) w
theorem s_X11_arrive_0 {E : EnvT} {d : Nat} (cx : CX E "ShoreDay" cX11_arrive 5 none "arrive" (d + 5) 0 0) (hY : eY E = lay1) {Q : Hp → Prop} (eq : EQ E 0 0 (fun r h2 => r = [] ∧ Q h2)) {i1 : Nat} {x2 : Option AVal} {x3 : Option AVal} {x4 : Option AVal} {h : Hp} {c n : Nat} (hc : c + 0 ≤ 0) (hn : n + 0 ≤ 0) (w : w_X11_arrive_0  Q i1 h) : SW E 0 ([some (vP (some (11, 0))), some (vP (some (8, i1))), x2, x3, x4], [], h, c, n) := by
  refine k_X11_arrive_0 cx hY (fun q => ?_) (fun q => ?_)
  · have w := w.1 q
    exact s_X11_arrive_12 cx hY eq  (by omega) (by omega) w
  · have w := w.2 q
    exact s_X11_arrive_8 cx hY eq  (by omega) (by omega) w
def wp_X11_arrive (p1 : Option PtrT) (h : Hp) (Q : Hp → Prop) : Prop := ∃ i1, p1 = some (8, i1) ∧ (w_X11_arrive_0 Q i1 h)
theorem vc_X11_arrive {l : Launch} {d : Nat} {p1 : Option PtrT} {h : Hp} {Q : Hp → Prop} (w : wp_X11_arrive p1 h Q) : Ct l lay1 yX11_arrive cX11_arrive 5 none (d + 5) 0 0 [vP (some (11, 0)), vP p1] h (fun r h2 => r = [] ∧ Q h2) := by
  obtain ⟨i1, rfl, w⟩ := w; exact Ct.of (by decide) (Nat.le_of_ble_eq_true rfl) fun E cx eq hl hY => s_X11_arrive_0 cx hY eq (Nat.le_refl _) (Nat.le_refl _) w
def w_X11_sendTenders_97 (Q : Hp → Prop) (a1 : Int32) (h : Hp) : Prop := Q (h)
def w_X11_sendTenders_91 (K2 : Int32 → Hp → Prop) (Q : Hp → Prop) (a1 : Int32) (p2 : Option PtrT) (h : Hp) : Prop := K2 (a1 + 1) (h)
def w_X11_sendTenders_86 (K2 : Int32 → Hp → Prop) (Q : Hp → Prop) (a1 : Int32) (i2 : Nat) (h : Hp) : Prop := wp_X8_leave (i2) ((3 : Int32)) (h) (fun h2 => w_X11_sendTenders_91 K2 Q (a1) (some (8, i2)) (h2))
def w_X11_sendTenders_83 (K2 : Int32 → Hp → Prop) (Q : Hp → Prop) (a1 : Int32) (p2 : Option PtrT) (s0 : Int32) (h : Hp) : Prop := ((s0) = 0 → w_X11_sendTenders_91 K2 Q (a1) (p2) (h)) ∧ (¬ (s0) = 0 → ∃ zl2, p2 = some (8, zl2) ∧ (w_X11_sendTenders_86 K2 Q (a1) zl2 (h)))
def w_X11_sendTenders_75 (K2 : Int32 → Hp → Prop) (Q : Hp → Prop) (a1 : Int32) (i2 : Nat) (h : Hp) : Prop := wp_X11_isSomeoneToFetch (gP (h) 8 (i2) 1) (h) (fun r2 h2 => w_X11_sendTenders_83 K2 Q (a1) (some (8, i2)) (r2) (h2))
def w_X11_sendTenders_68 (K2 : Int32 → Hp → Prop) (Q : Hp → Prop) (a1 : Int32) (i2 : Nat) (h : Hp) : Prop := (0 < (gI (h) 8 (i2) (5)) → w_X11_sendTenders_86 K2 Q (a1) (i2) (h)) ∧ (¬ 0 < (gI (h) 8 (i2) (5)) → w_X11_sendTenders_75 K2 Q (a1) (i2) (h))
def w_X11_sendTenders_63 (K2 : Int32 → Hp → Prop) (Q : Hp → Prop) (a1 : Int32) (p2 : Option PtrT) (h : Hp) : Prop := wp_X11_loadAtQuay (p2) (h) (fun h2 => ∃ zl2, p2 = some (8, zl2) ∧ (w_X11_sendTenders_68 K2 Q (a1) zl2 (h2)))
def w_X11_sendTenders_55 (K2 : Int32 → Hp → Prop) (Q : Hp → Prop) (a1 : Int32) (i2 : Nat) (h : Hp) : Prop := (¬ (gI (h) 8 (i2) (3)) = ((2 : Int32)) → w_X11_sendTenders_91 K2 Q (a1) (some (8, i2)) (h)) ∧ ((gI (h) 8 (i2) (3)) = ((2 : Int32)) → w_X11_sendTenders_63 K2 Q (a1) (some (8, i2)) (h))
def w_X11_sendTenders_52 (K2 : Int32 → Hp → Prop) (Q : Hp → Prop) (a1 : Int32) (p2 : Option PtrT) (h : Hp) : Prop := w_X11_sendTenders_91 K2 Q (a1) (p2) (h)
def w_X11_sendTenders_47 (K2 : Int32 → Hp → Prop) (Q : Hp → Prop) (a1 : Int32) (i2 : Nat) (h : Hp) : Prop := wp_X8_leave (i2) ((1 : Int32)) (h) (fun h2 => w_X11_sendTenders_52 K2 Q (a1) (some (8, i2)) (h2))
def w_X11_sendTenders_44 (K2 : Int32 → Hp → Prop) (Q : Hp → Prop) (a1 : Int32) (p2 : Option PtrT) (s0 : Int32) (h : Hp) : Prop := ((s0) = 0 → w_X11_sendTenders_91 K2 Q (a1) (p2) (h)) ∧ (¬ (s0) = 0 → ∃ zl2, p2 = some (8, zl2) ∧ (w_X11_sendTenders_47 K2 Q (a1) zl2 (h)))
def w_X11_sendTenders_36 (K2 : Int32 → Hp → Prop) (Q : Hp → Prop) (a1 : Int32) (i2 : Nat) (h : Hp) : Prop := wp_X11_isSomeoneAtQuay (gP (h) 8 (i2) 1) (h) (fun r2 h2 => w_X11_sendTenders_44 K2 Q (a1) (some (8, i2)) (r2) (h2))
def w_X11_sendTenders_29 (K2 : Int32 → Hp → Prop) (Q : Hp → Prop) (a1 : Int32) (i2 : Nat) (h : Hp) : Prop := (0 < (gI (h) 8 (i2) (5)) → w_X11_sendTenders_47 K2 Q (a1) (i2) (h)) ∧ (¬ 0 < (gI (h) 8 (i2) (5)) → w_X11_sendTenders_36 K2 Q (a1) (i2) (h))
def w_X11_sendTenders_24 (K2 : Int32 → Hp → Prop) (Q : Hp → Prop) (a1 : Int32) (p2 : Option PtrT) (h : Hp) : Prop := wp_X11_loadAtShip (p2) (h) (fun h2 => ∃ zl2, p2 = some (8, zl2) ∧ (w_X11_sendTenders_29 K2 Q (a1) zl2 (h2)))
def w_X11_sendTenders_10 (K2 : Int32 → Hp → Prop) (Q : Hp → Prop) (a1 : Int32) (h : Hp) : Prop := ∃ g1, gP (h) 21 (0) (tN (a1)) = some (8, g1) ∧ (vp_in (a1) 6 ∧ ((¬ (gI (h) 8 (g1) (3)) = 0 → w_X11_sendTenders_55 K2 Q (a1) (g1) (h)) ∧ ((gI (h) 8 (g1) (3)) = 0 → w_X11_sendTenders_24 K2 Q (a1) (some (8, g1)) (h))))
def w_X11_sendTenders_2 (Q : Hp → Prop) : Nat → Int32 → Hp → Prop
  | 0 => fun _ _ => False
  | N + 1 => fun a1 h => ((gI (h) 11 (0) (3)) ≤ (a1) → w_X11_sendTenders_97  Q (a1) (h)) ∧ (¬ (gI (h) 11 (0) (3)) ≤ (a1) → w_X11_sendTenders_10 (w_X11_sendTenders_2  Q N) Q (a1) (h))
def w_X11_sendTenders_0 (Q : Hp → Prop) (h : Hp) : Prop := ∃ N, w_X11_sendTenders_2  Q N ((0 : Int32)) (h)
theorem s_X11_sendTenders_97 {E : EnvT} {d : Nat} (cx : CX E "ShoreDay" cX11_sendTenders 3 none "sendTenders" (d + 6) 0 0) (hY : eY E = lay1) {Q : Hp → Prop} (eq : EQ E 0 0 (fun r h2 => r = [] ∧ Q h2)) {a1 : Int32} {x2 : Option AVal} {h : Hp} {c n : Nat} (hc : c + 0 ≤ 0) (hn : n + 0 ≤ 0) (w : w_X11_sendTenders_97  Q a1 h) : SW E 97 ([some (vP (some (11, 0))), some (vI (a1)), x2], [], h, c, n) := by
  exact k_X11_sendTenders_97 cx hY eq (by omega) (by omega) ⟨rfl, w⟩
theorem s_X11_sendTenders_91 {E : EnvT} {d : Nat} (cx : CX E "ShoreDay" cX11_sendTenders 3 none "sendTenders" (d + 6) 0 0) (hY : eY E = lay1) {Q : Hp → Prop} (eq : EQ E 0 0 (fun r h2 => r = [] ∧ Q h2)) {K2 : Int32 → Hp → Prop} (hK2 : ∀ (a1 : Int32) (x2 : Option AVal) (h : Hp) (c n : Nat), c + 0 ≤ 0 → n + 0 ≤ 0 → K2 a1 h → SW E 2 ([some (vP (some (11, 0))), some (vI (a1)), x2], [], h, c, n)) {a1 : Int32} {p2 : Option PtrT} {h : Hp} {c n : Nat} (hc : c + 0 ≤ 0) (hn : n + 0 ≤ 0) (w : w_X11_sendTenders_91 K2 Q a1 p2 h) : SW E 91 ([some (vP (some (11, 0))), some (vI (a1)), some (vP (p2))], [], h, c, n) := by
  refine k_X11_sendTenders_91 cx hY ?_
  exact hK2 _ _ _ _ _ (by omega) (by omega) w
theorem s_X11_sendTenders_86 {E : EnvT} {d : Nat} (cx : CX E "ShoreDay" cX11_sendTenders 3 none "sendTenders" (d + 6) 0 0) (hY : eY E = lay1) {Q : Hp → Prop} (eq : EQ E 0 0 (fun r h2 => r = [] ∧ Q h2)) {K2 : Int32 → Hp → Prop} (hK2 : ∀ (a1 : Int32) (x2 : Option AVal) (h : Hp) (c n : Nat), c + 0 ≤ 0 → n + 0 ≤ 0 → K2 a1 h → SW E 2 ([some (vP (some (11, 0))), some (vI (a1)), x2], [], h, c, n)) {a1 : Int32} {i2 : Nat} {h : Hp} {c n : Nat} (hc : c + 0 ≤ 0) (hn : n + 0 ≤ 0) (w : w_X11_sendTenders_86 K2 Q a1 i2 h) : SW E 86 ([some (vP (some (11, 0))), some (vI (a1)), some (vP (some (8, i2)))], [], h, c, n) := by
  refine k_X11_sendTenders_86 cx hY (ctY hY (vc_X8_leave (d := d + 4) w)) (by omega) (by omega) (by omega) (fun r h2 hp => ?_)
  obtain ⟨rfl, w⟩ := hp
  exact s_X11_sendTenders_91 cx hY eq hK2 (by omega) (by omega) w
theorem s_X11_sendTenders_83 {E : EnvT} {d : Nat} (cx : CX E "ShoreDay" cX11_sendTenders 3 none "sendTenders" (d + 6) 0 0) (hY : eY E = lay1) {Q : Hp → Prop} (eq : EQ E 0 0 (fun r h2 => r = [] ∧ Q h2)) {K2 : Int32 → Hp → Prop} (hK2 : ∀ (a1 : Int32) (x2 : Option AVal) (h : Hp) (c n : Nat), c + 0 ≤ 0 → n + 0 ≤ 0 → K2 a1 h → SW E 2 ([some (vP (some (11, 0))), some (vI (a1)), x2], [], h, c, n)) {a1 : Int32} {p2 : Option PtrT} {s0 : Int32} {h : Hp} {c n : Nat} (hc : c + 0 ≤ 0) (hn : n + 0 ≤ 0) (w : w_X11_sendTenders_83 K2 Q a1 p2 s0 h) : SW E 83 ([some (vP (some (11, 0))), some (vI (a1)), some (vP (p2))], [vI (s0)], h, c, n) := by
  refine k_X11_sendTenders_83 cx hY (fun q => ?_) (fun q => ?_)
  · have w := w.1 q
    exact s_X11_sendTenders_91 cx hY eq hK2 (by omega) (by omega) w
  · have w := w.2 q
    obtain ⟨zl2, ezl2, w⟩ := w
    rw [ezl2]
    exact s_X11_sendTenders_86 cx hY eq hK2 (by omega) (by omega) w
theorem s_X11_sendTenders_75 {E : EnvT} {d : Nat} (cx : CX E "ShoreDay" cX11_sendTenders 3 none "sendTenders" (d + 6) 0 0) (hY : eY E = lay1) {Q : Hp → Prop} (eq : EQ E 0 0 (fun r h2 => r = [] ∧ Q h2)) {K2 : Int32 → Hp → Prop} (hK2 : ∀ (a1 : Int32) (x2 : Option AVal) (h : Hp) (c n : Nat), c + 0 ≤ 0 → n + 0 ≤ 0 → K2 a1 h → SW E 2 ([some (vP (some (11, 0))), some (vI (a1)), x2], [], h, c, n)) {a1 : Int32} {i2 : Nat} {h : Hp} {c n : Nat} (hc : c + 0 ≤ 0) (hn : n + 0 ≤ 0) (w : w_X11_sendTenders_75 K2 Q a1 i2 h) : SW E 75 ([some (vP (some (11, 0))), some (vI (a1)), some (vP (some (8, i2)))], [], h, c, n) := by
  refine k_X11_sendTenders_75 cx hY (ctY hY (vc_X11_isSomeoneToFetch (d := d + 3) w)) (by omega) (by omega) (by omega) (fun r h2 hp => ?_)
  obtain ⟨r2, rfl, w⟩ := hp
  exact s_X11_sendTenders_83 cx hY eq hK2 (by omega) (by omega) w
theorem s_X11_sendTenders_68 {E : EnvT} {d : Nat} (cx : CX E "ShoreDay" cX11_sendTenders 3 none "sendTenders" (d + 6) 0 0) (hY : eY E = lay1) {Q : Hp → Prop} (eq : EQ E 0 0 (fun r h2 => r = [] ∧ Q h2)) {K2 : Int32 → Hp → Prop} (hK2 : ∀ (a1 : Int32) (x2 : Option AVal) (h : Hp) (c n : Nat), c + 0 ≤ 0 → n + 0 ≤ 0 → K2 a1 h → SW E 2 ([some (vP (some (11, 0))), some (vI (a1)), x2], [], h, c, n)) {a1 : Int32} {i2 : Nat} {h : Hp} {c n : Nat} (hc : c + 0 ≤ 0) (hn : n + 0 ≤ 0) (w : w_X11_sendTenders_68 K2 Q a1 i2 h) : SW E 68 ([some (vP (some (11, 0))), some (vI (a1)), some (vP (some (8, i2)))], [], h, c, n) := by
  refine k_X11_sendTenders_68 cx hY (fun q => ?_) (fun q => ?_)
  · have w := w.1 q
    exact s_X11_sendTenders_86 cx hY eq hK2 (by omega) (by omega) w
  · have w := w.2 q
    exact s_X11_sendTenders_75 cx hY eq hK2 (by omega) (by omega) w
theorem s_X11_sendTenders_63 {E : EnvT} {d : Nat} (cx : CX E "ShoreDay" cX11_sendTenders 3 none "sendTenders" (d + 6) 0 0) (hY : eY E = lay1) {Q : Hp → Prop} (eq : EQ E 0 0 (fun r h2 => r = [] ∧ Q h2)) {K2 : Int32 → Hp → Prop} (hK2 : ∀ (a1 : Int32) (x2 : Option AVal) (h : Hp) (c n : Nat), c + 0 ≤ 0 → n + 0 ≤ 0 → K2 a1 h → SW E 2 ([some (vP (some (11, 0))), some (vI (a1)), x2], [], h, c, n)) {a1 : Int32} {p2 : Option PtrT} {h : Hp} {c n : Nat} (hc : c + 0 ≤ 0) (hn : n + 0 ≤ 0) (w : w_X11_sendTenders_63 K2 Q a1 p2 h) : SW E 63 ([some (vP (some (11, 0))), some (vI (a1)), some (vP (p2))], [], h, c, n) := by
  refine k_X11_sendTenders_63 cx hY (ctY hY (vc_X11_loadAtQuay (d := d + 3) w)) (by omega) (by omega) (by omega) (fun r h2 hp => ?_)
  obtain ⟨rfl, w⟩ := hp
  obtain ⟨zl2, ezl2, w⟩ := w
  rw [ezl2]
  exact s_X11_sendTenders_68 cx hY eq hK2 (by omega) (by omega) w
theorem s_X11_sendTenders_55 {E : EnvT} {d : Nat} (cx : CX E "ShoreDay" cX11_sendTenders 3 none "sendTenders" (d + 6) 0 0) (hY : eY E = lay1) {Q : Hp → Prop} (eq : EQ E 0 0 (fun r h2 => r = [] ∧ Q h2)) {K2 : Int32 → Hp → Prop} (hK2 : ∀ (a1 : Int32) (x2 : Option AVal) (h : Hp) (c n : Nat), c + 0 ≤ 0 → n + 0 ≤ 0 → K2 a1 h → SW E 2 ([some (vP (some (11, 0))), some (vI (a1)), x2], [], h, c, n)) {a1 : Int32} {i2 : Nat} {h : Hp} {c n : Nat} (hc : c + 0 ≤ 0) (hn : n + 0 ≤ 0) (w : w_X11_sendTenders_55 K2 Q a1 i2 h) : SW E 55 ([some (vP (some (11, 0))), some (vI (a1)), some (vP (some (8, i2)))], [], h, c, n) := by
  refine k_X11_sendTenders_55 cx hY (fun q => ?_) (fun q => ?_)
  · have w := w.1 q
    exact s_X11_sendTenders_91 cx hY eq hK2 (by omega) (by omega) w
  · have w := w.2 q
    exact s_X11_sendTenders_63 cx hY eq hK2 (by omega) (by omega) w
theorem s_X11_sendTenders_52 {E : EnvT} {d : Nat} (cx : CX E "ShoreDay" cX11_sendTenders 3 none "sendTenders" (d + 6) 0 0) (hY : eY E = lay1) {Q : Hp → Prop} (eq : EQ E 0 0 (fun r h2 => r = [] ∧ Q h2)) {K2 : Int32 → Hp → Prop} (hK2 : ∀ (a1 : Int32) (x2 : Option AVal) (h : Hp) (c n : Nat), c + 0 ≤ 0 → n + 0 ≤ 0 → K2 a1 h → SW E 2 ([some (vP (some (11, 0))), some (vI (a1)), x2], [], h, c, n)) {a1 : Int32} {p2 : Option PtrT} {h : Hp} {c n : Nat} (hc : c + 0 ≤ 0) (hn : n + 0 ≤ 0) (w : w_X11_sendTenders_52 K2 Q a1 p2 h) : SW E 52 ([some (vP (some (11, 0))), some (vI (a1)), some (vP (p2))], [], h, c, n) := by
  refine k_X11_sendTenders_52 cx hY ?_
  exact s_X11_sendTenders_91 cx hY eq hK2 (by omega) (by omega) w
theorem s_X11_sendTenders_47 {E : EnvT} {d : Nat} (cx : CX E "ShoreDay" cX11_sendTenders 3 none "sendTenders" (d + 6) 0 0) (hY : eY E = lay1) {Q : Hp → Prop} (eq : EQ E 0 0 (fun r h2 => r = [] ∧ Q h2)) {K2 : Int32 → Hp → Prop} (hK2 : ∀ (a1 : Int32) (x2 : Option AVal) (h : Hp) (c n : Nat), c + 0 ≤ 0 → n + 0 ≤ 0 → K2 a1 h → SW E 2 ([some (vP (some (11, 0))), some (vI (a1)), x2], [], h, c, n)) {a1 : Int32} {i2 : Nat} {h : Hp} {c n : Nat} (hc : c + 0 ≤ 0) (hn : n + 0 ≤ 0) (w : w_X11_sendTenders_47 K2 Q a1 i2 h) : SW E 47 ([some (vP (some (11, 0))), some (vI (a1)), some (vP (some (8, i2)))], [], h, c, n) := by
  refine k_X11_sendTenders_47 cx hY (ctY hY (vc_X8_leave (d := d + 4) w)) (by omega) (by omega) (by omega) (fun r h2 hp => ?_)
  obtain ⟨rfl, w⟩ := hp
  exact s_X11_sendTenders_52 cx hY eq hK2 (by omega) (by omega) w
theorem s_X11_sendTenders_44 {E : EnvT} {d : Nat} (cx : CX E "ShoreDay" cX11_sendTenders 3 none "sendTenders" (d + 6) 0 0) (hY : eY E = lay1) {Q : Hp → Prop} (eq : EQ E 0 0 (fun r h2 => r = [] ∧ Q h2)) {K2 : Int32 → Hp → Prop} (hK2 : ∀ (a1 : Int32) (x2 : Option AVal) (h : Hp) (c n : Nat), c + 0 ≤ 0 → n + 0 ≤ 0 → K2 a1 h → SW E 2 ([some (vP (some (11, 0))), some (vI (a1)), x2], [], h, c, n)) {a1 : Int32} {p2 : Option PtrT} {s0 : Int32} {h : Hp} {c n : Nat} (hc : c + 0 ≤ 0) (hn : n + 0 ≤ 0) (w : w_X11_sendTenders_44 K2 Q a1 p2 s0 h) : SW E 44 ([some (vP (some (11, 0))), some (vI (a1)), some (vP (p2))], [vI (s0)], h, c, n) := by
  refine k_X11_sendTenders_44 cx hY (fun q => ?_) (fun q => ?_)
  · have w := w.1 q
    exact s_X11_sendTenders_91 cx hY eq hK2 (by omega) (by omega) w
  · have w := w.2 q
    obtain ⟨zl2, ezl2, w⟩ := w
    rw [ezl2]
    exact s_X11_sendTenders_47 cx hY eq hK2 (by omega) (by omega) w
theorem s_X11_sendTenders_36 {E : EnvT} {d : Nat} (cx : CX E "ShoreDay" cX11_sendTenders 3 none "sendTenders" (d + 6) 0 0) (hY : eY E = lay1) {Q : Hp → Prop} (eq : EQ E 0 0 (fun r h2 => r = [] ∧ Q h2)) {K2 : Int32 → Hp → Prop} (hK2 : ∀ (a1 : Int32) (x2 : Option AVal) (h : Hp) (c n : Nat), c + 0 ≤ 0 → n + 0 ≤ 0 → K2 a1 h → SW E 2 ([some (vP (some (11, 0))), some (vI (a1)), x2], [], h, c, n)) {a1 : Int32} {i2 : Nat} {h : Hp} {c n : Nat} (hc : c + 0 ≤ 0) (hn : n + 0 ≤ 0) (w : w_X11_sendTenders_36 K2 Q a1 i2 h) : SW E 36 ([some (vP (some (11, 0))), some (vI (a1)), some (vP (some (8, i2)))], [], h, c, n) := by
  refine k_X11_sendTenders_36 cx hY (ctY hY (vc_X11_isSomeoneAtQuay (d := d + 4) w)) (by omega) (by omega) (by omega) (fun r h2 hp => ?_)
  obtain ⟨r2, rfl, w⟩ := hp
  exact s_X11_sendTenders_44 cx hY eq hK2 (by omega) (by omega) w
theorem s_X11_sendTenders_29 {E : EnvT} {d : Nat} (cx : CX E "ShoreDay" cX11_sendTenders 3 none "sendTenders" (d + 6) 0 0) (hY : eY E = lay1) {Q : Hp → Prop} (eq : EQ E 0 0 (fun r h2 => r = [] ∧ Q h2)) {K2 : Int32 → Hp → Prop} (hK2 : ∀ (a1 : Int32) (x2 : Option AVal) (h : Hp) (c n : Nat), c + 0 ≤ 0 → n + 0 ≤ 0 → K2 a1 h → SW E 2 ([some (vP (some (11, 0))), some (vI (a1)), x2], [], h, c, n)) {a1 : Int32} {i2 : Nat} {h : Hp} {c n : Nat} (hc : c + 0 ≤ 0) (hn : n + 0 ≤ 0) (w : w_X11_sendTenders_29 K2 Q a1 i2 h) : SW E 29 ([some (vP (some (11, 0))), some (vI (a1)), some (vP (some (8, i2)))], [], h, c, n) := by
  refine k_X11_sendTenders_29 cx hY (fun q => ?_) (fun q => ?_)
  · have w := w.1 q
    exact s_X11_sendTenders_47 cx hY eq hK2 (by omega) (by omega) w
  · have w := w.2 q
    exact s_X11_sendTenders_36 cx hY eq hK2 (by omega) (by omega) w
theorem s_X11_sendTenders_24 {E : EnvT} {d : Nat} (cx : CX E "ShoreDay" cX11_sendTenders 3 none "sendTenders" (d + 6) 0 0) (hY : eY E = lay1) {Q : Hp → Prop} (eq : EQ E 0 0 (fun r h2 => r = [] ∧ Q h2)) {K2 : Int32 → Hp → Prop} (hK2 : ∀ (a1 : Int32) (x2 : Option AVal) (h : Hp) (c n : Nat), c + 0 ≤ 0 → n + 0 ≤ 0 → K2 a1 h → SW E 2 ([some (vP (some (11, 0))), some (vI (a1)), x2], [], h, c, n)) {a1 : Int32} {p2 : Option PtrT} {h : Hp} {c n : Nat} (hc : c + 0 ≤ 0) (hn : n + 0 ≤ 0) (w : w_X11_sendTenders_24 K2 Q a1 p2 h) : SW E 24 ([some (vP (some (11, 0))), some (vI (a1)), some (vP (p2))], [], h, c, n) := by
  refine k_X11_sendTenders_24 cx hY (ctY hY (vc_X11_loadAtShip (d := d + 0) w)) (by omega) (by omega) (by omega) (fun r h2 hp => ?_)
  obtain ⟨rfl, w⟩ := hp
  obtain ⟨zl2, ezl2, w⟩ := w
  rw [ezl2]
  exact s_X11_sendTenders_29 cx hY eq hK2 (by omega) (by omega) w
theorem s_X11_sendTenders_10 {E : EnvT} {d : Nat} (cx : CX E "ShoreDay" cX11_sendTenders 3 none "sendTenders" (d + 6) 0 0) (hY : eY E = lay1) {Q : Hp → Prop} (eq : EQ E 0 0 (fun r h2 => r = [] ∧ Q h2)) {K2 : Int32 → Hp → Prop} (hK2 : ∀ (a1 : Int32) (x2 : Option AVal) (h : Hp) (c n : Nat), c + 0 ≤ 0 → n + 0 ≤ 0 → K2 a1 h → SW E 2 ([some (vP (some (11, 0))), some (vI (a1)), x2], [], h, c, n)) {a1 : Int32} {x2 : Option AVal} {h : Hp} {c n : Nat} (hc : c + 0 ≤ 0) (hn : n + 0 ≤ 0) (w : w_X11_sendTenders_10 K2 Q a1 h) : SW E 10 ([some (vP (some (11, 0))), some (vI (a1)), x2], [], h, c, n) := by
  obtain ⟨g1, e1, G1, w⟩ := w
  refine k_X11_sendTenders_10 cx hY e1 G1 (fun q => ?_) (fun q => ?_)
  · have w := w.1 q
    exact s_X11_sendTenders_55 cx hY eq hK2 (by omega) (by omega) w
  · have w := w.2 q
    exact s_X11_sendTenders_24 cx hY eq hK2 (by omega) (by omega) w
theorem s_X11_sendTenders_2 {E : EnvT} {d : Nat} (cx : CX E "ShoreDay" cX11_sendTenders 3 none "sendTenders" (d + 6) 0 0) (hY : eY E = lay1) {Q : Hp → Prop} (eq : EQ E 0 0 (fun r h2 => r = [] ∧ Q h2)) : ∀ (N : Nat) (a1 : Int32) (x2 : Option AVal) (h : Hp) (c n : Nat), c + 0 ≤ 0 → n + 0 ≤ 0 → w_X11_sendTenders_2  Q N a1 h → SW E 2 ([some (vP (some (11, 0))), some (vI (a1)), x2], [], h, c, n) := by
  intro N
  induction N with
  | zero =>
    intro _ _ h c n _ _ w
    exact w.elim
  | succ N ih =>
    intro a1 x2 h c n hc hn w
    refine k_X11_sendTenders_2 cx hY (fun q => ?_) (fun q => ?_)
    · have w := w.1 q
      exact s_X11_sendTenders_97 cx hY eq  (by omega) (by omega) w
    · have w := w.2 q
      exact s_X11_sendTenders_10 cx hY eq ih (by omega) (by omega) w
theorem s_X11_sendTenders_0 {E : EnvT} {d : Nat} (cx : CX E "ShoreDay" cX11_sendTenders 3 none "sendTenders" (d + 6) 0 0) (hY : eY E = lay1) {Q : Hp → Prop} (eq : EQ E 0 0 (fun r h2 => r = [] ∧ Q h2)) {x1 : Option AVal} {x2 : Option AVal} {h : Hp} {c n : Nat} (hc : c + 0 ≤ 0) (hn : n + 0 ≤ 0) (w : w_X11_sendTenders_0  Q  h) : SW E 0 ([some (vP (some (11, 0))), x1, x2], [], h, c, n) := by
  refine k_X11_sendTenders_0 cx hY ?_
  obtain ⟨N1, w⟩ := w
  exact s_X11_sendTenders_2 cx hY eq  _ _ _ _ _ _ (by omega) (by omega) w
def wp_X11_sendTenders (h : Hp) (Q : Hp → Prop) : Prop := w_X11_sendTenders_0 Q  h
theorem vc_X11_sendTenders {l : Launch} {d : Nat} {h : Hp} {Q : Hp → Prop} (w : wp_X11_sendTenders h Q) : Ct l lay1 yX11_sendTenders cX11_sendTenders 3 none (d + 6) 0 0 [vP (some (11, 0))] h (fun r h2 => r = [] ∧ Q h2) := by
  exact Ct.of (by decide) (Nat.le_of_ble_eq_true rfl) fun E cx eq hl hY => s_X11_sendTenders_0 cx hY eq (Nat.le_refl _) (Nat.le_refl _) w
def w_X11_moveTenders_61 (Q : Hp → Prop) (a1 : Int32) (h : Hp) : Prop := Q (h)
def w_X11_moveTenders_55 (K2 : Int32 → Hp → Prop) (Q : Hp → Prop) (a1 : Int32) (p2 : Option PtrT) (h : Hp) : Prop := K2 (a1 + 1) (h)
def w_X11_moveTenders_50 (K2 : Int32 → Hp → Prop) (Q : Hp → Prop) (a1 : Int32) (p2 : Option PtrT) (h : Hp) : Prop := wp_X11_arrive (p2) (h) (fun h2 => w_X11_moveTenders_55 K2 Q (a1) (p2) (h2))
def w_X11_moveTenders_33 (K2 : Int32 → Hp → Prop) (Q : Hp → Prop) (a1 : Int32) (i2 : Nat) (h : Hp) : Prop := (¬ (gI (wI (h) 8 (i2) 4 ((gI (h) 8 (i2) (4)) - ((1 : Int32)))) 8 (i2) (4)) = 0 → w_X11_moveTenders_55 K2 Q (a1) (some (8, i2)) (wI (h) 8 (i2) 4 ((gI (h) 8 (i2) (4)) - ((1 : Int32))))) ∧ ((gI (wI (h) 8 (i2) 4 ((gI (h) 8 (i2) (4)) - ((1 : Int32)))) 8 (i2) (4)) = 0 → w_X11_moveTenders_50 K2 Q (a1) (some (8, i2)) (wI (h) 8 (i2) 4 ((gI (h) 8 (i2) (4)) - ((1 : Int32)))))
def w_X11_moveTenders_25 (K2 : Int32 → Hp → Prop) (Q : Hp → Prop) (a1 : Int32) (i2 : Nat) (h : Hp) : Prop := (¬ (gI (h) 8 (i2) (3)) = ((3 : Int32)) → w_X11_moveTenders_55 K2 Q (a1) (some (8, i2)) (h)) ∧ ((gI (h) 8 (i2) (3)) = ((3 : Int32)) → w_X11_moveTenders_33 K2 Q (a1) (i2) (h))
def w_X11_moveTenders_10 (K2 : Int32 → Hp → Prop) (Q : Hp → Prop) (a1 : Int32) (h : Hp) : Prop := ∃ g1, gP (h) 21 (0) (tN (a1)) = some (8, g1) ∧ (vp_in (a1) 6 ∧ (((gI (h) 8 (g1) (3)) = ((1 : Int32)) → w_X11_moveTenders_33 K2 Q (a1) (g1) (h)) ∧ (¬ (gI (h) 8 (g1) (3)) = ((1 : Int32)) → w_X11_moveTenders_25 K2 Q (a1) (g1) (h))))
def w_X11_moveTenders_2 (Q : Hp → Prop) : Nat → Int32 → Hp → Prop
  | 0 => fun _ _ => False
  | N + 1 => fun a1 h => ((gI (h) 11 (0) (3)) ≤ (a1) → w_X11_moveTenders_61  Q (a1) (h)) ∧ (¬ (gI (h) 11 (0) (3)) ≤ (a1) → w_X11_moveTenders_10 (w_X11_moveTenders_2  Q N) Q (a1) (h))
def w_X11_moveTenders_0 (Q : Hp → Prop) (h : Hp) : Prop := ∃ N, w_X11_moveTenders_2  Q N ((0 : Int32)) (h)
theorem s_X11_moveTenders_61 {E : EnvT} {d : Nat} (cx : CX E "ShoreDay" cX11_moveTenders 3 none "moveTenders" (d + 6) 0 0) (hY : eY E = lay1) {Q : Hp → Prop} (eq : EQ E 0 0 (fun r h2 => r = [] ∧ Q h2)) {a1 : Int32} {x2 : Option AVal} {h : Hp} {c n : Nat} (hc : c + 0 ≤ 0) (hn : n + 0 ≤ 0) (w : w_X11_moveTenders_61  Q a1 h) : SW E 61 ([some (vP (some (11, 0))), some (vI (a1)), x2], [], h, c, n) := by
  exact k_X11_moveTenders_61 cx hY eq (by omega) (by omega) ⟨rfl, w⟩
theorem s_X11_moveTenders_55 {E : EnvT} {d : Nat} (cx : CX E "ShoreDay" cX11_moveTenders 3 none "moveTenders" (d + 6) 0 0) (hY : eY E = lay1) {Q : Hp → Prop} (eq : EQ E 0 0 (fun r h2 => r = [] ∧ Q h2)) {K2 : Int32 → Hp → Prop} (hK2 : ∀ (a1 : Int32) (x2 : Option AVal) (h : Hp) (c n : Nat), c + 0 ≤ 0 → n + 0 ≤ 0 → K2 a1 h → SW E 2 ([some (vP (some (11, 0))), some (vI (a1)), x2], [], h, c, n)) {a1 : Int32} {p2 : Option PtrT} {h : Hp} {c n : Nat} (hc : c + 0 ≤ 0) (hn : n + 0 ≤ 0) (w : w_X11_moveTenders_55 K2 Q a1 p2 h) : SW E 55 ([some (vP (some (11, 0))), some (vI (a1)), some (vP (p2))], [], h, c, n) := by
  refine k_X11_moveTenders_55 cx hY ?_
  exact hK2 _ _ _ _ _ (by omega) (by omega) w
theorem s_X11_moveTenders_50 {E : EnvT} {d : Nat} (cx : CX E "ShoreDay" cX11_moveTenders 3 none "moveTenders" (d + 6) 0 0) (hY : eY E = lay1) {Q : Hp → Prop} (eq : EQ E 0 0 (fun r h2 => r = [] ∧ Q h2)) {K2 : Int32 → Hp → Prop} (hK2 : ∀ (a1 : Int32) (x2 : Option AVal) (h : Hp) (c n : Nat), c + 0 ≤ 0 → n + 0 ≤ 0 → K2 a1 h → SW E 2 ([some (vP (some (11, 0))), some (vI (a1)), x2], [], h, c, n)) {a1 : Int32} {p2 : Option PtrT} {h : Hp} {c n : Nat} (hc : c + 0 ≤ 0) (hn : n + 0 ≤ 0) (w : w_X11_moveTenders_50 K2 Q a1 p2 h) : SW E 50 ([some (vP (some (11, 0))), some (vI (a1)), some (vP (p2))], [], h, c, n) := by
  refine k_X11_moveTenders_50 cx hY (ctY hY (vc_X11_arrive (d := d + 0) w)) (by omega) (by omega) (by omega) (fun r h2 hp => ?_)
  obtain ⟨rfl, w⟩ := hp
  exact s_X11_moveTenders_55 cx hY eq hK2 (by omega) (by omega) w
theorem s_X11_moveTenders_33 {E : EnvT} {d : Nat} (cx : CX E "ShoreDay" cX11_moveTenders 3 none "moveTenders" (d + 6) 0 0) (hY : eY E = lay1) {Q : Hp → Prop} (eq : EQ E 0 0 (fun r h2 => r = [] ∧ Q h2)) {K2 : Int32 → Hp → Prop} (hK2 : ∀ (a1 : Int32) (x2 : Option AVal) (h : Hp) (c n : Nat), c + 0 ≤ 0 → n + 0 ≤ 0 → K2 a1 h → SW E 2 ([some (vP (some (11, 0))), some (vI (a1)), x2], [], h, c, n)) {a1 : Int32} {i2 : Nat} {h : Hp} {c n : Nat} (hc : c + 0 ≤ 0) (hn : n + 0 ≤ 0) (w : w_X11_moveTenders_33 K2 Q a1 i2 h) : SW E 33 ([some (vP (some (11, 0))), some (vI (a1)), some (vP (some (8, i2)))], [], h, c, n) := by
  refine k_X11_moveTenders_33 cx hY (fun q => ?_) (fun q => ?_)
  · have w := w.1 q
    exact s_X11_moveTenders_55 cx hY eq hK2 (by omega) (by omega) w
  · have w := w.2 q
    exact s_X11_moveTenders_50 cx hY eq hK2 (by omega) (by omega) w
theorem s_X11_moveTenders_25 {E : EnvT} {d : Nat} (cx : CX E "ShoreDay" cX11_moveTenders 3 none "moveTenders" (d + 6) 0 0) (hY : eY E = lay1) {Q : Hp → Prop} (eq : EQ E 0 0 (fun r h2 => r = [] ∧ Q h2)) {K2 : Int32 → Hp → Prop} (hK2 : ∀ (a1 : Int32) (x2 : Option AVal) (h : Hp) (c n : Nat), c + 0 ≤ 0 → n + 0 ≤ 0 → K2 a1 h → SW E 2 ([some (vP (some (11, 0))), some (vI (a1)), x2], [], h, c, n)) {a1 : Int32} {i2 : Nat} {h : Hp} {c n : Nat} (hc : c + 0 ≤ 0) (hn : n + 0 ≤ 0) (w : w_X11_moveTenders_25 K2 Q a1 i2 h) : SW E 25 ([some (vP (some (11, 0))), some (vI (a1)), some (vP (some (8, i2)))], [], h, c, n) := by
  refine k_X11_moveTenders_25 cx hY (fun q => ?_) (fun q => ?_)
  · have w := w.1 q
    exact s_X11_moveTenders_55 cx hY eq hK2 (by omega) (by omega) w
  · have w := w.2 q
    exact s_X11_moveTenders_33 cx hY eq hK2 (by omega) (by omega) w
theorem s_X11_moveTenders_10 {E : EnvT} {d : Nat} (cx : CX E "ShoreDay" cX11_moveTenders 3 none "moveTenders" (d + 6) 0 0) (hY : eY E = lay1) {Q : Hp → Prop} (eq : EQ E 0 0 (fun r h2 => r = [] ∧ Q h2)) {K2 : Int32 → Hp → Prop} (hK2 : ∀ (a1 : Int32) (x2 : Option AVal) (h : Hp) (c n : Nat), c + 0 ≤ 0 → n + 0 ≤ 0 → K2 a1 h → SW E 2 ([some (vP (some (11, 0))), some (vI (a1)), x2], [], h, c, n)) {a1 : Int32} {x2 : Option AVal} {h : Hp} {c n : Nat} (hc : c + 0 ≤ 0) (hn : n + 0 ≤ 0) (w : w_X11_moveTenders_10 K2 Q a1 h) : SW E 10 ([some (vP (some (11, 0))), some (vI (a1)), x2], [], h, c, n) := by
  obtain ⟨g1, e1, G1, w⟩ := w
  refine k_X11_moveTenders_10 cx hY e1 G1 (fun q => ?_) (fun q => ?_)
  · have w := w.1 q
    exact s_X11_moveTenders_33 cx hY eq hK2 (by omega) (by omega) w
  · have w := w.2 q
    exact s_X11_moveTenders_25 cx hY eq hK2 (by omega) (by omega) w
theorem s_X11_moveTenders_2 {E : EnvT} {d : Nat} (cx : CX E "ShoreDay" cX11_moveTenders 3 none "moveTenders" (d + 6) 0 0) (hY : eY E = lay1) {Q : Hp → Prop} (eq : EQ E 0 0 (fun r h2 => r = [] ∧ Q h2)) : ∀ (N : Nat) (a1 : Int32) (x2 : Option AVal) (h : Hp) (c n : Nat), c + 0 ≤ 0 → n + 0 ≤ 0 → w_X11_moveTenders_2  Q N a1 h → SW E 2 ([some (vP (some (11, 0))), some (vI (a1)), x2], [], h, c, n) := by
  intro N
  induction N with
  | zero =>
    intro _ _ h c n _ _ w
    exact w.elim
  | succ N ih =>
    intro a1 x2 h c n hc hn w
    refine k_X11_moveTenders_2 cx hY (fun q => ?_) (fun q => ?_)
    · have w := w.1 q
      exact s_X11_moveTenders_61 cx hY eq  (by omega) (by omega) w
    · have w := w.2 q
      exact s_X11_moveTenders_10 cx hY eq ih (by omega) (by omega) w
theorem s_X11_moveTenders_0 {E : EnvT} {d : Nat} (cx : CX E "ShoreDay" cX11_moveTenders 3 none "moveTenders" (d + 6) 0 0) (hY : eY E = lay1) {Q : Hp → Prop} (eq : EQ E 0 0 (fun r h2 => r = [] ∧ Q h2)) {x1 : Option AVal} {x2 : Option AVal} {h : Hp} {c n : Nat} (hc : c + 0 ≤ 0) (hn : n + 0 ≤ 0) (w : w_X11_moveTenders_0  Q  h) : SW E 0 ([some (vP (some (11, 0))), x1, x2], [], h, c, n) := by
  refine k_X11_moveTenders_0 cx hY ?_
  obtain ⟨N1, w⟩ := w
  exact s_X11_moveTenders_2 cx hY eq  _ _ _ _ _ _ (by omega) (by omega) w
def wp_X11_moveTenders (h : Hp) (Q : Hp → Prop) : Prop := w_X11_moveTenders_0 Q  h
theorem vc_X11_moveTenders {l : Launch} {d : Nat} {h : Hp} {Q : Hp → Prop} (w : wp_X11_moveTenders h Q) : Ct l lay1 yX11_moveTenders cX11_moveTenders 3 none (d + 6) 0 0 [vP (some (11, 0))] h (fun r h2 => r = [] ∧ Q h2) := by
  exact Ct.of (by decide) (Nat.le_of_ble_eq_true rfl) fun E cx eq hl hY => s_X11_moveTenders_0 cx hY eq (Nat.le_refl _) (Nat.le_refl _) w
def w_X11_minutes_23 (Q : Int32 → Hp → Prop) (a1 : Int32) (h : Hp) : Prop := Q ((-1 : Int32)) (h)
def w_X11_minutes_82 (Q : Int32 → Hp → Prop) (a1 : Int32) (a2 : Int32) (h : Hp) : Prop := Q (gI (h) 11 (0) (14)) (h)
def w_X11_minutes_76 (K27 : Int32 → Int32 → Hp → Prop) (Q : Int32 → Hp → Prop) (a1 : Int32) (a2 : Int32) (h : Hp) : Prop := K27 (a1) (a2 + 1) (h)
def w_X11_minutes_72 (K27 : Int32 → Int32 → Hp → Prop) (Q : Int32 → Hp → Prop) (a1 : Int32) (a2 : Int32) (h : Hp) : Prop := wp_X11_sendTenders  (h) (fun h2 => w_X11_minutes_76 K27 Q (a1) (a2) (h2))
def w_X11_minutes_69 (K27 : Int32 → Int32 → Hp → Prop) (Q : Int32 → Hp → Prop) (a1 : Int32) (a2 : Int32) (s0 : Int32) (h : Hp) : Prop := (¬ (s0) = 0 → w_X11_minutes_76 K27 Q (a1) (a2) (h)) ∧ ((s0) = 0 → w_X11_minutes_72 K27 Q (a1) (a2) (h))
def w_X11_minutes_58 (K27 : Int32 → Int32 → Hp → Prop) (Q : Int32 → Hp → Prop) (a1 : Int32) (a2 : Int32) (h : Hp) : Prop := wp_X5_isShutIn (gI (h) 11 (0) (14)) (h) (fun r2 h2 => w_X11_minutes_69 K27 Q (a1) (a2) (r2) (h2))
def w_X11_minutes_54 (K27 : Int32 → Int32 → Hp → Prop) (Q : Int32 → Hp → Prop) (a1 : Int32) (a2 : Int32) (h : Hp) : Prop := wp_X11_sailShips  (h) (fun h2 => w_X11_minutes_58 K27 Q (a1) (a2) (h2))
def w_X11_minutes_50 (K27 : Int32 → Int32 → Hp → Prop) (Q : Int32 → Hp → Prop) (a1 : Int32) (a2 : Int32) (h : Hp) : Prop := wp_X11_bringToQuay  (h) (fun h2 => w_X11_minutes_54 K27 Q (a1) (a2) (h2))
def w_X11_minutes_46 (K27 : Int32 → Int32 → Hp → Prop) (Q : Int32 → Hp → Prop) (a1 : Int32) (a2 : Int32) (h : Hp) : Prop := wp_X11_beginTours  (h) (fun h2 => w_X11_minutes_50 K27 Q (a1) (a2) (h2))
def w_X11_minutes_32 (K27 : Int32 → Int32 → Hp → Prop) (Q : Int32 → Hp → Prop) (a1 : Int32) (a2 : Int32) (h : Hp) : Prop := wp_X11_moveTenders  (wI (h) 11 (0) 14 ((gI (h) 11 (0) (14)) + ((1 : Int32)))) (fun h2 => w_X11_minutes_46 K27 Q (a1) (a2) (h2))
def w_X11_minutes_27 (Q : Int32 → Hp → Prop) : Nat → Int32 → Int32 → Hp → Prop
  | 0 => fun _ _ _ => False
  | N + 1 => fun a1 a2 h => ((a1) ≤ (a2) → w_X11_minutes_82  Q (a1) (a2) (h)) ∧ (¬ (a1) ≤ (a2) → w_X11_minutes_32 (w_X11_minutes_27  Q N) Q (a1) (a2) (h))
def w_X11_minutes_25 (Q : Int32 → Hp → Prop) (a1 : Int32) (h : Hp) : Prop := ∃ N, w_X11_minutes_27  Q N (a1) ((0 : Int32)) (h)
def w_X11_minutes_11 (Q : Int32 → Hp → Prop) (a1 : Int32) (h : Hp) : Prop := (((gI (h) 11 (0) (14)) + (a1)) ≤ ((719 : Int32)) → w_X11_minutes_25  Q (a1) (h)) ∧ (¬ ((gI (h) 11 (0) (14)) + (a1)) ≤ ((719 : Int32)) → w_X11_minutes_23  Q (a1) (h))
def w_X11_minutes_8 (Q : Int32 → Hp → Prop) (a1 : Int32) (s0 : Int32) (h : Hp) : Prop := ((s0) = 0 → w_X11_minutes_23  Q (a1) (h)) ∧ (¬ (s0) = 0 → w_X11_minutes_11  Q (a1) (h))
def w_X11_minutes_0 (Q : Int32 → Hp → Prop) (a1 : Int32) (h : Hp) : Prop := wp_X11_within (a1) ((0 : Int32)) ((200 : Int32)) (h) (fun r2 h2 => w_X11_minutes_8  Q (a1) (r2) (h2))
theorem s_X11_minutes_23 {E : EnvT} {d : Nat} (cx : CX E "ShoreDay" cX11_minutes 3 (some .int) "minutes" (d + 7) 0 0) (hY : eY E = lay1) {Q : Int32 → Hp → Prop} (eq : EQ E 0 0 (fun r h2 => ∃ x, r = [vI x] ∧ Q x h2)) {a1 : Int32} {x2 : Option AVal} {h : Hp} {c n : Nat} (hc : c + 0 ≤ 0) (hn : n + 0 ≤ 0) (w : w_X11_minutes_23  Q a1 h) : SW E 23 ([some (vP (some (11, 0))), some (vI (a1)), x2], [], h, c, n) := by
  exact k_X11_minutes_23 cx hY eq (by omega) (by omega) ⟨_, rfl, w⟩
theorem s_X11_minutes_82 {E : EnvT} {d : Nat} (cx : CX E "ShoreDay" cX11_minutes 3 (some .int) "minutes" (d + 7) 0 0) (hY : eY E = lay1) {Q : Int32 → Hp → Prop} (eq : EQ E 0 0 (fun r h2 => ∃ x, r = [vI x] ∧ Q x h2)) {a1 : Int32} {a2 : Int32} {h : Hp} {c n : Nat} (hc : c + 0 ≤ 0) (hn : n + 0 ≤ 0) (w : w_X11_minutes_82  Q a1 a2 h) : SW E 82 ([some (vP (some (11, 0))), some (vI (a1)), some (vI (a2))], [], h, c, n) := by
  exact k_X11_minutes_82 cx hY eq (by omega) (by omega) ⟨_, rfl, w⟩
theorem s_X11_minutes_76 {E : EnvT} {d : Nat} (cx : CX E "ShoreDay" cX11_minutes 3 (some .int) "minutes" (d + 7) 0 0) (hY : eY E = lay1) {Q : Int32 → Hp → Prop} (eq : EQ E 0 0 (fun r h2 => ∃ x, r = [vI x] ∧ Q x h2)) {K27 : Int32 → Int32 → Hp → Prop} (hK27 : ∀ (a1 : Int32) (a2 : Int32) (h : Hp) (c n : Nat), c + 0 ≤ 0 → n + 0 ≤ 0 → K27 a1 a2 h → SW E 27 ([some (vP (some (11, 0))), some (vI (a1)), some (vI (a2))], [], h, c, n)) {a1 : Int32} {a2 : Int32} {h : Hp} {c n : Nat} (hc : c + 0 ≤ 0) (hn : n + 0 ≤ 0) (w : w_X11_minutes_76 K27 Q a1 a2 h) : SW E 76 ([some (vP (some (11, 0))), some (vI (a1)), some (vI (a2))], [], h, c, n) := by
  refine k_X11_minutes_76 cx hY ?_
  exact hK27 _ _ _ _ _ (by omega) (by omega) w
theorem s_X11_minutes_72 {E : EnvT} {d : Nat} (cx : CX E "ShoreDay" cX11_minutes 3 (some .int) "minutes" (d + 7) 0 0) (hY : eY E = lay1) {Q : Int32 → Hp → Prop} (eq : EQ E 0 0 (fun r h2 => ∃ x, r = [vI x] ∧ Q x h2)) {K27 : Int32 → Int32 → Hp → Prop} (hK27 : ∀ (a1 : Int32) (a2 : Int32) (h : Hp) (c n : Nat), c + 0 ≤ 0 → n + 0 ≤ 0 → K27 a1 a2 h → SW E 27 ([some (vP (some (11, 0))), some (vI (a1)), some (vI (a2))], [], h, c, n)) {a1 : Int32} {a2 : Int32} {h : Hp} {c n : Nat} (hc : c + 0 ≤ 0) (hn : n + 0 ≤ 0) (w : w_X11_minutes_72 K27 Q a1 a2 h) : SW E 72 ([some (vP (some (11, 0))), some (vI (a1)), some (vI (a2))], [], h, c, n) := by
  refine k_X11_minutes_72 cx hY (ctY hY (vc_X11_sendTenders (d := d + 0) w)) (by omega) (by omega) (by omega) (fun r h2 hp => ?_)
  obtain ⟨rfl, w⟩ := hp
  exact s_X11_minutes_76 cx hY eq hK27 (by omega) (by omega) w
theorem s_X11_minutes_69 {E : EnvT} {d : Nat} (cx : CX E "ShoreDay" cX11_minutes 3 (some .int) "minutes" (d + 7) 0 0) (hY : eY E = lay1) {Q : Int32 → Hp → Prop} (eq : EQ E 0 0 (fun r h2 => ∃ x, r = [vI x] ∧ Q x h2)) {K27 : Int32 → Int32 → Hp → Prop} (hK27 : ∀ (a1 : Int32) (a2 : Int32) (h : Hp) (c n : Nat), c + 0 ≤ 0 → n + 0 ≤ 0 → K27 a1 a2 h → SW E 27 ([some (vP (some (11, 0))), some (vI (a1)), some (vI (a2))], [], h, c, n)) {a1 : Int32} {a2 : Int32} {s0 : Int32} {h : Hp} {c n : Nat} (hc : c + 0 ≤ 0) (hn : n + 0 ≤ 0) (w : w_X11_minutes_69 K27 Q a1 a2 s0 h) : SW E 69 ([some (vP (some (11, 0))), some (vI (a1)), some (vI (a2))], [vI (s0)], h, c, n) := by
  refine k_X11_minutes_69 cx hY (fun q => ?_) (fun q => ?_)
  · have w := w.1 q
    exact s_X11_minutes_76 cx hY eq hK27 (by omega) (by omega) w
  · have w := w.2 q
    exact s_X11_minutes_72 cx hY eq hK27 (by omega) (by omega) w
theorem s_X11_minutes_58 {E : EnvT} {d : Nat} (cx : CX E "ShoreDay" cX11_minutes 3 (some .int) "minutes" (d + 7) 0 0) (hY : eY E = lay1) {Q : Int32 → Hp → Prop} (eq : EQ E 0 0 (fun r h2 => ∃ x, r = [vI x] ∧ Q x h2)) {K27 : Int32 → Int32 → Hp → Prop} (hK27 : ∀ (a1 : Int32) (a2 : Int32) (h : Hp) (c n : Nat), c + 0 ≤ 0 → n + 0 ≤ 0 → K27 a1 a2 h → SW E 27 ([some (vP (some (11, 0))), some (vI (a1)), some (vI (a2))], [], h, c, n)) {a1 : Int32} {a2 : Int32} {h : Hp} {c n : Nat} (hc : c + 0 ≤ 0) (hn : n + 0 ≤ 0) (w : w_X11_minutes_58 K27 Q a1 a2 h) : SW E 58 ([some (vP (some (11, 0))), some (vI (a1)), some (vI (a2))], [], h, c, n) := by
  refine k_X11_minutes_58 cx hY (ctY hY (vc_X5_isShutIn (d := d + 4) w)) (by omega) (by omega) (by omega) (fun r h2 hp => ?_)
  obtain ⟨r2, rfl, w⟩ := hp
  exact s_X11_minutes_69 cx hY eq hK27 (by omega) (by omega) w
theorem s_X11_minutes_54 {E : EnvT} {d : Nat} (cx : CX E "ShoreDay" cX11_minutes 3 (some .int) "minutes" (d + 7) 0 0) (hY : eY E = lay1) {Q : Int32 → Hp → Prop} (eq : EQ E 0 0 (fun r h2 => ∃ x, r = [vI x] ∧ Q x h2)) {K27 : Int32 → Int32 → Hp → Prop} (hK27 : ∀ (a1 : Int32) (a2 : Int32) (h : Hp) (c n : Nat), c + 0 ≤ 0 → n + 0 ≤ 0 → K27 a1 a2 h → SW E 27 ([some (vP (some (11, 0))), some (vI (a1)), some (vI (a2))], [], h, c, n)) {a1 : Int32} {a2 : Int32} {h : Hp} {c n : Nat} (hc : c + 0 ≤ 0) (hn : n + 0 ≤ 0) (w : w_X11_minutes_54 K27 Q a1 a2 h) : SW E 54 ([some (vP (some (11, 0))), some (vI (a1)), some (vI (a2))], [], h, c, n) := by
  refine k_X11_minutes_54 cx hY (ctY hY (vc_X11_sailShips (d := d + 3) w)) (by omega) (by omega) (by omega) (fun r h2 hp => ?_)
  obtain ⟨rfl, w⟩ := hp
  exact s_X11_minutes_58 cx hY eq hK27 (by omega) (by omega) w
theorem s_X11_minutes_50 {E : EnvT} {d : Nat} (cx : CX E "ShoreDay" cX11_minutes 3 (some .int) "minutes" (d + 7) 0 0) (hY : eY E = lay1) {Q : Int32 → Hp → Prop} (eq : EQ E 0 0 (fun r h2 => ∃ x, r = [vI x] ∧ Q x h2)) {K27 : Int32 → Int32 → Hp → Prop} (hK27 : ∀ (a1 : Int32) (a2 : Int32) (h : Hp) (c n : Nat), c + 0 ≤ 0 → n + 0 ≤ 0 → K27 a1 a2 h → SW E 27 ([some (vP (some (11, 0))), some (vI (a1)), some (vI (a2))], [], h, c, n)) {a1 : Int32} {a2 : Int32} {h : Hp} {c n : Nat} (hc : c + 0 ≤ 0) (hn : n + 0 ≤ 0) (w : w_X11_minutes_50 K27 Q a1 a2 h) : SW E 50 ([some (vP (some (11, 0))), some (vI (a1)), some (vI (a2))], [], h, c, n) := by
  refine k_X11_minutes_50 cx hY (ctY hY (vc_X11_bringToQuay (d := d + 4) w)) (by omega) (by omega) (by omega) (fun r h2 hp => ?_)
  obtain ⟨rfl, w⟩ := hp
  exact s_X11_minutes_54 cx hY eq hK27 (by omega) (by omega) w
theorem s_X11_minutes_46 {E : EnvT} {d : Nat} (cx : CX E "ShoreDay" cX11_minutes 3 (some .int) "minutes" (d + 7) 0 0) (hY : eY E = lay1) {Q : Int32 → Hp → Prop} (eq : EQ E 0 0 (fun r h2 => ∃ x, r = [vI x] ∧ Q x h2)) {K27 : Int32 → Int32 → Hp → Prop} (hK27 : ∀ (a1 : Int32) (a2 : Int32) (h : Hp) (c n : Nat), c + 0 ≤ 0 → n + 0 ≤ 0 → K27 a1 a2 h → SW E 27 ([some (vP (some (11, 0))), some (vI (a1)), some (vI (a2))], [], h, c, n)) {a1 : Int32} {a2 : Int32} {h : Hp} {c n : Nat} (hc : c + 0 ≤ 0) (hn : n + 0 ≤ 0) (w : w_X11_minutes_46 K27 Q a1 a2 h) : SW E 46 ([some (vP (some (11, 0))), some (vI (a1)), some (vI (a2))], [], h, c, n) := by
  refine k_X11_minutes_46 cx hY (ctY hY (vc_X11_beginTours (d := d + 4) w)) (by omega) (by omega) (by omega) (fun r h2 hp => ?_)
  obtain ⟨rfl, w⟩ := hp
  exact s_X11_minutes_50 cx hY eq hK27 (by omega) (by omega) w
theorem s_X11_minutes_32 {E : EnvT} {d : Nat} (cx : CX E "ShoreDay" cX11_minutes 3 (some .int) "minutes" (d + 7) 0 0) (hY : eY E = lay1) {Q : Int32 → Hp → Prop} (eq : EQ E 0 0 (fun r h2 => ∃ x, r = [vI x] ∧ Q x h2)) {K27 : Int32 → Int32 → Hp → Prop} (hK27 : ∀ (a1 : Int32) (a2 : Int32) (h : Hp) (c n : Nat), c + 0 ≤ 0 → n + 0 ≤ 0 → K27 a1 a2 h → SW E 27 ([some (vP (some (11, 0))), some (vI (a1)), some (vI (a2))], [], h, c, n)) {a1 : Int32} {a2 : Int32} {h : Hp} {c n : Nat} (hc : c + 0 ≤ 0) (hn : n + 0 ≤ 0) (w : w_X11_minutes_32 K27 Q a1 a2 h) : SW E 32 ([some (vP (some (11, 0))), some (vI (a1)), some (vI (a2))], [], h, c, n) := by
  refine k_X11_minutes_32 cx hY (ctY hY (vc_X11_moveTenders (d := d + 0) w)) (by omega) (by omega) (by omega) (fun r h2 hp => ?_)
  obtain ⟨rfl, w⟩ := hp
  exact s_X11_minutes_46 cx hY eq hK27 (by omega) (by omega) w
theorem s_X11_minutes_27 {E : EnvT} {d : Nat} (cx : CX E "ShoreDay" cX11_minutes 3 (some .int) "minutes" (d + 7) 0 0) (hY : eY E = lay1) {Q : Int32 → Hp → Prop} (eq : EQ E 0 0 (fun r h2 => ∃ x, r = [vI x] ∧ Q x h2)) : ∀ (N : Nat) (a1 : Int32) (a2 : Int32) (h : Hp) (c n : Nat), c + 0 ≤ 0 → n + 0 ≤ 0 → w_X11_minutes_27  Q N a1 a2 h → SW E 27 ([some (vP (some (11, 0))), some (vI (a1)), some (vI (a2))], [], h, c, n) := by
  intro N
  induction N with
  | zero =>
    intro _ _ h c n _ _ w
    exact w.elim
  | succ N ih =>
    intro a1 a2 h c n hc hn w
    refine k_X11_minutes_27 cx hY (fun q => ?_) (fun q => ?_)
    · have w := w.1 q
      exact s_X11_minutes_82 cx hY eq  (by omega) (by omega) w
    · have w := w.2 q
      exact s_X11_minutes_32 cx hY eq ih (by omega) (by omega) w
theorem s_X11_minutes_25 {E : EnvT} {d : Nat} (cx : CX E "ShoreDay" cX11_minutes 3 (some .int) "minutes" (d + 7) 0 0) (hY : eY E = lay1) {Q : Int32 → Hp → Prop} (eq : EQ E 0 0 (fun r h2 => ∃ x, r = [vI x] ∧ Q x h2)) {a1 : Int32} {x2 : Option AVal} {h : Hp} {c n : Nat} (hc : c + 0 ≤ 0) (hn : n + 0 ≤ 0) (w : w_X11_minutes_25  Q a1 h) : SW E 25 ([some (vP (some (11, 0))), some (vI (a1)), x2], [], h, c, n) := by
  refine k_X11_minutes_25 cx hY ?_
  obtain ⟨N1, w⟩ := w
  exact s_X11_minutes_27 cx hY eq  _ _ _ _ _ _ (by omega) (by omega) w
theorem s_X11_minutes_11 {E : EnvT} {d : Nat} (cx : CX E "ShoreDay" cX11_minutes 3 (some .int) "minutes" (d + 7) 0 0) (hY : eY E = lay1) {Q : Int32 → Hp → Prop} (eq : EQ E 0 0 (fun r h2 => ∃ x, r = [vI x] ∧ Q x h2)) {a1 : Int32} {x2 : Option AVal} {h : Hp} {c n : Nat} (hc : c + 0 ≤ 0) (hn : n + 0 ≤ 0) (w : w_X11_minutes_11  Q a1 h) : SW E 11 ([some (vP (some (11, 0))), some (vI (a1)), x2], [], h, c, n) := by
  refine k_X11_minutes_11 cx hY (fun q => ?_) (fun q => ?_)
  · have w := w.1 q
    exact s_X11_minutes_25 cx hY eq  (by omega) (by omega) w
  · have w := w.2 q
    exact s_X11_minutes_23 cx hY eq  (by omega) (by omega) w
theorem s_X11_minutes_8 {E : EnvT} {d : Nat} (cx : CX E "ShoreDay" cX11_minutes 3 (some .int) "minutes" (d + 7) 0 0) (hY : eY E = lay1) {Q : Int32 → Hp → Prop} (eq : EQ E 0 0 (fun r h2 => ∃ x, r = [vI x] ∧ Q x h2)) {a1 : Int32} {x2 : Option AVal} {s0 : Int32} {h : Hp} {c n : Nat} (hc : c + 0 ≤ 0) (hn : n + 0 ≤ 0) (w : w_X11_minutes_8  Q a1 s0 h) : SW E 8 ([some (vP (some (11, 0))), some (vI (a1)), x2], [vI (s0)], h, c, n) := by
  refine k_X11_minutes_8 cx hY (fun q => ?_) (fun q => ?_)
  · have w := w.1 q
    exact s_X11_minutes_23 cx hY eq  (by omega) (by omega) w
  · have w := w.2 q
    exact s_X11_minutes_11 cx hY eq  (by omega) (by omega) w
theorem s_X11_minutes_0 {E : EnvT} {d : Nat} (cx : CX E "ShoreDay" cX11_minutes 3 (some .int) "minutes" (d + 7) 0 0) (hY : eY E = lay1) {Q : Int32 → Hp → Prop} (eq : EQ E 0 0 (fun r h2 => ∃ x, r = [vI x] ∧ Q x h2)) {a1 : Int32} {x2 : Option AVal} {h : Hp} {c n : Nat} (hc : c + 0 ≤ 0) (hn : n + 0 ≤ 0) (w : w_X11_minutes_0  Q a1 h) : SW E 0 ([some (vP (some (11, 0))), some (vI (a1)), x2], [], h, c, n) := by
  refine k_X11_minutes_0 cx hY (ctY hY (vc_X11_within (d := d + 5) w)) (by omega) (by omega) (by omega) (fun r h2 hp => ?_)
  obtain ⟨r2, rfl, w⟩ := hp
  exact s_X11_minutes_8 cx hY eq  (by omega) (by omega) w
def wp_X11_minutes (a1 : Int32) (h : Hp) (Q : Int32 → Hp → Prop) : Prop := w_X11_minutes_0 Q a1 h
theorem vc_X11_minutes {l : Launch} {d : Nat} {a1 : Int32} {h : Hp} {Q : Int32 → Hp → Prop} (w : wp_X11_minutes a1 h Q) : Ct l lay1 yX11_minutes cX11_minutes 3 (some .int) (d + 7) 0 0 [vP (some (11, 0)), vI a1] h (fun r h2 => ∃ x, r = [vI x] ∧ Q x h2) := by
  exact Ct.of (by decide) (Nat.le_of_ble_eq_true rfl) fun E cx eq hl hY => s_X11_minutes_0 cx hY eq (Nat.le_refl _) (Nat.le_refl _) w
