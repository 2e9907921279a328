def w_X12_thrown_0 (Q : Int32 → Hp → Prop) (h : Hp) : Prop := Q (gI (h) 12 (0) (0)) (h)
theorem s_X12_thrown_0 {E : EnvT} {d : Nat} (cx : CX E "ShoreDayModel" cX12_thrown 1 (some .int) "thrown" (d + 1) 0 0) (hY : eY E = lay1) {Q : Int32 → Hp → Prop} (eq : EQ E 0 0 (fun r h2 => ∃ x, r = [vI x] ∧ Q x h2)) {h : Hp} {c n : Nat} (hc : c + 0 ≤ 0) (hn : n + 0 ≤ 0) (w : w_X12_thrown_0  Q  h) : SW E 0 ([some (vP (some (12, 0)))], [], h, c, n) := by
  exact k_X12_thrown_0 cx hY eq (by omega) (by omega) ⟨_, rfl, w⟩
def wp_X12_thrown (h : Hp) (Q : Int32 → Hp → Prop) : Prop := w_X12_thrown_0 Q  h
theorem vc_X12_thrown {l : Launch} {d : Nat} {h : Hp} {Q : Int32 → Hp → Prop} (w : wp_X12_thrown h Q) : Ct l lay1 yX12_thrown cX12_thrown 1 (some .int) (d + 1) 0 0 [vP (some (12, 0))] h (fun r h2 => ∃ x, r = [vI x] ∧ Q x h2) := by
  exact Ct.of (by decide) (Nat.le_of_ble_eq_true rfl) fun E cx eq hl hY => s_X12_thrown_0 cx hY eq (Nat.le_refl _) (Nat.le_refl _) w
def w_X12_lay_75 (Q : Hp → Prop) (b1 : Int64) (a3 : Int32) (h : Hp) : Prop := Q (h)
def w_X12_lay_69 (K3 : Int64 → Int32 → Hp → Prop) (Q : Hp → Prop) (b1 : Int64) (a3 : Int32) (a4 : Int32) (h : Hp) : Prop := K3 (b1) (a3 + (-8)) (h)
def w_X12_lay_48 (K3 : Int64 → Int32 → Hp → Prop) (Q : Hp → Prop) (b1 : Int64) (a3 : Int32) (a4 : Int32) (h : Hp) : Prop := vp_in (gI (h) 12 (0) (2)) 600 ∧ (w_X12_lay_69 K3 Q (b1) (a3) (a4) (wI (wI (h) 101 (0) (tN (gI (h) 12 (0) (2))) (a4)) 12 (0) 2 ((gI (wI (h) 101 (0) (tN (gI (h) 12 (0) (2))) (a4)) 12 (0) (2)) + ((1 : Int32)))))
def w_X12_lay_38 (K3 : Int64 → Int32 → Hp → Prop) (Q : Hp → Prop) (b1 : Int64) (a3 : Int32) (a4 : Int32) (h : Hp) : Prop := (((600 : Int32)) ≤ (gI (h) 12 (0) (2)) → w_X12_lay_69 K3 Q (b1) (a3) (a4) (h)) ∧ (¬ ((600 : Int32)) ≤ (gI (h) 12 (0) (2)) → w_X12_lay_48 K3 Q (b1) (a3) (a4) (h))
def w_X12_lay_31 (K3 : Int64 → Int32 → Hp → Prop) (Q : Hp → Prop) (b1 : Int64) (a3 : Int32) (a4 : Int32) (h : Hp) : Prop := (((126 : Int32)) < (a4) → w_X12_lay_69 K3 Q (b1) (a3) (a4) (h)) ∧ (¬ ((126 : Int32)) < (a4) → w_X12_lay_38 K3 Q (b1) (a3) (a4) (h))
def w_X12_lay_24 (K3 : Int64 → Int32 → Hp → Prop) (Q : Hp → Prop) (b1 : Int64) (a3 : Int32) (a4 : Int32) (h : Hp) : Prop := ((a4) < ((32 : Int32)) → w_X12_lay_69 K3 Q (b1) (a3) (a4) (h)) ∧ (¬ (a4) < ((32 : Int32)) → w_X12_lay_31 K3 Q (b1) (a3) (a4) (h))
def w_X12_lay_7 (K3 : Int64 → Int32 → Hp → Prop) (Q : Hp → Prop) (b1 : Int64) (a3 : Int32) (h : Hp) : Prop := (((((b1) >>> ((a3).toInt64 &&& 63)).toInt32) &&& ((255 : Int32))) = ((10 : Int32)) → w_X12_lay_38 K3 Q (b1) (a3) ((((b1) >>> ((a3).toInt64 &&& 63)).toInt32) &&& ((255 : Int32))) (h)) ∧ (¬ ((((b1) >>> ((a3).toInt64 &&& 63)).toInt32) &&& ((255 : Int32))) = ((10 : Int32)) → w_X12_lay_24 K3 Q (b1) (a3) ((((b1) >>> ((a3).toInt64 &&& 63)).toInt32) &&& ((255 : Int32))) (h))
def w_X12_lay_3 (Q : Hp → Prop) : Nat → Int64 → Int32 → Hp → Prop
  | 0 => fun _ _ _ => False
  | N + 1 => fun b1 a3 h => ((a3) < 0 → w_X12_lay_75  Q (b1) (a3) (h)) ∧ (¬ (a3) < 0 → w_X12_lay_7 (w_X12_lay_3  Q N) Q (b1) (a3) (h))
def w_X12_lay_0 (Q : Hp → Prop) (b1 : Int64) (h : Hp) : Prop := ∃ N, w_X12_lay_3  Q N (b1) ((56 : Int32)) (h)
theorem s_X12_lay_75 {E : EnvT} {d : Nat} (cx : CX E "ShoreDayModel" cX12_lay 5 none "lay" (d + 1) 0 0) (hY : eY E = lay1) {Q : Hp → Prop} (eq : EQ E 0 0 (fun r h2 => r = [] ∧ Q h2)) {b1 : Int64} {x2 : Option AVal} {a3 : Int32} {x4 : Option AVal} {h : Hp} {c n : Nat} (hc : c + 0 ≤ 0) (hn : n + 0 ≤ 0) (w : w_X12_lay_75  Q b1 a3 h) : SW E 75 ([some (vP (some (12, 0))), some (vL (b1)), x2, some (vI (a3)), x4], [], h, c, n) := by
  exact k_X12_lay_75 cx hY eq (by omega) (by omega) ⟨rfl, w⟩
theorem s_X12_lay_69 {E : EnvT} {d : Nat} (cx : CX E "ShoreDayModel" cX12_lay 5 none "lay" (d + 1) 0 0) (hY : eY E = lay1) {Q : Hp → Prop} (eq : EQ E 0 0 (fun r h2 => r = [] ∧ Q h2)) {K3 : Int64 → Int32 → Hp → Prop} (hK3 : ∀ (b1 : Int64) (x2 : Option AVal) (a3 : Int32) (x4 : Option AVal) (h : Hp) (c n : Nat), c + 0 ≤ 0 → n + 0 ≤ 0 → K3 b1 a3 h → SW E 3 ([some (vP (some (12, 0))), some (vL (b1)), x2, some (vI (a3)), x4], [], h, c, n)) {b1 : Int64} {x2 : Option AVal} {a3 : Int32} {a4 : Int32} {h : Hp} {c n : Nat} (hc : c + 0 ≤ 0) (hn : n + 0 ≤ 0) (w : w_X12_lay_69 K3 Q b1 a3 a4 h) : SW E 69 ([some (vP (some (12, 0))), some (vL (b1)), x2, some (vI (a3)), some (vI (a4))], [], h, c, n) := by
  refine k_X12_lay_69 cx hY ?_
  exact hK3 _ _ _ _ _ _ _ (by omega) (by omega) w
theorem s_X12_lay_48 {E : EnvT} {d : Nat} (cx : CX E "ShoreDayModel" cX12_lay 5 none "lay" (d + 1) 0 0) (hY : eY E = lay1) {Q : Hp → Prop} (eq : EQ E 0 0 (fun r h2 => r = [] ∧ Q h2)) {K3 : Int64 → Int32 → Hp → Prop} (hK3 : ∀ (b1 : Int64) (x2 : Option AVal) (a3 : Int32) (x4 : Option AVal) (h : Hp) (c n : Nat), c + 0 ≤ 0 → n + 0 ≤ 0 → K3 b1 a3 h → SW E 3 ([some (vP (some (12, 0))), some (vL (b1)), x2, some (vI (a3)), x4], [], h, c, n)) {b1 : Int64} {x2 : Option AVal} {a3 : Int32} {a4 : Int32} {h : Hp} {c n : Nat} (hc : c + 0 ≤ 0) (hn : n + 0 ≤ 0) (w : w_X12_lay_48 K3 Q b1 a3 a4 h) : SW E 48 ([some (vP (some (12, 0))), some (vL (b1)), x2, some (vI (a3)), some (vI (a4))], [], h, c, n) := by
  obtain ⟨G1, w⟩ := w
  refine k_X12_lay_48 cx hY G1 ?_
  exact s_X12_lay_69 cx hY eq hK3 (by omega) (by omega) w
theorem s_X12_lay_38 {E : EnvT} {d : Nat} (cx : CX E "ShoreDayModel" cX12_lay 5 none "lay" (d + 1) 0 0) (hY : eY E = lay1) {Q : Hp → Prop} (eq : EQ E 0 0 (fun r h2 => r = [] ∧ Q h2)) {K3 : Int64 → Int32 → Hp → Prop} (hK3 : ∀ (b1 : Int64) (x2 : Option AVal) (a3 : Int32) (x4 : Option AVal) (h : Hp) (c n : Nat), c + 0 ≤ 0 → n + 0 ≤ 0 → K3 b1 a3 h → SW E 3 ([some (vP (some (12, 0))), some (vL (b1)), x2, some (vI (a3)), x4], [], h, c, n)) {b1 : Int64} {x2 : Option AVal} {a3 : Int32} {a4 : Int32} {h : Hp} {c n : Nat} (hc : c + 0 ≤ 0) (hn : n + 0 ≤ 0) (w : w_X12_lay_38 K3 Q b1 a3 a4 h) : SW E 38 ([some (vP (some (12, 0))), some (vL (b1)), x2, some (vI (a3)), some (vI (a4))], [], h, c, n) := by
  refine k_X12_lay_38 cx hY (fun q => ?_) (fun q => ?_)
  · have w := w.1 q
    exact s_X12_lay_69 cx hY eq hK3 (by omega) (by omega) w
  · have w := w.2 q
    exact s_X12_lay_48 cx hY eq hK3 (by omega) (by omega) w
theorem s_X12_lay_31 {E : EnvT} {d : Nat} (cx : CX E "ShoreDayModel" cX12_lay 5 none "lay" (d + 1) 0 0) (hY : eY E = lay1) {Q : Hp → Prop} (eq : EQ E 0 0 (fun r h2 => r = [] ∧ Q h2)) {K3 : Int64 → Int32 → Hp → Prop} (hK3 : ∀ (b1 : Int64) (x2 : Option AVal) (a3 : Int32) (x4 : Option AVal) (h : Hp) (c n : Nat), c + 0 ≤ 0 → n + 0 ≤ 0 → K3 b1 a3 h → SW E 3 ([some (vP (some (12, 0))), some (vL (b1)), x2, some (vI (a3)), x4], [], h, c, n)) {b1 : Int64} {x2 : Option AVal} {a3 : Int32} {a4 : Int32} {h : Hp} {c n : Nat} (hc : c + 0 ≤ 0) (hn : n + 0 ≤ 0) (w : w_X12_lay_31 K3 Q b1 a3 a4 h) : SW E 31 ([some (vP (some (12, 0))), some (vL (b1)), x2, some (vI (a3)), some (vI (a4))], [], h, c, n) := by
  refine k_X12_lay_31 cx hY (fun q => ?_) (fun q => ?_)
  · have w := w.1 q
    exact s_X12_lay_69 cx hY eq hK3 (by omega) (by omega) w
  · have w := w.2 q
    exact s_X12_lay_38 cx hY eq hK3 (by omega) (by omega) w
theorem s_X12_lay_24 {E : EnvT} {d : Nat} (cx : CX E "ShoreDayModel" cX12_lay 5 none "lay" (d + 1) 0 0) (hY : eY E = lay1) {Q : Hp → Prop} (eq : EQ E 0 0 (fun r h2 => r = [] ∧ Q h2)) {K3 : Int64 → Int32 → Hp → Prop} (hK3 : ∀ (b1 : Int64) (x2 : Option AVal) (a3 : Int32) (x4 : Option AVal) (h : Hp) (c n : Nat), c + 0 ≤ 0 → n + 0 ≤ 0 → K3 b1 a3 h → SW E 3 ([some (vP (some (12, 0))), some (vL (b1)), x2, some (vI (a3)), x4], [], h, c, n)) {b1 : Int64} {x2 : Option AVal} {a3 : Int32} {a4 : Int32} {h : Hp} {c n : Nat} (hc : c + 0 ≤ 0) (hn : n + 0 ≤ 0) (w : w_X12_lay_24 K3 Q b1 a3 a4 h) : SW E 24 ([some (vP (some (12, 0))), some (vL (b1)), x2, some (vI (a3)), some (vI (a4))], [], h, c, n) := by
  refine k_X12_lay_24 cx hY (fun q => ?_) (fun q => ?_)
  · have w := w.1 q
    exact s_X12_lay_69 cx hY eq hK3 (by omega) (by omega) w
  · have w := w.2 q
    exact s_X12_lay_31 cx hY eq hK3 (by omega) (by omega) w
theorem s_X12_lay_7 {E : EnvT} {d : Nat} (cx : CX E "ShoreDayModel" cX12_lay 5 none "lay" (d + 1) 0 0) (hY : eY E = lay1) {Q : Hp → Prop} (eq : EQ E 0 0 (fun r h2 => r = [] ∧ Q h2)) {K3 : Int64 → Int32 → Hp → Prop} (hK3 : ∀ (b1 : Int64) (x2 : Option AVal) (a3 : Int32) (x4 : Option AVal) (h : Hp) (c n : Nat), c + 0 ≤ 0 → n + 0 ≤ 0 → K3 b1 a3 h → SW E 3 ([some (vP (some (12, 0))), some (vL (b1)), x2, some (vI (a3)), x4], [], h, c, n)) {b1 : Int64} {x2 : Option AVal} {a3 : Int32} {x4 : Option AVal} {h : Hp} {c n : Nat} (hc : c + 0 ≤ 0) (hn : n + 0 ≤ 0) (w : w_X12_lay_7 K3 Q b1 a3 h) : SW E 7 ([some (vP (some (12, 0))), some (vL (b1)), x2, some (vI (a3)), x4], [], h, c, n) := by
  refine k_X12_lay_7 cx hY (fun q => ?_) (fun q => ?_)
  · have w := w.1 q
    exact s_X12_lay_38 cx hY eq hK3 (by omega) (by omega) w
  · have w := w.2 q
    exact s_X12_lay_24 cx hY eq hK3 (by omega) (by omega) w
theorem s_X12_lay_3 {E : EnvT} {d : Nat} (cx : CX E "ShoreDayModel" cX12_lay 5 none "lay" (d + 1) 0 0) (hY : eY E = lay1) {Q : Hp → Prop} (eq : EQ E 0 0 (fun r h2 => r = [] ∧ Q h2)) : ∀ (N : Nat) (b1 : Int64) (x2 : Option AVal) (a3 : Int32) (x4 : Option AVal) (h : Hp) (c n : Nat), c + 0 ≤ 0 → n + 0 ≤ 0 → w_X12_lay_3  Q N b1 a3 h → SW E 3 ([some (vP (some (12, 0))), some (vL (b1)), x2, some (vI (a3)), x4], [], h, c, n) := by
  intro N
  induction N with
  | zero =>
    intro _ _ _ _ h c n _ _ w
    exact w.elim
  | succ N ih =>
    intro b1 x2 a3 x4 h c n hc hn w
    refine k_X12_lay_3 cx hY (fun q => ?_) (fun q => ?_)
    · have w := w.1 q
      exact s_X12_lay_75 cx hY eq  (by omega) (by omega) w
    · have w := w.2 q
      exact s_X12_lay_7 cx hY eq ih (by omega) (by omega) w
theorem s_X12_lay_0 {E : EnvT} {d : Nat} (cx : CX E "ShoreDayModel" cX12_lay 5 none "lay" (d + 1) 0 0) (hY : eY E = lay1) {Q : Hp → Prop} (eq : EQ E 0 0 (fun r h2 => r = [] ∧ Q h2)) {b1 : Int64} {x2 : Option AVal} {x3 : Option AVal} {x4 : Option AVal} {h : Hp} {c n : Nat} (hc : c + 0 ≤ 0) (hn : n + 0 ≤ 0) (w : w_X12_lay_0  Q b1 h) : SW E 0 ([some (vP (some (12, 0))), some (vL (b1)), x2, x3, x4], [], h, c, n) := by
  refine k_X12_lay_0 cx hY ?_
  obtain ⟨N1, w⟩ := w
  exact s_X12_lay_3 cx hY eq  _ _ _ _ _ _ _ _ (by omega) (by omega) w
def wp_X12_lay (b1 : Int64) (h : Hp) (Q : Hp → Prop) : Prop := w_X12_lay_0 Q b1 h
theorem vc_X12_lay {l : Launch} {d : Nat} {b1 : Int64} {h : Hp} {Q : Hp → Prop} (w : wp_X12_lay b1 h Q) : Ct l lay1 yX12_lay cX12_lay 5 none (d + 1) 0 0 [vP (some (12, 0)), vL b1] h (fun r h2 => r = [] ∧ Q h2) := by
  exact Ct.of (by decide) (Nat.le_of_ble_eq_true rfl) fun E cx eq hl hY => s_X12_lay_0 cx hY eq (Nat.le_refl _) (Nat.le_refl _) w
def w_X12_isLetter_17 (Q : Int32 → Hp → Prop) (a0 : Int32) (s0 : Int32) (h : Hp) : Prop := ((s0) = 0 ∨ (s0) = 1) ∧ Q (s0) (h)
def w_X12_isLetter_16 (Q : Int32 → Hp → Prop) (a0 : Int32) (h : Hp) : Prop := w_X12_isLetter_17  Q (a0) ((0 : Int32)) (h)
def w_X12_isLetter_12 (Q : Int32 → Hp → Prop) (a0 : Int32) (h : Hp) : Prop := w_X12_isLetter_17  Q (a0) ((1 : Int32)) (h)
def w_X12_isLetter_6 (Q : Int32 → Hp → Prop) (a0 : Int32) (h : Hp) : Prop := (((122 : Int32)) < (a0) → w_X12_isLetter_16  Q (a0) (h)) ∧ (¬ ((122 : Int32)) < (a0) → w_X12_isLetter_12  Q (a0) (h))
def w_X12_isLetter_0 (Q : Int32 → Hp → Prop) (a0 : Int32) (h : Hp) : Prop := ((a0) < ((97 : Int32)) → w_X12_isLetter_16  Q (a0) (h)) ∧ (¬ (a0) < ((97 : Int32)) → w_X12_isLetter_6  Q (a0) (h))
theorem s_X12_isLetter_17 {E : EnvT} {d : Nat} (cx : CX E "ShoreDayModel" cX12_isLetter 1 (some .boolean) "isLetter" (d + 1) 0 0) (hY : eY E = lay1) {Q : Int32 → Hp → Prop} (eq : EQ E 0 0 (fun r h2 => ∃ x, r = [vI x] ∧ Q x h2)) {a0 : Int32} {s0 : Int32} {h : Hp} {c n : Nat} (hc : c + 0 ≤ 0) (hn : n + 0 ≤ 0) (w : w_X12_isLetter_17  Q a0 s0 h) : SW E 17 ([some (vI (a0))], [vI (s0)], h, c, n) := by
  exact k_X12_isLetter_17 cx hY eq (by omega) (by omega) w.1 ⟨_, rfl, w.2⟩
theorem s_X12_isLetter_16 {E : EnvT} {d : Nat} (cx : CX E "ShoreDayModel" cX12_isLetter 1 (some .boolean) "isLetter" (d + 1) 0 0) (hY : eY E = lay1) {Q : Int32 → Hp → Prop} (eq : EQ E 0 0 (fun r h2 => ∃ x, r = [vI x] ∧ Q x h2)) {a0 : Int32} {h : Hp} {c n : Nat} (hc : c + 0 ≤ 0) (hn : n + 0 ≤ 0) (w : w_X12_isLetter_16  Q a0 h) : SW E 16 ([some (vI (a0))], [], h, c, n) := by
  refine k_X12_isLetter_16 cx hY ?_
  exact s_X12_isLetter_17 cx hY eq  (by omega) (by omega) w
theorem s_X12_isLetter_12 {E : EnvT} {d : Nat} (cx : CX E "ShoreDayModel" cX12_isLetter 1 (some .boolean) "isLetter" (d + 1) 0 0) (hY : eY E = lay1) {Q : Int32 → Hp → Prop} (eq : EQ E 0 0 (fun r h2 => ∃ x, r = [vI x] ∧ Q x h2)) {a0 : Int32} {h : Hp} {c n : Nat} (hc : c + 0 ≤ 0) (hn : n + 0 ≤ 0) (w : w_X12_isLetter_12  Q a0 h) : SW E 12 ([some (vI (a0))], [], h, c, n) := by
  refine k_X12_isLetter_12 cx hY ?_
  exact s_X12_isLetter_17 cx hY eq  (by omega) (by omega) w
theorem s_X12_isLetter_6 {E : EnvT} {d : Nat} (cx : CX E "ShoreDayModel" cX12_isLetter 1 (some .boolean) "isLetter" (d + 1) 0 0) (hY : eY E = lay1) {Q : Int32 → Hp → Prop} (eq : EQ E 0 0 (fun r h2 => ∃ x, r = [vI x] ∧ Q x h2)) {a0 : Int32} {h : Hp} {c n : Nat} (hc : c + 0 ≤ 0) (hn : n + 0 ≤ 0) (w : w_X12_isLetter_6  Q a0 h) : SW E 6 ([some (vI (a0))], [], h, c, n) := by
  refine k_X12_isLetter_6 cx hY (fun q => ?_) (fun q => ?_)
  · have w := w.1 q
    exact s_X12_isLetter_16 cx hY eq  (by omega) (by omega) w
  · have w := w.2 q
    exact s_X12_isLetter_12 cx hY eq  (by omega) (by omega) w
theorem s_X12_isLetter_0 {E : EnvT} {d : Nat} (cx : CX E "ShoreDayModel" cX12_isLetter 1 (some .boolean) "isLetter" (d + 1) 0 0) (hY : eY E = lay1) {Q : Int32 → Hp → Prop} (eq : EQ E 0 0 (fun r h2 => ∃ x, r = [vI x] ∧ Q x h2)) {a0 : Int32} {h : Hp} {c n : Nat} (hc : c + 0 ≤ 0) (hn : n + 0 ≤ 0) (w : w_X12_isLetter_0  Q a0 h) : SW E 0 ([some (vI (a0))], [], h, c, n) := by
  refine k_X12_isLetter_0 cx hY (fun q => ?_) (fun q => ?_)
  · have w := w.1 q
    exact s_X12_isLetter_16 cx hY eq  (by omega) (by omega) w
  · have w := w.2 q
    exact s_X12_isLetter_6 cx hY eq  (by omega) (by omega) w
def wp_X12_isLetter (a0 : Int32) (h : Hp) (Q : Int32 → Hp → Prop) : Prop := w_X12_isLetter_0 Q a0 h
theorem vc_X12_isLetter {l : Launch} {d : Nat} {a0 : Int32} {h : Hp} {Q : Int32 → Hp → Prop} (w : wp_X12_isLetter a0 h Q) : Ct l lay1 yX12_isLetter cX12_isLetter 1 (some .boolean) (d + 1) 0 0 [vI a0] h (fun r h2 => ∃ x, r = [vI x] ∧ Q x h2) := by
  exact Ct.of (by decide) (Nat.le_of_ble_eq_true rfl) fun E cx eq hl hY => s_X12_isLetter_0 cx hY eq (Nat.le_refl _) (Nat.le_refl _) w
def w_X12_isDigit_17 (Q : Int32 → Hp → Prop) (a0 : Int32) (s0 : Int32) (h : Hp) : Prop := ((s0) = 0 ∨ (s0) = 1) ∧ Q (s0) (h)
def w_X12_isDigit_16 (Q : Int32 → Hp → Prop) (a0 : Int32) (h : Hp) : Prop := w_X12_isDigit_17  Q (a0) ((0 : Int32)) (h)
def w_X12_isDigit_12 (Q : Int32 → Hp → Prop) (a0 : Int32) (h : Hp) : Prop := w_X12_isDigit_17  Q (a0) ((1 : Int32)) (h)
def w_X12_isDigit_6 (Q : Int32 → Hp → Prop) (a0 : Int32) (h : Hp) : Prop := (((57 : Int32)) < (a0) → w_X12_isDigit_16  Q (a0) (h)) ∧ (¬ ((57 : Int32)) < (a0) → w_X12_isDigit_12  Q (a0) (h))
def w_X12_isDigit_0 (Q : Int32 → Hp → Prop) (a0 : Int32) (h : Hp) : Prop := ((a0) < ((48 : Int32)) → w_X12_isDigit_16  Q (a0) (h)) ∧ (¬ (a0) < ((48 : Int32)) → w_X12_isDigit_6  Q (a0) (h))
theorem s_X12_isDigit_17 {E : EnvT} {d : Nat} (cx : CX E "ShoreDayModel" cX12_isDigit 1 (some .boolean) "isDigit" (d + 1) 0 0) (hY : eY E = lay1) {Q : Int32 → Hp → Prop} (eq : EQ E 0 0 (fun r h2 => ∃ x, r = [vI x] ∧ Q x h2)) {a0 : Int32} {s0 : Int32} {h : Hp} {c n : Nat} (hc : c + 0 ≤ 0) (hn : n + 0 ≤ 0) (w : w_X12_isDigit_17  Q a0 s0 h) : SW E 17 ([some (vI (a0))], [vI (s0)], h, c, n) := by
  exact k_X12_isDigit_17 cx hY eq (by omega) (by omega) w.1 ⟨_, rfl, w.2⟩
theorem s_X12_isDigit_16 {E : EnvT} {d : Nat} (cx : CX E "ShoreDayModel" cX12_isDigit 1 (some .boolean) "isDigit" (d + 1) 0 0) (hY : eY E = lay1) {Q : Int32 → Hp → Prop} (eq : EQ E 0 0 (fun r h2 => ∃ x, r = [vI x] ∧ Q x h2)) {a0 : Int32} {h : Hp} {c n : Nat} (hc : c + 0 ≤ 0) (hn : n + 0 ≤ 0) (w : w_X12_isDigit_16  Q a0 h) : SW E 16 ([some (vI (a0))], [], h, c, n) := by
  refine k_X12_isDigit_16 cx hY ?_
  exact s_X12_isDigit_17 cx hY eq  (by omega) (by omega) w
theorem s_X12_isDigit_12 {E : EnvT} {d : Nat} (cx : CX E "ShoreDayModel" cX12_isDigit 1 (some .boolean) "isDigit" (d + 1) 0 0) (hY : eY E = lay1) {Q : Int32 → Hp → Prop} (eq : EQ E 0 0 (fun r h2 => ∃ x, r = [vI x] ∧ Q x h2)) {a0 : Int32} {h : Hp} {c n : Nat} (hc : c + 0 ≤ 0) (hn : n + 0 ≤ 0) (w : w_X12_isDigit_12  Q a0 h) : SW E 12 ([some (vI (a0))], [], h, c, n) := by
  refine k_X12_isDigit_12 cx hY ?_
  exact s_X12_isDigit_17 cx hY eq  (by omega) (by omega) w
theorem s_X12_isDigit_6 {E : EnvT} {d : Nat} (cx : CX E "ShoreDayModel" cX12_isDigit 1 (some .boolean) "isDigit" (d + 1) 0 0) (hY : eY E = lay1) {Q : Int32 → Hp → Prop} (eq : EQ E 0 0 (fun r h2 => ∃ x, r = [vI x] ∧ Q x h2)) {a0 : Int32} {h : Hp} {c n : Nat} (hc : c + 0 ≤ 0) (hn : n + 0 ≤ 0) (w : w_X12_isDigit_6  Q a0 h) : SW E 6 ([some (vI (a0))], [], h, c, n) := by
  refine k_X12_isDigit_6 cx hY (fun q => ?_) (fun q => ?_)
  · have w := w.1 q
    exact s_X12_isDigit_16 cx hY eq  (by omega) (by omega) w
  · have w := w.2 q
    exact s_X12_isDigit_12 cx hY eq  (by omega) (by omega) w
theorem s_X12_isDigit_0 {E : EnvT} {d : Nat} (cx : CX E "ShoreDayModel" cX12_isDigit 1 (some .boolean) "isDigit" (d + 1) 0 0) (hY : eY E = lay1) {Q : Int32 → Hp → Prop} (eq : EQ E 0 0 (fun r h2 => ∃ x, r = [vI x] ∧ Q x h2)) {a0 : Int32} {h : Hp} {c n : Nat} (hc : c + 0 ≤ 0) (hn : n + 0 ≤ 0) (w : w_X12_isDigit_0  Q a0 h) : SW E 0 ([some (vI (a0))], [], h, c, n) := by
  refine k_X12_isDigit_0 cx hY (fun q => ?_) (fun q => ?_)
  · have w := w.1 q
    exact s_X12_isDigit_16 cx hY eq  (by omega) (by omega) w
  · have w := w.2 q
    exact s_X12_isDigit_6 cx hY eq  (by omega) (by omega) w
def wp_X12_isDigit (a0 : Int32) (h : Hp) (Q : Int32 → Hp → Prop) : Prop := w_X12_isDigit_0 Q a0 h
theorem vc_X12_isDigit {l : Launch} {d : Nat} {a0 : Int32} {h : Hp} {Q : Int32 → Hp → Prop} (w : wp_X12_isDigit a0 h Q) : Ct l lay1 yX12_isDigit cX12_isDigit 1 (some .boolean) (d + 1) 0 0 [vI a0] h (fun r h2 => ∃ x, r = [vI x] ∧ Q x h2) := by
  exact Ct.of (by decide) (Nat.le_of_ble_eq_true rfl) fun E cx eq hl hY => s_X12_isDigit_0 cx hY eq (Nat.le_refl _) (Nat.le_refl _) w
def w_X12_rank_18 (Q : Int32 → Hp → Prop) (a0 : Int32) (s0 : Int32) (h : Hp) : Prop := Q (s0) (h)
def w_X12_rank_14 (Q : Int32 → Hp → Prop) (a0 : Int32) (h : Hp) : Prop := w_X12_rank_18  Q (a0) ((a0) - ((21 : Int32))) (h)
def w_X12_rank_7 (Q : Int32 → Hp → Prop) (a0 : Int32) (h : Hp) : Prop := w_X12_rank_18  Q (a0) ((a0) - ((96 : Int32))) (h)
def w_X12_rank_4 (Q : Int32 → Hp → Prop) (a0 : Int32) (s0 : Int32) (h : Hp) : Prop := ((s0) = 0 → w_X12_rank_14  Q (a0) (h)) ∧ (¬ (s0) = 0 → w_X12_rank_7  Q (a0) (h))
def w_X12_rank_0 (Q : Int32 → Hp → Prop) (a0 : Int32) (h : Hp) : Prop := wp_X12_isLetter (a0) (h) (fun r2 h2 => w_X12_rank_4  Q (a0) (r2) (h2))
theorem s_X12_rank_18 {E : EnvT} {d : Nat} (cx : CX E "ShoreDayModel" cX12_rank 1 (some .int) "rank" (d + 2) 0 0) (hY : eY E = lay1) {Q : Int32 → Hp → Prop} (eq : EQ E 0 0 (fun r h2 => ∃ x, r = [vI x] ∧ Q x h2)) {a0 : Int32} {s0 : Int32} {h : Hp} {c n : Nat} (hc : c + 0 ≤ 0) (hn : n + 0 ≤ 0) (w : w_X12_rank_18  Q a0 s0 h) : SW E 18 ([some (vI (a0))], [vI (s0)], h, c, n) := by
  exact k_X12_rank_18 cx hY eq (by omega) (by omega) ⟨_, rfl, w⟩
theorem s_X12_rank_14 {E : EnvT} {d : Nat} (cx : CX E "ShoreDayModel" cX12_rank 1 (some .int) "rank" (d + 2) 0 0) (hY : eY E = lay1) {Q : Int32 → Hp → Prop} (eq : EQ E 0 0 (fun r h2 => ∃ x, r = [vI x] ∧ Q x h2)) {a0 : Int32} {h : Hp} {c n : Nat} (hc : c + 0 ≤ 0) (hn : n + 0 ≤ 0) (w : w_X12_rank_14  Q a0 h) : SW E 14 ([some (vI (a0))], [], h, c, n) := by
  refine k_X12_rank_14 cx hY ?_
  exact s_X12_rank_18 cx hY eq  (by omega) (by omega) w
theorem s_X12_rank_7 {E : EnvT} {d : Nat} (cx : CX E "ShoreDayModel" cX12_rank 1 (some .int) "rank" (d + 2) 0 0) (hY : eY E = lay1) {Q : Int32 → Hp → Prop} (eq : EQ E 0 0 (fun r h2 => ∃ x, r = [vI x] ∧ Q x h2)) {a0 : Int32} {h : Hp} {c n : Nat} (hc : c + 0 ≤ 0) (hn : n + 0 ≤ 0) (w : w_X12_rank_7  Q a0 h) : SW E 7 ([some (vI (a0))], [], h, c, n) := by
  refine k_X12_rank_7 cx hY ?_
  exact s_X12_rank_18 cx hY eq  (by omega) (by omega) w
theorem s_X12_rank_4 {E : EnvT} {d : Nat} (cx : CX E "ShoreDayModel" cX12_rank 1 (some .int) "rank" (d + 2) 0 0) (hY : eY E = lay1) {Q : Int32 → Hp → Prop} (eq : EQ E 0 0 (fun r h2 => ∃ x, r = [vI x] ∧ Q x h2)) {a0 : Int32} {s0 : Int32} {h : Hp} {c n : Nat} (hc : c + 0 ≤ 0) (hn : n + 0 ≤ 0) (w : w_X12_rank_4  Q a0 s0 h) : SW E 4 ([some (vI (a0))], [vI (s0)], h, c, n) := by
  refine k_X12_rank_4 cx hY (fun q => ?_) (fun q => ?_)
  · have w := w.1 q
    exact s_X12_rank_14 cx hY eq  (by omega) (by omega) w
  · have w := w.2 q
    exact s_X12_rank_7 cx hY eq  (by omega) (by omega) w
theorem s_X12_rank_0 {E : EnvT} {d : Nat} (cx : CX E "ShoreDayModel" cX12_rank 1 (some .int) "rank" (d + 2) 0 0) (hY : eY E = lay1) {Q : Int32 → Hp → Prop} (eq : EQ E 0 0 (fun r h2 => ∃ x, r = [vI x] ∧ Q x h2)) {a0 : Int32} {h : Hp} {c n : Nat} (hc : c + 0 ≤ 0) (hn : n + 0 ≤ 0) (w : w_X12_rank_0  Q a0 h) : SW E 0 ([some (vI (a0))], [], h, c, n) := by
  refine k_X12_rank_0 cx hY (ctY hY (vc_X12_isLetter (d := d + 0) w)) (by omega) (by omega) (by omega) (fun r h2 hp => ?_)
  obtain ⟨r2, rfl, w⟩ := hp
  exact s_X12_rank_4 cx hY eq  (by omega) (by omega) w
def wp_X12_rank (a0 : Int32) (h : Hp) (Q : Int32 → Hp → Prop) : Prop := w_X12_rank_0 Q a0 h
theorem vc_X12_rank {l : Launch} {d : Nat} {a0 : Int32} {h : Hp} {Q : Int32 → Hp → Prop} (w : wp_X12_rank a0 h Q) : Ct l lay1 yX12_rank cX12_rank 1 (some .int) (d + 2) 0 0 [vI a0] h (fun r h2 => ∃ x, r = [vI x] ∧ Q x h2) := by
  exact Ct.of (by decide) (Nat.le_of_ble_eq_true rfl) fun E cx eq hl hY => s_X12_rank_0 cx hY eq (Nat.le_refl _) (Nat.le_refl _) w
def w_X12_isSignOf_47 (Q : Int32 → Hp → Prop) (a0 : Int32) (s0 : Int32) (h : Hp) : Prop := ((s0) = 0 ∨ (s0) = 1) ∧ Q (s0) (h)
def w_X12_isSignOf_42 (Q : Int32 → Hp → Prop) (a0 : Int32) (h : Hp) : Prop := w_X12_isSignOf_47  Q (a0) ((1 : Int32)) (h)
def w_X12_isSignOf_46 (Q : Int32 → Hp → Prop) (a0 : Int32) (h : Hp) : Prop := w_X12_isSignOf_47  Q (a0) ((0 : Int32)) (h)
def w_X12_isSignOf_36 (Q : Int32 → Hp → Prop) (a0 : Int32) (h : Hp) : Prop := (¬ (a0) = ((45 : Int32)) → w_X12_isSignOf_46  Q (a0) (h)) ∧ ((a0) = ((45 : Int32)) → w_X12_isSignOf_42  Q (a0) (h))
def w_X12_isSignOf_30 (Q : Int32 → Hp → Prop) (a0 : Int32) (h : Hp) : Prop := ((a0) = ((43 : Int32)) → w_X12_isSignOf_42  Q (a0) (h)) ∧ (¬ (a0) = ((43 : Int32)) → w_X12_isSignOf_36  Q (a0) (h))
def w_X12_isSignOf_24 (Q : Int32 → Hp → Prop) (a0 : Int32) (h : Hp) : Prop := ((a0) = ((60 : Int32)) → w_X12_isSignOf_42  Q (a0) (h)) ∧ (¬ (a0) = ((60 : Int32)) → w_X12_isSignOf_30  Q (a0) (h))
def w_X12_isSignOf_18 (Q : Int32 → Hp → Prop) (a0 : Int32) (h : Hp) : Prop := ((a0) = ((61 : Int32)) → w_X12_isSignOf_42  Q (a0) (h)) ∧ (¬ (a0) = ((61 : Int32)) → w_X12_isSignOf_24  Q (a0) (h))
def w_X12_isSignOf_12 (Q : Int32 → Hp → Prop) (a0 : Int32) (h : Hp) : Prop := ((a0) = ((59 : Int32)) → w_X12_isSignOf_42  Q (a0) (h)) ∧ (¬ (a0) = ((59 : Int32)) → w_X12_isSignOf_18  Q (a0) (h))
def w_X12_isSignOf_6 (Q : Int32 → Hp → Prop) (a0 : Int32) (h : Hp) : Prop := ((a0) = ((41 : Int32)) → w_X12_isSignOf_42  Q (a0) (h)) ∧ (¬ (a0) = ((41 : Int32)) → w_X12_isSignOf_12  Q (a0) (h))
def w_X12_isSignOf_0 (Q : Int32 → Hp → Prop) (a0 : Int32) (h : Hp) : Prop := ((a0) = ((40 : Int32)) → w_X12_isSignOf_42  Q (a0) (h)) ∧ (¬ (a0) = ((40 : Int32)) → w_X12_isSignOf_6  Q (a0) (h))
theorem s_X12_isSignOf_47 {E : EnvT} {d : Nat} (cx : CX E "ShoreDayModel" cX12_isSignOf 1 (some .boolean) "isSignOf" (d + 1) 0 0) (hY : eY E = lay1) {Q : Int32 → Hp → Prop} (eq : EQ E 0 0 (fun r h2 => ∃ x, r = [vI x] ∧ Q x h2)) {a0 : Int32} {s0 : Int32} {h : Hp} {c n : Nat} (hc : c + 0 ≤ 0) (hn : n + 0 ≤ 0) (w : w_X12_isSignOf_47  Q a0 s0 h) : SW E 47 ([some (vI (a0))], [vI (s0)], h, c, n) := by
  exact k_X12_isSignOf_47 cx hY eq (by omega) (by omega) w.1 ⟨_, rfl, w.2⟩
theorem s_X12_isSignOf_42 {E : EnvT} {d : Nat} (cx : CX E "ShoreDayModel" cX12_isSignOf 1 (some .boolean) "isSignOf" (d + 1) 0 0) (hY : eY E = lay1) {Q : Int32 → Hp → Prop} (eq : EQ E 0 0 (fun r h2 => ∃ x, r = [vI x] ∧ Q x h2)) {a0 : Int32} {h : Hp} {c n : Nat} (hc : c + 0 ≤ 0) (hn : n + 0 ≤ 0) (w : w_X12_isSignOf_42  Q a0 h) : SW E 42 ([some (vI (a0))], [], h, c, n) := by
  refine k_X12_isSignOf_42 cx hY ?_
  exact s_X12_isSignOf_47 cx hY eq  (by omega) (by omega) w
theorem s_X12_isSignOf_46 {E : EnvT} {d : Nat} (cx : CX E "ShoreDayModel" cX12_isSignOf 1 (some .boolean) "isSignOf" (d + 1) 0 0) (hY : eY E = lay1) {Q : Int32 → Hp → Prop} (eq : EQ E 0 0 (fun r h2 => ∃ x, r = [vI x] ∧ Q x h2)) {a0 : Int32} {h : Hp} {c n : Nat} (hc : c + 0 ≤ 0) (hn : n + 0 ≤ 0) (w : w_X12_isSignOf_46  Q a0 h) : SW E 46 ([some (vI (a0))], [], h, c, n) := by
  refine k_X12_isSignOf_46 cx hY ?_
  exact s_X12_isSignOf_47 cx hY eq  (by omega) (by omega) w
theorem s_X12_isSignOf_36 {E : EnvT} {d : Nat} (cx : CX E "ShoreDayModel" cX12_isSignOf 1 (some .boolean) "isSignOf" (d + 1) 0 0) (hY : eY E = lay1) {Q : Int32 → Hp → Prop} (eq : EQ E 0 0 (fun r h2 => ∃ x, r = [vI x] ∧ Q x h2)) {a0 : Int32} {h : Hp} {c n : Nat} (hc : c + 0 ≤ 0) (hn : n + 0 ≤ 0) (w : w_X12_isSignOf_36  Q a0 h) : SW E 36 ([some (vI (a0))], [], h, c, n) := by
  refine k_X12_isSignOf_36 cx hY (fun q => ?_) (fun q => ?_)
  · have w := w.1 q
    exact s_X12_isSignOf_46 cx hY eq  (by omega) (by omega) w
  · have w := w.2 q
    exact s_X12_isSignOf_42 cx hY eq  (by omega) (by omega) w
theorem s_X12_isSignOf_30 {E : EnvT} {d : Nat} (cx : CX E "ShoreDayModel" cX12_isSignOf 1 (some .boolean) "isSignOf" (d + 1) 0 0) (hY : eY E = lay1) {Q : Int32 → Hp → Prop} (eq : EQ E 0 0 (fun r h2 => ∃ x, r = [vI x] ∧ Q x h2)) {a0 : Int32} {h : Hp} {c n : Nat} (hc : c + 0 ≤ 0) (hn : n + 0 ≤ 0) (w : w_X12_isSignOf_30  Q a0 h) : SW E 30 ([some (vI (a0))], [], h, c, n) := by
  refine k_X12_isSignOf_30 cx hY (fun q => ?_) (fun q => ?_)
  · have w := w.1 q
    exact s_X12_isSignOf_42 cx hY eq  (by omega) (by omega) w
  · have w := w.2 q
    exact s_X12_isSignOf_36 cx hY eq  (by omega) (by omega) w
theorem s_X12_isSignOf_24 {E : EnvT} {d : Nat} (cx : CX E "ShoreDayModel" cX12_isSignOf 1 (some .boolean) "isSignOf" (d + 1) 0 0) (hY : eY E = lay1) {Q : Int32 → Hp → Prop} (eq : EQ E 0 0 (fun r h2 => ∃ x, r = [vI x] ∧ Q x h2)) {a0 : Int32} {h : Hp} {c n : Nat} (hc : c + 0 ≤ 0) (hn : n + 0 ≤ 0) (w : w_X12_isSignOf_24  Q a0 h) : SW E 24 ([some (vI (a0))], [], h, c, n) := by
  refine k_X12_isSignOf_24 cx hY (fun q => ?_) (fun q => ?_)
  · have w := w.1 q
    exact s_X12_isSignOf_42 cx hY eq  (by omega) (by omega) w
  · have w := w.2 q
    exact s_X12_isSignOf_30 cx hY eq  (by omega) (by omega) w
theorem s_X12_isSignOf_18 {E : EnvT} {d : Nat} (cx : CX E "ShoreDayModel" cX12_isSignOf 1 (some .boolean) "isSignOf" (d + 1) 0 0) (hY : eY E = lay1) {Q : Int32 → Hp → Prop} (eq : EQ E 0 0 (fun r h2 => ∃ x, r = [vI x] ∧ Q x h2)) {a0 : Int32} {h : Hp} {c n : Nat} (hc : c + 0 ≤ 0) (hn : n + 0 ≤ 0) (w : w_X12_isSignOf_18  Q a0 h) : SW E 18 ([some (vI (a0))], [], h, c, n) := by
  refine k_X12_isSignOf_18 cx hY (fun q => ?_) (fun q => ?_)
  · have w := w.1 q
    exact s_X12_isSignOf_42 cx hY eq  (by omega) (by omega) w
  · have w := w.2 q
    exact s_X12_isSignOf_24 cx hY eq  (by omega) (by omega) w
theorem s_X12_isSignOf_12 {E : EnvT} {d : Nat} (cx : CX E "ShoreDayModel" cX12_isSignOf 1 (some .boolean) "isSignOf" (d + 1) 0 0) (hY : eY E = lay1) {Q : Int32 → Hp → Prop} (eq : EQ E 0 0 (fun r h2 => ∃ x, r = [vI x] ∧ Q x h2)) {a0 : Int32} {h : Hp} {c n : Nat} (hc : c + 0 ≤ 0) (hn : n + 0 ≤ 0) (w : w_X12_isSignOf_12  Q a0 h) : SW E 12 ([some (vI (a0))], [], h, c, n) := by
  refine k_X12_isSignOf_12 cx hY (fun q => ?_) (fun q => ?_)
  · have w := w.1 q
    exact s_X12_isSignOf_42 cx hY eq  (by omega) (by omega) w
  · have w := w.2 q
    exact s_X12_isSignOf_18 cx hY eq  (by omega) (by omega) w
theorem s_X12_isSignOf_6 {E : EnvT} {d : Nat} (cx : CX E "ShoreDayModel" cX12_isSignOf 1 (some .boolean) "isSignOf" (d + 1) 0 0) (hY : eY E = lay1) {Q : Int32 → Hp → Prop} (eq : EQ E 0 0 (fun r h2 => ∃ x, r = [vI x] ∧ Q x h2)) {a0 : Int32} {h : Hp} {c n : Nat} (hc : c + 0 ≤ 0) (hn : n + 0 ≤ 0) (w : w_X12_isSignOf_6  Q a0 h) : SW E 6 ([some (vI (a0))], [], h, c, n) := by
  refine k_X12_isSignOf_6 cx hY (fun q => ?_) (fun q => ?_)
  · have w := w.1 q
    exact s_X12_isSignOf_42 cx hY eq  (by omega) (by omega) w
  · have w := w.2 q
    exact s_X12_isSignOf_12 cx hY eq  (by omega) (by omega) w
theorem s_X12_isSignOf_0 {E : EnvT} {d : Nat} (cx : CX E "ShoreDayModel" cX12_isSignOf 1 (some .boolean) "isSignOf" (d + 1) 0 0) (hY : eY E = lay1) {Q : Int32 → Hp → Prop} (eq : EQ E 0 0 (fun r h2 => ∃ x, r = [vI x] ∧ Q x h2)) {a0 : Int32} {h : Hp} {c n : Nat} (hc : c + 0 ≤ 0) (hn : n + 0 ≤ 0) (w : w_X12_isSignOf_0  Q a0 h) : SW E 0 ([some (vI (a0))], [], h, c, n) := by
  refine k_X12_isSignOf_0 cx hY (fun q => ?_) (fun q => ?_)
  · have w := w.1 q
    exact s_X12_isSignOf_42 cx hY eq  (by omega) (by omega) w
  · have w := w.2 q
    exact s_X12_isSignOf_6 cx hY eq  (by omega) (by omega) w
def wp_X12_isSignOf (a0 : Int32) (h : Hp) (Q : Int32 → Hp → Prop) : Prop := w_X12_isSignOf_0 Q a0 h
theorem vc_X12_isSignOf {l : Launch} {d : Nat} {a0 : Int32} {h : Hp} {Q : Int32 → Hp → Prop} (w : wp_X12_isSignOf a0 h Q) : Ct l lay1 yX12_isSignOf cX12_isSignOf 1 (some .boolean) (d + 1) 0 0 [vI a0] h (fun r h2 => ∃ x, r = [vI x] ∧ Q x h2) := by
  exact Ct.of (by decide) (Nat.le_of_ble_eq_true rfl) fun E cx eq hl hY => s_X12_isSignOf_0 cx hY eq (Nat.le_refl _) (Nat.le_refl _) w
def w_X12_cutAll_279 (Q : Hp → Prop) (a1 : Int32) (a2 : Int32) (h : Hp) : Prop := vp_in (a1) 602 ∧ (vp_in (a1) 602 ∧ (Q (wI (wI (wI (wI (h) 104 (0) (tN (a1)) ((0 : Int32))) 105 (0) (tN (a1)) (gI (wI (h) 104 (0) (tN (a1)) ((0 : Int32))) 12 (0) (3))) 12 (0) 7 ((0 : Int32))) 12 (0) 8 ((0 : Int32)))))
def w_X12_cutAll_44 (K17 : Int32 → Int32 → Hp → Prop) (Q : Hp → Prop) (a1 : Int32) (a2 : Int32) (a3 : Int32) (h : Hp) : Prop := K17 (a1) (a2 + 1) (h)
def w_X12_cutAll_265 (K17 : Int32 → Int32 → Hp → Prop) (Q : Hp → Prop) (a1 : Int32) (a2 : Int32) (a3 : Int32) (a4 : Int32) (b5 : Int64) (h : Hp) : Prop := vp_in (a1) 602 ∧ (K17 (a1 + 1) (a2) (wL (h) 106 (0) (tN (a1)) (b5)))
def w_X12_cutAll_261 (K17 : Int32 → Int32 → Hp → Prop) (Q : Hp → Prop) (a1 : Int32) (a2 : Int32) (a3 : Int32) (a4 : Int32) (b5 : Int64) (s1 : Int32) (s2 : Int32) (h : Hp) : Prop := vp_in (s1) 602 ∧ (w_X12_cutAll_265 K17 Q (a1) (a2 + 1) (a3) (a4) (b5) (wI (h) 104 (0) (tN (s1)) (s2)))
def w_X12_cutAll_260 (K17 : Int32 → Int32 → Hp → Prop) (Q : Hp → Prop) (a1 : Int32) (a2 : Int32) (a3 : Int32) (a4 : Int32) (b5 : Int64) (s1 : Int32) (h : Hp) : Prop := w_X12_cutAll_261 K17 Q (a1) (a2) (a3) (a4) (b5) (s1) ((4 : Int32)) (h)
def w_X12_cutAll_256 (K17 : Int32 → Int32 → Hp → Prop) (Q : Hp → Prop) (a1 : Int32) (a2 : Int32) (a3 : Int32) (a4 : Int32) (b5 : Int64) (s1 : Int32) (h : Hp) : Prop := w_X12_cutAll_261 K17 Q (a1) (a2) (a3) (a4) (b5) (s1) ((3 : Int32)) (h)
def w_X12_cutAll_253 (K17 : Int32 → Int32 → Hp → Prop) (Q : Hp → Prop) (a1 : Int32) (a2 : Int32) (a3 : Int32) (a4 : Int32) (b5 : Int64) (s1 : Int32) (s2 : Int32) (h : Hp) : Prop := ((s2) = 0 → w_X12_cutAll_260 K17 Q (a1) (a2) (a3) (a4) (b5) (s1) (h)) ∧ (¬ (s2) = 0 → w_X12_cutAll_256 K17 Q (a1) (a2) (a3) (a4) (b5) (s1) (h))
def w_X12_cutAll_240 (K17 : Int32 → Int32 → Hp → Prop) (Q : Hp → Prop) (a1 : Int32) (a2 : Int32) (a3 : Int32) (a4 : Int32) (b5 : Int64) (h : Hp) : Prop := wp_X12_isSignOf (a3) (h) (fun r2 h2 => w_X12_cutAll_253 K17 Q (a1) (a2) (a3) (a4) ((a3).toInt64) (a1) (r2) (h2))
def w_X12_cutAll_236 (K17 : Int32 → Int32 → Hp → Prop) (Q : Hp → Prop) (a1 : Int32) (a2 : Int32) (a3 : Int32) (a4 : Int32) (b5 : Int64) (s1 : Int32) (s2 : Int32) (h : Hp) : Prop := vp_in (s1) 602 ∧ (w_X12_cutAll_265 K17 Q (a1) (a2) (a3) (a4) (b5) (wI (h) 104 (0) (tN (s1)) (s2)))
def w_X12_cutAll_235 (K17 : Int32 → Int32 → Hp → Prop) (Q : Hp → Prop) (a1 : Int32) (a2 : Int32) (a3 : Int32) (a4 : Int32) (b5 : Int64) (s1 : Int32) (h : Hp) : Prop := w_X12_cutAll_236 K17 Q (a1) (a2) (a3) (a4) (b5) (s1) ((2 : Int32)) (h)
def w_X12_cutAll_231 (K17 : Int32 → Int32 → Hp → Prop) (Q : Hp → Prop) (a1 : Int32) (a2 : Int32) (a3 : Int32) (a4 : Int32) (b5 : Int64) (s1 : Int32) (h : Hp) : Prop := w_X12_cutAll_236 K17 Q (a1) (a2) (a3) (a4) (b5) (s1) ((4 : Int32)) (h)
def w_X12_cutAll_218 (K17 : Int32 → Int32 → Hp → Prop) (Q : Hp → Prop) (a1 : Int32) (a2 : Int32) (a3 : Int32) (a4 : Int32) (b5 : Int64) (h : Hp) : Prop := (((a2) - (a4)) ≤ ((4 : Int32)) → w_X12_cutAll_235 K17 Q (a1) (a2) (a3) (a4) (b5) (a1) (h)) ∧ (¬ ((a2) - (a4)) ≤ ((4 : Int32)) → w_X12_cutAll_231 K17 Q (a1) (a2) (a3) (a4) (b5) (a1) (h))
def w_X12_cutAll_210 (K17 : Int32 → Int32 → Hp → Prop) (K159 : Int32 → Int32 → Int32 → Int32 → Int64 → Hp → Prop) (Q : Hp → Prop) (a1 : Int32) (a2 : Int32) (a3 : Int32) (a4 : Int32) (b5 : Int64) (t0 : Int64) (h : Hp) : Prop := K159 (a1) (a2 + 1) (a3) (a4) (t0) (h)
def w_X12_cutAll_208 (K17 : Int32 → Int32 → Hp → Prop) (K159 : Int32 → Int32 → Int32 → Int32 → Int64 → Hp → Prop) (Q : Hp → Prop) (a1 : Int32) (a2 : Int32) (a3 : Int32) (a4 : Int32) (b5 : Int64) (h : Hp) : Prop := w_X12_cutAll_210 K17 K159 Q (a1) (a2) (a3) (a4) (b5) (b5) (h)
def w_X12_cutAll_187 (K17 : Int32 → Int32 → Hp → Prop) (K159 : Int32 → Int32 → Int32 → Int32 → Int64 → Hp → Prop) (Q : Hp → Prop) (a1 : Int32) (a2 : Int32) (a3 : Int32) (a4 : Int32) (b5 : Int64) (h : Hp) : Prop := vp_in (a2) 600 ∧ (w_X12_cutAll_210 K17 K159 Q (a1) (a2) (a3) (a4) (b5) (((((10 : Int64)) * (b5)) + ((gI (h) 101 (0) (tN (a2))).toInt64)) - ((48 : Int64))) (h))
def w_X12_cutAll_179 (K17 : Int32 → Int32 → Hp → Prop) (K159 : Int32 → Int32 → Int32 → Int32 → Int64 → Hp → Prop) (Q : Hp → Prop) (a1 : Int32) (a2 : Int32) (a3 : Int32) (a4 : Int32) (b5 : Int64) (h : Hp) : Prop := (((4 : Int32)) ≤ ((a2) - (a4)) → w_X12_cutAll_208 K17 K159 Q (a1) (a2) (a3) (a4) (b5) (h)) ∧ (¬ ((4 : Int32)) ≤ ((a2) - (a4)) → w_X12_cutAll_187 K17 K159 Q (a1) (a2) (a3) (a4) (b5) (h))
def w_X12_cutAll_176 (K17 : Int32 → Int32 → Hp → Prop) (K159 : Int32 → Int32 → Int32 → Int32 → Int64 → Hp → Prop) (Q : Hp → Prop) (a1 : Int32) (a2 : Int32) (a3 : Int32) (a4 : Int32) (b5 : Int64) (s0 : Int32) (h : Hp) : Prop := ((s0) = 0 → w_X12_cutAll_218 K17 Q (a1) (a2) (a3) (a4) (b5) (h)) ∧ (¬ (s0) = 0 → w_X12_cutAll_179 K17 K159 Q (a1) (a2) (a3) (a4) (b5) (h))
def w_X12_cutAll_167 (K17 : Int32 → Int32 → Hp → Prop) (K159 : Int32 → Int32 → Int32 → Int32 → Int64 → Hp → Prop) (Q : Hp → Prop) (a1 : Int32) (a2 : Int32) (a3 : Int32) (a4 : Int32) (b5 : Int64) (h : Hp) : Prop := vp_in (a2) 600 ∧ (wp_X12_isDigit (gI (h) 101 (0) (tN (a2))) (h) (fun r2 h2 => w_X12_cutAll_176 K17 K159 Q (a1) (a2) (a3) (a4) (b5) (r2) (h2)))
def w_X12_cutAll_159 (K17 : Int32 → Int32 → Hp → Prop) (Q : Hp → Prop) : Nat → Int32 → Int32 → Int32 → Int32 → Int64 → Hp → Prop
  | 0 => fun _ _ _ _ _ _ => False
  | N + 1 => fun a1 a2 a3 a4 b5 h => ((gI (h) 12 (0) (3)) ≤ (a2) → w_X12_cutAll_218 K17 Q (a1) (a2) (a3) (a4) (b5) (h)) ∧ (¬ (gI (h) 12 (0) (3)) ≤ (a2) → w_X12_cutAll_167 K17 (w_X12_cutAll_159 K17 Q N) Q (a1) (a2) (a3) (a4) (b5) (h))
def w_X12_cutAll_156 (K17 : Int32 → Int32 → Hp → Prop) (Q : Hp → Prop) (a1 : Int32) (a2 : Int32) (a3 : Int32) (a4 : Int32) (b5 : Int64) (s0 : Int32) (h : Hp) : Prop := ((s0) = 0 → w_X12_cutAll_240 K17 Q (a1) (a2) (a3) (a4) (b5) (h)) ∧ (¬ (s0) = 0 → ∃ N, w_X12_cutAll_159 K17 Q N (a1) (a2) (a3) (a4) (b5) (h))
def w_X12_cutAll_152 (K17 : Int32 → Int32 → Hp → Prop) (Q : Hp → Prop) (a1 : Int32) (a2 : Int32) (a3 : Int32) (a4 : Int32) (b5 : Int64) (h : Hp) : Prop := wp_X12_isDigit (a3) (h) (fun r2 h2 => w_X12_cutAll_156 K17 Q (a1) (a2) (a3) (a4) (b5) (r2) (h2))
def w_X12_cutAll_148 (K17 : Int32 → Int32 → Hp → Prop) (Q : Hp → Prop) (a1 : Int32) (a2 : Int32) (a3 : Int32) (a4 : Int32) (b5 : Int64) (s1 : Int32) (s2 : Int32) (h : Hp) : Prop := vp_in (s1) 602 ∧ (w_X12_cutAll_265 K17 Q (a1) (a2) (a3) (a4) (b5) (wI (h) 104 (0) (tN (s1)) (s2)))
def w_X12_cutAll_147 (K17 : Int32 → Int32 → Hp → Prop) (Q : Hp → Prop) (a1 : Int32) (a2 : Int32) (a3 : Int32) (a4 : Int32) (b5 : Int64) (s1 : Int32) (h : Hp) : Prop := w_X12_cutAll_148 K17 Q (a1) (a2) (a3) (a4) (b5) (s1) ((1 : Int32)) (h)
def w_X12_cutAll_143 (K17 : Int32 → Int32 → Hp → Prop) (Q : Hp → Prop) (a1 : Int32) (a2 : Int32) (a3 : Int32) (a4 : Int32) (b5 : Int64) (s1 : Int32) (h : Hp) : Prop := w_X12_cutAll_148 K17 Q (a1) (a2) (a3) (a4) (b5) (s1) ((4 : Int32)) (h)
def w_X12_cutAll_129 (K17 : Int32 → Int32 → Hp → Prop) (Q : Hp → Prop) (a1 : Int32) (a2 : Int32) (a3 : Int32) (a4 : Int32) (b5 : Int64) (h : Hp) : Prop := (((a2) - (a4)) ≤ ((8 : Int32)) → w_X12_cutAll_147 K17 Q (a1) (a2) (a3) (a4) (b5) (a1) (h)) ∧ (¬ ((a2) - (a4)) ≤ ((8 : Int32)) → w_X12_cutAll_143 K17 Q (a1) (a2) (a3) (a4) (b5) (a1) (h))
def w_X12_cutAll_121 (K17 : Int32 → Int32 → Hp → Prop) (K70 : Int32 → Int32 → Int32 → Int32 → Int64 → Hp → Prop) (Q : Hp → Prop) (a1 : Int32) (a2 : Int32) (a3 : Int32) (a4 : Int32) (b5 : Int64) (t0 : Int64) (h : Hp) : Prop := K70 (a1) (a2 + 1) (a3) (a4) (t0) (h)
def w_X12_cutAll_119 (K17 : Int32 → Int32 → Hp → Prop) (K70 : Int32 → Int32 → Int32 → Int32 → Int64 → Hp → Prop) (Q : Hp → Prop) (a1 : Int32) (a2 : Int32) (a3 : Int32) (a4 : Int32) (b5 : Int64) (h : Hp) : Prop := w_X12_cutAll_121 K17 K70 Q (a1) (a2) (a3) (a4) (b5) (b5) (h)
def w_X12_cutAll_114 (K17 : Int32 → Int32 → Hp → Prop) (K70 : Int32 → Int32 → Int32 → Int32 → Int64 → Hp → Prop) (Q : Hp → Prop) (a1 : Int32) (a2 : Int32) (a3 : Int32) (a4 : Int32) (b5 : Int64) (t0 : Int64) (s1 : Int32) (h : Hp) : Prop := w_X12_cutAll_121 K17 K70 Q (a1) (a2) (a3) (a4) (b5) ((t0) + ((s1).toInt64)) (h)
def w_X12_cutAll_99 (K17 : Int32 → Int32 → Hp → Prop) (K70 : Int32 → Int32 → Int32 → Int32 → Int64 → Hp → Prop) (Q : Hp → Prop) (a1 : Int32) (a2 : Int32) (a3 : Int32) (a4 : Int32) (b5 : Int64) (h : Hp) : Prop := vp_in (a2) 600 ∧ (wp_X12_rank (gI (h) 101 (0) (tN (a2))) (h) (fun r2 h2 => w_X12_cutAll_114 K17 K70 Q (a1) (a2) (a3) (a4) (b5) (((37 : Int64)) * (b5)) (r2) (h2)))
def w_X12_cutAll_90 (K17 : Int32 → Int32 → Hp → Prop) (K70 : Int32 → Int32 → Int32 → Int32 → Int64 → Hp → Prop) (Q : Hp → Prop) (a1 : Int32) (a2 : Int32) (a3 : Int32) (a4 : Int32) (b5 : Int64) (h : Hp) : Prop := (((8 : Int32)) ≤ ((a2) - (a4)) → w_X12_cutAll_119 K17 K70 Q (a1) (a2) (a3) (a4) (b5) (h)) ∧ (¬ ((8 : Int32)) ≤ ((a2) - (a4)) → w_X12_cutAll_99 K17 K70 Q (a1) (a2) (a3) (a4) (b5) (h))
def w_X12_cutAll_87 (K17 : Int32 → Int32 → Hp → Prop) (K70 : Int32 → Int32 → Int32 → Int32 → Int64 → Hp → Prop) (Q : Hp → Prop) (a1 : Int32) (a2 : Int32) (a3 : Int32) (a4 : Int32) (b5 : Int64) (s0 : Int32) (h : Hp) : Prop := ((s0) = 0 → w_X12_cutAll_129 K17 Q (a1) (a2) (a3) (a4) (b5) (h)) ∧ (¬ (s0) = 0 → w_X12_cutAll_90 K17 K70 Q (a1) (a2) (a3) (a4) (b5) (h))
def w_X12_cutAll_78 (K17 : Int32 → Int32 → Hp → Prop) (K70 : Int32 → Int32 → Int32 → Int32 → Int64 → Hp → Prop) (Q : Hp → Prop) (a1 : Int32) (a2 : Int32) (a3 : Int32) (a4 : Int32) (b5 : Int64) (h : Hp) : Prop := vp_in (a2) 600 ∧ (wp_X12_isLetter (gI (h) 101 (0) (tN (a2))) (h) (fun r2 h2 => w_X12_cutAll_87 K17 K70 Q (a1) (a2) (a3) (a4) (b5) (r2) (h2)))
def w_X12_cutAll_70 (K17 : Int32 → Int32 → Hp → Prop) (Q : Hp → Prop) : Nat → Int32 → Int32 → Int32 → Int32 → Int64 → Hp → Prop
  | 0 => fun _ _ _ _ _ _ => False
  | N + 1 => fun a1 a2 a3 a4 b5 h => ((gI (h) 12 (0) (3)) ≤ (a2) → w_X12_cutAll_129 K17 Q (a1) (a2) (a3) (a4) (b5) (h)) ∧ (¬ (gI (h) 12 (0) (3)) ≤ (a2) → w_X12_cutAll_78 K17 (w_X12_cutAll_70 K17 Q N) Q (a1) (a2) (a3) (a4) (b5) (h))
def w_X12_cutAll_67 (K17 : Int32 → Int32 → Hp → Prop) (Q : Hp → Prop) (a1 : Int32) (a2 : Int32) (a3 : Int32) (a4 : Int32) (b5 : Int64) (s0 : Int32) (h : Hp) : Prop := ((s0) = 0 → w_X12_cutAll_152 K17 Q (a1) (a2) (a3) (a4) (b5) (h)) ∧ (¬ (s0) = 0 → ∃ N, w_X12_cutAll_70 K17 Q N (a1) (a2) (a3) (a4) (b5) (h))
def w_X12_cutAll_50 (K17 : Int32 → Int32 → Hp → Prop) (Q : Hp → Prop) (a1 : Int32) (a2 : Int32) (a3 : Int32) (h : Hp) : Prop := vp_in (a1) 602 ∧ (wp_X12_isLetter (a3) (wI (h) 105 (0) (tN (a1)) (a2)) (fun r2 h2 => w_X12_cutAll_67 K17 Q (a1) (a2) (a3) (a2) ((0 : Int64)) (r2) (h2)))
def w_X12_cutAll_38 (K17 : Int32 → Int32 → Hp → Prop) (Q : Hp → Prop) (a1 : Int32) (a2 : Int32) (a3 : Int32) (h : Hp) : Prop := (¬ (a3) = ((32 : Int32)) → w_X12_cutAll_50 K17 Q (a1) (a2) (a3) (h)) ∧ ((a3) = ((32 : Int32)) → w_X12_cutAll_44 K17 Q (a1) (a2) (a3) (h))
def w_X12_cutAll_25 (K17 : Int32 → Int32 → Hp → Prop) (Q : Hp → Prop) (a1 : Int32) (a2 : Int32) (h : Hp) : Prop := vp_in (a2) 600 ∧ (((gI (h) 101 (0) (tN (a2))) = ((10 : Int32)) → w_X12_cutAll_44 K17 Q (a1) (a2) (gI (h) 101 (0) (tN (a2))) (h)) ∧ (¬ (gI (h) 101 (0) (tN (a2))) = ((10 : Int32)) → w_X12_cutAll_38 K17 Q (a1) (a2) (gI (h) 101 (0) (tN (a2))) (h)))
def w_X12_cutAll_17 (Q : Hp → Prop) : Nat → Int32 → Int32 → Hp → Prop
  | 0 => fun _ _ _ => False
  | N + 1 => fun a1 a2 h => ((gI (h) 12 (0) (3)) ≤ (a2) → w_X12_cutAll_279  Q (a1) (a2) (h)) ∧ (¬ (gI (h) 12 (0) (3)) ≤ (a2) → w_X12_cutAll_25 (w_X12_cutAll_17  Q N) Q (a1) (a2) (h))
def w_X12_cutAll_0 (Q : Hp → Prop) (h : Hp) : Prop := ∃ N, w_X12_cutAll_17  Q N ((0 : Int32)) ((0 : Int32)) (wI (wI (h) 12 (0) 3 (gI (h) 12 (0) (2))) 12 (0) 2 ((0 : Int32)))
theorem s_X12_cutAll_279 {E : EnvT} {d : Nat} (cx : CX E "ShoreDayModel" cX12_cutAll 7 none "cutAll" (d + 3) 0 0) (hY : eY E = lay1) {Q : Hp → Prop} (eq : EQ E 0 0 (fun r h2 => r = [] ∧ Q h2)) {a1 : Int32} {a2 : Int32} {x3 : Option AVal} {x4 : Option AVal} {x5 : Option AVal} {x6 : Option AVal} {h : Hp} {c n : Nat} (hc : c + 0 ≤ 0) (hn : n + 0 ≤ 0) (w : w_X12_cutAll_279  Q a1 a2 h) : SW E 279 ([some (vP (some (12, 0))), some (vI (a1)), some (vI (a2)), x3, x4, x5, x6], [], h, c, n) := by
  obtain ⟨G1, G2, w⟩ := w
  exact k_X12_cutAll_279 cx hY G1 G2 eq (by omega) (by omega) ⟨rfl, w⟩
theorem s_X12_cutAll_44 {E : EnvT} {d : Nat} (cx : CX E "ShoreDayModel" cX12_cutAll 7 none "cutAll" (d + 3) 0 0) (hY : eY E = lay1) {Q : Hp → Prop} (eq : EQ E 0 0 (fun r h2 => r = [] ∧ Q h2)) {K17 : Int32 → Int32 → Hp → Prop} (hK17 : ∀ (a1 : Int32) (a2 : Int32) (x3 : Option AVal) (x4 : Option AVal) (x5 : Option AVal) (x6 : Option AVal) (h : Hp) (c n : Nat), c + 0 ≤ 0 → n + 0 ≤ 0 → K17 a1 a2 h → SW E 17 ([some (vP (some (12, 0))), some (vI (a1)), some (vI (a2)), x3, x4, x5, x6], [], h, c, n)) {a1 : Int32} {a2 : Int32} {a3 : Int32} {x4 : Option AVal} {x5 : Option AVal} {x6 : Option AVal} {h : Hp} {c n : Nat} (hc : c + 0 ≤ 0) (hn : n + 0 ≤ 0) (w : w_X12_cutAll_44 K17 Q a1 a2 a3 h) : SW E 44 ([some (vP (some (12, 0))), some (vI (a1)), some (vI (a2)), some (vI (a3)), x4, x5, x6], [], h, c, n) := by
  refine k_X12_cutAll_44 cx hY ?_
  exact hK17 _ _ _ _ _ _ _ _ _ (by omega) (by omega) w
theorem s_X12_cutAll_265 {E : EnvT} {d : Nat} (cx : CX E "ShoreDayModel" cX12_cutAll 7 none "cutAll" (d + 3) 0 0) (hY : eY E = lay1) {Q : Hp → Prop} (eq : EQ E 0 0 (fun r h2 => r = [] ∧ Q h2)) {K17 : Int32 → Int32 → Hp → Prop} (hK17 : ∀ (a1 : Int32) (a2 : Int32) (x3 : Option AVal) (x4 : Option AVal) (x5 : Option AVal) (x6 : Option AVal) (h : Hp) (c n : Nat), c + 0 ≤ 0 → n + 0 ≤ 0 → K17 a1 a2 h → SW E 17 ([some (vP (some (12, 0))), some (vI (a1)), some (vI (a2)), x3, x4, x5, x6], [], h, c, n)) {a1 : Int32} {a2 : Int32} {a3 : Int32} {a4 : Int32} {b5 : Int64} {x6 : Option AVal} {h : Hp} {c n : Nat} (hc : c + 0 ≤ 0) (hn : n + 0 ≤ 0) (w : w_X12_cutAll_265 K17 Q a1 a2 a3 a4 b5 h) : SW E 265 ([some (vP (some (12, 0))), some (vI (a1)), some (vI (a2)), some (vI (a3)), some (vI (a4)), some (vL (b5)), x6], [], h, c, n) := by
  obtain ⟨G1, w⟩ := w
  refine k_X12_cutAll_265 cx hY G1 ?_
  exact hK17 _ _ _ _ _ _ _ _ _ (by omega) (by omega) w
theorem s_X12_cutAll_261 {E : EnvT} {d : Nat} (cx : CX E "ShoreDayModel" cX12_cutAll 7 none "cutAll" (d + 3) 0 0) (hY : eY E = lay1) {Q : Hp → Prop} (eq : EQ E 0 0 (fun r h2 => r = [] ∧ Q h2)) {K17 : Int32 → Int32 → Hp → Prop} (hK17 : ∀ (a1 : Int32) (a2 : Int32) (x3 : Option AVal) (x4 : Option AVal) (x5 : Option AVal) (x6 : Option AVal) (h : Hp) (c n : Nat), c + 0 ≤ 0 → n + 0 ≤ 0 → K17 a1 a2 h → SW E 17 ([some (vP (some (12, 0))), some (vI (a1)), some (vI (a2)), x3, x4, x5, x6], [], h, c, n)) {a1 : Int32} {a2 : Int32} {a3 : Int32} {a4 : Int32} {b5 : Int64} {x6 : Option AVal} {s1 : Int32} {s2 : Int32} {h : Hp} {c n : Nat} (hc : c + 0 ≤ 0) (hn : n + 0 ≤ 0) (w : w_X12_cutAll_261 K17 Q a1 a2 a3 a4 b5 s1 s2 h) : SW E 261 ([some (vP (some (12, 0))), some (vI (a1)), some (vI (a2)), some (vI (a3)), some (vI (a4)), some (vL (b5)), x6], [vI (s2), vI (s1), vP (some (104, 0))], h, c, n) := by
  obtain ⟨G1, w⟩ := w
  refine k_X12_cutAll_261 cx hY G1 ?_
  exact s_X12_cutAll_265 cx hY eq hK17 (by omega) (by omega) w
theorem s_X12_cutAll_260 {E : EnvT} {d : Nat} (cx : CX E "ShoreDayModel" cX12_cutAll 7 none "cutAll" (d + 3) 0 0) (hY : eY E = lay1) {Q : Hp → Prop} (eq : EQ E 0 0 (fun r h2 => r = [] ∧ Q h2)) {K17 : Int32 → Int32 → Hp → Prop} (hK17 : ∀ (a1 : Int32) (a2 : Int32) (x3 : Option AVal) (x4 : Option AVal) (x5 : Option AVal) (x6 : Option AVal) (h : Hp) (c n : Nat), c + 0 ≤ 0 → n + 0 ≤ 0 → K17 a1 a2 h → SW E 17 ([some (vP (some (12, 0))), some (vI (a1)), some (vI (a2)), x3, x4, x5, x6], [], h, c, n)) {a1 : Int32} {a2 : Int32} {a3 : Int32} {a4 : Int32} {b5 : Int64} {x6 : Option AVal} {s1 : Int32} {h : Hp} {c n : Nat} (hc : c + 0 ≤ 0) (hn : n + 0 ≤ 0) (w : w_X12_cutAll_260 K17 Q a1 a2 a3 a4 b5 s1 h) : SW E 260 ([some (vP (some (12, 0))), some (vI (a1)), some (vI (a2)), some (vI (a3)), some (vI (a4)), some (vL (b5)), x6], [vI (s1), vP (some (104, 0))], h, c, n) := by
  refine k_X12_cutAll_260 cx hY ?_
  exact s_X12_cutAll_261 cx hY eq hK17 (by omega) (by omega) w
theorem s_X12_cutAll_256 {E : EnvT} {d : Nat} (cx : CX E "ShoreDayModel" cX12_cutAll 7 none "cutAll" (d + 3) 0 0) (hY : eY E = lay1) {Q : Hp → Prop} (eq : EQ E 0 0 (fun r h2 => r = [] ∧ Q h2)) {K17 : Int32 → Int32 → Hp → Prop} (hK17 : ∀ (a1 : Int32) (a2 : Int32) (x3 : Option AVal) (x4 : Option AVal) (x5 : Option AVal) (x6 : Option AVal) (h : Hp) (c n : Nat), c + 0 ≤ 0 → n + 0 ≤ 0 → K17 a1 a2 h → SW E 17 ([some (vP (some (12, 0))), some (vI (a1)), some (vI (a2)), x3, x4, x5, x6], [], h, c, n)) {a1 : Int32} {a2 : Int32} {a3 : Int32} {a4 : Int32} {b5 : Int64} {x6 : Option AVal} {s1 : Int32} {h : Hp} {c n : Nat} (hc : c + 0 ≤ 0) (hn : n + 0 ≤ 0) (w : w_X12_cutAll_256 K17 Q a1 a2 a3 a4 b5 s1 h) : SW E 256 ([some (vP (some (12, 0))), some (vI (a1)), some (vI (a2)), some (vI (a3)), some (vI (a4)), some (vL (b5)), x6], [vI (s1), vP (some (104, 0))], h, c, n) := by
  refine k_X12_cutAll_256 cx hY ?_
  exact s_X12_cutAll_261 cx hY eq hK17 (by omega) (by omega) w
theorem s_X12_cutAll_253 {E : EnvT} {d : Nat} (cx : CX E "ShoreDayModel" cX12_cutAll 7 none "cutAll" (d + 3) 0 0) (hY : eY E = lay1) {Q : Hp → Prop} (eq : EQ E 0 0 (fun r h2 => r = [] ∧ Q h2)) {K17 : Int32 → Int32 → Hp → Prop} (hK17 : ∀ (a1 : Int32) (a2 : Int32) (x3 : Option AVal) (x4 : Option AVal) (x5 : Option AVal) (x6 : Option AVal) (h : Hp) (c n : Nat), c + 0 ≤ 0 → n + 0 ≤ 0 → K17 a1 a2 h → SW E 17 ([some (vP (some (12, 0))), some (vI (a1)), some (vI (a2)), x3, x4, x5, x6], [], h, c, n)) {a1 : Int32} {a2 : Int32} {a3 : Int32} {a4 : Int32} {b5 : Int64} {x6 : Option AVal} {s1 : Int32} {s2 : Int32} {h : Hp} {c n : Nat} (hc : c + 0 ≤ 0) (hn : n + 0 ≤ 0) (w : w_X12_cutAll_253 K17 Q a1 a2 a3 a4 b5 s1 s2 h) : SW E 253 ([some (vP (some (12, 0))), some (vI (a1)), some (vI (a2)), some (vI (a3)), some (vI (a4)), some (vL (b5)), x6], [vI (s2), vI (s1), vP (some (104, 0))], h, c, n) := by
  refine k_X12_cutAll_253 cx hY (fun q => ?_) (fun q => ?_)
  · have w := w.1 q
    exact s_X12_cutAll_260 cx hY eq hK17 (by omega) (by omega) w
  · have w := w.2 q
    exact s_X12_cutAll_256 cx hY eq hK17 (by omega) (by omega) w
theorem s_X12_cutAll_240 {E : EnvT} {d : Nat} (cx : CX E "ShoreDayModel" cX12_cutAll 7 none "cutAll" (d + 3) 0 0) (hY : eY E = lay1) {Q : Hp → Prop} (eq : EQ E 0 0 (fun r h2 => r = [] ∧ Q h2)) {K17 : Int32 → Int32 → Hp → Prop} (hK17 : ∀ (a1 : Int32) (a2 : Int32) (x3 : Option AVal) (x4 : Option AVal) (x5 : Option AVal) (x6 : Option AVal) (h : Hp) (c n : Nat), c + 0 ≤ 0 → n + 0 ≤ 0 → K17 a1 a2 h → SW E 17 ([some (vP (some (12, 0))), some (vI (a1)), some (vI (a2)), x3, x4, x5, x6], [], h, c, n)) {a1 : Int32} {a2 : Int32} {a3 : Int32} {a4 : Int32} {b5 : Int64} {x6 : Option AVal} {h : Hp} {c n : Nat} (hc : c + 0 ≤ 0) (hn : n + 0 ≤ 0) (w : w_X12_cutAll_240 K17 Q a1 a2 a3 a4 b5 h) : SW E 240 ([some (vP (some (12, 0))), some (vI (a1)), some (vI (a2)), some (vI (a3)), some (vI (a4)), some (vL (b5)), x6], [], h, c, n) := by
  refine k_X12_cutAll_240 cx hY (ctY hY (vc_X12_isSignOf (d := d + 1) w)) (by omega) (by omega) (by omega) (fun r h2 hp => ?_)
  obtain ⟨r2, rfl, w⟩ := hp
  exact s_X12_cutAll_253 cx hY eq hK17 (by omega) (by omega) w
theorem s_X12_cutAll_236 {E : EnvT} {d : Nat} (cx : CX E "ShoreDayModel" cX12_cutAll 7 none "cutAll" (d + 3) 0 0) (hY : eY E = lay1) {Q : Hp → Prop} (eq : EQ E 0 0 (fun r h2 => r = [] ∧ Q h2)) {K17 : Int32 → Int32 → Hp → Prop} (hK17 : ∀ (a1 : Int32) (a2 : Int32) (x3 : Option AVal) (x4 : Option AVal) (x5 : Option AVal) (x6 : Option AVal) (h : Hp) (c n : Nat), c + 0 ≤ 0 → n + 0 ≤ 0 → K17 a1 a2 h → SW E 17 ([some (vP (some (12, 0))), some (vI (a1)), some (vI (a2)), x3, x4, x5, x6], [], h, c, n)) {a1 : Int32} {a2 : Int32} {a3 : Int32} {a4 : Int32} {b5 : Int64} {x6 : Option AVal} {s1 : Int32} {s2 : Int32} {h : Hp} {c n : Nat} (hc : c + 0 ≤ 0) (hn : n + 0 ≤ 0) (w : w_X12_cutAll_236 K17 Q a1 a2 a3 a4 b5 s1 s2 h) : SW E 236 ([some (vP (some (12, 0))), some (vI (a1)), some (vI (a2)), some (vI (a3)), some (vI (a4)), some (vL (b5)), x6], [vI (s2), vI (s1), vP (some (104, 0))], h, c, n) := by
  obtain ⟨G1, w⟩ := w
  refine k_X12_cutAll_236 cx hY G1 ?_
  exact s_X12_cutAll_265 cx hY eq hK17 (by omega) (by omega) w
theorem s_X12_cutAll_235 {E : EnvT} {d : Nat} (cx : CX E "ShoreDayModel" cX12_cutAll 7 none "cutAll" (d + 3) 0 0) (hY : eY E = lay1) {Q : Hp → Prop} (eq : EQ E 0 0 (fun r h2 => r = [] ∧ Q h2)) {K17 : Int32 → Int32 → Hp → Prop} (hK17 : ∀ (a1 : Int32) (a2 : Int32) (x3 : Option AVal) (x4 : Option AVal) (x5 : Option AVal) (x6 : Option AVal) (h : Hp) (c n : Nat), c + 0 ≤ 0 → n + 0 ≤ 0 → K17 a1 a2 h → SW E 17 ([some (vP (some (12, 0))), some (vI (a1)), some (vI (a2)), x3, x4, x5, x6], [], h, c, n)) {a1 : Int32} {a2 : Int32} {a3 : Int32} {a4 : Int32} {b5 : Int64} {x6 : Option AVal} {s1 : Int32} {h : Hp} {c n : Nat} (hc : c + 0 ≤ 0) (hn : n + 0 ≤ 0) (w : w_X12_cutAll_235 K17 Q a1 a2 a3 a4 b5 s1 h) : SW E 235 ([some (vP (some (12, 0))), some (vI (a1)), some (vI (a2)), some (vI (a3)), some (vI (a4)), some (vL (b5)), x6], [vI (s1), vP (some (104, 0))], h, c, n) := by
  refine k_X12_cutAll_235 cx hY ?_
  exact s_X12_cutAll_236 cx hY eq hK17 (by omega) (by omega) w
theorem s_X12_cutAll_231 {E : EnvT} {d : Nat} (cx : CX E "ShoreDayModel" cX12_cutAll 7 none "cutAll" (d + 3) 0 0) (hY : eY E = lay1) {Q : Hp → Prop} (eq : EQ E 0 0 (fun r h2 => r = [] ∧ Q h2)) {K17 : Int32 → Int32 → Hp → Prop} (hK17 : ∀ (a1 : Int32) (a2 : Int32) (x3 : Option AVal) (x4 : Option AVal) (x5 : Option AVal) (x6 : Option AVal) (h : Hp) (c n : Nat), c + 0 ≤ 0 → n + 0 ≤ 0 → K17 a1 a2 h → SW E 17 ([some (vP (some (12, 0))), some (vI (a1)), some (vI (a2)), x3, x4, x5, x6], [], h, c, n)) {a1 : Int32} {a2 : Int32} {a3 : Int32} {a4 : Int32} {b5 : Int64} {x6 : Option AVal} {s1 : Int32} {h : Hp} {c n : Nat} (hc : c + 0 ≤ 0) (hn : n + 0 ≤ 0) (w : w_X12_cutAll_231 K17 Q a1 a2 a3 a4 b5 s1 h) : SW E 231 ([some (vP (some (12, 0))), some (vI (a1)), some (vI (a2)), some (vI (a3)), some (vI (a4)), some (vL (b5)), x6], [vI (s1), vP (some (104, 0))], h, c, n) := by
  refine k_X12_cutAll_231 cx hY ?_
  exact s_X12_cutAll_236 cx hY eq hK17 (by omega) (by omega) w
theorem s_X12_cutAll_218 {E : EnvT} {d : Nat} (cx : CX E "ShoreDayModel" cX12_cutAll 7 none "cutAll" (d + 3) 0 0) (hY : eY E = lay1) {Q : Hp → Prop} (eq : EQ E 0 0 (fun r h2 => r = [] ∧ Q h2)) {K17 : Int32 → Int32 → Hp → Prop} (hK17 : ∀ (a1 : Int32) (a2 : Int32) (x3 : Option AVal) (x4 : Option AVal) (x5 : Option AVal) (x6 : Option AVal) (h : Hp) (c n : Nat), c + 0 ≤ 0 → n + 0 ≤ 0 → K17 a1 a2 h → SW E 17 ([some (vP (some (12, 0))), some (vI (a1)), some (vI (a2)), x3, x4, x5, x6], [], h, c, n)) {a1 : Int32} {a2 : Int32} {a3 : Int32} {a4 : Int32} {b5 : Int64} {x6 : Option AVal} {h : Hp} {c n : Nat} (hc : c + 0 ≤ 0) (hn : n + 0 ≤ 0) (w : w_X12_cutAll_218 K17 Q a1 a2 a3 a4 b5 h) : SW E 218 ([some (vP (some (12, 0))), some (vI (a1)), some (vI (a2)), some (vI (a3)), some (vI (a4)), some (vL (b5)), x6], [], h, c, n) := by
  refine k_X12_cutAll_218 cx hY (fun q => ?_) (fun q => ?_)
  · have w := w.1 q
    exact s_X12_cutAll_235 cx hY eq hK17 (by omega) (by omega) w
  · have w := w.2 q
    exact s_X12_cutAll_231 cx hY eq hK17 (by omega) (by omega) w
theorem s_X12_cutAll_210 {E : EnvT} {d : Nat} (cx : CX E "ShoreDayModel" cX12_cutAll 7 none "cutAll" (d + 3) 0 0) (hY : eY E = lay1) {Q : Hp → Prop} (eq : EQ E 0 0 (fun r h2 => r = [] ∧ Q h2)) {K17 : Int32 → Int32 → Hp → Prop} (hK17 : ∀ (a1 : Int32) (a2 : Int32) (x3 : Option AVal) (x4 : Option AVal) (x5 : Option AVal) (x6 : Option AVal) (h : Hp) (c n : Nat), c + 0 ≤ 0 → n + 0 ≤ 0 → K17 a1 a2 h → SW E 17 ([some (vP (some (12, 0))), some (vI (a1)), some (vI (a2)), x3, x4, x5, x6], [], h, c, n)) {K159 : Int32 → Int32 → Int32 → Int32 → Int64 → Hp → Prop} (hK159 : ∀ (a1 : Int32) (a2 : Int32) (a3 : Int32) (a4 : Int32) (b5 : Int64) (x6 : Option AVal) (h : Hp) (c n : Nat), c + 0 ≤ 0 → n + 0 ≤ 0 → K159 a1 a2 a3 a4 b5 h → SW E 159 ([some (vP (some (12, 0))), some (vI (a1)), some (vI (a2)), some (vI (a3)), some (vI (a4)), some (vL (b5)), x6], [], h, c, n)) {a1 : Int32} {a2 : Int32} {a3 : Int32} {a4 : Int32} {b5 : Int64} {x6 : Option AVal} {t0 : Int64} {h : Hp} {c n : Nat} (hc : c + 0 ≤ 0) (hn : n + 0 ≤ 0) (w : w_X12_cutAll_210 K17 K159 Q a1 a2 a3 a4 b5 t0 h) : SW E 210 ([some (vP (some (12, 0))), some (vI (a1)), some (vI (a2)), some (vI (a3)), some (vI (a4)), some (vL (b5)), x6], [vL (t0)], h, c, n) := by
  refine k_X12_cutAll_210 cx hY ?_
  exact hK159 _ _ _ _ _ _ _ _ _ (by omega) (by omega) w
theorem s_X12_cutAll_208 {E : EnvT} {d : Nat} (cx : CX E "ShoreDayModel" cX12_cutAll 7 none "cutAll" (d + 3) 0 0) (hY : eY E = lay1) {Q : Hp → Prop} (eq : EQ E 0 0 (fun r h2 => r = [] ∧ Q h2)) {K17 : Int32 → Int32 → Hp → Prop} (hK17 : ∀ (a1 : Int32) (a2 : Int32) (x3 : Option AVal) (x4 : Option AVal) (x5 : Option AVal) (x6 : Option AVal) (h : Hp) (c n : Nat), c + 0 ≤ 0 → n + 0 ≤ 0 → K17 a1 a2 h → SW E 17 ([some (vP (some (12, 0))), some (vI (a1)), some (vI (a2)), x3, x4, x5, x6], [], h, c, n)) {K159 : Int32 → Int32 → Int32 → Int32 → Int64 → Hp → Prop} (hK159 : ∀ (a1 : Int32) (a2 : Int32) (a3 : Int32) (a4 : Int32) (b5 : Int64) (x6 : Option AVal) (h : Hp) (c n : Nat), c + 0 ≤ 0 → n + 0 ≤ 0 → K159 a1 a2 a3 a4 b5 h → SW E 159 ([some (vP (some (12, 0))), some (vI (a1)), some (vI (a2)), some (vI (a3)), some (vI (a4)), some (vL (b5)), x6], [], h, c, n)) {a1 : Int32} {a2 : Int32} {a3 : Int32} {a4 : Int32} {b5 : Int64} {x6 : Option AVal} {h : Hp} {c n : Nat} (hc : c + 0 ≤ 0) (hn : n + 0 ≤ 0) (w : w_X12_cutAll_208 K17 K159 Q a1 a2 a3 a4 b5 h) : SW E 208 ([some (vP (some (12, 0))), some (vI (a1)), some (vI (a2)), some (vI (a3)), some (vI (a4)), some (vL (b5)), x6], [], h, c, n) := by
  refine k_X12_cutAll_208 cx hY ?_
  exact s_X12_cutAll_210 cx hY eq hK17 hK159 (by omega) (by omega) w
theorem s_X12_cutAll_187 {E : EnvT} {d : Nat} (cx : CX E "ShoreDayModel" cX12_cutAll 7 none "cutAll" (d + 3) 0 0) (hY : eY E = lay1) {Q : Hp → Prop} (eq : EQ E 0 0 (fun r h2 => r = [] ∧ Q h2)) {K17 : Int32 → Int32 → Hp → Prop} (hK17 : ∀ (a1 : Int32) (a2 : Int32) (x3 : Option AVal) (x4 : Option AVal) (x5 : Option AVal) (x6 : Option AVal) (h : Hp) (c n : Nat), c + 0 ≤ 0 → n + 0 ≤ 0 → K17 a1 a2 h → SW E 17 ([some (vP (some (12, 0))), some (vI (a1)), some (vI (a2)), x3, x4, x5, x6], [], h, c, n)) {K159 : Int32 → Int32 → Int32 → Int32 → Int64 → Hp → Prop} (hK159 : ∀ (a1 : Int32) (a2 : Int32) (a3 : Int32) (a4 : Int32) (b5 : Int64) (x6 : Option AVal) (h : Hp) (c n : Nat), c + 0 ≤ 0 → n + 0 ≤ 0 → K159 a1 a2 a3 a4 b5 h → SW E 159 ([some (vP (some (12, 0))), some (vI (a1)), some (vI (a2)), some (vI (a3)), some (vI (a4)), some (vL (b5)), x6], [], h, c, n)) {a1 : Int32} {a2 : Int32} {a3 : Int32} {a4 : Int32} {b5 : Int64} {x6 : Option AVal} {h : Hp} {c n : Nat} (hc : c + 0 ≤ 0) (hn : n + 0 ≤ 0) (w : w_X12_cutAll_187 K17 K159 Q a1 a2 a3 a4 b5 h) : SW E 187 ([some (vP (some (12, 0))), some (vI (a1)), some (vI (a2)), some (vI (a3)), some (vI (a4)), some (vL (b5)), x6], [], h, c, n) := by
  obtain ⟨G1, w⟩ := w
  refine k_X12_cutAll_187 cx hY G1 ?_
  exact s_X12_cutAll_210 cx hY eq hK17 hK159 (by omega) (by omega) w
theorem s_X12_cutAll_179 {E : EnvT} {d : Nat} (cx : CX E "ShoreDayModel" cX12_cutAll 7 none "cutAll" (d + 3) 0 0) (hY : eY E = lay1) {Q : Hp → Prop} (eq : EQ E 0 0 (fun r h2 => r = [] ∧ Q h2)) {K17 : Int32 → Int32 → Hp → Prop} (hK17 : ∀ (a1 : Int32) (a2 : Int32) (x3 : Option AVal) (x4 : Option AVal) (x5 : Option AVal) (x6 : Option AVal) (h : Hp) (c n : Nat), c + 0 ≤ 0 → n + 0 ≤ 0 → K17 a1 a2 h → SW E 17 ([some (vP (some (12, 0))), some (vI (a1)), some (vI (a2)), x3, x4, x5, x6], [], h, c, n)) {K159 : Int32 → Int32 → Int32 → Int32 → Int64 → Hp → Prop} (hK159 : ∀ (a1 : Int32) (a2 : Int32) (a3 : Int32) (a4 : Int32) (b5 : Int64) (x6 : Option AVal) (h : Hp) (c n : Nat), c + 0 ≤ 0 → n + 0 ≤ 0 → K159 a1 a2 a3 a4 b5 h → SW E 159 ([some (vP (some (12, 0))), some (vI (a1)), some (vI (a2)), some (vI (a3)), some (vI (a4)), some (vL (b5)), x6], [], h, c, n)) {a1 : Int32} {a2 : Int32} {a3 : Int32} {a4 : Int32} {b5 : Int64} {x6 : Option AVal} {h : Hp} {c n : Nat} (hc : c + 0 ≤ 0) (hn : n + 0 ≤ 0) (w : w_X12_cutAll_179 K17 K159 Q a1 a2 a3 a4 b5 h) : SW E 179 ([some (vP (some (12, 0))), some (vI (a1)), some (vI (a2)), some (vI (a3)), some (vI (a4)), some (vL (b5)), x6], [], h, c, n) := by
  refine k_X12_cutAll_179 cx hY (fun q => ?_) (fun q => ?_)
  · have w := w.1 q
    exact s_X12_cutAll_208 cx hY eq hK17 hK159 (by omega) (by omega) w
  · have w := w.2 q
    exact s_X12_cutAll_187 cx hY eq hK17 hK159 (by omega) (by omega) w
theorem s_X12_cutAll_176 {E : EnvT} {d : Nat} (cx : CX E "ShoreDayModel" cX12_cutAll 7 none "cutAll" (d + 3) 0 0) (hY : eY E = lay1) {Q : Hp → Prop} (eq : EQ E 0 0 (fun r h2 => r = [] ∧ Q h2)) {K17 : Int32 → Int32 → Hp → Prop} (hK17 : ∀ (a1 : Int32) (a2 : Int32) (x3 : Option AVal) (x4 : Option AVal) (x5 : Option AVal) (x6 : Option AVal) (h : Hp) (c n : Nat), c + 0 ≤ 0 → n + 0 ≤ 0 → K17 a1 a2 h → SW E 17 ([some (vP (some (12, 0))), some (vI (a1)), some (vI (a2)), x3, x4, x5, x6], [], h, c, n)) {K159 : Int32 → Int32 → Int32 → Int32 → Int64 → Hp → Prop} (hK159 : ∀ (a1 : Int32) (a2 : Int32) (a3 : Int32) (a4 : Int32) (b5 : Int64) (x6 : Option AVal) (h : Hp) (c n : Nat), c + 0 ≤ 0 → n + 0 ≤ 0 → K159 a1 a2 a3 a4 b5 h → SW E 159 ([some (vP (some (12, 0))), some (vI (a1)), some (vI (a2)), some (vI (a3)), some (vI (a4)), some (vL (b5)), x6], [], h, c, n)) {a1 : Int32} {a2 : Int32} {a3 : Int32} {a4 : Int32} {b5 : Int64} {x6 : Option AVal} {s0 : Int32} {h : Hp} {c n : Nat} (hc : c + 0 ≤ 0) (hn : n + 0 ≤ 0) (w : w_X12_cutAll_176 K17 K159 Q a1 a2 a3 a4 b5 s0 h) : SW E 176 ([some (vP (some (12, 0))), some (vI (a1)), some (vI (a2)), some (vI (a3)), some (vI (a4)), some (vL (b5)), x6], [vI (s0)], h, c, n) := by
  refine k_X12_cutAll_176 cx hY (fun q => ?_) (fun q => ?_)
  · have w := w.1 q
    exact s_X12_cutAll_218 cx hY eq hK17 (by omega) (by omega) w
  · have w := w.2 q
    exact s_X12_cutAll_179 cx hY eq hK17 hK159 (by omega) (by omega) w
theorem s_X12_cutAll_167 {E : EnvT} {d : Nat} (cx : CX E "ShoreDayModel" cX12_cutAll 7 none "cutAll" (d + 3) 0 0) (hY : eY E = lay1) {Q : Hp → Prop} (eq : EQ E 0 0 (fun r h2 => r = [] ∧ Q h2)) {K17 : Int32 → Int32 → Hp → Prop} (hK17 : ∀ (a1 : Int32) (a2 : Int32) (x3 : Option AVal) (x4 : Option AVal) (x5 : Option AVal) (x6 : Option AVal) (h : Hp) (c n : Nat), c + 0 ≤ 0 → n + 0 ≤ 0 → K17 a1 a2 h → SW E 17 ([some (vP (some (12, 0))), some (vI (a1)), some (vI (a2)), x3, x4, x5, x6], [], h, c, n)) {K159 : Int32 → Int32 → Int32 → Int32 → Int64 → Hp → Prop} (hK159 : ∀ (a1 : Int32) (a2 : Int32) (a3 : Int32) (a4 : Int32) (b5 : Int64) (x6 : Option AVal) (h : Hp) (c n : Nat), c + 0 ≤ 0 → n + 0 ≤ 0 → K159 a1 a2 a3 a4 b5 h → SW E 159 ([some (vP (some (12, 0))), some (vI (a1)), some (vI (a2)), some (vI (a3)), some (vI (a4)), some (vL (b5)), x6], [], h, c, n)) {a1 : Int32} {a2 : Int32} {a3 : Int32} {a4 : Int32} {b5 : Int64} {x6 : Option AVal} {h : Hp} {c n : Nat} (hc : c + 0 ≤ 0) (hn : n + 0 ≤ 0) (w : w_X12_cutAll_167 K17 K159 Q a1 a2 a3 a4 b5 h) : SW E 167 ([some (vP (some (12, 0))), some (vI (a1)), some (vI (a2)), some (vI (a3)), some (vI (a4)), some (vL (b5)), x6], [], h, c, n) := by
  obtain ⟨G1, w⟩ := w
  refine k_X12_cutAll_167 cx hY G1 (ctY hY (vc_X12_isDigit (d := d + 1) w)) (by omega) (by omega) (by omega) (fun r h2 hp => ?_)
  obtain ⟨r2, rfl, w⟩ := hp
  exact s_X12_cutAll_176 cx hY eq hK17 hK159 (by omega) (by omega) w
theorem s_X12_cutAll_159 {E : EnvT} {d : Nat} (cx : CX E "ShoreDayModel" cX12_cutAll 7 none "cutAll" (d + 3) 0 0) (hY : eY E = lay1) {Q : Hp → Prop} (eq : EQ E 0 0 (fun r h2 => r = [] ∧ Q h2)) {K17 : Int32 → Int32 → Hp → Prop} (hK17 : ∀ (a1 : Int32) (a2 : Int32) (x3 : Option AVal) (x4 : Option AVal) (x5 : Option AVal) (x6 : Option AVal) (h : Hp) (c n : Nat), c + 0 ≤ 0 → n + 0 ≤ 0 → K17 a1 a2 h → SW E 17 ([some (vP (some (12, 0))), some (vI (a1)), some (vI (a2)), x3, x4, x5, x6], [], h, c, n)) : ∀ (N : Nat) (a1 : Int32) (a2 : Int32) (a3 : Int32) (a4 : Int32) (b5 : Int64) (x6 : Option AVal) (h : Hp) (c n : Nat), c + 0 ≤ 0 → n + 0 ≤ 0 → w_X12_cutAll_159 K17 Q N a1 a2 a3 a4 b5 h → SW E 159 ([some (vP (some (12, 0))), some (vI (a1)), some (vI (a2)), some (vI (a3)), some (vI (a4)), some (vL (b5)), x6], [], h, c, n) := by
  intro N
  induction N with
  | zero =>
    intro _ _ _ _ _ _ h c n _ _ w
    exact w.elim
  | succ N ih =>
    intro a1 a2 a3 a4 b5 x6 h c n hc hn w
    refine k_X12_cutAll_159 cx hY (fun q => ?_) (fun q => ?_)
    · have w := w.1 q
      exact s_X12_cutAll_218 cx hY eq hK17 (by omega) (by omega) w
    · have w := w.2 q
      exact s_X12_cutAll_167 cx hY eq hK17 ih (by omega) (by omega) w
theorem s_X12_cutAll_156 {E : EnvT} {d : Nat} (cx : CX E "ShoreDayModel" cX12_cutAll 7 none "cutAll" (d + 3) 0 0) (hY : eY E = lay1) {Q : Hp → Prop} (eq : EQ E 0 0 (fun r h2 => r = [] ∧ Q h2)) {K17 : Int32 → Int32 → Hp → Prop} (hK17 : ∀ (a1 : Int32) (a2 : Int32) (x3 : Option AVal) (x4 : Option AVal) (x5 : Option AVal) (x6 : Option AVal) (h : Hp) (c n : Nat), c + 0 ≤ 0 → n + 0 ≤ 0 → K17 a1 a2 h → SW E 17 ([some (vP (some (12, 0))), some (vI (a1)), some (vI (a2)), x3, x4, x5, x6], [], h, c, n)) {a1 : Int32} {a2 : Int32} {a3 : Int32} {a4 : Int32} {b5 : Int64} {x6 : Option AVal} {s0 : Int32} {h : Hp} {c n : Nat} (hc : c + 0 ≤ 0) (hn : n + 0 ≤ 0) (w : w_X12_cutAll_156 K17 Q a1 a2 a3 a4 b5 s0 h) : SW E 156 ([some (vP (some (12, 0))), some (vI (a1)), some (vI (a2)), some (vI (a3)), some (vI (a4)), some (vL (b5)), x6], [vI (s0)], h, c, n) := by
  refine k_X12_cutAll_156 cx hY (fun q => ?_) (fun q => ?_)
  · have w := w.1 q
    exact s_X12_cutAll_240 cx hY eq hK17 (by omega) (by omega) w
  · have w := w.2 q
    obtain ⟨N1, w⟩ := w
    exact s_X12_cutAll_159 cx hY eq hK17 _ _ _ _ _ _ _ _ _ _ (by omega) (by omega) w
theorem s_X12_cutAll_152 {E : EnvT} {d : Nat} (cx : CX E "ShoreDayModel" cX12_cutAll 7 none "cutAll" (d + 3) 0 0) (hY : eY E = lay1) {Q : Hp → Prop} (eq : EQ E 0 0 (fun r h2 => r = [] ∧ Q h2)) {K17 : Int32 → Int32 → Hp → Prop} (hK17 : ∀ (a1 : Int32) (a2 : Int32) (x3 : Option AVal) (x4 : Option AVal) (x5 : Option AVal) (x6 : Option AVal) (h : Hp) (c n : Nat), c + 0 ≤ 0 → n + 0 ≤ 0 → K17 a1 a2 h → SW E 17 ([some (vP (some (12, 0))), some (vI (a1)), some (vI (a2)), x3, x4, x5, x6], [], h, c, n)) {a1 : Int32} {a2 : Int32} {a3 : Int32} {a4 : Int32} {b5 : Int64} {x6 : Option AVal} {h : Hp} {c n : Nat} (hc : c + 0 ≤ 0) (hn : n + 0 ≤ 0) (w : w_X12_cutAll_152 K17 Q a1 a2 a3 a4 b5 h) : SW E 152 ([some (vP (some (12, 0))), some (vI (a1)), some (vI (a2)), some (vI (a3)), some (vI (a4)), some (vL (b5)), x6], [], h, c, n) := by
  refine k_X12_cutAll_152 cx hY (ctY hY (vc_X12_isDigit (d := d + 1) w)) (by omega) (by omega) (by omega) (fun r h2 hp => ?_)
  obtain ⟨r2, rfl, w⟩ := hp
  exact s_X12_cutAll_156 cx hY eq hK17 (by omega) (by omega) w
theorem s_X12_cutAll_148 {E : EnvT} {d : Nat} (cx : CX E "ShoreDayModel" cX12_cutAll 7 none "cutAll" (d + 3) 0 0) (hY : eY E = lay1) {Q : Hp → Prop} (eq : EQ E 0 0 (fun r h2 => r = [] ∧ Q h2)) {K17 : Int32 → Int32 → Hp → Prop} (hK17 : ∀ (a1 : Int32) (a2 : Int32) (x3 : Option AVal) (x4 : Option AVal) (x5 : Option AVal) (x6 : Option AVal) (h : Hp) (c n : Nat), c + 0 ≤ 0 → n + 0 ≤ 0 → K17 a1 a2 h → SW E 17 ([some (vP (some (12, 0))), some (vI (a1)), some (vI (a2)), x3, x4, x5, x6], [], h, c, n)) {a1 : Int32} {a2 : Int32} {a3 : Int32} {a4 : Int32} {b5 : Int64} {x6 : Option AVal} {s1 : Int32} {s2 : Int32} {h : Hp} {c n : Nat} (hc : c + 0 ≤ 0) (hn : n + 0 ≤ 0) (w : w_X12_cutAll_148 K17 Q a1 a2 a3 a4 b5 s1 s2 h) : SW E 148 ([some (vP (some (12, 0))), some (vI (a1)), some (vI (a2)), some (vI (a3)), some (vI (a4)), some (vL (b5)), x6], [vI (s2), vI (s1), vP (some (104, 0))], h, c, n) := by
  obtain ⟨G1, w⟩ := w
  refine k_X12_cutAll_148 cx hY G1 ?_
  exact s_X12_cutAll_265 cx hY eq hK17 (by omega) (by omega) w
theorem s_X12_cutAll_147 {E : EnvT} {d : Nat} (cx : CX E "ShoreDayModel" cX12_cutAll 7 none "cutAll" (d + 3) 0 0) (hY : eY E = lay1) {Q : Hp → Prop} (eq : EQ E 0 0 (fun r h2 => r = [] ∧ Q h2)) {K17 : Int32 → Int32 → Hp → Prop} (hK17 : ∀ (a1 : Int32) (a2 : Int32) (x3 : Option AVal) (x4 : Option AVal) (x5 : Option AVal) (x6 : Option AVal) (h : Hp) (c n : Nat), c + 0 ≤ 0 → n + 0 ≤ 0 → K17 a1 a2 h → SW E 17 ([some (vP (some (12, 0))), some (vI (a1)), some (vI (a2)), x3, x4, x5, x6], [], h, c, n)) {a1 : Int32} {a2 : Int32} {a3 : Int32} {a4 : Int32} {b5 : Int64} {x6 : Option AVal} {s1 : Int32} {h : Hp} {c n : Nat} (hc : c + 0 ≤ 0) (hn : n + 0 ≤ 0) (w : w_X12_cutAll_147 K17 Q a1 a2 a3 a4 b5 s1 h) : SW E 147 ([some (vP (some (12, 0))), some (vI (a1)), some (vI (a2)), some (vI (a3)), some (vI (a4)), some (vL (b5)), x6], [vI (s1), vP (some (104, 0))], h, c, n) := by
  refine k_X12_cutAll_147 cx hY ?_
  exact s_X12_cutAll_148 cx hY eq hK17 (by omega) (by omega) w
theorem s_X12_cutAll_143 {E : EnvT} {d : Nat} (cx : CX E "ShoreDayModel" cX12_cutAll 7 none "cutAll" (d + 3) 0 0) (hY : eY E = lay1) {Q : Hp → Prop} (eq : EQ E 0 0 (fun r h2 => r = [] ∧ Q h2)) {K17 : Int32 → Int32 → Hp → Prop} (hK17 : ∀ (a1 : Int32) (a2 : Int32) (x3 : Option AVal) (x4 : Option AVal) (x5 : Option AVal) (x6 : Option AVal) (h : Hp) (c n : Nat), c + 0 ≤ 0 → n + 0 ≤ 0 → K17 a1 a2 h → SW E 17 ([some (vP (some (12, 0))), some (vI (a1)), some (vI (a2)), x3, x4, x5, x6], [], h, c, n)) {a1 : Int32} {a2 : Int32} {a3 : Int32} {a4 : Int32} {b5 : Int64} {x6 : Option AVal} {s1 : Int32} {h : Hp} {c n : Nat} (hc : c + 0 ≤ 0) (hn : n + 0 ≤ 0) (w : w_X12_cutAll_143 K17 Q a1 a2 a3 a4 b5 s1 h) : SW E 143 ([some (vP (some (12, 0))), some (vI (a1)), some (vI (a2)), some (vI (a3)), some (vI (a4)), some (vL (b5)), x6], [vI (s1), vP (some (104, 0))], h, c, n) := by
  refine k_X12_cutAll_143 cx hY ?_
  exact s_X12_cutAll_148 cx hY eq hK17 (by omega) (by omega) w
theorem s_X12_cutAll_129 {E : EnvT} {d : Nat} (cx : CX E "ShoreDayModel" cX12_cutAll 7 none "cutAll" (d + 3) 0 0) (hY : eY E = lay1) {Q : Hp → Prop} (eq : EQ E 0 0 (fun r h2 => r = [] ∧ Q h2)) {K17 : Int32 → Int32 → Hp → Prop} (hK17 : ∀ (a1 : Int32) (a2 : Int32) (x3 : Option AVal) (x4 : Option AVal) (x5 : Option AVal) (x6 : Option AVal) (h : Hp) (c n : Nat), c + 0 ≤ 0 → n + 0 ≤ 0 → K17 a1 a2 h → SW E 17 ([some (vP (some (12, 0))), some (vI (a1)), some (vI (a2)), x3, x4, x5, x6], [], h, c, n)) {a1 : Int32} {a2 : Int32} {a3 : Int32} {a4 : Int32} {b5 : Int64} {x6 : Option AVal} {h : Hp} {c n : Nat} (hc : c + 0 ≤ 0) (hn : n + 0 ≤ 0) (w : w_X12_cutAll_129 K17 Q a1 a2 a3 a4 b5 h) : SW E 129 ([some (vP (some (12, 0))), some (vI (a1)), some (vI (a2)), some (vI (a3)), some (vI (a4)), some (vL (b5)), x6], [], h, c, n) := by
  refine k_X12_cutAll_129 cx hY (fun q => ?_) (fun q => ?_)
  · have w := w.1 q
    exact s_X12_cutAll_147 cx hY eq hK17 (by omega) (by omega) w
  · have w := w.2 q
    exact s_X12_cutAll_143 cx hY eq hK17 (by omega) (by omega) w
theorem s_X12_cutAll_121 {E : EnvT} {d : Nat} (cx : CX E "ShoreDayModel" cX12_cutAll 7 none "cutAll" (d + 3) 0 0) (hY : eY E = lay1) {Q : Hp → Prop} (eq : EQ E 0 0 (fun r h2 => r = [] ∧ Q h2)) {K17 : Int32 → Int32 → Hp → Prop} (hK17 : ∀ (a1 : Int32) (a2 : Int32) (x3 : Option AVal) (x4 : Option AVal) (x5 : Option AVal) (x6 : Option AVal) (h : Hp) (c n : Nat), c + 0 ≤ 0 → n + 0 ≤ 0 → K17 a1 a2 h → SW E 17 ([some (vP (some (12, 0))), some (vI (a1)), some (vI (a2)), x3, x4, x5, x6], [], h, c, n)) {K70 : Int32 → Int32 → Int32 → Int32 → Int64 → Hp → Prop} (hK70 : ∀ (a1 : Int32) (a2 : Int32) (a3 : Int32) (a4 : Int32) (b5 : Int64) (x6 : Option AVal) (h : Hp) (c n : Nat), c + 0 ≤ 0 → n + 0 ≤ 0 → K70 a1 a2 a3 a4 b5 h → SW E 70 ([some (vP (some (12, 0))), some (vI (a1)), some (vI (a2)), some (vI (a3)), some (vI (a4)), some (vL (b5)), x6], [], h, c, n)) {a1 : Int32} {a2 : Int32} {a3 : Int32} {a4 : Int32} {b5 : Int64} {x6 : Option AVal} {t0 : Int64} {h : Hp} {c n : Nat} (hc : c + 0 ≤ 0) (hn : n + 0 ≤ 0) (w : w_X12_cutAll_121 K17 K70 Q a1 a2 a3 a4 b5 t0 h) : SW E 121 ([some (vP (some (12, 0))), some (vI (a1)), some (vI (a2)), some (vI (a3)), some (vI (a4)), some (vL (b5)), x6], [vL (t0)], h, c, n) := by
  refine k_X12_cutAll_121 cx hY ?_
  exact hK70 _ _ _ _ _ _ _ _ _ (by omega) (by omega) w
theorem s_X12_cutAll_119 {E : EnvT} {d : Nat} (cx : CX E "ShoreDayModel" cX12_cutAll 7 none "cutAll" (d + 3) 0 0) (hY : eY E = lay1) {Q : Hp → Prop} (eq : EQ E 0 0 (fun r h2 => r = [] ∧ Q h2)) {K17 : Int32 → Int32 → Hp → Prop} (hK17 : ∀ (a1 : Int32) (a2 : Int32) (x3 : Option AVal) (x4 : Option AVal) (x5 : Option AVal) (x6 : Option AVal) (h : Hp) (c n : Nat), c + 0 ≤ 0 → n + 0 ≤ 0 → K17 a1 a2 h → SW E 17 ([some (vP (some (12, 0))), some (vI (a1)), some (vI (a2)), x3, x4, x5, x6], [], h, c, n)) {K70 : Int32 → Int32 → Int32 → Int32 → Int64 → Hp → Prop} (hK70 : ∀ (a1 : Int32) (a2 : Int32) (a3 : Int32) (a4 : Int32) (b5 : Int64) (x6 : Option AVal) (h : Hp) (c n : Nat), c + 0 ≤ 0 → n + 0 ≤ 0 → K70 a1 a2 a3 a4 b5 h → SW E 70 ([some (vP (some (12, 0))), some (vI (a1)), some (vI (a2)), some (vI (a3)), some (vI (a4)), some (vL (b5)), x6], [], h, c, n)) {a1 : Int32} {a2 : Int32} {a3 : Int32} {a4 : Int32} {b5 : Int64} {x6 : Option AVal} {h : Hp} {c n : Nat} (hc : c + 0 ≤ 0) (hn : n + 0 ≤ 0) (w : w_X12_cutAll_119 K17 K70 Q a1 a2 a3 a4 b5 h) : SW E 119 ([some (vP (some (12, 0))), some (vI (a1)), some (vI (a2)), some (vI (a3)), some (vI (a4)), some (vL (b5)), x6], [], h, c, n) := by
  refine k_X12_cutAll_119 cx hY ?_
  exact s_X12_cutAll_121 cx hY eq hK17 hK70 (by omega) (by omega) w
theorem s_X12_cutAll_114 {E : EnvT} {d : Nat} (cx : CX E "ShoreDayModel" cX12_cutAll 7 none "cutAll" (d + 3) 0 0) (hY : eY E = lay1) {Q : Hp → Prop} (eq : EQ E 0 0 (fun r h2 => r = [] ∧ Q h2)) {K17 : Int32 → Int32 → Hp → Prop} (hK17 : ∀ (a1 : Int32) (a2 : Int32) (x3 : Option AVal) (x4 : Option AVal) (x5 : Option AVal) (x6 : Option AVal) (h : Hp) (c n : Nat), c + 0 ≤ 0 → n + 0 ≤ 0 → K17 a1 a2 h → SW E 17 ([some (vP (some (12, 0))), some (vI (a1)), some (vI (a2)), x3, x4, x5, x6], [], h, c, n)) {K70 : Int32 → Int32 → Int32 → Int32 → Int64 → Hp → Prop} (hK70 : ∀ (a1 : Int32) (a2 : Int32) (a3 : Int32) (a4 : Int32) (b5 : Int64) (x6 : Option AVal) (h : Hp) (c n : Nat), c + 0 ≤ 0 → n + 0 ≤ 0 → K70 a1 a2 a3 a4 b5 h → SW E 70 ([some (vP (some (12, 0))), some (vI (a1)), some (vI (a2)), some (vI (a3)), some (vI (a4)), some (vL (b5)), x6], [], h, c, n)) {a1 : Int32} {a2 : Int32} {a3 : Int32} {a4 : Int32} {b5 : Int64} {x6 : Option AVal} {t0 : Int64} {s1 : Int32} {h : Hp} {c n : Nat} (hc : c + 0 ≤ 0) (hn : n + 0 ≤ 0) (w : w_X12_cutAll_114 K17 K70 Q a1 a2 a3 a4 b5 t0 s1 h) : SW E 114 ([some (vP (some (12, 0))), some (vI (a1)), some (vI (a2)), some (vI (a3)), some (vI (a4)), some (vL (b5)), x6], [vI (s1), vL (t0)], h, c, n) := by
  refine k_X12_cutAll_114 cx hY ?_
  exact s_X12_cutAll_121 cx hY eq hK17 hK70 (by omega) (by omega) w
theorem s_X12_cutAll_99 {E : EnvT} {d : Nat} (cx : CX E "ShoreDayModel" cX12_cutAll 7 none "cutAll" (d + 3) 0 0) (hY : eY E = lay1) {Q : Hp → Prop} (eq : EQ E 0 0 (fun r h2 => r = [] ∧ Q h2)) {K17 : Int32 → Int32 → Hp → Prop} (hK17 : ∀ (a1 : Int32) (a2 : Int32) (x3 : Option AVal) (x4 : Option AVal) (x5 : Option AVal) (x6 : Option AVal) (h : Hp) (c n : Nat), c + 0 ≤ 0 → n + 0 ≤ 0 → K17 a1 a2 h → SW E 17 ([some (vP (some (12, 0))), some (vI (a1)), some (vI (a2)), x3, x4, x5, x6], [], h, c, n)) {K70 : Int32 → Int32 → Int32 → Int32 → Int64 → Hp → Prop} (hK70 : ∀ (a1 : Int32) (a2 : Int32) (a3 : Int32) (a4 : Int32) (b5 : Int64) (x6 : Option AVal) (h : Hp) (c n : Nat), c + 0 ≤ 0 → n + 0 ≤ 0 → K70 a1 a2 a3 a4 b5 h → SW E 70 ([some (vP (some (12, 0))), some (vI (a1)), some (vI (a2)), some (vI (a3)), some (vI (a4)), some (vL (b5)), x6], [], h, c, n)) {a1 : Int32} {a2 : Int32} {a3 : Int32} {a4 : Int32} {b5 : Int64} {x6 : Option AVal} {h : Hp} {c n : Nat} (hc : c + 0 ≤ 0) (hn : n + 0 ≤ 0) (w : w_X12_cutAll_99 K17 K70 Q a1 a2 a3 a4 b5 h) : SW E 99 ([some (vP (some (12, 0))), some (vI (a1)), some (vI (a2)), some (vI (a3)), some (vI (a4)), some (vL (b5)), x6], [], h, c, n) := by
  obtain ⟨G1, w⟩ := w
  refine k_X12_cutAll_99 cx hY G1 (ctY hY (vc_X12_rank (d := d + 0) w)) (by omega) (by omega) (by omega) (fun r h2 hp => ?_)
  obtain ⟨r2, rfl, w⟩ := hp
  exact s_X12_cutAll_114 cx hY eq hK17 hK70 (by omega) (by omega) w
theorem s_X12_cutAll_90 {E : EnvT} {d : Nat} (cx : CX E "ShoreDayModel" cX12_cutAll 7 none "cutAll" (d + 3) 0 0) (hY : eY E = lay1) {Q : Hp → Prop} (eq : EQ E 0 0 (fun r h2 => r = [] ∧ Q h2)) {K17 : Int32 → Int32 → Hp → Prop} (hK17 : ∀ (a1 : Int32) (a2 : Int32) (x3 : Option AVal) (x4 : Option AVal) (x5 : Option AVal) (x6 : Option AVal) (h : Hp) (c n : Nat), c + 0 ≤ 0 → n + 0 ≤ 0 → K17 a1 a2 h → SW E 17 ([some (vP (some (12, 0))), some (vI (a1)), some (vI (a2)), x3, x4, x5, x6], [], h, c, n)) {K70 : Int32 → Int32 → Int32 → Int32 → Int64 → Hp → Prop} (hK70 : ∀ (a1 : Int32) (a2 : Int32) (a3 : Int32) (a4 : Int32) (b5 : Int64) (x6 : Option AVal) (h : Hp) (c n : Nat), c + 0 ≤ 0 → n + 0 ≤ 0 → K70 a1 a2 a3 a4 b5 h → SW E 70 ([some (vP (some (12, 0))), some (vI (a1)), some (vI (a2)), some (vI (a3)), some (vI (a4)), some (vL (b5)), x6], [], h, c, n)) {a1 : Int32} {a2 : Int32} {a3 : Int32} {a4 : Int32} {b5 : Int64} {x6 : Option AVal} {h : Hp} {c n : Nat} (hc : c + 0 ≤ 0) (hn : n + 0 ≤ 0) (w : w_X12_cutAll_90 K17 K70 Q a1 a2 a3 a4 b5 h) : SW E 90 ([some (vP (some (12, 0))), some (vI (a1)), some (vI (a2)), some (vI (a3)), some (vI (a4)), some (vL (b5)), x6], [], h, c, n) := by
  refine k_X12_cutAll_90 cx hY (fun q => ?_) (fun q => ?_)
  · have w := w.1 q
    exact s_X12_cutAll_119 cx hY eq hK17 hK70 (by omega) (by omega) w
  · have w := w.2 q
    exact s_X12_cutAll_99 cx hY eq hK17 hK70 (by omega) (by omega) w
theorem s_X12_cutAll_87 {E : EnvT} {d : Nat} (cx : CX E "ShoreDayModel" cX12_cutAll 7 none "cutAll" (d + 3) 0 0) (hY : eY E = lay1) {Q : Hp → Prop} (eq : EQ E 0 0 (fun r h2 => r = [] ∧ Q h2)) {K17 : Int32 → Int32 → Hp → Prop} (hK17 : ∀ (a1 : Int32) (a2 : Int32) (x3 : Option AVal) (x4 : Option AVal) (x5 : Option AVal) (x6 : Option AVal) (h : Hp) (c n : Nat), c + 0 ≤ 0 → n + 0 ≤ 0 → K17 a1 a2 h → SW E 17 ([some (vP (some (12, 0))), some (vI (a1)), some (vI (a2)), x3, x4, x5, x6], [], h, c, n)) {K70 : Int32 → Int32 → Int32 → Int32 → Int64 → Hp → Prop} (hK70 : ∀ (a1 : Int32) (a2 : Int32) (a3 : Int32) (a4 : Int32) (b5 : Int64) (x6 : Option AVal) (h : Hp) (c n : Nat), c + 0 ≤ 0 → n + 0 ≤ 0 → K70 a1 a2 a3 a4 b5 h → SW E 70 ([some (vP (some (12, 0))), some (vI (a1)), some (vI (a2)), some (vI (a3)), some (vI (a4)), some (vL (b5)), x6], [], h, c, n)) {a1 : Int32} {a2 : Int32} {a3 : Int32} {a4 : Int32} {b5 : Int64} {x6 : Option AVal} {s0 : Int32} {h : Hp} {c n : Nat} (hc : c + 0 ≤ 0) (hn : n + 0 ≤ 0) (w : w_X12_cutAll_87 K17 K70 Q a1 a2 a3 a4 b5 s0 h) : SW E 87 ([some (vP (some (12, 0))), some (vI (a1)), some (vI (a2)), some (vI (a3)), some (vI (a4)), some (vL (b5)), x6], [vI (s0)], h, c, n) := by
  refine k_X12_cutAll_87 cx hY (fun q => ?_) (fun q => ?_)
  · have w := w.1 q
    exact s_X12_cutAll_129 cx hY eq hK17 (by omega) (by omega) w
  · have w := w.2 q
    exact s_X12_cutAll_90 cx hY eq hK17 hK70 (by omega) (by omega) w
theorem s_X12_cutAll_78 {E : EnvT} {d : Nat} (cx : CX E "ShoreDayModel" cX12_cutAll 7 none "cutAll" (d + 3) 0 0) (hY : eY E = lay1) {Q : Hp → Prop} (eq : EQ E 0 0 (fun r h2 => r = [] ∧ Q h2)) {K17 : Int32 → Int32 → Hp → Prop} (hK17 : ∀ (a1 : Int32) (a2 : Int32) (x3 : Option AVal) (x4 : Option AVal) (x5 : Option AVal) (x6 : Option AVal) (h : Hp) (c n : Nat), c + 0 ≤ 0 → n + 0 ≤ 0 → K17 a1 a2 h → SW E 17 ([some (vP (some (12, 0))), some (vI (a1)), some (vI (a2)), x3, x4, x5, x6], [], h, c, n)) {K70 : Int32 → Int32 → Int32 → Int32 → Int64 → Hp → Prop} (hK70 : ∀ (a1 : Int32) (a2 : Int32) (a3 : Int32) (a4 : Int32) (b5 : Int64) (x6 : Option AVal) (h : Hp) (c n : Nat), c + 0 ≤ 0 → n + 0 ≤ 0 → K70 a1 a2 a3 a4 b5 h → SW E 70 ([some (vP (some (12, 0))), some (vI (a1)), some (vI (a2)), some (vI (a3)), some (vI (a4)), some (vL (b5)), x6], [], h, c, n)) {a1 : Int32} {a2 : Int32} {a3 : Int32} {a4 : Int32} {b5 : Int64} {x6 : Option AVal} {h : Hp} {c n : Nat} (hc : c + 0 ≤ 0) (hn : n + 0 ≤ 0) (w : w_X12_cutAll_78 K17 K70 Q a1 a2 a3 a4 b5 h) : SW E 78 ([some (vP (some (12, 0))), some (vI (a1)), some (vI (a2)), some (vI (a3)), some (vI (a4)), some (vL (b5)), x6], [], h, c, n) := by
  obtain ⟨G1, w⟩ := w
  refine k_X12_cutAll_78 cx hY G1 (ctY hY (vc_X12_isLetter (d := d + 1) w)) (by omega) (by omega) (by omega) (fun r h2 hp => ?_)
  obtain ⟨r2, rfl, w⟩ := hp
  exact s_X12_cutAll_87 cx hY eq hK17 hK70 (by omega) (by omega) w
theorem s_X12_cutAll_70 {E : EnvT} {d : Nat} (cx : CX E "ShoreDayModel" cX12_cutAll 7 none "cutAll" (d + 3) 0 0) (hY : eY E = lay1) {Q : Hp → Prop} (eq : EQ E 0 0 (fun r h2 => r = [] ∧ Q h2)) {K17 : Int32 → Int32 → Hp → Prop} (hK17 : ∀ (a1 : Int32) (a2 : Int32) (x3 : Option AVal) (x4 : Option AVal) (x5 : Option AVal) (x6 : Option AVal) (h : Hp) (c n : Nat), c + 0 ≤ 0 → n + 0 ≤ 0 → K17 a1 a2 h → SW E 17 ([some (vP (some (12, 0))), some (vI (a1)), some (vI (a2)), x3, x4, x5, x6], [], h, c, n)) : ∀ (N : Nat) (a1 : Int32) (a2 : Int32) (a3 : Int32) (a4 : Int32) (b5 : Int64) (x6 : Option AVal) (h : Hp) (c n : Nat), c + 0 ≤ 0 → n + 0 ≤ 0 → w_X12_cutAll_70 K17 Q N a1 a2 a3 a4 b5 h → SW E 70 ([some (vP (some (12, 0))), some (vI (a1)), some (vI (a2)), some (vI (a3)), some (vI (a4)), some (vL (b5)), x6], [], h, c, n) := by
  intro N
  induction N with
  | zero =>
    intro _ _ _ _ _ _ h c n _ _ w
    exact w.elim
  | succ N ih =>
    intro a1 a2 a3 a4 b5 x6 h c n hc hn w
    refine k_X12_cutAll_70 cx hY (fun q => ?_) (fun q => ?_)
    · have w := w.1 q
      exact s_X12_cutAll_129 cx hY eq hK17 (by omega) (by omega) w
    · have w := w.2 q
      exact s_X12_cutAll_78 cx hY eq hK17 ih (by omega) (by omega) w
theorem s_X12_cutAll_67 {E : EnvT} {d : Nat} (cx : CX E "ShoreDayModel" cX12_cutAll 7 none "cutAll" (d + 3) 0 0) (hY : eY E = lay1) {Q : Hp → Prop} (eq : EQ E 0 0 (fun r h2 => r = [] ∧ Q h2)) {K17 : Int32 → Int32 → Hp → Prop} (hK17 : ∀ (a1 : Int32) (a2 : Int32) (x3 : Option AVal) (x4 : Option AVal) (x5 : Option AVal) (x6 : Option AVal) (h : Hp) (c n : Nat), c + 0 ≤ 0 → n + 0 ≤ 0 → K17 a1 a2 h → SW E 17 ([some (vP (some (12, 0))), some (vI (a1)), some (vI (a2)), x3, x4, x5, x6], [], h, c, n)) {a1 : Int32} {a2 : Int32} {a3 : Int32} {a4 : Int32} {b5 : Int64} {x6 : Option AVal} {s0 : Int32} {h : Hp} {c n : Nat} (hc : c + 0 ≤ 0) (hn : n + 0 ≤ 0) (w : w_X12_cutAll_67 K17 Q a1 a2 a3 a4 b5 s0 h) : SW E 67 ([some (vP (some (12, 0))), some (vI (a1)), some (vI (a2)), some (vI (a3)), some (vI (a4)), some (vL (b5)), x6], [vI (s0)], h, c, n) := by
  refine k_X12_cutAll_67 cx hY (fun q => ?_) (fun q => ?_)
  · have w := w.1 q
    exact s_X12_cutAll_152 cx hY eq hK17 (by omega) (by omega) w
  · have w := w.2 q
    obtain ⟨N1, w⟩ := w
    exact s_X12_cutAll_70 cx hY eq hK17 _ _ _ _ _ _ _ _ _ _ (by omega) (by omega) w
theorem s_X12_cutAll_50 {E : EnvT} {d : Nat} (cx : CX E "ShoreDayModel" cX12_cutAll 7 none "cutAll" (d + 3) 0 0) (hY : eY E = lay1) {Q : Hp → Prop} (eq : EQ E 0 0 (fun r h2 => r = [] ∧ Q h2)) {K17 : Int32 → Int32 → Hp → Prop} (hK17 : ∀ (a1 : Int32) (a2 : Int32) (x3 : Option AVal) (x4 : Option AVal) (x5 : Option AVal) (x6 : Option AVal) (h : Hp) (c n : Nat), c + 0 ≤ 0 → n + 0 ≤ 0 → K17 a1 a2 h → SW E 17 ([some (vP (some (12, 0))), some (vI (a1)), some (vI (a2)), x3, x4, x5, x6], [], h, c, n)) {a1 : Int32} {a2 : Int32} {a3 : Int32} {x4 : Option AVal} {x5 : Option AVal} {x6 : Option AVal} {h : Hp} {c n : Nat} (hc : c + 0 ≤ 0) (hn : n + 0 ≤ 0) (w : w_X12_cutAll_50 K17 Q a1 a2 a3 h) : SW E 50 ([some (vP (some (12, 0))), some (vI (a1)), some (vI (a2)), some (vI (a3)), x4, x5, x6], [], h, c, n) := by
  obtain ⟨G1, w⟩ := w
  refine k_X12_cutAll_50 cx hY G1 (ctY hY (vc_X12_isLetter (d := d + 1) w)) (by omega) (by omega) (by omega) (fun r h2 hp => ?_)
  obtain ⟨r2, rfl, w⟩ := hp
  exact s_X12_cutAll_67 cx hY eq hK17 (by omega) (by omega) w
theorem s_X12_cutAll_38 {E : EnvT} {d : Nat} (cx : CX E "ShoreDayModel" cX12_cutAll 7 none "cutAll" (d + 3) 0 0) (hY : eY E = lay1) {Q : Hp → Prop} (eq : EQ E 0 0 (fun r h2 => r = [] ∧ Q h2)) {K17 : Int32 → Int32 → Hp → Prop} (hK17 : ∀ (a1 : Int32) (a2 : Int32) (x3 : Option AVal) (x4 : Option AVal) (x5 : Option AVal) (x6 : Option AVal) (h : Hp) (c n : Nat), c + 0 ≤ 0 → n + 0 ≤ 0 → K17 a1 a2 h → SW E 17 ([some (vP (some (12, 0))), some (vI (a1)), some (vI (a2)), x3, x4, x5, x6], [], h, c, n)) {a1 : Int32} {a2 : Int32} {a3 : Int32} {x4 : Option AVal} {x5 : Option AVal} {x6 : Option AVal} {h : Hp} {c n : Nat} (hc : c + 0 ≤ 0) (hn : n + 0 ≤ 0) (w : w_X12_cutAll_38 K17 Q a1 a2 a3 h) : SW E 38 ([some (vP (some (12, 0))), some (vI (a1)), some (vI (a2)), some (vI (a3)), x4, x5, x6], [], h, c, n) := by
  refine k_X12_cutAll_38 cx hY (fun q => ?_) (fun q => ?_)
  · have w := w.1 q
    exact s_X12_cutAll_50 cx hY eq hK17 (by omega) (by omega) w
  · have w := w.2 q
    exact s_X12_cutAll_44 cx hY eq hK17 (by omega) (by omega) w
theorem s_X12_cutAll_25 {E : EnvT} {d : Nat} (cx : CX E "ShoreDayModel" cX12_cutAll 7 none "cutAll" (d + 3) 0 0) (hY : eY E = lay1) {Q : Hp → Prop} (eq : EQ E 0 0 (fun r h2 => r = [] ∧ Q h2)) {K17 : Int32 → Int32 → Hp → Prop} (hK17 : ∀ (a1 : Int32) (a2 : Int32) (x3 : Option AVal) (x4 : Option AVal) (x5 : Option AVal) (x6 : Option AVal) (h : Hp) (c n : Nat), c + 0 ≤ 0 → n + 0 ≤ 0 → K17 a1 a2 h → SW E 17 ([some (vP (some (12, 0))), some (vI (a1)), some (vI (a2)), x3, x4, x5, x6], [], h, c, n)) {a1 : Int32} {a2 : Int32} {x3 : Option AVal} {x4 : Option AVal} {x5 : Option AVal} {x6 : Option AVal} {h : Hp} {c n : Nat} (hc : c + 0 ≤ 0) (hn : n + 0 ≤ 0) (w : w_X12_cutAll_25 K17 Q a1 a2 h) : SW E 25 ([some (vP (some (12, 0))), some (vI (a1)), some (vI (a2)), x3, x4, x5, x6], [], h, c, n) := by
  obtain ⟨G1, w⟩ := w
  refine k_X12_cutAll_25 cx hY G1 (fun q => ?_) (fun q => ?_)
  · have w := w.1 q
    exact s_X12_cutAll_44 cx hY eq hK17 (by omega) (by omega) w
  · have w := w.2 q
    exact s_X12_cutAll_38 cx hY eq hK17 (by omega) (by omega) w
theorem s_X12_cutAll_17 {E : EnvT} {d : Nat} (cx : CX E "ShoreDayModel" cX12_cutAll 7 none "cutAll" (d + 3) 0 0) (hY : eY E = lay1) {Q : Hp → Prop} (eq : EQ E 0 0 (fun r h2 => r = [] ∧ Q h2)) : ∀ (N : Nat) (a1 : Int32) (a2 : Int32) (x3 : Option AVal) (x4 : Option AVal) (x5 : Option AVal) (x6 : Option AVal) (h : Hp) (c n : Nat), c + 0 ≤ 0 → n + 0 ≤ 0 → w_X12_cutAll_17  Q N a1 a2 h → SW E 17 ([some (vP (some (12, 0))), some (vI (a1)), some (vI (a2)), x3, x4, x5, x6], [], h, c, n) := by
  intro N
  induction N with
  | zero =>
    intro _ _ _ _ _ _ h c n _ _ w
    exact w.elim
  | succ N ih =>
    intro a1 a2 x3 x4 x5 x6 h c n hc hn w
    refine k_X12_cutAll_17 cx hY (fun q => ?_) (fun q => ?_)
    · have w := w.1 q
      exact s_X12_cutAll_279 cx hY eq  (by omega) (by omega) w
    · have w := w.2 q
      exact s_X12_cutAll_25 cx hY eq ih (by omega) (by omega) w
theorem s_X12_cutAll_0 {E : EnvT} {d : Nat} (cx : CX E "ShoreDayModel" cX12_cutAll 7 none "cutAll" (d + 3) 0 0) (hY : eY E = lay1) {Q : Hp → Prop} (eq : EQ E 0 0 (fun r h2 => r = [] ∧ Q h2)) {x1 : Option AVal} {x2 : Option AVal} {x3 : Option AVal} {x4 : Option AVal} {x5 : Option AVal} {x6 : Option AVal} {h : Hp} {c n : Nat} (hc : c + 0 ≤ 0) (hn : n + 0 ≤ 0) (w : w_X12_cutAll_0  Q  h) : SW E 0 ([some (vP (some (12, 0))), x1, x2, x3, x4, x5, x6], [], h, c, n) := by
  refine k_X12_cutAll_0 cx hY ?_
  obtain ⟨N1, w⟩ := w
  exact s_X12_cutAll_17 cx hY eq  _ _ _ _ _ _ _ _ _ _ (by omega) (by omega) w
def wp_X12_cutAll (h : Hp) (Q : Hp → Prop) : Prop := w_X12_cutAll_0 Q  h
theorem vc_X12_cutAll {l : Launch} {d : Nat} {h : Hp} {Q : Hp → Prop} (w : wp_X12_cutAll h Q) : Ct l lay1 yX12_cutAll cX12_cutAll 7 none (d + 3) 0 0 [vP (some (12, 0))] h (fun r h2 => r = [] ∧ Q h2) := by
  exact Ct.of (by decide) (Nat.le_of_ble_eq_true rfl) fun E cx eq hl hY => s_X12_cutAll_0 cx hY eq (Nat.le_refl _) (Nat.le_refl _) w
def w_X12_wrong_25 (Q : Hp → Prop) (a1 : Int32) (h : Hp) : Prop := Q (h)
def w_X12_wrong_7 (Q : Hp → Prop) (a1 : Int32) (h : Hp) : Prop := vp_in (gI (h) 12 (0) (7)) 602 ∧ (w_X12_wrong_25  Q (a1) (wI (h) 12 (0) 8 ((a1) + (((16 : Int32)) * (gI (h) 105 (0) (tN (gI (h) 12 (0) (7))))))))
def w_X12_wrong_0 (Q : Hp → Prop) (a1 : Int32) (h : Hp) : Prop := (¬ (gI (h) 12 (0) (8)) = 0 → w_X12_wrong_25  Q (a1) (h)) ∧ ((gI (h) 12 (0) (8)) = 0 → w_X12_wrong_7  Q (a1) (h))
theorem s_X12_wrong_25 {E : EnvT} {d : Nat} (cx : CX E "ShoreDayModel" cX12_wrong 2 none "wrong" (d + 1) 0 0) (hY : eY E = lay1) {Q : Hp → Prop} (eq : EQ E 0 0 (fun r h2 => r = [] ∧ Q h2)) {a1 : Int32} {h : Hp} {c n : Nat} (hc : c + 0 ≤ 0) (hn : n + 0 ≤ 0) (w : w_X12_wrong_25  Q a1 h) : SW E 25 ([some (vP (some (12, 0))), some (vI (a1))], [], h, c, n) := by
  exact k_X12_wrong_25 cx hY eq (by omega) (by omega) ⟨rfl, w⟩
theorem s_X12_wrong_7 {E : EnvT} {d : Nat} (cx : CX E "ShoreDayModel" cX12_wrong 2 none "wrong" (d + 1) 0 0) (hY : eY E = lay1) {Q : Hp → Prop} (eq : EQ E 0 0 (fun r h2 => r = [] ∧ Q h2)) {a1 : Int32} {h : Hp} {c n : Nat} (hc : c + 0 ≤ 0) (hn : n + 0 ≤ 0) (w : w_X12_wrong_7  Q a1 h) : SW E 7 ([some (vP (some (12, 0))), some (vI (a1))], [], h, c, n) := by
  obtain ⟨G1, w⟩ := w
  refine k_X12_wrong_7 cx hY G1 ?_
  exact s_X12_wrong_25 cx hY eq  (by omega) (by omega) w
theorem s_X12_wrong_0 {E : EnvT} {d : Nat} (cx : CX E "ShoreDayModel" cX12_wrong 2 none "wrong" (d + 1) 0 0) (hY : eY E = lay1) {Q : Hp → Prop} (eq : EQ E 0 0 (fun r h2 => r = [] ∧ Q h2)) {a1 : Int32} {h : Hp} {c n : Nat} (hc : c + 0 ≤ 0) (hn : n + 0 ≤ 0) (w : w_X12_wrong_0  Q a1 h) : SW E 0 ([some (vP (some (12, 0))), some (vI (a1))], [], h, c, n) := by
  refine k_X12_wrong_0 cx hY (fun q => ?_) (fun q => ?_)
  · have w := w.1 q
    exact s_X12_wrong_25 cx hY eq  (by omega) (by omega) w
  · have w := w.2 q
    exact s_X12_wrong_7 cx hY eq  (by omega) (by omega) w
def wp_X12_wrong (a1 : Int32) (h : Hp) (Q : Hp → Prop) : Prop := w_X12_wrong_0 Q a1 h
theorem vc_X12_wrong {l : Launch} {d : Nat} {a1 : Int32} {h : Hp} {Q : Hp → Prop} (w : wp_X12_wrong a1 h Q) : Ct l lay1 yX12_wrong cX12_wrong 2 none (d + 1) 0 0 [vP (some (12, 0)), vI a1] h (fun r h2 => r = [] ∧ Q h2) := by
  exact Ct.of (by decide) (Nat.le_of_ble_eq_true rfl) fun E cx eq hl hY => s_X12_wrong_0 cx hY eq (Nat.le_refl _) (Nat.le_refl _) w
def w_X12_isSign_40 (Q : Int32 → Hp → Prop) (a1 : Int32) (s0 : Int32) (h : Hp) : Prop := ((s0) = 0 ∨ (s0) = 1) ∧ Q (s0) (h)
def w_X12_isSign_39 (Q : Int32 → Hp → Prop) (a1 : Int32) (h : Hp) : Prop := w_X12_isSign_40  Q (a1) ((0 : Int32)) (h)
def w_X12_isSign_35 (Q : Int32 → Hp → Prop) (a1 : Int32) (h : Hp) : Prop := w_X12_isSign_40  Q (a1) ((1 : Int32)) (h)
def w_X12_isSign_20 (Q : Int32 → Hp → Prop) (a1 : Int32) (h : Hp) : Prop := vp_in (gI (h) 12 (0) (7)) 602 ∧ ((¬ (lg_cmp (gL (h) 106 (0) (tN (gI (h) 12 (0) (7)))) ((a1).toInt64)) = 0 → w_X12_isSign_39  Q (a1) (h)) ∧ ((lg_cmp (gL (h) 106 (0) (tN (gI (h) 12 (0) (7)))) ((a1).toInt64)) = 0 → w_X12_isSign_35  Q (a1) (h)))
def w_X12_isSign_7 (Q : Int32 → Hp → Prop) (a1 : Int32) (h : Hp) : Prop := vp_in (gI (h) 12 (0) (7)) 602 ∧ ((¬ (gI (h) 104 (0) (tN (gI (h) 12 (0) (7)))) = ((3 : Int32)) → w_X12_isSign_39  Q (a1) (h)) ∧ ((gI (h) 104 (0) (tN (gI (h) 12 (0) (7)))) = ((3 : Int32)) → w_X12_isSign_20  Q (a1) (h)))
def w_X12_isSign_0 (Q : Int32 → Hp → Prop) (a1 : Int32) (h : Hp) : Prop := (¬ (gI (h) 12 (0) (8)) = 0 → w_X12_isSign_39  Q (a1) (h)) ∧ ((gI (h) 12 (0) (8)) = 0 → w_X12_isSign_7  Q (a1) (h))
theorem s_X12_isSign_40 {E : EnvT} {d : Nat} (cx : CX E "ShoreDayModel" cX12_isSign 2 (some .boolean) "isSign" (d + 1) 0 0) (hY : eY E = lay1) {Q : Int32 → Hp → Prop} (eq : EQ E 0 0 (fun r h2 => ∃ x, r = [vI x] ∧ Q x h2)) {a1 : Int32} {s0 : Int32} {h : Hp} {c n : Nat} (hc : c + 0 ≤ 0) (hn : n + 0 ≤ 0) (w : w_X12_isSign_40  Q a1 s0 h) : SW E 40 ([some (vP (some (12, 0))), some (vI (a1))], [vI (s0)], h, c, n) := by
  exact k_X12_isSign_40 cx hY eq (by omega) (by omega) w.1 ⟨_, rfl, w.2⟩
theorem s_X12_isSign_39 {E : EnvT} {d : Nat} (cx : CX E "ShoreDayModel" cX12_isSign 2 (some .boolean) "isSign" (d + 1) 0 0) (hY : eY E = lay1) {Q : Int32 → Hp → Prop} (eq : EQ E 0 0 (fun r h2 => ∃ x, r = [vI x] ∧ Q x h2)) {a1 : Int32} {h : Hp} {c n : Nat} (hc : c + 0 ≤ 0) (hn : n + 0 ≤ 0) (w : w_X12_isSign_39  Q a1 h) : SW E 39 ([some (vP (some (12, 0))), some (vI (a1))], [], h, c, n) := by
  refine k_X12_isSign_39 cx hY ?_
  exact s_X12_isSign_40 cx hY eq  (by omega) (by omega) w
theorem s_X12_isSign_35 {E : EnvT} {d : Nat} (cx : CX E "ShoreDayModel" cX12_isSign 2 (some .boolean) "isSign" (d + 1) 0 0) (hY : eY E = lay1) {Q : Int32 → Hp → Prop} (eq : EQ E 0 0 (fun r h2 => ∃ x, r = [vI x] ∧ Q x h2)) {a1 : Int32} {h : Hp} {c n : Nat} (hc : c + 0 ≤ 0) (hn : n + 0 ≤ 0) (w : w_X12_isSign_35  Q a1 h) : SW E 35 ([some (vP (some (12, 0))), some (vI (a1))], [], h, c, n) := by
  refine k_X12_isSign_35 cx hY ?_
  exact s_X12_isSign_40 cx hY eq  (by omega) (by omega) w
theorem s_X12_isSign_20 {E : EnvT} {d : Nat} (cx : CX E "ShoreDayModel" cX12_isSign 2 (some .boolean) "isSign" (d + 1) 0 0) (hY : eY E = lay1) {Q : Int32 → Hp → Prop} (eq : EQ E 0 0 (fun r h2 => ∃ x, r = [vI x] ∧ Q x h2)) {a1 : Int32} {h : Hp} {c n : Nat} (hc : c + 0 ≤ 0) (hn : n + 0 ≤ 0) (w : w_X12_isSign_20  Q a1 h) : SW E 20 ([some (vP (some (12, 0))), some (vI (a1))], [], h, c, n) := by
  obtain ⟨G1, w⟩ := w
  refine k_X12_isSign_20 cx hY G1 (fun q => ?_) (fun q => ?_)
  · have w := w.1 q
    exact s_X12_isSign_39 cx hY eq  (by omega) (by omega) w
  · have w := w.2 q
    exact s_X12_isSign_35 cx hY eq  (by omega) (by omega) w
theorem s_X12_isSign_7 {E : EnvT} {d : Nat} (cx : CX E "ShoreDayModel" cX12_isSign 2 (some .boolean) "isSign" (d + 1) 0 0) (hY : eY E = lay1) {Q : Int32 → Hp → Prop} (eq : EQ E 0 0 (fun r h2 => ∃ x, r = [vI x] ∧ Q x h2)) {a1 : Int32} {h : Hp} {c n : Nat} (hc : c + 0 ≤ 0) (hn : n + 0 ≤ 0) (w : w_X12_isSign_7  Q a1 h) : SW E 7 ([some (vP (some (12, 0))), some (vI (a1))], [], h, c, n) := by
  obtain ⟨G1, w⟩ := w
  refine k_X12_isSign_7 cx hY G1 (fun q => ?_) (fun q => ?_)
  · have w := w.1 q
    exact s_X12_isSign_39 cx hY eq  (by omega) (by omega) w
  · have w := w.2 q
    exact s_X12_isSign_20 cx hY eq  (by omega) (by omega) w
theorem s_X12_isSign_0 {E : EnvT} {d : Nat} (cx : CX E "ShoreDayModel" cX12_isSign 2 (some .boolean) "isSign" (d + 1) 0 0) (hY : eY E = lay1) {Q : Int32 → Hp → Prop} (eq : EQ E 0 0 (fun r h2 => ∃ x, r = [vI x] ∧ Q x h2)) {a1 : Int32} {h : Hp} {c n : Nat} (hc : c + 0 ≤ 0) (hn : n + 0 ≤ 0) (w : w_X12_isSign_0  Q a1 h) : SW E 0 ([some (vP (some (12, 0))), some (vI (a1))], [], h, c, n) := by
  refine k_X12_isSign_0 cx hY (fun q => ?_) (fun q => ?_)
  · have w := w.1 q
    exact s_X12_isSign_39 cx hY eq  (by omega) (by omega) w
  · have w := w.2 q
    exact s_X12_isSign_7 cx hY eq  (by omega) (by omega) w
def wp_X12_isSign (a1 : Int32) (h : Hp) (Q : Int32 → Hp → Prop) : Prop := w_X12_isSign_0 Q a1 h
theorem vc_X12_isSign {l : Launch} {d : Nat} {a1 : Int32} {h : Hp} {Q : Int32 → Hp → Prop} (w : wp_X12_isSign a1 h Q) : Ct l lay1 yX12_isSign cX12_isSign 2 (some .boolean) (d + 1) 0 0 [vP (some (12, 0)), vI a1] h (fun r h2 => ∃ x, r = [vI x] ∧ Q x h2) := by
  exact Ct.of (by decide) (Nat.le_of_ble_eq_true rfl) fun E cx eq hl hY => s_X12_isSign_0 cx hY eq (Nat.le_refl _) (Nat.le_refl _) w
def w_X12_isWord_44 (Q : Int32 → Hp → Prop) (a1 : Int32) (s0 : Int32) (h : Hp) : Prop := ((s0) = 0 ∨ (s0) = 1) ∧ Q (s0) (h)
def w_X12_isWord_43 (Q : Int32 → Hp → Prop) (a1 : Int32) (h : Hp) : Prop := w_X12_isWord_44  Q (a1) ((0 : Int32)) (h)
def w_X12_isWord_39 (Q : Int32 → Hp → Prop) (a1 : Int32) (h : Hp) : Prop := w_X12_isWord_44  Q (a1) ((1 : Int32)) (h)
def w_X12_isWord_20 (Q : Int32 → Hp → Prop) (a1 : Int32) (h : Hp) : Prop := vp_in (gI (h) 12 (0) (7)) 602 ∧ (vp_in (a1) 9 ∧ ((¬ (lg_cmp (gL (h) 106 (0) (tN (gI (h) 12 (0) (7)))) (gL (h) 109 (0) (tN (a1)))) = 0 → w_X12_isWord_43  Q (a1) (h)) ∧ ((lg_cmp (gL (h) 106 (0) (tN (gI (h) 12 (0) (7)))) (gL (h) 109 (0) (tN (a1)))) = 0 → w_X12_isWord_39  Q (a1) (h))))
def w_X12_isWord_7 (Q : Int32 → Hp → Prop) (a1 : Int32) (h : Hp) : Prop := vp_in (gI (h) 12 (0) (7)) 602 ∧ ((¬ (gI (h) 104 (0) (tN (gI (h) 12 (0) (7)))) = ((1 : Int32)) → w_X12_isWord_43  Q (a1) (h)) ∧ ((gI (h) 104 (0) (tN (gI (h) 12 (0) (7)))) = ((1 : Int32)) → w_X12_isWord_20  Q (a1) (h)))
def w_X12_isWord_0 (Q : Int32 → Hp → Prop) (a1 : Int32) (h : Hp) : Prop := (¬ (gI (h) 12 (0) (8)) = 0 → w_X12_isWord_43  Q (a1) (h)) ∧ ((gI (h) 12 (0) (8)) = 0 → w_X12_isWord_7  Q (a1) (h))
theorem s_X12_isWord_44 {E : EnvT} {d : Nat} (cx : CX E "ShoreDayModel" cX12_isWord 2 (some .boolean) "isWord" (d + 1) 0 0) (hY : eY E = lay1) {Q : Int32 → Hp → Prop} (eq : EQ E 0 0 (fun r h2 => ∃ x, r = [vI x] ∧ Q x h2)) {a1 : Int32} {s0 : Int32} {h : Hp} {c n : Nat} (hc : c + 0 ≤ 0) (hn : n + 0 ≤ 0) (w : w_X12_isWord_44  Q a1 s0 h) : SW E 44 ([some (vP (some (12, 0))), some (vI (a1))], [vI (s0)], h, c, n) := by
  exact k_X12_isWord_44 cx hY eq (by omega) (by omega) w.1 ⟨_, rfl, w.2⟩
theorem s_X12_isWord_43 {E : EnvT} {d : Nat} (cx : CX E "ShoreDayModel" cX12_isWord 2 (some .boolean) "isWord" (d + 1) 0 0) (hY : eY E = lay1) {Q : Int32 → Hp → Prop} (eq : EQ E 0 0 (fun r h2 => ∃ x, r = [vI x] ∧ Q x h2)) {a1 : Int32} {h : Hp} {c n : Nat} (hc : c + 0 ≤ 0) (hn : n + 0 ≤ 0) (w : w_X12_isWord_43  Q a1 h) : SW E 43 ([some (vP (some (12, 0))), some (vI (a1))], [], h, c, n) := by
  refine k_X12_isWord_43 cx hY ?_
  exact s_X12_isWord_44 cx hY eq  (by omega) (by omega) w
theorem s_X12_isWord_39 {E : EnvT} {d : Nat} (cx : CX E "ShoreDayModel" cX12_isWord 2 (some .boolean) "isWord" (d + 1) 0 0) (hY : eY E = lay1) {Q : Int32 → Hp → Prop} (eq : EQ E 0 0 (fun r h2 => ∃ x, r = [vI x] ∧ Q x h2)) {a1 : Int32} {h : Hp} {c n : Nat} (hc : c + 0 ≤ 0) (hn : n + 0 ≤ 0) (w : w_X12_isWord_39  Q a1 h) : SW E 39 ([some (vP (some (12, 0))), some (vI (a1))], [], h, c, n) := by
  refine k_X12_isWord_39 cx hY ?_
  exact s_X12_isWord_44 cx hY eq  (by omega) (by omega) w
theorem s_X12_isWord_20 {E : EnvT} {d : Nat} (cx : CX E "ShoreDayModel" cX12_isWord 2 (some .boolean) "isWord" (d + 1) 0 0) (hY : eY E = lay1) {Q : Int32 → Hp → Prop} (eq : EQ E 0 0 (fun r h2 => ∃ x, r = [vI x] ∧ Q x h2)) {a1 : Int32} {h : Hp} {c n : Nat} (hc : c + 0 ≤ 0) (hn : n + 0 ≤ 0) (w : w_X12_isWord_20  Q a1 h) : SW E 20 ([some (vP (some (12, 0))), some (vI (a1))], [], h, c, n) := by
  obtain ⟨G1, G2, w⟩ := w
  refine k_X12_isWord_20 cx hY G1 G2 (fun q => ?_) (fun q => ?_)
  · have w := w.1 q
    exact s_X12_isWord_43 cx hY eq  (by omega) (by omega) w
  · have w := w.2 q
    exact s_X12_isWord_39 cx hY eq  (by omega) (by omega) w
theorem s_X12_isWord_7 {E : EnvT} {d : Nat} (cx : CX E "ShoreDayModel" cX12_isWord 2 (some .boolean) "isWord" (d + 1) 0 0) (hY : eY E = lay1) {Q : Int32 → Hp → Prop} (eq : EQ E 0 0 (fun r h2 => ∃ x, r = [vI x] ∧ Q x h2)) {a1 : Int32} {h : Hp} {c n : Nat} (hc : c + 0 ≤ 0) (hn : n + 0 ≤ 0) (w : w_X12_isWord_7  Q a1 h) : SW E 7 ([some (vP (some (12, 0))), some (vI (a1))], [], h, c, n) := by
  obtain ⟨G1, w⟩ := w
  refine k_X12_isWord_7 cx hY G1 (fun q => ?_) (fun q => ?_)
  · have w := w.1 q
    exact s_X12_isWord_43 cx hY eq  (by omega) (by omega) w
  · have w := w.2 q
    exact s_X12_isWord_20 cx hY eq  (by omega) (by omega) w
theorem s_X12_isWord_0 {E : EnvT} {d : Nat} (cx : CX E "ShoreDayModel" cX12_isWord 2 (some .boolean) "isWord" (d + 1) 0 0) (hY : eY E = lay1) {Q : Int32 → Hp → Prop} (eq : EQ E 0 0 (fun r h2 => ∃ x, r = [vI x] ∧ Q x h2)) {a1 : Int32} {h : Hp} {c n : Nat} (hc : c + 0 ≤ 0) (hn : n + 0 ≤ 0) (w : w_X12_isWord_0  Q a1 h) : SW E 0 ([some (vP (some (12, 0))), some (vI (a1))], [], h, c, n) := by
  refine k_X12_isWord_0 cx hY (fun q => ?_) (fun q => ?_)
  · have w := w.1 q
    exact s_X12_isWord_43 cx hY eq  (by omega) (by omega) w
  · have w := w.2 q
    exact s_X12_isWord_7 cx hY eq  (by omega) (by omega) w
def wp_X12_isWord (a1 : Int32) (h : Hp) (Q : Int32 → Hp → Prop) : Prop := w_X12_isWord_0 Q a1 h
theorem vc_X12_isWord {l : Launch} {d : Nat} {a1 : Int32} {h : Hp} {Q : Int32 → Hp → Prop} (w : wp_X12_isWord a1 h Q) : Ct l lay1 yX12_isWord cX12_isWord 2 (some .boolean) (d + 1) 0 0 [vP (some (12, 0)), vI a1] h (fun r h2 => ∃ x, r = [vI x] ∧ Q x h2) := by
  exact Ct.of (by decide) (Nat.le_of_ble_eq_true rfl) fun E cx eq hl hY => s_X12_isWord_0 cx hY eq (Nat.le_refl _) (Nat.le_refl _) w
def w_X12_takeSign_26 (Q : Hp → Prop) (a1 : Int32) (h : Hp) : Prop := Q (h)
def w_X12_takeSign_21 (Q : Hp → Prop) (a1 : Int32) (h : Hp) : Prop := wp_X12_wrong ((1 : Int32)) (h) (fun h2 => w_X12_takeSign_26  Q (a1) (h2))
def w_X12_takeSign_8 (Q : Hp → Prop) (a1 : Int32) (h : Hp) : Prop := w_X12_takeSign_26  Q (a1) (wI (h) 12 (0) 7 ((gI (h) 12 (0) (7)) + ((1 : Int32))))
def w_X12_takeSign_5 (Q : Hp → Prop) (a1 : Int32) (s0 : Int32) (h : Hp) : Prop := ((s0) = 0 → w_X12_takeSign_21  Q (a1) (h)) ∧ (¬ (s0) = 0 → w_X12_takeSign_8  Q (a1) (h))
def w_X12_takeSign_0 (Q : Hp → Prop) (a1 : Int32) (h : Hp) : Prop := wp_X12_isSign (a1) (h) (fun r2 h2 => w_X12_takeSign_5  Q (a1) (r2) (h2))
theorem s_X12_takeSign_26 {E : EnvT} {d : Nat} (cx : CX E "ShoreDayModel" cX12_takeSign 2 none "takeSign" (d + 2) 0 0) (hY : eY E = lay1) {Q : Hp → Prop} (eq : EQ E 0 0 (fun r h2 => r = [] ∧ Q h2)) {a1 : Int32} {h : Hp} {c n : Nat} (hc : c + 0 ≤ 0) (hn : n + 0 ≤ 0) (w : w_X12_takeSign_26  Q a1 h) : SW E 26 ([some (vP (some (12, 0))), some (vI (a1))], [], h, c, n) := by
  exact k_X12_takeSign_26 cx hY eq (by omega) (by omega) ⟨rfl, w⟩
theorem s_X12_takeSign_21 {E : EnvT} {d : Nat} (cx : CX E "ShoreDayModel" cX12_takeSign 2 none "takeSign" (d + 2) 0 0) (hY : eY E = lay1) {Q : Hp → Prop} (eq : EQ E 0 0 (fun r h2 => r = [] ∧ Q h2)) {a1 : Int32} {h : Hp} {c n : Nat} (hc : c + 0 ≤ 0) (hn : n + 0 ≤ 0) (w : w_X12_takeSign_21  Q a1 h) : SW E 21 ([some (vP (some (12, 0))), some (vI (a1))], [], h, c, n) := by
  refine k_X12_takeSign_21 cx hY (ctY hY (vc_X12_wrong (d := d + 0) w)) (by omega) (by omega) (by omega) (fun r h2 hp => ?_)
  obtain ⟨rfl, w⟩ := hp
  exact s_X12_takeSign_26 cx hY eq  (by omega) (by omega) w
theorem s_X12_takeSign_8 {E : EnvT} {d : Nat} (cx : CX E "ShoreDayModel" cX12_takeSign 2 none "takeSign" (d + 2) 0 0) (hY : eY E = lay1) {Q : Hp → Prop} (eq : EQ E 0 0 (fun r h2 => r = [] ∧ Q h2)) {a1 : Int32} {h : Hp} {c n : Nat} (hc : c + 0 ≤ 0) (hn : n + 0 ≤ 0) (w : w_X12_takeSign_8  Q a1 h) : SW E 8 ([some (vP (some (12, 0))), some (vI (a1))], [], h, c, n) := by
  refine k_X12_takeSign_8 cx hY ?_
  exact s_X12_takeSign_26 cx hY eq  (by omega) (by omega) w
theorem s_X12_takeSign_5 {E : EnvT} {d : Nat} (cx : CX E "ShoreDayModel" cX12_takeSign 2 none "takeSign" (d + 2) 0 0) (hY : eY E = lay1) {Q : Hp → Prop} (eq : EQ E 0 0 (fun r h2 => r = [] ∧ Q h2)) {a1 : Int32} {s0 : Int32} {h : Hp} {c n : Nat} (hc : c + 0 ≤ 0) (hn : n + 0 ≤ 0) (w : w_X12_takeSign_5  Q a1 s0 h) : SW E 5 ([some (vP (some (12, 0))), some (vI (a1))], [vI (s0)], h, c, n) := by
  refine k_X12_takeSign_5 cx hY (fun q => ?_) (fun q => ?_)
  · have w := w.1 q
    exact s_X12_takeSign_21 cx hY eq  (by omega) (by omega) w
  · have w := w.2 q
    exact s_X12_takeSign_8 cx hY eq  (by omega) (by omega) w
theorem s_X12_takeSign_0 {E : EnvT} {d : Nat} (cx : CX E "ShoreDayModel" cX12_takeSign 2 none "takeSign" (d + 2) 0 0) (hY : eY E = lay1) {Q : Hp → Prop} (eq : EQ E 0 0 (fun r h2 => r = [] ∧ Q h2)) {a1 : Int32} {h : Hp} {c n : Nat} (hc : c + 0 ≤ 0) (hn : n + 0 ≤ 0) (w : w_X12_takeSign_0  Q a1 h) : SW E 0 ([some (vP (some (12, 0))), some (vI (a1))], [], h, c, n) := by
  refine k_X12_takeSign_0 cx hY (ctY hY (vc_X12_isSign (d := d + 0) w)) (by omega) (by omega) (by omega) (fun r h2 hp => ?_)
  obtain ⟨r2, rfl, w⟩ := hp
  exact s_X12_takeSign_5 cx hY eq  (by omega) (by omega) w
def wp_X12_takeSign (a1 : Int32) (h : Hp) (Q : Hp → Prop) : Prop := w_X12_takeSign_0 Q a1 h
theorem vc_X12_takeSign {l : Launch} {d : Nat} {a1 : Int32} {h : Hp} {Q : Hp → Prop} (w : wp_X12_takeSign a1 h Q) : Ct l lay1 yX12_takeSign cX12_takeSign 2 none (d + 2) 0 0 [vP (some (12, 0)), vI a1] h (fun r h2 => r = [] ∧ Q h2) := by
  exact Ct.of (by decide) (Nat.le_of_ble_eq_true rfl) fun E cx eq hl hY => s_X12_takeSign_0 cx hY eq (Nat.le_refl _) (Nat.le_refl _) w
def w_X12_hasSign_20 (Q : Int32 → Hp → Prop) (a1 : Int32) (a2 : Int32) (s1 : Int32) (s2 : Int32) (h : Hp) : Prop := ((a2) = 0 ∨ (a2) = 1) ∧ Q (a2) (wI (h) 12 (0) 7 ((s1) + (s2)))
def w_X12_hasSign_19 (Q : Int32 → Hp → Prop) (a1 : Int32) (a2 : Int32) (s1 : Int32) (h : Hp) : Prop := w_X12_hasSign_20  Q (a1) (a2) (s1) ((0 : Int32)) (h)
def w_X12_hasSign_15 (Q : Int32 → Hp → Prop) (a1 : Int32) (a2 : Int32) (s1 : Int32) (h : Hp) : Prop := w_X12_hasSign_20  Q (a1) (a2) (s1) ((1 : Int32)) (h)
def w_X12_hasSign_5 (Q : Int32 → Hp → Prop) (a1 : Int32) (s0 : Int32) (h : Hp) : Prop := ((s0) = 0 → w_X12_hasSign_19  Q (a1) (s0) (gI (h) 12 (0) (7)) (h)) ∧ (¬ (s0) = 0 → w_X12_hasSign_15  Q (a1) (s0) (gI (h) 12 (0) (7)) (h))
def w_X12_hasSign_0 (Q : Int32 → Hp → Prop) (a1 : Int32) (h : Hp) : Prop := wp_X12_isSign (a1) (h) (fun r2 h2 => w_X12_hasSign_5  Q (a1) (r2) (h2))
theorem s_X12_hasSign_20 {E : EnvT} {d : Nat} (cx : CX E "ShoreDayModel" cX12_hasSign 3 (some .boolean) "hasSign" (d + 2) 0 0) (hY : eY E = lay1) {Q : Int32 → Hp → Prop} (eq : EQ E 0 0 (fun r h2 => ∃ x, r = [vI x] ∧ Q x h2)) {a1 : Int32} {a2 : Int32} {s1 : Int32} {s2 : Int32} {h : Hp} {c n : Nat} (hc : c + 0 ≤ 0) (hn : n + 0 ≤ 0) (w : w_X12_hasSign_20  Q a1 a2 s1 s2 h) : SW E 20 ([some (vP (some (12, 0))), some (vI (a1)), some (vI (a2))], [vI (s2), vI (s1), vP (some (12, 0))], h, c, n) := by
  exact k_X12_hasSign_20 cx hY eq (by omega) (by omega) w.1 ⟨_, rfl, w.2⟩
theorem s_X12_hasSign_19 {E : EnvT} {d : Nat} (cx : CX E "ShoreDayModel" cX12_hasSign 3 (some .boolean) "hasSign" (d + 2) 0 0) (hY : eY E = lay1) {Q : Int32 → Hp → Prop} (eq : EQ E 0 0 (fun r h2 => ∃ x, r = [vI x] ∧ Q x h2)) {a1 : Int32} {a2 : Int32} {s1 : Int32} {h : Hp} {c n : Nat} (hc : c + 0 ≤ 0) (hn : n + 0 ≤ 0) (w : w_X12_hasSign_19  Q a1 a2 s1 h) : SW E 19 ([some (vP (some (12, 0))), some (vI (a1)), some (vI (a2))], [vI (s1), vP (some (12, 0))], h, c, n) := by
  refine k_X12_hasSign_19 cx hY ?_
  exact s_X12_hasSign_20 cx hY eq  (by omega) (by omega) w
theorem s_X12_hasSign_15 {E : EnvT} {d : Nat} (cx : CX E "ShoreDayModel" cX12_hasSign 3 (some .boolean) "hasSign" (d + 2) 0 0) (hY : eY E = lay1) {Q : Int32 → Hp → Prop} (eq : EQ E 0 0 (fun r h2 => ∃ x, r = [vI x] ∧ Q x h2)) {a1 : Int32} {a2 : Int32} {s1 : Int32} {h : Hp} {c n : Nat} (hc : c + 0 ≤ 0) (hn : n + 0 ≤ 0) (w : w_X12_hasSign_15  Q a1 a2 s1 h) : SW E 15 ([some (vP (some (12, 0))), some (vI (a1)), some (vI (a2))], [vI (s1), vP (some (12, 0))], h, c, n) := by
  refine k_X12_hasSign_15 cx hY ?_
  exact s_X12_hasSign_20 cx hY eq  (by omega) (by omega) w
theorem s_X12_hasSign_5 {E : EnvT} {d : Nat} (cx : CX E "ShoreDayModel" cX12_hasSign 3 (some .boolean) "hasSign" (d + 2) 0 0) (hY : eY E = lay1) {Q : Int32 → Hp → Prop} (eq : EQ E 0 0 (fun r h2 => ∃ x, r = [vI x] ∧ Q x h2)) {a1 : Int32} {x2 : Option AVal} {s0 : Int32} {h : Hp} {c n : Nat} (hc : c + 0 ≤ 0) (hn : n + 0 ≤ 0) (w : w_X12_hasSign_5  Q a1 s0 h) : SW E 5 ([some (vP (some (12, 0))), some (vI (a1)), x2], [vI (s0)], h, c, n) := by
  refine k_X12_hasSign_5 cx hY (fun q => ?_) (fun q => ?_)
  · have w := w.1 q
    exact s_X12_hasSign_19 cx hY eq  (by omega) (by omega) w
  · have w := w.2 q
    exact s_X12_hasSign_15 cx hY eq  (by omega) (by omega) w
theorem s_X12_hasSign_0 {E : EnvT} {d : Nat} (cx : CX E "ShoreDayModel" cX12_hasSign 3 (some .boolean) "hasSign" (d + 2) 0 0) (hY : eY E = lay1) {Q : Int32 → Hp → Prop} (eq : EQ E 0 0 (fun r h2 => ∃ x, r = [vI x] ∧ Q x h2)) {a1 : Int32} {x2 : Option AVal} {h : Hp} {c n : Nat} (hc : c + 0 ≤ 0) (hn : n + 0 ≤ 0) (w : w_X12_hasSign_0  Q a1 h) : SW E 0 ([some (vP (some (12, 0))), some (vI (a1)), x2], [], h, c, n) := by
  refine k_X12_hasSign_0 cx hY (ctY hY (vc_X12_isSign (d := d + 0) w)) (by omega) (by omega) (by omega) (fun r h2 hp => ?_)
  obtain ⟨r2, rfl, w⟩ := hp
  exact s_X12_hasSign_5 cx hY eq  (by omega) (by omega) w
def wp_X12_hasSign (a1 : Int32) (h : Hp) (Q : Int32 → Hp → Prop) : Prop := w_X12_hasSign_0 Q a1 h
theorem vc_X12_hasSign {l : Launch} {d : Nat} {a1 : Int32} {h : Hp} {Q : Int32 → Hp → Prop} (w : wp_X12_hasSign a1 h Q) : Ct l lay1 yX12_hasSign cX12_hasSign 3 (some .boolean) (d + 2) 0 0 [vP (some (12, 0)), vI a1] h (fun r h2 => ∃ x, r = [vI x] ∧ Q x h2) := by
  exact Ct.of (by decide) (Nat.le_of_ble_eq_true rfl) fun E cx eq hl hY => s_X12_hasSign_0 cx hY eq (Nat.le_refl _) (Nat.le_refl _) w
def w_X12_hasWord_20 (Q : Int32 → Hp → Prop) (a1 : Int32) (a2 : Int32) (s1 : Int32) (s2 : Int32) (h : Hp) : Prop := ((a2) = 0 ∨ (a2) = 1) ∧ Q (a2) (wI (h) 12 (0) 7 ((s1) + (s2)))
def w_X12_hasWord_19 (Q : Int32 → Hp → Prop) (a1 : Int32) (a2 : Int32) (s1 : Int32) (h : Hp) : Prop := w_X12_hasWord_20  Q (a1) (a2) (s1) ((0 : Int32)) (h)
def w_X12_hasWord_15 (Q : Int32 → Hp → Prop) (a1 : Int32) (a2 : Int32) (s1 : Int32) (h : Hp) : Prop := w_X12_hasWord_20  Q (a1) (a2) (s1) ((1 : Int32)) (h)
def w_X12_hasWord_5 (Q : Int32 → Hp → Prop) (a1 : Int32) (s0 : Int32) (h : Hp) : Prop := ((s0) = 0 → w_X12_hasWord_19  Q (a1) (s0) (gI (h) 12 (0) (7)) (h)) ∧ (¬ (s0) = 0 → w_X12_hasWord_15  Q (a1) (s0) (gI (h) 12 (0) (7)) (h))
def w_X12_hasWord_0 (Q : Int32 → Hp → Prop) (a1 : Int32) (h : Hp) : Prop := wp_X12_isWord (a1) (h) (fun r2 h2 => w_X12_hasWord_5  Q (a1) (r2) (h2))
theorem s_X12_hasWord_20 {E : EnvT} {d : Nat} (cx : CX E "ShoreDayModel" cX12_hasWord 3 (some .boolean) "hasWord" (d + 2) 0 0) (hY : eY E = lay1) {Q : Int32 → Hp → Prop} (eq : EQ E 0 0 (fun r h2 => ∃ x, r = [vI x] ∧ Q x h2)) {a1 : Int32} {a2 : Int32} {s1 : Int32} {s2 : Int32} {h : Hp} {c n : Nat} (hc : c + 0 ≤ 0) (hn : n + 0 ≤ 0) (w : w_X12_hasWord_20  Q a1 a2 s1 s2 h) : SW E 20 ([some (vP (some (12, 0))), some (vI (a1)), some (vI (a2))], [vI (s2), vI (s1), vP (some (12, 0))], h, c, n) := by
  exact k_X12_hasWord_20 cx hY eq (by omega) (by omega) w.1 ⟨_, rfl, w.2⟩
theorem s_X12_hasWord_19 {E : EnvT} {d : Nat} (cx : CX E "ShoreDayModel" cX12_hasWord 3 (some .boolean) "hasWord" (d + 2) 0 0) (hY : eY E = lay1) {Q : Int32 → Hp → Prop} (eq : EQ E 0 0 (fun r h2 => ∃ x, r = [vI x] ∧ Q x h2)) {a1 : Int32} {a2 : Int32} {s1 : Int32} {h : Hp} {c n : Nat} (hc : c + 0 ≤ 0) (hn : n + 0 ≤ 0) (w : w_X12_hasWord_19  Q a1 a2 s1 h) : SW E 19 ([some (vP (some (12, 0))), some (vI (a1)), some (vI (a2))], [vI (s1), vP (some (12, 0))], h, c, n) := by
  refine k_X12_hasWord_19 cx hY ?_
  exact s_X12_hasWord_20 cx hY eq  (by omega) (by omega) w
theorem s_X12_hasWord_15 {E : EnvT} {d : Nat} (cx : CX E "ShoreDayModel" cX12_hasWord 3 (some .boolean) "hasWord" (d + 2) 0 0) (hY : eY E = lay1) {Q : Int32 → Hp → Prop} (eq : EQ E 0 0 (fun r h2 => ∃ x, r = [vI x] ∧ Q x h2)) {a1 : Int32} {a2 : Int32} {s1 : Int32} {h : Hp} {c n : Nat} (hc : c + 0 ≤ 0) (hn : n + 0 ≤ 0) (w : w_X12_hasWord_15  Q a1 a2 s1 h) : SW E 15 ([some (vP (some (12, 0))), some (vI (a1)), some (vI (a2))], [vI (s1), vP (some (12, 0))], h, c, n) := by
  refine k_X12_hasWord_15 cx hY ?_
  exact s_X12_hasWord_20 cx hY eq  (by omega) (by omega) w
theorem s_X12_hasWord_5 {E : EnvT} {d : Nat} (cx : CX E "ShoreDayModel" cX12_hasWord 3 (some .boolean) "hasWord" (d + 2) 0 0) (hY : eY E = lay1) {Q : Int32 → Hp → Prop} (eq : EQ E 0 0 (fun r h2 => ∃ x, r = [vI x] ∧ Q x h2)) {a1 : Int32} {x2 : Option AVal} {s0 : Int32} {h : Hp} {c n : Nat} (hc : c + 0 ≤ 0) (hn : n + 0 ≤ 0) (w : w_X12_hasWord_5  Q a1 s0 h) : SW E 5 ([some (vP (some (12, 0))), some (vI (a1)), x2], [vI (s0)], h, c, n) := by
  refine k_X12_hasWord_5 cx hY (fun q => ?_) (fun q => ?_)
  · have w := w.1 q
    exact s_X12_hasWord_19 cx hY eq  (by omega) (by omega) w
  · have w := w.2 q
    exact s_X12_hasWord_15 cx hY eq  (by omega) (by omega) w
theorem s_X12_hasWord_0 {E : EnvT} {d : Nat} (cx : CX E "ShoreDayModel" cX12_hasWord 3 (some .boolean) "hasWord" (d + 2) 0 0) (hY : eY E = lay1) {Q : Int32 → Hp → Prop} (eq : EQ E 0 0 (fun r h2 => ∃ x, r = [vI x] ∧ Q x h2)) {a1 : Int32} {x2 : Option AVal} {h : Hp} {c n : Nat} (hc : c + 0 ≤ 0) (hn : n + 0 ≤ 0) (w : w_X12_hasWord_0  Q a1 h) : SW E 0 ([some (vP (some (12, 0))), some (vI (a1)), x2], [], h, c, n) := by
  refine k_X12_hasWord_0 cx hY (ctY hY (vc_X12_isWord (d := d + 0) w)) (by omega) (by omega) (by omega) (fun r h2 hp => ?_)
  obtain ⟨r2, rfl, w⟩ := hp
  exact s_X12_hasWord_5 cx hY eq  (by omega) (by omega) w
def wp_X12_hasWord (a1 : Int32) (h : Hp) (Q : Int32 → Hp → Prop) : Prop := w_X12_hasWord_0 Q a1 h
theorem vc_X12_hasWord {l : Launch} {d : Nat} {a1 : Int32} {h : Hp} {Q : Int32 → Hp → Prop} (w : wp_X12_hasWord a1 h Q) : Ct l lay1 yX12_hasWord cX12_hasWord 3 (some .boolean) (d + 2) 0 0 [vP (some (12, 0)), vI a1] h (fun r h2 => ∃ x, r = [vI x] ∧ Q x h2) := by
  exact Ct.of (by decide) (Nat.le_of_ble_eq_true rfl) fun E cx eq hl hY => s_X12_hasWord_0 cx hY eq (Nat.le_refl _) (Nat.le_refl _) w
def w_X12_takeWord_13 (Q : Hp → Prop) (a1 : Int32) (h : Hp) : Prop := Q (h)
def w_X12_takeWord_8 (Q : Hp → Prop) (a1 : Int32) (h : Hp) : Prop := wp_X12_wrong ((1 : Int32)) (h) (fun h2 => w_X12_takeWord_13  Q (a1) (h2))
def w_X12_takeWord_5 (Q : Hp → Prop) (a1 : Int32) (s0 : Int32) (h : Hp) : Prop := (¬ (s0) = 0 → w_X12_takeWord_13  Q (a1) (h)) ∧ ((s0) = 0 → w_X12_takeWord_8  Q (a1) (h))
def w_X12_takeWord_0 (Q : Hp → Prop) (a1 : Int32) (h : Hp) : Prop := wp_X12_hasWord (a1) (h) (fun r2 h2 => w_X12_takeWord_5  Q (a1) (r2) (h2))
theorem s_X12_takeWord_13 {E : EnvT} {d : Nat} (cx : CX E "ShoreDayModel" cX12_takeWord 2 none "takeWord" (d + 3) 0 0) (hY : eY E = lay1) {Q : Hp → Prop} (eq : EQ E 0 0 (fun r h2 => r = [] ∧ Q h2)) {a1 : Int32} {h : Hp} {c n : Nat} (hc : c + 0 ≤ 0) (hn : n + 0 ≤ 0) (w : w_X12_takeWord_13  Q a1 h) : SW E 13 ([some (vP (some (12, 0))), some (vI (a1))], [], h, c, n) := by
  exact k_X12_takeWord_13 cx hY eq (by omega) (by omega) ⟨rfl, w⟩
theorem s_X12_takeWord_8 {E : EnvT} {d : Nat} (cx : CX E "ShoreDayModel" cX12_takeWord 2 none "takeWord" (d + 3) 0 0) (hY : eY E = lay1) {Q : Hp → Prop} (eq : EQ E 0 0 (fun r h2 => r = [] ∧ Q h2)) {a1 : Int32} {h : Hp} {c n : Nat} (hc : c + 0 ≤ 0) (hn : n + 0 ≤ 0) (w : w_X12_takeWord_8  Q a1 h) : SW E 8 ([some (vP (some (12, 0))), some (vI (a1))], [], h, c, n) := by
  refine k_X12_takeWord_8 cx hY (ctY hY (vc_X12_wrong (d := d + 1) w)) (by omega) (by omega) (by omega) (fun r h2 hp => ?_)
  obtain ⟨rfl, w⟩ := hp
  exact s_X12_takeWord_13 cx hY eq  (by omega) (by omega) w
theorem s_X12_takeWord_5 {E : EnvT} {d : Nat} (cx : CX E "ShoreDayModel" cX12_takeWord 2 none "takeWord" (d + 3) 0 0) (hY : eY E = lay1) {Q : Hp → Prop} (eq : EQ E 0 0 (fun r h2 => r = [] ∧ Q h2)) {a1 : Int32} {s0 : Int32} {h : Hp} {c n : Nat} (hc : c + 0 ≤ 0) (hn : n + 0 ≤ 0) (w : w_X12_takeWord_5  Q a1 s0 h) : SW E 5 ([some (vP (some (12, 0))), some (vI (a1))], [vI (s0)], h, c, n) := by
  refine k_X12_takeWord_5 cx hY (fun q => ?_) (fun q => ?_)
  · have w := w.1 q
    exact s_X12_takeWord_13 cx hY eq  (by omega) (by omega) w
  · have w := w.2 q
    exact s_X12_takeWord_8 cx hY eq  (by omega) (by omega) w
theorem s_X12_takeWord_0 {E : EnvT} {d : Nat} (cx : CX E "ShoreDayModel" cX12_takeWord 2 none "takeWord" (d + 3) 0 0) (hY : eY E = lay1) {Q : Hp → Prop} (eq : EQ E 0 0 (fun r h2 => r = [] ∧ Q h2)) {a1 : Int32} {h : Hp} {c n : Nat} (hc : c + 0 ≤ 0) (hn : n + 0 ≤ 0) (w : w_X12_takeWord_0  Q a1 h) : SW E 0 ([some (vP (some (12, 0))), some (vI (a1))], [], h, c, n) := by
  refine k_X12_takeWord_0 cx hY (ctY hY (vc_X12_hasWord (d := d + 0) w)) (by omega) (by omega) (by omega) (fun r h2 hp => ?_)
  obtain ⟨r2, rfl, w⟩ := hp
  exact s_X12_takeWord_5 cx hY eq  (by omega) (by omega) w
def wp_X12_takeWord (a1 : Int32) (h : Hp) (Q : Hp → Prop) : Prop := w_X12_takeWord_0 Q a1 h
theorem vc_X12_takeWord {l : Launch} {d : Nat} {a1 : Int32} {h : Hp} {Q : Hp → Prop} (w : wp_X12_takeWord a1 h Q) : Ct l lay1 yX12_takeWord cX12_takeWord 2 none (d + 3) 0 0 [vP (some (12, 0)), vI a1] h (fun r h2 => r = [] ∧ Q h2) := by
  exact Ct.of (by decide) (Nat.le_of_ble_eq_true rfl) fun E cx eq hl hY => s_X12_takeWord_0 cx hY eq (Nat.le_refl _) (Nat.le_refl _) w
def w_X12_emit_37 (Q : Hp → Prop) (a1 : Int32) (a2 : Int32) (s1 : Int32) (s2 : Int32) (h : Hp) : Prop := vp_in (s1) 1320 ∧ (Q (wI (wI (h) 114 (0) (tN (s1)) (s2)) 12 (0) 17 ((gI (wI (h) 114 (0) (tN (s1)) (s2)) 12 (0) (17)) + ((1 : Int32)))))
def w_X12_emit_18 (Q : Hp → Prop) (a1 : Int32) (a2 : Int32) (s1 : Int32) (s2 : Int32) (h : Hp) : Prop := vp_in (s1) 1320 ∧ (w_X12_emit_37  Q (a1) (a2) ((((660 : Int32)) * (gI (wI (h) 113 (0) (tN (s1)) (s2)) 12 (0) (16))) + (gI (wI (h) 113 (0) (tN (s1)) (s2)) 12 (0) (17))) (a2) (wI (h) 113 (0) (tN (s1)) (s2)))
def w_X12_emit_0 (Q : Hp → Prop) (a1 : Int32) (a2 : Int32) (h : Hp) : Prop := w_X12_emit_18  Q (a1) (a2) ((((660 : Int32)) * (gI (h) 12 (0) (16))) + (gI (h) 12 (0) (17))) (a1) (h)
theorem s_X12_emit_37 {E : EnvT} {d : Nat} (cx : CX E "ShoreDayModel" cX12_emit 3 none "emit" (d + 1) 0 0) (hY : eY E = lay1) {Q : Hp → Prop} (eq : EQ E 0 0 (fun r h2 => r = [] ∧ Q h2)) {a1 : Int32} {a2 : Int32} {s1 : Int32} {s2 : Int32} {h : Hp} {c n : Nat} (hc : c + 0 ≤ 0) (hn : n + 0 ≤ 0) (w : w_X12_emit_37  Q a1 a2 s1 s2 h) : SW E 37 ([some (vP (some (12, 0))), some (vI (a1)), some (vI (a2))], [vI (s2), vI (s1), vP (some (114, 0))], h, c, n) := by
  obtain ⟨G1, w⟩ := w
  exact k_X12_emit_37 cx hY G1 eq (by omega) (by omega) ⟨rfl, w⟩
theorem s_X12_emit_18 {E : EnvT} {d : Nat} (cx : CX E "ShoreDayModel" cX12_emit 3 none "emit" (d + 1) 0 0) (hY : eY E = lay1) {Q : Hp → Prop} (eq : EQ E 0 0 (fun r h2 => r = [] ∧ Q h2)) {a1 : Int32} {a2 : Int32} {s1 : Int32} {s2 : Int32} {h : Hp} {c n : Nat} (hc : c + 0 ≤ 0) (hn : n + 0 ≤ 0) (w : w_X12_emit_18  Q a1 a2 s1 s2 h) : SW E 18 ([some (vP (some (12, 0))), some (vI (a1)), some (vI (a2))], [vI (s2), vI (s1), vP (some (113, 0))], h, c, n) := by
  obtain ⟨G1, w⟩ := w
  refine k_X12_emit_18 cx hY G1 ?_
  exact s_X12_emit_37 cx hY eq  (by omega) (by omega) w
theorem s_X12_emit_0 {E : EnvT} {d : Nat} (cx : CX E "ShoreDayModel" cX12_emit 3 none "emit" (d + 1) 0 0) (hY : eY E = lay1) {Q : Hp → Prop} (eq : EQ E 0 0 (fun r h2 => r = [] ∧ Q h2)) {a1 : Int32} {a2 : Int32} {h : Hp} {c n : Nat} (hc : c + 0 ≤ 0) (hn : n + 0 ≤ 0) (w : w_X12_emit_0  Q a1 a2 h) : SW E 0 ([some (vP (some (12, 0))), some (vI (a1)), some (vI (a2))], [], h, c, n) := by
  refine k_X12_emit_0 cx hY ?_
  exact s_X12_emit_18 cx hY eq  (by omega) (by omega) w
def wp_X12_emit (a1 : Int32) (a2 : Int32) (h : Hp) (Q : Hp → Prop) : Prop := w_X12_emit_0 Q a1 a2 h
theorem vc_X12_emit {l : Launch} {d : Nat} {a1 : Int32} {a2 : Int32} {h : Hp} {Q : Hp → Prop} (w : wp_X12_emit a1 a2 h Q) : Ct l lay1 yX12_emit cX12_emit 3 none (d + 1) 0 0 [vP (some (12, 0)), vI a1, vI a2] h (fun r h2 => r = [] ∧ Q h2) := by
  exact Ct.of (by decide) (Nat.le_of_ble_eq_true rfl) fun E cx eq hl hY => s_X12_emit_0 cx hY eq (Nat.le_refl _) (Nat.le_refl _) w
def w_X12_opens_29 (Q : Hp → Prop) (s1 : Int32) (s2 : Int32) (h : Hp) : Prop := vp_in (s1) 7 ∧ (Q (wI (h) 121 (0) (tN (s1)) (s2)))
def w_X12_opens_19 (Q : Hp → Prop) (s1 : Int32) (s2 : Int32) (h : Hp) : Prop := vp_in (s1) 7 ∧ (w_X12_opens_29  Q (gI (wI (h) 120 (0) (tN (s1)) (s2)) 12 (0) (18)) ((0 : Int32)) (wI (h) 120 (0) (tN (s1)) (s2)))
def w_X12_opens_0 (Q : Hp → Prop) (h : Hp) : Prop := vp_in (gI (h) 12 (0) (18)) 7 ∧ (w_X12_opens_19  Q (gI (wI (h) 119 (0) (tN (gI (h) 12 (0) (18))) ((0 : Int32))) 12 (0) (18)) ((0 : Int32)) (wI (h) 119 (0) (tN (gI (h) 12 (0) (18))) ((0 : Int32))))
theorem s_X12_opens_29 {E : EnvT} {d : Nat} (cx : CX E "ShoreDayModel" cX12_opens 1 none "opens" (d + 1) 0 0) (hY : eY E = lay1) {Q : Hp → Prop} (eq : EQ E 0 0 (fun r h2 => r = [] ∧ Q h2)) {s1 : Int32} {s2 : Int32} {h : Hp} {c n : Nat} (hc : c + 0 ≤ 0) (hn : n + 0 ≤ 0) (w : w_X12_opens_29  Q s1 s2 h) : SW E 29 ([some (vP (some (12, 0)))], [vI (s2), vI (s1), vP (some (121, 0))], h, c, n) := by
  obtain ⟨G1, w⟩ := w
  exact k_X12_opens_29 cx hY G1 eq (by omega) (by omega) ⟨rfl, w⟩
theorem s_X12_opens_19 {E : EnvT} {d : Nat} (cx : CX E "ShoreDayModel" cX12_opens 1 none "opens" (d + 1) 0 0) (hY : eY E = lay1) {Q : Hp → Prop} (eq : EQ E 0 0 (fun r h2 => r = [] ∧ Q h2)) {s1 : Int32} {s2 : Int32} {h : Hp} {c n : Nat} (hc : c + 0 ≤ 0) (hn : n + 0 ≤ 0) (w : w_X12_opens_19  Q s1 s2 h) : SW E 19 ([some (vP (some (12, 0)))], [vI (s2), vI (s1), vP (some (120, 0))], h, c, n) := by
  obtain ⟨G1, w⟩ := w
  refine k_X12_opens_19 cx hY G1 ?_
  exact s_X12_opens_29 cx hY eq  (by omega) (by omega) w
theorem s_X12_opens_0 {E : EnvT} {d : Nat} (cx : CX E "ShoreDayModel" cX12_opens 1 none "opens" (d + 1) 0 0) (hY : eY E = lay1) {Q : Hp → Prop} (eq : EQ E 0 0 (fun r h2 => r = [] ∧ Q h2)) {h : Hp} {c n : Nat} (hc : c + 0 ≤ 0) (hn : n + 0 ≤ 0) (w : w_X12_opens_0  Q  h) : SW E 0 ([some (vP (some (12, 0)))], [], h, c, n) := by
  obtain ⟨G1, w⟩ := w
  refine k_X12_opens_0 cx hY G1 ?_
  exact s_X12_opens_19 cx hY eq  (by omega) (by omega) w
def wp_X12_opens (h : Hp) (Q : Hp → Prop) : Prop := w_X12_opens_0 Q  h
theorem vc_X12_opens {l : Launch} {d : Nat} {h : Hp} {Q : Hp → Prop} (w : wp_X12_opens h Q) : Ct l lay1 yX12_opens cX12_opens 1 none (d + 1) 0 0 [vP (some (12, 0))] h (fun r h2 => r = [] ∧ Q h2) := by
  exact Ct.of (by decide) (Nat.le_of_ble_eq_true rfl) fun E cx eq hl hY => s_X12_opens_0 cx hY eq (Nat.le_refl _) (Nat.le_refl _) w
def w_X12_partWord_26 (Q : Int32 → Hp → Prop) (a1 : Int32) (h : Hp) : Prop := Q ((-1 : Int32)) (h)
def w_X12_partWord_20 (K2 : Int32 → Hp → Prop) (Q : Int32 → Hp → Prop) (a1 : Int32) (h : Hp) : Prop := K2 (a1 + 1) (h)
def w_X12_partWord_18 (Q : Int32 → Hp → Prop) (a1 : Int32) (h : Hp) : Prop := Q (a1) (h)
def w_X12_partWord_15 (K2 : Int32 → Hp → Prop) (Q : Int32 → Hp → Prop) (a1 : Int32) (s0 : Int32) (h : Hp) : Prop := ((s0) = 0 → w_X12_partWord_20 K2 Q (a1) (h)) ∧ (¬ (s0) = 0 → w_X12_partWord_18  Q (a1) (h))
def w_X12_partWord_8 (K2 : Int32 → Hp → Prop) (Q : Int32 → Hp → Prop) (a1 : Int32) (h : Hp) : Prop := wp_X12_isWord (((3 : Int32)) + (a1)) (h) (fun r2 h2 => w_X12_partWord_15 K2 Q (a1) (r2) (h2))
def w_X12_partWord_2 (Q : Int32 → Hp → Prop) : Nat → Int32 → Hp → Prop
  | 0 => fun _ _ => False
  | N + 1 => fun a1 h => (((6 : Int32)) ≤ (a1) → w_X12_partWord_26  Q (a1) (h)) ∧ (¬ ((6 : Int32)) ≤ (a1) → w_X12_partWord_8 (w_X12_partWord_2  Q N) Q (a1) (h))
def w_X12_partWord_0 (Q : Int32 → Hp → Prop) (h : Hp) : Prop := ∃ N, w_X12_partWord_2  Q N ((0 : Int32)) (h)
theorem s_X12_partWord_26 {E : EnvT} {d : Nat} (cx : CX E "ShoreDayModel" cX12_partWord 2 (some .int) "partWord" (d + 2) 0 0) (hY : eY E = lay1) {Q : Int32 → Hp → Prop} (eq : EQ E 0 0 (fun r h2 => ∃ x, r = [vI x] ∧ Q x h2)) {a1 : Int32} {h : Hp} {c n : Nat} (hc : c + 0 ≤ 0) (hn : n + 0 ≤ 0) (w : w_X12_partWord_26  Q a1 h) : SW E 26 ([some (vP (some (12, 0))), some (vI (a1))], [], h, c, n) := by
  exact k_X12_partWord_26 cx hY eq (by omega) (by omega) ⟨_, rfl, w⟩
theorem s_X12_partWord_20 {E : EnvT} {d : Nat} (cx : CX E "ShoreDayModel" cX12_partWord 2 (some .int) "partWord" (d + 2) 0 0) (hY : eY E = lay1) {Q : Int32 → Hp → Prop} (eq : EQ E 0 0 (fun r h2 => ∃ x, r = [vI x] ∧ Q x h2)) {K2 : Int32 → Hp → Prop} (hK2 : ∀ (a1 : Int32) (h : Hp) (c n : Nat), c + 0 ≤ 0 → n + 0 ≤ 0 → K2 a1 h → SW E 2 ([some (vP (some (12, 0))), some (vI (a1))], [], h, c, n)) {a1 : Int32} {h : Hp} {c n : Nat} (hc : c + 0 ≤ 0) (hn : n + 0 ≤ 0) (w : w_X12_partWord_20 K2 Q a1 h) : SW E 20 ([some (vP (some (12, 0))), some (vI (a1))], [], h, c, n) := by
  refine k_X12_partWord_20 cx hY ?_
  exact hK2 _ _ _ _ (by omega) (by omega) w
theorem s_X12_partWord_18 {E : EnvT} {d : Nat} (cx : CX E "ShoreDayModel" cX12_partWord 2 (some .int) "partWord" (d + 2) 0 0) (hY : eY E = lay1) {Q : Int32 → Hp → Prop} (eq : EQ E 0 0 (fun r h2 => ∃ x, r = [vI x] ∧ Q x h2)) {a1 : Int32} {h : Hp} {c n : Nat} (hc : c + 0 ≤ 0) (hn : n + 0 ≤ 0) (w : w_X12_partWord_18  Q a1 h) : SW E 18 ([some (vP (some (12, 0))), some (vI (a1))], [], h, c, n) := by
  exact k_X12_partWord_18 cx hY eq (by omega) (by omega) ⟨_, rfl, w⟩
theorem s_X12_partWord_15 {E : EnvT} {d : Nat} (cx : CX E "ShoreDayModel" cX12_partWord 2 (some .int) "partWord" (d + 2) 0 0) (hY : eY E = lay1) {Q : Int32 → Hp → Prop} (eq : EQ E 0 0 (fun r h2 => ∃ x, r = [vI x] ∧ Q x h2)) {K2 : Int32 → Hp → Prop} (hK2 : ∀ (a1 : Int32) (h : Hp) (c n : Nat), c + 0 ≤ 0 → n + 0 ≤ 0 → K2 a1 h → SW E 2 ([some (vP (some (12, 0))), some (vI (a1))], [], h, c, n)) {a1 : Int32} {s0 : Int32} {h : Hp} {c n : Nat} (hc : c + 0 ≤ 0) (hn : n + 0 ≤ 0) (w : w_X12_partWord_15 K2 Q a1 s0 h) : SW E 15 ([some (vP (some (12, 0))), some (vI (a1))], [vI (s0)], h, c, n) := by
  refine k_X12_partWord_15 cx hY (fun q => ?_) (fun q => ?_)
  · have w := w.1 q
    exact s_X12_partWord_20 cx hY eq hK2 (by omega) (by omega) w
  · have w := w.2 q
    exact s_X12_partWord_18 cx hY eq  (by omega) (by omega) w
theorem s_X12_partWord_8 {E : EnvT} {d : Nat} (cx : CX E "ShoreDayModel" cX12_partWord 2 (some .int) "partWord" (d + 2) 0 0) (hY : eY E = lay1) {Q : Int32 → Hp → Prop} (eq : EQ E 0 0 (fun r h2 => ∃ x, r = [vI x] ∧ Q x h2)) {K2 : Int32 → Hp → Prop} (hK2 : ∀ (a1 : Int32) (h : Hp) (c n : Nat), c + 0 ≤ 0 → n + 0 ≤ 0 → K2 a1 h → SW E 2 ([some (vP (some (12, 0))), some (vI (a1))], [], h, c, n)) {a1 : Int32} {h : Hp} {c n : Nat} (hc : c + 0 ≤ 0) (hn : n + 0 ≤ 0) (w : w_X12_partWord_8 K2 Q a1 h) : SW E 8 ([some (vP (some (12, 0))), some (vI (a1))], [], h, c, n) := by
  refine k_X12_partWord_8 cx hY (ctY hY (vc_X12_isWord (d := d + 0) w)) (by omega) (by omega) (by omega) (fun r h2 hp => ?_)
  obtain ⟨r2, rfl, w⟩ := hp
  exact s_X12_partWord_15 cx hY eq hK2 (by omega) (by omega) w
theorem s_X12_partWord_2 {E : EnvT} {d : Nat} (cx : CX E "ShoreDayModel" cX12_partWord 2 (some .int) "partWord" (d + 2) 0 0) (hY : eY E = lay1) {Q : Int32 → Hp → Prop} (eq : EQ E 0 0 (fun r h2 => ∃ x, r = [vI x] ∧ Q x h2)) : ∀ (N : Nat) (a1 : Int32) (h : Hp) (c n : Nat), c + 0 ≤ 0 → n + 0 ≤ 0 → w_X12_partWord_2  Q N a1 h → SW E 2 ([some (vP (some (12, 0))), some (vI (a1))], [], h, c, n) := by
  intro N
  induction N with
  | zero =>
    intro _ h c n _ _ w
    exact w.elim
  | succ N ih =>
    intro a1 h c n hc hn w
    refine k_X12_partWord_2 cx hY (fun q => ?_) (fun q => ?_)
    · have w := w.1 q
      exact s_X12_partWord_26 cx hY eq  (by omega) (by omega) w
    · have w := w.2 q
      exact s_X12_partWord_8 cx hY eq ih (by omega) (by omega) w
theorem s_X12_partWord_0 {E : EnvT} {d : Nat} (cx : CX E "ShoreDayModel" cX12_partWord 2 (some .int) "partWord" (d + 2) 0 0) (hY : eY E = lay1) {Q : Int32 → Hp → Prop} (eq : EQ E 0 0 (fun r h2 => ∃ x, r = [vI x] ∧ Q x h2)) {x1 : Option AVal} {h : Hp} {c n : Nat} (hc : c + 0 ≤ 0) (hn : n + 0 ≤ 0) (w : w_X12_partWord_0  Q  h) : SW E 0 ([some (vP (some (12, 0))), x1], [], h, c, n) := by
  refine k_X12_partWord_0 cx hY ?_
  obtain ⟨N1, w⟩ := w
  exact s_X12_partWord_2 cx hY eq  _ _ _ _ _ (by omega) (by omega) w
def wp_X12_partWord (h : Hp) (Q : Int32 → Hp → Prop) : Prop := w_X12_partWord_0 Q  h
theorem vc_X12_partWord {l : Launch} {d : Nat} {h : Hp} {Q : Int32 → Hp → Prop} (w : wp_X12_partWord h Q) : Ct l lay1 yX12_partWord cX12_partWord 2 (some .int) (d + 2) 0 0 [vP (some (12, 0))] h (fun r h2 => ∃ x, r = [vI x] ∧ Q x h2) := by
  exact Ct.of (by decide) (Nat.le_of_ble_eq_true rfl) fun E cx eq hl hY => s_X12_partWord_0 cx hY eq (Nat.le_refl _) (Nat.le_refl _) w
def w_X12_part_124 (Q : Int32 → Hp → Prop) (a1 : Int32) (h : Hp) : Prop := Q ((0 : Int32)) (wI (h) 12 (0) 7 ((gI (h) 12 (0) (7)) + ((1 : Int32))))
def w_X12_part_121 (Q : Int32 → Hp → Prop) (a1 : Int32) (s1 : Int32) (s2 : Int32) (h : Hp) : Prop := wp_X12_emit (s1) (s2) (h) (fun h2 => w_X12_part_124  Q (a1) (h2))
def w_X12_part_120 (Q : Int32 → Hp → Prop) (a1 : Int32) (s1 : Int32) (h : Hp) : Prop := w_X12_part_121  Q (a1) (s1) (a1) (h)
def w_X12_part_107 (Q : Int32 → Hp → Prop) (a1 : Int32) (s1 : Int32) (h : Hp) : Prop := vp_in (gI (h) 12 (0) (7)) 602 ∧ (w_X12_part_121  Q (a1) (s1) ((gL (h) 106 (0) (tN (gI (h) 12 (0) (7)))).toInt32) (h))
def w_X12_part_103 (Q : Int32 → Hp → Prop) (a1 : Int32) (s1 : Int32) (h : Hp) : Prop := (0 ≤ (a1) → w_X12_part_120  Q (a1) (s1) (h)) ∧ (¬ 0 ≤ (a1) → w_X12_part_107  Q (a1) (s1) (h))
def w_X12_part_102 (Q : Int32 → Hp → Prop) (a1 : Int32) (h : Hp) : Prop := w_X12_part_103  Q (a1) ((2 : Int32)) (h)
def w_X12_part_98 (Q : Int32 → Hp → Prop) (a1 : Int32) (h : Hp) : Prop := w_X12_part_103  Q (a1) ((1 : Int32)) (h)
def w_X12_part_93 (Q : Int32 → Hp → Prop) (a1 : Int32) (h : Hp) : Prop := (0 ≤ (a1) → w_X12_part_102  Q (a1) (h)) ∧ (¬ 0 ≤ (a1) → w_X12_part_98  Q (a1) (h))
def w_X12_part_91 (Q : Int32 → Hp → Prop) (a1 : Int32) (h : Hp) : Prop := Q ((1 : Int32)) (h)
def w_X12_part_77 (Q : Int32 → Hp → Prop) (a1 : Int32) (h : Hp) : Prop := wp_X12_opens  (wI (h) 12 (0) 18 ((gI (h) 12 (0) (18)) + ((1 : Int32)))) (fun h2 => w_X12_part_91  Q (a1) (h2))
def w_X12_part_74 (Q : Int32 → Hp → Prop) (a1 : Int32) (s0 : Int32) (h : Hp) : Prop := ((s0) = 0 → w_X12_part_93  Q (a1) (h)) ∧ (¬ (s0) = 0 → w_X12_part_77  Q (a1) (h))
def w_X12_part_68 (Q : Int32 → Hp → Prop) (a1 : Int32) (h : Hp) : Prop := wp_X12_hasSign ((40 : Int32)) (h) (fun r2 h2 => w_X12_part_74  Q (a1) (r2) (h2))
def w_X12_part_66 (Q : Int32 → Hp → Prop) (a1 : Int32) (h : Hp) : Prop := Q ((0 : Int32)) (h)
def w_X12_part_59 (Q : Int32 → Hp → Prop) (a1 : Int32) (h : Hp) : Prop := ((gI (h) 12 (0) (8)) ≤ 0 → w_X12_part_68  Q (a1) (h)) ∧ (¬ (gI (h) 12 (0) (8)) ≤ 0 → w_X12_part_66  Q (a1) (h))
def w_X12_part_54 (Q : Int32 → Hp → Prop) (a1 : Int32) (h : Hp) : Prop := wp_X12_wrong ((5 : Int32)) (h) (fun h2 => w_X12_part_59  Q (a1) (h2))
def w_X12_part_46 (Q : Int32 → Hp → Prop) (a1 : Int32) (h : Hp) : Prop := (¬ (gI (h) 12 (0) (18)) = ((5 : Int32)) → w_X12_part_59  Q (a1) (h)) ∧ ((gI (h) 12 (0) (18)) = ((5 : Int32)) → w_X12_part_54  Q (a1) (h))
def w_X12_part_43 (Q : Int32 → Hp → Prop) (a1 : Int32) (h : Hp) : Prop := w_X12_part_59  Q (a1) (h)
def w_X12_part_38 (Q : Int32 → Hp → Prop) (a1 : Int32) (h : Hp) : Prop := wp_X12_wrong ((1 : Int32)) (h) (fun h2 => w_X12_part_43  Q (a1) (h2))
def w_X12_part_34 (Q : Int32 → Hp → Prop) (a1 : Int32) (h : Hp) : Prop := (0 ≤ (a1) → w_X12_part_46  Q (a1) (h)) ∧ (¬ 0 ≤ (a1) → w_X12_part_38  Q (a1) (h))
def w_X12_part_31 (Q : Int32 → Hp → Prop) (a1 : Int32) (s0 : Int32) (h : Hp) : Prop := (¬ (s0) = 0 → w_X12_part_46  Q (a1) (h)) ∧ ((s0) = 0 → w_X12_part_34  Q (a1) (h))
def w_X12_part_25 (Q : Int32 → Hp → Prop) (a1 : Int32) (h : Hp) : Prop := wp_X12_isSign ((40 : Int32)) (h) (fun r2 h2 => w_X12_part_31  Q (a1) (r2) (h2))
def w_X12_part_12 (Q : Int32 → Hp → Prop) (a1 : Int32) (h : Hp) : Prop := vp_in (gI (h) 12 (0) (7)) 602 ∧ (((gI (h) 104 (0) (tN (gI (h) 12 (0) (7)))) = ((2 : Int32)) → w_X12_part_46  Q (a1) (h)) ∧ (¬ (gI (h) 104 (0) (tN (gI (h) 12 (0) (7)))) = ((2 : Int32)) → w_X12_part_25  Q (a1) (h)))
def w_X12_part_4 (Q : Int32 → Hp → Prop) (s0 : Int32) (h : Hp) : Prop := (¬ (gI (h) 12 (0) (8)) = 0 → w_X12_part_46  Q (s0) (h)) ∧ ((gI (h) 12 (0) (8)) = 0 → w_X12_part_12  Q (s0) (h))
def w_X12_part_0 (Q : Int32 → Hp → Prop) (h : Hp) : Prop := wp_X12_partWord  (h) (fun r2 h2 => w_X12_part_4  Q (r2) (h2))
theorem s_X12_part_124 {E : EnvT} {d : Nat} (cx : CX E "ShoreDayModel" cX12_part 2 (some .boolean) "part" (d + 3) 0 0) (hY : eY E = lay1) {Q : Int32 → Hp → Prop} (eq : EQ E 0 0 (fun r h2 => ∃ x, r = [vI x] ∧ Q x h2)) {a1 : Int32} {h : Hp} {c n : Nat} (hc : c + 0 ≤ 0) (hn : n + 0 ≤ 0) (w : w_X12_part_124  Q a1 h) : SW E 124 ([some (vP (some (12, 0))), some (vI (a1))], [], h, c, n) := by
  exact k_X12_part_124 cx hY eq (by omega) (by omega) ⟨_, rfl, w⟩
theorem s_X12_part_121 {E : EnvT} {d : Nat} (cx : CX E "ShoreDayModel" cX12_part 2 (some .boolean) "part" (d + 3) 0 0) (hY : eY E = lay1) {Q : Int32 → Hp → Prop} (eq : EQ E 0 0 (fun r h2 => ∃ x, r = [vI x] ∧ Q x h2)) {a1 : Int32} {s1 : Int32} {s2 : Int32} {h : Hp} {c n : Nat} (hc : c + 0 ≤ 0) (hn : n + 0 ≤ 0) (w : w_X12_part_121  Q a1 s1 s2 h) : SW E 121 ([some (vP (some (12, 0))), some (vI (a1))], [vI (s2), vI (s1), vP (some (12, 0))], h, c, n) := by
  refine k_X12_part_121 cx hY (ctY hY (vc_X12_emit (d := d + 1) w)) (by omega) (by omega) (by omega) (fun r h2 hp => ?_)
  obtain ⟨rfl, w⟩ := hp
  exact s_X12_part_124 cx hY eq  (by omega) (by omega) w
theorem s_X12_part_120 {E : EnvT} {d : Nat} (cx : CX E "ShoreDayModel" cX12_part 2 (some .boolean) "part" (d + 3) 0 0) (hY : eY E = lay1) {Q : Int32 → Hp → Prop} (eq : EQ E 0 0 (fun r h2 => ∃ x, r = [vI x] ∧ Q x h2)) {a1 : Int32} {s1 : Int32} {h : Hp} {c n : Nat} (hc : c + 0 ≤ 0) (hn : n + 0 ≤ 0) (w : w_X12_part_120  Q a1 s1 h) : SW E 120 ([some (vP (some (12, 0))), some (vI (a1))], [vI (s1), vP (some (12, 0))], h, c, n) := by
  refine k_X12_part_120 cx hY ?_
  exact s_X12_part_121 cx hY eq  (by omega) (by omega) w
theorem s_X12_part_107 {E : EnvT} {d : Nat} (cx : CX E "ShoreDayModel" cX12_part 2 (some .boolean) "part" (d + 3) 0 0) (hY : eY E = lay1) {Q : Int32 → Hp → Prop} (eq : EQ E 0 0 (fun r h2 => ∃ x, r = [vI x] ∧ Q x h2)) {a1 : Int32} {s1 : Int32} {h : Hp} {c n : Nat} (hc : c + 0 ≤ 0) (hn : n + 0 ≤ 0) (w : w_X12_part_107  Q a1 s1 h) : SW E 107 ([some (vP (some (12, 0))), some (vI (a1))], [vI (s1), vP (some (12, 0))], h, c, n) := by
  obtain ⟨G1, w⟩ := w
  refine k_X12_part_107 cx hY G1 ?_
  exact s_X12_part_121 cx hY eq  (by omega) (by omega) w
theorem s_X12_part_103 {E : EnvT} {d : Nat} (cx : CX E "ShoreDayModel" cX12_part 2 (some .boolean) "part" (d + 3) 0 0) (hY : eY E = lay1) {Q : Int32 → Hp → Prop} (eq : EQ E 0 0 (fun r h2 => ∃ x, r = [vI x] ∧ Q x h2)) {a1 : Int32} {s1 : Int32} {h : Hp} {c n : Nat} (hc : c + 0 ≤ 0) (hn : n + 0 ≤ 0) (w : w_X12_part_103  Q a1 s1 h) : SW E 103 ([some (vP (some (12, 0))), some (vI (a1))], [vI (s1), vP (some (12, 0))], h, c, n) := by
  refine k_X12_part_103 cx hY (fun q => ?_) (fun q => ?_)
  · have w := w.1 q
    exact s_X12_part_120 cx hY eq  (by omega) (by omega) w
  · have w := w.2 q
    exact s_X12_part_107 cx hY eq  (by omega) (by omega) w
theorem s_X12_part_102 {E : EnvT} {d : Nat} (cx : CX E "ShoreDayModel" cX12_part 2 (some .boolean) "part" (d + 3) 0 0) (hY : eY E = lay1) {Q : Int32 → Hp → Prop} (eq : EQ E 0 0 (fun r h2 => ∃ x, r = [vI x] ∧ Q x h2)) {a1 : Int32} {h : Hp} {c n : Nat} (hc : c + 0 ≤ 0) (hn : n + 0 ≤ 0) (w : w_X12_part_102  Q a1 h) : SW E 102 ([some (vP (some (12, 0))), some (vI (a1))], [vP (some (12, 0))], h, c, n) := by
  refine k_X12_part_102 cx hY ?_
  exact s_X12_part_103 cx hY eq  (by omega) (by omega) w
theorem s_X12_part_98 {E : EnvT} {d : Nat} (cx : CX E "ShoreDayModel" cX12_part 2 (some .boolean) "part" (d + 3) 0 0) (hY : eY E = lay1) {Q : Int32 → Hp → Prop} (eq : EQ E 0 0 (fun r h2 => ∃ x, r = [vI x] ∧ Q x h2)) {a1 : Int32} {h : Hp} {c n : Nat} (hc : c + 0 ≤ 0) (hn : n + 0 ≤ 0) (w : w_X12_part_98  Q a1 h) : SW E 98 ([some (vP (some (12, 0))), some (vI (a1))], [vP (some (12, 0))], h, c, n) := by
  refine k_X12_part_98 cx hY ?_
  exact s_X12_part_103 cx hY eq  (by omega) (by omega) w
theorem s_X12_part_93 {E : EnvT} {d : Nat} (cx : CX E "ShoreDayModel" cX12_part 2 (some .boolean) "part" (d + 3) 0 0) (hY : eY E = lay1) {Q : Int32 → Hp → Prop} (eq : EQ E 0 0 (fun r h2 => ∃ x, r = [vI x] ∧ Q x h2)) {a1 : Int32} {h : Hp} {c n : Nat} (hc : c + 0 ≤ 0) (hn : n + 0 ≤ 0) (w : w_X12_part_93  Q a1 h) : SW E 93 ([some (vP (some (12, 0))), some (vI (a1))], [], h, c, n) := by
  refine k_X12_part_93 cx hY (fun q => ?_) (fun q => ?_)
  · have w := w.1 q
    exact s_X12_part_102 cx hY eq  (by omega) (by omega) w
  · have w := w.2 q
    exact s_X12_part_98 cx hY eq  (by omega) (by omega) w
theorem s_X12_part_91 {E : EnvT} {d : Nat} (cx : CX E "ShoreDayModel" cX12_part 2 (some .boolean) "part" (d + 3) 0 0) (hY : eY E = lay1) {Q : Int32 → Hp → Prop} (eq : EQ E 0 0 (fun r h2 => ∃ x, r = [vI x] ∧ Q x h2)) {a1 : Int32} {h : Hp} {c n : Nat} (hc : c + 0 ≤ 0) (hn : n + 0 ≤ 0) (w : w_X12_part_91  Q a1 h) : SW E 91 ([some (vP (some (12, 0))), some (vI (a1))], [], h, c, n) := by
  exact k_X12_part_91 cx hY eq (by omega) (by omega) ⟨_, rfl, w⟩
theorem s_X12_part_77 {E : EnvT} {d : Nat} (cx : CX E "ShoreDayModel" cX12_part 2 (some .boolean) "part" (d + 3) 0 0) (hY : eY E = lay1) {Q : Int32 → Hp → Prop} (eq : EQ E 0 0 (fun r h2 => ∃ x, r = [vI x] ∧ Q x h2)) {a1 : Int32} {h : Hp} {c n : Nat} (hc : c + 0 ≤ 0) (hn : n + 0 ≤ 0) (w : w_X12_part_77  Q a1 h) : SW E 77 ([some (vP (some (12, 0))), some (vI (a1))], [], h, c, n) := by
  refine k_X12_part_77 cx hY (ctY hY (vc_X12_opens (d := d + 1) w)) (by omega) (by omega) (by omega) (fun r h2 hp => ?_)
  obtain ⟨rfl, w⟩ := hp
  exact s_X12_part_91 cx hY eq  (by omega) (by omega) w
theorem s_X12_part_74 {E : EnvT} {d : Nat} (cx : CX E "ShoreDayModel" cX12_part 2 (some .boolean) "part" (d + 3) 0 0) (hY : eY E = lay1) {Q : Int32 → Hp → Prop} (eq : EQ E 0 0 (fun r h2 => ∃ x, r = [vI x] ∧ Q x h2)) {a1 : Int32} {s0 : Int32} {h : Hp} {c n : Nat} (hc : c + 0 ≤ 0) (hn : n + 0 ≤ 0) (w : w_X12_part_74  Q a1 s0 h) : SW E 74 ([some (vP (some (12, 0))), some (vI (a1))], [vI (s0)], h, c, n) := by
  refine k_X12_part_74 cx hY (fun q => ?_) (fun q => ?_)
  · have w := w.1 q
    exact s_X12_part_93 cx hY eq  (by omega) (by omega) w
  · have w := w.2 q
    exact s_X12_part_77 cx hY eq  (by omega) (by omega) w
theorem s_X12_part_68 {E : EnvT} {d : Nat} (cx : CX E "ShoreDayModel" cX12_part 2 (some .boolean) "part" (d + 3) 0 0) (hY : eY E = lay1) {Q : Int32 → Hp → Prop} (eq : EQ E 0 0 (fun r h2 => ∃ x, r = [vI x] ∧ Q x h2)) {a1 : Int32} {h : Hp} {c n : Nat} (hc : c + 0 ≤ 0) (hn : n + 0 ≤ 0) (w : w_X12_part_68  Q a1 h) : SW E 68 ([some (vP (some (12, 0))), some (vI (a1))], [], h, c, n) := by
  refine k_X12_part_68 cx hY (ctY hY (vc_X12_hasSign (d := d + 0) w)) (by omega) (by omega) (by omega) (fun r h2 hp => ?_)
  obtain ⟨r2, rfl, w⟩ := hp
  exact s_X12_part_74 cx hY eq  (by omega) (by omega) w
theorem s_X12_part_66 {E : EnvT} {d : Nat} (cx : CX E "ShoreDayModel" cX12_part 2 (some .boolean) "part" (d + 3) 0 0) (hY : eY E = lay1) {Q : Int32 → Hp → Prop} (eq : EQ E 0 0 (fun r h2 => ∃ x, r = [vI x] ∧ Q x h2)) {a1 : Int32} {h : Hp} {c n : Nat} (hc : c + 0 ≤ 0) (hn : n + 0 ≤ 0) (w : w_X12_part_66  Q a1 h) : SW E 66 ([some (vP (some (12, 0))), some (vI (a1))], [], h, c, n) := by
  exact k_X12_part_66 cx hY eq (by omega) (by omega) ⟨_, rfl, w⟩
theorem s_X12_part_59 {E : EnvT} {d : Nat} (cx : CX E "ShoreDayModel" cX12_part 2 (some .boolean) "part" (d + 3) 0 0) (hY : eY E = lay1) {Q : Int32 → Hp → Prop} (eq : EQ E 0 0 (fun r h2 => ∃ x, r = [vI x] ∧ Q x h2)) {a1 : Int32} {h : Hp} {c n : Nat} (hc : c + 0 ≤ 0) (hn : n + 0 ≤ 0) (w : w_X12_part_59  Q a1 h) : SW E 59 ([some (vP (some (12, 0))), some (vI (a1))], [], h, c, n) := by
  refine k_X12_part_59 cx hY (fun q => ?_) (fun q => ?_)
  · have w := w.1 q
    exact s_X12_part_68 cx hY eq  (by omega) (by omega) w
  · have w := w.2 q
    exact s_X12_part_66 cx hY eq  (by omega) (by omega) w
theorem s_X12_part_54 {E : EnvT} {d : Nat} (cx : CX E "ShoreDayModel" cX12_part 2 (some .boolean) "part" (d + 3) 0 0) (hY : eY E = lay1) {Q : Int32 → Hp → Prop} (eq : EQ E 0 0 (fun r h2 => ∃ x, r = [vI x] ∧ Q x h2)) {a1 : Int32} {h : Hp} {c n : Nat} (hc : c + 0 ≤ 0) (hn : n + 0 ≤ 0) (w : w_X12_part_54  Q a1 h) : SW E 54 ([some (vP (some (12, 0))), some (vI (a1))], [], h, c, n) := by
  refine k_X12_part_54 cx hY (ctY hY (vc_X12_wrong (d := d + 1) w)) (by omega) (by omega) (by omega) (fun r h2 hp => ?_)
  obtain ⟨rfl, w⟩ := hp
  exact s_X12_part_59 cx hY eq  (by omega) (by omega) w
theorem s_X12_part_46 {E : EnvT} {d : Nat} (cx : CX E "ShoreDayModel" cX12_part 2 (some .boolean) "part" (d + 3) 0 0) (hY : eY E = lay1) {Q : Int32 → Hp → Prop} (eq : EQ E 0 0 (fun r h2 => ∃ x, r = [vI x] ∧ Q x h2)) {a1 : Int32} {h : Hp} {c n : Nat} (hc : c + 0 ≤ 0) (hn : n + 0 ≤ 0) (w : w_X12_part_46  Q a1 h) : SW E 46 ([some (vP (some (12, 0))), some (vI (a1))], [], h, c, n) := by
  refine k_X12_part_46 cx hY (fun q => ?_) (fun q => ?_)
  · have w := w.1 q
    exact s_X12_part_59 cx hY eq  (by omega) (by omega) w
  · have w := w.2 q
    exact s_X12_part_54 cx hY eq  (by omega) (by omega) w
theorem s_X12_part_43 {E : EnvT} {d : Nat} (cx : CX E "ShoreDayModel" cX12_part 2 (some .boolean) "part" (d + 3) 0 0) (hY : eY E = lay1) {Q : Int32 → Hp → Prop} (eq : EQ E 0 0 (fun r h2 => ∃ x, r = [vI x] ∧ Q x h2)) {a1 : Int32} {h : Hp} {c n : Nat} (hc : c + 0 ≤ 0) (hn : n + 0 ≤ 0) (w : w_X12_part_43  Q a1 h) : SW E 43 ([some (vP (some (12, 0))), some (vI (a1))], [], h, c, n) := by
  refine k_X12_part_43 cx hY ?_
  exact s_X12_part_59 cx hY eq  (by omega) (by omega) w
theorem s_X12_part_38 {E : EnvT} {d : Nat} (cx : CX E "ShoreDayModel" cX12_part 2 (some .boolean) "part" (d + 3) 0 0) (hY : eY E = lay1) {Q : Int32 → Hp → Prop} (eq : EQ E 0 0 (fun r h2 => ∃ x, r = [vI x] ∧ Q x h2)) {a1 : Int32} {h : Hp} {c n : Nat} (hc : c + 0 ≤ 0) (hn : n + 0 ≤ 0) (w : w_X12_part_38  Q a1 h) : SW E 38 ([some (vP (some (12, 0))), some (vI (a1))], [], h, c, n) := by
  refine k_X12_part_38 cx hY (ctY hY (vc_X12_wrong (d := d + 1) w)) (by omega) (by omega) (by omega) (fun r h2 hp => ?_)
  obtain ⟨rfl, w⟩ := hp
  exact s_X12_part_43 cx hY eq  (by omega) (by omega) w
theorem s_X12_part_34 {E : EnvT} {d : Nat} (cx : CX E "ShoreDayModel" cX12_part 2 (some .boolean) "part" (d + 3) 0 0) (hY : eY E = lay1) {Q : Int32 → Hp → Prop} (eq : EQ E 0 0 (fun r h2 => ∃ x, r = [vI x] ∧ Q x h2)) {a1 : Int32} {h : Hp} {c n : Nat} (hc : c + 0 ≤ 0) (hn : n + 0 ≤ 0) (w : w_X12_part_34  Q a1 h) : SW E 34 ([some (vP (some (12, 0))), some (vI (a1))], [], h, c, n) := by
  refine k_X12_part_34 cx hY (fun q => ?_) (fun q => ?_)
  · have w := w.1 q
    exact s_X12_part_46 cx hY eq  (by omega) (by omega) w
  · have w := w.2 q
    exact s_X12_part_38 cx hY eq  (by omega) (by omega) w
theorem s_X12_part_31 {E : EnvT} {d : Nat} (cx : CX E "ShoreDayModel" cX12_part 2 (some .boolean) "part" (d + 3) 0 0) (hY : eY E = lay1) {Q : Int32 → Hp → Prop} (eq : EQ E 0 0 (fun r h2 => ∃ x, r = [vI x] ∧ Q x h2)) {a1 : Int32} {s0 : Int32} {h : Hp} {c n : Nat} (hc : c + 0 ≤ 0) (hn : n + 0 ≤ 0) (w : w_X12_part_31  Q a1 s0 h) : SW E 31 ([some (vP (some (12, 0))), some (vI (a1))], [vI (s0)], h, c, n) := by
  refine k_X12_part_31 cx hY (fun q => ?_) (fun q => ?_)
  · have w := w.1 q
    exact s_X12_part_46 cx hY eq  (by omega) (by omega) w
  · have w := w.2 q
    exact s_X12_part_34 cx hY eq  (by omega) (by omega) w
theorem s_X12_part_25 {E : EnvT} {d : Nat} (cx : CX E "ShoreDayModel" cX12_part 2 (some .boolean) "part" (d + 3) 0 0) (hY : eY E = lay1) {Q : Int32 → Hp → Prop} (eq : EQ E 0 0 (fun r h2 => ∃ x, r = [vI x] ∧ Q x h2)) {a1 : Int32} {h : Hp} {c n : Nat} (hc : c + 0 ≤ 0) (hn : n + 0 ≤ 0) (w : w_X12_part_25  Q a1 h) : SW E 25 ([some (vP (some (12, 0))), some (vI (a1))], [], h, c, n) := by
  refine k_X12_part_25 cx hY (ctY hY (vc_X12_isSign (d := d + 1) w)) (by omega) (by omega) (by omega) (fun r h2 hp => ?_)
  obtain ⟨r2, rfl, w⟩ := hp
  exact s_X12_part_31 cx hY eq  (by omega) (by omega) w
theorem s_X12_part_12 {E : EnvT} {d : Nat} (cx : CX E "ShoreDayModel" cX12_part 2 (some .boolean) "part" (d + 3) 0 0) (hY : eY E = lay1) {Q : Int32 → Hp → Prop} (eq : EQ E 0 0 (fun r h2 => ∃ x, r = [vI x] ∧ Q x h2)) {a1 : Int32} {h : Hp} {c n : Nat} (hc : c + 0 ≤ 0) (hn : n + 0 ≤ 0) (w : w_X12_part_12  Q a1 h) : SW E 12 ([some (vP (some (12, 0))), some (vI (a1))], [], h, c, n) := by
  obtain ⟨G1, w⟩ := w
  refine k_X12_part_12 cx hY G1 (fun q => ?_) (fun q => ?_)
  · have w := w.1 q
    exact s_X12_part_46 cx hY eq  (by omega) (by omega) w
  · have w := w.2 q
    exact s_X12_part_25 cx hY eq  (by omega) (by omega) w
theorem s_X12_part_4 {E : EnvT} {d : Nat} (cx : CX E "ShoreDayModel" cX12_part 2 (some .boolean) "part" (d + 3) 0 0) (hY : eY E = lay1) {Q : Int32 → Hp → Prop} (eq : EQ E 0 0 (fun r h2 => ∃ x, r = [vI x] ∧ Q x h2)) {x1 : Option AVal} {s0 : Int32} {h : Hp} {c n : Nat} (hc : c + 0 ≤ 0) (hn : n + 0 ≤ 0) (w : w_X12_part_4  Q s0 h) : SW E 4 ([some (vP (some (12, 0))), x1], [vI (s0)], h, c, n) := by
  refine k_X12_part_4 cx hY (fun q => ?_) (fun q => ?_)
  · have w := w.1 q
    exact s_X12_part_46 cx hY eq  (by omega) (by omega) w
  · have w := w.2 q
    exact s_X12_part_12 cx hY eq  (by omega) (by omega) w
theorem s_X12_part_0 {E : EnvT} {d : Nat} (cx : CX E "ShoreDayModel" cX12_part 2 (some .boolean) "part" (d + 3) 0 0) (hY : eY E = lay1) {Q : Int32 → Hp → Prop} (eq : EQ E 0 0 (fun r h2 => ∃ x, r = [vI x] ∧ Q x h2)) {x1 : Option AVal} {h : Hp} {c n : Nat} (hc : c + 0 ≤ 0) (hn : n + 0 ≤ 0) (w : w_X12_part_0  Q  h) : SW E 0 ([some (vP (some (12, 0))), x1], [], h, c, n) := by
  refine k_X12_part_0 cx hY (ctY hY (vc_X12_partWord (d := d + 0) w)) (by omega) (by omega) (by omega) (fun r h2 hp => ?_)
  obtain ⟨r2, rfl, w⟩ := hp
  exact s_X12_part_4 cx hY eq  (by omega) (by omega) w
def wp_X12_part (h : Hp) (Q : Int32 → Hp → Prop) : Prop := w_X12_part_0 Q  h
theorem vc_X12_part {l : Launch} {d : Nat} {h : Hp} {Q : Int32 → Hp → Prop} (w : wp_X12_part h Q) : Ct l lay1 yX12_part cX12_part 2 (some .boolean) (d + 3) 0 0 [vP (some (12, 0))] h (fun r h2 => ∃ x, r = [vI x] ∧ Q x h2) := by
  exact Ct.of (by decide) (Nat.le_of_ble_eq_true rfl) fun E cx eq hl hY => s_X12_part_0 cx hY eq (Nat.le_refl _) (Nat.le_refl _) w
def w_X12_goesOnBehind_277 (Q : Int32 → Hp → Prop) (h : Hp) : Prop := Q ((0 : Int32)) (h)
def w_X12_goesOnBehind_83 (Q : Int32 → Hp → Prop) (s1 : Int32) (s2 : Int32) (h : Hp) : Prop := vp_in (s1) 7 ∧ (Q ((1 : Int32)) (wI (wI (h) 119 (0) (tN (s1)) (s2)) 12 (0) 7 ((gI (wI (h) 119 (0) (tN (s1)) (s2)) 12 (0) (7)) + ((1 : Int32)))))
def w_X12_goesOnBehind_82 (Q : Int32 → Hp → Prop) (s1 : Int32) (h : Hp) : Prop := w_X12_goesOnBehind_83  Q (s1) ((4 : Int32)) (h)
def w_X12_goesOnBehind_78 (Q : Int32 → Hp → Prop) (s1 : Int32) (h : Hp) : Prop := w_X12_goesOnBehind_83  Q (s1) ((3 : Int32)) (h)
def w_X12_goesOnBehind_75 (Q : Int32 → Hp → Prop) (s1 : Int32) (s2 : Int32) (h : Hp) : Prop := ((s2) = 0 → w_X12_goesOnBehind_82  Q (s1) (h)) ∧ (¬ (s2) = 0 → w_X12_goesOnBehind_78  Q (s1) (h))
def w_X12_goesOnBehind_61 (Q : Int32 → Hp → Prop) (h : Hp) : Prop := wp_X12_isSign ((43 : Int32)) (h) (fun r2 h2 => w_X12_goesOnBehind_75  Q (gI (h) 12 (0) (18)) (r2) (h2))
def w_X12_goesOnBehind_176 (Q : Int32 → Hp → Prop) (s1 : Int32) (s2 : Int32) (h : Hp) : Prop := vp_in (s1) 7 ∧ (Q ((1 : Int32)) (wI (wI (h) 120 (0) (tN (s1)) (s2)) 12 (0) 7 ((gI (wI (h) 120 (0) (tN (s1)) (s2)) 12 (0) (7)) + ((1 : Int32)))))
def w_X12_goesOnBehind_174 (Q : Int32 → Hp → Prop) (s1 : Int32) (h : Hp) : Prop := w_X12_goesOnBehind_176  Q (s1) ((6 : Int32)) (h)
def w_X12_goesOnBehind_170 (Q : Int32 → Hp → Prop) (s1 : Int32) (h : Hp) : Prop := w_X12_goesOnBehind_176  Q (s1) ((5 : Int32)) (h)
def w_X12_goesOnBehind_167 (Q : Int32 → Hp → Prop) (s1 : Int32) (s2 : Int32) (h : Hp) : Prop := ((s2) = 0 → w_X12_goesOnBehind_174  Q (s1) (h)) ∧ (¬ (s2) = 0 → w_X12_goesOnBehind_170  Q (s1) (h))
def w_X12_goesOnBehind_153 (Q : Int32 → Hp → Prop) (h : Hp) : Prop := wp_X12_isSign ((60 : Int32)) (h) (fun r2 h2 => w_X12_goesOnBehind_167  Q (gI (h) 12 (0) (18)) (r2) (h2))
def w_X12_goesOnBehind_264 (K0 : Hp → Prop) (Q : Int32 → Hp → Prop) (h : Hp) : Prop := K0 (wI (h) 12 (0) 18 ((gI (h) 12 (0) (18)) - ((1 : Int32))))
def w_X12_goesOnBehind_258 (K0 : Hp → Prop) (Q : Int32 → Hp → Prop) (h : Hp) : Prop := wp_X12_takeSign ((41 : Int32)) (h) (fun h2 => w_X12_goesOnBehind_264 K0 Q (h2))
def w_X12_goesOnBehind_256 (Q : Int32 → Hp → Prop) (h : Hp) : Prop := Q ((0 : Int32)) (h)
def w_X12_goesOnBehind_249 (K0 : Hp → Prop) (Q : Int32 → Hp → Prop) (h : Hp) : Prop := (¬ (gI (h) 12 (0) (18)) = 0 → w_X12_goesOnBehind_258 K0 Q (h)) ∧ ((gI (h) 12 (0) (18)) = 0 → w_X12_goesOnBehind_256  Q (h))
def w_X12_goesOnBehind_247 (Q : Int32 → Hp → Prop) (h : Hp) : Prop := Q ((1 : Int32)) (h)
def w_X12_goesOnBehind_226 (Q : Int32 → Hp → Prop) (h : Hp) : Prop := vp_in (gI (h) 12 (0) (18)) 7 ∧ (w_X12_goesOnBehind_247  Q (wI (wI (h) 121 (0) (tN (gI (h) 12 (0) (18))) ((7 : Int32))) 12 (0) 7 ((gI (wI (h) 121 (0) (tN (gI (h) 12 (0) (18))) ((7 : Int32))) 12 (0) (7)) + ((1 : Int32)))))
def w_X12_goesOnBehind_223 (K0 : Hp → Prop) (Q : Int32 → Hp → Prop) (s0 : Int32) (h : Hp) : Prop := ((s0) = 0 → w_X12_goesOnBehind_249 K0 Q (h)) ∧ (¬ (s0) = 0 → w_X12_goesOnBehind_226  Q (h))
def w_X12_goesOnBehind_218 (K0 : Hp → Prop) (Q : Int32 → Hp → Prop) (h : Hp) : Prop := wp_X12_isWord ((2 : Int32)) (h) (fun r2 h2 => w_X12_goesOnBehind_223 K0 Q (r2) (h2))
def w_X12_goesOnBehind_208 (K0 : Hp → Prop) (Q : Int32 → Hp → Prop) (h : Hp) : Prop := vp_in (gI (h) 12 (0) (18)) 7 ∧ (w_X12_goesOnBehind_218 K0 Q (wI (h) 121 (0) (tN (gI (h) 12 (0) (18))) ((0 : Int32))))
def w_X12_goesOnBehind_201 (K0 : Hp → Prop) (Q : Int32 → Hp → Prop) (h : Hp) : Prop := wp_X12_emit ((7 : Int32)) ((0 : Int32)) (h) (fun h2 => w_X12_goesOnBehind_208 K0 Q (h2))
def w_X12_goesOnBehind_189 (K0 : Hp → Prop) (Q : Int32 → Hp → Prop) (h : Hp) : Prop := vp_in (gI (h) 12 (0) (18)) 7 ∧ (((gI (h) 121 (0) (tN (gI (h) 12 (0) (18)))) = 0 → w_X12_goesOnBehind_218 K0 Q (h)) ∧ (¬ (gI (h) 121 (0) (tN (gI (h) 12 (0) (18)))) = 0 → w_X12_goesOnBehind_201 K0 Q (h)))
def w_X12_goesOnBehind_150 (K0 : Hp → Prop) (Q : Int32 → Hp → Prop) (s0 : Int32) (h : Hp) : Prop := ((s0) = 0 → w_X12_goesOnBehind_189 K0 Q (h)) ∧ (¬ (s0) = 0 → w_X12_goesOnBehind_153  Q (h))
def w_X12_goesOnBehind_144 (K0 : Hp → Prop) (Q : Int32 → Hp → Prop) (h : Hp) : Prop := wp_X12_isSign ((61 : Int32)) (h) (fun r2 h2 => w_X12_goesOnBehind_150 K0 Q (r2) (h2))
def w_X12_goesOnBehind_141 (K0 : Hp → Prop) (Q : Int32 → Hp → Prop) (s0 : Int32) (h : Hp) : Prop := (¬ (s0) = 0 → w_X12_goesOnBehind_153  Q (h)) ∧ ((s0) = 0 → w_X12_goesOnBehind_144 K0 Q (h))
def w_X12_goesOnBehind_135 (K0 : Hp → Prop) (Q : Int32 → Hp → Prop) (h : Hp) : Prop := wp_X12_isSign ((60 : Int32)) (h) (fun r2 h2 => w_X12_goesOnBehind_141 K0 Q (r2) (h2))
def w_X12_goesOnBehind_122 (K0 : Hp → Prop) (Q : Int32 → Hp → Prop) (h : Hp) : Prop := vp_in (gI (h) 12 (0) (18)) 7 ∧ (w_X12_goesOnBehind_189 K0 Q (wI (h) 120 (0) (tN (gI (h) 12 (0) (18))) ((0 : Int32))))
def w_X12_goesOnBehind_108 (K0 : Hp → Prop) (Q : Int32 → Hp → Prop) (h : Hp) : Prop := vp_in (gI (h) 12 (0) (18)) 7 ∧ (wp_X12_emit (gI (h) 120 (0) (tN (gI (h) 12 (0) (18)))) ((0 : Int32)) (h) (fun h2 => w_X12_goesOnBehind_122 K0 Q (h2)))
def w_X12_goesOnBehind_96 (K0 : Hp → Prop) (Q : Int32 → Hp → Prop) (h : Hp) : Prop := vp_in (gI (h) 12 (0) (18)) 7 ∧ (((gI (h) 120 (0) (tN (gI (h) 12 (0) (18)))) = 0 → w_X12_goesOnBehind_135 K0 Q (h)) ∧ (¬ (gI (h) 120 (0) (tN (gI (h) 12 (0) (18)))) = 0 → w_X12_goesOnBehind_108 K0 Q (h)))
def w_X12_goesOnBehind_58 (K0 : Hp → Prop) (Q : Int32 → Hp → Prop) (s0 : Int32) (h : Hp) : Prop := ((s0) = 0 → w_X12_goesOnBehind_96 K0 Q (h)) ∧ (¬ (s0) = 0 → w_X12_goesOnBehind_61  Q (h))
def w_X12_goesOnBehind_52 (K0 : Hp → Prop) (Q : Int32 → Hp → Prop) (h : Hp) : Prop := wp_X12_isSign ((45 : Int32)) (h) (fun r2 h2 => w_X12_goesOnBehind_58 K0 Q (r2) (h2))
def w_X12_goesOnBehind_49 (K0 : Hp → Prop) (Q : Int32 → Hp → Prop) (s0 : Int32) (h : Hp) : Prop := (¬ (s0) = 0 → w_X12_goesOnBehind_61  Q (h)) ∧ ((s0) = 0 → w_X12_goesOnBehind_52 K0 Q (h))
def w_X12_goesOnBehind_43 (K0 : Hp → Prop) (Q : Int32 → Hp → Prop) (h : Hp) : Prop := wp_X12_isSign ((43 : Int32)) (h) (fun r2 h2 => w_X12_goesOnBehind_49 K0 Q (r2) (h2))
def w_X12_goesOnBehind_33 (K0 : Hp → Prop) (Q : Int32 → Hp → Prop) (h : Hp) : Prop := vp_in (gI (h) 12 (0) (18)) 7 ∧ (w_X12_goesOnBehind_43 K0 Q (wI (h) 119 (0) (tN (gI (h) 12 (0) (18))) ((0 : Int32))))
def w_X12_goesOnBehind_19 (K0 : Hp → Prop) (Q : Int32 → Hp → Prop) (h : Hp) : Prop := vp_in (gI (h) 12 (0) (18)) 7 ∧ (wp_X12_emit (gI (h) 119 (0) (tN (gI (h) 12 (0) (18)))) ((0 : Int32)) (h) (fun h2 => w_X12_goesOnBehind_33 K0 Q (h2)))
def w_X12_goesOnBehind_7 (K0 : Hp → Prop) (Q : Int32 → Hp → Prop) (h : Hp) : Prop := vp_in (gI (h) 12 (0) (18)) 7 ∧ (((gI (h) 119 (0) (tN (gI (h) 12 (0) (18)))) = 0 → w_X12_goesOnBehind_43 K0 Q (h)) ∧ (¬ (gI (h) 119 (0) (tN (gI (h) 12 (0) (18)))) = 0 → w_X12_goesOnBehind_19 K0 Q (h)))
def w_X12_goesOnBehind_0 (Q : Int32 → Hp → Prop) : Nat → Hp → Prop
  | 0 => fun _ => False
  | N + 1 => fun h => (¬ (gI (h) 12 (0) (8)) = 0 → w_X12_goesOnBehind_277  Q (h)) ∧ ((gI (h) 12 (0) (8)) = 0 → w_X12_goesOnBehind_7 (w_X12_goesOnBehind_0  Q N) Q (h))
theorem s_X12_goesOnBehind_277 {E : EnvT} {d : Nat} (cx : CX E "ShoreDayModel" cX12_goesOnBehind 1 (some .boolean) "goesOnBehind" (d + 3) 0 0) (hY : eY E = lay1) {Q : Int32 → Hp → Prop} (eq : EQ E 0 0 (fun r h2 => ∃ x, r = [vI x] ∧ Q x h2)) {h : Hp} {c n : Nat} (hc : c + 0 ≤ 0) (hn : n + 0 ≤ 0) (w : w_X12_goesOnBehind_277  Q  h) : SW E 277 ([some (vP (some (12, 0)))], [], h, c, n) := by
  exact k_X12_goesOnBehind_277 cx hY eq (by omega) (by omega) ⟨_, rfl, w⟩
theorem s_X12_goesOnBehind_83 {E : EnvT} {d : Nat} (cx : CX E "ShoreDayModel" cX12_goesOnBehind 1 (some .boolean) "goesOnBehind" (d + 3) 0 0) (hY : eY E = lay1) {Q : Int32 → Hp → Prop} (eq : EQ E 0 0 (fun r h2 => ∃ x, r = [vI x] ∧ Q x h2)) {s1 : Int32} {s2 : Int32} {h : Hp} {c n : Nat} (hc : c + 0 ≤ 0) (hn : n + 0 ≤ 0) (w : w_X12_goesOnBehind_83  Q s1 s2 h) : SW E 83 ([some (vP (some (12, 0)))], [vI (s2), vI (s1), vP (some (119, 0))], h, c, n) := by
  obtain ⟨G1, w⟩ := w
  exact k_X12_goesOnBehind_83 cx hY G1 eq (by omega) (by omega) ⟨_, rfl, w⟩
theorem s_X12_goesOnBehind_82 {E : EnvT} {d : Nat} (cx : CX E "ShoreDayModel" cX12_goesOnBehind 1 (some .boolean) "goesOnBehind" (d + 3) 0 0) (hY : eY E = lay1) {Q : Int32 → Hp → Prop} (eq : EQ E 0 0 (fun r h2 => ∃ x, r = [vI x] ∧ Q x h2)) {s1 : Int32} {h : Hp} {c n : Nat} (hc : c + 0 ≤ 0) (hn : n + 0 ≤ 0) (w : w_X12_goesOnBehind_82  Q s1 h) : SW E 82 ([some (vP (some (12, 0)))], [vI (s1), vP (some (119, 0))], h, c, n) := by
  refine k_X12_goesOnBehind_82 cx hY ?_
  exact s_X12_goesOnBehind_83 cx hY eq  (by omega) (by omega) w
theorem s_X12_goesOnBehind_78 {E : EnvT} {d : Nat} (cx : CX E "ShoreDayModel" cX12_goesOnBehind 1 (some .boolean) "goesOnBehind" (d + 3) 0 0) (hY : eY E = lay1) {Q : Int32 → Hp → Prop} (eq : EQ E 0 0 (fun r h2 => ∃ x, r = [vI x] ∧ Q x h2)) {s1 : Int32} {h : Hp} {c n : Nat} (hc : c + 0 ≤ 0) (hn : n + 0 ≤ 0) (w : w_X12_goesOnBehind_78  Q s1 h) : SW E 78 ([some (vP (some (12, 0)))], [vI (s1), vP (some (119, 0))], h, c, n) := by
  refine k_X12_goesOnBehind_78 cx hY ?_
  exact s_X12_goesOnBehind_83 cx hY eq  (by omega) (by omega) w
theorem s_X12_goesOnBehind_75 {E : EnvT} {d : Nat} (cx : CX E "ShoreDayModel" cX12_goesOnBehind 1 (some .boolean) "goesOnBehind" (d + 3) 0 0) (hY : eY E = lay1) {Q : Int32 → Hp → Prop} (eq : EQ E 0 0 (fun r h2 => ∃ x, r = [vI x] ∧ Q x h2)) {s1 : Int32} {s2 : Int32} {h : Hp} {c n : Nat} (hc : c + 0 ≤ 0) (hn : n + 0 ≤ 0) (w : w_X12_goesOnBehind_75  Q s1 s2 h) : SW E 75 ([some (vP (some (12, 0)))], [vI (s2), vI (s1), vP (some (119, 0))], h, c, n) := by
  refine k_X12_goesOnBehind_75 cx hY (fun q => ?_) (fun q => ?_)
  · have w := w.1 q
    exact s_X12_goesOnBehind_82 cx hY eq  (by omega) (by omega) w
  · have w := w.2 q
    exact s_X12_goesOnBehind_78 cx hY eq  (by omega) (by omega) w
theorem s_X12_goesOnBehind_61 {E : EnvT} {d : Nat} (cx : CX E "ShoreDayModel" cX12_goesOnBehind 1 (some .boolean) "goesOnBehind" (d + 3) 0 0) (hY : eY E = lay1) {Q : Int32 → Hp → Prop} (eq : EQ E 0 0 (fun r h2 => ∃ x, r = [vI x] ∧ Q x h2)) {h : Hp} {c n : Nat} (hc : c + 0 ≤ 0) (hn : n + 0 ≤ 0) (w : w_X12_goesOnBehind_61  Q  h) : SW E 61 ([some (vP (some (12, 0)))], [], h, c, n) := by
  refine k_X12_goesOnBehind_61 cx hY (ctY hY (vc_X12_isSign (d := d + 1) w)) (by omega) (by omega) (by omega) (fun r h2 hp => ?_)
  obtain ⟨r2, rfl, w⟩ := hp
  exact s_X12_goesOnBehind_75 cx hY eq  (by omega) (by omega) w
theorem s_X12_goesOnBehind_176 {E : EnvT} {d : Nat} (cx : CX E "ShoreDayModel" cX12_goesOnBehind 1 (some .boolean) "goesOnBehind" (d + 3) 0 0) (hY : eY E = lay1) {Q : Int32 → Hp → Prop} (eq : EQ E 0 0 (fun r h2 => ∃ x, r = [vI x] ∧ Q x h2)) {s1 : Int32} {s2 : Int32} {h : Hp} {c n : Nat} (hc : c + 0 ≤ 0) (hn : n + 0 ≤ 0) (w : w_X12_goesOnBehind_176  Q s1 s2 h) : SW E 176 ([some (vP (some (12, 0)))], [vI (s2), vI (s1), vP (some (120, 0))], h, c, n) := by
  obtain ⟨G1, w⟩ := w
  exact k_X12_goesOnBehind_176 cx hY G1 eq (by omega) (by omega) ⟨_, rfl, w⟩
theorem s_X12_goesOnBehind_174 {E : EnvT} {d : Nat} (cx : CX E "ShoreDayModel" cX12_goesOnBehind 1 (some .boolean) "goesOnBehind" (d + 3) 0 0) (hY : eY E = lay1) {Q : Int32 → Hp → Prop} (eq : EQ E 0 0 (fun r h2 => ∃ x, r = [vI x] ∧ Q x h2)) {s1 : Int32} {h : Hp} {c n : Nat} (hc : c + 0 ≤ 0) (hn : n + 0 ≤ 0) (w : w_X12_goesOnBehind_174  Q s1 h) : SW E 174 ([some (vP (some (12, 0)))], [vI (s1), vP (some (120, 0))], h, c, n) := by
  refine k_X12_goesOnBehind_174 cx hY ?_
  exact s_X12_goesOnBehind_176 cx hY eq  (by omega) (by omega) w
theorem s_X12_goesOnBehind_170 {E : EnvT} {d : Nat} (cx : CX E "ShoreDayModel" cX12_goesOnBehind 1 (some .boolean) "goesOnBehind" (d + 3) 0 0) (hY : eY E = lay1) {Q : Int32 → Hp → Prop} (eq : EQ E 0 0 (fun r h2 => ∃ x, r = [vI x] ∧ Q x h2)) {s1 : Int32} {h : Hp} {c n : Nat} (hc : c + 0 ≤ 0) (hn : n + 0 ≤ 0) (w : w_X12_goesOnBehind_170  Q s1 h) : SW E 170 ([some (vP (some (12, 0)))], [vI (s1), vP (some (120, 0))], h, c, n) := by
  refine k_X12_goesOnBehind_170 cx hY ?_
  exact s_X12_goesOnBehind_176 cx hY eq  (by omega) (by omega) w
theorem s_X12_goesOnBehind_167 {E : EnvT} {d : Nat} (cx : CX E "ShoreDayModel" cX12_goesOnBehind 1 (some .boolean) "goesOnBehind" (d + 3) 0 0) (hY : eY E = lay1) {Q : Int32 → Hp → Prop} (eq : EQ E 0 0 (fun r h2 => ∃ x, r = [vI x] ∧ Q x h2)) {s1 : Int32} {s2 : Int32} {h : Hp} {c n : Nat} (hc : c + 0 ≤ 0) (hn : n + 0 ≤ 0) (w : w_X12_goesOnBehind_167  Q s1 s2 h) : SW E 167 ([some (vP (some (12, 0)))], [vI (s2), vI (s1), vP (some (120, 0))], h, c, n) := by
  refine k_X12_goesOnBehind_167 cx hY (fun q => ?_) (fun q => ?_)
  · have w := w.1 q
    exact s_X12_goesOnBehind_174 cx hY eq  (by omega) (by omega) w
  · have w := w.2 q
    exact s_X12_goesOnBehind_170 cx hY eq  (by omega) (by omega) w
theorem s_X12_goesOnBehind_153 {E : EnvT} {d : Nat} (cx : CX E "ShoreDayModel" cX12_goesOnBehind 1 (some .boolean) "goesOnBehind" (d + 3) 0 0) (hY : eY E = lay1) {Q : Int32 → Hp → Prop} (eq : EQ E 0 0 (fun r h2 => ∃ x, r = [vI x] ∧ Q x h2)) {h : Hp} {c n : Nat} (hc : c + 0 ≤ 0) (hn : n + 0 ≤ 0) (w : w_X12_goesOnBehind_153  Q  h) : SW E 153 ([some (vP (some (12, 0)))], [], h, c, n) := by
  refine k_X12_goesOnBehind_153 cx hY (ctY hY (vc_X12_isSign (d := d + 1) w)) (by omega) (by omega) (by omega) (fun r h2 hp => ?_)
  obtain ⟨r2, rfl, w⟩ := hp
  exact s_X12_goesOnBehind_167 cx hY eq  (by omega) (by omega) w
theorem s_X12_goesOnBehind_264 {E : EnvT} {d : Nat} (cx : CX E "ShoreDayModel" cX12_goesOnBehind 1 (some .boolean) "goesOnBehind" (d + 3) 0 0) (hY : eY E = lay1) {Q : Int32 → Hp → Prop} (eq : EQ E 0 0 (fun r h2 => ∃ x, r = [vI x] ∧ Q x h2)) {K0 : Hp → Prop} (hK0 : ∀ (h : Hp) (c n : Nat), c + 0 ≤ 0 → n + 0 ≤ 0 → K0  h → SW E 0 ([some (vP (some (12, 0)))], [], h, c, n)) {h : Hp} {c n : Nat} (hc : c + 0 ≤ 0) (hn : n + 0 ≤ 0) (w : w_X12_goesOnBehind_264 K0 Q  h) : SW E 264 ([some (vP (some (12, 0)))], [], h, c, n) := by
  refine k_X12_goesOnBehind_264 cx hY ?_
  exact hK0  _ _ _ (by omega) (by omega) w
theorem s_X12_goesOnBehind_258 {E : EnvT} {d : Nat} (cx : CX E "ShoreDayModel" cX12_goesOnBehind 1 (some .boolean) "goesOnBehind" (d + 3) 0 0) (hY : eY E = lay1) {Q : Int32 → Hp → Prop} (eq : EQ E 0 0 (fun r h2 => ∃ x, r = [vI x] ∧ Q x h2)) {K0 : Hp → Prop} (hK0 : ∀ (h : Hp) (c n : Nat), c + 0 ≤ 0 → n + 0 ≤ 0 → K0  h → SW E 0 ([some (vP (some (12, 0)))], [], h, c, n)) {h : Hp} {c n : Nat} (hc : c + 0 ≤ 0) (hn : n + 0 ≤ 0) (w : w_X12_goesOnBehind_258 K0 Q  h) : SW E 258 ([some (vP (some (12, 0)))], [], h, c, n) := by
  refine k_X12_goesOnBehind_258 cx hY (ctY hY (vc_X12_takeSign (d := d + 0) w)) (by omega) (by omega) (by omega) (fun r h2 hp => ?_)
  obtain ⟨rfl, w⟩ := hp
  exact s_X12_goesOnBehind_264 cx hY eq hK0 (by omega) (by omega) w
theorem s_X12_goesOnBehind_256 {E : EnvT} {d : Nat} (cx : CX E "ShoreDayModel" cX12_goesOnBehind 1 (some .boolean) "goesOnBehind" (d + 3) 0 0) (hY : eY E = lay1) {Q : Int32 → Hp → Prop} (eq : EQ E 0 0 (fun r h2 => ∃ x, r = [vI x] ∧ Q x h2)) {h : Hp} {c n : Nat} (hc : c + 0 ≤ 0) (hn : n + 0 ≤ 0) (w : w_X12_goesOnBehind_256  Q  h) : SW E 256 ([some (vP (some (12, 0)))], [], h, c, n) := by
  exact k_X12_goesOnBehind_256 cx hY eq (by omega) (by omega) ⟨_, rfl, w⟩
theorem s_X12_goesOnBehind_249 {E : EnvT} {d : Nat} (cx : CX E "ShoreDayModel" cX12_goesOnBehind 1 (some .boolean) "goesOnBehind" (d + 3) 0 0) (hY : eY E = lay1) {Q : Int32 → Hp → Prop} (eq : EQ E 0 0 (fun r h2 => ∃ x, r = [vI x] ∧ Q x h2)) {K0 : Hp → Prop} (hK0 : ∀ (h : Hp) (c n : Nat), c + 0 ≤ 0 → n + 0 ≤ 0 → K0  h → SW E 0 ([some (vP (some (12, 0)))], [], h, c, n)) {h : Hp} {c n : Nat} (hc : c + 0 ≤ 0) (hn : n + 0 ≤ 0) (w : w_X12_goesOnBehind_249 K0 Q  h) : SW E 249 ([some (vP (some (12, 0)))], [], h, c, n) := by
  refine k_X12_goesOnBehind_249 cx hY (fun q => ?_) (fun q => ?_)
  · have w := w.1 q
    exact s_X12_goesOnBehind_258 cx hY eq hK0 (by omega) (by omega) w
  · have w := w.2 q
    exact s_X12_goesOnBehind_256 cx hY eq  (by omega) (by omega) w
theorem s_X12_goesOnBehind_247 {E : EnvT} {d : Nat} (cx : CX E "ShoreDayModel" cX12_goesOnBehind 1 (some .boolean) "goesOnBehind" (d + 3) 0 0) (hY : eY E = lay1) {Q : Int32 → Hp → Prop} (eq : EQ E 0 0 (fun r h2 => ∃ x, r = [vI x] ∧ Q x h2)) {h : Hp} {c n : Nat} (hc : c + 0 ≤ 0) (hn : n + 0 ≤ 0) (w : w_X12_goesOnBehind_247  Q  h) : SW E 247 ([some (vP (some (12, 0)))], [], h, c, n) := by
  exact k_X12_goesOnBehind_247 cx hY eq (by omega) (by omega) ⟨_, rfl, w⟩
theorem s_X12_goesOnBehind_226 {E : EnvT} {d : Nat} (cx : CX E "ShoreDayModel" cX12_goesOnBehind 1 (some .boolean) "goesOnBehind" (d + 3) 0 0) (hY : eY E = lay1) {Q : Int32 → Hp → Prop} (eq : EQ E 0 0 (fun r h2 => ∃ x, r = [vI x] ∧ Q x h2)) {h : Hp} {c n : Nat} (hc : c + 0 ≤ 0) (hn : n + 0 ≤ 0) (w : w_X12_goesOnBehind_226  Q  h) : SW E 226 ([some (vP (some (12, 0)))], [], h, c, n) := by
  obtain ⟨G1, w⟩ := w
  refine k_X12_goesOnBehind_226 cx hY G1 ?_
  exact s_X12_goesOnBehind_247 cx hY eq  (by omega) (by omega) w
theorem s_X12_goesOnBehind_223 {E : EnvT} {d : Nat} (cx : CX E "ShoreDayModel" cX12_goesOnBehind 1 (some .boolean) "goesOnBehind" (d + 3) 0 0) (hY : eY E = lay1) {Q : Int32 → Hp → Prop} (eq : EQ E 0 0 (fun r h2 => ∃ x, r = [vI x] ∧ Q x h2)) {K0 : Hp → Prop} (hK0 : ∀ (h : Hp) (c n : Nat), c + 0 ≤ 0 → n + 0 ≤ 0 → K0  h → SW E 0 ([some (vP (some (12, 0)))], [], h, c, n)) {s0 : Int32} {h : Hp} {c n : Nat} (hc : c + 0 ≤ 0) (hn : n + 0 ≤ 0) (w : w_X12_goesOnBehind_223 K0 Q s0 h) : SW E 223 ([some (vP (some (12, 0)))], [vI (s0)], h, c, n) := by
  refine k_X12_goesOnBehind_223 cx hY (fun q => ?_) (fun q => ?_)
  · have w := w.1 q
    exact s_X12_goesOnBehind_249 cx hY eq hK0 (by omega) (by omega) w
  · have w := w.2 q
    exact s_X12_goesOnBehind_226 cx hY eq  (by omega) (by omega) w
theorem s_X12_goesOnBehind_218 {E : EnvT} {d : Nat} (cx : CX E "ShoreDayModel" cX12_goesOnBehind 1 (some .boolean) "goesOnBehind" (d + 3) 0 0) (hY : eY E = lay1) {Q : Int32 → Hp → Prop} (eq : EQ E 0 0 (fun r h2 => ∃ x, r = [vI x] ∧ Q x h2)) {K0 : Hp → Prop} (hK0 : ∀ (h : Hp) (c n : Nat), c + 0 ≤ 0 → n + 0 ≤ 0 → K0  h → SW E 0 ([some (vP (some (12, 0)))], [], h, c, n)) {h : Hp} {c n : Nat} (hc : c + 0 ≤ 0) (hn : n + 0 ≤ 0) (w : w_X12_goesOnBehind_218 K0 Q  h) : SW E 218 ([some (vP (some (12, 0)))], [], h, c, n) := by
  refine k_X12_goesOnBehind_218 cx hY (ctY hY (vc_X12_isWord (d := d + 1) w)) (by omega) (by omega) (by omega) (fun r h2 hp => ?_)
  obtain ⟨r2, rfl, w⟩ := hp
  exact s_X12_goesOnBehind_223 cx hY eq hK0 (by omega) (by omega) w
theorem s_X12_goesOnBehind_208 {E : EnvT} {d : Nat} (cx : CX E "ShoreDayModel" cX12_goesOnBehind 1 (some .boolean) "goesOnBehind" (d + 3) 0 0) (hY : eY E = lay1) {Q : Int32 → Hp → Prop} (eq : EQ E 0 0 (fun r h2 => ∃ x, r = [vI x] ∧ Q x h2)) {K0 : Hp → Prop} (hK0 : ∀ (h : Hp) (c n : Nat), c + 0 ≤ 0 → n + 0 ≤ 0 → K0  h → SW E 0 ([some (vP (some (12, 0)))], [], h, c, n)) {h : Hp} {c n : Nat} (hc : c + 0 ≤ 0) (hn : n + 0 ≤ 0) (w : w_X12_goesOnBehind_208 K0 Q  h) : SW E 208 ([some (vP (some (12, 0)))], [], h, c, n) := by
  obtain ⟨G1, w⟩ := w
  refine k_X12_goesOnBehind_208 cx hY G1 ?_
  exact s_X12_goesOnBehind_218 cx hY eq hK0 (by omega) (by omega) w
theorem s_X12_goesOnBehind_201 {E : EnvT} {d : Nat} (cx : CX E "ShoreDayModel" cX12_goesOnBehind 1 (some .boolean) "goesOnBehind" (d + 3) 0 0) (hY : eY E = lay1) {Q : Int32 → Hp → Prop} (eq : EQ E 0 0 (fun r h2 => ∃ x, r = [vI x] ∧ Q x h2)) {K0 : Hp → Prop} (hK0 : ∀ (h : Hp) (c n : Nat), c + 0 ≤ 0 → n + 0 ≤ 0 → K0  h → SW E 0 ([some (vP (some (12, 0)))], [], h, c, n)) {h : Hp} {c n : Nat} (hc : c + 0 ≤ 0) (hn : n + 0 ≤ 0) (w : w_X12_goesOnBehind_201 K0 Q  h) : SW E 201 ([some (vP (some (12, 0)))], [], h, c, n) := by
  refine k_X12_goesOnBehind_201 cx hY (ctY hY (vc_X12_emit (d := d + 1) w)) (by omega) (by omega) (by omega) (fun r h2 hp => ?_)
  obtain ⟨rfl, w⟩ := hp
  exact s_X12_goesOnBehind_208 cx hY eq hK0 (by omega) (by omega) w
theorem s_X12_goesOnBehind_189 {E : EnvT} {d : Nat} (cx : CX E "ShoreDayModel" cX12_goesOnBehind 1 (some .boolean) "goesOnBehind" (d + 3) 0 0) (hY : eY E = lay1) {Q : Int32 → Hp → Prop} (eq : EQ E 0 0 (fun r h2 => ∃ x, r = [vI x] ∧ Q x h2)) {K0 : Hp → Prop} (hK0 : ∀ (h : Hp) (c n : Nat), c + 0 ≤ 0 → n + 0 ≤ 0 → K0  h → SW E 0 ([some (vP (some (12, 0)))], [], h, c, n)) {h : Hp} {c n : Nat} (hc : c + 0 ≤ 0) (hn : n + 0 ≤ 0) (w : w_X12_goesOnBehind_189 K0 Q  h) : SW E 189 ([some (vP (some (12, 0)))], [], h, c, n) := by
  obtain ⟨G1, w⟩ := w
  refine k_X12_goesOnBehind_189 cx hY G1 (fun q => ?_) (fun q => ?_)
  · have w := w.1 q
    exact s_X12_goesOnBehind_218 cx hY eq hK0 (by omega) (by omega) w
  · have w := w.2 q
    exact s_X12_goesOnBehind_201 cx hY eq hK0 (by omega) (by omega) w
theorem s_X12_goesOnBehind_150 {E : EnvT} {d : Nat} (cx : CX E "ShoreDayModel" cX12_goesOnBehind 1 (some .boolean) "goesOnBehind" (d + 3) 0 0) (hY : eY E = lay1) {Q : Int32 → Hp → Prop} (eq : EQ E 0 0 (fun r h2 => ∃ x, r = [vI x] ∧ Q x h2)) {K0 : Hp → Prop} (hK0 : ∀ (h : Hp) (c n : Nat), c + 0 ≤ 0 → n + 0 ≤ 0 → K0  h → SW E 0 ([some (vP (some (12, 0)))], [], h, c, n)) {s0 : Int32} {h : Hp} {c n : Nat} (hc : c + 0 ≤ 0) (hn : n + 0 ≤ 0) (w : w_X12_goesOnBehind_150 K0 Q s0 h) : SW E 150 ([some (vP (some (12, 0)))], [vI (s0)], h, c, n) := by
  refine k_X12_goesOnBehind_150 cx hY (fun q => ?_) (fun q => ?_)
  · have w := w.1 q
    exact s_X12_goesOnBehind_189 cx hY eq hK0 (by omega) (by omega) w
  · have w := w.2 q
    exact s_X12_goesOnBehind_153 cx hY eq  (by omega) (by omega) w
theorem s_X12_goesOnBehind_144 {E : EnvT} {d : Nat} (cx : CX E "ShoreDayModel" cX12_goesOnBehind 1 (some .boolean) "goesOnBehind" (d + 3) 0 0) (hY : eY E = lay1) {Q : Int32 → Hp → Prop} (eq : EQ E 0 0 (fun r h2 => ∃ x, r = [vI x] ∧ Q x h2)) {K0 : Hp → Prop} (hK0 : ∀ (h : Hp) (c n : Nat), c + 0 ≤ 0 → n + 0 ≤ 0 → K0  h → SW E 0 ([some (vP (some (12, 0)))], [], h, c, n)) {h : Hp} {c n : Nat} (hc : c + 0 ≤ 0) (hn : n + 0 ≤ 0) (w : w_X12_goesOnBehind_144 K0 Q  h) : SW E 144 ([some (vP (some (12, 0)))], [], h, c, n) := by
  refine k_X12_goesOnBehind_144 cx hY (ctY hY (vc_X12_isSign (d := d + 1) w)) (by omega) (by omega) (by omega) (fun r h2 hp => ?_)
  obtain ⟨r2, rfl, w⟩ := hp
  exact s_X12_goesOnBehind_150 cx hY eq hK0 (by omega) (by omega) w
theorem s_X12_goesOnBehind_141 {E : EnvT} {d : Nat} (cx : CX E "ShoreDayModel" cX12_goesOnBehind 1 (some .boolean) "goesOnBehind" (d + 3) 0 0) (hY : eY E = lay1) {Q : Int32 → Hp → Prop} (eq : EQ E 0 0 (fun r h2 => ∃ x, r = [vI x] ∧ Q x h2)) {K0 : Hp → Prop} (hK0 : ∀ (h : Hp) (c n : Nat), c + 0 ≤ 0 → n + 0 ≤ 0 → K0  h → SW E 0 ([some (vP (some (12, 0)))], [], h, c, n)) {s0 : Int32} {h : Hp} {c n : Nat} (hc : c + 0 ≤ 0) (hn : n + 0 ≤ 0) (w : w_X12_goesOnBehind_141 K0 Q s0 h) : SW E 141 ([some (vP (some (12, 0)))], [vI (s0)], h, c, n) := by
  refine k_X12_goesOnBehind_141 cx hY (fun q => ?_) (fun q => ?_)
  · have w := w.1 q
    exact s_X12_goesOnBehind_153 cx hY eq  (by omega) (by omega) w
  · have w := w.2 q
    exact s_X12_goesOnBehind_144 cx hY eq hK0 (by omega) (by omega) w
theorem s_X12_goesOnBehind_135 {E : EnvT} {d : Nat} (cx : CX E "ShoreDayModel" cX12_goesOnBehind 1 (some .boolean) "goesOnBehind" (d + 3) 0 0) (hY : eY E = lay1) {Q : Int32 → Hp → Prop} (eq : EQ E 0 0 (fun r h2 => ∃ x, r = [vI x] ∧ Q x h2)) {K0 : Hp → Prop} (hK0 : ∀ (h : Hp) (c n : Nat), c + 0 ≤ 0 → n + 0 ≤ 0 → K0  h → SW E 0 ([some (vP (some (12, 0)))], [], h, c, n)) {h : Hp} {c n : Nat} (hc : c + 0 ≤ 0) (hn : n + 0 ≤ 0) (w : w_X12_goesOnBehind_135 K0 Q  h) : SW E 135 ([some (vP (some (12, 0)))], [], h, c, n) := by
  refine k_X12_goesOnBehind_135 cx hY (ctY hY (vc_X12_isSign (d := d + 1) w)) (by omega) (by omega) (by omega) (fun r h2 hp => ?_)
  obtain ⟨r2, rfl, w⟩ := hp
  exact s_X12_goesOnBehind_141 cx hY eq hK0 (by omega) (by omega) w
theorem s_X12_goesOnBehind_122 {E : EnvT} {d : Nat} (cx : CX E "ShoreDayModel" cX12_goesOnBehind 1 (some .boolean) "goesOnBehind" (d + 3) 0 0) (hY : eY E = lay1) {Q : Int32 → Hp → Prop} (eq : EQ E 0 0 (fun r h2 => ∃ x, r = [vI x] ∧ Q x h2)) {K0 : Hp → Prop} (hK0 : ∀ (h : Hp) (c n : Nat), c + 0 ≤ 0 → n + 0 ≤ 0 → K0  h → SW E 0 ([some (vP (some (12, 0)))], [], h, c, n)) {h : Hp} {c n : Nat} (hc : c + 0 ≤ 0) (hn : n + 0 ≤ 0) (w : w_X12_goesOnBehind_122 K0 Q  h) : SW E 122 ([some (vP (some (12, 0)))], [], h, c, n) := by
  obtain ⟨G1, w⟩ := w
  refine k_X12_goesOnBehind_122 cx hY G1 ?_
  exact s_X12_goesOnBehind_189 cx hY eq hK0 (by omega) (by omega) w
theorem s_X12_goesOnBehind_108 {E : EnvT} {d : Nat} (cx : CX E "ShoreDayModel" cX12_goesOnBehind 1 (some .boolean) "goesOnBehind" (d + 3) 0 0) (hY : eY E = lay1) {Q : Int32 → Hp → Prop} (eq : EQ E 0 0 (fun r h2 => ∃ x, r = [vI x] ∧ Q x h2)) {K0 : Hp → Prop} (hK0 : ∀ (h : Hp) (c n : Nat), c + 0 ≤ 0 → n + 0 ≤ 0 → K0  h → SW E 0 ([some (vP (some (12, 0)))], [], h, c, n)) {h : Hp} {c n : Nat} (hc : c + 0 ≤ 0) (hn : n + 0 ≤ 0) (w : w_X12_goesOnBehind_108 K0 Q  h) : SW E 108 ([some (vP (some (12, 0)))], [], h, c, n) := by
  obtain ⟨G1, w⟩ := w
  refine k_X12_goesOnBehind_108 cx hY G1 (ctY hY (vc_X12_emit (d := d + 1) w)) (by omega) (by omega) (by omega) (fun r h2 hp => ?_)
  obtain ⟨rfl, w⟩ := hp
  exact s_X12_goesOnBehind_122 cx hY eq hK0 (by omega) (by omega) w
theorem s_X12_goesOnBehind_96 {E : EnvT} {d : Nat} (cx : CX E "ShoreDayModel" cX12_goesOnBehind 1 (some .boolean) "goesOnBehind" (d + 3) 0 0) (hY : eY E = lay1) {Q : Int32 → Hp → Prop} (eq : EQ E 0 0 (fun r h2 => ∃ x, r = [vI x] ∧ Q x h2)) {K0 : Hp → Prop} (hK0 : ∀ (h : Hp) (c n : Nat), c + 0 ≤ 0 → n + 0 ≤ 0 → K0  h → SW E 0 ([some (vP (some (12, 0)))], [], h, c, n)) {h : Hp} {c n : Nat} (hc : c + 0 ≤ 0) (hn : n + 0 ≤ 0) (w : w_X12_goesOnBehind_96 K0 Q  h) : SW E 96 ([some (vP (some (12, 0)))], [], h, c, n) := by
  obtain ⟨G1, w⟩ := w
  refine k_X12_goesOnBehind_96 cx hY G1 (fun q => ?_) (fun q => ?_)
  · have w := w.1 q
    exact s_X12_goesOnBehind_135 cx hY eq hK0 (by omega) (by omega) w
  · have w := w.2 q
    exact s_X12_goesOnBehind_108 cx hY eq hK0 (by omega) (by omega) w
theorem s_X12_goesOnBehind_58 {E : EnvT} {d : Nat} (cx : CX E "ShoreDayModel" cX12_goesOnBehind 1 (some .boolean) "goesOnBehind" (d + 3) 0 0) (hY : eY E = lay1) {Q : Int32 → Hp → Prop} (eq : EQ E 0 0 (fun r h2 => ∃ x, r = [vI x] ∧ Q x h2)) {K0 : Hp → Prop} (hK0 : ∀ (h : Hp) (c n : Nat), c + 0 ≤ 0 → n + 0 ≤ 0 → K0  h → SW E 0 ([some (vP (some (12, 0)))], [], h, c, n)) {s0 : Int32} {h : Hp} {c n : Nat} (hc : c + 0 ≤ 0) (hn : n + 0 ≤ 0) (w : w_X12_goesOnBehind_58 K0 Q s0 h) : SW E 58 ([some (vP (some (12, 0)))], [vI (s0)], h, c, n) := by
  refine k_X12_goesOnBehind_58 cx hY (fun q => ?_) (fun q => ?_)
  · have w := w.1 q
    exact s_X12_goesOnBehind_96 cx hY eq hK0 (by omega) (by omega) w
  · have w := w.2 q
    exact s_X12_goesOnBehind_61 cx hY eq  (by omega) (by omega) w
theorem s_X12_goesOnBehind_52 {E : EnvT} {d : Nat} (cx : CX E "ShoreDayModel" cX12_goesOnBehind 1 (some .boolean) "goesOnBehind" (d + 3) 0 0) (hY : eY E = lay1) {Q : Int32 → Hp → Prop} (eq : EQ E 0 0 (fun r h2 => ∃ x, r = [vI x] ∧ Q x h2)) {K0 : Hp → Prop} (hK0 : ∀ (h : Hp) (c n : Nat), c + 0 ≤ 0 → n + 0 ≤ 0 → K0  h → SW E 0 ([some (vP (some (12, 0)))], [], h, c, n)) {h : Hp} {c n : Nat} (hc : c + 0 ≤ 0) (hn : n + 0 ≤ 0) (w : w_X12_goesOnBehind_52 K0 Q  h) : SW E 52 ([some (vP (some (12, 0)))], [], h, c, n) := by
  refine k_X12_goesOnBehind_52 cx hY (ctY hY (vc_X12_isSign (d := d + 1) w)) (by omega) (by omega) (by omega) (fun r h2 hp => ?_)
  obtain ⟨r2, rfl, w⟩ := hp
  exact s_X12_goesOnBehind_58 cx hY eq hK0 (by omega) (by omega) w
theorem s_X12_goesOnBehind_49 {E : EnvT} {d : Nat} (cx : CX E "ShoreDayModel" cX12_goesOnBehind 1 (some .boolean) "goesOnBehind" (d + 3) 0 0) (hY : eY E = lay1) {Q : Int32 → Hp → Prop} (eq : EQ E 0 0 (fun r h2 => ∃ x, r = [vI x] ∧ Q x h2)) {K0 : Hp → Prop} (hK0 : ∀ (h : Hp) (c n : Nat), c + 0 ≤ 0 → n + 0 ≤ 0 → K0  h → SW E 0 ([some (vP (some (12, 0)))], [], h, c, n)) {s0 : Int32} {h : Hp} {c n : Nat} (hc : c + 0 ≤ 0) (hn : n + 0 ≤ 0) (w : w_X12_goesOnBehind_49 K0 Q s0 h) : SW E 49 ([some (vP (some (12, 0)))], [vI (s0)], h, c, n) := by
  refine k_X12_goesOnBehind_49 cx hY (fun q => ?_) (fun q => ?_)
  · have w := w.1 q
    exact s_X12_goesOnBehind_61 cx hY eq  (by omega) (by omega) w
  · have w := w.2 q
    exact s_X12_goesOnBehind_52 cx hY eq hK0 (by omega) (by omega) w
theorem s_X12_goesOnBehind_43 {E : EnvT} {d : Nat} (cx : CX E "ShoreDayModel" cX12_goesOnBehind 1 (some .boolean) "goesOnBehind" (d + 3) 0 0) (hY : eY E = lay1) {Q : Int32 → Hp → Prop} (eq : EQ E 0 0 (fun r h2 => ∃ x, r = [vI x] ∧ Q x h2)) {K0 : Hp → Prop} (hK0 : ∀ (h : Hp) (c n : Nat), c + 0 ≤ 0 → n + 0 ≤ 0 → K0  h → SW E 0 ([some (vP (some (12, 0)))], [], h, c, n)) {h : Hp} {c n : Nat} (hc : c + 0 ≤ 0) (hn : n + 0 ≤ 0) (w : w_X12_goesOnBehind_43 K0 Q  h) : SW E 43 ([some (vP (some (12, 0)))], [], h, c, n) := by
  refine k_X12_goesOnBehind_43 cx hY (ctY hY (vc_X12_isSign (d := d + 1) w)) (by omega) (by omega) (by omega) (fun r h2 hp => ?_)
  obtain ⟨r2, rfl, w⟩ := hp
  exact s_X12_goesOnBehind_49 cx hY eq hK0 (by omega) (by omega) w
theorem s_X12_goesOnBehind_33 {E : EnvT} {d : Nat} (cx : CX E "ShoreDayModel" cX12_goesOnBehind 1 (some .boolean) "goesOnBehind" (d + 3) 0 0) (hY : eY E = lay1) {Q : Int32 → Hp → Prop} (eq : EQ E 0 0 (fun r h2 => ∃ x, r = [vI x] ∧ Q x h2)) {K0 : Hp → Prop} (hK0 : ∀ (h : Hp) (c n : Nat), c + 0 ≤ 0 → n + 0 ≤ 0 → K0  h → SW E 0 ([some (vP (some (12, 0)))], [], h, c, n)) {h : Hp} {c n : Nat} (hc : c + 0 ≤ 0) (hn : n + 0 ≤ 0) (w : w_X12_goesOnBehind_33 K0 Q  h) : SW E 33 ([some (vP (some (12, 0)))], [], h, c, n) := by
  obtain ⟨G1, w⟩ := w
  refine k_X12_goesOnBehind_33 cx hY G1 ?_
  exact s_X12_goesOnBehind_43 cx hY eq hK0 (by omega) (by omega) w
theorem s_X12_goesOnBehind_19 {E : EnvT} {d : Nat} (cx : CX E "ShoreDayModel" cX12_goesOnBehind 1 (some .boolean) "goesOnBehind" (d + 3) 0 0) (hY : eY E = lay1) {Q : Int32 → Hp → Prop} (eq : EQ E 0 0 (fun r h2 => ∃ x, r = [vI x] ∧ Q x h2)) {K0 : Hp → Prop} (hK0 : ∀ (h : Hp) (c n : Nat), c + 0 ≤ 0 → n + 0 ≤ 0 → K0  h → SW E 0 ([some (vP (some (12, 0)))], [], h, c, n)) {h : Hp} {c n : Nat} (hc : c + 0 ≤ 0) (hn : n + 0 ≤ 0) (w : w_X12_goesOnBehind_19 K0 Q  h) : SW E 19 ([some (vP (some (12, 0)))], [], h, c, n) := by
  obtain ⟨G1, w⟩ := w
  refine k_X12_goesOnBehind_19 cx hY G1 (ctY hY (vc_X12_emit (d := d + 1) w)) (by omega) (by omega) (by omega) (fun r h2 hp => ?_)
  obtain ⟨rfl, w⟩ := hp
  exact s_X12_goesOnBehind_33 cx hY eq hK0 (by omega) (by omega) w
theorem s_X12_goesOnBehind_7 {E : EnvT} {d : Nat} (cx : CX E "ShoreDayModel" cX12_goesOnBehind 1 (some .boolean) "goesOnBehind" (d + 3) 0 0) (hY : eY E = lay1) {Q : Int32 → Hp → Prop} (eq : EQ E 0 0 (fun r h2 => ∃ x, r = [vI x] ∧ Q x h2)) {K0 : Hp → Prop} (hK0 : ∀ (h : Hp) (c n : Nat), c + 0 ≤ 0 → n + 0 ≤ 0 → K0  h → SW E 0 ([some (vP (some (12, 0)))], [], h, c, n)) {h : Hp} {c n : Nat} (hc : c + 0 ≤ 0) (hn : n + 0 ≤ 0) (w : w_X12_goesOnBehind_7 K0 Q  h) : SW E 7 ([some (vP (some (12, 0)))], [], h, c, n) := by
  obtain ⟨G1, w⟩ := w
  refine k_X12_goesOnBehind_7 cx hY G1 (fun q => ?_) (fun q => ?_)
  · have w := w.1 q
    exact s_X12_goesOnBehind_43 cx hY eq hK0 (by omega) (by omega) w
  · have w := w.2 q
    exact s_X12_goesOnBehind_19 cx hY eq hK0 (by omega) (by omega) w
theorem s_X12_goesOnBehind_0 {E : EnvT} {d : Nat} (cx : CX E "ShoreDayModel" cX12_goesOnBehind 1 (some .boolean) "goesOnBehind" (d + 3) 0 0) (hY : eY E = lay1) {Q : Int32 → Hp → Prop} (eq : EQ E 0 0 (fun r h2 => ∃ x, r = [vI x] ∧ Q x h2)) : ∀ (N : Nat) (h : Hp) (c n : Nat), c + 0 ≤ 0 → n + 0 ≤ 0 → w_X12_goesOnBehind_0  Q N  h → SW E 0 ([some (vP (some (12, 0)))], [], h, c, n) := by
  intro N
  induction N with
  | zero =>
    intro  h c n _ _ w
    exact w.elim
  | succ N ih =>
    intro  h c n hc hn w
    refine k_X12_goesOnBehind_0 cx hY (fun q => ?_) (fun q => ?_)
    · have w := w.1 q
      exact s_X12_goesOnBehind_277 cx hY eq  (by omega) (by omega) w
    · have w := w.2 q
      exact s_X12_goesOnBehind_7 cx hY eq ih (by omega) (by omega) w
def wp_X12_goesOnBehind (h : Hp) (Q : Int32 → Hp → Prop) : Prop := ∃ N, w_X12_goesOnBehind_0 Q N  h
theorem vc_X12_goesOnBehind {l : Launch} {d : Nat} {h : Hp} {Q : Int32 → Hp → Prop} (w : wp_X12_goesOnBehind h Q) : Ct l lay1 yX12_goesOnBehind cX12_goesOnBehind 1 (some .boolean) (d + 3) 0 0 [vP (some (12, 0))] h (fun r h2 => ∃ x, r = [vI x] ∧ Q x h2) := by
  obtain ⟨N, w⟩ := w; exact Ct.of (by decide) (Nat.le_of_ble_eq_true rfl) fun E cx eq hl hY => s_X12_goesOnBehind_0 cx hY eq N  _ _ _ (Nat.le_refl _) (Nat.le_refl _) w
def w_X12_worth_192 (Q : Int32 → Hp → Prop) (a1 : Int32) (a2 : Int32) (a3 : Int32) (h : Hp) : Prop := vp_in ((0 : Int32)) 660 ∧ (Q (gI (h) 123 (0) (tN ((0 : Int32)))) (h))
def w_X12_worth_186 (K4 : Int32 → Int32 → Int32 → Hp → Prop) (Q : Int32 → Hp → Prop) (a1 : Int32) (a2 : Int32) (a3 : Int32) (a4 : Int32) (h : Hp) : Prop := K4 (a1) (a2 + 1) (a3) (h)
def w_X12_worth_64 (K4 : Int32 → Int32 → Int32 → Hp → Prop) (Q : Int32 → Hp → Prop) (a1 : Int32) (a2 : Int32) (a3 : Int32) (a4 : Int32) (s1 : Int32) (s2 : Int32) (h : Hp) : Prop := vp_in (s1) 660 ∧ (w_X12_worth_186 K4 Q (a1) (a2) (a3 + 1) (a4) (wI (h) 123 (0) (tN (s1)) (s2)))
def w_X12_worth_53 (K4 : Int32 → Int32 → Int32 → Hp → Prop) (Q : Int32 → Hp → Prop) (a1 : Int32) (a2 : Int32) (a3 : Int32) (a4 : Int32) (s1 : Int32) (h : Hp) : Prop := vp_in (a2) 1320 ∧ (vp_in (gI (h) 114 (0) (tN (a2))) 6 ∧ (w_X12_worth_64 K4 Q (a1) (a2) (a3) (a4) (s1) (gI (h) 122 (0) (tN (gI (h) 114 (0) (tN (a2))))) (h)))
def w_X12_worth_44 (K4 : Int32 → Int32 → Int32 → Hp → Prop) (Q : Int32 → Hp → Prop) (a1 : Int32) (a2 : Int32) (a3 : Int32) (a4 : Int32) (s1 : Int32) (h : Hp) : Prop := vp_in (a2) 1320 ∧ (w_X12_worth_64 K4 Q (a1) (a2) (a3) (a4) (s1) (gI (h) 114 (0) (tN (a2))) (h))
def w_X12_worth_33 (K4 : Int32 → Int32 → Int32 → Hp → Prop) (Q : Int32 → Hp → Prop) (a1 : Int32) (a2 : Int32) (a3 : Int32) (a4 : Int32) (h : Hp) : Prop := (¬ (a4) = ((1 : Int32)) → w_X12_worth_53 K4 Q (a1) (a2) (a3) (a4) (a3) (h)) ∧ ((a4) = ((1 : Int32)) → w_X12_worth_44 K4 Q (a1) (a2) (a3) (a4) (a3) (h))
def w_X12_worth_185 (K4 : Int32 → Int32 → Int32 → Hp → Prop) (Q : Int32 → Hp → Prop) (a1 : Int32) (a2 : Int32) (a3 : Int32) (a4 : Int32) (a5 : Int32) (a6 : Int32) (s1 : Int32) (s2 : Int32) (h : Hp) : Prop := vp_in (s1) 660 ∧ (w_X12_worth_186 K4 Q (a1) (a2) (a3) (a4) (wI (h) 123 (0) (tN (s1)) (s2)))
def w_X12_worth_184 (K4 : Int32 → Int32 → Int32 → Hp → Prop) (Q : Int32 → Hp → Prop) (a1 : Int32) (a2 : Int32) (a3 : Int32) (a4 : Int32) (a5 : Int32) (a6 : Int32) (s1 : Int32) (h : Hp) : Prop := w_X12_worth_185 K4 Q (a1) (a2) (a3) (a4) (a5) (a6) (s1) ((0 : Int32)) (h)
def w_X12_worth_180 (K4 : Int32 → Int32 → Int32 → Hp → Prop) (Q : Int32 → Hp → Prop) (a1 : Int32) (a2 : Int32) (a3 : Int32) (a4 : Int32) (a5 : Int32) (a6 : Int32) (s1 : Int32) (h : Hp) : Prop := w_X12_worth_185 K4 Q (a1) (a2) (a3) (a4) (a5) (a6) (s1) ((1 : Int32)) (h)
def w_X12_worth_175 (K4 : Int32 → Int32 → Int32 → Hp → Prop) (Q : Int32 → Hp → Prop) (a1 : Int32) (a2 : Int32) (a3 : Int32) (a4 : Int32) (a5 : Int32) (a6 : Int32) (s1 : Int32) (h : Hp) : Prop := ((a5) = 0 → w_X12_worth_184 K4 Q (a1) (a2) (a3) (a4) (a5) (a6) (s1) (h)) ∧ (¬ (a5) = 0 → w_X12_worth_180 K4 Q (a1) (a2) (a3) (a4) (a5) (a6) (s1) (h))
def w_X12_worth_170 (K4 : Int32 → Int32 → Int32 → Hp → Prop) (Q : Int32 → Hp → Prop) (a1 : Int32) (a2 : Int32) (a3 : Int32) (a4 : Int32) (a5 : Int32) (a6 : Int32) (s1 : Int32) (h : Hp) : Prop := ((a6) = 0 → w_X12_worth_184 K4 Q (a1) (a2) (a3) (a4) (a5) (a6) (s1) (h)) ∧ (¬ (a6) = 0 → w_X12_worth_175 K4 Q (a1) (a2) (a3) (a4) (a5) (a6) (s1) (h))
def w_X12_worth_166 (K4 : Int32 → Int32 → Int32 → Hp → Prop) (Q : Int32 → Hp → Prop) (a1 : Int32) (a2 : Int32) (a3 : Int32) (a4 : Int32) (a5 : Int32) (a6 : Int32) (s1 : Int32) (h : Hp) : Prop := w_X12_worth_185 K4 Q (a1) (a2) (a3) (a4) (a5) (a6) (s1) ((0 : Int32)) (h)
def w_X12_worth_162 (K4 : Int32 → Int32 → Int32 → Hp → Prop) (Q : Int32 → Hp → Prop) (a1 : Int32) (a2 : Int32) (a3 : Int32) (a4 : Int32) (a5 : Int32) (a6 : Int32) (s1 : Int32) (h : Hp) : Prop := w_X12_worth_185 K4 Q (a1) (a2) (a3) (a4) (a5) (a6) (s1) ((1 : Int32)) (h)
def w_X12_worth_155 (K4 : Int32 → Int32 → Int32 → Hp → Prop) (Q : Int32 → Hp → Prop) (a1 : Int32) (a2 : Int32) (a3 : Int32) (a4 : Int32) (a5 : Int32) (a6 : Int32) (s1 : Int32) (h : Hp) : Prop := (¬ (a6) = (a5) → w_X12_worth_166 K4 Q (a1) (a2) (a3) (a4) (a5) (a6) (s1) (h)) ∧ ((a6) = (a5) → w_X12_worth_162 K4 Q (a1) (a2) (a3) (a4) (a5) (a6) (s1) (h))
def w_X12_worth_148 (K4 : Int32 → Int32 → Int32 → Hp → Prop) (Q : Int32 → Hp → Prop) (a1 : Int32) (a2 : Int32) (a3 : Int32) (a4 : Int32) (a5 : Int32) (a6 : Int32) (s1 : Int32) (h : Hp) : Prop := (¬ (a4) = ((6 : Int32)) → w_X12_worth_170 K4 Q (a1) (a2) (a3) (a4) (a5) (a6) (s1) (h)) ∧ ((a4) = ((6 : Int32)) → w_X12_worth_155 K4 Q (a1) (a2) (a3) (a4) (a5) (a6) (s1) (h))
def w_X12_worth_144 (K4 : Int32 → Int32 → Int32 → Hp → Prop) (Q : Int32 → Hp → Prop) (a1 : Int32) (a2 : Int32) (a3 : Int32) (a4 : Int32) (a5 : Int32) (a6 : Int32) (s1 : Int32) (h : Hp) : Prop := w_X12_worth_185 K4 Q (a1) (a2) (a3) (a4) (a5) (a6) (s1) ((0 : Int32)) (h)
def w_X12_worth_140 (K4 : Int32 → Int32 → Int32 → Hp → Prop) (Q : Int32 → Hp → Prop) (a1 : Int32) (a2 : Int32) (a3 : Int32) (a4 : Int32) (a5 : Int32) (a6 : Int32) (s1 : Int32) (h : Hp) : Prop := w_X12_worth_185 K4 Q (a1) (a2) (a3) (a4) (a5) (a6) (s1) ((1 : Int32)) (h)
def w_X12_worth_133 (K4 : Int32 → Int32 → Int32 → Hp → Prop) (Q : Int32 → Hp → Prop) (a1 : Int32) (a2 : Int32) (a3 : Int32) (a4 : Int32) (a5 : Int32) (a6 : Int32) (s1 : Int32) (h : Hp) : Prop := ((a5) ≤ (a6) → w_X12_worth_144 K4 Q (a1) (a2) (a3) (a4) (a5) (a6) (s1) (h)) ∧ (¬ (a5) ≤ (a6) → w_X12_worth_140 K4 Q (a1) (a2) (a3) (a4) (a5) (a6) (s1) (h))
def w_X12_worth_127 (K4 : Int32 → Int32 → Int32 → Hp → Prop) (Q : Int32 → Hp → Prop) (a1 : Int32) (a2 : Int32) (a3 : Int32) (a4 : Int32) (a5 : Int32) (a6 : Int32) (s1 : Int32) (h : Hp) : Prop := (¬ (a4) = ((5 : Int32)) → w_X12_worth_148 K4 Q (a1) (a2) (a3) (a4) (a5) (a6) (s1) (h)) ∧ ((a4) = ((5 : Int32)) → w_X12_worth_133 K4 Q (a1) (a2) (a3) (a4) (a5) (a6) (s1) (h))
def w_X12_worth_119 (K4 : Int32 → Int32 → Int32 → Hp → Prop) (Q : Int32 → Hp → Prop) (a1 : Int32) (a2 : Int32) (a3 : Int32) (a4 : Int32) (a5 : Int32) (a6 : Int32) (s1 : Int32) (h : Hp) : Prop := w_X12_worth_185 K4 Q (a1) (a2) (a3) (a4) (a5) (a6) (s1) ((a6) - (a5)) (h)
def w_X12_worth_113 (K4 : Int32 → Int32 → Int32 → Hp → Prop) (Q : Int32 → Hp → Prop) (a1 : Int32) (a2 : Int32) (a3 : Int32) (a4 : Int32) (a5 : Int32) (a6 : Int32) (s1 : Int32) (h : Hp) : Prop := (¬ (a4) = ((4 : Int32)) → w_X12_worth_127 K4 Q (a1) (a2) (a3) (a4) (a5) (a6) (s1) (h)) ∧ ((a4) = ((4 : Int32)) → w_X12_worth_119 K4 Q (a1) (a2) (a3) (a4) (a5) (a6) (s1) (h))
def w_X12_worth_105 (K4 : Int32 → Int32 → Int32 → Hp → Prop) (Q : Int32 → Hp → Prop) (a1 : Int32) (a2 : Int32) (a3 : Int32) (a4 : Int32) (a5 : Int32) (a6 : Int32) (s1 : Int32) (h : Hp) : Prop := w_X12_worth_185 K4 Q (a1) (a2) (a3) (a4) (a5) (a6) (s1) ((a6) + (a5)) (h)
def w_X12_worth_71 (K4 : Int32 → Int32 → Int32 → Hp → Prop) (Q : Int32 → Hp → Prop) (a1 : Int32) (a2 : Int32) (a3 : Int32) (a4 : Int32) (h : Hp) : Prop := vp_in (a3 + (-1)) 660 ∧ (vp_in ((a3 + (-1)) - ((1 : Int32))) 660 ∧ ((¬ (a4) = ((3 : Int32)) → w_X12_worth_113 K4 Q (a1) (a2) (a3 + (-1)) (a4) (gI (h) 123 (0) (tN (a3 + (-1)))) (gI (h) 123 (0) (tN ((a3 + (-1)) - ((1 : Int32))))) ((a3 + (-1)) - ((1 : Int32))) (h)) ∧ ((a4) = ((3 : Int32)) → w_X12_worth_105 K4 Q (a1) (a2) (a3 + (-1)) (a4) (gI (h) 123 (0) (tN (a3 + (-1)))) (gI (h) 123 (0) (tN ((a3 + (-1)) - ((1 : Int32))))) ((a3 + (-1)) - ((1 : Int32))) (h))))
def w_X12_worth_27 (K4 : Int32 → Int32 → Int32 → Hp → Prop) (Q : Int32 → Hp → Prop) (a1 : Int32) (a2 : Int32) (a3 : Int32) (a4 : Int32) (h : Hp) : Prop := (¬ (a4) = ((2 : Int32)) → w_X12_worth_71 K4 Q (a1) (a2) (a3) (a4) (h)) ∧ ((a4) = ((2 : Int32)) → w_X12_worth_33 K4 Q (a1) (a2) (a3) (a4) (h))
def w_X12_worth_13 (K4 : Int32 → Int32 → Int32 → Hp → Prop) (Q : Int32 → Hp → Prop) (a1 : Int32) (a2 : Int32) (a3 : Int32) (h : Hp) : Prop := vp_in (a2) 1320 ∧ (((gI (h) 113 (0) (tN (a2))) = ((1 : Int32)) → w_X12_worth_33 K4 Q (a1) (a2) (a3) (gI (h) 113 (0) (tN (a2))) (h)) ∧ (¬ (gI (h) 113 (0) (tN (a2))) = ((1 : Int32)) → w_X12_worth_27 K4 Q (a1) (a2) (a3) (gI (h) 113 (0) (tN (a2))) (h)))
def w_X12_worth_4 (Q : Int32 → Hp → Prop) : Nat → Int32 → Int32 → Int32 → Hp → Prop
  | 0 => fun _ _ _ _ => False
  | N + 1 => fun a1 a2 a3 h => vp_in (a2) 1320 ∧ (((gI (h) 113 (0) (tN (a2))) = 0 → w_X12_worth_192  Q (a1) (a2) (a3) (h)) ∧ (¬ (gI (h) 113 (0) (tN (a2))) = 0 → w_X12_worth_13 (w_X12_worth_4  Q N) Q (a1) (a2) (a3) (h)))
def w_X12_worth_0 (Q : Int32 → Hp → Prop) (a1 : Int32) (h : Hp) : Prop := ∃ N, w_X12_worth_4  Q N (a1) (a1) ((0 : Int32)) (h)
theorem s_X12_worth_192 {E : EnvT} {d : Nat} (cx : CX E "ShoreDayModel" cX12_worth 7 (some .int) "worth" (d + 1) 0 0) (hY : eY E = lay1) {Q : Int32 → Hp → Prop} (eq : EQ E 0 0 (fun r h2 => ∃ x, r = [vI x] ∧ Q x h2)) {a1 : Int32} {a2 : Int32} {a3 : Int32} {x4 : Option AVal} {x5 : Option AVal} {x6 : Option AVal} {h : Hp} {c n : Nat} (hc : c + 0 ≤ 0) (hn : n + 0 ≤ 0) (w : w_X12_worth_192  Q a1 a2 a3 h) : SW E 192 ([some (vP (some (12, 0))), some (vI (a1)), some (vI (a2)), some (vI (a3)), x4, x5, x6], [], h, c, n) := by
  obtain ⟨G1, w⟩ := w
  exact k_X12_worth_192 cx hY G1 eq (by omega) (by omega) ⟨_, rfl, w⟩
theorem s_X12_worth_186 {E : EnvT} {d : Nat} (cx : CX E "ShoreDayModel" cX12_worth 7 (some .int) "worth" (d + 1) 0 0) (hY : eY E = lay1) {Q : Int32 → Hp → Prop} (eq : EQ E 0 0 (fun r h2 => ∃ x, r = [vI x] ∧ Q x h2)) {K4 : Int32 → Int32 → Int32 → Hp → Prop} (hK4 : ∀ (a1 : Int32) (a2 : Int32) (a3 : Int32) (x4 : Option AVal) (x5 : Option AVal) (x6 : Option AVal) (h : Hp) (c n : Nat), c + 0 ≤ 0 → n + 0 ≤ 0 → K4 a1 a2 a3 h → SW E 4 ([some (vP (some (12, 0))), some (vI (a1)), some (vI (a2)), some (vI (a3)), x4, x5, x6], [], h, c, n)) {a1 : Int32} {a2 : Int32} {a3 : Int32} {a4 : Int32} {x5 : Option AVal} {x6 : Option AVal} {h : Hp} {c n : Nat} (hc : c + 0 ≤ 0) (hn : n + 0 ≤ 0) (w : w_X12_worth_186 K4 Q a1 a2 a3 a4 h) : SW E 186 ([some (vP (some (12, 0))), some (vI (a1)), some (vI (a2)), some (vI (a3)), some (vI (a4)), x5, x6], [], h, c, n) := by
  refine k_X12_worth_186 cx hY ?_
  exact hK4 _ _ _ _ _ _ _ _ _ (by omega) (by omega) w
theorem s_X12_worth_64 {E : EnvT} {d : Nat} (cx : CX E "ShoreDayModel" cX12_worth 7 (some .int) "worth" (d + 1) 0 0) (hY : eY E = lay1) {Q : Int32 → Hp → Prop} (eq : EQ E 0 0 (fun r h2 => ∃ x, r = [vI x] ∧ Q x h2)) {K4 : Int32 → Int32 → Int32 → Hp → Prop} (hK4 : ∀ (a1 : Int32) (a2 : Int32) (a3 : Int32) (x4 : Option AVal) (x5 : Option AVal) (x6 : Option AVal) (h : Hp) (c n : Nat), c + 0 ≤ 0 → n + 0 ≤ 0 → K4 a1 a2 a3 h → SW E 4 ([some (vP (some (12, 0))), some (vI (a1)), some (vI (a2)), some (vI (a3)), x4, x5, x6], [], h, c, n)) {a1 : Int32} {a2 : Int32} {a3 : Int32} {a4 : Int32} {x5 : Option AVal} {x6 : Option AVal} {s1 : Int32} {s2 : Int32} {h : Hp} {c n : Nat} (hc : c + 0 ≤ 0) (hn : n + 0 ≤ 0) (w : w_X12_worth_64 K4 Q a1 a2 a3 a4 s1 s2 h) : SW E 64 ([some (vP (some (12, 0))), some (vI (a1)), some (vI (a2)), some (vI (a3)), some (vI (a4)), x5, x6], [vI (s2), vI (s1), vP (some (123, 0))], h, c, n) := by
  obtain ⟨G1, w⟩ := w
  refine k_X12_worth_64 cx hY G1 ?_
  exact s_X12_worth_186 cx hY eq hK4 (by omega) (by omega) w
theorem s_X12_worth_53 {E : EnvT} {d : Nat} (cx : CX E "ShoreDayModel" cX12_worth 7 (some .int) "worth" (d + 1) 0 0) (hY : eY E = lay1) {Q : Int32 → Hp → Prop} (eq : EQ E 0 0 (fun r h2 => ∃ x, r = [vI x] ∧ Q x h2)) {K4 : Int32 → Int32 → Int32 → Hp → Prop} (hK4 : ∀ (a1 : Int32) (a2 : Int32) (a3 : Int32) (x4 : Option AVal) (x5 : Option AVal) (x6 : Option AVal) (h : Hp) (c n : Nat), c + 0 ≤ 0 → n + 0 ≤ 0 → K4 a1 a2 a3 h → SW E 4 ([some (vP (some (12, 0))), some (vI (a1)), some (vI (a2)), some (vI (a3)), x4, x5, x6], [], h, c, n)) {a1 : Int32} {a2 : Int32} {a3 : Int32} {a4 : Int32} {x5 : Option AVal} {x6 : Option AVal} {s1 : Int32} {h : Hp} {c n : Nat} (hc : c + 0 ≤ 0) (hn : n + 0 ≤ 0) (w : w_X12_worth_53 K4 Q a1 a2 a3 a4 s1 h) : SW E 53 ([some (vP (some (12, 0))), some (vI (a1)), some (vI (a2)), some (vI (a3)), some (vI (a4)), x5, x6], [vI (s1), vP (some (123, 0))], h, c, n) := by
  obtain ⟨G1, G2, w⟩ := w
  refine k_X12_worth_53 cx hY G1 G2 ?_
  exact s_X12_worth_64 cx hY eq hK4 (by omega) (by omega) w
theorem s_X12_worth_44 {E : EnvT} {d : Nat} (cx : CX E "ShoreDayModel" cX12_worth 7 (some .int) "worth" (d + 1) 0 0) (hY : eY E = lay1) {Q : Int32 → Hp → Prop} (eq : EQ E 0 0 (fun r h2 => ∃ x, r = [vI x] ∧ Q x h2)) {K4 : Int32 → Int32 → Int32 → Hp → Prop} (hK4 : ∀ (a1 : Int32) (a2 : Int32) (a3 : Int32) (x4 : Option AVal) (x5 : Option AVal) (x6 : Option AVal) (h : Hp) (c n : Nat), c + 0 ≤ 0 → n + 0 ≤ 0 → K4 a1 a2 a3 h → SW E 4 ([some (vP (some (12, 0))), some (vI (a1)), some (vI (a2)), some (vI (a3)), x4, x5, x6], [], h, c, n)) {a1 : Int32} {a2 : Int32} {a3 : Int32} {a4 : Int32} {x5 : Option AVal} {x6 : Option AVal} {s1 : Int32} {h : Hp} {c n : Nat} (hc : c + 0 ≤ 0) (hn : n + 0 ≤ 0) (w : w_X12_worth_44 K4 Q a1 a2 a3 a4 s1 h) : SW E 44 ([some (vP (some (12, 0))), some (vI (a1)), some (vI (a2)), some (vI (a3)), some (vI (a4)), x5, x6], [vI (s1), vP (some (123, 0))], h, c, n) := by
  obtain ⟨G1, w⟩ := w
  refine k_X12_worth_44 cx hY G1 ?_
  exact s_X12_worth_64 cx hY eq hK4 (by omega) (by omega) w
theorem s_X12_worth_33 {E : EnvT} {d : Nat} (cx : CX E "ShoreDayModel" cX12_worth 7 (some .int) "worth" (d + 1) 0 0) (hY : eY E = lay1) {Q : Int32 → Hp → Prop} (eq : EQ E 0 0 (fun r h2 => ∃ x, r = [vI x] ∧ Q x h2)) {K4 : Int32 → Int32 → Int32 → Hp → Prop} (hK4 : ∀ (a1 : Int32) (a2 : Int32) (a3 : Int32) (x4 : Option AVal) (x5 : Option AVal) (x6 : Option AVal) (h : Hp) (c n : Nat), c + 0 ≤ 0 → n + 0 ≤ 0 → K4 a1 a2 a3 h → SW E 4 ([some (vP (some (12, 0))), some (vI (a1)), some (vI (a2)), some (vI (a3)), x4, x5, x6], [], h, c, n)) {a1 : Int32} {a2 : Int32} {a3 : Int32} {a4 : Int32} {x5 : Option AVal} {x6 : Option AVal} {h : Hp} {c n : Nat} (hc : c + 0 ≤ 0) (hn : n + 0 ≤ 0) (w : w_X12_worth_33 K4 Q a1 a2 a3 a4 h) : SW E 33 ([some (vP (some (12, 0))), some (vI (a1)), some (vI (a2)), some (vI (a3)), some (vI (a4)), x5, x6], [], h, c, n) := by
  refine k_X12_worth_33 cx hY (fun q => ?_) (fun q => ?_)
  · have w := w.1 q
    exact s_X12_worth_53 cx hY eq hK4 (by omega) (by omega) w
  · have w := w.2 q
    exact s_X12_worth_44 cx hY eq hK4 (by omega) (by omega) w
theorem s_X12_worth_185 {E : EnvT} {d : Nat} (cx : CX E "ShoreDayModel" cX12_worth 7 (some .int) "worth" (d + 1) 0 0) (hY : eY E = lay1) {Q : Int32 → Hp → Prop} (eq : EQ E 0 0 (fun r h2 => ∃ x, r = [vI x] ∧ Q x h2)) {K4 : Int32 → Int32 → Int32 → Hp → Prop} (hK4 : ∀ (a1 : Int32) (a2 : Int32) (a3 : Int32) (x4 : Option AVal) (x5 : Option AVal) (x6 : Option AVal) (h : Hp) (c n : Nat), c + 0 ≤ 0 → n + 0 ≤ 0 → K4 a1 a2 a3 h → SW E 4 ([some (vP (some (12, 0))), some (vI (a1)), some (vI (a2)), some (vI (a3)), x4, x5, x6], [], h, c, n)) {a1 : Int32} {a2 : Int32} {a3 : Int32} {a4 : Int32} {a5 : Int32} {a6 : Int32} {s1 : Int32} {s2 : Int32} {h : Hp} {c n : Nat} (hc : c + 0 ≤ 0) (hn : n + 0 ≤ 0) (w : w_X12_worth_185 K4 Q a1 a2 a3 a4 a5 a6 s1 s2 h) : SW E 185 ([some (vP (some (12, 0))), some (vI (a1)), some (vI (a2)), some (vI (a3)), some (vI (a4)), some (vI (a5)), some (vI (a6))], [vI (s2), vI (s1), vP (some (123, 0))], h, c, n) := by
  obtain ⟨G1, w⟩ := w
  refine k_X12_worth_185 cx hY G1 ?_
  exact s_X12_worth_186 cx hY eq hK4 (by omega) (by omega) w
theorem s_X12_worth_184 {E : EnvT} {d : Nat} (cx : CX E "ShoreDayModel" cX12_worth 7 (some .int) "worth" (d + 1) 0 0) (hY : eY E = lay1) {Q : Int32 → Hp → Prop} (eq : EQ E 0 0 (fun r h2 => ∃ x, r = [vI x] ∧ Q x h2)) {K4 : Int32 → Int32 → Int32 → Hp → Prop} (hK4 : ∀ (a1 : Int32) (a2 : Int32) (a3 : Int32) (x4 : Option AVal) (x5 : Option AVal) (x6 : Option AVal) (h : Hp) (c n : Nat), c + 0 ≤ 0 → n + 0 ≤ 0 → K4 a1 a2 a3 h → SW E 4 ([some (vP (some (12, 0))), some (vI (a1)), some (vI (a2)), some (vI (a3)), x4, x5, x6], [], h, c, n)) {a1 : Int32} {a2 : Int32} {a3 : Int32} {a4 : Int32} {a5 : Int32} {a6 : Int32} {s1 : Int32} {h : Hp} {c n : Nat} (hc : c + 0 ≤ 0) (hn : n + 0 ≤ 0) (w : w_X12_worth_184 K4 Q a1 a2 a3 a4 a5 a6 s1 h) : SW E 184 ([some (vP (some (12, 0))), some (vI (a1)), some (vI (a2)), some (vI (a3)), some (vI (a4)), some (vI (a5)), some (vI (a6))], [vI (s1), vP (some (123, 0))], h, c, n) := by
  refine k_X12_worth_184 cx hY ?_
  exact s_X12_worth_185 cx hY eq hK4 (by omega) (by omega) w
theorem s_X12_worth_180 {E : EnvT} {d : Nat} (cx : CX E "ShoreDayModel" cX12_worth 7 (some .int) "worth" (d + 1) 0 0) (hY : eY E = lay1) {Q : Int32 → Hp → Prop} (eq : EQ E 0 0 (fun r h2 => ∃ x, r = [vI x] ∧ Q x h2)) {K4 : Int32 → Int32 → Int32 → Hp → Prop} (hK4 : ∀ (a1 : Int32) (a2 : Int32) (a3 : Int32) (x4 : Option AVal) (x5 : Option AVal) (x6 : Option AVal) (h : Hp) (c n : Nat), c + 0 ≤ 0 → n + 0 ≤ 0 → K4 a1 a2 a3 h → SW E 4 ([some (vP (some (12, 0))), some (vI (a1)), some (vI (a2)), some (vI (a3)), x4, x5, x6], [], h, c, n)) {a1 : Int32} {a2 : Int32} {a3 : Int32} {a4 : Int32} {a5 : Int32} {a6 : Int32} {s1 : Int32} {h : Hp} {c n : Nat} (hc : c + 0 ≤ 0) (hn : n + 0 ≤ 0) (w : w_X12_worth_180 K4 Q a1 a2 a3 a4 a5 a6 s1 h) : SW E 180 ([some (vP (some (12, 0))), some (vI (a1)), some (vI (a2)), some (vI (a3)), some (vI (a4)), some (vI (a5)), some (vI (a6))], [vI (s1), vP (some (123, 0))], h, c, n) := by
  refine k_X12_worth_180 cx hY ?_
  exact s_X12_worth_185 cx hY eq hK4 (by omega) (by omega) w
theorem s_X12_worth_175 {E : EnvT} {d : Nat} (cx : CX E "ShoreDayModel" cX12_worth 7 (some .int) "worth" (d + 1) 0 0) (hY : eY E = lay1) {Q : Int32 → Hp → Prop} (eq : EQ E 0 0 (fun r h2 => ∃ x, r = [vI x] ∧ Q x h2)) {K4 : Int32 → Int32 → Int32 → Hp → Prop} (hK4 : ∀ (a1 : Int32) (a2 : Int32) (a3 : Int32) (x4 : Option AVal) (x5 : Option AVal) (x6 : Option AVal) (h : Hp) (c n : Nat), c + 0 ≤ 0 → n + 0 ≤ 0 → K4 a1 a2 a3 h → SW E 4 ([some (vP (some (12, 0))), some (vI (a1)), some (vI (a2)), some (vI (a3)), x4, x5, x6], [], h, c, n)) {a1 : Int32} {a2 : Int32} {a3 : Int32} {a4 : Int32} {a5 : Int32} {a6 : Int32} {s1 : Int32} {h : Hp} {c n : Nat} (hc : c + 0 ≤ 0) (hn : n + 0 ≤ 0) (w : w_X12_worth_175 K4 Q a1 a2 a3 a4 a5 a6 s1 h) : SW E 175 ([some (vP (some (12, 0))), some (vI (a1)), some (vI (a2)), some (vI (a3)), some (vI (a4)), some (vI (a5)), some (vI (a6))], [vI (s1), vP (some (123, 0))], h, c, n) := by
  refine k_X12_worth_175 cx hY (fun q => ?_) (fun q => ?_)
  · have w := w.1 q
    exact s_X12_worth_184 cx hY eq hK4 (by omega) (by omega) w
  · have w := w.2 q
    exact s_X12_worth_180 cx hY eq hK4 (by omega) (by omega) w
theorem s_X12_worth_170 {E : EnvT} {d : Nat} (cx : CX E "ShoreDayModel" cX12_worth 7 (some .int) "worth" (d + 1) 0 0) (hY : eY E = lay1) {Q : Int32 → Hp → Prop} (eq : EQ E 0 0 (fun r h2 => ∃ x, r = [vI x] ∧ Q x h2)) {K4 : Int32 → Int32 → Int32 → Hp → Prop} (hK4 : ∀ (a1 : Int32) (a2 : Int32) (a3 : Int32) (x4 : Option AVal) (x5 : Option AVal) (x6 : Option AVal) (h : Hp) (c n : Nat), c + 0 ≤ 0 → n + 0 ≤ 0 → K4 a1 a2 a3 h → SW E 4 ([some (vP (some (12, 0))), some (vI (a1)), some (vI (a2)), some (vI (a3)), x4, x5, x6], [], h, c, n)) {a1 : Int32} {a2 : Int32} {a3 : Int32} {a4 : Int32} {a5 : Int32} {a6 : Int32} {s1 : Int32} {h : Hp} {c n : Nat} (hc : c + 0 ≤ 0) (hn : n + 0 ≤ 0) (w : w_X12_worth_170 K4 Q a1 a2 a3 a4 a5 a6 s1 h) : SW E 170 ([some (vP (some (12, 0))), some (vI (a1)), some (vI (a2)), some (vI (a3)), some (vI (a4)), some (vI (a5)), some (vI (a6))], [vI (s1), vP (some (123, 0))], h, c, n) := by
  refine k_X12_worth_170 cx hY (fun q => ?_) (fun q => ?_)
  · have w := w.1 q
    exact s_X12_worth_184 cx hY eq hK4 (by omega) (by omega) w
  · have w := w.2 q
    exact s_X12_worth_175 cx hY eq hK4 (by omega) (by omega) w
theorem s_X12_worth_166 {E : EnvT} {d : Nat} (cx : CX E "ShoreDayModel" cX12_worth 7 (some .int) "worth" (d + 1) 0 0) (hY : eY E = lay1) {Q : Int32 → Hp → Prop} (eq : EQ E 0 0 (fun r h2 => ∃ x, r = [vI x] ∧ Q x h2)) {K4 : Int32 → Int32 → Int32 → Hp → Prop} (hK4 : ∀ (a1 : Int32) (a2 : Int32) (a3 : Int32) (x4 : Option AVal) (x5 : Option AVal) (x6 : Option AVal) (h : Hp) (c n : Nat), c + 0 ≤ 0 → n + 0 ≤ 0 → K4 a1 a2 a3 h → SW E 4 ([some (vP (some (12, 0))), some (vI (a1)), some (vI (a2)), some (vI (a3)), x4, x5, x6], [], h, c, n)) {a1 : Int32} {a2 : Int32} {a3 : Int32} {a4 : Int32} {a5 : Int32} {a6 : Int32} {s1 : Int32} {h : Hp} {c n : Nat} (hc : c + 0 ≤ 0) (hn : n + 0 ≤ 0) (w : w_X12_worth_166 K4 Q a1 a2 a3 a4 a5 a6 s1 h) : SW E 166 ([some (vP (some (12, 0))), some (vI (a1)), some (vI (a2)), some (vI (a3)), some (vI (a4)), some (vI (a5)), some (vI (a6))], [vI (s1), vP (some (123, 0))], h, c, n) := by
  refine k_X12_worth_166 cx hY ?_
  exact s_X12_worth_185 cx hY eq hK4 (by omega) (by omega) w
theorem s_X12_worth_162 {E : EnvT} {d : Nat} (cx : CX E "ShoreDayModel" cX12_worth 7 (some .int) "worth" (d + 1) 0 0) (hY : eY E = lay1) {Q : Int32 → Hp → Prop} (eq : EQ E 0 0 (fun r h2 => ∃ x, r = [vI x] ∧ Q x h2)) {K4 : Int32 → Int32 → Int32 → Hp → Prop} (hK4 : ∀ (a1 : Int32) (a2 : Int32) (a3 : Int32) (x4 : Option AVal) (x5 : Option AVal) (x6 : Option AVal) (h : Hp) (c n : Nat), c + 0 ≤ 0 → n + 0 ≤ 0 → K4 a1 a2 a3 h → SW E 4 ([some (vP (some (12, 0))), some (vI (a1)), some (vI (a2)), some (vI (a3)), x4, x5, x6], [], h, c, n)) {a1 : Int32} {a2 : Int32} {a3 : Int32} {a4 : Int32} {a5 : Int32} {a6 : Int32} {s1 : Int32} {h : Hp} {c n : Nat} (hc : c + 0 ≤ 0) (hn : n + 0 ≤ 0) (w : w_X12_worth_162 K4 Q a1 a2 a3 a4 a5 a6 s1 h) : SW E 162 ([some (vP (some (12, 0))), some (vI (a1)), some (vI (a2)), some (vI (a3)), some (vI (a4)), some (vI (a5)), some (vI (a6))], [vI (s1), vP (some (123, 0))], h, c, n) := by
  refine k_X12_worth_162 cx hY ?_
  exact s_X12_worth_185 cx hY eq hK4 (by omega) (by omega) w
theorem s_X12_worth_155 {E : EnvT} {d : Nat} (cx : CX E "ShoreDayModel" cX12_worth 7 (some .int) "worth" (d + 1) 0 0) (hY : eY E = lay1) {Q : Int32 → Hp → Prop} (eq : EQ E 0 0 (fun r h2 => ∃ x, r = [vI x] ∧ Q x h2)) {K4 : Int32 → Int32 → Int32 → Hp → Prop} (hK4 : ∀ (a1 : Int32) (a2 : Int32) (a3 : Int32) (x4 : Option AVal) (x5 : Option AVal) (x6 : Option AVal) (h : Hp) (c n : Nat), c + 0 ≤ 0 → n + 0 ≤ 0 → K4 a1 a2 a3 h → SW E 4 ([some (vP (some (12, 0))), some (vI (a1)), some (vI (a2)), some (vI (a3)), x4, x5, x6], [], h, c, n)) {a1 : Int32} {a2 : Int32} {a3 : Int32} {a4 : Int32} {a5 : Int32} {a6 : Int32} {s1 : Int32} {h : Hp} {c n : Nat} (hc : c + 0 ≤ 0) (hn : n + 0 ≤ 0) (w : w_X12_worth_155 K4 Q a1 a2 a3 a4 a5 a6 s1 h) : SW E 155 ([some (vP (some (12, 0))), some (vI (a1)), some (vI (a2)), some (vI (a3)), some (vI (a4)), some (vI (a5)), some (vI (a6))], [vI (s1), vP (some (123, 0))], h, c, n) := by
  refine k_X12_worth_155 cx hY (fun q => ?_) (fun q => ?_)
  · have w := w.1 q
    exact s_X12_worth_166 cx hY eq hK4 (by omega) (by omega) w
  · have w := w.2 q
    exact s_X12_worth_162 cx hY eq hK4 (by omega) (by omega) w
theorem s_X12_worth_148 {E : EnvT} {d : Nat} (cx : CX E "ShoreDayModel" cX12_worth 7 (some .int) "worth" (d + 1) 0 0) (hY : eY E = lay1) {Q : Int32 → Hp → Prop} (eq : EQ E 0 0 (fun r h2 => ∃ x, r = [vI x] ∧ Q x h2)) {K4 : Int32 → Int32 → Int32 → Hp → Prop} (hK4 : ∀ (a1 : Int32) (a2 : Int32) (a3 : Int32) (x4 : Option AVal) (x5 : Option AVal) (x6 : Option AVal) (h : Hp) (c n : Nat), c + 0 ≤ 0 → n + 0 ≤ 0 → K4 a1 a2 a3 h → SW E 4 ([some (vP (some (12, 0))), some (vI (a1)), some (vI (a2)), some (vI (a3)), x4, x5, x6], [], h, c, n)) {a1 : Int32} {a2 : Int32} {a3 : Int32} {a4 : Int32} {a5 : Int32} {a6 : Int32} {s1 : Int32} {h : Hp} {c n : Nat} (hc : c + 0 ≤ 0) (hn : n + 0 ≤ 0) (w : w_X12_worth_148 K4 Q a1 a2 a3 a4 a5 a6 s1 h) : SW E 148 ([some (vP (some (12, 0))), some (vI (a1)), some (vI (a2)), some (vI (a3)), some (vI (a4)), some (vI (a5)), some (vI (a6))], [vI (s1), vP (some (123, 0))], h, c, n) := by
  refine k_X12_worth_148 cx hY (fun q => ?_) (fun q => ?_)
  · have w := w.1 q
    exact s_X12_worth_170 cx hY eq hK4 (by omega) (by omega) w
  · have w := w.2 q
    exact s_X12_worth_155 cx hY eq hK4 (by omega) (by omega) w
theorem s_X12_worth_144 {E : EnvT} {d : Nat} (cx : CX E "ShoreDayModel" cX12_worth 7 (some .int) "worth" (d + 1) 0 0) (hY : eY E = lay1) {Q : Int32 → Hp → Prop} (eq : EQ E 0 0 (fun r h2 => ∃ x, r = [vI x] ∧ Q x h2)) {K4 : Int32 → Int32 → Int32 → Hp → Prop} (hK4 : ∀ (a1 : Int32) (a2 : Int32) (a3 : Int32) (x4 : Option AVal) (x5 : Option AVal) (x6 : Option AVal) (h : Hp) (c n : Nat), c + 0 ≤ 0 → n + 0 ≤ 0 → K4 a1 a2 a3 h → SW E 4 ([some (vP (some (12, 0))), some (vI (a1)), some (vI (a2)), some (vI (a3)), x4, x5, x6], [], h, c, n)) {a1 : Int32} {a2 : Int32} {a3 : Int32} {a4 : Int32} {a5 : Int32} {a6 : Int32} {s1 : Int32} {h : Hp} {c n : Nat} (hc : c + 0 ≤ 0) (hn : n + 0 ≤ 0) (w : w_X12_worth_144 K4 Q a1 a2 a3 a4 a5 a6 s1 h) : SW E 144 ([some (vP (some (12, 0))), some (vI (a1)), some (vI (a2)), some (vI (a3)), some (vI (a4)), some (vI (a5)), some (vI (a6))], [vI (s1), vP (some (123, 0))], h, c, n) := by
  refine k_X12_worth_144 cx hY ?_
  exact s_X12_worth_185 cx hY eq hK4 (by omega) (by omega) w
theorem s_X12_worth_140 {E : EnvT} {d : Nat} (cx : CX E "ShoreDayModel" cX12_worth 7 (some .int) "worth" (d + 1) 0 0) (hY : eY E = lay1) {Q : Int32 → Hp → Prop} (eq : EQ E 0 0 (fun r h2 => ∃ x, r = [vI x] ∧ Q x h2)) {K4 : Int32 → Int32 → Int32 → Hp → Prop} (hK4 : ∀ (a1 : Int32) (a2 : Int32) (a3 : Int32) (x4 : Option AVal) (x5 : Option AVal) (x6 : Option AVal) (h : Hp) (c n : Nat), c + 0 ≤ 0 → n + 0 ≤ 0 → K4 a1 a2 a3 h → SW E 4 ([some (vP (some (12, 0))), some (vI (a1)), some (vI (a2)), some (vI (a3)), x4, x5, x6], [], h, c, n)) {a1 : Int32} {a2 : Int32} {a3 : Int32} {a4 : Int32} {a5 : Int32} {a6 : Int32} {s1 : Int32} {h : Hp} {c n : Nat} (hc : c + 0 ≤ 0) (hn : n + 0 ≤ 0) (w : w_X12_worth_140 K4 Q a1 a2 a3 a4 a5 a6 s1 h) : SW E 140 ([some (vP (some (12, 0))), some (vI (a1)), some (vI (a2)), some (vI (a3)), some (vI (a4)), some (vI (a5)), some (vI (a6))], [vI (s1), vP (some (123, 0))], h, c, n) := by
  refine k_X12_worth_140 cx hY ?_
  exact s_X12_worth_185 cx hY eq hK4 (by omega) (by omega) w
theorem s_X12_worth_133 {E : EnvT} {d : Nat} (cx : CX E "ShoreDayModel" cX12_worth 7 (some .int) "worth" (d + 1) 0 0) (hY : eY E = lay1) {Q : Int32 → Hp → Prop} (eq : EQ E 0 0 (fun r h2 => ∃ x, r = [vI x] ∧ Q x h2)) {K4 : Int32 → Int32 → Int32 → Hp → Prop} (hK4 : ∀ (a1 : Int32) (a2 : Int32) (a3 : Int32) (x4 : Option AVal) (x5 : Option AVal) (x6 : Option AVal) (h : Hp) (c n : Nat), c + 0 ≤ 0 → n + 0 ≤ 0 → K4 a1 a2 a3 h → SW E 4 ([some (vP (some (12, 0))), some (vI (a1)), some (vI (a2)), some (vI (a3)), x4, x5, x6], [], h, c, n)) {a1 : Int32} {a2 : Int32} {a3 : Int32} {a4 : Int32} {a5 : Int32} {a6 : Int32} {s1 : Int32} {h : Hp} {c n : Nat} (hc : c + 0 ≤ 0) (hn : n + 0 ≤ 0) (w : w_X12_worth_133 K4 Q a1 a2 a3 a4 a5 a6 s1 h) : SW E 133 ([some (vP (some (12, 0))), some (vI (a1)), some (vI (a2)), some (vI (a3)), some (vI (a4)), some (vI (a5)), some (vI (a6))], [vI (s1), vP (some (123, 0))], h, c, n) := by
  refine k_X12_worth_133 cx hY (fun q => ?_) (fun q => ?_)
  · have w := w.1 q
    exact s_X12_worth_144 cx hY eq hK4 (by omega) (by omega) w
  · have w := w.2 q
    exact s_X12_worth_140 cx hY eq hK4 (by omega) (by omega) w
theorem s_X12_worth_127 {E : EnvT} {d : Nat} (cx : CX E "ShoreDayModel" cX12_worth 7 (some .int) "worth" (d + 1) 0 0) (hY : eY E = lay1) {Q : Int32 → Hp → Prop} (eq : EQ E 0 0 (fun r h2 => ∃ x, r = [vI x] ∧ Q x h2)) {K4 : Int32 → Int32 → Int32 → Hp → Prop} (hK4 : ∀ (a1 : Int32) (a2 : Int32) (a3 : Int32) (x4 : Option AVal) (x5 : Option AVal) (x6 : Option AVal) (h : Hp) (c n : Nat), c + 0 ≤ 0 → n + 0 ≤ 0 → K4 a1 a2 a3 h → SW E 4 ([some (vP (some (12, 0))), some (vI (a1)), some (vI (a2)), some (vI (a3)), x4, x5, x6], [], h, c, n)) {a1 : Int32} {a2 : Int32} {a3 : Int32} {a4 : Int32} {a5 : Int32} {a6 : Int32} {s1 : Int32} {h : Hp} {c n : Nat} (hc : c + 0 ≤ 0) (hn : n + 0 ≤ 0) (w : w_X12_worth_127 K4 Q a1 a2 a3 a4 a5 a6 s1 h) : SW E 127 ([some (vP (some (12, 0))), some (vI (a1)), some (vI (a2)), some (vI (a3)), some (vI (a4)), some (vI (a5)), some (vI (a6))], [vI (s1), vP (some (123, 0))], h, c, n) := by
  refine k_X12_worth_127 cx hY (fun q => ?_) (fun q => ?_)
  · have w := w.1 q
    exact s_X12_worth_148 cx hY eq hK4 (by omega) (by omega) w
  · have w := w.2 q
    exact s_X12_worth_133 cx hY eq hK4 (by omega) (by omega) w
theorem s_X12_worth_119 {E : EnvT} {d : Nat} (cx : CX E "ShoreDayModel" cX12_worth 7 (some .int) "worth" (d + 1) 0 0) (hY : eY E = lay1) {Q : Int32 → Hp → Prop} (eq : EQ E 0 0 (fun r h2 => ∃ x, r = [vI x] ∧ Q x h2)) {K4 : Int32 → Int32 → Int32 → Hp → Prop} (hK4 : ∀ (a1 : Int32) (a2 : Int32) (a3 : Int32) (x4 : Option AVal) (x5 : Option AVal) (x6 : Option AVal) (h : Hp) (c n : Nat), c + 0 ≤ 0 → n + 0 ≤ 0 → K4 a1 a2 a3 h → SW E 4 ([some (vP (some (12, 0))), some (vI (a1)), some (vI (a2)), some (vI (a3)), x4, x5, x6], [], h, c, n)) {a1 : Int32} {a2 : Int32} {a3 : Int32} {a4 : Int32} {a5 : Int32} {a6 : Int32} {s1 : Int32} {h : Hp} {c n : Nat} (hc : c + 0 ≤ 0) (hn : n + 0 ≤ 0) (w : w_X12_worth_119 K4 Q a1 a2 a3 a4 a5 a6 s1 h) : SW E 119 ([some (vP (some (12, 0))), some (vI (a1)), some (vI (a2)), some (vI (a3)), some (vI (a4)), some (vI (a5)), some (vI (a6))], [vI (s1), vP (some (123, 0))], h, c, n) := by
  refine k_X12_worth_119 cx hY ?_
  exact s_X12_worth_185 cx hY eq hK4 (by omega) (by omega) w
theorem s_X12_worth_113 {E : EnvT} {d : Nat} (cx : CX E "ShoreDayModel" cX12_worth 7 (some .int) "worth" (d + 1) 0 0) (hY : eY E = lay1) {Q : Int32 → Hp → Prop} (eq : EQ E 0 0 (fun r h2 => ∃ x, r = [vI x] ∧ Q x h2)) {K4 : Int32 → Int32 → Int32 → Hp → Prop} (hK4 : ∀ (a1 : Int32) (a2 : Int32) (a3 : Int32) (x4 : Option AVal) (x5 : Option AVal) (x6 : Option AVal) (h : Hp) (c n : Nat), c + 0 ≤ 0 → n + 0 ≤ 0 → K4 a1 a2 a3 h → SW E 4 ([some (vP (some (12, 0))), some (vI (a1)), some (vI (a2)), some (vI (a3)), x4, x5, x6], [], h, c, n)) {a1 : Int32} {a2 : Int32} {a3 : Int32} {a4 : Int32} {a5 : Int32} {a6 : Int32} {s1 : Int32} {h : Hp} {c n : Nat} (hc : c + 0 ≤ 0) (hn : n + 0 ≤ 0) (w : w_X12_worth_113 K4 Q a1 a2 a3 a4 a5 a6 s1 h) : SW E 113 ([some (vP (some (12, 0))), some (vI (a1)), some (vI (a2)), some (vI (a3)), some (vI (a4)), some (vI (a5)), some (vI (a6))], [vI (s1), vP (some (123, 0))], h, c, n) := by
  refine k_X12_worth_113 cx hY (fun q => ?_) (fun q => ?_)
  · have w := w.1 q
    exact s_X12_worth_127 cx hY eq hK4 (by omega) (by omega) w
  · have w := w.2 q
    exact s_X12_worth_119 cx hY eq hK4 (by omega) (by omega) w
theorem s_X12_worth_105 {E : EnvT} {d : Nat} (cx : CX E "ShoreDayModel" cX12_worth 7 (some .int) "worth" (d + 1) 0 0) (hY : eY E = lay1) {Q : Int32 → Hp → Prop} (eq : EQ E 0 0 (fun r h2 => ∃ x, r = [vI x] ∧ Q x h2)) {K4 : Int32 → Int32 → Int32 → Hp → Prop} (hK4 : ∀ (a1 : Int32) (a2 : Int32) (a3 : Int32) (x4 : Option AVal) (x5 : Option AVal) (x6 : Option AVal) (h : Hp) (c n : Nat), c + 0 ≤ 0 → n + 0 ≤ 0 → K4 a1 a2 a3 h → SW E 4 ([some (vP (some (12, 0))), some (vI (a1)), some (vI (a2)), some (vI (a3)), x4, x5, x6], [], h, c, n)) {a1 : Int32} {a2 : Int32} {a3 : Int32} {a4 : Int32} {a5 : Int32} {a6 : Int32} {s1 : Int32} {h : Hp} {c n : Nat} (hc : c + 0 ≤ 0) (hn : n + 0 ≤ 0) (w : w_X12_worth_105 K4 Q a1 a2 a3 a4 a5 a6 s1 h) : SW E 105 ([some (vP (some (12, 0))), some (vI (a1)), some (vI (a2)), some (vI (a3)), some (vI (a4)), some (vI (a5)), some (vI (a6))], [vI (s1), vP (some (123, 0))], h, c, n) := by
  refine k_X12_worth_105 cx hY ?_
  exact s_X12_worth_185 cx hY eq hK4 (by omega) (by omega) w
theorem s_X12_worth_71 {E : EnvT} {d : Nat} (cx : CX E "ShoreDayModel" cX12_worth 7 (some .int) "worth" (d + 1) 0 0) (hY : eY E = lay1) {Q : Int32 → Hp → Prop} (eq : EQ E 0 0 (fun r h2 => ∃ x, r = [vI x] ∧ Q x h2)) {K4 : Int32 → Int32 → Int32 → Hp → Prop} (hK4 : ∀ (a1 : Int32) (a2 : Int32) (a3 : Int32) (x4 : Option AVal) (x5 : Option AVal) (x6 : Option AVal) (h : Hp) (c n : Nat), c + 0 ≤ 0 → n + 0 ≤ 0 → K4 a1 a2 a3 h → SW E 4 ([some (vP (some (12, 0))), some (vI (a1)), some (vI (a2)), some (vI (a3)), x4, x5, x6], [], h, c, n)) {a1 : Int32} {a2 : Int32} {a3 : Int32} {a4 : Int32} {x5 : Option AVal} {x6 : Option AVal} {h : Hp} {c n : Nat} (hc : c + 0 ≤ 0) (hn : n + 0 ≤ 0) (w : w_X12_worth_71 K4 Q a1 a2 a3 a4 h) : SW E 71 ([some (vP (some (12, 0))), some (vI (a1)), some (vI (a2)), some (vI (a3)), some (vI (a4)), x5, x6], [], h, c, n) := by
  obtain ⟨G1, G2, w⟩ := w
  refine k_X12_worth_71 cx hY G1 G2 (fun q => ?_) (fun q => ?_)
  · have w := w.1 q
    exact s_X12_worth_113 cx hY eq hK4 (by omega) (by omega) w
  · have w := w.2 q
    exact s_X12_worth_105 cx hY eq hK4 (by omega) (by omega) w
theorem s_X12_worth_27 {E : EnvT} {d : Nat} (cx : CX E "ShoreDayModel" cX12_worth 7 (some .int) "worth" (d + 1) 0 0) (hY : eY E = lay1) {Q : Int32 → Hp → Prop} (eq : EQ E 0 0 (fun r h2 => ∃ x, r = [vI x] ∧ Q x h2)) {K4 : Int32 → Int32 → Int32 → Hp → Prop} (hK4 : ∀ (a1 : Int32) (a2 : Int32) (a3 : Int32) (x4 : Option AVal) (x5 : Option AVal) (x6 : Option AVal) (h : Hp) (c n : Nat), c + 0 ≤ 0 → n + 0 ≤ 0 → K4 a1 a2 a3 h → SW E 4 ([some (vP (some (12, 0))), some (vI (a1)), some (vI (a2)), some (vI (a3)), x4, x5, x6], [], h, c, n)) {a1 : Int32} {a2 : Int32} {a3 : Int32} {a4 : Int32} {x5 : Option AVal} {x6 : Option AVal} {h : Hp} {c n : Nat} (hc : c + 0 ≤ 0) (hn : n + 0 ≤ 0) (w : w_X12_worth_27 K4 Q a1 a2 a3 a4 h) : SW E 27 ([some (vP (some (12, 0))), some (vI (a1)), some (vI (a2)), some (vI (a3)), some (vI (a4)), x5, x6], [], h, c, n) := by
  refine k_X12_worth_27 cx hY (fun q => ?_) (fun q => ?_)
  · have w := w.1 q
    exact s_X12_worth_71 cx hY eq hK4 (by omega) (by omega) w
  · have w := w.2 q
    exact s_X12_worth_33 cx hY eq hK4 (by omega) (by omega) w
theorem s_X12_worth_13 {E : EnvT} {d : Nat} (cx : CX E "ShoreDayModel" cX12_worth 7 (some .int) "worth" (d + 1) 0 0) (hY : eY E = lay1) {Q : Int32 → Hp → Prop} (eq : EQ E 0 0 (fun r h2 => ∃ x, r = [vI x] ∧ Q x h2)) {K4 : Int32 → Int32 → Int32 → Hp → Prop} (hK4 : ∀ (a1 : Int32) (a2 : Int32) (a3 : Int32) (x4 : Option AVal) (x5 : Option AVal) (x6 : Option AVal) (h : Hp) (c n : Nat), c + 0 ≤ 0 → n + 0 ≤ 0 → K4 a1 a2 a3 h → SW E 4 ([some (vP (some (12, 0))), some (vI (a1)), some (vI (a2)), some (vI (a3)), x4, x5, x6], [], h, c, n)) {a1 : Int32} {a2 : Int32} {a3 : Int32} {x4 : Option AVal} {x5 : Option AVal} {x6 : Option AVal} {h : Hp} {c n : Nat} (hc : c + 0 ≤ 0) (hn : n + 0 ≤ 0) (w : w_X12_worth_13 K4 Q a1 a2 a3 h) : SW E 13 ([some (vP (some (12, 0))), some (vI (a1)), some (vI (a2)), some (vI (a3)), x4, x5, x6], [], h, c, n) := by
  obtain ⟨G1, w⟩ := w
  refine k_X12_worth_13 cx hY G1 (fun q => ?_) (fun q => ?_)
  · have w := w.1 q
    exact s_X12_worth_33 cx hY eq hK4 (by omega) (by omega) w
  · have w := w.2 q
    exact s_X12_worth_27 cx hY eq hK4 (by omega) (by omega) w
theorem s_X12_worth_4 {E : EnvT} {d : Nat} (cx : CX E "ShoreDayModel" cX12_worth 7 (some .int) "worth" (d + 1) 0 0) (hY : eY E = lay1) {Q : Int32 → Hp → Prop} (eq : EQ E 0 0 (fun r h2 => ∃ x, r = [vI x] ∧ Q x h2)) : ∀ (N : Nat) (a1 : Int32) (a2 : Int32) (a3 : Int32) (x4 : Option AVal) (x5 : Option AVal) (x6 : Option AVal) (h : Hp) (c n : Nat), c + 0 ≤ 0 → n + 0 ≤ 0 → w_X12_worth_4  Q N a1 a2 a3 h → SW E 4 ([some (vP (some (12, 0))), some (vI (a1)), some (vI (a2)), some (vI (a3)), x4, x5, x6], [], h, c, n) := by
  intro N
  induction N with
  | zero =>
    intro _ _ _ _ _ _ h c n _ _ w
    exact w.elim
  | succ N ih =>
    intro a1 a2 a3 x4 x5 x6 h c n hc hn w
    obtain ⟨G1, w⟩ := w
    refine k_X12_worth_4 cx hY G1 (fun q => ?_) (fun q => ?_)
    · have w := w.1 q
      exact s_X12_worth_192 cx hY eq  (by omega) (by omega) w
    · have w := w.2 q
      exact s_X12_worth_13 cx hY eq ih (by omega) (by omega) w
theorem s_X12_worth_0 {E : EnvT} {d : Nat} (cx : CX E "ShoreDayModel" cX12_worth 7 (some .int) "worth" (d + 1) 0 0) (hY : eY E = lay1) {Q : Int32 → Hp → Prop} (eq : EQ E 0 0 (fun r h2 => ∃ x, r = [vI x] ∧ Q x h2)) {a1 : Int32} {x2 : Option AVal} {x3 : Option AVal} {x4 : Option AVal} {x5 : Option AVal} {x6 : Option AVal} {h : Hp} {c n : Nat} (hc : c + 0 ≤ 0) (hn : n + 0 ≤ 0) (w : w_X12_worth_0  Q a1 h) : SW E 0 ([some (vP (some (12, 0))), some (vI (a1)), x2, x3, x4, x5, x6], [], h, c, n) := by
  refine k_X12_worth_0 cx hY ?_
  obtain ⟨N1, w⟩ := w
  exact s_X12_worth_4 cx hY eq  _ _ _ _ _ _ _ _ _ _ (by omega) (by omega) w
def wp_X12_worth (a1 : Int32) (h : Hp) (Q : Int32 → Hp → Prop) : Prop := w_X12_worth_0 Q a1 h
theorem vc_X12_worth {l : Launch} {d : Nat} {a1 : Int32} {h : Hp} {Q : Int32 → Hp → Prop} (w : wp_X12_worth a1 h Q) : Ct l lay1 yX12_worth cX12_worth 7 (some .int) (d + 1) 0 0 [vP (some (12, 0)), vI a1] h (fun r h2 => ∃ x, r = [vI x] ∧ Q x h2) := by
  exact Ct.of (by decide) (Nat.le_of_ble_eq_true rfl) fun E cx eq hl hY => s_X12_worth_0 cx hY eq (Nat.le_refl _) (Nat.le_refl _) w
def w_X12_within_15 (Q : Int32 → Hp → Prop) (a0 : Int32) (a1 : Int32) (a2 : Int32) (s0 : Int32) (h : Hp) : Prop := ((s0) = 0 ∨ (s0) = 1) ∧ Q (s0) (h)
def w_X12_within_14 (Q : Int32 → Hp → Prop) (a0 : Int32) (a1 : Int32) (a2 : Int32) (h : Hp) : Prop := w_X12_within_15  Q (a0) (a1) (a2) ((0 : Int32)) (h)
def w_X12_within_10 (Q : Int32 → Hp → Prop) (a0 : Int32) (a1 : Int32) (a2 : Int32) (h : Hp) : Prop := w_X12_within_15  Q (a0) (a1) (a2) ((1 : Int32)) (h)
def w_X12_within_5 (Q : Int32 → Hp → Prop) (a0 : Int32) (a1 : Int32) (a2 : Int32) (h : Hp) : Prop := ((a2) < (a0) → w_X12_within_14  Q (a0) (a1) (a2) (h)) ∧ (¬ (a2) < (a0) → w_X12_within_10  Q (a0) (a1) (a2) (h))
def w_X12_within_0 (Q : Int32 → Hp → Prop) (a0 : Int32) (a1 : Int32) (a2 : Int32) (h : Hp) : Prop := ((a0) < (a1) → w_X12_within_14  Q (a0) (a1) (a2) (h)) ∧ (¬ (a0) < (a1) → w_X12_within_5  Q (a0) (a1) (a2) (h))
theorem s_X12_within_15 {E : EnvT} {d : Nat} (cx : CX E "ShoreDayModel" cX12_within 3 (some .boolean) "within" (d + 1) 0 0) (hY : eY E = lay1) {Q : Int32 → Hp → Prop} (eq : EQ E 0 0 (fun r h2 => ∃ x, r = [vI x] ∧ Q x h2)) {a0 : Int32} {a1 : Int32} {a2 : Int32} {s0 : Int32} {h : Hp} {c n : Nat} (hc : c + 0 ≤ 0) (hn : n + 0 ≤ 0) (w : w_X12_within_15  Q a0 a1 a2 s0 h) : SW E 15 ([some (vI (a0)), some (vI (a1)), some (vI (a2))], [vI (s0)], h, c, n) := by
  exact k_X12_within_15 cx hY eq (by omega) (by omega) w.1 ⟨_, rfl, w.2⟩
theorem s_X12_within_14 {E : EnvT} {d : Nat} (cx : CX E "ShoreDayModel" cX12_within 3 (some .boolean) "within" (d + 1) 0 0) (hY : eY E = lay1) {Q : Int32 → Hp → Prop} (eq : EQ E 0 0 (fun r h2 => ∃ x, r = [vI x] ∧ Q x h2)) {a0 : Int32} {a1 : Int32} {a2 : Int32} {h : Hp} {c n : Nat} (hc : c + 0 ≤ 0) (hn : n + 0 ≤ 0) (w : w_X12_within_14  Q a0 a1 a2 h) : SW E 14 ([some (vI (a0)), some (vI (a1)), some (vI (a2))], [], h, c, n) := by
  refine k_X12_within_14 cx hY ?_
  exact s_X12_within_15 cx hY eq  (by omega) (by omega) w
theorem s_X12_within_10 {E : EnvT} {d : Nat} (cx : CX E "ShoreDayModel" cX12_within 3 (some .boolean) "within" (d + 1) 0 0) (hY : eY E = lay1) {Q : Int32 → Hp → Prop} (eq : EQ E 0 0 (fun r h2 => ∃ x, r = [vI x] ∧ Q x h2)) {a0 : Int32} {a1 : Int32} {a2 : Int32} {h : Hp} {c n : Nat} (hc : c + 0 ≤ 0) (hn : n + 0 ≤ 0) (w : w_X12_within_10  Q a0 a1 a2 h) : SW E 10 ([some (vI (a0)), some (vI (a1)), some (vI (a2))], [], h, c, n) := by
  refine k_X12_within_10 cx hY ?_
  exact s_X12_within_15 cx hY eq  (by omega) (by omega) w
theorem s_X12_within_5 {E : EnvT} {d : Nat} (cx : CX E "ShoreDayModel" cX12_within 3 (some .boolean) "within" (d + 1) 0 0) (hY : eY E = lay1) {Q : Int32 → Hp → Prop} (eq : EQ E 0 0 (fun r h2 => ∃ x, r = [vI x] ∧ Q x h2)) {a0 : Int32} {a1 : Int32} {a2 : Int32} {h : Hp} {c n : Nat} (hc : c + 0 ≤ 0) (hn : n + 0 ≤ 0) (w : w_X12_within_5  Q a0 a1 a2 h) : SW E 5 ([some (vI (a0)), some (vI (a1)), some (vI (a2))], [], h, c, n) := by
  refine k_X12_within_5 cx hY (fun q => ?_) (fun q => ?_)
  · have w := w.1 q
    exact s_X12_within_14 cx hY eq  (by omega) (by omega) w
  · have w := w.2 q
    exact s_X12_within_10 cx hY eq  (by omega) (by omega) w
theorem s_X12_within_0 {E : EnvT} {d : Nat} (cx : CX E "ShoreDayModel" cX12_within 3 (some .boolean) "within" (d + 1) 0 0) (hY : eY E = lay1) {Q : Int32 → Hp → Prop} (eq : EQ E 0 0 (fun r h2 => ∃ x, r = [vI x] ∧ Q x h2)) {a0 : Int32} {a1 : Int32} {a2 : Int32} {h : Hp} {c n : Nat} (hc : c + 0 ≤ 0) (hn : n + 0 ≤ 0) (w : w_X12_within_0  Q a0 a1 a2 h) : SW E 0 ([some (vI (a0)), some (vI (a1)), some (vI (a2))], [], h, c, n) := by
  refine k_X12_within_0 cx hY (fun q => ?_) (fun q => ?_)
  · have w := w.1 q
    exact s_X12_within_14 cx hY eq  (by omega) (by omega) w
  · have w := w.2 q
    exact s_X12_within_5 cx hY eq  (by omega) (by omega) w
def wp_X12_within (a0 : Int32) (a1 : Int32) (a2 : Int32) (h : Hp) (Q : Int32 → Hp → Prop) : Prop := w_X12_within_0 Q a0 a1 a2 h
theorem vc_X12_within {l : Launch} {d : Nat} {a0 : Int32} {a1 : Int32} {a2 : Int32} {h : Hp} {Q : Int32 → Hp → Prop} (w : wp_X12_within a0 a1 a2 h Q) : Ct l lay1 yX12_within cX12_within 3 (some .boolean) (d + 1) 0 0 [vI a0, vI a1, vI a2] h (fun r h2 => ∃ x, r = [vI x] ∧ Q x h2) := by
  exact Ct.of (by decide) (Nat.le_of_ble_eq_true rfl) fun E cx eq hl hY => s_X12_within_0 cx hY eq (Nat.le_refl _) (Nat.le_refl _) w
def w_X12_ship_53 (Q : Int32 → Hp → Prop) (a1 : Int32) (a2 : Int32) (a3 : Int32) (h : Hp) : Prop := Q ((-1 : Int32)) (h)
def w_X12_ship_84 (Q : Int32 → Hp → Prop) (a1 : Int32) (a2 : Int32) (a3 : Int32) (s1 : Int32) (s2 : Int32) (h : Hp) : Prop := vp_in (s1) 4 ∧ (Q ((gI (wI (wI (h) 129 (0) (tN (s1)) (s2)) 12 (0) 26 ((gI (wI (h) 129 (0) (tN (s1)) (s2)) 12 (0) (26)) + ((1 : Int32)))) 12 (0) (26)) - ((1 : Int32))) (wI (wI (h) 129 (0) (tN (s1)) (s2)) 12 (0) 26 ((gI (wI (h) 129 (0) (tN (s1)) (s2)) 12 (0) (26)) + ((1 : Int32)))))
def w_X12_ship_74 (Q : Int32 → Hp → Prop) (a1 : Int32) (a2 : Int32) (a3 : Int32) (s1 : Int32) (s2 : Int32) (h : Hp) : Prop := vp_in (s1) 4 ∧ (w_X12_ship_84  Q (a1) (a2) (a3) (gI (wI (h) 128 (0) (tN (s1)) (s2)) 12 (0) (26)) (a3) (wI (h) 128 (0) (tN (s1)) (s2)))
def w_X12_ship_55 (Q : Int32 → Hp → Prop) (a1 : Int32) (a2 : Int32) (a3 : Int32) (h : Hp) : Prop := vp_in (gI (h) 12 (0) (26)) 4 ∧ (w_X12_ship_74  Q (a1) (a2) (a3) (gI (wI (h) 127 (0) (tN (gI (h) 12 (0) (26))) (a1)) 12 (0) (26)) (a2) (wI (h) 127 (0) (tN (gI (h) 12 (0) (26))) (a1)))
def w_X12_ship_45 (Q : Int32 → Hp → Prop) (a1 : Int32) (a2 : Int32) (a3 : Int32) (h : Hp) : Prop := (¬ (gI (h) 12 (0) (26)) = ((4 : Int32)) → w_X12_ship_55  Q (a1) (a2) (a3) (h)) ∧ ((gI (h) 12 (0) (26)) = ((4 : Int32)) → w_X12_ship_53  Q (a1) (a2) (a3) (h))
def w_X12_ship_42 (Q : Int32 → Hp → Prop) (a1 : Int32) (a2 : Int32) (a3 : Int32) (s0 : Int32) (h : Hp) : Prop := ((s0) = 0 → w_X12_ship_53  Q (a1) (a2) (a3) (h)) ∧ (¬ (s0) = 0 → w_X12_ship_45  Q (a1) (a2) (a3) (h))
def w_X12_ship_35 (Q : Int32 → Hp → Prop) (a1 : Int32) (a2 : Int32) (a3 : Int32) (h : Hp) : Prop := wp_X12_within (a3) ((0 : Int32)) ((9 : Int32)) (h) (fun r2 h2 => w_X12_ship_42  Q (a1) (a2) (a3) (r2) (h2))
def w_X12_ship_27 (Q : Int32 → Hp → Prop) (a1 : Int32) (a2 : Int32) (a3 : Int32) (h : Hp) : Prop := ((a2) ≤ (gI (h) 12 (0) (24)) → w_X12_ship_53  Q (a1) (a2) (a3) (h)) ∧ (¬ (a2) ≤ (gI (h) 12 (0) (24)) → w_X12_ship_35  Q (a1) (a2) (a3) (h))
def w_X12_ship_24 (Q : Int32 → Hp → Prop) (a1 : Int32) (a2 : Int32) (a3 : Int32) (s0 : Int32) (h : Hp) : Prop := ((s0) = 0 → w_X12_ship_53  Q (a1) (a2) (a3) (h)) ∧ (¬ (s0) = 0 → w_X12_ship_27  Q (a1) (a2) (a3) (h))
def w_X12_ship_15 (Q : Int32 → Hp → Prop) (a1 : Int32) (a2 : Int32) (a3 : Int32) (h : Hp) : Prop := wp_X12_within (a2) ((60 : Int32)) ((719 : Int32)) (h) (fun r2 h2 => w_X12_ship_24  Q (a1) (a2) (a3) (r2) (h2))
def w_X12_ship_12 (Q : Int32 → Hp → Prop) (a1 : Int32) (a2 : Int32) (a3 : Int32) (s0 : Int32) (h : Hp) : Prop := ((s0) = 0 → w_X12_ship_53  Q (a1) (a2) (a3) (h)) ∧ (¬ (s0) = 0 → w_X12_ship_15  Q (a1) (a2) (a3) (h))
def w_X12_ship_0 (Q : Int32 → Hp → Prop) (a1 : Int32) (a2 : Int32) (a3 : Int32) (h : Hp) : Prop := wp_X12_within (a1) ((1 : Int32)) ((60 : Int32)) (wI (h) 12 (0) 0 ((0 : Int32))) (fun r2 h2 => w_X12_ship_12  Q (a1) (a2) (a3) (r2) (h2))
theorem s_X12_ship_53 {E : EnvT} {d : Nat} (cx : CX E "ShoreDayModel" cX12_ship 4 (some .int) "ship" (d + 2) 0 0) (hY : eY E = lay1) {Q : Int32 → Hp → Prop} (eq : EQ E 0 0 (fun r h2 => ∃ x, r = [vI x] ∧ Q x h2)) {a1 : Int32} {a2 : Int32} {a3 : Int32} {h : Hp} {c n : Nat} (hc : c + 0 ≤ 0) (hn : n + 0 ≤ 0) (w : w_X12_ship_53  Q a1 a2 a3 h) : SW E 53 ([some (vP (some (12, 0))), some (vI (a1)), some (vI (a2)), some (vI (a3))], [], h, c, n) := by
  exact k_X12_ship_53 cx hY eq (by omega) (by omega) ⟨_, rfl, w⟩
theorem s_X12_ship_84 {E : EnvT} {d : Nat} (cx : CX E "ShoreDayModel" cX12_ship 4 (some .int) "ship" (d + 2) 0 0) (hY : eY E = lay1) {Q : Int32 → Hp → Prop} (eq : EQ E 0 0 (fun r h2 => ∃ x, r = [vI x] ∧ Q x h2)) {a1 : Int32} {a2 : Int32} {a3 : Int32} {s1 : Int32} {s2 : Int32} {h : Hp} {c n : Nat} (hc : c + 0 ≤ 0) (hn : n + 0 ≤ 0) (w : w_X12_ship_84  Q a1 a2 a3 s1 s2 h) : SW E 84 ([some (vP (some (12, 0))), some (vI (a1)), some (vI (a2)), some (vI (a3))], [vI (s2), vI (s1), vP (some (129, 0))], h, c, n) := by
  obtain ⟨G1, w⟩ := w
  exact k_X12_ship_84 cx hY G1 eq (by omega) (by omega) ⟨_, rfl, w⟩
theorem s_X12_ship_74 {E : EnvT} {d : Nat} (cx : CX E "ShoreDayModel" cX12_ship 4 (some .int) "ship" (d + 2) 0 0) (hY : eY E = lay1) {Q : Int32 → Hp → Prop} (eq : EQ E 0 0 (fun r h2 => ∃ x, r = [vI x] ∧ Q x h2)) {a1 : Int32} {a2 : Int32} {a3 : Int32} {s1 : Int32} {s2 : Int32} {h : Hp} {c n : Nat} (hc : c + 0 ≤ 0) (hn : n + 0 ≤ 0) (w : w_X12_ship_74  Q a1 a2 a3 s1 s2 h) : SW E 74 ([some (vP (some (12, 0))), some (vI (a1)), some (vI (a2)), some (vI (a3))], [vI (s2), vI (s1), vP (some (128, 0))], h, c, n) := by
  obtain ⟨G1, w⟩ := w
  refine k_X12_ship_74 cx hY G1 ?_
  exact s_X12_ship_84 cx hY eq  (by omega) (by omega) w
theorem s_X12_ship_55 {E : EnvT} {d : Nat} (cx : CX E "ShoreDayModel" cX12_ship 4 (some .int) "ship" (d + 2) 0 0) (hY : eY E = lay1) {Q : Int32 → Hp → Prop} (eq : EQ E 0 0 (fun r h2 => ∃ x, r = [vI x] ∧ Q x h2)) {a1 : Int32} {a2 : Int32} {a3 : Int32} {h : Hp} {c n : Nat} (hc : c + 0 ≤ 0) (hn : n + 0 ≤ 0) (w : w_X12_ship_55  Q a1 a2 a3 h) : SW E 55 ([some (vP (some (12, 0))), some (vI (a1)), some (vI (a2)), some (vI (a3))], [], h, c, n) := by
  obtain ⟨G1, w⟩ := w
  refine k_X12_ship_55 cx hY G1 ?_
  exact s_X12_ship_74 cx hY eq  (by omega) (by omega) w
theorem s_X12_ship_45 {E : EnvT} {d : Nat} (cx : CX E "ShoreDayModel" cX12_ship 4 (some .int) "ship" (d + 2) 0 0) (hY : eY E = lay1) {Q : Int32 → Hp → Prop} (eq : EQ E 0 0 (fun r h2 => ∃ x, r = [vI x] ∧ Q x h2)) {a1 : Int32} {a2 : Int32} {a3 : Int32} {h : Hp} {c n : Nat} (hc : c + 0 ≤ 0) (hn : n + 0 ≤ 0) (w : w_X12_ship_45  Q a1 a2 a3 h) : SW E 45 ([some (vP (some (12, 0))), some (vI (a1)), some (vI (a2)), some (vI (a3))], [], h, c, n) := by
  refine k_X12_ship_45 cx hY (fun q => ?_) (fun q => ?_)
  · have w := w.1 q
    exact s_X12_ship_55 cx hY eq  (by omega) (by omega) w
  · have w := w.2 q
    exact s_X12_ship_53 cx hY eq  (by omega) (by omega) w
theorem s_X12_ship_42 {E : EnvT} {d : Nat} (cx : CX E "ShoreDayModel" cX12_ship 4 (some .int) "ship" (d + 2) 0 0) (hY : eY E = lay1) {Q : Int32 → Hp → Prop} (eq : EQ E 0 0 (fun r h2 => ∃ x, r = [vI x] ∧ Q x h2)) {a1 : Int32} {a2 : Int32} {a3 : Int32} {s0 : Int32} {h : Hp} {c n : Nat} (hc : c + 0 ≤ 0) (hn : n + 0 ≤ 0) (w : w_X12_ship_42  Q a1 a2 a3 s0 h) : SW E 42 ([some (vP (some (12, 0))), some (vI (a1)), some (vI (a2)), some (vI (a3))], [vI (s0)], h, c, n) := by
  refine k_X12_ship_42 cx hY (fun q => ?_) (fun q => ?_)
  · have w := w.1 q
    exact s_X12_ship_53 cx hY eq  (by omega) (by omega) w
  · have w := w.2 q
    exact s_X12_ship_45 cx hY eq  (by omega) (by omega) w
theorem s_X12_ship_35 {E : EnvT} {d : Nat} (cx : CX E "ShoreDayModel" cX12_ship 4 (some .int) "ship" (d + 2) 0 0) (hY : eY E = lay1) {Q : Int32 → Hp → Prop} (eq : EQ E 0 0 (fun r h2 => ∃ x, r = [vI x] ∧ Q x h2)) {a1 : Int32} {a2 : Int32} {a3 : Int32} {h : Hp} {c n : Nat} (hc : c + 0 ≤ 0) (hn : n + 0 ≤ 0) (w : w_X12_ship_35  Q a1 a2 a3 h) : SW E 35 ([some (vP (some (12, 0))), some (vI (a1)), some (vI (a2)), some (vI (a3))], [], h, c, n) := by
  refine k_X12_ship_35 cx hY (ctY hY (vc_X12_within (d := d + 0) w)) (by omega) (by omega) (by omega) (fun r h2 hp => ?_)
  obtain ⟨r2, rfl, w⟩ := hp
  exact s_X12_ship_42 cx hY eq  (by omega) (by omega) w
theorem s_X12_ship_27 {E : EnvT} {d : Nat} (cx : CX E "ShoreDayModel" cX12_ship 4 (some .int) "ship" (d + 2) 0 0) (hY : eY E = lay1) {Q : Int32 → Hp → Prop} (eq : EQ E 0 0 (fun r h2 => ∃ x, r = [vI x] ∧ Q x h2)) {a1 : Int32} {a2 : Int32} {a3 : Int32} {h : Hp} {c n : Nat} (hc : c + 0 ≤ 0) (hn : n + 0 ≤ 0) (w : w_X12_ship_27  Q a1 a2 a3 h) : SW E 27 ([some (vP (some (12, 0))), some (vI (a1)), some (vI (a2)), some (vI (a3))], [], h, c, n) := by
  refine k_X12_ship_27 cx hY (fun q => ?_) (fun q => ?_)
  · have w := w.1 q
    exact s_X12_ship_53 cx hY eq  (by omega) (by omega) w
  · have w := w.2 q
    exact s_X12_ship_35 cx hY eq  (by omega) (by omega) w
theorem s_X12_ship_24 {E : EnvT} {d : Nat} (cx : CX E "ShoreDayModel" cX12_ship 4 (some .int) "ship" (d + 2) 0 0) (hY : eY E = lay1) {Q : Int32 → Hp → Prop} (eq : EQ E 0 0 (fun r h2 => ∃ x, r = [vI x] ∧ Q x h2)) {a1 : Int32} {a2 : Int32} {a3 : Int32} {s0 : Int32} {h : Hp} {c n : Nat} (hc : c + 0 ≤ 0) (hn : n + 0 ≤ 0) (w : w_X12_ship_24  Q a1 a2 a3 s0 h) : SW E 24 ([some (vP (some (12, 0))), some (vI (a1)), some (vI (a2)), some (vI (a3))], [vI (s0)], h, c, n) := by
  refine k_X12_ship_24 cx hY (fun q => ?_) (fun q => ?_)
  · have w := w.1 q
    exact s_X12_ship_53 cx hY eq  (by omega) (by omega) w
  · have w := w.2 q
    exact s_X12_ship_27 cx hY eq  (by omega) (by omega) w
theorem s_X12_ship_15 {E : EnvT} {d : Nat} (cx : CX E "ShoreDayModel" cX12_ship 4 (some .int) "ship" (d + 2) 0 0) (hY : eY E = lay1) {Q : Int32 → Hp → Prop} (eq : EQ E 0 0 (fun r h2 => ∃ x, r = [vI x] ∧ Q x h2)) {a1 : Int32} {a2 : Int32} {a3 : Int32} {h : Hp} {c n : Nat} (hc : c + 0 ≤ 0) (hn : n + 0 ≤ 0) (w : w_X12_ship_15  Q a1 a2 a3 h) : SW E 15 ([some (vP (some (12, 0))), some (vI (a1)), some (vI (a2)), some (vI (a3))], [], h, c, n) := by
  refine k_X12_ship_15 cx hY (ctY hY (vc_X12_within (d := d + 0) w)) (by omega) (by omega) (by omega) (fun r h2 hp => ?_)
  obtain ⟨r2, rfl, w⟩ := hp
  exact s_X12_ship_24 cx hY eq  (by omega) (by omega) w
theorem s_X12_ship_12 {E : EnvT} {d : Nat} (cx : CX E "ShoreDayModel" cX12_ship 4 (some .int) "ship" (d + 2) 0 0) (hY : eY E = lay1) {Q : Int32 → Hp → Prop} (eq : EQ E 0 0 (fun r h2 => ∃ x, r = [vI x] ∧ Q x h2)) {a1 : Int32} {a2 : Int32} {a3 : Int32} {s0 : Int32} {h : Hp} {c n : Nat} (hc : c + 0 ≤ 0) (hn : n + 0 ≤ 0) (w : w_X12_ship_12  Q a1 a2 a3 s0 h) : SW E 12 ([some (vP (some (12, 0))), some (vI (a1)), some (vI (a2)), some (vI (a3))], [vI (s0)], h, c, n) := by
  refine k_X12_ship_12 cx hY (fun q => ?_) (fun q => ?_)
  · have w := w.1 q
    exact s_X12_ship_53 cx hY eq  (by omega) (by omega) w
  · have w := w.2 q
    exact s_X12_ship_15 cx hY eq  (by omega) (by omega) w
theorem s_X12_ship_0 {E : EnvT} {d : Nat} (cx : CX E "ShoreDayModel" cX12_ship 4 (some .int) "ship" (d + 2) 0 0) (hY : eY E = lay1) {Q : Int32 → Hp → Prop} (eq : EQ E 0 0 (fun r h2 => ∃ x, r = [vI x] ∧ Q x h2)) {a1 : Int32} {a2 : Int32} {a3 : Int32} {h : Hp} {c n : Nat} (hc : c + 0 ≤ 0) (hn : n + 0 ≤ 0) (w : w_X12_ship_0  Q a1 a2 a3 h) : SW E 0 ([some (vP (some (12, 0))), some (vI (a1)), some (vI (a2)), some (vI (a3))], [], h, c, n) := by
  refine k_X12_ship_0 cx hY (ctY hY (vc_X12_within (d := d + 0) w)) (by omega) (by omega) (by omega) (fun r h2 hp => ?_)
  obtain ⟨r2, rfl, w⟩ := hp
  exact s_X12_ship_12 cx hY eq  (by omega) (by omega) w
def wp_X12_ship (a1 : Int32) (a2 : Int32) (a3 : Int32) (h : Hp) (Q : Int32 → Hp → Prop) : Prop := w_X12_ship_0 Q a1 a2 a3 h
theorem vc_X12_ship {l : Launch} {d : Nat} {a1 : Int32} {a2 : Int32} {a3 : Int32} {h : Hp} {Q : Int32 → Hp → Prop} (w : wp_X12_ship a1 a2 a3 h Q) : Ct l lay1 yX12_ship cX12_ship 4 (some .int) (d + 2) 0 0 [vP (some (12, 0)), vI a1, vI a2, vI a3] h (fun r h2 => ∃ x, r = [vI x] ∧ Q x h2) := by
  exact Ct.of (by decide) (Nat.le_of_ble_eq_true rfl) fun E cx eq hl hY => s_X12_ship_0 cx hY eq (Nat.le_refl _) (Nat.le_refl _) w
def w_X12_isShip_30 (Q : Int32 → Hp → Prop) (a1 : Int32) (s0 : Int32) (h : Hp) : Prop := ((s0) = 0 ∨ (s0) = 1) ∧ Q (s0) (h)
def w_X12_isShip_29 (Q : Int32 → Hp → Prop) (a1 : Int32) (h : Hp) : Prop := w_X12_isShip_30  Q (a1) ((0 : Int32)) (h)
def w_X12_isShip_25 (Q : Int32 → Hp → Prop) (a1 : Int32) (h : Hp) : Prop := w_X12_isShip_30  Q (a1) ((1 : Int32)) (h)
def w_X12_isShip_12 (Q : Int32 → Hp → Prop) (a1 : Int32) (h : Hp) : Prop := vp_in (a1) 4 ∧ (((gI (h) 128 (0) (tN (a1))) ≤ (gI (h) 12 (0) (24)) → w_X12_isShip_29  Q (a1) (h)) ∧ (¬ (gI (h) 128 (0) (tN (a1))) ≤ (gI (h) 12 (0) (24)) → w_X12_isShip_25  Q (a1) (h)))
def w_X12_isShip_4 (Q : Int32 → Hp → Prop) (a1 : Int32) (h : Hp) : Prop := ((gI (h) 12 (0) (26)) ≤ (a1) → w_X12_isShip_29  Q (a1) (h)) ∧ (¬ (gI (h) 12 (0) (26)) ≤ (a1) → w_X12_isShip_12  Q (a1) (h))
def w_X12_isShip_0 (Q : Int32 → Hp → Prop) (a1 : Int32) (h : Hp) : Prop := ((a1) < 0 → w_X12_isShip_29  Q (a1) (h)) ∧ (¬ (a1) < 0 → w_X12_isShip_4  Q (a1) (h))
theorem s_X12_isShip_30 {E : EnvT} {d : Nat} (cx : CX E "ShoreDayModel" cX12_isShip 2 (some .boolean) "isShip" (d + 1) 0 0) (hY : eY E = lay1) {Q : Int32 → Hp → Prop} (eq : EQ E 0 0 (fun r h2 => ∃ x, r = [vI x] ∧ Q x h2)) {a1 : Int32} {s0 : Int32} {h : Hp} {c n : Nat} (hc : c + 0 ≤ 0) (hn : n + 0 ≤ 0) (w : w_X12_isShip_30  Q a1 s0 h) : SW E 30 ([some (vP (some (12, 0))), some (vI (a1))], [vI (s0)], h, c, n) := by
  exact k_X12_isShip_30 cx hY eq (by omega) (by omega) w.1 ⟨_, rfl, w.2⟩
theorem s_X12_isShip_29 {E : EnvT} {d : Nat} (cx : CX E "ShoreDayModel" cX12_isShip 2 (some .boolean) "isShip" (d + 1) 0 0) (hY : eY E = lay1) {Q : Int32 → Hp → Prop} (eq : EQ E 0 0 (fun r h2 => ∃ x, r = [vI x] ∧ Q x h2)) {a1 : Int32} {h : Hp} {c n : Nat} (hc : c + 0 ≤ 0) (hn : n + 0 ≤ 0) (w : w_X12_isShip_29  Q a1 h) : SW E 29 ([some (vP (some (12, 0))), some (vI (a1))], [], h, c, n) := by
  refine k_X12_isShip_29 cx hY ?_
  exact s_X12_isShip_30 cx hY eq  (by omega) (by omega) w
theorem s_X12_isShip_25 {E : EnvT} {d : Nat} (cx : CX E "ShoreDayModel" cX12_isShip 2 (some .boolean) "isShip" (d + 1) 0 0) (hY : eY E = lay1) {Q : Int32 → Hp → Prop} (eq : EQ E 0 0 (fun r h2 => ∃ x, r = [vI x] ∧ Q x h2)) {a1 : Int32} {h : Hp} {c n : Nat} (hc : c + 0 ≤ 0) (hn : n + 0 ≤ 0) (w : w_X12_isShip_25  Q a1 h) : SW E 25 ([some (vP (some (12, 0))), some (vI (a1))], [], h, c, n) := by
  refine k_X12_isShip_25 cx hY ?_
  exact s_X12_isShip_30 cx hY eq  (by omega) (by omega) w
theorem s_X12_isShip_12 {E : EnvT} {d : Nat} (cx : CX E "ShoreDayModel" cX12_isShip 2 (some .boolean) "isShip" (d + 1) 0 0) (hY : eY E = lay1) {Q : Int32 → Hp → Prop} (eq : EQ E 0 0 (fun r h2 => ∃ x, r = [vI x] ∧ Q x h2)) {a1 : Int32} {h : Hp} {c n : Nat} (hc : c + 0 ≤ 0) (hn : n + 0 ≤ 0) (w : w_X12_isShip_12  Q a1 h) : SW E 12 ([some (vP (some (12, 0))), some (vI (a1))], [], h, c, n) := by
  obtain ⟨G1, w⟩ := w
  refine k_X12_isShip_12 cx hY G1 (fun q => ?_) (fun q => ?_)
  · have w := w.1 q
    exact s_X12_isShip_29 cx hY eq  (by omega) (by omega) w
  · have w := w.2 q
    exact s_X12_isShip_25 cx hY eq  (by omega) (by omega) w
theorem s_X12_isShip_4 {E : EnvT} {d : Nat} (cx : CX E "ShoreDayModel" cX12_isShip 2 (some .boolean) "isShip" (d + 1) 0 0) (hY : eY E = lay1) {Q : Int32 → Hp → Prop} (eq : EQ E 0 0 (fun r h2 => ∃ x, r = [vI x] ∧ Q x h2)) {a1 : Int32} {h : Hp} {c n : Nat} (hc : c + 0 ≤ 0) (hn : n + 0 ≤ 0) (w : w_X12_isShip_4  Q a1 h) : SW E 4 ([some (vP (some (12, 0))), some (vI (a1))], [], h, c, n) := by
  refine k_X12_isShip_4 cx hY (fun q => ?_) (fun q => ?_)
  · have w := w.1 q
    exact s_X12_isShip_29 cx hY eq  (by omega) (by omega) w
  · have w := w.2 q
    exact s_X12_isShip_12 cx hY eq  (by omega) (by omega) w
theorem s_X12_isShip_0 {E : EnvT} {d : Nat} (cx : CX E "ShoreDayModel" cX12_isShip 2 (some .boolean) "isShip" (d + 1) 0 0) (hY : eY E = lay1) {Q : Int32 → Hp → Prop} (eq : EQ E 0 0 (fun r h2 => ∃ x, r = [vI x] ∧ Q x h2)) {a1 : Int32} {h : Hp} {c n : Nat} (hc : c + 0 ≤ 0) (hn : n + 0 ≤ 0) (w : w_X12_isShip_0  Q a1 h) : SW E 0 ([some (vP (some (12, 0))), some (vI (a1))], [], h, c, n) := by
  refine k_X12_isShip_0 cx hY (fun q => ?_) (fun q => ?_)
  · have w := w.1 q
    exact s_X12_isShip_29 cx hY eq  (by omega) (by omega) w
  · have w := w.2 q
    exact s_X12_isShip_4 cx hY eq  (by omega) (by omega) w
def wp_X12_isShip (a1 : Int32) (h : Hp) (Q : Int32 → Hp → Prop) : Prop := w_X12_isShip_0 Q a1 h
theorem vc_X12_isShip {l : Launch} {d : Nat} {a1 : Int32} {h : Hp} {Q : Int32 → Hp → Prop} (w : wp_X12_isShip a1 h Q) : Ct l lay1 yX12_isShip cX12_isShip 2 (some .boolean) (d + 1) 0 0 [vP (some (12, 0)), vI a1] h (fun r h2 => ∃ x, r = [vI x] ∧ Q x h2) := by
  exact Ct.of (by decide) (Nat.le_of_ble_eq_true rfl) fun E cx eq hl hY => s_X12_isShip_0 cx hY eq (Nat.le_refl _) (Nat.le_refl _) w
def w_X12_tender_33 (Q : Int32 → Hp → Prop) (a1 : Int32) (a2 : Int32) (h : Hp) : Prop := Q ((-1 : Int32)) (h)
def w_X12_tender_64 (Q : Int32 → Hp → Prop) (a1 : Int32) (a2 : Int32) (s1 : Int32) (s2 : Int32) (h : Hp) : Prop := vp_in (s1) 6 ∧ (Q ((gI (wI (wI (h) 133 (0) (tN (s1)) (s2)) 12 (0) 30 ((gI (wI (h) 133 (0) (tN (s1)) (s2)) 12 (0) (30)) + ((1 : Int32)))) 12 (0) (30)) - ((1 : Int32))) (wI (wI (h) 133 (0) (tN (s1)) (s2)) 12 (0) 30 ((gI (wI (h) 133 (0) (tN (s1)) (s2)) 12 (0) (30)) + ((1 : Int32)))))
def w_X12_tender_54 (Q : Int32 → Hp → Prop) (a1 : Int32) (a2 : Int32) (s1 : Int32) (s2 : Int32) (h : Hp) : Prop := vp_in (s1) 6 ∧ (w_X12_tender_64  Q (a1) (a2) (gI (wI (h) 132 (0) (tN (s1)) (s2)) 12 (0) (30)) ((0 : Int32)) (wI (h) 132 (0) (tN (s1)) (s2)))
def w_X12_tender_35 (Q : Int32 → Hp → Prop) (a1 : Int32) (a2 : Int32) (h : Hp) : Prop := vp_in (gI (h) 12 (0) (30)) 6 ∧ (w_X12_tender_54  Q (a1) (a2) (gI (wI (h) 131 (0) (tN (gI (h) 12 (0) (30))) (a1)) 12 (0) (30)) (a2) (wI (h) 131 (0) (tN (gI (h) 12 (0) (30))) (a1)))
def w_X12_tender_24 (Q : Int32 → Hp → Prop) (a1 : Int32) (a2 : Int32) (h : Hp) : Prop := (¬ (gI (h) 12 (0) (30)) = ((6 : Int32)) → w_X12_tender_35  Q (a1) (a2) (h)) ∧ ((gI (h) 12 (0) (30)) = ((6 : Int32)) → w_X12_tender_33  Q (a1) (a2) (h))
def w_X12_tender_21 (Q : Int32 → Hp → Prop) (a1 : Int32) (a2 : Int32) (s0 : Int32) (h : Hp) : Prop := ((s0) = 0 → w_X12_tender_33  Q (a1) (a2) (h)) ∧ (¬ (s0) = 0 → w_X12_tender_24  Q (a1) (a2) (h))
def w_X12_tender_13 (Q : Int32 → Hp → Prop) (a1 : Int32) (a2 : Int32) (h : Hp) : Prop := wp_X12_within (a2) ((1 : Int32)) ((200 : Int32)) (h) (fun r2 h2 => w_X12_tender_21  Q (a1) (a2) (r2) (h2))
def w_X12_tender_10 (Q : Int32 → Hp → Prop) (a1 : Int32) (a2 : Int32) (s0 : Int32) (h : Hp) : Prop := ((s0) = 0 → w_X12_tender_33  Q (a1) (a2) (h)) ∧ (¬ (s0) = 0 → w_X12_tender_13  Q (a1) (a2) (h))
def w_X12_tender_0 (Q : Int32 → Hp → Prop) (a1 : Int32) (a2 : Int32) (h : Hp) : Prop := wp_X12_isShip (a1) (wI (h) 12 (0) 0 ((0 : Int32))) (fun r2 h2 => w_X12_tender_10  Q (a1) (a2) (r2) (h2))
theorem s_X12_tender_33 {E : EnvT} {d : Nat} (cx : CX E "ShoreDayModel" cX12_tender 3 (some .int) "tender" (d + 2) 0 0) (hY : eY E = lay1) {Q : Int32 → Hp → Prop} (eq : EQ E 0 0 (fun r h2 => ∃ x, r = [vI x] ∧ Q x h2)) {a1 : Int32} {a2 : Int32} {h : Hp} {c n : Nat} (hc : c + 0 ≤ 0) (hn : n + 0 ≤ 0) (w : w_X12_tender_33  Q a1 a2 h) : SW E 33 ([some (vP (some (12, 0))), some (vI (a1)), some (vI (a2))], [], h, c, n) := by
  exact k_X12_tender_33 cx hY eq (by omega) (by omega) ⟨_, rfl, w⟩
theorem s_X12_tender_64 {E : EnvT} {d : Nat} (cx : CX E "ShoreDayModel" cX12_tender 3 (some .int) "tender" (d + 2) 0 0) (hY : eY E = lay1) {Q : Int32 → Hp → Prop} (eq : EQ E 0 0 (fun r h2 => ∃ x, r = [vI x] ∧ Q x h2)) {a1 : Int32} {a2 : Int32} {s1 : Int32} {s2 : Int32} {h : Hp} {c n : Nat} (hc : c + 0 ≤ 0) (hn : n + 0 ≤ 0) (w : w_X12_tender_64  Q a1 a2 s1 s2 h) : SW E 64 ([some (vP (some (12, 0))), some (vI (a1)), some (vI (a2))], [vI (s2), vI (s1), vP (some (133, 0))], h, c, n) := by
  obtain ⟨G1, w⟩ := w
  exact k_X12_tender_64 cx hY G1 eq (by omega) (by omega) ⟨_, rfl, w⟩
theorem s_X12_tender_54 {E : EnvT} {d : Nat} (cx : CX E "ShoreDayModel" cX12_tender 3 (some .int) "tender" (d + 2) 0 0) (hY : eY E = lay1) {Q : Int32 → Hp → Prop} (eq : EQ E 0 0 (fun r h2 => ∃ x, r = [vI x] ∧ Q x h2)) {a1 : Int32} {a2 : Int32} {s1 : Int32} {s2 : Int32} {h : Hp} {c n : Nat} (hc : c + 0 ≤ 0) (hn : n + 0 ≤ 0) (w : w_X12_tender_54  Q a1 a2 s1 s2 h) : SW E 54 ([some (vP (some (12, 0))), some (vI (a1)), some (vI (a2))], [vI (s2), vI (s1), vP (some (132, 0))], h, c, n) := by
  obtain ⟨G1, w⟩ := w
  refine k_X12_tender_54 cx hY G1 ?_
  exact s_X12_tender_64 cx hY eq  (by omega) (by omega) w
theorem s_X12_tender_35 {E : EnvT} {d : Nat} (cx : CX E "ShoreDayModel" cX12_tender 3 (some .int) "tender" (d + 2) 0 0) (hY : eY E = lay1) {Q : Int32 → Hp → Prop} (eq : EQ E 0 0 (fun r h2 => ∃ x, r = [vI x] ∧ Q x h2)) {a1 : Int32} {a2 : Int32} {h : Hp} {c n : Nat} (hc : c + 0 ≤ 0) (hn : n + 0 ≤ 0) (w : w_X12_tender_35  Q a1 a2 h) : SW E 35 ([some (vP (some (12, 0))), some (vI (a1)), some (vI (a2))], [], h, c, n) := by
  obtain ⟨G1, w⟩ := w
  refine k_X12_tender_35 cx hY G1 ?_
  exact s_X12_tender_54 cx hY eq  (by omega) (by omega) w
theorem s_X12_tender_24 {E : EnvT} {d : Nat} (cx : CX E "ShoreDayModel" cX12_tender 3 (some .int) "tender" (d + 2) 0 0) (hY : eY E = lay1) {Q : Int32 → Hp → Prop} (eq : EQ E 0 0 (fun r h2 => ∃ x, r = [vI x] ∧ Q x h2)) {a1 : Int32} {a2 : Int32} {h : Hp} {c n : Nat} (hc : c + 0 ≤ 0) (hn : n + 0 ≤ 0) (w : w_X12_tender_24  Q a1 a2 h) : SW E 24 ([some (vP (some (12, 0))), some (vI (a1)), some (vI (a2))], [], h, c, n) := by
  refine k_X12_tender_24 cx hY (fun q => ?_) (fun q => ?_)
  · have w := w.1 q
    exact s_X12_tender_35 cx hY eq  (by omega) (by omega) w
  · have w := w.2 q
    exact s_X12_tender_33 cx hY eq  (by omega) (by omega) w
theorem s_X12_tender_21 {E : EnvT} {d : Nat} (cx : CX E "ShoreDayModel" cX12_tender 3 (some .int) "tender" (d + 2) 0 0) (hY : eY E = lay1) {Q : Int32 → Hp → Prop} (eq : EQ E 0 0 (fun r h2 => ∃ x, r = [vI x] ∧ Q x h2)) {a1 : Int32} {a2 : Int32} {s0 : Int32} {h : Hp} {c n : Nat} (hc : c + 0 ≤ 0) (hn : n + 0 ≤ 0) (w : w_X12_tender_21  Q a1 a2 s0 h) : SW E 21 ([some (vP (some (12, 0))), some (vI (a1)), some (vI (a2))], [vI (s0)], h, c, n) := by
  refine k_X12_tender_21 cx hY (fun q => ?_) (fun q => ?_)
  · have w := w.1 q
    exact s_X12_tender_33 cx hY eq  (by omega) (by omega) w
  · have w := w.2 q
    exact s_X12_tender_24 cx hY eq  (by omega) (by omega) w
theorem s_X12_tender_13 {E : EnvT} {d : Nat} (cx : CX E "ShoreDayModel" cX12_tender 3 (some .int) "tender" (d + 2) 0 0) (hY : eY E = lay1) {Q : Int32 → Hp → Prop} (eq : EQ E 0 0 (fun r h2 => ∃ x, r = [vI x] ∧ Q x h2)) {a1 : Int32} {a2 : Int32} {h : Hp} {c n : Nat} (hc : c + 0 ≤ 0) (hn : n + 0 ≤ 0) (w : w_X12_tender_13  Q a1 a2 h) : SW E 13 ([some (vP (some (12, 0))), some (vI (a1)), some (vI (a2))], [], h, c, n) := by
  refine k_X12_tender_13 cx hY (ctY hY (vc_X12_within (d := d + 0) w)) (by omega) (by omega) (by omega) (fun r h2 hp => ?_)
  obtain ⟨r2, rfl, w⟩ := hp
  exact s_X12_tender_21 cx hY eq  (by omega) (by omega) w
theorem s_X12_tender_10 {E : EnvT} {d : Nat} (cx : CX E "ShoreDayModel" cX12_tender 3 (some .int) "tender" (d + 2) 0 0) (hY : eY E = lay1) {Q : Int32 → Hp → Prop} (eq : EQ E 0 0 (fun r h2 => ∃ x, r = [vI x] ∧ Q x h2)) {a1 : Int32} {a2 : Int32} {s0 : Int32} {h : Hp} {c n : Nat} (hc : c + 0 ≤ 0) (hn : n + 0 ≤ 0) (w : w_X12_tender_10  Q a1 a2 s0 h) : SW E 10 ([some (vP (some (12, 0))), some (vI (a1)), some (vI (a2))], [vI (s0)], h, c, n) := by
  refine k_X12_tender_10 cx hY (fun q => ?_) (fun q => ?_)
  · have w := w.1 q
    exact s_X12_tender_33 cx hY eq  (by omega) (by omega) w
  · have w := w.2 q
    exact s_X12_tender_13 cx hY eq  (by omega) (by omega) w
theorem s_X12_tender_0 {E : EnvT} {d : Nat} (cx : CX E "ShoreDayModel" cX12_tender 3 (some .int) "tender" (d + 2) 0 0) (hY : eY E = lay1) {Q : Int32 → Hp → Prop} (eq : EQ E 0 0 (fun r h2 => ∃ x, r = [vI x] ∧ Q x h2)) {a1 : Int32} {a2 : Int32} {h : Hp} {c n : Nat} (hc : c + 0 ≤ 0) (hn : n + 0 ≤ 0) (w : w_X12_tender_0  Q a1 a2 h) : SW E 0 ([some (vP (some (12, 0))), some (vI (a1)), some (vI (a2))], [], h, c, n) := by
  refine k_X12_tender_0 cx hY (ctY hY (vc_X12_isShip (d := d + 0) w)) (by omega) (by omega) (by omega) (fun r h2 hp => ?_)
  obtain ⟨r2, rfl, w⟩ := hp
  exact s_X12_tender_10 cx hY eq  (by omega) (by omega) w
def wp_X12_tender (a1 : Int32) (a2 : Int32) (h : Hp) (Q : Int32 → Hp → Prop) : Prop := w_X12_tender_0 Q a1 a2 h
theorem vc_X12_tender {l : Launch} {d : Nat} {a1 : Int32} {a2 : Int32} {h : Hp} {Q : Int32 → Hp → Prop} (w : wp_X12_tender a1 a2 h Q) : Ct l lay1 yX12_tender cX12_tender 3 (some .int) (d + 2) 0 0 [vP (some (12, 0)), vI a1, vI a2] h (fun r h2 => ∃ x, r = [vI x] ∧ Q x h2) := by
  exact Ct.of (by decide) (Nat.le_of_ble_eq_true rfl) fun E cx eq hl hY => s_X12_tender_0 cx hY eq (Nat.le_refl _) (Nat.le_refl _) w
def w_X12_tour_66 (Q : Int32 → Hp → Prop) (a1 : Int32) (a2 : Int32) (a3 : Int32) (a4 : Int32) (h : Hp) : Prop := Q ((-1 : Int32)) (h)
def w_X12_tour_108 (Q : Int32 → Hp → Prop) (a1 : Int32) (a2 : Int32) (a3 : Int32) (a4 : Int32) (s1 : Int32) (s2 : Int32) (h : Hp) : Prop := vp_in (s1) 8 ∧ (Q ((gI (wI (wI (h) 139 (0) (tN (s1)) (s2)) 12 (0) 35 ((gI (wI (h) 139 (0) (tN (s1)) (s2)) 12 (0) (35)) + ((1 : Int32)))) 12 (0) (35)) - ((1 : Int32))) (wI (wI (h) 139 (0) (tN (s1)) (s2)) 12 (0) 35 ((gI (wI (h) 139 (0) (tN (s1)) (s2)) 12 (0) (35)) + ((1 : Int32)))))
def w_X12_tour_97 (Q : Int32 → Hp → Prop) (a1 : Int32) (a2 : Int32) (a3 : Int32) (a4 : Int32) (s1 : Int32) (s2 : Int32) (h : Hp) : Prop := vp_in (s1) 8 ∧ (w_X12_tour_108  Q (a1) (a2) (a3) (a4) (gI (wI (h) 138 (0) (tN (s1)) (s2)) 12 (0) (35)) (a4) (wI (h) 138 (0) (tN (s1)) (s2)))
def w_X12_tour_87 (Q : Int32 → Hp → Prop) (a1 : Int32) (a2 : Int32) (a3 : Int32) (a4 : Int32) (s1 : Int32) (s2 : Int32) (h : Hp) : Prop := vp_in (s1) 8 ∧ (w_X12_tour_97  Q (a1) (a2) (a3) (a4) (gI (wI (h) 137 (0) (tN (s1)) (s2)) 12 (0) (35)) (a3) (wI (h) 137 (0) (tN (s1)) (s2)))
def w_X12_tour_68 (Q : Int32 → Hp → Prop) (a1 : Int32) (a2 : Int32) (a3 : Int32) (a4 : Int32) (h : Hp) : Prop := vp_in (gI (h) 12 (0) (35)) 8 ∧ (w_X12_tour_87  Q (a1) (a2) (a3) (a4) (gI (wI (h) 136 (0) (tN (gI (h) 12 (0) (35))) (a1)) 12 (0) (35)) (a2) (wI (h) 136 (0) (tN (gI (h) 12 (0) (35))) (a1)))
def w_X12_tour_57 (Q : Int32 → Hp → Prop) (a1 : Int32) (a2 : Int32) (a3 : Int32) (a4 : Int32) (h : Hp) : Prop := (¬ (gI (h) 12 (0) (35)) = ((8 : Int32)) → w_X12_tour_68  Q (a1) (a2) (a3) (a4) (h)) ∧ ((gI (h) 12 (0) (35)) = ((8 : Int32)) → w_X12_tour_66  Q (a1) (a2) (a3) (a4) (h))
def w_X12_tour_54 (Q : Int32 → Hp → Prop) (a1 : Int32) (a2 : Int32) (a3 : Int32) (a4 : Int32) (s0 : Int32) (h : Hp) : Prop := ((s0) = 0 → w_X12_tour_66  Q (a1) (a2) (a3) (a4) (h)) ∧ (¬ (s0) = 0 → w_X12_tour_57  Q (a1) (a2) (a3) (a4) (h))
def w_X12_tour_46 (Q : Int32 → Hp → Prop) (a1 : Int32) (a2 : Int32) (a3 : Int32) (a4 : Int32) (h : Hp) : Prop := wp_X12_within (a4) ((0 : Int32)) ((7 : Int32)) (h) (fun r2 h2 => w_X12_tour_54  Q (a1) (a2) (a3) (a4) (r2) (h2))
def w_X12_tour_43 (Q : Int32 → Hp → Prop) (a1 : Int32) (a2 : Int32) (a3 : Int32) (a4 : Int32) (s0 : Int32) (h : Hp) : Prop := ((s0) = 0 → w_X12_tour_66  Q (a1) (a2) (a3) (a4) (h)) ∧ (¬ (s0) = 0 → w_X12_tour_46  Q (a1) (a2) (a3) (a4) (h))
def w_X12_tour_35 (Q : Int32 → Hp → Prop) (a1 : Int32) (a2 : Int32) (a3 : Int32) (a4 : Int32) (h : Hp) : Prop := wp_X12_within (a3) ((1 : Int32)) ((200 : Int32)) (h) (fun r2 h2 => w_X12_tour_43  Q (a1) (a2) (a3) (a4) (r2) (h2))
def w_X12_tour_32 (Q : Int32 → Hp → Prop) (a1 : Int32) (a2 : Int32) (a3 : Int32) (a4 : Int32) (s0 : Int32) (h : Hp) : Prop := ((s0) = 0 → w_X12_tour_66  Q (a1) (a2) (a3) (a4) (h)) ∧ (¬ (s0) = 0 → w_X12_tour_35  Q (a1) (a2) (a3) (a4) (h))
def w_X12_tour_24 (Q : Int32 → Hp → Prop) (a1 : Int32) (a2 : Int32) (a3 : Int32) (a4 : Int32) (h : Hp) : Prop := wp_X12_within (a2) ((1 : Int32)) ((300 : Int32)) (h) (fun r2 h2 => w_X12_tour_32  Q (a1) (a2) (a3) (a4) (r2) (h2))
def w_X12_tour_16 (Q : Int32 → Hp → Prop) (a1 : Int32) (a2 : Int32) (a3 : Int32) (a4 : Int32) (h : Hp) : Prop := ((a1) ≤ (gI (h) 12 (0) (24)) → w_X12_tour_66  Q (a1) (a2) (a3) (a4) (h)) ∧ (¬ (a1) ≤ (gI (h) 12 (0) (24)) → w_X12_tour_24  Q (a1) (a2) (a3) (a4) (h))
def w_X12_tour_13 (Q : Int32 → Hp → Prop) (a1 : Int32) (a2 : Int32) (a3 : Int32) (a4 : Int32) (s0 : Int32) (h : Hp) : Prop := ((s0) = 0 → w_X12_tour_66  Q (a1) (a2) (a3) (a4) (h)) ∧ (¬ (s0) = 0 → w_X12_tour_16  Q (a1) (a2) (a3) (a4) (h))
def w_X12_tour_0 (Q : Int32 → Hp → Prop) (a1 : Int32) (a2 : Int32) (a3 : Int32) (a4 : Int32) (h : Hp) : Prop := wp_X12_within (a1) ((1 : Int32)) ((719 : Int32)) (wI (h) 12 (0) 0 ((0 : Int32))) (fun r2 h2 => w_X12_tour_13  Q (a1) (a2) (a3) (a4) (r2) (h2))
theorem s_X12_tour_66 {E : EnvT} {d : Nat} (cx : CX E "ShoreDayModel" cX12_tour 5 (some .int) "tour" (d + 2) 0 0) (hY : eY E = lay1) {Q : Int32 → Hp → Prop} (eq : EQ E 0 0 (fun r h2 => ∃ x, r = [vI x] ∧ Q x h2)) {a1 : Int32} {a2 : Int32} {a3 : Int32} {a4 : Int32} {h : Hp} {c n : Nat} (hc : c + 0 ≤ 0) (hn : n + 0 ≤ 0) (w : w_X12_tour_66  Q a1 a2 a3 a4 h) : SW E 66 ([some (vP (some (12, 0))), some (vI (a1)), some (vI (a2)), some (vI (a3)), some (vI (a4))], [], h, c, n) := by
  exact k_X12_tour_66 cx hY eq (by omega) (by omega) ⟨_, rfl, w⟩
theorem s_X12_tour_108 {E : EnvT} {d : Nat} (cx : CX E "ShoreDayModel" cX12_tour 5 (some .int) "tour" (d + 2) 0 0) (hY : eY E = lay1) {Q : Int32 → Hp → Prop} (eq : EQ E 0 0 (fun r h2 => ∃ x, r = [vI x] ∧ Q x h2)) {a1 : Int32} {a2 : Int32} {a3 : Int32} {a4 : Int32} {s1 : Int32} {s2 : Int32} {h : Hp} {c n : Nat} (hc : c + 0 ≤ 0) (hn : n + 0 ≤ 0) (w : w_X12_tour_108  Q a1 a2 a3 a4 s1 s2 h) : SW E 108 ([some (vP (some (12, 0))), some (vI (a1)), some (vI (a2)), some (vI (a3)), some (vI (a4))], [vI (s2), vI (s1), vP (some (139, 0))], h, c, n) := by
  obtain ⟨G1, w⟩ := w
  exact k_X12_tour_108 cx hY G1 eq (by omega) (by omega) ⟨_, rfl, w⟩
theorem s_X12_tour_97 {E : EnvT} {d : Nat} (cx : CX E "ShoreDayModel" cX12_tour 5 (some .int) "tour" (d + 2) 0 0) (hY : eY E = lay1) {Q : Int32 → Hp → Prop} (eq : EQ E 0 0 (fun r h2 => ∃ x, r = [vI x] ∧ Q x h2)) {a1 : Int32} {a2 : Int32} {a3 : Int32} {a4 : Int32} {s1 : Int32} {s2 : Int32} {h : Hp} {c n : Nat} (hc : c + 0 ≤ 0) (hn : n + 0 ≤ 0) (w : w_X12_tour_97  Q a1 a2 a3 a4 s1 s2 h) : SW E 97 ([some (vP (some (12, 0))), some (vI (a1)), some (vI (a2)), some (vI (a3)), some (vI (a4))], [vI (s2), vI (s1), vP (some (138, 0))], h, c, n) := by
  obtain ⟨G1, w⟩ := w
  refine k_X12_tour_97 cx hY G1 ?_
  exact s_X12_tour_108 cx hY eq  (by omega) (by omega) w
theorem s_X12_tour_87 {E : EnvT} {d : Nat} (cx : CX E "ShoreDayModel" cX12_tour 5 (some .int) "tour" (d + 2) 0 0) (hY : eY E = lay1) {Q : Int32 → Hp → Prop} (eq : EQ E 0 0 (fun r h2 => ∃ x, r = [vI x] ∧ Q x h2)) {a1 : Int32} {a2 : Int32} {a3 : Int32} {a4 : Int32} {s1 : Int32} {s2 : Int32} {h : Hp} {c n : Nat} (hc : c + 0 ≤ 0) (hn : n + 0 ≤ 0) (w : w_X12_tour_87  Q a1 a2 a3 a4 s1 s2 h) : SW E 87 ([some (vP (some (12, 0))), some (vI (a1)), some (vI (a2)), some (vI (a3)), some (vI (a4))], [vI (s2), vI (s1), vP (some (137, 0))], h, c, n) := by
  obtain ⟨G1, w⟩ := w
  refine k_X12_tour_87 cx hY G1 ?_
  exact s_X12_tour_97 cx hY eq  (by omega) (by omega) w
theorem s_X12_tour_68 {E : EnvT} {d : Nat} (cx : CX E "ShoreDayModel" cX12_tour 5 (some .int) "tour" (d + 2) 0 0) (hY : eY E = lay1) {Q : Int32 → Hp → Prop} (eq : EQ E 0 0 (fun r h2 => ∃ x, r = [vI x] ∧ Q x h2)) {a1 : Int32} {a2 : Int32} {a3 : Int32} {a4 : Int32} {h : Hp} {c n : Nat} (hc : c + 0 ≤ 0) (hn : n + 0 ≤ 0) (w : w_X12_tour_68  Q a1 a2 a3 a4 h) : SW E 68 ([some (vP (some (12, 0))), some (vI (a1)), some (vI (a2)), some (vI (a3)), some (vI (a4))], [], h, c, n) := by
  obtain ⟨G1, w⟩ := w
  refine k_X12_tour_68 cx hY G1 ?_
  exact s_X12_tour_87 cx hY eq  (by omega) (by omega) w
theorem s_X12_tour_57 {E : EnvT} {d : Nat} (cx : CX E "ShoreDayModel" cX12_tour 5 (some .int) "tour" (d + 2) 0 0) (hY : eY E = lay1) {Q : Int32 → Hp → Prop} (eq : EQ E 0 0 (fun r h2 => ∃ x, r = [vI x] ∧ Q x h2)) {a1 : Int32} {a2 : Int32} {a3 : Int32} {a4 : Int32} {h : Hp} {c n : Nat} (hc : c + 0 ≤ 0) (hn : n + 0 ≤ 0) (w : w_X12_tour_57  Q a1 a2 a3 a4 h) : SW E 57 ([some (vP (some (12, 0))), some (vI (a1)), some (vI (a2)), some (vI (a3)), some (vI (a4))], [], h, c, n) := by
  refine k_X12_tour_57 cx hY (fun q => ?_) (fun q => ?_)
  · have w := w.1 q
    exact s_X12_tour_68 cx hY eq  (by omega) (by omega) w
  · have w := w.2 q
    exact s_X12_tour_66 cx hY eq  (by omega) (by omega) w
theorem s_X12_tour_54 {E : EnvT} {d : Nat} (cx : CX E "ShoreDayModel" cX12_tour 5 (some .int) "tour" (d + 2) 0 0) (hY : eY E = lay1) {Q : Int32 → Hp → Prop} (eq : EQ E 0 0 (fun r h2 => ∃ x, r = [vI x] ∧ Q x h2)) {a1 : Int32} {a2 : Int32} {a3 : Int32} {a4 : Int32} {s0 : Int32} {h : Hp} {c n : Nat} (hc : c + 0 ≤ 0) (hn : n + 0 ≤ 0) (w : w_X12_tour_54  Q a1 a2 a3 a4 s0 h) : SW E 54 ([some (vP (some (12, 0))), some (vI (a1)), some (vI (a2)), some (vI (a3)), some (vI (a4))], [vI (s0)], h, c, n) := by
  refine k_X12_tour_54 cx hY (fun q => ?_) (fun q => ?_)
  · have w := w.1 q
    exact s_X12_tour_66 cx hY eq  (by omega) (by omega) w
  · have w := w.2 q
    exact s_X12_tour_57 cx hY eq  (by omega) (by omega) w
theorem s_X12_tour_46 {E : EnvT} {d : Nat} (cx : CX E "ShoreDayModel" cX12_tour 5 (some .int) "tour" (d + 2) 0 0) (hY : eY E = lay1) {Q : Int32 → Hp → Prop} (eq : EQ E 0 0 (fun r h2 => ∃ x, r = [vI x] ∧ Q x h2)) {a1 : Int32} {a2 : Int32} {a3 : Int32} {a4 : Int32} {h : Hp} {c n : Nat} (hc : c + 0 ≤ 0) (hn : n + 0 ≤ 0) (w : w_X12_tour_46  Q a1 a2 a3 a4 h) : SW E 46 ([some (vP (some (12, 0))), some (vI (a1)), some (vI (a2)), some (vI (a3)), some (vI (a4))], [], h, c, n) := by
  refine k_X12_tour_46 cx hY (ctY hY (vc_X12_within (d := d + 0) w)) (by omega) (by omega) (by omega) (fun r h2 hp => ?_)
  obtain ⟨r2, rfl, w⟩ := hp
  exact s_X12_tour_54 cx hY eq  (by omega) (by omega) w
theorem s_X12_tour_43 {E : EnvT} {d : Nat} (cx : CX E "ShoreDayModel" cX12_tour 5 (some .int) "tour" (d + 2) 0 0) (hY : eY E = lay1) {Q : Int32 → Hp → Prop} (eq : EQ E 0 0 (fun r h2 => ∃ x, r = [vI x] ∧ Q x h2)) {a1 : Int32} {a2 : Int32} {a3 : Int32} {a4 : Int32} {s0 : Int32} {h : Hp} {c n : Nat} (hc : c + 0 ≤ 0) (hn : n + 0 ≤ 0) (w : w_X12_tour_43  Q a1 a2 a3 a4 s0 h) : SW E 43 ([some (vP (some (12, 0))), some (vI (a1)), some (vI (a2)), some (vI (a3)), some (vI (a4))], [vI (s0)], h, c, n) := by
  refine k_X12_tour_43 cx hY (fun q => ?_) (fun q => ?_)
  · have w := w.1 q
    exact s_X12_tour_66 cx hY eq  (by omega) (by omega) w
  · have w := w.2 q
    exact s_X12_tour_46 cx hY eq  (by omega) (by omega) w
theorem s_X12_tour_35 {E : EnvT} {d : Nat} (cx : CX E "ShoreDayModel" cX12_tour 5 (some .int) "tour" (d + 2) 0 0) (hY : eY E = lay1) {Q : Int32 → Hp → Prop} (eq : EQ E 0 0 (fun r h2 => ∃ x, r = [vI x] ∧ Q x h2)) {a1 : Int32} {a2 : Int32} {a3 : Int32} {a4 : Int32} {h : Hp} {c n : Nat} (hc : c + 0 ≤ 0) (hn : n + 0 ≤ 0) (w : w_X12_tour_35  Q a1 a2 a3 a4 h) : SW E 35 ([some (vP (some (12, 0))), some (vI (a1)), some (vI (a2)), some (vI (a3)), some (vI (a4))], [], h, c, n) := by
  refine k_X12_tour_35 cx hY (ctY hY (vc_X12_within (d := d + 0) w)) (by omega) (by omega) (by omega) (fun r h2 hp => ?_)
  obtain ⟨r2, rfl, w⟩ := hp
  exact s_X12_tour_43 cx hY eq  (by omega) (by omega) w
theorem s_X12_tour_32 {E : EnvT} {d : Nat} (cx : CX E "ShoreDayModel" cX12_tour 5 (some .int) "tour" (d + 2) 0 0) (hY : eY E = lay1) {Q : Int32 → Hp → Prop} (eq : EQ E 0 0 (fun r h2 => ∃ x, r = [vI x] ∧ Q x h2)) {a1 : Int32} {a2 : Int32} {a3 : Int32} {a4 : Int32} {s0 : Int32} {h : Hp} {c n : Nat} (hc : c + 0 ≤ 0) (hn : n + 0 ≤ 0) (w : w_X12_tour_32  Q a1 a2 a3 a4 s0 h) : SW E 32 ([some (vP (some (12, 0))), some (vI (a1)), some (vI (a2)), some (vI (a3)), some (vI (a4))], [vI (s0)], h, c, n) := by
  refine k_X12_tour_32 cx hY (fun q => ?_) (fun q => ?_)
  · have w := w.1 q
    exact s_X12_tour_66 cx hY eq  (by omega) (by omega) w
  · have w := w.2 q
    exact s_X12_tour_35 cx hY eq  (by omega) (by omega) w
theorem s_X12_tour_24 {E : EnvT} {d : Nat} (cx : CX E "ShoreDayModel" cX12_tour 5 (some .int) "tour" (d + 2) 0 0) (hY : eY E = lay1) {Q : Int32 → Hp → Prop} (eq : EQ E 0 0 (fun r h2 => ∃ x, r = [vI x] ∧ Q x h2)) {a1 : Int32} {a2 : Int32} {a3 : Int32} {a4 : Int32} {h : Hp} {c n : Nat} (hc : c + 0 ≤ 0) (hn : n + 0 ≤ 0) (w : w_X12_tour_24  Q a1 a2 a3 a4 h) : SW E 24 ([some (vP (some (12, 0))), some (vI (a1)), some (vI (a2)), some (vI (a3)), some (vI (a4))], [], h, c, n) := by
  refine k_X12_tour_24 cx hY (ctY hY (vc_X12_within (d := d + 0) w)) (by omega) (by omega) (by omega) (fun r h2 hp => ?_)
  obtain ⟨r2, rfl, w⟩ := hp
  exact s_X12_tour_32 cx hY eq  (by omega) (by omega) w
theorem s_X12_tour_16 {E : EnvT} {d : Nat} (cx : CX E "ShoreDayModel" cX12_tour 5 (some .int) "tour" (d + 2) 0 0) (hY : eY E = lay1) {Q : Int32 → Hp → Prop} (eq : EQ E 0 0 (fun r h2 => ∃ x, r = [vI x] ∧ Q x h2)) {a1 : Int32} {a2 : Int32} {a3 : Int32} {a4 : Int32} {h : Hp} {c n : Nat} (hc : c + 0 ≤ 0) (hn : n + 0 ≤ 0) (w : w_X12_tour_16  Q a1 a2 a3 a4 h) : SW E 16 ([some (vP (some (12, 0))), some (vI (a1)), some (vI (a2)), some (vI (a3)), some (vI (a4))], [], h, c, n) := by
  refine k_X12_tour_16 cx hY (fun q => ?_) (fun q => ?_)
  · have w := w.1 q
    exact s_X12_tour_66 cx hY eq  (by omega) (by omega) w
  · have w := w.2 q
    exact s_X12_tour_24 cx hY eq  (by omega) (by omega) w
theorem s_X12_tour_13 {E : EnvT} {d : Nat} (cx : CX E "ShoreDayModel" cX12_tour 5 (some .int) "tour" (d + 2) 0 0) (hY : eY E = lay1) {Q : Int32 → Hp → Prop} (eq : EQ E 0 0 (fun r h2 => ∃ x, r = [vI x] ∧ Q x h2)) {a1 : Int32} {a2 : Int32} {a3 : Int32} {a4 : Int32} {s0 : Int32} {h : Hp} {c n : Nat} (hc : c + 0 ≤ 0) (hn : n + 0 ≤ 0) (w : w_X12_tour_13  Q a1 a2 a3 a4 s0 h) : SW E 13 ([some (vP (some (12, 0))), some (vI (a1)), some (vI (a2)), some (vI (a3)), some (vI (a4))], [vI (s0)], h, c, n) := by
  refine k_X12_tour_13 cx hY (fun q => ?_) (fun q => ?_)
  · have w := w.1 q
    exact s_X12_tour_66 cx hY eq  (by omega) (by omega) w
  · have w := w.2 q
    exact s_X12_tour_16 cx hY eq  (by omega) (by omega) w
theorem s_X12_tour_0 {E : EnvT} {d : Nat} (cx : CX E "ShoreDayModel" cX12_tour 5 (some .int) "tour" (d + 2) 0 0) (hY : eY E = lay1) {Q : Int32 → Hp → Prop} (eq : EQ E 0 0 (fun r h2 => ∃ x, r = [vI x] ∧ Q x h2)) {a1 : Int32} {a2 : Int32} {a3 : Int32} {a4 : Int32} {h : Hp} {c n : Nat} (hc : c + 0 ≤ 0) (hn : n + 0 ≤ 0) (w : w_X12_tour_0  Q a1 a2 a3 a4 h) : SW E 0 ([some (vP (some (12, 0))), some (vI (a1)), some (vI (a2)), some (vI (a3)), some (vI (a4))], [], h, c, n) := by
  refine k_X12_tour_0 cx hY (ctY hY (vc_X12_within (d := d + 0) w)) (by omega) (by omega) (by omega) (fun r h2 hp => ?_)
  obtain ⟨r2, rfl, w⟩ := hp
  exact s_X12_tour_13 cx hY eq  (by omega) (by omega) w
def wp_X12_tour (a1 : Int32) (a2 : Int32) (a3 : Int32) (a4 : Int32) (h : Hp) (Q : Int32 → Hp → Prop) : Prop := w_X12_tour_0 Q a1 a2 a3 a4 h
theorem vc_X12_tour {l : Launch} {d : Nat} {a1 : Int32} {a2 : Int32} {a3 : Int32} {a4 : Int32} {h : Hp} {Q : Int32 → Hp → Prop} (w : wp_X12_tour a1 a2 a3 a4 h Q) : Ct l lay1 yX12_tour cX12_tour 5 (some .int) (d + 2) 0 0 [vP (some (12, 0)), vI a1, vI a2, vI a3, vI a4] h (fun r h2 => ∃ x, r = [vI x] ∧ Q x h2) := by
  exact Ct.of (by decide) (Nat.le_of_ble_eq_true rfl) fun E cx eq hl hY => s_X12_tour_0 cx hY eq (Nat.le_refl _) (Nat.le_refl _) w
def w_X12_group_100 (Q : Int32 → Hp → Prop) (a1 : Int32) (a2 : Int32) (a3 : Int32) (a4 : Int32) (a5 : Int32) (a6 : Int32) (a7 : Int32) (h : Hp) : Prop := Q ((-1 : Int32)) (h)
def w_X12_group_225 (Q : Int32 → Hp → Prop) (a1 : Int32) (a2 : Int32) (a3 : Int32) (a4 : Int32) (a5 : Int32) (a6 : Int32) (a7 : Int32) (s1 : Int32) (s2 : Int32) (h : Hp) : Prop := vp_in (s1) 60 ∧ (Q ((gI (wI (wI (h) 154 (0) (tN (s1)) (s2)) 12 (0) 41 ((gI (wI (h) 154 (0) (tN (s1)) (s2)) 12 (0) (41)) + ((1 : Int32)))) 12 (0) (41)) - ((1 : Int32))) (wI (wI (h) 154 (0) (tN (s1)) (s2)) 12 (0) 41 ((gI (wI (h) 154 (0) (tN (s1)) (s2)) 12 (0) (41)) + ((1 : Int32)))))
def w_X12_group_215 (Q : Int32 → Hp → Prop) (a1 : Int32) (a2 : Int32) (a3 : Int32) (a4 : Int32) (a5 : Int32) (a6 : Int32) (a7 : Int32) (s1 : Int32) (s2 : Int32) (h : Hp) : Prop := vp_in (s1) 60 ∧ (w_X12_group_225  Q (a1) (a2) (a3) (a4) (a5) (a6) (a7) (gI (wI (h) 152 (0) (tN (s1)) (s2)) 12 (0) (41)) ((-1 : Int32)) (wI (h) 152 (0) (tN (s1)) (s2)))
def w_X12_group_205 (Q : Int32 → Hp → Prop) (a1 : Int32) (a2 : Int32) (a3 : Int32) (a4 : Int32) (a5 : Int32) (a6 : Int32) (a7 : Int32) (s1 : Int32) (s2 : Int32) (h : Hp) : Prop := vp_in (s1) 60 ∧ (w_X12_group_215  Q (a1) (a2) (a3) (a4) (a5) (a6) (a7) (gI (wI (h) 151 (0) (tN (s1)) (s2)) 12 (0) (41)) ((-1 : Int32)) (wI (h) 151 (0) (tN (s1)) (s2)))
def w_X12_group_195 (Q : Int32 → Hp → Prop) (a1 : Int32) (a2 : Int32) (a3 : Int32) (a4 : Int32) (a5 : Int32) (a6 : Int32) (a7 : Int32) (s1 : Int32) (s2 : Int32) (h : Hp) : Prop := vp_in (s1) 60 ∧ (w_X12_group_205  Q (a1) (a2) (a3) (a4) (a5) (a6) (a7) (gI (wI (h) 149 (0) (tN (s1)) (s2)) 12 (0) (41)) ((-1 : Int32)) (wI (h) 149 (0) (tN (s1)) (s2)))
def w_X12_group_185 (Q : Int32 → Hp → Prop) (a1 : Int32) (a2 : Int32) (a3 : Int32) (a4 : Int32) (a5 : Int32) (a6 : Int32) (a7 : Int32) (s1 : Int32) (s2 : Int32) (h : Hp) : Prop := vp_in (s1) 60 ∧ (w_X12_group_195  Q (a1) (a2) (a3) (a4) (a5) (a6) (a7) (gI (wI (h) 148 (0) (tN (s1)) (s2)) 12 (0) (41)) ((-1 : Int32)) (wI (h) 148 (0) (tN (s1)) (s2)))
def w_X12_group_175 (Q : Int32 → Hp → Prop) (a1 : Int32) (a2 : Int32) (a3 : Int32) (a4 : Int32) (a5 : Int32) (a6 : Int32) (a7 : Int32) (s1 : Int32) (s2 : Int32) (h : Hp) : Prop := vp_in (s1) 60 ∧ (w_X12_group_185  Q (a1) (a2) (a3) (a4) (a5) (a6) (a7) (gI (wI (h) 147 (0) (tN (s1)) (s2)) 12 (0) (41)) ((0 : Int32)) (wI (h) 147 (0) (tN (s1)) (s2)))
def w_X12_group_173 (Q : Int32 → Hp → Prop) (a1 : Int32) (a2 : Int32) (a3 : Int32) (a4 : Int32) (a5 : Int32) (a6 : Int32) (a7 : Int32) (s1 : Int32) (h : Hp) : Prop := w_X12_group_175  Q (a1) (a2) (a3) (a4) (a5) (a6) (a7) (s1) ((60 : Int32)) (h)
def w_X12_group_168 (Q : Int32 → Hp → Prop) (a1 : Int32) (a2 : Int32) (a3 : Int32) (a4 : Int32) (a5 : Int32) (a6 : Int32) (a7 : Int32) (s1 : Int32) (h : Hp) : Prop := w_X12_group_175  Q (a1) (a2) (a3) (a4) (a5) (a6) (a7) (s1) (a6) (h)
def w_X12_group_153 (Q : Int32 → Hp → Prop) (a1 : Int32) (a2 : Int32) (a3 : Int32) (a4 : Int32) (a5 : Int32) (a6 : Int32) (a7 : Int32) (s1 : Int32) (s2 : Int32) (h : Hp) : Prop := vp_in (s1) 60 ∧ ((¬ (a5) = ((-1 : Int32)) → w_X12_group_173  Q (a1) (a2) (a3) (a4) (a5) (a6) (a7) (gI (wI (h) 146 (0) (tN (s1)) (s2)) 12 (0) (41)) (wI (h) 146 (0) (tN (s1)) (s2))) ∧ ((a5) = ((-1 : Int32)) → w_X12_group_168  Q (a1) (a2) (a3) (a4) (a5) (a6) (a7) (gI (wI (h) 146 (0) (tN (s1)) (s2)) 12 (0) (41)) (wI (h) 146 (0) (tN (s1)) (s2))))
def w_X12_group_142 (Q : Int32 → Hp → Prop) (a1 : Int32) (a2 : Int32) (a3 : Int32) (a4 : Int32) (a5 : Int32) (a6 : Int32) (a7 : Int32) (s1 : Int32) (s2 : Int32) (h : Hp) : Prop := vp_in (s1) 60 ∧ (w_X12_group_153  Q (a1) (a2) (a3) (a4) (a5) (a6) (a7) (gI (wI (h) 145 (0) (tN (s1)) (s2)) 12 (0) (41)) (a5) (wI (h) 145 (0) (tN (s1)) (s2)))
def w_X12_group_131 (Q : Int32 → Hp → Prop) (a1 : Int32) (a2 : Int32) (a3 : Int32) (a4 : Int32) (a5 : Int32) (a6 : Int32) (a7 : Int32) (s1 : Int32) (s2 : Int32) (h : Hp) : Prop := vp_in (s1) 60 ∧ (w_X12_group_142  Q (a1) (a2) (a3) (a4) (a5) (a6) (a7) (gI (wI (h) 144 (0) (tN (s1)) (s2)) 12 (0) (41)) (a4) (wI (h) 144 (0) (tN (s1)) (s2)))
def w_X12_group_121 (Q : Int32 → Hp → Prop) (a1 : Int32) (a2 : Int32) (a3 : Int32) (a4 : Int32) (a5 : Int32) (a6 : Int32) (a7 : Int32) (s1 : Int32) (s2 : Int32) (h : Hp) : Prop := vp_in (s1) 60 ∧ (w_X12_group_131  Q (a1) (a2) (a3) (a4) (a5) (a6) (a7) (gI (wI (h) 143 (0) (tN (s1)) (s2)) 12 (0) (41)) (a3) (wI (h) 143 (0) (tN (s1)) (s2)))
def w_X12_group_102 (Q : Int32 → Hp → Prop) (a1 : Int32) (a2 : Int32) (a3 : Int32) (a4 : Int32) (a5 : Int32) (a6 : Int32) (a7 : Int32) (h : Hp) : Prop := vp_in (gI (h) 12 (0) (41)) 60 ∧ (w_X12_group_121  Q (a1) (a2) (a3) (a4) (a5) (a6) (a7) (gI (wI (h) 142 (0) (tN (gI (h) 12 (0) (41))) (a1)) 12 (0) (41)) (a2) (wI (h) 142 (0) (tN (gI (h) 12 (0) (41))) (a1)))
def w_X12_group_97 (Q : Int32 → Hp → Prop) (a1 : Int32) (a2 : Int32) (a3 : Int32) (a4 : Int32) (a5 : Int32) (a6 : Int32) (a7 : Int32) (s0 : Int32) (h : Hp) : Prop := (¬ (s0) = 0 → w_X12_group_102  Q (a1) (a2) (a3) (a4) (a5) (a6) (a7) (h)) ∧ ((s0) = 0 → w_X12_group_100  Q (a1) (a2) (a3) (a4) (a5) (a6) (a7) (h))
def w_X12_group_88 (Q : Int32 → Hp → Prop) (a1 : Int32) (a2 : Int32) (a3 : Int32) (a4 : Int32) (a5 : Int32) (a6 : Int32) (a7 : Int32) (h : Hp) : Prop := wp_X12_within (a6) ((1 : Int32)) ((600 : Int32)) (h) (fun r2 h2 => w_X12_group_97  Q (a1) (a2) (a3) (a4) (a5) (a6) (a7) (r2) (h2))
def w_X12_group_82 (Q : Int32 → Hp → Prop) (a1 : Int32) (a2 : Int32) (a3 : Int32) (a4 : Int32) (a5 : Int32) (a6 : Int32) (a7 : Int32) (h : Hp) : Prop := (¬ (a5) = ((-1 : Int32)) → w_X12_group_102  Q (a1) (a2) (a3) (a4) (a5) (a6) (a7) (h)) ∧ ((a5) = ((-1 : Int32)) → w_X12_group_88  Q (a1) (a2) (a3) (a4) (a5) (a6) (a7) (h))
def w_X12_group_73 (Q : Int32 → Hp → Prop) (a1 : Int32) (a2 : Int32) (a3 : Int32) (a4 : Int32) (a5 : Int32) (a6 : Int32) (a7 : Int32) (h : Hp) : Prop := ((gI (h) 12 (0) (35)) ≤ (a5) → w_X12_group_100  Q (a1) (a2) (a3) (a4) (a5) (a6) (a7) (h)) ∧ (¬ (gI (h) 12 (0) (35)) ≤ (a5) → w_X12_group_82  Q (a1) (a2) (a3) (a4) (a5) (a6) (a7) (h))
def w_X12_group_67 (Q : Int32 → Hp → Prop) (a1 : Int32) (a2 : Int32) (a3 : Int32) (a4 : Int32) (a5 : Int32) (a6 : Int32) (a7 : Int32) (h : Hp) : Prop := ((a5) < ((-1 : Int32)) → w_X12_group_100  Q (a1) (a2) (a3) (a4) (a5) (a6) (a7) (h)) ∧ (¬ (a5) < ((-1 : Int32)) → w_X12_group_73  Q (a1) (a2) (a3) (a4) (a5) (a6) (a7) (h))
def w_X12_group_60 (Q : Int32 → Hp → Prop) (a1 : Int32) (a2 : Int32) (a3 : Int32) (a4 : Int32) (a5 : Int32) (a6 : Int32) (s0 : Int32) (h : Hp) : Prop := ((s0) = 0 → w_X12_group_100  Q (a1) (a2) (a3) (a4) (a5) (a6) (s0) (h)) ∧ (¬ (s0) = 0 → w_X12_group_67  Q (a1) (a2) (a3) (a4) (a5) (a6) (s0) (h))
def w_X12_group_59 (Q : Int32 → Hp → Prop) (a1 : Int32) (a2 : Int32) (a3 : Int32) (a4 : Int32) (a5 : Int32) (a6 : Int32) (h : Hp) : Prop := w_X12_group_60  Q (a1) (a2) (a3) (a4) (a5) (a6) ((0 : Int32)) (h)
def w_X12_group_55 (Q : Int32 → Hp → Prop) (a1 : Int32) (a2 : Int32) (a3 : Int32) (a4 : Int32) (a5 : Int32) (a6 : Int32) (h : Hp) : Prop := w_X12_group_60  Q (a1) (a2) (a3) (a4) (a5) (a6) ((1 : Int32)) (h)
def w_X12_group_46 (Q : Int32 → Hp → Prop) (a1 : Int32) (a2 : Int32) (a3 : Int32) (a4 : Int32) (a5 : Int32) (a6 : Int32) (h : Hp) : Prop := (((60 : Int32)) ≤ (gI (h) 12 (0) (41)) → w_X12_group_59  Q (a1) (a2) (a3) (a4) (a5) (a6) (h)) ∧ (¬ ((60 : Int32)) ≤ (gI (h) 12 (0) (41)) → w_X12_group_55  Q (a1) (a2) (a3) (a4) (a5) (a6) (h))
def w_X12_group_43 (Q : Int32 → Hp → Prop) (a1 : Int32) (a2 : Int32) (a3 : Int32) (a4 : Int32) (a5 : Int32) (a6 : Int32) (s0 : Int32) (h : Hp) : Prop := ((s0) = 0 → w_X12_group_59  Q (a1) (a2) (a3) (a4) (a5) (a6) (h)) ∧ (¬ (s0) = 0 → w_X12_group_46  Q (a1) (a2) (a3) (a4) (a5) (a6) (h))
def w_X12_group_34 (Q : Int32 → Hp → Prop) (a1 : Int32) (a2 : Int32) (a3 : Int32) (a4 : Int32) (a5 : Int32) (a6 : Int32) (h : Hp) : Prop := wp_X12_within (a4) ((0 : Int32)) ((719 : Int32)) (h) (fun r2 h2 => w_X12_group_43  Q (a1) (a2) (a3) (a4) (a5) (a6) (r2) (h2))
def w_X12_group_31 (Q : Int32 → Hp → Prop) (a1 : Int32) (a2 : Int32) (a3 : Int32) (a4 : Int32) (a5 : Int32) (a6 : Int32) (s0 : Int32) (h : Hp) : Prop := ((s0) = 0 → w_X12_group_59  Q (a1) (a2) (a3) (a4) (a5) (a6) (h)) ∧ (¬ (s0) = 0 → w_X12_group_34  Q (a1) (a2) (a3) (a4) (a5) (a6) (h))
def w_X12_group_23 (Q : Int32 → Hp → Prop) (a1 : Int32) (a2 : Int32) (a3 : Int32) (a4 : Int32) (a5 : Int32) (a6 : Int32) (h : Hp) : Prop := wp_X12_within (a3) ((0 : Int32)) ((999 : Int32)) (h) (fun r2 h2 => w_X12_group_31  Q (a1) (a2) (a3) (a4) (a5) (a6) (r2) (h2))
def w_X12_group_20 (Q : Int32 → Hp → Prop) (a1 : Int32) (a2 : Int32) (a3 : Int32) (a4 : Int32) (a5 : Int32) (a6 : Int32) (s0 : Int32) (h : Hp) : Prop := ((s0) = 0 → w_X12_group_59  Q (a1) (a2) (a3) (a4) (a5) (a6) (h)) ∧ (¬ (s0) = 0 → w_X12_group_23  Q (a1) (a2) (a3) (a4) (a5) (a6) (h))
def w_X12_group_13 (Q : Int32 → Hp → Prop) (a1 : Int32) (a2 : Int32) (a3 : Int32) (a4 : Int32) (a5 : Int32) (a6 : Int32) (h : Hp) : Prop := wp_X12_within (a2) ((1 : Int32)) ((60 : Int32)) (h) (fun r2 h2 => w_X12_group_20  Q (a1) (a2) (a3) (a4) (a5) (a6) (r2) (h2))
def w_X12_group_10 (Q : Int32 → Hp → Prop) (a1 : Int32) (a2 : Int32) (a3 : Int32) (a4 : Int32) (a5 : Int32) (a6 : Int32) (s0 : Int32) (h : Hp) : Prop := ((s0) = 0 → w_X12_group_59  Q (a1) (a2) (a3) (a4) (a5) (a6) (h)) ∧ (¬ (s0) = 0 → w_X12_group_13  Q (a1) (a2) (a3) (a4) (a5) (a6) (h))
def w_X12_group_0 (Q : Int32 → Hp → Prop) (a1 : Int32) (a2 : Int32) (a3 : Int32) (a4 : Int32) (a5 : Int32) (a6 : Int32) (h : Hp) : Prop := wp_X12_isShip (a1) (wI (h) 12 (0) 0 ((0 : Int32))) (fun r2 h2 => w_X12_group_10  Q (a1) (a2) (a3) (a4) (a5) (a6) (r2) (h2))
theorem s_X12_group_100 {E : EnvT} {d : Nat} (cx : CX E "ShoreDayModel" cX12_group 8 (some .int) "group" (d + 2) 0 0) (hY : eY E = lay1) {Q : Int32 → Hp → Prop} (eq : EQ E 0 0 (fun r h2 => ∃ x, r = [vI x] ∧ Q x h2)) {a1 : Int32} {a2 : Int32} {a3 : Int32} {a4 : Int32} {a5 : Int32} {a6 : Int32} {a7 : Int32} {h : Hp} {c n : Nat} (hc : c + 0 ≤ 0) (hn : n + 0 ≤ 0) (w : w_X12_group_100  Q a1 a2 a3 a4 a5 a6 a7 h) : SW E 100 ([some (vP (some (12, 0))), some (vI (a1)), some (vI (a2)), some (vI (a3)), some (vI (a4)), some (vI (a5)), some (vI (a6)), some (vI (a7))], [], h, c, n) := by
  exact k_X12_group_100 cx hY eq (by omega) (by omega) ⟨_, rfl, w⟩
theorem s_X12_group_225 {E : EnvT} {d : Nat} (cx : CX E "ShoreDayModel" cX12_group 8 (some .int) "group" (d + 2) 0 0) (hY : eY E = lay1) {Q : Int32 → Hp → Prop} (eq : EQ E 0 0 (fun r h2 => ∃ x, r = [vI x] ∧ Q x h2)) {a1 : Int32} {a2 : Int32} {a3 : Int32} {a4 : Int32} {a5 : Int32} {a6 : Int32} {a7 : Int32} {s1 : Int32} {s2 : Int32} {h : Hp} {c n : Nat} (hc : c + 0 ≤ 0) (hn : n + 0 ≤ 0) (w : w_X12_group_225  Q a1 a2 a3 a4 a5 a6 a7 s1 s2 h) : SW E 225 ([some (vP (some (12, 0))), some (vI (a1)), some (vI (a2)), some (vI (a3)), some (vI (a4)), some (vI (a5)), some (vI (a6)), some (vI (a7))], [vI (s2), vI (s1), vP (some (154, 0))], h, c, n) := by
  obtain ⟨G1, w⟩ := w
  exact k_X12_group_225 cx hY G1 eq (by omega) (by omega) ⟨_, rfl, w⟩
theorem s_X12_group_215 {E : EnvT} {d : Nat} (cx : CX E "ShoreDayModel" cX12_group 8 (some .int) "group" (d + 2) 0 0) (hY : eY E = lay1) {Q : Int32 → Hp → Prop} (eq : EQ E 0 0 (fun r h2 => ∃ x, r = [vI x] ∧ Q x h2)) {a1 : Int32} {a2 : Int32} {a3 : Int32} {a4 : Int32} {a5 : Int32} {a6 : Int32} {a7 : Int32} {s1 : Int32} {s2 : Int32} {h : Hp} {c n : Nat} (hc : c + 0 ≤ 0) (hn : n + 0 ≤ 0) (w : w_X12_group_215  Q a1 a2 a3 a4 a5 a6 a7 s1 s2 h) : SW E 215 ([some (vP (some (12, 0))), some (vI (a1)), some (vI (a2)), some (vI (a3)), some (vI (a4)), some (vI (a5)), some (vI (a6)), some (vI (a7))], [vI (s2), vI (s1), vP (some (152, 0))], h, c, n) := by
  obtain ⟨G1, w⟩ := w
  refine k_X12_group_215 cx hY G1 ?_
  exact s_X12_group_225 cx hY eq  (by omega) (by omega) w
theorem s_X12_group_205 {E : EnvT} {d : Nat} (cx : CX E "ShoreDayModel" cX12_group 8 (some .int) "group" (d + 2) 0 0) (hY : eY E = lay1) {Q : Int32 → Hp → Prop} (eq : EQ E 0 0 (fun r h2 => ∃ x, r = [vI x] ∧ Q x h2)) {a1 : Int32} {a2 : Int32} {a3 : Int32} {a4 : Int32} {a5 : Int32} {a6 : Int32} {a7 : Int32} {s1 : Int32} {s2 : Int32} {h : Hp} {c n : Nat} (hc : c + 0 ≤ 0) (hn : n + 0 ≤ 0) (w : w_X12_group_205  Q a1 a2 a3 a4 a5 a6 a7 s1 s2 h) : SW E 205 ([some (vP (some (12, 0))), some (vI (a1)), some (vI (a2)), some (vI (a3)), some (vI (a4)), some (vI (a5)), some (vI (a6)), some (vI (a7))], [vI (s2), vI (s1), vP (some (151, 0))], h, c, n) := by
  obtain ⟨G1, w⟩ := w
  refine k_X12_group_205 cx hY G1 ?_
  exact s_X12_group_215 cx hY eq  (by omega) (by omega) w
theorem s_X12_group_195 {E : EnvT} {d : Nat} (cx : CX E "ShoreDayModel" cX12_group 8 (some .int) "group" (d + 2) 0 0) (hY : eY E = lay1) {Q : Int32 → Hp → Prop} (eq : EQ E 0 0 (fun r h2 => ∃ x, r = [vI x] ∧ Q x h2)) {a1 : Int32} {a2 : Int32} {a3 : Int32} {a4 : Int32} {a5 : Int32} {a6 : Int32} {a7 : Int32} {s1 : Int32} {s2 : Int32} {h : Hp} {c n : Nat} (hc : c + 0 ≤ 0) (hn : n + 0 ≤ 0) (w : w_X12_group_195  Q a1 a2 a3 a4 a5 a6 a7 s1 s2 h) : SW E 195 ([some (vP (some (12, 0))), some (vI (a1)), some (vI (a2)), some (vI (a3)), some (vI (a4)), some (vI (a5)), some (vI (a6)), some (vI (a7))], [vI (s2), vI (s1), vP (some (149, 0))], h, c, n) := by
  obtain ⟨G1, w⟩ := w
  refine k_X12_group_195 cx hY G1 ?_
  exact s_X12_group_205 cx hY eq  (by omega) (by omega) w
theorem s_X12_group_185 {E : EnvT} {d : Nat} (cx : CX E "ShoreDayModel" cX12_group 8 (some .int) "group" (d + 2) 0 0) (hY : eY E = lay1) {Q : Int32 → Hp → Prop} (eq : EQ E 0 0 (fun r h2 => ∃ x, r = [vI x] ∧ Q x h2)) {a1 : Int32} {a2 : Int32} {a3 : Int32} {a4 : Int32} {a5 : Int32} {a6 : Int32} {a7 : Int32} {s1 : Int32} {s2 : Int32} {h : Hp} {c n : Nat} (hc : c + 0 ≤ 0) (hn : n + 0 ≤ 0) (w : w_X12_group_185  Q a1 a2 a3 a4 a5 a6 a7 s1 s2 h) : SW E 185 ([some (vP (some (12, 0))), some (vI (a1)), some (vI (a2)), some (vI (a3)), some (vI (a4)), some (vI (a5)), some (vI (a6)), some (vI (a7))], [vI (s2), vI (s1), vP (some (148, 0))], h, c, n) := by
  obtain ⟨G1, w⟩ := w
  refine k_X12_group_185 cx hY G1 ?_
  exact s_X12_group_195 cx hY eq  (by omega) (by omega) w
theorem s_X12_group_175 {E : EnvT} {d : Nat} (cx : CX E "ShoreDayModel" cX12_group 8 (some .int) "group" (d + 2) 0 0) (hY : eY E = lay1) {Q : Int32 → Hp → Prop} (eq : EQ E 0 0 (fun r h2 => ∃ x, r = [vI x] ∧ Q x h2)) {a1 : Int32} {a2 : Int32} {a3 : Int32} {a4 : Int32} {a5 : Int32} {a6 : Int32} {a7 : Int32} {s1 : Int32} {s2 : Int32} {h : Hp} {c n : Nat} (hc : c + 0 ≤ 0) (hn : n + 0 ≤ 0) (w : w_X12_group_175  Q a1 a2 a3 a4 a5 a6 a7 s1 s2 h) : SW E 175 ([some (vP (some (12, 0))), some (vI (a1)), some (vI (a2)), some (vI (a3)), some (vI (a4)), some (vI (a5)), some (vI (a6)), some (vI (a7))], [vI (s2), vI (s1), vP (some (147, 0))], h, c, n) := by
  obtain ⟨G1, w⟩ := w
  refine k_X12_group_175 cx hY G1 ?_
  exact s_X12_group_185 cx hY eq  (by omega) (by omega) w
theorem s_X12_group_173 {E : EnvT} {d : Nat} (cx : CX E "ShoreDayModel" cX12_group 8 (some .int) "group" (d + 2) 0 0) (hY : eY E = lay1) {Q : Int32 → Hp → Prop} (eq : EQ E 0 0 (fun r h2 => ∃ x, r = [vI x] ∧ Q x h2)) {a1 : Int32} {a2 : Int32} {a3 : Int32} {a4 : Int32} {a5 : Int32} {a6 : Int32} {a7 : Int32} {s1 : Int32} {h : Hp} {c n : Nat} (hc : c + 0 ≤ 0) (hn : n + 0 ≤ 0) (w : w_X12_group_173  Q a1 a2 a3 a4 a5 a6 a7 s1 h) : SW E 173 ([some (vP (some (12, 0))), some (vI (a1)), some (vI (a2)), some (vI (a3)), some (vI (a4)), some (vI (a5)), some (vI (a6)), some (vI (a7))], [vI (s1), vP (some (147, 0))], h, c, n) := by
  refine k_X12_group_173 cx hY ?_
  exact s_X12_group_175 cx hY eq  (by omega) (by omega) w
theorem s_X12_group_168 {E : EnvT} {d : Nat} (cx : CX E "ShoreDayModel" cX12_group 8 (some .int) "group" (d + 2) 0 0) (hY : eY E = lay1) {Q : Int32 → Hp → Prop} (eq : EQ E 0 0 (fun r h2 => ∃ x, r = [vI x] ∧ Q x h2)) {a1 : Int32} {a2 : Int32} {a3 : Int32} {a4 : Int32} {a5 : Int32} {a6 : Int32} {a7 : Int32} {s1 : Int32} {h : Hp} {c n : Nat} (hc : c + 0 ≤ 0) (hn : n + 0 ≤ 0) (w : w_X12_group_168  Q a1 a2 a3 a4 a5 a6 a7 s1 h) : SW E 168 ([some (vP (some (12, 0))), some (vI (a1)), some (vI (a2)), some (vI (a3)), some (vI (a4)), some (vI (a5)), some (vI (a6)), some (vI (a7))], [vI (s1), vP (some (147, 0))], h, c, n) := by
  refine k_X12_group_168 cx hY ?_
  exact s_X12_group_175 cx hY eq  (by omega) (by omega) w
theorem s_X12_group_153 {E : EnvT} {d : Nat} (cx : CX E "ShoreDayModel" cX12_group 8 (some .int) "group" (d + 2) 0 0) (hY : eY E = lay1) {Q : Int32 → Hp → Prop} (eq : EQ E 0 0 (fun r h2 => ∃ x, r = [vI x] ∧ Q x h2)) {a1 : Int32} {a2 : Int32} {a3 : Int32} {a4 : Int32} {a5 : Int32} {a6 : Int32} {a7 : Int32} {s1 : Int32} {s2 : Int32} {h : Hp} {c n : Nat} (hc : c + 0 ≤ 0) (hn : n + 0 ≤ 0) (w : w_X12_group_153  Q a1 a2 a3 a4 a5 a6 a7 s1 s2 h) : SW E 153 ([some (vP (some (12, 0))), some (vI (a1)), some (vI (a2)), some (vI (a3)), some (vI (a4)), some (vI (a5)), some (vI (a6)), some (vI (a7))], [vI (s2), vI (s1), vP (some (146, 0))], h, c, n) := by
  obtain ⟨G1, w⟩ := w
  refine k_X12_group_153 cx hY G1 (fun q => ?_) (fun q => ?_)
  · have w := w.1 q
    exact s_X12_group_173 cx hY eq  (by omega) (by omega) w
  · have w := w.2 q
    exact s_X12_group_168 cx hY eq  (by omega) (by omega) w
theorem s_X12_group_142 {E : EnvT} {d : Nat} (cx : CX E "ShoreDayModel" cX12_group 8 (some .int) "group" (d + 2) 0 0) (hY : eY E = lay1) {Q : Int32 → Hp → Prop} (eq : EQ E 0 0 (fun r h2 => ∃ x, r = [vI x] ∧ Q x h2)) {a1 : Int32} {a2 : Int32} {a3 : Int32} {a4 : Int32} {a5 : Int32} {a6 : Int32} {a7 : Int32} {s1 : Int32} {s2 : Int32} {h : Hp} {c n : Nat} (hc : c + 0 ≤ 0) (hn : n + 0 ≤ 0) (w : w_X12_group_142  Q a1 a2 a3 a4 a5 a6 a7 s1 s2 h) : SW E 142 ([some (vP (some (12, 0))), some (vI (a1)), some (vI (a2)), some (vI (a3)), some (vI (a4)), some (vI (a5)), some (vI (a6)), some (vI (a7))], [vI (s2), vI (s1), vP (some (145, 0))], h, c, n) := by
  obtain ⟨G1, w⟩ := w
  refine k_X12_group_142 cx hY G1 ?_
  exact s_X12_group_153 cx hY eq  (by omega) (by omega) w
theorem s_X12_group_131 {E : EnvT} {d : Nat} (cx : CX E "ShoreDayModel" cX12_group 8 (some .int) "group" (d + 2) 0 0) (hY : eY E = lay1) {Q : Int32 → Hp → Prop} (eq : EQ E 0 0 (fun r h2 => ∃ x, r = [vI x] ∧ Q x h2)) {a1 : Int32} {a2 : Int32} {a3 : Int32} {a4 : Int32} {a5 : Int32} {a6 : Int32} {a7 : Int32} {s1 : Int32} {s2 : Int32} {h : Hp} {c n : Nat} (hc : c + 0 ≤ 0) (hn : n + 0 ≤ 0) (w : w_X12_group_131  Q a1 a2 a3 a4 a5 a6 a7 s1 s2 h) : SW E 131 ([some (vP (some (12, 0))), some (vI (a1)), some (vI (a2)), some (vI (a3)), some (vI (a4)), some (vI (a5)), some (vI (a6)), some (vI (a7))], [vI (s2), vI (s1), vP (some (144, 0))], h, c, n) := by
  obtain ⟨G1, w⟩ := w
  refine k_X12_group_131 cx hY G1 ?_
  exact s_X12_group_142 cx hY eq  (by omega) (by omega) w
theorem s_X12_group_121 {E : EnvT} {d : Nat} (cx : CX E "ShoreDayModel" cX12_group 8 (some .int) "group" (d + 2) 0 0) (hY : eY E = lay1) {Q : Int32 → Hp → Prop} (eq : EQ E 0 0 (fun r h2 => ∃ x, r = [vI x] ∧ Q x h2)) {a1 : Int32} {a2 : Int32} {a3 : Int32} {a4 : Int32} {a5 : Int32} {a6 : Int32} {a7 : Int32} {s1 : Int32} {s2 : Int32} {h : Hp} {c n : Nat} (hc : c + 0 ≤ 0) (hn : n + 0 ≤ 0) (w : w_X12_group_121  Q a1 a2 a3 a4 a5 a6 a7 s1 s2 h) : SW E 121 ([some (vP (some (12, 0))), some (vI (a1)), some (vI (a2)), some (vI (a3)), some (vI (a4)), some (vI (a5)), some (vI (a6)), some (vI (a7))], [vI (s2), vI (s1), vP (some (143, 0))], h, c, n) := by
  obtain ⟨G1, w⟩ := w
  refine k_X12_group_121 cx hY G1 ?_
  exact s_X12_group_131 cx hY eq  (by omega) (by omega) w
theorem s_X12_group_102 {E : EnvT} {d : Nat} (cx : CX E "ShoreDayModel" cX12_group 8 (some .int) "group" (d + 2) 0 0) (hY : eY E = lay1) {Q : Int32 → Hp → Prop} (eq : EQ E 0 0 (fun r h2 => ∃ x, r = [vI x] ∧ Q x h2)) {a1 : Int32} {a2 : Int32} {a3 : Int32} {a4 : Int32} {a5 : Int32} {a6 : Int32} {a7 : Int32} {h : Hp} {c n : Nat} (hc : c + 0 ≤ 0) (hn : n + 0 ≤ 0) (w : w_X12_group_102  Q a1 a2 a3 a4 a5 a6 a7 h) : SW E 102 ([some (vP (some (12, 0))), some (vI (a1)), some (vI (a2)), some (vI (a3)), some (vI (a4)), some (vI (a5)), some (vI (a6)), some (vI (a7))], [], h, c, n) := by
  obtain ⟨G1, w⟩ := w
  refine k_X12_group_102 cx hY G1 ?_
  exact s_X12_group_121 cx hY eq  (by omega) (by omega) w
theorem s_X12_group_97 {E : EnvT} {d : Nat} (cx : CX E "ShoreDayModel" cX12_group 8 (some .int) "group" (d + 2) 0 0) (hY : eY E = lay1) {Q : Int32 → Hp → Prop} (eq : EQ E 0 0 (fun r h2 => ∃ x, r = [vI x] ∧ Q x h2)) {a1 : Int32} {a2 : Int32} {a3 : Int32} {a4 : Int32} {a5 : Int32} {a6 : Int32} {a7 : Int32} {s0 : Int32} {h : Hp} {c n : Nat} (hc : c + 0 ≤ 0) (hn : n + 0 ≤ 0) (w : w_X12_group_97  Q a1 a2 a3 a4 a5 a6 a7 s0 h) : SW E 97 ([some (vP (some (12, 0))), some (vI (a1)), some (vI (a2)), some (vI (a3)), some (vI (a4)), some (vI (a5)), some (vI (a6)), some (vI (a7))], [vI (s0)], h, c, n) := by
  refine k_X12_group_97 cx hY (fun q => ?_) (fun q => ?_)
  · have w := w.1 q
    exact s_X12_group_102 cx hY eq  (by omega) (by omega) w
  · have w := w.2 q
    exact s_X12_group_100 cx hY eq  (by omega) (by omega) w
theorem s_X12_group_88 {E : EnvT} {d : Nat} (cx : CX E "ShoreDayModel" cX12_group 8 (some .int) "group" (d + 2) 0 0) (hY : eY E = lay1) {Q : Int32 → Hp → Prop} (eq : EQ E 0 0 (fun r h2 => ∃ x, r = [vI x] ∧ Q x h2)) {a1 : Int32} {a2 : Int32} {a3 : Int32} {a4 : Int32} {a5 : Int32} {a6 : Int32} {a7 : Int32} {h : Hp} {c n : Nat} (hc : c + 0 ≤ 0) (hn : n + 0 ≤ 0) (w : w_X12_group_88  Q a1 a2 a3 a4 a5 a6 a7 h) : SW E 88 ([some (vP (some (12, 0))), some (vI (a1)), some (vI (a2)), some (vI (a3)), some (vI (a4)), some (vI (a5)), some (vI (a6)), some (vI (a7))], [], h, c, n) := by
  refine k_X12_group_88 cx hY (ctY hY (vc_X12_within (d := d + 0) w)) (by omega) (by omega) (by omega) (fun r h2 hp => ?_)
  obtain ⟨r2, rfl, w⟩ := hp
  exact s_X12_group_97 cx hY eq  (by omega) (by omega) w
theorem s_X12_group_82 {E : EnvT} {d : Nat} (cx : CX E "ShoreDayModel" cX12_group 8 (some .int) "group" (d + 2) 0 0) (hY : eY E = lay1) {Q : Int32 → Hp → Prop} (eq : EQ E 0 0 (fun r h2 => ∃ x, r = [vI x] ∧ Q x h2)) {a1 : Int32} {a2 : Int32} {a3 : Int32} {a4 : Int32} {a5 : Int32} {a6 : Int32} {a7 : Int32} {h : Hp} {c n : Nat} (hc : c + 0 ≤ 0) (hn : n + 0 ≤ 0) (w : w_X12_group_82  Q a1 a2 a3 a4 a5 a6 a7 h) : SW E 82 ([some (vP (some (12, 0))), some (vI (a1)), some (vI (a2)), some (vI (a3)), some (vI (a4)), some (vI (a5)), some (vI (a6)), some (vI (a7))], [], h, c, n) := by
  refine k_X12_group_82 cx hY (fun q => ?_) (fun q => ?_)
  · have w := w.1 q
    exact s_X12_group_102 cx hY eq  (by omega) (by omega) w
  · have w := w.2 q
    exact s_X12_group_88 cx hY eq  (by omega) (by omega) w
theorem s_X12_group_73 {E : EnvT} {d : Nat} (cx : CX E "ShoreDayModel" cX12_group 8 (some .int) "group" (d + 2) 0 0) (hY : eY E = lay1) {Q : Int32 → Hp → Prop} (eq : EQ E 0 0 (fun r h2 => ∃ x, r = [vI x] ∧ Q x h2)) {a1 : Int32} {a2 : Int32} {a3 : Int32} {a4 : Int32} {a5 : Int32} {a6 : Int32} {a7 : Int32} {h : Hp} {c n : Nat} (hc : c + 0 ≤ 0) (hn : n + 0 ≤ 0) (w : w_X12_group_73  Q a1 a2 a3 a4 a5 a6 a7 h) : SW E 73 ([some (vP (some (12, 0))), some (vI (a1)), some (vI (a2)), some (vI (a3)), some (vI (a4)), some (vI (a5)), some (vI (a6)), some (vI (a7))], [], h, c, n) := by
  refine k_X12_group_73 cx hY (fun q => ?_) (fun q => ?_)
  · have w := w.1 q
    exact s_X12_group_100 cx hY eq  (by omega) (by omega) w
  · have w := w.2 q
    exact s_X12_group_82 cx hY eq  (by omega) (by omega) w
theorem s_X12_group_67 {E : EnvT} {d : Nat} (cx : CX E "ShoreDayModel" cX12_group 8 (some .int) "group" (d + 2) 0 0) (hY : eY E = lay1) {Q : Int32 → Hp → Prop} (eq : EQ E 0 0 (fun r h2 => ∃ x, r = [vI x] ∧ Q x h2)) {a1 : Int32} {a2 : Int32} {a3 : Int32} {a4 : Int32} {a5 : Int32} {a6 : Int32} {a7 : Int32} {h : Hp} {c n : Nat} (hc : c + 0 ≤ 0) (hn : n + 0 ≤ 0) (w : w_X12_group_67  Q a1 a2 a3 a4 a5 a6 a7 h) : SW E 67 ([some (vP (some (12, 0))), some (vI (a1)), some (vI (a2)), some (vI (a3)), some (vI (a4)), some (vI (a5)), some (vI (a6)), some (vI (a7))], [], h, c, n) := by
  refine k_X12_group_67 cx hY (fun q => ?_) (fun q => ?_)
  · have w := w.1 q
    exact s_X12_group_100 cx hY eq  (by omega) (by omega) w
  · have w := w.2 q
    exact s_X12_group_73 cx hY eq  (by omega) (by omega) w
theorem s_X12_group_60 {E : EnvT} {d : Nat} (cx : CX E "ShoreDayModel" cX12_group 8 (some .int) "group" (d + 2) 0 0) (hY : eY E = lay1) {Q : Int32 → Hp → Prop} (eq : EQ E 0 0 (fun r h2 => ∃ x, r = [vI x] ∧ Q x h2)) {a1 : Int32} {a2 : Int32} {a3 : Int32} {a4 : Int32} {a5 : Int32} {a6 : Int32} {x7 : Option AVal} {s0 : Int32} {h : Hp} {c n : Nat} (hc : c + 0 ≤ 0) (hn : n + 0 ≤ 0) (w : w_X12_group_60  Q a1 a2 a3 a4 a5 a6 s0 h) : SW E 60 ([some (vP (some (12, 0))), some (vI (a1)), some (vI (a2)), some (vI (a3)), some (vI (a4)), some (vI (a5)), some (vI (a6)), x7], [vI (s0)], h, c, n) := by
  refine k_X12_group_60 cx hY (fun q => ?_) (fun q => ?_)
  · have w := w.1 q
    exact s_X12_group_100 cx hY eq  (by omega) (by omega) w
  · have w := w.2 q
    exact s_X12_group_67 cx hY eq  (by omega) (by omega) w
theorem s_X12_group_59 {E : EnvT} {d : Nat} (cx : CX E "ShoreDayModel" cX12_group 8 (some .int) "group" (d + 2) 0 0) (hY : eY E = lay1) {Q : Int32 → Hp → Prop} (eq : EQ E 0 0 (fun r h2 => ∃ x, r = [vI x] ∧ Q x h2)) {a1 : Int32} {a2 : Int32} {a3 : Int32} {a4 : Int32} {a5 : Int32} {a6 : Int32} {x7 : Option AVal} {h : Hp} {c n : Nat} (hc : c + 0 ≤ 0) (hn : n + 0 ≤ 0) (w : w_X12_group_59  Q a1 a2 a3 a4 a5 a6 h) : SW E 59 ([some (vP (some (12, 0))), some (vI (a1)), some (vI (a2)), some (vI (a3)), some (vI (a4)), some (vI (a5)), some (vI (a6)), x7], [], h, c, n) := by
  refine k_X12_group_59 cx hY ?_
  exact s_X12_group_60 cx hY eq  (by omega) (by omega) w
theorem s_X12_group_55 {E : EnvT} {d : Nat} (cx : CX E "ShoreDayModel" cX12_group 8 (some .int) "group" (d + 2) 0 0) (hY : eY E = lay1) {Q : Int32 → Hp → Prop} (eq : EQ E 0 0 (fun r h2 => ∃ x, r = [vI x] ∧ Q x h2)) {a1 : Int32} {a2 : Int32} {a3 : Int32} {a4 : Int32} {a5 : Int32} {a6 : Int32} {x7 : Option AVal} {h : Hp} {c n : Nat} (hc : c + 0 ≤ 0) (hn : n + 0 ≤ 0) (w : w_X12_group_55  Q a1 a2 a3 a4 a5 a6 h) : SW E 55 ([some (vP (some (12, 0))), some (vI (a1)), some (vI (a2)), some (vI (a3)), some (vI (a4)), some (vI (a5)), some (vI (a6)), x7], [], h, c, n) := by
  refine k_X12_group_55 cx hY ?_
  exact s_X12_group_60 cx hY eq  (by omega) (by omega) w
theorem s_X12_group_46 {E : EnvT} {d : Nat} (cx : CX E "ShoreDayModel" cX12_group 8 (some .int) "group" (d + 2) 0 0) (hY : eY E = lay1) {Q : Int32 → Hp → Prop} (eq : EQ E 0 0 (fun r h2 => ∃ x, r = [vI x] ∧ Q x h2)) {a1 : Int32} {a2 : Int32} {a3 : Int32} {a4 : Int32} {a5 : Int32} {a6 : Int32} {x7 : Option AVal} {h : Hp} {c n : Nat} (hc : c + 0 ≤ 0) (hn : n + 0 ≤ 0) (w : w_X12_group_46  Q a1 a2 a3 a4 a5 a6 h) : SW E 46 ([some (vP (some (12, 0))), some (vI (a1)), some (vI (a2)), some (vI (a3)), some (vI (a4)), some (vI (a5)), some (vI (a6)), x7], [], h, c, n) := by
  refine k_X12_group_46 cx hY (fun q => ?_) (fun q => ?_)
  · have w := w.1 q
    exact s_X12_group_59 cx hY eq  (by omega) (by omega) w
  · have w := w.2 q
    exact s_X12_group_55 cx hY eq  (by omega) (by omega) w
theorem s_X12_group_43 {E : EnvT} {d : Nat} (cx : CX E "ShoreDayModel" cX12_group 8 (some .int) "group" (d + 2) 0 0) (hY : eY E = lay1) {Q : Int32 → Hp → Prop} (eq : EQ E 0 0 (fun r h2 => ∃ x, r = [vI x] ∧ Q x h2)) {a1 : Int32} {a2 : Int32} {a3 : Int32} {a4 : Int32} {a5 : Int32} {a6 : Int32} {x7 : Option AVal} {s0 : Int32} {h : Hp} {c n : Nat} (hc : c + 0 ≤ 0) (hn : n + 0 ≤ 0) (w : w_X12_group_43  Q a1 a2 a3 a4 a5 a6 s0 h) : SW E 43 ([some (vP (some (12, 0))), some (vI (a1)), some (vI (a2)), some (vI (a3)), some (vI (a4)), some (vI (a5)), some (vI (a6)), x7], [vI (s0)], h, c, n) := by
  refine k_X12_group_43 cx hY (fun q => ?_) (fun q => ?_)
  · have w := w.1 q
    exact s_X12_group_59 cx hY eq  (by omega) (by omega) w
  · have w := w.2 q
    exact s_X12_group_46 cx hY eq  (by omega) (by omega) w
theorem s_X12_group_34 {E : EnvT} {d : Nat} (cx : CX E "ShoreDayModel" cX12_group 8 (some .int) "group" (d + 2) 0 0) (hY : eY E = lay1) {Q : Int32 → Hp → Prop} (eq : EQ E 0 0 (fun r h2 => ∃ x, r = [vI x] ∧ Q x h2)) {a1 : Int32} {a2 : Int32} {a3 : Int32} {a4 : Int32} {a5 : Int32} {a6 : Int32} {x7 : Option AVal} {h : Hp} {c n : Nat} (hc : c + 0 ≤ 0) (hn : n + 0 ≤ 0) (w : w_X12_group_34  Q a1 a2 a3 a4 a5 a6 h) : SW E 34 ([some (vP (some (12, 0))), some (vI (a1)), some (vI (a2)), some (vI (a3)), some (vI (a4)), some (vI (a5)), some (vI (a6)), x7], [], h, c, n) := by
  refine k_X12_group_34 cx hY (ctY hY (vc_X12_within (d := d + 0) w)) (by omega) (by omega) (by omega) (fun r h2 hp => ?_)
  obtain ⟨r2, rfl, w⟩ := hp
  exact s_X12_group_43 cx hY eq  (by omega) (by omega) w
theorem s_X12_group_31 {E : EnvT} {d : Nat} (cx : CX E "ShoreDayModel" cX12_group 8 (some .int) "group" (d + 2) 0 0) (hY : eY E = lay1) {Q : Int32 → Hp → Prop} (eq : EQ E 0 0 (fun r h2 => ∃ x, r = [vI x] ∧ Q x h2)) {a1 : Int32} {a2 : Int32} {a3 : Int32} {a4 : Int32} {a5 : Int32} {a6 : Int32} {x7 : Option AVal} {s0 : Int32} {h : Hp} {c n : Nat} (hc : c + 0 ≤ 0) (hn : n + 0 ≤ 0) (w : w_X12_group_31  Q a1 a2 a3 a4 a5 a6 s0 h) : SW E 31 ([some (vP (some (12, 0))), some (vI (a1)), some (vI (a2)), some (vI (a3)), some (vI (a4)), some (vI (a5)), some (vI (a6)), x7], [vI (s0)], h, c, n) := by
  refine k_X12_group_31 cx hY (fun q => ?_) (fun q => ?_)
  · have w := w.1 q
    exact s_X12_group_59 cx hY eq  (by omega) (by omega) w
  · have w := w.2 q
    exact s_X12_group_34 cx hY eq  (by omega) (by omega) w
theorem s_X12_group_23 {E : EnvT} {d : Nat} (cx : CX E "ShoreDayModel" cX12_group 8 (some .int) "group" (d + 2) 0 0) (hY : eY E = lay1) {Q : Int32 → Hp → Prop} (eq : EQ E 0 0 (fun r h2 => ∃ x, r = [vI x] ∧ Q x h2)) {a1 : Int32} {a2 : Int32} {a3 : Int32} {a4 : Int32} {a5 : Int32} {a6 : Int32} {x7 : Option AVal} {h : Hp} {c n : Nat} (hc : c + 0 ≤ 0) (hn : n + 0 ≤ 0) (w : w_X12_group_23  Q a1 a2 a3 a4 a5 a6 h) : SW E 23 ([some (vP (some (12, 0))), some (vI (a1)), some (vI (a2)), some (vI (a3)), some (vI (a4)), some (vI (a5)), some (vI (a6)), x7], [], h, c, n) := by
  refine k_X12_group_23 cx hY (ctY hY (vc_X12_within (d := d + 0) w)) (by omega) (by omega) (by omega) (fun r h2 hp => ?_)
  obtain ⟨r2, rfl, w⟩ := hp
  exact s_X12_group_31 cx hY eq  (by omega) (by omega) w
theorem s_X12_group_20 {E : EnvT} {d : Nat} (cx : CX E "ShoreDayModel" cX12_group 8 (some .int) "group" (d + 2) 0 0) (hY : eY E = lay1) {Q : Int32 → Hp → Prop} (eq : EQ E 0 0 (fun r h2 => ∃ x, r = [vI x] ∧ Q x h2)) {a1 : Int32} {a2 : Int32} {a3 : Int32} {a4 : Int32} {a5 : Int32} {a6 : Int32} {x7 : Option AVal} {s0 : Int32} {h : Hp} {c n : Nat} (hc : c + 0 ≤ 0) (hn : n + 0 ≤ 0) (w : w_X12_group_20  Q a1 a2 a3 a4 a5 a6 s0 h) : SW E 20 ([some (vP (some (12, 0))), some (vI (a1)), some (vI (a2)), some (vI (a3)), some (vI (a4)), some (vI (a5)), some (vI (a6)), x7], [vI (s0)], h, c, n) := by
  refine k_X12_group_20 cx hY (fun q => ?_) (fun q => ?_)
  · have w := w.1 q
    exact s_X12_group_59 cx hY eq  (by omega) (by omega) w
  · have w := w.2 q
    exact s_X12_group_23 cx hY eq  (by omega) (by omega) w
theorem s_X12_group_13 {E : EnvT} {d : Nat} (cx : CX E "ShoreDayModel" cX12_group 8 (some .int) "group" (d + 2) 0 0) (hY : eY E = lay1) {Q : Int32 → Hp → Prop} (eq : EQ E 0 0 (fun r h2 => ∃ x, r = [vI x] ∧ Q x h2)) {a1 : Int32} {a2 : Int32} {a3 : Int32} {a4 : Int32} {a5 : Int32} {a6 : Int32} {x7 : Option AVal} {h : Hp} {c n : Nat} (hc : c + 0 ≤ 0) (hn : n + 0 ≤ 0) (w : w_X12_group_13  Q a1 a2 a3 a4 a5 a6 h) : SW E 13 ([some (vP (some (12, 0))), some (vI (a1)), some (vI (a2)), some (vI (a3)), some (vI (a4)), some (vI (a5)), some (vI (a6)), x7], [], h, c, n) := by
  refine k_X12_group_13 cx hY (ctY hY (vc_X12_within (d := d + 0) w)) (by omega) (by omega) (by omega) (fun r h2 hp => ?_)
  obtain ⟨r2, rfl, w⟩ := hp
  exact s_X12_group_20 cx hY eq  (by omega) (by omega) w
theorem s_X12_group_10 {E : EnvT} {d : Nat} (cx : CX E "ShoreDayModel" cX12_group 8 (some .int) "group" (d + 2) 0 0) (hY : eY E = lay1) {Q : Int32 → Hp → Prop} (eq : EQ E 0 0 (fun r h2 => ∃ x, r = [vI x] ∧ Q x h2)) {a1 : Int32} {a2 : Int32} {a3 : Int32} {a4 : Int32} {a5 : Int32} {a6 : Int32} {x7 : Option AVal} {s0 : Int32} {h : Hp} {c n : Nat} (hc : c + 0 ≤ 0) (hn : n + 0 ≤ 0) (w : w_X12_group_10  Q a1 a2 a3 a4 a5 a6 s0 h) : SW E 10 ([some (vP (some (12, 0))), some (vI (a1)), some (vI (a2)), some (vI (a3)), some (vI (a4)), some (vI (a5)), some (vI (a6)), x7], [vI (s0)], h, c, n) := by
  refine k_X12_group_10 cx hY (fun q => ?_) (fun q => ?_)
  · have w := w.1 q
    exact s_X12_group_59 cx hY eq  (by omega) (by omega) w
  · have w := w.2 q
    exact s_X12_group_13 cx hY eq  (by omega) (by omega) w
theorem s_X12_group_0 {E : EnvT} {d : Nat} (cx : CX E "ShoreDayModel" cX12_group 8 (some .int) "group" (d + 2) 0 0) (hY : eY E = lay1) {Q : Int32 → Hp → Prop} (eq : EQ E 0 0 (fun r h2 => ∃ x, r = [vI x] ∧ Q x h2)) {a1 : Int32} {a2 : Int32} {a3 : Int32} {a4 : Int32} {a5 : Int32} {a6 : Int32} {x7 : Option AVal} {h : Hp} {c n : Nat} (hc : c + 0 ≤ 0) (hn : n + 0 ≤ 0) (w : w_X12_group_0  Q a1 a2 a3 a4 a5 a6 h) : SW E 0 ([some (vP (some (12, 0))), some (vI (a1)), some (vI (a2)), some (vI (a3)), some (vI (a4)), some (vI (a5)), some (vI (a6)), x7], [], h, c, n) := by
  refine k_X12_group_0 cx hY (ctY hY (vc_X12_isShip (d := d + 0) w)) (by omega) (by omega) (by omega) (fun r h2 hp => ?_)
  obtain ⟨r2, rfl, w⟩ := hp
  exact s_X12_group_10 cx hY eq  (by omega) (by omega) w
def wp_X12_group (a1 : Int32) (a2 : Int32) (a3 : Int32) (a4 : Int32) (a5 : Int32) (a6 : Int32) (h : Hp) (Q : Int32 → Hp → Prop) : Prop := w_X12_group_0 Q a1 a2 a3 a4 a5 a6 h
theorem vc_X12_group {l : Launch} {d : Nat} {a1 : Int32} {a2 : Int32} {a3 : Int32} {a4 : Int32} {a5 : Int32} {a6 : Int32} {h : Hp} {Q : Int32 → Hp → Prop} (w : wp_X12_group a1 a2 a3 a4 a5 a6 h Q) : Ct l lay1 yX12_group cX12_group 8 (some .int) (d + 2) 0 0 [vP (some (12, 0)), vI a1, vI a2, vI a3, vI a4, vI a5, vI a6] h (fun r h2 => ∃ x, r = [vI x] ∧ Q x h2) := by
  exact Ct.of (by decide) (Nat.le_of_ble_eq_true rfl) fun E cx eq hl hY => s_X12_group_0 cx hY eq (Nat.le_refl _) (Nat.le_refl _) w
def w_X12_holds_18 (Q : Int32 → Hp → Prop) (a1 : Int32) (h : Hp) : Prop := Q ((1 : Int32)) (wI (h) 12 (0) 25 (a1))
def w_X12_holds_16 (Q : Int32 → Hp → Prop) (a1 : Int32) (h : Hp) : Prop := Q ((0 : Int32)) (h)
def w_X12_holds_13 (Q : Int32 → Hp → Prop) (a1 : Int32) (s0 : Int32) (h : Hp) : Prop := (¬ (s0) = 0 → w_X12_holds_18  Q (a1) (h)) ∧ ((s0) = 0 → w_X12_holds_16  Q (a1) (h))
def w_X12_holds_0 (Q : Int32 → Hp → Prop) (a1 : Int32) (h : Hp) : Prop := wp_X12_within (a1) ((1 : Int32)) ((10000 : Int32)) (wI (h) 12 (0) 0 ((0 : Int32))) (fun r2 h2 => w_X12_holds_13  Q (a1) (r2) (h2))
theorem s_X12_holds_18 {E : EnvT} {d : Nat} (cx : CX E "ShoreDayModel" cX12_holds 2 (some .boolean) "holds" (d + 2) 0 0) (hY : eY E = lay1) {Q : Int32 → Hp → Prop} (eq : EQ E 0 0 (fun r h2 => ∃ x, r = [vI x] ∧ Q x h2)) {a1 : Int32} {h : Hp} {c n : Nat} (hc : c + 0 ≤ 0) (hn : n + 0 ≤ 0) (w : w_X12_holds_18  Q a1 h) : SW E 18 ([some (vP (some (12, 0))), some (vI (a1))], [], h, c, n) := by
  exact k_X12_holds_18 cx hY eq (by omega) (by omega) ⟨_, rfl, w⟩
theorem s_X12_holds_16 {E : EnvT} {d : Nat} (cx : CX E "ShoreDayModel" cX12_holds 2 (some .boolean) "holds" (d + 2) 0 0) (hY : eY E = lay1) {Q : Int32 → Hp → Prop} (eq : EQ E 0 0 (fun r h2 => ∃ x, r = [vI x] ∧ Q x h2)) {a1 : Int32} {h : Hp} {c n : Nat} (hc : c + 0 ≤ 0) (hn : n + 0 ≤ 0) (w : w_X12_holds_16  Q a1 h) : SW E 16 ([some (vP (some (12, 0))), some (vI (a1))], [], h, c, n) := by
  exact k_X12_holds_16 cx hY eq (by omega) (by omega) ⟨_, rfl, w⟩
theorem s_X12_holds_13 {E : EnvT} {d : Nat} (cx : CX E "ShoreDayModel" cX12_holds 2 (some .boolean) "holds" (d + 2) 0 0) (hY : eY E = lay1) {Q : Int32 → Hp → Prop} (eq : EQ E 0 0 (fun r h2 => ∃ x, r = [vI x] ∧ Q x h2)) {a1 : Int32} {s0 : Int32} {h : Hp} {c n : Nat} (hc : c + 0 ≤ 0) (hn : n + 0 ≤ 0) (w : w_X12_holds_13  Q a1 s0 h) : SW E 13 ([some (vP (some (12, 0))), some (vI (a1))], [vI (s0)], h, c, n) := by
  refine k_X12_holds_13 cx hY (fun q => ?_) (fun q => ?_)
  · have w := w.1 q
    exact s_X12_holds_18 cx hY eq  (by omega) (by omega) w
  · have w := w.2 q
    exact s_X12_holds_16 cx hY eq  (by omega) (by omega) w
theorem s_X12_holds_0 {E : EnvT} {d : Nat} (cx : CX E "ShoreDayModel" cX12_holds 2 (some .boolean) "holds" (d + 2) 0 0) (hY : eY E = lay1) {Q : Int32 → Hp → Prop} (eq : EQ E 0 0 (fun r h2 => ∃ x, r = [vI x] ∧ Q x h2)) {a1 : Int32} {h : Hp} {c n : Nat} (hc : c + 0 ≤ 0) (hn : n + 0 ≤ 0) (w : w_X12_holds_0  Q a1 h) : SW E 0 ([some (vP (some (12, 0))), some (vI (a1))], [], h, c, n) := by
  refine k_X12_holds_0 cx hY (ctY hY (vc_X12_within (d := d + 0) w)) (by omega) (by omega) (by omega) (fun r h2 hp => ?_)
  obtain ⟨r2, rfl, w⟩ := hp
  exact s_X12_holds_13 cx hY eq  (by omega) (by omega) w
def wp_X12_holds (a1 : Int32) (h : Hp) (Q : Int32 → Hp → Prop) : Prop := w_X12_holds_0 Q a1 h
theorem vc_X12_holds {l : Launch} {d : Nat} {a1 : Int32} {h : Hp} {Q : Int32 → Hp → Prop} (w : wp_X12_holds a1 h Q) : Ct l lay1 yX12_holds cX12_holds 2 (some .boolean) (d + 2) 0 0 [vP (some (12, 0)), vI a1] h (fun r h2 => ∃ x, r = [vI x] ∧ Q x h2) := by
  exact Ct.of (by decide) (Nat.le_of_ble_eq_true rfl) fun E cx eq hl hY => s_X12_holds_0 cx hY eq (Nat.le_refl _) (Nat.le_refl _) w
def w_X12_shut_31 (Q : Int32 → Hp → Prop) (a1 : Int32) (a2 : Int32) (h : Hp) : Prop := Q ((0 : Int32)) (h)
def w_X12_shut_52 (Q : Int32 → Hp → Prop) (a1 : Int32) (a2 : Int32) (s1 : Int32) (s2 : Int32) (h : Hp) : Prop := vp_in (s1) 10 ∧ (Q ((1 : Int32)) (wI (wI (h) 159 (0) (tN (s1)) (s2)) 12 (0) 57 ((gI (wI (h) 159 (0) (tN (s1)) (s2)) 12 (0) (57)) + ((1 : Int32)))))
def w_X12_shut_33 (Q : Int32 → Hp → Prop) (a1 : Int32) (a2 : Int32) (h : Hp) : Prop := vp_in (gI (h) 12 (0) (57)) 10 ∧ (w_X12_shut_52  Q (a1) (a2) (gI (wI (h) 158 (0) (tN (gI (h) 12 (0) (57))) (a1)) 12 (0) (57)) (a2) (wI (h) 158 (0) (tN (gI (h) 12 (0) (57))) (a1)))
def w_X12_shut_22 (Q : Int32 → Hp → Prop) (a1 : Int32) (a2 : Int32) (h : Hp) : Prop := (¬ (gI (h) 12 (0) (57)) = ((10 : Int32)) → w_X12_shut_33  Q (a1) (a2) (h)) ∧ ((gI (h) 12 (0) (57)) = ((10 : Int32)) → w_X12_shut_31  Q (a1) (a2) (h))
def w_X12_shut_15 (Q : Int32 → Hp → Prop) (a1 : Int32) (a2 : Int32) (h : Hp) : Prop := (((719 : Int32)) < (a2) → w_X12_shut_31  Q (a1) (a2) (h)) ∧ (¬ ((719 : Int32)) < (a2) → w_X12_shut_22  Q (a1) (a2) (h))
def w_X12_shut_10 (Q : Int32 → Hp → Prop) (a1 : Int32) (a2 : Int32) (h : Hp) : Prop := ((a2) < (a1) → w_X12_shut_31  Q (a1) (a2) (h)) ∧ (¬ (a2) < (a1) → w_X12_shut_15  Q (a1) (a2) (h))
def w_X12_shut_0 (Q : Int32 → Hp → Prop) (a1 : Int32) (a2 : Int32) (h : Hp) : Prop := ((a1) < ((1 : Int32)) → w_X12_shut_31  Q (a1) (a2) (wI (h) 12 (0) 0 ((0 : Int32)))) ∧ (¬ (a1) < ((1 : Int32)) → w_X12_shut_10  Q (a1) (a2) (wI (h) 12 (0) 0 ((0 : Int32))))
theorem s_X12_shut_31 {E : EnvT} {d : Nat} (cx : CX E "ShoreDayModel" cX12_shut 3 (some .boolean) "shut" (d + 1) 0 0) (hY : eY E = lay1) {Q : Int32 → Hp → Prop} (eq : EQ E 0 0 (fun r h2 => ∃ x, r = [vI x] ∧ Q x h2)) {a1 : Int32} {a2 : Int32} {h : Hp} {c n : Nat} (hc : c + 0 ≤ 0) (hn : n + 0 ≤ 0) (w : w_X12_shut_31  Q a1 a2 h) : SW E 31 ([some (vP (some (12, 0))), some (vI (a1)), some (vI (a2))], [], h, c, n) := by
  exact k_X12_shut_31 cx hY eq (by omega) (by omega) ⟨_, rfl, w⟩
theorem s_X12_shut_52 {E : EnvT} {d : Nat} (cx : CX E "ShoreDayModel" cX12_shut 3 (some .boolean) "shut" (d + 1) 0 0) (hY : eY E = lay1) {Q : Int32 → Hp → Prop} (eq : EQ E 0 0 (fun r h2 => ∃ x, r = [vI x] ∧ Q x h2)) {a1 : Int32} {a2 : Int32} {s1 : Int32} {s2 : Int32} {h : Hp} {c n : Nat} (hc : c + 0 ≤ 0) (hn : n + 0 ≤ 0) (w : w_X12_shut_52  Q a1 a2 s1 s2 h) : SW E 52 ([some (vP (some (12, 0))), some (vI (a1)), some (vI (a2))], [vI (s2), vI (s1), vP (some (159, 0))], h, c, n) := by
  obtain ⟨G1, w⟩ := w
  exact k_X12_shut_52 cx hY G1 eq (by omega) (by omega) ⟨_, rfl, w⟩
theorem s_X12_shut_33 {E : EnvT} {d : Nat} (cx : CX E "ShoreDayModel" cX12_shut 3 (some .boolean) "shut" (d + 1) 0 0) (hY : eY E = lay1) {Q : Int32 → Hp → Prop} (eq : EQ E 0 0 (fun r h2 => ∃ x, r = [vI x] ∧ Q x h2)) {a1 : Int32} {a2 : Int32} {h : Hp} {c n : Nat} (hc : c + 0 ≤ 0) (hn : n + 0 ≤ 0) (w : w_X12_shut_33  Q a1 a2 h) : SW E 33 ([some (vP (some (12, 0))), some (vI (a1)), some (vI (a2))], [], h, c, n) := by
  obtain ⟨G1, w⟩ := w
  refine k_X12_shut_33 cx hY G1 ?_
  exact s_X12_shut_52 cx hY eq  (by omega) (by omega) w
theorem s_X12_shut_22 {E : EnvT} {d : Nat} (cx : CX E "ShoreDayModel" cX12_shut 3 (some .boolean) "shut" (d + 1) 0 0) (hY : eY E = lay1) {Q : Int32 → Hp → Prop} (eq : EQ E 0 0 (fun r h2 => ∃ x, r = [vI x] ∧ Q x h2)) {a1 : Int32} {a2 : Int32} {h : Hp} {c n : Nat} (hc : c + 0 ≤ 0) (hn : n + 0 ≤ 0) (w : w_X12_shut_22  Q a1 a2 h) : SW E 22 ([some (vP (some (12, 0))), some (vI (a1)), some (vI (a2))], [], h, c, n) := by
  refine k_X12_shut_22 cx hY (fun q => ?_) (fun q => ?_)
  · have w := w.1 q
    exact s_X12_shut_33 cx hY eq  (by omega) (by omega) w
  · have w := w.2 q
    exact s_X12_shut_31 cx hY eq  (by omega) (by omega) w
theorem s_X12_shut_15 {E : EnvT} {d : Nat} (cx : CX E "ShoreDayModel" cX12_shut 3 (some .boolean) "shut" (d + 1) 0 0) (hY : eY E = lay1) {Q : Int32 → Hp → Prop} (eq : EQ E 0 0 (fun r h2 => ∃ x, r = [vI x] ∧ Q x h2)) {a1 : Int32} {a2 : Int32} {h : Hp} {c n : Nat} (hc : c + 0 ≤ 0) (hn : n + 0 ≤ 0) (w : w_X12_shut_15  Q a1 a2 h) : SW E 15 ([some (vP (some (12, 0))), some (vI (a1)), some (vI (a2))], [], h, c, n) := by
  refine k_X12_shut_15 cx hY (fun q => ?_) (fun q => ?_)
  · have w := w.1 q
    exact s_X12_shut_31 cx hY eq  (by omega) (by omega) w
  · have w := w.2 q
    exact s_X12_shut_22 cx hY eq  (by omega) (by omega) w
theorem s_X12_shut_10 {E : EnvT} {d : Nat} (cx : CX E "ShoreDayModel" cX12_shut 3 (some .boolean) "shut" (d + 1) 0 0) (hY : eY E = lay1) {Q : Int32 → Hp → Prop} (eq : EQ E 0 0 (fun r h2 => ∃ x, r = [vI x] ∧ Q x h2)) {a1 : Int32} {a2 : Int32} {h : Hp} {c n : Nat} (hc : c + 0 ≤ 0) (hn : n + 0 ≤ 0) (w : w_X12_shut_10  Q a1 a2 h) : SW E 10 ([some (vP (some (12, 0))), some (vI (a1)), some (vI (a2))], [], h, c, n) := by
  refine k_X12_shut_10 cx hY (fun q => ?_) (fun q => ?_)
  · have w := w.1 q
    exact s_X12_shut_31 cx hY eq  (by omega) (by omega) w
  · have w := w.2 q
    exact s_X12_shut_15 cx hY eq  (by omega) (by omega) w
theorem s_X12_shut_0 {E : EnvT} {d : Nat} (cx : CX E "ShoreDayModel" cX12_shut 3 (some .boolean) "shut" (d + 1) 0 0) (hY : eY E = lay1) {Q : Int32 → Hp → Prop} (eq : EQ E 0 0 (fun r h2 => ∃ x, r = [vI x] ∧ Q x h2)) {a1 : Int32} {a2 : Int32} {h : Hp} {c n : Nat} (hc : c + 0 ≤ 0) (hn : n + 0 ≤ 0) (w : w_X12_shut_0  Q a1 a2 h) : SW E 0 ([some (vP (some (12, 0))), some (vI (a1)), some (vI (a2))], [], h, c, n) := by
  refine k_X12_shut_0 cx hY (fun q => ?_) (fun q => ?_)
  · have w := w.1 q
    exact s_X12_shut_31 cx hY eq  (by omega) (by omega) w
  · have w := w.2 q
    exact s_X12_shut_10 cx hY eq  (by omega) (by omega) w
def wp_X12_shut (a1 : Int32) (a2 : Int32) (h : Hp) (Q : Int32 → Hp → Prop) : Prop := w_X12_shut_0 Q a1 a2 h
theorem vc_X12_shut {l : Launch} {d : Nat} {a1 : Int32} {a2 : Int32} {h : Hp} {Q : Int32 → Hp → Prop} (w : wp_X12_shut a1 a2 h Q) : Ct l lay1 yX12_shut cX12_shut 3 (some .boolean) (d + 1) 0 0 [vP (some (12, 0)), vI a1, vI a2] h (fun r h2 => ∃ x, r = [vI x] ∧ Q x h2) := by
  exact Ct.of (by decide) (Nat.le_of_ble_eq_true rfl) fun E cx eq hl hY => s_X12_shut_0 cx hY eq (Nat.le_refl _) (Nat.le_refl _) w
def w_X12_isShut_50 (Q : Int32 → Hp → Prop) (a1 : Int32) (a2 : Int32) (h : Hp) : Prop := ((a1) = 0 ∨ (a1) = 1) ∧ Q (a1) (h)
def w_X12_isShut_43 (K4 : Int32 → Int32 → Hp → Prop) (Q : Int32 → Hp → Prop) (a1 : Int32) (a2 : Int32) (s0 : Int32) (h : Hp) : Prop := K4 (s0) (a2 + 1) (h)
def w_X12_isShut_38 (K4 : Int32 → Int32 → Hp → Prop) (Q : Int32 → Hp → Prop) (a1 : Int32) (a2 : Int32) (h : Hp) : Prop := w_X12_isShut_43 K4 Q (a1) (a2) ((1 : Int32)) (h)
def w_X12_isShut_42 (K4 : Int32 → Int32 → Hp → Prop) (Q : Int32 → Hp → Prop) (a1 : Int32) (a2 : Int32) (h : Hp) : Prop := w_X12_isShut_43 K4 Q (a1) (a2) ((0 : Int32)) (h)
def w_X12_isShut_35 (K4 : Int32 → Int32 → Hp → Prop) (Q : Int32 → Hp → Prop) (a1 : Int32) (a2 : Int32) (s0 : Int32) (h : Hp) : Prop := ((s0) = 0 → w_X12_isShut_42 K4 Q (a1) (a2) (h)) ∧ (¬ (s0) = 0 → w_X12_isShut_38 K4 Q (a1) (a2) (h))
def w_X12_isShut_16 (K4 : Int32 → Int32 → Hp → Prop) (Q : Int32 → Hp → Prop) (a1 : Int32) (a2 : Int32) (h : Hp) : Prop := vp_in (a2) 10 ∧ (vp_in (a2) 10 ∧ (wp_X12_within (gI (h) 12 (0) (24)) (gI (h) 158 (0) (tN (a2))) (gI (h) 159 (0) (tN (a2))) (h) (fun r2 h2 => w_X12_isShut_35 K4 Q (a1) (a2) (r2) (h2))))
def w_X12_isShut_12 (K4 : Int32 → Int32 → Hp → Prop) (Q : Int32 → Hp → Prop) (a1 : Int32) (a2 : Int32) (h : Hp) : Prop := (¬ (a1) = 0 → w_X12_isShut_38 K4 Q (a1) (a2) (h)) ∧ ((a1) = 0 → w_X12_isShut_16 K4 Q (a1) (a2) (h))
def w_X12_isShut_4 (Q : Int32 → Hp → Prop) : Nat → Int32 → Int32 → Hp → Prop
  | 0 => fun _ _ _ => False
  | N + 1 => fun a1 a2 h => ((gI (h) 12 (0) (57)) ≤ (a2) → w_X12_isShut_50  Q (a1) (a2) (h)) ∧ (¬ (gI (h) 12 (0) (57)) ≤ (a2) → w_X12_isShut_12 (w_X12_isShut_4  Q N) Q (a1) (a2) (h))
def w_X12_isShut_0 (Q : Int32 → Hp → Prop) (h : Hp) : Prop := ∃ N, w_X12_isShut_4  Q N ((0 : Int32)) ((0 : Int32)) (h)
theorem s_X12_isShut_50 {E : EnvT} {d : Nat} (cx : CX E "ShoreDayModel" cX12_isShut 3 (some .boolean) "isShut" (d + 2) 0 0) (hY : eY E = lay1) {Q : Int32 → Hp → Prop} (eq : EQ E 0 0 (fun r h2 => ∃ x, r = [vI x] ∧ Q x h2)) {a1 : Int32} {a2 : Int32} {h : Hp} {c n : Nat} (hc : c + 0 ≤ 0) (hn : n + 0 ≤ 0) (w : w_X12_isShut_50  Q a1 a2 h) : SW E 50 ([some (vP (some (12, 0))), some (vI (a1)), some (vI (a2))], [], h, c, n) := by
  exact k_X12_isShut_50 cx hY eq (by omega) (by omega) w.1 ⟨_, rfl, w.2⟩
theorem s_X12_isShut_43 {E : EnvT} {d : Nat} (cx : CX E "ShoreDayModel" cX12_isShut 3 (some .boolean) "isShut" (d + 2) 0 0) (hY : eY E = lay1) {Q : Int32 → Hp → Prop} (eq : EQ E 0 0 (fun r h2 => ∃ x, r = [vI x] ∧ Q x h2)) {K4 : Int32 → Int32 → Hp → Prop} (hK4 : ∀ (a1 : Int32) (a2 : Int32) (h : Hp) (c n : Nat), c + 0 ≤ 0 → n + 0 ≤ 0 → K4 a1 a2 h → SW E 4 ([some (vP (some (12, 0))), some (vI (a1)), some (vI (a2))], [], h, c, n)) {a1 : Int32} {a2 : Int32} {s0 : Int32} {h : Hp} {c n : Nat} (hc : c + 0 ≤ 0) (hn : n + 0 ≤ 0) (w : w_X12_isShut_43 K4 Q a1 a2 s0 h) : SW E 43 ([some (vP (some (12, 0))), some (vI (a1)), some (vI (a2))], [vI (s0)], h, c, n) := by
  refine k_X12_isShut_43 cx hY ?_
  exact hK4 _ _ _ _ _ (by omega) (by omega) w
theorem s_X12_isShut_38 {E : EnvT} {d : Nat} (cx : CX E "ShoreDayModel" cX12_isShut 3 (some .boolean) "isShut" (d + 2) 0 0) (hY : eY E = lay1) {Q : Int32 → Hp → Prop} (eq : EQ E 0 0 (fun r h2 => ∃ x, r = [vI x] ∧ Q x h2)) {K4 : Int32 → Int32 → Hp → Prop} (hK4 : ∀ (a1 : Int32) (a2 : Int32) (h : Hp) (c n : Nat), c + 0 ≤ 0 → n + 0 ≤ 0 → K4 a1 a2 h → SW E 4 ([some (vP (some (12, 0))), some (vI (a1)), some (vI (a2))], [], h, c, n)) {a1 : Int32} {a2 : Int32} {h : Hp} {c n : Nat} (hc : c + 0 ≤ 0) (hn : n + 0 ≤ 0) (w : w_X12_isShut_38 K4 Q a1 a2 h) : SW E 38 ([some (vP (some (12, 0))), some (vI (a1)), some (vI (a2))], [], h, c, n) := by
  refine k_X12_isShut_38 cx hY ?_
  exact s_X12_isShut_43 cx hY eq hK4 (by omega) (by omega) w
theorem s_X12_isShut_42 {E : EnvT} {d : Nat} (cx : CX E "ShoreDayModel" cX12_isShut 3 (some .boolean) "isShut" (d + 2) 0 0) (hY : eY E = lay1) {Q : Int32 → Hp → Prop} (eq : EQ E 0 0 (fun r h2 => ∃ x, r = [vI x] ∧ Q x h2)) {K4 : Int32 → Int32 → Hp → Prop} (hK4 : ∀ (a1 : Int32) (a2 : Int32) (h : Hp) (c n : Nat), c + 0 ≤ 0 → n + 0 ≤ 0 → K4 a1 a2 h → SW E 4 ([some (vP (some (12, 0))), some (vI (a1)), some (vI (a2))], [], h, c, n)) {a1 : Int32} {a2 : Int32} {h : Hp} {c n : Nat} (hc : c + 0 ≤ 0) (hn : n + 0 ≤ 0) (w : w_X12_isShut_42 K4 Q a1 a2 h) : SW E 42 ([some (vP (some (12, 0))), some (vI (a1)), some (vI (a2))], [], h, c, n) := by
  refine k_X12_isShut_42 cx hY ?_
  exact s_X12_isShut_43 cx hY eq hK4 (by omega) (by omega) w
theorem s_X12_isShut_35 {E : EnvT} {d : Nat} (cx : CX E "ShoreDayModel" cX12_isShut 3 (some .boolean) "isShut" (d + 2) 0 0) (hY : eY E = lay1) {Q : Int32 → Hp → Prop} (eq : EQ E 0 0 (fun r h2 => ∃ x, r = [vI x] ∧ Q x h2)) {K4 : Int32 → Int32 → Hp → Prop} (hK4 : ∀ (a1 : Int32) (a2 : Int32) (h : Hp) (c n : Nat), c + 0 ≤ 0 → n + 0 ≤ 0 → K4 a1 a2 h → SW E 4 ([some (vP (some (12, 0))), some (vI (a1)), some (vI (a2))], [], h, c, n)) {a1 : Int32} {a2 : Int32} {s0 : Int32} {h : Hp} {c n : Nat} (hc : c + 0 ≤ 0) (hn : n + 0 ≤ 0) (w : w_X12_isShut_35 K4 Q a1 a2 s0 h) : SW E 35 ([some (vP (some (12, 0))), some (vI (a1)), some (vI (a2))], [vI (s0)], h, c, n) := by
  refine k_X12_isShut_35 cx hY (fun q => ?_) (fun q => ?_)
  · have w := w.1 q
    exact s_X12_isShut_42 cx hY eq hK4 (by omega) (by omega) w
  · have w := w.2 q
    exact s_X12_isShut_38 cx hY eq hK4 (by omega) (by omega) w
theorem s_X12_isShut_16 {E : EnvT} {d : Nat} (cx : CX E "ShoreDayModel" cX12_isShut 3 (some .boolean) "isShut" (d + 2) 0 0) (hY : eY E = lay1) {Q : Int32 → Hp → Prop} (eq : EQ E 0 0 (fun r h2 => ∃ x, r = [vI x] ∧ Q x h2)) {K4 : Int32 → Int32 → Hp → Prop} (hK4 : ∀ (a1 : Int32) (a2 : Int32) (h : Hp) (c n : Nat), c + 0 ≤ 0 → n + 0 ≤ 0 → K4 a1 a2 h → SW E 4 ([some (vP (some (12, 0))), some (vI (a1)), some (vI (a2))], [], h, c, n)) {a1 : Int32} {a2 : Int32} {h : Hp} {c n : Nat} (hc : c + 0 ≤ 0) (hn : n + 0 ≤ 0) (w : w_X12_isShut_16 K4 Q a1 a2 h) : SW E 16 ([some (vP (some (12, 0))), some (vI (a1)), some (vI (a2))], [], h, c, n) := by
  obtain ⟨G1, G2, w⟩ := w
  refine k_X12_isShut_16 cx hY G1 G2 (ctY hY (vc_X12_within (d := d + 0) w)) (by omega) (by omega) (by omega) (fun r h2 hp => ?_)
  obtain ⟨r2, rfl, w⟩ := hp
  exact s_X12_isShut_35 cx hY eq hK4 (by omega) (by omega) w
theorem s_X12_isShut_12 {E : EnvT} {d : Nat} (cx : CX E "ShoreDayModel" cX12_isShut 3 (some .boolean) "isShut" (d + 2) 0 0) (hY : eY E = lay1) {Q : Int32 → Hp → Prop} (eq : EQ E 0 0 (fun r h2 => ∃ x, r = [vI x] ∧ Q x h2)) {K4 : Int32 → Int32 → Hp → Prop} (hK4 : ∀ (a1 : Int32) (a2 : Int32) (h : Hp) (c n : Nat), c + 0 ≤ 0 → n + 0 ≤ 0 → K4 a1 a2 h → SW E 4 ([some (vP (some (12, 0))), some (vI (a1)), some (vI (a2))], [], h, c, n)) {a1 : Int32} {a2 : Int32} {h : Hp} {c n : Nat} (hc : c + 0 ≤ 0) (hn : n + 0 ≤ 0) (w : w_X12_isShut_12 K4 Q a1 a2 h) : SW E 12 ([some (vP (some (12, 0))), some (vI (a1)), some (vI (a2))], [], h, c, n) := by
  refine k_X12_isShut_12 cx hY (fun q => ?_) (fun q => ?_)
  · have w := w.1 q
    exact s_X12_isShut_38 cx hY eq hK4 (by omega) (by omega) w
  · have w := w.2 q
    exact s_X12_isShut_16 cx hY eq hK4 (by omega) (by omega) w
theorem s_X12_isShut_4 {E : EnvT} {d : Nat} (cx : CX E "ShoreDayModel" cX12_isShut 3 (some .boolean) "isShut" (d + 2) 0 0) (hY : eY E = lay1) {Q : Int32 → Hp → Prop} (eq : EQ E 0 0 (fun r h2 => ∃ x, r = [vI x] ∧ Q x h2)) : ∀ (N : Nat) (a1 : Int32) (a2 : Int32) (h : Hp) (c n : Nat), c + 0 ≤ 0 → n + 0 ≤ 0 → w_X12_isShut_4  Q N a1 a2 h → SW E 4 ([some (vP (some (12, 0))), some (vI (a1)), some (vI (a2))], [], h, c, n) := by
  intro N
  induction N with
  | zero =>
    intro _ _ h c n _ _ w
    exact w.elim
  | succ N ih =>
    intro a1 a2 h c n hc hn w
    refine k_X12_isShut_4 cx hY (fun q => ?_) (fun q => ?_)
    · have w := w.1 q
      exact s_X12_isShut_50 cx hY eq  (by omega) (by omega) w
    · have w := w.2 q
      exact s_X12_isShut_12 cx hY eq ih (by omega) (by omega) w
theorem s_X12_isShut_0 {E : EnvT} {d : Nat} (cx : CX E "ShoreDayModel" cX12_isShut 3 (some .boolean) "isShut" (d + 2) 0 0) (hY : eY E = lay1) {Q : Int32 → Hp → Prop} (eq : EQ E 0 0 (fun r h2 => ∃ x, r = [vI x] ∧ Q x h2)) {x1 : Option AVal} {x2 : Option AVal} {h : Hp} {c n : Nat} (hc : c + 0 ≤ 0) (hn : n + 0 ≤ 0) (w : w_X12_isShut_0  Q  h) : SW E 0 ([some (vP (some (12, 0))), x1, x2], [], h, c, n) := by
  refine k_X12_isShut_0 cx hY ?_
  obtain ⟨N1, w⟩ := w
  exact s_X12_isShut_4 cx hY eq  _ _ _ _ _ _ (by omega) (by omega) w
def wp_X12_isShut (h : Hp) (Q : Int32 → Hp → Prop) : Prop := w_X12_isShut_0 Q  h
theorem vc_X12_isShut {l : Launch} {d : Nat} {h : Hp} {Q : Int32 → Hp → Prop} (w : wp_X12_isShut h Q) : Ct l lay1 yX12_isShut cX12_isShut 3 (some .boolean) (d + 2) 0 0 [vP (some (12, 0))] h (fun r h2 => ∃ x, r = [vI x] ∧ Q x h2) := by
  exact Ct.of (by decide) (Nat.le_of_ble_eq_true rfl) fun E cx eq hl hY => s_X12_isShut_0 cx hY eq (Nat.le_refl _) (Nat.le_refl _) w
def w_X12_guestsThat_49 (Q : Int32 → Hp → Prop) (a1 : Int32) (a2 : Int32) (a3 : Int32) (a4 : Int32) (h : Hp) : Prop := Q (a3) (h)
def w_X12_guestsThat_41 (K5 : Int32 → Int32 → Int32 → Int32 → Hp → Prop) (Q : Int32 → Hp → Prop) (a1 : Int32) (a2 : Int32) (a3 : Int32) (a4 : Int32) (s0 : Int32) (s1 : Int32) (h : Hp) : Prop := K5 (a1) (a2) ((s0) + (s1)) (a4 + 1) (h)
def w_X12_guestsThat_40 (K5 : Int32 → Int32 → Int32 → Int32 → Hp → Prop) (Q : Int32 → Hp → Prop) (a1 : Int32) (a2 : Int32) (a3 : Int32) (a4 : Int32) (s0 : Int32) (h : Hp) : Prop := w_X12_guestsThat_41 K5 Q (a1) (a2) (a3) (a4) (s0) ((0 : Int32)) (h)
def w_X12_guestsThat_30 (K5 : Int32 → Int32 → Int32 → Int32 → Hp → Prop) (Q : Int32 → Hp → Prop) (a1 : Int32) (a2 : Int32) (a3 : Int32) (a4 : Int32) (s0 : Int32) (h : Hp) : Prop := vp_in (a4) 60 ∧ (w_X12_guestsThat_41 K5 Q (a1) (a2) (a3) (a4) (s0) (gI (h) 143 (0) (tN (a4))) (h))
def w_X12_guestsThat_27 (K5 : Int32 → Int32 → Int32 → Int32 → Hp → Prop) (Q : Int32 → Hp → Prop) (a1 : Int32) (a2 : Int32) (a3 : Int32) (a4 : Int32) (s0 : Int32) (s1 : Int32) (h : Hp) : Prop := ((s1) = 0 → w_X12_guestsThat_40 K5 Q (a1) (a2) (a3) (a4) (s0) (h)) ∧ (¬ (s1) = 0 → w_X12_guestsThat_30 K5 Q (a1) (a2) (a3) (a4) (s0) (h))
def w_X12_guestsThat_14 (K5 : Int32 → Int32 → Int32 → Int32 → Hp → Prop) (Q : Int32 → Hp → Prop) (a1 : Int32) (a2 : Int32) (a3 : Int32) (a4 : Int32) (h : Hp) : Prop := vp_in (a4) 60 ∧ (wp_X12_within (gI (h) 148 (0) (tN (a4))) (a1) (a2) (h) (fun r2 h2 => w_X12_guestsThat_27 K5 Q (a1) (a2) (a3) (a4) (a3) (r2) (h2)))
def w_X12_guestsThat_5 (Q : Int32 → Hp → Prop) : Nat → Int32 → Int32 → Int32 → Int32 → Hp → Prop
  | 0 => fun _ _ _ _ _ => False
  | N + 1 => fun a1 a2 a3 a4 h => ((gI (h) 12 (0) (41)) ≤ (a4) → w_X12_guestsThat_49  Q (a1) (a2) (a3) (a4) (h)) ∧ (¬ (gI (h) 12 (0) (41)) ≤ (a4) → w_X12_guestsThat_14 (w_X12_guestsThat_5  Q N) Q (a1) (a2) (a3) (a4) (h))
def w_X12_guestsThat_0 (Q : Int32 → Hp → Prop) (a1 : Int32) (a2 : Int32) (h : Hp) : Prop := ∃ N, w_X12_guestsThat_5  Q N (a1) (a2) ((0 : Int32)) ((0 : Int32)) (h)
theorem s_X12_guestsThat_49 {E : EnvT} {d : Nat} (cx : CX E "ShoreDayModel" cX12_guestsThat 5 (some .int) "guestsThat" (d + 2) 0 0) (hY : eY E = lay1) {Q : Int32 → Hp → Prop} (eq : EQ E 0 0 (fun r h2 => ∃ x, r = [vI x] ∧ Q x h2)) {a1 : Int32} {a2 : Int32} {a3 : Int32} {a4 : Int32} {h : Hp} {c n : Nat} (hc : c + 0 ≤ 0) (hn : n + 0 ≤ 0) (w : w_X12_guestsThat_49  Q a1 a2 a3 a4 h) : SW E 49 ([some (vP (some (12, 0))), some (vI (a1)), some (vI (a2)), some (vI (a3)), some (vI (a4))], [], h, c, n) := by
  exact k_X12_guestsThat_49 cx hY eq (by omega) (by omega) ⟨_, rfl, w⟩
theorem s_X12_guestsThat_41 {E : EnvT} {d : Nat} (cx : CX E "ShoreDayModel" cX12_guestsThat 5 (some .int) "guestsThat" (d + 2) 0 0) (hY : eY E = lay1) {Q : Int32 → Hp → Prop} (eq : EQ E 0 0 (fun r h2 => ∃ x, r = [vI x] ∧ Q x h2)) {K5 : Int32 → Int32 → Int32 → Int32 → Hp → Prop} (hK5 : ∀ (a1 : Int32) (a2 : Int32) (a3 : Int32) (a4 : Int32) (h : Hp) (c n : Nat), c + 0 ≤ 0 → n + 0 ≤ 0 → K5 a1 a2 a3 a4 h → SW E 5 ([some (vP (some (12, 0))), some (vI (a1)), some (vI (a2)), some (vI (a3)), some (vI (a4))], [], h, c, n)) {a1 : Int32} {a2 : Int32} {a3 : Int32} {a4 : Int32} {s0 : Int32} {s1 : Int32} {h : Hp} {c n : Nat} (hc : c + 0 ≤ 0) (hn : n + 0 ≤ 0) (w : w_X12_guestsThat_41 K5 Q a1 a2 a3 a4 s0 s1 h) : SW E 41 ([some (vP (some (12, 0))), some (vI (a1)), some (vI (a2)), some (vI (a3)), some (vI (a4))], [vI (s1), vI (s0)], h, c, n) := by
  refine k_X12_guestsThat_41 cx hY ?_
  exact hK5 _ _ _ _ _ _ _ (by omega) (by omega) w
theorem s_X12_guestsThat_40 {E : EnvT} {d : Nat} (cx : CX E "ShoreDayModel" cX12_guestsThat 5 (some .int) "guestsThat" (d + 2) 0 0) (hY : eY E = lay1) {Q : Int32 → Hp → Prop} (eq : EQ E 0 0 (fun r h2 => ∃ x, r = [vI x] ∧ Q x h2)) {K5 : Int32 → Int32 → Int32 → Int32 → Hp → Prop} (hK5 : ∀ (a1 : Int32) (a2 : Int32) (a3 : Int32) (a4 : Int32) (h : Hp) (c n : Nat), c + 0 ≤ 0 → n + 0 ≤ 0 → K5 a1 a2 a3 a4 h → SW E 5 ([some (vP (some (12, 0))), some (vI (a1)), some (vI (a2)), some (vI (a3)), some (vI (a4))], [], h, c, n)) {a1 : Int32} {a2 : Int32} {a3 : Int32} {a4 : Int32} {s0 : Int32} {h : Hp} {c n : Nat} (hc : c + 0 ≤ 0) (hn : n + 0 ≤ 0) (w : w_X12_guestsThat_40 K5 Q a1 a2 a3 a4 s0 h) : SW E 40 ([some (vP (some (12, 0))), some (vI (a1)), some (vI (a2)), some (vI (a3)), some (vI (a4))], [vI (s0)], h, c, n) := by
  refine k_X12_guestsThat_40 cx hY ?_
  exact s_X12_guestsThat_41 cx hY eq hK5 (by omega) (by omega) w
theorem s_X12_guestsThat_30 {E : EnvT} {d : Nat} (cx : CX E "ShoreDayModel" cX12_guestsThat 5 (some .int) "guestsThat" (d + 2) 0 0) (hY : eY E = lay1) {Q : Int32 → Hp → Prop} (eq : EQ E 0 0 (fun r h2 => ∃ x, r = [vI x] ∧ Q x h2)) {K5 : Int32 → Int32 → Int32 → Int32 → Hp → Prop} (hK5 : ∀ (a1 : Int32) (a2 : Int32) (a3 : Int32) (a4 : Int32) (h : Hp) (c n : Nat), c + 0 ≤ 0 → n + 0 ≤ 0 → K5 a1 a2 a3 a4 h → SW E 5 ([some (vP (some (12, 0))), some (vI (a1)), some (vI (a2)), some (vI (a3)), some (vI (a4))], [], h, c, n)) {a1 : Int32} {a2 : Int32} {a3 : Int32} {a4 : Int32} {s0 : Int32} {h : Hp} {c n : Nat} (hc : c + 0 ≤ 0) (hn : n + 0 ≤ 0) (w : w_X12_guestsThat_30 K5 Q a1 a2 a3 a4 s0 h) : SW E 30 ([some (vP (some (12, 0))), some (vI (a1)), some (vI (a2)), some (vI (a3)), some (vI (a4))], [vI (s0)], h, c, n) := by
  obtain ⟨G1, w⟩ := w
  refine k_X12_guestsThat_30 cx hY G1 ?_
  exact s_X12_guestsThat_41 cx hY eq hK5 (by omega) (by omega) w
theorem s_X12_guestsThat_27 {E : EnvT} {d : Nat} (cx : CX E "ShoreDayModel" cX12_guestsThat 5 (some .int) "guestsThat" (d + 2) 0 0) (hY : eY E = lay1) {Q : Int32 → Hp → Prop} (eq : EQ E 0 0 (fun r h2 => ∃ x, r = [vI x] ∧ Q x h2)) {K5 : Int32 → Int32 → Int32 → Int32 → Hp → Prop} (hK5 : ∀ (a1 : Int32) (a2 : Int32) (a3 : Int32) (a4 : Int32) (h : Hp) (c n : Nat), c + 0 ≤ 0 → n + 0 ≤ 0 → K5 a1 a2 a3 a4 h → SW E 5 ([some (vP (some (12, 0))), some (vI (a1)), some (vI (a2)), some (vI (a3)), some (vI (a4))], [], h, c, n)) {a1 : Int32} {a2 : Int32} {a3 : Int32} {a4 : Int32} {s0 : Int32} {s1 : Int32} {h : Hp} {c n : Nat} (hc : c + 0 ≤ 0) (hn : n + 0 ≤ 0) (w : w_X12_guestsThat_27 K5 Q a1 a2 a3 a4 s0 s1 h) : SW E 27 ([some (vP (some (12, 0))), some (vI (a1)), some (vI (a2)), some (vI (a3)), some (vI (a4))], [vI (s1), vI (s0)], h, c, n) := by
  refine k_X12_guestsThat_27 cx hY (fun q => ?_) (fun q => ?_)
  · have w := w.1 q
    exact s_X12_guestsThat_40 cx hY eq hK5 (by omega) (by omega) w
  · have w := w.2 q
    exact s_X12_guestsThat_30 cx hY eq hK5 (by omega) (by omega) w
theorem s_X12_guestsThat_14 {E : EnvT} {d : Nat} (cx : CX E "ShoreDayModel" cX12_guestsThat 5 (some .int) "guestsThat" (d + 2) 0 0) (hY : eY E = lay1) {Q : Int32 → Hp → Prop} (eq : EQ E 0 0 (fun r h2 => ∃ x, r = [vI x] ∧ Q x h2)) {K5 : Int32 → Int32 → Int32 → Int32 → Hp → Prop} (hK5 : ∀ (a1 : Int32) (a2 : Int32) (a3 : Int32) (a4 : Int32) (h : Hp) (c n : Nat), c + 0 ≤ 0 → n + 0 ≤ 0 → K5 a1 a2 a3 a4 h → SW E 5 ([some (vP (some (12, 0))), some (vI (a1)), some (vI (a2)), some (vI (a3)), some (vI (a4))], [], h, c, n)) {a1 : Int32} {a2 : Int32} {a3 : Int32} {a4 : Int32} {h : Hp} {c n : Nat} (hc : c + 0 ≤ 0) (hn : n + 0 ≤ 0) (w : w_X12_guestsThat_14 K5 Q a1 a2 a3 a4 h) : SW E 14 ([some (vP (some (12, 0))), some (vI (a1)), some (vI (a2)), some (vI (a3)), some (vI (a4))], [], h, c, n) := by
  obtain ⟨G1, w⟩ := w
  refine k_X12_guestsThat_14 cx hY G1 (ctY hY (vc_X12_within (d := d + 0) w)) (by omega) (by omega) (by omega) (fun r h2 hp => ?_)
  obtain ⟨r2, rfl, w⟩ := hp
  exact s_X12_guestsThat_27 cx hY eq hK5 (by omega) (by omega) w
theorem s_X12_guestsThat_5 {E : EnvT} {d : Nat} (cx : CX E "ShoreDayModel" cX12_guestsThat 5 (some .int) "guestsThat" (d + 2) 0 0) (hY : eY E = lay1) {Q : Int32 → Hp → Prop} (eq : EQ E 0 0 (fun r h2 => ∃ x, r = [vI x] ∧ Q x h2)) : ∀ (N : Nat) (a1 : Int32) (a2 : Int32) (a3 : Int32) (a4 : Int32) (h : Hp) (c n : Nat), c + 0 ≤ 0 → n + 0 ≤ 0 → w_X12_guestsThat_5  Q N a1 a2 a3 a4 h → SW E 5 ([some (vP (some (12, 0))), some (vI (a1)), some (vI (a2)), some (vI (a3)), some (vI (a4))], [], h, c, n) := by
  intro N
  induction N with
  | zero =>
    intro _ _ _ _ h c n _ _ w
    exact w.elim
  | succ N ih =>
    intro a1 a2 a3 a4 h c n hc hn w
    refine k_X12_guestsThat_5 cx hY (fun q => ?_) (fun q => ?_)
    · have w := w.1 q
      exact s_X12_guestsThat_49 cx hY eq  (by omega) (by omega) w
    · have w := w.2 q
      exact s_X12_guestsThat_14 cx hY eq ih (by omega) (by omega) w
theorem s_X12_guestsThat_0 {E : EnvT} {d : Nat} (cx : CX E "ShoreDayModel" cX12_guestsThat 5 (some .int) "guestsThat" (d + 2) 0 0) (hY : eY E = lay1) {Q : Int32 → Hp → Prop} (eq : EQ E 0 0 (fun r h2 => ∃ x, r = [vI x] ∧ Q x h2)) {a1 : Int32} {a2 : Int32} {x3 : Option AVal} {x4 : Option AVal} {h : Hp} {c n : Nat} (hc : c + 0 ≤ 0) (hn : n + 0 ≤ 0) (w : w_X12_guestsThat_0  Q a1 a2 h) : SW E 0 ([some (vP (some (12, 0))), some (vI (a1)), some (vI (a2)), x3, x4], [], h, c, n) := by
  refine k_X12_guestsThat_0 cx hY ?_
  obtain ⟨N1, w⟩ := w
  exact s_X12_guestsThat_5 cx hY eq  _ _ _ _ _ _ _ _ (by omega) (by omega) w
def wp_X12_guestsThat (a1 : Int32) (a2 : Int32) (h : Hp) (Q : Int32 → Hp → Prop) : Prop := w_X12_guestsThat_0 Q a1 a2 h
theorem vc_X12_guestsThat {l : Launch} {d : Nat} {a1 : Int32} {a2 : Int32} {h : Hp} {Q : Int32 → Hp → Prop} (w : wp_X12_guestsThat a1 a2 h Q) : Ct l lay1 yX12_guestsThat cX12_guestsThat 5 (some .int) (d + 2) 0 0 [vP (some (12, 0)), vI a1, vI a2] h (fun r h2 => ∃ x, r = [vI x] ∧ Q x h2) := by
  exact Ct.of (by decide) (Nat.le_of_ble_eq_true rfl) fun E cx eq hl hY => s_X12_guestsThat_0 cx hY eq (Nat.le_refl _) (Nat.le_refl _) w
def w_X12_feeOf_139 (Q : Int32 → Hp → Prop) (a1 : Int32) (a2 : Int32) (h : Hp) : Prop := Q ((0 : Int32)) (h)
def w_X12_feeOf_133 (K92 : Int32 → Int32 → Hp → Prop) (Q : Int32 → Hp → Prop) (a1 : Int32) (a2 : Int32) (h : Hp) : Prop := K92 (a1) (a2 + 1) (h)
def w_X12_feeOf_126 (Q : Int32 → Hp → Prop) (a1 : Int32) (a2 : Int32) (h : Hp) : Prop := vp_in (a2) 32 ∧ (Q (gI (h) 111 (0) (tN (a2))) (h))
def w_X12_feeOf_123 (K92 : Int32 → Int32 → Hp → Prop) (Q : Int32 → Hp → Prop) (a1 : Int32) (a2 : Int32) (s0 : Int32) (h : Hp) : Prop := ((s0) = 0 → w_X12_feeOf_133 K92 Q (a1) (a2) (h)) ∧ (¬ (s0) = 0 → w_X12_feeOf_126  Q (a1) (a2) (h))
def w_X12_feeOf_113 (K92 : Int32 → Int32 → Hp → Prop) (Q : Int32 → Hp → Prop) (a1 : Int32) (a2 : Int32) (h : Hp) : Prop := vp_in (a2) 32 ∧ (wp_X12_worth (gI (h) 112 (0) (tN (a2))) (h) (fun r2 h2 => w_X12_feeOf_123 K92 Q (a1) (a2) (r2) (h2)))
def w_X12_feeOf_92 (Q : Int32 → Hp → Prop) : Nat → Int32 → Int32 → Hp → Prop
  | 0 => fun _ _ _ => False
  | N + 1 => fun a1 a2 h => vp_in (gI (h) 12 (0) (15)) 2 ∧ ((((((16 : Int32)) * (gI (h) 12 (0) (15))) + (gI (h) 110 (0) (tN (gI (h) 12 (0) (15))))) ≤ (a2) → w_X12_feeOf_139  Q (a1) (a2) (h)) ∧ (¬ ((((16 : Int32)) * (gI (h) 12 (0) (15))) + (gI (h) 110 (0) (tN (gI (h) 12 (0) (15))))) ≤ (a2) → w_X12_feeOf_113 (w_X12_feeOf_92  Q N) Q (a1) (a2) (h)))
def w_X12_feeOf_74 (Q : Int32 → Hp → Prop) (a1 : Int32) (h : Hp) : Prop := vp_in ((5 : Int32)) 6 ∧ (∃ N, w_X12_feeOf_92  Q N (a1) (((16 : Int32)) * (gI (wI (h) 122 (0) (tN ((5 : Int32))) (gI (h) 12 (0) (56))) 12 (0) (15))) (wI (h) 122 (0) (tN ((5 : Int32))) (gI (h) 12 (0) (56))))
def w_X12_feeOf_60 (Q : Int32 → Hp → Prop) (a1 : Int32) (s1 : Int32) (s3 : Int32) (h : Hp) : Prop := vp_in (s3) 4 ∧ (vp_in (s1) 6 ∧ (vp_in (a1) 60 ∧ (vp_in ((4 : Int32)) 6 ∧ (w_X12_feeOf_74  Q (a1) (wI (wI (h) 122 (0) (tN (s1)) (gI (h) 129 (0) (tN (s3)))) 122 (0) (tN ((4 : Int32))) (gI (wI (h) 122 (0) (tN (s1)) (gI (h) 129 (0) (tN (s3)))) 142 (0) (tN (a1))))))))
def w_X12_feeOf_31 (Q : Int32 → Hp → Prop) (a1 : Int32) (s1 : Int32) (s2 : Int32) (h : Hp) : Prop := vp_in (s1) 6 ∧ (vp_in ((2 : Int32)) 6 ∧ (vp_in (a1) 60 ∧ (w_X12_feeOf_60  Q (a1) ((3 : Int32)) (gI (wI (wI (h) 122 (0) (tN (s1)) (s2)) 122 (0) (tN ((2 : Int32))) ((gI (wI (h) 122 (0) (tN (s1)) (s2)) 12 (0) (24)) / ((60 : Int32)))) 142 (0) (tN (a1))) (wI (wI (h) 122 (0) (tN (s1)) (s2)) 122 (0) (tN ((2 : Int32))) ((gI (wI (h) 122 (0) (tN (s1)) (s2)) 12 (0) (24)) / ((60 : Int32)))))))
def w_X12_feeOf_30 (Q : Int32 → Hp → Prop) (a1 : Int32) (s1 : Int32) (h : Hp) : Prop := w_X12_feeOf_31  Q (a1) (s1) ((0 : Int32)) (h)
def w_X12_feeOf_26 (Q : Int32 → Hp → Prop) (a1 : Int32) (s1 : Int32) (h : Hp) : Prop := w_X12_feeOf_31  Q (a1) (s1) ((1 : Int32)) (h)
def w_X12_feeOf_0 (Q : Int32 → Hp → Prop) (a1 : Int32) (h : Hp) : Prop := vp_in (a1) 60 ∧ (vp_in ((0 : Int32)) 6 ∧ (vp_in (a1) 60 ∧ (((gI (wI (h) 122 (0) (tN ((0 : Int32))) (gI (h) 143 (0) (tN (a1)))) 146 (0) (tN (a1))) < 0 → w_X12_feeOf_30  Q (a1) ((1 : Int32)) (wI (h) 122 (0) (tN ((0 : Int32))) (gI (h) 143 (0) (tN (a1))))) ∧ (¬ (gI (wI (h) 122 (0) (tN ((0 : Int32))) (gI (h) 143 (0) (tN (a1)))) 146 (0) (tN (a1))) < 0 → w_X12_feeOf_26  Q (a1) ((1 : Int32)) (wI (h) 122 (0) (tN ((0 : Int32))) (gI (h) 143 (0) (tN (a1))))))))
theorem s_X12_feeOf_139 {E : EnvT} {d : Nat} (cx : CX E "ShoreDayModel" cX12_feeOf 3 (some .int) "feeOf" (d + 2) 0 0) (hY : eY E = lay1) {Q : Int32 → Hp → Prop} (eq : EQ E 0 0 (fun r h2 => ∃ x, r = [vI x] ∧ Q x h2)) {a1 : Int32} {a2 : Int32} {h : Hp} {c n : Nat} (hc : c + 0 ≤ 0) (hn : n + 0 ≤ 0) (w : w_X12_feeOf_139  Q a1 a2 h) : SW E 139 ([some (vP (some (12, 0))), some (vI (a1)), some (vI (a2))], [], h, c, n) := by
  exact k_X12_feeOf_139 cx hY eq (by omega) (by omega) ⟨_, rfl, w⟩
theorem s_X12_feeOf_133 {E : EnvT} {d : Nat} (cx : CX E "ShoreDayModel" cX12_feeOf 3 (some .int) "feeOf" (d + 2) 0 0) (hY : eY E = lay1) {Q : Int32 → Hp → Prop} (eq : EQ E 0 0 (fun r h2 => ∃ x, r = [vI x] ∧ Q x h2)) {K92 : Int32 → Int32 → Hp → Prop} (hK92 : ∀ (a1 : Int32) (a2 : Int32) (h : Hp) (c n : Nat), c + 0 ≤ 0 → n + 0 ≤ 0 → K92 a1 a2 h → SW E 92 ([some (vP (some (12, 0))), some (vI (a1)), some (vI (a2))], [], h, c, n)) {a1 : Int32} {a2 : Int32} {h : Hp} {c n : Nat} (hc : c + 0 ≤ 0) (hn : n + 0 ≤ 0) (w : w_X12_feeOf_133 K92 Q a1 a2 h) : SW E 133 ([some (vP (some (12, 0))), some (vI (a1)), some (vI (a2))], [], h, c, n) := by
  refine k_X12_feeOf_133 cx hY ?_
  exact hK92 _ _ _ _ _ (by omega) (by omega) w
theorem s_X12_feeOf_126 {E : EnvT} {d : Nat} (cx : CX E "ShoreDayModel" cX12_feeOf 3 (some .int) "feeOf" (d + 2) 0 0) (hY : eY E = lay1) {Q : Int32 → Hp → Prop} (eq : EQ E 0 0 (fun r h2 => ∃ x, r = [vI x] ∧ Q x h2)) {a1 : Int32} {a2 : Int32} {h : Hp} {c n : Nat} (hc : c + 0 ≤ 0) (hn : n + 0 ≤ 0) (w : w_X12_feeOf_126  Q a1 a2 h) : SW E 126 ([some (vP (some (12, 0))), some (vI (a1)), some (vI (a2))], [], h, c, n) := by
  obtain ⟨G1, w⟩ := w
  exact k_X12_feeOf_126 cx hY G1 eq (by omega) (by omega) ⟨_, rfl, w⟩
theorem s_X12_feeOf_123 {E : EnvT} {d : Nat} (cx : CX E "ShoreDayModel" cX12_feeOf 3 (some .int) "feeOf" (d + 2) 0 0) (hY : eY E = lay1) {Q : Int32 → Hp → Prop} (eq : EQ E 0 0 (fun r h2 => ∃ x, r = [vI x] ∧ Q x h2)) {K92 : Int32 → Int32 → Hp → Prop} (hK92 : ∀ (a1 : Int32) (a2 : Int32) (h : Hp) (c n : Nat), c + 0 ≤ 0 → n + 0 ≤ 0 → K92 a1 a2 h → SW E 92 ([some (vP (some (12, 0))), some (vI (a1)), some (vI (a2))], [], h, c, n)) {a1 : Int32} {a2 : Int32} {s0 : Int32} {h : Hp} {c n : Nat} (hc : c + 0 ≤ 0) (hn : n + 0 ≤ 0) (w : w_X12_feeOf_123 K92 Q a1 a2 s0 h) : SW E 123 ([some (vP (some (12, 0))), some (vI (a1)), some (vI (a2))], [vI (s0)], h, c, n) := by
  refine k_X12_feeOf_123 cx hY (fun q => ?_) (fun q => ?_)
  · have w := w.1 q
    exact s_X12_feeOf_133 cx hY eq hK92 (by omega) (by omega) w
  · have w := w.2 q
    exact s_X12_feeOf_126 cx hY eq  (by omega) (by omega) w
theorem s_X12_feeOf_113 {E : EnvT} {d : Nat} (cx : CX E "ShoreDayModel" cX12_feeOf 3 (some .int) "feeOf" (d + 2) 0 0) (hY : eY E = lay1) {Q : Int32 → Hp → Prop} (eq : EQ E 0 0 (fun r h2 => ∃ x, r = [vI x] ∧ Q x h2)) {K92 : Int32 → Int32 → Hp → Prop} (hK92 : ∀ (a1 : Int32) (a2 : Int32) (h : Hp) (c n : Nat), c + 0 ≤ 0 → n + 0 ≤ 0 → K92 a1 a2 h → SW E 92 ([some (vP (some (12, 0))), some (vI (a1)), some (vI (a2))], [], h, c, n)) {a1 : Int32} {a2 : Int32} {h : Hp} {c n : Nat} (hc : c + 0 ≤ 0) (hn : n + 0 ≤ 0) (w : w_X12_feeOf_113 K92 Q a1 a2 h) : SW E 113 ([some (vP (some (12, 0))), some (vI (a1)), some (vI (a2))], [], h, c, n) := by
  obtain ⟨G1, w⟩ := w
  refine k_X12_feeOf_113 cx hY G1 (ctY hY (vc_X12_worth (d := d + 0) w)) (by omega) (by omega) (by omega) (fun r h2 hp => ?_)
  obtain ⟨r2, rfl, w⟩ := hp
  exact s_X12_feeOf_123 cx hY eq hK92 (by omega) (by omega) w
theorem s_X12_feeOf_92 {E : EnvT} {d : Nat} (cx : CX E "ShoreDayModel" cX12_feeOf 3 (some .int) "feeOf" (d + 2) 0 0) (hY : eY E = lay1) {Q : Int32 → Hp → Prop} (eq : EQ E 0 0 (fun r h2 => ∃ x, r = [vI x] ∧ Q x h2)) : ∀ (N : Nat) (a1 : Int32) (a2 : Int32) (h : Hp) (c n : Nat), c + 0 ≤ 0 → n + 0 ≤ 0 → w_X12_feeOf_92  Q N a1 a2 h → SW E 92 ([some (vP (some (12, 0))), some (vI (a1)), some (vI (a2))], [], h, c, n) := by
  intro N
  induction N with
  | zero =>
    intro _ _ h c n _ _ w
    exact w.elim
  | succ N ih =>
    intro a1 a2 h c n hc hn w
    obtain ⟨G1, w⟩ := w
    refine k_X12_feeOf_92 cx hY G1 (fun q => ?_) (fun q => ?_)
    · have w := w.1 q
      exact s_X12_feeOf_139 cx hY eq  (by omega) (by omega) w
    · have w := w.2 q
      exact s_X12_feeOf_113 cx hY eq ih (by omega) (by omega) w
theorem s_X12_feeOf_74 {E : EnvT} {d : Nat} (cx : CX E "ShoreDayModel" cX12_feeOf 3 (some .int) "feeOf" (d + 2) 0 0) (hY : eY E = lay1) {Q : Int32 → Hp → Prop} (eq : EQ E 0 0 (fun r h2 => ∃ x, r = [vI x] ∧ Q x h2)) {a1 : Int32} {x2 : Option AVal} {h : Hp} {c n : Nat} (hc : c + 0 ≤ 0) (hn : n + 0 ≤ 0) (w : w_X12_feeOf_74  Q a1 h) : SW E 74 ([some (vP (some (12, 0))), some (vI (a1)), x2], [], h, c, n) := by
  obtain ⟨G1, w⟩ := w
  refine k_X12_feeOf_74 cx hY G1 ?_
  obtain ⟨N1, w⟩ := w
  exact s_X12_feeOf_92 cx hY eq  _ _ _ _ _ _ (by omega) (by omega) w
theorem s_X12_feeOf_60 {E : EnvT} {d : Nat} (cx : CX E "ShoreDayModel" cX12_feeOf 3 (some .int) "feeOf" (d + 2) 0 0) (hY : eY E = lay1) {Q : Int32 → Hp → Prop} (eq : EQ E 0 0 (fun r h2 => ∃ x, r = [vI x] ∧ Q x h2)) {a1 : Int32} {x2 : Option AVal} {s1 : Int32} {s3 : Int32} {h : Hp} {c n : Nat} (hc : c + 0 ≤ 0) (hn : n + 0 ≤ 0) (w : w_X12_feeOf_60  Q a1 s1 s3 h) : SW E 60 ([some (vP (some (12, 0))), some (vI (a1)), x2], [vI (s3), vP (some (129, 0)), vI (s1), vP (some (122, 0))], h, c, n) := by
  obtain ⟨G1, G2, G3, G4, w⟩ := w
  refine k_X12_feeOf_60 cx hY G1 G2 G3 G4 ?_
  exact s_X12_feeOf_74 cx hY eq  (by omega) (by omega) w
theorem s_X12_feeOf_31 {E : EnvT} {d : Nat} (cx : CX E "ShoreDayModel" cX12_feeOf 3 (some .int) "feeOf" (d + 2) 0 0) (hY : eY E = lay1) {Q : Int32 → Hp → Prop} (eq : EQ E 0 0 (fun r h2 => ∃ x, r = [vI x] ∧ Q x h2)) {a1 : Int32} {x2 : Option AVal} {s1 : Int32} {s2 : Int32} {h : Hp} {c n : Nat} (hc : c + 0 ≤ 0) (hn : n + 0 ≤ 0) (w : w_X12_feeOf_31  Q a1 s1 s2 h) : SW E 31 ([some (vP (some (12, 0))), some (vI (a1)), x2], [vI (s2), vI (s1), vP (some (122, 0))], h, c, n) := by
  obtain ⟨G1, G2, G3, w⟩ := w
  refine k_X12_feeOf_31 cx hY G1 G2 G3 ?_
  exact s_X12_feeOf_60 cx hY eq  (by omega) (by omega) w
theorem s_X12_feeOf_30 {E : EnvT} {d : Nat} (cx : CX E "ShoreDayModel" cX12_feeOf 3 (some .int) "feeOf" (d + 2) 0 0) (hY : eY E = lay1) {Q : Int32 → Hp → Prop} (eq : EQ E 0 0 (fun r h2 => ∃ x, r = [vI x] ∧ Q x h2)) {a1 : Int32} {x2 : Option AVal} {s1 : Int32} {h : Hp} {c n : Nat} (hc : c + 0 ≤ 0) (hn : n + 0 ≤ 0) (w : w_X12_feeOf_30  Q a1 s1 h) : SW E 30 ([some (vP (some (12, 0))), some (vI (a1)), x2], [vI (s1), vP (some (122, 0))], h, c, n) := by
  refine k_X12_feeOf_30 cx hY ?_
  exact s_X12_feeOf_31 cx hY eq  (by omega) (by omega) w
theorem s_X12_feeOf_26 {E : EnvT} {d : Nat} (cx : CX E "ShoreDayModel" cX12_feeOf 3 (some .int) "feeOf" (d + 2) 0 0) (hY : eY E = lay1) {Q : Int32 → Hp → Prop} (eq : EQ E 0 0 (fun r h2 => ∃ x, r = [vI x] ∧ Q x h2)) {a1 : Int32} {x2 : Option AVal} {s1 : Int32} {h : Hp} {c n : Nat} (hc : c + 0 ≤ 0) (hn : n + 0 ≤ 0) (w : w_X12_feeOf_26  Q a1 s1 h) : SW E 26 ([some (vP (some (12, 0))), some (vI (a1)), x2], [vI (s1), vP (some (122, 0))], h, c, n) := by
  refine k_X12_feeOf_26 cx hY ?_
  exact s_X12_feeOf_31 cx hY eq  (by omega) (by omega) w
theorem s_X12_feeOf_0 {E : EnvT} {d : Nat} (cx : CX E "ShoreDayModel" cX12_feeOf 3 (some .int) "feeOf" (d + 2) 0 0) (hY : eY E = lay1) {Q : Int32 → Hp → Prop} (eq : EQ E 0 0 (fun r h2 => ∃ x, r = [vI x] ∧ Q x h2)) {a1 : Int32} {x2 : Option AVal} {h : Hp} {c n : Nat} (hc : c + 0 ≤ 0) (hn : n + 0 ≤ 0) (w : w_X12_feeOf_0  Q a1 h) : SW E 0 ([some (vP (some (12, 0))), some (vI (a1)), x2], [], h, c, n) := by
  obtain ⟨G1, G2, G3, w⟩ := w
  refine k_X12_feeOf_0 cx hY G1 G2 G3 (fun q => ?_) (fun q => ?_)
  · have w := w.1 q
    exact s_X12_feeOf_30 cx hY eq  (by omega) (by omega) w
  · have w := w.2 q
    exact s_X12_feeOf_26 cx hY eq  (by omega) (by omega) w
def wp_X12_feeOf (a1 : Int32) (h : Hp) (Q : Int32 → Hp → Prop) : Prop := w_X12_feeOf_0 Q a1 h
theorem vc_X12_feeOf {l : Launch} {d : Nat} {a1 : Int32} {h : Hp} {Q : Int32 → Hp → Prop} (w : wp_X12_feeOf a1 h Q) : Ct l lay1 yX12_feeOf cX12_feeOf 3 (some .int) (d + 2) 0 0 [vP (some (12, 0)), vI a1] h (fun r h2 => ∃ x, r = [vI x] ∧ Q x h2) := by
  exact Ct.of (by decide) (Nat.le_of_ble_eq_true rfl) fun E cx eq hl hY => s_X12_feeOf_0 cx hY eq (Nat.le_refl _) (Nat.le_refl _) w
def w_X12_lands_119 (Q : Hp → Prop) (a1 : Int32) (s1 : Int32) (s2 : Int32) (h : Hp) : Prop := vp_in (s1) 60 ∧ (Q (wI (h) 150 (0) (tN (s1)) (s2)))
def w_X12_lands_108 (Q : Hp → Prop) (a1 : Int32) (s1 : Int32) (h : Hp) : Prop := vp_in (a1) 60 ∧ (w_X12_lands_119  Q (a1) (s1) ((gI (h) 12 (0) (24)) + (gI (h) 147 (0) (tN (a1)))) (h))
def w_X12_lands_104 (Q : Hp → Prop) (a1 : Int32) (s1 : Int32) (h : Hp) : Prop := w_X12_lands_119  Q (a1) (s1) ((-1 : Int32)) (h)
def w_X12_lands_86 (Q : Hp → Prop) (a1 : Int32) (s1 : Int32) (h : Hp) : Prop := vp_in (a1) 60 ∧ (vp_in (gI (h) 146 (0) (tN (a1))) 8 ∧ (((gI (h) 136 (0) (tN (gI (h) 146 (0) (tN (a1))))) < (gI (h) 12 (0) (24)) → w_X12_lands_108  Q (a1) (s1) (h)) ∧ (¬ (gI (h) 136 (0) (tN (gI (h) 146 (0) (tN (a1))))) < (gI (h) 12 (0) (24)) → w_X12_lands_104  Q (a1) (s1) (h))))
def w_X12_lands_57 (Q : Hp → Prop) (a1 : Int32) (h : Hp) : Prop := vp_in (a1) 60 ∧ (vp_in (a1) 60 ∧ (((gI (wI (h) 12 (0) 56 ((gI (h) 12 (0) (56)) + (gI (h) 143 (0) (tN (a1))))) 146 (0) (tN (a1))) < 0 → w_X12_lands_108  Q (a1) (a1) (wI (h) 12 (0) 56 ((gI (h) 12 (0) (56)) + (gI (h) 143 (0) (tN (a1)))))) ∧ (¬ (gI (wI (h) 12 (0) 56 ((gI (h) 12 (0) (56)) + (gI (h) 143 (0) (tN (a1))))) 146 (0) (tN (a1))) < 0 → w_X12_lands_86  Q (a1) (a1) (wI (h) 12 (0) 56 ((gI (h) 12 (0) (56)) + (gI (h) 143 (0) (tN (a1))))))))
def w_X12_lands_40 (Q : Hp → Prop) (a1 : Int32) (s1 : Int32) (s2 : Int32) (s3 : Int32) (h : Hp) : Prop := vp_in (s1) 60 ∧ (vp_in (a1) 60 ∧ (w_X12_lands_57  Q (a1) (wI (wI (h) 153 (0) (tN (s1)) ((s2) * (s3))) 12 (0) 55 ((gI (wI (h) 153 (0) (tN (s1)) ((s2) * (s3))) 12 (0) (55)) + (gI (wI (h) 153 (0) (tN (s1)) ((s2) * (s3))) 153 (0) (tN (a1)))))))
def w_X12_lands_24 (Q : Hp → Prop) (a1 : Int32) (h : Hp) : Prop := vp_in (a1) 60 ∧ (wp_X12_feeOf (a1) (h) (fun r2 h2 => w_X12_lands_40  Q (a1) (a1) (gI (h) 143 (0) (tN (a1))) (r2) (h2)))
def w_X12_lands_0 (Q : Hp → Prop) (a1 : Int32) (h : Hp) : Prop := vp_in (a1) 60 ∧ (vp_in (a1) 60 ∧ (vp_in (a1) 60 ∧ (w_X12_lands_24  Q (a1) (wI (wI (wI (h) 148 (0) (tN (a1)) ((2 : Int32))) 149 (0) (tN (a1)) ((-1 : Int32))) 151 (0) (tN (a1)) (gI (wI (wI (h) 148 (0) (tN (a1)) ((2 : Int32))) 149 (0) (tN (a1)) ((-1 : Int32))) 12 (0) (24))))))
theorem s_X12_lands_119 {E : EnvT} {d : Nat} (cx : CX E "ShoreDayModel" cX12_lands 2 none "lands" (d + 3) 0 0) (hY : eY E = lay1) {Q : Hp → Prop} (eq : EQ E 0 0 (fun r h2 => r = [] ∧ Q h2)) {a1 : Int32} {s1 : Int32} {s2 : Int32} {h : Hp} {c n : Nat} (hc : c + 0 ≤ 0) (hn : n + 0 ≤ 0) (w : w_X12_lands_119  Q a1 s1 s2 h) : SW E 119 ([some (vP (some (12, 0))), some (vI (a1))], [vI (s2), vI (s1), vP (some (150, 0))], h, c, n) := by
  obtain ⟨G1, w⟩ := w
  exact k_X12_lands_119 cx hY G1 eq (by omega) (by omega) ⟨rfl, w⟩
theorem s_X12_lands_108 {E : EnvT} {d : Nat} (cx : CX E "ShoreDayModel" cX12_lands 2 none "lands" (d + 3) 0 0) (hY : eY E = lay1) {Q : Hp → Prop} (eq : EQ E 0 0 (fun r h2 => r = [] ∧ Q h2)) {a1 : Int32} {s1 : Int32} {h : Hp} {c n : Nat} (hc : c + 0 ≤ 0) (hn : n + 0 ≤ 0) (w : w_X12_lands_108  Q a1 s1 h) : SW E 108 ([some (vP (some (12, 0))), some (vI (a1))], [vI (s1), vP (some (150, 0))], h, c, n) := by
  obtain ⟨G1, w⟩ := w
  refine k_X12_lands_108 cx hY G1 ?_
  exact s_X12_lands_119 cx hY eq  (by omega) (by omega) w
theorem s_X12_lands_104 {E : EnvT} {d : Nat} (cx : CX E "ShoreDayModel" cX12_lands 2 none "lands" (d + 3) 0 0) (hY : eY E = lay1) {Q : Hp → Prop} (eq : EQ E 0 0 (fun r h2 => r = [] ∧ Q h2)) {a1 : Int32} {s1 : Int32} {h : Hp} {c n : Nat} (hc : c + 0 ≤ 0) (hn : n + 0 ≤ 0) (w : w_X12_lands_104  Q a1 s1 h) : SW E 104 ([some (vP (some (12, 0))), some (vI (a1))], [vI (s1), vP (some (150, 0))], h, c, n) := by
  refine k_X12_lands_104 cx hY ?_
  exact s_X12_lands_119 cx hY eq  (by omega) (by omega) w
theorem s_X12_lands_86 {E : EnvT} {d : Nat} (cx : CX E "ShoreDayModel" cX12_lands 2 none "lands" (d + 3) 0 0) (hY : eY E = lay1) {Q : Hp → Prop} (eq : EQ E 0 0 (fun r h2 => r = [] ∧ Q h2)) {a1 : Int32} {s1 : Int32} {h : Hp} {c n : Nat} (hc : c + 0 ≤ 0) (hn : n + 0 ≤ 0) (w : w_X12_lands_86  Q a1 s1 h) : SW E 86 ([some (vP (some (12, 0))), some (vI (a1))], [vI (s1), vP (some (150, 0))], h, c, n) := by
  obtain ⟨G1, G2, w⟩ := w
  refine k_X12_lands_86 cx hY G1 G2 (fun q => ?_) (fun q => ?_)
  · have w := w.1 q
    exact s_X12_lands_108 cx hY eq  (by omega) (by omega) w
  · have w := w.2 q
    exact s_X12_lands_104 cx hY eq  (by omega) (by omega) w
theorem s_X12_lands_57 {E : EnvT} {d : Nat} (cx : CX E "ShoreDayModel" cX12_lands 2 none "lands" (d + 3) 0 0) (hY : eY E = lay1) {Q : Hp → Prop} (eq : EQ E 0 0 (fun r h2 => r = [] ∧ Q h2)) {a1 : Int32} {h : Hp} {c n : Nat} (hc : c + 0 ≤ 0) (hn : n + 0 ≤ 0) (w : w_X12_lands_57  Q a1 h) : SW E 57 ([some (vP (some (12, 0))), some (vI (a1))], [], h, c, n) := by
  obtain ⟨G1, G2, w⟩ := w
  refine k_X12_lands_57 cx hY G1 G2 (fun q => ?_) (fun q => ?_)
  · have w := w.1 q
    exact s_X12_lands_108 cx hY eq  (by omega) (by omega) w
  · have w := w.2 q
    exact s_X12_lands_86 cx hY eq  (by omega) (by omega) w
theorem s_X12_lands_40 {E : EnvT} {d : Nat} (cx : CX E "ShoreDayModel" cX12_lands 2 none "lands" (d + 3) 0 0) (hY : eY E = lay1) {Q : Hp → Prop} (eq : EQ E 0 0 (fun r h2 => r = [] ∧ Q h2)) {a1 : Int32} {s1 : Int32} {s2 : Int32} {s3 : Int32} {h : Hp} {c n : Nat} (hc : c + 0 ≤ 0) (hn : n + 0 ≤ 0) (w : w_X12_lands_40  Q a1 s1 s2 s3 h) : SW E 40 ([some (vP (some (12, 0))), some (vI (a1))], [vI (s3), vI (s2), vI (s1), vP (some (153, 0))], h, c, n) := by
  obtain ⟨G1, G2, w⟩ := w
  refine k_X12_lands_40 cx hY G1 G2 ?_
  exact s_X12_lands_57 cx hY eq  (by omega) (by omega) w
theorem s_X12_lands_24 {E : EnvT} {d : Nat} (cx : CX E "ShoreDayModel" cX12_lands 2 none "lands" (d + 3) 0 0) (hY : eY E = lay1) {Q : Hp → Prop} (eq : EQ E 0 0 (fun r h2 => r = [] ∧ Q h2)) {a1 : Int32} {h : Hp} {c n : Nat} (hc : c + 0 ≤ 0) (hn : n + 0 ≤ 0) (w : w_X12_lands_24  Q a1 h) : SW E 24 ([some (vP (some (12, 0))), some (vI (a1))], [], h, c, n) := by
  obtain ⟨G1, w⟩ := w
  refine k_X12_lands_24 cx hY G1 (ctY hY (vc_X12_feeOf (d := d + 0) w)) (by omega) (by omega) (by omega) (fun r h2 hp => ?_)
  obtain ⟨r2, rfl, w⟩ := hp
  exact s_X12_lands_40 cx hY eq  (by omega) (by omega) w
theorem s_X12_lands_0 {E : EnvT} {d : Nat} (cx : CX E "ShoreDayModel" cX12_lands 2 none "lands" (d + 3) 0 0) (hY : eY E = lay1) {Q : Hp → Prop} (eq : EQ E 0 0 (fun r h2 => r = [] ∧ Q h2)) {a1 : Int32} {h : Hp} {c n : Nat} (hc : c + 0 ≤ 0) (hn : n + 0 ≤ 0) (w : w_X12_lands_0  Q a1 h) : SW E 0 ([some (vP (some (12, 0))), some (vI (a1))], [], h, c, n) := by
  obtain ⟨G1, G2, G3, w⟩ := w
  refine k_X12_lands_0 cx hY G1 G2 G3 ?_
  exact s_X12_lands_24 cx hY eq  (by omega) (by omega) w
def wp_X12_lands (a1 : Int32) (h : Hp) (Q : Hp → Prop) : Prop := w_X12_lands_0 Q a1 h
theorem vc_X12_lands {l : Launch} {d : Nat} {a1 : Int32} {h : Hp} {Q : Hp → Prop} (w : wp_X12_lands a1 h Q) : Ct l lay1 yX12_lands cX12_lands 2 none (d + 3) 0 0 [vP (some (12, 0)), vI a1] h (fun r h2 => r = [] ∧ Q h2) := by
  exact Ct.of (by decide) (Nat.le_of_ble_eq_true rfl) fun E cx eq hl hY => s_X12_lands_0 cx hY eq (Nat.le_refl _) (Nat.le_refl _) w
def w_X12_arrives_103 (Q : Hp → Prop) (a1 : Int32) (a2 : Int32) (a3 : Int32) (h : Hp) : Prop := Q (h)
def w_X12_arrives_97 (K33 : Int32 → Int32 → Int32 → Hp → Prop) (Q : Hp → Prop) (a1 : Int32) (a2 : Int32) (a3 : Int32) (h : Hp) : Prop := K33 (a1) (a2) (a3 + 1) (h)
def w_X12_arrives_73 (K33 : Int32 → Int32 → Int32 → Hp → Prop) (Q : Hp → Prop) (a1 : Int32) (a2 : Int32) (a3 : Int32) (h : Hp) : Prop := vp_in (a3) 60 ∧ (vp_in (a3) 60 ∧ (vp_in (a3) 60 ∧ (w_X12_arrives_97 K33 Q (a1) (a2) (a3) (wI (wI (wI (h) 148 (0) (tN (a3)) ((5 : Int32))) 149 (0) (tN (a3)) ((-1 : Int32))) 152 (0) (tN (a3)) (gI (wI (wI (h) 148 (0) (tN (a3)) ((5 : Int32))) 149 (0) (tN (a3)) ((-1 : Int32))) 12 (0) (24))))))
def w_X12_arrives_70 (K33 : Int32 → Int32 → Int32 → Hp → Prop) (Q : Hp → Prop) (a1 : Int32) (a2 : Int32) (a3 : Int32) (h : Hp) : Prop := w_X12_arrives_97 K33 Q (a1) (a2) (a3) (h)
def w_X12_arrives_65 (K33 : Int32 → Int32 → Int32 → Hp → Prop) (Q : Hp → Prop) (a1 : Int32) (a2 : Int32) (a3 : Int32) (h : Hp) : Prop := wp_X12_lands (a3) (h) (fun h2 => w_X12_arrives_70 K33 Q (a1) (a2) (a3) (h2))
def w_X12_arrives_61 (K33 : Int32 → Int32 → Int32 → Hp → Prop) (Q : Hp → Prop) (a1 : Int32) (a2 : Int32) (a3 : Int32) (h : Hp) : Prop := ((a2) = 0 → w_X12_arrives_73 K33 Q (a1) (a2) (a3) (h)) ∧ (¬ (a2) = 0 → w_X12_arrives_65 K33 Q (a1) (a2) (a3) (h))
def w_X12_arrives_51 (K33 : Int32 → Int32 → Int32 → Hp → Prop) (Q : Hp → Prop) (a1 : Int32) (a2 : Int32) (a3 : Int32) (h : Hp) : Prop := vp_in (a3) 60 ∧ ((¬ (gI (h) 149 (0) (tN (a3))) = (a1) → w_X12_arrives_97 K33 Q (a1) (a2) (a3) (h)) ∧ ((gI (h) 149 (0) (tN (a3))) = (a1) → w_X12_arrives_61 K33 Q (a1) (a2) (a3) (h)))
def w_X12_arrives_41 (K33 : Int32 → Int32 → Int32 → Hp → Prop) (Q : Hp → Prop) (a1 : Int32) (a2 : Int32) (a3 : Int32) (h : Hp) : Prop := vp_in (a3) 60 ∧ ((¬ (gI (h) 148 (0) (tN (a3))) = ((1 : Int32)) → w_X12_arrives_97 K33 Q (a1) (a2) (a3) (h)) ∧ ((gI (h) 148 (0) (tN (a3))) = ((1 : Int32)) → w_X12_arrives_51 K33 Q (a1) (a2) (a3) (h)))
def w_X12_arrives_33 (Q : Hp → Prop) : Nat → Int32 → Int32 → Int32 → Hp → Prop
  | 0 => fun _ _ _ _ => False
  | N + 1 => fun a1 a2 a3 h => ((gI (h) 12 (0) (41)) ≤ (a3) → w_X12_arrives_103  Q (a1) (a2) (a3) (h)) ∧ (¬ (gI (h) 12 (0) (41)) ≤ (a3) → w_X12_arrives_41 (w_X12_arrives_33  Q N) Q (a1) (a2) (a3) (h))
def w_X12_arrives_30 (Q : Hp → Prop) (a1 : Int32) (a2 : Int32) (s1 : Int32) (s2 : Int32) (h : Hp) : Prop := vp_in (s1) 6 ∧ (∃ N, w_X12_arrives_33  Q N (a1) (a2) ((0 : Int32)) (wI (h) 133 (0) (tN (s1)) (s2)))
def w_X12_arrives_29 (Q : Hp → Prop) (a1 : Int32) (a2 : Int32) (s1 : Int32) (h : Hp) : Prop := w_X12_arrives_30  Q (a1) (a2) (s1) ((0 : Int32)) (h)
def w_X12_arrives_25 (Q : Hp → Prop) (a1 : Int32) (a2 : Int32) (s1 : Int32) (h : Hp) : Prop := w_X12_arrives_30  Q (a1) (a2) (s1) ((2 : Int32)) (h)
def w_X12_arrives_15 (Q : Hp → Prop) (a1 : Int32) (s0 : Int32) (h : Hp) : Prop := ((s0) = 0 → w_X12_arrives_29  Q (a1) (s0) (a1) (h)) ∧ (¬ (s0) = 0 → w_X12_arrives_25  Q (a1) (s0) (a1) (h))
def w_X12_arrives_14 (Q : Hp → Prop) (a1 : Int32) (h : Hp) : Prop := w_X12_arrives_15  Q (a1) ((0 : Int32)) (h)
def w_X12_arrives_10 (Q : Hp → Prop) (a1 : Int32) (h : Hp) : Prop := w_X12_arrives_15  Q (a1) ((1 : Int32)) (h)
def w_X12_arrives_0 (Q : Hp → Prop) (a1 : Int32) (h : Hp) : Prop := vp_in (a1) 6 ∧ ((¬ (gI (h) 133 (0) (tN (a1))) = ((1 : Int32)) → w_X12_arrives_14  Q (a1) (h)) ∧ ((gI (h) 133 (0) (tN (a1))) = ((1 : Int32)) → w_X12_arrives_10  Q (a1) (h)))
theorem s_X12_arrives_103 {E : EnvT} {d : Nat} (cx : CX E "ShoreDayModel" cX12_arrives 4 none "arrives" (d + 4) 0 0) (hY : eY E = lay1) {Q : Hp → Prop} (eq : EQ E 0 0 (fun r h2 => r = [] ∧ Q h2)) {a1 : Int32} {a2 : Int32} {a3 : Int32} {h : Hp} {c n : Nat} (hc : c + 0 ≤ 0) (hn : n + 0 ≤ 0) (w : w_X12_arrives_103  Q a1 a2 a3 h) : SW E 103 ([some (vP (some (12, 0))), some (vI (a1)), some (vI (a2)), some (vI (a3))], [], h, c, n) := by
  exact k_X12_arrives_103 cx hY eq (by omega) (by omega) ⟨rfl, w⟩
theorem s_X12_arrives_97 {E : EnvT} {d : Nat} (cx : CX E "ShoreDayModel" cX12_arrives 4 none "arrives" (d + 4) 0 0) (hY : eY E = lay1) {Q : Hp → Prop} (eq : EQ E 0 0 (fun r h2 => r = [] ∧ Q h2)) {K33 : Int32 → Int32 → Int32 → Hp → Prop} (hK33 : ∀ (a1 : Int32) (a2 : Int32) (a3 : Int32) (h : Hp) (c n : Nat), c + 0 ≤ 0 → n + 0 ≤ 0 → K33 a1 a2 a3 h → SW E 33 ([some (vP (some (12, 0))), some (vI (a1)), some (vI (a2)), some (vI (a3))], [], h, c, n)) {a1 : Int32} {a2 : Int32} {a3 : Int32} {h : Hp} {c n : Nat} (hc : c + 0 ≤ 0) (hn : n + 0 ≤ 0) (w : w_X12_arrives_97 K33 Q a1 a2 a3 h) : SW E 97 ([some (vP (some (12, 0))), some (vI (a1)), some (vI (a2)), some (vI (a3))], [], h, c, n) := by
  refine k_X12_arrives_97 cx hY ?_
  exact hK33 _ _ _ _ _ _ (by omega) (by omega) w
theorem s_X12_arrives_73 {E : EnvT} {d : Nat} (cx : CX E "ShoreDayModel" cX12_arrives 4 none "arrives" (d + 4) 0 0) (hY : eY E = lay1) {Q : Hp → Prop} (eq : EQ E 0 0 (fun r h2 => r = [] ∧ Q h2)) {K33 : Int32 → Int32 → Int32 → Hp → Prop} (hK33 : ∀ (a1 : Int32) (a2 : Int32) (a3 : Int32) (h : Hp) (c n : Nat), c + 0 ≤ 0 → n + 0 ≤ 0 → K33 a1 a2 a3 h → SW E 33 ([some (vP (some (12, 0))), some (vI (a1)), some (vI (a2)), some (vI (a3))], [], h, c, n)) {a1 : Int32} {a2 : Int32} {a3 : Int32} {h : Hp} {c n : Nat} (hc : c + 0 ≤ 0) (hn : n + 0 ≤ 0) (w : w_X12_arrives_73 K33 Q a1 a2 a3 h) : SW E 73 ([some (vP (some (12, 0))), some (vI (a1)), some (vI (a2)), some (vI (a3))], [], h, c, n) := by
  obtain ⟨G1, G2, G3, w⟩ := w
  refine k_X12_arrives_73 cx hY G1 G2 G3 ?_
  exact s_X12_arrives_97 cx hY eq hK33 (by omega) (by omega) w
theorem s_X12_arrives_70 {E : EnvT} {d : Nat} (cx : CX E "ShoreDayModel" cX12_arrives 4 none "arrives" (d + 4) 0 0) (hY : eY E = lay1) {Q : Hp → Prop} (eq : EQ E 0 0 (fun r h2 => r = [] ∧ Q h2)) {K33 : Int32 → Int32 → Int32 → Hp → Prop} (hK33 : ∀ (a1 : Int32) (a2 : Int32) (a3 : Int32) (h : Hp) (c n : Nat), c + 0 ≤ 0 → n + 0 ≤ 0 → K33 a1 a2 a3 h → SW E 33 ([some (vP (some (12, 0))), some (vI (a1)), some (vI (a2)), some (vI (a3))], [], h, c, n)) {a1 : Int32} {a2 : Int32} {a3 : Int32} {h : Hp} {c n : Nat} (hc : c + 0 ≤ 0) (hn : n + 0 ≤ 0) (w : w_X12_arrives_70 K33 Q a1 a2 a3 h) : SW E 70 ([some (vP (some (12, 0))), some (vI (a1)), some (vI (a2)), some (vI (a3))], [], h, c, n) := by
  refine k_X12_arrives_70 cx hY ?_
  exact s_X12_arrives_97 cx hY eq hK33 (by omega) (by omega) w
theorem s_X12_arrives_65 {E : EnvT} {d : Nat} (cx : CX E "ShoreDayModel" cX12_arrives 4 none "arrives" (d + 4) 0 0) (hY : eY E = lay1) {Q : Hp → Prop} (eq : EQ E 0 0 (fun r h2 => r = [] ∧ Q h2)) {K33 : Int32 → Int32 → Int32 → Hp → Prop} (hK33 : ∀ (a1 : Int32) (a2 : Int32) (a3 : Int32) (h : Hp) (c n : Nat), c + 0 ≤ 0 → n + 0 ≤ 0 → K33 a1 a2 a3 h → SW E 33 ([some (vP (some (12, 0))), some (vI (a1)), some (vI (a2)), some (vI (a3))], [], h, c, n)) {a1 : Int32} {a2 : Int32} {a3 : Int32} {h : Hp} {c n : Nat} (hc : c + 0 ≤ 0) (hn : n + 0 ≤ 0) (w : w_X12_arrives_65 K33 Q a1 a2 a3 h) : SW E 65 ([some (vP (some (12, 0))), some (vI (a1)), some (vI (a2)), some (vI (a3))], [], h, c, n) := by
  refine k_X12_arrives_65 cx hY (ctY hY (vc_X12_lands (d := d + 0) w)) (by omega) (by omega) (by omega) (fun r h2 hp => ?_)
  obtain ⟨rfl, w⟩ := hp
  exact s_X12_arrives_70 cx hY eq hK33 (by omega) (by omega) w
theorem s_X12_arrives_61 {E : EnvT} {d : Nat} (cx : CX E "ShoreDayModel" cX12_arrives 4 none "arrives" (d + 4) 0 0) (hY : eY E = lay1) {Q : Hp → Prop} (eq : EQ E 0 0 (fun r h2 => r = [] ∧ Q h2)) {K33 : Int32 → Int32 → Int32 → Hp → Prop} (hK33 : ∀ (a1 : Int32) (a2 : Int32) (a3 : Int32) (h : Hp) (c n : Nat), c + 0 ≤ 0 → n + 0 ≤ 0 → K33 a1 a2 a3 h → SW E 33 ([some (vP (some (12, 0))), some (vI (a1)), some (vI (a2)), some (vI (a3))], [], h, c, n)) {a1 : Int32} {a2 : Int32} {a3 : Int32} {h : Hp} {c n : Nat} (hc : c + 0 ≤ 0) (hn : n + 0 ≤ 0) (w : w_X12_arrives_61 K33 Q a1 a2 a3 h) : SW E 61 ([some (vP (some (12, 0))), some (vI (a1)), some (vI (a2)), some (vI (a3))], [], h, c, n) := by
  refine k_X12_arrives_61 cx hY (fun q => ?_) (fun q => ?_)
  · have w := w.1 q
    exact s_X12_arrives_73 cx hY eq hK33 (by omega) (by omega) w
  · have w := w.2 q
    exact s_X12_arrives_65 cx hY eq hK33 (by omega) (by omega) w
theorem s_X12_arrives_51 {E : EnvT} {d : Nat} (cx : CX E "ShoreDayModel" cX12_arrives 4 none "arrives" (d + 4) 0 0) (hY : eY E = lay1) {Q : Hp → Prop} (eq : EQ E 0 0 (fun r h2 => r = [] ∧ Q h2)) {K33 : Int32 → Int32 → Int32 → Hp → Prop} (hK33 : ∀ (a1 : Int32) (a2 : Int32) (a3 : Int32) (h : Hp) (c n : Nat), c + 0 ≤ 0 → n + 0 ≤ 0 → K33 a1 a2 a3 h → SW E 33 ([some (vP (some (12, 0))), some (vI (a1)), some (vI (a2)), some (vI (a3))], [], h, c, n)) {a1 : Int32} {a2 : Int32} {a3 : Int32} {h : Hp} {c n : Nat} (hc : c + 0 ≤ 0) (hn : n + 0 ≤ 0) (w : w_X12_arrives_51 K33 Q a1 a2 a3 h) : SW E 51 ([some (vP (some (12, 0))), some (vI (a1)), some (vI (a2)), some (vI (a3))], [], h, c, n) := by
  obtain ⟨G1, w⟩ := w
  refine k_X12_arrives_51 cx hY G1 (fun q => ?_) (fun q => ?_)
  · have w := w.1 q
    exact s_X12_arrives_97 cx hY eq hK33 (by omega) (by omega) w
  · have w := w.2 q
    exact s_X12_arrives_61 cx hY eq hK33 (by omega) (by omega) w
theorem s_X12_arrives_41 {E : EnvT} {d : Nat} (cx : CX E "ShoreDayModel" cX12_arrives 4 none "arrives" (d + 4) 0 0) (hY : eY E = lay1) {Q : Hp → Prop} (eq : EQ E 0 0 (fun r h2 => r = [] ∧ Q h2)) {K33 : Int32 → Int32 → Int32 → Hp → Prop} (hK33 : ∀ (a1 : Int32) (a2 : Int32) (a3 : Int32) (h : Hp) (c n : Nat), c + 0 ≤ 0 → n + 0 ≤ 0 → K33 a1 a2 a3 h → SW E 33 ([some (vP (some (12, 0))), some (vI (a1)), some (vI (a2)), some (vI (a3))], [], h, c, n)) {a1 : Int32} {a2 : Int32} {a3 : Int32} {h : Hp} {c n : Nat} (hc : c + 0 ≤ 0) (hn : n + 0 ≤ 0) (w : w_X12_arrives_41 K33 Q a1 a2 a3 h) : SW E 41 ([some (vP (some (12, 0))), some (vI (a1)), some (vI (a2)), some (vI (a3))], [], h, c, n) := by
  obtain ⟨G1, w⟩ := w
  refine k_X12_arrives_41 cx hY G1 (fun q => ?_) (fun q => ?_)
  · have w := w.1 q
    exact s_X12_arrives_97 cx hY eq hK33 (by omega) (by omega) w
  · have w := w.2 q
    exact s_X12_arrives_51 cx hY eq hK33 (by omega) (by omega) w
theorem s_X12_arrives_33 {E : EnvT} {d : Nat} (cx : CX E "ShoreDayModel" cX12_arrives 4 none "arrives" (d + 4) 0 0) (hY : eY E = lay1) {Q : Hp → Prop} (eq : EQ E 0 0 (fun r h2 => r = [] ∧ Q h2)) : ∀ (N : Nat) (a1 : Int32) (a2 : Int32) (a3 : Int32) (h : Hp) (c n : Nat), c + 0 ≤ 0 → n + 0 ≤ 0 → w_X12_arrives_33  Q N a1 a2 a3 h → SW E 33 ([some (vP (some (12, 0))), some (vI (a1)), some (vI (a2)), some (vI (a3))], [], h, c, n) := by
  intro N
  induction N with
  | zero =>
    intro _ _ _ h c n _ _ w
    exact w.elim
  | succ N ih =>
    intro a1 a2 a3 h c n hc hn w
    refine k_X12_arrives_33 cx hY (fun q => ?_) (fun q => ?_)
    · have w := w.1 q
      exact s_X12_arrives_103 cx hY eq  (by omega) (by omega) w
    · have w := w.2 q
      exact s_X12_arrives_41 cx hY eq ih (by omega) (by omega) w
theorem s_X12_arrives_30 {E : EnvT} {d : Nat} (cx : CX E "ShoreDayModel" cX12_arrives 4 none "arrives" (d + 4) 0 0) (hY : eY E = lay1) {Q : Hp → Prop} (eq : EQ E 0 0 (fun r h2 => r = [] ∧ Q h2)) {a1 : Int32} {a2 : Int32} {x3 : Option AVal} {s1 : Int32} {s2 : Int32} {h : Hp} {c n : Nat} (hc : c + 0 ≤ 0) (hn : n + 0 ≤ 0) (w : w_X12_arrives_30  Q a1 a2 s1 s2 h) : SW E 30 ([some (vP (some (12, 0))), some (vI (a1)), some (vI (a2)), x3], [vI (s2), vI (s1), vP (some (133, 0))], h, c, n) := by
  obtain ⟨G1, w⟩ := w
  refine k_X12_arrives_30 cx hY G1 ?_
  obtain ⟨N1, w⟩ := w
  exact s_X12_arrives_33 cx hY eq  _ _ _ _ _ _ _ (by omega) (by omega) w
theorem s_X12_arrives_29 {E : EnvT} {d : Nat} (cx : CX E "ShoreDayModel" cX12_arrives 4 none "arrives" (d + 4) 0 0) (hY : eY E = lay1) {Q : Hp → Prop} (eq : EQ E 0 0 (fun r h2 => r = [] ∧ Q h2)) {a1 : Int32} {a2 : Int32} {x3 : Option AVal} {s1 : Int32} {h : Hp} {c n : Nat} (hc : c + 0 ≤ 0) (hn : n + 0 ≤ 0) (w : w_X12_arrives_29  Q a1 a2 s1 h) : SW E 29 ([some (vP (some (12, 0))), some (vI (a1)), some (vI (a2)), x3], [vI (s1), vP (some (133, 0))], h, c, n) := by
  refine k_X12_arrives_29 cx hY ?_
  exact s_X12_arrives_30 cx hY eq  (by omega) (by omega) w
theorem s_X12_arrives_25 {E : EnvT} {d : Nat} (cx : CX E "ShoreDayModel" cX12_arrives 4 none "arrives" (d + 4) 0 0) (hY : eY E = lay1) {Q : Hp → Prop} (eq : EQ E 0 0 (fun r h2 => r = [] ∧ Q h2)) {a1 : Int32} {a2 : Int32} {x3 : Option AVal} {s1 : Int32} {h : Hp} {c n : Nat} (hc : c + 0 ≤ 0) (hn : n + 0 ≤ 0) (w : w_X12_arrives_25  Q a1 a2 s1 h) : SW E 25 ([some (vP (some (12, 0))), some (vI (a1)), some (vI (a2)), x3], [vI (s1), vP (some (133, 0))], h, c, n) := by
  refine k_X12_arrives_25 cx hY ?_
  exact s_X12_arrives_30 cx hY eq  (by omega) (by omega) w
theorem s_X12_arrives_15 {E : EnvT} {d : Nat} (cx : CX E "ShoreDayModel" cX12_arrives 4 none "arrives" (d + 4) 0 0) (hY : eY E = lay1) {Q : Hp → Prop} (eq : EQ E 0 0 (fun r h2 => r = [] ∧ Q h2)) {a1 : Int32} {x2 : Option AVal} {x3 : Option AVal} {s0 : Int32} {h : Hp} {c n : Nat} (hc : c + 0 ≤ 0) (hn : n + 0 ≤ 0) (w : w_X12_arrives_15  Q a1 s0 h) : SW E 15 ([some (vP (some (12, 0))), some (vI (a1)), x2, x3], [vI (s0)], h, c, n) := by
  refine k_X12_arrives_15 cx hY (fun q => ?_) (fun q => ?_)
  · have w := w.1 q
    exact s_X12_arrives_29 cx hY eq  (by omega) (by omega) w
  · have w := w.2 q
    exact s_X12_arrives_25 cx hY eq  (by omega) (by omega) w
theorem s_X12_arrives_14 {E : EnvT} {d : Nat} (cx : CX E "ShoreDayModel" cX12_arrives 4 none "arrives" (d + 4) 0 0) (hY : eY E = lay1) {Q : Hp → Prop} (eq : EQ E 0 0 (fun r h2 => r = [] ∧ Q h2)) {a1 : Int32} {x2 : Option AVal} {x3 : Option AVal} {h : Hp} {c n : Nat} (hc : c + 0 ≤ 0) (hn : n + 0 ≤ 0) (w : w_X12_arrives_14  Q a1 h) : SW E 14 ([some (vP (some (12, 0))), some (vI (a1)), x2, x3], [], h, c, n) := by
  refine k_X12_arrives_14 cx hY ?_
  exact s_X12_arrives_15 cx hY eq  (by omega) (by omega) w
theorem s_X12_arrives_10 {E : EnvT} {d : Nat} (cx : CX E "ShoreDayModel" cX12_arrives 4 none "arrives" (d + 4) 0 0) (hY : eY E = lay1) {Q : Hp → Prop} (eq : EQ E 0 0 (fun r h2 => r = [] ∧ Q h2)) {a1 : Int32} {x2 : Option AVal} {x3 : Option AVal} {h : Hp} {c n : Nat} (hc : c + 0 ≤ 0) (hn : n + 0 ≤ 0) (w : w_X12_arrives_10  Q a1 h) : SW E 10 ([some (vP (some (12, 0))), some (vI (a1)), x2, x3], [], h, c, n) := by
  refine k_X12_arrives_10 cx hY ?_
  exact s_X12_arrives_15 cx hY eq  (by omega) (by omega) w
theorem s_X12_arrives_0 {E : EnvT} {d : Nat} (cx : CX E "ShoreDayModel" cX12_arrives 4 none "arrives" (d + 4) 0 0) (hY : eY E = lay1) {Q : Hp → Prop} (eq : EQ E 0 0 (fun r h2 => r = [] ∧ Q h2)) {a1 : Int32} {x2 : Option AVal} {x3 : Option AVal} {h : Hp} {c n : Nat} (hc : c + 0 ≤ 0) (hn : n + 0 ≤ 0) (w : w_X12_arrives_0  Q a1 h) : SW E 0 ([some (vP (some (12, 0))), some (vI (a1)), x2, x3], [], h, c, n) := by
  obtain ⟨G1, w⟩ := w
  refine k_X12_arrives_0 cx hY G1 (fun q => ?_) (fun q => ?_)
  · have w := w.1 q
    exact s_X12_arrives_14 cx hY eq  (by omega) (by omega) w
  · have w := w.2 q
    exact s_X12_arrives_10 cx hY eq  (by omega) (by omega) w
def wp_X12_arrives (a1 : Int32) (h : Hp) (Q : Hp → Prop) : Prop := w_X12_arrives_0 Q a1 h
theorem vc_X12_arrives {l : Launch} {d : Nat} {a1 : Int32} {h : Hp} {Q : Hp → Prop} (w : wp_X12_arrives a1 h Q) : Ct l lay1 yX12_arrives cX12_arrives 4 none (d + 4) 0 0 [vP (some (12, 0)), vI a1] h (fun r h2 => r = [] ∧ Q h2) := by
  exact Ct.of (by decide) (Nat.le_of_ble_eq_true rfl) fun E cx eq hl hY => s_X12_arrives_0 cx hY eq (Nat.le_refl _) (Nat.le_refl _) w
def w_X12_nextBy_t_57 (Q : Int32 → Hp → Prop) (a2 : Int32) (a3 : Int32) (h : Hp) : Prop := Q (a2) (h)
def w_X12_nextBy_t_50 (Q : Int32 → Hp → Prop) (a2 : Int32) (a3 : Int32) (h : Hp) : Prop := vp_in (a2) 60 ∧ (w_X12_nextBy_t_57  Q (a2) (a3) (wI (h) 160 (0) (tN (a2)) (vp_nar .boolean ((0 : Int32)))))
def w_X12_nextBy_t_46 (Q : Int32 → Hp → Prop) (a2 : Int32) (a3 : Int32) (h : Hp) : Prop := ((a2) < 0 → w_X12_nextBy_t_57  Q (a2) (a3) (h)) ∧ (¬ (a2) < 0 → w_X12_nextBy_t_50  Q (a2) (a3) (h))
def w_X12_nextBy_t_39 (K4 : Int32 → Int32 → Hp → Prop) (Q : Int32 → Hp → Prop) (a2 : Int32) (a3 : Int32) (s0 : Int32) (h : Hp) : Prop := K4 (s0) (a3 + 1) (h)
def w_X12_nextBy_t_38 (K4 : Int32 → Int32 → Hp → Prop) (Q : Int32 → Hp → Prop) (a2 : Int32) (a3 : Int32) (h : Hp) : Prop := w_X12_nextBy_t_39 K4 Q (a2) (a3) (a2) (h)
def w_X12_nextBy_t_34 (K4 : Int32 → Int32 → Hp → Prop) (Q : Int32 → Hp → Prop) (a2 : Int32) (a3 : Int32) (h : Hp) : Prop := w_X12_nextBy_t_39 K4 Q (a2) (a3) (a3) (h)
def w_X12_nextBy_t_25 (K4 : Int32 → Int32 → Hp → Prop) (Q : Int32 → Hp → Prop) (a2 : Int32) (a3 : Int32) (h : Hp) : Prop := vp_in (a3) 60 ∧ (vp_in (a2) 60 ∧ (((gI (h) 144 (0) (tN (a2))) ≤ (gI (h) 144 (0) (tN (a3))) → w_X12_nextBy_t_38 K4 Q (a2) (a3) (h)) ∧ (¬ (gI (h) 144 (0) (tN (a2))) ≤ (gI (h) 144 (0) (tN (a3))) → w_X12_nextBy_t_34 K4 Q (a2) (a3) (h))))
def w_X12_nextBy_t_21 (K4 : Int32 → Int32 → Hp → Prop) (Q : Int32 → Hp → Prop) (a2 : Int32) (a3 : Int32) (h : Hp) : Prop := ((a2) < 0 → w_X12_nextBy_t_34 K4 Q (a2) (a3) (h)) ∧ (¬ (a2) < 0 → w_X12_nextBy_t_25 K4 Q (a2) (a3) (h))
def w_X12_nextBy_t_12 (K4 : Int32 → Int32 → Hp → Prop) (Q : Int32 → Hp → Prop) (a2 : Int32) (a3 : Int32) (h : Hp) : Prop := vp_in (a3) 60 ∧ (((gI (h) 160 (0) (tN (a3))) = 0 → w_X12_nextBy_t_38 K4 Q (a2) (a3) (h)) ∧ (¬ (gI (h) 160 (0) (tN (a3))) = 0 → w_X12_nextBy_t_21 K4 Q (a2) (a3) (h)))
def w_X12_nextBy_t_4 (Q : Int32 → Hp → Prop) : Nat → Int32 → Int32 → Hp → Prop
  | 0 => fun _ _ _ => False
  | N + 1 => fun a2 a3 h => ((gI (h) 12 (0) (41)) ≤ (a3) → w_X12_nextBy_t_46  Q (a2) (a3) (h)) ∧ (¬ (gI (h) 12 (0) (41)) ≤ (a3) → w_X12_nextBy_t_12 (w_X12_nextBy_t_4  Q N) Q (a2) (a3) (h))
def w_X12_nextBy_t_0 (Q : Int32 → Hp → Prop) (h : Hp) : Prop := ∃ N, w_X12_nextBy_t_4  Q N ((-1 : Int32)) ((0 : Int32)) (h)
theorem s_X12_nextBy_t_57 {E : EnvT} {d : Nat} (cx : CX E "ShoreDayModel" cX12_nextBy 4 (some .int) "nextBy" (d + 1) 0 0) (hY : eY E = lay1) {Q : Int32 → Hp → Prop} (eq : EQ E 0 0 (fun r h2 => ∃ x, r = [vI x] ∧ Q x h2)) {a2 : Int32} {a3 : Int32} {h : Hp} {c n : Nat} (hc : c + 0 ≤ 0) (hn : n + 0 ≤ 0) (w : w_X12_nextBy_t_57  Q a2 a3 h) : SW E 57 ([some (vP (some (12, 0))), some (vP (some (144, 0))), some (vI (a2)), some (vI (a3))], [], h, c, n) := by
  exact k_X12_nextBy_t_57 cx hY eq (by omega) (by omega) ⟨_, rfl, w⟩
theorem s_X12_nextBy_t_50 {E : EnvT} {d : Nat} (cx : CX E "ShoreDayModel" cX12_nextBy 4 (some .int) "nextBy" (d + 1) 0 0) (hY : eY E = lay1) {Q : Int32 → Hp → Prop} (eq : EQ E 0 0 (fun r h2 => ∃ x, r = [vI x] ∧ Q x h2)) {a2 : Int32} {a3 : Int32} {h : Hp} {c n : Nat} (hc : c + 0 ≤ 0) (hn : n + 0 ≤ 0) (w : w_X12_nextBy_t_50  Q a2 a3 h) : SW E 50 ([some (vP (some (12, 0))), some (vP (some (144, 0))), some (vI (a2)), some (vI (a3))], [], h, c, n) := by
  obtain ⟨G1, w⟩ := w
  refine k_X12_nextBy_t_50 cx hY G1 ?_
  exact s_X12_nextBy_t_57 cx hY eq  (by omega) (by omega) w
theorem s_X12_nextBy_t_46 {E : EnvT} {d : Nat} (cx : CX E "ShoreDayModel" cX12_nextBy 4 (some .int) "nextBy" (d + 1) 0 0) (hY : eY E = lay1) {Q : Int32 → Hp → Prop} (eq : EQ E 0 0 (fun r h2 => ∃ x, r = [vI x] ∧ Q x h2)) {a2 : Int32} {a3 : Int32} {h : Hp} {c n : Nat} (hc : c + 0 ≤ 0) (hn : n + 0 ≤ 0) (w : w_X12_nextBy_t_46  Q a2 a3 h) : SW E 46 ([some (vP (some (12, 0))), some (vP (some (144, 0))), some (vI (a2)), some (vI (a3))], [], h, c, n) := by
  refine k_X12_nextBy_t_46 cx hY (fun q => ?_) (fun q => ?_)
  · have w := w.1 q
    exact s_X12_nextBy_t_57 cx hY eq  (by omega) (by omega) w
  · have w := w.2 q
    exact s_X12_nextBy_t_50 cx hY eq  (by omega) (by omega) w
theorem s_X12_nextBy_t_39 {E : EnvT} {d : Nat} (cx : CX E "ShoreDayModel" cX12_nextBy 4 (some .int) "nextBy" (d + 1) 0 0) (hY : eY E = lay1) {Q : Int32 → Hp → Prop} (eq : EQ E 0 0 (fun r h2 => ∃ x, r = [vI x] ∧ Q x h2)) {K4 : Int32 → Int32 → Hp → Prop} (hK4 : ∀ (a2 : Int32) (a3 : Int32) (h : Hp) (c n : Nat), c + 0 ≤ 0 → n + 0 ≤ 0 → K4 a2 a3 h → SW E 4 ([some (vP (some (12, 0))), some (vP (some (144, 0))), some (vI (a2)), some (vI (a3))], [], h, c, n)) {a2 : Int32} {a3 : Int32} {s0 : Int32} {h : Hp} {c n : Nat} (hc : c + 0 ≤ 0) (hn : n + 0 ≤ 0) (w : w_X12_nextBy_t_39 K4 Q a2 a3 s0 h) : SW E 39 ([some (vP (some (12, 0))), some (vP (some (144, 0))), some (vI (a2)), some (vI (a3))], [vI (s0)], h, c, n) := by
  refine k_X12_nextBy_t_39 cx hY ?_
  exact hK4 _ _ _ _ _ (by omega) (by omega) w
theorem s_X12_nextBy_t_38 {E : EnvT} {d : Nat} (cx : CX E "ShoreDayModel" cX12_nextBy 4 (some .int) "nextBy" (d + 1) 0 0) (hY : eY E = lay1) {Q : Int32 → Hp → Prop} (eq : EQ E 0 0 (fun r h2 => ∃ x, r = [vI x] ∧ Q x h2)) {K4 : Int32 → Int32 → Hp → Prop} (hK4 : ∀ (a2 : Int32) (a3 : Int32) (h : Hp) (c n : Nat), c + 0 ≤ 0 → n + 0 ≤ 0 → K4 a2 a3 h → SW E 4 ([some (vP (some (12, 0))), some (vP (some (144, 0))), some (vI (a2)), some (vI (a3))], [], h, c, n)) {a2 : Int32} {a3 : Int32} {h : Hp} {c n : Nat} (hc : c + 0 ≤ 0) (hn : n + 0 ≤ 0) (w : w_X12_nextBy_t_38 K4 Q a2 a3 h) : SW E 38 ([some (vP (some (12, 0))), some (vP (some (144, 0))), some (vI (a2)), some (vI (a3))], [], h, c, n) := by
  refine k_X12_nextBy_t_38 cx hY ?_
  exact s_X12_nextBy_t_39 cx hY eq hK4 (by omega) (by omega) w
theorem s_X12_nextBy_t_34 {E : EnvT} {d : Nat} (cx : CX E "ShoreDayModel" cX12_nextBy 4 (some .int) "nextBy" (d + 1) 0 0) (hY : eY E = lay1) {Q : Int32 → Hp → Prop} (eq : EQ E 0 0 (fun r h2 => ∃ x, r = [vI x] ∧ Q x h2)) {K4 : Int32 → Int32 → Hp → Prop} (hK4 : ∀ (a2 : Int32) (a3 : Int32) (h : Hp) (c n : Nat), c + 0 ≤ 0 → n + 0 ≤ 0 → K4 a2 a3 h → SW E 4 ([some (vP (some (12, 0))), some (vP (some (144, 0))), some (vI (a2)), some (vI (a3))], [], h, c, n)) {a2 : Int32} {a3 : Int32} {h : Hp} {c n : Nat} (hc : c + 0 ≤ 0) (hn : n + 0 ≤ 0) (w : w_X12_nextBy_t_34 K4 Q a2 a3 h) : SW E 34 ([some (vP (some (12, 0))), some (vP (some (144, 0))), some (vI (a2)), some (vI (a3))], [], h, c, n) := by
  refine k_X12_nextBy_t_34 cx hY ?_
  exact s_X12_nextBy_t_39 cx hY eq hK4 (by omega) (by omega) w
theorem s_X12_nextBy_t_25 {E : EnvT} {d : Nat} (cx : CX E "ShoreDayModel" cX12_nextBy 4 (some .int) "nextBy" (d + 1) 0 0) (hY : eY E = lay1) {Q : Int32 → Hp → Prop} (eq : EQ E 0 0 (fun r h2 => ∃ x, r = [vI x] ∧ Q x h2)) {K4 : Int32 → Int32 → Hp → Prop} (hK4 : ∀ (a2 : Int32) (a3 : Int32) (h : Hp) (c n : Nat), c + 0 ≤ 0 → n + 0 ≤ 0 → K4 a2 a3 h → SW E 4 ([some (vP (some (12, 0))), some (vP (some (144, 0))), some (vI (a2)), some (vI (a3))], [], h, c, n)) {a2 : Int32} {a3 : Int32} {h : Hp} {c n : Nat} (hc : c + 0 ≤ 0) (hn : n + 0 ≤ 0) (w : w_X12_nextBy_t_25 K4 Q a2 a3 h) : SW E 25 ([some (vP (some (12, 0))), some (vP (some (144, 0))), some (vI (a2)), some (vI (a3))], [], h, c, n) := by
  obtain ⟨G1, G2, w⟩ := w
  refine k_X12_nextBy_t_25 cx hY G1 G2 (fun q => ?_) (fun q => ?_)
  · have w := w.1 q
    exact s_X12_nextBy_t_38 cx hY eq hK4 (by omega) (by omega) w
  · have w := w.2 q
    exact s_X12_nextBy_t_34 cx hY eq hK4 (by omega) (by omega) w
theorem s_X12_nextBy_t_21 {E : EnvT} {d : Nat} (cx : CX E "ShoreDayModel" cX12_nextBy 4 (some .int) "nextBy" (d + 1) 0 0) (hY : eY E = lay1) {Q : Int32 → Hp → Prop} (eq : EQ E 0 0 (fun r h2 => ∃ x, r = [vI x] ∧ Q x h2)) {K4 : Int32 → Int32 → Hp → Prop} (hK4 : ∀ (a2 : Int32) (a3 : Int32) (h : Hp) (c n : Nat), c + 0 ≤ 0 → n + 0 ≤ 0 → K4 a2 a3 h → SW E 4 ([some (vP (some (12, 0))), some (vP (some (144, 0))), some (vI (a2)), some (vI (a3))], [], h, c, n)) {a2 : Int32} {a3 : Int32} {h : Hp} {c n : Nat} (hc : c + 0 ≤ 0) (hn : n + 0 ≤ 0) (w : w_X12_nextBy_t_21 K4 Q a2 a3 h) : SW E 21 ([some (vP (some (12, 0))), some (vP (some (144, 0))), some (vI (a2)), some (vI (a3))], [], h, c, n) := by
  refine k_X12_nextBy_t_21 cx hY (fun q => ?_) (fun q => ?_)
  · have w := w.1 q
    exact s_X12_nextBy_t_34 cx hY eq hK4 (by omega) (by omega) w
  · have w := w.2 q
    exact s_X12_nextBy_t_25 cx hY eq hK4 (by omega) (by omega) w
theorem s_X12_nextBy_t_12 {E : EnvT} {d : Nat} (cx : CX E "ShoreDayModel" cX12_nextBy 4 (some .int) "nextBy" (d + 1) 0 0) (hY : eY E = lay1) {Q : Int32 → Hp → Prop} (eq : EQ E 0 0 (fun r h2 => ∃ x, r = [vI x] ∧ Q x h2)) {K4 : Int32 → Int32 → Hp → Prop} (hK4 : ∀ (a2 : Int32) (a3 : Int32) (h : Hp) (c n : Nat), c + 0 ≤ 0 → n + 0 ≤ 0 → K4 a2 a3 h → SW E 4 ([some (vP (some (12, 0))), some (vP (some (144, 0))), some (vI (a2)), some (vI (a3))], [], h, c, n)) {a2 : Int32} {a3 : Int32} {h : Hp} {c n : Nat} (hc : c + 0 ≤ 0) (hn : n + 0 ≤ 0) (w : w_X12_nextBy_t_12 K4 Q a2 a3 h) : SW E 12 ([some (vP (some (12, 0))), some (vP (some (144, 0))), some (vI (a2)), some (vI (a3))], [], h, c, n) := by
  obtain ⟨G1, w⟩ := w
  refine k_X12_nextBy_t_12 cx hY G1 (fun q => ?_) (fun q => ?_)
  · have w := w.1 q
    exact s_X12_nextBy_t_38 cx hY eq hK4 (by omega) (by omega) w
  · have w := w.2 q
    exact s_X12_nextBy_t_21 cx hY eq hK4 (by omega) (by omega) w
theorem s_X12_nextBy_t_4 {E : EnvT} {d : Nat} (cx : CX E "ShoreDayModel" cX12_nextBy 4 (some .int) "nextBy" (d + 1) 0 0) (hY : eY E = lay1) {Q : Int32 → Hp → Prop} (eq : EQ E 0 0 (fun r h2 => ∃ x, r = [vI x] ∧ Q x h2)) : ∀ (N : Nat) (a2 : Int32) (a3 : Int32) (h : Hp) (c n : Nat), c + 0 ≤ 0 → n + 0 ≤ 0 → w_X12_nextBy_t_4  Q N a2 a3 h → SW E 4 ([some (vP (some (12, 0))), some (vP (some (144, 0))), some (vI (a2)), some (vI (a3))], [], h, c, n) := by
  intro N
  induction N with
  | zero =>
    intro _ _ h c n _ _ w
    exact w.elim
  | succ N ih =>
    intro a2 a3 h c n hc hn w
    refine k_X12_nextBy_t_4 cx hY (fun q => ?_) (fun q => ?_)
    · have w := w.1 q
      exact s_X12_nextBy_t_46 cx hY eq  (by omega) (by omega) w
    · have w := w.2 q
      exact s_X12_nextBy_t_12 cx hY eq ih (by omega) (by omega) w
theorem s_X12_nextBy_t_0 {E : EnvT} {d : Nat} (cx : CX E "ShoreDayModel" cX12_nextBy 4 (some .int) "nextBy" (d + 1) 0 0) (hY : eY E = lay1) {Q : Int32 → Hp → Prop} (eq : EQ E 0 0 (fun r h2 => ∃ x, r = [vI x] ∧ Q x h2)) {x2 : Option AVal} {x3 : Option AVal} {h : Hp} {c n : Nat} (hc : c + 0 ≤ 0) (hn : n + 0 ≤ 0) (w : w_X12_nextBy_t_0  Q  h) : SW E 0 ([some (vP (some (12, 0))), some (vP (some (144, 0))), x2, x3], [], h, c, n) := by
  refine k_X12_nextBy_t_0 cx hY ?_
  obtain ⟨N1, w⟩ := w
  exact s_X12_nextBy_t_4 cx hY eq  _ _ _ _ _ _ (by omega) (by omega) w
def wp_X12_nextBy_t (h : Hp) (Q : Int32 → Hp → Prop) : Prop := w_X12_nextBy_t_0 Q  h
theorem vc_X12_nextBy_t {l : Launch} {d : Nat} {h : Hp} {Q : Int32 → Hp → Prop} (w : wp_X12_nextBy_t h Q) : Ct l lay1 yX12_nextBy cX12_nextBy 4 (some .int) (d + 1) 0 0 [vP (some (12, 0)), vP (some (144, 0))] h (fun r h2 => ∃ x, r = [vI x] ∧ Q x h2) := by
  exact Ct.of (by decide) (Nat.le_of_ble_eq_true rfl) fun E cx eq hl hY => s_X12_nextBy_t_0 cx hY eq (Nat.le_refl _) (Nat.le_refl _) w
def w_X12_nextBy_s_57 (Q : Int32 → Hp → Prop) (a2 : Int32) (a3 : Int32) (h : Hp) : Prop := Q (a2) (h)
def w_X12_nextBy_s_50 (Q : Int32 → Hp → Prop) (a2 : Int32) (a3 : Int32) (h : Hp) : Prop := vp_in (a2) 60 ∧ (w_X12_nextBy_s_57  Q (a2) (a3) (wI (h) 160 (0) (tN (a2)) (vp_nar .boolean ((0 : Int32)))))
def w_X12_nextBy_s_46 (Q : Int32 → Hp → Prop) (a2 : Int32) (a3 : Int32) (h : Hp) : Prop := ((a2) < 0 → w_X12_nextBy_s_57  Q (a2) (a3) (h)) ∧ (¬ (a2) < 0 → w_X12_nextBy_s_50  Q (a2) (a3) (h))
def w_X12_nextBy_s_39 (K4 : Int32 → Int32 → Hp → Prop) (Q : Int32 → Hp → Prop) (a2 : Int32) (a3 : Int32) (s0 : Int32) (h : Hp) : Prop := K4 (s0) (a3 + 1) (h)
def w_X12_nextBy_s_38 (K4 : Int32 → Int32 → Hp → Prop) (Q : Int32 → Hp → Prop) (a2 : Int32) (a3 : Int32) (h : Hp) : Prop := w_X12_nextBy_s_39 K4 Q (a2) (a3) (a2) (h)
def w_X12_nextBy_s_34 (K4 : Int32 → Int32 → Hp → Prop) (Q : Int32 → Hp → Prop) (a2 : Int32) (a3 : Int32) (h : Hp) : Prop := w_X12_nextBy_s_39 K4 Q (a2) (a3) (a3) (h)
def w_X12_nextBy_s_25 (K4 : Int32 → Int32 → Hp → Prop) (Q : Int32 → Hp → Prop) (a2 : Int32) (a3 : Int32) (h : Hp) : Prop := vp_in (a3) 60 ∧ (vp_in (a2) 60 ∧ (((gI (h) 154 (0) (tN (a2))) ≤ (gI (h) 154 (0) (tN (a3))) → w_X12_nextBy_s_38 K4 Q (a2) (a3) (h)) ∧ (¬ (gI (h) 154 (0) (tN (a2))) ≤ (gI (h) 154 (0) (tN (a3))) → w_X12_nextBy_s_34 K4 Q (a2) (a3) (h))))
def w_X12_nextBy_s_21 (K4 : Int32 → Int32 → Hp → Prop) (Q : Int32 → Hp → Prop) (a2 : Int32) (a3 : Int32) (h : Hp) : Prop := ((a2) < 0 → w_X12_nextBy_s_34 K4 Q (a2) (a3) (h)) ∧ (¬ (a2) < 0 → w_X12_nextBy_s_25 K4 Q (a2) (a3) (h))
def w_X12_nextBy_s_12 (K4 : Int32 → Int32 → Hp → Prop) (Q : Int32 → Hp → Prop) (a2 : Int32) (a3 : Int32) (h : Hp) : Prop := vp_in (a3) 60 ∧ (((gI (h) 160 (0) (tN (a3))) = 0 → w_X12_nextBy_s_38 K4 Q (a2) (a3) (h)) ∧ (¬ (gI (h) 160 (0) (tN (a3))) = 0 → w_X12_nextBy_s_21 K4 Q (a2) (a3) (h)))
def w_X12_nextBy_s_4 (Q : Int32 → Hp → Prop) : Nat → Int32 → Int32 → Hp → Prop
  | 0 => fun _ _ _ => False
  | N + 1 => fun a2 a3 h => ((gI (h) 12 (0) (41)) ≤ (a3) → w_X12_nextBy_s_46  Q (a2) (a3) (h)) ∧ (¬ (gI (h) 12 (0) (41)) ≤ (a3) → w_X12_nextBy_s_12 (w_X12_nextBy_s_4  Q N) Q (a2) (a3) (h))
def w_X12_nextBy_s_0 (Q : Int32 → Hp → Prop) (h : Hp) : Prop := ∃ N, w_X12_nextBy_s_4  Q N ((-1 : Int32)) ((0 : Int32)) (h)
theorem s_X12_nextBy_s_57 {E : EnvT} {d : Nat} (cx : CX E "ShoreDayModel" cX12_nextBy 4 (some .int) "nextBy" (d + 1) 0 0) (hY : eY E = lay1) {Q : Int32 → Hp → Prop} (eq : EQ E 0 0 (fun r h2 => ∃ x, r = [vI x] ∧ Q x h2)) {a2 : Int32} {a3 : Int32} {h : Hp} {c n : Nat} (hc : c + 0 ≤ 0) (hn : n + 0 ≤ 0) (w : w_X12_nextBy_s_57  Q a2 a3 h) : SW E 57 ([some (vP (some (12, 0))), some (vP (some (154, 0))), some (vI (a2)), some (vI (a3))], [], h, c, n) := by
  exact k_X12_nextBy_s_57 cx hY eq (by omega) (by omega) ⟨_, rfl, w⟩
theorem s_X12_nextBy_s_50 {E : EnvT} {d : Nat} (cx : CX E "ShoreDayModel" cX12_nextBy 4 (some .int) "nextBy" (d + 1) 0 0) (hY : eY E = lay1) {Q : Int32 → Hp → Prop} (eq : EQ E 0 0 (fun r h2 => ∃ x, r = [vI x] ∧ Q x h2)) {a2 : Int32} {a3 : Int32} {h : Hp} {c n : Nat} (hc : c + 0 ≤ 0) (hn : n + 0 ≤ 0) (w : w_X12_nextBy_s_50  Q a2 a3 h) : SW E 50 ([some (vP (some (12, 0))), some (vP (some (154, 0))), some (vI (a2)), some (vI (a3))], [], h, c, n) := by
  obtain ⟨G1, w⟩ := w
  refine k_X12_nextBy_s_50 cx hY G1 ?_
  exact s_X12_nextBy_s_57 cx hY eq  (by omega) (by omega) w
theorem s_X12_nextBy_s_46 {E : EnvT} {d : Nat} (cx : CX E "ShoreDayModel" cX12_nextBy 4 (some .int) "nextBy" (d + 1) 0 0) (hY : eY E = lay1) {Q : Int32 → Hp → Prop} (eq : EQ E 0 0 (fun r h2 => ∃ x, r = [vI x] ∧ Q x h2)) {a2 : Int32} {a3 : Int32} {h : Hp} {c n : Nat} (hc : c + 0 ≤ 0) (hn : n + 0 ≤ 0) (w : w_X12_nextBy_s_46  Q a2 a3 h) : SW E 46 ([some (vP (some (12, 0))), some (vP (some (154, 0))), some (vI (a2)), some (vI (a3))], [], h, c, n) := by
  refine k_X12_nextBy_s_46 cx hY (fun q => ?_) (fun q => ?_)
  · have w := w.1 q
    exact s_X12_nextBy_s_57 cx hY eq  (by omega) (by omega) w
  · have w := w.2 q
    exact s_X12_nextBy_s_50 cx hY eq  (by omega) (by omega) w
theorem s_X12_nextBy_s_39 {E : EnvT} {d : Nat} (cx : CX E "ShoreDayModel" cX12_nextBy 4 (some .int) "nextBy" (d + 1) 0 0) (hY : eY E = lay1) {Q : Int32 → Hp → Prop} (eq : EQ E 0 0 (fun r h2 => ∃ x, r = [vI x] ∧ Q x h2)) {K4 : Int32 → Int32 → Hp → Prop} (hK4 : ∀ (a2 : Int32) (a3 : Int32) (h : Hp) (c n : Nat), c + 0 ≤ 0 → n + 0 ≤ 0 → K4 a2 a3 h → SW E 4 ([some (vP (some (12, 0))), some (vP (some (154, 0))), some (vI (a2)), some (vI (a3))], [], h, c, n)) {a2 : Int32} {a3 : Int32} {s0 : Int32} {h : Hp} {c n : Nat} (hc : c + 0 ≤ 0) (hn : n + 0 ≤ 0) (w : w_X12_nextBy_s_39 K4 Q a2 a3 s0 h) : SW E 39 ([some (vP (some (12, 0))), some (vP (some (154, 0))), some (vI (a2)), some (vI (a3))], [vI (s0)], h, c, n) := by
  refine k_X12_nextBy_s_39 cx hY ?_
  exact hK4 _ _ _ _ _ (by omega) (by omega) w
theorem s_X12_nextBy_s_38 {E : EnvT} {d : Nat} (cx : CX E "ShoreDayModel" cX12_nextBy 4 (some .int) "nextBy" (d + 1) 0 0) (hY : eY E = lay1) {Q : Int32 → Hp → Prop} (eq : EQ E 0 0 (fun r h2 => ∃ x, r = [vI x] ∧ Q x h2)) {K4 : Int32 → Int32 → Hp → Prop} (hK4 : ∀ (a2 : Int32) (a3 : Int32) (h : Hp) (c n : Nat), c + 0 ≤ 0 → n + 0 ≤ 0 → K4 a2 a3 h → SW E 4 ([some (vP (some (12, 0))), some (vP (some (154, 0))), some (vI (a2)), some (vI (a3))], [], h, c, n)) {a2 : Int32} {a3 : Int32} {h : Hp} {c n : Nat} (hc : c + 0 ≤ 0) (hn : n + 0 ≤ 0) (w : w_X12_nextBy_s_38 K4 Q a2 a3 h) : SW E 38 ([some (vP (some (12, 0))), some (vP (some (154, 0))), some (vI (a2)), some (vI (a3))], [], h, c, n) := by
  refine k_X12_nextBy_s_38 cx hY ?_
  exact s_X12_nextBy_s_39 cx hY eq hK4 (by omega) (by omega) w
theorem s_X12_nextBy_s_34 {E : EnvT} {d : Nat} (cx : CX E "ShoreDayModel" cX12_nextBy 4 (some .int) "nextBy" (d + 1) 0 0) (hY : eY E = lay1) {Q : Int32 → Hp → Prop} (eq : EQ E 0 0 (fun r h2 => ∃ x, r = [vI x] ∧ Q x h2)) {K4 : Int32 → Int32 → Hp → Prop} (hK4 : ∀ (a2 : Int32) (a3 : Int32) (h : Hp) (c n : Nat), c + 0 ≤ 0 → n + 0 ≤ 0 → K4 a2 a3 h → SW E 4 ([some (vP (some (12, 0))), some (vP (some (154, 0))), some (vI (a2)), some (vI (a3))], [], h, c, n)) {a2 : Int32} {a3 : Int32} {h : Hp} {c n : Nat} (hc : c + 0 ≤ 0) (hn : n + 0 ≤ 0) (w : w_X12_nextBy_s_34 K4 Q a2 a3 h) : SW E 34 ([some (vP (some (12, 0))), some (vP (some (154, 0))), some (vI (a2)), some (vI (a3))], [], h, c, n) := by
  refine k_X12_nextBy_s_34 cx hY ?_
  exact s_X12_nextBy_s_39 cx hY eq hK4 (by omega) (by omega) w
theorem s_X12_nextBy_s_25 {E : EnvT} {d : Nat} (cx : CX E "ShoreDayModel" cX12_nextBy 4 (some .int) "nextBy" (d + 1) 0 0) (hY : eY E = lay1) {Q : Int32 → Hp → Prop} (eq : EQ E 0 0 (fun r h2 => ∃ x, r = [vI x] ∧ Q x h2)) {K4 : Int32 → Int32 → Hp → Prop} (hK4 : ∀ (a2 : Int32) (a3 : Int32) (h : Hp) (c n : Nat), c + 0 ≤ 0 → n + 0 ≤ 0 → K4 a2 a3 h → SW E 4 ([some (vP (some (12, 0))), some (vP (some (154, 0))), some (vI (a2)), some (vI (a3))], [], h, c, n)) {a2 : Int32} {a3 : Int32} {h : Hp} {c n : Nat} (hc : c + 0 ≤ 0) (hn : n + 0 ≤ 0) (w : w_X12_nextBy_s_25 K4 Q a2 a3 h) : SW E 25 ([some (vP (some (12, 0))), some (vP (some (154, 0))), some (vI (a2)), some (vI (a3))], [], h, c, n) := by
  obtain ⟨G1, G2, w⟩ := w
  refine k_X12_nextBy_s_25 cx hY G1 G2 (fun q => ?_) (fun q => ?_)
  · have w := w.1 q
    exact s_X12_nextBy_s_38 cx hY eq hK4 (by omega) (by omega) w
  · have w := w.2 q
    exact s_X12_nextBy_s_34 cx hY eq hK4 (by omega) (by omega) w
theorem s_X12_nextBy_s_21 {E : EnvT} {d : Nat} (cx : CX E "ShoreDayModel" cX12_nextBy 4 (some .int) "nextBy" (d + 1) 0 0) (hY : eY E = lay1) {Q : Int32 → Hp → Prop} (eq : EQ E 0 0 (fun r h2 => ∃ x, r = [vI x] ∧ Q x h2)) {K4 : Int32 → Int32 → Hp → Prop} (hK4 : ∀ (a2 : Int32) (a3 : Int32) (h : Hp) (c n : Nat), c + 0 ≤ 0 → n + 0 ≤ 0 → K4 a2 a3 h → SW E 4 ([some (vP (some (12, 0))), some (vP (some (154, 0))), some (vI (a2)), some (vI (a3))], [], h, c, n)) {a2 : Int32} {a3 : Int32} {h : Hp} {c n : Nat} (hc : c + 0 ≤ 0) (hn : n + 0 ≤ 0) (w : w_X12_nextBy_s_21 K4 Q a2 a3 h) : SW E 21 ([some (vP (some (12, 0))), some (vP (some (154, 0))), some (vI (a2)), some (vI (a3))], [], h, c, n) := by
  refine k_X12_nextBy_s_21 cx hY (fun q => ?_) (fun q => ?_)
  · have w := w.1 q
    exact s_X12_nextBy_s_34 cx hY eq hK4 (by omega) (by omega) w
  · have w := w.2 q
    exact s_X12_nextBy_s_25 cx hY eq hK4 (by omega) (by omega) w
theorem s_X12_nextBy_s_12 {E : EnvT} {d : Nat} (cx : CX E "ShoreDayModel" cX12_nextBy 4 (some .int) "nextBy" (d + 1) 0 0) (hY : eY E = lay1) {Q : Int32 → Hp → Prop} (eq : EQ E 0 0 (fun r h2 => ∃ x, r = [vI x] ∧ Q x h2)) {K4 : Int32 → Int32 → Hp → Prop} (hK4 : ∀ (a2 : Int32) (a3 : Int32) (h : Hp) (c n : Nat), c + 0 ≤ 0 → n + 0 ≤ 0 → K4 a2 a3 h → SW E 4 ([some (vP (some (12, 0))), some (vP (some (154, 0))), some (vI (a2)), some (vI (a3))], [], h, c, n)) {a2 : Int32} {a3 : Int32} {h : Hp} {c n : Nat} (hc : c + 0 ≤ 0) (hn : n + 0 ≤ 0) (w : w_X12_nextBy_s_12 K4 Q a2 a3 h) : SW E 12 ([some (vP (some (12, 0))), some (vP (some (154, 0))), some (vI (a2)), some (vI (a3))], [], h, c, n) := by
  obtain ⟨G1, w⟩ := w
  refine k_X12_nextBy_s_12 cx hY G1 (fun q => ?_) (fun q => ?_)
  · have w := w.1 q
    exact s_X12_nextBy_s_38 cx hY eq hK4 (by omega) (by omega) w
  · have w := w.2 q
    exact s_X12_nextBy_s_21 cx hY eq hK4 (by omega) (by omega) w
theorem s_X12_nextBy_s_4 {E : EnvT} {d : Nat} (cx : CX E "ShoreDayModel" cX12_nextBy 4 (some .int) "nextBy" (d + 1) 0 0) (hY : eY E = lay1) {Q : Int32 → Hp → Prop} (eq : EQ E 0 0 (fun r h2 => ∃ x, r = [vI x] ∧ Q x h2)) : ∀ (N : Nat) (a2 : Int32) (a3 : Int32) (h : Hp) (c n : Nat), c + 0 ≤ 0 → n + 0 ≤ 0 → w_X12_nextBy_s_4  Q N a2 a3 h → SW E 4 ([some (vP (some (12, 0))), some (vP (some (154, 0))), some (vI (a2)), some (vI (a3))], [], h, c, n) := by
  intro N
  induction N with
  | zero =>
    intro _ _ h c n _ _ w
    exact w.elim
  | succ N ih =>
    intro a2 a3 h c n hc hn w
    refine k_X12_nextBy_s_4 cx hY (fun q => ?_) (fun q => ?_)
    · have w := w.1 q
      exact s_X12_nextBy_s_46 cx hY eq  (by omega) (by omega) w
    · have w := w.2 q
      exact s_X12_nextBy_s_12 cx hY eq ih (by omega) (by omega) w
theorem s_X12_nextBy_s_0 {E : EnvT} {d : Nat} (cx : CX E "ShoreDayModel" cX12_nextBy 4 (some .int) "nextBy" (d + 1) 0 0) (hY : eY E = lay1) {Q : Int32 → Hp → Prop} (eq : EQ E 0 0 (fun r h2 => ∃ x, r = [vI x] ∧ Q x h2)) {x2 : Option AVal} {x3 : Option AVal} {h : Hp} {c n : Nat} (hc : c + 0 ≤ 0) (hn : n + 0 ≤ 0) (w : w_X12_nextBy_s_0  Q  h) : SW E 0 ([some (vP (some (12, 0))), some (vP (some (154, 0))), x2, x3], [], h, c, n) := by
  refine k_X12_nextBy_s_0 cx hY ?_
  obtain ⟨N1, w⟩ := w
  exact s_X12_nextBy_s_4 cx hY eq  _ _ _ _ _ _ (by omega) (by omega) w
def wp_X12_nextBy_s (h : Hp) (Q : Int32 → Hp → Prop) : Prop := w_X12_nextBy_s_0 Q  h
theorem vc_X12_nextBy_s {l : Launch} {d : Nat} {h : Hp} {Q : Int32 → Hp → Prop} (w : wp_X12_nextBy_s h Q) : Ct l lay1 yX12_nextBy cX12_nextBy 4 (some .int) (d + 1) 0 0 [vP (some (12, 0)), vP (some (154, 0))] h (fun r h2 => ∃ x, r = [vI x] ∧ Q x h2) := by
  exact Ct.of (by decide) (Nat.le_of_ble_eq_true rfl) fun E cx eq hl hY => s_X12_nextBy_s_0 cx hY eq (Nat.le_refl _) (Nat.le_refl _) w
def w_X12_starts_132 (Q : Hp → Prop) (a1 : Int32) (a2 : Int32) (h : Hp) : Prop := Q (h)
def w_X12_starts_128 (K56 : Int32 → Int32 → Hp → Prop) (Q : Hp → Prop) (a1 : Int32) (a2 : Int32) (s0 : Int32) (h : Hp) : Prop := K56 (a1) (s0) (h)
def w_X12_starts_120 (K56 : Int32 → Int32 → Hp → Prop) (Q : Hp → Prop) (a1 : Int32) (a2 : Int32) (h : Hp) : Prop := wp_X12_nextBy_t  (h) (fun r2 h2 => w_X12_starts_128 K56 Q (a1) (a2) (r2) (h2))
def w_X12_starts_107 (K56 : Int32 → Int32 → Hp → Prop) (Q : Hp → Prop) (a1 : Int32) (a2 : Int32) (h : Hp) : Prop := vp_in (a2) 60 ∧ (w_X12_starts_120 K56 Q (a1) (a2) (wI (h) 150 (0) (tN (a2)) ((gI (h) 12 (0) (24)) + ((60 : Int32)))))
def w_X12_starts_104 (K56 : Int32 → Int32 → Hp → Prop) (Q : Hp → Prop) (a1 : Int32) (a2 : Int32) (h : Hp) : Prop := w_X12_starts_120 K56 Q (a1) (a2) (h)
def w_X12_starts_82 (K56 : Int32 → Int32 → Hp → Prop) (Q : Hp → Prop) (a1 : Int32) (a2 : Int32) (h : Hp) : Prop := vp_in (a2) 60 ∧ (vp_in (a1) 8 ∧ (vp_in (a2) 60 ∧ (vp_in (a1) 8 ∧ (w_X12_starts_104 K56 Q (a1) (a2) (wI (wI (h) 148 (0) (tN (a2)) ((3 : Int32))) 140 (0) (tN (a1)) ((gI (wI (h) 148 (0) (tN (a2)) ((3 : Int32))) 140 (0) (tN (a1))) + (gI (wI (h) 148 (0) (tN (a2)) ((3 : Int32))) 143 (0) (tN (a2)))))))))
def w_X12_starts_60 (K56 : Int32 → Int32 → Hp → Prop) (Q : Hp → Prop) (a1 : Int32) (a2 : Int32) (h : Hp) : Prop := vp_in (a2) 60 ∧ (vp_in (a1) 8 ∧ (vp_in (a1) 8 ∧ ((((gI (h) 138 (0) (tN (a1))) - (gI (h) 140 (0) (tN (a1)))) < (gI (h) 143 (0) (tN (a2))) → w_X12_starts_107 K56 Q (a1) (a2) (h)) ∧ (¬ ((gI (h) 138 (0) (tN (a1))) - (gI (h) 140 (0) (tN (a1)))) < (gI (h) 143 (0) (tN (a2))) → w_X12_starts_82 K56 Q (a1) (a2) (h)))))
def w_X12_starts_56 (Q : Hp → Prop) : Nat → Int32 → Int32 → Hp → Prop
  | 0 => fun _ _ _ => False
  | N + 1 => fun a1 a2 h => ((a2) < 0 → w_X12_starts_132  Q (a1) (a2) (h)) ∧ (¬ (a2) < 0 → w_X12_starts_60 (w_X12_starts_56  Q N) Q (a1) (a2) (h))
def w_X12_starts_55 (Q : Hp → Prop) (a1 : Int32) (a2 : Int32) (s0 : Int32) (h : Hp) : Prop := ∃ N, w_X12_starts_56  Q N (a1) (s0) (h)
def w_X12_starts_47 (Q : Hp → Prop) (a1 : Int32) (a2 : Int32) (h : Hp) : Prop := wp_X12_nextBy_t  (h) (fun r2 h2 => w_X12_starts_55  Q (a1) (a2) (r2) (h2))
def w_X12_starts_40 (K2 : Int32 → Int32 → Hp → Prop) (Q : Hp → Prop) (a1 : Int32) (a2 : Int32) (s1 : Int32) (s2 : Int32) (h : Hp) : Prop := vp_in (s1) 60 ∧ (K2 (a1) (a2 + 1) (wI (h) 160 (0) (tN (s1)) (vp_nar .boolean (s2))))
def w_X12_starts_39 (K2 : Int32 → Int32 → Hp → Prop) (Q : Hp → Prop) (a1 : Int32) (a2 : Int32) (s1 : Int32) (h : Hp) : Prop := w_X12_starts_40 K2 Q (a1) (a2) (s1) ((0 : Int32)) (h)
def w_X12_starts_35 (K2 : Int32 → Int32 → Hp → Prop) (Q : Hp → Prop) (a1 : Int32) (a2 : Int32) (s1 : Int32) (h : Hp) : Prop := w_X12_starts_40 K2 Q (a1) (a2) (s1) ((1 : Int32)) (h)
def w_X12_starts_25 (K2 : Int32 → Int32 → Hp → Prop) (Q : Hp → Prop) (a1 : Int32) (a2 : Int32) (s1 : Int32) (h : Hp) : Prop := vp_in (a2) 60 ∧ ((¬ (gI (h) 146 (0) (tN (a2))) = (a1) → w_X12_starts_39 K2 Q (a1) (a2) (s1) (h)) ∧ ((gI (h) 146 (0) (tN (a2))) = (a1) → w_X12_starts_35 K2 Q (a1) (a2) (s1) (h)))
def w_X12_starts_10 (K2 : Int32 → Int32 → Hp → Prop) (Q : Hp → Prop) (a1 : Int32) (a2 : Int32) (h : Hp) : Prop := vp_in (a2) 60 ∧ ((¬ (gI (h) 148 (0) (tN (a2))) = ((2 : Int32)) → w_X12_starts_39 K2 Q (a1) (a2) (a2) (h)) ∧ ((gI (h) 148 (0) (tN (a2))) = ((2 : Int32)) → w_X12_starts_25 K2 Q (a1) (a2) (a2) (h)))
def w_X12_starts_2 (Q : Hp → Prop) : Nat → Int32 → Int32 → Hp → Prop
  | 0 => fun _ _ _ => False
  | N + 1 => fun a1 a2 h => ((gI (h) 12 (0) (41)) ≤ (a2) → w_X12_starts_47  Q (a1) (a2) (h)) ∧ (¬ (gI (h) 12 (0) (41)) ≤ (a2) → w_X12_starts_10 (w_X12_starts_2  Q N) Q (a1) (a2) (h))
def w_X12_starts_0 (Q : Hp → Prop) (a1 : Int32) (h : Hp) : Prop := ∃ N, w_X12_starts_2  Q N (a1) ((0 : Int32)) (h)
theorem s_X12_starts_132 {E : EnvT} {d : Nat} (cx : CX E "ShoreDayModel" cX12_starts 3 none "starts" (d + 2) 0 0) (hY : eY E = lay1) {Q : Hp → Prop} (eq : EQ E 0 0 (fun r h2 => r = [] ∧ Q h2)) {a1 : Int32} {a2 : Int32} {h : Hp} {c n : Nat} (hc : c + 0 ≤ 0) (hn : n + 0 ≤ 0) (w : w_X12_starts_132  Q a1 a2 h) : SW E 132 ([some (vP (some (12, 0))), some (vI (a1)), some (vI (a2))], [], h, c, n) := by
  exact k_X12_starts_132 cx hY eq (by omega) (by omega) ⟨rfl, w⟩
theorem s_X12_starts_128 {E : EnvT} {d : Nat} (cx : CX E "ShoreDayModel" cX12_starts 3 none "starts" (d + 2) 0 0) (hY : eY E = lay1) {Q : Hp → Prop} (eq : EQ E 0 0 (fun r h2 => r = [] ∧ Q h2)) {K56 : Int32 → Int32 → Hp → Prop} (hK56 : ∀ (a1 : Int32) (a2 : Int32) (h : Hp) (c n : Nat), c + 0 ≤ 0 → n + 0 ≤ 0 → K56 a1 a2 h → SW E 56 ([some (vP (some (12, 0))), some (vI (a1)), some (vI (a2))], [], h, c, n)) {a1 : Int32} {a2 : Int32} {s0 : Int32} {h : Hp} {c n : Nat} (hc : c + 0 ≤ 0) (hn : n + 0 ≤ 0) (w : w_X12_starts_128 K56 Q a1 a2 s0 h) : SW E 128 ([some (vP (some (12, 0))), some (vI (a1)), some (vI (a2))], [vI (s0)], h, c, n) := by
  refine k_X12_starts_128 cx hY ?_
  exact hK56 _ _ _ _ _ (by omega) (by omega) w
theorem s_X12_starts_120 {E : EnvT} {d : Nat} (cx : CX E "ShoreDayModel" cX12_starts 3 none "starts" (d + 2) 0 0) (hY : eY E = lay1) {Q : Hp → Prop} (eq : EQ E 0 0 (fun r h2 => r = [] ∧ Q h2)) {K56 : Int32 → Int32 → Hp → Prop} (hK56 : ∀ (a1 : Int32) (a2 : Int32) (h : Hp) (c n : Nat), c + 0 ≤ 0 → n + 0 ≤ 0 → K56 a1 a2 h → SW E 56 ([some (vP (some (12, 0))), some (vI (a1)), some (vI (a2))], [], h, c, n)) {a1 : Int32} {a2 : Int32} {h : Hp} {c n : Nat} (hc : c + 0 ≤ 0) (hn : n + 0 ≤ 0) (w : w_X12_starts_120 K56 Q a1 a2 h) : SW E 120 ([some (vP (some (12, 0))), some (vI (a1)), some (vI (a2))], [], h, c, n) := by
  refine k_X12_starts_120 cx hY (ctY hY (vc_X12_nextBy_t (d := d + 0) w)) (by omega) (by omega) (by omega) (fun r h2 hp => ?_)
  obtain ⟨r2, rfl, w⟩ := hp
  exact s_X12_starts_128 cx hY eq hK56 (by omega) (by omega) w
theorem s_X12_starts_107 {E : EnvT} {d : Nat} (cx : CX E "ShoreDayModel" cX12_starts 3 none "starts" (d + 2) 0 0) (hY : eY E = lay1) {Q : Hp → Prop} (eq : EQ E 0 0 (fun r h2 => r = [] ∧ Q h2)) {K56 : Int32 → Int32 → Hp → Prop} (hK56 : ∀ (a1 : Int32) (a2 : Int32) (h : Hp) (c n : Nat), c + 0 ≤ 0 → n + 0 ≤ 0 → K56 a1 a2 h → SW E 56 ([some (vP (some (12, 0))), some (vI (a1)), some (vI (a2))], [], h, c, n)) {a1 : Int32} {a2 : Int32} {h : Hp} {c n : Nat} (hc : c + 0 ≤ 0) (hn : n + 0 ≤ 0) (w : w_X12_starts_107 K56 Q a1 a2 h) : SW E 107 ([some (vP (some (12, 0))), some (vI (a1)), some (vI (a2))], [], h, c, n) := by
  obtain ⟨G1, w⟩ := w
  refine k_X12_starts_107 cx hY G1 ?_
  exact s_X12_starts_120 cx hY eq hK56 (by omega) (by omega) w
theorem s_X12_starts_104 {E : EnvT} {d : Nat} (cx : CX E "ShoreDayModel" cX12_starts 3 none "starts" (d + 2) 0 0) (hY : eY E = lay1) {Q : Hp → Prop} (eq : EQ E 0 0 (fun r h2 => r = [] ∧ Q h2)) {K56 : Int32 → Int32 → Hp → Prop} (hK56 : ∀ (a1 : Int32) (a2 : Int32) (h : Hp) (c n : Nat), c + 0 ≤ 0 → n + 0 ≤ 0 → K56 a1 a2 h → SW E 56 ([some (vP (some (12, 0))), some (vI (a1)), some (vI (a2))], [], h, c, n)) {a1 : Int32} {a2 : Int32} {h : Hp} {c n : Nat} (hc : c + 0 ≤ 0) (hn : n + 0 ≤ 0) (w : w_X12_starts_104 K56 Q a1 a2 h) : SW E 104 ([some (vP (some (12, 0))), some (vI (a1)), some (vI (a2))], [], h, c, n) := by
  refine k_X12_starts_104 cx hY ?_
  exact s_X12_starts_120 cx hY eq hK56 (by omega) (by omega) w
theorem s_X12_starts_82 {E : EnvT} {d : Nat} (cx : CX E "ShoreDayModel" cX12_starts 3 none "starts" (d + 2) 0 0) (hY : eY E = lay1) {Q : Hp → Prop} (eq : EQ E 0 0 (fun r h2 => r = [] ∧ Q h2)) {K56 : Int32 → Int32 → Hp → Prop} (hK56 : ∀ (a1 : Int32) (a2 : Int32) (h : Hp) (c n : Nat), c + 0 ≤ 0 → n + 0 ≤ 0 → K56 a1 a2 h → SW E 56 ([some (vP (some (12, 0))), some (vI (a1)), some (vI (a2))], [], h, c, n)) {a1 : Int32} {a2 : Int32} {h : Hp} {c n : Nat} (hc : c + 0 ≤ 0) (hn : n + 0 ≤ 0) (w : w_X12_starts_82 K56 Q a1 a2 h) : SW E 82 ([some (vP (some (12, 0))), some (vI (a1)), some (vI (a2))], [], h, c, n) := by
  obtain ⟨G1, G2, G3, G4, w⟩ := w
  refine k_X12_starts_82 cx hY G1 G2 G3 G4 ?_
  exact s_X12_starts_104 cx hY eq hK56 (by omega) (by omega) w
theorem s_X12_starts_60 {E : EnvT} {d : Nat} (cx : CX E "ShoreDayModel" cX12_starts 3 none "starts" (d + 2) 0 0) (hY : eY E = lay1) {Q : Hp → Prop} (eq : EQ E 0 0 (fun r h2 => r = [] ∧ Q h2)) {K56 : Int32 → Int32 → Hp → Prop} (hK56 : ∀ (a1 : Int32) (a2 : Int32) (h : Hp) (c n : Nat), c + 0 ≤ 0 → n + 0 ≤ 0 → K56 a1 a2 h → SW E 56 ([some (vP (some (12, 0))), some (vI (a1)), some (vI (a2))], [], h, c, n)) {a1 : Int32} {a2 : Int32} {h : Hp} {c n : Nat} (hc : c + 0 ≤ 0) (hn : n + 0 ≤ 0) (w : w_X12_starts_60 K56 Q a1 a2 h) : SW E 60 ([some (vP (some (12, 0))), some (vI (a1)), some (vI (a2))], [], h, c, n) := by
  obtain ⟨G1, G2, G3, w⟩ := w
  refine k_X12_starts_60 cx hY G1 G2 G3 (fun q => ?_) (fun q => ?_)
  · have w := w.1 q
    exact s_X12_starts_107 cx hY eq hK56 (by omega) (by omega) w
  · have w := w.2 q
    exact s_X12_starts_82 cx hY eq hK56 (by omega) (by omega) w
theorem s_X12_starts_56 {E : EnvT} {d : Nat} (cx : CX E "ShoreDayModel" cX12_starts 3 none "starts" (d + 2) 0 0) (hY : eY E = lay1) {Q : Hp → Prop} (eq : EQ E 0 0 (fun r h2 => r = [] ∧ Q h2)) : ∀ (N : Nat) (a1 : Int32) (a2 : Int32) (h : Hp) (c n : Nat), c + 0 ≤ 0 → n + 0 ≤ 0 → w_X12_starts_56  Q N a1 a2 h → SW E 56 ([some (vP (some (12, 0))), some (vI (a1)), some (vI (a2))], [], h, c, n) := by
  intro N
  induction N with
  | zero =>
    intro _ _ h c n _ _ w
    exact w.elim
  | succ N ih =>
    intro a1 a2 h c n hc hn w
    refine k_X12_starts_56 cx hY (fun q => ?_) (fun q => ?_)
    · have w := w.1 q
      exact s_X12_starts_132 cx hY eq  (by omega) (by omega) w
    · have w := w.2 q
      exact s_X12_starts_60 cx hY eq ih (by omega) (by omega) w
theorem s_X12_starts_55 {E : EnvT} {d : Nat} (cx : CX E "ShoreDayModel" cX12_starts 3 none "starts" (d + 2) 0 0) (hY : eY E = lay1) {Q : Hp → Prop} (eq : EQ E 0 0 (fun r h2 => r = [] ∧ Q h2)) {a1 : Int32} {a2 : Int32} {s0 : Int32} {h : Hp} {c n : Nat} (hc : c + 0 ≤ 0) (hn : n + 0 ≤ 0) (w : w_X12_starts_55  Q a1 a2 s0 h) : SW E 55 ([some (vP (some (12, 0))), some (vI (a1)), some (vI (a2))], [vI (s0)], h, c, n) := by
  refine k_X12_starts_55 cx hY ?_
  obtain ⟨N1, w⟩ := w
  exact s_X12_starts_56 cx hY eq  _ _ _ _ _ _ (by omega) (by omega) w
theorem s_X12_starts_47 {E : EnvT} {d : Nat} (cx : CX E "ShoreDayModel" cX12_starts 3 none "starts" (d + 2) 0 0) (hY : eY E = lay1) {Q : Hp → Prop} (eq : EQ E 0 0 (fun r h2 => r = [] ∧ Q h2)) {a1 : Int32} {a2 : Int32} {h : Hp} {c n : Nat} (hc : c + 0 ≤ 0) (hn : n + 0 ≤ 0) (w : w_X12_starts_47  Q a1 a2 h) : SW E 47 ([some (vP (some (12, 0))), some (vI (a1)), some (vI (a2))], [], h, c, n) := by
  refine k_X12_starts_47 cx hY (ctY hY (vc_X12_nextBy_t (d := d + 0) w)) (by omega) (by omega) (by omega) (fun r h2 hp => ?_)
  obtain ⟨r2, rfl, w⟩ := hp
  exact s_X12_starts_55 cx hY eq  (by omega) (by omega) w
theorem s_X12_starts_40 {E : EnvT} {d : Nat} (cx : CX E "ShoreDayModel" cX12_starts 3 none "starts" (d + 2) 0 0) (hY : eY E = lay1) {Q : Hp → Prop} (eq : EQ E 0 0 (fun r h2 => r = [] ∧ Q h2)) {K2 : Int32 → Int32 → Hp → Prop} (hK2 : ∀ (a1 : Int32) (a2 : Int32) (h : Hp) (c n : Nat), c + 0 ≤ 0 → n + 0 ≤ 0 → K2 a1 a2 h → SW E 2 ([some (vP (some (12, 0))), some (vI (a1)), some (vI (a2))], [], h, c, n)) {a1 : Int32} {a2 : Int32} {s1 : Int32} {s2 : Int32} {h : Hp} {c n : Nat} (hc : c + 0 ≤ 0) (hn : n + 0 ≤ 0) (w : w_X12_starts_40 K2 Q a1 a2 s1 s2 h) : SW E 40 ([some (vP (some (12, 0))), some (vI (a1)), some (vI (a2))], [vI (s2), vI (s1), vP (some (160, 0))], h, c, n) := by
  obtain ⟨G1, w⟩ := w
  refine k_X12_starts_40 cx hY G1 ?_
  exact hK2 _ _ _ _ _ (by omega) (by omega) w
theorem s_X12_starts_39 {E : EnvT} {d : Nat} (cx : CX E "ShoreDayModel" cX12_starts 3 none "starts" (d + 2) 0 0) (hY : eY E = lay1) {Q : Hp → Prop} (eq : EQ E 0 0 (fun r h2 => r = [] ∧ Q h2)) {K2 : Int32 → Int32 → Hp → Prop} (hK2 : ∀ (a1 : Int32) (a2 : Int32) (h : Hp) (c n : Nat), c + 0 ≤ 0 → n + 0 ≤ 0 → K2 a1 a2 h → SW E 2 ([some (vP (some (12, 0))), some (vI (a1)), some (vI (a2))], [], h, c, n)) {a1 : Int32} {a2 : Int32} {s1 : Int32} {h : Hp} {c n : Nat} (hc : c + 0 ≤ 0) (hn : n + 0 ≤ 0) (w : w_X12_starts_39 K2 Q a1 a2 s1 h) : SW E 39 ([some (vP (some (12, 0))), some (vI (a1)), some (vI (a2))], [vI (s1), vP (some (160, 0))], h, c, n) := by
  refine k_X12_starts_39 cx hY ?_
  exact s_X12_starts_40 cx hY eq hK2 (by omega) (by omega) w
theorem s_X12_starts_35 {E : EnvT} {d : Nat} (cx : CX E "ShoreDayModel" cX12_starts 3 none "starts" (d + 2) 0 0) (hY : eY E = lay1) {Q : Hp → Prop} (eq : EQ E 0 0 (fun r h2 => r = [] ∧ Q h2)) {K2 : Int32 → Int32 → Hp → Prop} (hK2 : ∀ (a1 : Int32) (a2 : Int32) (h : Hp) (c n : Nat), c + 0 ≤ 0 → n + 0 ≤ 0 → K2 a1 a2 h → SW E 2 ([some (vP (some (12, 0))), some (vI (a1)), some (vI (a2))], [], h, c, n)) {a1 : Int32} {a2 : Int32} {s1 : Int32} {h : Hp} {c n : Nat} (hc : c + 0 ≤ 0) (hn : n + 0 ≤ 0) (w : w_X12_starts_35 K2 Q a1 a2 s1 h) : SW E 35 ([some (vP (some (12, 0))), some (vI (a1)), some (vI (a2))], [vI (s1), vP (some (160, 0))], h, c, n) := by
  refine k_X12_starts_35 cx hY ?_
  exact s_X12_starts_40 cx hY eq hK2 (by omega) (by omega) w
theorem s_X12_starts_25 {E : EnvT} {d : Nat} (cx : CX E "ShoreDayModel" cX12_starts 3 none "starts" (d + 2) 0 0) (hY : eY E = lay1) {Q : Hp → Prop} (eq : EQ E 0 0 (fun r h2 => r = [] ∧ Q h2)) {K2 : Int32 → Int32 → Hp → Prop} (hK2 : ∀ (a1 : Int32) (a2 : Int32) (h : Hp) (c n : Nat), c + 0 ≤ 0 → n + 0 ≤ 0 → K2 a1 a2 h → SW E 2 ([some (vP (some (12, 0))), some (vI (a1)), some (vI (a2))], [], h, c, n)) {a1 : Int32} {a2 : Int32} {s1 : Int32} {h : Hp} {c n : Nat} (hc : c + 0 ≤ 0) (hn : n + 0 ≤ 0) (w : w_X12_starts_25 K2 Q a1 a2 s1 h) : SW E 25 ([some (vP (some (12, 0))), some (vI (a1)), some (vI (a2))], [vI (s1), vP (some (160, 0))], h, c, n) := by
  obtain ⟨G1, w⟩ := w
  refine k_X12_starts_25 cx hY G1 (fun q => ?_) (fun q => ?_)
  · have w := w.1 q
    exact s_X12_starts_39 cx hY eq hK2 (by omega) (by omega) w
  · have w := w.2 q
    exact s_X12_starts_35 cx hY eq hK2 (by omega) (by omega) w
theorem s_X12_starts_10 {E : EnvT} {d : Nat} (cx : CX E "ShoreDayModel" cX12_starts 3 none "starts" (d + 2) 0 0) (hY : eY E = lay1) {Q : Hp → Prop} (eq : EQ E 0 0 (fun r h2 => r = [] ∧ Q h2)) {K2 : Int32 → Int32 → Hp → Prop} (hK2 : ∀ (a1 : Int32) (a2 : Int32) (h : Hp) (c n : Nat), c + 0 ≤ 0 → n + 0 ≤ 0 → K2 a1 a2 h → SW E 2 ([some (vP (some (12, 0))), some (vI (a1)), some (vI (a2))], [], h, c, n)) {a1 : Int32} {a2 : Int32} {h : Hp} {c n : Nat} (hc : c + 0 ≤ 0) (hn : n + 0 ≤ 0) (w : w_X12_starts_10 K2 Q a1 a2 h) : SW E 10 ([some (vP (some (12, 0))), some (vI (a1)), some (vI (a2))], [], h, c, n) := by
  obtain ⟨G1, w⟩ := w
  refine k_X12_starts_10 cx hY G1 (fun q => ?_) (fun q => ?_)
  · have w := w.1 q
    exact s_X12_starts_39 cx hY eq hK2 (by omega) (by omega) w
  · have w := w.2 q
    exact s_X12_starts_25 cx hY eq hK2 (by omega) (by omega) w
theorem s_X12_starts_2 {E : EnvT} {d : Nat} (cx : CX E "ShoreDayModel" cX12_starts 3 none "starts" (d + 2) 0 0) (hY : eY E = lay1) {Q : Hp → Prop} (eq : EQ E 0 0 (fun r h2 => r = [] ∧ Q h2)) : ∀ (N : Nat) (a1 : Int32) (a2 : Int32) (h : Hp) (c n : Nat), c + 0 ≤ 0 → n + 0 ≤ 0 → w_X12_starts_2  Q N a1 a2 h → SW E 2 ([some (vP (some (12, 0))), some (vI (a1)), some (vI (a2))], [], h, c, n) := by
  intro N
  induction N with
  | zero =>
    intro _ _ h c n _ _ w
    exact w.elim
  | succ N ih =>
    intro a1 a2 h c n hc hn w
    refine k_X12_starts_2 cx hY (fun q => ?_) (fun q => ?_)
    · have w := w.1 q
      exact s_X12_starts_47 cx hY eq  (by omega) (by omega) w
    · have w := w.2 q
      exact s_X12_starts_10 cx hY eq ih (by omega) (by omega) w
theorem s_X12_starts_0 {E : EnvT} {d : Nat} (cx : CX E "ShoreDayModel" cX12_starts 3 none "starts" (d + 2) 0 0) (hY : eY E = lay1) {Q : Hp → Prop} (eq : EQ E 0 0 (fun r h2 => r = [] ∧ Q h2)) {a1 : Int32} {x2 : Option AVal} {h : Hp} {c n : Nat} (hc : c + 0 ≤ 0) (hn : n + 0 ≤ 0) (w : w_X12_starts_0  Q a1 h) : SW E 0 ([some (vP (some (12, 0))), some (vI (a1)), x2], [], h, c, n) := by
  refine k_X12_starts_0 cx hY ?_
  obtain ⟨N1, w⟩ := w
  exact s_X12_starts_2 cx hY eq  _ _ _ _ _ _ (by omega) (by omega) w
def wp_X12_starts (a1 : Int32) (h : Hp) (Q : Hp → Prop) : Prop := w_X12_starts_0 Q a1 h
theorem vc_X12_starts {l : Launch} {d : Nat} {a1 : Int32} {h : Hp} {Q : Hp → Prop} (w : wp_X12_starts a1 h Q) : Ct l lay1 yX12_starts cX12_starts 3 none (d + 2) 0 0 [vP (some (12, 0)), vI a1] h (fun r h2 => r = [] ∧ Q h2) := by
  exact Ct.of (by decide) (Nat.le_of_ble_eq_true rfl) fun E cx eq hl hY => s_X12_starts_0 cx hY eq (Nat.le_refl _) (Nat.le_refl _) w
def w_X12_ends_100 (Q : Hp → Prop) (a1 : Int32) (a2 : Int32) (a3 : Int32) (h : Hp) : Prop := Q (h)
def w_X12_ends_83 (Q : Hp → Prop) (a1 : Int32) (a2 : Int32) (a3 : Int32) (h : Hp) : Prop := vp_in (a1) 60 ∧ (vp_in (a1) 60 ∧ (w_X12_ends_100  Q (a1) (a2) (a3) (wI (wI (h) 148 (0) (tN (a1)) ((4 : Int32))) 154 (0) (tN (a1)) (gI (wI (h) 148 (0) (tN (a1)) ((4 : Int32))) 12 (0) (24)))))
def w_X12_ends_79 (Q : Hp → Prop) (a1 : Int32) (a2 : Int32) (a3 : Int32) (h : Hp) : Prop := ((a3) = 0 → w_X12_ends_100  Q (a1) (a2) (a3) (h)) ∧ (¬ (a3) = 0 → w_X12_ends_83  Q (a1) (a2) (a3) (h))
def w_X12_ends_74 (Q : Hp → Prop) (a1 : Int32) (a2 : Int32) (s0 : Int32) (h : Hp) : Prop := (¬ (a2) = 0 → w_X12_ends_83  Q (a1) (a2) (s0) (h)) ∧ ((a2) = 0 → w_X12_ends_79  Q (a1) (a2) (s0) (h))
def w_X12_ends_73 (Q : Hp → Prop) (a1 : Int32) (a2 : Int32) (h : Hp) : Prop := w_X12_ends_74  Q (a1) (a2) ((0 : Int32)) (h)
def w_X12_ends_69 (Q : Hp → Prop) (a1 : Int32) (a2 : Int32) (h : Hp) : Prop := w_X12_ends_74  Q (a1) (a2) ((1 : Int32)) (h)
def w_X12_ends_39 (Q : Hp → Prop) (a1 : Int32) (a2 : Int32) (h : Hp) : Prop := vp_in (a1) 60 ∧ (vp_in (gI (h) 146 (0) (tN (a1))) 8 ∧ (vp_in (a1) 60 ∧ (vp_in (gI (h) 146 (0) (tN (a1))) 8 ∧ ((¬ (gI (h) 12 (0) (24)) = ((gI (h) 136 (0) (tN (gI (h) 146 (0) (tN (a1))))) + (gI (h) 137 (0) (tN (gI (h) 146 (0) (tN (a1)))))) → w_X12_ends_73  Q (a1) (a2) (h)) ∧ ((gI (h) 12 (0) (24)) = ((gI (h) 136 (0) (tN (gI (h) 146 (0) (tN (a1))))) + (gI (h) 137 (0) (tN (gI (h) 146 (0) (tN (a1)))))) → w_X12_ends_69  Q (a1) (a2) (h))))))
def w_X12_ends_28 (Q : Hp → Prop) (a1 : Int32) (s0 : Int32) (h : Hp) : Prop := vp_in (a1) 60 ∧ ((¬ (gI (h) 148 (0) (tN (a1))) = ((3 : Int32)) → w_X12_ends_73  Q (a1) (s0) (h)) ∧ ((gI (h) 148 (0) (tN (a1))) = ((3 : Int32)) → w_X12_ends_39  Q (a1) (s0) (h)))
def w_X12_ends_27 (Q : Hp → Prop) (a1 : Int32) (h : Hp) : Prop := w_X12_ends_28  Q (a1) ((0 : Int32)) (h)
def w_X12_ends_23 (Q : Hp → Prop) (a1 : Int32) (h : Hp) : Prop := w_X12_ends_28  Q (a1) ((1 : Int32)) (h)
def w_X12_ends_10 (Q : Hp → Prop) (a1 : Int32) (h : Hp) : Prop := vp_in (a1) 60 ∧ ((¬ (gI (h) 150 (0) (tN (a1))) = (gI (h) 12 (0) (24)) → w_X12_ends_27  Q (a1) (h)) ∧ ((gI (h) 150 (0) (tN (a1))) = (gI (h) 12 (0) (24)) → w_X12_ends_23  Q (a1) (h)))
def w_X12_ends_0 (Q : Hp → Prop) (a1 : Int32) (h : Hp) : Prop := vp_in (a1) 60 ∧ ((¬ (gI (h) 148 (0) (tN (a1))) = ((2 : Int32)) → w_X12_ends_27  Q (a1) (h)) ∧ ((gI (h) 148 (0) (tN (a1))) = ((2 : Int32)) → w_X12_ends_10  Q (a1) (h)))
theorem s_X12_ends_100 {E : EnvT} {d : Nat} (cx : CX E "ShoreDayModel" cX12_ends 4 none "ends" (d + 1) 0 0) (hY : eY E = lay1) {Q : Hp → Prop} (eq : EQ E 0 0 (fun r h2 => r = [] ∧ Q h2)) {a1 : Int32} {a2 : Int32} {a3 : Int32} {h : Hp} {c n : Nat} (hc : c + 0 ≤ 0) (hn : n + 0 ≤ 0) (w : w_X12_ends_100  Q a1 a2 a3 h) : SW E 100 ([some (vP (some (12, 0))), some (vI (a1)), some (vI (a2)), some (vI (a3))], [], h, c, n) := by
  exact k_X12_ends_100 cx hY eq (by omega) (by omega) ⟨rfl, w⟩
theorem s_X12_ends_83 {E : EnvT} {d : Nat} (cx : CX E "ShoreDayModel" cX12_ends 4 none "ends" (d + 1) 0 0) (hY : eY E = lay1) {Q : Hp → Prop} (eq : EQ E 0 0 (fun r h2 => r = [] ∧ Q h2)) {a1 : Int32} {a2 : Int32} {a3 : Int32} {h : Hp} {c n : Nat} (hc : c + 0 ≤ 0) (hn : n + 0 ≤ 0) (w : w_X12_ends_83  Q a1 a2 a3 h) : SW E 83 ([some (vP (some (12, 0))), some (vI (a1)), some (vI (a2)), some (vI (a3))], [], h, c, n) := by
  obtain ⟨G1, G2, w⟩ := w
  refine k_X12_ends_83 cx hY G1 G2 ?_
  exact s_X12_ends_100 cx hY eq  (by omega) (by omega) w
theorem s_X12_ends_79 {E : EnvT} {d : Nat} (cx : CX E "ShoreDayModel" cX12_ends 4 none "ends" (d + 1) 0 0) (hY : eY E = lay1) {Q : Hp → Prop} (eq : EQ E 0 0 (fun r h2 => r = [] ∧ Q h2)) {a1 : Int32} {a2 : Int32} {a3 : Int32} {h : Hp} {c n : Nat} (hc : c + 0 ≤ 0) (hn : n + 0 ≤ 0) (w : w_X12_ends_79  Q a1 a2 a3 h) : SW E 79 ([some (vP (some (12, 0))), some (vI (a1)), some (vI (a2)), some (vI (a3))], [], h, c, n) := by
  refine k_X12_ends_79 cx hY (fun q => ?_) (fun q => ?_)
  · have w := w.1 q
    exact s_X12_ends_100 cx hY eq  (by omega) (by omega) w
  · have w := w.2 q
    exact s_X12_ends_83 cx hY eq  (by omega) (by omega) w
theorem s_X12_ends_74 {E : EnvT} {d : Nat} (cx : CX E "ShoreDayModel" cX12_ends 4 none "ends" (d + 1) 0 0) (hY : eY E = lay1) {Q : Hp → Prop} (eq : EQ E 0 0 (fun r h2 => r = [] ∧ Q h2)) {a1 : Int32} {a2 : Int32} {x3 : Option AVal} {s0 : Int32} {h : Hp} {c n : Nat} (hc : c + 0 ≤ 0) (hn : n + 0 ≤ 0) (w : w_X12_ends_74  Q a1 a2 s0 h) : SW E 74 ([some (vP (some (12, 0))), some (vI (a1)), some (vI (a2)), x3], [vI (s0)], h, c, n) := by
  refine k_X12_ends_74 cx hY (fun q => ?_) (fun q => ?_)
  · have w := w.1 q
    exact s_X12_ends_83 cx hY eq  (by omega) (by omega) w
  · have w := w.2 q
    exact s_X12_ends_79 cx hY eq  (by omega) (by omega) w
theorem s_X12_ends_73 {E : EnvT} {d : Nat} (cx : CX E "ShoreDayModel" cX12_ends 4 none "ends" (d + 1) 0 0) (hY : eY E = lay1) {Q : Hp → Prop} (eq : EQ E 0 0 (fun r h2 => r = [] ∧ Q h2)) {a1 : Int32} {a2 : Int32} {x3 : Option AVal} {h : Hp} {c n : Nat} (hc : c + 0 ≤ 0) (hn : n + 0 ≤ 0) (w : w_X12_ends_73  Q a1 a2 h) : SW E 73 ([some (vP (some (12, 0))), some (vI (a1)), some (vI (a2)), x3], [], h, c, n) := by
  refine k_X12_ends_73 cx hY ?_
  exact s_X12_ends_74 cx hY eq  (by omega) (by omega) w
theorem s_X12_ends_69 {E : EnvT} {d : Nat} (cx : CX E "ShoreDayModel" cX12_ends 4 none "ends" (d + 1) 0 0) (hY : eY E = lay1) {Q : Hp → Prop} (eq : EQ E 0 0 (fun r h2 => r = [] ∧ Q h2)) {a1 : Int32} {a2 : Int32} {x3 : Option AVal} {h : Hp} {c n : Nat} (hc : c + 0 ≤ 0) (hn : n + 0 ≤ 0) (w : w_X12_ends_69  Q a1 a2 h) : SW E 69 ([some (vP (some (12, 0))), some (vI (a1)), some (vI (a2)), x3], [], h, c, n) := by
  refine k_X12_ends_69 cx hY ?_
  exact s_X12_ends_74 cx hY eq  (by omega) (by omega) w
theorem s_X12_ends_39 {E : EnvT} {d : Nat} (cx : CX E "ShoreDayModel" cX12_ends 4 none "ends" (d + 1) 0 0) (hY : eY E = lay1) {Q : Hp → Prop} (eq : EQ E 0 0 (fun r h2 => r = [] ∧ Q h2)) {a1 : Int32} {a2 : Int32} {x3 : Option AVal} {h : Hp} {c n : Nat} (hc : c + 0 ≤ 0) (hn : n + 0 ≤ 0) (w : w_X12_ends_39  Q a1 a2 h) : SW E 39 ([some (vP (some (12, 0))), some (vI (a1)), some (vI (a2)), x3], [], h, c, n) := by
  obtain ⟨G1, G2, G3, G4, w⟩ := w
  refine k_X12_ends_39 cx hY G1 G2 G3 G4 (fun q => ?_) (fun q => ?_)
  · have w := w.1 q
    exact s_X12_ends_73 cx hY eq  (by omega) (by omega) w
  · have w := w.2 q
    exact s_X12_ends_69 cx hY eq  (by omega) (by omega) w
theorem s_X12_ends_28 {E : EnvT} {d : Nat} (cx : CX E "ShoreDayModel" cX12_ends 4 none "ends" (d + 1) 0 0) (hY : eY E = lay1) {Q : Hp → Prop} (eq : EQ E 0 0 (fun r h2 => r = [] ∧ Q h2)) {a1 : Int32} {x2 : Option AVal} {x3 : Option AVal} {s0 : Int32} {h : Hp} {c n : Nat} (hc : c + 0 ≤ 0) (hn : n + 0 ≤ 0) (w : w_X12_ends_28  Q a1 s0 h) : SW E 28 ([some (vP (some (12, 0))), some (vI (a1)), x2, x3], [vI (s0)], h, c, n) := by
  obtain ⟨G1, w⟩ := w
  refine k_X12_ends_28 cx hY G1 (fun q => ?_) (fun q => ?_)
  · have w := w.1 q
    exact s_X12_ends_73 cx hY eq  (by omega) (by omega) w
  · have w := w.2 q
    exact s_X12_ends_39 cx hY eq  (by omega) (by omega) w
theorem s_X12_ends_27 {E : EnvT} {d : Nat} (cx : CX E "ShoreDayModel" cX12_ends 4 none "ends" (d + 1) 0 0) (hY : eY E = lay1) {Q : Hp → Prop} (eq : EQ E 0 0 (fun r h2 => r = [] ∧ Q h2)) {a1 : Int32} {x2 : Option AVal} {x3 : Option AVal} {h : Hp} {c n : Nat} (hc : c + 0 ≤ 0) (hn : n + 0 ≤ 0) (w : w_X12_ends_27  Q a1 h) : SW E 27 ([some (vP (some (12, 0))), some (vI (a1)), x2, x3], [], h, c, n) := by
  refine k_X12_ends_27 cx hY ?_
  exact s_X12_ends_28 cx hY eq  (by omega) (by omega) w
theorem s_X12_ends_23 {E : EnvT} {d : Nat} (cx : CX E "ShoreDayModel" cX12_ends 4 none "ends" (d + 1) 0 0) (hY : eY E = lay1) {Q : Hp → Prop} (eq : EQ E 0 0 (fun r h2 => r = [] ∧ Q h2)) {a1 : Int32} {x2 : Option AVal} {x3 : Option AVal} {h : Hp} {c n : Nat} (hc : c + 0 ≤ 0) (hn : n + 0 ≤ 0) (w : w_X12_ends_23  Q a1 h) : SW E 23 ([some (vP (some (12, 0))), some (vI (a1)), x2, x3], [], h, c, n) := by
  refine k_X12_ends_23 cx hY ?_
  exact s_X12_ends_28 cx hY eq  (by omega) (by omega) w
theorem s_X12_ends_10 {E : EnvT} {d : Nat} (cx : CX E "ShoreDayModel" cX12_ends 4 none "ends" (d + 1) 0 0) (hY : eY E = lay1) {Q : Hp → Prop} (eq : EQ E 0 0 (fun r h2 => r = [] ∧ Q h2)) {a1 : Int32} {x2 : Option AVal} {x3 : Option AVal} {h : Hp} {c n : Nat} (hc : c + 0 ≤ 0) (hn : n + 0 ≤ 0) (w : w_X12_ends_10  Q a1 h) : SW E 10 ([some (vP (some (12, 0))), some (vI (a1)), x2, x3], [], h, c, n) := by
  obtain ⟨G1, w⟩ := w
  refine k_X12_ends_10 cx hY G1 (fun q => ?_) (fun q => ?_)
  · have w := w.1 q
    exact s_X12_ends_27 cx hY eq  (by omega) (by omega) w
  · have w := w.2 q
    exact s_X12_ends_23 cx hY eq  (by omega) (by omega) w
theorem s_X12_ends_0 {E : EnvT} {d : Nat} (cx : CX E "ShoreDayModel" cX12_ends 4 none "ends" (d + 1) 0 0) (hY : eY E = lay1) {Q : Hp → Prop} (eq : EQ E 0 0 (fun r h2 => r = [] ∧ Q h2)) {a1 : Int32} {x2 : Option AVal} {x3 : Option AVal} {h : Hp} {c n : Nat} (hc : c + 0 ≤ 0) (hn : n + 0 ≤ 0) (w : w_X12_ends_0  Q a1 h) : SW E 0 ([some (vP (some (12, 0))), some (vI (a1)), x2, x3], [], h, c, n) := by
  obtain ⟨G1, w⟩ := w
  refine k_X12_ends_0 cx hY G1 (fun q => ?_) (fun q => ?_)
  · have w := w.1 q
    exact s_X12_ends_27 cx hY eq  (by omega) (by omega) w
  · have w := w.2 q
    exact s_X12_ends_10 cx hY eq  (by omega) (by omega) w
def wp_X12_ends (a1 : Int32) (h : Hp) (Q : Hp → Prop) : Prop := w_X12_ends_0 Q a1 h
theorem vc_X12_ends {l : Launch} {d : Nat} {a1 : Int32} {h : Hp} {Q : Hp → Prop} (w : wp_X12_ends a1 h Q) : Ct l lay1 yX12_ends cX12_ends 4 none (d + 1) 0 0 [vP (some (12, 0)), vI a1] h (fun r h2 => r = [] ∧ Q h2) := by
  exact Ct.of (by decide) (Nat.le_of_ble_eq_true rfl) fun E cx eq hl hY => s_X12_ends_0 cx hY eq (Nat.le_refl _) (Nat.le_refl _) w
def w_X12_sailsOff_104 (Q : Hp → Prop) (a1 : Int32) (a2 : Int32) (h : Hp) : Prop := Q (h)
def w_X12_sailsOff_97 (K64 : Int32 → Int32 → Hp → Prop) (Q : Hp → Prop) (a1 : Int32) (a2 : Int32) (s1 : Int32) (s2 : Int32) (h : Hp) : Prop := vp_in (s1) 6 ∧ (K64 (a1) (a2 + 1) (wI (h) 133 (0) (tN (s1)) (s2)))
def w_X12_sailsOff_91 (K64 : Int32 → Int32 → Hp → Prop) (Q : Hp → Prop) (a1 : Int32) (a2 : Int32) (s1 : Int32) (h : Hp) : Prop := vp_in (a2) 6 ∧ (w_X12_sailsOff_97 K64 Q (a1) (a2) (s1) (gI (h) 133 (0) (tN (a2))) (h))
def w_X12_sailsOff_87 (K64 : Int32 → Int32 → Hp → Prop) (Q : Hp → Prop) (a1 : Int32) (a2 : Int32) (s1 : Int32) (h : Hp) : Prop := w_X12_sailsOff_97 K64 Q (a1) (a2) (s1) ((4 : Int32)) (h)
def w_X12_sailsOff_72 (K64 : Int32 → Int32 → Hp → Prop) (Q : Hp → Prop) (a1 : Int32) (a2 : Int32) (h : Hp) : Prop := vp_in (a2) 6 ∧ ((¬ (gI (h) 131 (0) (tN (a2))) = (a1) → w_X12_sailsOff_91 K64 Q (a1) (a2) (a2) (h)) ∧ ((gI (h) 131 (0) (tN (a2))) = (a1) → w_X12_sailsOff_87 K64 Q (a1) (a2) (a2) (h)))
def w_X12_sailsOff_64 (Q : Hp → Prop) : Nat → Int32 → Int32 → Hp → Prop
  | 0 => fun _ _ _ => False
  | N + 1 => fun a1 a2 h => ((gI (h) 12 (0) (30)) ≤ (a2) → w_X12_sailsOff_104  Q (a1) (a2) (h)) ∧ (¬ (gI (h) 12 (0) (30)) ≤ (a2) → w_X12_sailsOff_72 (w_X12_sailsOff_64  Q N) Q (a1) (a2) (h))
def w_X12_sailsOff_62 (Q : Hp → Prop) (a1 : Int32) (a2 : Int32) (h : Hp) : Prop := ∃ N, w_X12_sailsOff_64  Q N (a1) ((0 : Int32)) (h)
def w_X12_sailsOff_56 (K2 : Int32 → Int32 → Hp → Prop) (Q : Hp → Prop) (a1 : Int32) (a2 : Int32) (h : Hp) : Prop := K2 (a1) (a2 + 1) (h)
def w_X12_sailsOff_34 (K2 : Int32 → Int32 → Hp → Prop) (Q : Hp → Prop) (a1 : Int32) (a2 : Int32) (h : Hp) : Prop := vp_in (a2) 60 ∧ (vp_in (a2) 60 ∧ (vp_in (a2) 60 ∧ (w_X12_sailsOff_56 K2 Q (a1) (a2) (wI (wI (wI (h) 148 (0) (tN (a2)) ((6 : Int32))) 149 (0) (tN (a2)) ((-1 : Int32))) 154 (0) (tN (a2)) ((-1 : Int32))))))
def w_X12_sailsOff_31 (K2 : Int32 → Int32 → Hp → Prop) (Q : Hp → Prop) (a1 : Int32) (a2 : Int32) (s0 : Int32) (h : Hp) : Prop := ((s0) = 0 → w_X12_sailsOff_56 K2 Q (a1) (a2) (h)) ∧ (¬ (s0) = 0 → w_X12_sailsOff_34 K2 Q (a1) (a2) (h))
def w_X12_sailsOff_20 (K2 : Int32 → Int32 → Hp → Prop) (Q : Hp → Prop) (a1 : Int32) (a2 : Int32) (h : Hp) : Prop := vp_in (a2) 60 ∧ (wp_X12_within (gI (h) 148 (0) (tN (a2))) ((1 : Int32)) ((4 : Int32)) (h) (fun r2 h2 => w_X12_sailsOff_31 K2 Q (a1) (a2) (r2) (h2)))
def w_X12_sailsOff_10 (K2 : Int32 → Int32 → Hp → Prop) (Q : Hp → Prop) (a1 : Int32) (a2 : Int32) (h : Hp) : Prop := vp_in (a2) 60 ∧ ((¬ (gI (h) 142 (0) (tN (a2))) = (a1) → w_X12_sailsOff_56 K2 Q (a1) (a2) (h)) ∧ ((gI (h) 142 (0) (tN (a2))) = (a1) → w_X12_sailsOff_20 K2 Q (a1) (a2) (h)))
def w_X12_sailsOff_2 (Q : Hp → Prop) : Nat → Int32 → Int32 → Hp → Prop
  | 0 => fun _ _ _ => False
  | N + 1 => fun a1 a2 h => ((gI (h) 12 (0) (41)) ≤ (a2) → w_X12_sailsOff_62  Q (a1) (a2) (h)) ∧ (¬ (gI (h) 12 (0) (41)) ≤ (a2) → w_X12_sailsOff_10 (w_X12_sailsOff_2  Q N) Q (a1) (a2) (h))
def w_X12_sailsOff_0 (Q : Hp → Prop) (a1 : Int32) (h : Hp) : Prop := ∃ N, w_X12_sailsOff_2  Q N (a1) ((0 : Int32)) (h)
theorem s_X12_sailsOff_104 {E : EnvT} {d : Nat} (cx : CX E "ShoreDayModel" cX12_sailsOff 3 none "sailsOff" (d + 2) 0 0) (hY : eY E = lay1) {Q : Hp → Prop} (eq : EQ E 0 0 (fun r h2 => r = [] ∧ Q h2)) {a1 : Int32} {a2 : Int32} {h : Hp} {c n : Nat} (hc : c + 0 ≤ 0) (hn : n + 0 ≤ 0) (w : w_X12_sailsOff_104  Q a1 a2 h) : SW E 104 ([some (vP (some (12, 0))), some (vI (a1)), some (vI (a2))], [], h, c, n) := by
  exact k_X12_sailsOff_104 cx hY eq (by omega) (by omega) ⟨rfl, w⟩
theorem s_X12_sailsOff_97 {E : EnvT} {d : Nat} (cx : CX E "ShoreDayModel" cX12_sailsOff 3 none "sailsOff" (d + 2) 0 0) (hY : eY E = lay1) {Q : Hp → Prop} (eq : EQ E 0 0 (fun r h2 => r = [] ∧ Q h2)) {K64 : Int32 → Int32 → Hp → Prop} (hK64 : ∀ (a1 : Int32) (a2 : Int32) (h : Hp) (c n : Nat), c + 0 ≤ 0 → n + 0 ≤ 0 → K64 a1 a2 h → SW E 64 ([some (vP (some (12, 0))), some (vI (a1)), some (vI (a2))], [], h, c, n)) {a1 : Int32} {a2 : Int32} {s1 : Int32} {s2 : Int32} {h : Hp} {c n : Nat} (hc : c + 0 ≤ 0) (hn : n + 0 ≤ 0) (w : w_X12_sailsOff_97 K64 Q a1 a2 s1 s2 h) : SW E 97 ([some (vP (some (12, 0))), some (vI (a1)), some (vI (a2))], [vI (s2), vI (s1), vP (some (133, 0))], h, c, n) := by
  obtain ⟨G1, w⟩ := w
  refine k_X12_sailsOff_97 cx hY G1 ?_
  exact hK64 _ _ _ _ _ (by omega) (by omega) w
theorem s_X12_sailsOff_91 {E : EnvT} {d : Nat} (cx : CX E "ShoreDayModel" cX12_sailsOff 3 none "sailsOff" (d + 2) 0 0) (hY : eY E = lay1) {Q : Hp → Prop} (eq : EQ E 0 0 (fun r h2 => r = [] ∧ Q h2)) {K64 : Int32 → Int32 → Hp → Prop} (hK64 : ∀ (a1 : Int32) (a2 : Int32) (h : Hp) (c n : Nat), c + 0 ≤ 0 → n + 0 ≤ 0 → K64 a1 a2 h → SW E 64 ([some (vP (some (12, 0))), some (vI (a1)), some (vI (a2))], [], h, c, n)) {a1 : Int32} {a2 : Int32} {s1 : Int32} {h : Hp} {c n : Nat} (hc : c + 0 ≤ 0) (hn : n + 0 ≤ 0) (w : w_X12_sailsOff_91 K64 Q a1 a2 s1 h) : SW E 91 ([some (vP (some (12, 0))), some (vI (a1)), some (vI (a2))], [vI (s1), vP (some (133, 0))], h, c, n) := by
  obtain ⟨G1, w⟩ := w
  refine k_X12_sailsOff_91 cx hY G1 ?_
  exact s_X12_sailsOff_97 cx hY eq hK64 (by omega) (by omega) w
theorem s_X12_sailsOff_87 {E : EnvT} {d : Nat} (cx : CX E "ShoreDayModel" cX12_sailsOff 3 none "sailsOff" (d + 2) 0 0) (hY : eY E = lay1) {Q : Hp → Prop} (eq : EQ E 0 0 (fun r h2 => r = [] ∧ Q h2)) {K64 : Int32 → Int32 → Hp → Prop} (hK64 : ∀ (a1 : Int32) (a2 : Int32) (h : Hp) (c n : Nat), c + 0 ≤ 0 → n + 0 ≤ 0 → K64 a1 a2 h → SW E 64 ([some (vP (some (12, 0))), some (vI (a1)), some (vI (a2))], [], h, c, n)) {a1 : Int32} {a2 : Int32} {s1 : Int32} {h : Hp} {c n : Nat} (hc : c + 0 ≤ 0) (hn : n + 0 ≤ 0) (w : w_X12_sailsOff_87 K64 Q a1 a2 s1 h) : SW E 87 ([some (vP (some (12, 0))), some (vI (a1)), some (vI (a2))], [vI (s1), vP (some (133, 0))], h, c, n) := by
  refine k_X12_sailsOff_87 cx hY ?_
  exact s_X12_sailsOff_97 cx hY eq hK64 (by omega) (by omega) w
theorem s_X12_sailsOff_72 {E : EnvT} {d : Nat} (cx : CX E "ShoreDayModel" cX12_sailsOff 3 none "sailsOff" (d + 2) 0 0) (hY : eY E = lay1) {Q : Hp → Prop} (eq : EQ E 0 0 (fun r h2 => r = [] ∧ Q h2)) {K64 : Int32 → Int32 → Hp → Prop} (hK64 : ∀ (a1 : Int32) (a2 : Int32) (h : Hp) (c n : Nat), c + 0 ≤ 0 → n + 0 ≤ 0 → K64 a1 a2 h → SW E 64 ([some (vP (some (12, 0))), some (vI (a1)), some (vI (a2))], [], h, c, n)) {a1 : Int32} {a2 : Int32} {h : Hp} {c n : Nat} (hc : c + 0 ≤ 0) (hn : n + 0 ≤ 0) (w : w_X12_sailsOff_72 K64 Q a1 a2 h) : SW E 72 ([some (vP (some (12, 0))), some (vI (a1)), some (vI (a2))], [], h, c, n) := by
  obtain ⟨G1, w⟩ := w
  refine k_X12_sailsOff_72 cx hY G1 (fun q => ?_) (fun q => ?_)
  · have w := w.1 q
    exact s_X12_sailsOff_91 cx hY eq hK64 (by omega) (by omega) w
  · have w := w.2 q
    exact s_X12_sailsOff_87 cx hY eq hK64 (by omega) (by omega) w
theorem s_X12_sailsOff_64 {E : EnvT} {d : Nat} (cx : CX E "ShoreDayModel" cX12_sailsOff 3 none "sailsOff" (d + 2) 0 0) (hY : eY E = lay1) {Q : Hp → Prop} (eq : EQ E 0 0 (fun r h2 => r = [] ∧ Q h2)) : ∀ (N : Nat) (a1 : Int32) (a2 : Int32) (h : Hp) (c n : Nat), c + 0 ≤ 0 → n + 0 ≤ 0 → w_X12_sailsOff_64  Q N a1 a2 h → SW E 64 ([some (vP (some (12, 0))), some (vI (a1)), some (vI (a2))], [], h, c, n) := by
  intro N
  induction N with
  | zero =>
    intro _ _ h c n _ _ w
    exact w.elim
  | succ N ih =>
    intro a1 a2 h c n hc hn w
    refine k_X12_sailsOff_64 cx hY (fun q => ?_) (fun q => ?_)
    · have w := w.1 q
      exact s_X12_sailsOff_104 cx hY eq  (by omega) (by omega) w
    · have w := w.2 q
      exact s_X12_sailsOff_72 cx hY eq ih (by omega) (by omega) w
theorem s_X12_sailsOff_62 {E : EnvT} {d : Nat} (cx : CX E "ShoreDayModel" cX12_sailsOff 3 none "sailsOff" (d + 2) 0 0) (hY : eY E = lay1) {Q : Hp → Prop} (eq : EQ E 0 0 (fun r h2 => r = [] ∧ Q h2)) {a1 : Int32} {a2 : Int32} {h : Hp} {c n : Nat} (hc : c + 0 ≤ 0) (hn : n + 0 ≤ 0) (w : w_X12_sailsOff_62  Q a1 a2 h) : SW E 62 ([some (vP (some (12, 0))), some (vI (a1)), some (vI (a2))], [], h, c, n) := by
  refine k_X12_sailsOff_62 cx hY ?_
  obtain ⟨N1, w⟩ := w
  exact s_X12_sailsOff_64 cx hY eq  _ _ _ _ _ _ (by omega) (by omega) w
theorem s_X12_sailsOff_56 {E : EnvT} {d : Nat} (cx : CX E "ShoreDayModel" cX12_sailsOff 3 none "sailsOff" (d + 2) 0 0) (hY : eY E = lay1) {Q : Hp → Prop} (eq : EQ E 0 0 (fun r h2 => r = [] ∧ Q h2)) {K2 : Int32 → Int32 → Hp → Prop} (hK2 : ∀ (a1 : Int32) (a2 : Int32) (h : Hp) (c n : Nat), c + 0 ≤ 0 → n + 0 ≤ 0 → K2 a1 a2 h → SW E 2 ([some (vP (some (12, 0))), some (vI (a1)), some (vI (a2))], [], h, c, n)) {a1 : Int32} {a2 : Int32} {h : Hp} {c n : Nat} (hc : c + 0 ≤ 0) (hn : n + 0 ≤ 0) (w : w_X12_sailsOff_56 K2 Q a1 a2 h) : SW E 56 ([some (vP (some (12, 0))), some (vI (a1)), some (vI (a2))], [], h, c, n) := by
  refine k_X12_sailsOff_56 cx hY ?_
  exact hK2 _ _ _ _ _ (by omega) (by omega) w
theorem s_X12_sailsOff_34 {E : EnvT} {d : Nat} (cx : CX E "ShoreDayModel" cX12_sailsOff 3 none "sailsOff" (d + 2) 0 0) (hY : eY E = lay1) {Q : Hp → Prop} (eq : EQ E 0 0 (fun r h2 => r = [] ∧ Q h2)) {K2 : Int32 → Int32 → Hp → Prop} (hK2 : ∀ (a1 : Int32) (a2 : Int32) (h : Hp) (c n : Nat), c + 0 ≤ 0 → n + 0 ≤ 0 → K2 a1 a2 h → SW E 2 ([some (vP (some (12, 0))), some (vI (a1)), some (vI (a2))], [], h, c, n)) {a1 : Int32} {a2 : Int32} {h : Hp} {c n : Nat} (hc : c + 0 ≤ 0) (hn : n + 0 ≤ 0) (w : w_X12_sailsOff_34 K2 Q a1 a2 h) : SW E 34 ([some (vP (some (12, 0))), some (vI (a1)), some (vI (a2))], [], h, c, n) := by
  obtain ⟨G1, G2, G3, w⟩ := w
  refine k_X12_sailsOff_34 cx hY G1 G2 G3 ?_
  exact s_X12_sailsOff_56 cx hY eq hK2 (by omega) (by omega) w
theorem s_X12_sailsOff_31 {E : EnvT} {d : Nat} (cx : CX E "ShoreDayModel" cX12_sailsOff 3 none "sailsOff" (d + 2) 0 0) (hY : eY E = lay1) {Q : Hp → Prop} (eq : EQ E 0 0 (fun r h2 => r = [] ∧ Q h2)) {K2 : Int32 → Int32 → Hp → Prop} (hK2 : ∀ (a1 : Int32) (a2 : Int32) (h : Hp) (c n : Nat), c + 0 ≤ 0 → n + 0 ≤ 0 → K2 a1 a2 h → SW E 2 ([some (vP (some (12, 0))), some (vI (a1)), some (vI (a2))], [], h, c, n)) {a1 : Int32} {a2 : Int32} {s0 : Int32} {h : Hp} {c n : Nat} (hc : c + 0 ≤ 0) (hn : n + 0 ≤ 0) (w : w_X12_sailsOff_31 K2 Q a1 a2 s0 h) : SW E 31 ([some (vP (some (12, 0))), some (vI (a1)), some (vI (a2))], [vI (s0)], h, c, n) := by
  refine k_X12_sailsOff_31 cx hY (fun q => ?_) (fun q => ?_)
  · have w := w.1 q
    exact s_X12_sailsOff_56 cx hY eq hK2 (by omega) (by omega) w
  · have w := w.2 q
    exact s_X12_sailsOff_34 cx hY eq hK2 (by omega) (by omega) w
theorem s_X12_sailsOff_20 {E : EnvT} {d : Nat} (cx : CX E "ShoreDayModel" cX12_sailsOff 3 none "sailsOff" (d + 2) 0 0) (hY : eY E = lay1) {Q : Hp → Prop} (eq : EQ E 0 0 (fun r h2 => r = [] ∧ Q h2)) {K2 : Int32 → Int32 → Hp → Prop} (hK2 : ∀ (a1 : Int32) (a2 : Int32) (h : Hp) (c n : Nat), c + 0 ≤ 0 → n + 0 ≤ 0 → K2 a1 a2 h → SW E 2 ([some (vP (some (12, 0))), some (vI (a1)), some (vI (a2))], [], h, c, n)) {a1 : Int32} {a2 : Int32} {h : Hp} {c n : Nat} (hc : c + 0 ≤ 0) (hn : n + 0 ≤ 0) (w : w_X12_sailsOff_20 K2 Q a1 a2 h) : SW E 20 ([some (vP (some (12, 0))), some (vI (a1)), some (vI (a2))], [], h, c, n) := by
  obtain ⟨G1, w⟩ := w
  refine k_X12_sailsOff_20 cx hY G1 (ctY hY (vc_X12_within (d := d + 0) w)) (by omega) (by omega) (by omega) (fun r h2 hp => ?_)
  obtain ⟨r2, rfl, w⟩ := hp
  exact s_X12_sailsOff_31 cx hY eq hK2 (by omega) (by omega) w
theorem s_X12_sailsOff_10 {E : EnvT} {d : Nat} (cx : CX E "ShoreDayModel" cX12_sailsOff 3 none "sailsOff" (d + 2) 0 0) (hY : eY E = lay1) {Q : Hp → Prop} (eq : EQ E 0 0 (fun r h2 => r = [] ∧ Q h2)) {K2 : Int32 → Int32 → Hp → Prop} (hK2 : ∀ (a1 : Int32) (a2 : Int32) (h : Hp) (c n : Nat), c + 0 ≤ 0 → n + 0 ≤ 0 → K2 a1 a2 h → SW E 2 ([some (vP (some (12, 0))), some (vI (a1)), some (vI (a2))], [], h, c, n)) {a1 : Int32} {a2 : Int32} {h : Hp} {c n : Nat} (hc : c + 0 ≤ 0) (hn : n + 0 ≤ 0) (w : w_X12_sailsOff_10 K2 Q a1 a2 h) : SW E 10 ([some (vP (some (12, 0))), some (vI (a1)), some (vI (a2))], [], h, c, n) := by
  obtain ⟨G1, w⟩ := w
  refine k_X12_sailsOff_10 cx hY G1 (fun q => ?_) (fun q => ?_)
  · have w := w.1 q
    exact s_X12_sailsOff_56 cx hY eq hK2 (by omega) (by omega) w
  · have w := w.2 q
    exact s_X12_sailsOff_20 cx hY eq hK2 (by omega) (by omega) w
theorem s_X12_sailsOff_2 {E : EnvT} {d : Nat} (cx : CX E "ShoreDayModel" cX12_sailsOff 3 none "sailsOff" (d + 2) 0 0) (hY : eY E = lay1) {Q : Hp → Prop} (eq : EQ E 0 0 (fun r h2 => r = [] ∧ Q h2)) : ∀ (N : Nat) (a1 : Int32) (a2 : Int32) (h : Hp) (c n : Nat), c + 0 ≤ 0 → n + 0 ≤ 0 → w_X12_sailsOff_2  Q N a1 a2 h → SW E 2 ([some (vP (some (12, 0))), some (vI (a1)), some (vI (a2))], [], h, c, n) := by
  intro N
  induction N with
  | zero =>
    intro _ _ h c n _ _ w
    exact w.elim
  | succ N ih =>
    intro a1 a2 h c n hc hn w
    refine k_X12_sailsOff_2 cx hY (fun q => ?_) (fun q => ?_)
    · have w := w.1 q
      exact s_X12_sailsOff_62 cx hY eq  (by omega) (by omega) w
    · have w := w.2 q
      exact s_X12_sailsOff_10 cx hY eq ih (by omega) (by omega) w
theorem s_X12_sailsOff_0 {E : EnvT} {d : Nat} (cx : CX E "ShoreDayModel" cX12_sailsOff 3 none "sailsOff" (d + 2) 0 0) (hY : eY E = lay1) {Q : Hp → Prop} (eq : EQ E 0 0 (fun r h2 => r = [] ∧ Q h2)) {a1 : Int32} {x2 : Option AVal} {h : Hp} {c n : Nat} (hc : c + 0 ≤ 0) (hn : n + 0 ≤ 0) (w : w_X12_sailsOff_0  Q a1 h) : SW E 0 ([some (vP (some (12, 0))), some (vI (a1)), x2], [], h, c, n) := by
  refine k_X12_sailsOff_0 cx hY ?_
  obtain ⟨N1, w⟩ := w
  exact s_X12_sailsOff_2 cx hY eq  _ _ _ _ _ _ (by omega) (by omega) w
def wp_X12_sailsOff (a1 : Int32) (h : Hp) (Q : Hp → Prop) : Prop := w_X12_sailsOff_0 Q a1 h
theorem vc_X12_sailsOff {l : Launch} {d : Nat} {a1 : Int32} {h : Hp} {Q : Hp → Prop} (w : wp_X12_sailsOff a1 h Q) : Ct l lay1 yX12_sailsOff cX12_sailsOff 3 none (d + 2) 0 0 [vP (some (12, 0)), vI a1] h (fun r h2 => r = [] ∧ Q h2) := by
  exact Ct.of (by decide) (Nat.le_of_ble_eq_true rfl) fun E cx eq hl hY => s_X12_sailsOff_0 cx hY eq (Nat.le_refl _) (Nat.le_refl _) w
def w_X12_guestsIn_51 (Q : Int32 → Hp → Prop) (a1 : Int32) (a2 : Int32) (a3 : Int32) (h : Hp) : Prop := Q (a2) (h)
def w_X12_guestsIn_43 (K4 : Int32 → Int32 → Int32 → Hp → Prop) (Q : Int32 → Hp → Prop) (a1 : Int32) (a2 : Int32) (a3 : Int32) (s0 : Int32) (s1 : Int32) (h : Hp) : Prop := K4 (a1) ((s0) + (s1)) (a3 + 1) (h)
def w_X12_guestsIn_42 (K4 : Int32 → Int32 → Int32 → Hp → Prop) (Q : Int32 → Hp → Prop) (a1 : Int32) (a2 : Int32) (a3 : Int32) (s0 : Int32) (h : Hp) : Prop := w_X12_guestsIn_43 K4 Q (a1) (a2) (a3) (s0) ((0 : Int32)) (h)
def w_X12_guestsIn_33 (K4 : Int32 → Int32 → Int32 → Hp → Prop) (Q : Int32 → Hp → Prop) (a1 : Int32) (a2 : Int32) (a3 : Int32) (s0 : Int32) (h : Hp) : Prop := vp_in (a3) 60 ∧ (w_X12_guestsIn_43 K4 Q (a1) (a2) (a3) (s0) (gI (h) 143 (0) (tN (a3))) (h))
def w_X12_guestsIn_23 (K4 : Int32 → Int32 → Int32 → Hp → Prop) (Q : Int32 → Hp → Prop) (a1 : Int32) (a2 : Int32) (a3 : Int32) (s0 : Int32) (h : Hp) : Prop := vp_in (a3) 60 ∧ ((¬ (gI (h) 149 (0) (tN (a3))) = (a1) → w_X12_guestsIn_42 K4 Q (a1) (a2) (a3) (s0) (h)) ∧ ((gI (h) 149 (0) (tN (a3))) = (a1) → w_X12_guestsIn_33 K4 Q (a1) (a2) (a3) (s0) (h)))
def w_X12_guestsIn_12 (K4 : Int32 → Int32 → Int32 → Hp → Prop) (Q : Int32 → Hp → Prop) (a1 : Int32) (a2 : Int32) (a3 : Int32) (h : Hp) : Prop := vp_in (a3) 60 ∧ ((¬ (gI (h) 148 (0) (tN (a3))) = ((1 : Int32)) → w_X12_guestsIn_42 K4 Q (a1) (a2) (a3) (a2) (h)) ∧ ((gI (h) 148 (0) (tN (a3))) = ((1 : Int32)) → w_X12_guestsIn_23 K4 Q (a1) (a2) (a3) (a2) (h)))
def w_X12_guestsIn_4 (Q : Int32 → Hp → Prop) : Nat → Int32 → Int32 → Int32 → Hp → Prop
  | 0 => fun _ _ _ _ => False
  | N + 1 => fun a1 a2 a3 h => ((gI (h) 12 (0) (41)) ≤ (a3) → w_X12_guestsIn_51  Q (a1) (a2) (a3) (h)) ∧ (¬ (gI (h) 12 (0) (41)) ≤ (a3) → w_X12_guestsIn_12 (w_X12_guestsIn_4  Q N) Q (a1) (a2) (a3) (h))
def w_X12_guestsIn_0 (Q : Int32 → Hp → Prop) (a1 : Int32) (h : Hp) : Prop := ∃ N, w_X12_guestsIn_4  Q N (a1) ((0 : Int32)) ((0 : Int32)) (h)
theorem s_X12_guestsIn_51 {E : EnvT} {d : Nat} (cx : CX E "ShoreDayModel" cX12_guestsIn 4 (some .int) "guestsIn" (d + 1) 0 0) (hY : eY E = lay1) {Q : Int32 → Hp → Prop} (eq : EQ E 0 0 (fun r h2 => ∃ x, r = [vI x] ∧ Q x h2)) {a1 : Int32} {a2 : Int32} {a3 : Int32} {h : Hp} {c n : Nat} (hc : c + 0 ≤ 0) (hn : n + 0 ≤ 0) (w : w_X12_guestsIn_51  Q a1 a2 a3 h) : SW E 51 ([some (vP (some (12, 0))), some (vI (a1)), some (vI (a2)), some (vI (a3))], [], h, c, n) := by
  exact k_X12_guestsIn_51 cx hY eq (by omega) (by omega) ⟨_, rfl, w⟩
theorem s_X12_guestsIn_43 {E : EnvT} {d : Nat} (cx : CX E "ShoreDayModel" cX12_guestsIn 4 (some .int) "guestsIn" (d + 1) 0 0) (hY : eY E = lay1) {Q : Int32 → Hp → Prop} (eq : EQ E 0 0 (fun r h2 => ∃ x, r = [vI x] ∧ Q x h2)) {K4 : Int32 → Int32 → Int32 → Hp → Prop} (hK4 : ∀ (a1 : Int32) (a2 : Int32) (a3 : Int32) (h : Hp) (c n : Nat), c + 0 ≤ 0 → n + 0 ≤ 0 → K4 a1 a2 a3 h → SW E 4 ([some (vP (some (12, 0))), some (vI (a1)), some (vI (a2)), some (vI (a3))], [], h, c, n)) {a1 : Int32} {a2 : Int32} {a3 : Int32} {s0 : Int32} {s1 : Int32} {h : Hp} {c n : Nat} (hc : c + 0 ≤ 0) (hn : n + 0 ≤ 0) (w : w_X12_guestsIn_43 K4 Q a1 a2 a3 s0 s1 h) : SW E 43 ([some (vP (some (12, 0))), some (vI (a1)), some (vI (a2)), some (vI (a3))], [vI (s1), vI (s0)], h, c, n) := by
  refine k_X12_guestsIn_43 cx hY ?_
  exact hK4 _ _ _ _ _ _ (by omega) (by omega) w
theorem s_X12_guestsIn_42 {E : EnvT} {d : Nat} (cx : CX E "ShoreDayModel" cX12_guestsIn 4 (some .int) "guestsIn" (d + 1) 0 0) (hY : eY E = lay1) {Q : Int32 → Hp → Prop} (eq : EQ E 0 0 (fun r h2 => ∃ x, r = [vI x] ∧ Q x h2)) {K4 : Int32 → Int32 → Int32 → Hp → Prop} (hK4 : ∀ (a1 : Int32) (a2 : Int32) (a3 : Int32) (h : Hp) (c n : Nat), c + 0 ≤ 0 → n + 0 ≤ 0 → K4 a1 a2 a3 h → SW E 4 ([some (vP (some (12, 0))), some (vI (a1)), some (vI (a2)), some (vI (a3))], [], h, c, n)) {a1 : Int32} {a2 : Int32} {a3 : Int32} {s0 : Int32} {h : Hp} {c n : Nat} (hc : c + 0 ≤ 0) (hn : n + 0 ≤ 0) (w : w_X12_guestsIn_42 K4 Q a1 a2 a3 s0 h) : SW E 42 ([some (vP (some (12, 0))), some (vI (a1)), some (vI (a2)), some (vI (a3))], [vI (s0)], h, c, n) := by
  refine k_X12_guestsIn_42 cx hY ?_
  exact s_X12_guestsIn_43 cx hY eq hK4 (by omega) (by omega) w
theorem s_X12_guestsIn_33 {E : EnvT} {d : Nat} (cx : CX E "ShoreDayModel" cX12_guestsIn 4 (some .int) "guestsIn" (d + 1) 0 0) (hY : eY E = lay1) {Q : Int32 → Hp → Prop} (eq : EQ E 0 0 (fun r h2 => ∃ x, r = [vI x] ∧ Q x h2)) {K4 : Int32 → Int32 → Int32 → Hp → Prop} (hK4 : ∀ (a1 : Int32) (a2 : Int32) (a3 : Int32) (h : Hp) (c n : Nat), c + 0 ≤ 0 → n + 0 ≤ 0 → K4 a1 a2 a3 h → SW E 4 ([some (vP (some (12, 0))), some (vI (a1)), some (vI (a2)), some (vI (a3))], [], h, c, n)) {a1 : Int32} {a2 : Int32} {a3 : Int32} {s0 : Int32} {h : Hp} {c n : Nat} (hc : c + 0 ≤ 0) (hn : n + 0 ≤ 0) (w : w_X12_guestsIn_33 K4 Q a1 a2 a3 s0 h) : SW E 33 ([some (vP (some (12, 0))), some (vI (a1)), some (vI (a2)), some (vI (a3))], [vI (s0)], h, c, n) := by
  obtain ⟨G1, w⟩ := w
  refine k_X12_guestsIn_33 cx hY G1 ?_
  exact s_X12_guestsIn_43 cx hY eq hK4 (by omega) (by omega) w
theorem s_X12_guestsIn_23 {E : EnvT} {d : Nat} (cx : CX E "ShoreDayModel" cX12_guestsIn 4 (some .int) "guestsIn" (d + 1) 0 0) (hY : eY E = lay1) {Q : Int32 → Hp → Prop} (eq : EQ E 0 0 (fun r h2 => ∃ x, r = [vI x] ∧ Q x h2)) {K4 : Int32 → Int32 → Int32 → Hp → Prop} (hK4 : ∀ (a1 : Int32) (a2 : Int32) (a3 : Int32) (h : Hp) (c n : Nat), c + 0 ≤ 0 → n + 0 ≤ 0 → K4 a1 a2 a3 h → SW E 4 ([some (vP (some (12, 0))), some (vI (a1)), some (vI (a2)), some (vI (a3))], [], h, c, n)) {a1 : Int32} {a2 : Int32} {a3 : Int32} {s0 : Int32} {h : Hp} {c n : Nat} (hc : c + 0 ≤ 0) (hn : n + 0 ≤ 0) (w : w_X12_guestsIn_23 K4 Q a1 a2 a3 s0 h) : SW E 23 ([some (vP (some (12, 0))), some (vI (a1)), some (vI (a2)), some (vI (a3))], [vI (s0)], h, c, n) := by
  obtain ⟨G1, w⟩ := w
  refine k_X12_guestsIn_23 cx hY G1 (fun q => ?_) (fun q => ?_)
  · have w := w.1 q
    exact s_X12_guestsIn_42 cx hY eq hK4 (by omega) (by omega) w
  · have w := w.2 q
    exact s_X12_guestsIn_33 cx hY eq hK4 (by omega) (by omega) w
theorem s_X12_guestsIn_12 {E : EnvT} {d : Nat} (cx : CX E "ShoreDayModel" cX12_guestsIn 4 (some .int) "guestsIn" (d + 1) 0 0) (hY : eY E = lay1) {Q : Int32 → Hp → Prop} (eq : EQ E 0 0 (fun r h2 => ∃ x, r = [vI x] ∧ Q x h2)) {K4 : Int32 → Int32 → Int32 → Hp → Prop} (hK4 : ∀ (a1 : Int32) (a2 : Int32) (a3 : Int32) (h : Hp) (c n : Nat), c + 0 ≤ 0 → n + 0 ≤ 0 → K4 a1 a2 a3 h → SW E 4 ([some (vP (some (12, 0))), some (vI (a1)), some (vI (a2)), some (vI (a3))], [], h, c, n)) {a1 : Int32} {a2 : Int32} {a3 : Int32} {h : Hp} {c n : Nat} (hc : c + 0 ≤ 0) (hn : n + 0 ≤ 0) (w : w_X12_guestsIn_12 K4 Q a1 a2 a3 h) : SW E 12 ([some (vP (some (12, 0))), some (vI (a1)), some (vI (a2)), some (vI (a3))], [], h, c, n) := by
  obtain ⟨G1, w⟩ := w
  refine k_X12_guestsIn_12 cx hY G1 (fun q => ?_) (fun q => ?_)
  · have w := w.1 q
    exact s_X12_guestsIn_42 cx hY eq hK4 (by omega) (by omega) w
  · have w := w.2 q
    exact s_X12_guestsIn_23 cx hY eq hK4 (by omega) (by omega) w
theorem s_X12_guestsIn_4 {E : EnvT} {d : Nat} (cx : CX E "ShoreDayModel" cX12_guestsIn 4 (some .int) "guestsIn" (d + 1) 0 0) (hY : eY E = lay1) {Q : Int32 → Hp → Prop} (eq : EQ E 0 0 (fun r h2 => ∃ x, r = [vI x] ∧ Q x h2)) : ∀ (N : Nat) (a1 : Int32) (a2 : Int32) (a3 : Int32) (h : Hp) (c n : Nat), c + 0 ≤ 0 → n + 0 ≤ 0 → w_X12_guestsIn_4  Q N a1 a2 a3 h → SW E 4 ([some (vP (some (12, 0))), some (vI (a1)), some (vI (a2)), some (vI (a3))], [], h, c, n) := by
  intro N
  induction N with
  | zero =>
    intro _ _ _ h c n _ _ w
    exact w.elim
  | succ N ih =>
    intro a1 a2 a3 h c n hc hn w
    refine k_X12_guestsIn_4 cx hY (fun q => ?_) (fun q => ?_)
    · have w := w.1 q
      exact s_X12_guestsIn_51 cx hY eq  (by omega) (by omega) w
    · have w := w.2 q
      exact s_X12_guestsIn_12 cx hY eq ih (by omega) (by omega) w
theorem s_X12_guestsIn_0 {E : EnvT} {d : Nat} (cx : CX E "ShoreDayModel" cX12_guestsIn 4 (some .int) "guestsIn" (d + 1) 0 0) (hY : eY E = lay1) {Q : Int32 → Hp → Prop} (eq : EQ E 0 0 (fun r h2 => ∃ x, r = [vI x] ∧ Q x h2)) {a1 : Int32} {x2 : Option AVal} {x3 : Option AVal} {h : Hp} {c n : Nat} (hc : c + 0 ≤ 0) (hn : n + 0 ≤ 0) (w : w_X12_guestsIn_0  Q a1 h) : SW E 0 ([some (vP (some (12, 0))), some (vI (a1)), x2, x3], [], h, c, n) := by
  refine k_X12_guestsIn_0 cx hY ?_
  obtain ⟨N1, w⟩ := w
  exact s_X12_guestsIn_4 cx hY eq  _ _ _ _ _ _ _ (by omega) (by omega) w
def wp_X12_guestsIn (a1 : Int32) (h : Hp) (Q : Int32 → Hp → Prop) : Prop := w_X12_guestsIn_0 Q a1 h
theorem vc_X12_guestsIn {l : Launch} {d : Nat} {a1 : Int32} {h : Hp} {Q : Int32 → Hp → Prop} (w : wp_X12_guestsIn a1 h Q) : Ct l lay1 yX12_guestsIn cX12_guestsIn 4 (some .int) (d + 1) 0 0 [vP (some (12, 0)), vI a1] h (fun r h2 => ∃ x, r = [vI x] ∧ Q x h2) := by
  exact Ct.of (by decide) (Nat.le_of_ble_eq_true rfl) fun E cx eq hl hY => s_X12_guestsIn_0 cx hY eq (Nat.le_refl _) (Nat.le_refl _) w
def w_X12_coming_50 (Q : Int32 → Hp → Prop) (a1 : Int32) (a2 : Int32) (a3 : Int32) (h : Hp) : Prop := Q (a2) (h)
def w_X12_coming_42 (K9 : Int32 → Int32 → Int32 → Hp → Prop) (Q : Int32 → Hp → Prop) (a1 : Int32) (a2 : Int32) (a3 : Int32) (s0 : Int32) (s1 : Int32) (h : Hp) : Prop := K9 (a1) ((s0) + (s1)) (a3 + 1) (h)
def w_X12_coming_38 (K9 : Int32 → Int32 → Int32 → Hp → Prop) (Q : Int32 → Hp → Prop) (a1 : Int32) (a2 : Int32) (a3 : Int32) (s0 : Int32) (s1 : Int32) (h : Hp) : Prop := w_X12_coming_42 K9 Q (a1) (a2) (a3) (s0) (s1) (h)
def w_X12_coming_33 (K9 : Int32 → Int32 → Int32 → Hp → Prop) (Q : Int32 → Hp → Prop) (a1 : Int32) (a2 : Int32) (a3 : Int32) (s0 : Int32) (h : Hp) : Prop := wp_X12_guestsIn (a3) (h) (fun r2 h2 => w_X12_coming_38 K9 Q (a1) (a2) (a3) (s0) (r2) (h2))
def w_X12_coming_41 (K9 : Int32 → Int32 → Int32 → Hp → Prop) (Q : Int32 → Hp → Prop) (a1 : Int32) (a2 : Int32) (a3 : Int32) (s0 : Int32) (h : Hp) : Prop := w_X12_coming_42 K9 Q (a1) (a2) (a3) (s0) ((0 : Int32)) (h)
def w_X12_coming_28 (K9 : Int32 → Int32 → Int32 → Hp → Prop) (Q : Int32 → Hp → Prop) (a1 : Int32) (a2 : Int32) (a3 : Int32) (s0 : Int32) (h : Hp) : Prop := (¬ (a3) = (a1) → w_X12_coming_41 K9 Q (a1) (a2) (a3) (s0) (h)) ∧ ((a3) = (a1) → w_X12_coming_33 K9 Q (a1) (a2) (a3) (s0) (h))
def w_X12_coming_17 (K9 : Int32 → Int32 → Int32 → Hp → Prop) (Q : Int32 → Hp → Prop) (a1 : Int32) (a2 : Int32) (a3 : Int32) (h : Hp) : Prop := vp_in (a3) 6 ∧ (((gI (h) 133 (0) (tN (a3))) = ((1 : Int32)) → w_X12_coming_33 K9 Q (a1) (a2) (a3) (a2) (h)) ∧ (¬ (gI (h) 133 (0) (tN (a3))) = ((1 : Int32)) → w_X12_coming_28 K9 Q (a1) (a2) (a3) (a2) (h)))
def w_X12_coming_9 (Q : Int32 → Hp → Prop) : Nat → Int32 → Int32 → Int32 → Hp → Prop
  | 0 => fun _ _ _ _ => False
  | N + 1 => fun a1 a2 a3 h => ((gI (h) 12 (0) (30)) ≤ (a3) → w_X12_coming_50  Q (a1) (a2) (a3) (h)) ∧ (¬ (gI (h) 12 (0) (30)) ≤ (a3) → w_X12_coming_17 (w_X12_coming_9  Q N) Q (a1) (a2) (a3) (h))
def w_X12_coming_6 (Q : Int32 → Hp → Prop) (a1 : Int32) (s0 : Int32) (h : Hp) : Prop := ∃ N, w_X12_coming_9  Q N (a1) (s0) ((0 : Int32)) (h)
def w_X12_coming_0 (Q : Int32 → Hp → Prop) (a1 : Int32) (h : Hp) : Prop := wp_X12_guestsThat ((2 : Int32)) ((4 : Int32)) (h) (fun r2 h2 => w_X12_coming_6  Q (a1) (r2) (h2))
theorem s_X12_coming_50 {E : EnvT} {d : Nat} (cx : CX E "ShoreDayModel" cX12_coming 4 (some .int) "coming" (d + 3) 0 0) (hY : eY E = lay1) {Q : Int32 → Hp → Prop} (eq : EQ E 0 0 (fun r h2 => ∃ x, r = [vI x] ∧ Q x h2)) {a1 : Int32} {a2 : Int32} {a3 : Int32} {h : Hp} {c n : Nat} (hc : c + 0 ≤ 0) (hn : n + 0 ≤ 0) (w : w_X12_coming_50  Q a1 a2 a3 h) : SW E 50 ([some (vP (some (12, 0))), some (vI (a1)), some (vI (a2)), some (vI (a3))], [], h, c, n) := by
  exact k_X12_coming_50 cx hY eq (by omega) (by omega) ⟨_, rfl, w⟩
theorem s_X12_coming_42 {E : EnvT} {d : Nat} (cx : CX E "ShoreDayModel" cX12_coming 4 (some .int) "coming" (d + 3) 0 0) (hY : eY E = lay1) {Q : Int32 → Hp → Prop} (eq : EQ E 0 0 (fun r h2 => ∃ x, r = [vI x] ∧ Q x h2)) {K9 : Int32 → Int32 → Int32 → Hp → Prop} (hK9 : ∀ (a1 : Int32) (a2 : Int32) (a3 : Int32) (h : Hp) (c n : Nat), c + 0 ≤ 0 → n + 0 ≤ 0 → K9 a1 a2 a3 h → SW E 9 ([some (vP (some (12, 0))), some (vI (a1)), some (vI (a2)), some (vI (a3))], [], h, c, n)) {a1 : Int32} {a2 : Int32} {a3 : Int32} {s0 : Int32} {s1 : Int32} {h : Hp} {c n : Nat} (hc : c + 0 ≤ 0) (hn : n + 0 ≤ 0) (w : w_X12_coming_42 K9 Q a1 a2 a3 s0 s1 h) : SW E 42 ([some (vP (some (12, 0))), some (vI (a1)), some (vI (a2)), some (vI (a3))], [vI (s1), vI (s0)], h, c, n) := by
  refine k_X12_coming_42 cx hY ?_
  exact hK9 _ _ _ _ _ _ (by omega) (by omega) w
theorem s_X12_coming_38 {E : EnvT} {d : Nat} (cx : CX E "ShoreDayModel" cX12_coming 4 (some .int) "coming" (d + 3) 0 0) (hY : eY E = lay1) {Q : Int32 → Hp → Prop} (eq : EQ E 0 0 (fun r h2 => ∃ x, r = [vI x] ∧ Q x h2)) {K9 : Int32 → Int32 → Int32 → Hp → Prop} (hK9 : ∀ (a1 : Int32) (a2 : Int32) (a3 : Int32) (h : Hp) (c n : Nat), c + 0 ≤ 0 → n + 0 ≤ 0 → K9 a1 a2 a3 h → SW E 9 ([some (vP (some (12, 0))), some (vI (a1)), some (vI (a2)), some (vI (a3))], [], h, c, n)) {a1 : Int32} {a2 : Int32} {a3 : Int32} {s0 : Int32} {s1 : Int32} {h : Hp} {c n : Nat} (hc : c + 0 ≤ 0) (hn : n + 0 ≤ 0) (w : w_X12_coming_38 K9 Q a1 a2 a3 s0 s1 h) : SW E 38 ([some (vP (some (12, 0))), some (vI (a1)), some (vI (a2)), some (vI (a3))], [vI (s1), vI (s0)], h, c, n) := by
  refine k_X12_coming_38 cx hY ?_
  exact s_X12_coming_42 cx hY eq hK9 (by omega) (by omega) w
theorem s_X12_coming_33 {E : EnvT} {d : Nat} (cx : CX E "ShoreDayModel" cX12_coming 4 (some .int) "coming" (d + 3) 0 0) (hY : eY E = lay1) {Q : Int32 → Hp → Prop} (eq : EQ E 0 0 (fun r h2 => ∃ x, r = [vI x] ∧ Q x h2)) {K9 : Int32 → Int32 → Int32 → Hp → Prop} (hK9 : ∀ (a1 : Int32) (a2 : Int32) (a3 : Int32) (h : Hp) (c n : Nat), c + 0 ≤ 0 → n + 0 ≤ 0 → K9 a1 a2 a3 h → SW E 9 ([some (vP (some (12, 0))), some (vI (a1)), some (vI (a2)), some (vI (a3))], [], h, c, n)) {a1 : Int32} {a2 : Int32} {a3 : Int32} {s0 : Int32} {h : Hp} {c n : Nat} (hc : c + 0 ≤ 0) (hn : n + 0 ≤ 0) (w : w_X12_coming_33 K9 Q a1 a2 a3 s0 h) : SW E 33 ([some (vP (some (12, 0))), some (vI (a1)), some (vI (a2)), some (vI (a3))], [vI (s0)], h, c, n) := by
  refine k_X12_coming_33 cx hY (ctY hY (vc_X12_guestsIn (d := d + 1) w)) (by omega) (by omega) (by omega) (fun r h2 hp => ?_)
  obtain ⟨r2, rfl, w⟩ := hp
  exact s_X12_coming_38 cx hY eq hK9 (by omega) (by omega) w
theorem s_X12_coming_41 {E : EnvT} {d : Nat} (cx : CX E "ShoreDayModel" cX12_coming 4 (some .int) "coming" (d + 3) 0 0) (hY : eY E = lay1) {Q : Int32 → Hp → Prop} (eq : EQ E 0 0 (fun r h2 => ∃ x, r = [vI x] ∧ Q x h2)) {K9 : Int32 → Int32 → Int32 → Hp → Prop} (hK9 : ∀ (a1 : Int32) (a2 : Int32) (a3 : Int32) (h : Hp) (c n : Nat), c + 0 ≤ 0 → n + 0 ≤ 0 → K9 a1 a2 a3 h → SW E 9 ([some (vP (some (12, 0))), some (vI (a1)), some (vI (a2)), some (vI (a3))], [], h, c, n)) {a1 : Int32} {a2 : Int32} {a3 : Int32} {s0 : Int32} {h : Hp} {c n : Nat} (hc : c + 0 ≤ 0) (hn : n + 0 ≤ 0) (w : w_X12_coming_41 K9 Q a1 a2 a3 s0 h) : SW E 41 ([some (vP (some (12, 0))), some (vI (a1)), some (vI (a2)), some (vI (a3))], [vI (s0)], h, c, n) := by
  refine k_X12_coming_41 cx hY ?_
  exact s_X12_coming_42 cx hY eq hK9 (by omega) (by omega) w
theorem s_X12_coming_28 {E : EnvT} {d : Nat} (cx : CX E "ShoreDayModel" cX12_coming 4 (some .int) "coming" (d + 3) 0 0) (hY : eY E = lay1) {Q : Int32 → Hp → Prop} (eq : EQ E 0 0 (fun r h2 => ∃ x, r = [vI x] ∧ Q x h2)) {K9 : Int32 → Int32 → Int32 → Hp → Prop} (hK9 : ∀ (a1 : Int32) (a2 : Int32) (a3 : Int32) (h : Hp) (c n : Nat), c + 0 ≤ 0 → n + 0 ≤ 0 → K9 a1 a2 a3 h → SW E 9 ([some (vP (some (12, 0))), some (vI (a1)), some (vI (a2)), some (vI (a3))], [], h, c, n)) {a1 : Int32} {a2 : Int32} {a3 : Int32} {s0 : Int32} {h : Hp} {c n : Nat} (hc : c + 0 ≤ 0) (hn : n + 0 ≤ 0) (w : w_X12_coming_28 K9 Q a1 a2 a3 s0 h) : SW E 28 ([some (vP (some (12, 0))), some (vI (a1)), some (vI (a2)), some (vI (a3))], [vI (s0)], h, c, n) := by
  refine k_X12_coming_28 cx hY (fun q => ?_) (fun q => ?_)
  · have w := w.1 q
    exact s_X12_coming_41 cx hY eq hK9 (by omega) (by omega) w
  · have w := w.2 q
    exact s_X12_coming_33 cx hY eq hK9 (by omega) (by omega) w
theorem s_X12_coming_17 {E : EnvT} {d : Nat} (cx : CX E "ShoreDayModel" cX12_coming 4 (some .int) "coming" (d + 3) 0 0) (hY : eY E = lay1) {Q : Int32 → Hp → Prop} (eq : EQ E 0 0 (fun r h2 => ∃ x, r = [vI x] ∧ Q x h2)) {K9 : Int32 → Int32 → Int32 → Hp → Prop} (hK9 : ∀ (a1 : Int32) (a2 : Int32) (a3 : Int32) (h : Hp) (c n : Nat), c + 0 ≤ 0 → n + 0 ≤ 0 → K9 a1 a2 a3 h → SW E 9 ([some (vP (some (12, 0))), some (vI (a1)), some (vI (a2)), some (vI (a3))], [], h, c, n)) {a1 : Int32} {a2 : Int32} {a3 : Int32} {h : Hp} {c n : Nat} (hc : c + 0 ≤ 0) (hn : n + 0 ≤ 0) (w : w_X12_coming_17 K9 Q a1 a2 a3 h) : SW E 17 ([some (vP (some (12, 0))), some (vI (a1)), some (vI (a2)), some (vI (a3))], [], h, c, n) := by
  obtain ⟨G1, w⟩ := w
  refine k_X12_coming_17 cx hY G1 (fun q => ?_) (fun q => ?_)
  · have w := w.1 q
    exact s_X12_coming_33 cx hY eq hK9 (by omega) (by omega) w
  · have w := w.2 q
    exact s_X12_coming_28 cx hY eq hK9 (by omega) (by omega) w
theorem s_X12_coming_9 {E : EnvT} {d : Nat} (cx : CX E "ShoreDayModel" cX12_coming 4 (some .int) "coming" (d + 3) 0 0) (hY : eY E = lay1) {Q : Int32 → Hp → Prop} (eq : EQ E 0 0 (fun r h2 => ∃ x, r = [vI x] ∧ Q x h2)) : ∀ (N : Nat) (a1 : Int32) (a2 : Int32) (a3 : Int32) (h : Hp) (c n : Nat), c + 0 ≤ 0 → n + 0 ≤ 0 → w_X12_coming_9  Q N a1 a2 a3 h → SW E 9 ([some (vP (some (12, 0))), some (vI (a1)), some (vI (a2)), some (vI (a3))], [], h, c, n) := by
  intro N
  induction N with
  | zero =>
    intro _ _ _ h c n _ _ w
    exact w.elim
  | succ N ih =>
    intro a1 a2 a3 h c n hc hn w
    refine k_X12_coming_9 cx hY (fun q => ?_) (fun q => ?_)
    · have w := w.1 q
      exact s_X12_coming_50 cx hY eq  (by omega) (by omega) w
    · have w := w.2 q
      exact s_X12_coming_17 cx hY eq ih (by omega) (by omega) w
theorem s_X12_coming_6 {E : EnvT} {d : Nat} (cx : CX E "ShoreDayModel" cX12_coming 4 (some .int) "coming" (d + 3) 0 0) (hY : eY E = lay1) {Q : Int32 → Hp → Prop} (eq : EQ E 0 0 (fun r h2 => ∃ x, r = [vI x] ∧ Q x h2)) {a1 : Int32} {x2 : Option AVal} {x3 : Option AVal} {s0 : Int32} {h : Hp} {c n : Nat} (hc : c + 0 ≤ 0) (hn : n + 0 ≤ 0) (w : w_X12_coming_6  Q a1 s0 h) : SW E 6 ([some (vP (some (12, 0))), some (vI (a1)), x2, x3], [vI (s0)], h, c, n) := by
  refine k_X12_coming_6 cx hY ?_
  obtain ⟨N1, w⟩ := w
  exact s_X12_coming_9 cx hY eq  _ _ _ _ _ _ _ (by omega) (by omega) w
theorem s_X12_coming_0 {E : EnvT} {d : Nat} (cx : CX E "ShoreDayModel" cX12_coming 4 (some .int) "coming" (d + 3) 0 0) (hY : eY E = lay1) {Q : Int32 → Hp → Prop} (eq : EQ E 0 0 (fun r h2 => ∃ x, r = [vI x] ∧ Q x h2)) {a1 : Int32} {x2 : Option AVal} {x3 : Option AVal} {h : Hp} {c n : Nat} (hc : c + 0 ≤ 0) (hn : n + 0 ≤ 0) (w : w_X12_coming_0  Q a1 h) : SW E 0 ([some (vP (some (12, 0))), some (vI (a1)), x2, x3], [], h, c, n) := by
  refine k_X12_coming_0 cx hY (ctY hY (vc_X12_guestsThat (d := d + 0) w)) (by omega) (by omega) (by omega) (fun r h2 hp => ?_)
  obtain ⟨r2, rfl, w⟩ := hp
  exact s_X12_coming_6 cx hY eq  (by omega) (by omega) w
def wp_X12_coming (a1 : Int32) (h : Hp) (Q : Int32 → Hp → Prop) : Prop := w_X12_coming_0 Q a1 h
theorem vc_X12_coming {l : Launch} {d : Nat} {a1 : Int32} {h : Hp} {Q : Int32 → Hp → Prop} (w : wp_X12_coming a1 h Q) : Ct l lay1 yX12_coming cX12_coming 4 (some .int) (d + 3) 0 0 [vP (some (12, 0)), vI a1] h (fun r h2 => ∃ x, r = [vI x] ∧ Q x h2) := by
  exact Ct.of (by decide) (Nat.le_of_ble_eq_true rfl) fun E cx eq hl hY => s_X12_coming_0 cx hY eq (Nat.le_refl _) (Nat.le_refl _) w
def w_X12_wantsOut_37 (Q : Int32 → Hp → Prop) (a1 : Int32) (a2 : Int32) (s0 : Int32) (h : Hp) : Prop := ((s0) = 0 ∨ (s0) = 1) ∧ Q (s0) (h)
def w_X12_wantsOut_36 (Q : Int32 → Hp → Prop) (a1 : Int32) (a2 : Int32) (h : Hp) : Prop := w_X12_wantsOut_37  Q (a1) (a2) ((0 : Int32)) (h)
def w_X12_wantsOut_32 (Q : Int32 → Hp → Prop) (a1 : Int32) (a2 : Int32) (h : Hp) : Prop := w_X12_wantsOut_37  Q (a1) (a2) ((1 : Int32)) (h)
def w_X12_wantsOut_19 (Q : Int32 → Hp → Prop) (a1 : Int32) (a2 : Int32) (h : Hp) : Prop := vp_in (a1) 60 ∧ (((gI (h) 12 (0) (24)) < (gI (h) 145 (0) (tN (a1))) → w_X12_wantsOut_36  Q (a1) (a2) (h)) ∧ (¬ (gI (h) 12 (0) (24)) < (gI (h) 145 (0) (tN (a1))) → w_X12_wantsOut_32  Q (a1) (a2) (h)))
def w_X12_wantsOut_10 (Q : Int32 → Hp → Prop) (a1 : Int32) (a2 : Int32) (h : Hp) : Prop := vp_in (a1) 60 ∧ ((¬ (gI (h) 148 (0) (tN (a1))) = 0 → w_X12_wantsOut_36  Q (a1) (a2) (h)) ∧ ((gI (h) 148 (0) (tN (a1))) = 0 → w_X12_wantsOut_19  Q (a1) (a2) (h)))
def w_X12_wantsOut_0 (Q : Int32 → Hp → Prop) (a1 : Int32) (a2 : Int32) (h : Hp) : Prop := vp_in (a1) 60 ∧ ((¬ (gI (h) 142 (0) (tN (a1))) = (a2) → w_X12_wantsOut_36  Q (a1) (a2) (h)) ∧ ((gI (h) 142 (0) (tN (a1))) = (a2) → w_X12_wantsOut_10  Q (a1) (a2) (h)))
theorem s_X12_wantsOut_37 {E : EnvT} {d : Nat} (cx : CX E "ShoreDayModel" cX12_wantsOut 3 (some .boolean) "wantsOut" (d + 1) 0 0) (hY : eY E = lay1) {Q : Int32 → Hp → Prop} (eq : EQ E 0 0 (fun r h2 => ∃ x, r = [vI x] ∧ Q x h2)) {a1 : Int32} {a2 : Int32} {s0 : Int32} {h : Hp} {c n : Nat} (hc : c + 0 ≤ 0) (hn : n + 0 ≤ 0) (w : w_X12_wantsOut_37  Q a1 a2 s0 h) : SW E 37 ([some (vP (some (12, 0))), some (vI (a1)), some (vI (a2))], [vI (s0)], h, c, n) := by
  exact k_X12_wantsOut_37 cx hY eq (by omega) (by omega) w.1 ⟨_, rfl, w.2⟩
theorem s_X12_wantsOut_36 {E : EnvT} {d : Nat} (cx : CX E "ShoreDayModel" cX12_wantsOut 3 (some .boolean) "wantsOut" (d + 1) 0 0) (hY : eY E = lay1) {Q : Int32 → Hp → Prop} (eq : EQ E 0 0 (fun r h2 => ∃ x, r = [vI x] ∧ Q x h2)) {a1 : Int32} {a2 : Int32} {h : Hp} {c n : Nat} (hc : c + 0 ≤ 0) (hn : n + 0 ≤ 0) (w : w_X12_wantsOut_36  Q a1 a2 h) : SW E 36 ([some (vP (some (12, 0))), some (vI (a1)), some (vI (a2))], [], h, c, n) := by
  refine k_X12_wantsOut_36 cx hY ?_
  exact s_X12_wantsOut_37 cx hY eq  (by omega) (by omega) w
theorem s_X12_wantsOut_32 {E : EnvT} {d : Nat} (cx : CX E "ShoreDayModel" cX12_wantsOut 3 (some .boolean) "wantsOut" (d + 1) 0 0) (hY : eY E = lay1) {Q : Int32 → Hp → Prop} (eq : EQ E 0 0 (fun r h2 => ∃ x, r = [vI x] ∧ Q x h2)) {a1 : Int32} {a2 : Int32} {h : Hp} {c n : Nat} (hc : c + 0 ≤ 0) (hn : n + 0 ≤ 0) (w : w_X12_wantsOut_32  Q a1 a2 h) : SW E 32 ([some (vP (some (12, 0))), some (vI (a1)), some (vI (a2))], [], h, c, n) := by
  refine k_X12_wantsOut_32 cx hY ?_
  exact s_X12_wantsOut_37 cx hY eq  (by omega) (by omega) w
theorem s_X12_wantsOut_19 {E : EnvT} {d : Nat} (cx : CX E "ShoreDayModel" cX12_wantsOut 3 (some .boolean) "wantsOut" (d + 1) 0 0) (hY : eY E = lay1) {Q : Int32 → Hp → Prop} (eq : EQ E 0 0 (fun r h2 => ∃ x, r = [vI x] ∧ Q x h2)) {a1 : Int32} {a2 : Int32} {h : Hp} {c n : Nat} (hc : c + 0 ≤ 0) (hn : n + 0 ≤ 0) (w : w_X12_wantsOut_19  Q a1 a2 h) : SW E 19 ([some (vP (some (12, 0))), some (vI (a1)), some (vI (a2))], [], h, c, n) := by
  obtain ⟨G1, w⟩ := w
  refine k_X12_wantsOut_19 cx hY G1 (fun q => ?_) (fun q => ?_)
  · have w := w.1 q
    exact s_X12_wantsOut_36 cx hY eq  (by omega) (by omega) w
  · have w := w.2 q
    exact s_X12_wantsOut_32 cx hY eq  (by omega) (by omega) w
theorem s_X12_wantsOut_10 {E : EnvT} {d : Nat} (cx : CX E "ShoreDayModel" cX12_wantsOut 3 (some .boolean) "wantsOut" (d + 1) 0 0) (hY : eY E = lay1) {Q : Int32 → Hp → Prop} (eq : EQ E 0 0 (fun r h2 => ∃ x, r = [vI x] ∧ Q x h2)) {a1 : Int32} {a2 : Int32} {h : Hp} {c n : Nat} (hc : c + 0 ≤ 0) (hn : n + 0 ≤ 0) (w : w_X12_wantsOut_10  Q a1 a2 h) : SW E 10 ([some (vP (some (12, 0))), some (vI (a1)), some (vI (a2))], [], h, c, n) := by
  obtain ⟨G1, w⟩ := w
  refine k_X12_wantsOut_10 cx hY G1 (fun q => ?_) (fun q => ?_)
  · have w := w.1 q
    exact s_X12_wantsOut_36 cx hY eq  (by omega) (by omega) w
  · have w := w.2 q
    exact s_X12_wantsOut_19 cx hY eq  (by omega) (by omega) w
theorem s_X12_wantsOut_0 {E : EnvT} {d : Nat} (cx : CX E "ShoreDayModel" cX12_wantsOut 3 (some .boolean) "wantsOut" (d + 1) 0 0) (hY : eY E = lay1) {Q : Int32 → Hp → Prop} (eq : EQ E 0 0 (fun r h2 => ∃ x, r = [vI x] ∧ Q x h2)) {a1 : Int32} {a2 : Int32} {h : Hp} {c n : Nat} (hc : c + 0 ≤ 0) (hn : n + 0 ≤ 0) (w : w_X12_wantsOut_0  Q a1 a2 h) : SW E 0 ([some (vP (some (12, 0))), some (vI (a1)), some (vI (a2))], [], h, c, n) := by
  obtain ⟨G1, w⟩ := w
  refine k_X12_wantsOut_0 cx hY G1 (fun q => ?_) (fun q => ?_)
  · have w := w.1 q
    exact s_X12_wantsOut_36 cx hY eq  (by omega) (by omega) w
  · have w := w.2 q
    exact s_X12_wantsOut_10 cx hY eq  (by omega) (by omega) w
def wp_X12_wantsOut (a1 : Int32) (a2 : Int32) (h : Hp) (Q : Int32 → Hp → Prop) : Prop := w_X12_wantsOut_0 Q a1 a2 h
theorem vc_X12_wantsOut {l : Launch} {d : Nat} {a1 : Int32} {a2 : Int32} {h : Hp} {Q : Int32 → Hp → Prop} (w : wp_X12_wantsOut a1 a2 h Q) : Ct l lay1 yX12_wantsOut cX12_wantsOut 3 (some .boolean) (d + 1) 0 0 [vP (some (12, 0)), vI a1, vI a2] h (fun r h2 => ∃ x, r = [vI x] ∧ Q x h2) := by
  exact Ct.of (by decide) (Nat.le_of_ble_eq_true rfl) fun E cx eq hl hY => s_X12_wantsOut_0 cx hY eq (Nat.le_refl _) (Nat.le_refl _) w
def w_X12_wantsHome_25 (Q : Int32 → Hp → Prop) (a1 : Int32) (a2 : Int32) (s0 : Int32) (h : Hp) : Prop := ((s0) = 0 ∨ (s0) = 1) ∧ Q (s0) (h)
def w_X12_wantsHome_24 (Q : Int32 → Hp → Prop) (a1 : Int32) (a2 : Int32) (h : Hp) : Prop := w_X12_wantsHome_25  Q (a1) (a2) ((0 : Int32)) (h)
def w_X12_wantsHome_20 (Q : Int32 → Hp → Prop) (a1 : Int32) (a2 : Int32) (h : Hp) : Prop := w_X12_wantsHome_25  Q (a1) (a2) ((1 : Int32)) (h)
def w_X12_wantsHome_10 (Q : Int32 → Hp → Prop) (a1 : Int32) (a2 : Int32) (h : Hp) : Prop := vp_in (a1) 60 ∧ ((¬ (gI (h) 148 (0) (tN (a1))) = ((4 : Int32)) → w_X12_wantsHome_24  Q (a1) (a2) (h)) ∧ ((gI (h) 148 (0) (tN (a1))) = ((4 : Int32)) → w_X12_wantsHome_20  Q (a1) (a2) (h)))
def w_X12_wantsHome_0 (Q : Int32 → Hp → Prop) (a1 : Int32) (a2 : Int32) (h : Hp) : Prop := vp_in (a1) 60 ∧ ((¬ (gI (h) 142 (0) (tN (a1))) = (a2) → w_X12_wantsHome_24  Q (a1) (a2) (h)) ∧ ((gI (h) 142 (0) (tN (a1))) = (a2) → w_X12_wantsHome_10  Q (a1) (a2) (h)))
theorem s_X12_wantsHome_25 {E : EnvT} {d : Nat} (cx : CX E "ShoreDayModel" cX12_wantsHome 3 (some .boolean) "wantsHome" (d + 1) 0 0) (hY : eY E = lay1) {Q : Int32 → Hp → Prop} (eq : EQ E 0 0 (fun r h2 => ∃ x, r = [vI x] ∧ Q x h2)) {a1 : Int32} {a2 : Int32} {s0 : Int32} {h : Hp} {c n : Nat} (hc : c + 0 ≤ 0) (hn : n + 0 ≤ 0) (w : w_X12_wantsHome_25  Q a1 a2 s0 h) : SW E 25 ([some (vP (some (12, 0))), some (vI (a1)), some (vI (a2))], [vI (s0)], h, c, n) := by
  exact k_X12_wantsHome_25 cx hY eq (by omega) (by omega) w.1 ⟨_, rfl, w.2⟩
theorem s_X12_wantsHome_24 {E : EnvT} {d : Nat} (cx : CX E "ShoreDayModel" cX12_wantsHome 3 (some .boolean) "wantsHome" (d + 1) 0 0) (hY : eY E = lay1) {Q : Int32 → Hp → Prop} (eq : EQ E 0 0 (fun r h2 => ∃ x, r = [vI x] ∧ Q x h2)) {a1 : Int32} {a2 : Int32} {h : Hp} {c n : Nat} (hc : c + 0 ≤ 0) (hn : n + 0 ≤ 0) (w : w_X12_wantsHome_24  Q a1 a2 h) : SW E 24 ([some (vP (some (12, 0))), some (vI (a1)), some (vI (a2))], [], h, c, n) := by
  refine k_X12_wantsHome_24 cx hY ?_
  exact s_X12_wantsHome_25 cx hY eq  (by omega) (by omega) w
theorem s_X12_wantsHome_20 {E : EnvT} {d : Nat} (cx : CX E "ShoreDayModel" cX12_wantsHome 3 (some .boolean) "wantsHome" (d + 1) 0 0) (hY : eY E = lay1) {Q : Int32 → Hp → Prop} (eq : EQ E 0 0 (fun r h2 => ∃ x, r = [vI x] ∧ Q x h2)) {a1 : Int32} {a2 : Int32} {h : Hp} {c n : Nat} (hc : c + 0 ≤ 0) (hn : n + 0 ≤ 0) (w : w_X12_wantsHome_20  Q a1 a2 h) : SW E 20 ([some (vP (some (12, 0))), some (vI (a1)), some (vI (a2))], [], h, c, n) := by
  refine k_X12_wantsHome_20 cx hY ?_
  exact s_X12_wantsHome_25 cx hY eq  (by omega) (by omega) w
theorem s_X12_wantsHome_10 {E : EnvT} {d : Nat} (cx : CX E "ShoreDayModel" cX12_wantsHome 3 (some .boolean) "wantsHome" (d + 1) 0 0) (hY : eY E = lay1) {Q : Int32 → Hp → Prop} (eq : EQ E 0 0 (fun r h2 => ∃ x, r = [vI x] ∧ Q x h2)) {a1 : Int32} {a2 : Int32} {h : Hp} {c n : Nat} (hc : c + 0 ≤ 0) (hn : n + 0 ≤ 0) (w : w_X12_wantsHome_10  Q a1 a2 h) : SW E 10 ([some (vP (some (12, 0))), some (vI (a1)), some (vI (a2))], [], h, c, n) := by
  obtain ⟨G1, w⟩ := w
  refine k_X12_wantsHome_10 cx hY G1 (fun q => ?_) (fun q => ?_)
  · have w := w.1 q
    exact s_X12_wantsHome_24 cx hY eq  (by omega) (by omega) w
  · have w := w.2 q
    exact s_X12_wantsHome_20 cx hY eq  (by omega) (by omega) w
theorem s_X12_wantsHome_0 {E : EnvT} {d : Nat} (cx : CX E "ShoreDayModel" cX12_wantsHome 3 (some .boolean) "wantsHome" (d + 1) 0 0) (hY : eY E = lay1) {Q : Int32 → Hp → Prop} (eq : EQ E 0 0 (fun r h2 => ∃ x, r = [vI x] ∧ Q x h2)) {a1 : Int32} {a2 : Int32} {h : Hp} {c n : Nat} (hc : c + 0 ≤ 0) (hn : n + 0 ≤ 0) (w : w_X12_wantsHome_0  Q a1 a2 h) : SW E 0 ([some (vP (some (12, 0))), some (vI (a1)), some (vI (a2))], [], h, c, n) := by
  obtain ⟨G1, w⟩ := w
  refine k_X12_wantsHome_0 cx hY G1 (fun q => ?_) (fun q => ?_)
  · have w := w.1 q
    exact s_X12_wantsHome_24 cx hY eq  (by omega) (by omega) w
  · have w := w.2 q
    exact s_X12_wantsHome_10 cx hY eq  (by omega) (by omega) w
def wp_X12_wantsHome (a1 : Int32) (a2 : Int32) (h : Hp) (Q : Int32 → Hp → Prop) : Prop := w_X12_wantsHome_0 Q a1 a2 h
theorem vc_X12_wantsHome {l : Launch} {d : Nat} {a1 : Int32} {a2 : Int32} {h : Hp} {Q : Int32 → Hp → Prop} (w : wp_X12_wantsHome a1 a2 h Q) : Ct l lay1 yX12_wantsHome cX12_wantsHome 3 (some .boolean) (d + 1) 0 0 [vP (some (12, 0)), vI a1, vI a2] h (fun r h2 => ∃ x, r = [vI x] ∧ Q x h2) := by
  exact Ct.of (by decide) (Nat.le_of_ble_eq_true rfl) fun E cx eq hl hY => s_X12_wantsHome_0 cx hY eq (Nat.le_refl _) (Nat.le_refl _) w
def w_X12_loads_20295 (Q : Hp → Prop) (a1 : Int32) (a2 : Int32) (a3 : Int32) (a5 : Int32) (a6 : Int32) (h : Hp) : Prop := Q (h)
def w_X12_loads_20282 (Q : Hp → Prop) (a1 : Int32) (a2 : Int32) (a3 : Int32) (a5 : Int32) (a6 : Int32) (s1 : Int32) (s2 : Int32) (h : Hp) : Prop := vp_in (s1) 6 ∧ (vp_in (a3) 4 ∧ (vp_in (a1) 6 ∧ (w_X12_loads_20295  Q (a1) (a2) (a3) (a5) (a6) (wI (wI (h) 133 (0) (tN (s1)) (s2)) 134 (0) (tN (a1)) (gI (wI (h) 133 (0) (tN (s1)) (s2)) 127 (0) (tN (a3)))))))
def w_X12_loads_20281 (Q : Hp → Prop) (a1 : Int32) (a2 : Int32) (a3 : Int32) (a5 : Int32) (a6 : Int32) (s1 : Int32) (h : Hp) : Prop := w_X12_loads_20282  Q (a1) (a2) (a3) (a5) (a6) (s1) ((3 : Int32)) (h)
def w_X12_loads_20277 (Q : Hp → Prop) (a1 : Int32) (a2 : Int32) (a3 : Int32) (a5 : Int32) (a6 : Int32) (s1 : Int32) (h : Hp) : Prop := w_X12_loads_20282  Q (a1) (a2) (a3) (a5) (a6) (s1) ((1 : Int32)) (h)
def w_X12_loads_20268 (Q : Hp → Prop) (a1 : Int32) (a2 : Int32) (a3 : Int32) (a5 : Int32) (a6 : Int32) (h : Hp) : Prop := ((a2) = 0 → w_X12_loads_20281  Q (a1) (a2) (a3) (a5) (a6) (a1) (h)) ∧ (¬ (a2) = 0 → w_X12_loads_20277  Q (a1) (a2) (a3) (a5) (a6) (a1) (h))
def w_X12_loads_20263 (Q : Hp → Prop) (a1 : Int32) (a2 : Int32) (a3 : Int32) (a5 : Int32) (a6 : Int32) (h : Hp) : Prop := ((a5) = 0 → w_X12_loads_20295  Q (a1) (a2) (a3) (a5) (a6) (h)) ∧ (¬ (a5) = 0 → w_X12_loads_20268  Q (a1) (a2) (a3) (a5) (a6) (h))
def w_X12_loads_20255 (K20209 : Int32 → Int32 → Int32 → Int32 → Int32 → Hp → Prop) (Q : Hp → Prop) (a1 : Int32) (a2 : Int32) (a3 : Int32) (a5 : Int32) (a6 : Int32) (s0 : Int32) (h : Hp) : Prop := K20209 (a1) (a2) (a3) (s0) (a6 + 1) (h)
def w_X12_loads_20250 (K20209 : Int32 → Int32 → Int32 → Int32 → Int32 → Hp → Prop) (Q : Hp → Prop) (a1 : Int32) (a2 : Int32) (a3 : Int32) (a5 : Int32) (a6 : Int32) (h : Hp) : Prop := w_X12_loads_20255 K20209 Q (a1) (a2) (a3) (a5) (a6) ((1 : Int32)) (h)
def w_X12_loads_20254 (K20209 : Int32 → Int32 → Int32 → Int32 → Int32 → Hp → Prop) (Q : Hp → Prop) (a1 : Int32) (a2 : Int32) (a3 : Int32) (a5 : Int32) (a6 : Int32) (h : Hp) : Prop := w_X12_loads_20255 K20209 Q (a1) (a2) (a3) (a5) (a6) ((0 : Int32)) (h)
def w_X12_loads_20247 (K20209 : Int32 → Int32 → Int32 → Int32 → Int32 → Hp → Prop) (Q : Hp → Prop) (a1 : Int32) (a2 : Int32) (a3 : Int32) (a5 : Int32) (a6 : Int32) (s0 : Int32) (h : Hp) : Prop := ((s0) = 0 → w_X12_loads_20254 K20209 Q (a1) (a2) (a3) (a5) (a6) (h)) ∧ (¬ (s0) = 0 → w_X12_loads_20250 K20209 Q (a1) (a2) (a3) (a5) (a6) (h))
def w_X12_loads_20240 (K20209 : Int32 → Int32 → Int32 → Int32 → Int32 → Hp → Prop) (Q : Hp → Prop) (a1 : Int32) (a2 : Int32) (a3 : Int32) (a5 : Int32) (a6 : Int32) (h : Hp) : Prop := wp_X12_wantsOut (a6) (a3) (h) (fun r2 h2 => w_X12_loads_20247 K20209 Q (a1) (a2) (a3) (a5) (a6) (r2) (h2))
def w_X12_loads_20237 (K20209 : Int32 → Int32 → Int32 → Int32 → Int32 → Hp → Prop) (Q : Hp → Prop) (a1 : Int32) (a2 : Int32) (a3 : Int32) (a5 : Int32) (a6 : Int32) (h : Hp) : Prop := w_X12_loads_20250 K20209 Q (a1) (a2) (a3) (a5) (a6) (h)
def w_X12_loads_20234 (K20209 : Int32 → Int32 → Int32 → Int32 → Int32 → Hp → Prop) (Q : Hp → Prop) (a1 : Int32) (a2 : Int32) (a3 : Int32) (a5 : Int32) (a6 : Int32) (s0 : Int32) (h : Hp) : Prop := ((s0) = 0 → w_X12_loads_20254 K20209 Q (a1) (a2) (a3) (a5) (a6) (h)) ∧ (¬ (s0) = 0 → w_X12_loads_20237 K20209 Q (a1) (a2) (a3) (a5) (a6) (h))
def w_X12_loads_20227 (K20209 : Int32 → Int32 → Int32 → Int32 → Int32 → Hp → Prop) (Q : Hp → Prop) (a1 : Int32) (a2 : Int32) (a3 : Int32) (a5 : Int32) (a6 : Int32) (h : Hp) : Prop := wp_X12_wantsHome (a6) (a3) (h) (fun r2 h2 => w_X12_loads_20234 K20209 Q (a1) (a2) (a3) (a5) (a6) (r2) (h2))
def w_X12_loads_20223 (K20209 : Int32 → Int32 → Int32 → Int32 → Int32 → Hp → Prop) (Q : Hp → Prop) (a1 : Int32) (a2 : Int32) (a3 : Int32) (a5 : Int32) (a6 : Int32) (h : Hp) : Prop := ((a2) = 0 → w_X12_loads_20240 K20209 Q (a1) (a2) (a3) (a5) (a6) (h)) ∧ (¬ (a2) = 0 → w_X12_loads_20227 K20209 Q (a1) (a2) (a3) (a5) (a6) (h))
def w_X12_loads_20218 (K20209 : Int32 → Int32 → Int32 → Int32 → Int32 → Hp → Prop) (Q : Hp → Prop) (a1 : Int32) (a2 : Int32) (a3 : Int32) (a5 : Int32) (a6 : Int32) (h : Hp) : Prop := (¬ (a5) = 0 → w_X12_loads_20250 K20209 Q (a1) (a2) (a3) (a5) (a6) (h)) ∧ ((a5) = 0 → w_X12_loads_20223 K20209 Q (a1) (a2) (a3) (a5) (a6) (h))
def w_X12_loads_20209 (Q : Hp → Prop) : Nat → Int32 → Int32 → Int32 → Int32 → Int32 → Hp → Prop
  | 0 => fun _ _ _ _ _ _ => False
  | N + 1 => fun a1 a2 a3 a5 a6 h => ((gI (h) 12 (0) (41)) ≤ (a6) → w_X12_loads_20263  Q (a1) (a2) (a3) (a5) (a6) (h)) ∧ (¬ (gI (h) 12 (0) (41)) ≤ (a6) → w_X12_loads_20218 (w_X12_loads_20209  Q N) Q (a1) (a2) (a3) (a5) (a6) (h))
def w_X12_loads_20204 (Q : Hp → Prop) (a1 : Int32) (a2 : Int32) (a3 : Int32) (a5 : Int32) (s0 : Int32) (h : Hp) : Prop := ∃ N, w_X12_loads_20209  Q N (a1) (a2) (a3) (s0) ((0 : Int32)) (h)
def w_X12_loads_20203 (Q : Hp → Prop) (a1 : Int32) (a2 : Int32) (a3 : Int32) (a5 : Int32) (h : Hp) : Prop := w_X12_loads_20204  Q (a1) (a2) (a3) (a5) ((0 : Int32)) (h)
def w_X12_loads_20199 (Q : Hp → Prop) (a1 : Int32) (a2 : Int32) (a3 : Int32) (a5 : Int32) (h : Hp) : Prop := w_X12_loads_20204  Q (a1) (a2) (a3) (a5) ((1 : Int32)) (h)
def w_X12_loads_20196 (Q : Hp → Prop) (a1 : Int32) (a2 : Int32) (a3 : Int32) (a5 : Int32) (s0 : Int32) (h : Hp) : Prop := ((s0) ≤ 0 → w_X12_loads_20203  Q (a1) (a2) (a3) (a5) (h)) ∧ (¬ (s0) ≤ 0 → w_X12_loads_20199  Q (a1) (a2) (a3) (a5) (h))
def w_X12_loads_20191 (Q : Hp → Prop) (a1 : Int32) (a2 : Int32) (a3 : Int32) (a5 : Int32) (h : Hp) : Prop := wp_X12_guestsIn (a1) (h) (fun r2 h2 => w_X12_loads_20196  Q (a1) (a2) (a3) (a5) (r2) (h2))
def w_X12_loads_20186 (K20093 : Int32 → Int32 → Int32 → Int32 → Hp → Prop) (Q : Hp → Prop) (a1 : Int32) (a2 : Int32) (a3 : Int32) (a5 : Int32) (a6 : Int32) (s0 : Int32) (h : Hp) : Prop := K20093 (a1) (a2) (a3) (s0) (h)
def w_X12_loads_20180 (K20093 : Int32 → Int32 → Int32 → Int32 → Hp → Prop) (Q : Hp → Prop) (a1 : Int32) (a2 : Int32) (a3 : Int32) (a5 : Int32) (a6 : Int32) (h : Hp) : Prop := wp_X12_nextBy_s  (h) (fun r2 h2 => w_X12_loads_20186 K20093 Q (a1) (a2) (a3) (a5) (a6) (r2) (h2))
def w_X12_loads_20156 (K20093 : Int32 → Int32 → Int32 → Int32 → Hp → Prop) (Q : Hp → Prop) (a1 : Int32) (a2 : Int32) (a3 : Int32) (a5 : Int32) (a6 : Int32) (h : Hp) : Prop := vp_in (a5) 60 ∧ (vp_in (a5) 60 ∧ (vp_in (a5) 60 ∧ (w_X12_loads_20180 K20093 Q (a1) (a2) (a3) (a5) (a6) (wI (wI (wI (h) 148 (0) (tN (a5)) ((1 : Int32))) 149 (0) (tN (a5)) (a1)) 154 (0) (tN (a5)) ((-1 : Int32))))))
def w_X12_loads_20141 (K20093 : Int32 → Int32 → Int32 → Int32 → Hp → Prop) (Q : Hp → Prop) (a1 : Int32) (a2 : Int32) (a3 : Int32) (a5 : Int32) (a6 : Int32) (s0 : Int32) (h : Hp) : Prop := vp_in (a5) 60 ∧ (((gI (h) 12 (0) (25)) < ((s0) + (gI (h) 143 (0) (tN (a5)))) → w_X12_loads_20180 K20093 Q (a1) (a2) (a3) (a5) (a6) (h)) ∧ (¬ (gI (h) 12 (0) (25)) < ((s0) + (gI (h) 143 (0) (tN (a5)))) → w_X12_loads_20156 K20093 Q (a1) (a2) (a3) (a5) (a6) (h)))
def w_X12_loads_20136 (K20093 : Int32 → Int32 → Int32 → Int32 → Hp → Prop) (Q : Hp → Prop) (a1 : Int32) (a2 : Int32) (a3 : Int32) (a5 : Int32) (a6 : Int32) (h : Hp) : Prop := wp_X12_coming (a1) (h) (fun r2 h2 => w_X12_loads_20141 K20093 Q (a1) (a2) (a3) (a5) (a6) (r2) (h2))
def w_X12_loads_20132 (K20093 : Int32 → Int32 → Int32 → Int32 → Hp → Prop) (Q : Hp → Prop) (a1 : Int32) (a2 : Int32) (a3 : Int32) (a5 : Int32) (a6 : Int32) (h : Hp) : Prop := ((a2) = 0 → w_X12_loads_20156 K20093 Q (a1) (a2) (a3) (a5) (a6) (h)) ∧ (¬ (a2) = 0 → w_X12_loads_20136 K20093 Q (a1) (a2) (a3) (a5) (a6) (h))
def w_X12_loads_20125 (K20093 : Int32 → Int32 → Int32 → Int32 → Hp → Prop) (Q : Hp → Prop) (a1 : Int32) (a2 : Int32) (a3 : Int32) (a5 : Int32) (s0 : Int32) (h : Hp) : Prop := ((s0) = 0 → w_X12_loads_20180 K20093 Q (a1) (a2) (a3) (a5) (s0) (h)) ∧ (¬ (s0) = 0 → w_X12_loads_20132 K20093 Q (a1) (a2) (a3) (a5) (s0) (h))
def w_X12_loads_20124 (K20093 : Int32 → Int32 → Int32 → Int32 → Hp → Prop) (Q : Hp → Prop) (a1 : Int32) (a2 : Int32) (a3 : Int32) (a5 : Int32) (h : Hp) : Prop := w_X12_loads_20125 K20093 Q (a1) (a2) (a3) (a5) ((0 : Int32)) (h)
def w_X12_loads_20120 (K20093 : Int32 → Int32 → Int32 → Int32 → Hp → Prop) (Q : Hp → Prop) (a1 : Int32) (a2 : Int32) (a3 : Int32) (a5 : Int32) (h : Hp) : Prop := w_X12_loads_20125 K20093 Q (a1) (a2) (a3) (a5) ((1 : Int32)) (h)
def w_X12_loads_20116 (K20093 : Int32 → Int32 → Int32 → Int32 → Hp → Prop) (Q : Hp → Prop) (a1 : Int32) (a2 : Int32) (a3 : Int32) (a5 : Int32) (s0 : Int32) (s1 : Int32) (s2 : Int32) (h : Hp) : Prop := (((s1) - (s2)) < (s0) → w_X12_loads_20124 K20093 Q (a1) (a2) (a3) (a5) (h)) ∧ (¬ ((s1) - (s2)) < (s0) → w_X12_loads_20120 K20093 Q (a1) (a2) (a3) (a5) (h))
def w_X12_loads_20098 (K20093 : Int32 → Int32 → Int32 → Int32 → Hp → Prop) (Q : Hp → Prop) (a1 : Int32) (a2 : Int32) (a3 : Int32) (a5 : Int32) (h : Hp) : Prop := vp_in (a5) 60 ∧ (vp_in (a1) 6 ∧ (wp_X12_guestsIn (a1) (h) (fun r2 h2 => w_X12_loads_20116 K20093 Q (a1) (a2) (a3) (a5) (gI (h) 143 (0) (tN (a5))) (gI (h) 132 (0) (tN (a1))) (r2) (h2))))
def w_X12_loads_20093 (Q : Hp → Prop) : Nat → Int32 → Int32 → Int32 → Int32 → Hp → Prop
  | 0 => fun _ _ _ _ _ => False
  | N + 1 => fun a1 a2 a3 a5 h => ((a5) < 0 → w_X12_loads_20191  Q (a1) (a2) (a3) (a5) (h)) ∧ (¬ (a5) < 0 → w_X12_loads_20098 (w_X12_loads_20093  Q N) Q (a1) (a2) (a3) (a5) (h))
def w_X12_loads_20091 (Q : Hp → Prop) (a1 : Int32) (a2 : Int32) (a3 : Int32) (s0 : Int32) (h : Hp) : Prop := ∃ N, w_X12_loads_20093  Q N (a1) (a2) (a3) (s0) (h)
def w_X12_loads_20083 (Q : Hp → Prop) (a1 : Int32) (a2 : Int32) (a3 : Int32) (a4 : Int32) (h : Hp) : Prop := wp_X12_nextBy_s  (h) (fun r2 h2 => w_X12_loads_20091  Q (a1) (a2) (a3) (r2) (h2))
def w_X12_loads_79 (Q : Hp → Prop) (a1 : Int32) (a2 : Int32) (a3 : Int32) (a4 : Int32) (h : Hp) : Prop := w_X12_loads_20083  Q (a1) (a2) (a3) (a4) (h)
def w_X12_loads_10295 (Q : Hp → Prop) (a1 : Int32) (a2 : Int32) (a3 : Int32) (a5 : Int32) (a6 : Int32) (h : Hp) : Prop := Q (h)
def w_X12_loads_10282 (Q : Hp → Prop) (a1 : Int32) (a2 : Int32) (a3 : Int32) (a5 : Int32) (a6 : Int32) (s1 : Int32) (s2 : Int32) (h : Hp) : Prop := vp_in (s1) 6 ∧ (vp_in (a3) 4 ∧ (vp_in (a1) 6 ∧ (w_X12_loads_10295  Q (a1) (a2) (a3) (a5) (a6) (wI (wI (h) 133 (0) (tN (s1)) (s2)) 134 (0) (tN (a1)) (gI (wI (h) 133 (0) (tN (s1)) (s2)) 127 (0) (tN (a3)))))))
def w_X12_loads_10281 (Q : Hp → Prop) (a1 : Int32) (a2 : Int32) (a3 : Int32) (a5 : Int32) (a6 : Int32) (s1 : Int32) (h : Hp) : Prop := w_X12_loads_10282  Q (a1) (a2) (a3) (a5) (a6) (s1) ((3 : Int32)) (h)
def w_X12_loads_10277 (Q : Hp → Prop) (a1 : Int32) (a2 : Int32) (a3 : Int32) (a5 : Int32) (a6 : Int32) (s1 : Int32) (h : Hp) : Prop := w_X12_loads_10282  Q (a1) (a2) (a3) (a5) (a6) (s1) ((1 : Int32)) (h)
def w_X12_loads_10268 (Q : Hp → Prop) (a1 : Int32) (a2 : Int32) (a3 : Int32) (a5 : Int32) (a6 : Int32) (h : Hp) : Prop := ((a2) = 0 → w_X12_loads_10281  Q (a1) (a2) (a3) (a5) (a6) (a1) (h)) ∧ (¬ (a2) = 0 → w_X12_loads_10277  Q (a1) (a2) (a3) (a5) (a6) (a1) (h))
def w_X12_loads_10263 (Q : Hp → Prop) (a1 : Int32) (a2 : Int32) (a3 : Int32) (a5 : Int32) (a6 : Int32) (h : Hp) : Prop := ((a5) = 0 → w_X12_loads_10295  Q (a1) (a2) (a3) (a5) (a6) (h)) ∧ (¬ (a5) = 0 → w_X12_loads_10268  Q (a1) (a2) (a3) (a5) (a6) (h))
def w_X12_loads_10255 (K10209 : Int32 → Int32 → Int32 → Int32 → Int32 → Hp → Prop) (Q : Hp → Prop) (a1 : Int32) (a2 : Int32) (a3 : Int32) (a5 : Int32) (a6 : Int32) (s0 : Int32) (h : Hp) : Prop := K10209 (a1) (a2) (a3) (s0) (a6 + 1) (h)
def w_X12_loads_10250 (K10209 : Int32 → Int32 → Int32 → Int32 → Int32 → Hp → Prop) (Q : Hp → Prop) (a1 : Int32) (a2 : Int32) (a3 : Int32) (a5 : Int32) (a6 : Int32) (h : Hp) : Prop := w_X12_loads_10255 K10209 Q (a1) (a2) (a3) (a5) (a6) ((1 : Int32)) (h)
def w_X12_loads_10254 (K10209 : Int32 → Int32 → Int32 → Int32 → Int32 → Hp → Prop) (Q : Hp → Prop) (a1 : Int32) (a2 : Int32) (a3 : Int32) (a5 : Int32) (a6 : Int32) (h : Hp) : Prop := w_X12_loads_10255 K10209 Q (a1) (a2) (a3) (a5) (a6) ((0 : Int32)) (h)
def w_X12_loads_10247 (K10209 : Int32 → Int32 → Int32 → Int32 → Int32 → Hp → Prop) (Q : Hp → Prop) (a1 : Int32) (a2 : Int32) (a3 : Int32) (a5 : Int32) (a6 : Int32) (s0 : Int32) (h : Hp) : Prop := ((s0) = 0 → w_X12_loads_10254 K10209 Q (a1) (a2) (a3) (a5) (a6) (h)) ∧ (¬ (s0) = 0 → w_X12_loads_10250 K10209 Q (a1) (a2) (a3) (a5) (a6) (h))
def w_X12_loads_10240 (K10209 : Int32 → Int32 → Int32 → Int32 → Int32 → Hp → Prop) (Q : Hp → Prop) (a1 : Int32) (a2 : Int32) (a3 : Int32) (a5 : Int32) (a6 : Int32) (h : Hp) : Prop := wp_X12_wantsOut (a6) (a3) (h) (fun r2 h2 => w_X12_loads_10247 K10209 Q (a1) (a2) (a3) (a5) (a6) (r2) (h2))
def w_X12_loads_10237 (K10209 : Int32 → Int32 → Int32 → Int32 → Int32 → Hp → Prop) (Q : Hp → Prop) (a1 : Int32) (a2 : Int32) (a3 : Int32) (a5 : Int32) (a6 : Int32) (h : Hp) : Prop := w_X12_loads_10250 K10209 Q (a1) (a2) (a3) (a5) (a6) (h)
def w_X12_loads_10234 (K10209 : Int32 → Int32 → Int32 → Int32 → Int32 → Hp → Prop) (Q : Hp → Prop) (a1 : Int32) (a2 : Int32) (a3 : Int32) (a5 : Int32) (a6 : Int32) (s0 : Int32) (h : Hp) : Prop := ((s0) = 0 → w_X12_loads_10254 K10209 Q (a1) (a2) (a3) (a5) (a6) (h)) ∧ (¬ (s0) = 0 → w_X12_loads_10237 K10209 Q (a1) (a2) (a3) (a5) (a6) (h))
def w_X12_loads_10227 (K10209 : Int32 → Int32 → Int32 → Int32 → Int32 → Hp → Prop) (Q : Hp → Prop) (a1 : Int32) (a2 : Int32) (a3 : Int32) (a5 : Int32) (a6 : Int32) (h : Hp) : Prop := wp_X12_wantsHome (a6) (a3) (h) (fun r2 h2 => w_X12_loads_10234 K10209 Q (a1) (a2) (a3) (a5) (a6) (r2) (h2))
def w_X12_loads_10223 (K10209 : Int32 → Int32 → Int32 → Int32 → Int32 → Hp → Prop) (Q : Hp → Prop) (a1 : Int32) (a2 : Int32) (a3 : Int32) (a5 : Int32) (a6 : Int32) (h : Hp) : Prop := ((a2) = 0 → w_X12_loads_10240 K10209 Q (a1) (a2) (a3) (a5) (a6) (h)) ∧ (¬ (a2) = 0 → w_X12_loads_10227 K10209 Q (a1) (a2) (a3) (a5) (a6) (h))
def w_X12_loads_10218 (K10209 : Int32 → Int32 → Int32 → Int32 → Int32 → Hp → Prop) (Q : Hp → Prop) (a1 : Int32) (a2 : Int32) (a3 : Int32) (a5 : Int32) (a6 : Int32) (h : Hp) : Prop := (¬ (a5) = 0 → w_X12_loads_10250 K10209 Q (a1) (a2) (a3) (a5) (a6) (h)) ∧ ((a5) = 0 → w_X12_loads_10223 K10209 Q (a1) (a2) (a3) (a5) (a6) (h))
def w_X12_loads_10209 (Q : Hp → Prop) : Nat → Int32 → Int32 → Int32 → Int32 → Int32 → Hp → Prop
  | 0 => fun _ _ _ _ _ _ => False
  | N + 1 => fun a1 a2 a3 a5 a6 h => ((gI (h) 12 (0) (41)) ≤ (a6) → w_X12_loads_10263  Q (a1) (a2) (a3) (a5) (a6) (h)) ∧ (¬ (gI (h) 12 (0) (41)) ≤ (a6) → w_X12_loads_10218 (w_X12_loads_10209  Q N) Q (a1) (a2) (a3) (a5) (a6) (h))
def w_X12_loads_10204 (Q : Hp → Prop) (a1 : Int32) (a2 : Int32) (a3 : Int32) (a5 : Int32) (s0 : Int32) (h : Hp) : Prop := ∃ N, w_X12_loads_10209  Q N (a1) (a2) (a3) (s0) ((0 : Int32)) (h)
def w_X12_loads_10203 (Q : Hp → Prop) (a1 : Int32) (a2 : Int32) (a3 : Int32) (a5 : Int32) (h : Hp) : Prop := w_X12_loads_10204  Q (a1) (a2) (a3) (a5) ((0 : Int32)) (h)
def w_X12_loads_10199 (Q : Hp → Prop) (a1 : Int32) (a2 : Int32) (a3 : Int32) (a5 : Int32) (h : Hp) : Prop := w_X12_loads_10204  Q (a1) (a2) (a3) (a5) ((1 : Int32)) (h)
def w_X12_loads_10196 (Q : Hp → Prop) (a1 : Int32) (a2 : Int32) (a3 : Int32) (a5 : Int32) (s0 : Int32) (h : Hp) : Prop := ((s0) ≤ 0 → w_X12_loads_10203  Q (a1) (a2) (a3) (a5) (h)) ∧ (¬ (s0) ≤ 0 → w_X12_loads_10199  Q (a1) (a2) (a3) (a5) (h))
def w_X12_loads_10191 (Q : Hp → Prop) (a1 : Int32) (a2 : Int32) (a3 : Int32) (a5 : Int32) (h : Hp) : Prop := wp_X12_guestsIn (a1) (h) (fun r2 h2 => w_X12_loads_10196  Q (a1) (a2) (a3) (a5) (r2) (h2))
def w_X12_loads_10186 (K10093 : Int32 → Int32 → Int32 → Int32 → Hp → Prop) (Q : Hp → Prop) (a1 : Int32) (a2 : Int32) (a3 : Int32) (a5 : Int32) (a6 : Int32) (s0 : Int32) (h : Hp) : Prop := K10093 (a1) (a2) (a3) (s0) (h)
def w_X12_loads_10180 (K10093 : Int32 → Int32 → Int32 → Int32 → Hp → Prop) (Q : Hp → Prop) (a1 : Int32) (a2 : Int32) (a3 : Int32) (a5 : Int32) (a6 : Int32) (h : Hp) : Prop := wp_X12_nextBy_t  (h) (fun r2 h2 => w_X12_loads_10186 K10093 Q (a1) (a2) (a3) (a5) (a6) (r2) (h2))
def w_X12_loads_10156 (K10093 : Int32 → Int32 → Int32 → Int32 → Hp → Prop) (Q : Hp → Prop) (a1 : Int32) (a2 : Int32) (a3 : Int32) (a5 : Int32) (a6 : Int32) (h : Hp) : Prop := vp_in (a5) 60 ∧ (vp_in (a5) 60 ∧ (vp_in (a5) 60 ∧ (w_X12_loads_10180 K10093 Q (a1) (a2) (a3) (a5) (a6) (wI (wI (wI (h) 148 (0) (tN (a5)) ((1 : Int32))) 149 (0) (tN (a5)) (a1)) 154 (0) (tN (a5)) ((-1 : Int32))))))
def w_X12_loads_10141 (K10093 : Int32 → Int32 → Int32 → Int32 → Hp → Prop) (Q : Hp → Prop) (a1 : Int32) (a2 : Int32) (a3 : Int32) (a5 : Int32) (a6 : Int32) (s0 : Int32) (h : Hp) : Prop := vp_in (a5) 60 ∧ (((gI (h) 12 (0) (25)) < ((s0) + (gI (h) 143 (0) (tN (a5)))) → w_X12_loads_10180 K10093 Q (a1) (a2) (a3) (a5) (a6) (h)) ∧ (¬ (gI (h) 12 (0) (25)) < ((s0) + (gI (h) 143 (0) (tN (a5)))) → w_X12_loads_10156 K10093 Q (a1) (a2) (a3) (a5) (a6) (h)))
def w_X12_loads_10136 (K10093 : Int32 → Int32 → Int32 → Int32 → Hp → Prop) (Q : Hp → Prop) (a1 : Int32) (a2 : Int32) (a3 : Int32) (a5 : Int32) (a6 : Int32) (h : Hp) : Prop := wp_X12_coming (a1) (h) (fun r2 h2 => w_X12_loads_10141 K10093 Q (a1) (a2) (a3) (a5) (a6) (r2) (h2))
def w_X12_loads_10132 (K10093 : Int32 → Int32 → Int32 → Int32 → Hp → Prop) (Q : Hp → Prop) (a1 : Int32) (a2 : Int32) (a3 : Int32) (a5 : Int32) (a6 : Int32) (h : Hp) : Prop := ((a2) = 0 → w_X12_loads_10156 K10093 Q (a1) (a2) (a3) (a5) (a6) (h)) ∧ (¬ (a2) = 0 → w_X12_loads_10136 K10093 Q (a1) (a2) (a3) (a5) (a6) (h))
def w_X12_loads_10125 (K10093 : Int32 → Int32 → Int32 → Int32 → Hp → Prop) (Q : Hp → Prop) (a1 : Int32) (a2 : Int32) (a3 : Int32) (a5 : Int32) (s0 : Int32) (h : Hp) : Prop := ((s0) = 0 → w_X12_loads_10180 K10093 Q (a1) (a2) (a3) (a5) (s0) (h)) ∧ (¬ (s0) = 0 → w_X12_loads_10132 K10093 Q (a1) (a2) (a3) (a5) (s0) (h))
def w_X12_loads_10124 (K10093 : Int32 → Int32 → Int32 → Int32 → Hp → Prop) (Q : Hp → Prop) (a1 : Int32) (a2 : Int32) (a3 : Int32) (a5 : Int32) (h : Hp) : Prop := w_X12_loads_10125 K10093 Q (a1) (a2) (a3) (a5) ((0 : Int32)) (h)
def w_X12_loads_10120 (K10093 : Int32 → Int32 → Int32 → Int32 → Hp → Prop) (Q : Hp → Prop) (a1 : Int32) (a2 : Int32) (a3 : Int32) (a5 : Int32) (h : Hp) : Prop := w_X12_loads_10125 K10093 Q (a1) (a2) (a3) (a5) ((1 : Int32)) (h)
def w_X12_loads_10116 (K10093 : Int32 → Int32 → Int32 → Int32 → Hp → Prop) (Q : Hp → Prop) (a1 : Int32) (a2 : Int32) (a3 : Int32) (a5 : Int32) (s0 : Int32) (s1 : Int32) (s2 : Int32) (h : Hp) : Prop := (((s1) - (s2)) < (s0) → w_X12_loads_10124 K10093 Q (a1) (a2) (a3) (a5) (h)) ∧ (¬ ((s1) - (s2)) < (s0) → w_X12_loads_10120 K10093 Q (a1) (a2) (a3) (a5) (h))
def w_X12_loads_10098 (K10093 : Int32 → Int32 → Int32 → Int32 → Hp → Prop) (Q : Hp → Prop) (a1 : Int32) (a2 : Int32) (a3 : Int32) (a5 : Int32) (h : Hp) : Prop := vp_in (a5) 60 ∧ (vp_in (a1) 6 ∧ (wp_X12_guestsIn (a1) (h) (fun r2 h2 => w_X12_loads_10116 K10093 Q (a1) (a2) (a3) (a5) (gI (h) 143 (0) (tN (a5))) (gI (h) 132 (0) (tN (a1))) (r2) (h2))))
def w_X12_loads_10093 (Q : Hp → Prop) : Nat → Int32 → Int32 → Int32 → Int32 → Hp → Prop
  | 0 => fun _ _ _ _ _ => False
  | N + 1 => fun a1 a2 a3 a5 h => ((a5) < 0 → w_X12_loads_10191  Q (a1) (a2) (a3) (a5) (h)) ∧ (¬ (a5) < 0 → w_X12_loads_10098 (w_X12_loads_10093  Q N) Q (a1) (a2) (a3) (a5) (h))
def w_X12_loads_10091 (Q : Hp → Prop) (a1 : Int32) (a2 : Int32) (a3 : Int32) (s0 : Int32) (h : Hp) : Prop := ∃ N, w_X12_loads_10093  Q N (a1) (a2) (a3) (s0) (h)
def w_X12_loads_10083 (Q : Hp → Prop) (a1 : Int32) (a2 : Int32) (a3 : Int32) (a4 : Int32) (h : Hp) : Prop := wp_X12_nextBy_t  (h) (fun r2 h2 => w_X12_loads_10091  Q (a1) (a2) (a3) (r2) (h2))
def w_X12_loads_72 (Q : Hp → Prop) (a1 : Int32) (a2 : Int32) (a3 : Int32) (a4 : Int32) (h : Hp) : Prop := w_X12_loads_10083  Q (a1) (a2) (a3) (a4) (h)
def w_X12_loads_68 (Q : Hp → Prop) (a1 : Int32) (a2 : Int32) (a3 : Int32) (a4 : Int32) (h : Hp) : Prop := ((a2) = 0 → w_X12_loads_79  Q (a1) (a2) (a3) (a4) (h)) ∧ (¬ (a2) = 0 → w_X12_loads_72  Q (a1) (a2) (a3) (a4) (h))
def w_X12_loads_61 (K25 : Int32 → Int32 → Int32 → Int32 → Hp → Prop) (Q : Hp → Prop) (a1 : Int32) (a2 : Int32) (a3 : Int32) (a4 : Int32) (s1 : Int32) (s2 : Int32) (h : Hp) : Prop := vp_in (s1) 60 ∧ (K25 (a1) (a2) (a3) (a4 + 1) (wI (h) 160 (0) (tN (s1)) (vp_nar .boolean (s2))))
def w_X12_loads_54 (K25 : Int32 → Int32 → Int32 → Int32 → Hp → Prop) (Q : Hp → Prop) (a1 : Int32) (a2 : Int32) (a3 : Int32) (a4 : Int32) (s1 : Int32) (h : Hp) : Prop := wp_X12_wantsHome (a4) (a3) (h) (fun r2 h2 => w_X12_loads_61 K25 Q (a1) (a2) (a3) (a4) (s1) (r2) (h2))
def w_X12_loads_51 (K25 : Int32 → Int32 → Int32 → Int32 → Hp → Prop) (Q : Hp → Prop) (a1 : Int32) (a2 : Int32) (a3 : Int32) (a4 : Int32) (s1 : Int32) (s2 : Int32) (h : Hp) : Prop := w_X12_loads_61 K25 Q (a1) (a2) (a3) (a4) (s1) (s2) (h)
def w_X12_loads_44 (K25 : Int32 → Int32 → Int32 → Int32 → Hp → Prop) (Q : Hp → Prop) (a1 : Int32) (a2 : Int32) (a3 : Int32) (a4 : Int32) (s1 : Int32) (h : Hp) : Prop := wp_X12_wantsOut (a4) (a3) (h) (fun r2 h2 => w_X12_loads_51 K25 Q (a1) (a2) (a3) (a4) (s1) (r2) (h2))
def w_X12_loads_34 (K25 : Int32 → Int32 → Int32 → Int32 → Hp → Prop) (Q : Hp → Prop) (a1 : Int32) (a2 : Int32) (a3 : Int32) (a4 : Int32) (h : Hp) : Prop := ((a2) = 0 → w_X12_loads_54 K25 Q (a1) (a2) (a3) (a4) (a4) (h)) ∧ (¬ (a2) = 0 → w_X12_loads_44 K25 Q (a1) (a2) (a3) (a4) (a4) (h))
def w_X12_loads_25 (Q : Hp → Prop) : Nat → Int32 → Int32 → Int32 → Int32 → Hp → Prop
  | 0 => fun _ _ _ _ _ => False
  | N + 1 => fun a1 a2 a3 a4 h => ((gI (h) 12 (0) (41)) ≤ (a4) → w_X12_loads_68  Q (a1) (a2) (a3) (a4) (h)) ∧ (¬ (gI (h) 12 (0) (41)) ≤ (a4) → w_X12_loads_34 (w_X12_loads_25  Q N) Q (a1) (a2) (a3) (a4) (h))
def w_X12_loads_14 (Q : Hp → Prop) (a1 : Int32) (s0 : Int32) (h : Hp) : Prop := vp_in (a1) 6 ∧ (∃ N, w_X12_loads_25  Q N (a1) (s0) (gI (h) 131 (0) (tN (a1))) ((0 : Int32)) (h))
def w_X12_loads_13 (Q : Hp → Prop) (a1 : Int32) (h : Hp) : Prop := w_X12_loads_14  Q (a1) ((0 : Int32)) (h)
def w_X12_loads_9 (Q : Hp → Prop) (a1 : Int32) (h : Hp) : Prop := w_X12_loads_14  Q (a1) ((1 : Int32)) (h)
def w_X12_loads_0 (Q : Hp → Prop) (a1 : Int32) (h : Hp) : Prop := vp_in (a1) 6 ∧ ((¬ (gI (h) 133 (0) (tN (a1))) = 0 → w_X12_loads_13  Q (a1) (h)) ∧ ((gI (h) 133 (0) (tN (a1))) = 0 → w_X12_loads_9  Q (a1) (h)))
theorem s_X12_loads_20295 {E : EnvT} {d : Nat} (cx : CX E "ShoreDayModel" cX12_loads 7 none "loads" (d + 4) 0 0) (hY : eY E = lay1) {Q : Hp → Prop} (eq : EQ E 0 0 (fun r h2 => r = [] ∧ Q h2)) {a1 : Int32} {a2 : Int32} {a3 : Int32} {a5 : Int32} {a6 : Int32} {h : Hp} {c n : Nat} (hc : c + 0 ≤ 0) (hn : n + 0 ≤ 0) (w : w_X12_loads_20295  Q a1 a2 a3 a5 a6 h) : SW E 295 ([some (vP (some (12, 0))), some (vI (a1)), some (vI (a2)), some (vI (a3)), some (vP (some (154, 0))), some (vI (a5)), some (vI (a6))], [], h, c, n) := by
  exact k_X12_loads_s_295 cx hY eq (by omega) (by omega) ⟨rfl, w⟩
theorem s_X12_loads_20282 {E : EnvT} {d : Nat} (cx : CX E "ShoreDayModel" cX12_loads 7 none "loads" (d + 4) 0 0) (hY : eY E = lay1) {Q : Hp → Prop} (eq : EQ E 0 0 (fun r h2 => r = [] ∧ Q h2)) {a1 : Int32} {a2 : Int32} {a3 : Int32} {a5 : Int32} {a6 : Int32} {s1 : Int32} {s2 : Int32} {h : Hp} {c n : Nat} (hc : c + 0 ≤ 0) (hn : n + 0 ≤ 0) (w : w_X12_loads_20282  Q a1 a2 a3 a5 a6 s1 s2 h) : SW E 282 ([some (vP (some (12, 0))), some (vI (a1)), some (vI (a2)), some (vI (a3)), some (vP (some (154, 0))), some (vI (a5)), some (vI (a6))], [vI (s2), vI (s1), vP (some (133, 0))], h, c, n) := by
  obtain ⟨G1, G2, G3, w⟩ := w
  refine k_X12_loads_s_282 cx hY G1 G2 G3 ?_
  exact s_X12_loads_20295 cx hY eq  (by omega) (by omega) w
theorem s_X12_loads_20281 {E : EnvT} {d : Nat} (cx : CX E "ShoreDayModel" cX12_loads 7 none "loads" (d + 4) 0 0) (hY : eY E = lay1) {Q : Hp → Prop} (eq : EQ E 0 0 (fun r h2 => r = [] ∧ Q h2)) {a1 : Int32} {a2 : Int32} {a3 : Int32} {a5 : Int32} {a6 : Int32} {s1 : Int32} {h : Hp} {c n : Nat} (hc : c + 0 ≤ 0) (hn : n + 0 ≤ 0) (w : w_X12_loads_20281  Q a1 a2 a3 a5 a6 s1 h) : SW E 281 ([some (vP (some (12, 0))), some (vI (a1)), some (vI (a2)), some (vI (a3)), some (vP (some (154, 0))), some (vI (a5)), some (vI (a6))], [vI (s1), vP (some (133, 0))], h, c, n) := by
  refine k_X12_loads_s_281 cx hY ?_
  exact s_X12_loads_20282 cx hY eq  (by omega) (by omega) w
theorem s_X12_loads_20277 {E : EnvT} {d : Nat} (cx : CX E "ShoreDayModel" cX12_loads 7 none "loads" (d + 4) 0 0) (hY : eY E = lay1) {Q : Hp → Prop} (eq : EQ E 0 0 (fun r h2 => r = [] ∧ Q h2)) {a1 : Int32} {a2 : Int32} {a3 : Int32} {a5 : Int32} {a6 : Int32} {s1 : Int32} {h : Hp} {c n : Nat} (hc : c + 0 ≤ 0) (hn : n + 0 ≤ 0) (w : w_X12_loads_20277  Q a1 a2 a3 a5 a6 s1 h) : SW E 277 ([some (vP (some (12, 0))), some (vI (a1)), some (vI (a2)), some (vI (a3)), some (vP (some (154, 0))), some (vI (a5)), some (vI (a6))], [vI (s1), vP (some (133, 0))], h, c, n) := by
  refine k_X12_loads_s_277 cx hY ?_
  exact s_X12_loads_20282 cx hY eq  (by omega) (by omega) w
theorem s_X12_loads_20268 {E : EnvT} {d : Nat} (cx : CX E "ShoreDayModel" cX12_loads 7 none "loads" (d + 4) 0 0) (hY : eY E = lay1) {Q : Hp → Prop} (eq : EQ E 0 0 (fun r h2 => r = [] ∧ Q h2)) {a1 : Int32} {a2 : Int32} {a3 : Int32} {a5 : Int32} {a6 : Int32} {h : Hp} {c n : Nat} (hc : c + 0 ≤ 0) (hn : n + 0 ≤ 0) (w : w_X12_loads_20268  Q a1 a2 a3 a5 a6 h) : SW E 268 ([some (vP (some (12, 0))), some (vI (a1)), some (vI (a2)), some (vI (a3)), some (vP (some (154, 0))), some (vI (a5)), some (vI (a6))], [], h, c, n) := by
  refine k_X12_loads_s_268 cx hY (fun q => ?_) (fun q => ?_)
  · have w := w.1 q
    exact s_X12_loads_20281 cx hY eq  (by omega) (by omega) w
  · have w := w.2 q
    exact s_X12_loads_20277 cx hY eq  (by omega) (by omega) w
theorem s_X12_loads_20263 {E : EnvT} {d : Nat} (cx : CX E "ShoreDayModel" cX12_loads 7 none "loads" (d + 4) 0 0) (hY : eY E = lay1) {Q : Hp → Prop} (eq : EQ E 0 0 (fun r h2 => r = [] ∧ Q h2)) {a1 : Int32} {a2 : Int32} {a3 : Int32} {a5 : Int32} {a6 : Int32} {h : Hp} {c n : Nat} (hc : c + 0 ≤ 0) (hn : n + 0 ≤ 0) (w : w_X12_loads_20263  Q a1 a2 a3 a5 a6 h) : SW E 263 ([some (vP (some (12, 0))), some (vI (a1)), some (vI (a2)), some (vI (a3)), some (vP (some (154, 0))), some (vI (a5)), some (vI (a6))], [], h, c, n) := by
  refine k_X12_loads_s_263 cx hY (fun q => ?_) (fun q => ?_)
  · have w := w.1 q
    exact s_X12_loads_20295 cx hY eq  (by omega) (by omega) w
  · have w := w.2 q
    exact s_X12_loads_20268 cx hY eq  (by omega) (by omega) w
theorem s_X12_loads_20255 {E : EnvT} {d : Nat} (cx : CX E "ShoreDayModel" cX12_loads 7 none "loads" (d + 4) 0 0) (hY : eY E = lay1) {Q : Hp → Prop} (eq : EQ E 0 0 (fun r h2 => r = [] ∧ Q h2)) {K20209 : Int32 → Int32 → Int32 → Int32 → Int32 → Hp → Prop} (hK20209 : ∀ (a1 : Int32) (a2 : Int32) (a3 : Int32) (a5 : Int32) (a6 : Int32) (h : Hp) (c n : Nat), c + 0 ≤ 0 → n + 0 ≤ 0 → K20209 a1 a2 a3 a5 a6 h → SW E 209 ([some (vP (some (12, 0))), some (vI (a1)), some (vI (a2)), some (vI (a3)), some (vP (some (154, 0))), some (vI (a5)), some (vI (a6))], [], h, c, n)) {a1 : Int32} {a2 : Int32} {a3 : Int32} {a5 : Int32} {a6 : Int32} {s0 : Int32} {h : Hp} {c n : Nat} (hc : c + 0 ≤ 0) (hn : n + 0 ≤ 0) (w : w_X12_loads_20255 K20209 Q a1 a2 a3 a5 a6 s0 h) : SW E 255 ([some (vP (some (12, 0))), some (vI (a1)), some (vI (a2)), some (vI (a3)), some (vP (some (154, 0))), some (vI (a5)), some (vI (a6))], [vI (s0)], h, c, n) := by
  refine k_X12_loads_s_255 cx hY ?_
  exact hK20209 _ _ _ _ _ _ _ _ (by omega) (by omega) w
theorem s_X12_loads_20250 {E : EnvT} {d : Nat} (cx : CX E "ShoreDayModel" cX12_loads 7 none "loads" (d + 4) 0 0) (hY : eY E = lay1) {Q : Hp → Prop} (eq : EQ E 0 0 (fun r h2 => r = [] ∧ Q h2)) {K20209 : Int32 → Int32 → Int32 → Int32 → Int32 → Hp → Prop} (hK20209 : ∀ (a1 : Int32) (a2 : Int32) (a3 : Int32) (a5 : Int32) (a6 : Int32) (h : Hp) (c n : Nat), c + 0 ≤ 0 → n + 0 ≤ 0 → K20209 a1 a2 a3 a5 a6 h → SW E 209 ([some (vP (some (12, 0))), some (vI (a1)), some (vI (a2)), some (vI (a3)), some (vP (some (154, 0))), some (vI (a5)), some (vI (a6))], [], h, c, n)) {a1 : Int32} {a2 : Int32} {a3 : Int32} {a5 : Int32} {a6 : Int32} {h : Hp} {c n : Nat} (hc : c + 0 ≤ 0) (hn : n + 0 ≤ 0) (w : w_X12_loads_20250 K20209 Q a1 a2 a3 a5 a6 h) : SW E 250 ([some (vP (some (12, 0))), some (vI (a1)), some (vI (a2)), some (vI (a3)), some (vP (some (154, 0))), some (vI (a5)), some (vI (a6))], [], h, c, n) := by
  refine k_X12_loads_s_250 cx hY ?_
  exact s_X12_loads_20255 cx hY eq hK20209 (by omega) (by omega) w
theorem s_X12_loads_20254 {E : EnvT} {d : Nat} (cx : CX E "ShoreDayModel" cX12_loads 7 none "loads" (d + 4) 0 0) (hY : eY E = lay1) {Q : Hp → Prop} (eq : EQ E 0 0 (fun r h2 => r = [] ∧ Q h2)) {K20209 : Int32 → Int32 → Int32 → Int32 → Int32 → Hp → Prop} (hK20209 : ∀ (a1 : Int32) (a2 : Int32) (a3 : Int32) (a5 : Int32) (a6 : Int32) (h : Hp) (c n : Nat), c + 0 ≤ 0 → n + 0 ≤ 0 → K20209 a1 a2 a3 a5 a6 h → SW E 209 ([some (vP (some (12, 0))), some (vI (a1)), some (vI (a2)), some (vI (a3)), some (vP (some (154, 0))), some (vI (a5)), some (vI (a6))], [], h, c, n)) {a1 : Int32} {a2 : Int32} {a3 : Int32} {a5 : Int32} {a6 : Int32} {h : Hp} {c n : Nat} (hc : c + 0 ≤ 0) (hn : n + 0 ≤ 0) (w : w_X12_loads_20254 K20209 Q a1 a2 a3 a5 a6 h) : SW E 254 ([some (vP (some (12, 0))), some (vI (a1)), some (vI (a2)), some (vI (a3)), some (vP (some (154, 0))), some (vI (a5)), some (vI (a6))], [], h, c, n) := by
  refine k_X12_loads_s_254 cx hY ?_
  exact s_X12_loads_20255 cx hY eq hK20209 (by omega) (by omega) w
theorem s_X12_loads_20247 {E : EnvT} {d : Nat} (cx : CX E "ShoreDayModel" cX12_loads 7 none "loads" (d + 4) 0 0) (hY : eY E = lay1) {Q : Hp → Prop} (eq : EQ E 0 0 (fun r h2 => r = [] ∧ Q h2)) {K20209 : Int32 → Int32 → Int32 → Int32 → Int32 → Hp → Prop} (hK20209 : ∀ (a1 : Int32) (a2 : Int32) (a3 : Int32) (a5 : Int32) (a6 : Int32) (h : Hp) (c n : Nat), c + 0 ≤ 0 → n + 0 ≤ 0 → K20209 a1 a2 a3 a5 a6 h → SW E 209 ([some (vP (some (12, 0))), some (vI (a1)), some (vI (a2)), some (vI (a3)), some (vP (some (154, 0))), some (vI (a5)), some (vI (a6))], [], h, c, n)) {a1 : Int32} {a2 : Int32} {a3 : Int32} {a5 : Int32} {a6 : Int32} {s0 : Int32} {h : Hp} {c n : Nat} (hc : c + 0 ≤ 0) (hn : n + 0 ≤ 0) (w : w_X12_loads_20247 K20209 Q a1 a2 a3 a5 a6 s0 h) : SW E 247 ([some (vP (some (12, 0))), some (vI (a1)), some (vI (a2)), some (vI (a3)), some (vP (some (154, 0))), some (vI (a5)), some (vI (a6))], [vI (s0)], h, c, n) := by
  refine k_X12_loads_s_247 cx hY (fun q => ?_) (fun q => ?_)
  · have w := w.1 q
    exact s_X12_loads_20254 cx hY eq hK20209 (by omega) (by omega) w
  · have w := w.2 q
    exact s_X12_loads_20250 cx hY eq hK20209 (by omega) (by omega) w
theorem s_X12_loads_20240 {E : EnvT} {d : Nat} (cx : CX E "ShoreDayModel" cX12_loads 7 none "loads" (d + 4) 0 0) (hY : eY E = lay1) {Q : Hp → Prop} (eq : EQ E 0 0 (fun r h2 => r = [] ∧ Q h2)) {K20209 : Int32 → Int32 → Int32 → Int32 → Int32 → Hp → Prop} (hK20209 : ∀ (a1 : Int32) (a2 : Int32) (a3 : Int32) (a5 : Int32) (a6 : Int32) (h : Hp) (c n : Nat), c + 0 ≤ 0 → n + 0 ≤ 0 → K20209 a1 a2 a3 a5 a6 h → SW E 209 ([some (vP (some (12, 0))), some (vI (a1)), some (vI (a2)), some (vI (a3)), some (vP (some (154, 0))), some (vI (a5)), some (vI (a6))], [], h, c, n)) {a1 : Int32} {a2 : Int32} {a3 : Int32} {a5 : Int32} {a6 : Int32} {h : Hp} {c n : Nat} (hc : c + 0 ≤ 0) (hn : n + 0 ≤ 0) (w : w_X12_loads_20240 K20209 Q a1 a2 a3 a5 a6 h) : SW E 240 ([some (vP (some (12, 0))), some (vI (a1)), some (vI (a2)), some (vI (a3)), some (vP (some (154, 0))), some (vI (a5)), some (vI (a6))], [], h, c, n) := by
  refine k_X12_loads_s_240 cx hY (ctY hY (vc_X12_wantsOut (d := d + 2) w)) (by omega) (by omega) (by omega) (fun r h2 hp => ?_)
  obtain ⟨r2, rfl, w⟩ := hp
  exact s_X12_loads_20247 cx hY eq hK20209 (by omega) (by omega) w
theorem s_X12_loads_20237 {E : EnvT} {d : Nat} (cx : CX E "ShoreDayModel" cX12_loads 7 none "loads" (d + 4) 0 0) (hY : eY E = lay1) {Q : Hp → Prop} (eq : EQ E 0 0 (fun r h2 => r = [] ∧ Q h2)) {K20209 : Int32 → Int32 → Int32 → Int32 → Int32 → Hp → Prop} (hK20209 : ∀ (a1 : Int32) (a2 : Int32) (a3 : Int32) (a5 : Int32) (a6 : Int32) (h : Hp) (c n : Nat), c + 0 ≤ 0 → n + 0 ≤ 0 → K20209 a1 a2 a3 a5 a6 h → SW E 209 ([some (vP (some (12, 0))), some (vI (a1)), some (vI (a2)), some (vI (a3)), some (vP (some (154, 0))), some (vI (a5)), some (vI (a6))], [], h, c, n)) {a1 : Int32} {a2 : Int32} {a3 : Int32} {a5 : Int32} {a6 : Int32} {h : Hp} {c n : Nat} (hc : c + 0 ≤ 0) (hn : n + 0 ≤ 0) (w : w_X12_loads_20237 K20209 Q a1 a2 a3 a5 a6 h) : SW E 237 ([some (vP (some (12, 0))), some (vI (a1)), some (vI (a2)), some (vI (a3)), some (vP (some (154, 0))), some (vI (a5)), some (vI (a6))], [], h, c, n) := by
  refine k_X12_loads_s_237 cx hY ?_
  exact s_X12_loads_20250 cx hY eq hK20209 (by omega) (by omega) w
theorem s_X12_loads_20234 {E : EnvT} {d : Nat} (cx : CX E "ShoreDayModel" cX12_loads 7 none "loads" (d + 4) 0 0) (hY : eY E = lay1) {Q : Hp → Prop} (eq : EQ E 0 0 (fun r h2 => r = [] ∧ Q h2)) {K20209 : Int32 → Int32 → Int32 → Int32 → Int32 → Hp → Prop} (hK20209 : ∀ (a1 : Int32) (a2 : Int32) (a3 : Int32) (a5 : Int32) (a6 : Int32) (h : Hp) (c n : Nat), c + 0 ≤ 0 → n + 0 ≤ 0 → K20209 a1 a2 a3 a5 a6 h → SW E 209 ([some (vP (some (12, 0))), some (vI (a1)), some (vI (a2)), some (vI (a3)), some (vP (some (154, 0))), some (vI (a5)), some (vI (a6))], [], h, c, n)) {a1 : Int32} {a2 : Int32} {a3 : Int32} {a5 : Int32} {a6 : Int32} {s0 : Int32} {h : Hp} {c n : Nat} (hc : c + 0 ≤ 0) (hn : n + 0 ≤ 0) (w : w_X12_loads_20234 K20209 Q a1 a2 a3 a5 a6 s0 h) : SW E 234 ([some (vP (some (12, 0))), some (vI (a1)), some (vI (a2)), some (vI (a3)), some (vP (some (154, 0))), some (vI (a5)), some (vI (a6))], [vI (s0)], h, c, n) := by
  refine k_X12_loads_s_234 cx hY (fun q => ?_) (fun q => ?_)
  · have w := w.1 q
    exact s_X12_loads_20254 cx hY eq hK20209 (by omega) (by omega) w
  · have w := w.2 q
    exact s_X12_loads_20237 cx hY eq hK20209 (by omega) (by omega) w
theorem s_X12_loads_20227 {E : EnvT} {d : Nat} (cx : CX E "ShoreDayModel" cX12_loads 7 none "loads" (d + 4) 0 0) (hY : eY E = lay1) {Q : Hp → Prop} (eq : EQ E 0 0 (fun r h2 => r = [] ∧ Q h2)) {K20209 : Int32 → Int32 → Int32 → Int32 → Int32 → Hp → Prop} (hK20209 : ∀ (a1 : Int32) (a2 : Int32) (a3 : Int32) (a5 : Int32) (a6 : Int32) (h : Hp) (c n : Nat), c + 0 ≤ 0 → n + 0 ≤ 0 → K20209 a1 a2 a3 a5 a6 h → SW E 209 ([some (vP (some (12, 0))), some (vI (a1)), some (vI (a2)), some (vI (a3)), some (vP (some (154, 0))), some (vI (a5)), some (vI (a6))], [], h, c, n)) {a1 : Int32} {a2 : Int32} {a3 : Int32} {a5 : Int32} {a6 : Int32} {h : Hp} {c n : Nat} (hc : c + 0 ≤ 0) (hn : n + 0 ≤ 0) (w : w_X12_loads_20227 K20209 Q a1 a2 a3 a5 a6 h) : SW E 227 ([some (vP (some (12, 0))), some (vI (a1)), some (vI (a2)), some (vI (a3)), some (vP (some (154, 0))), some (vI (a5)), some (vI (a6))], [], h, c, n) := by
  refine k_X12_loads_s_227 cx hY (ctY hY (vc_X12_wantsHome (d := d + 2) w)) (by omega) (by omega) (by omega) (fun r h2 hp => ?_)
  obtain ⟨r2, rfl, w⟩ := hp
  exact s_X12_loads_20234 cx hY eq hK20209 (by omega) (by omega) w
theorem s_X12_loads_20223 {E : EnvT} {d : Nat} (cx : CX E "ShoreDayModel" cX12_loads 7 none "loads" (d + 4) 0 0) (hY : eY E = lay1) {Q : Hp → Prop} (eq : EQ E 0 0 (fun r h2 => r = [] ∧ Q h2)) {K20209 : Int32 → Int32 → Int32 → Int32 → Int32 → Hp → Prop} (hK20209 : ∀ (a1 : Int32) (a2 : Int32) (a3 : Int32) (a5 : Int32) (a6 : Int32) (h : Hp) (c n : Nat), c + 0 ≤ 0 → n + 0 ≤ 0 → K20209 a1 a2 a3 a5 a6 h → SW E 209 ([some (vP (some (12, 0))), some (vI (a1)), some (vI (a2)), some (vI (a3)), some (vP (some (154, 0))), some (vI (a5)), some (vI (a6))], [], h, c, n)) {a1 : Int32} {a2 : Int32} {a3 : Int32} {a5 : Int32} {a6 : Int32} {h : Hp} {c n : Nat} (hc : c + 0 ≤ 0) (hn : n + 0 ≤ 0) (w : w_X12_loads_20223 K20209 Q a1 a2 a3 a5 a6 h) : SW E 223 ([some (vP (some (12, 0))), some (vI (a1)), some (vI (a2)), some (vI (a3)), some (vP (some (154, 0))), some (vI (a5)), some (vI (a6))], [], h, c, n) := by
  refine k_X12_loads_s_223 cx hY (fun q => ?_) (fun q => ?_)
  · have w := w.1 q
    exact s_X12_loads_20240 cx hY eq hK20209 (by omega) (by omega) w
  · have w := w.2 q
    exact s_X12_loads_20227 cx hY eq hK20209 (by omega) (by omega) w
theorem s_X12_loads_20218 {E : EnvT} {d : Nat} (cx : CX E "ShoreDayModel" cX12_loads 7 none "loads" (d + 4) 0 0) (hY : eY E = lay1) {Q : Hp → Prop} (eq : EQ E 0 0 (fun r h2 => r = [] ∧ Q h2)) {K20209 : Int32 → Int32 → Int32 → Int32 → Int32 → Hp → Prop} (hK20209 : ∀ (a1 : Int32) (a2 : Int32) (a3 : Int32) (a5 : Int32) (a6 : Int32) (h : Hp) (c n : Nat), c + 0 ≤ 0 → n + 0 ≤ 0 → K20209 a1 a2 a3 a5 a6 h → SW E 209 ([some (vP (some (12, 0))), some (vI (a1)), some (vI (a2)), some (vI (a3)), some (vP (some (154, 0))), some (vI (a5)), some (vI (a6))], [], h, c, n)) {a1 : Int32} {a2 : Int32} {a3 : Int32} {a5 : Int32} {a6 : Int32} {h : Hp} {c n : Nat} (hc : c + 0 ≤ 0) (hn : n + 0 ≤ 0) (w : w_X12_loads_20218 K20209 Q a1 a2 a3 a5 a6 h) : SW E 218 ([some (vP (some (12, 0))), some (vI (a1)), some (vI (a2)), some (vI (a3)), some (vP (some (154, 0))), some (vI (a5)), some (vI (a6))], [], h, c, n) := by
  refine k_X12_loads_s_218 cx hY (fun q => ?_) (fun q => ?_)
  · have w := w.1 q
    exact s_X12_loads_20250 cx hY eq hK20209 (by omega) (by omega) w
  · have w := w.2 q
    exact s_X12_loads_20223 cx hY eq hK20209 (by omega) (by omega) w
theorem s_X12_loads_20209 {E : EnvT} {d : Nat} (cx : CX E "ShoreDayModel" cX12_loads 7 none "loads" (d + 4) 0 0) (hY : eY E = lay1) {Q : Hp → Prop} (eq : EQ E 0 0 (fun r h2 => r = [] ∧ Q h2)) : ∀ (N : Nat) (a1 : Int32) (a2 : Int32) (a3 : Int32) (a5 : Int32) (a6 : Int32) (h : Hp) (c n : Nat), c + 0 ≤ 0 → n + 0 ≤ 0 → w_X12_loads_20209  Q N a1 a2 a3 a5 a6 h → SW E 209 ([some (vP (some (12, 0))), some (vI (a1)), some (vI (a2)), some (vI (a3)), some (vP (some (154, 0))), some (vI (a5)), some (vI (a6))], [], h, c, n) := by
  intro N
  induction N with
  | zero =>
    intro _ _ _ _ _ h c n _ _ w
    exact w.elim
  | succ N ih =>
    intro a1 a2 a3 a5 a6 h c n hc hn w
    refine k_X12_loads_s_209 cx hY (fun q => ?_) (fun q => ?_)
    · have w := w.1 q
      exact s_X12_loads_20263 cx hY eq  (by omega) (by omega) w
    · have w := w.2 q
      exact s_X12_loads_20218 cx hY eq ih (by omega) (by omega) w
theorem s_X12_loads_20204 {E : EnvT} {d : Nat} (cx : CX E "ShoreDayModel" cX12_loads 7 none "loads" (d + 4) 0 0) (hY : eY E = lay1) {Q : Hp → Prop} (eq : EQ E 0 0 (fun r h2 => r = [] ∧ Q h2)) {a1 : Int32} {a2 : Int32} {a3 : Int32} {a5 : Int32} {x6 : Option AVal} {s0 : Int32} {h : Hp} {c n : Nat} (hc : c + 0 ≤ 0) (hn : n + 0 ≤ 0) (w : w_X12_loads_20204  Q a1 a2 a3 a5 s0 h) : SW E 204 ([some (vP (some (12, 0))), some (vI (a1)), some (vI (a2)), some (vI (a3)), some (vP (some (154, 0))), some (vI (a5)), x6], [vI (s0)], h, c, n) := by
  refine k_X12_loads_s_204 cx hY ?_
  obtain ⟨N1, w⟩ := w
  exact s_X12_loads_20209 cx hY eq  _ _ _ _ _ _ _ _ _ (by omega) (by omega) w
theorem s_X12_loads_20203 {E : EnvT} {d : Nat} (cx : CX E "ShoreDayModel" cX12_loads 7 none "loads" (d + 4) 0 0) (hY : eY E = lay1) {Q : Hp → Prop} (eq : EQ E 0 0 (fun r h2 => r = [] ∧ Q h2)) {a1 : Int32} {a2 : Int32} {a3 : Int32} {a5 : Int32} {x6 : Option AVal} {h : Hp} {c n : Nat} (hc : c + 0 ≤ 0) (hn : n + 0 ≤ 0) (w : w_X12_loads_20203  Q a1 a2 a3 a5 h) : SW E 203 ([some (vP (some (12, 0))), some (vI (a1)), some (vI (a2)), some (vI (a3)), some (vP (some (154, 0))), some (vI (a5)), x6], [], h, c, n) := by
  refine k_X12_loads_s_203 cx hY ?_
  exact s_X12_loads_20204 cx hY eq  (by omega) (by omega) w
theorem s_X12_loads_20199 {E : EnvT} {d : Nat} (cx : CX E "ShoreDayModel" cX12_loads 7 none "loads" (d + 4) 0 0) (hY : eY E = lay1) {Q : Hp → Prop} (eq : EQ E 0 0 (fun r h2 => r = [] ∧ Q h2)) {a1 : Int32} {a2 : Int32} {a3 : Int32} {a5 : Int32} {x6 : Option AVal} {h : Hp} {c n : Nat} (hc : c + 0 ≤ 0) (hn : n + 0 ≤ 0) (w : w_X12_loads_20199  Q a1 a2 a3 a5 h) : SW E 199 ([some (vP (some (12, 0))), some (vI (a1)), some (vI (a2)), some (vI (a3)), some (vP (some (154, 0))), some (vI (a5)), x6], [], h, c, n) := by
  refine k_X12_loads_s_199 cx hY ?_
  exact s_X12_loads_20204 cx hY eq  (by omega) (by omega) w
theorem s_X12_loads_20196 {E : EnvT} {d : Nat} (cx : CX E "ShoreDayModel" cX12_loads 7 none "loads" (d + 4) 0 0) (hY : eY E = lay1) {Q : Hp → Prop} (eq : EQ E 0 0 (fun r h2 => r = [] ∧ Q h2)) {a1 : Int32} {a2 : Int32} {a3 : Int32} {a5 : Int32} {x6 : Option AVal} {s0 : Int32} {h : Hp} {c n : Nat} (hc : c + 0 ≤ 0) (hn : n + 0 ≤ 0) (w : w_X12_loads_20196  Q a1 a2 a3 a5 s0 h) : SW E 196 ([some (vP (some (12, 0))), some (vI (a1)), some (vI (a2)), some (vI (a3)), some (vP (some (154, 0))), some (vI (a5)), x6], [vI (s0)], h, c, n) := by
  refine k_X12_loads_s_196 cx hY (fun q => ?_) (fun q => ?_)
  · have w := w.1 q
    exact s_X12_loads_20203 cx hY eq  (by omega) (by omega) w
  · have w := w.2 q
    exact s_X12_loads_20199 cx hY eq  (by omega) (by omega) w
theorem s_X12_loads_20191 {E : EnvT} {d : Nat} (cx : CX E "ShoreDayModel" cX12_loads 7 none "loads" (d + 4) 0 0) (hY : eY E = lay1) {Q : Hp → Prop} (eq : EQ E 0 0 (fun r h2 => r = [] ∧ Q h2)) {a1 : Int32} {a2 : Int32} {a3 : Int32} {a5 : Int32} {x6 : Option AVal} {h : Hp} {c n : Nat} (hc : c + 0 ≤ 0) (hn : n + 0 ≤ 0) (w : w_X12_loads_20191  Q a1 a2 a3 a5 h) : SW E 191 ([some (vP (some (12, 0))), some (vI (a1)), some (vI (a2)), some (vI (a3)), some (vP (some (154, 0))), some (vI (a5)), x6], [], h, c, n) := by
  refine k_X12_loads_s_191 cx hY (ctY hY (vc_X12_guestsIn (d := d + 2) w)) (by omega) (by omega) (by omega) (fun r h2 hp => ?_)
  obtain ⟨r2, rfl, w⟩ := hp
  exact s_X12_loads_20196 cx hY eq  (by omega) (by omega) w
theorem s_X12_loads_20186 {E : EnvT} {d : Nat} (cx : CX E "ShoreDayModel" cX12_loads 7 none "loads" (d + 4) 0 0) (hY : eY E = lay1) {Q : Hp → Prop} (eq : EQ E 0 0 (fun r h2 => r = [] ∧ Q h2)) {K20093 : Int32 → Int32 → Int32 → Int32 → Hp → Prop} (hK20093 : ∀ (a1 : Int32) (a2 : Int32) (a3 : Int32) (a5 : Int32) (x6 : Option AVal) (h : Hp) (c n : Nat), c + 0 ≤ 0 → n + 0 ≤ 0 → K20093 a1 a2 a3 a5 h → SW E 93 ([some (vP (some (12, 0))), some (vI (a1)), some (vI (a2)), some (vI (a3)), some (vP (some (154, 0))), some (vI (a5)), x6], [], h, c, n)) {a1 : Int32} {a2 : Int32} {a3 : Int32} {a5 : Int32} {a6 : Int32} {s0 : Int32} {h : Hp} {c n : Nat} (hc : c + 0 ≤ 0) (hn : n + 0 ≤ 0) (w : w_X12_loads_20186 K20093 Q a1 a2 a3 a5 a6 s0 h) : SW E 186 ([some (vP (some (12, 0))), some (vI (a1)), some (vI (a2)), some (vI (a3)), some (vP (some (154, 0))), some (vI (a5)), some (vI (a6))], [vI (s0)], h, c, n) := by
  refine k_X12_loads_s_186 cx hY ?_
  exact hK20093 _ _ _ _ _ _ _ _ (by omega) (by omega) w
theorem s_X12_loads_20180 {E : EnvT} {d : Nat} (cx : CX E "ShoreDayModel" cX12_loads 7 none "loads" (d + 4) 0 0) (hY : eY E = lay1) {Q : Hp → Prop} (eq : EQ E 0 0 (fun r h2 => r = [] ∧ Q h2)) {K20093 : Int32 → Int32 → Int32 → Int32 → Hp → Prop} (hK20093 : ∀ (a1 : Int32) (a2 : Int32) (a3 : Int32) (a5 : Int32) (x6 : Option AVal) (h : Hp) (c n : Nat), c + 0 ≤ 0 → n + 0 ≤ 0 → K20093 a1 a2 a3 a5 h → SW E 93 ([some (vP (some (12, 0))), some (vI (a1)), some (vI (a2)), some (vI (a3)), some (vP (some (154, 0))), some (vI (a5)), x6], [], h, c, n)) {a1 : Int32} {a2 : Int32} {a3 : Int32} {a5 : Int32} {a6 : Int32} {h : Hp} {c n : Nat} (hc : c + 0 ≤ 0) (hn : n + 0 ≤ 0) (w : w_X12_loads_20180 K20093 Q a1 a2 a3 a5 a6 h) : SW E 180 ([some (vP (some (12, 0))), some (vI (a1)), some (vI (a2)), some (vI (a3)), some (vP (some (154, 0))), some (vI (a5)), some (vI (a6))], [], h, c, n) := by
  refine k_X12_loads_s_180 cx hY (ctY hY (vc_X12_nextBy_s (d := d + 2) w)) (by omega) (by omega) (by omega) (fun r h2 hp => ?_)
  obtain ⟨r2, rfl, w⟩ := hp
  exact s_X12_loads_20186 cx hY eq hK20093 (by omega) (by omega) w
theorem s_X12_loads_20156 {E : EnvT} {d : Nat} (cx : CX E "ShoreDayModel" cX12_loads 7 none "loads" (d + 4) 0 0) (hY : eY E = lay1) {Q : Hp → Prop} (eq : EQ E 0 0 (fun r h2 => r = [] ∧ Q h2)) {K20093 : Int32 → Int32 → Int32 → Int32 → Hp → Prop} (hK20093 : ∀ (a1 : Int32) (a2 : Int32) (a3 : Int32) (a5 : Int32) (x6 : Option AVal) (h : Hp) (c n : Nat), c + 0 ≤ 0 → n + 0 ≤ 0 → K20093 a1 a2 a3 a5 h → SW E 93 ([some (vP (some (12, 0))), some (vI (a1)), some (vI (a2)), some (vI (a3)), some (vP (some (154, 0))), some (vI (a5)), x6], [], h, c, n)) {a1 : Int32} {a2 : Int32} {a3 : Int32} {a5 : Int32} {a6 : Int32} {h : Hp} {c n : Nat} (hc : c + 0 ≤ 0) (hn : n + 0 ≤ 0) (w : w_X12_loads_20156 K20093 Q a1 a2 a3 a5 a6 h) : SW E 156 ([some (vP (some (12, 0))), some (vI (a1)), some (vI (a2)), some (vI (a3)), some (vP (some (154, 0))), some (vI (a5)), some (vI (a6))], [], h, c, n) := by
  obtain ⟨G1, G2, G3, w⟩ := w
  refine k_X12_loads_s_156 cx hY G1 G2 G3 ?_
  exact s_X12_loads_20180 cx hY eq hK20093 (by omega) (by omega) w
theorem s_X12_loads_20141 {E : EnvT} {d : Nat} (cx : CX E "ShoreDayModel" cX12_loads 7 none "loads" (d + 4) 0 0) (hY : eY E = lay1) {Q : Hp → Prop} (eq : EQ E 0 0 (fun r h2 => r = [] ∧ Q h2)) {K20093 : Int32 → Int32 → Int32 → Int32 → Hp → Prop} (hK20093 : ∀ (a1 : Int32) (a2 : Int32) (a3 : Int32) (a5 : Int32) (x6 : Option AVal) (h : Hp) (c n : Nat), c + 0 ≤ 0 → n + 0 ≤ 0 → K20093 a1 a2 a3 a5 h → SW E 93 ([some (vP (some (12, 0))), some (vI (a1)), some (vI (a2)), some (vI (a3)), some (vP (some (154, 0))), some (vI (a5)), x6], [], h, c, n)) {a1 : Int32} {a2 : Int32} {a3 : Int32} {a5 : Int32} {a6 : Int32} {s0 : Int32} {h : Hp} {c n : Nat} (hc : c + 0 ≤ 0) (hn : n + 0 ≤ 0) (w : w_X12_loads_20141 K20093 Q a1 a2 a3 a5 a6 s0 h) : SW E 141 ([some (vP (some (12, 0))), some (vI (a1)), some (vI (a2)), some (vI (a3)), some (vP (some (154, 0))), some (vI (a5)), some (vI (a6))], [vI (s0)], h, c, n) := by
  obtain ⟨G1, w⟩ := w
  refine k_X12_loads_s_141 cx hY G1 (fun q => ?_) (fun q => ?_)
  · have w := w.1 q
    exact s_X12_loads_20180 cx hY eq hK20093 (by omega) (by omega) w
  · have w := w.2 q
    exact s_X12_loads_20156 cx hY eq hK20093 (by omega) (by omega) w
theorem s_X12_loads_20136 {E : EnvT} {d : Nat} (cx : CX E "ShoreDayModel" cX12_loads 7 none "loads" (d + 4) 0 0) (hY : eY E = lay1) {Q : Hp → Prop} (eq : EQ E 0 0 (fun r h2 => r = [] ∧ Q h2)) {K20093 : Int32 → Int32 → Int32 → Int32 → Hp → Prop} (hK20093 : ∀ (a1 : Int32) (a2 : Int32) (a3 : Int32) (a5 : Int32) (x6 : Option AVal) (h : Hp) (c n : Nat), c + 0 ≤ 0 → n + 0 ≤ 0 → K20093 a1 a2 a3 a5 h → SW E 93 ([some (vP (some (12, 0))), some (vI (a1)), some (vI (a2)), some (vI (a3)), some (vP (some (154, 0))), some (vI (a5)), x6], [], h, c, n)) {a1 : Int32} {a2 : Int32} {a3 : Int32} {a5 : Int32} {a6 : Int32} {h : Hp} {c n : Nat} (hc : c + 0 ≤ 0) (hn : n + 0 ≤ 0) (w : w_X12_loads_20136 K20093 Q a1 a2 a3 a5 a6 h) : SW E 136 ([some (vP (some (12, 0))), some (vI (a1)), some (vI (a2)), some (vI (a3)), some (vP (some (154, 0))), some (vI (a5)), some (vI (a6))], [], h, c, n) := by
  refine k_X12_loads_s_136 cx hY (ctY hY (vc_X12_coming (d := d + 0) w)) (by omega) (by omega) (by omega) (fun r h2 hp => ?_)
  obtain ⟨r2, rfl, w⟩ := hp
  exact s_X12_loads_20141 cx hY eq hK20093 (by omega) (by omega) w
theorem s_X12_loads_20132 {E : EnvT} {d : Nat} (cx : CX E "ShoreDayModel" cX12_loads 7 none "loads" (d + 4) 0 0) (hY : eY E = lay1) {Q : Hp → Prop} (eq : EQ E 0 0 (fun r h2 => r = [] ∧ Q h2)) {K20093 : Int32 → Int32 → Int32 → Int32 → Hp → Prop} (hK20093 : ∀ (a1 : Int32) (a2 : Int32) (a3 : Int32) (a5 : Int32) (x6 : Option AVal) (h : Hp) (c n : Nat), c + 0 ≤ 0 → n + 0 ≤ 0 → K20093 a1 a2 a3 a5 h → SW E 93 ([some (vP (some (12, 0))), some (vI (a1)), some (vI (a2)), some (vI (a3)), some (vP (some (154, 0))), some (vI (a5)), x6], [], h, c, n)) {a1 : Int32} {a2 : Int32} {a3 : Int32} {a5 : Int32} {a6 : Int32} {h : Hp} {c n : Nat} (hc : c + 0 ≤ 0) (hn : n + 0 ≤ 0) (w : w_X12_loads_20132 K20093 Q a1 a2 a3 a5 a6 h) : SW E 132 ([some (vP (some (12, 0))), some (vI (a1)), some (vI (a2)), some (vI (a3)), some (vP (some (154, 0))), some (vI (a5)), some (vI (a6))], [], h, c, n) := by
  refine k_X12_loads_s_132 cx hY (fun q => ?_) (fun q => ?_)
  · have w := w.1 q
    exact s_X12_loads_20156 cx hY eq hK20093 (by omega) (by omega) w
  · have w := w.2 q
    exact s_X12_loads_20136 cx hY eq hK20093 (by omega) (by omega) w
theorem s_X12_loads_20125 {E : EnvT} {d : Nat} (cx : CX E "ShoreDayModel" cX12_loads 7 none "loads" (d + 4) 0 0) (hY : eY E = lay1) {Q : Hp → Prop} (eq : EQ E 0 0 (fun r h2 => r = [] ∧ Q h2)) {K20093 : Int32 → Int32 → Int32 → Int32 → Hp → Prop} (hK20093 : ∀ (a1 : Int32) (a2 : Int32) (a3 : Int32) (a5 : Int32) (x6 : Option AVal) (h : Hp) (c n : Nat), c + 0 ≤ 0 → n + 0 ≤ 0 → K20093 a1 a2 a3 a5 h → SW E 93 ([some (vP (some (12, 0))), some (vI (a1)), some (vI (a2)), some (vI (a3)), some (vP (some (154, 0))), some (vI (a5)), x6], [], h, c, n)) {a1 : Int32} {a2 : Int32} {a3 : Int32} {a5 : Int32} {x6 : Option AVal} {s0 : Int32} {h : Hp} {c n : Nat} (hc : c + 0 ≤ 0) (hn : n + 0 ≤ 0) (w : w_X12_loads_20125 K20093 Q a1 a2 a3 a5 s0 h) : SW E 125 ([some (vP (some (12, 0))), some (vI (a1)), some (vI (a2)), some (vI (a3)), some (vP (some (154, 0))), some (vI (a5)), x6], [vI (s0)], h, c, n) := by
  refine k_X12_loads_s_125 cx hY (fun q => ?_) (fun q => ?_)
  · have w := w.1 q
    exact s_X12_loads_20180 cx hY eq hK20093 (by omega) (by omega) w
  · have w := w.2 q
    exact s_X12_loads_20132 cx hY eq hK20093 (by omega) (by omega) w
theorem s_X12_loads_20124 {E : EnvT} {d : Nat} (cx : CX E "ShoreDayModel" cX12_loads 7 none "loads" (d + 4) 0 0) (hY : eY E = lay1) {Q : Hp → Prop} (eq : EQ E 0 0 (fun r h2 => r = [] ∧ Q h2)) {K20093 : Int32 → Int32 → Int32 → Int32 → Hp → Prop} (hK20093 : ∀ (a1 : Int32) (a2 : Int32) (a3 : Int32) (a5 : Int32) (x6 : Option AVal) (h : Hp) (c n : Nat), c + 0 ≤ 0 → n + 0 ≤ 0 → K20093 a1 a2 a3 a5 h → SW E 93 ([some (vP (some (12, 0))), some (vI (a1)), some (vI (a2)), some (vI (a3)), some (vP (some (154, 0))), some (vI (a5)), x6], [], h, c, n)) {a1 : Int32} {a2 : Int32} {a3 : Int32} {a5 : Int32} {x6 : Option AVal} {h : Hp} {c n : Nat} (hc : c + 0 ≤ 0) (hn : n + 0 ≤ 0) (w : w_X12_loads_20124 K20093 Q a1 a2 a3 a5 h) : SW E 124 ([some (vP (some (12, 0))), some (vI (a1)), some (vI (a2)), some (vI (a3)), some (vP (some (154, 0))), some (vI (a5)), x6], [], h, c, n) := by
  refine k_X12_loads_s_124 cx hY ?_
  exact s_X12_loads_20125 cx hY eq hK20093 (by omega) (by omega) w
theorem s_X12_loads_20120 {E : EnvT} {d : Nat} (cx : CX E "ShoreDayModel" cX12_loads 7 none "loads" (d + 4) 0 0) (hY : eY E = lay1) {Q : Hp → Prop} (eq : EQ E 0 0 (fun r h2 => r = [] ∧ Q h2)) {K20093 : Int32 → Int32 → Int32 → Int32 → Hp → Prop} (hK20093 : ∀ (a1 : Int32) (a2 : Int32) (a3 : Int32) (a5 : Int32) (x6 : Option AVal) (h : Hp) (c n : Nat), c + 0 ≤ 0 → n + 0 ≤ 0 → K20093 a1 a2 a3 a5 h → SW E 93 ([some (vP (some (12, 0))), some (vI (a1)), some (vI (a2)), some (vI (a3)), some (vP (some (154, 0))), some (vI (a5)), x6], [], h, c, n)) {a1 : Int32} {a2 : Int32} {a3 : Int32} {a5 : Int32} {x6 : Option AVal} {h : Hp} {c n : Nat} (hc : c + 0 ≤ 0) (hn : n + 0 ≤ 0) (w : w_X12_loads_20120 K20093 Q a1 a2 a3 a5 h) : SW E 120 ([some (vP (some (12, 0))), some (vI (a1)), some (vI (a2)), some (vI (a3)), some (vP (some (154, 0))), some (vI (a5)), x6], [], h, c, n) := by
  refine k_X12_loads_s_120 cx hY ?_
  exact s_X12_loads_20125 cx hY eq hK20093 (by omega) (by omega) w
theorem s_X12_loads_20116 {E : EnvT} {d : Nat} (cx : CX E "ShoreDayModel" cX12_loads 7 none "loads" (d + 4) 0 0) (hY : eY E = lay1) {Q : Hp → Prop} (eq : EQ E 0 0 (fun r h2 => r = [] ∧ Q h2)) {K20093 : Int32 → Int32 → Int32 → Int32 → Hp → Prop} (hK20093 : ∀ (a1 : Int32) (a2 : Int32) (a3 : Int32) (a5 : Int32) (x6 : Option AVal) (h : Hp) (c n : Nat), c + 0 ≤ 0 → n + 0 ≤ 0 → K20093 a1 a2 a3 a5 h → SW E 93 ([some (vP (some (12, 0))), some (vI (a1)), some (vI (a2)), some (vI (a3)), some (vP (some (154, 0))), some (vI (a5)), x6], [], h, c, n)) {a1 : Int32} {a2 : Int32} {a3 : Int32} {a5 : Int32} {x6 : Option AVal} {s0 : Int32} {s1 : Int32} {s2 : Int32} {h : Hp} {c n : Nat} (hc : c + 0 ≤ 0) (hn : n + 0 ≤ 0) (w : w_X12_loads_20116 K20093 Q a1 a2 a3 a5 s0 s1 s2 h) : SW E 116 ([some (vP (some (12, 0))), some (vI (a1)), some (vI (a2)), some (vI (a3)), some (vP (some (154, 0))), some (vI (a5)), x6], [vI (s2), vI (s1), vI (s0)], h, c, n) := by
  refine k_X12_loads_s_116 cx hY (fun q => ?_) (fun q => ?_)
  · have w := w.1 q
    exact s_X12_loads_20124 cx hY eq hK20093 (by omega) (by omega) w
  · have w := w.2 q
    exact s_X12_loads_20120 cx hY eq hK20093 (by omega) (by omega) w
theorem s_X12_loads_20098 {E : EnvT} {d : Nat} (cx : CX E "ShoreDayModel" cX12_loads 7 none "loads" (d + 4) 0 0) (hY : eY E = lay1) {Q : Hp → Prop} (eq : EQ E 0 0 (fun r h2 => r = [] ∧ Q h2)) {K20093 : Int32 → Int32 → Int32 → Int32 → Hp → Prop} (hK20093 : ∀ (a1 : Int32) (a2 : Int32) (a3 : Int32) (a5 : Int32) (x6 : Option AVal) (h : Hp) (c n : Nat), c + 0 ≤ 0 → n + 0 ≤ 0 → K20093 a1 a2 a3 a5 h → SW E 93 ([some (vP (some (12, 0))), some (vI (a1)), some (vI (a2)), some (vI (a3)), some (vP (some (154, 0))), some (vI (a5)), x6], [], h, c, n)) {a1 : Int32} {a2 : Int32} {a3 : Int32} {a5 : Int32} {x6 : Option AVal} {h : Hp} {c n : Nat} (hc : c + 0 ≤ 0) (hn : n + 0 ≤ 0) (w : w_X12_loads_20098 K20093 Q a1 a2 a3 a5 h) : SW E 98 ([some (vP (some (12, 0))), some (vI (a1)), some (vI (a2)), some (vI (a3)), some (vP (some (154, 0))), some (vI (a5)), x6], [], h, c, n) := by
  obtain ⟨G1, G2, w⟩ := w
  refine k_X12_loads_s_98 cx hY G1 G2 (ctY hY (vc_X12_guestsIn (d := d + 2) w)) (by omega) (by omega) (by omega) (fun r h2 hp => ?_)
  obtain ⟨r2, rfl, w⟩ := hp
  exact s_X12_loads_20116 cx hY eq hK20093 (by omega) (by omega) w
theorem s_X12_loads_20093 {E : EnvT} {d : Nat} (cx : CX E "ShoreDayModel" cX12_loads 7 none "loads" (d + 4) 0 0) (hY : eY E = lay1) {Q : Hp → Prop} (eq : EQ E 0 0 (fun r h2 => r = [] ∧ Q h2)) : ∀ (N : Nat) (a1 : Int32) (a2 : Int32) (a3 : Int32) (a5 : Int32) (x6 : Option AVal) (h : Hp) (c n : Nat), c + 0 ≤ 0 → n + 0 ≤ 0 → w_X12_loads_20093  Q N a1 a2 a3 a5 h → SW E 93 ([some (vP (some (12, 0))), some (vI (a1)), some (vI (a2)), some (vI (a3)), some (vP (some (154, 0))), some (vI (a5)), x6], [], h, c, n) := by
  intro N
  induction N with
  | zero =>
    intro _ _ _ _ _ h c n _ _ w
    exact w.elim
  | succ N ih =>
    intro a1 a2 a3 a5 x6 h c n hc hn w
    refine k_X12_loads_s_93 cx hY (fun q => ?_) (fun q => ?_)
    · have w := w.1 q
      exact s_X12_loads_20191 cx hY eq  (by omega) (by omega) w
    · have w := w.2 q
      exact s_X12_loads_20098 cx hY eq ih (by omega) (by omega) w
theorem s_X12_loads_20091 {E : EnvT} {d : Nat} (cx : CX E "ShoreDayModel" cX12_loads 7 none "loads" (d + 4) 0 0) (hY : eY E = lay1) {Q : Hp → Prop} (eq : EQ E 0 0 (fun r h2 => r = [] ∧ Q h2)) {a1 : Int32} {a2 : Int32} {a3 : Int32} {x5 : Option AVal} {x6 : Option AVal} {s0 : Int32} {h : Hp} {c n : Nat} (hc : c + 0 ≤ 0) (hn : n + 0 ≤ 0) (w : w_X12_loads_20091  Q a1 a2 a3 s0 h) : SW E 91 ([some (vP (some (12, 0))), some (vI (a1)), some (vI (a2)), some (vI (a3)), some (vP (some (154, 0))), x5, x6], [vI (s0)], h, c, n) := by
  refine k_X12_loads_s_91 cx hY ?_
  obtain ⟨N1, w⟩ := w
  exact s_X12_loads_20093 cx hY eq  _ _ _ _ _ _ _ _ _ (by omega) (by omega) w
theorem s_X12_loads_20083 {E : EnvT} {d : Nat} (cx : CX E "ShoreDayModel" cX12_loads 7 none "loads" (d + 4) 0 0) (hY : eY E = lay1) {Q : Hp → Prop} (eq : EQ E 0 0 (fun r h2 => r = [] ∧ Q h2)) {a1 : Int32} {a2 : Int32} {a3 : Int32} {a4 : Int32} {x5 : Option AVal} {x6 : Option AVal} {h : Hp} {c n : Nat} (hc : c + 0 ≤ 0) (hn : n + 0 ≤ 0) (w : w_X12_loads_20083  Q a1 a2 a3 a4 h) : SW E 83 ([some (vP (some (12, 0))), some (vI (a1)), some (vI (a2)), some (vI (a3)), some (vI (a4)), x5, x6], [vP (some (154, 0))], h, c, n) := by
  refine k_X12_loads_s_83 cx hY (ctY hY (vc_X12_nextBy_s (d := d + 2) w)) (by omega) (by omega) (by omega) (fun r h2 hp => ?_)
  obtain ⟨r2, rfl, w⟩ := hp
  exact s_X12_loads_20091 cx hY eq  (by omega) (by omega) w
theorem s_X12_loads_79 {E : EnvT} {d : Nat} (cx : CX E "ShoreDayModel" cX12_loads 7 none "loads" (d + 4) 0 0) (hY : eY E = lay1) {Q : Hp → Prop} (eq : EQ E 0 0 (fun r h2 => r = [] ∧ Q h2)) {a1 : Int32} {a2 : Int32} {a3 : Int32} {a4 : Int32} {x5 : Option AVal} {x6 : Option AVal} {h : Hp} {c n : Nat} (hc : c + 0 ≤ 0) (hn : n + 0 ≤ 0) (w : w_X12_loads_79  Q a1 a2 a3 a4 h) : SW E 79 ([some (vP (some (12, 0))), some (vI (a1)), some (vI (a2)), some (vI (a3)), some (vI (a4)), x5, x6], [], h, c, n) := by
  refine k_X12_loads_t_79 cx hY ?_
  exact s_X12_loads_20083 cx hY eq  (by omega) (by omega) w
theorem s_X12_loads_10295 {E : EnvT} {d : Nat} (cx : CX E "ShoreDayModel" cX12_loads 7 none "loads" (d + 4) 0 0) (hY : eY E = lay1) {Q : Hp → Prop} (eq : EQ E 0 0 (fun r h2 => r = [] ∧ Q h2)) {a1 : Int32} {a2 : Int32} {a3 : Int32} {a5 : Int32} {a6 : Int32} {h : Hp} {c n : Nat} (hc : c + 0 ≤ 0) (hn : n + 0 ≤ 0) (w : w_X12_loads_10295  Q a1 a2 a3 a5 a6 h) : SW E 295 ([some (vP (some (12, 0))), some (vI (a1)), some (vI (a2)), some (vI (a3)), some (vP (some (144, 0))), some (vI (a5)), some (vI (a6))], [], h, c, n) := by
  exact k_X12_loads_t_295 cx hY eq (by omega) (by omega) ⟨rfl, w⟩
theorem s_X12_loads_10282 {E : EnvT} {d : Nat} (cx : CX E "ShoreDayModel" cX12_loads 7 none "loads" (d + 4) 0 0) (hY : eY E = lay1) {Q : Hp → Prop} (eq : EQ E 0 0 (fun r h2 => r = [] ∧ Q h2)) {a1 : Int32} {a2 : Int32} {a3 : Int32} {a5 : Int32} {a6 : Int32} {s1 : Int32} {s2 : Int32} {h : Hp} {c n : Nat} (hc : c + 0 ≤ 0) (hn : n + 0 ≤ 0) (w : w_X12_loads_10282  Q a1 a2 a3 a5 a6 s1 s2 h) : SW E 282 ([some (vP (some (12, 0))), some (vI (a1)), some (vI (a2)), some (vI (a3)), some (vP (some (144, 0))), some (vI (a5)), some (vI (a6))], [vI (s2), vI (s1), vP (some (133, 0))], h, c, n) := by
  obtain ⟨G1, G2, G3, w⟩ := w
  refine k_X12_loads_t_282 cx hY G1 G2 G3 ?_
  exact s_X12_loads_10295 cx hY eq  (by omega) (by omega) w
theorem s_X12_loads_10281 {E : EnvT} {d : Nat} (cx : CX E "ShoreDayModel" cX12_loads 7 none "loads" (d + 4) 0 0) (hY : eY E = lay1) {Q : Hp → Prop} (eq : EQ E 0 0 (fun r h2 => r = [] ∧ Q h2)) {a1 : Int32} {a2 : Int32} {a3 : Int32} {a5 : Int32} {a6 : Int32} {s1 : Int32} {h : Hp} {c n : Nat} (hc : c + 0 ≤ 0) (hn : n + 0 ≤ 0) (w : w_X12_loads_10281  Q a1 a2 a3 a5 a6 s1 h) : SW E 281 ([some (vP (some (12, 0))), some (vI (a1)), some (vI (a2)), some (vI (a3)), some (vP (some (144, 0))), some (vI (a5)), some (vI (a6))], [vI (s1), vP (some (133, 0))], h, c, n) := by
  refine k_X12_loads_t_281 cx hY ?_
  exact s_X12_loads_10282 cx hY eq  (by omega) (by omega) w
theorem s_X12_loads_10277 {E : EnvT} {d : Nat} (cx : CX E "ShoreDayModel" cX12_loads 7 none "loads" (d + 4) 0 0) (hY : eY E = lay1) {Q : Hp → Prop} (eq : EQ E 0 0 (fun r h2 => r = [] ∧ Q h2)) {a1 : Int32} {a2 : Int32} {a3 : Int32} {a5 : Int32} {a6 : Int32} {s1 : Int32} {h : Hp} {c n : Nat} (hc : c + 0 ≤ 0) (hn : n + 0 ≤ 0) (w : w_X12_loads_10277  Q a1 a2 a3 a5 a6 s1 h) : SW E 277 ([some (vP (some (12, 0))), some (vI (a1)), some (vI (a2)), some (vI (a3)), some (vP (some (144, 0))), some (vI (a5)), some (vI (a6))], [vI (s1), vP (some (133, 0))], h, c, n) := by
  refine k_X12_loads_t_277 cx hY ?_
  exact s_X12_loads_10282 cx hY eq  (by omega) (by omega) w
theorem s_X12_loads_10268 {E : EnvT} {d : Nat} (cx : CX E "ShoreDayModel" cX12_loads 7 none "loads" (d + 4) 0 0) (hY : eY E = lay1) {Q : Hp → Prop} (eq : EQ E 0 0 (fun r h2 => r = [] ∧ Q h2)) {a1 : Int32} {a2 : Int32} {a3 : Int32} {a5 : Int32} {a6 : Int32} {h : Hp} {c n : Nat} (hc : c + 0 ≤ 0) (hn : n + 0 ≤ 0) (w : w_X12_loads_10268  Q a1 a2 a3 a5 a6 h) : SW E 268 ([some (vP (some (12, 0))), some (vI (a1)), some (vI (a2)), some (vI (a3)), some (vP (some (144, 0))), some (vI (a5)), some (vI (a6))], [], h, c, n) := by
  refine k_X12_loads_t_268 cx hY (fun q => ?_) (fun q => ?_)
  · have w := w.1 q
    exact s_X12_loads_10281 cx hY eq  (by omega) (by omega) w
  · have w := w.2 q
    exact s_X12_loads_10277 cx hY eq  (by omega) (by omega) w
theorem s_X12_loads_10263 {E : EnvT} {d : Nat} (cx : CX E "ShoreDayModel" cX12_loads 7 none "loads" (d + 4) 0 0) (hY : eY E = lay1) {Q : Hp → Prop} (eq : EQ E 0 0 (fun r h2 => r = [] ∧ Q h2)) {a1 : Int32} {a2 : Int32} {a3 : Int32} {a5 : Int32} {a6 : Int32} {h : Hp} {c n : Nat} (hc : c + 0 ≤ 0) (hn : n + 0 ≤ 0) (w : w_X12_loads_10263  Q a1 a2 a3 a5 a6 h) : SW E 263 ([some (vP (some (12, 0))), some (vI (a1)), some (vI (a2)), some (vI (a3)), some (vP (some (144, 0))), some (vI (a5)), some (vI (a6))], [], h, c, n) := by
  refine k_X12_loads_t_263 cx hY (fun q => ?_) (fun q => ?_)
  · have w := w.1 q
    exact s_X12_loads_10295 cx hY eq  (by omega) (by omega) w
  · have w := w.2 q
    exact s_X12_loads_10268 cx hY eq  (by omega) (by omega) w
theorem s_X12_loads_10255 {E : EnvT} {d : Nat} (cx : CX E "ShoreDayModel" cX12_loads 7 none "loads" (d + 4) 0 0) (hY : eY E = lay1) {Q : Hp → Prop} (eq : EQ E 0 0 (fun r h2 => r = [] ∧ Q h2)) {K10209 : Int32 → Int32 → Int32 → Int32 → Int32 → Hp → Prop} (hK10209 : ∀ (a1 : Int32) (a2 : Int32) (a3 : Int32) (a5 : Int32) (a6 : Int32) (h : Hp) (c n : Nat), c + 0 ≤ 0 → n + 0 ≤ 0 → K10209 a1 a2 a3 a5 a6 h → SW E 209 ([some (vP (some (12, 0))), some (vI (a1)), some (vI (a2)), some (vI (a3)), some (vP (some (144, 0))), some (vI (a5)), some (vI (a6))], [], h, c, n)) {a1 : Int32} {a2 : Int32} {a3 : Int32} {a5 : Int32} {a6 : Int32} {s0 : Int32} {h : Hp} {c n : Nat} (hc : c + 0 ≤ 0) (hn : n + 0 ≤ 0) (w : w_X12_loads_10255 K10209 Q a1 a2 a3 a5 a6 s0 h) : SW E 255 ([some (vP (some (12, 0))), some (vI (a1)), some (vI (a2)), some (vI (a3)), some (vP (some (144, 0))), some (vI (a5)), some (vI (a6))], [vI (s0)], h, c, n) := by
  refine k_X12_loads_t_255 cx hY ?_
  exact hK10209 _ _ _ _ _ _ _ _ (by omega) (by omega) w
theorem s_X12_loads_10250 {E : EnvT} {d : Nat} (cx : CX E "ShoreDayModel" cX12_loads 7 none "loads" (d + 4) 0 0) (hY : eY E = lay1) {Q : Hp → Prop} (eq : EQ E 0 0 (fun r h2 => r = [] ∧ Q h2)) {K10209 : Int32 → Int32 → Int32 → Int32 → Int32 → Hp → Prop} (hK10209 : ∀ (a1 : Int32) (a2 : Int32) (a3 : Int32) (a5 : Int32) (a6 : Int32) (h : Hp) (c n : Nat), c + 0 ≤ 0 → n + 0 ≤ 0 → K10209 a1 a2 a3 a5 a6 h → SW E 209 ([some (vP (some (12, 0))), some (vI (a1)), some (vI (a2)), some (vI (a3)), some (vP (some (144, 0))), some (vI (a5)), some (vI (a6))], [], h, c, n)) {a1 : Int32} {a2 : Int32} {a3 : Int32} {a5 : Int32} {a6 : Int32} {h : Hp} {c n : Nat} (hc : c + 0 ≤ 0) (hn : n + 0 ≤ 0) (w : w_X12_loads_10250 K10209 Q a1 a2 a3 a5 a6 h) : SW E 250 ([some (vP (some (12, 0))), some (vI (a1)), some (vI (a2)), some (vI (a3)), some (vP (some (144, 0))), some (vI (a5)), some (vI (a6))], [], h, c, n) := by
  refine k_X12_loads_t_250 cx hY ?_
  exact s_X12_loads_10255 cx hY eq hK10209 (by omega) (by omega) w
theorem s_X12_loads_10254 {E : EnvT} {d : Nat} (cx : CX E "ShoreDayModel" cX12_loads 7 none "loads" (d + 4) 0 0) (hY : eY E = lay1) {Q : Hp → Prop} (eq : EQ E 0 0 (fun r h2 => r = [] ∧ Q h2)) {K10209 : Int32 → Int32 → Int32 → Int32 → Int32 → Hp → Prop} (hK10209 : ∀ (a1 : Int32) (a2 : Int32) (a3 : Int32) (a5 : Int32) (a6 : Int32) (h : Hp) (c n : Nat), c + 0 ≤ 0 → n + 0 ≤ 0 → K10209 a1 a2 a3 a5 a6 h → SW E 209 ([some (vP (some (12, 0))), some (vI (a1)), some (vI (a2)), some (vI (a3)), some (vP (some (144, 0))), some (vI (a5)), some (vI (a6))], [], h, c, n)) {a1 : Int32} {a2 : Int32} {a3 : Int32} {a5 : Int32} {a6 : Int32} {h : Hp} {c n : Nat} (hc : c + 0 ≤ 0) (hn : n + 0 ≤ 0) (w : w_X12_loads_10254 K10209 Q a1 a2 a3 a5 a6 h) : SW E 254 ([some (vP (some (12, 0))), some (vI (a1)), some (vI (a2)), some (vI (a3)), some (vP (some (144, 0))), some (vI (a5)), some (vI (a6))], [], h, c, n) := by
  refine k_X12_loads_t_254 cx hY ?_
  exact s_X12_loads_10255 cx hY eq hK10209 (by omega) (by omega) w
theorem s_X12_loads_10247 {E : EnvT} {d : Nat} (cx : CX E "ShoreDayModel" cX12_loads 7 none "loads" (d + 4) 0 0) (hY : eY E = lay1) {Q : Hp → Prop} (eq : EQ E 0 0 (fun r h2 => r = [] ∧ Q h2)) {K10209 : Int32 → Int32 → Int32 → Int32 → Int32 → Hp → Prop} (hK10209 : ∀ (a1 : Int32) (a2 : Int32) (a3 : Int32) (a5 : Int32) (a6 : Int32) (h : Hp) (c n : Nat), c + 0 ≤ 0 → n + 0 ≤ 0 → K10209 a1 a2 a3 a5 a6 h → SW E 209 ([some (vP (some (12, 0))), some (vI (a1)), some (vI (a2)), some (vI (a3)), some (vP (some (144, 0))), some (vI (a5)), some (vI (a6))], [], h, c, n)) {a1 : Int32} {a2 : Int32} {a3 : Int32} {a5 : Int32} {a6 : Int32} {s0 : Int32} {h : Hp} {c n : Nat} (hc : c + 0 ≤ 0) (hn : n + 0 ≤ 0) (w : w_X12_loads_10247 K10209 Q a1 a2 a3 a5 a6 s0 h) : SW E 247 ([some (vP (some (12, 0))), some (vI (a1)), some (vI (a2)), some (vI (a3)), some (vP (some (144, 0))), some (vI (a5)), some (vI (a6))], [vI (s0)], h, c, n) := by
  refine k_X12_loads_t_247 cx hY (fun q => ?_) (fun q => ?_)
  · have w := w.1 q
    exact s_X12_loads_10254 cx hY eq hK10209 (by omega) (by omega) w
  · have w := w.2 q
    exact s_X12_loads_10250 cx hY eq hK10209 (by omega) (by omega) w
theorem s_X12_loads_10240 {E : EnvT} {d : Nat} (cx : CX E "ShoreDayModel" cX12_loads 7 none "loads" (d + 4) 0 0) (hY : eY E = lay1) {Q : Hp → Prop} (eq : EQ E 0 0 (fun r h2 => r = [] ∧ Q h2)) {K10209 : Int32 → Int32 → Int32 → Int32 → Int32 → Hp → Prop} (hK10209 : ∀ (a1 : Int32) (a2 : Int32) (a3 : Int32) (a5 : Int32) (a6 : Int32) (h : Hp) (c n : Nat), c + 0 ≤ 0 → n + 0 ≤ 0 → K10209 a1 a2 a3 a5 a6 h → SW E 209 ([some (vP (some (12, 0))), some (vI (a1)), some (vI (a2)), some (vI (a3)), some (vP (some (144, 0))), some (vI (a5)), some (vI (a6))], [], h, c, n)) {a1 : Int32} {a2 : Int32} {a3 : Int32} {a5 : Int32} {a6 : Int32} {h : Hp} {c n : Nat} (hc : c + 0 ≤ 0) (hn : n + 0 ≤ 0) (w : w_X12_loads_10240 K10209 Q a1 a2 a3 a5 a6 h) : SW E 240 ([some (vP (some (12, 0))), some (vI (a1)), some (vI (a2)), some (vI (a3)), some (vP (some (144, 0))), some (vI (a5)), some (vI (a6))], [], h, c, n) := by
  refine k_X12_loads_t_240 cx hY (ctY hY (vc_X12_wantsOut (d := d + 2) w)) (by omega) (by omega) (by omega) (fun r h2 hp => ?_)
  obtain ⟨r2, rfl, w⟩ := hp
  exact s_X12_loads_10247 cx hY eq hK10209 (by omega) (by omega) w
theorem s_X12_loads_10237 {E : EnvT} {d : Nat} (cx : CX E "ShoreDayModel" cX12_loads 7 none "loads" (d + 4) 0 0) (hY : eY E = lay1) {Q : Hp → Prop} (eq : EQ E 0 0 (fun r h2 => r = [] ∧ Q h2)) {K10209 : Int32 → Int32 → Int32 → Int32 → Int32 → Hp → Prop} (hK10209 : ∀ (a1 : Int32) (a2 : Int32) (a3 : Int32) (a5 : Int32) (a6 : Int32) (h : Hp) (c n : Nat), c + 0 ≤ 0 → n + 0 ≤ 0 → K10209 a1 a2 a3 a5 a6 h → SW E 209 ([some (vP (some (12, 0))), some (vI (a1)), some (vI (a2)), some (vI (a3)), some (vP (some (144, 0))), some (vI (a5)), some (vI (a6))], [], h, c, n)) {a1 : Int32} {a2 : Int32} {a3 : Int32} {a5 : Int32} {a6 : Int32} {h : Hp} {c n : Nat} (hc : c + 0 ≤ 0) (hn : n + 0 ≤ 0) (w : w_X12_loads_10237 K10209 Q a1 a2 a3 a5 a6 h) : SW E 237 ([some (vP (some (12, 0))), some (vI (a1)), some (vI (a2)), some (vI (a3)), some (vP (some (144, 0))), some (vI (a5)), some (vI (a6))], [], h, c, n) := by
  refine k_X12_loads_t_237 cx hY ?_
  exact s_X12_loads_10250 cx hY eq hK10209 (by omega) (by omega) w
theorem s_X12_loads_10234 {E : EnvT} {d : Nat} (cx : CX E "ShoreDayModel" cX12_loads 7 none "loads" (d + 4) 0 0) (hY : eY E = lay1) {Q : Hp → Prop} (eq : EQ E 0 0 (fun r h2 => r = [] ∧ Q h2)) {K10209 : Int32 → Int32 → Int32 → Int32 → Int32 → Hp → Prop} (hK10209 : ∀ (a1 : Int32) (a2 : Int32) (a3 : Int32) (a5 : Int32) (a6 : Int32) (h : Hp) (c n : Nat), c + 0 ≤ 0 → n + 0 ≤ 0 → K10209 a1 a2 a3 a5 a6 h → SW E 209 ([some (vP (some (12, 0))), some (vI (a1)), some (vI (a2)), some (vI (a3)), some (vP (some (144, 0))), some (vI (a5)), some (vI (a6))], [], h, c, n)) {a1 : Int32} {a2 : Int32} {a3 : Int32} {a5 : Int32} {a6 : Int32} {s0 : Int32} {h : Hp} {c n : Nat} (hc : c + 0 ≤ 0) (hn : n + 0 ≤ 0) (w : w_X12_loads_10234 K10209 Q a1 a2 a3 a5 a6 s0 h) : SW E 234 ([some (vP (some (12, 0))), some (vI (a1)), some (vI (a2)), some (vI (a3)), some (vP (some (144, 0))), some (vI (a5)), some (vI (a6))], [vI (s0)], h, c, n) := by
  refine k_X12_loads_t_234 cx hY (fun q => ?_) (fun q => ?_)
  · have w := w.1 q
    exact s_X12_loads_10254 cx hY eq hK10209 (by omega) (by omega) w
  · have w := w.2 q
    exact s_X12_loads_10237 cx hY eq hK10209 (by omega) (by omega) w
theorem s_X12_loads_10227 {E : EnvT} {d : Nat} (cx : CX E "ShoreDayModel" cX12_loads 7 none "loads" (d + 4) 0 0) (hY : eY E = lay1) {Q : Hp → Prop} (eq : EQ E 0 0 (fun r h2 => r = [] ∧ Q h2)) {K10209 : Int32 → Int32 → Int32 → Int32 → Int32 → Hp → Prop} (hK10209 : ∀ (a1 : Int32) (a2 : Int32) (a3 : Int32) (a5 : Int32) (a6 : Int32) (h : Hp) (c n : Nat), c + 0 ≤ 0 → n + 0 ≤ 0 → K10209 a1 a2 a3 a5 a6 h → SW E 209 ([some (vP (some (12, 0))), some (vI (a1)), some (vI (a2)), some (vI (a3)), some (vP (some (144, 0))), some (vI (a5)), some (vI (a6))], [], h, c, n)) {a1 : Int32} {a2 : Int32} {a3 : Int32} {a5 : Int32} {a6 : Int32} {h : Hp} {c n : Nat} (hc : c + 0 ≤ 0) (hn : n + 0 ≤ 0) (w : w_X12_loads_10227 K10209 Q a1 a2 a3 a5 a6 h) : SW E 227 ([some (vP (some (12, 0))), some (vI (a1)), some (vI (a2)), some (vI (a3)), some (vP (some (144, 0))), some (vI (a5)), some (vI (a6))], [], h, c, n) := by
  refine k_X12_loads_t_227 cx hY (ctY hY (vc_X12_wantsHome (d := d + 2) w)) (by omega) (by omega) (by omega) (fun r h2 hp => ?_)
  obtain ⟨r2, rfl, w⟩ := hp
  exact s_X12_loads_10234 cx hY eq hK10209 (by omega) (by omega) w
theorem s_X12_loads_10223 {E : EnvT} {d : Nat} (cx : CX E "ShoreDayModel" cX12_loads 7 none "loads" (d + 4) 0 0) (hY : eY E = lay1) {Q : Hp → Prop} (eq : EQ E 0 0 (fun r h2 => r = [] ∧ Q h2)) {K10209 : Int32 → Int32 → Int32 → Int32 → Int32 → Hp → Prop} (hK10209 : ∀ (a1 : Int32) (a2 : Int32) (a3 : Int32) (a5 : Int32) (a6 : Int32) (h : Hp) (c n : Nat), c + 0 ≤ 0 → n + 0 ≤ 0 → K10209 a1 a2 a3 a5 a6 h → SW E 209 ([some (vP (some (12, 0))), some (vI (a1)), some (vI (a2)), some (vI (a3)), some (vP (some (144, 0))), some (vI (a5)), some (vI (a6))], [], h, c, n)) {a1 : Int32} {a2 : Int32} {a3 : Int32} {a5 : Int32} {a6 : Int32} {h : Hp} {c n : Nat} (hc : c + 0 ≤ 0) (hn : n + 0 ≤ 0) (w : w_X12_loads_10223 K10209 Q a1 a2 a3 a5 a6 h) : SW E 223 ([some (vP (some (12, 0))), some (vI (a1)), some (vI (a2)), some (vI (a3)), some (vP (some (144, 0))), some (vI (a5)), some (vI (a6))], [], h, c, n) := by
  refine k_X12_loads_t_223 cx hY (fun q => ?_) (fun q => ?_)
  · have w := w.1 q
    exact s_X12_loads_10240 cx hY eq hK10209 (by omega) (by omega) w
  · have w := w.2 q
    exact s_X12_loads_10227 cx hY eq hK10209 (by omega) (by omega) w
theorem s_X12_loads_10218 {E : EnvT} {d : Nat} (cx : CX E "ShoreDayModel" cX12_loads 7 none "loads" (d + 4) 0 0) (hY : eY E = lay1) {Q : Hp → Prop} (eq : EQ E 0 0 (fun r h2 => r = [] ∧ Q h2)) {K10209 : Int32 → Int32 → Int32 → Int32 → Int32 → Hp → Prop} (hK10209 : ∀ (a1 : Int32) (a2 : Int32) (a3 : Int32) (a5 : Int32) (a6 : Int32) (h : Hp) (c n : Nat), c + 0 ≤ 0 → n + 0 ≤ 0 → K10209 a1 a2 a3 a5 a6 h → SW E 209 ([some (vP (some (12, 0))), some (vI (a1)), some (vI (a2)), some (vI (a3)), some (vP (some (144, 0))), some (vI (a5)), some (vI (a6))], [], h, c, n)) {a1 : Int32} {a2 : Int32} {a3 : Int32} {a5 : Int32} {a6 : Int32} {h : Hp} {c n : Nat} (hc : c + 0 ≤ 0) (hn : n + 0 ≤ 0) (w : w_X12_loads_10218 K10209 Q a1 a2 a3 a5 a6 h) : SW E 218 ([some (vP (some (12, 0))), some (vI (a1)), some (vI (a2)), some (vI (a3)), some (vP (some (144, 0))), some (vI (a5)), some (vI (a6))], [], h, c, n) := by
  refine k_X12_loads_t_218 cx hY (fun q => ?_) (fun q => ?_)
  · have w := w.1 q
    exact s_X12_loads_10250 cx hY eq hK10209 (by omega) (by omega) w
  · have w := w.2 q
    exact s_X12_loads_10223 cx hY eq hK10209 (by omega) (by omega) w
theorem s_X12_loads_10209 {E : EnvT} {d : Nat} (cx : CX E "ShoreDayModel" cX12_loads 7 none "loads" (d + 4) 0 0) (hY : eY E = lay1) {Q : Hp → Prop} (eq : EQ E 0 0 (fun r h2 => r = [] ∧ Q h2)) : ∀ (N : Nat) (a1 : Int32) (a2 : Int32) (a3 : Int32) (a5 : Int32) (a6 : Int32) (h : Hp) (c n : Nat), c + 0 ≤ 0 → n + 0 ≤ 0 → w_X12_loads_10209  Q N a1 a2 a3 a5 a6 h → SW E 209 ([some (vP (some (12, 0))), some (vI (a1)), some (vI (a2)), some (vI (a3)), some (vP (some (144, 0))), some (vI (a5)), some (vI (a6))], [], h, c, n) := by
  intro N
  induction N with
  | zero =>
    intro _ _ _ _ _ h c n _ _ w
    exact w.elim
  | succ N ih =>
    intro a1 a2 a3 a5 a6 h c n hc hn w
    refine k_X12_loads_t_209 cx hY (fun q => ?_) (fun q => ?_)
    · have w := w.1 q
      exact s_X12_loads_10263 cx hY eq  (by omega) (by omega) w
    · have w := w.2 q
      exact s_X12_loads_10218 cx hY eq ih (by omega) (by omega) w
theorem s_X12_loads_10204 {E : EnvT} {d : Nat} (cx : CX E "ShoreDayModel" cX12_loads 7 none "loads" (d + 4) 0 0) (hY : eY E = lay1) {Q : Hp → Prop} (eq : EQ E 0 0 (fun r h2 => r = [] ∧ Q h2)) {a1 : Int32} {a2 : Int32} {a3 : Int32} {a5 : Int32} {x6 : Option AVal} {s0 : Int32} {h : Hp} {c n : Nat} (hc : c + 0 ≤ 0) (hn : n + 0 ≤ 0) (w : w_X12_loads_10204  Q a1 a2 a3 a5 s0 h) : SW E 204 ([some (vP (some (12, 0))), some (vI (a1)), some (vI (a2)), some (vI (a3)), some (vP (some (144, 0))), some (vI (a5)), x6], [vI (s0)], h, c, n) := by
  refine k_X12_loads_t_204 cx hY ?_
  obtain ⟨N1, w⟩ := w
  exact s_X12_loads_10209 cx hY eq  _ _ _ _ _ _ _ _ _ (by omega) (by omega) w
theorem s_X12_loads_10203 {E : EnvT} {d : Nat} (cx : CX E "ShoreDayModel" cX12_loads 7 none "loads" (d + 4) 0 0) (hY : eY E = lay1) {Q : Hp → Prop} (eq : EQ E 0 0 (fun r h2 => r = [] ∧ Q h2)) {a1 : Int32} {a2 : Int32} {a3 : Int32} {a5 : Int32} {x6 : Option AVal} {h : Hp} {c n : Nat} (hc : c + 0 ≤ 0) (hn : n + 0 ≤ 0) (w : w_X12_loads_10203  Q a1 a2 a3 a5 h) : SW E 203 ([some (vP (some (12, 0))), some (vI (a1)), some (vI (a2)), some (vI (a3)), some (vP (some (144, 0))), some (vI (a5)), x6], [], h, c, n) := by
  refine k_X12_loads_t_203 cx hY ?_
  exact s_X12_loads_10204 cx hY eq  (by omega) (by omega) w
theorem s_X12_loads_10199 {E : EnvT} {d : Nat} (cx : CX E "ShoreDayModel" cX12_loads 7 none "loads" (d + 4) 0 0) (hY : eY E = lay1) {Q : Hp → Prop} (eq : EQ E 0 0 (fun r h2 => r = [] ∧ Q h2)) {a1 : Int32} {a2 : Int32} {a3 : Int32} {a5 : Int32} {x6 : Option AVal} {h : Hp} {c n : Nat} (hc : c + 0 ≤ 0) (hn : n + 0 ≤ 0) (w : w_X12_loads_10199  Q a1 a2 a3 a5 h) : SW E 199 ([some (vP (some (12, 0))), some (vI (a1)), some (vI (a2)), some (vI (a3)), some (vP (some (144, 0))), some (vI (a5)), x6], [], h, c, n) := by
  refine k_X12_loads_t_199 cx hY ?_
  exact s_X12_loads_10204 cx hY eq  (by omega) (by omega) w
theorem s_X12_loads_10196 {E : EnvT} {d : Nat} (cx : CX E "ShoreDayModel" cX12_loads 7 none "loads" (d + 4) 0 0) (hY : eY E = lay1) {Q : Hp → Prop} (eq : EQ E 0 0 (fun r h2 => r = [] ∧ Q h2)) {a1 : Int32} {a2 : Int32} {a3 : Int32} {a5 : Int32} {x6 : Option AVal} {s0 : Int32} {h : Hp} {c n : Nat} (hc : c + 0 ≤ 0) (hn : n + 0 ≤ 0) (w : w_X12_loads_10196  Q a1 a2 a3 a5 s0 h) : SW E 196 ([some (vP (some (12, 0))), some (vI (a1)), some (vI (a2)), some (vI (a3)), some (vP (some (144, 0))), some (vI (a5)), x6], [vI (s0)], h, c, n) := by
  refine k_X12_loads_t_196 cx hY (fun q => ?_) (fun q => ?_)
  · have w := w.1 q
    exact s_X12_loads_10203 cx hY eq  (by omega) (by omega) w
  · have w := w.2 q
    exact s_X12_loads_10199 cx hY eq  (by omega) (by omega) w
theorem s_X12_loads_10191 {E : EnvT} {d : Nat} (cx : CX E "ShoreDayModel" cX12_loads 7 none "loads" (d + 4) 0 0) (hY : eY E = lay1) {Q : Hp → Prop} (eq : EQ E 0 0 (fun r h2 => r = [] ∧ Q h2)) {a1 : Int32} {a2 : Int32} {a3 : Int32} {a5 : Int32} {x6 : Option AVal} {h : Hp} {c n : Nat} (hc : c + 0 ≤ 0) (hn : n + 0 ≤ 0) (w : w_X12_loads_10191  Q a1 a2 a3 a5 h) : SW E 191 ([some (vP (some (12, 0))), some (vI (a1)), some (vI (a2)), some (vI (a3)), some (vP (some (144, 0))), some (vI (a5)), x6], [], h, c, n) := by
  refine k_X12_loads_t_191 cx hY (ctY hY (vc_X12_guestsIn (d := d + 2) w)) (by omega) (by omega) (by omega) (fun r h2 hp => ?_)
  obtain ⟨r2, rfl, w⟩ := hp
  exact s_X12_loads_10196 cx hY eq  (by omega) (by omega) w
theorem s_X12_loads_10186 {E : EnvT} {d : Nat} (cx : CX E "ShoreDayModel" cX12_loads 7 none "loads" (d + 4) 0 0) (hY : eY E = lay1) {Q : Hp → Prop} (eq : EQ E 0 0 (fun r h2 => r = [] ∧ Q h2)) {K10093 : Int32 → Int32 → Int32 → Int32 → Hp → Prop} (hK10093 : ∀ (a1 : Int32) (a2 : Int32) (a3 : Int32) (a5 : Int32) (x6 : Option AVal) (h : Hp) (c n : Nat), c + 0 ≤ 0 → n + 0 ≤ 0 → K10093 a1 a2 a3 a5 h → SW E 93 ([some (vP (some (12, 0))), some (vI (a1)), some (vI (a2)), some (vI (a3)), some (vP (some (144, 0))), some (vI (a5)), x6], [], h, c, n)) {a1 : Int32} {a2 : Int32} {a3 : Int32} {a5 : Int32} {a6 : Int32} {s0 : Int32} {h : Hp} {c n : Nat} (hc : c + 0 ≤ 0) (hn : n + 0 ≤ 0) (w : w_X12_loads_10186 K10093 Q a1 a2 a3 a5 a6 s0 h) : SW E 186 ([some (vP (some (12, 0))), some (vI (a1)), some (vI (a2)), some (vI (a3)), some (vP (some (144, 0))), some (vI (a5)), some (vI (a6))], [vI (s0)], h, c, n) := by
  refine k_X12_loads_t_186 cx hY ?_
  exact hK10093 _ _ _ _ _ _ _ _ (by omega) (by omega) w
theorem s_X12_loads_10180 {E : EnvT} {d : Nat} (cx : CX E "ShoreDayModel" cX12_loads 7 none "loads" (d + 4) 0 0) (hY : eY E = lay1) {Q : Hp → Prop} (eq : EQ E 0 0 (fun r h2 => r = [] ∧ Q h2)) {K10093 : Int32 → Int32 → Int32 → Int32 → Hp → Prop} (hK10093 : ∀ (a1 : Int32) (a2 : Int32) (a3 : Int32) (a5 : Int32) (x6 : Option AVal) (h : Hp) (c n : Nat), c + 0 ≤ 0 → n + 0 ≤ 0 → K10093 a1 a2 a3 a5 h → SW E 93 ([some (vP (some (12, 0))), some (vI (a1)), some (vI (a2)), some (vI (a3)), some (vP (some (144, 0))), some (vI (a5)), x6], [], h, c, n)) {a1 : Int32} {a2 : Int32} {a3 : Int32} {a5 : Int32} {a6 : Int32} {h : Hp} {c n : Nat} (hc : c + 0 ≤ 0) (hn : n + 0 ≤ 0) (w : w_X12_loads_10180 K10093 Q a1 a2 a3 a5 a6 h) : SW E 180 ([some (vP (some (12, 0))), some (vI (a1)), some (vI (a2)), some (vI (a3)), some (vP (some (144, 0))), some (vI (a5)), some (vI (a6))], [], h, c, n) := by
  refine k_X12_loads_t_180 cx hY (ctY hY (vc_X12_nextBy_t (d := d + 2) w)) (by omega) (by omega) (by omega) (fun r h2 hp => ?_)
  obtain ⟨r2, rfl, w⟩ := hp
  exact s_X12_loads_10186 cx hY eq hK10093 (by omega) (by omega) w
theorem s_X12_loads_10156 {E : EnvT} {d : Nat} (cx : CX E "ShoreDayModel" cX12_loads 7 none "loads" (d + 4) 0 0) (hY : eY E = lay1) {Q : Hp → Prop} (eq : EQ E 0 0 (fun r h2 => r = [] ∧ Q h2)) {K10093 : Int32 → Int32 → Int32 → Int32 → Hp → Prop} (hK10093 : ∀ (a1 : Int32) (a2 : Int32) (a3 : Int32) (a5 : Int32) (x6 : Option AVal) (h : Hp) (c n : Nat), c + 0 ≤ 0 → n + 0 ≤ 0 → K10093 a1 a2 a3 a5 h → SW E 93 ([some (vP (some (12, 0))), some (vI (a1)), some (vI (a2)), some (vI (a3)), some (vP (some (144, 0))), some (vI (a5)), x6], [], h, c, n)) {a1 : Int32} {a2 : Int32} {a3 : Int32} {a5 : Int32} {a6 : Int32} {h : Hp} {c n : Nat} (hc : c + 0 ≤ 0) (hn : n + 0 ≤ 0) (w : w_X12_loads_10156 K10093 Q a1 a2 a3 a5 a6 h) : SW E 156 ([some (vP (some (12, 0))), some (vI (a1)), some (vI (a2)), some (vI (a3)), some (vP (some (144, 0))), some (vI (a5)), some (vI (a6))], [], h, c, n) := by
  obtain ⟨G1, G2, G3, w⟩ := w
  refine k_X12_loads_t_156 cx hY G1 G2 G3 ?_
  exact s_X12_loads_10180 cx hY eq hK10093 (by omega) (by omega) w
theorem s_X12_loads_10141 {E : EnvT} {d : Nat} (cx : CX E "ShoreDayModel" cX12_loads 7 none "loads" (d + 4) 0 0) (hY : eY E = lay1) {Q : Hp → Prop} (eq : EQ E 0 0 (fun r h2 => r = [] ∧ Q h2)) {K10093 : Int32 → Int32 → Int32 → Int32 → Hp → Prop} (hK10093 : ∀ (a1 : Int32) (a2 : Int32) (a3 : Int32) (a5 : Int32) (x6 : Option AVal) (h : Hp) (c n : Nat), c + 0 ≤ 0 → n + 0 ≤ 0 → K10093 a1 a2 a3 a5 h → SW E 93 ([some (vP (some (12, 0))), some (vI (a1)), some (vI (a2)), some (vI (a3)), some (vP (some (144, 0))), some (vI (a5)), x6], [], h, c, n)) {a1 : Int32} {a2 : Int32} {a3 : Int32} {a5 : Int32} {a6 : Int32} {s0 : Int32} {h : Hp} {c n : Nat} (hc : c + 0 ≤ 0) (hn : n + 0 ≤ 0) (w : w_X12_loads_10141 K10093 Q a1 a2 a3 a5 a6 s0 h) : SW E 141 ([some (vP (some (12, 0))), some (vI (a1)), some (vI (a2)), some (vI (a3)), some (vP (some (144, 0))), some (vI (a5)), some (vI (a6))], [vI (s0)], h, c, n) := by
  obtain ⟨G1, w⟩ := w
  refine k_X12_loads_t_141 cx hY G1 (fun q => ?_) (fun q => ?_)
  · have w := w.1 q
    exact s_X12_loads_10180 cx hY eq hK10093 (by omega) (by omega) w
  · have w := w.2 q
    exact s_X12_loads_10156 cx hY eq hK10093 (by omega) (by omega) w
theorem s_X12_loads_10136 {E : EnvT} {d : Nat} (cx : CX E "ShoreDayModel" cX12_loads 7 none "loads" (d + 4) 0 0) (hY : eY E = lay1) {Q : Hp → Prop} (eq : EQ E 0 0 (fun r h2 => r = [] ∧ Q h2)) {K10093 : Int32 → Int32 → Int32 → Int32 → Hp → Prop} (hK10093 : ∀ (a1 : Int32) (a2 : Int32) (a3 : Int32) (a5 : Int32) (x6 : Option AVal) (h : Hp) (c n : Nat), c + 0 ≤ 0 → n + 0 ≤ 0 → K10093 a1 a2 a3 a5 h → SW E 93 ([some (vP (some (12, 0))), some (vI (a1)), some (vI (a2)), some (vI (a3)), some (vP (some (144, 0))), some (vI (a5)), x6], [], h, c, n)) {a1 : Int32} {a2 : Int32} {a3 : Int32} {a5 : Int32} {a6 : Int32} {h : Hp} {c n : Nat} (hc : c + 0 ≤ 0) (hn : n + 0 ≤ 0) (w : w_X12_loads_10136 K10093 Q a1 a2 a3 a5 a6 h) : SW E 136 ([some (vP (some (12, 0))), some (vI (a1)), some (vI (a2)), some (vI (a3)), some (vP (some (144, 0))), some (vI (a5)), some (vI (a6))], [], h, c, n) := by
  refine k_X12_loads_t_136 cx hY (ctY hY (vc_X12_coming (d := d + 0) w)) (by omega) (by omega) (by omega) (fun r h2 hp => ?_)
  obtain ⟨r2, rfl, w⟩ := hp
  exact s_X12_loads_10141 cx hY eq hK10093 (by omega) (by omega) w
theorem s_X12_loads_10132 {E : EnvT} {d : Nat} (cx : CX E "ShoreDayModel" cX12_loads 7 none "loads" (d + 4) 0 0) (hY : eY E = lay1) {Q : Hp → Prop} (eq : EQ E 0 0 (fun r h2 => r = [] ∧ Q h2)) {K10093 : Int32 → Int32 → Int32 → Int32 → Hp → Prop} (hK10093 : ∀ (a1 : Int32) (a2 : Int32) (a3 : Int32) (a5 : Int32) (x6 : Option AVal) (h : Hp) (c n : Nat), c + 0 ≤ 0 → n + 0 ≤ 0 → K10093 a1 a2 a3 a5 h → SW E 93 ([some (vP (some (12, 0))), some (vI (a1)), some (vI (a2)), some (vI (a3)), some (vP (some (144, 0))), some (vI (a5)), x6], [], h, c, n)) {a1 : Int32} {a2 : Int32} {a3 : Int32} {a5 : Int32} {a6 : Int32} {h : Hp} {c n : Nat} (hc : c + 0 ≤ 0) (hn : n + 0 ≤ 0) (w : w_X12_loads_10132 K10093 Q a1 a2 a3 a5 a6 h) : SW E 132 ([some (vP (some (12, 0))), some (vI (a1)), some (vI (a2)), some (vI (a3)), some (vP (some (144, 0))), some (vI (a5)), some (vI (a6))], [], h, c, n) := by
  refine k_X12_loads_t_132 cx hY (fun q => ?_) (fun q => ?_)
  · have w := w.1 q
    exact s_X12_loads_10156 cx hY eq hK10093 (by omega) (by omega) w
  · have w := w.2 q
    exact s_X12_loads_10136 cx hY eq hK10093 (by omega) (by omega) w
theorem s_X12_loads_10125 {E : EnvT} {d : Nat} (cx : CX E "ShoreDayModel" cX12_loads 7 none "loads" (d + 4) 0 0) (hY : eY E = lay1) {Q : Hp → Prop} (eq : EQ E 0 0 (fun r h2 => r = [] ∧ Q h2)) {K10093 : Int32 → Int32 → Int32 → Int32 → Hp → Prop} (hK10093 : ∀ (a1 : Int32) (a2 : Int32) (a3 : Int32) (a5 : Int32) (x6 : Option AVal) (h : Hp) (c n : Nat), c + 0 ≤ 0 → n + 0 ≤ 0 → K10093 a1 a2 a3 a5 h → SW E 93 ([some (vP (some (12, 0))), some (vI (a1)), some (vI (a2)), some (vI (a3)), some (vP (some (144, 0))), some (vI (a5)), x6], [], h, c, n)) {a1 : Int32} {a2 : Int32} {a3 : Int32} {a5 : Int32} {x6 : Option AVal} {s0 : Int32} {h : Hp} {c n : Nat} (hc : c + 0 ≤ 0) (hn : n + 0 ≤ 0) (w : w_X12_loads_10125 K10093 Q a1 a2 a3 a5 s0 h) : SW E 125 ([some (vP (some (12, 0))), some (vI (a1)), some (vI (a2)), some (vI (a3)), some (vP (some (144, 0))), some (vI (a5)), x6], [vI (s0)], h, c, n) := by
  refine k_X12_loads_t_125 cx hY (fun q => ?_) (fun q => ?_)
  · have w := w.1 q
    exact s_X12_loads_10180 cx hY eq hK10093 (by omega) (by omega) w
  · have w := w.2 q
    exact s_X12_loads_10132 cx hY eq hK10093 (by omega) (by omega) w
theorem s_X12_loads_10124 {E : EnvT} {d : Nat} (cx : CX E "ShoreDayModel" cX12_loads 7 none "loads" (d + 4) 0 0) (hY : eY E = lay1) {Q : Hp → Prop} (eq : EQ E 0 0 (fun r h2 => r = [] ∧ Q h2)) {K10093 : Int32 → Int32 → Int32 → Int32 → Hp → Prop} (hK10093 : ∀ (a1 : Int32) (a2 : Int32) (a3 : Int32) (a5 : Int32) (x6 : Option AVal) (h : Hp) (c n : Nat), c + 0 ≤ 0 → n + 0 ≤ 0 → K10093 a1 a2 a3 a5 h → SW E 93 ([some (vP (some (12, 0))), some (vI (a1)), some (vI (a2)), some (vI (a3)), some (vP (some (144, 0))), some (vI (a5)), x6], [], h, c, n)) {a1 : Int32} {a2 : Int32} {a3 : Int32} {a5 : Int32} {x6 : Option AVal} {h : Hp} {c n : Nat} (hc : c + 0 ≤ 0) (hn : n + 0 ≤ 0) (w : w_X12_loads_10124 K10093 Q a1 a2 a3 a5 h) : SW E 124 ([some (vP (some (12, 0))), some (vI (a1)), some (vI (a2)), some (vI (a3)), some (vP (some (144, 0))), some (vI (a5)), x6], [], h, c, n) := by
  refine k_X12_loads_t_124 cx hY ?_
  exact s_X12_loads_10125 cx hY eq hK10093 (by omega) (by omega) w
theorem s_X12_loads_10120 {E : EnvT} {d : Nat} (cx : CX E "ShoreDayModel" cX12_loads 7 none "loads" (d + 4) 0 0) (hY : eY E = lay1) {Q : Hp → Prop} (eq : EQ E 0 0 (fun r h2 => r = [] ∧ Q h2)) {K10093 : Int32 → Int32 → Int32 → Int32 → Hp → Prop} (hK10093 : ∀ (a1 : Int32) (a2 : Int32) (a3 : Int32) (a5 : Int32) (x6 : Option AVal) (h : Hp) (c n : Nat), c + 0 ≤ 0 → n + 0 ≤ 0 → K10093 a1 a2 a3 a5 h → SW E 93 ([some (vP (some (12, 0))), some (vI (a1)), some (vI (a2)), some (vI (a3)), some (vP (some (144, 0))), some (vI (a5)), x6], [], h, c, n)) {a1 : Int32} {a2 : Int32} {a3 : Int32} {a5 : Int32} {x6 : Option AVal} {h : Hp} {c n : Nat} (hc : c + 0 ≤ 0) (hn : n + 0 ≤ 0) (w : w_X12_loads_10120 K10093 Q a1 a2 a3 a5 h) : SW E 120 ([some (vP (some (12, 0))), some (vI (a1)), some (vI (a2)), some (vI (a3)), some (vP (some (144, 0))), some (vI (a5)), x6], [], h, c, n) := by
  refine k_X12_loads_t_120 cx hY ?_
  exact s_X12_loads_10125 cx hY eq hK10093 (by omega) (by omega) w
theorem s_X12_loads_10116 {E : EnvT} {d : Nat} (cx : CX E "ShoreDayModel" cX12_loads 7 none "loads" (d + 4) 0 0) (hY : eY E = lay1) {Q : Hp → Prop} (eq : EQ E 0 0 (fun r h2 => r = [] ∧ Q h2)) {K10093 : Int32 → Int32 → Int32 → Int32 → Hp → Prop} (hK10093 : ∀ (a1 : Int32) (a2 : Int32) (a3 : Int32) (a5 : Int32) (x6 : Option AVal) (h : Hp) (c n : Nat), c + 0 ≤ 0 → n + 0 ≤ 0 → K10093 a1 a2 a3 a5 h → SW E 93 ([some (vP (some (12, 0))), some (vI (a1)), some (vI (a2)), some (vI (a3)), some (vP (some (144, 0))), some (vI (a5)), x6], [], h, c, n)) {a1 : Int32} {a2 : Int32} {a3 : Int32} {a5 : Int32} {x6 : Option AVal} {s0 : Int32} {s1 : Int32} {s2 : Int32} {h : Hp} {c n : Nat} (hc : c + 0 ≤ 0) (hn : n + 0 ≤ 0) (w : w_X12_loads_10116 K10093 Q a1 a2 a3 a5 s0 s1 s2 h) : SW E 116 ([some (vP (some (12, 0))), some (vI (a1)), some (vI (a2)), some (vI (a3)), some (vP (some (144, 0))), some (vI (a5)), x6], [vI (s2), vI (s1), vI (s0)], h, c, n) := by
  refine k_X12_loads_t_116 cx hY (fun q => ?_) (fun q => ?_)
  · have w := w.1 q
    exact s_X12_loads_10124 cx hY eq hK10093 (by omega) (by omega) w
  · have w := w.2 q
    exact s_X12_loads_10120 cx hY eq hK10093 (by omega) (by omega) w
theorem s_X12_loads_10098 {E : EnvT} {d : Nat} (cx : CX E "ShoreDayModel" cX12_loads 7 none "loads" (d + 4) 0 0) (hY : eY E = lay1) {Q : Hp → Prop} (eq : EQ E 0 0 (fun r h2 => r = [] ∧ Q h2)) {K10093 : Int32 → Int32 → Int32 → Int32 → Hp → Prop} (hK10093 : ∀ (a1 : Int32) (a2 : Int32) (a3 : Int32) (a5 : Int32) (x6 : Option AVal) (h : Hp) (c n : Nat), c + 0 ≤ 0 → n + 0 ≤ 0 → K10093 a1 a2 a3 a5 h → SW E 93 ([some (vP (some (12, 0))), some (vI (a1)), some (vI (a2)), some (vI (a3)), some (vP (some (144, 0))), some (vI (a5)), x6], [], h, c, n)) {a1 : Int32} {a2 : Int32} {a3 : Int32} {a5 : Int32} {x6 : Option AVal} {h : Hp} {c n : Nat} (hc : c + 0 ≤ 0) (hn : n + 0 ≤ 0) (w : w_X12_loads_10098 K10093 Q a1 a2 a3 a5 h) : SW E 98 ([some (vP (some (12, 0))), some (vI (a1)), some (vI (a2)), some (vI (a3)), some (vP (some (144, 0))), some (vI (a5)), x6], [], h, c, n) := by
  obtain ⟨G1, G2, w⟩ := w
  refine k_X12_loads_t_98 cx hY G1 G2 (ctY hY (vc_X12_guestsIn (d := d + 2) w)) (by omega) (by omega) (by omega) (fun r h2 hp => ?_)
  obtain ⟨r2, rfl, w⟩ := hp
  exact s_X12_loads_10116 cx hY eq hK10093 (by omega) (by omega) w
theorem s_X12_loads_10093 {E : EnvT} {d : Nat} (cx : CX E "ShoreDayModel" cX12_loads 7 none "loads" (d + 4) 0 0) (hY : eY E = lay1) {Q : Hp → Prop} (eq : EQ E 0 0 (fun r h2 => r = [] ∧ Q h2)) : ∀ (N : Nat) (a1 : Int32) (a2 : Int32) (a3 : Int32) (a5 : Int32) (x6 : Option AVal) (h : Hp) (c n : Nat), c + 0 ≤ 0 → n + 0 ≤ 0 → w_X12_loads_10093  Q N a1 a2 a3 a5 h → SW E 93 ([some (vP (some (12, 0))), some (vI (a1)), some (vI (a2)), some (vI (a3)), some (vP (some (144, 0))), some (vI (a5)), x6], [], h, c, n) := by
  intro N
  induction N with
  | zero =>
    intro _ _ _ _ _ h c n _ _ w
    exact w.elim
  | succ N ih =>
    intro a1 a2 a3 a5 x6 h c n hc hn w
    refine k_X12_loads_t_93 cx hY (fun q => ?_) (fun q => ?_)
    · have w := w.1 q
      exact s_X12_loads_10191 cx hY eq  (by omega) (by omega) w
    · have w := w.2 q
      exact s_X12_loads_10098 cx hY eq ih (by omega) (by omega) w
theorem s_X12_loads_10091 {E : EnvT} {d : Nat} (cx : CX E "ShoreDayModel" cX12_loads 7 none "loads" (d + 4) 0 0) (hY : eY E = lay1) {Q : Hp → Prop} (eq : EQ E 0 0 (fun r h2 => r = [] ∧ Q h2)) {a1 : Int32} {a2 : Int32} {a3 : Int32} {x5 : Option AVal} {x6 : Option AVal} {s0 : Int32} {h : Hp} {c n : Nat} (hc : c + 0 ≤ 0) (hn : n + 0 ≤ 0) (w : w_X12_loads_10091  Q a1 a2 a3 s0 h) : SW E 91 ([some (vP (some (12, 0))), some (vI (a1)), some (vI (a2)), some (vI (a3)), some (vP (some (144, 0))), x5, x6], [vI (s0)], h, c, n) := by
  refine k_X12_loads_t_91 cx hY ?_
  obtain ⟨N1, w⟩ := w
  exact s_X12_loads_10093 cx hY eq  _ _ _ _ _ _ _ _ _ (by omega) (by omega) w
theorem s_X12_loads_10083 {E : EnvT} {d : Nat} (cx : CX E "ShoreDayModel" cX12_loads 7 none "loads" (d + 4) 0 0) (hY : eY E = lay1) {Q : Hp → Prop} (eq : EQ E 0 0 (fun r h2 => r = [] ∧ Q h2)) {a1 : Int32} {a2 : Int32} {a3 : Int32} {a4 : Int32} {x5 : Option AVal} {x6 : Option AVal} {h : Hp} {c n : Nat} (hc : c + 0 ≤ 0) (hn : n + 0 ≤ 0) (w : w_X12_loads_10083  Q a1 a2 a3 a4 h) : SW E 83 ([some (vP (some (12, 0))), some (vI (a1)), some (vI (a2)), some (vI (a3)), some (vI (a4)), x5, x6], [vP (some (144, 0))], h, c, n) := by
  refine k_X12_loads_t_83 cx hY (ctY hY (vc_X12_nextBy_t (d := d + 2) w)) (by omega) (by omega) (by omega) (fun r h2 hp => ?_)
  obtain ⟨r2, rfl, w⟩ := hp
  exact s_X12_loads_10091 cx hY eq  (by omega) (by omega) w
theorem s_X12_loads_72 {E : EnvT} {d : Nat} (cx : CX E "ShoreDayModel" cX12_loads 7 none "loads" (d + 4) 0 0) (hY : eY E = lay1) {Q : Hp → Prop} (eq : EQ E 0 0 (fun r h2 => r = [] ∧ Q h2)) {a1 : Int32} {a2 : Int32} {a3 : Int32} {a4 : Int32} {x5 : Option AVal} {x6 : Option AVal} {h : Hp} {c n : Nat} (hc : c + 0 ≤ 0) (hn : n + 0 ≤ 0) (w : w_X12_loads_72  Q a1 a2 a3 a4 h) : SW E 72 ([some (vP (some (12, 0))), some (vI (a1)), some (vI (a2)), some (vI (a3)), some (vI (a4)), x5, x6], [], h, c, n) := by
  refine k_X12_loads_t_72 cx hY ?_
  exact s_X12_loads_10083 cx hY eq  (by omega) (by omega) w
theorem s_X12_loads_68 {E : EnvT} {d : Nat} (cx : CX E "ShoreDayModel" cX12_loads 7 none "loads" (d + 4) 0 0) (hY : eY E = lay1) {Q : Hp → Prop} (eq : EQ E 0 0 (fun r h2 => r = [] ∧ Q h2)) {a1 : Int32} {a2 : Int32} {a3 : Int32} {a4 : Int32} {x5 : Option AVal} {x6 : Option AVal} {h : Hp} {c n : Nat} (hc : c + 0 ≤ 0) (hn : n + 0 ≤ 0) (w : w_X12_loads_68  Q a1 a2 a3 a4 h) : SW E 68 ([some (vP (some (12, 0))), some (vI (a1)), some (vI (a2)), some (vI (a3)), some (vI (a4)), x5, x6], [], h, c, n) := by
  refine k_X12_loads_t_68 cx hY (fun q => ?_) (fun q => ?_)
  · have w := w.1 q
    exact s_X12_loads_79 cx hY eq  (by omega) (by omega) w
  · have w := w.2 q
    exact s_X12_loads_72 cx hY eq  (by omega) (by omega) w
theorem s_X12_loads_61 {E : EnvT} {d : Nat} (cx : CX E "ShoreDayModel" cX12_loads 7 none "loads" (d + 4) 0 0) (hY : eY E = lay1) {Q : Hp → Prop} (eq : EQ E 0 0 (fun r h2 => r = [] ∧ Q h2)) {K25 : Int32 → Int32 → Int32 → Int32 → Hp → Prop} (hK25 : ∀ (a1 : Int32) (a2 : Int32) (a3 : Int32) (a4 : Int32) (x5 : Option AVal) (x6 : Option AVal) (h : Hp) (c n : Nat), c + 0 ≤ 0 → n + 0 ≤ 0 → K25 a1 a2 a3 a4 h → SW E 25 ([some (vP (some (12, 0))), some (vI (a1)), some (vI (a2)), some (vI (a3)), some (vI (a4)), x5, x6], [], h, c, n)) {a1 : Int32} {a2 : Int32} {a3 : Int32} {a4 : Int32} {x5 : Option AVal} {x6 : Option AVal} {s1 : Int32} {s2 : Int32} {h : Hp} {c n : Nat} (hc : c + 0 ≤ 0) (hn : n + 0 ≤ 0) (w : w_X12_loads_61 K25 Q a1 a2 a3 a4 s1 s2 h) : SW E 61 ([some (vP (some (12, 0))), some (vI (a1)), some (vI (a2)), some (vI (a3)), some (vI (a4)), x5, x6], [vI (s2), vI (s1), vP (some (160, 0))], h, c, n) := by
  obtain ⟨G1, w⟩ := w
  refine k_X12_loads_t_61 cx hY G1 ?_
  exact hK25 _ _ _ _ _ _ _ _ _ (by omega) (by omega) w
theorem s_X12_loads_54 {E : EnvT} {d : Nat} (cx : CX E "ShoreDayModel" cX12_loads 7 none "loads" (d + 4) 0 0) (hY : eY E = lay1) {Q : Hp → Prop} (eq : EQ E 0 0 (fun r h2 => r = [] ∧ Q h2)) {K25 : Int32 → Int32 → Int32 → Int32 → Hp → Prop} (hK25 : ∀ (a1 : Int32) (a2 : Int32) (a3 : Int32) (a4 : Int32) (x5 : Option AVal) (x6 : Option AVal) (h : Hp) (c n : Nat), c + 0 ≤ 0 → n + 0 ≤ 0 → K25 a1 a2 a3 a4 h → SW E 25 ([some (vP (some (12, 0))), some (vI (a1)), some (vI (a2)), some (vI (a3)), some (vI (a4)), x5, x6], [], h, c, n)) {a1 : Int32} {a2 : Int32} {a3 : Int32} {a4 : Int32} {x5 : Option AVal} {x6 : Option AVal} {s1 : Int32} {h : Hp} {c n : Nat} (hc : c + 0 ≤ 0) (hn : n + 0 ≤ 0) (w : w_X12_loads_54 K25 Q a1 a2 a3 a4 s1 h) : SW E 54 ([some (vP (some (12, 0))), some (vI (a1)), some (vI (a2)), some (vI (a3)), some (vI (a4)), x5, x6], [vI (s1), vP (some (160, 0))], h, c, n) := by
  refine k_X12_loads_t_54 cx hY (ctY hY (vc_X12_wantsHome (d := d + 2) w)) (by omega) (by omega) (by omega) (fun r h2 hp => ?_)
  obtain ⟨r2, rfl, w⟩ := hp
  exact s_X12_loads_61 cx hY eq hK25 (by omega) (by omega) w
theorem s_X12_loads_51 {E : EnvT} {d : Nat} (cx : CX E "ShoreDayModel" cX12_loads 7 none "loads" (d + 4) 0 0) (hY : eY E = lay1) {Q : Hp → Prop} (eq : EQ E 0 0 (fun r h2 => r = [] ∧ Q h2)) {K25 : Int32 → Int32 → Int32 → Int32 → Hp → Prop} (hK25 : ∀ (a1 : Int32) (a2 : Int32) (a3 : Int32) (a4 : Int32) (x5 : Option AVal) (x6 : Option AVal) (h : Hp) (c n : Nat), c + 0 ≤ 0 → n + 0 ≤ 0 → K25 a1 a2 a3 a4 h → SW E 25 ([some (vP (some (12, 0))), some (vI (a1)), some (vI (a2)), some (vI (a3)), some (vI (a4)), x5, x6], [], h, c, n)) {a1 : Int32} {a2 : Int32} {a3 : Int32} {a4 : Int32} {x5 : Option AVal} {x6 : Option AVal} {s1 : Int32} {s2 : Int32} {h : Hp} {c n : Nat} (hc : c + 0 ≤ 0) (hn : n + 0 ≤ 0) (w : w_X12_loads_51 K25 Q a1 a2 a3 a4 s1 s2 h) : SW E 51 ([some (vP (some (12, 0))), some (vI (a1)), some (vI (a2)), some (vI (a3)), some (vI (a4)), x5, x6], [vI (s2), vI (s1), vP (some (160, 0))], h, c, n) := by
  refine k_X12_loads_t_51 cx hY ?_
  exact s_X12_loads_61 cx hY eq hK25 (by omega) (by omega) w
theorem s_X12_loads_44 {E : EnvT} {d : Nat} (cx : CX E "ShoreDayModel" cX12_loads 7 none "loads" (d + 4) 0 0) (hY : eY E = lay1) {Q : Hp → Prop} (eq : EQ E 0 0 (fun r h2 => r = [] ∧ Q h2)) {K25 : Int32 → Int32 → Int32 → Int32 → Hp → Prop} (hK25 : ∀ (a1 : Int32) (a2 : Int32) (a3 : Int32) (a4 : Int32) (x5 : Option AVal) (x6 : Option AVal) (h : Hp) (c n : Nat), c + 0 ≤ 0 → n + 0 ≤ 0 → K25 a1 a2 a3 a4 h → SW E 25 ([some (vP (some (12, 0))), some (vI (a1)), some (vI (a2)), some (vI (a3)), some (vI (a4)), x5, x6], [], h, c, n)) {a1 : Int32} {a2 : Int32} {a3 : Int32} {a4 : Int32} {x5 : Option AVal} {x6 : Option AVal} {s1 : Int32} {h : Hp} {c n : Nat} (hc : c + 0 ≤ 0) (hn : n + 0 ≤ 0) (w : w_X12_loads_44 K25 Q a1 a2 a3 a4 s1 h) : SW E 44 ([some (vP (some (12, 0))), some (vI (a1)), some (vI (a2)), some (vI (a3)), some (vI (a4)), x5, x6], [vI (s1), vP (some (160, 0))], h, c, n) := by
  refine k_X12_loads_t_44 cx hY (ctY hY (vc_X12_wantsOut (d := d + 2) w)) (by omega) (by omega) (by omega) (fun r h2 hp => ?_)
  obtain ⟨r2, rfl, w⟩ := hp
  exact s_X12_loads_51 cx hY eq hK25 (by omega) (by omega) w
theorem s_X12_loads_34 {E : EnvT} {d : Nat} (cx : CX E "ShoreDayModel" cX12_loads 7 none "loads" (d + 4) 0 0) (hY : eY E = lay1) {Q : Hp → Prop} (eq : EQ E 0 0 (fun r h2 => r = [] ∧ Q h2)) {K25 : Int32 → Int32 → Int32 → Int32 → Hp → Prop} (hK25 : ∀ (a1 : Int32) (a2 : Int32) (a3 : Int32) (a4 : Int32) (x5 : Option AVal) (x6 : Option AVal) (h : Hp) (c n : Nat), c + 0 ≤ 0 → n + 0 ≤ 0 → K25 a1 a2 a3 a4 h → SW E 25 ([some (vP (some (12, 0))), some (vI (a1)), some (vI (a2)), some (vI (a3)), some (vI (a4)), x5, x6], [], h, c, n)) {a1 : Int32} {a2 : Int32} {a3 : Int32} {a4 : Int32} {x5 : Option AVal} {x6 : Option AVal} {h : Hp} {c n : Nat} (hc : c + 0 ≤ 0) (hn : n + 0 ≤ 0) (w : w_X12_loads_34 K25 Q a1 a2 a3 a4 h) : SW E 34 ([some (vP (some (12, 0))), some (vI (a1)), some (vI (a2)), some (vI (a3)), some (vI (a4)), x5, x6], [], h, c, n) := by
  refine k_X12_loads_t_34 cx hY (fun q => ?_) (fun q => ?_)
  · have w := w.1 q
    exact s_X12_loads_54 cx hY eq hK25 (by omega) (by omega) w
  · have w := w.2 q
    exact s_X12_loads_44 cx hY eq hK25 (by omega) (by omega) w
theorem s_X12_loads_25 {E : EnvT} {d : Nat} (cx : CX E "ShoreDayModel" cX12_loads 7 none "loads" (d + 4) 0 0) (hY : eY E = lay1) {Q : Hp → Prop} (eq : EQ E 0 0 (fun r h2 => r = [] ∧ Q h2)) : ∀ (N : Nat) (a1 : Int32) (a2 : Int32) (a3 : Int32) (a4 : Int32) (x5 : Option AVal) (x6 : Option AVal) (h : Hp) (c n : Nat), c + 0 ≤ 0 → n + 0 ≤ 0 → w_X12_loads_25  Q N a1 a2 a3 a4 h → SW E 25 ([some (vP (some (12, 0))), some (vI (a1)), some (vI (a2)), some (vI (a3)), some (vI (a4)), x5, x6], [], h, c, n) := by
  intro N
  induction N with
  | zero =>
    intro _ _ _ _ _ _ h c n _ _ w
    exact w.elim
  | succ N ih =>
    intro a1 a2 a3 a4 x5 x6 h c n hc hn w
    refine k_X12_loads_t_25 cx hY (fun q => ?_) (fun q => ?_)
    · have w := w.1 q
      exact s_X12_loads_68 cx hY eq  (by omega) (by omega) w
    · have w := w.2 q
      exact s_X12_loads_34 cx hY eq ih (by omega) (by omega) w
theorem s_X12_loads_14 {E : EnvT} {d : Nat} (cx : CX E "ShoreDayModel" cX12_loads 7 none "loads" (d + 4) 0 0) (hY : eY E = lay1) {Q : Hp → Prop} (eq : EQ E 0 0 (fun r h2 => r = [] ∧ Q h2)) {a1 : Int32} {x2 : Option AVal} {x3 : Option AVal} {x4 : Option AVal} {x5 : Option AVal} {x6 : Option AVal} {s0 : Int32} {h : Hp} {c n : Nat} (hc : c + 0 ≤ 0) (hn : n + 0 ≤ 0) (w : w_X12_loads_14  Q a1 s0 h) : SW E 14 ([some (vP (some (12, 0))), some (vI (a1)), x2, x3, x4, x5, x6], [vI (s0)], h, c, n) := by
  obtain ⟨G1, w⟩ := w
  refine k_X12_loads_t_14 cx hY G1 ?_
  obtain ⟨N1, w⟩ := w
  exact s_X12_loads_25 cx hY eq  _ _ _ _ _ _ _ _ _ _ (by omega) (by omega) w
theorem s_X12_loads_13 {E : EnvT} {d : Nat} (cx : CX E "ShoreDayModel" cX12_loads 7 none "loads" (d + 4) 0 0) (hY : eY E = lay1) {Q : Hp → Prop} (eq : EQ E 0 0 (fun r h2 => r = [] ∧ Q h2)) {a1 : Int32} {x2 : Option AVal} {x3 : Option AVal} {x4 : Option AVal} {x5 : Option AVal} {x6 : Option AVal} {h : Hp} {c n : Nat} (hc : c + 0 ≤ 0) (hn : n + 0 ≤ 0) (w : w_X12_loads_13  Q a1 h) : SW E 13 ([some (vP (some (12, 0))), some (vI (a1)), x2, x3, x4, x5, x6], [], h, c, n) := by
  refine k_X12_loads_t_13 cx hY ?_
  exact s_X12_loads_14 cx hY eq  (by omega) (by omega) w
theorem s_X12_loads_9 {E : EnvT} {d : Nat} (cx : CX E "ShoreDayModel" cX12_loads 7 none "loads" (d + 4) 0 0) (hY : eY E = lay1) {Q : Hp → Prop} (eq : EQ E 0 0 (fun r h2 => r = [] ∧ Q h2)) {a1 : Int32} {x2 : Option AVal} {x3 : Option AVal} {x4 : Option AVal} {x5 : Option AVal} {x6 : Option AVal} {h : Hp} {c n : Nat} (hc : c + 0 ≤ 0) (hn : n + 0 ≤ 0) (w : w_X12_loads_9  Q a1 h) : SW E 9 ([some (vP (some (12, 0))), some (vI (a1)), x2, x3, x4, x5, x6], [], h, c, n) := by
  refine k_X12_loads_t_9 cx hY ?_
  exact s_X12_loads_14 cx hY eq  (by omega) (by omega) w
theorem s_X12_loads_0 {E : EnvT} {d : Nat} (cx : CX E "ShoreDayModel" cX12_loads 7 none "loads" (d + 4) 0 0) (hY : eY E = lay1) {Q : Hp → Prop} (eq : EQ E 0 0 (fun r h2 => r = [] ∧ Q h2)) {a1 : Int32} {x2 : Option AVal} {x3 : Option AVal} {x4 : Option AVal} {x5 : Option AVal} {x6 : Option AVal} {h : Hp} {c n : Nat} (hc : c + 0 ≤ 0) (hn : n + 0 ≤ 0) (w : w_X12_loads_0  Q a1 h) : SW E 0 ([some (vP (some (12, 0))), some (vI (a1)), x2, x3, x4, x5, x6], [], h, c, n) := by
  obtain ⟨G1, w⟩ := w
  refine k_X12_loads_t_0 cx hY G1 (fun q => ?_) (fun q => ?_)
  · have w := w.1 q
    exact s_X12_loads_13 cx hY eq  (by omega) (by omega) w
  · have w := w.2 q
    exact s_X12_loads_9 cx hY eq  (by omega) (by omega) w
def wp_X12_loads (a1 : Int32) (h : Hp) (Q : Hp → Prop) : Prop := w_X12_loads_0 Q a1 h
theorem vc_X12_loads {l : Launch} {d : Nat} {a1 : Int32} {h : Hp} {Q : Hp → Prop} (w : wp_X12_loads a1 h Q) : Ct l lay1 yX12_loads cX12_loads 7 none (d + 4) 0 0 [vP (some (12, 0)), vI a1] h (fun r h2 => r = [] ∧ Q h2) := by
  exact Ct.of (by decide) (Nat.le_of_ble_eq_true rfl) fun E cx eq hl hY => s_X12_loads_0 cx hY eq (Nat.le_refl _) (Nat.le_refl _) w
def w_X12_minute_206 (Q : Hp → Prop) (a1 : Int32) (h : Hp) : Prop := Q (h)
def w_X12_minute_200 (K161 : Int32 → Hp → Prop) (Q : Hp → Prop) (a1 : Int32) (h : Hp) : Prop := K161 (a1 + 1) (h)
def w_X12_minute_195 (K161 : Int32 → Hp → Prop) (Q : Hp → Prop) (a1 : Int32) (h : Hp) : Prop := wp_X12_loads (a1) (h) (fun h2 => w_X12_minute_200 K161 Q (a1) (h2))
def w_X12_minute_185 (K161 : Int32 → Hp → Prop) (Q : Hp → Prop) (a1 : Int32) (h : Hp) : Prop := vp_in (a1) 6 ∧ ((¬ (gI (h) 133 (0) (tN (a1))) = ((2 : Int32)) → w_X12_minute_200 K161 Q (a1) (h)) ∧ ((gI (h) 133 (0) (tN (a1))) = ((2 : Int32)) → w_X12_minute_195 K161 Q (a1) (h)))
def w_X12_minute_176 (K161 : Int32 → Hp → Prop) (Q : Hp → Prop) (a1 : Int32) (h : Hp) : Prop := vp_in (a1) 6 ∧ (((gI (h) 133 (0) (tN (a1))) = 0 → w_X12_minute_195 K161 Q (a1) (h)) ∧ (¬ (gI (h) 133 (0) (tN (a1))) = 0 → w_X12_minute_185 K161 Q (a1) (h)))
def w_X12_minute_173 (K161 : Int32 → Hp → Prop) (Q : Hp → Prop) (a1 : Int32) (s0 : Int32) (h : Hp) : Prop := (¬ (s0) = 0 → w_X12_minute_206  Q (a1) (h)) ∧ ((s0) = 0 → w_X12_minute_176 K161 Q (a1) (h))
def w_X12_minute_169 (K161 : Int32 → Hp → Prop) (Q : Hp → Prop) (a1 : Int32) (h : Hp) : Prop := wp_X12_isShut  (h) (fun r2 h2 => w_X12_minute_173 K161 Q (a1) (r2) (h2))
def w_X12_minute_161 (Q : Hp → Prop) : Nat → Int32 → Hp → Prop
  | 0 => fun _ _ => False
  | N + 1 => fun a1 h => ((gI (h) 12 (0) (30)) ≤ (a1) → w_X12_minute_206  Q (a1) (h)) ∧ (¬ (gI (h) 12 (0) (30)) ≤ (a1) → w_X12_minute_169 (w_X12_minute_161  Q N) Q (a1) (h))
def w_X12_minute_159 (Q : Hp → Prop) (a1 : Int32) (h : Hp) : Prop := ∃ N, w_X12_minute_161  Q N ((0 : Int32)) (h)
def w_X12_minute_153 (K127 : Int32 → Hp → Prop) (Q : Hp → Prop) (a1 : Int32) (h : Hp) : Prop := K127 (a1 + 1) (h)
def w_X12_minute_148 (K127 : Int32 → Hp → Prop) (Q : Hp → Prop) (a1 : Int32) (h : Hp) : Prop := wp_X12_sailsOff (a1) (h) (fun h2 => w_X12_minute_153 K127 Q (a1) (h2))
def w_X12_minute_135 (K127 : Int32 → Hp → Prop) (Q : Hp → Prop) (a1 : Int32) (h : Hp) : Prop := vp_in (a1) 4 ∧ ((¬ (gI (h) 128 (0) (tN (a1))) = (gI (h) 12 (0) (24)) → w_X12_minute_153 K127 Q (a1) (h)) ∧ ((gI (h) 128 (0) (tN (a1))) = (gI (h) 12 (0) (24)) → w_X12_minute_148 K127 Q (a1) (h)))
def w_X12_minute_127 (Q : Hp → Prop) : Nat → Int32 → Hp → Prop
  | 0 => fun _ _ => False
  | N + 1 => fun a1 h => ((gI (h) 12 (0) (26)) ≤ (a1) → w_X12_minute_159  Q (a1) (h)) ∧ (¬ (gI (h) 12 (0) (26)) ≤ (a1) → w_X12_minute_135 (w_X12_minute_127  Q N) Q (a1) (h))
def w_X12_minute_125 (Q : Hp → Prop) (a1 : Int32) (h : Hp) : Prop := ∃ N, w_X12_minute_127  Q N ((0 : Int32)) (h)
def w_X12_minute_119 (K106 : Int32 → Hp → Prop) (Q : Hp → Prop) (a1 : Int32) (h : Hp) : Prop := K106 (a1 + 1) (h)
def w_X12_minute_114 (K106 : Int32 → Hp → Prop) (Q : Hp → Prop) (a1 : Int32) (h : Hp) : Prop := wp_X12_ends (a1) (h) (fun h2 => w_X12_minute_119 K106 Q (a1) (h2))
def w_X12_minute_106 (Q : Hp → Prop) : Nat → Int32 → Hp → Prop
  | 0 => fun _ _ => False
  | N + 1 => fun a1 h => ((gI (h) 12 (0) (41)) ≤ (a1) → w_X12_minute_125  Q (a1) (h)) ∧ (¬ (gI (h) 12 (0) (41)) ≤ (a1) → w_X12_minute_114 (w_X12_minute_106  Q N) Q (a1) (h))
def w_X12_minute_104 (Q : Hp → Prop) (a1 : Int32) (h : Hp) : Prop := ∃ N, w_X12_minute_106  Q N ((0 : Int32)) (h)
def w_X12_minute_98 (K72 : Int32 → Hp → Prop) (Q : Hp → Prop) (a1 : Int32) (h : Hp) : Prop := K72 (a1 + 1) (h)
def w_X12_minute_93 (K72 : Int32 → Hp → Prop) (Q : Hp → Prop) (a1 : Int32) (h : Hp) : Prop := wp_X12_starts (a1) (h) (fun h2 => w_X12_minute_98 K72 Q (a1) (h2))
def w_X12_minute_80 (K72 : Int32 → Hp → Prop) (Q : Hp → Prop) (a1 : Int32) (h : Hp) : Prop := vp_in (a1) 8 ∧ ((¬ (gI (h) 136 (0) (tN (a1))) = (gI (h) 12 (0) (24)) → w_X12_minute_98 K72 Q (a1) (h)) ∧ ((gI (h) 136 (0) (tN (a1))) = (gI (h) 12 (0) (24)) → w_X12_minute_93 K72 Q (a1) (h)))
def w_X12_minute_72 (Q : Hp → Prop) : Nat → Int32 → Hp → Prop
  | 0 => fun _ _ => False
  | N + 1 => fun a1 h => ((gI (h) 12 (0) (35)) ≤ (a1) → w_X12_minute_104  Q (a1) (h)) ∧ (¬ (gI (h) 12 (0) (35)) ≤ (a1) → w_X12_minute_80 (w_X12_minute_72  Q N) Q (a1) (h))
def w_X12_minute_70 (Q : Hp → Prop) (a1 : Int32) (h : Hp) : Prop := ∃ N, w_X12_minute_72  Q N ((0 : Int32)) (h)
def w_X12_minute_64 (K12 : Int32 → Hp → Prop) (Q : Hp → Prop) (a1 : Int32) (h : Hp) : Prop := K12 (a1 + 1) (h)
def w_X12_minute_59 (K12 : Int32 → Hp → Prop) (Q : Hp → Prop) (a1 : Int32) (h : Hp) : Prop := wp_X12_arrives (a1) (h) (fun h2 => w_X12_minute_64 K12 Q (a1) (h2))
def w_X12_minute_40 (K12 : Int32 → Hp → Prop) (Q : Hp → Prop) (a1 : Int32) (h : Hp) : Prop := vp_in (a1) 6 ∧ (vp_in (a1) 6 ∧ (vp_in (a1) 6 ∧ ((¬ (gI (wI (h) 134 (0) (tN (a1)) ((gI (h) 134 (0) (tN (a1))) - ((1 : Int32)))) 134 (0) (tN (a1))) = 0 → w_X12_minute_64 K12 Q (a1) (wI (h) 134 (0) (tN (a1)) ((gI (h) 134 (0) (tN (a1))) - ((1 : Int32))))) ∧ ((gI (wI (h) 134 (0) (tN (a1)) ((gI (h) 134 (0) (tN (a1))) - ((1 : Int32)))) 134 (0) (tN (a1))) = 0 → w_X12_minute_59 K12 Q (a1) (wI (h) 134 (0) (tN (a1)) ((gI (h) 134 (0) (tN (a1))) - ((1 : Int32))))))))
def w_X12_minute_30 (K12 : Int32 → Hp → Prop) (Q : Hp → Prop) (a1 : Int32) (h : Hp) : Prop := vp_in (a1) 6 ∧ ((¬ (gI (h) 133 (0) (tN (a1))) = ((3 : Int32)) → w_X12_minute_64 K12 Q (a1) (h)) ∧ ((gI (h) 133 (0) (tN (a1))) = ((3 : Int32)) → w_X12_minute_40 K12 Q (a1) (h)))
def w_X12_minute_20 (K12 : Int32 → Hp → Prop) (Q : Hp → Prop) (a1 : Int32) (h : Hp) : Prop := vp_in (a1) 6 ∧ (((gI (h) 133 (0) (tN (a1))) = ((1 : Int32)) → w_X12_minute_40 K12 Q (a1) (h)) ∧ (¬ (gI (h) 133 (0) (tN (a1))) = ((1 : Int32)) → w_X12_minute_30 K12 Q (a1) (h)))
def w_X12_minute_12 (Q : Hp → Prop) : Nat → Int32 → Hp → Prop
  | 0 => fun _ _ => False
  | N + 1 => fun a1 h => ((gI (h) 12 (0) (30)) ≤ (a1) → w_X12_minute_70  Q (a1) (h)) ∧ (¬ (gI (h) 12 (0) (30)) ≤ (a1) → w_X12_minute_20 (w_X12_minute_12  Q N) Q (a1) (h))
def w_X12_minute_0 (Q : Hp → Prop) (h : Hp) : Prop := ∃ N, w_X12_minute_12  Q N ((0 : Int32)) (wI (h) 12 (0) 24 ((gI (h) 12 (0) (24)) + ((1 : Int32))))
theorem s_X12_minute_206 {E : EnvT} {d : Nat} (cx : CX E "ShoreDayModel" cX12_minute 2 none "minute" (d + 5) 0 0) (hY : eY E = lay1) {Q : Hp → Prop} (eq : EQ E 0 0 (fun r h2 => r = [] ∧ Q h2)) {a1 : Int32} {h : Hp} {c n : Nat} (hc : c + 0 ≤ 0) (hn : n + 0 ≤ 0) (w : w_X12_minute_206  Q a1 h) : SW E 206 ([some (vP (some (12, 0))), some (vI (a1))], [], h, c, n) := by
  exact k_X12_minute_206 cx hY eq (by omega) (by omega) ⟨rfl, w⟩
theorem s_X12_minute_200 {E : EnvT} {d : Nat} (cx : CX E "ShoreDayModel" cX12_minute 2 none "minute" (d + 5) 0 0) (hY : eY E = lay1) {Q : Hp → Prop} (eq : EQ E 0 0 (fun r h2 => r = [] ∧ Q h2)) {K161 : Int32 → Hp → Prop} (hK161 : ∀ (a1 : Int32) (h : Hp) (c n : Nat), c + 0 ≤ 0 → n + 0 ≤ 0 → K161 a1 h → SW E 161 ([some (vP (some (12, 0))), some (vI (a1))], [], h, c, n)) {a1 : Int32} {h : Hp} {c n : Nat} (hc : c + 0 ≤ 0) (hn : n + 0 ≤ 0) (w : w_X12_minute_200 K161 Q a1 h) : SW E 200 ([some (vP (some (12, 0))), some (vI (a1))], [], h, c, n) := by
  refine k_X12_minute_200 cx hY ?_
  exact hK161 _ _ _ _ (by omega) (by omega) w
theorem s_X12_minute_195 {E : EnvT} {d : Nat} (cx : CX E "ShoreDayModel" cX12_minute 2 none "minute" (d + 5) 0 0) (hY : eY E = lay1) {Q : Hp → Prop} (eq : EQ E 0 0 (fun r h2 => r = [] ∧ Q h2)) {K161 : Int32 → Hp → Prop} (hK161 : ∀ (a1 : Int32) (h : Hp) (c n : Nat), c + 0 ≤ 0 → n + 0 ≤ 0 → K161 a1 h → SW E 161 ([some (vP (some (12, 0))), some (vI (a1))], [], h, c, n)) {a1 : Int32} {h : Hp} {c n : Nat} (hc : c + 0 ≤ 0) (hn : n + 0 ≤ 0) (w : w_X12_minute_195 K161 Q a1 h) : SW E 195 ([some (vP (some (12, 0))), some (vI (a1))], [], h, c, n) := by
  refine k_X12_minute_195 cx hY (ctY hY (vc_X12_loads (d := d + 0) w)) (by omega) (by omega) (by omega) (fun r h2 hp => ?_)
  obtain ⟨rfl, w⟩ := hp
  exact s_X12_minute_200 cx hY eq hK161 (by omega) (by omega) w
theorem s_X12_minute_185 {E : EnvT} {d : Nat} (cx : CX E "ShoreDayModel" cX12_minute 2 none "minute" (d + 5) 0 0) (hY : eY E = lay1) {Q : Hp → Prop} (eq : EQ E 0 0 (fun r h2 => r = [] ∧ Q h2)) {K161 : Int32 → Hp → Prop} (hK161 : ∀ (a1 : Int32) (h : Hp) (c n : Nat), c + 0 ≤ 0 → n + 0 ≤ 0 → K161 a1 h → SW E 161 ([some (vP (some (12, 0))), some (vI (a1))], [], h, c, n)) {a1 : Int32} {h : Hp} {c n : Nat} (hc : c + 0 ≤ 0) (hn : n + 0 ≤ 0) (w : w_X12_minute_185 K161 Q a1 h) : SW E 185 ([some (vP (some (12, 0))), some (vI (a1))], [], h, c, n) := by
  obtain ⟨G1, w⟩ := w
  refine k_X12_minute_185 cx hY G1 (fun q => ?_) (fun q => ?_)
  · have w := w.1 q
    exact s_X12_minute_200 cx hY eq hK161 (by omega) (by omega) w
  · have w := w.2 q
    exact s_X12_minute_195 cx hY eq hK161 (by omega) (by omega) w
theorem s_X12_minute_176 {E : EnvT} {d : Nat} (cx : CX E "ShoreDayModel" cX12_minute 2 none "minute" (d + 5) 0 0) (hY : eY E = lay1) {Q : Hp → Prop} (eq : EQ E 0 0 (fun r h2 => r = [] ∧ Q h2)) {K161 : Int32 → Hp → Prop} (hK161 : ∀ (a1 : Int32) (h : Hp) (c n : Nat), c + 0 ≤ 0 → n + 0 ≤ 0 → K161 a1 h → SW E 161 ([some (vP (some (12, 0))), some (vI (a1))], [], h, c, n)) {a1 : Int32} {h : Hp} {c n : Nat} (hc : c + 0 ≤ 0) (hn : n + 0 ≤ 0) (w : w_X12_minute_176 K161 Q a1 h) : SW E 176 ([some (vP (some (12, 0))), some (vI (a1))], [], h, c, n) := by
  obtain ⟨G1, w⟩ := w
  refine k_X12_minute_176 cx hY G1 (fun q => ?_) (fun q => ?_)
  · have w := w.1 q
    exact s_X12_minute_195 cx hY eq hK161 (by omega) (by omega) w
  · have w := w.2 q
    exact s_X12_minute_185 cx hY eq hK161 (by omega) (by omega) w
theorem s_X12_minute_173 {E : EnvT} {d : Nat} (cx : CX E "ShoreDayModel" cX12_minute 2 none "minute" (d + 5) 0 0) (hY : eY E = lay1) {Q : Hp → Prop} (eq : EQ E 0 0 (fun r h2 => r = [] ∧ Q h2)) {K161 : Int32 → Hp → Prop} (hK161 : ∀ (a1 : Int32) (h : Hp) (c n : Nat), c + 0 ≤ 0 → n + 0 ≤ 0 → K161 a1 h → SW E 161 ([some (vP (some (12, 0))), some (vI (a1))], [], h, c, n)) {a1 : Int32} {s0 : Int32} {h : Hp} {c n : Nat} (hc : c + 0 ≤ 0) (hn : n + 0 ≤ 0) (w : w_X12_minute_173 K161 Q a1 s0 h) : SW E 173 ([some (vP (some (12, 0))), some (vI (a1))], [vI (s0)], h, c, n) := by
  refine k_X12_minute_173 cx hY (fun q => ?_) (fun q => ?_)
  · have w := w.1 q
    exact s_X12_minute_206 cx hY eq  (by omega) (by omega) w
  · have w := w.2 q
    exact s_X12_minute_176 cx hY eq hK161 (by omega) (by omega) w
theorem s_X12_minute_169 {E : EnvT} {d : Nat} (cx : CX E "ShoreDayModel" cX12_minute 2 none "minute" (d + 5) 0 0) (hY : eY E = lay1) {Q : Hp → Prop} (eq : EQ E 0 0 (fun r h2 => r = [] ∧ Q h2)) {K161 : Int32 → Hp → Prop} (hK161 : ∀ (a1 : Int32) (h : Hp) (c n : Nat), c + 0 ≤ 0 → n + 0 ≤ 0 → K161 a1 h → SW E 161 ([some (vP (some (12, 0))), some (vI (a1))], [], h, c, n)) {a1 : Int32} {h : Hp} {c n : Nat} (hc : c + 0 ≤ 0) (hn : n + 0 ≤ 0) (w : w_X12_minute_169 K161 Q a1 h) : SW E 169 ([some (vP (some (12, 0))), some (vI (a1))], [], h, c, n) := by
  refine k_X12_minute_169 cx hY (ctY hY (vc_X12_isShut (d := d + 2) w)) (by omega) (by omega) (by omega) (fun r h2 hp => ?_)
  obtain ⟨r2, rfl, w⟩ := hp
  exact s_X12_minute_173 cx hY eq hK161 (by omega) (by omega) w
theorem s_X12_minute_161 {E : EnvT} {d : Nat} (cx : CX E "ShoreDayModel" cX12_minute 2 none "minute" (d + 5) 0 0) (hY : eY E = lay1) {Q : Hp → Prop} (eq : EQ E 0 0 (fun r h2 => r = [] ∧ Q h2)) : ∀ (N : Nat) (a1 : Int32) (h : Hp) (c n : Nat), c + 0 ≤ 0 → n + 0 ≤ 0 → w_X12_minute_161  Q N a1 h → SW E 161 ([some (vP (some (12, 0))), some (vI (a1))], [], h, c, n) := by
  intro N
  induction N with
  | zero =>
    intro _ h c n _ _ w
    exact w.elim
  | succ N ih =>
    intro a1 h c n hc hn w
    refine k_X12_minute_161 cx hY (fun q => ?_) (fun q => ?_)
    · have w := w.1 q
      exact s_X12_minute_206 cx hY eq  (by omega) (by omega) w
    · have w := w.2 q
      exact s_X12_minute_169 cx hY eq ih (by omega) (by omega) w
theorem s_X12_minute_159 {E : EnvT} {d : Nat} (cx : CX E "ShoreDayModel" cX12_minute 2 none "minute" (d + 5) 0 0) (hY : eY E = lay1) {Q : Hp → Prop} (eq : EQ E 0 0 (fun r h2 => r = [] ∧ Q h2)) {a1 : Int32} {h : Hp} {c n : Nat} (hc : c + 0 ≤ 0) (hn : n + 0 ≤ 0) (w : w_X12_minute_159  Q a1 h) : SW E 159 ([some (vP (some (12, 0))), some (vI (a1))], [], h, c, n) := by
  refine k_X12_minute_159 cx hY ?_
  obtain ⟨N1, w⟩ := w
  exact s_X12_minute_161 cx hY eq  _ _ _ _ _ (by omega) (by omega) w
theorem s_X12_minute_153 {E : EnvT} {d : Nat} (cx : CX E "ShoreDayModel" cX12_minute 2 none "minute" (d + 5) 0 0) (hY : eY E = lay1) {Q : Hp → Prop} (eq : EQ E 0 0 (fun r h2 => r = [] ∧ Q h2)) {K127 : Int32 → Hp → Prop} (hK127 : ∀ (a1 : Int32) (h : Hp) (c n : Nat), c + 0 ≤ 0 → n + 0 ≤ 0 → K127 a1 h → SW E 127 ([some (vP (some (12, 0))), some (vI (a1))], [], h, c, n)) {a1 : Int32} {h : Hp} {c n : Nat} (hc : c + 0 ≤ 0) (hn : n + 0 ≤ 0) (w : w_X12_minute_153 K127 Q a1 h) : SW E 153 ([some (vP (some (12, 0))), some (vI (a1))], [], h, c, n) := by
  refine k_X12_minute_153 cx hY ?_
  exact hK127 _ _ _ _ (by omega) (by omega) w
theorem s_X12_minute_148 {E : EnvT} {d : Nat} (cx : CX E "ShoreDayModel" cX12_minute 2 none "minute" (d + 5) 0 0) (hY : eY E = lay1) {Q : Hp → Prop} (eq : EQ E 0 0 (fun r h2 => r = [] ∧ Q h2)) {K127 : Int32 → Hp → Prop} (hK127 : ∀ (a1 : Int32) (h : Hp) (c n : Nat), c + 0 ≤ 0 → n + 0 ≤ 0 → K127 a1 h → SW E 127 ([some (vP (some (12, 0))), some (vI (a1))], [], h, c, n)) {a1 : Int32} {h : Hp} {c n : Nat} (hc : c + 0 ≤ 0) (hn : n + 0 ≤ 0) (w : w_X12_minute_148 K127 Q a1 h) : SW E 148 ([some (vP (some (12, 0))), some (vI (a1))], [], h, c, n) := by
  refine k_X12_minute_148 cx hY (ctY hY (vc_X12_sailsOff (d := d + 2) w)) (by omega) (by omega) (by omega) (fun r h2 hp => ?_)
  obtain ⟨rfl, w⟩ := hp
  exact s_X12_minute_153 cx hY eq hK127 (by omega) (by omega) w
theorem s_X12_minute_135 {E : EnvT} {d : Nat} (cx : CX E "ShoreDayModel" cX12_minute 2 none "minute" (d + 5) 0 0) (hY : eY E = lay1) {Q : Hp → Prop} (eq : EQ E 0 0 (fun r h2 => r = [] ∧ Q h2)) {K127 : Int32 → Hp → Prop} (hK127 : ∀ (a1 : Int32) (h : Hp) (c n : Nat), c + 0 ≤ 0 → n + 0 ≤ 0 → K127 a1 h → SW E 127 ([some (vP (some (12, 0))), some (vI (a1))], [], h, c, n)) {a1 : Int32} {h : Hp} {c n : Nat} (hc : c + 0 ≤ 0) (hn : n + 0 ≤ 0) (w : w_X12_minute_135 K127 Q a1 h) : SW E 135 ([some (vP (some (12, 0))), some (vI (a1))], [], h, c, n) := by
  obtain ⟨G1, w⟩ := w
  refine k_X12_minute_135 cx hY G1 (fun q => ?_) (fun q => ?_)
  · have w := w.1 q
    exact s_X12_minute_153 cx hY eq hK127 (by omega) (by omega) w
  · have w := w.2 q
    exact s_X12_minute_148 cx hY eq hK127 (by omega) (by omega) w
theorem s_X12_minute_127 {E : EnvT} {d : Nat} (cx : CX E "ShoreDayModel" cX12_minute 2 none "minute" (d + 5) 0 0) (hY : eY E = lay1) {Q : Hp → Prop} (eq : EQ E 0 0 (fun r h2 => r = [] ∧ Q h2)) : ∀ (N : Nat) (a1 : Int32) (h : Hp) (c n : Nat), c + 0 ≤ 0 → n + 0 ≤ 0 → w_X12_minute_127  Q N a1 h → SW E 127 ([some (vP (some (12, 0))), some (vI (a1))], [], h, c, n) := by
  intro N
  induction N with
  | zero =>
    intro _ h c n _ _ w
    exact w.elim
  | succ N ih =>
    intro a1 h c n hc hn w
    refine k_X12_minute_127 cx hY (fun q => ?_) (fun q => ?_)
    · have w := w.1 q
      exact s_X12_minute_159 cx hY eq  (by omega) (by omega) w
    · have w := w.2 q
      exact s_X12_minute_135 cx hY eq ih (by omega) (by omega) w
theorem s_X12_minute_125 {E : EnvT} {d : Nat} (cx : CX E "ShoreDayModel" cX12_minute 2 none "minute" (d + 5) 0 0) (hY : eY E = lay1) {Q : Hp → Prop} (eq : EQ E 0 0 (fun r h2 => r = [] ∧ Q h2)) {a1 : Int32} {h : Hp} {c n : Nat} (hc : c + 0 ≤ 0) (hn : n + 0 ≤ 0) (w : w_X12_minute_125  Q a1 h) : SW E 125 ([some (vP (some (12, 0))), some (vI (a1))], [], h, c, n) := by
  refine k_X12_minute_125 cx hY ?_
  obtain ⟨N1, w⟩ := w
  exact s_X12_minute_127 cx hY eq  _ _ _ _ _ (by omega) (by omega) w
theorem s_X12_minute_119 {E : EnvT} {d : Nat} (cx : CX E "ShoreDayModel" cX12_minute 2 none "minute" (d + 5) 0 0) (hY : eY E = lay1) {Q : Hp → Prop} (eq : EQ E 0 0 (fun r h2 => r = [] ∧ Q h2)) {K106 : Int32 → Hp → Prop} (hK106 : ∀ (a1 : Int32) (h : Hp) (c n : Nat), c + 0 ≤ 0 → n + 0 ≤ 0 → K106 a1 h → SW E 106 ([some (vP (some (12, 0))), some (vI (a1))], [], h, c, n)) {a1 : Int32} {h : Hp} {c n : Nat} (hc : c + 0 ≤ 0) (hn : n + 0 ≤ 0) (w : w_X12_minute_119 K106 Q a1 h) : SW E 119 ([some (vP (some (12, 0))), some (vI (a1))], [], h, c, n) := by
  refine k_X12_minute_119 cx hY ?_
  exact hK106 _ _ _ _ (by omega) (by omega) w
theorem s_X12_minute_114 {E : EnvT} {d : Nat} (cx : CX E "ShoreDayModel" cX12_minute 2 none "minute" (d + 5) 0 0) (hY : eY E = lay1) {Q : Hp → Prop} (eq : EQ E 0 0 (fun r h2 => r = [] ∧ Q h2)) {K106 : Int32 → Hp → Prop} (hK106 : ∀ (a1 : Int32) (h : Hp) (c n : Nat), c + 0 ≤ 0 → n + 0 ≤ 0 → K106 a1 h → SW E 106 ([some (vP (some (12, 0))), some (vI (a1))], [], h, c, n)) {a1 : Int32} {h : Hp} {c n : Nat} (hc : c + 0 ≤ 0) (hn : n + 0 ≤ 0) (w : w_X12_minute_114 K106 Q a1 h) : SW E 114 ([some (vP (some (12, 0))), some (vI (a1))], [], h, c, n) := by
  refine k_X12_minute_114 cx hY (ctY hY (vc_X12_ends (d := d + 3) w)) (by omega) (by omega) (by omega) (fun r h2 hp => ?_)
  obtain ⟨rfl, w⟩ := hp
  exact s_X12_minute_119 cx hY eq hK106 (by omega) (by omega) w
theorem s_X12_minute_106 {E : EnvT} {d : Nat} (cx : CX E "ShoreDayModel" cX12_minute 2 none "minute" (d + 5) 0 0) (hY : eY E = lay1) {Q : Hp → Prop} (eq : EQ E 0 0 (fun r h2 => r = [] ∧ Q h2)) : ∀ (N : Nat) (a1 : Int32) (h : Hp) (c n : Nat), c + 0 ≤ 0 → n + 0 ≤ 0 → w_X12_minute_106  Q N a1 h → SW E 106 ([some (vP (some (12, 0))), some (vI (a1))], [], h, c, n) := by
  intro N
  induction N with
  | zero =>
    intro _ h c n _ _ w
    exact w.elim
  | succ N ih =>
    intro a1 h c n hc hn w
    refine k_X12_minute_106 cx hY (fun q => ?_) (fun q => ?_)
    · have w := w.1 q
      exact s_X12_minute_125 cx hY eq  (by omega) (by omega) w
    · have w := w.2 q
      exact s_X12_minute_114 cx hY eq ih (by omega) (by omega) w
theorem s_X12_minute_104 {E : EnvT} {d : Nat} (cx : CX E "ShoreDayModel" cX12_minute 2 none "minute" (d + 5) 0 0) (hY : eY E = lay1) {Q : Hp → Prop} (eq : EQ E 0 0 (fun r h2 => r = [] ∧ Q h2)) {a1 : Int32} {h : Hp} {c n : Nat} (hc : c + 0 ≤ 0) (hn : n + 0 ≤ 0) (w : w_X12_minute_104  Q a1 h) : SW E 104 ([some (vP (some (12, 0))), some (vI (a1))], [], h, c, n) := by
  refine k_X12_minute_104 cx hY ?_
  obtain ⟨N1, w⟩ := w
  exact s_X12_minute_106 cx hY eq  _ _ _ _ _ (by omega) (by omega) w
theorem s_X12_minute_98 {E : EnvT} {d : Nat} (cx : CX E "ShoreDayModel" cX12_minute 2 none "minute" (d + 5) 0 0) (hY : eY E = lay1) {Q : Hp → Prop} (eq : EQ E 0 0 (fun r h2 => r = [] ∧ Q h2)) {K72 : Int32 → Hp → Prop} (hK72 : ∀ (a1 : Int32) (h : Hp) (c n : Nat), c + 0 ≤ 0 → n + 0 ≤ 0 → K72 a1 h → SW E 72 ([some (vP (some (12, 0))), some (vI (a1))], [], h, c, n)) {a1 : Int32} {h : Hp} {c n : Nat} (hc : c + 0 ≤ 0) (hn : n + 0 ≤ 0) (w : w_X12_minute_98 K72 Q a1 h) : SW E 98 ([some (vP (some (12, 0))), some (vI (a1))], [], h, c, n) := by
  refine k_X12_minute_98 cx hY ?_
  exact hK72 _ _ _ _ (by omega) (by omega) w
theorem s_X12_minute_93 {E : EnvT} {d : Nat} (cx : CX E "ShoreDayModel" cX12_minute 2 none "minute" (d + 5) 0 0) (hY : eY E = lay1) {Q : Hp → Prop} (eq : EQ E 0 0 (fun r h2 => r = [] ∧ Q h2)) {K72 : Int32 → Hp → Prop} (hK72 : ∀ (a1 : Int32) (h : Hp) (c n : Nat), c + 0 ≤ 0 → n + 0 ≤ 0 → K72 a1 h → SW E 72 ([some (vP (some (12, 0))), some (vI (a1))], [], h, c, n)) {a1 : Int32} {h : Hp} {c n : Nat} (hc : c + 0 ≤ 0) (hn : n + 0 ≤ 0) (w : w_X12_minute_93 K72 Q a1 h) : SW E 93 ([some (vP (some (12, 0))), some (vI (a1))], [], h, c, n) := by
  refine k_X12_minute_93 cx hY (ctY hY (vc_X12_starts (d := d + 2) w)) (by omega) (by omega) (by omega) (fun r h2 hp => ?_)
  obtain ⟨rfl, w⟩ := hp
  exact s_X12_minute_98 cx hY eq hK72 (by omega) (by omega) w
theorem s_X12_minute_80 {E : EnvT} {d : Nat} (cx : CX E "ShoreDayModel" cX12_minute 2 none "minute" (d + 5) 0 0) (hY : eY E = lay1) {Q : Hp → Prop} (eq : EQ E 0 0 (fun r h2 => r = [] ∧ Q h2)) {K72 : Int32 → Hp → Prop} (hK72 : ∀ (a1 : Int32) (h : Hp) (c n : Nat), c + 0 ≤ 0 → n + 0 ≤ 0 → K72 a1 h → SW E 72 ([some (vP (some (12, 0))), some (vI (a1))], [], h, c, n)) {a1 : Int32} {h : Hp} {c n : Nat} (hc : c + 0 ≤ 0) (hn : n + 0 ≤ 0) (w : w_X12_minute_80 K72 Q a1 h) : SW E 80 ([some (vP (some (12, 0))), some (vI (a1))], [], h, c, n) := by
  obtain ⟨G1, w⟩ := w
  refine k_X12_minute_80 cx hY G1 (fun q => ?_) (fun q => ?_)
  · have w := w.1 q
    exact s_X12_minute_98 cx hY eq hK72 (by omega) (by omega) w
  · have w := w.2 q
    exact s_X12_minute_93 cx hY eq hK72 (by omega) (by omega) w
theorem s_X12_minute_72 {E : EnvT} {d : Nat} (cx : CX E "ShoreDayModel" cX12_minute 2 none "minute" (d + 5) 0 0) (hY : eY E = lay1) {Q : Hp → Prop} (eq : EQ E 0 0 (fun r h2 => r = [] ∧ Q h2)) : ∀ (N : Nat) (a1 : Int32) (h : Hp) (c n : Nat), c + 0 ≤ 0 → n + 0 ≤ 0 → w_X12_minute_72  Q N a1 h → SW E 72 ([some (vP (some (12, 0))), some (vI (a1))], [], h, c, n) := by
  intro N
  induction N with
  | zero =>
    intro _ h c n _ _ w
    exact w.elim
  | succ N ih =>
    intro a1 h c n hc hn w
    refine k_X12_minute_72 cx hY (fun q => ?_) (fun q => ?_)
    · have w := w.1 q
      exact s_X12_minute_104 cx hY eq  (by omega) (by omega) w
    · have w := w.2 q
      exact s_X12_minute_80 cx hY eq ih (by omega) (by omega) w
theorem s_X12_minute_70 {E : EnvT} {d : Nat} (cx : CX E "ShoreDayModel" cX12_minute 2 none "minute" (d + 5) 0 0) (hY : eY E = lay1) {Q : Hp → Prop} (eq : EQ E 0 0 (fun r h2 => r = [] ∧ Q h2)) {a1 : Int32} {h : Hp} {c n : Nat} (hc : c + 0 ≤ 0) (hn : n + 0 ≤ 0) (w : w_X12_minute_70  Q a1 h) : SW E 70 ([some (vP (some (12, 0))), some (vI (a1))], [], h, c, n) := by
  refine k_X12_minute_70 cx hY ?_
  obtain ⟨N1, w⟩ := w
  exact s_X12_minute_72 cx hY eq  _ _ _ _ _ (by omega) (by omega) w
theorem s_X12_minute_64 {E : EnvT} {d : Nat} (cx : CX E "ShoreDayModel" cX12_minute 2 none "minute" (d + 5) 0 0) (hY : eY E = lay1) {Q : Hp → Prop} (eq : EQ E 0 0 (fun r h2 => r = [] ∧ Q h2)) {K12 : Int32 → Hp → Prop} (hK12 : ∀ (a1 : Int32) (h : Hp) (c n : Nat), c + 0 ≤ 0 → n + 0 ≤ 0 → K12 a1 h → SW E 12 ([some (vP (some (12, 0))), some (vI (a1))], [], h, c, n)) {a1 : Int32} {h : Hp} {c n : Nat} (hc : c + 0 ≤ 0) (hn : n + 0 ≤ 0) (w : w_X12_minute_64 K12 Q a1 h) : SW E 64 ([some (vP (some (12, 0))), some (vI (a1))], [], h, c, n) := by
  refine k_X12_minute_64 cx hY ?_
  exact hK12 _ _ _ _ (by omega) (by omega) w
theorem s_X12_minute_59 {E : EnvT} {d : Nat} (cx : CX E "ShoreDayModel" cX12_minute 2 none "minute" (d + 5) 0 0) (hY : eY E = lay1) {Q : Hp → Prop} (eq : EQ E 0 0 (fun r h2 => r = [] ∧ Q h2)) {K12 : Int32 → Hp → Prop} (hK12 : ∀ (a1 : Int32) (h : Hp) (c n : Nat), c + 0 ≤ 0 → n + 0 ≤ 0 → K12 a1 h → SW E 12 ([some (vP (some (12, 0))), some (vI (a1))], [], h, c, n)) {a1 : Int32} {h : Hp} {c n : Nat} (hc : c + 0 ≤ 0) (hn : n + 0 ≤ 0) (w : w_X12_minute_59 K12 Q a1 h) : SW E 59 ([some (vP (some (12, 0))), some (vI (a1))], [], h, c, n) := by
  refine k_X12_minute_59 cx hY (ctY hY (vc_X12_arrives (d := d + 0) w)) (by omega) (by omega) (by omega) (fun r h2 hp => ?_)
  obtain ⟨rfl, w⟩ := hp
  exact s_X12_minute_64 cx hY eq hK12 (by omega) (by omega) w
theorem s_X12_minute_40 {E : EnvT} {d : Nat} (cx : CX E "ShoreDayModel" cX12_minute 2 none "minute" (d + 5) 0 0) (hY : eY E = lay1) {Q : Hp → Prop} (eq : EQ E 0 0 (fun r h2 => r = [] ∧ Q h2)) {K12 : Int32 → Hp → Prop} (hK12 : ∀ (a1 : Int32) (h : Hp) (c n : Nat), c + 0 ≤ 0 → n + 0 ≤ 0 → K12 a1 h → SW E 12 ([some (vP (some (12, 0))), some (vI (a1))], [], h, c, n)) {a1 : Int32} {h : Hp} {c n : Nat} (hc : c + 0 ≤ 0) (hn : n + 0 ≤ 0) (w : w_X12_minute_40 K12 Q a1 h) : SW E 40 ([some (vP (some (12, 0))), some (vI (a1))], [], h, c, n) := by
  obtain ⟨G1, G2, G3, w⟩ := w
  refine k_X12_minute_40 cx hY G1 G2 G3 (fun q => ?_) (fun q => ?_)
  · have w := w.1 q
    exact s_X12_minute_64 cx hY eq hK12 (by omega) (by omega) w
  · have w := w.2 q
    exact s_X12_minute_59 cx hY eq hK12 (by omega) (by omega) w
theorem s_X12_minute_30 {E : EnvT} {d : Nat} (cx : CX E "ShoreDayModel" cX12_minute 2 none "minute" (d + 5) 0 0) (hY : eY E = lay1) {Q : Hp → Prop} (eq : EQ E 0 0 (fun r h2 => r = [] ∧ Q h2)) {K12 : Int32 → Hp → Prop} (hK12 : ∀ (a1 : Int32) (h : Hp) (c n : Nat), c + 0 ≤ 0 → n + 0 ≤ 0 → K12 a1 h → SW E 12 ([some (vP (some (12, 0))), some (vI (a1))], [], h, c, n)) {a1 : Int32} {h : Hp} {c n : Nat} (hc : c + 0 ≤ 0) (hn : n + 0 ≤ 0) (w : w_X12_minute_30 K12 Q a1 h) : SW E 30 ([some (vP (some (12, 0))), some (vI (a1))], [], h, c, n) := by
  obtain ⟨G1, w⟩ := w
  refine k_X12_minute_30 cx hY G1 (fun q => ?_) (fun q => ?_)
  · have w := w.1 q
    exact s_X12_minute_64 cx hY eq hK12 (by omega) (by omega) w
  · have w := w.2 q
    exact s_X12_minute_40 cx hY eq hK12 (by omega) (by omega) w
theorem s_X12_minute_20 {E : EnvT} {d : Nat} (cx : CX E "ShoreDayModel" cX12_minute 2 none "minute" (d + 5) 0 0) (hY : eY E = lay1) {Q : Hp → Prop} (eq : EQ E 0 0 (fun r h2 => r = [] ∧ Q h2)) {K12 : Int32 → Hp → Prop} (hK12 : ∀ (a1 : Int32) (h : Hp) (c n : Nat), c + 0 ≤ 0 → n + 0 ≤ 0 → K12 a1 h → SW E 12 ([some (vP (some (12, 0))), some (vI (a1))], [], h, c, n)) {a1 : Int32} {h : Hp} {c n : Nat} (hc : c + 0 ≤ 0) (hn : n + 0 ≤ 0) (w : w_X12_minute_20 K12 Q a1 h) : SW E 20 ([some (vP (some (12, 0))), some (vI (a1))], [], h, c, n) := by
  obtain ⟨G1, w⟩ := w
  refine k_X12_minute_20 cx hY G1 (fun q => ?_) (fun q => ?_)
  · have w := w.1 q
    exact s_X12_minute_40 cx hY eq hK12 (by omega) (by omega) w
  · have w := w.2 q
    exact s_X12_minute_30 cx hY eq hK12 (by omega) (by omega) w
theorem s_X12_minute_12 {E : EnvT} {d : Nat} (cx : CX E "ShoreDayModel" cX12_minute 2 none "minute" (d + 5) 0 0) (hY : eY E = lay1) {Q : Hp → Prop} (eq : EQ E 0 0 (fun r h2 => r = [] ∧ Q h2)) : ∀ (N : Nat) (a1 : Int32) (h : Hp) (c n : Nat), c + 0 ≤ 0 → n + 0 ≤ 0 → w_X12_minute_12  Q N a1 h → SW E 12 ([some (vP (some (12, 0))), some (vI (a1))], [], h, c, n) := by
  intro N
  induction N with
  | zero =>
    intro _ h c n _ _ w
    exact w.elim
  | succ N ih =>
    intro a1 h c n hc hn w
    refine k_X12_minute_12 cx hY (fun q => ?_) (fun q => ?_)
    · have w := w.1 q
      exact s_X12_minute_70 cx hY eq  (by omega) (by omega) w
    · have w := w.2 q
      exact s_X12_minute_20 cx hY eq ih (by omega) (by omega) w
theorem s_X12_minute_0 {E : EnvT} {d : Nat} (cx : CX E "ShoreDayModel" cX12_minute 2 none "minute" (d + 5) 0 0) (hY : eY E = lay1) {Q : Hp → Prop} (eq : EQ E 0 0 (fun r h2 => r = [] ∧ Q h2)) {x1 : Option AVal} {h : Hp} {c n : Nat} (hc : c + 0 ≤ 0) (hn : n + 0 ≤ 0) (w : w_X12_minute_0  Q  h) : SW E 0 ([some (vP (some (12, 0))), x1], [], h, c, n) := by
  refine k_X12_minute_0 cx hY ?_
  obtain ⟨N1, w⟩ := w
  exact s_X12_minute_12 cx hY eq  _ _ _ _ _ (by omega) (by omega) w
def wp_X12_minute (h : Hp) (Q : Hp → Prop) : Prop := w_X12_minute_0 Q  h
theorem vc_X12_minute {l : Launch} {d : Nat} {h : Hp} {Q : Hp → Prop} (w : wp_X12_minute h Q) : Ct l lay1 yX12_minute cX12_minute 2 none (d + 5) 0 0 [vP (some (12, 0))] h (fun r h2 => r = [] ∧ Q h2) := by
  exact Ct.of (by decide) (Nat.le_of_ble_eq_true rfl) fun E cx eq hl hY => s_X12_minute_0 cx hY eq (Nat.le_refl _) (Nat.le_refl _) w
def w_X12_minutes_28 (Q : Int32 → Hp → Prop) (a1 : Int32) (h : Hp) : Prop := Q ((-1 : Int32)) (h)
def w_X12_minutes_47 (Q : Int32 → Hp → Prop) (a1 : Int32) (a2 : Int32) (h : Hp) : Prop := Q (gI (h) 12 (0) (24)) (h)
def w_X12_minutes_41 (K32 : Int32 → Int32 → Hp → Prop) (Q : Int32 → Hp → Prop) (a1 : Int32) (a2 : Int32) (h : Hp) : Prop := K32 (a1) (a2 + 1) (h)
def w_X12_minutes_37 (K32 : Int32 → Int32 → Hp → Prop) (Q : Int32 → Hp → Prop) (a1 : Int32) (a2 : Int32) (h : Hp) : Prop := wp_X12_minute  (h) (fun h2 => w_X12_minutes_41 K32 Q (a1) (a2) (h2))
def w_X12_minutes_32 (Q : Int32 → Hp → Prop) : Nat → Int32 → Int32 → Hp → Prop
  | 0 => fun _ _ _ => False
  | N + 1 => fun a1 a2 h => ((a1) ≤ (a2) → w_X12_minutes_47  Q (a1) (a2) (h)) ∧ (¬ (a1) ≤ (a2) → w_X12_minutes_37 (w_X12_minutes_32  Q N) Q (a1) (a2) (h))
def w_X12_minutes_30 (Q : Int32 → Hp → Prop) (a1 : Int32) (h : Hp) : Prop := ∃ N, w_X12_minutes_32  Q N (a1) ((0 : Int32)) (h)
def w_X12_minutes_16 (Q : Int32 → Hp → Prop) (a1 : Int32) (h : Hp) : Prop := (((gI (h) 12 (0) (24)) + (a1)) ≤ ((719 : Int32)) → w_X12_minutes_30  Q (a1) (h)) ∧ (¬ ((gI (h) 12 (0) (24)) + (a1)) ≤ ((719 : Int32)) → w_X12_minutes_28  Q (a1) (h))
def w_X12_minutes_9 (Q : Int32 → Hp → Prop) (a1 : Int32) (h : Hp) : Prop := (((200 : Int32)) < (a1) → w_X12_minutes_28  Q (a1) (h)) ∧ (¬ ((200 : Int32)) < (a1) → w_X12_minutes_16  Q (a1) (h))
def w_X12_minutes_0 (Q : Int32 → Hp → Prop) (a1 : Int32) (h : Hp) : Prop := ((a1) < 0 → w_X12_minutes_28  Q (a1) (wI (h) 12 (0) 0 ((0 : Int32)))) ∧ (¬ (a1) < 0 → w_X12_minutes_9  Q (a1) (wI (h) 12 (0) 0 ((0 : Int32))))
theorem s_X12_minutes_28 {E : EnvT} {d : Nat} (cx : CX E "ShoreDayModel" cX12_minutes 3 (some .int) "minutes" (d + 6) 0 0) (hY : eY E = lay1) {Q : Int32 → Hp → Prop} (eq : EQ E 0 0 (fun r h2 => ∃ x, r = [vI x] ∧ Q x h2)) {a1 : Int32} {x2 : Option AVal} {h : Hp} {c n : Nat} (hc : c + 0 ≤ 0) (hn : n + 0 ≤ 0) (w : w_X12_minutes_28  Q a1 h) : SW E 28 ([some (vP (some (12, 0))), some (vI (a1)), x2], [], h, c, n) := by
  exact k_X12_minutes_28 cx hY eq (by omega) (by omega) ⟨_, rfl, w⟩
theorem s_X12_minutes_47 {E : EnvT} {d : Nat} (cx : CX E "ShoreDayModel" cX12_minutes 3 (some .int) "minutes" (d + 6) 0 0) (hY : eY E = lay1) {Q : Int32 → Hp → Prop} (eq : EQ E 0 0 (fun r h2 => ∃ x, r = [vI x] ∧ Q x h2)) {a1 : Int32} {a2 : Int32} {h : Hp} {c n : Nat} (hc : c + 0 ≤ 0) (hn : n + 0 ≤ 0) (w : w_X12_minutes_47  Q a1 a2 h) : SW E 47 ([some (vP (some (12, 0))), some (vI (a1)), some (vI (a2))], [], h, c, n) := by
  exact k_X12_minutes_47 cx hY eq (by omega) (by omega) ⟨_, rfl, w⟩
theorem s_X12_minutes_41 {E : EnvT} {d : Nat} (cx : CX E "ShoreDayModel" cX12_minutes 3 (some .int) "minutes" (d + 6) 0 0) (hY : eY E = lay1) {Q : Int32 → Hp → Prop} (eq : EQ E 0 0 (fun r h2 => ∃ x, r = [vI x] ∧ Q x h2)) {K32 : Int32 → Int32 → Hp → Prop} (hK32 : ∀ (a1 : Int32) (a2 : Int32) (h : Hp) (c n : Nat), c + 0 ≤ 0 → n + 0 ≤ 0 → K32 a1 a2 h → SW E 32 ([some (vP (some (12, 0))), some (vI (a1)), some (vI (a2))], [], h, c, n)) {a1 : Int32} {a2 : Int32} {h : Hp} {c n : Nat} (hc : c + 0 ≤ 0) (hn : n + 0 ≤ 0) (w : w_X12_minutes_41 K32 Q a1 a2 h) : SW E 41 ([some (vP (some (12, 0))), some (vI (a1)), some (vI (a2))], [], h, c, n) := by
  refine k_X12_minutes_41 cx hY ?_
  exact hK32 _ _ _ _ _ (by omega) (by omega) w
theorem s_X12_minutes_37 {E : EnvT} {d : Nat} (cx : CX E "ShoreDayModel" cX12_minutes 3 (some .int) "minutes" (d + 6) 0 0) (hY : eY E = lay1) {Q : Int32 → Hp → Prop} (eq : EQ E 0 0 (fun r h2 => ∃ x, r = [vI x] ∧ Q x h2)) {K32 : Int32 → Int32 → Hp → Prop} (hK32 : ∀ (a1 : Int32) (a2 : Int32) (h : Hp) (c n : Nat), c + 0 ≤ 0 → n + 0 ≤ 0 → K32 a1 a2 h → SW E 32 ([some (vP (some (12, 0))), some (vI (a1)), some (vI (a2))], [], h, c, n)) {a1 : Int32} {a2 : Int32} {h : Hp} {c n : Nat} (hc : c + 0 ≤ 0) (hn : n + 0 ≤ 0) (w : w_X12_minutes_37 K32 Q a1 a2 h) : SW E 37 ([some (vP (some (12, 0))), some (vI (a1)), some (vI (a2))], [], h, c, n) := by
  refine k_X12_minutes_37 cx hY (ctY hY (vc_X12_minute (d := d + 0) w)) (by omega) (by omega) (by omega) (fun r h2 hp => ?_)
  obtain ⟨rfl, w⟩ := hp
  exact s_X12_minutes_41 cx hY eq hK32 (by omega) (by omega) w
theorem s_X12_minutes_32 {E : EnvT} {d : Nat} (cx : CX E "ShoreDayModel" cX12_minutes 3 (some .int) "minutes" (d + 6) 0 0) (hY : eY E = lay1) {Q : Int32 → Hp → Prop} (eq : EQ E 0 0 (fun r h2 => ∃ x, r = [vI x] ∧ Q x h2)) : ∀ (N : Nat) (a1 : Int32) (a2 : Int32) (h : Hp) (c n : Nat), c + 0 ≤ 0 → n + 0 ≤ 0 → w_X12_minutes_32  Q N a1 a2 h → SW E 32 ([some (vP (some (12, 0))), some (vI (a1)), some (vI (a2))], [], h, c, n) := by
  intro N
  induction N with
  | zero =>
    intro _ _ h c n _ _ w
    exact w.elim
  | succ N ih =>
    intro a1 a2 h c n hc hn w
    refine k_X12_minutes_32 cx hY (fun q => ?_) (fun q => ?_)
    · have w := w.1 q
      exact s_X12_minutes_47 cx hY eq  (by omega) (by omega) w
    · have w := w.2 q
      exact s_X12_minutes_37 cx hY eq ih (by omega) (by omega) w
theorem s_X12_minutes_30 {E : EnvT} {d : Nat} (cx : CX E "ShoreDayModel" cX12_minutes 3 (some .int) "minutes" (d + 6) 0 0) (hY : eY E = lay1) {Q : Int32 → Hp → Prop} (eq : EQ E 0 0 (fun r h2 => ∃ x, r = [vI x] ∧ Q x h2)) {a1 : Int32} {x2 : Option AVal} {h : Hp} {c n : Nat} (hc : c + 0 ≤ 0) (hn : n + 0 ≤ 0) (w : w_X12_minutes_30  Q a1 h) : SW E 30 ([some (vP (some (12, 0))), some (vI (a1)), x2], [], h, c, n) := by
  refine k_X12_minutes_30 cx hY ?_
  obtain ⟨N1, w⟩ := w
  exact s_X12_minutes_32 cx hY eq  _ _ _ _ _ _ (by omega) (by omega) w
theorem s_X12_minutes_16 {E : EnvT} {d : Nat} (cx : CX E "ShoreDayModel" cX12_minutes 3 (some .int) "minutes" (d + 6) 0 0) (hY : eY E = lay1) {Q : Int32 → Hp → Prop} (eq : EQ E 0 0 (fun r h2 => ∃ x, r = [vI x] ∧ Q x h2)) {a1 : Int32} {x2 : Option AVal} {h : Hp} {c n : Nat} (hc : c + 0 ≤ 0) (hn : n + 0 ≤ 0) (w : w_X12_minutes_16  Q a1 h) : SW E 16 ([some (vP (some (12, 0))), some (vI (a1)), x2], [], h, c, n) := by
  refine k_X12_minutes_16 cx hY (fun q => ?_) (fun q => ?_)
  · have w := w.1 q
    exact s_X12_minutes_30 cx hY eq  (by omega) (by omega) w
  · have w := w.2 q
    exact s_X12_minutes_28 cx hY eq  (by omega) (by omega) w
theorem s_X12_minutes_9 {E : EnvT} {d : Nat} (cx : CX E "ShoreDayModel" cX12_minutes 3 (some .int) "minutes" (d + 6) 0 0) (hY : eY E = lay1) {Q : Int32 → Hp → Prop} (eq : EQ E 0 0 (fun r h2 => ∃ x, r = [vI x] ∧ Q x h2)) {a1 : Int32} {x2 : Option AVal} {h : Hp} {c n : Nat} (hc : c + 0 ≤ 0) (hn : n + 0 ≤ 0) (w : w_X12_minutes_9  Q a1 h) : SW E 9 ([some (vP (some (12, 0))), some (vI (a1)), x2], [], h, c, n) := by
  refine k_X12_minutes_9 cx hY (fun q => ?_) (fun q => ?_)
  · have w := w.1 q
    exact s_X12_minutes_28 cx hY eq  (by omega) (by omega) w
  · have w := w.2 q
    exact s_X12_minutes_16 cx hY eq  (by omega) (by omega) w
theorem s_X12_minutes_0 {E : EnvT} {d : Nat} (cx : CX E "ShoreDayModel" cX12_minutes 3 (some .int) "minutes" (d + 6) 0 0) (hY : eY E = lay1) {Q : Int32 → Hp → Prop} (eq : EQ E 0 0 (fun r h2 => ∃ x, r = [vI x] ∧ Q x h2)) {a1 : Int32} {x2 : Option AVal} {h : Hp} {c n : Nat} (hc : c + 0 ≤ 0) (hn : n + 0 ≤ 0) (w : w_X12_minutes_0  Q a1 h) : SW E 0 ([some (vP (some (12, 0))), some (vI (a1)), x2], [], h, c, n) := by
  refine k_X12_minutes_0 cx hY (fun q => ?_) (fun q => ?_)
  · have w := w.1 q
    exact s_X12_minutes_28 cx hY eq  (by omega) (by omega) w
  · have w := w.2 q
    exact s_X12_minutes_9 cx hY eq  (by omega) (by omega) w
def wp_X12_minutes (a1 : Int32) (h : Hp) (Q : Int32 → Hp → Prop) : Prop := w_X12_minutes_0 Q a1 h
theorem vc_X12_minutes {l : Launch} {d : Nat} {a1 : Int32} {h : Hp} {Q : Int32 → Hp → Prop} (w : wp_X12_minutes a1 h Q) : Ct l lay1 yX12_minutes cX12_minutes 3 (some .int) (d + 6) 0 0 [vP (some (12, 0)), vI a1] h (fun r h2 => ∃ x, r = [vI x] ∧ Q x h2) := by
  exact Ct.of (by decide) (Nat.le_of_ble_eq_true rfl) fun E cx eq hl hY => s_X12_minutes_0 cx hY eq (Nat.le_refl _) (Nat.le_refl _) w
def w_X12_guide_26 (Q : Int32 → Hp → Prop) (a1 : Int32) (h : Hp) : Prop := Q ((-1 : Int32)) (h)
def w_X12_guide_28 (Q : Int32 → Hp → Prop) (a1 : Int32) (h : Hp) : Prop := vp_in (gI (h) 12 (0) (61)) 6 ∧ (Q ((gI (wI (wI (h) 162 (0) (tN (gI (h) 12 (0) (61))) (a1)) 12 (0) 61 ((gI (wI (h) 162 (0) (tN (gI (h) 12 (0) (61))) (a1)) 12 (0) (61)) + ((1 : Int32)))) 12 (0) (61)) - ((1 : Int32))) (wI (wI (h) 162 (0) (tN (gI (h) 12 (0) (61))) (a1)) 12 (0) 61 ((gI (wI (h) 162 (0) (tN (gI (h) 12 (0) (61))) (a1)) 12 (0) (61)) + ((1 : Int32)))))
def w_X12_guide_17 (Q : Int32 → Hp → Prop) (a1 : Int32) (h : Hp) : Prop := (¬ (gI (h) 12 (0) (61)) = ((6 : Int32)) → w_X12_guide_28  Q (a1) (h)) ∧ ((gI (h) 12 (0) (61)) = ((6 : Int32)) → w_X12_guide_26  Q (a1) (h))
def w_X12_guide_10 (Q : Int32 → Hp → Prop) (a1 : Int32) (h : Hp) : Prop := (((255 : Int32)) < (a1) → w_X12_guide_26  Q (a1) (h)) ∧ (¬ ((255 : Int32)) < (a1) → w_X12_guide_17  Q (a1) (h))
def w_X12_guide_0 (Q : Int32 → Hp → Prop) (a1 : Int32) (h : Hp) : Prop := ((a1) < ((1 : Int32)) → w_X12_guide_26  Q (a1) (wI (h) 12 (0) 0 ((0 : Int32)))) ∧ (¬ (a1) < ((1 : Int32)) → w_X12_guide_10  Q (a1) (wI (h) 12 (0) 0 ((0 : Int32))))
theorem s_X12_guide_26 {E : EnvT} {d : Nat} (cx : CX E "ShoreDayModel" cX12_guide 2 (some .int) "guide" (d + 1) 0 0) (hY : eY E = lay1) {Q : Int32 → Hp → Prop} (eq : EQ E 0 0 (fun r h2 => ∃ x, r = [vI x] ∧ Q x h2)) {a1 : Int32} {h : Hp} {c n : Nat} (hc : c + 0 ≤ 0) (hn : n + 0 ≤ 0) (w : w_X12_guide_26  Q a1 h) : SW E 26 ([some (vP (some (12, 0))), some (vI (a1))], [], h, c, n) := by
  exact k_X12_guide_26 cx hY eq (by omega) (by omega) ⟨_, rfl, w⟩
theorem s_X12_guide_28 {E : EnvT} {d : Nat} (cx : CX E "ShoreDayModel" cX12_guide 2 (some .int) "guide" (d + 1) 0 0) (hY : eY E = lay1) {Q : Int32 → Hp → Prop} (eq : EQ E 0 0 (fun r h2 => ∃ x, r = [vI x] ∧ Q x h2)) {a1 : Int32} {h : Hp} {c n : Nat} (hc : c + 0 ≤ 0) (hn : n + 0 ≤ 0) (w : w_X12_guide_28  Q a1 h) : SW E 28 ([some (vP (some (12, 0))), some (vI (a1))], [], h, c, n) := by
  obtain ⟨G1, w⟩ := w
  exact k_X12_guide_28 cx hY G1 eq (by omega) (by omega) ⟨_, rfl, w⟩
theorem s_X12_guide_17 {E : EnvT} {d : Nat} (cx : CX E "ShoreDayModel" cX12_guide 2 (some .int) "guide" (d + 1) 0 0) (hY : eY E = lay1) {Q : Int32 → Hp → Prop} (eq : EQ E 0 0 (fun r h2 => ∃ x, r = [vI x] ∧ Q x h2)) {a1 : Int32} {h : Hp} {c n : Nat} (hc : c + 0 ≤ 0) (hn : n + 0 ≤ 0) (w : w_X12_guide_17  Q a1 h) : SW E 17 ([some (vP (some (12, 0))), some (vI (a1))], [], h, c, n) := by
  refine k_X12_guide_17 cx hY (fun q => ?_) (fun q => ?_)
  · have w := w.1 q
    exact s_X12_guide_28 cx hY eq  (by omega) (by omega) w
  · have w := w.2 q
    exact s_X12_guide_26 cx hY eq  (by omega) (by omega) w
theorem s_X12_guide_10 {E : EnvT} {d : Nat} (cx : CX E "ShoreDayModel" cX12_guide 2 (some .int) "guide" (d + 1) 0 0) (hY : eY E = lay1) {Q : Int32 → Hp → Prop} (eq : EQ E 0 0 (fun r h2 => ∃ x, r = [vI x] ∧ Q x h2)) {a1 : Int32} {h : Hp} {c n : Nat} (hc : c + 0 ≤ 0) (hn : n + 0 ≤ 0) (w : w_X12_guide_10  Q a1 h) : SW E 10 ([some (vP (some (12, 0))), some (vI (a1))], [], h, c, n) := by
  refine k_X12_guide_10 cx hY (fun q => ?_) (fun q => ?_)
  · have w := w.1 q
    exact s_X12_guide_26 cx hY eq  (by omega) (by omega) w
  · have w := w.2 q
    exact s_X12_guide_17 cx hY eq  (by omega) (by omega) w
theorem s_X12_guide_0 {E : EnvT} {d : Nat} (cx : CX E "ShoreDayModel" cX12_guide 2 (some .int) "guide" (d + 1) 0 0) (hY : eY E = lay1) {Q : Int32 → Hp → Prop} (eq : EQ E 0 0 (fun r h2 => ∃ x, r = [vI x] ∧ Q x h2)) {a1 : Int32} {h : Hp} {c n : Nat} (hc : c + 0 ≤ 0) (hn : n + 0 ≤ 0) (w : w_X12_guide_0  Q a1 h) : SW E 0 ([some (vP (some (12, 0))), some (vI (a1))], [], h, c, n) := by
  refine k_X12_guide_0 cx hY (fun q => ?_) (fun q => ?_)
  · have w := w.1 q
    exact s_X12_guide_26 cx hY eq  (by omega) (by omega) w
  · have w := w.2 q
    exact s_X12_guide_10 cx hY eq  (by omega) (by omega) w
def wp_X12_guide (a1 : Int32) (h : Hp) (Q : Int32 → Hp → Prop) : Prop := w_X12_guide_0 Q a1 h
theorem vc_X12_guide {l : Launch} {d : Nat} {a1 : Int32} {h : Hp} {Q : Int32 → Hp → Prop} (w : wp_X12_guide a1 h Q) : Ct l lay1 yX12_guide cX12_guide 2 (some .int) (d + 1) 0 0 [vP (some (12, 0)), vI a1] h (fun r h2 => ∃ x, r = [vI x] ∧ Q x h2) := by
  exact Ct.of (by decide) (Nat.le_of_ble_eq_true rfl) fun E cx eq hl hY => s_X12_guide_0 cx hY eq (Nat.le_refl _) (Nat.le_refl _) w
def w_X12_can_32 (Q : Int32 → Hp → Prop) (a1 : Int32) (a2 : Int32) (a3 : Int32) (s0 : Int32) (h : Hp) : Prop := ((s0) = 0 ∨ (s0) = 1) ∧ Q (s0) (h)
def w_X12_can_31 (Q : Int32 → Hp → Prop) (a1 : Int32) (a2 : Int32) (a3 : Int32) (h : Hp) : Prop := w_X12_can_32  Q (a1) (a2) (a3) ((0 : Int32)) (h)
def w_X12_can_27 (Q : Int32 → Hp → Prop) (a1 : Int32) (a2 : Int32) (a3 : Int32) (h : Hp) : Prop := w_X12_can_32  Q (a1) (a2) (a3) ((1 : Int32)) (h)
def w_X12_can_8 (Q : Int32 → Hp → Prop) (a1 : Int32) (a2 : Int32) (a3 : Int32) (h : Hp) : Prop := vp_in (a1) 6 ∧ (vp_in (a2) 8 ∧ ((¬ (((gI (h) 162 (0) (tN (a1))) >>> ((gI (h) 139 (0) (tN (a2))) &&& 31)) &&& ((1 : Int32))) = ((1 : Int32)) → w_X12_can_31  Q (a1) (a2) (a3) (h)) ∧ ((((gI (h) 162 (0) (tN (a1))) >>> ((gI (h) 139 (0) (tN (a2))) &&& 31)) &&& ((1 : Int32))) = ((1 : Int32)) → w_X12_can_27  Q (a1) (a2) (a3) (h))))
def w_X12_can_0 (Q : Int32 → Hp → Prop) (a1 : Int32) (a2 : Int32) (a3 : Int32) (h : Hp) : Prop := (¬ (((a3) >>> ((a1) &&& 31)) &&& ((1 : Int32))) = 0 → w_X12_can_31  Q (a1) (a2) (a3) (h)) ∧ ((((a3) >>> ((a1) &&& 31)) &&& ((1 : Int32))) = 0 → w_X12_can_8  Q (a1) (a2) (a3) (h))
theorem s_X12_can_32 {E : EnvT} {d : Nat} (cx : CX E "ShoreDayModel" cX12_can 4 (some .boolean) "can" (d + 1) 0 0) (hY : eY E = lay1) {Q : Int32 → Hp → Prop} (eq : EQ E 0 0 (fun r h2 => ∃ x, r = [vI x] ∧ Q x h2)) {a1 : Int32} {a2 : Int32} {a3 : Int32} {s0 : Int32} {h : Hp} {c n : Nat} (hc : c + 0 ≤ 0) (hn : n + 0 ≤ 0) (w : w_X12_can_32  Q a1 a2 a3 s0 h) : SW E 32 ([some (vP (some (12, 0))), some (vI (a1)), some (vI (a2)), some (vI (a3))], [vI (s0)], h, c, n) := by
  exact k_X12_can_32 cx hY eq (by omega) (by omega) w.1 ⟨_, rfl, w.2⟩
theorem s_X12_can_31 {E : EnvT} {d : Nat} (cx : CX E "ShoreDayModel" cX12_can 4 (some .boolean) "can" (d + 1) 0 0) (hY : eY E = lay1) {Q : Int32 → Hp → Prop} (eq : EQ E 0 0 (fun r h2 => ∃ x, r = [vI x] ∧ Q x h2)) {a1 : Int32} {a2 : Int32} {a3 : Int32} {h : Hp} {c n : Nat} (hc : c + 0 ≤ 0) (hn : n + 0 ≤ 0) (w : w_X12_can_31  Q a1 a2 a3 h) : SW E 31 ([some (vP (some (12, 0))), some (vI (a1)), some (vI (a2)), some (vI (a3))], [], h, c, n) := by
  refine k_X12_can_31 cx hY ?_
  exact s_X12_can_32 cx hY eq  (by omega) (by omega) w
theorem s_X12_can_27 {E : EnvT} {d : Nat} (cx : CX E "ShoreDayModel" cX12_can 4 (some .boolean) "can" (d + 1) 0 0) (hY : eY E = lay1) {Q : Int32 → Hp → Prop} (eq : EQ E 0 0 (fun r h2 => ∃ x, r = [vI x] ∧ Q x h2)) {a1 : Int32} {a2 : Int32} {a3 : Int32} {h : Hp} {c n : Nat} (hc : c + 0 ≤ 0) (hn : n + 0 ≤ 0) (w : w_X12_can_27  Q a1 a2 a3 h) : SW E 27 ([some (vP (some (12, 0))), some (vI (a1)), some (vI (a2)), some (vI (a3))], [], h, c, n) := by
  refine k_X12_can_27 cx hY ?_
  exact s_X12_can_32 cx hY eq  (by omega) (by omega) w
theorem s_X12_can_8 {E : EnvT} {d : Nat} (cx : CX E "ShoreDayModel" cX12_can 4 (some .boolean) "can" (d + 1) 0 0) (hY : eY E = lay1) {Q : Int32 → Hp → Prop} (eq : EQ E 0 0 (fun r h2 => ∃ x, r = [vI x] ∧ Q x h2)) {a1 : Int32} {a2 : Int32} {a3 : Int32} {h : Hp} {c n : Nat} (hc : c + 0 ≤ 0) (hn : n + 0 ≤ 0) (w : w_X12_can_8  Q a1 a2 a3 h) : SW E 8 ([some (vP (some (12, 0))), some (vI (a1)), some (vI (a2)), some (vI (a3))], [], h, c, n) := by
  obtain ⟨G1, G2, w⟩ := w
  refine k_X12_can_8 cx hY G1 G2 (fun q => ?_) (fun q => ?_)
  · have w := w.1 q
    exact s_X12_can_31 cx hY eq  (by omega) (by omega) w
  · have w := w.2 q
    exact s_X12_can_27 cx hY eq  (by omega) (by omega) w
theorem s_X12_can_0 {E : EnvT} {d : Nat} (cx : CX E "ShoreDayModel" cX12_can 4 (some .boolean) "can" (d + 1) 0 0) (hY : eY E = lay1) {Q : Int32 → Hp → Prop} (eq : EQ E 0 0 (fun r h2 => ∃ x, r = [vI x] ∧ Q x h2)) {a1 : Int32} {a2 : Int32} {a3 : Int32} {h : Hp} {c n : Nat} (hc : c + 0 ≤ 0) (hn : n + 0 ≤ 0) (w : w_X12_can_0  Q a1 a2 a3 h) : SW E 0 ([some (vP (some (12, 0))), some (vI (a1)), some (vI (a2)), some (vI (a3))], [], h, c, n) := by
  refine k_X12_can_0 cx hY (fun q => ?_) (fun q => ?_)
  · have w := w.1 q
    exact s_X12_can_31 cx hY eq  (by omega) (by omega) w
  · have w := w.2 q
    exact s_X12_can_8 cx hY eq  (by omega) (by omega) w
def wp_X12_can (a1 : Int32) (a2 : Int32) (a3 : Int32) (h : Hp) (Q : Int32 → Hp → Prop) : Prop := w_X12_can_0 Q a1 a2 a3 h
theorem vc_X12_can {l : Launch} {d : Nat} {a1 : Int32} {a2 : Int32} {a3 : Int32} {h : Hp} {Q : Int32 → Hp → Prop} (w : wp_X12_can a1 a2 a3 h Q) : Ct l lay1 yX12_can cX12_can 4 (some .boolean) (d + 1) 0 0 [vP (some (12, 0)), vI a1, vI a2, vI a3] h (fun r h2 => ∃ x, r = [vI x] ∧ Q x h2) := by
  exact Ct.of (by decide) (Nat.le_of_ble_eq_true rfl) fun E cx eq hl hY => s_X12_can_0 cx hY eq (Nat.le_refl _) (Nat.le_refl _) w
def w_X12_plan_298 (Q : Int32 → Hp → Prop) (a1 : Int32) (a2 : Int32) (h : Hp) : Prop := vp_in ((0 : Int32)) 576 ∧ (Q (gI (wI (h) 12 (0) 63 (gI (h) 12 (0) (35))) 165 (0) (tN ((0 : Int32)))) (wI (h) 12 (0) 63 (gI (h) 12 (0) (35))))
def w_X12_plan_290 (K157 : Int32 → Int32 → Hp → Prop) (Q : Int32 → Hp → Prop) (a1 : Int32) (a2 : Int32) (a3 : Int32) (s0 : Int32) (s1 : Int32) (h : Hp) : Prop := K157 ((s0) ||| (s1)) (a2 + 1) (h)
def w_X12_plan_289 (K157 : Int32 → Int32 → Hp → Prop) (Q : Int32 → Hp → Prop) (a1 : Int32) (a2 : Int32) (a3 : Int32) (s0 : Int32) (h : Hp) : Prop := w_X12_plan_290 K157 Q (a1) (a2) (a3) (s0) ((0 : Int32)) (h)
def w_X12_plan_278 (K157 : Int32 → Int32 → Hp → Prop) (Q : Int32 → Hp → Prop) (a1 : Int32) (a2 : Int32) (a3 : Int32) (s0 : Int32) (h : Hp) : Prop := vp_in (a2) 8 ∧ (w_X12_plan_290 K157 Q (a1) (a2) (a3) (s0) (((1 : Int32)) <<< ((gI (h) 164 (0) (tN (a2))) &&& 31)) (h))
def w_X12_plan_268 (K157 : Int32 → Int32 → Hp → Prop) (Q : Int32 → Hp → Prop) (a1 : Int32) (a2 : Int32) (a3 : Int32) (h : Hp) : Prop := vp_in (a2) 8 ∧ (((gI (h) 164 (0) (tN (a2))) < 0 → w_X12_plan_289 K157 Q (a1) (a2) (a3) (a1) (h)) ∧ (¬ (gI (h) 164 (0) (tN (a2))) < 0 → w_X12_plan_278 K157 Q (a1) (a2) (a3) (a1) (h)))
def w_X12_plan_261 (K157 : Int32 → Int32 → Hp → Prop) (K174 : Int32 → Int32 → Int32 → Hp → Prop) (Q : Int32 → Hp → Prop) (a1 : Int32) (a2 : Int32) (a3 : Int32) (a4 : Int32) (s1 : Int32) (s2 : Int32) (h : Hp) : Prop := vp_in (s1) 8 ∧ (K174 (a1) (a2) (a3 + 1) (wI (h) 164 (0) (tN (s1)) (s2)))
def w_X12_plan_260 (K157 : Int32 → Int32 → Hp → Prop) (K174 : Int32 → Int32 → Int32 → Hp → Prop) (Q : Int32 → Hp → Prop) (a1 : Int32) (a2 : Int32) (a3 : Int32) (a4 : Int32) (s1 : Int32) (h : Hp) : Prop := w_X12_plan_261 K157 K174 Q (a1) (a2) (a3) (a4) (s1) ((-1 : Int32)) (h)
def w_X12_plan_256 (K157 : Int32 → Int32 → Hp → Prop) (K174 : Int32 → Int32 → Int32 → Hp → Prop) (Q : Int32 → Hp → Prop) (a1 : Int32) (a2 : Int32) (a3 : Int32) (a4 : Int32) (s1 : Int32) (h : Hp) : Prop := w_X12_plan_261 K157 K174 Q (a1) (a2) (a3) (a4) (s1) (a3) (h)
def w_X12_plan_244 (K157 : Int32 → Int32 → Hp → Prop) (K174 : Int32 → Int32 → Int32 → Hp → Prop) (Q : Int32 → Hp → Prop) (a1 : Int32) (a2 : Int32) (a3 : Int32) (s0 : Int32) (h : Hp) : Prop := ((s0) = 0 → w_X12_plan_260 K157 K174 Q (a1) (a2) (a3) (s0) (a2) (h)) ∧ (¬ (s0) = 0 → w_X12_plan_256 K157 K174 Q (a1) (a2) (a3) (s0) (a2) (h))
def w_X12_plan_243 (K157 : Int32 → Int32 → Hp → Prop) (K174 : Int32 → Int32 → Int32 → Hp → Prop) (Q : Int32 → Hp → Prop) (a1 : Int32) (a2 : Int32) (a3 : Int32) (h : Hp) : Prop := w_X12_plan_244 K157 K174 Q (a1) (a2) (a3) ((0 : Int32)) (h)
def w_X12_plan_239 (K157 : Int32 → Int32 → Hp → Prop) (K174 : Int32 → Int32 → Int32 → Hp → Prop) (Q : Int32 → Hp → Prop) (a1 : Int32) (a2 : Int32) (a3 : Int32) (h : Hp) : Prop := w_X12_plan_244 K157 K174 Q (a1) (a2) (a3) ((1 : Int32)) (h)
def w_X12_plan_223 (K157 : Int32 → Int32 → Hp → Prop) (K174 : Int32 → Int32 → Int32 → Hp → Prop) (Q : Int32 → Hp → Prop) (a1 : Int32) (a2 : Int32) (a3 : Int32) (s0 : Int32) (s2 : Int32) (h : Hp) : Prop := vp_in (s2) 576 ∧ (vp_in ((((64 : Int32)) * (a2)) + (a1)) 576 ∧ ((¬ ((s0) + (gI (h) 165 (0) (tN (s2)))) = (gI (h) 165 (0) (tN ((((64 : Int32)) * (a2)) + (a1)))) → w_X12_plan_243 K157 K174 Q (a1) (a2) (a3) (h)) ∧ (((s0) + (gI (h) 165 (0) (tN (s2)))) = (gI (h) 165 (0) (tN ((((64 : Int32)) * (a2)) + (a1)))) → w_X12_plan_239 K157 K174 Q (a1) (a2) (a3) (h))))
def w_X12_plan_201 (K157 : Int32 → Int32 → Hp → Prop) (K174 : Int32 → Int32 → Int32 → Hp → Prop) (Q : Int32 → Hp → Prop) (a1 : Int32) (a2 : Int32) (a3 : Int32) (h : Hp) : Prop := vp_in (a2) 8 ∧ (w_X12_plan_223 K157 K174 Q (a1) (a2) (a3) (gI (h) 138 (0) (tN (a2))) ((((64 : Int32)) * ((a2) + ((1 : Int32)))) + ((a1) ||| (((1 : Int32)) <<< ((a3) &&& 31)))) (h))
def w_X12_plan_198 (K157 : Int32 → Int32 → Hp → Prop) (K174 : Int32 → Int32 → Int32 → Hp → Prop) (Q : Int32 → Hp → Prop) (a1 : Int32) (a2 : Int32) (a3 : Int32) (s0 : Int32) (h : Hp) : Prop := ((s0) = 0 → w_X12_plan_243 K157 K174 Q (a1) (a2) (a3) (h)) ∧ (¬ (s0) = 0 → w_X12_plan_201 K157 K174 Q (a1) (a2) (a3) (h))
def w_X12_plan_191 (K157 : Int32 → Int32 → Hp → Prop) (K174 : Int32 → Int32 → Int32 → Hp → Prop) (Q : Int32 → Hp → Prop) (a1 : Int32) (a2 : Int32) (a3 : Int32) (h : Hp) : Prop := wp_X12_can (a3) (a2) (a1) (h) (fun r2 h2 => w_X12_plan_198 K157 K174 Q (a1) (a2) (a3) (r2) (h2))
def w_X12_plan_182 (K157 : Int32 → Int32 → Hp → Prop) (K174 : Int32 → Int32 → Int32 → Hp → Prop) (Q : Int32 → Hp → Prop) (a1 : Int32) (a2 : Int32) (a3 : Int32) (h : Hp) : Prop := vp_in (a2) 8 ∧ ((0 ≤ (gI (h) 164 (0) (tN (a2))) → w_X12_plan_268 K157 Q (a1) (a2) (a3) (h)) ∧ (¬ 0 ≤ (gI (h) 164 (0) (tN (a2))) → w_X12_plan_191 K157 K174 Q (a1) (a2) (a3) (h)))
def w_X12_plan_174 (K157 : Int32 → Int32 → Hp → Prop) (Q : Int32 → Hp → Prop) : Nat → Int32 → Int32 → Int32 → Hp → Prop
  | 0 => fun _ _ _ _ => False
  | N + 1 => fun a1 a2 a3 h => ((gI (h) 12 (0) (61)) ≤ (a3) → w_X12_plan_268 K157 Q (a1) (a2) (a3) (h)) ∧ (¬ (gI (h) 12 (0) (61)) ≤ (a3) → w_X12_plan_182 K157 (w_X12_plan_174 K157 Q N) Q (a1) (a2) (a3) (h))
def w_X12_plan_165 (K157 : Int32 → Int32 → Hp → Prop) (Q : Int32 → Hp → Prop) (a1 : Int32) (a2 : Int32) (h : Hp) : Prop := vp_in (a2) 8 ∧ (∃ N, w_X12_plan_174 K157 Q N (a1) (a2) ((0 : Int32)) (wI (h) 164 (0) (tN (a2)) ((-1 : Int32))))
def w_X12_plan_157 (Q : Int32 → Hp → Prop) : Nat → Int32 → Int32 → Hp → Prop
  | 0 => fun _ _ _ => False
  | N + 1 => fun a1 a2 h => ((gI (h) 12 (0) (35)) ≤ (a2) → w_X12_plan_298  Q (a1) (a2) (h)) ∧ (¬ (gI (h) 12 (0) (35)) ≤ (a2) → w_X12_plan_165 (w_X12_plan_157  Q N) Q (a1) (a2) (h))
def w_X12_plan_153 (Q : Int32 → Hp → Prop) (a1 : Int32) (h : Hp) : Prop := ∃ N, w_X12_plan_157  Q N ((0 : Int32)) ((0 : Int32)) (h)
def w_X12_plan_147 (K10 : Int32 → Hp → Prop) (Q : Int32 → Hp → Prop) (a1 : Int32) (a2 : Int32) (h : Hp) : Prop := K10 (a1 + (-1)) (h)
def w_X12_plan_129 (K10 : Int32 → Hp → Prop) (K16 : Int32 → Int32 → Hp → Prop) (Q : Int32 → Hp → Prop) (a1 : Int32) (a2 : Int32) (a3 : Int32) (a4 : Int32) (h : Hp) : Prop := vp_in ((((64 : Int32)) * (a1)) + (a2)) 576 ∧ (K16 (a1) (a2 + 1) (wI (h) 165 (0) (tN ((((64 : Int32)) * (a1)) + (a2))) (a3)))
def w_X12_plan_122 (K10 : Int32 → Hp → Prop) (K16 : Int32 → Int32 → Hp → Prop) (K51 : Int32 → Int32 → Int32 → Int32 → Hp → Prop) (Q : Int32 → Hp → Prop) (a1 : Int32) (a2 : Int32) (a3 : Int32) (a4 : Int32) (a5 : Int32) (s0 : Int32) (h : Hp) : Prop := K51 (a1) (a2) (s0) (a4 + 1) (h)
def w_X12_plan_121 (K10 : Int32 → Hp → Prop) (K16 : Int32 → Int32 → Hp → Prop) (K51 : Int32 → Int32 → Int32 → Int32 → Hp → Prop) (Q : Int32 → Hp → Prop) (a1 : Int32) (a2 : Int32) (a3 : Int32) (a4 : Int32) (a5 : Int32) (h : Hp) : Prop := w_X12_plan_122 K10 K16 K51 Q (a1) (a2) (a3) (a4) (a5) (a3) (h)
def w_X12_plan_116 (K10 : Int32 → Hp → Prop) (K16 : Int32 → Int32 → Hp → Prop) (K51 : Int32 → Int32 → Int32 → Int32 → Hp → Prop) (Q : Int32 → Hp → Prop) (a1 : Int32) (a2 : Int32) (a3 : Int32) (a4 : Int32) (a5 : Int32) (h : Hp) : Prop := w_X12_plan_122 K10 K16 K51 Q (a1) (a2) (a3) (a4) (a5) (a5) (h)
def w_X12_plan_108 (K10 : Int32 → Hp → Prop) (K16 : Int32 → Int32 → Hp → Prop) (K51 : Int32 → Int32 → Int32 → Int32 → Hp → Prop) (Q : Int32 → Hp → Prop) (a1 : Int32) (a2 : Int32) (a3 : Int32) (a4 : Int32) (s0 : Int32) (h : Hp) : Prop := ((s0) ≤ (a3) → w_X12_plan_121 K10 K16 K51 Q (a1) (a2) (a3) (a4) (s0) (h)) ∧ (¬ (s0) ≤ (a3) → w_X12_plan_116 K10 K16 K51 Q (a1) (a2) (a3) (a4) (s0) (h))
def w_X12_plan_107 (K10 : Int32 → Hp → Prop) (K16 : Int32 → Int32 → Hp → Prop) (K51 : Int32 → Int32 → Int32 → Int32 → Hp → Prop) (Q : Int32 → Hp → Prop) (a1 : Int32) (a2 : Int32) (a3 : Int32) (a4 : Int32) (h : Hp) : Prop := w_X12_plan_108 K10 K16 K51 Q (a1) (a2) (a3) (a4) ((0 : Int32)) (h)
def w_X12_plan_102 (K10 : Int32 → Hp → Prop) (K16 : Int32 → Int32 → Hp → Prop) (K51 : Int32 → Int32 → Int32 → Int32 → Hp → Prop) (Q : Int32 → Hp → Prop) (a1 : Int32) (a2 : Int32) (a3 : Int32) (a4 : Int32) (s0 : Int32) (s2 : Int32) (h : Hp) : Prop := vp_in (s2) 576 ∧ (w_X12_plan_108 K10 K16 K51 Q (a1) (a2) (a3) (a4) ((s0) + (gI (h) 165 (0) (tN (s2)))) (h))
def w_X12_plan_79 (K10 : Int32 → Hp → Prop) (K16 : Int32 → Int32 → Hp → Prop) (K51 : Int32 → Int32 → Int32 → Int32 → Hp → Prop) (Q : Int32 → Hp → Prop) (a1 : Int32) (a2 : Int32) (a3 : Int32) (a4 : Int32) (h : Hp) : Prop := vp_in (a1) 8 ∧ (w_X12_plan_102 K10 K16 K51 Q (a1) (a2) (a3) (a4) (gI (h) 138 (0) (tN (a1))) ((((64 : Int32)) * ((a1) + ((1 : Int32)))) + ((a2) ||| (((1 : Int32)) <<< ((a4) &&& 31)))) (h))
def w_X12_plan_76 (K10 : Int32 → Hp → Prop) (K16 : Int32 → Int32 → Hp → Prop) (K51 : Int32 → Int32 → Int32 → Int32 → Hp → Prop) (Q : Int32 → Hp → Prop) (a1 : Int32) (a2 : Int32) (a3 : Int32) (a4 : Int32) (s0 : Int32) (h : Hp) : Prop := ((s0) = 0 → w_X12_plan_107 K10 K16 K51 Q (a1) (a2) (a3) (a4) (h)) ∧ (¬ (s0) = 0 → w_X12_plan_79 K10 K16 K51 Q (a1) (a2) (a3) (a4) (h))
def w_X12_plan_68 (K10 : Int32 → Hp → Prop) (K16 : Int32 → Int32 → Hp → Prop) (K51 : Int32 → Int32 → Int32 → Int32 → Hp → Prop) (Q : Int32 → Hp → Prop) (a1 : Int32) (a2 : Int32) (a3 : Int32) (a4 : Int32) (h : Hp) : Prop := wp_X12_can (a4) (a1) (a2) (h) (fun r2 h2 => w_X12_plan_76 K10 K16 K51 Q (a1) (a2) (a3) (a4) (r2) (h2))
def w_X12_plan_60 (K10 : Int32 → Hp → Prop) (K16 : Int32 → Int32 → Hp → Prop) (K51 : Int32 → Int32 → Int32 → Int32 → Hp → Prop) (Q : Int32 → Hp → Prop) (a1 : Int32) (a2 : Int32) (a3 : Int32) (a4 : Int32) (h : Hp) : Prop := ((gI (h) 12 (0) (35)) ≤ (a1) → w_X12_plan_129 K10 K16 Q (a1) (a2) (a3) (a4) (h)) ∧ (¬ (gI (h) 12 (0) (35)) ≤ (a1) → w_X12_plan_68 K10 K16 K51 Q (a1) (a2) (a3) (a4) (h))
def w_X12_plan_51 (K10 : Int32 → Hp → Prop) (K16 : Int32 → Int32 → Hp → Prop) (Q : Int32 → Hp → Prop) : Nat → Int32 → Int32 → Int32 → Int32 → Hp → Prop
  | 0 => fun _ _ _ _ _ => False
  | N + 1 => fun a1 a2 a3 a4 h => ((gI (h) 12 (0) (61)) ≤ (a4) → w_X12_plan_129 K10 K16 Q (a1) (a2) (a3) (a4) (h)) ∧ (¬ (gI (h) 12 (0) (61)) ≤ (a4) → w_X12_plan_60 K10 K16 (w_X12_plan_51 K10 K16 Q N) Q (a1) (a2) (a3) (a4) (h))
def w_X12_plan_47 (K10 : Int32 → Hp → Prop) (K16 : Int32 → Int32 → Hp → Prop) (Q : Int32 → Hp → Prop) (a1 : Int32) (a2 : Int32) (s0 : Int32) (h : Hp) : Prop := ∃ N, w_X12_plan_51 K10 K16 Q N (a1) (a2) (s0) ((0 : Int32)) (h)
def w_X12_plan_46 (K10 : Int32 → Hp → Prop) (K16 : Int32 → Int32 → Hp → Prop) (Q : Int32 → Hp → Prop) (a1 : Int32) (a2 : Int32) (s1 : Int32) (h : Hp) : Prop := vp_in (s1) 576 ∧ (w_X12_plan_47 K10 K16 Q (a1) (a2) (gI (h) 165 (0) (tN (s1))) (h))
def w_X12_plan_34 (K10 : Int32 → Hp → Prop) (K16 : Int32 → Int32 → Hp → Prop) (Q : Int32 → Hp → Prop) (a1 : Int32) (a2 : Int32) (h : Hp) : Prop := w_X12_plan_46 K10 K16 Q (a1) (a2) ((((64 : Int32)) * ((a1) + ((1 : Int32)))) + (a2)) (h)
def w_X12_plan_30 (K10 : Int32 → Hp → Prop) (K16 : Int32 → Int32 → Hp → Prop) (Q : Int32 → Hp → Prop) (a1 : Int32) (a2 : Int32) (h : Hp) : Prop := w_X12_plan_47 K10 K16 Q (a1) (a2) ((0 : Int32)) (h)
def w_X12_plan_22 (K10 : Int32 → Hp → Prop) (K16 : Int32 → Int32 → Hp → Prop) (Q : Int32 → Hp → Prop) (a1 : Int32) (a2 : Int32) (h : Hp) : Prop := (¬ (a1) = (gI (h) 12 (0) (35)) → w_X12_plan_34 K10 K16 Q (a1) (a2) (h)) ∧ ((a1) = (gI (h) 12 (0) (35)) → w_X12_plan_30 K10 K16 Q (a1) (a2) (h))
def w_X12_plan_16 (K10 : Int32 → Hp → Prop) (Q : Int32 → Hp → Prop) : Nat → Int32 → Int32 → Hp → Prop
  | 0 => fun _ _ _ => False
  | N + 1 => fun a1 a2 h => (((64 : Int32)) ≤ (a2) → w_X12_plan_147 K10 Q (a1) (a2) (h)) ∧ (¬ ((64 : Int32)) ≤ (a2) → w_X12_plan_22 K10 (w_X12_plan_16 K10 Q N) Q (a1) (a2) (h))
def w_X12_plan_14 (K10 : Int32 → Hp → Prop) (Q : Int32 → Hp → Prop) (a1 : Int32) (h : Hp) : Prop := ∃ N, w_X12_plan_16 K10 Q N (a1) ((0 : Int32)) (h)
def w_X12_plan_10 (Q : Int32 → Hp → Prop) : Nat → Int32 → Hp → Prop
  | 0 => fun _ _ => False
  | N + 1 => fun a1 h => ((a1) < 0 → w_X12_plan_153  Q (a1) (h)) ∧ (¬ (a1) < 0 → w_X12_plan_14 (w_X12_plan_10  Q N) Q (a1) (h))
def w_X12_plan_0 (Q : Int32 → Hp → Prop) (h : Hp) : Prop := ∃ N, w_X12_plan_10  Q N (gI (wI (h) 12 (0) 0 ((0 : Int32))) 12 (0) (35)) (wI (h) 12 (0) 0 ((0 : Int32)))
theorem s_X12_plan_298 {E : EnvT} {d : Nat} (cx : CX E "ShoreDayModel" cX12_plan 6 (some .int) "plan" (d + 2) 0 0) (hY : eY E = lay1) {Q : Int32 → Hp → Prop} (eq : EQ E 0 0 (fun r h2 => ∃ x, r = [vI x] ∧ Q x h2)) {a1 : Int32} {a2 : Int32} {x3 : Option AVal} {x4 : Option AVal} {x5 : Option AVal} {h : Hp} {c n : Nat} (hc : c + 0 ≤ 0) (hn : n + 0 ≤ 0) (w : w_X12_plan_298  Q a1 a2 h) : SW E 298 ([some (vP (some (12, 0))), some (vI (a1)), some (vI (a2)), x3, x4, x5], [], h, c, n) := by
  obtain ⟨G1, w⟩ := w
  exact k_X12_plan_298 cx hY G1 eq (by omega) (by omega) ⟨_, rfl, w⟩
theorem s_X12_plan_290 {E : EnvT} {d : Nat} (cx : CX E "ShoreDayModel" cX12_plan 6 (some .int) "plan" (d + 2) 0 0) (hY : eY E = lay1) {Q : Int32 → Hp → Prop} (eq : EQ E 0 0 (fun r h2 => ∃ x, r = [vI x] ∧ Q x h2)) {K157 : Int32 → Int32 → Hp → Prop} (hK157 : ∀ (a1 : Int32) (a2 : Int32) (x3 : Option AVal) (x4 : Option AVal) (x5 : Option AVal) (h : Hp) (c n : Nat), c + 0 ≤ 0 → n + 0 ≤ 0 → K157 a1 a2 h → SW E 157 ([some (vP (some (12, 0))), some (vI (a1)), some (vI (a2)), x3, x4, x5], [], h, c, n)) {a1 : Int32} {a2 : Int32} {a3 : Int32} {x4 : Option AVal} {x5 : Option AVal} {s0 : Int32} {s1 : Int32} {h : Hp} {c n : Nat} (hc : c + 0 ≤ 0) (hn : n + 0 ≤ 0) (w : w_X12_plan_290 K157 Q a1 a2 a3 s0 s1 h) : SW E 290 ([some (vP (some (12, 0))), some (vI (a1)), some (vI (a2)), some (vI (a3)), x4, x5], [vI (s1), vI (s0)], h, c, n) := by
  refine k_X12_plan_290 cx hY ?_
  exact hK157 _ _ _ _ _ _ _ _ (by omega) (by omega) w
theorem s_X12_plan_289 {E : EnvT} {d : Nat} (cx : CX E "ShoreDayModel" cX12_plan 6 (some .int) "plan" (d + 2) 0 0) (hY : eY E = lay1) {Q : Int32 → Hp → Prop} (eq : EQ E 0 0 (fun r h2 => ∃ x, r = [vI x] ∧ Q x h2)) {K157 : Int32 → Int32 → Hp → Prop} (hK157 : ∀ (a1 : Int32) (a2 : Int32) (x3 : Option AVal) (x4 : Option AVal) (x5 : Option AVal) (h : Hp) (c n : Nat), c + 0 ≤ 0 → n + 0 ≤ 0 → K157 a1 a2 h → SW E 157 ([some (vP (some (12, 0))), some (vI (a1)), some (vI (a2)), x3, x4, x5], [], h, c, n)) {a1 : Int32} {a2 : Int32} {a3 : Int32} {x4 : Option AVal} {x5 : Option AVal} {s0 : Int32} {h : Hp} {c n : Nat} (hc : c + 0 ≤ 0) (hn : n + 0 ≤ 0) (w : w_X12_plan_289 K157 Q a1 a2 a3 s0 h) : SW E 289 ([some (vP (some (12, 0))), some (vI (a1)), some (vI (a2)), some (vI (a3)), x4, x5], [vI (s0)], h, c, n) := by
  refine k_X12_plan_289 cx hY ?_
  exact s_X12_plan_290 cx hY eq hK157 (by omega) (by omega) w
theorem s_X12_plan_278 {E : EnvT} {d : Nat} (cx : CX E "ShoreDayModel" cX12_plan 6 (some .int) "plan" (d + 2) 0 0) (hY : eY E = lay1) {Q : Int32 → Hp → Prop} (eq : EQ E 0 0 (fun r h2 => ∃ x, r = [vI x] ∧ Q x h2)) {K157 : Int32 → Int32 → Hp → Prop} (hK157 : ∀ (a1 : Int32) (a2 : Int32) (x3 : Option AVal) (x4 : Option AVal) (x5 : Option AVal) (h : Hp) (c n : Nat), c + 0 ≤ 0 → n + 0 ≤ 0 → K157 a1 a2 h → SW E 157 ([some (vP (some (12, 0))), some (vI (a1)), some (vI (a2)), x3, x4, x5], [], h, c, n)) {a1 : Int32} {a2 : Int32} {a3 : Int32} {x4 : Option AVal} {x5 : Option AVal} {s0 : Int32} {h : Hp} {c n : Nat} (hc : c + 0 ≤ 0) (hn : n + 0 ≤ 0) (w : w_X12_plan_278 K157 Q a1 a2 a3 s0 h) : SW E 278 ([some (vP (some (12, 0))), some (vI (a1)), some (vI (a2)), some (vI (a3)), x4, x5], [vI (s0)], h, c, n) := by
  obtain ⟨G1, w⟩ := w
  refine k_X12_plan_278 cx hY G1 ?_
  exact s_X12_plan_290 cx hY eq hK157 (by omega) (by omega) w
theorem s_X12_plan_268 {E : EnvT} {d : Nat} (cx : CX E "ShoreDayModel" cX12_plan 6 (some .int) "plan" (d + 2) 0 0) (hY : eY E = lay1) {Q : Int32 → Hp → Prop} (eq : EQ E 0 0 (fun r h2 => ∃ x, r = [vI x] ∧ Q x h2)) {K157 : Int32 → Int32 → Hp → Prop} (hK157 : ∀ (a1 : Int32) (a2 : Int32) (x3 : Option AVal) (x4 : Option AVal) (x5 : Option AVal) (h : Hp) (c n : Nat), c + 0 ≤ 0 → n + 0 ≤ 0 → K157 a1 a2 h → SW E 157 ([some (vP (some (12, 0))), some (vI (a1)), some (vI (a2)), x3, x4, x5], [], h, c, n)) {a1 : Int32} {a2 : Int32} {a3 : Int32} {x4 : Option AVal} {x5 : Option AVal} {h : Hp} {c n : Nat} (hc : c + 0 ≤ 0) (hn : n + 0 ≤ 0) (w : w_X12_plan_268 K157 Q a1 a2 a3 h) : SW E 268 ([some (vP (some (12, 0))), some (vI (a1)), some (vI (a2)), some (vI (a3)), x4, x5], [], h, c, n) := by
  obtain ⟨G1, w⟩ := w
  refine k_X12_plan_268 cx hY G1 (fun q => ?_) (fun q => ?_)
  · have w := w.1 q
    exact s_X12_plan_289 cx hY eq hK157 (by omega) (by omega) w
  · have w := w.2 q
    exact s_X12_plan_278 cx hY eq hK157 (by omega) (by omega) w
theorem s_X12_plan_261 {E : EnvT} {d : Nat} (cx : CX E "ShoreDayModel" cX12_plan 6 (some .int) "plan" (d + 2) 0 0) (hY : eY E = lay1) {Q : Int32 → Hp → Prop} (eq : EQ E 0 0 (fun r h2 => ∃ x, r = [vI x] ∧ Q x h2)) {K157 : Int32 → Int32 → Hp → Prop} (hK157 : ∀ (a1 : Int32) (a2 : Int32) (x3 : Option AVal) (x4 : Option AVal) (x5 : Option AVal) (h : Hp) (c n : Nat), c + 0 ≤ 0 → n + 0 ≤ 0 → K157 a1 a2 h → SW E 157 ([some (vP (some (12, 0))), some (vI (a1)), some (vI (a2)), x3, x4, x5], [], h, c, n)) {K174 : Int32 → Int32 → Int32 → Hp → Prop} (hK174 : ∀ (a1 : Int32) (a2 : Int32) (a3 : Int32) (x4 : Option AVal) (x5 : Option AVal) (h : Hp) (c n : Nat), c + 0 ≤ 0 → n + 0 ≤ 0 → K174 a1 a2 a3 h → SW E 174 ([some (vP (some (12, 0))), some (vI (a1)), some (vI (a2)), some (vI (a3)), x4, x5], [], h, c, n)) {a1 : Int32} {a2 : Int32} {a3 : Int32} {a4 : Int32} {x5 : Option AVal} {s1 : Int32} {s2 : Int32} {h : Hp} {c n : Nat} (hc : c + 0 ≤ 0) (hn : n + 0 ≤ 0) (w : w_X12_plan_261 K157 K174 Q a1 a2 a3 a4 s1 s2 h) : SW E 261 ([some (vP (some (12, 0))), some (vI (a1)), some (vI (a2)), some (vI (a3)), some (vI (a4)), x5], [vI (s2), vI (s1), vP (some (164, 0))], h, c, n) := by
  obtain ⟨G1, w⟩ := w
  refine k_X12_plan_261 cx hY G1 ?_
  exact hK174 _ _ _ _ _ _ _ _ (by omega) (by omega) w
theorem s_X12_plan_260 {E : EnvT} {d : Nat} (cx : CX E "ShoreDayModel" cX12_plan 6 (some .int) "plan" (d + 2) 0 0) (hY : eY E = lay1) {Q : Int32 → Hp → Prop} (eq : EQ E 0 0 (fun r h2 => ∃ x, r = [vI x] ∧ Q x h2)) {K157 : Int32 → Int32 → Hp → Prop} (hK157 : ∀ (a1 : Int32) (a2 : Int32) (x3 : Option AVal) (x4 : Option AVal) (x5 : Option AVal) (h : Hp) (c n : Nat), c + 0 ≤ 0 → n + 0 ≤ 0 → K157 a1 a2 h → SW E 157 ([some (vP (some (12, 0))), some (vI (a1)), some (vI (a2)), x3, x4, x5], [], h, c, n)) {K174 : Int32 → Int32 → Int32 → Hp → Prop} (hK174 : ∀ (a1 : Int32) (a2 : Int32) (a3 : Int32) (x4 : Option AVal) (x5 : Option AVal) (h : Hp) (c n : Nat), c + 0 ≤ 0 → n + 0 ≤ 0 → K174 a1 a2 a3 h → SW E 174 ([some (vP (some (12, 0))), some (vI (a1)), some (vI (a2)), some (vI (a3)), x4, x5], [], h, c, n)) {a1 : Int32} {a2 : Int32} {a3 : Int32} {a4 : Int32} {x5 : Option AVal} {s1 : Int32} {h : Hp} {c n : Nat} (hc : c + 0 ≤ 0) (hn : n + 0 ≤ 0) (w : w_X12_plan_260 K157 K174 Q a1 a2 a3 a4 s1 h) : SW E 260 ([some (vP (some (12, 0))), some (vI (a1)), some (vI (a2)), some (vI (a3)), some (vI (a4)), x5], [vI (s1), vP (some (164, 0))], h, c, n) := by
  refine k_X12_plan_260 cx hY ?_
  exact s_X12_plan_261 cx hY eq hK157 hK174 (by omega) (by omega) w
theorem s_X12_plan_256 {E : EnvT} {d : Nat} (cx : CX E "ShoreDayModel" cX12_plan 6 (some .int) "plan" (d + 2) 0 0) (hY : eY E = lay1) {Q : Int32 → Hp → Prop} (eq : EQ E 0 0 (fun r h2 => ∃ x, r = [vI x] ∧ Q x h2)) {K157 : Int32 → Int32 → Hp → Prop} (hK157 : ∀ (a1 : Int32) (a2 : Int32) (x3 : Option AVal) (x4 : Option AVal) (x5 : Option AVal) (h : Hp) (c n : Nat), c + 0 ≤ 0 → n + 0 ≤ 0 → K157 a1 a2 h → SW E 157 ([some (vP (some (12, 0))), some (vI (a1)), some (vI (a2)), x3, x4, x5], [], h, c, n)) {K174 : Int32 → Int32 → Int32 → Hp → Prop} (hK174 : ∀ (a1 : Int32) (a2 : Int32) (a3 : Int32) (x4 : Option AVal) (x5 : Option AVal) (h : Hp) (c n : Nat), c + 0 ≤ 0 → n + 0 ≤ 0 → K174 a1 a2 a3 h → SW E 174 ([some (vP (some (12, 0))), some (vI (a1)), some (vI (a2)), some (vI (a3)), x4, x5], [], h, c, n)) {a1 : Int32} {a2 : Int32} {a3 : Int32} {a4 : Int32} {x5 : Option AVal} {s1 : Int32} {h : Hp} {c n : Nat} (hc : c + 0 ≤ 0) (hn : n + 0 ≤ 0) (w : w_X12_plan_256 K157 K174 Q a1 a2 a3 a4 s1 h) : SW E 256 ([some (vP (some (12, 0))), some (vI (a1)), some (vI (a2)), some (vI (a3)), some (vI (a4)), x5], [vI (s1), vP (some (164, 0))], h, c, n) := by
  refine k_X12_plan_256 cx hY ?_
  exact s_X12_plan_261 cx hY eq hK157 hK174 (by omega) (by omega) w
theorem s_X12_plan_244 {E : EnvT} {d : Nat} (cx : CX E "ShoreDayModel" cX12_plan 6 (some .int) "plan" (d + 2) 0 0) (hY : eY E = lay1) {Q : Int32 → Hp → Prop} (eq : EQ E 0 0 (fun r h2 => ∃ x, r = [vI x] ∧ Q x h2)) {K157 : Int32 → Int32 → Hp → Prop} (hK157 : ∀ (a1 : Int32) (a2 : Int32) (x3 : Option AVal) (x4 : Option AVal) (x5 : Option AVal) (h : Hp) (c n : Nat), c + 0 ≤ 0 → n + 0 ≤ 0 → K157 a1 a2 h → SW E 157 ([some (vP (some (12, 0))), some (vI (a1)), some (vI (a2)), x3, x4, x5], [], h, c, n)) {K174 : Int32 → Int32 → Int32 → Hp → Prop} (hK174 : ∀ (a1 : Int32) (a2 : Int32) (a3 : Int32) (x4 : Option AVal) (x5 : Option AVal) (h : Hp) (c n : Nat), c + 0 ≤ 0 → n + 0 ≤ 0 → K174 a1 a2 a3 h → SW E 174 ([some (vP (some (12, 0))), some (vI (a1)), some (vI (a2)), some (vI (a3)), x4, x5], [], h, c, n)) {a1 : Int32} {a2 : Int32} {a3 : Int32} {x4 : Option AVal} {x5 : Option AVal} {s0 : Int32} {h : Hp} {c n : Nat} (hc : c + 0 ≤ 0) (hn : n + 0 ≤ 0) (w : w_X12_plan_244 K157 K174 Q a1 a2 a3 s0 h) : SW E 244 ([some (vP (some (12, 0))), some (vI (a1)), some (vI (a2)), some (vI (a3)), x4, x5], [vI (s0)], h, c, n) := by
  refine k_X12_plan_244 cx hY (fun q => ?_) (fun q => ?_)
  · have w := w.1 q
    exact s_X12_plan_260 cx hY eq hK157 hK174 (by omega) (by omega) w
  · have w := w.2 q
    exact s_X12_plan_256 cx hY eq hK157 hK174 (by omega) (by omega) w
theorem s_X12_plan_243 {E : EnvT} {d : Nat} (cx : CX E "ShoreDayModel" cX12_plan 6 (some .int) "plan" (d + 2) 0 0) (hY : eY E = lay1) {Q : Int32 → Hp → Prop} (eq : EQ E 0 0 (fun r h2 => ∃ x, r = [vI x] ∧ Q x h2)) {K157 : Int32 → Int32 → Hp → Prop} (hK157 : ∀ (a1 : Int32) (a2 : Int32) (x3 : Option AVal) (x4 : Option AVal) (x5 : Option AVal) (h : Hp) (c n : Nat), c + 0 ≤ 0 → n + 0 ≤ 0 → K157 a1 a2 h → SW E 157 ([some (vP (some (12, 0))), some (vI (a1)), some (vI (a2)), x3, x4, x5], [], h, c, n)) {K174 : Int32 → Int32 → Int32 → Hp → Prop} (hK174 : ∀ (a1 : Int32) (a2 : Int32) (a3 : Int32) (x4 : Option AVal) (x5 : Option AVal) (h : Hp) (c n : Nat), c + 0 ≤ 0 → n + 0 ≤ 0 → K174 a1 a2 a3 h → SW E 174 ([some (vP (some (12, 0))), some (vI (a1)), some (vI (a2)), some (vI (a3)), x4, x5], [], h, c, n)) {a1 : Int32} {a2 : Int32} {a3 : Int32} {x4 : Option AVal} {x5 : Option AVal} {h : Hp} {c n : Nat} (hc : c + 0 ≤ 0) (hn : n + 0 ≤ 0) (w : w_X12_plan_243 K157 K174 Q a1 a2 a3 h) : SW E 243 ([some (vP (some (12, 0))), some (vI (a1)), some (vI (a2)), some (vI (a3)), x4, x5], [], h, c, n) := by
  refine k_X12_plan_243 cx hY ?_
  exact s_X12_plan_244 cx hY eq hK157 hK174 (by omega) (by omega) w
theorem s_X12_plan_239 {E : EnvT} {d : Nat} (cx : CX E "ShoreDayModel" cX12_plan 6 (some .int) "plan" (d + 2) 0 0) (hY : eY E = lay1) {Q : Int32 → Hp → Prop} (eq : EQ E 0 0 (fun r h2 => ∃ x, r = [vI x] ∧ Q x h2)) {K157 : Int32 → Int32 → Hp → Prop} (hK157 : ∀ (a1 : Int32) (a2 : Int32) (x3 : Option AVal) (x4 : Option AVal) (x5 : Option AVal) (h : Hp) (c n : Nat), c + 0 ≤ 0 → n + 0 ≤ 0 → K157 a1 a2 h → SW E 157 ([some (vP (some (12, 0))), some (vI (a1)), some (vI (a2)), x3, x4, x5], [], h, c, n)) {K174 : Int32 → Int32 → Int32 → Hp → Prop} (hK174 : ∀ (a1 : Int32) (a2 : Int32) (a3 : Int32) (x4 : Option AVal) (x5 : Option AVal) (h : Hp) (c n : Nat), c + 0 ≤ 0 → n + 0 ≤ 0 → K174 a1 a2 a3 h → SW E 174 ([some (vP (some (12, 0))), some (vI (a1)), some (vI (a2)), some (vI (a3)), x4, x5], [], h, c, n)) {a1 : Int32} {a2 : Int32} {a3 : Int32} {x4 : Option AVal} {x5 : Option AVal} {h : Hp} {c n : Nat} (hc : c + 0 ≤ 0) (hn : n + 0 ≤ 0) (w : w_X12_plan_239 K157 K174 Q a1 a2 a3 h) : SW E 239 ([some (vP (some (12, 0))), some (vI (a1)), some (vI (a2)), some (vI (a3)), x4, x5], [], h, c, n) := by
  refine k_X12_plan_239 cx hY ?_
  exact s_X12_plan_244 cx hY eq hK157 hK174 (by omega) (by omega) w
theorem s_X12_plan_223 {E : EnvT} {d : Nat} (cx : CX E "ShoreDayModel" cX12_plan 6 (some .int) "plan" (d + 2) 0 0) (hY : eY E = lay1) {Q : Int32 → Hp → Prop} (eq : EQ E 0 0 (fun r h2 => ∃ x, r = [vI x] ∧ Q x h2)) {K157 : Int32 → Int32 → Hp → Prop} (hK157 : ∀ (a1 : Int32) (a2 : Int32) (x3 : Option AVal) (x4 : Option AVal) (x5 : Option AVal) (h : Hp) (c n : Nat), c + 0 ≤ 0 → n + 0 ≤ 0 → K157 a1 a2 h → SW E 157 ([some (vP (some (12, 0))), some (vI (a1)), some (vI (a2)), x3, x4, x5], [], h, c, n)) {K174 : Int32 → Int32 → Int32 → Hp → Prop} (hK174 : ∀ (a1 : Int32) (a2 : Int32) (a3 : Int32) (x4 : Option AVal) (x5 : Option AVal) (h : Hp) (c n : Nat), c + 0 ≤ 0 → n + 0 ≤ 0 → K174 a1 a2 a3 h → SW E 174 ([some (vP (some (12, 0))), some (vI (a1)), some (vI (a2)), some (vI (a3)), x4, x5], [], h, c, n)) {a1 : Int32} {a2 : Int32} {a3 : Int32} {x4 : Option AVal} {x5 : Option AVal} {s0 : Int32} {s2 : Int32} {h : Hp} {c n : Nat} (hc : c + 0 ≤ 0) (hn : n + 0 ≤ 0) (w : w_X12_plan_223 K157 K174 Q a1 a2 a3 s0 s2 h) : SW E 223 ([some (vP (some (12, 0))), some (vI (a1)), some (vI (a2)), some (vI (a3)), x4, x5], [vI (s2), vP (some (165, 0)), vI (s0)], h, c, n) := by
  obtain ⟨G1, G2, w⟩ := w
  refine k_X12_plan_223 cx hY G1 G2 (fun q => ?_) (fun q => ?_)
  · have w := w.1 q
    exact s_X12_plan_243 cx hY eq hK157 hK174 (by omega) (by omega) w
  · have w := w.2 q
    exact s_X12_plan_239 cx hY eq hK157 hK174 (by omega) (by omega) w
theorem s_X12_plan_201 {E : EnvT} {d : Nat} (cx : CX E "ShoreDayModel" cX12_plan 6 (some .int) "plan" (d + 2) 0 0) (hY : eY E = lay1) {Q : Int32 → Hp → Prop} (eq : EQ E 0 0 (fun r h2 => ∃ x, r = [vI x] ∧ Q x h2)) {K157 : Int32 → Int32 → Hp → Prop} (hK157 : ∀ (a1 : Int32) (a2 : Int32) (x3 : Option AVal) (x4 : Option AVal) (x5 : Option AVal) (h : Hp) (c n : Nat), c + 0 ≤ 0 → n + 0 ≤ 0 → K157 a1 a2 h → SW E 157 ([some (vP (some (12, 0))), some (vI (a1)), some (vI (a2)), x3, x4, x5], [], h, c, n)) {K174 : Int32 → Int32 → Int32 → Hp → Prop} (hK174 : ∀ (a1 : Int32) (a2 : Int32) (a3 : Int32) (x4 : Option AVal) (x5 : Option AVal) (h : Hp) (c n : Nat), c + 0 ≤ 0 → n + 0 ≤ 0 → K174 a1 a2 a3 h → SW E 174 ([some (vP (some (12, 0))), some (vI (a1)), some (vI (a2)), some (vI (a3)), x4, x5], [], h, c, n)) {a1 : Int32} {a2 : Int32} {a3 : Int32} {x4 : Option AVal} {x5 : Option AVal} {h : Hp} {c n : Nat} (hc : c + 0 ≤ 0) (hn : n + 0 ≤ 0) (w : w_X12_plan_201 K157 K174 Q a1 a2 a3 h) : SW E 201 ([some (vP (some (12, 0))), some (vI (a1)), some (vI (a2)), some (vI (a3)), x4, x5], [], h, c, n) := by
  obtain ⟨G1, w⟩ := w
  refine k_X12_plan_201 cx hY G1 ?_
  exact s_X12_plan_223 cx hY eq hK157 hK174 (by omega) (by omega) w
theorem s_X12_plan_198 {E : EnvT} {d : Nat} (cx : CX E "ShoreDayModel" cX12_plan 6 (some .int) "plan" (d + 2) 0 0) (hY : eY E = lay1) {Q : Int32 → Hp → Prop} (eq : EQ E 0 0 (fun r h2 => ∃ x, r = [vI x] ∧ Q x h2)) {K157 : Int32 → Int32 → Hp → Prop} (hK157 : ∀ (a1 : Int32) (a2 : Int32) (x3 : Option AVal) (x4 : Option AVal) (x5 : Option AVal) (h : Hp) (c n : Nat), c + 0 ≤ 0 → n + 0 ≤ 0 → K157 a1 a2 h → SW E 157 ([some (vP (some (12, 0))), some (vI (a1)), some (vI (a2)), x3, x4, x5], [], h, c, n)) {K174 : Int32 → Int32 → Int32 → Hp → Prop} (hK174 : ∀ (a1 : Int32) (a2 : Int32) (a3 : Int32) (x4 : Option AVal) (x5 : Option AVal) (h : Hp) (c n : Nat), c + 0 ≤ 0 → n + 0 ≤ 0 → K174 a1 a2 a3 h → SW E 174 ([some (vP (some (12, 0))), some (vI (a1)), some (vI (a2)), some (vI (a3)), x4, x5], [], h, c, n)) {a1 : Int32} {a2 : Int32} {a3 : Int32} {x4 : Option AVal} {x5 : Option AVal} {s0 : Int32} {h : Hp} {c n : Nat} (hc : c + 0 ≤ 0) (hn : n + 0 ≤ 0) (w : w_X12_plan_198 K157 K174 Q a1 a2 a3 s0 h) : SW E 198 ([some (vP (some (12, 0))), some (vI (a1)), some (vI (a2)), some (vI (a3)), x4, x5], [vI (s0)], h, c, n) := by
  refine k_X12_plan_198 cx hY (fun q => ?_) (fun q => ?_)
  · have w := w.1 q
    exact s_X12_plan_243 cx hY eq hK157 hK174 (by omega) (by omega) w
  · have w := w.2 q
    exact s_X12_plan_201 cx hY eq hK157 hK174 (by omega) (by omega) w
theorem s_X12_plan_191 {E : EnvT} {d : Nat} (cx : CX E "ShoreDayModel" cX12_plan 6 (some .int) "plan" (d + 2) 0 0) (hY : eY E = lay1) {Q : Int32 → Hp → Prop} (eq : EQ E 0 0 (fun r h2 => ∃ x, r = [vI x] ∧ Q x h2)) {K157 : Int32 → Int32 → Hp → Prop} (hK157 : ∀ (a1 : Int32) (a2 : Int32) (x3 : Option AVal) (x4 : Option AVal) (x5 : Option AVal) (h : Hp) (c n : Nat), c + 0 ≤ 0 → n + 0 ≤ 0 → K157 a1 a2 h → SW E 157 ([some (vP (some (12, 0))), some (vI (a1)), some (vI (a2)), x3, x4, x5], [], h, c, n)) {K174 : Int32 → Int32 → Int32 → Hp → Prop} (hK174 : ∀ (a1 : Int32) (a2 : Int32) (a3 : Int32) (x4 : Option AVal) (x5 : Option AVal) (h : Hp) (c n : Nat), c + 0 ≤ 0 → n + 0 ≤ 0 → K174 a1 a2 a3 h → SW E 174 ([some (vP (some (12, 0))), some (vI (a1)), some (vI (a2)), some (vI (a3)), x4, x5], [], h, c, n)) {a1 : Int32} {a2 : Int32} {a3 : Int32} {x4 : Option AVal} {x5 : Option AVal} {h : Hp} {c n : Nat} (hc : c + 0 ≤ 0) (hn : n + 0 ≤ 0) (w : w_X12_plan_191 K157 K174 Q a1 a2 a3 h) : SW E 191 ([some (vP (some (12, 0))), some (vI (a1)), some (vI (a2)), some (vI (a3)), x4, x5], [], h, c, n) := by
  refine k_X12_plan_191 cx hY (ctY hY (vc_X12_can (d := d + 0) w)) (by omega) (by omega) (by omega) (fun r h2 hp => ?_)
  obtain ⟨r2, rfl, w⟩ := hp
  exact s_X12_plan_198 cx hY eq hK157 hK174 (by omega) (by omega) w
theorem s_X12_plan_182 {E : EnvT} {d : Nat} (cx : CX E "ShoreDayModel" cX12_plan 6 (some .int) "plan" (d + 2) 0 0) (hY : eY E = lay1) {Q : Int32 → Hp → Prop} (eq : EQ E 0 0 (fun r h2 => ∃ x, r = [vI x] ∧ Q x h2)) {K157 : Int32 → Int32 → Hp → Prop} (hK157 : ∀ (a1 : Int32) (a2 : Int32) (x3 : Option AVal) (x4 : Option AVal) (x5 : Option AVal) (h : Hp) (c n : Nat), c + 0 ≤ 0 → n + 0 ≤ 0 → K157 a1 a2 h → SW E 157 ([some (vP (some (12, 0))), some (vI (a1)), some (vI (a2)), x3, x4, x5], [], h, c, n)) {K174 : Int32 → Int32 → Int32 → Hp → Prop} (hK174 : ∀ (a1 : Int32) (a2 : Int32) (a3 : Int32) (x4 : Option AVal) (x5 : Option AVal) (h : Hp) (c n : Nat), c + 0 ≤ 0 → n + 0 ≤ 0 → K174 a1 a2 a3 h → SW E 174 ([some (vP (some (12, 0))), some (vI (a1)), some (vI (a2)), some (vI (a3)), x4, x5], [], h, c, n)) {a1 : Int32} {a2 : Int32} {a3 : Int32} {x4 : Option AVal} {x5 : Option AVal} {h : Hp} {c n : Nat} (hc : c + 0 ≤ 0) (hn : n + 0 ≤ 0) (w : w_X12_plan_182 K157 K174 Q a1 a2 a3 h) : SW E 182 ([some (vP (some (12, 0))), some (vI (a1)), some (vI (a2)), some (vI (a3)), x4, x5], [], h, c, n) := by
  obtain ⟨G1, w⟩ := w
  refine k_X12_plan_182 cx hY G1 (fun q => ?_) (fun q => ?_)
  · have w := w.1 q
    exact s_X12_plan_268 cx hY eq hK157 (by omega) (by omega) w
  · have w := w.2 q
    exact s_X12_plan_191 cx hY eq hK157 hK174 (by omega) (by omega) w
theorem s_X12_plan_174 {E : EnvT} {d : Nat} (cx : CX E "ShoreDayModel" cX12_plan 6 (some .int) "plan" (d + 2) 0 0) (hY : eY E = lay1) {Q : Int32 → Hp → Prop} (eq : EQ E 0 0 (fun r h2 => ∃ x, r = [vI x] ∧ Q x h2)) {K157 : Int32 → Int32 → Hp → Prop} (hK157 : ∀ (a1 : Int32) (a2 : Int32) (x3 : Option AVal) (x4 : Option AVal) (x5 : Option AVal) (h : Hp) (c n : Nat), c + 0 ≤ 0 → n + 0 ≤ 0 → K157 a1 a2 h → SW E 157 ([some (vP (some (12, 0))), some (vI (a1)), some (vI (a2)), x3, x4, x5], [], h, c, n)) : ∀ (N : Nat) (a1 : Int32) (a2 : Int32) (a3 : Int32) (x4 : Option AVal) (x5 : Option AVal) (h : Hp) (c n : Nat), c + 0 ≤ 0 → n + 0 ≤ 0 → w_X12_plan_174 K157 Q N a1 a2 a3 h → SW E 174 ([some (vP (some (12, 0))), some (vI (a1)), some (vI (a2)), some (vI (a3)), x4, x5], [], h, c, n) := by
  intro N
  induction N with
  | zero =>
    intro _ _ _ _ _ h c n _ _ w
    exact w.elim
  | succ N ih =>
    intro a1 a2 a3 x4 x5 h c n hc hn w
    refine k_X12_plan_174 cx hY (fun q => ?_) (fun q => ?_)
    · have w := w.1 q
      exact s_X12_plan_268 cx hY eq hK157 (by omega) (by omega) w
    · have w := w.2 q
      exact s_X12_plan_182 cx hY eq hK157 ih (by omega) (by omega) w
theorem s_X12_plan_165 {E : EnvT} {d : Nat} (cx : CX E "ShoreDayModel" cX12_plan 6 (some .int) "plan" (d + 2) 0 0) (hY : eY E = lay1) {Q : Int32 → Hp → Prop} (eq : EQ E 0 0 (fun r h2 => ∃ x, r = [vI x] ∧ Q x h2)) {K157 : Int32 → Int32 → Hp → Prop} (hK157 : ∀ (a1 : Int32) (a2 : Int32) (x3 : Option AVal) (x4 : Option AVal) (x5 : Option AVal) (h : Hp) (c n : Nat), c + 0 ≤ 0 → n + 0 ≤ 0 → K157 a1 a2 h → SW E 157 ([some (vP (some (12, 0))), some (vI (a1)), some (vI (a2)), x3, x4, x5], [], h, c, n)) {a1 : Int32} {a2 : Int32} {x3 : Option AVal} {x4 : Option AVal} {x5 : Option AVal} {h : Hp} {c n : Nat} (hc : c + 0 ≤ 0) (hn : n + 0 ≤ 0) (w : w_X12_plan_165 K157 Q a1 a2 h) : SW E 165 ([some (vP (some (12, 0))), some (vI (a1)), some (vI (a2)), x3, x4, x5], [], h, c, n) := by
  obtain ⟨G1, w⟩ := w
  refine k_X12_plan_165 cx hY G1 ?_
  obtain ⟨N1, w⟩ := w
  exact s_X12_plan_174 cx hY eq hK157 _ _ _ _ _ _ _ _ _ (by omega) (by omega) w
theorem s_X12_plan_157 {E : EnvT} {d : Nat} (cx : CX E "ShoreDayModel" cX12_plan 6 (some .int) "plan" (d + 2) 0 0) (hY : eY E = lay1) {Q : Int32 → Hp → Prop} (eq : EQ E 0 0 (fun r h2 => ∃ x, r = [vI x] ∧ Q x h2)) : ∀ (N : Nat) (a1 : Int32) (a2 : Int32) (x3 : Option AVal) (x4 : Option AVal) (x5 : Option AVal) (h : Hp) (c n : Nat), c + 0 ≤ 0 → n + 0 ≤ 0 → w_X12_plan_157  Q N a1 a2 h → SW E 157 ([some (vP (some (12, 0))), some (vI (a1)), some (vI (a2)), x3, x4, x5], [], h, c, n) := by
  intro N
  induction N with
  | zero =>
    intro _ _ _ _ _ h c n _ _ w
    exact w.elim
  | succ N ih =>
    intro a1 a2 x3 x4 x5 h c n hc hn w
    refine k_X12_plan_157 cx hY (fun q => ?_) (fun q => ?_)
    · have w := w.1 q
      exact s_X12_plan_298 cx hY eq  (by omega) (by omega) w
    · have w := w.2 q
      exact s_X12_plan_165 cx hY eq ih (by omega) (by omega) w
theorem s_X12_plan_153 {E : EnvT} {d : Nat} (cx : CX E "ShoreDayModel" cX12_plan 6 (some .int) "plan" (d + 2) 0 0) (hY : eY E = lay1) {Q : Int32 → Hp → Prop} (eq : EQ E 0 0 (fun r h2 => ∃ x, r = [vI x] ∧ Q x h2)) {a1 : Int32} {x2 : Option AVal} {x3 : Option AVal} {x4 : Option AVal} {x5 : Option AVal} {h : Hp} {c n : Nat} (hc : c + 0 ≤ 0) (hn : n + 0 ≤ 0) (w : w_X12_plan_153  Q a1 h) : SW E 153 ([some (vP (some (12, 0))), some (vI (a1)), x2, x3, x4, x5], [], h, c, n) := by
  refine k_X12_plan_153 cx hY ?_
  obtain ⟨N1, w⟩ := w
  exact s_X12_plan_157 cx hY eq  _ _ _ _ _ _ _ _ _ (by omega) (by omega) w
theorem s_X12_plan_147 {E : EnvT} {d : Nat} (cx : CX E "ShoreDayModel" cX12_plan 6 (some .int) "plan" (d + 2) 0 0) (hY : eY E = lay1) {Q : Int32 → Hp → Prop} (eq : EQ E 0 0 (fun r h2 => ∃ x, r = [vI x] ∧ Q x h2)) {K10 : Int32 → Hp → Prop} (hK10 : ∀ (a1 : Int32) (x2 : Option AVal) (x3 : Option AVal) (x4 : Option AVal) (x5 : Option AVal) (h : Hp) (c n : Nat), c + 0 ≤ 0 → n + 0 ≤ 0 → K10 a1 h → SW E 10 ([some (vP (some (12, 0))), some (vI (a1)), x2, x3, x4, x5], [], h, c, n)) {a1 : Int32} {a2 : Int32} {x3 : Option AVal} {x4 : Option AVal} {x5 : Option AVal} {h : Hp} {c n : Nat} (hc : c + 0 ≤ 0) (hn : n + 0 ≤ 0) (w : w_X12_plan_147 K10 Q a1 a2 h) : SW E 147 ([some (vP (some (12, 0))), some (vI (a1)), some (vI (a2)), x3, x4, x5], [], h, c, n) := by
  refine k_X12_plan_147 cx hY ?_
  exact hK10 _ _ _ _ _ _ _ _ (by omega) (by omega) w
theorem s_X12_plan_129 {E : EnvT} {d : Nat} (cx : CX E "ShoreDayModel" cX12_plan 6 (some .int) "plan" (d + 2) 0 0) (hY : eY E = lay1) {Q : Int32 → Hp → Prop} (eq : EQ E 0 0 (fun r h2 => ∃ x, r = [vI x] ∧ Q x h2)) {K10 : Int32 → Hp → Prop} (hK10 : ∀ (a1 : Int32) (x2 : Option AVal) (x3 : Option AVal) (x4 : Option AVal) (x5 : Option AVal) (h : Hp) (c n : Nat), c + 0 ≤ 0 → n + 0 ≤ 0 → K10 a1 h → SW E 10 ([some (vP (some (12, 0))), some (vI (a1)), x2, x3, x4, x5], [], h, c, n)) {K16 : Int32 → Int32 → Hp → Prop} (hK16 : ∀ (a1 : Int32) (a2 : Int32) (x3 : Option AVal) (x4 : Option AVal) (x5 : Option AVal) (h : Hp) (c n : Nat), c + 0 ≤ 0 → n + 0 ≤ 0 → K16 a1 a2 h → SW E 16 ([some (vP (some (12, 0))), some (vI (a1)), some (vI (a2)), x3, x4, x5], [], h, c, n)) {a1 : Int32} {a2 : Int32} {a3 : Int32} {a4 : Int32} {x5 : Option AVal} {h : Hp} {c n : Nat} (hc : c + 0 ≤ 0) (hn : n + 0 ≤ 0) (w : w_X12_plan_129 K10 K16 Q a1 a2 a3 a4 h) : SW E 129 ([some (vP (some (12, 0))), some (vI (a1)), some (vI (a2)), some (vI (a3)), some (vI (a4)), x5], [], h, c, n) := by
  obtain ⟨G1, w⟩ := w
  refine k_X12_plan_129 cx hY G1 ?_
  exact hK16 _ _ _ _ _ _ _ _ (by omega) (by omega) w
theorem s_X12_plan_122 {E : EnvT} {d : Nat} (cx : CX E "ShoreDayModel" cX12_plan 6 (some .int) "plan" (d + 2) 0 0) (hY : eY E = lay1) {Q : Int32 → Hp → Prop} (eq : EQ E 0 0 (fun r h2 => ∃ x, r = [vI x] ∧ Q x h2)) {K10 : Int32 → Hp → Prop} (hK10 : ∀ (a1 : Int32) (x2 : Option AVal) (x3 : Option AVal) (x4 : Option AVal) (x5 : Option AVal) (h : Hp) (c n : Nat), c + 0 ≤ 0 → n + 0 ≤ 0 → K10 a1 h → SW E 10 ([some (vP (some (12, 0))), some (vI (a1)), x2, x3, x4, x5], [], h, c, n)) {K16 : Int32 → Int32 → Hp → Prop} (hK16 : ∀ (a1 : Int32) (a2 : Int32) (x3 : Option AVal) (x4 : Option AVal) (x5 : Option AVal) (h : Hp) (c n : Nat), c + 0 ≤ 0 → n + 0 ≤ 0 → K16 a1 a2 h → SW E 16 ([some (vP (some (12, 0))), some (vI (a1)), some (vI (a2)), x3, x4, x5], [], h, c, n)) {K51 : Int32 → Int32 → Int32 → Int32 → Hp → Prop} (hK51 : ∀ (a1 : Int32) (a2 : Int32) (a3 : Int32) (a4 : Int32) (x5 : Option AVal) (h : Hp) (c n : Nat), c + 0 ≤ 0 → n + 0 ≤ 0 → K51 a1 a2 a3 a4 h → SW E 51 ([some (vP (some (12, 0))), some (vI (a1)), some (vI (a2)), some (vI (a3)), some (vI (a4)), x5], [], h, c, n)) {a1 : Int32} {a2 : Int32} {a3 : Int32} {a4 : Int32} {a5 : Int32} {s0 : Int32} {h : Hp} {c n : Nat} (hc : c + 0 ≤ 0) (hn : n + 0 ≤ 0) (w : w_X12_plan_122 K10 K16 K51 Q a1 a2 a3 a4 a5 s0 h) : SW E 122 ([some (vP (some (12, 0))), some (vI (a1)), some (vI (a2)), some (vI (a3)), some (vI (a4)), some (vI (a5))], [vI (s0)], h, c, n) := by
  refine k_X12_plan_122 cx hY ?_
  exact hK51 _ _ _ _ _ _ _ _ (by omega) (by omega) w
theorem s_X12_plan_121 {E : EnvT} {d : Nat} (cx : CX E "ShoreDayModel" cX12_plan 6 (some .int) "plan" (d + 2) 0 0) (hY : eY E = lay1) {Q : Int32 → Hp → Prop} (eq : EQ E 0 0 (fun r h2 => ∃ x, r = [vI x] ∧ Q x h2)) {K10 : Int32 → Hp → Prop} (hK10 : ∀ (a1 : Int32) (x2 : Option AVal) (x3 : Option AVal) (x4 : Option AVal) (x5 : Option AVal) (h : Hp) (c n : Nat), c + 0 ≤ 0 → n + 0 ≤ 0 → K10 a1 h → SW E 10 ([some (vP (some (12, 0))), some (vI (a1)), x2, x3, x4, x5], [], h, c, n)) {K16 : Int32 → Int32 → Hp → Prop} (hK16 : ∀ (a1 : Int32) (a2 : Int32) (x3 : Option AVal) (x4 : Option AVal) (x5 : Option AVal) (h : Hp) (c n : Nat), c + 0 ≤ 0 → n + 0 ≤ 0 → K16 a1 a2 h → SW E 16 ([some (vP (some (12, 0))), some (vI (a1)), some (vI (a2)), x3, x4, x5], [], h, c, n)) {K51 : Int32 → Int32 → Int32 → Int32 → Hp → Prop} (hK51 : ∀ (a1 : Int32) (a2 : Int32) (a3 : Int32) (a4 : Int32) (x5 : Option AVal) (h : Hp) (c n : Nat), c + 0 ≤ 0 → n + 0 ≤ 0 → K51 a1 a2 a3 a4 h → SW E 51 ([some (vP (some (12, 0))), some (vI (a1)), some (vI (a2)), some (vI (a3)), some (vI (a4)), x5], [], h, c, n)) {a1 : Int32} {a2 : Int32} {a3 : Int32} {a4 : Int32} {a5 : Int32} {h : Hp} {c n : Nat} (hc : c + 0 ≤ 0) (hn : n + 0 ≤ 0) (w : w_X12_plan_121 K10 K16 K51 Q a1 a2 a3 a4 a5 h) : SW E 121 ([some (vP (some (12, 0))), some (vI (a1)), some (vI (a2)), some (vI (a3)), some (vI (a4)), some (vI (a5))], [], h, c, n) := by
  refine k_X12_plan_121 cx hY ?_
  exact s_X12_plan_122 cx hY eq hK10 hK16 hK51 (by omega) (by omega) w
theorem s_X12_plan_116 {E : EnvT} {d : Nat} (cx : CX E "ShoreDayModel" cX12_plan 6 (some .int) "plan" (d + 2) 0 0) (hY : eY E = lay1) {Q : Int32 → Hp → Prop} (eq : EQ E 0 0 (fun r h2 => ∃ x, r = [vI x] ∧ Q x h2)) {K10 : Int32 → Hp → Prop} (hK10 : ∀ (a1 : Int32) (x2 : Option AVal) (x3 : Option AVal) (x4 : Option AVal) (x5 : Option AVal) (h : Hp) (c n : Nat), c + 0 ≤ 0 → n + 0 ≤ 0 → K10 a1 h → SW E 10 ([some (vP (some (12, 0))), some (vI (a1)), x2, x3, x4, x5], [], h, c, n)) {K16 : Int32 → Int32 → Hp → Prop} (hK16 : ∀ (a1 : Int32) (a2 : Int32) (x3 : Option AVal) (x4 : Option AVal) (x5 : Option AVal) (h : Hp) (c n : Nat), c + 0 ≤ 0 → n + 0 ≤ 0 → K16 a1 a2 h → SW E 16 ([some (vP (some (12, 0))), some (vI (a1)), some (vI (a2)), x3, x4, x5], [], h, c, n)) {K51 : Int32 → Int32 → Int32 → Int32 → Hp → Prop} (hK51 : ∀ (a1 : Int32) (a2 : Int32) (a3 : Int32) (a4 : Int32) (x5 : Option AVal) (h : Hp) (c n : Nat), c + 0 ≤ 0 → n + 0 ≤ 0 → K51 a1 a2 a3 a4 h → SW E 51 ([some (vP (some (12, 0))), some (vI (a1)), some (vI (a2)), some (vI (a3)), some (vI (a4)), x5], [], h, c, n)) {a1 : Int32} {a2 : Int32} {a3 : Int32} {a4 : Int32} {a5 : Int32} {h : Hp} {c n : Nat} (hc : c + 0 ≤ 0) (hn : n + 0 ≤ 0) (w : w_X12_plan_116 K10 K16 K51 Q a1 a2 a3 a4 a5 h) : SW E 116 ([some (vP (some (12, 0))), some (vI (a1)), some (vI (a2)), some (vI (a3)), some (vI (a4)), some (vI (a5))], [], h, c, n) := by
  refine k_X12_plan_116 cx hY ?_
  exact s_X12_plan_122 cx hY eq hK10 hK16 hK51 (by omega) (by omega) w
theorem s_X12_plan_108 {E : EnvT} {d : Nat} (cx : CX E "ShoreDayModel" cX12_plan 6 (some .int) "plan" (d + 2) 0 0) (hY : eY E = lay1) {Q : Int32 → Hp → Prop} (eq : EQ E 0 0 (fun r h2 => ∃ x, r = [vI x] ∧ Q x h2)) {K10 : Int32 → Hp → Prop} (hK10 : ∀ (a1 : Int32) (x2 : Option AVal) (x3 : Option AVal) (x4 : Option AVal) (x5 : Option AVal) (h : Hp) (c n : Nat), c + 0 ≤ 0 → n + 0 ≤ 0 → K10 a1 h → SW E 10 ([some (vP (some (12, 0))), some (vI (a1)), x2, x3, x4, x5], [], h, c, n)) {K16 : Int32 → Int32 → Hp → Prop} (hK16 : ∀ (a1 : Int32) (a2 : Int32) (x3 : Option AVal) (x4 : Option AVal) (x5 : Option AVal) (h : Hp) (c n : Nat), c + 0 ≤ 0 → n + 0 ≤ 0 → K16 a1 a2 h → SW E 16 ([some (vP (some (12, 0))), some (vI (a1)), some (vI (a2)), x3, x4, x5], [], h, c, n)) {K51 : Int32 → Int32 → Int32 → Int32 → Hp → Prop} (hK51 : ∀ (a1 : Int32) (a2 : Int32) (a3 : Int32) (a4 : Int32) (x5 : Option AVal) (h : Hp) (c n : Nat), c + 0 ≤ 0 → n + 0 ≤ 0 → K51 a1 a2 a3 a4 h → SW E 51 ([some (vP (some (12, 0))), some (vI (a1)), some (vI (a2)), some (vI (a3)), some (vI (a4)), x5], [], h, c, n)) {a1 : Int32} {a2 : Int32} {a3 : Int32} {a4 : Int32} {x5 : Option AVal} {s0 : Int32} {h : Hp} {c n : Nat} (hc : c + 0 ≤ 0) (hn : n + 0 ≤ 0) (w : w_X12_plan_108 K10 K16 K51 Q a1 a2 a3 a4 s0 h) : SW E 108 ([some (vP (some (12, 0))), some (vI (a1)), some (vI (a2)), some (vI (a3)), some (vI (a4)), x5], [vI (s0)], h, c, n) := by
  refine k_X12_plan_108 cx hY (fun q => ?_) (fun q => ?_)
  · have w := w.1 q
    exact s_X12_plan_121 cx hY eq hK10 hK16 hK51 (by omega) (by omega) w
  · have w := w.2 q
    exact s_X12_plan_116 cx hY eq hK10 hK16 hK51 (by omega) (by omega) w
theorem s_X12_plan_107 {E : EnvT} {d : Nat} (cx : CX E "ShoreDayModel" cX12_plan 6 (some .int) "plan" (d + 2) 0 0) (hY : eY E = lay1) {Q : Int32 → Hp → Prop} (eq : EQ E 0 0 (fun r h2 => ∃ x, r = [vI x] ∧ Q x h2)) {K10 : Int32 → Hp → Prop} (hK10 : ∀ (a1 : Int32) (x2 : Option AVal) (x3 : Option AVal) (x4 : Option AVal) (x5 : Option AVal) (h : Hp) (c n : Nat), c + 0 ≤ 0 → n + 0 ≤ 0 → K10 a1 h → SW E 10 ([some (vP (some (12, 0))), some (vI (a1)), x2, x3, x4, x5], [], h, c, n)) {K16 : Int32 → Int32 → Hp → Prop} (hK16 : ∀ (a1 : Int32) (a2 : Int32) (x3 : Option AVal) (x4 : Option AVal) (x5 : Option AVal) (h : Hp) (c n : Nat), c + 0 ≤ 0 → n + 0 ≤ 0 → K16 a1 a2 h → SW E 16 ([some (vP (some (12, 0))), some (vI (a1)), some (vI (a2)), x3, x4, x5], [], h, c, n)) {K51 : Int32 → Int32 → Int32 → Int32 → Hp → Prop} (hK51 : ∀ (a1 : Int32) (a2 : Int32) (a3 : Int32) (a4 : Int32) (x5 : Option AVal) (h : Hp) (c n : Nat), c + 0 ≤ 0 → n + 0 ≤ 0 → K51 a1 a2 a3 a4 h → SW E 51 ([some (vP (some (12, 0))), some (vI (a1)), some (vI (a2)), some (vI (a3)), some (vI (a4)), x5], [], h, c, n)) {a1 : Int32} {a2 : Int32} {a3 : Int32} {a4 : Int32} {x5 : Option AVal} {h : Hp} {c n : Nat} (hc : c + 0 ≤ 0) (hn : n + 0 ≤ 0) (w : w_X12_plan_107 K10 K16 K51 Q a1 a2 a3 a4 h) : SW E 107 ([some (vP (some (12, 0))), some (vI (a1)), some (vI (a2)), some (vI (a3)), some (vI (a4)), x5], [], h, c, n) := by
  refine k_X12_plan_107 cx hY ?_
  exact s_X12_plan_108 cx hY eq hK10 hK16 hK51 (by omega) (by omega) w
theorem s_X12_plan_102 {E : EnvT} {d : Nat} (cx : CX E "ShoreDayModel" cX12_plan 6 (some .int) "plan" (d + 2) 0 0) (hY : eY E = lay1) {Q : Int32 → Hp → Prop} (eq : EQ E 0 0 (fun r h2 => ∃ x, r = [vI x] ∧ Q x h2)) {K10 : Int32 → Hp → Prop} (hK10 : ∀ (a1 : Int32) (x2 : Option AVal) (x3 : Option AVal) (x4 : Option AVal) (x5 : Option AVal) (h : Hp) (c n : Nat), c + 0 ≤ 0 → n + 0 ≤ 0 → K10 a1 h → SW E 10 ([some (vP (some (12, 0))), some (vI (a1)), x2, x3, x4, x5], [], h, c, n)) {K16 : Int32 → Int32 → Hp → Prop} (hK16 : ∀ (a1 : Int32) (a2 : Int32) (x3 : Option AVal) (x4 : Option AVal) (x5 : Option AVal) (h : Hp) (c n : Nat), c + 0 ≤ 0 → n + 0 ≤ 0 → K16 a1 a2 h → SW E 16 ([some (vP (some (12, 0))), some (vI (a1)), some (vI (a2)), x3, x4, x5], [], h, c, n)) {K51 : Int32 → Int32 → Int32 → Int32 → Hp → Prop} (hK51 : ∀ (a1 : Int32) (a2 : Int32) (a3 : Int32) (a4 : Int32) (x5 : Option AVal) (h : Hp) (c n : Nat), c + 0 ≤ 0 → n + 0 ≤ 0 → K51 a1 a2 a3 a4 h → SW E 51 ([some (vP (some (12, 0))), some (vI (a1)), some (vI (a2)), some (vI (a3)), some (vI (a4)), x5], [], h, c, n)) {a1 : Int32} {a2 : Int32} {a3 : Int32} {a4 : Int32} {x5 : Option AVal} {s0 : Int32} {s2 : Int32} {h : Hp} {c n : Nat} (hc : c + 0 ≤ 0) (hn : n + 0 ≤ 0) (w : w_X12_plan_102 K10 K16 K51 Q a1 a2 a3 a4 s0 s2 h) : SW E 102 ([some (vP (some (12, 0))), some (vI (a1)), some (vI (a2)), some (vI (a3)), some (vI (a4)), x5], [vI (s2), vP (some (165, 0)), vI (s0)], h, c, n) := by
  obtain ⟨G1, w⟩ := w
  refine k_X12_plan_102 cx hY G1 ?_
  exact s_X12_plan_108 cx hY eq hK10 hK16 hK51 (by omega) (by omega) w
theorem s_X12_plan_79 {E : EnvT} {d : Nat} (cx : CX E "ShoreDayModel" cX12_plan 6 (some .int) "plan" (d + 2) 0 0) (hY : eY E = lay1) {Q : Int32 → Hp → Prop} (eq : EQ E 0 0 (fun r h2 => ∃ x, r = [vI x] ∧ Q x h2)) {K10 : Int32 → Hp → Prop} (hK10 : ∀ (a1 : Int32) (x2 : Option AVal) (x3 : Option AVal) (x4 : Option AVal) (x5 : Option AVal) (h : Hp) (c n : Nat), c + 0 ≤ 0 → n + 0 ≤ 0 → K10 a1 h → SW E 10 ([some (vP (some (12, 0))), some (vI (a1)), x2, x3, x4, x5], [], h, c, n)) {K16 : Int32 → Int32 → Hp → Prop} (hK16 : ∀ (a1 : Int32) (a2 : Int32) (x3 : Option AVal) (x4 : Option AVal) (x5 : Option AVal) (h : Hp) (c n : Nat), c + 0 ≤ 0 → n + 0 ≤ 0 → K16 a1 a2 h → SW E 16 ([some (vP (some (12, 0))), some (vI (a1)), some (vI (a2)), x3, x4, x5], [], h, c, n)) {K51 : Int32 → Int32 → Int32 → Int32 → Hp → Prop} (hK51 : ∀ (a1 : Int32) (a2 : Int32) (a3 : Int32) (a4 : Int32) (x5 : Option AVal) (h : Hp) (c n : Nat), c + 0 ≤ 0 → n + 0 ≤ 0 → K51 a1 a2 a3 a4 h → SW E 51 ([some (vP (some (12, 0))), some (vI (a1)), some (vI (a2)), some (vI (a3)), some (vI (a4)), x5], [], h, c, n)) {a1 : Int32} {a2 : Int32} {a3 : Int32} {a4 : Int32} {x5 : Option AVal} {h : Hp} {c n : Nat} (hc : c + 0 ≤ 0) (hn : n + 0 ≤ 0) (w : w_X12_plan_79 K10 K16 K51 Q a1 a2 a3 a4 h) : SW E 79 ([some (vP (some (12, 0))), some (vI (a1)), some (vI (a2)), some (vI (a3)), some (vI (a4)), x5], [], h, c, n) := by
  obtain ⟨G1, w⟩ := w
  refine k_X12_plan_79 cx hY G1 ?_
  exact s_X12_plan_102 cx hY eq hK10 hK16 hK51 (by omega) (by omega) w
theorem s_X12_plan_76 {E : EnvT} {d : Nat} (cx : CX E "ShoreDayModel" cX12_plan 6 (some .int) "plan" (d + 2) 0 0) (hY : eY E = lay1) {Q : Int32 → Hp → Prop} (eq : EQ E 0 0 (fun r h2 => ∃ x, r = [vI x] ∧ Q x h2)) {K10 : Int32 → Hp → Prop} (hK10 : ∀ (a1 : Int32) (x2 : Option AVal) (x3 : Option AVal) (x4 : Option AVal) (x5 : Option AVal) (h : Hp) (c n : Nat), c + 0 ≤ 0 → n + 0 ≤ 0 → K10 a1 h → SW E 10 ([some (vP (some (12, 0))), some (vI (a1)), x2, x3, x4, x5], [], h, c, n)) {K16 : Int32 → Int32 → Hp → Prop} (hK16 : ∀ (a1 : Int32) (a2 : Int32) (x3 : Option AVal) (x4 : Option AVal) (x5 : Option AVal) (h : Hp) (c n : Nat), c + 0 ≤ 0 → n + 0 ≤ 0 → K16 a1 a2 h → SW E 16 ([some (vP (some (12, 0))), some (vI (a1)), some (vI (a2)), x3, x4, x5], [], h, c, n)) {K51 : Int32 → Int32 → Int32 → Int32 → Hp → Prop} (hK51 : ∀ (a1 : Int32) (a2 : Int32) (a3 : Int32) (a4 : Int32) (x5 : Option AVal) (h : Hp) (c n : Nat), c + 0 ≤ 0 → n + 0 ≤ 0 → K51 a1 a2 a3 a4 h → SW E 51 ([some (vP (some (12, 0))), some (vI (a1)), some (vI (a2)), some (vI (a3)), some (vI (a4)), x5], [], h, c, n)) {a1 : Int32} {a2 : Int32} {a3 : Int32} {a4 : Int32} {x5 : Option AVal} {s0 : Int32} {h : Hp} {c n : Nat} (hc : c + 0 ≤ 0) (hn : n + 0 ≤ 0) (w : w_X12_plan_76 K10 K16 K51 Q a1 a2 a3 a4 s0 h) : SW E 76 ([some (vP (some (12, 0))), some (vI (a1)), some (vI (a2)), some (vI (a3)), some (vI (a4)), x5], [vI (s0)], h, c, n) := by
  refine k_X12_plan_76 cx hY (fun q => ?_) (fun q => ?_)
  · have w := w.1 q
    exact s_X12_plan_107 cx hY eq hK10 hK16 hK51 (by omega) (by omega) w
  · have w := w.2 q
    exact s_X12_plan_79 cx hY eq hK10 hK16 hK51 (by omega) (by omega) w
theorem s_X12_plan_68 {E : EnvT} {d : Nat} (cx : CX E "ShoreDayModel" cX12_plan 6 (some .int) "plan" (d + 2) 0 0) (hY : eY E = lay1) {Q : Int32 → Hp → Prop} (eq : EQ E 0 0 (fun r h2 => ∃ x, r = [vI x] ∧ Q x h2)) {K10 : Int32 → Hp → Prop} (hK10 : ∀ (a1 : Int32) (x2 : Option AVal) (x3 : Option AVal) (x4 : Option AVal) (x5 : Option AVal) (h : Hp) (c n : Nat), c + 0 ≤ 0 → n + 0 ≤ 0 → K10 a1 h → SW E 10 ([some (vP (some (12, 0))), some (vI (a1)), x2, x3, x4, x5], [], h, c, n)) {K16 : Int32 → Int32 → Hp → Prop} (hK16 : ∀ (a1 : Int32) (a2 : Int32) (x3 : Option AVal) (x4 : Option AVal) (x5 : Option AVal) (h : Hp) (c n : Nat), c + 0 ≤ 0 → n + 0 ≤ 0 → K16 a1 a2 h → SW E 16 ([some (vP (some (12, 0))), some (vI (a1)), some (vI (a2)), x3, x4, x5], [], h, c, n)) {K51 : Int32 → Int32 → Int32 → Int32 → Hp → Prop} (hK51 : ∀ (a1 : Int32) (a2 : Int32) (a3 : Int32) (a4 : Int32) (x5 : Option AVal) (h : Hp) (c n : Nat), c + 0 ≤ 0 → n + 0 ≤ 0 → K51 a1 a2 a3 a4 h → SW E 51 ([some (vP (some (12, 0))), some (vI (a1)), some (vI (a2)), some (vI (a3)), some (vI (a4)), x5], [], h, c, n)) {a1 : Int32} {a2 : Int32} {a3 : Int32} {a4 : Int32} {x5 : Option AVal} {h : Hp} {c n : Nat} (hc : c + 0 ≤ 0) (hn : n + 0 ≤ 0) (w : w_X12_plan_68 K10 K16 K51 Q a1 a2 a3 a4 h) : SW E 68 ([some (vP (some (12, 0))), some (vI (a1)), some (vI (a2)), some (vI (a3)), some (vI (a4)), x5], [], h, c, n) := by
  refine k_X12_plan_68 cx hY (ctY hY (vc_X12_can (d := d + 0) w)) (by omega) (by omega) (by omega) (fun r h2 hp => ?_)
  obtain ⟨r2, rfl, w⟩ := hp
  exact s_X12_plan_76 cx hY eq hK10 hK16 hK51 (by omega) (by omega) w
theorem s_X12_plan_60 {E : EnvT} {d : Nat} (cx : CX E "ShoreDayModel" cX12_plan 6 (some .int) "plan" (d + 2) 0 0) (hY : eY E = lay1) {Q : Int32 → Hp → Prop} (eq : EQ E 0 0 (fun r h2 => ∃ x, r = [vI x] ∧ Q x h2)) {K10 : Int32 → Hp → Prop} (hK10 : ∀ (a1 : Int32) (x2 : Option AVal) (x3 : Option AVal) (x4 : Option AVal) (x5 : Option AVal) (h : Hp) (c n : Nat), c + 0 ≤ 0 → n + 0 ≤ 0 → K10 a1 h → SW E 10 ([some (vP (some (12, 0))), some (vI (a1)), x2, x3, x4, x5], [], h, c, n)) {K16 : Int32 → Int32 → Hp → Prop} (hK16 : ∀ (a1 : Int32) (a2 : Int32) (x3 : Option AVal) (x4 : Option AVal) (x5 : Option AVal) (h : Hp) (c n : Nat), c + 0 ≤ 0 → n + 0 ≤ 0 → K16 a1 a2 h → SW E 16 ([some (vP (some (12, 0))), some (vI (a1)), some (vI (a2)), x3, x4, x5], [], h, c, n)) {K51 : Int32 → Int32 → Int32 → Int32 → Hp → Prop} (hK51 : ∀ (a1 : Int32) (a2 : Int32) (a3 : Int32) (a4 : Int32) (x5 : Option AVal) (h : Hp) (c n : Nat), c + 0 ≤ 0 → n + 0 ≤ 0 → K51 a1 a2 a3 a4 h → SW E 51 ([some (vP (some (12, 0))), some (vI (a1)), some (vI (a2)), some (vI (a3)), some (vI (a4)), x5], [], h, c, n)) {a1 : Int32} {a2 : Int32} {a3 : Int32} {a4 : Int32} {x5 : Option AVal} {h : Hp} {c n : Nat} (hc : c + 0 ≤ 0) (hn : n + 0 ≤ 0) (w : w_X12_plan_60 K10 K16 K51 Q a1 a2 a3 a4 h) : SW E 60 ([some (vP (some (12, 0))), some (vI (a1)), some (vI (a2)), some (vI (a3)), some (vI (a4)), x5], [], h, c, n) := by
  refine k_X12_plan_60 cx hY (fun q => ?_) (fun q => ?_)
  · have w := w.1 q
    exact s_X12_plan_129 cx hY eq hK10 hK16 (by omega) (by omega) w
  · have w := w.2 q
    exact s_X12_plan_68 cx hY eq hK10 hK16 hK51 (by omega) (by omega) w
theorem s_X12_plan_51 {E : EnvT} {d : Nat} (cx : CX E "ShoreDayModel" cX12_plan 6 (some .int) "plan" (d + 2) 0 0) (hY : eY E = lay1) {Q : Int32 → Hp → Prop} (eq : EQ E 0 0 (fun r h2 => ∃ x, r = [vI x] ∧ Q x h2)) {K10 : Int32 → Hp → Prop} (hK10 : ∀ (a1 : Int32) (x2 : Option AVal) (x3 : Option AVal) (x4 : Option AVal) (x5 : Option AVal) (h : Hp) (c n : Nat), c + 0 ≤ 0 → n + 0 ≤ 0 → K10 a1 h → SW E 10 ([some (vP (some (12, 0))), some (vI (a1)), x2, x3, x4, x5], [], h, c, n)) {K16 : Int32 → Int32 → Hp → Prop} (hK16 : ∀ (a1 : Int32) (a2 : Int32) (x3 : Option AVal) (x4 : Option AVal) (x5 : Option AVal) (h : Hp) (c n : Nat), c + 0 ≤ 0 → n + 0 ≤ 0 → K16 a1 a2 h → SW E 16 ([some (vP (some (12, 0))), some (vI (a1)), some (vI (a2)), x3, x4, x5], [], h, c, n)) : ∀ (N : Nat) (a1 : Int32) (a2 : Int32) (a3 : Int32) (a4 : Int32) (x5 : Option AVal) (h : Hp) (c n : Nat), c + 0 ≤ 0 → n + 0 ≤ 0 → w_X12_plan_51 K10 K16 Q N a1 a2 a3 a4 h → SW E 51 ([some (vP (some (12, 0))), some (vI (a1)), some (vI (a2)), some (vI (a3)), some (vI (a4)), x5], [], h, c, n) := by
  intro N
  induction N with
  | zero =>
    intro _ _ _ _ _ h c n _ _ w
    exact w.elim
  | succ N ih =>
    intro a1 a2 a3 a4 x5 h c n hc hn w
    refine k_X12_plan_51 cx hY (fun q => ?_) (fun q => ?_)
    · have w := w.1 q
      exact s_X12_plan_129 cx hY eq hK10 hK16 (by omega) (by omega) w
    · have w := w.2 q
      exact s_X12_plan_60 cx hY eq hK10 hK16 ih (by omega) (by omega) w
theorem s_X12_plan_47 {E : EnvT} {d : Nat} (cx : CX E "ShoreDayModel" cX12_plan 6 (some .int) "plan" (d + 2) 0 0) (hY : eY E = lay1) {Q : Int32 → Hp → Prop} (eq : EQ E 0 0 (fun r h2 => ∃ x, r = [vI x] ∧ Q x h2)) {K10 : Int32 → Hp → Prop} (hK10 : ∀ (a1 : Int32) (x2 : Option AVal) (x3 : Option AVal) (x4 : Option AVal) (x5 : Option AVal) (h : Hp) (c n : Nat), c + 0 ≤ 0 → n + 0 ≤ 0 → K10 a1 h → SW E 10 ([some (vP (some (12, 0))), some (vI (a1)), x2, x3, x4, x5], [], h, c, n)) {K16 : Int32 → Int32 → Hp → Prop} (hK16 : ∀ (a1 : Int32) (a2 : Int32) (x3 : Option AVal) (x4 : Option AVal) (x5 : Option AVal) (h : Hp) (c n : Nat), c + 0 ≤ 0 → n + 0 ≤ 0 → K16 a1 a2 h → SW E 16 ([some (vP (some (12, 0))), some (vI (a1)), some (vI (a2)), x3, x4, x5], [], h, c, n)) {a1 : Int32} {a2 : Int32} {x3 : Option AVal} {x4 : Option AVal} {x5 : Option AVal} {s0 : Int32} {h : Hp} {c n : Nat} (hc : c + 0 ≤ 0) (hn : n + 0 ≤ 0) (w : w_X12_plan_47 K10 K16 Q a1 a2 s0 h) : SW E 47 ([some (vP (some (12, 0))), some (vI (a1)), some (vI (a2)), x3, x4, x5], [vI (s0)], h, c, n) := by
  refine k_X12_plan_47 cx hY ?_
  obtain ⟨N1, w⟩ := w
  exact s_X12_plan_51 cx hY eq hK10 hK16 _ _ _ _ _ _ _ _ _ (by omega) (by omega) w
theorem s_X12_plan_46 {E : EnvT} {d : Nat} (cx : CX E "ShoreDayModel" cX12_plan 6 (some .int) "plan" (d + 2) 0 0) (hY : eY E = lay1) {Q : Int32 → Hp → Prop} (eq : EQ E 0 0 (fun r h2 => ∃ x, r = [vI x] ∧ Q x h2)) {K10 : Int32 → Hp → Prop} (hK10 : ∀ (a1 : Int32) (x2 : Option AVal) (x3 : Option AVal) (x4 : Option AVal) (x5 : Option AVal) (h : Hp) (c n : Nat), c + 0 ≤ 0 → n + 0 ≤ 0 → K10 a1 h → SW E 10 ([some (vP (some (12, 0))), some (vI (a1)), x2, x3, x4, x5], [], h, c, n)) {K16 : Int32 → Int32 → Hp → Prop} (hK16 : ∀ (a1 : Int32) (a2 : Int32) (x3 : Option AVal) (x4 : Option AVal) (x5 : Option AVal) (h : Hp) (c n : Nat), c + 0 ≤ 0 → n + 0 ≤ 0 → K16 a1 a2 h → SW E 16 ([some (vP (some (12, 0))), some (vI (a1)), some (vI (a2)), x3, x4, x5], [], h, c, n)) {a1 : Int32} {a2 : Int32} {x3 : Option AVal} {x4 : Option AVal} {x5 : Option AVal} {s1 : Int32} {h : Hp} {c n : Nat} (hc : c + 0 ≤ 0) (hn : n + 0 ≤ 0) (w : w_X12_plan_46 K10 K16 Q a1 a2 s1 h) : SW E 46 ([some (vP (some (12, 0))), some (vI (a1)), some (vI (a2)), x3, x4, x5], [vI (s1), vP (some (165, 0))], h, c, n) := by
  obtain ⟨G1, w⟩ := w
  refine k_X12_plan_46 cx hY G1 ?_
  exact s_X12_plan_47 cx hY eq hK10 hK16 (by omega) (by omega) w
theorem s_X12_plan_34 {E : EnvT} {d : Nat} (cx : CX E "ShoreDayModel" cX12_plan 6 (some .int) "plan" (d + 2) 0 0) (hY : eY E = lay1) {Q : Int32 → Hp → Prop} (eq : EQ E 0 0 (fun r h2 => ∃ x, r = [vI x] ∧ Q x h2)) {K10 : Int32 → Hp → Prop} (hK10 : ∀ (a1 : Int32) (x2 : Option AVal) (x3 : Option AVal) (x4 : Option AVal) (x5 : Option AVal) (h : Hp) (c n : Nat), c + 0 ≤ 0 → n + 0 ≤ 0 → K10 a1 h → SW E 10 ([some (vP (some (12, 0))), some (vI (a1)), x2, x3, x4, x5], [], h, c, n)) {K16 : Int32 → Int32 → Hp → Prop} (hK16 : ∀ (a1 : Int32) (a2 : Int32) (x3 : Option AVal) (x4 : Option AVal) (x5 : Option AVal) (h : Hp) (c n : Nat), c + 0 ≤ 0 → n + 0 ≤ 0 → K16 a1 a2 h → SW E 16 ([some (vP (some (12, 0))), some (vI (a1)), some (vI (a2)), x3, x4, x5], [], h, c, n)) {a1 : Int32} {a2 : Int32} {x3 : Option AVal} {x4 : Option AVal} {x5 : Option AVal} {h : Hp} {c n : Nat} (hc : c + 0 ≤ 0) (hn : n + 0 ≤ 0) (w : w_X12_plan_34 K10 K16 Q a1 a2 h) : SW E 34 ([some (vP (some (12, 0))), some (vI (a1)), some (vI (a2)), x3, x4, x5], [], h, c, n) := by
  refine k_X12_plan_34 cx hY ?_
  exact s_X12_plan_46 cx hY eq hK10 hK16 (by omega) (by omega) w
theorem s_X12_plan_30 {E : EnvT} {d : Nat} (cx : CX E "ShoreDayModel" cX12_plan 6 (some .int) "plan" (d + 2) 0 0) (hY : eY E = lay1) {Q : Int32 → Hp → Prop} (eq : EQ E 0 0 (fun r h2 => ∃ x, r = [vI x] ∧ Q x h2)) {K10 : Int32 → Hp → Prop} (hK10 : ∀ (a1 : Int32) (x2 : Option AVal) (x3 : Option AVal) (x4 : Option AVal) (x5 : Option AVal) (h : Hp) (c n : Nat), c + 0 ≤ 0 → n + 0 ≤ 0 → K10 a1 h → SW E 10 ([some (vP (some (12, 0))), some (vI (a1)), x2, x3, x4, x5], [], h, c, n)) {K16 : Int32 → Int32 → Hp → Prop} (hK16 : ∀ (a1 : Int32) (a2 : Int32) (x3 : Option AVal) (x4 : Option AVal) (x5 : Option AVal) (h : Hp) (c n : Nat), c + 0 ≤ 0 → n + 0 ≤ 0 → K16 a1 a2 h → SW E 16 ([some (vP (some (12, 0))), some (vI (a1)), some (vI (a2)), x3, x4, x5], [], h, c, n)) {a1 : Int32} {a2 : Int32} {x3 : Option AVal} {x4 : Option AVal} {x5 : Option AVal} {h : Hp} {c n : Nat} (hc : c + 0 ≤ 0) (hn : n + 0 ≤ 0) (w : w_X12_plan_30 K10 K16 Q a1 a2 h) : SW E 30 ([some (vP (some (12, 0))), some (vI (a1)), some (vI (a2)), x3, x4, x5], [], h, c, n) := by
  refine k_X12_plan_30 cx hY ?_
  exact s_X12_plan_47 cx hY eq hK10 hK16 (by omega) (by omega) w
theorem s_X12_plan_22 {E : EnvT} {d : Nat} (cx : CX E "ShoreDayModel" cX12_plan 6 (some .int) "plan" (d + 2) 0 0) (hY : eY E = lay1) {Q : Int32 → Hp → Prop} (eq : EQ E 0 0 (fun r h2 => ∃ x, r = [vI x] ∧ Q x h2)) {K10 : Int32 → Hp → Prop} (hK10 : ∀ (a1 : Int32) (x2 : Option AVal) (x3 : Option AVal) (x4 : Option AVal) (x5 : Option AVal) (h : Hp) (c n : Nat), c + 0 ≤ 0 → n + 0 ≤ 0 → K10 a1 h → SW E 10 ([some (vP (some (12, 0))), some (vI (a1)), x2, x3, x4, x5], [], h, c, n)) {K16 : Int32 → Int32 → Hp → Prop} (hK16 : ∀ (a1 : Int32) (a2 : Int32) (x3 : Option AVal) (x4 : Option AVal) (x5 : Option AVal) (h : Hp) (c n : Nat), c + 0 ≤ 0 → n + 0 ≤ 0 → K16 a1 a2 h → SW E 16 ([some (vP (some (12, 0))), some (vI (a1)), some (vI (a2)), x3, x4, x5], [], h, c, n)) {a1 : Int32} {a2 : Int32} {x3 : Option AVal} {x4 : Option AVal} {x5 : Option AVal} {h : Hp} {c n : Nat} (hc : c + 0 ≤ 0) (hn : n + 0 ≤ 0) (w : w_X12_plan_22 K10 K16 Q a1 a2 h) : SW E 22 ([some (vP (some (12, 0))), some (vI (a1)), some (vI (a2)), x3, x4, x5], [], h, c, n) := by
  refine k_X12_plan_22 cx hY (fun q => ?_) (fun q => ?_)
  · have w := w.1 q
    exact s_X12_plan_34 cx hY eq hK10 hK16 (by omega) (by omega) w
  · have w := w.2 q
    exact s_X12_plan_30 cx hY eq hK10 hK16 (by omega) (by omega) w
theorem s_X12_plan_16 {E : EnvT} {d : Nat} (cx : CX E "ShoreDayModel" cX12_plan 6 (some .int) "plan" (d + 2) 0 0) (hY : eY E = lay1) {Q : Int32 → Hp → Prop} (eq : EQ E 0 0 (fun r h2 => ∃ x, r = [vI x] ∧ Q x h2)) {K10 : Int32 → Hp → Prop} (hK10 : ∀ (a1 : Int32) (x2 : Option AVal) (x3 : Option AVal) (x4 : Option AVal) (x5 : Option AVal) (h : Hp) (c n : Nat), c + 0 ≤ 0 → n + 0 ≤ 0 → K10 a1 h → SW E 10 ([some (vP (some (12, 0))), some (vI (a1)), x2, x3, x4, x5], [], h, c, n)) : ∀ (N : Nat) (a1 : Int32) (a2 : Int32) (x3 : Option AVal) (x4 : Option AVal) (x5 : Option AVal) (h : Hp) (c n : Nat), c + 0 ≤ 0 → n + 0 ≤ 0 → w_X12_plan_16 K10 Q N a1 a2 h → SW E 16 ([some (vP (some (12, 0))), some (vI (a1)), some (vI (a2)), x3, x4, x5], [], h, c, n) := by
  intro N
  induction N with
  | zero =>
    intro _ _ _ _ _ h c n _ _ w
    exact w.elim
  | succ N ih =>
    intro a1 a2 x3 x4 x5 h c n hc hn w
    refine k_X12_plan_16 cx hY (fun q => ?_) (fun q => ?_)
    · have w := w.1 q
      exact s_X12_plan_147 cx hY eq hK10 (by omega) (by omega) w
    · have w := w.2 q
      exact s_X12_plan_22 cx hY eq hK10 ih (by omega) (by omega) w
theorem s_X12_plan_14 {E : EnvT} {d : Nat} (cx : CX E "ShoreDayModel" cX12_plan 6 (some .int) "plan" (d + 2) 0 0) (hY : eY E = lay1) {Q : Int32 → Hp → Prop} (eq : EQ E 0 0 (fun r h2 => ∃ x, r = [vI x] ∧ Q x h2)) {K10 : Int32 → Hp → Prop} (hK10 : ∀ (a1 : Int32) (x2 : Option AVal) (x3 : Option AVal) (x4 : Option AVal) (x5 : Option AVal) (h : Hp) (c n : Nat), c + 0 ≤ 0 → n + 0 ≤ 0 → K10 a1 h → SW E 10 ([some (vP (some (12, 0))), some (vI (a1)), x2, x3, x4, x5], [], h, c, n)) {a1 : Int32} {x2 : Option AVal} {x3 : Option AVal} {x4 : Option AVal} {x5 : Option AVal} {h : Hp} {c n : Nat} (hc : c + 0 ≤ 0) (hn : n + 0 ≤ 0) (w : w_X12_plan_14 K10 Q a1 h) : SW E 14 ([some (vP (some (12, 0))), some (vI (a1)), x2, x3, x4, x5], [], h, c, n) := by
  refine k_X12_plan_14 cx hY ?_
  obtain ⟨N1, w⟩ := w
  exact s_X12_plan_16 cx hY eq hK10 _ _ _ _ _ _ _ _ _ (by omega) (by omega) w
theorem s_X12_plan_10 {E : EnvT} {d : Nat} (cx : CX E "ShoreDayModel" cX12_plan 6 (some .int) "plan" (d + 2) 0 0) (hY : eY E = lay1) {Q : Int32 → Hp → Prop} (eq : EQ E 0 0 (fun r h2 => ∃ x, r = [vI x] ∧ Q x h2)) : ∀ (N : Nat) (a1 : Int32) (x2 : Option AVal) (x3 : Option AVal) (x4 : Option AVal) (x5 : Option AVal) (h : Hp) (c n : Nat), c + 0 ≤ 0 → n + 0 ≤ 0 → w_X12_plan_10  Q N a1 h → SW E 10 ([some (vP (some (12, 0))), some (vI (a1)), x2, x3, x4, x5], [], h, c, n) := by
  intro N
  induction N with
  | zero =>
    intro _ _ _ _ _ h c n _ _ w
    exact w.elim
  | succ N ih =>
    intro a1 x2 x3 x4 x5 h c n hc hn w
    refine k_X12_plan_10 cx hY (fun q => ?_) (fun q => ?_)
    · have w := w.1 q
      exact s_X12_plan_153 cx hY eq  (by omega) (by omega) w
    · have w := w.2 q
      exact s_X12_plan_14 cx hY eq ih (by omega) (by omega) w
theorem s_X12_plan_0 {E : EnvT} {d : Nat} (cx : CX E "ShoreDayModel" cX12_plan 6 (some .int) "plan" (d + 2) 0 0) (hY : eY E = lay1) {Q : Int32 → Hp → Prop} (eq : EQ E 0 0 (fun r h2 => ∃ x, r = [vI x] ∧ Q x h2)) {x1 : Option AVal} {x2 : Option AVal} {x3 : Option AVal} {x4 : Option AVal} {x5 : Option AVal} {h : Hp} {c n : Nat} (hc : c + 0 ≤ 0) (hn : n + 0 ≤ 0) (w : w_X12_plan_0  Q  h) : SW E 0 ([some (vP (some (12, 0))), x1, x2, x3, x4, x5], [], h, c, n) := by
  refine k_X12_plan_0 cx hY ?_
  obtain ⟨N1, w⟩ := w
  exact s_X12_plan_10 cx hY eq  _ _ _ _ _ _ _ _ _ (by omega) (by omega) w
def wp_X12_plan (h : Hp) (Q : Int32 → Hp → Prop) : Prop := w_X12_plan_0 Q  h
theorem vc_X12_plan {l : Launch} {d : Nat} {h : Hp} {Q : Int32 → Hp → Prop} (w : wp_X12_plan h Q) : Ct l lay1 yX12_plan cX12_plan 6 (some .int) (d + 2) 0 0 [vP (some (12, 0))] h (fun r h2 => ∃ x, r = [vI x] ∧ Q x h2) := by
  exact Ct.of (by decide) (Nat.le_of_ble_eq_true rfl) fun E cx eq hl hY => s_X12_plan_0 cx hY eq (Nat.le_refl _) (Nat.le_refl _) w
def w_X12_planned_27 (Q : Int32 → Hp → Prop) (a1 : Int32) (s0 : Int32) (h : Hp) : Prop := Q (s0) (h)
def w_X12_planned_17 (Q : Int32 → Hp → Prop) (a1 : Int32) (h : Hp) : Prop := w_X12_planned_27  Q (a1) ((-1 : Int32)) (h)
def w_X12_planned_21 (Q : Int32 → Hp → Prop) (a1 : Int32) (h : Hp) : Prop := vp_in (a1) 8 ∧ (w_X12_planned_27  Q (a1) (gI (h) 164 (0) (tN (a1))) (h))
def w_X12_planned_9 (Q : Int32 → Hp → Prop) (a1 : Int32) (h : Hp) : Prop := ((a1) < (gI (h) 12 (0) (63)) → w_X12_planned_21  Q (a1) (h)) ∧ (¬ (a1) < (gI (h) 12 (0) (63)) → w_X12_planned_17  Q (a1) (h))
def w_X12_planned_0 (Q : Int32 → Hp → Prop) (a1 : Int32) (h : Hp) : Prop := ((a1) < 0 → w_X12_planned_17  Q (a1) (wI (h) 12 (0) 0 ((0 : Int32)))) ∧ (¬ (a1) < 0 → w_X12_planned_9  Q (a1) (wI (h) 12 (0) 0 ((0 : Int32))))
theorem s_X12_planned_27 {E : EnvT} {d : Nat} (cx : CX E "ShoreDayModel" cX12_planned 2 (some .int) "planned" (d + 1) 0 0) (hY : eY E = lay1) {Q : Int32 → Hp → Prop} (eq : EQ E 0 0 (fun r h2 => ∃ x, r = [vI x] ∧ Q x h2)) {a1 : Int32} {s0 : Int32} {h : Hp} {c n : Nat} (hc : c + 0 ≤ 0) (hn : n + 0 ≤ 0) (w : w_X12_planned_27  Q a1 s0 h) : SW E 27 ([some (vP (some (12, 0))), some (vI (a1))], [vI (s0)], h, c, n) := by
  exact k_X12_planned_27 cx hY eq (by omega) (by omega) ⟨_, rfl, w⟩
theorem s_X12_planned_17 {E : EnvT} {d : Nat} (cx : CX E "ShoreDayModel" cX12_planned 2 (some .int) "planned" (d + 1) 0 0) (hY : eY E = lay1) {Q : Int32 → Hp → Prop} (eq : EQ E 0 0 (fun r h2 => ∃ x, r = [vI x] ∧ Q x h2)) {a1 : Int32} {h : Hp} {c n : Nat} (hc : c + 0 ≤ 0) (hn : n + 0 ≤ 0) (w : w_X12_planned_17  Q a1 h) : SW E 17 ([some (vP (some (12, 0))), some (vI (a1))], [], h, c, n) := by
  refine k_X12_planned_17 cx hY ?_
  exact s_X12_planned_27 cx hY eq  (by omega) (by omega) w
theorem s_X12_planned_21 {E : EnvT} {d : Nat} (cx : CX E "ShoreDayModel" cX12_planned 2 (some .int) "planned" (d + 1) 0 0) (hY : eY E = lay1) {Q : Int32 → Hp → Prop} (eq : EQ E 0 0 (fun r h2 => ∃ x, r = [vI x] ∧ Q x h2)) {a1 : Int32} {h : Hp} {c n : Nat} (hc : c + 0 ≤ 0) (hn : n + 0 ≤ 0) (w : w_X12_planned_21  Q a1 h) : SW E 21 ([some (vP (some (12, 0))), some (vI (a1))], [], h, c, n) := by
  obtain ⟨G1, w⟩ := w
  refine k_X12_planned_21 cx hY G1 ?_
  exact s_X12_planned_27 cx hY eq  (by omega) (by omega) w
theorem s_X12_planned_9 {E : EnvT} {d : Nat} (cx : CX E "ShoreDayModel" cX12_planned 2 (some .int) "planned" (d + 1) 0 0) (hY : eY E = lay1) {Q : Int32 → Hp → Prop} (eq : EQ E 0 0 (fun r h2 => ∃ x, r = [vI x] ∧ Q x h2)) {a1 : Int32} {h : Hp} {c n : Nat} (hc : c + 0 ≤ 0) (hn : n + 0 ≤ 0) (w : w_X12_planned_9  Q a1 h) : SW E 9 ([some (vP (some (12, 0))), some (vI (a1))], [], h, c, n) := by
  refine k_X12_planned_9 cx hY (fun q => ?_) (fun q => ?_)
  · have w := w.1 q
    exact s_X12_planned_21 cx hY eq  (by omega) (by omega) w
  · have w := w.2 q
    exact s_X12_planned_17 cx hY eq  (by omega) (by omega) w
theorem s_X12_planned_0 {E : EnvT} {d : Nat} (cx : CX E "ShoreDayModel" cX12_planned 2 (some .int) "planned" (d + 1) 0 0) (hY : eY E = lay1) {Q : Int32 → Hp → Prop} (eq : EQ E 0 0 (fun r h2 => ∃ x, r = [vI x] ∧ Q x h2)) {a1 : Int32} {h : Hp} {c n : Nat} (hc : c + 0 ≤ 0) (hn : n + 0 ≤ 0) (w : w_X12_planned_0  Q a1 h) : SW E 0 ([some (vP (some (12, 0))), some (vI (a1))], [], h, c, n) := by
  refine k_X12_planned_0 cx hY (fun q => ?_) (fun q => ?_)
  · have w := w.1 q
    exact s_X12_planned_17 cx hY eq  (by omega) (by omega) w
  · have w := w.2 q
    exact s_X12_planned_9 cx hY eq  (by omega) (by omega) w
def wp_X12_planned (a1 : Int32) (h : Hp) (Q : Int32 → Hp → Prop) : Prop := w_X12_planned_0 Q a1 h
theorem vc_X12_planned {l : Launch} {d : Nat} {a1 : Int32} {h : Hp} {Q : Int32 → Hp → Prop} (w : wp_X12_planned a1 h Q) : Ct l lay1 yX12_planned cX12_planned 2 (some .int) (d + 1) 0 0 [vP (some (12, 0)), vI a1] h (fun r h2 => ∃ x, r = [vI x] ∧ Q x h2) := by
  exact Ct.of (by decide) (Nat.le_of_ble_eq_true rfl) fun E cx eq hl hY => s_X12_planned_0 cx hY eq (Nat.le_refl _) (Nat.le_refl _) w
def w_X12_look_76 (Q : Int32 → Hp → Prop) (a1 : Int32) (a2 : Int32) (h : Hp) : Prop := vp_in (a1) 60 ∧ (Q (gI (h) 148 (0) (tN (a1))) (h))
def w_X12_look_83 (Q : Int32 → Hp → Prop) (a1 : Int32) (a2 : Int32) (h : Hp) : Prop := vp_in (a1) 60 ∧ (Q (gI (h) 149 (0) (tN (a1))) (h))
def w_X12_look_90 (Q : Int32 → Hp → Prop) (a1 : Int32) (a2 : Int32) (h : Hp) : Prop := vp_in (a1) 60 ∧ (Q (gI (h) 151 (0) (tN (a1))) (h))
def w_X12_look_97 (Q : Int32 → Hp → Prop) (a1 : Int32) (a2 : Int32) (h : Hp) : Prop := vp_in (a1) 60 ∧ (Q (gI (h) 152 (0) (tN (a1))) (h))
def w_X12_look_104 (Q : Int32 → Hp → Prop) (a1 : Int32) (a2 : Int32) (h : Hp) : Prop := vp_in (a1) 60 ∧ (Q (gI (h) 153 (0) (tN (a1))) (h))
def w_X12_look_111 (Q : Int32 → Hp → Prop) (a1 : Int32) (a2 : Int32) (h : Hp) : Prop := vp_in (a1) 60 ∧ (Q (gI (h) 154 (0) (tN (a1))) (h))
def w_X12_look_39 (Q : Int32 → Hp → Prop) (a1 : Int32) (a2 : Int32) (h : Hp) : Prop := ((a2).toInt < 0 ∨ 4 < (a2).toInt → w_X12_look_111  Q (a1) (a2) (h)) ∧ ((a2).toInt = 0 → w_X12_look_76  Q (a1) (a2) (h)) ∧ ((a2).toInt = 1 → w_X12_look_83  Q (a1) (a2) (h)) ∧ ((a2).toInt = 2 → w_X12_look_90  Q (a1) (a2) (h)) ∧ ((a2).toInt = 3 → w_X12_look_97  Q (a1) (a2) (h)) ∧ ((a2).toInt = 4 → w_X12_look_104  Q (a1) (a2) (h))
def w_X12_look_37 (Q : Int32 → Hp → Prop) (a1 : Int32) (a2 : Int32) (h : Hp) : Prop := Q ((0 : Int32)) (h)
def w_X12_look_27 (Q : Int32 → Hp → Prop) (a1 : Int32) (a2 : Int32) (s1 : Int32) (h : Hp) : Prop := ((gI (wI (h) 12 (0) 0 (s1)) 12 (0) (0)) ≤ 0 → w_X12_look_39  Q (a1) (a2) (wI (h) 12 (0) 0 (s1))) ∧ (¬ (gI (wI (h) 12 (0) 0 (s1)) 12 (0) (0)) ≤ 0 → w_X12_look_37  Q (a1) (a2) (wI (h) 12 (0) 0 (s1)))
def w_X12_look_26 (Q : Int32 → Hp → Prop) (a1 : Int32) (a2 : Int32) (h : Hp) : Prop := w_X12_look_27  Q (a1) (a2) ((1 : Int32)) (h)
def w_X12_look_22 (Q : Int32 → Hp → Prop) (a1 : Int32) (a2 : Int32) (h : Hp) : Prop := w_X12_look_27  Q (a1) (a2) ((0 : Int32)) (h)
def w_X12_look_17 (Q : Int32 → Hp → Prop) (a1 : Int32) (a2 : Int32) (h : Hp) : Prop := (((5 : Int32)) < (a2) → w_X12_look_26  Q (a1) (a2) (h)) ∧ (¬ ((5 : Int32)) < (a2) → w_X12_look_22  Q (a1) (a2) (h))
def w_X12_look_13 (Q : Int32 → Hp → Prop) (a1 : Int32) (a2 : Int32) (h : Hp) : Prop := ((a2) < 0 → w_X12_look_26  Q (a1) (a2) (h)) ∧ (¬ (a2) < 0 → w_X12_look_17  Q (a1) (a2) (h))
def w_X12_look_5 (Q : Int32 → Hp → Prop) (a1 : Int32) (a2 : Int32) (h : Hp) : Prop := ((gI (h) 12 (0) (41)) ≤ (a1) → w_X12_look_26  Q (a1) (a2) (h)) ∧ (¬ (gI (h) 12 (0) (41)) ≤ (a1) → w_X12_look_13  Q (a1) (a2) (h))
def w_X12_look_0 (Q : Int32 → Hp → Prop) (a1 : Int32) (a2 : Int32) (h : Hp) : Prop := ((a1) < 0 → w_X12_look_26  Q (a1) (a2) (h)) ∧ (¬ (a1) < 0 → w_X12_look_5  Q (a1) (a2) (h))
theorem s_X12_look_76 {E : EnvT} {d : Nat} (cx : CX E "ShoreDayModel" cX12_look 3 (some .int) "look" (d + 1) 0 0) (hY : eY E = lay1) {Q : Int32 → Hp → Prop} (eq : EQ E 0 0 (fun r h2 => ∃ x, r = [vI x] ∧ Q x h2)) {a1 : Int32} {a2 : Int32} {h : Hp} {c n : Nat} (hc : c + 0 ≤ 0) (hn : n + 0 ≤ 0) (w : w_X12_look_76  Q a1 a2 h) : SW E 76 ([some (vP (some (12, 0))), some (vI (a1)), some (vI (a2))], [], h, c, n) := by
  obtain ⟨G1, w⟩ := w
  exact k_X12_look_76 cx hY G1 eq (by omega) (by omega) ⟨_, rfl, w⟩
theorem s_X12_look_83 {E : EnvT} {d : Nat} (cx : CX E "ShoreDayModel" cX12_look 3 (some .int) "look" (d + 1) 0 0) (hY : eY E = lay1) {Q : Int32 → Hp → Prop} (eq : EQ E 0 0 (fun r h2 => ∃ x, r = [vI x] ∧ Q x h2)) {a1 : Int32} {a2 : Int32} {h : Hp} {c n : Nat} (hc : c + 0 ≤ 0) (hn : n + 0 ≤ 0) (w : w_X12_look_83  Q a1 a2 h) : SW E 83 ([some (vP (some (12, 0))), some (vI (a1)), some (vI (a2))], [], h, c, n) := by
  obtain ⟨G1, w⟩ := w
  exact k_X12_look_83 cx hY G1 eq (by omega) (by omega) ⟨_, rfl, w⟩
theorem s_X12_look_90 {E : EnvT} {d : Nat} (cx : CX E "ShoreDayModel" cX12_look 3 (some .int) "look" (d + 1) 0 0) (hY : eY E = lay1) {Q : Int32 → Hp → Prop} (eq : EQ E 0 0 (fun r h2 => ∃ x, r = [vI x] ∧ Q x h2)) {a1 : Int32} {a2 : Int32} {h : Hp} {c n : Nat} (hc : c + 0 ≤ 0) (hn : n + 0 ≤ 0) (w : w_X12_look_90  Q a1 a2 h) : SW E 90 ([some (vP (some (12, 0))), some (vI (a1)), some (vI (a2))], [], h, c, n) := by
  obtain ⟨G1, w⟩ := w
  exact k_X12_look_90 cx hY G1 eq (by omega) (by omega) ⟨_, rfl, w⟩
theorem s_X12_look_97 {E : EnvT} {d : Nat} (cx : CX E "ShoreDayModel" cX12_look 3 (some .int) "look" (d + 1) 0 0) (hY : eY E = lay1) {Q : Int32 → Hp → Prop} (eq : EQ E 0 0 (fun r h2 => ∃ x, r = [vI x] ∧ Q x h2)) {a1 : Int32} {a2 : Int32} {h : Hp} {c n : Nat} (hc : c + 0 ≤ 0) (hn : n + 0 ≤ 0) (w : w_X12_look_97  Q a1 a2 h) : SW E 97 ([some (vP (some (12, 0))), some (vI (a1)), some (vI (a2))], [], h, c, n) := by
  obtain ⟨G1, w⟩ := w
  exact k_X12_look_97 cx hY G1 eq (by omega) (by omega) ⟨_, rfl, w⟩
theorem s_X12_look_104 {E : EnvT} {d : Nat} (cx : CX E "ShoreDayModel" cX12_look 3 (some .int) "look" (d + 1) 0 0) (hY : eY E = lay1) {Q : Int32 → Hp → Prop} (eq : EQ E 0 0 (fun r h2 => ∃ x, r = [vI x] ∧ Q x h2)) {a1 : Int32} {a2 : Int32} {h : Hp} {c n : Nat} (hc : c + 0 ≤ 0) (hn : n + 0 ≤ 0) (w : w_X12_look_104  Q a1 a2 h) : SW E 104 ([some (vP (some (12, 0))), some (vI (a1)), some (vI (a2))], [], h, c, n) := by
  obtain ⟨G1, w⟩ := w
  exact k_X12_look_104 cx hY G1 eq (by omega) (by omega) ⟨_, rfl, w⟩
theorem s_X12_look_111 {E : EnvT} {d : Nat} (cx : CX E "ShoreDayModel" cX12_look 3 (some .int) "look" (d + 1) 0 0) (hY : eY E = lay1) {Q : Int32 → Hp → Prop} (eq : EQ E 0 0 (fun r h2 => ∃ x, r = [vI x] ∧ Q x h2)) {a1 : Int32} {a2 : Int32} {h : Hp} {c n : Nat} (hc : c + 0 ≤ 0) (hn : n + 0 ≤ 0) (w : w_X12_look_111  Q a1 a2 h) : SW E 111 ([some (vP (some (12, 0))), some (vI (a1)), some (vI (a2))], [], h, c, n) := by
  obtain ⟨G1, w⟩ := w
  exact k_X12_look_111 cx hY G1 eq (by omega) (by omega) ⟨_, rfl, w⟩
theorem s_X12_look_39 {E : EnvT} {d : Nat} (cx : CX E "ShoreDayModel" cX12_look 3 (some .int) "look" (d + 1) 0 0) (hY : eY E = lay1) {Q : Int32 → Hp → Prop} (eq : EQ E 0 0 (fun r h2 => ∃ x, r = [vI x] ∧ Q x h2)) {a1 : Int32} {a2 : Int32} {h : Hp} {c n : Nat} (hc : c + 0 ≤ 0) (hn : n + 0 ≤ 0) (w : w_X12_look_39  Q a1 a2 h) : SW E 39 ([some (vP (some (12, 0))), some (vI (a1)), some (vI (a2))], [], h, c, n) := by
  refine k_X12_look_39 cx hY (fun q => ?_) (fun j t hj q => ?_)
  · have w := w.1 q
    exact s_X12_look_111 cx hY eq  (by omega) (by omega) w
  · match j, hj, q with
    | 0, hj, q =>
      cases hj
      have w := w.2.1 (by omega)
      exact s_X12_look_76 cx hY eq  (by omega) (by omega) w
    | 1, hj, q =>
      cases hj
      have w := w.2.2.1 (by omega)
      exact s_X12_look_83 cx hY eq  (by omega) (by omega) w
    | 2, hj, q =>
      cases hj
      have w := w.2.2.2.1 (by omega)
      exact s_X12_look_90 cx hY eq  (by omega) (by omega) w
    | 3, hj, q =>
      cases hj
      have w := w.2.2.2.2.1 (by omega)
      exact s_X12_look_97 cx hY eq  (by omega) (by omega) w
    | 4, hj, q =>
      cases hj
      have w := w.2.2.2.2.2 (by omega)
      exact s_X12_look_104 cx hY eq  (by omega) (by omega) w
    | j + 5, hj, _ => simp at hj
theorem s_X12_look_37 {E : EnvT} {d : Nat} (cx : CX E "ShoreDayModel" cX12_look 3 (some .int) "look" (d + 1) 0 0) (hY : eY E = lay1) {Q : Int32 → Hp → Prop} (eq : EQ E 0 0 (fun r h2 => ∃ x, r = [vI x] ∧ Q x h2)) {a1 : Int32} {a2 : Int32} {h : Hp} {c n : Nat} (hc : c + 0 ≤ 0) (hn : n + 0 ≤ 0) (w : w_X12_look_37  Q a1 a2 h) : SW E 37 ([some (vP (some (12, 0))), some (vI (a1)), some (vI (a2))], [], h, c, n) := by
  exact k_X12_look_37 cx hY eq (by omega) (by omega) ⟨_, rfl, w⟩
theorem s_X12_look_27 {E : EnvT} {d : Nat} (cx : CX E "ShoreDayModel" cX12_look 3 (some .int) "look" (d + 1) 0 0) (hY : eY E = lay1) {Q : Int32 → Hp → Prop} (eq : EQ E 0 0 (fun r h2 => ∃ x, r = [vI x] ∧ Q x h2)) {a1 : Int32} {a2 : Int32} {s1 : Int32} {h : Hp} {c n : Nat} (hc : c + 0 ≤ 0) (hn : n + 0 ≤ 0) (w : w_X12_look_27  Q a1 a2 s1 h) : SW E 27 ([some (vP (some (12, 0))), some (vI (a1)), some (vI (a2))], [vI (s1), vP (some (12, 0))], h, c, n) := by
  refine k_X12_look_27 cx hY (fun q => ?_) (fun q => ?_)
  · have w := w.1 q
    exact s_X12_look_39 cx hY eq  (by omega) (by omega) w
  · have w := w.2 q
    exact s_X12_look_37 cx hY eq  (by omega) (by omega) w
theorem s_X12_look_26 {E : EnvT} {d : Nat} (cx : CX E "ShoreDayModel" cX12_look 3 (some .int) "look" (d + 1) 0 0) (hY : eY E = lay1) {Q : Int32 → Hp → Prop} (eq : EQ E 0 0 (fun r h2 => ∃ x, r = [vI x] ∧ Q x h2)) {a1 : Int32} {a2 : Int32} {h : Hp} {c n : Nat} (hc : c + 0 ≤ 0) (hn : n + 0 ≤ 0) (w : w_X12_look_26  Q a1 a2 h) : SW E 26 ([some (vP (some (12, 0))), some (vI (a1)), some (vI (a2))], [vP (some (12, 0))], h, c, n) := by
  refine k_X12_look_26 cx hY ?_
  exact s_X12_look_27 cx hY eq  (by omega) (by omega) w
theorem s_X12_look_22 {E : EnvT} {d : Nat} (cx : CX E "ShoreDayModel" cX12_look 3 (some .int) "look" (d + 1) 0 0) (hY : eY E = lay1) {Q : Int32 → Hp → Prop} (eq : EQ E 0 0 (fun r h2 => ∃ x, r = [vI x] ∧ Q x h2)) {a1 : Int32} {a2 : Int32} {h : Hp} {c n : Nat} (hc : c + 0 ≤ 0) (hn : n + 0 ≤ 0) (w : w_X12_look_22  Q a1 a2 h) : SW E 22 ([some (vP (some (12, 0))), some (vI (a1)), some (vI (a2))], [vP (some (12, 0))], h, c, n) := by
  refine k_X12_look_22 cx hY ?_
  exact s_X12_look_27 cx hY eq  (by omega) (by omega) w
theorem s_X12_look_17 {E : EnvT} {d : Nat} (cx : CX E "ShoreDayModel" cX12_look 3 (some .int) "look" (d + 1) 0 0) (hY : eY E = lay1) {Q : Int32 → Hp → Prop} (eq : EQ E 0 0 (fun r h2 => ∃ x, r = [vI x] ∧ Q x h2)) {a1 : Int32} {a2 : Int32} {h : Hp} {c n : Nat} (hc : c + 0 ≤ 0) (hn : n + 0 ≤ 0) (w : w_X12_look_17  Q a1 a2 h) : SW E 17 ([some (vP (some (12, 0))), some (vI (a1)), some (vI (a2))], [vP (some (12, 0))], h, c, n) := by
  refine k_X12_look_17 cx hY (fun q => ?_) (fun q => ?_)
  · have w := w.1 q
    exact s_X12_look_26 cx hY eq  (by omega) (by omega) w
  · have w := w.2 q
    exact s_X12_look_22 cx hY eq  (by omega) (by omega) w
theorem s_X12_look_13 {E : EnvT} {d : Nat} (cx : CX E "ShoreDayModel" cX12_look 3 (some .int) "look" (d + 1) 0 0) (hY : eY E = lay1) {Q : Int32 → Hp → Prop} (eq : EQ E 0 0 (fun r h2 => ∃ x, r = [vI x] ∧ Q x h2)) {a1 : Int32} {a2 : Int32} {h : Hp} {c n : Nat} (hc : c + 0 ≤ 0) (hn : n + 0 ≤ 0) (w : w_X12_look_13  Q a1 a2 h) : SW E 13 ([some (vP (some (12, 0))), some (vI (a1)), some (vI (a2))], [vP (some (12, 0))], h, c, n) := by
  refine k_X12_look_13 cx hY (fun q => ?_) (fun q => ?_)
  · have w := w.1 q
    exact s_X12_look_26 cx hY eq  (by omega) (by omega) w
  · have w := w.2 q
    exact s_X12_look_17 cx hY eq  (by omega) (by omega) w
theorem s_X12_look_5 {E : EnvT} {d : Nat} (cx : CX E "ShoreDayModel" cX12_look 3 (some .int) "look" (d + 1) 0 0) (hY : eY E = lay1) {Q : Int32 → Hp → Prop} (eq : EQ E 0 0 (fun r h2 => ∃ x, r = [vI x] ∧ Q x h2)) {a1 : Int32} {a2 : Int32} {h : Hp} {c n : Nat} (hc : c + 0 ≤ 0) (hn : n + 0 ≤ 0) (w : w_X12_look_5  Q a1 a2 h) : SW E 5 ([some (vP (some (12, 0))), some (vI (a1)), some (vI (a2))], [vP (some (12, 0))], h, c, n) := by
  refine k_X12_look_5 cx hY (fun q => ?_) (fun q => ?_)
  · have w := w.1 q
    exact s_X12_look_26 cx hY eq  (by omega) (by omega) w
  · have w := w.2 q
    exact s_X12_look_13 cx hY eq  (by omega) (by omega) w
theorem s_X12_look_0 {E : EnvT} {d : Nat} (cx : CX E "ShoreDayModel" cX12_look 3 (some .int) "look" (d + 1) 0 0) (hY : eY E = lay1) {Q : Int32 → Hp → Prop} (eq : EQ E 0 0 (fun r h2 => ∃ x, r = [vI x] ∧ Q x h2)) {a1 : Int32} {a2 : Int32} {h : Hp} {c n : Nat} (hc : c + 0 ≤ 0) (hn : n + 0 ≤ 0) (w : w_X12_look_0  Q a1 a2 h) : SW E 0 ([some (vP (some (12, 0))), some (vI (a1)), some (vI (a2))], [], h, c, n) := by
  refine k_X12_look_0 cx hY (fun q => ?_) (fun q => ?_)
  · have w := w.1 q
    exact s_X12_look_26 cx hY eq  (by omega) (by omega) w
  · have w := w.2 q
    exact s_X12_look_5 cx hY eq  (by omega) (by omega) w
def wp_X12_look (a1 : Int32) (a2 : Int32) (h : Hp) (Q : Int32 → Hp → Prop) : Prop := w_X12_look_0 Q a1 a2 h
theorem vc_X12_look {l : Launch} {d : Nat} {a1 : Int32} {a2 : Int32} {h : Hp} {Q : Int32 → Hp → Prop} (w : wp_X12_look a1 a2 h Q) : Ct l lay1 yX12_look cX12_look 3 (some .int) (d + 1) 0 0 [vP (some (12, 0)), vI a1, vI a2] h (fun r h2 => ∃ x, r = [vI x] ∧ Q x h2) := by
  exact Ct.of (by decide) (Nat.le_of_ble_eq_true rfl) fun E cx eq hl hY => s_X12_look_0 cx hY eq (Nat.le_refl _) (Nat.le_refl _) w
def w_X12_lies_26 (Q : Int32 → Hp → Prop) (a1 : Int32) (a2 : Int32) (h : Hp) : Prop := Q ((-1 : Int32)) (h)
def w_X12_lies_94 (Q : Int32 → Hp → Prop) (a1 : Int32) (a2 : Int32) (a3 : Int32) (s0 : Int32) (h : Hp) : Prop := Q (s0) (h)
def w_X12_lies_89 (Q : Int32 → Hp → Prop) (a1 : Int32) (a2 : Int32) (a3 : Int32) (h : Hp) : Prop := wp_X12_guestsIn (a1) (h) (fun r2 h2 => w_X12_lies_94  Q (a1) (a2) (a3) (r2) (h2))
def w_X12_lies_85 (Q : Int32 → Hp → Prop) (a1 : Int32) (a2 : Int32) (a3 : Int32) (h : Hp) : Prop := w_X12_lies_94  Q (a1) (a2) (a3) ((0 : Int32)) (h)
def w_X12_lies_76 (Q : Int32 → Hp → Prop) (a1 : Int32) (a2 : Int32) (a3 : Int32) (h : Hp) : Prop := vp_in (a1) 6 ∧ (w_X12_lies_94  Q (a1) (a2) (a3) (gI (h) 134 (0) (tN (a1))) (h))
def w_X12_lies_72 (Q : Int32 → Hp → Prop) (a1 : Int32) (a2 : Int32) (a3 : Int32) (h : Hp) : Prop := ((a3) = 0 → w_X12_lies_85  Q (a1) (a2) (a3) (h)) ∧ (¬ (a3) = 0 → w_X12_lies_76  Q (a1) (a2) (a3) (h))
def w_X12_lies_67 (Q : Int32 → Hp → Prop) (a1 : Int32) (a2 : Int32) (a3 : Int32) (h : Hp) : Prop := (¬ (a2) = ((1 : Int32)) → w_X12_lies_89  Q (a1) (a2) (a3) (h)) ∧ ((a2) = ((1 : Int32)) → w_X12_lies_72  Q (a1) (a2) (a3) (h))
def w_X12_lies_58 (Q : Int32 → Hp → Prop) (a1 : Int32) (a2 : Int32) (a3 : Int32) (h : Hp) : Prop := vp_in (a1) 6 ∧ (w_X12_lies_94  Q (a1) (a2) (a3) (gI (h) 133 (0) (tN (a1))) (h))
def w_X12_lies_53 (Q : Int32 → Hp → Prop) (a1 : Int32) (a2 : Int32) (s0 : Int32) (h : Hp) : Prop := (¬ (a2) = 0 → w_X12_lies_67  Q (a1) (a2) (s0) (h)) ∧ ((a2) = 0 → w_X12_lies_58  Q (a1) (a2) (s0) (h))
def w_X12_lies_48 (Q : Int32 → Hp → Prop) (a1 : Int32) (a2 : Int32) (h : Hp) : Prop := w_X12_lies_53  Q (a1) (a2) ((1 : Int32)) (h)
def w_X12_lies_52 (Q : Int32 → Hp → Prop) (a1 : Int32) (a2 : Int32) (h : Hp) : Prop := w_X12_lies_53  Q (a1) (a2) ((0 : Int32)) (h)
def w_X12_lies_38 (Q : Int32 → Hp → Prop) (a1 : Int32) (a2 : Int32) (h : Hp) : Prop := vp_in (a1) 6 ∧ ((¬ (gI (h) 133 (0) (tN (a1))) = ((3 : Int32)) → w_X12_lies_52  Q (a1) (a2) (h)) ∧ ((gI (h) 133 (0) (tN (a1))) = ((3 : Int32)) → w_X12_lies_48  Q (a1) (a2) (h)))
def w_X12_lies_28 (Q : Int32 → Hp → Prop) (a1 : Int32) (a2 : Int32) (h : Hp) : Prop := vp_in (a1) 6 ∧ (((gI (h) 133 (0) (tN (a1))) = ((1 : Int32)) → w_X12_lies_48  Q (a1) (a2) (h)) ∧ (¬ (gI (h) 133 (0) (tN (a1))) = ((1 : Int32)) → w_X12_lies_38  Q (a1) (a2) (h)))
def w_X12_lies_21 (Q : Int32 → Hp → Prop) (a1 : Int32) (a2 : Int32) (h : Hp) : Prop := ((a2) ≤ ((2 : Int32)) → w_X12_lies_28  Q (a1) (a2) (h)) ∧ (¬ (a2) ≤ ((2 : Int32)) → w_X12_lies_26  Q (a1) (a2) (h))
def w_X12_lies_17 (Q : Int32 → Hp → Prop) (a1 : Int32) (a2 : Int32) (h : Hp) : Prop := ((a2) < 0 → w_X12_lies_26  Q (a1) (a2) (h)) ∧ (¬ (a2) < 0 → w_X12_lies_21  Q (a1) (a2) (h))
def w_X12_lies_9 (Q : Int32 → Hp → Prop) (a1 : Int32) (a2 : Int32) (h : Hp) : Prop := ((gI (h) 12 (0) (30)) ≤ (a1) → w_X12_lies_26  Q (a1) (a2) (h)) ∧ (¬ (gI (h) 12 (0) (30)) ≤ (a1) → w_X12_lies_17  Q (a1) (a2) (h))
def w_X12_lies_0 (Q : Int32 → Hp → Prop) (a1 : Int32) (a2 : Int32) (h : Hp) : Prop := ((a1) < 0 → w_X12_lies_26  Q (a1) (a2) (wI (h) 12 (0) 0 ((0 : Int32)))) ∧ (¬ (a1) < 0 → w_X12_lies_9  Q (a1) (a2) (wI (h) 12 (0) 0 ((0 : Int32))))
theorem s_X12_lies_26 {E : EnvT} {d : Nat} (cx : CX E "ShoreDayModel" cX12_lies 4 (some .int) "lies" (d + 2) 0 0) (hY : eY E = lay1) {Q : Int32 → Hp → Prop} (eq : EQ E 0 0 (fun r h2 => ∃ x, r = [vI x] ∧ Q x h2)) {a1 : Int32} {a2 : Int32} {x3 : Option AVal} {h : Hp} {c n : Nat} (hc : c + 0 ≤ 0) (hn : n + 0 ≤ 0) (w : w_X12_lies_26  Q a1 a2 h) : SW E 26 ([some (vP (some (12, 0))), some (vI (a1)), some (vI (a2)), x3], [], h, c, n) := by
  exact k_X12_lies_26 cx hY eq (by omega) (by omega) ⟨_, rfl, w⟩
theorem s_X12_lies_94 {E : EnvT} {d : Nat} (cx : CX E "ShoreDayModel" cX12_lies 4 (some .int) "lies" (d + 2) 0 0) (hY : eY E = lay1) {Q : Int32 → Hp → Prop} (eq : EQ E 0 0 (fun r h2 => ∃ x, r = [vI x] ∧ Q x h2)) {a1 : Int32} {a2 : Int32} {a3 : Int32} {s0 : Int32} {h : Hp} {c n : Nat} (hc : c + 0 ≤ 0) (hn : n + 0 ≤ 0) (w : w_X12_lies_94  Q a1 a2 a3 s0 h) : SW E 94 ([some (vP (some (12, 0))), some (vI (a1)), some (vI (a2)), some (vI (a3))], [vI (s0)], h, c, n) := by
  exact k_X12_lies_94 cx hY eq (by omega) (by omega) ⟨_, rfl, w⟩
theorem s_X12_lies_89 {E : EnvT} {d : Nat} (cx : CX E "ShoreDayModel" cX12_lies 4 (some .int) "lies" (d + 2) 0 0) (hY : eY E = lay1) {Q : Int32 → Hp → Prop} (eq : EQ E 0 0 (fun r h2 => ∃ x, r = [vI x] ∧ Q x h2)) {a1 : Int32} {a2 : Int32} {a3 : Int32} {h : Hp} {c n : Nat} (hc : c + 0 ≤ 0) (hn : n + 0 ≤ 0) (w : w_X12_lies_89  Q a1 a2 a3 h) : SW E 89 ([some (vP (some (12, 0))), some (vI (a1)), some (vI (a2)), some (vI (a3))], [], h, c, n) := by
  refine k_X12_lies_89 cx hY (ctY hY (vc_X12_guestsIn (d := d + 0) w)) (by omega) (by omega) (by omega) (fun r h2 hp => ?_)
  obtain ⟨r2, rfl, w⟩ := hp
  exact s_X12_lies_94 cx hY eq  (by omega) (by omega) w
theorem s_X12_lies_85 {E : EnvT} {d : Nat} (cx : CX E "ShoreDayModel" cX12_lies 4 (some .int) "lies" (d + 2) 0 0) (hY : eY E = lay1) {Q : Int32 → Hp → Prop} (eq : EQ E 0 0 (fun r h2 => ∃ x, r = [vI x] ∧ Q x h2)) {a1 : Int32} {a2 : Int32} {a3 : Int32} {h : Hp} {c n : Nat} (hc : c + 0 ≤ 0) (hn : n + 0 ≤ 0) (w : w_X12_lies_85  Q a1 a2 a3 h) : SW E 85 ([some (vP (some (12, 0))), some (vI (a1)), some (vI (a2)), some (vI (a3))], [], h, c, n) := by
  refine k_X12_lies_85 cx hY ?_
  exact s_X12_lies_94 cx hY eq  (by omega) (by omega) w
theorem s_X12_lies_76 {E : EnvT} {d : Nat} (cx : CX E "ShoreDayModel" cX12_lies 4 (some .int) "lies" (d + 2) 0 0) (hY : eY E = lay1) {Q : Int32 → Hp → Prop} (eq : EQ E 0 0 (fun r h2 => ∃ x, r = [vI x] ∧ Q x h2)) {a1 : Int32} {a2 : Int32} {a3 : Int32} {h : Hp} {c n : Nat} (hc : c + 0 ≤ 0) (hn : n + 0 ≤ 0) (w : w_X12_lies_76  Q a1 a2 a3 h) : SW E 76 ([some (vP (some (12, 0))), some (vI (a1)), some (vI (a2)), some (vI (a3))], [], h, c, n) := by
  obtain ⟨G1, w⟩ := w
  refine k_X12_lies_76 cx hY G1 ?_
  exact s_X12_lies_94 cx hY eq  (by omega) (by omega) w
theorem s_X12_lies_72 {E : EnvT} {d : Nat} (cx : CX E "ShoreDayModel" cX12_lies 4 (some .int) "lies" (d + 2) 0 0) (hY : eY E = lay1) {Q : Int32 → Hp → Prop} (eq : EQ E 0 0 (fun r h2 => ∃ x, r = [vI x] ∧ Q x h2)) {a1 : Int32} {a2 : Int32} {a3 : Int32} {h : Hp} {c n : Nat} (hc : c + 0 ≤ 0) (hn : n + 0 ≤ 0) (w : w_X12_lies_72  Q a1 a2 a3 h) : SW E 72 ([some (vP (some (12, 0))), some (vI (a1)), some (vI (a2)), some (vI (a3))], [], h, c, n) := by
  refine k_X12_lies_72 cx hY (fun q => ?_) (fun q => ?_)
  · have w := w.1 q
    exact s_X12_lies_85 cx hY eq  (by omega) (by omega) w
  · have w := w.2 q
    exact s_X12_lies_76 cx hY eq  (by omega) (by omega) w
theorem s_X12_lies_67 {E : EnvT} {d : Nat} (cx : CX E "ShoreDayModel" cX12_lies 4 (some .int) "lies" (d + 2) 0 0) (hY : eY E = lay1) {Q : Int32 → Hp → Prop} (eq : EQ E 0 0 (fun r h2 => ∃ x, r = [vI x] ∧ Q x h2)) {a1 : Int32} {a2 : Int32} {a3 : Int32} {h : Hp} {c n : Nat} (hc : c + 0 ≤ 0) (hn : n + 0 ≤ 0) (w : w_X12_lies_67  Q a1 a2 a3 h) : SW E 67 ([some (vP (some (12, 0))), some (vI (a1)), some (vI (a2)), some (vI (a3))], [], h, c, n) := by
  refine k_X12_lies_67 cx hY (fun q => ?_) (fun q => ?_)
  · have w := w.1 q
    exact s_X12_lies_89 cx hY eq  (by omega) (by omega) w
  · have w := w.2 q
    exact s_X12_lies_72 cx hY eq  (by omega) (by omega) w
theorem s_X12_lies_58 {E : EnvT} {d : Nat} (cx : CX E "ShoreDayModel" cX12_lies 4 (some .int) "lies" (d + 2) 0 0) (hY : eY E = lay1) {Q : Int32 → Hp → Prop} (eq : EQ E 0 0 (fun r h2 => ∃ x, r = [vI x] ∧ Q x h2)) {a1 : Int32} {a2 : Int32} {a3 : Int32} {h : Hp} {c n : Nat} (hc : c + 0 ≤ 0) (hn : n + 0 ≤ 0) (w : w_X12_lies_58  Q a1 a2 a3 h) : SW E 58 ([some (vP (some (12, 0))), some (vI (a1)), some (vI (a2)), some (vI (a3))], [], h, c, n) := by
  obtain ⟨G1, w⟩ := w
  refine k_X12_lies_58 cx hY G1 ?_
  exact s_X12_lies_94 cx hY eq  (by omega) (by omega) w
theorem s_X12_lies_53 {E : EnvT} {d : Nat} (cx : CX E "ShoreDayModel" cX12_lies 4 (some .int) "lies" (d + 2) 0 0) (hY : eY E = lay1) {Q : Int32 → Hp → Prop} (eq : EQ E 0 0 (fun r h2 => ∃ x, r = [vI x] ∧ Q x h2)) {a1 : Int32} {a2 : Int32} {x3 : Option AVal} {s0 : Int32} {h : Hp} {c n : Nat} (hc : c + 0 ≤ 0) (hn : n + 0 ≤ 0) (w : w_X12_lies_53  Q a1 a2 s0 h) : SW E 53 ([some (vP (some (12, 0))), some (vI (a1)), some (vI (a2)), x3], [vI (s0)], h, c, n) := by
  refine k_X12_lies_53 cx hY (fun q => ?_) (fun q => ?_)
  · have w := w.1 q
    exact s_X12_lies_67 cx hY eq  (by omega) (by omega) w
  · have w := w.2 q
    exact s_X12_lies_58 cx hY eq  (by omega) (by omega) w
theorem s_X12_lies_48 {E : EnvT} {d : Nat} (cx : CX E "ShoreDayModel" cX12_lies 4 (some .int) "lies" (d + 2) 0 0) (hY : eY E = lay1) {Q : Int32 → Hp → Prop} (eq : EQ E 0 0 (fun r h2 => ∃ x, r = [vI x] ∧ Q x h2)) {a1 : Int32} {a2 : Int32} {x3 : Option AVal} {h : Hp} {c n : Nat} (hc : c + 0 ≤ 0) (hn : n + 0 ≤ 0) (w : w_X12_lies_48  Q a1 a2 h) : SW E 48 ([some (vP (some (12, 0))), some (vI (a1)), some (vI (a2)), x3], [], h, c, n) := by
  refine k_X12_lies_48 cx hY ?_
  exact s_X12_lies_53 cx hY eq  (by omega) (by omega) w
theorem s_X12_lies_52 {E : EnvT} {d : Nat} (cx : CX E "ShoreDayModel" cX12_lies 4 (some .int) "lies" (d + 2) 0 0) (hY : eY E = lay1) {Q : Int32 → Hp → Prop} (eq : EQ E 0 0 (fun r h2 => ∃ x, r = [vI x] ∧ Q x h2)) {a1 : Int32} {a2 : Int32} {x3 : Option AVal} {h : Hp} {c n : Nat} (hc : c + 0 ≤ 0) (hn : n + 0 ≤ 0) (w : w_X12_lies_52  Q a1 a2 h) : SW E 52 ([some (vP (some (12, 0))), some (vI (a1)), some (vI (a2)), x3], [], h, c, n) := by
  refine k_X12_lies_52 cx hY ?_
  exact s_X12_lies_53 cx hY eq  (by omega) (by omega) w
theorem s_X12_lies_38 {E : EnvT} {d : Nat} (cx : CX E "ShoreDayModel" cX12_lies 4 (some .int) "lies" (d + 2) 0 0) (hY : eY E = lay1) {Q : Int32 → Hp → Prop} (eq : EQ E 0 0 (fun r h2 => ∃ x, r = [vI x] ∧ Q x h2)) {a1 : Int32} {a2 : Int32} {x3 : Option AVal} {h : Hp} {c n : Nat} (hc : c + 0 ≤ 0) (hn : n + 0 ≤ 0) (w : w_X12_lies_38  Q a1 a2 h) : SW E 38 ([some (vP (some (12, 0))), some (vI (a1)), some (vI (a2)), x3], [], h, c, n) := by
  obtain ⟨G1, w⟩ := w
  refine k_X12_lies_38 cx hY G1 (fun q => ?_) (fun q => ?_)
  · have w := w.1 q
    exact s_X12_lies_52 cx hY eq  (by omega) (by omega) w
  · have w := w.2 q
    exact s_X12_lies_48 cx hY eq  (by omega) (by omega) w
theorem s_X12_lies_28 {E : EnvT} {d : Nat} (cx : CX E "ShoreDayModel" cX12_lies 4 (some .int) "lies" (d + 2) 0 0) (hY : eY E = lay1) {Q : Int32 → Hp → Prop} (eq : EQ E 0 0 (fun r h2 => ∃ x, r = [vI x] ∧ Q x h2)) {a1 : Int32} {a2 : Int32} {x3 : Option AVal} {h : Hp} {c n : Nat} (hc : c + 0 ≤ 0) (hn : n + 0 ≤ 0) (w : w_X12_lies_28  Q a1 a2 h) : SW E 28 ([some (vP (some (12, 0))), some (vI (a1)), some (vI (a2)), x3], [], h, c, n) := by
  obtain ⟨G1, w⟩ := w
  refine k_X12_lies_28 cx hY G1 (fun q => ?_) (fun q => ?_)
  · have w := w.1 q
    exact s_X12_lies_48 cx hY eq  (by omega) (by omega) w
  · have w := w.2 q
    exact s_X12_lies_38 cx hY eq  (by omega) (by omega) w
theorem s_X12_lies_21 {E : EnvT} {d : Nat} (cx : CX E "ShoreDayModel" cX12_lies 4 (some .int) "lies" (d + 2) 0 0) (hY : eY E = lay1) {Q : Int32 → Hp → Prop} (eq : EQ E 0 0 (fun r h2 => ∃ x, r = [vI x] ∧ Q x h2)) {a1 : Int32} {a2 : Int32} {x3 : Option AVal} {h : Hp} {c n : Nat} (hc : c + 0 ≤ 0) (hn : n + 0 ≤ 0) (w : w_X12_lies_21  Q a1 a2 h) : SW E 21 ([some (vP (some (12, 0))), some (vI (a1)), some (vI (a2)), x3], [], h, c, n) := by
  refine k_X12_lies_21 cx hY (fun q => ?_) (fun q => ?_)
  · have w := w.1 q
    exact s_X12_lies_28 cx hY eq  (by omega) (by omega) w
  · have w := w.2 q
    exact s_X12_lies_26 cx hY eq  (by omega) (by omega) w
theorem s_X12_lies_17 {E : EnvT} {d : Nat} (cx : CX E "ShoreDayModel" cX12_lies 4 (some .int) "lies" (d + 2) 0 0) (hY : eY E = lay1) {Q : Int32 → Hp → Prop} (eq : EQ E 0 0 (fun r h2 => ∃ x, r = [vI x] ∧ Q x h2)) {a1 : Int32} {a2 : Int32} {x3 : Option AVal} {h : Hp} {c n : Nat} (hc : c + 0 ≤ 0) (hn : n + 0 ≤ 0) (w : w_X12_lies_17  Q a1 a2 h) : SW E 17 ([some (vP (some (12, 0))), some (vI (a1)), some (vI (a2)), x3], [], h, c, n) := by
  refine k_X12_lies_17 cx hY (fun q => ?_) (fun q => ?_)
  · have w := w.1 q
    exact s_X12_lies_26 cx hY eq  (by omega) (by omega) w
  · have w := w.2 q
    exact s_X12_lies_21 cx hY eq  (by omega) (by omega) w
theorem s_X12_lies_9 {E : EnvT} {d : Nat} (cx : CX E "ShoreDayModel" cX12_lies 4 (some .int) "lies" (d + 2) 0 0) (hY : eY E = lay1) {Q : Int32 → Hp → Prop} (eq : EQ E 0 0 (fun r h2 => ∃ x, r = [vI x] ∧ Q x h2)) {a1 : Int32} {a2 : Int32} {x3 : Option AVal} {h : Hp} {c n : Nat} (hc : c + 0 ≤ 0) (hn : n + 0 ≤ 0) (w : w_X12_lies_9  Q a1 a2 h) : SW E 9 ([some (vP (some (12, 0))), some (vI (a1)), some (vI (a2)), x3], [], h, c, n) := by
  refine k_X12_lies_9 cx hY (fun q => ?_) (fun q => ?_)
  · have w := w.1 q
    exact s_X12_lies_26 cx hY eq  (by omega) (by omega) w
  · have w := w.2 q
    exact s_X12_lies_17 cx hY eq  (by omega) (by omega) w
theorem s_X12_lies_0 {E : EnvT} {d : Nat} (cx : CX E "ShoreDayModel" cX12_lies 4 (some .int) "lies" (d + 2) 0 0) (hY : eY E = lay1) {Q : Int32 → Hp → Prop} (eq : EQ E 0 0 (fun r h2 => ∃ x, r = [vI x] ∧ Q x h2)) {a1 : Int32} {a2 : Int32} {x3 : Option AVal} {h : Hp} {c n : Nat} (hc : c + 0 ≤ 0) (hn : n + 0 ≤ 0) (w : w_X12_lies_0  Q a1 a2 h) : SW E 0 ([some (vP (some (12, 0))), some (vI (a1)), some (vI (a2)), x3], [], h, c, n) := by
  refine k_X12_lies_0 cx hY (fun q => ?_) (fun q => ?_)
  · have w := w.1 q
    exact s_X12_lies_26 cx hY eq  (by omega) (by omega) w
  · have w := w.2 q
    exact s_X12_lies_9 cx hY eq  (by omega) (by omega) w
def wp_X12_lies (a1 : Int32) (a2 : Int32) (h : Hp) (Q : Int32 → Hp → Prop) : Prop := w_X12_lies_0 Q a1 a2 h
theorem vc_X12_lies {l : Launch} {d : Nat} {a1 : Int32} {a2 : Int32} {h : Hp} {Q : Int32 → Hp → Prop} (w : wp_X12_lies a1 a2 h Q) : Ct l lay1 yX12_lies cX12_lies 4 (some .int) (d + 2) 0 0 [vP (some (12, 0)), vI a1, vI a2] h (fun r h2 => ∃ x, r = [vI x] ∧ Q x h2) := by
  exact Ct.of (by decide) (Nat.le_of_ble_eq_true rfl) fun E cx eq hl hY => s_X12_lies_0 cx hY eq (Nat.le_refl _) (Nat.le_refl _) w
def w_X12_guests_26 (Q : Int32 → Hp → Prop) (a1 : Int32) (a2 : Int32) (h : Hp) : Prop := Q ((-1 : Int32)) (h)
def w_X12_guests_166 (Q : Int32 → Hp → Prop) (a1 : Int32) (a2 : Int32) (a3 : Int32) (a4 : Int32) (a5 : Int32) (a6 : Int32) (h : Hp) : Prop := Q (a5) (h)
def w_X12_guests_157 (K108 : Int32 → Int32 → Int32 → Int32 → Int32 → Int32 → Hp → Prop) (Q : Int32 → Hp → Prop) (a1 : Int32) (a2 : Int32) (a3 : Int32) (a4 : Int32) (a5 : Int32) (a6 : Int32) (s0 : Int32) (s1 : Int32) (h : Hp) : Prop := K108 (a1) (a2) (a3) (a4) ((s0) + (s1)) (a6 + 1) (h)
def w_X12_guests_156 (K108 : Int32 → Int32 → Int32 → Int32 → Int32 → Int32 → Hp → Prop) (Q : Int32 → Hp → Prop) (a1 : Int32) (a2 : Int32) (a3 : Int32) (a4 : Int32) (a5 : Int32) (a6 : Int32) (s0 : Int32) (h : Hp) : Prop := w_X12_guests_157 K108 Q (a1) (a2) (a3) (a4) (a5) (a6) (s0) ((0 : Int32)) (h)
def w_X12_guests_146 (K108 : Int32 → Int32 → Int32 → Int32 → Int32 → Int32 → Hp → Prop) (Q : Int32 → Hp → Prop) (a1 : Int32) (a2 : Int32) (a3 : Int32) (a4 : Int32) (a5 : Int32) (a6 : Int32) (s0 : Int32) (h : Hp) : Prop := vp_in (a6) 60 ∧ (w_X12_guests_157 K108 Q (a1) (a2) (a3) (a4) (a5) (a6) (s0) (gI (h) 143 (0) (tN (a6))) (h))
def w_X12_guests_143 (K108 : Int32 → Int32 → Int32 → Int32 → Int32 → Int32 → Hp → Prop) (Q : Int32 → Hp → Prop) (a1 : Int32) (a2 : Int32) (a3 : Int32) (a4 : Int32) (a5 : Int32) (a6 : Int32) (s0 : Int32) (s1 : Int32) (h : Hp) : Prop := ((s1) = 0 → w_X12_guests_156 K108 Q (a1) (a2) (a3) (a4) (a5) (a6) (s0) (h)) ∧ (¬ (s1) = 0 → w_X12_guests_146 K108 Q (a1) (a2) (a3) (a4) (a5) (a6) (s0) (h))
def w_X12_guests_130 (K108 : Int32 → Int32 → Int32 → Int32 → Int32 → Int32 → Hp → Prop) (Q : Int32 → Hp → Prop) (a1 : Int32) (a2 : Int32) (a3 : Int32) (a4 : Int32) (a5 : Int32) (a6 : Int32) (s0 : Int32) (h : Hp) : Prop := vp_in (a6) 60 ∧ (wp_X12_within (gI (h) 148 (0) (tN (a6))) (a3) (a4) (h) (fun r2 h2 => w_X12_guests_143 K108 Q (a1) (a2) (a3) (a4) (a5) (a6) (s0) (r2) (h2)))
def w_X12_guests_117 (K108 : Int32 → Int32 → Int32 → Int32 → Int32 → Int32 → Hp → Prop) (Q : Int32 → Hp → Prop) (a1 : Int32) (a2 : Int32) (a3 : Int32) (a4 : Int32) (a5 : Int32) (a6 : Int32) (h : Hp) : Prop := vp_in (a6) 60 ∧ ((¬ (gI (h) 142 (0) (tN (a6))) = (a1) → w_X12_guests_156 K108 Q (a1) (a2) (a3) (a4) (a5) (a6) (a5) (h)) ∧ ((gI (h) 142 (0) (tN (a6))) = (a1) → w_X12_guests_130 K108 Q (a1) (a2) (a3) (a4) (a5) (a6) (a5) (h)))
def w_X12_guests_108 (Q : Int32 → Hp → Prop) : Nat → Int32 → Int32 → Int32 → Int32 → Int32 → Int32 → Hp → Prop
  | 0 => fun _ _ _ _ _ _ _ => False
  | N + 1 => fun a1 a2 a3 a4 a5 a6 h => ((gI (h) 12 (0) (41)) ≤ (a6) → w_X12_guests_166  Q (a1) (a2) (a3) (a4) (a5) (a6) (h)) ∧ (¬ (gI (h) 12 (0) (41)) ≤ (a6) → w_X12_guests_117 (w_X12_guests_108  Q N) Q (a1) (a2) (a3) (a4) (a5) (a6) (h))
def w_X12_guests_100 (Q : Int32 → Hp → Prop) (a1 : Int32) (a2 : Int32) (a3 : Int32) (s0 : Int32) (h : Hp) : Prop := ∃ N, w_X12_guests_108  Q N (a1) (a2) (a3) (s0) ((0 : Int32)) ((0 : Int32)) (h)
def w_X12_guests_99 (Q : Int32 → Hp → Prop) (a1 : Int32) (a2 : Int32) (a3 : Int32) (h : Hp) : Prop := w_X12_guests_100  Q (a1) (a2) (a3) (a3) (h)
def w_X12_guests_95 (Q : Int32 → Hp → Prop) (a1 : Int32) (a2 : Int32) (a3 : Int32) (h : Hp) : Prop := w_X12_guests_100  Q (a1) (a2) (a3) ((4 : Int32)) (h)
def w_X12_guests_89 (Q : Int32 → Hp → Prop) (a1 : Int32) (a2 : Int32) (s0 : Int32) (h : Hp) : Prop := (¬ (a2) = ((2 : Int32)) → w_X12_guests_99  Q (a1) (a2) (s0) (h)) ∧ ((a2) = ((2 : Int32)) → w_X12_guests_95  Q (a1) (a2) (s0) (h))
def w_X12_guests_87 (Q : Int32 → Hp → Prop) (a1 : Int32) (a2 : Int32) (h : Hp) : Prop := w_X12_guests_89  Q (a1) (a2) ((6 : Int32)) (h)
def w_X12_guests_83 (Q : Int32 → Hp → Prop) (a1 : Int32) (a2 : Int32) (h : Hp) : Prop := w_X12_guests_89  Q (a1) (a2) ((5 : Int32)) (h)
def w_X12_guests_78 (Q : Int32 → Hp → Prop) (a1 : Int32) (a2 : Int32) (h : Hp) : Prop := (¬ (a2) = ((3 : Int32)) → w_X12_guests_87  Q (a1) (a2) (h)) ∧ ((a2) = ((3 : Int32)) → w_X12_guests_83  Q (a1) (a2) (h))
def w_X12_guests_74 (Q : Int32 → Hp → Prop) (a1 : Int32) (a2 : Int32) (h : Hp) : Prop := w_X12_guests_89  Q (a1) (a2) ((2 : Int32)) (h)
def w_X12_guests_69 (Q : Int32 → Hp → Prop) (a1 : Int32) (a2 : Int32) (h : Hp) : Prop := (¬ (a2) = ((2 : Int32)) → w_X12_guests_78  Q (a1) (a2) (h)) ∧ ((a2) = ((2 : Int32)) → w_X12_guests_74  Q (a1) (a2) (h))
def w_X12_guests_65 (Q : Int32 → Hp → Prop) (a1 : Int32) (a2 : Int32) (h : Hp) : Prop := w_X12_guests_89  Q (a1) (a2) ((1 : Int32)) (h)
def w_X12_guests_60 (Q : Int32 → Hp → Prop) (a1 : Int32) (a2 : Int32) (h : Hp) : Prop := (¬ (a2) = ((1 : Int32)) → w_X12_guests_69  Q (a1) (a2) (h)) ∧ ((a2) = ((1 : Int32)) → w_X12_guests_65  Q (a1) (a2) (h))
def w_X12_guests_56 (Q : Int32 → Hp → Prop) (a1 : Int32) (a2 : Int32) (h : Hp) : Prop := w_X12_guests_89  Q (a1) (a2) ((0 : Int32)) (h)
def w_X12_guests_52 (Q : Int32 → Hp → Prop) (a1 : Int32) (a2 : Int32) (h : Hp) : Prop := (¬ (a2) = 0 → w_X12_guests_60  Q (a1) (a2) (h)) ∧ ((a2) = 0 → w_X12_guests_56  Q (a1) (a2) (h))
def w_X12_guests_51 (Q : Int32 → Hp → Prop) (a1 : Int32) (a2 : Int32) (s0 : Int32) (h : Hp) : Prop := Q (s0) (h)
def w_X12_guests_50 (Q : Int32 → Hp → Prop) (a1 : Int32) (a2 : Int32) (h : Hp) : Prop := w_X12_guests_51  Q (a1) (a2) ((0 : Int32)) (h)
def w_X12_guests_46 (Q : Int32 → Hp → Prop) (a1 : Int32) (a2 : Int32) (h : Hp) : Prop := w_X12_guests_51  Q (a1) (a2) ((1 : Int32)) (h)
def w_X12_guests_33 (Q : Int32 → Hp → Prop) (a1 : Int32) (a2 : Int32) (h : Hp) : Prop := vp_in (a1) 4 ∧ (((gI (h) 12 (0) (24)) < (gI (h) 128 (0) (tN (a1))) → w_X12_guests_50  Q (a1) (a2) (h)) ∧ (¬ (gI (h) 12 (0) (24)) < (gI (h) 128 (0) (tN (a1))) → w_X12_guests_46  Q (a1) (a2) (h)))
def w_X12_guests_28 (Q : Int32 → Hp → Prop) (a1 : Int32) (a2 : Int32) (h : Hp) : Prop := (¬ (a2) = ((5 : Int32)) → w_X12_guests_52  Q (a1) (a2) (h)) ∧ ((a2) = ((5 : Int32)) → w_X12_guests_33  Q (a1) (a2) (h))
def w_X12_guests_21 (Q : Int32 → Hp → Prop) (a1 : Int32) (a2 : Int32) (h : Hp) : Prop := ((a2) ≤ ((5 : Int32)) → w_X12_guests_28  Q (a1) (a2) (h)) ∧ (¬ (a2) ≤ ((5 : Int32)) → w_X12_guests_26  Q (a1) (a2) (h))
def w_X12_guests_17 (Q : Int32 → Hp → Prop) (a1 : Int32) (a2 : Int32) (h : Hp) : Prop := ((a2) < 0 → w_X12_guests_26  Q (a1) (a2) (h)) ∧ (¬ (a2) < 0 → w_X12_guests_21  Q (a1) (a2) (h))
def w_X12_guests_9 (Q : Int32 → Hp → Prop) (a1 : Int32) (a2 : Int32) (h : Hp) : Prop := ((gI (h) 12 (0) (26)) ≤ (a1) → w_X12_guests_26  Q (a1) (a2) (h)) ∧ (¬ (gI (h) 12 (0) (26)) ≤ (a1) → w_X12_guests_17  Q (a1) (a2) (h))
def w_X12_guests_0 (Q : Int32 → Hp → Prop) (a1 : Int32) (a2 : Int32) (h : Hp) : Prop := ((a1) < 0 → w_X12_guests_26  Q (a1) (a2) (wI (h) 12 (0) 0 ((0 : Int32)))) ∧ (¬ (a1) < 0 → w_X12_guests_9  Q (a1) (a2) (wI (h) 12 (0) 0 ((0 : Int32))))
theorem s_X12_guests_26 {E : EnvT} {d : Nat} (cx : CX E "ShoreDayModel" cX12_guests 7 (some .int) "guests" (d + 2) 0 0) (hY : eY E = lay1) {Q : Int32 → Hp → Prop} (eq : EQ E 0 0 (fun r h2 => ∃ x, r = [vI x] ∧ Q x h2)) {a1 : Int32} {a2 : Int32} {x3 : Option AVal} {x4 : Option AVal} {x5 : Option AVal} {x6 : Option AVal} {h : Hp} {c n : Nat} (hc : c + 0 ≤ 0) (hn : n + 0 ≤ 0) (w : w_X12_guests_26  Q a1 a2 h) : SW E 26 ([some (vP (some (12, 0))), some (vI (a1)), some (vI (a2)), x3, x4, x5, x6], [], h, c, n) := by
  exact k_X12_guests_26 cx hY eq (by omega) (by omega) ⟨_, rfl, w⟩
theorem s_X12_guests_166 {E : EnvT} {d : Nat} (cx : CX E "ShoreDayModel" cX12_guests 7 (some .int) "guests" (d + 2) 0 0) (hY : eY E = lay1) {Q : Int32 → Hp → Prop} (eq : EQ E 0 0 (fun r h2 => ∃ x, r = [vI x] ∧ Q x h2)) {a1 : Int32} {a2 : Int32} {a3 : Int32} {a4 : Int32} {a5 : Int32} {a6 : Int32} {h : Hp} {c n : Nat} (hc : c + 0 ≤ 0) (hn : n + 0 ≤ 0) (w : w_X12_guests_166  Q a1 a2 a3 a4 a5 a6 h) : SW E 166 ([some (vP (some (12, 0))), some (vI (a1)), some (vI (a2)), some (vI (a3)), some (vI (a4)), some (vI (a5)), some (vI (a6))], [], h, c, n) := by
  exact k_X12_guests_166 cx hY eq (by omega) (by omega) ⟨_, rfl, w⟩
theorem s_X12_guests_157 {E : EnvT} {d : Nat} (cx : CX E "ShoreDayModel" cX12_guests 7 (some .int) "guests" (d + 2) 0 0) (hY : eY E = lay1) {Q : Int32 → Hp → Prop} (eq : EQ E 0 0 (fun r h2 => ∃ x, r = [vI x] ∧ Q x h2)) {K108 : Int32 → Int32 → Int32 → Int32 → Int32 → Int32 → Hp → Prop} (hK108 : ∀ (a1 : Int32) (a2 : Int32) (a3 : Int32) (a4 : Int32) (a5 : Int32) (a6 : Int32) (h : Hp) (c n : Nat), c + 0 ≤ 0 → n + 0 ≤ 0 → K108 a1 a2 a3 a4 a5 a6 h → SW E 108 ([some (vP (some (12, 0))), some (vI (a1)), some (vI (a2)), some (vI (a3)), some (vI (a4)), some (vI (a5)), some (vI (a6))], [], h, c, n)) {a1 : Int32} {a2 : Int32} {a3 : Int32} {a4 : Int32} {a5 : Int32} {a6 : Int32} {s0 : Int32} {s1 : Int32} {h : Hp} {c n : Nat} (hc : c + 0 ≤ 0) (hn : n + 0 ≤ 0) (w : w_X12_guests_157 K108 Q a1 a2 a3 a4 a5 a6 s0 s1 h) : SW E 157 ([some (vP (some (12, 0))), some (vI (a1)), some (vI (a2)), some (vI (a3)), some (vI (a4)), some (vI (a5)), some (vI (a6))], [vI (s1), vI (s0)], h, c, n) := by
  refine k_X12_guests_157 cx hY ?_
  exact hK108 _ _ _ _ _ _ _ _ _ (by omega) (by omega) w
theorem s_X12_guests_156 {E : EnvT} {d : Nat} (cx : CX E "ShoreDayModel" cX12_guests 7 (some .int) "guests" (d + 2) 0 0) (hY : eY E = lay1) {Q : Int32 → Hp → Prop} (eq : EQ E 0 0 (fun r h2 => ∃ x, r = [vI x] ∧ Q x h2)) {K108 : Int32 → Int32 → Int32 → Int32 → Int32 → Int32 → Hp → Prop} (hK108 : ∀ (a1 : Int32) (a2 : Int32) (a3 : Int32) (a4 : Int32) (a5 : Int32) (a6 : Int32) (h : Hp) (c n : Nat), c + 0 ≤ 0 → n + 0 ≤ 0 → K108 a1 a2 a3 a4 a5 a6 h → SW E 108 ([some (vP (some (12, 0))), some (vI (a1)), some (vI (a2)), some (vI (a3)), some (vI (a4)), some (vI (a5)), some (vI (a6))], [], h, c, n)) {a1 : Int32} {a2 : Int32} {a3 : Int32} {a4 : Int32} {a5 : Int32} {a6 : Int32} {s0 : Int32} {h : Hp} {c n : Nat} (hc : c + 0 ≤ 0) (hn : n + 0 ≤ 0) (w : w_X12_guests_156 K108 Q a1 a2 a3 a4 a5 a6 s0 h) : SW E 156 ([some (vP (some (12, 0))), some (vI (a1)), some (vI (a2)), some (vI (a3)), some (vI (a4)), some (vI (a5)), some (vI (a6))], [vI (s0)], h, c, n) := by
  refine k_X12_guests_156 cx hY ?_
  exact s_X12_guests_157 cx hY eq hK108 (by omega) (by omega) w
theorem s_X12_guests_146 {E : EnvT} {d : Nat} (cx : CX E "ShoreDayModel" cX12_guests 7 (some .int) "guests" (d + 2) 0 0) (hY : eY E = lay1) {Q : Int32 → Hp → Prop} (eq : EQ E 0 0 (fun r h2 => ∃ x, r = [vI x] ∧ Q x h2)) {K108 : Int32 → Int32 → Int32 → Int32 → Int32 → Int32 → Hp → Prop} (hK108 : ∀ (a1 : Int32) (a2 : Int32) (a3 : Int32) (a4 : Int32) (a5 : Int32) (a6 : Int32) (h : Hp) (c n : Nat), c + 0 ≤ 0 → n + 0 ≤ 0 → K108 a1 a2 a3 a4 a5 a6 h → SW E 108 ([some (vP (some (12, 0))), some (vI (a1)), some (vI (a2)), some (vI (a3)), some (vI (a4)), some (vI (a5)), some (vI (a6))], [], h, c, n)) {a1 : Int32} {a2 : Int32} {a3 : Int32} {a4 : Int32} {a5 : Int32} {a6 : Int32} {s0 : Int32} {h : Hp} {c n : Nat} (hc : c + 0 ≤ 0) (hn : n + 0 ≤ 0) (w : w_X12_guests_146 K108 Q a1 a2 a3 a4 a5 a6 s0 h) : SW E 146 ([some (vP (some (12, 0))), some (vI (a1)), some (vI (a2)), some (vI (a3)), some (vI (a4)), some (vI (a5)), some (vI (a6))], [vI (s0)], h, c, n) := by
  obtain ⟨G1, w⟩ := w
  refine k_X12_guests_146 cx hY G1 ?_
  exact s_X12_guests_157 cx hY eq hK108 (by omega) (by omega) w
theorem s_X12_guests_143 {E : EnvT} {d : Nat} (cx : CX E "ShoreDayModel" cX12_guests 7 (some .int) "guests" (d + 2) 0 0) (hY : eY E = lay1) {Q : Int32 → Hp → Prop} (eq : EQ E 0 0 (fun r h2 => ∃ x, r = [vI x] ∧ Q x h2)) {K108 : Int32 → Int32 → Int32 → Int32 → Int32 → Int32 → Hp → Prop} (hK108 : ∀ (a1 : Int32) (a2 : Int32) (a3 : Int32) (a4 : Int32) (a5 : Int32) (a6 : Int32) (h : Hp) (c n : Nat), c + 0 ≤ 0 → n + 0 ≤ 0 → K108 a1 a2 a3 a4 a5 a6 h → SW E 108 ([some (vP (some (12, 0))), some (vI (a1)), some (vI (a2)), some (vI (a3)), some (vI (a4)), some (vI (a5)), some (vI (a6))], [], h, c, n)) {a1 : Int32} {a2 : Int32} {a3 : Int32} {a4 : Int32} {a5 : Int32} {a6 : Int32} {s0 : Int32} {s1 : Int32} {h : Hp} {c n : Nat} (hc : c + 0 ≤ 0) (hn : n + 0 ≤ 0) (w : w_X12_guests_143 K108 Q a1 a2 a3 a4 a5 a6 s0 s1 h) : SW E 143 ([some (vP (some (12, 0))), some (vI (a1)), some (vI (a2)), some (vI (a3)), some (vI (a4)), some (vI (a5)), some (vI (a6))], [vI (s1), vI (s0)], h, c, n) := by
  refine k_X12_guests_143 cx hY (fun q => ?_) (fun q => ?_)
  · have w := w.1 q
    exact s_X12_guests_156 cx hY eq hK108 (by omega) (by omega) w
  · have w := w.2 q
    exact s_X12_guests_146 cx hY eq hK108 (by omega) (by omega) w
theorem s_X12_guests_130 {E : EnvT} {d : Nat} (cx : CX E "ShoreDayModel" cX12_guests 7 (some .int) "guests" (d + 2) 0 0) (hY : eY E = lay1) {Q : Int32 → Hp → Prop} (eq : EQ E 0 0 (fun r h2 => ∃ x, r = [vI x] ∧ Q x h2)) {K108 : Int32 → Int32 → Int32 → Int32 → Int32 → Int32 → Hp → Prop} (hK108 : ∀ (a1 : Int32) (a2 : Int32) (a3 : Int32) (a4 : Int32) (a5 : Int32) (a6 : Int32) (h : Hp) (c n : Nat), c + 0 ≤ 0 → n + 0 ≤ 0 → K108 a1 a2 a3 a4 a5 a6 h → SW E 108 ([some (vP (some (12, 0))), some (vI (a1)), some (vI (a2)), some (vI (a3)), some (vI (a4)), some (vI (a5)), some (vI (a6))], [], h, c, n)) {a1 : Int32} {a2 : Int32} {a3 : Int32} {a4 : Int32} {a5 : Int32} {a6 : Int32} {s0 : Int32} {h : Hp} {c n : Nat} (hc : c + 0 ≤ 0) (hn : n + 0 ≤ 0) (w : w_X12_guests_130 K108 Q a1 a2 a3 a4 a5 a6 s0 h) : SW E 130 ([some (vP (some (12, 0))), some (vI (a1)), some (vI (a2)), some (vI (a3)), some (vI (a4)), some (vI (a5)), some (vI (a6))], [vI (s0)], h, c, n) := by
  obtain ⟨G1, w⟩ := w
  refine k_X12_guests_130 cx hY G1 (ctY hY (vc_X12_within (d := d + 0) w)) (by omega) (by omega) (by omega) (fun r h2 hp => ?_)
  obtain ⟨r2, rfl, w⟩ := hp
  exact s_X12_guests_143 cx hY eq hK108 (by omega) (by omega) w
theorem s_X12_guests_117 {E : EnvT} {d : Nat} (cx : CX E "ShoreDayModel" cX12_guests 7 (some .int) "guests" (d + 2) 0 0) (hY : eY E = lay1) {Q : Int32 → Hp → Prop} (eq : EQ E 0 0 (fun r h2 => ∃ x, r = [vI x] ∧ Q x h2)) {K108 : Int32 → Int32 → Int32 → Int32 → Int32 → Int32 → Hp → Prop} (hK108 : ∀ (a1 : Int32) (a2 : Int32) (a3 : Int32) (a4 : Int32) (a5 : Int32) (a6 : Int32) (h : Hp) (c n : Nat), c + 0 ≤ 0 → n + 0 ≤ 0 → K108 a1 a2 a3 a4 a5 a6 h → SW E 108 ([some (vP (some (12, 0))), some (vI (a1)), some (vI (a2)), some (vI (a3)), some (vI (a4)), some (vI (a5)), some (vI (a6))], [], h, c, n)) {a1 : Int32} {a2 : Int32} {a3 : Int32} {a4 : Int32} {a5 : Int32} {a6 : Int32} {h : Hp} {c n : Nat} (hc : c + 0 ≤ 0) (hn : n + 0 ≤ 0) (w : w_X12_guests_117 K108 Q a1 a2 a3 a4 a5 a6 h) : SW E 117 ([some (vP (some (12, 0))), some (vI (a1)), some (vI (a2)), some (vI (a3)), some (vI (a4)), some (vI (a5)), some (vI (a6))], [], h, c, n) := by
  obtain ⟨G1, w⟩ := w
  refine k_X12_guests_117 cx hY G1 (fun q => ?_) (fun q => ?_)
  · have w := w.1 q
    exact s_X12_guests_156 cx hY eq hK108 (by omega) (by omega) w
  · have w := w.2 q
    exact s_X12_guests_130 cx hY eq hK108 (by omega) (by omega) w
theorem s_X12_guests_108 {E : EnvT} {d : Nat} (cx : CX E "ShoreDayModel" cX12_guests 7 (some .int) "guests" (d + 2) 0 0) (hY : eY E = lay1) {Q : Int32 → Hp → Prop} (eq : EQ E 0 0 (fun r h2 => ∃ x, r = [vI x] ∧ Q x h2)) : ∀ (N : Nat) (a1 : Int32) (a2 : Int32) (a3 : Int32) (a4 : Int32) (a5 : Int32) (a6 : Int32) (h : Hp) (c n : Nat), c + 0 ≤ 0 → n + 0 ≤ 0 → w_X12_guests_108  Q N a1 a2 a3 a4 a5 a6 h → SW E 108 ([some (vP (some (12, 0))), some (vI (a1)), some (vI (a2)), some (vI (a3)), some (vI (a4)), some (vI (a5)), some (vI (a6))], [], h, c, n) := by
  intro N
  induction N with
  | zero =>
    intro _ _ _ _ _ _ h c n _ _ w
    exact w.elim
  | succ N ih =>
    intro a1 a2 a3 a4 a5 a6 h c n hc hn w
    refine k_X12_guests_108 cx hY (fun q => ?_) (fun q => ?_)
    · have w := w.1 q
      exact s_X12_guests_166 cx hY eq  (by omega) (by omega) w
    · have w := w.2 q
      exact s_X12_guests_117 cx hY eq ih (by omega) (by omega) w
theorem s_X12_guests_100 {E : EnvT} {d : Nat} (cx : CX E "ShoreDayModel" cX12_guests 7 (some .int) "guests" (d + 2) 0 0) (hY : eY E = lay1) {Q : Int32 → Hp → Prop} (eq : EQ E 0 0 (fun r h2 => ∃ x, r = [vI x] ∧ Q x h2)) {a1 : Int32} {a2 : Int32} {a3 : Int32} {x4 : Option AVal} {x5 : Option AVal} {x6 : Option AVal} {s0 : Int32} {h : Hp} {c n : Nat} (hc : c + 0 ≤ 0) (hn : n + 0 ≤ 0) (w : w_X12_guests_100  Q a1 a2 a3 s0 h) : SW E 100 ([some (vP (some (12, 0))), some (vI (a1)), some (vI (a2)), some (vI (a3)), x4, x5, x6], [vI (s0)], h, c, n) := by
  refine k_X12_guests_100 cx hY ?_
  obtain ⟨N1, w⟩ := w
  exact s_X12_guests_108 cx hY eq  _ _ _ _ _ _ _ _ _ _ (by omega) (by omega) w
theorem s_X12_guests_99 {E : EnvT} {d : Nat} (cx : CX E "ShoreDayModel" cX12_guests 7 (some .int) "guests" (d + 2) 0 0) (hY : eY E = lay1) {Q : Int32 → Hp → Prop} (eq : EQ E 0 0 (fun r h2 => ∃ x, r = [vI x] ∧ Q x h2)) {a1 : Int32} {a2 : Int32} {a3 : Int32} {x4 : Option AVal} {x5 : Option AVal} {x6 : Option AVal} {h : Hp} {c n : Nat} (hc : c + 0 ≤ 0) (hn : n + 0 ≤ 0) (w : w_X12_guests_99  Q a1 a2 a3 h) : SW E 99 ([some (vP (some (12, 0))), some (vI (a1)), some (vI (a2)), some (vI (a3)), x4, x5, x6], [], h, c, n) := by
  refine k_X12_guests_99 cx hY ?_
  exact s_X12_guests_100 cx hY eq  (by omega) (by omega) w
theorem s_X12_guests_95 {E : EnvT} {d : Nat} (cx : CX E "ShoreDayModel" cX12_guests 7 (some .int) "guests" (d + 2) 0 0) (hY : eY E = lay1) {Q : Int32 → Hp → Prop} (eq : EQ E 0 0 (fun r h2 => ∃ x, r = [vI x] ∧ Q x h2)) {a1 : Int32} {a2 : Int32} {a3 : Int32} {x4 : Option AVal} {x5 : Option AVal} {x6 : Option AVal} {h : Hp} {c n : Nat} (hc : c + 0 ≤ 0) (hn : n + 0 ≤ 0) (w : w_X12_guests_95  Q a1 a2 a3 h) : SW E 95 ([some (vP (some (12, 0))), some (vI (a1)), some (vI (a2)), some (vI (a3)), x4, x5, x6], [], h, c, n) := by
  refine k_X12_guests_95 cx hY ?_
  exact s_X12_guests_100 cx hY eq  (by omega) (by omega) w
theorem s_X12_guests_89 {E : EnvT} {d : Nat} (cx : CX E "ShoreDayModel" cX12_guests 7 (some .int) "guests" (d + 2) 0 0) (hY : eY E = lay1) {Q : Int32 → Hp → Prop} (eq : EQ E 0 0 (fun r h2 => ∃ x, r = [vI x] ∧ Q x h2)) {a1 : Int32} {a2 : Int32} {x3 : Option AVal} {x4 : Option AVal} {x5 : Option AVal} {x6 : Option AVal} {s0 : Int32} {h : Hp} {c n : Nat} (hc : c + 0 ≤ 0) (hn : n + 0 ≤ 0) (w : w_X12_guests_89  Q a1 a2 s0 h) : SW E 89 ([some (vP (some (12, 0))), some (vI (a1)), some (vI (a2)), x3, x4, x5, x6], [vI (s0)], h, c, n) := by
  refine k_X12_guests_89 cx hY (fun q => ?_) (fun q => ?_)
  · have w := w.1 q
    exact s_X12_guests_99 cx hY eq  (by omega) (by omega) w
  · have w := w.2 q
    exact s_X12_guests_95 cx hY eq  (by omega) (by omega) w
theorem s_X12_guests_87 {E : EnvT} {d : Nat} (cx : CX E "ShoreDayModel" cX12_guests 7 (some .int) "guests" (d + 2) 0 0) (hY : eY E = lay1) {Q : Int32 → Hp → Prop} (eq : EQ E 0 0 (fun r h2 => ∃ x, r = [vI x] ∧ Q x h2)) {a1 : Int32} {a2 : Int32} {x3 : Option AVal} {x4 : Option AVal} {x5 : Option AVal} {x6 : Option AVal} {h : Hp} {c n : Nat} (hc : c + 0 ≤ 0) (hn : n + 0 ≤ 0) (w : w_X12_guests_87  Q a1 a2 h) : SW E 87 ([some (vP (some (12, 0))), some (vI (a1)), some (vI (a2)), x3, x4, x5, x6], [], h, c, n) := by
  refine k_X12_guests_87 cx hY ?_
  exact s_X12_guests_89 cx hY eq  (by omega) (by omega) w
theorem s_X12_guests_83 {E : EnvT} {d : Nat} (cx : CX E "ShoreDayModel" cX12_guests 7 (some .int) "guests" (d + 2) 0 0) (hY : eY E = lay1) {Q : Int32 → Hp → Prop} (eq : EQ E 0 0 (fun r h2 => ∃ x, r = [vI x] ∧ Q x h2)) {a1 : Int32} {a2 : Int32} {x3 : Option AVal} {x4 : Option AVal} {x5 : Option AVal} {x6 : Option AVal} {h : Hp} {c n : Nat} (hc : c + 0 ≤ 0) (hn : n + 0 ≤ 0) (w : w_X12_guests_83  Q a1 a2 h) : SW E 83 ([some (vP (some (12, 0))), some (vI (a1)), some (vI (a2)), x3, x4, x5, x6], [], h, c, n) := by
  refine k_X12_guests_83 cx hY ?_
  exact s_X12_guests_89 cx hY eq  (by omega) (by omega) w
theorem s_X12_guests_78 {E : EnvT} {d : Nat} (cx : CX E "ShoreDayModel" cX12_guests 7 (some .int) "guests" (d + 2) 0 0) (hY : eY E = lay1) {Q : Int32 → Hp → Prop} (eq : EQ E 0 0 (fun r h2 => ∃ x, r = [vI x] ∧ Q x h2)) {a1 : Int32} {a2 : Int32} {x3 : Option AVal} {x4 : Option AVal} {x5 : Option AVal} {x6 : Option AVal} {h : Hp} {c n : Nat} (hc : c + 0 ≤ 0) (hn : n + 0 ≤ 0) (w : w_X12_guests_78  Q a1 a2 h) : SW E 78 ([some (vP (some (12, 0))), some (vI (a1)), some (vI (a2)), x3, x4, x5, x6], [], h, c, n) := by
  refine k_X12_guests_78 cx hY (fun q => ?_) (fun q => ?_)
  · have w := w.1 q
    exact s_X12_guests_87 cx hY eq  (by omega) (by omega) w
  · have w := w.2 q
    exact s_X12_guests_83 cx hY eq  (by omega) (by omega) w
theorem s_X12_guests_74 {E : EnvT} {d : Nat} (cx : CX E "ShoreDayModel" cX12_guests 7 (some .int) "guests" (d + 2) 0 0) (hY : eY E = lay1) {Q : Int32 → Hp → Prop} (eq : EQ E 0 0 (fun r h2 => ∃ x, r = [vI x] ∧ Q x h2)) {a1 : Int32} {a2 : Int32} {x3 : Option AVal} {x4 : Option AVal} {x5 : Option AVal} {x6 : Option AVal} {h : Hp} {c n : Nat} (hc : c + 0 ≤ 0) (hn : n + 0 ≤ 0) (w : w_X12_guests_74  Q a1 a2 h) : SW E 74 ([some (vP (some (12, 0))), some (vI (a1)), some (vI (a2)), x3, x4, x5, x6], [], h, c, n) := by
  refine k_X12_guests_74 cx hY ?_
  exact s_X12_guests_89 cx hY eq  (by omega) (by omega) w
theorem s_X12_guests_69 {E : EnvT} {d : Nat} (cx : CX E "ShoreDayModel" cX12_guests 7 (some .int) "guests" (d + 2) 0 0) (hY : eY E = lay1) {Q : Int32 → Hp → Prop} (eq : EQ E 0 0 (fun r h2 => ∃ x, r = [vI x] ∧ Q x h2)) {a1 : Int32} {a2 : Int32} {x3 : Option AVal} {x4 : Option AVal} {x5 : Option AVal} {x6 : Option AVal} {h : Hp} {c n : Nat} (hc : c + 0 ≤ 0) (hn : n + 0 ≤ 0) (w : w_X12_guests_69  Q a1 a2 h) : SW E 69 ([some (vP (some (12, 0))), some (vI (a1)), some (vI (a2)), x3, x4, x5, x6], [], h, c, n) := by
  refine k_X12_guests_69 cx hY (fun q => ?_) (fun q => ?_)
  · have w := w.1 q
    exact s_X12_guests_78 cx hY eq  (by omega) (by omega) w
  · have w := w.2 q
    exact s_X12_guests_74 cx hY eq  (by omega) (by omega) w
theorem s_X12_guests_65 {E : EnvT} {d : Nat} (cx : CX E "ShoreDayModel" cX12_guests 7 (some .int) "guests" (d + 2) 0 0) (hY : eY E = lay1) {Q : Int32 → Hp → Prop} (eq : EQ E 0 0 (fun r h2 => ∃ x, r = [vI x] ∧ Q x h2)) {a1 : Int32} {a2 : Int32} {x3 : Option AVal} {x4 : Option AVal} {x5 : Option AVal} {x6 : Option AVal} {h : Hp} {c n : Nat} (hc : c + 0 ≤ 0) (hn : n + 0 ≤ 0) (w : w_X12_guests_65  Q a1 a2 h) : SW E 65 ([some (vP (some (12, 0))), some (vI (a1)), some (vI (a2)), x3, x4, x5, x6], [], h, c, n) := by
  refine k_X12_guests_65 cx hY ?_
  exact s_X12_guests_89 cx hY eq  (by omega) (by omega) w
theorem s_X12_guests_60 {E : EnvT} {d : Nat} (cx : CX E "ShoreDayModel" cX12_guests 7 (some .int) "guests" (d + 2) 0 0) (hY : eY E = lay1) {Q : Int32 → Hp → Prop} (eq : EQ E 0 0 (fun r h2 => ∃ x, r = [vI x] ∧ Q x h2)) {a1 : Int32} {a2 : Int32} {x3 : Option AVal} {x4 : Option AVal} {x5 : Option AVal} {x6 : Option AVal} {h : Hp} {c n : Nat} (hc : c + 0 ≤ 0) (hn : n + 0 ≤ 0) (w : w_X12_guests_60  Q a1 a2 h) : SW E 60 ([some (vP (some (12, 0))), some (vI (a1)), some (vI (a2)), x3, x4, x5, x6], [], h, c, n) := by
  refine k_X12_guests_60 cx hY (fun q => ?_) (fun q => ?_)
  · have w := w.1 q
    exact s_X12_guests_69 cx hY eq  (by omega) (by omega) w
  · have w := w.2 q
    exact s_X12_guests_65 cx hY eq  (by omega) (by omega) w
theorem s_X12_guests_56 {E : EnvT} {d : Nat} (cx : CX E "ShoreDayModel" cX12_guests 7 (some .int) "guests" (d + 2) 0 0) (hY : eY E = lay1) {Q : Int32 → Hp → Prop} (eq : EQ E 0 0 (fun r h2 => ∃ x, r = [vI x] ∧ Q x h2)) {a1 : Int32} {a2 : Int32} {x3 : Option AVal} {x4 : Option AVal} {x5 : Option AVal} {x6 : Option AVal} {h : Hp} {c n : Nat} (hc : c + 0 ≤ 0) (hn : n + 0 ≤ 0) (w : w_X12_guests_56  Q a1 a2 h) : SW E 56 ([some (vP (some (12, 0))), some (vI (a1)), some (vI (a2)), x3, x4, x5, x6], [], h, c, n) := by
  refine k_X12_guests_56 cx hY ?_
  exact s_X12_guests_89 cx hY eq  (by omega) (by omega) w
theorem s_X12_guests_52 {E : EnvT} {d : Nat} (cx : CX E "ShoreDayModel" cX12_guests 7 (some .int) "guests" (d + 2) 0 0) (hY : eY E = lay1) {Q : Int32 → Hp → Prop} (eq : EQ E 0 0 (fun r h2 => ∃ x, r = [vI x] ∧ Q x h2)) {a1 : Int32} {a2 : Int32} {x3 : Option AVal} {x4 : Option AVal} {x5 : Option AVal} {x6 : Option AVal} {h : Hp} {c n : Nat} (hc : c + 0 ≤ 0) (hn : n + 0 ≤ 0) (w : w_X12_guests_52  Q a1 a2 h) : SW E 52 ([some (vP (some (12, 0))), some (vI (a1)), some (vI (a2)), x3, x4, x5, x6], [], h, c, n) := by
  refine k_X12_guests_52 cx hY (fun q => ?_) (fun q => ?_)
  · have w := w.1 q
    exact s_X12_guests_60 cx hY eq  (by omega) (by omega) w
  · have w := w.2 q
    exact s_X12_guests_56 cx hY eq  (by omega) (by omega) w
theorem s_X12_guests_51 {E : EnvT} {d : Nat} (cx : CX E "ShoreDayModel" cX12_guests 7 (some .int) "guests" (d + 2) 0 0) (hY : eY E = lay1) {Q : Int32 → Hp → Prop} (eq : EQ E 0 0 (fun r h2 => ∃ x, r = [vI x] ∧ Q x h2)) {a1 : Int32} {a2 : Int32} {x3 : Option AVal} {x4 : Option AVal} {x5 : Option AVal} {x6 : Option AVal} {s0 : Int32} {h : Hp} {c n : Nat} (hc : c + 0 ≤ 0) (hn : n + 0 ≤ 0) (w : w_X12_guests_51  Q a1 a2 s0 h) : SW E 51 ([some (vP (some (12, 0))), some (vI (a1)), some (vI (a2)), x3, x4, x5, x6], [vI (s0)], h, c, n) := by
  exact k_X12_guests_51 cx hY eq (by omega) (by omega) ⟨_, rfl, w⟩
theorem s_X12_guests_50 {E : EnvT} {d : Nat} (cx : CX E "ShoreDayModel" cX12_guests 7 (some .int) "guests" (d + 2) 0 0) (hY : eY E = lay1) {Q : Int32 → Hp → Prop} (eq : EQ E 0 0 (fun r h2 => ∃ x, r = [vI x] ∧ Q x h2)) {a1 : Int32} {a2 : Int32} {x3 : Option AVal} {x4 : Option AVal} {x5 : Option AVal} {x6 : Option AVal} {h : Hp} {c n : Nat} (hc : c + 0 ≤ 0) (hn : n + 0 ≤ 0) (w : w_X12_guests_50  Q a1 a2 h) : SW E 50 ([some (vP (some (12, 0))), some (vI (a1)), some (vI (a2)), x3, x4, x5, x6], [], h, c, n) := by
  refine k_X12_guests_50 cx hY ?_
  exact s_X12_guests_51 cx hY eq  (by omega) (by omega) w
theorem s_X12_guests_46 {E : EnvT} {d : Nat} (cx : CX E "ShoreDayModel" cX12_guests 7 (some .int) "guests" (d + 2) 0 0) (hY : eY E = lay1) {Q : Int32 → Hp → Prop} (eq : EQ E 0 0 (fun r h2 => ∃ x, r = [vI x] ∧ Q x h2)) {a1 : Int32} {a2 : Int32} {x3 : Option AVal} {x4 : Option AVal} {x5 : Option AVal} {x6 : Option AVal} {h : Hp} {c n : Nat} (hc : c + 0 ≤ 0) (hn : n + 0 ≤ 0) (w : w_X12_guests_46  Q a1 a2 h) : SW E 46 ([some (vP (some (12, 0))), some (vI (a1)), some (vI (a2)), x3, x4, x5, x6], [], h, c, n) := by
  refine k_X12_guests_46 cx hY ?_
  exact s_X12_guests_51 cx hY eq  (by omega) (by omega) w
theorem s_X12_guests_33 {E : EnvT} {d : Nat} (cx : CX E "ShoreDayModel" cX12_guests 7 (some .int) "guests" (d + 2) 0 0) (hY : eY E = lay1) {Q : Int32 → Hp → Prop} (eq : EQ E 0 0 (fun r h2 => ∃ x, r = [vI x] ∧ Q x h2)) {a1 : Int32} {a2 : Int32} {x3 : Option AVal} {x4 : Option AVal} {x5 : Option AVal} {x6 : Option AVal} {h : Hp} {c n : Nat} (hc : c + 0 ≤ 0) (hn : n + 0 ≤ 0) (w : w_X12_guests_33  Q a1 a2 h) : SW E 33 ([some (vP (some (12, 0))), some (vI (a1)), some (vI (a2)), x3, x4, x5, x6], [], h, c, n) := by
  obtain ⟨G1, w⟩ := w
  refine k_X12_guests_33 cx hY G1 (fun q => ?_) (fun q => ?_)
  · have w := w.1 q
    exact s_X12_guests_50 cx hY eq  (by omega) (by omega) w
  · have w := w.2 q
    exact s_X12_guests_46 cx hY eq  (by omega) (by omega) w
theorem s_X12_guests_28 {E : EnvT} {d : Nat} (cx : CX E "ShoreDayModel" cX12_guests 7 (some .int) "guests" (d + 2) 0 0) (hY : eY E = lay1) {Q : Int32 → Hp → Prop} (eq : EQ E 0 0 (fun r h2 => ∃ x, r = [vI x] ∧ Q x h2)) {a1 : Int32} {a2 : Int32} {x3 : Option AVal} {x4 : Option AVal} {x5 : Option AVal} {x6 : Option AVal} {h : Hp} {c n : Nat} (hc : c + 0 ≤ 0) (hn : n + 0 ≤ 0) (w : w_X12_guests_28  Q a1 a2 h) : SW E 28 ([some (vP (some (12, 0))), some (vI (a1)), some (vI (a2)), x3, x4, x5, x6], [], h, c, n) := by
  refine k_X12_guests_28 cx hY (fun q => ?_) (fun q => ?_)
  · have w := w.1 q
    exact s_X12_guests_52 cx hY eq  (by omega) (by omega) w
  · have w := w.2 q
    exact s_X12_guests_33 cx hY eq  (by omega) (by omega) w
theorem s_X12_guests_21 {E : EnvT} {d : Nat} (cx : CX E "ShoreDayModel" cX12_guests 7 (some .int) "guests" (d + 2) 0 0) (hY : eY E = lay1) {Q : Int32 → Hp → Prop} (eq : EQ E 0 0 (fun r h2 => ∃ x, r = [vI x] ∧ Q x h2)) {a1 : Int32} {a2 : Int32} {x3 : Option AVal} {x4 : Option AVal} {x5 : Option AVal} {x6 : Option AVal} {h : Hp} {c n : Nat} (hc : c + 0 ≤ 0) (hn : n + 0 ≤ 0) (w : w_X12_guests_21  Q a1 a2 h) : SW E 21 ([some (vP (some (12, 0))), some (vI (a1)), some (vI (a2)), x3, x4, x5, x6], [], h, c, n) := by
  refine k_X12_guests_21 cx hY (fun q => ?_) (fun q => ?_)
  · have w := w.1 q
    exact s_X12_guests_28 cx hY eq  (by omega) (by omega) w
  · have w := w.2 q
    exact s_X12_guests_26 cx hY eq  (by omega) (by omega) w
theorem s_X12_guests_17 {E : EnvT} {d : Nat} (cx : CX E "ShoreDayModel" cX12_guests 7 (some .int) "guests" (d + 2) 0 0) (hY : eY E = lay1) {Q : Int32 → Hp → Prop} (eq : EQ E 0 0 (fun r h2 => ∃ x, r = [vI x] ∧ Q x h2)) {a1 : Int32} {a2 : Int32} {x3 : Option AVal} {x4 : Option AVal} {x5 : Option AVal} {x6 : Option AVal} {h : Hp} {c n : Nat} (hc : c + 0 ≤ 0) (hn : n + 0 ≤ 0) (w : w_X12_guests_17  Q a1 a2 h) : SW E 17 ([some (vP (some (12, 0))), some (vI (a1)), some (vI (a2)), x3, x4, x5, x6], [], h, c, n) := by
  refine k_X12_guests_17 cx hY (fun q => ?_) (fun q => ?_)
  · have w := w.1 q
    exact s_X12_guests_26 cx hY eq  (by omega) (by omega) w
  · have w := w.2 q
    exact s_X12_guests_21 cx hY eq  (by omega) (by omega) w
theorem s_X12_guests_9 {E : EnvT} {d : Nat} (cx : CX E "ShoreDayModel" cX12_guests 7 (some .int) "guests" (d + 2) 0 0) (hY : eY E = lay1) {Q : Int32 → Hp → Prop} (eq : EQ E 0 0 (fun r h2 => ∃ x, r = [vI x] ∧ Q x h2)) {a1 : Int32} {a2 : Int32} {x3 : Option AVal} {x4 : Option AVal} {x5 : Option AVal} {x6 : Option AVal} {h : Hp} {c n : Nat} (hc : c + 0 ≤ 0) (hn : n + 0 ≤ 0) (w : w_X12_guests_9  Q a1 a2 h) : SW E 9 ([some (vP (some (12, 0))), some (vI (a1)), some (vI (a2)), x3, x4, x5, x6], [], h, c, n) := by
  refine k_X12_guests_9 cx hY (fun q => ?_) (fun q => ?_)
  · have w := w.1 q
    exact s_X12_guests_26 cx hY eq  (by omega) (by omega) w
  · have w := w.2 q
    exact s_X12_guests_17 cx hY eq  (by omega) (by omega) w
theorem s_X12_guests_0 {E : EnvT} {d : Nat} (cx : CX E "ShoreDayModel" cX12_guests 7 (some .int) "guests" (d + 2) 0 0) (hY : eY E = lay1) {Q : Int32 → Hp → Prop} (eq : EQ E 0 0 (fun r h2 => ∃ x, r = [vI x] ∧ Q x h2)) {a1 : Int32} {a2 : Int32} {x3 : Option AVal} {x4 : Option AVal} {x5 : Option AVal} {x6 : Option AVal} {h : Hp} {c n : Nat} (hc : c + 0 ≤ 0) (hn : n + 0 ≤ 0) (w : w_X12_guests_0  Q a1 a2 h) : SW E 0 ([some (vP (some (12, 0))), some (vI (a1)), some (vI (a2)), x3, x4, x5, x6], [], h, c, n) := by
  refine k_X12_guests_0 cx hY (fun q => ?_) (fun q => ?_)
  · have w := w.1 q
    exact s_X12_guests_26 cx hY eq  (by omega) (by omega) w
  · have w := w.2 q
    exact s_X12_guests_9 cx hY eq  (by omega) (by omega) w
def wp_X12_guests (a1 : Int32) (a2 : Int32) (h : Hp) (Q : Int32 → Hp → Prop) : Prop := w_X12_guests_0 Q a1 a2 h
theorem vc_X12_guests {l : Launch} {d : Nat} {a1 : Int32} {a2 : Int32} {h : Hp} {Q : Int32 → Hp → Prop} (w : wp_X12_guests a1 a2 h Q) : Ct l lay1 yX12_guests cX12_guests 7 (some .int) (d + 2) 0 0 [vP (some (12, 0)), vI a1, vI a2] h (fun r h2 => ∃ x, r = [vI x] ∧ Q x h2) := by
  exact Ct.of (by decide) (Nat.le_of_ble_eq_true rfl) fun E cx eq hl hY => s_X12_guests_0 cx hY eq (Nat.le_refl _) (Nat.le_refl _) w
def w_X12_rides_26 (Q : Int32 → Hp → Prop) (a1 : Int32) (a2 : Int32) (h : Hp) : Prop := Q ((-1 : Int32)) (h)
def w_X12_rides_80 (Q : Int32 → Hp → Prop) (a1 : Int32) (a2 : Int32) (s0 : Int32) (h : Hp) : Prop := Q (s0) (h)
def w_X12_rides_79 (Q : Int32 → Hp → Prop) (a1 : Int32) (a2 : Int32) (h : Hp) : Prop := w_X12_rides_80  Q (a1) (a2) ((0 : Int32)) (h)
def w_X12_rides_75 (Q : Int32 → Hp → Prop) (a1 : Int32) (a2 : Int32) (h : Hp) : Prop := w_X12_rides_80  Q (a1) (a2) ((1 : Int32)) (h)
def w_X12_rides_62 (Q : Int32 → Hp → Prop) (a1 : Int32) (a2 : Int32) (h : Hp) : Prop := vp_in (a1) 8 ∧ (((gI (h) 12 (0) (24)) < (gI (h) 136 (0) (tN (a1))) → w_X12_rides_79  Q (a1) (a2) (h)) ∧ (¬ (gI (h) 12 (0) (24)) < (gI (h) 136 (0) (tN (a1))) → w_X12_rides_75  Q (a1) (a2) (h)))
def w_X12_rides_46 (Q : Int32 → Hp → Prop) (a1 : Int32) (a2 : Int32) (h : Hp) : Prop := vp_in (a1) 8 ∧ (vp_in (a1) 8 ∧ (w_X12_rides_80  Q (a1) (a2) ((gI (h) 138 (0) (tN (a1))) - (gI (h) 140 (0) (tN (a1)))) (h)))
def w_X12_rides_41 (Q : Int32 → Hp → Prop) (a1 : Int32) (a2 : Int32) (h : Hp) : Prop := (¬ (a2) = ((1 : Int32)) → w_X12_rides_62  Q (a1) (a2) (h)) ∧ ((a2) = ((1 : Int32)) → w_X12_rides_46  Q (a1) (a2) (h))
def w_X12_rides_32 (Q : Int32 → Hp → Prop) (a1 : Int32) (a2 : Int32) (h : Hp) : Prop := vp_in (a1) 8 ∧ (w_X12_rides_80  Q (a1) (a2) (gI (h) 140 (0) (tN (a1))) (h))
def w_X12_rides_28 (Q : Int32 → Hp → Prop) (a1 : Int32) (a2 : Int32) (h : Hp) : Prop := (¬ (a2) = 0 → w_X12_rides_41  Q (a1) (a2) (h)) ∧ ((a2) = 0 → w_X12_rides_32  Q (a1) (a2) (h))
def w_X12_rides_21 (Q : Int32 → Hp → Prop) (a1 : Int32) (a2 : Int32) (h : Hp) : Prop := ((a2) ≤ ((2 : Int32)) → w_X12_rides_28  Q (a1) (a2) (h)) ∧ (¬ (a2) ≤ ((2 : Int32)) → w_X12_rides_26  Q (a1) (a2) (h))
def w_X12_rides_17 (Q : Int32 → Hp → Prop) (a1 : Int32) (a2 : Int32) (h : Hp) : Prop := ((a2) < 0 → w_X12_rides_26  Q (a1) (a2) (h)) ∧ (¬ (a2) < 0 → w_X12_rides_21  Q (a1) (a2) (h))
def w_X12_rides_9 (Q : Int32 → Hp → Prop) (a1 : Int32) (a2 : Int32) (h : Hp) : Prop := ((gI (h) 12 (0) (35)) ≤ (a1) → w_X12_rides_26  Q (a1) (a2) (h)) ∧ (¬ (gI (h) 12 (0) (35)) ≤ (a1) → w_X12_rides_17  Q (a1) (a2) (h))
def w_X12_rides_0 (Q : Int32 → Hp → Prop) (a1 : Int32) (a2 : Int32) (h : Hp) : Prop := ((a1) < 0 → w_X12_rides_26  Q (a1) (a2) (wI (h) 12 (0) 0 ((0 : Int32)))) ∧ (¬ (a1) < 0 → w_X12_rides_9  Q (a1) (a2) (wI (h) 12 (0) 0 ((0 : Int32))))
theorem s_X12_rides_26 {E : EnvT} {d : Nat} (cx : CX E "ShoreDayModel" cX12_rides 3 (some .int) "rides" (d + 1) 0 0) (hY : eY E = lay1) {Q : Int32 → Hp → Prop} (eq : EQ E 0 0 (fun r h2 => ∃ x, r = [vI x] ∧ Q x h2)) {a1 : Int32} {a2 : Int32} {h : Hp} {c n : Nat} (hc : c + 0 ≤ 0) (hn : n + 0 ≤ 0) (w : w_X12_rides_26  Q a1 a2 h) : SW E 26 ([some (vP (some (12, 0))), some (vI (a1)), some (vI (a2))], [], h, c, n) := by
  exact k_X12_rides_26 cx hY eq (by omega) (by omega) ⟨_, rfl, w⟩
theorem s_X12_rides_80 {E : EnvT} {d : Nat} (cx : CX E "ShoreDayModel" cX12_rides 3 (some .int) "rides" (d + 1) 0 0) (hY : eY E = lay1) {Q : Int32 → Hp → Prop} (eq : EQ E 0 0 (fun r h2 => ∃ x, r = [vI x] ∧ Q x h2)) {a1 : Int32} {a2 : Int32} {s0 : Int32} {h : Hp} {c n : Nat} (hc : c + 0 ≤ 0) (hn : n + 0 ≤ 0) (w : w_X12_rides_80  Q a1 a2 s0 h) : SW E 80 ([some (vP (some (12, 0))), some (vI (a1)), some (vI (a2))], [vI (s0)], h, c, n) := by
  exact k_X12_rides_80 cx hY eq (by omega) (by omega) ⟨_, rfl, w⟩
theorem s_X12_rides_79 {E : EnvT} {d : Nat} (cx : CX E "ShoreDayModel" cX12_rides 3 (some .int) "rides" (d + 1) 0 0) (hY : eY E = lay1) {Q : Int32 → Hp → Prop} (eq : EQ E 0 0 (fun r h2 => ∃ x, r = [vI x] ∧ Q x h2)) {a1 : Int32} {a2 : Int32} {h : Hp} {c n : Nat} (hc : c + 0 ≤ 0) (hn : n + 0 ≤ 0) (w : w_X12_rides_79  Q a1 a2 h) : SW E 79 ([some (vP (some (12, 0))), some (vI (a1)), some (vI (a2))], [], h, c, n) := by
  refine k_X12_rides_79 cx hY ?_
  exact s_X12_rides_80 cx hY eq  (by omega) (by omega) w
theorem s_X12_rides_75 {E : EnvT} {d : Nat} (cx : CX E "ShoreDayModel" cX12_rides 3 (some .int) "rides" (d + 1) 0 0) (hY : eY E = lay1) {Q : Int32 → Hp → Prop} (eq : EQ E 0 0 (fun r h2 => ∃ x, r = [vI x] ∧ Q x h2)) {a1 : Int32} {a2 : Int32} {h : Hp} {c n : Nat} (hc : c + 0 ≤ 0) (hn : n + 0 ≤ 0) (w : w_X12_rides_75  Q a1 a2 h) : SW E 75 ([some (vP (some (12, 0))), some (vI (a1)), some (vI (a2))], [], h, c, n) := by
  refine k_X12_rides_75 cx hY ?_
  exact s_X12_rides_80 cx hY eq  (by omega) (by omega) w
theorem s_X12_rides_62 {E : EnvT} {d : Nat} (cx : CX E "ShoreDayModel" cX12_rides 3 (some .int) "rides" (d + 1) 0 0) (hY : eY E = lay1) {Q : Int32 → Hp → Prop} (eq : EQ E 0 0 (fun r h2 => ∃ x, r = [vI x] ∧ Q x h2)) {a1 : Int32} {a2 : Int32} {h : Hp} {c n : Nat} (hc : c + 0 ≤ 0) (hn : n + 0 ≤ 0) (w : w_X12_rides_62  Q a1 a2 h) : SW E 62 ([some (vP (some (12, 0))), some (vI (a1)), some (vI (a2))], [], h, c, n) := by
  obtain ⟨G1, w⟩ := w
  refine k_X12_rides_62 cx hY G1 (fun q => ?_) (fun q => ?_)
  · have w := w.1 q
    exact s_X12_rides_79 cx hY eq  (by omega) (by omega) w
  · have w := w.2 q
    exact s_X12_rides_75 cx hY eq  (by omega) (by omega) w
theorem s_X12_rides_46 {E : EnvT} {d : Nat} (cx : CX E "ShoreDayModel" cX12_rides 3 (some .int) "rides" (d + 1) 0 0) (hY : eY E = lay1) {Q : Int32 → Hp → Prop} (eq : EQ E 0 0 (fun r h2 => ∃ x, r = [vI x] ∧ Q x h2)) {a1 : Int32} {a2 : Int32} {h : Hp} {c n : Nat} (hc : c + 0 ≤ 0) (hn : n + 0 ≤ 0) (w : w_X12_rides_46  Q a1 a2 h) : SW E 46 ([some (vP (some (12, 0))), some (vI (a1)), some (vI (a2))], [], h, c, n) := by
  obtain ⟨G1, G2, w⟩ := w
  refine k_X12_rides_46 cx hY G1 G2 ?_
  exact s_X12_rides_80 cx hY eq  (by omega) (by omega) w
theorem s_X12_rides_41 {E : EnvT} {d : Nat} (cx : CX E "ShoreDayModel" cX12_rides 3 (some .int) "rides" (d + 1) 0 0) (hY : eY E = lay1) {Q : Int32 → Hp → Prop} (eq : EQ E 0 0 (fun r h2 => ∃ x, r = [vI x] ∧ Q x h2)) {a1 : Int32} {a2 : Int32} {h : Hp} {c n : Nat} (hc : c + 0 ≤ 0) (hn : n + 0 ≤ 0) (w : w_X12_rides_41  Q a1 a2 h) : SW E 41 ([some (vP (some (12, 0))), some (vI (a1)), some (vI (a2))], [], h, c, n) := by
  refine k_X12_rides_41 cx hY (fun q => ?_) (fun q => ?_)
  · have w := w.1 q
    exact s_X12_rides_62 cx hY eq  (by omega) (by omega) w
  · have w := w.2 q
    exact s_X12_rides_46 cx hY eq  (by omega) (by omega) w
theorem s_X12_rides_32 {E : EnvT} {d : Nat} (cx : CX E "ShoreDayModel" cX12_rides 3 (some .int) "rides" (d + 1) 0 0) (hY : eY E = lay1) {Q : Int32 → Hp → Prop} (eq : EQ E 0 0 (fun r h2 => ∃ x, r = [vI x] ∧ Q x h2)) {a1 : Int32} {a2 : Int32} {h : Hp} {c n : Nat} (hc : c + 0 ≤ 0) (hn : n + 0 ≤ 0) (w : w_X12_rides_32  Q a1 a2 h) : SW E 32 ([some (vP (some (12, 0))), some (vI (a1)), some (vI (a2))], [], h, c, n) := by
  obtain ⟨G1, w⟩ := w
  refine k_X12_rides_32 cx hY G1 ?_
  exact s_X12_rides_80 cx hY eq  (by omega) (by omega) w
theorem s_X12_rides_28 {E : EnvT} {d : Nat} (cx : CX E "ShoreDayModel" cX12_rides 3 (some .int) "rides" (d + 1) 0 0) (hY : eY E = lay1) {Q : Int32 → Hp → Prop} (eq : EQ E 0 0 (fun r h2 => ∃ x, r = [vI x] ∧ Q x h2)) {a1 : Int32} {a2 : Int32} {h : Hp} {c n : Nat} (hc : c + 0 ≤ 0) (hn : n + 0 ≤ 0) (w : w_X12_rides_28  Q a1 a2 h) : SW E 28 ([some (vP (some (12, 0))), some (vI (a1)), some (vI (a2))], [], h, c, n) := by
  refine k_X12_rides_28 cx hY (fun q => ?_) (fun q => ?_)
  · have w := w.1 q
    exact s_X12_rides_41 cx hY eq  (by omega) (by omega) w
  · have w := w.2 q
    exact s_X12_rides_32 cx hY eq  (by omega) (by omega) w
theorem s_X12_rides_21 {E : EnvT} {d : Nat} (cx : CX E "ShoreDayModel" cX12_rides 3 (some .int) "rides" (d + 1) 0 0) (hY : eY E = lay1) {Q : Int32 → Hp → Prop} (eq : EQ E 0 0 (fun r h2 => ∃ x, r = [vI x] ∧ Q x h2)) {a1 : Int32} {a2 : Int32} {h : Hp} {c n : Nat} (hc : c + 0 ≤ 0) (hn : n + 0 ≤ 0) (w : w_X12_rides_21  Q a1 a2 h) : SW E 21 ([some (vP (some (12, 0))), some (vI (a1)), some (vI (a2))], [], h, c, n) := by
  refine k_X12_rides_21 cx hY (fun q => ?_) (fun q => ?_)
  · have w := w.1 q
    exact s_X12_rides_28 cx hY eq  (by omega) (by omega) w
  · have w := w.2 q
    exact s_X12_rides_26 cx hY eq  (by omega) (by omega) w
theorem s_X12_rides_17 {E : EnvT} {d : Nat} (cx : CX E "ShoreDayModel" cX12_rides 3 (some .int) "rides" (d + 1) 0 0) (hY : eY E = lay1) {Q : Int32 → Hp → Prop} (eq : EQ E 0 0 (fun r h2 => ∃ x, r = [vI x] ∧ Q x h2)) {a1 : Int32} {a2 : Int32} {h : Hp} {c n : Nat} (hc : c + 0 ≤ 0) (hn : n + 0 ≤ 0) (w : w_X12_rides_17  Q a1 a2 h) : SW E 17 ([some (vP (some (12, 0))), some (vI (a1)), some (vI (a2))], [], h, c, n) := by
  refine k_X12_rides_17 cx hY (fun q => ?_) (fun q => ?_)
  · have w := w.1 q
    exact s_X12_rides_26 cx hY eq  (by omega) (by omega) w
  · have w := w.2 q
    exact s_X12_rides_21 cx hY eq  (by omega) (by omega) w
theorem s_X12_rides_9 {E : EnvT} {d : Nat} (cx : CX E "ShoreDayModel" cX12_rides 3 (some .int) "rides" (d + 1) 0 0) (hY : eY E = lay1) {Q : Int32 → Hp → Prop} (eq : EQ E 0 0 (fun r h2 => ∃ x, r = [vI x] ∧ Q x h2)) {a1 : Int32} {a2 : Int32} {h : Hp} {c n : Nat} (hc : c + 0 ≤ 0) (hn : n + 0 ≤ 0) (w : w_X12_rides_9  Q a1 a2 h) : SW E 9 ([some (vP (some (12, 0))), some (vI (a1)), some (vI (a2))], [], h, c, n) := by
  refine k_X12_rides_9 cx hY (fun q => ?_) (fun q => ?_)
  · have w := w.1 q
    exact s_X12_rides_26 cx hY eq  (by omega) (by omega) w
  · have w := w.2 q
    exact s_X12_rides_17 cx hY eq  (by omega) (by omega) w
theorem s_X12_rides_0 {E : EnvT} {d : Nat} (cx : CX E "ShoreDayModel" cX12_rides 3 (some .int) "rides" (d + 1) 0 0) (hY : eY E = lay1) {Q : Int32 → Hp → Prop} (eq : EQ E 0 0 (fun r h2 => ∃ x, r = [vI x] ∧ Q x h2)) {a1 : Int32} {a2 : Int32} {h : Hp} {c n : Nat} (hc : c + 0 ≤ 0) (hn : n + 0 ≤ 0) (w : w_X12_rides_0  Q a1 a2 h) : SW E 0 ([some (vP (some (12, 0))), some (vI (a1)), some (vI (a2))], [], h, c, n) := by
  refine k_X12_rides_0 cx hY (fun q => ?_) (fun q => ?_)
  · have w := w.1 q
    exact s_X12_rides_26 cx hY eq  (by omega) (by omega) w
  · have w := w.2 q
    exact s_X12_rides_9 cx hY eq  (by omega) (by omega) w
def wp_X12_rides (a1 : Int32) (a2 : Int32) (h : Hp) (Q : Int32 → Hp → Prop) : Prop := w_X12_rides_0 Q a1 a2 h
theorem vc_X12_rides {l : Launch} {d : Nat} {a1 : Int32} {a2 : Int32} {h : Hp} {Q : Int32 → Hp → Prop} (w : wp_X12_rides a1 a2 h Q) : Ct l lay1 yX12_rides cX12_rides 3 (some .int) (d + 1) 0 0 [vP (some (12, 0)), vI a1, vI a2] h (fun r h2 => ∃ x, r = [vI x] ∧ Q x h2) := by
  exact Ct.of (by decide) (Nat.le_of_ble_eq_true rfl) fun E cx eq hl hY => s_X12_rides_0 cx hY eq (Nat.le_refl _) (Nat.le_refl _) w
def w_X12_count_60 (Q : Int32 → Hp → Prop) (a1 : Int32) (h : Hp) : Prop := Q (gI (h) 12 (0) (26)) (h)
def w_X12_count_65 (Q : Int32 → Hp → Prop) (a1 : Int32) (h : Hp) : Prop := Q (gI (h) 12 (0) (30)) (h)
def w_X12_count_70 (Q : Int32 → Hp → Prop) (a1 : Int32) (h : Hp) : Prop := Q (gI (h) 12 (0) (35)) (h)
def w_X12_count_75 (Q : Int32 → Hp → Prop) (a1 : Int32) (h : Hp) : Prop := Q (gI (h) 12 (0) (41)) (h)
def w_X12_count_80 (Q : Int32 → Hp → Prop) (a1 : Int32) (h : Hp) : Prop := Q (gI (h) 12 (0) (24)) (h)
def w_X12_count_91 (Q : Int32 → Hp → Prop) (a1 : Int32) (s0 : Int32) (h : Hp) : Prop := Q (s0) (h)
def w_X12_count_85 (Q : Int32 → Hp → Prop) (a1 : Int32) (h : Hp) : Prop := wp_X12_guestsThat ((2 : Int32)) ((4 : Int32)) (h) (fun r2 h2 => w_X12_count_91  Q (a1) (r2) (h2))
def w_X12_count_92 (Q : Int32 → Hp → Prop) (a1 : Int32) (h : Hp) : Prop := Q (gI (h) 12 (0) (55)) (h)
def w_X12_count_97 (Q : Int32 → Hp → Prop) (a1 : Int32) (h : Hp) : Prop := Q (gI (h) 12 (0) (56)) (h)
def w_X12_count_102 (Q : Int32 → Hp → Prop) (a1 : Int32) (h : Hp) : Prop := vp_in (gI (h) 12 (0) (15)) 2 ∧ (Q (gI (h) 110 (0) (tN (gI (h) 12 (0) (15)))) (h))
def w_X12_count_112 (Q : Int32 → Hp → Prop) (a1 : Int32) (h : Hp) : Prop := Q (gI (h) 12 (0) (2)) (h)
def w_X12_count_117 (Q : Int32 → Hp → Prop) (a1 : Int32) (h : Hp) : Prop := Q ((-1 : Int32)) (h)
def w_X12_count_0 (Q : Int32 → Hp → Prop) (a1 : Int32) (h : Hp) : Prop := ((a1).toInt < 0 ∨ 9 < (a1).toInt → w_X12_count_117  Q (a1) (wI (h) 12 (0) 0 ((0 : Int32)))) ∧ ((a1).toInt = 0 → w_X12_count_60  Q (a1) (wI (h) 12 (0) 0 ((0 : Int32)))) ∧ ((a1).toInt = 1 → w_X12_count_65  Q (a1) (wI (h) 12 (0) 0 ((0 : Int32)))) ∧ ((a1).toInt = 2 → w_X12_count_70  Q (a1) (wI (h) 12 (0) 0 ((0 : Int32)))) ∧ ((a1).toInt = 3 → w_X12_count_75  Q (a1) (wI (h) 12 (0) 0 ((0 : Int32)))) ∧ ((a1).toInt = 4 → w_X12_count_80  Q (a1) (wI (h) 12 (0) 0 ((0 : Int32)))) ∧ ((a1).toInt = 5 → w_X12_count_85  Q (a1) (wI (h) 12 (0) 0 ((0 : Int32)))) ∧ ((a1).toInt = 6 → w_X12_count_92  Q (a1) (wI (h) 12 (0) 0 ((0 : Int32)))) ∧ ((a1).toInt = 7 → w_X12_count_97  Q (a1) (wI (h) 12 (0) 0 ((0 : Int32)))) ∧ ((a1).toInt = 8 → w_X12_count_102  Q (a1) (wI (h) 12 (0) 0 ((0 : Int32)))) ∧ ((a1).toInt = 9 → w_X12_count_112  Q (a1) (wI (h) 12 (0) 0 ((0 : Int32))))
theorem s_X12_count_60 {E : EnvT} {d : Nat} (cx : CX E "ShoreDayModel" cX12_count 2 (some .int) "count" (d + 3) 0 0) (hY : eY E = lay1) {Q : Int32 → Hp → Prop} (eq : EQ E 0 0 (fun r h2 => ∃ x, r = [vI x] ∧ Q x h2)) {a1 : Int32} {h : Hp} {c n : Nat} (hc : c + 0 ≤ 0) (hn : n + 0 ≤ 0) (w : w_X12_count_60  Q a1 h) : SW E 60 ([some (vP (some (12, 0))), some (vI (a1))], [], h, c, n) := by
  exact k_X12_count_60 cx hY eq (by omega) (by omega) ⟨_, rfl, w⟩
theorem s_X12_count_65 {E : EnvT} {d : Nat} (cx : CX E "ShoreDayModel" cX12_count 2 (some .int) "count" (d + 3) 0 0) (hY : eY E = lay1) {Q : Int32 → Hp → Prop} (eq : EQ E 0 0 (fun r h2 => ∃ x, r = [vI x] ∧ Q x h2)) {a1 : Int32} {h : Hp} {c n : Nat} (hc : c + 0 ≤ 0) (hn : n + 0 ≤ 0) (w : w_X12_count_65  Q a1 h) : SW E 65 ([some (vP (some (12, 0))), some (vI (a1))], [], h, c, n) := by
  exact k_X12_count_65 cx hY eq (by omega) (by omega) ⟨_, rfl, w⟩
theorem s_X12_count_70 {E : EnvT} {d : Nat} (cx : CX E "ShoreDayModel" cX12_count 2 (some .int) "count" (d + 3) 0 0) (hY : eY E = lay1) {Q : Int32 → Hp → Prop} (eq : EQ E 0 0 (fun r h2 => ∃ x, r = [vI x] ∧ Q x h2)) {a1 : Int32} {h : Hp} {c n : Nat} (hc : c + 0 ≤ 0) (hn : n + 0 ≤ 0) (w : w_X12_count_70  Q a1 h) : SW E 70 ([some (vP (some (12, 0))), some (vI (a1))], [], h, c, n) := by
  exact k_X12_count_70 cx hY eq (by omega) (by omega) ⟨_, rfl, w⟩
theorem s_X12_count_75 {E : EnvT} {d : Nat} (cx : CX E "ShoreDayModel" cX12_count 2 (some .int) "count" (d + 3) 0 0) (hY : eY E = lay1) {Q : Int32 → Hp → Prop} (eq : EQ E 0 0 (fun r h2 => ∃ x, r = [vI x] ∧ Q x h2)) {a1 : Int32} {h : Hp} {c n : Nat} (hc : c + 0 ≤ 0) (hn : n + 0 ≤ 0) (w : w_X12_count_75  Q a1 h) : SW E 75 ([some (vP (some (12, 0))), some (vI (a1))], [], h, c, n) := by
  exact k_X12_count_75 cx hY eq (by omega) (by omega) ⟨_, rfl, w⟩
theorem s_X12_count_80 {E : EnvT} {d : Nat} (cx : CX E "ShoreDayModel" cX12_count 2 (some .int) "count" (d + 3) 0 0) (hY : eY E = lay1) {Q : Int32 → Hp → Prop} (eq : EQ E 0 0 (fun r h2 => ∃ x, r = [vI x] ∧ Q x h2)) {a1 : Int32} {h : Hp} {c n : Nat} (hc : c + 0 ≤ 0) (hn : n + 0 ≤ 0) (w : w_X12_count_80  Q a1 h) : SW E 80 ([some (vP (some (12, 0))), some (vI (a1))], [], h, c, n) := by
  exact k_X12_count_80 cx hY eq (by omega) (by omega) ⟨_, rfl, w⟩
theorem s_X12_count_91 {E : EnvT} {d : Nat} (cx : CX E "ShoreDayModel" cX12_count 2 (some .int) "count" (d + 3) 0 0) (hY : eY E = lay1) {Q : Int32 → Hp → Prop} (eq : EQ E 0 0 (fun r h2 => ∃ x, r = [vI x] ∧ Q x h2)) {a1 : Int32} {s0 : Int32} {h : Hp} {c n : Nat} (hc : c + 0 ≤ 0) (hn : n + 0 ≤ 0) (w : w_X12_count_91  Q a1 s0 h) : SW E 91 ([some (vP (some (12, 0))), some (vI (a1))], [vI (s0)], h, c, n) := by
  exact k_X12_count_91 cx hY eq (by omega) (by omega) ⟨_, rfl, w⟩
theorem s_X12_count_85 {E : EnvT} {d : Nat} (cx : CX E "ShoreDayModel" cX12_count 2 (some .int) "count" (d + 3) 0 0) (hY : eY E = lay1) {Q : Int32 → Hp → Prop} (eq : EQ E 0 0 (fun r h2 => ∃ x, r = [vI x] ∧ Q x h2)) {a1 : Int32} {h : Hp} {c n : Nat} (hc : c + 0 ≤ 0) (hn : n + 0 ≤ 0) (w : w_X12_count_85  Q a1 h) : SW E 85 ([some (vP (some (12, 0))), some (vI (a1))], [], h, c, n) := by
  refine k_X12_count_85 cx hY (ctY hY (vc_X12_guestsThat (d := d + 0) w)) (by omega) (by omega) (by omega) (fun r h2 hp => ?_)
  obtain ⟨r2, rfl, w⟩ := hp
  exact s_X12_count_91 cx hY eq  (by omega) (by omega) w
theorem s_X12_count_92 {E : EnvT} {d : Nat} (cx : CX E "ShoreDayModel" cX12_count 2 (some .int) "count" (d + 3) 0 0) (hY : eY E = lay1) {Q : Int32 → Hp → Prop} (eq : EQ E 0 0 (fun r h2 => ∃ x, r = [vI x] ∧ Q x h2)) {a1 : Int32} {h : Hp} {c n : Nat} (hc : c + 0 ≤ 0) (hn : n + 0 ≤ 0) (w : w_X12_count_92  Q a1 h) : SW E 92 ([some (vP (some (12, 0))), some (vI (a1))], [], h, c, n) := by
  exact k_X12_count_92 cx hY eq (by omega) (by omega) ⟨_, rfl, w⟩
theorem s_X12_count_97 {E : EnvT} {d : Nat} (cx : CX E "ShoreDayModel" cX12_count 2 (some .int) "count" (d + 3) 0 0) (hY : eY E = lay1) {Q : Int32 → Hp → Prop} (eq : EQ E 0 0 (fun r h2 => ∃ x, r = [vI x] ∧ Q x h2)) {a1 : Int32} {h : Hp} {c n : Nat} (hc : c + 0 ≤ 0) (hn : n + 0 ≤ 0) (w : w_X12_count_97  Q a1 h) : SW E 97 ([some (vP (some (12, 0))), some (vI (a1))], [], h, c, n) := by
  exact k_X12_count_97 cx hY eq (by omega) (by omega) ⟨_, rfl, w⟩
theorem s_X12_count_102 {E : EnvT} {d : Nat} (cx : CX E "ShoreDayModel" cX12_count 2 (some .int) "count" (d + 3) 0 0) (hY : eY E = lay1) {Q : Int32 → Hp → Prop} (eq : EQ E 0 0 (fun r h2 => ∃ x, r = [vI x] ∧ Q x h2)) {a1 : Int32} {h : Hp} {c n : Nat} (hc : c + 0 ≤ 0) (hn : n + 0 ≤ 0) (w : w_X12_count_102  Q a1 h) : SW E 102 ([some (vP (some (12, 0))), some (vI (a1))], [], h, c, n) := by
  obtain ⟨G1, w⟩ := w
  exact k_X12_count_102 cx hY G1 eq (by omega) (by omega) ⟨_, rfl, w⟩
theorem s_X12_count_112 {E : EnvT} {d : Nat} (cx : CX E "ShoreDayModel" cX12_count 2 (some .int) "count" (d + 3) 0 0) (hY : eY E = lay1) {Q : Int32 → Hp → Prop} (eq : EQ E 0 0 (fun r h2 => ∃ x, r = [vI x] ∧ Q x h2)) {a1 : Int32} {h : Hp} {c n : Nat} (hc : c + 0 ≤ 0) (hn : n + 0 ≤ 0) (w : w_X12_count_112  Q a1 h) : SW E 112 ([some (vP (some (12, 0))), some (vI (a1))], [], h, c, n) := by
  exact k_X12_count_112 cx hY eq (by omega) (by omega) ⟨_, rfl, w⟩
theorem s_X12_count_117 {E : EnvT} {d : Nat} (cx : CX E "ShoreDayModel" cX12_count 2 (some .int) "count" (d + 3) 0 0) (hY : eY E = lay1) {Q : Int32 → Hp → Prop} (eq : EQ E 0 0 (fun r h2 => ∃ x, r = [vI x] ∧ Q x h2)) {a1 : Int32} {h : Hp} {c n : Nat} (hc : c + 0 ≤ 0) (hn : n + 0 ≤ 0) (w : w_X12_count_117  Q a1 h) : SW E 117 ([some (vP (some (12, 0))), some (vI (a1))], [], h, c, n) := by
  exact k_X12_count_117 cx hY eq (by omega) (by omega) ⟨_, rfl, w⟩
theorem s_X12_count_0 {E : EnvT} {d : Nat} (cx : CX E "ShoreDayModel" cX12_count 2 (some .int) "count" (d + 3) 0 0) (hY : eY E = lay1) {Q : Int32 → Hp → Prop} (eq : EQ E 0 0 (fun r h2 => ∃ x, r = [vI x] ∧ Q x h2)) {a1 : Int32} {h : Hp} {c n : Nat} (hc : c + 0 ≤ 0) (hn : n + 0 ≤ 0) (w : w_X12_count_0  Q a1 h) : SW E 0 ([some (vP (some (12, 0))), some (vI (a1))], [], h, c, n) := by
  refine k_X12_count_0 cx hY (fun q => ?_) (fun j t hj q => ?_)
  · have w := w.1 q
    exact s_X12_count_117 cx hY eq  (by omega) (by omega) w
  · match j, hj, q with
    | 0, hj, q =>
      cases hj
      have w := w.2.1 (by omega)
      exact s_X12_count_60 cx hY eq  (by omega) (by omega) w
    | 1, hj, q =>
      cases hj
      have w := w.2.2.1 (by omega)
      exact s_X12_count_65 cx hY eq  (by omega) (by omega) w
    | 2, hj, q =>
      cases hj
      have w := w.2.2.2.1 (by omega)
      exact s_X12_count_70 cx hY eq  (by omega) (by omega) w
    | 3, hj, q =>
      cases hj
      have w := w.2.2.2.2.1 (by omega)
      exact s_X12_count_75 cx hY eq  (by omega) (by omega) w
    | 4, hj, q =>
      cases hj
      have w := w.2.2.2.2.2.1 (by omega)
      exact s_X12_count_80 cx hY eq  (by omega) (by omega) w
    | 5, hj, q =>
      cases hj
      have w := w.2.2.2.2.2.2.1 (by omega)
      exact s_X12_count_85 cx hY eq  (by omega) (by omega) w
    | 6, hj, q =>
      cases hj
      have w := w.2.2.2.2.2.2.2.1 (by omega)
      exact s_X12_count_92 cx hY eq  (by omega) (by omega) w
    | 7, hj, q =>
      cases hj
      have w := w.2.2.2.2.2.2.2.2.1 (by omega)
      exact s_X12_count_97 cx hY eq  (by omega) (by omega) w
    | 8, hj, q =>
      cases hj
      have w := w.2.2.2.2.2.2.2.2.2.1 (by omega)
      exact s_X12_count_102 cx hY eq  (by omega) (by omega) w
    | 9, hj, q =>
      cases hj
      have w := w.2.2.2.2.2.2.2.2.2.2 (by omega)
      exact s_X12_count_112 cx hY eq  (by omega) (by omega) w
    | j + 10, hj, _ => simp at hj
def wp_X12_count (a1 : Int32) (h : Hp) (Q : Int32 → Hp → Prop) : Prop := w_X12_count_0 Q a1 h
theorem vc_X12_count {l : Launch} {d : Nat} {a1 : Int32} {h : Hp} {Q : Int32 → Hp → Prop} (w : wp_X12_count a1 h Q) : Ct l lay1 yX12_count cX12_count 2 (some .int) (d + 3) 0 0 [vP (some (12, 0)), vI a1] h (fun r h2 => ∃ x, r = [vI x] ∧ Q x h2) := by
  exact Ct.of (by decide) (Nat.le_of_ble_eq_true rfl) fun E cx eq hl hY => s_X12_count_0 cx hY eq (Nat.le_refl _) (Nat.le_refl _) w
def w_X12_feed_21 (Q : Int32 → Hp → Prop) (b1 : Int64) (b3 : Int64) (b5 : Int64) (h : Hp) : Prop := Q (gI (h) 12 (0) (2)) (h)
def w_X12_feed_15 (Q : Int32 → Hp → Prop) (b1 : Int64) (b3 : Int64) (b5 : Int64) (h : Hp) : Prop := wp_X12_lay (b5) (h) (fun h2 => w_X12_feed_21  Q (b1) (b3) (b5) (h2))
def w_X12_feed_10 (Q : Int32 → Hp → Prop) (b1 : Int64) (b3 : Int64) (b5 : Int64) (h : Hp) : Prop := wp_X12_lay (b3) (h) (fun h2 => w_X12_feed_15  Q (b1) (b3) (b5) (h2))
def w_X12_feed_0 (Q : Int32 → Hp → Prop) (b1 : Int64) (b3 : Int64) (b5 : Int64) (h : Hp) : Prop := wp_X12_lay (b1) (wI (h) 12 (0) 0 ((0 : Int32))) (fun h2 => w_X12_feed_10  Q (b1) (b3) (b5) (h2))
theorem s_X12_feed_21 {E : EnvT} {d : Nat} (cx : CX E "ShoreDayModel" cX12_feed 7 (some .int) "feed" (d + 2) 0 0) (hY : eY E = lay1) {Q : Int32 → Hp → Prop} (eq : EQ E 0 0 (fun r h2 => ∃ x, r = [vI x] ∧ Q x h2)) {b1 : Int64} {x2 : Option AVal} {b3 : Int64} {x4 : Option AVal} {b5 : Int64} {x6 : Option AVal} {h : Hp} {c n : Nat} (hc : c + 0 ≤ 0) (hn : n + 0 ≤ 0) (w : w_X12_feed_21  Q b1 b3 b5 h) : SW E 21 ([some (vP (some (12, 0))), some (vL (b1)), x2, some (vL (b3)), x4, some (vL (b5)), x6], [], h, c, n) := by
  exact k_X12_feed_21 cx hY eq (by omega) (by omega) ⟨_, rfl, w⟩
theorem s_X12_feed_15 {E : EnvT} {d : Nat} (cx : CX E "ShoreDayModel" cX12_feed 7 (some .int) "feed" (d + 2) 0 0) (hY : eY E = lay1) {Q : Int32 → Hp → Prop} (eq : EQ E 0 0 (fun r h2 => ∃ x, r = [vI x] ∧ Q x h2)) {b1 : Int64} {x2 : Option AVal} {b3 : Int64} {x4 : Option AVal} {b5 : Int64} {x6 : Option AVal} {h : Hp} {c n : Nat} (hc : c + 0 ≤ 0) (hn : n + 0 ≤ 0) (w : w_X12_feed_15  Q b1 b3 b5 h) : SW E 15 ([some (vP (some (12, 0))), some (vL (b1)), x2, some (vL (b3)), x4, some (vL (b5)), x6], [], h, c, n) := by
  refine k_X12_feed_15 cx hY (ctY hY (vc_X12_lay (d := d + 0) w)) (by omega) (by omega) (by omega) (fun r h2 hp => ?_)
  obtain ⟨rfl, w⟩ := hp
  exact s_X12_feed_21 cx hY eq  (by omega) (by omega) w
theorem s_X12_feed_10 {E : EnvT} {d : Nat} (cx : CX E "ShoreDayModel" cX12_feed 7 (some .int) "feed" (d + 2) 0 0) (hY : eY E = lay1) {Q : Int32 → Hp → Prop} (eq : EQ E 0 0 (fun r h2 => ∃ x, r = [vI x] ∧ Q x h2)) {b1 : Int64} {x2 : Option AVal} {b3 : Int64} {x4 : Option AVal} {b5 : Int64} {x6 : Option AVal} {h : Hp} {c n : Nat} (hc : c + 0 ≤ 0) (hn : n + 0 ≤ 0) (w : w_X12_feed_10  Q b1 b3 b5 h) : SW E 10 ([some (vP (some (12, 0))), some (vL (b1)), x2, some (vL (b3)), x4, some (vL (b5)), x6], [], h, c, n) := by
  refine k_X12_feed_10 cx hY (ctY hY (vc_X12_lay (d := d + 0) w)) (by omega) (by omega) (by omega) (fun r h2 hp => ?_)
  obtain ⟨rfl, w⟩ := hp
  exact s_X12_feed_15 cx hY eq  (by omega) (by omega) w
theorem s_X12_feed_0 {E : EnvT} {d : Nat} (cx : CX E "ShoreDayModel" cX12_feed 7 (some .int) "feed" (d + 2) 0 0) (hY : eY E = lay1) {Q : Int32 → Hp → Prop} (eq : EQ E 0 0 (fun r h2 => ∃ x, r = [vI x] ∧ Q x h2)) {b1 : Int64} {x2 : Option AVal} {b3 : Int64} {x4 : Option AVal} {b5 : Int64} {x6 : Option AVal} {h : Hp} {c n : Nat} (hc : c + 0 ≤ 0) (hn : n + 0 ≤ 0) (w : w_X12_feed_0  Q b1 b3 b5 h) : SW E 0 ([some (vP (some (12, 0))), some (vL (b1)), x2, some (vL (b3)), x4, some (vL (b5)), x6], [], h, c, n) := by
  refine k_X12_feed_0 cx hY (ctY hY (vc_X12_lay (d := d + 0) w)) (by omega) (by omega) (by omega) (fun r h2 hp => ?_)
  obtain ⟨rfl, w⟩ := hp
  exact s_X12_feed_10 cx hY eq  (by omega) (by omega) w
def wp_X12_feed (b1 : Int64) (b3 : Int64) (b5 : Int64) (h : Hp) (Q : Int32 → Hp → Prop) : Prop := w_X12_feed_0 Q b1 b3 b5 h
theorem vc_X12_feed {l : Launch} {d : Nat} {b1 : Int64} {b3 : Int64} {b5 : Int64} {h : Hp} {Q : Int32 → Hp → Prop} (w : wp_X12_feed b1 b3 b5 h Q) : Ct l lay1 yX12_feed cX12_feed 7 (some .int) (d + 2) 0 0 [vP (some (12, 0)), vL b1, vL b3, vL b5] h (fun r h2 => ∃ x, r = [vI x] ∧ Q x h2) := by
  exact Ct.of (by decide) (Nat.le_of_ble_eq_true rfl) fun E cx eq hl hY => s_X12_feed_0 cx hY eq (Nat.le_refl _) (Nat.le_refl _) w
def w_X12_line_231 (Q : Hp → Prop) (a1 : Int32) (a2 : Int32) (h : Hp) : Prop := vp_in (gI (h) 12 (0) (16)) 2 ∧ (vp_in (gI (h) 12 (0) (16)) 2 ∧ (Q (wI (h) 110 (0) (tN (gI (h) 12 (0) (16))) ((gI (h) 110 (0) (tN (gI (h) 12 (0) (16)))) + ((1 : Int32))))))
def w_X12_line_225 (Q : Hp → Prop) (a1 : Int32) (a2 : Int32) (h : Hp) : Prop := wp_X12_takeSign ((59 : Int32)) (h) (fun h2 => w_X12_line_231  Q (a1) (a2) (h2))
def w_X12_line_219 (Q : Hp → Prop) (a1 : Int32) (a2 : Int32) (h : Hp) : Prop := wp_X12_emit ((0 : Int32)) ((0 : Int32)) (h) (fun h2 => w_X12_line_225  Q (a1) (a2) (h2))
def w_X12_line_215 (K185 : Int32 → Int32 → Hp → Prop) (Q : Hp → Prop) (a1 : Int32) (a2 : Int32) (s0 : Int32) (h : Hp) : Prop := K185 (a1) (s0) (h)
def w_X12_line_210 (K185 : Int32 → Int32 → Hp → Prop) (Q : Hp → Prop) (a1 : Int32) (a2 : Int32) (h : Hp) : Prop := w_X12_line_215 K185 Q (a1) (a2) ((1 : Int32)) (h)
def w_X12_line_214 (K185 : Int32 → Int32 → Hp → Prop) (Q : Hp → Prop) (a1 : Int32) (a2 : Int32) (h : Hp) : Prop := w_X12_line_215 K185 Q (a1) (a2) ((0 : Int32)) (h)
def w_X12_line_207 (K185 : Int32 → Int32 → Hp → Prop) (Q : Hp → Prop) (a1 : Int32) (a2 : Int32) (s0 : Int32) (h : Hp) : Prop := ((s0) = 0 → w_X12_line_214 K185 Q (a1) (a2) (h)) ∧ (¬ (s0) = 0 → w_X12_line_210 K185 Q (a1) (a2) (h))
def w_X12_line_203 (K185 : Int32 → Int32 → Hp → Prop) (Q : Hp → Prop) (a1 : Int32) (a2 : Int32) (h : Hp) : Prop := wp_X12_goesOnBehind  (h) (fun r2 h2 => w_X12_line_207 K185 Q (a1) (a2) (r2) (h2))
def w_X12_line_200 (K185 : Int32 → Int32 → Hp → Prop) (Q : Hp → Prop) (a1 : Int32) (a2 : Int32) (s0 : Int32) (h : Hp) : Prop := (¬ (s0) = 0 → w_X12_line_210 K185 Q (a1) (a2) (h)) ∧ ((s0) = 0 → w_X12_line_203 K185 Q (a1) (a2) (h))
def w_X12_line_196 (K185 : Int32 → Int32 → Hp → Prop) (Q : Hp → Prop) (a1 : Int32) (a2 : Int32) (h : Hp) : Prop := wp_X12_part  (h) (fun r2 h2 => w_X12_line_200 K185 Q (a1) (a2) (r2) (h2))
def w_X12_line_189 (K185 : Int32 → Int32 → Hp → Prop) (Q : Hp → Prop) (a1 : Int32) (a2 : Int32) (h : Hp) : Prop := (¬ (gI (h) 12 (0) (8)) = 0 → w_X12_line_219  Q (a1) (a2) (h)) ∧ ((gI (h) 12 (0) (8)) = 0 → w_X12_line_196 K185 Q (a1) (a2) (h))
def w_X12_line_185 (Q : Hp → Prop) : Nat → Int32 → Int32 → Hp → Prop
  | 0 => fun _ _ _ => False
  | N + 1 => fun a1 a2 h => ((a2) = 0 → w_X12_line_219  Q (a1) (a2) (h)) ∧ (¬ (a2) = 0 → w_X12_line_189 (w_X12_line_185  Q N) Q (a1) (a2) (h))
def w_X12_line_183 (Q : Hp → Prop) (a1 : Int32) (h : Hp) : Prop := ∃ N, w_X12_line_185  Q N (a1) ((1 : Int32)) (h)
def w_X12_line_155 (Q : Hp → Prop) (a1 : Int32) (h : Hp) : Prop := vp_in (a1) 32 ∧ (wp_X12_opens  (wI (wI (h) 112 (0) (tN (a1)) ((((660 : Int32)) * (gI (h) 12 (0) (16))) + (gI (h) 12 (0) (17)))) 12 (0) 18 ((0 : Int32))) (fun h2 => w_X12_line_183  Q (a1) (h2)))
def w_X12_line_139 (Q : Hp → Prop) (a1 : Int32) (s1 : Int32) (s2 : Int32) (h : Hp) : Prop := vp_in (s1) 32 ∧ (wp_X12_takeWord ((1 : Int32)) (wI (wI (h) 111 (0) (tN (s1)) (s2)) 12 (0) 7 ((gI (wI (h) 111 (0) (tN (s1)) (s2)) 12 (0) (7)) + ((1 : Int32)))) (fun h2 => w_X12_line_155  Q (a1) (h2)))
def w_X12_line_129 (Q : Hp → Prop) (a1 : Int32) (s1 : Int32) (h : Hp) : Prop := vp_in (gI (h) 12 (0) (7)) 602 ∧ (w_X12_line_139  Q (a1) (s1) ((gL (h) 106 (0) (tN (gI (h) 12 (0) (7)))).toInt32) (h))
def w_X12_line_125 (Q : Hp → Prop) (a1 : Int32) (s1 : Int32) (h : Hp) : Prop := w_X12_line_139  Q (a1) (s1) ((0 : Int32)) (h)
def w_X12_line_113 (Q : Hp → Prop) (a1 : Int32) (h : Hp) : Prop := ((gI (h) 12 (0) (8)) ≤ 0 → w_X12_line_129  Q (a1) (a1) (h)) ∧ (¬ (gI (h) 12 (0) (8)) ≤ 0 → w_X12_line_125  Q (a1) (a1) (h))
def w_X12_line_108 (Q : Hp → Prop) (a1 : Int32) (h : Hp) : Prop := wp_X12_wrong ((4 : Int32)) (h) (fun h2 => w_X12_line_113  Q (a1) (h2))
def w_X12_line_92 (Q : Hp → Prop) (a1 : Int32) (h : Hp) : Prop := vp_in (gI (h) 12 (0) (7)) 602 ∧ (((lg_cmp (gL (h) 106 (0) (tN (gI (h) 12 (0) (7)))) ((999 : Int64))) ≤ 0 → w_X12_line_113  Q (a1) (h)) ∧ (¬ (lg_cmp (gL (h) 106 (0) (tN (gI (h) 12 (0) (7)))) ((999 : Int64))) ≤ 0 → w_X12_line_108  Q (a1) (h)))
def w_X12_line_89 (Q : Hp → Prop) (a1 : Int32) (h : Hp) : Prop := w_X12_line_113  Q (a1) (h)
def w_X12_line_84 (Q : Hp → Prop) (a1 : Int32) (h : Hp) : Prop := wp_X12_wrong ((1 : Int32)) (h) (fun h2 => w_X12_line_89  Q (a1) (h2))
def w_X12_line_68 (Q : Hp → Prop) (s0 : Int32) (s2 : Int32) (h : Hp) : Prop := vp_in (s2) 2 ∧ (vp_in (gI (h) 12 (0) (7)) 602 ∧ (((gI (h) 104 (0) (tN (gI (h) 12 (0) (7)))) = ((2 : Int32)) → w_X12_line_92  Q ((s0) + (gI (h) 110 (0) (tN (s2)))) (h)) ∧ (¬ (gI (h) 104 (0) (tN (gI (h) 12 (0) (7)))) = ((2 : Int32)) → w_X12_line_84  Q ((s0) + (gI (h) 110 (0) (tN (s2)))) (h))))
def w_X12_line_43 (Q : Hp → Prop) (h : Hp) : Prop := w_X12_line_68  Q (((16 : Int32)) * (gI (wI (h) 12 (0) 7 ((gI (h) 12 (0) (7)) + ((1 : Int32)))) 12 (0) (16))) (gI (wI (h) 12 (0) 7 ((gI (h) 12 (0) (7)) + ((1 : Int32)))) 12 (0) (16)) (wI (h) 12 (0) 7 ((gI (h) 12 (0) (7)) + ((1 : Int32))))
def w_X12_line_42 (Q : Hp → Prop) (h : Hp) : Prop := Q (h)
def w_X12_line_35 (Q : Hp → Prop) (h : Hp) : Prop := ((gI (h) 12 (0) (8)) ≤ 0 → w_X12_line_43  Q (h)) ∧ (¬ (gI (h) 12 (0) (8)) ≤ 0 → w_X12_line_42  Q (h))
def w_X12_line_30 (Q : Hp → Prop) (h : Hp) : Prop := wp_X12_wrong ((5 : Int32)) (h) (fun h2 => w_X12_line_35  Q (h2))
def w_X12_line_16 (Q : Hp → Prop) (h : Hp) : Prop := vp_in (gI (h) 12 (0) (16)) 2 ∧ ((¬ (gI (h) 110 (0) (tN (gI (h) 12 (0) (16)))) = ((16 : Int32)) → w_X12_line_35  Q (h)) ∧ ((gI (h) 110 (0) (tN (gI (h) 12 (0) (16)))) = ((16 : Int32)) → w_X12_line_30  Q (h)))
def w_X12_line_13 (Q : Hp → Prop) (h : Hp) : Prop := w_X12_line_35  Q (h)
def w_X12_line_8 (Q : Hp → Prop) (h : Hp) : Prop := wp_X12_wrong ((1 : Int32)) (h) (fun h2 => w_X12_line_13  Q (h2))
def w_X12_line_5 (Q : Hp → Prop) (s0 : Int32) (h : Hp) : Prop := (¬ (s0) = 0 → w_X12_line_16  Q (h)) ∧ ((s0) = 0 → w_X12_line_8  Q (h))
def w_X12_line_0 (Q : Hp → Prop) (h : Hp) : Prop := wp_X12_isWord ((0 : Int32)) (h) (fun r2 h2 => w_X12_line_5  Q (r2) (h2))
theorem s_X12_line_231 {E : EnvT} {d : Nat} (cx : CX E "ShoreDayModel" cX12_line 3 none "line" (d + 4) 0 0) (hY : eY E = lay1) {Q : Hp → Prop} (eq : EQ E 0 0 (fun r h2 => r = [] ∧ Q h2)) {a1 : Int32} {a2 : Int32} {h : Hp} {c n : Nat} (hc : c + 0 ≤ 0) (hn : n + 0 ≤ 0) (w : w_X12_line_231  Q a1 a2 h) : SW E 231 ([some (vP (some (12, 0))), some (vI (a1)), some (vI (a2))], [], h, c, n) := by
  obtain ⟨G1, G2, w⟩ := w
  exact k_X12_line_231 cx hY G1 G2 eq (by omega) (by omega) ⟨rfl, w⟩
theorem s_X12_line_225 {E : EnvT} {d : Nat} (cx : CX E "ShoreDayModel" cX12_line 3 none "line" (d + 4) 0 0) (hY : eY E = lay1) {Q : Hp → Prop} (eq : EQ E 0 0 (fun r h2 => r = [] ∧ Q h2)) {a1 : Int32} {a2 : Int32} {h : Hp} {c n : Nat} (hc : c + 0 ≤ 0) (hn : n + 0 ≤ 0) (w : w_X12_line_225  Q a1 a2 h) : SW E 225 ([some (vP (some (12, 0))), some (vI (a1)), some (vI (a2))], [], h, c, n) := by
  refine k_X12_line_225 cx hY (ctY hY (vc_X12_takeSign (d := d + 1) w)) (by omega) (by omega) (by omega) (fun r h2 hp => ?_)
  obtain ⟨rfl, w⟩ := hp
  exact s_X12_line_231 cx hY eq  (by omega) (by omega) w
theorem s_X12_line_219 {E : EnvT} {d : Nat} (cx : CX E "ShoreDayModel" cX12_line 3 none "line" (d + 4) 0 0) (hY : eY E = lay1) {Q : Hp → Prop} (eq : EQ E 0 0 (fun r h2 => r = [] ∧ Q h2)) {a1 : Int32} {a2 : Int32} {h : Hp} {c n : Nat} (hc : c + 0 ≤ 0) (hn : n + 0 ≤ 0) (w : w_X12_line_219  Q a1 a2 h) : SW E 219 ([some (vP (some (12, 0))), some (vI (a1)), some (vI (a2))], [], h, c, n) := by
  refine k_X12_line_219 cx hY (ctY hY (vc_X12_emit (d := d + 2) w)) (by omega) (by omega) (by omega) (fun r h2 hp => ?_)
  obtain ⟨rfl, w⟩ := hp
  exact s_X12_line_225 cx hY eq  (by omega) (by omega) w
theorem s_X12_line_215 {E : EnvT} {d : Nat} (cx : CX E "ShoreDayModel" cX12_line 3 none "line" (d + 4) 0 0) (hY : eY E = lay1) {Q : Hp → Prop} (eq : EQ E 0 0 (fun r h2 => r = [] ∧ Q h2)) {K185 : Int32 → Int32 → Hp → Prop} (hK185 : ∀ (a1 : Int32) (a2 : Int32) (h : Hp) (c n : Nat), c + 0 ≤ 0 → n + 0 ≤ 0 → K185 a1 a2 h → SW E 185 ([some (vP (some (12, 0))), some (vI (a1)), some (vI (a2))], [], h, c, n)) {a1 : Int32} {a2 : Int32} {s0 : Int32} {h : Hp} {c n : Nat} (hc : c + 0 ≤ 0) (hn : n + 0 ≤ 0) (w : w_X12_line_215 K185 Q a1 a2 s0 h) : SW E 215 ([some (vP (some (12, 0))), some (vI (a1)), some (vI (a2))], [vI (s0)], h, c, n) := by
  refine k_X12_line_215 cx hY ?_
  exact hK185 _ _ _ _ _ (by omega) (by omega) w
theorem s_X12_line_210 {E : EnvT} {d : Nat} (cx : CX E "ShoreDayModel" cX12_line 3 none "line" (d + 4) 0 0) (hY : eY E = lay1) {Q : Hp → Prop} (eq : EQ E 0 0 (fun r h2 => r = [] ∧ Q h2)) {K185 : Int32 → Int32 → Hp → Prop} (hK185 : ∀ (a1 : Int32) (a2 : Int32) (h : Hp) (c n : Nat), c + 0 ≤ 0 → n + 0 ≤ 0 → K185 a1 a2 h → SW E 185 ([some (vP (some (12, 0))), some (vI (a1)), some (vI (a2))], [], h, c, n)) {a1 : Int32} {a2 : Int32} {h : Hp} {c n : Nat} (hc : c + 0 ≤ 0) (hn : n + 0 ≤ 0) (w : w_X12_line_210 K185 Q a1 a2 h) : SW E 210 ([some (vP (some (12, 0))), some (vI (a1)), some (vI (a2))], [], h, c, n) := by
  refine k_X12_line_210 cx hY ?_
  exact s_X12_line_215 cx hY eq hK185 (by omega) (by omega) w
theorem s_X12_line_214 {E : EnvT} {d : Nat} (cx : CX E "ShoreDayModel" cX12_line 3 none "line" (d + 4) 0 0) (hY : eY E = lay1) {Q : Hp → Prop} (eq : EQ E 0 0 (fun r h2 => r = [] ∧ Q h2)) {K185 : Int32 → Int32 → Hp → Prop} (hK185 : ∀ (a1 : Int32) (a2 : Int32) (h : Hp) (c n : Nat), c + 0 ≤ 0 → n + 0 ≤ 0 → K185 a1 a2 h → SW E 185 ([some (vP (some (12, 0))), some (vI (a1)), some (vI (a2))], [], h, c, n)) {a1 : Int32} {a2 : Int32} {h : Hp} {c n : Nat} (hc : c + 0 ≤ 0) (hn : n + 0 ≤ 0) (w : w_X12_line_214 K185 Q a1 a2 h) : SW E 214 ([some (vP (some (12, 0))), some (vI (a1)), some (vI (a2))], [], h, c, n) := by
  refine k_X12_line_214 cx hY ?_
  exact s_X12_line_215 cx hY eq hK185 (by omega) (by omega) w
theorem s_X12_line_207 {E : EnvT} {d : Nat} (cx : CX E "ShoreDayModel" cX12_line 3 none "line" (d + 4) 0 0) (hY : eY E = lay1) {Q : Hp → Prop} (eq : EQ E 0 0 (fun r h2 => r = [] ∧ Q h2)) {K185 : Int32 → Int32 → Hp → Prop} (hK185 : ∀ (a1 : Int32) (a2 : Int32) (h : Hp) (c n : Nat), c + 0 ≤ 0 → n + 0 ≤ 0 → K185 a1 a2 h → SW E 185 ([some (vP (some (12, 0))), some (vI (a1)), some (vI (a2))], [], h, c, n)) {a1 : Int32} {a2 : Int32} {s0 : Int32} {h : Hp} {c n : Nat} (hc : c + 0 ≤ 0) (hn : n + 0 ≤ 0) (w : w_X12_line_207 K185 Q a1 a2 s0 h) : SW E 207 ([some (vP (some (12, 0))), some (vI (a1)), some (vI (a2))], [vI (s0)], h, c, n) := by
  refine k_X12_line_207 cx hY (fun q => ?_) (fun q => ?_)
  · have w := w.1 q
    exact s_X12_line_214 cx hY eq hK185 (by omega) (by omega) w
  · have w := w.2 q
    exact s_X12_line_210 cx hY eq hK185 (by omega) (by omega) w
theorem s_X12_line_203 {E : EnvT} {d : Nat} (cx : CX E "ShoreDayModel" cX12_line 3 none "line" (d + 4) 0 0) (hY : eY E = lay1) {Q : Hp → Prop} (eq : EQ E 0 0 (fun r h2 => r = [] ∧ Q h2)) {K185 : Int32 → Int32 → Hp → Prop} (hK185 : ∀ (a1 : Int32) (a2 : Int32) (h : Hp) (c n : Nat), c + 0 ≤ 0 → n + 0 ≤ 0 → K185 a1 a2 h → SW E 185 ([some (vP (some (12, 0))), some (vI (a1)), some (vI (a2))], [], h, c, n)) {a1 : Int32} {a2 : Int32} {h : Hp} {c n : Nat} (hc : c + 0 ≤ 0) (hn : n + 0 ≤ 0) (w : w_X12_line_203 K185 Q a1 a2 h) : SW E 203 ([some (vP (some (12, 0))), some (vI (a1)), some (vI (a2))], [], h, c, n) := by
  refine k_X12_line_203 cx hY (ctY hY (vc_X12_goesOnBehind (d := d + 0) w)) (by omega) (by omega) (by omega) (fun r h2 hp => ?_)
  obtain ⟨r2, rfl, w⟩ := hp
  exact s_X12_line_207 cx hY eq hK185 (by omega) (by omega) w
theorem s_X12_line_200 {E : EnvT} {d : Nat} (cx : CX E "ShoreDayModel" cX12_line 3 none "line" (d + 4) 0 0) (hY : eY E = lay1) {Q : Hp → Prop} (eq : EQ E 0 0 (fun r h2 => r = [] ∧ Q h2)) {K185 : Int32 → Int32 → Hp → Prop} (hK185 : ∀ (a1 : Int32) (a2 : Int32) (h : Hp) (c n : Nat), c + 0 ≤ 0 → n + 0 ≤ 0 → K185 a1 a2 h → SW E 185 ([some (vP (some (12, 0))), some (vI (a1)), some (vI (a2))], [], h, c, n)) {a1 : Int32} {a2 : Int32} {s0 : Int32} {h : Hp} {c n : Nat} (hc : c + 0 ≤ 0) (hn : n + 0 ≤ 0) (w : w_X12_line_200 K185 Q a1 a2 s0 h) : SW E 200 ([some (vP (some (12, 0))), some (vI (a1)), some (vI (a2))], [vI (s0)], h, c, n) := by
  refine k_X12_line_200 cx hY (fun q => ?_) (fun q => ?_)
  · have w := w.1 q
    exact s_X12_line_210 cx hY eq hK185 (by omega) (by omega) w
  · have w := w.2 q
    exact s_X12_line_203 cx hY eq hK185 (by omega) (by omega) w
theorem s_X12_line_196 {E : EnvT} {d : Nat} (cx : CX E "ShoreDayModel" cX12_line 3 none "line" (d + 4) 0 0) (hY : eY E = lay1) {Q : Hp → Prop} (eq : EQ E 0 0 (fun r h2 => r = [] ∧ Q h2)) {K185 : Int32 → Int32 → Hp → Prop} (hK185 : ∀ (a1 : Int32) (a2 : Int32) (h : Hp) (c n : Nat), c + 0 ≤ 0 → n + 0 ≤ 0 → K185 a1 a2 h → SW E 185 ([some (vP (some (12, 0))), some (vI (a1)), some (vI (a2))], [], h, c, n)) {a1 : Int32} {a2 : Int32} {h : Hp} {c n : Nat} (hc : c + 0 ≤ 0) (hn : n + 0 ≤ 0) (w : w_X12_line_196 K185 Q a1 a2 h) : SW E 196 ([some (vP (some (12, 0))), some (vI (a1)), some (vI (a2))], [], h, c, n) := by
  refine k_X12_line_196 cx hY (ctY hY (vc_X12_part (d := d + 0) w)) (by omega) (by omega) (by omega) (fun r h2 hp => ?_)
  obtain ⟨r2, rfl, w⟩ := hp
  exact s_X12_line_200 cx hY eq hK185 (by omega) (by omega) w
theorem s_X12_line_189 {E : EnvT} {d : Nat} (cx : CX E "ShoreDayModel" cX12_line 3 none "line" (d + 4) 0 0) (hY : eY E = lay1) {Q : Hp → Prop} (eq : EQ E 0 0 (fun r h2 => r = [] ∧ Q h2)) {K185 : Int32 → Int32 → Hp → Prop} (hK185 : ∀ (a1 : Int32) (a2 : Int32) (h : Hp) (c n : Nat), c + 0 ≤ 0 → n + 0 ≤ 0 → K185 a1 a2 h → SW E 185 ([some (vP (some (12, 0))), some (vI (a1)), some (vI (a2))], [], h, c, n)) {a1 : Int32} {a2 : Int32} {h : Hp} {c n : Nat} (hc : c + 0 ≤ 0) (hn : n + 0 ≤ 0) (w : w_X12_line_189 K185 Q a1 a2 h) : SW E 189 ([some (vP (some (12, 0))), some (vI (a1)), some (vI (a2))], [], h, c, n) := by
  refine k_X12_line_189 cx hY (fun q => ?_) (fun q => ?_)
  · have w := w.1 q
    exact s_X12_line_219 cx hY eq  (by omega) (by omega) w
  · have w := w.2 q
    exact s_X12_line_196 cx hY eq hK185 (by omega) (by omega) w
theorem s_X12_line_185 {E : EnvT} {d : Nat} (cx : CX E "ShoreDayModel" cX12_line 3 none "line" (d + 4) 0 0) (hY : eY E = lay1) {Q : Hp → Prop} (eq : EQ E 0 0 (fun r h2 => r = [] ∧ Q h2)) : ∀ (N : Nat) (a1 : Int32) (a2 : Int32) (h : Hp) (c n : Nat), c + 0 ≤ 0 → n + 0 ≤ 0 → w_X12_line_185  Q N a1 a2 h → SW E 185 ([some (vP (some (12, 0))), some (vI (a1)), some (vI (a2))], [], h, c, n) := by
  intro N
  induction N with
  | zero =>
    intro _ _ h c n _ _ w
    exact w.elim
  | succ N ih =>
    intro a1 a2 h c n hc hn w
    refine k_X12_line_185 cx hY (fun q => ?_) (fun q => ?_)
    · have w := w.1 q
      exact s_X12_line_219 cx hY eq  (by omega) (by omega) w
    · have w := w.2 q
      exact s_X12_line_189 cx hY eq ih (by omega) (by omega) w
theorem s_X12_line_183 {E : EnvT} {d : Nat} (cx : CX E "ShoreDayModel" cX12_line 3 none "line" (d + 4) 0 0) (hY : eY E = lay1) {Q : Hp → Prop} (eq : EQ E 0 0 (fun r h2 => r = [] ∧ Q h2)) {a1 : Int32} {x2 : Option AVal} {h : Hp} {c n : Nat} (hc : c + 0 ≤ 0) (hn : n + 0 ≤ 0) (w : w_X12_line_183  Q a1 h) : SW E 183 ([some (vP (some (12, 0))), some (vI (a1)), x2], [], h, c, n) := by
  refine k_X12_line_183 cx hY ?_
  obtain ⟨N1, w⟩ := w
  exact s_X12_line_185 cx hY eq  _ _ _ _ _ _ (by omega) (by omega) w
theorem s_X12_line_155 {E : EnvT} {d : Nat} (cx : CX E "ShoreDayModel" cX12_line 3 none "line" (d + 4) 0 0) (hY : eY E = lay1) {Q : Hp → Prop} (eq : EQ E 0 0 (fun r h2 => r = [] ∧ Q h2)) {a1 : Int32} {x2 : Option AVal} {h : Hp} {c n : Nat} (hc : c + 0 ≤ 0) (hn : n + 0 ≤ 0) (w : w_X12_line_155  Q a1 h) : SW E 155 ([some (vP (some (12, 0))), some (vI (a1)), x2], [], h, c, n) := by
  obtain ⟨G1, w⟩ := w
  refine k_X12_line_155 cx hY G1 (ctY hY (vc_X12_opens (d := d + 2) w)) (by omega) (by omega) (by omega) (fun r h2 hp => ?_)
  obtain ⟨rfl, w⟩ := hp
  exact s_X12_line_183 cx hY eq  (by omega) (by omega) w
theorem s_X12_line_139 {E : EnvT} {d : Nat} (cx : CX E "ShoreDayModel" cX12_line 3 none "line" (d + 4) 0 0) (hY : eY E = lay1) {Q : Hp → Prop} (eq : EQ E 0 0 (fun r h2 => r = [] ∧ Q h2)) {a1 : Int32} {x2 : Option AVal} {s1 : Int32} {s2 : Int32} {h : Hp} {c n : Nat} (hc : c + 0 ≤ 0) (hn : n + 0 ≤ 0) (w : w_X12_line_139  Q a1 s1 s2 h) : SW E 139 ([some (vP (some (12, 0))), some (vI (a1)), x2], [vI (s2), vI (s1), vP (some (111, 0))], h, c, n) := by
  obtain ⟨G1, w⟩ := w
  refine k_X12_line_139 cx hY G1 (ctY hY (vc_X12_takeWord (d := d + 0) w)) (by omega) (by omega) (by omega) (fun r h2 hp => ?_)
  obtain ⟨rfl, w⟩ := hp
  exact s_X12_line_155 cx hY eq  (by omega) (by omega) w
theorem s_X12_line_129 {E : EnvT} {d : Nat} (cx : CX E "ShoreDayModel" cX12_line 3 none "line" (d + 4) 0 0) (hY : eY E = lay1) {Q : Hp → Prop} (eq : EQ E 0 0 (fun r h2 => r = [] ∧ Q h2)) {a1 : Int32} {x2 : Option AVal} {s1 : Int32} {h : Hp} {c n : Nat} (hc : c + 0 ≤ 0) (hn : n + 0 ≤ 0) (w : w_X12_line_129  Q a1 s1 h) : SW E 129 ([some (vP (some (12, 0))), some (vI (a1)), x2], [vI (s1), vP (some (111, 0))], h, c, n) := by
  obtain ⟨G1, w⟩ := w
  refine k_X12_line_129 cx hY G1 ?_
  exact s_X12_line_139 cx hY eq  (by omega) (by omega) w
theorem s_X12_line_125 {E : EnvT} {d : Nat} (cx : CX E "ShoreDayModel" cX12_line 3 none "line" (d + 4) 0 0) (hY : eY E = lay1) {Q : Hp → Prop} (eq : EQ E 0 0 (fun r h2 => r = [] ∧ Q h2)) {a1 : Int32} {x2 : Option AVal} {s1 : Int32} {h : Hp} {c n : Nat} (hc : c + 0 ≤ 0) (hn : n + 0 ≤ 0) (w : w_X12_line_125  Q a1 s1 h) : SW E 125 ([some (vP (some (12, 0))), some (vI (a1)), x2], [vI (s1), vP (some (111, 0))], h, c, n) := by
  refine k_X12_line_125 cx hY ?_
  exact s_X12_line_139 cx hY eq  (by omega) (by omega) w
theorem s_X12_line_113 {E : EnvT} {d : Nat} (cx : CX E "ShoreDayModel" cX12_line 3 none "line" (d + 4) 0 0) (hY : eY E = lay1) {Q : Hp → Prop} (eq : EQ E 0 0 (fun r h2 => r = [] ∧ Q h2)) {a1 : Int32} {x2 : Option AVal} {h : Hp} {c n : Nat} (hc : c + 0 ≤ 0) (hn : n + 0 ≤ 0) (w : w_X12_line_113  Q a1 h) : SW E 113 ([some (vP (some (12, 0))), some (vI (a1)), x2], [], h, c, n) := by
  refine k_X12_line_113 cx hY (fun q => ?_) (fun q => ?_)
  · have w := w.1 q
    exact s_X12_line_129 cx hY eq  (by omega) (by omega) w
  · have w := w.2 q
    exact s_X12_line_125 cx hY eq  (by omega) (by omega) w
theorem s_X12_line_108 {E : EnvT} {d : Nat} (cx : CX E "ShoreDayModel" cX12_line 3 none "line" (d + 4) 0 0) (hY : eY E = lay1) {Q : Hp → Prop} (eq : EQ E 0 0 (fun r h2 => r = [] ∧ Q h2)) {a1 : Int32} {x2 : Option AVal} {h : Hp} {c n : Nat} (hc : c + 0 ≤ 0) (hn : n + 0 ≤ 0) (w : w_X12_line_108  Q a1 h) : SW E 108 ([some (vP (some (12, 0))), some (vI (a1)), x2], [], h, c, n) := by
  refine k_X12_line_108 cx hY (ctY hY (vc_X12_wrong (d := d + 2) w)) (by omega) (by omega) (by omega) (fun r h2 hp => ?_)
  obtain ⟨rfl, w⟩ := hp
  exact s_X12_line_113 cx hY eq  (by omega) (by omega) w
theorem s_X12_line_92 {E : EnvT} {d : Nat} (cx : CX E "ShoreDayModel" cX12_line 3 none "line" (d + 4) 0 0) (hY : eY E = lay1) {Q : Hp → Prop} (eq : EQ E 0 0 (fun r h2 => r = [] ∧ Q h2)) {a1 : Int32} {x2 : Option AVal} {h : Hp} {c n : Nat} (hc : c + 0 ≤ 0) (hn : n + 0 ≤ 0) (w : w_X12_line_92  Q a1 h) : SW E 92 ([some (vP (some (12, 0))), some (vI (a1)), x2], [], h, c, n) := by
  obtain ⟨G1, w⟩ := w
  refine k_X12_line_92 cx hY G1 (fun q => ?_) (fun q => ?_)
  · have w := w.1 q
    exact s_X12_line_113 cx hY eq  (by omega) (by omega) w
  · have w := w.2 q
    exact s_X12_line_108 cx hY eq  (by omega) (by omega) w
theorem s_X12_line_89 {E : EnvT} {d : Nat} (cx : CX E "ShoreDayModel" cX12_line 3 none "line" (d + 4) 0 0) (hY : eY E = lay1) {Q : Hp → Prop} (eq : EQ E 0 0 (fun r h2 => r = [] ∧ Q h2)) {a1 : Int32} {x2 : Option AVal} {h : Hp} {c n : Nat} (hc : c + 0 ≤ 0) (hn : n + 0 ≤ 0) (w : w_X12_line_89  Q a1 h) : SW E 89 ([some (vP (some (12, 0))), some (vI (a1)), x2], [], h, c, n) := by
  refine k_X12_line_89 cx hY ?_
  exact s_X12_line_113 cx hY eq  (by omega) (by omega) w
theorem s_X12_line_84 {E : EnvT} {d : Nat} (cx : CX E "ShoreDayModel" cX12_line 3 none "line" (d + 4) 0 0) (hY : eY E = lay1) {Q : Hp → Prop} (eq : EQ E 0 0 (fun r h2 => r = [] ∧ Q h2)) {a1 : Int32} {x2 : Option AVal} {h : Hp} {c n : Nat} (hc : c + 0 ≤ 0) (hn : n + 0 ≤ 0) (w : w_X12_line_84  Q a1 h) : SW E 84 ([some (vP (some (12, 0))), some (vI (a1)), x2], [], h, c, n) := by
  refine k_X12_line_84 cx hY (ctY hY (vc_X12_wrong (d := d + 2) w)) (by omega) (by omega) (by omega) (fun r h2 hp => ?_)
  obtain ⟨rfl, w⟩ := hp
  exact s_X12_line_89 cx hY eq  (by omega) (by omega) w
theorem s_X12_line_68 {E : EnvT} {d : Nat} (cx : CX E "ShoreDayModel" cX12_line 3 none "line" (d + 4) 0 0) (hY : eY E = lay1) {Q : Hp → Prop} (eq : EQ E 0 0 (fun r h2 => r = [] ∧ Q h2)) {x1 : Option AVal} {x2 : Option AVal} {s0 : Int32} {s2 : Int32} {h : Hp} {c n : Nat} (hc : c + 0 ≤ 0) (hn : n + 0 ≤ 0) (w : w_X12_line_68  Q s0 s2 h) : SW E 68 ([some (vP (some (12, 0))), x1, x2], [vI (s2), vP (some (110, 0)), vI (s0)], h, c, n) := by
  obtain ⟨G1, G2, w⟩ := w
  refine k_X12_line_68 cx hY G1 G2 (fun q => ?_) (fun q => ?_)
  · have w := w.1 q
    exact s_X12_line_92 cx hY eq  (by omega) (by omega) w
  · have w := w.2 q
    exact s_X12_line_84 cx hY eq  (by omega) (by omega) w
theorem s_X12_line_43 {E : EnvT} {d : Nat} (cx : CX E "ShoreDayModel" cX12_line 3 none "line" (d + 4) 0 0) (hY : eY E = lay1) {Q : Hp → Prop} (eq : EQ E 0 0 (fun r h2 => r = [] ∧ Q h2)) {x1 : Option AVal} {x2 : Option AVal} {h : Hp} {c n : Nat} (hc : c + 0 ≤ 0) (hn : n + 0 ≤ 0) (w : w_X12_line_43  Q  h) : SW E 43 ([some (vP (some (12, 0))), x1, x2], [], h, c, n) := by
  refine k_X12_line_43 cx hY ?_
  exact s_X12_line_68 cx hY eq  (by omega) (by omega) w
theorem s_X12_line_42 {E : EnvT} {d : Nat} (cx : CX E "ShoreDayModel" cX12_line 3 none "line" (d + 4) 0 0) (hY : eY E = lay1) {Q : Hp → Prop} (eq : EQ E 0 0 (fun r h2 => r = [] ∧ Q h2)) {x1 : Option AVal} {x2 : Option AVal} {h : Hp} {c n : Nat} (hc : c + 0 ≤ 0) (hn : n + 0 ≤ 0) (w : w_X12_line_42  Q  h) : SW E 42 ([some (vP (some (12, 0))), x1, x2], [], h, c, n) := by
  exact k_X12_line_42 cx hY eq (by omega) (by omega) ⟨rfl, w⟩
theorem s_X12_line_35 {E : EnvT} {d : Nat} (cx : CX E "ShoreDayModel" cX12_line 3 none "line" (d + 4) 0 0) (hY : eY E = lay1) {Q : Hp → Prop} (eq : EQ E 0 0 (fun r h2 => r = [] ∧ Q h2)) {x1 : Option AVal} {x2 : Option AVal} {h : Hp} {c n : Nat} (hc : c + 0 ≤ 0) (hn : n + 0 ≤ 0) (w : w_X12_line_35  Q  h) : SW E 35 ([some (vP (some (12, 0))), x1, x2], [], h, c, n) := by
  refine k_X12_line_35 cx hY (fun q => ?_) (fun q => ?_)
  · have w := w.1 q
    exact s_X12_line_43 cx hY eq  (by omega) (by omega) w
  · have w := w.2 q
    exact s_X12_line_42 cx hY eq  (by omega) (by omega) w
theorem s_X12_line_30 {E : EnvT} {d : Nat} (cx : CX E "ShoreDayModel" cX12_line 3 none "line" (d + 4) 0 0) (hY : eY E = lay1) {Q : Hp → Prop} (eq : EQ E 0 0 (fun r h2 => r = [] ∧ Q h2)) {x1 : Option AVal} {x2 : Option AVal} {h : Hp} {c n : Nat} (hc : c + 0 ≤ 0) (hn : n + 0 ≤ 0) (w : w_X12_line_30  Q  h) : SW E 30 ([some (vP (some (12, 0))), x1, x2], [], h, c, n) := by
  refine k_X12_line_30 cx hY (ctY hY (vc_X12_wrong (d := d + 2) w)) (by omega) (by omega) (by omega) (fun r h2 hp => ?_)
  obtain ⟨rfl, w⟩ := hp
  exact s_X12_line_35 cx hY eq  (by omega) (by omega) w
theorem s_X12_line_16 {E : EnvT} {d : Nat} (cx : CX E "ShoreDayModel" cX12_line 3 none "line" (d + 4) 0 0) (hY : eY E = lay1) {Q : Hp → Prop} (eq : EQ E 0 0 (fun r h2 => r = [] ∧ Q h2)) {x1 : Option AVal} {x2 : Option AVal} {h : Hp} {c n : Nat} (hc : c + 0 ≤ 0) (hn : n + 0 ≤ 0) (w : w_X12_line_16  Q  h) : SW E 16 ([some (vP (some (12, 0))), x1, x2], [], h, c, n) := by
  obtain ⟨G1, w⟩ := w
  refine k_X12_line_16 cx hY G1 (fun q => ?_) (fun q => ?_)
  · have w := w.1 q
    exact s_X12_line_35 cx hY eq  (by omega) (by omega) w
  · have w := w.2 q
    exact s_X12_line_30 cx hY eq  (by omega) (by omega) w
theorem s_X12_line_13 {E : EnvT} {d : Nat} (cx : CX E "ShoreDayModel" cX12_line 3 none "line" (d + 4) 0 0) (hY : eY E = lay1) {Q : Hp → Prop} (eq : EQ E 0 0 (fun r h2 => r = [] ∧ Q h2)) {x1 : Option AVal} {x2 : Option AVal} {h : Hp} {c n : Nat} (hc : c + 0 ≤ 0) (hn : n + 0 ≤ 0) (w : w_X12_line_13  Q  h) : SW E 13 ([some (vP (some (12, 0))), x1, x2], [], h, c, n) := by
  refine k_X12_line_13 cx hY ?_
  exact s_X12_line_35 cx hY eq  (by omega) (by omega) w
theorem s_X12_line_8 {E : EnvT} {d : Nat} (cx : CX E "ShoreDayModel" cX12_line 3 none "line" (d + 4) 0 0) (hY : eY E = lay1) {Q : Hp → Prop} (eq : EQ E 0 0 (fun r h2 => r = [] ∧ Q h2)) {x1 : Option AVal} {x2 : Option AVal} {h : Hp} {c n : Nat} (hc : c + 0 ≤ 0) (hn : n + 0 ≤ 0) (w : w_X12_line_8  Q  h) : SW E 8 ([some (vP (some (12, 0))), x1, x2], [], h, c, n) := by
  refine k_X12_line_8 cx hY (ctY hY (vc_X12_wrong (d := d + 2) w)) (by omega) (by omega) (by omega) (fun r h2 hp => ?_)
  obtain ⟨rfl, w⟩ := hp
  exact s_X12_line_13 cx hY eq  (by omega) (by omega) w
theorem s_X12_line_5 {E : EnvT} {d : Nat} (cx : CX E "ShoreDayModel" cX12_line 3 none "line" (d + 4) 0 0) (hY : eY E = lay1) {Q : Hp → Prop} (eq : EQ E 0 0 (fun r h2 => r = [] ∧ Q h2)) {x1 : Option AVal} {x2 : Option AVal} {s0 : Int32} {h : Hp} {c n : Nat} (hc : c + 0 ≤ 0) (hn : n + 0 ≤ 0) (w : w_X12_line_5  Q s0 h) : SW E 5 ([some (vP (some (12, 0))), x1, x2], [vI (s0)], h, c, n) := by
  refine k_X12_line_5 cx hY (fun q => ?_) (fun q => ?_)
  · have w := w.1 q
    exact s_X12_line_16 cx hY eq  (by omega) (by omega) w
  · have w := w.2 q
    exact s_X12_line_8 cx hY eq  (by omega) (by omega) w
theorem s_X12_line_0 {E : EnvT} {d : Nat} (cx : CX E "ShoreDayModel" cX12_line 3 none "line" (d + 4) 0 0) (hY : eY E = lay1) {Q : Hp → Prop} (eq : EQ E 0 0 (fun r h2 => r = [] ∧ Q h2)) {x1 : Option AVal} {x2 : Option AVal} {h : Hp} {c n : Nat} (hc : c + 0 ≤ 0) (hn : n + 0 ≤ 0) (w : w_X12_line_0  Q  h) : SW E 0 ([some (vP (some (12, 0))), x1, x2], [], h, c, n) := by
  refine k_X12_line_0 cx hY (ctY hY (vc_X12_isWord (d := d + 2) w)) (by omega) (by omega) (by omega) (fun r h2 hp => ?_)
  obtain ⟨r2, rfl, w⟩ := hp
  exact s_X12_line_5 cx hY eq  (by omega) (by omega) w
def wp_X12_line (h : Hp) (Q : Hp → Prop) : Prop := w_X12_line_0 Q  h
theorem vc_X12_line {l : Launch} {d : Nat} {h : Hp} {Q : Hp → Prop} (w : wp_X12_line h Q) : Ct l lay1 yX12_line cX12_line 3 none (d + 4) 0 0 [vP (some (12, 0))] h (fun r h2 => r = [] ∧ Q h2) := by
  exact Ct.of (by decide) (Nat.le_of_ble_eq_true rfl) fun E cx eq hl hY => s_X12_line_0 cx hY eq (Nat.le_refl _) (Nat.le_refl _) w
def w_X12_text_75 (Q : Int32 → Hp → Prop) (h : Hp) : Prop := Q (gI (h) 12 (0) (8)) (h)
def w_X12_text_67 (Q : Int32 → Hp → Prop) (h : Hp) : Prop := w_X12_text_75  Q (wI (h) 12 (0) 15 (gI (h) 12 (0) (16)))
def w_X12_text_60 (Q : Int32 → Hp → Prop) (h : Hp) : Prop := (¬ (gI (h) 12 (0) (8)) = 0 → w_X12_text_75  Q (h)) ∧ ((gI (h) 12 (0) (8)) = 0 → w_X12_text_67  Q (h))
def w_X12_text_57 (K34 : Hp → Prop) (Q : Int32 → Hp → Prop) (h : Hp) : Prop := K34 (h)
def w_X12_text_53 (K34 : Hp → Prop) (Q : Int32 → Hp → Prop) (h : Hp) : Prop := wp_X12_line  (h) (fun h2 => w_X12_text_57 K34 Q (h2))
def w_X12_text_41 (K34 : Hp → Prop) (Q : Int32 → Hp → Prop) (h : Hp) : Prop := vp_in (gI (h) 12 (0) (7)) 602 ∧ (((gI (h) 104 (0) (tN (gI (h) 12 (0) (7)))) = 0 → w_X12_text_60  Q (h)) ∧ (¬ (gI (h) 104 (0) (tN (gI (h) 12 (0) (7)))) = 0 → w_X12_text_53 K34 Q (h)))
def w_X12_text_34 (Q : Int32 → Hp → Prop) : Nat → Hp → Prop
  | 0 => fun _ => False
  | N + 1 => fun h => (¬ (gI (h) 12 (0) (8)) = 0 → w_X12_text_60  Q (h)) ∧ ((gI (h) 12 (0) (8)) = 0 → w_X12_text_41 (w_X12_text_34  Q N) Q (h))
def w_X12_text_28 (Q : Int32 → Hp → Prop) (s1 : Int32) (s2 : Int32) (h : Hp) : Prop := vp_in (s1) 2 ∧ (∃ N, w_X12_text_34  Q N (wI (wI (h) 110 (0) (tN (s1)) (s2)) 12 (0) 17 ((0 : Int32))))
def w_X12_text_9 (Q : Int32 → Hp → Prop) (h : Hp) : Prop := w_X12_text_28  Q (gI (wI (h) 12 (0) 16 (((1 : Int32)) - (gI (h) 12 (0) (15)))) 12 (0) (16)) ((0 : Int32)) (wI (h) 12 (0) 16 (((1 : Int32)) - (gI (h) 12 (0) (15))))
def w_X12_text_0 (Q : Int32 → Hp → Prop) (h : Hp) : Prop := wp_X12_cutAll  (wI (h) 12 (0) 0 ((0 : Int32))) (fun h2 => w_X12_text_9  Q (h2))
theorem s_X12_text_75 {E : EnvT} {d : Nat} (cx : CX E "ShoreDayModel" cX12_text 1 (some .int) "text" (d + 5) 0 0) (hY : eY E = lay1) {Q : Int32 → Hp → Prop} (eq : EQ E 0 0 (fun r h2 => ∃ x, r = [vI x] ∧ Q x h2)) {h : Hp} {c n : Nat} (hc : c + 0 ≤ 0) (hn : n + 0 ≤ 0) (w : w_X12_text_75  Q  h) : SW E 75 ([some (vP (some (12, 0)))], [], h, c, n) := by
  exact k_X12_text_75 cx hY eq (by omega) (by omega) ⟨_, rfl, w⟩
theorem s_X12_text_67 {E : EnvT} {d : Nat} (cx : CX E "ShoreDayModel" cX12_text 1 (some .int) "text" (d + 5) 0 0) (hY : eY E = lay1) {Q : Int32 → Hp → Prop} (eq : EQ E 0 0 (fun r h2 => ∃ x, r = [vI x] ∧ Q x h2)) {h : Hp} {c n : Nat} (hc : c + 0 ≤ 0) (hn : n + 0 ≤ 0) (w : w_X12_text_67  Q  h) : SW E 67 ([some (vP (some (12, 0)))], [], h, c, n) := by
  refine k_X12_text_67 cx hY ?_
  exact s_X12_text_75 cx hY eq  (by omega) (by omega) w
theorem s_X12_text_60 {E : EnvT} {d : Nat} (cx : CX E "ShoreDayModel" cX12_text 1 (some .int) "text" (d + 5) 0 0) (hY : eY E = lay1) {Q : Int32 → Hp → Prop} (eq : EQ E 0 0 (fun r h2 => ∃ x, r = [vI x] ∧ Q x h2)) {h : Hp} {c n : Nat} (hc : c + 0 ≤ 0) (hn : n + 0 ≤ 0) (w : w_X12_text_60  Q  h) : SW E 60 ([some (vP (some (12, 0)))], [], h, c, n) := by
  refine k_X12_text_60 cx hY (fun q => ?_) (fun q => ?_)
  · have w := w.1 q
    exact s_X12_text_75 cx hY eq  (by omega) (by omega) w
  · have w := w.2 q
    exact s_X12_text_67 cx hY eq  (by omega) (by omega) w
theorem s_X12_text_57 {E : EnvT} {d : Nat} (cx : CX E "ShoreDayModel" cX12_text 1 (some .int) "text" (d + 5) 0 0) (hY : eY E = lay1) {Q : Int32 → Hp → Prop} (eq : EQ E 0 0 (fun r h2 => ∃ x, r = [vI x] ∧ Q x h2)) {K34 : Hp → Prop} (hK34 : ∀ (h : Hp) (c n : Nat), c + 0 ≤ 0 → n + 0 ≤ 0 → K34  h → SW E 34 ([some (vP (some (12, 0)))], [], h, c, n)) {h : Hp} {c n : Nat} (hc : c + 0 ≤ 0) (hn : n + 0 ≤ 0) (w : w_X12_text_57 K34 Q  h) : SW E 57 ([some (vP (some (12, 0)))], [], h, c, n) := by
  refine k_X12_text_57 cx hY ?_
  exact hK34  _ _ _ (by omega) (by omega) w
theorem s_X12_text_53 {E : EnvT} {d : Nat} (cx : CX E "ShoreDayModel" cX12_text 1 (some .int) "text" (d + 5) 0 0) (hY : eY E = lay1) {Q : Int32 → Hp → Prop} (eq : EQ E 0 0 (fun r h2 => ∃ x, r = [vI x] ∧ Q x h2)) {K34 : Hp → Prop} (hK34 : ∀ (h : Hp) (c n : Nat), c + 0 ≤ 0 → n + 0 ≤ 0 → K34  h → SW E 34 ([some (vP (some (12, 0)))], [], h, c, n)) {h : Hp} {c n : Nat} (hc : c + 0 ≤ 0) (hn : n + 0 ≤ 0) (w : w_X12_text_53 K34 Q  h) : SW E 53 ([some (vP (some (12, 0)))], [], h, c, n) := by
  refine k_X12_text_53 cx hY (ctY hY (vc_X12_line (d := d + 0) w)) (by omega) (by omega) (by omega) (fun r h2 hp => ?_)
  obtain ⟨rfl, w⟩ := hp
  exact s_X12_text_57 cx hY eq hK34 (by omega) (by omega) w
theorem s_X12_text_41 {E : EnvT} {d : Nat} (cx : CX E "ShoreDayModel" cX12_text 1 (some .int) "text" (d + 5) 0 0) (hY : eY E = lay1) {Q : Int32 → Hp → Prop} (eq : EQ E 0 0 (fun r h2 => ∃ x, r = [vI x] ∧ Q x h2)) {K34 : Hp → Prop} (hK34 : ∀ (h : Hp) (c n : Nat), c + 0 ≤ 0 → n + 0 ≤ 0 → K34  h → SW E 34 ([some (vP (some (12, 0)))], [], h, c, n)) {h : Hp} {c n : Nat} (hc : c + 0 ≤ 0) (hn : n + 0 ≤ 0) (w : w_X12_text_41 K34 Q  h) : SW E 41 ([some (vP (some (12, 0)))], [], h, c, n) := by
  obtain ⟨G1, w⟩ := w
  refine k_X12_text_41 cx hY G1 (fun q => ?_) (fun q => ?_)
  · have w := w.1 q
    exact s_X12_text_60 cx hY eq  (by omega) (by omega) w
  · have w := w.2 q
    exact s_X12_text_53 cx hY eq hK34 (by omega) (by omega) w
theorem s_X12_text_34 {E : EnvT} {d : Nat} (cx : CX E "ShoreDayModel" cX12_text 1 (some .int) "text" (d + 5) 0 0) (hY : eY E = lay1) {Q : Int32 → Hp → Prop} (eq : EQ E 0 0 (fun r h2 => ∃ x, r = [vI x] ∧ Q x h2)) : ∀ (N : Nat) (h : Hp) (c n : Nat), c + 0 ≤ 0 → n + 0 ≤ 0 → w_X12_text_34  Q N  h → SW E 34 ([some (vP (some (12, 0)))], [], h, c, n) := by
  intro N
  induction N with
  | zero =>
    intro  h c n _ _ w
    exact w.elim
  | succ N ih =>
    intro  h c n hc hn w
    refine k_X12_text_34 cx hY (fun q => ?_) (fun q => ?_)
    · have w := w.1 q
      exact s_X12_text_60 cx hY eq  (by omega) (by omega) w
    · have w := w.2 q
      exact s_X12_text_41 cx hY eq ih (by omega) (by omega) w
theorem s_X12_text_28 {E : EnvT} {d : Nat} (cx : CX E "ShoreDayModel" cX12_text 1 (some .int) "text" (d + 5) 0 0) (hY : eY E = lay1) {Q : Int32 → Hp → Prop} (eq : EQ E 0 0 (fun r h2 => ∃ x, r = [vI x] ∧ Q x h2)) {s1 : Int32} {s2 : Int32} {h : Hp} {c n : Nat} (hc : c + 0 ≤ 0) (hn : n + 0 ≤ 0) (w : w_X12_text_28  Q s1 s2 h) : SW E 28 ([some (vP (some (12, 0)))], [vI (s2), vI (s1), vP (some (110, 0))], h, c, n) := by
  obtain ⟨G1, w⟩ := w
  refine k_X12_text_28 cx hY G1 ?_
  obtain ⟨N1, w⟩ := w
  exact s_X12_text_34 cx hY eq  _  _ _ _ (by omega) (by omega) w
theorem s_X12_text_9 {E : EnvT} {d : Nat} (cx : CX E "ShoreDayModel" cX12_text 1 (some .int) "text" (d + 5) 0 0) (hY : eY E = lay1) {Q : Int32 → Hp → Prop} (eq : EQ E 0 0 (fun r h2 => ∃ x, r = [vI x] ∧ Q x h2)) {h : Hp} {c n : Nat} (hc : c + 0 ≤ 0) (hn : n + 0 ≤ 0) (w : w_X12_text_9  Q  h) : SW E 9 ([some (vP (some (12, 0)))], [], h, c, n) := by
  refine k_X12_text_9 cx hY ?_
  exact s_X12_text_28 cx hY eq  (by omega) (by omega) w
theorem s_X12_text_0 {E : EnvT} {d : Nat} (cx : CX E "ShoreDayModel" cX12_text 1 (some .int) "text" (d + 5) 0 0) (hY : eY E = lay1) {Q : Int32 → Hp → Prop} (eq : EQ E 0 0 (fun r h2 => ∃ x, r = [vI x] ∧ Q x h2)) {h : Hp} {c n : Nat} (hc : c + 0 ≤ 0) (hn : n + 0 ≤ 0) (w : w_X12_text_0  Q  h) : SW E 0 ([some (vP (some (12, 0)))], [], h, c, n) := by
  refine k_X12_text_0 cx hY (ctY hY (vc_X12_cutAll (d := d + 1) w)) (by omega) (by omega) (by omega) (fun r h2 hp => ?_)
  obtain ⟨rfl, w⟩ := hp
  exact s_X12_text_9 cx hY eq  (by omega) (by omega) w
def wp_X12_text (h : Hp) (Q : Int32 → Hp → Prop) : Prop := w_X12_text_0 Q  h
theorem vc_X12_text {l : Launch} {d : Nat} {h : Hp} {Q : Int32 → Hp → Prop} (w : wp_X12_text h Q) : Ct l lay1 yX12_text cX12_text 1 (some .int) (d + 5) 0 0 [vP (some (12, 0))] h (fun r h2 => ∃ x, r = [vI x] ∧ Q x h2) := by
  exact Ct.of (by decide) (Nat.le_of_ble_eq_true rfl) fun E cx eq hl hY => s_X12_text_0 cx hY eq (Nat.le_refl _) (Nat.le_refl _) w
