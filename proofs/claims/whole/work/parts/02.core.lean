/-! a typed heap: cells by kind and number, ints, longs, pointers by slot -/
abbrev PtrT : Type := Nat × Nat
abbrev AVal : Type := Int32 ⊕ (Int64 ⊕ Option PtrT)
abbrev vI (x : Int32) : AVal := Sum.inl x
abbrev vL (x : Int64) : AVal := Sum.inr (Sum.inl x)
abbrev vP (p : Option PtrT) : AVal := Sum.inr (Sum.inr p)
abbrev Hp : Type := (Nat → Nat) × (Nat → Nat → Nat → Int32) × (Nat → Nat → Nat → Int64) × (Nat → Nat → Nat → Option PtrT)
def gC (h : Hp) : Nat → Nat := h.1
def gI (h : Hp) : Nat → Nat → Nat → Int32 := h.2.1
def gL (h : Hp) : Nat → Nat → Nat → Int64 := h.2.2.1
def gP (h : Hp) : Nat → Nat → Nat → Option PtrT := h.2.2.2
def up3 {α : Type} (f : Nat → Nat → Nat → α) (k i s : Nat) (v : α) : Nat → Nat → Nat → α := fun k' i' s' => if k' = k ∧ i' = i ∧ s' = s then v else f k' i' s'
def cl3 {α : Type} (f : Nat → Nat → Nat → α) (k i : Nat) (v : α) : Nat → Nat → Nat → α := fun k' i' s' => if k' = k ∧ i' = i then v else f k' i' s'
def wI (h : Hp) (k i s : Nat) (v : Int32) : Hp := (h.1, up3 h.2.1 k i s v, h.2.2)
def wL (h : Hp) (k i s : Nat) (v : Int64) : Hp := (h.1, h.2.1, up3 h.2.2.1 k i s v, h.2.2.2)
def wP (h : Hp) (k i s : Nat) (v : Option PtrT) : Hp := (h.1, h.2.1, h.2.2.1, up3 h.2.2.2 k i s v)
def nw (h : Hp) (k : Nat) : Hp := (fun k' => if k' = k then h.1 k + 1 else h.1 k', cl3 h.2.1 k (h.1 k) 0, cl3 h.2.2.1 k (h.1 k) 0, cl3 h.2.2.2 k (h.1 k) none)
def cvp (ad : Nat → Nat → Nat) (p : Option PtrT) : Value := va_rf (p.map fun q => ad q.1 q.2)
def cv (ad : Nat → Nat → Nat) (v : AVal) : Value := match v with
  | .inl x => .int x
  | .inr (.inl x) => .long x
  | .inr (.inr p) => cvp ad p
def okp (h : Hp) (p : Option PtrT) : Prop := ∀ q, p = some q → q.2 < gC h q.1
def okv (h : Hp) (v : AVal) : Prop := match v with
  | .inr (.inr p) => okp h p
  | _ => True
/-! the tables of this system: kinds 0 to 12 are its classes; arrays have kinds of their own -/
def kty (k s : Nat) : FieldType := match k with
  | 0 => tyX0 s
  | 1 => tyX1 s
  | 2 => tyX2 s
  | 3 => tyX3 s
  | 4 => tyX4 s
  | 5 => tyX5 s
  | 6 => tyX6 s
  | 7 => tyX7 s
  | 8 => tyX8 s
  | 9 => tyX9 s
  | 10 => tyX10 s
  | 11 => tyX11 s
  | _ => tyX12 s
def knf (k : Nat) : Nat := match k with
  | 0 => 5
  | 1 => 7
  | 2 => 14
  | 3 => 4
  | 4 => 3
  | 5 => 3
  | 6 => 5
  | 7 => 2
  | 8 => 6
  | 9 => 8
  | 10 => 5
  | 11 => 18
  | _ => 66
def fcode (t : FieldType) : Nat := match t with
  | .long => 1
  | .object _ => 2
  | .array _ => 2
  | _ => 0
/-- arrays: (kind, code of the elements, length) -/
def atab : List (Nat × Nat × Nat) := [(20, 4, 4), (21, 5, 6), (22, 6, 8), (23, 7, 60), (24, 7, 60), (25, 7, 60), (26, 0, 10), (27, 0, 10), (28, 0, 600), (29, 0, 16), (30, 0, 16), (31, 0, 16), (32, 2, 600), (33, 0, 601), (34, 0, 601), (35, 0, 601), (36, 0, 6), (37, 0, 576), (38, 0, 8), (39, 1, 1),
  (101, 0, 600), (104, 0, 602), (105, 0, 602), (106, 1, 602), (109, 1, 9), (110, 0, 2), (111, 0, 32), (112, 0, 32), (113, 0, 1320), (114, 0, 1320), (119, 0, 7), (120, 0, 7), (121, 0, 7), (122, 0, 6), (123, 0, 660), (127, 0, 4), (128, 0, 4), (129, 0, 4), (131, 0, 6), (132, 0, 6), (133, 0, 6), (134, 0, 6), (136, 0, 8), (137, 0, 8), (138, 0, 8), (139, 0, 8), (140, 0, 8),
  (142, 0, 60), (143, 0, 60), (144, 0, 60), (145, 0, 60), (146, 0, 60), (147, 0, 60), (148, 0, 60), (149, 0, 60), (150, 0, 60), (151, 0, 60), (152, 0, 60), (153, 0, 60), (154, 0, 60), (158, 0, 10), (159, 0, 10), (160, 3, 60), (162, 0, 6), (164, 0, 8), (165, 0, 576)]
def arow (k : Nat) : Nat × Nat := ((atab.find? (fun q => q.1 == k)).map (fun q => q.2)).getD (0, 0)
def ack (k : Nat) : Nat := (arow k).1
def alk (k : Nat) : Nat := (arow k).2
def aty (c : Nat) : FieldType := match c with
  | 0 => .int
  | 1 => .long
  | 2 => .char
  | 3 => .boolean
  | 4 => .object "ShoreDay$Ship"
  | 5 => .object "ShoreDay$Tender"
  | 6 => .object "ShoreDay$Tour"
  | _ => .object "ShoreDay$Group"
def tysA (dA : Nat → ClassId) : List (ClassId × FieldType) := [(dA 0, .int), (dA 1, .long), (dA 2, .char), (dA 3, .boolean), (dA 4, .object "ShoreDay$Ship"), (dA 5, .object "ShoreDay$Tender"), (dA 6, .object "ShoreDay$Tour"), (dA 7, .object "ShoreDay$Group")]
abbrev LayT : Type := Nat → Nat → Option Nat
def fvR (lay : LayT) (ad : Nat → Nat → Nat) (fi : Nat → Int32) (fl : Nat → Int64) (fp : Nat → Option PtrT) (k i s : Nat) : Value := match lay k s with
  | some c => .ref (ad c i)
  | none => match fcode (kty k s) with
    | 0 => .int (fi s)
    | 1 => .long (fl s)
    | _ => cvp ad (fp s)
def cellR (lay : LayT) (dA : Nat → ClassId) (ad : Nat → Nat → Nat) (fi : Nat → Int32) (fl : Nat → Int64) (fp : Nat → Option PtrT) (k i : Nat) : va_E :=
  if k < 13 then .inr (k, (List.range (knf k)).map (fvR lay ad fi fl fp k i))
  else .inl (dA (ack k), alk k, if ack k = 1 then .inr (.inl fl) else if ack k < 4 then .inl fi else .inr (.inr (.inr (.inr (fun j => (fp j).map fun q => ad q.1 q.2)))))
def cellE (lay : LayT) (dA : Nat → ClassId) (ad : Nat → Nat → Nat) (h : Hp) (k i : Nat) : va_E := cellR lay dA ad (gI h k i) (gL h k i) (gP h k i) k i
/-- kinds of cells that lie below the base: String constants, the script -/
def loK (k : Nat) : Bool := k == 60 || (k == 61 || (k == 62 || k == 63))
theorem lo13 {k : Nat} (h : k < 13) : loK k = false := by
  have h1 : k ≠ 60 := by omega
  have h2 : k ≠ 61 := by omega
  have h3 : k ≠ 62 := by omega
  have h4 : k ≠ 63 := by omega
  simp [loK, h1, h2, h3, h4]
/-- groups and tenders hold no pointer to a cell below the base -/
def nlF (h : Hp) : Prop := ∀ k i s q, (k == 2 || k == 8) = true → gP h k i s = some q → loK q.1 = false
def nlw (k : Nat) (p : Option PtrT) : Prop := (k == 2 || k == 8) = true → ∀ q, p = some q → loK q.1 = false
theorem nlw_k {k : Nat} {p : Option PtrT} (h : (k == 2 || k == 8) = false) : nlw k p := fun e => by rw [h] at e; cases e
theorem nlw_none {k : Nat} : nlw k none := fun _ q e => by cases e
theorem nlw_some {k a b : Nat} (h : loK a = false) : nlw k (some (a, b)) := fun _ q e => by cases e; exact h
def HR (lay : LayT) (dA : Nat → ClassId) (base : Nat) (ad : Nat → Nat → Nat) (h : Hp) (ws : va_W) : Prop :=
  (∀ k i, loK k = false → i < gC h k → (ad k i, cellE lay dA ad h k i) ∈ ws) ∧ (∀ k i k' i', loK k = false → i < gC h k → i' < gC h k' → ad k i = ad k' i' → k = k' ∧ i = i') ∧ (∀ k i s, i < gC h k → okp h (gP h k i s)) ∧ (∀ k s c i, lay k s = some c → i < gC h k → i < gC h c) ∧ (∀ k i, loK k = true → i < gC h k → ad k i < base) ∧ nlF h
/-! locals -/
def lasc (ad : Nat → Nat → Nat) : Nat → List (Option AVal) → List (Nat × Value)
  | _, [] => []
  | n, none :: L => lasc ad (n + 1) L
  | n, some v :: L => (n, cv ad v) :: lasc ad (n + 1) L
theorem lasc_mem {ad : Nat → Nat → Nat} {q : Nat × Value} : ∀ {L : List (Option AVal)} {n : Nat}, q ∈ lasc ad n L ↔ ∃ j v, L[j]? = some (some v) ∧ q = (n + j, cv ad v)
  | [], n => by simp [lasc]
  | none :: L, n => by
    rw [lasc, lasc_mem]
    constructor
    · rintro ⟨j, v, h, rfl⟩
      exact ⟨j + 1, v, by simpa using h, by rw [show n + (j + 1) = n + 1 + j by omega]⟩
    · rintro ⟨j, v, h, rfl⟩
      cases j with
      | zero => simp at h
      | succ j => exact ⟨j, v, by simpa using h, by rw [show n + (j + 1) = n + 1 + j by omega]⟩
  | some w :: L, n => by
    rw [lasc, List.mem_cons, lasc_mem]
    constructor
    · rintro (rfl | ⟨j, v, h, rfl⟩)
      · exact ⟨0, w, by simp, rfl⟩
      · exact ⟨j + 1, v, by simpa using h, by rw [show n + (j + 1) = n + 1 + j by omega]⟩
    · rintro ⟨j, v, h, rfl⟩
      cases j with
      | zero => simp at h; subst h; exact Or.inl rfl
      | succ j => exact Or.inr ⟨j, v, by simpa using h, by rw [show n + (j + 1) = n + 1 + j by omega]⟩
def kl (a : Option AVal) : Option AVal := match a with
  | some (.inr (.inl _)) => none
  | some (.inl x) => some (.inl x)
  | some (.inr (.inr p)) => some (.inr (.inr p))
  | none => none
def lst1 : List (Option AVal) → Nat → AVal → List (Option AVal)
  | [], _, _ => []
  | _ :: L, 0, v => some v :: L
  | a :: L, 1, v => kl a :: lst1 L 0 v
  | a :: L, n + 2, v => a :: lst1 L (n + 1) v
def lst2 : List (Option AVal) → Nat → AVal → List (Option AVal)
  | [], _, _ => []
  | _ :: [], 0, v => some v :: []
  | _ :: _ :: L, 0, v => some v :: none :: L
  | a :: L, 1, v => kl a :: lst2 L 0 v
  | a :: L, n + 2, v => a :: lst2 L (n + 1) v
theorem kl_some {a : Option AVal} {w : AVal} (h : kl a = some w) : a = some w ∧ ¬ ∃ x, w = vL x := by
  match a, h with
  | some (.inl x), h => simp [kl] at h; subst h; exact ⟨rfl, fun ⟨y, e⟩ => by cases e⟩
  | some (.inr (.inl x)), h => simp [kl] at h
  | some (.inr (.inr p)), h => simp [kl] at h; subst h; exact ⟨rfl, fun ⟨y, e⟩ => by cases e⟩
  | none, h => simp [kl] at h
theorem lst1_get : ∀ {L : List (Option AVal)} {i : Nat} {v : AVal} {j : Nat} {w : AVal}, (lst1 L i v)[j]? = some (some w) → (j = i ∧ w = v) ∨ (j ≠ i ∧ L[j]? = some (some w) ∧ ¬ (j + 1 = i ∧ ∃ x, w = vL x))
  | [], _, _, _, _, h => by simp [lst1] at h
  | a :: L, 0, v, j, w, h => by
    rw [lst1] at h
    cases j with
    | zero => simp at h; exact Or.inl ⟨rfl, h.symm⟩
    | succ j => exact Or.inr ⟨by omega, by simpa using h, by omega⟩
  | a :: L, 1, v, j, w, h => by
    rw [lst1] at h
    cases j with
    | zero =>
      simp at h
      exact Or.inr ⟨by omega, by simp [(kl_some h).1], fun ⟨_, q⟩ => (kl_some h).2 q⟩
    | succ j =>
      have h : (lst1 L 0 v)[j]? = some (some w) := by simpa using h
      rcases lst1_get h with ⟨e1, e2⟩ | ⟨e1, e2, e3⟩
      · exact Or.inl ⟨by omega, e2⟩
      · exact Or.inr ⟨by omega, by simpa using e2, fun ⟨q, _⟩ => by omega⟩
  | a :: L, n + 2, v, j, w, h => by
    rw [lst1] at h
    cases j with
    | zero =>
      simp at h
      exact Or.inr ⟨by omega, by simp [h], fun ⟨q, _⟩ => by omega⟩
    | succ j =>
      have h : (lst1 L (n + 1) v)[j]? = some (some w) := by simpa using h
      rcases lst1_get h with ⟨e1, e2⟩ | ⟨e1, e2, e3⟩
      · exact Or.inl ⟨by omega, e2⟩
      · exact Or.inr ⟨by omega, by simpa using e2, fun ⟨q, z⟩ => e3 ⟨by omega, z⟩⟩
theorem lst2_get : ∀ {L : List (Option AVal)} {i : Nat} {v : AVal} {j : Nat} {w : AVal}, (lst2 L i v)[j]? = some (some w) → (j = i ∧ w = v) ∨ (j ≠ i ∧ j ≠ i + 1 ∧ L[j]? = some (some w) ∧ ¬ (j + 1 = i ∧ ∃ x, w = vL x))
  | [], _, _, _, _, h => by simp [lst2] at h
  | [a], 0, v, j, w, h => by
    rw [lst2] at h
    cases j with
    | zero => simp at h; exact Or.inl ⟨rfl, h.symm⟩
    | succ j => simp at h
  | a :: b :: L, 0, v, j, w, h => by
    rw [lst2] at h
    match j, h with
    | 0, h => simp at h; exact Or.inl ⟨rfl, h.symm⟩
    | 1, h => simp at h
    | j + 2, h => exact Or.inr ⟨by omega, by omega, by simpa using h, by omega⟩
  | a :: L, 1, v, j, w, h => by
    rw [lst2] at h
    cases j with
    | zero =>
      simp at h
      exact Or.inr ⟨by omega, by omega, by simp [(kl_some h).1], fun ⟨_, q⟩ => (kl_some h).2 q⟩
    | succ j =>
      have h : (lst2 L 0 v)[j]? = some (some w) := by simpa using h
      rcases lst2_get h with ⟨e1, e2⟩ | ⟨e1, e4, e2, e3⟩
      · exact Or.inl ⟨by omega, e2⟩
      · exact Or.inr ⟨by omega, by omega, by simpa using e2, fun ⟨q, _⟩ => by omega⟩
  | a :: L, n + 2, v, j, w, h => by
    rw [lst2] at h
    cases j with
    | zero =>
      simp at h
      exact Or.inr ⟨by omega, by omega, by simp [h], fun ⟨q, _⟩ => by omega⟩
    | succ j =>
      have h : (lst2 L (n + 1) v)[j]? = some (some w) := by simpa using h
      rcases lst2_get h with ⟨e1, e2⟩ | ⟨e1, e4, e2, e3⟩
      · exact Or.inl ⟨by omega, e2⟩
      · exact Or.inr ⟨by omega, by omega, by simpa using e2, fun ⟨q, z⟩ => e3 ⟨by omega, z⟩⟩
theorem cv_cat {ad : Nat → Nat → Nat} {w : AVal} (h : ¬ ∃ x, w = vL x) : (cv ad w).category = 1 := by
  match w, h with
  | .inl x, _ => rfl
  | .inr (.inl x), h => exact absurd ⟨x, rfl⟩ h
  | .inr (.inr none), _ => rfl
  | .inr (.inr (some p)), _ => rfl
theorem has_st1 {ls : Array Slot} {nL i : Nat} {ad : Nat → Nat → Nat} {L : List (Option AVal)} {v : AVal} (h : lv_has ls nL ((i, cv ad v) :: (lasc ad 0 L).filter (fun q => !(q.1 == i) && !(q.1 + 1 == i && q.2.category == 2)))) : lv_has ls nL (lasc ad 0 (lst1 L i v)) := by
  refine ⟨h.1, h.2.1, fun q hq => h.2.2 q ?_⟩
  obtain ⟨j, w, h1, rfl⟩ := lasc_mem.mp hq
  rw [Nat.zero_add]
  rcases lst1_get h1 with ⟨e1, e2⟩ | ⟨e1, e2, e3⟩
  · rw [e1, e2]; exact List.mem_cons_self
  · refine List.mem_cons_of_mem _ (List.mem_filter.mpr ⟨lasc_mem.mpr ⟨j, w, e2, by rw [Nat.zero_add]⟩, ?_⟩)
    by_cases hj : j + 1 = i
    · have hc : (cv ad w).category = 1 := cv_cat fun z => e3 ⟨hj, z⟩
      simp [e1, hc]
    · simp [e1, hj]
theorem has_st2 {ls : Array Slot} {nL i : Nat} {ad : Nat → Nat → Nat} {L : List (Option AVal)} {v : AVal} (h : lv_has ls nL ((i, cv ad v) :: (lasc ad 0 L).filter (fun q => !(q.1 == i) && (!(q.1 == i + 1) && !(q.1 + 1 == i && q.2.category == 2))))) : lv_has ls nL (lasc ad 0 (lst2 L i v)) := by
  refine ⟨h.1, h.2.1, fun q hq => h.2.2 q ?_⟩
  obtain ⟨j, w, h1, rfl⟩ := lasc_mem.mp hq
  rw [Nat.zero_add]
  rcases lst2_get h1 with ⟨e1, e2⟩ | ⟨e1, e4, e2, e3⟩
  · rw [e1, e2]; exact List.mem_cons_self
  · refine List.mem_cons_of_mem _ (List.mem_filter.mpr ⟨lasc_mem.mpr ⟨j, w, e2, by rw [Nat.zero_add]⟩, ?_⟩)
    by_cases hj : j + 1 = i
    · have hc : (cv ad w).category = 1 := cv_cat fun z => e3 ⟨hj, z⟩
      simp [e1, e4, hc]
    · simp [e1, e4, hj]
theorem has_at {ls : Array Slot} {nL i : Nat} {ad : Nat → Nat → Nat} {L : List (Option AVal)} {v : AVal} (h : lv_has ls nL (lasc ad 0 L)) (hi : L[i]? = some (some v)) : ls[i]? = some (.val (cv ad v)) := h.2.2 (i, cv ad v) (lasc_mem.mpr ⟨i, v, hi, by rw [Nat.zero_add]⟩)
theorem lst1_ok {P : AVal → Prop} {L : List (Option AVal)} {i : Nat} {v : AVal} (h : ∀ w, some w ∈ L → P w) (hv : P v) : ∀ w, some w ∈ lst1 L i v → P w := by
  intro w hw
  obtain ⟨j, hj⟩ := List.getElem?_of_mem hw
  rcases lst1_get hj with ⟨-, rfl⟩ | ⟨-, e, -⟩
  · exact hv
  · exact h w (List.mem_of_getElem? e)
theorem lst2_ok {P : AVal → Prop} {L : List (Option AVal)} {i : Nat} {v : AVal} (h : ∀ w, some w ∈ L → P w) (hv : P v) : ∀ w, some w ∈ lst2 L i v → P w := by
  intro w hw
  obtain ⟨j, hj⟩ := List.getElem?_of_mem hw
  rcases lst2_get hj with ⟨-, rfl⟩ | ⟨-, -, e, -⟩
  · exact hv
  · exact h w (List.mem_of_getElem? e)
/-! heaps and worlds -/
theorem HR.at {lay : LayT} {dA : Nat → ClassId} {base : Nat} {ad : Nat → Nat → Nat} {h : Hp} {ws : va_W} (hR : HR lay dA base ad h ws) {k i : Nat} (hk : loK k = false) (hi : i < gC h k) : ∃ q : Nat, ws[q]? = some (ad k i, cellE lay dA ad h k i) := List.getElem?_of_mem (hR.1 k i hk hi)
theorem HR.set {lay : LayT} {dA : Nat → ClassId} {base : Nat} {ad : Nat → Nat → Nat} {h h' : Hp} {ws : va_W} {k i q : Nat} {e : va_E} (hR : HR lay dA base ad h ws) (hi : i < gC h k) (hq : ws[q]? = some (ad k i, cellE lay dA ad h k i)) (hC : gC h' = gC h) (he : cellE lay dA ad h' k i = e) (ho : ∀ k' i', ¬ (k' = k ∧ i' = i) → cellE lay dA ad h' k' i' = cellE lay dA ad h k' i') (hp : ∀ k i s, i < gC h k → okp h (gP h' k i s)) (h6 : nlF h') : HR lay dA base ad h' (ws.set q (ad k i, e)) := by
  refine ⟨fun k' i' hk60 h1 => ?_, by rw [hC]; exact hR.2.1, fun k i s hi => ?_, by rw [hC]; exact hR.2.2.2.1, by rw [hC]; exact hR.2.2.2.2.1, h6⟩
  · rw [hC] at h1
    by_cases hk : k' = k ∧ i' = i
    · obtain ⟨rfl, rfl⟩ := hk
      rw [he]
      exact List.mem_of_getElem? (i := q) (by rw [List.getElem?_set_self (List.getElem?_eq_some_iff.mp hq).1])
    · obtain ⟨q', hq'⟩ := List.getElem?_of_mem (hR.1 k' i' hk60 h1)
      have hne : q' ≠ q := by
        intro e
        subst e
        rw [hq] at hq'
        have e2 := congrArg Prod.fst (Option.some.inj hq')
        exact hk (hR.2.1 k' i' k i hk60 h1 hi e2.symm)
      rw [ho k' i' hk]
      exact List.mem_of_getElem? (i := q') (by rw [List.getElem?_set_ne hne.symm]; exact hq')
  · rw [hC] at hi
    intro p hpp
    rw [hC]
    exact hp k i s hi p hpp
theorem up3_row {α : Type} {f : Nat → Nat → Nat → α} {k i s : Nat} {v : α} {k' i' : Nat} (h : ¬ (k' = k ∧ i' = i)) : up3 f k i s v k' i' = f k' i' := by
  funext s'
  unfold up3
  rw [if_neg fun q => h ⟨q.1, q.2.1⟩]
theorem up3_at {α : Type} {f : Nat → Nat → Nat → α} {k i s : Nat} {v : α} : up3 f k i s v k i = fun s' => if s' = s then v else f k i s' := by
  funext s'
  unfold up3
  by_cases e : s' = s
  · rw [if_pos ⟨rfl, rfl, e⟩, if_pos e]
  · rw [if_neg fun q => e q.2.2, if_neg e]
theorem map_range_set {β : Type} {n s : Nat} {f g : Nat → β} {v : β} (hv : g s = v) (h : ∀ j, j ≠ s → g j = f j) : (List.range n).map g = ((List.range n).map f).set s v := by
  apply List.ext_getElem?
  intro j
  by_cases hj : j = s
  · subst hj
    by_cases hn : j < n
    · rw [List.getElem?_set_self (by simpa using hn)]
      simp [hn, hv]
    · simp [hn]
  · rw [List.getElem?_set_ne (fun q => hj q.symm)]
    by_cases hn : j < n
    · simp [hn, h j hj]
    · simp [hn]
theorem cell_ne {lay : LayT} {dA : Nat → ClassId} {ad : Nat → Nat → Nat} {h h' : Hp} {k i : Nat} (e1 : gI h' k i = gI h k i) (e2 : gL h' k i = gL h k i) (e3 : gP h' k i = gP h k i) : cellE lay dA ad h' k i = cellE lay dA ad h k i := by
  unfold cellE
  rw [e1, e2, e3]
theorem cell_wI_ne {lay : LayT} {dA : Nat → ClassId} {ad : Nat → Nat → Nat} {h : Hp} {k i s : Nat} {v : Int32} {k' i' : Nat} (hk : ¬ (k' = k ∧ i' = i)) : cellE lay dA ad (wI h k i s v) k' i' = cellE lay dA ad h k' i' := cell_ne (up3_row hk) rfl rfl
theorem cell_wL_ne {lay : LayT} {dA : Nat → ClassId} {ad : Nat → Nat → Nat} {h : Hp} {k i s : Nat} {v : Int64} {k' i' : Nat} (hk : ¬ (k' = k ∧ i' = i)) : cellE lay dA ad (wL h k i s v) k' i' = cellE lay dA ad h k' i' := cell_ne rfl (up3_row hk) rfl
theorem cell_wP_ne {lay : LayT} {dA : Nat → ClassId} {ad : Nat → Nat → Nat} {h : Hp} {k i s : Nat} {v : Option PtrT} {k' i' : Nat} (hk : ¬ (k' = k ∧ i' = i)) : cellE lay dA ad (wP h k i s v) k' i' = cellE lay dA ad h k' i' := cell_ne rfl rfl (up3_row hk)
theorem cell_obj {lay : LayT} {dA : Nat → ClassId} {ad : Nat → Nat → Nat} {h : Hp} {k i : Nat} (hk : k < 13) : cellE lay dA ad h k i = .inr (k, (List.range (knf k)).map (fvR lay ad (gI h k i) (gL h k i) (gP h k i) k i)) := by
  unfold cellE cellR
  rw [if_pos hk]
theorem cell_wI_obj {lay : LayT} {dA : Nat → ClassId} {ad : Nat → Nat → Nat} {h : Hp} {k i s : Nat} {v : Int32} (hk : k < 13) (hl : lay k s = none) (hf : fcode (kty k s) = 0) : cellE lay dA ad (wI h k i s v) k i = .inr (k, ((List.range (knf k)).map (fvR lay ad (gI h k i) (gL h k i) (gP h k i) k i)).set s (.int v)) := by
  rw [cell_obj hk]
  congr 2
  refine map_range_set ?_ fun j hj => ?_
  · unfold fvR
    rw [hl]
    (try dsimp only)
    rw [hf]
    (try dsimp only)
    rw [show gI (wI h k i s v) k i = up3 h.2.1 k i s v k i from rfl, up3_at]
    simp
  · unfold fvR
    rw [show gI (wI h k i s v) k i = up3 h.2.1 k i s v k i from rfl, up3_at]
    simp only [hj, if_false]
    rfl
theorem cell_wP_obj {lay : LayT} {dA : Nat → ClassId} {ad : Nat → Nat → Nat} {h : Hp} {k i s : Nat} {v : Option PtrT} (hk : k < 13) (hl : lay k s = none) (hf : fcode (kty k s) = 2) : cellE lay dA ad (wP h k i s v) k i = .inr (k, ((List.range (knf k)).map (fvR lay ad (gI h k i) (gL h k i) (gP h k i) k i)).set s (cvp ad v)) := by
  rw [cell_obj hk]
  congr 2
  refine map_range_set ?_ fun j hj => ?_
  · unfold fvR
    rw [hl]
    (try dsimp only)
    rw [hf]
    (try dsimp only)
    rw [show gP (wP h k i s v) k i = up3 h.2.2.2 k i s v k i from rfl, up3_at]
    simp
  · unfold fvR
    rw [show gP (wP h k i s v) k i = up3 h.2.2.2 k i s v k i from rfl, up3_at]
    simp only [hj, if_false]
    rfl
theorem cell_arrI {lay : LayT} {dA : Nat → ClassId} {ad : Nat → Nat → Nat} {h : Hp} {k i t n : Nat} (hk : ¬ k < 13) (ha : arow k = (t, n)) (h1 : t ≠ 1) (h4 : t < 4) : cellE lay dA ad h k i = .inl (dA t, n, .inl (gI h k i)) := by
  unfold cellE cellR ack alk
  rw [if_neg hk, ha]
  simp [h1, h4]
theorem cell_arrL {lay : LayT} {dA : Nat → ClassId} {ad : Nat → Nat → Nat} {h : Hp} {k i n : Nat} (hk : ¬ k < 13) (ha : arow k = (1, n)) : cellE lay dA ad h k i = .inl (dA 1, n, .inr (.inl (gL h k i))) := by
  unfold cellE cellR ack alk
  rw [if_neg hk, ha]
  simp
theorem cell_arrP {lay : LayT} {dA : Nat → ClassId} {ad : Nat → Nat → Nat} {h : Hp} {k i t n : Nat} (hk : ¬ k < 13) (ha : arow k = (t, n)) (h4 : 4 ≤ t) : cellE lay dA ad h k i = .inl (dA t, n, .inr (.inr (.inr (.inr (fun j => (gP h k i j).map fun q => ad q.1 q.2))))) := by
  unfold cellE cellR ack alk
  rw [if_neg hk, ha]
  have a1 : t ≠ 1 := by omega
  have a2 : ¬ t < 4 := by omega
  simp [a1, a2]
theorem wI_upd {h : Hp} {k i j : Nat} {v : Int32} : gI (wI h k i j v) k i = upd (gI h k i) j v := by
  rw [show gI (wI h k i j v) k i = up3 h.2.1 k i j v k i from rfl, up3_at]
  rfl
theorem wL_upd {h : Hp} {k i j : Nat} {v : Int64} : gL (wL h k i j v) k i = vp_updL (gL h k i) j v := by
  rw [show gL (wL h k i j v) k i = up3 h.2.2.1 k i j v k i from rfl, up3_at]
  rfl
theorem wP_upd {ad : Nat → Nat → Nat} {h : Hp} {k i j : Nat} {v : Option PtrT} : (fun a => (gP (wP h k i j v) k i a).map fun q : PtrT => ad q.1 q.2) = va_up (fun a => (gP h k i a).map fun q : PtrT => ad q.1 q.2) j (v.map fun q => ad q.1 q.2) := by
  rw [show gP (wP h k i j v) k i = up3 h.2.2.2 k i j v k i from rfl, up3_at]
  funext a
  unfold va_up
  by_cases e : a = j
  · simp [e]
  · simp [e, gP]
theorem okp_wP {h : Hp} {k i s : Nat} {v : Option PtrT} {k' i' s' : Nat} (h1 : okp h (gP h k' i' s')) (h2 : okp h v) : okp h (gP (wP h k i s v) k' i' s') := by
  show okp h (up3 h.2.2.2 k i s v k' i' s')
  unfold up3
  split
  · exact h2
  · exact h1
theorem nlF_wP {h : Hp} {k i s : Nat} {p : Option PtrT} (f : nlF h) (hp : nlw k p) : nlF (wP h k i s p) := fun k' i' s' q hk e => by
  by_cases c : k' = k ∧ i' = i ∧ s' = s
  · obtain ⟨rfl, rfl, rfl⟩ := c
    rw [show gP (wP h k' i' s' p) k' i' s' = p from if_pos ⟨rfl, rfl, rfl⟩] at e
    exact hp hk q e
  · rw [show gP (wP h k i s p) k' i' s' = gP h k' i' s' from if_neg c] at e
    exact f k' i' s' q hk e
