/-! the logic: what the machine does at a place, told over typed heaps -/
theorem wsG_good : GoodIn wsG wsG := fun w hw => ⟨hw, good_of_word (List.mem_filter.mp hw).2⟩
abbrev EnvT : Type := Program × Launch × Env × Room × State × MethodId × Array Value × List Frame × Method × Code × (State → Prop) × va_G × (Nat → ClassId) × Nat × LayT × (Nat → Nat → Nat) × Hp
abbrev eP (E : EnvT) : Program := E.1
abbrev eL (E : EnvT) : Launch := E.2.1
abbrev eE (E : EnvT) : Env := E.2.2.1
abbrev eR (E : EnvT) : Room := E.2.2.2.1
abbrev eS (E : EnvT) : State := E.2.2.2.2.1
abbrev eM (E : EnvT) : MethodId := E.2.2.2.2.2.1
abbrev eA (E : EnvT) : Array Value := E.2.2.2.2.2.2.1
abbrev eB (E : EnvT) : List Frame := E.2.2.2.2.2.2.2.1
abbrev eMe (E : EnvT) : Method := E.2.2.2.2.2.2.2.2.1
abbrev eC (E : EnvT) : Code := E.2.2.2.2.2.2.2.2.2.1
abbrev eQ (E : EnvT) : State → Prop := E.2.2.2.2.2.2.2.2.2.2.1
abbrev eD (E : EnvT) : va_G := E.2.2.2.2.2.2.2.2.2.2.2.1
abbrev eDA (E : EnvT) : Nat → ClassId := E.2.2.2.2.2.2.2.2.2.2.2.2.1
abbrev eb (E : EnvT) : Nat := E.2.2.2.2.2.2.2.2.2.2.2.2.2.1
abbrev eY (E : EnvT) : LayT := E.2.2.2.2.2.2.2.2.2.2.2.2.2.2.1
abbrev ea0 (E : EnvT) : Nat → Nat → Nat := E.2.2.2.2.2.2.2.2.2.2.2.2.2.2.2.1
abbrev eh0 (E : EnvT) : Hp := E.2.2.2.2.2.2.2.2.2.2.2.2.2.2.2.2
abbrev WE (E : EnvT) (H : Heap) (locs : List Loc) (c n : Nat) (g : JFrame) : Prop := W (eP E) (eL E) (eE E) (eR E) (eS E) (eM E) (eA E) (eB E) (eMe E) (eC E) H locs c n (eQ E) g
abbrev MS : Type := List (Option AVal) × List AVal × Hp × Nat × Nat
/-- the heap at a moment: how it lies, what is known of it, what the method has left alone -/
def At9 (E : EnvT) (ad : Nat → Nat → Nat) (ws : va_W) (H : Heap) (locs : List Loc) (h : Hp) : Prop :=
  HR (eY E) (eDA E) (eb E) ad h ws ∧ va_P (eD E) vwCl ws H ∧ va_D (fun q => eb E ≤ q) ws ∧ va_S (fun q => eb E ≤ q) (eS E).heap H locs ∧ ∀ k i, i < gC (eh0 E) k → i < gC h k ∧ ad k i = ea0 E k i
def SW (E : EnvT) (pc : Nat) (σ : MS) : Prop := ∀ (ad : Nat → Nat → Nat) (ws : va_W) (H : Heap) (locs : List Loc) (ls : Array Slot), At9 E ad ws H locs σ.2.2.1 → (∀ v ∈ σ.2.1, okv σ.2.2.1 v) → (∀ v, some v ∈ σ.1 → okv σ.2.2.1 v) → lv_has ls (eC E).maxLocals (lasc ad 0 σ.1) → WE E H locs σ.2.2.2.1 σ.2.2.2.2 (F0 (eM E) pc ls (σ.2.1.map (cv ad)))
/-- String constants of the system: their texts lie below the base -/
def strT : List (String × Nat × String) := [("ShoreDay$Tokens", 75, "fee"), ("ShoreDay$Tokens", 81, "when"), ("ShoreDay$Tokens", 83, "and"), ("ShoreDay$Tokens", 85, "guests"), ("ShoreDay$Tokens", 87, "tour"), ("ShoreDay$Tokens", 89, "hour"), ("ShoreDay$Tokens", 91, "rank"), ("ShoreDay$Tokens", 93, "ship"), ("ShoreDay$Tokens", 95, "landed"), ("ShoreDay", 163, "no such group"), ("ShoreDay", 190, "nothing such of a group")]
def strB : List (List Int32) := [[102, 101, 101], [119, 104, 101, 110], [97, 110, 100], [103, 117, 101, 115, 116, 115], [116, 111, 117, 114], [104, 111, 117, 114], [114, 97, 110, 107], [115, 104, 105, 112], [108, 97, 110, 100, 101, 100], [110, 111, 32, 115, 117, 99, 104, 32, 103, 114, 111, 117, 112], [110, 111, 116, 104, 105, 110, 103, 32, 115, 117, 99, 104, 32, 111, 102, 32, 97, 32, 103, 114, 111, 117, 112]]
def strN : List Nat := [3, 4, 3, 6, 4, 4, 4, 4, 6, 13, 23]
def aoC : List String := ["ShoreDay$Ship", "ShoreDay$Tender", "ShoreDay$Tour", "ShoreDay$Group"]
def dclW : List MethodName := [⟨"java/lang/RuntimeException", "<init>", "(Ljava/lang/String;)V"⟩, ⟨"java/lang/Exception", "<init>", "(Ljava/lang/String;)V"⟩, ⟨"java/lang/Throwable", "<init>", "(Ljava/lang/String;)V"⟩]
def cstW : List (String × String) := [("java/util/NoSuchElementException", "java/util/NoSuchElementException")]
/-- what else holds of the machine all the while: the statics of Throwable, words on arrays, on the exception's class -/
def XF (base : Nat) (U : State) (H : Heap) : Prop := vx_Zq Bundle.tN "UNASSIGNED_STACK" Bundle.steD (fun q => base ≤ q) U H ∧ vx_Zq Bundle.tN "SUPPRESSED_SENTINEL" Bundle.listD (fun q => base ≤ q) U H ∧ (∀ C ∈ aoC, va_AO C U) ∧ (∀ x ∈ dclW, va_Nw (.declares x) U) ∧ ∀ q ∈ cstW, va_Nw (.castable q.1 q.2) U
def StrF (base : Nat) (ad : Nat → Nat → Nat) (U : State) : Prop := ∃ (adK adV : Nat → Nat) (pf : Option Nat), vk_S 11 strN strB adK adV (fun q => base ≤ q) U U.heap ∧ (∀ i : Nat, i < 11 → (adK i = ad 60 i ∧ adV i = ad 62 i) ∧ vk_R (strT.getD i ("", 0, "")).1 (strT.getD i ("", 0, "")).2.1 (strT.getD i ("", 0, "")).2.2 (adK i) U) ∧ va_Z "java/lang/String" "COMPACT_STRINGS" "Z" (.int 1) (fun q => base ≤ q) U U.heap ∧ va_Z "jdk/internal/util/Preconditions" "SIOOBE_FORMATTER" "Ljava/util/function/BiFunction;" (va_rf pf) (fun q => base ≤ q) U U.heap ∧ XF base U U.heap
/-- how many cells lie below the base, by their kinds: texts, their bytes, the script -/
def lowN (h : Hp) : Prop := 11 ≤ gC h 60 ∧ 11 ≤ gC h 62 ∧ 1 ≤ gC h 61
def nestW : List (String × Nat × MethodName) := [("ShoreDay", 41, yX5_init), ("ShoreDay", 48, yX0_init), ("ShoreDay$FeeDesk", 11, yX7_init), ("ShoreDay$FeeDesk", 20, yX9_init), ("ShoreDay$FeeDesk", 36, yX1_init), ("ShoreDay$Sea", 22, yX11_within), ("ShoreDay$Group", 47, yX11_within), ("ShoreDay$Tape", 19, yX11_within)]
def nestOk (U : State) : Prop := ∀ w ∈ nestW, va_Nw (.methodLinkNest w.1 w.2.1 w.2.2 "ShoreDay") U
def roomOf (d mc ms : Nat) : Room := { frames := d, cells := mc, slots := ms, locals := 41 * d }
def RmOk (R : Room) (d mc ms : Nat) : Prop := d ≤ R.frames ∧ 41 * d ≤ R.locals ∧ R.cells = mc ∧ R.slots = ms
/-- where a method stands: its class, code, locals, answer, depth, room -/
def CX (E : EnvT) (own : String) (cc : ByteArray) (mL : Nat) (rt : Option FieldType) (nm : String) (d mc ms : Nat) : Prop :=
  (eP E).tables.exec = Jvm.exec ∧ (eC E).code = cc ∧ (eC E).maxLocals = mL ∧ (eS E).vm.findClass own = some (eM E).cls ∧ (∀ w ∈ wsG, w.before (eA E) (eS E) = true) ∧ va_K (eD E) vwCl (tysA (eDA E)) (eS E) ∧ eb E ≤ (eS E).heap.size ∧ (eMe E).sig.returnType = rt ∧ (eMe E).locks = false ∧ (eMe E).name = nm ∧ RmOk (eR E) d mc ms ∧ nestOk (eS E) ∧ lowN (eh0 E) ∧ StrF (eb E) (ea0 E) (eS E)
section CXP
variable {E : EnvT} {own : String} {cc : ByteArray} {mL : Nat} {rt : Option FieldType} {nm : String} {d mc ms : Nat}
theorem CX.x (h : CX E own cc mL rt nm d mc ms) : (eP E).tables.exec = Jvm.exec := h.1
theorem CX.b (h : CX E own cc mL rt nm d mc ms) : (eC E).code = cc := h.2.1
theorem CX.l (h : CX E own cc mL rt nm d mc ms) : (eC E).maxLocals = mL := h.2.2.1
theorem CX.o (h : CX E own cc mL rt nm d mc ms) : (eS E).vm.findClass own = some (eM E).cls := h.2.2.2.1
theorem CX.w (h : CX E own cc mL rt nm d mc ms) : ∀ w ∈ wsG, w.before (eA E) (eS E) = true := h.2.2.2.2.1
theorem CX.k (h : CX E own cc mL rt nm d mc ms) : va_K (eD E) vwCl (tysA (eDA E)) (eS E) := h.2.2.2.2.2.1
theorem CX.z (h : CX E own cc mL rt nm d mc ms) : eb E ≤ (eS E).heap.size := h.2.2.2.2.2.2.1
theorem CX.r (h : CX E own cc mL rt nm d mc ms) : (eMe E).sig.returnType = rt := h.2.2.2.2.2.2.2.1
theorem CX.lk (h : CX E own cc mL rt nm d mc ms) : (eMe E).locks = false := h.2.2.2.2.2.2.2.2.1
theorem CX.nme (h : CX E own cc mL rt nm d mc ms) : (eMe E).name = nm := h.2.2.2.2.2.2.2.2.2.1
theorem CX.rm (h : CX E own cc mL rt nm d mc ms) : RmOk (eR E) d mc ms := h.2.2.2.2.2.2.2.2.2.2.1
theorem CX.ne (h : CX E own cc mL rt nm d mc ms) : nestOk (eS E) := h.2.2.2.2.2.2.2.2.2.2.2.1
theorem CX.sn (h : CX E own cc mL rt nm d mc ms) : lowN (eh0 E) := h.2.2.2.2.2.2.2.2.2.2.2.2.1
theorem CX.st (h : CX E own cc mL rt nm d mc ms) : StrF (eb E) (ea0 E) (eS E) := h.2.2.2.2.2.2.2.2.2.2.2.2.2
end CXP
/-! steps -/
abbrev Op9 : Type := MS → List Prop × MS
def allP : List Prop → Prop
  | [] => True
  | [p] => p
  | p :: q :: r => p ∧ allP (q :: r)
theorem allP_cons {p : Prop} {l : List Prop} : allP (p :: l) ↔ p ∧ allP l := by
  cases l with
  | nil => simp [allP]
  | cons q r => rfl
theorem allP_app {a b : List Prop} : allP (a ++ b) ↔ allP a ∧ allP b := by
  induction a with
  | nil => simp [allP]
  | cons p a ih => rw [List.cons_append, allP_cons, allP_cons, ih, and_assoc]
def runL : List Op9 → MS → List Prop × MS
  | [], σ => ([], σ)
  | o :: os, σ => ((o σ).1 ++ (runL os (o σ).2).1, (runL os (o σ).2).2)
def runK : List Op9 → List Prop → MS → List Prop × MS
  | [], G, σ => (G, σ)
  | o :: os, G, σ => match o σ with
    | (g, L, S, h, c, n) => runK os (G ++ g) (L, S, h, c, n)
theorem runK_eq : ∀ (os : List Op9) (G : List Prop) (σ : MS), runK os G σ = (G ++ (runL os σ).1, (runL os σ).2)
  | [], G, σ => by simp [runK, runL]
  | o :: os, G, σ => by
    rw [runK, runL]
    rw [show (match o σ with | (g, L, S, h, c, n) => runK os (G ++ g) (L, S, h, c, n)) = runK os (G ++ (o σ).1) (o σ).2 from rfl, runK_eq os, List.append_assoc]
def Sn (E : EnvT) (pc : Nat) (o : Op9) (pc' : Nat) : Prop := ∀ σ, allP (o σ).1 → SW E pc' (o σ).2 → SW E pc σ
def Seg (E : EnvT) (pc : Nat) (os : List Op9) (pc' : Nat) : Prop := ∀ σ, allP (runL os σ).1 → SW E pc' (runL os σ).2 → SW E pc σ
theorem Seg.nil {E : EnvT} {pc : Nat} : Seg E pc [] pc := fun _ _ k => k
theorem Seg.cons {E : EnvT} {pc pc1 pc2 : Nat} {o : Op9} {os : List Op9} (h1 : Sn E pc o pc1) (h2 : Seg E pc1 os pc2) : Seg E pc (o :: os) pc2 := fun σ g k => by
  have g' := allP_app.mp (show allP ((o σ).1 ++ (runL os (o σ).2).1) from g)
  exact h1 σ g'.1 (h2 _ g'.2 k)
theorem Seg.use {E : EnvT} {pc pc' : Nat} {os : List Op9} {σ σ' : MS} {G : List Prop} (hs : Seg E pc os pc') (he : runK os [] σ = (G, σ')) (hG : allP G) (k : SW E pc' σ') : SW E pc σ := by
  have := hs σ
  rw [runK_eq, List.nil_append] at he
  rw [show runL os σ = (G, σ') from he] at this
  exact this hG k
/-- an operation on the stack alone -/
def oS (f : List AVal → Option (List AVal)) : Op9 := fun σ => match f σ.2.1 with
  | some S' => ([], (σ.1, S', σ.2.2))
  | none => ([False], σ)
theorem sn_S {E : EnvT} {pc pc' : Nat} {f : List AVal → Option (List AVal)} (hok : ∀ S S', f S = some S' → ∀ h, (∀ v ∈ S, okv h v) → ∀ v ∈ S', okv h v) (row : ∀ S S' ad H locs c n ls, f S = some S' → WE E H locs c n (F0 (eM E) pc' ls (S'.map (cv ad))) → WE E H locs c n (F0 (eM E) pc ls (S.map (cv ad)))) : Sn E pc (oS f) pc' := by
  rintro ⟨L, S, h, c, n⟩ g k
  cases hf : f S with
  | none => simp [oS, hf, allP] at g
  | some S' =>
    have k : SW E pc' (L, S', h, c, n) := by simpa [oS, hf] using k
    exact fun ad ws H locs ls h1 h2 h3 h4 => row S S' ad H locs c n ls hf (k ad ws H locs ls h1 (hok S S' hf h h2) h3 h4)
def fC (v : AVal) (S : List AVal) : Option (List AVal) := some (v :: S)
def fII (f : Int32 → Int32 → Int32) : List AVal → Option (List AVal)
  | .inl y :: .inl x :: S => some (vI (f x y) :: S)
  | _ => none
def fI (f : Int32 → Int32) : List AVal → Option (List AVal)
  | .inl x :: S => some (vI (f x) :: S)
  | _ => none
def fIL (f : Int32 → Int64) : List AVal → Option (List AVal)
  | .inl x :: S => some (vL (f x) :: S)
  | _ => none
def fLI (f : Int64 → Int32) : List AVal → Option (List AVal)
  | .inr (.inl x) :: S => some (vI (f x) :: S)
  | _ => none
def fLL (f : Int64 → Int64 → Int64) : List AVal → Option (List AVal)
  | .inr (.inl y) :: .inr (.inl x) :: S => some (vL (f x y) :: S)
  | _ => none
def fLS (f : Int64 → Int32 → Int64) : List AVal → Option (List AVal)
  | .inl y :: .inr (.inl x) :: S => some (vL (f x y) :: S)
  | _ => none
def fLC : List AVal → Option (List AVal)
  | .inr (.inl y) :: .inr (.inl x) :: S => some (vI (lg_cmp x y) :: S)
  | _ => none
def fDup : List AVal → Option (List AVal)
  | .inl x :: S => some (.inl x :: .inl x :: S)
  | .inr (.inr p) :: S => some (.inr (.inr p) :: .inr (.inr p) :: S)
  | _ => none
def fDup2 : List AVal → Option (List AVal)
  | .inl x :: .inr (.inr p) :: S => some (.inl x :: .inr (.inr p) :: .inl x :: .inr (.inr p) :: S)
  | _ => none
def fPop : List AVal → Option (List AVal)
  | [.inr (.inr (some _))] => some []
  | _ => none
theorem fII_inv {f : Int32 → Int32 → Int32} {S S' : List AVal} (h : fII f S = some S') : ∃ x y R, S = vI y :: vI x :: R ∧ S' = vI (f x y) :: R := by
  unfold fII at h
  split at h
  · exact ⟨_, _, _, rfl, (Option.some.inj h).symm⟩
  · cases h
theorem fI_inv {f : Int32 → Int32} {S S' : List AVal} (h : fI f S = some S') : ∃ x R, S = vI x :: R ∧ S' = vI (f x) :: R := by
  unfold fI at h
  split at h
  · exact ⟨_, _, rfl, (Option.some.inj h).symm⟩
  · cases h
theorem fIL_inv {f : Int32 → Int64} {S S' : List AVal} (h : fIL f S = some S') : ∃ x R, S = vI x :: R ∧ S' = vL (f x) :: R := by
  unfold fIL at h
  split at h
  · exact ⟨_, _, rfl, (Option.some.inj h).symm⟩
  · cases h
theorem fLI_inv {f : Int64 → Int32} {S S' : List AVal} (h : fLI f S = some S') : ∃ x R, S = vL x :: R ∧ S' = vI (f x) :: R := by
  unfold fLI at h
  split at h
  · exact ⟨_, _, rfl, (Option.some.inj h).symm⟩
  · cases h
theorem fLL_inv {f : Int64 → Int64 → Int64} {S S' : List AVal} (h : fLL f S = some S') : ∃ x y R, S = vL y :: vL x :: R ∧ S' = vL (f x y) :: R := by
  unfold fLL at h
  split at h
  · exact ⟨_, _, _, rfl, (Option.some.inj h).symm⟩
  · cases h
theorem fLS_inv {f : Int64 → Int32 → Int64} {S S' : List AVal} (h : fLS f S = some S') : ∃ x y R, S = vI y :: vL x :: R ∧ S' = vL (f x y) :: R := by
  unfold fLS at h
  split at h
  · exact ⟨_, _, _, rfl, (Option.some.inj h).symm⟩
  · cases h
theorem fLC_inv {S S' : List AVal} (h : fLC S = some S') : ∃ x y R, S = vL y :: vL x :: R ∧ S' = vI (lg_cmp x y) :: R := by
  unfold fLC at h
  split at h
  · exact ⟨_, _, _, rfl, (Option.some.inj h).symm⟩
  · cases h
theorem okv_i {h : Hp} {x : Int32} : okv h (vI x) := trivial
theorem okv_l {h : Hp} {x : Int64} : okv h (vL x) := trivial
section OPS
variable {E : EnvT} {own : String} {cc : ByteArray} {mL : Nat} {rt : Option FieldType} {nm : String} {d mc ms pc : Nat}
theorem sn_II {f : Int32 → Int32 → Int32} (row : ∀ H locs c n ls rest x y, WE E H locs c n (F0 (eM E) (pc + 1) ls (.int (f x y) :: rest)) → WE E H locs c n (F0 (eM E) pc ls (.int y :: .int x :: rest))) : Sn E pc (oS (fII f)) (pc + 1) := by
  refine sn_S ?_ ?_
  · intro S S' hf h hv v hm
    obtain ⟨x, y, R, rfl, rfl⟩ := fII_inv hf
    rcases List.mem_cons.mp hm with rfl | hm
    · trivial
    · exact hv v (by simp [hm])
  · intro S S' ad H locs c n ls hf k
    obtain ⟨x, y, R, rfl, rfl⟩ := fII_inv hf
    exact row _ _ _ _ _ _ _ _ k
theorem sn_I {f : Int32 → Int32} (row : ∀ H locs c n ls rest x, WE E H locs c n (F0 (eM E) (pc + 1) ls (.int (f x) :: rest)) → WE E H locs c n (F0 (eM E) pc ls (.int x :: rest))) : Sn E pc (oS (fI f)) (pc + 1) := by
  refine sn_S ?_ ?_
  · intro S S' hf h hv v hm
    obtain ⟨x, R, rfl, rfl⟩ := fI_inv hf
    rcases List.mem_cons.mp hm with rfl | hm
    · trivial
    · exact hv v (by simp [hm])
  · intro S S' ad H locs c n ls hf k
    obtain ⟨x, R, rfl, rfl⟩ := fI_inv hf
    exact row _ _ _ _ _ _ _ k
theorem sn_IL {f : Int32 → Int64} (row : ∀ H locs c n ls rest x, WE E H locs c n (F0 (eM E) (pc + 1) ls (.long (f x) :: rest)) → WE E H locs c n (F0 (eM E) pc ls (.int x :: rest))) : Sn E pc (oS (fIL f)) (pc + 1) := by
  refine sn_S ?_ ?_
  · intro S S' hf h hv v hm
    obtain ⟨x, R, rfl, rfl⟩ := fIL_inv hf
    rcases List.mem_cons.mp hm with rfl | hm
    · trivial
    · exact hv v (by simp [hm])
  · intro S S' ad H locs c n ls hf k
    obtain ⟨x, R, rfl, rfl⟩ := fIL_inv hf
    exact row _ _ _ _ _ _ _ k
theorem sn_LI {f : Int64 → Int32} (row : ∀ H locs c n ls rest x, WE E H locs c n (F0 (eM E) (pc + 1) ls (.int (f x) :: rest)) → WE E H locs c n (F0 (eM E) pc ls (.long x :: rest))) : Sn E pc (oS (fLI f)) (pc + 1) := by
  refine sn_S ?_ ?_
  · intro S S' hf h hv v hm
    obtain ⟨x, R, rfl, rfl⟩ := fLI_inv hf
    rcases List.mem_cons.mp hm with rfl | hm
    · trivial
    · exact hv v (by simp [hm])
  · intro S S' ad H locs c n ls hf k
    obtain ⟨x, R, rfl, rfl⟩ := fLI_inv hf
    exact row _ _ _ _ _ _ _ k
theorem sn_LL {f : Int64 → Int64 → Int64} (row : ∀ H locs c n ls rest x y, WE E H locs c n (F0 (eM E) (pc + 1) ls (.long (f x y) :: rest)) → WE E H locs c n (F0 (eM E) pc ls (.long y :: .long x :: rest))) : Sn E pc (oS (fLL f)) (pc + 1) := by
  refine sn_S ?_ ?_
  · intro S S' hf h hv v hm
    obtain ⟨x, y, R, rfl, rfl⟩ := fLL_inv hf
    rcases List.mem_cons.mp hm with rfl | hm
    · trivial
    · exact hv v (by simp [hm])
  · intro S S' ad H locs c n ls hf k
    obtain ⟨x, y, R, rfl, rfl⟩ := fLL_inv hf
    exact row _ _ _ _ _ _ _ _ k
theorem sn_LS {f : Int64 → Int32 → Int64} (row : ∀ H locs c n ls rest x y, WE E H locs c n (F0 (eM E) (pc + 1) ls (.long (f x y) :: rest)) → WE E H locs c n (F0 (eM E) pc ls (.int y :: .long x :: rest))) : Sn E pc (oS (fLS f)) (pc + 1) := by
  refine sn_S ?_ ?_
  · intro S S' hf h hv v hm
    obtain ⟨x, y, R, rfl, rfl⟩ := fLS_inv hf
    rcases List.mem_cons.mp hm with rfl | hm
    · trivial
    · exact hv v (by simp [hm])
  · intro S S' ad H locs c n ls hf k
    obtain ⟨x, y, R, rfl, rfl⟩ := fLS_inv hf
    exact row _ _ _ _ _ _ _ _ k
theorem sn_lcmp (cx : CX E own cc mL rt nm d mc ms) (hd : decode cc pc = .ok (.lcmp, 1)) : Sn E pc (oS fLC) (pc + 1) := by
  refine sn_S ?_ ?_
  · intro S S' hf h hv v hm
    obtain ⟨x, y, R, rfl, rfl⟩ := fLC_inv hf
    rcases List.mem_cons.mp hm with rfl | hm
    · trivial
    · exact hv v (by simp [hm])
  · intro S S' ad H locs c n ls hf k
    obtain ⟨x, y, R, rfl, rfl⟩ := fLC_inv hf
    exact W.lcmp cx.x cx.b hd k
theorem sn_iadd (cx : CX E own cc mL rt nm d mc ms) (hd : decode cc pc = .ok (.iadd, 1)) : Sn E pc (oS (fII fun x y => x + y)) (pc + 1) := sn_II fun _ _ _ _ _ _ _ _ k => lv_iadd cx.x cx.b hd k
theorem sn_isub (cx : CX E own cc mL rt nm d mc ms) (hd : decode cc pc = .ok (.isub, 1)) : Sn E pc (oS (fII fun x y => x - y)) (pc + 1) := sn_II fun _ _ _ _ _ _ _ _ k => lv_isub cx.x cx.b hd k
theorem sn_imul (cx : CX E own cc mL rt nm d mc ms) (hd : decode cc pc = .ok (.imul, 1)) : Sn E pc (oS (fII fun x y => x * y)) (pc + 1) := sn_II fun _ _ _ _ _ _ _ _ k => lv_imul cx.x cx.b hd k
theorem sn_iand (cx : CX E own cc mL rt nm d mc ms) (hd : decode cc pc = .ok (.iand, 1)) : Sn E pc (oS (fII fun x y => x &&& y)) (pc + 1) := sn_II fun _ _ _ _ _ _ _ _ k => lv_iand cx.x cx.b hd k
theorem sn_ior (cx : CX E own cc mL rt nm d mc ms) (hd : decode cc pc = .ok (.ior, 1)) : Sn E pc (oS (fII fun x y => x ||| y)) (pc + 1) := sn_II fun _ _ _ _ _ _ _ _ k => lv_ior cx.x cx.b hd k
theorem sn_ishl (cx : CX E own cc mL rt nm d mc ms) (hd : decode cc pc = .ok (.ishl, 1)) : Sn E pc (oS (fII fun x y => x <<< (y &&& 31))) (pc + 1) := sn_II fun _ _ _ _ _ _ _ _ k => lv_ishl cx.x cx.b hd k
theorem sn_ishr (cx : CX E own cc mL rt nm d mc ms) (hd : decode cc pc = .ok (.ishr, 1)) : Sn E pc (oS (fII fun x y => x >>> (y &&& 31))) (pc + 1) := sn_II fun _ _ _ _ _ _ _ _ k => lv_ishr cx.x cx.b hd k
theorem sn_ineg (cx : CX E own cc mL rt nm d mc ms) (hd : decode cc pc = .ok (.ineg, 1)) : Sn E pc (oS (fI fun x => -x)) (pc + 1) := sn_I fun _ _ _ _ _ _ _ k => lv_ineg cx.x cx.b hd k
theorem sn_i2l (cx : CX E own cc mL rt nm d mc ms) (hd : decode cc pc = .ok (.i2l, 1)) : Sn E pc (oS (fIL fun x => x.toInt64)) (pc + 1) := sn_IL fun _ _ _ _ _ _ _ k => lv_i2l cx.x cx.b hd rfl k
theorem sn_l2i (cx : CX E own cc mL rt nm d mc ms) (hd : decode cc pc = .ok (.l2i, 1)) : Sn E pc (oS (fLI fun x => x.toInt32)) (pc + 1) := sn_LI fun _ _ _ _ _ _ _ k => lv_l2i cx.x cx.b hd rfl k
theorem sn_i2c (cx : CX E own cc mL rt nm d mc ms) (hd : decode cc pc = .ok (.i2c, 1)) : Sn E pc (oS (fI fun x => (x.toUInt32 % 65536).toInt32)) (pc + 1) := sn_I fun _ _ _ _ _ _ _ k => lv_i2c cx.x cx.b hd rfl k
theorem sn_ladd (cx : CX E own cc mL rt nm d mc ms) (hd : decode cc pc = .ok (.ladd, 1)) : Sn E pc (oS (fLL fun x y => x + y)) (pc + 1) := sn_LL fun _ _ _ _ _ _ _ _ k => lv_ladd cx.x cx.b hd k
theorem sn_lsub (cx : CX E own cc mL rt nm d mc ms) (hd : decode cc pc = .ok (.lsub, 1)) : Sn E pc (oS (fLL fun x y => x - y)) (pc + 1) := sn_LL fun _ _ _ _ _ _ _ _ k => lv_lsub cx.x cx.b hd k
theorem sn_lmul (cx : CX E own cc mL rt nm d mc ms) (hd : decode cc pc = .ok (.lmul, 1)) : Sn E pc (oS (fLL fun x y => x * y)) (pc + 1) := sn_LL fun _ _ _ _ _ _ _ _ k => lv_lmul cx.x cx.b hd k
theorem sn_land (cx : CX E own cc mL rt nm d mc ms) (hd : decode cc pc = .ok (.land, 1)) : Sn E pc (oS (fLL fun x y => x &&& y)) (pc + 1) := sn_LL fun _ _ _ _ _ _ _ _ k => lv_land cx.x cx.b hd k
theorem sn_lor (cx : CX E own cc mL rt nm d mc ms) (hd : decode cc pc = .ok (.lor, 1)) : Sn E pc (oS (fLL fun x y => x ||| y)) (pc + 1) := sn_LL fun _ _ _ _ _ _ _ _ k => lv_lor cx.x cx.b hd k
theorem sn_lshl (cx : CX E own cc mL rt nm d mc ms) (hd : decode cc pc = .ok (.lshl, 1)) : Sn E pc (oS (fLS fun x y => x <<< (y.toInt64 &&& 63))) (pc + 1) := sn_LS fun _ _ _ _ _ _ _ _ k => lv_lshl cx.x cx.b hd rfl k
theorem sn_lshr (cx : CX E own cc mL rt nm d mc ms) (hd : decode cc pc = .ok (.lshr, 1)) : Sn E pc (oS (fLS fun x y => x >>> (y.toInt64 &&& 63))) (pc + 1) := sn_LS fun _ _ _ _ _ _ _ _ k => lv_lshr cx.x cx.b hd rfl k
theorem sn_lushr (cx : CX E own cc mL rt nm d mc ms) (hd : decode cc pc = .ok (.lushr, 1)) : Sn E pc (oS (fLS fun x y => (x.toUInt64 >>> (y.toInt64.toUInt64 &&& Int64.toUInt64 63)).toInt64)) (pc + 1) := sn_LS fun _ _ _ _ _ _ _ _ k => lv_lushr cx.x cx.b hd rfl k
theorem sn_C {v : AVal} {len : Nat} (hv : ∀ h, okv h v) (row : ∀ ad H locs c n ls rest, WE E H locs c n (F0 (eM E) (pc + len) ls (cv ad v :: rest)) → WE E H locs c n (F0 (eM E) pc ls rest)) : Sn E pc (oS (fC v)) (pc + len) := by
  refine sn_S ?_ ?_
  · intro S S' hf h hs w hm
    cases hf
    rcases List.mem_cons.mp hm with rfl | hm
    · exact hv h
    · exact hs w hm
  · intro S S' ad H locs c n ls hf k
    cases hf
    exact row _ _ _ _ _ _ _ k
theorem sn_iconst (cx : CX E own cc mL rt nm d mc ms) {z : Int} {v : Int32} (hd : decode cc pc = .ok (.iconst z, 1)) (hv : Int32.ofInt z = v) : Sn E pc (oS (fC (vI v))) (pc + 1) := sn_C (fun _ => trivial) fun _ _ _ _ _ _ _ k => lv_iconst cx.x cx.b hd hv k
theorem sn_bipush (cx : CX E own cc mL rt nm d mc ms) {z : Int} {v : Int32} (hd : decode cc pc = .ok (.bipush z, 2)) (hv : (Int8.ofInt z).toInt32 = v) : Sn E pc (oS (fC (vI v))) (pc + 2) := sn_C (fun _ => trivial) fun _ _ _ _ _ _ _ k => lv_bipush cx.x cx.b hd hv k
theorem sn_sipush (cx : CX E own cc mL rt nm d mc ms) {z : Int} {v : Int32} (hd : decode cc pc = .ok (.sipush z, 3)) (hv : (Int16.ofInt z).toInt32 = v) : Sn E pc (oS (fC (vI v))) (pc + 3) := sn_C (fun _ => trivial) fun _ _ _ _ _ _ _ k => lv_sipush cx.x cx.b hd hv k
theorem sn_null (cx : CX E own cc mL rt nm d mc ms) (hd : decode cc pc = .ok (.aconst_null, 1)) : Sn E pc (oS (fC (vP none))) (pc + 1) := sn_C (fun _ q hq => by cases hq) fun _ _ _ _ _ _ _ k => lv_null cx.x cx.b hd k
theorem sn_lconst0 (cx : CX E own cc mL rt nm d mc ms) {z : Fin 2} {v : Int64} (row : ∀ H locs c n ls rest, WE E H locs c n (F0 (eM E) (pc + 1) ls (.long v :: rest)) → WE E H locs c n (F0 (eM E) pc ls rest)) : Sn E pc (oS (fC (vL v))) (pc + 1) := sn_C (fun _ => trivial) fun _ _ _ _ _ _ _ k => row _ _ _ _ _ _ k
theorem sn_ldc2 (cx : CX E own cc mL rt nm d mc ms) {ix : Nat} {v : Int64} (hw : Cond.constantLong own ix v ∈ wsG) (hd : decode cc pc = .ok (.ldc2_w ix, 3)) : Sn E pc (oS (fC (vL v))) (pc + 3) := sn_C (fun _ => trivial) fun _ _ _ _ _ _ _ k => lv_ldc2 cx.x cx.b cx.o (cx.w _ hw) hd k
theorem sn_dup (cx : CX E own cc mL rt nm d mc ms) (hd : decode cc pc = .ok (.dup, 1)) : Sn E pc (oS fDup) (pc + 1) := by
  refine sn_S ?_ ?_
  · intro S S' hf h hs w hm
    unfold fDup at hf
    split at hf
    · cases hf; exact hs w (by simpa using hm)
    · cases hf; exact hs w (by simpa using hm)
    · cases hf
  · intro S S' ad H locs c n ls hf k
    unfold fDup at hf
    split at hf
    · cases hf; exact lv_dup cx.x cx.b hd rfl k
    · rename_i p S
      cases hf; exact lv_dup cx.x cx.b hd (by cases p <;> rfl) k
    · cases hf
theorem sn_dup2 (cx : CX E own cc mL rt nm d mc ms) (hd : decode cc pc = .ok (.dup2, 1)) : Sn E pc (oS fDup2) (pc + 1) := by
  refine sn_S ?_ ?_
  · intro S S' hf h hs w hm
    unfold fDup2 at hf
    split at hf
    · cases hf
      simp only [List.mem_cons] at hm hs
      rcases hm with rfl | rfl | rfl | rfl | hm
      · exact hs _ (Or.inl rfl)
      · exact hs _ (Or.inr (Or.inl rfl))
      · exact hs _ (Or.inl rfl)
      · exact hs _ (Or.inr (Or.inl rfl))
      · exact hs _ (Or.inr (Or.inr hm))
    · cases hf
  · intro S S' ad H locs c n ls hf k
    unfold fDup2 at hf
    split at hf
    · rename_i x p S
      cases hf; exact lv_dup2_11 cx.x cx.b hd rfl (by cases p <;> rfl) k
    · cases hf
theorem sn_goto (cx : CX E own cc mL rt nm d mc ms) {off : Int} {tgt : Nat} (hd : decode cc pc = .ok (.goto off, 3)) (ht : (pc : Int) + off = (tgt : Int)) : Sn E pc (fun σ => ([], σ)) tgt := fun σ _ k ad ws H locs ls h1 h2 h3 h4 => lv_goto cx.x cx.b hd ht (k ad ws H locs ls h1 h2 h3 h4)
theorem sn_objInit (cx : CX E own cc mL rt nm (d + 1) mc ms) {ix : Nat} (hw : Cond.methodLink own ix Lib.objectInit ∈ wsG) (hi : Cond.instanceMethod Lib.objectInit ∈ wsG) (hc : Cond.code Lib.objectInit ⟨#[0xb1]⟩ 1 none ∈ wsG) (hd : decode cc pc = .ok (.invokespecial ix, 3)) : Sn E pc (oS fPop) (pc + 3) := by
  rintro ⟨L, S, h, c, n⟩ g k
  cases hf : fPop S with
  | none => simp [oS, hf, allP] at g
  | some S' =>
    have k : SW E (pc + 3) (L, S', h, c, n) := by simpa [oS, hf] using k
    intro ad ws H locs ls h1 h2 h3 h4
    unfold fPop at hf
    split at hf
    · rename_i q
      cases hf
      refine W.objInit cx.x cx.b cx.o (cx.w _ hw) (cx.w _ hi) (cx.w _ hc) rfl h4.1 rfl hd ?_ ?_ (k ad ws H locs ls h1 (fun v hv => by cases hv) h3 h4)
      · have := cx.rm.1; omega
      · have := cx.rm.2.1; show 2 * 0 + 0 + 12 ≤ (eR E).locals; omega
    · cases hf
end OPS
