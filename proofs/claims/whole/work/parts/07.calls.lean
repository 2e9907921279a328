/-! branches -/
section BRS
variable {E : EnvT} {own : String} {cc : ByteArray} {mL : Nat} {rt : Option FieldType} {nm : String} {d mc ms pc : Nat} {L : List (Option AVal)} {S : List AVal} {h : Hp} {c n : Nat} {off : Int} {tgt : Nat}
theorem br_icmp_eq {x y : Int32} (cx : CX E own cc mL rt nm d mc ms) (hd : decode cc pc = .ok (.if_icmp .eq off, 3)) (ht : (pc : Int) + off = (tgt : Int)) (kt : x = y → SW E tgt (L, S, h, c, n)) (kf : ¬ x = y → SW E (pc + 3) (L, S, h, c, n)) : SW E pc (L, vI y :: vI x :: S, h, c, n) := fun ad ws H locs ls h1 h2 h3 h4 => lv_icmp_eq cx.x cx.b hd ht (fun q => kt q ad ws H locs ls h1 (okv_tl (okv_tl h2)) h3 h4) (fun q => kf q ad ws H locs ls h1 (okv_tl (okv_tl h2)) h3 h4)
theorem br_icmp_ne {x y : Int32} (cx : CX E own cc mL rt nm d mc ms) (hd : decode cc pc = .ok (.if_icmp .ne off, 3)) (ht : (pc : Int) + off = (tgt : Int)) (kt : ¬ x = y → SW E tgt (L, S, h, c, n)) (kf : x = y → SW E (pc + 3) (L, S, h, c, n)) : SW E pc (L, vI y :: vI x :: S, h, c, n) := fun ad ws H locs ls h1 h2 h3 h4 => lv_icmp_ne cx.x cx.b hd ht (fun q => kt q ad ws H locs ls h1 (okv_tl (okv_tl h2)) h3 h4) (fun q => kf q ad ws H locs ls h1 (okv_tl (okv_tl h2)) h3 h4)
theorem br_icmp_lt {x y : Int32} (cx : CX E own cc mL rt nm d mc ms) (hd : decode cc pc = .ok (.if_icmp .lt off, 3)) (ht : (pc : Int) + off = (tgt : Int)) (kt : x < y → SW E tgt (L, S, h, c, n)) (kf : ¬ x < y → SW E (pc + 3) (L, S, h, c, n)) : SW E pc (L, vI y :: vI x :: S, h, c, n) := fun ad ws H locs ls h1 h2 h3 h4 => lv_icmp_lt cx.x cx.b hd ht (fun q => kt q ad ws H locs ls h1 (okv_tl (okv_tl h2)) h3 h4) (fun q => kf q ad ws H locs ls h1 (okv_tl (okv_tl h2)) h3 h4)
theorem br_icmp_ge {x y : Int32} (cx : CX E own cc mL rt nm d mc ms) (hd : decode cc pc = .ok (.if_icmp .ge off, 3)) (ht : (pc : Int) + off = (tgt : Int)) (kt : y ≤ x → SW E tgt (L, S, h, c, n)) (kf : ¬ y ≤ x → SW E (pc + 3) (L, S, h, c, n)) : SW E pc (L, vI y :: vI x :: S, h, c, n) := fun ad ws H locs ls h1 h2 h3 h4 => lv_icmp_ge cx.x cx.b hd ht (fun q => kt q ad ws H locs ls h1 (okv_tl (okv_tl h2)) h3 h4) (fun q => kf q ad ws H locs ls h1 (okv_tl (okv_tl h2)) h3 h4)
theorem br_icmp_gt {x y : Int32} (cx : CX E own cc mL rt nm d mc ms) (hd : decode cc pc = .ok (.if_icmp .gt off, 3)) (ht : (pc : Int) + off = (tgt : Int)) (kt : y < x → SW E tgt (L, S, h, c, n)) (kf : ¬ y < x → SW E (pc + 3) (L, S, h, c, n)) : SW E pc (L, vI y :: vI x :: S, h, c, n) := fun ad ws H locs ls h1 h2 h3 h4 => lv_icmp_gt cx.x cx.b hd ht (fun q => kt q ad ws H locs ls h1 (okv_tl (okv_tl h2)) h3 h4) (fun q => kf q ad ws H locs ls h1 (okv_tl (okv_tl h2)) h3 h4)
theorem br_icmp_le {x y : Int32} (cx : CX E own cc mL rt nm d mc ms) (hd : decode cc pc = .ok (.if_icmp .le off, 3)) (ht : (pc : Int) + off = (tgt : Int)) (kt : x ≤ y → SW E tgt (L, S, h, c, n)) (kf : ¬ x ≤ y → SW E (pc + 3) (L, S, h, c, n)) : SW E pc (L, vI y :: vI x :: S, h, c, n) := fun ad ws H locs ls h1 h2 h3 h4 => lv_icmp_le cx.x cx.b hd ht (fun q => kt q ad ws H locs ls h1 (okv_tl (okv_tl h2)) h3 h4) (fun q => kf q ad ws H locs ls h1 (okv_tl (okv_tl h2)) h3 h4)
theorem br_if_eq {x : Int32} (cx : CX E own cc mL rt nm d mc ms) (hd : decode cc pc = .ok (.ifCond .eq off, 3)) (ht : (pc : Int) + off = (tgt : Int)) (kt : x = 0 → SW E tgt (L, S, h, c, n)) (kf : ¬ x = 0 → SW E (pc + 3) (L, S, h, c, n)) : SW E pc (L, vI x :: S, h, c, n) := fun ad ws H locs ls h1 h2 h3 h4 => lv_if_eq cx.x cx.b hd ht (fun q => kt q ad ws H locs ls h1 (okv_tl h2) h3 h4) (fun q => kf q ad ws H locs ls h1 (okv_tl h2) h3 h4)
theorem br_if_ne {x : Int32} (cx : CX E own cc mL rt nm d mc ms) (hd : decode cc pc = .ok (.ifCond .ne off, 3)) (ht : (pc : Int) + off = (tgt : Int)) (kt : ¬ x = 0 → SW E tgt (L, S, h, c, n)) (kf : x = 0 → SW E (pc + 3) (L, S, h, c, n)) : SW E pc (L, vI x :: S, h, c, n) := fun ad ws H locs ls h1 h2 h3 h4 => lv_if_ne cx.x cx.b hd ht (fun q => kt q ad ws H locs ls h1 (okv_tl h2) h3 h4) (fun q => kf q ad ws H locs ls h1 (okv_tl h2) h3 h4)
theorem br_if_lt {x : Int32} (cx : CX E own cc mL rt nm d mc ms) (hd : decode cc pc = .ok (.ifCond .lt off, 3)) (ht : (pc : Int) + off = (tgt : Int)) (kt : x < 0 → SW E tgt (L, S, h, c, n)) (kf : ¬ x < 0 → SW E (pc + 3) (L, S, h, c, n)) : SW E pc (L, vI x :: S, h, c, n) := fun ad ws H locs ls h1 h2 h3 h4 => lv_if_lt cx.x cx.b hd ht (fun q => kt q ad ws H locs ls h1 (okv_tl h2) h3 h4) (fun q => kf q ad ws H locs ls h1 (okv_tl h2) h3 h4)
theorem br_if_ge {x : Int32} (cx : CX E own cc mL rt nm d mc ms) (hd : decode cc pc = .ok (.ifCond .ge off, 3)) (ht : (pc : Int) + off = (tgt : Int)) (kt : 0 ≤ x → SW E tgt (L, S, h, c, n)) (kf : ¬ 0 ≤ x → SW E (pc + 3) (L, S, h, c, n)) : SW E pc (L, vI x :: S, h, c, n) := fun ad ws H locs ls h1 h2 h3 h4 => lv_if_ge cx.x cx.b hd ht (fun q => kt q ad ws H locs ls h1 (okv_tl h2) h3 h4) (fun q => kf q ad ws H locs ls h1 (okv_tl h2) h3 h4)
theorem br_if_gt {x : Int32} (cx : CX E own cc mL rt nm d mc ms) (hd : decode cc pc = .ok (.ifCond .gt off, 3)) (ht : (pc : Int) + off = (tgt : Int)) (kt : 0 < x → SW E tgt (L, S, h, c, n)) (kf : ¬ 0 < x → SW E (pc + 3) (L, S, h, c, n)) : SW E pc (L, vI x :: S, h, c, n) := fun ad ws H locs ls h1 h2 h3 h4 => lv_if_gt cx.x cx.b hd ht (fun q => kt q ad ws H locs ls h1 (okv_tl h2) h3 h4) (fun q => kf q ad ws H locs ls h1 (okv_tl h2) h3 h4)
theorem br_if_le {x : Int32} (cx : CX E own cc mL rt nm d mc ms) (hd : decode cc pc = .ok (.ifCond .le off, 3)) (ht : (pc : Int) + off = (tgt : Int)) (kt : x ≤ 0 → SW E tgt (L, S, h, c, n)) (kf : ¬ x ≤ 0 → SW E (pc + 3) (L, S, h, c, n)) : SW E pc (L, vI x :: S, h, c, n) := fun ad ws H locs ls h1 h2 h3 h4 => lv_if_le cx.x cx.b hd ht (fun q => kt q ad ws H locs ls h1 (okv_tl h2) h3 h4) (fun q => kf q ad ws H locs ls h1 (okv_tl h2) h3 h4)
theorem ptr_inj {ad : Nat → Nat → Nat} {ws : va_W} {H : Heap} {locs : List Loc} (h1 : At9 E ad ws H locs h) {p q : Option PtrT} (hp0 : ∀ z, p = some z → loK z.1 = false) (hp : okp h p) (hq : okp h q) : (p.map fun z => ad z.1 z.2) = (q.map fun z => ad z.1 z.2) ↔ p = q := by
  constructor
  · intro e
    match p, q, hp0, hp, hq, e with
    | none, none, _, _, _, _ => rfl
    | none, some b, _, _, _, e => cases e
    | some a, none, _, _, _, e => cases e
    | some a, some b, hp0, hp, hq, e =>
      have e := Option.some.inj e
      have := h1.1.2.1 a.1 a.2 b.1 b.2 (hp0 a rfl) (hp a rfl) (hq b rfl) e
      rw [show a = b from Prod.ext this.1 this.2]
  · rintro rfl
    rfl
theorem br_acmp_ne {q : Option PtrT} {k i s : Nat} (cx : CX E own cc mL rt nm d mc ms) (hk : (k == 2 || k == 8) = true) (hd : decode cc pc = .ok (.if_acmp .ne off, 3)) (ht : (pc : Int) + off = (tgt : Int)) (kt : ¬ gP h k i s = q → SW E tgt (L, S, h, c, n)) (kf : gP h k i s = q → SW E (pc + 3) (L, S, h, c, n)) : SW E pc (L, vP q :: vP (gP h k i s) :: S, h, c, n) := fun ad ws H locs ls h1 h2 h3 h4 =>
  have hi := ptr_inj h1 (p := gP h k i s) (q := q) (fun z e => h1.1.2.2.2.2.2 k i s z hk e) (okv_hd (okv_tl h2)) (okv_hd h2)
  lv_acmp_ne cx.x cx.b hd ht (fun z => kt (fun y => z (hi.mpr y)) ad ws H locs ls h1 (okv_tl (okv_tl h2)) h3 h4) (fun z => kf (hi.mp z) ad ws H locs ls h1 (okv_tl (okv_tl h2)) h3 h4)
theorem br_ifnull {p : Option PtrT} (cx : CX E own cc mL rt nm d mc ms) (hd : decode cc pc = .ok (.ifnull off, 3)) (ht : (pc : Int) + off = (tgt : Int)) (kt : p = none → SW E tgt (L, S, h, c, n)) (kf : ¬ p = none → SW E (pc + 3) (L, S, h, c, n)) : SW E pc (L, vP p :: S, h, c, n) := by
  intro ad ws H locs ls h1 h2 h3 h4
  cases p with
  | none => exact lv_ifnullN cx.x cx.b hd ht (kt rfl ad ws H locs ls h1 (okv_tl h2) h3 h4)
  | some q => exact lv_ifnull cx.x cx.b hd (kf (fun e => by cases e) ad ws H locs ls h1 (okv_tl h2) h3 h4)
theorem br_ifnonnull {p : Option PtrT} (cx : CX E own cc mL rt nm d mc ms) (hd : decode cc pc = .ok (.ifnonnull off, 3)) (ht : (pc : Int) + off = (tgt : Int)) (kt : ¬ p = none → SW E tgt (L, S, h, c, n)) (kf : p = none → SW E (pc + 3) (L, S, h, c, n)) : SW E pc (L, vP p :: S, h, c, n) := by
  intro ad ws H locs ls h1 h2 h3 h4
  cases p with
  | none => exact lv_ifnonnullN cx.x cx.b hd (kf rfl ad ws H locs ls h1 (okv_tl h2) h3 h4)
  | some q => exact lv_ifnonnull cx.x cx.b hd ht (kt (fun e => by cases e) ad ws H locs ls h1 (okv_tl h2) h3 h4)
theorem br_table {x : Int32} {dflt lo hi : Int} {offs : Array Int} {len dt : Nat} {tg : List Nat} (cx : CX E own cc mL rt nm d mc ms) (hd : decode cc pc = .ok (.tableswitch dflt lo hi offs, len)) (hdt : (pc : Int) + dflt = (dt : Int)) (hhi : hi < lo + tg.length) (hoff : ∀ j, j < tg.length → (offs[j]?).map (fun o => (pc : Int) + o) = (tg[j]?).map (fun t => (t : Int))) (kd : x.toInt < lo ∨ hi < x.toInt → SW E dt (L, S, h, c, n)) (ki : ∀ j t : Nat, tg[j]? = some t → x.toInt = lo + j → SW E t (L, S, h, c, n)) : SW E pc (L, vI x :: S, h, c, n) := by
  intro ad ws H locs ls h1 h2 h3 h4
  by_cases hx : x.toInt < lo ∨ hi < x.toInt
  · exact lv_tableOut cx.x cx.b hd hx hdt (kd hx ad ws H locs ls h1 (okv_tl h2) h3 h4)
  · have hj : (x.toInt - lo).toNat < tg.length := by omega
    have ho := hoff _ hj
    rw [List.getElem?_eq_getElem hj] at ho
    cases hof : offs[(x.toInt - lo).toNat]? with
    | none => rw [hof] at ho; cases ho
    | some o =>
      rw [hof] at ho
      have ho : (pc : Int) + o = (tg[(x.toInt - lo).toNat] : Int) := Option.some.inj ho
      refine lv_tableIn cx.x cx.b hd (by omega) (by omega) hof ho (ki _ _ (List.getElem?_eq_getElem hj) (by omega) ad ws H locs ls h1 (okv_tl h2) h3 h4)
end BRS
/-! a method's end, its contract, its beginning -/
def QcOf (lay : LayT) (D : va_G) (dA : Nat → ClassId) (base : Nat) (ad : Nat → Nat → Nat) (h : Hp) (Post : List AVal → Hp → Prop) : Array Value → State → Outcome → State → Prop := fun _ st o t =>
  ∃ (r : List AVal) (h' : Hp) (ad' : Nat → Nat → Nat) (ws' : va_W), r.length ≤ 1 ∧ o = .returned ((r.map (cv ad')).head?) ∧ Post r h' ∧ (∀ k i, i < gC h k → i < gC h' k ∧ ad' k i = ad k i) ∧ HR lay dA base ad' h' ws' ∧ va_P D vwCl ws' t.heap ∧ va_D (fun q => base ≤ q) ws' ∧ (∀ v ∈ r, okv h' v) ∧ va_F (fun q => base ≤ q) st t
def PcOf (lay : LayT) (D : va_G) (dA : Nat → ClassId) (base : Nat) (ad : Nat → Nat → Nat) (av : List AVal) (h : Hp) : Array Value → State → Prop := fun a U =>
  a = (av.map (cv ad)).toArray ∧ (∀ v ∈ av, okv h v) ∧ (∃ ws, HR lay dA base ad h ws ∧ va_P D vwCl ws U.heap ∧ va_D (fun q => base ≤ q) ws) ∧ va_K D vwCl (tysA dA) U ∧ base ≤ U.heap.size ∧ nestOk U ∧ lowN h ∧ StrF base ad U
def Ct (l : Launch) (lay : LayT) (y : MethodName) (cc : ByteArray) (mL : Nat) (rt : Option FieldType) (d mc ms : Nat) (av : List AVal) (h : Hp) (Post : List AVal → Hp → Prop) : Prop :=
  ∀ (D : va_G) (dA : Nat → ClassId) (base : Nat) (ad : Nat → Nat → Nat), Met l y (Cond.code y cc mL rt :: wsG) (roomOf d mc ms) (PcOf lay D dA base ad av h) (QcOf lay D dA base ad h Post) mc ms (fun q => base ≤ q)
def EQ (E : EnvT) (mc ms : Nat) (Post : List AVal → Hp → Prop) : Prop := eQ E = MQ (eB E) (QcOf (eY E) (eD E) (eDA E) (eb E) (ea0 E) (eh0 E) Post) (eA E) (eS E) mc ms (fun q => eb E ≤ q)
section RTS
variable {E : EnvT} {own : String} {cc : ByteArray} {mL : Nat} {rt : Option FieldType} {nm : String} {d mc ms pc : Nat} {L : List (Option AVal)} {S : List AVal} {h : Hp} {c n : Nat} {Post : List AVal → Hp → Prop}
theorem At9.end {ad : Nat → Nat → Nat} {ws : va_W} {H : Heap} {locs : List Loc} {r : List AVal} (h1 : At9 E ad ws H locs h) (hr : r.length ≤ 1) (hok : ∀ v ∈ r, okv h v) (hp : Post r h) {t : State} (ht : t.heap = H) : QcOf (eY E) (eD E) (eDA E) (eb E) (ea0 E) (eh0 E) Post (eA E) (eS E) (.returned ((r.map (cv ad)).head?)) t :=
  ⟨r, h, ad, ws, hr, rfl, hp, h1.2.2.2.2, h1.1, by rw [ht]; exact h1.2.1, h1.2.2.1, hok, h1.2.2.2.1.F ht⟩
theorem ret_i {x : Int32} (cx : CX E own cc mL (some .int) nm d mc ms) (eq : EQ E mc ms Post) (hd : decode cc pc = .ok (.ireturn, 1)) (hc : c ≤ mc) (hn : n ≤ ms) (hp : Post [vI x] h) : SW E pc (L, [vI x], h, c, n) := by
  intro ad ws H locs ls h1 h2 h3 h4
  refine W.widen hc hn ?_
  rw [eq]
  exact W.iret cx.x cx.b cx.r (fun t ht _ => h1.end (r := [vI x]) (Nat.le_refl 1) h2 hp ht) h1.2.2.2.1.2.2 hd cx.lk
theorem ret_z {x : Int32} (cx : CX E own cc mL (some .boolean) nm d mc ms) (eq : EQ E mc ms Post) (hx : x = 0 ∨ x = 1) (hd : decode cc pc = .ok (.ireturn, 1)) (hc : c ≤ mc) (hn : n ≤ ms) (hp : Post [vI x] h) : SW E pc (L, [vI x], h, c, n) := by
  intro ad ws H locs ls h1 h2 h3 h4
  refine W.widen hc hn ?_
  rw [eq]
  exact W.zret cx.x cx.b cx.r (fit_z rfl hx).1 (fun t ht _ => h1.end (r := [vI x]) (Nat.le_refl 1) h2 hp ht) h1.2.2.2.1.2.2 hd cx.lk
theorem ret_v (cx : CX E own cc mL none nm d mc ms) (eq : EQ E mc ms Post) (hd : decode cc pc = .ok (.return_, 1)) (hc : c ≤ mc) (hn : n ≤ ms) (hp : Post [] h) : SW E pc (L, [], h, c, n) := by
  intro ad ws H locs ls h1 h2 h3 h4
  refine W.widen hc hn ?_
  rw [eq]
  exact W.vret cx.x cx.b cx.r (fun t ht _ => h1.end (r := []) (Nat.zero_le 1) h2 hp ht) h1.2.2.2.1.2.2 hd cx.lk
theorem ret_a {p : Option PtrT} {C : String} (cx : CX E own cc mL (some (.object C)) nm d mc ms) (eq : EQ E mc ms Post) (hd : decode cc pc = .ok (.areturn, 1)) (hc : c ≤ mc) (hn : n ≤ ms) (hp : Post [vP p] h) : SW E pc (L, [vP p], h, c, n) := by
  intro ad ws H locs ls h1 h2 h3 h4
  refine W.widen hc hn ?_
  rw [eq]
  exact W.aret cx.x cx.b cx.r (Or.inl ⟨C, rfl⟩) (by cases p with | none => exact Or.inl rfl | some q => exact Or.inr ⟨_, rfl⟩) (fun t ht _ => h1.end (r := [vP p]) (Nat.le_refl 1) h2 hp ht) h1.2.2.2.1.2.2 hd cx.lk
end RTS
def entA : List AVal → List (Option AVal)
  | [] => []
  | .inl x :: A => some (.inl x) :: entA A
  | .inr (.inl x) :: A => some (.inr (.inl x)) :: none :: entA A
  | .inr (.inr p) :: A => some (.inr (.inr p)) :: entA A
def entL (av : List AVal) (mL : Nat) : List (Option AVal) := entA av ++ List.replicate (mL - (entA av).length) none
theorem entA_len (ad : Nat → Nat → Nat) : ∀ av : List AVal, (lg_sl (av.map (cv ad))).length = (entA av).length
  | [] => rfl
  | .inl x :: A => by
    have ih := entA_len ad A
    simp only [lg_sl, List.map_cons, List.flatMap_cons, List.length_append] at ih ⊢
    rw [ih]
    simp [cv, Value.category, entA]
    omega
  | .inr (.inl x) :: A => by
    have ih := entA_len ad A
    simp only [lg_sl, List.map_cons, List.flatMap_cons, List.length_append] at ih ⊢
    rw [ih]
    simp [cv, Value.category, entA]
    omega
  | .inr (.inr p) :: A => by
    have ih := entA_len ad A
    simp only [lg_sl, List.map_cons, List.flatMap_cons, List.length_append] at ih ⊢
    rw [ih]
    have hc : (cv ad (vP p)).category = 1 := cv_cat fun ⟨x, e⟩ => by cases e
    rw [show cv ad (Sum.inr (Sum.inr p)) = cv ad (vP p) from rfl, hc]
    simp [entA]
    omega
theorem entA_mem (ad : Nat → Nat → Nat) : ∀ (av : List AVal) (m n : Nat) (q : Nat × Value), q ∈ lasc ad n (entA av ++ List.replicate m none) → q ∈ lv_args n (av.map (cv ad))
  | [], m, n, q, h => by
    obtain ⟨j, v, e, -⟩ := lasc_mem.mp h
    simp [entA, List.getElem?_replicate] at e
  | .inl x :: A, m, n, q, h => by
    rw [entA, List.cons_append, lasc, List.mem_cons] at h
    rw [List.map_cons, lv_args, List.mem_cons]
    rcases h with rfl | h
    · exact Or.inl rfl
    · exact Or.inr (entA_mem ad A m (n + 1) q h)
  | .inr (.inl x) :: A, m, n, q, h => by
    rw [entA, List.cons_append, List.cons_append, lasc, lasc, List.mem_cons] at h
    rw [List.map_cons, lv_args, List.mem_cons]
    rcases h with rfl | h
    · exact Or.inl rfl
    · exact Or.inr (entA_mem ad A m (n + 1 + 1) q h)
  | .inr (.inr p) :: A, m, n, q, h => by
    rw [entA, List.cons_append, lasc, List.mem_cons] at h
    have hc : (cv ad (vP p)).category = 1 := cv_cat fun ⟨x, e⟩ => by cases e
    rw [List.map_cons, lv_args, List.mem_cons, show cv ad (Sum.inr (Sum.inr p)) = cv ad (vP p) from rfl, hc]
    rcases h with rfl | h
    · exact Or.inl rfl
    · exact Or.inr (entA_mem ad A m (n + 1) q h)
theorem entL_ok {P : AVal → Prop} : ∀ {av : List AVal} {m : Nat}, (∀ v ∈ av, P v) → ∀ v, some v ∈ entA av ++ List.replicate m none → P v
  | [], m, h, v, hv => by simp [entA, List.mem_replicate] at hv
  | .inl x :: A, m, h, v, hv => by
    rw [entA, List.cons_append, List.mem_cons] at hv
    rcases hv with e | hv
    · cases e; exact h _ List.mem_cons_self
    · exact entL_ok (fun w hw => h w (List.mem_cons_of_mem _ hw)) v hv
  | .inr (.inl x) :: A, m, h, v, hv => by
    rw [entA, List.cons_append, List.cons_append, List.mem_cons, List.mem_cons] at hv
    rcases hv with e | e | hv
    · cases e; exact h _ List.mem_cons_self
    · cases e
    · exact entL_ok (fun w hw => h w (List.mem_cons_of_mem _ hw)) v hv
  | .inr (.inr p) :: A, m, h, v, hv => by
    rw [entA, List.cons_append, List.mem_cons] at hv
    rcases hv with e | hv
    · cases e; exact h _ List.mem_cons_self
    · exact entL_ok (fun w hw => h w (List.mem_cons_of_mem _ hw)) v hv
theorem Ct.of {l : Launch} {lay : LayT} {y : MethodName} {cc : ByteArray} {mL : Nat} {rt : Option FieldType} {d mc ms : Nat} {av : List AVal} {h : Hp} {Post : List AVal → Hp → Prop} (hy : plainName y.cls = true) (hlen : (entA av).length ≤ mL) (body : ∀ E : EnvT, CX E y.cls cc mL rt y.name d mc ms → EQ E mc ms Post → eL E = l → eY E = lay → SW E 0 (entL av mL, [], h, 0, 0)) : Ct l lay y cc mL rt d mc ms av h Post := by
  intro D dA base ad
  refine Met.ofW (cc := cc) (maxL := mL) (ret := rt) hy rfl ?_
  intro p e s m args below meth c s₁ B hml hv
  obtain ⟨rfl, hok, ⟨ws, hR, hP, hD⟩, hK, hz, hne, hsn, hst⟩ := hv
  have hts := atoms_spec (ws := Cond.code y cc mL rt :: wsG) B.pre
  have hb := body (p, l, e, roomOf d mc ms, s, m, (av.map (cv ad)).toArray, below, meth, c, MQ below (QcOf lay D dA base ad h Post) (av.map (cv ad)).toArray s mc ms (fun q => base ≤ q), D, dA, base, lay, ad, h)
    ⟨B.exec, B.bytes, hml, findClass_of_methodNamed B.named, fun w hw => hts w (List.mem_cons_of_mem _ hw), hK, hz, B.returns, B.notSynchronized, (name_of_methodNamed B.named B.method).1, ⟨Nat.le_refl _, Nat.le_refl _, rfl, rfl⟩, hne, hsn, hst⟩ rfl rfl rfl
  have hl := lv_entry (av.map (cv ad)) (n := mL) (by rw [entA_len]; exact hlen)
  rw [lg_entry_eq]
  refine hb ad ws s.heap [] _ ⟨hR, hP, hD, va_S.rf, fun k i hi => ⟨hi, rfl⟩⟩ (fun v hv => by cases hv) (entL_ok hok) ?_
  show lv_has _ c.maxLocals _
  rw [hml]
  exact ⟨hl.1, hl.2.1, fun q hq => hl.2.2 q (entA_mem ad av _ 0 q hq)⟩
