/-! new cells -/
theorem cellR_ext {lay : LayT} {dA : Nat → ClassId} {ad ad' : Nat → Nat → Nat} {fi : Nat → Int32} {fl : Nat → Int64} {fp : Nat → Option PtrT} {k i : Nat} (h1 : ∀ s p, fp s = some p → ad' p.1 p.2 = ad p.1 p.2) (h2 : ∀ s c, lay k s = some c → ad' c i = ad c i) : cellR lay dA ad' fi fl fp k i = cellR lay dA ad fi fl fp k i := by
  have e1 : ∀ s, (fp s).map (fun q : PtrT => ad' q.1 q.2) = (fp s).map (fun q : PtrT => ad q.1 q.2) := by
    intro s
    cases hp : fp s with
    | none => rfl
    | some p => exact congrArg some (h1 s p hp)
  have e2 : fvR lay ad' fi fl fp k i = fvR lay ad fi fl fp k i := by
    funext s
    unfold fvR cvp
    cases hl : lay k s with
    | none => simp only [e1 s]
    | some c => simp only [h2 s c hl]
  unfold cellR
  rw [e2]
  simp only [e1]
def adN (ad : Nat → Nat → Nat) (h : Hp) (k q : Nat) : Nat → Nat → Nat := fun k' i' => if k' = k ∧ i' = gC h k then q else ad k' i'
theorem adN_old {ad : Nat → Nat → Nat} {h : Hp} {k q k' i' : Nat} (hi : i' < gC h k') : adN ad h k q k' i' = ad k' i' := by
  unfold adN
  rw [if_neg]
  rintro ⟨rfl, rfl⟩
  omega
theorem adN_new {ad : Nat → Nat → Nat} {h : Hp} {k q : Nat} : adN ad h k q k (gC h k) = q := by
  unfold adN
  rw [if_pos ⟨rfl, rfl⟩]
theorem nw_C {h : Hp} {k k' : Nat} : gC (nw h k) k' = if k' = k then gC h k + 1 else gC h k' := rfl
theorem nw_C_le {h : Hp} {k k' i : Nat} (hi : i < gC h k') : i < gC (nw h k) k' := by
  rw [nw_C]
  split
  · rename_i e; subst e; omega
  · exact hi
theorem nw_C_inv {h : Hp} {k k' i : Nat} (hi : i < gC (nw h k) k') : (k' = k ∧ i = gC h k) ∨ (i < gC h k' ∧ ¬ (k' = k ∧ i = gC h k)) := by
  rw [nw_C] at hi
  by_cases e : k' = k
  · subst e
    rw [if_pos rfl] at hi
    by_cases e2 : i = gC h k'
    · exact Or.inl ⟨rfl, e2⟩
    · exact Or.inr ⟨by omega, fun q => e2 q.2⟩
  · rw [if_neg e] at hi
    exact Or.inr ⟨hi, fun q => e q.1⟩
theorem cl3_row {α : Type} {f : Nat → Nat → Nat → α} {k i : Nat} {v : α} {k' i' : Nat} (h : ¬ (k' = k ∧ i' = i)) : cl3 f k i v k' i' = f k' i' := by
  funext s
  unfold cl3
  rw [if_neg h]
theorem cl3_at {α : Type} {f : Nat → Nat → Nat → α} {k i : Nat} {v : α} : cl3 f k i v k i = fun _ => v := by
  funext s
  unfold cl3
  rw [if_pos ⟨rfl, rfl⟩]
theorem cellE_nw {lay : LayT} {dA : Nat → ClassId} {ad : Nat → Nat → Nat} {h : Hp} {k : Nat} : cellE lay dA ad (nw h k) k (gC h k) = cellR lay dA ad (fun _ => 0) (fun _ => 0) (fun _ => none) k (gC h k) := by
  unfold cellE
  rw [show gI (nw h k) k (gC h k) = fun _ => 0 from cl3_at, show gL (nw h k) k (gC h k) = fun _ => 0 from cl3_at, show gP (nw h k) k (gC h k) = fun _ => none from cl3_at]
section ALC
variable {E : EnvT} {own : String} {cc : ByteArray} {mL : Nat} {rt : Option FieldType} {nm : String} {d mc ms pc : Nat} {L : List (Option AVal)} {S : List AVal} {h : Hp} {c n : Nat}
theorem At9.new {ad : Nat → Nat → Nat} {ws : va_W} {H H1 : Heap} {locs : List Loc} {k q : Nat} {e : va_E} (h1 : At9 E ad ws H locs h) (hk : loK k = false) (hl : ∀ s, eY E k s = none) (he : cellR (eY E) (eDA E) (adN ad h k q) (fun _ => 0) (fun _ => 0) (fun _ => none) k (gC h k) = e) (hP : va_P (eD E) vwCl (ws ++ [(q, e)]) H1) (hD : va_D (fun q => eb E ≤ q) (ws ++ [(q, e)])) (hS : va_S (fun q => eb E ≤ q) (eS E).heap H1 locs) : At9 E (adN ad h k q) (ws ++ [(q, e)]) H1 locs (nw h k) := by
  have hq : eb E ≤ q := hD.2 ws.length (q, e) (by simp)
  have hne : ∀ k' i', i' < gC h k' → ad k' i' ≠ q := by
    intro k' i' hi e1
    cases h60 : loK k' with
    | true =>
      have := h1.1.2.2.2.2.1 k' i' h60 hi
      omega
    | false =>
      obtain ⟨j, hj⟩ := h1.1.at h60 hi
      have hjl := (List.getElem?_eq_some_iff.mp hj).1
      have := hD.1 j ws.length _ (q, e) (by rw [List.getElem?_append_left hjl]; exact hj) (by simp) e1
      omega
  refine ⟨⟨fun k' i' h60 hi => ?_, fun k1 i1 k2 i2 hl1 hi1 hi2 e1 => ?_, fun k' i' s hi p hp => ?_, fun k' s z i' hz hi => ?_, fun k' i hlo hi => ?_, fun k' i' s q9 hk2 e2 => ?_⟩, hP, hD, hS, fun k' i' hi => ?_⟩
  · rcases nw_C_inv hi with ⟨rfl, rfl⟩ | ⟨hi, hn⟩
    · rw [adN_new, cellE_nw, he]
      exact List.mem_append_right _ List.mem_cons_self
    · rw [adN_old hi]
      refine List.mem_append_left _ ?_
      have e9 : cellE (eY E) (eDA E) (adN ad h k q) (nw h k) k' i' = cellE (eY E) (eDA E) ad h k' i' := by
        unfold cellE
        rw [show gI (nw h k) k' i' = gI h k' i' from cl3_row hn, show gL (nw h k) k' i' = gL h k' i' from cl3_row hn, show gP (nw h k) k' i' = gP h k' i' from cl3_row hn]
        exact cellR_ext (fun s p hp => adN_old (h1.1.2.2.1 k' i' s hi p hp)) (fun s z hz => adN_old (h1.1.2.2.2.1 k' s z i' hz hi))
      rw [e9]
      exact h1.1.1 k' i' h60 hi
  · rcases nw_C_inv hi1 with ⟨rfl, rfl⟩ | ⟨g1, hn1⟩ <;> rcases nw_C_inv hi2 with ⟨rfl, rfl⟩ | ⟨g2, hn2⟩
    · exact ⟨rfl, rfl⟩
    · rw [adN_new, adN_old g2] at e1
      exact absurd e1.symm (hne _ _ g2)
    · rw [adN_new, adN_old g1] at e1
      exact absurd e1 (hne _ _ g1)
    · rw [adN_old g1, adN_old g2] at e1
      exact h1.1.2.1 _ _ _ _ hl1 g1 g2 e1
  · rcases nw_C_inv hi with ⟨rfl, rfl⟩ | ⟨hi, hn⟩
    · rw [show gP (nw h k') k' (gC h k') = fun _ => none from cl3_at] at hp
      cases hp
    · rw [show gP (nw h k) k' i' = gP h k' i' from cl3_row hn] at hp
      exact nw_C_le (h1.1.2.2.1 k' i' s hi p hp)
  · rcases nw_C_inv hi with ⟨rfl, rfl⟩ | ⟨hi, hn⟩
    · rw [hl] at hz
      cases hz
    · exact nw_C_le (h1.1.2.2.2.1 k' s z i' hz hi)
  · rw [nw_C, if_neg (fun e => by rw [e, hk] at hlo; cases hlo)] at hi
    rw [adN_old hi]
    exact h1.1.2.2.2.2.1 k' i hlo hi
  · by_cases hn : k' = k ∧ i' = gC h k
    · obtain ⟨rfl, rfl⟩ := hn
      rw [show gP (nw h k') k' (gC h k') = fun _ => none from cl3_at] at e2
      cases e2
    · rw [show gP (nw h k) k' i' = gP h k' i' from cl3_row hn] at e2
      exact h1.1.2.2.2.2.2 k' i' s q9 hk2 e2
  · obtain ⟨g1, g2⟩ := h1.2.2.2.2 k' i' hi
    exact ⟨nw_C_le g1, (adN_old g1).trans g2⟩
def dvl (t : Nat) : Value := match t with
  | 0 => .int 0
  | 1 => .long 0
  | _ => .null
theorem sw_fresh {ad : Nat → Nat → Nat} {ws : va_W} {H H1 : Heap} {locs : List Loc} {ls : Array Slot} {k q c1 n1 pc1 : Nat} {e : va_E} (h1 : At9 E ad ws H locs h) (h2 : ∀ v ∈ S, okv h v) (h3 : ∀ v, some v ∈ L → okv h v) (h4 : lv_has ls (eC E).maxLocals (lasc ad 0 L)) (hk : loK k = false) (hl : ∀ s, eY E k s = none) (he : cellR (eY E) (eDA E) (adN ad h k q) (fun _ => 0) (fun _ => 0) (fun _ => none) k (gC h k) = e) (hP : va_P (eD E) vwCl (ws ++ [(q, e)]) H1) (hD : va_D (fun q => eb E ≤ q) (ws ++ [(q, e)])) (hS : va_S (fun q => eb E ≤ q) (eS E).heap H1 locs) (kk : SW E pc1 (L, vP (some (k, gC h k)) :: S, nw h k, c1, n1)) : WE E H1 locs c1 n1 (F0 (eM E) pc1 ls (.ref q :: S.map (cv ad))) := by
  have hx : ∀ k' i', i' < gC h k' → adN ad h k q k' i' = ad k' i' := fun k' i' hi => adN_old hi
  have hc : ∀ k' i', i' < gC h k' → i' < gC (nw h k) k' := fun k' i' hi => nw_C_le hi
  have := kk (adN ad h k q) _ H1 locs ls (h1.new hk hl he hP hD hS) (okv_cons (fun v hv => okv_ext hc (h2 v hv)) (fun p hp => by cases hp; show gC h k < gC (nw h k) k; rw [nw_C, if_pos rfl]; omega)) (fun v hv => okv_ext hc (h3 v hv)) (by rw [lasc_ext hx h3]; exact h4)
  have e1 : ((vP (some (k, gC h k)) :: S).map (cv (adN ad h k q))) = .ref q :: S.map (cv ad) := by
    rw [List.map_cons]
    congr 1
    · show Value.ref (adN ad h k q k (gC h k)) = _
      rw [adN_new]
    · exact List.map_congr_left fun v hv => cv_ext hx (h2 v hv)
  rw [← e1]
  exact this
theorem sw_new {k ix : Nat} {C : String} {T : u_T} {N : Nat} (cx : CX E own cc mL rt nm d mc ms) (kd : KD k C T N) (hl : ∀ s, eY E k s = none) (hdv : ∀ s, s < N → defaultValue (kty k s) = dvl (fcode (kty k s))) (hcl : Cond.classLink own ix C ∈ wsG) (hinst : Cond.instantiable C N ∈ wsG) (hini : Cond.initialized C ∈ wsG) (hc : c + 1 ≤ mc) (hn : n + N ≤ ms) (hd : decode cc pc = .ok (.new ix, 3)) (kk : SW E (pc + 3) (L, vP (some (k, gC h k)) :: S, nw h k, c + 1, n + N)) : SW E pc (L, S, h, c, n) := by
  intro ad ws H locs ls h1 h2 h3 h4
  have hk60 := lo13 kd.1
  refine va_new (ci := k) (fs := (List.range N).map fun s => defaultValue (kty k s)) (C := C) (T := T) (N := N) cx.x cx.b cx.w kd.2.2.1 (kty k) kd.2.2.2.2.1 cx.o (cx.w _ hcl) (cx.w _ hinst) (cx.w _ hini) cx.k h1.2.1 h1.2.2.1 h1.2.2.2.1 (fun q hq => Nat.le_trans cx.z hq) kd.2.1 (fun j hj => by simp [vp_V, hj]) (room_le cx hc hn).1 (room_le cx hc hn).2 hd fun q H1 hP hD hS => ?_
  refine sw_fresh h1 h2 h3 h4 hk60 hl ?_ hP hD hS kk
  unfold cellR
  rw [if_pos kd.1, kd.2.2.2.2.2]
  congr 2
  refine List.map_congr_left fun s hs => ?_
  have hs : s < N := List.mem_range.mp hs
  rw [hdv s hs]
  unfold fvR
  rw [hl]
  unfold dvl
  match fcode (kty k s) with
  | 0 => rfl
  | 1 => rfl
  | _ + 2 => rfl
theorem arr_cls {tys : List (ClassId × FieldType)} {D : va_G} {cl : List vw_C} {s : State} {cA dA : ClassId} {ty : FieldType} {t0 : Nat} (h1 : va_K D cl (tys ++ [(cA, ty)]) s) (h2 : va_K D cl tys s) (ht : tys[t0]? = some (dA, ty)) : cA = dA := by
  have g1 := (h1.2 tys.length (cA, ty) (by simp)).2
  have g2 := (h2.2 t0 (dA, ty) ht).2
  cases ty with
  | object C =>
    obtain ⟨_, _, -, -, -, e1⟩ := g1
    obtain ⟨_, _, -, -, -, e2⟩ := g2
    exact Option.some.inj (e1.symm.trans e2)
  | _ => exact Option.some.inj (Eq.trans (Eq.symm g1) g2)
theorem sw_newa {k t z : Nat} {x : Int32} {at9 : ArrayType} {a0 : vp_A} (cx : CX E own cc mL rt nm d mc ms) (ka : AD k t z) (hl : ∀ s, eY E k s = none) (hty : newarray.typeOf at9 = aty t) (ht : (tysA (eDA E))[t]? = some (eDA E t, aty t)) (hac : Cond.arrayClass (aty t) ∈ wsG) (he : ∀ (lay : LayT) (dA : Nat → ClassId) (ad : Nat → Nat → Nat) i, cellR lay dA ad (fun _ => 0) (fun _ => 0) (fun _ => none) k i = .inl (dA t, a0)) (ha : ∀ cA, vp_cell cA a0 = arrV cA z (fun _ => defaultValue (aty t))) (hx0 : ¬ x < 0) (hx : x.toNatClampNeg = z) (hb : z * componentBytes (aty t) ≤ 536870912) (hc : c + 1 ≤ mc) (hn : n + z ≤ ms) (hd : decode cc pc = .ok (.newarray at9, 2)) (kk : SW E (pc + 2) (L, vP (some (k, gC h k)) :: S, nw h k, c + 1, n + z)) : SW E pc (L, vI x :: S, h, c, n) := by
  intro ad ws H locs ls h1 h2 h3 h4
  refine va_newa cx.x cx.b (by rw [hty]; exact cx.w _ hac) hty cx.k h1.2.1 h1.2.2.1 h1.2.2.2.1 (fun q hq => Nat.le_trans cx.z hq) ha hx0 hx hb (room_le cx hc hn).1 (room_le cx hc hn).2 hd fun q cA H1 hK hP hD hS => ?_
  have hcA := arr_cls hK cx.k ht
  subst hcA
  exact sw_fresh h1 (okv_tl h2) h3 h4 ka.2.1 hl (he _ _ _ _) hP hD hS kk
theorem sw_newq {k t z ix : Nat} {x : Int32} {C : String} (cx : CX E own cc mL rt nm d mc ms) (ka : AD k t z) (hl : ∀ s, eY E k s = none) (h4t : 4 ≤ t) (hty : aty t = .object C) (ht : (tysA (eDA E))[t]? = some (eDA E t, aty t)) (hao : va_AO C (eS E)) (hcl : Cond.classLink own ix C ∈ wsG) (hx0 : ¬ x < 0) (hx : x.toNatClampNeg = z) (hb : z * 4 ≤ 536870912) (hc : c + 1 ≤ mc) (hn : n + z ≤ ms) (hd : decode cc pc = .ok (.anewarray ix, 3)) (kk : SW E (pc + 3) (L, vP (some (k, gC h k)) :: S, nw h k, c + 1, n + z)) : SW E pc (L, vI x :: S, h, c, n) := by
  intro ad ws H locs ls h1 h2 h3 h4
  refine va_newq cx.x cx.b cx.o (cx.w _ hcl) hao cx.k h1.2.1 h1.2.2.1 h1.2.2.2.1 (fun q hq => Nat.le_trans cx.z hq) hx0 hx hb (room_le cx hc hn).1 (room_le cx hc hn).2 hd fun q cA H1 hK hP hD hS => ?_
  rw [hty] at ht
  have hcA := arr_cls hK cx.k ht
  subst hcA
  refine sw_fresh h1 (okv_tl h2) h3 h4 ka.2.1 hl ?_ hP hD hS kk
  unfold cellR ack alk
  rw [if_neg ka.1, ka.2.2]
  have a1 : t ≠ 1 := by omega
  have a2 : ¬ t < 4 := by omega
  simp [a1, a2]
end ALC
