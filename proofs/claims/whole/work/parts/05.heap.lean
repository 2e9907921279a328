/-! fields and arrays -/
def KD (k : Nat) (C : String) (T : u_T) (N : Nat) : Prop := k < 13 ∧ vwCl[k]? = some (C, T, N) ∧ (∀ w ∈ u_ws C T N, w ∈ wsG) ∧ (∀ a, a < N → ∀ b, b < N → a ≠ b → (T a).2.1 ≠ (T b).2.1) ∧ (∀ j, j < N → parseFieldDescriptor (T j).2.2.1 = some (kty k j)) ∧ knf k = N
def AD (k t n : Nat) : Prop := ¬ k < 13 ∧ loK k = false ∧ arow k = (t, n)
section HPS
variable {E : EnvT} {own : String} {cc : ByteArray} {mL : Nat} {rt : Option FieldType} {nm : String} {d mc ms pc : Nat} {L : List (Option AVal)} {S : List AVal} {h : Hp} {c n : Nat}
theorem okv_hd {v : AVal} (hs : ∀ w ∈ v :: S, okv h w) : okv h v := hs v List.mem_cons_self
theorem okv_tl {v : AVal} (hs : ∀ w ∈ v :: S, okv h w) : ∀ w ∈ S, okv h w := fun w hw => hs w (List.mem_cons_of_mem _ hw)
theorem ok_lt {k i : Nat} (hv : okv h (vP (some (k, i)))) : i < gC h k := hv (k, i) rfl
theorem sw_get {k i s : Nat} {C : String} {T : u_T} {N ix : Nat} {v : AVal} (cx : CX E own cc mL rt nm d mc ms) (kd : KD k C T N) (hs : s < N) (hv : ∀ ad, fvR (eY E) ad (gI h k i) (gL h k i) (gP h k i) k i s = cv ad v) (hok : ∀ ad ws, HR (eY E) (eDA E) (eb E) ad h ws → i < gC h k → okv h v) (hw : Cond.fieldLink own ix (T s).1 (T s).2.1 (T s).2.2.1 ∈ wsG) (hd : decode cc pc = .ok (.getfield ix, 3)) (kk : SW E (pc + 3) (L, v :: S, h, c, n)) : SW E pc (L, vP (some (k, i)) :: S, h, c, n) := by
  intro ad ws H locs ls h1 h2 h3 h4
  obtain ⟨hk, hc, hin, hnm, hty, hN⟩ := kd
  have hi := ok_lt (okv_hd h2)
  obtain ⟨q, hq⟩ := h1.1.at (lo13 hk) hi
  rw [cell_obj hk] at hq
  refine va_get (D := eD E) (ci := k) (v := cv ad v) (C := C) (T := T) (N := N) cx.x cx.b cx.w hin cx.o cx.k h1.2.1 q hq hc s hs (cx.w _ hw) (fun _ h9 => h9) ?_ hd (kk ad ws H locs ls h1 (okv_cons (okv_tl h2) (hok ad ws h1.1 hi)) h3 h4)
  have hsk : s < knf k := by omega
  simp [hsk, hv ad]
theorem sw_getI {k i s : Nat} {C : String} {T : u_T} {N ix : Nat} (cx : CX E own cc mL rt nm d mc ms) (kd : KD k C T N) (hs : s < N) (hl : eY E k s = none) (hf : fcode (kty k s) = 0) (hw : Cond.fieldLink own ix (T s).1 (T s).2.1 (T s).2.2.1 ∈ wsG) (hd : decode cc pc = .ok (.getfield ix, 3)) (kk : SW E (pc + 3) (L, vI (gI h k i s) :: S, h, c, n)) : SW E pc (L, vP (some (k, i)) :: S, h, c, n) :=
  sw_get (v := vI (gI h k i s)) cx kd hs (fun ad => by unfold fvR; rw [hl]; dsimp only; rw [hf]; rfl) (fun _ _ _ _ => trivial) hw hd kk
theorem sw_getP {k i s : Nat} {C : String} {T : u_T} {N ix : Nat} (cx : CX E own cc mL rt nm d mc ms) (kd : KD k C T N) (hs : s < N) (hl : eY E k s = none) (hf : fcode (kty k s) = 2) (hw : Cond.fieldLink own ix (T s).1 (T s).2.1 (T s).2.2.1 ∈ wsG) (hd : decode cc pc = .ok (.getfield ix, 3)) (kk : SW E (pc + 3) (L, vP (gP h k i s) :: S, h, c, n)) : SW E pc (L, vP (some (k, i)) :: S, h, c, n) :=
  sw_get (v := vP (gP h k i s)) cx kd hs (fun ad => by unfold fvR; rw [hl]; dsimp only; rw [hf]; rfl) (fun ad ws hR hi => hR.2.2.1 k i s hi) hw hd kk
theorem sw_getS {k i s z : Nat} {C : String} {T : u_T} {N ix : Nat} (cx : CX E own cc mL rt nm d mc ms) (kd : KD k C T N) (hs : s < N) (hl : eY E k s = some z) (hw : Cond.fieldLink own ix (T s).1 (T s).2.1 (T s).2.2.1 ∈ wsG) (hd : decode cc pc = .ok (.getfield ix, 3)) (kk : SW E (pc + 3) (L, vP (some (z, i)) :: S, h, c, n)) : SW E pc (L, vP (some (k, i)) :: S, h, c, n) :=
  sw_get (v := vP (some (z, i))) cx kd hs (fun ad => by unfold fvR; rw [hl]; rfl) (fun ad ws hR hi q hq => by cases hq; exact hR.2.2.2.1 k s z i hl hi) hw hd kk
theorem At9.put {ad : Nat → Nat → Nat} {ws : va_W} {H H1 : Heap} {locs locs1 : List Loc} {h' : Hp} {k i q : Nat} {e : va_E} (h1 : At9 E ad ws H locs h) (hk60 : loK k = false) (hi : i < gC h k) (hq : ws[q]? = some (ad k i, cellE (eY E) (eDA E) ad h k i)) (hC : gC h' = gC h) (he : cellE (eY E) (eDA E) ad h' k i = e) (ho : ∀ k' i', ¬ (k' = k ∧ i' = i) → cellE (eY E) (eDA E) ad h' k' i' = cellE (eY E) (eDA E) ad h k' i') (hp : ∀ k i s, i < gC h k → okp h (gP h' k i s)) (h6 : nlF h') (hP : va_P (eD E) vwCl (ws.set q (ad k i, e)) H1) (hD : va_D (fun q => eb E ≤ q) (ws.set q (ad k i, e))) (hS : va_S (fun q => eb E ≤ q) (eS E).heap H1 locs1) : At9 E ad (ws.set q (ad k i, e)) H1 locs1 h' :=
  ⟨h1.1.set hi hq hC he ho hp h6, hP, hD, hS, fun k i hk => by rw [hC]; exact h1.2.2.2.2 k i hk⟩
theorem okv_C {h' : Hp} (hC : gC h' = gC h) {v : AVal} (hv : okv h v) : okv h' v := by
  match v, hv with
  | .inl _, _ => trivial
  | .inr (.inl _), _ => trivial
  | .inr (.inr p), hv => intro q hq; rw [hC]; exact hv q hq
theorem sw_putI {k i s : Nat} {x : Int32} {C : String} {T : u_T} {N ix : Nat} (cx : CX E own cc mL rt nm d mc ms) (kd : KD k C T N) (hs : s < N) (hl : eY E k s = none) (hf : fcode (kty k s) = 0) (hfin : (T s).2.2.2 = false) (hn : narrow (kty k s) (.int x) = .int x) (hft : fits (kty k s) (.int x) = true) (hw : Cond.fieldLink own ix (T s).1 (T s).2.1 (T s).2.2.1 ∈ wsG) (hd : decode cc pc = .ok (.putfield ix, 3)) (kk : SW E (pc + 3) (L, S, wI h k i s x, c, n)) : SW E pc (L, vI x :: vP (some (k, i)) :: S, h, c, n) := by
  intro ad ws H locs ls h1 h2 h3 h4
  obtain ⟨hk, hc, hin, hnm, hty, hN⟩ := kd
  have hi := ok_lt (okv_hd (okv_tl h2))
  obtain ⟨q, hq⟩ := h1.1.at (lo13 hk) hi
  have hq' := hq
  rw [cell_obj hk] at hq'
  refine va_put (D := eD E) (ci := k) (v := .int x) (ty := kty k s) (C := C) (T := T) (N := N) cx.x cx.b cx.w hin (kty k) hty hnm cx.o cx.k h1.2.1 h1.2.2.1 h1.2.2.2.1 q hq' hc s hs (cx.w _ hw) (fun _ h9 => h9) hfin (hty s hs) hn hft (by simp; omega) hd fun H1 locs1 hP hD hS => ?_
  refine kk ad _ H1 locs1 ls (h1.put (lo13 hk) hi hq rfl (cell_wI_obj hk hl hf) (fun k' i' hne => cell_wI_ne hne) (fun k i s hi => h1.1.2.2.1 k i s hi) h1.1.2.2.2.2.2 hP hD hS) (okv_tl (okv_tl h2)) h3 h4
theorem sw_putIF {k i s : Nat} {x : Int32} {C : String} {T : u_T} {N ix : Nat} (cx : CX E own cc mL rt "<init>" d mc ms) (kd : KD k C T N) (hs : s < N) (hl : eY E k s = none) (hf : fcode (kty k s) = 0) (hfin : (T s).2.2.2 = true) (ho : (T s).1 = own) (hn : narrow (kty k s) (.int x) = .int x) (hft : fits (kty k s) (.int x) = true) (hw : Cond.fieldLink own ix (T s).1 (T s).2.1 (T s).2.2.1 ∈ wsG) (hd : decode cc pc = .ok (.putfield ix, 3)) (kk : SW E (pc + 3) (L, S, wI h k i s x, c, n)) : SW E pc (L, vI x :: vP (some (k, i)) :: S, h, c, n) := by
  intro ad ws H locs ls h1 h2 h3 h4
  obtain ⟨hk, hc, hin, hnm, hty, hN⟩ := kd
  have hi := ok_lt (okv_hd (okv_tl h2))
  obtain ⟨q, hq⟩ := h1.1.at (lo13 hk) hi
  have hq' := hq
  rw [cell_obj hk] at hq'
  refine va_putF (D := eD E) (ci := k) (v := .int x) (ty := kty k s) (C := C) (T := T) (N := N) cx.x cx.b cx.w hin (kty k) hty hnm cx.o cx.k h1.2.1 h1.2.2.1 h1.2.2.2.1 q hq' hc s hs (cx.w _ hw) (fun _ h9 => h9) hfin cx.nme ho (hty s hs) hn hft (by simp; omega) hd fun H1 locs1 hP hD hS => ?_
  refine kk ad _ H1 locs1 ls (h1.put (lo13 hk) hi hq rfl (cell_wI_obj hk hl hf) (fun k' i' hne => cell_wI_ne hne) (fun k i s hi => h1.1.2.2.1 k i s hi) h1.1.2.2.2.2.2 hP hD hS) (okv_tl (okv_tl h2)) h3 h4
theorem fit_obj {t : FieldType} (ht : fcode t = 2) (ad : Nat → Nat → Nat) (p : Option PtrT) : narrow t (cvp ad p) = cvp ad p ∧ fits t (cvp ad p) = true := by
  cases t <;> first | (simp [fcode] at ht; done) | (cases p <;> exact ⟨rfl, rfl⟩)
theorem sw_putP {k i s : Nat} {p : Option PtrT} {C : String} {T : u_T} {N ix : Nat} (cx : CX E own cc mL rt nm d mc ms) (kd : KD k C T N) (hs : s < N) (hl : eY E k s = none) (hf : fcode (kty k s) = 2) (hfin : (T s).2.2.2 = false) (hw : Cond.fieldLink own ix (T s).1 (T s).2.1 (T s).2.2.1 ∈ wsG) (hd : decode cc pc = .ok (.putfield ix, 3)) (hnl : nlw k p) (kk : SW E (pc + 3) (L, S, wP h k i s p, c, n)) : SW E pc (L, vP p :: vP (some (k, i)) :: S, h, c, n) := by
  intro ad ws H locs ls h1 h2 h3 h4
  obtain ⟨hk, hc, hin, hnm, hty, hN⟩ := kd
  have hi := ok_lt (okv_hd (okv_tl h2))
  obtain ⟨q, hq⟩ := h1.1.at (lo13 hk) hi
  have hq' := hq
  rw [cell_obj hk] at hq'
  refine va_put (D := eD E) (ci := k) (v := cvp ad p) (ty := kty k s) (C := C) (T := T) (N := N) cx.x cx.b cx.w hin (kty k) hty hnm cx.o cx.k h1.2.1 h1.2.2.1 h1.2.2.2.1 q hq' hc s hs (cx.w _ hw) (fun _ h9 => h9) hfin (hty s hs) (fit_obj hf ad p).1 (fit_obj hf ad p).2 (by simp; omega) hd fun H1 locs1 hP hD hS => ?_
  refine kk ad _ H1 locs1 ls (h1.put (lo13 hk) hi hq rfl (cell_wP_obj hk hl hf) (fun k' i' hne => cell_wP_ne hne) (fun k i s hi => okp_wP (h1.1.2.2.1 k i s hi) (okv_hd h2)) (nlF_wP h1.1.2.2.2.2.2 hnl) hP hD hS) (okv_tl (okv_tl h2)) h3 h4
theorem sw_putPF {k i s : Nat} {p : Option PtrT} {C : String} {T : u_T} {N ix : Nat} (cx : CX E own cc mL rt "<init>" d mc ms) (kd : KD k C T N) (hs : s < N) (hl : eY E k s = none) (hf : fcode (kty k s) = 2) (hfin : (T s).2.2.2 = true) (ho : (T s).1 = own) (hw : Cond.fieldLink own ix (T s).1 (T s).2.1 (T s).2.2.1 ∈ wsG) (hd : decode cc pc = .ok (.putfield ix, 3)) (hnl : nlw k p) (kk : SW E (pc + 3) (L, S, wP h k i s p, c, n)) : SW E pc (L, vP p :: vP (some (k, i)) :: S, h, c, n) := by
  intro ad ws H locs ls h1 h2 h3 h4
  obtain ⟨hk, hc, hin, hnm, hty, hN⟩ := kd
  have hi := ok_lt (okv_hd (okv_tl h2))
  obtain ⟨q, hq⟩ := h1.1.at (lo13 hk) hi
  have hq' := hq
  rw [cell_obj hk] at hq'
  refine va_putF (D := eD E) (ci := k) (v := cvp ad p) (ty := kty k s) (C := C) (T := T) (N := N) cx.x cx.b cx.w hin (kty k) hty hnm cx.o cx.k h1.2.1 h1.2.2.1 h1.2.2.2.1 q hq' hc s hs (cx.w _ hw) (fun _ h9 => h9) hfin cx.nme ho (hty s hs) (fit_obj hf ad p).1 (fit_obj hf ad p).2 (by simp; omega) hd fun H1 locs1 hP hD hS => ?_
  refine kk ad _ H1 locs1 ls (h1.put (lo13 hk) hi hq rfl (cell_wP_obj hk hl hf) (fun k' i' hne => cell_wP_ne hne) (fun k i s hi => okp_wP (h1.1.2.2.1 k i s hi) (okv_hd h2)) (nlF_wP h1.1.2.2.2.2.2 hnl) hP hD hS) (okv_tl (okv_tl h2)) h3 h4
theorem sw_iald {k i z : Nat} {j : Int32} (cx : CX E own cc mL rt nm d mc ms) (ka : AD k 0 z) (hj : vp_in j z) (hd : decode cc pc = .ok (.iaload, 1)) (kk : SW E (pc + 1) (L, vI (gI h k i (tN j)) :: S, h, c, n)) : SW E pc (L, vI j :: vP (some (k, i)) :: S, h, c, n) := by
  intro ad ws H locs ls h1 h2 h3 h4
  have hi := ok_lt (okv_hd (okv_tl h2))
  obtain ⟨q, hq⟩ := h1.1.at ka.2.1 hi
  rw [cell_arrI ka.1 ka.2.2 (by decide) (by decide)] at hq
  exact va_iald cx.x cx.b cx.k h1.2.1 q 0 hq rfl hj hd (kk ad ws H locs ls h1 (okv_cons (okv_tl (okv_tl h2)) trivial) h3 h4)
theorem sw_cald {k i z : Nat} {j : Int32} (cx : CX E own cc mL rt nm d mc ms) (ka : AD k 2 z) (hj : vp_in j z) (hd : decode cc pc = .ok (.caload, 1)) (kk : SW E (pc + 1) (L, vI (gI h k i (tN j)) :: S, h, c, n)) : SW E pc (L, vI j :: vP (some (k, i)) :: S, h, c, n) := by
  intro ad ws H locs ls h1 h2 h3 h4
  have hi := ok_lt (okv_hd (okv_tl h2))
  obtain ⟨q, hq⟩ := h1.1.at ka.2.1 hi
  rw [cell_arrI ka.1 ka.2.2 (by decide) (by decide)] at hq
  exact va_cald cx.x cx.b cx.k h1.2.1 q 2 hq rfl hj hd (kk ad ws H locs ls h1 (okv_cons (okv_tl (okv_tl h2)) trivial) h3 h4)
theorem sw_zald {k i z : Nat} {j : Int32} (cx : CX E own cc mL rt nm d mc ms) (ka : AD k 3 z) (hj : vp_in j z) (hd : decode cc pc = .ok (.baload, 1)) (kk : SW E (pc + 1) (L, vI (gI h k i (tN j)) :: S, h, c, n)) : SW E pc (L, vI j :: vP (some (k, i)) :: S, h, c, n) := by
  intro ad ws H locs ls h1 h2 h3 h4
  have hi := ok_lt (okv_hd (okv_tl h2))
  obtain ⟨q, hq⟩ := h1.1.at ka.2.1 hi
  rw [cell_arrI ka.1 ka.2.2 (by decide) (by decide)] at hq
  exact va_zald cx.x cx.b cx.k h1.2.1 q 3 hq rfl hj hd (kk ad ws H locs ls h1 (okv_cons (okv_tl (okv_tl h2)) trivial) h3 h4)
theorem sw_lald {k i z : Nat} {j : Int32} (cx : CX E own cc mL rt nm d mc ms) (ka : AD k 1 z) (hj : vp_in j z) (hd : decode cc pc = .ok (.laload, 1)) (kk : SW E (pc + 1) (L, vL (gL h k i (tN j)) :: S, h, c, n)) : SW E pc (L, vI j :: vP (some (k, i)) :: S, h, c, n) := by
  intro ad ws H locs ls h1 h2 h3 h4
  have hi := ok_lt (okv_hd (okv_tl h2))
  obtain ⟨q, hq⟩ := h1.1.at ka.2.1 hi
  rw [cell_arrL ka.1 ka.2.2] at hq
  exact va_lald cx.x cx.b cx.k h1.2.1 q 1 hq rfl hj hd (kk ad ws H locs ls h1 (okv_cons (okv_tl (okv_tl h2)) trivial) h3 h4)
theorem tys_obj {dA : Nat → ClassId} {t : Nat} (h4 : 4 ≤ t) (h8 : t < 8) : ∃ C, (tysA dA)[t]? = some (dA t, .object C) ∧ aty t = .object C := by
  match t, h4, h8 with
  | 4, _, _ => exact ⟨_, rfl, rfl⟩
  | 5, _, _ => exact ⟨_, rfl, rfl⟩
  | 6, _, _ => exact ⟨_, rfl, rfl⟩
  | 7, _, _ => exact ⟨_, rfl, rfl⟩
theorem sw_aald {k i z t : Nat} {j : Int32} (cx : CX E own cc mL rt nm d mc ms) (ka : AD k t z) (h4 : 4 ≤ t) (h8 : t < 8) (hj : vp_in j z) (hd : decode cc pc = .ok (.aaload, 1)) (kk : SW E (pc + 1) (L, vP (gP h k i (tN j)) :: S, h, c, n)) : SW E pc (L, vI j :: vP (some (k, i)) :: S, h, c, n) := by
  intro ad ws H locs ls h1 h2 h3 h4'
  have hi := ok_lt (okv_hd (okv_tl h2))
  obtain ⟨q, hq⟩ := h1.1.at ka.2.1 hi
  rw [cell_arrP ka.1 ka.2.2 h4] at hq
  obtain ⟨C, hC, -⟩ := tys_obj (dA := eDA E) h4 h8
  exact va_aldq cx.x cx.b cx.k h1.2.1 q t hq hC hj hd (kk ad ws H locs ls h1 (okv_cons (okv_tl (okv_tl h2)) (h1.1.2.2.1 k i _ hi)) h3 h4')
theorem sw_iast {k i z : Nat} {j x : Int32} (cx : CX E own cc mL rt nm d mc ms) (ka : AD k 0 z) (hj : vp_in j z) (hd : decode cc pc = .ok (.iastore, 1)) (kk : SW E (pc + 1) (L, S, wI h k i (tN j) x, c, n)) : SW E pc (L, vI x :: vI j :: vP (some (k, i)) :: S, h, c, n) := by
  intro ad ws H locs ls h1 h2 h3 h4
  have hi := ok_lt (okv_hd (okv_tl (okv_tl h2)))
  obtain ⟨q, hq⟩ := h1.1.at ka.2.1 hi
  have hq' := hq
  rw [cell_arrI ka.1 ka.2.2 (by decide) (by decide)] at hq'
  refine va_iast cx.x cx.b cx.k h1.2.1 h1.2.2.1 h1.2.2.2.1 q 0 hq' rfl hj hd fun H1 locs1 hP hD hS => ?_
  exact kk ad _ H1 locs1 ls (h1.put ka.2.1 hi hq rfl (by rw [cell_arrI ka.1 ka.2.2 (by decide) (by decide), wI_upd]; rfl) (fun k' i' hne => cell_wI_ne hne) (fun k i s hi => h1.1.2.2.1 k i s hi) h1.1.2.2.2.2.2 hP hD hS) (okv_tl (okv_tl (okv_tl h2))) h3 h4
theorem sw_cast {k i z : Nat} {j x : Int32} (cx : CX E own cc mL rt nm d mc ms) (ka : AD k 2 z) (hj : vp_in j z) (hd : decode cc pc = .ok (.castore, 1)) (kk : SW E (pc + 1) (L, S, wI h k i (tN j) (vp_nar .char x), c, n)) : SW E pc (L, vI x :: vI j :: vP (some (k, i)) :: S, h, c, n) := by
  intro ad ws H locs ls h1 h2 h3 h4
  have hi := ok_lt (okv_hd (okv_tl (okv_tl h2)))
  obtain ⟨q, hq⟩ := h1.1.at ka.2.1 hi
  have hq' := hq
  rw [cell_arrI ka.1 ka.2.2 (by decide) (by decide)] at hq'
  refine va_cast cx.x cx.b cx.k h1.2.1 h1.2.2.1 h1.2.2.2.1 q 2 hq' rfl hj hd fun H1 locs1 hP hD hS => ?_
  exact kk ad _ H1 locs1 ls (h1.put ka.2.1 hi hq rfl (by rw [cell_arrI ka.1 ka.2.2 (by decide) (by decide), wI_upd]; rfl) (fun k' i' hne => cell_wI_ne hne) (fun k i s hi => h1.1.2.2.1 k i s hi) h1.1.2.2.2.2.2 hP hD hS) (okv_tl (okv_tl (okv_tl h2))) h3 h4
theorem sw_zast {k i z : Nat} {j x : Int32} (cx : CX E own cc mL rt nm d mc ms) (ka : AD k 3 z) (hj : vp_in j z) (hd : decode cc pc = .ok (.bastore, 1)) (kk : SW E (pc + 1) (L, S, wI h k i (tN j) (vp_nar .boolean x), c, n)) : SW E pc (L, vI x :: vI j :: vP (some (k, i)) :: S, h, c, n) := by
  intro ad ws H locs ls h1 h2 h3 h4
  have hi := ok_lt (okv_hd (okv_tl (okv_tl h2)))
  obtain ⟨q, hq⟩ := h1.1.at ka.2.1 hi
  have hq' := hq
  rw [cell_arrI ka.1 ka.2.2 (by decide) (by decide)] at hq'
  refine va_zast cx.x cx.b cx.k h1.2.1 h1.2.2.1 h1.2.2.2.1 q 3 hq' rfl hj hd fun H1 locs1 hP hD hS => ?_
  exact kk ad _ H1 locs1 ls (h1.put ka.2.1 hi hq rfl (by rw [cell_arrI ka.1 ka.2.2 (by decide) (by decide), wI_upd]; rfl) (fun k' i' hne => cell_wI_ne hne) (fun k i s hi => h1.1.2.2.1 k i s hi) h1.1.2.2.2.2.2 hP hD hS) (okv_tl (okv_tl (okv_tl h2))) h3 h4
theorem sw_last {k i z : Nat} {j : Int32} {x : Int64} (cx : CX E own cc mL rt nm d mc ms) (ka : AD k 1 z) (hj : vp_in j z) (hd : decode cc pc = .ok (.lastore, 1)) (kk : SW E (pc + 1) (L, S, wL h k i (tN j) x, c, n)) : SW E pc (L, vL x :: vI j :: vP (some (k, i)) :: S, h, c, n) := by
  intro ad ws H locs ls h1 h2 h3 h4
  have hi := ok_lt (okv_hd (okv_tl (okv_tl h2)))
  obtain ⟨q, hq⟩ := h1.1.at ka.2.1 hi
  have hq' := hq
  rw [cell_arrL ka.1 ka.2.2] at hq'
  refine va_last cx.x cx.b cx.k h1.2.1 h1.2.2.1 h1.2.2.2.1 q 1 hq' rfl hj hd fun H1 locs1 hP hD hS => ?_
  exact kk ad _ H1 locs1 ls (h1.put ka.2.1 hi hq rfl (by rw [cell_arrL ka.1 ka.2.2, wL_upd]; rfl) (fun k' i' hne => cell_wL_ne hne) (fun k i s hi => h1.1.2.2.1 k i s hi) h1.1.2.2.2.2.2 hP hD hS) (okv_tl (okv_tl (okv_tl h2))) h3 h4
theorem sw_aast {k i z t k2 i2 : Nat} {j : Int32} {r : vw_C} (cx : CX E own cc mL rt nm d mc ms) (ka : AD k t z) (h4 : 4 ≤ t) (h8 : t < 8) (hk2 : k2 < 13) (hc : vwCl[k2]? = some r) (hr : aty t = .object r.1) (hj : vp_in j z) (hd : decode cc pc = .ok (.aastore, 1)) (kk : SW E (pc + 1) (L, S, wP h k i (tN j) (some (k2, i2)), c, n)) : SW E pc (L, vP (some (k2, i2)) :: vI j :: vP (some (k, i)) :: S, h, c, n) := by
  intro ad ws H locs ls h1 h2 h3 h4'
  have hi := ok_lt (okv_hd (okv_tl (okv_tl h2)))
  have hi2 := ok_lt (okv_hd h2)
  obtain ⟨q, hq⟩ := h1.1.at ka.2.1 hi
  obtain ⟨q2, hq2⟩ := h1.1.at (lo13 hk2) hi2
  have hq' := hq
  rw [cell_arrP ka.1 ka.2.2 h4] at hq'
  rw [cell_obj hk2] at hq2
  obtain ⟨C, hC, hC2⟩ := tys_obj (dA := eDA E) h4 h8
  have hCr : FieldType.object C = .object r.1 := hC2.symm.trans hr
  rw [hCr] at hC
  refine va_astq cx.x cx.b cx.k h1.2.1 h1.2.2.1 h1.2.2.2.1 q t q2 k2 hq' hC hq2 hc hj hd fun H1 locs1 hP hD hS => ?_
  refine kk ad _ H1 locs1 ls (h1.put ka.2.1 hi hq rfl (by rw [cell_arrP ka.1 ka.2.2 h4, wP_upd]; rfl) (fun k' i' hne => cell_wP_ne hne) (fun k i s hi => okp_wP (h1.1.2.2.1 k i s hi) (okv_hd h2)) (nlF_wP h1.1.2.2.2.2.2 (nlw_some (lo13 hk2))) hP hD hS) (okv_tl (okv_tl (okv_tl h2))) h3 h4'
end HPS
