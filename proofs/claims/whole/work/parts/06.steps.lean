/-! the heap's operations as steps; u: the pointer isn't written out, the guard names it -/
def oGI (k s : Nat) : Op9 := fun σ => match σ.2.1 with
  | .inr (.inr (some (k', i))) :: S => if k' = k then ([], (σ.1, vI (gI σ.2.2.1 k i s) :: S, σ.2.2)) else ([False], σ)
  | _ => ([False], σ)
def oGIu (k s : Nat) : Op9 := fun σ => match σ.2.1 with
  | .inr (.inr p) :: S => ([p = some (k, ixp p)], (σ.1, vI (gI σ.2.2.1 k (ixp p) s) :: S, σ.2.2))
  | _ => ([False], σ)
def oGP (k s : Nat) : Op9 := fun σ => match σ.2.1 with
  | .inr (.inr (some (k', i))) :: S => if k' = k then ([], (σ.1, vP (gP σ.2.2.1 k i s) :: S, σ.2.2)) else ([False], σ)
  | _ => ([False], σ)
def oGPu (k s : Nat) : Op9 := fun σ => match σ.2.1 with
  | .inr (.inr p) :: S => ([p = some (k, ixp p)], (σ.1, vP (gP σ.2.2.1 k (ixp p) s) :: S, σ.2.2))
  | _ => ([False], σ)
def oGS (k z : Nat) : Op9 := fun σ => match σ.2.1 with
  | .inr (.inr (some (k', i))) :: S => if k' = k then ([], (σ.1, vP (some (z, i)) :: S, σ.2.2)) else ([False], σ)
  | _ => ([False], σ)
def oGSu (k z : Nat) : Op9 := fun σ => match σ.2.1 with
  | .inr (.inr p) :: S => ([p = some (k, ixp p)], (σ.1, vP (some (z, ixp p)) :: S, σ.2.2))
  | _ => ([False], σ)
def oPI (k s : Nat) : Op9 := fun σ => match σ.2.1 with
  | .inl x :: .inr (.inr (some (k', i))) :: S => if k' = k then ([], (σ.1, S, wI σ.2.2.1 k i s x, σ.2.2.2)) else ([False], σ)
  | _ => ([False], σ)
def oPIu (k s : Nat) : Op9 := fun σ => match σ.2.1 with
  | .inl x :: .inr (.inr p) :: S => ([p = some (k, ixp p)], (σ.1, S, wI σ.2.2.1 k (ixp p) s x, σ.2.2.2))
  | _ => ([False], σ)
def oPZ (k s : Nat) : Op9 := fun σ => match σ.2.1 with
  | .inl x :: .inr (.inr (some (k', i))) :: S => if k' = k then ([x = 0 ∨ x = 1], (σ.1, S, wI σ.2.2.1 k i s x, σ.2.2.2)) else ([False], σ)
  | _ => ([False], σ)
def oPP (k s : Nat) : Op9 := fun σ => match σ.2.1 with
  | .inr (.inr q) :: .inr (.inr (some (k', i))) :: S => if k' = k then ([nlw k q], (σ.1, S, wP σ.2.2.1 k i s q, σ.2.2.2)) else ([False], σ)
  | _ => ([False], σ)
def oAI (k z : Nat) : Op9 := fun σ => match σ.2.1 with
  | .inl j :: .inr (.inr (some (k', i))) :: S => if k' = k then ([vp_in j z], (σ.1, vI (gI σ.2.2.1 k i (tN j)) :: S, σ.2.2)) else ([False], σ)
  | _ => ([False], σ)
def oAL (k z : Nat) : Op9 := fun σ => match σ.2.1 with
  | .inl j :: .inr (.inr (some (k', i))) :: S => if k' = k then ([vp_in j z], (σ.1, vL (gL σ.2.2.1 k i (tN j)) :: S, σ.2.2)) else ([False], σ)
  | _ => ([False], σ)
def oAP (k z : Nat) : Op9 := fun σ => match σ.2.1 with
  | .inl j :: .inr (.inr (some (k', i))) :: S => if k' = k then ([vp_in j z], (σ.1, vP (gP σ.2.2.1 k i (tN j)) :: S, σ.2.2)) else ([False], σ)
  | _ => ([False], σ)
def oTI (k z : Nat) (f : Int32 → Int32) : Op9 := fun σ => match σ.2.1 with
  | .inl x :: .inl j :: .inr (.inr (some (k', i))) :: S => if k' = k then ([vp_in j z], (σ.1, S, wI σ.2.2.1 k i (tN j) (f x), σ.2.2.2)) else ([False], σ)
  | _ => ([False], σ)
def oTL (k z : Nat) : Op9 := fun σ => match σ.2.1 with
  | .inr (.inl x) :: .inl j :: .inr (.inr (some (k', i))) :: S => if k' = k then ([vp_in j z], (σ.1, S, wL σ.2.2.1 k i (tN j) x, σ.2.2.2)) else ([False], σ)
  | _ => ([False], σ)
def oTP (k z k2 : Nat) : Op9 := fun σ => match σ.2.1 with
  | .inr (.inr q) :: .inl j :: .inr (.inr (some (k', i))) :: S => if k' = k then ([q = some (k2, ixp q), vp_in j z], (σ.1, S, wP σ.2.2.1 k i (tN j) q, σ.2.2.2)) else ([False], σ)
  | _ => ([False], σ)
section HST
variable {E : EnvT} {own : String} {cc : ByteArray} {mL : Nat} {rt : Option FieldType} {nm : String} {d mc ms pc : Nat}
theorem sn_getI {k s : Nat} {C : String} {T : u_T} {N ix : Nat} (cx : CX E own cc mL rt nm d mc ms) (kd : KD k C T N) (hs : s < N) (hl : eY E k s = none) (hf : fcode (kty k s) = 0) (hw : Cond.fieldLink own ix (T s).1 (T s).2.1 (T s).2.2.1 ∈ wsG) (hd : decode cc pc = .ok (.getfield ix, 3)) : Sn E pc (oGI k s) (pc + 3) := by
  rintro ⟨L, S, h, c, n⟩ g kk
  unfold oGI at g kk
  dsimp only at g kk
  split at g
  · rename_i k' i S
    split at g
    · rename_i hk
      subst hk
      simp only [if_true] at kk
      exact sw_getI cx kd hs hl hf hw hd kk
    · exact absurd g allP_F
  · exact absurd g allP_F
theorem sn_getIu {k s : Nat} {C : String} {T : u_T} {N ix : Nat} (cx : CX E own cc mL rt nm d mc ms) (kd : KD k C T N) (hs : s < N) (hl : eY E k s = none) (hf : fcode (kty k s) = 0) (hw : Cond.fieldLink own ix (T s).1 (T s).2.1 (T s).2.2.1 ∈ wsG) (hd : decode cc pc = .ok (.getfield ix, 3)) : Sn E pc (oGIu k s) (pc + 3) := by
  rintro ⟨L, S, h, c, n⟩ g kk
  unfold oGIu at g kk
  dsimp only at g kk
  split at g
  · rename_i p S
    have g : p = some (k, ixp p) := g
    dsimp only at kk
    rw [g]
    exact sw_getI cx kd hs hl hf hw hd kk
  · exact absurd g allP_F
theorem sn_getP {k s : Nat} {C : String} {T : u_T} {N ix : Nat} (cx : CX E own cc mL rt nm d mc ms) (kd : KD k C T N) (hs : s < N) (hl : eY E k s = none) (hf : fcode (kty k s) = 2) (hw : Cond.fieldLink own ix (T s).1 (T s).2.1 (T s).2.2.1 ∈ wsG) (hd : decode cc pc = .ok (.getfield ix, 3)) : Sn E pc (oGP k s) (pc + 3) := by
  rintro ⟨L, S, h, c, n⟩ g kk
  unfold oGP at g kk
  dsimp only at g kk
  split at g
  · rename_i k' i S
    split at g
    · rename_i hk
      subst hk
      simp only [if_true] at kk
      exact sw_getP cx kd hs hl hf hw hd kk
    · exact absurd g allP_F
  · exact absurd g allP_F
theorem sn_getPu {k s : Nat} {C : String} {T : u_T} {N ix : Nat} (cx : CX E own cc mL rt nm d mc ms) (kd : KD k C T N) (hs : s < N) (hl : eY E k s = none) (hf : fcode (kty k s) = 2) (hw : Cond.fieldLink own ix (T s).1 (T s).2.1 (T s).2.2.1 ∈ wsG) (hd : decode cc pc = .ok (.getfield ix, 3)) : Sn E pc (oGPu k s) (pc + 3) := by
  rintro ⟨L, S, h, c, n⟩ g kk
  unfold oGPu at g kk
  dsimp only at g kk
  split at g
  · rename_i p S
    have g : p = some (k, ixp p) := g
    dsimp only at kk
    rw [g]
    exact sw_getP cx kd hs hl hf hw hd kk
  · exact absurd g allP_F
theorem sn_getS {k s z : Nat} {C : String} {T : u_T} {N ix : Nat} (cx : CX E own cc mL rt nm d mc ms) (kd : KD k C T N) (hs : s < N) (hl : eY E k s = some z) (hw : Cond.fieldLink own ix (T s).1 (T s).2.1 (T s).2.2.1 ∈ wsG) (hd : decode cc pc = .ok (.getfield ix, 3)) : Sn E pc (oGS k z) (pc + 3) := by
  rintro ⟨L, S, h, c, n⟩ g kk
  unfold oGS at g kk
  dsimp only at g kk
  split at g
  · rename_i k' i S
    split at g
    · rename_i hk
      subst hk
      simp only [if_true] at kk
      exact sw_getS cx kd hs hl hw hd kk
    · exact absurd g allP_F
  · exact absurd g allP_F
theorem sn_getSu {k s z : Nat} {C : String} {T : u_T} {N ix : Nat} (cx : CX E own cc mL rt nm d mc ms) (kd : KD k C T N) (hs : s < N) (hl : eY E k s = some z) (hw : Cond.fieldLink own ix (T s).1 (T s).2.1 (T s).2.2.1 ∈ wsG) (hd : decode cc pc = .ok (.getfield ix, 3)) : Sn E pc (oGSu k z) (pc + 3) := by
  rintro ⟨L, S, h, c, n⟩ g kk
  unfold oGSu at g kk
  dsimp only at g kk
  split at g
  · rename_i p S
    have g : p = some (k, ixp p) := g
    dsimp only at kk
    rw [g]
    exact sw_getS cx kd hs hl hw hd kk
  · exact absurd g allP_F
theorem fit_int {t : FieldType} (ht : t = .int) (x : Int32) : narrow t (.int x) = .int x ∧ fits t (.int x) = true := by
  subst ht
  exact ⟨vp_nar_int x, rfl⟩
theorem fit_z {t : FieldType} (ht : t = .boolean) {x : Int32} (hx : x = 0 ∨ x = 1) : narrow t (.int x) = .int x ∧ fits t (.int x) = true := by
  subst ht
  rcases hx with rfl | rfl
  · exact ⟨by decide, by decide⟩
  · exact ⟨by decide, by decide⟩
theorem fc_int {t : FieldType} (ht : t = .int) : fcode t = 0 := by subst ht; rfl
theorem fc_z {t : FieldType} (ht : t = .boolean) : fcode t = 0 := by subst ht; rfl
theorem sn_putI {k s : Nat} {C : String} {T : u_T} {N ix : Nat} (cx : CX E own cc mL rt nm d mc ms) (kd : KD k C T N) (hs : s < N) (hl : eY E k s = none) (ht : kty k s = .int) (hfin : (T s).2.2.2 = false) (hw : Cond.fieldLink own ix (T s).1 (T s).2.1 (T s).2.2.1 ∈ wsG) (hd : decode cc pc = .ok (.putfield ix, 3)) : Sn E pc (oPI k s) (pc + 3) := by
  rintro ⟨L, S, h, c, n⟩ g kk
  unfold oPI at g kk
  dsimp only at g kk
  split at g
  · rename_i x k' i S
    split at g
    · rename_i hk
      subst hk
      simp only [if_true] at kk
      exact sw_putI cx kd hs hl (fc_int ht) hfin (fit_int ht x).1 (fit_int ht x).2 hw hd kk
    · exact absurd g allP_F
  · exact absurd g allP_F
theorem sn_putIu {k s : Nat} {C : String} {T : u_T} {N ix : Nat} (cx : CX E own cc mL rt nm d mc ms) (kd : KD k C T N) (hs : s < N) (hl : eY E k s = none) (ht : kty k s = .int) (hfin : (T s).2.2.2 = false) (hw : Cond.fieldLink own ix (T s).1 (T s).2.1 (T s).2.2.1 ∈ wsG) (hd : decode cc pc = .ok (.putfield ix, 3)) : Sn E pc (oPIu k s) (pc + 3) := by
  rintro ⟨L, S, h, c, n⟩ g kk
  unfold oPIu at g kk
  dsimp only at g kk
  split at g
  · rename_i x p S
    have g : p = some (k, ixp p) := g
    dsimp only at kk
    rw [g]
    exact sw_putI cx kd hs hl (fc_int ht) hfin (fit_int ht x).1 (fit_int ht x).2 hw hd kk
  · exact absurd g allP_F
theorem sn_putIF {k s : Nat} {C : String} {T : u_T} {N ix : Nat} (cx : CX E own cc mL rt "<init>" d mc ms) (kd : KD k C T N) (hs : s < N) (hl : eY E k s = none) (ht : kty k s = .int) (hfin : (T s).2.2.2 = true) (ho : (T s).1 = own) (hw : Cond.fieldLink own ix (T s).1 (T s).2.1 (T s).2.2.1 ∈ wsG) (hd : decode cc pc = .ok (.putfield ix, 3)) : Sn E pc (oPI k s) (pc + 3) := by
  rintro ⟨L, S, h, c, n⟩ g kk
  unfold oPI at g kk
  dsimp only at g kk
  split at g
  · rename_i x k' i S
    split at g
    · rename_i hk
      subst hk
      simp only [if_true] at kk
      exact sw_putIF cx kd hs hl (fc_int ht) hfin ho (fit_int ht x).1 (fit_int ht x).2 hw hd kk
    · exact absurd g allP_F
  · exact absurd g allP_F
theorem sn_putZ {k s : Nat} {C : String} {T : u_T} {N ix : Nat} (cx : CX E own cc mL rt nm d mc ms) (kd : KD k C T N) (hs : s < N) (hl : eY E k s = none) (ht : kty k s = .boolean) (hfin : (T s).2.2.2 = false) (hw : Cond.fieldLink own ix (T s).1 (T s).2.1 (T s).2.2.1 ∈ wsG) (hd : decode cc pc = .ok (.putfield ix, 3)) : Sn E pc (oPZ k s) (pc + 3) := by
  rintro ⟨L, S, h, c, n⟩ g kk
  unfold oPZ at g kk
  dsimp only at g kk
  split at g
  · rename_i x k' i S
    split at g
    · rename_i hk
      subst hk
      simp only [if_true] at kk
      have g : x = 0 ∨ x = 1 := g
      exact sw_putI cx kd hs hl (fc_z ht) hfin (fit_z ht g).1 (fit_z ht g).2 hw hd kk
    · exact absurd g allP_F
  · exact absurd g allP_F
theorem sn_putP {k s : Nat} {C : String} {T : u_T} {N ix : Nat} (cx : CX E own cc mL rt nm d mc ms) (kd : KD k C T N) (hs : s < N) (hl : eY E k s = none) (hf : fcode (kty k s) = 2) (hfin : (T s).2.2.2 = false) (hw : Cond.fieldLink own ix (T s).1 (T s).2.1 (T s).2.2.1 ∈ wsG) (hd : decode cc pc = .ok (.putfield ix, 3)) : Sn E pc (oPP k s) (pc + 3) := by
  rintro ⟨L, S, h, c, n⟩ g kk
  unfold oPP at g kk
  dsimp only at g kk
  split at g
  · rename_i q k' i S
    split at g
    · rename_i hk
      subst hk
      simp only [if_true] at kk
      exact sw_putP cx kd hs hl hf hfin hw hd g kk
    · exact absurd g allP_F
  · exact absurd g allP_F
theorem sn_putPF {k s : Nat} {C : String} {T : u_T} {N ix : Nat} (cx : CX E own cc mL rt "<init>" d mc ms) (kd : KD k C T N) (hs : s < N) (hl : eY E k s = none) (hf : fcode (kty k s) = 2) (hfin : (T s).2.2.2 = true) (ho : (T s).1 = own) (hw : Cond.fieldLink own ix (T s).1 (T s).2.1 (T s).2.2.1 ∈ wsG) (hd : decode cc pc = .ok (.putfield ix, 3)) : Sn E pc (oPP k s) (pc + 3) := by
  rintro ⟨L, S, h, c, n⟩ g kk
  unfold oPP at g kk
  dsimp only at g kk
  split at g
  · rename_i q k' i S
    split at g
    · rename_i hk
      subst hk
      simp only [if_true] at kk
      exact sw_putPF cx kd hs hl hf hfin ho hw hd g kk
    · exact absurd g allP_F
  · exact absurd g allP_F
theorem sn_AI {k z : Nat} (row : ∀ L S h c n i j, vp_in j z → SW E (pc + 1) (L, vI (gI h k i (tN j)) :: S, h, c, n) → SW E pc (L, vI j :: vP (some (k, i)) :: S, h, c, n)) : Sn E pc (oAI k z) (pc + 1) := by
  rintro ⟨L, S, h, c, n⟩ g kk
  unfold oAI at g kk
  dsimp only at g kk
  split at g
  · rename_i j k' i S
    split at g
    · rename_i hk
      subst hk
      simp only [if_true] at kk
      exact row _ _ _ _ _ _ _ g kk
    · exact absurd g allP_F
  · exact absurd g allP_F
theorem sn_iaload {k z : Nat} (cx : CX E own cc mL rt nm d mc ms) (ka : AD k 0 z) (hd : decode cc pc = .ok (.iaload, 1)) : Sn E pc (oAI k z) (pc + 1) := sn_AI fun _ _ _ _ _ _ _ g kk => sw_iald cx ka g hd kk
theorem sn_caload {k z : Nat} (cx : CX E own cc mL rt nm d mc ms) (ka : AD k 2 z) (hd : decode cc pc = .ok (.caload, 1)) : Sn E pc (oAI k z) (pc + 1) := sn_AI fun _ _ _ _ _ _ _ g kk => sw_cald cx ka g hd kk
theorem sn_zaload {k z : Nat} (cx : CX E own cc mL rt nm d mc ms) (ka : AD k 3 z) (hd : decode cc pc = .ok (.baload, 1)) : Sn E pc (oAI k z) (pc + 1) := sn_AI fun _ _ _ _ _ _ _ g kk => sw_zald cx ka g hd kk
theorem sn_laload {k z : Nat} (cx : CX E own cc mL rt nm d mc ms) (ka : AD k 1 z) (hd : decode cc pc = .ok (.laload, 1)) : Sn E pc (oAL k z) (pc + 1) := by
  rintro ⟨L, S, h, c, n⟩ g kk
  unfold oAL at g kk
  dsimp only at g kk
  split at g
  · rename_i j k' i S
    split at g
    · rename_i hk
      subst hk
      simp only [if_true] at kk
      exact sw_lald cx ka g hd kk
    · exact absurd g allP_F
  · exact absurd g allP_F
theorem sn_aaload {k z t : Nat} (cx : CX E own cc mL rt nm d mc ms) (ka : AD k t z) (h4 : 4 ≤ t) (h8 : t < 8) (hd : decode cc pc = .ok (.aaload, 1)) : Sn E pc (oAP k z) (pc + 1) := by
  rintro ⟨L, S, h, c, n⟩ g kk
  unfold oAP at g kk
  dsimp only at g kk
  split at g
  · rename_i j k' i S
    split at g
    · rename_i hk
      subst hk
      simp only [if_true] at kk
      exact sw_aald cx ka h4 h8 g hd kk
    · exact absurd g allP_F
  · exact absurd g allP_F
theorem sn_TI {k z : Nat} {f : Int32 → Int32} (row : ∀ L S h c n i j x, vp_in j z → SW E (pc + 1) (L, S, wI h k i (tN j) (f x), c, n) → SW E pc (L, vI x :: vI j :: vP (some (k, i)) :: S, h, c, n)) : Sn E pc (oTI k z f) (pc + 1) := by
  rintro ⟨L, S, h, c, n⟩ g kk
  unfold oTI at g kk
  dsimp only at g kk
  split at g
  · rename_i x j k' i S
    split at g
    · rename_i hk
      subst hk
      simp only [if_true] at kk
      exact row _ _ _ _ _ _ _ _ g kk
    · exact absurd g allP_F
  · exact absurd g allP_F
theorem sn_iastore {k z : Nat} (cx : CX E own cc mL rt nm d mc ms) (ka : AD k 0 z) (hd : decode cc pc = .ok (.iastore, 1)) : Sn E pc (oTI k z (fun x => x)) (pc + 1) := sn_TI fun _ _ _ _ _ _ _ _ g kk => sw_iast cx ka g hd kk
theorem sn_castore {k z : Nat} (cx : CX E own cc mL rt nm d mc ms) (ka : AD k 2 z) (hd : decode cc pc = .ok (.castore, 1)) : Sn E pc (oTI k z (vp_nar .char)) (pc + 1) := sn_TI fun _ _ _ _ _ _ _ _ g kk => sw_cast cx ka g hd kk
theorem sn_zastore {k z : Nat} (cx : CX E own cc mL rt nm d mc ms) (ka : AD k 3 z) (hd : decode cc pc = .ok (.bastore, 1)) : Sn E pc (oTI k z (vp_nar .boolean)) (pc + 1) := sn_TI fun _ _ _ _ _ _ _ _ g kk => sw_zast cx ka g hd kk
theorem sn_lastore {k z : Nat} (cx : CX E own cc mL rt nm d mc ms) (ka : AD k 1 z) (hd : decode cc pc = .ok (.lastore, 1)) : Sn E pc (oTL k z) (pc + 1) := by
  rintro ⟨L, S, h, c, n⟩ g kk
  unfold oTL at g kk
  dsimp only at g kk
  split at g
  · rename_i x j k' i S
    split at g
    · rename_i hk
      subst hk
      simp only [if_true] at kk
      exact sw_last cx ka g hd kk
    · exact absurd g allP_F
  · exact absurd g allP_F
theorem sn_aastore {k z t k2 : Nat} {r : vw_C} (cx : CX E own cc mL rt nm d mc ms) (ka : AD k t z) (h4 : 4 ≤ t) (h8 : t < 8) (hk2 : k2 < 13) (hc : vwCl[k2]? = some r) (hr : aty t = .object r.1) (hd : decode cc pc = .ok (.aastore, 1)) : Sn E pc (oTP k z k2) (pc + 1) := by
  rintro ⟨L, S, h, c, n⟩ g kk
  unfold oTP at g kk
  dsimp only at g kk
  split at g
  · rename_i q j k' i S
    split at g
    · rename_i hk
      subst hk
      simp only [if_true] at kk
      have g : q = some (k2, ixp q) ∧ vp_in j z := g
      rw [g.1] at kk ⊢
      exact sw_aast cx ka h4 h8 hk2 hc hr g.2 hd kk
    · exact absurd g allP_F
  · exact absurd g allP_F
end HST
