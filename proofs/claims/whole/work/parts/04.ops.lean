/-! locals, fields, arrays -/
def ixp (p : Option PtrT) : Nat := (p.getD (0, 0)).2
def tN (j : Int32) : Nat := j.toNatClampNeg
def oLd (i : Nat) (want : Nat) : Op9 := fun σ => match σ.1[i]? with
  | some (some (.inl x)) => if want = 0 then ([], (σ.1, vI x :: σ.2.1, σ.2.2)) else ([False], σ)
  | some (some (.inr (.inl x))) => if want = 1 then ([], (σ.1, vL x :: σ.2.1, σ.2.2)) else ([False], σ)
  | some (some (.inr (.inr p))) => if want = 2 then ([], (σ.1, vP p :: σ.2.1, σ.2.2)) else ([False], σ)
  | _ => ([False], σ)
def oSt (i : Nat) (mL : Nat) (want : Nat) : Op9 := fun σ => match σ.2.1 with
  | .inl x :: S => if want = 0 ∧ i < mL then ([], (lst1 σ.1 i (vI x), S, σ.2.2)) else ([False], σ)
  | .inr (.inl x) :: S => if want = 1 ∧ i + 1 < mL then ([], (lst2 σ.1 i (vL x), S, σ.2.2)) else ([False], σ)
  | .inr (.inr p) :: S => if want = 2 ∧ i < mL then ([], (lst1 σ.1 i (vP p), S, σ.2.2)) else ([False], σ)
  | _ => ([False], σ)
def oInc (i : Nat) (mL : Nat) (z : Int32) : Op9 := fun σ => match σ.1[i]? with
  | some (some (.inl x)) => if i < mL then ([], (lst1 σ.1 i (vI (x + z)), σ.2)) else ([False], σ)
  | _ => ([False], σ)
def idP (p : Prop) : Prop := p
theorem allP_F : ¬ allP [False] := id
section OPL
variable {E : EnvT} {own : String} {cc : ByteArray} {mL : Nat} {rt : Option FieldType} {nm : String} {d mc ms pc : Nat}
theorem okv_mem {L : List (Option AVal)} {h : Hp} (hl : ∀ v, some v ∈ L → okv h v) {i : Nat} {v : AVal} (hi : L[i]? = some (some v)) : okv h v := hl v (List.mem_of_getElem? hi)
theorem okv_cons {S : List AVal} {h : Hp} (hs : ∀ v ∈ S, okv h v) {v : AVal} (hv : okv h v) : ∀ w ∈ v :: S, okv h w := fun w hw => by
  rcases List.mem_cons.mp hw with rfl | hw
  · exact hv
  · exact hs w hw
theorem sn_Ld {i want len : Nat} (rowI : want = 0 → ∀ H locs c n ls rest x, ls[i]? = some (.val (.int x)) → WE E H locs c n (F0 (eM E) (pc + len) ls (.int x :: rest)) → WE E H locs c n (F0 (eM E) pc ls rest)) (rowL : want = 1 → ∀ H locs c n ls rest x, ls[i]? = some (.val (.long x)) → WE E H locs c n (F0 (eM E) (pc + len) ls (.long x :: rest)) → WE E H locs c n (F0 (eM E) pc ls rest)) (rowR : want = 2 → ∀ H locs c n ls rest x, ls[i]? = some (.val (.ref x)) → WE E H locs c n (F0 (eM E) (pc + len) ls (.ref x :: rest)) → WE E H locs c n (F0 (eM E) pc ls rest)) (rowN : want = 2 → ∀ H locs c n ls rest, ls[i]? = some (.val .null) → WE E H locs c n (F0 (eM E) (pc + len) ls (.null :: rest)) → WE E H locs c n (F0 (eM E) pc ls rest)) : Sn E pc (oLd i want) (pc + len) := by
  rintro ⟨L, S, h, c, n⟩ g k
  unfold oLd at g k
  dsimp only at g k
  split at g
  · rename_i x hx
    split at g
    · rename_i hw
      rw [hx] at k
      simp only [hw, if_true] at k
      exact fun ad ws H locs ls h1 h2 h3 h4 => rowI hw _ _ _ _ _ _ _ (has_at h4 hx) (k ad ws H locs ls h1 (okv_cons h2 trivial) h3 h4)
    · exact absurd g allP_F
  · rename_i x hx
    split at g
    · rename_i hw
      rw [hx] at k
      simp only [hw, if_true] at k
      exact fun ad ws H locs ls h1 h2 h3 h4 => rowL hw _ _ _ _ _ _ _ (has_at h4 hx) (k ad ws H locs ls h1 (okv_cons h2 trivial) h3 h4)
    · exact absurd g allP_F
  · rename_i p hx
    split at g
    · rename_i hw
      rw [hx] at k
      simp only [hw, if_true] at k
      intro ad ws H locs ls h1 h2 h3 h4
      have hk := k ad ws H locs ls h1 (okv_cons h2 (okv_mem h3 hx)) h3 h4
      have ha := has_at h4 hx
      cases p with
      | none => exact rowN hw _ _ _ _ _ _ ha hk
      | some q => exact rowR hw _ _ _ _ _ _ _ ha hk
    · exact absurd g allP_F
  · exact absurd g allP_F
theorem sn_iload (cx : CX E own cc mL rt nm d mc ms) {i : Nat} (hd : decode cc pc = .ok (.iload i, 2)) : Sn E pc (oLd i 0) (pc + 2) := sn_Ld (fun _ _ _ _ _ _ _ _ hl k => lv_iload cx.x cx.b hd hl k) (fun h => by cases h) (fun h => by cases h) (fun h => by cases h)
theorem sn_iload_n (cx : CX E own cc mL rt nm d mc ms) {j : Fin 4} {i : Nat} (hd : decode cc pc = .ok (.iload_n j, 1)) (hi : (j : Nat) = i) : Sn E pc (oLd i 0) (pc + 1) := sn_Ld (fun _ _ _ _ _ _ _ _ hl k => lv_iload_n cx.x cx.b hd hi hl k) (fun h => by cases h) (fun h => by cases h) (fun h => by cases h)
theorem sn_lload (cx : CX E own cc mL rt nm d mc ms) {i : Nat} (hd : decode cc pc = .ok (.lload i, 2)) : Sn E pc (oLd i 1) (pc + 2) := sn_Ld (fun h => by cases h) (fun _ _ _ _ _ _ _ _ hl k => lv_lload cx.x cx.b hd hl k) (fun h => by cases h) (fun h => by cases h)
theorem sn_lload_n (cx : CX E own cc mL rt nm d mc ms) {j : Fin 4} {i : Nat} (hd : decode cc pc = .ok (.lload_n j, 1)) (hi : (j : Nat) = i) : Sn E pc (oLd i 1) (pc + 1) := sn_Ld (fun h => by cases h) (fun _ _ _ _ _ _ _ _ hl k => lv_lload_n cx.x cx.b hd hi hl k) (fun h => by cases h) (fun h => by cases h)
theorem sn_aload (cx : CX E own cc mL rt nm d mc ms) {i : Nat} (hd : decode cc pc = .ok (.aload i, 2)) : Sn E pc (oLd i 2) (pc + 2) := sn_Ld (fun h => by cases h) (fun h => by cases h) (fun _ _ _ _ _ _ _ _ hl k => lv_aload cx.x cx.b hd hl k) (fun _ _ _ _ _ _ _ hl k => lv_aloadN cx.x cx.b hd hl k)
theorem sn_aload_n (cx : CX E own cc mL rt nm d mc ms) {j : Fin 4} {i : Nat} (hd : decode cc pc = .ok (.aload_n j, 1)) (hi : (j : Nat) = i) : Sn E pc (oLd i 2) (pc + 1) := sn_Ld (fun h => by cases h) (fun h => by cases h) (fun _ _ _ _ _ _ _ _ hl k => lv_aload_n cx.x cx.b hd hi hl k) (fun _ _ _ _ _ _ _ hl k => lv_aload_nN cx.x cx.b hd hi hl k)
theorem sn_St {i want len : Nat} (hml : (eC E).maxLocals = mL) (rowI : want = 0 → ∀ H locs c n ls lv rest x, lv_has ls mL lv → i < mL → (∀ ls', lv_has ls' mL ((i, Value.int x) :: lv.filter (fun q => !(q.1 == i) && !(q.1 + 1 == i && q.2.category == 2))) → WE E H locs c n (F0 (eM E) (pc + len) ls' rest)) → WE E H locs c n (F0 (eM E) pc ls (.int x :: rest))) (rowL : want = 1 → ∀ H locs c n ls lv rest x, lv_has ls mL lv → i + 1 < mL → (∀ ls', lv_has ls' mL ((i, Value.long x) :: lv.filter (fun q => !(q.1 == i) && (!(q.1 == i + 1) && !(q.1 + 1 == i && q.2.category == 2)))) → WE E H locs c n (F0 (eM E) (pc + len) ls' rest)) → WE E H locs c n (F0 (eM E) pc ls (.long x :: rest))) (rowR : want = 2 → ∀ H locs c n ls lv rest x, lv_has ls mL lv → i < mL → (∀ ls', lv_has ls' mL ((i, Value.ref x) :: lv.filter (fun q => !(q.1 == i) && !(q.1 + 1 == i && q.2.category == 2))) → WE E H locs c n (F0 (eM E) (pc + len) ls' rest)) → WE E H locs c n (F0 (eM E) pc ls (.ref x :: rest))) (rowN : want = 2 → ∀ H locs c n ls lv rest, lv_has ls mL lv → i < mL → (∀ ls', lv_has ls' mL ((i, Value.null) :: lv.filter (fun q => !(q.1 == i) && !(q.1 + 1 == i && q.2.category == 2))) → WE E H locs c n (F0 (eM E) (pc + len) ls' rest)) → WE E H locs c n (F0 (eM E) pc ls (.null :: rest))) : Sn E pc (oSt i mL want) (pc + len) := by
  rintro ⟨L, S, h, c, n⟩ g k
  unfold oSt at g k
  dsimp only at g k
  split at g
  · rename_i x S
    split at g
    · rename_i hw
      simp only [hw, if_true, and_self] at k
      intro ad ws H locs ls h1 h2 h3 h4
      rw [hml] at h4
      refine rowI hw.1 _ _ _ _ _ _ _ _ h4 hw.2 fun ls' hl => ?_
      exact k ad ws H locs ls' h1 (fun v hv => h2 v (List.mem_cons_of_mem _ hv)) (lst1_ok h3 trivial) (by rw [hml]; exact has_st1 (v := vI x) hl)
    · exact absurd g allP_F
  · rename_i x S
    split at g
    · rename_i hw
      simp only [hw, if_true, and_self] at k
      intro ad ws H locs ls h1 h2 h3 h4
      rw [hml] at h4
      refine rowL hw.1 _ _ _ _ _ _ _ _ h4 hw.2 fun ls' hl => ?_
      exact k ad ws H locs ls' h1 (fun v hv => h2 v (List.mem_cons_of_mem _ hv)) (lst2_ok h3 trivial) (by rw [hml]; exact has_st2 (v := vL x) hl)
    · exact absurd g allP_F
  · rename_i p S
    split at g
    · rename_i hw
      simp only [hw, if_true, and_self] at k
      intro ad ws H locs ls h1 h2 h3 h4
      rw [hml] at h4
      have hk : ∀ ls', lv_has ls' mL ((i, cv ad (vP p)) :: (lasc ad 0 L).filter (fun q => !(q.1 == i) && !(q.1 + 1 == i && q.2.category == 2))) → WE E H locs c n (F0 (eM E) (pc + len) ls' (S.map (cv ad))) := fun ls' hl => k ad ws H locs ls' h1 (fun v hv => h2 v (List.mem_cons_of_mem _ hv)) (lst1_ok h3 (h2 _ List.mem_cons_self)) (by rw [hml]; exact has_st1 (v := vP p) hl)
      cases p with
      | none => exact rowN hw.1 _ _ _ _ _ _ _ h4 hw.2 hk
      | some q => exact rowR hw.1 _ _ _ _ _ _ _ _ h4 hw.2 hk
    · exact absurd g allP_F
  · exact absurd g allP_F
theorem sn_istore (cx : CX E own cc mL rt nm d mc ms) {i : Nat} (hd : decode cc pc = .ok (.istore i, 2)) : Sn E pc (oSt i mL 0) (pc + 2) := sn_St cx.l (fun _ _ _ _ _ _ _ _ _ h hn k => lv_istore cx.x cx.b hd h hn rfl k) (fun h => by cases h) (fun h => by cases h) (fun h => by cases h)
theorem sn_istore_n (cx : CX E own cc mL rt nm d mc ms) {j : Fin 4} {i : Nat} (hd : decode cc pc = .ok (.istore_n j, 1)) (hi : (j : Nat) = i) : Sn E pc (oSt i mL 0) (pc + 1) := sn_St cx.l (fun _ _ _ _ _ _ _ _ _ h hn k => lv_istore_n cx.x cx.b hd hi h hn rfl k) (fun h => by cases h) (fun h => by cases h) (fun h => by cases h)
theorem sn_lstore (cx : CX E own cc mL rt nm d mc ms) {i : Nat} (hd : decode cc pc = .ok (.lstore i, 2)) : Sn E pc (oSt i mL 1) (pc + 2) := sn_St cx.l (fun h => by cases h) (fun _ _ _ _ _ _ _ _ _ h hn k => lv_lstore cx.x cx.b hd h hn rfl k) (fun h => by cases h) (fun h => by cases h)
theorem sn_astore (cx : CX E own cc mL rt nm d mc ms) {i : Nat} (hd : decode cc pc = .ok (.astore i, 2)) : Sn E pc (oSt i mL 2) (pc + 2) := sn_St cx.l (fun h => by cases h) (fun h => by cases h) (fun _ _ _ _ _ _ _ _ _ h hn k => lv_astore cx.x cx.b hd h hn rfl k) (fun _ _ _ _ _ _ _ _ h hn k => lv_astoreN cx.x cx.b hd h hn rfl k)
theorem sn_astore_n (cx : CX E own cc mL rt nm d mc ms) {j : Fin 4} {i : Nat} (hd : decode cc pc = .ok (.astore_n j, 1)) (hi : (j : Nat) = i) : Sn E pc (oSt i mL 2) (pc + 1) := sn_St cx.l (fun h => by cases h) (fun h => by cases h) (fun _ _ _ _ _ _ _ _ _ h hn k => lv_astore_n cx.x cx.b hd hi h hn rfl k) (fun _ _ _ _ _ _ _ _ h hn k => lv_astore_nN cx.x cx.b hd hi h hn rfl k)
theorem sn_iinc (cx : CX E own cc mL rt nm d mc ms) {i : Nat} {z : Int} {y : Int32} (hd : decode cc pc = .ok (.iinc i z, 3)) (hy : Int32.ofInt z = y) : Sn E pc (oInc i mL y) (pc + 3) := by
  rintro ⟨L, S, h, c, n⟩ g k
  unfold oInc at g k
  dsimp only at g k
  split at g
  · rename_i x hx
    split at g
    · rename_i hw
      rw [hx] at k
      simp only [hw, if_true] at k
      intro ad ws H locs ls h1 h2 h3 h4
      rw [cx.l] at h4
      obtain ⟨q, hq⟩ := List.getElem?_of_mem (lasc_mem.mpr ⟨i, vI x, hx, by rw [Nat.zero_add]⟩ : (i, cv ad (vI x)) ∈ lasc ad 0 L)
      refine lv_iinc cx.x cx.b hd h4 hq (v := x + y) (by rw [hy]) hw rfl fun ls' hl => ?_
      exact k ad ws H locs ls' h1 h2 (lst1_ok h3 trivial) (by rw [cx.l]; exact has_st1 (v := vI (x + y)) hl)
    · exact absurd g allP_F
  · exact absurd g allP_F
end OPL
