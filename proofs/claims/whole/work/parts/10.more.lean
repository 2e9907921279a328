/-! division, the larger of two, the layouts -/
def oDiv : Op9 := fun σ => match σ.2.1 with
  | .inl y :: .inl x :: S => ([¬ y = 0], (σ.1, vI (x / y) :: S, σ.2.2))
  | _ => ([False], σ)
def oMax (mc ms : Nat) : Op9 := fun σ => match σ.2.1 with
  | [.inl y, .inl x] => ([σ.2.2.2.1 ≤ mc, σ.2.2.2.2 ≤ ms], (σ.1, [vI (if x < y then y else x)], σ.2.2))
  | _ => ([False], σ)
section MOR
variable {E : EnvT} {own : String} {cc : ByteArray} {mL : Nat} {rt : Option FieldType} {nm : String} {d mc ms pc : Nat}
theorem sn_idiv (cx : CX E own cc mL rt nm d mc ms) (hd : decode cc pc = .ok (.idiv, 1)) : Sn E pc oDiv (pc + 1) := by
  rintro ⟨L, S, h, c, n⟩ g kk
  unfold oDiv at g kk
  dsimp only at g kk
  split at g
  · rename_i y x S
    exact fun ad ws H locs ls h1 h2 h3 h4 => lv_idiv cx.x cx.b hd g (kk ad ws H locs ls h1 (okv_cons (okv_tl (okv_tl h2)) trivial) h3 h4)
  · exact absurd g allP_F
theorem sn_lcz (cx : CX E own cc mL rt nm d mc ms) {z : Fin 2} {v : Int64} (hd : decode cc pc = .ok (.lconst z, 1)) (hv : Int64.ofNat z.val = v) : Sn E pc (oS (fC (vL v))) (pc + 1) := sn_C (fun _ => trivial) fun _ _ _ _ _ _ _ k => lv_lconst cx.x cx.b hd hv k
theorem sn_max (cx : CX E own cc mL rt nm (d + 1) mc ms) {ix : Nat} (hw : Cond.methodLink own ix Lib.Math.max.name ∈ wsG) (hs : Cond.static Lib.Math.max.name ∈ wsG) (hi : Cond.initialized "java/lang/Math" ∈ wsG) (hc : Cond.code Lib.Math.max.name Lib.Math.max.code 2 (some .int) ∈ wsG) (hd : decode cc pc = .ok (.invokestatic ix, 3)) : Sn E pc (oMax mc ms) (pc + 3) := by
  rintro ⟨L, S, h, c, n⟩ g kk
  unfold oMax at g kk
  dsimp only at g kk
  split at g
  · rename_i y x
    have g : c ≤ mc ∧ n ≤ ms := g
    have r1 := cx.rm.1
    have r2 := cx.rm.2.1
    have r3 := cx.rm.2.2.1
    have r4 := cx.rm.2.2.2
    have r5 : c ≤ (eR E).cells := by omega
    have r6 : n ≤ (eR E).slots := by omega
    exact fun ad ws H locs ls h1 h2 h3 h4 => va_mmax (rest := []) cx.x cx.b h4.1.symm cx.o (cx.w _ hw) (cx.w _ hs) (cx.w _ hi) (cx.w _ hc) (by omega) (by show 0 + 13 ≤ _; omega) r5 r6 hd (kk ad ws H locs ls h1 (okv_cons (okv_tl (okv_tl h2)) trivial) h3 h4)
  · exact absurd g allP_F
end MOR
theorem ixp_some {k i : Nat} : ixp (some (k, i)) = i := rfl
