/-! the script; look's contracts -/
def Scr (E : EnvT) (Ls : Nat) (xs : Nat → Int32) : Prop := 0 < gC (eh0 E) 61 ∧ ea0 E 61 0 < eb E ∧ va_X (ea0 E 61 0) Ls xs (eS E) (eS E).heap
def oScr (Ls : Nat) (xs : Nat → Int32) : Op9 := fun σ => match σ.2.1 with
  | .inl j :: .inr (.inr (some (k, i))) :: S => if k = 61 then (if i = 0 then ([vp_in j Ls], (σ.1, vI (xs (tN j)) :: S, σ.2.2)) else ([False], σ)) else ([False], σ)
  | _ => ([False], σ)
def oScL (Ls : Nat) : Op9 := fun σ => match σ.2.1 with
  | .inr (.inr (some (k, i))) :: S => if k = 61 then (if i = 0 then ([], (σ.1, vI (nJ Ls) :: S, σ.2.2)) else ([False], σ)) else ([False], σ)
  | _ => ([False], σ)
section
variable {E : EnvT} {own : String} {cc : ByteArray} {mL : Nat} {rt : Option FieldType} {nm : String} {d mc ms pc : Nat} {Ls : Nat} {xs : Nat → Int32}
theorem Scr.at {ad : Nat → Nat → Nat} {ws : va_W} {H : Heap} {locs : List Loc} {h : Hp} (sc : Scr E Ls xs) (h1 : At9 E ad ws H locs h) : ad 61 0 = ea0 E 61 0 := (h1.2.2.2.2 61 0 sc.1).2
theorem sn_scr (cx : CX E own cc mL rt nm d mc ms) (sc : Scr E Ls xs) (hd : decode cc pc = .ok (.iaload, 1)) : Sn E pc (oScr Ls xs) (pc + 1) := by
  rintro ⟨L, S, h, c, n⟩ g kk
  unfold oScr at g kk
  dsimp only at g kk
  split at g
  · rename_i j k i S
    by_cases hk : k = 61
    case neg => rw [if_neg hk] at g; exact absurd g allP_F
    subst hk
    dsimp only at kk
    rw [if_pos rfl] at g kk
    by_cases hi : i = 0
    case neg => rw [if_neg hi] at g; exact absurd g allP_F
    subst hi
    rw [if_pos rfl] at g kk
    intro ad ws H locs ls h1 h2 h3 h4
    have e := sc.at h1
    have := kk ad ws H locs ls h1 (okv_cons (okv_tl (okv_tl h2)) trivial) h3 h4
    show WE E H locs c n (F0 (eM E) pc ls (Value.int j :: Value.ref (ad 61 0) :: S.map (cv ad)))
    rw [e]
    have hz := cx.z
    have hb := sc.2.1
    exact va_sld cx.x cx.b sc.2.2 (Nat.lt_of_lt_of_le hb hz) (fun z => Nat.not_le_of_lt hb z) h1.2.2.2.1 g hd this
  · exact absurd g allP_F
theorem sn_scl (cx : CX E own cc mL rt nm d mc ms) (sc : Scr E Ls xs) (hd : decode cc pc = .ok (.arraylength, 1)) : Sn E pc (oScL Ls) (pc + 1) := by
  rintro ⟨L, S, h, c, n⟩ g kk
  unfold oScL at g kk
  dsimp only at g kk
  split at g
  · rename_i k i S
    by_cases hk : k = 61
    case neg => rw [if_neg hk] at g; exact absurd g allP_F
    subst hk
    dsimp only at kk
    rw [if_pos rfl] at g kk
    by_cases hi : i = 0
    case neg => rw [if_neg hi] at g; exact absurd g allP_F
    subst hi
    rw [if_pos rfl] at g kk
    intro ad ws H locs ls h1 h2 h3 h4
    have e := sc.at h1
    have := kk ad ws H locs ls h1 (okv_cons (okv_tl h2) trivial) h3 h4
    show WE E H locs c n (F0 (eM E) pc ls (Value.ref (ad 61 0) :: S.map (cv ad)))
    rw [e]
    have hz := cx.z
    have hb := sc.2.1
    exact va_slen cx.x cx.b sc.2.2 (Nat.lt_of_lt_of_le hb hz) (fun z => Nat.not_le_of_lt hb z) h1.2.2.2.1 hd this
  · exact absurd g allP_F
end
section
variable {l : Launch} {d : Nat} {h : Hp} {a1 a2 : Int32}
theorem vc_X11_look_bad (hl : l.stackTraces = false) (hb : lbad a1 a2 h) (hv : (0 ≤ a1 ∧ a1 ≤ gI h 11 0 8 - 1) → vp_in a1 60) : CtX l (d + 8) a1 a2 h := by
  refine CtX.of fun E cx ex hle hY h0 ht => ?_
  subst hle
  refine k_X11_look_0 cx hY (ctY hY (vc_X11_within (d := d + 6) (Q := fun x h2 => x = bI (0 ≤ a1 ∧ a1 ≤ gI h 11 0 8 - 1) ∧ h2 = h) (xwithin.mpr ⟨rfl, rfl⟩))) (by omega) (by omega) (by omega) (fun r h2 hp => ?_)
  obtain ⟨x, rfl, rfl, rfl⟩ := hp
  refine k_X11_look_11 cx hY (fun z => ?_) (fun z => ?_)
  · have c : 0 ≤ a1 ∧ a1 ≤ gI h2 11 0 8 - 1 := Classical.byContradiction fun y => z (bI_n y)
    have hb : a2.toInt < 0 ∨ 5 < a2.toInt := hb.resolve_left fun y => y c
    refine k_X11_look_24 cx hY (hv c) (fun _ => ?_) (fun j t hj e => ?_)
    · exact sw_throw (i := 10) cx hl ex ht (by omega) rfl (by decide +kernel) (by decide +kernel) (by decide +kernel) (by decide +kernel) (by decide +kernel) h0.symm (by omega) (by omega)
    · exfalso
      have := (List.getElem?_eq_some_iff.mp hj).1
      simp only [List.length_cons, List.length_nil] at this
      omega
  · exact sw_throw (i := 9) cx hl ex ht (by omega) rfl (by decide +kernel) (by decide +kernel) (by decide +kernel) (by decide +kernel) (by decide +kernel) h0.symm (by omega) (by omega)
theorem vc_X11_look_good {g : Nat} {r : Int32} (hb : ¬ lbad a1 a2 h) (hv : vp_in a1 60) (hg : gP h 23 0 (tN a1) = some (2, g)) (hr : lkR h g a2 r) : Ct l lay1 yX11_look cX11_look 4 (some .int) (d + 2) 0 0 [vP (some (11, 0)), vI a1, vI a2] h (fun r' h2 => r' = [vI r] ∧ h2 = h) := by
  refine Ct.of (by decide +kernel) (Nat.le_of_ble_eq_true rfl) fun E cx eq hl hY => ?_
  refine k_X11_look_0 cx hY (ctY hY (vc_X11_within (d := d + 0) (Q := fun x h2 => x = bI (0 ≤ a1 ∧ a1 ≤ gI h 11 0 8 - 1) ∧ h2 = h) (xwithin.mpr ⟨rfl, rfl⟩))) (by omega) (by omega) (by omega) (fun r' h2 hp => ?_)
  obtain ⟨x, rfl, rfl, rfl⟩ := hp
  unfold lbad at hb
  have c : 0 ≤ a1 ∧ a1 ≤ gI h2 11 0 8 - 1 := Classical.byContradiction fun y => hb (Or.inl y)
  refine k_X11_look_11 cx hY (fun z => ?_) (fun z => absurd z (by rw [bI_c c]; decide))
  refine k_X11_look_24 cx hY hv (fun z => absurd (Or.inr z) hb) (fun j t hj e => ?_)
  rw [hg]
  rcases hr with ⟨e0, rfl⟩ | ⟨e0, q⟩ | ⟨e0, rfl⟩ | ⟨e0, rfl⟩ | ⟨e0, rfl⟩ | ⟨e0, q⟩
  · have ej : j = 0 := by omega
    subst ej; cases hj
    exact k_X11_look_72 cx hY eq (by omega) (by omega) ⟨rfl, rfl⟩
  · have ej : j = 1 := by omega
    subst ej; cases hj
    rcases q with ⟨q, rfl⟩ | ⟨t, q, rfl⟩
    · exact k_X11_look_77 cx hY (fun z => absurd q z) (fun _ => k_X11_look_84 cx hY (k_X11_look_95 cx hY eq (by omega) (by omega) ⟨rfl, rfl⟩))
    · exact k_X11_look_77 cx hY (fun _ => k_X11_look_88 cx hY q (k_X11_look_95 cx hY eq (by omega) (by omega) ⟨rfl, rfl⟩)) (fun z => by rw [q] at z; cases z)
  · have ej : j = 2 := by omega
    subst ej; cases hj
    exact k_X11_look_96 cx hY eq (by omega) (by omega) ⟨rfl, rfl⟩
  · have ej : j = 3 := by omega
    subst ej; cases hj
    exact k_X11_look_101 cx hY eq (by omega) (by omega) ⟨rfl, rfl⟩
  · have ej : j = 4 := by omega
    subst ej; cases hj
    exact k_X11_look_106 cx hY eq (by omega) (by omega) ⟨rfl, rfl⟩
  · have ej : j = 5 := by omega
    subst ej; cases hj
    rcases q with ⟨q, rfl⟩ | ⟨q, rfl⟩
    · exact k_X11_look_111 cx hY (fun z => absurd q z) (fun _ => k_X11_look_119 cx hY (k_X11_look_127 cx hY eq (by omega) (by omega) ⟨rfl, rfl⟩))
    · exact k_X11_look_111 cx hY (fun _ => k_X11_look_126 cx hY (k_X11_look_127 cx hY eq (by omega) (by omega) ⟨rfl, rfl⟩)) (fun z => absurd z q)
end
