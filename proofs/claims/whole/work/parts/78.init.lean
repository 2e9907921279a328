/-! the constructors, from nothing -/
def hZ : Hp := (fun k => if k = 60 then 11 else if k = 61 then 1 else if k = 62 then 11 else 0, fun _ _ _ => 0, fun _ _ _ => 0, fun _ _ _ => none)
def wInit : Prop := wp_X11_init (nw hZ 11) fun h1 => gC h1 12 = 0 ∧ wp_X12_init (nw h1 12) fun h2 => gC h2 39 = 0 ∧ fOk (nw h2 39)
theorem vp_lit {n z : Nat} (h : n < z) (hn : n < 1000000) : vp_in (nJ n) z := (vp_nJ (by omega)).mpr h
theorem w3_step {Q : Hp → Prop} {N i : Nat} {h : Hp} (hi : i < 8) (hp : gP h 3 0 3 = some (38, 0)) (k : w_X3_init_31 Q N (nJ (i + 1)) (wI h 38 0 i (-1))) : w_X3_init_31 Q (N + 1) (nJ i) h := by
  refine ⟨fun z => ?_, fun _ => ⟨hp, vp_lit hi (by omega), ?_⟩⟩
  · exfalso
    have : nJ 8 ≤ nJ i := z
    rw [nJ_le (by omega) (by omega)] at this
    omega
  · rw [tN_nJ (by omega), nJ_succ]; exact k
theorem w3_end {Q : Hp → Prop} {N : Nat} {h : Hp} (k : Q h) : w_X3_init_31 Q (N + 1) (nJ 8) h := ⟨fun _ => k, fun z => absurd (by decide) z⟩
set_option maxRecDepth 4000 in
theorem w_init : wInit := by
  unfold wInit wp_X11_init
  repeat (refine And.intro (by decide +kernel) ?_)
  refine ⟨9, ?_⟩
  refine w3_step (i := 0) (by omega) (by decide +kernel) ?_
  refine w3_step (i := 1) (by omega) (by decide +kernel) ?_
  refine w3_step (i := 2) (by omega) (by decide +kernel) ?_
  refine w3_step (i := 3) (by omega) (by decide +kernel) ?_
  refine w3_step (i := 4) (by omega) (by decide +kernel) ?_
  refine w3_step (i := 5) (by omega) (by decide +kernel) ?_
  refine w3_step (i := 6) (by omega) (by decide +kernel) ?_
  refine w3_step (i := 7) (by omega) (by decide +kernel) ?_
  refine w3_end ?_
  repeat (first | refine And.intro (by decide +kernel) ?_ | refine And.intro (vp_lit (n := 0) (by omega) (by omega)) ?_ | refine And.intro (vp_lit (n := 1) (by omega) (by omega)) ?_ | refine And.intro (vp_lit (n := 2) (by omega) (by omega)) ?_ | refine And.intro (vp_lit (n := 3) (by omega) (by omega)) ?_ | refine And.intro (vp_lit (n := 4) (by omega) (by omega)) ?_ | refine And.intro (vp_lit (n := 5) (by omega) (by omega)) ?_ | refine And.intro (vp_lit (n := 6) (by omega) (by omega)) ?_ | refine And.intro (vp_lit (n := 7) (by omega) (by omega)) ?_ | refine And.intro (vp_lit (n := 8) (by omega) (by omega)) ?_)
  decide +kernel
