/-! the law's loop -/
section
variable {E : EnvT} {nm : String} {Ls : Nat} {xs : Nat → Int32}
theorem i7 : (7 : Int32).toInt = 7 := by decide
theorem sub7 {i : Nat} (hL : Ls ≤ 3584) (hi : i ≤ 4000) (h : ¬ nJ Ls - 7 < nJ i) : i + 7 ≤ Ls := by
  have e1 : (nJ Ls - 7).toInt = (Ls : Int) - 7 := by
    rw [tsub (by rw [nJ_toInt (by omega), i7]; omega) (by rw [nJ_toInt (by omega), i7]; omega), nJ_toInt (by omega), i7]
  rw [Int32.lt_iff_toInt_lt, e1, nJ_toInt (by omega)] at h
  omega
abbrev lawL (i : Nat) (x5 x6 : Option AVal) : List (Option AVal) := [some (vP (some (61, 0))), some (vP (some (11, 0))), some (vP (some (12, 0))), some (vP (some (39, 0))), some (vI (nJ i)), x5, x6]
theorem lawLoop (sc : Scr E Ls xs) (hL : Ls ≤ 3584) (cx : CX E "ShoreDayLaw" cL_law 7 (some .boolean) nm 2048 601024 7293034) (hY : eY E = lay1) (hl : (eL E).stackTraces = false)
    (fin : ∀ i x5 x6 h c n, c ≤ 601024 → n ≤ 7293034 → SW E 878 (lawL i x5 x6, [], h, c, n)) :
    ∀ (f i : Nat) (h : Hp) (c n : Nat) (x5 x6 : Option AVal), J h → Ls < i + 7 * (f + 1) → i ≤ 3600 → c + f ≤ 601024 → n + 14 * f ≤ 7293034 → SW E 23 (lawL i x5 x6, [], h, c, n) := by
  intro f
  induction f with
  | zero =>
    intro i h c n x5 x6 j hf hi hc hn
    refine k_L_law_23 sc cx hY (fun _ => fin i x5 x6 h c n (by omega) (by omega)) (fun z => ?_)
    have := sub7 hL (by omega) z
    exfalso; omega
  | succ f ih =>
    intro i h c n x5 x6 j hf hi hc hn
    refine k_L_law_23 sc cx hY (fun _ => fin i x5 x6 h c n (by omega) (by omega)) (fun z => ?_)
    have hi7 := sub7 hL (by omega) z
    have g : ∀ k : Nat, k ≤ 6 → vp_in (nJ i + nJ k) Ls := fun k hk => by
      rw [nJ_add]
      exact (vp_nJ (by omega)).mpr (by omega)
    have kk : ∀ h2 c2 n2 y5 y6, J h2 → c2 ≤ c + 1 → n2 ≤ n + 14 → SW E 872 (lawL i y5 y6, [], h2, c2, n2) := fun h2 c2 n2 y5 y6 j2 q1 q2 => by
      refine k_L_law_872 cx hY ?_
      have e : nJ i + 7 = nJ (i + 7) := nJ_add i 7
      rw [e]
      exact ih (i + 7) h2 c2 n2 y5 y6 j2 (by omega) (by omega) (by omega) (by omega)
    have hc1 : c + 1 ≤ 601024 := by omega
    have hn1 : n + 14 ≤ 7293034 := by omega
    refine k_L_law_33 sc cx hY ((vp_nJ (by omega)).mpr (by omega)) (fun _ => kk h c n x5 x6 j (by omega) (by omega)) (fun q t hq _ => ?_)
    rcases q with _ | _ | _ | _ | _ | _ | _ | _ | _ | _ | _ | _ | _ | _ | _ | _ | _ | q
    · cases hq; exact c_ship sc cx hY hl j g hc1 hn1 kk
    · cases hq; exact c_tender sc cx hY hl j g hc1 hn1 kk
    · cases hq; exact c_tour sc cx hY hl j g hc1 hn1 kk
    · cases hq; exact c_group sc cx hY hl j g hc1 hn1 kk
    · cases hq; exact c_holds sc cx hY hl j g hc1 hn1 kk
    · cases hq; exact c_shut sc cx hY hl j g hc1 hn1 kk
    · cases hq; exact c_minutes sc cx hY hl j g hc1 hn1 kk
    · cases hq; exact c_feed sc cx hY hl j g hc1 hn1 kk
    · cases hq; exact c_text sc cx hY hl j g hc1 hn1 kk
    · cases hq; exact c_guide sc cx hY hl j g hc1 hn1 kk
    · cases hq; exact c_plan sc cx hY hl j g hc1 hn1 kk
    · cases hq; exact c_planned sc cx hY hl j g hc1 hn1 kk
    · cases hq; exact c_look sc cx hY hl j g hc1 hn1 kk
    · cases hq; exact c_lies sc cx hY hl j g hc1 hn1 kk
    · cases hq; exact c_guests sc cx hY hl j g hc1 hn1 kk
    · cases hq; exact c_rides sc cx hY hl j g hc1 hn1 kk
    · cases hq; exact c_count sc cx hY hl j g hc1 hn1 kk
    · simp at hq
end
