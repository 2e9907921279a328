/-! the law calls its look -/
theorem lg_cmp0 {x : Int64} : lg_cmp x x = 0 := by simp [lg_cmp]
theorem J.vp {h : Hp} {a1 : Int32} (j : J h) (c : 0 ≤ a1 ∧ a1 ≤ gI h 11 0 8 - 1) : vp_in a1 60 := by
  obtain ⟨nG, hG, e8, -⟩ := j.nG
  rw [e8] at c
  obtain ⟨m, hm, rfl⟩ := (rng (by omega)).mp c
  exact (vp_nJ (by omega)).mpr (by omega)
theorem lk_good : GoodIn wsG (va_wsS "ShoreDayLaw" 77 yL_look (Cond.codeWith yL_look cL_look 5 (some .int) hhL :: wsG)) := fun w hw => by
  have hm : w ∈ wsG := by
    rcases List.mem_append.mp hw with g | g
    · have h3 : ∀ w ∈ [Cond.methodLink "ShoreDayLaw" 77 yL_look, Cond.static yL_look, Cond.initialized yL_look.cls], w ∈ wsG := by decide +kernel
      exact h3 w g
    · rcases List.mem_cons.mp g with rfl | g
      · decide +kernel
      · exact g
  exact ⟨hm, good_of_word (List.mem_filter.mp hm).2⟩
theorem sw_callL {E : EnvT} {nm : String} {d mc ms d2 c n : Nat} {L : List (Option AVal)} {h : Hp} {a1 a2 : Int32} {Post2 : List AVal → Hp → Prop} (cx : CX E "ShoreDayLaw" cL_law 7 (some .boolean) nm d mc ms) (hY : eY E = lay1) (hM : CtL (eL E) d2 a1 a2 h Post2) (hd2 : d2 + 1 ≤ d) (hc : c + 1 ≤ mc) (hn : n + 6 ≤ ms)
    (kk : ∀ r h', Post2 r h' → SW E 685 (L, r ++ [], h', c + 1, n + 6)) : SW E 682 (L, [vP (some (39, 0)), vI a2, vI a1, vP (some (11, 0))], h, c, n) := by
  intro ad ws H locs ls h1 h2 h3 h4
  have hM' := hM (eD E) (eDA E) (eb E) ad
  rw [← hY] at hM'
  have r1 := cx.rm.1
  have r2 := cx.rm.2.1
  refine sw_run (S := []) h1 (fun v hv => by cases hv) h3 h4 (vx_runSW (As := [vP (some (11, 0)), vI a1, vI a2, vP (some (39, 0))].map (cv ad)) (rest := []) (n := 4) (hh := hhL) ⟨cx.x, cx.b, rfl, cx.o, cx.w⟩ hM' (vx_cwSW 4 cx.w lk_good rfl rfl rfl (by decide +kernel) ⟨by show d2 + 1 ≤ (eR E).frames; omega, by show 8 + (5 + 11) + 41 * d2 ≤ (eR E).locals; omega⟩) ⟨pc_blind, fun U hU hW => pc_call cx h1 (fun v hv => h2 v (List.mem_reverse.mp hv)) hU hW⟩ rfl rfl h4.1 rfl (lv_room (Nat.le_of_ble_eq_true rfl)) (by decide +kernel : decode cL_law 682 = .ok (.invokestatic 77, 3)) (room_le cx hc hn)) kk
/-! the calls of the law, one by one -/
section
variable {E : EnvT} {nm : String} {Ls : Nat} {xs : Nat → Int32} {h : Hp} {c n : Nat} {a4 : Int32} {x5 x6 : Option AVal}
theorem c_ship (sc : Scr E Ls xs) (cx : CX E "ShoreDayLaw" cL_law 7 (some .boolean) nm 2048 601024 7293034) (hY : eY E = lay1) (hl : (eL E).stackTraces = false) (j : J h) (g : ∀ k : Nat, k ≤ 6 → vp_in (a4 + nJ k) Ls) (hc : c + 1 ≤ 601024) (hn : n + 14 ≤ 7293034) (kk : ∀ h2 c2 n2 y5 y6, J h2 → c2 ≤ c + 1 → n2 ≤ n + 14 → SW E 872 ([some (vP (some (61, 0))), some (vP (some (11, 0))), some (vP (some (12, 0))), some (vP (some (39, 0))), some (vI a4), y5, y6], [], h2, c2, n2)) : SW E 124 ([some (vP (some (61, 0))), some (vP (some (11, 0))), some (vP (some (12, 0))), some (vP (some (39, 0))), some (vI a4), x5, x6], [], h, c, n) := by
  refine k_L_law_124 sc cx hY (g 1 (by omega)) (g 2 (by omega)) ?_
  refine k_L_law_137 sc cx hY (g 3 (by omega)) (ctY hY (vc_X11_ship (d := 2000) (jShip j))) (by omega) (by omega) (by omega) (fun r h1 hp => ?_)
  obtain ⟨rx, rfl, w⟩ := hp
  refine k_L_law_146 sc cx hY (g 1 (by omega)) (g 2 (by omega)) ?_
  refine k_L_law_159 sc cx hY (g 3 (by omega)) (ctY hY (vc_X12_ship (d := 2000) w)) (by omega) (by omega) (by omega) (fun r h2 hp => ?_)
  obtain ⟨rm, rfl, rfl, j2⟩ := hp
  exact k_L_law_168 cx hY (fun _ => kk _ _ _ _ _ j2 (by omega) (by omega)) (fun z => absurd rfl z)
theorem c_tender (sc : Scr E Ls xs) (cx : CX E "ShoreDayLaw" cL_law 7 (some .boolean) nm 2048 601024 7293034) (hY : eY E = lay1) (hl : (eL E).stackTraces = false) (j : J h) (g : ∀ k : Nat, k ≤ 6 → vp_in (a4 + nJ k) Ls) (hc : c + 1 ≤ 601024) (hn : n + 14 ≤ 7293034) (kk : ∀ h2 c2 n2 y5 y6, J h2 → c2 ≤ c + 1 → n2 ≤ n + 14 → SW E 872 ([some (vP (some (61, 0))), some (vP (some (11, 0))), some (vP (some (12, 0))), some (vP (some (39, 0))), some (vI a4), y5, y6], [], h2, c2, n2)) : SW E 173 ([some (vP (some (61, 0))), some (vP (some (11, 0))), some (vP (some (12, 0))), some (vP (some (39, 0))), some (vI a4), x5, x6], [], h, c, n) := by
  refine k_L_law_173 sc cx hY (g 1 (by omega)) (g 2 (by omega)) (ctY hY (vc_X11_tender (d := 2000) (jTender j))) (by omega) (by omega) (by omega) (fun r h1 hp => ?_)
  obtain ⟨rx, rfl, w⟩ := hp
  refine k_L_law_189 sc cx hY (g 1 (by omega)) (g 2 (by omega)) (ctY hY (vc_X12_tender (d := 2000) w)) (by omega) (by omega) (by omega) (fun r h2 hp => ?_)
  obtain ⟨rm, rfl, rfl, j2⟩ := hp
  exact k_L_law_205 cx hY (fun _ => kk _ _ _ _ _ j2 (by omega) (by omega)) (fun z => absurd rfl z)
theorem c_tour (sc : Scr E Ls xs) (cx : CX E "ShoreDayLaw" cL_law 7 (some .boolean) nm 2048 601024 7293034) (hY : eY E = lay1) (hl : (eL E).stackTraces = false) (j : J h) (g : ∀ k : Nat, k ≤ 6 → vp_in (a4 + nJ k) Ls) (hc : c + 1 ≤ 601024) (hn : n + 14 ≤ 7293034) (kk : ∀ h2 c2 n2 y5 y6, J h2 → c2 ≤ c + 1 → n2 ≤ n + 14 → SW E 872 ([some (vP (some (61, 0))), some (vP (some (11, 0))), some (vP (some (12, 0))), some (vP (some (39, 0))), some (vI a4), y5, y6], [], h2, c2, n2)) : SW E 210 ([some (vP (some (61, 0))), some (vP (some (11, 0))), some (vP (some (12, 0))), some (vP (some (39, 0))), some (vI a4), x5, x6], [], h, c, n) := by
  refine k_L_law_210 sc cx hY (g 1 (by omega)) (g 2 (by omega)) ?_
  refine k_L_law_223 sc cx hY (g 3 (by omega)) (g 4 (by omega)) (ctY hY (vc_X11_tour (d := 2000) (jTour j))) (by omega) (by omega) (by omega) (fun r h1 hp => ?_)
  obtain ⟨rx, rfl, w⟩ := hp
  refine k_L_law_238 sc cx hY (g 1 (by omega)) (g 2 (by omega)) ?_
  refine k_L_law_251 sc cx hY (g 3 (by omega)) (g 4 (by omega)) (ctY hY (vc_X12_tour (d := 2000) w)) (by omega) (by omega) (by omega) (fun r h2 hp => ?_)
  obtain ⟨rm, rfl, rfl, j2⟩ := hp
  exact k_L_law_266 cx hY (fun _ => kk _ _ _ _ _ j2 (by omega) (by omega)) (fun z => absurd rfl z)
theorem c_group (sc : Scr E Ls xs) (cx : CX E "ShoreDayLaw" cL_law 7 (some .boolean) nm 2048 601024 7293034) (hY : eY E = lay1) (hl : (eL E).stackTraces = false) (j : J h) (g : ∀ k : Nat, k ≤ 6 → vp_in (a4 + nJ k) Ls) (hc : c + 1 ≤ 601024) (hn : n + 14 ≤ 7293034) (kk : ∀ h2 c2 n2 y5 y6, J h2 → c2 ≤ c + 1 → n2 ≤ n + 14 → SW E 872 ([some (vP (some (61, 0))), some (vP (some (11, 0))), some (vP (some (12, 0))), some (vP (some (39, 0))), some (vI a4), y5, y6], [], h2, c2, n2)) : SW E 271 ([some (vP (some (61, 0))), some (vP (some (11, 0))), some (vP (some (12, 0))), some (vP (some (39, 0))), some (vI a4), x5, x6], [], h, c, n) := by
  refine k_L_law_271 sc cx hY (g 1 (by omega)) (g 2 (by omega)) ?_
  refine k_L_law_284 sc cx hY (g 3 (by omega)) (g 4 (by omega)) ?_
  refine k_L_law_296 sc cx hY (g 5 (by omega)) (g 6 (by omega)) (ctY hY (vc_X11_group (d := 2000) (jGroup j))) (by omega) (by omega) (by omega) (fun r h1 hp => ?_)
  obtain ⟨rx, rfl, w⟩ := hp
  refine k_L_law_312 sc cx hY (g 1 (by omega)) (g 2 (by omega)) ?_
  refine k_L_law_325 sc cx hY (g 3 (by omega)) (g 4 (by omega)) ?_
  refine k_L_law_337 sc cx hY (g 5 (by omega)) (g 6 (by omega)) (ctY hY (vc_X12_group (d := 2000) w)) (by omega) (by omega) (by omega) (fun r h2 hp => ?_)
  obtain ⟨rm, rfl, rfl, j2⟩ := hp
  exact k_L_law_353 cx hY (fun _ => kk _ _ _ _ _ j2 (by omega) (by omega)) (fun z => absurd rfl z)
theorem c_holds (sc : Scr E Ls xs) (cx : CX E "ShoreDayLaw" cL_law 7 (some .boolean) nm 2048 601024 7293034) (hY : eY E = lay1) (hl : (eL E).stackTraces = false) (j : J h) (g : ∀ k : Nat, k ≤ 6 → vp_in (a4 + nJ k) Ls) (hc : c + 1 ≤ 601024) (hn : n + 14 ≤ 7293034) (kk : ∀ h2 c2 n2 y5 y6, J h2 → c2 ≤ c + 1 → n2 ≤ n + 14 → SW E 872 ([some (vP (some (61, 0))), some (vP (some (11, 0))), some (vP (some (12, 0))), some (vP (some (39, 0))), some (vI a4), y5, y6], [], h2, c2, n2)) : SW E 358 ([some (vP (some (61, 0))), some (vP (some (11, 0))), some (vP (some (12, 0))), some (vP (some (39, 0))), some (vI a4), x5, x6], [], h, c, n) := by
  refine k_L_law_358 sc cx hY (g 1 (by omega)) (ctY hY (vc_X11_holds (d := 2000) (jHolds j))) (by omega) (by omega) (by omega) (fun r h1 hp => ?_)
  obtain ⟨rx, rfl, w⟩ := hp
  refine k_L_law_368 sc cx hY (g 1 (by omega)) (ctY hY (vc_X12_holds (d := 2000) w)) (by omega) (by omega) (by omega) (fun r h2 hp => ?_)
  obtain ⟨rm, rfl, rfl, j2⟩ := hp
  exact k_L_law_378 cx hY (fun _ => kk _ _ _ _ _ j2 (by omega) (by omega)) (fun z => absurd rfl z)
theorem c_shut (sc : Scr E Ls xs) (cx : CX E "ShoreDayLaw" cL_law 7 (some .boolean) nm 2048 601024 7293034) (hY : eY E = lay1) (hl : (eL E).stackTraces = false) (j : J h) (g : ∀ k : Nat, k ≤ 6 → vp_in (a4 + nJ k) Ls) (hc : c + 1 ≤ 601024) (hn : n + 14 ≤ 7293034) (kk : ∀ h2 c2 n2 y5 y6, J h2 → c2 ≤ c + 1 → n2 ≤ n + 14 → SW E 872 ([some (vP (some (61, 0))), some (vP (some (11, 0))), some (vP (some (12, 0))), some (vP (some (39, 0))), some (vI a4), y5, y6], [], h2, c2, n2)) : SW E 383 ([some (vP (some (61, 0))), some (vP (some (11, 0))), some (vP (some (12, 0))), some (vP (some (39, 0))), some (vI a4), x5, x6], [], h, c, n) := by
  refine k_L_law_383 sc cx hY (g 1 (by omega)) (g 2 (by omega)) (ctY hY (vc_X11_shut (d := 2000) (jShut j))) (by omega) (by omega) (by omega) (fun r h1 hp => ?_)
  obtain ⟨rx, rfl, w⟩ := hp
  refine k_L_law_399 sc cx hY (g 1 (by omega)) (g 2 (by omega)) (ctY hY (vc_X12_shut (d := 2000) w)) (by omega) (by omega) (by omega) (fun r h2 hp => ?_)
  obtain ⟨rm, rfl, rfl, j2⟩ := hp
  exact k_L_law_415 cx hY (fun _ => kk _ _ _ _ _ j2 (by omega) (by omega)) (fun z => absurd rfl z)
theorem c_minutes (sc : Scr E Ls xs) (cx : CX E "ShoreDayLaw" cL_law 7 (some .boolean) nm 2048 601024 7293034) (hY : eY E = lay1) (hl : (eL E).stackTraces = false) (j : J h) (g : ∀ k : Nat, k ≤ 6 → vp_in (a4 + nJ k) Ls) (hc : c + 1 ≤ 601024) (hn : n + 14 ≤ 7293034) (kk : ∀ h2 c2 n2 y5 y6, J h2 → c2 ≤ c + 1 → n2 ≤ n + 14 → SW E 872 ([some (vP (some (61, 0))), some (vP (some (11, 0))), some (vP (some (12, 0))), some (vP (some (39, 0))), some (vI a4), y5, y6], [], h2, c2, n2)) : SW E 420 ([some (vP (some (61, 0))), some (vP (some (11, 0))), some (vP (some (12, 0))), some (vP (some (39, 0))), some (vI a4), x5, x6], [], h, c, n) := by
  refine k_L_law_420 sc cx hY (g 1 (by omega)) (ctY hY (vc_X11_minutes (d := 2000) (jMinutes j))) (by omega) (by omega) (by omega) (fun r h1 hp => ?_)
  obtain ⟨rx, rfl, w⟩ := hp
  refine k_L_law_430 sc cx hY (g 1 (by omega)) (ctY hY (vc_X12_minutes (d := 2000) w)) (by omega) (by omega) (by omega) (fun r h2 hp => ?_)
  obtain ⟨rm, rfl, rfl, j2⟩ := hp
  exact k_L_law_440 cx hY (fun _ => kk _ _ _ _ _ j2 (by omega) (by omega)) (fun z => absurd rfl z)
theorem c_feed (sc : Scr E Ls xs) (cx : CX E "ShoreDayLaw" cL_law 7 (some .boolean) nm 2048 601024 7293034) (hY : eY E = lay1) (hl : (eL E).stackTraces = false) (j : J h) (g : ∀ k : Nat, k ≤ 6 → vp_in (a4 + nJ k) Ls) (hc : c + 1 ≤ 601024) (hn : n + 14 ≤ 7293034) (kk : ∀ h2 c2 n2 y5 y6, J h2 → c2 ≤ c + 1 → n2 ≤ n + 14 → SW E 872 ([some (vP (some (61, 0))), some (vP (some (11, 0))), some (vP (some (12, 0))), some (vP (some (39, 0))), some (vI a4), y5, y6], [], h2, c2, n2)) : SW E 445 ([some (vP (some (61, 0))), some (vP (some (11, 0))), some (vP (some (12, 0))), some (vP (some (39, 0))), some (vI a4), x5, x6], [], h, c, n) := by
  refine k_L_law_445 sc cx hY (g 1 (by omega)) (g 2 (by omega)) ?_
  refine k_L_law_462 sc cx hY (g 3 (by omega)) (g 4 (by omega)) ?_
  refine k_L_law_484 sc cx hY (g 5 (by omega)) (g 6 (by omega)) ?_
  refine k_L_law_507 cx hY (ctY hY (vc_X11_feed (d := 2000) (jFeed j))) (by omega) (by omega) (by omega) (fun r h1 hp => ?_)
  obtain ⟨rx, rfl, w⟩ := hp
  refine k_L_law_516 sc cx hY (g 1 (by omega)) (g 2 (by omega)) ?_
  refine k_L_law_533 sc cx hY (g 3 (by omega)) (g 4 (by omega)) ?_
  refine k_L_law_555 sc cx hY (g 5 (by omega)) (g 6 (by omega)) ?_
  refine k_L_law_578 cx hY (ctY hY (vc_X12_feed (d := 2000) w)) (by omega) (by omega) (by omega) (fun r h2 hp => ?_)
  obtain ⟨rm, rfl, rfl, j2⟩ := hp
  exact k_L_law_587 cx hY (fun _ => kk _ _ _ _ _ j2 (by omega) (by omega)) (fun z => absurd rfl z)
theorem c_text (sc : Scr E Ls xs) (cx : CX E "ShoreDayLaw" cL_law 7 (some .boolean) nm 2048 601024 7293034) (hY : eY E = lay1) (hl : (eL E).stackTraces = false) (j : J h) (g : ∀ k : Nat, k ≤ 6 → vp_in (a4 + nJ k) Ls) (hc : c + 1 ≤ 601024) (hn : n + 14 ≤ 7293034) (kk : ∀ h2 c2 n2 y5 y6, J h2 → c2 ≤ c + 1 → n2 ≤ n + 14 → SW E 872 ([some (vP (some (61, 0))), some (vP (some (11, 0))), some (vP (some (12, 0))), some (vP (some (39, 0))), some (vI a4), y5, y6], [], h2, c2, n2)) : SW E 592 ([some (vP (some (61, 0))), some (vP (some (11, 0))), some (vP (some (12, 0))), some (vP (some (39, 0))), some (vI a4), x5, x6], [], h, c, n) := by
  refine k_L_law_592 cx hY (ctY hY (vc_X11_text (d := 2000) (jText j))) (by omega) (by omega) (by omega) (fun r h1 hp => ?_)
  obtain ⟨rx, rfl, w⟩ := hp
  refine k_L_law_596 cx hY (ctY hY (vc_X12_text (d := 2000) w)) (by omega) (by omega) (by omega) (fun r h2 hp => ?_)
  obtain ⟨rm, rfl, rfl, j2⟩ := hp
  exact k_L_law_600 cx hY (fun _ => kk _ _ _ _ _ j2 (by omega) (by omega)) (fun z => absurd rfl z)
theorem c_guide (sc : Scr E Ls xs) (cx : CX E "ShoreDayLaw" cL_law 7 (some .boolean) nm 2048 601024 7293034) (hY : eY E = lay1) (hl : (eL E).stackTraces = false) (j : J h) (g : ∀ k : Nat, k ≤ 6 → vp_in (a4 + nJ k) Ls) (hc : c + 1 ≤ 601024) (hn : n + 14 ≤ 7293034) (kk : ∀ h2 c2 n2 y5 y6, J h2 → c2 ≤ c + 1 → n2 ≤ n + 14 → SW E 872 ([some (vP (some (61, 0))), some (vP (some (11, 0))), some (vP (some (12, 0))), some (vP (some (39, 0))), some (vI a4), y5, y6], [], h2, c2, n2)) : SW E 605 ([some (vP (some (61, 0))), some (vP (some (11, 0))), some (vP (some (12, 0))), some (vP (some (39, 0))), some (vI a4), x5, x6], [], h, c, n) := by
  refine k_L_law_605 sc cx hY (g 1 (by omega)) (ctY hY (vc_X11_guide (d := 2000) (jGuide j))) (by omega) (by omega) (by omega) (fun r h1 hp => ?_)
  obtain ⟨rx, rfl, w⟩ := hp
  refine k_L_law_615 sc cx hY (g 1 (by omega)) (ctY hY (vc_X12_guide (d := 2000) w)) (by omega) (by omega) (by omega) (fun r h2 hp => ?_)
  obtain ⟨rm, rfl, rfl, j2⟩ := hp
  exact k_L_law_625 cx hY (fun _ => kk _ _ _ _ _ j2 (by omega) (by omega)) (fun z => absurd rfl z)
theorem c_plan (sc : Scr E Ls xs) (cx : CX E "ShoreDayLaw" cL_law 7 (some .boolean) nm 2048 601024 7293034) (hY : eY E = lay1) (hl : (eL E).stackTraces = false) (j : J h) (g : ∀ k : Nat, k ≤ 6 → vp_in (a4 + nJ k) Ls) (hc : c + 1 ≤ 601024) (hn : n + 14 ≤ 7293034) (kk : ∀ h2 c2 n2 y5 y6, J h2 → c2 ≤ c + 1 → n2 ≤ n + 14 → SW E 872 ([some (vP (some (61, 0))), some (vP (some (11, 0))), some (vP (some (12, 0))), some (vP (some (39, 0))), some (vI a4), y5, y6], [], h2, c2, n2)) : SW E 630 ([some (vP (some (61, 0))), some (vP (some (11, 0))), some (vP (some (12, 0))), some (vP (some (39, 0))), some (vI a4), x5, x6], [], h, c, n) := by
  refine k_L_law_630 cx hY (ctY hY (vc_X11_plan (d := 2000) (jPlan j))) (by omega) (by omega) (by omega) (fun r h1 hp => ?_)
  obtain ⟨rx, rfl, w⟩ := hp
  refine k_L_law_634 cx hY (ctY hY (vc_X12_plan (d := 2000) w)) (by omega) (by omega) (by omega) (fun r h2 hp => ?_)
  obtain ⟨rm, rfl, rfl, j2⟩ := hp
  exact k_L_law_638 cx hY (fun _ => kk _ _ _ _ _ j2 (by omega) (by omega)) (fun z => absurd rfl z)
theorem c_planned (sc : Scr E Ls xs) (cx : CX E "ShoreDayLaw" cL_law 7 (some .boolean) nm 2048 601024 7293034) (hY : eY E = lay1) (hl : (eL E).stackTraces = false) (j : J h) (g : ∀ k : Nat, k ≤ 6 → vp_in (a4 + nJ k) Ls) (hc : c + 1 ≤ 601024) (hn : n + 14 ≤ 7293034) (kk : ∀ h2 c2 n2 y5 y6, J h2 → c2 ≤ c + 1 → n2 ≤ n + 14 → SW E 872 ([some (vP (some (61, 0))), some (vP (some (11, 0))), some (vP (some (12, 0))), some (vP (some (39, 0))), some (vI a4), y5, y6], [], h2, c2, n2)) : SW E 643 ([some (vP (some (61, 0))), some (vP (some (11, 0))), some (vP (some (12, 0))), some (vP (some (39, 0))), some (vI a4), x5, x6], [], h, c, n) := by
  refine k_L_law_643 sc cx hY (g 1 (by omega)) (ctY hY (vc_X11_planned (d := 2000) (jPlanned j))) (by omega) (by omega) (by omega) (fun r h1 hp => ?_)
  obtain ⟨rx, rfl, w⟩ := hp
  refine k_L_law_653 sc cx hY (g 1 (by omega)) (ctY hY (vc_X12_planned (d := 2000) w)) (by omega) (by omega) (by omega) (fun r h2 hp => ?_)
  obtain ⟨rm, rfl, rfl, j2⟩ := hp
  exact k_L_law_663 cx hY (fun _ => kk _ _ _ _ _ j2 (by omega) (by omega)) (fun z => absurd rfl z)
theorem c_look (sc : Scr E Ls xs) (cx : CX E "ShoreDayLaw" cL_law 7 (some .boolean) nm 2048 601024 7293034) (hY : eY E = lay1) (hl : (eL E).stackTraces = false) (j : J h) (g : ∀ k : Nat, k ≤ 6 → vp_in (a4 + nJ k) Ls) (hc : c + 1 ≤ 601024) (hn : n + 14 ≤ 7293034) (kk : ∀ h2 c2 n2 y5 y6, J h2 → c2 ≤ c + 1 → n2 ≤ n + 14 → SW E 872 ([some (vP (some (61, 0))), some (vP (some (11, 0))), some (vP (some (12, 0))), some (vP (some (39, 0))), some (vI a4), y5, y6], [], h2, c2, n2)) : SW E 668 ([some (vP (some (61, 0))), some (vP (some (11, 0))), some (vP (some (12, 0))), some (vP (some (39, 0))), some (vI a4), x5, x6], [], h, c, n) := by
  refine k_L_law_668 sc cx hY (g 1 (by omega)) (g 2 (by omega)) ?_
  refine k_L_law_681 cx hY ?_
  by_cases hb : lbad (xs (tN (a4 + 1))) (xs (tN (a4 + 2))) h
  · refine sw_callL cx hY (vc_L_look_bad (d := 2000) hl hb j.vp) (by omega) (by omega) (by omega) (fun r h1 hp => ?_)
    obtain ⟨rfl, rfl⟩ := hp
    refine k_L_law_685 sc cx hY (g 1 (by omega)) (g 2 (by omega)) (ctY hY (vc_X12_look (d := 2000) (jLookBad j hb))) (by omega) (by omega) (by omega) (fun r h2 hp => ?_)
    obtain ⟨rm, rfl, w⟩ := hp
    refine k_L_law_703 cx hY (ctY hY (vc_X12_thrown (d := 2000) w)) (by omega) (by omega) (by omega) (fun r h3 hp => ?_)
    obtain ⟨rt, rfl, rfl, j3⟩ := hp
    refine k_L_law_709 cx hY (fun _ => ?_) (fun z => absurd rfl z)
    refine k_L_law_716 cx hY (fun _ => ?_) (fun z => absurd z (by decide))
    exact k_L_law_733 cx hY (kk _ _ _ _ _ j3 (by omega) (by omega))
  · obtain ⟨g9, r9, v1, v2, v3, v4⟩ := jLookGood j hb
    refine sw_callL cx hY (vc_L_look_good (d := 2000) hb v1 v2 v3) (by omega) (by omega) (by omega) (fun r h1 hp => ?_)
    obtain ⟨rfl, rfl⟩ := hp
    refine k_L_law_685 sc cx hY (g 1 (by omega)) (g 2 (by omega)) (ctY hY (vc_X12_look (d := 2000) (v4 _))) (by omega) (by omega) (by omega) (fun r h2 hp => ?_)
    obtain ⟨rm, rfl, w⟩ := hp
    refine k_L_law_703 cx hY (ctY hY (vc_X12_thrown (d := 2000) w)) (by omega) (by omega) (by omega) (fun r h3 hp => ?_)
    obtain ⟨rt, rfl, rfl, rfl, j3, gl⟩ := hp
    refine k_L_law_709 cx hY (fun _ => ?_) (fun z => absurd rfl z)
    refine k_L_law_716 cx hY (fun z => absurd rfl z) (fun _ => ?_)
    refine k_L_law_721 cx hY (show vp_in (nJ 0) 1 from (vp_nJ (by omega)).mpr (by omega)) (fun _ => ?_) (fun z => absurd ?_ z)
    · exact k_L_law_733 cx hY (kk _ _ _ _ _ j3 (by omega) (by omega))
    · show lg_cmp (gL h3 39 0 0) (Int32.toInt64 rm) = 0
      rw [gl]
      exact lg_cmp0
theorem c_lies (sc : Scr E Ls xs) (cx : CX E "ShoreDayLaw" cL_law 7 (some .boolean) nm 2048 601024 7293034) (hY : eY E = lay1) (hl : (eL E).stackTraces = false) (j : J h) (g : ∀ k : Nat, k ≤ 6 → vp_in (a4 + nJ k) Ls) (hc : c + 1 ≤ 601024) (hn : n + 14 ≤ 7293034) (kk : ∀ h2 c2 n2 y5 y6, J h2 → c2 ≤ c + 1 → n2 ≤ n + 14 → SW E 872 ([some (vP (some (61, 0))), some (vP (some (11, 0))), some (vP (some (12, 0))), some (vP (some (39, 0))), some (vI a4), y5, y6], [], h2, c2, n2)) : SW E 736 ([some (vP (some (61, 0))), some (vP (some (11, 0))), some (vP (some (12, 0))), some (vP (some (39, 0))), some (vI a4), x5, x6], [], h, c, n) := by
  refine k_L_law_736 sc cx hY (g 1 (by omega)) (g 2 (by omega)) (ctY hY (vc_X11_lies (d := 2000) (jLies j))) (by omega) (by omega) (by omega) (fun r h1 hp => ?_)
  obtain ⟨rx, rfl, w⟩ := hp
  refine k_L_law_752 sc cx hY (g 1 (by omega)) (g 2 (by omega)) (ctY hY (vc_X12_lies (d := 2000) w)) (by omega) (by omega) (by omega) (fun r h2 hp => ?_)
  obtain ⟨rm, rfl, rfl, j2⟩ := hp
  exact k_L_law_768 cx hY (fun _ => kk _ _ _ _ _ j2 (by omega) (by omega)) (fun z => absurd rfl z)
theorem c_guests (sc : Scr E Ls xs) (cx : CX E "ShoreDayLaw" cL_law 7 (some .boolean) nm 2048 601024 7293034) (hY : eY E = lay1) (hl : (eL E).stackTraces = false) (j : J h) (g : ∀ k : Nat, k ≤ 6 → vp_in (a4 + nJ k) Ls) (hc : c + 1 ≤ 601024) (hn : n + 14 ≤ 7293034) (kk : ∀ h2 c2 n2 y5 y6, J h2 → c2 ≤ c + 1 → n2 ≤ n + 14 → SW E 872 ([some (vP (some (61, 0))), some (vP (some (11, 0))), some (vP (some (12, 0))), some (vP (some (39, 0))), some (vI a4), y5, y6], [], h2, c2, n2)) : SW E 773 ([some (vP (some (61, 0))), some (vP (some (11, 0))), some (vP (some (12, 0))), some (vP (some (39, 0))), some (vI a4), x5, x6], [], h, c, n) := by
  refine k_L_law_773 sc cx hY (g 1 (by omega)) (g 2 (by omega)) (ctY hY (vc_X11_guests (d := 2000) (jGuests j))) (by omega) (by omega) (by omega) (fun r h1 hp => ?_)
  obtain ⟨rx, rfl, w⟩ := hp
  refine k_L_law_789 sc cx hY (g 1 (by omega)) (g 2 (by omega)) (ctY hY (vc_X12_guests (d := 2000) w)) (by omega) (by omega) (by omega) (fun r h2 hp => ?_)
  obtain ⟨rm, rfl, rfl, j2⟩ := hp
  exact k_L_law_805 cx hY (fun _ => kk _ _ _ _ _ j2 (by omega) (by omega)) (fun z => absurd rfl z)
theorem c_rides (sc : Scr E Ls xs) (cx : CX E "ShoreDayLaw" cL_law 7 (some .boolean) nm 2048 601024 7293034) (hY : eY E = lay1) (hl : (eL E).stackTraces = false) (j : J h) (g : ∀ k : Nat, k ≤ 6 → vp_in (a4 + nJ k) Ls) (hc : c + 1 ≤ 601024) (hn : n + 14 ≤ 7293034) (kk : ∀ h2 c2 n2 y5 y6, J h2 → c2 ≤ c + 1 → n2 ≤ n + 14 → SW E 872 ([some (vP (some (61, 0))), some (vP (some (11, 0))), some (vP (some (12, 0))), some (vP (some (39, 0))), some (vI a4), y5, y6], [], h2, c2, n2)) : SW E 810 ([some (vP (some (61, 0))), some (vP (some (11, 0))), some (vP (some (12, 0))), some (vP (some (39, 0))), some (vI a4), x5, x6], [], h, c, n) := by
  refine k_L_law_810 sc cx hY (g 1 (by omega)) (g 2 (by omega)) (ctY hY (vc_X11_rides (d := 2000) (jRides j))) (by omega) (by omega) (by omega) (fun r h1 hp => ?_)
  obtain ⟨rx, rfl, w⟩ := hp
  refine k_L_law_826 sc cx hY (g 1 (by omega)) (g 2 (by omega)) (ctY hY (vc_X12_rides (d := 2000) w)) (by omega) (by omega) (by omega) (fun r h2 hp => ?_)
  obtain ⟨rm, rfl, rfl, j2⟩ := hp
  exact k_L_law_842 cx hY (fun _ => kk _ _ _ _ _ j2 (by omega) (by omega)) (fun z => absurd rfl z)
theorem c_count (sc : Scr E Ls xs) (cx : CX E "ShoreDayLaw" cL_law 7 (some .boolean) nm 2048 601024 7293034) (hY : eY E = lay1) (hl : (eL E).stackTraces = false) (j : J h) (g : ∀ k : Nat, k ≤ 6 → vp_in (a4 + nJ k) Ls) (hc : c + 1 ≤ 601024) (hn : n + 14 ≤ 7293034) (kk : ∀ h2 c2 n2 y5 y6, J h2 → c2 ≤ c + 1 → n2 ≤ n + 14 → SW E 872 ([some (vP (some (61, 0))), some (vP (some (11, 0))), some (vP (some (12, 0))), some (vP (some (39, 0))), some (vI a4), y5, y6], [], h2, c2, n2)) : SW E 847 ([some (vP (some (61, 0))), some (vP (some (11, 0))), some (vP (some (12, 0))), some (vP (some (39, 0))), some (vI a4), x5, x6], [], h, c, n) := by
  refine k_L_law_847 sc cx hY (g 1 (by omega)) (ctY hY (vc_X11_count (d := 2000) (jCount j))) (by omega) (by omega) (by omega) (fun r h1 hp => ?_)
  obtain ⟨rx, rfl, w⟩ := hp
  refine k_L_law_857 sc cx hY (g 1 (by omega)) (ctY hY (vc_X12_count (d := 2000) w)) (by omega) (by omega) (by omega) (fun r h2 hp => ?_)
  obtain ⟨rm, rfl, rfl, j2⟩ := hp
  exact k_L_law_867 cx hY (fun _ => kk _ _ _ _ _ j2 (by omega) (by omega)) (fun z => absurd rfl z)
end
