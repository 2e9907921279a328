/-! from the law's first instruction to its last -/
def upY (E : EnvT) : EnvT := (eP E, eL E, eE E, eR E, eS E, eM E, eA E, eB E, eMe E, eC E, eQ E, eD E, eDA E, eb E, lay1, ea0 E, eh0 E)
section
variable {E : EnvT} {nm : String} {Ls : Nat} {xs : Nat → Int32}
theorem sw_upY {pc : Nat} {L : List (Option AVal)} {S : List AVal} {h : Hp} {c n : Nat} (hY : eY E = lay0) (f : fLay h) (k : SW (upY E) pc (L, S, h, c, n)) : SW E pc (L, S, h, c, n) := fun ad ws H locs ls h1 h2 h3 h4 => k ad ws H locs ls ⟨HR.lay f (by have := h1.1; rw [hY] at this; exact this), h1.2⟩ h2 h3 h4
theorem ct0 {y : MethodName} {cc : ByteArray} {mL : Nat} {rt : Option FieldType} {d mc ms : Nat} {av : List AVal} {h : Hp} {Post : List AVal → Hp → Prop} (hY : eY E = lay0) (c : Ct (eL E) lay0 y cc mL rt d mc ms av h Post) : Ct (eL E) (eY E) y cc mL rt d mc ms av h Post := by rw [hY]; exact c
theorem lawRun (sc : Scr E Ls xs) (hL : Ls ≤ 3584) (cx : CX E "ShoreDayLaw" cL_law 7 (some .boolean) nm 2048 601024 7293034) (hY : eY E = lay0) (hl : (eL E).stackTraces = false)
    (fin : ∀ i x5 x6 h c n, c ≤ 601024 → n ≤ 7293034 → SW (upY E) 878 (lawL i x5 x6, [], h, c, n)) : SW E 0 ([some (vP (some (61, 0))), none, none, none, none, none, none], [], hZ, 0, 0) := by
  refine k_L_law_0 cx hY (by omega) (by omega) ?_
  refine k_L_law_3 cx hY (ct0 hY (vc_X11_init (d := 2000) (show wp_X11_init (nw hZ 11) _ from w_init))) (by omega) (by omega) (by omega) (fun r h1 hp => ?_)
  obtain ⟨rfl, g12, w2⟩ := hp
  refine k_L_law_7 cx hY (by omega) (by omega) ?_
  rw [g12]
  refine k_L_law_11 cx hY (ct0 hY (vc_X12_init (d := 2000) w2)) (by omega) (by omega) (by omega) (fun r h2 hp => ?_)
  obtain ⟨rfl, g39, fo⟩ := hp
  refine k_L_law_15 cx hY (by omega) (by omega) ?_
  rw [g39]
  refine k_L_law_19 cx hY ?_
  refine sw_upY hY fo.1 ?_
  exact lawLoop (E := upY E) sc hL cx rfl hl fin 512 0 _ _ _ _ _ (J_first fo) (by omega) (by omega) (by omega) (by omega)
theorem lawFin {i : Nat} {x5 x6 : Option AVal} {h : Hp} {c n : Nat} (cx : CX E "ShoreDayLaw" cL_law 7 (some .boolean) nm 2048 601024 7293034) (k : SW (upY E) 879 (lawL i x5 x6, [vI 1], h, c, n)) : SW (upY E) 878 (lawL i x5 x6, [], h, c, n) := by
  have cx1 : CX (upY E) "ShoreDayLaw" cL_law 7 (some .boolean) nm 2048 601024 7293034 := cx
  exact Seg.use (G := []) (σ' := (lawL i x5 x6, [vI 1], h, c, n)) (Seg.cons (pc := 878) (o := oS (fC (vI 1))) (sn_iconst cx1 (by decide +kernel : decode cL_law 878 = .ok (.iconst 1, 1)) (by decide)) Seg.nil) rfl trivial k
end
