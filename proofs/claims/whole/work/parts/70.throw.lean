/-! look: the class throws -/
section
variable {p : Program} {l : Launch} {e : Env} {R : Room} {s : State} {m : MethodId} {args : Array Value} {below : List Frame} {meth : Method} {c : Code} {H : Heap} {locs : List Loc} {cells slots : Nat} {ls : Array Slot} {rest : List Value} {Qc : Array Value → State → Outcome → State → Prop} {XC : String → State → State → Prop} {free : Addr → Prop}
theorem nx_throw {cc : ByteArray} {pc : Nat} (hexec : p.tables.exec = Jvm.exec) (hb : c.code = cc) (hl : l.stackTraces = false) {text : String} {is mc ms sa : Nat} {A : Nat → Prop}
    (hown : s.vm.findClass "ShoreDay" = some m.cls)
    (hk : (Cond.classLink "ShoreDay" 161 nsE).before args s = true) (hini : (Cond.initialized nsE).before args s = true) (hstr : vk_R "ShoreDay" is text sa s) (hat : ∀ w ∈ nxA.filter vx_no, w.before args s = true)
    (hgood : ∀ w ∈ Cond.classLink "ShoreDay" 161 nsE :: Cond.initialized nsE :: nxA.filter vx_no, vx_ot w = true)
    (hU : vx_Zq Bundle.tN "UNASSIGNED_STACK" Bundle.steD A s s.heap) (hN : vx_Zq Bundle.tN "SUPPRESSED_SENTINEL" Bundle.listD A s s.heap) (hS : va_S A s.heap H locs) (hsize : ls.size = c.maxLocals)
    (d0 : decode cc pc = .ok (.new 161, 3)) (d3 : decode cc (pc + 3) = .ok (.dup, 1)) (d4 : decode cc (pc + 4) = .ok (.ldc is, 2)) (d6 : decode cc (pc + 6) = .ok (.invokespecial 165, 3)) (d9 : decode cc (pc + 9) = .ok (.athrow, 1))
    (hout : ∀ x ∈ c.exceptionTable.toList, covers x (pc + 9) = false)
    (hRframes : 5 < R.frames) (hRlocals : (rest.map fun v => v.category).sum + (13 * 3 + 43) ≤ R.locals) (hRcells : cells + 1 ≤ R.cells) (hRslots : slots + 6 ≤ R.slots) (hlocks : meth.locks = false)
    (hx : ∀ t : State, s.vm.Alike t.vm → H.size ≤ t.heap.size → (∀ q : Nat, q < H.size → t.heap[q]? = H[q]?) → XC nsE s t)
    (hf : ∀ z ∈ locs, free z.base) (hc : cells + 1 ≤ mc) (hs : slots + 6 ≤ ms) :
    W p l e R s m args below meth c H locs cells slots (vx_MQ below Qc XC args s mc ms free) (F0 m pc ls rest) := by
  intro T hT X
  have htr : e.platform.stackTraces = false := (show e.platform.stackTraces = l.stackTraces by rw [X.admits.platform]).trans hl
  have Y := vx_rebase X (R' := { frames := R.frames, locals := R.locals, cells := 1, slots := 6 }) (Nat.le_refl _) (Nat.le_refl _) hRcells hRslots
  obtain ⟨s', hA⟩ : ∃ z, z = (T.setVm s.vm).setFrames (.invoking m args :: below) := ⟨_, rfl⟩
  rw [← hA] at Y
  have hvm : s'.vm = s.vm := by rw [hA]; rfl
  have hhp : s'.heap = H := by rw [hA]; exact hT
  have hW0 : s.WarmedH s'.vm := by rw [hvm]; exact State.WarmedH.refl s
  have hat' : ∀ w ∈ nxA.filter vx_no, w.before args s' = true := fun w hw => vx_ot_at hW0 hvm.symm (hgood w (List.mem_cons_of_mem _ (List.mem_cons_of_mem _ hw))) (hat w hw)
  have hk' : (Cond.classLink "ShoreDay" 161 nsE).before args s' = true := vx_ot_at hW0 hvm.symm (hgood _ List.mem_cons_self) hk
  have hini' : (Cond.initialized nsE).before args s' = true := vx_ot_at hW0 hvm.symm (hgood _ (List.mem_cons_of_mem _ List.mem_cons_self)) hini
  have hU' : vx_Zq Bundle.tN "UNASSIGNED_STACK" Bundle.steD A s' s'.heap := by rw [hhp]; exact vx_Zq.moved hW0.alike (hU.kept hS.2.1)
  have hN' : vx_Zq Bundle.tN "SUPPRESSED_SENTINEL" Bundle.listD A s' s'.heap := by rw [hhp]; exact vx_Zq.moved hW0.alike (hN.kept hS.2.1)
  have h : ∀ w ∈ nxA, w.before args s' = true := vx_own hat' (vx_isRefq hU'.1) (vx_isRefq hN'.1) hU'.2.word hN'.2.word
  have hown' : s'.vm.findClass "ShoreDay" = some m.cls := by rw [hvm]; exact hown
  have hins : (Cond.instantiable nsE 6).before args s' = true := h _ (by decide +kernel)
  obtain ⟨vm₁, cX, kX, hfX, hkX, -, -, X₁, st1⟩ := Y.newCold hexec (own := "ShoreDay") (C := nsE) (index := 161) (n := 6) hown' hk' hins hini'
    (g := F0 m pc ls rest) rfl (by rw [hb]; exact d0) (Nat.le_refl _) (Nat.le_refl _)
  generalize hT1 : (T.setVm vm₁).pushCell { cls := cX, slots := kX.instanceTypes.map defaultValue, vm := .none } = T1 at X₁ st1
  have hcat : (Value.ref T.heap.size).category = 1 := rfl
  have hcellA : T1.heap[T.heap.size]? = some (freshCell cX kX) := by rw [← hT1]; exact State.heap_pushCell_size _ _
  have d3' : decode c.code (pc + 3) = .ok (.dup, 1) := by rw [hb]; exact d3
  have d4' : decode c.code (pc + 4) = .ok (.ldc is, 2) := by rw [hb]; exact d4
  have hstr' : vk_R "ShoreDay" is text sa s' := vk_R.warm hW0 hstr
  obtain ⟨U, hsteps, hrun, hend, hW, hsame, ce, hce, hOv, hOc⟩ := nx_ctor X₁ hexec htr hown' h (fun x hx => nomatch hx) hfX hkX hcellA (by rw [hhp, hT]; exact Nat.le_refl _) (msg := .ref sa) rfl
    (g := { method := m, pc := pc + 6, locals := ls, stack := .ref sa :: .ref T.heap.size :: .ref T.heap.size :: rest, locked := none }) rfl hsize rfl rfl (rest := rest) rfl
    (by rw [hb]; exact d6) (by rw [hb]; exact d9) hout hRframes (by simp only [List.map_cons, List.sum_cons, hcat]; omega) hlocks
  obtain ⟨f1, f2⟩ := vx_frame hsame
  rw [hhp] at f1 f2
  have hWs : s.WarmedH U.vm := State.WarmedH.trans hW0 hW
  have hcl : s.vm.findClass nsE = some ce.cls := by
    have h9 := hOc
    rw [hvm] at h9
    exact h9
  have hall : s.sameButNew ({ U with vm := s.vm } : State) locs mc ms := by
    subst hA
    obtain ⟨e1, e2⟩ := hsame
    rw [State.setFrames_setFrames] at e1
    have h2 : (T.setVm s.vm).sameButNew ({ U with vm := s.vm } : State) [] (0 + 1) (0 + 6) := ⟨e1, e2⟩
    have h3 := X.same.trans h2
    rw [List.append_nil] at h3
    exact h3.mono hc hs
  refine ⟨U, ?_, .threw T.heap.size, hrun, hend, Or.inr ⟨T.heap.size, rfl, nsE, ce, locs, hx U hWs.alike f1 (fun q hq => f2 q hq (fun z hz => nomatch hz)), hce, hOv, hcl, hWs, hall, hf⟩⟩
  refine st1 _ ?_
  show Steps p.tables e below (T1.setTop { method := m, pc := pc + 3, locals := ls, stack := .ref T.heap.size :: rest, locked := none }) _
  jvm_step X₁.here [X₁.here.top, hexec, d3', Value.category]
  exact X₁.ldcString hexec (own := "ShoreDay") (text := text) (index := is) (a := sa) hown' hstr'.1 hstr'.2
    (g := { method := m, pc := pc + 4, locals := ls, stack := .ref T.heap.size :: .ref T.heap.size :: rest, locked := none }) rfl d4' _ hsteps
end
theorem ns_in : ∀ w ∈ nxA.filter vx_no, w ∈ wsG ∨ w ∈ dclW.map Cond.declares ∨ w ∈ cstW.map (fun q => Cond.castable q.1 q.2) := by decide +kernel
theorem ns_good : ∀ w ∈ Cond.classLink "ShoreDay" 161 nsE :: Cond.initialized nsE :: nxA.filter vx_no, vx_ot w = true := by decide +kernel
theorem ns_w1 : Cond.classLink "ShoreDay" 161 nsE ∈ wsG := by decide +kernel
theorem ns_w2 : Cond.initialized nsE ∈ wsG := by decide +kernel
def QxOf (lay : LayT) (D : va_G) (dA : Nat → ClassId) (base : Nat) (ad : Nat → Nat → Nat) (h : Hp) : String → State → State → Prop := fun E st t => E = nsE ∧ QcOf lay D dA base ad h (fun r h2 => r = [] ∧ h2 = h) #[] st (.returned none) t
def CtX (l : Launch) (d : Nat) (a b : Int32) (h : Hp) : Prop :=
  ∀ (D : va_G) (dA : Nat → ClassId) (base : Nat) (ad : Nat → Nat → Nat), vx_Met l yX11_look (Cond.code yX11_look cX11_look 4 (some .int) :: wsG) (roomOf d 1 6) (PcOf lay1 D dA base ad [vP (some (11, 0)), vI a, vI b] h) (fun _ _ _ _ => False) (QxOf lay1 D dA base ad h) 1 6 (fun q => base ≤ q)
def EX (E : EnvT) : Prop := eQ E = vx_MQ (eB E) (fun _ _ _ _ => False) (QxOf (eY E) (eD E) (eDA E) (eb E) (ea0 E) (eh0 E)) (eA E) (eS E) 1 6 (fun q => eb E ≤ q)
section
variable {E : EnvT} {d : Nat} {L : List (Option AVal)} {h : Hp} {c n : Nat}
theorem nw_at {w : Cond} {a : Array Value} {U : State} (hg : vx_ot w = true) (h : va_Nw w U) : w.before a U = true := vx_ot_at (State.WarmedH.refl U) rfl hg h
theorem sw_throw {pc is i : Nat} {text : String} (cx : CX E "ShoreDay" cX11_look 4 (some .int) "look" (d + 8) 1 6) (hl : (eL E).stackTraces = false) (ex : EX E) (ht : ∀ x ∈ (eC E).exceptionTable.toList, False) (hi : i < 11) (hs : strT.getD i ("", 0, "") = ("ShoreDay", is, text))
    (d0 : decode cX11_look pc = .ok (.new 161, 3)) (d3 : decode cX11_look (pc + 3) = .ok (.dup, 1)) (d4 : decode cX11_look (pc + 4) = .ok (.ldc is, 2)) (d6 : decode cX11_look (pc + 6) = .ok (.invokespecial 165, 3)) (d9 : decode cX11_look (pc + 9) = .ok (.athrow, 1))
    (hh : h = eh0 E) (hc : c + 1 ≤ 1) (hn : n + 6 ≤ 6) : SW E pc (L, [], h, c, n) := by
  intro ad ws H locs ls h1 h2 h3 h4
  obtain ⟨adK, adV, pf, k1, k2, k3, k4, hU, hN, hao, hdc, hcs⟩ := cx.st
  have k9 := (k2 i hi).2
  rw [hs] at k9
  have r1 := cx.rm.1
  have r2 := cx.rm.2.1
  have r3 := cx.rm.2.2.1
  have r4 := cx.rm.2.2.2
  have hat : ∀ w ∈ nxA.filter vx_no, w.before (eA E) (eS E) = true := fun w hw => by
    have hg := ns_good w (List.mem_cons_of_mem _ (List.mem_cons_of_mem _ hw))
    rcases ns_in w hw with g | g | g
    · exact cx.w w g
    · obtain ⟨x, hx, rfl⟩ := List.mem_map.mp g
      exact nw_at hg (hdc x hx)
    · obtain ⟨x, hx, rfl⟩ := List.mem_map.mp g
      exact nw_at hg (hcs x hx)
  show W _ _ _ _ _ _ _ _ _ _ _ _ _ _ (eQ E) _
  rw [ex]
  refine nx_throw (text := text) (is := is) (sa := adK i) (A := fun q => eb E ≤ q) cx.x cx.b hl cx.o (cx.w _ ns_w1) (cx.w _ ns_w2) k9 hat ns_good hU hN h1.2.2.2.1 h4.1 d0 d3 d4 d6 d9 (fun x hx => (ht x hx).elim) (by omega) (by show 0 + (13 * 3 + 43) ≤ _; omega) (by show c + 1 ≤ _; omega) (by show n + 6 ≤ _; omega) cx.lk ?_ h1.2.2.2.1.2.2 hc hn
  intro t _ hz hk
  refine ⟨rfl, [], h, ad, ws, Nat.zero_le 1, rfl, ⟨rfl, hh⟩, h1.2.2.2.2, h1.1, h1.2.1.kept fun k q hq => hk q.1 (h1.2.1 k q hq).lt, h1.2.2.1, fun v hv => (by cases hv), Nat.le_trans h1.2.2.2.1.1 hz, fun q g1 g2 => ?_⟩
  rw [hk q (Nat.lt_of_lt_of_le g1 h1.2.2.2.1.1)]
  exact h1.2.2.2.1.2.1 q g1 g2
end
theorem CtX.of {l : Launch} {d : Nat} {a b : Int32} {h : Hp} (body : ∀ E : EnvT, CX E "ShoreDay" cX11_look 4 (some .int) "look" d 1 6 → EX E → eL E = l → eY E = lay1 → eh0 E = h → (∀ x ∈ (eC E).exceptionTable.toList, False) → SW E 0 ([some (vP (some (11, 0))), some (vI a), some (vI b), none], [], h, 0, 0)) : CtX l d a b h := by
  intro D dA base ad
  refine vx_ofW (cc := cX11_look) (maxL := 4) (ret := some .int) (by decide +kernel) rfl ?_
  intro p e s m args below meth c s₁ B hml ht hv
  obtain ⟨rfl, hok, ⟨ws, hR, hP, hD⟩, hK, hz, hne, hsn, hst⟩ := hv
  have hts := atoms_spec (ws := Cond.code yX11_look cX11_look 4 (some .int) :: wsG) B.pre
  have hb := body (p, l, e, roomOf d 1 6, s, m, ([vP (some (11, 0)), vI a, vI b].map (cv ad)).toArray, below, meth, c, vx_MQ below (fun _ _ _ _ => False) (QxOf lay1 D dA base ad h) ([vP (some (11, 0)), vI a, vI b].map (cv ad)).toArray s 1 6 (fun q => base ≤ q), D, dA, base, lay1, ad, h)
    ⟨B.exec, B.bytes, hml, findClass_of_methodNamed B.named, fun w hw => hts w (List.mem_cons_of_mem _ hw), hK, hz, B.returns, B.notSynchronized, (name_of_methodNamed B.named B.method).1, ⟨Nat.le_refl _, Nat.le_refl _, rfl, rfl⟩, hne, hsn, hst⟩ rfl rfl rfl rfl ht
  have hl := lv_entry ([vP (some (11, 0)), vI a, vI b].map (cv ad)) (n := 4) (by rw [entA_len]; exact Nat.le_of_ble_eq_true rfl)
  rw [lg_entry_eq]
  refine hb ad ws s.heap [] _ ⟨hR, hP, hD, va_S.rf, fun k i hi => ⟨hi, rfl⟩⟩ (fun v hv => by cases hv) (entL_ok (av := [vP (some (11, 0)), vI a, vI b]) (m := 1) hok) ?_
  show lv_has _ c.maxLocals _
  rw [hml]
  exact ⟨hl.1, hl.2.1, fun q hq => hl.2.2 q (entA_mem ad [vP (some (11, 0)), vI a, vI b] 1 0 q hq)⟩
