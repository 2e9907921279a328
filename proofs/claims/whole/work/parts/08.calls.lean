/-! calls -/
def ctg (v : AVal) : Nat := match v with
  | .inr (.inl _) => 2
  | _ => 1
theorem ctg_cv (ad : Nat → Nat → Nat) (v : AVal) : (cv ad v).category = ctg v := by
  match v with
  | .inl x => rfl
  | .inr (.inl x) => rfl
  | .inr (.inr none) => rfl
  | .inr (.inr (some p)) => rfl
theorem ctg_sum (ad : Nat → Nat → Nat) (S : List AVal) : ((S.map (cv ad)).map fun v => v.category).sum = (S.map ctg).sum := by
  rw [List.map_map]
  congr 1
  exact List.map_congr_left fun v _ => ctg_cv ad v
theorem cv_ext {ad ad' : Nat → Nat → Nat} {h : Hp} (hx : ∀ k i, i < gC h k → ad' k i = ad k i) {v : AVal} (hv : okv h v) : cv ad' v = cv ad v := by
  match v, hv with
  | .inl x, _ => rfl
  | .inr (.inl x), _ => rfl
  | .inr (.inr none), _ => rfl
  | .inr (.inr (some p)), hv =>
    show Value.ref (ad' p.1 p.2) = Value.ref (ad p.1 p.2)
    rw [hx p.1 p.2 (hv p rfl)]
theorem okv_ext {h h' : Hp} (hx : ∀ k i, i < gC h k → i < gC h' k) {v : AVal} (hv : okv h v) : okv h' v := by
  match v, hv with
  | .inl x, _ => trivial
  | .inr (.inl x), _ => trivial
  | .inr (.inr p), hv => exact fun q hq => hx q.1 q.2 (hv q hq)
theorem lasc_ext {ad ad' : Nat → Nat → Nat} {h : Hp} (hx : ∀ k i, i < gC h k → ad' k i = ad k i) : ∀ {L : List (Option AVal)} {n : Nat}, (∀ v, some v ∈ L → okv h v) → lasc ad' n L = lasc ad n L
  | [], _, _ => rfl
  | none :: L, n, hl => by rw [lasc, lasc, lasc_ext hx (fun v hv => hl v (List.mem_cons_of_mem _ hv))]
  | some v :: L, n, hl => by rw [lasc, lasc, lasc_ext hx (fun v hv => hl v (List.mem_cons_of_mem _ hv)), cv_ext hx (hl v List.mem_cons_self)]
theorem XF.kept {base : Nat} {U : State} {H H1 : Heap} (hq : ∀ a : Nat, a < H.size → ¬ base ≤ a → H1[a]? = H[a]?) (h : XF base U H) : XF base U H1 := ⟨h.1.kept hq, h.2.1.kept hq, h.2.2⟩
theorem XF.moved {base : Nat} {u U : State} {H : Heap} (hvm : u.vm.Alike U.vm) (h : XF base u H) : XF base U H :=
  ⟨h.1.moved hvm, h.2.1.moved hvm, fun C hC => (h.2.2.1 C hC).moved hvm, fun x hx => va_tabs rfl (rfl : (u.setVm U.vm).vm = U.vm) (by rw [Cond.declares_setVm hvm]; exact h.2.2.2.1 x hx), fun q hq => va_tabs rfl (rfl : (u.setVm U.vm).vm = U.vm) (by rw [Cond.castable_setVm hvm]; exact h.2.2.2.2 q hq)⟩
theorem StrF.warm {base : Nat} {ad ad' : Nat → Nat → Nat} {s U : State} (hW : s.WarmedH U.vm) (hq : ∀ a : Nat, a < s.heap.size → ¬ base ≤ a → U.heap[a]? = s.heap[a]?) (he : ∀ i, i < 11 → ad' 60 i = ad 60 i ∧ ad' 62 i = ad 62 i) (h : StrF base ad s) : StrF base ad' U := by
  obtain ⟨adK, adV, pf, h1, h2, h3, h4, h5⟩ := h
  exact ⟨adK, adV, pf, (h1.moved hW.alike).kept hq, fun i hi => ⟨⟨(h2 i hi).1.1.trans (he i hi).1.symm, (h2 i hi).1.2.trans (he i hi).2.symm⟩, (h2 i hi).2.warm hW⟩, (h3.moved hW.alike).kept hq, (h4.moved hW.alike).kept hq, (h5.moved hW.alike).kept hq⟩
theorem StrF.same {base : Nat} {ad : Nat → Nat → Nat} {s U : State} (hv : U.vm = s.vm) (hh : U.heap = s.heap) (h : StrF base ad s) : StrF base ad U := by
  obtain ⟨adK, adV, pf, h1, h2, h3, h4, h5⟩ := h
  have ha : s.vm.Alike U.vm := by rw [hv]; exact Vm.Alike.refl s.vm
  refine ⟨adK, adV, pf, ?_, fun i hi => ⟨(h2 i hi).1, (h2 i hi).2.same hv⟩, ?_, ?_, ?_⟩
  · rw [hh]; exact h1.moved ha
  · rw [hh]; exact h3.moved ha
  · rw [hh]; exact h4.moved ha
  · rw [hh]; exact h5.moved ha
theorem pc_blind {lay : LayT} {D : va_G} {dA : Nat → ClassId} {base : Nat} {ad : Nat → Nat → Nat} {av : List AVal} {h : Hp} : FrameBlind (PcOf lay D dA base ad av h) := by
  rintro a U g mk ⟨h1, h2, h3, h4, h5, h6, h7, h8⟩
  exact ⟨h1, h2, h3, va_K.moved (u := U) (U := U.calling g mk a) (Vm.Alike.refl U.vm) h4, h5, fun w hw => va_Nw.same rfl (u := U) rfl (h6 w hw), h7, StrF.same (s := U) rfl rfl h8⟩
section CLS
variable {E : EnvT} {own : String} {cc : ByteArray} {mL : Nat} {rt : Option FieldType} {nm : String} {d mc ms pc : Nat} {L : List (Option AVal)} {S : List AVal} {h : Hp} {c n : Nat} {y : MethodName} {cc2 : ByteArray} {mL2 : Nat} {rt2 : Option FieldType} {d2 mc2 ms2 : Nat} {Post2 : List AVal → Hp → Prop}
theorem pc_call {ad : Nat → Nat → Nat} {ws : va_W} {H : Heap} {locs : List Loc} {av : List AVal} (cx : CX E own cc mL rt nm d mc ms) (h1 : At9 E ad ws H locs h) (hok : ∀ v ∈ av, okv h v) {U : State} (hU : U.heap = H) (hW : (eS E).WarmedH U.vm) : PcOf (eY E) (eD E) (eDA E) (eb E) ad av h ((av.map (cv ad)).toArray) U := by
  have hsn := cx.sn
  have hx := h1.2.2.2.2
  obtain ⟨n1, n2, n3⟩ := hsn
  refine ⟨rfl, hok, ⟨ws, h1.1, by rw [hU]; exact h1.2.1, h1.2.2.1⟩, va_K.moved hW.alike cx.k, by rw [hU]; exact Nat.le_trans cx.z h1.2.2.2.1.1, fun w hw => va_Nw.warmM hW (cx.ne w hw), ⟨?_, ?_, ?_⟩, StrF.warm hW (fun a ha hb => by rw [hU]; exact h1.2.2.2.1.2.1 a ha hb) (fun i hi => ⟨(hx 60 i (by omega)).2, (hx 62 i (by omega)).2⟩) cx.st⟩
  · have := (hx 60 10 (by omega)).1
    omega
  · have := (hx 62 10 (by omega)).1
    omega
  · have := (hx 61 0 (by omega)).1
    omega
theorem sw_run {ad : Nat → Nat → Nat} {ws : va_W} {H : Heap} {locs : List Loc} {ls : Array Slot} {a9 : Array Value} {st9 : List Value} (h1 : At9 E ad ws H locs h) (h2 : ∀ v ∈ S, okv h v) (h3 : ∀ v, some v ∈ L → okv h v) (h4 : lv_has ls (eC E).maxLocals (lasc ad 0 L)) (hr : va_Run (eP E) (eL E) (eE E) (eR E) (eS E) (eM E) (eA E) (eB E) (eMe E) (eC E) H locs c n mc2 ms2 (F0 (eM E) pc ls st9) (S.map (cv ad)) (QcOf (eY E) (eD E) (eDA E) (eb E) ad h Post2 a9) (fun q => eb E ≤ q)) (kk : ∀ r h', Post2 r h' → SW E (pc + 3) (L, r ++ S, h', c + mc2, n + ms2)) : WE E H locs c n (F0 (eM E) pc ls st9) := by
  intro T hT X
  obtain ⟨v, st₀, t, T', L9, e0, X', hL9, e1, e2, ⟨r, h', ad', ws', hr1, hv, hpost, hext, hR', hP', hD', hok', hz, hk⟩, st⟩ := hr T hT X
  rw [e0] at hz hk
  have hxa : ∀ k i, i < gC h k → ad' k i = ad k i := fun k i hi => (hext k i hi).2
  have hxc : ∀ k i, i < gC h k → i < gC h' k := fun k i hi => (hext k i hi).1
  have hS := h1.2.2.2.1
  have hv : v = (r.map (cv ad')).head? := by injection hv
  have hA : At9 E ad' ws' T'.heap (locs ++ L9) h' := by
    refine ⟨hR', by rw [e1]; exact hP', hD', ⟨Nat.le_trans hS.1 (by rw [e1]; exact hz), fun q g1 g2 => ?_, fun q hq => ?_⟩, fun k i hi => ?_⟩
    · rw [e1, hk q (Nat.lt_of_lt_of_le g1 hS.1) g2]
      exact hS.2.1 q g1 g2
    · rcases List.mem_append.mp hq with g | g
      · exact hS.2.2 q g
      · exact hL9 q g
    · obtain ⟨g1, g2⟩ := h1.2.2.2.2 k i hi
      exact ⟨hxc k i g1, (hxa k i g1).trans g2⟩
  obtain ⟨t2, a1, b1⟩ := kk r h' hpost ad' ws' T'.heap (locs ++ L9) ls hA (fun w hw => by
      rcases List.mem_append.mp hw with g | g
      · exact hok' w g
      · exact okv_ext hxc (h2 w g)) (fun w hw => okv_ext hxc (h3 w hw)) (by rw [lasc_ext hxa h3]; exact h4) T' rfl X'
  refine ⟨t2, st t2 ?_, b1⟩
  have e9 : v.toList ++ S.map (cv ad) = (r ++ S).map (cv ad') := by
    rw [List.map_append, hv]
    congr 1
    · match r, hr1 with
      | [], _ => rfl
      | [a], _ => rfl
    · exact List.map_congr_left fun w hw => (cv_ext hxa (h2 w hw)).symm
  show Steps _ _ _ (T'.setTop (F0 (eM E) (pc + 3) ls (v.toList ++ S.map (cv ad)))) t2
  rw [e9]
  exact a1
theorem wsG_code (hc : Cond.code y cc2 mL2 rt2 ∈ wsG) : GoodIn wsG (Cond.code y cc2 mL2 rt2 :: wsG) := fun w hw => by
  rcases List.mem_cons.mp hw with rfl | hw
  · exact wsG_good _ hc
  · exact wsG_good w hw
/-- what a call's words are: its code, that its class is ready, the shape of its arguments -/
def CW (y : MethodName) (cc2 : ByteArray) (mL2 : Nat) (rt2 : Option FieldType) (na : Nat) : Prop := Cond.code y cc2 mL2 rt2 ∈ wsG ∧ Cond.initialized y.cls ∈ wsG ∧ (y.cls ≠ "java/lang/invoke/MethodHandle" ∧ y.cls ≠ "java/lang/invoke/VarHandle" ∧ (parseMethodDescriptor y.desc).map (fun d => d.parameters.length) = some na) ∧ mL2 ≤ 22
theorem callB (cx : CX E own cc mL rt nm d mc ms) {na ix : Nat} (cw : CW y cc2 mL2 rt2 na) (hl : Cond.methodLink own ix y ∈ wsG) (hd2 : d2 + 1 ≤ d) : CallB (eR E) (eS E) (eA E) own ix y cc2 mL2 rt2 (Cond.code y cc2 mL2 rt2 :: wsG) (roomOf d2 mc2 ms2) mc2 ms2 na := by
  have := cw.2.2.2
  refine callB_of na cx.w (wsG_code cw.1) rfl rfl rfl (cx.w _ cw.2.1) (cx.w _ hl) cw.2.2.1 ?_
  have r1 := cx.rm.1
  have r2 := cx.rm.2.1
  exact ⟨by show d2 + 1 ≤ (eR E).frames; omega, by show 8 + (mL2 + 11) + 41 * d2 ≤ (eR E).locals; omega⟩
theorem callN (cx : CX E own cc mL rt nm d mc ms) {na ix : Nat} (cw : CW y cc2 mL2 rt2 na) (hl : (own, ix, y) ∈ nestW) (hd2 : d2 + 1 ≤ d) : va_CN (eR E) (eS E) (eA E) own ix y "ShoreDay" cc2 mL2 rt2 (Cond.code y cc2 mL2 rt2 :: wsG) (roomOf d2 mc2 ms2) mc2 ms2 na := by
  have := cw.2.2.2
  refine va_cnB na cx.w (wsG_code cw.1) rfl rfl rfl (cx.ne _ hl) (cx.w _ cw.2.1) cw.2.2.1 ?_
  have r1 := cx.rm.1
  have r2 := cx.rm.2.1
  exact ⟨by show d2 + 1 ≤ (eR E).frames; omega, by show 8 + (mL2 + 11) + 41 * d2 ≤ (eR E).locals; omega⟩
theorem room_le (cx : CX E own cc mL rt nm d mc ms) (hc : c + mc2 ≤ mc) (hn : n + ms2 ≤ ms) : c + mc2 ≤ (eR E).cells ∧ n + ms2 ≤ (eR E).slots := by
  have r1 := cx.rm.2.2.1
  have r2 := cx.rm.2.2.2
  exact ⟨by omega, by omega⟩
theorem ok_app {A B : List AVal} {h : Hp} (hs : ∀ v ∈ A ++ B, okv h v) : (∀ v ∈ A, okv h v) ∧ ∀ v ∈ B, okv h v := ⟨fun v hv => hs v (List.mem_append_left _ hv), fun v hv => hs v (List.mem_append_right _ hv)⟩
theorem rev_map {ad : Nat → Nat → Nat} {As B : List AVal} : (As.reverse ++ B).map (cv ad) = (As.map (cv ad)).reverse ++ B.map (cv ad) := by
  rw [List.map_append, List.map_reverse]
theorem ok_rev {As : List AVal} {h : Hp} (hs : ∀ v ∈ As.reverse, okv h v) : ∀ v ∈ As, okv h v := fun v hv => hs v (List.mem_reverse.mpr hv)
theorem sw_callV {As : List AVal} {k i ix : Nat} {C : String} {T : u_T} {N : Nat} (cx : CX E own cc mL rt nm d mc ms) (kd : KD k C T N) (hM : Ct (eL E) (eY E) y cc2 mL2 rt2 d2 mc2 ms2 (vP (some (k, i)) :: As) h Post2) (cw : CW y cc2 mL2 rt2 As.length) (hl : Cond.methodLink own ix y ∈ wsG) (hin : Cond.instanceMethod y ∈ wsG) (hse : Cond.selects C y y ∈ wsG) (hd2 : d2 + 1 ≤ d) (hcat : (S.map ctg).sum ≤ 8) (hc : c + mc2 ≤ mc) (hn : n + ms2 ≤ ms) (hd : decode cc pc = .ok (.invokevirtual ix, 3)) (kk : ∀ r h', Post2 r h' → SW E (pc + 3) (L, r ++ S, h', c + mc2, n + ms2)) : SW E pc (L, As.reverse ++ vP (some (k, i)) :: S, h, c, n) := by
  intro ad ws H locs ls h1 h2 h3 h4
  obtain ⟨g1, g2⟩ := ok_app h2
  have hi := ok_lt (okv_hd g2)
  obtain ⟨q, hq⟩ := h1.1.at (lo13 kd.1) hi
  rw [cell_obj kd.1] at hq
  refine sw_run h1 (okv_tl g2) h3 h4 (va_runV (As := As.map (cv ad)) (rest := S.map (cv ad)) (b := ad k i) (C := C) (n := As.length) ⟨cx.x, cx.b, rfl, cx.o, cx.w⟩ (hM (eD E) (eDA E) (eb E) ad) ⟨callB cx cw hl hd2, cx.w _ hin, cx.w _ hse⟩ ⟨pc_blind, ?_, fun U hU hW => pc_call cx h1 (fun v hv => ?_) hU hW⟩ rfl (by rw [List.length_map]) h4.1 (by show _ = _; rw [rev_map]; rfl) (lv_room (by rw [ctg_sum]; exact hcat)) hd (room_le cx hc hn)) kk
  · exact va_recv cx.k h1.2.1 (q := (C, T, N)) kd.2.1 hq
  · rcases List.mem_cons.mp hv with rfl | hv
    · exact okv_hd g2
    · exact ok_rev g1 v hv
theorem sw_callI {As : List AVal} {k i ix : Nat} (cx : CX E own cc mL rt nm d mc ms) (hM : Ct (eL E) (eY E) y cc2 mL2 none d2 mc2 ms2 (vP (some (k, i)) :: As) h Post2) (cw : CW y cc2 mL2 none As.length) (hl : Cond.methodLink own ix y ∈ wsG) (hin : Cond.instanceMethod y ∈ wsG) (hnm : y.name = "<init>") (hd2 : d2 + 1 ≤ d) (hcat : (S.map ctg).sum ≤ 8) (hc : c + mc2 ≤ mc) (hn : n + ms2 ≤ ms) (hd : decode cc pc = .ok (.invokespecial ix, 3)) (kk : ∀ r h', Post2 r h' → SW E (pc + 3) (L, r ++ S, h', c + mc2, n + ms2)) : SW E pc (L, As.reverse ++ vP (some (k, i)) :: S, h, c, n) := by
  intro ad ws H locs ls h1 h2 h3 h4
  obtain ⟨g1, g2⟩ := ok_app h2
  refine sw_run h1 (okv_tl g2) h3 h4 (va_runI (As := As.map (cv ad)) (rest := S.map (cv ad)) (b := ad k i) (n := As.length) ⟨cx.x, cx.b, rfl, cx.o, cx.w⟩ (hM (eD E) (eDA E) (eb E) ad) ⟨callB cx cw hl hd2, hnm, cx.w _ hin⟩ ⟨pc_blind, fun U hU hW => pc_call cx h1 (fun v hv => ?_) hU hW⟩ rfl (by rw [List.length_map]) h4.1 (by show _ = _; rw [rev_map]; rfl) (lv_room (by rw [ctg_sum]; exact hcat)) hd (room_le cx hc hn)) kk
  rcases List.mem_cons.mp hv with rfl | hv
  · exact okv_hd g2
  · exact ok_rev g1 v hv
theorem sw_callIN {As : List AVal} {k i ix : Nat} (cx : CX E own cc mL rt nm d mc ms) (hM : Ct (eL E) (eY E) y cc2 mL2 none d2 mc2 ms2 (vP (some (k, i)) :: As) h Post2) (cw : CW y cc2 mL2 none As.length) (hl : (own, ix, y) ∈ nestW) (hin : Cond.instanceMethod y ∈ wsG) (hnm : y.name = "<init>") (hd2 : d2 + 1 ≤ d) (hcat : (S.map ctg).sum ≤ 8) (hc : c + mc2 ≤ mc) (hn : n + ms2 ≤ ms) (hd : decode cc pc = .ok (.invokespecial ix, 3)) (kk : ∀ r h', Post2 r h' → SW E (pc + 3) (L, r ++ S, h', c + mc2, n + ms2)) : SW E pc (L, As.reverse ++ vP (some (k, i)) :: S, h, c, n) := by
  intro ad ws H locs ls h1 h2 h3 h4
  obtain ⟨g1, g2⟩ := ok_app h2
  refine sw_run h1 (okv_tl g2) h3 h4 (va_runIN (As := As.map (cv ad)) (rest := S.map (cv ad)) (b := ad k i) (n := As.length) ⟨cx.x, cx.b, rfl, cx.o, cx.w⟩ (hM (eD E) (eDA E) (eb E) ad) ⟨callN cx cw hl hd2, hnm, cx.w _ hin⟩ ⟨pc_blind, fun U hU hW => pc_call cx h1 (fun v hv => ?_) hU hW⟩ rfl (by rw [List.length_map]) h4.1 (by show _ = _; rw [rev_map]; rfl) (lv_room (by rw [ctg_sum]; exact hcat)) hd (room_le cx hc hn)) kk
  rcases List.mem_cons.mp hv with rfl | hv
  · exact okv_hd g2
  · exact ok_rev g1 v hv
theorem sw_callS {As : List AVal} {ix : Nat} (cx : CX E own cc mL rt nm d mc ms) (hM : Ct (eL E) (eY E) y cc2 mL2 rt2 d2 mc2 ms2 As h Post2) (cw : CW y cc2 mL2 rt2 As.length) (hl : Cond.methodLink own ix y ∈ wsG) (hst : Cond.static y ∈ wsG) (hd2 : d2 + 1 ≤ d) (hcat : (S.map ctg).sum ≤ 8) (hc : c + mc2 ≤ mc) (hn : n + ms2 ≤ ms) (hd : decode cc pc = .ok (.invokestatic ix, 3)) (kk : ∀ r h', Post2 r h' → SW E (pc + 3) (L, r ++ S, h', c + mc2, n + ms2)) : SW E pc (L, As.reverse ++ S, h, c, n) := by
  intro ad ws H locs ls h1 h2 h3 h4
  obtain ⟨g1, g2⟩ := ok_app h2
  exact sw_run h1 g2 h3 h4 (va_runS (As := As.map (cv ad)) (rest := S.map (cv ad)) (n := As.length) ⟨cx.x, cx.b, rfl, cx.o, cx.w⟩ (hM (eD E) (eDA E) (eb E) ad) ⟨callB cx cw hl hd2, cx.w _ hst⟩ ⟨pc_blind, fun U hU hW => pc_call cx h1 (ok_rev g1) hU hW⟩ rfl (by rw [List.length_map]) h4.1 (by show _ = _; rw [rev_map]) (lv_room (by rw [ctg_sum]; exact hcat)) hd (room_le cx hc hn)) kk
theorem sw_callSN {As : List AVal} {ix : Nat} (cx : CX E own cc mL rt nm d mc ms) (hM : Ct (eL E) (eY E) y cc2 mL2 rt2 d2 mc2 ms2 As h Post2) (cw : CW y cc2 mL2 rt2 As.length) (hl : (own, ix, y) ∈ nestW) (hst : Cond.static y ∈ wsG) (hd2 : d2 + 1 ≤ d) (hcat : (S.map ctg).sum ≤ 8) (hc : c + mc2 ≤ mc) (hn : n + ms2 ≤ ms) (hd : decode cc pc = .ok (.invokestatic ix, 3)) (kk : ∀ r h', Post2 r h' → SW E (pc + 3) (L, r ++ S, h', c + mc2, n + ms2)) : SW E pc (L, As.reverse ++ S, h, c, n) := by
  intro ad ws H locs ls h1 h2 h3 h4
  obtain ⟨g1, g2⟩ := ok_app h2
  exact sw_run h1 g2 h3 h4 (va_runSN (As := As.map (cv ad)) (rest := S.map (cv ad)) (n := As.length) ⟨cx.x, cx.b, rfl, cx.o, cx.w⟩ (hM (eD E) (eDA E) (eb E) ad) ⟨callN cx cw hl hd2, cx.w _ hst, trivial⟩ ⟨pc_blind, fun U hU hW => pc_call cx h1 (ok_rev g1) hU hW⟩ rfl (by rw [List.length_map]) h4.1 (by show _ = _; rw [rev_map]) (lv_room (by rw [ctg_sum]; exact hcat)) hd (room_le cx hc hn)) kk
end CLS
