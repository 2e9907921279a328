theorem Ct.imp {l : Launch} {lay : LayT} {y : MethodName} {cc : ByteArray} {mL : Nat} {rt : Option FieldType} {d mc ms : Nat} {av : List AVal} {h : Hp} {P P2 : List AVal → Hp → Prop} (c : Ct l lay y cc mL rt d mc ms av h P) (hp : ∀ r h2, P r h2 → P2 r h2) : Ct l lay y cc mL rt d mc ms av h P2 := fun D dA base ad => MetFree.mono (c D dA base ad) (fun _ _ h => h) (fun _ _ _ _ _ h => h) (fun a st o t _ hq => ⟨by obtain ⟨r, h', ad', ws', g1, g2, g3, g4⟩ := hq.1; exact ⟨r, h', ad', ws', g1, g2, hp _ _ g3, g4⟩, hq.2⟩)
/-! texts: String's own methods over the constants -/
section STR
variable {E : EnvT} {own : String} {cc : ByteArray} {mL : Nat} {rt : Option FieldType} {nm : String} {d mc ms pc : Nat} {L : List (Option AVal)} {S : List AVal} {h : Hp} {c n : Nat} {Post : List AVal → Hp → Prop}
theorem At9.lo {ad : Nat → Nat → Nat} {ws : va_W} {H : Heap} {locs : List Loc} (h1 : At9 E ad ws H locs h) {k i m : Nat} (hm : m ≤ gC (eh0 E) k) (hi : i < m) : i < gC h k ∧ ad k i = ea0 E k i := h1.2.2.2.2 k i (by omega)
theorem sw_strV {i ix : Nat} (cx : CX E own cc mL rt nm d mc ms) (hi : i < 11) (hw : Cond.fieldLink own ix "java/lang/String" "value" "[B" ∈ wsG) (hd : decode cc pc = .ok (.getfield ix, 3)) (kk : SW E (pc + 3) (L, vP (some (62, i)) :: S, h, c, n)) : SW E pc (L, vP (some (60, i)) :: S, h, c, n) := by
  intro ad ws H locs ls h1 h2 h3 h4
  obtain ⟨adK, adV, pf, g1, g2, -⟩ := cx.st
  have e0 := (h1.lo cx.sn.1 hi).2
  have e2 := h1.lo cx.sn.2.1 hi
  have hE := (g1.1 i hi).2.2.1
  rw [(g2 i hi).1.1, (g2 i hi).1.2, ← e0, ← e2.2] at hE
  exact vk_getf cx.x cx.b hE h1.2.2.2.1 cx.o (cx.w _ hw) (fun _ z => z) hd (kk ad ws H locs ls h1 (okv_cons (okv_tl h2) (fun q hq => by cases hq; exact e2.1)) h3 h4)
theorem sw_strC {i ix : Nat} (cx : CX E own cc mL rt nm d mc ms) (hi : i < 11) (hw : Cond.fieldLink own ix "java/lang/String" "coder" "B" ∈ wsG) (hd : decode cc pc = .ok (.getfield ix, 3)) (kk : SW E (pc + 3) (L, vI 0 :: S, h, c, n)) : SW E pc (L, vP (some (60, i)) :: S, h, c, n) := by
  intro ad ws H locs ls h1 h2 h3 h4
  obtain ⟨adK, adV, pf, g1, g2, -⟩ := cx.st
  have e0 := (h1.lo cx.sn.1 hi).2
  have hE := (g1.1 i hi).2.1
  rw [(g2 i hi).1.1, ← e0] at hE
  exact vk_getf cx.x cx.b hE h1.2.2.2.1 cx.o (cx.w _ hw) (fun _ z => z) hd (kk ad ws H locs ls h1 (okv_cons (okv_tl h2) trivial) h3 h4)
theorem sw_gsC {ix : Nat} (cx : CX E own cc mL rt nm d mc ms) (hw : Cond.fieldLink own ix "java/lang/String" "COMPACT_STRINGS" "Z" ∈ wsG) (hd : decode cc pc = .ok (.getstatic ix, 3)) (kk : SW E (pc + 3) (L, vI 1 :: S, h, c, n)) : SW E pc (L, S, h, c, n) := by
  intro ad ws H locs ls h1 h2 h3 h4
  obtain ⟨adK, adV, pf, -, -, g3, -⟩ := cx.st
  exact va_gets cx.x cx.b g3 h1.2.2.2.1 cx.o (cx.w _ hw) (fun _ z => z) hd (kk ad ws H locs ls h1 (okv_cons h2 trivial) h3 h4)
theorem sw_blen {i : Nat} (cx : CX E own cc mL rt nm d mc ms) (hi : i < 11) (hd : decode cc pc = .ok (.arraylength, 1)) (kk : SW E (pc + 1) (L, vI (nI (strN.getD i 0)) :: S, h, c, n)) : SW E pc (L, vP (some (62, i)) :: S, h, c, n) := by
  intro ad ws H locs ls h1 h2 h3 h4
  obtain ⟨adK, adV, pf, g1, g2, -⟩ := cx.st
  have e2 := h1.lo cx.sn.2.1 hi
  have hT := (g1.1 i hi).2.2.2
  rw [(g2 i hi).1.2, ← e2.2] at hT
  exact va_tlen cx.x cx.b hT h1.2.2.2.1 rfl hd (kk ad ws H locs ls h1 (okv_cons (okv_tl h2) trivial) h3 h4)
theorem sw_bald {i : Nat} {j : Int32} (cx : CX E own cc mL rt nm d mc ms) (hi : i < 11) (hj : vp_in j (strN.getD i 0)) (hd : decode cc pc = .ok (.baload, 1)) (kk : SW E (pc + 1) (L, vI ((strB.getD i []).getD (tN j) 0) :: S, h, c, n)) : SW E pc (L, vI j :: vP (some (62, i)) :: S, h, c, n) := by
  intro ad ws H locs ls h1 h2 h3 h4
  obtain ⟨adK, adV, pf, g1, g2, -⟩ := cx.st
  have e2 := h1.lo cx.sn.2.1 hi
  have hT := (g1.1 i hi).2.2.2
  rw [(g2 i hi).1.2, ← e2.2] at hT
  exact va_tb cx.x cx.b hT h1.2.2.2.1 hj rfl hd (kk ad ws H locs ls h1 (okv_cons (okv_tl (okv_tl h2)) trivial) h3 h4)
theorem ret_n {x : Int32} {ty : FieldType} (cx : CX E own cc mL (some ty) nm d mc ms) (eq : EQ E mc ms Post) (hx : narrow ty (.int x) = .int x) (hd : decode cc pc = .ok (.ireturn, 1)) (hc : c ≤ mc) (hn : n ≤ ms) (hp : Post [vI x] h) : SW E pc (L, [vI x], h, c, n) := by
  intro ad ws H locs ls h1 h2 h3 h4
  refine W.widen hc hn ?_
  rw [eq]
  exact W.zret cx.x cx.b cx.r hx (fun t ht _ => h1.end (r := [vI x]) (Nat.le_refl 1) h2 hp ht) h1.2.2.2.1.2.2 hd cx.lk
theorem sw_callVS {y : MethodName} {cc2 : ByteArray} {mL2 : Nat} {rt2 : Option FieldType} {d2 mc2 ms2 : Nat} {Post2 : List AVal → Hp → Prop} {As : List AVal} {i ix : Nat} (cx : CX E own cc mL rt nm d mc ms) (hi : i < 11) (hM : Ct (eL E) (eY E) y cc2 mL2 rt2 d2 mc2 ms2 (vP (some (60, i)) :: As) h Post2) (cw : CW y cc2 mL2 rt2 As.length) (hl : Cond.methodLink own ix y ∈ wsG) (hin : Cond.instanceMethod y ∈ wsG) (hse : Cond.selects "java/lang/String" y y ∈ wsG) (hd2 : d2 + 1 ≤ d) (hcat : (S.map ctg).sum ≤ 8) (hc : c + mc2 ≤ mc) (hn : n + ms2 ≤ ms) (hd : decode cc pc = .ok (.invokevirtual ix, 3)) (kk : ∀ r h', Post2 r h' → SW E (pc + 3) (L, r ++ S, h', c + mc2, n + ms2)) : SW E pc (L, As.reverse ++ vP (some (60, i)) :: S, h, c, n) := by
  intro ad ws H locs ls h1 h2 h3 h4
  obtain ⟨g1, g2⟩ := ok_app h2
  obtain ⟨adK, adV, pf, k1, k2, -⟩ := cx.st
  have e0 := (h1.lo cx.sn.1 hi).2
  refine sw_run h1 (okv_tl g2) h3 h4 (va_runV (As := As.map (cv ad)) (rest := S.map (cv ad)) (b := ad 60 i) (C := "java/lang/String") (n := As.length) ⟨cx.x, cx.b, rfl, cx.o, cx.w⟩ (hM (eD E) (eDA E) (eb E) ad) ⟨callB cx cw hl hd2, cx.w _ hin, cx.w _ hse⟩ ⟨pc_blind, ?_, fun U hU hW => pc_call cx h1 (fun v hv => ?_) hU hW⟩ rfl (by rw [List.length_map]) h4.1 (by show _ = _; rw [rev_map]; rfl) (lv_room (by rw [ctg_sum]; exact hcat)) hd (room_le cx hc hn)) kk
  · have := vk_recv k1 hi h1.2.2.2.1
    rw [(k2 i hi).1.1, ← e0] at this
    exact this
  · rcases List.mem_cons.mp hv with rfl | hv
    · exact okv_hd g2
    · exact ok_rev g1 v hv
def oTx (i : Nat) : Op9 := fun σ => ([], (σ.1, vP (some (60, i)) :: σ.2.1, σ.2.2))
theorem sn_ldcS {i ix : Nat} {tx : String} (cx : CX E own cc mL rt nm d mc ms) (hi : i < 11) (ht : strT[i]? = some (own, ix, tx)) (hd : decode cc pc = .ok (.ldc ix, 2)) : Sn E pc (oTx i) (pc + 2) := by
  rintro ⟨L, S, h, c, n⟩ _ kk ad ws H locs ls h1 h2 h3 h4
  obtain ⟨adK, adV, pf, g1, g2, -⟩ := cx.st
  have e0 := h1.lo cx.sn.1 hi
  have hR := (g2 i hi).2
  have hg : strT.getD i ("", 0, "") = (own, ix, tx) := by rw [List.getD_eq_getElem?_getD, ht]; rfl
  rw [hg, (g2 i hi).1.1, ← e0.2] at hR
  exact va_ldcS cx.x cx.b cx.o hR hd (kk ad ws H locs ls h1 (okv_cons h2 (fun q hq => by cases hq; exact e0.1)) h3 h4)
end STR
theorem cw_coder : CW yJ0_coder_7d493 cJ0_coder_7d493 1 (some .byte) 0 := ⟨wq_677, wq_82, by decide +kernel, by decide⟩
theorem cw_length : CW yJ0_length_8abf5 cJ0_length_8abf5 1 (some .int) 0 := ⟨wq_673, wq_82, by decide +kernel, by decide⟩
theorem cw_isLatin1 : CW yJ0_isLatin1_aae02 cJ0_isLatin1_aae02 1 (some .boolean) 0 := ⟨wq_687, wq_82, by decide +kernel, by decide⟩
theorem cw_pcheck : CW yJ3_checkIndex_8e157 cJ3_checkIndex_8e157 3 (some .int) 3 := ⟨wq_698, wq_84, by decide +kernel, by decide⟩
theorem cw_scheck : CW yJ0_checkIndex_df160 cJ0_checkIndex_df160 2 none 2 := ⟨wq_693, wq_82, by decide +kernel, by decide⟩
theorem cw_lchar : CW yJ1_charAt_3b067 cJ1_charAt_3b067 2 (some .char) 2 := ⟨wq_690, wq_83, by decide +kernel, by decide⟩
theorem cw_charAt : CW yJ0_charAt_5068e cJ0_charAt_5068e 2 (some .char) 1 := ⟨wq_683, wq_82, by decide +kernel, by decide⟩
theorem c_coder {l : Launch} {lay : LayT} {d i : Nat} {h : Hp} (hi : i < 11) : Ct l lay yJ0_coder_7d493 cJ0_coder_7d493 1 (some .byte) d 0 0 [vP (some (60, i))] h (fun r h2 => r = [vI 0] ∧ h2 = h) := by
  refine Ct.of (by decide) (Nat.le_of_ble_eq_true rfl) fun E cx eq hl hY => ?_
  refine sw_gsC (pc := 0) cx wq_678 (by decide +kernel) ?_
  refine br_if_eq (pc := 3) (tgt := 13) cx (by decide +kernel : decode cJ0_coder_7d493 3 = .ok (.ifCond .eq 10, 3)) (by decide) (fun q => absurd q (by decide)) (fun _ => ?_)
  refine (Seg.cons (pc := 6) (sn_aload_n cx (by decide +kernel : decode cJ0_coder_7d493 6 = .ok (.aload_n 0, 1)) rfl) Seg.nil).use (G := []) (σ' := ([some (vP (some (60, i)))], [vP (some (60, i))], h, 0, 0)) rfl trivial ?_
  refine sw_strC (pc := 7) cx hi wq_1373 (by decide +kernel) ?_
  refine (Seg.cons (pc := 10) (sn_goto (tgt := 14) cx (by decide +kernel : decode cJ0_coder_7d493 10 = .ok (.goto 4, 3)) (by decide)) Seg.nil).use (G := []) (σ' := ([some (vP (some (60, i)))], [vI 0], h, 0, 0)) rfl trivial ?_
  exact ret_n (pc := 14) cx eq (by decide) (by decide +kernel) (Nat.le_refl _) (Nat.le_refl _) ⟨rfl, rfl⟩
theorem c_length {l : Launch} {lay : LayT} {d i : Nat} {h : Hp} (hi : i < 11) : Ct l lay yJ0_length_8abf5 cJ0_length_8abf5 1 (some .int) (d + 1) 0 0 [vP (some (60, i))] h (fun r h2 => r = [vI (nI (strN.getD i 0))] ∧ h2 = h) := by
  refine Ct.of (by decide) (Nat.le_of_ble_eq_true rfl) fun E cx eq hl hY => ?_
  refine (Seg.cons (pc := 0) (sn_aload_n cx (by decide +kernel : decode cJ0_length_8abf5 0 = .ok (.aload_n 0, 1)) rfl) Seg.nil).use (G := []) (σ' := ([some (vP (some (60, i)))], [vP (some (60, i))], h, 0, 0)) rfl trivial ?_
  refine sw_strV (pc := 1) cx hi wq_1372 (by decide +kernel) ?_
  refine sw_blen (pc := 4) cx hi (by decide +kernel) ?_
  refine (Seg.cons (pc := 5) (sn_aload_n cx (by decide +kernel : decode cJ0_length_8abf5 5 = .ok (.aload_n 0, 1)) rfl) Seg.nil).use (G := []) (σ' := ([some (vP (some (60, i)))], [vP (some (60, i)), vI (nI (strN.getD i 0))], h, 0, 0)) rfl trivial ?_
  refine sw_callVS (As := []) (pc := 6) (d2 := d) (mc2 := 0) (ms2 := 0) cx hi (c_coder hi) cw_coder wq_674 wq_675 wq_676 (Nat.le_refl _) (Nat.le_of_ble_eq_true rfl) (Nat.le_refl _) (Nat.le_refl _) (by decide +kernel) ?_
  rintro r h2 ⟨rfl, rfl⟩
  refine (Seg.cons (pc := 9) (sn_ishr cx (by decide +kernel : decode cJ0_length_8abf5 9 = .ok (.ishr, 1))) Seg.nil).use (G := []) (σ' := ([some (vP (some (60, i)))], [vI (nI (strN.getD i 0) >>> ((0 : Int32) &&& 31))], h2, 0, 0)) rfl trivial ?_
  refine ret_i (pc := 10) cx eq (by decide +kernel) (Nat.le_refl _) (Nat.le_refl _) ⟨?_, rfl⟩
  have : strN.getD i 0 < 2 ^ 31 := by
    match i, hi with
    | 0, _ => decide
    | 1, _ => decide
    | 2, _ => decide
    | 3, _ => decide
    | 4, _ => decide
    | 5, _ => decide
    | 6, _ => decide
    | 7, _ => decide
    | 8, _ => decide
    | 9, _ => decide
    | 10, _ => decide
  rw [sc_shr0 this]
theorem c_isLatin1 {l : Launch} {lay : LayT} {d i : Nat} {h : Hp} (hi : i < 11) : Ct l lay yJ0_isLatin1_aae02 cJ0_isLatin1_aae02 1 (some .boolean) d 0 0 [vP (some (60, i))] h (fun r h2 => r = [vI 1] ∧ h2 = h) := by
  refine Ct.of (by decide) (Nat.le_of_ble_eq_true rfl) fun E cx eq hl hY => ?_
  refine sw_gsC (pc := 0) cx wq_678 (by decide +kernel) ?_
  refine br_if_eq (pc := 3) (tgt := 17) cx (by decide +kernel : decode cJ0_isLatin1_aae02 3 = .ok (.ifCond .eq 14, 3)) (by decide) (fun q => absurd q (by decide)) (fun _ => ?_)
  refine (Seg.cons (pc := 6) (sn_aload_n cx (by decide +kernel : decode cJ0_isLatin1_aae02 6 = .ok (.aload_n 0, 1)) rfl) Seg.nil).use (G := []) (σ' := ([some (vP (some (60, i)))], [vP (some (60, i))], h, 0, 0)) rfl trivial ?_
  refine sw_strC (pc := 7) cx hi wq_1373 (by decide +kernel) ?_
  refine br_if_ne (pc := 10) (tgt := 17) cx (by decide +kernel : decode cJ0_isLatin1_aae02 10 = .ok (.ifCond .ne 7, 3)) (by decide) (fun q => absurd rfl q) (fun _ => ?_)
  refine (Seg.cons (pc := 13) (sn_iconst cx (by decide +kernel : decode cJ0_isLatin1_aae02 13 = .ok (.iconst 1, 1)) (v := 1) (by decide)) <| Seg.cons (pc := 14) (sn_goto (tgt := 18) cx (by decide +kernel : decode cJ0_isLatin1_aae02 14 = .ok (.goto 4, 3)) (by decide)) Seg.nil).use (G := []) (σ' := ([some (vP (some (60, i)))], [vI 1], h, 0, 0)) rfl trivial ?_
  exact ret_z (pc := 18) cx eq (Or.inr rfl) (by decide +kernel) (Nat.le_refl _) (Nat.le_refl _) ⟨rfl, rfl⟩
/-- the formatter is a value of which nothing is known -/
def PcV (lay : LayT) (D : va_G) (dA : Nat → ClassId) (base : Nat) (ad : Nat → Nat → Nat) (j m : Int32) (v : Value) (h : Hp) : Array Value → State → Prop := fun a U =>
  a = [Value.int j, Value.int m, v].toArray ∧ (∃ ws, HR lay dA base ad h ws ∧ va_P D vwCl ws U.heap ∧ va_D (fun q => base ≤ q) ws) ∧ va_K D vwCl (tysA dA) U ∧ base ≤ U.heap.size ∧ nestOk U ∧ lowN h ∧ StrF base ad U
theorem pv_blind {lay : LayT} {D : va_G} {dA : Nat → ClassId} {base : Nat} {ad : Nat → Nat → Nat} {j m : Int32} {v : Value} {h : Hp} : FrameBlind (PcV lay D dA base ad j m v h) := by
  rintro a U g mk ⟨h1, h3, h4, h5, h6, h7, h8⟩
  exact ⟨h1, h3, va_K.moved (u := U) (U := U.calling g mk a) (Vm.Alike.refl U.vm) h4, h5, fun w hw => va_Nw.same rfl (u := U) rfl (h6 w hw), h7, StrF.same (s := U) rfl rfl h8⟩
theorem c_pcheck {l : Launch} {lay : LayT} {d : Nat} {h : Hp} {j m : Int32} (h0 : ¬ j < 0) (hj : j < m) (D : va_G) (dA : Nat → ClassId) (base : Nat) (ad : Nat → Nat → Nat) (v : Value) (hv : v.category = 1) : Met l yJ3_checkIndex_8e157 (Cond.code yJ3_checkIndex_8e157 cJ3_checkIndex_8e157 3 (some .int) :: wsG) (roomOf d 0 0) (PcV lay D dA base ad j m v h) (QcOf lay D dA base ad h (fun r h2 => r = [vI j] ∧ h2 = h)) 0 0 (fun q => base ≤ q) := by
  refine Met.ofW (cc := cJ3_checkIndex_8e157) (maxL := 3) (ret := some .int) (by decide) rfl ?_
  intro p e s m9 args below meth c s₁ B hml hp
  obtain ⟨rfl, ⟨ws, hR, hP, hD⟩, hK, hz, hne, hsn, hst⟩ := hp
  have hts := atoms_spec (ws := Cond.code yJ3_checkIndex_8e157 cJ3_checkIndex_8e157 3 (some .int) :: wsG) B.pre
  have hb : ∀ E : EnvT, CX E yJ3_checkIndex_8e157.cls cJ3_checkIndex_8e157 3 (some .int) yJ3_checkIndex_8e157.name d 0 0 → EQ E 0 0 (fun r h2 => r = [vI j] ∧ h2 = h) → SW E 0 ([some (vI j), some (vI m), none], [], h, 0, 0) := fun E cx eq => by
    refine (Seg.cons (pc := 0) (sn_iload_n cx (by decide +kernel : decode cJ3_checkIndex_8e157 0 = .ok (.iload_n 0, 1)) rfl) Seg.nil).use (G := []) (σ' := ([some (vI j), some (vI m), none], [vI j], h, 0, 0)) rfl trivial ?_
    refine br_if_lt (pc := 1) (tgt := 9) cx (by decide +kernel : decode cJ3_checkIndex_8e157 1 = .ok (.ifCond .lt 8, 3)) (by decide) (fun z => absurd z h0) (fun _ => ?_)
    refine (Seg.cons (pc := 4) (sn_iload_n cx (by decide +kernel : decode cJ3_checkIndex_8e157 4 = .ok (.iload_n 0, 1)) rfl) <| Seg.cons (pc := 5) (sn_iload_n cx (by decide +kernel : decode cJ3_checkIndex_8e157 5 = .ok (.iload_n 1, 1)) rfl) Seg.nil).use (G := []) (σ' := ([some (vI j), some (vI m), none], [vI m, vI j], h, 0, 0)) rfl trivial ?_
    refine br_icmp_lt (pc := 6) (tgt := 16) cx (by decide +kernel : decode cJ3_checkIndex_8e157 6 = .ok (.if_icmp .lt 10, 3)) (by decide) (fun _ => ?_) (fun z => absurd hj z)
    refine (Seg.cons (pc := 16) (sn_iload_n cx (by decide +kernel : decode cJ3_checkIndex_8e157 16 = .ok (.iload_n 0, 1)) rfl) Seg.nil).use (G := []) (σ' := ([some (vI j), some (vI m), none], [vI j], h, 0, 0)) rfl trivial ?_
    exact ret_i (pc := 17) cx eq (by decide +kernel) (Nat.le_refl _) (Nat.le_refl _) ⟨rfl, rfl⟩
  have hb := hb (p, l, e, roomOf d 0 0, s, m9, [Value.int j, Value.int m, v].toArray, below, meth, c, MQ below (QcOf lay D dA base ad h (fun r h2 => r = [vI j] ∧ h2 = h)) [Value.int j, Value.int m, v].toArray s 0 0 (fun q => base ≤ q), D, dA, base, lay, ad, h)
    ⟨B.exec, B.bytes, hml, findClass_of_methodNamed B.named, fun w hw => hts w (List.mem_cons_of_mem _ hw), hK, hz, B.returns, B.notSynchronized, (name_of_methodNamed B.named B.method).1, ⟨Nat.le_refl _, Nat.le_refl _, rfl, rfl⟩, hne, hsn, hst⟩ rfl
  have hl := lv_entry [Value.int j, Value.int m, v] (n := 3) (by cases v <;> first | exact Nat.le_of_ble_eq_true rfl | cases hv)
  rw [lg_entry_eq]
  refine hb ad ws s.heap [] _ ⟨hR, hP, hD, va_S.rf, fun k i hi => ⟨hi, rfl⟩⟩ (fun w hw => by cases hw) (fun w hw => ?_) ?_
  · simp only [List.mem_cons, List.not_mem_nil, or_false] at hw
    rcases hw with e | e | e
    · cases e; trivial
    · cases e; trivial
    · cases e
  · show lv_has _ c.maxLocals _
    rw [hml]
    refine ⟨hl.1, hl.2.1, fun q hq => hl.2.2 q ?_⟩
    have hq : q ∈ [(0, Value.int j), (1, Value.int m)] := hq
    simp only [List.mem_cons, List.not_mem_nil, or_false] at hq
    rcases hq with rfl | rfl
    · exact List.mem_cons_self
    · exact List.mem_cons_of_mem _ List.mem_cons_self
theorem va_rf_cat {pf : Option Nat} : (va_rf pf).category = 1 := by cases pf <;> rfl
theorem sw_pop1 {E : EnvT} {own : String} {cc : ByteArray} {mL : Nat} {rt : Option FieldType} {nm : String} {d mc ms pc : Nat} {L : List (Option AVal)} {S : List AVal} {h : Hp} {c n : Nat} {x : Int32} (cx : CX E own cc mL rt nm d mc ms) (hd : decode cc pc = .ok (.pop, 1)) (kk : SW E (pc + 1) (L, S, h, c, n)) : SW E pc (L, vI x :: S, h, c, n) := fun ad ws H locs ls h1 h2 h3 h4 => lv_pop cx.x cx.b hd rfl (kk ad ws H locs ls h1 (okv_tl h2) h3 h4)
theorem c_scheck {l : Launch} {lay : LayT} {d : Nat} {h : Hp} {j m : Int32} (h0 : ¬ j < 0) (hj : j < m) : Ct l lay yJ0_checkIndex_df160 cJ0_checkIndex_df160 2 none (d + 1) 0 0 [vI j, vI m] h (fun r h2 => r = [] ∧ h2 = h) := by
  refine Ct.of (by decide) (Nat.le_of_ble_eq_true rfl) fun E cx eq hl hY => ?_
  refine (Seg.cons (pc := 0) (sn_iload_n cx (by decide +kernel : decode cJ0_checkIndex_df160 0 = .ok (.iload_n 0, 1)) rfl) <| Seg.cons (pc := 1) (sn_iload_n cx (by decide +kernel : decode cJ0_checkIndex_df160 1 = .ok (.iload_n 1, 1)) rfl) Seg.nil).use (G := []) (σ' := ([some (vI j), some (vI m)], [vI m, vI j], h, 0, 0)) rfl trivial ?_
  intro ad ws H locs ls h1 h2 h3 h4
  obtain ⟨adK, adV, pf, -, -, -, g4, -⟩ := cx.st
  refine va_gets (pc := 2) cx.x cx.b g4 h1.2.2.2.1 cx.o (cx.w _ wq_694) (fun _ z => z) (by decide +kernel) ?_
  refine sw_run (S := []) (pc := 5) h1 (fun w hw => by cases hw) h3 h4 (va_runS (As := [Value.int j, Value.int m, va_rf pf]) (rest := []) (n := 3) ⟨cx.x, cx.b, rfl, cx.o, cx.w⟩ (c_pcheck (d := d) h0 hj (eD E) (eDA E) (eb E) ad (va_rf pf) va_rf_cat) ⟨callB cx cw_pcheck wq_696 (Nat.le_refl _), cx.w _ wq_697⟩ ⟨pv_blind, fun U hU hW => ?_⟩ rfl rfl h4.1 rfl (lv_room (Nat.le_of_ble_eq_true rfl)) (show decode cJ0_checkIndex_df160 5 = .ok (.invokestatic 1059, 3) by decide +kernel) (room_le cx (Nat.le_refl _) (Nat.le_refl _))) ?_
  · have q := pc_call cx h1 (av := []) (fun w hw => by cases hw) hU hW
    exact ⟨rfl, q.2.2⟩
  rintro r h2 ⟨rfl, rfl⟩
  refine sw_pop1 (pc := 8) cx (by decide +kernel) ?_
  exact ret_v (pc := 9) cx eq (by decide +kernel) (Nat.le_refl _) (Nat.le_refl _) ⟨rfl, rfl⟩
def strCh (i k : Nat) : Int32 := (strB.getD i []).getD k 0 &&& 255
theorem c_lchar {l : Launch} {lay : LayT} {d i : Nat} {h : Hp} {j : Int32} (hi : i < 11) (hj : vp_in j (strN.getD i 0)) (hn : strN.getD i 0 < 2 ^ 31) : Ct l lay yJ1_charAt_3b067 cJ1_charAt_3b067 2 (some .char) (d + 2) 0 0 [vP (some (62, i)), vI j] h (fun r h2 => r = [vI (strCh i (tN j))] ∧ h2 = h) := by
  obtain ⟨k, hk, rfl⟩ := vp_in_of hj hn
  refine Ct.of (by decide) (Nat.le_of_ble_eq_true rfl) fun E cx eq hl hY => ?_
  refine (Seg.cons (pc := 0) (sn_iload_n cx (by decide +kernel : decode cJ1_charAt_3b067 0 = .ok (.iload_n 1, 1)) rfl) <| Seg.cons (pc := 1) (sn_aload_n cx (by decide +kernel : decode cJ1_charAt_3b067 1 = .ok (.aload_n 0, 1)) rfl) Seg.nil).use (G := []) (σ' := ([some (vP (some (62, i))), some (vI (nI k))], [vP (some (62, i)), vI (nI k)], h, 0, 0)) rfl trivial ?_
  refine sw_blen (pc := 2) cx hi (by decide +kernel) ?_
  refine sw_callS (As := [vI (nI k), vI (nI (strN.getD i 0))]) (pc := 3) (d2 := d + 1) (mc2 := 0) (ms2 := 0) (S := []) cx (c_scheck (nI_pos (by omega)) (nI_lt hk hn)) cw_scheck wq_691 wq_692 (Nat.le_refl _) (Nat.le_of_ble_eq_true rfl) (Nat.le_refl _) (Nat.le_refl _) (by decide +kernel) ?_
  rintro r h2 ⟨rfl, rfl⟩
  refine (Seg.cons (pc := 6) (sn_aload_n cx (by decide +kernel : decode cJ1_charAt_3b067 6 = .ok (.aload_n 0, 1)) rfl) <| Seg.cons (pc := 7) (sn_iload_n cx (by decide +kernel : decode cJ1_charAt_3b067 7 = .ok (.iload_n 1, 1)) rfl) Seg.nil).use (G := []) (σ' := ([some (vP (some (62, i))), some (vI (nI k))], [vI (nI k), vP (some (62, i))], h2, 0, 0)) rfl trivial ?_
  refine sw_bald (pc := 8) cx hi hj (by decide +kernel) ?_
  refine (Seg.cons (pc := 9) (sn_sipush cx (by decide +kernel : decode cJ1_charAt_3b067 9 = .ok (.sipush 255, 3)) (v := 255) (by decide)) <| Seg.cons (pc := 12) (sn_iand cx (by decide +kernel : decode cJ1_charAt_3b067 12 = .ok (.iand, 1))) <| Seg.cons (pc := 13) (sn_i2c cx (by decide +kernel : decode cJ1_charAt_3b067 13 = .ok (.i2c, 1))) Seg.nil).use (G := []) (σ' := ([some (vP (some (62, i))), some (vI (nI k))], [vI (((strCh i (tN (nI k))).toUInt32 % 65536).toInt32)], h2, 0, 0)) rfl trivial ?_
  have e1 : ((strCh i (tN (nI k))).toUInt32 % 65536).toInt32 = strCh i (tN (nI k)) := sc_c2 _
  rw [e1]
  exact ret_n (pc := 14) cx eq (sc_nar _) (by decide +kernel) (Nat.le_refl _) (Nat.le_refl _) ⟨rfl, rfl⟩
theorem c_charAt {l : Launch} {lay : LayT} {d i : Nat} {h : Hp} {j : Int32} (hi : i < 11) (hj : vp_in j (strN.getD i 0)) (hn : strN.getD i 0 < 2 ^ 31) : Ct l lay yJ0_charAt_5068e cJ0_charAt_5068e 2 (some .char) (d + 3) 0 0 [vP (some (60, i)), vI j] h (fun r h2 => r = [vI (strCh i (tN j))] ∧ h2 = h) := by
  refine Ct.of (by decide) (Nat.le_of_ble_eq_true rfl) fun E cx eq hl hY => ?_
  refine (Seg.cons (pc := 0) (sn_aload_n cx (by decide +kernel : decode cJ0_charAt_5068e 0 = .ok (.aload_n 0, 1)) rfl) Seg.nil).use (G := []) (σ' := ([some (vP (some (60, i))), some (vI j)], [vP (some (60, i))], h, 0, 0)) rfl trivial ?_
  refine sw_callVS (As := []) (S := []) (pc := 1) (d2 := d + 2) (mc2 := 0) (ms2 := 0) cx hi (c_isLatin1 hi) cw_isLatin1 wq_684 wq_685 wq_686 (Nat.le_refl _) (Nat.le_of_ble_eq_true rfl) (Nat.le_refl _) (Nat.le_refl _) (by decide +kernel) ?_
  rintro r h2 ⟨rfl, rfl⟩
  refine br_if_eq (pc := 4) (tgt := 16) cx (by decide +kernel : decode cJ0_charAt_5068e 4 = .ok (.ifCond .eq 12, 3)) (by decide) (fun q => absurd q (by decide)) (fun _ => ?_)
  refine (Seg.cons (pc := 7) (sn_aload_n cx (by decide +kernel : decode cJ0_charAt_5068e 7 = .ok (.aload_n 0, 1)) rfl) Seg.nil).use (G := []) (σ' := ([some (vP (some (60, i))), some (vI j)], [vP (some (60, i))], h2, 0, 0)) rfl trivial ?_
  refine sw_strV (pc := 8) cx hi wq_1372 (by decide +kernel) ?_
  refine (Seg.cons (pc := 11) (sn_iload_n cx (by decide +kernel : decode cJ0_charAt_5068e 11 = .ok (.iload_n 1, 1)) rfl) Seg.nil).use (G := []) (σ' := ([some (vP (some (60, i))), some (vI j)], [vI j, vP (some (62, i))], h2, 0, 0)) rfl trivial ?_
  refine sw_callS (As := [vP (some (62, i)), vI j]) (pc := 12) (d2 := d + 2) (mc2 := 0) (ms2 := 0) (S := []) cx (c_lchar hi hj hn) cw_lchar wq_688 wq_689 (Nat.le_refl _) (Nat.le_of_ble_eq_true rfl) (Nat.le_refl _) (Nat.le_refl _) (by decide +kernel) ?_
  rintro r h3 ⟨rfl, rfl⟩
  exact ret_n (pc := 15) cx eq (sc_nar _) (by decide +kernel) (Nat.le_refl _) (Nat.le_refl _) ⟨rfl, rfl⟩
theorem strN_lt {i : Nat} : strN.getD i 0 < 2 ^ 31 := by
  match i with
  | 0 => decide
  | 1 => decide
  | 2 => decide
  | 3 => decide
  | 4 => decide
  | 5 => decide
  | 6 => decide
  | 7 => decide
  | 8 => decide
  | 9 => decide
  | 10 => decide
  | i + 11 => simp [strN]
def wp_S_length (i0 : Nat) (h : Hp) (Q : Int32 → Hp → Prop) : Prop := i0 < 11 ∧ Q (nI (strN.getD i0 0)) h
theorem vc_S_length {l : Launch} {d : Nat} {i0 : Nat} {h : Hp} {Q : Int32 → Hp → Prop} (w : wp_S_length i0 h Q) : Ct l lay1 yJ0_length_8abf5 cJ0_length_8abf5 1 (some .int) (d + 2) 0 0 [vP (some (60, i0))] h (fun r h2 => ∃ x, r = [vI x] ∧ Q x h2) := (c_length w.1).imp fun r h2 ⟨e1, e2⟩ => ⟨_, e1, by rw [e2]; exact w.2⟩
def wp_S_charAt (i0 : Nat) (a1 : Int32) (h : Hp) (Q : Int32 → Hp → Prop) : Prop := i0 < 11 ∧ vp_in a1 (strN.getD i0 0) ∧ Q (strCh i0 (tN a1)) h
theorem vc_S_charAt {l : Launch} {d : Nat} {i0 : Nat} {a1 : Int32} {h : Hp} {Q : Int32 → Hp → Prop} (w : wp_S_charAt i0 a1 h Q) : Ct l lay1 yJ0_charAt_5068e cJ0_charAt_5068e 2 (some .char) (d + 4) 0 0 [vP (some (60, i0)), vI a1] h (fun r h2 => ∃ x, r = [vI x] ∧ Q x h2) := (c_charAt w.1 w.2.1 strN_lt).imp fun r h2 ⟨e1, e2⟩ => ⟨_, e1, by rw [e2]; exact w.2.2⟩
