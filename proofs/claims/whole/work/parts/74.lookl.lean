/-! ShoreDayLaw.look: it catches -/
abbrev hhL : List (Nat × Nat × Nat × Nat) := [(0, 10, 13, 13)]
def CtL (l : Launch) (d : Nat) (a1 a2 : Int32) (h : Hp) (Post : List AVal → Hp → Prop) : Prop := ∀ (D : va_G) (dA : Nat → ClassId) (base : Nat) (ad : Nat → Nat → Nat), Met l yL_look (Cond.codeWith yL_look cL_look 5 (some .int) hhL :: wsG) (roomOf d 1 6) (PcOf lay1 D dA base ad [vP (some (11, 0)), vI a1, vI a2, vP (some (39, 0))] h) (QcOf lay1 D dA base ad h Post) 1 6 (fun q => base ≤ q)
section
variable {l : Launch} {d : Nat} {h : Hp} {a1 a2 : Int32} {Post : List AVal → Hp → Prop}
theorem CtL.of (body : ∀ E : EnvT, CX E "ShoreDayLaw" cL_look 5 (some .int) "look" d 1 6 → EQ E 1 6 Post → eL E = l → eY E = lay1 → (eC E).exceptionTable.toList = tableOf hhL → SW E 0 ([some (vP (some (11, 0))), some (vI a1), some (vI a2), some (vP (some (39, 0))), none], [], h, 0, 0)) : CtL l d a1 a2 h Post := by
  intro D dA base ad
  refine MetFree.of_bodyS (code := cL_look) (maxLocals := 5) (ret := some .int) (by decide +kernel) ?_ ?_
  · intro args s m h hn
    obtain ⟨m9, meth, c, hn9, h1, h2, h3, h4, -, h5, h6, -⟩ := Cond.codeWith_spec (atoms_spec (ws := Cond.codeWith yL_look cL_look 5 (some .int) hhL :: wsG) h _ List.mem_cons_self)
    cases hn.symm.trans hn9
    exact ⟨meth, c, h1, h2, h3, h4, h5, h6⟩
  · intro p e s m args below meth c s₁ B hml hv _
    have hh0 : s₁.heap = s.heap := by rw [B.state]; rfl
    have hts := atoms_spec (ws := Cond.codeWith yL_look cL_look 5 (some .int) hhL :: wsG) B.pre
    have htab := vx_table (x := yL_look) B (hts _ List.mem_cons_self)
    obtain ⟨rfl, hok, ⟨ws, hR, hP, hD⟩, hK, hz, hne, hsn, hst⟩ := hv
    have hb := body (p, l, e, roomOf d 1 6, s, m, ([vP (some (11, 0)), vI a1, vI a2, vP (some (39, 0))].map (cv ad)).toArray, below, meth, c, MQ below (QcOf lay1 D dA base ad h Post) ([vP (some (11, 0)), vI a1, vI a2, vP (some (39, 0))].map (cv ad)).toArray s 1 6 (fun q => base ≤ q), D, dA, base, lay1, ad, h)
      ⟨B.exec, B.bytes, hml, findClass_of_methodNamed B.named, fun w hw => hts w (List.mem_cons_of_mem _ hw), hK, hz, B.returns, B.notSynchronized, (name_of_methodNamed B.named B.method).1, ⟨Nat.le_refl _, Nat.le_refl _, rfl, rfl⟩, hne, hsn, hst⟩ rfl rfl rfl htab
    have hl := lv_entry ([vP (some (11, 0)), vI a1, vI a2, vP (some (39, 0))].map (cv ad)) (n := 5) (by rw [entA_len]; exact Nat.le_of_ble_eq_true rfl)
    have K : W p l e (roomOf d 1 6) s m ([vP (some (11, 0)), vI a1, vI a2, vP (some (39, 0))].map (cv ad)).toArray below meth c s.heap [] 0 0 (MQ below (QcOf lay1 D dA base ad h Post) ([vP (some (11, 0)), vI a1, vI a2, vP (some (39, 0))].map (cv ad)).toArray s 1 6 (fun q => base ≤ q)) (entryFrame m ([vP (some (11, 0)), vI a1, vI a2, vP (some (39, 0))].map (cv ad)).toArray 5) := by
      rw [lg_entry_eq]
      refine hb ad ws s.heap [] _ ⟨hR, hP, hD, va_S.rf, fun k i hi => ⟨hi, rfl⟩⟩ (fun v hv => by cases hv) (entL_ok (av := [vP (some (11, 0)), vI a1, vI a2, vP (some (39, 0))]) (m := 1) hok) ?_
      show lv_has _ c.maxLocals _
      rw [hml]
      exact ⟨hl.1, hl.2.1, fun q hq => hl.2.2 q (entA_mem ad [vP (some (11, 0)), vI a1, vI a2, vP (some (39, 0))] 1 0 q hq)⟩
    obtain ⟨t, b0, o, b1, b2, b3⟩ := K s₁ hh0 (Stand.of_body B)
    exact ⟨t, o, b0, b1, b2, b3⟩
theorem lk_mem {ad : Nat → Nat → Nat} {q : Nat × Value} (hq : q ∈ lasc ad 0 [some (vP (some (11, 0))), some (vI a1), some (vI a2), some (vP (some (39, 0))), none]) : (!(q.1 == 4) && !(q.1 + 1 == 4 && q.2.category == 2)) = true := by
  obtain ⟨j, v, e, rfl⟩ := lasc_mem.mp hq
  rcases j with _ | _ | _ | _ | _ | j
  · rfl
  · rfl
  · rfl
  · cases e
    rfl
  · cases e
  · simp at e
theorem sw_lookBad {E : EnvT} {c n : Nat} (cx : CX E "ShoreDayLaw" cL_look 5 (some .int) "look" (d + 9) 1 6) (hY : eY E = lay1) (htab : (eC E).exceptionTable.toList = tableOf hhL) (hM : CtX (eL E) (d + 8) a1 a2 h) (hc : c + 1 ≤ 1) (hn : n + 6 ≤ 6)
    (kk : SW E 15 ([some (vP (some (11, 0))), some (vI a1), some (vI a2), some (vP (some (39, 0))), none], [], h, c + 1, n + 6)) :
    SW E 5 ([some (vP (some (11, 0))), some (vI a1), some (vI a2), some (vP (some (39, 0))), none], [vI a2, vI a1, vP (some (11, 0)), vI 0, vP (some (39, 0))], h, c, n) := by
  intro ad ws H locs ls h1 h2 h3 h4
  have g2 := okv_tl (okv_tl h2)
  have hi := ok_lt (okv_hd g2)
  obtain ⟨q, hq⟩ := h1.1.at (lo13 kd11.1) hi
  rw [cell_obj kd11.1] at hq
  have hM' := hM (eD E) (eDA E) (eb E) ad
  rw [← hY] at hM'
  have hr := vx_runV (p := eP E) (l := eL E) (e := eE E) (R := eR E) (s := eS E) (m := eM E) (args := eA E) (below := eB E) (meth := eMe E) (c := eC E) (H := H) (locs := locs) (cells := c) (slots := n) (As := [vI a1, vI a2].map (cv ad)) (rest := [vI 0, vP (some (39, 0))].map (cv ad)) (b := ad 11 0) (C := RX11) (n := 2) (g := F0 (eM E) 5 ls ([vI a2, vI a1, vP (some (11, 0)), vI 0, vP (some (39, 0))].map (cv ad))) ⟨cx.x, cx.b, rfl, cx.o, cx.w⟩ hM' ⟨callB cx cw_X11_look (by decide +kernel : Cond.methodLink "ShoreDayLaw" 7 yX11_look ∈ wsG) (by omega), cx.w _ (by decide +kernel), cx.w _ (by decide +kernel)⟩ ⟨pc_blind, va_recv cx.k h1.2.1 (q := (RX11, TX11, 18)) kd11.2.1 hq, fun U hU hW => pc_call cx h1 (av := [vP (some (11, 0)), vI a1, vI a2]) (fun v hv => ?_) hU hW⟩ rfl rfl h4.1 rfl (lv_room (by rw [ctg_sum]; exact Nat.le_of_ble_eq_true rfl)) (by decide +kernel : decode cL_look 5 = .ok (.invokevirtual 7, 3)) (room_le cx hc hn)
  · intro T hT X
    rcases hr T hT X with ⟨v, st₀, t, T', L9, e0, X', hL9, e1, e2, hF, st⟩ | ⟨q9, st₀, t, T', L9, E9, ce, e0, X', hL9, e1, e2, ⟨rfl, r, h', ad', ws', -, hv, ⟨rfl, rfl⟩, hext, hR', hP', hD', -, hz, hk⟩, hce, hcv, hcl, st⟩
    · exact hF.elim
    · rw [e0] at hz hk
      have hxa : ∀ k i, i < gC h' k → ad' k i = ad k i := fun k i hi => (hext k i hi).2
      have hS := h1.2.2.2.1
      have hA : At9 E ad' ws' T'.heap (locs ++ L9) h' := by
        refine ⟨hR', by rw [e1]; exact hP', hD', ⟨Nat.le_trans hS.1 (by rw [e1]; exact hz), fun q g1 g2 => ?_, fun q hq => ?_⟩, fun k i hi => ?_⟩
        · rw [e1, hk q (Nat.lt_of_lt_of_le g1 hS.1) g2]
          exact hS.2.1 q g1 g2
        · rcases List.mem_append.mp hq with g | g
          · exact hS.2.2 q g
          · exact hL9 q g
        · obtain ⟨g1, g2⟩ := h1.2.2.2.2 k i hi
          exact ⟨g1, (hxa k i g1).trans g2⟩
      obtain ⟨adK, adV, pf, k1, k2, k3, k4, hU, hN, hao, hdc, hcs⟩ := cx.st
      have h4' : lv_has ls (eC E).maxLocals (lasc ad' 0 [some (vP (some (11, 0))), some (vI a1), some (vI a2), some (vP (some (39, 0))), none]) := by rw [lasc_ext hxa h3]; exact h4
      have K : vx_W (eP E) (eL E) (eE E) (eR E) (eS E) (eM E) (eA E) (eB E) (eMe E) (eC E) T'.heap (locs ++ L9) (c + 1) (n + 6) (eQ E) (F0 (eM E) 5 ls ([vI 0, vP (some (39, 0))].map (cv ad))) q9 := by
        refine vx_catch2 (own := "ShoreDayLaw") (name := nsE) (E := nsE) cx.o ⟨0, 10, 13, 13⟩ [] htab (by decide) (by decide) (cx.w _ (by decide +kernel)) (nw_at rfl (hcs (nsE, nsE) (by decide))) (by rw [e1]; exact hce) hcv hcl ?_
        refine lv_astore cx.x cx.b (i := 4) (nL := (eC E).maxLocals) (by decide +kernel : decode cL_look 13 = .ok (.astore 4, 2)) h4' (by rw [cx.l]; omega) rfl (fun ls' hls' => ?_)
        exact kk ad' ws' T'.heap (locs ++ L9) ls' hA (fun v hv => by cases hv) h3 ⟨hls'.1, hls'.2.1, fun q hq => hls'.2.2 q (List.mem_cons_of_mem _ (List.mem_filter.mpr ⟨hq, lk_mem hq⟩))⟩
      obtain ⟨t2, b1, b2⟩ := K T' rfl X'
      exact ⟨t2, st.trans b1, b2⟩
  · simp only [List.mem_cons, List.not_mem_nil, or_false] at hv
    rcases hv with rfl | rfl | rfl
    · exact okv_hd g2
    · trivial
    · trivial
theorem vc_L_look_bad (hl : l.stackTraces = false) (hb : lbad a1 a2 h) (hv : (0 ≤ a1 ∧ a1 ≤ gI h 11 0 8 - 1) → vp_in a1 60) : CtL l (d + 9) a1 a2 h (fun r h2 => r = [vI 1] ∧ h2 = h) := by
  refine CtL.of fun E cx eq hle hY htab => ?_
  subst hle
  refine Seg.use (G := []) (σ' := ([some (vP (some (11, 0))), some (vI a1), some (vI a2), some (vP (some (39, 0))), none], [vI a2, vI a1, vP (some (11, 0)), vI 0, vP (some (39, 0))], h, 0, 0)) (Seg.cons (pc := 0) (o := oLd 3 2) (sn_aload_n cx (by decide +kernel : decode cL_look 0 = .ok (.aload_n 3, 1)) rfl) <| Seg.cons (pc := 1) (o := oS (fC (vI 0))) (sn_iconst cx (by decide +kernel : decode cL_look 1 = .ok (.iconst 0, 1)) (by decide)) <| Seg.cons (pc := 2) (o := oLd 0 2) (sn_aload_n cx (by decide +kernel : decode cL_look 2 = .ok (.aload_n 0, 1)) rfl) <| Seg.cons (pc := 3) (o := oLd 1 0) (sn_iload_n cx (by decide +kernel : decode cL_look 3 = .ok (.iload_n 1, 1)) rfl) <| Seg.cons (pc := 4) (o := oLd 2 0) (sn_iload_n cx (by decide +kernel : decode cL_look 4 = .ok (.iload_n 2, 1)) rfl) <| Seg.nil) rfl trivial ?_
  refine sw_lookBad cx hY htab (vc_X11_look_bad hl hb hv) (by omega) (by omega) ?_
  refine Seg.use (G := []) (σ' := ([some (vP (some (11, 0))), some (vI a1), some (vI a2), some (vP (some (39, 0))), none], [vI 1], h, 0 + 1, 0 + 6)) (Seg.cons (pc := 15) (o := oS (fC (vI 1))) (sn_iconst cx (by decide +kernel : decode cL_look 15 = .ok (.iconst 1, 1)) (by decide)) <| Seg.nil) rfl trivial ?_
  exact ret_i (pc := 16) cx eq (by decide +kernel : decode cL_look 16 = .ok (.ireturn, 1)) (by omega) (by omega) ⟨rfl, rfl⟩
theorem vc_L_look_good {g : Nat} {r : Int32} (hb : ¬ lbad a1 a2 h) (hv : vp_in a1 60) (hg : gP h 23 0 (tN a1) = some (2, g)) (hr : lkR h g a2 r) : CtL l (d + 9) a1 a2 h (fun r' h2 => r' = [vI 0] ∧ h2 = wL h 39 0 0 r.toInt64) := by
  refine CtL.of fun E cx eq hle hY htab => ?_
  refine k_L_look_0 cx hY (ctY hY (vc_X11_look_good (d := d + 0) hb hv hg hr)) (by omega) (by omega) (by omega) (fun r' h2 hp => ?_)
  obtain ⟨rfl, rfl⟩ := hp
  refine k_L_look_8 cx hY (show vp_in (nJ 0) 1 from (vp_nJ (by omega)).mpr (by omega)) ?_
  exact k_L_look_17 cx hY eq (by omega) (by omega) ⟨rfl, rfl⟩
end
