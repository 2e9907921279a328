/-! signs for the tape -/
theorem b255 : ∀ i, i < 32 → 8 ≤ i → (255#32).getLsbD i = false := by decide
theorem smod64 : ∀ n, n < 57 → ((BitVec.ofNat 64 n).smod 64#64).toNat = n := by decide
theorem byte_eq (b : Int64) (n : Nat) (hn : n ≤ 56) : (((b.toUInt64 >>> (UInt64.ofNat n)).toInt64).toInt32) &&& 255 = ((b >>> (Int64.ofNat n)).toInt32) &&& 255 := by
  apply Int32.toBitVec_inj.mp
  apply BitVec.eq_of_getLsbD_eq
  intro i hi
  simp [Int32.toBitVec_and, Int64.toBitVec_toInt32, UInt64.toBitVec_shiftRight, Int64.toBitVec_shiftRight]
  by_cases c : 8 ≤ i
  · rw [b255 i hi c]; simp
  · rw [smod64 n (by omega), Nat.mod_eq_of_lt (by omega)]
    rw [BitVec.getLsbD_signExtend, BitVec.getLsbD_signExtend, BitVec.getLsbD_ushiftRight, BitVec.getLsbD_sshiftRight]
    have h1 : n + i < 64 := by omega
    have h2 : i < 64 := by omega
    have h3 : ¬ 64 ≤ i := by omega
    simp [hi, h1, h2, h3]
def byt (b : Int64) (n : Nat) : Int32 := ((b >>> (Int64.ofNat n)).toInt32) &&& 255
theorem nar_c : ∀ m, m < 127 → vp_nar .char (((nJ m).toUInt32 % 65536).toInt32) = nJ m := by decide
abbrev okS (c : Int32) : Prop := c = 10 ∨ (32 ≤ c ∧ c ≤ 126)
def tapS (c : Int32) (S : MSt) : MSt := if okS c ∧ ¬ 600 ≤ S 12 2 then us (us S 101 (tN (S 12 2)) c) 12 2 (S 12 2 + 1) else S
theorem okS_ex {c : Int32} (h : okS c) : ∃ m, m < 127 ∧ c = nJ m := by
  rcases h with h | h
  · exact ⟨10, by omega, h⟩
  · obtain ⟨n, hn, e⟩ := i32_ex (B := 126) (by omega) (Int32.le_trans (by decide) h.1) h.2
    exact ⟨n, by omega, e⟩
section
variable {nS nT nU nG : Nat} {h h' : Hp} {S S' : MSt} {T : TextT}
theorem xTakeSign {c : Int32} {Q : Hp → Prop} (jr : JR nS nT nU nG T h S) (kk : ∀ h', JR nS nT nU nG T h' (tapS c S) → Fc h h' → Q h') : wp_X7_takeSign c h Q := by
  have b := jr.bd
  obtain ⟨n, p1, p2, p3, p4⟩ := jr.2.2.2.2.2.2.1
  have q6 : 600 ≤ nJ n ↔ 600 ≤ n := nJ_le (a := 600) (b := n) (by omega) (by omega)
  have full : ¬ (okS c ∧ ¬ 600 ≤ nJ n) → Q h := fun z => by
    refine kk h ?_ (Fr.refl h)
    unfold tapS; rw [p2, if_neg z]; exact jr
  have go : okS c → w_X7_takeSign_17 Q c h := fun ok => by
    unfold w_X7_takeSign_17
    rw [p1]
    refine ⟨fun z => full (fun y => y.2 z), fun z => ?_⟩
    have hn : n < 600 := by have : ¬ 600 ≤ n := fun y => z (q6.mpr y); omega
    obtain ⟨m, hm, rfl⟩ := okS_ex ok
    have tn : tN (nJ n) = n := tN_nJ (by omega)
    have vn : vp_in (nJ n) 600 := (vp_nJ (by omega)).mpr hn
    have eS : tapS (nJ m) S = us (us S 101 n (nJ m)) 12 2 (nJ (n + 1)) := by
      unfold tapS; rw [p2, if_pos ⟨ok, z⟩, tn, nJ_succ]
    rw [eS] at kk
    have J' : JR nS nT nU nG T (wI (wI h 32 0 n (nJ m)) 7 0 1 (nJ (n + 1))) (us (us S 101 n (nJ m)) 12 2 (nJ (n + 1))) := by
      refine jr.same (h' := wI (wI h 32 0 n (nJ m)) 7 0 1 (nJ (n + 1))) (S' := us (us S 101 n (nJ m)) 12 2 (nJ (n + 1))) ?_ ((OldS.refl.us (by omega) (by omega) (by omega) (by omega) (by omega)).us (by omega) (by omega) (by omega) (by omega) (by omega)) rfl ?_ ?_ (fun _ => rfl) ?_ ?_ ?_ (fun g => by simp [us_app]) (fun u => by simp [us_app]) ?_
      · exact ⟨fun g s hg => by simp [gI_wI, gI_wP, gI_wL, gP_wI, gP_wP, gP_wL, gC_wI, gC_wP, gC_wL, gI_nw, gP_nw, gC_nw], fun x s hx => by simp [gI_wI, gI_wP, gI_wL, gP_wI, gP_wP, gP_wL, gC_wI, gC_wP, gC_wL, gI_nw, gP_nw, gC_nw], fun t s ht => by simp [gI_wI, gI_wP, gI_wL, gP_wI, gP_wP, gP_wL, gC_wI, gC_wP, gC_wL, gI_nw, gP_nw, gC_nw], fun u s hu => by simp [gI_wI, gI_wP, gI_wL, gP_wI, gP_wP, gP_wL, gC_wI, gC_wP, gC_wL, gI_nw, gP_nw, gC_nw], fun s hs => by simp [gI_wI, gI_wP, gI_wL, gP_wI, gP_wP, gP_wL, gC_wI, gC_wP, gC_wL, gI_nw, gP_nw, gC_nw], fun s hs => rfl, fun s hs => rfl, fun s hs => rfl, fun s hs => rfl, fun s => rfl⟩
      · intro s hs; simp [gI_wI, gI_wP, gI_wL, gP_wI, gP_wP, gP_wL, gC_wI, gC_wP, gC_wL, gI_nw, gP_nw, gC_nw]
      · simp [gI_wI, gI_wP, gI_wL, gP_wI, gP_wP, gP_wL, gC_wI, gC_wP, gC_wL, gI_nw, gP_nw, gC_nw, us_app]; exact b.st.1.2.2.2.2
      · intro s hs; rw [us_app, if_neg (by omega), us_app, if_neg (by omega)]
      · simp [us_app]; exact b.wm.1.shuts
      · simp [us_app]; exact b.wm.1.town
      · obtain ⟨j1, j2, j3, j4, j5, j6, j7, j8, j9, j10⟩ := jr
        refine ⟨⟨by simp [gI_wI, gI_wP, gI_wL, gP_wI, gP_wP, gP_wL, gC_wI, gC_wP, gC_wL, gI_nw, gP_nw, gC_nw, us_app]; exact j5.1, fun i r' hr' h1 hi => ?_⟩, ?_, ?_, ?_, ?_⟩
        · simp [us_app] at hr'
          simp [gI_wI, gI_wP, gI_wL, gP_wI, gP_wP, gP_wL, gC_wI, gC_wP, gC_wL, gI_nw, gP_nw, gC_nw, us_app]
          exact j5.2 i r' hr' h1 hi
        · obtain ⟨k, pm, g1, g2, g3, g4, g5, g6, g7, g8⟩ := j6
          exact ⟨k, pm, by simp [gI_wI, gI_wP, gI_wL, gP_wI, gP_wP, gP_wL, gC_wI, gC_wP, gC_wL, gI_nw, gP_nw, gC_nw]; exact g1, by simp [us_app]; exact g2, g3, fun i hi => by simp [gI_wI, gI_wP, gI_wL, gP_wI, gP_wP, gP_wL, gC_wI, gC_wP, gC_wL, gI_nw, gP_nw, gC_nw, us_app]; exact g4 i hi, by simp [us_app]; exact g5, g6, fun t ht => by simp [gI_wI, gI_wP, gI_wL, gP_wI, gP_wP, gP_wL, gC_wI, gC_wP, gC_wL, gI_nw, gP_nw, gC_nw, us_app]; exact g7 t ht, fun q h1 h2 => by simp [gI_wI, gI_wP, gI_wL, gP_wI, gP_wP, gP_wL, gC_wI, gC_wP, gC_wL, gI_nw, gP_nw, gC_nw]; exact g8 q h1 h2⟩
        · refine ⟨n + 1, by simp [gI_wI, gI_wP, gI_wL, gP_wI, gP_wP, gP_wL, gC_wI, gC_wP, gC_wL, gI_nw, gP_nw, gC_nw], by simp [us_app], by omega, fun i hi => ?_⟩
          by_cases y : i = n
          · subst y
            simp [gI_wI, gI_wP, gI_wL, gP_wI, gP_wP, gP_wL, gC_wI, gC_wP, gC_wL, gI_nw, gP_nw, gC_nw, us_app]
            rw [nJ_toInt (by omega)]; omega
          · simp [gI_wI, gI_wP, gI_wL, gP_wI, gP_wP, gP_wL, gC_wI, gC_wP, gC_wL, gI_nw, gP_nw, gC_nw, us_app, y]; exact p4 i (by omega)
        · have ff : Fr (fun k => !(k == 32 || k == 7)) h (wI (wI h 32 0 n (nJ m)) 7 0 1 (nJ (n + 1))) := ((Fr.refl h).wI rfl).wI rfl
          obtain ⟨x, e1, e2, e3, e4, e5⟩ := j8.1
          refine ⟨x, e1, e2, by simp [gI_wI, gI_wP, gI_wL, gP_wI, gP_wP, gP_wL, gC_wI, gC_wP, gC_wL, gI_nw, gP_nw, gC_nw]; exact e3, e4, fun l y hy => ?_⟩
          obtain ⟨a1, a2, s, a3, a4, a5, a6, a7⟩ := e5 l y hy
          exact ⟨by rw [(ff 31 rfl).2.1]; exact a1, a2, s, a3, fun z => by rw [(ff 29 rfl).2.1]; exact a4 z, by rw [(ff 29 rfl).2.1]; exact a5, a6, CodAt.fr (ff 28 rfl).2.1 a7⟩
        · exact j8.2
    have kk := kk _ J' (((Fr.refl h).wI rfl).wI rfl)
    unfold w_X7_takeSign_27 w_X7_takeSign_48
    rw [p1, tn, nar_c m hm]
    refine ⟨vn, ?_⟩
    have e7 : gI (wI h 32 0 n (nJ m)) 7 0 1 = nJ n := by simp [gI_wI, p1]
    rw [e7, nJ_succ]
    exact kk
  refine ⟨fun z => go (Or.inl z), fun z => ?_⟩
  unfold w_X7_takeSign_6
  rw [xwithin]
  refine ⟨fun y => ?_, fun y => ?_⟩
  · rw [bI_0] at y; exact full (fun x => x.1.elim z y)
  · rw [bI_0] at y; exact go (Or.inr (Decidable.not_not.mp y))
def tapL (b : Int64) : List Nat → MSt → MSt
  | [], S => S
  | n :: L, S => tapL b L (tapS (byt b n) S)
theorem xTakeL {b : Int64} {Q : Hp → Prop} {h0 : Hp} : ∀ (k : Nat) (h : Hp) (S : MSt), k ≤ 8 → JR nS nT nU nG T h S → Fc h0 h → (∀ h', JR nS nT nU nG T h' (tapL b ((List.range k).reverse.map (8 * ·)) S) → Fc h0 h' → Q h') → w_X7_takeBytes_3 Q (k + 1) b (nJ (8 * k) - 8) h := by
  intro k
  induction k with
  | zero =>
    intro h S hk jr f kk
    exact ⟨fun _ => kk h jr f, fun z => absurd (by decide) z⟩
  | succ k ih =>
    intro h S hk jr f kk
    have e8 : nJ (8 * (k + 1)) - 8 = nJ (8 * k) := by
      rw [show 8 * (k + 1) = 8 * k + 8 by omega, ← nJ_add, show nJ 8 = (8 : Int32) from rfl]; exact Int32.add_sub_cancel _ _
    rw [e8]
    refine ⟨fun z => absurd z (nJ_ge0 (by omega)), fun _ => ?_⟩
    have eb : ((((b).toUInt64 >>> ((nJ (8 * k)).toInt64.toUInt64 &&& Int64.toUInt64 63)).toInt64).toInt32) &&& (255 : Int32) = byt b (8 * k) := by
      unfold byt
      rw [← byte_eq b (8 * k) (by omega)]
      congr 5
      have : ∀ j, j < 8 → (nJ (8 * j)).toInt64.toUInt64 &&& Int64.toUInt64 63 = UInt64.ofNat (8 * j) := by decide
      exact this k (by omega)
    unfold w_X7_takeBytes_7
    rw [eb]
    refine xTakeSign jr fun h' j' f' => ?_
    show w_X7_takeBytes_3 Q (k + 1) b (nJ (8 * k) + (-8)) h'
    rw [show nJ (8 * k) + (-8) = nJ (8 * k) - 8 by rw [Int32.sub_eq_add_neg]]
    refine ih h' _ (by omega) j' (f.trans f') fun h2 j2 f2 => kk h2 ?_ f2
    rw [List.range_succ, List.reverse_append]
    exact j2
def tapB (b : Int64) (S : MSt) : MSt := tapL b ((List.range 8).reverse.map (8 * ·)) S
theorem xTakeBytes {b : Int64} {Q : Hp → Prop} (jr : JR nS nT nU nG T h S) (kk : ∀ h', JR nS nT nU nG T h' (tapB b S) → Fc h h' → Q h') : wp_X7_takeBytes b h Q :=
  ⟨9, xTakeL (h0 := h) 8 h S (Nat.le_refl _) jr (Fr.refl h) kk⟩
def len6 (S : MSt) : Prop := ∃ n, S 12 2 = nJ n ∧ n ≤ 600
theorem tapS_len {c : Int32} (l : len6 S) : len6 (tapS c S) := by
  obtain ⟨n, e, hn⟩ := l
  unfold tapS
  split
  · rename_i z
    have q6 : 600 ≤ nJ n ↔ 600 ≤ n := nJ_le (a := 600) (b := n) (by omega) (by omega)
    rw [e] at z
    have : ¬ 600 ≤ n := fun y => z.2 (q6.mpr y)
    exact ⟨n + 1, by simp [us_app, e, nJ_succ], by omega⟩
  · exact ⟨n, e, hn⟩
theorem tapL_len {b : Int64} : ∀ {L : List Nat} {S : MSt}, len6 S → len6 (tapL b L S)
  | [], _, l => l
  | n :: L, S, l => tapL_len (L := L) (S := tapS (byt b n) S) (tapS_len l)
theorem mLayL {b : Int64} {Q : Hp → Prop} {h0 : Hp} : ∀ (k : Nat) (h : Hp), k ≤ 8 → len6 (view h) → Fq h0 h → (∀ h', view h' = tapL b ((List.range k).reverse.map (8 * ·)) (view h) → Fq h0 h' → Q h') → w_X12_lay_3 Q (k + 1) b (nJ (8 * k) - 8) h := by
  intro k
  induction k with
  | zero =>
    intro h hk l f kk
    exact ⟨fun _ => kk h rfl f, fun z => absurd (by decide) z⟩
  | succ k ih =>
    intro h hk l f kk
    have e8 : nJ (8 * (k + 1)) - 8 = nJ (8 * k) := by
      rw [show 8 * (k + 1) = 8 * k + 8 by omega, ← nJ_add, show nJ 8 = (8 : Int32) from rfl]; exact Int32.add_sub_cancel _ _
    rw [e8]
    refine ⟨fun z => absurd z (nJ_ge0 (by omega)), fun _ => ?_⟩
    have eb : (((b) >>> ((nJ (8 * k)).toInt64 &&& 63)).toInt32) &&& (255 : Int32) = byt b (8 * k) := by
      unfold byt
      congr 3
      have : ∀ j, j < 8 → (nJ (8 * j)).toInt64 &&& 63 = Int64.ofNat (8 * j) := by decide
      exact this k (by omega)
    unfold w_X12_lay_7
    rw [eb]
    obtain ⟨n, en, hn⟩ := l
    have q6 : 600 ≤ nJ n ↔ 600 ≤ n := nJ_le (a := 600) (b := n) (by omega) (by omega)
    have step : ∀ h', view h' = tapS (byt b (8 * k)) (view h) → Fq h h' → w_X12_lay_3 Q (k + 1) b (nJ (8 * k) + (-8)) h' := fun h' hv f' => by
      rw [show nJ (8 * k) + (-8) = nJ (8 * k) - 8 by rw [Int32.sub_eq_add_neg]]
      refine ih h' (by omega) (by rw [hv]; exact tapS_len ⟨n, en, hn⟩) (f.trans f') fun h2 v2 f2 => kk h2 ?_ f2
      rw [v2, hv, List.range_succ, List.reverse_append]; rfl
    have no : ¬ (okS (byt b (8 * k)) ∧ ¬ 600 ≤ view h 12 2) → w_X12_lay_3 Q (k + 1) b (nJ (8 * k) + (-8)) h := fun z => step h (by unfold tapS; rw [if_neg z]) (Fq.refl h)
    have yes : okS (byt b (8 * k)) → w_X12_lay_38 (w_X12_lay_3 Q (k + 1)) Q b (nJ (8 * k)) (byt b (8 * k)) h := fun ok => by
      refine ⟨fun z => no (fun y => y.2 (by rw [gv_12_2] at z; exact z)), fun z => ?_⟩
      rw [gv_12_2] at z
      have hn6 : n < 600 := by
        rw [en] at z
        have : ¬ 600 ≤ n := fun y => z (q6.mpr y); omega
      refine ⟨by rw [gv_12_2, en, vp_nJ (by omega)]; exact hn6, ?_⟩
      refine step _ ?_ (((Fq.refl h).w rfl (by omega) (by omega) (by omega) (by omega) (by omega) (by omega)).w rfl (by omega) (by omega) (by omega) (by omega) (by omega) (by omega))
      unfold tapS
      rw [if_pos ⟨ok, z⟩]
      simp only [gv_101, vw_101, gv_127, vw_127, gv_128, vw_128, gv_129, vw_129, gv_131, vw_131, gv_132, vw_132, gv_133, vw_133, gv_134, vw_134, gv_136, vw_136, gv_137, vw_137, gv_138, vw_138, gv_139, vw_139, gv_140, vw_140, gv_142, vw_142, gv_143, vw_143, gv_144, vw_144, gv_145, vw_145, gv_146, vw_146, gv_147, vw_147, gv_148, vw_148, gv_149, vw_149, gv_150, vw_150, gv_151, vw_151, gv_152, vw_152, gv_153, vw_153, gv_154, vw_154, gv_158, vw_158, gv_159, vw_159, gv_162, vw_162, gv_164, vw_164, gv_12_2, vw_12_2, gv_12_24, vw_12_24, gv_12_25, vw_12_25, gv_12_26, vw_12_26, gv_12_30, vw_12_30, gv_12_35, vw_12_35, gv_12_41, vw_12_41, gv_12_55, vw_12_55, gv_12_56, vw_12_56, gv_12_57, vw_12_57, gv_12_61, vw_12_61, gv_12_63, vw_12_63, vs_160, vs_165, vs_119, vs_120, vs_121, vs_122, vs_123, vs_12_0]
      simp [us_app]
    refine ⟨fun z => yes (Or.inl z), fun z => ⟨fun y => no (fun x => x.1.elim z (fun w => Int32.not_le.mpr y w.1)), fun y => ⟨fun y2 => no (fun x => x.1.elim z (fun w => Int32.not_le.mpr y2 w.2)), fun y2 => yes (Or.inr ⟨Int32.not_lt.mp y, Int32.not_lt.mp y2⟩)⟩⟩⟩
theorem mLay {b : Int64} {Q : Hp → Prop} (l : len6 (view h)) (kk : ∀ h', view h' = tapB b (view h) → Fq h h' → Q h') : wp_X12_lay b h Q :=
  ⟨9, mLayL (h0 := h) 8 h (Nat.le_refl _) l (Fq.refl h) kk⟩
theorem jFeed {b1 b3 b5 : Int64} (j : J h) : wp_X11_feed b1 b3 b5 h fun rx h1 => wp_X12_feed b1 b3 b5 h1 fun rm h2 => rm = rx ∧ J h2 := by
  refine JJ j fun nS nT nU nG T S jr => ?_
  refine ⟨nS, nT, nU, nG, tapB b5 (tapB b3 (tapB b1 S)), tapB b5 (tapB b3 (tapB b1 S)) 12 2, fun Q kk => ?_, fun h1 hv t w Q kk => ?_⟩
  · refine xTakeBytes jr fun h1 j1 f1 => ?_
    refine xTakeBytes j1 fun h2 j2 f2 => ?_
    refine xTakeBytes j2 fun h3 j3 f3 => ?_
    obtain ⟨n, p1, p2, p3, p4⟩ := j3.2.2.2.2.2.2.1
    show Q (gI h3 7 0 1) h3
    rw [p1, ← p2]
    exact kk h3 j3 ((f1.trans f2).trans f3)
  · obtain ⟨n, p1, p2, p3, p4⟩ := jr.2.2.2.2.2.2.1
    have l0 : len6 S := ⟨n, p2, p3⟩
    have hv0 : view (wI h1 12 0 0 0) = S := by rw [vs_12_0, hv]
    refine mLay (by rw [hv0]; exact l0) fun h2 v2 f2 => ?_
    rw [hv0] at v2
    have l1 : len6 (tapB b1 S) := tapL_len l0
    refine mLay (by rw [v2]; exact l1) fun h3 v3 f3 => ?_
    rw [v2] at v3
    have l2 : len6 (tapB b3 (tapB b1 S)) := tapL_len l1
    refine mLay (by rw [v3]; exact l2) fun h4 v4 f4 => ?_
    rw [v3] at v4
    show Q (gI h4 12 0 2) h4
    rw [gv_12_2, v4]
    exact kk h4 v4 ((((Fq.t0 h1).trans f2).trans f3).trans f4)
end
