theorem TextX.kx {h h' : Hp} {T : TextT} (f : Kx h h') (t : TextX h T) : TextX h' T := by
  have x := f.2.2
  obtain ⟨y, e1, e2, e3, e4, e5⟩ := t
  have c28 : ∀ {c : CodeT} {p : Nat}, CodAt h y p c → CodAt h' y p c := by
    intro c
    induction c with
    | nil => intros; trivial
    | cons a c ih => intro p e; exact ⟨(x 28 y p rfl).1.trans e.1, ih e.2⟩
  refine ⟨y, (x 0 0 3 rfl).2.trans e1, e2, (x 1 y 6 rfl).1.trans e3, e4, fun l z hz => ?_⟩
  obtain ⟨a1, a2, s, a3, a4, a5, a6, a7⟩ := e5 l z hz
  exact ⟨(x 31 y l rfl).1.trans a1, a2, s, a3, fun z => (x 29 y (l - 1) rfl).1.trans (a4 z), (x 29 y l rfl).1.trans a5, a6, c28 a7⟩
/-- what land leaves -/
def Lnd (g : Nat) (W pd : Int32) (h h' : Hp) : Prop := Kx h h' ∧ (∀ k i s, k ≠ 30 → gP h' k i s = gP h k i s) ∧ (∀ k i s, k ≠ 1 → k ≠ 30 → ¬ (k = 2 ∧ i = g ∧ (s = 6 ∨ s = 8 ∨ s = 9 ∨ s = 11 ∨ s = 13)) → ¬ (k = 11 ∧ i = 0 ∧ (s = 16 ∨ s = 17)) → gI h' k i s = gI h k i s) ∧ gI h' 2 g 6 = 2 ∧ gI h' 2 g 8 = gI h 11 0 14 ∧ gI h' 2 g 13 = W ∧ gI h' 2 g 11 = pd ∧ gI h' 11 0 17 = gI h 11 0 17 + pd ∧ gI h' 11 0 16 = gI h 11 0 16 + gI h 2 g 1
section
variable {nS nT nU nG : Nat} {h : Hp} {S : MSt} {T : TextT}
theorem xLand71 {g : Nat} {Q : Hp → Prop} (w : WM nS nT nU nG S) (st : Stc nS nT nU nG h S) (rc : RCd h S) (tx : TextX h T) (hg : g < nG) {W : Int32} (kk : ∀ h', Lnd g W (S 143 g * feeF (knM S g) T) h h' → Q h') : w_X11_land_71 Q g (wI (wI (wI h 2 g 6 2) 2 g 8 (gI h 11 0 14)) 2 g 13 W) := by
  obtain ⟨s, hs, es⟩ := w.1.home g hg
  have h4 := w.1.cS.2
  have ts : tN (S 142 g) = s := by rw [es, tN_nJ (by omega)]
  obtain ⟨c1, c2, c3, c4, c5, c6, c7, c8⟩ := st.2.2.2.2.1 g hg
  obtain ⟨r1, r2, r3⟩ := rc
  obtain ⟨s1, s2, s3, s4, s5⟩ := st.2.1 s hs
  have kx : Kx h (wI (wI (wI (wI h 2 g 6 2) 2 g 8 (gI h 11 0 14)) 2 g 13 W) 2 g 9 (gI (wI (wI (wI h 2 g 6 2) 2 g 8 (gI h 11 0 14)) 2 g 13 W) 11 0 16)) := ((((Kx.refl h).I rfl).I rfl).I rfl).I rfl
  refine xFee (T := T) (kn := knM S g) (tx.kx kx) ?_ fun h2 f2 => ?_
  · refine ⟨?_, fun z => ?_, fun z => ?_, ?_, ⟨s, ?_, ?_, ?_⟩, ?_⟩
    · simp [gI_wI, knM, c3]
    · have z : gP h 2 g 4 = none := z
      rw [c6] at z
      by_cases e : S 146 g = -1
      · simp [knM, e]
      · rw [if_neg e] at z; cases z
    · have z : ¬ gP h 2 g 4 = none := z
      rw [c6] at z
      by_cases e : S 146 g = -1
      · rw [if_pos e] at z; exact absurd rfl z
      · rcases w.1.tourOf g hg with e' | ⟨u, hu, e'⟩
        · exact absurd e' e
        · have := w.1.cU.2
          have : ¬ nJ u < 0 := nJ_ge0 (by omega)
          simp [knM, e', this]
    · simp [gI_wI, knM, r1]
    · show gP h 2 g 0 = _
      rw [c2, ts]
    · simp [gI_wI, knM, s5, ts]
    · simp [gI_wI, knM, s2, es]
    · simp [gI_wI, knM, r2]
  · have a1 : ∀ k i s, k ≠ 1 → k ≠ 30 → gI h2 k i s = gI (wI (wI (wI (wI h 2 g 6 2) 2 g 8 (gI h 11 0 14)) 2 g 13 W) 2 g 9 (gI (wI (wI (wI h 2 g 6 2) 2 g 8 (gI h 11 0 14)) 2 g 13 W) 11 0 16)) k i s := fun k i s h1 h30 => by rw [(f2.1 k (by simp [pb, h1, h30])).2.1]
    have a2 : ∀ k i s, k ≠ 30 → gP h2 k i s = gP h k i s := fun k i s h30 => by
      by_cases h1 : k = 1
      · rw [h1, f2.2.2.2.1]; rfl
      · rw [(f2.1 k (by simp [pb, h1, h30])).2.2.2]; rfl
    have e1 : gI (wI (wI (wI (wI h 2 g 6 2) 2 g 8 (gI h 11 0 14)) 2 g 13 W) 2 g 9 (gI (wI (wI (wI h 2 g 6 2) 2 g 8 (gI h 11 0 14)) 2 g 13 W) 11 0 16)) 2 g 1 = S 143 g := by simp [gI_wI, c3]
    rw [e1]
    refine kk _ ⟨?_, ?_, ?_, ?_, ?_, ?_, ?_, ?_, ?_⟩
    · exact (((kx.trans (Kx.kv f2)).I rfl).I rfl).I rfl
    · intro k i s h30; exact a2 k i s h30
    · intro k i s h1 h30 n2 n11
      rw [gI_wI, if_neg (fun z => n11 ⟨z.1, z.2.1, Or.inl z.2.2⟩), gI_wI, if_neg (fun z => n11 ⟨z.1, z.2.1, Or.inr z.2.2⟩), gI_wI, if_neg (fun z => n2 ⟨z.1, z.2.1, by omega⟩), a1 k i s h1 h30]
      rw [gI_wI, if_neg (fun z => n2 ⟨z.1, z.2.1, by omega⟩), gI_wI, if_neg (fun z => n2 ⟨z.1, z.2.1, by omega⟩), gI_wI, if_neg (fun z => n2 ⟨z.1, z.2.1, by omega⟩), gI_wI, if_neg (fun z => n2 ⟨z.1, z.2.1, by omega⟩)]
    · simp [gI_wI, a1 2 g 6 (by omega) (by omega)]
    · simp [gI_wI, a1 2 g 8 (by omega) (by omega)]
    · simp [gI_wI, a1 2 g 13 (by omega) (by omega)]
    · simp [gI_wI]
    · simp [gI_wI, a1 11 0 17 (by omega) (by omega)]
    · simp [gI_wI, a1 11 0 16 (by omega) (by omega), a1 2 g 1 (by omega) (by omega)]
theorem xLand {g : Nat} {Q : Hp → Prop} (w : WM nS nT nU nG S) (st : Stc nS nT nU nG h S) (rc : RCd h S) (tx : TextX h T) (hg : g < nG) (kk : ∀ h', Lnd g (if S 146 g = -1 then S 12 24 + S 147 g else if S 136 (tN (S 146 g)) < S 12 24 then S 12 24 + 60 else S 136 (tN (S 146 g))) (S 143 g * feeF (knM S g) T) h h' → Q h') : wp_X11_land (some (2, g)) h Q := by
  obtain ⟨c1, c2, c3, c4, c5, c6, c7, c8⟩ := st.2.2.2.2.1 g hg
  obtain ⟨r1, r2, r3⟩ := rc
  refine ⟨g, rfl, ?_⟩
  have e6 : gP (wI (wI h 2 g 6 2) 2 g 8 (gI (wI h 2 g 6 2) 11 0 14)) 2 g 4 = (if S 146 g = -1 then none else some (10, tN (S 146 g))) := c6
  have e14 : gI (wI h 2 g 6 2) 11 0 14 = gI h 11 0 14 := by simp [gI_wI]
  refine ⟨fun z => ?_, fun z => ?_⟩
  · rw [e6] at z
    by_cases e : S 146 g = -1
    · rw [if_pos e] at z; exact absurd rfl z
    · rw [if_neg e] at e6 kk
      rcases w.1.tourOf g hg with e' | ⟨u, hu, e'⟩
      · exact absurd e' e
      · have hU := w.1.cU.2
        have tu : tN (S 146 g) = u := by rw [e', tN_nJ (by omega)]
        rw [tu] at e6 kk
        obtain ⟨u1, u2, u3, u4, u5⟩ := st.2.2.2.1 u hu
        rw [e14]
        rw [e14] at e6
        have b1 : gI (wI (wI h 2 g 6 2) 2 g 8 (gI h 11 0 14)) 10 u 0 = S 136 u := by simp [gI_wI, u2]
        have b2 : gI (wI (wI h 2 g 6 2) 2 g 8 (gI h 11 0 14)) 11 0 14 = S 12 24 := by simp [gI_wI, r1]
        refine ⟨u, e6, fun c => ?_, fun c => ?_⟩
        · rw [b1, b2] at c
          rw [if_pos c] at kk
          refine ⟨g, rfl, g, rfl, ?_⟩
          rw [b2]
          exact xLand71 (S := S) (T := T) w st ⟨r1, r2, r3⟩ tx hg kk
        · rw [b1, b2] at c
          rw [if_neg c] at kk
          refine ⟨u, e6, g, rfl, g, rfl, ?_⟩
          rw [b1]
          exact xLand71 (S := S) (T := T) w st ⟨r1, r2, r3⟩ tx hg kk
  · rw [e6] at z
    by_cases e : S 146 g = -1
    · rw [if_pos e] at kk
      rw [e14]
      have b2 : gI (wI (wI h 2 g 6 2) 2 g 8 (gI h 11 0 14)) 11 0 14 = S 12 24 := by simp [gI_wI, r1]
      have b5 : gI (wI (wI h 2 g 6 2) 2 g 8 (gI h 11 0 14)) 2 g 5 = S 147 g := by simp [gI_wI]; exact c7 e
      show w_X11_land_71 Q g (wI (wI (wI h 2 g 6 2) 2 g 8 (gI h 11 0 14)) 2 g 13 (gI (wI (wI h 2 g 6 2) 2 g 8 (gI h 11 0 14)) 11 0 14 + gI (wI (wI h 2 g 6 2) 2 g 8 (gI h 11 0 14)) 2 g 5))
      rw [b2, b5]
      exact xLand71 (S := S) (T := T) w st ⟨r1, r2, r3⟩ tx hg kk
    · rw [if_neg e] at z; cases z
end
