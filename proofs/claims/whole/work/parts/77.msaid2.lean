/-! contracts: the reference: of whom a sentence is so -/
/-- what a question that judges the book leaves as it was -/
def mDs (h h1 : am_H) (m : Nat) : Prop := h1 m 0 = 0 ∧ h1 (m + 2) = lai h m ∧ h1 m 22 = 1 ∧ (∀ q, q ≠ m → q ≠ m + 2 → (q < m + 10 ∨ m + 17 < q) → h1 q = h q) ∧ ∀ j, (j < 33 ∨ 37 < j) → j ≠ 22 → j ≠ 0 → h1 m j = h m j
theorem lai_u {h h1 : am_H} {m : Nat} (e : h1 (m + 2) = h (m + 2)) (e2 : h1 m 22 = h m 22) : lai h1 m = lai h m := by
  unfold lai
  rw [e, e2]
theorem lai_1 {h : am_H} {m : Nat} (e : h m 22 = 1) : lai h m = h (m + 2) := by
  unfold lai
  rw [if_neg (by omega)]
section
variable {d : Nat} {Y : am_Y} {h : am_H} {m : Nat}
theorem ac_m_said {nl : List LN} (hY : am_at Y m am_L12) (h22 : h m 22 = 0 ∨ h m 22 = 1) (hz : rz (lai h m)) (hb3 : 0 ≤ lai h m 3 ∧ lai h m 3 ≤ 1000) (hl : lnsOK (lai h m)) (hs : ¬ lai h m 590 = 0 → sOK nl ∧ sNA (lai h m) nl ∧ nl.length ≤ 40 ∧ 0 ≤ lai h m 591 ∧ lai h m 591 < nl.length) :
    am_cI am_Md_said (d + 45) Y [.inr (.inr m)] h (fun x h1 => mDs h h1 m ∧ (lai h m 590 = 0 → x = -1) ∧ (¬ lai h m 590 = 0 → sBits x (lai h m 1) (sFig (lai h m) (jBook (lai h m) (lnA (lai h m)) (lai h m 341).toNat (jOf h m))) (sFre (jBook (lai h m) (lnA (lai h m)) (lai h m 341).toNat (jOf h m))) nl (lai h m 591))) := by
  refine am_Met.of (by decide) rfl (Nat.le_of_ble_eq_true rfl) (ab_Md_said_0 hY fun h1 e1 => ?_)
  have q1 : ∀ q, q ≠ m → h1 q = h q := fun q hq => by rw [e1, am_u_n _ _ _ _ q hq]
  have j1 : ∀ j, j ≠ 0 → h1 m j = h m j := fun j hj => by rw [e1, am_u_j hj]
  have L1 : lai h1 m = lai h m := lai_u (q1 _ (by omega)) (j1 22 (by omega))
  refine am_kV.of (ac_m_lay (d := 0) hY (by rw [j1 22 (by omega)]; exact h22)) (by omega) (fun h2 _ l => ?_)
  obtain ⟨l1, l2, l3, l4⟩ := l
  rw [L1] at l1
  have L2 : lai h2 m = lai h m := (lai_1 l2).trans l1
  have z2 : h2 m 0 = 0 := by rw [l4 0 (by omega), e1, am_u_s]
  rw [l1]
  refine ⟨fun c => ?_, fun c => ?_⟩
  · refine am_kV.of (ac_m_doBook (d := 0) hY (Or.inr l2) (by rw [L2]; exact hz) (by rw [L2]; exact hb3) (by rw [L2]; exact hl)) (by omega) (fun h3 _ b => ?_)
    obtain ⟨b1, b2, -⟩ := b
    have eJ : jOf h2 m = jOf h m := by
      funext i j
      unfold jOf
      by_cases i0 : i = 0
      · rw [if_pos i0, if_pos i0, l4 _ (by omega), j1 _ (by omega)]
      · rw [if_neg i0, if_neg i0, l3 _ (by omega) (by omega), q1 _ (by omega)]
    rw [L2, eJ] at b1
    obtain ⟨d1, d2, d3, d4⟩ := b2
    rw [L2] at d1
    obtain ⟨ok, nA, nL, t0, t1⟩ := hs c
    have hz' := hz
    unfold rz at hz'
    have hz3 : rz (h3 (m + 2)) := by rw [d1]; exact hz
    have key : ∀ p : Nat, p ≤ (lai h m 1).toNat → ∀ B : Int, (by8 B ∧ ∀ p' : Nat, p' < 8 → (hb B (p' : Int) ↔ p' < p ∧ sV nl (fun w => jFig (lai h m) (jBook (lai h m) (lnA (lai h m)) (lai h m 341).toNat (jOf h m)) p' w) (¬ hb (jBook (lai h m) (lnA (lai h m)) (lai h m 341).toNat (jOf h m) 0 3) (p' : Int)) (lai h m 591))) → aw_Md_said_30 (d + 45) Y m B (p : Int) h3 (am_qI (fun x h1 => mDs h h1 m ∧ (lai h m 590 = 0 → x = -1) ∧ (¬ lai h m 590 = 0 → sBits x (lai h m 1) (sFig (lai h m) (jBook (lai h m) (lnA (lai h m)) (lai h m 341).toNat (jOf h m))) (sFre (jBook (lai h m) (lnA (lai h m)) (lai h m 341).toNat (jOf h m))) nl (lai h m 591)))) := by
      refine am_upN _ _ ?_ ?_
      · intro B g
        refine ab_Md_said_30 hY (persK hY (by omega) ?_)
        rw [d1]
        refine ⟨fun _ => ?_, fun z => by omega⟩
        rw [am_qI_s]
        refine ⟨⟨by rw [d4 0 (by omega) (by omega)]; exact z2, d1, d2, fun q a b c => by rw [d3 q a b c, l3 q a b, q1 q a], fun j a b c => by rw [d4 j a b, l4 j b, j1 j c]⟩, fun w => absurd w c, fun _ => ⟨g.1, fun p hp => ?_⟩⟩
        rw [g.2 p hp]
        exact and_congr ⟨fun z => by omega, fun z => by omega⟩ Iff.rfl
      · intro p hp ih B g
        refine ab_Md_said_30 hY (persK hY (by omega) ?_)
        rw [d1]
        refine ⟨fun z => by omega, fun _ => ?_⟩
        refine am_kI.of (ac_m_isSo hY b1 hz3 (p := p) (by omega) ok (by rw [d1]; exact nA) nL nl.length (lai h m 591) 44 t0 (by omega) t1 (by omega)) (by omega) ?_
        rintro x h4 - - ⟨rfl, o⟩
        rw [d1] at o
        refine ⟨fun z => ⟨⟨by omega, by omega⟩, ?_⟩, fun z => ⟨⟨by omega, by omega⟩, ?_⟩⟩
        · refine ih B ⟨g.1, fun p' hp' => ?_⟩
          rw [g.2 p' hp']
          refine ⟨fun w => ⟨by omega, w.2⟩, fun w => ?_⟩
          by_cases e : p' = p
          · subst e
            rcases o with o | o
            · omega
            · exact absurd w.2 o.2
          · exact ⟨by omega, w.2⟩
        · have sb := shl_b (p := p) (by omega)
          refine ih _ ⟨(hb_or8 (k := 0) g.1 sb.1 (by omega)).1, fun p' hp' => ?_⟩
          rw [(hb_or8 (k := p') g.1 sb.1 (by omega)).2, g.2 p' hp', sb.2 p' hp']
          refine ⟨fun w => ?_, fun w => ?_⟩
          · rcases w with w | w
            · exact ⟨by omega, w.2⟩
            · subst w
              rcases o with o | o
              · exact ⟨by omega, o.2⟩
              · exact absurd o.1 z
          · by_cases e : p' = p
            · exact Or.inr e
            · exact Or.inl ⟨by omega, w.2⟩
    exact key 0 (by omega) 0 ⟨by8_0, fun p' hp' => ⟨fun z => absurd z (sh_0 (by omega)), fun z => by omega⟩⟩
  · rw [am_qI_s]
    exact ⟨⟨z2, l1, l2, fun q a b _ => by rw [l3 q a b, q1 q a], fun j _ b c => by rw [l4 j b, j1 j c]⟩, fun _ => rfl, fun w => absurd c w⟩
end
