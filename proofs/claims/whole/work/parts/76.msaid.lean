/-! contracts: the reference: what came of a person; whether a sentence is so -/
section
variable {d : Nat} {Y : am_Y} {h : am_H} {m : Nat} {J : am_H}
theorem ac_m_felt {p : Nat} (hY : am_at Y m am_L12) (hj : jr h m J) (hz : rz (h (m + 2))) (hp : (p : Int) < 8) : am_cI am_Md_felt (d + 1) Y [.inr (.inr m), .inl (p : Int)] h (fun x h1 => h1 = h ∧ x = flr (h (m + 2)) J p (h (m + 2) 1).toNat) := by
  have hz' := hz
  unfold rz at hz'
  have e4 : h (m + 13) = J 4 := hj.2 4 (by omega) (by omega)
  have lp : ∀ n : Nat, n ≤ (h (m + 2) 1).toNat → aw_Md_felt_9 (d + 1) Y m (p : Int) (flr (h (m + 2)) J p n) (n : Int) h (am_qI (fun x h1 => h1 = h ∧ x = flr (h (m + 2)) J p (h (m + 2) 1).toNat)) := by
    refine am_upN _ _ ?_ ?_
    · refine ab_Md_felt_9 hY (persK hY (by omega) ⟨fun _ => ?_, fun z => by omega⟩)
      rw [am_qI_s]
      exact ⟨rfl, rfl⟩
    · intro n hn ih
      refine ab_Md_felt_9 hY (persK hY (by omega) ⟨fun z => by omega, fun _ => ?_⟩)
      refine am_kI.of (ac_m_friendship (d := 0) hY ⟨by omega, by omega⟩ ⟨by omega, by omega⟩) (by omega) ?_
      rintro x h1 - - ⟨rfl, rfl⟩
      refine ⟨⟨by omega, by omega⟩, by decide, ten_rg (w_rg _), ⟨by omega, by omega⟩, ?_⟩
      rw [Int.toNat_natCast, e4, show (95 + 8 * (p : Int) + (n : Int)).toNat = 95 + 8 * p + n by omega]
      exact ih
  refine am_Met.of (by decide) rfl (Nat.le_of_ble_eq_true rfl) (ab_Md_felt_0 hY ⟨⟨by omega, by omega⟩, ?_⟩)
  rw [Int.toNat_natCast, e4]
  exact lp 0 (by omega)
theorem ac_m_cameOf {p : Nat} {w : Int} (hY : am_at Y m am_L12) (hj : jr h m J) (hz : rz (h (m + 2))) (hp : (p : Int) < 8) : am_cI am_Md_cameOf (d + 2) Y [.inr (.inr m), .inl (p : Int), .inl w] h (fun x h1 => h1 = h ∧ x = jFig (h (m + 2)) J p w) := by
  have e4 : h (m + 13) = J 4 := hj.2 4 (by omega) (by omega)
  have e5 : h (m + 14) = J 5 := hj.2 5 (by omega) (by omega)
  have e6 : h (m + 15) = J 6 := hj.2 6 (by omega) (by omega)
  have ey : h m 37 = J 0 4 := hj.1 4 (by omega)
  refine am_Met.of (by decide) rfl (Nat.le_of_ble_eq_true rfl) (ab_Md_cameOf_0 hY ⟨fun w4 => ⟨⟨by omega, by omega⟩, ?_⟩, fun w0 => ⟨⟨by omega, by omega⟩, ?_⟩, fun w1 => ?_, fun w2 => ⟨⟨by omega, by omega⟩, ?_⟩, fun w3 => ?_⟩)
  · rw [am_qI_s, Int.toNat_natCast, e6]
    unfold jFig
    rw [if_neg (by omega), if_neg (by omega), if_neg (by omega), if_neg (by omega)]
    exact ⟨rfl, rfl⟩
  · rw [am_qI_s, Int.toNat_natCast, e4]
    unfold jFig
    rw [if_pos w0]
    exact ⟨rfl, rfl⟩
  · refine am_kI.of (ac_m_felt (d := 0) hY hj hz hp) (by omega) ?_
    rintro x h1 - - ⟨rfl, rfl⟩
    rw [am_qI_s]
    unfold jFig
    rw [if_neg (by omega), if_pos w1]
    exact ⟨rfl, rfl⟩
  · rw [am_qI_s, Int.toNat_natCast, e5]
    unfold jFig
    rw [if_neg (by omega), if_neg (by omega), if_pos w2]
    exact ⟨rfl, rfl⟩
  · refine am_kI.of (ac_m_bondsOf (d := 0) hY hj hz ⟨by omega, hp⟩) (by omega) ?_
    rintro x h1 - - ⟨rfl, rfl⟩
    rw [am_qI_s, ey]
    unfold jFig
    rw [if_neg (by omega), if_neg (by omega), if_neg (by omega), if_pos w3]
    exact ⟨rfl, rfl⟩
theorem ac_m_isSo {p : Nat} {nl : List LN} (hY : am_at Y m am_L12) (hj : jr h m J) (hz : rz (h (m + 2))) (hp : (p : Int) < 8) (ok : sOK nl) (nA : sNA (h (m + 2)) nl) (nL : nl.length ≤ 40) : ∀ (k : Nat) (i : Int) (D : Nat), 0 ≤ i → i < k → i < nl.length → k + 3 ≤ D → am_cI am_Md_isSo D Y [.inr (.inr m), .inl i, .inl (p : Int)] h (fun x h1 => h1 = h ∧ (x = 1 ∧ sEv nl (fun w => jFig (h (m + 2)) J p w) (¬ hb (J 0 3) (p : Int)) k i ∨ x = 0 ∧ ¬ sEv nl (fun w => jFig (h (m + 2)) J p w) (¬ hb (J 0 3) (p : Int)) k i))
  | 0, i, D, h0, h1, _, _ => by omega
  | k + 1, i, D, h0, h1, hl, hD => by
    have ih := fun i D => ac_m_isSo hY hj hz hp ok nA nL k i D
    have ey : h m 37 = J 0 4 := hj.1 4 (by omega)
    have ev : h m 36 = J 0 3 := hj.1 3 (by omega)
    obtain ⟨n, en⟩ : ∃ n, nl[i.toNat]? = some n := ⟨nl[i.toNat]'(by omega), List.getElem?_eq_getElem (by omega)⟩
    obtain ⟨nk, n1, n23, n6⟩ := ok i.toNat n en
    obtain ⟨a1, a2, a3, a4⟩ := nA i.toNat n en
    have es : sEv nl (fun w => jFig (h (m + 2)) J p w) (¬ hb (J 0 3) (p : Int)) (k + 1) i ↔ ((n.1 = 1 ∧ ¬ sEv nl (fun w => jFig (h (m + 2)) J p w) (¬ hb (J 0 3) (p : Int)) k n.2.1) ∨ (n.1 = 2 ∧ sEv nl (fun w => jFig (h (m + 2)) J p w) (¬ hb (J 0 3) (p : Int)) k n.2.1 ∧ sEv nl (fun w => jFig (h (m + 2)) J p w) (¬ hb (J 0 3) (p : Int)) k n.2.2.1) ∨ (n.1 = 3 ∧ (sEv nl (fun w => jFig (h (m + 2)) J p w) (¬ hb (J 0 3) (p : Int)) k n.2.1 ∨ sEv nl (fun w => jFig (h (m + 2)) J p w) (¬ hb (J 0 3) (p : Int)) k n.2.2.1)) ∨ (n.1 = 4 ∧ 0 < jFig (h (m + 2)) J p 3) ∨ (n.1 = 5 ∧ ¬ hb (J 0 3) (p : Int)) ∨ (n.1 = 6 ∧ sCm (jFig (h (m + 2)) J p n.2.1) n.2.2.1 n.2.2.2)) := by
      conv => lhs; unfold sEv
      rw [en]
    rw [es]
    clear es
    refine am_Met.of (by decide) rfl (Nat.le_of_ble_eq_true rfl) (ab_Md_isSo_0 hY ?_)
    rw [show (600 + 4 * i).toNat = 600 + 4 * i.toNat by omega, show (600 + 4 * i + 1).toNat = 600 + 4 * i.toNat + 1 by omega, show (600 + 4 * i + 2).toNat = 600 + 4 * i.toNat + 2 by omega, show (600 + 4 * i + 3).toNat = 600 + 4 * i.toNat + 3 by omega, a1, a2, a3]
    refine ⟨⟨by omega, by omega⟩, ⟨by omega, by omega⟩, ⟨by omega, by omega⟩, ⟨by omega, by omega⟩, ⟨by omega, by omega⟩, ⟨by omega, by omega⟩, ⟨by omega, by omega⟩, fun z => ?_, fun z => ?_, fun z => ?_, fun z => ?_, fun z => ?_, fun z => ?_⟩
    · have z6 : n.1 = 6 := by omega
      refine am_kI.of (ac_m_cameOf (d := 0) hY hj hz hp) (by omega) ?_
      rintro x h1 - - ⟨rfl, rfl⟩
      rw [a4]
      have n6' := n6 z6
      have fin : ∀ v : Int, (v = 1 ∧ sCm (jFig (h1 (m + 2)) J p n.2.1) n.2.2.1 n.2.2.2 ∨ v = 0 ∧ ¬ sCm (jFig (h1 (m + 2)) J p n.2.1) n.2.2.1 n.2.2.2) → am_qI (fun x h2 => h2 = h1 ∧ (x = 1 ∧ ((n.1 = 1 ∧ ¬ sEv nl (fun w => jFig (h1 (m + 2)) J p w) (¬ hb (J 0 3) (p : Int)) k n.2.1) ∨ (n.1 = 2 ∧ sEv nl (fun w => jFig (h1 (m + 2)) J p w) (¬ hb (J 0 3) (p : Int)) k n.2.1 ∧ sEv nl (fun w => jFig (h1 (m + 2)) J p w) (¬ hb (J 0 3) (p : Int)) k n.2.2.1) ∨ (n.1 = 3 ∧ (sEv nl (fun w => jFig (h1 (m + 2)) J p w) (¬ hb (J 0 3) (p : Int)) k n.2.1 ∨ sEv nl (fun w => jFig (h1 (m + 2)) J p w) (¬ hb (J 0 3) (p : Int)) k n.2.2.1)) ∨ (n.1 = 4 ∧ 0 < jFig (h1 (m + 2)) J p 3) ∨ (n.1 = 5 ∧ ¬ hb (J 0 3) (p : Int)) ∨ (n.1 = 6 ∧ sCm (jFig (h1 (m + 2)) J p n.2.1) n.2.2.1 n.2.2.2)) ∨ x = 0 ∧ ¬ ((n.1 = 1 ∧ ¬ sEv nl (fun w => jFig (h1 (m + 2)) J p w) (¬ hb (J 0 3) (p : Int)) k n.2.1) ∨ (n.1 = 2 ∧ sEv nl (fun w => jFig (h1 (m + 2)) J p w) (¬ hb (J 0 3) (p : Int)) k n.2.1 ∧ sEv nl (fun w => jFig (h1 (m + 2)) J p w) (¬ hb (J 0 3) (p : Int)) k n.2.2.1) ∨ (n.1 = 3 ∧ (sEv nl (fun w => jFig (h1 (m + 2)) J p w) (¬ hb (J 0 3) (p : Int)) k n.2.1 ∨ sEv nl (fun w => jFig (h1 (m + 2)) J p w) (¬ hb (J 0 3) (p : Int)) k n.2.2.1)) ∨ (n.1 = 4 ∧ 0 < jFig (h1 (m + 2)) J p 3) ∨ (n.1 = 5 ∧ ¬ hb (J 0 3) (p : Int)) ∨ (n.1 = 6 ∧ sCm (jFig (h1 (m + 2)) J p n.2.1) n.2.2.1 n.2.2.2)))) (some (.inl v)) h1 := by
        intro v hv
        rw [am_qI_s]
        refine ⟨rfl, ?_⟩
        rcases hv with ⟨e, q⟩ | ⟨e, q⟩
        · exact Or.inl ⟨e, Or.inr (Or.inr (Or.inr (Or.inr (Or.inr ⟨z6, q⟩))))⟩
        · refine Or.inr ⟨e, fun w => ?_⟩
          rcases w with w | w | w | w | w | w
          · omega
          · omega
          · omega
          · omega
          · omega
          · exact q w.2
      unfold sCm at fin
      refine ⟨⟨by omega, by omega⟩, ⟨by omega, by omega⟩, fun c60 => ⟨⟨by omega, by omega⟩, ⟨by omega, by omega⟩, fun c61 => ⟨fun q => fin 0 (by omega), fun q => fin 1 (by omega)⟩, fun c61 => ⟨fun q => fin 0 (by omega), fun q => fin 1 (by omega)⟩⟩, fun c60 => ⟨fun q => fin 0 (by omega), fun q => fin 1 (by omega)⟩⟩
    · have w1 := n1 z
      refine am_kI.of (ih n.2.1 (D - 1) w1.1 (by omega) (by omega) (by omega)) (by omega) ?_
      rintro x h1 - - ⟨rfl, o⟩
      refine ⟨fun q => ?_, fun q => ?_⟩
      · rw [am_qI_s]
        refine ⟨rfl, Or.inr ⟨rfl, fun w => ?_⟩⟩
        rcases w with w | w | w | w | w | w
        · rcases o with o | o
          · exact w.2 o.2
          · omega
        all_goals omega
      · rw [am_qI_s]
        refine ⟨rfl, Or.inl ⟨rfl, Or.inl ⟨z, ?_⟩⟩⟩
        rcases o with o | o
        · omega
        · exact o.2
    · have w1 := n23 (Or.inl z)
      refine am_kI.of (ih n.2.1 (D - 1) w1.1 (by omega) (by omega) (by omega)) (by omega) ?_
      rintro x h1 - - ⟨rfl, o⟩
      refine ⟨fun q => ?_, fun q => ?_⟩
      · rw [am_qI_s]
        refine ⟨rfl, Or.inr ⟨rfl, fun w => ?_⟩⟩
        rcases w with w | w | w | w | w | w
        · omega
        · rcases o with o | o
          · omega
          · exact o.2 w.2.1
        all_goals omega
      · refine am_kI.of (ih n.2.2.1 (D - 1) w1.2.2.1 (by omega) (by omega) (by omega)) (by omega) ?_
        rintro x2 h2 - - ⟨rfl, o2⟩
        have o1 : sEv nl (fun w => jFig (h2 (m + 2)) J p w) (¬ hb (J 0 3) (p : Int)) k n.2.1 := by
          rcases o with o | o
          · exact o.2
          · exact absurd o.1 q
        refine ⟨fun q2 => ?_, fun q2 => ?_⟩
        · rw [am_qI_s]
          refine ⟨rfl, Or.inr ⟨rfl, fun w => ?_⟩⟩
          rcases w with w | w | w | w | w | w
          · omega
          · rcases o2 with o2 | o2
            · omega
            · exact o2.2 w.2.2
          all_goals omega
        · rw [am_qI_s]
          refine ⟨rfl, Or.inl ⟨rfl, Or.inr (Or.inl ⟨z, o1, ?_⟩)⟩⟩
          rcases o2 with o2 | o2
          · exact o2.2
          · exact absurd o2.1 q2
    · have w1 := n23 (Or.inr z)
      refine am_kI.of (ih n.2.1 (D - 1) w1.1 (by omega) (by omega) (by omega)) (by omega) ?_
      rintro x h1 - - ⟨rfl, o⟩
      refine ⟨fun q => ?_, fun q => ?_⟩
      · rw [am_qI_s]
        refine ⟨rfl, Or.inl ⟨rfl, Or.inr (Or.inr (Or.inl ⟨z, Or.inl ?_⟩))⟩⟩
        rcases o with o | o
        · exact o.2
        · exact absurd o.1 q
      · refine am_kI.of (ih n.2.2.1 (D - 1) w1.2.2.1 (by omega) (by omega) (by omega)) (by omega) ?_
        rintro x2 h2 - - ⟨rfl, o2⟩
        have o1 : ¬ sEv nl (fun w => jFig (h2 (m + 2)) J p w) (¬ hb (J 0 3) (p : Int)) k n.2.1 := by
          rcases o with o | o
          · omega
          · exact o.2
        refine ⟨fun q2 => ?_, fun q2 => ?_⟩
        · rw [am_qI_s]
          refine ⟨rfl, Or.inr ⟨rfl, fun w => ?_⟩⟩
          rcases w with w | w | w | w | w | w
          · omega
          · omega
          · rcases o2 with o2 | o2
            · omega
            · exact w.2.elim o1 o2.2
          all_goals omega
        · rw [am_qI_s]
          refine ⟨rfl, Or.inl ⟨rfl, Or.inr (Or.inr (Or.inl ⟨z, Or.inr ?_⟩))⟩⟩
          rcases o2 with o2 | o2
          · exact o2.2
          · exact absurd o2.1 q2
    · refine am_kI.of (ac_m_bondsOf (d := 0) hY hj hz ⟨by omega, hp⟩) (by omega) ?_
      rintro x h1 - - ⟨rfl, rfl⟩
      rw [ey]
      have e3 : jFig (h1 (m + 2)) J p 3 = jCnt (h1 (m + 2)) J p (J 0 4) := rfl
      refine ⟨fun q => ?_, fun q => ?_⟩
      · rw [am_qI_s]
        refine ⟨rfl, Or.inr ⟨rfl, fun w => ?_⟩⟩
        rw [e3] at w
        rcases w with w | w | w | w | w | w
        all_goals omega
      · rw [am_qI_s]
        exact ⟨rfl, Or.inl ⟨rfl, Or.inr (Or.inr (Or.inr (Or.inl ⟨z, by rw [e3]; exact q⟩)))⟩⟩
    · rw [ev]
      refine hasK (by omega) ?_
      by_cases c : hb (J 0 3) (p : Int)
      · rw [if_pos c]
        refine ⟨fun _ => ?_, fun q => absurd q (by decide)⟩
        rw [am_qI_s]
        refine ⟨rfl, Or.inr ⟨rfl, fun w => ?_⟩⟩
        rcases w with w | w | w | w | w | w
        · omega
        · omega
        · omega
        · omega
        · exact w.2 c
        · omega
      · rw [if_neg c]
        refine ⟨fun q => absurd rfl q, fun _ => ?_⟩
        rw [am_qI_s]
        exact ⟨rfl, Or.inl ⟨rfl, Or.inr (Or.inr (Or.inr (Or.inr (Or.inl ⟨z, c⟩))))⟩⟩
end
