/-! contracts: the reference's readers of a village's lines -/
section
variable {d : Nat} {Y : am_Y} {h : am_H} {m : Nat} {s : Nat → Int} {n lim : Nat} {r : List TK}
/-- the sizes of a village, as read so far -/
def rz (R : Nat → Int) : Prop := 0 ≤ R 0 ∧ R 0 ≤ 6 ∧ 0 ≤ R 1 ∧ R 1 ≤ 8
/-- what a reader leaves: rows and tokens -/
def rS (h1 : am_H) (m : Nat) (s : Nat → Int) (n lim : Nat) (S : VS) : Prop := h1 (m + 3) = S.1 ∧ h1 (m + 7) = S.2.1 ∧ M0 h1 m s n lim S.2.2
def rL (h : am_H) (m : Nat) (s : Nat → Int) (n lim : Nat) (e : PE VS) (x : Int) (h1 : am_H) : Prop := mFr h h1 m ∧ h1 m 23 = h m 23 ∧ ro h1 m x e (rS h1 m s n lim)
theorem rL.bad {h1 : am_H} {e : PE VS} {q : List TK} {k : Int} (f : mFr h h1 m) (f3 : h1 m 23 = h m 23) (e10 : h1 m 10 = (pq q k).1) (e11 : h1 m 11 = (pq q k).2) (he : e = pb q k) : rL h m s n lim e 0 h1 := by
  subst he
  exact ⟨f, f3, rfl, e10, e11⟩
theorem numK {lo hi : Int} {K : Int → am_H → Prop} (hY : am_at Y m am_L12) (hc : MC h m s n lim) (hr : M0 h m s n lim r) (hd : 2 < d) (hK : ∀ x h1, mFn h h1 m → ro h1 m x (pN r lo hi) (fun a => h1 m 13 = a.1 ∧ M0 h1 m s n lim a.2) → K x h1) : am_kI am_Md_readNumber d Y [.inr (.inr m), .inl lo, .inl hi] h K :=
  am_kI.of (ac_m_readNumber (d := 0) hY hc hr) hd (by
    rintro x h1 - - ⟨a, b⟩
    exact hK x h1 a b)
theorem findK {K : Int → am_H → Prop} (hY : am_at Y m am_L12) (hz : rz (h (m + 3))) (hr : M0 h m s n lim r) (h24 : (hd r).1 = 24) (hd2 : 0 < d) (hK : K (pF (h (m + 3)) (h (m + 7)) (hd r).2.2) h) : am_kI am_Md_findRead d Y [.inr (.inr m)] h K :=
  am_kI.of (ac_m_findRead (d := 0) hY ⟨hz.1, hz.2.1⟩ ⟨hz.2.2.1, hz.2.2.2⟩) hd2 (by
    rintro x h1 - - ⟨rfl, rfl⟩
    rw [(hr.hd.1.2.2.1 (by omega)).2.1]
    exact hK)
theorem pF_rg (R N : Nat → Int) (w : Int) (hz : rz R) : -1 ≤ pF R N w ∧ pF R N w < 14 ∧ (pF R N w < 6 → pF R N w < R 0) ∧ (6 ≤ pF R N w → pF R N w < 6 + R 1) := by
  have a := fnd_rg N w 0 (R 0).toNat
  have b := fnd_rg N w 6 (R 1).toNat
  unfold rz at hz
  unfold pF
  grind
theorem ac_m_readNew {x : Int} (hY : am_at Y m am_L12) (hc : MC h m s n lim) (hr : M0 h m s n lim r) (hz : rz (h (m + 3))) (hx : 0 ≤ x ∧ x < 14) : am_cI am_Md_readNew (d + 3) Y [.inr (.inr m), .inl x] h (rL h m s n lim (pNew (h (m + 3), h (m + 7), r) x)) := by
  refine am_Met.of (by decide) rfl (Nat.le_of_ble_eq_true rfl) (ab_Md_readNew_0 hY (nameK hY hr (by omega) ?_))
  by_cases c : (hd r).1 = 24
  · rw [if_pos c]
    refine ⟨fun _ => findK hY hz hr c (by omega) ⟨fun z => ⟨⟨by omega, by omega⟩, fun h5 e5 => ?_⟩, fun z => badK hY hr (by omega) ?_⟩, fun z => absurd z (by decide)⟩
    · have f5 : mFr h h5 m := e5 ▸ mFr.u7
      have r5 : M0 h5 m s n lim r := hr.but fun j _ _ _ _ => by rw [e5]; exact am_u_o (by omega)
      refine goK hY (hc.fr f5) r5 (by omega) ?_
      intro h6 f6 _ r6
      rw [am_qI_s]
      refine ⟨f5.trans f6.r, ?_, ?_⟩
      · rw [f6.2 23 (by omega), e5]; exact am_u_o (by omega)
      · unfold pNew
        rw [if_pos c, if_pos z]
        refine ⟨rfl, ?_, ?_, r6⟩
        · rw [f6.1 _ (by omega), e5]
          exact am_u_n _ _ _ _ _ (by omega)
        · rw [f6.1 _ (by omega), e5, am_u_up, (hr.hd.1.2.2.1 (by omega)).2.1]
    · intro h1 f1 e10 e11
      refine rL.bad f1.r (f1.2 23 (by omega)) e10 e11 ?_
      unfold pNew
      rw [if_pos c, if_neg z]
  · rw [if_neg c]
    refine ⟨fun z => absurd rfl z, fun _ => badK hY hr (by omega) ?_⟩
    intro h1 f1 e10 e11
    refine rL.bad f1.r (f1.2 23 (by omega)) e10 e11 ?_
    unfold pNew
    rw [if_neg c]
theorem ac_m_readHelpTold (hY : am_at Y m am_L12) (hr : M0 h m s n lim r) (hz : rz (h (m + 3))) : am_cI am_Md_readHelpTold (d + 3) Y [.inr (.inr m)] h (fun x h1 => mFn h h1 m ∧ ro h1 m x (pHT (h (m + 3), h (m + 7), r)) (fun a => h1 m 13 = a ∧ M0 h1 m s n lim r)) := by
  refine am_Met.of (by decide) rfl (Nat.le_of_ble_eq_true rfl) (ab_Md_readHelpTold_0 hY (nameK hY hr (by omega) ?_))
  have hp := pF_rg (h (m + 3)) (h (m + 7)) (hd r).2.2 hz
  by_cases c : (hd r).1 = 24
  · rw [if_pos c]
    refine ⟨fun _ => findK hY hz hr c (by omega) ⟨fun z => badK hY hr (by omega) ?_, fun z => ⟨fun z2 h8 e8 => ?_, fun z2 => badK hY hr (by omega) ?_⟩⟩, fun z => absurd z (by decide)⟩
    · intro h1 f1 e10 e11
      refine ⟨f1, ?_⟩
      unfold pHT
      rw [if_pos c, if_pos (Or.inl z)]
      exact ⟨rfl, e10, e11⟩
    · rw [am_qI_s]
      unfold pHT
      rw [if_pos c, if_neg (by simp only; omega), e8]
      exact ⟨mFn.u, rfl, am_u_s _ _ _ _, hr.but fun j _ _ _ _ => am_u_j (by omega)⟩
    · intro h1 f1 e10 e11
      refine ⟨f1, ?_⟩
      unfold pHT
      rw [if_pos c, if_pos (Or.inr z2)]
      exact ⟨rfl, e10, e11⟩
  · rw [if_neg c]
    refine ⟨fun z => absurd rfl z, fun _ => badK hY hr (by omega) ?_⟩
    intro h1 f1 e10 e11
    refine ⟨f1, ?_⟩
    unfold pHT
    rw [if_neg c]
    exact ⟨rfl, e10, e11⟩
theorem pNum_l {S : VS} {a b j : Int} {q : Int × Int} (e : pN S.2.2 a b = .inl q) : pNum S a b j = .inl q := by
  unfold pNum
  rw [e]
  rfl
theorem pNum_r {S : VS} {a b j : Int} {B : Int × List TK} (e : pN S.2.2 a b = .inr B) : pNum S a b j = .inr (up S.1 j.toNat B.1, S.2.1, B.2) := by
  unfold pNum
  rw [e]
  rfl
theorem pNew_1 {S A : VS} {x : Int} (e : pNew S x = .inr A) : A.1 = S.1 := by
  unfold pNew at e
  split at e
  · split at e
    · cases e; rfl
    · cases e
  · cases e
theorem up_n {R : Nat → Int} {i j : Nat} {x : Int} (hi : i ≠ j) : up R j x i = R i := if_neg hi
theorem up_s (R : Nat → Int) (j : Nat) (x : Int) : up R j x j = x := if_pos rfl
theorem ac_m_readHelp (hY : am_at Y m am_L12) (hc : MC h m s n lim) (hr : M0 h m s n lim r) (hz : rz (h (m + 3))) : am_cI am_Md_readHelp (d + 4) Y [.inr (.inr m)] h (rL h m s n lim (pHelp (h (m + 3), h (m + 7), r))) := by
  have hz' := hz
  unfold rz at hz'
  refine am_Met.of (by decide) rfl (Nat.le_of_ble_eq_true rfl) (ab_Md_readHelp_0 hY ⟨fun c => goK hY hc hr (by omega) ?_, fun c => badK hY hr (by omega) ?_⟩)
  · intro h1 f1 _ r1
    have e3 : h1 (m + 3) = h (m + 3) := f1.1 _ (by omega)
    have e7 : h1 (m + 7) = h (m + 7) := f1.1 _ (by omega)
    refine am_kI.of (ac_m_readNew (d := 0) hY (hc.fr f1.r) r1 (by rw [e3]; exact hz) ⟨by omega, by omega⟩) (by omega) ?_
    rintro x h2 - - ⟨f2, g2, o2⟩
    rw [e3, e7] at o2
    have F2 := f1.r.trans f2
    have G2 : h2 m 23 = h m 23 := g2.trans (f1.2 23 (by omega))
    unfold pHelp
    rw [if_neg (by exact c)]
    cases hA : pNew (h (m + 3), h (m + 7), nx r) (h (m + 3) 0) with
    | inl q =>
      rw [hA] at o2
      obtain ⟨rfl, o3, o4⟩ := o2
      refine ⟨fun _ => ?_, fun z => absurd rfl z⟩
      rw [am_qI_s]
      exact ⟨F2, G2, rfl, o3, o4⟩
    | inr A =>
      rw [hA] at o2
      obtain ⟨rfl, a3, a7, ar⟩ := o2
      refine ⟨fun z => absurd z (by decide), fun _ => numK hY (hc.fr F2) ar (by omega) ?_⟩
      intro x4 h4 f4 o4
      have F4 := F2.trans f4.r
      have G4 : h4 m 23 = h m 23 := (f4.2 23 (by omega)).trans G2
      cases hB : pN A.2.2 1 99 with
      | inl q =>
        rw [hB] at o4
        obtain ⟨rfl, o5, o6⟩ := o4
        refine ⟨fun z => absurd rfl z, fun _ => ?_⟩
        rw [am_qI_s]
        refine ⟨F4, G4, ?_⟩
        show ro h4 m 0 (pbd (pNum A 1 99 (10 + 2 * h (m + 3) 0)) _) _
        rw [pNum_l hB]
        exact ⟨rfl, o5, o6⟩
      | inr B =>
        rw [hB] at o4
        obtain ⟨rfl, o5, br⟩ := o4
        refine ⟨fun _ => ⟨⟨by omega, by omega⟩, ⟨by omega, by omega⟩, ⟨by omega, by omega⟩, fun h6 e6 => ?_⟩, fun z => absurd z (by decide)⟩
        have f6 : mFr h4 h6 m := e6 ▸ mFr.u3
        have F6 := F4.trans f6
        have G6 : h6 m 23 = h m 23 := (by rw [e6]; exact am_u_o (by omega) : h6 m 23 = h4 m 23).trans G4
        have r6 : M0 h6 m s n lim B.2 := br.but fun j _ _ _ _ => by rw [e6]; exact am_u_o (by omega)
        have R6 : h6 (m + 3) = up A.1 (10 + 2 * h (m + 3) 0).toNat B.1 := by rw [e6, am_u_up, f4.1 _ (by omega), a3, o5]
        have N6 : h6 (m + 7) = A.2.1 := by rw [e6, am_u_n _ _ _ _ _ (by omega), f4.1 _ (by omega), a7]
        refine numK hY (hc.fr F6) r6 (by omega) ?_
        intro x7 h7 f7 o7
        have F7 := F6.trans f7.r
        have G7 : h7 m 23 = h m 23 := (f7.2 23 (by omega)).trans G6
        cases hC : pN B.2 0 99 with
        | inl q =>
          rw [hC] at o7
          obtain ⟨rfl, o8, o9⟩ := o7
          refine ⟨fun z => absurd rfl z, fun _ => ?_⟩
          rw [am_qI_s]
          refine ⟨F7, G7, ?_⟩
          show ro h7 m 0 (pbd (pNum A 1 99 (10 + 2 * h (m + 3) 0)) _) _
          rw [pNum_r hB]
          show ro h7 m 0 (pbd (pNum _ 0 99 (10 + 2 * h (m + 3) 0 + 1)) _) _
          rw [pNum_l (by exact hC)]
          exact ⟨rfl, o8, o9⟩
        | inr C =>
          rw [hC] at o7
          obtain ⟨rfl, o8, cr⟩ := o7
          refine ⟨fun _ => ⟨⟨by omega, by omega⟩, ⟨by omega, by omega⟩, ⟨by omega, by omega⟩, ⟨by omega, by omega⟩, fun h9 e9 => ⟨?_, fun h10 e10 => ?_⟩⟩, fun z => absurd z (by decide)⟩
          · rw [e9, am_u_up, f7.1 _ (by omega), R6, up_n (by omega), up_n (by omega), pNew_1 hA]
            exact ⟨by simp only; omega, by simp only; omega⟩
          · rw [am_qI_s]
            have f9 : mFr h7 h9 m := e9 ▸ mFr.u3
            have f10 : mFr h9 h10 m := e10 ▸ mFr.u3
            refine ⟨F7.trans (f9.trans f10), ?_, ?_⟩
            · rw [e10, am_u_o (by omega), e9, am_u_o (by omega), G7]
            · show ro h10 m 1 (pbd (pNum A 1 99 (10 + 2 * h (m + 3) 0)) _) _
              rw [pNum_r hB]
              show ro h10 m 1 (pbd (pNum _ 0 99 (10 + 2 * h (m + 3) 0 + 1)) _) _
              rw [pNum_r (by exact hC)]
              refine ⟨rfl, ?_, ?_, ?_⟩
              · rw [e10, am_u_up, e9, am_u_up, f7.1 _ (by omega), R6, o8]
              · rw [e10, am_u_n _ _ _ _ _ (by omega), e9, am_u_n _ _ _ _ _ (by omega), f7.1 _ (by omega), N6]
              · exact cr.but fun j _ _ _ _ => by rw [e10, am_u_o (by omega), e9, am_u_o (by omega)]
  · intro h1 f1 e10 e11
    refine rL.bad f1.r (f1.2 23 (by omega)) e10 e11 ?_
    unfold pHelp
    rw [if_pos (by exact c)]
end
